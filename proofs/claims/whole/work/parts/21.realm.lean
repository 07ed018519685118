abbrev Tx (α : Type) : Nat → Type
  | 0 => SX → Option (α × SX)
  | n + 1 => Int32 → Tx α n
abbrev Tm (α : Type) : Nat → Type
  | 0 => SM → Option (α × SM)
  | n + 1 => Int32 → Tm α n
/-! ===== courts: a realm's memory without its scratch row ===== -/
abbrev Co : Type := Nat → Nat → Int32
def co (s : SX) (i : Nat) : Co := fun j => if j = 9 then (fun _ => 0) else gX s i j
theorem CO (s : SX) (i : Nat) : co s i 0 = gX s i 0 ∧ co s i 1 = gX s i 1 ∧ co s i 2 = gX s i 2 ∧ co s i 3 = gX s i 3 ∧ co s i 4 = gX s i 4 ∧ co s i 5 = gX s i 5 ∧ co s i 6 = gX s i 6 ∧ co s i 7 = gX s i 7 ∧ co s i 8 = gX s i 8 ∧ co s i 10 = gX s i 10 := ⟨rfl, rfl, rfl, rfl, rfl, rfl, rfl, rfl, rfl, rfl⟩
theorem co_9 (s : SX) (i : Nat) (f : Nat → Int32) : co (rX s i 9 f) i = co s i := by
  funext j
  by_cases h : j = 9
  · subst h; rfl
  · simp [co, h, gX_rX]
/-- only the realm i has changed -/
def Fr (i : Nat) (s s' : SX) : Prop := (∀ a, a ≠ i → gX s' a = gX s a) ∧ gL s' = gL s
theorem Fr.rfl' {i : Nat} {s : SX} : Fr i s s := ⟨fun _ _ => rfl, rfl⟩
theorem Fr.trans {i : Nat} {s s1 s2 : SX} (h1 : Fr i s s1) (h2 : Fr i s1 s2) : Fr i s s2 := ⟨fun a ha => (h2.1 a ha).trans (h1.1 a ha), h2.2.trans h1.2⟩
theorem Fr.rX {i j : Nat} {s : SX} {f : Nat → Int32} : Fr i s (rX s i j f) := ⟨fun a ha => by funext b; rw [gX_rX, if_neg ha], _root_.rfl⟩
theorem Fr.wX {i j k : Nat} {s : SX} {x : Int32} : Fr i s (wX s i j k x) := Fr.rX
def dead (r : Co) (c : Nat) : Bool := bitB (r 10 12) c
def brk (r : Co) (j : Nat) : Bool := bitB (r 10 13) j
def inF (r : Co) (j : Nat) : Bool := !brk r j && decide (r 10 14 ≤ r 8 j)
def twn (r : Co) (f : Int32) (c : Nat) : Bool := decide (r 1 c = 5) && (decide (r 2 c = f) && (decide (r 3 c = f) && !dead r c))
def lossW (tw : Bool) (k w : Int32) : Int32 := if k = 1 then 2 * w else if k = 2 then w / 2 else if k = 3 then 2 * w + 20 else if k = 4 then (if 0 < w / 2 - 5 then w / 2 - 5 else 0) else if k = 5 then (if tw = true then w else 2 * w) else w
def othT (n : Nat) (r : Co) (c : Nat) : Bool := anyN n (fun k => decide (k ≠ c) && twn r (r 2 c) k)
def lossC (n : Nat) (r : Co) (c : Nat) : Int32 := if dead r c = true then 0 else lossW (othT n r c) (r 1 c) (r 4 c)
def Ok (n m : Nat) (r : Co) : Prop := n ≤ 14 ∧ m ≤ 12 ∧ r 10 10 = nI n ∧ r 10 11 = nI m ∧ (∀ c, c < n → rng (r 1 c) 6 ∧ rng (r 2 c) 6 ∧ rng (r 3 c) 6 ∧ rng (r 4 c) 100) ∧ (∀ j, j < m → rng (r 5 j) 6 ∧ rng (r 6 j) 6 ∧ r 5 j ≠ r 6 j ∧ rng (r 7 j) 1000 ∧ rng (r 8 j) 1000) ∧ (∀ k, k < 6 → rng (r 0 k) 100) ∧ rng (r 10 14) 1000 ∧ (∀ c, n ≤ c → dead r c = false) ∧ (∀ j, m ≤ j → brk r j = false)
theorem Ok.hn {n m : Nat} {s : SX} {i : Nat} (ok : Ok n m (co s i)) : n ≤ 14 ∧ gX s i 10 10 = nI n := ⟨ok.1, ok.2.2.1⟩
theorem Ok.hm {n m : Nat} {s : SX} {i : Nat} (ok : Ok n m (co s i)) : m ≤ 12 ∧ gX s i 10 11 = nI m := ⟨ok.2.1, ok.2.2.2.1⟩
theorem Ok.ch {n m : Nat} {s : SX} {i : Nat} (ok : Ok n m (co s i)) {c : Nat} (hc : c < n) : rng (gX s i 1 c) 6 ∧ rng (gX s i 2 c) 6 ∧ rng (gX s i 3 c) 6 ∧ rng (gX s i 4 c) 100 := ok.2.2.2.2.1 c hc
theorem Ok.tr {n m : Nat} {s : SX} {i : Nat} (ok : Ok n m (co s i)) {j : Nat} (hj : j < m) : rng (gX s i 5 j) 6 ∧ rng (gX s i 6 j) 6 ∧ gX s i 5 j ≠ gX s i 6 j ∧ rng (gX s i 7 j) 1000 ∧ rng (gX s i 8 j) 1000 := ok.2.2.2.2.2.1 j hj
theorem x_isDead {i c : Nat} {s : SX} (hc : c < 32) : fX1_isDead i (nI c) s = some (b2i (dead (co s i) c), s) := by
  unfold fX1_isDead dead
  simp only [bit_code hc, CO]
  cases bitB (gX s i 10 12) c <;> rfl
theorem x_isBroken {i j : Nat} {s : SX} (hc : j < 32) : fX1_isBroken i (nI j) s = some (b2i (brk (co s i) j), s) := by
  unfold fX1_isBroken brk
  simp only [bit_code hc, CO]
  cases bitB (gX s i 10 13) j <;> rfl
theorem x_isInForce {i j : Nat} {s : SX} (hc : j < 12) : fX1_isInForce i (nI j) s = some (b2i (inF (co s i) j), s) := by
  unfold fX1_isInForce
  simp only [x_isBroken (show j < 32 by omega), bd_one, b2i_0, ixg_nI hc (by decide)]
  unfold inF
  by_cases h1 : brk (co s i) j = false
  · rw [if_pos h1]
    by_cases h2 : gX s i 8 j < gX s i 10 14
    · rw [if_pos h2]
      have : ¬ gX s i 10 14 ≤ gX s i 8 j := Int32.not_le.mpr h2
      simp [h1, this, b2i, CO]
    · rw [if_neg h2]
      have : gX s i 10 14 ≤ gX s i 8 j := Int32.not_lt.mp h2
      simp [h1, this, b2i, CO]
  · rw [if_neg h1]
    simp at h1
    simp [h1, b2i]
theorem x_twins {i n m : Nat} {s : SX} (ok : Ok n m (co s i)) (f : Int32) : fX1_twinsAtHome i f s = some (setN n (twn (co s i) f), s) := by
  obtain ⟨hb, hv⟩ := ok.hn
  unfold fX1_twinsAtHome fX1_twinsAtHome_4
  try simp only [vl_eq]
  refine lp_for (F := 400) (ap := fun (k : Tx Int32 3) c a => k f a (nI c) s) (g := fun c a => if twn (co s i) f c = true then a ||| bt c else a) n 0 (fun _ _ => True) (fun k c a hc _ => ⟨?_, trivial⟩) (fun k _ => ?_) trivial (by omega)
  · unfold fX1_twinsAtHome_4b
    rw [if_neg (by rw [hv]; exact nI_ge hc (by omega))]
    simp only [ixg_nI (show c < 14 by omega) (by decide), x_isDead (show c < 32 by omega), fX1_twinsAtHome_56, twn, bd_one, b2i_0, vl_eq, ← nI_succ, CO]
    by_cases h1 : gX s i 1 c = 5
    · by_cases h2 : gX s i 2 c = f
      · by_cases h3 : gX s i 3 c = f
        · by_cases h4 : dead (co s i) c = false
          · simp [bt, h1, h2, h3, h4]
          · simp at h4; simp [bt, h1, h2, h3, h4]
        · simp [bt, h1, h2, h3]
      · simp [bt, h1, h2]
    · simp [bt, h1]
  · unfold fX1_twinsAtHome_4b
    rw [if_pos (by rw [hv]; exact nI_le (Nat.le_refl n) (by omega))]
    rfl
def hld (r : Co) (h f : Int32) (c : Nat) : Bool := decide (r 3 c = h) && (decide (r 2 c = f) && !dead r c)
theorem x_heldBy {i n m : Nat} {s : SX} (ok : Ok n m (co s i)) (h f : Int32) : fX1_heldBy i h f s = some (setN n (hld (co s i) h f), s) := by
  obtain ⟨hb, hv⟩ := ok.hn
  unfold fX1_heldBy fX1_heldBy_5
  try simp only [vl_eq]
  refine lp_for (F := 400) (ap := fun (k : Tx Int32 4) c a => k h f a (nI c) s) (g := fun c a => if hld (co s i) h f c = true then a ||| bt c else a) n 0 (fun _ _ => True) (fun k c a hc _ => ⟨?_, trivial⟩) (fun k _ => ?_) trivial (by omega)
  · unfold fX1_heldBy_5b
    rw [if_neg (by rw [hv]; exact nI_ge hc (by omega))]
    simp only [ixg_nI (show c < 14 by omega) (by decide), x_isDead (show c < 32 by omega), fX1_heldBy_52, hld, bd_one, b2i_0, vl_eq, ← nI_succ, CO]
    by_cases h1 : gX s i 3 c = h
    · by_cases h2 : gX s i 2 c = f
      · by_cases h4 : dead (co s i) c = false
        · simp [bt, h1, h2, h4]
        · simp at h4; simp [bt, h1, h2, h4]
      · simp [bt, h1, h2]
    · simp [bt, h1]
  · unfold fX1_heldBy_5b
    rw [if_pos (by rw [hv]; exact nI_le (Nat.le_refl n) (by omega))]
    rfl
def chd (r : Co) (f : Int32) (c : Nat) : Bool := decide (r 2 c = f) && !dead r c
theorem x_childrenOf {i n m : Nat} {s : SX} (ok : Ok n m (co s i)) (f : Int32) : fX1_childrenOf i f s = some (setN n (chd (co s i) f), s) := by
  obtain ⟨hb, hv⟩ := ok.hn
  unfold fX1_childrenOf fX1_childrenOf_4
  try simp only [vl_eq]
  refine lp_for (F := 400) (ap := fun (k : Tx Int32 3) c a => k f a (nI c) s) (g := fun c a => if chd (co s i) f c = true then a ||| bt c else a) n 0 (fun _ _ => True) (fun k c a hc _ => ⟨?_, trivial⟩) (fun k _ => ?_) trivial (by omega)
  · unfold fX1_childrenOf_4b
    rw [if_neg (by rw [hv]; exact nI_ge hc (by omega))]
    simp only [ixg_nI (show c < 14 by omega) (by decide), x_isDead (show c < 32 by omega), fX1_childrenOf_36, chd, bd_one, b2i_0, vl_eq, ← nI_succ, CO]
    by_cases h2 : gX s i 2 c = f
    · by_cases h4 : dead (co s i) c = false
      · simp [bt, h2, h4]
      · simp at h4; simp [bt, h2, h4]
    · simp [bt, h2]
  · unfold fX1_childrenOf_4b
    rw [if_pos (by rw [hv]; exact nI_le (Nat.le_refl n) (by omega))]
    rfl
def hfo (r : Co) (h : Int32) (c : Nat) : Bool := decide (r 3 c = h) && (!decide (r 2 c = h) && !dead r c)
theorem x_heldFromOthers {i n m : Nat} {s : SX} (ok : Ok n m (co s i)) (h : Int32) : fX1_heldFromOthers i h s = some (setN n (hfo (co s i) h), s) := by
  obtain ⟨hb, hv⟩ := ok.hn
  unfold fX1_heldFromOthers fX1_heldFromOthers_4
  try simp only [vl_eq]
  refine lp_for (F := 400) (ap := fun (k : Tx Int32 3) c a => k h a (nI c) s) (g := fun c a => if hfo (co s i) h c = true then a ||| bt c else a) n 0 (fun _ _ => True) (fun k c a hc _ => ⟨?_, trivial⟩) (fun k _ => ?_) trivial (by omega)
  · unfold fX1_heldFromOthers_4b
    rw [if_neg (by rw [hv]; exact nI_ge hc (by omega))]
    simp only [ixg_nI (show c < 14 by omega) (by decide), x_isDead (show c < 32 by omega), fX1_heldFromOthers_46, hfo, bd_one, b2i_0, vl_eq, ← nI_succ, CO]
    by_cases h1 : gX s i 3 c = h
    · by_cases h2 : ¬ gX s i 2 c = h
      · by_cases h4 : dead (co s i) c = false
        · simp [bt, h1, h2, h4]
        · simp at h4; simp [bt, h1, h2, h4]
      · simp at h2; simp [bt, h1, h2]
    · simp [bt, h1]
  · unfold fX1_heldFromOthers_4b
    rw [if_pos (by rw [hv]; exact nI_le (Nat.le_refl n) (by omega))]
    rfl
theorem x_wordsInForce {i n m : Nat} {s : SX} (ok : Ok n m (co s i)) : fX1_wordsInForce i s = some (setN m (inF (co s i)), s) := by
  obtain ⟨hb, hv⟩ := ok.hm
  unfold fX1_wordsInForce fX1_wordsInForce_4
  try simp only [vl_eq]
  refine lp_for (F := 400) (ap := fun (k : Tx Int32 2) c a => k a (nI c) s) (g := fun c a => if inF (co s i) c = true then a ||| bt c else a) m 0 (fun _ _ => True) (fun k c a hc _ => ⟨?_, trivial⟩) (fun k _ => ?_) trivial (by omega)
  · unfold fX1_wordsInForce_4b
    rw [if_neg (by rw [hv]; exact nI_ge hc (by omega))]
    simp only [ixg_nI (show c < 12 by omega) (by decide), x_isInForce (show c < 12 by omega), fX1_wordsInForce_26, bd_one, b2i_0, vl_eq, ← nI_succ, CO]
    by_cases h4 : inF (co s i) c = false
    · simp [bt, h4]
    · simp at h4; simp [bt, h4]
  · unfold fX1_wordsInForce_4b
    rw [if_pos (by rw [hv]; exact nI_le (Nat.le_refl m) (by omega))]
    rfl
def wof (r : Co) (f : Int32) (c : Nat) : Bool := decide (r 5 c = f) && inF r c
theorem x_wordsOf {i n m : Nat} {s : SX} (ok : Ok n m (co s i)) (f : Int32) : fX1_wordsOf i f s = some (setN m (wof (co s i) f), s) := by
  obtain ⟨hb, hv⟩ := ok.hm
  unfold fX1_wordsOf fX1_wordsOf_4
  try simp only [vl_eq]
  refine lp_for (F := 400) (ap := fun (k : Tx Int32 3) c a => k f a (nI c) s) (g := fun c a => if wof (co s i) f c = true then a ||| bt c else a) m 0 (fun _ _ => True) (fun k c a hc _ => ⟨?_, trivial⟩) (fun k _ => ?_) trivial (by omega)
  · unfold fX1_wordsOf_4b
    rw [if_neg (by rw [hv]; exact nI_ge hc (by omega))]
    simp only [ixg_nI (show c < 12 by omega) (by decide), x_isInForce (show c < 12 by omega), fX1_wordsOf_36, wof, bd_one, b2i_0, vl_eq, ← nI_succ, CO]
    by_cases h2 : gX s i 5 c = f
    · by_cases h4 : inF (co s i) c = false
      · simp [bt, h2, h4]
      · simp at h4; simp [bt, h2, h4]
    · simp [bt, h2]
  · unfold fX1_wordsOf_4b
    rw [if_pos (by rw [hv]; exact nI_le (Nat.le_refl m) (by omega))]
    rfl
theorem tw_oth {n c : Nat} {p : Nat → Bool} (hn : n ≤ 32) (hc : c < 32) : ((setN n p &&& (bt c ^^^ (-1))) = 0) = (anyN n (fun k => decide (k ≠ c) && p k) = false) := by
  apply propext
  constructor
  · intro h
    cases ha : anyN n (fun k => decide (k ≠ c) && p k) with
    | false => rfl
    | true =>
      exfalso
      obtain ⟨k, hk, h2⟩ := anyN_iff.mp ha
      simp only [Bool.and_eq_true, decide_eq_true_eq] at h2
      have h3 : bitB (setN n p &&& (bt c ^^^ (-1))) k = true := by
        rw [bit_and, setN_bit hn, bit_not (by omega), bt_bit hc]
        simp [hk, h2.1, h2.2]
      rw [h, bit_0] at h3
      cases h3
  · intro h
    apply bit_ext
    intro k hk
    rw [bit_and, setN_bit hn, bit_not hk, bt_bit hc, bit_0]
    by_cases h1 : k < n ∧ p k = true ∧ k ≠ c
    · have : anyN n (fun k => decide (k ≠ c) && p k) = true := anyN_iff.mpr ⟨k, h1.1, by simp [h1.2.1, h1.2.2]⟩
      rw [h] at this
      cases this
    · by_cases q1 : k < n
      · by_cases q2 : p k = true
        · have q3 : k = c := Classical.byContradiction (fun q3 => h1 ⟨q1, q2, q3⟩)
          simp [q3]
        · simp at q2; simp [q2]
      · simp [q1]
theorem x_lossBeside {i n m c : Nat} {s : SX} (ok : Ok n m (co s i)) (hc : c < n) : fX1_lossBeside i (setN n (twn (co s i) (gX s i 2 c))) (nI c) s = some (lossC n (co s i) c, s) := by
  obtain ⟨hb, hv⟩ := ok.hn
  unfold fX1_lossBeside lossC
  simp only [x_isDead (show c < 32 by omega), bd_one, b2i_0, vl_eq, ixg_nI (show c < 14 by omega) (by decide)]
  by_cases h4 : dead (co s i) c = false
  · have e := tw_oth (p := twn (co s i) (gX s i 2 c)) (show n ≤ 32 by omega) (show c < 32 by omega)
    rw [bt] at e
    simp only [h4, if_true, e]
    unfold lossW othT
    simp only [CO]
    by_cases k1 : gX s i 1 c = 1
    · simp [k1]
    · by_cases k2 : gX s i 1 c = 2
      · simp [k2]
      · by_cases k3 : gX s i 1 c = 3
        · simp [k3]
        · by_cases k4 : gX s i 1 c = 4
          · simp [k4]
          · by_cases k5 : gX s i 1 c = 5
            · cases anyN n (fun k => decide (k ≠ c) && twn (co s i) (gX s i 2 c) k) <;> simp [k5]
            · simp [k1, k2, k3, k4, k5]
  · simp at h4
    simp [h4]
theorem x_lossOf {i n m c : Nat} {s : SX} (ok : Ok n m (co s i)) (hc : c < n) : fX1_lossOf i (nI c) s = some (lossC n (co s i) c, s) := by
  obtain ⟨hb, hv⟩ := ok.hn
  unfold fX1_lossOf
  simp only [ixg_nI (show c < 14 by omega) (by decide), x_twins ok, bd_one, x_lossBeside ok hc]
theorem x_rolled {i n m c : Nat} {s : SX} (ok : Ok n m (co s i)) (hc : c < n) : fX1_rolledHolder i (nI c) s = some (if dead (co s i) c = true then -1 else gX s i 3 c, s) := by
  obtain ⟨hb, hv⟩ := ok.hn
  unfold fX1_rolledHolder
  simp only [ixg_nI (show c < 14 by omega) (by decide), x_isDead (show c < 32 by omega), bd_one, b2i_0]
  cases dead (co s i) c <;> simp
def pl (n : Nat) (r : Co) (h f : Int32) (k : Nat) : Int32 := it (fun c a => if r 3 c = h ∧ r 2 c = f then a + lossC n r c else a) k 0
def abr (n : Nat) (r : Co) : Int32 := it (fun c a => if r 3 c = r 2 c then a else a + lossC n r c) n 0
theorem x_pledgeHeld {i n m : Nat} {s : SX} (ok : Ok n m (co s i)) (h f : Int32) : fX1_pledgeHeld i h f s = some (pl n (co s i) h f n, s) := by
  obtain ⟨hb, hv⟩ := ok.hn
  unfold fX1_pledgeHeld fX1_pledgeHeld_5
  try simp only [vl_eq]
  refine lp_for (F := 400) (ap := fun (k : Tx Int32 4) c a => k h f a (nI c) s) (g := fun c a => if co s i 3 c = h ∧ co s i 2 c = f then a + lossC n (co s i) c else a) n 0 (fun _ _ => True) (fun k c a hc _ => ⟨?_, trivial⟩) (fun k _ => ?_) trivial (by omega)
  · unfold fX1_pledgeHeld_5b
    rw [if_neg (by rw [hv]; exact nI_ge hc (by omega))]
    simp only [ixg_nI (show c < 14 by omega) (by decide), x_lossOf ok hc, fX1_pledgeHeld_45, bd_one, b2i_0, vl_eq, ← nI_succ, CO]
    by_cases h1 : gX s i 3 c = h
    · by_cases h2 : gX s i 2 c = f
      · simp [h1, h2]
      · simp [h1, h2]
    · simp [h1]
  · unfold fX1_pledgeHeld_5b
    rw [if_pos (by rw [hv]; exact nI_le (Nat.le_refl n) (by omega))]
    rfl
theorem x_lossesAbroad {i n m : Nat} {s : SX} (ok : Ok n m (co s i)) : fX1_lossesAbroad i s = some (abr n (co s i), s) := by
  obtain ⟨hb, hv⟩ := ok.hn
  unfold fX1_lossesAbroad fX1_lossesAbroad_4
  try simp only [vl_eq]
  refine lp_for (F := 400) (ap := fun (k : Tx Int32 2) c a => k a (nI c) s) (g := fun c a => if co s i 3 c = co s i 2 c then a else a + lossC n (co s i) c) n 0 (fun _ _ => True) (fun k c a hc _ => ⟨?_, trivial⟩) (fun k _ => ?_) trivial (by omega)
  · unfold fX1_lossesAbroad_4b
    rw [if_neg (by rw [hv]; exact nI_ge hc (by omega))]
    simp only [ixg_nI (show c < 14 by omega) (by decide), x_lossOf ok hc, fX1_lossesAbroad_35, bd_one, b2i_0, vl_eq, ← nI_succ, CO]
    by_cases h1 : gX s i 3 c = gX s i 2 c
    · simp [h1]
    · simp [h1]
  · unfold fX1_lossesAbroad_4b
    rw [if_pos (by rw [hv]; exact nI_le (Nat.le_refl n) (by omega))]
    rfl
theorem x_easeOf {i n m j : Nat} {s : SX} (ok : Ok n m (co s i)) (hj : j < m) : fX1_easeOf i (nI j) s = some (pl n (co s i) (gX s i 6 j) (gX s i 5 j) n + gX s i 0 (kg (gX s i 5 j)) - gX s i 7 j, s) := by
  obtain ⟨hb, hv⟩ := ok.hm
  unfold fX1_easeOf
  simp only [ixg_nI (show j < 12 by omega) (by decide), x_pledgeHeld ok, bd_one, vl_eq, ixg_rng (ok.tr hj).1 (Nat.le_refl 6) (by decide)]
def hw (r : Co) (b t : Int32) (j : Nat) : Bool := decide (r 5 j = b) && (decide (r 6 j = t) && inF r j)
theorem x_hasWord {i n m : Nat} {s : SX} (ok : Ok n m (co s i)) (b t : Int32) : fX1_hasWord i b t s = some (b2i (anyN m (hw (co s i) b t)), s) := by
  obtain ⟨hb, hv⟩ := ok.hm
  unfold fX1_hasWord fX1_hasWord_2
  simp only [vl_eq]
  have hy : ∀ (k : Tx Int32 3) c, c < m → hw (co s i) b t c = true → fX1_hasWord_2b i k b t (nI c) s = some (1, s) := by
    intro k c hc hp
    unfold fX1_hasWord_2b
    rw [if_neg (by rw [hv]; exact nI_ge hc (by omega))]
    simp only [hw, Bool.and_eq_true, decide_eq_true_eq, CO] at hp
    simp only [ixg_nI (show c < 12 by omega) (by decide), x_isInForce (show c < 12 by omega), bd_one, b2i_0, hp.1, hp.2.1, hp.2.2]
    rfl
  have hno : ∀ (k : Tx Int32 3) c, c < m → hw (co s i) b t c = false → fX1_hasWord_2b i k b t (nI c) s = k b t (nI (c + 1)) s := by
    intro k c hc hp
    unfold fX1_hasWord_2b
    rw [if_neg (by rw [hv]; exact nI_ge hc (by omega))]
    simp only [hw, CO] at hp
    simp only [ixg_nI (show c < 12 by omega) (by decide), x_isInForce (show c < 12 by omega), bd_one, b2i_0, fX1_hasWord_40, vl_eq, ← nI_succ]
    by_cases h1 : gX s i 5 c = b
    · by_cases h2 : gX s i 6 c = t
      · simp [h1, h2] at hp
        simp [h1, h2, hp]
      · simp [h1, h2]
    · simp [h1]
  have hen : ∀ (k : Tx Int32 3), fX1_hasWord_2b i k b t (nI m) s = some (0, s) := by
    intro k
    unfold fX1_hasWord_2b
    rw [if_pos (by rw [hv]; exact nI_le (Nat.le_refl m) (by omega))]
  rcases lp_seek (bot := fun _ _ _ _ => none) (body := fX1_hasWord_2b i) (F := 400) (ap := fun (k : Tx Int32 3) c => k b t (nI c) s) (p := hw (co s i) b t) (yes := fun _ => some (1, s)) m hy hno hen 0 (Nat.zero_le _) (by omega) with ⟨c, -, h1, h2, -, h3⟩ | ⟨h1, h3⟩
  · have : anyN m (hw (co s i) b t) = true := anyN_iff.mpr ⟨c, h1, h2⟩
    rw [this]
    exact h3
  · have : anyN m (hw (co s i) b t) = false := by
      cases ha : anyN m (hw (co s i) b t) with
      | false => rfl
      | true =>
        obtain ⟨k, q1, q2⟩ := anyN_iff.mp ha
        rw [h1 k (Nat.zero_le _) q1] at q2
        cases q2
    rw [this]
    exact h3
