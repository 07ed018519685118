theorem lp_inv {T A B : Type} {bot : T} {body : T → T} (ap : T → Nat → A → Option B) (N : Nat) (P : Nat → A → Prop) (Q : B → Prop) {F : Nat} (hs : ∀ k c a, c < N → P c a → ∃ a', ap (body k) c a = ap k (c + 1) a' ∧ P (c + 1) a') (he : ∀ k a, P N a → ∃ b, ap (body k) N a = some b ∧ Q b) (a0 : A) (h0 : P 0 a0) (hF : N < F) : ∃ b, ap (lp bot body F) 0 a0 = some b ∧ Q b := by
  have key : ∀ (d F c : Nat) (a : A), c + d = N → d < F → P c a → ∃ b, ap (lp bot body F) c a = some b ∧ Q b := by
    intro d
    induction d with
    | zero =>
      intro F c a h1 h2 h3
      obtain ⟨F, rfl⟩ : ∃ G, F = G + 1 := ⟨F - 1, by omega⟩
      have : c = N := by omega
      subst this
      exact he _ a h3
    | succ d ih =>
      intro F c a h1 h2 h3
      obtain ⟨F, rfl⟩ : ∃ G, F = G + 1 := ⟨F - 1, by omega⟩
      obtain ⟨a', e1, e2⟩ := hs (lp bot body F) c a (by omega) h3
      show ∃ b, ap (body (lp bot body F)) c a = some b ∧ Q b
      rw [e1]
      exact ih F (c + 1) a' (by omega) (by omega) e2
  exact key N F 0 a0 (by omega) hF h0
theorem it_or_bit {N : Nat} {f : Nat → Int32} (x : Int32) (k : Nat) : bitB (it (fun c a => a ||| f c) N x) k = (bitB x k || anyN N (fun c => bitB (f c) k)) := by
  unfold anyN
  induction N with
  | zero => simp [it]
  | succ N ih =>
    show bitB (it _ N x ||| f N) k = (bitB x k || (it _ N false || bitB (f N) k))
    rw [bit_or, ih, Bool.or_assoc]
theorem anyN_congr {n : Nat} {p q : Nat → Bool} (h : ∀ c, c < n → p c = q c) : anyN n p = anyN n q :=
  it_congr (fun c a hc => by rw [h c hc])
theorem anyN_one {n k : Nat} {p : Nat → Bool} {b : Bool} (hk : k < n) (h : ∀ c, c < n → p c = (decide (c = k) && b)) : anyN n p = b := by
  cases hb : b with
  | true => exact anyN_iff.mpr ⟨k, hk, by rw [h k hk, hb]; simp⟩
  | false =>
    cases ha : anyN n p with
    | false => rfl
    | true =>
      obtain ⟨c, h1, h2⟩ := anyN_iff.mp ha
      rw [h c h1, hb] at h2
      simp at h2
def lso (n : Nat) (r : Co) (q : Int32) (j : Nat) : Bool := decide (r 5 j = q) && (inF r j && !decide (r 7 j ≤ pl n r (r 6 j) q n + r 0 (kg q)))
def lse (n : Nat) (r : Co) (j : Nat) : Bool := inF r j && !decide (r 7 j ≤ pl n r (r 6 j) (r 5 j) n + r 0 (kg (r 5 j)))
def LW (n m : Nat) (r : Co) : Int32 := setN m (lse n r)
theorem x_lw3 {i n m : Nat} {s : SX} (ok : Ok n m (co s i)) (q : Int32) (hq : rng q 6) (hp : ∀ h, h < 6 → gX s i 9 h = pl n (co s i) (nI h) q n) : fX1_looseWordsOf_78 i 400 q 0 0 s = some (setN m (lso n (co s i) q), s) := by
  obtain ⟨hb, hv⟩ := ok.hm
  unfold fX1_looseWordsOf_78
  try simp only [vl_eq]
  refine lp_for (F := 400) (ap := fun (k : Tx Int32 3) c a => k q a (nI c) s) (g := fun c a => if lso n (co s i) q c = true then a ||| bt c else a) m 0 (fun _ _ => True) (fun k c a hc _ => ⟨?_, trivial⟩) (fun k _ => ?_) trivial (by omega)
  · unfold fX1_looseWordsOf_78b
    rw [if_neg (by rw [hv]; exact nI_ge hc (by omega))]
    have hpc : gX s i 9 (kg (gX s i 6 c)) = pl n (co s i) (gX s i 6 c) q n := by
      obtain ⟨e1, e2⟩ := (ok.tr hc).2.1.nI_kg (by decide)
      rw [hp _ e2, e1]
    simp only [ixg_nI (show c < 12 by omega) (by decide), x_isInForce (show c < 12 by omega), ixg_rng hq (Nat.le_refl 6) (by decide), ixg_rng (ok.tr hc).2.1 (Nat.le_refl 6) (by decide), hpc, fX1_looseWordsOf_143, lso, bd_one, b2i_0, vl_eq, ← nI_succ, CO]
    by_cases h1 : gX s i 5 c = q
    · by_cases h2 : ¬ inF (co s i) c = false
      · by_cases h3 : ¬ gX s i 7 c ≤ pl n (co s i) (gX s i 6 c) q n + gX s i 0 (kg q)
        · simp [bt, h1, h2, h3]
        · simp at h3; simp [bt, h1, h2, h3]
      · simp at h2; simp [bt, h1, h2]
    · simp [bt, h1]
  · unfold fX1_looseWordsOf_78b
    rw [if_pos (by rw [hv]; exact nI_le (Nat.le_refl m) (by omega))]
    rfl
theorem pl_s {n : Nat} {r : Co} {h f : Int32} {k : Nat} : pl n r h f (k + 1) = if r 3 k = h ∧ r 2 k = f then pl n r h f k + lossC n r k else pl n r h f k := rfl
theorem nI_inj6 {h : Nat} {x : Int32} (hx : rng x 6) (hh : h < 6) : (x = nI h) = (h = kg x) := by
  obtain ⟨k, hk, rfl⟩ := hx
  rw [kg_nI (by omega)]
  apply propext
  rw [nI_eq (by omega) (by omega)]
  exact ⟨Eq.symm, Eq.symm⟩
theorem x_lw2 {i n m : Nat} {s : SX} (ok : Ok n m (co s i)) (q : Int32) (hq : rng q 6) (hp : ∀ h, h < 6 → gX s i 9 h = 0) : ∃ f, fX1_looseWordsOf_29 i 400 q (setN n (twn (co s i) q)) 0 s = some (setN m (lso n (co s i) q), rX s i 9 f) := by
  obtain ⟨hb, hv⟩ := ok.hn
  unfold fX1_looseWordsOf_29
  have okf : ∀ f, Ok n m (co (rX s i 9 f) i) := fun f => by rw [co_9]; exact ok
  have hr : ∀ f j k, j ≠ 9 → gX (rX s i 9 f) i j k = gX s i j k := fun f j k hj => by rw [gX_rX, if_pos rfl, if_neg hj]
  have h9 : ∀ f, gX (rX s i 9 f) i 9 = f := fun f => by rw [gX_rX, if_pos rfl, if_pos rfl]
  have key := lp_inv (bot := fun _ _ _ _ => none) (body := fX1_looseWordsOf_29b i) (F := 400) (ap := fun (k : Tx Int32 3) c (f : Nat → Int32) => k q (setN n (twn (co s i) q)) (nI c) (rX s i 9 f)) n (fun c f => ∀ h, h < 6 → f h = pl n (co s i) (nI h) q c) (fun b => ∃ f, b = (setN m (lso n (co s i) q), rX s i 9 f)) ?_ ?_ (gX s i 9) (fun h hh => hp h hh) (by omega)
  · obtain ⟨b, e1, f, e2⟩ := key
    rw [rX_self] at e1
    exact ⟨f, by rw [← e2]; exact e1⟩
  · intro k c f hc hP
    have hch := ok.ch hc
    unfold fX1_looseWordsOf_29b
    rw [if_neg (by rw [hr _ _ _ (by decide), hv]; exact nI_ge hc (by omega))]
    simp only [ixg_nI (show c < 14 by omega) (by decide), hr _ 2 _ (by decide), hr _ 3 _ (by decide), ixg_rng hch.2.2.1 (Nat.le_refl 6) (by decide)]
    by_cases h1 : gX s i 2 c = q
    · rw [if_pos h1]
      have e1 := x_lossBeside (okf f) hc
      rw [hr _ 2 _ (by decide), co_9, h1] at e1
      refine ⟨upd f (kg (gX s i 3 c)) (f (kg (gX s i 3 c)) + lossC n (co s i) c), ?_, ?_⟩
      · simp only [e1, bd_one, vl_eq, fX1_looseWordsOf_67, ← nI_succ, h9, wX_rX]
      · intro h hh
        have e2 := nI_inj6 hch.2.2.1 hh
        rw [pl_s]
        simp only [CO, e2, h1, and_true, upd]
        by_cases h2 : h = kg (gX s i 3 c)
        · rw [if_pos h2, if_pos h2, ← h2, hP h hh]
        · rw [if_neg h2, if_neg h2, hP h hh]
    · rw [if_neg h1]
      refine ⟨f, ?_, ?_⟩
      · simp only [vl_eq, fX1_looseWordsOf_67, ← nI_succ]
      · intro h hh
        rw [pl_s]
        simp only [CO, h1, and_false, if_false]
        exact hP h hh
  · intro k f hP
    unfold fX1_looseWordsOf_29b
    rw [if_pos (by rw [hr _ _ _ (by decide), hv]; exact nI_le (Nat.le_refl n) (by omega))]
    simp only [vl_eq]
    have e1 := x_lw3 (okf f) q hq (fun h hh => by rw [h9, co_9]; exact hP h hh)
    rw [co_9] at e1
    exact ⟨_, e1, f, rfl⟩
theorem x_looseWordsOf {i n m : Nat} {s : SX} (ok : Ok n m (co s i)) (q : Int32) (hq : rng q 6) : ∃ f, fX1_looseWordsOf i q s = some (setN m (lso n (co s i) q), rX s i 9 f) := by
  unfold fX1_looseWordsOf fX1_looseWordsOf_2
  simp only [vl_eq]
  have okf : ∀ f, Ok n m (co (rX s i 9 f) i) := fun f => by rw [co_9]; exact ok
  have h9 : ∀ f, gX (rX s i 9 f) i 9 = f := fun f => by rw [gX_rX, if_pos rfl, if_pos rfl]
  have key := lp_inv (bot := fun _ _ _ => none) (body := fX1_looseWordsOf_2b i) (F := 400) (ap := fun (k : Tx Int32 2) c (f : Nat → Int32) => k q (nI c) (rX s i 9 f)) 6 (fun c f => ∀ h, h < c → f h = 0) (fun b => ∃ f, b = (setN m (lso n (co s i) q), rX s i 9 f)) ?_ ?_ (gX s i 9) (fun h hh => absurd hh (Nat.not_lt_zero h)) (by omega)
  · obtain ⟨b, e1, f, e2⟩ := key
    rw [rX_self] at e1
    exact ⟨f, by rw [← e2]; exact e1⟩
  · intro k c f hc hP
    unfold fX1_looseWordsOf_2b
    rw [if_neg (show ¬ (6 : Int32) ≤ nI c from nI_ge (b := 6) hc (by decide))]
    refine ⟨upd f c 0, ?_, ?_⟩
    · simp only [ixg_nI hc (by decide), vl_eq, ← nI_succ, wX_rX]
    · intro h hh
      unfold upd
      by_cases h2 : h = c
      · rw [if_pos h2]
      · rw [if_neg h2]; exact hP h (by omega)
  · intro k f hP
    unfold fX1_looseWordsOf_2b
    rw [if_pos (show (6 : Int32) ≤ nI 6 from nI_le (b := 6) (Nat.le_refl 6) (by decide))]
    simp only [x_twins (okf f), bd_one, vl_eq]
    obtain ⟨f2, e1⟩ := x_lw2 (okf f) q hq (fun h hh => by rw [h9]; exact hP h hh)
    rw [e1, co_9, rX_rX]
    exact ⟨_, rfl, f2, rfl⟩
theorem lw_or {n m : Nat} {r : Co} (ok : Ok n m r) : it (fun k a => a ||| setN m (lso n r (nI k))) 6 0 = LW n m r := by
  apply bit_ext
  intro k hk
  have hm := ok.2.1
  rw [it_or_bit, bit_0, Bool.false_or, LW, setN_bit (by omega)]
  by_cases hkm : k < m
  · obtain ⟨e1, e2⟩ := (ok.2.2.2.2.2.1 k hkm).1.nI_kg (by decide)
    refine anyN_one (k := kg (r 5 k)) e2 (fun c hc => ?_)
    rw [setN_bit (by omega)]
    simp only [hkm, decide_true, Bool.true_and, lso, lse]
    by_cases h : c = kg (r 5 k)
    · subst h
      simp only [e1, decide_true, Bool.true_and]
    · have : ¬ r 5 k = nI c := fun e => h (by rw [e, kg_nI (by omega)])
      simp [this, h]
  · simp only [hkm, decide_false, Bool.false_and]
    have : ∀ c, c < 6 → bitB (setN m (lso n r (nI c))) k = (decide (c = 0) && false) := fun c hc => by
      rw [setN_bit (by omega)]; simp [hkm]
    exact anyN_one (k := 0) (by decide) this
theorem x_looseWords {i n m : Nat} {s : SX} (ok : Ok n m (co s i)) : ∃ f, fX1_looseWords i s = some (LW n m (co s i), rX s i 9 f) := by
  unfold fX1_looseWords fX1_looseWords_4
  simp only [vl_eq]
  have okf : ∀ f, Ok n m (co (rX s i 9 f) i) := fun f => by rw [co_9]; exact ok
  have key := lp_inv (bot := fun _ _ _ => none) (body := fX1_looseWords_4b i) (F := 400) (ap := fun (k : Tx Int32 2) c (a : Int32 × (Nat → Int32)) => k a.1 (nI c) (rX s i 9 a.2)) 6 (fun c a => a.1 = it (fun k a => a ||| setN m (lso n (co s i) (nI k))) c 0) (fun b => ∃ f, b = (LW n m (co s i), rX s i 9 f)) ?_ ?_ (0, gX s i 9) rfl (by omega)
  · obtain ⟨b, e1, f, e2⟩ := key
    rw [rX_self] at e1
    exact ⟨f, by rw [← e2]; exact e1⟩
  · intro k c a hc hP
    unfold fX1_looseWords_4b
    rw [if_neg (show ¬ (6 : Int32) ≤ nI c from nI_ge (b := 6) hc (by decide))]
    obtain ⟨f2, e1⟩ := x_looseWordsOf (okf a.2) (nI c) ⟨c, hc, rfl⟩
    rw [co_9, rX_rX] at e1
    refine ⟨(a.1 ||| setN m (lso n (co s i) (nI c)), f2), ?_, ?_⟩
    · simp only [e1, bd_one, vl_eq, ← nI_succ]
    · show a.1 ||| _ = it _ c 0 ||| _
      rw [hP]
  · intro k a hP
    unfold fX1_looseWords_4b
    rw [if_pos (show (6 : Int32) ≤ nI 6 from nI_le (b := 6) (Nat.le_refl 6) (by decide))]
    exact ⟨_, rfl, a.2, by rw [hP, lw_or ok]⟩
def one (x a b : Int32) : Bool := decide (x = a) || decide (x = b)
theorem x_oneOf {l0 l1 l2 : Int32} {s : SX} : fX1_isOneOf l0 l1 l2 s = some (b2i (one l0 l1 l2), s) := by
  unfold fX1_isOneOf fX1_isOneOf_10 one
  by_cases h1 : l0 = l1
  · simp [h1, b2i]
  · by_cases h2 : l0 = l2
    · simp [h2, b2i]
    · simp [h1, h2, b2i]
def pgn (r : Co) (a b : Int32) (m : Nat) : Int32 := it (fun j g => if inF r j = true ∧ one (r 5 j) a b = true ∧ one (r 6 j) a b = false then g + r 7 j else g) m 0
def pls (n : Nat) (r : Co) (a b : Int32) (x : Int32) (k : Nat) : Int32 := it (fun c g => if one (r 2 c) a b = true ∧ one (r 3 c) a b = false then g + lossC n r c else g) k x
def pays (n m : Nat) (r : Co) (a b : Int32) : Bool := !decide (pgn r a b m ≤ pls n r a b (r 0 (kg a) + r 0 (kg b)) n)
theorem x_pp2 {i n m : Nat} {s : SX} (ok : Ok n m (co s i)) (p q g x : Int32) : fX1_pactPays_87 i 400 p q g x 0 s = some (b2i (!decide (g ≤ pls n (co s i) p q x n)), s) := by
  obtain ⟨hb, hv⟩ := ok.hn
  unfold fX1_pactPays_87
  try simp only [vl_eq]
  refine lp_for (F := 400) (ap := fun (k : Tx Int32 5) c a => k p q g a (nI c) s) (g := fun c a => if one (co s i 2 c) p q = true ∧ one (co s i 3 c) p q = false then a + lossC n (co s i) c else a) n x (fun _ _ => True) (fun k c a hc _ => ⟨?_, trivial⟩) (fun k _ => ?_) trivial (by omega)
  · unfold fX1_pactPays_87b
    rw [if_neg (by rw [hv]; exact nI_ge hc (by omega))]
    simp only [ixg_nI (show c < 14 by omega) (by decide), x_oneOf, x_lossOf ok hc, fX1_pactPays_137, bd_one, b2i_0, vl_eq, ← nI_succ, CO]
    by_cases h1 : ¬ one (gX s i 2 c) p q = false
    · by_cases h2 : one (gX s i 3 c) p q = false
      · simp [h1, h2]
      · simp at h2; simp [h1, h2]
    · simp at h1; simp [h1]
  · unfold fX1_pactPays_87b
    rw [if_pos (by rw [hv]; exact nI_le (Nat.le_refl n) (by omega))]
    show (if g ≤ pls n (co s i) p q x n then _ else _) = _
    by_cases h : g ≤ pls n (co s i) p q x n <;> simp [h, b2i]
theorem x_pp1 {i n m : Nat} {s : SX} (ok : Ok n m (co s i)) (p q : Int32) (hp : rng p 6) (hq : rng q 6) : fX1_pactPays i p q s = some (b2i (pays n m (co s i) p q), s) := by
  obtain ⟨hb, hv⟩ := ok.hm
  unfold fX1_pactPays fX1_pactPays_5
  try simp only [vl_eq]
  refine lp_for (F := 400) (ap := fun (k : Tx Int32 4) c a => k p q a (nI c) s) (g := fun c a => if inF (co s i) c = true ∧ one (co s i 5 c) p q = true ∧ one (co s i 6 c) p q = false then a + co s i 7 c else a) m 0 (fun _ _ => True) (fun k c a hc _ => ⟨?_, trivial⟩) (fun k _ => ?_) trivial (by omega)
  · unfold fX1_pactPays_5b
    rw [if_neg (by rw [hv]; exact nI_ge hc (by omega))]
    simp only [ixg_nI (show c < 12 by omega) (by decide), x_isInForce (show c < 12 by omega), x_oneOf, fX1_pactPays_63, bd_one, b2i_0, vl_eq, ← nI_succ, CO]
    by_cases h0 : ¬ inF (co s i) c = false
    · by_cases h1 : ¬ one (gX s i 5 c) p q = false
      · by_cases h2 : one (gX s i 6 c) p q = false
        · simp [h0, h1, h2]
        · simp at h2; simp [h0, h1, h2]
      · simp at h1; simp [h0, h1]
    · simp at h0; simp [h0]
  · unfold fX1_pactPays_5b
    rw [if_pos (by rw [hv]; exact nI_le (Nat.le_refl m) (by omega))]
    simp only [ixg_rng hp (Nat.le_refl 6) (by decide), ixg_rng hq (Nat.le_refl 6) (by decide), vl_eq, x_pp2 ok]
    rfl
def cst (r : Co) (k : Nat) (x : Int32) : Co := fun j => if j = 10 then upd (r 10) k x else r j
theorem co_w {s : SX} {i k : Nat} {x : Int32} : co (wX s i 10 k x) i = cst (co s i) k x := by
  funext j
  unfold co cst
  by_cases h9 : j = 9
  · subst h9; rfl
  · by_cases h10 : j = 10
    · subst h10
      funext b
      show gX (wX s i 10 k x) i 10 b = upd (gX s i 10) k x b
      simp [gX_wX, upd]
    · funext b
      simp [h9, h10, gX_wX]
theorem cst_cst {r : Co} {k : Nat} {x y : Int32} : cst (cst r k x) k y = cst r k y := by
  funext j b
  unfold cst upd
  by_cases h10 : j = 10
  · subst h10
    by_cases hb : b = k
    · simp [hb]
    · simp [hb]
  · simp [h10]
theorem cst_j {r : Co} {k : Nat} {x : Int32} {j : Nat} (h : j ≠ 10) : cst r k x j = r j := by
  unfold cst; rw [if_neg h]
theorem cst_10 {r : Co} {k : Nat} {x : Int32} (b : Nat) : cst r k x 10 b = if b = k then x else r 10 b := rfl
/-- those whom the words of a set kill -/
def kil (m : Nat) (S : Int32) (r : Co) (c : Nat) : Bool := anyN m (fun j => bitB S j && (decide (r 3 c = r 6 j) && decide (r 2 c = r 5 j)))
def bw (n m : Nat) (S : Int32) (r : Co) : Co := cst (cst r 13 (r 10 13 ||| S)) 12 (r 10 12 ||| setN n (kil m S r))
theorem Ok.cst12 {n m : Nat} {r : Co} {d : Int32} (ok : Ok n m r) (hd : ∀ c, n ≤ c → bitB d c = false) : Ok n m (cst r 12 d) := by
  obtain ⟨a1, a2, a3, a4, a5, a6, a7, a8, a9, a10⟩ := ok
  exact ⟨a1, a2, a3, a4, a5, a6, a7, a8, hd, a10⟩
theorem Ok.cst13 {n m : Nat} {r : Co} {d : Int32} (ok : Ok n m r) (hd : ∀ c, m ≤ c → bitB d c = false) : Ok n m (cst r 13 d) := by
  obtain ⟨a1, a2, a3, a4, a5, a6, a7, a8, a9, a10⟩ := ok
  exact ⟨a1, a2, a3, a4, a5, a6, a7, a8, a9, hd⟩
theorem Ok.cst14 {n m : Nat} {r : Co} {d : Int32} (ok : Ok n m r) (hd : rng d 1000) : Ok n m (cst r 14 d) := by
  obtain ⟨a1, a2, a3, a4, a5, a6, a7, a8, a9, a10⟩ := ok
  exact ⟨a1, a2, a3, a4, a5, a6, a7, hd, a9, a10⟩
theorem Ok.bw {n m : Nat} {r : Co} {S : Int32} (ok : Ok n m r) (hS : ∀ j, m ≤ j → bitB S j = false) : Ok n m (bw n m S r) := by
  have h14 := ok.1
  refine (ok.cst13 (fun c hc => ?_)).cst12 (fun c hc => ?_)
  · rw [bit_or, hS c hc, Bool.or_false]; exact ok.2.2.2.2.2.2.2.2.2 c hc
  · rw [bit_or, setN_bit (by omega)]
    have := ok.2.2.2.2.2.2.2.2.1 c hc
    unfold dead at this
    rw [this]
    simp; omega
theorem LW_hi {n m : Nat} {r : Co} (hm : m ≤ 12) : ∀ j, m ≤ j → bitB (LW n m r) j = false := fun j hj => by
  rw [LW, setN_bit (by omega)]
  simp; omega
theorem anyN_s {m : Nat} {p : Nat → Bool} : anyN (m + 1) p = (anyN m p || p m) := rfl
theorem x_breakWords {i n m : Nat} {s : SX} {S : Int32} (ok : Ok n m (co s i)) (hS : ∀ j, m ≤ j → bitB S j = false) : ∃ s', fX1_breakWords i S s = some ((), s') ∧ co s' i = bw n m S (co s i) ∧ Fr i s s' := by
  obtain ⟨hb, hv⟩ := ok.hm
  have hn := ok.1
  unfold fX1_breakWords fX1_breakWords_12
  simp only [vl_eq]
  have key := lp_inv (bot := fun _ _ _ => none) (body := fX1_breakWords_12b i) (F := 400) (ap := fun (k : Tx Unit 2) c (a : SX) => k S (nI c) a) m (fun c a => co a i = cst (cst (co s i) 13 (co s i 10 13 ||| S)) 12 (co s i 10 12 ||| setN n (kil c S (co s i))) ∧ Fr i s a) (fun b => co b.2 i = bw n m S (co s i) ∧ Fr i s b.2) ?_ ?_ (wX s i 10 13 (gX s i 10 13 ||| S)) ⟨?_, Fr.wX⟩ (by omega)
  · obtain ⟨⟨u, s'⟩, e1, e2, e3⟩ := key
    exact ⟨s', e1, e2, e3⟩
  · intro k c a hc hP
    obtain ⟨hP, hF⟩ := hP
    have oka : Ok n m (co a i) := by
      rw [hP]
      refine (ok.cst13 (fun c hc => ?_)).cst12 (fun c hc => ?_)
      · rw [bit_or, hS c hc, Bool.or_false]; exact ok.2.2.2.2.2.2.2.2.2 c hc
      · rw [bit_or, setN_bit (by omega)]
        have := ok.2.2.2.2.2.2.2.2.1 c hc
        unfold dead at this
        rw [this]
        simp; omega
    have r3 : ∀ j k, j ≠ 10 → j ≠ 9 → gX a i j k = gX s i j k := fun j k h1 h2 => by
      have := congrFun (congrFun hP j) k
      simpa [co, cst, h1, h2] using this
    unfold fX1_breakWords_12b
    rw [if_neg (by rw [oka.hm.2]; exact nI_ge hc (by omega))]
    simp only [bit_code (show c < 32 by omega)]
    by_cases h1 : bitB S c = false
    · rw [if_pos h1]
      refine ⟨a, ?_, ?_, hF⟩
      · simp only [fX1_breakWords_53, vl_eq, ← nI_succ]
      · rw [hP]
        have : setN n (kil (c + 1) S (co s i)) = setN n (kil c S (co s i)) := setN_congr (fun x _ => by unfold kil; rw [anyN_s, h1]; simp)
        rw [this]
    · rw [if_neg h1]
      simp only [ixg_nI (show c < 12 by omega) (by decide), x_heldBy oka, bd_one, vl_eq]
      refine ⟨wX a i 10 12 (gX a i 10 12 ||| setN n (hld (co a i) (gX a i 6 c) (gX a i 5 c))), ?_, ?_, hF.trans Fr.wX⟩
      · simp only [fX1_breakWords_53, vl_eq, ← nI_succ]
      · rw [co_w, hP, cst_cst]
        congr 1
        have e12 : gX a i 10 12 = co s i 10 12 ||| setN n (kil c S (co s i)) := by
          have := congrFun (congrFun hP 10) 12
          simpa [co, cst, upd] using this
        simp only [r3 6 c (by decide) (by decide), r3 5 c (by decide) (by decide), e12]
        simp at h1
        apply bit_ext
        intro x hx
        simp only [bit_or, setN_bit (show n ≤ 32 by omega)]
        by_cases hxn : x < n
        · simp only [hxn, decide_true, Bool.true_and, kil, anyN_s, h1, hld, dead]
          have d12 : cst (cst (co s i) 13 (co s i 10 13 ||| S)) 12 (co s i 10 12 ||| setN n (kil c S (co s i))) 10 12 = co s i 10 12 ||| setN n (kil c S (co s i)) := rfl
          simp only [cst_j (show (3 : Nat) ≠ 10 by decide), cst_j (show (2 : Nat) ≠ 10 by decide), d12, bit_or, setN_bit (show n ≤ 32 by omega), hxn, decide_true, Bool.true_and, kil]
          simp only [CO]
          cases bitB (gX s i 10 12) x <;> cases anyN c (fun j => bitB S j && (decide (gX s i 3 x = gX s i 6 j) && decide (gX s i 2 x = gX s i 5 j))) <;> simp
        · simp [hxn]
  · intro k a hP
    unfold fX1_breakWords_12b
    have : gX a i 10 11 = nI m := by
      have := congrFun (congrFun hP.1 10) 11
      rw [← hv]
      simpa [co, cst, upd] using this
    rw [if_pos (by rw [this]; exact nI_le (Nat.le_refl m) (by omega))]
    exact ⟨_, rfl, hP.1, hP.2⟩
  · rw [co_w]
    have : setN n (kil 0 S (co s i)) = 0 := by
      apply bit_ext
      intro x hx
      rw [setN_bit (by omega), bit_0]
      simp [kil, anyN, it]
    rw [this, Int32.or_zero]
    funext j b
    unfold cst upd
    by_cases h10 : j = 10
    · subst h10
      by_cases hb : b = 12
      · subst hb; simp [CO]
      · simp [hb, CO]
    · simp [h10]
