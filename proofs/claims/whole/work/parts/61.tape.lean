/-! ===== the tape: tokens ===== -/
def letB (x : Int32) : Bool := !decide (x < 97) && !decide (122 < x)
def digB (x : Int32) : Bool := !decide (x < 48) && !decide (57 < x)
theorem x_isLetter (x : Int32) (s : SX) : fX4_isLetter x s = some (b2i (letB x), s) := by
  unfold fX4_isLetter letB
  by_cases h1 : x < 97
  · simp [h1, b2i]
  · by_cases h2 : 122 < x
    · simp [h1, h2, b2i]
    · simp [h1, h2, b2i]
theorem x_isDigit (x : Int32) (s : SX) : fX4_isDigit x s = some (b2i (digB x), s) := by
  unfold fX4_isDigit digB
  by_cases h1 : x < 48
  · simp [h1, b2i]
  · by_cases h2 : 57 < x
    · simp [h1, h2, b2i]
    · simp [h1, h2, b2i]
theorem m_isLetter (x : Int32) (t : SM) : fX6_isLetter x t = some (b2i (letB x), t) := by
  unfold fX6_isLetter letB fX6_in
  by_cases h1 : x < 97
  · rw [if_pos h1, bd_one, gd_pos (by decide)]; simp [h1, b2i]
  · by_cases h2 : 122 < x
    · rw [if_neg h1, if_pos h2, bd_one, gd_pos (by decide)]; simp [h1, h2, b2i]
    · rw [if_neg h1, if_neg h2, bd_one, gd_pos (by decide)]; simp [h1, h2, b2i]
theorem m_isDigit (x : Int32) (t : SM) : fX6_isDigit x t = some (b2i (digB x), t) := by
  unfold fX6_isDigit digB fX6_in
  by_cases h1 : x < 48
  · rw [if_pos h1, bd_one, gd_pos (by decide)]; simp [h1, b2i]
  · by_cases h2 : 57 < x
    · rw [if_neg h1, if_pos h2, bd_one, gd_pos (by decide)]; simp [h1, h2, b2i]
    · rw [if_neg h1, if_neg h2, bd_one, gd_pos (by decide)]; simp [h1, h2, b2i]
theorem run {p : Nat → Bool} {z : Nat} : ∀ k c, c + k = z → ∃ d, c ≤ d ∧ d ≤ z ∧ (∀ j, c ≤ j → j < d → p j = true) ∧ (d = z ∨ p d = false) := by
  intro k
  induction k with
  | zero => intro c h; exact ⟨c, Nat.le_refl c, by omega, fun j h1 h2 => by omega, Or.inl (by omega)⟩
  | succ k ih =>
    intro c h
    cases hp : p c with
    | false => exact ⟨c, Nat.le_refl c, by omega, fun j h1 h2 => by omega, Or.inr hp⟩
    | true =>
      obtain ⟨d, d1, d2, d3, d4⟩ := ih (c + 1) (by omega)
      refine ⟨d, by omega, d2, fun j h1 h2 => ?_, d4⟩
      by_cases e : j = c
      · rw [e]; exact hp
      · exact d3 j (by omega) h2
/-! frames of a token -/
def Fa (s s' : SX) : Prop := (∀ a, a ≠ 8 → gX s' a = gX s a) ∧ gL s' = gL s ∧ gX s' 8 1 = gX s 8 1 ∧ gX s' 8 0 1 = gX s 8 0 1
theorem Fa.rfl' {s : SX} : Fa s s := ⟨fun _ _ => rfl, rfl, rfl, rfl⟩
theorem Fa.trans {s s1 s2 : SX} (h1 : Fa s s1) (h2 : Fa s1 s2) : Fa s s2 := ⟨fun a p => (h2.1 a p).trans (h1.1 a p), h2.2.1.trans h1.2.1, h2.2.2.1.trans h1.2.2.1, h2.2.2.2.trans h1.2.2.2⟩
theorem g8 {s : SX} {k j : Nat} {x : Int32} : gX (wX s 8 0 k x) 8 0 j = if j = k then x else gX s 8 0 j := by
  rw [gX_wX, if_pos rfl, if_pos rfl]
theorem g81 {s : SX} {k : Nat} {x : Int32} : gX (wX s 8 0 k x) 8 1 = gX s 8 1 := by
  funext j; rw [gX_wX, if_pos rfl, if_neg (by decide)]
theorem Fa.w {s a : SX} {k : Nat} {x : Int32} (h : Fa s a) (hk : 2 ≤ k) : Fa s (wX a 8 0 k x) := by
  refine ⟨fun i hi => ?_, h.2.1, g81.trans h.2.2.1, ?_⟩
  · funext j l; rw [gX_wX, if_neg hi, h.1 i hi]
  · rw [g8, if_neg (by omega)]; exact h.2.2.2
def Ma (t t' : SM) : Prop := (∀ j, j ≠ 0 → gM t' j = gM t j) ∧ (∀ k, k ≠ 26 → k ≠ 27 → k ≠ 28 → k ≠ 30 → k ≠ 31 → gM t' 0 k = gM t 0 k) ∧ ∀ j, j ≠ 0 → gN t' j = gN t j
theorem Ma.rfl' {t : SM} : Ma t t := ⟨fun _ _ => rfl, fun _ _ _ _ _ _ => rfl, fun _ _ => rfl⟩
theorem Ma.trans {t t1 t2 : SM} (h1 : Ma t t1) (h2 : Ma t1 t2) : Ma t t2 := ⟨fun a p => (h2.1 a p).trans (h1.1 a p), fun k a b c d e => (h2.2.1 k a b c d e).trans (h1.2.1 k a b c d e), fun a p => (h2.2.2 a p).trans (h1.2.2 a p)⟩
theorem g0 {t : SM} {k j : Nat} {x : Int32} : gM (wM t 0 k x) 0 j = if j = k then x else gM t 0 j := by
  rw [gM_wM, if_pos rfl]
theorem Ma.w {t a : SM} {k : Nat} {x : Int32} (h : Ma t a) (hk : k = 26 ∨ k = 27 ∨ k = 28 ∨ k = 30 ∨ k = 31) : Ma t (wM a 0 k x) := by
  refine ⟨fun j hj => ?_, fun l h1 h2 h3 h4 h5 => ?_, h.2.2⟩
  · funext i; rw [gM_wM, if_neg hj, h.1 j hj]
  · rw [g0, if_neg (by omega)]; exact h.2.1 l h1 h2 h3 h4 h5
theorem Ma.wN {t a : SM} {x : Int64} (h : Ma t a) : Ma t (wN a 0 29 x) := by
  refine ⟨h.1, h.2.1, fun j hj => ?_⟩
  funext i; rw [gN_wN, if_neg hj, h.2.2 j hj]
theorem m_byteAt {t : SM} {z c : Nat} (hz : z ≤ 120) (h : gM t 0 25 = nI z) (hc : c ≤ z) : fX6_byteAt (nI c) t = some (if c < z then gM t 15 c else -1, t) := by
  unfold fX6_byteAt
  rw [h]
  by_cases e : c < z
  · rw [if_neg (nI_ge e (by omega)), ixg_nI (show c < 120 by omega) (by decide), if_pos e]
  · rw [if_pos (nI_le (show z ≤ c by omega) (by omega)), if_neg e]
section Adv
variable {y : Nat → Int32} {z e b e2 : Nat}
theorem x_skip {s : SX} (hz : z ≤ 120) (h1 : gX s 8 0 1 = nI z) (h4 : gX s 8 0 4 = nI e) (hy : gX s 8 1 = y) (hb : e ≤ b) (hbz : b ≤ z) (hs : ∀ j, e ≤ j → j < b → y j = 32) (hn : b = z ∨ y b ≠ 32) : ∃ a, fX4_advance s = fX4_advance_46 a ∧ Fa s a ∧ gX a 8 0 3 = nI b := by
  unfold fX4_advance fX4_advance_8
  rw [vl_eq, h4]
  have key := lp_to (bot := fun _ => none) (body := fX4_advance_8b) (F := 400) (ap := fun (k : Tx Unit 0) _ (a : SX) => k a) (b - e) (fun i a => Fa s a ∧ gX a 8 0 3 = nI (e + i)) fX4_advance_46 ?_ ?_ (wX s 8 0 3 (nI e)) ⟨Fa.rfl'.w (by decide), by rw [g8, if_pos rfl]; rfl⟩ (by omega)
  · obtain ⟨a, ⟨k1, k2⟩, k3⟩ := key
    rw [show e + (b - e) = b by omega] at k2
    exact ⟨a, k3, k1, k2⟩
  · intro k i a hi ⟨q1, q2⟩
    refine ⟨wX a 8 0 3 (nI (e + (i + 1))), ?_, q1.w (by decide), by rw [g8, if_pos rfl]⟩
    show fX4_advance_8b k a = _
    unfold fX4_advance_8b
    rw [q1.2.2.2, h1, q2, if_neg (nI_ge (show e + i < z by omega) (by omega)), ixg_nI (show e + i < 120 by omega) (by decide), q1.2.2.1, hy, if_pos (hs _ (by omega) (by omega)), vl_eq, ← nI_succ]
    rfl
  · intro k a ⟨q1, q2⟩
    rw [show e + (b - e) = b by omega] at q2
    show fX4_advance_8b k a = _
    unfold fX4_advance_8b
    rw [q1.2.2.2, h1, q2]
    by_cases c : b = z
    · rw [if_pos (nI_le (by omega) (by omega))]
    · rw [if_neg (nI_ge (show b < z by omega) (by omega)), ixg_nI (show b < 120 by omega) (by decide), q1.2.2.1, hy, if_neg (by rcases hn with w | w; exact absurd w c; exact w)]
theorem x_word {s : SX} (hz : z ≤ 120) (h1 : gX s 8 0 1 = nI z) (h4 : gX s 8 0 4 = nI b) (hy : gX s 8 1 = y) (hb : b ≤ e2) (hbz : e2 ≤ z) (hs : ∀ j, b ≤ j → j < e2 → letB (y j) = true) (hn : e2 = z ∨ letB (y e2) = false) : ∃ a, fX4_advance_98 400 s = some ((), a) ∧ Fa s a ∧ gX a 8 0 4 = nI e2 ∧ ∀ k, k ≠ 4 → gX a 8 0 k = gX s 8 0 k := by
  unfold fX4_advance_98
  have key := lp_to (bot := fun _ => none) (body := fX4_advance_98b) (F := 400) (ap := fun (k : Tx Unit 0) _ (a : SX) => k a) (e2 - b) (fun i a => Fa s a ∧ gX a 8 0 4 = nI (b + i) ∧ ∀ k, k ≠ 4 → gX a 8 0 k = gX s 8 0 k) (fun a => some ((), a)) ?_ ?_ s ⟨Fa.rfl', h4, fun _ _ => rfl⟩ (by omega)
  · obtain ⟨a, ⟨k1, k2, k3⟩, k4⟩ := key
    rw [show b + (e2 - b) = e2 by omega] at k2
    exact ⟨a, k4, k1, k2, k3⟩
  · intro k i a hi ⟨q1, q2, q3⟩
    refine ⟨wX a 8 0 4 (nI (b + (i + 1))), ?_, q1.w (by decide), by rw [g8, if_pos rfl], fun k hk => by rw [g8, if_neg hk]; exact q3 k hk⟩
    show fX4_advance_98b k a = _
    unfold fX4_advance_98b
    rw [q1.2.2.2, h1, q2, if_neg (nI_ge (show b + i < z by omega) (by omega)), ixg_nI (show b + i < 120 by omega) (by decide), q1.2.2.1, hy, x_isLetter, bd_one, hs _ (by omega) (by omega), if_neg (show ¬ b2i true = 0 by decide), vl_eq, q2, ← nI_succ]
    rfl
  · intro k a ⟨q1, q2, q3⟩
    rw [show b + (e2 - b) = e2 by omega] at q2
    show fX4_advance_98b k a = _
    unfold fX4_advance_98b
    rw [q1.2.2.2, h1, q2]
    by_cases c : e2 = z
    · rw [if_pos (nI_le (by omega) (by omega))]
    · rw [if_neg (nI_ge (show e2 < z by omega) (by omega)), ixg_nI (show e2 < 120 by omega) (by decide), q1.2.2.1, hy, x_isLetter, bd_one]
      rcases hn with w | w
      · exact absurd w c
      · rw [w, if_pos (show b2i false = 0 by decide)]
def dg (y : Nat → Int32) (j : Nat) : Nat := kg (y j) - 48
theorem dig_nI {j : Nat} (h : rng (y j) 256) (hd : digB (y j) = true) : y j = nI (48 + dg y j) ∧ dg y j ≤ 9 := by
  obtain ⟨k, hk, ek⟩ := h
  unfold digB at hd
  simp only [Bool.and_eq_true, Bool.not_eq_true', decide_eq_false_iff_not] at hd
  unfold dg
  rw [ek, kg_nI (by omega)]
  rw [ek] at hd
  have a1 : 48 ≤ k := Nat.le_of_not_lt (fun w => hd.1 (Int32.not_le.mp (nI_ge (a := k) (b := 48) w (by decide))))
  have a2 : k ≤ 57 := Nat.le_of_not_lt (fun w => hd.2 (Int32.not_le.mp (nI_ge (a := 57) (b := k) w (by omega))))
  exact ⟨by congr 1; omega, by omega⟩
def numS (a d : Nat) : Nat := if 1000 < 10 * a + d then 1000 else 10 * a + d
def numN (y : Nat → Int32) (b k : Nat) : Nat := it (fun i a => numS a (dg y (b + i))) k 0
theorem it_s {A : Type} {g : Nat → A → A} {n : Nat} {a : A} : it g (n + 1) a = g n (it g n a) := rfl
theorem numN_s {k : Nat} : numN y b (k + 1) = numS (numN y b k) (dg y (b + k)) := by unfold numN; rw [it_s]
theorem numN_le : ∀ k, numN y b k ≤ 1000 := by
  intro k
  induction k with
  | zero => exact Nat.zero_le _
  | succ k ih => rw [numN_s]; unfold numS; split <;> omega
theorem ten_nI {a d : Nat} : (10 * nI a + nI (48 + d)) - 48 = nI (10 * a + d) := by
  have e : (10 : Int32) * nI a = nI (10 * a) := by
    rw [show (10 : Int32) = nI 10 from rfl]
    unfold nI
    rw [← Int32.ofNat_mul]
  rw [e, nI_add, show (48 : Int32) = nI 48 from rfl, nI_subb (by omega)]
  congr 1; omega
theorem x_num {s : SX} (hz : z ≤ 120) (h1 : gX s 8 0 1 = nI z) (h4 : gX s 8 0 4 = nI b) (h5 : gX s 8 0 5 = 0) (hy : gX s 8 1 = y) (hr : ∀ k, k < z → rng (y k) 256) (hb : b ≤ e2) (hbz : e2 ≤ z) (hs : ∀ j, b ≤ j → j < e2 → digB (y j) = true) (hn : e2 = z ∨ digB (y e2) = false) : ∃ a, fX4_advance_157 400 s = some ((), a) ∧ Fa s a ∧ gX a 8 0 4 = nI e2 ∧ gX a 8 0 5 = nI (numN y b (e2 - b)) ∧ ∀ k, k ≠ 4 → k ≠ 5 → gX a 8 0 k = gX s 8 0 k := by
  unfold fX4_advance_157
  have key := lp_to (bot := fun _ => none) (body := fX4_advance_157b) (F := 400) (ap := fun (k : Tx Unit 0) _ (a : SX) => k a) (e2 - b) (fun i a => Fa s a ∧ gX a 8 0 4 = nI (b + i) ∧ gX a 8 0 5 = nI (numN y b i) ∧ ∀ k, k ≠ 4 → k ≠ 5 → gX a 8 0 k = gX s 8 0 k) (fun a => some ((), a)) ?_ ?_ s ⟨Fa.rfl', h4, h5, fun _ _ _ => rfl⟩ (by omega)
  · obtain ⟨a, ⟨k1, k2, k3, k5⟩, k4⟩ := key
    rw [show b + (e2 - b) = e2 by omega] at k2
    exact ⟨a, k4, k1, k2, k3, k5⟩
  · intro k i a hi ⟨q1, q2, q3, q4⟩
    obtain ⟨d1, d2⟩ := dig_nI (hr (b + i) (by omega)) (hs (b + i) (by omega) (by omega))
    have nl := numN_le (y := y) (b := b) i
    refine ⟨wX (wX a 8 0 5 (nI (numN y b (i + 1)))) 8 0 4 (nI (b + (i + 1))), ?_, (q1.w (by decide)).w (by decide), by rw [g8, if_pos rfl], by rw [g8, if_neg (by decide), g8, if_pos rfl], fun k hk hk5 => by rw [g8, if_neg hk, g8, if_neg hk5]; exact q4 k hk hk5⟩
    show fX4_advance_157b k a = _
    unfold fX4_advance_157b
    have e4 : ∀ x, gX (wX a 8 0 5 x) 8 0 4 = nI (b + i) := fun x => by rw [g8, if_neg (by decide)]; exact q2
    have en : (if 1000 < nI (10 * numN y b i + dg y (b + i)) then (1000 : Int32) else nI (10 * numN y b i + dg y (b + i))) = nI (numN y b (i + 1)) := by
      rw [numN_s]
      unfold numS
      by_cases w : 1000 < 10 * numN y b i + dg y (b + i)
      · rw [if_pos w, if_pos (show (1000 : Int32) < nI (10 * numN y b i + dg y (b + i)) from Int32.not_le.mp (nI_ge (a := 1000) w (by omega)))]; rfl
      · rw [if_neg w, if_neg (show ¬ (1000 : Int32) < nI (10 * numN y b i + dg y (b + i)) from Int32.not_lt.mpr (nI_le (b := 1000) (by omega) (by omega)))]
    rw [q1.2.2.2, h1, q2, if_neg (nI_ge (show b + i < z by omega) (by omega)), ixg_nI (show b + i < 120 by omega) (by decide), q1.2.2.1, hy, x_isDigit, bd_one, hs _ (by omega) (by omega), if_neg (show ¬ b2i true = 0 by decide), q2, ixg_nI (show b + i < 120 by omega) (by decide), q1.2.2.1, hy, q3, d1, ten_nI, en, vl_eq, vl_eq, e4, ← nI_succ]
    rfl
  · intro k a ⟨q1, q2, q3, q4⟩
    rw [show b + (e2 - b) = e2 by omega] at q2
    show fX4_advance_157b k a = _
    unfold fX4_advance_157b
    rw [q1.2.2.2, h1, q2]
    by_cases c : e2 = z
    · rw [if_pos (nI_le (by omega) (by omega))]
    · rw [if_neg (nI_ge (show e2 < z by omega) (by omega)), ixg_nI (show e2 < 120 by omega) (by decide), q1.2.2.1, hy, x_isDigit, bd_one]
      rcases hn with w | w
      · exact absurd w c
      · rw [w, if_pos (show b2i false = 0 by decide)]
end Adv
