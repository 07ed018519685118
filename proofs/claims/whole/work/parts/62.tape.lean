/-! ===== the reference's tokens ===== -/
def wcS (i : Nat) (a : Int64) (x : Int32) : Int64 := if 12 ≤ i then -1 else (27 * a + Int32.toInt64 x) - 96
def wcod (y : Nat → Int32) (b k : Nat) : Int64 := it (fun i a => wcS i a (y (b + i))) k 0
theorem wcod_s {y : Nat → Int32} {b k : Nat} : wcod y b (k + 1) = wcS k (wcod y b k) (y (b + k)) := by unfold wcod; rw [it_s]
section AdvM
variable {y : Nat → Int32} {z e b e2 : Nat}
def mrest (a : SM) : Option (Unit × SM) :=
  vl (wM a 0 28 (gM a 0 27)) fun s4 =>
  bd (fX6_byteAt (gM s4 0 27) s4) fun v5 s6 =>
  vl v5 fun y7 =>
  (if 0 ≤ y7 then
  bd (fX6_isLetter y7 s6) fun v8 s9 =>
  (if v8 = 0 then
  bd (fX6_isDigit y7 s9) fun v10 s11 =>
  (if v10 = 0 then
  fX6_advance_83 y7 3 s11
  else
  fX6_advance_83 y7 2 s11)
  else
  fX6_advance_83 y7 1 s9)
  else
  fX6_advance_83 y7 0 s6)
theorem m_skip {t : SM} (hz : z ≤ 120) (h1 : gM t 0 25 = nI z) (h4 : gM t 0 28 = nI e) (hy : ∀ k, k < z → gM t 15 k = y k) (hb : e ≤ b) (hbz : b ≤ z) (hs : ∀ j, e ≤ j → j < b → y j = 32) (hn : b = z ∨ y b ≠ 32) : ∃ a, fX6_advance t = mrest a ∧ Ma t a ∧ gM a 0 27 = nI b ∧ gM a 0 31 = gM t 0 31 := by
  unfold fX6_advance fX6_advance_8
  rw [vl_eq, h4]
  have key := lp_to (bot := fun _ => none) (body := fX6_advance_8b) (F := 400) (ap := fun (k : Tm Unit 0) _ (a : SM) => k a) (b - e) (fun i a => Ma t a ∧ gM a 0 27 = nI (e + i) ∧ gM a 0 31 = gM t 0 31) mrest ?_ ?_ (wM t 0 27 (nI e)) ⟨Ma.rfl'.w (by decide), by rw [g0, if_pos rfl]; rfl, by rw [g0, if_neg (by decide)]⟩ (by omega)
  · obtain ⟨a, ⟨k1, k2, k4⟩, k3⟩ := key
    rw [show e + (b - e) = b by omega] at k2
    exact ⟨a, k3, k1, k2, k4⟩
  · intro k i a hi ⟨q1, q2, q3⟩
    have e25 : gM a 0 25 = nI z := (q1.2.1 25 (by decide) (by decide) (by decide) (by decide) (by decide)).trans h1
    refine ⟨wM a 0 27 (nI (e + (i + 1))), ?_, q1.w (by decide), by rw [g0, if_pos rfl], by rw [g0, if_neg (by decide)]; exact q3⟩
    show fX6_advance_8b k a = _
    unfold fX6_advance_8b
    rw [q2, m_byteAt hz e25 (by omega), bd_one, if_pos (show e + i < z by omega), q1.1 15 (by decide), hy _ (by omega), if_pos (hs _ (by omega) (by omega)), vl_eq, q2, ← nI_succ]
    rfl
  · intro k a ⟨q1, q2, q3⟩
    rw [show e + (b - e) = b by omega] at q2
    have e25 : gM a 0 25 = nI z := (q1.2.1 25 (by decide) (by decide) (by decide) (by decide) (by decide)).trans h1
    show fX6_advance_8b k a = _
    unfold fX6_advance_8b mrest
    rw [q2, m_byteAt hz e25 hbz, bd_one]
    by_cases c : b = z
    · rw [if_neg (show ¬ b < z by omega), if_neg (show ¬ (-1 : Int32) = 32 by decide), q2]
    · rw [if_pos (show b < z by omega), q1.1 15 (by decide), hy _ (by omega), if_neg (by rcases hn with w | w; exact absurd w c; exact w), q2]
theorem m_207x {t : SM} (h : ¬ gM t 0 26 = 2) : fX6_advance_207 400 t = some ((), t) := by
  show fX6_advance_207b (lp _ _ 399) t = _
  generalize lp _ fX6_advance_207b 399 = kk
  unfold fX6_advance_207b
  rw [if_neg h]
theorem m_126x {t : SM} (h : ¬ gM t 0 26 = 1) : fX6_advance_126 400 t = fX6_advance_207 400 t := by
  show fX6_advance_126b (lp _ _ 399) t = _
  generalize lp _ fX6_advance_126b 399 = kk
  unfold fX6_advance_126b
  rw [if_neg h]
theorem let_neg : letB (-1) = false := by decide
theorem dig_neg : digB (-1) = false := by decide
theorem m_word {t : SM} (hz : z ≤ 120) (h1 : gM t 0 25 = nI z) (h26 : gM t 0 26 = 1) (h27 : gM t 0 27 = nI b) (h4 : gM t 0 28 = nI b) (h29 : gN t 0 29 = 0) (hy : ∀ k, k < z → gM t 15 k = y k) (hb : b ≤ e2) (hbz : e2 ≤ z) (hs : ∀ j, b ≤ j → j < e2 → letB (y j) = true) (hn : e2 = z ∨ letB (y e2) = false) : ∃ a, fX6_advance_126 400 t = some ((), a) ∧ Ma t a ∧ gM a 0 28 = nI e2 ∧ gN a 0 29 = wcod y b (e2 - b) ∧ ∀ k, k ≠ 28 → gM a 0 k = gM t 0 k := by
  unfold fX6_advance_126
  have key := lp_to (bot := fun _ => none) (body := fX6_advance_126b) (F := 400) (ap := fun (k : Tm Unit 0) _ (a : SM) => k a) (e2 - b) (fun i a => Ma t a ∧ gM a 0 28 = nI (b + i) ∧ gN a 0 29 = wcod y b i ∧ ∀ k, k ≠ 28 → gM a 0 k = gM t 0 k) (fun a => some ((), a)) ?_ ?_ t ⟨Ma.rfl', h4, h29, fun _ _ => rfl⟩ (by omega)
  · obtain ⟨a, ⟨k1, k2, k3, k5⟩, k4⟩ := key
    rw [show b + (e2 - b) = e2 by omega] at k2
    exact ⟨a, k4, k1, k2, k3, k5⟩
  · intro k i a hi ⟨q1, q2, q3, q4⟩
    have e25 : gM a 0 25 = nI z := (q4 25 (by decide)).trans h1
    have e26 : gM a 0 26 = 1 := (q4 26 (by decide)).trans h26
    have e27 : gM a 0 27 = nI b := (q4 27 (by decide)).trans h27
    have e28 : ∀ x, gM (wN a 0 29 x) 0 28 = nI (b + i) := fun x => q2
    refine ⟨wM (wN a 0 29 (wcod y b (i + 1))) 0 28 (nI (b + (i + 1))), ?_, q1.wN.w (by decide), by rw [g0, if_pos rfl], ?_, fun k hk => ?_⟩
    · show fX6_advance_126b k a = _
      unfold fX6_advance_126b fX6_advance_191
      rw [e26, if_pos (Eq.refl 1), q2, m_byteAt hz e25 (by omega), bd_one, if_pos (show b + i < z by omega), q1.1 15 (by decide), hy _ (by omega), m_isLetter, bd_one, hs _ (by omega) (by omega), if_neg (show ¬ b2i true = 0 by decide), e27, q2, nI_subb (show b ≤ b + i by omega), show b + i - b = i by omega]
      by_cases c : 12 ≤ i
      · have ew : wcod y b (i + 1) = -1 := by rw [wcod_s]; unfold wcS; rw [if_pos c]
        rw [if_pos (show (12 : Int32) ≤ nI i from nI_le (a := 12) c (by omega)), vl_eq, vl_eq, ew, e28, ← nI_succ]
        rfl
      · have ew : wcod y b (i + 1) = (27 * wcod y b i + Int32.toInt64 (y (b + i))) - 96 := by rw [wcod_s]; unfold wcS; rw [if_neg c]
        rw [if_neg (show ¬ (12 : Int32) ≤ nI i from nI_ge (b := 12) (by omega) (by omega)), m_byteAt hz e25 (by omega), bd_one, if_pos (show b + i < z by omega), q1.1 15 (by decide), hy _ (by omega), q3, vl_eq, vl_eq, ew, e28, ← nI_succ]
        rfl
    · show gN (wN a 0 29 (wcod y b (i + 1))) 0 29 = _
      rw [gN_wN, if_pos rfl, if_pos rfl]
    · rw [g0, if_neg hk]; exact q4 k hk
  · intro k a ⟨q1, q2, q3, q4⟩
    rw [show b + (e2 - b) = e2 by omega] at q2
    have e25 : gM a 0 25 = nI z := (q4 25 (by decide)).trans h1
    have e26 : gM a 0 26 = 1 := (q4 26 (by decide)).trans h26
    show fX6_advance_126b k a = _
    unfold fX6_advance_126b
    rw [e26, if_pos (Eq.refl 1), q2, m_byteAt hz e25 hbz, bd_one, m_isLetter, bd_one]
    have hl : letB (if e2 < z then gM a 15 e2 else -1) = false := by
      by_cases c : e2 = z
      · rw [if_neg (by omega)]; exact let_neg
      · rw [if_pos (show e2 < z by omega), q1.1 15 (by decide), hy _ (by omega)]
        rcases hn with w | w
        · exact absurd w c
        · exact w
    rw [hl, if_pos (show b2i false = 0 by decide), m_207x (by rw [e26]; decide)]
theorem m_num {t : SM} (hz : z ≤ 120) (h1 : gM t 0 25 = nI z) (h26 : gM t 0 26 = 2) (h4 : gM t 0 28 = nI b) (h30 : gM t 0 30 = 0) (hy : ∀ k, k < z → gM t 15 k = y k) (hr : ∀ k, k < z → rng (y k) 256) (hb : b ≤ e2) (hbz : e2 ≤ z) (hs : ∀ j, b ≤ j → j < e2 → digB (y j) = true) (hn : e2 = z ∨ digB (y e2) = false) : ∃ a, fX6_advance_207 400 t = some ((), a) ∧ Ma t a ∧ gM a 0 28 = nI e2 ∧ gM a 0 30 = nI (numN y b (e2 - b)) ∧ ∀ k, k ≠ 28 → k ≠ 30 → gM a 0 k = gM t 0 k := by
  unfold fX6_advance_207
  have key := lp_to (bot := fun _ => none) (body := fX6_advance_207b) (F := 400) (ap := fun (k : Tm Unit 0) _ (a : SM) => k a) (e2 - b) (fun i a => Ma t a ∧ gM a 0 28 = nI (b + i) ∧ gM a 0 30 = nI (numN y b i) ∧ ∀ k, k ≠ 28 → k ≠ 30 → gM a 0 k = gM t 0 k) (fun a => some ((), a)) ?_ ?_ t ⟨Ma.rfl', h4, h30, fun _ _ _ => rfl⟩ (by omega)
  · obtain ⟨a, ⟨k1, k2, k3, k5⟩, k4⟩ := key
    rw [show b + (e2 - b) = e2 by omega] at k2
    exact ⟨a, k4, k1, k2, k3, k5⟩
  · intro k i a hi ⟨q1, q2, q3, q4⟩
    have e25 : gM a 0 25 = nI z := (q4 25 (by decide) (by decide)).trans h1
    have e26 : gM a 0 26 = 2 := (q4 26 (by decide) (by decide)).trans h26
    obtain ⟨d1, d2⟩ := dig_nI (hr (b + i) (by omega)) (hs (b + i) (by omega) (by omega))
    have nl := numN_le (y := y) (b := b) i
    have e28 : ∀ x, gM (wM a 0 30 x) 0 28 = nI (b + i) := fun x => by rw [g0, if_neg (by decide)]; exact q2
    refine ⟨wM (wM a 0 30 (nI (numN y b (i + 1)))) 0 28 (nI (b + (i + 1))), ?_, (q1.w (by decide)).w (by decide), by rw [g0, if_pos rfl], by rw [g0, if_neg (by decide), g0, if_pos rfl], fun k hk hk2 => by rw [g0, if_neg hk, g0, if_neg hk2]; exact q4 k hk hk2⟩
    show fX6_advance_207b k a = _
    unfold fX6_advance_207b fX6_advance_264
    rw [e26, if_pos (Eq.refl 2), q2, m_byteAt hz e25 (by omega), bd_one, if_pos (show b + i < z by omega), q1.1 15 (by decide), hy _ (by omega), m_isDigit, bd_one, hs _ (by omega) (by omega), if_neg (show ¬ b2i true = 0 by decide), q3]
    by_cases c : numN y b i ≤ 99
    · have ew : numN y b (i + 1) = 10 * numN y b i + dg y (b + i) := by rw [numN_s]; unfold numS; rw [if_neg (by omega)]
      rw [if_pos (show nI (numN y b i) ≤ 99 from nI_le (b := 99) c (by omega)), q2, m_byteAt hz e25 (by omega), bd_one, if_pos (show b + i < z by omega), q1.1 15 (by decide), hy _ (by omega), d1, ten_nI, vl_eq, vl_eq, ew, e28, ← nI_succ]
      rfl
    · have ew : numN y b (i + 1) = 1000 := by
        rw [numN_s]; unfold numS
        by_cases w : 1000 < 10 * numN y b i + dg y (b + i)
        · rw [if_pos w]
        · rw [if_neg w]; omega
      rw [if_neg (show ¬ nI (numN y b i) ≤ 99 from nI_ge (a := 99) (by omega) (by omega)), vl_eq, vl_eq, ew, e28, ← nI_succ]
      rfl
  · intro k a ⟨q1, q2, q3, q4⟩
    rw [show b + (e2 - b) = e2 by omega] at q2
    have e25 : gM a 0 25 = nI z := (q4 25 (by decide) (by decide)).trans h1
    have e26 : gM a 0 26 = 2 := (q4 26 (by decide) (by decide)).trans h26
    show fX6_advance_207b k a = _
    unfold fX6_advance_207b
    rw [e26, if_pos (Eq.refl 2), q2, m_byteAt hz e25 hbz, bd_one, m_isDigit, bd_one]
    have hl : digB (if e2 < z then gM a 15 e2 else -1) = false := by
      by_cases c : e2 = z
      · rw [if_neg (by omega)]; exact dig_neg
      · rw [if_pos (show e2 < z by omega), q1.1 15 (by decide), hy _ (by omega)]
        rcases hn with w | w
        · exact absurd w c
        · exact w
    rw [hl, if_pos (show b2i false = 0 by decide)]
end AdvM
/-- both stand at the same token -/
def Tok (y : Nat → Int32) (z : Nat) (s : SX) (t : SM) (b e : Nat) : Prop := gX s 8 0 3 = nI b ∧ gM t 0 27 = nI b ∧ gX s 8 0 4 = nI e ∧ gM t 0 28 = nI e ∧ b ≤ e ∧ e ≤ z ∧
  ((b = z ∧ gX s 8 0 2 = 0 ∧ gM t 0 26 = 0) ∨ (b < e ∧ (∀ j, b ≤ j → j < e → letB (y j) = true) ∧ gX s 8 0 2 = 1 ∧ gM t 0 26 = 1 ∧ gN t 0 29 = wcod y b (e - b)) ∨ (b < e ∧ gX s 8 0 2 = 2 ∧ gM t 0 26 = 2 ∧ ∃ v, v ≤ 1000 ∧ gX s 8 0 5 = nI v ∧ gM t 0 30 = nI v) ∨ (b < e ∧ gX s 8 0 2 = 3 ∧ gM t 0 26 = 3 ∧ gM t 0 30 = 59) ∨ (b < e ∧ gX s 8 0 2 = 4 ∧ gM t 0 26 = 3 ∧ gM t 0 30 ≠ 59))
def Tz (y : Nat → Int32) (z : Nat) (s : SX) (t : SM) : Prop := z ≤ 120 ∧ gX s 8 0 1 = nI z ∧ gM t 0 25 = nI z ∧ gX s 8 1 = y ∧ ∀ k, k < z → gM t 15 k = y k ∧ rng (y k) 256
theorem Tz.fr {y : Nat → Int32} {z : Nat} {s s' : SX} {t t' : SM} (h : Tz y z s t) (h1 : gX s' 8 1 = gX s 8 1) (h2 : gX s' 8 0 1 = gX s 8 0 1) (h3 : gM t' 0 25 = gM t 0 25) (h4 : gM t' 15 = gM t 15) : Tz y z s' t' := by
  unfold Tz; rw [h1, h2, h3, h4]; exact h
theorem Tz.fm {y : Nat → Int32} {z : Nat} {s s' : SX} {t t' : SM} (h : Tz y z s t) (fa : Fa s s') (ma : Ma t t') : Tz y z s' t' := h.fr fa.2.2.1 fa.2.2.2 (ma.2.1 25 (by decide) (by decide) (by decide) (by decide) (by decide)) (ma.1 15 (by decide))
theorem tok_adv {y : Nat → Int32} {z e : Nat} {s : SX} {t : SM} (tz : Tz y z s t) (h4 : gX s 8 0 4 = nI e) (h28 : gM t 0 28 = nI e) (he : e ≤ z) : ∃ s' t' b e2, fX4_advance s = some ((), s') ∧ fX6_advance t = some ((), t') ∧ Fa s s' ∧ Ma t t' ∧ gM t' 0 31 = gM t 0 31 ∧ e ≤ b ∧ Tok y z s' t' b e2 := by
  obtain ⟨hz, z1, z2, z3, z4⟩ := tz
  obtain ⟨b, b1, b2, b3, b4⟩ := run (p := fun j => decide (y j = 32)) (z := z) (z - e) e (by omega)
  have b3' : ∀ j, e ≤ j → j < b → y j = 32 := fun j h1 h2 => by simpa using b3 j h1 h2
  have b4' : b = z ∨ y b ≠ 32 := by
    rcases b4 with w | w
    · exact Or.inl w
    · exact Or.inr (by simpa using w)
  obtain ⟨a, x1, x2, x3⟩ := x_skip hz z1 h4 z3 b1 b2 b3' b4'
  obtain ⟨c, m1, m2, m3, m4⟩ := m_skip hz z2 h28 (fun k hk => (z4 k hk).1) b1 b2 b3' b4'
  rw [x1, m1]
  have ay : gX a 8 1 = y := x2.2.2.1.trans z3
  have az : gX a 8 0 1 = nI z := x2.2.2.2.trans z1
  have cz : gM c 0 25 = nI z := (m2.2.1 25 (by decide) (by decide) (by decide) (by decide) (by decide)).trans z2
  have cy : ∀ k, k < z → gM c 15 k = y k := fun k hk => by rw [m2.1 15 (by decide)]; exact (z4 k hk).1
  have hr : ∀ k, k < z → rng (y k) 256 := fun k hk => (z4 k hk).2
  unfold fX4_advance_46 mrest
  rw [vl_eq, vl_eq, vl_eq, x3, m3]
  generalize hA : wX (wX a 8 0 4 (nI b)) 8 0 5 0 = A
  generalize hC : wM c 0 28 (nI b) = C
  have fA : Fa s A := by rw [← hA]; exact (x2.w (by decide)).w (by decide)
  have A1 : gX A 8 0 1 = nI z := fA.2.2.2.trans z1
  have A8 : gX A 8 1 = y := fA.2.2.1.trans z3
  have A3 : gX A 8 0 3 = nI b := by rw [← hA, g8, if_neg (by decide), g8, if_neg (by decide), x3]
  have A4 : gX A 8 0 4 = nI b := by rw [← hA, g8, if_neg (by decide), g8, if_pos rfl]
  have A5 : gX A 8 0 5 = 0 := by rw [← hA, g8, if_pos rfl]
  have mC : Ma t C := by rw [← hC]; exact m2.w (by decide)
  have C27 : gM C 0 27 = nI b := by rw [← hC, g0, if_neg (by decide), m3]
  have C28 : gM C 0 28 = nI b := by rw [← hC, g0, if_pos rfl]
  have C31 : gM C 0 31 = gM t 0 31 := by rw [← hC, g0, if_neg (by decide), m4]
  have C25 : gM C 0 25 = nI z := by rw [← hC, g0, if_neg (by decide), cz]
  have Cy : ∀ k, k < z → gM C 15 k = y k := fun k hk => by rw [mC.1 15 (by decide)]; exact (z4 k hk).1
  rw [A1, A3, vl_eq C, C27, m_byteAt hz C25 b2, bd_one, vl_eq]
  by_cases hbz : b = z
  · -- the end
    rw [if_neg (show ¬ nI b < nI z by rw [hbz]; exact Int32.not_lt.mpr (nI_le (Nat.le_refl z) (by omega))), if_neg (show ¬ b < z by omega), if_neg (show ¬ (0 : Int32) ≤ -1 by decide)]
    unfold fX6_advance_83 fX6_advance_105
    rw [vl_eq, vl_eq]
    have k26 : gM (wN (wM C 0 26 0) 0 29 0) 0 26 = 0 := by show gM (wM C 0 26 0) 0 26 = 0; rw [g0, if_pos rfl]
    rw [k26, if_neg (show ¬ (0 : Int32) = 2 by decide), vl_eq]
    have k26' : gM (wM (wN (wM C 0 26 0) 0 29 0) 0 30 (-1)) 0 26 = 0 := by rw [g0, if_neg (by decide)]; exact k26
    rw [k26', if_neg (show ¬ (0 : Int32) = 3 by decide), m_126x (by rw [k26']; decide), m_207x (by rw [k26']; decide)]
    have q : ∀ k, k ≠ 26 → k ≠ 30 → gM (wM (wN (wM C 0 26 0) 0 29 0) 0 30 (-1)) 0 k = gM C 0 k := fun k h1 h2 => by
      rw [g0, if_neg h2]
      show gM (wM C 0 26 0) 0 k = _
      rw [g0, if_neg h1]
    refine ⟨_, _, b, b, rfl, rfl, fA.w (by decide), ((mC.w (by decide)).wN).w (by decide), (q 31 (by decide) (by decide)).trans C31, b1, ?_, ?_, ?_, ?_, Nat.le_refl b, by omega, Or.inl ⟨hbz, ?_, k26'⟩⟩
    · rw [g8, if_neg (by decide)]; exact A3
    · rw [q 27 (by decide) (by decide)]; exact C27
    · rw [g8, if_neg (by decide)]; exact A4
    · rw [q 28 (by decide) (by decide)]; exact C28
    · rw [g8, if_pos rfl]
  · have hlt : b < z := by omega
    obtain ⟨yk, hyk, eyk⟩ := hr b hlt
    have ypos : (0 : Int32) ≤ y b := by rw [eyk]; exact Int32.not_lt.mp (nI_pos (by omega))
    rw [if_pos (Int32.not_le.mp (nI_ge hlt (by omega))), ixg_nI (show b < 120 by omega) (by decide), A8, x_isLetter, bd_one, if_pos hlt, Cy b hlt, if_pos ypos, m_isLetter, bd_one]
    cases hL : letB (y b) with
    | true =>
      rw [if_neg (show ¬ b2i true = 0 by decide), if_neg (show ¬ b2i true = 0 by decide), vl_eq]
      obtain ⟨e2, r1, r2, r3, r4⟩ := run (p := fun j => letB (y j)) (z := z) (z - b) b (by omega)
      have rlt : b < e2 := by
        rcases Nat.lt_or_eq_of_le r1 with w | w
        · exact w
        · exfalso
          rcases r4 with w2 | w2
          · omega
          · rw [← w, hL] at w2; cases w2
      have fB : Fa s (wX A 8 0 2 1) := fA.w (by decide)
      obtain ⟨s', p1, p2, p3, p4⟩ := x_word (s := wX A 8 0 2 1) hz (fB.2.2.2.trans z1) (by rw [g8, if_neg (by decide)]; exact A4) (fB.2.2.1.trans z3) r1 r2 r3 r4
      rw [p1]
      unfold fX6_advance_83 fX6_advance_105
      rw [vl_eq, vl_eq]
      have k26 : gM (wN (wM C 0 26 1) 0 29 0) 0 26 = 1 := by show gM (wM C 0 26 1) 0 26 = 1; rw [g0, if_pos rfl]
      rw [k26, if_neg (show ¬ (1 : Int32) = 2 by decide), vl_eq]
      have k26' : gM (wM (wN (wM C 0 26 1) 0 29 0) 0 30 (y b)) 0 26 = 1 := by rw [g0, if_neg (by decide)]; exact k26
      rw [k26', if_neg (show ¬ (1 : Int32) = 3 by decide)]
      have q : ∀ k, k ≠ 26 → k ≠ 30 → gM (wM (wN (wM C 0 26 1) 0 29 0) 0 30 (y b)) 0 k = gM C 0 k := fun k h1 h2 => by
        rw [g0, if_neg h2]
        show gM (wM C 0 26 1) 0 k = _
        rw [g0, if_neg h1]
      have mD : Ma t (wM (wN (wM C 0 26 1) 0 29 0) 0 30 (y b)) := ((mC.w (by decide)).wN).w (by decide)
      obtain ⟨t', n1, n2, n3, n4, n5⟩ := m_word (y := y) (b := b) (e2 := e2) (t := wM (wN (wM C 0 26 1) 0 29 0) 0 30 (y b)) hz ((q 25 (by decide) (by decide)).trans C25) k26' ((q 27 (by decide) (by decide)).trans C27) ((q 28 (by decide) (by decide)).trans C28) (by show gN (wN (wM C 0 26 1) 0 29 0) 0 29 = 0; rw [gN_wN, if_pos rfl, if_pos rfl]) (fun k hk => by rw [mD.1 15 (by decide)]; exact (z4 k hk).1) r1 r2 r3 r4
      refine ⟨s', t', b, e2, rfl, n1, fB.trans p2, mD.trans n2, ?_, b1, ?_, ?_, p3, n3, r1, r2, Or.inr (Or.inl ⟨rlt, r3, ?_, ?_, n4⟩)⟩
      · rw [n5 31 (by decide), q 31 (by decide) (by decide)]; exact C31
      · rw [p4 3 (by decide), g8, if_neg (by decide)]; exact A3
      · rw [n5 27 (by decide), q 27 (by decide) (by decide)]; exact C27
      · rw [p4 2 (by decide), g8, if_pos rfl]
      · rw [n5 26 (by decide)]; exact k26'
    | false =>
      rw [if_pos (show b2i false = 0 by decide), if_pos (show b2i false = 0 by decide), A3, ixg_nI (show b < 120 by omega) (by decide), A8, x_isDigit, bd_one, m_isDigit, bd_one]
      cases hD : digB (y b) with
      | true =>
        rw [if_neg (show ¬ b2i true = 0 by decide), if_neg (show ¬ b2i true = 0 by decide), vl_eq]
        obtain ⟨e2, r1, r2, r3, r4⟩ := run (p := fun j => digB (y j)) (z := z) (z - b) b (by omega)
        have rlt : b < e2 := by
          rcases Nat.lt_or_eq_of_le r1 with w | w
          · exact w
          · exfalso
            rcases r4 with w2 | w2
            · omega
            · rw [← w, hD] at w2; cases w2
        have fB : Fa s (wX A 8 0 2 2) := fA.w (by decide)
        obtain ⟨s', p1, p2, p3, p5, p4⟩ := x_num (s := wX A 8 0 2 2) hz (fB.2.2.2.trans z1) (by rw [g8, if_neg (by decide)]; exact A4) (by rw [g8, if_neg (by decide)]; exact A5) (fB.2.2.1.trans z3) hr r1 r2 r3 r4
        rw [p1]
        unfold fX6_advance_83 fX6_advance_105
        rw [vl_eq, vl_eq]
        have k26 : gM (wN (wM C 0 26 2) 0 29 0) 0 26 = 2 := by show gM (wM C 0 26 2) 0 26 = 2; rw [g0, if_pos rfl]
        rw [k26, if_pos (Eq.refl (2 : Int32)), vl_eq]
        have k26' : gM (wM (wN (wM C 0 26 2) 0 29 0) 0 30 0) 0 26 = 2 := by rw [g0, if_neg (by decide)]; exact k26
        rw [k26', if_neg (show ¬ (2 : Int32) = 3 by decide), m_126x (by rw [k26']; decide)]
        have q : ∀ k, k ≠ 26 → k ≠ 30 → gM (wM (wN (wM C 0 26 2) 0 29 0) 0 30 0) 0 k = gM C 0 k := fun k h1 h2 => by
          rw [g0, if_neg h2]
          show gM (wM C 0 26 2) 0 k = _
          rw [g0, if_neg h1]
        have mD : Ma t (wM (wN (wM C 0 26 2) 0 29 0) 0 30 0) := ((mC.w (by decide)).wN).w (by decide)
        obtain ⟨t', n1, n2, n3, n4, n5⟩ := m_num (y := y) (b := b) (e2 := e2) (t := wM (wN (wM C 0 26 2) 0 29 0) 0 30 0) hz ((q 25 (by decide) (by decide)).trans C25) k26' ((q 28 (by decide) (by decide)).trans C28) (by rw [g0, if_pos rfl]) (fun k hk => by rw [mD.1 15 (by decide)]; exact (z4 k hk).1) hr r1 r2 r3 r4
        refine ⟨s', t', b, e2, rfl, n1, fB.trans p2, mD.trans n2, ?_, b1, ?_, ?_, p3, n3, r1, r2, Or.inr (Or.inr (Or.inl ⟨rlt, ?_, ?_, _, numN_le _, p5, n4⟩))⟩
        · rw [n5 31 (by decide) (by decide), q 31 (by decide) (by decide)]; exact C31
        · rw [p4 3 (by decide) (by decide), g8, if_neg (by decide)]; exact A3
        · rw [n5 27 (by decide) (by decide), q 27 (by decide) (by decide)]; exact C27
        · rw [p4 2 (by decide) (by decide), g8, if_pos rfl]
        · rw [n5 26 (by decide) (by decide)]; exact k26'
      | false =>
        rw [if_pos (show b2i false = 0 by decide), if_pos (show b2i false = 0 by decide), A3, ixg_nI (show b < 120 by omega) (by decide), A8]
        unfold fX6_advance_83 fX6_advance_105
        rw [vl_eq, vl_eq]
        have k26 : gM (wN (wM C 0 26 3) 0 29 0) 0 26 = 3 := by show gM (wM C 0 26 3) 0 26 = 3; rw [g0, if_pos rfl]
        rw [k26, if_neg (show ¬ (3 : Int32) = 2 by decide), vl_eq]
        have k26' : gM (wM (wN (wM C 0 26 3) 0 29 0) 0 30 (y b)) 0 26 = 3 := by rw [g0, if_neg (by decide)]; exact k26
        rw [k26', if_pos (Eq.refl (3 : Int32)), vl_eq]
        have q : ∀ k, k ≠ 26 → k ≠ 30 → gM (wM (wN (wM C 0 26 3) 0 29 0) 0 30 (y b)) 0 k = gM C 0 k := fun k h1 h2 => by
          rw [g0, if_neg h2]
          show gM (wM C 0 26 3) 0 k = _
          rw [g0, if_neg h1]
        rw [q 28 (by decide) (by decide), C28, ← nI_succ]
        have mD : Ma t (wM (wM (wN (wM C 0 26 3) 0 29 0) 0 30 (y b)) 0 28 (nI (b + 1))) := (((mC.w (by decide)).wN).w (by decide)).w (by decide)
        have k26'' : gM (wM (wM (wN (wM C 0 26 3) 0 29 0) 0 30 (y b)) 0 28 (nI (b + 1))) 0 26 = 3 := by rw [g0, if_neg (by decide)]; exact k26'
        have q2 : ∀ k, k ≠ 26 → k ≠ 30 → k ≠ 28 → gM (wM (wM (wN (wM C 0 26 3) 0 29 0) 0 30 (y b)) 0 28 (nI (b + 1))) 0 k = gM C 0 k := fun k h1 h2 h3 => by
          rw [g0, if_neg h3]; exact q k h1 h2
        rw [m_126x (by rw [k26'']; decide), m_207x (by rw [k26'']; decide)]
        have fin : ∀ kd : Int32, fX4_advance_246 kd A = some ((), wX (wX A 8 0 2 kd) 8 0 4 (nI (b + 1))) := fun kd => by
          unfold fX4_advance_246
          rw [vl_eq, vl_eq, g8, if_neg (by decide), A3, ← nI_succ]
        have cl : ∀ kd : Int32, ((kd = 3 ∧ y b = 59) ∨ (kd = 4 ∧ y b ≠ 59)) → Tok y z (wX (wX A 8 0 2 kd) 8 0 4 (nI (b + 1))) (wM (wM (wN (wM C 0 26 3) 0 29 0) 0 30 (y b)) 0 28 (nI (b + 1))) b (b + 1) := by
          intro kd hk
          have g2 : gX (wX (wX A 8 0 2 kd) 8 0 4 (nI (b + 1))) 8 0 2 = kd := by rw [g8, if_neg (by decide), g8, if_pos rfl]
          have g30 : gM (wM (wM (wN (wM C 0 26 3) 0 29 0) 0 30 (y b)) 0 28 (nI (b + 1))) 0 30 = y b := by rw [g0, if_neg (by decide), g0, if_pos rfl]
          refine ⟨?_, (q2 27 (by decide) (by decide) (by decide)).trans C27, by rw [g8, if_pos rfl], by rw [g0, if_pos rfl], by omega, by omega, ?_⟩
          · rw [g8, if_neg (by decide), g8, if_neg (by decide)]; exact A3
          · rcases hk with ⟨h1, h2⟩ | ⟨h1, h2⟩
            · exact Or.inr (Or.inr (Or.inr (Or.inl ⟨by omega, g2.trans h1, k26'', g30.trans h2⟩)))
            · exact Or.inr (Or.inr (Or.inr (Or.inr ⟨by omega, g2.trans h1, k26'', by rw [g30]; exact h2⟩)))
        by_cases h59 : y b = 59
        · rw [if_pos h59, fin]
          exact ⟨_, _, b, b + 1, rfl, rfl, (fA.w (by decide)).w (by decide), mD, (q2 31 (by decide) (by decide) (by decide)).trans C31, b1, cl 3 (Or.inl ⟨rfl, h59⟩)⟩
        · rw [if_neg h59, fin]
          exact ⟨_, _, b, b + 1, rfl, rfl, (fA.w (by decide)).w (by decide), mD, (q2 31 (by decide) (by decide) (by decide)).trans C31, b1, cl 4 (Or.inr ⟨rfl, h59⟩)⟩
