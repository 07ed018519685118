/-! ===== the planner ===== -/
def Fp (s0 s : SX) : Prop := (∀ a, a ≠ 3 → a ≠ 6 → gX s a = gX s0 a) ∧ gL s = gL s0
theorem Fp.rfl' {s : SX} : Fp s s := ⟨fun _ _ _ => rfl, rfl⟩
theorem Fp.trans {s s1 s2 : SX} (h1 : Fp s s1) (h2 : Fp s1 s2) : Fp s s2 := ⟨fun a p q => (h2.1 a p q).trans (h1.1 a p q), h2.2.trans h1.2⟩
theorem Fr.Fp {i : Nat} {s s' : SX} (h : Fr i s s') (hi : i = 3 ∨ i = 6) : Fp s s' := ⟨fun a p q => h.1 a (by omega), h.2⟩
theorem fp_co {s0 s : SX} (h : Fp s0 s) {i : Nat} (h3 : i ≠ 3) (h6 : i ≠ 6) : co s i = co s0 i := by
  unfold co; rw [h.1 i h3 h6]
theorem x_isMove {s : SX} {n m p : Nat} {r : Co} (ok : Ok n m r) (e : co s 0 = r) (hp : p < 6 * n) : fX0_isMove (nI p) s = some (b2i (mv r p), s) := by
  have hn := ok.1
  obtain ⟨d1, d2⟩ := div6 p (by omega)
  have e3 : gX s 0 3 (p / 6) = r 3 (p / 6) := by rw [← e]; rfl
  unfold fX0_isMove mv
  rw [d2, d1, vl_eq, x_isDead (show p / 6 < 32 by omega), bd_one, ixg_nI (show p / 6 < 14 by omega) (by decide), e, e3]
  simp only [b2i_0]
  cases hd : dead r (p / 6) with
  | true => rw [if_neg (by decide)]; rfl
  | false =>
    rw [if_pos rfl]
    by_cases h : r 3 (p / 6) = nI (p % 6)
    · rw [if_pos h]; simp [h, b2i]
    · rw [if_neg h]; simp [h, b2i]
theorem x_try {s : SX} {n m c d f g : Nat} {r r1 : Co} {x : Int32} (hc : c < n) (hd : d < n) (ok1 : Ok n m r1) (e3 : co s 3 = r1) (hx : rng x 6) (hf : f < 6) (hg : g < 6) (ef : r1 2 c = nI f) (eg : r1 2 d = nI g) (eK : gX s 6 0 1 = LK n m r) (hs : ∀ q, q < 6 → q ≠ f → q ≠ g → ls n m (crw r1 3 d x) q = ls n m r q) :
    (LW n m (crw r1 3 d x) = 0 ∧ fX0_mayMend (nI c) (nI d) s = some (1, s) ∧ ∃ h, fX0_allHold (nI c) (nI d) (wX s 3 3 d x) = some (1, rX (wX s 3 3 d x) 3 9 h)) ∨ (¬ LW n m (crw r1 3 d x) = 0 ∧ (fX0_mayMend (nI c) (nI d) s = some (0, s) ∨ (fX0_mayMend (nI c) (nI d) s = some (1, s) ∧ ∃ h, fX0_allHold (nI c) (nI d) (wX s 3 3 d x) = some (0, rX (wX s 3 3 d x) 3 9 h)))) := by
  have hn := ok1.1
  have ok2 : Ok n m (crw r1 3 d x) := ok_hold ok1 hx
  have gf : gX s 3 2 c = nI f := by rw [← ef, ← e3]; rfl
  have gg : gX s 3 2 d = nI g := by rw [← eg, ← e3]; rfl
  have mm : fX0_mayMend (nI c) (nI d) s = if (LK n m r &&& ((bt f ||| bt g) ^^^ (-1))) = 0 then some (1, s) else some (0, s) := by
    unfold fX0_mayMend
    rw [ixg_nI (show c < 14 by omega) (by decide), ixg_nI (show d < 14 by omega) (by decide), vl_eq, gf, gg, eK]
    rfl
  have two := LW_two (n := n) (m := m) (r := r) ok2 hf hg hs
  have mend := LK_mend (n := n) (m := m) (r := r) hf hg
  have cw : co (wX s 3 3 d x) 3 = crw r1 3 d x := by rw [co_wj (by decide), e3]
  have gf2 : gX (wX s 3 3 d x) 3 2 c = nI f := by rw [← gf]; rfl
  have gg2 : gX (wX s 3 3 d x) 3 2 d = nI g := by rw [← gg]; rfl
  obtain ⟨h1, l1⟩ := x_looseWordsOf (i := 3) (s := wX s 3 3 d x) (n := n) (m := m) (by rw [cw]; exact ok2) (nI f) ⟨f, hf, rfl⟩
  obtain ⟨h2, l2⟩ := x_looseWordsOf (i := 3) (s := rX (wX s 3 3 d x) 3 9 h1) (n := n) (m := m) (by rw [co_9, cw]; exact ok2) (nI g) ⟨g, hg, rfl⟩
  rw [cw] at l1
  rw [co_9, cw, rX_rX] at l2
  have l1 : fX1_looseWordsOf 3 (nI f) (wX s 3 3 d x) = some (ls n m (crw r1 3 d x) f, rX (wX s 3 3 d x) 3 9 h1) := l1
  have l2 : fX1_looseWordsOf 3 (nI g) (rX (wX s 3 3 d x) 3 9 h1) = some (ls n m (crw r1 3 d x) g, rX (wX s 3 3 d x) 3 9 h2) := l2
  have ah : ∃ h, fX0_allHold (nI c) (nI d) (wX s 3 3 d x) = some (if ls n m (crw r1 3 d x) f = 0 ∧ ls n m (crw r1 3 d x) g = 0 then 1 else 0, rX (wX s 3 3 d x) 3 9 h) := by
    unfold fX0_allHold fX0_allHold_50
    rw [ixg_nI (show c < 14 by omega) (by decide), vl_eq, ixg_nI (show d < 14 by omega) (by decide), vl_eq, gf2, gg2, l1, bd_one]
    by_cases q1 : ls n m (crw r1 3 d x) f = 0
    · rw [if_pos q1]
      by_cases q2 : nI f = nI g
      · have fg : f = g := (nI_eq (by omega) (by omega)).mp q2
        rw [if_pos q2, if_pos ⟨q1, by rw [← fg]; exact q1⟩]
        exact ⟨h1, rfl⟩
      · rw [if_neg q2, l2, bd_one]
        by_cases q3 : ls n m (crw r1 3 d x) g = 0
        · rw [if_pos q3, if_pos ⟨q1, q3⟩]; exact ⟨h2, rfl⟩
        · rw [if_neg q3, if_neg (fun w => q3 w.2)]; exact ⟨h2, rfl⟩
    · rw [if_neg q1, if_neg (fun w => q1 w.1)]; exact ⟨h1, rfl⟩
  obtain ⟨h, ah⟩ := ah
  by_cases w1 : (LK n m r &&& ((bt f ||| bt g) ^^^ (-1))) = 0
  · rw [if_pos w1] at mm
    have w1' := w1
    rw [mend] at w1'
    by_cases w2 : ls n m (crw r1 3 d x) f = 0 ∧ ls n m (crw r1 3 d x) g = 0
    · rw [if_pos w2] at ah
      exact Or.inl ⟨two.mpr ⟨w1', w2⟩, mm, h, ah⟩
    · rw [if_neg w2] at ah
      exact Or.inr ⟨fun w => w2 (two.mp w).2, Or.inr ⟨mm, h, ah⟩⟩
  · rw [if_neg w1] at mm
    refine Or.inr ⟨fun w => w1 ?_, Or.inl mm⟩
    rw [mend]
    exact (two.mp w).1
/-- behind a try that failed the court is as it was -/
theorem x_untry {s : SX} {d : Nat} {r r1 : Co} {x : Int32} {h : Nat → Int32} (e3 : co s 3 = r1) (e0 : co s 0 = r) (hd : r1 3 d = r 3 d) : gX (rX (wX s 3 3 d x) 3 9 h) 0 3 d = r 3 d ∧ co (wX (rX (wX s 3 3 d x) 3 9 h) 3 3 d (r 3 d)) 3 = r1 ∧ Fr 3 s (wX (rX (wX s 3 3 d x) 3 9 h) 3 3 d (r 3 d)) := by
  refine ⟨?_, ?_, (Fr.wX.trans Fr.rX).trans Fr.wX⟩
  · rw [← e0]; rfl
  · rw [co_wj (by decide), co_9, co_wj (by decide), e3, crw_crw, crw_self hd]
theorem x_findOne {s0 : SX} {n m : Nat} {r : Co} (ok : Ok n m r) (e0 : co s0 0 = r) (cl : Cl r) (e3 : co s0 3 = r) (eK : gX s0 6 0 1 = LK n m r) : ∃ b, fX0_findOne s0 = some b ∧ (match fnd (P1 n m r) 0 (6 * n) with
    | some p => b.1 = 1 ∧ Fp s0 b.2 ∧ Cl (co b.2 3) ∧ gX b.2 6 0 2 = nI p
    | none => b.1 = 0 ∧ Fp s0 b.2 ∧ co b.2 3 = r ∧ gX b.2 6 0 1 = LK n m r) := by
  have hn := ok.1
  have e6 : (6 : Int32) * nI n = nI (6 * n) := by
    have : ∀ n : Nat, n < 15 → (6 : Int32) * nI n = nI (6 * n) := by decide
    exact this n (by omega)
  have en : gX s0 0 10 10 = nI n := by
    have := ok.2.2.1
    rw [← e0] at this
    exact this
  unfold fX0_findOne fX0_findOne_10
  rw [vl_eq, vl_eq, en, e6]
  refine lp_fnd (body := fX0_findOne_10b) (ap := fun (k : Tx Int32 2) p s => k (nI (6 * n)) (nI p) s) (P1 n m r) (fun s => Fp s0 s ∧ co s 3 = r ∧ gX s 6 0 1 = LK n m r) (fun o b => match o with
    | some p => b.1 = 1 ∧ Fp s0 b.2 ∧ Cl (co b.2 3) ∧ gX b.2 6 0 2 = nI p
    | none => b.1 = 0 ∧ Fp s0 b.2 ∧ co b.2 3 = r ∧ gX b.2 6 0 1 = LK n m r) (6 * n) 0 ?_ ?_ ?_ (6 * n) 0 400 s0 (Nat.zero_le _) (by omega) (by omega) (by omega) ⟨Fp.rfl', e3, eK⟩
  · intro k p s _ hp ⟨q1, q2, q3⟩ hP
    obtain ⟨d1, d2⟩ := div6 p (by omega)
    have c0 : co s 0 = r := (fp_co q1 (by decide) (by decide)).trans e0
    unfold P1 at hP
    simp only [Bool.and_eq_true, decide_eq_true_eq] at hP
    obtain ⟨f, hf, ef⟩ := (ok.2.2.2.2.1 (p / 6) (by omega)).2.1
    have tr := x_try (s := s) (n := n) (m := m) (c := p / 6) (d := p / 6) (f := f) (g := f) (r := r) (r1 := r) (x := nI (p % 6)) (by omega) (by omega) ok q2 ⟨p % 6, by omega, rfl⟩ hf hf ef ef q3 (fun q hq qf _ => ls_mv (by rw [ef]; exact fun w => qf ((nI_eq (by omega) (by omega)).mp w)))
    rcases tr with ⟨-, t1, h, t2⟩ | ⟨t0, -⟩
    · refine ⟨(1, wX (rX (wX s 3 3 (p / 6) (nI (p % 6))) 3 9 h) 6 0 2 (nI p)), ?_, rfl, ?_, ?_, ?_⟩
      · show fX0_findOne_10b k (nI (6 * n)) (nI p) s = _
        unfold fX0_findOne_10b
        rw [if_neg (nI_ge hp (by omega)), d2, d1, vl_eq, x_isMove ok c0 hp, hP.1, bd_one, if_neg (show ¬ b2i true = 0 by decide), t1, bd_one, if_neg (show ¬ (1 : Int32) = 0 by decide), ixg_nI (show p / 6 < 14 by omega) (by decide), vl_eq, t2, bd_one, if_neg (show ¬ (1 : Int32) = 0 by decide), vl_eq]
      · exact q1.trans (((Fr.wX.trans Fr.rX : Fr 3 s _).Fp (Or.inl rfl)).trans (Fr.wX.Fp (Or.inr rfl)))
      · rw [co_o (Fr.wX (i := 6)) (by decide), co_9, co_wj (by decide), q2]
        exact cl_mvd cl hn hp
      · show gX (wX _ 6 0 2 (nI p)) 6 0 2 = nI p
        rw [gX_wX, if_pos rfl, if_pos rfl, if_pos rfl]
    · exact absurd hP.2 t0
  · intro k p s _ hp ⟨q1, q2, q3⟩ hP
    obtain ⟨d1, d2⟩ := div6 p (by omega)
    have c0 : co s 0 = r := (fp_co q1 (by decide) (by decide)).trans e0
    unfold P1 at hP
    obtain ⟨f, hf, ef⟩ := (ok.2.2.2.2.1 (p / 6) (by omega)).2.1
    have tr := x_try (s := s) (n := n) (m := m) (c := p / 6) (d := p / 6) (f := f) (g := f) (r := r) (r1 := r) (x := nI (p % 6)) (by omega) (by omega) ok q2 ⟨p % 6, by omega, rfl⟩ hf hf ef ef q3 (fun q hq qf _ => ls_mv (by rw [ef]; exact fun w => qf ((nI_eq (by omega) (by omega)).mp w)))
    have mvx := x_isMove ok c0 hp
    have ge := nI_ge hp (show 6 * n < 2 ^ 31 by omega)
    cases hm : mv r p with
    | false =>
      rw [hm] at mvx
      refine ⟨s, ⟨q1, q2, q3⟩, ?_⟩
      show fX0_findOne_10b k (nI (6 * n)) (nI p) s = _
      unfold fX0_findOne_10b fX0_findOne_92
      rw [if_neg ge, vl_eq, mvx, bd_one, if_pos (show b2i false = 0 by decide), vl_eq, ← nI_succ]
    | true =>
      rw [hm] at mvx hP
      simp only [Bool.true_and, decide_eq_false_iff_not] at hP
      rcases tr with ⟨t0, -⟩ | ⟨-, t1 | ⟨t1, h, t2⟩⟩
      · exact absurd t0 hP
      · refine ⟨s, ⟨q1, q2, q3⟩, ?_⟩
        show fX0_findOne_10b k (nI (6 * n)) (nI p) s = _
        unfold fX0_findOne_10b fX0_findOne_92
        rw [if_neg ge, d2, d1, vl_eq, mvx, bd_one, if_neg (show ¬ b2i true = 0 by decide), t1, bd_one, if_pos (show (0 : Int32) = 0 by decide), vl_eq, ← nI_succ]
      · obtain ⟨u1, u2, u3⟩ := x_untry (s := s) (d := p / 6) (x := nI (p % 6)) (h := h) q2 c0 rfl
        refine ⟨_, ⟨q1.trans (u3.Fp (Or.inl rfl)), u2, ?_⟩, ?_⟩
        · rw [u3.1 6 (by decide)]; exact q3
        · show fX0_findOne_10b k (nI (6 * n)) (nI p) s = _
          unfold fX0_findOne_10b fX0_findOne_92
          rw [if_neg ge, d2, d1, vl_eq, mvx, bd_one, if_neg (show ¬ b2i true = 0 by decide), t1, bd_one, if_neg (show ¬ (1 : Int32) = 0 by decide), ixg_nI (show p / 6 < 14 by omega) (by decide), vl_eq, t2, bd_one, if_pos (show (0 : Int32) = 0 by decide), ixg_nI (show p / 6 < 14 by omega) (by decide), ixg_nI (show p / 6 < 14 by omega) (by decide), vl_eq, vl_eq, u1, ← nI_succ]
  · intro k c s h1 h2 ⟨q1, q2, q3⟩
    have : c = 6 * n := by omega
    subst this
    refine ⟨(0, s), ?_, rfl, q1, q2, q3⟩
    show fX0_findOne_10b k (nI (6 * n)) (nI (6 * n)) s = _
    unfold fX0_findOne_10b
    rw [if_pos (nI_le (Nat.le_refl _) (by omega))]
