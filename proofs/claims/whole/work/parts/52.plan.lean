/-! ===== the planner: two moves, the plan ===== -/
theorem six_n {n : Nat} (hn : n ≤ 14) : (6 : Int32) * nI n = nI (6 * n) := by
  have : ∀ n : Nat, n < 15 → (6 : Int32) * nI n = nI (6 * n) := by decide
  exact this n (by omega)
theorem six_c {c : Nat} (hc : c < 14) : (6 : Int32) * (nI c + 1) = nI (6 * (c + 1)) := by
  rw [← nI_succ]; exact six_n (by omega)
theorem mv_o {r : Co} {p c : Nat} {x : Int32} (h : p / 6 ≠ c) : mv (crw r 3 c x) p = mv r p := by
  unfold mv
  rw [crw3_3 h]
  rfl
theorem x_findGreater {s0 : SX} {n m c f : Nat} {r : Co} {x : Int32} (ok : Ok n m r) (hc : c < n) (hx : rng x 6) (hf : f < 6) (ef : r 2 c = nI f) (e0 : co s0 0 = r) (cl : Cl r) (e3 : co s0 3 = crw r 3 c x) (eK : gX s0 6 0 1 = LK n m r) : ∃ b, fX0_findGreater (nI c) s0 = some b ∧ (match fnd (P1 n m (crw r 3 c x)) (6 * (c + 1)) (6 * n - 6 * (c + 1)) with
    | some p => b.1 = 1 ∧ Fp s0 b.2 ∧ Cl (co b.2 3) ∧ gX b.2 6 0 3 = nI p
    | none => b.1 = 0 ∧ Fp s0 b.2 ∧ co b.2 3 = crw r 3 c x ∧ gX b.2 6 0 1 = LK n m r) := by
  have hn := ok.1
  have e6 := six_n hn
  have e7 := six_c (show c < 14 by omega)
  have ok1 : Ok n m (crw r 3 c x) := ok_hold ok hx
  have cl1 : Cl (crw r 3 c x) := cl_crw cl (inl9 (by decide) (show c < 14 by omega))
  have en : gX s0 0 10 10 = nI n := by
    have := ok.2.2.1
    rw [← e0] at this
    exact this
  unfold fX0_findGreater fX0_findGreater_16
  rw [vl_eq, vl_eq, en, e6, e7]
  have tri : ∀ (s : SX) (p : Nat), 6 * (c + 1) ≤ p → p < 6 * n → co s 3 = crw r 3 c x → gX s 6 0 1 = LK n m r →
      (LW n m (mvd (crw r 3 c x) p) = 0 ∧ fX0_mayMend (nI c) (nI (p / 6)) s = some (1, s) ∧ ∃ h, fX0_allHold (nI c) (nI (p / 6)) (wX s 3 3 (p / 6) (nI (p % 6))) = some (1, rX (wX s 3 3 (p / 6) (nI (p % 6))) 3 9 h)) ∨ (¬ LW n m (mvd (crw r 3 c x) p) = 0 ∧ (fX0_mayMend (nI c) (nI (p / 6)) s = some (0, s) ∨ (fX0_mayMend (nI c) (nI (p / 6)) s = some (1, s) ∧ ∃ h, fX0_allHold (nI c) (nI (p / 6)) (wX s 3 3 (p / 6) (nI (p % 6))) = some (0, rX (wX s 3 3 (p / 6) (nI (p % 6))) 3 9 h)))) := by
    intro s p p1 p2 q2 q3
    obtain ⟨g, hg, eg⟩ := (ok.2.2.2.2.1 (p / 6) (by omega)).2.1
    refine x_try (s := s) (n := n) (m := m) (c := c) (d := p / 6) (f := f) (g := g) (r := r) (r1 := crw r 3 c x) (x := nI (p % 6)) hc (by omega) ok1 q2 ⟨p % 6, by omega, rfl⟩ hf hg ef eg q3 (fun q hq qf qg => ?_)
    rw [ls_mv (show nI q ≠ crw r 3 c x 2 (p / 6) from fun w => qg ((nI_eq (by omega) (by omega)).mp (w.trans eg)))]
    exact ls_mv (fun w => qf ((nI_eq (by omega) (by omega)).mp (w.trans ef)))
  refine lp_fnd (body := fX0_findGreater_16b) (ap := fun (k : Tx Int32 3) p s => k (nI c) (nI (6 * n)) (nI p) s) (P1 n m (crw r 3 c x)) (fun s => Fp s0 s ∧ co s 3 = crw r 3 c x ∧ gX s 6 0 1 = LK n m r) (fun o b => match o with
    | some p => b.1 = 1 ∧ Fp s0 b.2 ∧ Cl (co b.2 3) ∧ gX b.2 6 0 3 = nI p
    | none => b.1 = 0 ∧ Fp s0 b.2 ∧ co b.2 3 = crw r 3 c x ∧ gX b.2 6 0 1 = LK n m r) (6 * n) (6 * (c + 1)) ?_ ?_ ?_ (6 * n - 6 * (c + 1)) (6 * (c + 1)) 400 s0 (Nat.le_refl _) (by omega) (by omega) (by omega) ⟨Fp.rfl', e3, eK⟩
  · intro k p s lo hp ⟨q1, q2, q3⟩ hP
    obtain ⟨d1, d2⟩ := div6 p (by omega)
    have c0 : co s 0 = r := (fp_co q1 (by decide) (by decide)).trans e0
    unfold P1 at hP
    simp only [Bool.and_eq_true, decide_eq_true_eq] at hP
    have hmv := hP.1
    rw [mv_o (show p / 6 ≠ c by omega)] at hmv
    rcases tri s p lo hp q2 q3 with ⟨-, t1, h, t2⟩ | ⟨t0, -⟩
    · refine ⟨(1, wX (rX (wX s 3 3 (p / 6) (nI (p % 6))) 3 9 h) 6 0 3 (nI p)), ?_, rfl, ?_, ?_, ?_⟩
      · show fX0_findGreater_16b k (nI c) (nI (6 * n)) (nI p) s = _
        unfold fX0_findGreater_16b
        rw [if_neg (nI_ge hp (by omega)), d2, d1, vl_eq, x_isMove ok c0 hp, hmv, bd_one, if_neg (show ¬ b2i true = 0 by decide), t1, bd_one, if_neg (show ¬ (1 : Int32) = 0 by decide), ixg_nI (show p / 6 < 14 by omega) (by decide), vl_eq, t2, bd_one, if_neg (show ¬ (1 : Int32) = 0 by decide), vl_eq]
      · exact q1.trans (((Fr.wX.trans Fr.rX : Fr 3 s _).Fp (Or.inl rfl)).trans (Fr.wX.Fp (Or.inr rfl)))
      · rw [co_o (Fr.wX (i := 6)) (by decide), co_9, co_wj (by decide), q2]
        exact cl_mvd cl1 hn hp
      · show gX (wX _ 6 0 3 (nI p)) 6 0 3 = nI p
        rw [gX_wX, if_pos rfl, if_pos rfl, if_pos rfl]
    · exact absurd hP.2 t0
  · intro k p s lo hp ⟨q1, q2, q3⟩ hP
    obtain ⟨d1, d2⟩ := div6 p (by omega)
    have c0 : co s 0 = r := (fp_co q1 (by decide) (by decide)).trans e0
    unfold P1 at hP
    rw [mv_o (show p / 6 ≠ c by omega)] at hP
    have mvx := x_isMove ok c0 hp
    have ge := nI_ge hp (show 6 * n < 2 ^ 31 by omega)
    cases hm : mv r p with
    | false =>
      rw [hm] at mvx
      refine ⟨s, ⟨q1, q2, q3⟩, ?_⟩
      show fX0_findGreater_16b k (nI c) (nI (6 * n)) (nI p) s = _
      unfold fX0_findGreater_16b fX0_findGreater_101
      rw [if_neg ge, vl_eq, mvx, bd_one, if_pos (show b2i false = 0 by decide), vl_eq, ← nI_succ]
    | true =>
      rw [hm] at mvx hP
      simp only [Bool.true_and, decide_eq_false_iff_not] at hP
      rcases tri s p lo hp q2 q3 with ⟨t0, -⟩ | ⟨-, t1 | ⟨t1, h, t2⟩⟩
      · exact absurd t0 hP
      · refine ⟨s, ⟨q1, q2, q3⟩, ?_⟩
        show fX0_findGreater_16b k (nI c) (nI (6 * n)) (nI p) s = _
        unfold fX0_findGreater_16b fX0_findGreater_101
        rw [if_neg ge, d2, d1, vl_eq, mvx, bd_one, if_neg (show ¬ b2i true = 0 by decide), t1, bd_one, if_pos (show (0 : Int32) = 0 by decide), vl_eq, ← nI_succ]
      · obtain ⟨u1, u2, u3⟩ := x_untry (s := s) (d := p / 6) (x := nI (p % 6)) (h := h) q2 c0 (crw3_3 (show p / 6 ≠ c by omega))
        refine ⟨_, ⟨q1.trans (u3.Fp (Or.inl rfl)), u2, ?_⟩, ?_⟩
        · rw [u3.1 6 (by decide)]; exact q3
        · show fX0_findGreater_16b k (nI c) (nI (6 * n)) (nI p) s = _
          unfold fX0_findGreater_16b fX0_findGreater_101
          rw [if_neg ge, d2, d1, vl_eq, mvx, bd_one, if_neg (show ¬ b2i true = 0 by decide), t1, bd_one, if_neg (show ¬ (1 : Int32) = 0 by decide), ixg_nI (show p / 6 < 14 by omega) (by decide), vl_eq, t2, bd_one, if_pos (show (0 : Int32) = 0 by decide), ixg_nI (show p / 6 < 14 by omega) (by decide), ixg_nI (show p / 6 < 14 by omega) (by decide), vl_eq, vl_eq, u1, ← nI_succ]
  · intro k p s h1 h2 ⟨q1, q2, q3⟩
    refine ⟨(0, s), ?_, rfl, q1, q2, q3⟩
    show fX0_findGreater_16b k (nI c) (nI (6 * n)) (nI p) s = _
    unfold fX0_findGreater_16b
    rw [if_pos (nI_le h1 (by omega))]
theorem x_findTwo {s0 : SX} {n m : Nat} {r : Co} (ok : Ok n m r) (e0 : co s0 0 = r) (cl : Cl r) (e3 : co s0 3 = r) (eK : gX s0 6 0 1 = LK n m r) : ∃ b, fX0_findTwo s0 = some b ∧ (match fnd (P2 n m r) 0 (6 * n) with
    | some p => b.1 = 1 ∧ Fp s0 b.2 ∧ Cl (co b.2 3) ∧ gX b.2 6 0 2 = nI p ∧ ∃ p2, fnd (P1 n m (mvd r p)) (6 * (p / 6 + 1)) (6 * n - 6 * (p / 6 + 1)) = some p2 ∧ gX b.2 6 0 3 = nI p2
    | none => b.1 = 0 ∧ Fp s0 b.2 ∧ Cl (co b.2 3)) := by
  have hn := ok.1
  have en : gX s0 0 10 10 = nI n := by
    have := ok.2.2.1
    rw [← e0] at this
    exact this
  unfold fX0_findTwo fX0_findTwo_10
  rw [vl_eq, vl_eq, en, six_n hn]
  refine lp_fnd (body := fX0_findTwo_10b) (ap := fun (k : Tx Int32 2) p s => k (nI (6 * n)) (nI p) s) (P2 n m r) (fun s => Fp s0 s ∧ co s 3 = r ∧ gX s 6 0 1 = LK n m r) (fun o b => match o with
    | some p => b.1 = 1 ∧ Fp s0 b.2 ∧ Cl (co b.2 3) ∧ gX b.2 6 0 2 = nI p ∧ ∃ p2, fnd (P1 n m (mvd r p)) (6 * (p / 6 + 1)) (6 * n - 6 * (p / 6 + 1)) = some p2 ∧ gX b.2 6 0 3 = nI p2
    | none => b.1 = 0 ∧ Fp s0 b.2 ∧ Cl (co b.2 3)) (6 * n) 0 ?_ ?_ ?_ (6 * n) 0 400 s0 (Nat.zero_le _) (by omega) (by omega) (by omega) ⟨Fp.rfl', e3, eK⟩
  · intro k p s _ hp ⟨q1, q2, q3⟩ hP
    obtain ⟨d1, d2⟩ := div6 p (by omega)
    have c0 : co s 0 = r := (fp_co q1 (by decide) (by decide)).trans e0
    obtain ⟨f, hf, ef⟩ := (ok.2.2.2.2.1 (p / 6) (by omega)).2.1
    unfold P2 at hP
    simp only [Bool.and_eq_true] at hP
    obtain ⟨p2, hp2⟩ := Option.isSome_iff_exists.mp hP.2
    obtain ⟨⟨v, s9⟩, g1, g2⟩ := x_findGreater (s0 := wX s 3 3 (p / 6) (nI (p % 6))) (n := n) (m := m) (c := p / 6) (f := f) (r := r) (x := nI (p % 6)) ok (by omega) ⟨p % 6, by omega, rfl⟩ hf ef (by rw [co_o (Fr.wX (i := 3)) (by decide)]; exact c0) cl (by rw [co_wj (by decide), q2]) (by rw [gX_wX, if_neg (by decide)]; exact q3)
    have hp2' := hp2
    unfold mvd at hp2'
    rw [hp2'] at g2
    obtain ⟨g2, g3, g4, g5⟩ := g2
    have g2 : v = 1 := g2
    refine ⟨(1, wX s9 6 0 2 (nI p)), ?_, rfl, ?_, ?_, ?_, p2, hp2, ?_⟩
    · show fX0_findTwo_10b k (nI (6 * n)) (nI p) s = _
      unfold fX0_findTwo_10b
      rw [if_neg (nI_ge hp (by omega)), d2, d1, vl_eq, x_isMove ok c0 hp, hP.1, bd_one, if_neg (show ¬ b2i true = 0 by decide), ixg_nI (show p / 6 < 14 by omega) (by decide), vl_eq, g1, bd_one, g2, if_neg (show ¬ (1 : Int32) = 0 by decide), vl_eq]
    · exact q1.trans (((Fr.wX : Fr 3 s _).Fp (Or.inl rfl)).trans (g3.trans (Fr.wX.Fp (Or.inr rfl))))
    · rw [co_o (Fr.wX (i := 6)) (by decide)]; exact g4
    · show gX (wX _ 6 0 2 (nI p)) 6 0 2 = nI p
      rw [gX_wX, if_pos rfl, if_pos rfl, if_pos rfl]
    · show gX (wX s9 6 0 2 (nI p)) 6 0 3 = nI p2
      rw [gX_wX, if_pos rfl, if_pos rfl, if_neg (by decide)]; exact g5
  · intro k p s _ hp ⟨q1, q2, q3⟩ hP
    obtain ⟨d1, d2⟩ := div6 p (by omega)
    have c0 : co s 0 = r := (fp_co q1 (by decide) (by decide)).trans e0
    obtain ⟨f, hf, ef⟩ := (ok.2.2.2.2.1 (p / 6) (by omega)).2.1
    have mvx := x_isMove ok c0 hp
    have ge := nI_ge hp (show 6 * n < 2 ^ 31 by omega)
    unfold P2 at hP
    cases hm : mv r p with
    | false =>
      rw [hm] at mvx
      refine ⟨s, ⟨q1, q2, q3⟩, ?_⟩
      show fX0_findTwo_10b k (nI (6 * n)) (nI p) s = _
      unfold fX0_findTwo_10b fX0_findTwo_80
      rw [if_neg ge, vl_eq, mvx, bd_one, if_pos (show b2i false = 0 by decide), vl_eq, ← nI_succ]
    | true =>
      rw [hm] at mvx hP
      simp only [Bool.true_and] at hP
      have hno : fnd (P1 n m (mvd r p)) (6 * (p / 6 + 1)) (6 * n - 6 * (p / 6 + 1)) = none := by
        cases hq : fnd (P1 n m (mvd r p)) (6 * (p / 6 + 1)) (6 * n - 6 * (p / 6 + 1)) with
        | none => rfl
        | some q => rw [hq] at hP; cases hP
      obtain ⟨⟨v, s9⟩, g1, g2⟩ := x_findGreater (s0 := wX s 3 3 (p / 6) (nI (p % 6))) (n := n) (m := m) (c := p / 6) (f := f) (r := r) (x := nI (p % 6)) ok (by omega) ⟨p % 6, by omega, rfl⟩ hf ef (by rw [co_o (Fr.wX (i := 3)) (by decide)]; exact c0) cl (by rw [co_wj (by decide), q2]) (by rw [gX_wX, if_neg (by decide)]; exact q3)
      unfold mvd at hno
      rw [hno] at g2
      obtain ⟨g2, g3, g4, g5⟩ := g2
      have g2 : v = 0 := g2
      have g4 : co s9 3 = crw r 3 (p / 6) (nI (p % 6)) := g4
      have g5 : gX s9 6 0 1 = LK n m r := g5
      have h3 : gX s9 0 3 (p / 6) = r 3 (p / 6) := by
        have := g3.1 0 (by decide) (by decide)
        have this : gX s9 0 = gX (wX s 3 3 (p / 6) (nI (p % 6))) 0 := this
        rw [this, ← c0]; rfl
      refine ⟨wX s9 3 3 (p / 6) (r 3 (p / 6)), ⟨?_, ?_, ?_⟩, ?_⟩
      · exact q1.trans (((Fr.wX : Fr 3 s _).Fp (Or.inl rfl)).trans (g3.trans (Fr.wX.Fp (Or.inl rfl))))
      · rw [co_wj (by decide), g4, crw_crw, crw_self rfl]
      · rw [gX_wX, if_neg (by decide)]; exact g5
      · show fX0_findTwo_10b k (nI (6 * n)) (nI p) s = _
        unfold fX0_findTwo_10b fX0_findTwo_80
        rw [if_neg ge, d2, d1, vl_eq, mvx, bd_one, if_neg (show ¬ b2i true = 0 by decide), ixg_nI (show p / 6 < 14 by omega) (by decide), vl_eq, g1, bd_one, g2, if_pos (show (0 : Int32) = 0 by decide), ixg_nI (show p / 6 < 14 by omega) (by decide), ixg_nI (show p / 6 < 14 by omega) (by decide), vl_eq, vl_eq, h3, ← nI_succ]
  · intro k p s h1 h2 ⟨q1, q2, q3⟩
    refine ⟨(0, s), ?_, rfl, q1, by show Cl (co s 3); rw [q2]; exact cl⟩
    show fX0_findTwo_10b k (nI (6 * n)) (nI p) s = _
    unfold fX0_findTwo_10b
    rw [if_pos (nI_le h1 (by omega))]
/-- what a plan is -/
def PL (n m : Nat) (r : Co) (v a b : Int32) (no : Int32) : Prop := (LW n m r = 0 → v = 0) ∧ (¬ LW n m r = 0 → ∀ p, fnd (P1 n m r) 0 (6 * n) = some p → v = 1 ∧ a = nI p) ∧ (¬ LW n m r = 0 → fnd (P1 n m r) 0 (6 * n) = none → ∀ p, fnd (P2 n m r) 0 (6 * n) = some p → v = 2 ∧ a = nI p ∧ ∃ p2, fnd (P1 n m (mvd r p)) (6 * (p / 6 + 1)) (6 * n - 6 * (p / 6 + 1)) = some p2 ∧ b = nI p2) ∧ (¬ LW n m r = 0 → fnd (P1 n m r) 0 (6 * n) = none → fnd (P2 n m r) 0 (6 * n) = none → v = no)
theorem x_plan {s : SX} {n m : Nat} {r : Co} (ok : Ok n m r) (e0 : co s 0 = r) (cl : Cl r) (cl3 : Cl (co s 3)) : ∃ v s', fX0_plan s = some (v, s') ∧ Fp s s' ∧ Cl (co s' 3) ∧ PL n m r v (gX s' 6 0 2) (gX s' 6 0 3) (-1) := by
  have hn := ok.1
  obtain ⟨s1, x1, x2, x3⟩ := x_become (i := 3) (j := 0) (s := s) (by decide) cl3 (by rw [e0]; exact cl)
  rw [e0] at x2
  unfold fX0_plan fX0_plan_15
  rw [x1, bd_one, vl_eq, vl_eq]
  have key := lp_inv (bot := fun _ _ => none) (body := fX0_plan_15b) (F := 400) (ap := fun (k : Tx Int32 1) q u => k (nI q) u) 6 (fun q u => Fp s u ∧ co u 3 = r ∧ gX u 6 0 1 = setN q (fun q => !decide (ls n m r q = 0))) (fun b => Fp s b.2 ∧ Cl (co b.2 3) ∧ PL n m r b.1 (gX b.2 6 0 2) (gX b.2 6 0 3) (-1)) ?_ ?_ (wX s1 6 0 1 0) ⟨(x3.Fp (Or.inl rfl)).trans (Fr.wX.Fp (Or.inr rfl)), by rw [co_o (Fr.wX (i := 6)) (by decide)]; exact x2, by rw [gX_wX, if_pos rfl, if_pos rfl, if_pos rfl]; rfl⟩ (by omega)
  · obtain ⟨⟨v, s'⟩, k1, k2, k3, k4⟩ := key
    exact ⟨v, s', k1, k2, k3, k4⟩
  · intro k q u hq ⟨q1, q2, q3⟩
    obtain ⟨h, l1⟩ := x_looseWordsOf (i := 3) (s := u) (n := n) (m := m) (by rw [q2]; exact ok) (nI q) ⟨q, hq, rfl⟩
    rw [q2] at l1
    have l1 : fX1_looseWordsOf 3 (nI q) u = some (ls n m r q, rX u 3 9 h) := l1
    have g6 : ¬ (6 : Int32) ≤ nI q := nI_ge (b := 6) hq (by decide)
    have es : setN (q + 1) (fun q => !decide (ls n m r q = 0)) = if (!decide (ls n m r q = 0)) = true then setN q (fun q => !decide (ls n m r q = 0)) ||| bt q else setN q (fun q => !decide (ls n m r q = 0)) := rfl
    have g61 : gX (rX u 3 9 h) 6 0 1 = gX u 6 0 1 := by rw [gX_rX, if_neg (by decide)]
    by_cases hl : ls n m r q = 0
    · refine ⟨rX u 3 9 h, ?_, q1.trans (Fr.rX.Fp (Or.inl rfl)), by rw [co_9]; exact q2, ?_⟩
      · show fX0_plan_15b k (nI q) u = _
        unfold fX0_plan_15b fX0_plan_44
        rw [if_neg g6, l1, bd_one, if_pos hl, vl_eq, ← nI_succ]
      · rw [g61, q3, es, if_neg (by simp [hl])]
    · refine ⟨wX (rX u 3 9 h) 6 0 1 (gX (rX u 3 9 h) 6 0 1 ||| bt q), ?_, (q1.trans (Fr.rX.Fp (Or.inl rfl))).trans (Fr.wX.Fp (Or.inr rfl)), by rw [co_o (Fr.wX (i := 6)) (by decide), co_9]; exact q2, ?_⟩
      · show fX0_plan_15b k (nI q) u = _
        unfold fX0_plan_15b fX0_plan_44
        rw [if_neg g6, l1, bd_one, if_neg hl, vl_eq, vl_eq, ← nI_succ]
        rfl
      · rw [gX_wX, if_pos rfl, if_pos rfl, if_pos rfl, g61, q3, es, if_pos (by simp [hl])]
  · intro k u ⟨q1, q2, q3⟩
    have q3 : gX u 6 0 1 = LK n m r := q3
    have cu : co u 0 = r := (fp_co q1 (by decide) (by decide)).trans e0
    have bd6 : fX0_plan_15b k (nI 6) u = if LK n m r = 0 then some (0, u) else bd (fX0_findOne u) fun v4 s5 => if v4 = 0 then bd (fX0_findTwo s5) fun v6 s7 => if v6 = 0 then some ((-1), s7) else some (2, s7) else some (1, s5) := by
      unfold fX0_plan_15b
      rw [if_pos (show (6 : Int32) ≤ nI 6 by decide), q3]
    show ∃ b, fX0_plan_15b k (nI 6) u = some b ∧ _
    rw [bd6]
    by_cases hL : LW n m r = 0
    · have hK : LK n m r = 0 := by rw [LK_0 ok]; exact hL
      rw [if_pos hK]
      exact ⟨_, rfl, q1, by show Cl (co u 3); rw [q2]; exact cl, fun _ => rfl, fun w => absurd hL w, fun w => absurd hL w, fun w => absurd hL w⟩
    · have hK : ¬ LK n m r = 0 := by rw [LK_0 ok]; exact hL
      rw [if_neg hK]
      obtain ⟨⟨v, s5⟩, f1, f2⟩ := x_findOne ok cu cl q2 q3
      rw [f1, bd_one]
      cases hF : fnd (P1 n m r) 0 (6 * n) with
      | some p =>
        rw [hF] at f2
        obtain ⟨w1, w2, w3, w4⟩ := f2
        have w1 : v = 1 := w1
        rw [w1, if_neg (show ¬ (1 : Int32) = 0 by decide)]
        refine ⟨_, rfl, q1.trans w2, w3, fun w => absurd w hL, ?_, ?_, ?_⟩
        · intro _ p' hp'
          rw [hF] at hp'
          cases hp'
          exact ⟨rfl, w4⟩
        · intro _ w
          rw [hF] at w
          cases w
        · intro _ w
          rw [hF] at w
          cases w
      | none =>
        rw [hF] at f2
        obtain ⟨w1, w2, w3, w4⟩ := f2
        have w1 : v = 0 := w1
        have w3 : co s5 3 = r := w3
        have w4 : gX s5 6 0 1 = LK n m r := w4
        rw [w1, if_pos (Eq.refl (0 : Int32))]
        obtain ⟨⟨v2, s7⟩, g1, g2⟩ := x_findTwo ok ((fp_co w2 (by decide) (by decide)).trans cu) cl w3 w4
        rw [g1, bd_one]
        cases hG : fnd (P2 n m r) 0 (6 * n) with
        | some p =>
          rw [hG] at g2
          obtain ⟨y1, y2, y3, y4, y5⟩ := g2
          have y1 : v2 = 1 := y1
          rw [y1, if_neg (show ¬ (1 : Int32) = 0 by decide)]
          refine ⟨_, rfl, (q1.trans w2).trans y2, y3, fun w => absurd w hL, ?_, ?_, ?_⟩
          · intro _ p' hp'
            rw [hF] at hp'
            cases hp'
          · intro _ _ p' hp'
            rw [hG] at hp'
            cases hp'
            exact ⟨rfl, y4, y5⟩
          · intro _ _ w
            rw [hG] at w
            cases w
        | none =>
          rw [hG] at g2
          obtain ⟨y1, y2, y3⟩ := g2
          have y1 : v2 = 0 := y1
          rw [y1, if_pos (Eq.refl (0 : Int32))]
          refine ⟨_, rfl, (q1.trans w2).trans y2, y3, fun w => absurd w hL, ?_, ?_, fun _ _ _ => rfl⟩
          · intro _ p' hp'
            rw [hF] at hp'
            cases hp'
          · intro _ _ p' hp'
            rw [hG] at hp'
            cases hp'
