/-! ===== the way: the act ===== -/
theorem Inv.way {s s' : SX} {t t' : SM} {n m : Nat} (h : Inv s t) (ok : Ok n m (co s 0)) (hf : Fw s s') (hc : Cl (co s' 4)) (hm : Mo t t') (hr : Rl 0 n m (co s 0) t') : Inv s' t' := by
  have c0 : co s' 0 = co s 0 := fw_co hf (by decide) (by decide)
  refine h.court ⟨fun a ha => hf.1 a (by omega) (by omega), hf.2⟩ hm ⟨n, m, by rw [c0]; exact ok, by rw [c0]; exact hr⟩ (fun i hi => ?_)
  by_cases h3 : i = 4
  · subst h3; exact hc
  · rw [fw_co hf h3 (by omega)]; exact h.2.1 i (by omega)
theorem op_way {s : SX} {t : SM} (h : Inv s t) (a b : Int32) : Sm (fX5_way a b s) (fX6_way a b t) := by
  have z0 : (0 : Int32) = 0 := Eq.refl 0
  have z1 : ¬ (1 : Int32) = 0 := by decide
  unfold fX5_way fX6_way
  rcases sh_pick a with ⟨p1, p2⟩ | ⟨q, hq, e, p1, p2⟩
  · rw [p1, p2, bd_one, bd_one, om_none, if_pos z0]
    exact fin0 h
  obtain ⟨a1, a2, a3, ⟨w, hw, a4⟩, a5⟩ := h.2.2.2.2.2 q hq
  obtain ⟨n, m, ok, rl⟩ := h.1
  have hn := ok.1
  rw [p1, p2, bd_one, bd_one, om_some hq, if_neg z1, e, ixg_nI hq (by decide)]
  unfold fX3_isMissing
  rw [a1]
  by_cases hk : gM t 16 q = 0
  · rw [if_pos hk, if_pos hk, bd_one, if_neg z1]
    exact fin5 h
  rw [if_neg hk, if_neg hk, bd_one, if_pos z0]
  by_cases b1 : b < -1
  · rw [if_pos b1, in_lo b1, bd_one, if_pos z0]; exact fin0 h
  rw [if_neg b1]
  have e78 : (b < 8) = ¬ (7 : Int32) < b := by
    have e8 : (8 : Int32).toInt = 8 := by decide
    have e7 : (7 : Int32).toInt = 7 := by decide
    rw [Int32.lt_iff_toInt_lt, Int32.lt_iff_toInt_lt, e8, e7]
    apply propext; omega
  by_cases b2 : b < 8
  · have b3 : ¬ (7 : Int32) < b := by rw [← e78]; exact b2
    rw [if_pos b2, in_in b1 b3, bd_one, if_neg z1, vl_eq, vl_eq, vl_eq]
    obtain ⟨u, un, uw, ue⟩ : ∃ u, u ≤ n ∧ u ≤ w ∧ (u = n ∨ u = w) := by
      by_cases c : n ≤ w
      · exact ⟨n, Nat.le_refl n, c, Or.inl rfl⟩
      · exact ⟨w, by omega, Nat.le_refl w, Or.inr rfl⟩
    obtain ⟨s1, x1, x2, x3⟩ := x_aim ok hw (a3.trans a4) un uw ue
    obtain ⟨t1, ⟨y1, y2, y3⟩, y4⟩ := m_way55 rl ok hq hw a4 un uw ue b (gL s q) (fun k hk => (a5 k hk).symm)
    obtain ⟨ms1, ms2, ms3⟩ := MS_ok (r := co s 0) (Y := gL s q) u
    have hM : Mvs n (MS (co s 0) (gL s q) u).1 (MS (co s 0) (gL s q) u).2.1 (MS (co s 0) (gL s q) u).2.2 := ⟨fun i hi => ⟨by have := (ms2 i hi).1; omega, (ms2 i hi).2⟩, ms3⟩
    rw [x1, bd_one, y4]
    unfold Dd
    generalize (MS (co s 0) (gL s q) u).1 = K at x3 y3 ms1 hM ⊢
    generalize (MS (co s 0) (gL s q) u).2.1 = mc at x3 y3 hM ⊢
    generalize (MS (co s 0) (gL s q) u).2.2 = ma at x3 y3 hM ⊢
    have c01 : co s1 0 = co s 0 := co_o x2 (by decide)
    have cl0 := h.2.1 0 (by decide)
    have i1 : Inv s1 t1 := h.way ok (x2.Fw (Or.inr rfl)) (by rw [co_o x2 (by decide)]; exact h.2.1 4 (by decide)) y2 y1
    unfold fX6_way_171
    rw [x3.1]
    by_cases k8 : K ≤ 8
    · have k8' : nI K ≤ 8 := nI_le (b := 8) k8 (by decide)
      rw [if_pos k8', if_pos k8', x_movesDead ok c01 hM x3 (by omega), bd_one]
      cases hD : anyN K (fun i => dead (co s 0) (mc i)) with
      | true => rw [if_neg (show ¬ b2i true = 0 by decide), if_neg (show ¬ b2i true = 0 by decide)]; exact fin4 i1
      | false =>
        rw [if_pos (show b2i false = 0 by decide), if_pos (show b2i false = 0 by decide), vl_eq]
        obtain ⟨v, s2, f1, f2, f3, f4, f5, f6, f7⟩ := x_find ok c01 cl0 (by rw [co_o x2 (by decide)]; exact h.2.1 4 (by decide)) hM x3 k8
        have g0 : ∀ j, j ≠ 0 → gM (wM t1 0 23 (nI K)) j = gM t1 j := fun j hj => by funext i; rw [gM_wM, if_neg hj]
        have g00 : ∀ j, j ≠ 23 → gM (wM t1 0 23 (nI K)) 0 j = gM t1 0 j := fun j hj => by rw [gM_wM, if_pos rfl, if_neg hj]
        have wt : Wt n m K mc ma (co s 0) t (wM t1 0 23 (nI K)) := by
          refine ⟨y1.q ⟨fun j h1 h2 => g0 j (by omega), g00 1 (by decide), g00 5 (by decide), g00 11 (by decide)⟩, y2.trans ⟨g00 38 (by decide), g0 20 (by decide), g0 10 (by decide), g00 25 (by decide), g0 15 (by decide), g0 16 (by decide), g0 17 (by decide), rfl⟩, by rw [gM_wM, if_pos rfl, if_pos rfl], fun i hi => ?_⟩
          rw [g0 12 (by decide), g0 13 (by decide)]
          exact y3 i hi (by omega)
        obtain ⟨t2, w1, w2, w3⟩ := m_findWay ok hM k8 wt
        rw [f1, bd_one, w1, bd_one, ixg_0 (by decide) (by decide)]
        have p2 := Nat.two_pow_pos K
        have w4 : ∀ x, 1 ≤ x → x < 2 ^ K → EQ K (HH n m (co s 0) K mc ma) (gM t2 14) x := fun x h1 h2 => by
          have := w3 x h2
          unfold EQ H0 at this
          have x0 : decide (x = 0) = false := by simp; omega
          rw [x0, Bool.false_or] at this
          exact this
        have same : ∀ x, 1 ≤ x → x < 2 ^ K → gX s2 7 3 x = gM t2 14 x := fun x h1 h2 => EQ_same f5 w4 (2 ^ K - x) x h1 h2 (Nat.le_refl _)
        have psE : ∀ x i, x < 2 ^ K → i < K → pS (gX s2 7 3) x i = pS (gM t2 14) x i := fun x i hx hi => by
          unfold pS
          cases ht : x.testBit i with
          | true => rfl
          | false =>
            have g1 := or_gt ht
            have g2 := or_lt hx hi
            rw [same (x ||| 2 ^ i) (by omega) g2]
        have anyE : anyN K (pS (gX s2 7 3) 0) = anyN K (pS (gM t2 14) 0) := anyN_congr (fun i hi => psE 0 i p2 hi)
        have z14 := w3 0 p2
        unfold EQ H0 at z14
        have i2 : Inv s2 t2 := h.way ok ((x2.Fw (Or.inr rfl)).trans f2) f3 w2.2.1 w2.1
        have f3' := fin3 i2
        by_cases hG : 0 < K → anyN K (pS (gX s2 7 3) 0) = true
        · obtain ⟨v1, ord⟩ := f6 hG
          have hG2 : 0 < K → anyN K (pS (gM t2 14) 0) = true := by rw [← anyE]; exact hG
          have n14 : ¬ gM t2 14 0 = 0 := by
            rw [z14]
            by_cases K0 : K = 0
            · subst K0; simp [b2i]
            · rw [hG2 (by omega)]; simp [b2i]
          rw [v1, if_neg z1, if_neg n14, f4]
          by_cases bK : b < nI K
          · rw [if_pos bK, if_pos bK]
            by_cases b0 : 0 ≤ b
            · have bN : ∃ e, e < K ∧ b = nI e := by
                rw [Int32.lt_iff_toInt_lt, nI_toInt (by omega)] at bK
                rw [Int32.le_iff_toInt_le, Int32.toInt_zero] at b0
                exact inR_rng (x := b) (N := K) (by unfold inR; simp only [decide_eq_true_eq]; omega)
              obtain ⟨e, he, eb⟩ := bN
              rw [if_pos b0, if_pos b0, eb, ixg_nI (show e < 8 by omega) (by decide), ord e he, m_movedAs k8 w2 w4 hG2 he, bd_one, sj_congr psE e]
              exact Sm.of i2
            · rw [if_neg b0, if_neg b0]; exact Sm.of i2
          · rw [if_neg bK, if_neg bK]; exact f3'
        · have hK0 : K ≠ 0 := fun w => hG (fun w2 => by omega)
          have hN : anyN K (pS (gM t2 14) 0) = false := by
            rw [← anyE]
            cases hh : anyN K (pS (gX s2 7 3) 0) with
            | false => rfl
            | true => exact absurd (fun _ => hh) hG
          have K1 : 2 ≤ 2 ^ K := by
            have : 2 ^ 1 ≤ 2 ^ K := Nat.pow_le_pow_right (by decide) (by omega)
            omega
          have z : gM t2 14 0 = 0 := by
            rw [z14, hN]
            have : decide (0 = 2 ^ K - 1) = false := by simp; omega
            rw [this]; rfl
          rw [f7 hG, if_pos z0, if_pos z]; exact f3'
    · have k8' : ¬ nI K ≤ 8 := nI_ge (a := 8) (by omega) (by omega)
      rw [if_neg k8', if_neg k8']; exact fin6 i1
  · have b3 : (7 : Int32) < b := Classical.byContradiction (fun w => b2 (by rw [e78]; exact w))
    rw [if_neg b2, in_hi b1 b3, bd_one, if_pos z0]; exact fin0 h
