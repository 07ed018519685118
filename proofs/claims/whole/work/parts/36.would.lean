theorem op_wouldFall {s : SX} {t : SM} (h : Inv s t) (a : Int32) : Sm (fX5_wouldFall a s) (fX6_wouldFall a t) := by
  obtain ⟨n, m, ok, rl⟩ := h.1
  have f0 := fin0 h
  unfold fX5_wouldFall fX6_wouldFall
  rw [m_in0 (N := 4) (y := 3) (by decide) rfl, bd_one]
  cases h1 : inR a 4 with
  | false =>
    have e : b2i false = 0 := rfl
    rw [e, if_pos rfl]
    by_cases h2 : a < 0
    · rw [if_pos h2]; exact f0
    · rw [if_neg h2]
      have h3 : ¬ a ≤ 3 := by
        intro q
        have v3 : (3 : Int32).toInt = 3 := by decide
        rw [Int32.le_iff_toInt_le, v3] at q
        rw [Int32.lt_iff_toInt_lt, Int32.toInt_zero] at h2
        unfold inR at h1
        simp only [decide_eq_false_iff_not] at h1
        omega
      rw [if_neg h3]; exact f0
  | true =>
    obtain ⟨s1, x1, x2, x3⟩ := x_become (i := 2) (j := 0) (s := s) (by decide) (h.2.1 2 (by decide)) (h.2.1 0 (by decide))
    obtain ⟨s2, y1, y2, y3⟩ := x_bringDown (i := 2) (s := s1) (n := n) (m := m) (by rw [x2]; exact ok)
    rw [x2] at y1 y2
    obtain ⟨g, l1⟩ := x_looseWords ok
    obtain ⟨t1, z1, z2, z3⟩ := m_lends rl ok
    obtain ⟨t2, w1, w2, w3, w4, w5, w6⟩ := m_falls z2 ok
    have ml := z3.Mk w3
    have okf : Ok n m (fal n m 12 (co s 0)).2 := ok_fal 12 ok
    have i1 : Inv s2 (wM t2 0 11 0) := h.trial (x3.trans y3) (by rw [y2]; exact cl_fal 12 (h.2.1 0 (by decide))) (mo_back ml) (fun n m ok rl => rl_back rl ok ml)
    have i2 : Inv (rX s 0 9 g) (wM t2 0 11 0) := by
      refine h.court (Fr.rX.Xo (Or.inl rfl)) (mo_back ml) ⟨n, m, by rw [co_9]; exact ok, by rw [co_9]; exact rl_back rl ok ml⟩ (fun i hi => ?_)
      rcases hi with rfl | hi
      · rw [co_9]; exact h.2.1 0 (by decide)
      · rw [co_o (Fr.rX (i := 0)) (by omega)]; exact h.2.1 i (by omega)
    have e : b2i true = 1 := rfl
    rw [e, if_neg (show ¬ (1 : Int32) = 0 by decide)]
    rw [m_deadSet rl ok, bd_one, vl_eq, z1, bd_one, w1, bd_one, m_deadSet w2 okf, bd_one]
    simp only [vl_eq]
    have q14 : gM (wM t2 0 11 0) 0 14 = gM t2 0 14 := rfl
    have q15 : gM (wM t2 0 11 0) 0 15 = gM t2 0 15 := rfl
    have q16 : gM (wM t2 0 11 0) 0 16 = gM t2 0 16 := rfl
    rw [q14, q15, q16, w4, w5, w6]
    have c2 : ∀ k, gX s2 2 10 k = (fal n m 12 (co s 0)).2 10 k := fun k => by rw [← y2]; rfl
    have c0 : ∀ k, gX s2 0 10 k = co s 0 10 k := fun k => by
      have := (x3.trans y3).1 0 (by decide)
      rw [this]; rfl
    have k0 : ¬ a < 0 := by
      obtain ⟨k, hk, rfl⟩ := inR_rng h1
      exact nI_pos (by omega)
    have k3 : a ≤ 3 := by
      obtain ⟨k, hk, rfl⟩ := inR_rng h1
      exact nI_le (b := 3) (by omega) (by decide)
    rw [if_neg k0, if_pos k3]
    rcases inR_4 h1 with rfl | rfl | rfl | rfl
    · simp only [LT, eq_self, if_true, if_false, x1, y1, bd_one, vl_eq]
      exact Sm.of i1
    · simp only [LT, eq_self, if_true, if_false, x1, y1, bd_one, vl_eq, c2, c0, all_eq ok]
      exact Sm.of i1
    · simp only [LT, eq_self, if_true, if_false, x1, y1, bd_one, vl_eq, c2, c0]
      exact Sm.of i1
    · simp only [LT, eq_self, if_true, if_false, l1, bd_one]
      exact Sm.of i2
