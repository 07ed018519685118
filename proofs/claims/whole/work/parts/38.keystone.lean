/-! ===== the keystone ===== -/
theorem Inv.after {s s' : SX} {t t' : SM} {n m : Nat} (h : Inv s t) (ok : Ok n m (co s 0)) (e2 : Fr 2 s s') (e3 : Cl (co s' 2)) (w2 : Rl 0 n m (co s 0) t') (w3 : Mo t t') : Inv s' t' := by
  have c0 : co s' 0 = co s 0 := co_o e2 (by decide)
  refine h.court (e2.Xo (Or.inr (Or.inl rfl))) w3 ⟨n, m, by rw [c0]; exact ok, by rw [c0]; exact w2⟩ (fun i hi => ?_)
  by_cases i2 : i = 2
  · subst i2; exact e3
  · rw [co_o e2 i2]; exact h.2.1 i (by omega)
theorem allR_hi {n m : Nat} (hm : m ≤ 12) (d : Nat) : ∀ {r : Co} (j : Nat), m ≤ j → bitB (allR n m d r) j = false := by
  induction d with
  | zero => intro r j hj; exact bit_0 j
  | succ d ih =>
    intro r j hj
    unfold allR
    by_cases h0 : LW n m r = 0
    · rw [if_pos h0]; exact bit_0 j
    · rw [if_neg h0, bit_or, LW_hi hm j hj, ih j hj]; rfl
theorem PD_hi {n m k : Nat} {r : Co} (hk : k < m) (hm : m ≤ 12) : ∀ j, 14 ≤ j → j < 32 → bitB (PD n m r k) j = false := fun j h1 _ => by
  unfold PD
  rw [bit_or, allR_hi hm 12 j (by omega), bt_hi hk hm j (by omega)]; rfl
theorem op_keystone {s : SX} {t : SM} (h : Inv s t) : Sm (fX5_keystone s) (fX6_keystone t) := by
  obtain ⟨n, m, ok, rl⟩ := h.1
  have hm := ok.2.1
  have key : ∀ (d c F1 F2 : Nat) (best most : Int32) (s1 : SX) (t1 : SM), c + d = m → d < F1 → d < F2 → (0 ≤ most) → Inv s1 t1 → Ok n m (co s1 0) → Rl 0 n m (co s1 0) t1 → Sm (lp (fun _ _ _ _ => none) fX5_keystone_6b F1 best most (nI c) s1) (lp (fun _ _ _ _ => none) fX6_keystone_6b F2 best most (nI c) t1) := by
    intro d
    induction d with
    | zero =>
      intro c F1 F2 best most s1 t1 h1 h2 h3 h0 i1 ok1 rl1
      obtain ⟨F1, rfl⟩ : ∃ G, F1 = G + 1 := ⟨F1 - 1, by omega⟩
      obtain ⟨F2, rfl⟩ : ∃ G, F2 = G + 1 := ⟨F2 - 1, by omega⟩
      have : c = m := by omega
      subst this
      show Sm (fX5_keystone_6b _ best most (nI c) s1) (fX6_keystone_6b _ best most (nI c) t1)
      have f3 := fin3 i1
      generalize lp (fun _ _ _ _ => none) fX5_keystone_6b F1 = K1
      generalize lp (fun _ _ _ _ => none) fX6_keystone_6b F2 = K2
      unfold fX5_keystone_6b fX6_keystone_6b
      have hx : gX s1 0 10 11 ≤ nI c := by rw [ok1.hm.2]; exact nI_le (Nat.le_refl c) (by omega)
      have hy : gM t1 0 5 ≤ nI c := by rw [rl1.2.2.2.1]; exact nI_le (Nat.le_refl c) (by omega)
      rw [if_pos hx, if_pos hy]
      by_cases hb : 0 ≤ best
      · rw [if_pos hb, if_pos hb]; exact Sm.of i1
      · rw [if_neg hb, if_neg hb]; exact f3
    | succ d ih =>
      intro c F1 F2 best most s1 t1 h1 h2 h3 h0 i1 ok1 rl1
      obtain ⟨F1, rfl⟩ : ∃ G, F1 = G + 1 := ⟨F1 - 1, by omega⟩
      obtain ⟨F2, rfl⟩ : ∃ G, F2 = G + 1 := ⟨F2 - 1, by omega⟩
      have hc : c < m := by omega
      have ih := ih (c + 1) F1 F2
      show Sm (fX5_keystone_6b (lp (fun _ _ _ _ => none) fX5_keystone_6b F1) best most (nI c) s1) (fX6_keystone_6b (lp (fun _ _ _ _ => none) fX6_keystone_6b F2) best most (nI c) t1)
      generalize lp (fun _ _ _ _ => none) fX5_keystone_6b F1 = K1 at ih ⊢
      generalize lp (fun _ _ _ _ => none) fX6_keystone_6b F2 = K2 at ih ⊢
      unfold fX5_keystone_6b fX6_keystone_6b
      have hx : ¬ gX s1 0 10 11 ≤ nI c := by rw [ok1.hm.2]; exact nI_ge hc (by omega)
      have hy : ¬ gM t1 0 5 ≤ nI c := by rw [rl1.2.2.2.1]; exact nI_ge hc (by omega)
      rw [if_neg hx, if_neg hy, x_isInForce (show c < 12 by omega), m_isInForce rl1 hm hc, bd_one, bd_one]
      simp only [b2i_0, fX5_keystone_52, fX6_keystone_34, fX6_keystone_47, fX6_keystone_60, vl_eq, ← nI_succ]
      cases hf : inF (co s1 0) c with
      | false =>
        rw [if_pos rfl, if_pos rfl, if_pos h0, if_pos h0]
        exact ih best most s1 t1 (by omega) (by omega) (by omega) h0 i1 ok1 rl1
      | true =>
        obtain ⟨s2, e1, e2, e3⟩ := x_down ok1 (i1.2.1 0 (by decide)) (i1.2.1 2 (by decide)) hc hf
        obtain ⟨t2, w1, w2, w3⟩ := m_down rl1 ok1 hc
        obtain ⟨z, -, z1, z2⟩ := cnt (x := PD n m (co s1 0) c) (PD_hi hc hm)
        have i2 := i1.after ok1 e2 e3 w2 w3
        have c0 : co s2 0 = co s1 0 := co_o e2 (by decide)
        have tf : ¬ (true = false) := by decide
        rw [if_neg tf, if_neg tf, e1, w1, bd_one, bd_one, z1, z2, bd_one, bd_one]
        by_cases hz : nI z ≤ most
        · rw [if_pos hz, if_pos hz, if_pos hz]
          exact ih best most s2 t2 (by omega) (by omega) (by omega) h0 i2 (by rw [c0]; exact ok1) (by rw [c0]; exact w2)
        · rw [if_neg hz, if_neg hz, if_neg hz]
          exact ih (nI c) (nI z) s2 t2 (by omega) (by omega) (by omega) (Int32.le_trans h0 (Int32.le_of_lt (Int32.not_le.mp hz))) i2 (by rw [c0]; exact ok1) (by rw [c0]; exact w2)
  have := key m 0 400 400 (-1) 0 s t (by omega) (by omega) (by omega) (by decide) h ok rl
  unfold fX5_keystone fX6_keystone fX5_keystone_6 fX6_keystone_6
  rw [vl_eq, vl_eq, vl_eq, vl_eq, vl_eq, vl_eq]
  exact this
