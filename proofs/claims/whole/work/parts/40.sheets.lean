/-! ===== the sheets ===== -/
theorem sh_st {a : Int32} (h1 : ¬ (4 : Int32) ≤ a) (h2 : ¬ a < 0) : ∃ k, k < 4 ∧ a = nI k := by
  obtain ⟨k, hk, e⟩ := st_k (a := a) (Int32.lt_trans (Int32.not_le.mp h1) (by decide)) h2
  refine ⟨k, ?_, e⟩
  refine Nat.lt_of_not_le (fun q => h1 ?_)
  rw [e]
  exact nI_le (a := 4) (b := k) q (by omega)
theorem sh_pick (a : Int32) : ((∀ s, fX5_sheetAt a s = some (none, s)) ∧ (∀ t, fX6_isSheet a t = some (0, t))) ∨ ∃ q, q < 4 ∧ a = nI q ∧ (∀ s, fX5_sheetAt a s = some (some q, s)) ∧ (∀ t, fX6_isSheet a t = some (1, t)) := by
  have g0 : (0 : Int32) = 0 ∨ (0 : Int32) = 1 := Or.inl (Eq.refl 0)
  have g1 : (1 : Int32) = 0 ∨ (1 : Int32) = 1 := Or.inr (Eq.refl 1)
  by_cases h1 : a < 0
  · refine Or.inl ⟨fun s => ?_, fun t => ?_⟩
    · unfold fX5_sheetAt; rw [if_pos h1]
    · unfold fX6_isSheet; rw [in_lo h1, bd_one, gd_pos g0]
  · by_cases h2 : (4 : Int32) ≤ a
    · have h3 : (3 : Int32) < a := Int32.lt_of_lt_of_le (by decide) h2
      refine Or.inl ⟨fun s => ?_, fun t => ?_⟩
      · unfold fX5_sheetAt; rw [if_neg h1, if_pos h2]
      · unfold fX6_isSheet; rw [in_hi h1 h3, bd_one, gd_pos g0]
    · obtain ⟨q, hq, e⟩ := sh_st h2 h1
      have h3 : ¬ (3 : Int32) < a := by
        rw [e]
        exact Int32.not_lt.mpr (nI_le (a := q) (b := 3) (by omega) (by omega))
      have h4 : a.toNatClampNeg = q := by rw [e]; exact nI_clamp (by omega)
      refine Or.inr ⟨q, hq, e, fun s => ?_, fun t => ?_⟩
      · unfold fX5_sheetAt; rw [if_neg h1, if_neg h2, h4]
      · unfold fX6_isSheet; rw [in_in h1 h3, bd_one, gd_pos g1]
/-- nothing but the sheets has changed -/
theorem inv_sheets {s s' : SX} {t t' : SM} (h : Inv s t) (hs : ∀ a, a < 9 → gX s' a = gX s a) (ht : ∀ j, j ≠ 16 → j ≠ 17 → gM t' j = gM t j) (hh : Sh s' t') : Inv s' t' := by
  obtain ⟨⟨n, m, ok, rl⟩, cl, kp, fd, tp, -⟩ := h
  have hc : ∀ i, i < 5 → co s' i = co s i := by
    intro i hi
    unfold co
    rw [hs i (by omega)]
  refine ⟨⟨n, m, ?_, ?_⟩, fun i hi => ?_, ?_, ?_, ?_, hh⟩
  · rw [hc 0 (by decide)]; exact ok
  · rw [hc 0 (by decide)]; exact rl.q ⟨fun a h1 h2 => ht a (by omega) (by omega), by rw [ht 0 (by decide) (by decide)], by rw [ht 0 (by decide) (by decide)], by rw [ht 0 (by decide) (by decide)]⟩
  · rw [hc i hi]; exact cl i hi
  · unfold Kp at kp ⊢
    rw [hs 5 (by decide), hc 1 (by decide), ht 0 (by decide) (by decide), ht 20 (by decide) (by decide)]; exact kp
  · unfold Fnd at fd ⊢
    rw [hs 5 (by decide), ht 10 (by decide) (by decide)]; exact fd
  · unfold Tp at tp ⊢
    rw [hs 8 (by decide), ht 0 (by decide) (by decide), ht 15 (by decide) (by decide)]; exact tp
