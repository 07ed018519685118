/-! ===== the sheets ===== -/
theorem sh_st {a : Int32} (h1 : ¬ (4 : Int32) ≤ a) (h2 : ¬ a < 0) : ∃ k, k < 4 ∧ a = nI k := by
  obtain ⟨k, hk, e⟩ := st_k (a := a) (Int32.lt_trans (Int32.not_le.mp h1) (by decide)) h2
  refine ⟨k, ?_, e⟩
  refine Nat.lt_of_not_le (fun q => h1 ?_)
  rw [e]
  exact nI_le (a := 4) (b := k) q (by omega)
theorem sh_pick (a : Int32) : ((∀ s, fX5_sheetAt a s = some (none, s)) ∧ (∀ t, fX6_isSheet a t = some (0, t))) ∨ ∃ q, q < 4 ∧ a = nI q ∧ (∀ s, fX5_sheetAt a s = some (some q, s)) ∧ (∀ t, fX6_isSheet a t = some (1, t)) := by
  have g0 : (0 : Int32) = 0 ∨ (0 : Int32) = 1 := Or.inl (Eq.refl 0)
  have g1 : (1 : Int32) = 0 ∨ (1 : Int32) = 1 := Or.inr (Eq.refl 1)
  by_cases h1 : a < 0
  · refine Or.inl ⟨fun s => ?_, fun t => ?_⟩
    · unfold fX5_sheetAt; rw [if_pos h1]
    · unfold fX6_isSheet; rw [in_lo h1, bd_one, gd_pos g0]
  · by_cases h2 : (4 : Int32) ≤ a
    · have h3 : (3 : Int32) < a := Int32.lt_of_lt_of_le (by decide) h2
      refine Or.inl ⟨fun s => ?_, fun t => ?_⟩
      · unfold fX5_sheetAt; rw [if_neg h1, if_pos h2]
      · unfold fX6_isSheet; rw [in_hi h1 h3, bd_one, gd_pos g0]
    · obtain ⟨q, hq, e⟩ := sh_st h2 h1
      have h3 : ¬ (3 : Int32) < a := by
        rw [e]
        exact Int32.not_lt.mpr (nI_le (a := q) (b := 3) (by omega) (by omega))
      have h4 : a.toNatClampNeg = q := by rw [e]; exact nI_clamp (by omega)
      refine Or.inr ⟨q, hq, e, fun s => ?_, fun t => ?_⟩
      · unfold fX5_sheetAt; rw [if_neg h1, if_neg h2, h4]
      · unfold fX6_isSheet; rw [in_in h1 h3, bd_one, gd_pos g1]
/-- nothing but the sheets has changed -/
theorem inv_sheets {s s' : SX} {t t' : SM} (h : Inv s t) (hs : ∀ a, a < 9 → gX s' a = gX s a) (ht : ∀ j, j ≠ 16 → j ≠ 17 → gM t' j = gM t j) (hh : Sh s' t') : Inv s' t' := by
  obtain ⟨⟨n, m, ok, rl⟩, cl, kp, fd, tp, -⟩ := h
  have hc : ∀ i, i < 5 → co s' i = co s i := by
    intro i hi
    unfold co
    rw [hs i (by omega)]
  refine ⟨⟨n, m, ?_, ?_⟩, fun i hi => ?_, ?_, ?_, ?_, hh⟩
  · rw [hc 0 (by decide)]; exact ok
  · rw [hc 0 (by decide)]; exact rl.q ⟨fun a h1 h2 => ht a (by omega) (by omega), by rw [ht 0 (by decide) (by decide)], by rw [ht 0 (by decide) (by decide)], by rw [ht 0 (by decide) (by decide)]⟩
  · rw [hc i hi]; exact cl i hi
  · unfold Kp at kp ⊢
    rw [hs 5 (by decide), hc 1 (by decide), ht 0 (by decide) (by decide), ht 20 (by decide) (by decide)]; exact kp
  · unfold Fnd at fd ⊢
    rw [hs 5 (by decide), ht 10 (by decide) (by decide)]; exact fd
  · unfold Tp at tp ⊢
    rw [hs 8 (by decide), ht 0 (by decide) (by decide), ht 15 (by decide) (by decide)]; exact tp
theorem nI_mul40 {q k : Nat} (hq : q < 4) (hk : k < 40) : (40 : Int32) * nI q + nI k = nI (40 * q + k) := by
  have e : (40 : Int32) = nI 40 := by decide
  rw [e]
  unfold nI
  rw [← Int32.ofNat_mul, ← Int32.ofNat_add]
theorem x_lay {s : SX} {q : Nat} (b v : Int32) : ∃ s', fX3_lay q b v s = some ((), s') ∧ gX s' = gX (wX (wX s (9 + q) 0 1 b) (9 + q) 0 2 v) ∧ ∀ a c, c < 40 → gL s' a c = if a = q then 0 else gL s a c := by
  unfold fX3_lay
  rw [vl_eq, vl_eq, vl_eq]
  generalize hz : wX (wX s (9 + q) 0 1 b) (9 + q) 0 2 v = z
  have gz : gL z = gL s := by rw [← hz]; rfl
  unfold fX3_lay_12
  have key := lp_inv (bot := fun _ _ => none) (body := fX3_lay_12b q) (F := 400) (ap := fun (k : Tx Unit 1) c (a : SX) => k (nI c) a) 40 (fun k a => gX a = gX z ∧ ∀ i c, c < 40 → gL a i c = if i = q then (if c < k then 0 else gL s i c) else gL s i c) (fun r => gX r.2 = gX z ∧ ∀ a c, c < 40 → gL r.2 a c = if a = q then 0 else gL s a c) ?_ ?_ z ⟨rfl, ?_⟩ (by omega)
  · obtain ⟨⟨u, s'⟩, e1, e2, e3⟩ := key
    exact ⟨s', e1, e2, e3⟩
  · intro k c a hc ⟨h1, h2⟩
    refine ⟨wL a q c 0, ?_, ?_, ?_⟩
    · show fX3_lay_12b q k (nI c) a = _
      unfold fX3_lay_12b
      rw [if_neg (show ¬ (40 : Int32) ≤ nI c from nI_ge (b := 40) hc (by decide)), ixg_nI hc (by decide), vl_eq, vl_eq, ← nI_succ]
    · rw [gX_wL]; exact h1
    · intro i d hd
      rw [gL_wL, h2 i d hd]
      by_cases hi : i = q
      · rw [if_pos hi, if_pos hi, if_pos hi]
        by_cases hd2 : d = c
        · rw [if_pos hd2, if_pos (by omega)]
        · rw [if_neg hd2]
          by_cases h3 : d < c
          · rw [if_pos h3, if_pos (by omega)]
          · rw [if_neg h3, if_neg (by omega)]
      · rw [if_neg hi, if_neg hi, if_neg hi]
  · intro k a ⟨h1, h2⟩
    refine ⟨((), a), ?_, h1, ?_⟩
    · show fX3_lay_12b q k (nI 40) a = _
      unfold fX3_lay_12b
      rw [if_pos (show (40 : Int32) ≤ nI 40 from nI_le (b := 40) (Nat.le_refl 40) (by decide))]
    · intro i c hc
      rw [h2 i c hc, if_pos hc]
  · intro i c hc
    rw [gz, if_neg (Nat.not_lt_zero c)]
    by_cases hi : i = q
    · rw [if_pos hi]
    · rw [if_neg hi]
theorem m_clear {t : SM} {q : Nat} (hq : q < 4) : ∃ t', fX6_sheet_85 400 (nI q) 0 t = some (gM t 17 q, t') ∧ gM t' = gM t ∧ ∀ a c, a < 4 → c < 40 → gN t' 18 (40 * a + c) = if a = q then 0 else gN t 18 (40 * a + c) := by
  unfold fX6_sheet_85
  have key := lp_inv (bot := fun _ _ _ => none) (body := fX6_sheet_85b) (F := 400) (ap := fun (k : Tm Int32 2) c (a : SM) => k (nI q) (nI c) a) 40 (fun k a => gM a = gM t ∧ ∀ i c, i < 4 → c < 40 → gN a 18 (40 * i + c) = if i = q then (if c < k then 0 else gN t 18 (40 * i + c)) else gN t 18 (40 * i + c)) (fun r => r.1 = gM t 17 q ∧ gM r.2 = gM t ∧ ∀ a c, a < 4 → c < 40 → gN r.2 18 (40 * a + c) = if a = q then 0 else gN t 18 (40 * a + c)) ?_ ?_ t ⟨rfl, ?_⟩ (by omega)
  · obtain ⟨⟨u, s'⟩, e1, e2, e3, e4⟩ := key
    have e2 : u = gM t 17 q := e2
    rw [← e2]
    exact ⟨s', e1, e3, e4⟩
  · intro k c a hc ⟨h1, h2⟩
    refine ⟨wN a 18 (40 * q + c) 0, ?_, ?_, ?_⟩
    · show fX6_sheet_85b k (nI q) (nI c) a = _
      unfold fX6_sheet_85b
      rw [if_neg (show ¬ (40 : Int32) ≤ nI c from nI_ge (b := 40) hc (by decide)), nI_mul40 hq hc, ixg_nI (show 40 * q + c < 160 by omega) (by decide), vl_eq, vl_eq, ← nI_succ]
    · rw [gM_wN]; exact h1
    · intro i d hi4 hd
      have e18 : (18 : Nat) = 18 := Eq.refl 18
      rw [gN_wN, if_pos e18, h2 i d hi4 hd]
      by_cases hi : i = q
      · rw [if_pos hi, if_pos hi]
        by_cases hd2 : d = c
        · rw [if_pos (by omega), if_pos (by omega)]
        · rw [if_neg (by omega)]
          by_cases h3 : d < c
          · rw [if_pos h3, if_pos (by omega)]
          · rw [if_neg h3, if_neg (by omega)]
      · rw [if_neg hi, if_neg hi, if_neg (by omega)]
  · intro k a ⟨h1, h2⟩
    refine ⟨(gM t 17 q, a), ?_, rfl, h1, ?_⟩
    · show fX6_sheet_85b k (nI q) (nI 40) a = _
      unfold fX6_sheet_85b
      rw [if_pos (show (40 : Int32) ≤ nI 40 from nI_le (b := 40) (Nat.le_refl 40) (by decide)), ixg_nI hq (by decide), h1]
    · intro i c hi hc
      rw [h2 i c hi hc, if_pos hc]
  · intro i c hi hc
    rw [if_neg (Nat.not_lt_zero c)]
    by_cases hi : i = q
    · rw [if_pos hi]
    · rw [if_neg hi]
theorem sh_set {s : SX} {t : SM} (h : Inv s t) {q : Nat} (hq : q < 4) {b v : Int32} (hb : b = 0 ∨ b = 8 ∨ b = 16 ∨ b = 64) (hv : rng v 41) : Sm (bd (fX3_lay q b v s) fun _ s9 => some (gX s9 (9 + q) 0 2, s9)) (fX6_sheet_81 (nI q) (nI q) v (wM t 16 q b)) := by
  obtain ⟨s', e1, e2, e3⟩ := x_lay (s := s) (q := q) b v
  obtain ⟨t', f1, f2, f3⟩ := m_clear (t := wM (wM t 16 q b) 17 q v) hq
  have hsh := h.2.2.2.2.2
  have n17 : ¬ (17 : Nat) = 16 := by decide
  have n16 : ¬ (16 : Nat) = 17 := by decide
  have n12 : ¬ (1 : Nat) = 2 := by decide
  have n21 : ¬ (2 : Nat) = 1 := by decide
  have y16 : (16 : Nat) = 16 := Eq.refl _
  have y17 : (17 : Nat) = 17 := Eq.refl _
  have y0 : (0 : Nat) = 0 := Eq.refl _
  have y1 : (1 : Nat) = 1 := Eq.refl _
  have y2 : (2 : Nat) = 2 := Eq.refl _
  have yq : q = q := Eq.refl _
  have y9 : 9 + q = 9 + q := Eq.refl _
  have g2 : gX s' (9 + q) 0 2 = v := by rw [e2, gX_wX, if_pos y9, if_pos y0, if_pos y2]
  have k17 : gM (wM (wM t 16 q b) 17 q v) 17 q = v := by rw [gM_wM, if_pos y17, if_pos yq]
  rw [k17] at f1
  unfold fX6_sheet_81
  rw [e1, bd_one, ixg_nI hq (by decide), vl_eq, vl_eq, f1, g2]
  refine ⟨v, s', t', rfl, rfl, inv_sheets h ?_ ?_ ?_⟩
  · intro a ha
    have na : ¬ a = 9 + q := by omega
    funext j k
    rw [e2, gX_wX, if_neg na, gX_wX, if_neg na]
  · intro j j1 j2
    funext k
    rw [f2, gM_wM, if_neg j2, gM_wM, if_neg j1]
  · intro p hp
    obtain ⟨a1, a2, a3, a4, a5⟩ := hsh p hp
    have m16 : gM t' 16 p = if p = q then b else gM t 16 p := by
      rw [f2, gM_wM, if_neg n16, gM_wM, if_pos y16]
    have m17 : gM t' 17 p = if p = q then v else gM t 17 p := by
      rw [f2, gM_wM, if_pos y17, gM_wM, if_neg n17]
    rw [m16, m17]
    by_cases hpq : p = q
    · subst hpq
      rw [if_pos yq, if_pos yq]
      refine ⟨?_, hb, g2, hv, fun k hk => ?_⟩
      · rw [e2, gX_wX, if_pos y9, if_pos y0, if_neg n12, gX_wX, if_pos y9, if_pos y0, if_pos y1]
      · rw [e3 p k hk, f3 p k hp hk, if_pos yq, if_pos yq]
    · have na : ¬ 9 + p = 9 + q := by omega
      rw [if_neg hpq, if_neg hpq]
      refine ⟨?_, a2, ?_, a4, fun k hk => ?_⟩
      · rw [e2, gX_wX, if_neg na, gX_wX, if_neg na]; exact a1
      · rw [e2, gX_wX, if_neg na, gX_wX, if_neg na]; exact a3
      · rw [e3 p k hk, f3 p k hp hk, if_neg hpq, if_neg hpq, gN_wM, gN_wM]; exact a5 k hk
theorem om_none {S α : Type} (a : Option (α × S)) (b : Nat → Option (α × S)) : om none a b = a := rfl
theorem om_some {S α : Type} {i : Nat} (h : i < 4) (a : Option (α × S)) (b : Nat → Option (α × S)) : om (some i) a b = b i := by
  show gd (i < 4) (b i) = b i
  exact gd_pos h _
theorem sh_rng {v : Int32} (h1 : 0 ≤ v) (h2 : v ≤ 40) : rng v 41 := by
  have v40 : (40 : Int32).toInt = 40 := by decide
  have a1 := Int32.le_iff_toInt_le.mp h1
  have a2 := Int32.le_iff_toInt_le.mp h2
  rw [Int32.toInt_zero] at a1
  rw [v40] at a2
  have e := Int32.ofNat_toNatClampNeg v h1
  refine ⟨v.toNatClampNeg, ?_, e.symm⟩
  have : v.toNatClampNeg = v.toInt.toNat := rfl
  omega
theorem op_sheet_in {s : SX} {t : SM} (h : Inv s t) {q : Nat} (hq : q < 4) {b v : Int32} (hb : b = 0 ∨ b = 8 ∨ b = 16 ∨ b = 64) : Sm (fX5_sheet_40 b v q s) (fX6_sheet_36 (nI q) b v t) := by
  unfold fX5_sheet_40 fX6_sheet_36
  by_cases h1 : 0 ≤ v
  · rw [if_pos h1, if_pos h1]
    by_cases h2 : v ≤ 40
    · rw [if_pos h2, if_pos h2, ixg_nI hq (by decide), vl_eq]
      by_cases h3 : b = 0
      · rw [if_pos h3, if_pos h3]
        exact sh_set h hq hb ⟨0, by decide, rfl⟩
      · rw [if_neg h3, if_neg h3]
        exact sh_set h hq hb (sh_rng h1 h2)
    · rw [if_neg h2, if_neg h2]
      exact fin0 h
  · rw [if_neg h1, if_neg h1]
    exact fin6 h
theorem op_sheet {s : SX} {t : SM} (h : Inv s t) (a b v : Int32) : Sm (fX5_sheet a b v s) (fX6_sheet a b v t) := by
  have z0 : (0 : Int32) = 0 := Eq.refl 0
  have z1 : ¬ (1 : Int32) = 0 := by decide
  unfold fX5_sheet fX6_sheet
  rcases sh_pick a with ⟨p1, p2⟩ | ⟨q, hq, e, p1, p2⟩
  · rw [p1, p2, bd_one, bd_one, om_none, if_pos z0]
    exact fin0 h
  · rw [p1, p2, bd_one, bd_one, om_some hq, if_neg z1, e]
    by_cases b0 : b = 0
    · rw [if_pos b0, if_pos b0]; exact op_sheet_in h hq (Or.inl b0)
    rw [if_neg b0, if_neg b0]
    by_cases b8 : b = 8
    · rw [if_pos b8, if_pos b8]; exact op_sheet_in h hq (Or.inr (Or.inl b8))
    rw [if_neg b8, if_neg b8]
    by_cases b16 : b = 16
    · rw [if_pos b16, if_pos b16]; exact op_sheet_in h hq (Or.inr (Or.inr (Or.inl b16)))
    rw [if_neg b16, if_neg b16]
    by_cases b64 : b = 64
    · rw [if_pos b64, if_pos b64]; exact op_sheet_in h hq (Or.inr (Or.inr (Or.inr b64)))
    rw [if_neg b64, if_neg b64]
    exact fin0 h
