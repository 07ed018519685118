/-! ===== a sheet is laid on the court ===== -/
theorem i64_6 {y : Int64} (h1 : ¬ y < 0) (h2 : ¬ (6 : Int64) ≤ y) : ∃ k, k < 6 ∧ Int64.toInt32 y = nI k := by
  rw [Int64.lt_iff_toInt_lt, Int64.toInt_zero] at h1
  rw [Int64.le_iff_toInt_le] at h2
  have e6 : (6 : Int64).toInt = 6 := by decide
  rw [e6] at h2
  refine ⟨y.toInt.toNat, by omega, ?_⟩
  have ey : y = Int64.ofInt y.toInt := (Int64.ofInt_toInt y).symm
  have key : ∀ k : Nat, k < 6 → Int64.toInt32 (Int64.ofInt (k : Int)) = nI k := by decide
  have := key y.toInt.toNat (by omega)
  rw [Int.toNat_of_nonneg (by omega), Int64.ofInt_toInt] at this
  exact this
theorem i64_56 {y : Int64} : ((6 : Int64) ≤ y) = ((5 : Int64) < y) := by
  have e6 : (6 : Int64).toInt = 6 := by decide
  have e5 : (5 : Int64).toInt = 5 := by decide
  rw [Int64.lt_iff_toInt_lt, Int64.le_iff_toInt_le, e6, e5]
  apply propext; omega
theorem lg_nneg (x y : Int64) : (0 ≤ lg_cmp x y) = (y ≤ x) := by
  have := lg_neg x y
  apply propext
  rw [← Int64.not_lt, ← this]
  exact Int32.not_lt.symm
theorem lays_key {n m q w : Nat} (hn : n ≤ 14) (hq : q < 4) (hw : w < 41) : ∀ (d k F G : Nat) (v : Int32) (s : SX) (t : SM), Inv s t → Ok n m (co s 0) → Rl 0 n m (co s 0) t → gX s (9 + q) 0 2 = nI w → gM t 17 q = nI w → k + d = n → d < F → d < G → Sm (lp (fun _ _ _ _ => none) fX5_lays_34b F q v (nI k) s) (lp (fun _ _ _ _ => none) fX6_lays_34b G (nI q) v (nI k) t) := by
  intro d
  induction d with
  | zero =>
    intro k F G v s t h ok rl a3 a4 h1 h2 h3
    obtain ⟨F, rfl⟩ : ∃ g, F = g + 1 := ⟨F - 1, by omega⟩
    obtain ⟨G, rfl⟩ : ∃ g, G = g + 1 := ⟨G - 1, by omega⟩
    have hk : k = n := by omega
    subst hk
    have e1 : gX s 0 10 10 = nI k := ok.hn.2
    have e2 : gM t 0 1 = nI k := rl.2.2.1
    have g := nI_le (Nat.le_refl k) (show k < 2 ^ 31 by omega)
    show Sm (fX5_lays_34b (lp _ fX5_lays_34b F) q v (nI k) s) (fX6_lays_34b (lp _ fX6_lays_34b G) (nI q) v (nI k) t)
    generalize lp _ fX5_lays_34b F = gx
    generalize lp _ fX6_lays_34b G = gm
    unfold fX5_lays_34b fX6_lays_34b
    rw [e1, e2, if_pos g, if_pos g]
    exact Sm.of h
  | succ d ih =>
    intro k F G v s t h ok rl a3 a4 h1 h2 h3
    obtain ⟨F, rfl⟩ : ∃ g, F = g + 1 := ⟨F - 1, by omega⟩
    obtain ⟨G, rfl⟩ : ∃ g, G = g + 1 := ⟨G - 1, by omega⟩
    have hkn : k < n := by omega
    have e1 : gX s 0 10 10 = nI n := ok.hn.2
    have e2 : gM t 0 1 = nI n := rl.2.2.1
    have g := nI_ge hkn (show n < 2 ^ 31 by omega)
    have ih2 := ih (k + 1) F G
    show Sm (fX5_lays_34b (lp _ fX5_lays_34b F) q v (nI k) s) (fX6_lays_34b (lp _ fX6_lays_34b G) (nI q) v (nI k) t)
    generalize lp _ fX5_lays_34b F = gx at ih2 ⊢
    generalize lp _ fX6_lays_34b G = gm at ih2 ⊢
    unfold fX5_lays_34b fX6_lays_34b
    rw [e1, e2, if_neg g, if_neg g, ixg_nI hq (by decide), a3, a4]
    by_cases c : nI w ≤ nI k
    · rw [if_pos c, if_pos c]; exact Sm.of h
    have hk40 : k < 40 := by omega
    rw [if_neg c, if_neg c]
    unfold fX3_holderAt
    have a5 := (h.2.2.2.2.2 q hq).2.2.2.2 k hk40
    rw [ixg_nI hk40 (by decide), nI_mul40 hq hk40, ixg_nI (show 40 * q + k < 160 by omega) (by decide), a5, vl_eq, vl_eq]
    generalize gN t 18 (40 * q + k) = y at a5
    unfold fX5_lays_95 fX6_lays_103
    have lz : (lg_cmp y 0 < 0) = (y < 0) := lg_neg y 0
    have l6 : (0 ≤ lg_cmp y 6) = ((5 : Int64) < y) := (lg_nneg y 6).trans i64_56
    have l5 : (0 < lg_cmp y 5) = ((5 : Int64) < y) := lg_pos y 5
    have skip : Sm (gx q v (nI k + 1) s) (gm (nI q) v (nI k + 1) t) := by
      rw [← nI_succ]; exact ih2 v s t h ok rl a3 a4 (by omega) (by omega) (by omega)
    by_cases y0 : y < 0
    · have c0 : lg_cmp y 0 < 0 := by rw [lz]; exact y0
      rw [if_pos c0, if_pos c0, bd_one, vl_eq, if_pos (show (-1 : Int32) < 0 by decide), vl_eq, vl_eq]
      exact skip
    have c0 : ¬ lg_cmp y 0 < 0 := by rw [lz]; exact y0
    rw [if_neg c0, if_neg c0]
    by_cases y5 : (5 : Int64) < y
    · have c6 : 0 ≤ lg_cmp y 6 := by rw [l6]; exact y5
      have c5 : 0 < lg_cmp y 5 := by rw [l5]; exact y5
      rw [if_pos c6, if_pos c5, bd_one, vl_eq, if_pos (show (-1 : Int32) < 0 by decide), vl_eq, vl_eq]
      exact skip
    have c6 : ¬ 0 ≤ lg_cmp y 6 := by rw [l6]; exact y5
    have c5 : ¬ 0 < lg_cmp y 5 := by rw [l5]; exact y5
    rw [if_neg c6, if_neg c5, bd_one, vl_eq]
    obtain ⟨z, hz, ez⟩ := i64_6 y0 (by rw [i64_56]; exact y5)
    rw [ez, if_neg (nI_pos (by omega)), x_isDead (show k < 32 by omega), m_lives rl hn hkn, bd_one, bd_one]
    simp only [b2i_0]
    cases hd : dead (co s 0) k with
    | true =>
      rw [if_neg (by decide), if_pos (by decide), vl_eq, vl_eq]
      exact skip
    | false =>
      have o1 := one_nI k
      rw [if_pos (Eq.refl false), if_neg (by decide), ixg_nI (show k < 14 by omega) (by decide), o1, ixg_nI (show 1 + k < 82 by omega) (by decide)]
      simp only [vl_eq]
      rw [← nI_succ]
      have hr : rng (nI z) 6 := ⟨z, hz, rfl⟩
      have rl2 := rl_hold (x := nI z) rl hn hkn
      rw [Nat.zero_add] at rl2
      have ok2 := ok_hold (c := k) (x := nI z) ok hr
      have mo : Mo t (wM t 9 (1 + k) (nI z)) := ⟨rfl, rfl, rfl, rfl, rfl, rfl, rfl, rfl⟩
      have i2 : Inv (wX s 0 3 k (nI z)) (wM t 9 (1 + k) (nI z)) := h.wr (by decide) (inl9 (by decide) (show k < 14 by omega)) mo ⟨n, m, ok2, rl2⟩
      refine ih2 (v + 1) _ _ i2 ?_ ?_ ?_ ?_ (by omega) (by omega) (by omega)
      · rw [co_wj (by decide)]; exact ok2
      · rw [co_wj (by decide)]; exact rl2
      · rw [gX_wX, if_neg (by omega)]; exact a3
      · exact a4
theorem op_lays {s : SX} {t : SM} (h : Inv s t) (a : Int32) : Sm (fX5_lays a s) (fX6_lays a t) := by
  have z0 : (0 : Int32) = 0 := Eq.refl 0
  have z1 : ¬ (1 : Int32) = 0 := by decide
  unfold fX5_lays fX6_lays
  rcases sh_pick a with ⟨p1, p2⟩ | ⟨q, hq, e, p1, p2⟩
  · rw [p1, p2, bd_one, bd_one, om_none, if_pos z0]
    exact fin0 h
  obtain ⟨a1, a2, a3, ⟨w, hw, a4⟩, a5⟩ := h.2.2.2.2.2 q hq
  obtain ⟨n, m, ok, rl⟩ := h.1
  rw [p1, p2, bd_one, bd_one, om_some hq, if_neg z1, e, ixg_nI hq (by decide)]
  unfold fX3_isMissing
  rw [a1]
  by_cases hk : gM t 16 q = 0
  · rw [if_pos hk, if_pos hk, bd_one, if_neg z1]
    exact fin5 h
  rw [if_neg hk, if_neg hk, bd_one, if_pos z0, vl_eq, vl_eq, vl_eq, vl_eq]
  unfold fX5_lays_34 fX6_lays_34
  exact lays_key ok.hn.1 hq hw n 0 400 400 0 s t h ok rl (a3.trans a4) a4 (by omega) (by have := ok.hn.1; omega) (by have := ok.hn.1; omega)
