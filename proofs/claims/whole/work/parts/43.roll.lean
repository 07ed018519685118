/-! ===== the roll is written ===== -/
theorem nar_s {v : Int32} (h : v = -1 ∨ rng v 6) : Int32.toInt64 ((Int32.toInt8 (Int64.toInt32 (Int32.toInt64 v))).toInt32) = Int32.toInt64 v ∧ Int32.toInt64 ((Int32.toInt16 (Int64.toInt32 (Int32.toInt64 v))).toInt32) = Int32.toInt64 v := by
  have key : ∀ k, k < 6 → Int32.toInt64 ((Int32.toInt8 (Int64.toInt32 (Int32.toInt64 (nI k)))).toInt32) = Int32.toInt64 (nI k) ∧ Int32.toInt64 ((Int32.toInt16 (Int64.toInt32 (Int32.toInt64 (nI k)))).toInt32) = Int32.toInt64 (nI k) := by decide
  rcases h with h | ⟨k, hk, h⟩
  · rw [h]; decide
  · rw [h]; exact key k hk
theorem x_putS {s : SX} {q k : Nat} (hk : k < 40) {v : Int32} (hv : v = -1 ∨ rng v 6) : fX3_put q (nI k) (Int32.toInt64 v) s = some ((), wL s q k (Int32.toInt64 v)) := by
  obtain ⟨n8, n16⟩ := nar_s hv
  unfold fX3_put
  rw [ixg_nI hk (by decide), ixg_nI hk (by decide), ixg_nI hk (by decide), vl_eq, vl_eq, vl_eq, n8, n16]
  by_cases h8 : gX s (9 + q) 0 1 = 8
  · rw [if_pos h8]
  · rw [if_neg h8]
    by_cases h16 : gX s (9 + q) 0 1 = 16
    · rw [if_pos h16]
    · rw [if_neg h16]
theorem roll_key {n m q w u : Nat} (hn : n ≤ 14) (hq : q < 4) (hw : w < 41) (un : u ≤ n) (uw : u ≤ w) (ue : u = n ∨ u = w) : ∀ (d k F G : Nat) (s : SX) (t : SM), Inv s t → Ok n m (co s 0) → Rl 0 n m (co s 0) t → gM t 17 q = nI w → k + d = u → d < F → d < G → Sm (lp (fun _ _ _ _ => none) fX5_roll_47b F q (nI u) (nI k) s) (lp (fun _ _ _ => none) fX6_roll_32b G (nI q) (nI k) t) := by
  intro d
  induction d with
  | zero =>
    intro k F G s t h ok rl a4 h1 h2 h3
    obtain ⟨F, rfl⟩ : ∃ g, F = g + 1 := ⟨F - 1, by omega⟩
    obtain ⟨G, rfl⟩ : ∃ g, G = g + 1 := ⟨G - 1, by omega⟩
    have hk : k = u := by omega
    subst hk
    have e2 : gM t 0 1 = nI n := rl.2.2.1
    show Sm (fX5_roll_47b (lp _ fX5_roll_47b F) q (nI k) (nI k) s) (fX6_roll_32b (lp _ fX6_roll_32b G) (nI q) (nI k) t)
    generalize lp _ fX5_roll_47b F = gx
    generalize lp _ fX6_roll_32b G = gm
    unfold fX5_roll_47b fX6_roll_32b
    rw [if_pos (nI_le (Nat.le_refl k) (by omega)), e2, ixg_nI hq (by decide), a4]
    by_cases c : nI n ≤ nI k
    · rw [if_pos c]; exact Sm.of h
    · have c4 : ¬ n ≤ k := fun c5 => c (nI_le c5 (by omega))
      have c6 : nI w ≤ nI k := nI_le (by omega) (by omega)
      rw [if_neg c, if_pos c6]; exact Sm.of h
  | succ d ih =>
    intro k F G s t h ok rl a4 h1 h2 h3
    obtain ⟨F, rfl⟩ : ∃ g, F = g + 1 := ⟨F - 1, by omega⟩
    obtain ⟨G, rfl⟩ : ∃ g, G = g + 1 := ⟨G - 1, by omega⟩
    have hk40 : k < 40 := by omega
    have hkn : k < n := by omega
    have e2 : gM t 0 1 = nI n := rl.2.2.1
    have xr := x_rolled ok hkn
    have mr := m_rolled rl hn hkn
    have c3 : co s 0 3 k = gX s 0 3 k := rfl
    rw [c3] at mr
    have hv : (if dead (co s 0) k = true then -1 else gX s 0 3 k) = -1 ∨ rng (if dead (co s 0) k = true then -1 else gX s 0 3 k) 6 := by
      by_cases hd : dead (co s 0) k = true
      · rw [if_pos hd]; exact Or.inl rfl
      · rw [if_neg hd]; exact Or.inr (ok.ch hkn).2.2.1
    generalize (if dead (co s 0) k = true then -1 else gX s 0 3 k) = v at xr mr hv
    have xp := x_putS (s := s) (q := q) hk40 hv
    have ih2 := ih (k + 1) F G (wL s q k (Int32.toInt64 v)) (wN t 18 (40 * q + k) (Int32.toInt64 v)) (inv_put h hq hk40 _) ok rl a4 (by omega) (by omega) (by omega)
    have g1 : ¬ nI u ≤ nI k := nI_ge (by omega) (by omega)
    have g2 : ¬ nI w ≤ nI k := nI_ge (by omega) (by omega)
    have g3 : ¬ nI n ≤ nI k := nI_ge (by omega) (by omega)
    show Sm (fX5_roll_47b (lp _ fX5_roll_47b F) q (nI u) (nI k) s) (fX6_roll_32b (lp _ fX6_roll_32b G) (nI q) (nI k) t)
    generalize lp _ fX5_roll_47b F = gx at ih2 ⊢
    generalize lp _ fX6_roll_32b G = gm at ih2 ⊢
    unfold fX5_roll_47b fX6_roll_32b
    rw [if_neg g1, e2, if_neg g3, ixg_nI hq (by decide), a4, if_neg g2, xr, bd_one, xp, bd_one, mr, bd_one, nI_mul40 hq hk40, ixg_nI (show 40 * q + k < 160 by omega) (by decide), vl_eq, vl_eq, vl_eq, ← nI_succ]
    exact ih2
theorem op_roll {s : SX} {t : SM} (h : Inv s t) (a : Int32) : Sm (fX5_roll a s) (fX6_roll a t) := by
  have z0 : (0 : Int32) = 0 := Eq.refl 0
  have z1 : ¬ (1 : Int32) = 0 := by decide
  unfold fX5_roll fX6_roll
  rcases sh_pick a with ⟨p1, p2⟩ | ⟨q, hq, e, p1, p2⟩
  · rw [p1, p2, bd_one, bd_one, om_none, if_pos z0]
    exact fin0 h
  · obtain ⟨a1, a2, a3, ⟨w, hw, a4⟩, a5⟩ := h.2.2.2.2.2 q hq
    obtain ⟨n, m, ok, rl⟩ := h.1
    obtain ⟨hn, en⟩ := ok.hn
    rw [p1, p2, bd_one, bd_one, om_some hq, if_neg z1, e, ixg_nI hq (by decide)]
    unfold fX3_isMissing
    rw [a1]
    by_cases hk : gM t 16 q = 0
    · rw [if_pos hk, if_pos hk, bd_one, if_neg z1]
      exact fin5 h
    · have a3' := a3.trans a4
      rw [if_neg hk, if_neg hk, bd_one, if_pos z0, vl_eq, vl_eq, vl_eq, a3', en]
      unfold fX5_roll_47 fX6_roll_32
      by_cases c : nI w < nI n
      · have c2 : w ≤ n := Nat.le_of_not_lt (fun c3 => absurd (nI_le (a := n) (b := w) (by omega) (by omega)) (Int32.not_le.mpr c))
        rw [if_pos c]
        exact roll_key hn hq hw c2 (Nat.le_refl w) (Or.inr rfl) w 0 400 400 s t h ok rl a4 (by omega) (by omega) (by omega)
      · have c2 : n ≤ w := Nat.le_of_not_lt (fun c3 => nI_ge (a := w) (b := n) c3 (by omega) (Int32.not_lt.mp c))
        rw [if_neg c]
        exact roll_key hn hq hw (Nat.le_refl n) c2 (Or.inl rfl) n 0 400 400 s t h ok rl a4 (by omega) (by omega) (by omega)
