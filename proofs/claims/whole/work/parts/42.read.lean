/-! ===== the roll is read ===== -/
theorem m_rolled {n m c : Nat} {r : Co} {t : SM} (rl : Rl 0 n m r t) (hn : n ≤ 14) (hc : c < n) : fX6_rolled (nI c) t = some (if dead r c = true then -1 else r 3 c, t) := by
  unfold fX6_rolled
  rw [m_lives rl hn hc, bd_one, m_holder rl hn hc, bd_one]
  by_cases hd : dead r c = true
  · have e : b2i (!dead r c) = 0 := by rw [hd]; decide
    rw [if_pos hd, if_pos e]
  · have hd2 : dead r c = false := Bool.eq_false_iff.mpr hd
    have e : ¬ b2i (!dead r c) = 0 := by rw [hd2]; decide
    rw [if_neg hd, if_neg e]
theorem m_end77 {q w k n : Nat} {t : SM} (hq : q < 4) (e : gM t 17 q = nI w) (e2 : gM t 0 1 = nI n) : fX6_read_77 (nI q) (nI k) t = some (if nI k = nI w then (if nI k = nI n then 0 else nI k + 1) else nI k + 1, t) := by
  unfold fX6_read_77
  rw [ixg_nI hq (by decide), e, e2]
  by_cases h1 : nI k = nI w
  · rw [if_pos h1, if_pos h1]
    by_cases h2 : nI k = nI n
    · rw [if_pos h2, if_pos h2]
    · rw [if_neg h2, if_neg h2]
  · rw [if_neg h1, if_neg h1]
theorem read_key {s : SX} {t : SM} {n m q w u : Nat} (ok : Ok n m (co s 0)) (rl : Rl 0 n m (co s 0) t) (hn : n ≤ 14) (en : gX s 0 10 10 = nI n) (hq : q < 4) (hw : w < 41) (a3 : gX s (9 + q) 0 2 = nI w) (a4 : gM t 17 q = nI w) (a5 : ∀ k, k < 40 → gL s q k = gN t 18 (40 * q + k)) (un : u ≤ n) (uw : u ≤ w) (ue : u = n ∨ u = w) : ∀ (d k F G : Nat), k + d = u → d < F → d < G → ∃ v, lp (fun _ _ _ _ => none) fX5_read_47b F q (nI u) (nI k) s = some (v, s) ∧ lp (fun _ _ _ => none) fX6_read_32b G (nI q) (nI k) t = some (v, t) := by
  have inj : ∀ {x y : Nat}, x < 2 ^ 31 → y < 2 ^ 31 → nI x = nI y → x = y := by
    intro x y hx hy e
    have := congrArg Int32.toNatClampNeg e
    rw [nI_clamp hx, nI_clamp hy] at this
    exact this
  have e2 : gM t 0 1 = nI n := rl.2.2.1
  intro d
  induction d with
  | zero =>
    intro k F G h1 h2 h3
    obtain ⟨F, rfl⟩ : ∃ g, F = g + 1 := ⟨F - 1, by omega⟩
    obtain ⟨G, rfl⟩ : ∃ g, G = g + 1 := ⟨G - 1, by omega⟩
    have hk : k = u := by omega
    subst hk
    refine ⟨if nI n = nI w then 0 else 1 + nI k, ?_, ?_⟩
    · show fX5_read_47b _ q (nI k) (nI k) s = _
      generalize lp _ fX5_read_47b F = g
      unfold fX5_read_47b
      rw [if_pos (nI_le (Nat.le_refl k) (by omega)), en, a3]
      by_cases h : nI n = nI w
      · rw [if_pos h, if_pos h]
      · rw [if_neg h, if_neg h]
    · show fX6_read_32b _ (nI q) (nI k) t = _
      generalize lp _ fX6_read_32b G = g
      have hv : (if nI k = nI w then (if nI k = nI n then (0 : Int32) else nI k + 1) else nI k + 1) = if nI n = nI w then 0 else 1 + nI k := by
        by_cases h : nI n = nI w
        · have hnw := inj (by omega) (by omega) h
          have c1 : k = n := by omega
          have c2 : k = w := by omega
          rw [if_pos h, ← c1, ← c2]
          have y : nI k = nI k := Eq.refl _
          rw [if_pos y, if_pos y]
        · rw [if_neg h, Int32.add_comm 1 (nI k)]
          by_cases c2 : nI k = nI w
          · have c3 : ¬ nI k = nI n := fun c3 => h (c3.symm.trans c2)
            rw [if_pos c2, if_neg c3]
          · rw [if_neg c2]
      have m77 := m_end77 (k := k) (t := t) hq a4 e2
      rw [hv] at m77
      unfold fX6_read_32b
      rw [ixg_nI hq (by decide), a4, e2, m77]
      by_cases c : nI w ≤ nI k
      · rw [if_pos c]
      · have c4 : ¬ w ≤ k := fun c5 => c (nI_le c5 (by omega))
        have c6 : nI n ≤ nI k := nI_le (by omega) (by omega)
        rw [if_neg c, if_pos c6]
  | succ d ih =>
    intro k F G h1 h2 h3
    obtain ⟨F, rfl⟩ : ∃ g, F = g + 1 := ⟨F - 1, by omega⟩
    obtain ⟨G, rfl⟩ : ∃ g, G = g + 1 := ⟨G - 1, by omega⟩
    have ih2 := ih (k + 1) F G (by omega) (by omega) (by omega)
    have hk40 : k < 40 := by omega
    have hkn : k < n := by omega
    have m77 := m_end77 (k := k) (t := t) hq a4 e2
    have nw : ¬ nI k = nI w := fun c => by have := inj (by omega) (by omega) c; omega
    rw [if_neg nw] at m77
    have xr := x_rolled ok hkn
    have mr := m_rolled rl hn hkn
    have c3 : co s 0 3 k = gX s 0 3 k := rfl
    rw [c3] at mr
    have g1 : ¬ nI u ≤ nI k := nI_ge (by omega) (by omega)
    have g2 : ¬ nI w ≤ nI k := nI_ge (by omega) (by omega)
    have g3 : ¬ nI n ≤ nI k := nI_ge (by omega) (by omega)
    show ∃ v, fX5_read_47b (lp _ fX5_read_47b F) q (nI u) (nI k) s = some (v, s) ∧ fX6_read_32b (lp _ fX6_read_32b G) (nI q) (nI k) t = some (v, t)
    generalize lp _ fX5_read_47b F = gx at ih2 ⊢
    generalize lp _ fX6_read_32b G = gm at ih2 ⊢
    unfold fX5_read_47b fX6_read_32b
    rw [if_neg g1, ixg_nI hk40 (by decide), xr, bd_one, ixg_nI hq (by decide), a4, e2, if_neg g2, if_neg g3, nI_mul40 hq hk40, ixg_nI (show 40 * q + k < 160 by omega) (by decide), mr, bd_one, a5 k hk40, m77, vl_eq, vl_eq, Int32.add_comm 1 (nI k), ← nI_succ]
    by_cases hz : lg_cmp (gN t 18 (40 * q + k)) (Int32.toInt64 (if dead (co s 0) k = true then -1 else gX s 0 3 k)) = 0
    · rw [if_pos hz, if_pos hz]; exact ih2
    · rw [if_neg hz, if_neg hz]; exact ⟨_, rfl, by rw [nI_succ]⟩
theorem op_read {s : SX} {t : SM} (h : Inv s t) (a : Int32) : Sm (fX5_read a s) (fX6_read a t) := by
  have z0 : (0 : Int32) = 0 := Eq.refl 0
  have z1 : ¬ (1 : Int32) = 0 := by decide
  unfold fX5_read fX6_read
  rcases sh_pick a with ⟨p1, p2⟩ | ⟨q, hq, e, p1, p2⟩
  · rw [p1, p2, bd_one, bd_one, om_none, if_pos z0]
    exact fin0 h
  · obtain ⟨a1, a2, a3, ⟨w, hw, a4⟩, a5⟩ := h.2.2.2.2.2 q hq
    obtain ⟨n, m, ok, rl⟩ := h.1
    obtain ⟨hn, en⟩ := ok.hn
    rw [p1, p2, bd_one, bd_one, om_some hq, if_neg z1, e, ixg_nI hq (by decide)]
    unfold fX3_isMissing
    rw [a1]
    by_cases hk : gM t 16 q = 0
    · rw [if_pos hk, if_pos hk, bd_one, if_neg z1]
      exact fin5 h
    · have a3' := a3.trans a4
      rw [if_neg hk, if_neg hk, bd_one, if_pos z0, vl_eq, vl_eq, vl_eq, a3', en]
      unfold fX5_read_47 fX6_read_32
      by_cases c : nI w < nI n
      · have c2 : w ≤ n := Nat.le_of_not_lt (fun c3 => absurd (nI_le (a := n) (b := w) (by omega) (by omega)) (Int32.not_le.mpr c))
        obtain ⟨v, v1, v2⟩ := read_key ok rl hn en hq hw a3' a4 a5 c2 (Nat.le_refl w) (Or.inr rfl) w 0 400 400 (by omega) (by omega) (by omega)
        rw [if_pos c]
        exact ⟨v, s, t, v1, v2, h⟩
      · have c2 : n ≤ w := Nat.le_of_not_lt (fun c3 => nI_ge (a := w) (b := n) c3 (by omega) (Int32.not_lt.mp c))
        obtain ⟨v, v1, v2⟩ := read_key ok rl hn en hq hw a3' a4 a5 (Nat.le_refl n) c2 (Or.inl rfl) n 0 400 400 (by omega) (by omega) (by omega)
        rw [if_neg c]
        exact ⟨v, s, t, v1, v2, h⟩
