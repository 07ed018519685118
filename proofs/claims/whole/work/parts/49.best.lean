/-! ===== a child elsewhere: best, key ===== -/
theorem crw_crw {r : Co} {j k : Nat} {x y : Int32} : crw (crw r j k x) j k y = crw r j k y := by
  funext a b
  unfold crw upd
  by_cases h : a = j
  · subst h
    by_cases hb : b = k
    · simp [hb]
    · simp [hb]
  · simp [h]
theorem crw_self {r : Co} {j k : Nat} {x : Int32} (h : r j k = x) : crw r j k x = r := by
  funext a b
  unfold crw upd
  by_cases ha : a = j
  · subst ha
    by_cases hb : b = k
    · simp [hb, h]
    · simp [hb]
  · simp [ha]
theorem Ml.trans_r11 {t t1 : SM} {f : Nat → Int32} (h : Ml t t1) : Ml t (rM t1 11 f) := h.Mk Mk.r11
theorem m_looseWith {n m c : Nat} {r : Co} {t : SM} {x : Int32} (rl : Rl 0 n m r t) (ok : Ok n m r) (hc : c < n) (hx : rng x 6) : ∃ t', fX6_looseWith (nI c) x t = some (LW n m (crw r 3 c x), t') ∧ Rl 0 n m r t' ∧ Mo t t' := by
  have hn := ok.1
  obtain ⟨t1, z1, z2, z3⟩ := m_lends rl ok
  have rl2 := rl_hold (x := x) z2 hn hc
  have ok2 := ok_hold (c := c) (x := x) ok hx
  obtain ⟨f, e1, -⟩ := m_looseSet rl2 ok2
  have mk : Mk 41 t1 (wM t1 9 (41 + (1 + c)) x) := by
    refine ⟨fun a a0 a9 _ => ?_, fun k _ _ _ => rfl, rfl, fun k hk => ?_⟩
    · funext b; rw [gM_wM, if_neg a9]
    · rw [gM_wM, if_pos rfl, if_neg (by omega)]
  have ml : Ml t (rM (wM t1 9 (41 + (1 + c)) x) 11 f) := z3.Mk (mk.trans Mk.r11)
  refine ⟨wM (rM (wM t1 9 (41 + (1 + c)) x) 11 f) 0 11 0, ?_, rl_back rl ok ml, mo_back ml⟩
  unfold fX6_looseWith
  rw [z1, bd_one, z2.2.1, show (1 : Int32) = nI 1 from rfl, at3, ixg_nI (by omega) (by decide), vl_eq, e1, bd_one, vl_eq, vl_eq]
theorem LW_hi14 {n m : Nat} {r : Co} (hm : m ≤ 12) : ∀ k, 14 ≤ k → k < 32 → bitB (LW n m r) k = false := fun k h1 _ => LW_hi hm k (by omega)
theorem op_best {s : SX} {t : SM} (h : Inv s t) (a : Int32) : Sm (fX5_best a s) (fX6_best a t) := by
  obtain ⟨n, m, ok, rl⟩ := h.1
  have hn := ok.1
  have hm := ok.2.1
  have key : ∀ (d q c F G : Nat) (bst few : Int32) (s1 : SX) (t1 : SM), q + d = 6 → d < F → d < G → c < n → Inv s1 t1 → co s1 0 = co s 0 → Rl 0 n m (co s 0) t1 → (∃ x, co s1 2 = crw (co s 0) 3 c x) → Sm (lp (fun _ _ _ _ _ => none) fX5_best_50b F (nI c) bst few (nI q) s1) (lp (fun _ _ _ _ _ => none) fX6_best_38b G (nI c) bst few (nI q) t1) := by
    intro d
    induction d with
    | zero =>
      intro q c F G bst few s1 t1 h1 h2 h3 hc i1 c0 rl1 hx
      obtain ⟨F, rfl⟩ : ∃ g, F = g + 1 := ⟨F - 1, by omega⟩
      obtain ⟨G, rfl⟩ : ∃ g, G = g + 1 := ⟨G - 1, by omega⟩
      have : q = 6 := by omega
      subst this
      show Sm (fX5_best_50b _ (nI c) bst few (nI 6) s1) (fX6_best_38b _ (nI c) bst few (nI 6) t1)
      generalize lp _ fX5_best_50b F = gx
      generalize lp _ fX6_best_38b G = gm
      unfold fX5_best_50b fX6_best_38b
      rw [if_pos (show (6 : Int32) ≤ nI 6 by decide), if_pos (show (6 : Int32) ≤ nI 6 by decide)]
      exact Sm.of i1
    | succ d ih =>
      intro q c F G bst few s1 t1 h1 h2 h3 hc i1 c0 rl1 hx
      obtain ⟨F, rfl⟩ : ∃ g, F = g + 1 := ⟨F - 1, by omega⟩
      obtain ⟨G, rfl⟩ : ∃ g, G = g + 1 := ⟨G - 1, by omega⟩
      obtain ⟨x, ex⟩ := hx
      have hq : q < 6 := by omega
      have ih2 := ih (q + 1) c F G
      show Sm (fX5_best_50b (lp _ fX5_best_50b F) (nI c) bst few (nI q) s1) (fX6_best_38b (lp _ fX6_best_38b G) (nI c) bst few (nI q) t1)
      generalize lp _ fX5_best_50b F = gx at ih2 ⊢
      generalize lp _ fX6_best_38b G = gm at ih2 ⊢
      have g6 : ¬ (6 : Int32) ≤ nI q := nI_ge (b := 6) hq (by decide)
      have hr : rng (nI q) 6 := ⟨q, hq, rfl⟩
      have okq := ok_hold (c := c) (x := nI q) ok hr
      have cw : co (wX s1 2 3 c (nI q)) 2 = crw (co s 0) 3 c (nI q) := by rw [co_wj (by decide), ex, crw_crw]
      obtain ⟨f, e1⟩ := x_looseWords (i := 2) (s := wX s1 2 3 c (nI q)) (n := n) (m := m) (by rw [cw]; exact okq)
      rw [cw] at e1
      obtain ⟨t2, w1, w2, w3⟩ := m_looseWith rl1 ok hc hr
      obtain ⟨z1, z2⟩ := cntP (LW_hi14 (n := n) (r := crw (co s 0) 3 c (nI q)) hm)
      unfold fX5_best_50b fX6_best_38b fX5_best_92 fX6_best_69 fX6_best_82
      rw [if_neg g6, if_neg g6, ixg_nI (show c < 14 by omega) (by decide), vl_eq, e1, bd_one, z1, bd_one, w1, bd_one, z2, bd_one]
      simp only [vl_eq]
      have fr : Fr 2 s1 (rX (wX s1 2 3 c (nI q)) 2 9 f) := Fr.wX.trans Fr.rX
      have c2 : co (rX (wX s1 2 3 c (nI q)) 2 9 f) 2 = crw (co s 0) 3 c (nI q) := by rw [co_9]; exact cw
      have c00 : co (rX (wX s1 2 3 c (nI q)) 2 9 f) 0 = co s 0 := by rw [co_o fr (by decide)]; exact c0
      have cl2 : Cl (crw (co s 0) 3 c (nI q)) := cl_crw (h.2.1 0 (by decide)) (inl9 (by decide) (show c < 14 by omega))
      have i2 : Inv (rX (wX s1 2 3 c (nI q)) 2 9 f) t2 := i1.after (n := n) (m := m) (by rw [c0]; exact ok) fr (by rw [c2]; exact cl2) (by rw [c0]; exact w2) w3
      rw [← nI_succ]
      by_cases hf : few ≤ nI (pcN 14 (LW n m (crw (co s 0) 3 c (nI q))))
      · rw [if_pos hf, if_pos hf, if_pos hf]
        exact ih2 bst few _ _ (by omega) (by omega) (by omega) hc i2 c00 w2 ⟨nI q, c2⟩
      · rw [if_neg hf, if_neg hf, if_neg hf]
        exact ih2 (nI q) _ _ _ (by omega) (by omega) (by omega) hc i2 c00 w2 ⟨nI q, c2⟩
  unfold fX5_best fX6_best
  rw [x_isChild a hn ok.hn.2, m_isChild a hn rl.2.2.1, bd_one, bd_one]
  simp only [b2i_0]
  cases h1 : inR a n with
  | false => rw [if_pos rfl, if_pos rfl]; exact fin0 h
  | true =>
    obtain ⟨c, hc, ec⟩ := inR_rng h1
    have tf : ¬ (true = false) := by decide
    rw [if_neg tf, if_neg tf, ec, x_isDead (show c < 32 by omega), m_lives rl hn hc, bd_one, bd_one]
    simp only [b2i_0]
    cases hd : dead (co s 0) c with
    | true => rw [if_neg tf, if_pos (show (!true) = false from rfl)]; exact fin4 h
    | false =>
      obtain ⟨s1, x1, x2, x3⟩ := x_become (i := 2) (j := 0) (s := s) (by decide) (h.2.1 2 (by decide)) (h.2.1 0 (by decide))
      have c0 : co s1 0 = co s 0 := co_o x3 (by decide)
      have i1 : Inv s1 t := h.after ok x3 (by rw [x2]; exact h.2.1 0 (by decide)) rl Mo.rfl'
      rw [if_pos rfl, if_neg (show ¬ (!false) = false by decide), x1, bd_one, vl_eq, vl_eq, vl_eq, vl_eq, vl_eq, vl_eq]
      unfold fX5_best_50 fX6_best_38
      exact key 6 0 c 400 400 0 13 s1 t (by omega) (by omega) (by omega) hc i1 c0 rl ⟨co s 0 3 c, by rw [x2, crw_self rfl]⟩
theorem op_key {s : SX} {t : SM} (h : Inv s t) (a : Int32) : Sm (fX5_key a s) (fX6_key a t) := by
  obtain ⟨n, m, ok, rl⟩ := h.1
  have hn := ok.1
  have hm := ok.2.1
  have tf : ¬ (true = false) := by decide
  have key : ∀ (d c F G : Nat) (bst most : Int32) (s1 : SX) (t1 : SM), rng a 6 → c + d = n → d < F → d < G → Inv s1 t1 → co s1 0 = co s 0 → Rl 0 n m (co s 0) t1 → co s1 2 = co s 0 → Sm (lp (fun _ _ _ _ _ _ => none) fX5_key_40b F a (LW n m (co s 0)) bst most (nI c) s1) (lp (fun _ _ _ _ _ _ => none) fX6_key_27b G a (LW n m (co s 0)) bst most (nI c) t1) := by
    intro d
    induction d with
    | zero =>
      intro c F G bst most s1 t1 ha h1 h2 h3 i1 c0 rl1 c2
      obtain ⟨F, rfl⟩ : ∃ g, F = g + 1 := ⟨F - 1, by omega⟩
      obtain ⟨G, rfl⟩ : ∃ g, G = g + 1 := ⟨G - 1, by omega⟩
      have : c = n := by omega
      subst this
      show Sm (fX5_key_40b _ a _ bst most (nI c) s1) (fX6_key_27b _ a _ bst most (nI c) t1)
      have f3 := fin3 i1
      generalize lp _ fX5_key_40b F = gx
      generalize lp _ fX6_key_27b G = gm
      unfold fX5_key_40b fX6_key_27b
      have e1 : gX s1 0 10 10 = nI c := by
        have := ok.2.2.1
        rw [← c0] at this
        exact this
      have g := nI_le (Nat.le_refl c) (show c < 2 ^ 31 by omega)
      rw [e1, rl1.2.2.1, if_pos g, if_pos g]
      by_cases hb : 0 ≤ bst
      · rw [if_pos hb, if_pos hb]; exact Sm.of i1
      · rw [if_neg hb, if_neg hb]; exact f3
    | succ d ih =>
      intro c F G bst most s1 t1 ha h1 h2 h3 i1 c0 rl1 c2
      obtain ⟨F, rfl⟩ : ∃ g, F = g + 1 := ⟨F - 1, by omega⟩
      obtain ⟨G, rfl⟩ : ∃ g, G = g + 1 := ⟨G - 1, by omega⟩
      have hc : c < n := by omega
      have ih2 := ih (c + 1) F G
      show Sm (fX5_key_40b (lp _ fX5_key_40b F) a _ bst most (nI c) s1) (fX6_key_27b (lp _ fX6_key_27b G) a _ bst most (nI c) t1)
      generalize lp _ fX5_key_40b F = gx at ih2 ⊢
      generalize lp _ fX6_key_27b G = gm at ih2 ⊢
      have e1 : gX s1 0 10 10 = nI n := by
        have := ok.2.2.1
        rw [← c0] at this
        exact this
      have e2 : gX s1 0 2 c = co s 0 2 c := by rw [← c0]; rfl
      have e3 : gM t1 3 c = co s 0 2 c := (rl1.ch hc).2.1
      have g := nI_ge hc (show n < 2 ^ 31 by omega)
      have skip : Sm (gx a (LW n m (co s 0)) bst most (nI c + 1) s1) (gm a (LW n m (co s 0)) bst most (nI c + 1) t1) := by
        rw [← nI_succ]; exact ih2 bst most s1 t1 ha (by omega) (by omega) (by omega) i1 c0 rl1 c2
      unfold fX5_key_40b fX6_key_27b fX5_key_142 fX6_key_102
      rw [e1, rl1.2.2.1, if_neg g, if_neg g, ixg_nI (show c < 14 by omega) (by decide), ixg_nI (show c < 14 by omega) (by decide), e2, e3]
      by_cases hf : co s 0 2 c = a
      · rw [if_pos hf, if_pos hf, x_isDead (show c < 32 by omega), m_lives rl1 hn hc, bd_one, bd_one, c0]
        simp only [b2i_0]
        cases hd : dead (co s 0) c with
        | true => rw [if_neg tf, if_pos (show (!true) = false from rfl), vl_eq, vl_eq]; exact skip
        | false =>
          have okq := ok_hold (c := c) (x := a) ok ha
          have cw : co (wX s1 2 3 c a) 2 = crw (co s 0) 3 c a := by rw [co_wj (by decide), c2]
          obtain ⟨f, l1⟩ := x_looseWords (i := 2) (s := wX s1 2 3 c a) (n := n) (m := m) (by rw [cw]; exact okq)
          rw [cw] at l1
          obtain ⟨t2, w1, w2, w3⟩ := m_looseWith rl1 ok hc ha
          obtain ⟨z1, z2⟩ := cntP (x := LW n m (crw (co s 0) 3 c a) &&& (LW n m (co s 0) ^^^ (-1))) (fun k k1 k2 => by rw [bit_and, LW_hi14 hm k k1 k2]; rfl)
          rw [if_pos rfl, if_neg (show ¬ (!false) = false by decide), ixg_nI (show c < 14 by omega) (by decide), vl_eq, l1, bd_one, z1, bd_one, vl_eq, ixg_nI (show c < 14 by omega) (by decide), ixg_nI (show c < 14 by omega) (by decide), w1, bd_one, z2, bd_one, vl_eq, vl_eq]
          unfold fX6_key_85 fX6_key_100 fX6_key_102
          simp only [vl_eq]
          have h3 : gX (rX (wX s1 2 3 c a) 2 9 f) 0 3 c = co s 0 3 c := by rw [← c0]; rfl
          rw [h3, ← nI_succ]
          have fr : Fr 2 s1 (wX (rX (wX s1 2 3 c a) 2 9 f) 2 3 c (co s 0 3 c)) := (Fr.wX.trans Fr.rX).trans Fr.wX
          have c22 : co (wX (rX (wX s1 2 3 c a) 2 9 f) 2 3 c (co s 0 3 c)) 2 = co s 0 := by
            rw [co_wj (by decide), co_9, cw, crw_crw, crw_self rfl]
          have c00 : co (wX (rX (wX s1 2 3 c a) 2 9 f) 2 3 c (co s 0 3 c)) 0 = co s 0 := by rw [co_o fr (by decide)]; exact c0
          have i2 : Inv (wX (rX (wX s1 2 3 c a) 2 9 f) 2 3 c (co s 0 3 c)) t2 := i1.after (n := n) (m := m) (by rw [c0]; exact ok) fr (by rw [c22]; exact h.2.1 0 (by decide)) (by rw [c0]; exact w2) w3
          by_cases hy : nI (pcN 14 (LW n m (crw (co s 0) 3 c a) &&& (LW n m (co s 0) ^^^ (-1)))) ≤ most
          · rw [if_pos hy, if_pos hy, if_pos hy]
            exact ih2 bst most _ _ ha (by omega) (by omega) (by omega) i2 c00 w2 c22
          · rw [if_neg hy, if_neg hy, if_neg hy]
            exact ih2 (nI c) _ _ _ ha (by omega) (by omega) (by omega) i2 c00 w2 c22
      · rw [if_neg hf, if_neg hf, vl_eq, vl_eq]; exact skip
  unfold fX5_key fX6_key
  rw [x_isKing, m_isKing, bd_one, bd_one]
  simp only [b2i_0]
  cases h1 : inR a 6 with
  | false => rw [if_pos rfl, if_pos rfl]; exact fin0 h
  | true =>
    obtain ⟨s1, x1, x2, x3⟩ := x_become (i := 2) (j := 0) (s := s) (by decide) (h.2.1 2 (by decide)) (h.2.1 0 (by decide))
    have c0 : co s1 0 = co s 0 := co_o x3 (by decide)
    have i1 : Inv s1 t := h.after ok x3 (by rw [x2]; exact h.2.1 0 (by decide)) rl Mo.rfl'
    obtain ⟨f, l1⟩ := x_looseWords (i := 0) (s := s1) (n := n) (m := m) (by rw [c0]; exact ok)
    rw [c0] at l1
    obtain ⟨g, l2, -⟩ := m_looseSet rl ok
    rw [if_neg tf, if_neg tf, x1, bd_one, l1, bd_one, l2, bd_one]
    rw [vl_eq, vl_eq, vl_eq, vl_eq, vl_eq, vl_eq, vl_eq, vl_eq]
    unfold fX5_key_40 fX6_key_27
    refine key n 0 400 400 (-1) 0 _ _ (inR_rng h1) (by omega) (by omega) (by omega) (i1.x9 Mo.r11 Mq.r11) ?_ (rl.q Mq.r11) ?_
    · rw [co_9]; exact c0
    · rw [co_o (Fr.rX (i := 0)) (by decide)]; exact x2
