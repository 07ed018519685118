/-! ===== the law: every answer is the same ===== -/
theorem inv_start : Inv s00 t00 := by
  have c0 : ∀ i, co s00 i = fun _ _ => 0 := by
    intro i
    funext j k
    unfold co
    by_cases h : j = 9
    · rw [if_pos h]
    · rw [if_neg h]; rfl
  have z0 : (0 : Int32) = nI 0 := rfl
  refine ⟨⟨0, 0, ?_, ?_⟩, fun i _ => ?_, ⟨rfl, Or.inl rfl⟩, fun k _ => rfl, ⟨0, by decide, rfl, rfl, fun k hk => absurd hk (Nat.not_lt_zero k)⟩, fun q _ => ⟨rfl, Or.inl rfl, rfl, ⟨0, by decide, rfl⟩, fun k _ => rfl⟩⟩
  · rw [c0]
    exact ⟨by decide, by decide, rfl, rfl, fun c hc => absurd hc (Nat.not_lt_zero c), fun c hc => absurd hc (Nat.not_lt_zero c), fun k _ => ⟨0, by decide, rfl⟩, ⟨0, by decide, rfl⟩, fun c _ => bit_0 c, fun c _ => bit_0 c⟩
  · rw [c0]
    exact ⟨by decide, rfl, rfl, rfl, fun k _ => rfl, fun c hc => absurd hc (Nat.not_lt_zero c), fun c hc => absurd hc (Nat.not_lt_zero c), rfl⟩
  · rw [c0]; exact fun _ _ _ => rfl
theorem law_a {s : SX} {t : SM} {A : Option (Int32 × SX)} {B : Option (Int32 × SM)} {C : Int32 → SL → Option (Int32 × SL)} {K : SL → Option (Int32 × SL)} (hK : ∀ s t, Inv s t → ∃ s', K (s, t) = some (1, s')) (h : Sm A B) (hC : ∀ v s', C v (s', t) = bd (lM (s', t) B) fun v8 s9 => if v = v8 then K s9 else some (0, s9)) : ∃ s', bd (lX (s, t) A) C = some (1, s') := by
  obtain ⟨v, s1, t1, e1, e2, e3⟩ := h
  have a1 : lX (s, t) A = some (v, (s1, t)) := by rw [e1]; rfl
  have a2 : lM (s1, t) B = some (v, (s1, t1)) := by rw [e2]; rfl
  rw [a1, bd_one, hC, a2, bd_one, if_pos rfl]
  exact hK s1 t1 e3
theorem law_w {s : SX} {t : SM} {A : Option (Int64 × SX)} {B : Option (Int64 × SM)} {C : Int64 → SL → Option (Int32 × SL)} {K : SL → Option (Int32 × SL)} (hK : ∀ s t, Inv s t → ∃ s', K (s, t) = some (1, s')) (h : Sm A B) (hC : ∀ v s', C v (s', t) = bd (lM (s', t) B) fun v8 s9 => if lg_cmp v v8 = 0 then K s9 else some (0, s9)) : ∃ s', bd (lX (s, t) A) C = some (1, s') := by
  obtain ⟨v, s1, t1, e1, e2, e3⟩ := h
  have a1 : lX (s, t) A = some (v, (s1, t)) := by rw [e1]; rfl
  have a2 : lM (s1, t) B = some (v, (s1, t1)) := by rw [e2]; rfl
  have z : lg_cmp v v = 0 := by
    unfold lg_cmp
    rw [if_neg (show ¬ v > v from Int64.lt_irrefl), if_pos rfl]
  rw [a1, bd_one, hC, a2, bd_one, if_pos z]
  exact hK s1 t1 e3
theorem law_c {N p : Nat} (hN : N ≤ 384) (hp : p ≤ 400) : (nI N - 6 < nI p) = (N < p + 6) := by
  have e6 : (6 : Int32).toInt = 6 := by decide
  rw [Int32.lt_iff_toInt_lt, Int32.toInt_sub, nI_toInt (by omega), nI_toInt (by omega), e6, Int.bmod_eq_of_le (by omega) (by omega)]
  apply propext; omega
theorem law_step {N p : Nat} {xs : Nat → Int32} (hN : N ≤ 384) (hp : p + 6 ≤ N) {k18 : Int32 → SL → Option (Int32 × SL)} (hk : ∀ s t, Inv s t → ∃ s', k18 (nI (p + 6)) (s, t) = some (1, s')) {s : SX} {t : SM} (h : Inv s t) : ∃ s', fL_law_18b N xs k18 (nI p) (s, t) = some (1, s') := by
  have hK : ∀ s t, Inv s t → ∃ s', fL_law_1457 N xs k18 (nI p) (s, t) = some (1, s') := by
    intro s t h
    unfold fL_law_1457
    rw [vl_eq, show (6 : Int32) = nI 6 from rfl, nI_add]
    exact hk s t h
  have i0 : ∀ F : Nat → Option (Int32 × SL), ixg (nI p) N F = F p := fun F => ixg_nI (by omega) (by omega) F
  have i1 : ∀ F : Nat → Option (Int32 × SL), ixg (nI p + 1) N F = F (p + 1) := fun F => by rw [show (1 : Int32) = nI 1 from rfl, nI_add]; exact ixg_nI (by omega) (by omega) F
  have i2 : ∀ F : Nat → Option (Int32 × SL), ixg (nI p + 2) N F = F (p + 2) := fun F => by rw [show (2 : Int32) = nI 2 from rfl, nI_add]; exact ixg_nI (by omega) (by omega) F
  have i3 : ∀ F : Nat → Option (Int32 × SL), ixg (nI p + 3) N F = F (p + 3) := fun F => by rw [show (3 : Int32) = nI 3 from rfl, nI_add]; exact ixg_nI (by omega) (by omega) F
  have i4 : ∀ F : Nat → Option (Int32 × SL), ixg (nI p + 4) N F = F (p + 4) := fun F => by rw [show (4 : Int32) = nI 4 from rfl, nI_add]; exact ixg_nI (by omega) (by omega) F
  have i5 : ∀ F : Nat → Option (Int32 × SL), ixg (nI p + 5) N F = F (p + 5) := fun F => by rw [show (5 : Int32) = nI 5 from rfl, nI_add]; exact ixg_nI (by omega) (by omega) F
  unfold fL_law_18b
  rw [if_neg (show ¬ nI N - 6 < nI p by rw [law_c hN (by omega)]; omega), i0]
  by_cases c0 : (xs p &&& 63) = 0
  · rw [if_pos c0, i1, i2]
    refine law_a hK (op_fear h (xs (p + 1)) (xs (p + 2))) (fun v s' => ?_)
    show ixg (nI p + 1) N _ = _
    rw [i1, i2]
  rw [if_neg c0]
  by_cases c1 : (xs p &&& 63) = 1
  · rw [if_pos c1, i1, i2]
    refine law_a hK (op_kingOf h (xs (p + 1)) (xs (p + 2))) (fun v s' => ?_)
    show ixg (nI p + 1) N _ = _
    rw [i1, i2]
  rw [if_neg c1]
  by_cases c2 : (xs p &&& 63) = 2
  · rw [if_pos c2, i1, i2, i3]
    refine law_a hK (op_child h (xs (p + 1)) (xs (p + 2)) (xs (p + 3))) (fun v s' => ?_)
    show ixg (nI p + 1) N _ = _
    rw [i1, i2, i3]
  rw [if_neg c2]
  by_cases c3 : (xs p &&& 63) = 3
  · rw [if_pos c3, i1, i2]
    refine law_a hK (op_of h (xs (p + 1)) (xs (p + 2))) (fun v s' => ?_)
    show ixg (nI p + 1) N _ = _
    rw [i1, i2]
  rw [if_neg c3]
  by_cases c4 : (xs p &&& 63) = 4
  · rw [if_pos c4, i1, i2]
    refine law_a hK (op_move h (xs (p + 1)) (xs (p + 2))) (fun v s' => ?_)
    show ixg (nI p + 1) N _ = _
    rw [i1, i2]
  rw [if_neg c4]
  by_cases c5 : (xs p &&& 63) = 5
  · rw [if_pos c5, i1, i2]
    refine law_a hK (op_worth h (xs (p + 1)) (xs (p + 2))) (fun v s' => ?_)
    show ixg (nI p + 1) N _ = _
    rw [i1, i2]
  rw [if_neg c5]
  by_cases c6 : (xs p &&& 63) = 6
  · rw [if_pos c6, i1, i2]
    refine law_a hK (op_turn h (xs (p + 1)) (xs (p + 2))) (fun v s' => ?_)
    show ixg (nI p + 1) N _ = _
    rw [i1, i2]
  rw [if_neg c6]
  by_cases c7 : (xs p &&& 63) = 7
  · rw [if_pos c7, i1, i2]
    refine law_a hK (op_as h (xs (p + 1)) (xs (p + 2))) (fun v s' => ?_)
    show ixg (nI p + 1) N _ = _
    rw [i1, i2]
  rw [if_neg c7]
  by_cases c8 : (xs p &&& 63) = 8
  · rw [if_pos c8, i1]
    refine law_a hK (op_dies h (xs (p + 1))) (fun v s' => ?_)
    show ixg (nI p + 1) N _ = _
    rw [i1]
  rw [if_neg c8]
  by_cases c9 : (xs p &&& 63) = 9
  · rw [if_pos c9, i1, i2]
    refine law_a hK (op_swap h (xs (p + 1)) (xs (p + 2))) (fun v s' => ?_)
    show ixg (nI p + 1) N _ = _
    rw [i1, i2]
  rw [if_neg c9]
  by_cases c10 : (xs p &&& 63) = 10
  · rw [if_pos c10, i1, i2, i3, i4]
    refine law_a hK (op_treaty h (xs (p + 1)) (xs (p + 2)) (xs (p + 3)) (xs (p + 4))) (fun v s' => ?_)
    show ixg (nI p + 1) N _ = _
    rw [i1, i2, i3, i4]
  rw [if_neg c10]
  by_cases c11 : (xs p &&& 63) = 11
  · rw [if_pos c11, i1, i2]
    refine law_a hK (op_treatyOf h (xs (p + 1)) (xs (p + 2))) (fun v s' => ?_)
    show ixg (nI p + 1) N _ = _
    rw [i1, i2]
  rw [if_neg c11]
  by_cases c12 : (xs p &&& 63) = 12
  · rw [if_pos c12, i1, i2]
    refine law_a hK (op_gain h (xs (p + 1)) (xs (p + 2))) (fun v s' => ?_)
    show ixg (nI p + 1) N _ = _
    rw [i1, i2]
  rw [if_neg c12]
  by_cases c13 : (xs p &&& 63) = 13
  · rw [if_pos c13, i1, i2]
    refine law_a hK (op_pledge h (xs (p + 1)) (xs (p + 2))) (fun v s' => ?_)
    show ixg (nI p + 1) N _ = _
    rw [i1, i2]
  rw [if_neg c13]
  by_cases c14 : (xs p &&& 63) = 14
  · rw [if_pos c14, i1]
    refine law_a hK (op_ease h (xs (p + 1))) (fun v s' => ?_)
    show ixg (nI p + 1) N _ = _
    rw [i1]
  rw [if_neg c14]
  by_cases c15 : (xs p &&& 63) = 15
  · rw [if_pos c15]
    refine law_a hK (op_loose h) (fun v s' => ?_)
    rfl
  rw [if_neg c15]
  by_cases c16 : (xs p &&& 63) = 16
  · rw [if_pos c16, i1, i2]
    refine law_a hK (op_pact h (xs (p + 1)) (xs (p + 2))) (fun v s' => ?_)
    show ixg (nI p + 1) N _ = _
    rw [i1, i2]
  rw [if_neg c16]
  by_cases c17 : (xs p &&& 63) = 17
  · rw [if_pos c17]
    refine law_a hK (op_plot h) (fun v s' => ?_)
    rfl
  rw [if_neg c17]
  by_cases c18 : (xs p &&& 63) = 18
  · rw [if_pos c18]
    refine law_a hK (op_fall h) (fun v s' => ?_)
    rfl
  rw [if_neg c18]
  by_cases c19 : (xs p &&& 63) = 19
  · rw [if_pos c19, i1]
    refine law_a hK (op_wouldFall h (xs (p + 1))) (fun v s' => ?_)
    show ixg (nI p + 1) N _ = _
    rw [i1]
  rw [if_neg c19]
  by_cases c20 : (xs p &&& 63) = 20
  · rw [if_pos c20, i1]
    refine law_a hK (op_pulls h (xs (p + 1))) (fun v s' => ?_)
    show ixg (nI p + 1) N _ = _
    rw [i1]
  rw [if_neg c20]
  by_cases c21 : (xs p &&& 63) = 21
  · rw [if_pos c21]
    refine law_a hK (op_keystone h) (fun v s' => ?_)
    rfl
  rw [if_neg c21]
  by_cases c22 : (xs p &&& 63) = 22
  · rw [if_pos c22, i1]
    refine law_a hK (op_months h (xs (p + 1))) (fun v s' => ?_)
    show ixg (nI p + 1) N _ = _
    rw [i1]
  rw [if_neg c22]
  by_cases c23 : (xs p &&& 63) = 23
  · rw [if_pos c23, i1]
    refine law_a hK (op_now h (xs (p + 1))) (fun v s' => ?_)
    show ixg (nI p + 1) N _ = _
    rw [i1]
  rw [if_neg c23]
  by_cases c24 : (xs p &&& 63) = 24
  · rw [if_pos c24, i1]
    refine law_a hK (op_on h (xs (p + 1))) (fun v s' => ?_)
    show ixg (nI p + 1) N _ = _
    rw [i1]
  rw [if_neg c24]
  by_cases c25 : (xs p &&& 63) = 25
  · rw [if_pos c25, i1]
    refine law_a hK (op_moves h (xs (p + 1))) (fun v s' => ?_)
    show ixg (nI p + 1) N _ = _
    rw [i1]
  rw [if_neg c25]
  by_cases c26 : (xs p &&& 63) = 26
  · rw [if_pos c26, i1]
    refine law_a hK (op_best h (xs (p + 1))) (fun v s' => ?_)
    show ixg (nI p + 1) N _ = _
    rw [i1]
  rw [if_neg c26]
  by_cases c27 : (xs p &&& 63) = 27
  · rw [if_pos c27, i1]
    refine law_a hK (op_key h (xs (p + 1))) (fun v s' => ?_)
    show ixg (nI p + 1) N _ = _
    rw [i1]
  rw [if_neg c27]
  by_cases c28 : (xs p &&& 63) = 28
  · rw [if_pos c28, i1, i2]
    refine law_a hK (op_toFree h (xs (p + 1)) (xs (p + 2))) (fun v s' => ?_)
    show ixg (nI p + 1) N _ = _
    rw [i1, i2]
  rw [if_neg c28]
  by_cases c29 : (xs p &&& 63) = 29
  · rw [if_pos c29, i1, i2]
    refine law_a hK (op_way h (xs (p + 1)) (xs (p + 2))) (fun v s' => ?_)
    show ixg (nI p + 1) N _ = _
    rw [i1, i2]
  rw [if_neg c29]
  by_cases c30 : (xs p &&& 63) = 30
  · rw [if_pos c30, i1, i2]
    refine law_a hK (op_feed h (xs (p + 1)) (xs (p + 2))) (fun v s' => ?_)
    show ixg (nI p + 1) N _ = _
    rw [i1, i2]
  rw [if_neg c30]
  by_cases c31 : (xs p &&& 63) = 31
  · rw [if_pos c31]
    refine law_a hK (op_wipe h) (fun v s' => ?_)
    rfl
  rw [if_neg c31]
  by_cases c32 : (xs p &&& 63) = 32
  · rw [if_pos c32]
    refine law_a hK (op_court h) (fun v s' => ?_)
    rfl
  rw [if_neg c32]
  by_cases c33 : (xs p &&& 63) = 33
  · rw [if_pos c33, i1, i2, i3]
    refine law_a hK (op_sheet h (xs (p + 1)) (xs (p + 2)) (xs (p + 3))) (fun v s' => ?_)
    show ixg (nI p + 1) N _ = _
    rw [i1, i2, i3]
  rw [if_neg c33]
  by_cases c34 : (xs p &&& 63) = 34
  · rw [if_pos c34, i1, i2, i3, i4]
    refine law_w hK (op_write h (xs (p + 1)) (xs (p + 2)) _) (fun v s' => ?_)
    show ixg (nI p + 1) N _ = _
    rw [i1, i2, i3, i4]
  rw [if_neg c34]
  by_cases c35 : (xs p &&& 63) = 35
  · rw [if_pos c35, i1, i2, i3, i4, i5]
    refine law_a hK (op_copy h (xs (p + 1)) (xs (p + 2)) (xs (p + 3)) (xs (p + 4)) (xs (p + 5))) (fun v s' => ?_)
    show ixg (nI p + 1) N _ = _
    rw [i1, i2, i3, i4, i5]
  rw [if_neg c35]
  by_cases c36 : (xs p &&& 63) = 36
  · rw [if_pos c36, i1]
    refine law_a hK (op_lays h (xs (p + 1))) (fun v s' => ?_)
    show ixg (nI p + 1) N _ = _
    rw [i1]
  rw [if_neg c36]
  by_cases c37 : (xs p &&& 63) = 37
  · rw [if_pos c37, i1]
    refine law_a hK (op_roll h (xs (p + 1))) (fun v s' => ?_)
    show ixg (nI p + 1) N _ = _
    rw [i1]
  rw [if_neg c37]
  by_cases c38 : (xs p &&& 63) = 38
  · rw [if_pos c38, i1]
    refine law_a hK (op_read h (xs (p + 1))) (fun v s' => ?_)
    show ixg (nI p + 1) N _ = _
    rw [i1]
  rw [if_neg c38]
  by_cases c39 : (xs p &&& 63) = 39
  · rw [if_pos c39]
    refine law_a hK (op_image h) (fun v s' => ?_)
    rfl
  rw [if_neg c39]
  by_cases c40 : (xs p &&& 63) = 40
  · rw [if_pos c40]
    refine law_a hK (op_undo h) (fun v s' => ?_)
    rfl
  rw [if_neg c40]
  by_cases c41 : (xs p &&& 63) = 41
  · rw [if_pos c41]
    refine law_a hK (op_tear h) (fun v s' => ?_)
    rfl
  rw [if_neg c41]
  by_cases c42 : (xs p &&& 63) = 42
  · rw [if_pos c42, i1]
    refine law_a hK (op_count h (xs (p + 1))) (fun v s' => ?_)
    show ixg (nI p + 1) N _ = _
    rw [i1]
  rw [if_neg c42]
  by_cases c43 : (xs p &&& 63) = 43
  · rw [if_pos c43, i1]
    refine law_a hK (op_status h (xs (p + 1))) (fun v s' => ?_)
    show ixg (nI p + 1) N _ = _
    rw [i1]
  rw [if_neg c43]
  exact hK s t h
theorem law_true : ∀ (N : Nat) (xs : Nat → Int32), N ≤ 384 → ∃ s', fL_law_18 N xs 400 0 (s00, t00) = some (1, s') := by
  intro N xs hN
  have key : ∀ (D F p : Nat) (s : SX) (t : SM), N ≤ p + 5 + D → D < F → p ≤ 390 → Inv s t → ∃ s', lp (fun _ _ => none) (fL_law_18b N xs) F (nI p) (s, t) = some (1, s') := by
    intro D
    induction D with
    | zero =>
      intro F p s t h1 h2 h3 h
      obtain ⟨F, rfl⟩ : ∃ g, F = g + 1 := ⟨F - 1, by omega⟩
      show ∃ s', fL_law_18b N xs (lp _ _ F) (nI p) (s, t) = some (1, s')
      generalize lp _ (fL_law_18b N xs) F = kk
      unfold fL_law_18b
      rw [if_pos (show nI N - 6 < nI p by rw [law_c hN (by omega)]; omega)]
      exact ⟨_, rfl⟩
    | succ D ih =>
      intro F p s t h1 h2 h3 h
      obtain ⟨F, rfl⟩ : ∃ g, F = g + 1 := ⟨F - 1, by omega⟩
      have ih2 := ih F (p + 6)
      show ∃ s', fL_law_18b N xs (lp _ _ F) (nI p) (s, t) = some (1, s')
      generalize lp _ (fL_law_18b N xs) F = kk at ih2 ⊢
      by_cases hp : p + 6 ≤ N
      · exact law_step hN hp (fun s t h => ih2 s t (by omega) (by omega) (by omega) h) h
      · unfold fL_law_18b
        rw [if_pos (show nI N - 6 < nI p by rw [law_c hN (by omega)]; omega)]
        exact ⟨_, rfl⟩
  unfold fL_law_18
  exact key 384 400 0 s00 t00 (by omega) (by omega) (by omega) inv_start
