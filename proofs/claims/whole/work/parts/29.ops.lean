theorem LT : ¬ (0 : Int32) = 1 ∧ ¬ (0 : Int32) = 2 ∧ ¬ (0 : Int32) = 3 ∧ ¬ (0 : Int32) = 4 ∧ ¬ (0 : Int32) = 5 ∧ ¬ (0 : Int32) = 6 ∧ ¬ (0 : Int32) = 7 ∧ ¬ (1 : Int32) = 0 ∧ ¬ (1 : Int32) = 2 ∧ ¬ (1 : Int32) = 3 ∧ ¬ (1 : Int32) = 4 ∧ ¬ (1 : Int32) = 5 ∧ ¬ (1 : Int32) = 6 ∧ ¬ (1 : Int32) = 7 ∧ ¬ (2 : Int32) = 0 ∧ ¬ (2 : Int32) = 1 ∧ ¬ (2 : Int32) = 3 ∧ ¬ (2 : Int32) = 4 ∧ ¬ (2 : Int32) = 5 ∧ ¬ (2 : Int32) = 6 ∧ ¬ (2 : Int32) = 7 ∧ ¬ (3 : Int32) = 0 ∧ ¬ (3 : Int32) = 1 ∧ ¬ (3 : Int32) = 2 ∧ ¬ (3 : Int32) = 4 ∧ ¬ (3 : Int32) = 5 ∧ ¬ (3 : Int32) = 6 ∧ ¬ (3 : Int32) = 7 ∧ ¬ (4 : Int32) = 0 ∧ ¬ (4 : Int32) = 1 ∧ ¬ (4 : Int32) = 2 ∧ ¬ (4 : Int32) = 3 ∧ ¬ (4 : Int32) = 5 ∧ ¬ (4 : Int32) = 6 ∧ ¬ (4 : Int32) = 7 ∧ ¬ (5 : Int32) = 0 ∧ ¬ (5 : Int32) = 1 ∧ ¬ (5 : Int32) = 2 ∧ ¬ (5 : Int32) = 3 ∧ ¬ (5 : Int32) = 4 ∧ ¬ (5 : Int32) = 6 ∧ ¬ (5 : Int32) = 7 ∧ ¬ (6 : Int32) = 0 ∧ ¬ (6 : Int32) = 1 ∧ ¬ (6 : Int32) = 2 ∧ ¬ (6 : Int32) = 3 ∧ ¬ (6 : Int32) = 4 ∧ ¬ (6 : Int32) = 5 ∧ ¬ (6 : Int32) = 7 ∧ ¬ (7 : Int32) = 0 ∧ ¬ (7 : Int32) = 1 ∧ ¬ (7 : Int32) = 2 ∧ ¬ (7 : Int32) = 3 ∧ ¬ (7 : Int32) = 4 ∧ ¬ (7 : Int32) = 5 ∧ ¬ (7 : Int32) = 6 := ⟨by decide, by decide, by decide, by decide, by decide, by decide, by decide, by decide, by decide, by decide, by decide, by decide, by decide, by decide, by decide, by decide, by decide, by decide, by decide, by decide, by decide, by decide, by decide, by decide, by decide, by decide, by decide, by decide, by decide, by decide, by decide, by decide, by decide, by decide, by decide, by decide, by decide, by decide, by decide, by decide, by decide, by decide, by decide, by decide, by decide, by decide, by decide, by decide, by decide, by decide, by decide, by decide, by decide, by decide, by decide, by decide⟩
theorem inR_of {b : Int32} {N : Nat} (h : inR b N = false) {k : Nat} (hk : k < N) (hN : N < 2 ^ 31) : ¬ b = nI k := by
  intro e
  subst e
  rw [inR_nI (by omega)] at h
  simp at h
  omega
theorem inR_4 {b : Int32} (h : inR b 4 = true) : b = 0 ∨ b = 1 ∨ b = 2 ∨ b = 3 := by
  obtain ⟨k, hk, rfl⟩ := inR_rng h
  have : ∀ k : Nat, k < 4 → nI k = 0 ∨ nI k = 1 ∨ nI k = 2 ∨ nI k = 3 := by decide +kernel
  exact this k hk
theorem inR_6 {b : Int32} (h : inR b 6 = true) : b = 0 ∨ b = 1 ∨ b = 2 ∨ b = 3 ∨ b = 4 ∨ b = 5 := by
  obtain ⟨k, hk, rfl⟩ := inR_rng h
  have : ∀ k : Nat, k < 6 → nI k = 0 ∨ nI k = 1 ∨ nI k = 2 ∨ nI k = 3 ∨ nI k = 4 ∨ nI k = 5 := by decide +kernel
  exact this k hk
theorem inR_7 {b : Int32} (h : inR b 7 = true) : b = 0 ∨ b = 1 ∨ b = 2 ∨ b = 3 ∨ b = 4 ∨ b = 5 ∨ b = 6 := by
  obtain ⟨k, hk, rfl⟩ := inR_rng h
  have : ∀ k : Nat, k < 7 → nI k = 0 ∨ nI k = 1 ∨ nI k = 2 ∨ nI k = 3 ∨ nI k = 4 ∨ nI k = 5 ∨ nI k = 6 := by decide +kernel
  exact this k hk
theorem n0 {b : Int32} {N : Nat} (h : inR b N = false) (hN : N < 2 ^ 31) (h0 : 0 < N) : ¬ b = 0 := inR_of h h0 hN
theorem n1 {b : Int32} {N : Nat} (h : inR b N = false) (hN : N < 2 ^ 31) (h0 : 1 < N) : ¬ b = 1 := inR_of h h0 hN
theorem n2 {b : Int32} {N : Nat} (h : inR b N = false) (hN : N < 2 ^ 31) (h0 : 2 < N) : ¬ b = 2 := inR_of h h0 hN
theorem n3 {b : Int32} {N : Nat} (h : inR b N = false) (hN : N < 2 ^ 31) (h0 : 3 < N) : ¬ b = 3 := inR_of h h0 hN
theorem n4 {b : Int32} {N : Nat} (h : inR b N = false) (hN : N < 2 ^ 31) (h0 : 4 < N) : ¬ b = 4 := inR_of h h0 hN
theorem n5 {b : Int32} {N : Nat} (h : inR b N = false) (hN : N < 2 ^ 31) (h0 : 5 < N) : ¬ b = 5 := inR_of h h0 hN
theorem n6 {b : Int32} {N : Nat} (h : inR b N = false) (hN : N < 2 ^ 31) (h0 : 6 < N) : ¬ b = 6 := inR_of h h0 hN
section Ops2
variable {s : SX} {t : SM}
def und (k a : Nat) : Bool := [[true, false, false, false, false, false], [true, true, false, false, false, false], [true, false, true, false, false, false], [true, true, false, true, false, false], [true, false, true, false, true, false], [true, true, false, false, false, true]].getD k [] |>.getD a false
theorem x_under {k a : Nat} (hk : k < 6) (ha : a < 6) : fX5_isKindUnder (nI k) (nI a) s = some (b2i (und k a), s) := by
  have st : ∀ (F : Nat) (at0 : Int32) (c : Nat), lp (fun _ _ _ _ => none) fX5_isKindUnder_4b (F + 1) (nI a) at0 (nI c) s = (if (6 : Int32) ≤ nI c then some (0, s) else if at0 < 0 then some (0, s) else if at0 = nI a then some (1, s) else ixg at0 6 fun n3 => lp (fun _ _ _ _ => none) fX5_isKindUnder_4b F (nI a) (kaf n3) (nI c + 1) s) := fun F at0 c => rfl
  unfold fX5_isKindUnder fX5_isKindUnder_4
  simp only [vl_eq]
  have : ∀ k : Nat, k < 6 → ∀ a : Nat, a < 6 → ∃ b, b = und k a := fun k _ a _ => ⟨_, rfl⟩
  rcases k with _ | _ | _ | _ | _ | _ | k
  all_goals first | omega | skip
  all_goals (rcases a with _ | _ | _ | _ | _ | _ | a)
  all_goals first | omega | rfl
theorem m_under : ∀ k : Nat, k < 6 → ∀ a : Nat, a < 6 → ∀ t : SM, fX6_isUnder (nI k) (nI a) t = some (b2i (und k a), t) := by
  intro k hk a ha t
  rcases k with _ | _ | _ | _ | _ | _ | k
  all_goals first | omega | skip
  all_goals (rcases a with _ | _ | _ | _ | _ | _ | a)
  all_goals first | omega | rfl
theorem op_as (h : Inv s t) (a b : Int32) : Sm (fX5_as a b s) (fX6_as a b t) := by
  obtain ⟨n, m, ok, rl⟩ := h.1
  have hn := ok.1
  unfold fX5_as fX6_as
  simp only [x_isChild a hn ok.hn.2, m_isChild a hn rl.2.2.1, x_isKind, m_isKind, bd_one, b2i_0]
  cases h1 : inR a n with
  | false => rw [if_pos rfl, if_pos rfl]; exact fin0 h
  | true =>
    simp only [reduceCtorEq, if_false]
    cases h2 : inR b 6 with
    | false => rw [if_pos rfl, if_pos rfl]; exact fin0 h
    | true =>
      obtain ⟨k, hk, rfl⟩ := inR_rng h1
      obtain ⟨l, hl, rfl⟩ := inR_rng h2
      obtain ⟨q, hq, eq⟩ := (ok.ch hk).1
      simp only [reduceCtorEq, if_false, ixg_nI (show k < 14 by omega) (by decide), (rl.ch hk).1, CO, m_holder rl hn hk]
      rw [eq]
      simp only [x_under hq hl, m_under q hq l hl, m_holder rl hn hk, bd_one, b2i_0, CO]
      cases und q l with
      | false => rw [if_pos rfl, if_pos rfl]; exact fin2 h
      | true =>
        simp only [reduceCtorEq, if_false]
        exact Sm.of h
theorem op_of (h : Inv s t) (a b : Int32) : Sm (fX5_of a b s) (fX6_of a b t) := by
  obtain ⟨n, m, ok, rl⟩ := h.1
  have hn := ok.1
  unfold fX5_of fX6_of
  simp only [x_isChild a hn ok.hn.2, m_isChild a hn rl.2.2.1, m_in0 (N := 6) (y := 5) (by decide) rfl, bd_one, b2i_0]
  cases h1 : inR a n with
  | false => rw [if_pos rfl, if_pos rfl]; exact fin0 h
  | true =>
    simp only [reduceCtorEq, if_false]
    cases h2 : inR b 6 with
    | false =>
      simp only [n0 h2 (by decide) (by decide), n1 h2 (by decide) (by decide), n2 h2 (by decide) (by decide), n3 h2 (by decide) (by decide), n4 h2 (by decide) (by decide), n5 h2 (by decide) (by decide), if_false, if_true]
      exact fin0 h
    | true =>
      obtain ⟨k, hk, rfl⟩ := inR_rng h1
      simp only [reduceCtorEq, if_false, ixg_nI (show k < 14 by omega) (by decide), (rl.ch hk).1, (rl.ch hk).2.1, (rl.ch hk).2.2.1, CO, m_holder rl hn hk, m_lives rl hn hk, m_loss rl ok hk, x_isDead (show k < 32 by omega), x_lossOf ok hk, bd_one, b2i_0]
      rcases inR_6 h2 with rfl | rfl | rfl | rfl | rfl | rfl <;> simp only [LT, if_true, if_false]
      · exact Sm.of h
      · exact Sm.of h
      · exact Sm.of h
      · exact Sm.of h
      · cases dead (co s 0) k <;> exact Sm.of h
      · unfold lossC
        cases dead (co s 0) k <;> exact Sm.of h
theorem m_wof {n m : Nat} {r : Co} (rl : Rl 0 n m r t) (ok : Ok n m r) (f : Int32) : fX6_kingOf_62 400 f 0 0 t = some (setN m (wof r f), t) := by
  have hm := ok.2.1
  unfold fX6_kingOf_62
  refine lp_for (F := 400) (ap := fun (k : Tm Int32 3) c a => k f a (nI c) t) (g := fun c a => if wof r f c = true then a ||| bt c else a) m 0 (fun _ _ => True) (fun k c a hc _ => ⟨?_, trivial⟩) (fun k _ => ?_) trivial (by omega)
  · unfold fX6_kingOf_62b
    rw [if_neg (by rw [rl.2.2.2.1]; exact nI_ge hc (by omega))]
    simp only [ixg_nI (show c < 12 by omega) (by decide), (rl.tr hc).1, m_isInForce rl hm hc, bd_one, b2i_0, fX6_kingOf_99, fX6_kingOf_100, vl_eq, ← nI_succ, wof, Int32.or_zero]
    by_cases h1 : r 5 c = f
    · by_cases h2 : inF r c = false
      · simp [h1, h2]
      · simp at h2
        simp [h1, h2, bt]
    · simp [h1]
  · unfold fX6_kingOf_62b
    rw [if_pos (by rw [rl.2.2.2.1]; exact nI_le (Nat.le_refl m) (by omega))]
    rfl
theorem m_chd {n m : Nat} {r : Co} (rl : Rl 0 n m r t) (ok : Ok n m r) (f : Int32) : fX6_kingOf_113 400 f 1 0 0 t = some (setN n (chd r f), t) := by
  have hn := ok.1
  unfold fX6_kingOf_113
  refine lp_for (F := 400) (ap := fun (k : Tm Int32 4) c a => k f 1 a (nI c) t) (g := fun c a => if chd r f c = true then a ||| bt c else a) n 0 (fun _ _ => True) (fun k c a hc _ => ⟨?_, trivial⟩) (fun k _ => ?_) trivial (by omega)
  · unfold fX6_kingOf_113b
    rw [if_neg (by rw [rl.2.2.1]; exact nI_ge hc (by omega)), if_pos rfl]
    simp only [ixg_nI (show c < 14 by omega) (by decide), (rl.ch hc).2.1, fX6_kingOf_170, fX6_kingOf_194, fX6_kingOf_195, m_lives rl hn hc, bd_one, b2i_0, vl_eq, ← nI_succ, chd, Int32.or_zero, LT, if_true, if_false]
    by_cases h1 : r 2 c = f
    · by_cases h2 : dead r c = false
      · simp [h1, h2, bt]
      · simp at h2
        simp [h1, h2]
    · simp [h1]
  · unfold fX6_kingOf_113b
    rw [if_pos (by rw [rl.2.2.1]; exact nI_le (Nat.le_refl n) (by omega))]
    rfl
theorem m_hfo {n m : Nat} {r : Co} (rl : Rl 0 n m r t) (ok : Ok n m r) (f : Int32) : fX6_kingOf_113 400 f 2 0 0 t = some (setN n (hfo r f), t) := by
  have hn := ok.1
  unfold fX6_kingOf_113
  refine lp_for (F := 400) (ap := fun (k : Tm Int32 4) c a => k f 2 a (nI c) t) (g := fun c a => if hfo r f c = true then a ||| bt c else a) n 0 (fun _ _ => True) (fun k c a hc _ => ⟨?_, trivial⟩) (fun k _ => ?_) trivial (by omega)
  · unfold fX6_kingOf_113b
    rw [if_neg (by rw [rl.2.2.1]; exact nI_ge hc (by omega)), if_neg (by decide)]
    simp only [m_holder rl hn hc, m_isHome rl hn hc, fX6_kingOf_169, fX6_kingOf_170, fX6_kingOf_194, fX6_kingOf_195, m_lives rl hn hc, bd_one, b2i_0, vl_eq, ← nI_succ, hfo, Int32.or_zero, LT, if_true, if_false]
    by_cases h1 : r 3 c = f
    · by_cases h3 : r 2 c = f
      · have : r 3 c = r 2 c := h1.trans h3.symm
        simp [h1, h3]
      · have : ¬ r 3 c = r 2 c := fun e => h3 (e ▸ h1)
        have h4 : ¬ f = r 2 c := fun e => h3 e.symm
        by_cases h2 : dead r c = false
        · simp [h1, h2, h3, h4, bt]
        · simp at h2
          simp [h1, h2, h3, h4]
    · simp [h1]
  · unfold fX6_kingOf_113b
    rw [if_pos (by rw [rl.2.2.1]; exact nI_le (Nat.le_refl n) (by omega))]
    rfl
theorem op_kingOf (h : Inv s t) (a b : Int32) : Sm (fX5_kingOf a b s) (fX6_kingOf a b t) := by
  obtain ⟨n, m, ok, rl⟩ := h.1
  unfold fX5_kingOf fX6_kingOf
  simp only [x_isKing, m_isKing, m_in0 (N := 4) (y := 3) (by decide) rfl, bd_one, b2i_0, vl_eq]
  cases h1 : inR a 6 with
  | false => rw [if_pos rfl, if_pos rfl]; exact fin0 h
  | true =>
    simp only [reduceCtorEq, if_false]
    cases h2 : inR b 4 with
    | false =>
      simp only [n0 h2 (by decide) (by decide), n1 h2 (by decide) (by decide), n2 h2 (by decide) (by decide), n3 h2 (by decide) (by decide), if_false, if_true]
      exact fin0 h
    | true =>
      obtain ⟨k, hk, rfl⟩ := inR_rng h1
      simp only [reduceCtorEq, if_false, ixg_nI hk (by decide), rl.2.2.2.2.1 k hk, CO, x_childrenOf ok, x_heldFromOthers ok, x_wordsOf ok, bd_one]
      rcases inR_4 h2 with rfl | rfl | rfl | rfl <;> simp only [LT, if_true, if_false, m_wof rl ok, m_chd rl ok, m_hfo rl ok] <;> exact Sm.of h
theorem m_has {x : Int32} {k : Nat} (hk : k < 32) : fX6_has x (nI k) t = some (b2i (bitB x k), t) := by
  unfold fX6_has
  have e := bit_code (x := x) hk
  have hb : bitB x k = true → ((x >>> (nI k &&& 31)) &&& 1) = 1 := by
    intro hh
    apply bit_ext
    intro j hj
    rw [bit_and]
    have b1 : bitB (1 : Int32) j = decide (j = 0) := by
      have : ∀ j : Nat, j < 32 → bitB (1 : Int32) j = decide (j = 0) := by decide +kernel
      exact this j hj
    rw [b1]
    by_cases hj0 : j = 0
    · subst hj0
      have : ¬ ((x >>> (nI k &&& 31)) &&& 1) = 0 := by rw [e, hh]; decide
      cases hz : bitB (x >>> (nI k &&& 31)) 0 with
      | true => simp
      | false =>
        exfalso
        apply this
        apply bit_ext
        intro i hi
        have b2 : bitB (1 : Int32) i = decide (i = 0) := by
          have : ∀ j : Nat, j < 32 → bitB (1 : Int32) j = decide (j = 0) := by decide +kernel
          exact this i hi
        rw [bit_and, b2, bit_0]
        by_cases hi0 : i = 0
        · subst hi0; rw [hz]; rfl
        · simp [hi0]
    · simp [hj0]
  cases hh : bitB x k with
  | true => rw [if_pos (hb hh)]; rfl
  | false =>
    rw [hh] at e
    have : ((x >>> (nI k &&& 31)) &&& 1) = 0 := by rw [e]
    rw [this, if_neg (by decide)]; rfl
theorem op_treatyOf (h : Inv s t) (a b : Int32) : Sm (fX5_treatyOf a b s) (fX6_treatyOf a b t) := by
  obtain ⟨n, m, ok, rl⟩ := h.1
  have hm := ok.2.1
  unfold fX5_treatyOf fX6_treatyOf
  simp only [x_isTreaty a hm ok.hm.2, m_isTreaty a hm rl.2.2.2.1, m_in0 (N := 7) (y := 6) (by decide) rfl, bd_one, b2i_0]
  cases h1 : inR a m with
  | false => rw [if_pos rfl, if_pos rfl]; exact fin0 h
  | true =>
    simp only [reduceCtorEq, if_false]
    cases h2 : inR b 7 with
    | false =>
      simp only [n0 h2 (by decide) (by decide), n1 h2 (by decide) (by decide), n2 h2 (by decide) (by decide), n3 h2 (by decide) (by decide), n4 h2 (by decide) (by decide), n5 h2 (by decide) (by decide), n6 h2 (by decide) (by decide), if_false, if_true]
      exact fin0 h
    | true =>
      obtain ⟨k, hk, rfl⟩ := inR_rng h1
      obtain ⟨f, e1, -⟩ := m_looseSet rl ok
      have e29 : (29 : Int32) + nI k = nI (29 + k) := by rw [show (29 : Int32) = nI 29 from rfl, nI_add]
      have eb : gM t 9 (29 + k) = b2i (brk (co s 0) k) := by rw [← Nat.zero_add (29 + k)]; exact (rl.tr hk).2.2.2.2
      have ee := ease_lse ok hk
      simp only [CO] at ee
      simp only [reduceCtorEq, if_false, ixg_nI (show k < 12 by omega) (by decide), (rl.tr hk).1, (rl.tr hk).2.1, (rl.tr hk).2.2.1, (rl.tr hk).2.2.2.1, CO, e29, ixg_nI (show 29 + k < 82 by omega) (by decide), eb, m_isInForce rl hm hk, x_isBroken (show k < 32 by omega), x_isInForce (show k < 12 by omega), x_easeOf ok hk, e1, m_has (show k < 32 by omega), bd_one, b2i_0, ee]
      rcases inR_7 h2 with rfl | rfl | rfl | rfl | rfl | rfl | rfl <;> simp only [LT, if_true, if_false]
      · exact Sm.of h
      · exact Sm.of h
      · exact Sm.of h
      · exact Sm.of h
      · cases brk (co s 0) k <;> exact Sm.of h
      · cases inF (co s 0) k <;> exact Sm.of h
      · have e3 : bitB (LW n m (co s 0)) k = lse n (co s 0) k := by rw [LW, setN_bit (by omega)]; simp [hk]
        rw [e3]
        unfold lse
        simp only [CO]
        cases inF (co s 0) k with
        | false => exact Sm.of h.m11
        | true =>
          by_cases q : gX s 0 7 k ≤ pl n (co s 0) (gX s 0 6 k) (gX s 0 5 k) n + gX s 0 0 (kg (gX s 0 5 k))
          · simp only [q, decide_true, Bool.not_true, Bool.and_false, reduceCtorEq, if_true, if_false]; exact Sm.of h.m11
          · simp only [q, decide_false, Bool.not_false, Bool.and_true, reduceCtorEq, if_true, if_false]; exact Sm.of h.m11
end Ops2
