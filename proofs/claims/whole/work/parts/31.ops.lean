/-! ===== status, tear, wipe, pacts ===== -/
theorem co_big {s s' : SX} {a : Nat} (h : Fr a s s') (ha : 5 ≤ a) : ∀ i, i < 5 → co s' i = co s i := fun i hi => co_o h (by omega)
section Ops4
variable {s : SX} {t : SM}
theorem x_st {f : Nat → Int32} (hf : ∀ k, k < 7 → gX s 5 1 k = f k) : fX5_status_32 400 0 0 s = some (sumN 7 f, s) := by
  unfold fX5_status_32
  refine lp_for (F := 400) (ap := fun (k : Tx Int32 2) c a => k a (nI c) s) (g := fun c a => a + f c) 7 0 (fun _ _ => True) (fun k c a hc _ => ⟨?_, trivial⟩) (fun k _ => ?_) trivial (by omega)
  · unfold fX5_status_32b
    rw [if_neg (show ¬ (7 : Int32) ≤ nI c from nI_ge (b := 7) hc (by decide))]
    simp only [ixg_nI hc (by decide), vl_eq, ← nI_succ, hf c hc]
  · unfold fX5_status_32b
    rw [if_pos (show (7 : Int32) ≤ nI 7 from nI_le (b := 7) (Nat.le_refl 7) (by decide))]
    unfold sumN
    rfl
theorem m_st (b : Int32) : fX6_status_21 400 b 0 0 t = (if 0 ≤ b then ixg b 7 fun n7 => some (gM t 10 n7, t) else some (sumN 7 (gM t 10), t)) := by
  unfold fX6_status_21
  refine lp_for (F := 400) (ap := fun (k : Tm Int32 3) c a => k b a (nI c) t) (g := fun c a => a + gM t 10 c) 7 0 (fun _ _ => True) (fun k c a hc _ => ⟨?_, trivial⟩) (fun k _ => ?_) trivial (by omega)
  · unfold fX6_status_21b
    rw [if_neg (show ¬ (7 : Int32) ≤ nI c from nI_ge (b := 7) hc (by decide))]
    simp only [ixg_nI hc (by decide), vl_eq, ← nI_succ]
  · unfold fX6_status_21b
    rw [if_pos (show (7 : Int32) ≤ nI 7 from nI_le (b := 7) (Nat.le_refl 7) (by decide))]
    by_cases hb : 0 ≤ b
    · simp only [hb, if_true]
    · simp only [hb, if_false]
      unfold sumN
      rfl
theorem st7 {a : Int32} : ((6 : Int32) < a) = ¬ a < 7 := by
  have v7 : (7 : Int32).toInt = 7 := by decide
  have v6 : (6 : Int32).toInt = 6 := by decide
  apply propext
  rw [Int32.lt_iff_toInt_lt, Int32.lt_iff_toInt_lt, v7, v6]
  omega
theorem st0 {a : Int32} : (0 ≤ a) = ¬ a < 0 := by
  apply propext
  exact Int32.not_lt.symm
theorem st_k {a : Int32} (h1 : a < 7) (h2 : ¬ a < 0) : ∃ k, k < 7 ∧ a = nI k := by
  have v7 : (7 : Int32).toInt = 7 := by decide
  rw [Int32.lt_iff_toInt_lt, v7] at h1
  rw [Int32.lt_iff_toInt_lt, Int32.toInt_zero] at h2
  apply inR_rng
  unfold inR
  simp only [decide_eq_true_eq]
  omega
theorem op_tear (h : Inv s t) : Sm (fX5_tear s) (fX6_tear t) := by
  unfold fX5_tear fX6_tear
  simp only [vl_eq]
  have i0 : Inv (wX s 5 0 8 0) (wM t 0 38 0) := by
    obtain ⟨⟨n, m, ok, rl⟩, h2, h3, h4, h5, h6⟩ := h
    have cc := co_big (Fr.wX (i := 5) (s := s) (j := 0) (k := 8) (x := 0)) (by decide)
    refine ⟨⟨n, m, by rw [cc 0 (by decide)]; exact ok, by rw [cc 0 (by decide)]; exact rl.q ⟨fun a p q => by rw [show wM t 0 38 0 = rM t 0 _ from rfl, gM_rM, if_neg (by omega)], rfl, rfl, rfl⟩⟩, fun i hi => by rw [cc i hi]; exact h2 i hi, ⟨rfl, Or.inl rfl⟩, h4, h5, fun q hq => ?_⟩
    have : gX (wX s 5 0 8 0) (9 + q) = gX s (9 + q) := (Fr.wX (i := 5)).1 (9 + q) (by omega)
    rw [this]
    exact h6 q hq
  rw [h.2.2.1.1]
  by_cases q : gM t 0 38 = 0
  · rw [if_pos q, if_pos q]; exact Sm.of i0
  · rw [if_neg q, if_neg q]; exact Sm.of i0
theorem op_wipe (h : Inv s t) : Sm (fX5_wipe s) (fX6_wipe t) := by
  obtain ⟨z, hz, z1, z2, z3⟩ := h.2.2.2.2.1
  unfold fX5_wipe fX6_wipe
  simp only [vl_eq, z1, z2]
  obtain ⟨⟨n, m, ok, rl⟩, h2, h3, h4, h5, h6⟩ := h
  have cc := co_big (Fr.wX (i := 8) (s := s) (j := 0) (k := 1) (x := 0)) (by decide)
  refine Sm.of ⟨⟨n, m, by rw [cc 0 (by decide)]; exact ok, by rw [cc 0 (by decide)]; exact rl.q ⟨fun a p q => by rw [show wM t 0 25 0 = rM t 0 _ from rfl, gM_rM, if_neg (by omega)], rfl, rfl, rfl⟩⟩, fun i hi => by rw [cc i hi]; exact h2 i hi, ?_, h4, ⟨0, by decide, rfl, rfl, fun k hk => absurd hk (Nat.not_lt_zero k)⟩, fun q hq => ?_⟩
  · unfold Kp
    rw [cc 1 (by decide)]
    exact h3
  · have : gX (wX s 8 0 1 0) (9 + q) = gX s (9 + q) := (Fr.wX (i := 8)).1 (9 + q) (by omega)
    rw [this]
    exact h6 q hq
end Ops4
/-! pacts: what third kings hold, by holder and by child -/
theorem sumN_s {n : Nat} {f : Nat → Int32} : sumN (n + 1) f = sumN n f + f n := rfl
theorem sumN_one {N : Nat} {f g : Nat → Int32} {k : Nat} {x : Int32} (hk : k < N) (h1 : g k = f k + x) (h2 : ∀ j, j < N → j ≠ k → g j = f j) : sumN N g = sumN N f + x := by
  induction N with
  | zero => omega
  | succ N ih =>
    rw [sumN_s, sumN_s]
    by_cases e : k = N
    · subst e
      rw [h1, sumN_congr (f := g) (g := f) (fun j hj => h2 j (by omega) (by omega)), Int32.add_assoc]
    · rw [ih (by omega) (fun j hj hne => h2 j (by omega) hne), h2 N (by omega) (fun q => e q.symm), Int32.add_assoc, Int32.add_comm x, ← Int32.add_assoc]
def thd (n : Nat) (r : Co) (a b : Int32) (c h : Nat) : Int32 := if nI h = a ∨ nI h = b then 0 else pl n r (nI h) a c + pl n r (nI h) b c
theorem pls_x {n : Nat} {r : Co} {a b x : Int32} (k : Nat) : pls n r a b x k = x + pls n r a b 0 k := by
  induction k with
  | zero => show x = x + 0; rw [Int32.add_zero]
  | succ k ih =>
    show (if one (r 2 k) a b = true ∧ one (r 3 k) a b = false then pls n r a b x k + lossC n r k else pls n r a b x k) = x + (if one (r 2 k) a b = true ∧ one (r 3 k) a b = false then pls n r a b 0 k + lossC n r k else pls n r a b 0 k)
    rw [ih]
    split
    · rw [Int32.add_assoc]
    · rfl
theorem pls_thd {n m : Nat} {r : Co} (ok : Ok n m r) {a b : Int32} (hab : a ≠ b) (ha : rng a 6) (hb : rng b 6) : ∀ k, k ≤ n → sumN 6 (thd n r a b k) = pls n r a b 0 k := by
  intro k
  induction k with
  | zero =>
    intro _
    have e : ∀ h, thd n r a b 0 h = 0 := fun h => by
      unfold thd
      split
      · rfl
      · rfl
    show sumN 6 (thd n r a b 0) = 0
    rw [sumN_congr (g := fun _ => 0) (fun c _ => e c)]
    decide
  | succ k ih =>
    intro hk
    have ih := ih (by omega)
    obtain ⟨-, ⟨f, hf, ef⟩, ⟨h, hh, eh⟩, -⟩ := ok.2.2.2.2.1 k (by omega)
    show _ = (if one (r 2 k) a b = true ∧ one (r 3 k) a b = false then pls n r a b 0 k + lossC n r k else pls n r a b 0 k)
    by_cases h1 : one (r 2 k) a b = true ∧ one (r 3 k) a b = false
    · rw [if_pos h1, ← ih]
      have h3 : ¬ (nI h = a ∨ nI h = b) := by
        have := h1.2
        rw [eh] at this
        simpa [one] using this
      refine sumN_one hh ?_ (fun j hj hne => ?_)
      · unfold thd
        rw [if_neg h3, if_neg h3, pl_s, pl_s, eh]
        have h2 := h1.1
        simp only [one, Bool.or_eq_true, decide_eq_true_eq] at h2
        rcases h2 with h2 | h2
        · have hn : ¬ r 2 k = b := fun e => hab (h2.symm.trans e)
          rw [if_pos ⟨rfl, h2⟩, if_neg (fun q => hn q.2), Int32.add_assoc, Int32.add_comm (lossC n r k), ← Int32.add_assoc]
        · have hn : ¬ r 2 k = a := fun e => hab (e.symm.trans h2)
          rw [if_neg (fun q => hn q.2), if_pos ⟨rfl, h2⟩, Int32.add_assoc]
      · unfold thd
        have hne2 : ¬ r 3 k = nI j := fun e => hne ((nI_eq (by omega) (by omega)).mp (e.symm.trans eh))
        simp only [pl_s, hne2, false_and, if_false]
    · rw [if_neg h1, ← ih]
      refine sumN_congr (fun j hj => ?_)
      unfold thd
      split
      · rfl
      next h3 =>
        rw [pl_s, pl_s]
        have q1 : ¬ (r 3 k = nI j ∧ r 2 k = a) := fun q => h1 ⟨by simp [one, q.2], by
          rw [q.1]; simpa [one] using h3⟩
        have q2 : ¬ (r 3 k = nI j ∧ r 2 k = b) := fun q => h1 ⟨by simp [one, q.2], by
          rw [q.1]; simpa [one] using h3⟩
        rw [if_neg q1, if_neg q2]
theorem pgn_rng {n m : Nat} {r : Co} (ok : Ok n m r) (a b : Int32) : ∀ k, k ≤ m → rng (pgn r a b k) (999 * k + 1) := by
  intro k
  induction k with
  | zero => intro _; exact ⟨0, by decide, rfl⟩
  | succ k ih =>
    intro hk
    obtain ⟨x, hx, ex⟩ := ih (by omega)
    obtain ⟨-, -, -, ⟨g, hg, eg⟩, -⟩ := ok.2.2.2.2.2.1 k (by omega)
    show rng (if inF r k = true ∧ one (r 5 k) a b = true ∧ one (r 6 k) a b = false then pgn r a b k + r 7 k else pgn r a b k) _
    split
    · exact ⟨x + g, by omega, by rw [ex, eg, nI_add]⟩
    · exact ⟨x, by omega, ex⟩
theorem pls_rng {n m : Nat} {r : Co} (ok : Ok n m r) (a b : Int32) : ∀ k, k ≤ n → rng (pls n r a b 0 k) (218 * k + 1) := by
  intro k
  induction k with
  | zero => intro _; exact ⟨0, by decide, rfl⟩
  | succ k ih =>
    intro hk
    obtain ⟨x, hx, ex⟩ := ih (by omega)
    obtain ⟨g, hg, eg⟩ := lossC_rng ok (show k < n by omega)
    show rng (if one (r 2 k) a b = true ∧ one (r 3 k) a b = false then pls n r a b 0 k + lossC n r k else pls n r a b 0 k) _
    split
    · exact ⟨x + g, by omega, by rw [ex, eg, nI_add]⟩
    · exact ⟨x, by omega, ex⟩
theorem sub_sign2 {a b : Nat} (ha : a < 2 ^ 30) (hb : b < 2 ^ 30) : (nI a - nI b ≤ 0) = (nI a ≤ nI b) := by
  apply propext
  have h1 := nI_toInt (show a < 2 ^ 31 by omega)
  have h2 := nI_toInt (show b < 2 ^ 31 by omega)
  rw [Int32.le_iff_toInt_le, Int32.le_iff_toInt_le, Int32.toInt_sub, h1, h2, Int32.toInt_zero, Int.bmod_eq_of_le (by omega) (by omega)]
  omega
theorem it_sub {N : Nat} {f : Nat → Int32} {x : Int32} : it (fun c a => a - f c) N x = x - sumN N f := by
  induction N with
  | zero => show x = x - 0; rw [Int32.sub_zero]
  | succ N ih =>
    show it _ N x - f N = x - (sumN N f + f N)
    rw [ih, Int32.sub_eq_add_neg, Int32.sub_eq_add_neg, Int32.sub_eq_add_neg, Int32.neg_add, Int32.sub_eq_add_neg, Int32.add_assoc]
section MPays
variable {off n m : Nat} {r : Co} {t : SM}
theorem m_pays2 (rl : Rl off n m r t) (ok : Ok n m r) {k l : Nat} (hk : k < 6) (hl : l < 6) (hp : ∀ h, h < 6 → ∀ g, g < 6 → h ≠ g → gM t 11 (6 * h + g) = pl n r (nI h) (nI g) n) (x : Int32) : fX6_pays_116 400 (nI k) (nI l) x 0 t = some (b2i (!decide (x - sumN 6 (thd n r (nI k) (nI l) n) ≤ 0)), t) := by
  unfold fX6_pays_116
  rw [← it_sub]
  refine lp_for (F := 400) (ap := fun (q : Tm Int32 4) c a => q (nI k) (nI l) a (nI c) t) (g := fun c a => a - thd n r (nI k) (nI l) n c) 6 x (fun _ _ => True) (fun q c a hc _ => ⟨?_, trivial⟩) (fun q _ => ?_) trivial (by omega)
  · unfold fX6_pays_116b
    rw [if_neg (show ¬ (6 : Int32) ≤ nI c from nI_ge (b := 6) hc (by decide))]
    simp only [nI_eq (show c < 2 ^ 31 by omega) (show k < 2 ^ 31 by omega), nI_eq (show c < 2 ^ 31 by omega) (show l < 2 ^ 31 by omega), ix36 c hc k hk, ix36 c hc l hl, ixg_nI (show 6 * c + k < 36 by omega) (by decide), ixg_nI (show 6 * c + l < 36 by omega) (by decide), fX6_pays_164, fX6_pays_165, vl_eq, ← nI_succ, thd]
    by_cases h1 : c = k
    · simp [h1]
    · by_cases h2 : c = l
      · simp [h2]
      · simp only [h1, h2, or_self, if_false, hp c hc k hk h1, hp c hc l hl h2]
  · unfold fX6_pays_116b
    rw [if_pos (show (6 : Int32) ≤ nI 6 from nI_le (b := 6) (Nat.le_refl 6) (by decide))]
    by_cases h : it (fun c a => a - thd n r (nI k) (nI l) n c) 6 x ≤ 0
    · simp [h, b2i]
    · simp [h, b2i]
theorem m_pays (rl : Rl off n m r t) (ok : Ok n m r) {k l : Nat} (hk : k < 6) (hl : l < 6) (hkl : k ≠ l) (hp : ∀ h, h < 6 → ∀ g, g < 6 → h ≠ g → gM t 11 (6 * h + g) = pl n r (nI h) (nI g) n) : fX6_pays (nI k) (nI l) t = some (b2i (pays n m r (nI k) (nI l)), t) := by
  have hn := ok.1
  have hm := ok.2.1
  have hkl2 : nI k ≠ nI l := fun e => hkl ((nI_eq (by omega) (by omega)).mp e)
  unfold fX6_pays fX6_pays_19
  simp only [ixg_nI hk (by decide), ixg_nI hl (by decide), vl_eq, rl.2.2.2.2.1 k hk, rl.2.2.2.2.1 l hl]
  obtain ⟨fk, hfk, efk⟩ := ok.2.2.2.2.2.2.1 k hk
  obtain ⟨fl, hfl, efl⟩ := ok.2.2.2.2.2.2.1 l hl
  obtain ⟨G, hG, eG⟩ := pgn_rng ok (nI k) (nI l) m (Nat.le_refl m)
  obtain ⟨Q, hQ, eQ⟩ := pls_rng ok (nI k) (nI l) n (Nat.le_refl n)
  have e0 : (0 : Int32) - r 0 k - r 0 l = pgn r (nI k) (nI l) 0 - (r 0 k + r 0 l) := by
    show (0 : Int32) - r 0 k - r 0 l = 0 - (r 0 k + r 0 l)
    rw [Int32.sub_eq_add_neg, Int32.sub_eq_add_neg, Int32.sub_eq_add_neg, Int32.neg_add, Int32.sub_eq_add_neg, Int32.add_assoc]
  rw [e0]
  have key := lp_at (bot := fun _ _ _ _ _ => none) (body := fX6_pays_19b) (ap := fun (q : Tm Int32 4) c (a : Int32) => q (nI k) (nI l) a (nI c) t) (g := fun j a => if inF r j = true ∧ one (r 5 j) (nI k) (nI l) = true ∧ one (r 6 j) (nI k) (nI l) = false then a + r 7 j else a) (N := m) (a0 := 0 - (r 0 k + r 0 l)) (fin := some (b2i (pays n m r (nI k) (nI l)), t)) (P := fun c a => a = pgn r (nI k) (nI l) c - (r 0 k + r 0 l)) ?_ ?_ m 400 0 (by omega) (by omega) rfl
  · exact key
  · intro q c a hc hP
    subst hP
    refine ⟨?_, ?_⟩
    · unfold fX6_pays_19b
      rw [if_neg (by rw [rl.2.2.2.1]; exact nI_ge hc (by omega))]
      simp only [ixg_nI (show c < 12 by omega) (by decide), (rl.tr hc).1, (rl.tr hc).2.1, (rl.tr hc).2.2.1, fX6_pays_50, fX6_pays_55, fX6_pays_104, fX6_pays_105, m_isInForce rl hm hc, bd_one, b2i_0, vl_eq, ← nI_succ, Int32.add_zero, LT, eq_self, if_true, if_false, one]
      by_cases h1 : r 5 c = nI k ∨ r 5 c = nI l
      · by_cases h2 : r 6 c = nI k
        · rcases h1 with h1 | h1 <;> simp [h1, h2]
        · by_cases h3 : r 6 c = nI l
          · rcases h1 with h1 | h1 <;> simp [h1, h3]
          · by_cases h4 : inF r c = false
            · rcases h1 with h1 | h1 <;> simp [h1, h2, h3, h4]
            · simp at h4
              rcases h1 with h1 | h1 <;> simp [h1, h2, h3, h4]
      · have h5 : ¬ r 5 c = nI k := fun e => h1 (Or.inl e)
        have h6 : ¬ r 5 c = nI l := fun e => h1 (Or.inr e)
        simp [h5, h6]
    · show (if _ then _ else _) = (if inF r c = true ∧ one (r 5 c) (nI k) (nI l) = true ∧ one (r 6 c) (nI k) (nI l) = false then pgn r (nI k) (nI l) c + r 7 c else pgn r (nI k) (nI l) c) - (r 0 k + r 0 l)
      split
      · rw [Int32.sub_eq_add_neg, Int32.sub_eq_add_neg, Int32.add_assoc, Int32.add_comm (-(r 0 k + r 0 l)), ← Int32.add_assoc]
      · rfl
  · intro q hP
    rw [hP]
    unfold fX6_pays_19b
    rw [if_pos (by rw [rl.2.2.2.1]; exact nI_le (Nat.le_refl m) (by omega))]
    simp only [vl_eq, m_pays2 rl ok hk hl hp]
    rw [pls_thd ok hkl2 ⟨k, hk, rfl⟩ ⟨l, hl, rfl⟩ n (Nat.le_refl n)]
    have e1 : pgn r (nI k) (nI l) m - (r 0 k + r 0 l) - pls n r (nI k) (nI l) 0 n = nI G - nI (fk + fl + Q) := by
      rw [eG, efk, efl, eQ, nI_add, ← nI_add (fk + fl) Q, Int32.sub_eq_add_neg, Int32.sub_eq_add_neg, Int32.sub_eq_add_neg, Int32.neg_add, Int32.sub_eq_add_neg, Int32.add_assoc]
    rw [e1]
    simp only [sub_sign2 (show G < 2 ^ 30 by omega) (show fk + fl + Q < 2 ^ 30 by omega)]
    unfold pays
    rw [pls_x, kg_nI (show k < 2 ^ 31 by omega), kg_nI (show l < 2 ^ 31 by omega), eG, efk, efl, eQ, nI_add, nI_add]
end MPays
section Ops5
variable {s : SX} {t : SM}
theorem op_pact (h : Inv s t) (a b : Int32) : Sm (fX5_pact a b s) (fX6_pact a b t) := by
  obtain ⟨n, m, ok, rl⟩ := h.1
  unfold fX5_pact fX6_pact
  simp only [x_two, m_two, bd_one, b2i_0]
  cases h1 : two a b with
  | false => rw [if_pos rfl, if_pos rfl]; exact fin0 h
  | true =>
    obtain ⟨k, l, hk, hl, hkl, rfl, rfl⟩ := two_rng h1
    obtain ⟨f, e1, e2⟩ := m_findPledges rl ok
    have rlf : Rl 0 n m (co s 0) (rM t 11 f) := rl.q Mq.r11
    simp only [reduceCtorEq, if_false, x_pp1 ok (nI k) (nI l) ⟨k, hk, rfl⟩ ⟨l, hl, rfl⟩, e1, bd_one, m_pays rlf ok hk hl hkl (by rw [gM_rM, if_pos rfl]; exact e2), b2i_0]
    cases pays n m (co s 0) (nI k) (nI l) <;> exact Sm.of h.m11
end Ops5
