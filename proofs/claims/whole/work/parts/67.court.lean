/-! ===== a court is read ===== -/
def OC (s0 : SX) (t0 : SM) (y : Nat → Int32) (z : Nat) (A : Option (Int32 × SX)) (B : Option (Int32 × SM)) : Prop := (∃ L r' s' t' b' e', A = some (nI L, s') ∧ L ≤ 200 ∧ B = some (nI L, wM (wM t' 0 31 1) 0 25 0) ∧ RR s0 t0 y z r' s' t' b' e') ∨ (∃ s' t', A = some (-1, s') ∧ BB s0 t0 s' t' ∧ B = bd (fX6_moveAll 0 21 (wM t' 0 25 0)) fun _ s11 => some ((-1) - gM s11 0 27, s11))
section Court
variable {s0 : SX} {t0 : SM} {y : Nat → Int32} {z : Nat} {r : Co} {s : SX} {t : SM}
theorem bad91 {l : Int32} {u : SM} : fX6_court_91 l 0 u = bd (fX6_moveAll 0 21 (wM (wM u 0 31 0) 0 25 0)) fun _ s11 => some ((-1) - gM s11 0 27, s11) := by
  unfold fX6_court_91
  rw [gd_pos (Or.inl (Eq.refl 0)), vl_eq, vl_eq, if_pos (show gM (wM (wM u 0 31 0) 0 25 0) 0 31 = 0 by rw [g0, if_neg (by decide), g0, if_pos rfl])]
theorem stop0 {G : Nat} {l : Int32} {u : SM} : lp (fun _ _ _ => none) fX6_court_23b (G + 1) l 0 u = if gM u 0 31 = 0 then fX6_court_90 l u else if gM u 0 26 = 0 then fX6_court_91 l 1 u else fX6_court_90 l u := by
  show fX6_court_23b (lp _ _ G) l 0 u = _
  generalize lp _ fX6_court_23b G = kk
  unfold fX6_court_23b
  rw [if_pos (Eq.refl (0 : Int32))]
theorem court_key : ∀ (D i e F G : Nat) (r : Co) (s : SX) (t : SM), z - e ≤ D → D + 3 < F → D + 3 < G → 2 * (i + 1) ≤ e + 2 → e ≤ z → Ft s0 s → Mt t0 t → Tz y z s t → gX s 8 0 4 = nI e → gM t 0 28 = nI e → gM t 0 31 = 1 → co s 2 = r → (∃ n m, Ok n m r ∧ Cl r ∧ Rl 0 n m r t) → OC s0 t0 y z (bd (fX4_advance s) fun _ s2 => lp (fun _ _ => none) fX4_readInto_11b F (nI (i + 1)) s2) (lp (fun _ _ _ => none) fX6_court_23b G (nI i) 1 t) := by
  intro D
  induction D with
  | zero =>
    intro i e F G r s t hD hF hG hi hez f1 f2 tz e4 e28 h31 hr hc
    -- nothing is left to read
    obtain ⟨F, rfl⟩ : ∃ g, F = g + 1 := ⟨F - 1, by omega⟩
    obtain ⟨G, rfl⟩ : ∃ g, G = g + 2 := ⟨G - 2, by omega⟩
    obtain ⟨s1, t1, b, e2, a1, a2, a3, a4, a5, a6, a7⟩ := tok_adv tz e4 e28 hez
    obtain ⟨n, m, h6, h7, h8⟩ := hc
    have c2 : co s1 2 = r := by rw [← hr]; unfold co; rw [a3.1 2 (by decide)]
    have R : RR s0 t0 y z r s1 t1 b e2 := ⟨f1.fa a3, f2.ma a4, tz.fm a3 a4, a7, a5.trans h31, c2, n, m, h6, h7, rl_ma h8 a4⟩
    have hz := tz.1
    have k120 : ¬ (120 : Int32) < nI (i + 1) := Int32.not_lt.mpr (nI_le (b := 120) (by omega) (by omega))
    rw [a1, bd_one]
    show OC s0 t0 y z (fX4_readInto_11b (lp _ _ F) (nI (i + 1)) s1) (fX6_court_23b (lp _ _ (G + 1)) (nI i) 1 t)
    rcases it_item R with ⟨r', s', t', b', e', x1, x2, x3, x4⟩ | ⟨s', t', x1, x2, x3⟩
    · exfalso
      have := x3.2.2.2.1.2.2.2.2.2.1
      have := x3.2.2.2.1.2.2.2.2.1
      have := a7.2.2.2.2.1
      omega
    · have g := x3.2.2.2.1
      have stop := stop0 (G := G) (l := nI (i + 1)) (u := t')
      generalize lp _ fX4_readInto_11b F = kx
      generalize lp _ fX6_court_23b (G + 1) = km at stop ⊢
      unfold fX4_readInto_11b fX6_court_23b fX6_court_66 fX6_court_67
      rw [if_neg k120, x1, bd_one, if_pos (Eq.refl (0 : Int32)), if_neg (show ¬ (1 : Int32) = 0 by decide), a2, bd_one, x2, bd_one, vl_eq, if_pos g, vl_eq, ← nI_succ, stop, if_pos g]
      unfold fX6_court_90
      rw [bad91, wM_self g]
      exact Or.inr ⟨s', t', rfl, x3, rfl⟩
  | succ D ih =>
    intro i e F G r s t hD hF hG hi hez f1 f2 tz e4 e28 h31 hr hc
    obtain ⟨F, rfl⟩ : ∃ g, F = g + 1 := ⟨F - 1, by omega⟩
    obtain ⟨G, rfl⟩ : ∃ g, G = g + 2 := ⟨G - 2, by omega⟩
    obtain ⟨s1, t1, b, e2, a1, a2, a3, a4, a5, a6, a7⟩ := tok_adv tz e4 e28 hez
    obtain ⟨n, m, h6, h7, h8⟩ := hc
    have c2 : co s1 2 = r := by rw [← hr]; unfold co; rw [a3.1 2 (by decide)]
    have R : RR s0 t0 y z r s1 t1 b e2 := ⟨f1.fa a3, f2.ma a4, tz.fm a3 a4, a7, a5.trans h31, c2, n, m, h6, h7, rl_ma h8 a4⟩
    have hz := tz.1
    have k120 : ¬ (120 : Int32) < nI (i + 1) := Int32.not_lt.mpr (nI_le (b := 120) (by omega) (by omega))
    have ih2 := ih (i + 1)
    rw [a1, bd_one]
    show OC s0 t0 y z (fX4_readInto_11b (lp _ _ F) (nI (i + 1)) s1) (fX6_court_23b (lp _ _ (G + 1)) (nI i) 1 t)
    rcases it_item R with ⟨r', s', t', b', e', x1, x2, x3, x4⟩ | ⟨s', t', x1, x2, x3⟩
    · have stop := stop0 (G := G) (l := nI (i + 1)) (u := t')
      have ih3 := ih2 e' F (G + 1) r' s' t'
      have g : ¬ gM t' 0 31 = 0 := by rw [x3.2.2.2.2.1]; decide
      obtain ⟨y1, y2, y3, y4, y5, y5b, y6⟩ := x3
      have X : RR s0 t0 y z r' s' t' b' e' := ⟨y1, y2, y3, y4, y5, y5b, y6⟩
      have be := y4.2.2.2.2.1
      have ez := y4.2.2.2.2.2.1
      have ee2 := a7.2.2.2.2.1
      generalize lp (fun _ _ => none) fX4_readInto_11b F = kx at ih3 ⊢
      generalize lp (fun _ _ _ => none) fX6_court_23b (G + 1) = km at stop ih3 ⊢
      unfold fX4_readInto_11b fX6_court_23b fX6_court_66 fX6_court_67
      rw [if_neg k120, x1, bd_one, if_neg (show ¬ (1 : Int32) = 0 by decide), if_neg (show ¬ (1 : Int32) = 0 by decide), a2, bd_one, x2, bd_one, vl_eq, vl_eq, if_neg g]
      have badEnd : ¬ gM t' 0 26 = 0 → OC s0 t0 y z (some (-1, s')) (km (nI i + 1) 0 t') := by
        intro w
        rw [← nI_succ, stop, if_neg g, if_neg w]
        unfold fX6_court_90
        rw [bad91]
        exact Or.inr ⟨s', wM t' 0 31 0, rfl, rr_bad X, rfl⟩
      rcases y4.2.2.2.2.2.2 with ⟨-, c1, c2⟩ | ⟨-, -, c1, c2, -⟩ | ⟨-, c1, c2, -⟩ | ⟨c0, c1, c2, c3⟩ | ⟨-, c1, c2, c3⟩
      · rw [c1, c2, if_pos (Eq.refl (0 : Int32)), if_neg (show ¬ (0 : Int32) = 3 by decide), ← nI_succ, stop, if_neg g, if_pos c2]
        unfold fX6_court_91
        rw [gd_pos (Or.inr (Eq.refl 1)), vl_eq, vl_eq, if_neg (show ¬ gM (wM (wM t' 0 31 1) 0 25 0) 0 31 = 0 by rw [g0, if_neg (by decide), g0, if_pos rfl]; decide)]
        exact Or.inl ⟨i + 1, r', s', t', b', e', rfl, by omega, rfl, X⟩
      · rw [c1, c2, if_neg (show ¬ (1 : Int32) = 0 by decide), if_neg (show ¬ (1 : Int32) = 3 by decide), if_neg (show ¬ (1 : Int32) = 3 by decide)]
        exact badEnd (by rw [c2]; decide)
      · rw [c1, c2, if_neg (show ¬ (2 : Int32) = 0 by decide), if_neg (show ¬ (2 : Int32) = 3 by decide), if_neg (show ¬ (2 : Int32) = 3 by decide)]
        exact badEnd (by rw [c2]; decide)
      · rw [c1, c2, c3, if_neg (show ¬ (3 : Int32) = 0 by decide), if_pos (Eq.refl (3 : Int32)), if_pos (Eq.refl (3 : Int32)), if_pos (Eq.refl (59 : Int32))]
        simp only [vl_eq]
        rw [← nI_succ, ← nI_succ]
        exact ih3 (by omega) (by omega) (by omega) (by omega) ez y1 y2 y3 y4.2.2.1 y4.2.2.2.1 y5 y5b y6
      · rw [c1, c2, if_neg (show ¬ (4 : Int32) = 0 by decide), if_neg (show ¬ (4 : Int32) = 3 by decide), if_pos (Eq.refl (3 : Int32)), if_neg c3]
        exact badEnd (by rw [c2]; decide)
    · have g := x3.2.2.2.1
      have stop := stop0 (G := G) (l := nI (i + 1)) (u := t')
      generalize lp _ fX4_readInto_11b F = kx
      generalize lp _ fX6_court_23b (G + 1) = km at stop ⊢
      unfold fX4_readInto_11b fX6_court_23b fX6_court_66 fX6_court_67
      rw [if_neg k120, x1, bd_one, if_pos (Eq.refl (0 : Int32)), if_neg (show ¬ (1 : Int32) = 0 by decide), a2, bd_one, x2, bd_one, vl_eq, if_pos g, vl_eq, ← nI_succ, stop, if_pos g]
      unfold fX6_court_90
      rw [bad91, wM_self g]
      exact Or.inr ⟨s', t', rfl, x3, rfl⟩
end Court
theorem inv_read {s s' : SX} {t t' : SM} (h : Inv s t) (hs : ∀ a, a ≠ 0 → a ≠ 2 → a ≠ 8 → gX s' a = gX s a) (hL : gL s' = gL s) (h8 : gX s' 8 0 1 = 0) (ht : ∀ j, 10 ≤ j → j ≠ 21 → j ≠ 22 → gM t' j = gM t j) (h38 : gM t' 0 38 = gM t 0 38) (h25 : gM t' 0 25 = 0) (hN : gN t' 18 = gN t 18) (hc : ∃ n m, Ok n m (co s' 0) ∧ Rl 0 n m (co s' 0) t') (cl0 : Cl (co s' 0)) (cl2 : Cl (co s' 2)) : Inv s' t' := by
  obtain ⟨-, cl, kp, fd, -, sh⟩ := h
  have cc : ∀ i, i ≠ 0 → i ≠ 2 → i ≠ 8 → co s' i = co s i := fun i a b c => by unfold co; rw [hs i a b c]
  refine ⟨hc, fun i hi => ?_, ?_, ?_, ⟨0, by decide, h8, h25, fun k hk => absurd hk (Nat.not_lt_zero k)⟩, ?_⟩
  · by_cases i0 : i = 0
    · subst i0; exact cl0
    · by_cases i2 : i = 2
      · subst i2; exact cl2
      · rw [cc i i0 i2 (by omega)]; exact cl i hi
  · unfold Kp at kp ⊢
    rw [hs 5 (by decide) (by decide) (by decide), cc 1 (by decide) (by decide) (by decide), h38, ht 20 (by decide) (by decide) (by decide)]; exact kp
  · unfold Fnd at fd ⊢
    rw [hs 5 (by decide) (by decide) (by decide), ht 10 (by decide) (by decide) (by decide)]; exact fd
  · intro q hq
    rw [hs (9 + q) (by omega) (by omega) (by omega), ht 16 (by decide) (by decide) (by decide), ht 17 (by decide) (by decide) (by decide), hL, hN]; exact sh q hq
theorem op_court {s : SX} {t : SM} (h : Inv s t) : Sm (fX5_court s) (fX6_court t) := by
  obtain ⟨n, m, ok, rl⟩ := h.1
  obtain ⟨z, hz, tz1, tz2, tz3⟩ := h.2.2.2.2.1
  obtain ⟨s1, x1, x2, x3⟩ := x_become (i := 2) (j := 0) (s := s) (by decide) (h.2.1 2 (by decide)) (h.2.1 0 (by decide))
  obtain ⟨t1, y1, y2, y3, y4, y5⟩ := m_out (z := 21) (Or.inr rfl) rl ok
  have cl0 := h.2.1 0 (by decide)
  unfold fX5_court fX6_court fX4_readInto fX4_readInto_11 fX6_court_23
  rw [x1, bd_one, y1, bd_one, vl_eq, vl_eq, vl_eq, vl_eq, vl_eq]
  generalize hS : wX s1 8 0 4 0 = S
  generalize hT : wM (wM t1 0 28 0) 0 31 1 = T
  have f8 : Fr 8 s1 S := by rw [← hS]; exact Fr.wX
  have S1 : gX S 8 0 1 = nI z := by rw [← hS, g8, if_neg (by decide), x3.1 8 (by decide)]; exact tz1
  have S4 : gX S 8 0 4 = nI 0 := by rw [← hS, g8, if_pos rfl]; rfl
  have S8 : gX S 8 1 = gX s 8 1 := by rw [← hS, g81, x3.1 8 (by decide)]
  have Sa : ∀ a, a ≠ 2 → a ≠ 8 → gX S a = gX s a := fun a h2 h8 => by rw [f8.1 a h8, x3.1 a h2]
  have SL : gL S = gL s := f8.2.trans x3.2
  have S2 : co S 2 = co s 0 := by rw [co_o f8 (by decide)]; exact x2
  have T0 : ∀ k, k ≠ 28 → k ≠ 31 → k ≠ 39 → gM T 0 k = gM t 0 k := fun k a b c => by rw [← hT, g0, if_neg b, g0, if_neg a, y4 k c]
  have T28 : gM T 0 28 = nI 0 := by rw [← hT, g0, if_neg (by decide), g0, if_pos rfl]; rfl
  have T31 : gM T 0 31 = 1 := by rw [← hT, g0, if_pos rfl]
  have Tj : ∀ j, j ≠ 0 → gM T j = gM t1 j := fun j hj => by rw [← hT]; funext k; rw [gM_wM, if_neg hj, gM_wM, if_neg hj]
  have Tb : ∀ j, j ≠ 0 → j ≠ 21 → j ≠ 22 → gM T j = gM t j := fun j a b c => (Tj j a).trans (y3 j a b c)
  have TN : gN T = gN t := by rw [← hT]; exact y5
  have rlT : Rl 0 n m (co s 0) T := rl.q ⟨fun a h1 h2 => Tb a (by omega) (by omega) (by omega), T0 1 (by decide) (by decide) (by decide), T0 5 (by decide) (by decide) (by decide), T0 11 (by decide) (by decide) (by decide)⟩
  have tzz : Tz (gX s 8 1) z S T := ⟨hz, S1, (T0 25 (by decide) (by decide) (by decide)).trans tz2, S8, fun k hk => by rw [Tb 15 (by decide) (by decide) (by decide)]; exact ⟨(tz3 k hk).1.symm, (tz3 k hk).2⟩⟩
  have main := court_key (s0 := S) (t0 := T) (y := gX s 8 1) (z := z) z 0 0 400 400 (co s 0) S T (by omega) (by omega) (by omega) (by decide) (Nat.zero_le z) ⟨fun _ _ _ => rfl, rfl, rfl, rfl⟩ ⟨fun _ _ => rfl, fun _ _ _ _ _ _ _ _ => rfl, fun _ _ => rfl⟩ tzz S4 T28 T31 S2 ⟨n, m, ok, cl0, rlT⟩
  have main : OC S T (gX s 8 1) z (bd (fX4_advance S) fun _ s2 => vl 1 fun y3 => lp (fun _ _ => none) fX4_readInto_11b 400 y3 s2) (lp (fun _ _ _ => none) fX6_court_23b 400 0 1 T) := main
  generalize (bd (fX4_advance S) fun _ s2 => vl 1 fun y3 => lp (fun _ _ => none) fX4_readInto_11b 400 y3 s2) = A at main ⊢
  generalize lp (fun _ _ _ => none) fX6_court_23b 400 0 1 T = B at main ⊢
  rcases main with ⟨L, r', s', t', b', e', o1, o2, o3, o4⟩ | ⟨s', t', o1, o2, o3⟩
  · obtain ⟨u1, u2, u3, u4, u5, u6, n', m', u7, u8, u9⟩ := o4
    rw [o1, bd_one, vl_eq, vl_eq, if_pos (Int32.not_lt.mp (nI_pos (by omega))), o3]
    have fw : Fr 8 s' (wX s' 8 0 1 0) := Fr.wX
    have c50 : co (wX s' 8 0 1 0) 0 = co s 0 := by
      rw [co_o fw (by decide)]; unfold co; rw [u1.1 0 (by decide) (by decide), Sa 0 (by decide) (by decide)]
    have c52 : co (wX s' 8 0 1 0) 2 = r' := by rw [co_o fw (by decide)]; exact u6
    obtain ⟨s6, v1, v2, v3⟩ := x_become (i := 0) (j := 2) (s := wX s' 8 0 1 0) (by decide) (by rw [c50]; exact cl0) (by rw [c52]; exact u8)
    rw [c52] at v2
    rw [v1, bd_one]
    have q0 : ∀ k, k ≠ 31 → k ≠ 25 → gM (wM (wM t' 0 31 1) 0 25 0) 0 k = gM t' 0 k := fun k a b => by rw [g0, if_neg b, g0, if_neg a]
    have qj : ∀ j, j ≠ 0 → gM (wM (wM t' 0 31 1) 0 25 0) j = gM t' j := fun j hj => by funext k; rw [gM_wM, if_neg hj, gM_wM, if_neg hj]
    refine Sm.of (inv_read h (fun a a0 a2 a8 => ?_) ?_ ?_ (fun j j1 j2 j3 => ?_) ?_ ?_ ?_ ⟨n', m', ?_, ?_⟩ ?_ ?_)
    · rw [v3.1 a a0, fw.1 a a8, u1.1 a a2 a8, Sa a a2 a8]
    · rw [v3.2, fw.2, u1.2.1, SL]
    · rw [v3.1 8 (by decide), g8, if_pos rfl]
    · rw [qj j (by omega), u2.1 j j1, Tb j (by omega) j2 j3]
    · rw [q0 38 (by decide) (by decide), u2.2.1 38 (by decide) (by decide) (by decide) (by decide) (by decide) (by decide) (by decide), T0 38 (by decide) (by decide) (by decide)]
    · rw [g0, if_pos rfl]
    · show gN t' 18 = gN t 18
      rw [u2.2.2 18 (by decide), TN]
    · rw [v2]; exact u7
    · rw [v2]; exact u9.q ⟨fun a h1 h2 => qj a (by omega), q0 1 (by decide) (by decide), q0 5 (by decide) (by decide), q0 11 (by decide) (by decide)⟩
    · rw [v2]; exact u8
    · rw [co_o v3 (by decide), c52]; exact u8
  · obtain ⟨u1, u2, u3, u4, u5⟩ := o2
    have q0 : ∀ k, k ≠ 25 → gM (wM t' 0 25 0) 0 k = gM t' 0 k := fun k a => by rw [g0, if_neg a]
    have qj : ∀ j, j ≠ 0 → gM (wM t' 0 25 0) j = gM t' j := fun j hj => by funext k; rw [gM_wM, if_neg hj]
    have w11 : gM (wM t' 0 25 0) 0 11 = 0 := by
      rw [q0 11 (by decide), u2.2.1 11 (by decide) (by decide) (by decide) (by decide) (by decide) (by decide) (by decide), T0 11 (by decide) (by decide) (by decide)]
      exact rl.2.1
    have im : Im n m (co s 0) (gM (wM t' 0 25 0) 21) := by
      rw [qj 21 (by decide), u2.1 21 (by decide), Tj 21 (by decide)]; exact y2
    obtain ⟨t2, v1, v2, v3, v4, v5⟩ := m_inn (z := 21) (Or.inr rfl) w11 ok im
    have fw : Fr 8 s' (wX s' 8 0 1 0) := Fr.wX
    have c50 : co (wX s' 8 0 1 0) 0 = co s 0 := by
      rw [co_o fw (by decide)]; unfold co; rw [u1.1 0 (by decide) (by decide), Sa 0 (by decide) (by decide)]
    have e27 : gM t2 0 27 = gX (wX s' 8 0 1 0) 8 0 3 := by
      rw [v4 27 (by decide) (by decide) (by decide), q0 27 (by decide), g8, if_neg (by decide), u3]
    rw [o1, bd_one, vl_eq, vl_eq, if_neg (show ¬ (0 : Int32) ≤ -1 by decide), o3, v1, bd_one, e27]
    refine Sm.of (inv_read h (fun a a0 a2 a8 => ?_) ?_ ?_ (fun j j1 j2 j3 => ?_) ?_ ?_ ?_ ⟨n, m, ?_, ?_⟩ ?_ ?_)
    · rw [fw.1 a a8, u1.1 a a2 a8, Sa a a2 a8]
    · rw [fw.2, u1.2.1, SL]
    · rw [g8, if_pos rfl]
    · rw [v3 j j1 j3, qj j (by omega), u2.1 j j1, Tb j (by omega) j2 j3]
    · rw [v4 38 (by decide) (by decide) (by decide), q0 38 (by decide), u2.2.1 38 (by decide) (by decide) (by decide) (by decide) (by decide) (by decide) (by decide), T0 38 (by decide) (by decide) (by decide)]
    · rw [v4 25 (by decide) (by decide) (by decide), g0, if_pos rfl]
    · rw [v5]
      show gN t' 18 = gN t 18
      rw [u2.2.2 18 (by decide), TN]
    · rw [c50]; exact ok
    · rw [c50]; exact v2
    · rw [c50]; exact cl0
    · rw [co_o fw (by decide)]; exact u5
