/-! ===== reading a court: its items ===== -/
def Oo (s0 : SX) (t0 : SM) (y : Nat → Int32) (z b : Nat) (A : Option (Int32 × SX)) (B : Option (Unit × SM)) : Prop := (∃ r' s' t' b' e', A = some (1, s') ∧ B = some ((), t') ∧ RR s0 t0 y z r' s' t' b' e' ∧ b < b') ∨ (∃ s' t', A = some (0, s') ∧ B = some ((), t') ∧ BB s0 t0 s' t')
section Items
variable {s0 : SX} {t0 : SM} {y : Nat → Int32} {z : Nat} {r : Co} {s : SX} {t : SM} {b e : Nat}
theorem tok_fr {s' : SX} {t' : SM} (h : Tok y z s t b e) (h8 : gX s' 8 = gX s 8) (h0 : ∀ k, 26 ≤ k → gM t' 0 k = gM t 0 k) (hN : gN t' 0 = gN t 0) : Tok y z s' t' b e := by
  unfold Tok
  rw [h8, h0 27 (by decide), h0 28 (by decide), h0 26 (by decide), h0 30 (by decide), hN]
  exact h
theorem rr_new {s' : SX} {t' : SM} {r' : Co} (h : RR s0 t0 y z r s t b e) (f : Fr 2 s s') (h10 : ∀ j, 10 ≤ j → gM t' j = gM t j) (h0 : ∀ k, k ≠ 1 → k ≠ 5 → gM t' 0 k = gM t 0 k) (hN : gN t' = gN t) (hr : co s' 2 = r') (hc : ∃ n m, Ok n m r' ∧ Cl r' ∧ Rl 0 n m r' t') : RR s0 t0 y z r' s' t' b e := by
  obtain ⟨h1, h2, h3, h4, h5, -⟩ := h
  have e8 := f.1 8 (by decide)
  refine ⟨h1.fr2 f, ⟨fun j hj => (h10 j hj).trans (h2.1 j hj), fun k a b c d e f g => (h0 k a b).trans (h2.2.1 k a b c d e f g), fun j hj => by rw [hN]; exact h2.2.2 j hj⟩, h3.fr (by rw [e8]) (by rw [e8]) (h0 25 (by decide) (by decide)) (h10 15 (by decide)), tok_fr h4 e8 (fun k hk => h0 k (by omega) (by omega)) (by rw [hN]), (h0 31 (by decide) (by decide)).trans h5, hr, hc⟩
theorem it_king (h : RR s0 t0 y z r s t b e) (hbe : b < e) : Oo s0 t0 y z b (fX4_readFear s) (fX6_wantKing t) := by
  unfold fX4_readFear fX6_wantKing
  obtain ⟨s1, t1, b1, e1, a1, a2, a3, a4⟩ := rr_adv h
  rw [a1, a2, bd_one, bd_one]
  rcases rr_num a3 (hi := 5) (by decide) with ⟨v, s2, t2, b2, e2, n1, n2, n3, n4, n5⟩ | ⟨w, t2, n1, n2, n3⟩
  · have n1 : fX4_takeNumber 5 s1 = some (nI v, s2) := n1
    have n2 : fX6_wantNumber 0 5 t1 = some (nI v, t2) := n2
    rw [n1, n2, bd_one, bd_one, vl_eq, vl_eq, if_neg (nI_pos (by omega))]
    rcases rr_word n4 (k := 1) (by decide) with ⟨s3, t3, b3, e3, w1, w2, w3, w4⟩ | ⟨t3, w1, w2, w3⟩
    · have w2 : fX6_wantWord 121788 t2 = some ((), t3) := w2
      rw [w1, w2, bd_one, bd_one, if_neg (show ¬ (1 : Int32) = 0 by decide)]
      rcases rr_num w3 (hi := 99) (by decide) with ⟨u, s4, t4, b4, e4, m1, m2, m3, m4, m5⟩ | ⟨w, t4, m1, m2, m3⟩
      · have m1 : fX4_takeNumber 99 s3 = some (nI u, s4) := m1
        have m2 : fX6_wantNumber 0 99 t3 = some (nI u, t4) := m2
        have g1 : ¬ gM t4 0 31 = 0 := by rw [m4.2.2.2.2.1]; decide
        rw [m1, m2, bd_one, bd_one, vl_eq, vl_eq, if_pos (Int32.not_lt.mp (nI_pos (by omega))), if_neg g1, ixg_nI (show v < 6 by omega) (by decide), ixg_nI (show v < 6 by omega) (by decide), vl_eq, vl_eq]
        refine Or.inl ⟨crw r 0 v (nI u), _, _, b4, e4, rfl, rfl, rr_new m4 Fr.wX (fun j hj => ?_) (fun k _ _ => ?_) rfl ?_ ?_, by omega⟩
        · funext k; rw [gM_wM, if_neg (by omega)]
        · rw [gM_wM, if_neg (by decide)]
        · rw [co_wj (by decide), m4.2.2.2.2.2.1]
        · obtain ⟨n, m, o1, o2, o3⟩ := m4.2.2.2.2.2.2
          exact ⟨n, m, ok_fear o1 ⟨u, by omega, rfl⟩, cl_crw o2 (inl9 (by decide) (show v < 6 by omega)), rl_fear o3⟩
      · have m1 : fX4_takeNumber 99 s3 = some (-1, s3) := m1
        have m2 : fX6_wantNumber 0 99 t3 = some (w, t4) := m2
        rw [m1, m2, bd_one, bd_one, vl_eq, vl_eq, if_neg (show ¬ (0 : Int32) ≤ -1 by decide), if_pos m3.2.2.2.1]
        exact Or.inr ⟨_, _, rfl, rfl, m3⟩
    · have w2 : fX6_wantWord 121788 t2 = some ((), t3) := w2
      have g := w3.2.2.2.1
      rw [w1, w2, bd_one, bd_one, if_pos (Eq.refl (0 : Int32)), bad_num g, bd_one, vl_eq, if_pos g]
      exact Or.inr ⟨_, _, rfl, rfl, w3⟩
  · have n1 : fX4_takeNumber 5 s1 = some (-1, s1) := n1
    have n2 : fX6_wantNumber 0 5 t1 = some (w, t2) := n2
    have g := n3.2.2.2.1
    rw [n1, n2, bd_one, bd_one, vl_eq, vl_eq, if_pos (show (-1 : Int32) < 0 by decide), bad_word g, bd_one, bad_num g, bd_one, vl_eq, if_pos g]
    exact Or.inr ⟨_, _, rfl, rfl, n3⟩
theorem fr_adC {n : Nat} {k f h w : Int32} (hn : n < 14) (e : gM t 0 1 = nI n) : ∃ t', fX6_addChild k f h w t = some ((), t') ∧ (∀ j, 10 ≤ j → gM t' j = gM t j) ∧ (∀ k, k ≠ 1 → k ≠ 5 → gM t' 0 k = gM t 0 k) ∧ gN t' = gN t := by
  have e15 : (15 : Int32) + nI n = nI (15 + n) := by rw [show (15 : Int32) = nI 15 from rfl, nI_add]
  have q : ∀ (u : SM) (j c : Nat) (x : Int32), j ≠ 0 → gM (wM u j c x) 0 = gM u 0 := fun u j c x hj => by funext i; rw [gM_wM, if_neg (Ne.symm hj)]
  unfold fX6_addChild
  simp only [vl_eq, e, q _ 2 _ _ (by decide), q _ 3 _ _ (by decide), q _ 4 _ _ (by decide), q _ 9 _ _ (by decide), ixg_nI hn (by decide), one_nI, e15, ixg_nI (show 1 + n < 82 by omega) (by decide), ixg_nI (show 15 + n < 82 by omega) (by decide)]
  refine ⟨_, rfl, fun j hj => ?_, fun k h1 h5 => ?_, rfl⟩
  · funext i
    rw [gM_wM, if_neg (by omega), gM_wM, if_neg (by omega), gM_wM, if_neg (by omega), gM_wM, if_neg (by omega), gM_wM, if_neg (by omega), gM_wM, if_neg (by omega)]
  · rw [gM_wM, if_pos rfl, if_neg h1, q _ 9 _ _ (by decide), q _ 9 _ _ (by decide), q _ 4 _ _ (by decide), q _ 3 _ _ (by decide), q _ 2 _ _ (by decide)]
theorem fr_adT {m : Nat} {k f h w : Int32} (hm : m < 12) (e : gM t 0 5 = nI m) : ∃ t', fX6_addTreaty k f h w t = some ((), t') ∧ (∀ j, 10 ≤ j → gM t' j = gM t j) ∧ (∀ k, k ≠ 1 → k ≠ 5 → gM t' 0 k = gM t 0 k) ∧ gN t' = gN t := by
  have e29 : (29 : Int32) + nI m = nI (29 + m) := by rw [show (29 : Int32) = nI 29 from rfl, nI_add]
  have q : ∀ (u : SM) (j c : Nat) (x : Int32), j ≠ 0 → gM (wM u j c x) 0 = gM u 0 := fun u j c x hj => by funext i; rw [gM_wM, if_neg (Ne.symm hj)]
  unfold fX6_addTreaty
  simp only [vl_eq, e, q _ 5 _ _ (by decide), q _ 6 _ _ (by decide), q _ 7 _ _ (by decide), q _ 8 _ _ (by decide), q _ 9 _ _ (by decide), ixg_nI hm (by decide), e29, ixg_nI (show 29 + m < 82 by omega) (by decide)]
  refine ⟨_, rfl, fun j hj => ?_, fun k h1 h5 => ?_, rfl⟩
  · funext i
    rw [gM_wM, if_neg (by omega), gM_wM, if_neg (by omega), gM_wM, if_neg (by omega), gM_wM, if_neg (by omega), gM_wM, if_neg (by omega), gM_wM, if_neg (by omega)]
  · rw [gM_wM, if_pos rfl, if_neg h5, q _ 9 _ _ (by decide), q _ 8 _ _ (by decide), q _ 7 _ _ (by decide), q _ 6 _ _ (by decide), q _ 5 _ _ (by decide)]
theorem rr_addC (h : RR s0 t0 y z r s t b e) (hlt : r 10 10 < 14) {k f q w : Int32} (h1 : rng k 6) (h2 : rng f 6) (h3 : rng q 6) (h4 : rng w 100) : ∃ r' v s' t', fX1_addChild 2 k f q w s = some (v, s') ∧ fX6_addChild k f q w t = some ((), t') ∧ RR s0 t0 y z r' s' t' b e := by
  have hr := h.2.2.2.2.2.1
  obtain ⟨n, m, o1, o2, o3⟩ := h.2.2.2.2.2.2
  have hn : n < 14 := by
    rw [o1.2.2.1, (lt14 o1.1).1] at hlt
    exact hlt
  obtain ⟨s', x1, x2, x3⟩ := x_addChild (i := 2) (s := s) (n := n) (m := m) (by rw [hr]; exact o1) hn k f q w
  rw [hr] at x2
  obtain ⟨t', y1, y2, y3, y4⟩ := fr_adC (k := k) (f := f) (h := q) (w := w) hn o3.2.2.1
  obtain ⟨t'', z1, z2, z3, z4⟩ := rl_adC (k := k) (f := f) (h := q) (w := w) o3 o1 hn
  have et : t'' = t' := by rw [y1] at z1; cases z1; rfl
  subst et
  exact ⟨_, _, s', t'', x1, y1, rr_new h x3 y2 y3 y4 x2 ⟨n + 1, m, ok_adC o1 hn h1 h2 h3 h4, cl_adC o2 hn, z3⟩⟩
theorem rr_addT (h : RR s0 t0 y z r s t b e) (hlt : r 10 11 < 12) {k f q w : Int32} (h1 : rng k 6) (h2 : rng f 6) (h5 : k ≠ f) (h3 : rng q 1000) (h4 : rng w 1000) : ∃ r' v s' t', fX1_addTreaty 2 k f q w s = some (v, s') ∧ fX6_addTreaty k f q w t = some ((), t') ∧ RR s0 t0 y z r' s' t' b e := by
  have hr := h.2.2.2.2.2.1
  obtain ⟨n, m, o1, o2, o3⟩ := h.2.2.2.2.2.2
  have hm : m < 12 := by
    rw [o1.2.2.2.1, (lt12 o1.2.1).1] at hlt
    exact hlt
  obtain ⟨s', x1, x2, x3⟩ := x_addTreaty (i := 2) (s := s) (n := n) (m := m) (by rw [hr]; exact o1) hm k f q w
  rw [hr] at x2
  obtain ⟨t', y1, y2, y3, y4⟩ := fr_adT (k := k) (f := f) (h := q) (w := w) hm o3.2.2.2.1
  obtain ⟨t'', z1, z2, z3, z4⟩ := rl_adT (b := k) (q := f) (g := q) (u := w) o3 o1 hm
  have et : t'' = t' := by rw [y1] at z1; cases z1; rfl
  subst et
  exact ⟨_, _, s', t'', x1, y1, rr_new h x3 y2 y3 y4 x2 ⟨n, m + 1, ok_adT o1 hm h1 h2 h5 h3 h4, cl_adT o2 hm, z3⟩⟩
theorem it_child (h : RR s0 t0 y z r s t b e) (hbe : b < e) {l : Int32} (hl : rng l 6) : Oo s0 t0 y z b (fX4_readChild l s) (fX6_wantChild l t) := by
  have h5 := h.2.2.2.2.1
  have hr := h.2.2.2.2.2.1
  obtain ⟨n, m, o1, o2, o3⟩ := h.2.2.2.2.2.2
  have g1 : ¬ gM t 0 31 = 0 := by rw [h5]; decide
  have c10 : gX s 2 10 10 = nI n := by
    have := o1.2.2.1
    rw [← hr] at this
    exact this
  have bad29 : ∀ u : SM, gM u 0 31 = 0 → fX6_wantChild_29 l u = some ((), u) := fun u hu => by
    unfold fX6_wantChild_29
    rw [bad_word hu, bd_one, bad_num hu, bd_one, vl_eq, bad_may hu, bd_one, vl_eq, bad_may hu, bd_one, vl_eq, if_pos hu]
  unfold fX4_readChild fX6_wantChild fX6_wantChild_15
  rw [c10, o3.2.2.1]
  by_cases hn : n < 14
  · have l1 : nI n < 14 := by rw [(lt14 o1.1).1]; exact hn
    rw [if_pos l1, if_neg (Int32.not_le.mpr l1), gd_pos (Or.inr (Eq.refl 1)), vl_eq, wM_self h5, if_neg g1]
    have hlt : r 10 10 < 14 := by rw [o1.2.2.1]; exact l1
    obtain ⟨s1, t1, b1, e1, a1, a2, a3, a4⟩ := rr_adv h
    rw [a1, a2, bd_one, bd_one]
    rcases rr_word a3 (k := 12) (by decide) with ⟨s2, t2, b2, e2, w1, w2, w3, w4⟩ | ⟨t2, w1, w2, w3⟩
    · have w2 : fX6_wantWord 411 t1 = some ((), t2) := w2
      unfold fX6_wantChild_29
      rw [w1, w2, bd_one, bd_one, if_neg (show ¬ (1 : Int32) = 0 by decide)]
      rcases rr_num w3 (hi := 5) (by decide) with ⟨v, s3, t3, b3, e3, n1, n2, n3, n4, n5⟩ | ⟨w, t3, n1, n2, n3⟩
      · have n1 : fX4_takeNumber 5 s2 = some (nI v, s3) := n1
        have n2 : fX6_wantNumber 0 5 t2 = some (nI v, t3) := n2
        rw [n1, n2, bd_one, bd_one, vl_eq, vl_eq, if_pos (Int32.not_lt.mp (nI_pos (by omega)))]
        have last : ∀ (sA : SX) (tA : SM) (bA eA q : Nat), RR s0 t0 y z r sA tA bA eA → b < bA → q ≤ 5 → Oo s0 t0 y z b (fX4_readChild_56 l (nI v) (nI q) sA) (bd (fX6_mayWant 12532058 0 99 10 tA) fun v10 s11 => vl v10 fun y12 => if gM s11 0 31 = 0 then some ((), s11) else bd (fX6_addChild l (nI v) (nI q) y12 s11) fun _ s13 => some ((), s13)) := by
          intro sA tA bA eA q hA hb hq
          unfold fX4_readChild_56
          rw [vl_eq, if_pos (Int32.not_lt.mp (nI_pos (by omega)))]
          have fin : ∀ (sB : SX) (tB : SM) (bB eB u : Nat), RR s0 t0 y z r sB tB bB eB → b < bB → u ≤ 99 → Oo s0 t0 y z b (fX4_readChild_85 l (nI v) (nI q) (nI u) sB) (if gM tB 0 31 = 0 then some ((), tB) else bd (fX6_addChild l (nI v) (nI q) (nI u) tB) fun _ s13 => some ((), s13)) := by
            intro sB tB bB eB u hB hb2 hu
            have gB : ¬ gM tB 0 31 = 0 := by rw [hB.2.2.2.2.1]; decide
            obtain ⟨r', vv, s', t', x1, x2, x3⟩ := rr_addC hB hlt hl (f := nI v) (q := nI q) (w := nI u) ⟨v, by omega, rfl⟩ ⟨q, by omega, rfl⟩ ⟨u, by omega, rfl⟩
            unfold fX4_readChild_85
            rw [vl_eq, if_pos (Int32.not_lt.mp (nI_pos (by omega))), x1, bd_one, if_neg gB, x2, bd_one]
            exact Or.inl ⟨r', s', t', bB, eB, rfl, rfl, x3, hb2⟩
          rcases rr_may hA (k := 14) (hi := 99) (by decide) (by decide) 10 with ⟨y1, y2⟩ | ⟨s4, u, s5, t5, b5, e5, y1, y2, y3, y4, y5, y6⟩ | ⟨s4, w, t5, y1, y2, y3, y4⟩
          · have y2 : fX6_mayWant 12532058 0 99 10 tA = some (10, tA) := y2
            rw [y1, y2, bd_one, bd_one, vl_eq, if_pos (Eq.refl (0 : Int32))]
            exact fin sA tA bA eA 10 hA hb (by decide)
          · have y3 : fX6_mayWant 12532058 0 99 10 tA = some (nI u, t5) := y3
            have y2 : fX4_takeNumber 99 s4 = some (nI u, s5) := y2
            rw [y1, y3, bd_one, bd_one, vl_eq, if_neg (show ¬ (1 : Int32) = 0 by decide), y2, bd_one]
            exact fin s5 t5 b5 e5 u y5 (by omega) y4
          · have y3 : fX6_mayWant 12532058 0 99 10 tA = some (w, t5) := y3
            have y2 : fX4_takeNumber 99 s4 = some (-1, s4) := y2
            unfold fX4_readChild_85
            rw [y1, y3, bd_one, bd_one, vl_eq, if_neg (show ¬ (1 : Int32) = 0 by decide), y2, bd_one, vl_eq, if_neg (show ¬ (0 : Int32) ≤ -1 by decide), vl_eq, if_pos y4.2.2.2.1]
            exact Or.inr ⟨_, _, rfl, rfl, y4⟩
        rcases rr_may n4 (k := 13) (hi := 5) (by decide) (by decide) (nI v) with ⟨y1, y2⟩ | ⟨s4, u, s5, t5, b5, e5, y1, y2, y3, y4, y5, y6⟩ | ⟨s4, w, t5, y1, y2, y3, y4⟩
        · have y2 : fX6_mayWant 459818 0 5 (nI v) t3 = some (nI v, t3) := y2
          rw [y1, y2, bd_one, bd_one, vl_eq, if_pos (Eq.refl (0 : Int32))]
          exact last s3 t3 b3 e3 v n4 (by omega) n3
        · have y3 : fX6_mayWant 459818 0 5 (nI v) t3 = some (nI u, t5) := y3
          have y2 : fX4_takeNumber 5 s4 = some (nI u, s5) := y2
          rw [y1, y3, bd_one, bd_one, vl_eq, if_neg (show ¬ (1 : Int32) = 0 by decide), y2, bd_one]
          exact last s5 t5 b5 e5 u y5 (by omega) y4
        · have y3 : fX6_mayWant 459818 0 5 (nI v) t3 = some (w, t5) := y3
          have y2 : fX4_takeNumber 5 s4 = some (-1, s4) := y2
          have g := y4.2.2.2.1
          unfold fX4_readChild_56
          rw [y1, y3, bd_one, bd_one, vl_eq, if_neg (show ¬ (1 : Int32) = 0 by decide), y2, bd_one, vl_eq, if_neg (show ¬ (0 : Int32) ≤ -1 by decide), vl_eq, bad_may g, bd_one, vl_eq, if_pos g]
          exact Or.inr ⟨_, _, rfl, rfl, y4⟩
      · have n1 : fX4_takeNumber 5 s2 = some (-1, s2) := n1
        have n2 : fX6_wantNumber 0 5 t2 = some (w, t3) := n2
        have g := n3.2.2.2.1
        rw [n1, n2, bd_one, bd_one, vl_eq, vl_eq, if_neg (show ¬ (0 : Int32) ≤ -1 by decide), bad_may g, bd_one, vl_eq, bad_may g, bd_one, vl_eq, if_pos g]
        exact Or.inr ⟨_, _, rfl, rfl, n3⟩
    · have w2 : fX6_wantWord 411 t1 = some ((), t2) := w2
      have g := w3.2.2.2.1
      unfold fX6_wantChild_29
      rw [w1, w2, bd_one, bd_one, if_pos (Eq.refl (0 : Int32)), bad_num g, bd_one, vl_eq, bad_may g, bd_one, vl_eq, bad_may g, bd_one, vl_eq, if_pos g]
      exact Or.inr ⟨_, _, rfl, rfl, w3⟩
  · have l1 : ¬ nI n < 14 := by rw [(lt14 o1.1).1]; exact hn
    have bb := rr_bad h
    rw [if_neg l1, if_pos (Int32.not_lt.mp l1), gd_pos (Or.inl (Eq.refl 0)), vl_eq, if_pos bb.2.2.2.1, bad29 _ bb.2.2.2.1]
    exact Or.inr ⟨_, _, rfl, rfl, bb⟩
end Items
