/-! ===== the way: all steps, the class ===== -/
theorem x_find {s : SX} {n m K : Nat} {mc ma : Nat → Nat} {r : Co} (ok : Ok n m r) (e0 : co s 0 = r) (cl : Cl r) (cl4 : Cl (co s 4)) (hM : Mvs n K mc ma) (rt : Rt K mc ma s) (hK : K ≤ 8) : ∃ v s', fX2_find s = some (v, s') ∧ Fw s s' ∧ Cl (co s' 4) ∧ gX s' 7 0 5 = nI K ∧ (∀ x, 1 ≤ x → x < 2 ^ K → EQ K (HH n m r K mc ma) (gX s' 7 3) x) ∧ ((0 < K → anyN K (pS (gX s' 7 3) 0) = true) → v = 1 ∧ ∀ i, i < K → gX s' 7 4 i = nI (mc (sj (gX s' 7 3) K i))) ∧ (¬ (0 < K → anyN K (pS (gX s' 7 3) 0) = true) → v = 0) := by
  have hn := ok.1
  have h256 : 2 ^ K ≤ 256 := Nat.pow_le_pow_right (by decide) hK
  obtain ⟨s1, x1, x2, x3⟩ := x_become (i := 4) (j := 0) (s := s) (by decide) cl4 (by rw [e0]; exact cl)
  rw [e0] at x2
  have rt1 : Rt K mc ma s1 := rt.fr (x3.1 7 (by decide))
  have key : ∀ (d F : Nat) (a : SX), d < 2 ^ K → d < F → Fw s a → Rt K mc ma a → C4 K mc r a → (∀ x, 1 ≤ x → d + 1 ≤ x → x < 2 ^ K → EQ K (HH n m r K mc ma) (gX a 7 3) x) → ∃ a', lp (fun _ _ _ => none) fX2_find_19b F (nI (2 ^ K - 1)) (nI d) a = fX2_find_67 400 0 0 a' ∧ Fw s a' ∧ Rt K mc ma a' ∧ C4 K mc r a' ∧ ∀ x, 1 ≤ x → x < 2 ^ K → EQ K (HH n m r K mc ma) (gX a' 7 3) x := by
    intro d
    induction d with
    | zero =>
      intro F a h1 h2 q1 q2 q3 q4
      obtain ⟨F, rfl⟩ : ∃ G, F = G + 1 := ⟨F - 1, by omega⟩
      refine ⟨a, ?_, q1, q2, q3, fun x h => q4 x h (by omega)⟩
      show fX2_find_19b (lp _ _ F) _ (nI 0) a = _
      generalize lp _ fX2_find_19b F = kk
      unfold fX2_find_19b
      rw [if_pos (show nI 0 ≤ 0 by decide), vl_eq, vl_eq]
    | succ d ih =>
      intro F a h1 h2 q1 q2 q3 q4
      obtain ⟨F, rfl⟩ : ∃ G, F = G + 1 := ⟨F - 1, by omega⟩
      have ih2 := ih F
      show ∃ a', fX2_find_19b (lp _ _ F) (nI (2 ^ K - 1)) (nI (d + 1)) a = _ ∧ _
      generalize lp _ fX2_find_19b F = kk at ih2 ⊢
      have ca : co a 0 = r := (fw_co q1 (by decide) (by decide)).trans e0
      -- one step with the answer v
      have go : ∀ (b : SX) (v : Bool), Fr 4 a b → C4 K mc r b → v = ((decide (d + 1 = 2 ^ K - 1) || anyN K (pS (gX a 7 3) (d + 1))) && HH n m r K mc ma (d + 1)) → ∃ a', fX2_find_55 kk (nI (2 ^ K - 1)) (nI (d + 1)) (nI (d + 1)) (b2i v) b = fX2_find_67 400 0 0 a' ∧ Fw s a' ∧ Rt K mc ma a' ∧ C4 K mc r a' ∧ ∀ x, 1 ≤ x → x < 2 ^ K → EQ K (HH n m r K mc ma) (gX a' 7 3) x := by
        intro b v fb cb4 hv
        have e7 : gX b 7 3 = gX a 7 3 := by rw [fb.1 7 (by decide)]
        have u3 : gX (wX b 7 3 (d + 1) (b2i v)) 7 3 = upd (gX a 7 3) (d + 1) (b2i v) := by
          funext k
          rw [gX_wX, if_pos rfl, if_pos rfl, e7]
          rfl
        unfold fX2_find_55
        rw [gd_pos (b2i_b v), ixg_nI (show d + 1 < 256 by omega) (by decide), vl_eq, vl_eq, nI_dec]
        refine ih2 (wX b 7 3 (d + 1) (b2i v)) (by omega) (by omega) ((q1.trans (fb.Fw (Or.inl rfl))).trans (Fr.wX.Fw (Or.inr rfl))) (rt_w (q2.fr (fb.1 7 (by decide))) (Or.inl rfl)) (c4_fr cb4 ((Fr.wX (i := 7)).1 4 (by decide))) ?_
        rw [u3]
        exact EQ_upd (lo := 1) (fun x h0 h1 h2 => q4 x h0 h1 h2) (by rw [hv])
      -- the step that asks whether all hold
      have ask : (decide (d + 1 = 2 ^ K - 1) || anyN K (pS (gX a 7 3) (d + 1))) = true → ∃ a', fX2_find_41 kk (nI (2 ^ K - 1)) (nI (d + 1)) (nI (d + 1)) a = fX2_find_67 400 0 0 a' ∧ Fw s a' ∧ Rt K mc ma a' ∧ C4 K mc r a' ∧ ∀ x, 1 ≤ x → x < 2 ^ K → EQ K (HH n m r K mc ma) (gX a' 7 3) x := by
        intro hT
        obtain ⟨b, k1, k2, k3⟩ := x_holdsAt (mask := d + 1) ok ca hM q2 q3 hK
        have gg := go b (HH n m r K mc ma (d + 1)) k2 k3 (by rw [hT, Bool.true_and])
        unfold fX2_find_41 fX2_find_54
        rw [k1, bd_one]
        cases hH : HH n m r K mc ma (d + 1) with
        | true => rw [hH] at gg; rw [if_neg (show ¬ b2i true = 0 by decide)]; exact gg
        | false => rw [hH] at gg; rw [if_pos (show b2i false = 0 by decide)]; exact gg
      unfold fX2_find_19b
      rw [if_neg (show ¬ nI (d + 1) ≤ 0 from nI_ge (a := 0) (by omega) (by omega))]
      by_cases hf : d + 1 = 2 ^ K - 1
      · rw [if_pos (show nI (d + 1) = nI (2 ^ K - 1) by rw [hf])]
        exact ask (by simp [hf])
      · rw [if_neg (fun w => hf ((nI_eq (by omega) (by omega)).mp w)), x_firstStep q2.1 hK h1, bd_one]
        cases hs : fnd (pS (gX a 7 3) (d + 1)) 0 K with
        | none =>
          rw [if_pos (show (-1 : Int32) < 0 by decide)]
          unfold fX2_find_54
          exact go a false Fr.rfl' q3 (by rw [fnd_none hs]; simp [hf])
        | some j =>
          obtain ⟨j1, j2, -⟩ := fnd_some hs
          rw [if_neg (show ¬ nI j < 0 from nI_pos (by omega))]
          exact ask (by rw [anyN_iff.mpr ⟨j, j1, j2⟩, Bool.or_true])
  have p2 := Nat.two_pow_pos K
  obtain ⟨a', k1, k2, k3, k4, k5⟩ := key (2 ^ K - 1) 400 s1 (by omega) (by omega) (x3.Fw (Or.inl rfl)) rt1 ⟨fun j _ => by rw [x2], fun c _ => by rw [x2]⟩ (fun x _ h1 h2 => by omega)
  obtain ⟨v, s', y1, y2, y3, y4, y5, y6⟩ := x_find67 hM hn k3 hK k5
  unfold fX2_find fX2_find_19
  rw [x1, bd_one, vl_eq, vl_eq, rt1.1, full_nI hK, k1, y1]
  refine ⟨v, s', rfl, k2.trans (y2.Fw (Or.inr rfl)), ?_, y3, ?_, ?_, ?_⟩
  · rw [co_o y2 (by decide)]; exact c4_cl k4 hM hn cl
  · rw [y4]; exact k5
  · rw [y4]; exact y5
  · rw [y4]; exact y6
/-! the reference's way -/
def Wt (n m K : Nat) (mc ma : Nat → Nat) (r : Co) (t0 t : SM) : Prop := Rl 0 n m r t ∧ Mo t0 t ∧ gM t 0 23 = nI K ∧ ∀ i, i < K → gM t 12 i = nI (mc i) ∧ gM t 13 i = nI (ma i)
theorem Wt.ml {n m K : Nat} {mc ma : Nat → Nat} {r : Co} {t0 t t2 : SM} (h : Wt n m K mc ma r t0 t) (ok : Ok n m r) (ml : Ml t t2) : Wt n m K mc ma r t0 (wM t2 0 11 0) ∧ gM (wM t2 0 11 0) 14 = gM t 14 := by
  have g : ∀ a, a ≠ 0 → a ≠ 9 → a ≠ 11 → gM (wM t2 0 11 0) a = gM t a := fun a p q s => by
    rw [show wM t2 0 11 0 = rM t2 0 _ from rfl, gM_rM, if_neg p]; exact ml.1 a p q s
  refine ⟨⟨rl_back h.1 ok ml, h.2.1.trans (mo_back ml), ?_, fun i hi => ?_⟩, g 14 (by decide) (by decide) (by decide)⟩
  · exact (ml.2.1 23 (by decide) (by decide) (by decide) (by decide)).trans h.2.2.1
  · rw [g 12 (by decide) (by decide) (by decide), g 13 (by decide) (by decide) (by decide)]; exact h.2.2.2 i hi
theorem Wt.w14 {n m K : Nat} {mc ma : Nat → Nat} {r : Co} {t0 t : SM} {k : Nat} {x : Int32} (h : Wt n m K mc ma r t0 t) : Wt n m K mc ma r t0 (wM t 14 k x) := by
  have g : ∀ a, a ≠ 14 → gM (wM t 14 k x) a = gM t a := fun a p => by
    rw [show wM t 14 k x = rM t 14 _ from rfl, gM_rM, if_neg p]
  refine ⟨h.1.q ⟨fun a h1 h2 => g a (by omega), by rw [g 0 (by decide)], by rw [g 0 (by decide)], by rw [g 0 (by decide)]⟩, h.2.1.trans ⟨rfl, rfl, rfl, rfl, rfl, rfl, rfl, rfl⟩, ?_, fun i hi => ?_⟩
  · rw [g 0 (by decide)]; exact h.2.2.1
  · rw [g 12 (by decide), g 13 (by decide)]; exact h.2.2.2 i hi
theorem m_holdsWith {n m K mask : Nat} {mc ma : Nat → Nat} {r : Co} {t0 t : SM} (ok : Ok n m r) (hM : Mvs n K mc ma) (hK : K ≤ 8) (h : Wt n m K mc ma r t0 t) : ∃ t', fX6_holdsWith (nI mask) t = some (b2i (HH n m r K mc ma mask), t') ∧ Wt n m K mc ma r t0 t' ∧ gM t' 14 = gM t 14 := by
  have hn := ok.1
  obtain ⟨t1, z1, z2, z3⟩ := m_lends h.1 ok
  unfold fX6_holdsWith fX6_holdsWith_6
  rw [z1, bd_one, vl_eq]
  have key := lp_inv (bot := fun _ _ _ => none) (body := fX6_holdsWith_6b) (F := 400) (ap := fun (k : Tm Int32 2) i (a : SM) => k (nI mask) (nI i) a) K (fun i a => Ml t a ∧ Rl 41 n m (MVk r mc ma mask i) a) (fun b => b.1 = b2i (HH n m r K mc ma mask) ∧ Wt n m K mc ma r t0 b.2 ∧ gM b.2 14 = gM t 14) ?_ ?_ t1 ⟨z3, z2⟩ (by omega)
  · obtain ⟨⟨v, t'⟩, k1, k2, k3, k4⟩ := key
    have k2 : v = b2i (HH n m r K mc ma mask) := k2
    rw [k2] at k1
    exact ⟨t', k1, k3, k4⟩
  · intro k i a hi ⟨q1, q2⟩
    have hc := (hM.1 i hi).1
    have e23 : gM a 0 23 = nI K := (q1.2.1 23 (by decide) (by decide) (by decide) (by decide)).trans h.2.2.1
    have e12 : gM a 12 i = nI (mc i) := by rw [q1.1 12 (by decide) (by decide) (by decide)]; exact (h.2.2.2 i hi).1
    have e13 : gM a 13 i = nI (ma i) := by rw [q1.1 13 (by decide) (by decide) (by decide)]; exact (h.2.2.2 i hi).2
    cases hb : mask.testBit i with
    | false =>
      refine ⟨a, ?_, q1, by rw [MVk_s, hb, if_neg (by decide)]; exact q2⟩
      show fX6_holdsWith_6b k (nI mask) (nI i) a = _
      unfold fX6_holdsWith_6b fX6_holdsWith_46
      rw [e23, if_neg (nI_ge hi (by omega)), m_has (show i < 32 by omega), bd_one, bit_m (by omega), hb, if_pos (show b2i false = 0 by decide), vl_eq, ← nI_succ]
    | true =>
      have r2 := rl_hold (x := nI (ma i)) q2 hn hc
      have mk : Mk 41 a (wM a 9 (41 + (1 + mc i)) (nI (ma i))) := by
        refine ⟨fun b b0 b9 _ => ?_, fun k _ _ _ => rfl, rfl, fun k hk => ?_⟩
        · funext c; rw [gM_wM, if_neg b9]
        · rw [gM_wM, if_pos rfl, if_neg (by omega)]
      refine ⟨wM a 9 (41 + (1 + mc i)) (nI (ma i)), ?_, q1.Mk mk, by rw [MVk_s, hb, if_pos rfl]; exact r2⟩
      show fX6_holdsWith_6b k (nI mask) (nI i) a = _
      unfold fX6_holdsWith_6b fX6_holdsWith_46
      rw [e23, if_neg (nI_ge hi (by omega)), m_has (show i < 32 by omega), bd_one, bit_m (by omega), hb, if_neg (show ¬ b2i true = 0 by decide), ixg_nI (show i < 8 by omega) (by decide), ixg_nI (show i < 8 by omega) (by decide), e12, at1 q2, ixg_nI (show 41 + (1 + mc i) < 82 by omega) (by decide), vl_eq, vl_eq, e13, ← nI_succ]
  · intro k a ⟨q1, q2⟩
    have e23 : gM a 0 23 = nI K := (q1.2.1 23 (by decide) (by decide) (by decide) (by decide)).trans h.2.2.1
    obtain ⟨f, l1, -⟩ := m_looseSet q2 (MVk_ok hM ok mask K (Nat.le_refl K))
    obtain ⟨w1, w2⟩ := h.ml ok (q1.Mk Mk.r11 : Ml t (rM a 11 f))
    refine ⟨(b2i (HH n m r K mc ma mask), wM (rM a 11 f) 0 11 0), ?_, rfl, w1, w2⟩
    show fX6_holdsWith_6b k (nI mask) (nI K) a = _
    unfold fX6_holdsWith_6b HH
    rw [e23, if_pos (nI_le (Nat.le_refl K) (by omega)), l1, bd_one]
    by_cases hL : LW n m (MVk r mc ma mask K) = 0
    · rw [if_pos hL, vl_eq, vl_eq, gd_pos (Or.inr (Eq.refl 1))]; simp [hL, b2i]
    · rw [if_neg hL, vl_eq, vl_eq, gd_pos (Or.inl (Eq.refl 0))]; simp [hL, b2i]
theorem it_or {N : Nat} {p : Nat → Bool} {g : Bool} : it (fun i a => a || p i) N g = (g || anyN N p) := by
  induction N with
  | zero => show g = (g || false); rw [Bool.or_false]
  | succ N ih =>
    show (it _ N g || p N) = (g || (anyN N p || p N))
    rw [ih, Bool.or_assoc]
theorem m_fw29 {n m K mask : Nat} {mc ma : Nat → Nat} {r : Co} {t0 t : SM} (k11 : Tm Unit 2) (hK : K ≤ 8) (hm : mask < 2 ^ K) (h : Wt n m K mc ma r t0 t) (l1 : Int32) (g : Bool) : fX6_findWay_29 k11 400 l1 (nI mask) (b2i g) 0 t = if (g || anyN K (pS (gM t 14) mask)) = true then (if nI mask = 0 then fX6_findWay_98 k11 l1 (nI mask) (nI mask) t else bd (fX6_holdsWith (nI mask) t) fun v5 s6 => if v5 = 0 then fX6_findWay_102 k11 l1 (nI mask) (nI mask) s6 else fX6_findWay_98 k11 l1 (nI mask) (nI mask) s6) else fX6_findWay_102 k11 l1 (nI mask) (nI mask) t := by
  have h256 : 2 ^ K ≤ 256 := Nat.pow_le_pow_right (by decide) hK
  have e23 := h.2.2.1
  rw [← it_or]
  unfold fX6_findWay_29
  refine lp_for (F := 400) (ap := fun (k : Tm Unit 4) i (a : Bool) => k l1 (nI mask) (b2i a) (nI i) t) (g := fun i a => a || pS (gM t 14) mask i) K g (fun _ _ => True) (fun k i a hi _ => ⟨?_, trivial⟩) (fun k _ => ?_) trivial (by omega)
  · have lt := or_lt hm hi
    unfold fX6_findWay_29b fX6_findWay_69 fX6_findWay_65 fX6_findWay_70
    rw [e23, if_neg (nI_ge hi (by omega)), m_has (show i < 32 by omega), bd_one, bit_m (by omega), or_bt (by omega), ixg_nI (show mask ||| 2 ^ i < 256 by omega) (by decide)]
    simp only [vl_eq, ← nI_succ]
    unfold pS
    cases a with
    | true => rw [if_neg (show ¬ b2i true = 0 by decide)]; rfl
    | false =>
      rw [if_pos (show b2i false = 0 by decide)]
      cases hb : mask.testBit i with
      | true => rw [if_neg (show ¬ b2i true = 0 by decide)]; rfl
      | false =>
        rw [if_pos (show b2i false = 0 by decide)]
        by_cases hz : gM t 14 (mask ||| 2 ^ i) = 0
        · rw [if_pos hz]; simp [hz, b2i]
        · rw [if_neg hz]; simp [hz, b2i]
  · unfold fX6_findWay_29b
    rw [e23, if_pos (nI_le (Nat.le_refl K) (by omega))]
    cases it (fun i a => a || pS (gM t 14) mask i) K g with
    | true => rw [if_neg (show ¬ b2i true = 0 by decide), if_pos rfl]
    | false => rw [if_pos (show b2i false = 0 by decide), if_neg (by decide)]
