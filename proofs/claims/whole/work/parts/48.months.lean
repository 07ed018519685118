/-! ===== counts as sums; months ===== -/
theorem pcN_s {n : Nat} {x : Int32} : pcN (n + 1) x = if bitB x n = true then pcN n x + 1 else pcN n x := rfl
theorem popF_s : ∀ n k, popF (n + 1) k = popF n k + (if k.testBit n = true then 1 else 0) := by
  intro n
  induction n with
  | zero =>
    intro k
    show k % 2 + 0 = 0 + _
    rw [Nat.testBit_zero]
    by_cases h : k % 2 = 1
    · simp [h]
    · simp [h]; omega
  | succ n ih =>
    intro k
    show k % 2 + popF (n + 1) (k / 2) = (k % 2 + popF n (k / 2)) + _
    rw [ih (k / 2), Nat.testBit_succ, Nat.add_assoc]
theorem pop_pcN {k : Nat} : ∀ n, n ≤ 32 → popF n k = pcN n (nI k) := by
  intro n
  induction n with
  | zero => intro _; rfl
  | succ n ih =>
    intro h
    rw [popF_s, pcN_s, ih (by omega), bit_nI]
    have : decide (n < 32) = true := by simp; omega
    rw [this, Bool.true_and]
    by_cases hb : k.testBit n = true
    · simp [hb]
    · simp [hb]
theorem cntP {x : Int32} (h : ∀ k, 14 ≤ k → k < 32 → bitB x k = false) : (∀ s, fJ6_bitCount_0f7a4 x s = some (nI (pcN 14 x), s)) ∧ (∀ t, fX6_ones x t = some (nI (pcN 14 x), t)) := by
  obtain ⟨k, hk, rfl⟩ := small_of h
  have e : pop k = pcN 14 (nI k) := pop_pcN 14 (by decide)
  rw [← e]
  exact ⟨x_bitCount hk, m_ones hk⟩
theorem pcN_cut {N : Nat} {x : Int32} (h : ∀ k, N ≤ k → bitB x k = false) : ∀ d, pcN (N + d) x = pcN N x := by
  intro d
  induction d with
  | zero => rfl
  | succ d ih =>
    show pcN ((N + d) + 1) x = _
    rw [pcN_s, h _ (by omega), ih]; rfl
theorem pcN_14 {N : Nat} {x : Int32} (hN : N ≤ 14) (h : ∀ k, N ≤ k → bitB x k = false) : pcN 14 x = pcN N x := by
  have := pcN_cut h (14 - N)
  rwa [show N + (14 - N) = 14 by omega] at this
theorem pcN_le {n : Nat} {x : Int32} : pcN n x ≤ n := by
  induction n with
  | zero => exact Nat.le_refl 0
  | succ n ih => rw [pcN_s]; split <;> omega
theorem pcN_sub {N : Nat} (hN : N ≤ 32) {x y : Int32} (h : ∀ k, k < N → bitB y k = true → bitB x k = true) : pcN N (x &&& (y ^^^ (-1))) + pcN N y = pcN N x := by
  induction N with
  | zero => rfl
  | succ N ih =>
    have ih := ih (by omega) (fun k hk => h k (by omega))
    rw [pcN_s, pcN_s, pcN_s, bit_and, bit_not (by omega)]
    have hk := h N (by omega)
    generalize pcN N (x &&& (y ^^^ (-1))) = P at ih ⊢
    cases hx : bitB x N with
    | true =>
      cases hy : bitB y N with
      | true => simp; omega
      | false => simp; omega
    | false =>
      cases hy : bitB y N with
      | true => rw [hx] at hk; exact absurd (hk hy) (by decide)
      | false => simp; omega
section MMonth
variable {off n m : Nat} {r : Co} {t : SM}
theorem m_brokenMany (rl : Rl off n m r t) (ok : Ok n m r) : fX6_brokenMany t = some (nI (pcN m (r 10 13)), t) := by
  have hm := ok.2.1
  have h41 := rl.1
  unfold fX6_brokenMany fX6_brokenMany_4
  rw [vl_eq, vl_eq]
  refine lp_for (F := 400) (ap := fun (k : Tm Int32 2) c (a : Nat) => k (nI a) (nI c) t) (g := fun k a => if bitB (r 10 13) k = true then a + 1 else a) m 0 (fun _ _ => True) (fun k c a hc _ => ⟨?_, trivial⟩) (fun k _ => ?_) trivial (by omega)
  · unfold fX6_brokenMany_4b
    rw [if_neg (by rw [rl.2.2.2.1]; exact nI_ge hc (by omega)), rl.2.1, show (29 : Int32) = nI 29 from rfl, at3, ixg_nI (by omega) (by decide), vl_eq, vl_eq, (rl.tr hc).2.2.2.2, ← nI_succ]
    unfold brk
    cases bitB (r 10 13) c with
    | true => exact congrArg (fun z => k z (nI (c + 1)) t) (by show nI a + 1 = nI (a + 1); rw [← nI_succ])
    | false => show k (nI a + 0) _ _ = k (nI a) _ _; rw [Int32.add_zero]
  · unfold fX6_brokenMany_4b
    rw [if_pos (by rw [rl.2.2.2.1]; exact nI_le (Nat.le_refl m) (by omega))]
    rfl
theorem fal_14 (d : Nat) : ∀ {r : Co}, (fal n m d r).2 10 14 = r 10 14 := by
  induction d with
  | zero => intro r; rfl
  | succ d ih =>
    intro r
    unfold fal
    by_cases h : LW n m r = 0
    · rw [if_pos h]
    · rw [if_neg h]; exact (ih (r := stp n m r)).trans rfl
theorem fal_0 (d : Nat) (h : LW n m r = 0) : fal n m d r = (0, r) := by
  cases d with
  | zero => rfl
  | succ d => unfold fal; rw [if_pos h]
theorem lse_14 {y : Int32} {j : Nat} : lse n (cst r 14 y) j = (inF (cst r 14 y) j && !decide (r 7 j ≤ pl n r (r 6 j) (r 5 j) n + r 0 (kg (r 5 j)))) := rfl
theorem LW_late {y : Int32} (hm : m ≤ 12) (h : LW n m r = 0) (hy : r 10 14 ≤ y) : LW n m (cst r 14 y) = 0 := by
  apply bit_ext
  intro k hk
  rw [LW, setN_bit (by omega), bit_0]
  have hb : bitB (LW n m r) k = false := by rw [h, bit_0]
  rw [LW, setN_bit (by omega)] at hb
  by_cases hkm : k < m
  · simp only [hkm, decide_true, Bool.true_and] at hb ⊢
    rw [lse_14]
    unfold lse at hb
    have e : inF (cst r 14 y) k = true → inF r k = true := by
      unfold inF
      show (!brk r k && decide (y ≤ r 8 k)) = true → (!brk r k && decide (r 10 14 ≤ r 8 k)) = true
      intro q
      simp only [Bool.and_eq_true, decide_eq_true_eq] at q ⊢
      exact ⟨q.1, Int32.le_trans hy q.2⟩
    cases hi : inF (cst r 14 y) k with
    | false => rfl
    | true => rw [e hi] at hb; exact hb
  · simp [hkm]
theorem cst_self {k : Nat} {x : Int32} (h : r 10 k = x) : cst r k x = r := by
  funext j b
  unfold cst upd
  by_cases h10 : j = 10
  · subst h10
    by_cases hb : b = k
    · simp [hb, h]
    · simp [hb]
  · simp [h10]
theorem rl_month {x : Int32} (rl : Rl off n m r t) : Rl off n m (cst r 14 x) (wM t 9 off x) := by
  obtain ⟨a1, a2, a3, a4, a5, a6, a7, a8⟩ := rl
  have g : ∀ k, k ≠ off → gM (wM t 9 off x) 9 k = gM t 9 k := fun k hk => by rw [gM_wM, if_pos rfl, if_neg hk]
  have go : gM (wM t 9 off x) 9 off = x := by rw [gM_wM, if_pos rfl, if_pos rfl]
  refine ⟨a1, a2, a3, a4, a5, fun c hc => ⟨(a6 c hc).1, (a6 c hc).2.1, (a6 c hc).2.2.1, ?_, ?_⟩, fun j hj => ⟨(a7 j hj).1, (a7 j hj).2.1, (a7 j hj).2.2.1, (a7 j hj).2.2.2.1, ?_⟩, go⟩
  · rw [g _ (by omega)]; exact (a6 c hc).2.2.2.1
  · rw [g _ (by omega)]; exact (a6 c hc).2.2.2.2
  · rw [g _ (by omega)]; exact (a7 j hj).2.2.2.2
theorem ok_month {x : Int32} (ok : Ok n m r) (hx : rng x 1000) : Ok n m (cst r 14 x) := by
  obtain ⟨a1, a2, a3, a4, a5, a6, a7, a8, a9, a10⟩ := ok
  exact ⟨a1, a2, a3, a4, a5, a6, a7, hx, a9, a10⟩
theorem mk_month {x : Int32} (h41 : off ≤ 41) : Mk off t (wM t 9 off x) := by
  refine ⟨fun a a0 a9 _ => ?_, fun k _ _ _ => ?_, rfl, fun k hk => ?_⟩
  · funext b; rw [gM_wM, if_neg a9]
  · rfl
  · rw [gM_wM, if_pos rfl, if_neg (by omega)]
theorem m_go {mo k : Nat} (rl : Rl off n m r t) (ok : Ok n m r) (hmo : r 10 14 = nI mo) (hk : mo + k < 1000) (hk2 : k < 400) : ∃ t', fX6_go (nI k) t = some ((), t') ∧ Rl off n m (psd n m (nI k) r) t' ∧ Mk off t t' := by
  have hm := ok.2.1
  have h41 := rl.1
  have e14 : (fal n m 12 r).2 10 14 = nI mo := by rw [fal_14, hmo]
  have okR : Ok n m (fal n m 12 r).2 := ok_fal 12 ok
  have LR : LW n m (fal n m 12 r).2 = 0 := fal_end hm 12 (Nat.le_trans ubN_le hm)
  have le_mo : ∀ c, mo + c < 1000 → LW n m (cst (fal n m 12 r).2 14 (nI (mo + c))) = 0 := fun c hc => LW_late hm LR (by rw [e14]; exact nI_le (by omega) (by omega))
  have eo : nI off + 0 = nI off := Int32.add_zero _
  have key := lp_inv (bot := fun _ _ _ => none) (body := fX6_go_2b) (F := 400) (ap := fun (q : Tm Unit 2) c (u : SM) => q (nI k) (nI c) u) k (fun c u => Mk off t u ∧ ∃ r', Rl off n m r' u ∧ Ok n m r' ∧ (fal n m 12 r').2 = cst (fal n m 12 r).2 14 (nI (mo + c)) ∧ (c = 0 → r' = r) ∧ (1 ≤ c → r' = cst (fal n m 12 r).2 14 (nI (mo + c)))) (fun b => Rl off n m (psd n m (nI k) r) b.2 ∧ Mk off t b.2) ?_ ?_ t ⟨Mk.rfl', r, rl, ok, ?_, fun _ => rfl, fun h => by omega⟩ (by omega)
  · obtain ⟨⟨u, t'⟩, e1, e2, e3⟩ := key
    unfold fX6_go fX6_go_2
    rw [vl_eq]
    exact ⟨t', e1, e2, e3⟩
  · intro q c u hc ⟨p1, r', p2, p3, p4, p5, p6⟩
    obtain ⟨t2, w1, w2, w3, -⟩ := m_falls p2 p3
    rw [p4] at w2
    have w9 : gM t2 9 off = nI (mo + c) := w2.2.2.2.2.2.2.2
    refine ⟨wM t2 9 off (nI (mo + (c + 1))), ?_, (p1.trans w3).trans (mk_month h41), cst (fal n m 12 r).2 14 (nI (mo + (c + 1))), ?_, ?_, ?_, fun h => by omega, fun _ => rfl⟩
    · show fX6_go_2b q (nI k) (nI c) u = _
      unfold fX6_go_2b
      rw [if_neg (nI_ge hc (by omega)), w1, bd_one, w2.2.1, eo, ixg_nI (by omega) (by decide), ixg_nI (by omega) (by decide), vl_eq, vl_eq, w9, ← nI_succ, ← nI_succ]
      rfl
    · have := rl_month (x := nI (mo + (c + 1))) w2
      rw [cst_cst] at this
      exact this
    · exact ok_month okR ⟨mo + (c + 1), by omega, rfl⟩
    · rw [fal_0 12 (le_mo (c + 1) (by omega))]
  · intro q u ⟨p1, r', p2, p3, p4, p5, p6⟩
    refine ⟨((), u), ?_, ?_, p1⟩
    · show fX6_go_2b q (nI k) (nI k) u = _
      unfold fX6_go_2b
      rw [if_pos (nI_le (Nat.le_refl k) (by omega))]
    · unfold psd
      by_cases k0 : k = 0
      · subst k0
        rw [if_pos (show nI 0 ≤ 0 by decide), ← p5 rfl]; exact p2
      · have : ¬ nI k ≤ 0 := nI_ge (a := 0) (b := k) (by omega) (by omega)
        rw [if_neg this, e14, nI_add, ← p6 (by omega)]; exact p2
  · rw [Nat.add_zero, cst_self e14]
end MMonth
theorem ok_psd {n m mo k : Nat} {r : Co} (ok : Ok n m r) (hmo : r 10 14 = nI mo) (hk : mo + k < 1000) : Ok n m (psd n m (nI k) r) := by
  unfold psd
  by_cases h : nI k ≤ 0
  · rw [if_pos h]; exact ok
  · rw [if_neg h]
    refine ok_month (ok_fal 12 ok) ⟨mo + k, hk, ?_⟩
    rw [fal_14, hmo, nI_add]
theorem psd_13 {n m : Nat} {x : Int32} {r : Co} (h : ¬ x ≤ 0) : psd n m x r 10 13 = (fal n m 12 r).2 10 13 := by
  unfold psd; rw [if_neg h]; rfl
theorem late_eq {mo k : Nat} (h1 : mo < 1000) (h2 : k < 121) : (nI mo + nI k ≤ 999) = (mo + k < 1000) := by
  rw [nI_add]
  apply propext
  constructor
  · intro q
    exact Nat.lt_of_not_le (fun q2 => nI_ge (a := 999) (b := mo + k) (by omega) (by omega) q)
  · intro q
    exact nI_le (a := mo + k) (b := 999) (by omega) (by omega)
theorem op_months {s : SX} {t : SM} (h : Inv s t) (a : Int32) : Sm (fX5_months a s) (fX6_months a t) := by
  obtain ⟨n, m, ok, rl⟩ := h.1
  have hm := ok.2.1
  obtain ⟨mo, hmo, emo⟩ := ok.2.2.2.2.2.2.2.1
  have z0 : (0 : Int32) = 0 := Eq.refl 0
  have z1 : ¬ (1 : Int32) = 0 := by decide
  unfold fX5_months fX6_months
  by_cases h1 : a < 1
  · rw [if_pos h1, in_lo h1, bd_one, if_pos z0]; exact fin0 h
  rw [if_neg h1]
  by_cases h2 : a ≤ 60
  · rw [if_pos h2, in_in h1 (Int32.not_lt.mpr h2), bd_one, if_neg z1]
    have v1 : (1 : Int32).toInt = 1 := by decide
    have v60 : (60 : Int32).toInt = 60 := by decide
    obtain ⟨k, hk, ek⟩ := inR_rng (x := a) (N := 61) (by
      unfold inR
      rw [Int32.lt_iff_toInt_lt, v1] at h1
      rw [Int32.le_iff_toInt_le, v60] at h2
      simp only [decide_eq_true_eq]; omega)
    have k1 : 1 ≤ k := by
      refine Nat.lt_of_not_le (fun q => h1 ?_)
      have : k = 0 := by omega
      rw [ek, this]; decide
    unfold fX6_isLate
    have e9 : gM t 9 0 = nI mo := rl.2.2.2.2.2.2.2.trans emo
    have ex : gX s 0 10 14 = nI mo := emo
    rw [ixg_0 (by decide) (by decide), e9, ex, ek]
    have le := late_eq hmo (show k < 121 by omega)
    by_cases h3 : mo + k < 1000
    · have c3 : nI mo + nI k ≤ 999 := by rw [le]; exact h3
      rw [if_pos c3, if_pos c3, bd_one, if_pos z0, m_brokenMany rl ok, bd_one, vl_eq, vl_eq]
      obtain ⟨s1, x1, x2, x3⟩ := x_pass (i := 0) (s := s) ok (nI k)
      obtain ⟨t1, y1, y2, y3⟩ := m_go rl ok emo h3 (by omega)
      have okp := ok_psd (k := k) ok emo h3
      rw [x1, bd_one, y1, bd_one, m_brokenMany y2 okp, bd_one]
      have kk : ¬ nI k ≤ 0 := nI_ge (a := 0) (b := k) (by omega) (by omega)
      have x13 : gX s1 0 10 13 = psd n m (nI k) (co s 0) 10 13 := by rw [← x2]; rfl
      have c13 : gX s 0 10 13 = co s 0 10 13 := rfl
      rw [x13, c13]
      have hi : ∀ j, m ≤ j → bitB (psd n m (nI k) (co s 0) 10 13) j = false := okp.2.2.2.2.2.2.2.2.2
      obtain ⟨z2, -⟩ := cntP (x := psd n m (nI k) (co s 0) 10 13 &&& (co s 0 10 13 ^^^ (-1))) (fun j j1 _ => by rw [bit_and, hi j (by omega)]; rfl)
      rw [z2, bd_one, pcN_14 (show m ≤ 14 by omega) (fun j j1 => by rw [bit_and, hi j j1]; rfl)]
      have sub := pcN_sub (N := m) (by omega) (x := psd n m (nI k) (co s 0) 10 13) (y := co s 0 10 13) (fun j hj hb => by
        rw [psd_13 kk, (all_bits hm 12 ok j (by omega)).1, hb]; rfl)
      have e : nI (pcN m (psd n m (nI k) (co s 0) 10 13)) - nI (pcN m (co s 0 10 13)) = nI (pcN m (psd n m (nI k) (co s 0) 10 13 &&& (co s 0 10 13 ^^^ (-1)))) := by
        rw [nI_subb (by omega)]; congr 1; omega
      rw [e]
      exact Sm.of (h.new x3 y3.Mo ⟨n, m, by rw [x2]; exact okp, by rw [x2]; exact y2⟩ (by rw [x2]; exact cl_psd (h.2.1 0 (by decide))))
    · have c3 : ¬ nI mo + nI k ≤ 999 := by rw [le]; exact h3
      rw [if_neg c3, if_neg c3, bd_one, if_neg z1]; exact fin4 h
  · rw [if_neg h2, in_hi h1 (Int32.not_le.mp h2), bd_one, if_pos z0]; exact fin0 h
theorem op_on {s : SX} {t : SM} (h : Inv s t) (a : Int32) : Sm (fX5_on a s) (fX6_on a t) := by
  obtain ⟨n, m, ok, rl⟩ := h.1
  have hm := ok.2.1
  obtain ⟨mo, hmo, emo⟩ := ok.2.2.2.2.2.2.2.1
  have z0 : (0 : Int32) = 0 := Eq.refl 0
  have z1 : ¬ (1 : Int32) = 0 := by decide
  unfold fX5_on fX6_on
  rw [x_w120, m_in0 (N := 121) (by decide) rfl, bd_one, bd_one]
  simp only [b2i_0]
  cases h1 : inR a 121 with
  | false => rw [if_pos rfl, if_pos rfl]; exact fin0 h
  | true =>
    obtain ⟨k, hk, ek⟩ := inR_rng h1
    have tf : ¬ (true = false) := by decide
    unfold fX6_isLate
    have e9 : gM t 9 0 = nI mo := rl.2.2.2.2.2.2.2.trans emo
    have ex : gX s 0 10 14 = nI mo := emo
    rw [if_neg tf, if_neg tf, ixg_0 (by decide) (by decide), e9, ex, ek]
    have le := late_eq hmo hk
    by_cases h3 : mo + k < 1000
    · have c3 : nI mo + nI k ≤ 999 := by rw [le]; exact h3
      rw [if_pos c3, if_pos c3, bd_one, if_pos z0]
      obtain ⟨s1, x1, x2, x3⟩ := x_become (i := 2) (j := 0) (s := s) (by decide) (h.2.1 2 (by decide)) (h.2.1 0 (by decide))
      obtain ⟨s2, y1, y2, y3⟩ := x_pass (i := 2) (s := s1) (n := n) (m := m) (by rw [x2]; exact ok) (nI k)
      rw [x2] at y2
      have okp := ok_psd (k := k) ok emo h3
      have w := x_wordsInForce (i := 2) (s := s2) (n := n) (m := m) (by rw [y2]; exact okp)
      rw [y2] at w
      obtain ⟨t1, u1, u2, u3⟩ := m_lends rl ok
      obtain ⟨t2, v1, v2, v3⟩ := m_go u2 ok emo h3 (by omega)
      have ml := u3.Mk v3
      rw [x1, bd_one, y1, bd_one, w, bd_one, u1, bd_one, v1, bd_one, m_forceSet v2 okp, bd_one, vl_eq, vl_eq]
      exact Sm.of (h.trial (x3.trans y3) (by rw [y2]; exact cl_psd (h.2.1 0 (by decide))) (mo_back ml) (fun n m ok rl => rl_back rl ok ml))
    · have c3 : ¬ nI mo + nI k ≤ 999 := by rw [le]; exact h3
      rw [if_neg c3, if_neg c3, bd_one, if_neg z1]; exact fin4 h
theorem liv_bit : ∀ n : Nat, n < 15 → ∀ k : Nat, k < 32 → bitB (((1 : Int32) <<< (nI n &&& 31)) - 1) k = decide (k < n) := by decide +kernel
theorem pcN_liv {N n : Nat} (hn : n < 15) (hN : N ≤ n) {d : Int32} : pcN N ((((1 : Int32) <<< (nI n &&& 31)) - 1) &&& (d ^^^ (-1))) + pcN N d = N := by
  induction N with
  | zero => rfl
  | succ N ih =>
    have ih := ih (by omega)
    rw [pcN_s, pcN_s, bit_and, bit_not (by omega), liv_bit n hn N (by omega)]
    generalize pcN N ((((1 : Int32) <<< (nI n &&& 31)) - 1) &&& (d ^^^ (-1))) = P at ih ⊢
    have : decide (N < n) = true := by simp; omega
    rw [this]
    cases bitB d N with
    | true => simp; omega
    | false => simp; omega
theorem pcN_set {N : Nat} (hN : N ≤ 32) {p : Nat → Bool} : ∀ k, k ≤ N → pcN k (setN N p) = it (fun c a => if p c = true then a + 1 else a) k 0 := by
  intro k
  induction k with
  | zero => intro _; rfl
  | succ k ih =>
    intro hk
    rw [pcN_s, ih (by omega), setN_bit hN]
    have : decide (k < N) = true := by simp; omega
    rw [this, Bool.true_and]
    rfl
theorem m_now4 {n m : Nat} {r : Co} {t : SM} (rl : Rl 0 n m r t) (ok : Ok n m r) : fX6_now_71 400 0 0 t = some (nI (it (fun c a => if hom r c = true then a + 1 else a) n 0), t) := by
  have hn := ok.1
  unfold fX6_now_71
  refine lp_for (F := 400) (ap := fun (k : Tm Int32 2) c (a : Nat) => k (nI a) (nI c) t) (g := fun c a => if hom r c = true then a + 1 else a) n 0 (fun _ _ => True) (fun k c a hc _ => ⟨?_, trivial⟩) (fun k _ => ?_) trivial (by omega)
  · unfold fX6_now_71b
    rw [if_neg (by rw [rl.2.2.1]; exact nI_ge hc (by omega))]
    simp only [m_lives rl hn hc, m_isHome rl hn hc, bd_one, b2i_0, fX6_now_100, fX6_now_101, vl_eq, Int32.add_zero, hom]
    have e : nI a + 1 = nI (a + 1) := by rw [← nI_succ]
    rw [← nI_succ, e]
    by_cases h1 : dead r c = false
    · by_cases h2 : r 3 c = r 2 c
      · simp [h1, h2]
      · simp [h1, h2]
    · simp at h1
      simp [h1]
  · unfold fX6_now_71b
    rw [if_pos (by rw [rl.2.2.1]; exact nI_le (Nat.le_refl n) (by omega))]
theorem op_now {s : SX} {t : SM} (h : Inv s t) (a : Int32) : Sm (fX5_now a s) (fX6_now a t) := by
  obtain ⟨n, m, ok, rl⟩ := h.1
  have hn := ok.1
  have hm := ok.2.1
  have hD : ∀ j, n ≤ j → bitB (co s 0 10 12) j = false := ok.2.2.2.2.2.2.2.2.1
  have hB : ∀ j, m ≤ j → bitB (co s 0 10 13) j = false := ok.2.2.2.2.2.2.2.2.2
  unfold fX5_now fX6_now
  rw [vl_eq]
  by_cases a0 : a = 0
  · rw [if_pos a0, if_pos a0, ixg_0 (by decide) (by decide)]
    have e9 : gM t 9 0 = gX s 0 10 14 := rl.2.2.2.2.2.2.2
    rw [e9]; exact Sm.of h
  rw [if_neg a0, if_neg a0]
  by_cases a1 : a = 1
  · rw [if_pos a1, if_pos a1, x_wordsInForce ok, m_forceSet rl ok, bd_one, bd_one]
    obtain ⟨z1, z2⟩ := cntP (x := setN m (inF (co s 0))) (fun j j1 _ => by rw [setN_bit (by omega)]; simp; omega)
    rw [z1, z2, bd_one, bd_one]; exact Sm.of h
  rw [if_neg a1, if_neg a1]
  by_cases a2 : a = 2
  · rw [if_pos a2, if_pos a2, m_brokenMany rl ok, bd_one]
    have c13 : gX s 0 10 13 = co s 0 10 13 := rfl
    obtain ⟨z1, -⟩ := cntP (x := co s 0 10 13) (fun j j1 _ => hB j (by omega))
    rw [c13, z1, bd_one, pcN_14 (by omega) hB]; exact Sm.of h
  rw [if_neg a2, if_neg a2]
  by_cases a3 : a = 3
  · rw [if_pos a3, if_pos a3, m_deadSet rl ok, bd_one]
    unfold fX1_living
    have c12 : gX s 0 10 12 = co s 0 10 12 := rfl
    obtain ⟨-, z2⟩ := cntP (x := co s 0 10 12) (fun j j1 _ => hD j (by omega))
    have hL : ∀ j, n ≤ j → bitB ((((1 : Int32) <<< (nI n &&& 31)) - 1) &&& (co s 0 10 12 ^^^ (-1))) j = false := fun j j1 => by
      rw [bit_and]
      by_cases j32 : j < 32
      · rw [liv_bit n (by omega) j j32]
        have : decide (j < n) = false := by simp; omega
        rw [this]; rfl
      · have : bitB (((1 : Int32) <<< (nI n &&& 31)) - 1) j = false := by
          unfold bitB
          exact BitVec.getLsbD_of_ge _ _ (by omega)
        rw [this]; rfl
    obtain ⟨z1, -⟩ := cntP (fun j j1 _ => hL j (by omega))
    have sum := pcN_liv (N := n) (n := n) (by omega) (Nat.le_refl n) (d := co s 0 10 12)
    rw [c12, ok.hn.2, bd_one, z1, z2, bd_one, bd_one, rl.2.2.1, pcN_14 hn hD, pcN_14 hn hL, nI_subb (by omega)]
    have e : n - pcN n (co s 0 10 12) = pcN n ((((1 : Int32) <<< (nI n &&& 31)) - 1) &&& (co s 0 10 12 ^^^ (-1))) := by omega
    rw [e]; exact Sm.of h
  rw [if_neg a3, if_neg a3]
  by_cases a4 : a = 4
  · rw [if_pos a4, if_pos a4, x_livingAtHome ok, bd_one, vl_eq, m_now4 rl ok]
    have hS : ∀ j, n ≤ j → bitB (setN n (hom (co s 0))) j = false := fun j j1 => by rw [setN_bit (by omega)]; simp; omega
    obtain ⟨z1, -⟩ := cntP (x := setN n (hom (co s 0))) (fun j j1 _ => hS j (by omega))
    rw [z1, bd_one, pcN_14 hn hS, pcN_set (by omega) n (Nat.le_refl n)]
    exact Sm.of h
  rw [if_neg a4, if_neg a4]
  exact fin0 h
