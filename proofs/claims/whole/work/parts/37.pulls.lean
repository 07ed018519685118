/-! ===== words that fall with one ===== -/
theorem kil_bt {m k : Nat} {r : Co} (hk : k < m) (hm : m ≤ 12) (c : Nat) : kil m (bt k) r c = mtc r k c := by
  unfold kil
  refine anyN_one hk (fun j hj => ?_)
  rw [bt_bit (by omega)]
  by_cases e : j = k
  · subst e; rfl
  · simp [e]
def PD (n m : Nat) (r : Co) (k : Nat) : Int32 := allR n m 12 (bw n m (bt k) r) ||| bt k
theorem bt_hi {m k : Nat} (hk : k < m) (hm : m ≤ 12) : ∀ j, m ≤ j → bitB (bt k) j = false := fun j hj => by
  rw [bt_bit (by omega)]; simp; omega
theorem pd_eq {n m k : Nat} {r : Co} (ok : Ok n m r) (hk : k < m) (hf : inF r k = true) : (fal n m 12 (bw n m (bt k) r)).2 10 13 &&& (r 10 13 ^^^ (-1)) = PD n m r k := by
  have hm := ok.2.1
  have hb : bitB (r 10 13) k = false := by
    unfold inF brk at hf
    cases h : bitB (r 10 13) k with
    | false => rfl
    | true => rw [h] at hf; simp at hf
  apply bit_ext
  intro j hj
  obtain ⟨a1, a2⟩ := all_bits hm 12 (ok.bw (bt_hi hk hm)) j hj
  have e : bitB (bw n m (bt k) r 10 13) j = (bitB (r 10 13) j || decide (j = k)) := by
    show bitB (r 10 13 ||| bt k) j = _
    rw [bit_or, bt_bit (by omega)]
  rw [e] at a1 a2
  unfold PD
  rw [bit_and, bit_not hj, a1, bit_or, bt_bit (by omega)]
  by_cases ejk : j = k
  · subst ejk
    rw [hb]; simp
  · simp only [ejk, decide_false, Bool.or_false] at a2 ⊢
    cases h : bitB (allR n m 12 (bw n m (bt k) r)) j with
    | false => cases bitB (r 10 13) j <;> rfl
    | true => rw [a2 h]; rfl
theorem x_down {s : SX} {n m k : Nat} (ok : Ok n m (co s 0)) (c0 : Cl (co s 0)) (c2 : Cl (co s 2)) (hk : k < m) (hf : inF (co s 0) k = true) : ∃ s', fX5_broughtDownWith (nI k) s = some (PD n m (co s 0) k, s') ∧ Fr 2 s s' ∧ Cl (co s' 2) := by
  have hm := ok.2.1
  obtain ⟨s1, x1, x2, x3⟩ := x_become (i := 2) (j := 0) (s := s) (by decide) c2 c0
  obtain ⟨s2, y1, y2, y3⟩ := x_breakWords (i := 2) (s := s1) (n := n) (m := m) (S := bt k) (by rw [x2]; exact ok) (bt_hi hk hm)
  rw [x2] at y2
  obtain ⟨s3, z1, z2, z3⟩ := x_bringDown (i := 2) (s := s2) (n := n) (m := m) (by rw [y2]; exact ok.bw (bt_hi hk hm))
  rw [y2] at z1 z2
  have y1 : fX1_breakWords 2 (1 <<< (nI k &&& 31)) s1 = some ((), s2) := y1
  refine ⟨s3, ?_, (x3.trans y3).trans z3, by rw [z2]; exact cl_fal 12 (cl_bw c0)⟩
  unfold fX5_broughtDownWith
  rw [x1, bd_one, y1, bd_one, z1, bd_one]
  have q2 : gX s3 2 10 13 = (fal n m 12 (bw n m (bt k) (co s 0))).2 10 13 := by rw [← z2]; rfl
  have q0 : gX s3 0 10 13 = co s 0 10 13 := by
    have := ((x3.trans y3).trans z3).1 0 (by decide)
    rw [this]; rfl
  rw [q2, q0, pd_eq ok hk hf]
theorem m_down {t : SM} {n m k : Nat} {r : Co} (rl : Rl 0 n m r t) (ok : Ok n m r) (hk : k < m) : ∃ t', fX6_pullsDown (nI k) t = some (PD n m r k, t') ∧ Rl 0 n m r t' ∧ Mo t t' := by
  have hm := ok.2.1
  have hn := ok.1
  obtain ⟨t1, z1, z2, z3⟩ := m_lends rl ok
  obtain ⟨f, b1, b2⟩ := m_breaks z2 ok hk
  have b3 := rl_breaks z2 ok hk b2
  have e : dbc r (r 10 13 ||| bt k) (r 10 12 ||| setN n (mtc r k)) = bw n m (bt k) r := by
    rw [bw_dbc, setN_congr (p := kil m (bt k) r) (q := mtc r k) (fun c _ => kil_bt hk hm c)]
  rw [e] at b3
  obtain ⟨t2, w1, w2, w3, w4, w5, w6⟩ := m_falls b3 (ok.bw (bt_hi hk hm))
  have mk : Mk 41 t1 (rM t1 9 f) := ⟨fun a a0 a9 _ => by rw [gM_rM, if_neg a9], fun _ _ _ _ => rfl, rfl, fun q hq => by
    rw [gM_rM, if_pos rfl]
    exact b2.2.1 q (by omega) (fun c hc => by omega)⟩
  have ml := z3.Mk (mk.trans w3)
  refine ⟨wM t2 0 11 0, ?_, rl_back rl ok ml, mo_back ml⟩
  unfold fX6_pullsDown
  rw [z1, bd_one, b1, bd_one, w1, bd_one, vl_eq]
  have q16 : gM (wM t2 0 11 0) 0 16 = gM t2 0 16 := rfl
  rw [q16, w5]
  rfl
theorem op_pulls {s : SX} {t : SM} (h : Inv s t) (a : Int32) : Sm (fX5_pulls a s) (fX6_pulls a t) := by
  obtain ⟨n, m, ok, rl⟩ := h.1
  have hm := ok.2.1
  unfold fX5_pulls fX6_pulls
  simp only [x_isTreaty a hm ok.hm.2, m_isTreaty a hm rl.2.2.2.1, bd_one, b2i_0]
  cases h1 : inR a m with
  | false => rw [if_pos rfl, if_pos rfl]; exact fin0 h
  | true =>
    obtain ⟨k, hk, rfl⟩ := inR_rng h1
    simp only [reduceCtorEq, if_false, x_isInForce (show k < 12 by omega), m_isInForce rl hm hk, bd_one, b2i_0]
    cases h2 : inF (co s 0) k with
    | false => rw [if_pos rfl, if_pos rfl]; exact fin4 h
    | true =>
      obtain ⟨s', e1, e2, e3⟩ := x_down ok (h.2.1 0 (by decide)) (h.2.1 2 (by decide)) hk h2
      obtain ⟨t', w1, w2, w3⟩ := m_down rl ok hk
      rw [if_neg (by decide), if_neg (by decide), e1, w1, bd_one, bd_one]
      refine Sm.of ?_
      have c0 : co s' 0 = co s 0 := co_o e2 (by decide)
      refine h.court (e2.Xo (Or.inr (Or.inl rfl))) w3 ⟨n, m, by rw [c0]; exact ok, by rw [c0]; exact w2⟩ (fun i hi => ?_)
      by_cases i2 : i = 2
      · subst i2; exact e3
      · rw [co_o e2 i2]; exact h.2.1 i (by omega)
