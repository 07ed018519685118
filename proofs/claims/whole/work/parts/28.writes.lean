/-! ===== acts that write one thing ===== -/
theorem Inv.wr {s : SX} {t t' : SM} {j k : Nat} {x : Int32} (h : Inv s t) (hj : j ≠ 9) (hin : inl j k) (hm : Mo t t') (hA : ∃ n m, Ok n m (crw (co s 0) j k x) ∧ Rl 0 n m (crw (co s 0) j k x) t') : Inv (wX s 0 j k x) t' := by
  refine h.court (Fr.wX.Xo (Or.inl rfl)) hm (by rw [co_wj hj]; exact hA) (fun i hi => ?_)
  rcases hi with rfl | hi
  · rw [co_wj hj]; exact cl_crw (h.2.1 0 (by decide)) hin
  · rw [co_o (Fr.wX (i := 0)) (by omega)]; exact h.2.1 i (by omega)
section RlW
variable {off n m : Nat} {r : Co} {t : SM} {c : Nat} {x : Int32}
theorem rl_fear (rl : Rl off n m r t) : Rl off n m (crw r 0 c x) (wM t 1 c x) := by
  obtain ⟨a1, a2, a3, a4, a5, a6, a7, a8⟩ := rl
  refine ⟨a1, a2, a3, a4, fun k hk => ?_, a6, a7, a8⟩
  show upd (gM t 1) c x k = upd (r 0) c x k
  unfold upd; split
  · rfl
  · exact a5 k hk
theorem rl_turn (rl : Rl off n m r t) : Rl off n m (crw r 1 c x) (wM t 2 c x) := by
  obtain ⟨a1, a2, a3, a4, a5, a6, a7, a8⟩ := rl
  refine ⟨a1, a2, a3, a4, a5, fun k hk => ⟨?_, (a6 k hk).2⟩, a7, a8⟩
  show upd (gM t 2) c x k = upd (r 1) c x k
  unfold upd; split
  · rfl
  · exact (a6 k hk).1
theorem rl_worth (rl : Rl off n m r t) : Rl off n m (crw r 4 c x) (wM t 4 c x) := by
  obtain ⟨a1, a2, a3, a4, a5, a6, a7, a8⟩ := rl
  refine ⟨a1, a2, a3, a4, a5, fun k hk => ⟨(a6 k hk).1, (a6 k hk).2.1, ?_, (a6 k hk).2.2.2⟩, a7, a8⟩
  show upd (gM t 4) c x k = upd (r 4) c x k
  unfold upd; split
  · rfl
  · exact (a6 k hk).2.2.1
theorem rl_gain (rl : Rl off n m r t) : Rl off n m (crw r 7 c x) (wM t 7 c x) := by
  obtain ⟨a1, a2, a3, a4, a5, a6, a7, a8⟩ := rl
  refine ⟨a1, a2, a3, a4, a5, a6, fun k hk => ⟨(a7 k hk).1, (a7 k hk).2.1, ?_, (a7 k hk).2.2.2⟩, a8⟩
  show upd (gM t 7) c x k = upd (r 7) c x k
  unfold upd; split
  · rfl
  · exact (a7 k hk).2.2.1
theorem rl_hold (rl : Rl off n m r t) (hn : n ≤ 14) (hc : c < n) : Rl off n m (crw r 3 c x) (wM t 9 (off + (1 + c)) x) := by
  obtain ⟨a1, a2, a3, a4, a5, a6, a7, a8⟩ := rl
  refine ⟨a1, a2, a3, a4, a5, fun k hk => ⟨(a6 k hk).1, (a6 k hk).2.1, (a6 k hk).2.2.1, ?_, ?_⟩, fun k hk => ⟨(a7 k hk).1, (a7 k hk).2.1, (a7 k hk).2.2.1, (a7 k hk).2.2.2.1, ?_⟩, ?_⟩
  · show upd (gM t 9) (off + (1 + c)) x (off + (1 + k)) = upd (r 3) c x k
    unfold upd
    by_cases h : k = c
    · subst h; simp
    · rw [if_neg (by omega), if_neg h]; exact (a6 k hk).2.2.2.1
  · show upd (gM t 9) (off + (1 + c)) x (off + (15 + k)) = b2i (dead r k)
    unfold upd
    rw [if_neg (by omega)]; exact (a6 k hk).2.2.2.2
  · show upd (gM t 9) (off + (1 + c)) x (off + (29 + k)) = b2i (brk r k)
    unfold upd
    rw [if_neg (by omega)]; exact (a7 k hk).2.2.2.2
  · show upd (gM t 9) (off + (1 + c)) x off = r 10 14
    unfold upd
    rw [if_neg (by omega)]; exact a8
theorem ok_fear (ok : Ok n m r) (hx : rng x 100) : Ok n m (crw r 0 c x) := by
  obtain ⟨a1, a2, a3, a4, a5, a6, a7, a8, a9, a10⟩ := ok
  refine ⟨a1, a2, a3, a4, a5, a6, fun k hk => ?_, a8, a9, a10⟩
  show rng (upd (r 0) c x k) 100
  unfold upd; split
  · exact hx
  · exact a7 k hk
theorem ok_turn (ok : Ok n m r) (hx : rng x 6) : Ok n m (crw r 1 c x) := by
  obtain ⟨a1, a2, a3, a4, a5, a6, a7, a8, a9, a10⟩ := ok
  refine ⟨a1, a2, a3, a4, fun k hk => ⟨?_, (a5 k hk).2⟩, a6, a7, a8, a9, a10⟩
  show rng (upd (r 1) c x k) 6
  unfold upd; split
  · exact hx
  · exact (a5 k hk).1
theorem ok_hold (ok : Ok n m r) (hx : rng x 6) : Ok n m (crw r 3 c x) := by
  obtain ⟨a1, a2, a3, a4, a5, a6, a7, a8, a9, a10⟩ := ok
  refine ⟨a1, a2, a3, a4, fun k hk => ⟨(a5 k hk).1, (a5 k hk).2.1, ?_, (a5 k hk).2.2.2⟩, a6, a7, a8, a9, a10⟩
  show rng (upd (r 3) c x k) 6
  unfold upd; split
  · exact hx
  · exact (a5 k hk).2.2.1
theorem ok_worth (ok : Ok n m r) (hx : rng x 100) : Ok n m (crw r 4 c x) := by
  obtain ⟨a1, a2, a3, a4, a5, a6, a7, a8, a9, a10⟩ := ok
  refine ⟨a1, a2, a3, a4, fun k hk => ⟨(a5 k hk).1, (a5 k hk).2.1, (a5 k hk).2.2.1, ?_⟩, a6, a7, a8, a9, a10⟩
  show rng (upd (r 4) c x k) 100
  unfold upd; split
  · exact hx
  · exact (a5 k hk).2.2.2
theorem ok_gain (ok : Ok n m r) (hx : rng x 1000) : Ok n m (crw r 7 c x) := by
  obtain ⟨a1, a2, a3, a4, a5, a6, a7, a8, a9, a10⟩ := ok
  refine ⟨a1, a2, a3, a4, a5, fun k hk => ⟨(a6 k hk).1, (a6 k hk).2.1, (a6 k hk).2.2.1, ?_, (a6 k hk).2.2.2.2⟩, a7, a8, a9, a10⟩
  show rng (upd (r 7) c x k) 1000
  unfold upd; split
  · exact hx
  · exact (a6 k hk).2.2.2.1
end RlW
theorem inl9 {j k : Nat} (hj : j < 9) (hk : k < lenR j) : inl j k := Or.inl ⟨hj, hk⟩
section Ops
variable {s : SX} {t : SM}
theorem op_fear (h : Inv s t) (a b : Int32) : Sm (fX5_fear a b s) (fX6_fear a b t) := by
  obtain ⟨n, m, ok, rl⟩ := h.1
  unfold fX5_fear fX6_fear
  simp only [x_isKing, m_isKing, x_w99, m_isTold, bd_one, b2i_0]
  cases h1 : inR a 6 with
  | false => rw [if_pos rfl, if_pos rfl]; exact fin0 h
  | true =>
    simp only [reduceCtorEq, if_false]
    cases h2 : inR b 100 with
    | false => rw [if_pos rfl, if_pos rfl]; exact fin0 h
    | true =>
      obtain ⟨k, hk, rfl⟩ := inR_rng h1
      simp only [reduceCtorEq, if_false, ixg_nI hk (by decide), vl_eq]
      rw [show gX s 0 0 k = gM t 1 k from (rl.2.2.2.2.1 k hk).symm]
      exact Sm.of (h.wr (by decide) (inl9 (by decide) hk) ⟨rfl, rfl, rfl, rfl, rfl, rfl, rfl, rfl⟩ ⟨n, m, ok_fear ok (inR_rng h2), rl_fear rl⟩)
theorem op_worth (h : Inv s t) (a b : Int32) : Sm (fX5_worth a b s) (fX6_worth a b t) := by
  obtain ⟨n, m, ok, rl⟩ := h.1
  have hn := ok.1
  unfold fX5_worth fX6_worth
  simp only [x_isChild a hn ok.hn.2, m_isChild a hn rl.2.2.1, x_w99, m_isTold, bd_one, b2i_0]
  cases h1 : inR a n with
  | false => rw [if_pos rfl, if_pos rfl]; exact fin0 h
  | true =>
    simp only [reduceCtorEq, if_false]
    cases h2 : inR b 100 with
    | false => rw [if_pos rfl, if_pos rfl]; exact fin0 h
    | true =>
      obtain ⟨k, hk, rfl⟩ := inR_rng h1
      simp only [reduceCtorEq, if_false, ixg_nI (show k < 14 by omega) (by decide), vl_eq]
      rw [show gX s 0 4 k = gM t 4 k from (rl.ch hk).2.2.1.symm]
      exact Sm.of (h.wr (by decide) (inl9 (by decide) (show k < 14 by omega)) ⟨rfl, rfl, rfl, rfl, rfl, rfl, rfl, rfl⟩ ⟨n, m, ok_worth ok (inR_rng h2), rl_worth rl⟩)
theorem op_turn (h : Inv s t) (a b : Int32) : Sm (fX5_turn a b s) (fX6_turn a b t) := by
  obtain ⟨n, m, ok, rl⟩ := h.1
  have hn := ok.1
  unfold fX5_turn fX6_turn
  simp only [x_isChild a hn ok.hn.2, m_isChild a hn rl.2.2.1, x_isKind, m_isKind, bd_one, b2i_0]
  cases h1 : inR a n with
  | false => rw [if_pos rfl, if_pos rfl]; exact fin0 h
  | true =>
    simp only [reduceCtorEq, if_false]
    cases h2 : inR b 6 with
    | false => rw [if_pos rfl, if_pos rfl]; exact fin0 h
    | true =>
      obtain ⟨k, hk, rfl⟩ := inR_rng h1
      simp only [reduceCtorEq, if_false, ixg_nI (show k < 14 by omega) (by decide), vl_eq]
      rw [show gX s 0 1 k = gM t 2 k from (rl.ch hk).1.symm]
      exact Sm.of (h.wr (by decide) (inl9 (by decide) (show k < 14 by omega)) ⟨rfl, rfl, rfl, rfl, rfl, rfl, rfl, rfl⟩ ⟨n, m, ok_turn ok (inR_rng h2), rl_turn rl⟩)
theorem op_gain (h : Inv s t) (a b : Int32) : Sm (fX5_gain a b s) (fX6_gain a b t) := by
  obtain ⟨n, m, ok, rl⟩ := h.1
  have hm := ok.2.1
  unfold fX5_gain fX6_gain
  simp only [x_isTreaty a hm ok.hm.2, m_isTreaty a hm rl.2.2.2.1, x_w999, m_isLong, bd_one, b2i_0]
  cases h1 : inR a m with
  | false => rw [if_pos rfl, if_pos rfl]; exact fin0 h
  | true =>
    simp only [reduceCtorEq, if_false]
    cases h2 : inR b 1000 with
    | false => rw [if_pos rfl, if_pos rfl]; exact fin0 h
    | true =>
      obtain ⟨k, hk, rfl⟩ := inR_rng h1
      simp only [reduceCtorEq, if_false, ixg_nI (show k < 12 by omega) (by decide), vl_eq]
      rw [show gX s 0 7 k = gM t 7 k from (rl.tr hk).2.2.1.symm]
      exact Sm.of (h.wr (by decide) (inl9 (by decide) (show k < 12 by omega)) ⟨rfl, rfl, rfl, rfl, rfl, rfl, rfl, rfl⟩ ⟨n, m, ok_gain ok (inR_rng h2), rl_gain rl⟩)
theorem one_nI (k : Nat) : (1 : Int32) + nI k = nI (1 + k) := by rw [show (1 : Int32) = nI 1 from rfl, nI_add]
theorem op_move (h : Inv s t) (a b : Int32) : Sm (fX5_move a b s) (fX6_move a b t) := by
  obtain ⟨n, m, ok, rl⟩ := h.1
  have hn := ok.1
  unfold fX5_move fX6_move
  simp only [x_isChild a hn ok.hn.2, m_isChild a hn rl.2.2.1, x_isKing, m_isKing, bd_one, b2i_0]
  cases h1 : inR a n with
  | false => rw [if_pos rfl, if_pos rfl]; exact fin0 h
  | true =>
    simp only [reduceCtorEq, if_false]
    cases h2 : inR b 6 with
    | false => rw [if_pos rfl, if_pos rfl]; exact fin0 h
    | true =>
      obtain ⟨k, hk, rfl⟩ := inR_rng h1
      simp only [reduceCtorEq, if_false, x_isDead (show k < 32 by omega), m_lives rl hn hk, bd_one, b2i_0]
      cases h3 : dead (co s 0) k with
      | true => exact fin4 h
      | false =>
        simp only [Bool.not_false, reduceCtorEq, if_false, if_true, ixg_nI (show k < 14 by omega) (by decide), one_nI, ixg_nI (show 1 + k < 82 by omega) (by decide), vl_eq]
        rw [show gX s 0 3 k = gM t 9 (1 + k) by rw [← Nat.zero_add (1 + k)]; exact (rl.ch hk).2.2.2.1.symm]
        have q := rl_hold (x := b) rl hn hk
        rw [Nat.zero_add] at q
        exact Sm.of (h.wr (by decide) (inl9 (by decide) (show k < 14 by omega)) ⟨rfl, rfl, rfl, rfl, rfl, rfl, rfl, rfl⟩ ⟨n, m, ok_hold ok (inR_rng h2), q⟩)
theorem op_swap (h : Inv s t) (a b : Int32) : Sm (fX5_swap a b s) (fX6_swap a b t) := by
  obtain ⟨n, m, ok, rl⟩ := h.1
  have hn := ok.1
  unfold fX5_swap fX6_swap
  simp only [x_isChild a hn ok.hn.2, m_isChild a hn rl.2.2.1, x_isChild b hn ok.hn.2, m_isChild b hn rl.2.2.1, bd_one, b2i_0]
  cases h1 : inR a n with
  | false => rw [if_pos rfl, if_pos rfl]; exact fin0 h
  | true =>
    simp only [reduceCtorEq, if_false]
    cases h2 : inR b n with
    | false => rw [if_pos rfl, if_pos rfl]; exact fin0 h
    | true =>
      simp only [reduceCtorEq, if_false]
      by_cases hab : a = b
      · rw [if_pos hab, if_pos hab]; exact fin0 h
      · rw [if_neg hab, if_neg hab]
        obtain ⟨k, hk, rfl⟩ := inR_rng h1
        obtain ⟨l, hl, rfl⟩ := inR_rng h2
        simp only [x_isDead (show k < 32 by omega), m_lives rl hn hk, x_isDead (show l < 32 by omega), m_lives rl hn hl, bd_one, b2i_0]
        cases h3 : dead (co s 0) k with
        | true => exact fin4 h
        | false =>
          simp only [Bool.not_false, reduceCtorEq, if_false, if_true]
          cases h4 : dead (co s 0) l with
          | true => exact fin4 h
          | false =>
            simp only [Bool.not_false, reduceCtorEq, if_false, if_true, ixg_nI (show k < 14 by omega) (by decide), ixg_nI (show l < 14 by omega) (by decide), one_nI, ixg_nI (show 1 + k < 82 by omega) (by decide), ixg_nI (show 1 + l < 82 by omega) (by decide), vl_eq]
            have ek : gX s 0 3 k = gM t 9 (1 + k) := by rw [← Nat.zero_add (1 + k)]; exact (rl.ch hk).2.2.2.1.symm
            have el : gX s 0 3 l = gM t 9 (1 + l) := by rw [← Nat.zero_add (1 + l)]; exact (rl.ch hl).2.2.2.1.symm
            rw [ek, el]
            have rk : rng (gM t 9 (1 + k)) 6 := by rw [← ek]; exact (ok.ch hk).2.2.1
            have rl' : rng (gM t 9 (1 + l)) 6 := by rw [← el]; exact (ok.ch hl).2.2.1
            have q1 := rl_hold (x := gM t 9 (1 + l)) rl hn hk
            rw [Nat.zero_add] at q1
            have i1 := h.wr (s := s) (t := t) (j := 3) (k := k) (x := gM t 9 (1 + l)) (t' := wM t 9 (1 + k) (gM t 9 (1 + l))) (by decide) (inl9 (by decide) (show k < 14 by omega)) ⟨rfl, rfl, rfl, rfl, rfl, rfl, rfl, rfl⟩ ⟨n, m, ok_hold ok rl', q1⟩
            have q2 := rl_hold (x := gM t 9 (1 + k)) q1 hn hl
            rw [Nat.zero_add] at q2
            exact Sm.of (i1.wr (by decide) (inl9 (by decide) (show l < 14 by omega)) ⟨rfl, rfl, rfl, rfl, rfl, rfl, rfl, rfl⟩ ⟨n, m, by rw [co_wj (by decide)]; exact ok_hold (ok_hold ok rl') rk, by rw [co_wj (by decide)]; exact q2⟩)
end Ops
