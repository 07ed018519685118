/-! ===== more acts ===== -/
section Ops3
variable {s : SX} {t : SM}
theorem rl_adC {n m : Nat} {r : Co} {k f h w : Int32} (rl : Rl 0 n m r t) (ok : Ok n m r) (hn : n < 14) : ∃ t', fX6_addChild k f h w t = some ((), t') ∧ gM t' 0 1 = nI (n + 1) ∧ Rl 0 (n + 1) m (adC r n k f h w) t' ∧ Mo t t' := by
  have hm := ok.2.1
  obtain ⟨a1, a2, a3, a4, a5, a6, a7, a8⟩ := rl
  unfold fX6_addChild
  have e1 : ∀ j : Nat, (1 : Int32) + nI j = nI (1 + j) := one_nI
  have e15 : ∀ j : Nat, (15 : Int32) + nI j = nI (15 + j) := fun j => by rw [show (15 : Int32) = nI 15 from rfl, nI_add]
  simp only [vl_eq, a3, ixg_nI hn (by decide), gM_wM, if_false, show ¬ (0 : Nat) = 2 by decide, show ¬ (0 : Nat) = 3 by decide, show ¬ (0 : Nat) = 4 by decide, show ¬ (0 : Nat) = 9 by decide, e1, e15, ixg_nI (show 1 + n < 82 by omega) (by decide), ixg_nI (show 15 + n < 82 by omega) (by decide), ← nI_succ]
  refine ⟨_, rfl, rfl, ⟨by decide, a2, rfl, a4, a5, fun c hc => ?_, fun j hj => ?_, ?_⟩, ⟨rfl, rfl, rfl, rfl, rfl, rfl, rfl, rfl⟩⟩
  · have hd : dead (adC r n k f h w) c = dead r c := rfl
    have hr : adC r n k f h w 1 c = (if c = n then k else r 1 c) ∧ adC r n k f h w 2 c = (if c = n then f else r 2 c) ∧ adC r n k f h w 3 c = (if c = n then h else r 3 c) ∧ adC r n k f h w 4 c = (if c = n then w else r 4 c) := ⟨rfl, rfl, rfl, rfl⟩
    rw [hr.1, hr.2.1, hr.2.2.1, hr.2.2.2, hd]
    simp only [gM_wM, Nat.zero_add]
    by_cases hcn : c = n
    · subst hcn
      have := ok.2.2.2.2.2.2.2.2.1 c (Nat.le_refl c)
      rw [this]
      simp [b2i]
    · obtain ⟨q1, q2, q3, q4, q5⟩ := a6 c (by omega)
      rw [Nat.zero_add] at q4 q5
      simp [hcn, q1, q2, q3, q4, q5]
      omega
  · obtain ⟨q1, q2, q3, q4, q5⟩ := a7 j hj
    refine ⟨q1, q2, q3, q4, ?_⟩
    rw [Nat.zero_add] at q5
    show gM _ 9 (0 + (29 + j)) = b2i (brk r j)
    simp only [gM_wM, Nat.zero_add]
    simp [show ¬ (29 + j = 15 + n) by omega, show ¬ (29 + j = 1 + n) by omega, q5]
  · show gM _ 9 0 = r 10 14
    simp only [gM_wM]
    simp [show ¬ (0 = 15 + n) by omega, show ¬ (0 = 1 + n) by omega]
    exact a8
theorem ok_adC {n m : Nat} {r : Co} {k f h w : Int32} (ok : Ok n m r) (hn : n < 14) (h1 : rng k 6) (h2 : rng f 6) (h3 : rng h 6) (h4 : rng w 100) : Ok (n + 1) m (adC r n k f h w) := by
  obtain ⟨a1, a2, a3, a4, a5, a6, a7, a8, a9, a10⟩ := ok
  refine ⟨by omega, a2, rfl, a4, fun c hc => ?_, a6, a7, a8, fun c hc => a9 c (by omega), a10⟩
  have hr : adC r n k f h w 1 c = (if c = n then k else r 1 c) ∧ adC r n k f h w 2 c = (if c = n then f else r 2 c) ∧ adC r n k f h w 3 c = (if c = n then h else r 3 c) ∧ adC r n k f h w 4 c = (if c = n then w else r 4 c) := ⟨rfl, rfl, rfl, rfl⟩
  rw [hr.1, hr.2.1, hr.2.2.1, hr.2.2.2]
  by_cases hcn : c = n
  · simp [hcn, h1, h2, h3, h4]
  · have := a5 c (by omega)
    simp [hcn, this]
theorem cl_adC {n : Nat} {r : Co} {k f h w : Int32} (c : Cl r) (hn : n < 14) : Cl (adC r n k f h w) := by
  unfold adC
  exact cl_crw (cl_crw (cl_crw (cl_crw (cl_crw c (inl9 (by decide) hn)) (inl9 (by decide) hn)) (inl9 (by decide) hn)) (inl9 (by decide) hn)) (Or.inr ⟨rfl, by decide, by decide⟩)
theorem rl_adT {n m : Nat} {r : Co} {b q g u : Int32} (rl : Rl 0 n m r t) (ok : Ok n m r) (hm : m < 12) : ∃ t', fX6_addTreaty b q g u t = some ((), t') ∧ gM t' 0 5 = nI (m + 1) ∧ Rl 0 n (m + 1) (adT r m b q g u) t' ∧ Mo t t' := by
  have hn := ok.1
  obtain ⟨a1, a2, a3, a4, a5, a6, a7, a8⟩ := rl
  unfold fX6_addTreaty
  have e29 : ∀ j : Nat, (29 : Int32) + nI j = nI (29 + j) := fun j => by rw [show (29 : Int32) = nI 29 from rfl, nI_add]
  simp only [vl_eq, a4, ixg_nI hm (by decide), gM_wM, if_false, show ¬ (0 : Nat) = 5 by decide, show ¬ (0 : Nat) = 6 by decide, show ¬ (0 : Nat) = 7 by decide, show ¬ (0 : Nat) = 8 by decide, show ¬ (0 : Nat) = 9 by decide, e29, ixg_nI (show 29 + m < 82 by omega) (by decide), ← nI_succ]
  refine ⟨_, rfl, rfl, ⟨by decide, a2, a3, rfl, a5, fun c hc => ?_, fun j hj => ?_, ?_⟩, ⟨rfl, rfl, rfl, rfl, rfl, rfl, rfl, rfl⟩⟩
  · obtain ⟨q1, q2, q3, q4, q5⟩ := a6 c hc
    rw [Nat.zero_add] at q4 q5
    refine ⟨q1, q2, q3, ?_, ?_⟩
    · show gM _ 9 (0 + (1 + c)) = r 3 c
      simp only [gM_wM, Nat.zero_add]
      rw [← q4]; simp; omega
    · show gM _ 9 (0 + (15 + c)) = b2i (dead r c)
      simp only [gM_wM, Nat.zero_add]
      rw [← q5]; simp; omega
  · have hd : brk (adT r m b q g u) j = brk r j := rfl
    have hr : adT r m b q g u 5 j = (if j = m then b else r 5 j) ∧ adT r m b q g u 6 j = (if j = m then q else r 6 j) ∧ adT r m b q g u 7 j = (if j = m then g else r 7 j) ∧ adT r m b q g u 8 j = (if j = m then u else r 8 j) := ⟨rfl, rfl, rfl, rfl⟩
    rw [hr.1, hr.2.1, hr.2.2.1, hr.2.2.2, hd]
    simp only [gM_wM, Nat.zero_add]
    by_cases hjm : j = m
    · subst hjm
      have := ok.2.2.2.2.2.2.2.2.2 j (Nat.le_refl j)
      rw [this]
      simp [b2i]
    · obtain ⟨q1, q2, q3, q4, q5⟩ := a7 j (by omega)
      rw [Nat.zero_add] at q5
      simp [hjm, q1, q2, q3, q4, q5]
  · show gM _ 9 0 = r 10 14
    simp only [gM_wM]
    simp [show ¬ (0 = 29 + m) by omega]
    exact a8
theorem ok_adT {n m : Nat} {r : Co} {b q g u : Int32} (ok : Ok n m r) (hm : m < 12) (h1 : rng b 6) (h2 : rng q 6) (h5 : b ≠ q) (h3 : rng g 1000) (h4 : rng u 1000) : Ok n (m + 1) (adT r m b q g u) := by
  obtain ⟨a1, a2, a3, a4, a5, a6, a7, a8, a9, a10⟩ := ok
  refine ⟨a1, by omega, a3, rfl, a5, fun j hj => ?_, a7, a8, a9, fun j hj => a10 j (by omega)⟩
  have hr : adT r m b q g u 5 j = (if j = m then b else r 5 j) ∧ adT r m b q g u 6 j = (if j = m then q else r 6 j) ∧ adT r m b q g u 7 j = (if j = m then g else r 7 j) ∧ adT r m b q g u 8 j = (if j = m then u else r 8 j) := ⟨rfl, rfl, rfl, rfl⟩
  rw [hr.1, hr.2.1, hr.2.2.1, hr.2.2.2]
  by_cases hjm : j = m
  · simp [hjm, h1, h2, h3, h4, h5]
  · have := a6 j (by omega)
    simp [hjm, this]
theorem cl_adT {m : Nat} {r : Co} {b q g u : Int32} (c : Cl r) (hm : m < 12) : Cl (adT r m b q g u) := by
  unfold adT
  exact cl_crw (cl_crw (cl_crw (cl_crw (cl_crw c (inl9 (by decide) hm)) (inl9 (by decide) hm)) (inl9 (by decide) hm)) (inl9 (by decide) hm)) (Or.inr ⟨rfl, by decide, by decide⟩)
theorem Inv.new {s s' : SX} {t t' : SM} (h : Inv s t) (hf : Fr 0 s s') (hm : Mo t t') (hA : ∃ n m, Ok n m (co s' 0) ∧ Rl 0 n m (co s' 0) t') (hc : Cl (co s' 0)) : Inv s' t' := by
  refine h.court (hf.Xo (Or.inl rfl)) hm hA (fun i hi => ?_)
  rcases hi with rfl | hi
  · exact hc
  · rw [co_o hf (by omega)]; exact h.2.1 i (by omega)
theorem lt14 {n : Nat} (hn : n ≤ 14) : (nI n < 14) = (n < 14) ∧ (nI n = 14) = (n = 14) := by
  have : ∀ n : Nat, n ≤ 14 → (nI n < 14 ↔ n < 14) ∧ (nI n = 14 ↔ n = 14) := by decide +kernel
  exact ⟨propext (this n hn).1, propext (this n hn).2⟩
theorem lt12 {n : Nat} (hn : n ≤ 12) : (nI n < 12) = (n < 12) ∧ (nI n = 12) = (n = 12) := by
  have : ∀ n : Nat, n ≤ 12 → (nI n < 12 ↔ n < 12) ∧ (nI n = 12 ↔ n = 12) := by decide +kernel
  exact ⟨propext (this n hn).1, propext (this n hn).2⟩
theorem nI_s1 (n : Nat) : nI (n + 1) - 1 = nI n := nI_pred n
theorem op_child (h : Inv s t) (a b c : Int32) : Sm (fX5_child a b c s) (fX6_child a b c t) := by
  obtain ⟨n, m, ok, rl⟩ := h.1
  have hn := ok.1
  unfold fX5_child fX6_child
  simp only [x_isKind, m_isKind, x_isKing, m_isKing, x_w99, m_isTold, bd_one, b2i_0]
  cases h1 : inR a 6 with
  | false => rw [if_pos rfl, if_pos rfl]; exact fin0 h
  | true =>
    simp only [reduceCtorEq, if_false]
    cases h2 : inR b 6 with
    | false => rw [if_pos rfl, if_pos rfl]; exact fin0 h
    | true =>
      simp only [reduceCtorEq, if_false]
      cases h3 : inR c 100 with
      | false => rw [if_pos rfl, if_pos rfl]; exact fin0 h
      | true =>
        simp only [reduceCtorEq, if_false, ok.hn.2, rl.2.2.1, (lt14 hn).1, (lt14 hn).2]
        by_cases h4 : n < 14
        · have h5 : ¬ n = 14 := by omega
          rw [if_pos h4, if_neg h5]
          obtain ⟨s', e1, e2, e3⟩ := x_addChild ok h4 a b b c
          obtain ⟨t', e4, e5, e6, e7⟩ := rl_adC (k := a) (f := b) (h := b) (w := c) rl ok h4
          simp only [e1, e4, bd_one, e5, nI_s1]
          exact Sm.of (h.new e3 e7 ⟨n + 1, m, by rw [e2]; exact ok_adC ok h4 (inR_rng h1) (inR_rng h2) (inR_rng h2) (inR_rng h3), by rw [e2]; exact e6⟩ (by rw [e2]; exact cl_adC (h.2.1 0 (by decide)) h4))
        · have h5 : n = 14 := by omega
          rw [if_neg h4, if_pos h5]
          exact fin1 h
theorem op_treaty (h : Inv s t) (a b c d : Int32) : Sm (fX5_treaty a b c d s) (fX6_treaty a b c d t) := by
  obtain ⟨n, m, ok, rl⟩ := h.1
  have hm := ok.2.1
  unfold fX5_treaty fX6_treaty
  simp only [x_two, m_isKing, x_w999, m_isLong, bd_one, b2i_0, two]
  cases h1 : inR a 6 with
  | false => simp only [Bool.false_and, if_true]; exact fin0 h
  | true =>
    cases h2 : inR b 6 with
    | false => simp only [Bool.false_and, Bool.and_false, reduceCtorEq, if_true, if_false]; exact fin0 h
    | true =>
      by_cases h5 : a = b
      · simp only [h5, Bool.true_and, decide_true, Bool.not_true, reduceCtorEq, if_true, if_false]; exact fin0 h
      · simp only [h5, Bool.true_and, decide_false, Bool.not_false, reduceCtorEq, if_false]
        cases h3 : inR c 1000 with
        | false => rw [if_pos rfl, if_pos rfl]; exact fin0 h
        | true =>
          simp only [reduceCtorEq, if_false]
          cases h4 : inR d 1000 with
          | false => rw [if_pos rfl, if_pos rfl]; exact fin0 h
          | true =>
            simp only [reduceCtorEq, if_false, ok.hm.2, rl.2.2.2.1, (lt12 hm).1, (lt12 hm).2]
            by_cases h6 : m < 12
            · have h7 : ¬ m = 12 := by omega
              rw [if_pos h6, if_neg h7]
              obtain ⟨s', e1, e2, e3⟩ := x_addTreaty ok h6 a b c d
              obtain ⟨t', e4, e5, e6, e7⟩ := rl_adT (b := a) (q := b) (g := c) (u := d) rl ok h6
              simp only [e1, e4, bd_one, e5, nI_s1]
              exact Sm.of (h.new e3 e7 ⟨n, m + 1, by rw [e2]; exact ok_adT ok h6 (inR_rng h1) (inR_rng h2) h5 (inR_rng h3) (inR_rng h4), by rw [e2]; exact e6⟩ (by rw [e2]; exact cl_adT (h.2.1 0 (by decide)) h6))
            · have h7 : m = 12 := by omega
              rw [if_neg h6, if_pos h7]
              exact fin1 h
theorem two_rng {a b : Int32} (h : two a b = true) : ∃ k l, k < 6 ∧ l < 6 ∧ k ≠ l ∧ a = nI k ∧ b = nI l := by
  simp only [two, Bool.and_eq_true, Bool.not_eq_true', decide_eq_false_iff_not] at h
  obtain ⟨k, hk, rfl⟩ := inR_rng h.1
  obtain ⟨l, hl, rfl⟩ := inR_rng h.2.1
  exact ⟨k, l, hk, hl, fun e => h.2.2 (by rw [e]), rfl, rfl⟩
theorem op_pledge (h : Inv s t) (a b : Int32) : Sm (fX5_pledge a b s) (fX6_pledge a b t) := by
  obtain ⟨n, m, ok, rl⟩ := h.1
  unfold fX5_pledge fX6_pledge
  simp only [x_two, m_two, bd_one, b2i_0]
  cases h1 : two a b with
  | false => rw [if_pos rfl, if_pos rfl]; exact fin0 h
  | true =>
    obtain ⟨k, l, hk, hl, hkl, rfl, rfl⟩ := two_rng h1
    obtain ⟨f, e1, e2⟩ := m_findPledges rl ok
    simp only [reduceCtorEq, if_false, x_pledgeHeld ok, e1, bd_one, ix36 k hk l hl, ixg_nI (show 6 * k + l < 36 by omega) (by decide), gM_rM, if_true, e2 k hk l hl hkl]
    exact Sm.of h.m11
theorem op_ease (h : Inv s t) (a : Int32) : Sm (fX5_ease a s) (fX6_ease a t) := by
  obtain ⟨n, m, ok, rl⟩ := h.1
  have hm := ok.2.1
  unfold fX5_ease fX6_ease
  simp only [x_isTreaty a hm ok.hm.2, m_isTreaty a hm rl.2.2.2.1, bd_one, b2i_0]
  cases h1 : inR a m with
  | false => rw [if_pos rfl, if_pos rfl]; exact fin0 h
  | true =>
    obtain ⟨k, hk, rfl⟩ := inR_rng h1
    simp only [reduceCtorEq, if_false, x_isInForce (show k < 12 by omega), m_isInForce rl hm hk, bd_one, b2i_0]
    cases h2 : inF (co s 0) k with
    | false => rw [if_pos rfl, if_pos rfl]; exact fin4 h
    | true =>
      obtain ⟨f, e1, e2⟩ := m_findPledges rl ok
      have rlf : Rl 0 n m (co s 0) (rM t 11 f) := rl.q Mq.r11
      simp only [reduceCtorEq, if_false, x_easeOf ok hk, e1, bd_one, m_easeOf rlf ok hk (by rw [gM_rM, if_pos rfl]; exact e2), CO]
      exact Sm.of h.m11
theorem op_loose (h : Inv s t) : Sm (fX5_loose s) (fX6_loose t) := by
  obtain ⟨n, m, ok, rl⟩ := h.1
  obtain ⟨f, e1⟩ := x_looseWords ok
  obtain ⟨g, e2, -⟩ := m_looseSet rl ok
  unfold fX5_loose fX6_loose
  simp only [e1, e2, bd_one]
  exact Sm.of (h.x9 Mo.r11 Mq.r11)
theorem rl_dead {off n m : Nat} {r : Co} {c : Nat} (rl : Rl off n m r t) (hn : n ≤ 14) (hc : c < n) : Rl off n m (cst r 12 (r 10 12 ||| bt c)) (wM t 9 (off + (15 + c)) 1) := by
  obtain ⟨a1, a2, a3, a4, a5, a6, a7, a8⟩ := rl
  refine ⟨a1, a2, a3, a4, a5, fun k hk => ⟨(a6 k hk).1, (a6 k hk).2.1, (a6 k hk).2.2.1, ?_, ?_⟩, fun k hk => ⟨(a7 k hk).1, (a7 k hk).2.1, (a7 k hk).2.2.1, (a7 k hk).2.2.2.1, ?_⟩, ?_⟩
  · show upd (gM t 9) (off + (15 + c)) 1 (off + (1 + k)) = r 3 k
    unfold upd
    rw [if_neg (by omega)]; exact (a6 k hk).2.2.2.1
  · have hd : dead (cst r 12 (r 10 12 ||| bt c)) k = (dead r k || decide (k = c)) := by
      show bitB (r 10 12 ||| bt c) k = _
      rw [bit_or, bt_bit (by omega)]; rfl
    rw [hd]
    show upd (gM t 9) (off + (15 + c)) 1 (off + (15 + k)) = _
    unfold upd
    by_cases h : k = c
    · subst h; simp [b2i]
    · rw [if_neg (by omega), (a6 k hk).2.2.2.2]; simp [h]
  · show upd (gM t 9) (off + (15 + c)) 1 (off + (29 + k)) = b2i (brk r k)
    unfold upd
    rw [if_neg (by omega)]; exact (a7 k hk).2.2.2.2
  · show upd (gM t 9) (off + (15 + c)) 1 off = r 10 14
    unfold upd
    rw [if_neg (by omega)]; exact a8
theorem set_hi {m : Nat} (hm : m ≤ 12) {p : Nat → Bool} {x : Int32} : ∀ k, 14 ≤ k → k < 32 → bitB (setN m p &&& x) k = false := fun k h1 h2 => by
  rw [bit_and, setN_bit (by omega)]
  simp; omega
theorem op_dies (h : Inv s t) (a : Int32) : Sm (fX5_dies a s) (fX6_dies a t) := by
  obtain ⟨n, m, ok, rl⟩ := h.1
  have hn := ok.1
  have hm := ok.2.1
  unfold fX5_dies fX6_dies
  simp only [x_isChild a hn ok.hn.2, m_isChild a hn rl.2.2.1, bd_one, b2i_0]
  cases h1 : inR a n with
  | false => rw [if_pos rfl, if_pos rfl]; exact fin0 h
  | true =>
    obtain ⟨k, hk, rfl⟩ := inR_rng h1
    simp only [reduceCtorEq, if_false, x_isDead (show k < 32 by omega), m_lives rl hn hk, bd_one, b2i_0]
    cases h2 : dead (co s 0) k with
    | true => exact fin4 h
    | false =>
      obtain ⟨f, e1⟩ := x_looseWords ok
      obtain ⟨g, e2, -⟩ := m_looseSet rl ok
      have e15 : (15 : Int32) + nI k = nI (15 + k) := by rw [show (15 : Int32) = nI 15 from rfl, nI_add]
      simp only [Bool.not_false, reduceCtorEq, if_true, if_false, e1, e2, bd_one, vl_eq, e15, ixg_nI (show 15 + k < 82 by omega) (by decide)]
      have h12 : gX (rX s 0 9 f) 0 10 12 = co s 0 10 12 := rfl
      have c1 : co (wX (rX s 0 9 f) 0 10 12 (gX (rX s 0 9 f) 0 10 12 ||| (1 <<< (nI k &&& 31)))) 0 = cst (co s 0) 12 (co s 0 10 12 ||| bt k) := by
        rw [co_w, co_9]; rfl
      have ok1 : Ok n m (cst (co s 0) 12 (co s 0 10 12 ||| bt k)) := ok.cst12 (fun c hc => by
        rw [bit_or, bt_bit (by omega)]
        have := ok.2.2.2.2.2.2.2.2.1 c hc
        unfold dead at this
        rw [this]; simp; omega)
      have rl1 := rl_dead (t := rM t 11 g) (c := k) (rl.q Mq.r11) hn hk
      rw [Nat.zero_add] at rl1
      obtain ⟨f2, q1⟩ := x_looseWords (i := 0) (s := wX (rX s 0 9 f) 0 10 12 (gX (rX s 0 9 f) 0 10 12 ||| (1 <<< (nI k &&& 31)))) (by rw [c1]; exact ok1)
      rw [c1] at q1
      obtain ⟨g2, q2, -⟩ := m_looseSet rl1 ok1
      rw [q1, q2]
      simp only [bd_one]
      obtain ⟨z, -, z1, z2⟩ := cnt (x := LW n m (cst (co s 0) 12 (co s 0 10 12 ||| bt k)) &&& (LW n m (co s 0) ^^^ (-1))) (set_hi hm)
      rw [z1, z2]
      simp only [bd_one]
      refine Sm.of (h.court (((Fr.rX.trans Fr.wX).trans Fr.rX).Xo (Or.inl rfl)) ⟨rfl, rfl, rfl, rfl, rfl, rfl, rfl, rfl⟩ ⟨n, m, ?_, ?_⟩ (fun i hi => ?_))
      · rw [co_9, c1]; exact ok1
      · rw [co_9, c1]; exact rl1.q Mq.r11
      · rcases hi with rfl | hi
        · rw [co_9, c1]; exact cl_cst (h.2.1 0 (by decide)) (by decide) (by decide)
        · rw [co_o ((Fr.rX.trans Fr.wX).trans Fr.rX : Fr 0 s _) (by omega)]; exact h.2.1 i (by omega)
theorem m_toFree {n m : Nat} {r : Co} (rl : Rl 0 n m r t) (ok : Ok n m r) (a b : Int32) : fX6_toFree_20 400 a b 0 0 t = some (if anyN m (hw r a b) = true then setN n (hld r b a) else 0, t) := by
  have hm := ok.2.1
  unfold fX6_toFree_20
  refine lp_for (F := 400) (ap := fun (k : Tm Int32 4) c (q : Bool) => k a b (b2i q) (nI c) t) (g := fun c q => q || hw r a b c) m false (fun _ _ => True) (fun k c q hc _ => ⟨?_, trivial⟩) (fun k _ => ?_) trivial (by omega)
  · unfold fX6_toFree_20b
    rw [if_neg (by rw [rl.2.2.2.1]; exact nI_ge hc (by omega))]
    simp only [b2i_0, ixg_nI (show c < 12 by omega) (by decide), (rl.tr hc).1, (rl.tr hc).2.1, m_isInForce rl hm hc, bd_one, fX6_toFree_68, fX6_toFree_64, fX6_toFree_69, vl_eq, ← nI_succ, hw]
    cases q with
    | true => simp [b2i]
    | false =>
      by_cases h1 : r 5 c = a
      · by_cases h2 : r 6 c = b
        · by_cases h3 : inF r c = false
          · simp [h1, h2, h3, b2i]
          · simp at h3
            simp [h1, h2, h3, b2i]
        · simp [h1, h2, b2i]
      · simp [h1, b2i]
  · unfold fX6_toFree_20b
    rw [if_pos (by rw [rl.2.2.2.1]; exact nI_le (Nat.le_refl m) (by omega))]
    simp only [b2i_0, m_held rl ok, bd_one]
    show (if anyN m (hw r a b) = false then _ else _) = _
    cases anyN m (hw r a b) <;> rfl
theorem op_toFree (h : Inv s t) (a b : Int32) : Sm (fX5_toFree a b s) (fX6_toFree a b t) := by
  obtain ⟨n, m, ok, rl⟩ := h.1
  unfold fX5_toFree fX6_toFree
  simp only [x_two, m_two, bd_one, b2i_0, vl_eq]
  cases h1 : two a b with
  | false => rw [if_pos rfl, if_pos rfl]; exact fin0 h
  | true =>
    simp only [reduceCtorEq, if_false, x_hasWord ok, x_heldBy ok, m_toFree rl ok, bd_one, b2i_0]
    cases anyN m (hw (co s 0) a b) <;> exact Sm.of h
theorem m_abr {n m : Nat} {r : Co} (rl : Rl 0 n m r t) (ok : Ok n m r) : fX6_count_49 400 0 0 t = some (abr n r, t) := by
  have hn := ok.1
  unfold fX6_count_49
  refine lp_for (F := 400) (ap := fun (k : Tm Int32 2) c a => k a (nI c) t) (g := fun c a => if r 3 c = r 2 c then a else a + lossC n r c) n 0 (fun _ _ => True) (fun k c a hc _ => ⟨?_, trivial⟩) (fun k _ => ?_) trivial (by omega)
  · unfold fX6_count_49b
    rw [if_neg (by rw [rl.2.2.1]; exact nI_ge hc (by omega))]
    simp only [m_lives rl hn hc, m_isHome rl hn hc, m_loss rl ok hc, bd_one, b2i_0, fX6_count_82, fX6_count_83, vl_eq, ← nI_succ, lossC, Int32.add_zero]
    by_cases h1 : dead r c = false
    · by_cases h2 : r 3 c = r 2 c
      · simp [h1, h2]
      · simp [h1, h2]
    · simp at h1
      by_cases h2 : r 3 c = r 2 c
      · simp [h1, h2]
      · simp [h1, h2]
  · unfold fX6_count_49b
    rw [if_pos (by rw [rl.2.2.1]; exact nI_le (Nat.le_refl n) (by omega))]
    rfl
theorem op_count (h : Inv s t) (a : Int32) : Sm (fX5_count a s) (fX6_count a t) := by
  obtain ⟨n, m, ok, rl⟩ := h.1
  obtain ⟨z, -, z1, z2, -⟩ := h.2.2.2.2.1
  unfold fX5_count fX6_count
  simp only [vl_eq, ok.hn.2, ok.hm.2, rl.2.2.1, rl.2.2.2.1, z1, z2, x_lossesAbroad ok, m_abr rl ok, bd_one]
  by_cases h0 : a = 0
  · simp only [h0, if_true]; exact Sm.of h
  · by_cases h1 : a = 1
    · simp only [h1, LT, if_true, if_false]; exact Sm.of h
    · by_cases h2 : a = 2
      · simp only [h2, LT, if_true, if_false]; exact Sm.of h
      · by_cases h3 : a = 3
        · simp only [h3, LT, if_true, if_false]; exact Sm.of h
        · simp only [h0, h1, h2, h3, if_false]; exact fin0 h
end Ops3
