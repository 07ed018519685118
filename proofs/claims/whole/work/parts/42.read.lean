/-! ===== the roll is read ===== -/
theorem m_rolled {n m c : Nat} {r : Co} {t : SM} (rl : Rl 0 n m r t) (hn : n ≤ 14) (hc : c < n) : fX6_rolled (nI c) t = some (if dead r c = true then -1 else r 3 c, t) := by
  unfold fX6_rolled
  rw [m_lives rl hn hc, bd_one, m_holder rl hn hc, bd_one]
  by_cases hd : dead r c = true
  · have e : b2i (!dead r c) = 0 := by rw [hd]; decide
    rw [if_pos hd, if_pos e]
  · have hd2 : dead r c = false := Bool.eq_false_iff.mpr hd
    have e : ¬ b2i (!dead r c) = 0 := by rw [hd2]; decide
    rw [if_neg hd, if_neg e]
theorem m_end77 {q w k n : Nat} {t : SM} (hq : q < 4) (e : gM t 17 q = nI w) (e2 : gM t 0 1 = nI n) : fX6_read_77 (nI q) (nI k) t = some (if nI k = nI w then (if nI k = nI n then 0 else nI k + 1) else nI k + 1, t) := by
  unfold fX6_read_77
  rw [ixg_nI hq (by decide), e, e2]
  by_cases h1 : nI k = nI w
  · rw [if_pos h1, if_pos h1]
    by_cases h2 : nI k = nI n
    · rw [if_pos h2, if_pos h2]
    · rw [if_neg h2, if_neg h2]
  · rw [if_neg h1, if_neg h1]
