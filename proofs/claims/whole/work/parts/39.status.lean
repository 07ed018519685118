/-! ===== a status ===== -/
theorem xs_lo {a : Int32} (h1 : a < -1) (s : SX) : fX5_status a s = bd (fX5_finding 0 s) fun v s2 => some (v, s2) := by
  unfold fX5_status
  rw [if_pos h1]
theorem xs_hi {a : Int32} (h1 : ¬ a < -1) (h2 : ¬ a < 7) (s : SX) : fX5_status a s = bd (fX5_finding 0 s) fun v s2 => some (v, s2) := by
  unfold fX5_status
  rw [if_neg h1, if_neg h2]
theorem xs_all {a : Int32} (h1 : ¬ a < -1) (h2 : a < 7) (h4 : a < 0) (s : SX) : fX5_status a s = fX5_status_32 400 0 0 s := by
  unfold fX5_status
  rw [if_neg h1, if_pos h2, if_pos h4, vl_eq, vl_eq]
theorem xs_one {a : Int32} (h1 : ¬ a < -1) (h2 : a < 7) (h4 : ¬ a < 0) (s : SX) : fX5_status a s = ixg a 7 fun n5 => some (gX s 5 1 n5, s) := by
  unfold fX5_status
  rw [if_neg h1, if_pos h2, if_neg h4]
theorem ms_out {a : Int32} {t : SM} (h : fX6_in a (-1) 6 t = some (0, t)) : fX6_status a t = bd (fX6_finds (-1000000001) t) fun v s2 => some (v, s2) := by
  have z : (0 : Int32) = 0 := Eq.refl 0
  unfold fX6_status
  rw [h, bd_one, if_pos z]
theorem ms_in {a : Int32} {t : SM} (h : fX6_in a (-1) 6 t = some (1, t)) : fX6_status a t = fX6_status_21 400 a 0 0 t := by
  have z : ¬ (1 : Int32) = 0 := by decide
  unfold fX6_status
  rw [h, bd_one, if_neg z, vl_eq, vl_eq]
theorem in_lo {a b c : Int32} (h : a < b) (t : SM) : fX6_in a b c t = some (0, t) := by
  unfold fX6_in
  rw [if_pos h]
theorem in_hi {a b c : Int32} (h : ¬ a < b) (h2 : c < a) (t : SM) : fX6_in a b c t = some (0, t) := by
  unfold fX6_in
  rw [if_neg h, if_pos h2]
theorem in_in {a b c : Int32} (h : ¬ a < b) (h2 : ¬ c < a) (t : SM) : fX6_in a b c t = some (1, t) := by
  unfold fX6_in
  rw [if_neg h, if_neg h2]
theorem op_status {s : SX} {t : SM} (h : Inv s t) (a : Int32) : Sm (fX5_status a s) (fX6_status a t) := by
  have hf := h.2.2.2.1
  by_cases h1 : a < -1
  · rw [xs_lo h1, ms_out (in_lo h1 t)]
    exact fin0 h
  · by_cases h2 : a < 7
    · have h3 : ¬ (6 : Int32) < a := by rw [st7]; exact fun q => q h2
      rw [ms_in (in_in h1 h3 t), m_st]
      by_cases h4 : a < 0
      · have h5 : ¬ 0 ≤ a := by rw [st0]; exact fun q => q h4
        rw [xs_all h1 h2 h4, if_neg h5, x_st (f := gM t 10) hf]
        exact Sm.of h
      · have h5 : 0 ≤ a := by rw [st0]; exact h4
        obtain ⟨k, hk, e⟩ := st_k h2 h4
        rw [xs_one h1 h2 h4, if_pos h5, e, ixg_nI hk (by decide), ixg_nI hk (by decide), hf k hk]
        exact Sm.of h
    · have h3 : (6 : Int32) < a := by rw [st7]; exact h2
      rw [xs_hi h1 h2, ms_out (in_hi h1 h3 t)]
      exact fin0 h
