/-! ===== a number is written ===== -/
theorem nar8 (x : Int64) : (x <<< (Int32.toInt64 56 &&& 63)) >>> (Int32.toInt64 56 &&& 63) = Int32.toInt64 ((Int32.toInt8 (Int64.toInt32 x)).toInt32) := by
  have e : (Int32.toInt64 56 &&& 63) = 56 := by decide
  have e1 : ((56 : Int64).toBitVec.smod 64) = 56#64 := by decide
  rw [e]
  apply Int64.toBitVec_inj.mp
  rw [Int64.toBitVec_shiftRight, Int64.toBitVec_shiftLeft, e1, Int32.toBitVec_toInt64, Int8.toBitVec_toInt32, Int32.toBitVec_toInt8, Int64.toBitVec_toInt32]
  have e2 : (56#64).toNat = 56 := by decide
  rw [BitVec.shiftLeft_eq', BitVec.sshiftRight_eq', e2]
  apply BitVec.eq_of_getLsbD_eq
  intro i hi
  simp only [BitVec.getLsbD_sshiftRight, BitVec.getLsbD_signExtend, BitVec.msb_eq_getLsbD_last, BitVec.getLsbD_shiftLeft]
  have d1 : decide (64 ≤ i) = false := by rw [decide_eq_false_iff_not]; omega
  have d2 : decide (i < 64) = true := by rw [decide_eq_true_eq]; exact hi
  rw [d1, d2]
  by_cases h8 : i < 8
  · have f1 : 56 + i < 64 := by omega
    have f2 : i < 32 := by omega
    have f3 : ¬ 56 + i < 56 := by omega
    have f4 : 56 + i - 56 = i := by omega
    simp [h8, f1, f2, f4]
    rw [if_pos hi, decide_eq_false f3]
    rfl
  · have f1 : ¬ 56 + i < 64 := by omega
    by_cases f2 : i < 32
    · simp [h8, f1, f2]
    · simp [h8, f1, f2]
theorem nar16 (x : Int64) : (x <<< (Int32.toInt64 48 &&& 63)) >>> (Int32.toInt64 48 &&& 63) = Int32.toInt64 ((Int32.toInt16 (Int64.toInt32 x)).toInt32) := by
  have e : (Int32.toInt64 48 &&& 63) = 48 := by decide
  have e1 : ((48 : Int64).toBitVec.smod 64) = 48#64 := by decide
  rw [e]
  apply Int64.toBitVec_inj.mp
  rw [Int64.toBitVec_shiftRight, Int64.toBitVec_shiftLeft, e1, Int32.toBitVec_toInt64, Int16.toBitVec_toInt32, Int32.toBitVec_toInt16, Int64.toBitVec_toInt32]
  have e2 : (48#64).toNat = 48 := by decide
  rw [BitVec.shiftLeft_eq', BitVec.sshiftRight_eq', e2]
  apply BitVec.eq_of_getLsbD_eq
  intro i hi
  simp only [BitVec.getLsbD_sshiftRight, BitVec.getLsbD_signExtend, BitVec.msb_eq_getLsbD_last, BitVec.getLsbD_shiftLeft]
  have d1 : decide (64 ≤ i) = false := by rw [decide_eq_false_iff_not]; omega
  have d2 : decide (i < 64) = true := by rw [decide_eq_true_eq]; exact hi
  rw [d1, d2]
  by_cases h8 : i < 16
  · have f1 : 48 + i < 64 := by omega
    have f2 : i < 32 := by omega
    have f3 : ¬ 48 + i < 48 := by omega
    have f4 : 48 + i - 48 = i := by omega
    simp [h8, f1, f2, f4]
    rw [if_pos hi, decide_eq_false f3]
    rfl
  · have f1 : ¬ 48 + i < 64 := by omega
    by_cases f2 : i < 32
    · simp [h8, f1, f2]
    · simp [h8, f1, f2]
theorem fin0L {s : SX} {t : SM} (h : Inv s t) : Sm (bd (fX5_finding 0 s) fun v s2 => some (Int32.toInt64 v, s2)) (bd (fX6_finds (-1000000001) t) fun v s2 => some (Int32.toInt64 v, s2)) := by
  obtain ⟨s', t', e1, e2, e3⟩ := inv_find h 0 (by decide)
  have e1 : fX5_finding 0 s = some (-1000000001, s') := e1
  have e2 : fX6_finds (-1000000001) t = some (-1000000001, t') := e2
  rw [e1, e2, bd_one, bd_one]
  exact ⟨_, s', t', rfl, rfl, e3⟩
theorem fin5L {s : SX} {t : SM} (h : Inv s t) : Sm (bd (fX5_finding 5 s) fun v s2 => some (Int32.toInt64 v, s2)) (bd (fX6_finds (-1000000006) t) fun v s2 => some (Int32.toInt64 v, s2)) := by
  obtain ⟨s', t', e1, e2, e3⟩ := inv_find h 5 (by decide)
  have e1 : fX5_finding 5 s = some (-1000000006, s') := e1
  have e2 : fX6_finds (-1000000006) t = some (-1000000006, t') := e2
  rw [e1, e2, bd_one, bd_one]
  exact ⟨_, s', t', rfl, rfl, e3⟩
theorem sh_put {s : SX} {t : SM} {q k : Nat} (hk : k < 40) {b : Int32} (hb : gX s (9 + q) 0 1 = b) (x : Int64) : ∃ y, fX3_put q (nI k) x s = some ((), wL s q k y) ∧ fX6_narrow b x t = some (y, t) := by
  unfold fX3_put fX6_narrow
  rw [hb]
  by_cases h8 : b = 8
  · rw [if_pos h8, if_pos h8, ixg_nI hk (by decide), vl_eq, nar8]; exact ⟨_, rfl, rfl⟩
  · rw [if_neg h8, if_neg h8]
    by_cases h16 : b = 16
    · rw [if_pos h16, if_pos h16, ixg_nI hk (by decide), vl_eq, nar16]; exact ⟨_, rfl, rfl⟩
    · rw [if_neg h16, if_neg h16, ixg_nI hk (by decide), vl_eq]; exact ⟨_, rfl, rfl⟩
theorem sh_pred : ∀ w, w < 41 → (nI w - 1).toInt = (w : Int) - 1 := by decide
theorem inv_put {s : SX} {t : SM} (h : Inv s t) {q k : Nat} (hq : q < 4) (hk : k < 40) (y : Int64) : Inv (wL s q k y) (wN t 18 (40 * q + k) y) := by
  have y18 : (18 : Nat) = 18 := Eq.refl _
  refine inv_sheets h (fun a _ => by rw [gX_wL]) (fun j _ _ => by rw [gM_wN]) ?_
  intro p hp
  obtain ⟨a1, a2, a3, a4, a5⟩ := h.2.2.2.2.2 p hp
  rw [gX_wL, gM_wN]
  refine ⟨a1, a2, a3, a4, fun c hc => ?_⟩
  rw [gL_wL, gN_wN, if_pos y18]
  by_cases hpq : p = q
  · rw [if_pos hpq]
    by_cases hck : c = k
    · rw [if_pos hck, if_pos (by omega)]
    · rw [if_neg hck, if_neg (by omega)]; exact a5 c hc
  · rw [if_neg hpq, if_neg (by omega)]; exact a5 c hc
theorem sh_row {a : Int32} {w : Nat} (hw : w < 41) (h0 : ¬ a < 0) : (a < nI w → ∃ k, k < w ∧ a = nI k ∧ ¬ nI w - 1 < a) ∧ (¬ a < nI w → nI w - 1 < a) := by
  have e := sh_pred w hw
  have e2 := nI_toInt (n := w) (by omega)
  rw [Int32.lt_iff_toInt_lt, Int32.toInt_zero] at h0
  have l1 : a < nI w ↔ a.toInt < (w : Int) := by rw [Int32.lt_iff_toInt_lt, e2]
  have l2 : nI w - 1 < a ↔ (w : Int) - 1 < a.toInt := by rw [Int32.lt_iff_toInt_lt, e]
  rw [l1, l2]
  refine ⟨fun h => ?_, fun h => by omega⟩
  obtain ⟨k, hk, r⟩ := inR_rng (x := a) (N := w) (by unfold inR; simp only [decide_eq_true_eq]; omega)
  exact ⟨k, hk, r, by omega⟩
theorem op_write {s : SX} {t : SM} (h : Inv s t) (a b : Int32) (x : Int64) : Sm (fX5_write a b x s) (fX6_write a b x t) := by
  have z0 : (0 : Int32) = 0 := Eq.refl 0
  have z1 : ¬ (1 : Int32) = 0 := by decide
  unfold fX5_write fX6_write
  rcases sh_pick a with ⟨p1, p2⟩ | ⟨q, hq, e, p1, p2⟩
  · rw [p1, p2, bd_one, bd_one, om_none, if_pos z0]
    exact fin0L h
  · obtain ⟨a1, a2, a3, ⟨w, hw, a4⟩, a5⟩ := h.2.2.2.2.2 q hq
    rw [p1, p2, bd_one, bd_one, om_some hq, if_neg z1, e, ixg_nI hq (by decide)]
    unfold fX3_isMissing
    rw [a1]
    by_cases hk : gM t 16 q = 0
    · rw [if_pos hk, if_pos hk, bd_one, if_neg z1]
      exact fin5L h
    · rw [if_neg hk, if_neg hk, bd_one, if_pos z0, ixg_nI hq (by decide), a3, a4]
      by_cases h0 : b < 0
      · rw [if_pos h0, in_lo h0, bd_one, if_pos z0]
        exact fin0L h
      · rw [if_neg h0]
        obtain ⟨r1, r2⟩ := sh_row hw h0
        by_cases hb : b < nI w
        · obtain ⟨k, hkw, eb, r3⟩ := r1 hb
          have hk40 : k < 40 := by omega
          obtain ⟨y, y1, y2⟩ := sh_put (s := s) (t := t) hk40 a1 x
          rw [if_pos hb, in_in h0 r3, bd_one, if_neg z1, eb, ixg_nI hk40 (by decide), vl_eq, y1, bd_one, nI_mul40 hq hk40, ixg_nI (show 40 * q + k < 160 by omega) (by decide), vl_eq, ixg_nI hq (by decide), y2, bd_one, ixg_nI (show 40 * q + k < 160 by omega) (by decide), vl_eq, a5 k hk40]
          exact ⟨_, _, _, rfl, rfl, inv_put h hq hk40 y⟩
        · rw [if_neg hb, in_hi h0 (r2 hb), bd_one, if_pos z0]
          exact fin0L h
