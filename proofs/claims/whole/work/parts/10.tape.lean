def fX4_add (l1 : Int32) (s : SX) : Option (Unit × SX) :=
  ixg (gX s 8 0 1) 120 fun n1 => vl (wX s 8 1 n1 l1) fun s2 =>
  vl (wX s2 8 0 1 ((gX s2 8 0 1) + 1)) fun s3 =>
  some ((), s3)
set_option maxRecDepth 100000 in
set_option maxHeartbeats 4000000 in
theorem e_X4_add {G : Cf} {t : SM} (l1 : Int32) (s : SX) : Ct (wfX t) inU G M_X4_add [.ref 62, .int l1] s (fX4_add l1 s) := by
  refine Ct.of (L0 := [some (.ref 62), some (.int l1)]) 0 rfl rfl ⟨rfl, rfl⟩ (Nat.le_of_ble_eq_true rfl) rfl ?_
  unfold fX4_add
  refine rr_aload_n (q := 1) rfl dX4_add_0 rfl ?_
  refine rr_get (q := 4) rfl fl_X4_9 w_tape rfl dX4_add_1 ?_
  refine rr_aload_n (q := 5) rfl dX4_add_4 rfl ?_
  refine rr_get (q := 8) rfl fl_X4_15 w_tape rfl dX4_add_5 ?_
  refine rr_iload_n (q := 9) rfl dX4_add_8 rfl ?_
  refine rr_iast (q := 10) rfl w_tapearr (fun _ => u_tapearr) dX4_add_9 (fun n1 s2 => ?_)
  refine rr_aload_n (q := 11) rfl dX4_add_10 rfl ?_
  refine rr_dup (q := 12) rfl dX4_add_11 rfl ?_
  refine rr_get (q := 15) rfl fl_X4_15 w_tape rfl dX4_add_12 ?_
  refine rr_iconst 1 (q := 16) rfl dX4_add_15 rfl ?_
  refine rr_iadd (q := 17) rfl dX4_add_16 ?_
  refine rr_puti (q := 20) rfl fl_X4_15 fp_X4_1 w_tape (Nat.le_of_ble_eq_true rfl) u_tape1 dX4_add_17 (fun s3 => ?_)
  exact rr_vret dX4_add_20 rfl
def fX4_isLetter (l0 : Int32) (s : SX) : Option (Int32 × SX) :=
  (if l0 < 97 then
  some (0, s)
  else
  (if 122 < l0 then
  some (0, s)
  else
  some (1, s)))
set_option maxRecDepth 100000 in
set_option maxHeartbeats 4000000 in
theorem e_X4_isLetter {G : Cf} {t : SM} (l0 : Int32) (s : SX) : Ct (wfX t) inI G M_X4_isLetter [.int l0] s (fX4_isLetter l0 s) := by
  refine Ct.of (L0 := [some (.int l0)]) 0 rfl rfl ⟨rfl, rfl⟩ (Nat.le_of_ble_eq_true rfl) rfl ?_
  unfold fX4_isLetter
  refine rr_iload_n (q := 1) rfl dX4_isLetter_0 rfl ?_
  refine rr_bipush 97 (q := 3) rfl dX4_isLetter_1 rfl ?_
  refine rr_icmp_lt 16 (q := 6) rfl dX4_isLetter_3 rfl (fun _ => ?_) (fun _ => ?_)
  · refine rr_iconst 0 (q := 17) rfl dX4_isLetter_16 rfl ?_
    exact rr_zret dX4_isLetter_17 rfl (Or.inl rfl)
  · refine rr_iload_n (q := 7) rfl dX4_isLetter_6 rfl ?_
    refine rr_bipush 122 (q := 9) rfl dX4_isLetter_7 rfl ?_
    refine rr_icmp_gt 16 (q := 12) rfl dX4_isLetter_9 rfl (fun _ => ?_) (fun _ => ?_)
    · refine rr_iconst 0 (q := 17) rfl dX4_isLetter_16 rfl ?_
      exact rr_zret dX4_isLetter_17 rfl (Or.inl rfl)
    · refine rr_iconst 1 (q := 13) rfl dX4_isLetter_12 rfl ?_
      refine rr_goto 17 dX4_isLetter_13 rfl ?_
      exact rr_zret dX4_isLetter_17 rfl (Or.inr rfl)
def fX4_isDigit (l0 : Int32) (s : SX) : Option (Int32 × SX) :=
  (if l0 < 48 then
  some (0, s)
  else
  (if 57 < l0 then
  some (0, s)
  else
  some (1, s)))
set_option maxRecDepth 100000 in
set_option maxHeartbeats 4000000 in
theorem e_X4_isDigit {G : Cf} {t : SM} (l0 : Int32) (s : SX) : Ct (wfX t) inI G M_X4_isDigit [.int l0] s (fX4_isDigit l0 s) := by
  refine Ct.of (L0 := [some (.int l0)]) 0 rfl rfl ⟨rfl, rfl⟩ (Nat.le_of_ble_eq_true rfl) rfl ?_
  unfold fX4_isDigit
  refine rr_iload_n (q := 1) rfl dX4_isDigit_0 rfl ?_
  refine rr_bipush 48 (q := 3) rfl dX4_isDigit_1 rfl ?_
  refine rr_icmp_lt 16 (q := 6) rfl dX4_isDigit_3 rfl (fun _ => ?_) (fun _ => ?_)
  · refine rr_iconst 0 (q := 17) rfl dX4_isDigit_16 rfl ?_
    exact rr_zret dX4_isDigit_17 rfl (Or.inl rfl)
  · refine rr_iload_n (q := 7) rfl dX4_isDigit_6 rfl ?_
    refine rr_bipush 57 (q := 9) rfl dX4_isDigit_7 rfl ?_
    refine rr_icmp_gt 16 (q := 12) rfl dX4_isDigit_9 rfl (fun _ => ?_) (fun _ => ?_)
    · refine rr_iconst 0 (q := 17) rfl dX4_isDigit_16 rfl ?_
      exact rr_zret dX4_isDigit_17 rfl (Or.inl rfl)
    · refine rr_iconst 1 (q := 13) rfl dX4_isDigit_12 rfl ?_
      refine rr_goto 17 dX4_isDigit_13 rfl ?_
      exact rr_zret dX4_isDigit_17 rfl (Or.inr rfl)
def fX4_advance_98b (k98 : SX → Option (Unit × SX)) (s : SX) : Option (Unit × SX) :=
  (if (gX s 8 0 1) ≤ (gX s 8 0 4) then
  some ((), s)
  else
  ixg (gX s 8 0 4) 120 fun n24 =>
  bd (fX4_isLetter (gX s 8 1 n24) s) fun v25 s26 =>
  (if v25 = 0 then
  some ((), s26)
  else
  vl (wX s26 8 0 4 ((gX s26 8 0 4) + 1)) fun s27 =>
  k98 s27))
set_option maxRecDepth 100000 in
set_option maxHeartbeats 4000000 in
theorem e_X4_advance_98b {G : Cf} {t : SM} {k98 : SX → Option (Unit × SX)} (hk98 : ∀ (s : SX), R (wfX t) inU G M_X4_advance 98 [some (.ref 62)] [] s (k98 s)) (s : SX) : R (wfX t) inU G M_X4_advance 98 [some (.ref 62)] [] s (fX4_advance_98b k98 s) := by
  unfold fX4_advance_98b
  refine rr_aload_n (q := 99) rfl dX4_advance_98 rfl ?_
  refine rr_get (q := 102) rfl fl_X4_19 w_tape rfl dX4_advance_99 ?_
  refine rr_aload_n (q := 103) rfl dX4_advance_102 rfl ?_
  refine rr_get (q := 106) rfl fl_X4_15 w_tape rfl dX4_advance_103 ?_
  refine rr_icmp_ge 259 (q := 109) rfl dX4_advance_106 rfl (fun _ => ?_) (fun _ => ?_)
  · exact rr_vret dX4_advance_259 rfl
  · refine rr_aload_n (q := 110) rfl dX4_advance_109 rfl ?_
    refine rr_get (q := 113) rfl fl_X4_9 w_tape rfl dX4_advance_110 ?_
    refine rr_aload_n (q := 114) rfl dX4_advance_113 rfl ?_
    refine rr_get (q := 117) rfl fl_X4_19 w_tape rfl dX4_advance_114 ?_
    refine rr_iald (q := 118) rfl w_tapearr dX4_advance_117 (fun n24 => ?_)
    refine rr_cSi (q := 121) rfl V_X4_isLetter ml_X4_109 ⟨Nat.le_of_ble_eq_true rfl, Nat.le_of_ble_eq_true rfl⟩ (e_X4_isLetter (gX s 8 1 n24) s) rfl rfl (Nat.le_of_ble_eq_true rfl) dX4_advance_118 (fun v25 s26 => ?_)
    refine rr_if_eq 259 (q := 124) rfl dX4_advance_121 rfl (fun _ => ?_) (fun _ => ?_)
    · exact rr_vret dX4_advance_259 rfl
    · refine rr_aload_n (q := 125) rfl dX4_advance_124 rfl ?_
      refine rr_dup (q := 126) rfl dX4_advance_125 rfl ?_
      refine rr_get (q := 129) rfl fl_X4_19 w_tape rfl dX4_advance_126 ?_
      refine rr_iconst 1 (q := 130) rfl dX4_advance_129 rfl ?_
      refine rr_iadd (q := 131) rfl dX4_advance_130 ?_
      refine rr_puti (q := 134) rfl fl_X4_19 fp_X4_4 w_tape (Nat.le_of_ble_eq_true rfl) u_tape4 dX4_advance_131 (fun s27 => ?_)
      refine rr_goto 98 dX4_advance_134 rfl ?_
      exact hk98 s27
def fX4_advance_98 : Nat → SX → Option (Unit × SX) := lp (fun _ => none) (fX4_advance_98b)
theorem e_X4_advance_98 {G : Cf} {t : SM}  (n : Nat) : ∀ (s : SX), R (wfX t) inU G M_X4_advance 98 [some (.ref 62)] [] s (fX4_advance_98 n s) := by
  unfold fX4_advance_98
  exact rr_lp (P := fun (kz : SX → Option (Unit × SX)) => ∀ (s : SX), R (wfX t) inU G M_X4_advance 98 [some (.ref 62)] [] s (kz s)) (fun _ => rr_none) (fun kz hkz => fun s => e_X4_advance_98b hkz s) n
def fX4_advance_157b (k157 : SX → Option (Unit × SX)) (s : SX) : Option (Unit × SX) :=
  (if (gX s 8 0 1) ≤ (gX s 8 0 4) then
  some ((), s)
  else
  ixg (gX s 8 0 4) 120 fun n18 =>
  bd (fX4_isDigit (gX s 8 1 n18) s) fun v19 s20 =>
  (if v19 = 0 then
  some ((), s20)
  else
  ixg (gX s20 8 0 4) 120 fun n21 =>
  vl (wX s20 8 0 5 (if 1000 < (((10 * (gX s20 8 0 5)) + (gX s20 8 1 n21)) - 48) then 1000 else (((10 * (gX s20 8 0 5)) + (gX s20 8 1 n21)) - 48))) fun s22 =>
  vl (wX s22 8 0 4 ((gX s22 8 0 4) + 1)) fun s23 =>
  k157 s23))
set_option maxRecDepth 100000 in
set_option maxHeartbeats 4000000 in
theorem e_X4_advance_157b {G : Cf} {t : SM} {k157 : SX → Option (Unit × SX)} (hk157 : ∀ (s : SX), R (wfX t) inU G M_X4_advance 157 [some (.ref 62)] [] s (k157 s)) (s : SX) : R (wfX t) inU G M_X4_advance 157 [some (.ref 62)] [] s (fX4_advance_157b k157 s) := by
  unfold fX4_advance_157b
  refine rr_aload_n (q := 158) rfl dX4_advance_157 rfl ?_
  refine rr_get (q := 161) rfl fl_X4_19 w_tape rfl dX4_advance_158 ?_
  refine rr_aload_n (q := 162) rfl dX4_advance_161 rfl ?_
  refine rr_get (q := 165) rfl fl_X4_15 w_tape rfl dX4_advance_162 ?_
  refine rr_icmp_ge 259 (q := 168) rfl dX4_advance_165 rfl (fun _ => ?_) (fun _ => ?_)
  · exact rr_vret dX4_advance_259 rfl
  · refine rr_aload_n (q := 169) rfl dX4_advance_168 rfl ?_
    refine rr_get (q := 172) rfl fl_X4_9 w_tape rfl dX4_advance_169 ?_
    refine rr_aload_n (q := 173) rfl dX4_advance_172 rfl ?_
    refine rr_get (q := 176) rfl fl_X4_19 w_tape rfl dX4_advance_173 ?_
    refine rr_iald (q := 177) rfl w_tapearr dX4_advance_176 (fun n18 => ?_)
    refine rr_cSi (q := 180) rfl V_X4_isDigit ml_X4_113 ⟨Nat.le_of_ble_eq_true rfl, Nat.le_of_ble_eq_true rfl⟩ (e_X4_isDigit (gX s 8 1 n18) s) rfl rfl (Nat.le_of_ble_eq_true rfl) dX4_advance_177 (fun v19 s20 => ?_)
    refine rr_if_eq 259 (q := 183) rfl dX4_advance_180 rfl (fun _ => ?_) (fun _ => ?_)
    · exact rr_vret dX4_advance_259 rfl
    · refine rr_aload_n (q := 184) rfl dX4_advance_183 rfl ?_
      refine rr_bipush 10 (q := 186) rfl dX4_advance_184 rfl ?_
      refine rr_aload_n (q := 187) rfl dX4_advance_186 rfl ?_
      refine rr_get (q := 190) rfl fl_X4_86 w_tape rfl dX4_advance_187 ?_
      refine rr_imul (q := 191) rfl dX4_advance_190 ?_
      refine rr_aload_n (q := 192) rfl dX4_advance_191 rfl ?_
      refine rr_get (q := 195) rfl fl_X4_9 w_tape rfl dX4_advance_192 ?_
      refine rr_aload_n (q := 196) rfl dX4_advance_195 rfl ?_
      refine rr_get (q := 199) rfl fl_X4_19 w_tape rfl dX4_advance_196 ?_
      refine rr_iald (q := 200) rfl w_tapearr dX4_advance_199 (fun n21 => ?_)
      refine rr_iadd (q := 201) rfl dX4_advance_200 ?_
      refine rr_bipush 48 (q := 203) rfl dX4_advance_201 rfl ?_
      refine rr_isub (q := 204) rfl dX4_advance_203 ?_
      refine rr_sipush 1000 (q := 207) rfl dX4_advance_204 rfl ?_
      refine rr_min (q := 210) rfl ml_X4_116 (Nat.le_of_ble_eq_true rfl) (Nat.le_of_ble_eq_true rfl) dX4_advance_207 ?_
      refine rr_puti (q := 213) rfl fl_X4_86 fp_X4_5 w_tape (Nat.le_of_ble_eq_true rfl) u_tape5 dX4_advance_210 (fun s22 => ?_)
      refine rr_aload_n (q := 214) rfl dX4_advance_213 rfl ?_
      refine rr_dup (q := 215) rfl dX4_advance_214 rfl ?_
      refine rr_get (q := 218) rfl fl_X4_19 w_tape rfl dX4_advance_215 ?_
      refine rr_iconst 1 (q := 219) rfl dX4_advance_218 rfl ?_
      refine rr_iadd (q := 220) rfl dX4_advance_219 ?_
      refine rr_puti (q := 223) rfl fl_X4_19 fp_X4_4 w_tape (Nat.le_of_ble_eq_true rfl) u_tape4 dX4_advance_220 (fun s23 => ?_)
      refine rr_goto 157 dX4_advance_223 rfl ?_
      exact hk157 s23
def fX4_advance_157 : Nat → SX → Option (Unit × SX) := lp (fun _ => none) (fX4_advance_157b)
theorem e_X4_advance_157 {G : Cf} {t : SM}  (n : Nat) : ∀ (s : SX), R (wfX t) inU G M_X4_advance 157 [some (.ref 62)] [] s (fX4_advance_157 n s) := by
  unfold fX4_advance_157
  exact rr_lp (P := fun (kz : SX → Option (Unit × SX)) => ∀ (s : SX), R (wfX t) inU G M_X4_advance 157 [some (.ref 62)] [] s (kz s)) (fun _ => rr_none) (fun kz hkz => fun s => e_X4_advance_157b hkz s) n
def fX4_advance_246 (t1 : Int32) (s : SX) : Option (Unit × SX) :=
  vl (wX s 8 0 2 t1) fun s16 =>
  vl (wX s16 8 0 4 ((gX s16 8 0 3) + 1)) fun s17 =>
  some ((), s17)
set_option maxRecDepth 100000 in
set_option maxHeartbeats 4000000 in
theorem e_X4_advance_246 {G : Cf} {t : SM}  (t1 : Int32) (s : SX) : R (wfX t) inU G M_X4_advance 246 [some (.ref 62)] [.int t1, .ref 62] s (fX4_advance_246 t1 s) := by
  unfold fX4_advance_246
  refine rr_puti (q := 249) rfl fl_X4_29 fp_X4_2 w_tape (Nat.le_of_ble_eq_true rfl) u_tape2 dX4_advance_246 (fun s16 => ?_)
  refine rr_aload_n (q := 250) rfl dX4_advance_249 rfl ?_
  refine rr_aload_n (q := 251) rfl dX4_advance_250 rfl ?_
  refine rr_get (q := 254) rfl fl_X4_96 w_tape rfl dX4_advance_251 ?_
  refine rr_iconst 1 (q := 255) rfl dX4_advance_254 rfl ?_
  refine rr_iadd (q := 256) rfl dX4_advance_255 ?_
  refine rr_puti (q := 259) rfl fl_X4_19 fp_X4_4 w_tape (Nat.le_of_ble_eq_true rfl) u_tape4 dX4_advance_256 (fun s17 => ?_)
  exact rr_vret dX4_advance_259 rfl
def fX4_advance_46 (s : SX) : Option (Unit × SX) :=
  vl (wX s 8 0 4 (gX s 8 0 3)) fun s4 =>
  vl (wX s4 8 0 5 0) fun s5 =>
  (if (gX s5 8 0 3) < (gX s5 8 0 1) then
  ixg (gX s5 8 0 3) 120 fun n6 =>
  bd (fX4_isLetter (gX s5 8 1 n6) s5) fun v7 s8 =>
  (if v7 = 0 then
  ixg (gX s8 8 0 3) 120 fun n9 =>
  bd (fX4_isDigit (gX s8 8 1 n9) s8) fun v10 s11 =>
  (if v10 = 0 then
  ixg (gX s11 8 0 3) 120 fun n12 =>
  (if (gX s11 8 1 n12) = 59 then
  fX4_advance_246 3 s11
  else
  fX4_advance_246 4 s11)
  else
  vl (wX s11 8 0 2 2) fun s13 =>
  fX4_advance_157 400 s13)
  else
  vl (wX s8 8 0 2 1) fun s14 =>
  fX4_advance_98 400 s14)
  else
  vl (wX s5 8 0 2 0) fun s15 =>
  some ((), s15))
set_option maxRecDepth 100000 in
set_option maxHeartbeats 4000000 in
theorem e_X4_advance_46 {G : Cf} {t : SM}  (s : SX) : R (wfX t) inU G M_X4_advance 46 [some (.ref 62)] [] s (fX4_advance_46 s) := by
  unfold fX4_advance_46
  refine rr_aload_n (q := 47) rfl dX4_advance_46 rfl ?_
  refine rr_aload_n (q := 48) rfl dX4_advance_47 rfl ?_
  refine rr_get (q := 51) rfl fl_X4_96 w_tape rfl dX4_advance_48 ?_
  refine rr_puti (q := 54) rfl fl_X4_19 fp_X4_4 w_tape (Nat.le_of_ble_eq_true rfl) u_tape4 dX4_advance_51 (fun s4 => ?_)
  refine rr_aload_n (q := 55) rfl dX4_advance_54 rfl ?_
  refine rr_iconst 0 (q := 56) rfl dX4_advance_55 rfl ?_
  refine rr_puti (q := 59) rfl fl_X4_86 fp_X4_5 w_tape (Nat.le_of_ble_eq_true rfl) u_tape5 dX4_advance_56 (fun s5 => ?_)
  refine rr_aload_n (q := 60) rfl dX4_advance_59 rfl ?_
  refine rr_get (q := 63) rfl fl_X4_96 w_tape rfl dX4_advance_60 ?_
  refine rr_aload_n (q := 64) rfl dX4_advance_63 rfl ?_
  refine rr_get (q := 67) rfl fl_X4_15 w_tape rfl dX4_advance_64 ?_
  refine rr_icmp_lt 78 (q := 70) rfl dX4_advance_67 rfl (fun _ => ?_) (fun _ => ?_)
  · refine rr_aload_n (q := 79) rfl dX4_advance_78 rfl ?_
    refine rr_get (q := 82) rfl fl_X4_9 w_tape rfl dX4_advance_79 ?_
    refine rr_aload_n (q := 83) rfl dX4_advance_82 rfl ?_
    refine rr_get (q := 86) rfl fl_X4_96 w_tape rfl dX4_advance_83 ?_
    refine rr_iald (q := 87) rfl w_tapearr dX4_advance_86 (fun n6 => ?_)
    refine rr_cSi (q := 90) rfl V_X4_isLetter ml_X4_109 ⟨Nat.le_of_ble_eq_true rfl, Nat.le_of_ble_eq_true rfl⟩ (e_X4_isLetter (gX s5 8 1 n6) s5) rfl rfl (Nat.le_of_ble_eq_true rfl) dX4_advance_87 (fun v7 s8 => ?_)
    refine rr_if_eq 137 (q := 93) rfl dX4_advance_90 rfl (fun _ => ?_) (fun _ => ?_)
    · refine rr_aload_n (q := 138) rfl dX4_advance_137 rfl ?_
      refine rr_get (q := 141) rfl fl_X4_9 w_tape rfl dX4_advance_138 ?_
      refine rr_aload_n (q := 142) rfl dX4_advance_141 rfl ?_
      refine rr_get (q := 145) rfl fl_X4_96 w_tape rfl dX4_advance_142 ?_
      refine rr_iald (q := 146) rfl w_tapearr dX4_advance_145 (fun n9 => ?_)
      refine rr_cSi (q := 149) rfl V_X4_isDigit ml_X4_113 ⟨Nat.le_of_ble_eq_true rfl, Nat.le_of_ble_eq_true rfl⟩ (e_X4_isDigit (gX s8 8 1 n9) s8) rfl rfl (Nat.le_of_ble_eq_true rfl) dX4_advance_146 (fun v10 s11 => ?_)
      refine rr_if_eq 226 (q := 152) rfl dX4_advance_149 rfl (fun _ => ?_) (fun _ => ?_)
      · refine rr_aload_n (q := 227) rfl dX4_advance_226 rfl ?_
        refine rr_aload_n (q := 228) rfl dX4_advance_227 rfl ?_
        refine rr_get (q := 231) rfl fl_X4_9 w_tape rfl dX4_advance_228 ?_
        refine rr_aload_n (q := 232) rfl dX4_advance_231 rfl ?_
        refine rr_get (q := 235) rfl fl_X4_96 w_tape rfl dX4_advance_232 ?_
        refine rr_iald (q := 236) rfl w_tapearr dX4_advance_235 (fun n12 => ?_)
        refine rr_bipush 59 (q := 238) rfl dX4_advance_236 rfl ?_
        refine rr_icmp_ne 245 (q := 241) rfl dX4_advance_238 rfl (fun _ => ?_) (fun _ => ?_)
        · refine rr_iconst 4 (q := 246) rfl dX4_advance_245 rfl ?_
          exact e_X4_advance_246 4 s11
        · refine rr_iconst 3 (q := 242) rfl dX4_advance_241 rfl ?_
          refine rr_goto 246 dX4_advance_242 rfl ?_
          exact e_X4_advance_246 3 s11
      · refine rr_aload_n (q := 153) rfl dX4_advance_152 rfl ?_
        refine rr_iconst 2 (q := 154) rfl dX4_advance_153 rfl ?_
        refine rr_puti (q := 157) rfl fl_X4_29 fp_X4_2 w_tape (Nat.le_of_ble_eq_true rfl) u_tape2 dX4_advance_154 (fun s13 => ?_)
        exact e_X4_advance_157 400 s13
    · refine rr_aload_n (q := 94) rfl dX4_advance_93 rfl ?_
      refine rr_iconst 1 (q := 95) rfl dX4_advance_94 rfl ?_
      refine rr_puti (q := 98) rfl fl_X4_29 fp_X4_2 w_tape (Nat.le_of_ble_eq_true rfl) u_tape2 dX4_advance_95 (fun s14 => ?_)
      exact e_X4_advance_98 400 s14
  · refine rr_aload_n (q := 71) rfl dX4_advance_70 rfl ?_
    refine rr_iconst 0 (q := 72) rfl dX4_advance_71 rfl ?_
    refine rr_puti (q := 75) rfl fl_X4_29 fp_X4_2 w_tape (Nat.le_of_ble_eq_true rfl) u_tape2 dX4_advance_72 (fun s15 => ?_)
    refine rr_goto 259 dX4_advance_75 rfl ?_
    exact rr_vret dX4_advance_259 rfl
def fX4_advance_8b (k8 : SX → Option (Unit × SX)) (s : SX) : Option (Unit × SX) :=
  (if (gX s 8 0 1) ≤ (gX s 8 0 3) then
  fX4_advance_46 s
  else
  ixg (gX s 8 0 3) 120 fun n2 =>
  (if (gX s 8 1 n2) = 32 then
  vl (wX s 8 0 3 ((gX s 8 0 3) + 1)) fun s3 =>
  k8 s3
  else
  fX4_advance_46 s))
set_option maxRecDepth 100000 in
set_option maxHeartbeats 4000000 in
theorem e_X4_advance_8b {G : Cf} {t : SM} {k8 : SX → Option (Unit × SX)} (hk8 : ∀ (s : SX), R (wfX t) inU G M_X4_advance 8 [some (.ref 62)] [] s (k8 s)) (s : SX) : R (wfX t) inU G M_X4_advance 8 [some (.ref 62)] [] s (fX4_advance_8b k8 s) := by
  unfold fX4_advance_8b
  refine rr_aload_n (q := 9) rfl dX4_advance_8 rfl ?_
  refine rr_get (q := 12) rfl fl_X4_96 w_tape rfl dX4_advance_9 ?_
  refine rr_aload_n (q := 13) rfl dX4_advance_12 rfl ?_
  refine rr_get (q := 16) rfl fl_X4_15 w_tape rfl dX4_advance_13 ?_
  refine rr_icmp_ge 46 (q := 19) rfl dX4_advance_16 rfl (fun _ => ?_) (fun _ => ?_)
  · exact e_X4_advance_46 s
  · refine rr_aload_n (q := 20) rfl dX4_advance_19 rfl ?_
    refine rr_get (q := 23) rfl fl_X4_9 w_tape rfl dX4_advance_20 ?_
    refine rr_aload_n (q := 24) rfl dX4_advance_23 rfl ?_
    refine rr_get (q := 27) rfl fl_X4_96 w_tape rfl dX4_advance_24 ?_
    refine rr_iald (q := 28) rfl w_tapearr dX4_advance_27 (fun n2 => ?_)
    refine rr_bipush 32 (q := 30) rfl dX4_advance_28 rfl ?_
    refine rr_icmp_ne 46 (q := 33) rfl dX4_advance_30 rfl (fun _ => ?_) (fun _ => ?_)
    · exact e_X4_advance_46 s
    · refine rr_aload_n (q := 34) rfl dX4_advance_33 rfl ?_
      refine rr_dup (q := 35) rfl dX4_advance_34 rfl ?_
      refine rr_get (q := 38) rfl fl_X4_96 w_tape rfl dX4_advance_35 ?_
      refine rr_iconst 1 (q := 39) rfl dX4_advance_38 rfl ?_
      refine rr_iadd (q := 40) rfl dX4_advance_39 ?_
      refine rr_puti (q := 43) rfl fl_X4_96 fp_X4_3 w_tape (Nat.le_of_ble_eq_true rfl) u_tape3 dX4_advance_40 (fun s3 => ?_)
      refine rr_goto 8 dX4_advance_43 rfl ?_
      exact hk8 s3
def fX4_advance_8 : Nat → SX → Option (Unit × SX) := lp (fun _ => none) (fX4_advance_8b)
theorem e_X4_advance_8 {G : Cf} {t : SM}  (n : Nat) : ∀ (s : SX), R (wfX t) inU G M_X4_advance 8 [some (.ref 62)] [] s (fX4_advance_8 n s) := by
  unfold fX4_advance_8
  exact rr_lp (P := fun (kz : SX → Option (Unit × SX)) => ∀ (s : SX), R (wfX t) inU G M_X4_advance 8 [some (.ref 62)] [] s (kz s)) (fun _ => rr_none) (fun kz hkz => fun s => e_X4_advance_8b hkz s) n
def fX4_advance (s : SX) : Option (Unit × SX) :=
  vl (wX s 8 0 3 (gX s 8 0 4)) fun s1 =>
  fX4_advance_8 400 s1
set_option maxRecDepth 100000 in
set_option maxHeartbeats 4000000 in
theorem e_X4_advance {G : Cf} {t : SM} (s : SX) : Ct (wfX t) inU G M_X4_advance [.ref 62] s (fX4_advance s) := by
  refine Ct.of (L0 := [some (.ref 62)]) 0 rfl rfl ⟨rfl, rfl⟩ (Nat.le_of_ble_eq_true rfl) rfl ?_
  unfold fX4_advance
  refine rr_aload_n (q := 1) rfl dX4_advance_0 rfl ?_
  refine rr_aload_n (q := 2) rfl dX4_advance_1 rfl ?_
  refine rr_get (q := 5) rfl fl_X4_19 w_tape rfl dX4_advance_2 ?_
  refine rr_puti (q := 8) rfl fl_X4_96 fp_X4_3 w_tape (Nat.le_of_ble_eq_true rfl) u_tape3 dX4_advance_5 (fun s1 => ?_)
  exact e_X4_advance_8 400 s1
def fX4_isWord_28b (k : Nat) (k28 : Int32 → SX → Option (Int32 × SX)) (l2 : Int32) (s : SX) : Option (Int32 × SX) :=
  (if (sLn k) ≤ l2 then
  some (1, s)
  else
  ixg ((gX s 8 0 3) + l2) 120 fun n2 =>
  ixg l2 (sLen.getD k 0) fun n3 =>
  (if (gX s 8 1 n2) = (sCh k n3) then
  vl (l2 + 1) fun y4 =>
  k28 y4 s
  else
  some (0, s)))
set_option maxRecDepth 100000 in
set_option maxHeartbeats 4000000 in
theorem e_X4_isWord_28b {G : Cf} {t : SM} {k : Nat} (hk : k < 15) {k28 : Int32 → SX → Option (Int32 × SX)} (hk28 : ∀ (l2 : Int32) (s : SX), R (wfX t) inI G M_X4_isWord 28 [some (.ref 62), some (.ref (1000 + k)), some (.int l2)] [] s (k28 l2 s)) (l2 : Int32) (s : SX) : R (wfX t) inI G M_X4_isWord 28 [some (.ref 62), some (.ref (1000 + k)), some (.int l2)] [] s (fX4_isWord_28b k k28 l2 s) := by
  unfold fX4_isWord_28b
  refine rr_iload_n (q := 29) rfl dX4_isWord_28 rfl ?_
  refine rr_aload_n (q := 30) rfl dX4_isWord_29 rfl ?_
  refine rr_slen (q := 33) rfl ml_X4_99 hk dX4_isWord_30 (Nat.le_of_ble_eq_true rfl) (Nat.le_of_ble_eq_true rfl) (Nat.le_of_ble_eq_true rfl) ?_
  refine rr_icmp_ge 63 (q := 36) rfl dX4_isWord_33 rfl (fun _ => ?_) (fun _ => ?_)
  · refine rr_iconst 1 (q := 64) rfl dX4_isWord_63 rfl ?_
    exact rr_zret dX4_isWord_64 rfl (Or.inr rfl)
  · refine rr_aload_n (q := 37) rfl dX4_isWord_36 rfl ?_
    refine rr_get (q := 40) rfl fl_X4_9 w_tape rfl dX4_isWord_37 ?_
    refine rr_aload_n (q := 41) rfl dX4_isWord_40 rfl ?_
    refine rr_get (q := 44) rfl fl_X4_96 w_tape rfl dX4_isWord_41 ?_
    refine rr_iload_n (q := 45) rfl dX4_isWord_44 rfl ?_
    refine rr_iadd (q := 46) rfl dX4_isWord_45 ?_
    refine rr_iald (q := 47) rfl w_tapearr dX4_isWord_46 (fun n2 => ?_)
    refine rr_aload_n (q := 48) rfl dX4_isWord_47 rfl ?_
    refine rr_iload_n (q := 49) rfl dX4_isWord_48 rfl ?_
    refine rr_schar (q := 52) rfl ml_X4_105 hk dX4_isWord_49 (Nat.le_of_ble_eq_true rfl) (Nat.le_of_ble_eq_true rfl) (Nat.le_of_ble_eq_true rfl) (fun n3 => ?_)
    refine rr_icmp_eq 57 (q := 55) rfl dX4_isWord_52 rfl (fun _ => ?_) (fun _ => ?_)
    · refine rr_iinc (L2 := fun y4 => [some (.ref 62), some (.ref (1000 + k)), some (.int y4)]) (q := 60) rfl dX4_isWord_57 rfl rfl (Nat.le_of_ble_eq_true rfl) (fun _ => rfl) (fun y4 => ?_)
      refine rr_goto 28 dX4_isWord_60 rfl ?_
      exact hk28 y4 s
    · refine rr_iconst 0 (q := 56) rfl dX4_isWord_55 rfl ?_
      exact rr_zret dX4_isWord_56 rfl (Or.inl rfl)
def fX4_isWord_28 (k : Nat) : Nat → Int32 → SX → Option (Int32 × SX) := lp (fun _ _ => none) (fX4_isWord_28b k)
theorem e_X4_isWord_28 {G : Cf} {t : SM} {k : Nat} (hk : k < 15)  (n : Nat) : ∀ (l2 : Int32) (s : SX), R (wfX t) inI G M_X4_isWord 28 [some (.ref 62), some (.ref (1000 + k)), some (.int l2)] [] s (fX4_isWord_28 k n l2 s) := by
  unfold fX4_isWord_28
  exact rr_lp (P := fun (kz : Int32 → SX → Option (Int32 × SX)) => ∀ (l2 : Int32) (s : SX), R (wfX t) inI G M_X4_isWord 28 [some (.ref 62), some (.ref (1000 + k)), some (.int l2)] [] s (kz l2 s)) (fun _ _ => rr_none) (fun kz hkz => fun l2 s => e_X4_isWord_28b hk hkz l2 s) n
def fX4_isWord (k : Nat) (s : SX) : Option (Int32 × SX) :=
  (if (gX s 8 0 2) = 1 then
  (if ((gX s 8 0 4) - (gX s 8 0 3)) = (sLn k) then
  vl 0 fun y1 =>
  fX4_isWord_28 k 400 y1 s
  else
  some (0, s))
  else
  some (0, s))
set_option maxRecDepth 100000 in
set_option maxHeartbeats 4000000 in
theorem e_X4_isWord {G : Cf} {t : SM} {k : Nat} (hk : k < 15) (s : SX) : Ct (wfX t) inI G M_X4_isWord [.ref 62, .ref (1000 + k)] s (fX4_isWord k s) := by
  refine Ct.of (L0 := [some (.ref 62), some (.ref (1000 + k)), none]) 1 rfl rfl ⟨rfl, rfl⟩ (Nat.le_of_ble_eq_true rfl) rfl ?_
  unfold fX4_isWord
  refine rr_aload_n (q := 1) rfl dX4_isWord_0 rfl ?_
  refine rr_get (q := 4) rfl fl_X4_29 w_tape rfl dX4_isWord_1 ?_
  refine rr_iconst 1 (q := 5) rfl dX4_isWord_4 rfl ?_
  refine rr_icmp_ne 24 (q := 8) rfl dX4_isWord_5 rfl (fun _ => ?_) (fun _ => ?_)
  · refine rr_iconst 0 (q := 25) rfl dX4_isWord_24 rfl ?_
    exact rr_zret dX4_isWord_25 rfl (Or.inl rfl)
  · refine rr_aload_n (q := 9) rfl dX4_isWord_8 rfl ?_
    refine rr_get (q := 12) rfl fl_X4_19 w_tape rfl dX4_isWord_9 ?_
    refine rr_aload_n (q := 13) rfl dX4_isWord_12 rfl ?_
    refine rr_get (q := 16) rfl fl_X4_96 w_tape rfl dX4_isWord_13 ?_
    refine rr_isub (q := 17) rfl dX4_isWord_16 ?_
    refine rr_aload_n (q := 18) rfl dX4_isWord_17 rfl ?_
    refine rr_slen (q := 21) rfl ml_X4_99 hk dX4_isWord_18 (Nat.le_of_ble_eq_true rfl) (Nat.le_of_ble_eq_true rfl) (Nat.le_of_ble_eq_true rfl) ?_
    refine rr_icmp_eq 26 (q := 24) rfl dX4_isWord_21 rfl (fun _ => ?_) (fun _ => ?_)
    · refine rr_iconst 0 (q := 27) rfl dX4_isWord_26 rfl ?_
      refine rr_istore_n (L2 := fun y1 => [some (.ref 62), some (.ref (1000 + k)), some (.int y1)]) (q := 28) rfl dX4_isWord_27 (Nat.le_of_ble_eq_true rfl) (fun _ => rfl) (fun y1 => ?_)
      exact e_X4_isWord_28 hk 400 y1 s
    · refine rr_iconst 0 (q := 25) rfl dX4_isWord_24 rfl ?_
      exact rr_zret dX4_isWord_25 rfl (Or.inl rfl)
def fX4_takeNumber (l1 : Int32) (s : SX) : Option (Int32 × SX) :=
  (if (gX s 8 0 2) = 2 then
  (if (gX s 8 0 5) ≤ l1 then
  vl (gX s 8 0 5) fun y1 =>
  bd (fX4_advance s) fun _ s2 =>
  some (y1, s2)
  else
  some ((-1), s))
  else
  some ((-1), s))
set_option maxRecDepth 100000 in
set_option maxHeartbeats 4000000 in
theorem e_X4_takeNumber {G : Cf} {t : SM} (l1 : Int32) (s : SX) : Ct (wfX t) inI G M_X4_takeNumber [.ref 62, .int l1] s (fX4_takeNumber l1 s) := by
  refine Ct.of (L0 := [some (.ref 62), some (.int l1), none]) 1 rfl rfl ⟨rfl, rfl⟩ (Nat.le_of_ble_eq_true rfl) rfl ?_
  unfold fX4_takeNumber
  refine rr_aload_n (q := 1) rfl dX4_takeNumber_0 rfl ?_
  refine rr_get (q := 4) rfl fl_X4_29 w_tape rfl dX4_takeNumber_1 ?_
  refine rr_iconst 2 (q := 5) rfl dX4_takeNumber_4 rfl ?_
  refine rr_icmp_ne 16 (q := 8) rfl dX4_takeNumber_5 rfl (fun _ => ?_) (fun _ => ?_)
  · refine rr_iconst (-1) (q := 17) rfl dX4_takeNumber_16 rfl ?_
    exact rr_iret dX4_takeNumber_17 rfl
  · refine rr_aload_n (q := 9) rfl dX4_takeNumber_8 rfl ?_
    refine rr_get (q := 12) rfl fl_X4_86 w_tape rfl dX4_takeNumber_9 ?_
    refine rr_iload_n (q := 13) rfl dX4_takeNumber_12 rfl ?_
    refine rr_icmp_le 18 (q := 16) rfl dX4_takeNumber_13 rfl (fun _ => ?_) (fun _ => ?_)
    · refine rr_aload_n (q := 19) rfl dX4_takeNumber_18 rfl ?_
      refine rr_get (q := 22) rfl fl_X4_86 w_tape rfl dX4_takeNumber_19 ?_
      refine rr_istore_n (L2 := fun y1 => [some (.ref 62), some (.int l1), some (.int y1)]) (q := 23) rfl dX4_takeNumber_22 (Nat.le_of_ble_eq_true rfl) (fun _ => rfl) (fun y1 => ?_)
      refine rr_aload_n (q := 24) rfl dX4_takeNumber_23 rfl ?_
      refine rr_cVu (q := 27) rfl V_X4_advance ml_X4_22 ⟨Nat.le_of_ble_eq_true rfl, Nat.le_of_ble_eq_true rfl⟩ (e_X4_advance s) w_tape rfl rfl rfl rfl (Nat.le_of_ble_eq_true rfl) dX4_takeNumber_24 (fun _ s2 => ?_)
      refine rr_iload_n (q := 28) rfl dX4_takeNumber_27 rfl ?_
      exact rr_iret dX4_takeNumber_28 rfl
    · refine rr_iconst (-1) (q := 17) rfl dX4_takeNumber_16 rfl ?_
      exact rr_iret dX4_takeNumber_17 rfl
def fX4_takeWord (k : Nat) (s : SX) : Option (Int32 × SX) :=
  bd (fX4_isWord k s) fun v1 s2 =>
  (if v1 = 0 then
  some (0, s2)
  else
  bd (fX4_advance s2) fun _ s3 =>
  some (1, s3))
set_option maxRecDepth 100000 in
set_option maxHeartbeats 4000000 in
theorem e_X4_takeWord {G : Cf} {t : SM} {k : Nat} (hk : k < 15) (s : SX) : Ct (wfX t) inI G M_X4_takeWord [.ref 62, .ref (1000 + k)] s (fX4_takeWord k s) := by
  refine Ct.of (L0 := [some (.ref 62), some (.ref (1000 + k))]) 0 rfl rfl ⟨rfl, rfl⟩ (Nat.le_of_ble_eq_true rfl) rfl ?_
  unfold fX4_takeWord
  refine rr_aload_n (q := 1) rfl dX4_takeWord_0 rfl ?_
  refine rr_aload_n (q := 2) rfl dX4_takeWord_1 rfl ?_
  refine rr_cVi (q := 5) rfl V_X4_isWord ml_X4_34 ⟨Nat.le_of_ble_eq_true rfl, Nat.le_of_ble_eq_true rfl⟩ (e_X4_isWord hk s) w_tape rfl rfl rfl rfl (Nat.le_of_ble_eq_true rfl) dX4_takeWord_2 (fun v1 s2 => ?_)
  refine rr_if_ne 10 (q := 8) rfl dX4_takeWord_5 rfl (fun _ => ?_) (fun _ => ?_)
  · refine rr_aload_n (q := 11) rfl dX4_takeWord_10 rfl ?_
    refine rr_cVu (q := 14) rfl V_X4_advance ml_X4_22 ⟨Nat.le_of_ble_eq_true rfl, Nat.le_of_ble_eq_true rfl⟩ (e_X4_advance s2) w_tape rfl rfl rfl rfl (Nat.le_of_ble_eq_true rfl) dX4_takeWord_11 (fun _ s3 => ?_)
    refine rr_iconst 1 (q := 15) rfl dX4_takeWord_14 rfl ?_
    exact rr_zret dX4_takeWord_15 rfl (Or.inr rfl)
  · refine rr_iconst 0 (q := 9) rfl dX4_takeWord_8 rfl ?_
    exact rr_zret dX4_takeWord_9 rfl (Or.inl rfl)
def fX4_readFear (s : SX) : Option (Int32 × SX) :=
  bd (fX4_advance s) fun _ s1 =>
  bd (fX4_takeNumber 5 s1) fun v2 s3 =>
  vl v2 fun y4 =>
  (if y4 < 0 then
  some (0, s3)
  else
  bd (fX4_takeWord 1 s3) fun v5 s6 =>
  (if v5 = 0 then
  some (0, s6)
  else
  bd (fX4_takeNumber 99 s6) fun v7 s8 =>
  vl v7 fun y9 =>
  (if 0 ≤ y9 then
  ixg y4 6 fun n10 => vl (wX s8 2 0 n10 y9) fun s11 =>
  some (1, s11)
  else
  some (0, s8))))
set_option maxRecDepth 100000 in
set_option maxHeartbeats 4000000 in
theorem e_X4_readFear {G : Cf} {t : SM} (s : SX) : Ct (wfX t) inI G M_X4_readFear [.ref 62, .ref (rb 2)] s (fX4_readFear s) := by
  refine Ct.of (L0 := [some (.ref 62), some (.ref (rb 2)), none, none]) 2 rfl rfl ⟨rfl, rfl⟩ (Nat.le_of_ble_eq_true rfl) rfl ?_
  unfold fX4_readFear
  refine rr_aload_n (q := 1) rfl dX4_readFear_0 rfl ?_
  refine rr_cVu (q := 4) rfl V_X4_advance ml_X4_22 ⟨Nat.le_of_ble_eq_true rfl, Nat.le_of_ble_eq_true rfl⟩ (e_X4_advance s) w_tape rfl rfl rfl rfl (Nat.le_of_ble_eq_true rfl) dX4_readFear_1 (fun _ s1 => ?_)
  refine rr_aload_n (q := 5) rfl dX4_readFear_4 rfl ?_
  refine rr_iconst 5 (q := 6) rfl dX4_readFear_5 rfl ?_
  refine rr_cVi (q := 9) rfl V_X4_takeNumber ml_X4_54 ⟨Nat.le_of_ble_eq_true rfl, Nat.le_of_ble_eq_true rfl⟩ (e_X4_takeNumber 5 s1) w_tape rfl rfl rfl rfl (Nat.le_of_ble_eq_true rfl) dX4_readFear_6 (fun v2 s3 => ?_)
  refine rr_istore_n (L2 := fun y4 => [some (.ref 62), some (.ref (rb 2)), some (.int y4), none]) (q := 10) rfl dX4_readFear_9 (Nat.le_of_ble_eq_true rfl) (fun _ => rfl) (fun y4 => ?_)
  refine rr_iload_n (q := 11) rfl dX4_readFear_10 rfl ?_
  refine rr_if_lt 23 (q := 14) rfl dX4_readFear_11 rfl (fun _ => ?_) (fun _ => ?_)
  · refine rr_iconst 0 (q := 24) rfl dX4_readFear_23 rfl ?_
    exact rr_zret dX4_readFear_24 rfl (Or.inl rfl)
  · refine rr_aload_n (q := 15) rfl dX4_readFear_14 rfl ?_
    refine rr_ldcs 1 (q := 17) rfl dX4_readFear_15 ⟨rfl, rfl⟩ (by decide) ?_
    refine rr_cVi (q := 20) rfl V_X4_takeWord ml_X4_60 ⟨Nat.le_of_ble_eq_true rfl, Nat.le_of_ble_eq_true rfl⟩ (e_X4_takeWord (by decide) s3) w_tape rfl rfl rfl rfl (Nat.le_of_ble_eq_true rfl) dX4_readFear_17 (fun v5 s6 => ?_)
    refine rr_if_ne 25 (q := 23) rfl dX4_readFear_20 rfl (fun _ => ?_) (fun _ => ?_)
    · refine rr_aload_n (q := 26) rfl dX4_readFear_25 rfl ?_
      refine rr_bipush 99 (q := 28) rfl dX4_readFear_26 rfl ?_
      refine rr_cVi (q := 31) rfl V_X4_takeNumber ml_X4_54 ⟨Nat.le_of_ble_eq_true rfl, Nat.le_of_ble_eq_true rfl⟩ (e_X4_takeNumber 99 s6) w_tape rfl rfl rfl rfl (Nat.le_of_ble_eq_true rfl) dX4_readFear_28 (fun v7 s8 => ?_)
      refine rr_istore_n (L2 := fun y9 => [some (.ref 62), some (.ref (rb 2)), some (.int y4), some (.int y9)]) (q := 32) rfl dX4_readFear_31 (Nat.le_of_ble_eq_true rfl) (fun _ => rfl) (fun y9 => ?_)
      refine rr_iload_n (q := 33) rfl dX4_readFear_32 rfl ?_
      refine rr_if_ge 38 (q := 36) rfl dX4_readFear_33 rfl (fun _ => ?_) (fun _ => ?_)
      · refine rr_aload_n (q := 39) rfl dX4_readFear_38 rfl ?_
        refine rr_get (q := 42) rfl fl_X4_63 (w_realm (by decide)) rfl dX4_readFear_39 ?_
        refine rr_iload_n (q := 43) rfl dX4_readFear_42 rfl ?_
        refine rr_iload_n (q := 44) rfl dX4_readFear_43 rfl ?_
        refine rr_iast (q := 45) rfl (w_rarr0 (by decide)) (fun _ => (u_rarr0 (by decide))) dX4_readFear_44 (fun n10 s11 => ?_)
        refine rr_iconst 1 (q := 46) rfl dX4_readFear_45 rfl ?_
        exact rr_zret dX4_readFear_46 rfl (Or.inr rfl)
      · refine rr_iconst 0 (q := 37) rfl dX4_readFear_36 rfl ?_
        exact rr_zret dX4_readFear_37 rfl (Or.inl rfl)
    · refine rr_iconst 0 (q := 24) rfl dX4_readFear_23 rfl ?_
      exact rr_zret dX4_readFear_24 rfl (Or.inl rfl)
def fX4_readTreaty_111 (l2 : Int32) (l3 : Int32) (l4 : Int32) (t0 : Int32) (s : SX) : Option (Int32 × SX) :=
  vl t0 fun y19 =>
  (if 0 ≤ y19 then
  bd (fX1_addTreaty 2 l2 l3 l4 y19 s) fun v20 s21 =>
  some (1, s21)
  else
  some (0, s))
set_option maxRecDepth 100000 in
set_option maxHeartbeats 4000000 in
theorem e_X4_readTreaty_111 {G : Cf} {t : SM}  (l2 : Int32) (l3 : Int32) (l4 : Int32) (t0 : Int32) (s : SX) : R (wfX t) inI G M_X4_readTreaty 111 [none, some (.ref (rb 2)), some (.int l2), some (.int l3), some (.int l4), none] [.int t0] s (fX4_readTreaty_111 l2 l3 l4 t0 s) := by
  unfold fX4_readTreaty_111
  refine rr_istore (L2 := fun y19 => [none, some (.ref (rb 2)), some (.int l2), some (.int l3), some (.int l4), some (.int y19)]) (q := 113) rfl dX4_readTreaty_111 (Nat.le_of_ble_eq_true rfl) (fun _ => rfl) (fun y19 => ?_)
  refine rr_iload (q := 115) rfl dX4_readTreaty_113 rfl ?_
  refine rr_if_ge 120 (q := 118) rfl dX4_readTreaty_115 rfl (fun _ => ?_) (fun _ => ?_)
  · refine rr_aload_n (q := 121) rfl dX4_readTreaty_120 rfl ?_
    refine rr_iload_n (q := 122) rfl dX4_readTreaty_121 rfl ?_
    refine rr_iload_n (q := 123) rfl dX4_readTreaty_122 rfl ?_
    refine rr_iload (q := 125) rfl dX4_readTreaty_123 rfl ?_
    refine rr_iload (q := 127) rfl dX4_readTreaty_125 rfl ?_
    refine rr_cVi (q := 130) rfl V_X1_addTreaty ml_X4_93 ⟨Nat.le_of_ble_eq_true rfl, Nat.le_of_ble_eq_true rfl⟩ (e_X1_addTreaty (by decide) l2 l3 l4 y19 s) (w_realm (by decide)) rfl rfl rfl rfl (Nat.le_of_ble_eq_true rfl) dX4_readTreaty_127 (fun v20 s21 => ?_)
    refine rr_pop (q := 131) rfl dX4_readTreaty_130 rfl ?_
    refine rr_iconst 1 (q := 132) rfl dX4_readTreaty_131 rfl ?_
    exact rr_zret dX4_readTreaty_132 rfl (Or.inr rfl)
  · refine rr_iconst 0 (q := 119) rfl dX4_readTreaty_118 rfl ?_
    exact rr_zret dX4_readTreaty_119 rfl (Or.inl rfl)
def fX4_readTreaty_52 (l2 : Int32) (s : SX) : Option (Int32 × SX) :=
  bd (fX4_takeNumber 5 s) fun v7 s8 =>
  vl v7 fun y9 =>
  (if y9 < 0 then
  some (0, s8)
  else
  bd (fX4_takeWord 4 s8) fun v10 s11 =>
  (if v10 = 0 then
  some (0, s11)
  else
  bd (fX4_takeNumber 999 s11) fun v12 s13 =>
  vl v12 fun y14 =>
  (if 0 ≤ y14 then
  bd (fX4_takeWord 5 s13) fun v15 s16 =>
  (if v15 = 0 then
  fX4_readTreaty_111 l2 y9 y14 999 s16
  else
  bd (fX4_takeNumber 999 s16) fun v17 s18 =>
  fX4_readTreaty_111 l2 y9 y14 v17 s18)
  else
  some (0, s13))))
set_option maxRecDepth 100000 in
set_option maxHeartbeats 4000000 in
theorem e_X4_readTreaty_52 {G : Cf} {t : SM}  (l2 : Int32) (s : SX) : R (wfX t) inI G M_X4_readTreaty 52 [some (.ref 62), some (.ref (rb 2)), some (.int l2), none, none, none] [] s (fX4_readTreaty_52 l2 s) := by
  unfold fX4_readTreaty_52
  refine rr_aload_n (q := 53) rfl dX4_readTreaty_52 rfl ?_
  refine rr_iconst 5 (q := 54) rfl dX4_readTreaty_53 rfl ?_
  refine rr_cVi (q := 57) rfl V_X4_takeNumber ml_X4_54 ⟨Nat.le_of_ble_eq_true rfl, Nat.le_of_ble_eq_true rfl⟩ (e_X4_takeNumber 5 s) w_tape rfl rfl rfl rfl (Nat.le_of_ble_eq_true rfl) dX4_readTreaty_54 (fun v7 s8 => ?_)
  refine rr_istore_n (L2 := fun y9 => [some (.ref 62), some (.ref (rb 2)), some (.int l2), some (.int y9), none, none]) (q := 58) rfl dX4_readTreaty_57 (Nat.le_of_ble_eq_true rfl) (fun _ => rfl) (fun y9 => ?_)
  refine rr_iload_n (q := 59) rfl dX4_readTreaty_58 rfl ?_
  refine rr_if_lt 71 (q := 62) rfl dX4_readTreaty_59 rfl (fun _ => ?_) (fun _ => ?_)
  · refine rr_iconst 0 (q := 72) rfl dX4_readTreaty_71 rfl ?_
    exact rr_zret dX4_readTreaty_72 rfl (Or.inl rfl)
  · refine rr_aload_n (q := 63) rfl dX4_readTreaty_62 rfl ?_
    refine rr_ldcs 4 (q := 65) rfl dX4_readTreaty_63 ⟨rfl, rfl⟩ (by decide) ?_
    refine rr_cVi (q := 68) rfl V_X4_takeWord ml_X4_60 ⟨Nat.le_of_ble_eq_true rfl, Nat.le_of_ble_eq_true rfl⟩ (e_X4_takeWord (by decide) s8) w_tape rfl rfl rfl rfl (Nat.le_of_ble_eq_true rfl) dX4_readTreaty_65 (fun v10 s11 => ?_)
    refine rr_if_ne 73 (q := 71) rfl dX4_readTreaty_68 rfl (fun _ => ?_) (fun _ => ?_)
    · refine rr_aload_n (q := 74) rfl dX4_readTreaty_73 rfl ?_
      refine rr_sipush 999 (q := 77) rfl dX4_readTreaty_74 rfl ?_
      refine rr_cVi (q := 80) rfl V_X4_takeNumber ml_X4_54 ⟨Nat.le_of_ble_eq_true rfl, Nat.le_of_ble_eq_true rfl⟩ (e_X4_takeNumber 999 s11) w_tape rfl rfl rfl rfl (Nat.le_of_ble_eq_true rfl) dX4_readTreaty_77 (fun v12 s13 => ?_)
      refine rr_istore (L2 := fun y14 => [some (.ref 62), some (.ref (rb 2)), some (.int l2), some (.int y9), some (.int y14), none]) (q := 82) rfl dX4_readTreaty_80 (Nat.le_of_ble_eq_true rfl) (fun _ => rfl) (fun y14 => ?_)
      refine rr_iload (q := 84) rfl dX4_readTreaty_82 rfl ?_
      refine rr_if_ge 89 (q := 87) rfl dX4_readTreaty_84 rfl (fun _ => ?_) (fun _ => ?_)
      · refine rr_aload_n (q := 90) rfl dX4_readTreaty_89 rfl ?_
        refine rr_ldcs 5 (q := 92) rfl dX4_readTreaty_90 ⟨rfl, rfl⟩ (by decide) ?_
        refine rr_cVi (q := 95) rfl V_X4_takeWord ml_X4_60 ⟨Nat.le_of_ble_eq_true rfl, Nat.le_of_ble_eq_true rfl⟩ (e_X4_takeWord (by decide) s13) w_tape rfl rfl rfl rfl (Nat.le_of_ble_eq_true rfl) dX4_readTreaty_92 (fun v15 s16 => ?_)
        refine rr_if_eq 108 (q := 98) rfl dX4_readTreaty_95 rfl (fun _ => ?_) (fun _ => ?_)
        · refine rr_sipush 999 (q := 111) rfl dX4_readTreaty_108 rfl ?_
          refine rr_mask [false, true, true, true, true, false] (L' := [none, some (.ref (rb 2)), some (.int l2), some (.int y9), some (.int y14), none]) rfl ?_
          exact e_X4_readTreaty_111 l2 y9 y14 999 s16
        · refine rr_aload_n (q := 99) rfl dX4_readTreaty_98 rfl ?_
          refine rr_sipush 999 (q := 102) rfl dX4_readTreaty_99 rfl ?_
          refine rr_cVi (q := 105) rfl V_X4_takeNumber ml_X4_54 ⟨Nat.le_of_ble_eq_true rfl, Nat.le_of_ble_eq_true rfl⟩ (e_X4_takeNumber 999 s16) w_tape rfl rfl rfl rfl (Nat.le_of_ble_eq_true rfl) dX4_readTreaty_102 (fun v17 s18 => ?_)
          refine rr_goto 111 dX4_readTreaty_105 rfl ?_
          refine rr_mask [false, true, true, true, true, false] (L' := [none, some (.ref (rb 2)), some (.int l2), some (.int y9), some (.int y14), none]) rfl ?_
          exact e_X4_readTreaty_111 l2 y9 y14 v17 s18
      · refine rr_iconst 0 (q := 88) rfl dX4_readTreaty_87 rfl ?_
        exact rr_zret dX4_readTreaty_88 rfl (Or.inl rfl)
    · refine rr_iconst 0 (q := 72) rfl dX4_readTreaty_71 rfl ?_
      exact rr_zret dX4_readTreaty_72 rfl (Or.inl rfl)
def fX4_readTreaty (s : SX) : Option (Int32 × SX) :=
  (if (gX s 2 10 11) < 12 then
  bd (fX4_advance s) fun _ s1 =>
  bd (fX4_takeNumber 5 s1) fun v2 s3 =>
  vl v2 fun y4 =>
  (if y4 < 0 then
  some (0, s3)
  else
  bd (fX4_takeWord 3 s3) fun v5 s6 =>
  (if v5 = 0 then
  some (0, s6)
  else
  (if (gX s6 8 0 2) = 2 then
  (if (gX s6 8 0 5) = y4 then
  some (0, s6)
  else
  fX4_readTreaty_52 y4 s6)
  else
  fX4_readTreaty_52 y4 s6)))
  else
  some (0, s))
set_option maxRecDepth 100000 in
set_option maxHeartbeats 4000000 in
theorem e_X4_readTreaty {G : Cf} {t : SM} (s : SX) : Ct (wfX t) inI G M_X4_readTreaty [.ref 62, .ref (rb 2)] s (fX4_readTreaty s) := by
  refine Ct.of (L0 := [some (.ref 62), some (.ref (rb 2)), none, none, none, none]) 4 rfl rfl ⟨rfl, rfl⟩ (Nat.le_of_ble_eq_true rfl) rfl ?_
  unfold fX4_readTreaty
  refine rr_aload_n (q := 1) rfl dX4_readTreaty_0 rfl ?_
  refine rr_get (q := 4) rfl fl_X4_81 (w_realm (by decide)) rfl dX4_readTreaty_1 ?_
  refine rr_bipush 12 (q := 6) rfl dX4_readTreaty_4 rfl ?_
  refine rr_icmp_lt 11 (q := 9) rfl dX4_readTreaty_6 rfl (fun _ => ?_) (fun _ => ?_)
  · refine rr_aload_n (q := 12) rfl dX4_readTreaty_11 rfl ?_
    refine rr_cVu (q := 15) rfl V_X4_advance ml_X4_22 ⟨Nat.le_of_ble_eq_true rfl, Nat.le_of_ble_eq_true rfl⟩ (e_X4_advance s) w_tape rfl rfl rfl rfl (Nat.le_of_ble_eq_true rfl) dX4_readTreaty_12 (fun _ s1 => ?_)
    refine rr_aload_n (q := 16) rfl dX4_readTreaty_15 rfl ?_
    refine rr_iconst 5 (q := 17) rfl dX4_readTreaty_16 rfl ?_
    refine rr_cVi (q := 20) rfl V_X4_takeNumber ml_X4_54 ⟨Nat.le_of_ble_eq_true rfl, Nat.le_of_ble_eq_true rfl⟩ (e_X4_takeNumber 5 s1) w_tape rfl rfl rfl rfl (Nat.le_of_ble_eq_true rfl) dX4_readTreaty_17 (fun v2 s3 => ?_)
    refine rr_istore_n (L2 := fun y4 => [some (.ref 62), some (.ref (rb 2)), some (.int y4), none, none, none]) (q := 21) rfl dX4_readTreaty_20 (Nat.le_of_ble_eq_true rfl) (fun _ => rfl) (fun y4 => ?_)
    refine rr_iload_n (q := 22) rfl dX4_readTreaty_21 rfl ?_
    refine rr_if_lt 50 (q := 25) rfl dX4_readTreaty_22 rfl (fun _ => ?_) (fun _ => ?_)
    · refine rr_iconst 0 (q := 51) rfl dX4_readTreaty_50 rfl ?_
      exact rr_zret dX4_readTreaty_51 rfl (Or.inl rfl)
    · refine rr_aload_n (q := 26) rfl dX4_readTreaty_25 rfl ?_
      refine rr_ldcs 3 (q := 28) rfl dX4_readTreaty_26 ⟨rfl, rfl⟩ (by decide) ?_
      refine rr_cVi (q := 31) rfl V_X4_takeWord ml_X4_60 ⟨Nat.le_of_ble_eq_true rfl, Nat.le_of_ble_eq_true rfl⟩ (e_X4_takeWord (by decide) s3) w_tape rfl rfl rfl rfl (Nat.le_of_ble_eq_true rfl) dX4_readTreaty_28 (fun v5 s6 => ?_)
      refine rr_if_eq 50 (q := 34) rfl dX4_readTreaty_31 rfl (fun _ => ?_) (fun _ => ?_)
      · refine rr_iconst 0 (q := 51) rfl dX4_readTreaty_50 rfl ?_
        exact rr_zret dX4_readTreaty_51 rfl (Or.inl rfl)
      · refine rr_aload_n (q := 35) rfl dX4_readTreaty_34 rfl ?_
        refine rr_get (q := 38) rfl fl_X4_29 w_tape rfl dX4_readTreaty_35 ?_
        refine rr_iconst 2 (q := 39) rfl dX4_readTreaty_38 rfl ?_
        refine rr_icmp_ne 52 (q := 42) rfl dX4_readTreaty_39 rfl (fun _ => ?_) (fun _ => ?_)
        · exact e_X4_readTreaty_52 y4 s6
        · refine rr_aload_n (q := 43) rfl dX4_readTreaty_42 rfl ?_
          refine rr_get (q := 46) rfl fl_X4_86 w_tape rfl dX4_readTreaty_43 ?_
          refine rr_iload_n (q := 47) rfl dX4_readTreaty_46 rfl ?_
          refine rr_icmp_ne 52 (q := 50) rfl dX4_readTreaty_47 rfl (fun _ => ?_) (fun _ => ?_)
          · exact e_X4_readTreaty_52 y4 s6
          · refine rr_iconst 0 (q := 51) rfl dX4_readTreaty_50 rfl ?_
            exact rr_zret dX4_readTreaty_51 rfl (Or.inl rfl)
  · refine rr_iconst 0 (q := 10) rfl dX4_readTreaty_9 rfl ?_
    exact rr_zret dX4_readTreaty_10 rfl (Or.inl rfl)
def fX4_nameOfKind (l0 : Int32) (s : SX) : Option (Nat × SX) :=
  (if l0 = 1 then
  some (6, s)
  else
  (if l0 = 2 then
  some (7, s)
  else
  (if l0 = 3 then
  some (8, s)
  else
  (if l0 = 4 then
  some (9, s)
  else
  (if l0 = 5 then
  some (10, s)
  else
  some (11, s))))))
set_option maxRecDepth 100000 in
set_option maxHeartbeats 4000000 in
theorem e_X4_nameOfKind {G : Cf} {t : SM} (l0 : Int32) (s : SX) : Ct (wfX t) inS G M_X4_nameOfKind [.int l0] s (fX4_nameOfKind l0 s) := by
  refine Ct.of (L0 := [some (.int l0)]) 0 rfl rfl ⟨rfl, rfl⟩ (Nat.le_of_ble_eq_true rfl) rfl ?_
  unfold fX4_nameOfKind
  refine rr_iload_n (q := 1) rfl dX4_nameOfKind_0 rfl ?_
  refine rr_case 1 ?_ (fun hs1 => ?_)
  · refine rr_tableIn 36 dX4_nameOfKind_1 (by decide) (by decide) rfl rfl ?_
    refine rr_ldcs 6 (q := 38) rfl dX4_nameOfKind_36 ⟨rfl, rfl⟩ (by decide) ?_
    exact rr_sret dX4_nameOfKind_38 rfl
  · refine rr_case 2 ?_ (fun hs2 => ?_)
    · refine rr_tableIn 39 dX4_nameOfKind_1 (by decide) (by decide) rfl rfl ?_
      refine rr_ldcs 7 (q := 41) rfl dX4_nameOfKind_39 ⟨rfl, rfl⟩ (by decide) ?_
      exact rr_sret dX4_nameOfKind_41 rfl
    · refine rr_case 3 ?_ (fun hs3 => ?_)
      · refine rr_tableIn 42 dX4_nameOfKind_1 (by decide) (by decide) rfl rfl ?_
        refine rr_ldcs 8 (q := 44) rfl dX4_nameOfKind_42 ⟨rfl, rfl⟩ (by decide) ?_
        exact rr_sret dX4_nameOfKind_44 rfl
      · refine rr_case 4 ?_ (fun hs4 => ?_)
        · refine rr_tableIn 45 dX4_nameOfKind_1 (by decide) (by decide) rfl rfl ?_
          refine rr_ldcs 9 (q := 47) rfl dX4_nameOfKind_45 ⟨rfl, rfl⟩ (by decide) ?_
          exact rr_sret dX4_nameOfKind_47 rfl
        · refine rr_case 5 ?_ (fun hs5 => ?_)
          · refine rr_tableIn 48 dX4_nameOfKind_1 (by decide) (by decide) rfl rfl ?_
            refine rr_ldcs 10 (q := 50) rfl dX4_nameOfKind_48 ⟨rfl, rfl⟩ (by decide) ?_
            exact rr_sret dX4_nameOfKind_50 rfl
          · refine rr_tableOut 51 dX4_nameOfKind_1 (by have ahs1 := ne_lit (n := 1) hs1 rfl; have ahs2 := ne_lit (n := 2) hs2 rfl; have ahs3 := ne_lit (n := 3) hs3 rfl; have ahs4 := ne_lit (n := 4) hs4 rfl; have ahs5 := ne_lit (n := 5) hs5 rfl; omega) rfl ?_
            refine rr_ldcs 11 (q := 53) rfl dX4_nameOfKind_51 ⟨rfl, rfl⟩ (by decide) ?_
            exact rr_sret dX4_nameOfKind_53 rfl
def fX4_readChild_85 (l2 : Int32) (l3 : Int32) (l4 : Int32) (t0 : Int32) (s : SX) : Option (Int32 × SX) :=
  vl t0 fun y16 =>
  (if 0 ≤ y16 then
  bd (fX1_addChild 2 l2 l3 l4 y16 s) fun v17 s18 =>
  some (1, s18)
  else
  some (0, s))
set_option maxRecDepth 100000 in
set_option maxHeartbeats 4000000 in
theorem e_X4_readChild_85 {G : Cf} {t : SM}  (l2 : Int32) (l3 : Int32) (l4 : Int32) (t0 : Int32) (s : SX) : R (wfX t) inI G M_X4_readChild 85 [none, some (.ref (rb 2)), some (.int l2), some (.int l3), some (.int l4), none] [.int t0] s (fX4_readChild_85 l2 l3 l4 t0 s) := by
  unfold fX4_readChild_85
  refine rr_istore (L2 := fun y16 => [none, some (.ref (rb 2)), some (.int l2), some (.int l3), some (.int l4), some (.int y16)]) (q := 87) rfl dX4_readChild_85 (Nat.le_of_ble_eq_true rfl) (fun _ => rfl) (fun y16 => ?_)
  refine rr_iload (q := 89) rfl dX4_readChild_87 rfl ?_
  refine rr_if_ge 94 (q := 92) rfl dX4_readChild_89 rfl (fun _ => ?_) (fun _ => ?_)
  · refine rr_aload_n (q := 95) rfl dX4_readChild_94 rfl ?_
    refine rr_iload_n (q := 96) rfl dX4_readChild_95 rfl ?_
    refine rr_iload_n (q := 97) rfl dX4_readChild_96 rfl ?_
    refine rr_iload (q := 99) rfl dX4_readChild_97 rfl ?_
    refine rr_iload (q := 101) rfl dX4_readChild_99 rfl ?_
    refine rr_cVi (q := 104) rfl V_X1_addChild ml_X4_77 ⟨Nat.le_of_ble_eq_true rfl, Nat.le_of_ble_eq_true rfl⟩ (e_X1_addChild (by decide) l2 l3 l4 y16 s) (w_realm (by decide)) rfl rfl rfl rfl (Nat.le_of_ble_eq_true rfl) dX4_readChild_101 (fun v17 s18 => ?_)
    refine rr_pop (q := 105) rfl dX4_readChild_104 rfl ?_
    refine rr_iconst 1 (q := 106) rfl dX4_readChild_105 rfl ?_
    exact rr_zret dX4_readChild_106 rfl (Or.inr rfl)
  · refine rr_iconst 0 (q := 93) rfl dX4_readChild_92 rfl ?_
    exact rr_zret dX4_readChild_93 rfl (Or.inl rfl)
def fX4_readChild_56 (l2 : Int32) (l3 : Int32) (t0 : Int32) (s : SX) : Option (Int32 × SX) :=
  vl t0 fun y11 =>
  (if 0 ≤ y11 then
  bd (fX4_takeWord 14 s) fun v12 s13 =>
  (if v12 = 0 then
  fX4_readChild_85 l2 l3 y11 10 s13
  else
  bd (fX4_takeNumber 99 s13) fun v14 s15 =>
  fX4_readChild_85 l2 l3 y11 v14 s15)
  else
  some (0, s))
set_option maxRecDepth 100000 in
set_option maxHeartbeats 4000000 in
theorem e_X4_readChild_56 {G : Cf} {t : SM}  (l2 : Int32) (l3 : Int32) (t0 : Int32) (s : SX) : R (wfX t) inI G M_X4_readChild 56 [some (.ref 62), some (.ref (rb 2)), some (.int l2), some (.int l3), none, none] [.int t0] s (fX4_readChild_56 l2 l3 t0 s) := by
  unfold fX4_readChild_56
  refine rr_istore (L2 := fun y11 => [some (.ref 62), some (.ref (rb 2)), some (.int l2), some (.int l3), some (.int y11), none]) (q := 58) rfl dX4_readChild_56 (Nat.le_of_ble_eq_true rfl) (fun _ => rfl) (fun y11 => ?_)
  refine rr_iload (q := 60) rfl dX4_readChild_58 rfl ?_
  refine rr_if_ge 65 (q := 63) rfl dX4_readChild_60 rfl (fun _ => ?_) (fun _ => ?_)
  · refine rr_aload_n (q := 66) rfl dX4_readChild_65 rfl ?_
    refine rr_ldcs 14 (q := 68) rfl dX4_readChild_66 ⟨rfl, rfl⟩ (by decide) ?_
    refine rr_cVi (q := 71) rfl V_X4_takeWord ml_X4_60 ⟨Nat.le_of_ble_eq_true rfl, Nat.le_of_ble_eq_true rfl⟩ (e_X4_takeWord (by decide) s) w_tape rfl rfl rfl rfl (Nat.le_of_ble_eq_true rfl) dX4_readChild_68 (fun v12 s13 => ?_)
    refine rr_if_eq 83 (q := 74) rfl dX4_readChild_71 rfl (fun _ => ?_) (fun _ => ?_)
    · refine rr_bipush 10 (q := 85) rfl dX4_readChild_83 rfl ?_
      refine rr_mask [false, true, true, true, true, false] (L' := [none, some (.ref (rb 2)), some (.int l2), some (.int l3), some (.int y11), none]) rfl ?_
      exact e_X4_readChild_85 l2 l3 y11 10 s13
    · refine rr_aload_n (q := 75) rfl dX4_readChild_74 rfl ?_
      refine rr_bipush 99 (q := 77) rfl dX4_readChild_75 rfl ?_
      refine rr_cVi (q := 80) rfl V_X4_takeNumber ml_X4_54 ⟨Nat.le_of_ble_eq_true rfl, Nat.le_of_ble_eq_true rfl⟩ (e_X4_takeNumber 99 s13) w_tape rfl rfl rfl rfl (Nat.le_of_ble_eq_true rfl) dX4_readChild_77 (fun v14 s15 => ?_)
      refine rr_goto 85 dX4_readChild_80 rfl ?_
      refine rr_mask [false, true, true, true, true, false] (L' := [none, some (.ref (rb 2)), some (.int l2), some (.int l3), some (.int y11), none]) rfl ?_
      exact e_X4_readChild_85 l2 l3 y11 v14 s15
  · refine rr_iconst 0 (q := 64) rfl dX4_readChild_63 rfl ?_
    exact rr_zret dX4_readChild_64 rfl (Or.inl rfl)
def fX4_readChild (l2 : Int32) (s : SX) : Option (Int32 × SX) :=
  (if (gX s 2 10 10) < 14 then
  bd (fX4_advance s) fun _ s1 =>
  bd (fX4_takeWord 12 s1) fun v2 s3 =>
  (if v2 = 0 then
  some (0, s3)
  else
  bd (fX4_takeNumber 5 s3) fun v4 s5 =>
  vl v4 fun y6 =>
  (if 0 ≤ y6 then
  bd (fX4_takeWord 13 s5) fun v7 s8 =>
  (if v7 = 0 then
  fX4_readChild_56 l2 y6 y6 s8
  else
  bd (fX4_takeNumber 5 s8) fun v9 s10 =>
  fX4_readChild_56 l2 y6 v9 s10)
  else
  some (0, s5)))
  else
  some (0, s))
set_option maxRecDepth 100000 in
set_option maxHeartbeats 4000000 in
theorem e_X4_readChild {G : Cf} {t : SM} (l2 : Int32) (s : SX) : Ct (wfX t) inI G M_X4_readChild [.ref 62, .ref (rb 2), .int l2] s (fX4_readChild l2 s) := by
  refine Ct.of (L0 := [some (.ref 62), some (.ref (rb 2)), some (.int l2), none, none, none]) 3 rfl rfl ⟨rfl, rfl⟩ (Nat.le_of_ble_eq_true rfl) rfl ?_
  unfold fX4_readChild
  refine rr_aload_n (q := 1) rfl dX4_readChild_0 rfl ?_
  refine rr_get (q := 4) rfl fl_X4_68 (w_realm (by decide)) rfl dX4_readChild_1 ?_
  refine rr_bipush 14 (q := 6) rfl dX4_readChild_4 rfl ?_
  refine rr_icmp_lt 11 (q := 9) rfl dX4_readChild_6 rfl (fun _ => ?_) (fun _ => ?_)
  · refine rr_aload_n (q := 12) rfl dX4_readChild_11 rfl ?_
    refine rr_cVu (q := 15) rfl V_X4_advance ml_X4_22 ⟨Nat.le_of_ble_eq_true rfl, Nat.le_of_ble_eq_true rfl⟩ (e_X4_advance s) w_tape rfl rfl rfl rfl (Nat.le_of_ble_eq_true rfl) dX4_readChild_12 (fun _ s1 => ?_)
    refine rr_aload_n (q := 16) rfl dX4_readChild_15 rfl ?_
    refine rr_ldcs 12 (q := 18) rfl dX4_readChild_16 ⟨rfl, rfl⟩ (by decide) ?_
    refine rr_cVi (q := 21) rfl V_X4_takeWord ml_X4_60 ⟨Nat.le_of_ble_eq_true rfl, Nat.le_of_ble_eq_true rfl⟩ (e_X4_takeWord (by decide) s1) w_tape rfl rfl rfl rfl (Nat.le_of_ble_eq_true rfl) dX4_readChild_18 (fun v2 s3 => ?_)
    refine rr_if_ne 26 (q := 24) rfl dX4_readChild_21 rfl (fun _ => ?_) (fun _ => ?_)
    · refine rr_aload_n (q := 27) rfl dX4_readChild_26 rfl ?_
      refine rr_iconst 5 (q := 28) rfl dX4_readChild_27 rfl ?_
      refine rr_cVi (q := 31) rfl V_X4_takeNumber ml_X4_54 ⟨Nat.le_of_ble_eq_true rfl, Nat.le_of_ble_eq_true rfl⟩ (e_X4_takeNumber 5 s3) w_tape rfl rfl rfl rfl (Nat.le_of_ble_eq_true rfl) dX4_readChild_28 (fun v4 s5 => ?_)
      refine rr_istore_n (L2 := fun y6 => [some (.ref 62), some (.ref (rb 2)), some (.int l2), some (.int y6), none, none]) (q := 32) rfl dX4_readChild_31 (Nat.le_of_ble_eq_true rfl) (fun _ => rfl) (fun y6 => ?_)
      refine rr_iload_n (q := 33) rfl dX4_readChild_32 rfl ?_
      refine rr_if_ge 38 (q := 36) rfl dX4_readChild_33 rfl (fun _ => ?_) (fun _ => ?_)
      · refine rr_aload_n (q := 39) rfl dX4_readChild_38 rfl ?_
        refine rr_ldcs 13 (q := 41) rfl dX4_readChild_39 ⟨rfl, rfl⟩ (by decide) ?_
        refine rr_cVi (q := 44) rfl V_X4_takeWord ml_X4_60 ⟨Nat.le_of_ble_eq_true rfl, Nat.le_of_ble_eq_true rfl⟩ (e_X4_takeWord (by decide) s5) w_tape rfl rfl rfl rfl (Nat.le_of_ble_eq_true rfl) dX4_readChild_41 (fun v7 s8 => ?_)
        refine rr_if_eq 55 (q := 47) rfl dX4_readChild_44 rfl (fun _ => ?_) (fun _ => ?_)
        · refine rr_iload_n (q := 56) rfl dX4_readChild_55 rfl ?_
          exact e_X4_readChild_56 l2 y6 y6 s8
        · refine rr_aload_n (q := 48) rfl dX4_readChild_47 rfl ?_
          refine rr_iconst 5 (q := 49) rfl dX4_readChild_48 rfl ?_
          refine rr_cVi (q := 52) rfl V_X4_takeNumber ml_X4_54 ⟨Nat.le_of_ble_eq_true rfl, Nat.le_of_ble_eq_true rfl⟩ (e_X4_takeNumber 5 s8) w_tape rfl rfl rfl rfl (Nat.le_of_ble_eq_true rfl) dX4_readChild_49 (fun v9 s10 => ?_)
          refine rr_goto 56 dX4_readChild_52 rfl ?_
          exact e_X4_readChild_56 l2 y6 v9 s10
      · refine rr_iconst 0 (q := 37) rfl dX4_readChild_36 rfl ?_
        exact rr_zret dX4_readChild_37 rfl (Or.inl rfl)
    · refine rr_iconst 0 (q := 25) rfl dX4_readChild_24 rfl ?_
      exact rr_zret dX4_readChild_25 rfl (Or.inl rfl)
  · refine rr_iconst 0 (q := 10) rfl dX4_readChild_9 rfl ?_
    exact rr_zret dX4_readChild_10 rfl (Or.inl rfl)
def fX4_readItem_32b (k32 : Int32 → SX → Option (Int32 × SX)) (l2 : Int32) (s : SX) : Option (Int32 × SX) :=
  (if 6 ≤ l2 then
  some (0, s)
  else
  bd (fX4_nameOfKind l2 s) fun v10 s11 =>
  gd (v10 < 15) <|
  bd (fX4_isWord v10 s11) fun v12 s13 =>
  (if v12 = 0 then
  vl (l2 + 1) fun y14 =>
  k32 y14 s13
  else
  bd (fX4_readChild l2 s13) fun v15 s16 =>
  gd (v15 = 0 ∨ v15 = 1) (some (v15, s16))))
set_option maxRecDepth 100000 in
set_option maxHeartbeats 4000000 in
theorem e_X4_readItem_32b {G : Cf} {t : SM} {k32 : Int32 → SX → Option (Int32 × SX)} (hk32 : ∀ (l2 : Int32) (s : SX), R (wfX t) inI G M_X4_readItem 32 [some (.ref 62), some (.ref (rb 2)), some (.int l2)] [] s (k32 l2 s)) (l2 : Int32) (s : SX) : R (wfX t) inI G M_X4_readItem 32 [some (.ref 62), some (.ref (rb 2)), some (.int l2)] [] s (fX4_readItem_32b k32 l2 s) := by
  unfold fX4_readItem_32b
  refine rr_iload_n (q := 33) rfl dX4_readItem_32 rfl ?_
  refine rr_bipush 6 (q := 35) rfl dX4_readItem_33 rfl ?_
  refine rr_icmp_ge 62 (q := 38) rfl dX4_readItem_35 rfl (fun _ => ?_) (fun _ => ?_)
  · refine rr_iconst 0 (q := 63) rfl dX4_readItem_62 rfl ?_
    exact rr_zret dX4_readItem_63 rfl (Or.inl rfl)
  · refine rr_aload_n (q := 39) rfl dX4_readItem_38 rfl ?_
    refine rr_iload_n (q := 40) rfl dX4_readItem_39 rfl ?_
    refine rr_cSs (q := 43) rfl V_X4_nameOfKind ml_X4_46 ⟨Nat.le_of_ble_eq_true rfl, Nat.le_of_ble_eq_true rfl⟩ (e_X4_nameOfKind l2 s) rfl rfl (Nat.le_of_ble_eq_true rfl) dX4_readItem_40 (fun v10 s11 => ?_)
    refine rr_gd (fun hv10 => ?_)
    refine rr_cVi (q := 46) rfl V_X4_isWord ml_X4_34 ⟨Nat.le_of_ble_eq_true rfl, Nat.le_of_ble_eq_true rfl⟩ (e_X4_isWord hv10 s11) w_tape rfl rfl rfl rfl (Nat.le_of_ble_eq_true rfl) dX4_readItem_43 (fun v12 s13 => ?_)
    refine rr_if_eq 56 (q := 49) rfl dX4_readItem_46 rfl (fun _ => ?_) (fun _ => ?_)
    · refine rr_iinc (L2 := fun y14 => [some (.ref 62), some (.ref (rb 2)), some (.int y14)]) (q := 59) rfl dX4_readItem_56 rfl rfl (Nat.le_of_ble_eq_true rfl) (fun _ => rfl) (fun y14 => ?_)
      refine rr_goto 32 dX4_readItem_59 rfl ?_
      exact hk32 y14 s13
    · refine rr_aload_n (q := 50) rfl dX4_readItem_49 rfl ?_
      refine rr_aload_n (q := 51) rfl dX4_readItem_50 rfl ?_
      refine rr_iload_n (q := 52) rfl dX4_readItem_51 rfl ?_
      refine rr_cVi (q := 55) rfl V_X4_readChild ml_X4_50 ⟨Nat.le_of_ble_eq_true rfl, Nat.le_of_ble_eq_true rfl⟩ (e_X4_readChild l2 s13) w_tape rfl rfl rfl rfl (Nat.le_of_ble_eq_true rfl) dX4_readItem_52 (fun v15 s16 => ?_)
      exact rr_gd (fun hb => rr_zret dX4_readItem_55 rfl hb)
def fX4_readItem_32 : Nat → Int32 → SX → Option (Int32 × SX) := lp (fun _ _ => none) (fX4_readItem_32b)
theorem e_X4_readItem_32 {G : Cf} {t : SM}  (n : Nat) : ∀ (l2 : Int32) (s : SX), R (wfX t) inI G M_X4_readItem 32 [some (.ref 62), some (.ref (rb 2)), some (.int l2)] [] s (fX4_readItem_32 n l2 s) := by
  unfold fX4_readItem_32
  exact rr_lp (P := fun (kz : Int32 → SX → Option (Int32 × SX)) => ∀ (l2 : Int32) (s : SX), R (wfX t) inI G M_X4_readItem 32 [some (.ref 62), some (.ref (rb 2)), some (.int l2)] [] s (kz l2 s)) (fun _ _ => rr_none) (fun kz hkz => fun l2 s => e_X4_readItem_32b hkz l2 s) n
def fX4_readItem (s : SX) : Option (Int32 × SX) :=
  bd (fX4_isWord 0 s) fun v1 s2 =>
  (if v1 = 0 then
  bd (fX4_isWord 2 s2) fun v3 s4 =>
  (if v3 = 0 then
  vl 0 fun y5 =>
  fX4_readItem_32 400 y5 s4
  else
  bd (fX4_readTreaty s4) fun v6 s7 =>
  gd (v6 = 0 ∨ v6 = 1) (some (v6, s7)))
  else
  bd (fX4_readFear s2) fun v8 s9 =>
  gd (v8 = 0 ∨ v8 = 1) (some (v8, s9)))
set_option maxRecDepth 100000 in
set_option maxHeartbeats 4000000 in
theorem e_X4_readItem {G : Cf} {t : SM} (s : SX) : Ct (wfX t) inI G M_X4_readItem [.ref 62, .ref (rb 2)] s (fX4_readItem s) := by
  refine Ct.of (L0 := [some (.ref 62), some (.ref (rb 2)), none]) 1 rfl rfl ⟨rfl, rfl⟩ (Nat.le_of_ble_eq_true rfl) rfl ?_
  unfold fX4_readItem
  refine rr_aload_n (q := 1) rfl dX4_readItem_0 rfl ?_
  refine rr_ldcs 0 (q := 3) rfl dX4_readItem_1 ⟨rfl, rfl⟩ (by decide) ?_
  refine rr_cVi (q := 6) rfl V_X4_isWord ml_X4_34 ⟨Nat.le_of_ble_eq_true rfl, Nat.le_of_ble_eq_true rfl⟩ (e_X4_isWord (by decide) s) w_tape rfl rfl rfl rfl (Nat.le_of_ble_eq_true rfl) dX4_readItem_3 (fun v1 s2 => ?_)
  refine rr_if_eq 15 (q := 9) rfl dX4_readItem_6 rfl (fun _ => ?_) (fun _ => ?_)
  · refine rr_aload_n (q := 16) rfl dX4_readItem_15 rfl ?_
    refine rr_ldcs 2 (q := 18) rfl dX4_readItem_16 ⟨rfl, rfl⟩ (by decide) ?_
    refine rr_cVi (q := 21) rfl V_X4_isWord ml_X4_34 ⟨Nat.le_of_ble_eq_true rfl, Nat.le_of_ble_eq_true rfl⟩ (e_X4_isWord (by decide) s2) w_tape rfl rfl rfl rfl (Nat.le_of_ble_eq_true rfl) dX4_readItem_18 (fun v3 s4 => ?_)
    refine rr_if_eq 30 (q := 24) rfl dX4_readItem_21 rfl (fun _ => ?_) (fun _ => ?_)
    · refine rr_iconst 0 (q := 31) rfl dX4_readItem_30 rfl ?_
      refine rr_istore_n (L2 := fun y5 => [some (.ref 62), some (.ref (rb 2)), some (.int y5)]) (q := 32) rfl dX4_readItem_31 (Nat.le_of_ble_eq_true rfl) (fun _ => rfl) (fun y5 => ?_)
      exact e_X4_readItem_32 400 y5 s4
    · refine rr_aload_n (q := 25) rfl dX4_readItem_24 rfl ?_
      refine rr_aload_n (q := 26) rfl dX4_readItem_25 rfl ?_
      refine rr_cVi (q := 29) rfl V_X4_readTreaty ml_X4_43 ⟨Nat.le_of_ble_eq_true rfl, Nat.le_of_ble_eq_true rfl⟩ (e_X4_readTreaty s4) w_tape rfl rfl rfl rfl (Nat.le_of_ble_eq_true rfl) dX4_readItem_26 (fun v6 s7 => ?_)
      exact rr_gd (fun hb => rr_zret dX4_readItem_29 rfl hb)
  · refine rr_aload_n (q := 10) rfl dX4_readItem_9 rfl ?_
    refine rr_aload_n (q := 11) rfl dX4_readItem_10 rfl ?_
    refine rr_cVi (q := 14) rfl V_X4_readFear ml_X4_38 ⟨Nat.le_of_ble_eq_true rfl, Nat.le_of_ble_eq_true rfl⟩ (e_X4_readFear s2) w_tape rfl rfl rfl rfl (Nat.le_of_ble_eq_true rfl) dX4_readItem_11 (fun v8 s9 => ?_)
    exact rr_gd (fun hb => rr_zret dX4_readItem_14 rfl hb)
def fX4_readInto_11b (k11 : Int32 → SX → Option (Int32 × SX)) (l2 : Int32) (s : SX) : Option (Int32 × SX) :=
  (if 120 < l2 then
  some ((-1), s)
  else
  bd (fX4_readItem s) fun v4 s5 =>
  (if v4 = 0 then
  some ((-1), s5)
  else
  (if (gX s5 8 0 2) = 0 then
  some (l2, s5)
  else
  (if (gX s5 8 0 2) = 3 then
  bd (fX4_advance s5) fun _ s6 =>
  vl (l2 + 1) fun y7 =>
  k11 y7 s6
  else
  some ((-1), s5)))))
set_option maxRecDepth 100000 in
set_option maxHeartbeats 4000000 in
theorem e_X4_readInto_11b {G : Cf} {t : SM} {k11 : Int32 → SX → Option (Int32 × SX)} (hk11 : ∀ (l2 : Int32) (s : SX), R (wfX t) inI G M_X4_readInto 11 [some (.ref 62), some (.ref (rb 2)), some (.int l2)] [] s (k11 l2 s)) (l2 : Int32) (s : SX) : R (wfX t) inI G M_X4_readInto 11 [some (.ref 62), some (.ref (rb 2)), some (.int l2)] [] s (fX4_readInto_11b k11 l2 s) := by
  unfold fX4_readInto_11b
  refine rr_iload_n (q := 12) rfl dX4_readInto_11 rfl ?_
  refine rr_bipush 120 (q := 14) rfl dX4_readInto_12 rfl ?_
  refine rr_icmp_gt 56 (q := 17) rfl dX4_readInto_14 rfl (fun _ => ?_) (fun _ => ?_)
  · refine rr_iconst (-1) (q := 57) rfl dX4_readInto_56 rfl ?_
    exact rr_iret dX4_readInto_57 rfl
  · refine rr_aload_n (q := 18) rfl dX4_readInto_17 rfl ?_
    refine rr_aload_n (q := 19) rfl dX4_readInto_18 rfl ?_
    refine rr_cVi (q := 22) rfl V_X4_readItem ml_X4_25 ⟨Nat.le_of_ble_eq_true rfl, Nat.le_of_ble_eq_true rfl⟩ (e_X4_readItem s) w_tape rfl rfl rfl rfl (Nat.le_of_ble_eq_true rfl) dX4_readInto_19 (fun v4 s5 => ?_)
    refine rr_if_ne 27 (q := 25) rfl dX4_readInto_22 rfl (fun _ => ?_) (fun _ => ?_)
    · refine rr_aload_n (q := 28) rfl dX4_readInto_27 rfl ?_
      refine rr_get (q := 31) rfl fl_X4_29 w_tape rfl dX4_readInto_28 ?_
      refine rr_if_ne 36 (q := 34) rfl dX4_readInto_31 rfl (fun _ => ?_) (fun _ => ?_)
      · refine rr_aload_n (q := 37) rfl dX4_readInto_36 rfl ?_
        refine rr_get (q := 40) rfl fl_X4_29 w_tape rfl dX4_readInto_37 ?_
        refine rr_iconst 3 (q := 41) rfl dX4_readInto_40 rfl ?_
        refine rr_icmp_eq 46 (q := 44) rfl dX4_readInto_41 rfl (fun _ => ?_) (fun _ => ?_)
        · refine rr_aload_n (q := 47) rfl dX4_readInto_46 rfl ?_
          refine rr_cVu (q := 50) rfl V_X4_advance ml_X4_22 ⟨Nat.le_of_ble_eq_true rfl, Nat.le_of_ble_eq_true rfl⟩ (e_X4_advance s5) w_tape rfl rfl rfl rfl (Nat.le_of_ble_eq_true rfl) dX4_readInto_47 (fun _ s6 => ?_)
          refine rr_iinc (L2 := fun y7 => [some (.ref 62), some (.ref (rb 2)), some (.int y7)]) (q := 53) rfl dX4_readInto_50 rfl rfl (Nat.le_of_ble_eq_true rfl) (fun _ => rfl) (fun y7 => ?_)
          refine rr_goto 11 dX4_readInto_53 rfl ?_
          exact hk11 y7 s6
        · refine rr_iconst (-1) (q := 45) rfl dX4_readInto_44 rfl ?_
          exact rr_iret dX4_readInto_45 rfl
      · refine rr_iload_n (q := 35) rfl dX4_readInto_34 rfl ?_
        exact rr_iret dX4_readInto_35 rfl
    · refine rr_iconst (-1) (q := 26) rfl dX4_readInto_25 rfl ?_
      exact rr_iret dX4_readInto_26 rfl
def fX4_readInto_11 : Nat → Int32 → SX → Option (Int32 × SX) := lp (fun _ _ => none) (fX4_readInto_11b)
theorem e_X4_readInto_11 {G : Cf} {t : SM}  (n : Nat) : ∀ (l2 : Int32) (s : SX), R (wfX t) inI G M_X4_readInto 11 [some (.ref 62), some (.ref (rb 2)), some (.int l2)] [] s (fX4_readInto_11 n l2 s) := by
  unfold fX4_readInto_11
  exact rr_lp (P := fun (kz : Int32 → SX → Option (Int32 × SX)) => ∀ (l2 : Int32) (s : SX), R (wfX t) inI G M_X4_readInto 11 [some (.ref 62), some (.ref (rb 2)), some (.int l2)] [] s (kz l2 s)) (fun _ _ => rr_none) (fun kz hkz => fun l2 s => e_X4_readInto_11b hkz l2 s) n
def fX4_readInto (s : SX) : Option (Int32 × SX) :=
  vl (wX s 8 0 4 0) fun s1 =>
  bd (fX4_advance s1) fun _ s2 =>
  vl 1 fun y3 =>
  fX4_readInto_11 400 y3 s2
set_option maxRecDepth 100000 in
set_option maxHeartbeats 4000000 in
theorem e_X4_readInto {G : Cf} {t : SM} (s : SX) : Ct (wfX t) inI G M_X4_readInto [.ref 62, .ref (rb 2)] s (fX4_readInto s) := by
  refine Ct.of (L0 := [some (.ref 62), some (.ref (rb 2)), none]) 1 rfl rfl ⟨rfl, rfl⟩ (Nat.le_of_ble_eq_true rfl) rfl ?_
  unfold fX4_readInto
  refine rr_aload_n (q := 1) rfl dX4_readInto_0 rfl ?_
  refine rr_iconst 0 (q := 2) rfl dX4_readInto_1 rfl ?_
  refine rr_puti (q := 5) rfl fl_X4_19 fp_X4_4 w_tape (Nat.le_of_ble_eq_true rfl) u_tape4 dX4_readInto_2 (fun s1 => ?_)
  refine rr_aload_n (q := 6) rfl dX4_readInto_5 rfl ?_
  refine rr_cVu (q := 9) rfl V_X4_advance ml_X4_22 ⟨Nat.le_of_ble_eq_true rfl, Nat.le_of_ble_eq_true rfl⟩ (e_X4_advance s1) w_tape rfl rfl rfl rfl (Nat.le_of_ble_eq_true rfl) dX4_readInto_6 (fun _ s2 => ?_)
  refine rr_iconst 1 (q := 10) rfl dX4_readInto_9 rfl ?_
  refine rr_istore_n (L2 := fun y3 => [some (.ref 62), some (.ref (rb 2)), some (.int y3)]) (q := 11) rfl dX4_readInto_10 (Nat.le_of_ble_eq_true rfl) (fun _ => rfl) (fun y3 => ?_)
  exact e_X4_readInto_11 400 y3 s2
def fX5_feed_40b (k40 : Int32 → Int32 → SX → Option (Int32 × SX)) (l1 : Int32) (l3 : Int32) (s : SX) : Option (Int32 × SX) :=
  (if l3 < 0 then
  some (gX s 8 0 1, s)
  else
  bd (fX4_add (((l1.toUInt32 >>> (Int32.toUInt32 (8 * l3) &&& Int32.toUInt32 31)).toInt32) &&& 255) s) fun _ s8 =>
  vl (l3 + (-1)) fun y9 =>
  k40 l1 y9 s8)
set_option maxRecDepth 100000 in
set_option maxHeartbeats 4000000 in
theorem e_X5_feed_40b {G : Cf} {t : SM} {k40 : Int32 → Int32 → SX → Option (Int32 × SX)} (hk40 : ∀ (l1 : Int32) (l3 : Int32) (s : SX), R (wfX t) inI G M_X5_feed 40 [some (.ref 0), some (.int l1), none, some (.int l3)] [] s (k40 l1 l3 s)) (l1 : Int32) (l3 : Int32) (s : SX) : R (wfX t) inI G M_X5_feed 40 [some (.ref 0), some (.int l1), none, some (.int l3)] [] s (fX5_feed_40b k40 l1 l3 s) := by
  unfold fX5_feed_40b
  refine rr_iload_n (q := 41) rfl dX5_feed_40 rfl ?_
  refine rr_if_lt 67 (q := 44) rfl dX5_feed_41 rfl (fun _ => ?_) (fun _ => ?_)
  · refine rr_aload_n (q := 68) rfl dX5_feed_67 rfl ?_
    refine rr_get (q := 71) rfl fl_X5_39 w_self rfl dX5_feed_68 ?_
    refine rr_get (q := 74) rfl fl_X5_235 w_tape rfl dX5_feed_71 ?_
    exact rr_iret dX5_feed_74 rfl
  · refine rr_aload_n (q := 45) rfl dX5_feed_44 rfl ?_
    refine rr_get (q := 48) rfl fl_X5_39 w_self rfl dX5_feed_45 ?_
    refine rr_iload_n (q := 49) rfl dX5_feed_48 rfl ?_
    refine rr_bipush 8 (q := 51) rfl dX5_feed_49 rfl ?_
    refine rr_iload_n (q := 52) rfl dX5_feed_51 rfl ?_
    refine rr_imul (q := 53) rfl dX5_feed_52 ?_
    refine rr_iushr (q := 54) rfl dX5_feed_53 ?_
    refine rr_sipush 255 (q := 57) rfl dX5_feed_54 rfl ?_
    refine rr_iand (q := 58) rfl dX5_feed_57 ?_
    refine rr_cVu (q := 61) rfl V_X4_add ml_X5_238 ⟨Nat.le_of_ble_eq_true rfl, Nat.le_of_ble_eq_true rfl⟩ (e_X4_add (((l1.toUInt32 >>> (Int32.toUInt32 (8 * l3) &&& Int32.toUInt32 31)).toInt32) &&& 255) s) w_tape rfl rfl rfl rfl (Nat.le_of_ble_eq_true rfl) dX5_feed_58 (fun _ s8 => ?_)
    refine rr_iinc (L2 := fun y9 => [some (.ref 0), some (.int l1), none, some (.int y9)]) (q := 64) rfl dX5_feed_61 rfl rfl (Nat.le_of_ble_eq_true rfl) (fun _ => rfl) (fun y9 => ?_)
    refine rr_goto 40 dX5_feed_64 rfl ?_
    exact hk40 l1 y9 s8
def fX5_feed_40 : Nat → Int32 → Int32 → SX → Option (Int32 × SX) := lp (fun _ _ _ => none) (fX5_feed_40b)
theorem e_X5_feed_40 {G : Cf} {t : SM}  (n : Nat) : ∀ (l1 : Int32) (l3 : Int32) (s : SX), R (wfX t) inI G M_X5_feed 40 [some (.ref 0), some (.int l1), none, some (.int l3)] [] s (fX5_feed_40 n l1 l3 s) := by
  unfold fX5_feed_40
  exact rr_lp (P := fun (kz : Int32 → Int32 → SX → Option (Int32 × SX)) => ∀ (l1 : Int32) (l3 : Int32) (s : SX), R (wfX t) inI G M_X5_feed 40 [some (.ref 0), some (.int l1), none, some (.int l3)] [] s (kz l1 l3 s)) (fun _ _ _ => rr_none) (fun kz hkz => fun l1 l3 s => e_X5_feed_40b hkz l1 l3 s) n
def fX5_feed (l1 : Int32) (l2 : Int32) (s : SX) : Option (Int32 × SX) :=
  (if l2 < 1 then
  bd (fX5_finding 0 s) fun v1 s2 =>
  some (v1, s2)
  else
  (if l2 ≤ 4 then
  (if ((gX s 8 0 1) + l2) ≤ 120 then
  vl (l2 - 1) fun y3 =>
  fX5_feed_40 400 l1 y3 s
  else
  bd (fX5_finding 1 s) fun v4 s5 =>
  some (v4, s5))
  else
  bd (fX5_finding 0 s) fun v6 s7 =>
  some (v6, s7)))
set_option maxRecDepth 100000 in
set_option maxHeartbeats 4000000 in
theorem e_X5_feed {G : Cf} {t : SM} (l1 : Int32) (l2 : Int32) (s : SX) : Ct (wfX t) inI G M_X5_feed [.ref 0, .int l1, .int l2] s (fX5_feed l1 l2 s) := by
  refine Ct.of (L0 := [some (.ref 0), some (.int l1), some (.int l2), none]) 1 rfl rfl ⟨rfl, rfl⟩ (Nat.le_of_ble_eq_true rfl) rfl ?_
  unfold fX5_feed
  refine rr_iload_n (q := 1) rfl dX5_feed_0 rfl ?_
  refine rr_iconst 1 (q := 2) rfl dX5_feed_1 rfl ?_
  refine rr_icmp_lt 10 (q := 5) rfl dX5_feed_2 rfl (fun _ => ?_) (fun _ => ?_)
  · refine rr_aload_n (q := 11) rfl dX5_feed_10 rfl ?_
    refine rr_iconst 0 (q := 12) rfl dX5_feed_11 rfl ?_
    refine rr_cVi (q := 15) rfl V_X5_finding ml_X5_62 ⟨Nat.le_of_ble_eq_true rfl, Nat.le_of_ble_eq_true rfl⟩ (e_X5_finding 0 s) w_self rfl rfl rfl rfl (Nat.le_of_ble_eq_true rfl) dX5_feed_12 (fun v1 s2 => ?_)
    exact rr_iret dX5_feed_15 rfl
  · refine rr_iload_n (q := 6) rfl dX5_feed_5 rfl ?_
    refine rr_iconst 4 (q := 7) rfl dX5_feed_6 rfl ?_
    refine rr_icmp_le 16 (q := 10) rfl dX5_feed_7 rfl (fun _ => ?_) (fun _ => ?_)
    · refine rr_aload_n (q := 17) rfl dX5_feed_16 rfl ?_
      refine rr_get (q := 20) rfl fl_X5_39 w_self rfl dX5_feed_17 ?_
      refine rr_get (q := 23) rfl fl_X5_235 w_tape rfl dX5_feed_20 ?_
      refine rr_iload_n (q := 24) rfl dX5_feed_23 rfl ?_
      refine rr_iadd (q := 25) rfl dX5_feed_24 ?_
      refine rr_bipush 120 (q := 27) rfl dX5_feed_25 rfl ?_
      refine rr_icmp_le 36 (q := 30) rfl dX5_feed_27 rfl (fun _ => ?_) (fun _ => ?_)
      · refine rr_iload_n (q := 37) rfl dX5_feed_36 rfl ?_
        refine rr_iconst 1 (q := 38) rfl dX5_feed_37 rfl ?_
        refine rr_isub (q := 39) rfl dX5_feed_38 ?_
        refine rr_istore_n (L2 := fun y3 => [some (.ref 0), some (.int l1), some (.int l2), some (.int y3)]) (q := 40) rfl dX5_feed_39 (Nat.le_of_ble_eq_true rfl) (fun _ => rfl) (fun y3 => ?_)
        refine rr_mask [true, true, false, true] (L' := [some (.ref 0), some (.int l1), none, some (.int y3)]) rfl ?_
        exact e_X5_feed_40 400 l1 y3 s
      · refine rr_aload_n (q := 31) rfl dX5_feed_30 rfl ?_
        refine rr_iconst 1 (q := 32) rfl dX5_feed_31 rfl ?_
        refine rr_cVi (q := 35) rfl V_X5_finding ml_X5_62 ⟨Nat.le_of_ble_eq_true rfl, Nat.le_of_ble_eq_true rfl⟩ (e_X5_finding 1 s) w_self rfl rfl rfl rfl (Nat.le_of_ble_eq_true rfl) dX5_feed_32 (fun v4 s5 => ?_)
        exact rr_iret dX5_feed_35 rfl
    · refine rr_aload_n (q := 11) rfl dX5_feed_10 rfl ?_
      refine rr_iconst 0 (q := 12) rfl dX5_feed_11 rfl ?_
      refine rr_cVi (q := 15) rfl V_X5_finding ml_X5_62 ⟨Nat.le_of_ble_eq_true rfl, Nat.le_of_ble_eq_true rfl⟩ (e_X5_finding 0 s) w_self rfl rfl rfl rfl (Nat.le_of_ble_eq_true rfl) dX5_feed_12 (fun v6 s7 => ?_)
      exact rr_iret dX5_feed_15 rfl
def fX5_court (s : SX) : Option (Int32 × SX) :=
  bd (fX1_become 2 0 s) fun _ s1 =>
  bd (fX4_readInto s1) fun v2 s3 =>
  vl v2 fun y4 =>
  vl (wX s3 8 0 1 0) fun s5 =>
  (if 0 ≤ y4 then
  bd (fX1_become 0 2 s5) fun _ s6 =>
  some (y4, s6)
  else
  some ((-1) - (gX s5 8 0 3), s5))
set_option maxRecDepth 100000 in
set_option maxHeartbeats 4000000 in
theorem e_X5_court {G : Cf} {t : SM} (s : SX) : Ct (wfX t) inI G M_X5_court [.ref 0] s (fX5_court s) := by
  refine Ct.of (L0 := [some (.ref 0), none]) 1 rfl rfl ⟨rfl, rfl⟩ (Nat.le_of_ble_eq_true rfl) rfl ?_
  unfold fX5_court
  refine rr_aload_n (q := 1) rfl dX5_court_0 rfl ?_
  refine rr_get (q := 4) rfl fl_X5_19 w_self rfl dX5_court_1 ?_
  refine rr_aload_n (q := 5) rfl dX5_court_4 rfl ?_
  refine rr_get (q := 8) rfl fl_X5_10 w_self rfl dX5_court_5 ?_
  refine rr_cVu (q := 11) rfl V_X1_become ml_X5_168 ⟨Nat.le_of_ble_eq_true rfl, Nat.le_of_ble_eq_true rfl⟩ (e_X1_become (by decide) (by decide) s) (w_realm (by decide)) rfl rfl rfl rfl (Nat.le_of_ble_eq_true rfl) dX5_court_8 (fun _ s1 => ?_)
  refine rr_aload_n (q := 12) rfl dX5_court_11 rfl ?_
  refine rr_get (q := 15) rfl fl_X5_39 w_self rfl dX5_court_12 ?_
  refine rr_aload_n (q := 16) rfl dX5_court_15 rfl ?_
  refine rr_get (q := 19) rfl fl_X5_19 w_self rfl dX5_court_16 ?_
  refine rr_cVi (q := 22) rfl V_X4_readInto ml_X5_241 ⟨Nat.le_of_ble_eq_true rfl, Nat.le_of_ble_eq_true rfl⟩ (e_X4_readInto s1) w_tape rfl rfl rfl rfl (Nat.le_of_ble_eq_true rfl) dX5_court_19 (fun v2 s3 => ?_)
  refine rr_istore_n (L2 := fun y4 => [some (.ref 0), some (.int y4)]) (q := 23) rfl dX5_court_22 (Nat.le_of_ble_eq_true rfl) (fun _ => rfl) (fun y4 => ?_)
  refine rr_aload_n (q := 24) rfl dX5_court_23 rfl ?_
  refine rr_get (q := 27) rfl fl_X5_39 w_self rfl dX5_court_24 ?_
  refine rr_iconst 0 (q := 28) rfl dX5_court_27 rfl ?_
  refine rr_puti (q := 31) rfl fl_X5_235 fp_X4_1 w_tape (Nat.le_of_ble_eq_true rfl) u_tape1 dX5_court_28 (fun s5 => ?_)
  refine rr_iload_n (q := 32) rfl dX5_court_31 rfl ?_
  refine rr_if_ge 45 (q := 35) rfl dX5_court_32 rfl (fun _ => ?_) (fun _ => ?_)
  · refine rr_aload_n (q := 46) rfl dX5_court_45 rfl ?_
    refine rr_get (q := 49) rfl fl_X5_10 w_self rfl dX5_court_46 ?_
    refine rr_aload_n (q := 50) rfl dX5_court_49 rfl ?_
    refine rr_get (q := 53) rfl fl_X5_19 w_self rfl dX5_court_50 ?_
    refine rr_cVu (q := 56) rfl V_X1_become ml_X5_168 ⟨Nat.le_of_ble_eq_true rfl, Nat.le_of_ble_eq_true rfl⟩ (e_X1_become (by decide) (by decide) s5) (w_realm (by decide)) rfl rfl rfl rfl (Nat.le_of_ble_eq_true rfl) dX5_court_53 (fun _ s6 => ?_)
    refine rr_iload_n (q := 57) rfl dX5_court_56 rfl ?_
    exact rr_iret dX5_court_57 rfl
  · refine rr_iconst (-1) (q := 36) rfl dX5_court_35 rfl ?_
    refine rr_aload_n (q := 37) rfl dX5_court_36 rfl ?_
    refine rr_get (q := 40) rfl fl_X5_39 w_self rfl dX5_court_37 ?_
    refine rr_get (q := 43) rfl fl_X5_244 w_tape rfl dX5_court_40 ?_
    refine rr_isub (q := 44) rfl dX5_court_43 ?_
    exact rr_iret dX5_court_44 rfl
