def fX5_sheetAt (l1 : Int32) (s : SX) : Option (Option Nat × SX) :=
  (if l1 < 0 then some (none, s) else (if 4 ≤ l1 then some (none, s) else some (some l1.toNatClampNeg, s)))
theorem shs_at {k : Nat} (hk : k < 4) : shs k = some (sb k) := by
  rcases k with _ | _ | _ | _ | k
  · rfl
  · rfl
  · rfl
  · rfl
  · omega
set_option maxRecDepth 100000 in
set_option maxHeartbeats 4000000 in
theorem e_X5_sheetAt {G : Cf} {t : SM} (l1 : Int32) (s : SX) : Ct (wfX t) inO G M_X5_sheetAt [.ref 0, .int l1] s (fX5_sheetAt l1 s) := by
  refine Ct.of (L0 := [some (.ref 0), some (.int l1)]) 0 rfl rfl ⟨rfl, rfl⟩ (Nat.le_of_ble_eq_true rfl) rfl ?_
  unfold fX5_sheetAt
  refine rr_iload_n (q := 1) rfl dX5_sheetAt_0 rfl ?_
  refine rr_if_lt 18 (q := 4) rfl dX5_sheetAt_1 rfl (fun _ => ?_) (fun h1 => ?_)
  · refine rr_null (q := 19) rfl dX5_sheetAt_18 ?_
    exact rr_oret (k := none) dX5_sheetAt_19 rfl
  · refine rr_iload_n (q := 5) rfl dX5_sheetAt_4 rfl ?_
    refine rr_iconst 4 (q := 6) rfl dX5_sheetAt_5 rfl ?_
    refine rr_icmp_ge 18 (q := 9) rfl dX5_sheetAt_6 rfl (fun _ => ?_) (fun h2 => ?_)
    · refine rr_null (q := 19) rfl dX5_sheetAt_18 ?_
      exact rr_oret (k := none) dX5_sheetAt_19 rfl
    · have h3 : l1.toNatClampNeg < 4 := by
        have a1 : ¬ l1.toInt < 0 := fun e => h1 (Int32.lt_iff_toInt_lt.mpr e)
        have a2 : ¬ 4 ≤ l1.toInt := fun e => h2 (Int32.le_iff_toInt_le.mpr e)
        show l1.toInt.toNat < 4
        omega
      refine rr_aload_n (q := 10) rfl dX5_sheetAt_9 rfl ?_
      refine rr_get (q := 13) rfl fl_X5_45 w_self rfl dX5_sheetAt_10 ?_
      refine rr_iload_n (q := 14) rfl dX5_sheetAt_13 rfl ?_
      refine rr_aald (q := 15) rfl w_sheets ⟨fun h => h.elim h1 (fun h => by omega), rfl⟩ (shs_at h3) dX5_sheetAt_14 ?_
      refine rr_goto 19 dX5_sheetAt_15 rfl ?_
      exact rr_oret (k := some l1.toNatClampNeg) dX5_sheetAt_19 rfl
def fX5_isKing (l0 : Int32) (s : SX) : Option (Int32 × SX) :=
  (if l0 < 0 then
  some (0, s)
  else
  (if 6 ≤ l0 then
  some (0, s)
  else
  some (1, s)))
set_option maxRecDepth 100000 in
set_option maxHeartbeats 4000000 in
theorem e_X5_isKing {G : Cf} {t : SM} (l0 : Int32) (s : SX) : Ct (wfX t) inI G M_X5_isKing [.int l0] s (fX5_isKing l0 s) := by
  refine Ct.of (L0 := [some (.int l0)]) 0 rfl rfl ⟨rfl, rfl⟩ (Nat.le_of_ble_eq_true rfl) rfl ?_
  unfold fX5_isKing
  refine rr_iload_n (q := 1) rfl dX5_isKing_0 rfl ?_
  refine rr_if_lt 14 (q := 4) rfl dX5_isKing_1 rfl (fun _ => ?_) (fun _ => ?_)
  · refine rr_iconst 0 (q := 15) rfl dX5_isKing_14 rfl ?_
    exact rr_zret dX5_isKing_15 rfl (Or.inl rfl)
  · refine rr_iload_n (q := 5) rfl dX5_isKing_4 rfl ?_
    refine rr_bipush 6 (q := 7) rfl dX5_isKing_5 rfl ?_
    refine rr_icmp_ge 14 (q := 10) rfl dX5_isKing_7 rfl (fun _ => ?_) (fun _ => ?_)
    · refine rr_iconst 0 (q := 15) rfl dX5_isKing_14 rfl ?_
      exact rr_zret dX5_isKing_15 rfl (Or.inl rfl)
    · refine rr_iconst 1 (q := 11) rfl dX5_isKing_10 rfl ?_
      refine rr_goto 15 dX5_isKing_11 rfl ?_
      exact rr_zret dX5_isKing_15 rfl (Or.inr rfl)
def fX5_isWithin (l0 : Int32) (l1 : Int32) (s : SX) : Option (Int32 × SX) :=
  (if l0 < 0 then
  some (0, s)
  else
  (if l1 < l0 then
  some (0, s)
  else
  some (1, s)))
set_option maxRecDepth 100000 in
set_option maxHeartbeats 4000000 in
theorem e_X5_isWithin {G : Cf} {t : SM} (l0 : Int32) (l1 : Int32) (s : SX) : Ct (wfX t) inI G M_X5_isWithin [.int l0, .int l1] s (fX5_isWithin l0 l1 s) := by
  refine Ct.of (L0 := [some (.int l0), some (.int l1)]) 0 rfl rfl ⟨rfl, rfl⟩ (Nat.le_of_ble_eq_true rfl) rfl ?_
  unfold fX5_isWithin
  refine rr_iload_n (q := 1) rfl dX5_isWithin_0 rfl ?_
  refine rr_if_lt 13 (q := 4) rfl dX5_isWithin_1 rfl (fun _ => ?_) (fun _ => ?_)
  · refine rr_iconst 0 (q := 14) rfl dX5_isWithin_13 rfl ?_
    exact rr_zret dX5_isWithin_14 rfl (Or.inl rfl)
  · refine rr_iload_n (q := 5) rfl dX5_isWithin_4 rfl ?_
    refine rr_iload_n (q := 6) rfl dX5_isWithin_5 rfl ?_
    refine rr_icmp_gt 13 (q := 9) rfl dX5_isWithin_6 rfl (fun _ => ?_) (fun _ => ?_)
    · refine rr_iconst 0 (q := 14) rfl dX5_isWithin_13 rfl ?_
      exact rr_zret dX5_isWithin_14 rfl (Or.inl rfl)
    · refine rr_iconst 1 (q := 10) rfl dX5_isWithin_9 rfl ?_
      refine rr_goto 14 dX5_isWithin_10 rfl ?_
      exact rr_zret dX5_isWithin_14 rfl (Or.inr rfl)
def fX5_finding (l1 : Int32) (s : SX) : Option (Int32 × SX) :=
  ixg l1 7 fun n1 =>
  ixg l1 7 fun n2 => vl (wX s 5 1 n2 ((gX s 5 1 n1) + 1)) fun s3 =>
  some ((-1000000001) - l1, s3)
set_option maxRecDepth 100000 in
set_option maxHeartbeats 4000000 in
theorem e_X5_finding {G : Cf} {t : SM} (l1 : Int32) (s : SX) : Ct (wfX t) inI G M_X5_finding [.ref 0, .int l1] s (fX5_finding l1 s) := by
  refine Ct.of (L0 := [some (.ref 0), some (.int l1)]) 0 rfl rfl ⟨rfl, rfl⟩ (Nat.le_of_ble_eq_true rfl) rfl ?_
  unfold fX5_finding
  refine rr_aload_n (q := 1) rfl dX5_finding_0 rfl ?_
  refine rr_get (q := 4) rfl fl_X5_49 w_self rfl dX5_finding_1 ?_
  refine rr_iload_n (q := 5) rfl dX5_finding_4 rfl ?_
  refine rr_dup2 (q := 6) rfl dX5_finding_5 rfl rfl ?_
  refine rr_iald (q := 7) rfl w_ans dX5_finding_6 (fun n1 => ?_)
  refine rr_iconst 1 (q := 8) rfl dX5_finding_7 rfl ?_
  refine rr_iadd (q := 9) rfl dX5_finding_8 ?_
  refine rr_iast (q := 10) rfl w_ans (fun _ => u_ans) dX5_finding_9 (fun n2 s3 => ?_)
  refine rr_ldcw (q := 13) rfl dX5_finding_10 kc_X5_290 ?_
  refine rr_iload_n (q := 14) rfl dX5_finding_13 rfl ?_
  refine rr_isub (q := 15) rfl dX5_finding_14 ?_
  exact rr_iret dX5_finding_15 rfl
def fX5_fear (l1 : Int32) (l2 : Int32) (s : SX) : Option (Int32 × SX) :=
  bd (fX5_isKing l1 s) fun v1 s2 =>
  (if v1 = 0 then
  bd (fX5_finding 0 s2) fun v3 s4 =>
  some (v3, s4)
  else
  bd (fX5_isWithin l2 99 s2) fun v5 s6 =>
  (if v5 = 0 then
  bd (fX5_finding 0 s6) fun v11 s12 =>
  some (v11, s12)
  else
  ixg l1 6 fun n7 =>
  vl (gX s6 0 0 n7) fun y8 =>
  ixg l1 6 fun n9 => vl (wX s6 0 0 n9 l2) fun s10 =>
  some (y8, s10)))
set_option maxRecDepth 100000 in
set_option maxHeartbeats 4000000 in
theorem e_X5_fear {G : Cf} {t : SM} (l1 : Int32) (l2 : Int32) (s : SX) : Ct (wfX t) inI G M_X5_fear [.ref 0, .int l1, .int l2] s (fX5_fear l1 l2 s) := by
  refine Ct.of (L0 := [some (.ref 0), some (.int l1), some (.int l2), none]) 1 rfl rfl ⟨rfl, rfl⟩ (Nat.le_of_ble_eq_true rfl) rfl ?_
  unfold fX5_fear
  refine rr_iload_n (q := 1) rfl dX5_fear_0 rfl ?_
  refine rr_cSi (q := 4) rfl V_X5_isKing ml_X5_54 ⟨Nat.le_of_ble_eq_true rfl, Nat.le_of_ble_eq_true rfl⟩ (e_X5_isKing l1 s) rfl rfl (Nat.le_of_ble_eq_true rfl) dX5_fear_1 (fun v1 s2 => ?_)
  refine rr_if_eq 16 (q := 7) rfl dX5_fear_4 rfl (fun _ => ?_) (fun _ => ?_)
  · refine rr_aload_n (q := 17) rfl dX5_fear_16 rfl ?_
    refine rr_iconst 0 (q := 18) rfl dX5_fear_17 rfl ?_
    refine rr_cVi (q := 21) rfl V_X5_finding ml_X5_62 ⟨Nat.le_of_ble_eq_true rfl, Nat.le_of_ble_eq_true rfl⟩ (e_X5_finding 0 s2) w_self rfl rfl rfl rfl (Nat.le_of_ble_eq_true rfl) dX5_fear_18 (fun v3 s4 => ?_)
    exact rr_iret dX5_fear_21 rfl
  · refine rr_iload_n (q := 8) rfl dX5_fear_7 rfl ?_
    refine rr_bipush 99 (q := 10) rfl dX5_fear_8 rfl ?_
    refine rr_cSi (q := 13) rfl V_X5_isWithin ml_X5_58 ⟨Nat.le_of_ble_eq_true rfl, Nat.le_of_ble_eq_true rfl⟩ (e_X5_isWithin l2 99 s2) rfl rfl (Nat.le_of_ble_eq_true rfl) dX5_fear_10 (fun v5 s6 => ?_)
    refine rr_if_ne 22 (q := 16) rfl dX5_fear_13 rfl (fun _ => ?_) (fun _ => ?_)
    · refine rr_aload_n (q := 23) rfl dX5_fear_22 rfl ?_
      refine rr_get (q := 26) rfl fl_X5_10 w_self rfl dX5_fear_23 ?_
      refine rr_get (q := 29) rfl fl_X5_66 (w_realm (by decide)) rfl dX5_fear_26 ?_
      refine rr_iload_n (q := 30) rfl dX5_fear_29 rfl ?_
      refine rr_iald (q := 31) rfl (w_rarr0 (by decide)) dX5_fear_30 (fun n7 => ?_)
      refine rr_istore_n (L2 := fun y8 => [some (.ref 0), some (.int l1), some (.int l2), some (.int y8)]) (q := 32) rfl dX5_fear_31 (Nat.le_of_ble_eq_true rfl) (fun _ => rfl) (fun y8 => ?_)
      refine rr_aload_n (q := 33) rfl dX5_fear_32 rfl ?_
      refine rr_get (q := 36) rfl fl_X5_10 w_self rfl dX5_fear_33 ?_
      refine rr_get (q := 39) rfl fl_X5_66 (w_realm (by decide)) rfl dX5_fear_36 ?_
      refine rr_iload_n (q := 40) rfl dX5_fear_39 rfl ?_
      refine rr_iload_n (q := 41) rfl dX5_fear_40 rfl ?_
      refine rr_iast (q := 42) rfl (w_rarr0 (by decide)) (fun _ => (u_rarr0 (by decide))) dX5_fear_41 (fun n9 s10 => ?_)
      refine rr_iload_n (q := 43) rfl dX5_fear_42 rfl ?_
      exact rr_iret dX5_fear_43 rfl
    · refine rr_aload_n (q := 17) rfl dX5_fear_16 rfl ?_
      refine rr_iconst 0 (q := 18) rfl dX5_fear_17 rfl ?_
      refine rr_cVi (q := 21) rfl V_X5_finding ml_X5_62 ⟨Nat.le_of_ble_eq_true rfl, Nat.le_of_ble_eq_true rfl⟩ (e_X5_finding 0 s6) w_self rfl rfl rfl rfl (Nat.le_of_ble_eq_true rfl) dX5_fear_18 (fun v11 s12 => ?_)
      exact rr_iret dX5_fear_21 rfl
def fX5_kingOf (l1 : Int32) (l2 : Int32) (s : SX) : Option (Int32 × SX) :=
  bd (fX5_isKing l1 s) fun v1 s2 =>
  (if v1 = 0 then
  bd (fX5_finding 0 s2) fun v16 s17 =>
  some (v16, s17)
  else
  (if l2 = 0 then
  ixg l1 6 fun n3 =>
  some (gX s2 0 0 n3, s2)
  else
  (if l2 = 1 then
  bd (fX1_childrenOf 0 l1 s2) fun v5 s6 =>
  some (v5, s6)
  else
  (if l2 = 2 then
  bd (fX1_heldFromOthers 0 l1 s2) fun v8 s9 =>
  some (v8, s9)
  else
  (if l2 = 3 then
  bd (fX1_wordsOf 0 l1 s2) fun v11 s12 =>
  some (v11, s12)
  else
  bd (fX5_finding 0 s2) fun v14 s15 =>
  some (v14, s15))))))
set_option maxRecDepth 100000 in
set_option maxHeartbeats 4000000 in
theorem e_X5_kingOf {G : Cf} {t : SM} (l1 : Int32) (l2 : Int32) (s : SX) : Ct (wfX t) inI G M_X5_kingOf [.ref 0, .int l1, .int l2] s (fX5_kingOf l1 l2 s) := by
  refine Ct.of (L0 := [some (.ref 0), some (.int l1), some (.int l2)]) 0 rfl rfl ⟨rfl, rfl⟩ (Nat.le_of_ble_eq_true rfl) rfl ?_
  unfold fX5_kingOf
  refine rr_iload_n (q := 1) rfl dX5_kingOf_0 rfl ?_
  refine rr_cSi (q := 4) rfl V_X5_isKing ml_X5_54 ⟨Nat.le_of_ble_eq_true rfl, Nat.le_of_ble_eq_true rfl⟩ (e_X5_isKing l1 s) rfl rfl (Nat.le_of_ble_eq_true rfl) dX5_kingOf_1 (fun v1 s2 => ?_)
  refine rr_if_ne 13 (q := 7) rfl dX5_kingOf_4 rfl (fun _ => ?_) (fun _ => ?_)
  · refine rr_iload_n (q := 14) rfl dX5_kingOf_13 rfl ?_
    refine rr_case 0 ?_ (fun hs4 => ?_)
    · refine rr_tableIn 44 dX5_kingOf_14 (by decide) (by decide) rfl rfl ?_
      refine rr_aload_n (q := 45) rfl dX5_kingOf_44 rfl ?_
      refine rr_get (q := 48) rfl fl_X5_10 w_self rfl dX5_kingOf_45 ?_
      refine rr_get (q := 51) rfl fl_X5_66 (w_realm (by decide)) rfl dX5_kingOf_48 ?_
      refine rr_iload_n (q := 52) rfl dX5_kingOf_51 rfl ?_
      refine rr_iald (q := 53) rfl (w_rarr0 (by decide)) dX5_kingOf_52 (fun n3 => ?_)
      exact rr_iret dX5_kingOf_53 rfl
    · refine rr_case 1 ?_ (fun hs7 => ?_)
      · refine rr_tableIn 54 dX5_kingOf_14 (by decide) (by decide) rfl rfl ?_
        refine rr_aload_n (q := 55) rfl dX5_kingOf_54 rfl ?_
        refine rr_get (q := 58) rfl fl_X5_10 w_self rfl dX5_kingOf_55 ?_
        refine rr_iload_n (q := 59) rfl dX5_kingOf_58 rfl ?_
        refine rr_cVi (q := 62) rfl V_X1_childrenOf ml_X5_69 ⟨Nat.le_of_ble_eq_true rfl, Nat.le_of_ble_eq_true rfl⟩ (e_X1_childrenOf (by decide) l1 s2) (w_realm (by decide)) rfl rfl rfl rfl (Nat.le_of_ble_eq_true rfl) dX5_kingOf_59 (fun v5 s6 => ?_)
        exact rr_iret dX5_kingOf_62 rfl
      · refine rr_case 2 ?_ (fun hs10 => ?_)
        · refine rr_tableIn 63 dX5_kingOf_14 (by decide) (by decide) rfl rfl ?_
          refine rr_aload_n (q := 64) rfl dX5_kingOf_63 rfl ?_
          refine rr_get (q := 67) rfl fl_X5_10 w_self rfl dX5_kingOf_64 ?_
          refine rr_iload_n (q := 68) rfl dX5_kingOf_67 rfl ?_
          refine rr_cVi (q := 71) rfl V_X1_heldFromOthers ml_X5_72 ⟨Nat.le_of_ble_eq_true rfl, Nat.le_of_ble_eq_true rfl⟩ (e_X1_heldFromOthers (by decide) l1 s2) (w_realm (by decide)) rfl rfl rfl rfl (Nat.le_of_ble_eq_true rfl) dX5_kingOf_68 (fun v8 s9 => ?_)
          exact rr_iret dX5_kingOf_71 rfl
        · refine rr_case 3 ?_ (fun hs13 => ?_)
          · refine rr_tableIn 72 dX5_kingOf_14 (by decide) (by decide) rfl rfl ?_
            refine rr_aload_n (q := 73) rfl dX5_kingOf_72 rfl ?_
            refine rr_get (q := 76) rfl fl_X5_10 w_self rfl dX5_kingOf_73 ?_
            refine rr_iload_n (q := 77) rfl dX5_kingOf_76 rfl ?_
            refine rr_cVi (q := 80) rfl V_X1_wordsOf ml_X5_75 ⟨Nat.le_of_ble_eq_true rfl, Nat.le_of_ble_eq_true rfl⟩ (e_X1_wordsOf (by decide) l1 s2) (w_realm (by decide)) rfl rfl rfl rfl (Nat.le_of_ble_eq_true rfl) dX5_kingOf_77 (fun v11 s12 => ?_)
            exact rr_iret dX5_kingOf_80 rfl
          · refine rr_tableOut 81 dX5_kingOf_14 (by have ahs4 := ne_lit (n := 0) hs4 rfl; have ahs7 := ne_lit (n := 1) hs7 rfl; have ahs10 := ne_lit (n := 2) hs10 rfl; have ahs13 := ne_lit (n := 3) hs13 rfl; omega) rfl ?_
            refine rr_aload_n (q := 82) rfl dX5_kingOf_81 rfl ?_
            refine rr_iconst 0 (q := 83) rfl dX5_kingOf_82 rfl ?_
            refine rr_cVi (q := 86) rfl V_X5_finding ml_X5_62 ⟨Nat.le_of_ble_eq_true rfl, Nat.le_of_ble_eq_true rfl⟩ (e_X5_finding 0 s2) w_self rfl rfl rfl rfl (Nat.le_of_ble_eq_true rfl) dX5_kingOf_83 (fun v14 s15 => ?_)
            exact rr_iret dX5_kingOf_86 rfl
  · refine rr_aload_n (q := 8) rfl dX5_kingOf_7 rfl ?_
    refine rr_iconst 0 (q := 9) rfl dX5_kingOf_8 rfl ?_
    refine rr_cVi (q := 12) rfl V_X5_finding ml_X5_62 ⟨Nat.le_of_ble_eq_true rfl, Nat.le_of_ble_eq_true rfl⟩ (e_X5_finding 0 s2) w_self rfl rfl rfl rfl (Nat.le_of_ble_eq_true rfl) dX5_kingOf_9 (fun v16 s17 => ?_)
    exact rr_iret dX5_kingOf_12 rfl
def fX5_isKind (l0 : Int32) (s : SX) : Option (Int32 × SX) :=
  (if l0 < 0 then
  some (0, s)
  else
  (if 6 ≤ l0 then
  some (0, s)
  else
  some (1, s)))
set_option maxRecDepth 100000 in
set_option maxHeartbeats 4000000 in
theorem e_X5_isKind {G : Cf} {t : SM} (l0 : Int32) (s : SX) : Ct (wfX t) inI G M_X5_isKind [.int l0] s (fX5_isKind l0 s) := by
  refine Ct.of (L0 := [some (.int l0)]) 0 rfl rfl ⟨rfl, rfl⟩ (Nat.le_of_ble_eq_true rfl) rfl ?_
  unfold fX5_isKind
  refine rr_iload_n (q := 1) rfl dX5_isKind_0 rfl ?_
  refine rr_if_lt 14 (q := 4) rfl dX5_isKind_1 rfl (fun _ => ?_) (fun _ => ?_)
  · refine rr_iconst 0 (q := 15) rfl dX5_isKind_14 rfl ?_
    exact rr_zret dX5_isKind_15 rfl (Or.inl rfl)
  · refine rr_iload_n (q := 5) rfl dX5_isKind_4 rfl ?_
    refine rr_bipush 6 (q := 7) rfl dX5_isKind_5 rfl ?_
    refine rr_icmp_ge 14 (q := 10) rfl dX5_isKind_7 rfl (fun _ => ?_) (fun _ => ?_)
    · refine rr_iconst 0 (q := 15) rfl dX5_isKind_14 rfl ?_
      exact rr_zret dX5_isKind_15 rfl (Or.inl rfl)
    · refine rr_iconst 1 (q := 11) rfl dX5_isKind_10 rfl ?_
      refine rr_goto 15 dX5_isKind_11 rfl ?_
      exact rr_zret dX5_isKind_15 rfl (Or.inr rfl)
def fX5_child (l1 : Int32) (l2 : Int32) (l3 : Int32) (s : SX) : Option (Int32 × SX) :=
  bd (fX5_isKind l1 s) fun v1 s2 =>
  (if v1 = 0 then
  bd (fX5_finding 0 s2) fun v3 s4 =>
  some (v3, s4)
  else
  bd (fX5_isKing l2 s2) fun v5 s6 =>
  (if v5 = 0 then
  bd (fX5_finding 0 s6) fun v7 s8 =>
  some (v7, s8)
  else
  bd (fX5_isWithin l3 99 s6) fun v9 s10 =>
  (if v9 = 0 then
  bd (fX5_finding 0 s10) fun v15 s16 =>
  some (v15, s16)
  else
  (if (gX s10 0 10 10) < 14 then
  bd (fX1_addChild 0 l1 l2 l2 l3 s10) fun v11 s12 =>
  some (v11, s12)
  else
  bd (fX5_finding 1 s10) fun v13 s14 =>
  some (v13, s14)))))
set_option maxRecDepth 100000 in
set_option maxHeartbeats 4000000 in
theorem e_X5_child {G : Cf} {t : SM} (l1 : Int32) (l2 : Int32) (l3 : Int32) (s : SX) : Ct (wfX t) inI G M_X5_child [.ref 0, .int l1, .int l2, .int l3] s (fX5_child l1 l2 l3 s) := by
  refine Ct.of (L0 := [some (.ref 0), some (.int l1), some (.int l2), some (.int l3)]) 0 rfl rfl ⟨rfl, rfl⟩ (Nat.le_of_ble_eq_true rfl) rfl ?_
  unfold fX5_child
  refine rr_iload_n (q := 1) rfl dX5_child_0 rfl ?_
  refine rr_cSi (q := 4) rfl V_X5_isKind ml_X5_78 ⟨Nat.le_of_ble_eq_true rfl, Nat.le_of_ble_eq_true rfl⟩ (e_X5_isKind l1 s) rfl rfl (Nat.le_of_ble_eq_true rfl) dX5_child_1 (fun v1 s2 => ?_)
  refine rr_if_eq 23 (q := 7) rfl dX5_child_4 rfl (fun _ => ?_) (fun _ => ?_)
  · refine rr_aload_n (q := 24) rfl dX5_child_23 rfl ?_
    refine rr_iconst 0 (q := 25) rfl dX5_child_24 rfl ?_
    refine rr_cVi (q := 28) rfl V_X5_finding ml_X5_62 ⟨Nat.le_of_ble_eq_true rfl, Nat.le_of_ble_eq_true rfl⟩ (e_X5_finding 0 s2) w_self rfl rfl rfl rfl (Nat.le_of_ble_eq_true rfl) dX5_child_25 (fun v3 s4 => ?_)
    exact rr_iret dX5_child_28 rfl
  · refine rr_iload_n (q := 8) rfl dX5_child_7 rfl ?_
    refine rr_cSi (q := 11) rfl V_X5_isKing ml_X5_54 ⟨Nat.le_of_ble_eq_true rfl, Nat.le_of_ble_eq_true rfl⟩ (e_X5_isKing l2 s2) rfl rfl (Nat.le_of_ble_eq_true rfl) dX5_child_8 (fun v5 s6 => ?_)
    refine rr_if_eq 23 (q := 14) rfl dX5_child_11 rfl (fun _ => ?_) (fun _ => ?_)
    · refine rr_aload_n (q := 24) rfl dX5_child_23 rfl ?_
      refine rr_iconst 0 (q := 25) rfl dX5_child_24 rfl ?_
      refine rr_cVi (q := 28) rfl V_X5_finding ml_X5_62 ⟨Nat.le_of_ble_eq_true rfl, Nat.le_of_ble_eq_true rfl⟩ (e_X5_finding 0 s6) w_self rfl rfl rfl rfl (Nat.le_of_ble_eq_true rfl) dX5_child_25 (fun v7 s8 => ?_)
      exact rr_iret dX5_child_28 rfl
    · refine rr_iload_n (q := 15) rfl dX5_child_14 rfl ?_
      refine rr_bipush 99 (q := 17) rfl dX5_child_15 rfl ?_
      refine rr_cSi (q := 20) rfl V_X5_isWithin ml_X5_58 ⟨Nat.le_of_ble_eq_true rfl, Nat.le_of_ble_eq_true rfl⟩ (e_X5_isWithin l3 99 s6) rfl rfl (Nat.le_of_ble_eq_true rfl) dX5_child_17 (fun v9 s10 => ?_)
      refine rr_if_ne 29 (q := 23) rfl dX5_child_20 rfl (fun _ => ?_) (fun _ => ?_)
      · refine rr_aload_n (q := 30) rfl dX5_child_29 rfl ?_
        refine rr_get (q := 33) rfl fl_X5_10 w_self rfl dX5_child_30 ?_
        refine rr_get (q := 36) rfl fl_X5_81 (w_realm (by decide)) rfl dX5_child_33 ?_
        refine rr_bipush 14 (q := 38) rfl dX5_child_36 rfl ?_
        refine rr_icmp_lt 47 (q := 41) rfl dX5_child_38 rfl (fun _ => ?_) (fun _ => ?_)
        · refine rr_aload_n (q := 48) rfl dX5_child_47 rfl ?_
          refine rr_get (q := 51) rfl fl_X5_10 w_self rfl dX5_child_48 ?_
          refine rr_iload_n (q := 52) rfl dX5_child_51 rfl ?_
          refine rr_iload_n (q := 53) rfl dX5_child_52 rfl ?_
          refine rr_iload_n (q := 54) rfl dX5_child_53 rfl ?_
          refine rr_iload_n (q := 55) rfl dX5_child_54 rfl ?_
          refine rr_cVi (q := 58) rfl V_X1_addChild ml_X5_85 ⟨Nat.le_of_ble_eq_true rfl, Nat.le_of_ble_eq_true rfl⟩ (e_X1_addChild (by decide) l1 l2 l2 l3 s10) (w_realm (by decide)) rfl rfl rfl rfl (Nat.le_of_ble_eq_true rfl) dX5_child_55 (fun v11 s12 => ?_)
          exact rr_iret dX5_child_58 rfl
        · refine rr_aload_n (q := 42) rfl dX5_child_41 rfl ?_
          refine rr_iconst 1 (q := 43) rfl dX5_child_42 rfl ?_
          refine rr_cVi (q := 46) rfl V_X5_finding ml_X5_62 ⟨Nat.le_of_ble_eq_true rfl, Nat.le_of_ble_eq_true rfl⟩ (e_X5_finding 1 s10) w_self rfl rfl rfl rfl (Nat.le_of_ble_eq_true rfl) dX5_child_43 (fun v13 s14 => ?_)
          exact rr_iret dX5_child_46 rfl
      · refine rr_aload_n (q := 24) rfl dX5_child_23 rfl ?_
        refine rr_iconst 0 (q := 25) rfl dX5_child_24 rfl ?_
        refine rr_cVi (q := 28) rfl V_X5_finding ml_X5_62 ⟨Nat.le_of_ble_eq_true rfl, Nat.le_of_ble_eq_true rfl⟩ (e_X5_finding 0 s10) w_self rfl rfl rfl rfl (Nat.le_of_ble_eq_true rfl) dX5_child_25 (fun v15 s16 => ?_)
        exact rr_iret dX5_child_28 rfl
def fX5_isChild (l1 : Int32) (s : SX) : Option (Int32 × SX) :=
  (if l1 < 0 then
  some (0, s)
  else
  (if (gX s 0 10 10) ≤ l1 then
  some (0, s)
  else
  some (1, s)))
set_option maxRecDepth 100000 in
set_option maxHeartbeats 4000000 in
theorem e_X5_isChild {G : Cf} {t : SM} (l1 : Int32) (s : SX) : Ct (wfX t) inI G M_X5_isChild [.ref 0, .int l1] s (fX5_isChild l1 s) := by
  refine Ct.of (L0 := [some (.ref 0), some (.int l1)]) 0 rfl rfl ⟨rfl, rfl⟩ (Nat.le_of_ble_eq_true rfl) rfl ?_
  unfold fX5_isChild
  refine rr_iload_n (q := 1) rfl dX5_isChild_0 rfl ?_
  refine rr_if_lt 19 (q := 4) rfl dX5_isChild_1 rfl (fun _ => ?_) (fun _ => ?_)
  · refine rr_iconst 0 (q := 20) rfl dX5_isChild_19 rfl ?_
    exact rr_zret dX5_isChild_20 rfl (Or.inl rfl)
  · refine rr_iload_n (q := 5) rfl dX5_isChild_4 rfl ?_
    refine rr_aload_n (q := 6) rfl dX5_isChild_5 rfl ?_
    refine rr_get (q := 9) rfl fl_X5_10 w_self rfl dX5_isChild_6 ?_
    refine rr_get (q := 12) rfl fl_X5_81 (w_realm (by decide)) rfl dX5_isChild_9 ?_
    refine rr_icmp_ge 19 (q := 15) rfl dX5_isChild_12 rfl (fun _ => ?_) (fun _ => ?_)
    · refine rr_iconst 0 (q := 20) rfl dX5_isChild_19 rfl ?_
      exact rr_zret dX5_isChild_20 rfl (Or.inl rfl)
    · refine rr_iconst 1 (q := 16) rfl dX5_isChild_15 rfl ?_
      refine rr_goto 20 dX5_isChild_16 rfl ?_
      exact rr_zret dX5_isChild_20 rfl (Or.inr rfl)
def fX5_of (l1 : Int32) (l2 : Int32) (s : SX) : Option (Int32 × SX) :=
  bd (fX5_isChild l1 s) fun v1 s2 =>
  (if v1 = 0 then
  bd (fX5_finding 0 s2) fun v19 s20 =>
  some (v19, s20)
  else
  (if l2 = 0 then
  ixg l1 14 fun n3 =>
  some (gX s2 0 1 n3, s2)
  else
  (if l2 = 1 then
  ixg l1 14 fun n5 =>
  some (gX s2 0 2 n5, s2)
  else
  (if l2 = 2 then
  ixg l1 14 fun n7 =>
  some (gX s2 0 3 n7, s2)
  else
  (if l2 = 3 then
  ixg l1 14 fun n9 =>
  some (gX s2 0 4 n9, s2)
  else
  (if l2 = 4 then
  bd (fX1_isDead 0 l1 s2) fun v11 s12 =>
  (if v11 = 0 then
  some (0, s12)
  else
  some (1, s12))
  else
  (if l2 = 5 then
  bd (fX1_lossOf 0 l1 s2) fun v14 s15 =>
  some (v14, s15)
  else
  bd (fX5_finding 0 s2) fun v17 s18 =>
  some (v17, s18))))))))
set_option maxRecDepth 100000 in
set_option maxHeartbeats 4000000 in
theorem e_X5_of {G : Cf} {t : SM} (l1 : Int32) (l2 : Int32) (s : SX) : Ct (wfX t) inI G M_X5_of [.ref 0, .int l1, .int l2] s (fX5_of l1 l2 s) := by
  refine Ct.of (L0 := [some (.ref 0), some (.int l1), some (.int l2)]) 0 rfl rfl ⟨rfl, rfl⟩ (Nat.le_of_ble_eq_true rfl) rfl ?_
  unfold fX5_of
  refine rr_aload_n (q := 1) rfl dX5_of_0 rfl ?_
  refine rr_iload_n (q := 2) rfl dX5_of_1 rfl ?_
  refine rr_cVi (q := 5) rfl V_X5_isChild ml_X5_89 ⟨Nat.le_of_ble_eq_true rfl, Nat.le_of_ble_eq_true rfl⟩ (e_X5_isChild l1 s) w_self rfl rfl rfl rfl (Nat.le_of_ble_eq_true rfl) dX5_of_2 (fun v1 s2 => ?_)
  refine rr_if_ne 14 (q := 8) rfl dX5_of_5 rfl (fun _ => ?_) (fun _ => ?_)
  · refine rr_iload_n (q := 15) rfl dX5_of_14 rfl ?_
    refine rr_case 0 ?_ (fun hs4 => ?_)
    · refine rr_tableIn 52 dX5_of_15 (by decide) (by decide) rfl rfl ?_
      refine rr_aload_n (q := 53) rfl dX5_of_52 rfl ?_
      refine rr_get (q := 56) rfl fl_X5_10 w_self rfl dX5_of_53 ?_
      refine rr_get (q := 59) rfl fl_X5_92 (w_realm (by decide)) rfl dX5_of_56 ?_
      refine rr_iload_n (q := 60) rfl dX5_of_59 rfl ?_
      refine rr_iald (q := 61) rfl (w_rarr1 (by decide)) dX5_of_60 (fun n3 => ?_)
      exact rr_iret dX5_of_61 rfl
    · refine rr_case 1 ?_ (fun hs6 => ?_)
      · refine rr_tableIn 62 dX5_of_15 (by decide) (by decide) rfl rfl ?_
        refine rr_aload_n (q := 63) rfl dX5_of_62 rfl ?_
        refine rr_get (q := 66) rfl fl_X5_10 w_self rfl dX5_of_63 ?_
        refine rr_get (q := 69) rfl fl_X5_95 (w_realm (by decide)) rfl dX5_of_66 ?_
        refine rr_iload_n (q := 70) rfl dX5_of_69 rfl ?_
        refine rr_iald (q := 71) rfl (w_rarr2 (by decide)) dX5_of_70 (fun n5 => ?_)
        exact rr_iret dX5_of_71 rfl
      · refine rr_case 2 ?_ (fun hs8 => ?_)
        · refine rr_tableIn 72 dX5_of_15 (by decide) (by decide) rfl rfl ?_
          refine rr_aload_n (q := 73) rfl dX5_of_72 rfl ?_
          refine rr_get (q := 76) rfl fl_X5_10 w_self rfl dX5_of_73 ?_
          refine rr_get (q := 79) rfl fl_X5_98 (w_realm (by decide)) rfl dX5_of_76 ?_
          refine rr_iload_n (q := 80) rfl dX5_of_79 rfl ?_
          refine rr_iald (q := 81) rfl (w_rarr3 (by decide)) dX5_of_80 (fun n7 => ?_)
          exact rr_iret dX5_of_81 rfl
        · refine rr_case 3 ?_ (fun hs10 => ?_)
          · refine rr_tableIn 82 dX5_of_15 (by decide) (by decide) rfl rfl ?_
            refine rr_aload_n (q := 83) rfl dX5_of_82 rfl ?_
            refine rr_get (q := 86) rfl fl_X5_10 w_self rfl dX5_of_83 ?_
            refine rr_get (q := 89) rfl fl_X5_101 (w_realm (by decide)) rfl dX5_of_86 ?_
            refine rr_iload_n (q := 90) rfl dX5_of_89 rfl ?_
            refine rr_iald (q := 91) rfl (w_rarr4 (by decide)) dX5_of_90 (fun n9 => ?_)
            exact rr_iret dX5_of_91 rfl
          · refine rr_case 4 ?_ (fun hs13 => ?_)
            · refine rr_tableIn 92 dX5_of_15 (by decide) (by decide) rfl rfl ?_
              refine rr_aload_n (q := 93) rfl dX5_of_92 rfl ?_
              refine rr_get (q := 96) rfl fl_X5_10 w_self rfl dX5_of_93 ?_
              refine rr_iload_n (q := 97) rfl dX5_of_96 rfl ?_
              refine rr_cVi (q := 100) rfl V_X1_isDead ml_X5_104 ⟨Nat.le_of_ble_eq_true rfl, Nat.le_of_ble_eq_true rfl⟩ (e_X1_isDead (by decide) l1 s2) (w_realm (by decide)) rfl rfl rfl rfl (Nat.le_of_ble_eq_true rfl) dX5_of_97 (fun v11 s12 => ?_)
              refine rr_if_eq 107 (q := 103) rfl dX5_of_100 rfl (fun _ => ?_) (fun _ => ?_)
              · refine rr_iconst 0 (q := 108) rfl dX5_of_107 rfl ?_
                exact rr_iret dX5_of_108 rfl
              · refine rr_iconst 1 (q := 104) rfl dX5_of_103 rfl ?_
                refine rr_goto 108 dX5_of_104 rfl ?_
                exact rr_iret dX5_of_108 rfl
            · refine rr_case 5 ?_ (fun hs16 => ?_)
              · refine rr_tableIn 109 dX5_of_15 (by decide) (by decide) rfl rfl ?_
                refine rr_aload_n (q := 110) rfl dX5_of_109 rfl ?_
                refine rr_get (q := 113) rfl fl_X5_10 w_self rfl dX5_of_110 ?_
                refine rr_iload_n (q := 114) rfl dX5_of_113 rfl ?_
                refine rr_cVi (q := 117) rfl V_X1_lossOf ml_X5_107 ⟨Nat.le_of_ble_eq_true rfl, Nat.le_of_ble_eq_true rfl⟩ (e_X1_lossOf (by decide) l1 s2) (w_realm (by decide)) rfl rfl rfl rfl (Nat.le_of_ble_eq_true rfl) dX5_of_114 (fun v14 s15 => ?_)
                exact rr_iret dX5_of_117 rfl
              · refine rr_tableOut 118 dX5_of_15 (by have ahs4 := ne_lit (n := 0) hs4 rfl; have ahs6 := ne_lit (n := 1) hs6 rfl; have ahs8 := ne_lit (n := 2) hs8 rfl; have ahs10 := ne_lit (n := 3) hs10 rfl; have ahs13 := ne_lit (n := 4) hs13 rfl; have ahs16 := ne_lit (n := 5) hs16 rfl; omega) rfl ?_
                refine rr_aload_n (q := 119) rfl dX5_of_118 rfl ?_
                refine rr_iconst 0 (q := 120) rfl dX5_of_119 rfl ?_
                refine rr_cVi (q := 123) rfl V_X5_finding ml_X5_62 ⟨Nat.le_of_ble_eq_true rfl, Nat.le_of_ble_eq_true rfl⟩ (e_X5_finding 0 s2) w_self rfl rfl rfl rfl (Nat.le_of_ble_eq_true rfl) dX5_of_120 (fun v17 s18 => ?_)
                exact rr_iret dX5_of_123 rfl
  · refine rr_aload_n (q := 9) rfl dX5_of_8 rfl ?_
    refine rr_iconst 0 (q := 10) rfl dX5_of_9 rfl ?_
    refine rr_cVi (q := 13) rfl V_X5_finding ml_X5_62 ⟨Nat.le_of_ble_eq_true rfl, Nat.le_of_ble_eq_true rfl⟩ (e_X5_finding 0 s2) w_self rfl rfl rfl rfl (Nat.le_of_ble_eq_true rfl) dX5_of_10 (fun v19 s20 => ?_)
    exact rr_iret dX5_of_13 rfl
def fX5_move (l1 : Int32) (l2 : Int32) (s : SX) : Option (Int32 × SX) :=
  bd (fX5_isChild l1 s) fun v1 s2 =>
  (if v1 = 0 then
  bd (fX5_finding 0 s2) fun v3 s4 =>
  some (v3, s4)
  else
  bd (fX5_isKing l2 s2) fun v5 s6 =>
  (if v5 = 0 then
  bd (fX5_finding 0 s6) fun v15 s16 =>
  some (v15, s16)
  else
  bd (fX1_isDead 0 l1 s6) fun v7 s8 =>
  (if v7 = 0 then
  ixg l1 14 fun n9 =>
  vl (gX s8 0 3 n9) fun y10 =>
  ixg l1 14 fun n11 => vl (wX s8 0 3 n11 l2) fun s12 =>
  some (y10, s12)
  else
  bd (fX5_finding 4 s8) fun v13 s14 =>
  some (v13, s14))))
set_option maxRecDepth 100000 in
set_option maxHeartbeats 4000000 in
theorem e_X5_move {G : Cf} {t : SM} (l1 : Int32) (l2 : Int32) (s : SX) : Ct (wfX t) inI G M_X5_move [.ref 0, .int l1, .int l2] s (fX5_move l1 l2 s) := by
  refine Ct.of (L0 := [some (.ref 0), some (.int l1), some (.int l2), none]) 1 rfl rfl ⟨rfl, rfl⟩ (Nat.le_of_ble_eq_true rfl) rfl ?_
  unfold fX5_move
  refine rr_aload_n (q := 1) rfl dX5_move_0 rfl ?_
  refine rr_iload_n (q := 2) rfl dX5_move_1 rfl ?_
  refine rr_cVi (q := 5) rfl V_X5_isChild ml_X5_89 ⟨Nat.le_of_ble_eq_true rfl, Nat.le_of_ble_eq_true rfl⟩ (e_X5_isChild l1 s) w_self rfl rfl rfl rfl (Nat.le_of_ble_eq_true rfl) dX5_move_2 (fun v1 s2 => ?_)
  refine rr_if_eq 15 (q := 8) rfl dX5_move_5 rfl (fun _ => ?_) (fun _ => ?_)
  · refine rr_aload_n (q := 16) rfl dX5_move_15 rfl ?_
    refine rr_iconst 0 (q := 17) rfl dX5_move_16 rfl ?_
    refine rr_cVi (q := 20) rfl V_X5_finding ml_X5_62 ⟨Nat.le_of_ble_eq_true rfl, Nat.le_of_ble_eq_true rfl⟩ (e_X5_finding 0 s2) w_self rfl rfl rfl rfl (Nat.le_of_ble_eq_true rfl) dX5_move_17 (fun v3 s4 => ?_)
    exact rr_iret dX5_move_20 rfl
  · refine rr_iload_n (q := 9) rfl dX5_move_8 rfl ?_
    refine rr_cSi (q := 12) rfl V_X5_isKing ml_X5_54 ⟨Nat.le_of_ble_eq_true rfl, Nat.le_of_ble_eq_true rfl⟩ (e_X5_isKing l2 s2) rfl rfl (Nat.le_of_ble_eq_true rfl) dX5_move_9 (fun v5 s6 => ?_)
    refine rr_if_ne 21 (q := 15) rfl dX5_move_12 rfl (fun _ => ?_) (fun _ => ?_)
    · refine rr_aload_n (q := 22) rfl dX5_move_21 rfl ?_
      refine rr_get (q := 25) rfl fl_X5_10 w_self rfl dX5_move_22 ?_
      refine rr_iload_n (q := 26) rfl dX5_move_25 rfl ?_
      refine rr_cVi (q := 29) rfl V_X1_isDead ml_X5_104 ⟨Nat.le_of_ble_eq_true rfl, Nat.le_of_ble_eq_true rfl⟩ (e_X1_isDead (by decide) l1 s6) (w_realm (by decide)) rfl rfl rfl rfl (Nat.le_of_ble_eq_true rfl) dX5_move_26 (fun v7 s8 => ?_)
      refine rr_if_eq 38 (q := 32) rfl dX5_move_29 rfl (fun _ => ?_) (fun _ => ?_)
      · refine rr_aload_n (q := 39) rfl dX5_move_38 rfl ?_
        refine rr_get (q := 42) rfl fl_X5_10 w_self rfl dX5_move_39 ?_
        refine rr_get (q := 45) rfl fl_X5_98 (w_realm (by decide)) rfl dX5_move_42 ?_
        refine rr_iload_n (q := 46) rfl dX5_move_45 rfl ?_
        refine rr_iald (q := 47) rfl (w_rarr3 (by decide)) dX5_move_46 (fun n9 => ?_)
        refine rr_istore_n (L2 := fun y10 => [some (.ref 0), some (.int l1), some (.int l2), some (.int y10)]) (q := 48) rfl dX5_move_47 (Nat.le_of_ble_eq_true rfl) (fun _ => rfl) (fun y10 => ?_)
        refine rr_aload_n (q := 49) rfl dX5_move_48 rfl ?_
        refine rr_get (q := 52) rfl fl_X5_10 w_self rfl dX5_move_49 ?_
        refine rr_get (q := 55) rfl fl_X5_98 (w_realm (by decide)) rfl dX5_move_52 ?_
        refine rr_iload_n (q := 56) rfl dX5_move_55 rfl ?_
        refine rr_iload_n (q := 57) rfl dX5_move_56 rfl ?_
        refine rr_iast (q := 58) rfl (w_rarr3 (by decide)) (fun _ => (u_rarr3 (by decide))) dX5_move_57 (fun n11 s12 => ?_)
        refine rr_iload_n (q := 59) rfl dX5_move_58 rfl ?_
        exact rr_iret dX5_move_59 rfl
      · refine rr_aload_n (q := 33) rfl dX5_move_32 rfl ?_
        refine rr_iconst 4 (q := 34) rfl dX5_move_33 rfl ?_
        refine rr_cVi (q := 37) rfl V_X5_finding ml_X5_62 ⟨Nat.le_of_ble_eq_true rfl, Nat.le_of_ble_eq_true rfl⟩ (e_X5_finding 4 s8) w_self rfl rfl rfl rfl (Nat.le_of_ble_eq_true rfl) dX5_move_34 (fun v13 s14 => ?_)
        exact rr_iret dX5_move_37 rfl
    · refine rr_aload_n (q := 16) rfl dX5_move_15 rfl ?_
      refine rr_iconst 0 (q := 17) rfl dX5_move_16 rfl ?_
      refine rr_cVi (q := 20) rfl V_X5_finding ml_X5_62 ⟨Nat.le_of_ble_eq_true rfl, Nat.le_of_ble_eq_true rfl⟩ (e_X5_finding 0 s6) w_self rfl rfl rfl rfl (Nat.le_of_ble_eq_true rfl) dX5_move_17 (fun v15 s16 => ?_)
      exact rr_iret dX5_move_20 rfl
def fX5_worth (l1 : Int32) (l2 : Int32) (s : SX) : Option (Int32 × SX) :=
  bd (fX5_isChild l1 s) fun v1 s2 =>
  (if v1 = 0 then
  bd (fX5_finding 0 s2) fun v3 s4 =>
  some (v3, s4)
  else
  bd (fX5_isWithin l2 99 s2) fun v5 s6 =>
  (if v5 = 0 then
  bd (fX5_finding 0 s6) fun v11 s12 =>
  some (v11, s12)
  else
  ixg l1 14 fun n7 =>
  vl (gX s6 0 4 n7) fun y8 =>
  ixg l1 14 fun n9 => vl (wX s6 0 4 n9 l2) fun s10 =>
  some (y8, s10)))
set_option maxRecDepth 100000 in
set_option maxHeartbeats 4000000 in
theorem e_X5_worth {G : Cf} {t : SM} (l1 : Int32) (l2 : Int32) (s : SX) : Ct (wfX t) inI G M_X5_worth [.ref 0, .int l1, .int l2] s (fX5_worth l1 l2 s) := by
  refine Ct.of (L0 := [some (.ref 0), some (.int l1), some (.int l2), none]) 1 rfl rfl ⟨rfl, rfl⟩ (Nat.le_of_ble_eq_true rfl) rfl ?_
  unfold fX5_worth
  refine rr_aload_n (q := 1) rfl dX5_worth_0 rfl ?_
  refine rr_iload_n (q := 2) rfl dX5_worth_1 rfl ?_
  refine rr_cVi (q := 5) rfl V_X5_isChild ml_X5_89 ⟨Nat.le_of_ble_eq_true rfl, Nat.le_of_ble_eq_true rfl⟩ (e_X5_isChild l1 s) w_self rfl rfl rfl rfl (Nat.le_of_ble_eq_true rfl) dX5_worth_2 (fun v1 s2 => ?_)
  refine rr_if_eq 17 (q := 8) rfl dX5_worth_5 rfl (fun _ => ?_) (fun _ => ?_)
  · refine rr_aload_n (q := 18) rfl dX5_worth_17 rfl ?_
    refine rr_iconst 0 (q := 19) rfl dX5_worth_18 rfl ?_
    refine rr_cVi (q := 22) rfl V_X5_finding ml_X5_62 ⟨Nat.le_of_ble_eq_true rfl, Nat.le_of_ble_eq_true rfl⟩ (e_X5_finding 0 s2) w_self rfl rfl rfl rfl (Nat.le_of_ble_eq_true rfl) dX5_worth_19 (fun v3 s4 => ?_)
    exact rr_iret dX5_worth_22 rfl
  · refine rr_iload_n (q := 9) rfl dX5_worth_8 rfl ?_
    refine rr_bipush 99 (q := 11) rfl dX5_worth_9 rfl ?_
    refine rr_cSi (q := 14) rfl V_X5_isWithin ml_X5_58 ⟨Nat.le_of_ble_eq_true rfl, Nat.le_of_ble_eq_true rfl⟩ (e_X5_isWithin l2 99 s2) rfl rfl (Nat.le_of_ble_eq_true rfl) dX5_worth_11 (fun v5 s6 => ?_)
    refine rr_if_ne 23 (q := 17) rfl dX5_worth_14 rfl (fun _ => ?_) (fun _ => ?_)
    · refine rr_aload_n (q := 24) rfl dX5_worth_23 rfl ?_
      refine rr_get (q := 27) rfl fl_X5_10 w_self rfl dX5_worth_24 ?_
      refine rr_get (q := 30) rfl fl_X5_101 (w_realm (by decide)) rfl dX5_worth_27 ?_
      refine rr_iload_n (q := 31) rfl dX5_worth_30 rfl ?_
      refine rr_iald (q := 32) rfl (w_rarr4 (by decide)) dX5_worth_31 (fun n7 => ?_)
      refine rr_istore_n (L2 := fun y8 => [some (.ref 0), some (.int l1), some (.int l2), some (.int y8)]) (q := 33) rfl dX5_worth_32 (Nat.le_of_ble_eq_true rfl) (fun _ => rfl) (fun y8 => ?_)
      refine rr_aload_n (q := 34) rfl dX5_worth_33 rfl ?_
      refine rr_get (q := 37) rfl fl_X5_10 w_self rfl dX5_worth_34 ?_
      refine rr_get (q := 40) rfl fl_X5_101 (w_realm (by decide)) rfl dX5_worth_37 ?_
      refine rr_iload_n (q := 41) rfl dX5_worth_40 rfl ?_
      refine rr_iload_n (q := 42) rfl dX5_worth_41 rfl ?_
      refine rr_iast (q := 43) rfl (w_rarr4 (by decide)) (fun _ => (u_rarr4 (by decide))) dX5_worth_42 (fun n9 s10 => ?_)
      refine rr_iload_n (q := 44) rfl dX5_worth_43 rfl ?_
      exact rr_iret dX5_worth_44 rfl
    · refine rr_aload_n (q := 18) rfl dX5_worth_17 rfl ?_
      refine rr_iconst 0 (q := 19) rfl dX5_worth_18 rfl ?_
      refine rr_cVi (q := 22) rfl V_X5_finding ml_X5_62 ⟨Nat.le_of_ble_eq_true rfl, Nat.le_of_ble_eq_true rfl⟩ (e_X5_finding 0 s6) w_self rfl rfl rfl rfl (Nat.le_of_ble_eq_true rfl) dX5_worth_19 (fun v11 s12 => ?_)
      exact rr_iret dX5_worth_22 rfl
def fX5_turn (l1 : Int32) (l2 : Int32) (s : SX) : Option (Int32 × SX) :=
  bd (fX5_isChild l1 s) fun v1 s2 =>
  (if v1 = 0 then
  bd (fX5_finding 0 s2) fun v3 s4 =>
  some (v3, s4)
  else
  bd (fX5_isKind l2 s2) fun v5 s6 =>
  (if v5 = 0 then
  bd (fX5_finding 0 s6) fun v11 s12 =>
  some (v11, s12)
  else
  ixg l1 14 fun n7 =>
  vl (gX s6 0 1 n7) fun y8 =>
  ixg l1 14 fun n9 => vl (wX s6 0 1 n9 l2) fun s10 =>
  some (y8, s10)))
set_option maxRecDepth 100000 in
set_option maxHeartbeats 4000000 in
theorem e_X5_turn {G : Cf} {t : SM} (l1 : Int32) (l2 : Int32) (s : SX) : Ct (wfX t) inI G M_X5_turn [.ref 0, .int l1, .int l2] s (fX5_turn l1 l2 s) := by
  refine Ct.of (L0 := [some (.ref 0), some (.int l1), some (.int l2), none]) 1 rfl rfl ⟨rfl, rfl⟩ (Nat.le_of_ble_eq_true rfl) rfl ?_
  unfold fX5_turn
  refine rr_aload_n (q := 1) rfl dX5_turn_0 rfl ?_
  refine rr_iload_n (q := 2) rfl dX5_turn_1 rfl ?_
  refine rr_cVi (q := 5) rfl V_X5_isChild ml_X5_89 ⟨Nat.le_of_ble_eq_true rfl, Nat.le_of_ble_eq_true rfl⟩ (e_X5_isChild l1 s) w_self rfl rfl rfl rfl (Nat.le_of_ble_eq_true rfl) dX5_turn_2 (fun v1 s2 => ?_)
  refine rr_if_eq 15 (q := 8) rfl dX5_turn_5 rfl (fun _ => ?_) (fun _ => ?_)
  · refine rr_aload_n (q := 16) rfl dX5_turn_15 rfl ?_
    refine rr_iconst 0 (q := 17) rfl dX5_turn_16 rfl ?_
    refine rr_cVi (q := 20) rfl V_X5_finding ml_X5_62 ⟨Nat.le_of_ble_eq_true rfl, Nat.le_of_ble_eq_true rfl⟩ (e_X5_finding 0 s2) w_self rfl rfl rfl rfl (Nat.le_of_ble_eq_true rfl) dX5_turn_17 (fun v3 s4 => ?_)
    exact rr_iret dX5_turn_20 rfl
  · refine rr_iload_n (q := 9) rfl dX5_turn_8 rfl ?_
    refine rr_cSi (q := 12) rfl V_X5_isKind ml_X5_78 ⟨Nat.le_of_ble_eq_true rfl, Nat.le_of_ble_eq_true rfl⟩ (e_X5_isKind l2 s2) rfl rfl (Nat.le_of_ble_eq_true rfl) dX5_turn_9 (fun v5 s6 => ?_)
    refine rr_if_ne 21 (q := 15) rfl dX5_turn_12 rfl (fun _ => ?_) (fun _ => ?_)
    · refine rr_aload_n (q := 22) rfl dX5_turn_21 rfl ?_
      refine rr_get (q := 25) rfl fl_X5_10 w_self rfl dX5_turn_22 ?_
      refine rr_get (q := 28) rfl fl_X5_92 (w_realm (by decide)) rfl dX5_turn_25 ?_
      refine rr_iload_n (q := 29) rfl dX5_turn_28 rfl ?_
      refine rr_iald (q := 30) rfl (w_rarr1 (by decide)) dX5_turn_29 (fun n7 => ?_)
      refine rr_istore_n (L2 := fun y8 => [some (.ref 0), some (.int l1), some (.int l2), some (.int y8)]) (q := 31) rfl dX5_turn_30 (Nat.le_of_ble_eq_true rfl) (fun _ => rfl) (fun y8 => ?_)
      refine rr_aload_n (q := 32) rfl dX5_turn_31 rfl ?_
      refine rr_get (q := 35) rfl fl_X5_10 w_self rfl dX5_turn_32 ?_
      refine rr_get (q := 38) rfl fl_X5_92 (w_realm (by decide)) rfl dX5_turn_35 ?_
      refine rr_iload_n (q := 39) rfl dX5_turn_38 rfl ?_
      refine rr_iload_n (q := 40) rfl dX5_turn_39 rfl ?_
      refine rr_iast (q := 41) rfl (w_rarr1 (by decide)) (fun _ => (u_rarr1 (by decide))) dX5_turn_40 (fun n9 s10 => ?_)
      refine rr_iload_n (q := 42) rfl dX5_turn_41 rfl ?_
      exact rr_iret dX5_turn_42 rfl
    · refine rr_aload_n (q := 16) rfl dX5_turn_15 rfl ?_
      refine rr_iconst 0 (q := 17) rfl dX5_turn_16 rfl ?_
      refine rr_cVi (q := 20) rfl V_X5_finding ml_X5_62 ⟨Nat.le_of_ble_eq_true rfl, Nat.le_of_ble_eq_true rfl⟩ (e_X5_finding 0 s6) w_self rfl rfl rfl rfl (Nat.le_of_ble_eq_true rfl) dX5_turn_17 (fun v11 s12 => ?_)
      exact rr_iret dX5_turn_20 rfl
def fX5_isKindUnder_4b (k4 : Int32 → Int32 → Int32 → SX → Option (Int32 × SX)) (l1 : Int32) (l2 : Int32) (l3 : Int32) (s : SX) : Option (Int32 × SX) :=
  (if 6 ≤ l3 then
  some (0, s)
  else
  (if l2 < 0 then
  some (0, s)
  else
  (if l2 = l1 then
  some (1, s)
  else
  ixg l2 6 fun n3 =>
  vl (kaf n3) fun y4 =>
  vl (l3 + 1) fun y5 =>
  k4 l1 y4 y5 s)))
set_option maxRecDepth 100000 in
set_option maxHeartbeats 4000000 in
theorem e_X5_isKindUnder_4b {G : Cf} {t : SM} {k4 : Int32 → Int32 → Int32 → SX → Option (Int32 × SX)} (hk4 : ∀ (l1 : Int32) (l2 : Int32) (l3 : Int32) (s : SX), R (wfX t) inI G M_X5_isKindUnder 4 [none, some (.int l1), some (.int l2), some (.int l3)] [] s (k4 l1 l2 l3 s)) (l1 : Int32) (l2 : Int32) (l3 : Int32) (s : SX) : R (wfX t) inI G M_X5_isKindUnder 4 [none, some (.int l1), some (.int l2), some (.int l3)] [] s (fX5_isKindUnder_4b k4 l1 l2 l3 s) := by
  unfold fX5_isKindUnder_4b
  refine rr_iload_n (q := 5) rfl dX5_isKindUnder_4 rfl ?_
  refine rr_bipush 6 (q := 7) rfl dX5_isKindUnder_5 rfl ?_
  refine rr_icmp_ge 33 (q := 10) rfl dX5_isKindUnder_7 rfl (fun _ => ?_) (fun _ => ?_)
  · refine rr_iconst 0 (q := 34) rfl dX5_isKindUnder_33 rfl ?_
    exact rr_zret dX5_isKindUnder_34 rfl (Or.inl rfl)
  · refine rr_iload_n (q := 11) rfl dX5_isKindUnder_10 rfl ?_
    refine rr_if_lt 33 (q := 14) rfl dX5_isKindUnder_11 rfl (fun _ => ?_) (fun _ => ?_)
    · refine rr_iconst 0 (q := 34) rfl dX5_isKindUnder_33 rfl ?_
      exact rr_zret dX5_isKindUnder_34 rfl (Or.inl rfl)
    · refine rr_iload_n (q := 15) rfl dX5_isKindUnder_14 rfl ?_
      refine rr_iload_n (q := 16) rfl dX5_isKindUnder_15 rfl ?_
      refine rr_icmp_ne 21 (q := 19) rfl dX5_isKindUnder_16 rfl (fun _ => ?_) (fun _ => ?_)
      · refine rr_ka (q := 24) rfl sl_X5_291 dX5_isKindUnder_21 ?_
        refine rr_iload_n (q := 25) rfl dX5_isKindUnder_24 rfl ?_
        refine rr_kald (q := 26) rfl dX5_isKindUnder_25 (fun n3 => ?_)
        refine rr_istore_n (L2 := fun y4 => [none, some (.int l1), some (.int y4), some (.int l3)]) (q := 27) rfl dX5_isKindUnder_26 (Nat.le_of_ble_eq_true rfl) (fun _ => rfl) (fun y4 => ?_)
        refine rr_iinc (L2 := fun y5 => [none, some (.int l1), some (.int y4), some (.int y5)]) (q := 30) rfl dX5_isKindUnder_27 rfl rfl (Nat.le_of_ble_eq_true rfl) (fun _ => rfl) (fun y5 => ?_)
        refine rr_goto 4 dX5_isKindUnder_30 rfl ?_
        exact hk4 l1 y4 y5 s
      · refine rr_iconst 1 (q := 20) rfl dX5_isKindUnder_19 rfl ?_
        exact rr_zret dX5_isKindUnder_20 rfl (Or.inr rfl)
def fX5_isKindUnder_4 : Nat → Int32 → Int32 → Int32 → SX → Option (Int32 × SX) := lp (fun _ _ _ _ => none) (fX5_isKindUnder_4b)
theorem e_X5_isKindUnder_4 {G : Cf} {t : SM}  (n : Nat) : ∀ (l1 : Int32) (l2 : Int32) (l3 : Int32) (s : SX), R (wfX t) inI G M_X5_isKindUnder 4 [none, some (.int l1), some (.int l2), some (.int l3)] [] s (fX5_isKindUnder_4 n l1 l2 l3 s) := by
  unfold fX5_isKindUnder_4
  exact rr_lp (P := fun (kz : Int32 → Int32 → Int32 → SX → Option (Int32 × SX)) => ∀ (l1 : Int32) (l2 : Int32) (l3 : Int32) (s : SX), R (wfX t) inI G M_X5_isKindUnder 4 [none, some (.int l1), some (.int l2), some (.int l3)] [] s (kz l1 l2 l3 s)) (fun _ _ _ _ => rr_none) (fun kz hkz => fun l1 l2 l3 s => e_X5_isKindUnder_4b hkz l1 l2 l3 s) n
def fX5_isKindUnder (l0 : Int32) (l1 : Int32) (s : SX) : Option (Int32 × SX) :=
  vl l0 fun y1 =>
  vl 0 fun y2 =>
  fX5_isKindUnder_4 400 l1 y1 y2 s
set_option maxRecDepth 100000 in
set_option maxHeartbeats 4000000 in
theorem e_X5_isKindUnder {G : Cf} {t : SM} (l0 : Int32) (l1 : Int32) (s : SX) : Ct (wfX t) inI G M_X5_isKindUnder [.int l0, .int l1] s (fX5_isKindUnder l0 l1 s) := by
  refine Ct.of (L0 := [some (.int l0), some (.int l1), none, none]) 2 rfl rfl ⟨rfl, rfl⟩ (Nat.le_of_ble_eq_true rfl) rfl ?_
  unfold fX5_isKindUnder
  refine rr_iload_n (q := 1) rfl dX5_isKindUnder_0 rfl ?_
  refine rr_istore_n (L2 := fun y1 => [some (.int l0), some (.int l1), some (.int y1), none]) (q := 2) rfl dX5_isKindUnder_1 (Nat.le_of_ble_eq_true rfl) (fun _ => rfl) (fun y1 => ?_)
  refine rr_iconst 0 (q := 3) rfl dX5_isKindUnder_2 rfl ?_
  refine rr_istore_n (L2 := fun y2 => [some (.int l0), some (.int l1), some (.int y1), some (.int y2)]) (q := 4) rfl dX5_isKindUnder_3 (Nat.le_of_ble_eq_true rfl) (fun _ => rfl) (fun y2 => ?_)
  refine rr_mask [false, true, true, true] (L' := [none, some (.int l1), some (.int y1), some (.int y2)]) rfl ?_
  exact e_X5_isKindUnder_4 400 l1 y1 y2 s
def fX5_as (l1 : Int32) (l2 : Int32) (s : SX) : Option (Int32 × SX) :=
  bd (fX5_isChild l1 s) fun v1 s2 =>
  (if v1 = 0 then
  bd (fX5_finding 0 s2) fun v3 s4 =>
  some (v3, s4)
  else
  bd (fX5_isKind l2 s2) fun v5 s6 =>
  (if v5 = 0 then
  bd (fX5_finding 0 s6) fun v13 s14 =>
  some (v13, s14)
  else
  ixg l1 14 fun n7 =>
  bd (fX5_isKindUnder (gX s6 0 1 n7) l2 s6) fun v8 s9 =>
  (if v8 = 0 then
  bd (fX5_finding 2 s9) fun v11 s12 =>
  some (v11, s12)
  else
  ixg l1 14 fun n10 =>
  some (gX s9 0 3 n10, s9))))
set_option maxRecDepth 100000 in
set_option maxHeartbeats 4000000 in
theorem e_X5_as {G : Cf} {t : SM} (l1 : Int32) (l2 : Int32) (s : SX) : Ct (wfX t) inI G M_X5_as [.ref 0, .int l1, .int l2] s (fX5_as l1 l2 s) := by
  refine Ct.of (L0 := [some (.ref 0), some (.int l1), some (.int l2)]) 0 rfl rfl ⟨rfl, rfl⟩ (Nat.le_of_ble_eq_true rfl) rfl ?_
  unfold fX5_as
  refine rr_aload_n (q := 1) rfl dX5_as_0 rfl ?_
  refine rr_iload_n (q := 2) rfl dX5_as_1 rfl ?_
  refine rr_cVi (q := 5) rfl V_X5_isChild ml_X5_89 ⟨Nat.le_of_ble_eq_true rfl, Nat.le_of_ble_eq_true rfl⟩ (e_X5_isChild l1 s) w_self rfl rfl rfl rfl (Nat.le_of_ble_eq_true rfl) dX5_as_2 (fun v1 s2 => ?_)
  refine rr_if_eq 15 (q := 8) rfl dX5_as_5 rfl (fun _ => ?_) (fun _ => ?_)
  · refine rr_aload_n (q := 16) rfl dX5_as_15 rfl ?_
    refine rr_iconst 0 (q := 17) rfl dX5_as_16 rfl ?_
    refine rr_cVi (q := 20) rfl V_X5_finding ml_X5_62 ⟨Nat.le_of_ble_eq_true rfl, Nat.le_of_ble_eq_true rfl⟩ (e_X5_finding 0 s2) w_self rfl rfl rfl rfl (Nat.le_of_ble_eq_true rfl) dX5_as_17 (fun v3 s4 => ?_)
    exact rr_iret dX5_as_20 rfl
  · refine rr_iload_n (q := 9) rfl dX5_as_8 rfl ?_
    refine rr_cSi (q := 12) rfl V_X5_isKind ml_X5_78 ⟨Nat.le_of_ble_eq_true rfl, Nat.le_of_ble_eq_true rfl⟩ (e_X5_isKind l2 s2) rfl rfl (Nat.le_of_ble_eq_true rfl) dX5_as_9 (fun v5 s6 => ?_)
    refine rr_if_ne 21 (q := 15) rfl dX5_as_12 rfl (fun _ => ?_) (fun _ => ?_)
    · refine rr_aload_n (q := 22) rfl dX5_as_21 rfl ?_
      refine rr_get (q := 25) rfl fl_X5_10 w_self rfl dX5_as_22 ?_
      refine rr_get (q := 28) rfl fl_X5_92 (w_realm (by decide)) rfl dX5_as_25 ?_
      refine rr_iload_n (q := 29) rfl dX5_as_28 rfl ?_
      refine rr_iald (q := 30) rfl (w_rarr1 (by decide)) dX5_as_29 (fun n7 => ?_)
      refine rr_iload_n (q := 31) rfl dX5_as_30 rfl ?_
      refine rr_cSi (q := 34) rfl V_X5_isKindUnder ml_X5_110 ⟨Nat.le_of_ble_eq_true rfl, Nat.le_of_ble_eq_true rfl⟩ (e_X5_isKindUnder (gX s6 0 1 n7) l2 s6) rfl rfl (Nat.le_of_ble_eq_true rfl) dX5_as_31 (fun v8 s9 => ?_)
      refine rr_if_ne 43 (q := 37) rfl dX5_as_34 rfl (fun _ => ?_) (fun _ => ?_)
      · refine rr_aload_n (q := 44) rfl dX5_as_43 rfl ?_
        refine rr_get (q := 47) rfl fl_X5_10 w_self rfl dX5_as_44 ?_
        refine rr_get (q := 50) rfl fl_X5_98 (w_realm (by decide)) rfl dX5_as_47 ?_
        refine rr_iload_n (q := 51) rfl dX5_as_50 rfl ?_
        refine rr_iald (q := 52) rfl (w_rarr3 (by decide)) dX5_as_51 (fun n10 => ?_)
        exact rr_iret dX5_as_52 rfl
      · refine rr_aload_n (q := 38) rfl dX5_as_37 rfl ?_
        refine rr_iconst 2 (q := 39) rfl dX5_as_38 rfl ?_
        refine rr_cVi (q := 42) rfl V_X5_finding ml_X5_62 ⟨Nat.le_of_ble_eq_true rfl, Nat.le_of_ble_eq_true rfl⟩ (e_X5_finding 2 s9) w_self rfl rfl rfl rfl (Nat.le_of_ble_eq_true rfl) dX5_as_39 (fun v11 s12 => ?_)
        exact rr_iret dX5_as_42 rfl
    · refine rr_aload_n (q := 16) rfl dX5_as_15 rfl ?_
      refine rr_iconst 0 (q := 17) rfl dX5_as_16 rfl ?_
      refine rr_cVi (q := 20) rfl V_X5_finding ml_X5_62 ⟨Nat.le_of_ble_eq_true rfl, Nat.le_of_ble_eq_true rfl⟩ (e_X5_finding 0 s6) w_self rfl rfl rfl rfl (Nat.le_of_ble_eq_true rfl) dX5_as_17 (fun v13 s14 => ?_)
      exact rr_iret dX5_as_20 rfl
def fX5_dies (l1 : Int32) (s : SX) : Option (Int32 × SX) :=
  bd (fX5_isChild l1 s) fun v1 s2 =>
  (if v1 = 0 then
  bd (fX5_finding 0 s2) fun v15 s16 =>
  some (v15, s16)
  else
  bd (fX1_isDead 0 l1 s2) fun v3 s4 =>
  (if v3 = 0 then
  bd (fX1_looseWords 0 s4) fun v5 s6 =>
  vl v5 fun y7 =>
  vl (wX s6 0 10 12 ((gX s6 0 10 12) ||| (1 <<< (l1 &&& 31)))) fun s8 =>
  bd (fX1_looseWords 0 s8) fun v9 s10 =>
  bd (fJ6_bitCount_0f7a4 (v9 &&& (y7 ^^^ (-1))) s10) fun v11 s12 =>
  some (v11, s12)
  else
  bd (fX5_finding 4 s4) fun v13 s14 =>
  some (v13, s14)))
set_option maxRecDepth 100000 in
set_option maxHeartbeats 4000000 in
theorem e_X5_dies {G : Cf} {t : SM} (l1 : Int32) (s : SX) : Ct (wfX t) inI G M_X5_dies [.ref 0, .int l1] s (fX5_dies l1 s) := by
  refine Ct.of (L0 := [some (.ref 0), some (.int l1), none]) 1 rfl rfl ⟨rfl, rfl⟩ (Nat.le_of_ble_eq_true rfl) rfl ?_
  unfold fX5_dies
  refine rr_aload_n (q := 1) rfl dX5_dies_0 rfl ?_
  refine rr_iload_n (q := 2) rfl dX5_dies_1 rfl ?_
  refine rr_cVi (q := 5) rfl V_X5_isChild ml_X5_89 ⟨Nat.le_of_ble_eq_true rfl, Nat.le_of_ble_eq_true rfl⟩ (e_X5_isChild l1 s) w_self rfl rfl rfl rfl (Nat.le_of_ble_eq_true rfl) dX5_dies_2 (fun v1 s2 => ?_)
  refine rr_if_ne 14 (q := 8) rfl dX5_dies_5 rfl (fun _ => ?_) (fun _ => ?_)
  · refine rr_aload_n (q := 15) rfl dX5_dies_14 rfl ?_
    refine rr_get (q := 18) rfl fl_X5_10 w_self rfl dX5_dies_15 ?_
    refine rr_iload_n (q := 19) rfl dX5_dies_18 rfl ?_
    refine rr_cVi (q := 22) rfl V_X1_isDead ml_X5_104 ⟨Nat.le_of_ble_eq_true rfl, Nat.le_of_ble_eq_true rfl⟩ (e_X1_isDead (by decide) l1 s2) (w_realm (by decide)) rfl rfl rfl rfl (Nat.le_of_ble_eq_true rfl) dX5_dies_19 (fun v3 s4 => ?_)
    refine rr_if_eq 31 (q := 25) rfl dX5_dies_22 rfl (fun _ => ?_) (fun _ => ?_)
    · refine rr_aload_n (q := 32) rfl dX5_dies_31 rfl ?_
      refine rr_get (q := 35) rfl fl_X5_10 w_self rfl dX5_dies_32 ?_
      refine rr_cVi (q := 38) rfl V_X1_looseWords ml_X5_113 ⟨Nat.le_of_ble_eq_true rfl, Nat.le_of_ble_eq_true rfl⟩ (e_X1_looseWords (by decide) s4) (w_realm (by decide)) rfl rfl rfl rfl (Nat.le_of_ble_eq_true rfl) dX5_dies_35 (fun v5 s6 => ?_)
      refine rr_istore_n (L2 := fun y7 => [some (.ref 0), some (.int l1), some (.int y7)]) (q := 39) rfl dX5_dies_38 (Nat.le_of_ble_eq_true rfl) (fun _ => rfl) (fun y7 => ?_)
      refine rr_aload_n (q := 40) rfl dX5_dies_39 rfl ?_
      refine rr_get (q := 43) rfl fl_X5_10 w_self rfl dX5_dies_40 ?_
      refine rr_dup (q := 44) rfl dX5_dies_43 rfl ?_
      refine rr_get (q := 47) rfl fl_X5_117 (w_realm (by decide)) rfl dX5_dies_44 ?_
      refine rr_iconst 1 (q := 48) rfl dX5_dies_47 rfl ?_
      refine rr_iload_n (q := 49) rfl dX5_dies_48 rfl ?_
      refine rr_ishl (q := 50) rfl dX5_dies_49 ?_
      refine rr_ior (q := 51) rfl dX5_dies_50 ?_
      refine rr_puti (q := 54) rfl fl_X5_117 fp_X1_12 (w_realm (by decide)) (Nat.le_of_ble_eq_true rfl) (u_realm12 (by decide)) dX5_dies_51 (fun s8 => ?_)
      refine rr_aload_n (q := 55) rfl dX5_dies_54 rfl ?_
      refine rr_get (q := 58) rfl fl_X5_10 w_self rfl dX5_dies_55 ?_
      refine rr_cVi (q := 61) rfl V_X1_looseWords ml_X5_113 ⟨Nat.le_of_ble_eq_true rfl, Nat.le_of_ble_eq_true rfl⟩ (e_X1_looseWords (by decide) s8) (w_realm (by decide)) rfl rfl rfl rfl (Nat.le_of_ble_eq_true rfl) dX5_dies_58 (fun v9 s10 => ?_)
      refine rr_iload_n (q := 62) rfl dX5_dies_61 rfl ?_
      refine rr_iconst (-1) (q := 63) rfl dX5_dies_62 rfl ?_
      refine rr_ixor (q := 64) rfl dX5_dies_63 ?_
      refine rr_iand (q := 65) rfl dX5_dies_64 ?_
      refine rr_cSi (q := 68) rfl V_J6_bitCount_0f7a4 ml_X5_120 ⟨Nat.le_of_ble_eq_true rfl, Nat.le_of_ble_eq_true rfl⟩ (e_J6_bitCount_0f7a4 (v9 &&& (y7 ^^^ (-1))) s10) rfl rfl (Nat.le_of_ble_eq_true rfl) dX5_dies_65 (fun v11 s12 => ?_)
      exact rr_iret dX5_dies_68 rfl
    · refine rr_aload_n (q := 26) rfl dX5_dies_25 rfl ?_
      refine rr_iconst 4 (q := 27) rfl dX5_dies_26 rfl ?_
      refine rr_cVi (q := 30) rfl V_X5_finding ml_X5_62 ⟨Nat.le_of_ble_eq_true rfl, Nat.le_of_ble_eq_true rfl⟩ (e_X5_finding 4 s4) w_self rfl rfl rfl rfl (Nat.le_of_ble_eq_true rfl) dX5_dies_27 (fun v13 s14 => ?_)
      exact rr_iret dX5_dies_30 rfl
  · refine rr_aload_n (q := 9) rfl dX5_dies_8 rfl ?_
    refine rr_iconst 0 (q := 10) rfl dX5_dies_9 rfl ?_
    refine rr_cVi (q := 13) rfl V_X5_finding ml_X5_62 ⟨Nat.le_of_ble_eq_true rfl, Nat.le_of_ble_eq_true rfl⟩ (e_X5_finding 0 s2) w_self rfl rfl rfl rfl (Nat.le_of_ble_eq_true rfl) dX5_dies_10 (fun v15 s16 => ?_)
    exact rr_iret dX5_dies_13 rfl
def fX5_swap (l1 : Int32) (l2 : Int32) (s : SX) : Option (Int32 × SX) :=
  bd (fX5_isChild l1 s) fun v1 s2 =>
  (if v1 = 0 then
  bd (fX5_finding 0 s2) fun v3 s4 =>
  some (v3, s4)
  else
  bd (fX5_isChild l2 s2) fun v5 s6 =>
  (if v5 = 0 then
  bd (fX5_finding 0 s6) fun v7 s8 =>
  some (v7, s8)
  else
  (if l1 = l2 then
  bd (fX5_finding 0 s6) fun v24 s25 =>
  some (v24, s25)
  else
  bd (fX1_isDead 0 l1 s6) fun v9 s10 =>
  (if v9 = 0 then
  bd (fX1_isDead 0 l2 s10) fun v13 s14 =>
  (if v13 = 0 then
  ixg l1 14 fun n15 =>
  vl (gX s14 0 3 n15) fun y16 =>
  ixg l2 14 fun n17 =>
  ixg l1 14 fun n18 => vl (wX s14 0 3 n18 (gX s14 0 3 n17)) fun s19 =>
  ixg l2 14 fun n20 => vl (wX s19 0 3 n20 y16) fun s21 =>
  some (1, s21)
  else
  bd (fX5_finding 4 s14) fun v22 s23 =>
  some (v22, s23))
  else
  bd (fX5_finding 4 s10) fun v11 s12 =>
  some (v11, s12)))))
set_option maxRecDepth 100000 in
set_option maxHeartbeats 4000000 in
theorem e_X5_swap {G : Cf} {t : SM} (l1 : Int32) (l2 : Int32) (s : SX) : Ct (wfX t) inI G M_X5_swap [.ref 0, .int l1, .int l2] s (fX5_swap l1 l2 s) := by
  refine Ct.of (L0 := [some (.ref 0), some (.int l1), some (.int l2), none]) 1 rfl rfl ⟨rfl, rfl⟩ (Nat.le_of_ble_eq_true rfl) rfl ?_
  unfold fX5_swap
  refine rr_aload_n (q := 1) rfl dX5_swap_0 rfl ?_
  refine rr_iload_n (q := 2) rfl dX5_swap_1 rfl ?_
  refine rr_cVi (q := 5) rfl V_X5_isChild ml_X5_89 ⟨Nat.le_of_ble_eq_true rfl, Nat.le_of_ble_eq_true rfl⟩ (e_X5_isChild l1 s) w_self rfl rfl rfl rfl (Nat.le_of_ble_eq_true rfl) dX5_swap_2 (fun v1 s2 => ?_)
  refine rr_if_eq 21 (q := 8) rfl dX5_swap_5 rfl (fun _ => ?_) (fun _ => ?_)
  · refine rr_aload_n (q := 22) rfl dX5_swap_21 rfl ?_
    refine rr_iconst 0 (q := 23) rfl dX5_swap_22 rfl ?_
    refine rr_cVi (q := 26) rfl V_X5_finding ml_X5_62 ⟨Nat.le_of_ble_eq_true rfl, Nat.le_of_ble_eq_true rfl⟩ (e_X5_finding 0 s2) w_self rfl rfl rfl rfl (Nat.le_of_ble_eq_true rfl) dX5_swap_23 (fun v3 s4 => ?_)
    exact rr_iret dX5_swap_26 rfl
  · refine rr_aload_n (q := 9) rfl dX5_swap_8 rfl ?_
    refine rr_iload_n (q := 10) rfl dX5_swap_9 rfl ?_
    refine rr_cVi (q := 13) rfl V_X5_isChild ml_X5_89 ⟨Nat.le_of_ble_eq_true rfl, Nat.le_of_ble_eq_true rfl⟩ (e_X5_isChild l2 s2) w_self rfl rfl rfl rfl (Nat.le_of_ble_eq_true rfl) dX5_swap_10 (fun v5 s6 => ?_)
    refine rr_if_eq 21 (q := 16) rfl dX5_swap_13 rfl (fun _ => ?_) (fun _ => ?_)
    · refine rr_aload_n (q := 22) rfl dX5_swap_21 rfl ?_
      refine rr_iconst 0 (q := 23) rfl dX5_swap_22 rfl ?_
      refine rr_cVi (q := 26) rfl V_X5_finding ml_X5_62 ⟨Nat.le_of_ble_eq_true rfl, Nat.le_of_ble_eq_true rfl⟩ (e_X5_finding 0 s6) w_self rfl rfl rfl rfl (Nat.le_of_ble_eq_true rfl) dX5_swap_23 (fun v7 s8 => ?_)
      exact rr_iret dX5_swap_26 rfl
    · refine rr_iload_n (q := 17) rfl dX5_swap_16 rfl ?_
      refine rr_iload_n (q := 18) rfl dX5_swap_17 rfl ?_
      refine rr_icmp_ne 27 (q := 21) rfl dX5_swap_18 rfl (fun _ => ?_) (fun _ => ?_)
      · refine rr_aload_n (q := 28) rfl dX5_swap_27 rfl ?_
        refine rr_get (q := 31) rfl fl_X5_10 w_self rfl dX5_swap_28 ?_
        refine rr_iload_n (q := 32) rfl dX5_swap_31 rfl ?_
        refine rr_cVi (q := 35) rfl V_X1_isDead ml_X5_104 ⟨Nat.le_of_ble_eq_true rfl, Nat.le_of_ble_eq_true rfl⟩ (e_X1_isDead (by decide) l1 s6) (w_realm (by decide)) rfl rfl rfl rfl (Nat.le_of_ble_eq_true rfl) dX5_swap_32 (fun v9 s10 => ?_)
        refine rr_if_ne 49 (q := 38) rfl dX5_swap_35 rfl (fun _ => ?_) (fun _ => ?_)
        · refine rr_aload_n (q := 50) rfl dX5_swap_49 rfl ?_
          refine rr_iconst 4 (q := 51) rfl dX5_swap_50 rfl ?_
          refine rr_cVi (q := 54) rfl V_X5_finding ml_X5_62 ⟨Nat.le_of_ble_eq_true rfl, Nat.le_of_ble_eq_true rfl⟩ (e_X5_finding 4 s10) w_self rfl rfl rfl rfl (Nat.le_of_ble_eq_true rfl) dX5_swap_51 (fun v11 s12 => ?_)
          exact rr_iret dX5_swap_54 rfl
        · refine rr_aload_n (q := 39) rfl dX5_swap_38 rfl ?_
          refine rr_get (q := 42) rfl fl_X5_10 w_self rfl dX5_swap_39 ?_
          refine rr_iload_n (q := 43) rfl dX5_swap_42 rfl ?_
          refine rr_cVi (q := 46) rfl V_X1_isDead ml_X5_104 ⟨Nat.le_of_ble_eq_true rfl, Nat.le_of_ble_eq_true rfl⟩ (e_X1_isDead (by decide) l2 s10) (w_realm (by decide)) rfl rfl rfl rfl (Nat.le_of_ble_eq_true rfl) dX5_swap_43 (fun v13 s14 => ?_)
          refine rr_if_eq 55 (q := 49) rfl dX5_swap_46 rfl (fun _ => ?_) (fun _ => ?_)
          · refine rr_aload_n (q := 56) rfl dX5_swap_55 rfl ?_
            refine rr_get (q := 59) rfl fl_X5_10 w_self rfl dX5_swap_56 ?_
            refine rr_get (q := 62) rfl fl_X5_98 (w_realm (by decide)) rfl dX5_swap_59 ?_
            refine rr_iload_n (q := 63) rfl dX5_swap_62 rfl ?_
            refine rr_iald (q := 64) rfl (w_rarr3 (by decide)) dX5_swap_63 (fun n15 => ?_)
            refine rr_istore_n (L2 := fun y16 => [some (.ref 0), some (.int l1), some (.int l2), some (.int y16)]) (q := 65) rfl dX5_swap_64 (Nat.le_of_ble_eq_true rfl) (fun _ => rfl) (fun y16 => ?_)
            refine rr_aload_n (q := 66) rfl dX5_swap_65 rfl ?_
            refine rr_get (q := 69) rfl fl_X5_10 w_self rfl dX5_swap_66 ?_
            refine rr_get (q := 72) rfl fl_X5_98 (w_realm (by decide)) rfl dX5_swap_69 ?_
            refine rr_iload_n (q := 73) rfl dX5_swap_72 rfl ?_
            refine rr_aload_n (q := 74) rfl dX5_swap_73 rfl ?_
            refine rr_get (q := 77) rfl fl_X5_10 w_self rfl dX5_swap_74 ?_
            refine rr_get (q := 80) rfl fl_X5_98 (w_realm (by decide)) rfl dX5_swap_77 ?_
            refine rr_iload_n (q := 81) rfl dX5_swap_80 rfl ?_
            refine rr_iald (q := 82) rfl (w_rarr3 (by decide)) dX5_swap_81 (fun n17 => ?_)
            refine rr_iast (q := 83) rfl (w_rarr3 (by decide)) (fun _ => (u_rarr3 (by decide))) dX5_swap_82 (fun n18 s19 => ?_)
            refine rr_aload_n (q := 84) rfl dX5_swap_83 rfl ?_
            refine rr_get (q := 87) rfl fl_X5_10 w_self rfl dX5_swap_84 ?_
            refine rr_get (q := 90) rfl fl_X5_98 (w_realm (by decide)) rfl dX5_swap_87 ?_
            refine rr_iload_n (q := 91) rfl dX5_swap_90 rfl ?_
            refine rr_iload_n (q := 92) rfl dX5_swap_91 rfl ?_
            refine rr_iast (q := 93) rfl (w_rarr3 (by decide)) (fun _ => (u_rarr3 (by decide))) dX5_swap_92 (fun n20 s21 => ?_)
            refine rr_iconst 1 (q := 94) rfl dX5_swap_93 rfl ?_
            exact rr_iret dX5_swap_94 rfl
          · refine rr_aload_n (q := 50) rfl dX5_swap_49 rfl ?_
            refine rr_iconst 4 (q := 51) rfl dX5_swap_50 rfl ?_
            refine rr_cVi (q := 54) rfl V_X5_finding ml_X5_62 ⟨Nat.le_of_ble_eq_true rfl, Nat.le_of_ble_eq_true rfl⟩ (e_X5_finding 4 s14) w_self rfl rfl rfl rfl (Nat.le_of_ble_eq_true rfl) dX5_swap_51 (fun v22 s23 => ?_)
            exact rr_iret dX5_swap_54 rfl
      · refine rr_aload_n (q := 22) rfl dX5_swap_21 rfl ?_
        refine rr_iconst 0 (q := 23) rfl dX5_swap_22 rfl ?_
        refine rr_cVi (q := 26) rfl V_X5_finding ml_X5_62 ⟨Nat.le_of_ble_eq_true rfl, Nat.le_of_ble_eq_true rfl⟩ (e_X5_finding 0 s6) w_self rfl rfl rfl rfl (Nat.le_of_ble_eq_true rfl) dX5_swap_23 (fun v24 s25 => ?_)
        exact rr_iret dX5_swap_26 rfl
def fX5_areTwoKings (l0 : Int32) (l1 : Int32) (s : SX) : Option (Int32 × SX) :=
  bd (fX5_isKing l0 s) fun v1 s2 =>
  (if v1 = 0 then
  some (0, s2)
  else
  bd (fX5_isKing l1 s2) fun v3 s4 =>
  (if v3 = 0 then
  some (0, s4)
  else
  (if l0 = l1 then
  some (0, s4)
  else
  some (1, s4))))
set_option maxRecDepth 100000 in
set_option maxHeartbeats 4000000 in
theorem e_X5_areTwoKings {G : Cf} {t : SM} (l0 : Int32) (l1 : Int32) (s : SX) : Ct (wfX t) inI G M_X5_areTwoKings [.int l0, .int l1] s (fX5_areTwoKings l0 l1 s) := by
  refine Ct.of (L0 := [some (.int l0), some (.int l1)]) 0 rfl rfl ⟨rfl, rfl⟩ (Nat.le_of_ble_eq_true rfl) rfl ?_
  unfold fX5_areTwoKings
  refine rr_iload_n (q := 1) rfl dX5_areTwoKings_0 rfl ?_
  refine rr_cSi (q := 4) rfl V_X5_isKing ml_X5_54 ⟨Nat.le_of_ble_eq_true rfl, Nat.le_of_ble_eq_true rfl⟩ (e_X5_isKing l0 s) rfl rfl (Nat.le_of_ble_eq_true rfl) dX5_areTwoKings_1 (fun v1 s2 => ?_)
  refine rr_if_eq 23 (q := 7) rfl dX5_areTwoKings_4 rfl (fun _ => ?_) (fun _ => ?_)
  · refine rr_iconst 0 (q := 24) rfl dX5_areTwoKings_23 rfl ?_
    exact rr_zret dX5_areTwoKings_24 rfl (Or.inl rfl)
  · refine rr_iload_n (q := 8) rfl dX5_areTwoKings_7 rfl ?_
    refine rr_cSi (q := 11) rfl V_X5_isKing ml_X5_54 ⟨Nat.le_of_ble_eq_true rfl, Nat.le_of_ble_eq_true rfl⟩ (e_X5_isKing l1 s2) rfl rfl (Nat.le_of_ble_eq_true rfl) dX5_areTwoKings_8 (fun v3 s4 => ?_)
    refine rr_if_eq 23 (q := 14) rfl dX5_areTwoKings_11 rfl (fun _ => ?_) (fun _ => ?_)
    · refine rr_iconst 0 (q := 24) rfl dX5_areTwoKings_23 rfl ?_
      exact rr_zret dX5_areTwoKings_24 rfl (Or.inl rfl)
    · refine rr_iload_n (q := 15) rfl dX5_areTwoKings_14 rfl ?_
      refine rr_iload_n (q := 16) rfl dX5_areTwoKings_15 rfl ?_
      refine rr_icmp_eq 23 (q := 19) rfl dX5_areTwoKings_16 rfl (fun _ => ?_) (fun _ => ?_)
      · refine rr_iconst 0 (q := 24) rfl dX5_areTwoKings_23 rfl ?_
        exact rr_zret dX5_areTwoKings_24 rfl (Or.inl rfl)
      · refine rr_iconst 1 (q := 20) rfl dX5_areTwoKings_19 rfl ?_
        refine rr_goto 24 dX5_areTwoKings_20 rfl ?_
        exact rr_zret dX5_areTwoKings_24 rfl (Or.inr rfl)
def fX5_treaty (l1 : Int32) (l2 : Int32) (l3 : Int32) (l4 : Int32) (s : SX) : Option (Int32 × SX) :=
  bd (fX5_areTwoKings l1 l2 s) fun v1 s2 =>
  (if v1 = 0 then
  bd (fX5_finding 0 s2) fun v3 s4 =>
  some (v3, s4)
  else
  bd (fX5_isWithin l3 999 s2) fun v5 s6 =>
  (if v5 = 0 then
  bd (fX5_finding 0 s6) fun v7 s8 =>
  some (v7, s8)
  else
  bd (fX5_isWithin l4 999 s6) fun v9 s10 =>
  (if v9 = 0 then
  bd (fX5_finding 0 s10) fun v15 s16 =>
  some (v15, s16)
  else
  (if (gX s10 0 10 11) < 12 then
  bd (fX1_addTreaty 0 l1 l2 l3 l4 s10) fun v11 s12 =>
  some (v11, s12)
  else
  bd (fX5_finding 1 s10) fun v13 s14 =>
  some (v13, s14)))))
set_option maxRecDepth 100000 in
set_option maxHeartbeats 4000000 in
theorem e_X5_treaty {G : Cf} {t : SM} (l1 : Int32) (l2 : Int32) (l3 : Int32) (l4 : Int32) (s : SX) : Ct (wfX t) inI G M_X5_treaty [.ref 0, .int l1, .int l2, .int l3, .int l4] s (fX5_treaty l1 l2 l3 l4 s) := by
  refine Ct.of (L0 := [some (.ref 0), some (.int l1), some (.int l2), some (.int l3), some (.int l4)]) 0 rfl rfl ⟨rfl, rfl⟩ (Nat.le_of_ble_eq_true rfl) rfl ?_
  unfold fX5_treaty
  refine rr_iload_n (q := 1) rfl dX5_treaty_0 rfl ?_
  refine rr_iload_n (q := 2) rfl dX5_treaty_1 rfl ?_
  refine rr_cSi (q := 5) rfl V_X5_areTwoKings ml_X5_125 ⟨Nat.le_of_ble_eq_true rfl, Nat.le_of_ble_eq_true rfl⟩ (e_X5_areTwoKings l1 l2 s) rfl rfl (Nat.le_of_ble_eq_true rfl) dX5_treaty_2 (fun v1 s2 => ?_)
  refine rr_if_eq 29 (q := 8) rfl dX5_treaty_5 rfl (fun _ => ?_) (fun _ => ?_)
  · refine rr_aload_n (q := 30) rfl dX5_treaty_29 rfl ?_
    refine rr_iconst 0 (q := 31) rfl dX5_treaty_30 rfl ?_
    refine rr_cVi (q := 34) rfl V_X5_finding ml_X5_62 ⟨Nat.le_of_ble_eq_true rfl, Nat.le_of_ble_eq_true rfl⟩ (e_X5_finding 0 s2) w_self rfl rfl rfl rfl (Nat.le_of_ble_eq_true rfl) dX5_treaty_31 (fun v3 s4 => ?_)
    exact rr_iret dX5_treaty_34 rfl
  · refine rr_iload_n (q := 9) rfl dX5_treaty_8 rfl ?_
    refine rr_sipush 999 (q := 12) rfl dX5_treaty_9 rfl ?_
    refine rr_cSi (q := 15) rfl V_X5_isWithin ml_X5_58 ⟨Nat.le_of_ble_eq_true rfl, Nat.le_of_ble_eq_true rfl⟩ (e_X5_isWithin l3 999 s2) rfl rfl (Nat.le_of_ble_eq_true rfl) dX5_treaty_12 (fun v5 s6 => ?_)
    refine rr_if_eq 29 (q := 18) rfl dX5_treaty_15 rfl (fun _ => ?_) (fun _ => ?_)
    · refine rr_aload_n (q := 30) rfl dX5_treaty_29 rfl ?_
      refine rr_iconst 0 (q := 31) rfl dX5_treaty_30 rfl ?_
      refine rr_cVi (q := 34) rfl V_X5_finding ml_X5_62 ⟨Nat.le_of_ble_eq_true rfl, Nat.le_of_ble_eq_true rfl⟩ (e_X5_finding 0 s6) w_self rfl rfl rfl rfl (Nat.le_of_ble_eq_true rfl) dX5_treaty_31 (fun v7 s8 => ?_)
      exact rr_iret dX5_treaty_34 rfl
    · refine rr_iload (q := 20) rfl dX5_treaty_18 rfl ?_
      refine rr_sipush 999 (q := 23) rfl dX5_treaty_20 rfl ?_
      refine rr_cSi (q := 26) rfl V_X5_isWithin ml_X5_58 ⟨Nat.le_of_ble_eq_true rfl, Nat.le_of_ble_eq_true rfl⟩ (e_X5_isWithin l4 999 s6) rfl rfl (Nat.le_of_ble_eq_true rfl) dX5_treaty_23 (fun v9 s10 => ?_)
      refine rr_if_ne 35 (q := 29) rfl dX5_treaty_26 rfl (fun _ => ?_) (fun _ => ?_)
      · refine rr_aload_n (q := 36) rfl dX5_treaty_35 rfl ?_
        refine rr_get (q := 39) rfl fl_X5_10 w_self rfl dX5_treaty_36 ?_
        refine rr_get (q := 42) rfl fl_X5_128 (w_realm (by decide)) rfl dX5_treaty_39 ?_
        refine rr_bipush 12 (q := 44) rfl dX5_treaty_42 rfl ?_
        refine rr_icmp_lt 53 (q := 47) rfl dX5_treaty_44 rfl (fun _ => ?_) (fun _ => ?_)
        · refine rr_aload_n (q := 54) rfl dX5_treaty_53 rfl ?_
          refine rr_get (q := 57) rfl fl_X5_10 w_self rfl dX5_treaty_54 ?_
          refine rr_iload_n (q := 58) rfl dX5_treaty_57 rfl ?_
          refine rr_iload_n (q := 59) rfl dX5_treaty_58 rfl ?_
          refine rr_iload_n (q := 60) rfl dX5_treaty_59 rfl ?_
          refine rr_iload (q := 62) rfl dX5_treaty_60 rfl ?_
          refine rr_cVi (q := 65) rfl V_X1_addTreaty ml_X5_131 ⟨Nat.le_of_ble_eq_true rfl, Nat.le_of_ble_eq_true rfl⟩ (e_X1_addTreaty (by decide) l1 l2 l3 l4 s10) (w_realm (by decide)) rfl rfl rfl rfl (Nat.le_of_ble_eq_true rfl) dX5_treaty_62 (fun v11 s12 => ?_)
          exact rr_iret dX5_treaty_65 rfl
        · refine rr_aload_n (q := 48) rfl dX5_treaty_47 rfl ?_
          refine rr_iconst 1 (q := 49) rfl dX5_treaty_48 rfl ?_
          refine rr_cVi (q := 52) rfl V_X5_finding ml_X5_62 ⟨Nat.le_of_ble_eq_true rfl, Nat.le_of_ble_eq_true rfl⟩ (e_X5_finding 1 s10) w_self rfl rfl rfl rfl (Nat.le_of_ble_eq_true rfl) dX5_treaty_49 (fun v13 s14 => ?_)
          exact rr_iret dX5_treaty_52 rfl
      · refine rr_aload_n (q := 30) rfl dX5_treaty_29 rfl ?_
        refine rr_iconst 0 (q := 31) rfl dX5_treaty_30 rfl ?_
        refine rr_cVi (q := 34) rfl V_X5_finding ml_X5_62 ⟨Nat.le_of_ble_eq_true rfl, Nat.le_of_ble_eq_true rfl⟩ (e_X5_finding 0 s10) w_self rfl rfl rfl rfl (Nat.le_of_ble_eq_true rfl) dX5_treaty_31 (fun v15 s16 => ?_)
        exact rr_iret dX5_treaty_34 rfl
def fX5_isTreaty (l1 : Int32) (s : SX) : Option (Int32 × SX) :=
  (if l1 < 0 then
  some (0, s)
  else
  (if (gX s 0 10 11) ≤ l1 then
  some (0, s)
  else
  some (1, s)))
set_option maxRecDepth 100000 in
set_option maxHeartbeats 4000000 in
theorem e_X5_isTreaty {G : Cf} {t : SM} (l1 : Int32) (s : SX) : Ct (wfX t) inI G M_X5_isTreaty [.ref 0, .int l1] s (fX5_isTreaty l1 s) := by
  refine Ct.of (L0 := [some (.ref 0), some (.int l1)]) 0 rfl rfl ⟨rfl, rfl⟩ (Nat.le_of_ble_eq_true rfl) rfl ?_
  unfold fX5_isTreaty
  refine rr_iload_n (q := 1) rfl dX5_isTreaty_0 rfl ?_
  refine rr_if_lt 19 (q := 4) rfl dX5_isTreaty_1 rfl (fun _ => ?_) (fun _ => ?_)
  · refine rr_iconst 0 (q := 20) rfl dX5_isTreaty_19 rfl ?_
    exact rr_zret dX5_isTreaty_20 rfl (Or.inl rfl)
  · refine rr_iload_n (q := 5) rfl dX5_isTreaty_4 rfl ?_
    refine rr_aload_n (q := 6) rfl dX5_isTreaty_5 rfl ?_
    refine rr_get (q := 9) rfl fl_X5_10 w_self rfl dX5_isTreaty_6 ?_
    refine rr_get (q := 12) rfl fl_X5_128 (w_realm (by decide)) rfl dX5_isTreaty_9 ?_
    refine rr_icmp_ge 19 (q := 15) rfl dX5_isTreaty_12 rfl (fun _ => ?_) (fun _ => ?_)
    · refine rr_iconst 0 (q := 20) rfl dX5_isTreaty_19 rfl ?_
      exact rr_zret dX5_isTreaty_20 rfl (Or.inl rfl)
    · refine rr_iconst 1 (q := 16) rfl dX5_isTreaty_15 rfl ?_
      refine rr_goto 20 dX5_isTreaty_16 rfl ?_
      exact rr_zret dX5_isTreaty_20 rfl (Or.inr rfl)
def fX5_treatyOf (l1 : Int32) (l2 : Int32) (s : SX) : Option (Int32 × SX) :=
  bd (fX5_isTreaty l1 s) fun v1 s2 =>
  (if v1 = 0 then
  bd (fX5_finding 0 s2) fun v24 s25 =>
  some (v24, s25)
  else
  (if l2 = 0 then
  ixg l1 12 fun n3 =>
  some (gX s2 0 5 n3, s2)
  else
  (if l2 = 1 then
  ixg l1 12 fun n5 =>
  some (gX s2 0 6 n5, s2)
  else
  (if l2 = 2 then
  ixg l1 12 fun n7 =>
  some (gX s2 0 7 n7, s2)
  else
  (if l2 = 3 then
  ixg l1 12 fun n9 =>
  some (gX s2 0 8 n9, s2)
  else
  (if l2 = 4 then
  bd (fX1_isBroken 0 l1 s2) fun v11 s12 =>
  (if v11 = 0 then
  some (0, s12)
  else
  some (1, s12))
  else
  (if l2 = 5 then
  bd (fX1_isInForce 0 l1 s2) fun v14 s15 =>
  (if v14 = 0 then
  some (0, s15)
  else
  some (1, s15))
  else
  (if l2 = 6 then
  bd (fX1_isInForce 0 l1 s2) fun v17 s18 =>
  (if v17 = 0 then
  some (0, s18)
  else
  bd (fX1_easeOf 0 l1 s18) fun v19 s20 =>
  (if 0 ≤ v19 then
  some (0, s20)
  else
  some (1, s20)))
  else
  bd (fX5_finding 0 s2) fun v22 s23 =>
  some (v22, s23)))))))))
set_option maxRecDepth 100000 in
set_option maxHeartbeats 4000000 in
theorem e_X5_treatyOf {G : Cf} {t : SM} (l1 : Int32) (l2 : Int32) (s : SX) : Ct (wfX t) inI G M_X5_treatyOf [.ref 0, .int l1, .int l2] s (fX5_treatyOf l1 l2 s) := by
  refine Ct.of (L0 := [some (.ref 0), some (.int l1), some (.int l2)]) 0 rfl rfl ⟨rfl, rfl⟩ (Nat.le_of_ble_eq_true rfl) rfl ?_
  unfold fX5_treatyOf
  refine rr_aload_n (q := 1) rfl dX5_treatyOf_0 rfl ?_
  refine rr_iload_n (q := 2) rfl dX5_treatyOf_1 rfl ?_
  refine rr_cVi (q := 5) rfl V_X5_isTreaty ml_X5_134 ⟨Nat.le_of_ble_eq_true rfl, Nat.le_of_ble_eq_true rfl⟩ (e_X5_isTreaty l1 s) w_self rfl rfl rfl rfl (Nat.le_of_ble_eq_true rfl) dX5_treatyOf_2 (fun v1 s2 => ?_)
  refine rr_if_ne 14 (q := 8) rfl dX5_treatyOf_5 rfl (fun _ => ?_) (fun _ => ?_)
  · refine rr_iload_n (q := 15) rfl dX5_treatyOf_14 rfl ?_
    refine rr_case 0 ?_ (fun hs4 => ?_)
    · refine rr_tableIn 56 dX5_treatyOf_15 (by decide) (by decide) rfl rfl ?_
      refine rr_aload_n (q := 57) rfl dX5_treatyOf_56 rfl ?_
      refine rr_get (q := 60) rfl fl_X5_10 w_self rfl dX5_treatyOf_57 ?_
      refine rr_get (q := 63) rfl fl_X5_137 (w_realm (by decide)) rfl dX5_treatyOf_60 ?_
      refine rr_iload_n (q := 64) rfl dX5_treatyOf_63 rfl ?_
      refine rr_iald (q := 65) rfl (w_rarr5 (by decide)) dX5_treatyOf_64 (fun n3 => ?_)
      exact rr_iret dX5_treatyOf_65 rfl
    · refine rr_case 1 ?_ (fun hs6 => ?_)
      · refine rr_tableIn 66 dX5_treatyOf_15 (by decide) (by decide) rfl rfl ?_
        refine rr_aload_n (q := 67) rfl dX5_treatyOf_66 rfl ?_
        refine rr_get (q := 70) rfl fl_X5_10 w_self rfl dX5_treatyOf_67 ?_
        refine rr_get (q := 73) rfl fl_X5_140 (w_realm (by decide)) rfl dX5_treatyOf_70 ?_
        refine rr_iload_n (q := 74) rfl dX5_treatyOf_73 rfl ?_
        refine rr_iald (q := 75) rfl (w_rarr6 (by decide)) dX5_treatyOf_74 (fun n5 => ?_)
        exact rr_iret dX5_treatyOf_75 rfl
      · refine rr_case 2 ?_ (fun hs8 => ?_)
        · refine rr_tableIn 76 dX5_treatyOf_15 (by decide) (by decide) rfl rfl ?_
          refine rr_aload_n (q := 77) rfl dX5_treatyOf_76 rfl ?_
          refine rr_get (q := 80) rfl fl_X5_10 w_self rfl dX5_treatyOf_77 ?_
          refine rr_get (q := 83) rfl fl_X5_143 (w_realm (by decide)) rfl dX5_treatyOf_80 ?_
          refine rr_iload_n (q := 84) rfl dX5_treatyOf_83 rfl ?_
          refine rr_iald (q := 85) rfl (w_rarr7 (by decide)) dX5_treatyOf_84 (fun n7 => ?_)
          exact rr_iret dX5_treatyOf_85 rfl
        · refine rr_case 3 ?_ (fun hs10 => ?_)
          · refine rr_tableIn 86 dX5_treatyOf_15 (by decide) (by decide) rfl rfl ?_
            refine rr_aload_n (q := 87) rfl dX5_treatyOf_86 rfl ?_
            refine rr_get (q := 90) rfl fl_X5_10 w_self rfl dX5_treatyOf_87 ?_
            refine rr_get (q := 93) rfl fl_X5_146 (w_realm (by decide)) rfl dX5_treatyOf_90 ?_
            refine rr_iload_n (q := 94) rfl dX5_treatyOf_93 rfl ?_
            refine rr_iald (q := 95) rfl (w_rarr8 (by decide)) dX5_treatyOf_94 (fun n9 => ?_)
            exact rr_iret dX5_treatyOf_95 rfl
          · refine rr_case 4 ?_ (fun hs13 => ?_)
            · refine rr_tableIn 96 dX5_treatyOf_15 (by decide) (by decide) rfl rfl ?_
              refine rr_aload_n (q := 97) rfl dX5_treatyOf_96 rfl ?_
              refine rr_get (q := 100) rfl fl_X5_10 w_self rfl dX5_treatyOf_97 ?_
              refine rr_iload_n (q := 101) rfl dX5_treatyOf_100 rfl ?_
              refine rr_cVi (q := 104) rfl V_X1_isBroken ml_X5_149 ⟨Nat.le_of_ble_eq_true rfl, Nat.le_of_ble_eq_true rfl⟩ (e_X1_isBroken (by decide) l1 s2) (w_realm (by decide)) rfl rfl rfl rfl (Nat.le_of_ble_eq_true rfl) dX5_treatyOf_101 (fun v11 s12 => ?_)
              refine rr_if_eq 111 (q := 107) rfl dX5_treatyOf_104 rfl (fun _ => ?_) (fun _ => ?_)
              · refine rr_iconst 0 (q := 112) rfl dX5_treatyOf_111 rfl ?_
                exact rr_iret dX5_treatyOf_112 rfl
              · refine rr_iconst 1 (q := 108) rfl dX5_treatyOf_107 rfl ?_
                refine rr_goto 112 dX5_treatyOf_108 rfl ?_
                exact rr_iret dX5_treatyOf_112 rfl
            · refine rr_case 5 ?_ (fun hs16 => ?_)
              · refine rr_tableIn 113 dX5_treatyOf_15 (by decide) (by decide) rfl rfl ?_
                refine rr_aload_n (q := 114) rfl dX5_treatyOf_113 rfl ?_
                refine rr_get (q := 117) rfl fl_X5_10 w_self rfl dX5_treatyOf_114 ?_
                refine rr_iload_n (q := 118) rfl dX5_treatyOf_117 rfl ?_
                refine rr_cVi (q := 121) rfl V_X1_isInForce ml_X5_152 ⟨Nat.le_of_ble_eq_true rfl, Nat.le_of_ble_eq_true rfl⟩ (e_X1_isInForce (by decide) l1 s2) (w_realm (by decide)) rfl rfl rfl rfl (Nat.le_of_ble_eq_true rfl) dX5_treatyOf_118 (fun v14 s15 => ?_)
                refine rr_if_eq 128 (q := 124) rfl dX5_treatyOf_121 rfl (fun _ => ?_) (fun _ => ?_)
                · refine rr_iconst 0 (q := 129) rfl dX5_treatyOf_128 rfl ?_
                  exact rr_iret dX5_treatyOf_129 rfl
                · refine rr_iconst 1 (q := 125) rfl dX5_treatyOf_124 rfl ?_
                  refine rr_goto 129 dX5_treatyOf_125 rfl ?_
                  exact rr_iret dX5_treatyOf_129 rfl
              · refine rr_case 6 ?_ (fun hs21 => ?_)
                · refine rr_tableIn 130 dX5_treatyOf_15 (by decide) (by decide) rfl rfl ?_
                  refine rr_aload_n (q := 131) rfl dX5_treatyOf_130 rfl ?_
                  refine rr_get (q := 134) rfl fl_X5_10 w_self rfl dX5_treatyOf_131 ?_
                  refine rr_iload_n (q := 135) rfl dX5_treatyOf_134 rfl ?_
                  refine rr_cVi (q := 138) rfl V_X1_isInForce ml_X5_152 ⟨Nat.le_of_ble_eq_true rfl, Nat.le_of_ble_eq_true rfl⟩ (e_X1_isInForce (by decide) l1 s2) (w_realm (by decide)) rfl rfl rfl rfl (Nat.le_of_ble_eq_true rfl) dX5_treatyOf_135 (fun v17 s18 => ?_)
                  refine rr_if_eq 156 (q := 141) rfl dX5_treatyOf_138 rfl (fun _ => ?_) (fun _ => ?_)
                  · refine rr_iconst 0 (q := 157) rfl dX5_treatyOf_156 rfl ?_
                    exact rr_iret dX5_treatyOf_157 rfl
                  · refine rr_aload_n (q := 142) rfl dX5_treatyOf_141 rfl ?_
                    refine rr_get (q := 145) rfl fl_X5_10 w_self rfl dX5_treatyOf_142 ?_
                    refine rr_iload_n (q := 146) rfl dX5_treatyOf_145 rfl ?_
                    refine rr_cVi (q := 149) rfl V_X1_easeOf ml_X5_155 ⟨Nat.le_of_ble_eq_true rfl, Nat.le_of_ble_eq_true rfl⟩ (e_X1_easeOf (by decide) l1 s18) (w_realm (by decide)) rfl rfl rfl rfl (Nat.le_of_ble_eq_true rfl) dX5_treatyOf_146 (fun v19 s20 => ?_)
                    refine rr_if_ge 156 (q := 152) rfl dX5_treatyOf_149 rfl (fun _ => ?_) (fun _ => ?_)
                    · refine rr_iconst 0 (q := 157) rfl dX5_treatyOf_156 rfl ?_
                      exact rr_iret dX5_treatyOf_157 rfl
                    · refine rr_iconst 1 (q := 153) rfl dX5_treatyOf_152 rfl ?_
                      refine rr_goto 157 dX5_treatyOf_153 rfl ?_
                      exact rr_iret dX5_treatyOf_157 rfl
                · refine rr_tableOut 158 dX5_treatyOf_15 (by have ahs4 := ne_lit (n := 0) hs4 rfl; have ahs6 := ne_lit (n := 1) hs6 rfl; have ahs8 := ne_lit (n := 2) hs8 rfl; have ahs10 := ne_lit (n := 3) hs10 rfl; have ahs13 := ne_lit (n := 4) hs13 rfl; have ahs16 := ne_lit (n := 5) hs16 rfl; have ahs21 := ne_lit (n := 6) hs21 rfl; omega) rfl ?_
                  refine rr_aload_n (q := 159) rfl dX5_treatyOf_158 rfl ?_
                  refine rr_iconst 0 (q := 160) rfl dX5_treatyOf_159 rfl ?_
                  refine rr_cVi (q := 163) rfl V_X5_finding ml_X5_62 ⟨Nat.le_of_ble_eq_true rfl, Nat.le_of_ble_eq_true rfl⟩ (e_X5_finding 0 s2) w_self rfl rfl rfl rfl (Nat.le_of_ble_eq_true rfl) dX5_treatyOf_160 (fun v22 s23 => ?_)
                  exact rr_iret dX5_treatyOf_163 rfl
  · refine rr_aload_n (q := 9) rfl dX5_treatyOf_8 rfl ?_
    refine rr_iconst 0 (q := 10) rfl dX5_treatyOf_9 rfl ?_
    refine rr_cVi (q := 13) rfl V_X5_finding ml_X5_62 ⟨Nat.le_of_ble_eq_true rfl, Nat.le_of_ble_eq_true rfl⟩ (e_X5_finding 0 s2) w_self rfl rfl rfl rfl (Nat.le_of_ble_eq_true rfl) dX5_treatyOf_10 (fun v24 s25 => ?_)
    exact rr_iret dX5_treatyOf_13 rfl
def fX5_gain (l1 : Int32) (l2 : Int32) (s : SX) : Option (Int32 × SX) :=
  bd (fX5_isTreaty l1 s) fun v1 s2 =>
  (if v1 = 0 then
  bd (fX5_finding 0 s2) fun v3 s4 =>
  some (v3, s4)
  else
  bd (fX5_isWithin l2 999 s2) fun v5 s6 =>
  (if v5 = 0 then
  bd (fX5_finding 0 s6) fun v11 s12 =>
  some (v11, s12)
  else
  ixg l1 12 fun n7 =>
  vl (gX s6 0 7 n7) fun y8 =>
  ixg l1 12 fun n9 => vl (wX s6 0 7 n9 l2) fun s10 =>
  some (y8, s10)))
set_option maxRecDepth 100000 in
set_option maxHeartbeats 4000000 in
theorem e_X5_gain {G : Cf} {t : SM} (l1 : Int32) (l2 : Int32) (s : SX) : Ct (wfX t) inI G M_X5_gain [.ref 0, .int l1, .int l2] s (fX5_gain l1 l2 s) := by
  refine Ct.of (L0 := [some (.ref 0), some (.int l1), some (.int l2), none]) 1 rfl rfl ⟨rfl, rfl⟩ (Nat.le_of_ble_eq_true rfl) rfl ?_
  unfold fX5_gain
  refine rr_aload_n (q := 1) rfl dX5_gain_0 rfl ?_
  refine rr_iload_n (q := 2) rfl dX5_gain_1 rfl ?_
  refine rr_cVi (q := 5) rfl V_X5_isTreaty ml_X5_134 ⟨Nat.le_of_ble_eq_true rfl, Nat.le_of_ble_eq_true rfl⟩ (e_X5_isTreaty l1 s) w_self rfl rfl rfl rfl (Nat.le_of_ble_eq_true rfl) dX5_gain_2 (fun v1 s2 => ?_)
  refine rr_if_eq 18 (q := 8) rfl dX5_gain_5 rfl (fun _ => ?_) (fun _ => ?_)
  · refine rr_aload_n (q := 19) rfl dX5_gain_18 rfl ?_
    refine rr_iconst 0 (q := 20) rfl dX5_gain_19 rfl ?_
    refine rr_cVi (q := 23) rfl V_X5_finding ml_X5_62 ⟨Nat.le_of_ble_eq_true rfl, Nat.le_of_ble_eq_true rfl⟩ (e_X5_finding 0 s2) w_self rfl rfl rfl rfl (Nat.le_of_ble_eq_true rfl) dX5_gain_20 (fun v3 s4 => ?_)
    exact rr_iret dX5_gain_23 rfl
  · refine rr_iload_n (q := 9) rfl dX5_gain_8 rfl ?_
    refine rr_sipush 999 (q := 12) rfl dX5_gain_9 rfl ?_
    refine rr_cSi (q := 15) rfl V_X5_isWithin ml_X5_58 ⟨Nat.le_of_ble_eq_true rfl, Nat.le_of_ble_eq_true rfl⟩ (e_X5_isWithin l2 999 s2) rfl rfl (Nat.le_of_ble_eq_true rfl) dX5_gain_12 (fun v5 s6 => ?_)
    refine rr_if_ne 24 (q := 18) rfl dX5_gain_15 rfl (fun _ => ?_) (fun _ => ?_)
    · refine rr_aload_n (q := 25) rfl dX5_gain_24 rfl ?_
      refine rr_get (q := 28) rfl fl_X5_10 w_self rfl dX5_gain_25 ?_
      refine rr_get (q := 31) rfl fl_X5_143 (w_realm (by decide)) rfl dX5_gain_28 ?_
      refine rr_iload_n (q := 32) rfl dX5_gain_31 rfl ?_
      refine rr_iald (q := 33) rfl (w_rarr7 (by decide)) dX5_gain_32 (fun n7 => ?_)
      refine rr_istore_n (L2 := fun y8 => [some (.ref 0), some (.int l1), some (.int l2), some (.int y8)]) (q := 34) rfl dX5_gain_33 (Nat.le_of_ble_eq_true rfl) (fun _ => rfl) (fun y8 => ?_)
      refine rr_aload_n (q := 35) rfl dX5_gain_34 rfl ?_
      refine rr_get (q := 38) rfl fl_X5_10 w_self rfl dX5_gain_35 ?_
      refine rr_get (q := 41) rfl fl_X5_143 (w_realm (by decide)) rfl dX5_gain_38 ?_
      refine rr_iload_n (q := 42) rfl dX5_gain_41 rfl ?_
      refine rr_iload_n (q := 43) rfl dX5_gain_42 rfl ?_
      refine rr_iast (q := 44) rfl (w_rarr7 (by decide)) (fun _ => (u_rarr7 (by decide))) dX5_gain_43 (fun n9 s10 => ?_)
      refine rr_iload_n (q := 45) rfl dX5_gain_44 rfl ?_
      exact rr_iret dX5_gain_45 rfl
    · refine rr_aload_n (q := 19) rfl dX5_gain_18 rfl ?_
      refine rr_iconst 0 (q := 20) rfl dX5_gain_19 rfl ?_
      refine rr_cVi (q := 23) rfl V_X5_finding ml_X5_62 ⟨Nat.le_of_ble_eq_true rfl, Nat.le_of_ble_eq_true rfl⟩ (e_X5_finding 0 s6) w_self rfl rfl rfl rfl (Nat.le_of_ble_eq_true rfl) dX5_gain_20 (fun v11 s12 => ?_)
      exact rr_iret dX5_gain_23 rfl
def fX5_pledge (l1 : Int32) (l2 : Int32) (s : SX) : Option (Int32 × SX) :=
  bd (fX5_areTwoKings l1 l2 s) fun v1 s2 =>
  (if v1 = 0 then
  bd (fX5_finding 0 s2) fun v5 s6 =>
  some (v5, s6)
  else
  bd (fX1_pledgeHeld 0 l1 l2 s2) fun v3 s4 =>
  some (v3, s4))
set_option maxRecDepth 100000 in
set_option maxHeartbeats 4000000 in
theorem e_X5_pledge {G : Cf} {t : SM} (l1 : Int32) (l2 : Int32) (s : SX) : Ct (wfX t) inI G M_X5_pledge [.ref 0, .int l1, .int l2] s (fX5_pledge l1 l2 s) := by
  refine Ct.of (L0 := [some (.ref 0), some (.int l1), some (.int l2)]) 0 rfl rfl ⟨rfl, rfl⟩ (Nat.le_of_ble_eq_true rfl) rfl ?_
  unfold fX5_pledge
  refine rr_iload_n (q := 1) rfl dX5_pledge_0 rfl ?_
  refine rr_iload_n (q := 2) rfl dX5_pledge_1 rfl ?_
  refine rr_cSi (q := 5) rfl V_X5_areTwoKings ml_X5_125 ⟨Nat.le_of_ble_eq_true rfl, Nat.le_of_ble_eq_true rfl⟩ (e_X5_areTwoKings l1 l2 s) rfl rfl (Nat.le_of_ble_eq_true rfl) dX5_pledge_2 (fun v1 s2 => ?_)
  refine rr_if_ne 14 (q := 8) rfl dX5_pledge_5 rfl (fun _ => ?_) (fun _ => ?_)
  · refine rr_aload_n (q := 15) rfl dX5_pledge_14 rfl ?_
    refine rr_get (q := 18) rfl fl_X5_10 w_self rfl dX5_pledge_15 ?_
    refine rr_iload_n (q := 19) rfl dX5_pledge_18 rfl ?_
    refine rr_iload_n (q := 20) rfl dX5_pledge_19 rfl ?_
    refine rr_cVi (q := 23) rfl V_X1_pledgeHeld ml_X5_158 ⟨Nat.le_of_ble_eq_true rfl, Nat.le_of_ble_eq_true rfl⟩ (e_X1_pledgeHeld (by decide) l1 l2 s2) (w_realm (by decide)) rfl rfl rfl rfl (Nat.le_of_ble_eq_true rfl) dX5_pledge_20 (fun v3 s4 => ?_)
    exact rr_iret dX5_pledge_23 rfl
  · refine rr_aload_n (q := 9) rfl dX5_pledge_8 rfl ?_
    refine rr_iconst 0 (q := 10) rfl dX5_pledge_9 rfl ?_
    refine rr_cVi (q := 13) rfl V_X5_finding ml_X5_62 ⟨Nat.le_of_ble_eq_true rfl, Nat.le_of_ble_eq_true rfl⟩ (e_X5_finding 0 s2) w_self rfl rfl rfl rfl (Nat.le_of_ble_eq_true rfl) dX5_pledge_10 (fun v5 s6 => ?_)
    exact rr_iret dX5_pledge_13 rfl
def fX5_ease (l1 : Int32) (s : SX) : Option (Int32 × SX) :=
  bd (fX5_isTreaty l1 s) fun v1 s2 =>
  (if v1 = 0 then
  bd (fX5_finding 0 s2) fun v9 s10 =>
  some (v9, s10)
  else
  bd (fX1_isInForce 0 l1 s2) fun v3 s4 =>
  (if v3 = 0 then
  bd (fX5_finding 4 s4) fun v7 s8 =>
  some (v7, s8)
  else
  bd (fX1_easeOf 0 l1 s4) fun v5 s6 =>
  some (v5, s6)))
set_option maxRecDepth 100000 in
set_option maxHeartbeats 4000000 in
theorem e_X5_ease {G : Cf} {t : SM} (l1 : Int32) (s : SX) : Ct (wfX t) inI G M_X5_ease [.ref 0, .int l1] s (fX5_ease l1 s) := by
  refine Ct.of (L0 := [some (.ref 0), some (.int l1)]) 0 rfl rfl ⟨rfl, rfl⟩ (Nat.le_of_ble_eq_true rfl) rfl ?_
  unfold fX5_ease
  refine rr_aload_n (q := 1) rfl dX5_ease_0 rfl ?_
  refine rr_iload_n (q := 2) rfl dX5_ease_1 rfl ?_
  refine rr_cVi (q := 5) rfl V_X5_isTreaty ml_X5_134 ⟨Nat.le_of_ble_eq_true rfl, Nat.le_of_ble_eq_true rfl⟩ (e_X5_isTreaty l1 s) w_self rfl rfl rfl rfl (Nat.le_of_ble_eq_true rfl) dX5_ease_2 (fun v1 s2 => ?_)
  refine rr_if_ne 14 (q := 8) rfl dX5_ease_5 rfl (fun _ => ?_) (fun _ => ?_)
  · refine rr_aload_n (q := 15) rfl dX5_ease_14 rfl ?_
    refine rr_get (q := 18) rfl fl_X5_10 w_self rfl dX5_ease_15 ?_
    refine rr_iload_n (q := 19) rfl dX5_ease_18 rfl ?_
    refine rr_cVi (q := 22) rfl V_X1_isInForce ml_X5_152 ⟨Nat.le_of_ble_eq_true rfl, Nat.le_of_ble_eq_true rfl⟩ (e_X1_isInForce (by decide) l1 s2) (w_realm (by decide)) rfl rfl rfl rfl (Nat.le_of_ble_eq_true rfl) dX5_ease_19 (fun v3 s4 => ?_)
    refine rr_if_ne 31 (q := 25) rfl dX5_ease_22 rfl (fun _ => ?_) (fun _ => ?_)
    · refine rr_aload_n (q := 32) rfl dX5_ease_31 rfl ?_
      refine rr_get (q := 35) rfl fl_X5_10 w_self rfl dX5_ease_32 ?_
      refine rr_iload_n (q := 36) rfl dX5_ease_35 rfl ?_
      refine rr_cVi (q := 39) rfl V_X1_easeOf ml_X5_155 ⟨Nat.le_of_ble_eq_true rfl, Nat.le_of_ble_eq_true rfl⟩ (e_X1_easeOf (by decide) l1 s4) (w_realm (by decide)) rfl rfl rfl rfl (Nat.le_of_ble_eq_true rfl) dX5_ease_36 (fun v5 s6 => ?_)
      exact rr_iret dX5_ease_39 rfl
    · refine rr_aload_n (q := 26) rfl dX5_ease_25 rfl ?_
      refine rr_iconst 4 (q := 27) rfl dX5_ease_26 rfl ?_
      refine rr_cVi (q := 30) rfl V_X5_finding ml_X5_62 ⟨Nat.le_of_ble_eq_true rfl, Nat.le_of_ble_eq_true rfl⟩ (e_X5_finding 4 s4) w_self rfl rfl rfl rfl (Nat.le_of_ble_eq_true rfl) dX5_ease_27 (fun v7 s8 => ?_)
      exact rr_iret dX5_ease_30 rfl
  · refine rr_aload_n (q := 9) rfl dX5_ease_8 rfl ?_
    refine rr_iconst 0 (q := 10) rfl dX5_ease_9 rfl ?_
    refine rr_cVi (q := 13) rfl V_X5_finding ml_X5_62 ⟨Nat.le_of_ble_eq_true rfl, Nat.le_of_ble_eq_true rfl⟩ (e_X5_finding 0 s2) w_self rfl rfl rfl rfl (Nat.le_of_ble_eq_true rfl) dX5_ease_10 (fun v9 s10 => ?_)
    exact rr_iret dX5_ease_13 rfl
def fX5_loose (s : SX) : Option (Int32 × SX) :=
  bd (fX1_looseWords 0 s) fun v1 s2 =>
  some (v1, s2)
set_option maxRecDepth 100000 in
set_option maxHeartbeats 4000000 in
theorem e_X5_loose {G : Cf} {t : SM} (s : SX) : Ct (wfX t) inI G M_X5_loose [.ref 0] s (fX5_loose s) := by
  refine Ct.of (L0 := [some (.ref 0)]) 0 rfl rfl ⟨rfl, rfl⟩ (Nat.le_of_ble_eq_true rfl) rfl ?_
  unfold fX5_loose
  refine rr_aload_n (q := 1) rfl dX5_loose_0 rfl ?_
  refine rr_get (q := 4) rfl fl_X5_10 w_self rfl dX5_loose_1 ?_
  refine rr_cVi (q := 7) rfl V_X1_looseWords ml_X5_113 ⟨Nat.le_of_ble_eq_true rfl, Nat.le_of_ble_eq_true rfl⟩ (e_X1_looseWords (by decide) s) (w_realm (by decide)) rfl rfl rfl rfl (Nat.le_of_ble_eq_true rfl) dX5_loose_4 (fun v1 s2 => ?_)
  exact rr_iret dX5_loose_7 rfl
def fX5_pact (l1 : Int32) (l2 : Int32) (s : SX) : Option (Int32 × SX) :=
  bd (fX5_areTwoKings l1 l2 s) fun v1 s2 =>
  (if v1 = 0 then
  bd (fX5_finding 0 s2) fun v5 s6 =>
  some (v5, s6)
  else
  bd (fX1_pactPays 0 l1 l2 s2) fun v3 s4 =>
  (if v3 = 0 then
  some (0, s4)
  else
  some (1, s4)))
set_option maxRecDepth 100000 in
set_option maxHeartbeats 4000000 in
theorem e_X5_pact {G : Cf} {t : SM} (l1 : Int32) (l2 : Int32) (s : SX) : Ct (wfX t) inI G M_X5_pact [.ref 0, .int l1, .int l2] s (fX5_pact l1 l2 s) := by
  refine Ct.of (L0 := [some (.ref 0), some (.int l1), some (.int l2)]) 0 rfl rfl ⟨rfl, rfl⟩ (Nat.le_of_ble_eq_true rfl) rfl ?_
  unfold fX5_pact
  refine rr_iload_n (q := 1) rfl dX5_pact_0 rfl ?_
  refine rr_iload_n (q := 2) rfl dX5_pact_1 rfl ?_
  refine rr_cSi (q := 5) rfl V_X5_areTwoKings ml_X5_125 ⟨Nat.le_of_ble_eq_true rfl, Nat.le_of_ble_eq_true rfl⟩ (e_X5_areTwoKings l1 l2 s) rfl rfl (Nat.le_of_ble_eq_true rfl) dX5_pact_2 (fun v1 s2 => ?_)
  refine rr_if_ne 14 (q := 8) rfl dX5_pact_5 rfl (fun _ => ?_) (fun _ => ?_)
  · refine rr_aload_n (q := 15) rfl dX5_pact_14 rfl ?_
    refine rr_get (q := 18) rfl fl_X5_10 w_self rfl dX5_pact_15 ?_
    refine rr_iload_n (q := 19) rfl dX5_pact_18 rfl ?_
    refine rr_iload_n (q := 20) rfl dX5_pact_19 rfl ?_
    refine rr_cVi (q := 23) rfl V_X1_pactPays ml_X5_162 ⟨Nat.le_of_ble_eq_true rfl, Nat.le_of_ble_eq_true rfl⟩ (e_X1_pactPays (by decide) l1 l2 s2) (w_realm (by decide)) rfl rfl rfl rfl (Nat.le_of_ble_eq_true rfl) dX5_pact_20 (fun v3 s4 => ?_)
    refine rr_if_eq 30 (q := 26) rfl dX5_pact_23 rfl (fun _ => ?_) (fun _ => ?_)
    · refine rr_iconst 0 (q := 31) rfl dX5_pact_30 rfl ?_
      exact rr_iret dX5_pact_31 rfl
    · refine rr_iconst 1 (q := 27) rfl dX5_pact_26 rfl ?_
      refine rr_goto 31 dX5_pact_27 rfl ?_
      exact rr_iret dX5_pact_31 rfl
  · refine rr_aload_n (q := 9) rfl dX5_pact_8 rfl ?_
    refine rr_iconst 0 (q := 10) rfl dX5_pact_9 rfl ?_
    refine rr_cVi (q := 13) rfl V_X5_finding ml_X5_62 ⟨Nat.le_of_ble_eq_true rfl, Nat.le_of_ble_eq_true rfl⟩ (e_X5_finding 0 s2) w_self rfl rfl rfl rfl (Nat.le_of_ble_eq_true rfl) dX5_pact_10 (fun v5 s6 => ?_)
    exact rr_iret dX5_pact_13 rfl
def fX5_plot_12b (k2 : Int32 → SX → Option (Int32 × SX)) (k12 : Int32 → Int32 → SX → Option (Int32 × SX)) (l1 : Int32) (l2 : Int32) (s : SX) : Option (Int32 × SX) :=
  (if 6 ≤ l2 then
  vl (l1 + 1) fun y5 =>
  k2 y5 s
  else
  bd (fX1_pactPays 0 l1 l2 s) fun v6 s7 =>
  (if v6 = 0 then
  vl (l2 + 1) fun y8 =>
  k12 l1 y8 s7
  else
  some ((10 * l1) + l2, s7)))
set_option maxRecDepth 100000 in
set_option maxHeartbeats 4000000 in
theorem e_X5_plot_12b {G : Cf} {t : SM} {k2 : Int32 → SX → Option (Int32 × SX)} (hk2 : ∀ (l1 : Int32) (s : SX), R (wfX t) inI G M_X5_plot 2 [some (.ref 0), some (.int l1), none] [] s (k2 l1 s)) {k12 : Int32 → Int32 → SX → Option (Int32 × SX)} (hk12 : ∀ (l1 : Int32) (l2 : Int32) (s : SX), R (wfX t) inI G M_X5_plot 12 [some (.ref 0), some (.int l1), some (.int l2)] [] s (k12 l1 l2 s)) (l1 : Int32) (l2 : Int32) (s : SX) : R (wfX t) inI G M_X5_plot 12 [some (.ref 0), some (.int l1), some (.int l2)] [] s (fX5_plot_12b k2 k12 l1 l2 s) := by
  unfold fX5_plot_12b
  refine rr_iload_n (q := 13) rfl dX5_plot_12 rfl ?_
  refine rr_bipush 6 (q := 15) rfl dX5_plot_13 rfl ?_
  refine rr_icmp_ge 43 (q := 18) rfl dX5_plot_15 rfl (fun _ => ?_) (fun _ => ?_)
  · refine rr_iinc (L2 := fun y5 => [some (.ref 0), some (.int y5), some (.int l2)]) (q := 46) rfl dX5_plot_43 rfl rfl (Nat.le_of_ble_eq_true rfl) (fun _ => rfl) (fun y5 => ?_)
    refine rr_goto 2 dX5_plot_46 rfl ?_
    refine rr_mask [true, true, false] (L' := [some (.ref 0), some (.int y5), none]) rfl ?_
    exact hk2 y5 s
  · refine rr_aload_n (q := 19) rfl dX5_plot_18 rfl ?_
    refine rr_get (q := 22) rfl fl_X5_10 w_self rfl dX5_plot_19 ?_
    refine rr_iload_n (q := 23) rfl dX5_plot_22 rfl ?_
    refine rr_iload_n (q := 24) rfl dX5_plot_23 rfl ?_
    refine rr_cVi (q := 27) rfl V_X1_pactPays ml_X5_162 ⟨Nat.le_of_ble_eq_true rfl, Nat.le_of_ble_eq_true rfl⟩ (e_X1_pactPays (by decide) l1 l2 s) (w_realm (by decide)) rfl rfl rfl rfl (Nat.le_of_ble_eq_true rfl) dX5_plot_24 (fun v6 s7 => ?_)
    refine rr_if_eq 37 (q := 30) rfl dX5_plot_27 rfl (fun _ => ?_) (fun _ => ?_)
    · refine rr_iinc (L2 := fun y8 => [some (.ref 0), some (.int l1), some (.int y8)]) (q := 40) rfl dX5_plot_37 rfl rfl (Nat.le_of_ble_eq_true rfl) (fun _ => rfl) (fun y8 => ?_)
      refine rr_goto 12 dX5_plot_40 rfl ?_
      exact hk12 l1 y8 s7
    · refine rr_bipush 10 (q := 32) rfl dX5_plot_30 rfl ?_
      refine rr_iload_n (q := 33) rfl dX5_plot_32 rfl ?_
      refine rr_imul (q := 34) rfl dX5_plot_33 ?_
      refine rr_iload_n (q := 35) rfl dX5_plot_34 rfl ?_
      refine rr_iadd (q := 36) rfl dX5_plot_35 ?_
      exact rr_iret dX5_plot_36 rfl
def fX5_plot_12 (k2 : Int32 → SX → Option (Int32 × SX)) : Nat → Int32 → Int32 → SX → Option (Int32 × SX) := lp (fun _ _ _ => none) (fX5_plot_12b k2)
theorem e_X5_plot_12 {G : Cf} {t : SM} {k2 : Int32 → SX → Option (Int32 × SX)} (hk2 : ∀ (l1 : Int32) (s : SX), R (wfX t) inI G M_X5_plot 2 [some (.ref 0), some (.int l1), none] [] s (k2 l1 s)) (n : Nat) : ∀ (l1 : Int32) (l2 : Int32) (s : SX), R (wfX t) inI G M_X5_plot 12 [some (.ref 0), some (.int l1), some (.int l2)] [] s (fX5_plot_12 k2 n l1 l2 s) := by
  unfold fX5_plot_12
  exact rr_lp (P := fun (kz : Int32 → Int32 → SX → Option (Int32 × SX)) => ∀ (l1 : Int32) (l2 : Int32) (s : SX), R (wfX t) inI G M_X5_plot 12 [some (.ref 0), some (.int l1), some (.int l2)] [] s (kz l1 l2 s)) (fun _ _ _ => rr_none) (fun kz hkz => fun l1 l2 s => e_X5_plot_12b hk2 hkz l1 l2 s) n
def fX5_plot_2b (k2 : Int32 → SX → Option (Int32 × SX)) (l1 : Int32) (s : SX) : Option (Int32 × SX) :=
  (if 6 ≤ l1 then
  bd (fX5_finding 3 s) fun v2 s3 =>
  some (v2, s3)
  else
  vl (l1 + 1) fun y4 =>
  fX5_plot_12 k2 400 l1 y4 s)
set_option maxRecDepth 100000 in
set_option maxHeartbeats 4000000 in
theorem e_X5_plot_2b {G : Cf} {t : SM} {k2 : Int32 → SX → Option (Int32 × SX)} (hk2 : ∀ (l1 : Int32) (s : SX), R (wfX t) inI G M_X5_plot 2 [some (.ref 0), some (.int l1), none] [] s (k2 l1 s)) (l1 : Int32) (s : SX) : R (wfX t) inI G M_X5_plot 2 [some (.ref 0), some (.int l1), none] [] s (fX5_plot_2b k2 l1 s) := by
  unfold fX5_plot_2b
  refine rr_iload_n (q := 3) rfl dX5_plot_2 rfl ?_
  refine rr_bipush 6 (q := 5) rfl dX5_plot_3 rfl ?_
  refine rr_icmp_ge 49 (q := 8) rfl dX5_plot_5 rfl (fun _ => ?_) (fun _ => ?_)
  · refine rr_aload_n (q := 50) rfl dX5_plot_49 rfl ?_
    refine rr_iconst 3 (q := 51) rfl dX5_plot_50 rfl ?_
    refine rr_cVi (q := 54) rfl V_X5_finding ml_X5_62 ⟨Nat.le_of_ble_eq_true rfl, Nat.le_of_ble_eq_true rfl⟩ (e_X5_finding 3 s) w_self rfl rfl rfl rfl (Nat.le_of_ble_eq_true rfl) dX5_plot_51 (fun v2 s3 => ?_)
    exact rr_iret dX5_plot_54 rfl
  · refine rr_iload_n (q := 9) rfl dX5_plot_8 rfl ?_
    refine rr_iconst 1 (q := 10) rfl dX5_plot_9 rfl ?_
    refine rr_iadd (q := 11) rfl dX5_plot_10 ?_
    refine rr_istore_n (L2 := fun y4 => [some (.ref 0), some (.int l1), some (.int y4)]) (q := 12) rfl dX5_plot_11 (Nat.le_of_ble_eq_true rfl) (fun _ => rfl) (fun y4 => ?_)
    exact e_X5_plot_12 hk2 400 l1 y4 s
def fX5_plot_2 : Nat → Int32 → SX → Option (Int32 × SX) := lp (fun _ _ => none) (fX5_plot_2b)
theorem e_X5_plot_2 {G : Cf} {t : SM}  (n : Nat) : ∀ (l1 : Int32) (s : SX), R (wfX t) inI G M_X5_plot 2 [some (.ref 0), some (.int l1), none] [] s (fX5_plot_2 n l1 s) := by
  unfold fX5_plot_2
  exact rr_lp (P := fun (kz : Int32 → SX → Option (Int32 × SX)) => ∀ (l1 : Int32) (s : SX), R (wfX t) inI G M_X5_plot 2 [some (.ref 0), some (.int l1), none] [] s (kz l1 s)) (fun _ _ => rr_none) (fun kz hkz => fun l1 s => e_X5_plot_2b hkz l1 s) n
def fX5_plot (s : SX) : Option (Int32 × SX) :=
  vl 0 fun y1 =>
  fX5_plot_2 400 y1 s
set_option maxRecDepth 100000 in
set_option maxHeartbeats 4000000 in
theorem e_X5_plot {G : Cf} {t : SM} (s : SX) : Ct (wfX t) inI G M_X5_plot [.ref 0] s (fX5_plot s) := by
  refine Ct.of (L0 := [some (.ref 0), none, none]) 2 rfl rfl ⟨rfl, rfl⟩ (Nat.le_of_ble_eq_true rfl) rfl ?_
  unfold fX5_plot
  refine rr_iconst 0 (q := 1) rfl dX5_plot_0 rfl ?_
  refine rr_istore_n (L2 := fun y1 => [some (.ref 0), some (.int y1), none]) (q := 2) rfl dX5_plot_1 (Nat.le_of_ble_eq_true rfl) (fun _ => rfl) (fun y1 => ?_)
  exact e_X5_plot_2 400 y1 s
def fX5_fall (s : SX) : Option (Int32 × SX) :=
  bd (fX1_bringDown 0 s) fun v1 s2 =>
  some (v1, s2)
set_option maxRecDepth 100000 in
set_option maxHeartbeats 4000000 in
theorem e_X5_fall {G : Cf} {t : SM} (s : SX) : Ct (wfX t) inI G M_X5_fall [.ref 0] s (fX5_fall s) := by
  refine Ct.of (L0 := [some (.ref 0)]) 0 rfl rfl ⟨rfl, rfl⟩ (Nat.le_of_ble_eq_true rfl) rfl ?_
  unfold fX5_fall
  refine rr_aload_n (q := 1) rfl dX5_fall_0 rfl ?_
  refine rr_get (q := 4) rfl fl_X5_10 w_self rfl dX5_fall_1 ?_
  refine rr_cVi (q := 7) rfl V_X1_bringDown ml_X5_165 ⟨Nat.le_of_ble_eq_true rfl, Nat.le_of_ble_eq_true rfl⟩ (e_X1_bringDown (by decide) s) (w_realm (by decide)) rfl rfl rfl rfl (Nat.le_of_ble_eq_true rfl) dX5_fall_4 (fun v1 s2 => ?_)
  exact rr_iret dX5_fall_7 rfl
def fX5_wouldFall (l1 : Int32) (s : SX) : Option (Int32 × SX) :=
  (if l1 < 0 then
  bd (fX5_finding 0 s) fun v1 s2 =>
  some (v1, s2)
  else
  (if l1 ≤ 3 then
  (if l1 = 3 then
  bd (fX1_looseWords 0 s) fun v7 s8 =>
  some (v7, s8)
  else
  bd (fX1_become 2 0 s) fun _ s3 =>
  bd (fX1_bringDown 2 s3) fun v4 s5 =>
  vl v4 fun y6 =>
  (if l1 = 0 then
  some (y6, s5)
  else
  (if l1 = 1 then
  some ((gX s5 2 10 13) &&& ((gX s5 0 10 13) ^^^ (-1)), s5)
  else
  some ((gX s5 2 10 12) &&& ((gX s5 0 10 12) ^^^ (-1)), s5))))
  else
  bd (fX5_finding 0 s) fun v9 s10 =>
  some (v9, s10)))
set_option maxRecDepth 100000 in
set_option maxHeartbeats 4000000 in
theorem e_X5_wouldFall {G : Cf} {t : SM} (l1 : Int32) (s : SX) : Ct (wfX t) inI G M_X5_wouldFall [.ref 0, .int l1] s (fX5_wouldFall l1 s) := by
  refine Ct.of (L0 := [some (.ref 0), some (.int l1), none]) 1 rfl rfl ⟨rfl, rfl⟩ (Nat.le_of_ble_eq_true rfl) rfl ?_
  unfold fX5_wouldFall
  refine rr_iload_n (q := 1) rfl dX5_wouldFall_0 rfl ?_
  refine rr_if_lt 9 (q := 4) rfl dX5_wouldFall_1 rfl (fun _ => ?_) (fun _ => ?_)
  · refine rr_aload_n (q := 10) rfl dX5_wouldFall_9 rfl ?_
    refine rr_iconst 0 (q := 11) rfl dX5_wouldFall_10 rfl ?_
    refine rr_cVi (q := 14) rfl V_X5_finding ml_X5_62 ⟨Nat.le_of_ble_eq_true rfl, Nat.le_of_ble_eq_true rfl⟩ (e_X5_finding 0 s) w_self rfl rfl rfl rfl (Nat.le_of_ble_eq_true rfl) dX5_wouldFall_11 (fun v1 s2 => ?_)
    exact rr_iret dX5_wouldFall_14 rfl
  · refine rr_iload_n (q := 5) rfl dX5_wouldFall_4 rfl ?_
    refine rr_iconst 3 (q := 6) rfl dX5_wouldFall_5 rfl ?_
    refine rr_icmp_le 15 (q := 9) rfl dX5_wouldFall_6 rfl (fun _ => ?_) (fun _ => ?_)
    · refine rr_iload_n (q := 16) rfl dX5_wouldFall_15 rfl ?_
      refine rr_iconst 3 (q := 17) rfl dX5_wouldFall_16 rfl ?_
      refine rr_icmp_ne 28 (q := 20) rfl dX5_wouldFall_17 rfl (fun _ => ?_) (fun _ => ?_)
      · refine rr_aload_n (q := 29) rfl dX5_wouldFall_28 rfl ?_
        refine rr_get (q := 32) rfl fl_X5_19 w_self rfl dX5_wouldFall_29 ?_
        refine rr_aload_n (q := 33) rfl dX5_wouldFall_32 rfl ?_
        refine rr_get (q := 36) rfl fl_X5_10 w_self rfl dX5_wouldFall_33 ?_
        refine rr_cVu (q := 39) rfl V_X1_become ml_X5_168 ⟨Nat.le_of_ble_eq_true rfl, Nat.le_of_ble_eq_true rfl⟩ (e_X1_become (by decide) (by decide) s) (w_realm (by decide)) rfl rfl rfl rfl (Nat.le_of_ble_eq_true rfl) dX5_wouldFall_36 (fun _ s3 => ?_)
        refine rr_aload_n (q := 40) rfl dX5_wouldFall_39 rfl ?_
        refine rr_get (q := 43) rfl fl_X5_19 w_self rfl dX5_wouldFall_40 ?_
        refine rr_cVi (q := 46) rfl V_X1_bringDown ml_X5_165 ⟨Nat.le_of_ble_eq_true rfl, Nat.le_of_ble_eq_true rfl⟩ (e_X1_bringDown (by decide) s3) (w_realm (by decide)) rfl rfl rfl rfl (Nat.le_of_ble_eq_true rfl) dX5_wouldFall_43 (fun v4 s5 => ?_)
        refine rr_istore_n (L2 := fun y6 => [some (.ref 0), some (.int l1), some (.int y6)]) (q := 47) rfl dX5_wouldFall_46 (Nat.le_of_ble_eq_true rfl) (fun _ => rfl) (fun y6 => ?_)
        refine rr_iload_n (q := 48) rfl dX5_wouldFall_47 rfl ?_
        refine rr_if_ne 53 (q := 51) rfl dX5_wouldFall_48 rfl (fun _ => ?_) (fun _ => ?_)
        · refine rr_iload_n (q := 54) rfl dX5_wouldFall_53 rfl ?_
          refine rr_iconst 1 (q := 55) rfl dX5_wouldFall_54 rfl ?_
          refine rr_icmp_ne 78 (q := 58) rfl dX5_wouldFall_55 rfl (fun _ => ?_) (fun _ => ?_)
          · refine rr_aload_n (q := 79) rfl dX5_wouldFall_78 rfl ?_
            refine rr_get (q := 82) rfl fl_X5_19 w_self rfl dX5_wouldFall_79 ?_
            refine rr_get (q := 85) rfl fl_X5_117 (w_realm (by decide)) rfl dX5_wouldFall_82 ?_
            refine rr_aload_n (q := 86) rfl dX5_wouldFall_85 rfl ?_
            refine rr_get (q := 89) rfl fl_X5_10 w_self rfl dX5_wouldFall_86 ?_
            refine rr_get (q := 92) rfl fl_X5_117 (w_realm (by decide)) rfl dX5_wouldFall_89 ?_
            refine rr_iconst (-1) (q := 93) rfl dX5_wouldFall_92 rfl ?_
            refine rr_ixor (q := 94) rfl dX5_wouldFall_93 ?_
            refine rr_iand (q := 95) rfl dX5_wouldFall_94 ?_
            exact rr_iret dX5_wouldFall_95 rfl
          · refine rr_aload_n (q := 59) rfl dX5_wouldFall_58 rfl ?_
            refine rr_get (q := 62) rfl fl_X5_19 w_self rfl dX5_wouldFall_59 ?_
            refine rr_get (q := 65) rfl fl_X5_172 (w_realm (by decide)) rfl dX5_wouldFall_62 ?_
            refine rr_aload_n (q := 66) rfl dX5_wouldFall_65 rfl ?_
            refine rr_get (q := 69) rfl fl_X5_10 w_self rfl dX5_wouldFall_66 ?_
            refine rr_get (q := 72) rfl fl_X5_172 (w_realm (by decide)) rfl dX5_wouldFall_69 ?_
            refine rr_iconst (-1) (q := 73) rfl dX5_wouldFall_72 rfl ?_
            refine rr_ixor (q := 74) rfl dX5_wouldFall_73 ?_
            refine rr_iand (q := 75) rfl dX5_wouldFall_74 ?_
            refine rr_goto 95 dX5_wouldFall_75 rfl ?_
            exact rr_iret dX5_wouldFall_95 rfl
        · refine rr_iload_n (q := 52) rfl dX5_wouldFall_51 rfl ?_
          exact rr_iret dX5_wouldFall_52 rfl
      · refine rr_aload_n (q := 21) rfl dX5_wouldFall_20 rfl ?_
        refine rr_get (q := 24) rfl fl_X5_10 w_self rfl dX5_wouldFall_21 ?_
        refine rr_cVi (q := 27) rfl V_X1_looseWords ml_X5_113 ⟨Nat.le_of_ble_eq_true rfl, Nat.le_of_ble_eq_true rfl⟩ (e_X1_looseWords (by decide) s) (w_realm (by decide)) rfl rfl rfl rfl (Nat.le_of_ble_eq_true rfl) dX5_wouldFall_24 (fun v7 s8 => ?_)
        exact rr_iret dX5_wouldFall_27 rfl
    · refine rr_aload_n (q := 10) rfl dX5_wouldFall_9 rfl ?_
      refine rr_iconst 0 (q := 11) rfl dX5_wouldFall_10 rfl ?_
      refine rr_cVi (q := 14) rfl V_X5_finding ml_X5_62 ⟨Nat.le_of_ble_eq_true rfl, Nat.le_of_ble_eq_true rfl⟩ (e_X5_finding 0 s) w_self rfl rfl rfl rfl (Nat.le_of_ble_eq_true rfl) dX5_wouldFall_11 (fun v9 s10 => ?_)
      exact rr_iret dX5_wouldFall_14 rfl
def fX5_broughtDownWith (l1 : Int32) (s : SX) : Option (Int32 × SX) :=
  bd (fX1_become 2 0 s) fun _ s1 =>
  bd (fX1_breakWords 2 (1 <<< (l1 &&& 31)) s1) fun _ s2 =>
  bd (fX1_bringDown 2 s2) fun v3 s4 =>
  some ((gX s4 2 10 13) &&& ((gX s4 0 10 13) ^^^ (-1)), s4)
set_option maxRecDepth 100000 in
set_option maxHeartbeats 4000000 in
theorem e_X5_broughtDownWith {G : Cf} {t : SM} (l1 : Int32) (s : SX) : Ct (wfX t) inI G M_X5_broughtDownWith [.ref 0, .int l1] s (fX5_broughtDownWith l1 s) := by
  refine Ct.of (L0 := [some (.ref 0), some (.int l1)]) 0 rfl rfl ⟨rfl, rfl⟩ (Nat.le_of_ble_eq_true rfl) rfl ?_
  unfold fX5_broughtDownWith
  refine rr_aload_n (q := 1) rfl dX5_broughtDownWith_0 rfl ?_
  refine rr_get (q := 4) rfl fl_X5_19 w_self rfl dX5_broughtDownWith_1 ?_
  refine rr_aload_n (q := 5) rfl dX5_broughtDownWith_4 rfl ?_
  refine rr_get (q := 8) rfl fl_X5_10 w_self rfl dX5_broughtDownWith_5 ?_
  refine rr_cVu (q := 11) rfl V_X1_become ml_X5_168 ⟨Nat.le_of_ble_eq_true rfl, Nat.le_of_ble_eq_true rfl⟩ (e_X1_become (by decide) (by decide) s) (w_realm (by decide)) rfl rfl rfl rfl (Nat.le_of_ble_eq_true rfl) dX5_broughtDownWith_8 (fun _ s1 => ?_)
  refine rr_aload_n (q := 12) rfl dX5_broughtDownWith_11 rfl ?_
  refine rr_get (q := 15) rfl fl_X5_19 w_self rfl dX5_broughtDownWith_12 ?_
  refine rr_iconst 1 (q := 16) rfl dX5_broughtDownWith_15 rfl ?_
  refine rr_iload_n (q := 17) rfl dX5_broughtDownWith_16 rfl ?_
  refine rr_ishl (q := 18) rfl dX5_broughtDownWith_17 ?_
  refine rr_cVu (q := 21) rfl V_X1_breakWords ml_X5_294 ⟨Nat.le_of_ble_eq_true rfl, Nat.le_of_ble_eq_true rfl⟩ (e_X1_breakWords (by decide) (1 <<< (l1 &&& 31)) s1) (w_realm (by decide)) rfl rfl rfl rfl (Nat.le_of_ble_eq_true rfl) dX5_broughtDownWith_18 (fun _ s2 => ?_)
  refine rr_aload_n (q := 22) rfl dX5_broughtDownWith_21 rfl ?_
  refine rr_get (q := 25) rfl fl_X5_19 w_self rfl dX5_broughtDownWith_22 ?_
  refine rr_cVi (q := 28) rfl V_X1_bringDown ml_X5_165 ⟨Nat.le_of_ble_eq_true rfl, Nat.le_of_ble_eq_true rfl⟩ (e_X1_bringDown (by decide) s2) (w_realm (by decide)) rfl rfl rfl rfl (Nat.le_of_ble_eq_true rfl) dX5_broughtDownWith_25 (fun v3 s4 => ?_)
  refine rr_pop (q := 29) rfl dX5_broughtDownWith_28 rfl ?_
  refine rr_aload_n (q := 30) rfl dX5_broughtDownWith_29 rfl ?_
  refine rr_get (q := 33) rfl fl_X5_19 w_self rfl dX5_broughtDownWith_30 ?_
  refine rr_get (q := 36) rfl fl_X5_172 (w_realm (by decide)) rfl dX5_broughtDownWith_33 ?_
  refine rr_aload_n (q := 37) rfl dX5_broughtDownWith_36 rfl ?_
  refine rr_get (q := 40) rfl fl_X5_10 w_self rfl dX5_broughtDownWith_37 ?_
  refine rr_get (q := 43) rfl fl_X5_172 (w_realm (by decide)) rfl dX5_broughtDownWith_40 ?_
  refine rr_iconst (-1) (q := 44) rfl dX5_broughtDownWith_43 rfl ?_
  refine rr_ixor (q := 45) rfl dX5_broughtDownWith_44 ?_
  refine rr_iand (q := 46) rfl dX5_broughtDownWith_45 ?_
  exact rr_iret dX5_broughtDownWith_46 rfl
def fX5_pulls (l1 : Int32) (s : SX) : Option (Int32 × SX) :=
  bd (fX5_isTreaty l1 s) fun v1 s2 =>
  (if v1 = 0 then
  bd (fX5_finding 0 s2) fun v9 s10 =>
  some (v9, s10)
  else
  bd (fX1_isInForce 0 l1 s2) fun v3 s4 =>
  (if v3 = 0 then
  bd (fX5_finding 4 s4) fun v7 s8 =>
  some (v7, s8)
  else
  bd (fX5_broughtDownWith l1 s4) fun v5 s6 =>
  some (v5, s6)))
set_option maxRecDepth 100000 in
set_option maxHeartbeats 4000000 in
theorem e_X5_pulls {G : Cf} {t : SM} (l1 : Int32) (s : SX) : Ct (wfX t) inI G M_X5_pulls [.ref 0, .int l1] s (fX5_pulls l1 s) := by
  refine Ct.of (L0 := [some (.ref 0), some (.int l1)]) 0 rfl rfl ⟨rfl, rfl⟩ (Nat.le_of_ble_eq_true rfl) rfl ?_
  unfold fX5_pulls
  refine rr_aload_n (q := 1) rfl dX5_pulls_0 rfl ?_
  refine rr_iload_n (q := 2) rfl dX5_pulls_1 rfl ?_
  refine rr_cVi (q := 5) rfl V_X5_isTreaty ml_X5_134 ⟨Nat.le_of_ble_eq_true rfl, Nat.le_of_ble_eq_true rfl⟩ (e_X5_isTreaty l1 s) w_self rfl rfl rfl rfl (Nat.le_of_ble_eq_true rfl) dX5_pulls_2 (fun v1 s2 => ?_)
  refine rr_if_ne 14 (q := 8) rfl dX5_pulls_5 rfl (fun _ => ?_) (fun _ => ?_)
  · refine rr_aload_n (q := 15) rfl dX5_pulls_14 rfl ?_
    refine rr_get (q := 18) rfl fl_X5_10 w_self rfl dX5_pulls_15 ?_
    refine rr_iload_n (q := 19) rfl dX5_pulls_18 rfl ?_
    refine rr_cVi (q := 22) rfl V_X1_isInForce ml_X5_152 ⟨Nat.le_of_ble_eq_true rfl, Nat.le_of_ble_eq_true rfl⟩ (e_X1_isInForce (by decide) l1 s2) (w_realm (by decide)) rfl rfl rfl rfl (Nat.le_of_ble_eq_true rfl) dX5_pulls_19 (fun v3 s4 => ?_)
    refine rr_if_ne 31 (q := 25) rfl dX5_pulls_22 rfl (fun _ => ?_) (fun _ => ?_)
    · refine rr_aload_n (q := 32) rfl dX5_pulls_31 rfl ?_
      refine rr_iload_n (q := 33) rfl dX5_pulls_32 rfl ?_
      refine rr_cVi (q := 36) rfl V_X5_broughtDownWith ml_X5_175 ⟨Nat.le_of_ble_eq_true rfl, Nat.le_of_ble_eq_true rfl⟩ (e_X5_broughtDownWith l1 s4) w_self rfl rfl rfl rfl (Nat.le_of_ble_eq_true rfl) dX5_pulls_33 (fun v5 s6 => ?_)
      exact rr_iret dX5_pulls_36 rfl
    · refine rr_aload_n (q := 26) rfl dX5_pulls_25 rfl ?_
      refine rr_iconst 4 (q := 27) rfl dX5_pulls_26 rfl ?_
      refine rr_cVi (q := 30) rfl V_X5_finding ml_X5_62 ⟨Nat.le_of_ble_eq_true rfl, Nat.le_of_ble_eq_true rfl⟩ (e_X5_finding 4 s4) w_self rfl rfl rfl rfl (Nat.le_of_ble_eq_true rfl) dX5_pulls_27 (fun v7 s8 => ?_)
      exact rr_iret dX5_pulls_30 rfl
  · refine rr_aload_n (q := 9) rfl dX5_pulls_8 rfl ?_
    refine rr_iconst 0 (q := 10) rfl dX5_pulls_9 rfl ?_
    refine rr_cVi (q := 13) rfl V_X5_finding ml_X5_62 ⟨Nat.le_of_ble_eq_true rfl, Nat.le_of_ble_eq_true rfl⟩ (e_X5_finding 0 s2) w_self rfl rfl rfl rfl (Nat.le_of_ble_eq_true rfl) dX5_pulls_10 (fun v9 s10 => ?_)
    exact rr_iret dX5_pulls_13 rfl
def fX5_keystone_52 (k6 : Int32 → Int32 → Int32 → SX → Option (Int32 × SX)) (l1 : Int32) (l2 : Int32) (l3 : Int32) (s : SX) : Option (Int32 × SX) :=
  vl (l3 + 1) fun y15 =>
  k6 l1 l2 y15 s
set_option maxRecDepth 100000 in
set_option maxHeartbeats 4000000 in
theorem e_X5_keystone_52 {G : Cf} {t : SM} {k6 : Int32 → Int32 → Int32 → SX → Option (Int32 × SX)} (hk6 : ∀ (l1 : Int32) (l2 : Int32) (l3 : Int32) (s : SX), R (wfX t) inI G M_X5_keystone 6 [some (.ref 0), some (.int l1), some (.int l2), some (.int l3), none] [] s (k6 l1 l2 l3 s)) (l1 : Int32) (l2 : Int32) (l3 : Int32) (s : SX) : R (wfX t) inI G M_X5_keystone 52 [some (.ref 0), some (.int l1), some (.int l2), some (.int l3), none] [] s (fX5_keystone_52 k6 l1 l2 l3 s) := by
  unfold fX5_keystone_52
  refine rr_iinc (L2 := fun y15 => [some (.ref 0), some (.int l1), some (.int l2), some (.int y15), none]) (q := 55) rfl dX5_keystone_52 rfl rfl (Nat.le_of_ble_eq_true rfl) (fun _ => rfl) (fun y15 => ?_)
  refine rr_goto 6 dX5_keystone_55 rfl ?_
  exact hk6 l1 l2 y15 s
def fX5_keystone_6b (k6 : Int32 → Int32 → Int32 → SX → Option (Int32 × SX)) (l1 : Int32) (l2 : Int32) (l3 : Int32) (s : SX) : Option (Int32 × SX) :=
  (if (gX s 0 10 11) ≤ l3 then
  (if 0 ≤ l1 then
  some (l1, s)
  else
  bd (fX5_finding 3 s) fun v4 s5 =>
  some (v4, s5))
  else
  bd (fX1_isInForce 0 l3 s) fun v6 s7 =>
  (if v6 = 0 then
  fX5_keystone_52 k6 l1 l2 l3 s7
  else
  bd (fX5_broughtDownWith l3 s7) fun v8 s9 =>
  bd (fJ6_bitCount_0f7a4 v8 s9) fun v10 s11 =>
  vl v10 fun y12 =>
  (if y12 ≤ l2 then
  fX5_keystone_52 k6 l1 l2 l3 s11
  else
  vl y12 fun y13 =>
  vl l3 fun y14 =>
  fX5_keystone_52 k6 y14 y13 l3 s11)))
set_option maxRecDepth 100000 in
set_option maxHeartbeats 4000000 in
theorem e_X5_keystone_6b {G : Cf} {t : SM} {k6 : Int32 → Int32 → Int32 → SX → Option (Int32 × SX)} (hk6 : ∀ (l1 : Int32) (l2 : Int32) (l3 : Int32) (s : SX), R (wfX t) inI G M_X5_keystone 6 [some (.ref 0), some (.int l1), some (.int l2), some (.int l3), none] [] s (k6 l1 l2 l3 s)) (l1 : Int32) (l2 : Int32) (l3 : Int32) (s : SX) : R (wfX t) inI G M_X5_keystone 6 [some (.ref 0), some (.int l1), some (.int l2), some (.int l3), none] [] s (fX5_keystone_6b k6 l1 l2 l3 s) := by
  unfold fX5_keystone_6b
  refine rr_iload_n (q := 7) rfl dX5_keystone_6 rfl ?_
  refine rr_aload_n (q := 8) rfl dX5_keystone_7 rfl ?_
  refine rr_get (q := 11) rfl fl_X5_10 w_self rfl dX5_keystone_8 ?_
  refine rr_get (q := 14) rfl fl_X5_128 (w_realm (by decide)) rfl dX5_keystone_11 ?_
  refine rr_icmp_ge 58 (q := 17) rfl dX5_keystone_14 rfl (fun _ => ?_) (fun _ => ?_)
  · refine rr_iload_n (q := 59) rfl dX5_keystone_58 rfl ?_
    refine rr_if_ge 70 (q := 62) rfl dX5_keystone_59 rfl (fun _ => ?_) (fun _ => ?_)
    · refine rr_iload_n (q := 71) rfl dX5_keystone_70 rfl ?_
      exact rr_iret dX5_keystone_71 rfl
    · refine rr_aload_n (q := 63) rfl dX5_keystone_62 rfl ?_
      refine rr_iconst 3 (q := 64) rfl dX5_keystone_63 rfl ?_
      refine rr_cVi (q := 67) rfl V_X5_finding ml_X5_62 ⟨Nat.le_of_ble_eq_true rfl, Nat.le_of_ble_eq_true rfl⟩ (e_X5_finding 3 s) w_self rfl rfl rfl rfl (Nat.le_of_ble_eq_true rfl) dX5_keystone_64 (fun v4 s5 => ?_)
      refine rr_goto 71 dX5_keystone_67 rfl ?_
      exact rr_iret dX5_keystone_71 rfl
  · refine rr_aload_n (q := 18) rfl dX5_keystone_17 rfl ?_
    refine rr_get (q := 21) rfl fl_X5_10 w_self rfl dX5_keystone_18 ?_
    refine rr_iload_n (q := 22) rfl dX5_keystone_21 rfl ?_
    refine rr_cVi (q := 25) rfl V_X1_isInForce ml_X5_152 ⟨Nat.le_of_ble_eq_true rfl, Nat.le_of_ble_eq_true rfl⟩ (e_X1_isInForce (by decide) l3 s) (w_realm (by decide)) rfl rfl rfl rfl (Nat.le_of_ble_eq_true rfl) dX5_keystone_22 (fun v6 s7 => ?_)
    refine rr_if_ne 31 (q := 28) rfl dX5_keystone_25 rfl (fun _ => ?_) (fun _ => ?_)
    · refine rr_aload_n (q := 32) rfl dX5_keystone_31 rfl ?_
      refine rr_iload_n (q := 33) rfl dX5_keystone_32 rfl ?_
      refine rr_cVi (q := 36) rfl V_X5_broughtDownWith ml_X5_175 ⟨Nat.le_of_ble_eq_true rfl, Nat.le_of_ble_eq_true rfl⟩ (e_X5_broughtDownWith l3 s7) w_self rfl rfl rfl rfl (Nat.le_of_ble_eq_true rfl) dX5_keystone_33 (fun v8 s9 => ?_)
      refine rr_cSi (q := 39) rfl V_J6_bitCount_0f7a4 ml_X5_120 ⟨Nat.le_of_ble_eq_true rfl, Nat.le_of_ble_eq_true rfl⟩ (e_J6_bitCount_0f7a4 v8 s9) rfl rfl (Nat.le_of_ble_eq_true rfl) dX5_keystone_36 (fun v10 s11 => ?_)
      refine rr_istore (L2 := fun y12 => [some (.ref 0), some (.int l1), some (.int l2), some (.int l3), some (.int y12)]) (q := 41) rfl dX5_keystone_39 (Nat.le_of_ble_eq_true rfl) (fun _ => rfl) (fun y12 => ?_)
      refine rr_iload (q := 43) rfl dX5_keystone_41 rfl ?_
      refine rr_iload_n (q := 44) rfl dX5_keystone_43 rfl ?_
      refine rr_icmp_le 52 (q := 47) rfl dX5_keystone_44 rfl (fun _ => ?_) (fun _ => ?_)
      · refine rr_mask [true, true, true, true, false] (L' := [some (.ref 0), some (.int l1), some (.int l2), some (.int l3), none]) rfl ?_
        exact e_X5_keystone_52 hk6 l1 l2 l3 s11
      · refine rr_iload (q := 49) rfl dX5_keystone_47 rfl ?_
        refine rr_istore_n (L2 := fun y13 => [some (.ref 0), some (.int l1), some (.int y13), some (.int l3), some (.int y12)]) (q := 50) rfl dX5_keystone_49 (Nat.le_of_ble_eq_true rfl) (fun _ => rfl) (fun y13 => ?_)
        refine rr_iload_n (q := 51) rfl dX5_keystone_50 rfl ?_
        refine rr_istore_n (L2 := fun y14 => [some (.ref 0), some (.int y14), some (.int y13), some (.int l3), some (.int y12)]) (q := 52) rfl dX5_keystone_51 (Nat.le_of_ble_eq_true rfl) (fun _ => rfl) (fun y14 => ?_)
        refine rr_mask [true, true, true, true, false] (L' := [some (.ref 0), some (.int y14), some (.int y13), some (.int l3), none]) rfl ?_
        exact e_X5_keystone_52 hk6 y14 y13 l3 s11
    · refine rr_goto 52 dX5_keystone_28 rfl ?_
      exact e_X5_keystone_52 hk6 l1 l2 l3 s7
def fX5_keystone_6 : Nat → Int32 → Int32 → Int32 → SX → Option (Int32 × SX) := lp (fun _ _ _ _ => none) (fX5_keystone_6b)
theorem e_X5_keystone_6 {G : Cf} {t : SM}  (n : Nat) : ∀ (l1 : Int32) (l2 : Int32) (l3 : Int32) (s : SX), R (wfX t) inI G M_X5_keystone 6 [some (.ref 0), some (.int l1), some (.int l2), some (.int l3), none] [] s (fX5_keystone_6 n l1 l2 l3 s) := by
  unfold fX5_keystone_6
  exact rr_lp (P := fun (kz : Int32 → Int32 → Int32 → SX → Option (Int32 × SX)) => ∀ (l1 : Int32) (l2 : Int32) (l3 : Int32) (s : SX), R (wfX t) inI G M_X5_keystone 6 [some (.ref 0), some (.int l1), some (.int l2), some (.int l3), none] [] s (kz l1 l2 l3 s)) (fun _ _ _ _ => rr_none) (fun kz hkz => fun l1 l2 l3 s => e_X5_keystone_6b hkz l1 l2 l3 s) n
def fX5_keystone (s : SX) : Option (Int32 × SX) :=
  vl (-1) fun y1 =>
  vl 0 fun y2 =>
  vl 0 fun y3 =>
  fX5_keystone_6 400 y1 y2 y3 s
set_option maxRecDepth 100000 in
set_option maxHeartbeats 4000000 in
theorem e_X5_keystone {G : Cf} {t : SM} (s : SX) : Ct (wfX t) inI G M_X5_keystone [.ref 0] s (fX5_keystone s) := by
  refine Ct.of (L0 := [some (.ref 0), none, none, none, none]) 4 rfl rfl ⟨rfl, rfl⟩ (Nat.le_of_ble_eq_true rfl) rfl ?_
  unfold fX5_keystone
  refine rr_iconst (-1) (q := 1) rfl dX5_keystone_0 rfl ?_
  refine rr_istore_n (L2 := fun y1 => [some (.ref 0), some (.int y1), none, none, none]) (q := 2) rfl dX5_keystone_1 (Nat.le_of_ble_eq_true rfl) (fun _ => rfl) (fun y1 => ?_)
  refine rr_iconst 0 (q := 3) rfl dX5_keystone_2 rfl ?_
  refine rr_istore_n (L2 := fun y2 => [some (.ref 0), some (.int y1), some (.int y2), none, none]) (q := 4) rfl dX5_keystone_3 (Nat.le_of_ble_eq_true rfl) (fun _ => rfl) (fun y2 => ?_)
  refine rr_iconst 0 (q := 5) rfl dX5_keystone_4 rfl ?_
  refine rr_istore_n (L2 := fun y3 => [some (.ref 0), some (.int y1), some (.int y2), some (.int y3), none]) (q := 6) rfl dX5_keystone_5 (Nat.le_of_ble_eq_true rfl) (fun _ => rfl) (fun y3 => ?_)
  exact e_X5_keystone_6 400 y1 y2 y3 s
def fX5_months (l1 : Int32) (s : SX) : Option (Int32 × SX) :=
  (if l1 < 1 then
  bd (fX5_finding 0 s) fun v1 s2 =>
  some (v1, s2)
  else
  (if l1 ≤ 60 then
  (if ((gX s 0 10 14) + l1) ≤ 999 then
  vl (gX s 0 10 13) fun y3 =>
  bd (fX1_pass 0 l1 s) fun _ s4 =>
  bd (fJ6_bitCount_0f7a4 ((gX s4 0 10 13) &&& (y3 ^^^ (-1))) s4) fun v5 s6 =>
  some (v5, s6)
  else
  bd (fX5_finding 4 s) fun v7 s8 =>
  some (v7, s8))
  else
  bd (fX5_finding 0 s) fun v9 s10 =>
  some (v9, s10)))
set_option maxRecDepth 100000 in
set_option maxHeartbeats 4000000 in
theorem e_X5_months {G : Cf} {t : SM} (l1 : Int32) (s : SX) : Ct (wfX t) inI G M_X5_months [.ref 0, .int l1] s (fX5_months l1 s) := by
  refine Ct.of (L0 := [some (.ref 0), some (.int l1), none]) 1 rfl rfl ⟨rfl, rfl⟩ (Nat.le_of_ble_eq_true rfl) rfl ?_
  unfold fX5_months
  refine rr_iload_n (q := 1) rfl dX5_months_0 rfl ?_
  refine rr_iconst 1 (q := 2) rfl dX5_months_1 rfl ?_
  refine rr_icmp_lt 11 (q := 5) rfl dX5_months_2 rfl (fun _ => ?_) (fun _ => ?_)
  · refine rr_aload_n (q := 12) rfl dX5_months_11 rfl ?_
    refine rr_iconst 0 (q := 13) rfl dX5_months_12 rfl ?_
    refine rr_cVi (q := 16) rfl V_X5_finding ml_X5_62 ⟨Nat.le_of_ble_eq_true rfl, Nat.le_of_ble_eq_true rfl⟩ (e_X5_finding 0 s) w_self rfl rfl rfl rfl (Nat.le_of_ble_eq_true rfl) dX5_months_13 (fun v1 s2 => ?_)
    exact rr_iret dX5_months_16 rfl
  · refine rr_iload_n (q := 6) rfl dX5_months_5 rfl ?_
    refine rr_bipush 60 (q := 8) rfl dX5_months_6 rfl ?_
    refine rr_icmp_le 17 (q := 11) rfl dX5_months_8 rfl (fun _ => ?_) (fun _ => ?_)
    · refine rr_aload_n (q := 18) rfl dX5_months_17 rfl ?_
      refine rr_get (q := 21) rfl fl_X5_10 w_self rfl dX5_months_18 ?_
      refine rr_get (q := 24) rfl fl_X5_178 (w_realm (by decide)) rfl dX5_months_21 ?_
      refine rr_iload_n (q := 25) rfl dX5_months_24 rfl ?_
      refine rr_iadd (q := 26) rfl dX5_months_25 ?_
      refine rr_sipush 999 (q := 29) rfl dX5_months_26 rfl ?_
      refine rr_icmp_le 38 (q := 32) rfl dX5_months_29 rfl (fun _ => ?_) (fun _ => ?_)
      · refine rr_aload_n (q := 39) rfl dX5_months_38 rfl ?_
        refine rr_get (q := 42) rfl fl_X5_10 w_self rfl dX5_months_39 ?_
        refine rr_get (q := 45) rfl fl_X5_172 (w_realm (by decide)) rfl dX5_months_42 ?_
        refine rr_istore_n (L2 := fun y3 => [some (.ref 0), some (.int l1), some (.int y3)]) (q := 46) rfl dX5_months_45 (Nat.le_of_ble_eq_true rfl) (fun _ => rfl) (fun y3 => ?_)
        refine rr_aload_n (q := 47) rfl dX5_months_46 rfl ?_
        refine rr_get (q := 50) rfl fl_X5_10 w_self rfl dX5_months_47 ?_
        refine rr_iload_n (q := 51) rfl dX5_months_50 rfl ?_
        refine rr_cVu (q := 54) rfl V_X1_pass ml_X5_181 ⟨Nat.le_of_ble_eq_true rfl, Nat.le_of_ble_eq_true rfl⟩ (e_X1_pass (by decide) l1 s) (w_realm (by decide)) rfl rfl rfl rfl (Nat.le_of_ble_eq_true rfl) dX5_months_51 (fun _ s4 => ?_)
        refine rr_aload_n (q := 55) rfl dX5_months_54 rfl ?_
        refine rr_get (q := 58) rfl fl_X5_10 w_self rfl dX5_months_55 ?_
        refine rr_get (q := 61) rfl fl_X5_172 (w_realm (by decide)) rfl dX5_months_58 ?_
        refine rr_iload_n (q := 62) rfl dX5_months_61 rfl ?_
        refine rr_iconst (-1) (q := 63) rfl dX5_months_62 rfl ?_
        refine rr_ixor (q := 64) rfl dX5_months_63 ?_
        refine rr_iand (q := 65) rfl dX5_months_64 ?_
        refine rr_cSi (q := 68) rfl V_J6_bitCount_0f7a4 ml_X5_120 ⟨Nat.le_of_ble_eq_true rfl, Nat.le_of_ble_eq_true rfl⟩ (e_J6_bitCount_0f7a4 ((gX s4 0 10 13) &&& (y3 ^^^ (-1))) s4) rfl rfl (Nat.le_of_ble_eq_true rfl) dX5_months_65 (fun v5 s6 => ?_)
        exact rr_iret dX5_months_68 rfl
      · refine rr_aload_n (q := 33) rfl dX5_months_32 rfl ?_
        refine rr_iconst 4 (q := 34) rfl dX5_months_33 rfl ?_
        refine rr_cVi (q := 37) rfl V_X5_finding ml_X5_62 ⟨Nat.le_of_ble_eq_true rfl, Nat.le_of_ble_eq_true rfl⟩ (e_X5_finding 4 s) w_self rfl rfl rfl rfl (Nat.le_of_ble_eq_true rfl) dX5_months_34 (fun v7 s8 => ?_)
        exact rr_iret dX5_months_37 rfl
    · refine rr_aload_n (q := 12) rfl dX5_months_11 rfl ?_
      refine rr_iconst 0 (q := 13) rfl dX5_months_12 rfl ?_
      refine rr_cVi (q := 16) rfl V_X5_finding ml_X5_62 ⟨Nat.le_of_ble_eq_true rfl, Nat.le_of_ble_eq_true rfl⟩ (e_X5_finding 0 s) w_self rfl rfl rfl rfl (Nat.le_of_ble_eq_true rfl) dX5_months_13 (fun v9 s10 => ?_)
      exact rr_iret dX5_months_16 rfl
def fX5_now (l1 : Int32) (s : SX) : Option (Int32 × SX) :=
  (if l1 = 0 then
  some (gX s 0 10 14, s)
  else
  (if l1 = 1 then
  bd (fX1_wordsInForce 0 s) fun v2 s3 =>
  bd (fJ6_bitCount_0f7a4 v2 s3) fun v4 s5 =>
  some (v4, s5)
  else
  (if l1 = 2 then
  bd (fJ6_bitCount_0f7a4 (gX s 0 10 13) s) fun v7 s8 =>
  some (v7, s8)
  else
  (if l1 = 3 then
  bd (fX1_living 0 s) fun v10 s11 =>
  bd (fJ6_bitCount_0f7a4 v10 s11) fun v12 s13 =>
  some (v12, s13)
  else
  (if l1 = 4 then
  bd (fX1_livingAtHome 0 s) fun v15 s16 =>
  bd (fJ6_bitCount_0f7a4 v15 s16) fun v17 s18 =>
  some (v17, s18)
  else
  bd (fX5_finding 0 s) fun v20 s21 =>
  some (v20, s21))))))
set_option maxRecDepth 100000 in
set_option maxHeartbeats 4000000 in
theorem e_X5_now {G : Cf} {t : SM} (l1 : Int32) (s : SX) : Ct (wfX t) inI G M_X5_now [.ref 0, .int l1] s (fX5_now l1 s) := by
  refine Ct.of (L0 := [some (.ref 0), some (.int l1)]) 0 rfl rfl ⟨rfl, rfl⟩ (Nat.le_of_ble_eq_true rfl) rfl ?_
  unfold fX5_now
  refine rr_iload_n (q := 1) rfl dX5_now_0 rfl ?_
  refine rr_case 0 ?_ (fun hs1 => ?_)
  · refine rr_tableIn 36 dX5_now_1 (by decide) (by decide) rfl rfl ?_
    refine rr_aload_n (q := 37) rfl dX5_now_36 rfl ?_
    refine rr_get (q := 40) rfl fl_X5_10 w_self rfl dX5_now_37 ?_
    refine rr_get (q := 43) rfl fl_X5_178 (w_realm (by decide)) rfl dX5_now_40 ?_
    exact rr_iret dX5_now_43 rfl
  · refine rr_case 1 ?_ (fun hs6 => ?_)
    · refine rr_tableIn 44 dX5_now_1 (by decide) (by decide) rfl rfl ?_
      refine rr_aload_n (q := 45) rfl dX5_now_44 rfl ?_
      refine rr_get (q := 48) rfl fl_X5_10 w_self rfl dX5_now_45 ?_
      refine rr_cVi (q := 51) rfl V_X1_wordsInForce ml_X5_185 ⟨Nat.le_of_ble_eq_true rfl, Nat.le_of_ble_eq_true rfl⟩ (e_X1_wordsInForce (by decide) s) (w_realm (by decide)) rfl rfl rfl rfl (Nat.le_of_ble_eq_true rfl) dX5_now_48 (fun v2 s3 => ?_)
      refine rr_cSi (q := 54) rfl V_J6_bitCount_0f7a4 ml_X5_120 ⟨Nat.le_of_ble_eq_true rfl, Nat.le_of_ble_eq_true rfl⟩ (e_J6_bitCount_0f7a4 v2 s3) rfl rfl (Nat.le_of_ble_eq_true rfl) dX5_now_51 (fun v4 s5 => ?_)
      exact rr_iret dX5_now_54 rfl
    · refine rr_case 2 ?_ (fun hs9 => ?_)
      · refine rr_tableIn 55 dX5_now_1 (by decide) (by decide) rfl rfl ?_
        refine rr_aload_n (q := 56) rfl dX5_now_55 rfl ?_
        refine rr_get (q := 59) rfl fl_X5_10 w_self rfl dX5_now_56 ?_
        refine rr_get (q := 62) rfl fl_X5_172 (w_realm (by decide)) rfl dX5_now_59 ?_
        refine rr_cSi (q := 65) rfl V_J6_bitCount_0f7a4 ml_X5_120 ⟨Nat.le_of_ble_eq_true rfl, Nat.le_of_ble_eq_true rfl⟩ (e_J6_bitCount_0f7a4 (gX s 0 10 13) s) rfl rfl (Nat.le_of_ble_eq_true rfl) dX5_now_62 (fun v7 s8 => ?_)
        exact rr_iret dX5_now_65 rfl
      · refine rr_case 3 ?_ (fun hs14 => ?_)
        · refine rr_tableIn 66 dX5_now_1 (by decide) (by decide) rfl rfl ?_
          refine rr_aload_n (q := 67) rfl dX5_now_66 rfl ?_
          refine rr_get (q := 70) rfl fl_X5_10 w_self rfl dX5_now_67 ?_
          refine rr_cVi (q := 73) rfl V_X1_living ml_X5_188 ⟨Nat.le_of_ble_eq_true rfl, Nat.le_of_ble_eq_true rfl⟩ (e_X1_living (by decide) s) (w_realm (by decide)) rfl rfl rfl rfl (Nat.le_of_ble_eq_true rfl) dX5_now_70 (fun v10 s11 => ?_)
          refine rr_cSi (q := 76) rfl V_J6_bitCount_0f7a4 ml_X5_120 ⟨Nat.le_of_ble_eq_true rfl, Nat.le_of_ble_eq_true rfl⟩ (e_J6_bitCount_0f7a4 v10 s11) rfl rfl (Nat.le_of_ble_eq_true rfl) dX5_now_73 (fun v12 s13 => ?_)
          exact rr_iret dX5_now_76 rfl
        · refine rr_case 4 ?_ (fun hs19 => ?_)
          · refine rr_tableIn 77 dX5_now_1 (by decide) (by decide) rfl rfl ?_
            refine rr_aload_n (q := 78) rfl dX5_now_77 rfl ?_
            refine rr_get (q := 81) rfl fl_X5_10 w_self rfl dX5_now_78 ?_
            refine rr_cVi (q := 84) rfl V_X1_livingAtHome ml_X5_191 ⟨Nat.le_of_ble_eq_true rfl, Nat.le_of_ble_eq_true rfl⟩ (e_X1_livingAtHome (by decide) s) (w_realm (by decide)) rfl rfl rfl rfl (Nat.le_of_ble_eq_true rfl) dX5_now_81 (fun v15 s16 => ?_)
            refine rr_cSi (q := 87) rfl V_J6_bitCount_0f7a4 ml_X5_120 ⟨Nat.le_of_ble_eq_true rfl, Nat.le_of_ble_eq_true rfl⟩ (e_J6_bitCount_0f7a4 v15 s16) rfl rfl (Nat.le_of_ble_eq_true rfl) dX5_now_84 (fun v17 s18 => ?_)
            exact rr_iret dX5_now_87 rfl
          · refine rr_tableOut 88 dX5_now_1 (by have ahs1 := ne_lit (n := 0) hs1 rfl; have ahs6 := ne_lit (n := 1) hs6 rfl; have ahs9 := ne_lit (n := 2) hs9 rfl; have ahs14 := ne_lit (n := 3) hs14 rfl; have ahs19 := ne_lit (n := 4) hs19 rfl; omega) rfl ?_
            refine rr_aload_n (q := 89) rfl dX5_now_88 rfl ?_
            refine rr_iconst 0 (q := 90) rfl dX5_now_89 rfl ?_
            refine rr_cVi (q := 93) rfl V_X5_finding ml_X5_62 ⟨Nat.le_of_ble_eq_true rfl, Nat.le_of_ble_eq_true rfl⟩ (e_X5_finding 0 s) w_self rfl rfl rfl rfl (Nat.le_of_ble_eq_true rfl) dX5_now_90 (fun v20 s21 => ?_)
            exact rr_iret dX5_now_93 rfl
def fX5_on (l1 : Int32) (s : SX) : Option (Int32 × SX) :=
  bd (fX5_isWithin l1 120 s) fun v1 s2 =>
  (if v1 = 0 then
  bd (fX5_finding 0 s2) fun v9 s10 =>
  some (v9, s10)
  else
  (if ((gX s2 0 10 14) + l1) ≤ 999 then
  bd (fX1_become 2 0 s2) fun _ s3 =>
  bd (fX1_pass 2 l1 s3) fun _ s4 =>
  bd (fX1_wordsInForce 2 s4) fun v5 s6 =>
  some (v5, s6)
  else
  bd (fX5_finding 4 s2) fun v7 s8 =>
  some (v7, s8)))
set_option maxRecDepth 100000 in
set_option maxHeartbeats 4000000 in
theorem e_X5_on {G : Cf} {t : SM} (l1 : Int32) (s : SX) : Ct (wfX t) inI G M_X5_on [.ref 0, .int l1] s (fX5_on l1 s) := by
  refine Ct.of (L0 := [some (.ref 0), some (.int l1)]) 0 rfl rfl ⟨rfl, rfl⟩ (Nat.le_of_ble_eq_true rfl) rfl ?_
  unfold fX5_on
  refine rr_iload_n (q := 1) rfl dX5_on_0 rfl ?_
  refine rr_bipush 120 (q := 3) rfl dX5_on_1 rfl ?_
  refine rr_cSi (q := 6) rfl V_X5_isWithin ml_X5_58 ⟨Nat.le_of_ble_eq_true rfl, Nat.le_of_ble_eq_true rfl⟩ (e_X5_isWithin l1 120 s) rfl rfl (Nat.le_of_ble_eq_true rfl) dX5_on_3 (fun v1 s2 => ?_)
  refine rr_if_ne 15 (q := 9) rfl dX5_on_6 rfl (fun _ => ?_) (fun _ => ?_)
  · refine rr_aload_n (q := 16) rfl dX5_on_15 rfl ?_
    refine rr_get (q := 19) rfl fl_X5_10 w_self rfl dX5_on_16 ?_
    refine rr_get (q := 22) rfl fl_X5_178 (w_realm (by decide)) rfl dX5_on_19 ?_
    refine rr_iload_n (q := 23) rfl dX5_on_22 rfl ?_
    refine rr_iadd (q := 24) rfl dX5_on_23 ?_
    refine rr_sipush 999 (q := 27) rfl dX5_on_24 rfl ?_
    refine rr_icmp_le 36 (q := 30) rfl dX5_on_27 rfl (fun _ => ?_) (fun _ => ?_)
    · refine rr_aload_n (q := 37) rfl dX5_on_36 rfl ?_
      refine rr_get (q := 40) rfl fl_X5_19 w_self rfl dX5_on_37 ?_
      refine rr_aload_n (q := 41) rfl dX5_on_40 rfl ?_
      refine rr_get (q := 44) rfl fl_X5_10 w_self rfl dX5_on_41 ?_
      refine rr_cVu (q := 47) rfl V_X1_become ml_X5_168 ⟨Nat.le_of_ble_eq_true rfl, Nat.le_of_ble_eq_true rfl⟩ (e_X1_become (by decide) (by decide) s2) (w_realm (by decide)) rfl rfl rfl rfl (Nat.le_of_ble_eq_true rfl) dX5_on_44 (fun _ s3 => ?_)
      refine rr_aload_n (q := 48) rfl dX5_on_47 rfl ?_
      refine rr_get (q := 51) rfl fl_X5_19 w_self rfl dX5_on_48 ?_
      refine rr_iload_n (q := 52) rfl dX5_on_51 rfl ?_
      refine rr_cVu (q := 55) rfl V_X1_pass ml_X5_181 ⟨Nat.le_of_ble_eq_true rfl, Nat.le_of_ble_eq_true rfl⟩ (e_X1_pass (by decide) l1 s3) (w_realm (by decide)) rfl rfl rfl rfl (Nat.le_of_ble_eq_true rfl) dX5_on_52 (fun _ s4 => ?_)
      refine rr_aload_n (q := 56) rfl dX5_on_55 rfl ?_
      refine rr_get (q := 59) rfl fl_X5_19 w_self rfl dX5_on_56 ?_
      refine rr_cVi (q := 62) rfl V_X1_wordsInForce ml_X5_185 ⟨Nat.le_of_ble_eq_true rfl, Nat.le_of_ble_eq_true rfl⟩ (e_X1_wordsInForce (by decide) s4) (w_realm (by decide)) rfl rfl rfl rfl (Nat.le_of_ble_eq_true rfl) dX5_on_59 (fun v5 s6 => ?_)
      exact rr_iret dX5_on_62 rfl
    · refine rr_aload_n (q := 31) rfl dX5_on_30 rfl ?_
      refine rr_iconst 4 (q := 32) rfl dX5_on_31 rfl ?_
      refine rr_cVi (q := 35) rfl V_X5_finding ml_X5_62 ⟨Nat.le_of_ble_eq_true rfl, Nat.le_of_ble_eq_true rfl⟩ (e_X5_finding 4 s2) w_self rfl rfl rfl rfl (Nat.le_of_ble_eq_true rfl) dX5_on_32 (fun v7 s8 => ?_)
      exact rr_iret dX5_on_35 rfl
  · refine rr_aload_n (q := 10) rfl dX5_on_9 rfl ?_
    refine rr_iconst 0 (q := 11) rfl dX5_on_10 rfl ?_
    refine rr_cVi (q := 14) rfl V_X5_finding ml_X5_62 ⟨Nat.le_of_ble_eq_true rfl, Nat.le_of_ble_eq_true rfl⟩ (e_X5_finding 0 s2) w_self rfl rfl rfl rfl (Nat.le_of_ble_eq_true rfl) dX5_on_11 (fun v9 s10 => ?_)
    exact rr_iret dX5_on_14 rfl
def fX5_moves (l1 : Int32) (s : SX) : Option (Int32 × SX) :=
  (if l1 < 0 then
  bd (fX5_finding 0 s) fun v1 s2 =>
  some (v1, s2)
  else
  (if l1 ≤ 2 then
  bd (fX0_plan s) fun v3 s4 =>
  vl v3 fun y5 =>
  (if y5 < 0 then
  bd (fX5_finding 3 s4) fun v6 s7 =>
  some (v6, s7)
  else
  (if l1 ≤ y5 then
  (if l1 = 0 then
  some (y5, s4)
  else
  (if l1 = 1 then
  some (gX s4 6 0 2, s4)
  else
  some (gX s4 6 0 3, s4)))
  else
  bd (fX5_finding 3 s4) fun v8 s9 =>
  some (v8, s9)))
  else
  bd (fX5_finding 0 s) fun v10 s11 =>
  some (v10, s11)))
set_option maxRecDepth 100000 in
set_option maxHeartbeats 4000000 in
theorem e_X5_moves {G : Cf} {t : SM} (l1 : Int32) (s : SX) : Ct (wfX t) inI G M_X5_moves [.ref 0, .int l1] s (fX5_moves l1 s) := by
  refine Ct.of (L0 := [some (.ref 0), some (.int l1), none]) 1 rfl rfl ⟨rfl, rfl⟩ (Nat.le_of_ble_eq_true rfl) rfl ?_
  unfold fX5_moves
  refine rr_iload_n (q := 1) rfl dX5_moves_0 rfl ?_
  refine rr_if_lt 9 (q := 4) rfl dX5_moves_1 rfl (fun _ => ?_) (fun _ => ?_)
  · refine rr_aload_n (q := 10) rfl dX5_moves_9 rfl ?_
    refine rr_iconst 0 (q := 11) rfl dX5_moves_10 rfl ?_
    refine rr_cVi (q := 14) rfl V_X5_finding ml_X5_62 ⟨Nat.le_of_ble_eq_true rfl, Nat.le_of_ble_eq_true rfl⟩ (e_X5_finding 0 s) w_self rfl rfl rfl rfl (Nat.le_of_ble_eq_true rfl) dX5_moves_11 (fun v1 s2 => ?_)
    exact rr_iret dX5_moves_14 rfl
  · refine rr_iload_n (q := 5) rfl dX5_moves_4 rfl ?_
    refine rr_iconst 2 (q := 6) rfl dX5_moves_5 rfl ?_
    refine rr_icmp_le 15 (q := 9) rfl dX5_moves_6 rfl (fun _ => ?_) (fun _ => ?_)
    · refine rr_aload_n (q := 16) rfl dX5_moves_15 rfl ?_
      refine rr_get (q := 19) rfl fl_X5_25 w_self rfl dX5_moves_16 ?_
      refine rr_aload_n (q := 20) rfl dX5_moves_19 rfl ?_
      refine rr_get (q := 23) rfl fl_X5_10 w_self rfl dX5_moves_20 ?_
      refine rr_cVi (q := 26) rfl V_X0_plan ml_X5_194 ⟨Nat.le_of_ble_eq_true rfl, Nat.le_of_ble_eq_true rfl⟩ (e_X0_plan s) w_planner rfl rfl rfl rfl (Nat.le_of_ble_eq_true rfl) dX5_moves_23 (fun v3 s4 => ?_)
      refine rr_istore_n (L2 := fun y5 => [some (.ref 0), some (.int l1), some (.int y5)]) (q := 27) rfl dX5_moves_26 (Nat.le_of_ble_eq_true rfl) (fun _ => rfl) (fun y5 => ?_)
      refine rr_iload_n (q := 28) rfl dX5_moves_27 rfl ?_
      refine rr_if_lt 36 (q := 31) rfl dX5_moves_28 rfl (fun _ => ?_) (fun _ => ?_)
      · refine rr_aload_n (q := 37) rfl dX5_moves_36 rfl ?_
        refine rr_iconst 3 (q := 38) rfl dX5_moves_37 rfl ?_
        refine rr_cVi (q := 41) rfl V_X5_finding ml_X5_62 ⟨Nat.le_of_ble_eq_true rfl, Nat.le_of_ble_eq_true rfl⟩ (e_X5_finding 3 s4) w_self rfl rfl rfl rfl (Nat.le_of_ble_eq_true rfl) dX5_moves_38 (fun v6 s7 => ?_)
        exact rr_iret dX5_moves_41 rfl
      · refine rr_iload_n (q := 32) rfl dX5_moves_31 rfl ?_
        refine rr_iload_n (q := 33) rfl dX5_moves_32 rfl ?_
        refine rr_icmp_le 42 (q := 36) rfl dX5_moves_33 rfl (fun _ => ?_) (fun _ => ?_)
        · refine rr_iload_n (q := 43) rfl dX5_moves_42 rfl ?_
          refine rr_if_ne 48 (q := 46) rfl dX5_moves_43 rfl (fun _ => ?_) (fun _ => ?_)
          · refine rr_iload_n (q := 49) rfl dX5_moves_48 rfl ?_
            refine rr_iconst 1 (q := 50) rfl dX5_moves_49 rfl ?_
            refine rr_icmp_ne 63 (q := 53) rfl dX5_moves_50 rfl (fun _ => ?_) (fun _ => ?_)
            · refine rr_aload_n (q := 64) rfl dX5_moves_63 rfl ?_
              refine rr_get (q := 67) rfl fl_X5_25 w_self rfl dX5_moves_64 ?_
              refine rr_get (q := 70) rfl fl_X5_201 w_planner rfl dX5_moves_67 ?_
              exact rr_iret dX5_moves_70 rfl
            · refine rr_aload_n (q := 54) rfl dX5_moves_53 rfl ?_
              refine rr_get (q := 57) rfl fl_X5_25 w_self rfl dX5_moves_54 ?_
              refine rr_get (q := 60) rfl fl_X5_198 w_planner rfl dX5_moves_57 ?_
              refine rr_goto 70 dX5_moves_60 rfl ?_
              exact rr_iret dX5_moves_70 rfl
          · refine rr_iload_n (q := 47) rfl dX5_moves_46 rfl ?_
            exact rr_iret dX5_moves_47 rfl
        · refine rr_aload_n (q := 37) rfl dX5_moves_36 rfl ?_
          refine rr_iconst 3 (q := 38) rfl dX5_moves_37 rfl ?_
          refine rr_cVi (q := 41) rfl V_X5_finding ml_X5_62 ⟨Nat.le_of_ble_eq_true rfl, Nat.le_of_ble_eq_true rfl⟩ (e_X5_finding 3 s4) w_self rfl rfl rfl rfl (Nat.le_of_ble_eq_true rfl) dX5_moves_38 (fun v8 s9 => ?_)
          exact rr_iret dX5_moves_41 rfl
    · refine rr_aload_n (q := 10) rfl dX5_moves_9 rfl ?_
      refine rr_iconst 0 (q := 11) rfl dX5_moves_10 rfl ?_
      refine rr_cVi (q := 14) rfl V_X5_finding ml_X5_62 ⟨Nat.le_of_ble_eq_true rfl, Nat.le_of_ble_eq_true rfl⟩ (e_X5_finding 0 s) w_self rfl rfl rfl rfl (Nat.le_of_ble_eq_true rfl) dX5_moves_11 (fun v10 s11 => ?_)
      exact rr_iret dX5_moves_14 rfl
def fX5_best_92 (k50 : Int32 → Int32 → Int32 → Int32 → SX → Option (Int32 × SX)) (l1 : Int32) (l2 : Int32) (l3 : Int32) (l4 : Int32) (s : SX) : Option (Int32 × SX) :=
  vl (l4 + 1) fun y22 =>
  k50 l1 l2 l3 y22 s
set_option maxRecDepth 100000 in
set_option maxHeartbeats 4000000 in
theorem e_X5_best_92 {G : Cf} {t : SM} {k50 : Int32 → Int32 → Int32 → Int32 → SX → Option (Int32 × SX)} (hk50 : ∀ (l1 : Int32) (l2 : Int32) (l3 : Int32) (l4 : Int32) (s : SX), R (wfX t) inI G M_X5_best 50 [some (.ref 0), some (.int l1), some (.int l2), some (.int l3), some (.int l4), none] [] s (k50 l1 l2 l3 l4 s)) (l1 : Int32) (l2 : Int32) (l3 : Int32) (l4 : Int32) (s : SX) : R (wfX t) inI G M_X5_best 92 [some (.ref 0), some (.int l1), some (.int l2), some (.int l3), some (.int l4), none] [] s (fX5_best_92 k50 l1 l2 l3 l4 s) := by
  unfold fX5_best_92
  refine rr_iinc (L2 := fun y22 => [some (.ref 0), some (.int l1), some (.int l2), some (.int l3), some (.int y22), none]) (q := 95) rfl dX5_best_92 rfl rfl (Nat.le_of_ble_eq_true rfl) (fun _ => rfl) (fun y22 => ?_)
  refine rr_goto 50 dX5_best_95 rfl ?_
  exact hk50 l1 l2 l3 y22 s
def fX5_best_50b (k50 : Int32 → Int32 → Int32 → Int32 → SX → Option (Int32 × SX)) (l1 : Int32) (l2 : Int32) (l3 : Int32) (l4 : Int32) (s : SX) : Option (Int32 × SX) :=
  (if 6 ≤ l4 then
  some (l2, s)
  else
  ixg l1 14 fun n13 => vl (wX s 2 3 n13 l4) fun s14 =>
  bd (fX1_looseWords 2 s14) fun v15 s16 =>
  bd (fJ6_bitCount_0f7a4 v15 s16) fun v17 s18 =>
  vl v17 fun y19 =>
  (if l3 ≤ y19 then
  fX5_best_92 k50 l1 l2 l3 l4 s18
  else
  vl y19 fun y20 =>
  vl l4 fun y21 =>
  fX5_best_92 k50 l1 y21 y20 l4 s18))
set_option maxRecDepth 100000 in
set_option maxHeartbeats 4000000 in
theorem e_X5_best_50b {G : Cf} {t : SM} {k50 : Int32 → Int32 → Int32 → Int32 → SX → Option (Int32 × SX)} (hk50 : ∀ (l1 : Int32) (l2 : Int32) (l3 : Int32) (l4 : Int32) (s : SX), R (wfX t) inI G M_X5_best 50 [some (.ref 0), some (.int l1), some (.int l2), some (.int l3), some (.int l4), none] [] s (k50 l1 l2 l3 l4 s)) (l1 : Int32) (l2 : Int32) (l3 : Int32) (l4 : Int32) (s : SX) : R (wfX t) inI G M_X5_best 50 [some (.ref 0), some (.int l1), some (.int l2), some (.int l3), some (.int l4), none] [] s (fX5_best_50b k50 l1 l2 l3 l4 s) := by
  unfold fX5_best_50b
  refine rr_iload (q := 52) rfl dX5_best_50 rfl ?_
  refine rr_bipush 6 (q := 54) rfl dX5_best_52 rfl ?_
  refine rr_icmp_ge 98 (q := 57) rfl dX5_best_54 rfl (fun _ => ?_) (fun _ => ?_)
  · refine rr_iload_n (q := 99) rfl dX5_best_98 rfl ?_
    exact rr_iret dX5_best_99 rfl
  · refine rr_aload_n (q := 58) rfl dX5_best_57 rfl ?_
    refine rr_get (q := 61) rfl fl_X5_19 w_self rfl dX5_best_58 ?_
    refine rr_get (q := 64) rfl fl_X5_98 (w_realm (by decide)) rfl dX5_best_61 ?_
    refine rr_iload_n (q := 65) rfl dX5_best_64 rfl ?_
    refine rr_iload (q := 67) rfl dX5_best_65 rfl ?_
    refine rr_iast (q := 68) rfl (w_rarr3 (by decide)) (fun _ => (u_rarr3 (by decide))) dX5_best_67 (fun n13 s14 => ?_)
    refine rr_aload_n (q := 69) rfl dX5_best_68 rfl ?_
    refine rr_get (q := 72) rfl fl_X5_19 w_self rfl dX5_best_69 ?_
    refine rr_cVi (q := 75) rfl V_X1_looseWords ml_X5_113 ⟨Nat.le_of_ble_eq_true rfl, Nat.le_of_ble_eq_true rfl⟩ (e_X1_looseWords (by decide) s14) (w_realm (by decide)) rfl rfl rfl rfl (Nat.le_of_ble_eq_true rfl) dX5_best_72 (fun v15 s16 => ?_)
    refine rr_cSi (q := 78) rfl V_J6_bitCount_0f7a4 ml_X5_120 ⟨Nat.le_of_ble_eq_true rfl, Nat.le_of_ble_eq_true rfl⟩ (e_J6_bitCount_0f7a4 v15 s16) rfl rfl (Nat.le_of_ble_eq_true rfl) dX5_best_75 (fun v17 s18 => ?_)
    refine rr_istore (L2 := fun y19 => [some (.ref 0), some (.int l1), some (.int l2), some (.int l3), some (.int l4), some (.int y19)]) (q := 80) rfl dX5_best_78 (Nat.le_of_ble_eq_true rfl) (fun _ => rfl) (fun y19 => ?_)
    refine rr_iload (q := 82) rfl dX5_best_80 rfl ?_
    refine rr_iload_n (q := 83) rfl dX5_best_82 rfl ?_
    refine rr_icmp_ge 92 (q := 86) rfl dX5_best_83 rfl (fun _ => ?_) (fun _ => ?_)
    · refine rr_mask [true, true, true, true, true, false] (L' := [some (.ref 0), some (.int l1), some (.int l2), some (.int l3), some (.int l4), none]) rfl ?_
      exact e_X5_best_92 hk50 l1 l2 l3 l4 s18
    · refine rr_iload (q := 88) rfl dX5_best_86 rfl ?_
      refine rr_istore_n (L2 := fun y20 => [some (.ref 0), some (.int l1), some (.int l2), some (.int y20), some (.int l4), some (.int y19)]) (q := 89) rfl dX5_best_88 (Nat.le_of_ble_eq_true rfl) (fun _ => rfl) (fun y20 => ?_)
      refine rr_iload (q := 91) rfl dX5_best_89 rfl ?_
      refine rr_istore_n (L2 := fun y21 => [some (.ref 0), some (.int l1), some (.int y21), some (.int y20), some (.int l4), some (.int y19)]) (q := 92) rfl dX5_best_91 (Nat.le_of_ble_eq_true rfl) (fun _ => rfl) (fun y21 => ?_)
      refine rr_mask [true, true, true, true, true, false] (L' := [some (.ref 0), some (.int l1), some (.int y21), some (.int y20), some (.int l4), none]) rfl ?_
      exact e_X5_best_92 hk50 l1 y21 y20 l4 s18
def fX5_best_50 : Nat → Int32 → Int32 → Int32 → Int32 → SX → Option (Int32 × SX) := lp (fun _ _ _ _ _ => none) (fX5_best_50b)
theorem e_X5_best_50 {G : Cf} {t : SM}  (n : Nat) : ∀ (l1 : Int32) (l2 : Int32) (l3 : Int32) (l4 : Int32) (s : SX), R (wfX t) inI G M_X5_best 50 [some (.ref 0), some (.int l1), some (.int l2), some (.int l3), some (.int l4), none] [] s (fX5_best_50 n l1 l2 l3 l4 s) := by
  unfold fX5_best_50
  exact rr_lp (P := fun (kz : Int32 → Int32 → Int32 → Int32 → SX → Option (Int32 × SX)) => ∀ (l1 : Int32) (l2 : Int32) (l3 : Int32) (l4 : Int32) (s : SX), R (wfX t) inI G M_X5_best 50 [some (.ref 0), some (.int l1), some (.int l2), some (.int l3), some (.int l4), none] [] s (kz l1 l2 l3 l4 s)) (fun _ _ _ _ _ => rr_none) (fun kz hkz => fun l1 l2 l3 l4 s => e_X5_best_50b hkz l1 l2 l3 l4 s) n
def fX5_best (l1 : Int32) (s : SX) : Option (Int32 × SX) :=
  bd (fX5_isChild l1 s) fun v1 s2 =>
  (if v1 = 0 then
  bd (fX5_finding 0 s2) fun v11 s12 =>
  some (v11, s12)
  else
  bd (fX1_isDead 0 l1 s2) fun v3 s4 =>
  (if v3 = 0 then
  bd (fX1_become 2 0 s4) fun _ s5 =>
  vl 0 fun y6 =>
  vl 13 fun y7 =>
  vl 0 fun y8 =>
  fX5_best_50 400 l1 y6 y7 y8 s5
  else
  bd (fX5_finding 4 s4) fun v9 s10 =>
  some (v9, s10)))
set_option maxRecDepth 100000 in
set_option maxHeartbeats 4000000 in
theorem e_X5_best {G : Cf} {t : SM} (l1 : Int32) (s : SX) : Ct (wfX t) inI G M_X5_best [.ref 0, .int l1] s (fX5_best l1 s) := by
  refine Ct.of (L0 := [some (.ref 0), some (.int l1), none, none, none, none]) 4 rfl rfl ⟨rfl, rfl⟩ (Nat.le_of_ble_eq_true rfl) rfl ?_
  unfold fX5_best
  refine rr_aload_n (q := 1) rfl dX5_best_0 rfl ?_
  refine rr_iload_n (q := 2) rfl dX5_best_1 rfl ?_
  refine rr_cVi (q := 5) rfl V_X5_isChild ml_X5_89 ⟨Nat.le_of_ble_eq_true rfl, Nat.le_of_ble_eq_true rfl⟩ (e_X5_isChild l1 s) w_self rfl rfl rfl rfl (Nat.le_of_ble_eq_true rfl) dX5_best_2 (fun v1 s2 => ?_)
  refine rr_if_ne 14 (q := 8) rfl dX5_best_5 rfl (fun _ => ?_) (fun _ => ?_)
  · refine rr_aload_n (q := 15) rfl dX5_best_14 rfl ?_
    refine rr_get (q := 18) rfl fl_X5_10 w_self rfl dX5_best_15 ?_
    refine rr_iload_n (q := 19) rfl dX5_best_18 rfl ?_
    refine rr_cVi (q := 22) rfl V_X1_isDead ml_X5_104 ⟨Nat.le_of_ble_eq_true rfl, Nat.le_of_ble_eq_true rfl⟩ (e_X1_isDead (by decide) l1 s2) (w_realm (by decide)) rfl rfl rfl rfl (Nat.le_of_ble_eq_true rfl) dX5_best_19 (fun v3 s4 => ?_)
    refine rr_if_eq 31 (q := 25) rfl dX5_best_22 rfl (fun _ => ?_) (fun _ => ?_)
    · refine rr_aload_n (q := 32) rfl dX5_best_31 rfl ?_
      refine rr_get (q := 35) rfl fl_X5_19 w_self rfl dX5_best_32 ?_
      refine rr_aload_n (q := 36) rfl dX5_best_35 rfl ?_
      refine rr_get (q := 39) rfl fl_X5_10 w_self rfl dX5_best_36 ?_
      refine rr_cVu (q := 42) rfl V_X1_become ml_X5_168 ⟨Nat.le_of_ble_eq_true rfl, Nat.le_of_ble_eq_true rfl⟩ (e_X1_become (by decide) (by decide) s4) (w_realm (by decide)) rfl rfl rfl rfl (Nat.le_of_ble_eq_true rfl) dX5_best_39 (fun _ s5 => ?_)
      refine rr_iconst 0 (q := 43) rfl dX5_best_42 rfl ?_
      refine rr_istore_n (L2 := fun y6 => [some (.ref 0), some (.int l1), some (.int y6), none, none, none]) (q := 44) rfl dX5_best_43 (Nat.le_of_ble_eq_true rfl) (fun _ => rfl) (fun y6 => ?_)
      refine rr_bipush 13 (q := 46) rfl dX5_best_44 rfl ?_
      refine rr_istore_n (L2 := fun y7 => [some (.ref 0), some (.int l1), some (.int y6), some (.int y7), none, none]) (q := 47) rfl dX5_best_46 (Nat.le_of_ble_eq_true rfl) (fun _ => rfl) (fun y7 => ?_)
      refine rr_iconst 0 (q := 48) rfl dX5_best_47 rfl ?_
      refine rr_istore (L2 := fun y8 => [some (.ref 0), some (.int l1), some (.int y6), some (.int y7), some (.int y8), none]) (q := 50) rfl dX5_best_48 (Nat.le_of_ble_eq_true rfl) (fun _ => rfl) (fun y8 => ?_)
      exact e_X5_best_50 400 l1 y6 y7 y8 s5
    · refine rr_aload_n (q := 26) rfl dX5_best_25 rfl ?_
      refine rr_iconst 4 (q := 27) rfl dX5_best_26 rfl ?_
      refine rr_cVi (q := 30) rfl V_X5_finding ml_X5_62 ⟨Nat.le_of_ble_eq_true rfl, Nat.le_of_ble_eq_true rfl⟩ (e_X5_finding 4 s4) w_self rfl rfl rfl rfl (Nat.le_of_ble_eq_true rfl) dX5_best_27 (fun v9 s10 => ?_)
      exact rr_iret dX5_best_30 rfl
  · refine rr_aload_n (q := 9) rfl dX5_best_8 rfl ?_
    refine rr_iconst 0 (q := 10) rfl dX5_best_9 rfl ?_
    refine rr_cVi (q := 13) rfl V_X5_finding ml_X5_62 ⟨Nat.le_of_ble_eq_true rfl, Nat.le_of_ble_eq_true rfl⟩ (e_X5_finding 0 s2) w_self rfl rfl rfl rfl (Nat.le_of_ble_eq_true rfl) dX5_best_10 (fun v11 s12 => ?_)
    exact rr_iret dX5_best_13 rfl
def fX5_key_142 (k40 : Int32 → Int32 → Int32 → Int32 → Int32 → SX → Option (Int32 × SX)) (l1 : Int32) (l2 : Int32) (l3 : Int32) (l4 : Int32) (l5 : Int32) (s : SX) : Option (Int32 × SX) :=
  vl (l5 + 1) fun y29 =>
  k40 l1 l2 l3 l4 y29 s
set_option maxRecDepth 100000 in
set_option maxHeartbeats 4000000 in
theorem e_X5_key_142 {G : Cf} {t : SM} {k40 : Int32 → Int32 → Int32 → Int32 → Int32 → SX → Option (Int32 × SX)} (hk40 : ∀ (l1 : Int32) (l2 : Int32) (l3 : Int32) (l4 : Int32) (l5 : Int32) (s : SX), R (wfX t) inI G M_X5_key 40 [some (.ref 0), some (.int l1), some (.int l2), some (.int l3), some (.int l4), some (.int l5), none] [] s (k40 l1 l2 l3 l4 l5 s)) (l1 : Int32) (l2 : Int32) (l3 : Int32) (l4 : Int32) (l5 : Int32) (s : SX) : R (wfX t) inI G M_X5_key 142 [some (.ref 0), some (.int l1), some (.int l2), some (.int l3), some (.int l4), some (.int l5), none] [] s (fX5_key_142 k40 l1 l2 l3 l4 l5 s) := by
  unfold fX5_key_142
  refine rr_iinc (L2 := fun y29 => [some (.ref 0), some (.int l1), some (.int l2), some (.int l3), some (.int l4), some (.int y29), none]) (q := 145) rfl dX5_key_142 rfl rfl (Nat.le_of_ble_eq_true rfl) (fun _ => rfl) (fun y29 => ?_)
  refine rr_goto 40 dX5_key_145 rfl ?_
  exact hk40 l1 l2 l3 l4 y29 s
def fX5_key_40b (k40 : Int32 → Int32 → Int32 → Int32 → Int32 → SX → Option (Int32 × SX)) (l1 : Int32) (l2 : Int32) (l3 : Int32) (l4 : Int32) (l5 : Int32) (s : SX) : Option (Int32 × SX) :=
  (if (gX s 0 10 10) ≤ l5 then
  (if 0 ≤ l3 then
  some (l3, s)
  else
  bd (fX5_finding 3 s) fun v12 s13 =>
  some (v12, s13))
  else
  ixg l5 14 fun n14 =>
  (if (gX s 0 2 n14) = l1 then
  bd (fX1_isDead 0 l5 s) fun v15 s16 =>
  (if v15 = 0 then
  ixg l5 14 fun n17 => vl (wX s16 2 3 n17 l1) fun s18 =>
  bd (fX1_looseWords 2 s18) fun v19 s20 =>
  bd (fJ6_bitCount_0f7a4 (v19 &&& (l2 ^^^ (-1))) s20) fun v21 s22 =>
  vl v21 fun y23 =>
  ixg l5 14 fun n24 =>
  ixg l5 14 fun n25 => vl (wX s22 2 3 n25 (gX s22 0 3 n24)) fun s26 =>
  (if y23 ≤ l4 then
  fX5_key_142 k40 l1 l2 l3 l4 l5 s26
  else
  vl y23 fun y27 =>
  vl l5 fun y28 =>
  fX5_key_142 k40 l1 l2 y28 y27 l5 s26)
  else
  fX5_key_142 k40 l1 l2 l3 l4 l5 s16)
  else
  fX5_key_142 k40 l1 l2 l3 l4 l5 s))
set_option maxRecDepth 100000 in
set_option maxHeartbeats 4000000 in
theorem e_X5_key_40b {G : Cf} {t : SM} {k40 : Int32 → Int32 → Int32 → Int32 → Int32 → SX → Option (Int32 × SX)} (hk40 : ∀ (l1 : Int32) (l2 : Int32) (l3 : Int32) (l4 : Int32) (l5 : Int32) (s : SX), R (wfX t) inI G M_X5_key 40 [some (.ref 0), some (.int l1), some (.int l2), some (.int l3), some (.int l4), some (.int l5), none] [] s (k40 l1 l2 l3 l4 l5 s)) (l1 : Int32) (l2 : Int32) (l3 : Int32) (l4 : Int32) (l5 : Int32) (s : SX) : R (wfX t) inI G M_X5_key 40 [some (.ref 0), some (.int l1), some (.int l2), some (.int l3), some (.int l4), some (.int l5), none] [] s (fX5_key_40b k40 l1 l2 l3 l4 l5 s) := by
  unfold fX5_key_40b
  refine rr_iload (q := 42) rfl dX5_key_40 rfl ?_
  refine rr_aload_n (q := 43) rfl dX5_key_42 rfl ?_
  refine rr_get (q := 46) rfl fl_X5_10 w_self rfl dX5_key_43 ?_
  refine rr_get (q := 49) rfl fl_X5_81 (w_realm (by decide)) rfl dX5_key_46 ?_
  refine rr_icmp_ge 148 (q := 52) rfl dX5_key_49 rfl (fun _ => ?_) (fun _ => ?_)
  · refine rr_iload_n (q := 149) rfl dX5_key_148 rfl ?_
    refine rr_if_ge 160 (q := 152) rfl dX5_key_149 rfl (fun _ => ?_) (fun _ => ?_)
    · refine rr_iload_n (q := 161) rfl dX5_key_160 rfl ?_
      exact rr_iret dX5_key_161 rfl
    · refine rr_aload_n (q := 153) rfl dX5_key_152 rfl ?_
      refine rr_iconst 3 (q := 154) rfl dX5_key_153 rfl ?_
      refine rr_cVi (q := 157) rfl V_X5_finding ml_X5_62 ⟨Nat.le_of_ble_eq_true rfl, Nat.le_of_ble_eq_true rfl⟩ (e_X5_finding 3 s) w_self rfl rfl rfl rfl (Nat.le_of_ble_eq_true rfl) dX5_key_154 (fun v12 s13 => ?_)
      refine rr_goto 161 dX5_key_157 rfl ?_
      exact rr_iret dX5_key_161 rfl
  · refine rr_aload_n (q := 53) rfl dX5_key_52 rfl ?_
    refine rr_get (q := 56) rfl fl_X5_10 w_self rfl dX5_key_53 ?_
    refine rr_get (q := 59) rfl fl_X5_95 (w_realm (by decide)) rfl dX5_key_56 ?_
    refine rr_iload (q := 61) rfl dX5_key_59 rfl ?_
    refine rr_iald (q := 62) rfl (w_rarr2 (by decide)) dX5_key_61 (fun n14 => ?_)
    refine rr_iload_n (q := 63) rfl dX5_key_62 rfl ?_
    refine rr_icmp_ne 142 (q := 66) rfl dX5_key_63 rfl (fun _ => ?_) (fun _ => ?_)
    · exact e_X5_key_142 hk40 l1 l2 l3 l4 l5 s
    · refine rr_aload_n (q := 67) rfl dX5_key_66 rfl ?_
      refine rr_get (q := 70) rfl fl_X5_10 w_self rfl dX5_key_67 ?_
      refine rr_iload (q := 72) rfl dX5_key_70 rfl ?_
      refine rr_cVi (q := 75) rfl V_X1_isDead ml_X5_104 ⟨Nat.le_of_ble_eq_true rfl, Nat.le_of_ble_eq_true rfl⟩ (e_X1_isDead (by decide) l5 s) (w_realm (by decide)) rfl rfl rfl rfl (Nat.le_of_ble_eq_true rfl) dX5_key_72 (fun v15 s16 => ?_)
      refine rr_if_eq 81 (q := 78) rfl dX5_key_75 rfl (fun _ => ?_) (fun _ => ?_)
      · refine rr_aload_n (q := 82) rfl dX5_key_81 rfl ?_
        refine rr_get (q := 85) rfl fl_X5_19 w_self rfl dX5_key_82 ?_
        refine rr_get (q := 88) rfl fl_X5_98 (w_realm (by decide)) rfl dX5_key_85 ?_
        refine rr_iload (q := 90) rfl dX5_key_88 rfl ?_
        refine rr_iload_n (q := 91) rfl dX5_key_90 rfl ?_
        refine rr_iast (q := 92) rfl (w_rarr3 (by decide)) (fun _ => (u_rarr3 (by decide))) dX5_key_91 (fun n17 s18 => ?_)
        refine rr_aload_n (q := 93) rfl dX5_key_92 rfl ?_
        refine rr_get (q := 96) rfl fl_X5_19 w_self rfl dX5_key_93 ?_
        refine rr_cVi (q := 99) rfl V_X1_looseWords ml_X5_113 ⟨Nat.le_of_ble_eq_true rfl, Nat.le_of_ble_eq_true rfl⟩ (e_X1_looseWords (by decide) s18) (w_realm (by decide)) rfl rfl rfl rfl (Nat.le_of_ble_eq_true rfl) dX5_key_96 (fun v19 s20 => ?_)
        refine rr_iload_n (q := 100) rfl dX5_key_99 rfl ?_
        refine rr_iconst (-1) (q := 101) rfl dX5_key_100 rfl ?_
        refine rr_ixor (q := 102) rfl dX5_key_101 ?_
        refine rr_iand (q := 103) rfl dX5_key_102 ?_
        refine rr_cSi (q := 106) rfl V_J6_bitCount_0f7a4 ml_X5_120 ⟨Nat.le_of_ble_eq_true rfl, Nat.le_of_ble_eq_true rfl⟩ (e_J6_bitCount_0f7a4 (v19 &&& (l2 ^^^ (-1))) s20) rfl rfl (Nat.le_of_ble_eq_true rfl) dX5_key_103 (fun v21 s22 => ?_)
        refine rr_istore (L2 := fun y23 => [some (.ref 0), some (.int l1), some (.int l2), some (.int l3), some (.int l4), some (.int l5), some (.int y23)]) (q := 108) rfl dX5_key_106 (Nat.le_of_ble_eq_true rfl) (fun _ => rfl) (fun y23 => ?_)
        refine rr_aload_n (q := 109) rfl dX5_key_108 rfl ?_
        refine rr_get (q := 112) rfl fl_X5_19 w_self rfl dX5_key_109 ?_
        refine rr_get (q := 115) rfl fl_X5_98 (w_realm (by decide)) rfl dX5_key_112 ?_
        refine rr_iload (q := 117) rfl dX5_key_115 rfl ?_
        refine rr_aload_n (q := 118) rfl dX5_key_117 rfl ?_
        refine rr_get (q := 121) rfl fl_X5_10 w_self rfl dX5_key_118 ?_
        refine rr_get (q := 124) rfl fl_X5_98 (w_realm (by decide)) rfl dX5_key_121 ?_
        refine rr_iload (q := 126) rfl dX5_key_124 rfl ?_
        refine rr_iald (q := 127) rfl (w_rarr3 (by decide)) dX5_key_126 (fun n24 => ?_)
        refine rr_iast (q := 128) rfl (w_rarr3 (by decide)) (fun _ => (u_rarr3 (by decide))) dX5_key_127 (fun n25 s26 => ?_)
        refine rr_iload (q := 130) rfl dX5_key_128 rfl ?_
        refine rr_iload (q := 132) rfl dX5_key_130 rfl ?_
        refine rr_icmp_le 142 (q := 135) rfl dX5_key_132 rfl (fun _ => ?_) (fun _ => ?_)
        · refine rr_mask [true, true, true, true, true, true, false] (L' := [some (.ref 0), some (.int l1), some (.int l2), some (.int l3), some (.int l4), some (.int l5), none]) rfl ?_
          exact e_X5_key_142 hk40 l1 l2 l3 l4 l5 s26
        · refine rr_iload (q := 137) rfl dX5_key_135 rfl ?_
          refine rr_istore (L2 := fun y27 => [some (.ref 0), some (.int l1), some (.int l2), some (.int l3), some (.int y27), some (.int l5), some (.int y23)]) (q := 139) rfl dX5_key_137 (Nat.le_of_ble_eq_true rfl) (fun _ => rfl) (fun y27 => ?_)
          refine rr_iload (q := 141) rfl dX5_key_139 rfl ?_
          refine rr_istore_n (L2 := fun y28 => [some (.ref 0), some (.int l1), some (.int l2), some (.int y28), some (.int y27), some (.int l5), some (.int y23)]) (q := 142) rfl dX5_key_141 (Nat.le_of_ble_eq_true rfl) (fun _ => rfl) (fun y28 => ?_)
          refine rr_mask [true, true, true, true, true, true, false] (L' := [some (.ref 0), some (.int l1), some (.int l2), some (.int y28), some (.int y27), some (.int l5), none]) rfl ?_
          exact e_X5_key_142 hk40 l1 l2 y28 y27 l5 s26
      · refine rr_goto 142 dX5_key_78 rfl ?_
        exact e_X5_key_142 hk40 l1 l2 l3 l4 l5 s16
def fX5_key_40 : Nat → Int32 → Int32 → Int32 → Int32 → Int32 → SX → Option (Int32 × SX) := lp (fun _ _ _ _ _ _ => none) (fX5_key_40b)
theorem e_X5_key_40 {G : Cf} {t : SM}  (n : Nat) : ∀ (l1 : Int32) (l2 : Int32) (l3 : Int32) (l4 : Int32) (l5 : Int32) (s : SX), R (wfX t) inI G M_X5_key 40 [some (.ref 0), some (.int l1), some (.int l2), some (.int l3), some (.int l4), some (.int l5), none] [] s (fX5_key_40 n l1 l2 l3 l4 l5 s) := by
  unfold fX5_key_40
  exact rr_lp (P := fun (kz : Int32 → Int32 → Int32 → Int32 → Int32 → SX → Option (Int32 × SX)) => ∀ (l1 : Int32) (l2 : Int32) (l3 : Int32) (l4 : Int32) (l5 : Int32) (s : SX), R (wfX t) inI G M_X5_key 40 [some (.ref 0), some (.int l1), some (.int l2), some (.int l3), some (.int l4), some (.int l5), none] [] s (kz l1 l2 l3 l4 l5 s)) (fun _ _ _ _ _ _ => rr_none) (fun kz hkz => fun l1 l2 l3 l4 l5 s => e_X5_key_40b hkz l1 l2 l3 l4 l5 s) n
def fX5_key (l1 : Int32) (s : SX) : Option (Int32 × SX) :=
  bd (fX5_isKing l1 s) fun v1 s2 =>
  (if v1 = 0 then
  bd (fX5_finding 0 s2) fun v10 s11 =>
  some (v10, s11)
  else
  bd (fX1_become 2 0 s2) fun _ s3 =>
  bd (fX1_looseWords 0 s3) fun v4 s5 =>
  vl v4 fun y6 =>
  vl (-1) fun y7 =>
  vl 0 fun y8 =>
  vl 0 fun y9 =>
  fX5_key_40 400 l1 y6 y7 y8 y9 s5)
set_option maxRecDepth 100000 in
set_option maxHeartbeats 4000000 in
theorem e_X5_key {G : Cf} {t : SM} (l1 : Int32) (s : SX) : Ct (wfX t) inI G M_X5_key [.ref 0, .int l1] s (fX5_key l1 s) := by
  refine Ct.of (L0 := [some (.ref 0), some (.int l1), none, none, none, none, none]) 5 rfl rfl ⟨rfl, rfl⟩ (Nat.le_of_ble_eq_true rfl) rfl ?_
  unfold fX5_key
  refine rr_iload_n (q := 1) rfl dX5_key_0 rfl ?_
  refine rr_cSi (q := 4) rfl V_X5_isKing ml_X5_54 ⟨Nat.le_of_ble_eq_true rfl, Nat.le_of_ble_eq_true rfl⟩ (e_X5_isKing l1 s) rfl rfl (Nat.le_of_ble_eq_true rfl) dX5_key_1 (fun v1 s2 => ?_)
  refine rr_if_ne 13 (q := 7) rfl dX5_key_4 rfl (fun _ => ?_) (fun _ => ?_)
  · refine rr_aload_n (q := 14) rfl dX5_key_13 rfl ?_
    refine rr_get (q := 17) rfl fl_X5_19 w_self rfl dX5_key_14 ?_
    refine rr_aload_n (q := 18) rfl dX5_key_17 rfl ?_
    refine rr_get (q := 21) rfl fl_X5_10 w_self rfl dX5_key_18 ?_
    refine rr_cVu (q := 24) rfl V_X1_become ml_X5_168 ⟨Nat.le_of_ble_eq_true rfl, Nat.le_of_ble_eq_true rfl⟩ (e_X1_become (by decide) (by decide) s2) (w_realm (by decide)) rfl rfl rfl rfl (Nat.le_of_ble_eq_true rfl) dX5_key_21 (fun _ s3 => ?_)
    refine rr_aload_n (q := 25) rfl dX5_key_24 rfl ?_
    refine rr_get (q := 28) rfl fl_X5_10 w_self rfl dX5_key_25 ?_
    refine rr_cVi (q := 31) rfl V_X1_looseWords ml_X5_113 ⟨Nat.le_of_ble_eq_true rfl, Nat.le_of_ble_eq_true rfl⟩ (e_X1_looseWords (by decide) s3) (w_realm (by decide)) rfl rfl rfl rfl (Nat.le_of_ble_eq_true rfl) dX5_key_28 (fun v4 s5 => ?_)
    refine rr_istore_n (L2 := fun y6 => [some (.ref 0), some (.int l1), some (.int y6), none, none, none, none]) (q := 32) rfl dX5_key_31 (Nat.le_of_ble_eq_true rfl) (fun _ => rfl) (fun y6 => ?_)
    refine rr_iconst (-1) (q := 33) rfl dX5_key_32 rfl ?_
    refine rr_istore_n (L2 := fun y7 => [some (.ref 0), some (.int l1), some (.int y6), some (.int y7), none, none, none]) (q := 34) rfl dX5_key_33 (Nat.le_of_ble_eq_true rfl) (fun _ => rfl) (fun y7 => ?_)
    refine rr_iconst 0 (q := 35) rfl dX5_key_34 rfl ?_
    refine rr_istore (L2 := fun y8 => [some (.ref 0), some (.int l1), some (.int y6), some (.int y7), some (.int y8), none, none]) (q := 37) rfl dX5_key_35 (Nat.le_of_ble_eq_true rfl) (fun _ => rfl) (fun y8 => ?_)
    refine rr_iconst 0 (q := 38) rfl dX5_key_37 rfl ?_
    refine rr_istore (L2 := fun y9 => [some (.ref 0), some (.int l1), some (.int y6), some (.int y7), some (.int y8), some (.int y9), none]) (q := 40) rfl dX5_key_38 (Nat.le_of_ble_eq_true rfl) (fun _ => rfl) (fun y9 => ?_)
    exact e_X5_key_40 400 l1 y6 y7 y8 y9 s5
  · refine rr_aload_n (q := 8) rfl dX5_key_7 rfl ?_
    refine rr_iconst 0 (q := 9) rfl dX5_key_8 rfl ?_
    refine rr_cVi (q := 12) rfl V_X5_finding ml_X5_62 ⟨Nat.le_of_ble_eq_true rfl, Nat.le_of_ble_eq_true rfl⟩ (e_X5_finding 0 s2) w_self rfl rfl rfl rfl (Nat.le_of_ble_eq_true rfl) dX5_key_9 (fun v10 s11 => ?_)
    exact rr_iret dX5_key_12 rfl
def fX5_toFree (l1 : Int32) (l2 : Int32) (s : SX) : Option (Int32 × SX) :=
  bd (fX5_areTwoKings l1 l2 s) fun v1 s2 =>
  (if v1 = 0 then
  bd (fX5_finding 0 s2) fun v7 s8 =>
  some (v7, s8)
  else
  bd (fX1_hasWord 0 l1 l2 s2) fun v3 s4 =>
  (if v3 = 0 then
  some (0, s4)
  else
  bd (fX1_heldBy 0 l2 l1 s4) fun v5 s6 =>
  some (v5, s6)))
set_option maxRecDepth 100000 in
set_option maxHeartbeats 4000000 in
theorem e_X5_toFree {G : Cf} {t : SM} (l1 : Int32) (l2 : Int32) (s : SX) : Ct (wfX t) inI G M_X5_toFree [.ref 0, .int l1, .int l2] s (fX5_toFree l1 l2 s) := by
  refine Ct.of (L0 := [some (.ref 0), some (.int l1), some (.int l2)]) 0 rfl rfl ⟨rfl, rfl⟩ (Nat.le_of_ble_eq_true rfl) rfl ?_
  unfold fX5_toFree
  refine rr_iload_n (q := 1) rfl dX5_toFree_0 rfl ?_
  refine rr_iload_n (q := 2) rfl dX5_toFree_1 rfl ?_
  refine rr_cSi (q := 5) rfl V_X5_areTwoKings ml_X5_125 ⟨Nat.le_of_ble_eq_true rfl, Nat.le_of_ble_eq_true rfl⟩ (e_X5_areTwoKings l1 l2 s) rfl rfl (Nat.le_of_ble_eq_true rfl) dX5_toFree_2 (fun v1 s2 => ?_)
  refine rr_if_ne 14 (q := 8) rfl dX5_toFree_5 rfl (fun _ => ?_) (fun _ => ?_)
  · refine rr_aload_n (q := 15) rfl dX5_toFree_14 rfl ?_
    refine rr_get (q := 18) rfl fl_X5_10 w_self rfl dX5_toFree_15 ?_
    refine rr_iload_n (q := 19) rfl dX5_toFree_18 rfl ?_
    refine rr_iload_n (q := 20) rfl dX5_toFree_19 rfl ?_
    refine rr_cVi (q := 23) rfl V_X1_hasWord ml_X5_204 ⟨Nat.le_of_ble_eq_true rfl, Nat.le_of_ble_eq_true rfl⟩ (e_X1_hasWord (by decide) l1 l2 s2) (w_realm (by decide)) rfl rfl rfl rfl (Nat.le_of_ble_eq_true rfl) dX5_toFree_20 (fun v3 s4 => ?_)
    refine rr_if_eq 38 (q := 26) rfl dX5_toFree_23 rfl (fun _ => ?_) (fun _ => ?_)
    · refine rr_iconst 0 (q := 39) rfl dX5_toFree_38 rfl ?_
      exact rr_iret dX5_toFree_39 rfl
    · refine rr_aload_n (q := 27) rfl dX5_toFree_26 rfl ?_
      refine rr_get (q := 30) rfl fl_X5_10 w_self rfl dX5_toFree_27 ?_
      refine rr_iload_n (q := 31) rfl dX5_toFree_30 rfl ?_
      refine rr_iload_n (q := 32) rfl dX5_toFree_31 rfl ?_
      refine rr_cVi (q := 35) rfl V_X1_heldBy ml_X5_207 ⟨Nat.le_of_ble_eq_true rfl, Nat.le_of_ble_eq_true rfl⟩ (e_X1_heldBy (by decide) l2 l1 s4) (w_realm (by decide)) rfl rfl rfl rfl (Nat.le_of_ble_eq_true rfl) dX5_toFree_32 (fun v5 s6 => ?_)
      refine rr_goto 39 dX5_toFree_35 rfl ?_
      exact rr_iret dX5_toFree_39 rfl
  · refine rr_aload_n (q := 9) rfl dX5_toFree_8 rfl ?_
    refine rr_iconst 0 (q := 10) rfl dX5_toFree_9 rfl ?_
    refine rr_cVi (q := 13) rfl V_X5_finding ml_X5_62 ⟨Nat.le_of_ble_eq_true rfl, Nat.le_of_ble_eq_true rfl⟩ (e_X5_finding 0 s2) w_self rfl rfl rfl rfl (Nat.le_of_ble_eq_true rfl) dX5_toFree_10 (fun v7 s8 => ?_)
    exact rr_iret dX5_toFree_13 rfl
def fX5_way (l1 : Int32) (l2 : Int32) (s : SX) : Option (Int32 × SX) :=
  bd (fX5_sheetAt l1 s) fun v1 s2 =>
  om v1 (bd (fX5_finding 0 s2) fun v4 s5 =>
  some (v4, s5)) fun i3 =>
  bd (fX3_isMissing i3 s2) fun v6 s7 =>
  (if v6 = 0 then
  (if l2 < (-1) then
  bd (fX5_finding 0 s7) fun v8 s9 =>
  some (v8, s9)
  else
  (if l2 < 8 then
  bd (fX2_aim i3 s7) fun _ s10 =>
  (if (gX s10 7 0 5) ≤ 8 then
  bd (fX2_movesDead s10) fun v11 s12 =>
  (if v11 = 0 then
  bd (fX2_find s12) fun v13 s14 =>
  (if v13 = 0 then
  bd (fX5_finding 3 s14) fun v15 s16 =>
  some (v15, s16)
  else
  (if l2 < (gX s14 7 0 5) then
  (if 0 ≤ l2 then
  ixg l2 8 fun n17 =>
  some (gX s14 7 4 n17, s14)
  else
  some (gX s14 7 0 5, s14))
  else
  bd (fX5_finding 3 s14) fun v18 s19 =>
  some (v18, s19)))
  else
  bd (fX5_finding 4 s12) fun v20 s21 =>
  some (v20, s21))
  else
  bd (fX5_finding 6 s10) fun v22 s23 =>
  some (v22, s23))
  else
  bd (fX5_finding 0 s7) fun v24 s25 =>
  some (v24, s25)))
  else
  bd (fX5_finding 5 s7) fun v26 s27 =>
  some (v26, s27))
set_option maxRecDepth 100000 in
set_option maxHeartbeats 4000000 in
theorem e_X5_way {G : Cf} {t : SM} (l1 : Int32) (l2 : Int32) (s : SX) : Ct (wfX t) inI G M_X5_way [.ref 0, .int l1, .int l2] s (fX5_way l1 l2 s) := by
  refine Ct.of (L0 := [some (.ref 0), some (.int l1), some (.int l2), none]) 1 rfl rfl ⟨rfl, rfl⟩ (Nat.le_of_ble_eq_true rfl) rfl ?_
  unfold fX5_way
  refine rr_aload_n (q := 1) rfl dX5_way_0 rfl ?_
  refine rr_iload_n (q := 2) rfl dX5_way_1 rfl ?_
  refine rr_cVo (q := 5) rfl V_X5_sheetAt ml_X5_210 ⟨Nat.le_of_ble_eq_true rfl, Nat.le_of_ble_eq_true rfl⟩ (e_X5_sheetAt l1 s) w_self rfl rfl rfl rfl (Nat.le_of_ble_eq_true rfl) dX5_way_2 (fun v1 s2 => ?_)
  refine rr_om ?_ (fun i3 hi3 => ?_)
  · refine rr_astore_nN (L2 := [some (.ref 0), some (.int l1), some (.int l2), some (.null)]) (q := 6) rfl dX5_way_5 (Nat.le_of_ble_eq_true rfl) rfl ?_
    refine rr_aload_nN (q := 7) rfl dX5_way_6 rfl ?_
    refine rr_ifnonnullN (q := 10) rfl dX5_way_7 ?_
    refine rr_aload_n (q := 11) rfl dX5_way_10 rfl ?_
    refine rr_iconst 0 (q := 12) rfl dX5_way_11 rfl ?_
    refine rr_cVi (q := 15) rfl V_X5_finding ml_X5_62 ⟨Nat.le_of_ble_eq_true rfl, Nat.le_of_ble_eq_true rfl⟩ (e_X5_finding 0 s2) w_self rfl rfl rfl rfl (Nat.le_of_ble_eq_true rfl) dX5_way_12 (fun v4 s5 => ?_)
    exact rr_iret dX5_way_15 rfl
  · refine rr_astore_n (L2 := [some (.ref 0), some (.int l1), some (.int l2), some (.ref (sb i3))]) (q := 6) rfl dX5_way_5 (Nat.le_of_ble_eq_true rfl) rfl ?_
    refine rr_aload_n (q := 7) rfl dX5_way_6 rfl ?_
    refine rr_ifnonnull 16 dX5_way_7 rfl ?_
    refine rr_aload_n (q := 17) rfl dX5_way_16 rfl ?_
    refine rr_cVi (q := 20) rfl V_X3_isMissing ml_X5_214 ⟨Nat.le_of_ble_eq_true rfl, Nat.le_of_ble_eq_true rfl⟩ (e_X3_isMissing hi3 s2) (w_sheet hi3) rfl rfl rfl rfl (Nat.le_of_ble_eq_true rfl) dX5_way_17 (fun v6 s7 => ?_)
    refine rr_if_eq 29 (q := 23) rfl dX5_way_20 rfl (fun _ => ?_) (fun _ => ?_)
    · refine rr_iload_n (q := 30) rfl dX5_way_29 rfl ?_
      refine rr_iconst (-1) (q := 31) rfl dX5_way_30 rfl ?_
      refine rr_icmp_lt 40 (q := 34) rfl dX5_way_31 rfl (fun _ => ?_) (fun _ => ?_)
      · refine rr_aload_n (q := 41) rfl dX5_way_40 rfl ?_
        refine rr_iconst 0 (q := 42) rfl dX5_way_41 rfl ?_
        refine rr_cVi (q := 45) rfl V_X5_finding ml_X5_62 ⟨Nat.le_of_ble_eq_true rfl, Nat.le_of_ble_eq_true rfl⟩ (e_X5_finding 0 s7) w_self rfl rfl rfl rfl (Nat.le_of_ble_eq_true rfl) dX5_way_42 (fun v8 s9 => ?_)
        exact rr_iret dX5_way_45 rfl
      · refine rr_iload_n (q := 35) rfl dX5_way_34 rfl ?_
        refine rr_bipush 8 (q := 37) rfl dX5_way_35 rfl ?_
        refine rr_icmp_lt 46 (q := 40) rfl dX5_way_37 rfl (fun _ => ?_) (fun _ => ?_)
        · refine rr_aload_n (q := 47) rfl dX5_way_46 rfl ?_
          refine rr_get (q := 50) rfl fl_X5_32 w_self rfl dX5_way_47 ?_
          refine rr_aload_n (q := 51) rfl dX5_way_50 rfl ?_
          refine rr_get (q := 54) rfl fl_X5_10 w_self rfl dX5_way_51 ?_
          refine rr_aload_n (q := 55) rfl dX5_way_54 rfl ?_
          refine rr_cVu (q := 58) rfl V_X2_aim ml_X5_218 ⟨Nat.le_of_ble_eq_true rfl, Nat.le_of_ble_eq_true rfl⟩ (e_X2_aim hi3 s7) w_route rfl rfl rfl rfl (Nat.le_of_ble_eq_true rfl) dX5_way_55 (fun _ s10 => ?_)
          refine rr_aload_n (q := 59) rfl dX5_way_58 rfl ?_
          refine rr_get (q := 62) rfl fl_X5_32 w_self rfl dX5_way_59 ?_
          refine rr_get (q := 65) rfl fl_X5_222 w_route rfl dX5_way_62 ?_
          refine rr_bipush 8 (q := 67) rfl dX5_way_65 rfl ?_
          refine rr_icmp_le 77 (q := 70) rfl dX5_way_67 rfl (fun _ => ?_) (fun _ => ?_)
          · refine rr_aload_n (q := 78) rfl dX5_way_77 rfl ?_
            refine rr_get (q := 81) rfl fl_X5_32 w_self rfl dX5_way_78 ?_
            refine rr_aload_n (q := 82) rfl dX5_way_81 rfl ?_
            refine rr_get (q := 85) rfl fl_X5_10 w_self rfl dX5_way_82 ?_
            refine rr_cVi (q := 88) rfl V_X2_movesDead ml_X5_225 ⟨Nat.le_of_ble_eq_true rfl, Nat.le_of_ble_eq_true rfl⟩ (e_X2_movesDead s10) w_route rfl rfl rfl rfl (Nat.le_of_ble_eq_true rfl) dX5_way_85 (fun v11 s12 => ?_)
            refine rr_if_eq 97 (q := 91) rfl dX5_way_88 rfl (fun _ => ?_) (fun _ => ?_)
            · refine rr_aload_n (q := 98) rfl dX5_way_97 rfl ?_
              refine rr_get (q := 101) rfl fl_X5_32 w_self rfl dX5_way_98 ?_
              refine rr_aload_n (q := 102) rfl dX5_way_101 rfl ?_
              refine rr_get (q := 105) rfl fl_X5_10 w_self rfl dX5_way_102 ?_
              refine rr_cVi (q := 108) rfl V_X2_find ml_X5_229 ⟨Nat.le_of_ble_eq_true rfl, Nat.le_of_ble_eq_true rfl⟩ (e_X2_find s12) w_route rfl rfl rfl rfl (Nat.le_of_ble_eq_true rfl) dX5_way_105 (fun v13 s14 => ?_)
              refine rr_if_eq 122 (q := 111) rfl dX5_way_108 rfl (fun _ => ?_) (fun _ => ?_)
              · refine rr_aload_n (q := 123) rfl dX5_way_122 rfl ?_
                refine rr_iconst 3 (q := 124) rfl dX5_way_123 rfl ?_
                refine rr_cVi (q := 127) rfl V_X5_finding ml_X5_62 ⟨Nat.le_of_ble_eq_true rfl, Nat.le_of_ble_eq_true rfl⟩ (e_X5_finding 3 s14) w_self rfl rfl rfl rfl (Nat.le_of_ble_eq_true rfl) dX5_way_124 (fun v15 s16 => ?_)
                exact rr_iret dX5_way_127 rfl
              · refine rr_iload_n (q := 112) rfl dX5_way_111 rfl ?_
                refine rr_aload_n (q := 113) rfl dX5_way_112 rfl ?_
                refine rr_get (q := 116) rfl fl_X5_32 w_self rfl dX5_way_113 ?_
                refine rr_get (q := 119) rfl fl_X5_222 w_route rfl dX5_way_116 ?_
                refine rr_icmp_lt 128 (q := 122) rfl dX5_way_119 rfl (fun _ => ?_) (fun _ => ?_)
                · refine rr_iload_n (q := 129) rfl dX5_way_128 rfl ?_
                  refine rr_if_ge 142 (q := 132) rfl dX5_way_129 rfl (fun _ => ?_) (fun _ => ?_)
                  · refine rr_aload_n (q := 143) rfl dX5_way_142 rfl ?_
                    refine rr_get (q := 146) rfl fl_X5_32 w_self rfl dX5_way_143 ?_
                    refine rr_get (q := 149) rfl fl_X5_232 w_route rfl dX5_way_146 ?_
                    refine rr_iload_n (q := 150) rfl dX5_way_149 rfl ?_
                    refine rr_iald (q := 151) rfl w_routearr4 dX5_way_150 (fun n17 => ?_)
                    exact rr_iret dX5_way_151 rfl
                  · refine rr_aload_n (q := 133) rfl dX5_way_132 rfl ?_
                    refine rr_get (q := 136) rfl fl_X5_32 w_self rfl dX5_way_133 ?_
                    refine rr_get (q := 139) rfl fl_X5_222 w_route rfl dX5_way_136 ?_
                    refine rr_goto 151 dX5_way_139 rfl ?_
                    exact rr_iret dX5_way_151 rfl
                · refine rr_aload_n (q := 123) rfl dX5_way_122 rfl ?_
                  refine rr_iconst 3 (q := 124) rfl dX5_way_123 rfl ?_
                  refine rr_cVi (q := 127) rfl V_X5_finding ml_X5_62 ⟨Nat.le_of_ble_eq_true rfl, Nat.le_of_ble_eq_true rfl⟩ (e_X5_finding 3 s14) w_self rfl rfl rfl rfl (Nat.le_of_ble_eq_true rfl) dX5_way_124 (fun v18 s19 => ?_)
                  exact rr_iret dX5_way_127 rfl
            · refine rr_aload_n (q := 92) rfl dX5_way_91 rfl ?_
              refine rr_iconst 4 (q := 93) rfl dX5_way_92 rfl ?_
              refine rr_cVi (q := 96) rfl V_X5_finding ml_X5_62 ⟨Nat.le_of_ble_eq_true rfl, Nat.le_of_ble_eq_true rfl⟩ (e_X5_finding 4 s12) w_self rfl rfl rfl rfl (Nat.le_of_ble_eq_true rfl) dX5_way_93 (fun v20 s21 => ?_)
              exact rr_iret dX5_way_96 rfl
          · refine rr_aload_n (q := 71) rfl dX5_way_70 rfl ?_
            refine rr_bipush 6 (q := 73) rfl dX5_way_71 rfl ?_
            refine rr_cVi (q := 76) rfl V_X5_finding ml_X5_62 ⟨Nat.le_of_ble_eq_true rfl, Nat.le_of_ble_eq_true rfl⟩ (e_X5_finding 6 s10) w_self rfl rfl rfl rfl (Nat.le_of_ble_eq_true rfl) dX5_way_73 (fun v22 s23 => ?_)
            exact rr_iret dX5_way_76 rfl
        · refine rr_aload_n (q := 41) rfl dX5_way_40 rfl ?_
          refine rr_iconst 0 (q := 42) rfl dX5_way_41 rfl ?_
          refine rr_cVi (q := 45) rfl V_X5_finding ml_X5_62 ⟨Nat.le_of_ble_eq_true rfl, Nat.le_of_ble_eq_true rfl⟩ (e_X5_finding 0 s7) w_self rfl rfl rfl rfl (Nat.le_of_ble_eq_true rfl) dX5_way_42 (fun v24 s25 => ?_)
          exact rr_iret dX5_way_45 rfl
    · refine rr_aload_n (q := 24) rfl dX5_way_23 rfl ?_
      refine rr_iconst 5 (q := 25) rfl dX5_way_24 rfl ?_
      refine rr_cVi (q := 28) rfl V_X5_finding ml_X5_62 ⟨Nat.le_of_ble_eq_true rfl, Nat.le_of_ble_eq_true rfl⟩ (e_X5_finding 5 s7) w_self rfl rfl rfl rfl (Nat.le_of_ble_eq_true rfl) dX5_way_25 (fun v26 s27 => ?_)
      exact rr_iret dX5_way_28 rfl
def fX5_wipe (s : SX) : Option (Int32 × SX) :=
  vl (gX s 8 0 1) fun y1 =>
  vl (wX s 8 0 1 0) fun s2 =>
  some (y1, s2)
set_option maxRecDepth 100000 in
set_option maxHeartbeats 4000000 in
theorem e_X5_wipe {G : Cf} {t : SM} (s : SX) : Ct (wfX t) inI G M_X5_wipe [.ref 0] s (fX5_wipe s) := by
  refine Ct.of (L0 := [some (.ref 0), none]) 1 rfl rfl ⟨rfl, rfl⟩ (Nat.le_of_ble_eq_true rfl) rfl ?_
  unfold fX5_wipe
  refine rr_aload_n (q := 1) rfl dX5_wipe_0 rfl ?_
  refine rr_get (q := 4) rfl fl_X5_39 w_self rfl dX5_wipe_1 ?_
  refine rr_get (q := 7) rfl fl_X5_235 w_tape rfl dX5_wipe_4 ?_
  refine rr_istore_n (L2 := fun y1 => [some (.ref 0), some (.int y1)]) (q := 8) rfl dX5_wipe_7 (Nat.le_of_ble_eq_true rfl) (fun _ => rfl) (fun y1 => ?_)
  refine rr_aload_n (q := 9) rfl dX5_wipe_8 rfl ?_
  refine rr_get (q := 12) rfl fl_X5_39 w_self rfl dX5_wipe_9 ?_
  refine rr_iconst 0 (q := 13) rfl dX5_wipe_12 rfl ?_
  refine rr_puti (q := 16) rfl fl_X5_235 fp_X4_1 w_tape (Nat.le_of_ble_eq_true rfl) u_tape1 dX5_wipe_13 (fun s2 => ?_)
  refine rr_iload_n (q := 17) rfl dX5_wipe_16 rfl ?_
  exact rr_iret dX5_wipe_17 rfl
def fX5_sheet_40 (l2 : Int32) (l3 : Int32) (l4 : Nat) (s : SX) : Option (Int32 × SX) :=
  (if 0 ≤ l3 then
  (if l3 ≤ 40 then
  (if l2 = 0 then
  bd (fX3_lay l4 l2 0 s) fun _ s9 =>
  some (gX s9 (9 + l4) 0 2, s9)
  else
  bd (fX3_lay l4 l2 l3 s) fun _ s8 =>
  some (gX s8 (9 + l4) 0 2, s8))
  else
  bd (fX5_finding 0 s) fun v10 s11 =>
  some (v10, s11))
  else
  bd (fX5_finding 6 s) fun v12 s13 =>
  some (v12, s13))
set_option maxRecDepth 100000 in
set_option maxHeartbeats 4000000 in
theorem e_X5_sheet_40 {G : Cf} {t : SM}  (l2 : Int32) (l3 : Int32) (l4 : Nat) (hl4 : l4 < 4) (s : SX) : R (wfX t) inI G M_X5_sheet 40 [some (.ref 0), none, some (.int l2), some (.int l3), some (.ref (sb l4))] [] s (fX5_sheet_40 l2 l3 l4 s) := by
  unfold fX5_sheet_40
  refine rr_iload_n (q := 41) rfl dX5_sheet_40 rfl ?_
  refine rr_if_ge 51 (q := 44) rfl dX5_sheet_41 rfl (fun _ => ?_) (fun _ => ?_)
  · refine rr_iload_n (q := 52) rfl dX5_sheet_51 rfl ?_
    refine rr_bipush 40 (q := 54) rfl dX5_sheet_52 rfl ?_
    refine rr_icmp_le 63 (q := 57) rfl dX5_sheet_54 rfl (fun _ => ?_) (fun _ => ?_)
    · refine rr_aload (q := 65) rfl dX5_sheet_63 rfl ?_
      refine rr_iload_n (q := 66) rfl dX5_sheet_65 rfl ?_
      refine rr_iload_n (q := 67) rfl dX5_sheet_66 rfl ?_
      refine rr_if_ne 74 (q := 70) rfl dX5_sheet_67 rfl (fun _ => ?_) (fun _ => ?_)
      · refine rr_iload_n (q := 75) rfl dX5_sheet_74 rfl ?_
        refine rr_cVu (q := 78) rfl V_X3_lay ml_X5_247 ⟨Nat.le_of_ble_eq_true rfl, Nat.le_of_ble_eq_true rfl⟩ (e_X3_lay hl4 l2 l3 s) (w_sheet hl4) rfl rfl rfl rfl (Nat.le_of_ble_eq_true rfl) dX5_sheet_75 (fun _ s8 => ?_)
        refine rr_aload (q := 80) rfl dX5_sheet_78 rfl ?_
        refine rr_get (q := 83) rfl fl_X5_251 (w_sheet hl4) rfl dX5_sheet_80 ?_
        exact rr_iret dX5_sheet_83 rfl
      · refine rr_iconst 0 (q := 71) rfl dX5_sheet_70 rfl ?_
        refine rr_goto 75 dX5_sheet_71 rfl ?_
        refine rr_cVu (q := 78) rfl V_X3_lay ml_X5_247 ⟨Nat.le_of_ble_eq_true rfl, Nat.le_of_ble_eq_true rfl⟩ (e_X3_lay hl4 l2 0 s) (w_sheet hl4) rfl rfl rfl rfl (Nat.le_of_ble_eq_true rfl) dX5_sheet_75 (fun _ s9 => ?_)
        refine rr_aload (q := 80) rfl dX5_sheet_78 rfl ?_
        refine rr_get (q := 83) rfl fl_X5_251 (w_sheet hl4) rfl dX5_sheet_80 ?_
        exact rr_iret dX5_sheet_83 rfl
    · refine rr_aload_n (q := 58) rfl dX5_sheet_57 rfl ?_
      refine rr_iconst 0 (q := 59) rfl dX5_sheet_58 rfl ?_
      refine rr_cVi (q := 62) rfl V_X5_finding ml_X5_62 ⟨Nat.le_of_ble_eq_true rfl, Nat.le_of_ble_eq_true rfl⟩ (e_X5_finding 0 s) w_self rfl rfl rfl rfl (Nat.le_of_ble_eq_true rfl) dX5_sheet_59 (fun v10 s11 => ?_)
      exact rr_iret dX5_sheet_62 rfl
  · refine rr_aload_n (q := 45) rfl dX5_sheet_44 rfl ?_
    refine rr_bipush 6 (q := 47) rfl dX5_sheet_45 rfl ?_
    refine rr_cVi (q := 50) rfl V_X5_finding ml_X5_62 ⟨Nat.le_of_ble_eq_true rfl, Nat.le_of_ble_eq_true rfl⟩ (e_X5_finding 6 s) w_self rfl rfl rfl rfl (Nat.le_of_ble_eq_true rfl) dX5_sheet_47 (fun v12 s13 => ?_)
    exact rr_iret dX5_sheet_50 rfl
def fX5_sheet (l1 : Int32) (l2 : Int32) (l3 : Int32) (s : SX) : Option (Int32 × SX) :=
  bd (fX5_sheetAt l1 s) fun v1 s2 =>
  om v1 (bd (fX5_finding 0 s2) fun v4 s5 =>
  some (v4, s5)) fun i3 =>
  (if l2 = 0 then
  fX5_sheet_40 l2 l3 i3 s2
  else
  (if l2 = 8 then
  fX5_sheet_40 l2 l3 i3 s2
  else
  (if l2 = 16 then
  fX5_sheet_40 l2 l3 i3 s2
  else
  (if l2 = 64 then
  fX5_sheet_40 l2 l3 i3 s2
  else
  bd (fX5_finding 0 s2) fun v6 s7 =>
  some (v6, s7)))))
set_option maxRecDepth 100000 in
set_option maxHeartbeats 4000000 in
theorem e_X5_sheet {G : Cf} {t : SM} (l1 : Int32) (l2 : Int32) (l3 : Int32) (s : SX) : Ct (wfX t) inI G M_X5_sheet [.ref 0, .int l1, .int l2, .int l3] s (fX5_sheet l1 l2 l3 s) := by
  refine Ct.of (L0 := [some (.ref 0), some (.int l1), some (.int l2), some (.int l3), none]) 1 rfl rfl ⟨rfl, rfl⟩ (Nat.le_of_ble_eq_true rfl) rfl ?_
  unfold fX5_sheet
  refine rr_aload_n (q := 1) rfl dX5_sheet_0 rfl ?_
  refine rr_iload_n (q := 2) rfl dX5_sheet_1 rfl ?_
  refine rr_cVo (q := 5) rfl V_X5_sheetAt ml_X5_210 ⟨Nat.le_of_ble_eq_true rfl, Nat.le_of_ble_eq_true rfl⟩ (e_X5_sheetAt l1 s) w_self rfl rfl rfl rfl (Nat.le_of_ble_eq_true rfl) dX5_sheet_2 (fun v1 s2 => ?_)
  refine rr_om ?_ (fun i3 hi3 => ?_)
  · refine rr_astoreN (L2 := [some (.ref 0), some (.int l1), some (.int l2), some (.int l3), some (.null)]) (q := 7) rfl dX5_sheet_5 (Nat.le_of_ble_eq_true rfl) rfl ?_
    refine rr_aloadN (q := 9) rfl dX5_sheet_7 rfl ?_
    refine rr_ifnullN 34 dX5_sheet_9 rfl ?_
    refine rr_aload_n (q := 35) rfl dX5_sheet_34 rfl ?_
    refine rr_iconst 0 (q := 36) rfl dX5_sheet_35 rfl ?_
    refine rr_cVi (q := 39) rfl V_X5_finding ml_X5_62 ⟨Nat.le_of_ble_eq_true rfl, Nat.le_of_ble_eq_true rfl⟩ (e_X5_finding 0 s2) w_self rfl rfl rfl rfl (Nat.le_of_ble_eq_true rfl) dX5_sheet_36 (fun v4 s5 => ?_)
    exact rr_iret dX5_sheet_39 rfl
  · refine rr_astore (L2 := [some (.ref 0), some (.int l1), some (.int l2), some (.int l3), some (.ref (sb i3))]) (q := 7) rfl dX5_sheet_5 (Nat.le_of_ble_eq_true rfl) rfl ?_
    refine rr_aload (q := 9) rfl dX5_sheet_7 rfl ?_
    refine rr_ifnull (q := 12) rfl dX5_sheet_9 ?_
    refine rr_iload_n (q := 13) rfl dX5_sheet_12 rfl ?_
    refine rr_if_eq 40 (q := 16) rfl dX5_sheet_13 rfl (fun _ => ?_) (fun _ => ?_)
    · refine rr_mask [true, false, true, true, true] (L' := [some (.ref 0), none, some (.int l2), some (.int l3), some (.ref (sb i3))]) rfl ?_
      exact e_X5_sheet_40 l2 l3 i3 hi3 s2
    · refine rr_iload_n (q := 17) rfl dX5_sheet_16 rfl ?_
      refine rr_bipush 8 (q := 19) rfl dX5_sheet_17 rfl ?_
      refine rr_icmp_eq 40 (q := 22) rfl dX5_sheet_19 rfl (fun _ => ?_) (fun _ => ?_)
      · refine rr_mask [true, false, true, true, true] (L' := [some (.ref 0), none, some (.int l2), some (.int l3), some (.ref (sb i3))]) rfl ?_
        exact e_X5_sheet_40 l2 l3 i3 hi3 s2
      · refine rr_iload_n (q := 23) rfl dX5_sheet_22 rfl ?_
        refine rr_bipush 16 (q := 25) rfl dX5_sheet_23 rfl ?_
        refine rr_icmp_eq 40 (q := 28) rfl dX5_sheet_25 rfl (fun _ => ?_) (fun _ => ?_)
        · refine rr_mask [true, false, true, true, true] (L' := [some (.ref 0), none, some (.int l2), some (.int l3), some (.ref (sb i3))]) rfl ?_
          exact e_X5_sheet_40 l2 l3 i3 hi3 s2
        · refine rr_iload_n (q := 29) rfl dX5_sheet_28 rfl ?_
          refine rr_bipush 64 (q := 31) rfl dX5_sheet_29 rfl ?_
          refine rr_icmp_eq 40 (q := 34) rfl dX5_sheet_31 rfl (fun _ => ?_) (fun _ => ?_)
          · refine rr_mask [true, false, true, true, true] (L' := [some (.ref 0), none, some (.int l2), some (.int l3), some (.ref (sb i3))]) rfl ?_
            exact e_X5_sheet_40 l2 l3 i3 hi3 s2
          · refine rr_aload_n (q := 35) rfl dX5_sheet_34 rfl ?_
            refine rr_iconst 0 (q := 36) rfl dX5_sheet_35 rfl ?_
            refine rr_cVi (q := 39) rfl V_X5_finding ml_X5_62 ⟨Nat.le_of_ble_eq_true rfl, Nat.le_of_ble_eq_true rfl⟩ (e_X5_finding 0 s2) w_self rfl rfl rfl rfl (Nat.le_of_ble_eq_true rfl) dX5_sheet_36 (fun v6 s7 => ?_)
            exact rr_iret dX5_sheet_39 rfl
def fX5_write (l1 : Int32) (l2 : Int32) (l3 : Int64) (s : SX) : Option (Int64 × SX) :=
  bd (fX5_sheetAt l1 s) fun v1 s2 =>
  om v1 (bd (fX5_finding 0 s2) fun v4 s5 =>
  some (Int32.toInt64 v4, s5)) fun i3 =>
  bd (fX3_isMissing i3 s2) fun v6 s7 =>
  (if v6 = 0 then
  (if l2 < 0 then
  bd (fX5_finding 0 s7) fun v8 s9 =>
  some (Int32.toInt64 v8, s9)
  else
  (if l2 < (gX s7 (9 + i3) 0 2) then
  ixg l2 40 fun n10 =>
  vl (gL s7 i3 n10) fun y11 =>
  bd (fX3_put i3 l2 l3 s7) fun _ s12 =>
  some (y11, s12)
  else
  bd (fX5_finding 0 s7) fun v13 s14 =>
  some (Int32.toInt64 v13, s14)))
  else
  bd (fX5_finding 5 s7) fun v15 s16 =>
  some (Int32.toInt64 v15, s16))
set_option maxRecDepth 100000 in
set_option maxHeartbeats 4000000 in
theorem e_X5_write {G : Cf} {t : SM} (l1 : Int32) (l2 : Int32) (l3 : Int64) (s : SX) : Ct (wfX t) inJ G M_X5_write [.ref 0, .int l1, .int l2, .long l3] s (fX5_write l1 l2 l3 s) := by
  refine Ct.of (L0 := [some (.ref 0), some (.int l1), some (.int l2), some (.long l3), none, none, none, none]) 3 rfl rfl ⟨rfl, rfl⟩ (Nat.le_of_ble_eq_true rfl) rfl ?_
  unfold fX5_write
  refine rr_aload_n (q := 1) rfl dX5_write_0 rfl ?_
  refine rr_iload_n (q := 2) rfl dX5_write_1 rfl ?_
  refine rr_cVo (q := 5) rfl V_X5_sheetAt ml_X5_210 ⟨Nat.le_of_ble_eq_true rfl, Nat.le_of_ble_eq_true rfl⟩ (e_X5_sheetAt l1 s) w_self rfl rfl rfl rfl (Nat.le_of_ble_eq_true rfl) dX5_write_2 (fun v1 s2 => ?_)
  refine rr_om ?_ (fun i3 hi3 => ?_)
  · refine rr_astoreN (L2 := [some (.ref 0), some (.int l1), some (.int l2), some (.long l3), none, some (.null), none, none]) (q := 7) rfl dX5_write_5 (Nat.le_of_ble_eq_true rfl) rfl ?_
    refine rr_aloadN (q := 9) rfl dX5_write_7 rfl ?_
    refine rr_ifnonnullN (q := 12) rfl dX5_write_9 ?_
    refine rr_aload_n (q := 13) rfl dX5_write_12 rfl ?_
    refine rr_iconst 0 (q := 14) rfl dX5_write_13 rfl ?_
    refine rr_cVi (q := 17) rfl V_X5_finding ml_X5_62 ⟨Nat.le_of_ble_eq_true rfl, Nat.le_of_ble_eq_true rfl⟩ (e_X5_finding 0 s2) w_self rfl rfl rfl rfl (Nat.le_of_ble_eq_true rfl) dX5_write_14 (fun v4 s5 => ?_)
    refine rr_i2l (q := 18) rfl dX5_write_17 ?_
    exact rr_lret dX5_write_18 rfl
  · refine rr_astore (L2 := [some (.ref 0), some (.int l1), some (.int l2), some (.long l3), none, some (.ref (sb i3)), none, none]) (q := 7) rfl dX5_write_5 (Nat.le_of_ble_eq_true rfl) rfl ?_
    refine rr_aload (q := 9) rfl dX5_write_7 rfl ?_
    refine rr_ifnonnull 19 dX5_write_9 rfl ?_
    refine rr_aload (q := 21) rfl dX5_write_19 rfl ?_
    refine rr_cVi (q := 24) rfl V_X3_isMissing ml_X5_214 ⟨Nat.le_of_ble_eq_true rfl, Nat.le_of_ble_eq_true rfl⟩ (e_X3_isMissing hi3 s2) (w_sheet hi3) rfl rfl rfl rfl (Nat.le_of_ble_eq_true rfl) dX5_write_21 (fun v6 s7 => ?_)
    refine rr_if_eq 34 (q := 27) rfl dX5_write_24 rfl (fun _ => ?_) (fun _ => ?_)
    · refine rr_iload_n (q := 35) rfl dX5_write_34 rfl ?_
      refine rr_if_lt 47 (q := 38) rfl dX5_write_35 rfl (fun _ => ?_) (fun _ => ?_)
      · refine rr_aload_n (q := 48) rfl dX5_write_47 rfl ?_
        refine rr_iconst 0 (q := 49) rfl dX5_write_48 rfl ?_
        refine rr_cVi (q := 52) rfl V_X5_finding ml_X5_62 ⟨Nat.le_of_ble_eq_true rfl, Nat.le_of_ble_eq_true rfl⟩ (e_X5_finding 0 s7) w_self rfl rfl rfl rfl (Nat.le_of_ble_eq_true rfl) dX5_write_49 (fun v8 s9 => ?_)
        refine rr_i2l (q := 53) rfl dX5_write_52 ?_
        exact rr_lret dX5_write_53 rfl
      · refine rr_iload_n (q := 39) rfl dX5_write_38 rfl ?_
        refine rr_aload (q := 41) rfl dX5_write_39 rfl ?_
        refine rr_get (q := 44) rfl fl_X5_251 (w_sheet hi3) rfl dX5_write_41 ?_
        refine rr_icmp_lt 54 (q := 47) rfl dX5_write_44 rfl (fun _ => ?_) (fun _ => ?_)
        · refine rr_aload (q := 56) rfl dX5_write_54 rfl ?_
          refine rr_get (q := 59) rfl fl_X5_252 (w_sheet hi3) rfl dX5_write_56 ?_
          refine rr_iload_n (q := 60) rfl dX5_write_59 rfl ?_
          refine rr_lald (q := 61) rfl (w_snum hi3) dX5_write_60 (fun n10 => ?_)
          refine rr_lstore (L2 := fun y11 => [some (.ref 0), some (.int l1), some (.int l2), some (.long l3), none, some (.ref (sb i3)), some (.long y11), none]) (q := 63) rfl dX5_write_61 (Nat.le_of_ble_eq_true rfl) (fun _ => rfl) (fun y11 => ?_)
          refine rr_aload (q := 65) rfl dX5_write_63 rfl ?_
          refine rr_iload_n (q := 66) rfl dX5_write_65 rfl ?_
          refine rr_lload_n (q := 67) rfl dX5_write_66 rfl ?_
          refine rr_cVu (q := 70) rfl V_X3_put ml_X5_256 ⟨Nat.le_of_ble_eq_true rfl, Nat.le_of_ble_eq_true rfl⟩ (e_X3_put hi3 l2 l3 s7) (w_sheet hi3) rfl rfl rfl rfl (Nat.le_of_ble_eq_true rfl) dX5_write_67 (fun _ s12 => ?_)
          refine rr_lload (q := 72) rfl dX5_write_70 rfl ?_
          exact rr_lret dX5_write_72 rfl
        · refine rr_aload_n (q := 48) rfl dX5_write_47 rfl ?_
          refine rr_iconst 0 (q := 49) rfl dX5_write_48 rfl ?_
          refine rr_cVi (q := 52) rfl V_X5_finding ml_X5_62 ⟨Nat.le_of_ble_eq_true rfl, Nat.le_of_ble_eq_true rfl⟩ (e_X5_finding 0 s7) w_self rfl rfl rfl rfl (Nat.le_of_ble_eq_true rfl) dX5_write_49 (fun v13 s14 => ?_)
          refine rr_i2l (q := 53) rfl dX5_write_52 ?_
          exact rr_lret dX5_write_53 rfl
    · refine rr_aload_n (q := 28) rfl dX5_write_27 rfl ?_
      refine rr_iconst 5 (q := 29) rfl dX5_write_28 rfl ?_
      refine rr_cVi (q := 32) rfl V_X5_finding ml_X5_62 ⟨Nat.le_of_ble_eq_true rfl, Nat.le_of_ble_eq_true rfl⟩ (e_X5_finding 5 s7) w_self rfl rfl rfl rfl (Nat.le_of_ble_eq_true rfl) dX5_write_29 (fun v15 s16 => ?_)
      refine rr_i2l (q := 33) rfl dX5_write_32 ?_
      exact rr_lret dX5_write_33 rfl
def fX5_copy (l1 : Int32) (l2 : Int32) (l3 : Int32) (l4 : Int32) (l5 : Int32) (s : SX) : Option (Int32 × SX) :=
  bd (fX5_sheetAt l1 s) fun v1 s2 =>
  om v1 (bd (fX5_sheetAt l3 s2) fun v4 s5 =>
  om v4 (bd (fX5_finding 0 s5) fun v7 s8 =>
  some (v7, s8)) fun i6 =>
  bd (fX5_finding 0 s5) fun v9 s10 =>
  some (v9, s10)) fun i3 =>
  bd (fX5_sheetAt l3 s2) fun v11 s12 =>
  om v11 (bd (fX5_finding 0 s12) fun v14 s15 =>
  some (v14, s15)) fun i13 =>
  bd (fX3_isMissing i3 s12) fun v16 s17 =>
  (if v16 = 0 then
  bd (fX3_isMissing i13 s17) fun v20 s21 =>
  (if v20 = 0 then
  (if (gX s21 (9 + i3) 0 1) = (gX s21 (9 + i13) 0 1) then
  bd (fX3_hasRow i3 l2 l5 s21) fun v22 s23 =>
  (if v22 = 0 then
  bd (fX5_finding 0 s23) fun v24 s25 =>
  some (v24, s25)
  else
  bd (fX3_hasRow i13 l4 l5 s23) fun v26 s27 =>
  (if v26 = 0 then
  bd (fX5_finding 0 s27) fun v29 s30 =>
  some (v29, s30)
  else
  gd (¬ l2 < 0 ∧ ¬ l4 < 0 ∧ ¬ l5 < 0 ∧ l2.toNatClampNeg + l5.toNatClampNeg ≤ 40 ∧ l4.toNatClampNeg + l5.toNatClampNeg ≤ 40) <| vl (rL s27 i13 (va_cpy (gL s27 i3) (gL s27 i13) l2.toNatClampNeg l4.toNatClampNeg l5.toNatClampNeg)) fun s28 =>
  some (l5, s28)))
  else
  bd (fX5_finding 2 s21) fun v31 s32 =>
  some (v31, s32))
  else
  bd (fX5_finding 5 s21) fun v33 s34 =>
  some (v33, s34))
  else
  bd (fX5_finding 5 s17) fun v18 s19 =>
  some (v18, s19))
set_option maxRecDepth 100000 in
set_option maxHeartbeats 4000000 in
theorem e_X5_copy {G : Cf} {t : SM} (l1 : Int32) (l2 : Int32) (l3 : Int32) (l4 : Int32) (l5 : Int32) (s : SX) : Ct (wfX t) inI G M_X5_copy [.ref 0, .int l1, .int l2, .int l3, .int l4, .int l5] s (fX5_copy l1 l2 l3 l4 l5 s) := by
  refine Ct.of (L0 := [some (.ref 0), some (.int l1), some (.int l2), some (.int l3), some (.int l4), some (.int l5), none, none]) 2 rfl rfl ⟨rfl, rfl⟩ (Nat.le_of_ble_eq_true rfl) rfl ?_
  unfold fX5_copy
  refine rr_aload_n (q := 1) rfl dX5_copy_0 rfl ?_
  refine rr_iload_n (q := 2) rfl dX5_copy_1 rfl ?_
  refine rr_cVo (q := 5) rfl V_X5_sheetAt ml_X5_210 ⟨Nat.le_of_ble_eq_true rfl, Nat.le_of_ble_eq_true rfl⟩ (e_X5_sheetAt l1 s) w_self rfl rfl rfl rfl (Nat.le_of_ble_eq_true rfl) dX5_copy_2 (fun v1 s2 => ?_)
  refine rr_om ?_ (fun i3 hi3 => ?_)
  · refine rr_astoreN (L2 := [some (.ref 0), some (.int l1), some (.int l2), some (.int l3), some (.int l4), some (.int l5), some (.null), none]) (q := 7) rfl dX5_copy_5 (Nat.le_of_ble_eq_true rfl) rfl ?_
    refine rr_aload_n (q := 8) rfl dX5_copy_7 rfl ?_
    refine rr_iload_n (q := 9) rfl dX5_copy_8 rfl ?_
    refine rr_cVo (q := 12) rfl V_X5_sheetAt ml_X5_210 ⟨Nat.le_of_ble_eq_true rfl, Nat.le_of_ble_eq_true rfl⟩ (e_X5_sheetAt l3 s2) w_self rfl rfl rfl rfl (Nat.le_of_ble_eq_true rfl) dX5_copy_9 (fun v4 s5 => ?_)
    refine rr_om ?_ (fun i6 hi6 => ?_)
    · refine rr_astoreN (L2 := [some (.ref 0), some (.int l1), some (.int l2), some (.int l3), some (.int l4), some (.int l5), some (.null), some (.null)]) (q := 14) rfl dX5_copy_12 (Nat.le_of_ble_eq_true rfl) rfl ?_
      refine rr_aloadN (q := 16) rfl dX5_copy_14 rfl ?_
      refine rr_ifnullN 24 dX5_copy_16 rfl ?_
      refine rr_aload_n (q := 25) rfl dX5_copy_24 rfl ?_
      refine rr_iconst 0 (q := 26) rfl dX5_copy_25 rfl ?_
      refine rr_cVi (q := 29) rfl V_X5_finding ml_X5_62 ⟨Nat.le_of_ble_eq_true rfl, Nat.le_of_ble_eq_true rfl⟩ (e_X5_finding 0 s5) w_self rfl rfl rfl rfl (Nat.le_of_ble_eq_true rfl) dX5_copy_26 (fun v7 s8 => ?_)
      exact rr_iret dX5_copy_29 rfl
    · refine rr_astore (L2 := [some (.ref 0), some (.int l1), some (.int l2), some (.int l3), some (.int l4), some (.int l5), some (.null), some (.ref (sb i6))]) (q := 14) rfl dX5_copy_12 (Nat.le_of_ble_eq_true rfl) rfl ?_
      refine rr_aloadN (q := 16) rfl dX5_copy_14 rfl ?_
      refine rr_ifnullN 24 dX5_copy_16 rfl ?_
      refine rr_aload_n (q := 25) rfl dX5_copy_24 rfl ?_
      refine rr_iconst 0 (q := 26) rfl dX5_copy_25 rfl ?_
      refine rr_cVi (q := 29) rfl V_X5_finding ml_X5_62 ⟨Nat.le_of_ble_eq_true rfl, Nat.le_of_ble_eq_true rfl⟩ (e_X5_finding 0 s5) w_self rfl rfl rfl rfl (Nat.le_of_ble_eq_true rfl) dX5_copy_26 (fun v9 s10 => ?_)
      exact rr_iret dX5_copy_29 rfl
  · refine rr_astore (L2 := [some (.ref 0), some (.int l1), some (.int l2), some (.int l3), some (.int l4), some (.int l5), some (.ref (sb i3)), none]) (q := 7) rfl dX5_copy_5 (Nat.le_of_ble_eq_true rfl) rfl ?_
    refine rr_aload_n (q := 8) rfl dX5_copy_7 rfl ?_
    refine rr_iload_n (q := 9) rfl dX5_copy_8 rfl ?_
    refine rr_cVo (q := 12) rfl V_X5_sheetAt ml_X5_210 ⟨Nat.le_of_ble_eq_true rfl, Nat.le_of_ble_eq_true rfl⟩ (e_X5_sheetAt l3 s2) w_self rfl rfl rfl rfl (Nat.le_of_ble_eq_true rfl) dX5_copy_9 (fun v11 s12 => ?_)
    refine rr_om ?_ (fun i13 hi13 => ?_)
    · refine rr_astoreN (L2 := [some (.ref 0), some (.int l1), some (.int l2), some (.int l3), some (.int l4), some (.int l5), some (.ref (sb i3)), some (.null)]) (q := 14) rfl dX5_copy_12 (Nat.le_of_ble_eq_true rfl) rfl ?_
      refine rr_aload (q := 16) rfl dX5_copy_14 rfl ?_
      refine rr_ifnull (q := 19) rfl dX5_copy_16 ?_
      refine rr_aloadN (q := 21) rfl dX5_copy_19 rfl ?_
      refine rr_ifnonnullN (q := 24) rfl dX5_copy_21 ?_
      refine rr_aload_n (q := 25) rfl dX5_copy_24 rfl ?_
      refine rr_iconst 0 (q := 26) rfl dX5_copy_25 rfl ?_
      refine rr_cVi (q := 29) rfl V_X5_finding ml_X5_62 ⟨Nat.le_of_ble_eq_true rfl, Nat.le_of_ble_eq_true rfl⟩ (e_X5_finding 0 s12) w_self rfl rfl rfl rfl (Nat.le_of_ble_eq_true rfl) dX5_copy_26 (fun v14 s15 => ?_)
      exact rr_iret dX5_copy_29 rfl
    · refine rr_astore (L2 := [some (.ref 0), some (.int l1), some (.int l2), some (.int l3), some (.int l4), some (.int l5), some (.ref (sb i3)), some (.ref (sb i13))]) (q := 14) rfl dX5_copy_12 (Nat.le_of_ble_eq_true rfl) rfl ?_
      refine rr_aload (q := 16) rfl dX5_copy_14 rfl ?_
      refine rr_ifnull (q := 19) rfl dX5_copy_16 ?_
      refine rr_aload (q := 21) rfl dX5_copy_19 rfl ?_
      refine rr_ifnonnull 30 dX5_copy_21 rfl ?_
      refine rr_aload (q := 32) rfl dX5_copy_30 rfl ?_
      refine rr_cVi (q := 35) rfl V_X3_isMissing ml_X5_214 ⟨Nat.le_of_ble_eq_true rfl, Nat.le_of_ble_eq_true rfl⟩ (e_X3_isMissing hi3 s12) (w_sheet hi3) rfl rfl rfl rfl (Nat.le_of_ble_eq_true rfl) dX5_copy_32 (fun v16 s17 => ?_)
      refine rr_if_ne 46 (q := 38) rfl dX5_copy_35 rfl (fun _ => ?_) (fun _ => ?_)
      · refine rr_aload_n (q := 47) rfl dX5_copy_46 rfl ?_
        refine rr_iconst 5 (q := 48) rfl dX5_copy_47 rfl ?_
        refine rr_cVi (q := 51) rfl V_X5_finding ml_X5_62 ⟨Nat.le_of_ble_eq_true rfl, Nat.le_of_ble_eq_true rfl⟩ (e_X5_finding 5 s17) w_self rfl rfl rfl rfl (Nat.le_of_ble_eq_true rfl) dX5_copy_48 (fun v18 s19 => ?_)
        exact rr_iret dX5_copy_51 rfl
      · refine rr_aload (q := 40) rfl dX5_copy_38 rfl ?_
        refine rr_cVi (q := 43) rfl V_X3_isMissing ml_X5_214 ⟨Nat.le_of_ble_eq_true rfl, Nat.le_of_ble_eq_true rfl⟩ (e_X3_isMissing hi13 s17) (w_sheet hi13) rfl rfl rfl rfl (Nat.le_of_ble_eq_true rfl) dX5_copy_40 (fun v20 s21 => ?_)
        refine rr_if_eq 52 (q := 46) rfl dX5_copy_43 rfl (fun _ => ?_) (fun _ => ?_)
        · refine rr_aload (q := 54) rfl dX5_copy_52 rfl ?_
          refine rr_get (q := 57) rfl fl_X5_260 (w_sheet hi3) rfl dX5_copy_54 ?_
          refine rr_aload (q := 59) rfl dX5_copy_57 rfl ?_
          refine rr_get (q := 62) rfl fl_X5_260 (w_sheet hi13) rfl dX5_copy_59 ?_
          refine rr_icmp_eq 71 (q := 65) rfl dX5_copy_62 rfl (fun _ => ?_) (fun _ => ?_)
          · refine rr_aload (q := 73) rfl dX5_copy_71 rfl ?_
            refine rr_iload_n (q := 74) rfl dX5_copy_73 rfl ?_
            refine rr_iload (q := 76) rfl dX5_copy_74 rfl ?_
            refine rr_cVi (q := 79) rfl V_X3_hasRow ml_X5_263 ⟨Nat.le_of_ble_eq_true rfl, Nat.le_of_ble_eq_true rfl⟩ (e_X3_hasRow hi3 l2 l5 s21) (w_sheet hi3) rfl rfl rfl rfl (Nat.le_of_ble_eq_true rfl) dX5_copy_76 (fun v22 s23 => ?_)
            refine rr_if_eq 94 (q := 82) rfl dX5_copy_79 rfl (fun _ => ?_) (fun _ => ?_)
            · refine rr_aload_n (q := 95) rfl dX5_copy_94 rfl ?_
              refine rr_iconst 0 (q := 96) rfl dX5_copy_95 rfl ?_
              refine rr_cVi (q := 99) rfl V_X5_finding ml_X5_62 ⟨Nat.le_of_ble_eq_true rfl, Nat.le_of_ble_eq_true rfl⟩ (e_X5_finding 0 s23) w_self rfl rfl rfl rfl (Nat.le_of_ble_eq_true rfl) dX5_copy_96 (fun v24 s25 => ?_)
              exact rr_iret dX5_copy_99 rfl
            · refine rr_aload (q := 84) rfl dX5_copy_82 rfl ?_
              refine rr_iload (q := 86) rfl dX5_copy_84 rfl ?_
              refine rr_iload (q := 88) rfl dX5_copy_86 rfl ?_
              refine rr_cVi (q := 91) rfl V_X3_hasRow ml_X5_263 ⟨Nat.le_of_ble_eq_true rfl, Nat.le_of_ble_eq_true rfl⟩ (e_X3_hasRow hi13 l4 l5 s23) (w_sheet hi13) rfl rfl rfl rfl (Nat.le_of_ble_eq_true rfl) dX5_copy_88 (fun v26 s27 => ?_)
              refine rr_if_ne 100 (q := 94) rfl dX5_copy_91 rfl (fun _ => ?_) (fun _ => ?_)
              · refine rr_aload (q := 102) rfl dX5_copy_100 rfl ?_
                refine rr_get (q := 105) rfl fl_X5_252 (w_sheet hi3) rfl dX5_copy_102 ?_
                refine rr_iload_n (q := 106) rfl dX5_copy_105 rfl ?_
                refine rr_aload (q := 108) rfl dX5_copy_106 rfl ?_
                refine rr_get (q := 111) rfl fl_X5_252 (w_sheet hi13) rfl dX5_copy_108 ?_
                refine rr_iload (q := 113) rfl dX5_copy_111 rfl ?_
                refine rr_iload (q := 115) rfl dX5_copy_113 rfl ?_
                refine rr_copyl (q := 118) rfl ml_X5_266 (w_snum hi3) (w_snum hi13) (Nat.le_of_ble_eq_true rfl) (Nat.le_of_ble_eq_true rfl) (u_snum hi13) dX5_copy_115 (fun s28 => ?_)
                refine rr_iload (q := 120) rfl dX5_copy_118 rfl ?_
                exact rr_iret dX5_copy_120 rfl
              · refine rr_aload_n (q := 95) rfl dX5_copy_94 rfl ?_
                refine rr_iconst 0 (q := 96) rfl dX5_copy_95 rfl ?_
                refine rr_cVi (q := 99) rfl V_X5_finding ml_X5_62 ⟨Nat.le_of_ble_eq_true rfl, Nat.le_of_ble_eq_true rfl⟩ (e_X5_finding 0 s27) w_self rfl rfl rfl rfl (Nat.le_of_ble_eq_true rfl) dX5_copy_96 (fun v29 s30 => ?_)
                exact rr_iret dX5_copy_99 rfl
          · refine rr_aload_n (q := 66) rfl dX5_copy_65 rfl ?_
            refine rr_iconst 2 (q := 67) rfl dX5_copy_66 rfl ?_
            refine rr_cVi (q := 70) rfl V_X5_finding ml_X5_62 ⟨Nat.le_of_ble_eq_true rfl, Nat.le_of_ble_eq_true rfl⟩ (e_X5_finding 2 s21) w_self rfl rfl rfl rfl (Nat.le_of_ble_eq_true rfl) dX5_copy_67 (fun v31 s32 => ?_)
            exact rr_iret dX5_copy_70 rfl
        · refine rr_aload_n (q := 47) rfl dX5_copy_46 rfl ?_
          refine rr_iconst 5 (q := 48) rfl dX5_copy_47 rfl ?_
          refine rr_cVi (q := 51) rfl V_X5_finding ml_X5_62 ⟨Nat.le_of_ble_eq_true rfl, Nat.le_of_ble_eq_true rfl⟩ (e_X5_finding 5 s21) w_self rfl rfl rfl rfl (Nat.le_of_ble_eq_true rfl) dX5_copy_48 (fun v33 s34 => ?_)
          exact rr_iret dX5_copy_51 rfl
def fX5_lays_95 (k34 : Nat → Int32 → Int32 → SX → Option (Int32 × SX)) (l2 : Nat) (l3 : Int32) (l4 : Int32) (s : SX) : Option (Int32 × SX) :=
  vl (l4 + 1) fun y20 =>
  k34 l2 l3 y20 s
set_option maxRecDepth 100000 in
set_option maxHeartbeats 4000000 in
theorem e_X5_lays_95 {G : Cf} {t : SM} {k34 : Nat → Int32 → Int32 → SX → Option (Int32 × SX)} (hk34 : ∀ (l2 : Nat) (l3 : Int32) (l4 : Int32) (_ : l2 < 4) (s : SX), R (wfX t) inI G M_X5_lays 34 [some (.ref 0), none, some (.ref (sb l2)), some (.int l3), some (.int l4), none] [] s (k34 l2 l3 l4 s)) (l2 : Nat) (l3 : Int32) (l4 : Int32) (hl2 : l2 < 4) (s : SX) : R (wfX t) inI G M_X5_lays 95 [some (.ref 0), none, some (.ref (sb l2)), some (.int l3), some (.int l4), none] [] s (fX5_lays_95 k34 l2 l3 l4 s) := by
  unfold fX5_lays_95
  refine rr_iinc (L2 := fun y20 => [some (.ref 0), none, some (.ref (sb l2)), some (.int l3), some (.int y20), none]) (q := 98) rfl dX5_lays_95 rfl rfl (Nat.le_of_ble_eq_true rfl) (fun _ => rfl) (fun y20 => ?_)
  refine rr_goto 34 dX5_lays_98 rfl ?_
  exact hk34 l2 l3 y20 hl2 s
def fX5_lays_34b (k34 : Nat → Int32 → Int32 → SX → Option (Int32 × SX)) (l2 : Nat) (l3 : Int32) (l4 : Int32) (s : SX) : Option (Int32 × SX) :=
  (if (gX s 0 10 10) ≤ l4 then
  some (l3, s)
  else
  (if (gX s (9 + l2) 0 2) ≤ l4 then
  some (l3, s)
  else
  bd (fX3_holderAt l2 l4 s) fun v12 s13 =>
  vl v12 fun y14 =>
  (if y14 < 0 then
  fX5_lays_95 k34 l2 l3 l4 s13
  else
  bd (fX1_isDead 0 l4 s13) fun v15 s16 =>
  (if v15 = 0 then
  ixg l4 14 fun n17 => vl (wX s16 0 3 n17 y14) fun s18 =>
  vl (l3 + 1) fun y19 =>
  fX5_lays_95 k34 l2 y19 l4 s18
  else
  fX5_lays_95 k34 l2 l3 l4 s16))))
set_option maxRecDepth 100000 in
set_option maxHeartbeats 4000000 in
theorem e_X5_lays_34b {G : Cf} {t : SM} {k34 : Nat → Int32 → Int32 → SX → Option (Int32 × SX)} (hk34 : ∀ (l2 : Nat) (l3 : Int32) (l4 : Int32) (_ : l2 < 4) (s : SX), R (wfX t) inI G M_X5_lays 34 [some (.ref 0), none, some (.ref (sb l2)), some (.int l3), some (.int l4), none] [] s (k34 l2 l3 l4 s)) (l2 : Nat) (l3 : Int32) (l4 : Int32) (hl2 : l2 < 4) (s : SX) : R (wfX t) inI G M_X5_lays 34 [some (.ref 0), none, some (.ref (sb l2)), some (.int l3), some (.int l4), none] [] s (fX5_lays_34b k34 l2 l3 l4 s) := by
  unfold fX5_lays_34b
  refine rr_iload (q := 36) rfl dX5_lays_34 rfl ?_
  refine rr_aload_n (q := 37) rfl dX5_lays_36 rfl ?_
  refine rr_get (q := 40) rfl fl_X5_10 w_self rfl dX5_lays_37 ?_
  refine rr_get (q := 43) rfl fl_X5_81 (w_realm (by decide)) rfl dX5_lays_40 ?_
  refine rr_icmp_ge 101 (q := 46) rfl dX5_lays_43 rfl (fun _ => ?_) (fun _ => ?_)
  · refine rr_iload_n (q := 102) rfl dX5_lays_101 rfl ?_
    exact rr_iret dX5_lays_102 rfl
  · refine rr_iload (q := 48) rfl dX5_lays_46 rfl ?_
    refine rr_aload_n (q := 49) rfl dX5_lays_48 rfl ?_
    refine rr_get (q := 52) rfl fl_X5_251 (w_sheet hl2) rfl dX5_lays_49 ?_
    refine rr_icmp_ge 101 (q := 55) rfl dX5_lays_52 rfl (fun _ => ?_) (fun _ => ?_)
    · refine rr_iload_n (q := 102) rfl dX5_lays_101 rfl ?_
      exact rr_iret dX5_lays_102 rfl
    · refine rr_aload_n (q := 56) rfl dX5_lays_55 rfl ?_
      refine rr_iload (q := 58) rfl dX5_lays_56 rfl ?_
      refine rr_cVi (q := 61) rfl V_X3_holderAt ml_X5_272 ⟨Nat.le_of_ble_eq_true rfl, Nat.le_of_ble_eq_true rfl⟩ (e_X3_holderAt hl2 l4 s) (w_sheet hl2) rfl rfl rfl rfl (Nat.le_of_ble_eq_true rfl) dX5_lays_58 (fun v12 s13 => ?_)
      refine rr_istore (L2 := fun y14 => [some (.ref 0), none, some (.ref (sb l2)), some (.int l3), some (.int l4), some (.int y14)]) (q := 63) rfl dX5_lays_61 (Nat.le_of_ble_eq_true rfl) (fun _ => rfl) (fun y14 => ?_)
      refine rr_iload (q := 65) rfl dX5_lays_63 rfl ?_
      refine rr_if_lt 95 (q := 68) rfl dX5_lays_65 rfl (fun _ => ?_) (fun _ => ?_)
      · refine rr_mask [true, false, true, true, true, false] (L' := [some (.ref 0), none, some (.ref (sb l2)), some (.int l3), some (.int l4), none]) rfl ?_
        exact e_X5_lays_95 hk34 l2 l3 l4 hl2 s13
      · refine rr_aload_n (q := 69) rfl dX5_lays_68 rfl ?_
        refine rr_get (q := 72) rfl fl_X5_10 w_self rfl dX5_lays_69 ?_
        refine rr_iload (q := 74) rfl dX5_lays_72 rfl ?_
        refine rr_cVi (q := 77) rfl V_X1_isDead ml_X5_104 ⟨Nat.le_of_ble_eq_true rfl, Nat.le_of_ble_eq_true rfl⟩ (e_X1_isDead (by decide) l4 s13) (w_realm (by decide)) rfl rfl rfl rfl (Nat.le_of_ble_eq_true rfl) dX5_lays_74 (fun v15 s16 => ?_)
        refine rr_if_ne 95 (q := 80) rfl dX5_lays_77 rfl (fun _ => ?_) (fun _ => ?_)
        · refine rr_mask [true, false, true, true, true, false] (L' := [some (.ref 0), none, some (.ref (sb l2)), some (.int l3), some (.int l4), none]) rfl ?_
          exact e_X5_lays_95 hk34 l2 l3 l4 hl2 s16
        · refine rr_aload_n (q := 81) rfl dX5_lays_80 rfl ?_
          refine rr_get (q := 84) rfl fl_X5_10 w_self rfl dX5_lays_81 ?_
          refine rr_get (q := 87) rfl fl_X5_98 (w_realm (by decide)) rfl dX5_lays_84 ?_
          refine rr_iload (q := 89) rfl dX5_lays_87 rfl ?_
          refine rr_iload (q := 91) rfl dX5_lays_89 rfl ?_
          refine rr_iast (q := 92) rfl (w_rarr3 (by decide)) (fun _ => (u_rarr3 (by decide))) dX5_lays_91 (fun n17 s18 => ?_)
          refine rr_iinc (L2 := fun y19 => [some (.ref 0), none, some (.ref (sb l2)), some (.int y19), some (.int l4), some (.int y14)]) (q := 95) rfl dX5_lays_92 rfl rfl (Nat.le_of_ble_eq_true rfl) (fun _ => rfl) (fun y19 => ?_)
          refine rr_mask [true, false, true, true, true, false] (L' := [some (.ref 0), none, some (.ref (sb l2)), some (.int y19), some (.int l4), none]) rfl ?_
          exact e_X5_lays_95 hk34 l2 y19 l4 hl2 s18
def fX5_lays_34 : Nat → Nat → Int32 → Int32 → SX → Option (Int32 × SX) := lp (fun _ _ _ _ => none) (fX5_lays_34b)
theorem e_X5_lays_34 {G : Cf} {t : SM}  (n : Nat) : ∀ (l2 : Nat) (l3 : Int32) (l4 : Int32) (_ : l2 < 4) (s : SX), R (wfX t) inI G M_X5_lays 34 [some (.ref 0), none, some (.ref (sb l2)), some (.int l3), some (.int l4), none] [] s (fX5_lays_34 n l2 l3 l4 s) := by
  unfold fX5_lays_34
  exact rr_lp (P := fun (kz : Nat → Int32 → Int32 → SX → Option (Int32 × SX)) => ∀ (l2 : Nat) (l3 : Int32) (l4 : Int32) (_ : l2 < 4) (s : SX), R (wfX t) inI G M_X5_lays 34 [some (.ref 0), none, some (.ref (sb l2)), some (.int l3), some (.int l4), none] [] s (kz l2 l3 l4 s)) (fun _ _ _ _ _ => rr_none) (fun kz hkz => fun l2 l3 l4 h0 s => e_X5_lays_34b hkz l2 l3 l4 h0 s) n
def fX5_lays (l1 : Int32) (s : SX) : Option (Int32 × SX) :=
  bd (fX5_sheetAt l1 s) fun v1 s2 =>
  om v1 (bd (fX5_finding 0 s2) fun v4 s5 =>
  some (v4, s5)) fun i3 =>
  bd (fX3_isMissing i3 s2) fun v6 s7 =>
  (if v6 = 0 then
  vl 0 fun y8 =>
  vl 0 fun y9 =>
  fX5_lays_34 400 i3 y8 y9 s7
  else
  bd (fX5_finding 5 s7) fun v10 s11 =>
  some (v10, s11))
set_option maxRecDepth 100000 in
set_option maxHeartbeats 4000000 in
theorem e_X5_lays {G : Cf} {t : SM} (l1 : Int32) (s : SX) : Ct (wfX t) inI G M_X5_lays [.ref 0, .int l1] s (fX5_lays l1 s) := by
  refine Ct.of (L0 := [some (.ref 0), some (.int l1), none, none, none, none]) 4 rfl rfl ⟨rfl, rfl⟩ (Nat.le_of_ble_eq_true rfl) rfl ?_
  unfold fX5_lays
  refine rr_aload_n (q := 1) rfl dX5_lays_0 rfl ?_
  refine rr_iload_n (q := 2) rfl dX5_lays_1 rfl ?_
  refine rr_cVo (q := 5) rfl V_X5_sheetAt ml_X5_210 ⟨Nat.le_of_ble_eq_true rfl, Nat.le_of_ble_eq_true rfl⟩ (e_X5_sheetAt l1 s) w_self rfl rfl rfl rfl (Nat.le_of_ble_eq_true rfl) dX5_lays_2 (fun v1 s2 => ?_)
  refine rr_om ?_ (fun i3 hi3 => ?_)
  · refine rr_astore_nN (L2 := [some (.ref 0), some (.int l1), some (.null), none, none, none]) (q := 6) rfl dX5_lays_5 (Nat.le_of_ble_eq_true rfl) rfl ?_
    refine rr_aload_nN (q := 7) rfl dX5_lays_6 rfl ?_
    refine rr_ifnonnullN (q := 10) rfl dX5_lays_7 ?_
    refine rr_aload_n (q := 11) rfl dX5_lays_10 rfl ?_
    refine rr_iconst 0 (q := 12) rfl dX5_lays_11 rfl ?_
    refine rr_cVi (q := 15) rfl V_X5_finding ml_X5_62 ⟨Nat.le_of_ble_eq_true rfl, Nat.le_of_ble_eq_true rfl⟩ (e_X5_finding 0 s2) w_self rfl rfl rfl rfl (Nat.le_of_ble_eq_true rfl) dX5_lays_12 (fun v4 s5 => ?_)
    exact rr_iret dX5_lays_15 rfl
  · refine rr_astore_n (L2 := [some (.ref 0), some (.int l1), some (.ref (sb i3)), none, none, none]) (q := 6) rfl dX5_lays_5 (Nat.le_of_ble_eq_true rfl) rfl ?_
    refine rr_aload_n (q := 7) rfl dX5_lays_6 rfl ?_
    refine rr_ifnonnull 16 dX5_lays_7 rfl ?_
    refine rr_aload_n (q := 17) rfl dX5_lays_16 rfl ?_
    refine rr_cVi (q := 20) rfl V_X3_isMissing ml_X5_214 ⟨Nat.le_of_ble_eq_true rfl, Nat.le_of_ble_eq_true rfl⟩ (e_X3_isMissing hi3 s2) (w_sheet hi3) rfl rfl rfl rfl (Nat.le_of_ble_eq_true rfl) dX5_lays_17 (fun v6 s7 => ?_)
    refine rr_if_eq 29 (q := 23) rfl dX5_lays_20 rfl (fun _ => ?_) (fun _ => ?_)
    · refine rr_iconst 0 (q := 30) rfl dX5_lays_29 rfl ?_
      refine rr_istore_n (L2 := fun y8 => [some (.ref 0), some (.int l1), some (.ref (sb i3)), some (.int y8), none, none]) (q := 31) rfl dX5_lays_30 (Nat.le_of_ble_eq_true rfl) (fun _ => rfl) (fun y8 => ?_)
      refine rr_iconst 0 (q := 32) rfl dX5_lays_31 rfl ?_
      refine rr_istore (L2 := fun y9 => [some (.ref 0), some (.int l1), some (.ref (sb i3)), some (.int y8), some (.int y9), none]) (q := 34) rfl dX5_lays_32 (Nat.le_of_ble_eq_true rfl) (fun _ => rfl) (fun y9 => ?_)
      refine rr_mask [true, false, true, true, true, false] (L' := [some (.ref 0), none, some (.ref (sb i3)), some (.int y8), some (.int y9), none]) rfl ?_
      exact e_X5_lays_34 400 i3 y8 y9 hi3 s7
    · refine rr_aload_n (q := 24) rfl dX5_lays_23 rfl ?_
      refine rr_iconst 5 (q := 25) rfl dX5_lays_24 rfl ?_
      refine rr_cVi (q := 28) rfl V_X5_finding ml_X5_62 ⟨Nat.le_of_ble_eq_true rfl, Nat.le_of_ble_eq_true rfl⟩ (e_X5_finding 5 s7) w_self rfl rfl rfl rfl (Nat.le_of_ble_eq_true rfl) dX5_lays_25 (fun v10 s11 => ?_)
      exact rr_iret dX5_lays_28 rfl
def fX5_roll_47b (k47 : Nat → Int32 → Int32 → SX → Option (Int32 × SX)) (l2 : Nat) (l3 : Int32) (l4 : Int32) (s : SX) : Option (Int32 × SX) :=
  (if l3 ≤ l4 then
  some (l3, s)
  else
  bd (fX1_rolledHolder 0 l4 s) fun v12 s13 =>
  bd (fX3_put l2 l4 (Int32.toInt64 v12) s13) fun _ s14 =>
  vl (l4 + 1) fun y15 =>
  k47 l2 l3 y15 s14)
set_option maxRecDepth 100000 in
set_option maxHeartbeats 4000000 in
theorem e_X5_roll_47b {G : Cf} {t : SM} {k47 : Nat → Int32 → Int32 → SX → Option (Int32 × SX)} (hk47 : ∀ (l2 : Nat) (l3 : Int32) (l4 : Int32) (_ : l2 < 4) (s : SX), R (wfX t) inI G M_X5_roll 47 [some (.ref 0), none, some (.ref (sb l2)), some (.int l3), some (.int l4)] [] s (k47 l2 l3 l4 s)) (l2 : Nat) (l3 : Int32) (l4 : Int32) (hl2 : l2 < 4) (s : SX) : R (wfX t) inI G M_X5_roll 47 [some (.ref 0), none, some (.ref (sb l2)), some (.int l3), some (.int l4)] [] s (fX5_roll_47b k47 l2 l3 l4 s) := by
  unfold fX5_roll_47b
  refine rr_iload (q := 49) rfl dX5_roll_47 rfl ?_
  refine rr_iload_n (q := 50) rfl dX5_roll_49 rfl ?_
  refine rr_icmp_ge 75 (q := 53) rfl dX5_roll_50 rfl (fun _ => ?_) (fun _ => ?_)
  · refine rr_iload_n (q := 76) rfl dX5_roll_75 rfl ?_
    exact rr_iret dX5_roll_76 rfl
  · refine rr_aload_n (q := 54) rfl dX5_roll_53 rfl ?_
    refine rr_iload (q := 56) rfl dX5_roll_54 rfl ?_
    refine rr_aload_n (q := 57) rfl dX5_roll_56 rfl ?_
    refine rr_get (q := 60) rfl fl_X5_10 w_self rfl dX5_roll_57 ?_
    refine rr_iload (q := 62) rfl dX5_roll_60 rfl ?_
    refine rr_cVi (q := 65) rfl V_X1_rolledHolder ml_X5_280 ⟨Nat.le_of_ble_eq_true rfl, Nat.le_of_ble_eq_true rfl⟩ (e_X1_rolledHolder (by decide) l4 s) (w_realm (by decide)) rfl rfl rfl rfl (Nat.le_of_ble_eq_true rfl) dX5_roll_62 (fun v12 s13 => ?_)
    refine rr_i2l (q := 66) rfl dX5_roll_65 ?_
    refine rr_cVu (q := 69) rfl V_X3_put ml_X5_256 ⟨Nat.le_of_ble_eq_true rfl, Nat.le_of_ble_eq_true rfl⟩ (e_X3_put hl2 l4 (Int32.toInt64 v12) s13) (w_sheet hl2) rfl rfl rfl rfl (Nat.le_of_ble_eq_true rfl) dX5_roll_66 (fun _ s14 => ?_)
    refine rr_iinc (L2 := fun y15 => [some (.ref 0), none, some (.ref (sb l2)), some (.int l3), some (.int y15)]) (q := 72) rfl dX5_roll_69 rfl rfl (Nat.le_of_ble_eq_true rfl) (fun _ => rfl) (fun y15 => ?_)
    refine rr_goto 47 dX5_roll_72 rfl ?_
    exact hk47 l2 l3 y15 hl2 s14
def fX5_roll_47 : Nat → Nat → Int32 → Int32 → SX → Option (Int32 × SX) := lp (fun _ _ _ _ => none) (fX5_roll_47b)
theorem e_X5_roll_47 {G : Cf} {t : SM}  (n : Nat) : ∀ (l2 : Nat) (l3 : Int32) (l4 : Int32) (_ : l2 < 4) (s : SX), R (wfX t) inI G M_X5_roll 47 [some (.ref 0), none, some (.ref (sb l2)), some (.int l3), some (.int l4)] [] s (fX5_roll_47 n l2 l3 l4 s) := by
  unfold fX5_roll_47
  exact rr_lp (P := fun (kz : Nat → Int32 → Int32 → SX → Option (Int32 × SX)) => ∀ (l2 : Nat) (l3 : Int32) (l4 : Int32) (_ : l2 < 4) (s : SX), R (wfX t) inI G M_X5_roll 47 [some (.ref 0), none, some (.ref (sb l2)), some (.int l3), some (.int l4)] [] s (kz l2 l3 l4 s)) (fun _ _ _ _ _ => rr_none) (fun kz hkz => fun l2 l3 l4 h0 s => e_X5_roll_47b hkz l2 l3 l4 h0 s) n
def fX5_roll (l1 : Int32) (s : SX) : Option (Int32 × SX) :=
  bd (fX5_sheetAt l1 s) fun v1 s2 =>
  om v1 (bd (fX5_finding 0 s2) fun v4 s5 =>
  some (v4, s5)) fun i3 =>
  bd (fX3_isMissing i3 s2) fun v6 s7 =>
  (if v6 = 0 then
  vl (if (gX s7 (9 + i3) 0 2) < (gX s7 0 10 10) then (gX s7 (9 + i3) 0 2) else (gX s7 0 10 10)) fun y8 =>
  vl 0 fun y9 =>
  fX5_roll_47 400 i3 y8 y9 s7
  else
  bd (fX5_finding 5 s7) fun v10 s11 =>
  some (v10, s11))
set_option maxRecDepth 100000 in
set_option maxHeartbeats 4000000 in
theorem e_X5_roll {G : Cf} {t : SM} (l1 : Int32) (s : SX) : Ct (wfX t) inI G M_X5_roll [.ref 0, .int l1] s (fX5_roll l1 s) := by
  refine Ct.of (L0 := [some (.ref 0), some (.int l1), none, none, none]) 3 rfl rfl ⟨rfl, rfl⟩ (Nat.le_of_ble_eq_true rfl) rfl ?_
  unfold fX5_roll
  refine rr_aload_n (q := 1) rfl dX5_roll_0 rfl ?_
  refine rr_iload_n (q := 2) rfl dX5_roll_1 rfl ?_
  refine rr_cVo (q := 5) rfl V_X5_sheetAt ml_X5_210 ⟨Nat.le_of_ble_eq_true rfl, Nat.le_of_ble_eq_true rfl⟩ (e_X5_sheetAt l1 s) w_self rfl rfl rfl rfl (Nat.le_of_ble_eq_true rfl) dX5_roll_2 (fun v1 s2 => ?_)
  refine rr_om ?_ (fun i3 hi3 => ?_)
  · refine rr_astore_nN (L2 := [some (.ref 0), some (.int l1), some (.null), none, none]) (q := 6) rfl dX5_roll_5 (Nat.le_of_ble_eq_true rfl) rfl ?_
    refine rr_aload_nN (q := 7) rfl dX5_roll_6 rfl ?_
    refine rr_ifnonnullN (q := 10) rfl dX5_roll_7 ?_
    refine rr_aload_n (q := 11) rfl dX5_roll_10 rfl ?_
    refine rr_iconst 0 (q := 12) rfl dX5_roll_11 rfl ?_
    refine rr_cVi (q := 15) rfl V_X5_finding ml_X5_62 ⟨Nat.le_of_ble_eq_true rfl, Nat.le_of_ble_eq_true rfl⟩ (e_X5_finding 0 s2) w_self rfl rfl rfl rfl (Nat.le_of_ble_eq_true rfl) dX5_roll_12 (fun v4 s5 => ?_)
    exact rr_iret dX5_roll_15 rfl
  · refine rr_astore_n (L2 := [some (.ref 0), some (.int l1), some (.ref (sb i3)), none, none]) (q := 6) rfl dX5_roll_5 (Nat.le_of_ble_eq_true rfl) rfl ?_
    refine rr_aload_n (q := 7) rfl dX5_roll_6 rfl ?_
    refine rr_ifnonnull 16 dX5_roll_7 rfl ?_
    refine rr_aload_n (q := 17) rfl dX5_roll_16 rfl ?_
    refine rr_cVi (q := 20) rfl V_X3_isMissing ml_X5_214 ⟨Nat.le_of_ble_eq_true rfl, Nat.le_of_ble_eq_true rfl⟩ (e_X3_isMissing hi3 s2) (w_sheet hi3) rfl rfl rfl rfl (Nat.le_of_ble_eq_true rfl) dX5_roll_17 (fun v6 s7 => ?_)
    refine rr_if_eq 29 (q := 23) rfl dX5_roll_20 rfl (fun _ => ?_) (fun _ => ?_)
    · refine rr_aload_n (q := 30) rfl dX5_roll_29 rfl ?_
      refine rr_get (q := 33) rfl fl_X5_10 w_self rfl dX5_roll_30 ?_
      refine rr_get (q := 36) rfl fl_X5_81 (w_realm (by decide)) rfl dX5_roll_33 ?_
      refine rr_aload_n (q := 37) rfl dX5_roll_36 rfl ?_
      refine rr_get (q := 40) rfl fl_X5_251 (w_sheet hi3) rfl dX5_roll_37 ?_
      refine rr_min (q := 43) rfl ml_X5_275 (Nat.le_of_ble_eq_true rfl) (Nat.le_of_ble_eq_true rfl) dX5_roll_40 ?_
      refine rr_istore_n (L2 := fun y8 => [some (.ref 0), some (.int l1), some (.ref (sb i3)), some (.int y8), none]) (q := 44) rfl dX5_roll_43 (Nat.le_of_ble_eq_true rfl) (fun _ => rfl) (fun y8 => ?_)
      refine rr_iconst 0 (q := 45) rfl dX5_roll_44 rfl ?_
      refine rr_istore (L2 := fun y9 => [some (.ref 0), some (.int l1), some (.ref (sb i3)), some (.int y8), some (.int y9)]) (q := 47) rfl dX5_roll_45 (Nat.le_of_ble_eq_true rfl) (fun _ => rfl) (fun y9 => ?_)
      refine rr_mask [true, false, true, true, true] (L' := [some (.ref 0), none, some (.ref (sb i3)), some (.int y8), some (.int y9)]) rfl ?_
      exact e_X5_roll_47 400 i3 y8 y9 hi3 s7
    · refine rr_aload_n (q := 24) rfl dX5_roll_23 rfl ?_
      refine rr_iconst 5 (q := 25) rfl dX5_roll_24 rfl ?_
      refine rr_cVi (q := 28) rfl V_X5_finding ml_X5_62 ⟨Nat.le_of_ble_eq_true rfl, Nat.le_of_ble_eq_true rfl⟩ (e_X5_finding 5 s7) w_self rfl rfl rfl rfl (Nat.le_of_ble_eq_true rfl) dX5_roll_25 (fun v10 s11 => ?_)
      exact rr_iret dX5_roll_28 rfl
def fX5_read_47b (k47 : Nat → Int32 → Int32 → SX → Option (Int32 × SX)) (l2 : Nat) (l3 : Int32) (l4 : Int32) (s : SX) : Option (Int32 × SX) :=
  (if l3 ≤ l4 then
  (if (gX s 0 10 10) = (gX s (9 + l2) 0 2) then
  some (0, s)
  else
  some (1 + l3, s))
  else
  ixg l4 40 fun n12 =>
  bd (fX1_rolledHolder 0 l4 s) fun v13 s14 =>
  (if (lg_cmp (gL s l2 n12) (Int32.toInt64 v13)) = 0 then
  vl (l4 + 1) fun y15 =>
  k47 l2 l3 y15 s14
  else
  some (1 + l4, s14)))
set_option maxRecDepth 100000 in
set_option maxHeartbeats 4000000 in
theorem e_X5_read_47b {G : Cf} {t : SM} {k47 : Nat → Int32 → Int32 → SX → Option (Int32 × SX)} (hk47 : ∀ (l2 : Nat) (l3 : Int32) (l4 : Int32) (_ : l2 < 4) (s : SX), R (wfX t) inI G M_X5_read 47 [some (.ref 0), none, some (.ref (sb l2)), some (.int l3), some (.int l4)] [] s (k47 l2 l3 l4 s)) (l2 : Nat) (l3 : Int32) (l4 : Int32) (hl2 : l2 < 4) (s : SX) : R (wfX t) inI G M_X5_read 47 [some (.ref 0), none, some (.ref (sb l2)), some (.int l3), some (.int l4)] [] s (fX5_read_47b k47 l2 l3 l4 s) := by
  unfold fX5_read_47b
  refine rr_iload (q := 49) rfl dX5_read_47 rfl ?_
  refine rr_iload_n (q := 50) rfl dX5_read_49 rfl ?_
  refine rr_icmp_ge 85 (q := 53) rfl dX5_read_50 rfl (fun _ => ?_) (fun _ => ?_)
  · refine rr_aload_n (q := 86) rfl dX5_read_85 rfl ?_
    refine rr_get (q := 89) rfl fl_X5_10 w_self rfl dX5_read_86 ?_
    refine rr_get (q := 92) rfl fl_X5_81 (w_realm (by decide)) rfl dX5_read_89 ?_
    refine rr_aload_n (q := 93) rfl dX5_read_92 rfl ?_
    refine rr_get (q := 96) rfl fl_X5_251 (w_sheet hl2) rfl dX5_read_93 ?_
    refine rr_icmp_ne 103 (q := 99) rfl dX5_read_96 rfl (fun _ => ?_) (fun _ => ?_)
    · refine rr_iconst 1 (q := 104) rfl dX5_read_103 rfl ?_
      refine rr_iload_n (q := 105) rfl dX5_read_104 rfl ?_
      refine rr_iadd (q := 106) rfl dX5_read_105 ?_
      exact rr_iret dX5_read_106 rfl
    · refine rr_iconst 0 (q := 100) rfl dX5_read_99 rfl ?_
      refine rr_goto 106 dX5_read_100 rfl ?_
      exact rr_iret dX5_read_106 rfl
  · refine rr_aload_n (q := 54) rfl dX5_read_53 rfl ?_
    refine rr_get (q := 57) rfl fl_X5_252 (w_sheet hl2) rfl dX5_read_54 ?_
    refine rr_iload (q := 59) rfl dX5_read_57 rfl ?_
    refine rr_lald (q := 60) rfl (w_snum hl2) dX5_read_59 (fun n12 => ?_)
    refine rr_aload_n (q := 61) rfl dX5_read_60 rfl ?_
    refine rr_get (q := 64) rfl fl_X5_10 w_self rfl dX5_read_61 ?_
    refine rr_iload (q := 66) rfl dX5_read_64 rfl ?_
    refine rr_cVi (q := 69) rfl V_X1_rolledHolder ml_X5_280 ⟨Nat.le_of_ble_eq_true rfl, Nat.le_of_ble_eq_true rfl⟩ (e_X1_rolledHolder (by decide) l4 s) (w_realm (by decide)) rfl rfl rfl rfl (Nat.le_of_ble_eq_true rfl) dX5_read_66 (fun v13 s14 => ?_)
    refine rr_i2l (q := 70) rfl dX5_read_69 ?_
    refine rr_lcmp (q := 71) rfl dX5_read_70 ?_
    refine rr_if_eq 79 (q := 74) rfl dX5_read_71 rfl (fun _ => ?_) (fun _ => ?_)
    · refine rr_iinc (L2 := fun y15 => [some (.ref 0), none, some (.ref (sb l2)), some (.int l3), some (.int y15)]) (q := 82) rfl dX5_read_79 rfl rfl (Nat.le_of_ble_eq_true rfl) (fun _ => rfl) (fun y15 => ?_)
      refine rr_goto 47 dX5_read_82 rfl ?_
      exact hk47 l2 l3 y15 hl2 s14
    · refine rr_iconst 1 (q := 75) rfl dX5_read_74 rfl ?_
      refine rr_iload (q := 77) rfl dX5_read_75 rfl ?_
      refine rr_iadd (q := 78) rfl dX5_read_77 ?_
      exact rr_iret dX5_read_78 rfl
def fX5_read_47 : Nat → Nat → Int32 → Int32 → SX → Option (Int32 × SX) := lp (fun _ _ _ _ => none) (fX5_read_47b)
theorem e_X5_read_47 {G : Cf} {t : SM}  (n : Nat) : ∀ (l2 : Nat) (l3 : Int32) (l4 : Int32) (_ : l2 < 4) (s : SX), R (wfX t) inI G M_X5_read 47 [some (.ref 0), none, some (.ref (sb l2)), some (.int l3), some (.int l4)] [] s (fX5_read_47 n l2 l3 l4 s) := by
  unfold fX5_read_47
  exact rr_lp (P := fun (kz : Nat → Int32 → Int32 → SX → Option (Int32 × SX)) => ∀ (l2 : Nat) (l3 : Int32) (l4 : Int32) (_ : l2 < 4) (s : SX), R (wfX t) inI G M_X5_read 47 [some (.ref 0), none, some (.ref (sb l2)), some (.int l3), some (.int l4)] [] s (kz l2 l3 l4 s)) (fun _ _ _ _ _ => rr_none) (fun kz hkz => fun l2 l3 l4 h0 s => e_X5_read_47b hkz l2 l3 l4 h0 s) n
def fX5_read (l1 : Int32) (s : SX) : Option (Int32 × SX) :=
  bd (fX5_sheetAt l1 s) fun v1 s2 =>
  om v1 (bd (fX5_finding 0 s2) fun v4 s5 =>
  some (v4, s5)) fun i3 =>
  bd (fX3_isMissing i3 s2) fun v6 s7 =>
  (if v6 = 0 then
  vl (if (gX s7 (9 + i3) 0 2) < (gX s7 0 10 10) then (gX s7 (9 + i3) 0 2) else (gX s7 0 10 10)) fun y8 =>
  vl 0 fun y9 =>
  fX5_read_47 400 i3 y8 y9 s7
  else
  bd (fX5_finding 5 s7) fun v10 s11 =>
  some (v10, s11))
set_option maxRecDepth 100000 in
set_option maxHeartbeats 4000000 in
theorem e_X5_read {G : Cf} {t : SM} (l1 : Int32) (s : SX) : Ct (wfX t) inI G M_X5_read [.ref 0, .int l1] s (fX5_read l1 s) := by
  refine Ct.of (L0 := [some (.ref 0), some (.int l1), none, none, none]) 3 rfl rfl ⟨rfl, rfl⟩ (Nat.le_of_ble_eq_true rfl) rfl ?_
  unfold fX5_read
  refine rr_aload_n (q := 1) rfl dX5_read_0 rfl ?_
  refine rr_iload_n (q := 2) rfl dX5_read_1 rfl ?_
  refine rr_cVo (q := 5) rfl V_X5_sheetAt ml_X5_210 ⟨Nat.le_of_ble_eq_true rfl, Nat.le_of_ble_eq_true rfl⟩ (e_X5_sheetAt l1 s) w_self rfl rfl rfl rfl (Nat.le_of_ble_eq_true rfl) dX5_read_2 (fun v1 s2 => ?_)
  refine rr_om ?_ (fun i3 hi3 => ?_)
  · refine rr_astore_nN (L2 := [some (.ref 0), some (.int l1), some (.null), none, none]) (q := 6) rfl dX5_read_5 (Nat.le_of_ble_eq_true rfl) rfl ?_
    refine rr_aload_nN (q := 7) rfl dX5_read_6 rfl ?_
    refine rr_ifnonnullN (q := 10) rfl dX5_read_7 ?_
    refine rr_aload_n (q := 11) rfl dX5_read_10 rfl ?_
    refine rr_iconst 0 (q := 12) rfl dX5_read_11 rfl ?_
    refine rr_cVi (q := 15) rfl V_X5_finding ml_X5_62 ⟨Nat.le_of_ble_eq_true rfl, Nat.le_of_ble_eq_true rfl⟩ (e_X5_finding 0 s2) w_self rfl rfl rfl rfl (Nat.le_of_ble_eq_true rfl) dX5_read_12 (fun v4 s5 => ?_)
    exact rr_iret dX5_read_15 rfl
  · refine rr_astore_n (L2 := [some (.ref 0), some (.int l1), some (.ref (sb i3)), none, none]) (q := 6) rfl dX5_read_5 (Nat.le_of_ble_eq_true rfl) rfl ?_
    refine rr_aload_n (q := 7) rfl dX5_read_6 rfl ?_
    refine rr_ifnonnull 16 dX5_read_7 rfl ?_
    refine rr_aload_n (q := 17) rfl dX5_read_16 rfl ?_
    refine rr_cVi (q := 20) rfl V_X3_isMissing ml_X5_214 ⟨Nat.le_of_ble_eq_true rfl, Nat.le_of_ble_eq_true rfl⟩ (e_X3_isMissing hi3 s2) (w_sheet hi3) rfl rfl rfl rfl (Nat.le_of_ble_eq_true rfl) dX5_read_17 (fun v6 s7 => ?_)
    refine rr_if_eq 29 (q := 23) rfl dX5_read_20 rfl (fun _ => ?_) (fun _ => ?_)
    · refine rr_aload_n (q := 30) rfl dX5_read_29 rfl ?_
      refine rr_get (q := 33) rfl fl_X5_10 w_self rfl dX5_read_30 ?_
      refine rr_get (q := 36) rfl fl_X5_81 (w_realm (by decide)) rfl dX5_read_33 ?_
      refine rr_aload_n (q := 37) rfl dX5_read_36 rfl ?_
      refine rr_get (q := 40) rfl fl_X5_251 (w_sheet hi3) rfl dX5_read_37 ?_
      refine rr_min (q := 43) rfl ml_X5_275 (Nat.le_of_ble_eq_true rfl) (Nat.le_of_ble_eq_true rfl) dX5_read_40 ?_
      refine rr_istore_n (L2 := fun y8 => [some (.ref 0), some (.int l1), some (.ref (sb i3)), some (.int y8), none]) (q := 44) rfl dX5_read_43 (Nat.le_of_ble_eq_true rfl) (fun _ => rfl) (fun y8 => ?_)
      refine rr_iconst 0 (q := 45) rfl dX5_read_44 rfl ?_
      refine rr_istore (L2 := fun y9 => [some (.ref 0), some (.int l1), some (.ref (sb i3)), some (.int y8), some (.int y9)]) (q := 47) rfl dX5_read_45 (Nat.le_of_ble_eq_true rfl) (fun _ => rfl) (fun y9 => ?_)
      refine rr_mask [true, false, true, true, true] (L' := [some (.ref 0), none, some (.ref (sb i3)), some (.int y8), some (.int y9)]) rfl ?_
      exact e_X5_read_47 400 i3 y8 y9 hi3 s7
    · refine rr_aload_n (q := 24) rfl dX5_read_23 rfl ?_
      refine rr_iconst 5 (q := 25) rfl dX5_read_24 rfl ?_
      refine rr_cVi (q := 28) rfl V_X5_finding ml_X5_62 ⟨Nat.le_of_ble_eq_true rfl, Nat.le_of_ble_eq_true rfl⟩ (e_X5_finding 5 s7) w_self rfl rfl rfl rfl (Nat.le_of_ble_eq_true rfl) dX5_read_25 (fun v10 s11 => ?_)
      exact rr_iret dX5_read_28 rfl
def fX5_image (s : SX) : Option (Int32 × SX) :=
  bd (fX1_become 1 0 s) fun _ s1 =>
  vl (wX s1 5 0 8 1) fun s2 =>
  some (1, s2)
set_option maxRecDepth 100000 in
set_option maxHeartbeats 4000000 in
theorem e_X5_image {G : Cf} {t : SM} (s : SX) : Ct (wfX t) inI G M_X5_image [.ref 0] s (fX5_image s) := by
  refine Ct.of (L0 := [some (.ref 0)]) 0 rfl rfl ⟨rfl, rfl⟩ (Nat.le_of_ble_eq_true rfl) rfl ?_
  unfold fX5_image
  refine rr_aload_n (q := 1) rfl dX5_image_0 rfl ?_
  refine rr_get (q := 4) rfl fl_X5_16 w_self rfl dX5_image_1 ?_
  refine rr_aload_n (q := 5) rfl dX5_image_4 rfl ?_
  refine rr_get (q := 8) rfl fl_X5_10 w_self rfl dX5_image_5 ?_
  refine rr_cVu (q := 11) rfl V_X1_become ml_X5_168 ⟨Nat.le_of_ble_eq_true rfl, Nat.le_of_ble_eq_true rfl⟩ (e_X1_become (by decide) (by decide) s) (w_realm (by decide)) rfl rfl rfl rfl (Nat.le_of_ble_eq_true rfl) dX5_image_8 (fun _ s1 => ?_)
  refine rr_aload_n (q := 12) rfl dX5_image_11 rfl ?_
  refine rr_iconst 1 (q := 13) rfl dX5_image_12 rfl ?_
  refine rr_putz (q := 16) rfl fl_X5_283 fp_X5_8 (Or.inr rfl) w_self (Nat.le_of_ble_eq_true rfl) u_self8 dX5_image_13 (fun s2 => ?_)
  refine rr_iconst 1 (q := 17) rfl dX5_image_16 rfl ?_
  exact rr_iret dX5_image_17 rfl
def fX5_undo (s : SX) : Option (Int32 × SX) :=
  (if (gX s 5 0 8) = 0 then
  bd (fX5_finding 3 s) fun v2 s3 =>
  some (v2, s3)
  else
  bd (fX1_become 0 1 s) fun _ s1 =>
  some (gX s1 0 10 10, s1))
set_option maxRecDepth 100000 in
set_option maxHeartbeats 4000000 in
theorem e_X5_undo {G : Cf} {t : SM} (s : SX) : Ct (wfX t) inI G M_X5_undo [.ref 0] s (fX5_undo s) := by
  refine Ct.of (L0 := [some (.ref 0)]) 0 rfl rfl ⟨rfl, rfl⟩ (Nat.le_of_ble_eq_true rfl) rfl ?_
  unfold fX5_undo
  refine rr_aload_n (q := 1) rfl dX5_undo_0 rfl ?_
  refine rr_get (q := 4) rfl fl_X5_283 w_self rfl dX5_undo_1 ?_
  refine rr_if_ne 13 (q := 7) rfl dX5_undo_4 rfl (fun _ => ?_) (fun _ => ?_)
  · refine rr_aload_n (q := 14) rfl dX5_undo_13 rfl ?_
    refine rr_get (q := 17) rfl fl_X5_10 w_self rfl dX5_undo_14 ?_
    refine rr_aload_n (q := 18) rfl dX5_undo_17 rfl ?_
    refine rr_get (q := 21) rfl fl_X5_16 w_self rfl dX5_undo_18 ?_
    refine rr_cVu (q := 24) rfl V_X1_become ml_X5_168 ⟨Nat.le_of_ble_eq_true rfl, Nat.le_of_ble_eq_true rfl⟩ (e_X1_become (by decide) (by decide) s) (w_realm (by decide)) rfl rfl rfl rfl (Nat.le_of_ble_eq_true rfl) dX5_undo_21 (fun _ s1 => ?_)
    refine rr_aload_n (q := 25) rfl dX5_undo_24 rfl ?_
    refine rr_get (q := 28) rfl fl_X5_10 w_self rfl dX5_undo_25 ?_
    refine rr_get (q := 31) rfl fl_X5_81 (w_realm (by decide)) rfl dX5_undo_28 ?_
    exact rr_iret dX5_undo_31 rfl
  · refine rr_aload_n (q := 8) rfl dX5_undo_7 rfl ?_
    refine rr_iconst 3 (q := 9) rfl dX5_undo_8 rfl ?_
    refine rr_cVi (q := 12) rfl V_X5_finding ml_X5_62 ⟨Nat.le_of_ble_eq_true rfl, Nat.le_of_ble_eq_true rfl⟩ (e_X5_finding 3 s) w_self rfl rfl rfl rfl (Nat.le_of_ble_eq_true rfl) dX5_undo_9 (fun v2 s3 => ?_)
    exact rr_iret dX5_undo_12 rfl
def fX5_tear (s : SX) : Option (Int32 × SX) :=
  (if (gX s 5 0 8) = 0 then
  vl 0 fun y1 =>
  vl (wX s 5 0 8 0) fun s2 =>
  some (y1, s2)
  else
  vl 1 fun y3 =>
  vl (wX s 5 0 8 0) fun s4 =>
  some (y3, s4))
set_option maxRecDepth 100000 in
set_option maxHeartbeats 4000000 in
theorem e_X5_tear {G : Cf} {t : SM} (s : SX) : Ct (wfX t) inI G M_X5_tear [.ref 0] s (fX5_tear s) := by
  refine Ct.of (L0 := [some (.ref 0), none]) 1 rfl rfl ⟨rfl, rfl⟩ (Nat.le_of_ble_eq_true rfl) rfl ?_
  unfold fX5_tear
  refine rr_aload_n (q := 1) rfl dX5_tear_0 rfl ?_
  refine rr_get (q := 4) rfl fl_X5_283 w_self rfl dX5_tear_1 ?_
  refine rr_if_eq 11 (q := 7) rfl dX5_tear_4 rfl (fun _ => ?_) (fun _ => ?_)
  · refine rr_iconst 0 (q := 12) rfl dX5_tear_11 rfl ?_
    refine rr_istore_n (L2 := fun y1 => [some (.ref 0), some (.int y1)]) (q := 13) rfl dX5_tear_12 (Nat.le_of_ble_eq_true rfl) (fun _ => rfl) (fun y1 => ?_)
    refine rr_aload_n (q := 14) rfl dX5_tear_13 rfl ?_
    refine rr_iconst 0 (q := 15) rfl dX5_tear_14 rfl ?_
    refine rr_putz (q := 18) rfl fl_X5_283 fp_X5_8 (Or.inl rfl) w_self (Nat.le_of_ble_eq_true rfl) u_self8 dX5_tear_15 (fun s2 => ?_)
    refine rr_iload_n (q := 19) rfl dX5_tear_18 rfl ?_
    exact rr_iret dX5_tear_19 rfl
  · refine rr_iconst 1 (q := 8) rfl dX5_tear_7 rfl ?_
    refine rr_goto 12 dX5_tear_8 rfl ?_
    refine rr_istore_n (L2 := fun y3 => [some (.ref 0), some (.int y3)]) (q := 13) rfl dX5_tear_12 (Nat.le_of_ble_eq_true rfl) (fun _ => rfl) (fun y3 => ?_)
    refine rr_aload_n (q := 14) rfl dX5_tear_13 rfl ?_
    refine rr_iconst 0 (q := 15) rfl dX5_tear_14 rfl ?_
    refine rr_putz (q := 18) rfl fl_X5_283 fp_X5_8 (Or.inl rfl) w_self (Nat.le_of_ble_eq_true rfl) u_self8 dX5_tear_15 (fun s4 => ?_)
    refine rr_iload_n (q := 19) rfl dX5_tear_18 rfl ?_
    exact rr_iret dX5_tear_19 rfl
def fX5_count (l1 : Int32) (s : SX) : Option (Int32 × SX) :=
  (if l1 = 0 then
  some (gX s 0 10 10, s)
  else
  (if l1 = 1 then
  some (gX s 0 10 11, s)
  else
  (if l1 = 2 then
  some (gX s 8 0 1, s)
  else
  (if l1 = 3 then
  bd (fX1_lossesAbroad 0 s) fun v4 s5 =>
  some (v4, s5)
  else
  bd (fX5_finding 0 s) fun v7 s8 =>
  some (v7, s8)))))
set_option maxRecDepth 100000 in
set_option maxHeartbeats 4000000 in
theorem e_X5_count {G : Cf} {t : SM} (l1 : Int32) (s : SX) : Ct (wfX t) inI G M_X5_count [.ref 0, .int l1] s (fX5_count l1 s) := by
  refine Ct.of (L0 := [some (.ref 0), some (.int l1)]) 0 rfl rfl ⟨rfl, rfl⟩ (Nat.le_of_ble_eq_true rfl) rfl ?_
  unfold fX5_count
  refine rr_iload_n (q := 1) rfl dX5_count_0 rfl ?_
  refine rr_case 0 ?_ (fun hs1 => ?_)
  · refine rr_tableIn 32 dX5_count_1 (by decide) (by decide) rfl rfl ?_
    refine rr_aload_n (q := 33) rfl dX5_count_32 rfl ?_
    refine rr_get (q := 36) rfl fl_X5_10 w_self rfl dX5_count_33 ?_
    refine rr_get (q := 39) rfl fl_X5_81 (w_realm (by decide)) rfl dX5_count_36 ?_
    exact rr_iret dX5_count_39 rfl
  · refine rr_case 1 ?_ (fun hs2 => ?_)
    · refine rr_tableIn 40 dX5_count_1 (by decide) (by decide) rfl rfl ?_
      refine rr_aload_n (q := 41) rfl dX5_count_40 rfl ?_
      refine rr_get (q := 44) rfl fl_X5_10 w_self rfl dX5_count_41 ?_
      refine rr_get (q := 47) rfl fl_X5_128 (w_realm (by decide)) rfl dX5_count_44 ?_
      exact rr_iret dX5_count_47 rfl
    · refine rr_case 2 ?_ (fun hs3 => ?_)
      · refine rr_tableIn 48 dX5_count_1 (by decide) (by decide) rfl rfl ?_
        refine rr_aload_n (q := 49) rfl dX5_count_48 rfl ?_
        refine rr_get (q := 52) rfl fl_X5_39 w_self rfl dX5_count_49 ?_
        refine rr_get (q := 55) rfl fl_X5_235 w_tape rfl dX5_count_52 ?_
        exact rr_iret dX5_count_55 rfl
      · refine rr_case 3 ?_ (fun hs6 => ?_)
        · refine rr_tableIn 56 dX5_count_1 (by decide) (by decide) rfl rfl ?_
          refine rr_aload_n (q := 57) rfl dX5_count_56 rfl ?_
          refine rr_get (q := 60) rfl fl_X5_10 w_self rfl dX5_count_57 ?_
          refine rr_cVi (q := 63) rfl V_X1_lossesAbroad ml_X5_287 ⟨Nat.le_of_ble_eq_true rfl, Nat.le_of_ble_eq_true rfl⟩ (e_X1_lossesAbroad (by decide) s) (w_realm (by decide)) rfl rfl rfl rfl (Nat.le_of_ble_eq_true rfl) dX5_count_60 (fun v4 s5 => ?_)
          exact rr_iret dX5_count_63 rfl
        · refine rr_tableOut 64 dX5_count_1 (by have ahs1 := ne_lit (n := 0) hs1 rfl; have ahs2 := ne_lit (n := 1) hs2 rfl; have ahs3 := ne_lit (n := 2) hs3 rfl; have ahs6 := ne_lit (n := 3) hs6 rfl; omega) rfl ?_
          refine rr_aload_n (q := 65) rfl dX5_count_64 rfl ?_
          refine rr_iconst 0 (q := 66) rfl dX5_count_65 rfl ?_
          refine rr_cVi (q := 69) rfl V_X5_finding ml_X5_62 ⟨Nat.le_of_ble_eq_true rfl, Nat.le_of_ble_eq_true rfl⟩ (e_X5_finding 0 s) w_self rfl rfl rfl rfl (Nat.le_of_ble_eq_true rfl) dX5_count_66 (fun v7 s8 => ?_)
          exact rr_iret dX5_count_69 rfl
def fX5_status_32b (k32 : Int32 → Int32 → SX → Option (Int32 × SX)) (l2 : Int32) (l3 : Int32) (s : SX) : Option (Int32 × SX) :=
  (if 7 ≤ l3 then
  some (l2, s)
  else
  ixg l3 7 fun n8 =>
  vl (l2 + (gX s 5 1 n8)) fun y9 =>
  vl (l3 + 1) fun y10 =>
  k32 y9 y10 s)
set_option maxRecDepth 100000 in
set_option maxHeartbeats 4000000 in
theorem e_X5_status_32b {G : Cf} {t : SM} {k32 : Int32 → Int32 → SX → Option (Int32 × SX)} (hk32 : ∀ (l2 : Int32) (l3 : Int32) (s : SX), R (wfX t) inI G M_X5_status 32 [some (.ref 0), none, some (.int l2), some (.int l3)] [] s (k32 l2 l3 s)) (l2 : Int32) (l3 : Int32) (s : SX) : R (wfX t) inI G M_X5_status 32 [some (.ref 0), none, some (.int l2), some (.int l3)] [] s (fX5_status_32b k32 l2 l3 s) := by
  unfold fX5_status_32b
  refine rr_iload_n (q := 33) rfl dX5_status_32 rfl ?_
  refine rr_bipush 7 (q := 35) rfl dX5_status_33 rfl ?_
  refine rr_icmp_ge 53 (q := 38) rfl dX5_status_35 rfl (fun _ => ?_) (fun _ => ?_)
  · refine rr_iload_n (q := 54) rfl dX5_status_53 rfl ?_
    exact rr_iret dX5_status_54 rfl
  · refine rr_iload_n (q := 39) rfl dX5_status_38 rfl ?_
    refine rr_aload_n (q := 40) rfl dX5_status_39 rfl ?_
    refine rr_get (q := 43) rfl fl_X5_49 w_self rfl dX5_status_40 ?_
    refine rr_iload_n (q := 44) rfl dX5_status_43 rfl ?_
    refine rr_iald (q := 45) rfl w_ans dX5_status_44 (fun n8 => ?_)
    refine rr_iadd (q := 46) rfl dX5_status_45 ?_
    refine rr_istore_n (L2 := fun y9 => [some (.ref 0), none, some (.int y9), some (.int l3)]) (q := 47) rfl dX5_status_46 (Nat.le_of_ble_eq_true rfl) (fun _ => rfl) (fun y9 => ?_)
    refine rr_iinc (L2 := fun y10 => [some (.ref 0), none, some (.int y9), some (.int y10)]) (q := 50) rfl dX5_status_47 rfl rfl (Nat.le_of_ble_eq_true rfl) (fun _ => rfl) (fun y10 => ?_)
    refine rr_goto 32 dX5_status_50 rfl ?_
    exact hk32 y9 y10 s
def fX5_status_32 : Nat → Int32 → Int32 → SX → Option (Int32 × SX) := lp (fun _ _ _ => none) (fX5_status_32b)
theorem e_X5_status_32 {G : Cf} {t : SM}  (n : Nat) : ∀ (l2 : Int32) (l3 : Int32) (s : SX), R (wfX t) inI G M_X5_status 32 [some (.ref 0), none, some (.int l2), some (.int l3)] [] s (fX5_status_32 n l2 l3 s) := by
  unfold fX5_status_32
  exact rr_lp (P := fun (kz : Int32 → Int32 → SX → Option (Int32 × SX)) => ∀ (l2 : Int32) (l3 : Int32) (s : SX), R (wfX t) inI G M_X5_status 32 [some (.ref 0), none, some (.int l2), some (.int l3)] [] s (kz l2 l3 s)) (fun _ _ _ => rr_none) (fun kz hkz => fun l2 l3 s => e_X5_status_32b hkz l2 l3 s) n
def fX5_status (l1 : Int32) (s : SX) : Option (Int32 × SX) :=
  (if l1 < (-1) then
  bd (fX5_finding 0 s) fun v1 s2 =>
  some (v1, s2)
  else
  (if l1 < 7 then
  (if l1 < 0 then
  vl 0 fun y3 =>
  vl 0 fun y4 =>
  fX5_status_32 400 y3 y4 s
  else
  ixg l1 7 fun n5 =>
  some (gX s 5 1 n5, s))
  else
  bd (fX5_finding 0 s) fun v6 s7 =>
  some (v6, s7)))
set_option maxRecDepth 100000 in
set_option maxHeartbeats 4000000 in
theorem e_X5_status {G : Cf} {t : SM} (l1 : Int32) (s : SX) : Ct (wfX t) inI G M_X5_status [.ref 0, .int l1] s (fX5_status l1 s) := by
  refine Ct.of (L0 := [some (.ref 0), some (.int l1), none, none]) 2 rfl rfl ⟨rfl, rfl⟩ (Nat.le_of_ble_eq_true rfl) rfl ?_
  unfold fX5_status
  refine rr_iload_n (q := 1) rfl dX5_status_0 rfl ?_
  refine rr_iconst (-1) (q := 2) rfl dX5_status_1 rfl ?_
  refine rr_icmp_lt 11 (q := 5) rfl dX5_status_2 rfl (fun _ => ?_) (fun _ => ?_)
  · refine rr_aload_n (q := 12) rfl dX5_status_11 rfl ?_
    refine rr_iconst 0 (q := 13) rfl dX5_status_12 rfl ?_
    refine rr_cVi (q := 16) rfl V_X5_finding ml_X5_62 ⟨Nat.le_of_ble_eq_true rfl, Nat.le_of_ble_eq_true rfl⟩ (e_X5_finding 0 s) w_self rfl rfl rfl rfl (Nat.le_of_ble_eq_true rfl) dX5_status_13 (fun v1 s2 => ?_)
    exact rr_iret dX5_status_16 rfl
  · refine rr_iload_n (q := 6) rfl dX5_status_5 rfl ?_
    refine rr_bipush 7 (q := 8) rfl dX5_status_6 rfl ?_
    refine rr_icmp_lt 17 (q := 11) rfl dX5_status_8 rfl (fun _ => ?_) (fun _ => ?_)
    · refine rr_iload_n (q := 18) rfl dX5_status_17 rfl ?_
      refine rr_if_lt 28 (q := 21) rfl dX5_status_18 rfl (fun _ => ?_) (fun _ => ?_)
      · refine rr_iconst 0 (q := 29) rfl dX5_status_28 rfl ?_
        refine rr_istore_n (L2 := fun y3 => [some (.ref 0), some (.int l1), some (.int y3), none]) (q := 30) rfl dX5_status_29 (Nat.le_of_ble_eq_true rfl) (fun _ => rfl) (fun y3 => ?_)
        refine rr_iconst 0 (q := 31) rfl dX5_status_30 rfl ?_
        refine rr_istore_n (L2 := fun y4 => [some (.ref 0), some (.int l1), some (.int y3), some (.int y4)]) (q := 32) rfl dX5_status_31 (Nat.le_of_ble_eq_true rfl) (fun _ => rfl) (fun y4 => ?_)
        refine rr_mask [true, false, true, true] (L' := [some (.ref 0), none, some (.int y3), some (.int y4)]) rfl ?_
        exact e_X5_status_32 400 y3 y4 s
      · refine rr_aload_n (q := 22) rfl dX5_status_21 rfl ?_
        refine rr_get (q := 25) rfl fl_X5_49 w_self rfl dX5_status_22 ?_
        refine rr_iload_n (q := 26) rfl dX5_status_25 rfl ?_
        refine rr_iald (q := 27) rfl w_ans dX5_status_26 (fun n5 => ?_)
        exact rr_iret dX5_status_27 rfl
    · refine rr_aload_n (q := 12) rfl dX5_status_11 rfl ?_
      refine rr_iconst 0 (q := 13) rfl dX5_status_12 rfl ?_
      refine rr_cVi (q := 16) rfl V_X5_finding ml_X5_62 ⟨Nat.le_of_ble_eq_true rfl, Nat.le_of_ble_eq_true rfl⟩ (e_X5_finding 0 s) w_self rfl rfl rfl rfl (Nat.le_of_ble_eq_true rfl) dX5_status_13 (fun v6 s7 => ?_)
      exact rr_iret dX5_status_16 rfl
