def fJ6_bitCount_0f7a4 (l0 : Int32) (s : SX) : Option (Int32 × SX) :=
  vl (l0 - (((l0.toUInt32 >>> (Int32.toUInt32 1 &&& Int32.toUInt32 31)).toInt32) &&& 1431655765)) fun y1 =>
  vl ((y1 &&& 858993459) + (((y1.toUInt32 >>> (Int32.toUInt32 2 &&& Int32.toUInt32 31)).toInt32) &&& 858993459)) fun y2 =>
  vl ((y2 + ((y2.toUInt32 >>> (Int32.toUInt32 4 &&& Int32.toUInt32 31)).toInt32)) &&& 252645135) fun y3 =>
  vl (y3 + ((y3.toUInt32 >>> (Int32.toUInt32 8 &&& Int32.toUInt32 31)).toInt32)) fun y4 =>
  vl (y4 + ((y4.toUInt32 >>> (Int32.toUInt32 16 &&& Int32.toUInt32 31)).toInt32)) fun y5 =>
  some (y5 &&& 63, s)
set_option maxRecDepth 100000 in
set_option maxHeartbeats 4000000 in
theorem e_J6_bitCount_0f7a4 {G : Cf} {t : SM} (l0 : Int32) (s : SX) : Ct (wfX t) inI G M_J6_bitCount_0f7a4 [.int l0] s (fJ6_bitCount_0f7a4 l0 s) := by
  refine Ct.of (L0 := [some (.int l0)]) 0 rfl rfl ⟨rfl, rfl⟩ (Nat.le_of_ble_eq_true rfl) rfl ?_
  unfold fJ6_bitCount_0f7a4
  refine rr_iload_n (q := 1) rfl dJ6_bitCount_0f7a4_0 rfl ?_
  refine rr_iload_n (q := 2) rfl dJ6_bitCount_0f7a4_1 rfl ?_
  refine rr_iconst 1 (q := 3) rfl dJ6_bitCount_0f7a4_2 rfl ?_
  refine rr_iushr (q := 4) rfl dJ6_bitCount_0f7a4_3 ?_
  refine rr_ldcw (q := 7) rfl dJ6_bitCount_0f7a4_4 kc_J6_265 ?_
  refine rr_iand (q := 8) rfl dJ6_bitCount_0f7a4_7 ?_
  refine rr_isub (q := 9) rfl dJ6_bitCount_0f7a4_8 ?_
  refine rr_istore_n (L2 := fun y1 => [some (.int y1)]) (q := 10) rfl dJ6_bitCount_0f7a4_9 (Nat.le_of_ble_eq_true rfl) (fun _ => rfl) (fun y1 => ?_)
  refine rr_iload_n (q := 11) rfl dJ6_bitCount_0f7a4_10 rfl ?_
  refine rr_ldcw (q := 14) rfl dJ6_bitCount_0f7a4_11 kc_J6_266 ?_
  refine rr_iand (q := 15) rfl dJ6_bitCount_0f7a4_14 ?_
  refine rr_iload_n (q := 16) rfl dJ6_bitCount_0f7a4_15 rfl ?_
  refine rr_iconst 2 (q := 17) rfl dJ6_bitCount_0f7a4_16 rfl ?_
  refine rr_iushr (q := 18) rfl dJ6_bitCount_0f7a4_17 ?_
  refine rr_ldcw (q := 21) rfl dJ6_bitCount_0f7a4_18 kc_J6_266 ?_
  refine rr_iand (q := 22) rfl dJ6_bitCount_0f7a4_21 ?_
  refine rr_iadd (q := 23) rfl dJ6_bitCount_0f7a4_22 ?_
  refine rr_istore_n (L2 := fun y2 => [some (.int y2)]) (q := 24) rfl dJ6_bitCount_0f7a4_23 (Nat.le_of_ble_eq_true rfl) (fun _ => rfl) (fun y2 => ?_)
  refine rr_iload_n (q := 25) rfl dJ6_bitCount_0f7a4_24 rfl ?_
  refine rr_iload_n (q := 26) rfl dJ6_bitCount_0f7a4_25 rfl ?_
  refine rr_iconst 4 (q := 27) rfl dJ6_bitCount_0f7a4_26 rfl ?_
  refine rr_iushr (q := 28) rfl dJ6_bitCount_0f7a4_27 ?_
  refine rr_iadd (q := 29) rfl dJ6_bitCount_0f7a4_28 ?_
  refine rr_ldcw (q := 32) rfl dJ6_bitCount_0f7a4_29 kc_J6_267 ?_
  refine rr_iand (q := 33) rfl dJ6_bitCount_0f7a4_32 ?_
  refine rr_istore_n (L2 := fun y3 => [some (.int y3)]) (q := 34) rfl dJ6_bitCount_0f7a4_33 (Nat.le_of_ble_eq_true rfl) (fun _ => rfl) (fun y3 => ?_)
  refine rr_iload_n (q := 35) rfl dJ6_bitCount_0f7a4_34 rfl ?_
  refine rr_iload_n (q := 36) rfl dJ6_bitCount_0f7a4_35 rfl ?_
  refine rr_bipush 8 (q := 38) rfl dJ6_bitCount_0f7a4_36 rfl ?_
  refine rr_iushr (q := 39) rfl dJ6_bitCount_0f7a4_38 ?_
  refine rr_iadd (q := 40) rfl dJ6_bitCount_0f7a4_39 ?_
  refine rr_istore_n (L2 := fun y4 => [some (.int y4)]) (q := 41) rfl dJ6_bitCount_0f7a4_40 (Nat.le_of_ble_eq_true rfl) (fun _ => rfl) (fun y4 => ?_)
  refine rr_iload_n (q := 42) rfl dJ6_bitCount_0f7a4_41 rfl ?_
  refine rr_iload_n (q := 43) rfl dJ6_bitCount_0f7a4_42 rfl ?_
  refine rr_bipush 16 (q := 45) rfl dJ6_bitCount_0f7a4_43 rfl ?_
  refine rr_iushr (q := 46) rfl dJ6_bitCount_0f7a4_45 ?_
  refine rr_iadd (q := 47) rfl dJ6_bitCount_0f7a4_46 ?_
  refine rr_istore_n (L2 := fun y5 => [some (.int y5)]) (q := 48) rfl dJ6_bitCount_0f7a4_47 (Nat.le_of_ble_eq_true rfl) (fun _ => rfl) (fun y5 => ?_)
  refine rr_iload_n (q := 49) rfl dJ6_bitCount_0f7a4_48 rfl ?_
  refine rr_bipush 63 (q := 51) rfl dJ6_bitCount_0f7a4_49 rfl ?_
  refine rr_iand (q := 52) rfl dJ6_bitCount_0f7a4_51 ?_
  exact rr_iret dJ6_bitCount_0f7a4_52 rfl
def fX1_isDead (i : Nat) (l1 : Int32) (s : SX) : Option (Int32 × SX) :=
  (if (((gX s i 10 12) >>> (l1 &&& 31)) &&& 1) = 0 then
  some (0, s)
  else
  some (1, s))
set_option maxRecDepth 100000 in
set_option maxHeartbeats 4000000 in
theorem e_X1_isDead {G : Cf} {t : SM} {i : Nat} (hi : i < 5) (l1 : Int32) (s : SX) : Ct (wfX t) inI G M_X1_isDead [.ref (rb i), .int l1] s (fX1_isDead i l1 s) := by
  refine Ct.of (L0 := [some (.ref (rb i)), some (.int l1)]) 0 rfl rfl ⟨rfl, rfl⟩ (Nat.le_of_ble_eq_true rfl) rfl ?_
  unfold fX1_isDead
  refine rr_aload_n (q := 1) rfl dX1_isDead_0 rfl ?_
  refine rr_get (q := 4) rfl fl_X1_55 (w_realm hi) rfl dX1_isDead_1 ?_
  refine rr_iload_n (q := 5) rfl dX1_isDead_4 rfl ?_
  refine rr_ishr (q := 6) rfl dX1_isDead_5 ?_
  refine rr_iconst 1 (q := 7) rfl dX1_isDead_6 rfl ?_
  refine rr_iand (q := 8) rfl dX1_isDead_7 ?_
  refine rr_if_eq 15 (q := 11) rfl dX1_isDead_8 rfl (fun _ => ?_) (fun _ => ?_)
  · refine rr_iconst 0 (q := 16) rfl dX1_isDead_15 rfl ?_
    exact rr_zret dX1_isDead_16 rfl (Or.inl rfl)
  · refine rr_iconst 1 (q := 12) rfl dX1_isDead_11 rfl ?_
    refine rr_goto 16 dX1_isDead_12 rfl ?_
    exact rr_zret dX1_isDead_16 rfl (Or.inr rfl)
def fX1_isBroken (i : Nat) (l1 : Int32) (s : SX) : Option (Int32 × SX) :=
  (if (((gX s i 10 13) >>> (l1 &&& 31)) &&& 1) = 0 then
  some (0, s)
  else
  some (1, s))
set_option maxRecDepth 100000 in
set_option maxHeartbeats 4000000 in
theorem e_X1_isBroken {G : Cf} {t : SM} {i : Nat} (hi : i < 5) (l1 : Int32) (s : SX) : Ct (wfX t) inI G M_X1_isBroken [.ref (rb i), .int l1] s (fX1_isBroken i l1 s) := by
  refine Ct.of (L0 := [some (.ref (rb i)), some (.int l1)]) 0 rfl rfl ⟨rfl, rfl⟩ (Nat.le_of_ble_eq_true rfl) rfl ?_
  unfold fX1_isBroken
  refine rr_aload_n (q := 1) rfl dX1_isBroken_0 rfl ?_
  refine rr_get (q := 4) rfl fl_X1_58 (w_realm hi) rfl dX1_isBroken_1 ?_
  refine rr_iload_n (q := 5) rfl dX1_isBroken_4 rfl ?_
  refine rr_ishr (q := 6) rfl dX1_isBroken_5 ?_
  refine rr_iconst 1 (q := 7) rfl dX1_isBroken_6 rfl ?_
  refine rr_iand (q := 8) rfl dX1_isBroken_7 ?_
  refine rr_if_eq 15 (q := 11) rfl dX1_isBroken_8 rfl (fun _ => ?_) (fun _ => ?_)
  · refine rr_iconst 0 (q := 16) rfl dX1_isBroken_15 rfl ?_
    exact rr_zret dX1_isBroken_16 rfl (Or.inl rfl)
  · refine rr_iconst 1 (q := 12) rfl dX1_isBroken_11 rfl ?_
    refine rr_goto 16 dX1_isBroken_12 rfl ?_
    exact rr_zret dX1_isBroken_16 rfl (Or.inr rfl)
def fX1_isInForce (i : Nat) (l1 : Int32) (s : SX) : Option (Int32 × SX) :=
  bd (fX1_isBroken i l1 s) fun v1 s2 =>
  (if v1 = 0 then
  ixg l1 12 fun n3 =>
  (if (gX s2 i 8 n3) < (gX s2 i 10 14) then
  some (0, s2)
  else
  some (1, s2))
  else
  some (0, s2))
set_option maxRecDepth 100000 in
set_option maxHeartbeats 4000000 in
theorem e_X1_isInForce {G : Cf} {t : SM} {i : Nat} (hi : i < 5) (l1 : Int32) (s : SX) : Ct (wfX t) inI G M_X1_isInForce [.ref (rb i), .int l1] s (fX1_isInForce i l1 s) := by
  refine Ct.of (L0 := [some (.ref (rb i)), some (.int l1)]) 0 rfl rfl ⟨rfl, rfl⟩ (Nat.le_of_ble_eq_true rfl) rfl ?_
  unfold fX1_isInForce
  refine rr_aload_n (q := 1) rfl dX1_isInForce_0 rfl ?_
  refine rr_iload_n (q := 2) rfl dX1_isInForce_1 rfl ?_
  refine rr_cVi (q := 5) rfl V_X1_isBroken ml_X1_64 ⟨Nat.le_of_ble_eq_true rfl, Nat.le_of_ble_eq_true rfl⟩ (e_X1_isBroken hi l1 s) (w_realm hi) rfl rfl rfl rfl (Nat.le_of_ble_eq_true rfl) dX1_isInForce_2 (fun v1 s2 => ?_)
  refine rr_if_ne 25 (q := 8) rfl dX1_isInForce_5 rfl (fun _ => ?_) (fun _ => ?_)
  · refine rr_iconst 0 (q := 26) rfl dX1_isInForce_25 rfl ?_
    exact rr_zret dX1_isInForce_26 rfl (Or.inl rfl)
  · refine rr_aload_n (q := 9) rfl dX1_isInForce_8 rfl ?_
    refine rr_get (q := 12) rfl fl_X1_61 (w_realm hi) rfl dX1_isInForce_9 ?_
    refine rr_aload_n (q := 13) rfl dX1_isInForce_12 rfl ?_
    refine rr_get (q := 16) rfl fl_X1_36 (w_realm hi) rfl dX1_isInForce_13 ?_
    refine rr_iload_n (q := 17) rfl dX1_isInForce_16 rfl ?_
    refine rr_iald (q := 18) rfl (w_rarr8 hi) dX1_isInForce_17 (fun n3 => ?_)
    refine rr_icmp_gt 25 (q := 21) rfl dX1_isInForce_18 rfl (fun _ => ?_) (fun _ => ?_)
    · refine rr_iconst 0 (q := 26) rfl dX1_isInForce_25 rfl ?_
      exact rr_zret dX1_isInForce_26 rfl (Or.inl rfl)
    · refine rr_iconst 1 (q := 22) rfl dX1_isInForce_21 rfl ?_
      refine rr_goto 26 dX1_isInForce_22 rfl ?_
      exact rr_zret dX1_isInForce_26 rfl (Or.inr rfl)
def fX1_twinsAtHome_56 (i : Nat) (k4 : Int32 → Int32 → Int32 → SX → Option (Int32 × SX)) (l1 : Int32) (l2 : Int32) (l3 : Int32) (s : SX) : Option (Int32 × SX) :=
  vl (l3 + 1) fun y9 =>
  k4 l1 l2 y9 s
set_option maxRecDepth 100000 in
set_option maxHeartbeats 4000000 in
theorem e_X1_twinsAtHome_56 {G : Cf} {t : SM} {i : Nat} (hi : i < 5) {k4 : Int32 → Int32 → Int32 → SX → Option (Int32 × SX)} (hk4 : ∀ (l1 : Int32) (l2 : Int32) (l3 : Int32) (s : SX), R (wfX t) inI G M_X1_twinsAtHome 4 [some (.ref (rb i)), some (.int l1), some (.int l2), some (.int l3)] [] s (k4 l1 l2 l3 s)) (l1 : Int32) (l2 : Int32) (l3 : Int32) (s : SX) : R (wfX t) inI G M_X1_twinsAtHome 56 [some (.ref (rb i)), some (.int l1), some (.int l2), some (.int l3)] [] s (fX1_twinsAtHome_56 i k4 l1 l2 l3 s) := by
  unfold fX1_twinsAtHome_56
  refine rr_iinc (L2 := fun y9 => [some (.ref (rb i)), some (.int l1), some (.int l2), some (.int y9)]) (q := 59) rfl dX1_twinsAtHome_56 rfl rfl (Nat.le_of_ble_eq_true rfl) (fun _ => rfl) (fun y9 => ?_)
  refine rr_goto 4 dX1_twinsAtHome_59 rfl ?_
  exact hk4 l1 l2 y9 s
def fX1_twinsAtHome_4b (i : Nat) (k4 : Int32 → Int32 → Int32 → SX → Option (Int32 × SX)) (l1 : Int32) (l2 : Int32) (l3 : Int32) (s : SX) : Option (Int32 × SX) :=
  (if (gX s i 10 10) ≤ l3 then
  some (l2, s)
  else
  ixg l3 14 fun n3 =>
  (if (gX s i 1 n3) = 5 then
  ixg l3 14 fun n4 =>
  (if (gX s i 2 n4) = l1 then
  ixg l3 14 fun n5 =>
  (if (gX s i 3 n5) = l1 then
  bd (fX1_isDead i l3 s) fun v6 s7 =>
  (if v6 = 0 then
  vl (l2 ||| (1 <<< (l3 &&& 31))) fun y8 =>
  fX1_twinsAtHome_56 i k4 l1 y8 l3 s7
  else
  fX1_twinsAtHome_56 i k4 l1 l2 l3 s7)
  else
  fX1_twinsAtHome_56 i k4 l1 l2 l3 s)
  else
  fX1_twinsAtHome_56 i k4 l1 l2 l3 s)
  else
  fX1_twinsAtHome_56 i k4 l1 l2 l3 s))
set_option maxRecDepth 100000 in
set_option maxHeartbeats 4000000 in
theorem e_X1_twinsAtHome_4b {G : Cf} {t : SM} {i : Nat} (hi : i < 5) {k4 : Int32 → Int32 → Int32 → SX → Option (Int32 × SX)} (hk4 : ∀ (l1 : Int32) (l2 : Int32) (l3 : Int32) (s : SX), R (wfX t) inI G M_X1_twinsAtHome 4 [some (.ref (rb i)), some (.int l1), some (.int l2), some (.int l3)] [] s (k4 l1 l2 l3 s)) (l1 : Int32) (l2 : Int32) (l3 : Int32) (s : SX) : R (wfX t) inI G M_X1_twinsAtHome 4 [some (.ref (rb i)), some (.int l1), some (.int l2), some (.int l3)] [] s (fX1_twinsAtHome_4b i k4 l1 l2 l3 s) := by
  unfold fX1_twinsAtHome_4b
  refine rr_iload_n (q := 5) rfl dX1_twinsAtHome_4 rfl ?_
  refine rr_aload_n (q := 6) rfl dX1_twinsAtHome_5 rfl ?_
  refine rr_get (q := 9) rfl fl_X1_48 (w_realm hi) rfl dX1_twinsAtHome_6 ?_
  refine rr_icmp_ge 62 (q := 12) rfl dX1_twinsAtHome_9 rfl (fun _ => ?_) (fun _ => ?_)
  · refine rr_iload_n (q := 63) rfl dX1_twinsAtHome_62 rfl ?_
    exact rr_iret dX1_twinsAtHome_63 rfl
  · refine rr_aload_n (q := 13) rfl dX1_twinsAtHome_12 rfl ?_
    refine rr_get (q := 16) rfl fl_X1_15 (w_realm hi) rfl dX1_twinsAtHome_13 ?_
    refine rr_iload_n (q := 17) rfl dX1_twinsAtHome_16 rfl ?_
    refine rr_iald (q := 18) rfl (w_rarr1 hi) dX1_twinsAtHome_17 (fun n3 => ?_)
    refine rr_iconst 5 (q := 19) rfl dX1_twinsAtHome_18 rfl ?_
    refine rr_icmp_ne 56 (q := 22) rfl dX1_twinsAtHome_19 rfl (fun _ => ?_) (fun _ => ?_)
    · exact e_X1_twinsAtHome_56 hi hk4 l1 l2 l3 s
    · refine rr_aload_n (q := 23) rfl dX1_twinsAtHome_22 rfl ?_
      refine rr_get (q := 26) rfl fl_X1_18 (w_realm hi) rfl dX1_twinsAtHome_23 ?_
      refine rr_iload_n (q := 27) rfl dX1_twinsAtHome_26 rfl ?_
      refine rr_iald (q := 28) rfl (w_rarr2 hi) dX1_twinsAtHome_27 (fun n4 => ?_)
      refine rr_iload_n (q := 29) rfl dX1_twinsAtHome_28 rfl ?_
      refine rr_icmp_ne 56 (q := 32) rfl dX1_twinsAtHome_29 rfl (fun _ => ?_) (fun _ => ?_)
      · exact e_X1_twinsAtHome_56 hi hk4 l1 l2 l3 s
      · refine rr_aload_n (q := 33) rfl dX1_twinsAtHome_32 rfl ?_
        refine rr_get (q := 36) rfl fl_X1_21 (w_realm hi) rfl dX1_twinsAtHome_33 ?_
        refine rr_iload_n (q := 37) rfl dX1_twinsAtHome_36 rfl ?_
        refine rr_iald (q := 38) rfl (w_rarr3 hi) dX1_twinsAtHome_37 (fun n5 => ?_)
        refine rr_iload_n (q := 39) rfl dX1_twinsAtHome_38 rfl ?_
        refine rr_icmp_ne 56 (q := 42) rfl dX1_twinsAtHome_39 rfl (fun _ => ?_) (fun _ => ?_)
        · exact e_X1_twinsAtHome_56 hi hk4 l1 l2 l3 s
        · refine rr_aload_n (q := 43) rfl dX1_twinsAtHome_42 rfl ?_
          refine rr_iload_n (q := 44) rfl dX1_twinsAtHome_43 rfl ?_
          refine rr_cVi (q := 47) rfl V_X1_isDead ml_X1_76 ⟨Nat.le_of_ble_eq_true rfl, Nat.le_of_ble_eq_true rfl⟩ (e_X1_isDead hi l3 s) (w_realm hi) rfl rfl rfl rfl (Nat.le_of_ble_eq_true rfl) dX1_twinsAtHome_44 (fun v6 s7 => ?_)
          refine rr_if_ne 56 (q := 50) rfl dX1_twinsAtHome_47 rfl (fun _ => ?_) (fun _ => ?_)
          · exact e_X1_twinsAtHome_56 hi hk4 l1 l2 l3 s7
          · refine rr_iload_n (q := 51) rfl dX1_twinsAtHome_50 rfl ?_
            refine rr_iconst 1 (q := 52) rfl dX1_twinsAtHome_51 rfl ?_
            refine rr_iload_n (q := 53) rfl dX1_twinsAtHome_52 rfl ?_
            refine rr_ishl (q := 54) rfl dX1_twinsAtHome_53 ?_
            refine rr_ior (q := 55) rfl dX1_twinsAtHome_54 ?_
            refine rr_istore_n (L2 := fun y8 => [some (.ref (rb i)), some (.int l1), some (.int y8), some (.int l3)]) (q := 56) rfl dX1_twinsAtHome_55 (Nat.le_of_ble_eq_true rfl) (fun _ => rfl) (fun y8 => ?_)
            exact e_X1_twinsAtHome_56 hi hk4 l1 y8 l3 s7
def fX1_twinsAtHome_4 (i : Nat) : Nat → Int32 → Int32 → Int32 → SX → Option (Int32 × SX) := lp (fun _ _ _ _ => none) (fX1_twinsAtHome_4b i)
theorem e_X1_twinsAtHome_4 {G : Cf} {t : SM} {i : Nat} (hi : i < 5)  (n : Nat) : ∀ (l1 : Int32) (l2 : Int32) (l3 : Int32) (s : SX), R (wfX t) inI G M_X1_twinsAtHome 4 [some (.ref (rb i)), some (.int l1), some (.int l2), some (.int l3)] [] s (fX1_twinsAtHome_4 i n l1 l2 l3 s) := by
  unfold fX1_twinsAtHome_4
  exact rr_lp (P := fun (kz : Int32 → Int32 → Int32 → SX → Option (Int32 × SX)) => ∀ (l1 : Int32) (l2 : Int32) (l3 : Int32) (s : SX), R (wfX t) inI G M_X1_twinsAtHome 4 [some (.ref (rb i)), some (.int l1), some (.int l2), some (.int l3)] [] s (kz l1 l2 l3 s)) (fun _ _ _ _ => rr_none) (fun kz hkz => fun l1 l2 l3 s => e_X1_twinsAtHome_4b hi hkz l1 l2 l3 s) n
def fX1_twinsAtHome (i : Nat) (l1 : Int32) (s : SX) : Option (Int32 × SX) :=
  vl 0 fun y1 =>
  vl 0 fun y2 =>
  fX1_twinsAtHome_4 i 400 l1 y1 y2 s
set_option maxRecDepth 100000 in
set_option maxHeartbeats 4000000 in
theorem e_X1_twinsAtHome {G : Cf} {t : SM} {i : Nat} (hi : i < 5) (l1 : Int32) (s : SX) : Ct (wfX t) inI G M_X1_twinsAtHome [.ref (rb i), .int l1] s (fX1_twinsAtHome i l1 s) := by
  refine Ct.of (L0 := [some (.ref (rb i)), some (.int l1), none, none]) 2 rfl rfl ⟨rfl, rfl⟩ (Nat.le_of_ble_eq_true rfl) rfl ?_
  unfold fX1_twinsAtHome
  refine rr_iconst 0 (q := 1) rfl dX1_twinsAtHome_0 rfl ?_
  refine rr_istore_n (L2 := fun y1 => [some (.ref (rb i)), some (.int l1), some (.int y1), none]) (q := 2) rfl dX1_twinsAtHome_1 (Nat.le_of_ble_eq_true rfl) (fun _ => rfl) (fun y1 => ?_)
  refine rr_iconst 0 (q := 3) rfl dX1_twinsAtHome_2 rfl ?_
  refine rr_istore_n (L2 := fun y2 => [some (.ref (rb i)), some (.int l1), some (.int y1), some (.int y2)]) (q := 4) rfl dX1_twinsAtHome_3 (Nat.le_of_ble_eq_true rfl) (fun _ => rfl) (fun y2 => ?_)
  exact e_X1_twinsAtHome_4 hi 400 l1 y1 y2 s
def fX1_lossBeside (i : Nat) (l1 : Int32) (l2 : Int32) (s : SX) : Option (Int32 × SX) :=
  bd (fX1_isDead i l2 s) fun v1 s2 =>
  (if v1 = 0 then
  ixg l2 14 fun n3 =>
  vl (gX s2 i 4 n3) fun y4 =>
  ixg l2 14 fun n5 =>
  (if (gX s2 i 1 n5) = 1 then
  some (2 * y4, s2)
  else
  (if (gX s2 i 1 n5) = 2 then
  some (y4 / 2, s2)
  else
  (if (gX s2 i 1 n5) = 3 then
  some ((2 * y4) + 20, s2)
  else
  (if (gX s2 i 1 n5) = 4 then
  some ((if 0 < ((y4 / 2) - 5) then ((y4 / 2) - 5) else 0), s2)
  else
  (if (gX s2 i 1 n5) = 5 then
  (if (l1 &&& ((1 <<< (l2 &&& 31)) ^^^ (-1))) = 0 then
  some (2 * y4, s2)
  else
  some (y4, s2))
  else
  some (y4, s2))))))
  else
  some (0, s2))
set_option maxRecDepth 100000 in
set_option maxHeartbeats 4000000 in
theorem e_X1_lossBeside {G : Cf} {t : SM} {i : Nat} (hi : i < 5) (l1 : Int32) (l2 : Int32) (s : SX) : Ct (wfX t) inI G M_X1_lossBeside [.ref (rb i), .int l1, .int l2] s (fX1_lossBeside i l1 l2 s) := by
  refine Ct.of (L0 := [some (.ref (rb i)), some (.int l1), some (.int l2), none]) 1 rfl rfl ⟨rfl, rfl⟩ (Nat.le_of_ble_eq_true rfl) rfl ?_
  unfold fX1_lossBeside
  refine rr_aload_n (q := 1) rfl dX1_lossBeside_0 rfl ?_
  refine rr_iload_n (q := 2) rfl dX1_lossBeside_1 rfl ?_
  refine rr_cVi (q := 5) rfl V_X1_isDead ml_X1_76 ⟨Nat.le_of_ble_eq_true rfl, Nat.le_of_ble_eq_true rfl⟩ (e_X1_isDead hi l2 s) (w_realm hi) rfl rfl rfl rfl (Nat.le_of_ble_eq_true rfl) dX1_lossBeside_2 (fun v1 s2 => ?_)
  refine rr_if_eq 10 (q := 8) rfl dX1_lossBeside_5 rfl (fun _ => ?_) (fun _ => ?_)
  · refine rr_aload_n (q := 11) rfl dX1_lossBeside_10 rfl ?_
    refine rr_get (q := 14) rfl fl_X1_24 (w_realm hi) rfl dX1_lossBeside_11 ?_
    refine rr_iload_n (q := 15) rfl dX1_lossBeside_14 rfl ?_
    refine rr_iald (q := 16) rfl (w_rarr4 hi) dX1_lossBeside_15 (fun n3 => ?_)
    refine rr_istore_n (L2 := fun y4 => [some (.ref (rb i)), some (.int l1), some (.int l2), some (.int y4)]) (q := 17) rfl dX1_lossBeside_16 (Nat.le_of_ble_eq_true rfl) (fun _ => rfl) (fun y4 => ?_)
    refine rr_aload_n (q := 18) rfl dX1_lossBeside_17 rfl ?_
    refine rr_get (q := 21) rfl fl_X1_15 (w_realm hi) rfl dX1_lossBeside_18 ?_
    refine rr_iload_n (q := 22) rfl dX1_lossBeside_21 rfl ?_
    refine rr_iald (q := 23) rfl (w_rarr1 hi) dX1_lossBeside_22 (fun n5 => ?_)
    refine rr_case 1 ?_ (fun hs6 => ?_)
    · refine rr_tableIn 56 dX1_lossBeside_23 (by decide) (by decide) rfl rfl ?_
      refine rr_iconst 2 (q := 57) rfl dX1_lossBeside_56 rfl ?_
      refine rr_iload_n (q := 58) rfl dX1_lossBeside_57 rfl ?_
      refine rr_imul (q := 59) rfl dX1_lossBeside_58 ?_
      exact rr_iret dX1_lossBeside_59 rfl
    · refine rr_case 2 ?_ (fun hs7 => ?_)
      · refine rr_tableIn 60 dX1_lossBeside_23 (by decide) (by decide) rfl rfl ?_
        refine rr_iload_n (q := 61) rfl dX1_lossBeside_60 rfl ?_
        refine rr_iconst 2 (q := 62) rfl dX1_lossBeside_61 rfl ?_
        refine rr_idiv (q := 63) rfl dX1_lossBeside_62 (by decide) ?_
        exact rr_iret dX1_lossBeside_63 rfl
      · refine rr_case 3 ?_ (fun hs8 => ?_)
        · refine rr_tableIn 64 dX1_lossBeside_23 (by decide) (by decide) rfl rfl ?_
          refine rr_iconst 2 (q := 65) rfl dX1_lossBeside_64 rfl ?_
          refine rr_iload_n (q := 66) rfl dX1_lossBeside_65 rfl ?_
          refine rr_imul (q := 67) rfl dX1_lossBeside_66 ?_
          refine rr_bipush 20 (q := 69) rfl dX1_lossBeside_67 rfl ?_
          refine rr_iadd (q := 70) rfl dX1_lossBeside_69 ?_
          exact rr_iret dX1_lossBeside_70 rfl
        · refine rr_case 4 ?_ (fun hs9 => ?_)
          · refine rr_tableIn 71 dX1_lossBeside_23 (by decide) (by decide) rfl rfl ?_
            refine rr_iconst 0 (q := 72) rfl dX1_lossBeside_71 rfl ?_
            refine rr_iload_n (q := 73) rfl dX1_lossBeside_72 rfl ?_
            refine rr_iconst 2 (q := 74) rfl dX1_lossBeside_73 rfl ?_
            refine rr_idiv (q := 75) rfl dX1_lossBeside_74 (by decide) ?_
            refine rr_iconst 5 (q := 76) rfl dX1_lossBeside_75 rfl ?_
            refine rr_isub (q := 77) rfl dX1_lossBeside_76 ?_
            refine rr_max (q := 80) rfl ml_X1_79 (Nat.le_of_ble_eq_true rfl) (Nat.le_of_ble_eq_true rfl) dX1_lossBeside_77 ?_
            exact rr_iret dX1_lossBeside_80 rfl
          · refine rr_case 5 ?_ (fun hs10 => ?_)
            · refine rr_tableIn 81 dX1_lossBeside_23 (by decide) (by decide) rfl rfl ?_
              refine rr_iload_n (q := 82) rfl dX1_lossBeside_81 rfl ?_
              refine rr_iconst 1 (q := 83) rfl dX1_lossBeside_82 rfl ?_
              refine rr_iload_n (q := 84) rfl dX1_lossBeside_83 rfl ?_
              refine rr_ishl (q := 85) rfl dX1_lossBeside_84 ?_
              refine rr_iconst (-1) (q := 86) rfl dX1_lossBeside_85 rfl ?_
              refine rr_ixor (q := 87) rfl dX1_lossBeside_86 ?_
              refine rr_iand (q := 88) rfl dX1_lossBeside_87 ?_
              refine rr_if_eq 95 (q := 91) rfl dX1_lossBeside_88 rfl (fun _ => ?_) (fun _ => ?_)
              · refine rr_iconst 2 (q := 96) rfl dX1_lossBeside_95 rfl ?_
                refine rr_iload_n (q := 97) rfl dX1_lossBeside_96 rfl ?_
                refine rr_imul (q := 98) rfl dX1_lossBeside_97 ?_
                exact rr_iret dX1_lossBeside_98 rfl
              · refine rr_iload_n (q := 92) rfl dX1_lossBeside_91 rfl ?_
                refine rr_goto 98 dX1_lossBeside_92 rfl ?_
                exact rr_iret dX1_lossBeside_98 rfl
            · refine rr_tableOut 99 dX1_lossBeside_23 (by have ahs6 := ne_lit (n := 1) hs6 rfl; have ahs7 := ne_lit (n := 2) hs7 rfl; have ahs8 := ne_lit (n := 3) hs8 rfl; have ahs9 := ne_lit (n := 4) hs9 rfl; have ahs10 := ne_lit (n := 5) hs10 rfl; omega) rfl ?_
              refine rr_iload_n (q := 100) rfl dX1_lossBeside_99 rfl ?_
              exact rr_iret dX1_lossBeside_100 rfl
  · refine rr_iconst 0 (q := 9) rfl dX1_lossBeside_8 rfl ?_
    exact rr_iret dX1_lossBeside_9 rfl
def fX1_lossOf (i : Nat) (l1 : Int32) (s : SX) : Option (Int32 × SX) :=
  ixg l1 14 fun n1 =>
  bd (fX1_twinsAtHome i (gX s i 2 n1) s) fun v2 s3 =>
  bd (fX1_lossBeside i v2 l1 s3) fun v4 s5 =>
  some (v4, s5)
set_option maxRecDepth 100000 in
set_option maxHeartbeats 4000000 in
theorem e_X1_lossOf {G : Cf} {t : SM} {i : Nat} (hi : i < 5) (l1 : Int32) (s : SX) : Ct (wfX t) inI G M_X1_lossOf [.ref (rb i), .int l1] s (fX1_lossOf i l1 s) := by
  refine Ct.of (L0 := [some (.ref (rb i)), some (.int l1)]) 0 rfl rfl ⟨rfl, rfl⟩ (Nat.le_of_ble_eq_true rfl) rfl ?_
  unfold fX1_lossOf
  refine rr_aload_n (q := 1) rfl dX1_lossOf_0 rfl ?_
  refine rr_aload_n (q := 2) rfl dX1_lossOf_1 rfl ?_
  refine rr_aload_n (q := 3) rfl dX1_lossOf_2 rfl ?_
  refine rr_get (q := 6) rfl fl_X1_18 (w_realm hi) rfl dX1_lossOf_3 ?_
  refine rr_iload_n (q := 7) rfl dX1_lossOf_6 rfl ?_
  refine rr_iald (q := 8) rfl (w_rarr2 hi) dX1_lossOf_7 (fun n1 => ?_)
  refine rr_cVi (q := 11) rfl V_X1_twinsAtHome ml_X1_68 ⟨Nat.le_of_ble_eq_true rfl, Nat.le_of_ble_eq_true rfl⟩ (e_X1_twinsAtHome hi (gX s i 2 n1) s) (w_realm hi) rfl rfl rfl rfl (Nat.le_of_ble_eq_true rfl) dX1_lossOf_8 (fun v2 s3 => ?_)
  refine rr_iload_n (q := 12) rfl dX1_lossOf_11 rfl ?_
  refine rr_cVi (q := 15) rfl V_X1_lossBeside ml_X1_72 ⟨Nat.le_of_ble_eq_true rfl, Nat.le_of_ble_eq_true rfl⟩ (e_X1_lossBeside hi v2 l1 s3) (w_realm hi) rfl rfl rfl rfl (Nat.le_of_ble_eq_true rfl) dX1_lossOf_12 (fun v4 s5 => ?_)
  exact rr_iret dX1_lossOf_15 rfl
def fX1_rolledHolder (i : Nat) (l1 : Int32) (s : SX) : Option (Int32 × SX) :=
  bd (fX1_isDead i l1 s) fun v1 s2 =>
  (if v1 = 0 then
  ixg l1 14 fun n3 =>
  some (gX s2 i 3 n3, s2)
  else
  some ((-1), s2))
set_option maxRecDepth 100000 in
set_option maxHeartbeats 4000000 in
theorem e_X1_rolledHolder {G : Cf} {t : SM} {i : Nat} (hi : i < 5) (l1 : Int32) (s : SX) : Ct (wfX t) inI G M_X1_rolledHolder [.ref (rb i), .int l1] s (fX1_rolledHolder i l1 s) := by
  refine Ct.of (L0 := [some (.ref (rb i)), some (.int l1)]) 0 rfl rfl ⟨rfl, rfl⟩ (Nat.le_of_ble_eq_true rfl) rfl ?_
  unfold fX1_rolledHolder
  refine rr_aload_n (q := 1) rfl dX1_rolledHolder_0 rfl ?_
  refine rr_iload_n (q := 2) rfl dX1_rolledHolder_1 rfl ?_
  refine rr_cVi (q := 5) rfl V_X1_isDead ml_X1_76 ⟨Nat.le_of_ble_eq_true rfl, Nat.le_of_ble_eq_true rfl⟩ (e_X1_isDead hi l1 s) (w_realm hi) rfl rfl rfl rfl (Nat.le_of_ble_eq_true rfl) dX1_rolledHolder_2 (fun v1 s2 => ?_)
  refine rr_if_eq 12 (q := 8) rfl dX1_rolledHolder_5 rfl (fun _ => ?_) (fun _ => ?_)
  · refine rr_aload_n (q := 13) rfl dX1_rolledHolder_12 rfl ?_
    refine rr_get (q := 16) rfl fl_X1_21 (w_realm hi) rfl dX1_rolledHolder_13 ?_
    refine rr_iload_n (q := 17) rfl dX1_rolledHolder_16 rfl ?_
    refine rr_iald (q := 18) rfl (w_rarr3 hi) dX1_rolledHolder_17 (fun n3 => ?_)
    exact rr_iret dX1_rolledHolder_18 rfl
  · refine rr_iconst (-1) (q := 9) rfl dX1_rolledHolder_8 rfl ?_
    refine rr_goto 18 dX1_rolledHolder_9 rfl ?_
    exact rr_iret dX1_rolledHolder_18 rfl
def fX1_heldBy_52 (i : Nat) (k5 : Int32 → Int32 → Int32 → Int32 → SX → Option (Int32 × SX)) (l1 : Int32) (l2 : Int32) (l3 : Int32) (l4 : Int32) (s : SX) : Option (Int32 × SX) :=
  vl (l4 + 1) fun y8 =>
  k5 l1 l2 l3 y8 s
set_option maxRecDepth 100000 in
set_option maxHeartbeats 4000000 in
theorem e_X1_heldBy_52 {G : Cf} {t : SM} {i : Nat} (hi : i < 5) {k5 : Int32 → Int32 → Int32 → Int32 → SX → Option (Int32 × SX)} (hk5 : ∀ (l1 : Int32) (l2 : Int32) (l3 : Int32) (l4 : Int32) (s : SX), R (wfX t) inI G M_X1_heldBy 5 [some (.ref (rb i)), some (.int l1), some (.int l2), some (.int l3), some (.int l4)] [] s (k5 l1 l2 l3 l4 s)) (l1 : Int32) (l2 : Int32) (l3 : Int32) (l4 : Int32) (s : SX) : R (wfX t) inI G M_X1_heldBy 52 [some (.ref (rb i)), some (.int l1), some (.int l2), some (.int l3), some (.int l4)] [] s (fX1_heldBy_52 i k5 l1 l2 l3 l4 s) := by
  unfold fX1_heldBy_52
  refine rr_iinc (L2 := fun y8 => [some (.ref (rb i)), some (.int l1), some (.int l2), some (.int l3), some (.int y8)]) (q := 55) rfl dX1_heldBy_52 rfl rfl (Nat.le_of_ble_eq_true rfl) (fun _ => rfl) (fun y8 => ?_)
  refine rr_goto 5 dX1_heldBy_55 rfl ?_
  exact hk5 l1 l2 l3 y8 s
def fX1_heldBy_5b (i : Nat) (k5 : Int32 → Int32 → Int32 → Int32 → SX → Option (Int32 × SX)) (l1 : Int32) (l2 : Int32) (l3 : Int32) (l4 : Int32) (s : SX) : Option (Int32 × SX) :=
  (if (gX s i 10 10) ≤ l4 then
  some (l3, s)
  else
  ixg l4 14 fun n3 =>
  (if (gX s i 3 n3) = l1 then
  ixg l4 14 fun n4 =>
  (if (gX s i 2 n4) = l2 then
  bd (fX1_isDead i l4 s) fun v5 s6 =>
  (if v5 = 0 then
  vl (l3 ||| (1 <<< (l4 &&& 31))) fun y7 =>
  fX1_heldBy_52 i k5 l1 l2 y7 l4 s6
  else
  fX1_heldBy_52 i k5 l1 l2 l3 l4 s6)
  else
  fX1_heldBy_52 i k5 l1 l2 l3 l4 s)
  else
  fX1_heldBy_52 i k5 l1 l2 l3 l4 s))
set_option maxRecDepth 100000 in
set_option maxHeartbeats 4000000 in
theorem e_X1_heldBy_5b {G : Cf} {t : SM} {i : Nat} (hi : i < 5) {k5 : Int32 → Int32 → Int32 → Int32 → SX → Option (Int32 × SX)} (hk5 : ∀ (l1 : Int32) (l2 : Int32) (l3 : Int32) (l4 : Int32) (s : SX), R (wfX t) inI G M_X1_heldBy 5 [some (.ref (rb i)), some (.int l1), some (.int l2), some (.int l3), some (.int l4)] [] s (k5 l1 l2 l3 l4 s)) (l1 : Int32) (l2 : Int32) (l3 : Int32) (l4 : Int32) (s : SX) : R (wfX t) inI G M_X1_heldBy 5 [some (.ref (rb i)), some (.int l1), some (.int l2), some (.int l3), some (.int l4)] [] s (fX1_heldBy_5b i k5 l1 l2 l3 l4 s) := by
  unfold fX1_heldBy_5b
  refine rr_iload (q := 7) rfl dX1_heldBy_5 rfl ?_
  refine rr_aload_n (q := 8) rfl dX1_heldBy_7 rfl ?_
  refine rr_get (q := 11) rfl fl_X1_48 (w_realm hi) rfl dX1_heldBy_8 ?_
  refine rr_icmp_ge 58 (q := 14) rfl dX1_heldBy_11 rfl (fun _ => ?_) (fun _ => ?_)
  · refine rr_iload_n (q := 59) rfl dX1_heldBy_58 rfl ?_
    exact rr_iret dX1_heldBy_59 rfl
  · refine rr_aload_n (q := 15) rfl dX1_heldBy_14 rfl ?_
    refine rr_get (q := 18) rfl fl_X1_21 (w_realm hi) rfl dX1_heldBy_15 ?_
    refine rr_iload (q := 20) rfl dX1_heldBy_18 rfl ?_
    refine rr_iald (q := 21) rfl (w_rarr3 hi) dX1_heldBy_20 (fun n3 => ?_)
    refine rr_iload_n (q := 22) rfl dX1_heldBy_21 rfl ?_
    refine rr_icmp_ne 52 (q := 25) rfl dX1_heldBy_22 rfl (fun _ => ?_) (fun _ => ?_)
    · exact e_X1_heldBy_52 hi hk5 l1 l2 l3 l4 s
    · refine rr_aload_n (q := 26) rfl dX1_heldBy_25 rfl ?_
      refine rr_get (q := 29) rfl fl_X1_18 (w_realm hi) rfl dX1_heldBy_26 ?_
      refine rr_iload (q := 31) rfl dX1_heldBy_29 rfl ?_
      refine rr_iald (q := 32) rfl (w_rarr2 hi) dX1_heldBy_31 (fun n4 => ?_)
      refine rr_iload_n (q := 33) rfl dX1_heldBy_32 rfl ?_
      refine rr_icmp_ne 52 (q := 36) rfl dX1_heldBy_33 rfl (fun _ => ?_) (fun _ => ?_)
      · exact e_X1_heldBy_52 hi hk5 l1 l2 l3 l4 s
      · refine rr_aload_n (q := 37) rfl dX1_heldBy_36 rfl ?_
        refine rr_iload (q := 39) rfl dX1_heldBy_37 rfl ?_
        refine rr_cVi (q := 42) rfl V_X1_isDead ml_X1_76 ⟨Nat.le_of_ble_eq_true rfl, Nat.le_of_ble_eq_true rfl⟩ (e_X1_isDead hi l4 s) (w_realm hi) rfl rfl rfl rfl (Nat.le_of_ble_eq_true rfl) dX1_heldBy_39 (fun v5 s6 => ?_)
        refine rr_if_ne 52 (q := 45) rfl dX1_heldBy_42 rfl (fun _ => ?_) (fun _ => ?_)
        · exact e_X1_heldBy_52 hi hk5 l1 l2 l3 l4 s6
        · refine rr_iload_n (q := 46) rfl dX1_heldBy_45 rfl ?_
          refine rr_iconst 1 (q := 47) rfl dX1_heldBy_46 rfl ?_
          refine rr_iload (q := 49) rfl dX1_heldBy_47 rfl ?_
          refine rr_ishl (q := 50) rfl dX1_heldBy_49 ?_
          refine rr_ior (q := 51) rfl dX1_heldBy_50 ?_
          refine rr_istore_n (L2 := fun y7 => [some (.ref (rb i)), some (.int l1), some (.int l2), some (.int y7), some (.int l4)]) (q := 52) rfl dX1_heldBy_51 (Nat.le_of_ble_eq_true rfl) (fun _ => rfl) (fun y7 => ?_)
          exact e_X1_heldBy_52 hi hk5 l1 l2 y7 l4 s6
def fX1_heldBy_5 (i : Nat) : Nat → Int32 → Int32 → Int32 → Int32 → SX → Option (Int32 × SX) := lp (fun _ _ _ _ _ => none) (fX1_heldBy_5b i)
theorem e_X1_heldBy_5 {G : Cf} {t : SM} {i : Nat} (hi : i < 5)  (n : Nat) : ∀ (l1 : Int32) (l2 : Int32) (l3 : Int32) (l4 : Int32) (s : SX), R (wfX t) inI G M_X1_heldBy 5 [some (.ref (rb i)), some (.int l1), some (.int l2), some (.int l3), some (.int l4)] [] s (fX1_heldBy_5 i n l1 l2 l3 l4 s) := by
  unfold fX1_heldBy_5
  exact rr_lp (P := fun (kz : Int32 → Int32 → Int32 → Int32 → SX → Option (Int32 × SX)) => ∀ (l1 : Int32) (l2 : Int32) (l3 : Int32) (l4 : Int32) (s : SX), R (wfX t) inI G M_X1_heldBy 5 [some (.ref (rb i)), some (.int l1), some (.int l2), some (.int l3), some (.int l4)] [] s (kz l1 l2 l3 l4 s)) (fun _ _ _ _ _ => rr_none) (fun kz hkz => fun l1 l2 l3 l4 s => e_X1_heldBy_5b hi hkz l1 l2 l3 l4 s) n
def fX1_heldBy (i : Nat) (l1 : Int32) (l2 : Int32) (s : SX) : Option (Int32 × SX) :=
  vl 0 fun y1 =>
  vl 0 fun y2 =>
  fX1_heldBy_5 i 400 l1 l2 y1 y2 s
set_option maxRecDepth 100000 in
set_option maxHeartbeats 4000000 in
theorem e_X1_heldBy {G : Cf} {t : SM} {i : Nat} (hi : i < 5) (l1 : Int32) (l2 : Int32) (s : SX) : Ct (wfX t) inI G M_X1_heldBy [.ref (rb i), .int l1, .int l2] s (fX1_heldBy i l1 l2 s) := by
  refine Ct.of (L0 := [some (.ref (rb i)), some (.int l1), some (.int l2), none, none]) 2 rfl rfl ⟨rfl, rfl⟩ (Nat.le_of_ble_eq_true rfl) rfl ?_
  unfold fX1_heldBy
  refine rr_iconst 0 (q := 1) rfl dX1_heldBy_0 rfl ?_
  refine rr_istore_n (L2 := fun y1 => [some (.ref (rb i)), some (.int l1), some (.int l2), some (.int y1), none]) (q := 2) rfl dX1_heldBy_1 (Nat.le_of_ble_eq_true rfl) (fun _ => rfl) (fun y1 => ?_)
  refine rr_iconst 0 (q := 3) rfl dX1_heldBy_2 rfl ?_
  refine rr_istore (L2 := fun y2 => [some (.ref (rb i)), some (.int l1), some (.int l2), some (.int y1), some (.int y2)]) (q := 5) rfl dX1_heldBy_3 (Nat.le_of_ble_eq_true rfl) (fun _ => rfl) (fun y2 => ?_)
  exact e_X1_heldBy_5 hi 400 l1 l2 y1 y2 s
def fX1_living (i : Nat) (s : SX) : Option (Int32 × SX) :=
  some (((1 <<< ((gX s i 10 10) &&& 31)) - 1) &&& ((gX s i 10 12) ^^^ (-1)), s)
set_option maxRecDepth 100000 in
set_option maxHeartbeats 4000000 in
theorem e_X1_living {G : Cf} {t : SM} {i : Nat} (hi : i < 5) (s : SX) : Ct (wfX t) inI G M_X1_living [.ref (rb i)] s (fX1_living i s) := by
  refine Ct.of (L0 := [some (.ref (rb i))]) 0 rfl rfl ⟨rfl, rfl⟩ (Nat.le_of_ble_eq_true rfl) rfl ?_
  unfold fX1_living
  refine rr_iconst 1 (q := 1) rfl dX1_living_0 rfl ?_
  refine rr_aload_n (q := 2) rfl dX1_living_1 rfl ?_
  refine rr_get (q := 5) rfl fl_X1_48 (w_realm hi) rfl dX1_living_2 ?_
  refine rr_ishl (q := 6) rfl dX1_living_5 ?_
  refine rr_iconst 1 (q := 7) rfl dX1_living_6 rfl ?_
  refine rr_isub (q := 8) rfl dX1_living_7 ?_
  refine rr_aload_n (q := 9) rfl dX1_living_8 rfl ?_
  refine rr_get (q := 12) rfl fl_X1_55 (w_realm hi) rfl dX1_living_9 ?_
  refine rr_iconst (-1) (q := 13) rfl dX1_living_12 rfl ?_
  refine rr_ixor (q := 14) rfl dX1_living_13 ?_
  refine rr_iand (q := 15) rfl dX1_living_14 ?_
  exact rr_iret dX1_living_15 rfl
def fX1_livingAtHome_4b (i : Nat) (k4 : Int32 → Int32 → SX → Option (Int32 × SX)) (l1 : Int32) (l2 : Int32) (s : SX) : Option (Int32 × SX) :=
  (if 6 ≤ l2 then
  some (l1, s)
  else
  bd (fX1_heldBy i l2 l2 s) fun v3 s4 =>
  vl (l1 ||| v3) fun y5 =>
  vl (l2 + 1) fun y6 =>
  k4 y5 y6 s4)
set_option maxRecDepth 100000 in
set_option maxHeartbeats 4000000 in
theorem e_X1_livingAtHome_4b {G : Cf} {t : SM} {i : Nat} (hi : i < 5) {k4 : Int32 → Int32 → SX → Option (Int32 × SX)} (hk4 : ∀ (l1 : Int32) (l2 : Int32) (s : SX), R (wfX t) inI G M_X1_livingAtHome 4 [some (.ref (rb i)), some (.int l1), some (.int l2)] [] s (k4 l1 l2 s)) (l1 : Int32) (l2 : Int32) (s : SX) : R (wfX t) inI G M_X1_livingAtHome 4 [some (.ref (rb i)), some (.int l1), some (.int l2)] [] s (fX1_livingAtHome_4b i k4 l1 l2 s) := by
  unfold fX1_livingAtHome_4b
  refine rr_iload_n (q := 5) rfl dX1_livingAtHome_4 rfl ?_
  refine rr_bipush 6 (q := 7) rfl dX1_livingAtHome_5 rfl ?_
  refine rr_icmp_ge 25 (q := 10) rfl dX1_livingAtHome_7 rfl (fun _ => ?_) (fun _ => ?_)
  · refine rr_iload_n (q := 26) rfl dX1_livingAtHome_25 rfl ?_
    exact rr_iret dX1_livingAtHome_26 rfl
  · refine rr_iload_n (q := 11) rfl dX1_livingAtHome_10 rfl ?_
    refine rr_aload_n (q := 12) rfl dX1_livingAtHome_11 rfl ?_
    refine rr_iload_n (q := 13) rfl dX1_livingAtHome_12 rfl ?_
    refine rr_iload_n (q := 14) rfl dX1_livingAtHome_13 rfl ?_
    refine rr_cVi (q := 17) rfl V_X1_heldBy ml_X1_84 ⟨Nat.le_of_ble_eq_true rfl, Nat.le_of_ble_eq_true rfl⟩ (e_X1_heldBy hi l2 l2 s) (w_realm hi) rfl rfl rfl rfl (Nat.le_of_ble_eq_true rfl) dX1_livingAtHome_14 (fun v3 s4 => ?_)
    refine rr_ior (q := 18) rfl dX1_livingAtHome_17 ?_
    refine rr_istore_n (L2 := fun y5 => [some (.ref (rb i)), some (.int y5), some (.int l2)]) (q := 19) rfl dX1_livingAtHome_18 (Nat.le_of_ble_eq_true rfl) (fun _ => rfl) (fun y5 => ?_)
    refine rr_iinc (L2 := fun y6 => [some (.ref (rb i)), some (.int y5), some (.int y6)]) (q := 22) rfl dX1_livingAtHome_19 rfl rfl (Nat.le_of_ble_eq_true rfl) (fun _ => rfl) (fun y6 => ?_)
    refine rr_goto 4 dX1_livingAtHome_22 rfl ?_
    exact hk4 y5 y6 s4
def fX1_livingAtHome_4 (i : Nat) : Nat → Int32 → Int32 → SX → Option (Int32 × SX) := lp (fun _ _ _ => none) (fX1_livingAtHome_4b i)
theorem e_X1_livingAtHome_4 {G : Cf} {t : SM} {i : Nat} (hi : i < 5)  (n : Nat) : ∀ (l1 : Int32) (l2 : Int32) (s : SX), R (wfX t) inI G M_X1_livingAtHome 4 [some (.ref (rb i)), some (.int l1), some (.int l2)] [] s (fX1_livingAtHome_4 i n l1 l2 s) := by
  unfold fX1_livingAtHome_4
  exact rr_lp (P := fun (kz : Int32 → Int32 → SX → Option (Int32 × SX)) => ∀ (l1 : Int32) (l2 : Int32) (s : SX), R (wfX t) inI G M_X1_livingAtHome 4 [some (.ref (rb i)), some (.int l1), some (.int l2)] [] s (kz l1 l2 s)) (fun _ _ _ => rr_none) (fun kz hkz => fun l1 l2 s => e_X1_livingAtHome_4b hi hkz l1 l2 s) n
def fX1_livingAtHome (i : Nat) (s : SX) : Option (Int32 × SX) :=
  vl 0 fun y1 =>
  vl 0 fun y2 =>
  fX1_livingAtHome_4 i 400 y1 y2 s
set_option maxRecDepth 100000 in
set_option maxHeartbeats 4000000 in
theorem e_X1_livingAtHome {G : Cf} {t : SM} {i : Nat} (hi : i < 5) (s : SX) : Ct (wfX t) inI G M_X1_livingAtHome [.ref (rb i)] s (fX1_livingAtHome i s) := by
  refine Ct.of (L0 := [some (.ref (rb i)), none, none]) 2 rfl rfl ⟨rfl, rfl⟩ (Nat.le_of_ble_eq_true rfl) rfl ?_
  unfold fX1_livingAtHome
  refine rr_iconst 0 (q := 1) rfl dX1_livingAtHome_0 rfl ?_
  refine rr_istore_n (L2 := fun y1 => [some (.ref (rb i)), some (.int y1), none]) (q := 2) rfl dX1_livingAtHome_1 (Nat.le_of_ble_eq_true rfl) (fun _ => rfl) (fun y1 => ?_)
  refine rr_iconst 0 (q := 3) rfl dX1_livingAtHome_2 rfl ?_
  refine rr_istore_n (L2 := fun y2 => [some (.ref (rb i)), some (.int y1), some (.int y2)]) (q := 4) rfl dX1_livingAtHome_3 (Nat.le_of_ble_eq_true rfl) (fun _ => rfl) (fun y2 => ?_)
  exact e_X1_livingAtHome_4 hi 400 y1 y2 s
def fX1_childrenOf_36 (i : Nat) (k4 : Int32 → Int32 → Int32 → SX → Option (Int32 × SX)) (l1 : Int32) (l2 : Int32) (l3 : Int32) (s : SX) : Option (Int32 × SX) :=
  vl (l3 + 1) fun y7 =>
  k4 l1 l2 y7 s
set_option maxRecDepth 100000 in
set_option maxHeartbeats 4000000 in
theorem e_X1_childrenOf_36 {G : Cf} {t : SM} {i : Nat} (hi : i < 5) {k4 : Int32 → Int32 → Int32 → SX → Option (Int32 × SX)} (hk4 : ∀ (l1 : Int32) (l2 : Int32) (l3 : Int32) (s : SX), R (wfX t) inI G M_X1_childrenOf 4 [some (.ref (rb i)), some (.int l1), some (.int l2), some (.int l3)] [] s (k4 l1 l2 l3 s)) (l1 : Int32) (l2 : Int32) (l3 : Int32) (s : SX) : R (wfX t) inI G M_X1_childrenOf 36 [some (.ref (rb i)), some (.int l1), some (.int l2), some (.int l3)] [] s (fX1_childrenOf_36 i k4 l1 l2 l3 s) := by
  unfold fX1_childrenOf_36
  refine rr_iinc (L2 := fun y7 => [some (.ref (rb i)), some (.int l1), some (.int l2), some (.int y7)]) (q := 39) rfl dX1_childrenOf_36 rfl rfl (Nat.le_of_ble_eq_true rfl) (fun _ => rfl) (fun y7 => ?_)
  refine rr_goto 4 dX1_childrenOf_39 rfl ?_
  exact hk4 l1 l2 y7 s
def fX1_childrenOf_4b (i : Nat) (k4 : Int32 → Int32 → Int32 → SX → Option (Int32 × SX)) (l1 : Int32) (l2 : Int32) (l3 : Int32) (s : SX) : Option (Int32 × SX) :=
  (if (gX s i 10 10) ≤ l3 then
  some (l2, s)
  else
  ixg l3 14 fun n3 =>
  (if (gX s i 2 n3) = l1 then
  bd (fX1_isDead i l3 s) fun v4 s5 =>
  (if v4 = 0 then
  vl (l2 ||| (1 <<< (l3 &&& 31))) fun y6 =>
  fX1_childrenOf_36 i k4 l1 y6 l3 s5
  else
  fX1_childrenOf_36 i k4 l1 l2 l3 s5)
  else
  fX1_childrenOf_36 i k4 l1 l2 l3 s))
set_option maxRecDepth 100000 in
set_option maxHeartbeats 4000000 in
theorem e_X1_childrenOf_4b {G : Cf} {t : SM} {i : Nat} (hi : i < 5) {k4 : Int32 → Int32 → Int32 → SX → Option (Int32 × SX)} (hk4 : ∀ (l1 : Int32) (l2 : Int32) (l3 : Int32) (s : SX), R (wfX t) inI G M_X1_childrenOf 4 [some (.ref (rb i)), some (.int l1), some (.int l2), some (.int l3)] [] s (k4 l1 l2 l3 s)) (l1 : Int32) (l2 : Int32) (l3 : Int32) (s : SX) : R (wfX t) inI G M_X1_childrenOf 4 [some (.ref (rb i)), some (.int l1), some (.int l2), some (.int l3)] [] s (fX1_childrenOf_4b i k4 l1 l2 l3 s) := by
  unfold fX1_childrenOf_4b
  refine rr_iload_n (q := 5) rfl dX1_childrenOf_4 rfl ?_
  refine rr_aload_n (q := 6) rfl dX1_childrenOf_5 rfl ?_
  refine rr_get (q := 9) rfl fl_X1_48 (w_realm hi) rfl dX1_childrenOf_6 ?_
  refine rr_icmp_ge 42 (q := 12) rfl dX1_childrenOf_9 rfl (fun _ => ?_) (fun _ => ?_)
  · refine rr_iload_n (q := 43) rfl dX1_childrenOf_42 rfl ?_
    exact rr_iret dX1_childrenOf_43 rfl
  · refine rr_aload_n (q := 13) rfl dX1_childrenOf_12 rfl ?_
    refine rr_get (q := 16) rfl fl_X1_18 (w_realm hi) rfl dX1_childrenOf_13 ?_
    refine rr_iload_n (q := 17) rfl dX1_childrenOf_16 rfl ?_
    refine rr_iald (q := 18) rfl (w_rarr2 hi) dX1_childrenOf_17 (fun n3 => ?_)
    refine rr_iload_n (q := 19) rfl dX1_childrenOf_18 rfl ?_
    refine rr_icmp_ne 36 (q := 22) rfl dX1_childrenOf_19 rfl (fun _ => ?_) (fun _ => ?_)
    · exact e_X1_childrenOf_36 hi hk4 l1 l2 l3 s
    · refine rr_aload_n (q := 23) rfl dX1_childrenOf_22 rfl ?_
      refine rr_iload_n (q := 24) rfl dX1_childrenOf_23 rfl ?_
      refine rr_cVi (q := 27) rfl V_X1_isDead ml_X1_76 ⟨Nat.le_of_ble_eq_true rfl, Nat.le_of_ble_eq_true rfl⟩ (e_X1_isDead hi l3 s) (w_realm hi) rfl rfl rfl rfl (Nat.le_of_ble_eq_true rfl) dX1_childrenOf_24 (fun v4 s5 => ?_)
      refine rr_if_ne 36 (q := 30) rfl dX1_childrenOf_27 rfl (fun _ => ?_) (fun _ => ?_)
      · exact e_X1_childrenOf_36 hi hk4 l1 l2 l3 s5
      · refine rr_iload_n (q := 31) rfl dX1_childrenOf_30 rfl ?_
        refine rr_iconst 1 (q := 32) rfl dX1_childrenOf_31 rfl ?_
        refine rr_iload_n (q := 33) rfl dX1_childrenOf_32 rfl ?_
        refine rr_ishl (q := 34) rfl dX1_childrenOf_33 ?_
        refine rr_ior (q := 35) rfl dX1_childrenOf_34 ?_
        refine rr_istore_n (L2 := fun y6 => [some (.ref (rb i)), some (.int l1), some (.int y6), some (.int l3)]) (q := 36) rfl dX1_childrenOf_35 (Nat.le_of_ble_eq_true rfl) (fun _ => rfl) (fun y6 => ?_)
        exact e_X1_childrenOf_36 hi hk4 l1 y6 l3 s5
def fX1_childrenOf_4 (i : Nat) : Nat → Int32 → Int32 → Int32 → SX → Option (Int32 × SX) := lp (fun _ _ _ _ => none) (fX1_childrenOf_4b i)
theorem e_X1_childrenOf_4 {G : Cf} {t : SM} {i : Nat} (hi : i < 5)  (n : Nat) : ∀ (l1 : Int32) (l2 : Int32) (l3 : Int32) (s : SX), R (wfX t) inI G M_X1_childrenOf 4 [some (.ref (rb i)), some (.int l1), some (.int l2), some (.int l3)] [] s (fX1_childrenOf_4 i n l1 l2 l3 s) := by
  unfold fX1_childrenOf_4
  exact rr_lp (P := fun (kz : Int32 → Int32 → Int32 → SX → Option (Int32 × SX)) => ∀ (l1 : Int32) (l2 : Int32) (l3 : Int32) (s : SX), R (wfX t) inI G M_X1_childrenOf 4 [some (.ref (rb i)), some (.int l1), some (.int l2), some (.int l3)] [] s (kz l1 l2 l3 s)) (fun _ _ _ _ => rr_none) (fun kz hkz => fun l1 l2 l3 s => e_X1_childrenOf_4b hi hkz l1 l2 l3 s) n
def fX1_childrenOf (i : Nat) (l1 : Int32) (s : SX) : Option (Int32 × SX) :=
  vl 0 fun y1 =>
  vl 0 fun y2 =>
  fX1_childrenOf_4 i 400 l1 y1 y2 s
set_option maxRecDepth 100000 in
set_option maxHeartbeats 4000000 in
theorem e_X1_childrenOf {G : Cf} {t : SM} {i : Nat} (hi : i < 5) (l1 : Int32) (s : SX) : Ct (wfX t) inI G M_X1_childrenOf [.ref (rb i), .int l1] s (fX1_childrenOf i l1 s) := by
  refine Ct.of (L0 := [some (.ref (rb i)), some (.int l1), none, none]) 2 rfl rfl ⟨rfl, rfl⟩ (Nat.le_of_ble_eq_true rfl) rfl ?_
  unfold fX1_childrenOf
  refine rr_iconst 0 (q := 1) rfl dX1_childrenOf_0 rfl ?_
  refine rr_istore_n (L2 := fun y1 => [some (.ref (rb i)), some (.int l1), some (.int y1), none]) (q := 2) rfl dX1_childrenOf_1 (Nat.le_of_ble_eq_true rfl) (fun _ => rfl) (fun y1 => ?_)
  refine rr_iconst 0 (q := 3) rfl dX1_childrenOf_2 rfl ?_
  refine rr_istore_n (L2 := fun y2 => [some (.ref (rb i)), some (.int l1), some (.int y1), some (.int y2)]) (q := 4) rfl dX1_childrenOf_3 (Nat.le_of_ble_eq_true rfl) (fun _ => rfl) (fun y2 => ?_)
  exact e_X1_childrenOf_4 hi 400 l1 y1 y2 s
def fX1_heldFromOthers_46 (i : Nat) (k4 : Int32 → Int32 → Int32 → SX → Option (Int32 × SX)) (l1 : Int32) (l2 : Int32) (l3 : Int32) (s : SX) : Option (Int32 × SX) :=
  vl (l3 + 1) fun y8 =>
  k4 l1 l2 y8 s
set_option maxRecDepth 100000 in
set_option maxHeartbeats 4000000 in
theorem e_X1_heldFromOthers_46 {G : Cf} {t : SM} {i : Nat} (hi : i < 5) {k4 : Int32 → Int32 → Int32 → SX → Option (Int32 × SX)} (hk4 : ∀ (l1 : Int32) (l2 : Int32) (l3 : Int32) (s : SX), R (wfX t) inI G M_X1_heldFromOthers 4 [some (.ref (rb i)), some (.int l1), some (.int l2), some (.int l3)] [] s (k4 l1 l2 l3 s)) (l1 : Int32) (l2 : Int32) (l3 : Int32) (s : SX) : R (wfX t) inI G M_X1_heldFromOthers 46 [some (.ref (rb i)), some (.int l1), some (.int l2), some (.int l3)] [] s (fX1_heldFromOthers_46 i k4 l1 l2 l3 s) := by
  unfold fX1_heldFromOthers_46
  refine rr_iinc (L2 := fun y8 => [some (.ref (rb i)), some (.int l1), some (.int l2), some (.int y8)]) (q := 49) rfl dX1_heldFromOthers_46 rfl rfl (Nat.le_of_ble_eq_true rfl) (fun _ => rfl) (fun y8 => ?_)
  refine rr_goto 4 dX1_heldFromOthers_49 rfl ?_
  exact hk4 l1 l2 y8 s
def fX1_heldFromOthers_4b (i : Nat) (k4 : Int32 → Int32 → Int32 → SX → Option (Int32 × SX)) (l1 : Int32) (l2 : Int32) (l3 : Int32) (s : SX) : Option (Int32 × SX) :=
  (if (gX s i 10 10) ≤ l3 then
  some (l2, s)
  else
  ixg l3 14 fun n3 =>
  (if (gX s i 3 n3) = l1 then
  ixg l3 14 fun n4 =>
  (if (gX s i 2 n4) = l1 then
  fX1_heldFromOthers_46 i k4 l1 l2 l3 s
  else
  bd (fX1_isDead i l3 s) fun v5 s6 =>
  (if v5 = 0 then
  vl (l2 ||| (1 <<< (l3 &&& 31))) fun y7 =>
  fX1_heldFromOthers_46 i k4 l1 y7 l3 s6
  else
  fX1_heldFromOthers_46 i k4 l1 l2 l3 s6))
  else
  fX1_heldFromOthers_46 i k4 l1 l2 l3 s))
set_option maxRecDepth 100000 in
set_option maxHeartbeats 4000000 in
theorem e_X1_heldFromOthers_4b {G : Cf} {t : SM} {i : Nat} (hi : i < 5) {k4 : Int32 → Int32 → Int32 → SX → Option (Int32 × SX)} (hk4 : ∀ (l1 : Int32) (l2 : Int32) (l3 : Int32) (s : SX), R (wfX t) inI G M_X1_heldFromOthers 4 [some (.ref (rb i)), some (.int l1), some (.int l2), some (.int l3)] [] s (k4 l1 l2 l3 s)) (l1 : Int32) (l2 : Int32) (l3 : Int32) (s : SX) : R (wfX t) inI G M_X1_heldFromOthers 4 [some (.ref (rb i)), some (.int l1), some (.int l2), some (.int l3)] [] s (fX1_heldFromOthers_4b i k4 l1 l2 l3 s) := by
  unfold fX1_heldFromOthers_4b
  refine rr_iload_n (q := 5) rfl dX1_heldFromOthers_4 rfl ?_
  refine rr_aload_n (q := 6) rfl dX1_heldFromOthers_5 rfl ?_
  refine rr_get (q := 9) rfl fl_X1_48 (w_realm hi) rfl dX1_heldFromOthers_6 ?_
  refine rr_icmp_ge 52 (q := 12) rfl dX1_heldFromOthers_9 rfl (fun _ => ?_) (fun _ => ?_)
  · refine rr_iload_n (q := 53) rfl dX1_heldFromOthers_52 rfl ?_
    exact rr_iret dX1_heldFromOthers_53 rfl
  · refine rr_aload_n (q := 13) rfl dX1_heldFromOthers_12 rfl ?_
    refine rr_get (q := 16) rfl fl_X1_21 (w_realm hi) rfl dX1_heldFromOthers_13 ?_
    refine rr_iload_n (q := 17) rfl dX1_heldFromOthers_16 rfl ?_
    refine rr_iald (q := 18) rfl (w_rarr3 hi) dX1_heldFromOthers_17 (fun n3 => ?_)
    refine rr_iload_n (q := 19) rfl dX1_heldFromOthers_18 rfl ?_
    refine rr_icmp_ne 46 (q := 22) rfl dX1_heldFromOthers_19 rfl (fun _ => ?_) (fun _ => ?_)
    · exact e_X1_heldFromOthers_46 hi hk4 l1 l2 l3 s
    · refine rr_aload_n (q := 23) rfl dX1_heldFromOthers_22 rfl ?_
      refine rr_get (q := 26) rfl fl_X1_18 (w_realm hi) rfl dX1_heldFromOthers_23 ?_
      refine rr_iload_n (q := 27) rfl dX1_heldFromOthers_26 rfl ?_
      refine rr_iald (q := 28) rfl (w_rarr2 hi) dX1_heldFromOthers_27 (fun n4 => ?_)
      refine rr_iload_n (q := 29) rfl dX1_heldFromOthers_28 rfl ?_
      refine rr_icmp_eq 46 (q := 32) rfl dX1_heldFromOthers_29 rfl (fun _ => ?_) (fun _ => ?_)
      · exact e_X1_heldFromOthers_46 hi hk4 l1 l2 l3 s
      · refine rr_aload_n (q := 33) rfl dX1_heldFromOthers_32 rfl ?_
        refine rr_iload_n (q := 34) rfl dX1_heldFromOthers_33 rfl ?_
        refine rr_cVi (q := 37) rfl V_X1_isDead ml_X1_76 ⟨Nat.le_of_ble_eq_true rfl, Nat.le_of_ble_eq_true rfl⟩ (e_X1_isDead hi l3 s) (w_realm hi) rfl rfl rfl rfl (Nat.le_of_ble_eq_true rfl) dX1_heldFromOthers_34 (fun v5 s6 => ?_)
        refine rr_if_ne 46 (q := 40) rfl dX1_heldFromOthers_37 rfl (fun _ => ?_) (fun _ => ?_)
        · exact e_X1_heldFromOthers_46 hi hk4 l1 l2 l3 s6
        · refine rr_iload_n (q := 41) rfl dX1_heldFromOthers_40 rfl ?_
          refine rr_iconst 1 (q := 42) rfl dX1_heldFromOthers_41 rfl ?_
          refine rr_iload_n (q := 43) rfl dX1_heldFromOthers_42 rfl ?_
          refine rr_ishl (q := 44) rfl dX1_heldFromOthers_43 ?_
          refine rr_ior (q := 45) rfl dX1_heldFromOthers_44 ?_
          refine rr_istore_n (L2 := fun y7 => [some (.ref (rb i)), some (.int l1), some (.int y7), some (.int l3)]) (q := 46) rfl dX1_heldFromOthers_45 (Nat.le_of_ble_eq_true rfl) (fun _ => rfl) (fun y7 => ?_)
          exact e_X1_heldFromOthers_46 hi hk4 l1 y7 l3 s6
def fX1_heldFromOthers_4 (i : Nat) : Nat → Int32 → Int32 → Int32 → SX → Option (Int32 × SX) := lp (fun _ _ _ _ => none) (fX1_heldFromOthers_4b i)
theorem e_X1_heldFromOthers_4 {G : Cf} {t : SM} {i : Nat} (hi : i < 5)  (n : Nat) : ∀ (l1 : Int32) (l2 : Int32) (l3 : Int32) (s : SX), R (wfX t) inI G M_X1_heldFromOthers 4 [some (.ref (rb i)), some (.int l1), some (.int l2), some (.int l3)] [] s (fX1_heldFromOthers_4 i n l1 l2 l3 s) := by
  unfold fX1_heldFromOthers_4
  exact rr_lp (P := fun (kz : Int32 → Int32 → Int32 → SX → Option (Int32 × SX)) => ∀ (l1 : Int32) (l2 : Int32) (l3 : Int32) (s : SX), R (wfX t) inI G M_X1_heldFromOthers 4 [some (.ref (rb i)), some (.int l1), some (.int l2), some (.int l3)] [] s (kz l1 l2 l3 s)) (fun _ _ _ _ => rr_none) (fun kz hkz => fun l1 l2 l3 s => e_X1_heldFromOthers_4b hi hkz l1 l2 l3 s) n
def fX1_heldFromOthers (i : Nat) (l1 : Int32) (s : SX) : Option (Int32 × SX) :=
  vl 0 fun y1 =>
  vl 0 fun y2 =>
  fX1_heldFromOthers_4 i 400 l1 y1 y2 s
set_option maxRecDepth 100000 in
set_option maxHeartbeats 4000000 in
theorem e_X1_heldFromOthers {G : Cf} {t : SM} {i : Nat} (hi : i < 5) (l1 : Int32) (s : SX) : Ct (wfX t) inI G M_X1_heldFromOthers [.ref (rb i), .int l1] s (fX1_heldFromOthers i l1 s) := by
  refine Ct.of (L0 := [some (.ref (rb i)), some (.int l1), none, none]) 2 rfl rfl ⟨rfl, rfl⟩ (Nat.le_of_ble_eq_true rfl) rfl ?_
  unfold fX1_heldFromOthers
  refine rr_iconst 0 (q := 1) rfl dX1_heldFromOthers_0 rfl ?_
  refine rr_istore_n (L2 := fun y1 => [some (.ref (rb i)), some (.int l1), some (.int y1), none]) (q := 2) rfl dX1_heldFromOthers_1 (Nat.le_of_ble_eq_true rfl) (fun _ => rfl) (fun y1 => ?_)
  refine rr_iconst 0 (q := 3) rfl dX1_heldFromOthers_2 rfl ?_
  refine rr_istore_n (L2 := fun y2 => [some (.ref (rb i)), some (.int l1), some (.int y1), some (.int y2)]) (q := 4) rfl dX1_heldFromOthers_3 (Nat.le_of_ble_eq_true rfl) (fun _ => rfl) (fun y2 => ?_)
  exact e_X1_heldFromOthers_4 hi 400 l1 y1 y2 s
def fX1_pledgeHeld_45 (i : Nat) (k5 : Int32 → Int32 → Int32 → Int32 → SX → Option (Int32 × SX)) (l1 : Int32) (l2 : Int32) (l3 : Int32) (l4 : Int32) (s : SX) : Option (Int32 × SX) :=
  vl (l4 + 1) fun y8 =>
  k5 l1 l2 l3 y8 s
set_option maxRecDepth 100000 in
set_option maxHeartbeats 4000000 in
theorem e_X1_pledgeHeld_45 {G : Cf} {t : SM} {i : Nat} (hi : i < 5) {k5 : Int32 → Int32 → Int32 → Int32 → SX → Option (Int32 × SX)} (hk5 : ∀ (l1 : Int32) (l2 : Int32) (l3 : Int32) (l4 : Int32) (s : SX), R (wfX t) inI G M_X1_pledgeHeld 5 [some (.ref (rb i)), some (.int l1), some (.int l2), some (.int l3), some (.int l4)] [] s (k5 l1 l2 l3 l4 s)) (l1 : Int32) (l2 : Int32) (l3 : Int32) (l4 : Int32) (s : SX) : R (wfX t) inI G M_X1_pledgeHeld 45 [some (.ref (rb i)), some (.int l1), some (.int l2), some (.int l3), some (.int l4)] [] s (fX1_pledgeHeld_45 i k5 l1 l2 l3 l4 s) := by
  unfold fX1_pledgeHeld_45
  refine rr_iinc (L2 := fun y8 => [some (.ref (rb i)), some (.int l1), some (.int l2), some (.int l3), some (.int y8)]) (q := 48) rfl dX1_pledgeHeld_45 rfl rfl (Nat.le_of_ble_eq_true rfl) (fun _ => rfl) (fun y8 => ?_)
  refine rr_goto 5 dX1_pledgeHeld_48 rfl ?_
  exact hk5 l1 l2 l3 y8 s
def fX1_pledgeHeld_5b (i : Nat) (k5 : Int32 → Int32 → Int32 → Int32 → SX → Option (Int32 × SX)) (l1 : Int32) (l2 : Int32) (l3 : Int32) (l4 : Int32) (s : SX) : Option (Int32 × SX) :=
  (if (gX s i 10 10) ≤ l4 then
  some (l3, s)
  else
  ixg l4 14 fun n3 =>
  (if (gX s i 3 n3) = l1 then
  ixg l4 14 fun n4 =>
  (if (gX s i 2 n4) = l2 then
  bd (fX1_lossOf i l4 s) fun v5 s6 =>
  vl (l3 + v5) fun y7 =>
  fX1_pledgeHeld_45 i k5 l1 l2 y7 l4 s6
  else
  fX1_pledgeHeld_45 i k5 l1 l2 l3 l4 s)
  else
  fX1_pledgeHeld_45 i k5 l1 l2 l3 l4 s))
set_option maxRecDepth 100000 in
set_option maxHeartbeats 4000000 in
theorem e_X1_pledgeHeld_5b {G : Cf} {t : SM} {i : Nat} (hi : i < 5) {k5 : Int32 → Int32 → Int32 → Int32 → SX → Option (Int32 × SX)} (hk5 : ∀ (l1 : Int32) (l2 : Int32) (l3 : Int32) (l4 : Int32) (s : SX), R (wfX t) inI G M_X1_pledgeHeld 5 [some (.ref (rb i)), some (.int l1), some (.int l2), some (.int l3), some (.int l4)] [] s (k5 l1 l2 l3 l4 s)) (l1 : Int32) (l2 : Int32) (l3 : Int32) (l4 : Int32) (s : SX) : R (wfX t) inI G M_X1_pledgeHeld 5 [some (.ref (rb i)), some (.int l1), some (.int l2), some (.int l3), some (.int l4)] [] s (fX1_pledgeHeld_5b i k5 l1 l2 l3 l4 s) := by
  unfold fX1_pledgeHeld_5b
  refine rr_iload (q := 7) rfl dX1_pledgeHeld_5 rfl ?_
  refine rr_aload_n (q := 8) rfl dX1_pledgeHeld_7 rfl ?_
  refine rr_get (q := 11) rfl fl_X1_48 (w_realm hi) rfl dX1_pledgeHeld_8 ?_
  refine rr_icmp_ge 51 (q := 14) rfl dX1_pledgeHeld_11 rfl (fun _ => ?_) (fun _ => ?_)
  · refine rr_iload_n (q := 52) rfl dX1_pledgeHeld_51 rfl ?_
    exact rr_iret dX1_pledgeHeld_52 rfl
  · refine rr_aload_n (q := 15) rfl dX1_pledgeHeld_14 rfl ?_
    refine rr_get (q := 18) rfl fl_X1_21 (w_realm hi) rfl dX1_pledgeHeld_15 ?_
    refine rr_iload (q := 20) rfl dX1_pledgeHeld_18 rfl ?_
    refine rr_iald (q := 21) rfl (w_rarr3 hi) dX1_pledgeHeld_20 (fun n3 => ?_)
    refine rr_iload_n (q := 22) rfl dX1_pledgeHeld_21 rfl ?_
    refine rr_icmp_ne 45 (q := 25) rfl dX1_pledgeHeld_22 rfl (fun _ => ?_) (fun _ => ?_)
    · exact e_X1_pledgeHeld_45 hi hk5 l1 l2 l3 l4 s
    · refine rr_aload_n (q := 26) rfl dX1_pledgeHeld_25 rfl ?_
      refine rr_get (q := 29) rfl fl_X1_18 (w_realm hi) rfl dX1_pledgeHeld_26 ?_
      refine rr_iload (q := 31) rfl dX1_pledgeHeld_29 rfl ?_
      refine rr_iald (q := 32) rfl (w_rarr2 hi) dX1_pledgeHeld_31 (fun n4 => ?_)
      refine rr_iload_n (q := 33) rfl dX1_pledgeHeld_32 rfl ?_
      refine rr_icmp_ne 45 (q := 36) rfl dX1_pledgeHeld_33 rfl (fun _ => ?_) (fun _ => ?_)
      · exact e_X1_pledgeHeld_45 hi hk5 l1 l2 l3 l4 s
      · refine rr_iload_n (q := 37) rfl dX1_pledgeHeld_36 rfl ?_
        refine rr_aload_n (q := 38) rfl dX1_pledgeHeld_37 rfl ?_
        refine rr_iload (q := 40) rfl dX1_pledgeHeld_38 rfl ?_
        refine rr_cVi (q := 43) rfl V_X1_lossOf ml_X1_87 ⟨Nat.le_of_ble_eq_true rfl, Nat.le_of_ble_eq_true rfl⟩ (e_X1_lossOf hi l4 s) (w_realm hi) rfl rfl rfl rfl (Nat.le_of_ble_eq_true rfl) dX1_pledgeHeld_40 (fun v5 s6 => ?_)
        refine rr_iadd (q := 44) rfl dX1_pledgeHeld_43 ?_
        refine rr_istore_n (L2 := fun y7 => [some (.ref (rb i)), some (.int l1), some (.int l2), some (.int y7), some (.int l4)]) (q := 45) rfl dX1_pledgeHeld_44 (Nat.le_of_ble_eq_true rfl) (fun _ => rfl) (fun y7 => ?_)
        exact e_X1_pledgeHeld_45 hi hk5 l1 l2 y7 l4 s6
def fX1_pledgeHeld_5 (i : Nat) : Nat → Int32 → Int32 → Int32 → Int32 → SX → Option (Int32 × SX) := lp (fun _ _ _ _ _ => none) (fX1_pledgeHeld_5b i)
theorem e_X1_pledgeHeld_5 {G : Cf} {t : SM} {i : Nat} (hi : i < 5)  (n : Nat) : ∀ (l1 : Int32) (l2 : Int32) (l3 : Int32) (l4 : Int32) (s : SX), R (wfX t) inI G M_X1_pledgeHeld 5 [some (.ref (rb i)), some (.int l1), some (.int l2), some (.int l3), some (.int l4)] [] s (fX1_pledgeHeld_5 i n l1 l2 l3 l4 s) := by
  unfold fX1_pledgeHeld_5
  exact rr_lp (P := fun (kz : Int32 → Int32 → Int32 → Int32 → SX → Option (Int32 × SX)) => ∀ (l1 : Int32) (l2 : Int32) (l3 : Int32) (l4 : Int32) (s : SX), R (wfX t) inI G M_X1_pledgeHeld 5 [some (.ref (rb i)), some (.int l1), some (.int l2), some (.int l3), some (.int l4)] [] s (kz l1 l2 l3 l4 s)) (fun _ _ _ _ _ => rr_none) (fun kz hkz => fun l1 l2 l3 l4 s => e_X1_pledgeHeld_5b hi hkz l1 l2 l3 l4 s) n
def fX1_pledgeHeld (i : Nat) (l1 : Int32) (l2 : Int32) (s : SX) : Option (Int32 × SX) :=
  vl 0 fun y1 =>
  vl 0 fun y2 =>
  fX1_pledgeHeld_5 i 400 l1 l2 y1 y2 s
set_option maxRecDepth 100000 in
set_option maxHeartbeats 4000000 in
theorem e_X1_pledgeHeld {G : Cf} {t : SM} {i : Nat} (hi : i < 5) (l1 : Int32) (l2 : Int32) (s : SX) : Ct (wfX t) inI G M_X1_pledgeHeld [.ref (rb i), .int l1, .int l2] s (fX1_pledgeHeld i l1 l2 s) := by
  refine Ct.of (L0 := [some (.ref (rb i)), some (.int l1), some (.int l2), none, none]) 2 rfl rfl ⟨rfl, rfl⟩ (Nat.le_of_ble_eq_true rfl) rfl ?_
  unfold fX1_pledgeHeld
  refine rr_iconst 0 (q := 1) rfl dX1_pledgeHeld_0 rfl ?_
  refine rr_istore_n (L2 := fun y1 => [some (.ref (rb i)), some (.int l1), some (.int l2), some (.int y1), none]) (q := 2) rfl dX1_pledgeHeld_1 (Nat.le_of_ble_eq_true rfl) (fun _ => rfl) (fun y1 => ?_)
  refine rr_iconst 0 (q := 3) rfl dX1_pledgeHeld_2 rfl ?_
  refine rr_istore (L2 := fun y2 => [some (.ref (rb i)), some (.int l1), some (.int l2), some (.int y1), some (.int y2)]) (q := 5) rfl dX1_pledgeHeld_3 (Nat.le_of_ble_eq_true rfl) (fun _ => rfl) (fun y2 => ?_)
  exact e_X1_pledgeHeld_5 hi 400 l1 l2 y1 y2 s
def fX1_lossesAbroad_35 (i : Nat) (k4 : Int32 → Int32 → SX → Option (Int32 × SX)) (l1 : Int32) (l2 : Int32) (s : SX) : Option (Int32 × SX) :=
  vl (l2 + 1) fun y8 =>
  k4 l1 y8 s
set_option maxRecDepth 100000 in
set_option maxHeartbeats 4000000 in
theorem e_X1_lossesAbroad_35 {G : Cf} {t : SM} {i : Nat} (hi : i < 5) {k4 : Int32 → Int32 → SX → Option (Int32 × SX)} (hk4 : ∀ (l1 : Int32) (l2 : Int32) (s : SX), R (wfX t) inI G M_X1_lossesAbroad 4 [some (.ref (rb i)), some (.int l1), some (.int l2)] [] s (k4 l1 l2 s)) (l1 : Int32) (l2 : Int32) (s : SX) : R (wfX t) inI G M_X1_lossesAbroad 35 [some (.ref (rb i)), some (.int l1), some (.int l2)] [] s (fX1_lossesAbroad_35 i k4 l1 l2 s) := by
  unfold fX1_lossesAbroad_35
  refine rr_iinc (L2 := fun y8 => [some (.ref (rb i)), some (.int l1), some (.int y8)]) (q := 38) rfl dX1_lossesAbroad_35 rfl rfl (Nat.le_of_ble_eq_true rfl) (fun _ => rfl) (fun y8 => ?_)
  refine rr_goto 4 dX1_lossesAbroad_38 rfl ?_
  exact hk4 l1 y8 s
def fX1_lossesAbroad_4b (i : Nat) (k4 : Int32 → Int32 → SX → Option (Int32 × SX)) (l1 : Int32) (l2 : Int32) (s : SX) : Option (Int32 × SX) :=
  (if (gX s i 10 10) ≤ l2 then
  some (l1, s)
  else
  ixg l2 14 fun n3 =>
  ixg l2 14 fun n4 =>
  (if (gX s i 3 n3) = (gX s i 2 n4) then
  fX1_lossesAbroad_35 i k4 l1 l2 s
  else
  bd (fX1_lossOf i l2 s) fun v5 s6 =>
  vl (l1 + v5) fun y7 =>
  fX1_lossesAbroad_35 i k4 y7 l2 s6))
set_option maxRecDepth 100000 in
set_option maxHeartbeats 4000000 in
theorem e_X1_lossesAbroad_4b {G : Cf} {t : SM} {i : Nat} (hi : i < 5) {k4 : Int32 → Int32 → SX → Option (Int32 × SX)} (hk4 : ∀ (l1 : Int32) (l2 : Int32) (s : SX), R (wfX t) inI G M_X1_lossesAbroad 4 [some (.ref (rb i)), some (.int l1), some (.int l2)] [] s (k4 l1 l2 s)) (l1 : Int32) (l2 : Int32) (s : SX) : R (wfX t) inI G M_X1_lossesAbroad 4 [some (.ref (rb i)), some (.int l1), some (.int l2)] [] s (fX1_lossesAbroad_4b i k4 l1 l2 s) := by
  unfold fX1_lossesAbroad_4b
  refine rr_iload_n (q := 5) rfl dX1_lossesAbroad_4 rfl ?_
  refine rr_aload_n (q := 6) rfl dX1_lossesAbroad_5 rfl ?_
  refine rr_get (q := 9) rfl fl_X1_48 (w_realm hi) rfl dX1_lossesAbroad_6 ?_
  refine rr_icmp_ge 41 (q := 12) rfl dX1_lossesAbroad_9 rfl (fun _ => ?_) (fun _ => ?_)
  · refine rr_iload_n (q := 42) rfl dX1_lossesAbroad_41 rfl ?_
    exact rr_iret dX1_lossesAbroad_42 rfl
  · refine rr_aload_n (q := 13) rfl dX1_lossesAbroad_12 rfl ?_
    refine rr_get (q := 16) rfl fl_X1_21 (w_realm hi) rfl dX1_lossesAbroad_13 ?_
    refine rr_iload_n (q := 17) rfl dX1_lossesAbroad_16 rfl ?_
    refine rr_iald (q := 18) rfl (w_rarr3 hi) dX1_lossesAbroad_17 (fun n3 => ?_)
    refine rr_aload_n (q := 19) rfl dX1_lossesAbroad_18 rfl ?_
    refine rr_get (q := 22) rfl fl_X1_18 (w_realm hi) rfl dX1_lossesAbroad_19 ?_
    refine rr_iload_n (q := 23) rfl dX1_lossesAbroad_22 rfl ?_
    refine rr_iald (q := 24) rfl (w_rarr2 hi) dX1_lossesAbroad_23 (fun n4 => ?_)
    refine rr_icmp_eq 35 (q := 27) rfl dX1_lossesAbroad_24 rfl (fun _ => ?_) (fun _ => ?_)
    · exact e_X1_lossesAbroad_35 hi hk4 l1 l2 s
    · refine rr_iload_n (q := 28) rfl dX1_lossesAbroad_27 rfl ?_
      refine rr_aload_n (q := 29) rfl dX1_lossesAbroad_28 rfl ?_
      refine rr_iload_n (q := 30) rfl dX1_lossesAbroad_29 rfl ?_
      refine rr_cVi (q := 33) rfl V_X1_lossOf ml_X1_87 ⟨Nat.le_of_ble_eq_true rfl, Nat.le_of_ble_eq_true rfl⟩ (e_X1_lossOf hi l2 s) (w_realm hi) rfl rfl rfl rfl (Nat.le_of_ble_eq_true rfl) dX1_lossesAbroad_30 (fun v5 s6 => ?_)
      refine rr_iadd (q := 34) rfl dX1_lossesAbroad_33 ?_
      refine rr_istore_n (L2 := fun y7 => [some (.ref (rb i)), some (.int y7), some (.int l2)]) (q := 35) rfl dX1_lossesAbroad_34 (Nat.le_of_ble_eq_true rfl) (fun _ => rfl) (fun y7 => ?_)
      exact e_X1_lossesAbroad_35 hi hk4 y7 l2 s6
def fX1_lossesAbroad_4 (i : Nat) : Nat → Int32 → Int32 → SX → Option (Int32 × SX) := lp (fun _ _ _ => none) (fX1_lossesAbroad_4b i)
theorem e_X1_lossesAbroad_4 {G : Cf} {t : SM} {i : Nat} (hi : i < 5)  (n : Nat) : ∀ (l1 : Int32) (l2 : Int32) (s : SX), R (wfX t) inI G M_X1_lossesAbroad 4 [some (.ref (rb i)), some (.int l1), some (.int l2)] [] s (fX1_lossesAbroad_4 i n l1 l2 s) := by
  unfold fX1_lossesAbroad_4
  exact rr_lp (P := fun (kz : Int32 → Int32 → SX → Option (Int32 × SX)) => ∀ (l1 : Int32) (l2 : Int32) (s : SX), R (wfX t) inI G M_X1_lossesAbroad 4 [some (.ref (rb i)), some (.int l1), some (.int l2)] [] s (kz l1 l2 s)) (fun _ _ _ => rr_none) (fun kz hkz => fun l1 l2 s => e_X1_lossesAbroad_4b hi hkz l1 l2 s) n
def fX1_lossesAbroad (i : Nat) (s : SX) : Option (Int32 × SX) :=
  vl 0 fun y1 =>
  vl 0 fun y2 =>
  fX1_lossesAbroad_4 i 400 y1 y2 s
set_option maxRecDepth 100000 in
set_option maxHeartbeats 4000000 in
theorem e_X1_lossesAbroad {G : Cf} {t : SM} {i : Nat} (hi : i < 5) (s : SX) : Ct (wfX t) inI G M_X1_lossesAbroad [.ref (rb i)] s (fX1_lossesAbroad i s) := by
  refine Ct.of (L0 := [some (.ref (rb i)), none, none]) 2 rfl rfl ⟨rfl, rfl⟩ (Nat.le_of_ble_eq_true rfl) rfl ?_
  unfold fX1_lossesAbroad
  refine rr_iconst 0 (q := 1) rfl dX1_lossesAbroad_0 rfl ?_
  refine rr_istore_n (L2 := fun y1 => [some (.ref (rb i)), some (.int y1), none]) (q := 2) rfl dX1_lossesAbroad_1 (Nat.le_of_ble_eq_true rfl) (fun _ => rfl) (fun y1 => ?_)
  refine rr_iconst 0 (q := 3) rfl dX1_lossesAbroad_2 rfl ?_
  refine rr_istore_n (L2 := fun y2 => [some (.ref (rb i)), some (.int y1), some (.int y2)]) (q := 4) rfl dX1_lossesAbroad_3 (Nat.le_of_ble_eq_true rfl) (fun _ => rfl) (fun y2 => ?_)
  exact e_X1_lossesAbroad_4 hi 400 y1 y2 s
def fX1_wordsInForce_26 (i : Nat) (k4 : Int32 → Int32 → SX → Option (Int32 × SX)) (l1 : Int32) (l2 : Int32) (s : SX) : Option (Int32 × SX) :=
  vl (l2 + 1) fun y6 =>
  k4 l1 y6 s
set_option maxRecDepth 100000 in
set_option maxHeartbeats 4000000 in
theorem e_X1_wordsInForce_26 {G : Cf} {t : SM} {i : Nat} (hi : i < 5) {k4 : Int32 → Int32 → SX → Option (Int32 × SX)} (hk4 : ∀ (l1 : Int32) (l2 : Int32) (s : SX), R (wfX t) inI G M_X1_wordsInForce 4 [some (.ref (rb i)), some (.int l1), some (.int l2)] [] s (k4 l1 l2 s)) (l1 : Int32) (l2 : Int32) (s : SX) : R (wfX t) inI G M_X1_wordsInForce 26 [some (.ref (rb i)), some (.int l1), some (.int l2)] [] s (fX1_wordsInForce_26 i k4 l1 l2 s) := by
  unfold fX1_wordsInForce_26
  refine rr_iinc (L2 := fun y6 => [some (.ref (rb i)), some (.int l1), some (.int y6)]) (q := 29) rfl dX1_wordsInForce_26 rfl rfl (Nat.le_of_ble_eq_true rfl) (fun _ => rfl) (fun y6 => ?_)
  refine rr_goto 4 dX1_wordsInForce_29 rfl ?_
  exact hk4 l1 y6 s
def fX1_wordsInForce_4b (i : Nat) (k4 : Int32 → Int32 → SX → Option (Int32 × SX)) (l1 : Int32) (l2 : Int32) (s : SX) : Option (Int32 × SX) :=
  (if (gX s i 10 11) ≤ l2 then
  some (l1, s)
  else
  bd (fX1_isInForce i l2 s) fun v3 s4 =>
  (if v3 = 0 then
  fX1_wordsInForce_26 i k4 l1 l2 s4
  else
  vl (l1 ||| (1 <<< (l2 &&& 31))) fun y5 =>
  fX1_wordsInForce_26 i k4 y5 l2 s4))
set_option maxRecDepth 100000 in
set_option maxHeartbeats 4000000 in
theorem e_X1_wordsInForce_4b {G : Cf} {t : SM} {i : Nat} (hi : i < 5) {k4 : Int32 → Int32 → SX → Option (Int32 × SX)} (hk4 : ∀ (l1 : Int32) (l2 : Int32) (s : SX), R (wfX t) inI G M_X1_wordsInForce 4 [some (.ref (rb i)), some (.int l1), some (.int l2)] [] s (k4 l1 l2 s)) (l1 : Int32) (l2 : Int32) (s : SX) : R (wfX t) inI G M_X1_wordsInForce 4 [some (.ref (rb i)), some (.int l1), some (.int l2)] [] s (fX1_wordsInForce_4b i k4 l1 l2 s) := by
  unfold fX1_wordsInForce_4b
  refine rr_iload_n (q := 5) rfl dX1_wordsInForce_4 rfl ?_
  refine rr_aload_n (q := 6) rfl dX1_wordsInForce_5 rfl ?_
  refine rr_get (q := 9) rfl fl_X1_52 (w_realm hi) rfl dX1_wordsInForce_6 ?_
  refine rr_icmp_ge 32 (q := 12) rfl dX1_wordsInForce_9 rfl (fun _ => ?_) (fun _ => ?_)
  · refine rr_iload_n (q := 33) rfl dX1_wordsInForce_32 rfl ?_
    exact rr_iret dX1_wordsInForce_33 rfl
  · refine rr_aload_n (q := 13) rfl dX1_wordsInForce_12 rfl ?_
    refine rr_iload_n (q := 14) rfl dX1_wordsInForce_13 rfl ?_
    refine rr_cVi (q := 17) rfl V_X1_isInForce ml_X1_90 ⟨Nat.le_of_ble_eq_true rfl, Nat.le_of_ble_eq_true rfl⟩ (e_X1_isInForce hi l2 s) (w_realm hi) rfl rfl rfl rfl (Nat.le_of_ble_eq_true rfl) dX1_wordsInForce_14 (fun v3 s4 => ?_)
    refine rr_if_eq 26 (q := 20) rfl dX1_wordsInForce_17 rfl (fun _ => ?_) (fun _ => ?_)
    · exact e_X1_wordsInForce_26 hi hk4 l1 l2 s4
    · refine rr_iload_n (q := 21) rfl dX1_wordsInForce_20 rfl ?_
      refine rr_iconst 1 (q := 22) rfl dX1_wordsInForce_21 rfl ?_
      refine rr_iload_n (q := 23) rfl dX1_wordsInForce_22 rfl ?_
      refine rr_ishl (q := 24) rfl dX1_wordsInForce_23 ?_
      refine rr_ior (q := 25) rfl dX1_wordsInForce_24 ?_
      refine rr_istore_n (L2 := fun y5 => [some (.ref (rb i)), some (.int y5), some (.int l2)]) (q := 26) rfl dX1_wordsInForce_25 (Nat.le_of_ble_eq_true rfl) (fun _ => rfl) (fun y5 => ?_)
      exact e_X1_wordsInForce_26 hi hk4 y5 l2 s4
def fX1_wordsInForce_4 (i : Nat) : Nat → Int32 → Int32 → SX → Option (Int32 × SX) := lp (fun _ _ _ => none) (fX1_wordsInForce_4b i)
theorem e_X1_wordsInForce_4 {G : Cf} {t : SM} {i : Nat} (hi : i < 5)  (n : Nat) : ∀ (l1 : Int32) (l2 : Int32) (s : SX), R (wfX t) inI G M_X1_wordsInForce 4 [some (.ref (rb i)), some (.int l1), some (.int l2)] [] s (fX1_wordsInForce_4 i n l1 l2 s) := by
  unfold fX1_wordsInForce_4
  exact rr_lp (P := fun (kz : Int32 → Int32 → SX → Option (Int32 × SX)) => ∀ (l1 : Int32) (l2 : Int32) (s : SX), R (wfX t) inI G M_X1_wordsInForce 4 [some (.ref (rb i)), some (.int l1), some (.int l2)] [] s (kz l1 l2 s)) (fun _ _ _ => rr_none) (fun kz hkz => fun l1 l2 s => e_X1_wordsInForce_4b hi hkz l1 l2 s) n
def fX1_wordsInForce (i : Nat) (s : SX) : Option (Int32 × SX) :=
  vl 0 fun y1 =>
  vl 0 fun y2 =>
  fX1_wordsInForce_4 i 400 y1 y2 s
set_option maxRecDepth 100000 in
set_option maxHeartbeats 4000000 in
theorem e_X1_wordsInForce {G : Cf} {t : SM} {i : Nat} (hi : i < 5) (s : SX) : Ct (wfX t) inI G M_X1_wordsInForce [.ref (rb i)] s (fX1_wordsInForce i s) := by
  refine Ct.of (L0 := [some (.ref (rb i)), none, none]) 2 rfl rfl ⟨rfl, rfl⟩ (Nat.le_of_ble_eq_true rfl) rfl ?_
  unfold fX1_wordsInForce
  refine rr_iconst 0 (q := 1) rfl dX1_wordsInForce_0 rfl ?_
  refine rr_istore_n (L2 := fun y1 => [some (.ref (rb i)), some (.int y1), none]) (q := 2) rfl dX1_wordsInForce_1 (Nat.le_of_ble_eq_true rfl) (fun _ => rfl) (fun y1 => ?_)
  refine rr_iconst 0 (q := 3) rfl dX1_wordsInForce_2 rfl ?_
  refine rr_istore_n (L2 := fun y2 => [some (.ref (rb i)), some (.int y1), some (.int y2)]) (q := 4) rfl dX1_wordsInForce_3 (Nat.le_of_ble_eq_true rfl) (fun _ => rfl) (fun y2 => ?_)
  exact e_X1_wordsInForce_4 hi 400 y1 y2 s
def fX1_wordsOf_36 (i : Nat) (k4 : Int32 → Int32 → Int32 → SX → Option (Int32 × SX)) (l1 : Int32) (l2 : Int32) (l3 : Int32) (s : SX) : Option (Int32 × SX) :=
  vl (l3 + 1) fun y7 =>
  k4 l1 l2 y7 s
set_option maxRecDepth 100000 in
set_option maxHeartbeats 4000000 in
theorem e_X1_wordsOf_36 {G : Cf} {t : SM} {i : Nat} (hi : i < 5) {k4 : Int32 → Int32 → Int32 → SX → Option (Int32 × SX)} (hk4 : ∀ (l1 : Int32) (l2 : Int32) (l3 : Int32) (s : SX), R (wfX t) inI G M_X1_wordsOf 4 [some (.ref (rb i)), some (.int l1), some (.int l2), some (.int l3)] [] s (k4 l1 l2 l3 s)) (l1 : Int32) (l2 : Int32) (l3 : Int32) (s : SX) : R (wfX t) inI G M_X1_wordsOf 36 [some (.ref (rb i)), some (.int l1), some (.int l2), some (.int l3)] [] s (fX1_wordsOf_36 i k4 l1 l2 l3 s) := by
  unfold fX1_wordsOf_36
  refine rr_iinc (L2 := fun y7 => [some (.ref (rb i)), some (.int l1), some (.int l2), some (.int y7)]) (q := 39) rfl dX1_wordsOf_36 rfl rfl (Nat.le_of_ble_eq_true rfl) (fun _ => rfl) (fun y7 => ?_)
  refine rr_goto 4 dX1_wordsOf_39 rfl ?_
  exact hk4 l1 l2 y7 s
def fX1_wordsOf_4b (i : Nat) (k4 : Int32 → Int32 → Int32 → SX → Option (Int32 × SX)) (l1 : Int32) (l2 : Int32) (l3 : Int32) (s : SX) : Option (Int32 × SX) :=
  (if (gX s i 10 11) ≤ l3 then
  some (l2, s)
  else
  ixg l3 12 fun n3 =>
  (if (gX s i 5 n3) = l1 then
  bd (fX1_isInForce i l3 s) fun v4 s5 =>
  (if v4 = 0 then
  fX1_wordsOf_36 i k4 l1 l2 l3 s5
  else
  vl (l2 ||| (1 <<< (l3 &&& 31))) fun y6 =>
  fX1_wordsOf_36 i k4 l1 y6 l3 s5)
  else
  fX1_wordsOf_36 i k4 l1 l2 l3 s))
set_option maxRecDepth 100000 in
set_option maxHeartbeats 4000000 in
theorem e_X1_wordsOf_4b {G : Cf} {t : SM} {i : Nat} (hi : i < 5) {k4 : Int32 → Int32 → Int32 → SX → Option (Int32 × SX)} (hk4 : ∀ (l1 : Int32) (l2 : Int32) (l3 : Int32) (s : SX), R (wfX t) inI G M_X1_wordsOf 4 [some (.ref (rb i)), some (.int l1), some (.int l2), some (.int l3)] [] s (k4 l1 l2 l3 s)) (l1 : Int32) (l2 : Int32) (l3 : Int32) (s : SX) : R (wfX t) inI G M_X1_wordsOf 4 [some (.ref (rb i)), some (.int l1), some (.int l2), some (.int l3)] [] s (fX1_wordsOf_4b i k4 l1 l2 l3 s) := by
  unfold fX1_wordsOf_4b
  refine rr_iload_n (q := 5) rfl dX1_wordsOf_4 rfl ?_
  refine rr_aload_n (q := 6) rfl dX1_wordsOf_5 rfl ?_
  refine rr_get (q := 9) rfl fl_X1_52 (w_realm hi) rfl dX1_wordsOf_6 ?_
  refine rr_icmp_ge 42 (q := 12) rfl dX1_wordsOf_9 rfl (fun _ => ?_) (fun _ => ?_)
  · refine rr_iload_n (q := 43) rfl dX1_wordsOf_42 rfl ?_
    exact rr_iret dX1_wordsOf_43 rfl
  · refine rr_aload_n (q := 13) rfl dX1_wordsOf_12 rfl ?_
    refine rr_get (q := 16) rfl fl_X1_27 (w_realm hi) rfl dX1_wordsOf_13 ?_
    refine rr_iload_n (q := 17) rfl dX1_wordsOf_16 rfl ?_
    refine rr_iald (q := 18) rfl (w_rarr5 hi) dX1_wordsOf_17 (fun n3 => ?_)
    refine rr_iload_n (q := 19) rfl dX1_wordsOf_18 rfl ?_
    refine rr_icmp_ne 36 (q := 22) rfl dX1_wordsOf_19 rfl (fun _ => ?_) (fun _ => ?_)
    · exact e_X1_wordsOf_36 hi hk4 l1 l2 l3 s
    · refine rr_aload_n (q := 23) rfl dX1_wordsOf_22 rfl ?_
      refine rr_iload_n (q := 24) rfl dX1_wordsOf_23 rfl ?_
      refine rr_cVi (q := 27) rfl V_X1_isInForce ml_X1_90 ⟨Nat.le_of_ble_eq_true rfl, Nat.le_of_ble_eq_true rfl⟩ (e_X1_isInForce hi l3 s) (w_realm hi) rfl rfl rfl rfl (Nat.le_of_ble_eq_true rfl) dX1_wordsOf_24 (fun v4 s5 => ?_)
      refine rr_if_eq 36 (q := 30) rfl dX1_wordsOf_27 rfl (fun _ => ?_) (fun _ => ?_)
      · exact e_X1_wordsOf_36 hi hk4 l1 l2 l3 s5
      · refine rr_iload_n (q := 31) rfl dX1_wordsOf_30 rfl ?_
        refine rr_iconst 1 (q := 32) rfl dX1_wordsOf_31 rfl ?_
        refine rr_iload_n (q := 33) rfl dX1_wordsOf_32 rfl ?_
        refine rr_ishl (q := 34) rfl dX1_wordsOf_33 ?_
        refine rr_ior (q := 35) rfl dX1_wordsOf_34 ?_
        refine rr_istore_n (L2 := fun y6 => [some (.ref (rb i)), some (.int l1), some (.int y6), some (.int l3)]) (q := 36) rfl dX1_wordsOf_35 (Nat.le_of_ble_eq_true rfl) (fun _ => rfl) (fun y6 => ?_)
        exact e_X1_wordsOf_36 hi hk4 l1 y6 l3 s5
def fX1_wordsOf_4 (i : Nat) : Nat → Int32 → Int32 → Int32 → SX → Option (Int32 × SX) := lp (fun _ _ _ _ => none) (fX1_wordsOf_4b i)
theorem e_X1_wordsOf_4 {G : Cf} {t : SM} {i : Nat} (hi : i < 5)  (n : Nat) : ∀ (l1 : Int32) (l2 : Int32) (l3 : Int32) (s : SX), R (wfX t) inI G M_X1_wordsOf 4 [some (.ref (rb i)), some (.int l1), some (.int l2), some (.int l3)] [] s (fX1_wordsOf_4 i n l1 l2 l3 s) := by
  unfold fX1_wordsOf_4
  exact rr_lp (P := fun (kz : Int32 → Int32 → Int32 → SX → Option (Int32 × SX)) => ∀ (l1 : Int32) (l2 : Int32) (l3 : Int32) (s : SX), R (wfX t) inI G M_X1_wordsOf 4 [some (.ref (rb i)), some (.int l1), some (.int l2), some (.int l3)] [] s (kz l1 l2 l3 s)) (fun _ _ _ _ => rr_none) (fun kz hkz => fun l1 l2 l3 s => e_X1_wordsOf_4b hi hkz l1 l2 l3 s) n
def fX1_wordsOf (i : Nat) (l1 : Int32) (s : SX) : Option (Int32 × SX) :=
  vl 0 fun y1 =>
  vl 0 fun y2 =>
  fX1_wordsOf_4 i 400 l1 y1 y2 s
set_option maxRecDepth 100000 in
set_option maxHeartbeats 4000000 in
theorem e_X1_wordsOf {G : Cf} {t : SM} {i : Nat} (hi : i < 5) (l1 : Int32) (s : SX) : Ct (wfX t) inI G M_X1_wordsOf [.ref (rb i), .int l1] s (fX1_wordsOf i l1 s) := by
  refine Ct.of (L0 := [some (.ref (rb i)), some (.int l1), none, none]) 2 rfl rfl ⟨rfl, rfl⟩ (Nat.le_of_ble_eq_true rfl) rfl ?_
  unfold fX1_wordsOf
  refine rr_iconst 0 (q := 1) rfl dX1_wordsOf_0 rfl ?_
  refine rr_istore_n (L2 := fun y1 => [some (.ref (rb i)), some (.int l1), some (.int y1), none]) (q := 2) rfl dX1_wordsOf_1 (Nat.le_of_ble_eq_true rfl) (fun _ => rfl) (fun y1 => ?_)
  refine rr_iconst 0 (q := 3) rfl dX1_wordsOf_2 rfl ?_
  refine rr_istore_n (L2 := fun y2 => [some (.ref (rb i)), some (.int l1), some (.int y1), some (.int y2)]) (q := 4) rfl dX1_wordsOf_3 (Nat.le_of_ble_eq_true rfl) (fun _ => rfl) (fun y2 => ?_)
  exact e_X1_wordsOf_4 hi 400 l1 y1 y2 s
def fX1_hasWord_40 (i : Nat) (k2 : Int32 → Int32 → Int32 → SX → Option (Int32 × SX)) (l1 : Int32) (l2 : Int32) (l3 : Int32) (s : SX) : Option (Int32 × SX) :=
  vl (l3 + 1) fun y6 =>
  k2 l1 l2 y6 s
set_option maxRecDepth 100000 in
set_option maxHeartbeats 4000000 in
theorem e_X1_hasWord_40 {G : Cf} {t : SM} {i : Nat} (hi : i < 5) {k2 : Int32 → Int32 → Int32 → SX → Option (Int32 × SX)} (hk2 : ∀ (l1 : Int32) (l2 : Int32) (l3 : Int32) (s : SX), R (wfX t) inI G M_X1_hasWord 2 [some (.ref (rb i)), some (.int l1), some (.int l2), some (.int l3)] [] s (k2 l1 l2 l3 s)) (l1 : Int32) (l2 : Int32) (l3 : Int32) (s : SX) : R (wfX t) inI G M_X1_hasWord 40 [some (.ref (rb i)), some (.int l1), some (.int l2), some (.int l3)] [] s (fX1_hasWord_40 i k2 l1 l2 l3 s) := by
  unfold fX1_hasWord_40
  refine rr_iinc (L2 := fun y6 => [some (.ref (rb i)), some (.int l1), some (.int l2), some (.int y6)]) (q := 43) rfl dX1_hasWord_40 rfl rfl (Nat.le_of_ble_eq_true rfl) (fun _ => rfl) (fun y6 => ?_)
  refine rr_goto 2 dX1_hasWord_43 rfl ?_
  exact hk2 l1 l2 y6 s
def fX1_hasWord_2b (i : Nat) (k2 : Int32 → Int32 → Int32 → SX → Option (Int32 × SX)) (l1 : Int32) (l2 : Int32) (l3 : Int32) (s : SX) : Option (Int32 × SX) :=
  (if (gX s i 10 11) ≤ l3 then
  some (0, s)
  else
  ixg l3 12 fun n2 =>
  (if (gX s i 5 n2) = l1 then
  ixg l3 12 fun n3 =>
  (if (gX s i 6 n3) = l2 then
  bd (fX1_isInForce i l3 s) fun v4 s5 =>
  (if v4 = 0 then
  fX1_hasWord_40 i k2 l1 l2 l3 s5
  else
  some (1, s5))
  else
  fX1_hasWord_40 i k2 l1 l2 l3 s)
  else
  fX1_hasWord_40 i k2 l1 l2 l3 s))
set_option maxRecDepth 100000 in
set_option maxHeartbeats 4000000 in
theorem e_X1_hasWord_2b {G : Cf} {t : SM} {i : Nat} (hi : i < 5) {k2 : Int32 → Int32 → Int32 → SX → Option (Int32 × SX)} (hk2 : ∀ (l1 : Int32) (l2 : Int32) (l3 : Int32) (s : SX), R (wfX t) inI G M_X1_hasWord 2 [some (.ref (rb i)), some (.int l1), some (.int l2), some (.int l3)] [] s (k2 l1 l2 l3 s)) (l1 : Int32) (l2 : Int32) (l3 : Int32) (s : SX) : R (wfX t) inI G M_X1_hasWord 2 [some (.ref (rb i)), some (.int l1), some (.int l2), some (.int l3)] [] s (fX1_hasWord_2b i k2 l1 l2 l3 s) := by
  unfold fX1_hasWord_2b
  refine rr_iload_n (q := 3) rfl dX1_hasWord_2 rfl ?_
  refine rr_aload_n (q := 4) rfl dX1_hasWord_3 rfl ?_
  refine rr_get (q := 7) rfl fl_X1_52 (w_realm hi) rfl dX1_hasWord_4 ?_
  refine rr_icmp_ge 46 (q := 10) rfl dX1_hasWord_7 rfl (fun _ => ?_) (fun _ => ?_)
  · refine rr_iconst 0 (q := 47) rfl dX1_hasWord_46 rfl ?_
    exact rr_zret dX1_hasWord_47 rfl (Or.inl rfl)
  · refine rr_aload_n (q := 11) rfl dX1_hasWord_10 rfl ?_
    refine rr_get (q := 14) rfl fl_X1_27 (w_realm hi) rfl dX1_hasWord_11 ?_
    refine rr_iload_n (q := 15) rfl dX1_hasWord_14 rfl ?_
    refine rr_iald (q := 16) rfl (w_rarr5 hi) dX1_hasWord_15 (fun n2 => ?_)
    refine rr_iload_n (q := 17) rfl dX1_hasWord_16 rfl ?_
    refine rr_icmp_ne 40 (q := 20) rfl dX1_hasWord_17 rfl (fun _ => ?_) (fun _ => ?_)
    · exact e_X1_hasWord_40 hi hk2 l1 l2 l3 s
    · refine rr_aload_n (q := 21) rfl dX1_hasWord_20 rfl ?_
      refine rr_get (q := 24) rfl fl_X1_30 (w_realm hi) rfl dX1_hasWord_21 ?_
      refine rr_iload_n (q := 25) rfl dX1_hasWord_24 rfl ?_
      refine rr_iald (q := 26) rfl (w_rarr6 hi) dX1_hasWord_25 (fun n3 => ?_)
      refine rr_iload_n (q := 27) rfl dX1_hasWord_26 rfl ?_
      refine rr_icmp_ne 40 (q := 30) rfl dX1_hasWord_27 rfl (fun _ => ?_) (fun _ => ?_)
      · exact e_X1_hasWord_40 hi hk2 l1 l2 l3 s
      · refine rr_aload_n (q := 31) rfl dX1_hasWord_30 rfl ?_
        refine rr_iload_n (q := 32) rfl dX1_hasWord_31 rfl ?_
        refine rr_cVi (q := 35) rfl V_X1_isInForce ml_X1_90 ⟨Nat.le_of_ble_eq_true rfl, Nat.le_of_ble_eq_true rfl⟩ (e_X1_isInForce hi l3 s) (w_realm hi) rfl rfl rfl rfl (Nat.le_of_ble_eq_true rfl) dX1_hasWord_32 (fun v4 s5 => ?_)
        refine rr_if_eq 40 (q := 38) rfl dX1_hasWord_35 rfl (fun _ => ?_) (fun _ => ?_)
        · exact e_X1_hasWord_40 hi hk2 l1 l2 l3 s5
        · refine rr_iconst 1 (q := 39) rfl dX1_hasWord_38 rfl ?_
          exact rr_zret dX1_hasWord_39 rfl (Or.inr rfl)
def fX1_hasWord_2 (i : Nat) : Nat → Int32 → Int32 → Int32 → SX → Option (Int32 × SX) := lp (fun _ _ _ _ => none) (fX1_hasWord_2b i)
theorem e_X1_hasWord_2 {G : Cf} {t : SM} {i : Nat} (hi : i < 5)  (n : Nat) : ∀ (l1 : Int32) (l2 : Int32) (l3 : Int32) (s : SX), R (wfX t) inI G M_X1_hasWord 2 [some (.ref (rb i)), some (.int l1), some (.int l2), some (.int l3)] [] s (fX1_hasWord_2 i n l1 l2 l3 s) := by
  unfold fX1_hasWord_2
  exact rr_lp (P := fun (kz : Int32 → Int32 → Int32 → SX → Option (Int32 × SX)) => ∀ (l1 : Int32) (l2 : Int32) (l3 : Int32) (s : SX), R (wfX t) inI G M_X1_hasWord 2 [some (.ref (rb i)), some (.int l1), some (.int l2), some (.int l3)] [] s (kz l1 l2 l3 s)) (fun _ _ _ _ => rr_none) (fun kz hkz => fun l1 l2 l3 s => e_X1_hasWord_2b hi hkz l1 l2 l3 s) n
def fX1_hasWord (i : Nat) (l1 : Int32) (l2 : Int32) (s : SX) : Option (Int32 × SX) :=
  vl 0 fun y1 =>
  fX1_hasWord_2 i 400 l1 l2 y1 s
set_option maxRecDepth 100000 in
set_option maxHeartbeats 4000000 in
theorem e_X1_hasWord {G : Cf} {t : SM} {i : Nat} (hi : i < 5) (l1 : Int32) (l2 : Int32) (s : SX) : Ct (wfX t) inI G M_X1_hasWord [.ref (rb i), .int l1, .int l2] s (fX1_hasWord i l1 l2 s) := by
  refine Ct.of (L0 := [some (.ref (rb i)), some (.int l1), some (.int l2), none]) 1 rfl rfl ⟨rfl, rfl⟩ (Nat.le_of_ble_eq_true rfl) rfl ?_
  unfold fX1_hasWord
  refine rr_iconst 0 (q := 1) rfl dX1_hasWord_0 rfl ?_
  refine rr_istore_n (L2 := fun y1 => [some (.ref (rb i)), some (.int l1), some (.int l2), some (.int y1)]) (q := 2) rfl dX1_hasWord_1 (Nat.le_of_ble_eq_true rfl) (fun _ => rfl) (fun y1 => ?_)
  exact e_X1_hasWord_2 hi 400 l1 l2 y1 s
def fX1_easeOf (i : Nat) (l1 : Int32) (s : SX) : Option (Int32 × SX) :=
  ixg l1 12 fun n1 =>
  vl (gX s i 5 n1) fun y2 =>
  ixg l1 12 fun n3 =>
  bd (fX1_pledgeHeld i (gX s i 6 n3) y2 s) fun v4 s5 =>
  ixg y2 6 fun n6 =>
  ixg l1 12 fun n7 =>
  some ((v4 + (gX s5 i 0 n6)) - (gX s5 i 7 n7), s5)
set_option maxRecDepth 100000 in
set_option maxHeartbeats 4000000 in
theorem e_X1_easeOf {G : Cf} {t : SM} {i : Nat} (hi : i < 5) (l1 : Int32) (s : SX) : Ct (wfX t) inI G M_X1_easeOf [.ref (rb i), .int l1] s (fX1_easeOf i l1 s) := by
  refine Ct.of (L0 := [some (.ref (rb i)), some (.int l1), none]) 1 rfl rfl ⟨rfl, rfl⟩ (Nat.le_of_ble_eq_true rfl) rfl ?_
  unfold fX1_easeOf
  refine rr_aload_n (q := 1) rfl dX1_easeOf_0 rfl ?_
  refine rr_get (q := 4) rfl fl_X1_27 (w_realm hi) rfl dX1_easeOf_1 ?_
  refine rr_iload_n (q := 5) rfl dX1_easeOf_4 rfl ?_
  refine rr_iald (q := 6) rfl (w_rarr5 hi) dX1_easeOf_5 (fun n1 => ?_)
  refine rr_istore_n (L2 := fun y2 => [some (.ref (rb i)), some (.int l1), some (.int y2)]) (q := 7) rfl dX1_easeOf_6 (Nat.le_of_ble_eq_true rfl) (fun _ => rfl) (fun y2 => ?_)
  refine rr_aload_n (q := 8) rfl dX1_easeOf_7 rfl ?_
  refine rr_aload_n (q := 9) rfl dX1_easeOf_8 rfl ?_
  refine rr_get (q := 12) rfl fl_X1_30 (w_realm hi) rfl dX1_easeOf_9 ?_
  refine rr_iload_n (q := 13) rfl dX1_easeOf_12 rfl ?_
  refine rr_iald (q := 14) rfl (w_rarr6 hi) dX1_easeOf_13 (fun n3 => ?_)
  refine rr_iload_n (q := 15) rfl dX1_easeOf_14 rfl ?_
  refine rr_cVi (q := 18) rfl V_X1_pledgeHeld ml_X1_93 ⟨Nat.le_of_ble_eq_true rfl, Nat.le_of_ble_eq_true rfl⟩ (e_X1_pledgeHeld hi (gX s i 6 n3) y2 s) (w_realm hi) rfl rfl rfl rfl (Nat.le_of_ble_eq_true rfl) dX1_easeOf_15 (fun v4 s5 => ?_)
  refine rr_aload_n (q := 19) rfl dX1_easeOf_18 rfl ?_
  refine rr_get (q := 22) rfl fl_X1_9 (w_realm hi) rfl dX1_easeOf_19 ?_
  refine rr_iload_n (q := 23) rfl dX1_easeOf_22 rfl ?_
  refine rr_iald (q := 24) rfl (w_rarr0 hi) dX1_easeOf_23 (fun n6 => ?_)
  refine rr_iadd (q := 25) rfl dX1_easeOf_24 ?_
  refine rr_aload_n (q := 26) rfl dX1_easeOf_25 rfl ?_
  refine rr_get (q := 29) rfl fl_X1_33 (w_realm hi) rfl dX1_easeOf_26 ?_
  refine rr_iload_n (q := 30) rfl dX1_easeOf_29 rfl ?_
  refine rr_iald (q := 31) rfl (w_rarr7 hi) dX1_easeOf_30 (fun n7 => ?_)
  refine rr_isub (q := 32) rfl dX1_easeOf_31 ?_
  exact rr_iret dX1_easeOf_32 rfl
def fX1_looseWordsOf_67 (i : Nat) (k29 : Int32 → Int32 → Int32 → SX → Option (Int32 × SX)) (l1 : Int32) (l2 : Int32) (l3 : Int32) (s : SX) : Option (Int32 × SX) :=
  vl (l3 + 1) fun y26 =>
  k29 l1 l2 y26 s
set_option maxRecDepth 100000 in
set_option maxHeartbeats 4000000 in
theorem e_X1_looseWordsOf_67 {G : Cf} {t : SM} {i : Nat} (hi : i < 5) {k29 : Int32 → Int32 → Int32 → SX → Option (Int32 × SX)} (hk29 : ∀ (l1 : Int32) (l2 : Int32) (l3 : Int32) (s : SX), R (wfX t) inI G M_X1_looseWordsOf 29 [some (.ref (rb i)), some (.int l1), some (.int l2), some (.int l3), none] [] s (k29 l1 l2 l3 s)) (l1 : Int32) (l2 : Int32) (l3 : Int32) (s : SX) : R (wfX t) inI G M_X1_looseWordsOf 67 [some (.ref (rb i)), some (.int l1), some (.int l2), some (.int l3), none] [] s (fX1_looseWordsOf_67 i k29 l1 l2 l3 s) := by
  unfold fX1_looseWordsOf_67
  refine rr_iinc (L2 := fun y26 => [some (.ref (rb i)), some (.int l1), some (.int l2), some (.int y26), none]) (q := 70) rfl dX1_looseWordsOf_67 rfl rfl (Nat.le_of_ble_eq_true rfl) (fun _ => rfl) (fun y26 => ?_)
  refine rr_goto 29 dX1_looseWordsOf_70 rfl ?_
  exact hk29 l1 l2 y26 s
def fX1_looseWordsOf_143 (i : Nat) (k78 : Int32 → Int32 → Int32 → SX → Option (Int32 × SX)) (l1 : Int32) (l3 : Int32) (l4 : Int32) (s : SX) : Option (Int32 × SX) :=
  vl (l4 + 1) fun y27 =>
  k78 l1 l3 y27 s
set_option maxRecDepth 100000 in
set_option maxHeartbeats 4000000 in
theorem e_X1_looseWordsOf_143 {G : Cf} {t : SM} {i : Nat} (hi : i < 5) {k78 : Int32 → Int32 → Int32 → SX → Option (Int32 × SX)} (hk78 : ∀ (l1 : Int32) (l3 : Int32) (l4 : Int32) (s : SX), R (wfX t) inI G M_X1_looseWordsOf 78 [some (.ref (rb i)), some (.int l1), none, some (.int l3), some (.int l4)] [] s (k78 l1 l3 l4 s)) (l1 : Int32) (l3 : Int32) (l4 : Int32) (s : SX) : R (wfX t) inI G M_X1_looseWordsOf 143 [some (.ref (rb i)), some (.int l1), none, some (.int l3), some (.int l4)] [] s (fX1_looseWordsOf_143 i k78 l1 l3 l4 s) := by
  unfold fX1_looseWordsOf_143
  refine rr_iinc (L2 := fun y27 => [some (.ref (rb i)), some (.int l1), none, some (.int l3), some (.int y27)]) (q := 146) rfl dX1_looseWordsOf_143 rfl rfl (Nat.le_of_ble_eq_true rfl) (fun _ => rfl) (fun y27 => ?_)
  refine rr_goto 78 dX1_looseWordsOf_146 rfl ?_
  exact hk78 l1 l3 y27 s
def fX1_looseWordsOf_78b (i : Nat) (k78 : Int32 → Int32 → Int32 → SX → Option (Int32 × SX)) (l1 : Int32) (l3 : Int32) (l4 : Int32) (s : SX) : Option (Int32 × SX) :=
  (if (gX s i 10 11) ≤ l4 then
  some (l3, s)
  else
  ixg l4 12 fun n18 =>
  (if (gX s i 5 n18) = l1 then
  bd (fX1_isInForce i l4 s) fun v19 s20 =>
  (if v19 = 0 then
  fX1_looseWordsOf_143 i k78 l1 l3 l4 s20
  else
  ixg l4 12 fun n21 =>
  ixg l4 12 fun n22 =>
  ixg (gX s20 i 6 n22) 6 fun n23 =>
  ixg l1 6 fun n24 =>
  (if (gX s20 i 7 n21) ≤ ((gX s20 i 9 n23) + (gX s20 i 0 n24)) then
  fX1_looseWordsOf_143 i k78 l1 l3 l4 s20
  else
  vl (l3 ||| (1 <<< (l4 &&& 31))) fun y25 =>
  fX1_looseWordsOf_143 i k78 l1 y25 l4 s20))
  else
  fX1_looseWordsOf_143 i k78 l1 l3 l4 s))
set_option maxRecDepth 100000 in
set_option maxHeartbeats 4000000 in
theorem e_X1_looseWordsOf_78b {G : Cf} {t : SM} {i : Nat} (hi : i < 5) {k78 : Int32 → Int32 → Int32 → SX → Option (Int32 × SX)} (hk78 : ∀ (l1 : Int32) (l3 : Int32) (l4 : Int32) (s : SX), R (wfX t) inI G M_X1_looseWordsOf 78 [some (.ref (rb i)), some (.int l1), none, some (.int l3), some (.int l4)] [] s (k78 l1 l3 l4 s)) (l1 : Int32) (l3 : Int32) (l4 : Int32) (s : SX) : R (wfX t) inI G M_X1_looseWordsOf 78 [some (.ref (rb i)), some (.int l1), none, some (.int l3), some (.int l4)] [] s (fX1_looseWordsOf_78b i k78 l1 l3 l4 s) := by
  unfold fX1_looseWordsOf_78b
  refine rr_iload (q := 80) rfl dX1_looseWordsOf_78 rfl ?_
  refine rr_aload_n (q := 81) rfl dX1_looseWordsOf_80 rfl ?_
  refine rr_get (q := 84) rfl fl_X1_52 (w_realm hi) rfl dX1_looseWordsOf_81 ?_
  refine rr_icmp_ge 149 (q := 87) rfl dX1_looseWordsOf_84 rfl (fun _ => ?_) (fun _ => ?_)
  · refine rr_iload_n (q := 150) rfl dX1_looseWordsOf_149 rfl ?_
    exact rr_iret dX1_looseWordsOf_150 rfl
  · refine rr_aload_n (q := 88) rfl dX1_looseWordsOf_87 rfl ?_
    refine rr_get (q := 91) rfl fl_X1_27 (w_realm hi) rfl dX1_looseWordsOf_88 ?_
    refine rr_iload (q := 93) rfl dX1_looseWordsOf_91 rfl ?_
    refine rr_iald (q := 94) rfl (w_rarr5 hi) dX1_looseWordsOf_93 (fun n18 => ?_)
    refine rr_iload_n (q := 95) rfl dX1_looseWordsOf_94 rfl ?_
    refine rr_icmp_ne 143 (q := 98) rfl dX1_looseWordsOf_95 rfl (fun _ => ?_) (fun _ => ?_)
    · exact e_X1_looseWordsOf_143 hi hk78 l1 l3 l4 s
    · refine rr_aload_n (q := 99) rfl dX1_looseWordsOf_98 rfl ?_
      refine rr_iload (q := 101) rfl dX1_looseWordsOf_99 rfl ?_
      refine rr_cVi (q := 104) rfl V_X1_isInForce ml_X1_90 ⟨Nat.le_of_ble_eq_true rfl, Nat.le_of_ble_eq_true rfl⟩ (e_X1_isInForce hi l4 s) (w_realm hi) rfl rfl rfl rfl (Nat.le_of_ble_eq_true rfl) dX1_looseWordsOf_101 (fun v19 s20 => ?_)
      refine rr_if_eq 143 (q := 107) rfl dX1_looseWordsOf_104 rfl (fun _ => ?_) (fun _ => ?_)
      · exact e_X1_looseWordsOf_143 hi hk78 l1 l3 l4 s20
      · refine rr_aload_n (q := 108) rfl dX1_looseWordsOf_107 rfl ?_
        refine rr_get (q := 111) rfl fl_X1_33 (w_realm hi) rfl dX1_looseWordsOf_108 ?_
        refine rr_iload (q := 113) rfl dX1_looseWordsOf_111 rfl ?_
        refine rr_iald (q := 114) rfl (w_rarr7 hi) dX1_looseWordsOf_113 (fun n21 => ?_)
        refine rr_aload_n (q := 115) rfl dX1_looseWordsOf_114 rfl ?_
        refine rr_get (q := 118) rfl fl_X1_39 (w_realm hi) rfl dX1_looseWordsOf_115 ?_
        refine rr_aload_n (q := 119) rfl dX1_looseWordsOf_118 rfl ?_
        refine rr_get (q := 122) rfl fl_X1_30 (w_realm hi) rfl dX1_looseWordsOf_119 ?_
        refine rr_iload (q := 124) rfl dX1_looseWordsOf_122 rfl ?_
        refine rr_iald (q := 125) rfl (w_rarr6 hi) dX1_looseWordsOf_124 (fun n22 => ?_)
        refine rr_iald (q := 126) rfl (w_rarr9 hi) dX1_looseWordsOf_125 (fun n23 => ?_)
        refine rr_aload_n (q := 127) rfl dX1_looseWordsOf_126 rfl ?_
        refine rr_get (q := 130) rfl fl_X1_9 (w_realm hi) rfl dX1_looseWordsOf_127 ?_
        refine rr_iload_n (q := 131) rfl dX1_looseWordsOf_130 rfl ?_
        refine rr_iald (q := 132) rfl (w_rarr0 hi) dX1_looseWordsOf_131 (fun n24 => ?_)
        refine rr_iadd (q := 133) rfl dX1_looseWordsOf_132 ?_
        refine rr_icmp_le 143 (q := 136) rfl dX1_looseWordsOf_133 rfl (fun _ => ?_) (fun _ => ?_)
        · exact e_X1_looseWordsOf_143 hi hk78 l1 l3 l4 s20
        · refine rr_iload_n (q := 137) rfl dX1_looseWordsOf_136 rfl ?_
          refine rr_iconst 1 (q := 138) rfl dX1_looseWordsOf_137 rfl ?_
          refine rr_iload (q := 140) rfl dX1_looseWordsOf_138 rfl ?_
          refine rr_ishl (q := 141) rfl dX1_looseWordsOf_140 ?_
          refine rr_ior (q := 142) rfl dX1_looseWordsOf_141 ?_
          refine rr_istore_n (L2 := fun y25 => [some (.ref (rb i)), some (.int l1), none, some (.int y25), some (.int l4)]) (q := 143) rfl dX1_looseWordsOf_142 (Nat.le_of_ble_eq_true rfl) (fun _ => rfl) (fun y25 => ?_)
          exact e_X1_looseWordsOf_143 hi hk78 l1 y25 l4 s20
def fX1_looseWordsOf_78 (i : Nat) : Nat → Int32 → Int32 → Int32 → SX → Option (Int32 × SX) := lp (fun _ _ _ _ => none) (fX1_looseWordsOf_78b i)
theorem e_X1_looseWordsOf_78 {G : Cf} {t : SM} {i : Nat} (hi : i < 5)  (n : Nat) : ∀ (l1 : Int32) (l3 : Int32) (l4 : Int32) (s : SX), R (wfX t) inI G M_X1_looseWordsOf 78 [some (.ref (rb i)), some (.int l1), none, some (.int l3), some (.int l4)] [] s (fX1_looseWordsOf_78 i n l1 l3 l4 s) := by
  unfold fX1_looseWordsOf_78
  exact rr_lp (P := fun (kz : Int32 → Int32 → Int32 → SX → Option (Int32 × SX)) => ∀ (l1 : Int32) (l3 : Int32) (l4 : Int32) (s : SX), R (wfX t) inI G M_X1_looseWordsOf 78 [some (.ref (rb i)), some (.int l1), none, some (.int l3), some (.int l4)] [] s (kz l1 l3 l4 s)) (fun _ _ _ _ => rr_none) (fun kz hkz => fun l1 l3 l4 s => e_X1_looseWordsOf_78b hi hkz l1 l3 l4 s) n
def fX1_looseWordsOf_29b (i : Nat) (k29 : Int32 → Int32 → Int32 → SX → Option (Int32 × SX)) (l1 : Int32) (l2 : Int32) (l3 : Int32) (s : SX) : Option (Int32 × SX) :=
  (if (gX s i 10 10) ≤ l3 then
  vl 0 fun y9 =>
  vl 0 fun y10 =>
  fX1_looseWordsOf_78 i 400 l1 y9 y10 s
  else
  ixg l3 14 fun n11 =>
  (if (gX s i 2 n11) = l1 then
  ixg l3 14 fun n12 =>
  ixg (gX s i 3 n12) 6 fun n13 =>
  bd (fX1_lossBeside i l2 l3 s) fun v14 s15 =>
  ixg (gX s i 3 n12) 6 fun n16 => vl (wX s15 i 9 n16 ((gX s i 9 n13) + v14)) fun s17 =>
  fX1_looseWordsOf_67 i k29 l1 l2 l3 s17
  else
  fX1_looseWordsOf_67 i k29 l1 l2 l3 s))
set_option maxRecDepth 100000 in
set_option maxHeartbeats 4000000 in
theorem e_X1_looseWordsOf_29b {G : Cf} {t : SM} {i : Nat} (hi : i < 5) {k29 : Int32 → Int32 → Int32 → SX → Option (Int32 × SX)} (hk29 : ∀ (l1 : Int32) (l2 : Int32) (l3 : Int32) (s : SX), R (wfX t) inI G M_X1_looseWordsOf 29 [some (.ref (rb i)), some (.int l1), some (.int l2), some (.int l3), none] [] s (k29 l1 l2 l3 s)) (l1 : Int32) (l2 : Int32) (l3 : Int32) (s : SX) : R (wfX t) inI G M_X1_looseWordsOf 29 [some (.ref (rb i)), some (.int l1), some (.int l2), some (.int l3), none] [] s (fX1_looseWordsOf_29b i k29 l1 l2 l3 s) := by
  unfold fX1_looseWordsOf_29b
  refine rr_iload_n (q := 30) rfl dX1_looseWordsOf_29 rfl ?_
  refine rr_aload_n (q := 31) rfl dX1_looseWordsOf_30 rfl ?_
  refine rr_get (q := 34) rfl fl_X1_48 (w_realm hi) rfl dX1_looseWordsOf_31 ?_
  refine rr_icmp_ge 73 (q := 37) rfl dX1_looseWordsOf_34 rfl (fun _ => ?_) (fun _ => ?_)
  · refine rr_iconst 0 (q := 74) rfl dX1_looseWordsOf_73 rfl ?_
    refine rr_istore_n (L2 := fun y9 => [some (.ref (rb i)), some (.int l1), some (.int l2), some (.int y9), none]) (q := 75) rfl dX1_looseWordsOf_74 (Nat.le_of_ble_eq_true rfl) (fun _ => rfl) (fun y9 => ?_)
    refine rr_iconst 0 (q := 76) rfl dX1_looseWordsOf_75 rfl ?_
    refine rr_istore (L2 := fun y10 => [some (.ref (rb i)), some (.int l1), some (.int l2), some (.int y9), some (.int y10)]) (q := 78) rfl dX1_looseWordsOf_76 (Nat.le_of_ble_eq_true rfl) (fun _ => rfl) (fun y10 => ?_)
    refine rr_mask [true, true, false, true, true] (L' := [some (.ref (rb i)), some (.int l1), none, some (.int y9), some (.int y10)]) rfl ?_
    exact e_X1_looseWordsOf_78 hi 400 l1 y9 y10 s
  · refine rr_aload_n (q := 38) rfl dX1_looseWordsOf_37 rfl ?_
    refine rr_get (q := 41) rfl fl_X1_18 (w_realm hi) rfl dX1_looseWordsOf_38 ?_
    refine rr_iload_n (q := 42) rfl dX1_looseWordsOf_41 rfl ?_
    refine rr_iald (q := 43) rfl (w_rarr2 hi) dX1_looseWordsOf_42 (fun n11 => ?_)
    refine rr_iload_n (q := 44) rfl dX1_looseWordsOf_43 rfl ?_
    refine rr_icmp_ne 67 (q := 47) rfl dX1_looseWordsOf_44 rfl (fun _ => ?_) (fun _ => ?_)
    · exact e_X1_looseWordsOf_67 hi hk29 l1 l2 l3 s
    · refine rr_aload_n (q := 48) rfl dX1_looseWordsOf_47 rfl ?_
      refine rr_get (q := 51) rfl fl_X1_39 (w_realm hi) rfl dX1_looseWordsOf_48 ?_
      refine rr_aload_n (q := 52) rfl dX1_looseWordsOf_51 rfl ?_
      refine rr_get (q := 55) rfl fl_X1_21 (w_realm hi) rfl dX1_looseWordsOf_52 ?_
      refine rr_iload_n (q := 56) rfl dX1_looseWordsOf_55 rfl ?_
      refine rr_iald (q := 57) rfl (w_rarr3 hi) dX1_looseWordsOf_56 (fun n12 => ?_)
      refine rr_dup2 (q := 58) rfl dX1_looseWordsOf_57 rfl rfl ?_
      refine rr_iald (q := 59) rfl (w_rarr9 hi) dX1_looseWordsOf_58 (fun n13 => ?_)
      refine rr_aload_n (q := 60) rfl dX1_looseWordsOf_59 rfl ?_
      refine rr_iload_n (q := 61) rfl dX1_looseWordsOf_60 rfl ?_
      refine rr_iload_n (q := 62) rfl dX1_looseWordsOf_61 rfl ?_
      refine rr_cVi (q := 65) rfl V_X1_lossBeside ml_X1_72 ⟨Nat.le_of_ble_eq_true rfl, Nat.le_of_ble_eq_true rfl⟩ (e_X1_lossBeside hi l2 l3 s) (w_realm hi) rfl rfl rfl rfl (Nat.le_of_ble_eq_true rfl) dX1_looseWordsOf_62 (fun v14 s15 => ?_)
      refine rr_iadd (q := 66) rfl dX1_looseWordsOf_65 ?_
      refine rr_iast (q := 67) rfl (w_rarr9 hi) (fun _ => (u_rarr9 hi)) dX1_looseWordsOf_66 (fun n16 s17 => ?_)
      exact e_X1_looseWordsOf_67 hi hk29 l1 l2 l3 s17
def fX1_looseWordsOf_29 (i : Nat) : Nat → Int32 → Int32 → Int32 → SX → Option (Int32 × SX) := lp (fun _ _ _ _ => none) (fX1_looseWordsOf_29b i)
theorem e_X1_looseWordsOf_29 {G : Cf} {t : SM} {i : Nat} (hi : i < 5)  (n : Nat) : ∀ (l1 : Int32) (l2 : Int32) (l3 : Int32) (s : SX), R (wfX t) inI G M_X1_looseWordsOf 29 [some (.ref (rb i)), some (.int l1), some (.int l2), some (.int l3), none] [] s (fX1_looseWordsOf_29 i n l1 l2 l3 s) := by
  unfold fX1_looseWordsOf_29
  exact rr_lp (P := fun (kz : Int32 → Int32 → Int32 → SX → Option (Int32 × SX)) => ∀ (l1 : Int32) (l2 : Int32) (l3 : Int32) (s : SX), R (wfX t) inI G M_X1_looseWordsOf 29 [some (.ref (rb i)), some (.int l1), some (.int l2), some (.int l3), none] [] s (kz l1 l2 l3 s)) (fun _ _ _ _ => rr_none) (fun kz hkz => fun l1 l2 l3 s => e_X1_looseWordsOf_29b hi hkz l1 l2 l3 s) n
def fX1_looseWordsOf_2b (i : Nat) (k2 : Int32 → Int32 → SX → Option (Int32 × SX)) (l1 : Int32) (l2 : Int32) (s : SX) : Option (Int32 × SX) :=
  (if 6 ≤ l2 then
  bd (fX1_twinsAtHome i l1 s) fun v2 s3 =>
  vl v2 fun y4 =>
  vl 0 fun y5 =>
  fX1_looseWordsOf_29 i 400 l1 y4 y5 s3
  else
  ixg l2 6 fun n6 => vl (wX s i 9 n6 0) fun s7 =>
  vl (l2 + 1) fun y8 =>
  k2 l1 y8 s7)
set_option maxRecDepth 100000 in
set_option maxHeartbeats 4000000 in
theorem e_X1_looseWordsOf_2b {G : Cf} {t : SM} {i : Nat} (hi : i < 5) {k2 : Int32 → Int32 → SX → Option (Int32 × SX)} (hk2 : ∀ (l1 : Int32) (l2 : Int32) (s : SX), R (wfX t) inI G M_X1_looseWordsOf 2 [some (.ref (rb i)), some (.int l1), some (.int l2), none, none] [] s (k2 l1 l2 s)) (l1 : Int32) (l2 : Int32) (s : SX) : R (wfX t) inI G M_X1_looseWordsOf 2 [some (.ref (rb i)), some (.int l1), some (.int l2), none, none] [] s (fX1_looseWordsOf_2b i k2 l1 l2 s) := by
  unfold fX1_looseWordsOf_2b
  refine rr_iload_n (q := 3) rfl dX1_looseWordsOf_2 rfl ?_
  refine rr_bipush 6 (q := 5) rfl dX1_looseWordsOf_3 rfl ?_
  refine rr_icmp_ge 21 (q := 8) rfl dX1_looseWordsOf_5 rfl (fun _ => ?_) (fun _ => ?_)
  · refine rr_aload_n (q := 22) rfl dX1_looseWordsOf_21 rfl ?_
    refine rr_iload_n (q := 23) rfl dX1_looseWordsOf_22 rfl ?_
    refine rr_cVi (q := 26) rfl V_X1_twinsAtHome ml_X1_68 ⟨Nat.le_of_ble_eq_true rfl, Nat.le_of_ble_eq_true rfl⟩ (e_X1_twinsAtHome hi l1 s) (w_realm hi) rfl rfl rfl rfl (Nat.le_of_ble_eq_true rfl) dX1_looseWordsOf_23 (fun v2 s3 => ?_)
    refine rr_istore_n (L2 := fun y4 => [some (.ref (rb i)), some (.int l1), some (.int y4), none, none]) (q := 27) rfl dX1_looseWordsOf_26 (Nat.le_of_ble_eq_true rfl) (fun _ => rfl) (fun y4 => ?_)
    refine rr_iconst 0 (q := 28) rfl dX1_looseWordsOf_27 rfl ?_
    refine rr_istore_n (L2 := fun y5 => [some (.ref (rb i)), some (.int l1), some (.int y4), some (.int y5), none]) (q := 29) rfl dX1_looseWordsOf_28 (Nat.le_of_ble_eq_true rfl) (fun _ => rfl) (fun y5 => ?_)
    exact e_X1_looseWordsOf_29 hi 400 l1 y4 y5 s3
  · refine rr_aload_n (q := 9) rfl dX1_looseWordsOf_8 rfl ?_
    refine rr_get (q := 12) rfl fl_X1_39 (w_realm hi) rfl dX1_looseWordsOf_9 ?_
    refine rr_iload_n (q := 13) rfl dX1_looseWordsOf_12 rfl ?_
    refine rr_iconst 0 (q := 14) rfl dX1_looseWordsOf_13 rfl ?_
    refine rr_iast (q := 15) rfl (w_rarr9 hi) (fun _ => (u_rarr9 hi)) dX1_looseWordsOf_14 (fun n6 s7 => ?_)
    refine rr_iinc (L2 := fun y8 => [some (.ref (rb i)), some (.int l1), some (.int y8), none, none]) (q := 18) rfl dX1_looseWordsOf_15 rfl rfl (Nat.le_of_ble_eq_true rfl) (fun _ => rfl) (fun y8 => ?_)
    refine rr_goto 2 dX1_looseWordsOf_18 rfl ?_
    exact hk2 l1 y8 s7
def fX1_looseWordsOf_2 (i : Nat) : Nat → Int32 → Int32 → SX → Option (Int32 × SX) := lp (fun _ _ _ => none) (fX1_looseWordsOf_2b i)
theorem e_X1_looseWordsOf_2 {G : Cf} {t : SM} {i : Nat} (hi : i < 5)  (n : Nat) : ∀ (l1 : Int32) (l2 : Int32) (s : SX), R (wfX t) inI G M_X1_looseWordsOf 2 [some (.ref (rb i)), some (.int l1), some (.int l2), none, none] [] s (fX1_looseWordsOf_2 i n l1 l2 s) := by
  unfold fX1_looseWordsOf_2
  exact rr_lp (P := fun (kz : Int32 → Int32 → SX → Option (Int32 × SX)) => ∀ (l1 : Int32) (l2 : Int32) (s : SX), R (wfX t) inI G M_X1_looseWordsOf 2 [some (.ref (rb i)), some (.int l1), some (.int l2), none, none] [] s (kz l1 l2 s)) (fun _ _ _ => rr_none) (fun kz hkz => fun l1 l2 s => e_X1_looseWordsOf_2b hi hkz l1 l2 s) n
def fX1_looseWordsOf (i : Nat) (l1 : Int32) (s : SX) : Option (Int32 × SX) :=
  vl 0 fun y1 =>
  fX1_looseWordsOf_2 i 400 l1 y1 s
set_option maxRecDepth 100000 in
set_option maxHeartbeats 4000000 in
theorem e_X1_looseWordsOf {G : Cf} {t : SM} {i : Nat} (hi : i < 5) (l1 : Int32) (s : SX) : Ct (wfX t) inI G M_X1_looseWordsOf [.ref (rb i), .int l1] s (fX1_looseWordsOf i l1 s) := by
  refine Ct.of (L0 := [some (.ref (rb i)), some (.int l1), none, none, none]) 3 rfl rfl ⟨rfl, rfl⟩ (Nat.le_of_ble_eq_true rfl) rfl ?_
  unfold fX1_looseWordsOf
  refine rr_iconst 0 (q := 1) rfl dX1_looseWordsOf_0 rfl ?_
  refine rr_istore_n (L2 := fun y1 => [some (.ref (rb i)), some (.int l1), some (.int y1), none, none]) (q := 2) rfl dX1_looseWordsOf_1 (Nat.le_of_ble_eq_true rfl) (fun _ => rfl) (fun y1 => ?_)
  exact e_X1_looseWordsOf_2 hi 400 l1 y1 s
def fX1_looseWords_4b (i : Nat) (k4 : Int32 → Int32 → SX → Option (Int32 × SX)) (l1 : Int32) (l2 : Int32) (s : SX) : Option (Int32 × SX) :=
  (if 6 ≤ l2 then
  some (l1, s)
  else
  bd (fX1_looseWordsOf i l2 s) fun v3 s4 =>
  vl (l1 ||| v3) fun y5 =>
  vl (l2 + 1) fun y6 =>
  k4 y5 y6 s4)
set_option maxRecDepth 100000 in
set_option maxHeartbeats 4000000 in
theorem e_X1_looseWords_4b {G : Cf} {t : SM} {i : Nat} (hi : i < 5) {k4 : Int32 → Int32 → SX → Option (Int32 × SX)} (hk4 : ∀ (l1 : Int32) (l2 : Int32) (s : SX), R (wfX t) inI G M_X1_looseWords 4 [some (.ref (rb i)), some (.int l1), some (.int l2)] [] s (k4 l1 l2 s)) (l1 : Int32) (l2 : Int32) (s : SX) : R (wfX t) inI G M_X1_looseWords 4 [some (.ref (rb i)), some (.int l1), some (.int l2)] [] s (fX1_looseWords_4b i k4 l1 l2 s) := by
  unfold fX1_looseWords_4b
  refine rr_iload_n (q := 5) rfl dX1_looseWords_4 rfl ?_
  refine rr_bipush 6 (q := 7) rfl dX1_looseWords_5 rfl ?_
  refine rr_icmp_ge 24 (q := 10) rfl dX1_looseWords_7 rfl (fun _ => ?_) (fun _ => ?_)
  · refine rr_iload_n (q := 25) rfl dX1_looseWords_24 rfl ?_
    exact rr_iret dX1_looseWords_25 rfl
  · refine rr_iload_n (q := 11) rfl dX1_looseWords_10 rfl ?_
    refine rr_aload_n (q := 12) rfl dX1_looseWords_11 rfl ?_
    refine rr_iload_n (q := 13) rfl dX1_looseWords_12 rfl ?_
    refine rr_cVi (q := 16) rfl V_X1_looseWordsOf ml_X1_96 ⟨Nat.le_of_ble_eq_true rfl, Nat.le_of_ble_eq_true rfl⟩ (e_X1_looseWordsOf hi l2 s) (w_realm hi) rfl rfl rfl rfl (Nat.le_of_ble_eq_true rfl) dX1_looseWords_13 (fun v3 s4 => ?_)
    refine rr_ior (q := 17) rfl dX1_looseWords_16 ?_
    refine rr_istore_n (L2 := fun y5 => [some (.ref (rb i)), some (.int y5), some (.int l2)]) (q := 18) rfl dX1_looseWords_17 (Nat.le_of_ble_eq_true rfl) (fun _ => rfl) (fun y5 => ?_)
    refine rr_iinc (L2 := fun y6 => [some (.ref (rb i)), some (.int y5), some (.int y6)]) (q := 21) rfl dX1_looseWords_18 rfl rfl (Nat.le_of_ble_eq_true rfl) (fun _ => rfl) (fun y6 => ?_)
    refine rr_goto 4 dX1_looseWords_21 rfl ?_
    exact hk4 y5 y6 s4
def fX1_looseWords_4 (i : Nat) : Nat → Int32 → Int32 → SX → Option (Int32 × SX) := lp (fun _ _ _ => none) (fX1_looseWords_4b i)
theorem e_X1_looseWords_4 {G : Cf} {t : SM} {i : Nat} (hi : i < 5)  (n : Nat) : ∀ (l1 : Int32) (l2 : Int32) (s : SX), R (wfX t) inI G M_X1_looseWords 4 [some (.ref (rb i)), some (.int l1), some (.int l2)] [] s (fX1_looseWords_4 i n l1 l2 s) := by
  unfold fX1_looseWords_4
  exact rr_lp (P := fun (kz : Int32 → Int32 → SX → Option (Int32 × SX)) => ∀ (l1 : Int32) (l2 : Int32) (s : SX), R (wfX t) inI G M_X1_looseWords 4 [some (.ref (rb i)), some (.int l1), some (.int l2)] [] s (kz l1 l2 s)) (fun _ _ _ => rr_none) (fun kz hkz => fun l1 l2 s => e_X1_looseWords_4b hi hkz l1 l2 s) n
def fX1_looseWords (i : Nat) (s : SX) : Option (Int32 × SX) :=
  vl 0 fun y1 =>
  vl 0 fun y2 =>
  fX1_looseWords_4 i 400 y1 y2 s
set_option maxRecDepth 100000 in
set_option maxHeartbeats 4000000 in
theorem e_X1_looseWords {G : Cf} {t : SM} {i : Nat} (hi : i < 5) (s : SX) : Ct (wfX t) inI G M_X1_looseWords [.ref (rb i)] s (fX1_looseWords i s) := by
  refine Ct.of (L0 := [some (.ref (rb i)), none, none]) 2 rfl rfl ⟨rfl, rfl⟩ (Nat.le_of_ble_eq_true rfl) rfl ?_
  unfold fX1_looseWords
  refine rr_iconst 0 (q := 1) rfl dX1_looseWords_0 rfl ?_
  refine rr_istore_n (L2 := fun y1 => [some (.ref (rb i)), some (.int y1), none]) (q := 2) rfl dX1_looseWords_1 (Nat.le_of_ble_eq_true rfl) (fun _ => rfl) (fun y1 => ?_)
  refine rr_iconst 0 (q := 3) rfl dX1_looseWords_2 rfl ?_
  refine rr_istore_n (L2 := fun y2 => [some (.ref (rb i)), some (.int y1), some (.int y2)]) (q := 4) rfl dX1_looseWords_3 (Nat.le_of_ble_eq_true rfl) (fun _ => rfl) (fun y2 => ?_)
  exact e_X1_looseWords_4 hi 400 y1 y2 s
def fX1_isOneOf_10 (s : SX) : Option (Int32 × SX) :=
  some (1, s)
set_option maxRecDepth 100000 in
set_option maxHeartbeats 4000000 in
theorem e_X1_isOneOf_10 {G : Cf} {t : SM}  (s : SX) : R (wfX t) inI G M_X1_isOneOf 10 [none, none, none] [] s (fX1_isOneOf_10 s) := by
  unfold fX1_isOneOf_10
  refine rr_iconst 1 (q := 11) rfl dX1_isOneOf_10 rfl ?_
  refine rr_goto 15 dX1_isOneOf_11 rfl ?_
  exact rr_zret dX1_isOneOf_15 rfl (Or.inr rfl)
def fX1_isOneOf (l0 : Int32) (l1 : Int32) (l2 : Int32) (s : SX) : Option (Int32 × SX) :=
  (if l0 = l1 then
  fX1_isOneOf_10 s
  else
  (if l0 = l2 then
  fX1_isOneOf_10 s
  else
  some (0, s)))
set_option maxRecDepth 100000 in
set_option maxHeartbeats 4000000 in
theorem e_X1_isOneOf {G : Cf} {t : SM} (l0 : Int32) (l1 : Int32) (l2 : Int32) (s : SX) : Ct (wfX t) inI G M_X1_isOneOf [.int l0, .int l1, .int l2] s (fX1_isOneOf l0 l1 l2 s) := by
  refine Ct.of (L0 := [some (.int l0), some (.int l1), some (.int l2)]) 0 rfl rfl ⟨rfl, rfl⟩ (Nat.le_of_ble_eq_true rfl) rfl ?_
  unfold fX1_isOneOf
  refine rr_iload_n (q := 1) rfl dX1_isOneOf_0 rfl ?_
  refine rr_iload_n (q := 2) rfl dX1_isOneOf_1 rfl ?_
  refine rr_icmp_eq 10 (q := 5) rfl dX1_isOneOf_2 rfl (fun _ => ?_) (fun _ => ?_)
  · refine rr_mask [false, false, false] (L' := [none, none, none]) rfl ?_
    exact e_X1_isOneOf_10 s
  · refine rr_iload_n (q := 6) rfl dX1_isOneOf_5 rfl ?_
    refine rr_iload_n (q := 7) rfl dX1_isOneOf_6 rfl ?_
    refine rr_icmp_ne 14 (q := 10) rfl dX1_isOneOf_7 rfl (fun _ => ?_) (fun _ => ?_)
    · refine rr_iconst 0 (q := 15) rfl dX1_isOneOf_14 rfl ?_
      exact rr_zret dX1_isOneOf_15 rfl (Or.inl rfl)
    · refine rr_mask [false, false, false] (L' := [none, none, none]) rfl ?_
      exact e_X1_isOneOf_10 s
def fX1_pactPays_63 (i : Nat) (k5 : Int32 → Int32 → Int32 → Int32 → SX → Option (Int32 × SX)) (l1 : Int32) (l2 : Int32) (l3 : Int32) (l4 : Int32) (s : SX) : Option (Int32 × SX) :=
  vl (l4 + 1) fun y26 =>
  k5 l1 l2 l3 y26 s
set_option maxRecDepth 100000 in
set_option maxHeartbeats 4000000 in
theorem e_X1_pactPays_63 {G : Cf} {t : SM} {i : Nat} (hi : i < 5) {k5 : Int32 → Int32 → Int32 → Int32 → SX → Option (Int32 × SX)} (hk5 : ∀ (l1 : Int32) (l2 : Int32) (l3 : Int32) (l4 : Int32) (s : SX), R (wfX t) inI G M_X1_pactPays 5 [some (.ref (rb i)), some (.int l1), some (.int l2), some (.int l3), some (.int l4), none] [] s (k5 l1 l2 l3 l4 s)) (l1 : Int32) (l2 : Int32) (l3 : Int32) (l4 : Int32) (s : SX) : R (wfX t) inI G M_X1_pactPays 63 [some (.ref (rb i)), some (.int l1), some (.int l2), some (.int l3), some (.int l4), none] [] s (fX1_pactPays_63 i k5 l1 l2 l3 l4 s) := by
  unfold fX1_pactPays_63
  refine rr_iinc (L2 := fun y26 => [some (.ref (rb i)), some (.int l1), some (.int l2), some (.int l3), some (.int y26), none]) (q := 66) rfl dX1_pactPays_63 rfl rfl (Nat.le_of_ble_eq_true rfl) (fun _ => rfl) (fun y26 => ?_)
  refine rr_goto 5 dX1_pactPays_66 rfl ?_
  exact hk5 l1 l2 l3 y26 s
def fX1_pactPays_137 (i : Nat) (k87 : Int32 → Int32 → Int32 → Int32 → Int32 → SX → Option (Int32 × SX)) (l1 : Int32) (l2 : Int32) (l3 : Int32) (l4 : Int32) (l5 : Int32) (s : SX) : Option (Int32 × SX) :=
  vl (l5 + 1) fun y27 =>
  k87 l1 l2 l3 l4 y27 s
set_option maxRecDepth 100000 in
set_option maxHeartbeats 4000000 in
theorem e_X1_pactPays_137 {G : Cf} {t : SM} {i : Nat} (hi : i < 5) {k87 : Int32 → Int32 → Int32 → Int32 → Int32 → SX → Option (Int32 × SX)} (hk87 : ∀ (l1 : Int32) (l2 : Int32) (l3 : Int32) (l4 : Int32) (l5 : Int32) (s : SX), R (wfX t) inI G M_X1_pactPays 87 [some (.ref (rb i)), some (.int l1), some (.int l2), some (.int l3), some (.int l4), some (.int l5)] [] s (k87 l1 l2 l3 l4 l5 s)) (l1 : Int32) (l2 : Int32) (l3 : Int32) (l4 : Int32) (l5 : Int32) (s : SX) : R (wfX t) inI G M_X1_pactPays 137 [some (.ref (rb i)), some (.int l1), some (.int l2), some (.int l3), some (.int l4), some (.int l5)] [] s (fX1_pactPays_137 i k87 l1 l2 l3 l4 l5 s) := by
  unfold fX1_pactPays_137
  refine rr_iinc (L2 := fun y27 => [some (.ref (rb i)), some (.int l1), some (.int l2), some (.int l3), some (.int l4), some (.int y27)]) (q := 140) rfl dX1_pactPays_137 rfl rfl (Nat.le_of_ble_eq_true rfl) (fun _ => rfl) (fun y27 => ?_)
  refine rr_goto 87 dX1_pactPays_140 rfl ?_
  exact hk87 l1 l2 l3 l4 y27 s
def fX1_pactPays_87b (i : Nat) (k87 : Int32 → Int32 → Int32 → Int32 → Int32 → SX → Option (Int32 × SX)) (l1 : Int32) (l2 : Int32) (l3 : Int32) (l4 : Int32) (l5 : Int32) (s : SX) : Option (Int32 × SX) :=
  (if (gX s i 10 10) ≤ l5 then
  (if l3 ≤ l4 then
  some (0, s)
  else
  some (1, s))
  else
  ixg l5 14 fun n17 =>
  bd (fX1_isOneOf (gX s i 2 n17) l1 l2 s) fun v18 s19 =>
  (if v18 = 0 then
  fX1_pactPays_137 i k87 l1 l2 l3 l4 l5 s19
  else
  ixg l5 14 fun n20 =>
  bd (fX1_isOneOf (gX s19 i 3 n20) l1 l2 s19) fun v21 s22 =>
  (if v21 = 0 then
  bd (fX1_lossOf i l5 s22) fun v23 s24 =>
  vl (l4 + v23) fun y25 =>
  fX1_pactPays_137 i k87 l1 l2 l3 y25 l5 s24
  else
  fX1_pactPays_137 i k87 l1 l2 l3 l4 l5 s22)))
set_option maxRecDepth 100000 in
set_option maxHeartbeats 4000000 in
theorem e_X1_pactPays_87b {G : Cf} {t : SM} {i : Nat} (hi : i < 5) {k87 : Int32 → Int32 → Int32 → Int32 → Int32 → SX → Option (Int32 × SX)} (hk87 : ∀ (l1 : Int32) (l2 : Int32) (l3 : Int32) (l4 : Int32) (l5 : Int32) (s : SX), R (wfX t) inI G M_X1_pactPays 87 [some (.ref (rb i)), some (.int l1), some (.int l2), some (.int l3), some (.int l4), some (.int l5)] [] s (k87 l1 l2 l3 l4 l5 s)) (l1 : Int32) (l2 : Int32) (l3 : Int32) (l4 : Int32) (l5 : Int32) (s : SX) : R (wfX t) inI G M_X1_pactPays 87 [some (.ref (rb i)), some (.int l1), some (.int l2), some (.int l3), some (.int l4), some (.int l5)] [] s (fX1_pactPays_87b i k87 l1 l2 l3 l4 l5 s) := by
  unfold fX1_pactPays_87b
  refine rr_iload (q := 89) rfl dX1_pactPays_87 rfl ?_
  refine rr_aload_n (q := 90) rfl dX1_pactPays_89 rfl ?_
  refine rr_get (q := 93) rfl fl_X1_48 (w_realm hi) rfl dX1_pactPays_90 ?_
  refine rr_icmp_ge 143 (q := 96) rfl dX1_pactPays_93 rfl (fun _ => ?_) (fun _ => ?_)
  · refine rr_iload_n (q := 144) rfl dX1_pactPays_143 rfl ?_
    refine rr_iload (q := 146) rfl dX1_pactPays_144 rfl ?_
    refine rr_icmp_le 153 (q := 149) rfl dX1_pactPays_146 rfl (fun _ => ?_) (fun _ => ?_)
    · refine rr_iconst 0 (q := 154) rfl dX1_pactPays_153 rfl ?_
      exact rr_zret dX1_pactPays_154 rfl (Or.inl rfl)
    · refine rr_iconst 1 (q := 150) rfl dX1_pactPays_149 rfl ?_
      refine rr_goto 154 dX1_pactPays_150 rfl ?_
      exact rr_zret dX1_pactPays_154 rfl (Or.inr rfl)
  · refine rr_aload_n (q := 97) rfl dX1_pactPays_96 rfl ?_
    refine rr_get (q := 100) rfl fl_X1_18 (w_realm hi) rfl dX1_pactPays_97 ?_
    refine rr_iload (q := 102) rfl dX1_pactPays_100 rfl ?_
    refine rr_iald (q := 103) rfl (w_rarr2 hi) dX1_pactPays_102 (fun n17 => ?_)
    refine rr_iload_n (q := 104) rfl dX1_pactPays_103 rfl ?_
    refine rr_iload_n (q := 105) rfl dX1_pactPays_104 rfl ?_
    refine rr_cSi (q := 108) rfl V_X1_isOneOf ml_X1_99 ⟨Nat.le_of_ble_eq_true rfl, Nat.le_of_ble_eq_true rfl⟩ (e_X1_isOneOf (gX s i 2 n17) l1 l2 s) rfl rfl (Nat.le_of_ble_eq_true rfl) dX1_pactPays_105 (fun v18 s19 => ?_)
    refine rr_if_eq 137 (q := 111) rfl dX1_pactPays_108 rfl (fun _ => ?_) (fun _ => ?_)
    · exact e_X1_pactPays_137 hi hk87 l1 l2 l3 l4 l5 s19
    · refine rr_aload_n (q := 112) rfl dX1_pactPays_111 rfl ?_
      refine rr_get (q := 115) rfl fl_X1_21 (w_realm hi) rfl dX1_pactPays_112 ?_
      refine rr_iload (q := 117) rfl dX1_pactPays_115 rfl ?_
      refine rr_iald (q := 118) rfl (w_rarr3 hi) dX1_pactPays_117 (fun n20 => ?_)
      refine rr_iload_n (q := 119) rfl dX1_pactPays_118 rfl ?_
      refine rr_iload_n (q := 120) rfl dX1_pactPays_119 rfl ?_
      refine rr_cSi (q := 123) rfl V_X1_isOneOf ml_X1_99 ⟨Nat.le_of_ble_eq_true rfl, Nat.le_of_ble_eq_true rfl⟩ (e_X1_isOneOf (gX s19 i 3 n20) l1 l2 s19) rfl rfl (Nat.le_of_ble_eq_true rfl) dX1_pactPays_120 (fun v21 s22 => ?_)
      refine rr_if_ne 137 (q := 126) rfl dX1_pactPays_123 rfl (fun _ => ?_) (fun _ => ?_)
      · exact e_X1_pactPays_137 hi hk87 l1 l2 l3 l4 l5 s22
      · refine rr_iload (q := 128) rfl dX1_pactPays_126 rfl ?_
        refine rr_aload_n (q := 129) rfl dX1_pactPays_128 rfl ?_
        refine rr_iload (q := 131) rfl dX1_pactPays_129 rfl ?_
        refine rr_cVi (q := 134) rfl V_X1_lossOf ml_X1_87 ⟨Nat.le_of_ble_eq_true rfl, Nat.le_of_ble_eq_true rfl⟩ (e_X1_lossOf hi l5 s22) (w_realm hi) rfl rfl rfl rfl (Nat.le_of_ble_eq_true rfl) dX1_pactPays_131 (fun v23 s24 => ?_)
        refine rr_iadd (q := 135) rfl dX1_pactPays_134 ?_
        refine rr_istore (L2 := fun y25 => [some (.ref (rb i)), some (.int l1), some (.int l2), some (.int l3), some (.int y25), some (.int l5)]) (q := 137) rfl dX1_pactPays_135 (Nat.le_of_ble_eq_true rfl) (fun _ => rfl) (fun y25 => ?_)
        exact e_X1_pactPays_137 hi hk87 l1 l2 l3 y25 l5 s24
def fX1_pactPays_87 (i : Nat) : Nat → Int32 → Int32 → Int32 → Int32 → Int32 → SX → Option (Int32 × SX) := lp (fun _ _ _ _ _ _ => none) (fX1_pactPays_87b i)
theorem e_X1_pactPays_87 {G : Cf} {t : SM} {i : Nat} (hi : i < 5)  (n : Nat) : ∀ (l1 : Int32) (l2 : Int32) (l3 : Int32) (l4 : Int32) (l5 : Int32) (s : SX), R (wfX t) inI G M_X1_pactPays 87 [some (.ref (rb i)), some (.int l1), some (.int l2), some (.int l3), some (.int l4), some (.int l5)] [] s (fX1_pactPays_87 i n l1 l2 l3 l4 l5 s) := by
  unfold fX1_pactPays_87
  exact rr_lp (P := fun (kz : Int32 → Int32 → Int32 → Int32 → Int32 → SX → Option (Int32 × SX)) => ∀ (l1 : Int32) (l2 : Int32) (l3 : Int32) (l4 : Int32) (l5 : Int32) (s : SX), R (wfX t) inI G M_X1_pactPays 87 [some (.ref (rb i)), some (.int l1), some (.int l2), some (.int l3), some (.int l4), some (.int l5)] [] s (kz l1 l2 l3 l4 l5 s)) (fun _ _ _ _ _ _ => rr_none) (fun kz hkz => fun l1 l2 l3 l4 l5 s => e_X1_pactPays_87b hi hkz l1 l2 l3 l4 l5 s) n
def fX1_pactPays_5b (i : Nat) (k5 : Int32 → Int32 → Int32 → Int32 → SX → Option (Int32 × SX)) (l1 : Int32) (l2 : Int32) (l3 : Int32) (l4 : Int32) (s : SX) : Option (Int32 × SX) :=
  (if (gX s i 10 11) ≤ l4 then
  ixg l1 6 fun n3 =>
  ixg l2 6 fun n4 =>
  vl ((gX s i 0 n3) + (gX s i 0 n4)) fun y5 =>
  vl 0 fun y6 =>
  fX1_pactPays_87 i 400 l1 l2 l3 y5 y6 s
  else
  bd (fX1_isInForce i l4 s) fun v7 s8 =>
  (if v7 = 0 then
  fX1_pactPays_63 i k5 l1 l2 l3 l4 s8
  else
  ixg l4 12 fun n9 =>
  bd (fX1_isOneOf (gX s8 i 5 n9) l1 l2 s8) fun v10 s11 =>
  (if v10 = 0 then
  fX1_pactPays_63 i k5 l1 l2 l3 l4 s11
  else
  ixg l4 12 fun n12 =>
  bd (fX1_isOneOf (gX s11 i 6 n12) l1 l2 s11) fun v13 s14 =>
  (if v13 = 0 then
  ixg l4 12 fun n15 =>
  vl (l3 + (gX s14 i 7 n15)) fun y16 =>
  fX1_pactPays_63 i k5 l1 l2 y16 l4 s14
  else
  fX1_pactPays_63 i k5 l1 l2 l3 l4 s14))))
set_option maxRecDepth 100000 in
set_option maxHeartbeats 4000000 in
theorem e_X1_pactPays_5b {G : Cf} {t : SM} {i : Nat} (hi : i < 5) {k5 : Int32 → Int32 → Int32 → Int32 → SX → Option (Int32 × SX)} (hk5 : ∀ (l1 : Int32) (l2 : Int32) (l3 : Int32) (l4 : Int32) (s : SX), R (wfX t) inI G M_X1_pactPays 5 [some (.ref (rb i)), some (.int l1), some (.int l2), some (.int l3), some (.int l4), none] [] s (k5 l1 l2 l3 l4 s)) (l1 : Int32) (l2 : Int32) (l3 : Int32) (l4 : Int32) (s : SX) : R (wfX t) inI G M_X1_pactPays 5 [some (.ref (rb i)), some (.int l1), some (.int l2), some (.int l3), some (.int l4), none] [] s (fX1_pactPays_5b i k5 l1 l2 l3 l4 s) := by
  unfold fX1_pactPays_5b
  refine rr_iload (q := 7) rfl dX1_pactPays_5 rfl ?_
  refine rr_aload_n (q := 8) rfl dX1_pactPays_7 rfl ?_
  refine rr_get (q := 11) rfl fl_X1_52 (w_realm hi) rfl dX1_pactPays_8 ?_
  refine rr_icmp_ge 69 (q := 14) rfl dX1_pactPays_11 rfl (fun _ => ?_) (fun _ => ?_)
  · refine rr_aload_n (q := 70) rfl dX1_pactPays_69 rfl ?_
    refine rr_get (q := 73) rfl fl_X1_9 (w_realm hi) rfl dX1_pactPays_70 ?_
    refine rr_iload_n (q := 74) rfl dX1_pactPays_73 rfl ?_
    refine rr_iald (q := 75) rfl (w_rarr0 hi) dX1_pactPays_74 (fun n3 => ?_)
    refine rr_aload_n (q := 76) rfl dX1_pactPays_75 rfl ?_
    refine rr_get (q := 79) rfl fl_X1_9 (w_realm hi) rfl dX1_pactPays_76 ?_
    refine rr_iload_n (q := 80) rfl dX1_pactPays_79 rfl ?_
    refine rr_iald (q := 81) rfl (w_rarr0 hi) dX1_pactPays_80 (fun n4 => ?_)
    refine rr_iadd (q := 82) rfl dX1_pactPays_81 ?_
    refine rr_istore (L2 := fun y5 => [some (.ref (rb i)), some (.int l1), some (.int l2), some (.int l3), some (.int y5), none]) (q := 84) rfl dX1_pactPays_82 (Nat.le_of_ble_eq_true rfl) (fun _ => rfl) (fun y5 => ?_)
    refine rr_iconst 0 (q := 85) rfl dX1_pactPays_84 rfl ?_
    refine rr_istore (L2 := fun y6 => [some (.ref (rb i)), some (.int l1), some (.int l2), some (.int l3), some (.int y5), some (.int y6)]) (q := 87) rfl dX1_pactPays_85 (Nat.le_of_ble_eq_true rfl) (fun _ => rfl) (fun y6 => ?_)
    exact e_X1_pactPays_87 hi 400 l1 l2 l3 y5 y6 s
  · refine rr_aload_n (q := 15) rfl dX1_pactPays_14 rfl ?_
    refine rr_iload (q := 17) rfl dX1_pactPays_15 rfl ?_
    refine rr_cVi (q := 20) rfl V_X1_isInForce ml_X1_90 ⟨Nat.le_of_ble_eq_true rfl, Nat.le_of_ble_eq_true rfl⟩ (e_X1_isInForce hi l4 s) (w_realm hi) rfl rfl rfl rfl (Nat.le_of_ble_eq_true rfl) dX1_pactPays_17 (fun v7 s8 => ?_)
    refine rr_if_eq 63 (q := 23) rfl dX1_pactPays_20 rfl (fun _ => ?_) (fun _ => ?_)
    · exact e_X1_pactPays_63 hi hk5 l1 l2 l3 l4 s8
    · refine rr_aload_n (q := 24) rfl dX1_pactPays_23 rfl ?_
      refine rr_get (q := 27) rfl fl_X1_27 (w_realm hi) rfl dX1_pactPays_24 ?_
      refine rr_iload (q := 29) rfl dX1_pactPays_27 rfl ?_
      refine rr_iald (q := 30) rfl (w_rarr5 hi) dX1_pactPays_29 (fun n9 => ?_)
      refine rr_iload_n (q := 31) rfl dX1_pactPays_30 rfl ?_
      refine rr_iload_n (q := 32) rfl dX1_pactPays_31 rfl ?_
      refine rr_cSi (q := 35) rfl V_X1_isOneOf ml_X1_99 ⟨Nat.le_of_ble_eq_true rfl, Nat.le_of_ble_eq_true rfl⟩ (e_X1_isOneOf (gX s8 i 5 n9) l1 l2 s8) rfl rfl (Nat.le_of_ble_eq_true rfl) dX1_pactPays_32 (fun v10 s11 => ?_)
      refine rr_if_eq 63 (q := 38) rfl dX1_pactPays_35 rfl (fun _ => ?_) (fun _ => ?_)
      · exact e_X1_pactPays_63 hi hk5 l1 l2 l3 l4 s11
      · refine rr_aload_n (q := 39) rfl dX1_pactPays_38 rfl ?_
        refine rr_get (q := 42) rfl fl_X1_30 (w_realm hi) rfl dX1_pactPays_39 ?_
        refine rr_iload (q := 44) rfl dX1_pactPays_42 rfl ?_
        refine rr_iald (q := 45) rfl (w_rarr6 hi) dX1_pactPays_44 (fun n12 => ?_)
        refine rr_iload_n (q := 46) rfl dX1_pactPays_45 rfl ?_
        refine rr_iload_n (q := 47) rfl dX1_pactPays_46 rfl ?_
        refine rr_cSi (q := 50) rfl V_X1_isOneOf ml_X1_99 ⟨Nat.le_of_ble_eq_true rfl, Nat.le_of_ble_eq_true rfl⟩ (e_X1_isOneOf (gX s11 i 6 n12) l1 l2 s11) rfl rfl (Nat.le_of_ble_eq_true rfl) dX1_pactPays_47 (fun v13 s14 => ?_)
        refine rr_if_ne 63 (q := 53) rfl dX1_pactPays_50 rfl (fun _ => ?_) (fun _ => ?_)
        · exact e_X1_pactPays_63 hi hk5 l1 l2 l3 l4 s14
        · refine rr_iload_n (q := 54) rfl dX1_pactPays_53 rfl ?_
          refine rr_aload_n (q := 55) rfl dX1_pactPays_54 rfl ?_
          refine rr_get (q := 58) rfl fl_X1_33 (w_realm hi) rfl dX1_pactPays_55 ?_
          refine rr_iload (q := 60) rfl dX1_pactPays_58 rfl ?_
          refine rr_iald (q := 61) rfl (w_rarr7 hi) dX1_pactPays_60 (fun n15 => ?_)
          refine rr_iadd (q := 62) rfl dX1_pactPays_61 ?_
          refine rr_istore_n (L2 := fun y16 => [some (.ref (rb i)), some (.int l1), some (.int l2), some (.int y16), some (.int l4), none]) (q := 63) rfl dX1_pactPays_62 (Nat.le_of_ble_eq_true rfl) (fun _ => rfl) (fun y16 => ?_)
          exact e_X1_pactPays_63 hi hk5 l1 l2 y16 l4 s14
def fX1_pactPays_5 (i : Nat) : Nat → Int32 → Int32 → Int32 → Int32 → SX → Option (Int32 × SX) := lp (fun _ _ _ _ _ => none) (fX1_pactPays_5b i)
theorem e_X1_pactPays_5 {G : Cf} {t : SM} {i : Nat} (hi : i < 5)  (n : Nat) : ∀ (l1 : Int32) (l2 : Int32) (l3 : Int32) (l4 : Int32) (s : SX), R (wfX t) inI G M_X1_pactPays 5 [some (.ref (rb i)), some (.int l1), some (.int l2), some (.int l3), some (.int l4), none] [] s (fX1_pactPays_5 i n l1 l2 l3 l4 s) := by
  unfold fX1_pactPays_5
  exact rr_lp (P := fun (kz : Int32 → Int32 → Int32 → Int32 → SX → Option (Int32 × SX)) => ∀ (l1 : Int32) (l2 : Int32) (l3 : Int32) (l4 : Int32) (s : SX), R (wfX t) inI G M_X1_pactPays 5 [some (.ref (rb i)), some (.int l1), some (.int l2), some (.int l3), some (.int l4), none] [] s (kz l1 l2 l3 l4 s)) (fun _ _ _ _ _ => rr_none) (fun kz hkz => fun l1 l2 l3 l4 s => e_X1_pactPays_5b hi hkz l1 l2 l3 l4 s) n
def fX1_pactPays (i : Nat) (l1 : Int32) (l2 : Int32) (s : SX) : Option (Int32 × SX) :=
  vl 0 fun y1 =>
  vl 0 fun y2 =>
  fX1_pactPays_5 i 400 l1 l2 y1 y2 s
set_option maxRecDepth 100000 in
set_option maxHeartbeats 4000000 in
theorem e_X1_pactPays {G : Cf} {t : SM} {i : Nat} (hi : i < 5) (l1 : Int32) (l2 : Int32) (s : SX) : Ct (wfX t) inI G M_X1_pactPays [.ref (rb i), .int l1, .int l2] s (fX1_pactPays i l1 l2 s) := by
  refine Ct.of (L0 := [some (.ref (rb i)), some (.int l1), some (.int l2), none, none, none]) 3 rfl rfl ⟨rfl, rfl⟩ (Nat.le_of_ble_eq_true rfl) rfl ?_
  unfold fX1_pactPays
  refine rr_iconst 0 (q := 1) rfl dX1_pactPays_0 rfl ?_
  refine rr_istore_n (L2 := fun y1 => [some (.ref (rb i)), some (.int l1), some (.int l2), some (.int y1), none, none]) (q := 2) rfl dX1_pactPays_1 (Nat.le_of_ble_eq_true rfl) (fun _ => rfl) (fun y1 => ?_)
  refine rr_iconst 0 (q := 3) rfl dX1_pactPays_2 rfl ?_
  refine rr_istore (L2 := fun y2 => [some (.ref (rb i)), some (.int l1), some (.int l2), some (.int y1), some (.int y2), none]) (q := 5) rfl dX1_pactPays_3 (Nat.le_of_ble_eq_true rfl) (fun _ => rfl) (fun y2 => ?_)
  exact e_X1_pactPays_5 hi 400 l1 l2 y1 y2 s
def fX1_breakWords_53 (i : Nat) (k12 : Int32 → Int32 → SX → Option (Unit × SX)) (l1 : Int32) (l2 : Int32) (s : SX) : Option (Unit × SX) :=
  vl (l2 + 1) fun y8 =>
  k12 l1 y8 s
set_option maxRecDepth 100000 in
set_option maxHeartbeats 4000000 in
theorem e_X1_breakWords_53 {G : Cf} {t : SM} {i : Nat} (hi : i < 5) {k12 : Int32 → Int32 → SX → Option (Unit × SX)} (hk12 : ∀ (l1 : Int32) (l2 : Int32) (s : SX), R (wfX t) inU G M_X1_breakWords 12 [some (.ref (rb i)), some (.int l1), some (.int l2)] [] s (k12 l1 l2 s)) (l1 : Int32) (l2 : Int32) (s : SX) : R (wfX t) inU G M_X1_breakWords 53 [some (.ref (rb i)), some (.int l1), some (.int l2)] [] s (fX1_breakWords_53 i k12 l1 l2 s) := by
  unfold fX1_breakWords_53
  refine rr_iinc (L2 := fun y8 => [some (.ref (rb i)), some (.int l1), some (.int y8)]) (q := 56) rfl dX1_breakWords_53 rfl rfl (Nat.le_of_ble_eq_true rfl) (fun _ => rfl) (fun y8 => ?_)
  refine rr_goto 12 dX1_breakWords_56 rfl ?_
  exact hk12 l1 y8 s
def fX1_breakWords_12b (i : Nat) (k12 : Int32 → Int32 → SX → Option (Unit × SX)) (l1 : Int32) (l2 : Int32) (s : SX) : Option (Unit × SX) :=
  (if (gX s i 10 11) ≤ l2 then
  some ((), s)
  else
  (if ((l1 >>> (l2 &&& 31)) &&& 1) = 0 then
  fX1_breakWords_53 i k12 l1 l2 s
  else
  ixg l2 12 fun n3 =>
  ixg l2 12 fun n4 =>
  bd (fX1_heldBy i (gX s i 6 n3) (gX s i 5 n4) s) fun v5 s6 =>
  vl (wX s6 i 10 12 ((gX s i 10 12) ||| v5)) fun s7 =>
  fX1_breakWords_53 i k12 l1 l2 s7))
set_option maxRecDepth 100000 in
set_option maxHeartbeats 4000000 in
theorem e_X1_breakWords_12b {G : Cf} {t : SM} {i : Nat} (hi : i < 5) {k12 : Int32 → Int32 → SX → Option (Unit × SX)} (hk12 : ∀ (l1 : Int32) (l2 : Int32) (s : SX), R (wfX t) inU G M_X1_breakWords 12 [some (.ref (rb i)), some (.int l1), some (.int l2)] [] s (k12 l1 l2 s)) (l1 : Int32) (l2 : Int32) (s : SX) : R (wfX t) inU G M_X1_breakWords 12 [some (.ref (rb i)), some (.int l1), some (.int l2)] [] s (fX1_breakWords_12b i k12 l1 l2 s) := by
  unfold fX1_breakWords_12b
  refine rr_iload_n (q := 13) rfl dX1_breakWords_12 rfl ?_
  refine rr_aload_n (q := 14) rfl dX1_breakWords_13 rfl ?_
  refine rr_get (q := 17) rfl fl_X1_52 (w_realm hi) rfl dX1_breakWords_14 ?_
  refine rr_icmp_ge 59 (q := 20) rfl dX1_breakWords_17 rfl (fun _ => ?_) (fun _ => ?_)
  · exact rr_vret dX1_breakWords_59 rfl
  · refine rr_iload_n (q := 21) rfl dX1_breakWords_20 rfl ?_
    refine rr_iload_n (q := 22) rfl dX1_breakWords_21 rfl ?_
    refine rr_ishr (q := 23) rfl dX1_breakWords_22 ?_
    refine rr_iconst 1 (q := 24) rfl dX1_breakWords_23 rfl ?_
    refine rr_iand (q := 25) rfl dX1_breakWords_24 ?_
    refine rr_if_eq 53 (q := 28) rfl dX1_breakWords_25 rfl (fun _ => ?_) (fun _ => ?_)
    · exact e_X1_breakWords_53 hi hk12 l1 l2 s
    · refine rr_aload_n (q := 29) rfl dX1_breakWords_28 rfl ?_
      refine rr_dup (q := 30) rfl dX1_breakWords_29 rfl ?_
      refine rr_get (q := 33) rfl fl_X1_55 (w_realm hi) rfl dX1_breakWords_30 ?_
      refine rr_aload_n (q := 34) rfl dX1_breakWords_33 rfl ?_
      refine rr_aload_n (q := 35) rfl dX1_breakWords_34 rfl ?_
      refine rr_get (q := 38) rfl fl_X1_30 (w_realm hi) rfl dX1_breakWords_35 ?_
      refine rr_iload_n (q := 39) rfl dX1_breakWords_38 rfl ?_
      refine rr_iald (q := 40) rfl (w_rarr6 hi) dX1_breakWords_39 (fun n3 => ?_)
      refine rr_aload_n (q := 41) rfl dX1_breakWords_40 rfl ?_
      refine rr_get (q := 44) rfl fl_X1_27 (w_realm hi) rfl dX1_breakWords_41 ?_
      refine rr_iload_n (q := 45) rfl dX1_breakWords_44 rfl ?_
      refine rr_iald (q := 46) rfl (w_rarr5 hi) dX1_breakWords_45 (fun n4 => ?_)
      refine rr_cVi (q := 49) rfl V_X1_heldBy ml_X1_84 ⟨Nat.le_of_ble_eq_true rfl, Nat.le_of_ble_eq_true rfl⟩ (e_X1_heldBy hi (gX s i 6 n3) (gX s i 5 n4) s) (w_realm hi) rfl rfl rfl rfl (Nat.le_of_ble_eq_true rfl) dX1_breakWords_46 (fun v5 s6 => ?_)
      refine rr_ior (q := 50) rfl dX1_breakWords_49 ?_
      refine rr_puti (q := 53) rfl fl_X1_55 fp_X1_12 (w_realm hi) (Nat.le_of_ble_eq_true rfl) (u_realm12 hi) dX1_breakWords_50 (fun s7 => ?_)
      exact e_X1_breakWords_53 hi hk12 l1 l2 s7
def fX1_breakWords_12 (i : Nat) : Nat → Int32 → Int32 → SX → Option (Unit × SX) := lp (fun _ _ _ => none) (fX1_breakWords_12b i)
theorem e_X1_breakWords_12 {G : Cf} {t : SM} {i : Nat} (hi : i < 5)  (n : Nat) : ∀ (l1 : Int32) (l2 : Int32) (s : SX), R (wfX t) inU G M_X1_breakWords 12 [some (.ref (rb i)), some (.int l1), some (.int l2)] [] s (fX1_breakWords_12 i n l1 l2 s) := by
  unfold fX1_breakWords_12
  exact rr_lp (P := fun (kz : Int32 → Int32 → SX → Option (Unit × SX)) => ∀ (l1 : Int32) (l2 : Int32) (s : SX), R (wfX t) inU G M_X1_breakWords 12 [some (.ref (rb i)), some (.int l1), some (.int l2)] [] s (kz l1 l2 s)) (fun _ _ _ => rr_none) (fun kz hkz => fun l1 l2 s => e_X1_breakWords_12b hi hkz l1 l2 s) n
def fX1_breakWords (i : Nat) (l1 : Int32) (s : SX) : Option (Unit × SX) :=
  vl (wX s i 10 13 ((gX s i 10 13) ||| l1)) fun s1 =>
  vl 0 fun y2 =>
  fX1_breakWords_12 i 400 l1 y2 s1
set_option maxRecDepth 100000 in
set_option maxHeartbeats 4000000 in
theorem e_X1_breakWords {G : Cf} {t : SM} {i : Nat} (hi : i < 5) (l1 : Int32) (s : SX) : Ct (wfX t) inU G M_X1_breakWords [.ref (rb i), .int l1] s (fX1_breakWords i l1 s) := by
  refine Ct.of (L0 := [some (.ref (rb i)), some (.int l1), none]) 1 rfl rfl ⟨rfl, rfl⟩ (Nat.le_of_ble_eq_true rfl) rfl ?_
  unfold fX1_breakWords
  refine rr_aload_n (q := 1) rfl dX1_breakWords_0 rfl ?_
  refine rr_dup (q := 2) rfl dX1_breakWords_1 rfl ?_
  refine rr_get (q := 5) rfl fl_X1_58 (w_realm hi) rfl dX1_breakWords_2 ?_
  refine rr_iload_n (q := 6) rfl dX1_breakWords_5 rfl ?_
  refine rr_ior (q := 7) rfl dX1_breakWords_6 ?_
  refine rr_puti (q := 10) rfl fl_X1_58 fp_X1_13 (w_realm hi) (Nat.le_of_ble_eq_true rfl) (u_realm13 hi) dX1_breakWords_7 (fun s1 => ?_)
  refine rr_iconst 0 (q := 11) rfl dX1_breakWords_10 rfl ?_
  refine rr_istore_n (L2 := fun y2 => [some (.ref (rb i)), some (.int l1), some (.int y2)]) (q := 12) rfl dX1_breakWords_11 (Nat.le_of_ble_eq_true rfl) (fun _ => rfl) (fun y2 => ?_)
  exact e_X1_breakWords_12 hi 400 l1 y2 s1
def fX1_bringDown_2b (i : Nat) (k2 : Int32 → SX → Option (Int32 × SX)) (l1 : Int32) (s : SX) : Option (Int32 × SX) :=
  (if 12 ≤ l1 then
  some (12, s)
  else
  bd (fX1_looseWords i s) fun v2 s3 =>
  vl v2 fun y4 =>
  (if y4 = 0 then
  some (l1, s3)
  else
  bd (fX1_breakWords i y4 s3) fun _ s5 =>
  vl (l1 + 1) fun y6 =>
  k2 y6 s5))
set_option maxRecDepth 100000 in
set_option maxHeartbeats 4000000 in
theorem e_X1_bringDown_2b {G : Cf} {t : SM} {i : Nat} (hi : i < 5) {k2 : Int32 → SX → Option (Int32 × SX)} (hk2 : ∀ (l1 : Int32) (s : SX), R (wfX t) inI G M_X1_bringDown 2 [some (.ref (rb i)), some (.int l1), none] [] s (k2 l1 s)) (l1 : Int32) (s : SX) : R (wfX t) inI G M_X1_bringDown 2 [some (.ref (rb i)), some (.int l1), none] [] s (fX1_bringDown_2b i k2 l1 s) := by
  unfold fX1_bringDown_2b
  refine rr_iload_n (q := 3) rfl dX1_bringDown_2 rfl ?_
  refine rr_bipush 12 (q := 5) rfl dX1_bringDown_3 rfl ?_
  refine rr_icmp_ge 30 (q := 8) rfl dX1_bringDown_5 rfl (fun _ => ?_) (fun _ => ?_)
  · refine rr_bipush 12 (q := 32) rfl dX1_bringDown_30 rfl ?_
    exact rr_iret dX1_bringDown_32 rfl
  · refine rr_aload_n (q := 9) rfl dX1_bringDown_8 rfl ?_
    refine rr_cVi (q := 12) rfl V_X1_looseWords ml_X1_103 ⟨Nat.le_of_ble_eq_true rfl, Nat.le_of_ble_eq_true rfl⟩ (e_X1_looseWords hi s) (w_realm hi) rfl rfl rfl rfl (Nat.le_of_ble_eq_true rfl) dX1_bringDown_9 (fun v2 s3 => ?_)
    refine rr_istore_n (L2 := fun y4 => [some (.ref (rb i)), some (.int l1), some (.int y4)]) (q := 13) rfl dX1_bringDown_12 (Nat.le_of_ble_eq_true rfl) (fun _ => rfl) (fun y4 => ?_)
    refine rr_iload_n (q := 14) rfl dX1_bringDown_13 rfl ?_
    refine rr_if_ne 19 (q := 17) rfl dX1_bringDown_14 rfl (fun _ => ?_) (fun _ => ?_)
    · refine rr_aload_n (q := 20) rfl dX1_bringDown_19 rfl ?_
      refine rr_iload_n (q := 21) rfl dX1_bringDown_20 rfl ?_
      refine rr_cVu (q := 24) rfl V_X1_breakWords ml_X1_107 ⟨Nat.le_of_ble_eq_true rfl, Nat.le_of_ble_eq_true rfl⟩ (e_X1_breakWords hi y4 s3) (w_realm hi) rfl rfl rfl rfl (Nat.le_of_ble_eq_true rfl) dX1_bringDown_21 (fun _ s5 => ?_)
      refine rr_iinc (L2 := fun y6 => [some (.ref (rb i)), some (.int y6), some (.int y4)]) (q := 27) rfl dX1_bringDown_24 rfl rfl (Nat.le_of_ble_eq_true rfl) (fun _ => rfl) (fun y6 => ?_)
      refine rr_goto 2 dX1_bringDown_27 rfl ?_
      refine rr_mask [true, true, false] (L' := [some (.ref (rb i)), some (.int y6), none]) rfl ?_
      exact hk2 y6 s5
    · refine rr_iload_n (q := 18) rfl dX1_bringDown_17 rfl ?_
      exact rr_iret dX1_bringDown_18 rfl
def fX1_bringDown_2 (i : Nat) : Nat → Int32 → SX → Option (Int32 × SX) := lp (fun _ _ => none) (fX1_bringDown_2b i)
theorem e_X1_bringDown_2 {G : Cf} {t : SM} {i : Nat} (hi : i < 5)  (n : Nat) : ∀ (l1 : Int32) (s : SX), R (wfX t) inI G M_X1_bringDown 2 [some (.ref (rb i)), some (.int l1), none] [] s (fX1_bringDown_2 i n l1 s) := by
  unfold fX1_bringDown_2
  exact rr_lp (P := fun (kz : Int32 → SX → Option (Int32 × SX)) => ∀ (l1 : Int32) (s : SX), R (wfX t) inI G M_X1_bringDown 2 [some (.ref (rb i)), some (.int l1), none] [] s (kz l1 s)) (fun _ _ => rr_none) (fun kz hkz => fun l1 s => e_X1_bringDown_2b hi hkz l1 s) n
def fX1_bringDown (i : Nat) (s : SX) : Option (Int32 × SX) :=
  vl 0 fun y1 =>
  fX1_bringDown_2 i 400 y1 s
set_option maxRecDepth 100000 in
set_option maxHeartbeats 4000000 in
theorem e_X1_bringDown {G : Cf} {t : SM} {i : Nat} (hi : i < 5) (s : SX) : Ct (wfX t) inI G M_X1_bringDown [.ref (rb i)] s (fX1_bringDown i s) := by
  refine Ct.of (L0 := [some (.ref (rb i)), none, none]) 2 rfl rfl ⟨rfl, rfl⟩ (Nat.le_of_ble_eq_true rfl) rfl ?_
  unfold fX1_bringDown
  refine rr_iconst 0 (q := 1) rfl dX1_bringDown_0 rfl ?_
  refine rr_istore_n (L2 := fun y1 => [some (.ref (rb i)), some (.int y1), none]) (q := 2) rfl dX1_bringDown_1 (Nat.le_of_ble_eq_true rfl) (fun _ => rfl) (fun y1 => ?_)
  exact e_X1_bringDown_2 hi 400 y1 s
def fX1_pass (i : Nat) (l1 : Int32) (s : SX) : Option (Unit × SX) :=
  (if l1 ≤ 0 then
  some ((), s)
  else
  bd (fX1_bringDown i s) fun v1 s2 =>
  vl (wX s2 i 10 14 ((gX s2 i 10 14) + l1)) fun s3 =>
  some ((), s3))
set_option maxRecDepth 100000 in
set_option maxHeartbeats 4000000 in
theorem e_X1_pass {G : Cf} {t : SM} {i : Nat} (hi : i < 5) (l1 : Int32) (s : SX) : Ct (wfX t) inU G M_X1_pass [.ref (rb i), .int l1] s (fX1_pass i l1 s) := by
  refine Ct.of (L0 := [some (.ref (rb i)), some (.int l1)]) 0 rfl rfl ⟨rfl, rfl⟩ (Nat.le_of_ble_eq_true rfl) rfl ?_
  unfold fX1_pass
  refine rr_iload_n (q := 1) rfl dX1_pass_0 rfl ?_
  refine rr_if_le 19 (q := 4) rfl dX1_pass_1 rfl (fun _ => ?_) (fun _ => ?_)
  · exact rr_vret dX1_pass_19 rfl
  · refine rr_aload_n (q := 5) rfl dX1_pass_4 rfl ?_
    refine rr_cVi (q := 8) rfl V_X1_bringDown ml_X1_111 ⟨Nat.le_of_ble_eq_true rfl, Nat.le_of_ble_eq_true rfl⟩ (e_X1_bringDown hi s) (w_realm hi) rfl rfl rfl rfl (Nat.le_of_ble_eq_true rfl) dX1_pass_5 (fun v1 s2 => ?_)
    refine rr_pop (q := 9) rfl dX1_pass_8 rfl ?_
    refine rr_aload_n (q := 10) rfl dX1_pass_9 rfl ?_
    refine rr_dup (q := 11) rfl dX1_pass_10 rfl ?_
    refine rr_get (q := 14) rfl fl_X1_61 (w_realm hi) rfl dX1_pass_11 ?_
    refine rr_iload_n (q := 15) rfl dX1_pass_14 rfl ?_
    refine rr_iadd (q := 16) rfl dX1_pass_15 ?_
    refine rr_puti (q := 19) rfl fl_X1_61 fp_X1_14 (w_realm hi) (Nat.le_of_ble_eq_true rfl) (u_realm14 hi) dX1_pass_16 (fun s3 => ?_)
    exact rr_vret dX1_pass_19 rfl
def fX1_become (i : Nat) (j : Nat) (s : SX) : Option (Unit × SX) :=
  vl (rX s i 0 (va_cpy (gX s j 0) (gX s i 0) (0 : Int32).toNatClampNeg (0 : Int32).toNatClampNeg (6 : Int32).toNatClampNeg)) fun s1 =>
  vl (rX s1 i 1 (va_cpy (gX s1 j 1) (gX s1 i 1) (0 : Int32).toNatClampNeg (0 : Int32).toNatClampNeg (14 : Int32).toNatClampNeg)) fun s2 =>
  vl (rX s2 i 2 (va_cpy (gX s2 j 2) (gX s2 i 2) (0 : Int32).toNatClampNeg (0 : Int32).toNatClampNeg (14 : Int32).toNatClampNeg)) fun s3 =>
  vl (rX s3 i 3 (va_cpy (gX s3 j 3) (gX s3 i 3) (0 : Int32).toNatClampNeg (0 : Int32).toNatClampNeg (14 : Int32).toNatClampNeg)) fun s4 =>
  vl (rX s4 i 4 (va_cpy (gX s4 j 4) (gX s4 i 4) (0 : Int32).toNatClampNeg (0 : Int32).toNatClampNeg (14 : Int32).toNatClampNeg)) fun s5 =>
  vl (rX s5 i 5 (va_cpy (gX s5 j 5) (gX s5 i 5) (0 : Int32).toNatClampNeg (0 : Int32).toNatClampNeg (12 : Int32).toNatClampNeg)) fun s6 =>
  vl (rX s6 i 6 (va_cpy (gX s6 j 6) (gX s6 i 6) (0 : Int32).toNatClampNeg (0 : Int32).toNatClampNeg (12 : Int32).toNatClampNeg)) fun s7 =>
  vl (rX s7 i 7 (va_cpy (gX s7 j 7) (gX s7 i 7) (0 : Int32).toNatClampNeg (0 : Int32).toNatClampNeg (12 : Int32).toNatClampNeg)) fun s8 =>
  vl (rX s8 i 8 (va_cpy (gX s8 j 8) (gX s8 i 8) (0 : Int32).toNatClampNeg (0 : Int32).toNatClampNeg (12 : Int32).toNatClampNeg)) fun s9 =>
  vl (wX s9 i 10 10 (gX s9 j 10 10)) fun s10 =>
  vl (wX s10 i 10 11 (gX s10 j 10 11)) fun s11 =>
  vl (wX s11 i 10 12 (gX s11 j 10 12)) fun s12 =>
  vl (wX s12 i 10 13 (gX s12 j 10 13)) fun s13 =>
  vl (wX s13 i 10 14 (gX s13 j 10 14)) fun s14 =>
  some ((), s14)
set_option maxRecDepth 100000 in
set_option maxHeartbeats 4000000 in
theorem e_X1_become {G : Cf} {t : SM} {i : Nat} {j : Nat} (hi : i < 5) (hj : j < 5) (s : SX) : Ct (wfX t) inU G M_X1_become [.ref (rb i), .ref (rb j)] s (fX1_become i j s) := by
  refine Ct.of (L0 := [some (.ref (rb i)), some (.ref (rb j))]) 0 rfl rfl ⟨rfl, rfl⟩ (Nat.le_of_ble_eq_true rfl) rfl ?_
  unfold fX1_become
  refine rr_aload_n (q := 1) rfl dX1_become_0 rfl ?_
  refine rr_get (q := 4) rfl fl_X1_9 (w_realm hj) rfl dX1_become_1 ?_
  refine rr_iconst 0 (q := 5) rfl dX1_become_4 rfl ?_
  refine rr_aload_n (q := 6) rfl dX1_become_5 rfl ?_
  refine rr_get (q := 9) rfl fl_X1_9 (w_realm hi) rfl dX1_become_6 ?_
  refine rr_iconst 0 (q := 10) rfl dX1_become_9 rfl ?_
  refine rr_bipush 6 (q := 12) rfl dX1_become_10 rfl ?_
  refine rr_copyi (q := 15) rfl ml_X1_42 (w_rarr0 hj) (w_rarr0 hi) (by decide) (by decide) (by decide) (Nat.le_of_ble_eq_true rfl) (Nat.le_of_ble_eq_true rfl) (Nat.le_of_ble_eq_true rfl) (Nat.le_of_ble_eq_true rfl) (u_rarr0 hi) dX1_become_12 (fun s1 => ?_)
  refine rr_aload_n (q := 16) rfl dX1_become_15 rfl ?_
  refine rr_get (q := 19) rfl fl_X1_15 (w_realm hj) rfl dX1_become_16 ?_
  refine rr_iconst 0 (q := 20) rfl dX1_become_19 rfl ?_
  refine rr_aload_n (q := 21) rfl dX1_become_20 rfl ?_
  refine rr_get (q := 24) rfl fl_X1_15 (w_realm hi) rfl dX1_become_21 ?_
  refine rr_iconst 0 (q := 25) rfl dX1_become_24 rfl ?_
  refine rr_bipush 14 (q := 27) rfl dX1_become_25 rfl ?_
  refine rr_copyi (q := 30) rfl ml_X1_42 (w_rarr1 hj) (w_rarr1 hi) (by decide) (by decide) (by decide) (Nat.le_of_ble_eq_true rfl) (Nat.le_of_ble_eq_true rfl) (Nat.le_of_ble_eq_true rfl) (Nat.le_of_ble_eq_true rfl) (u_rarr1 hi) dX1_become_27 (fun s2 => ?_)
  refine rr_aload_n (q := 31) rfl dX1_become_30 rfl ?_
  refine rr_get (q := 34) rfl fl_X1_18 (w_realm hj) rfl dX1_become_31 ?_
  refine rr_iconst 0 (q := 35) rfl dX1_become_34 rfl ?_
  refine rr_aload_n (q := 36) rfl dX1_become_35 rfl ?_
  refine rr_get (q := 39) rfl fl_X1_18 (w_realm hi) rfl dX1_become_36 ?_
  refine rr_iconst 0 (q := 40) rfl dX1_become_39 rfl ?_
  refine rr_bipush 14 (q := 42) rfl dX1_become_40 rfl ?_
  refine rr_copyi (q := 45) rfl ml_X1_42 (w_rarr2 hj) (w_rarr2 hi) (by decide) (by decide) (by decide) (Nat.le_of_ble_eq_true rfl) (Nat.le_of_ble_eq_true rfl) (Nat.le_of_ble_eq_true rfl) (Nat.le_of_ble_eq_true rfl) (u_rarr2 hi) dX1_become_42 (fun s3 => ?_)
  refine rr_aload_n (q := 46) rfl dX1_become_45 rfl ?_
  refine rr_get (q := 49) rfl fl_X1_21 (w_realm hj) rfl dX1_become_46 ?_
  refine rr_iconst 0 (q := 50) rfl dX1_become_49 rfl ?_
  refine rr_aload_n (q := 51) rfl dX1_become_50 rfl ?_
  refine rr_get (q := 54) rfl fl_X1_21 (w_realm hi) rfl dX1_become_51 ?_
  refine rr_iconst 0 (q := 55) rfl dX1_become_54 rfl ?_
  refine rr_bipush 14 (q := 57) rfl dX1_become_55 rfl ?_
  refine rr_copyi (q := 60) rfl ml_X1_42 (w_rarr3 hj) (w_rarr3 hi) (by decide) (by decide) (by decide) (Nat.le_of_ble_eq_true rfl) (Nat.le_of_ble_eq_true rfl) (Nat.le_of_ble_eq_true rfl) (Nat.le_of_ble_eq_true rfl) (u_rarr3 hi) dX1_become_57 (fun s4 => ?_)
  refine rr_aload_n (q := 61) rfl dX1_become_60 rfl ?_
  refine rr_get (q := 64) rfl fl_X1_24 (w_realm hj) rfl dX1_become_61 ?_
  refine rr_iconst 0 (q := 65) rfl dX1_become_64 rfl ?_
  refine rr_aload_n (q := 66) rfl dX1_become_65 rfl ?_
  refine rr_get (q := 69) rfl fl_X1_24 (w_realm hi) rfl dX1_become_66 ?_
  refine rr_iconst 0 (q := 70) rfl dX1_become_69 rfl ?_
  refine rr_bipush 14 (q := 72) rfl dX1_become_70 rfl ?_
  refine rr_copyi (q := 75) rfl ml_X1_42 (w_rarr4 hj) (w_rarr4 hi) (by decide) (by decide) (by decide) (Nat.le_of_ble_eq_true rfl) (Nat.le_of_ble_eq_true rfl) (Nat.le_of_ble_eq_true rfl) (Nat.le_of_ble_eq_true rfl) (u_rarr4 hi) dX1_become_72 (fun s5 => ?_)
  refine rr_aload_n (q := 76) rfl dX1_become_75 rfl ?_
  refine rr_get (q := 79) rfl fl_X1_27 (w_realm hj) rfl dX1_become_76 ?_
  refine rr_iconst 0 (q := 80) rfl dX1_become_79 rfl ?_
  refine rr_aload_n (q := 81) rfl dX1_become_80 rfl ?_
  refine rr_get (q := 84) rfl fl_X1_27 (w_realm hi) rfl dX1_become_81 ?_
  refine rr_iconst 0 (q := 85) rfl dX1_become_84 rfl ?_
  refine rr_bipush 12 (q := 87) rfl dX1_become_85 rfl ?_
  refine rr_copyi (q := 90) rfl ml_X1_42 (w_rarr5 hj) (w_rarr5 hi) (by decide) (by decide) (by decide) (Nat.le_of_ble_eq_true rfl) (Nat.le_of_ble_eq_true rfl) (Nat.le_of_ble_eq_true rfl) (Nat.le_of_ble_eq_true rfl) (u_rarr5 hi) dX1_become_87 (fun s6 => ?_)
  refine rr_aload_n (q := 91) rfl dX1_become_90 rfl ?_
  refine rr_get (q := 94) rfl fl_X1_30 (w_realm hj) rfl dX1_become_91 ?_
  refine rr_iconst 0 (q := 95) rfl dX1_become_94 rfl ?_
  refine rr_aload_n (q := 96) rfl dX1_become_95 rfl ?_
  refine rr_get (q := 99) rfl fl_X1_30 (w_realm hi) rfl dX1_become_96 ?_
  refine rr_iconst 0 (q := 100) rfl dX1_become_99 rfl ?_
  refine rr_bipush 12 (q := 102) rfl dX1_become_100 rfl ?_
  refine rr_copyi (q := 105) rfl ml_X1_42 (w_rarr6 hj) (w_rarr6 hi) (by decide) (by decide) (by decide) (Nat.le_of_ble_eq_true rfl) (Nat.le_of_ble_eq_true rfl) (Nat.le_of_ble_eq_true rfl) (Nat.le_of_ble_eq_true rfl) (u_rarr6 hi) dX1_become_102 (fun s7 => ?_)
  refine rr_aload_n (q := 106) rfl dX1_become_105 rfl ?_
  refine rr_get (q := 109) rfl fl_X1_33 (w_realm hj) rfl dX1_become_106 ?_
  refine rr_iconst 0 (q := 110) rfl dX1_become_109 rfl ?_
  refine rr_aload_n (q := 111) rfl dX1_become_110 rfl ?_
  refine rr_get (q := 114) rfl fl_X1_33 (w_realm hi) rfl dX1_become_111 ?_
  refine rr_iconst 0 (q := 115) rfl dX1_become_114 rfl ?_
  refine rr_bipush 12 (q := 117) rfl dX1_become_115 rfl ?_
  refine rr_copyi (q := 120) rfl ml_X1_42 (w_rarr7 hj) (w_rarr7 hi) (by decide) (by decide) (by decide) (Nat.le_of_ble_eq_true rfl) (Nat.le_of_ble_eq_true rfl) (Nat.le_of_ble_eq_true rfl) (Nat.le_of_ble_eq_true rfl) (u_rarr7 hi) dX1_become_117 (fun s8 => ?_)
  refine rr_aload_n (q := 121) rfl dX1_become_120 rfl ?_
  refine rr_get (q := 124) rfl fl_X1_36 (w_realm hj) rfl dX1_become_121 ?_
  refine rr_iconst 0 (q := 125) rfl dX1_become_124 rfl ?_
  refine rr_aload_n (q := 126) rfl dX1_become_125 rfl ?_
  refine rr_get (q := 129) rfl fl_X1_36 (w_realm hi) rfl dX1_become_126 ?_
  refine rr_iconst 0 (q := 130) rfl dX1_become_129 rfl ?_
  refine rr_bipush 12 (q := 132) rfl dX1_become_130 rfl ?_
  refine rr_copyi (q := 135) rfl ml_X1_42 (w_rarr8 hj) (w_rarr8 hi) (by decide) (by decide) (by decide) (Nat.le_of_ble_eq_true rfl) (Nat.le_of_ble_eq_true rfl) (Nat.le_of_ble_eq_true rfl) (Nat.le_of_ble_eq_true rfl) (u_rarr8 hi) dX1_become_132 (fun s9 => ?_)
  refine rr_aload_n (q := 136) rfl dX1_become_135 rfl ?_
  refine rr_aload_n (q := 137) rfl dX1_become_136 rfl ?_
  refine rr_get (q := 140) rfl fl_X1_48 (w_realm hj) rfl dX1_become_137 ?_
  refine rr_puti (q := 143) rfl fl_X1_48 fp_X1_10 (w_realm hi) (Nat.le_of_ble_eq_true rfl) (u_realm10 hi) dX1_become_140 (fun s10 => ?_)
  refine rr_aload_n (q := 144) rfl dX1_become_143 rfl ?_
  refine rr_aload_n (q := 145) rfl dX1_become_144 rfl ?_
  refine rr_get (q := 148) rfl fl_X1_52 (w_realm hj) rfl dX1_become_145 ?_
  refine rr_puti (q := 151) rfl fl_X1_52 fp_X1_11 (w_realm hi) (Nat.le_of_ble_eq_true rfl) (u_realm11 hi) dX1_become_148 (fun s11 => ?_)
  refine rr_aload_n (q := 152) rfl dX1_become_151 rfl ?_
  refine rr_aload_n (q := 153) rfl dX1_become_152 rfl ?_
  refine rr_get (q := 156) rfl fl_X1_55 (w_realm hj) rfl dX1_become_153 ?_
  refine rr_puti (q := 159) rfl fl_X1_55 fp_X1_12 (w_realm hi) (Nat.le_of_ble_eq_true rfl) (u_realm12 hi) dX1_become_156 (fun s12 => ?_)
  refine rr_aload_n (q := 160) rfl dX1_become_159 rfl ?_
  refine rr_aload_n (q := 161) rfl dX1_become_160 rfl ?_
  refine rr_get (q := 164) rfl fl_X1_58 (w_realm hj) rfl dX1_become_161 ?_
  refine rr_puti (q := 167) rfl fl_X1_58 fp_X1_13 (w_realm hi) (Nat.le_of_ble_eq_true rfl) (u_realm13 hi) dX1_become_164 (fun s13 => ?_)
  refine rr_aload_n (q := 168) rfl dX1_become_167 rfl ?_
  refine rr_aload_n (q := 169) rfl dX1_become_168 rfl ?_
  refine rr_get (q := 172) rfl fl_X1_61 (w_realm hj) rfl dX1_become_169 ?_
  refine rr_puti (q := 175) rfl fl_X1_61 fp_X1_14 (w_realm hi) (Nat.le_of_ble_eq_true rfl) (u_realm14 hi) dX1_become_172 (fun s14 => ?_)
  exact rr_vret dX1_become_175 rfl
def fX1_addChild (i : Nat) (l1 : Int32) (l2 : Int32) (l3 : Int32) (l4 : Int32) (s : SX) : Option (Int32 × SX) :=
  vl (gX s i 10 10) fun y1 =>
  ixg y1 14 fun n2 => vl (wX s i 1 n2 l1) fun s3 =>
  ixg y1 14 fun n4 => vl (wX s3 i 2 n4 l2) fun s5 =>
  ixg y1 14 fun n6 => vl (wX s5 i 3 n6 l3) fun s7 =>
  ixg y1 14 fun n8 => vl (wX s7 i 4 n8 l4) fun s9 =>
  vl (wX s9 i 10 10 ((gX s9 i 10 10) + 1)) fun s10 =>
  some (y1, s10)
set_option maxRecDepth 100000 in
set_option maxHeartbeats 4000000 in
theorem e_X1_addChild {G : Cf} {t : SM} {i : Nat} (hi : i < 5) (l1 : Int32) (l2 : Int32) (l3 : Int32) (l4 : Int32) (s : SX) : Ct (wfX t) inI G M_X1_addChild [.ref (rb i), .int l1, .int l2, .int l3, .int l4] s (fX1_addChild i l1 l2 l3 l4 s) := by
  refine Ct.of (L0 := [some (.ref (rb i)), some (.int l1), some (.int l2), some (.int l3), some (.int l4), none]) 1 rfl rfl ⟨rfl, rfl⟩ (Nat.le_of_ble_eq_true rfl) rfl ?_
  unfold fX1_addChild
  refine rr_aload_n (q := 1) rfl dX1_addChild_0 rfl ?_
  refine rr_get (q := 4) rfl fl_X1_48 (w_realm hi) rfl dX1_addChild_1 ?_
  refine rr_istore (L2 := fun y1 => [some (.ref (rb i)), some (.int l1), some (.int l2), some (.int l3), some (.int l4), some (.int y1)]) (q := 6) rfl dX1_addChild_4 (Nat.le_of_ble_eq_true rfl) (fun _ => rfl) (fun y1 => ?_)
  refine rr_aload_n (q := 7) rfl dX1_addChild_6 rfl ?_
  refine rr_get (q := 10) rfl fl_X1_15 (w_realm hi) rfl dX1_addChild_7 ?_
  refine rr_iload (q := 12) rfl dX1_addChild_10 rfl ?_
  refine rr_iload_n (q := 13) rfl dX1_addChild_12 rfl ?_
  refine rr_iast (q := 14) rfl (w_rarr1 hi) (fun _ => (u_rarr1 hi)) dX1_addChild_13 (fun n2 s3 => ?_)
  refine rr_aload_n (q := 15) rfl dX1_addChild_14 rfl ?_
  refine rr_get (q := 18) rfl fl_X1_18 (w_realm hi) rfl dX1_addChild_15 ?_
  refine rr_iload (q := 20) rfl dX1_addChild_18 rfl ?_
  refine rr_iload_n (q := 21) rfl dX1_addChild_20 rfl ?_
  refine rr_iast (q := 22) rfl (w_rarr2 hi) (fun _ => (u_rarr2 hi)) dX1_addChild_21 (fun n4 s5 => ?_)
  refine rr_aload_n (q := 23) rfl dX1_addChild_22 rfl ?_
  refine rr_get (q := 26) rfl fl_X1_21 (w_realm hi) rfl dX1_addChild_23 ?_
  refine rr_iload (q := 28) rfl dX1_addChild_26 rfl ?_
  refine rr_iload_n (q := 29) rfl dX1_addChild_28 rfl ?_
  refine rr_iast (q := 30) rfl (w_rarr3 hi) (fun _ => (u_rarr3 hi)) dX1_addChild_29 (fun n6 s7 => ?_)
  refine rr_aload_n (q := 31) rfl dX1_addChild_30 rfl ?_
  refine rr_get (q := 34) rfl fl_X1_24 (w_realm hi) rfl dX1_addChild_31 ?_
  refine rr_iload (q := 36) rfl dX1_addChild_34 rfl ?_
  refine rr_iload (q := 38) rfl dX1_addChild_36 rfl ?_
  refine rr_iast (q := 39) rfl (w_rarr4 hi) (fun _ => (u_rarr4 hi)) dX1_addChild_38 (fun n8 s9 => ?_)
  refine rr_aload_n (q := 40) rfl dX1_addChild_39 rfl ?_
  refine rr_dup (q := 41) rfl dX1_addChild_40 rfl ?_
  refine rr_get (q := 44) rfl fl_X1_48 (w_realm hi) rfl dX1_addChild_41 ?_
  refine rr_iconst 1 (q := 45) rfl dX1_addChild_44 rfl ?_
  refine rr_iadd (q := 46) rfl dX1_addChild_45 ?_
  refine rr_puti (q := 49) rfl fl_X1_48 fp_X1_10 (w_realm hi) (Nat.le_of_ble_eq_true rfl) (u_realm10 hi) dX1_addChild_46 (fun s10 => ?_)
  refine rr_iload (q := 51) rfl dX1_addChild_49 rfl ?_
  exact rr_iret dX1_addChild_51 rfl
def fX1_addTreaty (i : Nat) (l1 : Int32) (l2 : Int32) (l3 : Int32) (l4 : Int32) (s : SX) : Option (Int32 × SX) :=
  vl (gX s i 10 11) fun y1 =>
  ixg y1 12 fun n2 => vl (wX s i 5 n2 l1) fun s3 =>
  ixg y1 12 fun n4 => vl (wX s3 i 6 n4 l2) fun s5 =>
  ixg y1 12 fun n6 => vl (wX s5 i 7 n6 l3) fun s7 =>
  ixg y1 12 fun n8 => vl (wX s7 i 8 n8 l4) fun s9 =>
  vl (wX s9 i 10 11 ((gX s9 i 10 11) + 1)) fun s10 =>
  some (y1, s10)
set_option maxRecDepth 100000 in
set_option maxHeartbeats 4000000 in
theorem e_X1_addTreaty {G : Cf} {t : SM} {i : Nat} (hi : i < 5) (l1 : Int32) (l2 : Int32) (l3 : Int32) (l4 : Int32) (s : SX) : Ct (wfX t) inI G M_X1_addTreaty [.ref (rb i), .int l1, .int l2, .int l3, .int l4] s (fX1_addTreaty i l1 l2 l3 l4 s) := by
  refine Ct.of (L0 := [some (.ref (rb i)), some (.int l1), some (.int l2), some (.int l3), some (.int l4), none]) 1 rfl rfl ⟨rfl, rfl⟩ (Nat.le_of_ble_eq_true rfl) rfl ?_
  unfold fX1_addTreaty
  refine rr_aload_n (q := 1) rfl dX1_addTreaty_0 rfl ?_
  refine rr_get (q := 4) rfl fl_X1_52 (w_realm hi) rfl dX1_addTreaty_1 ?_
  refine rr_istore (L2 := fun y1 => [some (.ref (rb i)), some (.int l1), some (.int l2), some (.int l3), some (.int l4), some (.int y1)]) (q := 6) rfl dX1_addTreaty_4 (Nat.le_of_ble_eq_true rfl) (fun _ => rfl) (fun y1 => ?_)
  refine rr_aload_n (q := 7) rfl dX1_addTreaty_6 rfl ?_
  refine rr_get (q := 10) rfl fl_X1_27 (w_realm hi) rfl dX1_addTreaty_7 ?_
  refine rr_iload (q := 12) rfl dX1_addTreaty_10 rfl ?_
  refine rr_iload_n (q := 13) rfl dX1_addTreaty_12 rfl ?_
  refine rr_iast (q := 14) rfl (w_rarr5 hi) (fun _ => (u_rarr5 hi)) dX1_addTreaty_13 (fun n2 s3 => ?_)
  refine rr_aload_n (q := 15) rfl dX1_addTreaty_14 rfl ?_
  refine rr_get (q := 18) rfl fl_X1_30 (w_realm hi) rfl dX1_addTreaty_15 ?_
  refine rr_iload (q := 20) rfl dX1_addTreaty_18 rfl ?_
  refine rr_iload_n (q := 21) rfl dX1_addTreaty_20 rfl ?_
  refine rr_iast (q := 22) rfl (w_rarr6 hi) (fun _ => (u_rarr6 hi)) dX1_addTreaty_21 (fun n4 s5 => ?_)
  refine rr_aload_n (q := 23) rfl dX1_addTreaty_22 rfl ?_
  refine rr_get (q := 26) rfl fl_X1_33 (w_realm hi) rfl dX1_addTreaty_23 ?_
  refine rr_iload (q := 28) rfl dX1_addTreaty_26 rfl ?_
  refine rr_iload_n (q := 29) rfl dX1_addTreaty_28 rfl ?_
  refine rr_iast (q := 30) rfl (w_rarr7 hi) (fun _ => (u_rarr7 hi)) dX1_addTreaty_29 (fun n6 s7 => ?_)
  refine rr_aload_n (q := 31) rfl dX1_addTreaty_30 rfl ?_
  refine rr_get (q := 34) rfl fl_X1_36 (w_realm hi) rfl dX1_addTreaty_31 ?_
  refine rr_iload (q := 36) rfl dX1_addTreaty_34 rfl ?_
  refine rr_iload (q := 38) rfl dX1_addTreaty_36 rfl ?_
  refine rr_iast (q := 39) rfl (w_rarr8 hi) (fun _ => (u_rarr8 hi)) dX1_addTreaty_38 (fun n8 s9 => ?_)
  refine rr_aload_n (q := 40) rfl dX1_addTreaty_39 rfl ?_
  refine rr_dup (q := 41) rfl dX1_addTreaty_40 rfl ?_
  refine rr_get (q := 44) rfl fl_X1_52 (w_realm hi) rfl dX1_addTreaty_41 ?_
  refine rr_iconst 1 (q := 45) rfl dX1_addTreaty_44 rfl ?_
  refine rr_iadd (q := 46) rfl dX1_addTreaty_45 ?_
  refine rr_puti (q := 49) rfl fl_X1_52 fp_X1_11 (w_realm hi) (Nat.le_of_ble_eq_true rfl) (u_realm11 hi) dX1_addTreaty_46 (fun s10 => ?_)
  refine rr_iload (q := 51) rfl dX1_addTreaty_49 rfl ?_
  exact rr_iret dX1_addTreaty_51 rfl
