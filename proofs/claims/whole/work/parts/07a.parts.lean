def fX0_isMove (l1 : Int32) (s : SX) : Option (Int32 × SX) :=
  vl (l1 / 6) fun y1 =>
  bd (fX1_isDead 0 y1 s) fun v2 s3 =>
  (if v2 = 0 then
  ixg y1 14 fun n4 =>
  (if (gX s3 0 3 n4) = (l1 - l1 / 6 * 6) then
  some (0, s3)
  else
  some (1, s3))
  else
  some (0, s3))
set_option maxRecDepth 100000 in
set_option maxHeartbeats 4000000 in
theorem e_X0_isMove {G : Cf} {t : SM} (l1 : Int32) (s : SX) : Ct (wfX t) inI G M_X0_isMove [.ref (rb 0), .int l1] s (fX0_isMove l1 s) := by
  refine Ct.of (L0 := [some (.ref (rb 0)), some (.int l1), none]) 1 rfl rfl ⟨rfl, rfl⟩ (Nat.le_of_ble_eq_true rfl) rfl ?_
  unfold fX0_isMove
  refine rr_iload_n (q := 1) rfl dX0_isMove_0 rfl ?_
  refine rr_bipush 6 (q := 3) rfl dX0_isMove_1 rfl ?_
  refine rr_idiv (q := 4) rfl dX0_isMove_3 (by decide) ?_
  refine rr_istore_n (L2 := fun y1 => [some (.ref (rb 0)), some (.int l1), some (.int y1)]) (q := 5) rfl dX0_isMove_4 (Nat.le_of_ble_eq_true rfl) (fun _ => rfl) (fun y1 => ?_)
  refine rr_aload_n (q := 6) rfl dX0_isMove_5 rfl ?_
  refine rr_iload_n (q := 7) rfl dX0_isMove_6 rfl ?_
  refine rr_cVi (q := 10) rfl V_X1_isDead ml_X0_64 ⟨Nat.le_of_ble_eq_true rfl, Nat.le_of_ble_eq_true rfl⟩ (e_X1_isDead (by decide) y1 s) (w_realm (by decide)) rfl rfl rfl rfl (Nat.le_of_ble_eq_true rfl) dX0_isMove_7 (fun v2 s3 => ?_)
  refine rr_if_ne 30 (q := 13) rfl dX0_isMove_10 rfl (fun _ => ?_) (fun _ => ?_)
  · refine rr_iconst 0 (q := 31) rfl dX0_isMove_30 rfl ?_
    exact rr_zret dX0_isMove_31 rfl (Or.inl rfl)
  · refine rr_aload_n (q := 14) rfl dX0_isMove_13 rfl ?_
    refine rr_get (q := 17) rfl fl_X0_48 (w_realm (by decide)) rfl dX0_isMove_14 ?_
    refine rr_iload_n (q := 18) rfl dX0_isMove_17 rfl ?_
    refine rr_iald (q := 19) rfl (w_rarr3 (by decide)) dX0_isMove_18 (fun n4 => ?_)
    refine rr_iload_n (q := 20) rfl dX0_isMove_19 rfl ?_
    refine rr_bipush 6 (q := 22) rfl dX0_isMove_20 rfl ?_
    refine rr_irem (q := 23) rfl dX0_isMove_22 (by decide) ?_
    refine rr_icmp_eq 30 (q := 26) rfl dX0_isMove_23 rfl (fun _ => ?_) (fun _ => ?_)
    · refine rr_iconst 0 (q := 31) rfl dX0_isMove_30 rfl ?_
      exact rr_zret dX0_isMove_31 rfl (Or.inl rfl)
    · refine rr_iconst 1 (q := 27) rfl dX0_isMove_26 rfl ?_
      refine rr_goto 31 dX0_isMove_27 rfl ?_
      exact rr_zret dX0_isMove_31 rfl (Or.inr rfl)
def fX0_mayMend (l1 : Int32) (l2 : Int32) (s : SX) : Option (Int32 × SX) :=
  ixg l1 14 fun n1 =>
  ixg l2 14 fun n2 =>
  vl ((1 <<< ((gX s 3 2 n1) &&& 31)) ||| (1 <<< ((gX s 3 2 n2) &&& 31))) fun y3 =>
  (if ((gX s 6 0 1) &&& (y3 ^^^ (-1))) = 0 then
  some (1, s)
  else
  some (0, s))
set_option maxRecDepth 100000 in
set_option maxHeartbeats 4000000 in
theorem e_X0_mayMend {G : Cf} {t : SM} (l1 : Int32) (l2 : Int32) (s : SX) : Ct (wfX t) inI G M_X0_mayMend [.ref 34, .int l1, .int l2] s (fX0_mayMend l1 l2 s) := by
  refine Ct.of (L0 := [some (.ref 34), some (.int l1), some (.int l2), none]) 1 rfl rfl ⟨rfl, rfl⟩ (Nat.le_of_ble_eq_true rfl) rfl ?_
  unfold fX0_mayMend
  refine rr_iconst 1 (q := 1) rfl dX0_mayMend_0 rfl ?_
  refine rr_aload_n (q := 2) rfl dX0_mayMend_1 rfl ?_
  refine rr_get (q := 5) rfl fl_X0_12 w_planner rfl dX0_mayMend_2 ?_
  refine rr_get (q := 8) rfl fl_X0_68 (w_realm (by decide)) rfl dX0_mayMend_5 ?_
  refine rr_iload_n (q := 9) rfl dX0_mayMend_8 rfl ?_
  refine rr_iald (q := 10) rfl (w_rarr2 (by decide)) dX0_mayMend_9 (fun n1 => ?_)
  refine rr_ishl (q := 11) rfl dX0_mayMend_10 ?_
  refine rr_iconst 1 (q := 12) rfl dX0_mayMend_11 rfl ?_
  refine rr_aload_n (q := 13) rfl dX0_mayMend_12 rfl ?_
  refine rr_get (q := 16) rfl fl_X0_12 w_planner rfl dX0_mayMend_13 ?_
  refine rr_get (q := 19) rfl fl_X0_68 (w_realm (by decide)) rfl dX0_mayMend_16 ?_
  refine rr_iload_n (q := 20) rfl dX0_mayMend_19 rfl ?_
  refine rr_iald (q := 21) rfl (w_rarr2 (by decide)) dX0_mayMend_20 (fun n2 => ?_)
  refine rr_ishl (q := 22) rfl dX0_mayMend_21 ?_
  refine rr_ior (q := 23) rfl dX0_mayMend_22 ?_
  refine rr_istore_n (L2 := fun y3 => [some (.ref 34), some (.int l1), some (.int l2), some (.int y3)]) (q := 24) rfl dX0_mayMend_23 (Nat.le_of_ble_eq_true rfl) (fun _ => rfl) (fun y3 => ?_)
  refine rr_aload_n (q := 25) rfl dX0_mayMend_24 rfl ?_
  refine rr_get (q := 28) rfl fl_X0_22 w_planner rfl dX0_mayMend_25 ?_
  refine rr_iload_n (q := 29) rfl dX0_mayMend_28 rfl ?_
  refine rr_iconst (-1) (q := 30) rfl dX0_mayMend_29 rfl ?_
  refine rr_ixor (q := 31) rfl dX0_mayMend_30 ?_
  refine rr_iand (q := 32) rfl dX0_mayMend_31 ?_
  refine rr_if_ne 39 (q := 35) rfl dX0_mayMend_32 rfl (fun _ => ?_) (fun _ => ?_)
  · refine rr_iconst 0 (q := 40) rfl dX0_mayMend_39 rfl ?_
    exact rr_zret dX0_mayMend_40 rfl (Or.inl rfl)
  · refine rr_iconst 1 (q := 36) rfl dX0_mayMend_35 rfl ?_
    refine rr_goto 40 dX0_mayMend_36 rfl ?_
    exact rr_zret dX0_mayMend_40 rfl (Or.inr rfl)
def fX0_allHold_50 (s : SX) : Option (Int32 × SX) :=
  some (1, s)
set_option maxRecDepth 100000 in
set_option maxHeartbeats 4000000 in
theorem e_X0_allHold_50 {G : Cf} {t : SM}  (s : SX) : R (wfX t) inI G M_X0_allHold 50 [none, none, none, none, none] [] s (fX0_allHold_50 s) := by
  unfold fX0_allHold_50
  refine rr_iconst 1 (q := 51) rfl dX0_allHold_50 rfl ?_
  refine rr_goto 55 dX0_allHold_51 rfl ?_
  exact rr_zret dX0_allHold_55 rfl (Or.inr rfl)
def fX0_allHold (l1 : Int32) (l2 : Int32) (s : SX) : Option (Int32 × SX) :=
  ixg l1 14 fun n1 =>
  vl (gX s 3 2 n1) fun y2 =>
  ixg l2 14 fun n3 =>
  vl (gX s 3 2 n3) fun y4 =>
  bd (fX1_looseWordsOf 3 y2 s) fun v5 s6 =>
  (if v5 = 0 then
  (if y2 = y4 then
  fX0_allHold_50 s6
  else
  bd (fX1_looseWordsOf 3 y4 s6) fun v7 s8 =>
  (if v7 = 0 then
  fX0_allHold_50 s8
  else
  some (0, s8)))
  else
  some (0, s6))
set_option maxRecDepth 100000 in
set_option maxHeartbeats 4000000 in
theorem e_X0_allHold {G : Cf} {t : SM} (l1 : Int32) (l2 : Int32) (s : SX) : Ct (wfX t) inI G M_X0_allHold [.ref 34, .int l1, .int l2] s (fX0_allHold l1 l2 s) := by
  refine Ct.of (L0 := [some (.ref 34), some (.int l1), some (.int l2), none, none]) 2 rfl rfl ⟨rfl, rfl⟩ (Nat.le_of_ble_eq_true rfl) rfl ?_
  unfold fX0_allHold
  refine rr_aload_n (q := 1) rfl dX0_allHold_0 rfl ?_
  refine rr_get (q := 4) rfl fl_X0_12 w_planner rfl dX0_allHold_1 ?_
  refine rr_get (q := 7) rfl fl_X0_68 (w_realm (by decide)) rfl dX0_allHold_4 ?_
  refine rr_iload_n (q := 8) rfl dX0_allHold_7 rfl ?_
  refine rr_iald (q := 9) rfl (w_rarr2 (by decide)) dX0_allHold_8 (fun n1 => ?_)
  refine rr_istore_n (L2 := fun y2 => [some (.ref 34), some (.int l1), some (.int l2), some (.int y2), none]) (q := 10) rfl dX0_allHold_9 (Nat.le_of_ble_eq_true rfl) (fun _ => rfl) (fun y2 => ?_)
  refine rr_aload_n (q := 11) rfl dX0_allHold_10 rfl ?_
  refine rr_get (q := 14) rfl fl_X0_12 w_planner rfl dX0_allHold_11 ?_
  refine rr_get (q := 17) rfl fl_X0_68 (w_realm (by decide)) rfl dX0_allHold_14 ?_
  refine rr_iload_n (q := 18) rfl dX0_allHold_17 rfl ?_
  refine rr_iald (q := 19) rfl (w_rarr2 (by decide)) dX0_allHold_18 (fun n3 => ?_)
  refine rr_istore (L2 := fun y4 => [some (.ref 34), some (.int l1), some (.int l2), some (.int y2), some (.int y4)]) (q := 21) rfl dX0_allHold_19 (Nat.le_of_ble_eq_true rfl) (fun _ => rfl) (fun y4 => ?_)
  refine rr_aload_n (q := 22) rfl dX0_allHold_21 rfl ?_
  refine rr_get (q := 25) rfl fl_X0_12 w_planner rfl dX0_allHold_22 ?_
  refine rr_iload_n (q := 26) rfl dX0_allHold_25 rfl ?_
  refine rr_cVi (q := 29) rfl V_X1_looseWordsOf ml_X0_26 ⟨Nat.le_of_ble_eq_true rfl, Nat.le_of_ble_eq_true rfl⟩ (e_X1_looseWordsOf (by decide) y2 s) (w_realm (by decide)) rfl rfl rfl rfl (Nat.le_of_ble_eq_true rfl) dX0_allHold_26 (fun v5 s6 => ?_)
  refine rr_if_ne 54 (q := 32) rfl dX0_allHold_29 rfl (fun _ => ?_) (fun _ => ?_)
  · refine rr_iconst 0 (q := 55) rfl dX0_allHold_54 rfl ?_
    exact rr_zret dX0_allHold_55 rfl (Or.inl rfl)
  · refine rr_iload_n (q := 33) rfl dX0_allHold_32 rfl ?_
    refine rr_iload (q := 35) rfl dX0_allHold_33 rfl ?_
    refine rr_icmp_eq 50 (q := 38) rfl dX0_allHold_35 rfl (fun _ => ?_) (fun _ => ?_)
    · refine rr_mask [false, false, false, false, false] (L' := [none, none, none, none, none]) rfl ?_
      exact e_X0_allHold_50 s6
    · refine rr_aload_n (q := 39) rfl dX0_allHold_38 rfl ?_
      refine rr_get (q := 42) rfl fl_X0_12 w_planner rfl dX0_allHold_39 ?_
      refine rr_iload (q := 44) rfl dX0_allHold_42 rfl ?_
      refine rr_cVi (q := 47) rfl V_X1_looseWordsOf ml_X0_26 ⟨Nat.le_of_ble_eq_true rfl, Nat.le_of_ble_eq_true rfl⟩ (e_X1_looseWordsOf (by decide) y4 s6) (w_realm (by decide)) rfl rfl rfl rfl (Nat.le_of_ble_eq_true rfl) dX0_allHold_44 (fun v7 s8 => ?_)
      refine rr_if_ne 54 (q := 50) rfl dX0_allHold_47 rfl (fun _ => ?_) (fun _ => ?_)
      · refine rr_iconst 0 (q := 55) rfl dX0_allHold_54 rfl ?_
        exact rr_zret dX0_allHold_55 rfl (Or.inl rfl)
      · refine rr_mask [false, false, false, false, false] (L' := [none, none, none, none, none]) rfl ?_
        exact e_X0_allHold_50 s8
def fX0_findOne_92 (k10 : Int32 → Int32 → SX → Option (Int32 × SX)) (l2 : Int32) (l3 : Int32) (s : SX) : Option (Int32 × SX) :=
  vl (l3 + 1) fun y16 =>
  k10 l2 y16 s
set_option maxRecDepth 100000 in
set_option maxHeartbeats 4000000 in
theorem e_X0_findOne_92 {G : Cf} {t : SM} {k10 : Int32 → Int32 → SX → Option (Int32 × SX)} (hk10 : ∀ (l2 : Int32) (l3 : Int32) (s : SX), R (wfX t) inI G M_X0_findOne 10 [some (.ref 34), some (.ref (rb 0)), some (.int l2), some (.int l3), none] [] s (k10 l2 l3 s)) (l2 : Int32) (l3 : Int32) (s : SX) : R (wfX t) inI G M_X0_findOne 92 [some (.ref 34), some (.ref (rb 0)), some (.int l2), some (.int l3), none] [] s (fX0_findOne_92 k10 l2 l3 s) := by
  unfold fX0_findOne_92
  refine rr_iinc (L2 := fun y16 => [some (.ref 34), some (.ref (rb 0)), some (.int l2), some (.int y16), none]) (q := 95) rfl dX0_findOne_92 rfl rfl (Nat.le_of_ble_eq_true rfl) (fun _ => rfl) (fun y16 => ?_)
  refine rr_goto 10 dX0_findOne_95 rfl ?_
  exact hk10 l2 y16 s
def fX0_findOne_10b (k10 : Int32 → Int32 → SX → Option (Int32 × SX)) (l2 : Int32) (l3 : Int32) (s : SX) : Option (Int32 × SX) :=
  (if l2 ≤ l3 then
  some (0, s)
  else
  vl (l3 / 6) fun y3 =>
  bd (fX0_isMove l3 s) fun v4 s5 =>
  (if v4 = 0 then
  fX0_findOne_92 k10 l2 l3 s5
  else
  bd (fX0_mayMend y3 y3 s5) fun v6 s7 =>
  (if v6 = 0 then
  fX0_findOne_92 k10 l2 l3 s7
  else
  ixg y3 14 fun n8 => vl (wX s7 3 3 n8 (l3 - l3 / 6 * 6)) fun s9 =>
  bd (fX0_allHold y3 y3 s9) fun v10 s11 =>
  (if v10 = 0 then
  ixg y3 14 fun n12 =>
  ixg y3 14 fun n13 => vl (wX s11 3 3 n13 (gX s11 0 3 n12)) fun s14 =>
  fX0_findOne_92 k10 l2 l3 s14
  else
  vl (wX s11 6 0 2 l3) fun s15 =>
  some (1, s15)))))
set_option maxRecDepth 100000 in
set_option maxHeartbeats 4000000 in
theorem e_X0_findOne_10b {G : Cf} {t : SM} {k10 : Int32 → Int32 → SX → Option (Int32 × SX)} (hk10 : ∀ (l2 : Int32) (l3 : Int32) (s : SX), R (wfX t) inI G M_X0_findOne 10 [some (.ref 34), some (.ref (rb 0)), some (.int l2), some (.int l3), none] [] s (k10 l2 l3 s)) (l2 : Int32) (l3 : Int32) (s : SX) : R (wfX t) inI G M_X0_findOne 10 [some (.ref 34), some (.ref (rb 0)), some (.int l2), some (.int l3), none] [] s (fX0_findOne_10b k10 l2 l3 s) := by
  unfold fX0_findOne_10b
  refine rr_iload_n (q := 11) rfl dX0_findOne_10 rfl ?_
  refine rr_iload_n (q := 12) rfl dX0_findOne_11 rfl ?_
  refine rr_icmp_ge 98 (q := 15) rfl dX0_findOne_12 rfl (fun _ => ?_) (fun _ => ?_)
  · refine rr_iconst 0 (q := 99) rfl dX0_findOne_98 rfl ?_
    exact rr_zret dX0_findOne_99 rfl (Or.inl rfl)
  · refine rr_iload_n (q := 16) rfl dX0_findOne_15 rfl ?_
    refine rr_bipush 6 (q := 18) rfl dX0_findOne_16 rfl ?_
    refine rr_idiv (q := 19) rfl dX0_findOne_18 (by decide) ?_
    refine rr_istore (L2 := fun y3 => [some (.ref 34), some (.ref (rb 0)), some (.int l2), some (.int l3), some (.int y3)]) (q := 21) rfl dX0_findOne_19 (Nat.le_of_ble_eq_true rfl) (fun _ => rfl) (fun y3 => ?_)
    refine rr_aload_n (q := 22) rfl dX0_findOne_21 rfl ?_
    refine rr_iload_n (q := 23) rfl dX0_findOne_22 rfl ?_
    refine rr_cSi (q := 26) rfl V_X0_isMove ml_X0_40 ⟨Nat.le_of_ble_eq_true rfl, Nat.le_of_ble_eq_true rfl⟩ (e_X0_isMove l3 s) rfl rfl (Nat.le_of_ble_eq_true rfl) dX0_findOne_23 (fun v4 s5 => ?_)
    refine rr_if_eq 92 (q := 29) rfl dX0_findOne_26 rfl (fun _ => ?_) (fun _ => ?_)
    · refine rr_mask [true, true, true, true, false] (L' := [some (.ref 34), some (.ref (rb 0)), some (.int l2), some (.int l3), none]) rfl ?_
      exact e_X0_findOne_92 hk10 l2 l3 s5
    · refine rr_aload_n (q := 30) rfl dX0_findOne_29 rfl ?_
      refine rr_iload (q := 32) rfl dX0_findOne_30 rfl ?_
      refine rr_iload (q := 34) rfl dX0_findOne_32 rfl ?_
      refine rr_cVi (q := 37) rfl V_X0_mayMend ml_X0_44 ⟨Nat.le_of_ble_eq_true rfl, Nat.le_of_ble_eq_true rfl⟩ (e_X0_mayMend y3 y3 s5) w_planner rfl rfl rfl rfl (Nat.le_of_ble_eq_true rfl) dX0_findOne_34 (fun v6 s7 => ?_)
      refine rr_if_ne 43 (q := 40) rfl dX0_findOne_37 rfl (fun _ => ?_) (fun _ => ?_)
      · refine rr_aload_n (q := 44) rfl dX0_findOne_43 rfl ?_
        refine rr_get (q := 47) rfl fl_X0_12 w_planner rfl dX0_findOne_44 ?_
        refine rr_get (q := 50) rfl fl_X0_48 (w_realm (by decide)) rfl dX0_findOne_47 ?_
        refine rr_iload (q := 52) rfl dX0_findOne_50 rfl ?_
        refine rr_iload_n (q := 53) rfl dX0_findOne_52 rfl ?_
        refine rr_bipush 6 (q := 55) rfl dX0_findOne_53 rfl ?_
        refine rr_irem (q := 56) rfl dX0_findOne_55 (by decide) ?_
        refine rr_iast (q := 57) rfl (w_rarr3 (by decide)) (fun _ => (u_rarr3 (by decide))) dX0_findOne_56 (fun n8 s9 => ?_)
        refine rr_aload_n (q := 58) rfl dX0_findOne_57 rfl ?_
        refine rr_iload (q := 60) rfl dX0_findOne_58 rfl ?_
        refine rr_iload (q := 62) rfl dX0_findOne_60 rfl ?_
        refine rr_cVi (q := 65) rfl V_X0_allHold ml_X0_52 ⟨Nat.le_of_ble_eq_true rfl, Nat.le_of_ble_eq_true rfl⟩ (e_X0_allHold y3 y3 s9) w_planner rfl rfl rfl rfl (Nat.le_of_ble_eq_true rfl) dX0_findOne_62 (fun v10 s11 => ?_)
        refine rr_if_eq 75 (q := 68) rfl dX0_findOne_65 rfl (fun _ => ?_) (fun _ => ?_)
        · refine rr_aload_n (q := 76) rfl dX0_findOne_75 rfl ?_
          refine rr_get (q := 79) rfl fl_X0_12 w_planner rfl dX0_findOne_76 ?_
          refine rr_get (q := 82) rfl fl_X0_48 (w_realm (by decide)) rfl dX0_findOne_79 ?_
          refine rr_iload (q := 84) rfl dX0_findOne_82 rfl ?_
          refine rr_aload_n (q := 85) rfl dX0_findOne_84 rfl ?_
          refine rr_get (q := 88) rfl fl_X0_48 (w_realm (by decide)) rfl dX0_findOne_85 ?_
          refine rr_iload (q := 90) rfl dX0_findOne_88 rfl ?_
          refine rr_iald (q := 91) rfl (w_rarr3 (by decide)) dX0_findOne_90 (fun n12 => ?_)
          refine rr_iast (q := 92) rfl (w_rarr3 (by decide)) (fun _ => (u_rarr3 (by decide))) dX0_findOne_91 (fun n13 s14 => ?_)
          refine rr_mask [true, true, true, true, false] (L' := [some (.ref 34), some (.ref (rb 0)), some (.int l2), some (.int l3), none]) rfl ?_
          exact e_X0_findOne_92 hk10 l2 l3 s14
        · refine rr_aload_n (q := 69) rfl dX0_findOne_68 rfl ?_
          refine rr_iload_n (q := 70) rfl dX0_findOne_69 rfl ?_
          refine rr_puti (q := 73) rfl fl_X0_55 fp_X0_2 w_planner (Nat.le_of_ble_eq_true rfl) u_planner2 dX0_findOne_70 (fun s15 => ?_)
          refine rr_iconst 1 (q := 74) rfl dX0_findOne_73 rfl ?_
          exact rr_zret dX0_findOne_74 rfl (Or.inr rfl)
      · refine rr_goto 92 dX0_findOne_40 rfl ?_
        refine rr_mask [true, true, true, true, false] (L' := [some (.ref 34), some (.ref (rb 0)), some (.int l2), some (.int l3), none]) rfl ?_
        exact e_X0_findOne_92 hk10 l2 l3 s7
def fX0_findOne_10 : Nat → Int32 → Int32 → SX → Option (Int32 × SX) := lp (fun _ _ _ => none) (fX0_findOne_10b)
theorem e_X0_findOne_10 {G : Cf} {t : SM}  (n : Nat) : ∀ (l2 : Int32) (l3 : Int32) (s : SX), R (wfX t) inI G M_X0_findOne 10 [some (.ref 34), some (.ref (rb 0)), some (.int l2), some (.int l3), none] [] s (fX0_findOne_10 n l2 l3 s) := by
  unfold fX0_findOne_10
  exact rr_lp (P := fun (kz : Int32 → Int32 → SX → Option (Int32 × SX)) => ∀ (l2 : Int32) (l3 : Int32) (s : SX), R (wfX t) inI G M_X0_findOne 10 [some (.ref 34), some (.ref (rb 0)), some (.int l2), some (.int l3), none] [] s (kz l2 l3 s)) (fun _ _ _ => rr_none) (fun kz hkz => fun l2 l3 s => e_X0_findOne_10b hkz l2 l3 s) n
def fX0_findOne (s : SX) : Option (Int32 × SX) :=
  vl (6 * (gX s 0 10 10)) fun y1 =>
  vl 0 fun y2 =>
  fX0_findOne_10 400 y1 y2 s
set_option maxRecDepth 100000 in
set_option maxHeartbeats 4000000 in
theorem e_X0_findOne {G : Cf} {t : SM} (s : SX) : Ct (wfX t) inI G M_X0_findOne [.ref 34, .ref (rb 0)] s (fX0_findOne s) := by
  refine Ct.of (L0 := [some (.ref 34), some (.ref (rb 0)), none, none, none]) 3 rfl rfl ⟨rfl, rfl⟩ (Nat.le_of_ble_eq_true rfl) rfl ?_
  unfold fX0_findOne
  refine rr_bipush 6 (q := 2) rfl dX0_findOne_0 rfl ?_
  refine rr_aload_n (q := 3) rfl dX0_findOne_2 rfl ?_
  refine rr_get (q := 6) rfl fl_X0_37 (w_realm (by decide)) rfl dX0_findOne_3 ?_
  refine rr_imul (q := 7) rfl dX0_findOne_6 ?_
  refine rr_istore_n (L2 := fun y1 => [some (.ref 34), some (.ref (rb 0)), some (.int y1), none, none]) (q := 8) rfl dX0_findOne_7 (Nat.le_of_ble_eq_true rfl) (fun _ => rfl) (fun y1 => ?_)
  refine rr_iconst 0 (q := 9) rfl dX0_findOne_8 rfl ?_
  refine rr_istore_n (L2 := fun y2 => [some (.ref 34), some (.ref (rb 0)), some (.int y1), some (.int y2), none]) (q := 10) rfl dX0_findOne_9 (Nat.le_of_ble_eq_true rfl) (fun _ => rfl) (fun y2 => ?_)
  exact e_X0_findOne_10 400 y1 y2 s
def fX0_findGreater_101 (k16 : Int32 → Int32 → Int32 → SX → Option (Int32 × SX)) (l2 : Int32) (l3 : Int32) (l4 : Int32) (s : SX) : Option (Int32 × SX) :=
  vl (l4 + 1) fun y16 =>
  k16 l2 l3 y16 s
set_option maxRecDepth 100000 in
set_option maxHeartbeats 4000000 in
theorem e_X0_findGreater_101 {G : Cf} {t : SM} {k16 : Int32 → Int32 → Int32 → SX → Option (Int32 × SX)} (hk16 : ∀ (l2 : Int32) (l3 : Int32) (l4 : Int32) (s : SX), R (wfX t) inI G M_X0_findGreater 16 [some (.ref 34), some (.ref (rb 0)), some (.int l2), some (.int l3), some (.int l4), none] [] s (k16 l2 l3 l4 s)) (l2 : Int32) (l3 : Int32) (l4 : Int32) (s : SX) : R (wfX t) inI G M_X0_findGreater 101 [some (.ref 34), some (.ref (rb 0)), some (.int l2), some (.int l3), some (.int l4), none] [] s (fX0_findGreater_101 k16 l2 l3 l4 s) := by
  unfold fX0_findGreater_101
  refine rr_iinc (L2 := fun y16 => [some (.ref 34), some (.ref (rb 0)), some (.int l2), some (.int l3), some (.int y16), none]) (q := 104) rfl dX0_findGreater_101 rfl rfl (Nat.le_of_ble_eq_true rfl) (fun _ => rfl) (fun y16 => ?_)
  refine rr_goto 16 dX0_findGreater_104 rfl ?_
  exact hk16 l2 l3 y16 s
def fX0_findGreater_16b (k16 : Int32 → Int32 → Int32 → SX → Option (Int32 × SX)) (l2 : Int32) (l3 : Int32) (l4 : Int32) (s : SX) : Option (Int32 × SX) :=
  (if l3 ≤ l4 then
  some (0, s)
  else
  vl (l4 / 6) fun y3 =>
  bd (fX0_isMove l4 s) fun v4 s5 =>
  (if v4 = 0 then
  fX0_findGreater_101 k16 l2 l3 l4 s5
  else
  bd (fX0_mayMend l2 y3 s5) fun v6 s7 =>
  (if v6 = 0 then
  fX0_findGreater_101 k16 l2 l3 l4 s7
  else
  ixg y3 14 fun n8 => vl (wX s7 3 3 n8 (l4 - l4 / 6 * 6)) fun s9 =>
  bd (fX0_allHold l2 y3 s9) fun v10 s11 =>
  (if v10 = 0 then
  ixg y3 14 fun n12 =>
  ixg y3 14 fun n13 => vl (wX s11 3 3 n13 (gX s11 0 3 n12)) fun s14 =>
  fX0_findGreater_101 k16 l2 l3 l4 s14
  else
  vl (wX s11 6 0 3 l4) fun s15 =>
  some (1, s15)))))
set_option maxRecDepth 100000 in
set_option maxHeartbeats 4000000 in
theorem e_X0_findGreater_16b {G : Cf} {t : SM} {k16 : Int32 → Int32 → Int32 → SX → Option (Int32 × SX)} (hk16 : ∀ (l2 : Int32) (l3 : Int32) (l4 : Int32) (s : SX), R (wfX t) inI G M_X0_findGreater 16 [some (.ref 34), some (.ref (rb 0)), some (.int l2), some (.int l3), some (.int l4), none] [] s (k16 l2 l3 l4 s)) (l2 : Int32) (l3 : Int32) (l4 : Int32) (s : SX) : R (wfX t) inI G M_X0_findGreater 16 [some (.ref 34), some (.ref (rb 0)), some (.int l2), some (.int l3), some (.int l4), none] [] s (fX0_findGreater_16b k16 l2 l3 l4 s) := by
  unfold fX0_findGreater_16b
  refine rr_iload (q := 18) rfl dX0_findGreater_16 rfl ?_
  refine rr_iload_n (q := 19) rfl dX0_findGreater_18 rfl ?_
  refine rr_icmp_ge 107 (q := 22) rfl dX0_findGreater_19 rfl (fun _ => ?_) (fun _ => ?_)
  · refine rr_iconst 0 (q := 108) rfl dX0_findGreater_107 rfl ?_
    exact rr_zret dX0_findGreater_108 rfl (Or.inl rfl)
  · refine rr_iload (q := 24) rfl dX0_findGreater_22 rfl ?_
    refine rr_bipush 6 (q := 26) rfl dX0_findGreater_24 rfl ?_
    refine rr_idiv (q := 27) rfl dX0_findGreater_26 (by decide) ?_
    refine rr_istore (L2 := fun y3 => [some (.ref 34), some (.ref (rb 0)), some (.int l2), some (.int l3), some (.int l4), some (.int y3)]) (q := 29) rfl dX0_findGreater_27 (Nat.le_of_ble_eq_true rfl) (fun _ => rfl) (fun y3 => ?_)
    refine rr_aload_n (q := 30) rfl dX0_findGreater_29 rfl ?_
    refine rr_iload (q := 32) rfl dX0_findGreater_30 rfl ?_
    refine rr_cSi (q := 35) rfl V_X0_isMove ml_X0_40 ⟨Nat.le_of_ble_eq_true rfl, Nat.le_of_ble_eq_true rfl⟩ (e_X0_isMove l4 s) rfl rfl (Nat.le_of_ble_eq_true rfl) dX0_findGreater_32 (fun v4 s5 => ?_)
    refine rr_if_eq 101 (q := 38) rfl dX0_findGreater_35 rfl (fun _ => ?_) (fun _ => ?_)
    · refine rr_mask [true, true, true, true, true, false] (L' := [some (.ref 34), some (.ref (rb 0)), some (.int l2), some (.int l3), some (.int l4), none]) rfl ?_
      exact e_X0_findGreater_101 hk16 l2 l3 l4 s5
    · refine rr_aload_n (q := 39) rfl dX0_findGreater_38 rfl ?_
      refine rr_iload_n (q := 40) rfl dX0_findGreater_39 rfl ?_
      refine rr_iload (q := 42) rfl dX0_findGreater_40 rfl ?_
      refine rr_cVi (q := 45) rfl V_X0_mayMend ml_X0_44 ⟨Nat.le_of_ble_eq_true rfl, Nat.le_of_ble_eq_true rfl⟩ (e_X0_mayMend l2 y3 s5) w_planner rfl rfl rfl rfl (Nat.le_of_ble_eq_true rfl) dX0_findGreater_42 (fun v6 s7 => ?_)
      refine rr_if_ne 51 (q := 48) rfl dX0_findGreater_45 rfl (fun _ => ?_) (fun _ => ?_)
      · refine rr_aload_n (q := 52) rfl dX0_findGreater_51 rfl ?_
        refine rr_get (q := 55) rfl fl_X0_12 w_planner rfl dX0_findGreater_52 ?_
        refine rr_get (q := 58) rfl fl_X0_48 (w_realm (by decide)) rfl dX0_findGreater_55 ?_
        refine rr_iload (q := 60) rfl dX0_findGreater_58 rfl ?_
        refine rr_iload (q := 62) rfl dX0_findGreater_60 rfl ?_
        refine rr_bipush 6 (q := 64) rfl dX0_findGreater_62 rfl ?_
        refine rr_irem (q := 65) rfl dX0_findGreater_64 (by decide) ?_
        refine rr_iast (q := 66) rfl (w_rarr3 (by decide)) (fun _ => (u_rarr3 (by decide))) dX0_findGreater_65 (fun n8 s9 => ?_)
        refine rr_aload_n (q := 67) rfl dX0_findGreater_66 rfl ?_
        refine rr_iload_n (q := 68) rfl dX0_findGreater_67 rfl ?_
        refine rr_iload (q := 70) rfl dX0_findGreater_68 rfl ?_
        refine rr_cVi (q := 73) rfl V_X0_allHold ml_X0_52 ⟨Nat.le_of_ble_eq_true rfl, Nat.le_of_ble_eq_true rfl⟩ (e_X0_allHold l2 y3 s9) w_planner rfl rfl rfl rfl (Nat.le_of_ble_eq_true rfl) dX0_findGreater_70 (fun v10 s11 => ?_)
        refine rr_if_eq 84 (q := 76) rfl dX0_findGreater_73 rfl (fun _ => ?_) (fun _ => ?_)
        · refine rr_aload_n (q := 85) rfl dX0_findGreater_84 rfl ?_
          refine rr_get (q := 88) rfl fl_X0_12 w_planner rfl dX0_findGreater_85 ?_
          refine rr_get (q := 91) rfl fl_X0_48 (w_realm (by decide)) rfl dX0_findGreater_88 ?_
          refine rr_iload (q := 93) rfl dX0_findGreater_91 rfl ?_
          refine rr_aload_n (q := 94) rfl dX0_findGreater_93 rfl ?_
          refine rr_get (q := 97) rfl fl_X0_48 (w_realm (by decide)) rfl dX0_findGreater_94 ?_
          refine rr_iload (q := 99) rfl dX0_findGreater_97 rfl ?_
          refine rr_iald (q := 100) rfl (w_rarr3 (by decide)) dX0_findGreater_99 (fun n12 => ?_)
          refine rr_iast (q := 101) rfl (w_rarr3 (by decide)) (fun _ => (u_rarr3 (by decide))) dX0_findGreater_100 (fun n13 s14 => ?_)
          refine rr_mask [true, true, true, true, true, false] (L' := [some (.ref 34), some (.ref (rb 0)), some (.int l2), some (.int l3), some (.int l4), none]) rfl ?_
          exact e_X0_findGreater_101 hk16 l2 l3 l4 s14
        · refine rr_aload_n (q := 77) rfl dX0_findGreater_76 rfl ?_
          refine rr_iload (q := 79) rfl dX0_findGreater_77 rfl ?_
          refine rr_puti (q := 82) rfl fl_X0_61 fp_X0_3 w_planner (Nat.le_of_ble_eq_true rfl) u_planner3 dX0_findGreater_79 (fun s15 => ?_)
          refine rr_iconst 1 (q := 83) rfl dX0_findGreater_82 rfl ?_
          exact rr_zret dX0_findGreater_83 rfl (Or.inr rfl)
      · refine rr_goto 101 dX0_findGreater_48 rfl ?_
        refine rr_mask [true, true, true, true, true, false] (L' := [some (.ref 34), some (.ref (rb 0)), some (.int l2), some (.int l3), some (.int l4), none]) rfl ?_
        exact e_X0_findGreater_101 hk16 l2 l3 l4 s7
def fX0_findGreater_16 : Nat → Int32 → Int32 → Int32 → SX → Option (Int32 × SX) := lp (fun _ _ _ _ => none) (fX0_findGreater_16b)
theorem e_X0_findGreater_16 {G : Cf} {t : SM}  (n : Nat) : ∀ (l2 : Int32) (l3 : Int32) (l4 : Int32) (s : SX), R (wfX t) inI G M_X0_findGreater 16 [some (.ref 34), some (.ref (rb 0)), some (.int l2), some (.int l3), some (.int l4), none] [] s (fX0_findGreater_16 n l2 l3 l4 s) := by
  unfold fX0_findGreater_16
  exact rr_lp (P := fun (kz : Int32 → Int32 → Int32 → SX → Option (Int32 × SX)) => ∀ (l2 : Int32) (l3 : Int32) (l4 : Int32) (s : SX), R (wfX t) inI G M_X0_findGreater 16 [some (.ref 34), some (.ref (rb 0)), some (.int l2), some (.int l3), some (.int l4), none] [] s (kz l2 l3 l4 s)) (fun _ _ _ _ => rr_none) (fun kz hkz => fun l2 l3 l4 s => e_X0_findGreater_16b hkz l2 l3 l4 s) n
def fX0_findGreater (l2 : Int32) (s : SX) : Option (Int32 × SX) :=
  vl (6 * (gX s 0 10 10)) fun y1 =>
  vl (6 * (l2 + 1)) fun y2 =>
  fX0_findGreater_16 400 l2 y1 y2 s
set_option maxRecDepth 100000 in
set_option maxHeartbeats 4000000 in
theorem e_X0_findGreater {G : Cf} {t : SM} (l2 : Int32) (s : SX) : Ct (wfX t) inI G M_X0_findGreater [.ref 34, .ref (rb 0), .int l2] s (fX0_findGreater l2 s) := by
  refine Ct.of (L0 := [some (.ref 34), some (.ref (rb 0)), some (.int l2), none, none, none]) 3 rfl rfl ⟨rfl, rfl⟩ (Nat.le_of_ble_eq_true rfl) rfl ?_
  unfold fX0_findGreater
  refine rr_bipush 6 (q := 2) rfl dX0_findGreater_0 rfl ?_
  refine rr_aload_n (q := 3) rfl dX0_findGreater_2 rfl ?_
  refine rr_get (q := 6) rfl fl_X0_37 (w_realm (by decide)) rfl dX0_findGreater_3 ?_
  refine rr_imul (q := 7) rfl dX0_findGreater_6 ?_
  refine rr_istore_n (L2 := fun y1 => [some (.ref 34), some (.ref (rb 0)), some (.int l2), some (.int y1), none, none]) (q := 8) rfl dX0_findGreater_7 (Nat.le_of_ble_eq_true rfl) (fun _ => rfl) (fun y1 => ?_)
  refine rr_bipush 6 (q := 10) rfl dX0_findGreater_8 rfl ?_
  refine rr_iload_n (q := 11) rfl dX0_findGreater_10 rfl ?_
  refine rr_iconst 1 (q := 12) rfl dX0_findGreater_11 rfl ?_
  refine rr_iadd (q := 13) rfl dX0_findGreater_12 ?_
  refine rr_imul (q := 14) rfl dX0_findGreater_13 ?_
  refine rr_istore (L2 := fun y2 => [some (.ref 34), some (.ref (rb 0)), some (.int l2), some (.int y1), some (.int y2), none]) (q := 16) rfl dX0_findGreater_14 (Nat.le_of_ble_eq_true rfl) (fun _ => rfl) (fun y2 => ?_)
  exact e_X0_findGreater_16 400 l2 y1 y2 s
def fX0_findTwo_80 (k10 : Int32 → Int32 → SX → Option (Int32 × SX)) (l2 : Int32) (l3 : Int32) (s : SX) : Option (Int32 × SX) :=
  vl (l3 + 1) fun y14 =>
  k10 l2 y14 s
set_option maxRecDepth 100000 in
set_option maxHeartbeats 4000000 in
theorem e_X0_findTwo_80 {G : Cf} {t : SM} {k10 : Int32 → Int32 → SX → Option (Int32 × SX)} (hk10 : ∀ (l2 : Int32) (l3 : Int32) (s : SX), R (wfX t) inI G M_X0_findTwo 10 [some (.ref 34), some (.ref (rb 0)), some (.int l2), some (.int l3), none] [] s (k10 l2 l3 s)) (l2 : Int32) (l3 : Int32) (s : SX) : R (wfX t) inI G M_X0_findTwo 80 [some (.ref 34), some (.ref (rb 0)), some (.int l2), some (.int l3), none] [] s (fX0_findTwo_80 k10 l2 l3 s) := by
  unfold fX0_findTwo_80
  refine rr_iinc (L2 := fun y14 => [some (.ref 34), some (.ref (rb 0)), some (.int l2), some (.int y14), none]) (q := 83) rfl dX0_findTwo_80 rfl rfl (Nat.le_of_ble_eq_true rfl) (fun _ => rfl) (fun y14 => ?_)
  refine rr_goto 10 dX0_findTwo_83 rfl ?_
  exact hk10 l2 y14 s
def fX0_findTwo_10b (k10 : Int32 → Int32 → SX → Option (Int32 × SX)) (l2 : Int32) (l3 : Int32) (s : SX) : Option (Int32 × SX) :=
  (if l2 ≤ l3 then
  some (0, s)
  else
  vl (l3 / 6) fun y3 =>
  bd (fX0_isMove l3 s) fun v4 s5 =>
  (if v4 = 0 then
  fX0_findTwo_80 k10 l2 l3 s5
  else
  ixg y3 14 fun n6 => vl (wX s5 3 3 n6 (l3 - l3 / 6 * 6)) fun s7 =>
  bd (fX0_findGreater y3 s7) fun v8 s9 =>
  (if v8 = 0 then
  ixg y3 14 fun n10 =>
  ixg y3 14 fun n11 => vl (wX s9 3 3 n11 (gX s9 0 3 n10)) fun s12 =>
  fX0_findTwo_80 k10 l2 l3 s12
  else
  vl (wX s9 6 0 2 l3) fun s13 =>
  some (1, s13))))
set_option maxRecDepth 100000 in
set_option maxHeartbeats 4000000 in
theorem e_X0_findTwo_10b {G : Cf} {t : SM} {k10 : Int32 → Int32 → SX → Option (Int32 × SX)} (hk10 : ∀ (l2 : Int32) (l3 : Int32) (s : SX), R (wfX t) inI G M_X0_findTwo 10 [some (.ref 34), some (.ref (rb 0)), some (.int l2), some (.int l3), none] [] s (k10 l2 l3 s)) (l2 : Int32) (l3 : Int32) (s : SX) : R (wfX t) inI G M_X0_findTwo 10 [some (.ref 34), some (.ref (rb 0)), some (.int l2), some (.int l3), none] [] s (fX0_findTwo_10b k10 l2 l3 s) := by
  unfold fX0_findTwo_10b
  refine rr_iload_n (q := 11) rfl dX0_findTwo_10 rfl ?_
  refine rr_iload_n (q := 12) rfl dX0_findTwo_11 rfl ?_
  refine rr_icmp_ge 86 (q := 15) rfl dX0_findTwo_12 rfl (fun _ => ?_) (fun _ => ?_)
  · refine rr_iconst 0 (q := 87) rfl dX0_findTwo_86 rfl ?_
    exact rr_zret dX0_findTwo_87 rfl (Or.inl rfl)
  · refine rr_iload_n (q := 16) rfl dX0_findTwo_15 rfl ?_
    refine rr_bipush 6 (q := 18) rfl dX0_findTwo_16 rfl ?_
    refine rr_idiv (q := 19) rfl dX0_findTwo_18 (by decide) ?_
    refine rr_istore (L2 := fun y3 => [some (.ref 34), some (.ref (rb 0)), some (.int l2), some (.int l3), some (.int y3)]) (q := 21) rfl dX0_findTwo_19 (Nat.le_of_ble_eq_true rfl) (fun _ => rfl) (fun y3 => ?_)
    refine rr_aload_n (q := 22) rfl dX0_findTwo_21 rfl ?_
    refine rr_iload_n (q := 23) rfl dX0_findTwo_22 rfl ?_
    refine rr_cSi (q := 26) rfl V_X0_isMove ml_X0_40 ⟨Nat.le_of_ble_eq_true rfl, Nat.le_of_ble_eq_true rfl⟩ (e_X0_isMove l3 s) rfl rfl (Nat.le_of_ble_eq_true rfl) dX0_findTwo_23 (fun v4 s5 => ?_)
    refine rr_if_ne 32 (q := 29) rfl dX0_findTwo_26 rfl (fun _ => ?_) (fun _ => ?_)
    · refine rr_aload_n (q := 33) rfl dX0_findTwo_32 rfl ?_
      refine rr_get (q := 36) rfl fl_X0_12 w_planner rfl dX0_findTwo_33 ?_
      refine rr_get (q := 39) rfl fl_X0_48 (w_realm (by decide)) rfl dX0_findTwo_36 ?_
      refine rr_iload (q := 41) rfl dX0_findTwo_39 rfl ?_
      refine rr_iload_n (q := 42) rfl dX0_findTwo_41 rfl ?_
      refine rr_bipush 6 (q := 44) rfl dX0_findTwo_42 rfl ?_
      refine rr_irem (q := 45) rfl dX0_findTwo_44 (by decide) ?_
      refine rr_iast (q := 46) rfl (w_rarr3 (by decide)) (fun _ => (u_rarr3 (by decide))) dX0_findTwo_45 (fun n6 s7 => ?_)
      refine rr_aload_n (q := 47) rfl dX0_findTwo_46 rfl ?_
      refine rr_aload_n (q := 48) rfl dX0_findTwo_47 rfl ?_
      refine rr_iload (q := 50) rfl dX0_findTwo_48 rfl ?_
      refine rr_cVi (q := 53) rfl V_X0_findGreater ml_X0_58 ⟨Nat.le_of_ble_eq_true rfl, Nat.le_of_ble_eq_true rfl⟩ (e_X0_findGreater y3 s7) w_planner rfl rfl rfl rfl (Nat.le_of_ble_eq_true rfl) dX0_findTwo_50 (fun v8 s9 => ?_)
      refine rr_if_eq 63 (q := 56) rfl dX0_findTwo_53 rfl (fun _ => ?_) (fun _ => ?_)
      · refine rr_aload_n (q := 64) rfl dX0_findTwo_63 rfl ?_
        refine rr_get (q := 67) rfl fl_X0_12 w_planner rfl dX0_findTwo_64 ?_
        refine rr_get (q := 70) rfl fl_X0_48 (w_realm (by decide)) rfl dX0_findTwo_67 ?_
        refine rr_iload (q := 72) rfl dX0_findTwo_70 rfl ?_
        refine rr_aload_n (q := 73) rfl dX0_findTwo_72 rfl ?_
        refine rr_get (q := 76) rfl fl_X0_48 (w_realm (by decide)) rfl dX0_findTwo_73 ?_
        refine rr_iload (q := 78) rfl dX0_findTwo_76 rfl ?_
        refine rr_iald (q := 79) rfl (w_rarr3 (by decide)) dX0_findTwo_78 (fun n10 => ?_)
        refine rr_iast (q := 80) rfl (w_rarr3 (by decide)) (fun _ => (u_rarr3 (by decide))) dX0_findTwo_79 (fun n11 s12 => ?_)
        refine rr_mask [true, true, true, true, false] (L' := [some (.ref 34), some (.ref (rb 0)), some (.int l2), some (.int l3), none]) rfl ?_
        exact e_X0_findTwo_80 hk10 l2 l3 s12
      · refine rr_aload_n (q := 57) rfl dX0_findTwo_56 rfl ?_
        refine rr_iload_n (q := 58) rfl dX0_findTwo_57 rfl ?_
        refine rr_puti (q := 61) rfl fl_X0_55 fp_X0_2 w_planner (Nat.le_of_ble_eq_true rfl) u_planner2 dX0_findTwo_58 (fun s13 => ?_)
        refine rr_iconst 1 (q := 62) rfl dX0_findTwo_61 rfl ?_
        exact rr_zret dX0_findTwo_62 rfl (Or.inr rfl)
    · refine rr_goto 80 dX0_findTwo_29 rfl ?_
      refine rr_mask [true, true, true, true, false] (L' := [some (.ref 34), some (.ref (rb 0)), some (.int l2), some (.int l3), none]) rfl ?_
      exact e_X0_findTwo_80 hk10 l2 l3 s5
def fX0_findTwo_10 : Nat → Int32 → Int32 → SX → Option (Int32 × SX) := lp (fun _ _ _ => none) (fX0_findTwo_10b)
theorem e_X0_findTwo_10 {G : Cf} {t : SM}  (n : Nat) : ∀ (l2 : Int32) (l3 : Int32) (s : SX), R (wfX t) inI G M_X0_findTwo 10 [some (.ref 34), some (.ref (rb 0)), some (.int l2), some (.int l3), none] [] s (fX0_findTwo_10 n l2 l3 s) := by
  unfold fX0_findTwo_10
  exact rr_lp (P := fun (kz : Int32 → Int32 → SX → Option (Int32 × SX)) => ∀ (l2 : Int32) (l3 : Int32) (s : SX), R (wfX t) inI G M_X0_findTwo 10 [some (.ref 34), some (.ref (rb 0)), some (.int l2), some (.int l3), none] [] s (kz l2 l3 s)) (fun _ _ _ => rr_none) (fun kz hkz => fun l2 l3 s => e_X0_findTwo_10b hkz l2 l3 s) n
def fX0_findTwo (s : SX) : Option (Int32 × SX) :=
  vl (6 * (gX s 0 10 10)) fun y1 =>
  vl 0 fun y2 =>
  fX0_findTwo_10 400 y1 y2 s
set_option maxRecDepth 100000 in
set_option maxHeartbeats 4000000 in
theorem e_X0_findTwo {G : Cf} {t : SM} (s : SX) : Ct (wfX t) inI G M_X0_findTwo [.ref 34, .ref (rb 0)] s (fX0_findTwo s) := by
  refine Ct.of (L0 := [some (.ref 34), some (.ref (rb 0)), none, none, none]) 3 rfl rfl ⟨rfl, rfl⟩ (Nat.le_of_ble_eq_true rfl) rfl ?_
  unfold fX0_findTwo
  refine rr_bipush 6 (q := 2) rfl dX0_findTwo_0 rfl ?_
  refine rr_aload_n (q := 3) rfl dX0_findTwo_2 rfl ?_
  refine rr_get (q := 6) rfl fl_X0_37 (w_realm (by decide)) rfl dX0_findTwo_3 ?_
  refine rr_imul (q := 7) rfl dX0_findTwo_6 ?_
  refine rr_istore_n (L2 := fun y1 => [some (.ref 34), some (.ref (rb 0)), some (.int y1), none, none]) (q := 8) rfl dX0_findTwo_7 (Nat.le_of_ble_eq_true rfl) (fun _ => rfl) (fun y1 => ?_)
  refine rr_iconst 0 (q := 9) rfl dX0_findTwo_8 rfl ?_
  refine rr_istore_n (L2 := fun y2 => [some (.ref 34), some (.ref (rb 0)), some (.int y1), some (.int y2), none]) (q := 10) rfl dX0_findTwo_9 (Nat.le_of_ble_eq_true rfl) (fun _ => rfl) (fun y2 => ?_)
  exact e_X0_findTwo_10 400 y1 y2 s
def fX0_plan_44 (k15 : Int32 → SX → Option (Int32 × SX)) (l2 : Int32) (s : SX) : Option (Int32 × SX) :=
  vl (l2 + 1) fun y11 =>
  k15 y11 s
set_option maxRecDepth 100000 in
set_option maxHeartbeats 4000000 in
theorem e_X0_plan_44 {G : Cf} {t : SM} {k15 : Int32 → SX → Option (Int32 × SX)} (hk15 : ∀ (l2 : Int32) (s : SX), R (wfX t) inI G M_X0_plan 15 [some (.ref 34), some (.ref (rb 0)), some (.int l2)] [] s (k15 l2 s)) (l2 : Int32) (s : SX) : R (wfX t) inI G M_X0_plan 44 [some (.ref 34), some (.ref (rb 0)), some (.int l2)] [] s (fX0_plan_44 k15 l2 s) := by
  unfold fX0_plan_44
  refine rr_iinc (L2 := fun y11 => [some (.ref 34), some (.ref (rb 0)), some (.int y11)]) (q := 47) rfl dX0_plan_44 rfl rfl (Nat.le_of_ble_eq_true rfl) (fun _ => rfl) (fun y11 => ?_)
  refine rr_goto 15 dX0_plan_47 rfl ?_
  exact hk15 y11 s
def fX0_plan_15b (k15 : Int32 → SX → Option (Int32 × SX)) (l2 : Int32) (s : SX) : Option (Int32 × SX) :=
  (if 6 ≤ l2 then
  (if (gX s 6 0 1) = 0 then
  some (0, s)
  else
  bd (fX0_findOne s) fun v4 s5 =>
  (if v4 = 0 then
  bd (fX0_findTwo s5) fun v6 s7 =>
  (if v6 = 0 then
  some ((-1), s7)
  else
  some (2, s7))
  else
  some (1, s5)))
  else
  bd (fX1_looseWordsOf 3 l2 s) fun v8 s9 =>
  (if v8 = 0 then
  fX0_plan_44 k15 l2 s9
  else
  vl (wX s9 6 0 1 ((gX s9 6 0 1) ||| (1 <<< (l2 &&& 31)))) fun s10 =>
  fX0_plan_44 k15 l2 s10))
set_option maxRecDepth 100000 in
set_option maxHeartbeats 4000000 in
theorem e_X0_plan_15b {G : Cf} {t : SM} {k15 : Int32 → SX → Option (Int32 × SX)} (hk15 : ∀ (l2 : Int32) (s : SX), R (wfX t) inI G M_X0_plan 15 [some (.ref 34), some (.ref (rb 0)), some (.int l2)] [] s (k15 l2 s)) (l2 : Int32) (s : SX) : R (wfX t) inI G M_X0_plan 15 [some (.ref 34), some (.ref (rb 0)), some (.int l2)] [] s (fX0_plan_15b k15 l2 s) := by
  unfold fX0_plan_15b
  refine rr_iload_n (q := 16) rfl dX0_plan_15 rfl ?_
  refine rr_bipush 6 (q := 18) rfl dX0_plan_16 rfl ?_
  refine rr_icmp_ge 50 (q := 21) rfl dX0_plan_18 rfl (fun _ => ?_) (fun _ => ?_)
  · refine rr_aload_n (q := 51) rfl dX0_plan_50 rfl ?_
    refine rr_get (q := 54) rfl fl_X0_22 w_planner rfl dX0_plan_51 ?_
    refine rr_if_ne 59 (q := 57) rfl dX0_plan_54 rfl (fun _ => ?_) (fun _ => ?_)
    · refine rr_aload_n (q := 60) rfl dX0_plan_59 rfl ?_
      refine rr_aload_n (q := 61) rfl dX0_plan_60 rfl ?_
      refine rr_cVi (q := 64) rfl V_X0_findOne ml_X0_30 ⟨Nat.le_of_ble_eq_true rfl, Nat.le_of_ble_eq_true rfl⟩ (e_X0_findOne s) w_planner rfl rfl rfl rfl (Nat.le_of_ble_eq_true rfl) dX0_plan_61 (fun v4 s5 => ?_)
      refine rr_if_eq 69 (q := 67) rfl dX0_plan_64 rfl (fun _ => ?_) (fun _ => ?_)
      · refine rr_aload_n (q := 70) rfl dX0_plan_69 rfl ?_
        refine rr_aload_n (q := 71) rfl dX0_plan_70 rfl ?_
        refine rr_cVi (q := 74) rfl V_X0_findTwo ml_X0_34 ⟨Nat.le_of_ble_eq_true rfl, Nat.le_of_ble_eq_true rfl⟩ (e_X0_findTwo s5) w_planner rfl rfl rfl rfl (Nat.le_of_ble_eq_true rfl) dX0_plan_71 (fun v6 s7 => ?_)
        refine rr_if_eq 81 (q := 77) rfl dX0_plan_74 rfl (fun _ => ?_) (fun _ => ?_)
        · refine rr_iconst (-1) (q := 82) rfl dX0_plan_81 rfl ?_
          exact rr_iret dX0_plan_82 rfl
        · refine rr_iconst 2 (q := 78) rfl dX0_plan_77 rfl ?_
          refine rr_goto 82 dX0_plan_78 rfl ?_
          exact rr_iret dX0_plan_82 rfl
      · refine rr_iconst 1 (q := 68) rfl dX0_plan_67 rfl ?_
        exact rr_iret dX0_plan_68 rfl
    · refine rr_iconst 0 (q := 58) rfl dX0_plan_57 rfl ?_
      exact rr_iret dX0_plan_58 rfl
  · refine rr_aload_n (q := 22) rfl dX0_plan_21 rfl ?_
    refine rr_get (q := 25) rfl fl_X0_12 w_planner rfl dX0_plan_22 ?_
    refine rr_iload_n (q := 26) rfl dX0_plan_25 rfl ?_
    refine rr_cVi (q := 29) rfl V_X1_looseWordsOf ml_X0_26 ⟨Nat.le_of_ble_eq_true rfl, Nat.le_of_ble_eq_true rfl⟩ (e_X1_looseWordsOf (by decide) l2 s) (w_realm (by decide)) rfl rfl rfl rfl (Nat.le_of_ble_eq_true rfl) dX0_plan_26 (fun v8 s9 => ?_)
    refine rr_if_eq 44 (q := 32) rfl dX0_plan_29 rfl (fun _ => ?_) (fun _ => ?_)
    · exact e_X0_plan_44 hk15 l2 s9
    · refine rr_aload_n (q := 33) rfl dX0_plan_32 rfl ?_
      refine rr_dup (q := 34) rfl dX0_plan_33 rfl ?_
      refine rr_get (q := 37) rfl fl_X0_22 w_planner rfl dX0_plan_34 ?_
      refine rr_iconst 1 (q := 38) rfl dX0_plan_37 rfl ?_
      refine rr_iload_n (q := 39) rfl dX0_plan_38 rfl ?_
      refine rr_ishl (q := 40) rfl dX0_plan_39 ?_
      refine rr_ior (q := 41) rfl dX0_plan_40 ?_
      refine rr_puti (q := 44) rfl fl_X0_22 fp_X0_1 w_planner (Nat.le_of_ble_eq_true rfl) u_planner1 dX0_plan_41 (fun s10 => ?_)
      exact e_X0_plan_44 hk15 l2 s10
def fX0_plan_15 : Nat → Int32 → SX → Option (Int32 × SX) := lp (fun _ _ => none) (fX0_plan_15b)
theorem e_X0_plan_15 {G : Cf} {t : SM}  (n : Nat) : ∀ (l2 : Int32) (s : SX), R (wfX t) inI G M_X0_plan 15 [some (.ref 34), some (.ref (rb 0)), some (.int l2)] [] s (fX0_plan_15 n l2 s) := by
  unfold fX0_plan_15
  exact rr_lp (P := fun (kz : Int32 → SX → Option (Int32 × SX)) => ∀ (l2 : Int32) (s : SX), R (wfX t) inI G M_X0_plan 15 [some (.ref 34), some (.ref (rb 0)), some (.int l2)] [] s (kz l2 s)) (fun _ _ => rr_none) (fun kz hkz => fun l2 s => e_X0_plan_15b hkz l2 s) n
def fX0_plan (s : SX) : Option (Int32 × SX) :=
  bd (fX1_become 3 0 s) fun _ s1 =>
  vl (wX s1 6 0 1 0) fun s2 =>
  vl 0 fun y3 =>
  fX0_plan_15 400 y3 s2
set_option maxRecDepth 100000 in
set_option maxHeartbeats 4000000 in
theorem e_X0_plan {G : Cf} {t : SM} (s : SX) : Ct (wfX t) inI G M_X0_plan [.ref 34, .ref (rb 0)] s (fX0_plan s) := by
  refine Ct.of (L0 := [some (.ref 34), some (.ref (rb 0)), none]) 1 rfl rfl ⟨rfl, rfl⟩ (Nat.le_of_ble_eq_true rfl) rfl ?_
  unfold fX0_plan
  refine rr_aload_n (q := 1) rfl dX0_plan_0 rfl ?_
  refine rr_get (q := 4) rfl fl_X0_12 w_planner rfl dX0_plan_1 ?_
  refine rr_aload_n (q := 5) rfl dX0_plan_4 rfl ?_
  refine rr_cVu (q := 8) rfl V_X1_become ml_X0_18 ⟨Nat.le_of_ble_eq_true rfl, Nat.le_of_ble_eq_true rfl⟩ (e_X1_become (by decide) (by decide) s) (w_realm (by decide)) rfl rfl rfl rfl (Nat.le_of_ble_eq_true rfl) dX0_plan_5 (fun _ s1 => ?_)
  refine rr_aload_n (q := 9) rfl dX0_plan_8 rfl ?_
  refine rr_iconst 0 (q := 10) rfl dX0_plan_9 rfl ?_
  refine rr_puti (q := 13) rfl fl_X0_22 fp_X0_1 w_planner (Nat.le_of_ble_eq_true rfl) u_planner1 dX0_plan_10 (fun s2 => ?_)
  refine rr_iconst 0 (q := 14) rfl dX0_plan_13 rfl ?_
  refine rr_istore_n (L2 := fun y3 => [some (.ref 34), some (.ref (rb 0)), some (.int y3)]) (q := 15) rfl dX0_plan_14 (Nat.le_of_ble_eq_true rfl) (fun _ => rfl) (fun y3 => ?_)
  exact e_X0_plan_15 400 y3 s2
def fX3_holderAt (i : Nat) (l1 : Int32) (s : SX) : Option (Int32 × SX) :=
  ixg l1 40 fun n1 =>
  vl (gL s i n1) fun y2 =>
  (if (lg_cmp y2 0) < 0 then
  some ((-1), s)
  else
  (if 0 ≤ (lg_cmp y2 6) then
  some ((-1), s)
  else
  some (Int64.toInt32 y2, s)))
set_option maxRecDepth 100000 in
set_option maxHeartbeats 4000000 in
theorem e_X3_holderAt {G : Cf} {t : SM} {i : Nat} (hi : i < 4) (l1 : Int32) (s : SX) : Ct (wfX t) inI G M_X3_holderAt [.ref (sb i), .int l1] s (fX3_holderAt i l1 s) := by
  refine Ct.of (L0 := [some (.ref (sb i)), some (.int l1), none, none]) 2 rfl rfl ⟨rfl, rfl⟩ (Nat.le_of_ble_eq_true rfl) rfl ?_
  unfold fX3_holderAt
  refine rr_aload_n (q := 1) rfl dX3_holderAt_0 rfl ?_
  refine rr_get (q := 4) rfl fl_X3_9 (w_sheet hi) rfl dX3_holderAt_1 ?_
  refine rr_iload_n (q := 5) rfl dX3_holderAt_4 rfl ?_
  refine rr_lald (q := 6) rfl (w_snum hi) dX3_holderAt_5 (fun n1 => ?_)
  refine rr_lstore_n (L2 := fun y2 => [some (.ref (sb i)), some (.int l1), some (.long y2), none]) (q := 7) rfl dX3_holderAt_6 (Nat.le_of_ble_eq_true rfl) (fun _ => rfl) (fun y2 => ?_)
  refine rr_lload_n (q := 8) rfl dX3_holderAt_7 rfl ?_
  refine rr_lconst 0 (q := 9) rfl dX3_holderAt_8 rfl ?_
  refine rr_lcmp (q := 10) rfl dX3_holderAt_9 ?_
  refine rr_if_lt 26 (q := 13) rfl dX3_holderAt_10 rfl (fun _ => ?_) (fun _ => ?_)
  · refine rr_iconst (-1) (q := 27) rfl dX3_holderAt_26 rfl ?_
    exact rr_iret dX3_holderAt_27 rfl
  · refine rr_lload_n (q := 14) rfl dX3_holderAt_13 rfl ?_
    refine rr_ldc2 (q := 17) rfl dX3_holderAt_14 kc_X3_22 ?_
    refine rr_lcmp (q := 18) rfl dX3_holderAt_17 ?_
    refine rr_if_ge 26 (q := 21) rfl dX3_holderAt_18 rfl (fun _ => ?_) (fun _ => ?_)
    · refine rr_iconst (-1) (q := 27) rfl dX3_holderAt_26 rfl ?_
      exact rr_iret dX3_holderAt_27 rfl
    · refine rr_lload_n (q := 22) rfl dX3_holderAt_21 rfl ?_
      refine rr_l2i (q := 23) rfl dX3_holderAt_22 ?_
      refine rr_goto 27 dX3_holderAt_23 rfl ?_
      exact rr_iret dX3_holderAt_27 rfl
def fX2_aim_77 (j : Nat) (k7 : Int32 → SX → Option (Unit × SX)) (l3 : Int32) (s : SX) : Option (Unit × SX) :=
  vl (l3 + 1) fun y12 =>
  k7 y12 s
set_option maxRecDepth 100000 in
set_option maxHeartbeats 4000000 in
theorem e_X2_aim_77 {G : Cf} {t : SM} {j : Nat} (hj : j < 4) {k7 : Int32 → SX → Option (Unit × SX)} (hk7 : ∀ (l3 : Int32) (s : SX), R (wfX t) inU G M_X2_aim 7 [some (.ref 46), some (.ref (rb 0)), some (.ref (sb j)), some (.int l3), none] [] s (k7 l3 s)) (l3 : Int32) (s : SX) : R (wfX t) inU G M_X2_aim 77 [some (.ref 46), some (.ref (rb 0)), some (.ref (sb j)), some (.int l3), none] [] s (fX2_aim_77 j k7 l3 s) := by
  unfold fX2_aim_77
  refine rr_iinc (L2 := fun y12 => [some (.ref 46), some (.ref (rb 0)), some (.ref (sb j)), some (.int y12), none]) (q := 80) rfl dX2_aim_77 rfl rfl (Nat.le_of_ble_eq_true rfl) (fun _ => rfl) (fun y12 => ?_)
  refine rr_goto 7 dX2_aim_80 rfl ?_
  exact hk7 y12 s
def fX2_aim_7b (j : Nat) (k7 : Int32 → SX → Option (Unit × SX)) (l3 : Int32) (s : SX) : Option (Unit × SX) :=
  (if (gX s 0 10 10) ≤ l3 then
  some ((), s)
  else
  (if (gX s (9 + j) 0 2) ≤ l3 then
  some ((), s)
  else
  bd (fX3_holderAt j l3 s) fun v3 s4 =>
  vl v3 fun y5 =>
  (if y5 < 0 then
  fX2_aim_77 j k7 l3 s4
  else
  ixg l3 14 fun n6 =>
  (if y5 = (gX s4 0 3 n6) then
  fX2_aim_77 j k7 l3 s4
  else
  ixg (gX s4 7 0 5) 14 fun n7 => vl (wX s4 7 1 n7 l3) fun s8 =>
  ixg (gX s8 7 0 5) 14 fun n9 => vl (wX s8 7 2 n9 y5) fun s10 =>
  vl (wX s10 7 0 5 ((gX s10 7 0 5) + 1)) fun s11 =>
  fX2_aim_77 j k7 l3 s11))))
set_option maxRecDepth 100000 in
set_option maxHeartbeats 4000000 in
theorem e_X2_aim_7b {G : Cf} {t : SM} {j : Nat} (hj : j < 4) {k7 : Int32 → SX → Option (Unit × SX)} (hk7 : ∀ (l3 : Int32) (s : SX), R (wfX t) inU G M_X2_aim 7 [some (.ref 46), some (.ref (rb 0)), some (.ref (sb j)), some (.int l3), none] [] s (k7 l3 s)) (l3 : Int32) (s : SX) : R (wfX t) inU G M_X2_aim 7 [some (.ref 46), some (.ref (rb 0)), some (.ref (sb j)), some (.int l3), none] [] s (fX2_aim_7b j k7 l3 s) := by
  unfold fX2_aim_7b
  refine rr_iload_n (q := 8) rfl dX2_aim_7 rfl ?_
  refine rr_aload_n (q := 9) rfl dX2_aim_8 rfl ?_
  refine rr_get (q := 12) rfl fl_X2_36 (w_realm (by decide)) rfl dX2_aim_9 ?_
  refine rr_icmp_ge 83 (q := 15) rfl dX2_aim_12 rfl (fun _ => ?_) (fun _ => ?_)
  · exact rr_vret dX2_aim_83 rfl
  · refine rr_iload_n (q := 16) rfl dX2_aim_15 rfl ?_
    refine rr_aload_n (q := 17) rfl dX2_aim_16 rfl ?_
    refine rr_get (q := 20) rfl fl_X2_39 (w_sheet hj) rfl dX2_aim_17 ?_
    refine rr_icmp_ge 83 (q := 23) rfl dX2_aim_20 rfl (fun _ => ?_) (fun _ => ?_)
    · exact rr_vret dX2_aim_83 rfl
    · refine rr_aload_n (q := 24) rfl dX2_aim_23 rfl ?_
      refine rr_iload_n (q := 25) rfl dX2_aim_24 rfl ?_
      refine rr_cVi (q := 28) rfl V_X3_holderAt ml_X2_44 ⟨Nat.le_of_ble_eq_true rfl, Nat.le_of_ble_eq_true rfl⟩ (e_X3_holderAt hj l3 s) (w_sheet hj) rfl rfl rfl rfl (Nat.le_of_ble_eq_true rfl) dX2_aim_25 (fun v3 s4 => ?_)
      refine rr_istore (L2 := fun y5 => [some (.ref 46), some (.ref (rb 0)), some (.ref (sb j)), some (.int l3), some (.int y5)]) (q := 30) rfl dX2_aim_28 (Nat.le_of_ble_eq_true rfl) (fun _ => rfl) (fun y5 => ?_)
      refine rr_iload (q := 32) rfl dX2_aim_30 rfl ?_
      refine rr_if_lt 77 (q := 35) rfl dX2_aim_32 rfl (fun _ => ?_) (fun _ => ?_)
      · refine rr_mask [true, true, true, true, false] (L' := [some (.ref 46), some (.ref (rb 0)), some (.ref (sb j)), some (.int l3), none]) rfl ?_
        exact e_X2_aim_77 hj hk7 l3 s4
      · refine rr_iload (q := 37) rfl dX2_aim_35 rfl ?_
        refine rr_aload_n (q := 38) rfl dX2_aim_37 rfl ?_
        refine rr_get (q := 41) rfl fl_X2_48 (w_realm (by decide)) rfl dX2_aim_38 ?_
        refine rr_iload_n (q := 42) rfl dX2_aim_41 rfl ?_
        refine rr_iald (q := 43) rfl (w_rarr3 (by decide)) dX2_aim_42 (fun n6 => ?_)
        refine rr_icmp_eq 77 (q := 46) rfl dX2_aim_43 rfl (fun _ => ?_) (fun _ => ?_)
        · refine rr_mask [true, true, true, true, false] (L' := [some (.ref 46), some (.ref (rb 0)), some (.ref (sb j)), some (.int l3), none]) rfl ?_
          exact e_X2_aim_77 hj hk7 l3 s4
        · refine rr_aload_n (q := 47) rfl dX2_aim_46 rfl ?_
          refine rr_get (q := 50) rfl fl_X2_18 w_route rfl dX2_aim_47 ?_
          refine rr_aload_n (q := 51) rfl dX2_aim_50 rfl ?_
          refine rr_get (q := 54) rfl fl_X2_32 w_route rfl dX2_aim_51 ?_
          refine rr_iload_n (q := 55) rfl dX2_aim_54 rfl ?_
          refine rr_iast (q := 56) rfl w_routearr1 (fun _ => u_routearr1) dX2_aim_55 (fun n7 s8 => ?_)
          refine rr_aload_n (q := 57) rfl dX2_aim_56 rfl ?_
          refine rr_get (q := 60) rfl fl_X2_22 w_route rfl dX2_aim_57 ?_
          refine rr_aload_n (q := 61) rfl dX2_aim_60 rfl ?_
          refine rr_get (q := 64) rfl fl_X2_32 w_route rfl dX2_aim_61 ?_
          refine rr_iload (q := 66) rfl dX2_aim_64 rfl ?_
          refine rr_iast (q := 67) rfl w_routearr2 (fun _ => u_routearr2) dX2_aim_66 (fun n9 s10 => ?_)
          refine rr_aload_n (q := 68) rfl dX2_aim_67 rfl ?_
          refine rr_dup (q := 69) rfl dX2_aim_68 rfl ?_
          refine rr_get (q := 72) rfl fl_X2_32 w_route rfl dX2_aim_69 ?_
          refine rr_iconst 1 (q := 73) rfl dX2_aim_72 rfl ?_
          refine rr_iadd (q := 74) rfl dX2_aim_73 ?_
          refine rr_puti (q := 77) rfl fl_X2_32 fp_X2_5 w_route (Nat.le_of_ble_eq_true rfl) u_route5 dX2_aim_74 (fun s11 => ?_)
          refine rr_mask [true, true, true, true, false] (L' := [some (.ref 46), some (.ref (rb 0)), some (.ref (sb j)), some (.int l3), none]) rfl ?_
          exact e_X2_aim_77 hj hk7 l3 s11
def fX2_aim_7 (j : Nat) : Nat → Int32 → SX → Option (Unit × SX) := lp (fun _ _ => none) (fX2_aim_7b j)
theorem e_X2_aim_7 {G : Cf} {t : SM} {j : Nat} (hj : j < 4)  (n : Nat) : ∀ (l3 : Int32) (s : SX), R (wfX t) inU G M_X2_aim 7 [some (.ref 46), some (.ref (rb 0)), some (.ref (sb j)), some (.int l3), none] [] s (fX2_aim_7 j n l3 s) := by
  unfold fX2_aim_7
  exact rr_lp (P := fun (kz : Int32 → SX → Option (Unit × SX)) => ∀ (l3 : Int32) (s : SX), R (wfX t) inU G M_X2_aim 7 [some (.ref 46), some (.ref (rb 0)), some (.ref (sb j)), some (.int l3), none] [] s (kz l3 s)) (fun _ _ => rr_none) (fun kz hkz => fun l3 s => e_X2_aim_7b hj hkz l3 s) n
def fX2_aim (j : Nat) (s : SX) : Option (Unit × SX) :=
  vl (wX s 7 0 5 0) fun s1 =>
  vl 0 fun y2 =>
  fX2_aim_7 j 400 y2 s1
set_option maxRecDepth 100000 in
set_option maxHeartbeats 4000000 in
theorem e_X2_aim {G : Cf} {t : SM} {j : Nat} (hj : j < 4) (s : SX) : Ct (wfX t) inU G M_X2_aim [.ref 46, .ref (rb 0), .ref (sb j)] s (fX2_aim j s) := by
  refine Ct.of (L0 := [some (.ref 46), some (.ref (rb 0)), some (.ref (sb j)), none, none]) 2 rfl rfl ⟨rfl, rfl⟩ (Nat.le_of_ble_eq_true rfl) rfl ?_
  unfold fX2_aim
  refine rr_aload_n (q := 1) rfl dX2_aim_0 rfl ?_
  refine rr_iconst 0 (q := 2) rfl dX2_aim_1 rfl ?_
  refine rr_puti (q := 5) rfl fl_X2_32 fp_X2_5 w_route (Nat.le_of_ble_eq_true rfl) u_route5 dX2_aim_2 (fun s1 => ?_)
  refine rr_iconst 0 (q := 6) rfl dX2_aim_5 rfl ?_
  refine rr_istore_n (L2 := fun y2 => [some (.ref 46), some (.ref (rb 0)), some (.ref (sb j)), some (.int y2), none]) (q := 7) rfl dX2_aim_6 (Nat.le_of_ble_eq_true rfl) (fun _ => rfl) (fun y2 => ?_)
  exact e_X2_aim_7 hj 400 y2 s1
def fX2_movesDead_2b (k2 : Int32 → SX → Option (Int32 × SX)) (l2 : Int32) (s : SX) : Option (Int32 × SX) :=
  (if (gX s 7 0 5) ≤ l2 then
  some (0, s)
  else
  ixg l2 14 fun n2 =>
  bd (fX1_isDead 0 (gX s 7 1 n2) s) fun v3 s4 =>
  (if v3 = 0 then
  vl (l2 + 1) fun y5 =>
  k2 y5 s4
  else
  some (1, s4)))
set_option maxRecDepth 100000 in
set_option maxHeartbeats 4000000 in
theorem e_X2_movesDead_2b {G : Cf} {t : SM} {k2 : Int32 → SX → Option (Int32 × SX)} (hk2 : ∀ (l2 : Int32) (s : SX), R (wfX t) inI G M_X2_movesDead 2 [some (.ref 46), some (.ref (rb 0)), some (.int l2)] [] s (k2 l2 s)) (l2 : Int32) (s : SX) : R (wfX t) inI G M_X2_movesDead 2 [some (.ref 46), some (.ref (rb 0)), some (.int l2)] [] s (fX2_movesDead_2b k2 l2 s) := by
  unfold fX2_movesDead_2b
  refine rr_iload_n (q := 3) rfl dX2_movesDead_2 rfl ?_
  refine rr_aload_n (q := 4) rfl dX2_movesDead_3 rfl ?_
  refine rr_get (q := 7) rfl fl_X2_32 w_route rfl dX2_movesDead_4 ?_
  refine rr_icmp_ge 31 (q := 10) rfl dX2_movesDead_7 rfl (fun _ => ?_) (fun _ => ?_)
  · refine rr_iconst 0 (q := 32) rfl dX2_movesDead_31 rfl ?_
    exact rr_zret dX2_movesDead_32 rfl (Or.inl rfl)
  · refine rr_aload_n (q := 11) rfl dX2_movesDead_10 rfl ?_
    refine rr_aload_n (q := 12) rfl dX2_movesDead_11 rfl ?_
    refine rr_get (q := 15) rfl fl_X2_18 w_route rfl dX2_movesDead_12 ?_
    refine rr_iload_n (q := 16) rfl dX2_movesDead_15 rfl ?_
    refine rr_iald (q := 17) rfl w_routearr1 dX2_movesDead_16 (fun n2 => ?_)
    refine rr_cVi (q := 20) rfl V_X1_isDead ml_X2_51 ⟨Nat.le_of_ble_eq_true rfl, Nat.le_of_ble_eq_true rfl⟩ (e_X1_isDead (by decide) (gX s 7 1 n2) s) (w_realm (by decide)) rfl rfl rfl rfl (Nat.le_of_ble_eq_true rfl) dX2_movesDead_17 (fun v3 s4 => ?_)
    refine rr_if_eq 25 (q := 23) rfl dX2_movesDead_20 rfl (fun _ => ?_) (fun _ => ?_)
    · refine rr_iinc (L2 := fun y5 => [some (.ref 46), some (.ref (rb 0)), some (.int y5)]) (q := 28) rfl dX2_movesDead_25 rfl rfl (Nat.le_of_ble_eq_true rfl) (fun _ => rfl) (fun y5 => ?_)
      refine rr_goto 2 dX2_movesDead_28 rfl ?_
      exact hk2 y5 s4
    · refine rr_iconst 1 (q := 24) rfl dX2_movesDead_23 rfl ?_
      exact rr_zret dX2_movesDead_24 rfl (Or.inr rfl)
def fX2_movesDead_2 : Nat → Int32 → SX → Option (Int32 × SX) := lp (fun _ _ => none) (fX2_movesDead_2b)
theorem e_X2_movesDead_2 {G : Cf} {t : SM}  (n : Nat) : ∀ (l2 : Int32) (s : SX), R (wfX t) inI G M_X2_movesDead 2 [some (.ref 46), some (.ref (rb 0)), some (.int l2)] [] s (fX2_movesDead_2 n l2 s) := by
  unfold fX2_movesDead_2
  exact rr_lp (P := fun (kz : Int32 → SX → Option (Int32 × SX)) => ∀ (l2 : Int32) (s : SX), R (wfX t) inI G M_X2_movesDead 2 [some (.ref 46), some (.ref (rb 0)), some (.int l2)] [] s (kz l2 s)) (fun _ _ => rr_none) (fun kz hkz => fun l2 s => e_X2_movesDead_2b hkz l2 s) n
def fX2_movesDead (s : SX) : Option (Int32 × SX) :=
  vl 0 fun y1 =>
  fX2_movesDead_2 400 y1 s
set_option maxRecDepth 100000 in
set_option maxHeartbeats 4000000 in
theorem e_X2_movesDead {G : Cf} {t : SM} (s : SX) : Ct (wfX t) inI G M_X2_movesDead [.ref 46, .ref (rb 0)] s (fX2_movesDead s) := by
  refine Ct.of (L0 := [some (.ref 46), some (.ref (rb 0)), none]) 1 rfl rfl ⟨rfl, rfl⟩ (Nat.le_of_ble_eq_true rfl) rfl ?_
  unfold fX2_movesDead
  refine rr_iconst 0 (q := 1) rfl dX2_movesDead_0 rfl ?_
  refine rr_istore_n (L2 := fun y1 => [some (.ref 46), some (.ref (rb 0)), some (.int y1)]) (q := 2) rfl dX2_movesDead_1 (Nat.le_of_ble_eq_true rfl) (fun _ => rfl) (fun y1 => ?_)
  exact e_X2_movesDead_2 400 y1 s
def fX2_firstStep_33 (k2 : Int32 → Int32 → SX → Option (Int32 × SX)) (l1 : Int32) (l2 : Int32) (s : SX) : Option (Int32 × SX) :=
  vl (l2 + 1) fun y3 =>
  k2 l1 y3 s
set_option maxRecDepth 100000 in
set_option maxHeartbeats 4000000 in
theorem e_X2_firstStep_33 {G : Cf} {t : SM} {k2 : Int32 → Int32 → SX → Option (Int32 × SX)} (hk2 : ∀ (l1 : Int32) (l2 : Int32) (s : SX), R (wfX t) inI G M_X2_firstStep 2 [some (.ref 46), some (.int l1), some (.int l2)] [] s (k2 l1 l2 s)) (l1 : Int32) (l2 : Int32) (s : SX) : R (wfX t) inI G M_X2_firstStep 33 [some (.ref 46), some (.int l1), some (.int l2)] [] s (fX2_firstStep_33 k2 l1 l2 s) := by
  unfold fX2_firstStep_33
  refine rr_iinc (L2 := fun y3 => [some (.ref 46), some (.int l1), some (.int y3)]) (q := 36) rfl dX2_firstStep_33 rfl rfl (Nat.le_of_ble_eq_true rfl) (fun _ => rfl) (fun y3 => ?_)
  refine rr_goto 2 dX2_firstStep_36 rfl ?_
  exact hk2 l1 y3 s
def fX2_firstStep_2b (k2 : Int32 → Int32 → SX → Option (Int32 × SX)) (l1 : Int32) (l2 : Int32) (s : SX) : Option (Int32 × SX) :=
  (if (gX s 7 0 5) ≤ l2 then
  some ((-1), s)
  else
  (if ((l1 >>> (l2 &&& 31)) &&& 1) = 0 then
  ixg (l1 ||| (1 <<< (l2 &&& 31))) 256 fun n2 =>
  (if (gX s 7 3 n2) = 0 then
  fX2_firstStep_33 k2 l1 l2 s
  else
  some (l2, s))
  else
  fX2_firstStep_33 k2 l1 l2 s))
set_option maxRecDepth 100000 in
set_option maxHeartbeats 4000000 in
theorem e_X2_firstStep_2b {G : Cf} {t : SM} {k2 : Int32 → Int32 → SX → Option (Int32 × SX)} (hk2 : ∀ (l1 : Int32) (l2 : Int32) (s : SX), R (wfX t) inI G M_X2_firstStep 2 [some (.ref 46), some (.int l1), some (.int l2)] [] s (k2 l1 l2 s)) (l1 : Int32) (l2 : Int32) (s : SX) : R (wfX t) inI G M_X2_firstStep 2 [some (.ref 46), some (.int l1), some (.int l2)] [] s (fX2_firstStep_2b k2 l1 l2 s) := by
  unfold fX2_firstStep_2b
  refine rr_iload_n (q := 3) rfl dX2_firstStep_2 rfl ?_
  refine rr_aload_n (q := 4) rfl dX2_firstStep_3 rfl ?_
  refine rr_get (q := 7) rfl fl_X2_32 w_route rfl dX2_firstStep_4 ?_
  refine rr_icmp_ge 39 (q := 10) rfl dX2_firstStep_7 rfl (fun _ => ?_) (fun _ => ?_)
  · refine rr_iconst (-1) (q := 40) rfl dX2_firstStep_39 rfl ?_
    exact rr_iret dX2_firstStep_40 rfl
  · refine rr_iload_n (q := 11) rfl dX2_firstStep_10 rfl ?_
    refine rr_iload_n (q := 12) rfl dX2_firstStep_11 rfl ?_
    refine rr_ishr (q := 13) rfl dX2_firstStep_12 ?_
    refine rr_iconst 1 (q := 14) rfl dX2_firstStep_13 rfl ?_
    refine rr_iand (q := 15) rfl dX2_firstStep_14 ?_
    refine rr_if_ne 33 (q := 18) rfl dX2_firstStep_15 rfl (fun _ => ?_) (fun _ => ?_)
    · exact e_X2_firstStep_33 hk2 l1 l2 s
    · refine rr_aload_n (q := 19) rfl dX2_firstStep_18 rfl ?_
      refine rr_get (q := 22) rfl fl_X2_25 w_route rfl dX2_firstStep_19 ?_
      refine rr_iload_n (q := 23) rfl dX2_firstStep_22 rfl ?_
      refine rr_iconst 1 (q := 24) rfl dX2_firstStep_23 rfl ?_
      refine rr_iload_n (q := 25) rfl dX2_firstStep_24 rfl ?_
      refine rr_ishl (q := 26) rfl dX2_firstStep_25 ?_
      refine rr_ior (q := 27) rfl dX2_firstStep_26 ?_
      refine rr_zald (q := 28) rfl w_routearr3 dX2_firstStep_27 (fun n2 => ?_)
      refine rr_if_eq 33 (q := 31) rfl dX2_firstStep_28 rfl (fun _ => ?_) (fun _ => ?_)
      · exact e_X2_firstStep_33 hk2 l1 l2 s
      · refine rr_iload_n (q := 32) rfl dX2_firstStep_31 rfl ?_
        exact rr_iret dX2_firstStep_32 rfl
def fX2_firstStep_2 : Nat → Int32 → Int32 → SX → Option (Int32 × SX) := lp (fun _ _ _ => none) (fX2_firstStep_2b)
theorem e_X2_firstStep_2 {G : Cf} {t : SM}  (n : Nat) : ∀ (l1 : Int32) (l2 : Int32) (s : SX), R (wfX t) inI G M_X2_firstStep 2 [some (.ref 46), some (.int l1), some (.int l2)] [] s (fX2_firstStep_2 n l1 l2 s) := by
  unfold fX2_firstStep_2
  exact rr_lp (P := fun (kz : Int32 → Int32 → SX → Option (Int32 × SX)) => ∀ (l1 : Int32) (l2 : Int32) (s : SX), R (wfX t) inI G M_X2_firstStep 2 [some (.ref 46), some (.int l1), some (.int l2)] [] s (kz l1 l2 s)) (fun _ _ _ => rr_none) (fun kz hkz => fun l1 l2 s => e_X2_firstStep_2b hkz l1 l2 s) n
def fX2_firstStep (l1 : Int32) (s : SX) : Option (Int32 × SX) :=
  vl 0 fun y1 =>
  fX2_firstStep_2 400 l1 y1 s
set_option maxRecDepth 100000 in
set_option maxHeartbeats 4000000 in
theorem e_X2_firstStep {G : Cf} {t : SM} (l1 : Int32) (s : SX) : Ct (wfX t) inI G M_X2_firstStep [.ref 46, .int l1] s (fX2_firstStep l1 s) := by
  refine Ct.of (L0 := [some (.ref 46), some (.int l1), none]) 1 rfl rfl ⟨rfl, rfl⟩ (Nat.le_of_ble_eq_true rfl) rfl ?_
  unfold fX2_firstStep
  refine rr_iconst 0 (q := 1) rfl dX2_firstStep_0 rfl ?_
  refine rr_istore_n (L2 := fun y1 => [some (.ref 46), some (.int l1), some (.int y1)]) (q := 2) rfl dX2_firstStep_1 (Nat.le_of_ble_eq_true rfl) (fun _ => rfl) (fun y1 => ?_)
  exact e_X2_firstStep_2 400 l1 y1 s
def fX2_holdsAt_51 (k2 : Int32 → Int32 → SX → Option (Int32 × SX)) (l2 : Int32) (l3 : Int32) (t1 : Int32) (t2 : Int32) (s : SX) : Option (Int32 × SX) :=
  ixg t1 14 fun n8 => vl (wX s 4 3 n8 t2) fun s9 =>
  vl (l3 + 1) fun y10 =>
  k2 l2 y10 s9
set_option maxRecDepth 100000 in
set_option maxHeartbeats 4000000 in
theorem e_X2_holdsAt_51 {G : Cf} {t : SM} {k2 : Int32 → Int32 → SX → Option (Int32 × SX)} (hk2 : ∀ (l2 : Int32) (l3 : Int32) (s : SX), R (wfX t) inI G M_X2_holdsAt 2 [some (.ref 46), some (.ref (rb 0)), some (.int l2), some (.int l3), none] [] s (k2 l2 l3 s)) (l2 : Int32) (l3 : Int32) (t1 : Int32) (t2 : Int32) (s : SX) : R (wfX t) inI G M_X2_holdsAt 51 [some (.ref 46), some (.ref (rb 0)), some (.int l2), some (.int l3), none] [.int t2, .int t1, .ref (rb 4 + 4)] s (fX2_holdsAt_51 k2 l2 l3 t1 t2 s) := by
  unfold fX2_holdsAt_51
  refine rr_iast (q := 52) rfl (w_rarr3 (by decide)) (fun _ => (u_rarr3 (by decide))) dX2_holdsAt_51 (fun n8 s9 => ?_)
  refine rr_iinc (L2 := fun y10 => [some (.ref 46), some (.ref (rb 0)), some (.int l2), some (.int y10), none]) (q := 55) rfl dX2_holdsAt_52 rfl rfl (Nat.le_of_ble_eq_true rfl) (fun _ => rfl) (fun y10 => ?_)
  refine rr_goto 2 dX2_holdsAt_55 rfl ?_
  exact hk2 l2 y10 s9
def fX2_holdsAt_2b (k2 : Int32 → Int32 → SX → Option (Int32 × SX)) (l2 : Int32) (l3 : Int32) (s : SX) : Option (Int32 × SX) :=
  (if (gX s 7 0 5) ≤ l3 then
  bd (fX1_looseWords 4 s) fun v2 s3 =>
  (if v2 = 0 then
  some (1, s3)
  else
  some (0, s3))
  else
  ixg l3 14 fun n4 =>
  vl (gX s 7 1 n4) fun y5 =>
  (if ((l2 >>> (l3 &&& 31)) &&& 1) = 0 then
  ixg y5 14 fun n6 =>
  fX2_holdsAt_51 k2 l2 l3 y5 (gX s 0 3 n6) s
  else
  ixg l3 14 fun n7 =>
  fX2_holdsAt_51 k2 l2 l3 y5 (gX s 7 2 n7) s))
set_option maxRecDepth 100000 in
set_option maxHeartbeats 4000000 in
theorem e_X2_holdsAt_2b {G : Cf} {t : SM} {k2 : Int32 → Int32 → SX → Option (Int32 × SX)} (hk2 : ∀ (l2 : Int32) (l3 : Int32) (s : SX), R (wfX t) inI G M_X2_holdsAt 2 [some (.ref 46), some (.ref (rb 0)), some (.int l2), some (.int l3), none] [] s (k2 l2 l3 s)) (l2 : Int32) (l3 : Int32) (s : SX) : R (wfX t) inI G M_X2_holdsAt 2 [some (.ref 46), some (.ref (rb 0)), some (.int l2), some (.int l3), none] [] s (fX2_holdsAt_2b k2 l2 l3 s) := by
  unfold fX2_holdsAt_2b
  refine rr_iload_n (q := 3) rfl dX2_holdsAt_2 rfl ?_
  refine rr_aload_n (q := 4) rfl dX2_holdsAt_3 rfl ?_
  refine rr_get (q := 7) rfl fl_X2_32 w_route rfl dX2_holdsAt_4 ?_
  refine rr_icmp_ge 58 (q := 10) rfl dX2_holdsAt_7 rfl (fun _ => ?_) (fun _ => ?_)
  · refine rr_aload_n (q := 59) rfl dX2_holdsAt_58 rfl ?_
    refine rr_get (q := 62) rfl fl_X2_12 w_route rfl dX2_holdsAt_59 ?_
    refine rr_cVi (q := 65) rfl V_X1_looseWords ml_X2_66 ⟨Nat.le_of_ble_eq_true rfl, Nat.le_of_ble_eq_true rfl⟩ (e_X1_looseWords (by decide) s) (w_realm (by decide)) rfl rfl rfl rfl (Nat.le_of_ble_eq_true rfl) dX2_holdsAt_62 (fun v2 s3 => ?_)
    refine rr_if_ne 72 (q := 68) rfl dX2_holdsAt_65 rfl (fun _ => ?_) (fun _ => ?_)
    · refine rr_iconst 0 (q := 73) rfl dX2_holdsAt_72 rfl ?_
      exact rr_zret dX2_holdsAt_73 rfl (Or.inl rfl)
    · refine rr_iconst 1 (q := 69) rfl dX2_holdsAt_68 rfl ?_
      refine rr_goto 73 dX2_holdsAt_69 rfl ?_
      exact rr_zret dX2_holdsAt_73 rfl (Or.inr rfl)
  · refine rr_aload_n (q := 11) rfl dX2_holdsAt_10 rfl ?_
    refine rr_get (q := 14) rfl fl_X2_18 w_route rfl dX2_holdsAt_11 ?_
    refine rr_iload_n (q := 15) rfl dX2_holdsAt_14 rfl ?_
    refine rr_iald (q := 16) rfl w_routearr1 dX2_holdsAt_15 (fun n4 => ?_)
    refine rr_istore (L2 := fun y5 => [some (.ref 46), some (.ref (rb 0)), some (.int l2), some (.int l3), some (.int y5)]) (q := 18) rfl dX2_holdsAt_16 (Nat.le_of_ble_eq_true rfl) (fun _ => rfl) (fun y5 => ?_)
    refine rr_aload_n (q := 19) rfl dX2_holdsAt_18 rfl ?_
    refine rr_get (q := 22) rfl fl_X2_12 w_route rfl dX2_holdsAt_19 ?_
    refine rr_get (q := 25) rfl fl_X2_48 (w_realm (by decide)) rfl dX2_holdsAt_22 ?_
    refine rr_iload (q := 27) rfl dX2_holdsAt_25 rfl ?_
    refine rr_iload_n (q := 28) rfl dX2_holdsAt_27 rfl ?_
    refine rr_iload_n (q := 29) rfl dX2_holdsAt_28 rfl ?_
    refine rr_ishr (q := 30) rfl dX2_holdsAt_29 ?_
    refine rr_iconst 1 (q := 31) rfl dX2_holdsAt_30 rfl ?_
    refine rr_iand (q := 32) rfl dX2_holdsAt_31 ?_
    refine rr_if_eq 44 (q := 35) rfl dX2_holdsAt_32 rfl (fun _ => ?_) (fun _ => ?_)
    · refine rr_aload_n (q := 45) rfl dX2_holdsAt_44 rfl ?_
      refine rr_get (q := 48) rfl fl_X2_48 (w_realm (by decide)) rfl dX2_holdsAt_45 ?_
      refine rr_iload (q := 50) rfl dX2_holdsAt_48 rfl ?_
      refine rr_iald (q := 51) rfl (w_rarr3 (by decide)) dX2_holdsAt_50 (fun n6 => ?_)
      refine rr_mask [true, true, true, true, false] (L' := [some (.ref 46), some (.ref (rb 0)), some (.int l2), some (.int l3), none]) rfl ?_
      exact e_X2_holdsAt_51 hk2 l2 l3 y5 (gX s 0 3 n6) s
    · refine rr_aload_n (q := 36) rfl dX2_holdsAt_35 rfl ?_
      refine rr_get (q := 39) rfl fl_X2_22 w_route rfl dX2_holdsAt_36 ?_
      refine rr_iload_n (q := 40) rfl dX2_holdsAt_39 rfl ?_
      refine rr_iald (q := 41) rfl w_routearr2 dX2_holdsAt_40 (fun n7 => ?_)
      refine rr_goto 51 dX2_holdsAt_41 rfl ?_
      refine rr_mask [true, true, true, true, false] (L' := [some (.ref 46), some (.ref (rb 0)), some (.int l2), some (.int l3), none]) rfl ?_
      exact e_X2_holdsAt_51 hk2 l2 l3 y5 (gX s 7 2 n7) s
def fX2_holdsAt_2 : Nat → Int32 → Int32 → SX → Option (Int32 × SX) := lp (fun _ _ _ => none) (fX2_holdsAt_2b)
theorem e_X2_holdsAt_2 {G : Cf} {t : SM}  (n : Nat) : ∀ (l2 : Int32) (l3 : Int32) (s : SX), R (wfX t) inI G M_X2_holdsAt 2 [some (.ref 46), some (.ref (rb 0)), some (.int l2), some (.int l3), none] [] s (fX2_holdsAt_2 n l2 l3 s) := by
  unfold fX2_holdsAt_2
  exact rr_lp (P := fun (kz : Int32 → Int32 → SX → Option (Int32 × SX)) => ∀ (l2 : Int32) (l3 : Int32) (s : SX), R (wfX t) inI G M_X2_holdsAt 2 [some (.ref 46), some (.ref (rb 0)), some (.int l2), some (.int l3), none] [] s (kz l2 l3 s)) (fun _ _ _ => rr_none) (fun kz hkz => fun l2 l3 s => e_X2_holdsAt_2b hkz l2 l3 s) n
def fX2_holdsAt (l2 : Int32) (s : SX) : Option (Int32 × SX) :=
  vl 0 fun y1 =>
  fX2_holdsAt_2 400 l2 y1 s
set_option maxRecDepth 100000 in
set_option maxHeartbeats 4000000 in
theorem e_X2_holdsAt {G : Cf} {t : SM} (l2 : Int32) (s : SX) : Ct (wfX t) inI G M_X2_holdsAt [.ref 46, .ref (rb 0), .int l2] s (fX2_holdsAt l2 s) := by
  refine Ct.of (L0 := [some (.ref 46), some (.ref (rb 0)), some (.int l2), none, none]) 2 rfl rfl ⟨rfl, rfl⟩ (Nat.le_of_ble_eq_true rfl) rfl ?_
  unfold fX2_holdsAt
  refine rr_iconst 0 (q := 1) rfl dX2_holdsAt_0 rfl ?_
  refine rr_istore_n (L2 := fun y1 => [some (.ref 46), some (.ref (rb 0)), some (.int l2), some (.int y1), none]) (q := 2) rfl dX2_holdsAt_1 (Nat.le_of_ble_eq_true rfl) (fun _ => rfl) (fun y1 => ?_)
  exact e_X2_holdsAt_2 400 l2 y1 s
def fX2_find_55 (k19 : Int32 → Int32 → SX → Option (Int32 × SX)) (l2 : Int32) (l3 : Int32) (t1 : Int32) (t2 : Int32) (s : SX) : Option (Int32 × SX) :=
  gd (t2 = 0 ∨ t2 = 1) <|
  ixg t1 256 fun n18 => vl (wX s 7 3 n18 t2) fun s19 =>
  vl (l3 + (-1)) fun y20 =>
  k19 l2 y20 s19
set_option maxRecDepth 100000 in
set_option maxHeartbeats 4000000 in
theorem e_X2_find_55 {G : Cf} {t : SM} {k19 : Int32 → Int32 → SX → Option (Int32 × SX)} (hk19 : ∀ (l2 : Int32) (l3 : Int32) (s : SX), R (wfX t) inI G M_X2_find 19 [some (.ref 46), some (.ref (rb 0)), some (.int l2), some (.int l3), none, none] [] s (k19 l2 l3 s)) (l2 : Int32) (l3 : Int32) (t1 : Int32) (t2 : Int32) (s : SX) : R (wfX t) inI G M_X2_find 55 [some (.ref 46), some (.ref (rb 0)), some (.int l2), some (.int l3), none, none] [.int t2, .int t1, .ref 60] s (fX2_find_55 k19 l2 l3 t1 t2 s) := by
  unfold fX2_find_55
  refine rr_gd (fun hb => ?_)
  refine rr_zast (q := 56) rfl w_routearr3 (fun _ => u_routearr3) hb dX2_find_55 (fun n18 s19 => ?_)
  refine rr_iinc (L2 := fun y20 => [some (.ref 46), some (.ref (rb 0)), some (.int l2), some (.int y20), none, none]) (q := 59) rfl dX2_find_56 rfl rfl (Nat.le_of_ble_eq_true rfl) (fun _ => rfl) (fun y20 => ?_)
  refine rr_goto 19 dX2_find_59 rfl ?_
  exact hk19 l2 y20 s19
def fX2_find_54 (k19 : Int32 → Int32 → SX → Option (Int32 × SX)) (l2 : Int32) (l3 : Int32) (t1 : Int32) (s : SX) : Option (Int32 × SX) :=
  fX2_find_55 k19 l2 l3 t1 0 s
set_option maxRecDepth 100000 in
set_option maxHeartbeats 4000000 in
theorem e_X2_find_54 {G : Cf} {t : SM} {k19 : Int32 → Int32 → SX → Option (Int32 × SX)} (hk19 : ∀ (l2 : Int32) (l3 : Int32) (s : SX), R (wfX t) inI G M_X2_find 19 [some (.ref 46), some (.ref (rb 0)), some (.int l2), some (.int l3), none, none] [] s (k19 l2 l3 s)) (l2 : Int32) (l3 : Int32) (t1 : Int32) (s : SX) : R (wfX t) inI G M_X2_find 54 [some (.ref 46), some (.ref (rb 0)), some (.int l2), some (.int l3), none, none] [.int t1, .ref 60] s (fX2_find_54 k19 l2 l3 t1 s) := by
  unfold fX2_find_54
  refine rr_iconst 0 (q := 55) rfl dX2_find_54 rfl ?_
  exact e_X2_find_55 hk19 l2 l3 t1 0 s
def fX2_find_41 (k19 : Int32 → Int32 → SX → Option (Int32 × SX)) (l2 : Int32) (l3 : Int32) (t1 : Int32) (s : SX) : Option (Int32 × SX) :=
  bd (fX2_holdsAt l3 s) fun v16 s17 =>
  (if v16 = 0 then
  fX2_find_54 k19 l2 l3 t1 s17
  else
  fX2_find_55 k19 l2 l3 t1 1 s17)
set_option maxRecDepth 100000 in
set_option maxHeartbeats 4000000 in
theorem e_X2_find_41 {G : Cf} {t : SM} {k19 : Int32 → Int32 → SX → Option (Int32 × SX)} (hk19 : ∀ (l2 : Int32) (l3 : Int32) (s : SX), R (wfX t) inI G M_X2_find 19 [some (.ref 46), some (.ref (rb 0)), some (.int l2), some (.int l3), none, none] [] s (k19 l2 l3 s)) (l2 : Int32) (l3 : Int32) (t1 : Int32) (s : SX) : R (wfX t) inI G M_X2_find 41 [some (.ref 46), some (.ref (rb 0)), some (.int l2), some (.int l3), none, none] [.int t1, .ref 60] s (fX2_find_41 k19 l2 l3 t1 s) := by
  unfold fX2_find_41
  refine rr_aload_n (q := 42) rfl dX2_find_41 rfl ?_
  refine rr_aload_n (q := 43) rfl dX2_find_42 rfl ?_
  refine rr_iload_n (q := 44) rfl dX2_find_43 rfl ?_
  refine rr_cVi (q := 47) rfl V_X2_holdsAt ml_X2_62 ⟨Nat.le_of_ble_eq_true rfl, Nat.le_of_ble_eq_true rfl⟩ (e_X2_holdsAt l3 s) w_route rfl rfl rfl rfl (Nat.le_of_ble_eq_true rfl) dX2_find_44 (fun v16 s17 => ?_)
  refine rr_if_eq 54 (q := 50) rfl dX2_find_47 rfl (fun _ => ?_) (fun _ => ?_)
  · exact e_X2_find_54 hk19 l2 l3 t1 s17
  · refine rr_iconst 1 (q := 51) rfl dX2_find_50 rfl ?_
    refine rr_goto 55 dX2_find_51 rfl ?_
    exact e_X2_find_55 hk19 l2 l3 t1 1 s17
def fX2_find_67b (k67 : Int32 → Int32 → SX → Option (Int32 × SX)) (l3 : Int32) (l4 : Int32) (s : SX) : Option (Int32 × SX) :=
  (if (gX s 7 0 5) ≤ l4 then
  some (1, s)
  else
  bd (fX2_firstStep l3 s) fun v8 s9 =>
  vl v8 fun y10 =>
  (if 0 ≤ y10 then
  ixg y10 14 fun n11 =>
  ixg l4 8 fun n12 => vl (wX s9 7 4 n12 (gX s9 7 1 n11)) fun s13 =>
  vl (l3 ||| (1 <<< (y10 &&& 31))) fun y14 =>
  vl (l4 + 1) fun y15 =>
  k67 y14 y15 s13
  else
  some (0, s9)))
set_option maxRecDepth 100000 in
set_option maxHeartbeats 4000000 in
theorem e_X2_find_67b {G : Cf} {t : SM} {k67 : Int32 → Int32 → SX → Option (Int32 × SX)} (hk67 : ∀ (l3 : Int32) (l4 : Int32) (s : SX), R (wfX t) inI G M_X2_find 67 [some (.ref 46), none, none, some (.int l3), some (.int l4), none] [] s (k67 l3 l4 s)) (l3 : Int32) (l4 : Int32) (s : SX) : R (wfX t) inI G M_X2_find 67 [some (.ref 46), none, none, some (.int l3), some (.int l4), none] [] s (fX2_find_67b k67 l3 l4 s) := by
  unfold fX2_find_67b
  refine rr_iload (q := 69) rfl dX2_find_67 rfl ?_
  refine rr_aload_n (q := 70) rfl dX2_find_69 rfl ?_
  refine rr_get (q := 73) rfl fl_X2_32 w_route rfl dX2_find_70 ?_
  refine rr_icmp_ge 117 (q := 76) rfl dX2_find_73 rfl (fun _ => ?_) (fun _ => ?_)
  · refine rr_iconst 1 (q := 118) rfl dX2_find_117 rfl ?_
    exact rr_zret dX2_find_118 rfl (Or.inr rfl)
  · refine rr_aload_n (q := 77) rfl dX2_find_76 rfl ?_
    refine rr_iload_n (q := 78) rfl dX2_find_77 rfl ?_
    refine rr_cVi (q := 81) rfl V_X2_firstStep ml_X2_59 ⟨Nat.le_of_ble_eq_true rfl, Nat.le_of_ble_eq_true rfl⟩ (e_X2_firstStep l3 s) w_route rfl rfl rfl rfl (Nat.le_of_ble_eq_true rfl) dX2_find_78 (fun v8 s9 => ?_)
    refine rr_istore (L2 := fun y10 => [some (.ref 46), none, none, some (.int l3), some (.int l4), some (.int y10)]) (q := 83) rfl dX2_find_81 (Nat.le_of_ble_eq_true rfl) (fun _ => rfl) (fun y10 => ?_)
    refine rr_iload (q := 85) rfl dX2_find_83 rfl ?_
    refine rr_if_ge 90 (q := 88) rfl dX2_find_85 rfl (fun _ => ?_) (fun _ => ?_)
    · refine rr_aload_n (q := 91) rfl dX2_find_90 rfl ?_
      refine rr_get (q := 94) rfl fl_X2_29 w_route rfl dX2_find_91 ?_
      refine rr_iload (q := 96) rfl dX2_find_94 rfl ?_
      refine rr_aload_n (q := 97) rfl dX2_find_96 rfl ?_
      refine rr_get (q := 100) rfl fl_X2_18 w_route rfl dX2_find_97 ?_
      refine rr_iload (q := 102) rfl dX2_find_100 rfl ?_
      refine rr_iald (q := 103) rfl w_routearr1 dX2_find_102 (fun n11 => ?_)
      refine rr_iast (q := 104) rfl w_routearr4 (fun _ => u_routearr4) dX2_find_103 (fun n12 s13 => ?_)
      refine rr_iload_n (q := 105) rfl dX2_find_104 rfl ?_
      refine rr_iconst 1 (q := 106) rfl dX2_find_105 rfl ?_
      refine rr_iload (q := 108) rfl dX2_find_106 rfl ?_
      refine rr_ishl (q := 109) rfl dX2_find_108 ?_
      refine rr_ior (q := 110) rfl dX2_find_109 ?_
      refine rr_istore_n (L2 := fun y14 => [some (.ref 46), none, none, some (.int y14), some (.int l4), some (.int y10)]) (q := 111) rfl dX2_find_110 (Nat.le_of_ble_eq_true rfl) (fun _ => rfl) (fun y14 => ?_)
      refine rr_iinc (L2 := fun y15 => [some (.ref 46), none, none, some (.int y14), some (.int y15), some (.int y10)]) (q := 114) rfl dX2_find_111 rfl rfl (Nat.le_of_ble_eq_true rfl) (fun _ => rfl) (fun y15 => ?_)
      refine rr_goto 67 dX2_find_114 rfl ?_
      refine rr_mask [true, false, false, true, true, false] (L' := [some (.ref 46), none, none, some (.int y14), some (.int y15), none]) rfl ?_
      exact hk67 y14 y15 s13
    · refine rr_iconst 0 (q := 89) rfl dX2_find_88 rfl ?_
      exact rr_zret dX2_find_89 rfl (Or.inl rfl)
def fX2_find_67 : Nat → Int32 → Int32 → SX → Option (Int32 × SX) := lp (fun _ _ _ => none) (fX2_find_67b)
theorem e_X2_find_67 {G : Cf} {t : SM}  (n : Nat) : ∀ (l3 : Int32) (l4 : Int32) (s : SX), R (wfX t) inI G M_X2_find 67 [some (.ref 46), none, none, some (.int l3), some (.int l4), none] [] s (fX2_find_67 n l3 l4 s) := by
  unfold fX2_find_67
  exact rr_lp (P := fun (kz : Int32 → Int32 → SX → Option (Int32 × SX)) => ∀ (l3 : Int32) (l4 : Int32) (s : SX), R (wfX t) inI G M_X2_find 67 [some (.ref 46), none, none, some (.int l3), some (.int l4), none] [] s (kz l3 l4 s)) (fun _ _ _ => rr_none) (fun kz hkz => fun l3 l4 s => e_X2_find_67b hkz l3 l4 s) n
def fX2_find_19b (k19 : Int32 → Int32 → SX → Option (Int32 × SX)) (l2 : Int32) (l3 : Int32) (s : SX) : Option (Int32 × SX) :=
  (if l3 ≤ 0 then
  vl 0 fun y4 =>
  vl 0 fun y5 =>
  fX2_find_67 400 y4 y5 s
  else
  (if l3 = l2 then
  fX2_find_41 k19 l2 l3 l3 s
  else
  bd (fX2_firstStep l3 s) fun v6 s7 =>
  (if v6 < 0 then
  fX2_find_54 k19 l2 l3 l3 s7
  else
  fX2_find_41 k19 l2 l3 l3 s7)))
set_option maxRecDepth 100000 in
set_option maxHeartbeats 4000000 in
theorem e_X2_find_19b {G : Cf} {t : SM} {k19 : Int32 → Int32 → SX → Option (Int32 × SX)} (hk19 : ∀ (l2 : Int32) (l3 : Int32) (s : SX), R (wfX t) inI G M_X2_find 19 [some (.ref 46), some (.ref (rb 0)), some (.int l2), some (.int l3), none, none] [] s (k19 l2 l3 s)) (l2 : Int32) (l3 : Int32) (s : SX) : R (wfX t) inI G M_X2_find 19 [some (.ref 46), some (.ref (rb 0)), some (.int l2), some (.int l3), none, none] [] s (fX2_find_19b k19 l2 l3 s) := by
  unfold fX2_find_19b
  refine rr_iload_n (q := 20) rfl dX2_find_19 rfl ?_
  refine rr_if_le 62 (q := 23) rfl dX2_find_20 rfl (fun _ => ?_) (fun _ => ?_)
  · refine rr_iconst 0 (q := 63) rfl dX2_find_62 rfl ?_
    refine rr_istore_n (L2 := fun y4 => [some (.ref 46), some (.ref (rb 0)), some (.int l2), some (.int y4), none, none]) (q := 64) rfl dX2_find_63 (Nat.le_of_ble_eq_true rfl) (fun _ => rfl) (fun y4 => ?_)
    refine rr_iconst 0 (q := 65) rfl dX2_find_64 rfl ?_
    refine rr_istore (L2 := fun y5 => [some (.ref 46), some (.ref (rb 0)), some (.int l2), some (.int y4), some (.int y5), none]) (q := 67) rfl dX2_find_65 (Nat.le_of_ble_eq_true rfl) (fun _ => rfl) (fun y5 => ?_)
    refine rr_mask [true, false, false, true, true, false] (L' := [some (.ref 46), none, none, some (.int y4), some (.int y5), none]) rfl ?_
    exact e_X2_find_67 400 y4 y5 s
  · refine rr_aload_n (q := 24) rfl dX2_find_23 rfl ?_
    refine rr_get (q := 27) rfl fl_X2_25 w_route rfl dX2_find_24 ?_
    refine rr_iload_n (q := 28) rfl dX2_find_27 rfl ?_
    refine rr_iload_n (q := 29) rfl dX2_find_28 rfl ?_
    refine rr_iload_n (q := 30) rfl dX2_find_29 rfl ?_
    refine rr_icmp_eq 41 (q := 33) rfl dX2_find_30 rfl (fun _ => ?_) (fun _ => ?_)
    · exact e_X2_find_41 hk19 l2 l3 l3 s
    · refine rr_aload_n (q := 34) rfl dX2_find_33 rfl ?_
      refine rr_iload_n (q := 35) rfl dX2_find_34 rfl ?_
      refine rr_cVi (q := 38) rfl V_X2_firstStep ml_X2_59 ⟨Nat.le_of_ble_eq_true rfl, Nat.le_of_ble_eq_true rfl⟩ (e_X2_firstStep l3 s) w_route rfl rfl rfl rfl (Nat.le_of_ble_eq_true rfl) dX2_find_35 (fun v6 s7 => ?_)
      refine rr_if_lt 54 (q := 41) rfl dX2_find_38 rfl (fun _ => ?_) (fun _ => ?_)
      · exact e_X2_find_54 hk19 l2 l3 l3 s7
      · exact e_X2_find_41 hk19 l2 l3 l3 s7
def fX2_find_19 : Nat → Int32 → Int32 → SX → Option (Int32 × SX) := lp (fun _ _ _ => none) (fX2_find_19b)
theorem e_X2_find_19 {G : Cf} {t : SM}  (n : Nat) : ∀ (l2 : Int32) (l3 : Int32) (s : SX), R (wfX t) inI G M_X2_find 19 [some (.ref 46), some (.ref (rb 0)), some (.int l2), some (.int l3), none, none] [] s (fX2_find_19 n l2 l3 s) := by
  unfold fX2_find_19
  exact rr_lp (P := fun (kz : Int32 → Int32 → SX → Option (Int32 × SX)) => ∀ (l2 : Int32) (l3 : Int32) (s : SX), R (wfX t) inI G M_X2_find 19 [some (.ref 46), some (.ref (rb 0)), some (.int l2), some (.int l3), none, none] [] s (kz l2 l3 s)) (fun _ _ _ => rr_none) (fun kz hkz => fun l2 l3 s => e_X2_find_19b hkz l2 l3 s) n
def fX2_find (s : SX) : Option (Int32 × SX) :=
  bd (fX1_become 4 0 s) fun _ s1 =>
  vl ((1 <<< ((gX s1 7 0 5) &&& 31)) - 1) fun y2 =>
  vl y2 fun y3 =>
  fX2_find_19 400 y2 y3 s1
set_option maxRecDepth 100000 in
set_option maxHeartbeats 4000000 in
theorem e_X2_find {G : Cf} {t : SM} (s : SX) : Ct (wfX t) inI G M_X2_find [.ref 46, .ref (rb 0)] s (fX2_find s) := by
  refine Ct.of (L0 := [some (.ref 46), some (.ref (rb 0)), none, none, none, none]) 4 rfl rfl ⟨rfl, rfl⟩ (Nat.le_of_ble_eq_true rfl) rfl ?_
  unfold fX2_find
  refine rr_aload_n (q := 1) rfl dX2_find_0 rfl ?_
  refine rr_get (q := 4) rfl fl_X2_12 w_route rfl dX2_find_1 ?_
  refine rr_aload_n (q := 5) rfl dX2_find_4 rfl ?_
  refine rr_cVu (q := 8) rfl V_X1_become ml_X2_55 ⟨Nat.le_of_ble_eq_true rfl, Nat.le_of_ble_eq_true rfl⟩ (e_X1_become (by decide) (by decide) s) (w_realm (by decide)) rfl rfl rfl rfl (Nat.le_of_ble_eq_true rfl) dX2_find_5 (fun _ s1 => ?_)
  refine rr_iconst 1 (q := 9) rfl dX2_find_8 rfl ?_
  refine rr_aload_n (q := 10) rfl dX2_find_9 rfl ?_
  refine rr_get (q := 13) rfl fl_X2_32 w_route rfl dX2_find_10 ?_
  refine rr_ishl (q := 14) rfl dX2_find_13 ?_
  refine rr_iconst 1 (q := 15) rfl dX2_find_14 rfl ?_
  refine rr_isub (q := 16) rfl dX2_find_15 ?_
  refine rr_istore_n (L2 := fun y2 => [some (.ref 46), some (.ref (rb 0)), some (.int y2), none, none, none]) (q := 17) rfl dX2_find_16 (Nat.le_of_ble_eq_true rfl) (fun _ => rfl) (fun y2 => ?_)
  refine rr_iload_n (q := 18) rfl dX2_find_17 rfl ?_
  refine rr_istore_n (L2 := fun y3 => [some (.ref 46), some (.ref (rb 0)), some (.int y2), some (.int y3), none, none]) (q := 19) rfl dX2_find_18 (Nat.le_of_ble_eq_true rfl) (fun _ => rfl) (fun y3 => ?_)
  exact e_X2_find_19 400 y2 y3 s1
def fX3_isMissing (i : Nat) (s : SX) : Option (Int32 × SX) :=
  (if (gX s (9 + i) 0 1) = 0 then
  some (1, s)
  else
  some (0, s))
set_option maxRecDepth 100000 in
set_option maxHeartbeats 4000000 in
theorem e_X3_isMissing {G : Cf} {t : SM} {i : Nat} (hi : i < 4) (s : SX) : Ct (wfX t) inI G M_X3_isMissing [.ref (sb i)] s (fX3_isMissing i s) := by
  refine Ct.of (L0 := [some (.ref (sb i))]) 0 rfl rfl ⟨rfl, rfl⟩ (Nat.le_of_ble_eq_true rfl) rfl ?_
  unfold fX3_isMissing
  refine rr_aload_n (q := 1) rfl dX3_isMissing_0 rfl ?_
  refine rr_get (q := 4) rfl fl_X3_15 (w_sheet hi) rfl dX3_isMissing_1 ?_
  refine rr_if_ne 11 (q := 7) rfl dX3_isMissing_4 rfl (fun _ => ?_) (fun _ => ?_)
  · refine rr_iconst 0 (q := 12) rfl dX3_isMissing_11 rfl ?_
    exact rr_zret dX3_isMissing_12 rfl (Or.inl rfl)
  · refine rr_iconst 1 (q := 8) rfl dX3_isMissing_7 rfl ?_
    refine rr_goto 12 dX3_isMissing_8 rfl ?_
    exact rr_zret dX3_isMissing_12 rfl (Or.inr rfl)
def fX3_lay_12b (i : Nat) (k12 : Int32 → SX → Option (Unit × SX)) (l3 : Int32) (s : SX) : Option (Unit × SX) :=
  (if 40 ≤ l3 then
  some ((), s)
  else
  ixg l3 40 fun n4 => vl (wL s i n4 0) fun s5 =>
  vl (l3 + 1) fun y6 =>
  k12 y6 s5)
set_option maxRecDepth 100000 in
set_option maxHeartbeats 4000000 in
theorem e_X3_lay_12b {G : Cf} {t : SM} {i : Nat} (hi : i < 4) {k12 : Int32 → SX → Option (Unit × SX)} (hk12 : ∀ (l3 : Int32) (s : SX), R (wfX t) inU G M_X3_lay 12 [some (.ref (sb i)), none, none, some (.int l3)] [] s (k12 l3 s)) (l3 : Int32) (s : SX) : R (wfX t) inU G M_X3_lay 12 [some (.ref (sb i)), none, none, some (.int l3)] [] s (fX3_lay_12b i k12 l3 s) := by
  unfold fX3_lay_12b
  refine rr_iload_n (q := 13) rfl dX3_lay_12 rfl ?_
  refine rr_bipush 40 (q := 15) rfl dX3_lay_13 rfl ?_
  refine rr_icmp_ge 31 (q := 18) rfl dX3_lay_15 rfl (fun _ => ?_) (fun _ => ?_)
  · exact rr_vret dX3_lay_31 rfl
  · refine rr_aload_n (q := 19) rfl dX3_lay_18 rfl ?_
    refine rr_get (q := 22) rfl fl_X3_9 (w_sheet hi) rfl dX3_lay_19 ?_
    refine rr_iload_n (q := 23) rfl dX3_lay_22 rfl ?_
    refine rr_lconst 0 (q := 24) rfl dX3_lay_23 rfl ?_
    refine rr_last (q := 25) rfl (w_snum hi) (fun _ => (u_snum hi)) dX3_lay_24 (fun n4 s5 => ?_)
    refine rr_iinc (L2 := fun y6 => [some (.ref (sb i)), none, none, some (.int y6)]) (q := 28) rfl dX3_lay_25 rfl rfl (Nat.le_of_ble_eq_true rfl) (fun _ => rfl) (fun y6 => ?_)
    refine rr_goto 12 dX3_lay_28 rfl ?_
    exact hk12 y6 s5
def fX3_lay_12 (i : Nat) : Nat → Int32 → SX → Option (Unit × SX) := lp (fun _ _ => none) (fX3_lay_12b i)
theorem e_X3_lay_12 {G : Cf} {t : SM} {i : Nat} (hi : i < 4)  (n : Nat) : ∀ (l3 : Int32) (s : SX), R (wfX t) inU G M_X3_lay 12 [some (.ref (sb i)), none, none, some (.int l3)] [] s (fX3_lay_12 i n l3 s) := by
  unfold fX3_lay_12
  exact rr_lp (P := fun (kz : Int32 → SX → Option (Unit × SX)) => ∀ (l3 : Int32) (s : SX), R (wfX t) inU G M_X3_lay 12 [some (.ref (sb i)), none, none, some (.int l3)] [] s (kz l3 s)) (fun _ _ => rr_none) (fun kz hkz => fun l3 s => e_X3_lay_12b hi hkz l3 s) n
def fX3_lay (i : Nat) (l1 : Int32) (l2 : Int32) (s : SX) : Option (Unit × SX) :=
  vl (wX s (9 + i) 0 1 l1) fun s1 =>
  vl (wX s1 (9 + i) 0 2 l2) fun s2 =>
  vl 0 fun y3 =>
  fX3_lay_12 i 400 y3 s2
set_option maxRecDepth 100000 in
set_option maxHeartbeats 4000000 in
theorem e_X3_lay {G : Cf} {t : SM} {i : Nat} (hi : i < 4) (l1 : Int32) (l2 : Int32) (s : SX) : Ct (wfX t) inU G M_X3_lay [.ref (sb i), .int l1, .int l2] s (fX3_lay i l1 l2 s) := by
  refine Ct.of (L0 := [some (.ref (sb i)), some (.int l1), some (.int l2), none]) 1 rfl rfl ⟨rfl, rfl⟩ (Nat.le_of_ble_eq_true rfl) rfl ?_
  unfold fX3_lay
  refine rr_aload_n (q := 1) rfl dX3_lay_0 rfl ?_
  refine rr_iload_n (q := 2) rfl dX3_lay_1 rfl ?_
  refine rr_puti (q := 5) rfl fl_X3_15 fp_X3_1 (w_sheet hi) (Nat.le_of_ble_eq_true rfl) (u_sheet1 hi) dX3_lay_2 (fun s1 => ?_)
  refine rr_aload_n (q := 6) rfl dX3_lay_5 rfl ?_
  refine rr_iload_n (q := 7) rfl dX3_lay_6 rfl ?_
  refine rr_puti (q := 10) rfl fl_X3_19 fp_X3_2 (w_sheet hi) (Nat.le_of_ble_eq_true rfl) (u_sheet2 hi) dX3_lay_7 (fun s2 => ?_)
  refine rr_iconst 0 (q := 11) rfl dX3_lay_10 rfl ?_
  refine rr_istore_n (L2 := fun y3 => [some (.ref (sb i)), some (.int l1), some (.int l2), some (.int y3)]) (q := 12) rfl dX3_lay_11 (Nat.le_of_ble_eq_true rfl) (fun _ => rfl) (fun y3 => ?_)
  refine rr_mask [true, false, false, true] (L' := [some (.ref (sb i)), none, none, some (.int y3)]) rfl ?_
  exact e_X3_lay_12 hi 400 y3 s2
def fX3_put (i : Nat) (l1 : Int32) (l2 : Int64) (s : SX) : Option (Unit × SX) :=
  (if (gX s (9 + i) 0 1) = 8 then
  ixg l1 40 fun n5 => vl (wL s i n5 (Int32.toInt64 ((Int32.toInt8 (Int64.toInt32 l2)).toInt32))) fun s6 =>
  some ((), s6)
  else
  (if (gX s (9 + i) 0 1) = 16 then
  ixg l1 40 fun n3 => vl (wL s i n3 (Int32.toInt64 ((Int32.toInt16 (Int64.toInt32 l2)).toInt32))) fun s4 =>
  some ((), s4)
  else
  ixg l1 40 fun n1 => vl (wL s i n1 l2) fun s2 =>
  some ((), s2)))
set_option maxRecDepth 100000 in
set_option maxHeartbeats 4000000 in
theorem e_X3_put {G : Cf} {t : SM} {i : Nat} (hi : i < 4) (l1 : Int32) (l2 : Int64) (s : SX) : Ct (wfX t) inU G M_X3_put [.ref (sb i), .int l1, .long l2] s (fX3_put i l1 l2 s) := by
  refine Ct.of (L0 := [some (.ref (sb i)), some (.int l1), some (.long l2), none]) 0 rfl rfl ⟨rfl, rfl⟩ (Nat.le_of_ble_eq_true rfl) rfl ?_
  unfold fX3_put
  refine rr_aload_n (q := 1) rfl dX3_put_0 rfl ?_
  refine rr_get (q := 4) rfl fl_X3_15 (w_sheet hi) rfl dX3_put_1 ?_
  refine rr_bipush 8 (q := 6) rfl dX3_put_4 rfl ?_
  refine rr_icmp_ne 22 (q := 9) rfl dX3_put_6 rfl (fun _ => ?_) (fun _ => ?_)
  · refine rr_aload_n (q := 23) rfl dX3_put_22 rfl ?_
    refine rr_get (q := 26) rfl fl_X3_15 (w_sheet hi) rfl dX3_put_23 ?_
    refine rr_bipush 16 (q := 28) rfl dX3_put_26 rfl ?_
    refine rr_icmp_ne 44 (q := 31) rfl dX3_put_28 rfl (fun _ => ?_) (fun _ => ?_)
    · refine rr_aload_n (q := 45) rfl dX3_put_44 rfl ?_
      refine rr_get (q := 48) rfl fl_X3_9 (w_sheet hi) rfl dX3_put_45 ?_
      refine rr_iload_n (q := 49) rfl dX3_put_48 rfl ?_
      refine rr_lload_n (q := 50) rfl dX3_put_49 rfl ?_
      refine rr_last (q := 51) rfl (w_snum hi) (fun _ => (u_snum hi)) dX3_put_50 (fun n1 s2 => ?_)
      exact rr_vret dX3_put_51 rfl
    · refine rr_aload_n (q := 32) rfl dX3_put_31 rfl ?_
      refine rr_get (q := 35) rfl fl_X3_9 (w_sheet hi) rfl dX3_put_32 ?_
      refine rr_iload_n (q := 36) rfl dX3_put_35 rfl ?_
      refine rr_lload_n (q := 37) rfl dX3_put_36 rfl ?_
      refine rr_l2i (q := 38) rfl dX3_put_37 ?_
      refine rr_i2s (q := 39) rfl dX3_put_38 ?_
      refine rr_i2l (q := 40) rfl dX3_put_39 ?_
      refine rr_last (q := 41) rfl (w_snum hi) (fun _ => (u_snum hi)) dX3_put_40 (fun n3 s4 => ?_)
      refine rr_goto 51 dX3_put_41 rfl ?_
      exact rr_vret dX3_put_51 rfl
  · refine rr_aload_n (q := 10) rfl dX3_put_9 rfl ?_
    refine rr_get (q := 13) rfl fl_X3_9 (w_sheet hi) rfl dX3_put_10 ?_
    refine rr_iload_n (q := 14) rfl dX3_put_13 rfl ?_
    refine rr_lload_n (q := 15) rfl dX3_put_14 rfl ?_
    refine rr_l2i (q := 16) rfl dX3_put_15 ?_
    refine rr_i2b (q := 17) rfl dX3_put_16 ?_
    refine rr_i2l (q := 18) rfl dX3_put_17 ?_
    refine rr_last (q := 19) rfl (w_snum hi) (fun _ => (u_snum hi)) dX3_put_18 (fun n5 s6 => ?_)
    refine rr_goto 51 dX3_put_19 rfl ?_
    exact rr_vret dX3_put_51 rfl
def fX3_hasRow (i : Nat) (l1 : Int32) (l2 : Int32) (s : SX) : Option (Int32 × SX) :=
  (if l1 < 0 then
  some (0, s)
  else
  (if l2 < 0 then
  some (0, s)
  else
  (if 0 < (lg_cmp ((Int32.toInt64 l1) + (Int32.toInt64 l2)) (Int32.toInt64 (gX s (9 + i) 0 2))) then
  some (0, s)
  else
  some (1, s))))
set_option maxRecDepth 100000 in
set_option maxHeartbeats 4000000 in
theorem e_X3_hasRow {G : Cf} {t : SM} {i : Nat} (hi : i < 4) (l1 : Int32) (l2 : Int32) (s : SX) : Ct (wfX t) inI G M_X3_hasRow [.ref (sb i), .int l1, .int l2] s (fX3_hasRow i l1 l2 s) := by
  refine Ct.of (L0 := [some (.ref (sb i)), some (.int l1), some (.int l2)]) 0 rfl rfl ⟨rfl, rfl⟩ (Nat.le_of_ble_eq_true rfl) rfl ?_
  unfold fX3_hasRow
  refine rr_iload_n (q := 1) rfl dX3_hasRow_0 rfl ?_
  refine rr_if_lt 26 (q := 4) rfl dX3_hasRow_1 rfl (fun _ => ?_) (fun _ => ?_)
  · refine rr_iconst 0 (q := 27) rfl dX3_hasRow_26 rfl ?_
    exact rr_zret dX3_hasRow_27 rfl (Or.inl rfl)
  · refine rr_iload_n (q := 5) rfl dX3_hasRow_4 rfl ?_
    refine rr_if_lt 26 (q := 8) rfl dX3_hasRow_5 rfl (fun _ => ?_) (fun _ => ?_)
    · refine rr_iconst 0 (q := 27) rfl dX3_hasRow_26 rfl ?_
      exact rr_zret dX3_hasRow_27 rfl (Or.inl rfl)
    · refine rr_iload_n (q := 9) rfl dX3_hasRow_8 rfl ?_
      refine rr_i2l (q := 10) rfl dX3_hasRow_9 ?_
      refine rr_iload_n (q := 11) rfl dX3_hasRow_10 rfl ?_
      refine rr_i2l (q := 12) rfl dX3_hasRow_11 ?_
      refine rr_ladd (q := 13) rfl dX3_hasRow_12 ?_
      refine rr_aload_n (q := 14) rfl dX3_hasRow_13 rfl ?_
      refine rr_get (q := 17) rfl fl_X3_19 (w_sheet hi) rfl dX3_hasRow_14 ?_
      refine rr_i2l (q := 18) rfl dX3_hasRow_17 ?_
      refine rr_lcmp (q := 19) rfl dX3_hasRow_18 ?_
      refine rr_if_gt 26 (q := 22) rfl dX3_hasRow_19 rfl (fun _ => ?_) (fun _ => ?_)
      · refine rr_iconst 0 (q := 27) rfl dX3_hasRow_26 rfl ?_
        exact rr_zret dX3_hasRow_27 rfl (Or.inl rfl)
      · refine rr_iconst 1 (q := 23) rfl dX3_hasRow_22 rfl ?_
        refine rr_goto 27 dX3_hasRow_23 rfl ?_
        exact rr_zret dX3_hasRow_27 rfl (Or.inr rfl)
