def fX6_keystone_60 (k6 : Int32 → Int32 → Int32 → SM → Option (Int32 × SM)) (l1 : Int32) (l3 : Int32) (t0 : Int32) (s : SM) : Option (Int32 × SM) :=
  vl t0 fun y14 =>
  vl (l3 + 1) fun y15 =>
  k6 l1 y14 y15 s
set_option maxRecDepth 100000 in
set_option maxHeartbeats 4000000 in
theorem e_X6_keystone_60 {G : Cf} {x : SX} {k6 : Int32 → Int32 → Int32 → SM → Option (Int32 × SM)} (hk6 : ∀ (l1 : Int32) (l2 : Int32) (l3 : Int32) (s : SM), R (wfM x) inI G M_X6_keystone 6 [some (.ref mb), some (.int l1), some (.int l2), some (.int l3), none] [] s (k6 l1 l2 l3 s)) (l1 : Int32) (l3 : Int32) (t0 : Int32) (s : SM) : R (wfM x) inI G M_X6_keystone 60 [some (.ref mb), some (.int l1), none, some (.int l3), none] [.int t0] s (fX6_keystone_60 k6 l1 l3 t0 s) := by
  unfold fX6_keystone_60
  refine rr_istore_n (L2 := fun y14 => [some (.ref mb), some (.int l1), some (.int y14), some (.int l3), none]) (q := 61) rfl dX6_keystone_60 (Nat.le_of_ble_eq_true rfl) (fun _ => rfl) (fun y14 => ?_)
  refine rr_iinc (L2 := fun y15 => [some (.ref mb), some (.int l1), some (.int y14), some (.int y15), none]) (q := 64) rfl dX6_keystone_61 rfl rfl (Nat.le_of_ble_eq_true rfl) (fun _ => rfl) (fun y15 => ?_)
  refine rr_goto 6 dX6_keystone_64 rfl ?_
  exact hk6 l1 y14 y15 s
def fX6_keystone_47 (k6 : Int32 → Int32 → Int32 → SM → Option (Int32 × SM)) (l2 : Int32) (l3 : Int32) (l4 : Int32) (t0 : Int32) (s : SM) : Option (Int32 × SM) :=
  vl t0 fun y13 =>
  (if l4 ≤ l2 then
  fX6_keystone_60 k6 y13 l3 l2 s
  else
  fX6_keystone_60 k6 y13 l3 l4 s)
set_option maxRecDepth 100000 in
set_option maxHeartbeats 4000000 in
theorem e_X6_keystone_47 {G : Cf} {x : SX} {k6 : Int32 → Int32 → Int32 → SM → Option (Int32 × SM)} (hk6 : ∀ (l1 : Int32) (l2 : Int32) (l3 : Int32) (s : SM), R (wfM x) inI G M_X6_keystone 6 [some (.ref mb), some (.int l1), some (.int l2), some (.int l3), none] [] s (k6 l1 l2 l3 s)) (l2 : Int32) (l3 : Int32) (l4 : Int32) (t0 : Int32) (s : SM) : R (wfM x) inI G M_X6_keystone 47 [some (.ref mb), none, some (.int l2), some (.int l3), some (.int l4)] [.int t0] s (fX6_keystone_47 k6 l2 l3 l4 t0 s) := by
  unfold fX6_keystone_47
  refine rr_istore_n (L2 := fun y13 => [some (.ref mb), some (.int y13), some (.int l2), some (.int l3), some (.int l4)]) (q := 48) rfl dX6_keystone_47 (Nat.le_of_ble_eq_true rfl) (fun _ => rfl) (fun y13 => ?_)
  refine rr_iload (q := 50) rfl dX6_keystone_48 rfl ?_
  refine rr_iload_n (q := 51) rfl dX6_keystone_50 rfl ?_
  refine rr_icmp_le 59 (q := 54) rfl dX6_keystone_51 rfl (fun _ => ?_) (fun _ => ?_)
  · refine rr_iload_n (q := 60) rfl dX6_keystone_59 rfl ?_
    refine rr_mask [true, true, false, true, false] (L' := [some (.ref mb), some (.int y13), none, some (.int l3), none]) rfl ?_
    exact e_X6_keystone_60 hk6 y13 l3 l2 s
  · refine rr_iload (q := 56) rfl dX6_keystone_54 rfl ?_
    refine rr_goto 60 dX6_keystone_56 rfl ?_
    refine rr_mask [true, true, false, true, false] (L' := [some (.ref mb), some (.int y13), none, some (.int l3), none]) rfl ?_
    exact e_X6_keystone_60 hk6 y13 l3 l4 s
def fX6_keystone_34 (k6 : Int32 → Int32 → Int32 → SM → Option (Int32 × SM)) (l1 : Int32) (l2 : Int32) (l3 : Int32) (t0 : Int32) (s : SM) : Option (Int32 × SM) :=
  vl t0 fun y12 =>
  (if y12 ≤ l2 then
  fX6_keystone_47 k6 l2 l3 y12 l1 s
  else
  fX6_keystone_47 k6 l2 l3 y12 l3 s)
set_option maxRecDepth 100000 in
set_option maxHeartbeats 4000000 in
theorem e_X6_keystone_34 {G : Cf} {x : SX} {k6 : Int32 → Int32 → Int32 → SM → Option (Int32 × SM)} (hk6 : ∀ (l1 : Int32) (l2 : Int32) (l3 : Int32) (s : SM), R (wfM x) inI G M_X6_keystone 6 [some (.ref mb), some (.int l1), some (.int l2), some (.int l3), none] [] s (k6 l1 l2 l3 s)) (l1 : Int32) (l2 : Int32) (l3 : Int32) (t0 : Int32) (s : SM) : R (wfM x) inI G M_X6_keystone 34 [some (.ref mb), some (.int l1), some (.int l2), some (.int l3), none] [.int t0] s (fX6_keystone_34 k6 l1 l2 l3 t0 s) := by
  unfold fX6_keystone_34
  refine rr_istore (L2 := fun y12 => [some (.ref mb), some (.int l1), some (.int l2), some (.int l3), some (.int y12)]) (q := 36) rfl dX6_keystone_34 (Nat.le_of_ble_eq_true rfl) (fun _ => rfl) (fun y12 => ?_)
  refine rr_iload (q := 38) rfl dX6_keystone_36 rfl ?_
  refine rr_iload_n (q := 39) rfl dX6_keystone_38 rfl ?_
  refine rr_icmp_le 46 (q := 42) rfl dX6_keystone_39 rfl (fun _ => ?_) (fun _ => ?_)
  · refine rr_iload_n (q := 47) rfl dX6_keystone_46 rfl ?_
    refine rr_mask [true, false, true, true, true] (L' := [some (.ref mb), none, some (.int l2), some (.int l3), some (.int y12)]) rfl ?_
    exact e_X6_keystone_47 hk6 l2 l3 y12 l1 s
  · refine rr_iload_n (q := 43) rfl dX6_keystone_42 rfl ?_
    refine rr_goto 47 dX6_keystone_43 rfl ?_
    refine rr_mask [true, false, true, true, true] (L' := [some (.ref mb), none, some (.int l2), some (.int l3), some (.int y12)]) rfl ?_
    exact e_X6_keystone_47 hk6 l2 l3 y12 l3 s
def fX6_keystone_6b (k6 : Int32 → Int32 → Int32 → SM → Option (Int32 × SM)) (l1 : Int32) (l2 : Int32) (l3 : Int32) (s : SM) : Option (Int32 × SM) :=
  (if (gM s 0 5) ≤ l3 then
  (if 0 ≤ l1 then
  some (l1, s)
  else
  bd (fX6_finds (-1000000004) s) fun v4 s5 =>
  some (v4, s5))
  else
  bd (fX6_isInForce l3 s) fun v6 s7 =>
  (if v6 = 0 then
  fX6_keystone_34 k6 l1 l2 l3 0 s7
  else
  bd (fX6_pullsDown l3 s7) fun v8 s9 =>
  bd (fX6_ones v8 s9) fun v10 s11 =>
  fX6_keystone_34 k6 l1 l2 l3 v10 s11))
set_option maxRecDepth 100000 in
set_option maxHeartbeats 4000000 in
theorem e_X6_keystone_6b {G : Cf} {x : SX} {k6 : Int32 → Int32 → Int32 → SM → Option (Int32 × SM)} (hk6 : ∀ (l1 : Int32) (l2 : Int32) (l3 : Int32) (s : SM), R (wfM x) inI G M_X6_keystone 6 [some (.ref mb), some (.int l1), some (.int l2), some (.int l3), none] [] s (k6 l1 l2 l3 s)) (l1 : Int32) (l2 : Int32) (l3 : Int32) (s : SM) : R (wfM x) inI G M_X6_keystone 6 [some (.ref mb), some (.int l1), some (.int l2), some (.int l3), none] [] s (fX6_keystone_6b k6 l1 l2 l3 s) := by
  unfold fX6_keystone_6b
  refine rr_iload_n (q := 7) rfl dX6_keystone_6 rfl ?_
  refine rr_aload_n (q := 8) rfl dX6_keystone_7 rfl ?_
  refine rr_get (q := 11) rfl fl_X6_87 w_M rfl dX6_keystone_8 ?_
  refine rr_icmp_ge 67 (q := 14) rfl dX6_keystone_11 rfl (fun _ => ?_) (fun _ => ?_)
  · refine rr_iload_n (q := 68) rfl dX6_keystone_67 rfl ?_
    refine rr_if_ge 80 (q := 71) rfl dX6_keystone_68 rfl (fun _ => ?_) (fun _ => ?_)
    · refine rr_iload_n (q := 81) rfl dX6_keystone_80 rfl ?_
      exact rr_iret dX6_keystone_81 rfl
    · refine rr_aload_n (q := 72) rfl dX6_keystone_71 rfl ?_
      refine rr_ldc (q := 74) rfl dX6_keystone_72 kc_X6_170 ?_
      refine rr_cVi (q := 77) rfl V_X6_finds ml_X6_125 ⟨Nat.le_of_ble_eq_true rfl, Nat.le_of_ble_eq_true rfl⟩ (e_X6_finds (-1000000004) s) w_M rfl rfl rfl rfl (Nat.le_of_ble_eq_true rfl) dX6_keystone_74 (fun v4 s5 => ?_)
      refine rr_goto 81 dX6_keystone_77 rfl ?_
      exact rr_iret dX6_keystone_81 rfl
  · refine rr_aload_n (q := 15) rfl dX6_keystone_14 rfl ?_
    refine rr_iload_n (q := 16) rfl dX6_keystone_15 rfl ?_
    refine rr_cVi (q := 19) rfl V_X6_isInForce ml_X6_113 ⟨Nat.le_of_ble_eq_true rfl, Nat.le_of_ble_eq_true rfl⟩ (e_X6_isInForce l3 s) w_M rfl rfl rfl rfl (Nat.le_of_ble_eq_true rfl) dX6_keystone_16 (fun v6 s7 => ?_)
    refine rr_if_eq 33 (q := 22) rfl dX6_keystone_19 rfl (fun _ => ?_) (fun _ => ?_)
    · refine rr_iconst 0 (q := 34) rfl dX6_keystone_33 rfl ?_
      exact e_X6_keystone_34 hk6 l1 l2 l3 0 s7
    · refine rr_aload_n (q := 23) rfl dX6_keystone_22 rfl ?_
      refine rr_iload_n (q := 24) rfl dX6_keystone_23 rfl ?_
      refine rr_cVi (q := 27) rfl V_X6_pullsDown ml_X6_193 ⟨Nat.le_of_ble_eq_true rfl, Nat.le_of_ble_eq_true rfl⟩ (e_X6_pullsDown l3 s7) w_M rfl rfl rfl rfl (Nat.le_of_ble_eq_true rfl) dX6_keystone_24 (fun v8 s9 => ?_)
      refine rr_cSi (q := 30) rfl V_X6_ones ml_X6_149 ⟨Nat.le_of_ble_eq_true rfl, Nat.le_of_ble_eq_true rfl⟩ (e_X6_ones v8 s9) rfl rfl (Nat.le_of_ble_eq_true rfl) dX6_keystone_27 (fun v10 s11 => ?_)
      refine rr_goto 34 dX6_keystone_30 rfl ?_
      exact e_X6_keystone_34 hk6 l1 l2 l3 v10 s11
def fX6_keystone_6 : Nat → Int32 → Int32 → Int32 → SM → Option (Int32 × SM) := lp (fun _ _ _ _ => none) (fX6_keystone_6b)
theorem e_X6_keystone_6 {G : Cf} {x : SX}  (n : Nat) : ∀ (l1 : Int32) (l2 : Int32) (l3 : Int32) (s : SM), R (wfM x) inI G M_X6_keystone 6 [some (.ref mb), some (.int l1), some (.int l2), some (.int l3), none] [] s (fX6_keystone_6 n l1 l2 l3 s) := by
  unfold fX6_keystone_6
  exact rr_lp (P := fun (kz : Int32 → Int32 → Int32 → SM → Option (Int32 × SM)) => ∀ (l1 : Int32) (l2 : Int32) (l3 : Int32) (s : SM), R (wfM x) inI G M_X6_keystone 6 [some (.ref mb), some (.int l1), some (.int l2), some (.int l3), none] [] s (kz l1 l2 l3 s)) (fun _ _ _ _ => rr_none) (fun kz hkz => fun l1 l2 l3 s => e_X6_keystone_6b hkz l1 l2 l3 s) n
def fX6_keystone (s : SM) : Option (Int32 × SM) :=
  vl (-1) fun y1 =>
  vl 0 fun y2 =>
  vl 0 fun y3 =>
  fX6_keystone_6 400 y1 y2 y3 s
set_option maxRecDepth 100000 in
set_option maxHeartbeats 4000000 in
theorem e_X6_keystone {G : Cf} {x : SX} (s : SM) : Ct (wfM x) inI G M_X6_keystone [.ref mb] s (fX6_keystone s) := by
  refine Ct.of (L0 := [some (.ref mb), none, none, none, none]) 4 rfl rfl ⟨rfl, rfl⟩ (Nat.le_of_ble_eq_true rfl) rfl ?_
  unfold fX6_keystone
  refine rr_iconst (-1) (q := 1) rfl dX6_keystone_0 rfl ?_
  refine rr_istore_n (L2 := fun y1 => [some (.ref mb), some (.int y1), none, none, none]) (q := 2) rfl dX6_keystone_1 (Nat.le_of_ble_eq_true rfl) (fun _ => rfl) (fun y1 => ?_)
  refine rr_iconst 0 (q := 3) rfl dX6_keystone_2 rfl ?_
  refine rr_istore_n (L2 := fun y2 => [some (.ref mb), some (.int y1), some (.int y2), none, none]) (q := 4) rfl dX6_keystone_3 (Nat.le_of_ble_eq_true rfl) (fun _ => rfl) (fun y2 => ?_)
  refine rr_iconst 0 (q := 5) rfl dX6_keystone_4 rfl ?_
  refine rr_istore_n (L2 := fun y3 => [some (.ref mb), some (.int y1), some (.int y2), some (.int y3), none]) (q := 6) rfl dX6_keystone_5 (Nat.le_of_ble_eq_true rfl) (fun _ => rfl) (fun y3 => ?_)
  exact e_X6_keystone_6 400 y1 y2 y3 s
def fX6_brokenMany_4b (k4 : Int32 → Int32 → SM → Option (Int32 × SM)) (l1 : Int32) (l2 : Int32) (s : SM) : Option (Int32 × SM) :=
  (if (gM s 0 5) ≤ l2 then
  some (l1, s)
  else
  ixg (((gM s 0 11) + 29) + l2) 82 fun n3 =>
  vl (l1 + (gM s 9 n3)) fun y4 =>
  vl (l2 + 1) fun y5 =>
  k4 y4 y5 s)
set_option maxRecDepth 100000 in
set_option maxHeartbeats 4000000 in
theorem e_X6_brokenMany_4b {G : Cf} {x : SX} {k4 : Int32 → Int32 → SM → Option (Int32 × SM)} (hk4 : ∀ (l1 : Int32) (l2 : Int32) (s : SM), R (wfM x) inI G M_X6_brokenMany 4 [some (.ref mb), some (.int l1), some (.int l2)] [] s (k4 l1 l2 s)) (l1 : Int32) (l2 : Int32) (s : SM) : R (wfM x) inI G M_X6_brokenMany 4 [some (.ref mb), some (.int l1), some (.int l2)] [] s (fX6_brokenMany_4b k4 l1 l2 s) := by
  unfold fX6_brokenMany_4b
  refine rr_iload_n (q := 5) rfl dX6_brokenMany_4 rfl ?_
  refine rr_aload_n (q := 6) rfl dX6_brokenMany_5 rfl ?_
  refine rr_get (q := 9) rfl fl_X6_87 w_M rfl dX6_brokenMany_6 ?_
  refine rr_icmp_ge 35 (q := 12) rfl dX6_brokenMany_9 rfl (fun _ => ?_) (fun _ => ?_)
  · refine rr_iload_n (q := 36) rfl dX6_brokenMany_35 rfl ?_
    exact rr_iret dX6_brokenMany_36 rfl
  · refine rr_iload_n (q := 13) rfl dX6_brokenMany_12 rfl ?_
    refine rr_aload_n (q := 14) rfl dX6_brokenMany_13 rfl ?_
    refine rr_get (q := 17) rfl fl_X6_34 w_M rfl dX6_brokenMany_14 ?_
    refine rr_aload_n (q := 18) rfl dX6_brokenMany_17 rfl ?_
    refine rr_get (q := 21) rfl fl_X6_90 w_M rfl dX6_brokenMany_18 ?_
    refine rr_bipush 29 (q := 23) rfl dX6_brokenMany_21 rfl ?_
    refine rr_iadd (q := 24) rfl dX6_brokenMany_23 ?_
    refine rr_iload_n (q := 25) rfl dX6_brokenMany_24 rfl ?_
    refine rr_iadd (q := 26) rfl dX6_brokenMany_25 ?_
    refine rr_iald (q := 27) rfl w_marr9 dX6_brokenMany_26 (fun n3 => ?_)
    refine rr_iadd (q := 28) rfl dX6_brokenMany_27 ?_
    refine rr_istore_n (L2 := fun y4 => [some (.ref mb), some (.int y4), some (.int l2)]) (q := 29) rfl dX6_brokenMany_28 (Nat.le_of_ble_eq_true rfl) (fun _ => rfl) (fun y4 => ?_)
    refine rr_iinc (L2 := fun y5 => [some (.ref mb), some (.int y4), some (.int y5)]) (q := 32) rfl dX6_brokenMany_29 rfl rfl (Nat.le_of_ble_eq_true rfl) (fun _ => rfl) (fun y5 => ?_)
    refine rr_goto 4 dX6_brokenMany_32 rfl ?_
    exact hk4 y4 y5 s
def fX6_brokenMany_4 : Nat → Int32 → Int32 → SM → Option (Int32 × SM) := lp (fun _ _ _ => none) (fX6_brokenMany_4b)
theorem e_X6_brokenMany_4 {G : Cf} {x : SX}  (n : Nat) : ∀ (l1 : Int32) (l2 : Int32) (s : SM), R (wfM x) inI G M_X6_brokenMany 4 [some (.ref mb), some (.int l1), some (.int l2)] [] s (fX6_brokenMany_4 n l1 l2 s) := by
  unfold fX6_brokenMany_4
  exact rr_lp (P := fun (kz : Int32 → Int32 → SM → Option (Int32 × SM)) => ∀ (l1 : Int32) (l2 : Int32) (s : SM), R (wfM x) inI G M_X6_brokenMany 4 [some (.ref mb), some (.int l1), some (.int l2)] [] s (kz l1 l2 s)) (fun _ _ _ => rr_none) (fun kz hkz => fun l1 l2 s => e_X6_brokenMany_4b hkz l1 l2 s) n
def fX6_brokenMany (s : SM) : Option (Int32 × SM) :=
  vl 0 fun y1 =>
  vl 0 fun y2 =>
  fX6_brokenMany_4 400 y1 y2 s
set_option maxRecDepth 100000 in
set_option maxHeartbeats 4000000 in
theorem e_X6_brokenMany {G : Cf} {x : SX} (s : SM) : Ct (wfM x) inI G M_X6_brokenMany [.ref mb] s (fX6_brokenMany s) := by
  refine Ct.of (L0 := [some (.ref mb), none, none]) 2 rfl rfl ⟨rfl, rfl⟩ (Nat.le_of_ble_eq_true rfl) rfl ?_
  unfold fX6_brokenMany
  refine rr_iconst 0 (q := 1) rfl dX6_brokenMany_0 rfl ?_
  refine rr_istore_n (L2 := fun y1 => [some (.ref mb), some (.int y1), none]) (q := 2) rfl dX6_brokenMany_1 (Nat.le_of_ble_eq_true rfl) (fun _ => rfl) (fun y1 => ?_)
  refine rr_iconst 0 (q := 3) rfl dX6_brokenMany_2 rfl ?_
  refine rr_istore_n (L2 := fun y2 => [some (.ref mb), some (.int y1), some (.int y2)]) (q := 4) rfl dX6_brokenMany_3 (Nat.le_of_ble_eq_true rfl) (fun _ => rfl) (fun y2 => ?_)
  exact e_X6_brokenMany_4 400 y1 y2 s
def fX6_go_2b (k2 : Int32 → Int32 → SM → Option (Unit × SM)) (l1 : Int32) (l2 : Int32) (s : SM) : Option (Unit × SM) :=
  (if l1 ≤ l2 then
  some ((), s)
  else
  bd (fX6_falls s) fun _ s2 =>
  ixg ((gM s2 0 11) + 0) 82 fun n3 =>
  ixg ((gM s2 0 11) + 0) 82 fun n4 => vl (wM s2 9 n4 ((gM s2 9 n3) + 1)) fun s5 =>
  vl (l2 + 1) fun y6 =>
  k2 l1 y6 s5)
set_option maxRecDepth 100000 in
set_option maxHeartbeats 4000000 in
theorem e_X6_go_2b {G : Cf} {x : SX} {k2 : Int32 → Int32 → SM → Option (Unit × SM)} (hk2 : ∀ (l1 : Int32) (l2 : Int32) (s : SM), R (wfM x) inU G M_X6_go 2 [some (.ref mb), some (.int l1), some (.int l2)] [] s (k2 l1 l2 s)) (l1 : Int32) (l2 : Int32) (s : SM) : R (wfM x) inU G M_X6_go 2 [some (.ref mb), some (.int l1), some (.int l2)] [] s (fX6_go_2b k2 l1 l2 s) := by
  unfold fX6_go_2b
  refine rr_iload_n (q := 3) rfl dX6_go_2 rfl ?_
  refine rr_iload_n (q := 4) rfl dX6_go_3 rfl ?_
  refine rr_icmp_ge 32 (q := 7) rfl dX6_go_4 rfl (fun _ => ?_) (fun _ => ?_)
  · exact rr_vret dX6_go_32 rfl
  · refine rr_aload_n (q := 8) rfl dX6_go_7 rfl ?_
    refine rr_cVu (q := 11) rfl V_X6_falls ml_X6_184 ⟨Nat.le_of_ble_eq_true rfl, Nat.le_of_ble_eq_true rfl⟩ (e_X6_falls s) w_M rfl rfl rfl rfl (Nat.le_of_ble_eq_true rfl) dX6_go_8 (fun _ s2 => ?_)
    refine rr_aload_n (q := 12) rfl dX6_go_11 rfl ?_
    refine rr_get (q := 15) rfl fl_X6_34 w_M rfl dX6_go_12 ?_
    refine rr_aload_n (q := 16) rfl dX6_go_15 rfl ?_
    refine rr_get (q := 19) rfl fl_X6_90 w_M rfl dX6_go_16 ?_
    refine rr_iconst 0 (q := 20) rfl dX6_go_19 rfl ?_
    refine rr_iadd (q := 21) rfl dX6_go_20 ?_
    refine rr_dup2 (q := 22) rfl dX6_go_21 rfl rfl ?_
    refine rr_iald (q := 23) rfl w_marr9 dX6_go_22 (fun n3 => ?_)
    refine rr_iconst 1 (q := 24) rfl dX6_go_23 rfl ?_
    refine rr_iadd (q := 25) rfl dX6_go_24 ?_
    refine rr_iast (q := 26) rfl w_marr9 (fun _ => u_marr9) dX6_go_25 (fun n4 s5 => ?_)
    refine rr_iinc (L2 := fun y6 => [some (.ref mb), some (.int l1), some (.int y6)]) (q := 29) rfl dX6_go_26 rfl rfl (Nat.le_of_ble_eq_true rfl) (fun _ => rfl) (fun y6 => ?_)
    refine rr_goto 2 dX6_go_29 rfl ?_
    exact hk2 l1 y6 s5
def fX6_go_2 : Nat → Int32 → Int32 → SM → Option (Unit × SM) := lp (fun _ _ _ => none) (fX6_go_2b)
theorem e_X6_go_2 {G : Cf} {x : SX}  (n : Nat) : ∀ (l1 : Int32) (l2 : Int32) (s : SM), R (wfM x) inU G M_X6_go 2 [some (.ref mb), some (.int l1), some (.int l2)] [] s (fX6_go_2 n l1 l2 s) := by
  unfold fX6_go_2
  exact rr_lp (P := fun (kz : Int32 → Int32 → SM → Option (Unit × SM)) => ∀ (l1 : Int32) (l2 : Int32) (s : SM), R (wfM x) inU G M_X6_go 2 [some (.ref mb), some (.int l1), some (.int l2)] [] s (kz l1 l2 s)) (fun _ _ _ => rr_none) (fun kz hkz => fun l1 l2 s => e_X6_go_2b hkz l1 l2 s) n
def fX6_go (l1 : Int32) (s : SM) : Option (Unit × SM) :=
  vl 0 fun y1 =>
  fX6_go_2 400 l1 y1 s
set_option maxRecDepth 100000 in
set_option maxHeartbeats 4000000 in
theorem e_X6_go {G : Cf} {x : SX} (l1 : Int32) (s : SM) : Ct (wfM x) inU G M_X6_go [.ref mb, .int l1] s (fX6_go l1 s) := by
  refine Ct.of (L0 := [some (.ref mb), some (.int l1), none]) 1 rfl rfl ⟨rfl, rfl⟩ (Nat.le_of_ble_eq_true rfl) rfl ?_
  unfold fX6_go
  refine rr_iconst 0 (q := 1) rfl dX6_go_0 rfl ?_
  refine rr_istore_n (L2 := fun y1 => [some (.ref mb), some (.int l1), some (.int y1)]) (q := 2) rfl dX6_go_1 (Nat.le_of_ble_eq_true rfl) (fun _ => rfl) (fun y1 => ?_)
  exact e_X6_go_2 400 l1 y1 s
def fX6_isLate (l1 : Int32) (s : SM) : Option (Int32 × SM) :=
  ixg 0 82 fun n1 =>
  (if ((gM s 9 n1) + l1) ≤ 999 then
  some (0, s)
  else
  some (1, s))
set_option maxRecDepth 100000 in
set_option maxHeartbeats 4000000 in
theorem e_X6_isLate {G : Cf} {x : SX} (l1 : Int32) (s : SM) : Ct (wfM x) inI G M_X6_isLate [.ref mb, .int l1] s (fX6_isLate l1 s) := by
  refine Ct.of (L0 := [some (.ref mb), some (.int l1)]) 0 rfl rfl ⟨rfl, rfl⟩ (Nat.le_of_ble_eq_true rfl) rfl ?_
  unfold fX6_isLate
  refine rr_aload_n (q := 1) rfl dX6_isLate_0 rfl ?_
  refine rr_get (q := 4) rfl fl_X6_34 w_M rfl dX6_isLate_1 ?_
  refine rr_iconst 0 (q := 5) rfl dX6_isLate_4 rfl ?_
  refine rr_iald (q := 6) rfl w_marr9 dX6_isLate_5 (fun n1 => ?_)
  refine rr_iload_n (q := 7) rfl dX6_isLate_6 rfl ?_
  refine rr_iadd (q := 8) rfl dX6_isLate_7 ?_
  refine rr_sipush 999 (q := 11) rfl dX6_isLate_8 rfl ?_
  refine rr_icmp_le 18 (q := 14) rfl dX6_isLate_11 rfl (fun _ => ?_) (fun _ => ?_)
  · refine rr_iconst 0 (q := 19) rfl dX6_isLate_18 rfl ?_
    exact rr_zret dX6_isLate_19 rfl (Or.inl rfl)
  · refine rr_iconst 1 (q := 15) rfl dX6_isLate_14 rfl ?_
    refine rr_goto 19 dX6_isLate_15 rfl ?_
    exact rr_zret dX6_isLate_19 rfl (Or.inr rfl)
def fX6_months (l1 : Int32) (s : SM) : Option (Int32 × SM) :=
  bd (fX6_in l1 1 60 s) fun v1 s2 =>
  (if v1 = 0 then
  bd (fX6_finds (-1000000001) s2) fun v13 s14 =>
  some (v13, s14)
  else
  bd (fX6_isLate l1 s2) fun v3 s4 =>
  (if v3 = 0 then
  bd (fX6_brokenMany s4) fun v5 s6 =>
  vl v5 fun y7 =>
  bd (fX6_go l1 s6) fun _ s8 =>
  bd (fX6_brokenMany s8) fun v9 s10 =>
  some (v9 - y7, s10)
  else
  bd (fX6_finds (-1000000005) s4) fun v11 s12 =>
  some (v11, s12)))
set_option maxRecDepth 100000 in
set_option maxHeartbeats 4000000 in
theorem e_X6_months {G : Cf} {x : SX} (l1 : Int32) (s : SM) : Ct (wfM x) inI G M_X6_months [.ref mb, .int l1] s (fX6_months l1 s) := by
  refine Ct.of (L0 := [some (.ref mb), some (.int l1), none]) 1 rfl rfl ⟨rfl, rfl⟩ (Nat.le_of_ble_eq_true rfl) rfl ?_
  unfold fX6_months
  refine rr_iload_n (q := 1) rfl dX6_months_0 rfl ?_
  refine rr_iconst 1 (q := 2) rfl dX6_months_1 rfl ?_
  refine rr_bipush 60 (q := 4) rfl dX6_months_2 rfl ?_
  refine rr_cSi (q := 7) rfl V_X6_in ml_X6_79 ⟨Nat.le_of_ble_eq_true rfl, Nat.le_of_ble_eq_true rfl⟩ (e_X6_in l1 1 60 s) rfl rfl (Nat.le_of_ble_eq_true rfl) dX6_months_4 (fun v1 s2 => ?_)
  refine rr_if_ne 17 (q := 10) rfl dX6_months_7 rfl (fun _ => ?_) (fun _ => ?_)
  · refine rr_aload_n (q := 18) rfl dX6_months_17 rfl ?_
    refine rr_iload_n (q := 19) rfl dX6_months_18 rfl ?_
    refine rr_cVi (q := 22) rfl V_X6_isLate ml_X6_196 ⟨Nat.le_of_ble_eq_true rfl, Nat.le_of_ble_eq_true rfl⟩ (e_X6_isLate l1 s2) w_M rfl rfl rfl rfl (Nat.le_of_ble_eq_true rfl) dX6_months_19 (fun v3 s4 => ?_)
    refine rr_if_eq 32 (q := 25) rfl dX6_months_22 rfl (fun _ => ?_) (fun _ => ?_)
    · refine rr_aload_n (q := 33) rfl dX6_months_32 rfl ?_
      refine rr_cVi (q := 36) rfl V_X6_brokenMany ml_X6_199 ⟨Nat.le_of_ble_eq_true rfl, Nat.le_of_ble_eq_true rfl⟩ (e_X6_brokenMany s4) w_M rfl rfl rfl rfl (Nat.le_of_ble_eq_true rfl) dX6_months_33 (fun v5 s6 => ?_)
      refine rr_istore_n (L2 := fun y7 => [some (.ref mb), some (.int l1), some (.int y7)]) (q := 37) rfl dX6_months_36 (Nat.le_of_ble_eq_true rfl) (fun _ => rfl) (fun y7 => ?_)
      refine rr_aload_n (q := 38) rfl dX6_months_37 rfl ?_
      refine rr_iload_n (q := 39) rfl dX6_months_38 rfl ?_
      refine rr_cVu (q := 42) rfl V_X6_go ml_X6_202 ⟨Nat.le_of_ble_eq_true rfl, Nat.le_of_ble_eq_true rfl⟩ (e_X6_go l1 s6) w_M rfl rfl rfl rfl (Nat.le_of_ble_eq_true rfl) dX6_months_39 (fun _ s8 => ?_)
      refine rr_aload_n (q := 43) rfl dX6_months_42 rfl ?_
      refine rr_cVi (q := 46) rfl V_X6_brokenMany ml_X6_199 ⟨Nat.le_of_ble_eq_true rfl, Nat.le_of_ble_eq_true rfl⟩ (e_X6_brokenMany s8) w_M rfl rfl rfl rfl (Nat.le_of_ble_eq_true rfl) dX6_months_43 (fun v9 s10 => ?_)
      refine rr_iload_n (q := 47) rfl dX6_months_46 rfl ?_
      refine rr_isub (q := 48) rfl dX6_months_47 ?_
      exact rr_iret dX6_months_48 rfl
    · refine rr_aload_n (q := 26) rfl dX6_months_25 rfl ?_
      refine rr_ldc (q := 28) rfl dX6_months_26 kc_X6_139 ?_
      refine rr_cVi (q := 31) rfl V_X6_finds ml_X6_125 ⟨Nat.le_of_ble_eq_true rfl, Nat.le_of_ble_eq_true rfl⟩ (e_X6_finds (-1000000005) s4) w_M rfl rfl rfl rfl (Nat.le_of_ble_eq_true rfl) dX6_months_28 (fun v11 s12 => ?_)
      exact rr_iret dX6_months_31 rfl
  · refine rr_aload_n (q := 11) rfl dX6_months_10 rfl ?_
    refine rr_ldc (q := 13) rfl dX6_months_11 kc_X6_78 ?_
    refine rr_cVi (q := 16) rfl V_X6_finds ml_X6_125 ⟨Nat.le_of_ble_eq_true rfl, Nat.le_of_ble_eq_true rfl⟩ (e_X6_finds (-1000000001) s2) w_M rfl rfl rfl rfl (Nat.le_of_ble_eq_true rfl) dX6_months_13 (fun v13 s14 => ?_)
    exact rr_iret dX6_months_16 rfl
def fX6_now_101 (k71 : Int32 → Int32 → SM → Option (Int32 × SM)) (l3 : Int32) (t0 : Int32) (t1 : Int32) (s : SM) : Option (Int32 × SM) :=
  vl (t0 + t1) fun y25 =>
  vl (l3 + 1) fun y26 =>
  k71 y25 y26 s
set_option maxRecDepth 100000 in
set_option maxHeartbeats 4000000 in
theorem e_X6_now_101 {G : Cf} {x : SX} {k71 : Int32 → Int32 → SM → Option (Int32 × SM)} (hk71 : ∀ (l2 : Int32) (l3 : Int32) (s : SM), R (wfM x) inI G M_X6_now 71 [some (.ref mb), none, some (.int l2), some (.int l3)] [] s (k71 l2 l3 s)) (l3 : Int32) (t0 : Int32) (t1 : Int32) (s : SM) : R (wfM x) inI G M_X6_now 101 [some (.ref mb), none, none, some (.int l3)] [.int t1, .int t0] s (fX6_now_101 k71 l3 t0 t1 s) := by
  unfold fX6_now_101
  refine rr_iadd (q := 102) rfl dX6_now_101 ?_
  refine rr_istore_n (L2 := fun y25 => [some (.ref mb), none, some (.int y25), some (.int l3)]) (q := 103) rfl dX6_now_102 (Nat.le_of_ble_eq_true rfl) (fun _ => rfl) (fun y25 => ?_)
  refine rr_iinc (L2 := fun y26 => [some (.ref mb), none, some (.int y25), some (.int y26)]) (q := 106) rfl dX6_now_103 rfl rfl (Nat.le_of_ble_eq_true rfl) (fun _ => rfl) (fun y26 => ?_)
  refine rr_goto 71 dX6_now_106 rfl ?_
  exact hk71 y25 y26 s
def fX6_now_100 (k71 : Int32 → Int32 → SM → Option (Int32 × SM)) (l3 : Int32) (t0 : Int32) (s : SM) : Option (Int32 × SM) :=
  fX6_now_101 k71 l3 t0 0 s
set_option maxRecDepth 100000 in
set_option maxHeartbeats 4000000 in
theorem e_X6_now_100 {G : Cf} {x : SX} {k71 : Int32 → Int32 → SM → Option (Int32 × SM)} (hk71 : ∀ (l2 : Int32) (l3 : Int32) (s : SM), R (wfM x) inI G M_X6_now 71 [some (.ref mb), none, some (.int l2), some (.int l3)] [] s (k71 l2 l3 s)) (l3 : Int32) (t0 : Int32) (s : SM) : R (wfM x) inI G M_X6_now 100 [some (.ref mb), none, none, some (.int l3)] [.int t0] s (fX6_now_100 k71 l3 t0 s) := by
  unfold fX6_now_100
  refine rr_iconst 0 (q := 101) rfl dX6_now_100 rfl ?_
  exact e_X6_now_101 hk71 l3 t0 0 s
def fX6_now_71b (k71 : Int32 → Int32 → SM → Option (Int32 × SM)) (l2 : Int32) (l3 : Int32) (s : SM) : Option (Int32 × SM) :=
  (if (gM s 0 1) ≤ l3 then
  some (l2, s)
  else
  bd (fX6_lives l3 s) fun v21 s22 =>
  (if v21 = 0 then
  fX6_now_100 k71 l3 l2 s22
  else
  bd (fX6_isHome l3 s22) fun v23 s24 =>
  (if v23 = 0 then
  fX6_now_100 k71 l3 l2 s24
  else
  fX6_now_101 k71 l3 l2 1 s24)))
set_option maxRecDepth 100000 in
set_option maxHeartbeats 4000000 in
theorem e_X6_now_71b {G : Cf} {x : SX} {k71 : Int32 → Int32 → SM → Option (Int32 × SM)} (hk71 : ∀ (l2 : Int32) (l3 : Int32) (s : SM), R (wfM x) inI G M_X6_now 71 [some (.ref mb), none, some (.int l2), some (.int l3)] [] s (k71 l2 l3 s)) (l2 : Int32) (l3 : Int32) (s : SM) : R (wfM x) inI G M_X6_now 71 [some (.ref mb), none, some (.int l2), some (.int l3)] [] s (fX6_now_71b k71 l2 l3 s) := by
  unfold fX6_now_71b
  refine rr_iload_n (q := 72) rfl dX6_now_71 rfl ?_
  refine rr_aload_n (q := 73) rfl dX6_now_72 rfl ?_
  refine rr_get (q := 76) rfl fl_X6_83 w_M rfl dX6_now_73 ?_
  refine rr_icmp_ge 109 (q := 79) rfl dX6_now_76 rfl (fun _ => ?_) (fun _ => ?_)
  · refine rr_iload_n (q := 110) rfl dX6_now_109 rfl ?_
    exact rr_iret dX6_now_110 rfl
  · refine rr_iload_n (q := 80) rfl dX6_now_79 rfl ?_
    refine rr_aload_n (q := 81) rfl dX6_now_80 rfl ?_
    refine rr_iload_n (q := 82) rfl dX6_now_81 rfl ?_
    refine rr_cVi (q := 85) rfl V_X6_lives ml_X6_97 ⟨Nat.le_of_ble_eq_true rfl, Nat.le_of_ble_eq_true rfl⟩ (e_X6_lives l3 s) w_M rfl rfl rfl rfl (Nat.le_of_ble_eq_true rfl) dX6_now_82 (fun v21 s22 => ?_)
    refine rr_if_eq 100 (q := 88) rfl dX6_now_85 rfl (fun _ => ?_) (fun _ => ?_)
    · refine rr_mask [true, false, false, true] (L' := [some (.ref mb), none, none, some (.int l3)]) rfl ?_
      exact e_X6_now_100 hk71 l3 l2 s22
    · refine rr_aload_n (q := 89) rfl dX6_now_88 rfl ?_
      refine rr_iload_n (q := 90) rfl dX6_now_89 rfl ?_
      refine rr_cVi (q := 93) rfl V_X6_isHome ml_X6_101 ⟨Nat.le_of_ble_eq_true rfl, Nat.le_of_ble_eq_true rfl⟩ (e_X6_isHome l3 s22) w_M rfl rfl rfl rfl (Nat.le_of_ble_eq_true rfl) dX6_now_90 (fun v23 s24 => ?_)
      refine rr_if_eq 100 (q := 96) rfl dX6_now_93 rfl (fun _ => ?_) (fun _ => ?_)
      · refine rr_mask [true, false, false, true] (L' := [some (.ref mb), none, none, some (.int l3)]) rfl ?_
        exact e_X6_now_100 hk71 l3 l2 s24
      · refine rr_iconst 1 (q := 97) rfl dX6_now_96 rfl ?_
        refine rr_goto 101 dX6_now_97 rfl ?_
        refine rr_mask [true, false, false, true] (L' := [some (.ref mb), none, none, some (.int l3)]) rfl ?_
        exact e_X6_now_101 hk71 l3 l2 1 s24
def fX6_now_71 : Nat → Int32 → Int32 → SM → Option (Int32 × SM) := lp (fun _ _ _ => none) (fX6_now_71b)
theorem e_X6_now_71 {G : Cf} {x : SX}  (n : Nat) : ∀ (l2 : Int32) (l3 : Int32) (s : SM), R (wfM x) inI G M_X6_now 71 [some (.ref mb), none, some (.int l2), some (.int l3)] [] s (fX6_now_71 n l2 l3 s) := by
  unfold fX6_now_71
  exact rr_lp (P := fun (kz : Int32 → Int32 → SM → Option (Int32 × SM)) => ∀ (l2 : Int32) (l3 : Int32) (s : SM), R (wfM x) inI G M_X6_now 71 [some (.ref mb), none, some (.int l2), some (.int l3)] [] s (kz l2 l3 s)) (fun _ _ _ => rr_none) (fun kz hkz => fun l2 l3 s => e_X6_now_71b hkz l2 l3 s) n
def fX6_now (l1 : Int32) (s : SM) : Option (Int32 × SM) :=
  vl 0 fun y1 =>
  (if l1 = 0 then
  ixg 0 82 fun n2 =>
  some (gM s 9 n2, s)
  else
  (if l1 = 1 then
  bd (fX6_forceSet s) fun v4 s5 =>
  bd (fX6_ones v4 s5) fun v6 s7 =>
  some (v6, s7)
  else
  (if l1 = 2 then
  bd (fX6_brokenMany s) fun v9 s10 =>
  some (v9, s10)
  else
  (if l1 = 3 then
  bd (fX6_deadSet s) fun v12 s13 =>
  bd (fX6_ones v12 s13) fun v14 s15 =>
  some ((gM s 0 1) - v14, s15)
  else
  (if l1 = 4 then
  vl 0 fun y17 =>
  fX6_now_71 400 y1 y17 s
  else
  bd (fX6_finds (-1000000001) s) fun v19 s20 =>
  some (v19, s20))))))
set_option maxRecDepth 100000 in
set_option maxHeartbeats 4000000 in
theorem e_X6_now {G : Cf} {x : SX} (l1 : Int32) (s : SM) : Ct (wfM x) inI G M_X6_now [.ref mb, .int l1] s (fX6_now l1 s) := by
  refine Ct.of (L0 := [some (.ref mb), some (.int l1), none, none]) 2 rfl rfl ⟨rfl, rfl⟩ (Nat.le_of_ble_eq_true rfl) rfl ?_
  unfold fX6_now
  refine rr_iconst 0 (q := 1) rfl dX6_now_0 rfl ?_
  refine rr_istore_n (L2 := fun y1 => [some (.ref mb), some (.int l1), some (.int y1), none]) (q := 2) rfl dX6_now_1 (Nat.le_of_ble_eq_true rfl) (fun _ => rfl) (fun y1 => ?_)
  refine rr_iload_n (q := 3) rfl dX6_now_2 rfl ?_
  refine rr_case 0 ?_ (fun hs3 => ?_)
  · refine rr_tableIn 36 dX6_now_3 (by decide) (by decide) rfl rfl ?_
    refine rr_aload_n (q := 37) rfl dX6_now_36 rfl ?_
    refine rr_get (q := 40) rfl fl_X6_34 w_M rfl dX6_now_37 ?_
    refine rr_iconst 0 (q := 41) rfl dX6_now_40 rfl ?_
    refine rr_iald (q := 42) rfl w_marr9 dX6_now_41 (fun n2 => ?_)
    exact rr_iret dX6_now_42 rfl
  · refine rr_case 1 ?_ (fun hs8 => ?_)
    · refine rr_tableIn 43 dX6_now_3 (by decide) (by decide) rfl rfl ?_
      refine rr_aload_n (q := 44) rfl dX6_now_43 rfl ?_
      refine rr_cVi (q := 47) rfl V_X6_forceSet ml_X6_205 ⟨Nat.le_of_ble_eq_true rfl, Nat.le_of_ble_eq_true rfl⟩ (e_X6_forceSet s) w_M rfl rfl rfl rfl (Nat.le_of_ble_eq_true rfl) dX6_now_44 (fun v4 s5 => ?_)
      refine rr_cSi (q := 50) rfl V_X6_ones ml_X6_149 ⟨Nat.le_of_ble_eq_true rfl, Nat.le_of_ble_eq_true rfl⟩ (e_X6_ones v4 s5) rfl rfl (Nat.le_of_ble_eq_true rfl) dX6_now_47 (fun v6 s7 => ?_)
      exact rr_iret dX6_now_50 rfl
    · refine rr_case 2 ?_ (fun hs11 => ?_)
      · refine rr_tableIn 51 dX6_now_3 (by decide) (by decide) rfl rfl ?_
        refine rr_aload_n (q := 52) rfl dX6_now_51 rfl ?_
        refine rr_cVi (q := 55) rfl V_X6_brokenMany ml_X6_199 ⟨Nat.le_of_ble_eq_true rfl, Nat.le_of_ble_eq_true rfl⟩ (e_X6_brokenMany s) w_M rfl rfl rfl rfl (Nat.le_of_ble_eq_true rfl) dX6_now_52 (fun v9 s10 => ?_)
        exact rr_iret dX6_now_55 rfl
      · refine rr_case 3 ?_ (fun hs16 => ?_)
        · refine rr_tableIn 56 dX6_now_3 (by decide) (by decide) rfl rfl ?_
          refine rr_aload_n (q := 57) rfl dX6_now_56 rfl ?_
          refine rr_get (q := 60) rfl fl_X6_83 w_M rfl dX6_now_57 ?_
          refine rr_aload_n (q := 61) rfl dX6_now_60 rfl ?_
          refine rr_cVi (q := 64) rfl V_X6_deadSet ml_X6_187 ⟨Nat.le_of_ble_eq_true rfl, Nat.le_of_ble_eq_true rfl⟩ (e_X6_deadSet s) w_M rfl rfl rfl rfl (Nat.le_of_ble_eq_true rfl) dX6_now_61 (fun v12 s13 => ?_)
          refine rr_cSi (q := 67) rfl V_X6_ones ml_X6_149 ⟨Nat.le_of_ble_eq_true rfl, Nat.le_of_ble_eq_true rfl⟩ (e_X6_ones v12 s13) rfl rfl (Nat.le_of_ble_eq_true rfl) dX6_now_64 (fun v14 s15 => ?_)
          refine rr_isub (q := 68) rfl dX6_now_67 ?_
          exact rr_iret dX6_now_68 rfl
        · refine rr_case 4 ?_ (fun hs18 => ?_)
          · refine rr_tableIn 69 dX6_now_3 (by decide) (by decide) rfl rfl ?_
            refine rr_iconst 0 (q := 70) rfl dX6_now_69 rfl ?_
            refine rr_istore_n (L2 := fun y17 => [some (.ref mb), some (.int l1), some (.int y1), some (.int y17)]) (q := 71) rfl dX6_now_70 (Nat.le_of_ble_eq_true rfl) (fun _ => rfl) (fun y17 => ?_)
            refine rr_mask [true, false, true, true] (L' := [some (.ref mb), none, some (.int y1), some (.int y17)]) rfl ?_
            exact e_X6_now_71 400 y1 y17 s
          · refine rr_tableOut 111 dX6_now_3 (by have ahs3 := ne_lit (n := 0) hs3 rfl; have ahs8 := ne_lit (n := 1) hs8 rfl; have ahs11 := ne_lit (n := 2) hs11 rfl; have ahs16 := ne_lit (n := 3) hs16 rfl; have ahs18 := ne_lit (n := 4) hs18 rfl; omega) rfl ?_
            refine rr_aload_n (q := 112) rfl dX6_now_111 rfl ?_
            refine rr_ldc (q := 114) rfl dX6_now_112 kc_X6_78 ?_
            refine rr_cVi (q := 117) rfl V_X6_finds ml_X6_125 ⟨Nat.le_of_ble_eq_true rfl, Nat.le_of_ble_eq_true rfl⟩ (e_X6_finds (-1000000001) s) w_M rfl rfl rfl rfl (Nat.le_of_ble_eq_true rfl) dX6_now_114 (fun v19 s20 => ?_)
            exact rr_iret dX6_now_117 rfl
def fX6_on (l1 : Int32) (s : SM) : Option (Int32 × SM) :=
  bd (fX6_in l1 0 120 s) fun v1 s2 =>
  (if v1 = 0 then
  bd (fX6_finds (-1000000001) s2) fun v13 s14 =>
  some (v13, s14)
  else
  bd (fX6_isLate l1 s2) fun v3 s4 =>
  (if v3 = 0 then
  bd (fX6_lends s4) fun _ s5 =>
  bd (fX6_go l1 s5) fun _ s6 =>
  bd (fX6_forceSet s6) fun v7 s8 =>
  vl v7 fun y9 =>
  vl (wM s8 0 11 0) fun s10 =>
  some (y9, s10)
  else
  bd (fX6_finds (-1000000005) s4) fun v11 s12 =>
  some (v11, s12)))
set_option maxRecDepth 100000 in
set_option maxHeartbeats 4000000 in
theorem e_X6_on {G : Cf} {x : SX} (l1 : Int32) (s : SM) : Ct (wfM x) inI G M_X6_on [.ref mb, .int l1] s (fX6_on l1 s) := by
  refine Ct.of (L0 := [some (.ref mb), some (.int l1), none]) 1 rfl rfl ⟨rfl, rfl⟩ (Nat.le_of_ble_eq_true rfl) rfl ?_
  unfold fX6_on
  refine rr_iload_n (q := 1) rfl dX6_on_0 rfl ?_
  refine rr_iconst 0 (q := 2) rfl dX6_on_1 rfl ?_
  refine rr_bipush 120 (q := 4) rfl dX6_on_2 rfl ?_
  refine rr_cSi (q := 7) rfl V_X6_in ml_X6_79 ⟨Nat.le_of_ble_eq_true rfl, Nat.le_of_ble_eq_true rfl⟩ (e_X6_in l1 0 120 s) rfl rfl (Nat.le_of_ble_eq_true rfl) dX6_on_4 (fun v1 s2 => ?_)
  refine rr_if_ne 17 (q := 10) rfl dX6_on_7 rfl (fun _ => ?_) (fun _ => ?_)
  · refine rr_aload_n (q := 18) rfl dX6_on_17 rfl ?_
    refine rr_iload_n (q := 19) rfl dX6_on_18 rfl ?_
    refine rr_cVi (q := 22) rfl V_X6_isLate ml_X6_196 ⟨Nat.le_of_ble_eq_true rfl, Nat.le_of_ble_eq_true rfl⟩ (e_X6_isLate l1 s2) w_M rfl rfl rfl rfl (Nat.le_of_ble_eq_true rfl) dX6_on_19 (fun v3 s4 => ?_)
    refine rr_if_eq 32 (q := 25) rfl dX6_on_22 rfl (fun _ => ?_) (fun _ => ?_)
    · refine rr_aload_n (q := 33) rfl dX6_on_32 rfl ?_
      refine rr_cVu (q := 36) rfl V_X6_lends ml_X6_190 ⟨Nat.le_of_ble_eq_true rfl, Nat.le_of_ble_eq_true rfl⟩ (e_X6_lends s4) w_M rfl rfl rfl rfl (Nat.le_of_ble_eq_true rfl) dX6_on_33 (fun _ s5 => ?_)
      refine rr_aload_n (q := 37) rfl dX6_on_36 rfl ?_
      refine rr_iload_n (q := 38) rfl dX6_on_37 rfl ?_
      refine rr_cVu (q := 41) rfl V_X6_go ml_X6_202 ⟨Nat.le_of_ble_eq_true rfl, Nat.le_of_ble_eq_true rfl⟩ (e_X6_go l1 s5) w_M rfl rfl rfl rfl (Nat.le_of_ble_eq_true rfl) dX6_on_38 (fun _ s6 => ?_)
      refine rr_aload_n (q := 42) rfl dX6_on_41 rfl ?_
      refine rr_cVi (q := 45) rfl V_X6_forceSet ml_X6_205 ⟨Nat.le_of_ble_eq_true rfl, Nat.le_of_ble_eq_true rfl⟩ (e_X6_forceSet s6) w_M rfl rfl rfl rfl (Nat.le_of_ble_eq_true rfl) dX6_on_42 (fun v7 s8 => ?_)
      refine rr_istore_n (L2 := fun y9 => [some (.ref mb), some (.int l1), some (.int y9)]) (q := 46) rfl dX6_on_45 (Nat.le_of_ble_eq_true rfl) (fun _ => rfl) (fun y9 => ?_)
      refine rr_aload_n (q := 47) rfl dX6_on_46 rfl ?_
      refine rr_iconst 0 (q := 48) rfl dX6_on_47 rfl ?_
      refine rr_puti (q := 51) rfl fl_X6_90 fp_X6_11 w_M (Nat.le_of_ble_eq_true rfl) u_M11 dX6_on_48 (fun s10 => ?_)
      refine rr_iload_n (q := 52) rfl dX6_on_51 rfl ?_
      exact rr_iret dX6_on_52 rfl
    · refine rr_aload_n (q := 26) rfl dX6_on_25 rfl ?_
      refine rr_ldc (q := 28) rfl dX6_on_26 kc_X6_139 ?_
      refine rr_cVi (q := 31) rfl V_X6_finds ml_X6_125 ⟨Nat.le_of_ble_eq_true rfl, Nat.le_of_ble_eq_true rfl⟩ (e_X6_finds (-1000000005) s4) w_M rfl rfl rfl rfl (Nat.le_of_ble_eq_true rfl) dX6_on_28 (fun v11 s12 => ?_)
      exact rr_iret dX6_on_31 rfl
  · refine rr_aload_n (q := 11) rfl dX6_on_10 rfl ?_
    refine rr_ldc (q := 13) rfl dX6_on_11 kc_X6_78 ?_
    refine rr_cVi (q := 16) rfl V_X6_finds ml_X6_125 ⟨Nat.le_of_ble_eq_true rfl, Nat.le_of_ble_eq_true rfl⟩ (e_X6_finds (-1000000001) s2) w_M rfl rfl rfl rfl (Nat.le_of_ble_eq_true rfl) dX6_on_13 (fun v13 s14 => ?_)
    exact rr_iret dX6_on_16 rfl
def fX6_findsOne_97 (k2 : Int32 → SM → Option (Int32 × SM)) (l1 : Int32) (s : SM) : Option (Int32 × SM) :=
  vl (l1 + 1) fun y12 =>
  k2 y12 s
set_option maxRecDepth 100000 in
set_option maxHeartbeats 4000000 in
theorem e_X6_findsOne_97 {G : Cf} {x : SX} {k2 : Int32 → SM → Option (Int32 × SM)} (hk2 : ∀ (l1 : Int32) (s : SM), R (wfM x) inI G M_X6_findsOne 2 [some (.ref mb), some (.int l1), none, none, none] [] s (k2 l1 s)) (l1 : Int32) (s : SM) : R (wfM x) inI G M_X6_findsOne 97 [some (.ref mb), some (.int l1), none, none, none] [] s (fX6_findsOne_97 k2 l1 s) := by
  unfold fX6_findsOne_97
  refine rr_iinc (L2 := fun y12 => [some (.ref mb), some (.int y12), none, none, none]) (q := 100) rfl dX6_findsOne_97 rfl rfl (Nat.le_of_ble_eq_true rfl) (fun _ => rfl) (fun y12 => ?_)
  refine rr_goto 2 dX6_findsOne_100 rfl ?_
  exact hk2 y12 s
def fX6_findsOne_69 (k2 : Int32 → SM → Option (Int32 × SM)) (l1 : Int32) (l2 : Int32) (l3 : Int32) (t0 : Int32) (s : SM) : Option (Int32 × SM) :=
  vl t0 fun y13 =>
  ixg (((gM s 0 11) + 1) + l2) 82 fun n14 => vl (wM s 9 n14 l3) fun s15 =>
  (if y13 = 0 then
  fX6_findsOne_97 k2 l1 s15
  else
  vl (wM s15 0 18 l1) fun s16 =>
  some (1, s16))
set_option maxRecDepth 100000 in
set_option maxHeartbeats 4000000 in
theorem e_X6_findsOne_69 {G : Cf} {x : SX} {k2 : Int32 → SM → Option (Int32 × SM)} (hk2 : ∀ (l1 : Int32) (s : SM), R (wfM x) inI G M_X6_findsOne 2 [some (.ref mb), some (.int l1), none, none, none] [] s (k2 l1 s)) (l1 : Int32) (l2 : Int32) (l3 : Int32) (t0 : Int32) (s : SM) : R (wfM x) inI G M_X6_findsOne 69 [some (.ref mb), some (.int l1), some (.int l2), some (.int l3), none] [.int t0] s (fX6_findsOne_69 k2 l1 l2 l3 t0 s) := by
  unfold fX6_findsOne_69
  refine rr_istore (L2 := fun y13 => [some (.ref mb), some (.int l1), some (.int l2), some (.int l3), some (.int y13)]) (q := 71) rfl dX6_findsOne_69 (Nat.le_of_ble_eq_true rfl) (fun _ => rfl) (fun y13 => ?_)
  refine rr_aload_n (q := 72) rfl dX6_findsOne_71 rfl ?_
  refine rr_get (q := 75) rfl fl_X6_34 w_M rfl dX6_findsOne_72 ?_
  refine rr_aload_n (q := 76) rfl dX6_findsOne_75 rfl ?_
  refine rr_get (q := 79) rfl fl_X6_90 w_M rfl dX6_findsOne_76 ?_
  refine rr_iconst 1 (q := 80) rfl dX6_findsOne_79 rfl ?_
  refine rr_iadd (q := 81) rfl dX6_findsOne_80 ?_
  refine rr_iload_n (q := 82) rfl dX6_findsOne_81 rfl ?_
  refine rr_iadd (q := 83) rfl dX6_findsOne_82 ?_
  refine rr_iload_n (q := 84) rfl dX6_findsOne_83 rfl ?_
  refine rr_iast (q := 85) rfl w_marr9 (fun _ => u_marr9) dX6_findsOne_84 (fun n14 s15 => ?_)
  refine rr_iload (q := 87) rfl dX6_findsOne_85 rfl ?_
  refine rr_if_eq 97 (q := 90) rfl dX6_findsOne_87 rfl (fun _ => ?_) (fun _ => ?_)
  · refine rr_mask [true, true, false, false, false] (L' := [some (.ref mb), some (.int l1), none, none, none]) rfl ?_
    exact e_X6_findsOne_97 hk2 l1 s15
  · refine rr_aload_n (q := 91) rfl dX6_findsOne_90 rfl ?_
    refine rr_iload_n (q := 92) rfl dX6_findsOne_91 rfl ?_
    refine rr_puti (q := 95) rfl fl_X6_208 fp_X6_18 w_M (Nat.le_of_ble_eq_true rfl) u_M18 dX6_findsOne_92 (fun s16 => ?_)
    refine rr_iconst 1 (q := 96) rfl dX6_findsOne_95 rfl ?_
    exact rr_zret dX6_findsOne_96 rfl (Or.inr rfl)
def fX6_findsOne_2b (k2 : Int32 → SM → Option (Int32 × SM)) (l1 : Int32) (s : SM) : Option (Int32 × SM) :=
  (if (6 * (gM s 0 1)) ≤ l1 then
  some (0, s)
  else
  vl (l1 / 6) fun y2 =>
  bd (fX6_holder y2 s) fun v3 s4 =>
  vl v3 fun y5 =>
  bd (fX6_lives y2 s4) fun v6 s7 =>
  (if v6 = 0 then
  fX6_findsOne_97 k2 l1 s7
  else
  (if (l1 - l1 / 6 * 6) = y5 then
  fX6_findsOne_97 k2 l1 s7
  else
  ixg (((gM s7 0 11) + 1) + y2) 82 fun n8 => vl (wM s7 9 n8 (l1 - l1 / 6 * 6)) fun s9 =>
  bd (fX6_looseSet s9) fun v10 s11 =>
  (if v10 = 0 then
  fX6_findsOne_69 k2 l1 y2 y5 1 s11
  else
  fX6_findsOne_69 k2 l1 y2 y5 0 s11))))
set_option maxRecDepth 100000 in
set_option maxHeartbeats 4000000 in
theorem e_X6_findsOne_2b {G : Cf} {x : SX} {k2 : Int32 → SM → Option (Int32 × SM)} (hk2 : ∀ (l1 : Int32) (s : SM), R (wfM x) inI G M_X6_findsOne 2 [some (.ref mb), some (.int l1), none, none, none] [] s (k2 l1 s)) (l1 : Int32) (s : SM) : R (wfM x) inI G M_X6_findsOne 2 [some (.ref mb), some (.int l1), none, none, none] [] s (fX6_findsOne_2b k2 l1 s) := by
  unfold fX6_findsOne_2b
  refine rr_iload_n (q := 3) rfl dX6_findsOne_2 rfl ?_
  refine rr_bipush 6 (q := 5) rfl dX6_findsOne_3 rfl ?_
  refine rr_aload_n (q := 6) rfl dX6_findsOne_5 rfl ?_
  refine rr_get (q := 9) rfl fl_X6_83 w_M rfl dX6_findsOne_6 ?_
  refine rr_imul (q := 10) rfl dX6_findsOne_9 ?_
  refine rr_icmp_ge 103 (q := 13) rfl dX6_findsOne_10 rfl (fun _ => ?_) (fun _ => ?_)
  · refine rr_iconst 0 (q := 104) rfl dX6_findsOne_103 rfl ?_
    exact rr_zret dX6_findsOne_104 rfl (Or.inl rfl)
  · refine rr_iload_n (q := 14) rfl dX6_findsOne_13 rfl ?_
    refine rr_bipush 6 (q := 16) rfl dX6_findsOne_14 rfl ?_
    refine rr_idiv (q := 17) rfl dX6_findsOne_16 (by decide) ?_
    refine rr_istore_n (L2 := fun y2 => [some (.ref mb), some (.int l1), some (.int y2), none, none]) (q := 18) rfl dX6_findsOne_17 (Nat.le_of_ble_eq_true rfl) (fun _ => rfl) (fun y2 => ?_)
    refine rr_aload_n (q := 19) rfl dX6_findsOne_18 rfl ?_
    refine rr_iload_n (q := 20) rfl dX6_findsOne_19 rfl ?_
    refine rr_cVi (q := 23) rfl V_X6_holder ml_X6_93 ⟨Nat.le_of_ble_eq_true rfl, Nat.le_of_ble_eq_true rfl⟩ (e_X6_holder y2 s) w_M rfl rfl rfl rfl (Nat.le_of_ble_eq_true rfl) dX6_findsOne_20 (fun v3 s4 => ?_)
    refine rr_istore_n (L2 := fun y5 => [some (.ref mb), some (.int l1), some (.int y2), some (.int y5), none]) (q := 24) rfl dX6_findsOne_23 (Nat.le_of_ble_eq_true rfl) (fun _ => rfl) (fun y5 => ?_)
    refine rr_aload_n (q := 25) rfl dX6_findsOne_24 rfl ?_
    refine rr_iload_n (q := 26) rfl dX6_findsOne_25 rfl ?_
    refine rr_cVi (q := 29) rfl V_X6_lives ml_X6_97 ⟨Nat.le_of_ble_eq_true rfl, Nat.le_of_ble_eq_true rfl⟩ (e_X6_lives y2 s4) w_M rfl rfl rfl rfl (Nat.le_of_ble_eq_true rfl) dX6_findsOne_26 (fun v6 s7 => ?_)
    refine rr_if_eq 97 (q := 32) rfl dX6_findsOne_29 rfl (fun _ => ?_) (fun _ => ?_)
    · refine rr_mask [true, true, false, false, false] (L' := [some (.ref mb), some (.int l1), none, none, none]) rfl ?_
      exact e_X6_findsOne_97 hk2 l1 s7
    · refine rr_iload_n (q := 33) rfl dX6_findsOne_32 rfl ?_
      refine rr_bipush 6 (q := 35) rfl dX6_findsOne_33 rfl ?_
      refine rr_irem (q := 36) rfl dX6_findsOne_35 (by decide) ?_
      refine rr_iload_n (q := 37) rfl dX6_findsOne_36 rfl ?_
      refine rr_icmp_eq 97 (q := 40) rfl dX6_findsOne_37 rfl (fun _ => ?_) (fun _ => ?_)
      · refine rr_mask [true, true, false, false, false] (L' := [some (.ref mb), some (.int l1), none, none, none]) rfl ?_
        exact e_X6_findsOne_97 hk2 l1 s7
      · refine rr_aload_n (q := 41) rfl dX6_findsOne_40 rfl ?_
        refine rr_get (q := 44) rfl fl_X6_34 w_M rfl dX6_findsOne_41 ?_
        refine rr_aload_n (q := 45) rfl dX6_findsOne_44 rfl ?_
        refine rr_get (q := 48) rfl fl_X6_90 w_M rfl dX6_findsOne_45 ?_
        refine rr_iconst 1 (q := 49) rfl dX6_findsOne_48 rfl ?_
        refine rr_iadd (q := 50) rfl dX6_findsOne_49 ?_
        refine rr_iload_n (q := 51) rfl dX6_findsOne_50 rfl ?_
        refine rr_iadd (q := 52) rfl dX6_findsOne_51 ?_
        refine rr_iload_n (q := 53) rfl dX6_findsOne_52 rfl ?_
        refine rr_bipush 6 (q := 55) rfl dX6_findsOne_53 rfl ?_
        refine rr_irem (q := 56) rfl dX6_findsOne_55 (by decide) ?_
        refine rr_iast (q := 57) rfl w_marr9 (fun _ => u_marr9) dX6_findsOne_56 (fun n8 s9 => ?_)
        refine rr_aload_n (q := 58) rfl dX6_findsOne_57 rfl ?_
        refine rr_cVi (q := 61) rfl V_X6_looseSet ml_X6_145 ⟨Nat.le_of_ble_eq_true rfl, Nat.le_of_ble_eq_true rfl⟩ (e_X6_looseSet s9) w_M rfl rfl rfl rfl (Nat.le_of_ble_eq_true rfl) dX6_findsOne_58 (fun v10 s11 => ?_)
        refine rr_if_ne 68 (q := 64) rfl dX6_findsOne_61 rfl (fun _ => ?_) (fun _ => ?_)
        · refine rr_iconst 0 (q := 69) rfl dX6_findsOne_68 rfl ?_
          exact e_X6_findsOne_69 hk2 l1 y2 y5 0 s11
        · refine rr_iconst 1 (q := 65) rfl dX6_findsOne_64 rfl ?_
          refine rr_goto 69 dX6_findsOne_65 rfl ?_
          exact e_X6_findsOne_69 hk2 l1 y2 y5 1 s11
def fX6_findsOne_2 : Nat → Int32 → SM → Option (Int32 × SM) := lp (fun _ _ => none) (fX6_findsOne_2b)
theorem e_X6_findsOne_2 {G : Cf} {x : SX}  (n : Nat) : ∀ (l1 : Int32) (s : SM), R (wfM x) inI G M_X6_findsOne 2 [some (.ref mb), some (.int l1), none, none, none] [] s (fX6_findsOne_2 n l1 s) := by
  unfold fX6_findsOne_2
  exact rr_lp (P := fun (kz : Int32 → SM → Option (Int32 × SM)) => ∀ (l1 : Int32) (s : SM), R (wfM x) inI G M_X6_findsOne 2 [some (.ref mb), some (.int l1), none, none, none] [] s (kz l1 s)) (fun _ _ => rr_none) (fun kz hkz => fun l1 s => e_X6_findsOne_2b hkz l1 s) n
def fX6_findsOne (s : SM) : Option (Int32 × SM) :=
  vl 0 fun y1 =>
  fX6_findsOne_2 400 y1 s
set_option maxRecDepth 100000 in
set_option maxHeartbeats 4000000 in
theorem e_X6_findsOne {G : Cf} {x : SX} (s : SM) : Ct (wfM x) inI G M_X6_findsOne [.ref mb] s (fX6_findsOne s) := by
  refine Ct.of (L0 := [some (.ref mb), none, none, none, none]) 4 rfl rfl ⟨rfl, rfl⟩ (Nat.le_of_ble_eq_true rfl) rfl ?_
  unfold fX6_findsOne
  refine rr_iconst 0 (q := 1) rfl dX6_findsOne_0 rfl ?_
  refine rr_istore_n (L2 := fun y1 => [some (.ref mb), some (.int y1), none, none, none]) (q := 2) rfl dX6_findsOne_1 (Nat.le_of_ble_eq_true rfl) (fun _ => rfl) (fun y1 => ?_)
  exact e_X6_findsOne_2 400 y1 s
def fX6_findsBehind_105 (k7 : Int32 → SM → Option (Int32 × SM)) (l2 : Int32) (s : SM) : Option (Int32 × SM) :=
  vl (l2 + 1) fun y12 =>
  k7 y12 s
set_option maxRecDepth 100000 in
set_option maxHeartbeats 4000000 in
theorem e_X6_findsBehind_105 {G : Cf} {x : SX} {k7 : Int32 → SM → Option (Int32 × SM)} (hk7 : ∀ (l2 : Int32) (s : SM), R (wfM x) inI G M_X6_findsBehind 7 [some (.ref mb), none, some (.int l2), none, none, none] [] s (k7 l2 s)) (l2 : Int32) (s : SM) : R (wfM x) inI G M_X6_findsBehind 105 [some (.ref mb), none, some (.int l2), none, none, none] [] s (fX6_findsBehind_105 k7 l2 s) := by
  unfold fX6_findsBehind_105
  refine rr_iinc (L2 := fun y12 => [some (.ref mb), none, some (.int y12), none, none, none]) (q := 108) rfl dX6_findsBehind_105 rfl rfl (Nat.le_of_ble_eq_true rfl) (fun _ => rfl) (fun y12 => ?_)
  refine rr_goto 7 dX6_findsBehind_108 rfl ?_
  exact hk7 y12 s
def fX6_findsBehind_76 (k7 : Int32 → SM → Option (Int32 × SM)) (l2 : Int32) (l3 : Int32) (l4 : Int32) (t0 : Int32) (s : SM) : Option (Int32 × SM) :=
  vl t0 fun y13 =>
  ixg (((gM s 0 11) + 1) + l3) 82 fun n14 => vl (wM s 9 n14 l4) fun s15 =>
  (if y13 = 0 then
  fX6_findsBehind_105 k7 l2 s15
  else
  vl (wM s15 0 19 l2) fun s16 =>
  some (1, s16))
set_option maxRecDepth 100000 in
set_option maxHeartbeats 4000000 in
theorem e_X6_findsBehind_76 {G : Cf} {x : SX} {k7 : Int32 → SM → Option (Int32 × SM)} (hk7 : ∀ (l2 : Int32) (s : SM), R (wfM x) inI G M_X6_findsBehind 7 [some (.ref mb), none, some (.int l2), none, none, none] [] s (k7 l2 s)) (l2 : Int32) (l3 : Int32) (l4 : Int32) (t0 : Int32) (s : SM) : R (wfM x) inI G M_X6_findsBehind 76 [some (.ref mb), none, some (.int l2), some (.int l3), some (.int l4), none] [.int t0] s (fX6_findsBehind_76 k7 l2 l3 l4 t0 s) := by
  unfold fX6_findsBehind_76
  refine rr_istore (L2 := fun y13 => [some (.ref mb), none, some (.int l2), some (.int l3), some (.int l4), some (.int y13)]) (q := 78) rfl dX6_findsBehind_76 (Nat.le_of_ble_eq_true rfl) (fun _ => rfl) (fun y13 => ?_)
  refine rr_aload_n (q := 79) rfl dX6_findsBehind_78 rfl ?_
  refine rr_get (q := 82) rfl fl_X6_34 w_M rfl dX6_findsBehind_79 ?_
  refine rr_aload_n (q := 83) rfl dX6_findsBehind_82 rfl ?_
  refine rr_get (q := 86) rfl fl_X6_90 w_M rfl dX6_findsBehind_83 ?_
  refine rr_iconst 1 (q := 87) rfl dX6_findsBehind_86 rfl ?_
  refine rr_iadd (q := 88) rfl dX6_findsBehind_87 ?_
  refine rr_iload_n (q := 89) rfl dX6_findsBehind_88 rfl ?_
  refine rr_iadd (q := 90) rfl dX6_findsBehind_89 ?_
  refine rr_iload (q := 92) rfl dX6_findsBehind_90 rfl ?_
  refine rr_iast (q := 93) rfl w_marr9 (fun _ => u_marr9) dX6_findsBehind_92 (fun n14 s15 => ?_)
  refine rr_iload (q := 95) rfl dX6_findsBehind_93 rfl ?_
  refine rr_if_eq 105 (q := 98) rfl dX6_findsBehind_95 rfl (fun _ => ?_) (fun _ => ?_)
  · refine rr_mask [true, false, true, false, false, false] (L' := [some (.ref mb), none, some (.int l2), none, none, none]) rfl ?_
    exact e_X6_findsBehind_105 hk7 l2 s15
  · refine rr_aload_n (q := 99) rfl dX6_findsBehind_98 rfl ?_
    refine rr_iload_n (q := 100) rfl dX6_findsBehind_99 rfl ?_
    refine rr_puti (q := 103) rfl fl_X6_211 fp_X6_19 w_M (Nat.le_of_ble_eq_true rfl) u_M19 dX6_findsBehind_100 (fun s16 => ?_)
    refine rr_iconst 1 (q := 104) rfl dX6_findsBehind_103 rfl ?_
    exact rr_zret dX6_findsBehind_104 rfl (Or.inr rfl)
def fX6_findsBehind_7b (k7 : Int32 → SM → Option (Int32 × SM)) (l2 : Int32) (s : SM) : Option (Int32 × SM) :=
  (if (6 * (gM s 0 1)) ≤ l2 then
  some (0, s)
  else
  vl (l2 / 6) fun y2 =>
  bd (fX6_holder y2 s) fun v3 s4 =>
  vl v3 fun y5 =>
  bd (fX6_lives y2 s4) fun v6 s7 =>
  (if v6 = 0 then
  fX6_findsBehind_105 k7 l2 s7
  else
  (if (l2 - l2 / 6 * 6) = y5 then
  fX6_findsBehind_105 k7 l2 s7
  else
  ixg (((gM s7 0 11) + 1) + y2) 82 fun n8 => vl (wM s7 9 n8 (l2 - l2 / 6 * 6)) fun s9 =>
  bd (fX6_looseSet s9) fun v10 s11 =>
  (if v10 = 0 then
  fX6_findsBehind_76 k7 l2 y2 y5 1 s11
  else
  fX6_findsBehind_76 k7 l2 y2 y5 0 s11))))
set_option maxRecDepth 100000 in
set_option maxHeartbeats 4000000 in
theorem e_X6_findsBehind_7b {G : Cf} {x : SX} {k7 : Int32 → SM → Option (Int32 × SM)} (hk7 : ∀ (l2 : Int32) (s : SM), R (wfM x) inI G M_X6_findsBehind 7 [some (.ref mb), none, some (.int l2), none, none, none] [] s (k7 l2 s)) (l2 : Int32) (s : SM) : R (wfM x) inI G M_X6_findsBehind 7 [some (.ref mb), none, some (.int l2), none, none, none] [] s (fX6_findsBehind_7b k7 l2 s) := by
  unfold fX6_findsBehind_7b
  refine rr_iload_n (q := 8) rfl dX6_findsBehind_7 rfl ?_
  refine rr_bipush 6 (q := 10) rfl dX6_findsBehind_8 rfl ?_
  refine rr_aload_n (q := 11) rfl dX6_findsBehind_10 rfl ?_
  refine rr_get (q := 14) rfl fl_X6_83 w_M rfl dX6_findsBehind_11 ?_
  refine rr_imul (q := 15) rfl dX6_findsBehind_14 ?_
  refine rr_icmp_ge 111 (q := 18) rfl dX6_findsBehind_15 rfl (fun _ => ?_) (fun _ => ?_)
  · refine rr_iconst 0 (q := 112) rfl dX6_findsBehind_111 rfl ?_
    exact rr_zret dX6_findsBehind_112 rfl (Or.inl rfl)
  · refine rr_iload_n (q := 19) rfl dX6_findsBehind_18 rfl ?_
    refine rr_bipush 6 (q := 21) rfl dX6_findsBehind_19 rfl ?_
    refine rr_idiv (q := 22) rfl dX6_findsBehind_21 (by decide) ?_
    refine rr_istore_n (L2 := fun y2 => [some (.ref mb), none, some (.int l2), some (.int y2), none, none]) (q := 23) rfl dX6_findsBehind_22 (Nat.le_of_ble_eq_true rfl) (fun _ => rfl) (fun y2 => ?_)
    refine rr_aload_n (q := 24) rfl dX6_findsBehind_23 rfl ?_
    refine rr_iload_n (q := 25) rfl dX6_findsBehind_24 rfl ?_
    refine rr_cVi (q := 28) rfl V_X6_holder ml_X6_93 ⟨Nat.le_of_ble_eq_true rfl, Nat.le_of_ble_eq_true rfl⟩ (e_X6_holder y2 s) w_M rfl rfl rfl rfl (Nat.le_of_ble_eq_true rfl) dX6_findsBehind_25 (fun v3 s4 => ?_)
    refine rr_istore (L2 := fun y5 => [some (.ref mb), none, some (.int l2), some (.int y2), some (.int y5), none]) (q := 30) rfl dX6_findsBehind_28 (Nat.le_of_ble_eq_true rfl) (fun _ => rfl) (fun y5 => ?_)
    refine rr_aload_n (q := 31) rfl dX6_findsBehind_30 rfl ?_
    refine rr_iload_n (q := 32) rfl dX6_findsBehind_31 rfl ?_
    refine rr_cVi (q := 35) rfl V_X6_lives ml_X6_97 ⟨Nat.le_of_ble_eq_true rfl, Nat.le_of_ble_eq_true rfl⟩ (e_X6_lives y2 s4) w_M rfl rfl rfl rfl (Nat.le_of_ble_eq_true rfl) dX6_findsBehind_32 (fun v6 s7 => ?_)
    refine rr_if_eq 105 (q := 38) rfl dX6_findsBehind_35 rfl (fun _ => ?_) (fun _ => ?_)
    · refine rr_mask [true, false, true, false, false, false] (L' := [some (.ref mb), none, some (.int l2), none, none, none]) rfl ?_
      exact e_X6_findsBehind_105 hk7 l2 s7
    · refine rr_iload_n (q := 39) rfl dX6_findsBehind_38 rfl ?_
      refine rr_bipush 6 (q := 41) rfl dX6_findsBehind_39 rfl ?_
      refine rr_irem (q := 42) rfl dX6_findsBehind_41 (by decide) ?_
      refine rr_iload (q := 44) rfl dX6_findsBehind_42 rfl ?_
      refine rr_icmp_eq 105 (q := 47) rfl dX6_findsBehind_44 rfl (fun _ => ?_) (fun _ => ?_)
      · refine rr_mask [true, false, true, false, false, false] (L' := [some (.ref mb), none, some (.int l2), none, none, none]) rfl ?_
        exact e_X6_findsBehind_105 hk7 l2 s7
      · refine rr_aload_n (q := 48) rfl dX6_findsBehind_47 rfl ?_
        refine rr_get (q := 51) rfl fl_X6_34 w_M rfl dX6_findsBehind_48 ?_
        refine rr_aload_n (q := 52) rfl dX6_findsBehind_51 rfl ?_
        refine rr_get (q := 55) rfl fl_X6_90 w_M rfl dX6_findsBehind_52 ?_
        refine rr_iconst 1 (q := 56) rfl dX6_findsBehind_55 rfl ?_
        refine rr_iadd (q := 57) rfl dX6_findsBehind_56 ?_
        refine rr_iload_n (q := 58) rfl dX6_findsBehind_57 rfl ?_
        refine rr_iadd (q := 59) rfl dX6_findsBehind_58 ?_
        refine rr_iload_n (q := 60) rfl dX6_findsBehind_59 rfl ?_
        refine rr_bipush 6 (q := 62) rfl dX6_findsBehind_60 rfl ?_
        refine rr_irem (q := 63) rfl dX6_findsBehind_62 (by decide) ?_
        refine rr_iast (q := 64) rfl w_marr9 (fun _ => u_marr9) dX6_findsBehind_63 (fun n8 s9 => ?_)
        refine rr_aload_n (q := 65) rfl dX6_findsBehind_64 rfl ?_
        refine rr_cVi (q := 68) rfl V_X6_looseSet ml_X6_145 ⟨Nat.le_of_ble_eq_true rfl, Nat.le_of_ble_eq_true rfl⟩ (e_X6_looseSet s9) w_M rfl rfl rfl rfl (Nat.le_of_ble_eq_true rfl) dX6_findsBehind_65 (fun v10 s11 => ?_)
        refine rr_if_ne 75 (q := 71) rfl dX6_findsBehind_68 rfl (fun _ => ?_) (fun _ => ?_)
        · refine rr_iconst 0 (q := 76) rfl dX6_findsBehind_75 rfl ?_
          exact e_X6_findsBehind_76 hk7 l2 y2 y5 0 s11
        · refine rr_iconst 1 (q := 72) rfl dX6_findsBehind_71 rfl ?_
          refine rr_goto 76 dX6_findsBehind_72 rfl ?_
          exact e_X6_findsBehind_76 hk7 l2 y2 y5 1 s11
def fX6_findsBehind_7 : Nat → Int32 → SM → Option (Int32 × SM) := lp (fun _ _ => none) (fX6_findsBehind_7b)
theorem e_X6_findsBehind_7 {G : Cf} {x : SX}  (n : Nat) : ∀ (l2 : Int32) (s : SM), R (wfM x) inI G M_X6_findsBehind 7 [some (.ref mb), none, some (.int l2), none, none, none] [] s (fX6_findsBehind_7 n l2 s) := by
  unfold fX6_findsBehind_7
  exact rr_lp (P := fun (kz : Int32 → SM → Option (Int32 × SM)) => ∀ (l2 : Int32) (s : SM), R (wfM x) inI G M_X6_findsBehind 7 [some (.ref mb), none, some (.int l2), none, none, none] [] s (kz l2 s)) (fun _ _ => rr_none) (fun kz hkz => fun l2 s => e_X6_findsBehind_7b hkz l2 s) n
def fX6_findsBehind (l1 : Int32) (s : SM) : Option (Int32 × SM) :=
  vl (6 * (l1 + 1)) fun y1 =>
  fX6_findsBehind_7 400 y1 s
set_option maxRecDepth 100000 in
set_option maxHeartbeats 4000000 in
theorem e_X6_findsBehind {G : Cf} {x : SX} (l1 : Int32) (s : SM) : Ct (wfM x) inI G M_X6_findsBehind [.ref mb, .int l1] s (fX6_findsBehind l1 s) := by
  refine Ct.of (L0 := [some (.ref mb), some (.int l1), none, none, none, none]) 4 rfl rfl ⟨rfl, rfl⟩ (Nat.le_of_ble_eq_true rfl) rfl ?_
  unfold fX6_findsBehind
  refine rr_bipush 6 (q := 2) rfl dX6_findsBehind_0 rfl ?_
  refine rr_iload_n (q := 3) rfl dX6_findsBehind_2 rfl ?_
  refine rr_iconst 1 (q := 4) rfl dX6_findsBehind_3 rfl ?_
  refine rr_iadd (q := 5) rfl dX6_findsBehind_4 ?_
  refine rr_imul (q := 6) rfl dX6_findsBehind_5 ?_
  refine rr_istore_n (L2 := fun y1 => [some (.ref mb), some (.int l1), some (.int y1), none, none, none]) (q := 7) rfl dX6_findsBehind_6 (Nat.le_of_ble_eq_true rfl) (fun _ => rfl) (fun y1 => ?_)
  refine rr_mask [true, false, true, false, false, false] (L' := [some (.ref mb), none, some (.int y1), none, none, none]) rfl ?_
  exact e_X6_findsBehind_7 400 y1 s
def fX6_findsTwo_90 (k2 : Int32 → SM → Option (Int32 × SM)) (l1 : Int32) (s : SM) : Option (Int32 × SM) :=
  vl (l1 + 1) fun y16 =>
  k2 y16 s
set_option maxRecDepth 100000 in
set_option maxHeartbeats 4000000 in
theorem e_X6_findsTwo_90 {G : Cf} {x : SX} {k2 : Int32 → SM → Option (Int32 × SM)} (hk2 : ∀ (l1 : Int32) (s : SM), R (wfM x) inI G M_X6_findsTwo 2 [some (.ref mb), some (.int l1), none, none, none] [] s (k2 l1 s)) (l1 : Int32) (s : SM) : R (wfM x) inI G M_X6_findsTwo 90 [some (.ref mb), some (.int l1), none, none, none] [] s (fX6_findsTwo_90 k2 l1 s) := by
  unfold fX6_findsTwo_90
  refine rr_iinc (L2 := fun y16 => [some (.ref mb), some (.int y16), none, none, none]) (q := 93) rfl dX6_findsTwo_90 rfl rfl (Nat.le_of_ble_eq_true rfl) (fun _ => rfl) (fun y16 => ?_)
  refine rr_goto 2 dX6_findsTwo_93 rfl ?_
  exact hk2 y16 s
def fX6_findsTwo_2b (k2 : Int32 → SM → Option (Int32 × SM)) (l1 : Int32) (s : SM) : Option (Int32 × SM) :=
  (if (6 * (gM s 0 1)) ≤ l1 then
  some (0, s)
  else
  vl (l1 / 6) fun y2 =>
  bd (fX6_holder y2 s) fun v3 s4 =>
  vl v3 fun y5 =>
  bd (fX6_lives y2 s4) fun v6 s7 =>
  (if v6 = 0 then
  fX6_findsTwo_90 k2 l1 s7
  else
  (if (l1 - l1 / 6 * 6) = y5 then
  fX6_findsTwo_90 k2 l1 s7
  else
  ixg (((gM s7 0 11) + 1) + y2) 82 fun n8 => vl (wM s7 9 n8 (l1 - l1 / 6 * 6)) fun s9 =>
  bd (fX6_findsBehind y2 s9) fun v10 s11 =>
  vl v10 fun y12 =>
  ixg (((gM s11 0 11) + 1) + y2) 82 fun n13 => vl (wM s11 9 n13 y5) fun s14 =>
  (if y12 = 0 then
  fX6_findsTwo_90 k2 l1 s14
  else
  vl (wM s14 0 18 l1) fun s15 =>
  some (1, s15)))))
set_option maxRecDepth 100000 in
set_option maxHeartbeats 4000000 in
theorem e_X6_findsTwo_2b {G : Cf} {x : SX} {k2 : Int32 → SM → Option (Int32 × SM)} (hk2 : ∀ (l1 : Int32) (s : SM), R (wfM x) inI G M_X6_findsTwo 2 [some (.ref mb), some (.int l1), none, none, none] [] s (k2 l1 s)) (l1 : Int32) (s : SM) : R (wfM x) inI G M_X6_findsTwo 2 [some (.ref mb), some (.int l1), none, none, none] [] s (fX6_findsTwo_2b k2 l1 s) := by
  unfold fX6_findsTwo_2b
  refine rr_iload_n (q := 3) rfl dX6_findsTwo_2 rfl ?_
  refine rr_bipush 6 (q := 5) rfl dX6_findsTwo_3 rfl ?_
  refine rr_aload_n (q := 6) rfl dX6_findsTwo_5 rfl ?_
  refine rr_get (q := 9) rfl fl_X6_83 w_M rfl dX6_findsTwo_6 ?_
  refine rr_imul (q := 10) rfl dX6_findsTwo_9 ?_
  refine rr_icmp_ge 96 (q := 13) rfl dX6_findsTwo_10 rfl (fun _ => ?_) (fun _ => ?_)
  · refine rr_iconst 0 (q := 97) rfl dX6_findsTwo_96 rfl ?_
    exact rr_zret dX6_findsTwo_97 rfl (Or.inl rfl)
  · refine rr_iload_n (q := 14) rfl dX6_findsTwo_13 rfl ?_
    refine rr_bipush 6 (q := 16) rfl dX6_findsTwo_14 rfl ?_
    refine rr_idiv (q := 17) rfl dX6_findsTwo_16 (by decide) ?_
    refine rr_istore_n (L2 := fun y2 => [some (.ref mb), some (.int l1), some (.int y2), none, none]) (q := 18) rfl dX6_findsTwo_17 (Nat.le_of_ble_eq_true rfl) (fun _ => rfl) (fun y2 => ?_)
    refine rr_aload_n (q := 19) rfl dX6_findsTwo_18 rfl ?_
    refine rr_iload_n (q := 20) rfl dX6_findsTwo_19 rfl ?_
    refine rr_cVi (q := 23) rfl V_X6_holder ml_X6_93 ⟨Nat.le_of_ble_eq_true rfl, Nat.le_of_ble_eq_true rfl⟩ (e_X6_holder y2 s) w_M rfl rfl rfl rfl (Nat.le_of_ble_eq_true rfl) dX6_findsTwo_20 (fun v3 s4 => ?_)
    refine rr_istore_n (L2 := fun y5 => [some (.ref mb), some (.int l1), some (.int y2), some (.int y5), none]) (q := 24) rfl dX6_findsTwo_23 (Nat.le_of_ble_eq_true rfl) (fun _ => rfl) (fun y5 => ?_)
    refine rr_aload_n (q := 25) rfl dX6_findsTwo_24 rfl ?_
    refine rr_iload_n (q := 26) rfl dX6_findsTwo_25 rfl ?_
    refine rr_cVi (q := 29) rfl V_X6_lives ml_X6_97 ⟨Nat.le_of_ble_eq_true rfl, Nat.le_of_ble_eq_true rfl⟩ (e_X6_lives y2 s4) w_M rfl rfl rfl rfl (Nat.le_of_ble_eq_true rfl) dX6_findsTwo_26 (fun v6 s7 => ?_)
    refine rr_if_eq 90 (q := 32) rfl dX6_findsTwo_29 rfl (fun _ => ?_) (fun _ => ?_)
    · refine rr_mask [true, true, false, false, false] (L' := [some (.ref mb), some (.int l1), none, none, none]) rfl ?_
      exact e_X6_findsTwo_90 hk2 l1 s7
    · refine rr_iload_n (q := 33) rfl dX6_findsTwo_32 rfl ?_
      refine rr_bipush 6 (q := 35) rfl dX6_findsTwo_33 rfl ?_
      refine rr_irem (q := 36) rfl dX6_findsTwo_35 (by decide) ?_
      refine rr_iload_n (q := 37) rfl dX6_findsTwo_36 rfl ?_
      refine rr_icmp_eq 90 (q := 40) rfl dX6_findsTwo_37 rfl (fun _ => ?_) (fun _ => ?_)
      · refine rr_mask [true, true, false, false, false] (L' := [some (.ref mb), some (.int l1), none, none, none]) rfl ?_
        exact e_X6_findsTwo_90 hk2 l1 s7
      · refine rr_aload_n (q := 41) rfl dX6_findsTwo_40 rfl ?_
        refine rr_get (q := 44) rfl fl_X6_34 w_M rfl dX6_findsTwo_41 ?_
        refine rr_aload_n (q := 45) rfl dX6_findsTwo_44 rfl ?_
        refine rr_get (q := 48) rfl fl_X6_90 w_M rfl dX6_findsTwo_45 ?_
        refine rr_iconst 1 (q := 49) rfl dX6_findsTwo_48 rfl ?_
        refine rr_iadd (q := 50) rfl dX6_findsTwo_49 ?_
        refine rr_iload_n (q := 51) rfl dX6_findsTwo_50 rfl ?_
        refine rr_iadd (q := 52) rfl dX6_findsTwo_51 ?_
        refine rr_iload_n (q := 53) rfl dX6_findsTwo_52 rfl ?_
        refine rr_bipush 6 (q := 55) rfl dX6_findsTwo_53 rfl ?_
        refine rr_irem (q := 56) rfl dX6_findsTwo_55 (by decide) ?_
        refine rr_iast (q := 57) rfl w_marr9 (fun _ => u_marr9) dX6_findsTwo_56 (fun n8 s9 => ?_)
        refine rr_aload_n (q := 58) rfl dX6_findsTwo_57 rfl ?_
        refine rr_iload_n (q := 59) rfl dX6_findsTwo_58 rfl ?_
        refine rr_cVi (q := 62) rfl V_X6_findsBehind ml_X6_214 ⟨Nat.le_of_ble_eq_true rfl, Nat.le_of_ble_eq_true rfl⟩ (e_X6_findsBehind y2 s9) w_M rfl rfl rfl rfl (Nat.le_of_ble_eq_true rfl) dX6_findsTwo_59 (fun v10 s11 => ?_)
        refine rr_istore (L2 := fun y12 => [some (.ref mb), some (.int l1), some (.int y2), some (.int y5), some (.int y12)]) (q := 64) rfl dX6_findsTwo_62 (Nat.le_of_ble_eq_true rfl) (fun _ => rfl) (fun y12 => ?_)
        refine rr_aload_n (q := 65) rfl dX6_findsTwo_64 rfl ?_
        refine rr_get (q := 68) rfl fl_X6_34 w_M rfl dX6_findsTwo_65 ?_
        refine rr_aload_n (q := 69) rfl dX6_findsTwo_68 rfl ?_
        refine rr_get (q := 72) rfl fl_X6_90 w_M rfl dX6_findsTwo_69 ?_
        refine rr_iconst 1 (q := 73) rfl dX6_findsTwo_72 rfl ?_
        refine rr_iadd (q := 74) rfl dX6_findsTwo_73 ?_
        refine rr_iload_n (q := 75) rfl dX6_findsTwo_74 rfl ?_
        refine rr_iadd (q := 76) rfl dX6_findsTwo_75 ?_
        refine rr_iload_n (q := 77) rfl dX6_findsTwo_76 rfl ?_
        refine rr_iast (q := 78) rfl w_marr9 (fun _ => u_marr9) dX6_findsTwo_77 (fun n13 s14 => ?_)
        refine rr_iload (q := 80) rfl dX6_findsTwo_78 rfl ?_
        refine rr_if_eq 90 (q := 83) rfl dX6_findsTwo_80 rfl (fun _ => ?_) (fun _ => ?_)
        · refine rr_mask [true, true, false, false, false] (L' := [some (.ref mb), some (.int l1), none, none, none]) rfl ?_
          exact e_X6_findsTwo_90 hk2 l1 s14
        · refine rr_aload_n (q := 84) rfl dX6_findsTwo_83 rfl ?_
          refine rr_iload_n (q := 85) rfl dX6_findsTwo_84 rfl ?_
          refine rr_puti (q := 88) rfl fl_X6_208 fp_X6_18 w_M (Nat.le_of_ble_eq_true rfl) u_M18 dX6_findsTwo_85 (fun s15 => ?_)
          refine rr_iconst 1 (q := 89) rfl dX6_findsTwo_88 rfl ?_
          exact rr_zret dX6_findsTwo_89 rfl (Or.inr rfl)
def fX6_findsTwo_2 : Nat → Int32 → SM → Option (Int32 × SM) := lp (fun _ _ => none) (fX6_findsTwo_2b)
theorem e_X6_findsTwo_2 {G : Cf} {x : SX}  (n : Nat) : ∀ (l1 : Int32) (s : SM), R (wfM x) inI G M_X6_findsTwo 2 [some (.ref mb), some (.int l1), none, none, none] [] s (fX6_findsTwo_2 n l1 s) := by
  unfold fX6_findsTwo_2
  exact rr_lp (P := fun (kz : Int32 → SM → Option (Int32 × SM)) => ∀ (l1 : Int32) (s : SM), R (wfM x) inI G M_X6_findsTwo 2 [some (.ref mb), some (.int l1), none, none, none] [] s (kz l1 s)) (fun _ _ => rr_none) (fun kz hkz => fun l1 s => e_X6_findsTwo_2b hkz l1 s) n
def fX6_findsTwo (s : SM) : Option (Int32 × SM) :=
  vl 0 fun y1 =>
  fX6_findsTwo_2 400 y1 s
set_option maxRecDepth 100000 in
set_option maxHeartbeats 4000000 in
theorem e_X6_findsTwo {G : Cf} {x : SX} (s : SM) : Ct (wfM x) inI G M_X6_findsTwo [.ref mb] s (fX6_findsTwo s) := by
  refine Ct.of (L0 := [some (.ref mb), none, none, none, none]) 4 rfl rfl ⟨rfl, rfl⟩ (Nat.le_of_ble_eq_true rfl) rfl ?_
  unfold fX6_findsTwo
  refine rr_iconst 0 (q := 1) rfl dX6_findsTwo_0 rfl ?_
  refine rr_istore_n (L2 := fun y1 => [some (.ref mb), some (.int y1), none, none, none]) (q := 2) rfl dX6_findsTwo_1 (Nat.le_of_ble_eq_true rfl) (fun _ => rfl) (fun y1 => ?_)
  exact e_X6_findsTwo_2 400 y1 s
def fX6_moves_55 (l1 : Int32) (t1 : Int32) (s : SM) : Option (Int32 × SM) :=
  vl (wM s 0 17 t1) fun s12 =>
  vl (wM s12 0 11 0) fun s13 =>
  (if (gM s13 0 17) = 3 then
  bd (fX6_finds (-1000000004) s13) fun v14 s15 =>
  some (v14, s15)
  else
  (if l1 ≤ (gM s13 0 17) then
  (if l1 = 0 then
  some (gM s13 0 17, s13)
  else
  (if l1 = 1 then
  some (gM s13 0 18, s13)
  else
  some (gM s13 0 19, s13)))
  else
  bd (fX6_finds (-1000000004) s13) fun v16 s17 =>
  some (v16, s17)))
set_option maxRecDepth 100000 in
set_option maxHeartbeats 4000000 in
theorem e_X6_moves_55 {G : Cf} {x : SX}  (l1 : Int32) (t1 : Int32) (s : SM) : R (wfM x) inI G M_X6_moves 55 [some (.ref mb), some (.int l1)] [.int t1, .ref mb] s (fX6_moves_55 l1 t1 s) := by
  unfold fX6_moves_55
  refine rr_puti (q := 58) rfl fl_X6_224 fp_X6_17 w_M (Nat.le_of_ble_eq_true rfl) u_M17 dX6_moves_55 (fun s12 => ?_)
  refine rr_aload_n (q := 59) rfl dX6_moves_58 rfl ?_
  refine rr_iconst 0 (q := 60) rfl dX6_moves_59 rfl ?_
  refine rr_puti (q := 63) rfl fl_X6_90 fp_X6_11 w_M (Nat.le_of_ble_eq_true rfl) u_M11 dX6_moves_60 (fun s13 => ?_)
  refine rr_aload_n (q := 64) rfl dX6_moves_63 rfl ?_
  refine rr_get (q := 67) rfl fl_X6_224 w_M rfl dX6_moves_64 ?_
  refine rr_iconst 3 (q := 68) rfl dX6_moves_67 rfl ?_
  refine rr_icmp_eq 79 (q := 71) rfl dX6_moves_68 rfl (fun _ => ?_) (fun _ => ?_)
  · refine rr_aload_n (q := 80) rfl dX6_moves_79 rfl ?_
    refine rr_ldc (q := 82) rfl dX6_moves_80 kc_X6_170 ?_
    refine rr_cVi (q := 85) rfl V_X6_finds ml_X6_125 ⟨Nat.le_of_ble_eq_true rfl, Nat.le_of_ble_eq_true rfl⟩ (e_X6_finds (-1000000004) s13) w_M rfl rfl rfl rfl (Nat.le_of_ble_eq_true rfl) dX6_moves_82 (fun v14 s15 => ?_)
    exact rr_iret dX6_moves_85 rfl
  · refine rr_iload_n (q := 72) rfl dX6_moves_71 rfl ?_
    refine rr_aload_n (q := 73) rfl dX6_moves_72 rfl ?_
    refine rr_get (q := 76) rfl fl_X6_224 w_M rfl dX6_moves_73 ?_
    refine rr_icmp_le 86 (q := 79) rfl dX6_moves_76 rfl (fun _ => ?_) (fun _ => ?_)
    · refine rr_iload_n (q := 87) rfl dX6_moves_86 rfl ?_
      refine rr_if_ne 97 (q := 90) rfl dX6_moves_87 rfl (fun _ => ?_) (fun _ => ?_)
      · refine rr_iload_n (q := 98) rfl dX6_moves_97 rfl ?_
        refine rr_iconst 1 (q := 99) rfl dX6_moves_98 rfl ?_
        refine rr_icmp_ne 109 (q := 102) rfl dX6_moves_99 rfl (fun _ => ?_) (fun _ => ?_)
        · refine rr_aload_n (q := 110) rfl dX6_moves_109 rfl ?_
          refine rr_get (q := 113) rfl fl_X6_211 w_M rfl dX6_moves_110 ?_
          exact rr_iret dX6_moves_113 rfl
        · refine rr_aload_n (q := 103) rfl dX6_moves_102 rfl ?_
          refine rr_get (q := 106) rfl fl_X6_208 w_M rfl dX6_moves_103 ?_
          refine rr_goto 113 dX6_moves_106 rfl ?_
          exact rr_iret dX6_moves_113 rfl
      · refine rr_aload_n (q := 91) rfl dX6_moves_90 rfl ?_
        refine rr_get (q := 94) rfl fl_X6_224 w_M rfl dX6_moves_91 ?_
        refine rr_goto 113 dX6_moves_94 rfl ?_
        exact rr_iret dX6_moves_113 rfl
    · refine rr_aload_n (q := 80) rfl dX6_moves_79 rfl ?_
      refine rr_ldc (q := 82) rfl dX6_moves_80 kc_X6_170 ?_
      refine rr_cVi (q := 85) rfl V_X6_finds ml_X6_125 ⟨Nat.le_of_ble_eq_true rfl, Nat.le_of_ble_eq_true rfl⟩ (e_X6_finds (-1000000004) s13) w_M rfl rfl rfl rfl (Nat.le_of_ble_eq_true rfl) dX6_moves_82 (fun v16 s17 => ?_)
      exact rr_iret dX6_moves_85 rfl
def fX6_moves (l1 : Int32) (s : SM) : Option (Int32 × SM) :=
  bd (fX6_in l1 0 2 s) fun v1 s2 =>
  (if v1 = 0 then
  bd (fX6_finds (-1000000001) s2) fun v10 s11 =>
  some (v10, s11)
  else
  bd (fX6_lends s2) fun _ s3 =>
  bd (fX6_looseSet s3) fun v4 s5 =>
  (if v4 = 0 then
  fX6_moves_55 l1 0 s5
  else
  bd (fX6_findsOne s5) fun v6 s7 =>
  (if v6 = 0 then
  bd (fX6_findsTwo s7) fun v8 s9 =>
  (if v8 = 0 then
  fX6_moves_55 l1 3 s9
  else
  fX6_moves_55 l1 2 s9)
  else
  fX6_moves_55 l1 1 s7)))
set_option maxRecDepth 100000 in
set_option maxHeartbeats 4000000 in
theorem e_X6_moves {G : Cf} {x : SX} (l1 : Int32) (s : SM) : Ct (wfM x) inI G M_X6_moves [.ref mb, .int l1] s (fX6_moves l1 s) := by
  refine Ct.of (L0 := [some (.ref mb), some (.int l1)]) 0 rfl rfl ⟨rfl, rfl⟩ (Nat.le_of_ble_eq_true rfl) rfl ?_
  unfold fX6_moves
  refine rr_iload_n (q := 1) rfl dX6_moves_0 rfl ?_
  refine rr_iconst 0 (q := 2) rfl dX6_moves_1 rfl ?_
  refine rr_iconst 2 (q := 3) rfl dX6_moves_2 rfl ?_
  refine rr_cSi (q := 6) rfl V_X6_in ml_X6_79 ⟨Nat.le_of_ble_eq_true rfl, Nat.le_of_ble_eq_true rfl⟩ (e_X6_in l1 0 2 s) rfl rfl (Nat.le_of_ble_eq_true rfl) dX6_moves_3 (fun v1 s2 => ?_)
  refine rr_if_ne 16 (q := 9) rfl dX6_moves_6 rfl (fun _ => ?_) (fun _ => ?_)
  · refine rr_aload_n (q := 17) rfl dX6_moves_16 rfl ?_
    refine rr_cVu (q := 20) rfl V_X6_lends ml_X6_190 ⟨Nat.le_of_ble_eq_true rfl, Nat.le_of_ble_eq_true rfl⟩ (e_X6_lends s2) w_M rfl rfl rfl rfl (Nat.le_of_ble_eq_true rfl) dX6_moves_17 (fun _ s3 => ?_)
    refine rr_aload_n (q := 21) rfl dX6_moves_20 rfl ?_
    refine rr_aload_n (q := 22) rfl dX6_moves_21 rfl ?_
    refine rr_cVi (q := 25) rfl V_X6_looseSet ml_X6_145 ⟨Nat.le_of_ble_eq_true rfl, Nat.le_of_ble_eq_true rfl⟩ (e_X6_looseSet s3) w_M rfl rfl rfl rfl (Nat.le_of_ble_eq_true rfl) dX6_moves_22 (fun v4 s5 => ?_)
    refine rr_if_ne 32 (q := 28) rfl dX6_moves_25 rfl (fun _ => ?_) (fun _ => ?_)
    · refine rr_aload_n (q := 33) rfl dX6_moves_32 rfl ?_
      refine rr_cVi (q := 36) rfl V_X6_findsOne ml_X6_217 ⟨Nat.le_of_ble_eq_true rfl, Nat.le_of_ble_eq_true rfl⟩ (e_X6_findsOne s5) w_M rfl rfl rfl rfl (Nat.le_of_ble_eq_true rfl) dX6_moves_33 (fun v6 s7 => ?_)
      refine rr_if_eq 43 (q := 39) rfl dX6_moves_36 rfl (fun _ => ?_) (fun _ => ?_)
      · refine rr_aload_n (q := 44) rfl dX6_moves_43 rfl ?_
        refine rr_cVi (q := 47) rfl V_X6_findsTwo ml_X6_221 ⟨Nat.le_of_ble_eq_true rfl, Nat.le_of_ble_eq_true rfl⟩ (e_X6_findsTwo s7) w_M rfl rfl rfl rfl (Nat.le_of_ble_eq_true rfl) dX6_moves_44 (fun v8 s9 => ?_)
        refine rr_if_eq 54 (q := 50) rfl dX6_moves_47 rfl (fun _ => ?_) (fun _ => ?_)
        · refine rr_iconst 3 (q := 55) rfl dX6_moves_54 rfl ?_
          exact e_X6_moves_55 l1 3 s9
        · refine rr_iconst 2 (q := 51) rfl dX6_moves_50 rfl ?_
          refine rr_goto 55 dX6_moves_51 rfl ?_
          exact e_X6_moves_55 l1 2 s9
      · refine rr_iconst 1 (q := 40) rfl dX6_moves_39 rfl ?_
        refine rr_goto 55 dX6_moves_40 rfl ?_
        exact e_X6_moves_55 l1 1 s7
    · refine rr_iconst 0 (q := 29) rfl dX6_moves_28 rfl ?_
      refine rr_goto 55 dX6_moves_29 rfl ?_
      exact e_X6_moves_55 l1 0 s5
  · refine rr_aload_n (q := 10) rfl dX6_moves_9 rfl ?_
    refine rr_ldc (q := 12) rfl dX6_moves_10 kc_X6_78 ?_
    refine rr_cVi (q := 15) rfl V_X6_finds ml_X6_125 ⟨Nat.le_of_ble_eq_true rfl, Nat.le_of_ble_eq_true rfl⟩ (e_X6_finds (-1000000001) s2) w_M rfl rfl rfl rfl (Nat.le_of_ble_eq_true rfl) dX6_moves_12 (fun v10 s11 => ?_)
    exact rr_iret dX6_moves_15 rfl
def fX6_looseWith (l1 : Int32) (l2 : Int32) (s : SM) : Option (Int32 × SM) :=
  bd (fX6_lends s) fun _ s1 =>
  ixg (((gM s1 0 11) + 1) + l1) 82 fun n2 => vl (wM s1 9 n2 l2) fun s3 =>
  bd (fX6_looseSet s3) fun v4 s5 =>
  vl v4 fun y6 =>
  vl (wM s5 0 11 0) fun s7 =>
  some (y6, s7)
set_option maxRecDepth 100000 in
set_option maxHeartbeats 4000000 in
theorem e_X6_looseWith {G : Cf} {x : SX} (l1 : Int32) (l2 : Int32) (s : SM) : Ct (wfM x) inI G M_X6_looseWith [.ref mb, .int l1, .int l2] s (fX6_looseWith l1 l2 s) := by
  refine Ct.of (L0 := [some (.ref mb), some (.int l1), some (.int l2), none]) 1 rfl rfl ⟨rfl, rfl⟩ (Nat.le_of_ble_eq_true rfl) rfl ?_
  unfold fX6_looseWith
  refine rr_aload_n (q := 1) rfl dX6_looseWith_0 rfl ?_
  refine rr_cVu (q := 4) rfl V_X6_lends ml_X6_190 ⟨Nat.le_of_ble_eq_true rfl, Nat.le_of_ble_eq_true rfl⟩ (e_X6_lends s) w_M rfl rfl rfl rfl (Nat.le_of_ble_eq_true rfl) dX6_looseWith_1 (fun _ s1 => ?_)
  refine rr_aload_n (q := 5) rfl dX6_looseWith_4 rfl ?_
  refine rr_get (q := 8) rfl fl_X6_34 w_M rfl dX6_looseWith_5 ?_
  refine rr_aload_n (q := 9) rfl dX6_looseWith_8 rfl ?_
  refine rr_get (q := 12) rfl fl_X6_90 w_M rfl dX6_looseWith_9 ?_
  refine rr_iconst 1 (q := 13) rfl dX6_looseWith_12 rfl ?_
  refine rr_iadd (q := 14) rfl dX6_looseWith_13 ?_
  refine rr_iload_n (q := 15) rfl dX6_looseWith_14 rfl ?_
  refine rr_iadd (q := 16) rfl dX6_looseWith_15 ?_
  refine rr_iload_n (q := 17) rfl dX6_looseWith_16 rfl ?_
  refine rr_iast (q := 18) rfl w_marr9 (fun _ => u_marr9) dX6_looseWith_17 (fun n2 s3 => ?_)
  refine rr_aload_n (q := 19) rfl dX6_looseWith_18 rfl ?_
  refine rr_cVi (q := 22) rfl V_X6_looseSet ml_X6_145 ⟨Nat.le_of_ble_eq_true rfl, Nat.le_of_ble_eq_true rfl⟩ (e_X6_looseSet s3) w_M rfl rfl rfl rfl (Nat.le_of_ble_eq_true rfl) dX6_looseWith_19 (fun v4 s5 => ?_)
  refine rr_istore_n (L2 := fun y6 => [some (.ref mb), some (.int l1), some (.int l2), some (.int y6)]) (q := 23) rfl dX6_looseWith_22 (Nat.le_of_ble_eq_true rfl) (fun _ => rfl) (fun y6 => ?_)
  refine rr_aload_n (q := 24) rfl dX6_looseWith_23 rfl ?_
  refine rr_iconst 0 (q := 25) rfl dX6_looseWith_24 rfl ?_
  refine rr_puti (q := 28) rfl fl_X6_90 fp_X6_11 w_M (Nat.le_of_ble_eq_true rfl) u_M11 dX6_looseWith_25 (fun s7 => ?_)
  refine rr_iload_n (q := 29) rfl dX6_looseWith_28 rfl ?_
  exact rr_iret dX6_looseWith_29 rfl
def fX6_best_82 (k38 : Int32 → Int32 → Int32 → Int32 → SM → Option (Int32 × SM)) (l1 : Int32) (l2 : Int32) (l4 : Int32) (t0 : Int32) (s : SM) : Option (Int32 × SM) :=
  vl t0 fun y18 =>
  vl (l4 + 1) fun y19 =>
  k38 l1 l2 y18 y19 s
set_option maxRecDepth 100000 in
set_option maxHeartbeats 4000000 in
theorem e_X6_best_82 {G : Cf} {x : SX} {k38 : Int32 → Int32 → Int32 → Int32 → SM → Option (Int32 × SM)} (hk38 : ∀ (l1 : Int32) (l2 : Int32) (l3 : Int32) (l4 : Int32) (s : SM), R (wfM x) inI G M_X6_best 38 [some (.ref mb), some (.int l1), some (.int l2), some (.int l3), some (.int l4), none] [] s (k38 l1 l2 l3 l4 s)) (l1 : Int32) (l2 : Int32) (l4 : Int32) (t0 : Int32) (s : SM) : R (wfM x) inI G M_X6_best 82 [some (.ref mb), some (.int l1), some (.int l2), none, some (.int l4), none] [.int t0] s (fX6_best_82 k38 l1 l2 l4 t0 s) := by
  unfold fX6_best_82
  refine rr_istore_n (L2 := fun y18 => [some (.ref mb), some (.int l1), some (.int l2), some (.int y18), some (.int l4), none]) (q := 83) rfl dX6_best_82 (Nat.le_of_ble_eq_true rfl) (fun _ => rfl) (fun y18 => ?_)
  refine rr_iinc (L2 := fun y19 => [some (.ref mb), some (.int l1), some (.int l2), some (.int y18), some (.int y19), none]) (q := 86) rfl dX6_best_83 rfl rfl (Nat.le_of_ble_eq_true rfl) (fun _ => rfl) (fun y19 => ?_)
  refine rr_goto 38 dX6_best_86 rfl ?_
  exact hk38 l1 l2 y18 y19 s
def fX6_best_69 (k38 : Int32 → Int32 → Int32 → Int32 → SM → Option (Int32 × SM)) (l1 : Int32) (l3 : Int32) (l4 : Int32) (l5 : Int32) (t0 : Int32) (s : SM) : Option (Int32 × SM) :=
  vl t0 fun y17 =>
  (if l3 ≤ l5 then
  fX6_best_82 k38 l1 y17 l4 l3 s
  else
  fX6_best_82 k38 l1 y17 l4 l5 s)
set_option maxRecDepth 100000 in
set_option maxHeartbeats 4000000 in
theorem e_X6_best_69 {G : Cf} {x : SX} {k38 : Int32 → Int32 → Int32 → Int32 → SM → Option (Int32 × SM)} (hk38 : ∀ (l1 : Int32) (l2 : Int32) (l3 : Int32) (l4 : Int32) (s : SM), R (wfM x) inI G M_X6_best 38 [some (.ref mb), some (.int l1), some (.int l2), some (.int l3), some (.int l4), none] [] s (k38 l1 l2 l3 l4 s)) (l1 : Int32) (l3 : Int32) (l4 : Int32) (l5 : Int32) (t0 : Int32) (s : SM) : R (wfM x) inI G M_X6_best 69 [some (.ref mb), some (.int l1), none, some (.int l3), some (.int l4), some (.int l5)] [.int t0] s (fX6_best_69 k38 l1 l3 l4 l5 t0 s) := by
  unfold fX6_best_69
  refine rr_istore_n (L2 := fun y17 => [some (.ref mb), some (.int l1), some (.int y17), some (.int l3), some (.int l4), some (.int l5)]) (q := 70) rfl dX6_best_69 (Nat.le_of_ble_eq_true rfl) (fun _ => rfl) (fun y17 => ?_)
  refine rr_iload (q := 72) rfl dX6_best_70 rfl ?_
  refine rr_iload_n (q := 73) rfl dX6_best_72 rfl ?_
  refine rr_icmp_ge 81 (q := 76) rfl dX6_best_73 rfl (fun _ => ?_) (fun _ => ?_)
  · refine rr_iload_n (q := 82) rfl dX6_best_81 rfl ?_
    refine rr_mask [true, true, true, false, true, false] (L' := [some (.ref mb), some (.int l1), some (.int y17), none, some (.int l4), none]) rfl ?_
    exact e_X6_best_82 hk38 l1 y17 l4 l3 s
  · refine rr_iload (q := 78) rfl dX6_best_76 rfl ?_
    refine rr_goto 82 dX6_best_78 rfl ?_
    refine rr_mask [true, true, true, false, true, false] (L' := [some (.ref mb), some (.int l1), some (.int y17), none, some (.int l4), none]) rfl ?_
    exact e_X6_best_82 hk38 l1 y17 l4 l5 s
def fX6_best_38b (k38 : Int32 → Int32 → Int32 → Int32 → SM → Option (Int32 × SM)) (l1 : Int32) (l2 : Int32) (l3 : Int32) (l4 : Int32) (s : SM) : Option (Int32 × SM) :=
  (if 6 ≤ l4 then
  some (l2, s)
  else
  bd (fX6_looseWith l1 l4 s) fun v12 s13 =>
  bd (fX6_ones v12 s13) fun v14 s15 =>
  vl v14 fun y16 =>
  (if l3 ≤ y16 then
  fX6_best_69 k38 l1 l3 l4 y16 l2 s15
  else
  fX6_best_69 k38 l1 l3 l4 y16 l4 s15))
set_option maxRecDepth 100000 in
set_option maxHeartbeats 4000000 in
theorem e_X6_best_38b {G : Cf} {x : SX} {k38 : Int32 → Int32 → Int32 → Int32 → SM → Option (Int32 × SM)} (hk38 : ∀ (l1 : Int32) (l2 : Int32) (l3 : Int32) (l4 : Int32) (s : SM), R (wfM x) inI G M_X6_best 38 [some (.ref mb), some (.int l1), some (.int l2), some (.int l3), some (.int l4), none] [] s (k38 l1 l2 l3 l4 s)) (l1 : Int32) (l2 : Int32) (l3 : Int32) (l4 : Int32) (s : SM) : R (wfM x) inI G M_X6_best 38 [some (.ref mb), some (.int l1), some (.int l2), some (.int l3), some (.int l4), none] [] s (fX6_best_38b k38 l1 l2 l3 l4 s) := by
  unfold fX6_best_38b
  refine rr_iload (q := 40) rfl dX6_best_38 rfl ?_
  refine rr_bipush 6 (q := 42) rfl dX6_best_40 rfl ?_
  refine rr_icmp_ge 89 (q := 45) rfl dX6_best_42 rfl (fun _ => ?_) (fun _ => ?_)
  · refine rr_iload_n (q := 90) rfl dX6_best_89 rfl ?_
    exact rr_iret dX6_best_90 rfl
  · refine rr_aload_n (q := 46) rfl dX6_best_45 rfl ?_
    refine rr_iload_n (q := 47) rfl dX6_best_46 rfl ?_
    refine rr_iload (q := 49) rfl dX6_best_47 rfl ?_
    refine rr_cVi (q := 52) rfl V_X6_looseWith ml_X6_227 ⟨Nat.le_of_ble_eq_true rfl, Nat.le_of_ble_eq_true rfl⟩ (e_X6_looseWith l1 l4 s) w_M rfl rfl rfl rfl (Nat.le_of_ble_eq_true rfl) dX6_best_49 (fun v12 s13 => ?_)
    refine rr_cSi (q := 55) rfl V_X6_ones ml_X6_149 ⟨Nat.le_of_ble_eq_true rfl, Nat.le_of_ble_eq_true rfl⟩ (e_X6_ones v12 s13) rfl rfl (Nat.le_of_ble_eq_true rfl) dX6_best_52 (fun v14 s15 => ?_)
    refine rr_istore (L2 := fun y16 => [some (.ref mb), some (.int l1), some (.int l2), some (.int l3), some (.int l4), some (.int y16)]) (q := 57) rfl dX6_best_55 (Nat.le_of_ble_eq_true rfl) (fun _ => rfl) (fun y16 => ?_)
    refine rr_iload (q := 59) rfl dX6_best_57 rfl ?_
    refine rr_iload_n (q := 60) rfl dX6_best_59 rfl ?_
    refine rr_icmp_ge 68 (q := 63) rfl dX6_best_60 rfl (fun _ => ?_) (fun _ => ?_)
    · refine rr_iload_n (q := 69) rfl dX6_best_68 rfl ?_
      refine rr_mask [true, true, false, true, true, true] (L' := [some (.ref mb), some (.int l1), none, some (.int l3), some (.int l4), some (.int y16)]) rfl ?_
      exact e_X6_best_69 hk38 l1 l3 l4 y16 l2 s15
    · refine rr_iload (q := 65) rfl dX6_best_63 rfl ?_
      refine rr_goto 69 dX6_best_65 rfl ?_
      refine rr_mask [true, true, false, true, true, true] (L' := [some (.ref mb), some (.int l1), none, some (.int l3), some (.int l4), some (.int y16)]) rfl ?_
      exact e_X6_best_69 hk38 l1 l3 l4 y16 l4 s15
def fX6_best_38 : Nat → Int32 → Int32 → Int32 → Int32 → SM → Option (Int32 × SM) := lp (fun _ _ _ _ _ => none) (fX6_best_38b)
theorem e_X6_best_38 {G : Cf} {x : SX}  (n : Nat) : ∀ (l1 : Int32) (l2 : Int32) (l3 : Int32) (l4 : Int32) (s : SM), R (wfM x) inI G M_X6_best 38 [some (.ref mb), some (.int l1), some (.int l2), some (.int l3), some (.int l4), none] [] s (fX6_best_38 n l1 l2 l3 l4 s) := by
  unfold fX6_best_38
  exact rr_lp (P := fun (kz : Int32 → Int32 → Int32 → Int32 → SM → Option (Int32 × SM)) => ∀ (l1 : Int32) (l2 : Int32) (l3 : Int32) (l4 : Int32) (s : SM), R (wfM x) inI G M_X6_best 38 [some (.ref mb), some (.int l1), some (.int l2), some (.int l3), some (.int l4), none] [] s (kz l1 l2 l3 l4 s)) (fun _ _ _ _ _ => rr_none) (fun kz hkz => fun l1 l2 l3 l4 s => e_X6_best_38b hkz l1 l2 l3 l4 s) n
def fX6_best (l1 : Int32) (s : SM) : Option (Int32 × SM) :=
  bd (fX6_isChild l1 s) fun v1 s2 =>
  (if v1 = 0 then
  bd (fX6_finds (-1000000001) s2) fun v10 s11 =>
  some (v10, s11)
  else
  bd (fX6_lives l1 s2) fun v3 s4 =>
  (if v3 = 0 then
  bd (fX6_finds (-1000000005) s4) fun v8 s9 =>
  some (v8, s9)
  else
  vl 0 fun y5 =>
  vl 13 fun y6 =>
  vl 0 fun y7 =>
  fX6_best_38 400 l1 y5 y6 y7 s4))
set_option maxRecDepth 100000 in
set_option maxHeartbeats 4000000 in
theorem e_X6_best {G : Cf} {x : SX} (l1 : Int32) (s : SM) : Ct (wfM x) inI G M_X6_best [.ref mb, .int l1] s (fX6_best l1 s) := by
  refine Ct.of (L0 := [some (.ref mb), some (.int l1), none, none, none, none]) 4 rfl rfl ⟨rfl, rfl⟩ (Nat.le_of_ble_eq_true rfl) rfl ?_
  unfold fX6_best
  refine rr_aload_n (q := 1) rfl dX6_best_0 rfl ?_
  refine rr_iload_n (q := 2) rfl dX6_best_1 rfl ?_
  refine rr_cVi (q := 5) rfl V_X6_isChild ml_X6_136 ⟨Nat.le_of_ble_eq_true rfl, Nat.le_of_ble_eq_true rfl⟩ (e_X6_isChild l1 s) w_M rfl rfl rfl rfl (Nat.le_of_ble_eq_true rfl) dX6_best_2 (fun v1 s2 => ?_)
  refine rr_if_ne 15 (q := 8) rfl dX6_best_5 rfl (fun _ => ?_) (fun _ => ?_)
  · refine rr_aload_n (q := 16) rfl dX6_best_15 rfl ?_
    refine rr_iload_n (q := 17) rfl dX6_best_16 rfl ?_
    refine rr_cVi (q := 20) rfl V_X6_lives ml_X6_97 ⟨Nat.le_of_ble_eq_true rfl, Nat.le_of_ble_eq_true rfl⟩ (e_X6_lives l1 s2) w_M rfl rfl rfl rfl (Nat.le_of_ble_eq_true rfl) dX6_best_17 (fun v3 s4 => ?_)
    refine rr_if_ne 30 (q := 23) rfl dX6_best_20 rfl (fun _ => ?_) (fun _ => ?_)
    · refine rr_iconst 0 (q := 31) rfl dX6_best_30 rfl ?_
      refine rr_istore_n (L2 := fun y5 => [some (.ref mb), some (.int l1), some (.int y5), none, none, none]) (q := 32) rfl dX6_best_31 (Nat.le_of_ble_eq_true rfl) (fun _ => rfl) (fun y5 => ?_)
      refine rr_bipush 13 (q := 34) rfl dX6_best_32 rfl ?_
      refine rr_istore_n (L2 := fun y6 => [some (.ref mb), some (.int l1), some (.int y5), some (.int y6), none, none]) (q := 35) rfl dX6_best_34 (Nat.le_of_ble_eq_true rfl) (fun _ => rfl) (fun y6 => ?_)
      refine rr_iconst 0 (q := 36) rfl dX6_best_35 rfl ?_
      refine rr_istore (L2 := fun y7 => [some (.ref mb), some (.int l1), some (.int y5), some (.int y6), some (.int y7), none]) (q := 38) rfl dX6_best_36 (Nat.le_of_ble_eq_true rfl) (fun _ => rfl) (fun y7 => ?_)
      exact e_X6_best_38 400 l1 y5 y6 y7 s4
    · refine rr_aload_n (q := 24) rfl dX6_best_23 rfl ?_
      refine rr_ldc (q := 26) rfl dX6_best_24 kc_X6_139 ?_
      refine rr_cVi (q := 29) rfl V_X6_finds ml_X6_125 ⟨Nat.le_of_ble_eq_true rfl, Nat.le_of_ble_eq_true rfl⟩ (e_X6_finds (-1000000005) s4) w_M rfl rfl rfl rfl (Nat.le_of_ble_eq_true rfl) dX6_best_26 (fun v8 s9 => ?_)
      exact rr_iret dX6_best_29 rfl
  · refine rr_aload_n (q := 9) rfl dX6_best_8 rfl ?_
    refine rr_ldc (q := 11) rfl dX6_best_9 kc_X6_78 ?_
    refine rr_cVi (q := 14) rfl V_X6_finds ml_X6_125 ⟨Nat.le_of_ble_eq_true rfl, Nat.le_of_ble_eq_true rfl⟩ (e_X6_finds (-1000000001) s2) w_M rfl rfl rfl rfl (Nat.le_of_ble_eq_true rfl) dX6_best_11 (fun v10 s11 => ?_)
    exact rr_iret dX6_best_14 rfl
def fX6_key_102 (k27 : Int32 → Int32 → Int32 → Int32 → Int32 → SM → Option (Int32 × SM)) (l1 : Int32) (l2 : Int32) (l3 : Int32) (l4 : Int32) (l5 : Int32) (s : SM) : Option (Int32 × SM) :=
  vl (l5 + 1) fun y21 =>
  k27 l1 l2 l3 l4 y21 s
set_option maxRecDepth 100000 in
set_option maxHeartbeats 4000000 in
theorem e_X6_key_102 {G : Cf} {x : SX} {k27 : Int32 → Int32 → Int32 → Int32 → Int32 → SM → Option (Int32 × SM)} (hk27 : ∀ (l1 : Int32) (l2 : Int32) (l3 : Int32) (l4 : Int32) (l5 : Int32) (s : SM), R (wfM x) inI G M_X6_key 27 [some (.ref mb), some (.int l1), some (.int l2), some (.int l3), some (.int l4), some (.int l5), none] [] s (k27 l1 l2 l3 l4 l5 s)) (l1 : Int32) (l2 : Int32) (l3 : Int32) (l4 : Int32) (l5 : Int32) (s : SM) : R (wfM x) inI G M_X6_key 102 [some (.ref mb), some (.int l1), some (.int l2), some (.int l3), some (.int l4), some (.int l5), none] [] s (fX6_key_102 k27 l1 l2 l3 l4 l5 s) := by
  unfold fX6_key_102
  refine rr_iinc (L2 := fun y21 => [some (.ref mb), some (.int l1), some (.int l2), some (.int l3), some (.int l4), some (.int y21), none]) (q := 105) rfl dX6_key_102 rfl rfl (Nat.le_of_ble_eq_true rfl) (fun _ => rfl) (fun y21 => ?_)
  refine rr_goto 27 dX6_key_105 rfl ?_
  exact hk27 l1 l2 l3 l4 y21 s
def fX6_key_100 (k27 : Int32 → Int32 → Int32 → Int32 → Int32 → SM → Option (Int32 × SM)) (l1 : Int32) (l2 : Int32) (l3 : Int32) (l5 : Int32) (t0 : Int32) (s : SM) : Option (Int32 × SM) :=
  vl t0 fun y23 =>
  fX6_key_102 k27 l1 l2 l3 y23 l5 s
set_option maxRecDepth 100000 in
set_option maxHeartbeats 4000000 in
theorem e_X6_key_100 {G : Cf} {x : SX} {k27 : Int32 → Int32 → Int32 → Int32 → Int32 → SM → Option (Int32 × SM)} (hk27 : ∀ (l1 : Int32) (l2 : Int32) (l3 : Int32) (l4 : Int32) (l5 : Int32) (s : SM), R (wfM x) inI G M_X6_key 27 [some (.ref mb), some (.int l1), some (.int l2), some (.int l3), some (.int l4), some (.int l5), none] [] s (k27 l1 l2 l3 l4 l5 s)) (l1 : Int32) (l2 : Int32) (l3 : Int32) (l5 : Int32) (t0 : Int32) (s : SM) : R (wfM x) inI G M_X6_key 100 [some (.ref mb), some (.int l1), some (.int l2), some (.int l3), none, some (.int l5), none] [.int t0] s (fX6_key_100 k27 l1 l2 l3 l5 t0 s) := by
  unfold fX6_key_100
  refine rr_istore (L2 := fun y23 => [some (.ref mb), some (.int l1), some (.int l2), some (.int l3), some (.int y23), some (.int l5), none]) (q := 102) rfl dX6_key_100 (Nat.le_of_ble_eq_true rfl) (fun _ => rfl) (fun y23 => ?_)
  exact e_X6_key_102 hk27 l1 l2 l3 y23 l5 s
def fX6_key_85 (k27 : Int32 → Int32 → Int32 → Int32 → Int32 → SM → Option (Int32 × SM)) (l1 : Int32) (l2 : Int32) (l4 : Int32) (l5 : Int32) (l6 : Int32) (t0 : Int32) (s : SM) : Option (Int32 × SM) :=
  vl t0 fun y22 =>
  (if l6 ≤ l4 then
  fX6_key_100 k27 l1 l2 y22 l5 l4 s
  else
  fX6_key_100 k27 l1 l2 y22 l5 l6 s)
set_option maxRecDepth 100000 in
set_option maxHeartbeats 4000000 in
theorem e_X6_key_85 {G : Cf} {x : SX} {k27 : Int32 → Int32 → Int32 → Int32 → Int32 → SM → Option (Int32 × SM)} (hk27 : ∀ (l1 : Int32) (l2 : Int32) (l3 : Int32) (l4 : Int32) (l5 : Int32) (s : SM), R (wfM x) inI G M_X6_key 27 [some (.ref mb), some (.int l1), some (.int l2), some (.int l3), some (.int l4), some (.int l5), none] [] s (k27 l1 l2 l3 l4 l5 s)) (l1 : Int32) (l2 : Int32) (l4 : Int32) (l5 : Int32) (l6 : Int32) (t0 : Int32) (s : SM) : R (wfM x) inI G M_X6_key 85 [some (.ref mb), some (.int l1), some (.int l2), none, some (.int l4), some (.int l5), some (.int l6)] [.int t0] s (fX6_key_85 k27 l1 l2 l4 l5 l6 t0 s) := by
  unfold fX6_key_85
  refine rr_istore_n (L2 := fun y22 => [some (.ref mb), some (.int l1), some (.int l2), some (.int y22), some (.int l4), some (.int l5), some (.int l6)]) (q := 86) rfl dX6_key_85 (Nat.le_of_ble_eq_true rfl) (fun _ => rfl) (fun y22 => ?_)
  refine rr_iload (q := 88) rfl dX6_key_86 rfl ?_
  refine rr_iload (q := 90) rfl dX6_key_88 rfl ?_
  refine rr_icmp_le 98 (q := 93) rfl dX6_key_90 rfl (fun _ => ?_) (fun _ => ?_)
  · refine rr_iload (q := 100) rfl dX6_key_98 rfl ?_
    refine rr_mask [true, true, true, true, false, true, false] (L' := [some (.ref mb), some (.int l1), some (.int l2), some (.int y22), none, some (.int l5), none]) rfl ?_
    exact e_X6_key_100 hk27 l1 l2 y22 l5 l4 s
  · refine rr_iload (q := 95) rfl dX6_key_93 rfl ?_
    refine rr_goto 100 dX6_key_95 rfl ?_
    refine rr_mask [true, true, true, true, false, true, false] (L' := [some (.ref mb), some (.int l1), some (.int l2), some (.int y22), none, some (.int l5), none]) rfl ?_
    exact e_X6_key_100 hk27 l1 l2 y22 l5 l6 s
def fX6_key_27b (k27 : Int32 → Int32 → Int32 → Int32 → Int32 → SM → Option (Int32 × SM)) (l1 : Int32) (l2 : Int32) (l3 : Int32) (l4 : Int32) (l5 : Int32) (s : SM) : Option (Int32 × SM) :=
  (if (gM s 0 1) ≤ l5 then
  (if 0 ≤ l3 then
  some (l3, s)
  else
  bd (fX6_finds (-1000000004) s) fun v11 s12 =>
  some (v11, s12))
  else
  ixg l5 14 fun n13 =>
  (if (gM s 3 n13) = l1 then
  bd (fX6_lives l5 s) fun v14 s15 =>
  (if v14 = 0 then
  fX6_key_102 k27 l1 l2 l3 l4 l5 s15
  else
  bd (fX6_looseWith l5 l1 s15) fun v16 s17 =>
  bd (fX6_ones (v16 &&& (l2 ^^^ (-1))) s17) fun v18 s19 =>
  vl v18 fun y20 =>
  (if y20 ≤ l4 then
  fX6_key_85 k27 l1 l2 l4 l5 y20 l3 s19
  else
  fX6_key_85 k27 l1 l2 l4 l5 y20 l5 s19))
  else
  fX6_key_102 k27 l1 l2 l3 l4 l5 s))
set_option maxRecDepth 100000 in
set_option maxHeartbeats 4000000 in
theorem e_X6_key_27b {G : Cf} {x : SX} {k27 : Int32 → Int32 → Int32 → Int32 → Int32 → SM → Option (Int32 × SM)} (hk27 : ∀ (l1 : Int32) (l2 : Int32) (l3 : Int32) (l4 : Int32) (l5 : Int32) (s : SM), R (wfM x) inI G M_X6_key 27 [some (.ref mb), some (.int l1), some (.int l2), some (.int l3), some (.int l4), some (.int l5), none] [] s (k27 l1 l2 l3 l4 l5 s)) (l1 : Int32) (l2 : Int32) (l3 : Int32) (l4 : Int32) (l5 : Int32) (s : SM) : R (wfM x) inI G M_X6_key 27 [some (.ref mb), some (.int l1), some (.int l2), some (.int l3), some (.int l4), some (.int l5), none] [] s (fX6_key_27b k27 l1 l2 l3 l4 l5 s) := by
  unfold fX6_key_27b
  refine rr_iload (q := 29) rfl dX6_key_27 rfl ?_
  refine rr_aload_n (q := 30) rfl dX6_key_29 rfl ?_
  refine rr_get (q := 33) rfl fl_X6_83 w_M rfl dX6_key_30 ?_
  refine rr_icmp_ge 108 (q := 36) rfl dX6_key_33 rfl (fun _ => ?_) (fun _ => ?_)
  · refine rr_iload_n (q := 109) rfl dX6_key_108 rfl ?_
    refine rr_if_ge 121 (q := 112) rfl dX6_key_109 rfl (fun _ => ?_) (fun _ => ?_)
    · refine rr_iload_n (q := 122) rfl dX6_key_121 rfl ?_
      exact rr_iret dX6_key_122 rfl
    · refine rr_aload_n (q := 113) rfl dX6_key_112 rfl ?_
      refine rr_ldc (q := 115) rfl dX6_key_113 kc_X6_170 ?_
      refine rr_cVi (q := 118) rfl V_X6_finds ml_X6_125 ⟨Nat.le_of_ble_eq_true rfl, Nat.le_of_ble_eq_true rfl⟩ (e_X6_finds (-1000000004) s) w_M rfl rfl rfl rfl (Nat.le_of_ble_eq_true rfl) dX6_key_115 (fun v11 s12 => ?_)
      refine rr_goto 122 dX6_key_118 rfl ?_
      exact rr_iret dX6_key_122 rfl
  · refine rr_aload_n (q := 37) rfl dX6_key_36 rfl ?_
    refine rr_get (q := 40) rfl fl_X6_16 w_M rfl dX6_key_37 ?_
    refine rr_iload (q := 42) rfl dX6_key_40 rfl ?_
    refine rr_iald (q := 43) rfl w_marr3 dX6_key_42 (fun n13 => ?_)
    refine rr_iload_n (q := 44) rfl dX6_key_43 rfl ?_
    refine rr_icmp_ne 102 (q := 47) rfl dX6_key_44 rfl (fun _ => ?_) (fun _ => ?_)
    · exact e_X6_key_102 hk27 l1 l2 l3 l4 l5 s
    · refine rr_aload_n (q := 48) rfl dX6_key_47 rfl ?_
      refine rr_iload (q := 50) rfl dX6_key_48 rfl ?_
      refine rr_cVi (q := 53) rfl V_X6_lives ml_X6_97 ⟨Nat.le_of_ble_eq_true rfl, Nat.le_of_ble_eq_true rfl⟩ (e_X6_lives l5 s) w_M rfl rfl rfl rfl (Nat.le_of_ble_eq_true rfl) dX6_key_50 (fun v14 s15 => ?_)
      refine rr_if_eq 102 (q := 56) rfl dX6_key_53 rfl (fun _ => ?_) (fun _ => ?_)
      · exact e_X6_key_102 hk27 l1 l2 l3 l4 l5 s15
      · refine rr_aload_n (q := 57) rfl dX6_key_56 rfl ?_
        refine rr_iload (q := 59) rfl dX6_key_57 rfl ?_
        refine rr_iload_n (q := 60) rfl dX6_key_59 rfl ?_
        refine rr_cVi (q := 63) rfl V_X6_looseWith ml_X6_227 ⟨Nat.le_of_ble_eq_true rfl, Nat.le_of_ble_eq_true rfl⟩ (e_X6_looseWith l5 l1 s15) w_M rfl rfl rfl rfl (Nat.le_of_ble_eq_true rfl) dX6_key_60 (fun v16 s17 => ?_)
        refine rr_iload_n (q := 64) rfl dX6_key_63 rfl ?_
        refine rr_iconst (-1) (q := 65) rfl dX6_key_64 rfl ?_
        refine rr_ixor (q := 66) rfl dX6_key_65 ?_
        refine rr_iand (q := 67) rfl dX6_key_66 ?_
        refine rr_cSi (q := 70) rfl V_X6_ones ml_X6_149 ⟨Nat.le_of_ble_eq_true rfl, Nat.le_of_ble_eq_true rfl⟩ (e_X6_ones (v16 &&& (l2 ^^^ (-1))) s17) rfl rfl (Nat.le_of_ble_eq_true rfl) dX6_key_67 (fun v18 s19 => ?_)
        refine rr_istore (L2 := fun y20 => [some (.ref mb), some (.int l1), some (.int l2), some (.int l3), some (.int l4), some (.int l5), some (.int y20)]) (q := 72) rfl dX6_key_70 (Nat.le_of_ble_eq_true rfl) (fun _ => rfl) (fun y20 => ?_)
        refine rr_iload (q := 74) rfl dX6_key_72 rfl ?_
        refine rr_iload (q := 76) rfl dX6_key_74 rfl ?_
        refine rr_icmp_le 84 (q := 79) rfl dX6_key_76 rfl (fun _ => ?_) (fun _ => ?_)
        · refine rr_iload_n (q := 85) rfl dX6_key_84 rfl ?_
          refine rr_mask [true, true, true, false, true, true, true] (L' := [some (.ref mb), some (.int l1), some (.int l2), none, some (.int l4), some (.int l5), some (.int y20)]) rfl ?_
          exact e_X6_key_85 hk27 l1 l2 l4 l5 y20 l3 s19
        · refine rr_iload (q := 81) rfl dX6_key_79 rfl ?_
          refine rr_goto 85 dX6_key_81 rfl ?_
          refine rr_mask [true, true, true, false, true, true, true] (L' := [some (.ref mb), some (.int l1), some (.int l2), none, some (.int l4), some (.int l5), some (.int y20)]) rfl ?_
          exact e_X6_key_85 hk27 l1 l2 l4 l5 y20 l5 s19
def fX6_key_27 : Nat → Int32 → Int32 → Int32 → Int32 → Int32 → SM → Option (Int32 × SM) := lp (fun _ _ _ _ _ _ => none) (fX6_key_27b)
theorem e_X6_key_27 {G : Cf} {x : SX}  (n : Nat) : ∀ (l1 : Int32) (l2 : Int32) (l3 : Int32) (l4 : Int32) (l5 : Int32) (s : SM), R (wfM x) inI G M_X6_key 27 [some (.ref mb), some (.int l1), some (.int l2), some (.int l3), some (.int l4), some (.int l5), none] [] s (fX6_key_27 n l1 l2 l3 l4 l5 s) := by
  unfold fX6_key_27
  exact rr_lp (P := fun (kz : Int32 → Int32 → Int32 → Int32 → Int32 → SM → Option (Int32 × SM)) => ∀ (l1 : Int32) (l2 : Int32) (l3 : Int32) (l4 : Int32) (l5 : Int32) (s : SM), R (wfM x) inI G M_X6_key 27 [some (.ref mb), some (.int l1), some (.int l2), some (.int l3), some (.int l4), some (.int l5), none] [] s (kz l1 l2 l3 l4 l5 s)) (fun _ _ _ _ _ _ => rr_none) (fun kz hkz => fun l1 l2 l3 l4 l5 s => e_X6_key_27b hkz l1 l2 l3 l4 l5 s) n
def fX6_key (l1 : Int32) (s : SM) : Option (Int32 × SM) :=
  bd (fX6_isKing l1 s) fun v1 s2 =>
  (if v1 = 0 then
  bd (fX6_finds (-1000000001) s2) fun v9 s10 =>
  some (v9, s10)
  else
  bd (fX6_looseSet s2) fun v3 s4 =>
  vl v3 fun y5 =>
  vl (-1) fun y6 =>
  vl 0 fun y7 =>
  vl 0 fun y8 =>
  fX6_key_27 400 l1 y5 y6 y7 y8 s4)
set_option maxRecDepth 100000 in
set_option maxHeartbeats 4000000 in
theorem e_X6_key {G : Cf} {x : SX} (l1 : Int32) (s : SM) : Ct (wfM x) inI G M_X6_key [.ref mb, .int l1] s (fX6_key l1 s) := by
  refine Ct.of (L0 := [some (.ref mb), some (.int l1), none, none, none, none, none]) 5 rfl rfl ⟨rfl, rfl⟩ (Nat.le_of_ble_eq_true rfl) rfl ?_
  unfold fX6_key
  refine rr_iload_n (q := 1) rfl dX6_key_0 rfl ?_
  refine rr_cSi (q := 4) rfl V_X6_isKing ml_X6_119 ⟨Nat.le_of_ble_eq_true rfl, Nat.le_of_ble_eq_true rfl⟩ (e_X6_isKing l1 s) rfl rfl (Nat.le_of_ble_eq_true rfl) dX6_key_1 (fun v1 s2 => ?_)
  refine rr_if_ne 14 (q := 7) rfl dX6_key_4 rfl (fun _ => ?_) (fun _ => ?_)
  · refine rr_aload_n (q := 15) rfl dX6_key_14 rfl ?_
    refine rr_cVi (q := 18) rfl V_X6_looseSet ml_X6_145 ⟨Nat.le_of_ble_eq_true rfl, Nat.le_of_ble_eq_true rfl⟩ (e_X6_looseSet s2) w_M rfl rfl rfl rfl (Nat.le_of_ble_eq_true rfl) dX6_key_15 (fun v3 s4 => ?_)
    refine rr_istore_n (L2 := fun y5 => [some (.ref mb), some (.int l1), some (.int y5), none, none, none, none]) (q := 19) rfl dX6_key_18 (Nat.le_of_ble_eq_true rfl) (fun _ => rfl) (fun y5 => ?_)
    refine rr_iconst (-1) (q := 20) rfl dX6_key_19 rfl ?_
    refine rr_istore_n (L2 := fun y6 => [some (.ref mb), some (.int l1), some (.int y5), some (.int y6), none, none, none]) (q := 21) rfl dX6_key_20 (Nat.le_of_ble_eq_true rfl) (fun _ => rfl) (fun y6 => ?_)
    refine rr_iconst 0 (q := 22) rfl dX6_key_21 rfl ?_
    refine rr_istore (L2 := fun y7 => [some (.ref mb), some (.int l1), some (.int y5), some (.int y6), some (.int y7), none, none]) (q := 24) rfl dX6_key_22 (Nat.le_of_ble_eq_true rfl) (fun _ => rfl) (fun y7 => ?_)
    refine rr_iconst 0 (q := 25) rfl dX6_key_24 rfl ?_
    refine rr_istore (L2 := fun y8 => [some (.ref mb), some (.int l1), some (.int y5), some (.int y6), some (.int y7), some (.int y8), none]) (q := 27) rfl dX6_key_25 (Nat.le_of_ble_eq_true rfl) (fun _ => rfl) (fun y8 => ?_)
    exact e_X6_key_27 400 l1 y5 y6 y7 y8 s4
  · refine rr_aload_n (q := 8) rfl dX6_key_7 rfl ?_
    refine rr_ldc (q := 10) rfl dX6_key_8 kc_X6_78 ?_
    refine rr_cVi (q := 13) rfl V_X6_finds ml_X6_125 ⟨Nat.le_of_ble_eq_true rfl, Nat.le_of_ble_eq_true rfl⟩ (e_X6_finds (-1000000001) s2) w_M rfl rfl rfl rfl (Nat.le_of_ble_eq_true rfl) dX6_key_10 (fun v9 s10 => ?_)
    exact rr_iret dX6_key_13 rfl
def fX6_toFree_69 (k20 : Int32 → Int32 → Int32 → Int32 → SM → Option (Int32 × SM)) (l1 : Int32) (l2 : Int32) (l4 : Int32) (t0 : Int32) (s : SM) : Option (Int32 × SM) :=
  vl t0 fun y13 =>
  vl (l4 + 1) fun y14 =>
  k20 l1 l2 y13 y14 s
set_option maxRecDepth 100000 in
set_option maxHeartbeats 4000000 in
theorem e_X6_toFree_69 {G : Cf} {x : SX} {k20 : Int32 → Int32 → Int32 → Int32 → SM → Option (Int32 × SM)} (hk20 : ∀ (l1 : Int32) (l2 : Int32) (l3 : Int32) (l4 : Int32) (s : SM), R (wfM x) inI G M_X6_toFree 20 [some (.ref mb), some (.int l1), some (.int l2), some (.int l3), some (.int l4)] [] s (k20 l1 l2 l3 l4 s)) (l1 : Int32) (l2 : Int32) (l4 : Int32) (t0 : Int32) (s : SM) : R (wfM x) inI G M_X6_toFree 69 [some (.ref mb), some (.int l1), some (.int l2), none, some (.int l4)] [.int t0] s (fX6_toFree_69 k20 l1 l2 l4 t0 s) := by
  unfold fX6_toFree_69
  refine rr_istore_n (L2 := fun y13 => [some (.ref mb), some (.int l1), some (.int l2), some (.int y13), some (.int l4)]) (q := 70) rfl dX6_toFree_69 (Nat.le_of_ble_eq_true rfl) (fun _ => rfl) (fun y13 => ?_)
  refine rr_iinc (L2 := fun y14 => [some (.ref mb), some (.int l1), some (.int l2), some (.int y13), some (.int y14)]) (q := 73) rfl dX6_toFree_70 rfl rfl (Nat.le_of_ble_eq_true rfl) (fun _ => rfl) (fun y14 => ?_)
  refine rr_goto 20 dX6_toFree_73 rfl ?_
  exact hk20 l1 l2 y13 y14 s
def fX6_toFree_64 (k20 : Int32 → Int32 → Int32 → Int32 → SM → Option (Int32 × SM)) (l1 : Int32) (l2 : Int32) (l4 : Int32) (s : SM) : Option (Int32 × SM) :=
  fX6_toFree_69 k20 l1 l2 l4 1 s
set_option maxRecDepth 100000 in
set_option maxHeartbeats 4000000 in
theorem e_X6_toFree_64 {G : Cf} {x : SX} {k20 : Int32 → Int32 → Int32 → Int32 → SM → Option (Int32 × SM)} (hk20 : ∀ (l1 : Int32) (l2 : Int32) (l3 : Int32) (l4 : Int32) (s : SM), R (wfM x) inI G M_X6_toFree 20 [some (.ref mb), some (.int l1), some (.int l2), some (.int l3), some (.int l4)] [] s (k20 l1 l2 l3 l4 s)) (l1 : Int32) (l2 : Int32) (l4 : Int32) (s : SM) : R (wfM x) inI G M_X6_toFree 64 [some (.ref mb), some (.int l1), some (.int l2), none, some (.int l4)] [] s (fX6_toFree_64 k20 l1 l2 l4 s) := by
  unfold fX6_toFree_64
  refine rr_iconst 1 (q := 65) rfl dX6_toFree_64 rfl ?_
  refine rr_goto 69 dX6_toFree_65 rfl ?_
  exact e_X6_toFree_69 hk20 l1 l2 l4 1 s
def fX6_toFree_68 (k20 : Int32 → Int32 → Int32 → Int32 → SM → Option (Int32 × SM)) (l1 : Int32) (l2 : Int32) (l4 : Int32) (s : SM) : Option (Int32 × SM) :=
  fX6_toFree_69 k20 l1 l2 l4 0 s
set_option maxRecDepth 100000 in
set_option maxHeartbeats 4000000 in
theorem e_X6_toFree_68 {G : Cf} {x : SX} {k20 : Int32 → Int32 → Int32 → Int32 → SM → Option (Int32 × SM)} (hk20 : ∀ (l1 : Int32) (l2 : Int32) (l3 : Int32) (l4 : Int32) (s : SM), R (wfM x) inI G M_X6_toFree 20 [some (.ref mb), some (.int l1), some (.int l2), some (.int l3), some (.int l4)] [] s (k20 l1 l2 l3 l4 s)) (l1 : Int32) (l2 : Int32) (l4 : Int32) (s : SM) : R (wfM x) inI G M_X6_toFree 68 [some (.ref mb), some (.int l1), some (.int l2), none, some (.int l4)] [] s (fX6_toFree_68 k20 l1 l2 l4 s) := by
  unfold fX6_toFree_68
  refine rr_iconst 0 (q := 69) rfl dX6_toFree_68 rfl ?_
  exact e_X6_toFree_69 hk20 l1 l2 l4 0 s
def fX6_toFree_20b (k20 : Int32 → Int32 → Int32 → Int32 → SM → Option (Int32 × SM)) (l1 : Int32) (l2 : Int32) (l3 : Int32) (l4 : Int32) (s : SM) : Option (Int32 × SM) :=
  (if (gM s 0 5) ≤ l4 then
  (if l3 = 0 then
  some (0, s)
  else
  bd (fX6_held l2 l1 s) fun v7 s8 =>
  some (v7, s8))
  else
  (if l3 = 0 then
  ixg l4 12 fun n9 =>
  (if (gM s 5 n9) = l1 then
  ixg l4 12 fun n10 =>
  (if (gM s 6 n10) = l2 then
  bd (fX6_isInForce l4 s) fun v11 s12 =>
  (if v11 = 0 then
  fX6_toFree_68 k20 l1 l2 l4 s12
  else
  fX6_toFree_64 k20 l1 l2 l4 s12)
  else
  fX6_toFree_68 k20 l1 l2 l4 s)
  else
  fX6_toFree_68 k20 l1 l2 l4 s)
  else
  fX6_toFree_64 k20 l1 l2 l4 s))
set_option maxRecDepth 100000 in
set_option maxHeartbeats 4000000 in
theorem e_X6_toFree_20b {G : Cf} {x : SX} {k20 : Int32 → Int32 → Int32 → Int32 → SM → Option (Int32 × SM)} (hk20 : ∀ (l1 : Int32) (l2 : Int32) (l3 : Int32) (l4 : Int32) (s : SM), R (wfM x) inI G M_X6_toFree 20 [some (.ref mb), some (.int l1), some (.int l2), some (.int l3), some (.int l4)] [] s (k20 l1 l2 l3 l4 s)) (l1 : Int32) (l2 : Int32) (l3 : Int32) (l4 : Int32) (s : SM) : R (wfM x) inI G M_X6_toFree 20 [some (.ref mb), some (.int l1), some (.int l2), some (.int l3), some (.int l4)] [] s (fX6_toFree_20b k20 l1 l2 l3 l4 s) := by
  unfold fX6_toFree_20b
  refine rr_iload (q := 22) rfl dX6_toFree_20 rfl ?_
  refine rr_aload_n (q := 23) rfl dX6_toFree_22 rfl ?_
  refine rr_get (q := 26) rfl fl_X6_87 w_M rfl dX6_toFree_23 ?_
  refine rr_icmp_ge 76 (q := 29) rfl dX6_toFree_26 rfl (fun _ => ?_) (fun _ => ?_)
  · refine rr_iload_n (q := 77) rfl dX6_toFree_76 rfl ?_
    refine rr_if_eq 89 (q := 80) rfl dX6_toFree_77 rfl (fun _ => ?_) (fun _ => ?_)
    · refine rr_iconst 0 (q := 90) rfl dX6_toFree_89 rfl ?_
      exact rr_iret dX6_toFree_90 rfl
    · refine rr_aload_n (q := 81) rfl dX6_toFree_80 rfl ?_
      refine rr_iload_n (q := 82) rfl dX6_toFree_81 rfl ?_
      refine rr_iload_n (q := 83) rfl dX6_toFree_82 rfl ?_
      refine rr_cVi (q := 86) rfl V_X6_held ml_X6_231 ⟨Nat.le_of_ble_eq_true rfl, Nat.le_of_ble_eq_true rfl⟩ (e_X6_held l2 l1 s) w_M rfl rfl rfl rfl (Nat.le_of_ble_eq_true rfl) dX6_toFree_83 (fun v7 s8 => ?_)
      refine rr_goto 90 dX6_toFree_86 rfl ?_
      exact rr_iret dX6_toFree_90 rfl
  · refine rr_iload_n (q := 30) rfl dX6_toFree_29 rfl ?_
    refine rr_if_ne 64 (q := 33) rfl dX6_toFree_30 rfl (fun _ => ?_) (fun _ => ?_)
    · refine rr_mask [true, true, true, false, true] (L' := [some (.ref mb), some (.int l1), some (.int l2), none, some (.int l4)]) rfl ?_
      exact e_X6_toFree_64 hk20 l1 l2 l4 s
    · refine rr_aload_n (q := 34) rfl dX6_toFree_33 rfl ?_
      refine rr_get (q := 37) rfl fl_X6_22 w_M rfl dX6_toFree_34 ?_
      refine rr_iload (q := 39) rfl dX6_toFree_37 rfl ?_
      refine rr_iald (q := 40) rfl w_marr5 dX6_toFree_39 (fun n9 => ?_)
      refine rr_iload_n (q := 41) rfl dX6_toFree_40 rfl ?_
      refine rr_icmp_ne 68 (q := 44) rfl dX6_toFree_41 rfl (fun _ => ?_) (fun _ => ?_)
      · refine rr_mask [true, true, true, false, true] (L' := [some (.ref mb), some (.int l1), some (.int l2), none, some (.int l4)]) rfl ?_
        exact e_X6_toFree_68 hk20 l1 l2 l4 s
      · refine rr_aload_n (q := 45) rfl dX6_toFree_44 rfl ?_
        refine rr_get (q := 48) rfl fl_X6_25 w_M rfl dX6_toFree_45 ?_
        refine rr_iload (q := 50) rfl dX6_toFree_48 rfl ?_
        refine rr_iald (q := 51) rfl w_marr6 dX6_toFree_50 (fun n10 => ?_)
        refine rr_iload_n (q := 52) rfl dX6_toFree_51 rfl ?_
        refine rr_icmp_ne 68 (q := 55) rfl dX6_toFree_52 rfl (fun _ => ?_) (fun _ => ?_)
        · refine rr_mask [true, true, true, false, true] (L' := [some (.ref mb), some (.int l1), some (.int l2), none, some (.int l4)]) rfl ?_
          exact e_X6_toFree_68 hk20 l1 l2 l4 s
        · refine rr_aload_n (q := 56) rfl dX6_toFree_55 rfl ?_
          refine rr_iload (q := 58) rfl dX6_toFree_56 rfl ?_
          refine rr_cVi (q := 61) rfl V_X6_isInForce ml_X6_113 ⟨Nat.le_of_ble_eq_true rfl, Nat.le_of_ble_eq_true rfl⟩ (e_X6_isInForce l4 s) w_M rfl rfl rfl rfl (Nat.le_of_ble_eq_true rfl) dX6_toFree_58 (fun v11 s12 => ?_)
          refine rr_if_eq 68 (q := 64) rfl dX6_toFree_61 rfl (fun _ => ?_) (fun _ => ?_)
          · refine rr_mask [true, true, true, false, true] (L' := [some (.ref mb), some (.int l1), some (.int l2), none, some (.int l4)]) rfl ?_
            exact e_X6_toFree_68 hk20 l1 l2 l4 s12
          · refine rr_mask [true, true, true, false, true] (L' := [some (.ref mb), some (.int l1), some (.int l2), none, some (.int l4)]) rfl ?_
            exact e_X6_toFree_64 hk20 l1 l2 l4 s12
def fX6_toFree_20 : Nat → Int32 → Int32 → Int32 → Int32 → SM → Option (Int32 × SM) := lp (fun _ _ _ _ _ => none) (fX6_toFree_20b)
theorem e_X6_toFree_20 {G : Cf} {x : SX}  (n : Nat) : ∀ (l1 : Int32) (l2 : Int32) (l3 : Int32) (l4 : Int32) (s : SM), R (wfM x) inI G M_X6_toFree 20 [some (.ref mb), some (.int l1), some (.int l2), some (.int l3), some (.int l4)] [] s (fX6_toFree_20 n l1 l2 l3 l4 s) := by
  unfold fX6_toFree_20
  exact rr_lp (P := fun (kz : Int32 → Int32 → Int32 → Int32 → SM → Option (Int32 × SM)) => ∀ (l1 : Int32) (l2 : Int32) (l3 : Int32) (l4 : Int32) (s : SM), R (wfM x) inI G M_X6_toFree 20 [some (.ref mb), some (.int l1), some (.int l2), some (.int l3), some (.int l4)] [] s (kz l1 l2 l3 l4 s)) (fun _ _ _ _ _ => rr_none) (fun kz hkz => fun l1 l2 l3 l4 s => e_X6_toFree_20b hkz l1 l2 l3 l4 s) n
def fX6_toFree (l1 : Int32) (l2 : Int32) (s : SM) : Option (Int32 × SM) :=
  bd (fX6_areTwo l1 l2 s) fun v1 s2 =>
  (if v1 = 0 then
  bd (fX6_finds (-1000000001) s2) fun v5 s6 =>
  some (v5, s6)
  else
  vl 0 fun y3 =>
  vl 0 fun y4 =>
  fX6_toFree_20 400 l1 l2 y3 y4 s2)
set_option maxRecDepth 100000 in
set_option maxHeartbeats 4000000 in
theorem e_X6_toFree {G : Cf} {x : SX} (l1 : Int32) (l2 : Int32) (s : SM) : Ct (wfM x) inI G M_X6_toFree [.ref mb, .int l1, .int l2] s (fX6_toFree l1 l2 s) := by
  refine Ct.of (L0 := [some (.ref mb), some (.int l1), some (.int l2), none, none]) 2 rfl rfl ⟨rfl, rfl⟩ (Nat.le_of_ble_eq_true rfl) rfl ?_
  unfold fX6_toFree
  refine rr_iload_n (q := 1) rfl dX6_toFree_0 rfl ?_
  refine rr_iload_n (q := 2) rfl dX6_toFree_1 rfl ?_
  refine rr_cSi (q := 5) rfl V_X6_areTwo ml_X6_164 ⟨Nat.le_of_ble_eq_true rfl, Nat.le_of_ble_eq_true rfl⟩ (e_X6_areTwo l1 l2 s) rfl rfl (Nat.le_of_ble_eq_true rfl) dX6_toFree_2 (fun v1 s2 => ?_)
  refine rr_if_ne 15 (q := 8) rfl dX6_toFree_5 rfl (fun _ => ?_) (fun _ => ?_)
  · refine rr_iconst 0 (q := 16) rfl dX6_toFree_15 rfl ?_
    refine rr_istore_n (L2 := fun y3 => [some (.ref mb), some (.int l1), some (.int l2), some (.int y3), none]) (q := 17) rfl dX6_toFree_16 (Nat.le_of_ble_eq_true rfl) (fun _ => rfl) (fun y3 => ?_)
    refine rr_iconst 0 (q := 18) rfl dX6_toFree_17 rfl ?_
    refine rr_istore (L2 := fun y4 => [some (.ref mb), some (.int l1), some (.int l2), some (.int y3), some (.int y4)]) (q := 20) rfl dX6_toFree_18 (Nat.le_of_ble_eq_true rfl) (fun _ => rfl) (fun y4 => ?_)
    exact e_X6_toFree_20 400 l1 l2 y3 y4 s2
  · refine rr_aload_n (q := 9) rfl dX6_toFree_8 rfl ?_
    refine rr_ldc (q := 11) rfl dX6_toFree_9 kc_X6_78 ?_
    refine rr_cVi (q := 14) rfl V_X6_finds ml_X6_125 ⟨Nat.le_of_ble_eq_true rfl, Nat.le_of_ble_eq_true rfl⟩ (e_X6_finds (-1000000001) s2) w_M rfl rfl rfl rfl (Nat.le_of_ble_eq_true rfl) dX6_toFree_11 (fun v5 s6 => ?_)
    exact rr_iret dX6_toFree_14 rfl
def fX6_holdsWith_46 (k6 : Int32 → Int32 → SM → Option (Int32 × SM)) (l1 : Int32) (l2 : Int32) (s : SM) : Option (Int32 × SM) :=
  vl (l2 + 1) fun y15 =>
  k6 l1 y15 s
set_option maxRecDepth 100000 in
set_option maxHeartbeats 4000000 in
theorem e_X6_holdsWith_46 {G : Cf} {x : SX} {k6 : Int32 → Int32 → SM → Option (Int32 × SM)} (hk6 : ∀ (l1 : Int32) (l2 : Int32) (s : SM), R (wfM x) inI G M_X6_holdsWith 6 [some (.ref mb), some (.int l1), some (.int l2)] [] s (k6 l1 l2 s)) (l1 : Int32) (l2 : Int32) (s : SM) : R (wfM x) inI G M_X6_holdsWith 46 [some (.ref mb), some (.int l1), some (.int l2)] [] s (fX6_holdsWith_46 k6 l1 l2 s) := by
  unfold fX6_holdsWith_46
  refine rr_iinc (L2 := fun y15 => [some (.ref mb), some (.int l1), some (.int y15)]) (q := 49) rfl dX6_holdsWith_46 rfl rfl (Nat.le_of_ble_eq_true rfl) (fun _ => rfl) (fun y15 => ?_)
  refine rr_goto 6 dX6_holdsWith_49 rfl ?_
  exact hk6 l1 y15 s
def fX6_holdsWith_6b (k6 : Int32 → Int32 → SM → Option (Int32 × SM)) (l1 : Int32) (l2 : Int32) (s : SM) : Option (Int32 × SM) :=
  (if (gM s 0 23) ≤ l2 then
  bd (fX6_looseSet s) fun v3 s4 =>
  (if v3 = 0 then
  vl 1 fun y7 =>
  vl (wM s4 0 11 0) fun s8 =>
  gd (y7 = 0 ∨ y7 = 1) (some (y7, s8))
  else
  vl 0 fun y5 =>
  vl (wM s4 0 11 0) fun s6 =>
  gd (y5 = 0 ∨ y5 = 1) (some (y5, s6)))
  else
  bd (fX6_has l1 l2 s) fun v9 s10 =>
  (if v9 = 0 then
  fX6_holdsWith_46 k6 l1 l2 s10
  else
  ixg l2 8 fun n11 =>
  ixg l2 8 fun n12 =>
  ixg (((gM s10 0 11) + 1) + (gM s10 12 n11)) 82 fun n13 => vl (wM s10 9 n13 (gM s10 13 n12)) fun s14 =>
  fX6_holdsWith_46 k6 l1 l2 s14))
set_option maxRecDepth 100000 in
set_option maxHeartbeats 4000000 in
theorem e_X6_holdsWith_6b {G : Cf} {x : SX} {k6 : Int32 → Int32 → SM → Option (Int32 × SM)} (hk6 : ∀ (l1 : Int32) (l2 : Int32) (s : SM), R (wfM x) inI G M_X6_holdsWith 6 [some (.ref mb), some (.int l1), some (.int l2)] [] s (k6 l1 l2 s)) (l1 : Int32) (l2 : Int32) (s : SM) : R (wfM x) inI G M_X6_holdsWith 6 [some (.ref mb), some (.int l1), some (.int l2)] [] s (fX6_holdsWith_6b k6 l1 l2 s) := by
  unfold fX6_holdsWith_6b
  refine rr_iload_n (q := 7) rfl dX6_holdsWith_6 rfl ?_
  refine rr_aload_n (q := 8) rfl dX6_holdsWith_7 rfl ?_
  refine rr_get (q := 11) rfl fl_X6_234 w_M rfl dX6_holdsWith_8 ?_
  refine rr_icmp_ge 52 (q := 14) rfl dX6_holdsWith_11 rfl (fun _ => ?_) (fun _ => ?_)
  · refine rr_aload_n (q := 53) rfl dX6_holdsWith_52 rfl ?_
    refine rr_cVi (q := 56) rfl V_X6_looseSet ml_X6_145 ⟨Nat.le_of_ble_eq_true rfl, Nat.le_of_ble_eq_true rfl⟩ (e_X6_looseSet s) w_M rfl rfl rfl rfl (Nat.le_of_ble_eq_true rfl) dX6_holdsWith_53 (fun v3 s4 => ?_)
    refine rr_if_ne 63 (q := 59) rfl dX6_holdsWith_56 rfl (fun _ => ?_) (fun _ => ?_)
    · refine rr_iconst 0 (q := 64) rfl dX6_holdsWith_63 rfl ?_
      refine rr_istore_n (L2 := fun y5 => [some (.ref mb), some (.int l1), some (.int y5)]) (q := 65) rfl dX6_holdsWith_64 (Nat.le_of_ble_eq_true rfl) (fun _ => rfl) (fun y5 => ?_)
      refine rr_aload_n (q := 66) rfl dX6_holdsWith_65 rfl ?_
      refine rr_iconst 0 (q := 67) rfl dX6_holdsWith_66 rfl ?_
      refine rr_puti (q := 70) rfl fl_X6_90 fp_X6_11 w_M (Nat.le_of_ble_eq_true rfl) u_M11 dX6_holdsWith_67 (fun s6 => ?_)
      refine rr_iload_n (q := 71) rfl dX6_holdsWith_70 rfl ?_
      exact rr_gd (fun hb => rr_zret dX6_holdsWith_71 rfl hb)
    · refine rr_iconst 1 (q := 60) rfl dX6_holdsWith_59 rfl ?_
      refine rr_goto 64 dX6_holdsWith_60 rfl ?_
      refine rr_istore_n (L2 := fun y7 => [some (.ref mb), some (.int l1), some (.int y7)]) (q := 65) rfl dX6_holdsWith_64 (Nat.le_of_ble_eq_true rfl) (fun _ => rfl) (fun y7 => ?_)
      refine rr_aload_n (q := 66) rfl dX6_holdsWith_65 rfl ?_
      refine rr_iconst 0 (q := 67) rfl dX6_holdsWith_66 rfl ?_
      refine rr_puti (q := 70) rfl fl_X6_90 fp_X6_11 w_M (Nat.le_of_ble_eq_true rfl) u_M11 dX6_holdsWith_67 (fun s8 => ?_)
      refine rr_iload_n (q := 71) rfl dX6_holdsWith_70 rfl ?_
      exact rr_gd (fun hb => rr_zret dX6_holdsWith_71 rfl hb)
  · refine rr_iload_n (q := 15) rfl dX6_holdsWith_14 rfl ?_
    refine rr_iload_n (q := 16) rfl dX6_holdsWith_15 rfl ?_
    refine rr_cSi (q := 19) rfl V_X6_has ml_X6_161 ⟨Nat.le_of_ble_eq_true rfl, Nat.le_of_ble_eq_true rfl⟩ (e_X6_has l1 l2 s) rfl rfl (Nat.le_of_ble_eq_true rfl) dX6_holdsWith_16 (fun v9 s10 => ?_)
    refine rr_if_eq 46 (q := 22) rfl dX6_holdsWith_19 rfl (fun _ => ?_) (fun _ => ?_)
    · exact e_X6_holdsWith_46 hk6 l1 l2 s10
    · refine rr_aload_n (q := 23) rfl dX6_holdsWith_22 rfl ?_
      refine rr_get (q := 26) rfl fl_X6_34 w_M rfl dX6_holdsWith_23 ?_
      refine rr_aload_n (q := 27) rfl dX6_holdsWith_26 rfl ?_
      refine rr_get (q := 30) rfl fl_X6_90 w_M rfl dX6_holdsWith_27 ?_
      refine rr_iconst 1 (q := 31) rfl dX6_holdsWith_30 rfl ?_
      refine rr_iadd (q := 32) rfl dX6_holdsWith_31 ?_
      refine rr_aload_n (q := 33) rfl dX6_holdsWith_32 rfl ?_
      refine rr_get (q := 36) rfl fl_X6_43 w_M rfl dX6_holdsWith_33 ?_
      refine rr_iload_n (q := 37) rfl dX6_holdsWith_36 rfl ?_
      refine rr_iald (q := 38) rfl w_marr12 dX6_holdsWith_37 (fun n11 => ?_)
      refine rr_iadd (q := 39) rfl dX6_holdsWith_38 ?_
      refine rr_aload_n (q := 40) rfl dX6_holdsWith_39 rfl ?_
      refine rr_get (q := 43) rfl fl_X6_46 w_M rfl dX6_holdsWith_40 ?_
      refine rr_iload_n (q := 44) rfl dX6_holdsWith_43 rfl ?_
      refine rr_iald (q := 45) rfl w_marr13 dX6_holdsWith_44 (fun n12 => ?_)
      refine rr_iast (q := 46) rfl w_marr9 (fun _ => u_marr9) dX6_holdsWith_45 (fun n13 s14 => ?_)
      exact e_X6_holdsWith_46 hk6 l1 l2 s14
def fX6_holdsWith_6 : Nat → Int32 → Int32 → SM → Option (Int32 × SM) := lp (fun _ _ _ => none) (fX6_holdsWith_6b)
theorem e_X6_holdsWith_6 {G : Cf} {x : SX}  (n : Nat) : ∀ (l1 : Int32) (l2 : Int32) (s : SM), R (wfM x) inI G M_X6_holdsWith 6 [some (.ref mb), some (.int l1), some (.int l2)] [] s (fX6_holdsWith_6 n l1 l2 s) := by
  unfold fX6_holdsWith_6
  exact rr_lp (P := fun (kz : Int32 → Int32 → SM → Option (Int32 × SM)) => ∀ (l1 : Int32) (l2 : Int32) (s : SM), R (wfM x) inI G M_X6_holdsWith 6 [some (.ref mb), some (.int l1), some (.int l2)] [] s (kz l1 l2 s)) (fun _ _ _ => rr_none) (fun kz hkz => fun l1 l2 s => e_X6_holdsWith_6b hkz l1 l2 s) n
def fX6_holdsWith (l1 : Int32) (s : SM) : Option (Int32 × SM) :=
  bd (fX6_lends s) fun _ s1 =>
  vl 0 fun y2 =>
  fX6_holdsWith_6 400 l1 y2 s1
set_option maxRecDepth 100000 in
set_option maxHeartbeats 4000000 in
theorem e_X6_holdsWith {G : Cf} {x : SX} (l1 : Int32) (s : SM) : Ct (wfM x) inI G M_X6_holdsWith [.ref mb, .int l1] s (fX6_holdsWith l1 s) := by
  refine Ct.of (L0 := [some (.ref mb), some (.int l1), none]) 1 rfl rfl ⟨rfl, rfl⟩ (Nat.le_of_ble_eq_true rfl) rfl ?_
  unfold fX6_holdsWith
  refine rr_aload_n (q := 1) rfl dX6_holdsWith_0 rfl ?_
  refine rr_cVu (q := 4) rfl V_X6_lends ml_X6_190 ⟨Nat.le_of_ble_eq_true rfl, Nat.le_of_ble_eq_true rfl⟩ (e_X6_lends s) w_M rfl rfl rfl rfl (Nat.le_of_ble_eq_true rfl) dX6_holdsWith_1 (fun _ s1 => ?_)
  refine rr_iconst 0 (q := 5) rfl dX6_holdsWith_4 rfl ?_
  refine rr_istore_n (L2 := fun y2 => [some (.ref mb), some (.int l1), some (.int y2)]) (q := 6) rfl dX6_holdsWith_5 (Nat.le_of_ble_eq_true rfl) (fun _ => rfl) (fun y2 => ?_)
  exact e_X6_holdsWith_6 400 l1 y2 s1
def fX6_findWay_70 (k11 : Int32 → Int32 → SM → Option (Unit × SM)) (k29 : Int32 → Int32 → Int32 → Int32 → SM → Option (Unit × SM)) (l1 : Int32) (l2 : Int32) (l4 : Int32) (t0 : Int32) (s : SM) : Option (Unit × SM) :=
  vl t0 fun y13 =>
  vl (l4 + 1) fun y14 =>
  k29 l1 l2 y13 y14 s
set_option maxRecDepth 100000 in
set_option maxHeartbeats 4000000 in
theorem e_X6_findWay_70 {G : Cf} {x : SX} {k11 : Int32 → Int32 → SM → Option (Unit × SM)} (hk11 : ∀ (l1 : Int32) (l2 : Int32) (s : SM), R (wfM x) inU G M_X6_findWay 11 [some (.ref mb), some (.int l1), some (.int l2), none, none] [] s (k11 l1 l2 s)) {k29 : Int32 → Int32 → Int32 → Int32 → SM → Option (Unit × SM)} (hk29 : ∀ (l1 : Int32) (l2 : Int32) (l3 : Int32) (l4 : Int32) (s : SM), R (wfM x) inU G M_X6_findWay 29 [some (.ref mb), some (.int l1), some (.int l2), some (.int l3), some (.int l4)] [] s (k29 l1 l2 l3 l4 s)) (l1 : Int32) (l2 : Int32) (l4 : Int32) (t0 : Int32) (s : SM) : R (wfM x) inU G M_X6_findWay 70 [some (.ref mb), some (.int l1), some (.int l2), none, some (.int l4)] [.int t0] s (fX6_findWay_70 k11 k29 l1 l2 l4 t0 s) := by
  unfold fX6_findWay_70
  refine rr_istore_n (L2 := fun y13 => [some (.ref mb), some (.int l1), some (.int l2), some (.int y13), some (.int l4)]) (q := 71) rfl dX6_findWay_70 (Nat.le_of_ble_eq_true rfl) (fun _ => rfl) (fun y13 => ?_)
  refine rr_iinc (L2 := fun y14 => [some (.ref mb), some (.int l1), some (.int l2), some (.int y13), some (.int y14)]) (q := 74) rfl dX6_findWay_71 rfl rfl (Nat.le_of_ble_eq_true rfl) (fun _ => rfl) (fun y14 => ?_)
  refine rr_goto 29 dX6_findWay_74 rfl ?_
  exact hk29 l1 l2 y13 y14 s
def fX6_findWay_65 (k11 : Int32 → Int32 → SM → Option (Unit × SM)) (k29 : Int32 → Int32 → Int32 → Int32 → SM → Option (Unit × SM)) (l1 : Int32) (l2 : Int32) (l4 : Int32) (s : SM) : Option (Unit × SM) :=
  fX6_findWay_70 k11 k29 l1 l2 l4 1 s
set_option maxRecDepth 100000 in
set_option maxHeartbeats 4000000 in
theorem e_X6_findWay_65 {G : Cf} {x : SX} {k11 : Int32 → Int32 → SM → Option (Unit × SM)} (hk11 : ∀ (l1 : Int32) (l2 : Int32) (s : SM), R (wfM x) inU G M_X6_findWay 11 [some (.ref mb), some (.int l1), some (.int l2), none, none] [] s (k11 l1 l2 s)) {k29 : Int32 → Int32 → Int32 → Int32 → SM → Option (Unit × SM)} (hk29 : ∀ (l1 : Int32) (l2 : Int32) (l3 : Int32) (l4 : Int32) (s : SM), R (wfM x) inU G M_X6_findWay 29 [some (.ref mb), some (.int l1), some (.int l2), some (.int l3), some (.int l4)] [] s (k29 l1 l2 l3 l4 s)) (l1 : Int32) (l2 : Int32) (l4 : Int32) (s : SM) : R (wfM x) inU G M_X6_findWay 65 [some (.ref mb), some (.int l1), some (.int l2), none, some (.int l4)] [] s (fX6_findWay_65 k11 k29 l1 l2 l4 s) := by
  unfold fX6_findWay_65
  refine rr_iconst 1 (q := 66) rfl dX6_findWay_65 rfl ?_
  refine rr_goto 70 dX6_findWay_66 rfl ?_
  exact e_X6_findWay_70 hk11 hk29 l1 l2 l4 1 s
def fX6_findWay_69 (k11 : Int32 → Int32 → SM → Option (Unit × SM)) (k29 : Int32 → Int32 → Int32 → Int32 → SM → Option (Unit × SM)) (l1 : Int32) (l2 : Int32) (l4 : Int32) (s : SM) : Option (Unit × SM) :=
  fX6_findWay_70 k11 k29 l1 l2 l4 0 s
set_option maxRecDepth 100000 in
set_option maxHeartbeats 4000000 in
theorem e_X6_findWay_69 {G : Cf} {x : SX} {k11 : Int32 → Int32 → SM → Option (Unit × SM)} (hk11 : ∀ (l1 : Int32) (l2 : Int32) (s : SM), R (wfM x) inU G M_X6_findWay 11 [some (.ref mb), some (.int l1), some (.int l2), none, none] [] s (k11 l1 l2 s)) {k29 : Int32 → Int32 → Int32 → Int32 → SM → Option (Unit × SM)} (hk29 : ∀ (l1 : Int32) (l2 : Int32) (l3 : Int32) (l4 : Int32) (s : SM), R (wfM x) inU G M_X6_findWay 29 [some (.ref mb), some (.int l1), some (.int l2), some (.int l3), some (.int l4)] [] s (k29 l1 l2 l3 l4 s)) (l1 : Int32) (l2 : Int32) (l4 : Int32) (s : SM) : R (wfM x) inU G M_X6_findWay 69 [some (.ref mb), some (.int l1), some (.int l2), none, some (.int l4)] [] s (fX6_findWay_69 k11 k29 l1 l2 l4 s) := by
  unfold fX6_findWay_69
  refine rr_iconst 0 (q := 70) rfl dX6_findWay_69 rfl ?_
  exact e_X6_findWay_70 hk11 hk29 l1 l2 l4 0 s
def fX6_findWay_103 (k11 : Int32 → Int32 → SM → Option (Unit × SM)) (l1 : Int32) (l2 : Int32) (t1 : Int32) (t2 : Int32) (s : SM) : Option (Unit × SM) :=
  gd (t2 = 0 ∨ t2 = 1) <|
  ixg t1 256 fun n10 => vl (wM s 14 n10 t2) fun s11 =>
  vl (l2 + (-1)) fun y12 =>
  k11 l1 y12 s11
set_option maxRecDepth 100000 in
set_option maxHeartbeats 4000000 in
theorem e_X6_findWay_103 {G : Cf} {x : SX} {k11 : Int32 → Int32 → SM → Option (Unit × SM)} (hk11 : ∀ (l1 : Int32) (l2 : Int32) (s : SM), R (wfM x) inU G M_X6_findWay 11 [some (.ref mb), some (.int l1), some (.int l2), none, none] [] s (k11 l1 l2 s)) (l1 : Int32) (l2 : Int32) (t1 : Int32) (t2 : Int32) (s : SM) : R (wfM x) inU G M_X6_findWay 103 [some (.ref mb), some (.int l1), some (.int l2), none, none] [.int t2, .int t1, .ref (mb + 14)] s (fX6_findWay_103 k11 l1 l2 t1 t2 s) := by
  unfold fX6_findWay_103
  refine rr_gd (fun hb => ?_)
  refine rr_zast (q := 104) rfl w_marr14 (fun _ => u_marr14) hb dX6_findWay_103 (fun n10 s11 => ?_)
  refine rr_iinc (L2 := fun y12 => [some (.ref mb), some (.int l1), some (.int y12), none, none]) (q := 107) rfl dX6_findWay_104 rfl rfl (Nat.le_of_ble_eq_true rfl) (fun _ => rfl) (fun y12 => ?_)
  refine rr_goto 11 dX6_findWay_107 rfl ?_
  exact hk11 l1 y12 s11
def fX6_findWay_98 (k11 : Int32 → Int32 → SM → Option (Unit × SM)) (l1 : Int32) (l2 : Int32) (t1 : Int32) (s : SM) : Option (Unit × SM) :=
  fX6_findWay_103 k11 l1 l2 t1 1 s
set_option maxRecDepth 100000 in
set_option maxHeartbeats 4000000 in
theorem e_X6_findWay_98 {G : Cf} {x : SX} {k11 : Int32 → Int32 → SM → Option (Unit × SM)} (hk11 : ∀ (l1 : Int32) (l2 : Int32) (s : SM), R (wfM x) inU G M_X6_findWay 11 [some (.ref mb), some (.int l1), some (.int l2), none, none] [] s (k11 l1 l2 s)) (l1 : Int32) (l2 : Int32) (t1 : Int32) (s : SM) : R (wfM x) inU G M_X6_findWay 98 [some (.ref mb), some (.int l1), some (.int l2), none, none] [.int t1, .ref (mb + 14)] s (fX6_findWay_98 k11 l1 l2 t1 s) := by
  unfold fX6_findWay_98
  refine rr_iconst 1 (q := 99) rfl dX6_findWay_98 rfl ?_
  refine rr_goto 103 dX6_findWay_99 rfl ?_
  exact e_X6_findWay_103 hk11 l1 l2 t1 1 s
def fX6_findWay_102 (k11 : Int32 → Int32 → SM → Option (Unit × SM)) (l1 : Int32) (l2 : Int32) (t1 : Int32) (s : SM) : Option (Unit × SM) :=
  fX6_findWay_103 k11 l1 l2 t1 0 s
set_option maxRecDepth 100000 in
set_option maxHeartbeats 4000000 in
theorem e_X6_findWay_102 {G : Cf} {x : SX} {k11 : Int32 → Int32 → SM → Option (Unit × SM)} (hk11 : ∀ (l1 : Int32) (l2 : Int32) (s : SM), R (wfM x) inU G M_X6_findWay 11 [some (.ref mb), some (.int l1), some (.int l2), none, none] [] s (k11 l1 l2 s)) (l1 : Int32) (l2 : Int32) (t1 : Int32) (s : SM) : R (wfM x) inU G M_X6_findWay 102 [some (.ref mb), some (.int l1), some (.int l2), none, none] [.int t1, .ref (mb + 14)] s (fX6_findWay_102 k11 l1 l2 t1 s) := by
  unfold fX6_findWay_102
  refine rr_iconst 0 (q := 103) rfl dX6_findWay_102 rfl ?_
  exact e_X6_findWay_103 hk11 l1 l2 t1 0 s
def fX6_findWay_29b (k11 : Int32 → Int32 → SM → Option (Unit × SM)) (k29 : Int32 → Int32 → Int32 → Int32 → SM → Option (Unit × SM)) (l1 : Int32) (l2 : Int32) (l3 : Int32) (l4 : Int32) (s : SM) : Option (Unit × SM) :=
  (if (gM s 0 23) ≤ l4 then
  (if l3 = 0 then
  fX6_findWay_102 k11 l1 l2 l2 s
  else
  (if l2 = 0 then
  fX6_findWay_98 k11 l1 l2 l2 s
  else
  bd (fX6_holdsWith l2 s) fun v5 s6 =>
  (if v5 = 0 then
  fX6_findWay_102 k11 l1 l2 l2 s6
  else
  fX6_findWay_98 k11 l1 l2 l2 s6)))
  else
  (if l3 = 0 then
  bd (fX6_has l2 l4 s) fun v7 s8 =>
  (if v7 = 0 then
  ixg (l2 ||| (1 <<< (l4 &&& 31))) 256 fun n9 =>
  (if (gM s8 14 n9) = 0 then
  fX6_findWay_69 k11 k29 l1 l2 l4 s8
  else
  fX6_findWay_65 k11 k29 l1 l2 l4 s8)
  else
  fX6_findWay_69 k11 k29 l1 l2 l4 s8)
  else
  fX6_findWay_65 k11 k29 l1 l2 l4 s))
set_option maxRecDepth 100000 in
set_option maxHeartbeats 4000000 in
theorem e_X6_findWay_29b {G : Cf} {x : SX} {k11 : Int32 → Int32 → SM → Option (Unit × SM)} (hk11 : ∀ (l1 : Int32) (l2 : Int32) (s : SM), R (wfM x) inU G M_X6_findWay 11 [some (.ref mb), some (.int l1), some (.int l2), none, none] [] s (k11 l1 l2 s)) {k29 : Int32 → Int32 → Int32 → Int32 → SM → Option (Unit × SM)} (hk29 : ∀ (l1 : Int32) (l2 : Int32) (l3 : Int32) (l4 : Int32) (s : SM), R (wfM x) inU G M_X6_findWay 29 [some (.ref mb), some (.int l1), some (.int l2), some (.int l3), some (.int l4)] [] s (k29 l1 l2 l3 l4 s)) (l1 : Int32) (l2 : Int32) (l3 : Int32) (l4 : Int32) (s : SM) : R (wfM x) inU G M_X6_findWay 29 [some (.ref mb), some (.int l1), some (.int l2), some (.int l3), some (.int l4)] [] s (fX6_findWay_29b k11 k29 l1 l2 l3 l4 s) := by
  unfold fX6_findWay_29b
  refine rr_iload (q := 31) rfl dX6_findWay_29 rfl ?_
  refine rr_aload_n (q := 32) rfl dX6_findWay_31 rfl ?_
  refine rr_get (q := 35) rfl fl_X6_234 w_M rfl dX6_findWay_32 ?_
  refine rr_icmp_ge 77 (q := 38) rfl dX6_findWay_35 rfl (fun _ => ?_) (fun _ => ?_)
  · refine rr_aload_n (q := 78) rfl dX6_findWay_77 rfl ?_
    refine rr_get (q := 81) rfl fl_X6_49 w_M rfl dX6_findWay_78 ?_
    refine rr_iload_n (q := 82) rfl dX6_findWay_81 rfl ?_
    refine rr_iload_n (q := 83) rfl dX6_findWay_82 rfl ?_
    refine rr_if_eq 102 (q := 86) rfl dX6_findWay_83 rfl (fun _ => ?_) (fun _ => ?_)
    · refine rr_mask [true, true, true, false, false] (L' := [some (.ref mb), some (.int l1), some (.int l2), none, none]) rfl ?_
      exact e_X6_findWay_102 hk11 l1 l2 l2 s
    · refine rr_iload_n (q := 87) rfl dX6_findWay_86 rfl ?_
      refine rr_if_eq 98 (q := 90) rfl dX6_findWay_87 rfl (fun _ => ?_) (fun _ => ?_)
      · refine rr_mask [true, true, true, false, false] (L' := [some (.ref mb), some (.int l1), some (.int l2), none, none]) rfl ?_
        exact e_X6_findWay_98 hk11 l1 l2 l2 s
      · refine rr_aload_n (q := 91) rfl dX6_findWay_90 rfl ?_
        refine rr_iload_n (q := 92) rfl dX6_findWay_91 rfl ?_
        refine rr_cVi (q := 95) rfl V_X6_holdsWith ml_X6_237 ⟨Nat.le_of_ble_eq_true rfl, Nat.le_of_ble_eq_true rfl⟩ (e_X6_holdsWith l2 s) w_M rfl rfl rfl rfl (Nat.le_of_ble_eq_true rfl) dX6_findWay_92 (fun v5 s6 => ?_)
        refine rr_if_eq 102 (q := 98) rfl dX6_findWay_95 rfl (fun _ => ?_) (fun _ => ?_)
        · refine rr_mask [true, true, true, false, false] (L' := [some (.ref mb), some (.int l1), some (.int l2), none, none]) rfl ?_
          exact e_X6_findWay_102 hk11 l1 l2 l2 s6
        · refine rr_mask [true, true, true, false, false] (L' := [some (.ref mb), some (.int l1), some (.int l2), none, none]) rfl ?_
          exact e_X6_findWay_98 hk11 l1 l2 l2 s6
  · refine rr_iload_n (q := 39) rfl dX6_findWay_38 rfl ?_
    refine rr_if_ne 65 (q := 42) rfl dX6_findWay_39 rfl (fun _ => ?_) (fun _ => ?_)
    · refine rr_mask [true, true, true, false, true] (L' := [some (.ref mb), some (.int l1), some (.int l2), none, some (.int l4)]) rfl ?_
      exact e_X6_findWay_65 hk11 hk29 l1 l2 l4 s
    · refine rr_iload_n (q := 43) rfl dX6_findWay_42 rfl ?_
      refine rr_iload (q := 45) rfl dX6_findWay_43 rfl ?_
      refine rr_cSi (q := 48) rfl V_X6_has ml_X6_161 ⟨Nat.le_of_ble_eq_true rfl, Nat.le_of_ble_eq_true rfl⟩ (e_X6_has l2 l4 s) rfl rfl (Nat.le_of_ble_eq_true rfl) dX6_findWay_45 (fun v7 s8 => ?_)
      refine rr_if_ne 69 (q := 51) rfl dX6_findWay_48 rfl (fun _ => ?_) (fun _ => ?_)
      · refine rr_mask [true, true, true, false, true] (L' := [some (.ref mb), some (.int l1), some (.int l2), none, some (.int l4)]) rfl ?_
        exact e_X6_findWay_69 hk11 hk29 l1 l2 l4 s8
      · refine rr_aload_n (q := 52) rfl dX6_findWay_51 rfl ?_
        refine rr_get (q := 55) rfl fl_X6_49 w_M rfl dX6_findWay_52 ?_
        refine rr_iload_n (q := 56) rfl dX6_findWay_55 rfl ?_
        refine rr_iconst 1 (q := 57) rfl dX6_findWay_56 rfl ?_
        refine rr_iload (q := 59) rfl dX6_findWay_57 rfl ?_
        refine rr_ishl (q := 60) rfl dX6_findWay_59 ?_
        refine rr_ior (q := 61) rfl dX6_findWay_60 ?_
        refine rr_zald (q := 62) rfl w_marr14 dX6_findWay_61 (fun n9 => ?_)
        refine rr_if_eq 69 (q := 65) rfl dX6_findWay_62 rfl (fun _ => ?_) (fun _ => ?_)
        · refine rr_mask [true, true, true, false, true] (L' := [some (.ref mb), some (.int l1), some (.int l2), none, some (.int l4)]) rfl ?_
          exact e_X6_findWay_69 hk11 hk29 l1 l2 l4 s8
        · refine rr_mask [true, true, true, false, true] (L' := [some (.ref mb), some (.int l1), some (.int l2), none, some (.int l4)]) rfl ?_
          exact e_X6_findWay_65 hk11 hk29 l1 l2 l4 s8
def fX6_findWay_29 (k11 : Int32 → Int32 → SM → Option (Unit × SM)) : Nat → Int32 → Int32 → Int32 → Int32 → SM → Option (Unit × SM) := lp (fun _ _ _ _ _ => none) (fX6_findWay_29b k11)
theorem e_X6_findWay_29 {G : Cf} {x : SX} {k11 : Int32 → Int32 → SM → Option (Unit × SM)} (hk11 : ∀ (l1 : Int32) (l2 : Int32) (s : SM), R (wfM x) inU G M_X6_findWay 11 [some (.ref mb), some (.int l1), some (.int l2), none, none] [] s (k11 l1 l2 s)) (n : Nat) : ∀ (l1 : Int32) (l2 : Int32) (l3 : Int32) (l4 : Int32) (s : SM), R (wfM x) inU G M_X6_findWay 29 [some (.ref mb), some (.int l1), some (.int l2), some (.int l3), some (.int l4)] [] s (fX6_findWay_29 k11 n l1 l2 l3 l4 s) := by
  unfold fX6_findWay_29
  exact rr_lp (P := fun (kz : Int32 → Int32 → Int32 → Int32 → SM → Option (Unit × SM)) => ∀ (l1 : Int32) (l2 : Int32) (l3 : Int32) (l4 : Int32) (s : SM), R (wfM x) inU G M_X6_findWay 29 [some (.ref mb), some (.int l1), some (.int l2), some (.int l3), some (.int l4)] [] s (kz l1 l2 l3 l4 s)) (fun _ _ _ _ _ => rr_none) (fun kz hkz => fun l1 l2 l3 l4 s => e_X6_findWay_29b hk11 hkz l1 l2 l3 l4 s) n
def fX6_findWay_25 (k11 : Int32 → Int32 → SM → Option (Unit × SM)) (l1 : Int32) (l2 : Int32) (t0 : Int32) (s : SM) : Option (Unit × SM) :=
  vl t0 fun y3 =>
  vl 0 fun y4 =>
  fX6_findWay_29 k11 400 l1 l2 y3 y4 s
set_option maxRecDepth 100000 in
set_option maxHeartbeats 4000000 in
theorem e_X6_findWay_25 {G : Cf} {x : SX} {k11 : Int32 → Int32 → SM → Option (Unit × SM)} (hk11 : ∀ (l1 : Int32) (l2 : Int32) (s : SM), R (wfM x) inU G M_X6_findWay 11 [some (.ref mb), some (.int l1), some (.int l2), none, none] [] s (k11 l1 l2 s)) (l1 : Int32) (l2 : Int32) (t0 : Int32) (s : SM) : R (wfM x) inU G M_X6_findWay 25 [some (.ref mb), some (.int l1), some (.int l2), none, none] [.int t0] s (fX6_findWay_25 k11 l1 l2 t0 s) := by
  unfold fX6_findWay_25
  refine rr_istore_n (L2 := fun y3 => [some (.ref mb), some (.int l1), some (.int l2), some (.int y3), none]) (q := 26) rfl dX6_findWay_25 (Nat.le_of_ble_eq_true rfl) (fun _ => rfl) (fun y3 => ?_)
  refine rr_iconst 0 (q := 27) rfl dX6_findWay_26 rfl ?_
  refine rr_istore (L2 := fun y4 => [some (.ref mb), some (.int l1), some (.int l2), some (.int y3), some (.int y4)]) (q := 29) rfl dX6_findWay_27 (Nat.le_of_ble_eq_true rfl) (fun _ => rfl) (fun y4 => ?_)
  exact e_X6_findWay_29 hk11 400 l1 l2 y3 y4 s
def fX6_findWay_11b (k11 : Int32 → Int32 → SM → Option (Unit × SM)) (l1 : Int32) (l2 : Int32) (s : SM) : Option (Unit × SM) :=
  (if l2 < 0 then
  some ((), s)
  else
  (if l2 = l1 then
  fX6_findWay_25 k11 l1 l2 1 s
  else
  fX6_findWay_25 k11 l1 l2 0 s))
set_option maxRecDepth 100000 in
set_option maxHeartbeats 4000000 in
theorem e_X6_findWay_11b {G : Cf} {x : SX} {k11 : Int32 → Int32 → SM → Option (Unit × SM)} (hk11 : ∀ (l1 : Int32) (l2 : Int32) (s : SM), R (wfM x) inU G M_X6_findWay 11 [some (.ref mb), some (.int l1), some (.int l2), none, none] [] s (k11 l1 l2 s)) (l1 : Int32) (l2 : Int32) (s : SM) : R (wfM x) inU G M_X6_findWay 11 [some (.ref mb), some (.int l1), some (.int l2), none, none] [] s (fX6_findWay_11b k11 l1 l2 s) := by
  unfold fX6_findWay_11b
  refine rr_iload_n (q := 12) rfl dX6_findWay_11 rfl ?_
  refine rr_if_lt 110 (q := 15) rfl dX6_findWay_12 rfl (fun _ => ?_) (fun _ => ?_)
  · exact rr_vret dX6_findWay_110 rfl
  · refine rr_iload_n (q := 16) rfl dX6_findWay_15 rfl ?_
    refine rr_iload_n (q := 17) rfl dX6_findWay_16 rfl ?_
    refine rr_icmp_ne 24 (q := 20) rfl dX6_findWay_17 rfl (fun _ => ?_) (fun _ => ?_)
    · refine rr_iconst 0 (q := 25) rfl dX6_findWay_24 rfl ?_
      exact e_X6_findWay_25 hk11 l1 l2 0 s
    · refine rr_iconst 1 (q := 21) rfl dX6_findWay_20 rfl ?_
      refine rr_goto 25 dX6_findWay_21 rfl ?_
      exact e_X6_findWay_25 hk11 l1 l2 1 s
def fX6_findWay_11 : Nat → Int32 → Int32 → SM → Option (Unit × SM) := lp (fun _ _ _ => none) (fX6_findWay_11b)
theorem e_X6_findWay_11 {G : Cf} {x : SX}  (n : Nat) : ∀ (l1 : Int32) (l2 : Int32) (s : SM), R (wfM x) inU G M_X6_findWay 11 [some (.ref mb), some (.int l1), some (.int l2), none, none] [] s (fX6_findWay_11 n l1 l2 s) := by
  unfold fX6_findWay_11
  exact rr_lp (P := fun (kz : Int32 → Int32 → SM → Option (Unit × SM)) => ∀ (l1 : Int32) (l2 : Int32) (s : SM), R (wfM x) inU G M_X6_findWay 11 [some (.ref mb), some (.int l1), some (.int l2), none, none] [] s (kz l1 l2 s)) (fun _ _ _ => rr_none) (fun kz hkz => fun l1 l2 s => e_X6_findWay_11b hkz l1 l2 s) n
def fX6_findWay (s : SM) : Option (Unit × SM) :=
  vl ((1 <<< ((gM s 0 23) &&& 31)) - 1) fun y1 =>
  vl y1 fun y2 =>
  fX6_findWay_11 400 y1 y2 s
set_option maxRecDepth 100000 in
set_option maxHeartbeats 4000000 in
theorem e_X6_findWay {G : Cf} {x : SX} (s : SM) : Ct (wfM x) inU G M_X6_findWay [.ref mb] s (fX6_findWay s) := by
  refine Ct.of (L0 := [some (.ref mb), none, none, none, none]) 4 rfl rfl ⟨rfl, rfl⟩ (Nat.le_of_ble_eq_true rfl) rfl ?_
  unfold fX6_findWay
  refine rr_iconst 1 (q := 1) rfl dX6_findWay_0 rfl ?_
  refine rr_aload_n (q := 2) rfl dX6_findWay_1 rfl ?_
  refine rr_get (q := 5) rfl fl_X6_234 w_M rfl dX6_findWay_2 ?_
  refine rr_ishl (q := 6) rfl dX6_findWay_5 ?_
  refine rr_iconst 1 (q := 7) rfl dX6_findWay_6 rfl ?_
  refine rr_isub (q := 8) rfl dX6_findWay_7 ?_
  refine rr_istore_n (L2 := fun y1 => [some (.ref mb), some (.int y1), none, none, none]) (q := 9) rfl dX6_findWay_8 (Nat.le_of_ble_eq_true rfl) (fun _ => rfl) (fun y1 => ?_)
  refine rr_iload_n (q := 10) rfl dX6_findWay_9 rfl ?_
  refine rr_istore_n (L2 := fun y2 => [some (.ref mb), some (.int y1), some (.int y2), none, none]) (q := 11) rfl dX6_findWay_10 (Nat.le_of_ble_eq_true rfl) (fun _ => rfl) (fun y2 => ?_)
  exact e_X6_findWay_11 400 y1 y2 s
def fX6_movedAs_39 (k7 : Int32 → Int32 → Int32 → Int32 → SM → Option (Int32 × SM)) (k16 : Int32 → Int32 → Int32 → Int32 → SM → Option (Int32 × SM)) (l1 : Int32) (l2 : Int32) (l4 : Int32) (l5 : Int32) (s : SM) : Option (Int32 × SM) :=
  vl (l5 + 1) fun y12 =>
  k16 l1 l2 l4 y12 s
set_option maxRecDepth 100000 in
set_option maxHeartbeats 4000000 in
theorem e_X6_movedAs_39 {G : Cf} {x : SX} {k7 : Int32 → Int32 → Int32 → Int32 → SM → Option (Int32 × SM)} (hk7 : ∀ (l1 : Int32) (l2 : Int32) (l3 : Int32) (l4 : Int32) (s : SM), R (wfM x) inI G M_X6_movedAs 7 [some (.ref mb), some (.int l1), some (.int l2), some (.int l3), some (.int l4), none] [] s (k7 l1 l2 l3 l4 s)) {k16 : Int32 → Int32 → Int32 → Int32 → SM → Option (Int32 × SM)} (hk16 : ∀ (l1 : Int32) (l2 : Int32) (l4 : Int32) (l5 : Int32) (s : SM), R (wfM x) inI G M_X6_movedAs 16 [some (.ref mb), some (.int l1), some (.int l2), none, some (.int l4), some (.int l5)] [] s (k16 l1 l2 l4 l5 s)) (l1 : Int32) (l2 : Int32) (l4 : Int32) (l5 : Int32) (s : SM) : R (wfM x) inI G M_X6_movedAs 39 [some (.ref mb), some (.int l1), some (.int l2), none, some (.int l4), some (.int l5)] [] s (fX6_movedAs_39 k7 k16 l1 l2 l4 l5 s) := by
  unfold fX6_movedAs_39
  refine rr_iinc (L2 := fun y12 => [some (.ref mb), some (.int l1), some (.int l2), none, some (.int l4), some (.int y12)]) (q := 42) rfl dX6_movedAs_39 rfl rfl (Nat.le_of_ble_eq_true rfl) (fun _ => rfl) (fun y12 => ?_)
  refine rr_goto 16 dX6_movedAs_42 rfl ?_
  exact hk16 l1 l2 l4 y12 s
def fX6_movedAs_16b (k7 : Int32 → Int32 → Int32 → Int32 → SM → Option (Int32 × SM)) (k16 : Int32 → Int32 → Int32 → Int32 → SM → Option (Int32 × SM)) (l1 : Int32) (l2 : Int32) (l4 : Int32) (l5 : Int32) (s : SM) : Option (Int32 × SM) :=
  bd (fX6_has l2 l5 s) fun v5 s6 =>
  (if v5 = 0 then
  ixg (l2 ||| (1 <<< (l5 &&& 31))) 256 fun n7 =>
  (if (gM s6 14 n7) = 0 then
  fX6_movedAs_39 k7 k16 l1 l2 l4 l5 s6
  else
  vl (l2 ||| (1 <<< (l5 &&& 31))) fun y8 =>
  ixg l5 8 fun n9 =>
  vl (gM s6 12 n9) fun y10 =>
  vl (l4 + 1) fun y11 =>
  k7 l1 y8 y10 y11 s6)
  else
  fX6_movedAs_39 k7 k16 l1 l2 l4 l5 s6)
set_option maxRecDepth 100000 in
set_option maxHeartbeats 4000000 in
theorem e_X6_movedAs_16b {G : Cf} {x : SX} {k7 : Int32 → Int32 → Int32 → Int32 → SM → Option (Int32 × SM)} (hk7 : ∀ (l1 : Int32) (l2 : Int32) (l3 : Int32) (l4 : Int32) (s : SM), R (wfM x) inI G M_X6_movedAs 7 [some (.ref mb), some (.int l1), some (.int l2), some (.int l3), some (.int l4), none] [] s (k7 l1 l2 l3 l4 s)) {k16 : Int32 → Int32 → Int32 → Int32 → SM → Option (Int32 × SM)} (hk16 : ∀ (l1 : Int32) (l2 : Int32) (l4 : Int32) (l5 : Int32) (s : SM), R (wfM x) inI G M_X6_movedAs 16 [some (.ref mb), some (.int l1), some (.int l2), none, some (.int l4), some (.int l5)] [] s (k16 l1 l2 l4 l5 s)) (l1 : Int32) (l2 : Int32) (l4 : Int32) (l5 : Int32) (s : SM) : R (wfM x) inI G M_X6_movedAs 16 [some (.ref mb), some (.int l1), some (.int l2), none, some (.int l4), some (.int l5)] [] s (fX6_movedAs_16b k7 k16 l1 l2 l4 l5 s) := by
  unfold fX6_movedAs_16b
  refine rr_iload_n (q := 17) rfl dX6_movedAs_16 rfl ?_
  refine rr_iload (q := 19) rfl dX6_movedAs_17 rfl ?_
  refine rr_cSi (q := 22) rfl V_X6_has ml_X6_161 ⟨Nat.le_of_ble_eq_true rfl, Nat.le_of_ble_eq_true rfl⟩ (e_X6_has l2 l5 s) rfl rfl (Nat.le_of_ble_eq_true rfl) dX6_movedAs_19 (fun v5 s6 => ?_)
  refine rr_if_ne 39 (q := 25) rfl dX6_movedAs_22 rfl (fun _ => ?_) (fun _ => ?_)
  · exact e_X6_movedAs_39 hk7 hk16 l1 l2 l4 l5 s6
  · refine rr_aload_n (q := 26) rfl dX6_movedAs_25 rfl ?_
    refine rr_get (q := 29) rfl fl_X6_49 w_M rfl dX6_movedAs_26 ?_
    refine rr_iload_n (q := 30) rfl dX6_movedAs_29 rfl ?_
    refine rr_iconst 1 (q := 31) rfl dX6_movedAs_30 rfl ?_
    refine rr_iload (q := 33) rfl dX6_movedAs_31 rfl ?_
    refine rr_ishl (q := 34) rfl dX6_movedAs_33 ?_
    refine rr_ior (q := 35) rfl dX6_movedAs_34 ?_
    refine rr_zald (q := 36) rfl w_marr14 dX6_movedAs_35 (fun n7 => ?_)
    refine rr_if_ne 45 (q := 39) rfl dX6_movedAs_36 rfl (fun _ => ?_) (fun _ => ?_)
    · refine rr_iload_n (q := 46) rfl dX6_movedAs_45 rfl ?_
      refine rr_iconst 1 (q := 47) rfl dX6_movedAs_46 rfl ?_
      refine rr_iload (q := 49) rfl dX6_movedAs_47 rfl ?_
      refine rr_ishl (q := 50) rfl dX6_movedAs_49 ?_
      refine rr_ior (q := 51) rfl dX6_movedAs_50 ?_
      refine rr_istore_n (L2 := fun y8 => [some (.ref mb), some (.int l1), some (.int y8), none, some (.int l4), some (.int l5)]) (q := 52) rfl dX6_movedAs_51 (Nat.le_of_ble_eq_true rfl) (fun _ => rfl) (fun y8 => ?_)
      refine rr_aload_n (q := 53) rfl dX6_movedAs_52 rfl ?_
      refine rr_get (q := 56) rfl fl_X6_43 w_M rfl dX6_movedAs_53 ?_
      refine rr_iload (q := 58) rfl dX6_movedAs_56 rfl ?_
      refine rr_iald (q := 59) rfl w_marr12 dX6_movedAs_58 (fun n9 => ?_)
      refine rr_istore_n (L2 := fun y10 => [some (.ref mb), some (.int l1), some (.int y8), some (.int y10), some (.int l4), some (.int l5)]) (q := 60) rfl dX6_movedAs_59 (Nat.le_of_ble_eq_true rfl) (fun _ => rfl) (fun y10 => ?_)
      refine rr_iinc (L2 := fun y11 => [some (.ref mb), some (.int l1), some (.int y8), some (.int y10), some (.int y11), some (.int l5)]) (q := 63) rfl dX6_movedAs_60 rfl rfl (Nat.le_of_ble_eq_true rfl) (fun _ => rfl) (fun y11 => ?_)
      refine rr_goto 7 dX6_movedAs_63 rfl ?_
      refine rr_mask [true, true, true, true, true, false] (L' := [some (.ref mb), some (.int l1), some (.int y8), some (.int y10), some (.int y11), none]) rfl ?_
      exact hk7 l1 y8 y10 y11 s6
    · exact e_X6_movedAs_39 hk7 hk16 l1 l2 l4 l5 s6
def fX6_movedAs_16 (k7 : Int32 → Int32 → Int32 → Int32 → SM → Option (Int32 × SM)) : Nat → Int32 → Int32 → Int32 → Int32 → SM → Option (Int32 × SM) := lp (fun _ _ _ _ _ => none) (fX6_movedAs_16b k7)
theorem e_X6_movedAs_16 {G : Cf} {x : SX} {k7 : Int32 → Int32 → Int32 → Int32 → SM → Option (Int32 × SM)} (hk7 : ∀ (l1 : Int32) (l2 : Int32) (l3 : Int32) (l4 : Int32) (s : SM), R (wfM x) inI G M_X6_movedAs 7 [some (.ref mb), some (.int l1), some (.int l2), some (.int l3), some (.int l4), none] [] s (k7 l1 l2 l3 l4 s)) (n : Nat) : ∀ (l1 : Int32) (l2 : Int32) (l4 : Int32) (l5 : Int32) (s : SM), R (wfM x) inI G M_X6_movedAs 16 [some (.ref mb), some (.int l1), some (.int l2), none, some (.int l4), some (.int l5)] [] s (fX6_movedAs_16 k7 n l1 l2 l4 l5 s) := by
  unfold fX6_movedAs_16
  exact rr_lp (P := fun (kz : Int32 → Int32 → Int32 → Int32 → SM → Option (Int32 × SM)) => ∀ (l1 : Int32) (l2 : Int32) (l4 : Int32) (l5 : Int32) (s : SM), R (wfM x) inI G M_X6_movedAs 16 [some (.ref mb), some (.int l1), some (.int l2), none, some (.int l4), some (.int l5)] [] s (kz l1 l2 l4 l5 s)) (fun _ _ _ _ _ => rr_none) (fun kz hkz => fun l1 l2 l4 l5 s => e_X6_movedAs_16b hk7 hkz l1 l2 l4 l5 s) n
def fX6_movedAs_7b (k7 : Int32 → Int32 → Int32 → Int32 → SM → Option (Int32 × SM)) (l1 : Int32) (l2 : Int32) (l3 : Int32) (l4 : Int32) (s : SM) : Option (Int32 × SM) :=
  (if l1 < l4 then
  some (l3, s)
  else
  vl 0 fun y4 =>
  fX6_movedAs_16 k7 400 l1 l2 l4 y4 s)
set_option maxRecDepth 100000 in
set_option maxHeartbeats 4000000 in
theorem e_X6_movedAs_7b {G : Cf} {x : SX} {k7 : Int32 → Int32 → Int32 → Int32 → SM → Option (Int32 × SM)} (hk7 : ∀ (l1 : Int32) (l2 : Int32) (l3 : Int32) (l4 : Int32) (s : SM), R (wfM x) inI G M_X6_movedAs 7 [some (.ref mb), some (.int l1), some (.int l2), some (.int l3), some (.int l4), none] [] s (k7 l1 l2 l3 l4 s)) (l1 : Int32) (l2 : Int32) (l3 : Int32) (l4 : Int32) (s : SM) : R (wfM x) inI G M_X6_movedAs 7 [some (.ref mb), some (.int l1), some (.int l2), some (.int l3), some (.int l4), none] [] s (fX6_movedAs_7b k7 l1 l2 l3 l4 s) := by
  unfold fX6_movedAs_7b
  refine rr_iload (q := 9) rfl dX6_movedAs_7 rfl ?_
  refine rr_iload_n (q := 10) rfl dX6_movedAs_9 rfl ?_
  refine rr_icmp_gt 66 (q := 13) rfl dX6_movedAs_10 rfl (fun _ => ?_) (fun _ => ?_)
  · refine rr_iload_n (q := 67) rfl dX6_movedAs_66 rfl ?_
    exact rr_iret dX6_movedAs_67 rfl
  · refine rr_iconst 0 (q := 14) rfl dX6_movedAs_13 rfl ?_
    refine rr_istore (L2 := fun y4 => [some (.ref mb), some (.int l1), some (.int l2), some (.int l3), some (.int l4), some (.int y4)]) (q := 16) rfl dX6_movedAs_14 (Nat.le_of_ble_eq_true rfl) (fun _ => rfl) (fun y4 => ?_)
    refine rr_mask [true, true, true, false, true, true] (L' := [some (.ref mb), some (.int l1), some (.int l2), none, some (.int l4), some (.int y4)]) rfl ?_
    exact e_X6_movedAs_16 hk7 400 l1 l2 l4 y4 s
def fX6_movedAs_7 : Nat → Int32 → Int32 → Int32 → Int32 → SM → Option (Int32 × SM) := lp (fun _ _ _ _ _ => none) (fX6_movedAs_7b)
theorem e_X6_movedAs_7 {G : Cf} {x : SX}  (n : Nat) : ∀ (l1 : Int32) (l2 : Int32) (l3 : Int32) (l4 : Int32) (s : SM), R (wfM x) inI G M_X6_movedAs 7 [some (.ref mb), some (.int l1), some (.int l2), some (.int l3), some (.int l4), none] [] s (fX6_movedAs_7 n l1 l2 l3 l4 s) := by
  unfold fX6_movedAs_7
  exact rr_lp (P := fun (kz : Int32 → Int32 → Int32 → Int32 → SM → Option (Int32 × SM)) => ∀ (l1 : Int32) (l2 : Int32) (l3 : Int32) (l4 : Int32) (s : SM), R (wfM x) inI G M_X6_movedAs 7 [some (.ref mb), some (.int l1), some (.int l2), some (.int l3), some (.int l4), none] [] s (kz l1 l2 l3 l4 s)) (fun _ _ _ _ _ => rr_none) (fun kz hkz => fun l1 l2 l3 l4 s => e_X6_movedAs_7b hkz l1 l2 l3 l4 s) n
def fX6_movedAs (l1 : Int32) (s : SM) : Option (Int32 × SM) :=
  vl 0 fun y1 =>
  vl 0 fun y2 =>
  vl 0 fun y3 =>
  fX6_movedAs_7 400 l1 y1 y2 y3 s
set_option maxRecDepth 100000 in
set_option maxHeartbeats 4000000 in
theorem e_X6_movedAs {G : Cf} {x : SX} (l1 : Int32) (s : SM) : Ct (wfM x) inI G M_X6_movedAs [.ref mb, .int l1] s (fX6_movedAs l1 s) := by
  refine Ct.of (L0 := [some (.ref mb), some (.int l1), none, none, none, none]) 4 rfl rfl ⟨rfl, rfl⟩ (Nat.le_of_ble_eq_true rfl) rfl ?_
  unfold fX6_movedAs
  refine rr_iconst 0 (q := 1) rfl dX6_movedAs_0 rfl ?_
  refine rr_istore_n (L2 := fun y1 => [some (.ref mb), some (.int l1), some (.int y1), none, none, none]) (q := 2) rfl dX6_movedAs_1 (Nat.le_of_ble_eq_true rfl) (fun _ => rfl) (fun y1 => ?_)
  refine rr_iconst 0 (q := 3) rfl dX6_movedAs_2 rfl ?_
  refine rr_istore_n (L2 := fun y2 => [some (.ref mb), some (.int l1), some (.int y1), some (.int y2), none, none]) (q := 4) rfl dX6_movedAs_3 (Nat.le_of_ble_eq_true rfl) (fun _ => rfl) (fun y2 => ?_)
  refine rr_iconst 0 (q := 5) rfl dX6_movedAs_4 rfl ?_
  refine rr_istore (L2 := fun y3 => [some (.ref mb), some (.int l1), some (.int y1), some (.int y2), some (.int y3), none]) (q := 7) rfl dX6_movedAs_5 (Nat.le_of_ble_eq_true rfl) (fun _ => rfl) (fun y3 => ?_)
  exact e_X6_movedAs_7 400 l1 y1 y2 y3 s
def fX6_isSheet (l0 : Int32) (s : SM) : Option (Int32 × SM) :=
  bd (fX6_in l0 0 3 s) fun v1 s2 =>
  gd (v1 = 0 ∨ v1 = 1) (some (v1, s2))
set_option maxRecDepth 100000 in
set_option maxHeartbeats 4000000 in
theorem e_X6_isSheet {G : Cf} {x : SX} (l0 : Int32) (s : SM) : Ct (wfM x) inI G M_X6_isSheet [.int l0] s (fX6_isSheet l0 s) := by
  refine Ct.of (L0 := [some (.int l0)]) 0 rfl rfl ⟨rfl, rfl⟩ (Nat.le_of_ble_eq_true rfl) rfl ?_
  unfold fX6_isSheet
  refine rr_iload_n (q := 1) rfl dX6_isSheet_0 rfl ?_
  refine rr_iconst 0 (q := 2) rfl dX6_isSheet_1 rfl ?_
  refine rr_iconst 3 (q := 3) rfl dX6_isSheet_2 rfl ?_
  refine rr_cSi (q := 6) rfl V_X6_in ml_X6_79 ⟨Nat.le_of_ble_eq_true rfl, Nat.le_of_ble_eq_true rfl⟩ (e_X6_in l0 0 3 s) rfl rfl (Nat.le_of_ble_eq_true rfl) dX6_isSheet_3 (fun v1 s2 => ?_)
  exact rr_gd (fun hb => rr_zret dX6_isSheet_6 rfl hb)
def fX6_way_165 (k55 : Int32 → Int32 → Int32 → Int32 → Int32 → SM → Option (Int32 × SM)) (l1 : Int32) (l2 : Int32) (l3 : Int32) (l4 : Int32) (l5 : Int32) (s : SM) : Option (Int32 × SM) :=
  vl (l5 + 1) fun y37 =>
  k55 l1 l2 l3 l4 y37 s
set_option maxRecDepth 100000 in
set_option maxHeartbeats 4000000 in
theorem e_X6_way_165 {G : Cf} {x : SX} {k55 : Int32 → Int32 → Int32 → Int32 → Int32 → SM → Option (Int32 × SM)} (hk55 : ∀ (l1 : Int32) (l2 : Int32) (l3 : Int32) (l4 : Int32) (l5 : Int32) (s : SM), R (wfM x) inI G M_X6_way 55 [some (.ref mb), some (.int l1), some (.int l2), some (.int l3), some (.int l4), some (.int l5), none, none] [] s (k55 l1 l2 l3 l4 l5 s)) (l1 : Int32) (l2 : Int32) (l3 : Int32) (l4 : Int32) (l5 : Int32) (s : SM) : R (wfM x) inI G M_X6_way 165 [some (.ref mb), some (.int l1), some (.int l2), some (.int l3), some (.int l4), some (.int l5), none, none] [] s (fX6_way_165 k55 l1 l2 l3 l4 l5 s) := by
  unfold fX6_way_165
  refine rr_iinc (L2 := fun y37 => [some (.ref mb), some (.int l1), some (.int l2), some (.int l3), some (.int l4), some (.int y37), none, none]) (q := 168) rfl dX6_way_165 rfl rfl (Nat.le_of_ble_eq_true rfl) (fun _ => rfl) (fun y37 => ?_)
  refine rr_goto 55 dX6_way_168 rfl ?_
  exact hk55 l1 l2 l3 l4 y37 s
def fX6_way_163 (k55 : Int32 → Int32 → Int32 → Int32 → Int32 → SM → Option (Int32 × SM)) (l1 : Int32) (l2 : Int32) (l3 : Int32) (l5 : Int32) (t0 : Int32) (s : SM) : Option (Int32 × SM) :=
  vl t0 fun y41 =>
  fX6_way_165 k55 l1 l2 l3 y41 l5 s
set_option maxRecDepth 100000 in
set_option maxHeartbeats 4000000 in
theorem e_X6_way_163 {G : Cf} {x : SX} {k55 : Int32 → Int32 → Int32 → Int32 → Int32 → SM → Option (Int32 × SM)} (hk55 : ∀ (l1 : Int32) (l2 : Int32) (l3 : Int32) (l4 : Int32) (l5 : Int32) (s : SM), R (wfM x) inI G M_X6_way 55 [some (.ref mb), some (.int l1), some (.int l2), some (.int l3), some (.int l4), some (.int l5), none, none] [] s (k55 l1 l2 l3 l4 l5 s)) (l1 : Int32) (l2 : Int32) (l3 : Int32) (l5 : Int32) (t0 : Int32) (s : SM) : R (wfM x) inI G M_X6_way 163 [some (.ref mb), some (.int l1), some (.int l2), some (.int l3), none, some (.int l5), none, none] [.int t0] s (fX6_way_163 k55 l1 l2 l3 l5 t0 s) := by
  unfold fX6_way_163
  refine rr_istore (L2 := fun y41 => [some (.ref mb), some (.int l1), some (.int l2), some (.int l3), some (.int y41), some (.int l5), none, none]) (q := 165) rfl dX6_way_163 (Nat.le_of_ble_eq_true rfl) (fun _ => rfl) (fun y41 => ?_)
  exact e_X6_way_165 hk55 l1 l2 l3 y41 l5 s
def fX6_way_158 (k55 : Int32 → Int32 → Int32 → Int32 → Int32 → SM → Option (Int32 × SM)) (l1 : Int32) (l2 : Int32) (l3 : Int32) (l5 : Int32) (s : SM) : Option (Int32 × SM) :=
  fX6_way_163 k55 l1 l2 l3 l5 1 s
set_option maxRecDepth 100000 in
set_option maxHeartbeats 4000000 in
theorem e_X6_way_158 {G : Cf} {x : SX} {k55 : Int32 → Int32 → Int32 → Int32 → Int32 → SM → Option (Int32 × SM)} (hk55 : ∀ (l1 : Int32) (l2 : Int32) (l3 : Int32) (l4 : Int32) (l5 : Int32) (s : SM), R (wfM x) inI G M_X6_way 55 [some (.ref mb), some (.int l1), some (.int l2), some (.int l3), some (.int l4), some (.int l5), none, none] [] s (k55 l1 l2 l3 l4 l5 s)) (l1 : Int32) (l2 : Int32) (l3 : Int32) (l5 : Int32) (s : SM) : R (wfM x) inI G M_X6_way 158 [some (.ref mb), some (.int l1), some (.int l2), some (.int l3), none, some (.int l5), none, none] [] s (fX6_way_158 k55 l1 l2 l3 l5 s) := by
  unfold fX6_way_158
  refine rr_iconst 1 (q := 159) rfl dX6_way_158 rfl ?_
  refine rr_goto 163 dX6_way_159 rfl ?_
  exact e_X6_way_163 hk55 l1 l2 l3 l5 1 s
def fX6_way_141 (k55 : Int32 → Int32 → Int32 → Int32 → Int32 → SM → Option (Int32 × SM)) (l1 : Int32) (l2 : Int32) (l3 : Int32) (l4 : Int32) (l5 : Int32) (s : SM) : Option (Int32 × SM) :=
  vl (l3 + 1) fun y38 =>
  (if l4 = 0 then
  bd (fX6_lives l5 s) fun v39 s40 =>
  (if v39 = 0 then
  fX6_way_158 k55 l1 l2 y38 l5 s40
  else
  fX6_way_163 k55 l1 l2 y38 l5 0 s40)
  else
  fX6_way_158 k55 l1 l2 y38 l5 s)
set_option maxRecDepth 100000 in
set_option maxHeartbeats 4000000 in
theorem e_X6_way_141 {G : Cf} {x : SX} {k55 : Int32 → Int32 → Int32 → Int32 → Int32 → SM → Option (Int32 × SM)} (hk55 : ∀ (l1 : Int32) (l2 : Int32) (l3 : Int32) (l4 : Int32) (l5 : Int32) (s : SM), R (wfM x) inI G M_X6_way 55 [some (.ref mb), some (.int l1), some (.int l2), some (.int l3), some (.int l4), some (.int l5), none, none] [] s (k55 l1 l2 l3 l4 l5 s)) (l1 : Int32) (l2 : Int32) (l3 : Int32) (l4 : Int32) (l5 : Int32) (s : SM) : R (wfM x) inI G M_X6_way 141 [some (.ref mb), some (.int l1), some (.int l2), some (.int l3), some (.int l4), some (.int l5), none, none] [] s (fX6_way_141 k55 l1 l2 l3 l4 l5 s) := by
  unfold fX6_way_141
  refine rr_iinc (L2 := fun y38 => [some (.ref mb), some (.int l1), some (.int l2), some (.int y38), some (.int l4), some (.int l5), none, none]) (q := 144) rfl dX6_way_141 rfl rfl (Nat.le_of_ble_eq_true rfl) (fun _ => rfl) (fun y38 => ?_)
  refine rr_iload (q := 146) rfl dX6_way_144 rfl ?_
  refine rr_if_ne 158 (q := 149) rfl dX6_way_146 rfl (fun _ => ?_) (fun _ => ?_)
  · refine rr_mask [true, true, true, true, false, true, false, false] (L' := [some (.ref mb), some (.int l1), some (.int l2), some (.int y38), none, some (.int l5), none, none]) rfl ?_
    exact e_X6_way_158 hk55 l1 l2 y38 l5 s
  · refine rr_aload_n (q := 150) rfl dX6_way_149 rfl ?_
    refine rr_iload (q := 152) rfl dX6_way_150 rfl ?_
    refine rr_cVi (q := 155) rfl V_X6_lives ml_X6_97 ⟨Nat.le_of_ble_eq_true rfl, Nat.le_of_ble_eq_true rfl⟩ (e_X6_lives l5 s) w_M rfl rfl rfl rfl (Nat.le_of_ble_eq_true rfl) dX6_way_152 (fun v39 s40 => ?_)
    refine rr_if_ne 162 (q := 158) rfl dX6_way_155 rfl (fun _ => ?_) (fun _ => ?_)
    · refine rr_iconst 0 (q := 163) rfl dX6_way_162 rfl ?_
      refine rr_mask [true, true, true, true, false, true, false, false] (L' := [some (.ref mb), some (.int l1), some (.int l2), some (.int y38), none, some (.int l5), none, none]) rfl ?_
      exact e_X6_way_163 hk55 l1 l2 y38 l5 0 s40
    · refine rr_mask [true, true, true, true, false, true, false, false] (L' := [some (.ref mb), some (.int l1), some (.int l2), some (.int y38), none, some (.int l5), none, none]) rfl ?_
      exact e_X6_way_158 hk55 l1 l2 y38 l5 s40
def fX6_way_171 (l2 : Int32) (l3 : Int32) (l4 : Int32) (s : SM) : Option (Int32 × SM) :=
  (if l3 ≤ 8 then
  (if l4 = 0 then
  vl (wM s 0 23 l3) fun s24 =>
  bd (fX6_findWay s24) fun _ s25 =>
  ixg 0 256 fun n26 =>
  (if (gM s25 14 n26) = 0 then
  bd (fX6_finds (-1000000004) s25) fun v27 s28 =>
  some (v27, s28)
  else
  (if l2 < l3 then
  (if 0 ≤ l2 then
  bd (fX6_movedAs l2 s25) fun v29 s30 =>
  some (v29, s30)
  else
  some (l3, s25))
  else
  bd (fX6_finds (-1000000004) s25) fun v31 s32 =>
  some (v31, s32)))
  else
  bd (fX6_finds (-1000000005) s) fun v33 s34 =>
  some (v33, s34))
  else
  bd (fX6_finds (-1000000007) s) fun v35 s36 =>
  some (v35, s36))
set_option maxRecDepth 100000 in
set_option maxHeartbeats 4000000 in
theorem e_X6_way_171 {G : Cf} {x : SX}  (l2 : Int32) (l3 : Int32) (l4 : Int32) (s : SM) : R (wfM x) inI G M_X6_way 171 [some (.ref mb), none, some (.int l2), some (.int l3), some (.int l4), none, none, none] [] s (fX6_way_171 l2 l3 l4 s) := by
  unfold fX6_way_171
  refine rr_iload_n (q := 172) rfl dX6_way_171 rfl ?_
  refine rr_bipush 8 (q := 174) rfl dX6_way_172 rfl ?_
  refine rr_icmp_le 184 (q := 177) rfl dX6_way_174 rfl (fun _ => ?_) (fun _ => ?_)
  · refine rr_iload (q := 186) rfl dX6_way_184 rfl ?_
    refine rr_if_eq 196 (q := 189) rfl dX6_way_186 rfl (fun _ => ?_) (fun _ => ?_)
    · refine rr_aload_n (q := 197) rfl dX6_way_196 rfl ?_
      refine rr_iload_n (q := 198) rfl dX6_way_197 rfl ?_
      refine rr_puti (q := 201) rfl fl_X6_234 fp_X6_23 w_M (Nat.le_of_ble_eq_true rfl) u_M23 dX6_way_198 (fun s24 => ?_)
      refine rr_aload_n (q := 202) rfl dX6_way_201 rfl ?_
      refine rr_cVu (q := 205) rfl V_X6_findWay ml_X6_247 ⟨Nat.le_of_ble_eq_true rfl, Nat.le_of_ble_eq_true rfl⟩ (e_X6_findWay s24) w_M rfl rfl rfl rfl (Nat.le_of_ble_eq_true rfl) dX6_way_202 (fun _ s25 => ?_)
      refine rr_aload_n (q := 206) rfl dX6_way_205 rfl ?_
      refine rr_get (q := 209) rfl fl_X6_49 w_M rfl dX6_way_206 ?_
      refine rr_iconst 0 (q := 210) rfl dX6_way_209 rfl ?_
      refine rr_zald (q := 211) rfl w_marr14 dX6_way_210 (fun n26 => ?_)
      refine rr_if_eq 219 (q := 214) rfl dX6_way_211 rfl (fun _ => ?_) (fun _ => ?_)
      · refine rr_aload_n (q := 220) rfl dX6_way_219 rfl ?_
        refine rr_ldc (q := 222) rfl dX6_way_220 kc_X6_170 ?_
        refine rr_cVi (q := 225) rfl V_X6_finds ml_X6_125 ⟨Nat.le_of_ble_eq_true rfl, Nat.le_of_ble_eq_true rfl⟩ (e_X6_finds (-1000000004) s25) w_M rfl rfl rfl rfl (Nat.le_of_ble_eq_true rfl) dX6_way_222 (fun v27 s28 => ?_)
        exact rr_iret dX6_way_225 rfl
      · refine rr_iload_n (q := 215) rfl dX6_way_214 rfl ?_
        refine rr_iload_n (q := 216) rfl dX6_way_215 rfl ?_
        refine rr_icmp_lt 226 (q := 219) rfl dX6_way_216 rfl (fun _ => ?_) (fun _ => ?_)
        · refine rr_iload_n (q := 227) rfl dX6_way_226 rfl ?_
          refine rr_if_ge 234 (q := 230) rfl dX6_way_227 rfl (fun _ => ?_) (fun _ => ?_)
          · refine rr_aload_n (q := 235) rfl dX6_way_234 rfl ?_
            refine rr_iload_n (q := 236) rfl dX6_way_235 rfl ?_
            refine rr_cVi (q := 239) rfl V_X6_movedAs ml_X6_250 ⟨Nat.le_of_ble_eq_true rfl, Nat.le_of_ble_eq_true rfl⟩ (e_X6_movedAs l2 s25) w_M rfl rfl rfl rfl (Nat.le_of_ble_eq_true rfl) dX6_way_236 (fun v29 s30 => ?_)
            exact rr_iret dX6_way_239 rfl
          · refine rr_iload_n (q := 231) rfl dX6_way_230 rfl ?_
            refine rr_goto 239 dX6_way_231 rfl ?_
            exact rr_iret dX6_way_239 rfl
        · refine rr_aload_n (q := 220) rfl dX6_way_219 rfl ?_
          refine rr_ldc (q := 222) rfl dX6_way_220 kc_X6_170 ?_
          refine rr_cVi (q := 225) rfl V_X6_finds ml_X6_125 ⟨Nat.le_of_ble_eq_true rfl, Nat.le_of_ble_eq_true rfl⟩ (e_X6_finds (-1000000004) s25) w_M rfl rfl rfl rfl (Nat.le_of_ble_eq_true rfl) dX6_way_222 (fun v31 s32 => ?_)
          exact rr_iret dX6_way_225 rfl
    · refine rr_aload_n (q := 190) rfl dX6_way_189 rfl ?_
      refine rr_ldc (q := 192) rfl dX6_way_190 kc_X6_139 ?_
      refine rr_cVi (q := 195) rfl V_X6_finds ml_X6_125 ⟨Nat.le_of_ble_eq_true rfl, Nat.le_of_ble_eq_true rfl⟩ (e_X6_finds (-1000000005) s) w_M rfl rfl rfl rfl (Nat.le_of_ble_eq_true rfl) dX6_way_192 (fun v33 s34 => ?_)
      exact rr_iret dX6_way_195 rfl
  · refine rr_aload_n (q := 178) rfl dX6_way_177 rfl ?_
    refine rr_ldc (q := 180) rfl dX6_way_178 kc_X6_246 ?_
    refine rr_cVi (q := 183) rfl V_X6_finds ml_X6_125 ⟨Nat.le_of_ble_eq_true rfl, Nat.le_of_ble_eq_true rfl⟩ (e_X6_finds (-1000000007) s) w_M rfl rfl rfl rfl (Nat.le_of_ble_eq_true rfl) dX6_way_180 (fun v35 s36 => ?_)
    exact rr_iret dX6_way_183 rfl
def fX6_way_55b (k55 : Int32 → Int32 → Int32 → Int32 → Int32 → SM → Option (Int32 × SM)) (l1 : Int32) (l2 : Int32) (l3 : Int32) (l4 : Int32) (l5 : Int32) (s : SM) : Option (Int32 × SM) :=
  (if (gM s 0 1) ≤ l5 then
  fX6_way_171 l2 l3 l4 s
  else
  ixg l1 4 fun n15 =>
  (if (gM s 17 n15) ≤ l5 then
  fX6_way_171 l2 l3 l4 s
  else
  ixg ((40 * l1) + l5) 160 fun n16 =>
  vl (gN s 18 n16) fun y17 =>
  (if (lg_cmp y17 0) < 0 then
  fX6_way_165 k55 l1 l2 l3 l4 l5 s
  else
  (if 0 < (lg_cmp y17 5) then
  fX6_way_165 k55 l1 l2 l3 l4 l5 s
  else
  bd (fX6_holder l5 s) fun v18 s19 =>
  (if (lg_cmp y17 (Int32.toInt64 v18)) = 0 then
  fX6_way_165 k55 l1 l2 l3 l4 l5 s19
  else
  (if 8 ≤ l3 then
  fX6_way_141 k55 l1 l2 l3 l4 l5 s19
  else
  ixg l3 8 fun n20 => vl (wM s19 12 n20 l5) fun s21 =>
  ixg l3 8 fun n22 => vl (wM s21 13 n22 (Int64.toInt32 y17)) fun s23 =>
  fX6_way_141 k55 l1 l2 l3 l4 l5 s23))))))
set_option maxRecDepth 100000 in
set_option maxHeartbeats 4000000 in
theorem e_X6_way_55b {G : Cf} {x : SX} {k55 : Int32 → Int32 → Int32 → Int32 → Int32 → SM → Option (Int32 × SM)} (hk55 : ∀ (l1 : Int32) (l2 : Int32) (l3 : Int32) (l4 : Int32) (l5 : Int32) (s : SM), R (wfM x) inI G M_X6_way 55 [some (.ref mb), some (.int l1), some (.int l2), some (.int l3), some (.int l4), some (.int l5), none, none] [] s (k55 l1 l2 l3 l4 l5 s)) (l1 : Int32) (l2 : Int32) (l3 : Int32) (l4 : Int32) (l5 : Int32) (s : SM) : R (wfM x) inI G M_X6_way 55 [some (.ref mb), some (.int l1), some (.int l2), some (.int l3), some (.int l4), some (.int l5), none, none] [] s (fX6_way_55b k55 l1 l2 l3 l4 l5 s) := by
  unfold fX6_way_55b
  refine rr_iload (q := 57) rfl dX6_way_55 rfl ?_
  refine rr_aload_n (q := 58) rfl dX6_way_57 rfl ?_
  refine rr_get (q := 61) rfl fl_X6_83 w_M rfl dX6_way_58 ?_
  refine rr_icmp_ge 171 (q := 64) rfl dX6_way_61 rfl (fun _ => ?_) (fun _ => ?_)
  · refine rr_mask [true, false, true, true, true, false, false, false] (L' := [some (.ref mb), none, some (.int l2), some (.int l3), some (.int l4), none, none, none]) rfl ?_
    exact e_X6_way_171 l2 l3 l4 s
  · refine rr_iload (q := 66) rfl dX6_way_64 rfl ?_
    refine rr_aload_n (q := 67) rfl dX6_way_66 rfl ?_
    refine rr_get (q := 70) rfl fl_X6_59 w_M rfl dX6_way_67 ?_
    refine rr_iload_n (q := 71) rfl dX6_way_70 rfl ?_
    refine rr_iald (q := 72) rfl w_marr17 dX6_way_71 (fun n15 => ?_)
    refine rr_icmp_ge 171 (q := 75) rfl dX6_way_72 rfl (fun _ => ?_) (fun _ => ?_)
    · refine rr_mask [true, false, true, true, true, false, false, false] (L' := [some (.ref mb), none, some (.int l2), some (.int l3), some (.int l4), none, none, none]) rfl ?_
      exact e_X6_way_171 l2 l3 l4 s
    · refine rr_aload_n (q := 76) rfl dX6_way_75 rfl ?_
      refine rr_get (q := 79) rfl fl_X6_62 w_M rfl dX6_way_76 ?_
      refine rr_bipush 40 (q := 81) rfl dX6_way_79 rfl ?_
      refine rr_iload_n (q := 82) rfl dX6_way_81 rfl ?_
      refine rr_imul (q := 83) rfl dX6_way_82 ?_
      refine rr_iload (q := 85) rfl dX6_way_83 rfl ?_
      refine rr_iadd (q := 86) rfl dX6_way_85 ?_
      refine rr_lald (q := 87) rfl w_marr18 dX6_way_86 (fun n16 => ?_)
      refine rr_lstore (L2 := fun y17 => [some (.ref mb), some (.int l1), some (.int l2), some (.int l3), some (.int l4), some (.int l5), some (.long y17), none]) (q := 89) rfl dX6_way_87 (Nat.le_of_ble_eq_true rfl) (fun _ => rfl) (fun y17 => ?_)
      refine rr_lload (q := 91) rfl dX6_way_89 rfl ?_
      refine rr_lconst 0 (q := 92) rfl dX6_way_91 rfl ?_
      refine rr_lcmp (q := 93) rfl dX6_way_92 ?_
      refine rr_if_lt 165 (q := 96) rfl dX6_way_93 rfl (fun _ => ?_) (fun _ => ?_)
      · refine rr_mask [true, true, true, true, true, true, false, false] (L' := [some (.ref mb), some (.int l1), some (.int l2), some (.int l3), some (.int l4), some (.int l5), none, none]) rfl ?_
        exact e_X6_way_165 hk55 l1 l2 l3 l4 l5 s
      · refine rr_lload (q := 98) rfl dX6_way_96 rfl ?_
        refine rr_ldc2 (q := 101) rfl dX6_way_98 kc_X6_244 ?_
        refine rr_lcmp (q := 102) rfl dX6_way_101 ?_
        refine rr_if_gt 165 (q := 105) rfl dX6_way_102 rfl (fun _ => ?_) (fun _ => ?_)
        · refine rr_mask [true, true, true, true, true, true, false, false] (L' := [some (.ref mb), some (.int l1), some (.int l2), some (.int l3), some (.int l4), some (.int l5), none, none]) rfl ?_
          exact e_X6_way_165 hk55 l1 l2 l3 l4 l5 s
        · refine rr_lload (q := 107) rfl dX6_way_105 rfl ?_
          refine rr_aload_n (q := 108) rfl dX6_way_107 rfl ?_
          refine rr_iload (q := 110) rfl dX6_way_108 rfl ?_
          refine rr_cVi (q := 113) rfl V_X6_holder ml_X6_93 ⟨Nat.le_of_ble_eq_true rfl, Nat.le_of_ble_eq_true rfl⟩ (e_X6_holder l5 s) w_M rfl rfl rfl rfl (Nat.le_of_ble_eq_true rfl) dX6_way_110 (fun v18 s19 => ?_)
          refine rr_i2l (q := 114) rfl dX6_way_113 ?_
          refine rr_lcmp (q := 115) rfl dX6_way_114 ?_
          refine rr_if_eq 165 (q := 118) rfl dX6_way_115 rfl (fun _ => ?_) (fun _ => ?_)
          · refine rr_mask [true, true, true, true, true, true, false, false] (L' := [some (.ref mb), some (.int l1), some (.int l2), some (.int l3), some (.int l4), some (.int l5), none, none]) rfl ?_
            exact e_X6_way_165 hk55 l1 l2 l3 l4 l5 s19
          · refine rr_iload_n (q := 119) rfl dX6_way_118 rfl ?_
            refine rr_bipush 8 (q := 121) rfl dX6_way_119 rfl ?_
            refine rr_icmp_ge 141 (q := 124) rfl dX6_way_121 rfl (fun _ => ?_) (fun _ => ?_)
            · refine rr_mask [true, true, true, true, true, true, false, false] (L' := [some (.ref mb), some (.int l1), some (.int l2), some (.int l3), some (.int l4), some (.int l5), none, none]) rfl ?_
              exact e_X6_way_141 hk55 l1 l2 l3 l4 l5 s19
            · refine rr_aload_n (q := 125) rfl dX6_way_124 rfl ?_
              refine rr_get (q := 128) rfl fl_X6_43 w_M rfl dX6_way_125 ?_
              refine rr_iload_n (q := 129) rfl dX6_way_128 rfl ?_
              refine rr_iload (q := 131) rfl dX6_way_129 rfl ?_
              refine rr_iast (q := 132) rfl w_marr12 (fun _ => u_marr12) dX6_way_131 (fun n20 s21 => ?_)
              refine rr_aload_n (q := 133) rfl dX6_way_132 rfl ?_
              refine rr_get (q := 136) rfl fl_X6_46 w_M rfl dX6_way_133 ?_
              refine rr_iload_n (q := 137) rfl dX6_way_136 rfl ?_
              refine rr_lload (q := 139) rfl dX6_way_137 rfl ?_
              refine rr_l2i (q := 140) rfl dX6_way_139 ?_
              refine rr_iast (q := 141) rfl w_marr13 (fun _ => u_marr13) dX6_way_140 (fun n22 s23 => ?_)
              refine rr_mask [true, true, true, true, true, true, false, false] (L' := [some (.ref mb), some (.int l1), some (.int l2), some (.int l3), some (.int l4), some (.int l5), none, none]) rfl ?_
              exact e_X6_way_141 hk55 l1 l2 l3 l4 l5 s23
def fX6_way_55 : Nat → Int32 → Int32 → Int32 → Int32 → Int32 → SM → Option (Int32 × SM) := lp (fun _ _ _ _ _ _ => none) (fX6_way_55b)
theorem e_X6_way_55 {G : Cf} {x : SX}  (n : Nat) : ∀ (l1 : Int32) (l2 : Int32) (l3 : Int32) (l4 : Int32) (l5 : Int32) (s : SM), R (wfM x) inI G M_X6_way 55 [some (.ref mb), some (.int l1), some (.int l2), some (.int l3), some (.int l4), some (.int l5), none, none] [] s (fX6_way_55 n l1 l2 l3 l4 l5 s) := by
  unfold fX6_way_55
  exact rr_lp (P := fun (kz : Int32 → Int32 → Int32 → Int32 → Int32 → SM → Option (Int32 × SM)) => ∀ (l1 : Int32) (l2 : Int32) (l3 : Int32) (l4 : Int32) (l5 : Int32) (s : SM), R (wfM x) inI G M_X6_way 55 [some (.ref mb), some (.int l1), some (.int l2), some (.int l3), some (.int l4), some (.int l5), none, none] [] s (kz l1 l2 l3 l4 l5 s)) (fun _ _ _ _ _ _ => rr_none) (fun kz hkz => fun l1 l2 l3 l4 l5 s => e_X6_way_55b hkz l1 l2 l3 l4 l5 s) n
def fX6_way (l1 : Int32) (l2 : Int32) (s : SM) : Option (Int32 × SM) :=
  bd (fX6_isSheet l1 s) fun v1 s2 =>
  (if v1 = 0 then
  bd (fX6_finds (-1000000001) s2) fun v13 s14 =>
  some (v13, s14)
  else
  ixg l1 4 fun n3 =>
  (if (gM s2 16 n3) = 0 then
  bd (fX6_finds (-1000000006) s2) fun v11 s12 =>
  some (v11, s12)
  else
  bd (fX6_in l2 (-1) 7 s2) fun v4 s5 =>
  (if v4 = 0 then
  bd (fX6_finds (-1000000001) s5) fun v9 s10 =>
  some (v9, s10)
  else
  vl 0 fun y6 =>
  vl 0 fun y7 =>
  vl 0 fun y8 =>
  fX6_way_55 400 l1 l2 y6 y7 y8 s5)))
set_option maxRecDepth 100000 in
set_option maxHeartbeats 4000000 in
theorem e_X6_way {G : Cf} {x : SX} (l1 : Int32) (l2 : Int32) (s : SM) : Ct (wfM x) inI G M_X6_way [.ref mb, .int l1, .int l2] s (fX6_way l1 l2 s) := by
  refine Ct.of (L0 := [some (.ref mb), some (.int l1), some (.int l2), none, none, none, none, none]) 5 rfl rfl ⟨rfl, rfl⟩ (Nat.le_of_ble_eq_true rfl) rfl ?_
  unfold fX6_way
  refine rr_iload_n (q := 1) rfl dX6_way_0 rfl ?_
  refine rr_cSi (q := 4) rfl V_X6_isSheet ml_X6_240 ⟨Nat.le_of_ble_eq_true rfl, Nat.le_of_ble_eq_true rfl⟩ (e_X6_isSheet l1 s) rfl rfl (Nat.le_of_ble_eq_true rfl) dX6_way_1 (fun v1 s2 => ?_)
  refine rr_if_ne 14 (q := 7) rfl dX6_way_4 rfl (fun _ => ?_) (fun _ => ?_)
  · refine rr_aload_n (q := 15) rfl dX6_way_14 rfl ?_
    refine rr_get (q := 18) rfl fl_X6_56 w_M rfl dX6_way_15 ?_
    refine rr_iload_n (q := 19) rfl dX6_way_18 rfl ?_
    refine rr_iald (q := 20) rfl w_marr16 dX6_way_19 (fun n3 => ?_)
    refine rr_if_ne 30 (q := 23) rfl dX6_way_20 rfl (fun _ => ?_) (fun _ => ?_)
    · refine rr_iload_n (q := 31) rfl dX6_way_30 rfl ?_
      refine rr_iconst (-1) (q := 32) rfl dX6_way_31 rfl ?_
      refine rr_bipush 7 (q := 34) rfl dX6_way_32 rfl ?_
      refine rr_cSi (q := 37) rfl V_X6_in ml_X6_79 ⟨Nat.le_of_ble_eq_true rfl, Nat.le_of_ble_eq_true rfl⟩ (e_X6_in l2 (-1) 7 s2) rfl rfl (Nat.le_of_ble_eq_true rfl) dX6_way_34 (fun v4 s5 => ?_)
      refine rr_if_ne 47 (q := 40) rfl dX6_way_37 rfl (fun _ => ?_) (fun _ => ?_)
      · refine rr_iconst 0 (q := 48) rfl dX6_way_47 rfl ?_
        refine rr_istore_n (L2 := fun y6 => [some (.ref mb), some (.int l1), some (.int l2), some (.int y6), none, none, none, none]) (q := 49) rfl dX6_way_48 (Nat.le_of_ble_eq_true rfl) (fun _ => rfl) (fun y6 => ?_)
        refine rr_iconst 0 (q := 50) rfl dX6_way_49 rfl ?_
        refine rr_istore (L2 := fun y7 => [some (.ref mb), some (.int l1), some (.int l2), some (.int y6), some (.int y7), none, none, none]) (q := 52) rfl dX6_way_50 (Nat.le_of_ble_eq_true rfl) (fun _ => rfl) (fun y7 => ?_)
        refine rr_iconst 0 (q := 53) rfl dX6_way_52 rfl ?_
        refine rr_istore (L2 := fun y8 => [some (.ref mb), some (.int l1), some (.int l2), some (.int y6), some (.int y7), some (.int y8), none, none]) (q := 55) rfl dX6_way_53 (Nat.le_of_ble_eq_true rfl) (fun _ => rfl) (fun y8 => ?_)
        exact e_X6_way_55 400 l1 l2 y6 y7 y8 s5
      · refine rr_aload_n (q := 41) rfl dX6_way_40 rfl ?_
        refine rr_ldc (q := 43) rfl dX6_way_41 kc_X6_78 ?_
        refine rr_cVi (q := 46) rfl V_X6_finds ml_X6_125 ⟨Nat.le_of_ble_eq_true rfl, Nat.le_of_ble_eq_true rfl⟩ (e_X6_finds (-1000000001) s5) w_M rfl rfl rfl rfl (Nat.le_of_ble_eq_true rfl) dX6_way_43 (fun v9 s10 => ?_)
        exact rr_iret dX6_way_46 rfl
    · refine rr_aload_n (q := 24) rfl dX6_way_23 rfl ?_
      refine rr_ldc (q := 26) rfl dX6_way_24 kc_X6_243 ?_
      refine rr_cVi (q := 29) rfl V_X6_finds ml_X6_125 ⟨Nat.le_of_ble_eq_true rfl, Nat.le_of_ble_eq_true rfl⟩ (e_X6_finds (-1000000006) s2) w_M rfl rfl rfl rfl (Nat.le_of_ble_eq_true rfl) dX6_way_26 (fun v11 s12 => ?_)
      exact rr_iret dX6_way_29 rfl
  · refine rr_aload_n (q := 8) rfl dX6_way_7 rfl ?_
    refine rr_ldc (q := 10) rfl dX6_way_8 kc_X6_78 ?_
    refine rr_cVi (q := 13) rfl V_X6_finds ml_X6_125 ⟨Nat.le_of_ble_eq_true rfl, Nat.le_of_ble_eq_true rfl⟩ (e_X6_finds (-1000000001) s2) w_M rfl rfl rfl rfl (Nat.le_of_ble_eq_true rfl) dX6_way_10 (fun v13 s14 => ?_)
    exact rr_iret dX6_way_13 rfl
def fX6_feed_38b (k38 : Int32 → Int32 → SM → Option (Int32 × SM)) (l1 : Int32) (l3 : Int32) (s : SM) : Option (Int32 × SM) :=
  (if l3 < 0 then
  some (gM s 0 25, s)
  else
  ixg (gM s 0 25) 120 fun n8 => vl (wM s 15 n8 ((l1 >>> ((8 * l3) &&& 31)) &&& 255)) fun s9 =>
  vl (wM s9 0 25 ((gM s9 0 25) + 1)) fun s10 =>
  vl (l3 + (-1)) fun y11 =>
  k38 l1 y11 s10)
set_option maxRecDepth 100000 in
set_option maxHeartbeats 4000000 in
theorem e_X6_feed_38b {G : Cf} {x : SX} {k38 : Int32 → Int32 → SM → Option (Int32 × SM)} (hk38 : ∀ (l1 : Int32) (l3 : Int32) (s : SM), R (wfM x) inI G M_X6_feed 38 [some (.ref mb), some (.int l1), none, some (.int l3)] [] s (k38 l1 l3 s)) (l1 : Int32) (l3 : Int32) (s : SM) : R (wfM x) inI G M_X6_feed 38 [some (.ref mb), some (.int l1), none, some (.int l3)] [] s (fX6_feed_38b k38 l1 l3 s) := by
  unfold fX6_feed_38b
  refine rr_iload_n (q := 39) rfl dX6_feed_38 rfl ?_
  refine rr_if_lt 77 (q := 42) rfl dX6_feed_39 rfl (fun _ => ?_) (fun _ => ?_)
  · refine rr_aload_n (q := 78) rfl dX6_feed_77 rfl ?_
    refine rr_get (q := 81) rfl fl_X6_253 w_M rfl dX6_feed_78 ?_
    exact rr_iret dX6_feed_81 rfl
  · refine rr_aload_n (q := 43) rfl dX6_feed_42 rfl ?_
    refine rr_get (q := 46) rfl fl_X6_53 w_M rfl dX6_feed_43 ?_
    refine rr_aload_n (q := 47) rfl dX6_feed_46 rfl ?_
    refine rr_get (q := 50) rfl fl_X6_253 w_M rfl dX6_feed_47 ?_
    refine rr_iload_n (q := 51) rfl dX6_feed_50 rfl ?_
    refine rr_bipush 8 (q := 53) rfl dX6_feed_51 rfl ?_
    refine rr_iload_n (q := 54) rfl dX6_feed_53 rfl ?_
    refine rr_imul (q := 55) rfl dX6_feed_54 ?_
    refine rr_ishr (q := 56) rfl dX6_feed_55 ?_
    refine rr_sipush 255 (q := 59) rfl dX6_feed_56 rfl ?_
    refine rr_iand (q := 60) rfl dX6_feed_59 ?_
    refine rr_iast (q := 61) rfl w_marr15 (fun _ => u_marr15) dX6_feed_60 (fun n8 s9 => ?_)
    refine rr_aload_n (q := 62) rfl dX6_feed_61 rfl ?_
    refine rr_dup (q := 63) rfl dX6_feed_62 rfl ?_
    refine rr_get (q := 66) rfl fl_X6_253 w_M rfl dX6_feed_63 ?_
    refine rr_iconst 1 (q := 67) rfl dX6_feed_66 rfl ?_
    refine rr_iadd (q := 68) rfl dX6_feed_67 ?_
    refine rr_puti (q := 71) rfl fl_X6_253 fp_X6_25 w_M (Nat.le_of_ble_eq_true rfl) u_M25 dX6_feed_68 (fun s10 => ?_)
    refine rr_iinc (L2 := fun y11 => [some (.ref mb), some (.int l1), none, some (.int y11)]) (q := 74) rfl dX6_feed_71 rfl rfl (Nat.le_of_ble_eq_true rfl) (fun _ => rfl) (fun y11 => ?_)
    refine rr_goto 38 dX6_feed_74 rfl ?_
    exact hk38 l1 y11 s10
def fX6_feed_38 : Nat → Int32 → Int32 → SM → Option (Int32 × SM) := lp (fun _ _ _ => none) (fX6_feed_38b)
theorem e_X6_feed_38 {G : Cf} {x : SX}  (n : Nat) : ∀ (l1 : Int32) (l3 : Int32) (s : SM), R (wfM x) inI G M_X6_feed 38 [some (.ref mb), some (.int l1), none, some (.int l3)] [] s (fX6_feed_38 n l1 l3 s) := by
  unfold fX6_feed_38
  exact rr_lp (P := fun (kz : Int32 → Int32 → SM → Option (Int32 × SM)) => ∀ (l1 : Int32) (l3 : Int32) (s : SM), R (wfM x) inI G M_X6_feed 38 [some (.ref mb), some (.int l1), none, some (.int l3)] [] s (kz l1 l3 s)) (fun _ _ _ => rr_none) (fun kz hkz => fun l1 l3 s => e_X6_feed_38b hkz l1 l3 s) n
def fX6_feed (l1 : Int32) (l2 : Int32) (s : SM) : Option (Int32 × SM) :=
  bd (fX6_in l2 1 4 s) fun v1 s2 =>
  (if v1 = 0 then
  bd (fX6_finds (-1000000001) s2) fun v6 s7 =>
  some (v6, s7)
  else
  (if ((gM s2 0 25) + l2) ≤ 120 then
  vl (l2 - 1) fun y3 =>
  fX6_feed_38 400 l1 y3 s2
  else
  bd (fX6_finds (-1000000002) s2) fun v4 s5 =>
  some (v4, s5)))
set_option maxRecDepth 100000 in
set_option maxHeartbeats 4000000 in
theorem e_X6_feed {G : Cf} {x : SX} (l1 : Int32) (l2 : Int32) (s : SM) : Ct (wfM x) inI G M_X6_feed [.ref mb, .int l1, .int l2] s (fX6_feed l1 l2 s) := by
  refine Ct.of (L0 := [some (.ref mb), some (.int l1), some (.int l2), none]) 1 rfl rfl ⟨rfl, rfl⟩ (Nat.le_of_ble_eq_true rfl) rfl ?_
  unfold fX6_feed
  refine rr_iload_n (q := 1) rfl dX6_feed_0 rfl ?_
  refine rr_iconst 1 (q := 2) rfl dX6_feed_1 rfl ?_
  refine rr_iconst 4 (q := 3) rfl dX6_feed_2 rfl ?_
  refine rr_cSi (q := 6) rfl V_X6_in ml_X6_79 ⟨Nat.le_of_ble_eq_true rfl, Nat.le_of_ble_eq_true rfl⟩ (e_X6_in l2 1 4 s) rfl rfl (Nat.le_of_ble_eq_true rfl) dX6_feed_3 (fun v1 s2 => ?_)
  refine rr_if_ne 16 (q := 9) rfl dX6_feed_6 rfl (fun _ => ?_) (fun _ => ?_)
  · refine rr_aload_n (q := 17) rfl dX6_feed_16 rfl ?_
    refine rr_get (q := 20) rfl fl_X6_253 w_M rfl dX6_feed_17 ?_
    refine rr_iload_n (q := 21) rfl dX6_feed_20 rfl ?_
    refine rr_iadd (q := 22) rfl dX6_feed_21 ?_
    refine rr_bipush 120 (q := 24) rfl dX6_feed_22 rfl ?_
    refine rr_icmp_le 34 (q := 27) rfl dX6_feed_24 rfl (fun _ => ?_) (fun _ => ?_)
    · refine rr_iload_n (q := 35) rfl dX6_feed_34 rfl ?_
      refine rr_iconst 1 (q := 36) rfl dX6_feed_35 rfl ?_
      refine rr_isub (q := 37) rfl dX6_feed_36 ?_
      refine rr_istore_n (L2 := fun y3 => [some (.ref mb), some (.int l1), some (.int l2), some (.int y3)]) (q := 38) rfl dX6_feed_37 (Nat.le_of_ble_eq_true rfl) (fun _ => rfl) (fun y3 => ?_)
      refine rr_mask [true, true, false, true] (L' := [some (.ref mb), some (.int l1), none, some (.int y3)]) rfl ?_
      exact e_X6_feed_38 400 l1 y3 s2
    · refine rr_aload_n (q := 28) rfl dX6_feed_27 rfl ?_
      refine rr_ldc (q := 30) rfl dX6_feed_28 kc_X6_131 ?_
      refine rr_cVi (q := 33) rfl V_X6_finds ml_X6_125 ⟨Nat.le_of_ble_eq_true rfl, Nat.le_of_ble_eq_true rfl⟩ (e_X6_finds (-1000000002) s2) w_M rfl rfl rfl rfl (Nat.le_of_ble_eq_true rfl) dX6_feed_30 (fun v4 s5 => ?_)
      exact rr_iret dX6_feed_33 rfl
  · refine rr_aload_n (q := 10) rfl dX6_feed_9 rfl ?_
    refine rr_ldc (q := 12) rfl dX6_feed_10 kc_X6_78 ?_
    refine rr_cVi (q := 15) rfl V_X6_finds ml_X6_125 ⟨Nat.le_of_ble_eq_true rfl, Nat.le_of_ble_eq_true rfl⟩ (e_X6_finds (-1000000001) s2) w_M rfl rfl rfl rfl (Nat.le_of_ble_eq_true rfl) dX6_feed_12 (fun v6 s7 => ?_)
    exact rr_iret dX6_feed_15 rfl
def fX6_wipe (s : SM) : Option (Int32 × SM) :=
  vl (gM s 0 25) fun y1 =>
  vl (wM s 0 25 0) fun s2 =>
  some (y1, s2)
set_option maxRecDepth 100000 in
set_option maxHeartbeats 4000000 in
theorem e_X6_wipe {G : Cf} {x : SX} (s : SM) : Ct (wfM x) inI G M_X6_wipe [.ref mb] s (fX6_wipe s) := by
  refine Ct.of (L0 := [some (.ref mb), none]) 1 rfl rfl ⟨rfl, rfl⟩ (Nat.le_of_ble_eq_true rfl) rfl ?_
  unfold fX6_wipe
  refine rr_aload_n (q := 1) rfl dX6_wipe_0 rfl ?_
  refine rr_get (q := 4) rfl fl_X6_253 w_M rfl dX6_wipe_1 ?_
  refine rr_istore_n (L2 := fun y1 => [some (.ref mb), some (.int y1)]) (q := 5) rfl dX6_wipe_4 (Nat.le_of_ble_eq_true rfl) (fun _ => rfl) (fun y1 => ?_)
  refine rr_aload_n (q := 6) rfl dX6_wipe_5 rfl ?_
  refine rr_iconst 0 (q := 7) rfl dX6_wipe_6 rfl ?_
  refine rr_puti (q := 10) rfl fl_X6_253 fp_X6_25 w_M (Nat.le_of_ble_eq_true rfl) u_M25 dX6_wipe_7 (fun s2 => ?_)
  refine rr_iload_n (q := 11) rfl dX6_wipe_10 rfl ?_
  exact rr_iret dX6_wipe_11 rfl
def fX6_byteAt (l1 : Int32) (s : SM) : Option (Int32 × SM) :=
  (if (gM s 0 25) ≤ l1 then
  some ((-1), s)
  else
  ixg l1 120 fun n1 =>
  some (gM s 15 n1, s))
set_option maxRecDepth 100000 in
set_option maxHeartbeats 4000000 in
theorem e_X6_byteAt {G : Cf} {x : SX} (l1 : Int32) (s : SM) : Ct (wfM x) inI G M_X6_byteAt [.ref mb, .int l1] s (fX6_byteAt l1 s) := by
  refine Ct.of (L0 := [some (.ref mb), some (.int l1)]) 0 rfl rfl ⟨rfl, rfl⟩ (Nat.le_of_ble_eq_true rfl) rfl ?_
  unfold fX6_byteAt
  refine rr_iload_n (q := 1) rfl dX6_byteAt_0 rfl ?_
  refine rr_aload_n (q := 2) rfl dX6_byteAt_1 rfl ?_
  refine rr_get (q := 5) rfl fl_X6_253 w_M rfl dX6_byteAt_2 ?_
  refine rr_icmp_ge 17 (q := 8) rfl dX6_byteAt_5 rfl (fun _ => ?_) (fun _ => ?_)
  · refine rr_iconst (-1) (q := 18) rfl dX6_byteAt_17 rfl ?_
    exact rr_iret dX6_byteAt_18 rfl
  · refine rr_aload_n (q := 9) rfl dX6_byteAt_8 rfl ?_
    refine rr_get (q := 12) rfl fl_X6_53 w_M rfl dX6_byteAt_9 ?_
    refine rr_iload_n (q := 13) rfl dX6_byteAt_12 rfl ?_
    refine rr_iald (q := 14) rfl w_marr15 dX6_byteAt_13 (fun n1 => ?_)
    refine rr_goto 18 dX6_byteAt_14 rfl ?_
    exact rr_iret dX6_byteAt_18 rfl
def fX6_isLetter (l0 : Int32) (s : SM) : Option (Int32 × SM) :=
  bd (fX6_in l0 97 122 s) fun v1 s2 =>
  gd (v1 = 0 ∨ v1 = 1) (some (v1, s2))
set_option maxRecDepth 100000 in
set_option maxHeartbeats 4000000 in
theorem e_X6_isLetter {G : Cf} {x : SX} (l0 : Int32) (s : SM) : Ct (wfM x) inI G M_X6_isLetter [.int l0] s (fX6_isLetter l0 s) := by
  refine Ct.of (L0 := [some (.int l0)]) 0 rfl rfl ⟨rfl, rfl⟩ (Nat.le_of_ble_eq_true rfl) rfl ?_
  unfold fX6_isLetter
  refine rr_iload_n (q := 1) rfl dX6_isLetter_0 rfl ?_
  refine rr_bipush 97 (q := 3) rfl dX6_isLetter_1 rfl ?_
  refine rr_bipush 122 (q := 5) rfl dX6_isLetter_3 rfl ?_
  refine rr_cSi (q := 8) rfl V_X6_in ml_X6_79 ⟨Nat.le_of_ble_eq_true rfl, Nat.le_of_ble_eq_true rfl⟩ (e_X6_in l0 97 122 s) rfl rfl (Nat.le_of_ble_eq_true rfl) dX6_isLetter_5 (fun v1 s2 => ?_)
  exact rr_gd (fun hb => rr_zret dX6_isLetter_8 rfl hb)
def fX6_isDigit (l0 : Int32) (s : SM) : Option (Int32 × SM) :=
  bd (fX6_in l0 48 57 s) fun v1 s2 =>
  gd (v1 = 0 ∨ v1 = 1) (some (v1, s2))
set_option maxRecDepth 100000 in
set_option maxHeartbeats 4000000 in
theorem e_X6_isDigit {G : Cf} {x : SX} (l0 : Int32) (s : SM) : Ct (wfM x) inI G M_X6_isDigit [.int l0] s (fX6_isDigit l0 s) := by
  refine Ct.of (L0 := [some (.int l0)]) 0 rfl rfl ⟨rfl, rfl⟩ (Nat.le_of_ble_eq_true rfl) rfl ?_
  unfold fX6_isDigit
  refine rr_iload_n (q := 1) rfl dX6_isDigit_0 rfl ?_
  refine rr_bipush 48 (q := 3) rfl dX6_isDigit_1 rfl ?_
  refine rr_bipush 57 (q := 5) rfl dX6_isDigit_3 rfl ?_
  refine rr_cSi (q := 8) rfl V_X6_in ml_X6_79 ⟨Nat.le_of_ble_eq_true rfl, Nat.le_of_ble_eq_true rfl⟩ (e_X6_in l0 48 57 s) rfl rfl (Nat.le_of_ble_eq_true rfl) dX6_isDigit_5 (fun v1 s2 => ?_)
  exact rr_gd (fun hb => rr_zret dX6_isDigit_8 rfl hb)
def fX6_advance_191 (k126 : SM → Option (Unit × SM)) (t1 : Int64) (s : SM) : Option (Unit × SM) :=
  vl (wN s 0 29 t1) fun s29 =>
  vl (wM s29 0 28 ((gM s29 0 28) + 1)) fun s30 =>
  k126 s30
set_option maxRecDepth 100000 in
set_option maxHeartbeats 4000000 in
theorem e_X6_advance_191 {G : Cf} {x : SX} {k126 : SM → Option (Unit × SM)} (hk126 : ∀ (s : SM), R (wfM x) inU G M_X6_advance 126 [some (.ref mb), none] [] s (k126 s)) (t1 : Int64) (s : SM) : R (wfM x) inU G M_X6_advance 191 [some (.ref mb), none] [.long t1, .ref mb] s (fX6_advance_191 k126 t1 s) := by
  unfold fX6_advance_191
  refine rr_putl (q := 194) rfl fl_X6_274 fp_X6_29 w_M (Nat.le_of_ble_eq_true rfl) u_M29 dX6_advance_191 (fun s29 => ?_)
  refine rr_aload_n (q := 195) rfl dX6_advance_194 rfl ?_
  refine rr_dup (q := 196) rfl dX6_advance_195 rfl ?_
  refine rr_get (q := 199) rfl fl_X6_256 w_M rfl dX6_advance_196 ?_
  refine rr_iconst 1 (q := 200) rfl dX6_advance_199 rfl ?_
  refine rr_iadd (q := 201) rfl dX6_advance_200 ?_
  refine rr_puti (q := 204) rfl fl_X6_256 fp_X6_28 w_M (Nat.le_of_ble_eq_true rfl) u_M28 dX6_advance_201 (fun s30 => ?_)
  refine rr_goto 126 dX6_advance_204 rfl ?_
  exact hk126 s30
def fX6_advance_264 (k207 : SM → Option (Unit × SM)) (t1 : Int32) (s : SM) : Option (Unit × SM) :=
  vl (wM s 0 30 t1) fun s31 =>
  vl (wM s31 0 28 ((gM s31 0 28) + 1)) fun s32 =>
  k207 s32
set_option maxRecDepth 100000 in
set_option maxHeartbeats 4000000 in
theorem e_X6_advance_264 {G : Cf} {x : SX} {k207 : SM → Option (Unit × SM)} (hk207 : ∀ (s : SM), R (wfM x) inU G M_X6_advance 207 [some (.ref mb), none] [] s (k207 s)) (t1 : Int32) (s : SM) : R (wfM x) inU G M_X6_advance 264 [some (.ref mb), none] [.int t1, .ref mb] s (fX6_advance_264 k207 t1 s) := by
  unfold fX6_advance_264
  refine rr_puti (q := 267) rfl fl_X6_278 fp_X6_30 w_M (Nat.le_of_ble_eq_true rfl) u_M30 dX6_advance_264 (fun s31 => ?_)
  refine rr_aload_n (q := 268) rfl dX6_advance_267 rfl ?_
  refine rr_dup (q := 269) rfl dX6_advance_268 rfl ?_
  refine rr_get (q := 272) rfl fl_X6_256 w_M rfl dX6_advance_269 ?_
  refine rr_iconst 1 (q := 273) rfl dX6_advance_272 rfl ?_
  refine rr_iadd (q := 274) rfl dX6_advance_273 ?_
  refine rr_puti (q := 277) rfl fl_X6_256 fp_X6_28 w_M (Nat.le_of_ble_eq_true rfl) u_M28 dX6_advance_274 (fun s32 => ?_)
  refine rr_goto 207 dX6_advance_277 rfl ?_
  exact hk207 s32
def fX6_advance_207b (k207 : SM → Option (Unit × SM)) (s : SM) : Option (Unit × SM) :=
  (if (gM s 0 26) = 2 then
  bd (fX6_byteAt (gM s 0 28) s) fun v23 s24 =>
  bd (fX6_isDigit v23 s24) fun v25 s26 =>
  (if v25 = 0 then
  some ((), s26)
  else
  (if (gM s26 0 30) ≤ 99 then
  bd (fX6_byteAt (gM s26 0 28) s26) fun v27 s28 =>
  fX6_advance_264 k207 (((10 * (gM s26 0 30)) + v27) - 48) s28
  else
  fX6_advance_264 k207 1000 s26))
  else
  some ((), s))
set_option maxRecDepth 100000 in
set_option maxHeartbeats 4000000 in
theorem e_X6_advance_207b {G : Cf} {x : SX} {k207 : SM → Option (Unit × SM)} (hk207 : ∀ (s : SM), R (wfM x) inU G M_X6_advance 207 [some (.ref mb), none] [] s (k207 s)) (s : SM) : R (wfM x) inU G M_X6_advance 207 [some (.ref mb), none] [] s (fX6_advance_207b k207 s) := by
  unfold fX6_advance_207b
  refine rr_aload_n (q := 208) rfl dX6_advance_207 rfl ?_
  refine rr_get (q := 211) rfl fl_X6_271 w_M rfl dX6_advance_208 ?_
  refine rr_iconst 2 (q := 212) rfl dX6_advance_211 rfl ?_
  refine rr_icmp_ne 280 (q := 215) rfl dX6_advance_212 rfl (fun _ => ?_) (fun _ => ?_)
  · exact rr_vret dX6_advance_280 rfl
  · refine rr_aload_n (q := 216) rfl dX6_advance_215 rfl ?_
    refine rr_aload_n (q := 217) rfl dX6_advance_216 rfl ?_
    refine rr_get (q := 220) rfl fl_X6_256 w_M rfl dX6_advance_217 ?_
    refine rr_cVi (q := 223) rfl V_X6_byteAt ml_X6_262 ⟨Nat.le_of_ble_eq_true rfl, Nat.le_of_ble_eq_true rfl⟩ (e_X6_byteAt (gM s 0 28) s) w_M rfl rfl rfl rfl (Nat.le_of_ble_eq_true rfl) dX6_advance_220 (fun v23 s24 => ?_)
    refine rr_cSi (q := 226) rfl V_X6_isDigit ml_X6_268 ⟨Nat.le_of_ble_eq_true rfl, Nat.le_of_ble_eq_true rfl⟩ (e_X6_isDigit v23 s24) rfl rfl (Nat.le_of_ble_eq_true rfl) dX6_advance_223 (fun v25 s26 => ?_)
    refine rr_if_eq 280 (q := 229) rfl dX6_advance_226 rfl (fun _ => ?_) (fun _ => ?_)
    · exact rr_vret dX6_advance_280 rfl
    · refine rr_aload_n (q := 230) rfl dX6_advance_229 rfl ?_
      refine rr_aload_n (q := 231) rfl dX6_advance_230 rfl ?_
      refine rr_get (q := 234) rfl fl_X6_278 w_M rfl dX6_advance_231 ?_
      refine rr_bipush 99 (q := 236) rfl dX6_advance_234 rfl ?_
      refine rr_icmp_le 245 (q := 239) rfl dX6_advance_236 rfl (fun _ => ?_) (fun _ => ?_)
      · refine rr_bipush 10 (q := 247) rfl dX6_advance_245 rfl ?_
        refine rr_aload_n (q := 248) rfl dX6_advance_247 rfl ?_
        refine rr_get (q := 251) rfl fl_X6_278 w_M rfl dX6_advance_248 ?_
        refine rr_imul (q := 252) rfl dX6_advance_251 ?_
        refine rr_aload_n (q := 253) rfl dX6_advance_252 rfl ?_
        refine rr_aload_n (q := 254) rfl dX6_advance_253 rfl ?_
        refine rr_get (q := 257) rfl fl_X6_256 w_M rfl dX6_advance_254 ?_
        refine rr_cVi (q := 260) rfl V_X6_byteAt ml_X6_262 ⟨Nat.le_of_ble_eq_true rfl, Nat.le_of_ble_eq_true rfl⟩ (e_X6_byteAt (gM s26 0 28) s26) w_M rfl rfl rfl rfl (Nat.le_of_ble_eq_true rfl) dX6_advance_257 (fun v27 s28 => ?_)
        refine rr_iadd (q := 261) rfl dX6_advance_260 ?_
        refine rr_bipush 48 (q := 263) rfl dX6_advance_261 rfl ?_
        refine rr_isub (q := 264) rfl dX6_advance_263 ?_
        exact e_X6_advance_264 hk207 (((10 * (gM s26 0 30)) + v27) - 48) s28
      · refine rr_sipush 1000 (q := 242) rfl dX6_advance_239 rfl ?_
        refine rr_goto 264 dX6_advance_242 rfl ?_
        exact e_X6_advance_264 hk207 1000 s26
def fX6_advance_207 : Nat → SM → Option (Unit × SM) := lp (fun _ => none) (fX6_advance_207b)
theorem e_X6_advance_207 {G : Cf} {x : SX}  (n : Nat) : ∀ (s : SM), R (wfM x) inU G M_X6_advance 207 [some (.ref mb), none] [] s (fX6_advance_207 n s) := by
  unfold fX6_advance_207
  exact rr_lp (P := fun (kz : SM → Option (Unit × SM)) => ∀ (s : SM), R (wfM x) inU G M_X6_advance 207 [some (.ref mb), none] [] s (kz s)) (fun _ => rr_none) (fun kz hkz => fun s => e_X6_advance_207b hkz s) n
def fX6_advance_126b (k126 : SM → Option (Unit × SM)) (s : SM) : Option (Unit × SM) :=
  (if (gM s 0 26) = 1 then
  bd (fX6_byteAt (gM s 0 28) s) fun v17 s18 =>
  bd (fX6_isLetter v17 s18) fun v19 s20 =>
  (if v19 = 0 then
  fX6_advance_207 400 s20
  else
  (if 12 ≤ ((gM s20 0 28) - (gM s20 0 27)) then
  fX6_advance_191 k126 (-1) s20
  else
  bd (fX6_byteAt (gM s20 0 28) s20) fun v21 s22 =>
  fX6_advance_191 k126 (((27 * (gN s20 0 29)) + (Int32.toInt64 v21)) - 96) s22))
  else
  fX6_advance_207 400 s)
set_option maxRecDepth 100000 in
set_option maxHeartbeats 4000000 in
theorem e_X6_advance_126b {G : Cf} {x : SX} {k126 : SM → Option (Unit × SM)} (hk126 : ∀ (s : SM), R (wfM x) inU G M_X6_advance 126 [some (.ref mb), none] [] s (k126 s)) (s : SM) : R (wfM x) inU G M_X6_advance 126 [some (.ref mb), none] [] s (fX6_advance_126b k126 s) := by
  unfold fX6_advance_126b
  refine rr_aload_n (q := 127) rfl dX6_advance_126 rfl ?_
  refine rr_get (q := 130) rfl fl_X6_271 w_M rfl dX6_advance_127 ?_
  refine rr_iconst 1 (q := 131) rfl dX6_advance_130 rfl ?_
  refine rr_icmp_ne 207 (q := 134) rfl dX6_advance_131 rfl (fun _ => ?_) (fun _ => ?_)
  · exact e_X6_advance_207 400 s
  · refine rr_aload_n (q := 135) rfl dX6_advance_134 rfl ?_
    refine rr_aload_n (q := 136) rfl dX6_advance_135 rfl ?_
    refine rr_get (q := 139) rfl fl_X6_256 w_M rfl dX6_advance_136 ?_
    refine rr_cVi (q := 142) rfl V_X6_byteAt ml_X6_262 ⟨Nat.le_of_ble_eq_true rfl, Nat.le_of_ble_eq_true rfl⟩ (e_X6_byteAt (gM s 0 28) s) w_M rfl rfl rfl rfl (Nat.le_of_ble_eq_true rfl) dX6_advance_139 (fun v17 s18 => ?_)
    refine rr_cSi (q := 145) rfl V_X6_isLetter ml_X6_265 ⟨Nat.le_of_ble_eq_true rfl, Nat.le_of_ble_eq_true rfl⟩ (e_X6_isLetter v17 s18) rfl rfl (Nat.le_of_ble_eq_true rfl) dX6_advance_142 (fun v19 s20 => ?_)
    refine rr_if_eq 207 (q := 148) rfl dX6_advance_145 rfl (fun _ => ?_) (fun _ => ?_)
    · exact e_X6_advance_207 400 s20
    · refine rr_aload_n (q := 149) rfl dX6_advance_148 rfl ?_
      refine rr_aload_n (q := 150) rfl dX6_advance_149 rfl ?_
      refine rr_get (q := 153) rfl fl_X6_256 w_M rfl dX6_advance_150 ?_
      refine rr_aload_n (q := 154) rfl dX6_advance_153 rfl ?_
      refine rr_get (q := 157) rfl fl_X6_259 w_M rfl dX6_advance_154 ?_
      refine rr_isub (q := 158) rfl dX6_advance_157 ?_
      refine rr_bipush 12 (q := 160) rfl dX6_advance_158 rfl ?_
      refine rr_icmp_ge 188 (q := 163) rfl dX6_advance_160 rfl (fun _ => ?_) (fun _ => ?_)
      · refine rr_ldc2 (q := 191) rfl dX6_advance_188 kc_X6_285 ?_
        exact e_X6_advance_191 hk126 (-1) s20
      · refine rr_ldc2 (q := 166) rfl dX6_advance_163 kc_X6_281 ?_
        refine rr_aload_n (q := 167) rfl dX6_advance_166 rfl ?_
        refine rr_get (q := 170) rfl fl_X6_274 w_M rfl dX6_advance_167 ?_
        refine rr_lmul (q := 171) rfl dX6_advance_170 ?_
        refine rr_aload_n (q := 172) rfl dX6_advance_171 rfl ?_
        refine rr_aload_n (q := 173) rfl dX6_advance_172 rfl ?_
        refine rr_get (q := 176) rfl fl_X6_256 w_M rfl dX6_advance_173 ?_
        refine rr_cVi (q := 179) rfl V_X6_byteAt ml_X6_262 ⟨Nat.le_of_ble_eq_true rfl, Nat.le_of_ble_eq_true rfl⟩ (e_X6_byteAt (gM s20 0 28) s20) w_M rfl rfl rfl rfl (Nat.le_of_ble_eq_true rfl) dX6_advance_176 (fun v21 s22 => ?_)
        refine rr_i2l (q := 180) rfl dX6_advance_179 ?_
        refine rr_ladd (q := 181) rfl dX6_advance_180 ?_
        refine rr_ldc2 (q := 184) rfl dX6_advance_181 kc_X6_283 ?_
        refine rr_lsub (q := 185) rfl dX6_advance_184 ?_
        refine rr_goto 191 dX6_advance_185 rfl ?_
        exact e_X6_advance_191 hk126 (((27 * (gN s20 0 29)) + (Int32.toInt64 v21)) - 96) s22
def fX6_advance_126 : Nat → SM → Option (Unit × SM) := lp (fun _ => none) (fX6_advance_126b)
theorem e_X6_advance_126 {G : Cf} {x : SX}  (n : Nat) : ∀ (s : SM), R (wfM x) inU G M_X6_advance 126 [some (.ref mb), none] [] s (fX6_advance_126 n s) := by
  unfold fX6_advance_126
  exact rr_lp (P := fun (kz : SM → Option (Unit × SM)) => ∀ (s : SM), R (wfM x) inU G M_X6_advance 126 [some (.ref mb), none] [] s (kz s)) (fun _ => rr_none) (fun kz hkz => fun s => e_X6_advance_126b hkz s) n
def fX6_advance_105 (t1 : Int32) (s : SM) : Option (Unit × SM) :=
  vl (wM s 0 30 t1) fun s15 =>
  (if (gM s15 0 26) = 3 then
  vl (wM s15 0 28 ((gM s15 0 28) + 1)) fun s16 =>
  fX6_advance_126 400 s16
  else
  fX6_advance_126 400 s15)
set_option maxRecDepth 100000 in
set_option maxHeartbeats 4000000 in
theorem e_X6_advance_105 {G : Cf} {x : SX}  (t1 : Int32) (s : SM) : R (wfM x) inU G M_X6_advance 105 [some (.ref mb), none] [.int t1, .ref mb] s (fX6_advance_105 t1 s) := by
  unfold fX6_advance_105
  refine rr_puti (q := 108) rfl fl_X6_278 fp_X6_30 w_M (Nat.le_of_ble_eq_true rfl) u_M30 dX6_advance_105 (fun s15 => ?_)
  refine rr_aload_n (q := 109) rfl dX6_advance_108 rfl ?_
  refine rr_get (q := 112) rfl fl_X6_271 w_M rfl dX6_advance_109 ?_
  refine rr_iconst 3 (q := 113) rfl dX6_advance_112 rfl ?_
  refine rr_icmp_ne 126 (q := 116) rfl dX6_advance_113 rfl (fun _ => ?_) (fun _ => ?_)
  · exact e_X6_advance_126 400 s15
  · refine rr_aload_n (q := 117) rfl dX6_advance_116 rfl ?_
    refine rr_dup (q := 118) rfl dX6_advance_117 rfl ?_
    refine rr_get (q := 121) rfl fl_X6_256 w_M rfl dX6_advance_118 ?_
    refine rr_iconst 1 (q := 122) rfl dX6_advance_121 rfl ?_
    refine rr_iadd (q := 123) rfl dX6_advance_122 ?_
    refine rr_puti (q := 126) rfl fl_X6_256 fp_X6_28 w_M (Nat.le_of_ble_eq_true rfl) u_M28 dX6_advance_123 (fun s16 => ?_)
    exact e_X6_advance_126 400 s16
def fX6_advance_83 (l1 : Int32) (t1 : Int32) (s : SM) : Option (Unit × SM) :=
  vl (wM s 0 26 t1) fun s13 =>
  vl (wN s13 0 29 0) fun s14 =>
  (if (gM s14 0 26) = 2 then
  fX6_advance_105 0 s14
  else
  fX6_advance_105 l1 s14)
set_option maxRecDepth 100000 in
set_option maxHeartbeats 4000000 in
theorem e_X6_advance_83 {G : Cf} {x : SX}  (l1 : Int32) (t1 : Int32) (s : SM) : R (wfM x) inU G M_X6_advance 83 [some (.ref mb), some (.int l1)] [.int t1, .ref mb] s (fX6_advance_83 l1 t1 s) := by
  unfold fX6_advance_83
  refine rr_puti (q := 86) rfl fl_X6_271 fp_X6_26 w_M (Nat.le_of_ble_eq_true rfl) u_M26 dX6_advance_83 (fun s13 => ?_)
  refine rr_aload_n (q := 87) rfl dX6_advance_86 rfl ?_
  refine rr_lconst 0 (q := 88) rfl dX6_advance_87 rfl ?_
  refine rr_putl (q := 91) rfl fl_X6_274 fp_X6_29 w_M (Nat.le_of_ble_eq_true rfl) u_M29 dX6_advance_88 (fun s14 => ?_)
  refine rr_aload_n (q := 92) rfl dX6_advance_91 rfl ?_
  refine rr_aload_n (q := 93) rfl dX6_advance_92 rfl ?_
  refine rr_get (q := 96) rfl fl_X6_271 w_M rfl dX6_advance_93 ?_
  refine rr_iconst 2 (q := 97) rfl dX6_advance_96 rfl ?_
  refine rr_icmp_ne 104 (q := 100) rfl dX6_advance_97 rfl (fun _ => ?_) (fun _ => ?_)
  · refine rr_iload_n (q := 105) rfl dX6_advance_104 rfl ?_
    refine rr_mask [true, false] (L' := [some (.ref mb), none]) rfl ?_
    exact e_X6_advance_105 l1 s14
  · refine rr_iconst 0 (q := 101) rfl dX6_advance_100 rfl ?_
    refine rr_goto 105 dX6_advance_101 rfl ?_
    refine rr_mask [true, false] (L' := [some (.ref mb), none]) rfl ?_
    exact e_X6_advance_105 0 s14
def fX6_advance_8b (k8 : SM → Option (Unit × SM)) (s : SM) : Option (Unit × SM) :=
  bd (fX6_byteAt (gM s 0 27) s) fun v2 s3 =>
  (if v2 = 32 then
  vl (wM s3 0 27 ((gM s3 0 27) + 1)) fun s12 =>
  k8 s12
  else
  vl (wM s3 0 28 (gM s3 0 27)) fun s4 =>
  bd (fX6_byteAt (gM s4 0 27) s4) fun v5 s6 =>
  vl v5 fun y7 =>
  (if 0 ≤ y7 then
  bd (fX6_isLetter y7 s6) fun v8 s9 =>
  (if v8 = 0 then
  bd (fX6_isDigit y7 s9) fun v10 s11 =>
  (if v10 = 0 then
  fX6_advance_83 y7 3 s11
  else
  fX6_advance_83 y7 2 s11)
  else
  fX6_advance_83 y7 1 s9)
  else
  fX6_advance_83 y7 0 s6))
set_option maxRecDepth 100000 in
set_option maxHeartbeats 4000000 in
theorem e_X6_advance_8b {G : Cf} {x : SX} {k8 : SM → Option (Unit × SM)} (hk8 : ∀ (s : SM), R (wfM x) inU G M_X6_advance 8 [some (.ref mb), none] [] s (k8 s)) (s : SM) : R (wfM x) inU G M_X6_advance 8 [some (.ref mb), none] [] s (fX6_advance_8b k8 s) := by
  unfold fX6_advance_8b
  refine rr_aload_n (q := 9) rfl dX6_advance_8 rfl ?_
  refine rr_aload_n (q := 10) rfl dX6_advance_9 rfl ?_
  refine rr_get (q := 13) rfl fl_X6_259 w_M rfl dX6_advance_10 ?_
  refine rr_cVi (q := 16) rfl V_X6_byteAt ml_X6_262 ⟨Nat.le_of_ble_eq_true rfl, Nat.le_of_ble_eq_true rfl⟩ (e_X6_byteAt (gM s 0 27) s) w_M rfl rfl rfl rfl (Nat.le_of_ble_eq_true rfl) dX6_advance_13 (fun v2 s3 => ?_)
  refine rr_bipush 32 (q := 18) rfl dX6_advance_16 rfl ?_
  refine rr_icmp_ne 34 (q := 21) rfl dX6_advance_18 rfl (fun _ => ?_) (fun _ => ?_)
  · refine rr_aload_n (q := 35) rfl dX6_advance_34 rfl ?_
    refine rr_aload_n (q := 36) rfl dX6_advance_35 rfl ?_
    refine rr_get (q := 39) rfl fl_X6_259 w_M rfl dX6_advance_36 ?_
    refine rr_puti (q := 42) rfl fl_X6_256 fp_X6_28 w_M (Nat.le_of_ble_eq_true rfl) u_M28 dX6_advance_39 (fun s4 => ?_)
    refine rr_aload_n (q := 43) rfl dX6_advance_42 rfl ?_
    refine rr_aload_n (q := 44) rfl dX6_advance_43 rfl ?_
    refine rr_get (q := 47) rfl fl_X6_259 w_M rfl dX6_advance_44 ?_
    refine rr_cVi (q := 50) rfl V_X6_byteAt ml_X6_262 ⟨Nat.le_of_ble_eq_true rfl, Nat.le_of_ble_eq_true rfl⟩ (e_X6_byteAt (gM s4 0 27) s4) w_M rfl rfl rfl rfl (Nat.le_of_ble_eq_true rfl) dX6_advance_47 (fun v5 s6 => ?_)
    refine rr_istore_n (L2 := fun y7 => [some (.ref mb), some (.int y7)]) (q := 51) rfl dX6_advance_50 (Nat.le_of_ble_eq_true rfl) (fun _ => rfl) (fun y7 => ?_)
    refine rr_aload_n (q := 52) rfl dX6_advance_51 rfl ?_
    refine rr_iload_n (q := 53) rfl dX6_advance_52 rfl ?_
    refine rr_if_ge 60 (q := 56) rfl dX6_advance_53 rfl (fun _ => ?_) (fun _ => ?_)
    · refine rr_iload_n (q := 61) rfl dX6_advance_60 rfl ?_
      refine rr_cSi (q := 64) rfl V_X6_isLetter ml_X6_265 ⟨Nat.le_of_ble_eq_true rfl, Nat.le_of_ble_eq_true rfl⟩ (e_X6_isLetter y7 s6) rfl rfl (Nat.le_of_ble_eq_true rfl) dX6_advance_61 (fun v8 s9 => ?_)
      refine rr_if_eq 71 (q := 67) rfl dX6_advance_64 rfl (fun _ => ?_) (fun _ => ?_)
      · refine rr_iload_n (q := 72) rfl dX6_advance_71 rfl ?_
        refine rr_cSi (q := 75) rfl V_X6_isDigit ml_X6_268 ⟨Nat.le_of_ble_eq_true rfl, Nat.le_of_ble_eq_true rfl⟩ (e_X6_isDigit y7 s9) rfl rfl (Nat.le_of_ble_eq_true rfl) dX6_advance_72 (fun v10 s11 => ?_)
        refine rr_if_eq 82 (q := 78) rfl dX6_advance_75 rfl (fun _ => ?_) (fun _ => ?_)
        · refine rr_iconst 3 (q := 83) rfl dX6_advance_82 rfl ?_
          exact e_X6_advance_83 y7 3 s11
        · refine rr_iconst 2 (q := 79) rfl dX6_advance_78 rfl ?_
          refine rr_goto 83 dX6_advance_79 rfl ?_
          exact e_X6_advance_83 y7 2 s11
      · refine rr_iconst 1 (q := 68) rfl dX6_advance_67 rfl ?_
        refine rr_goto 83 dX6_advance_68 rfl ?_
        exact e_X6_advance_83 y7 1 s9
    · refine rr_iconst 0 (q := 57) rfl dX6_advance_56 rfl ?_
      refine rr_goto 83 dX6_advance_57 rfl ?_
      exact e_X6_advance_83 y7 0 s6
  · refine rr_aload_n (q := 22) rfl dX6_advance_21 rfl ?_
    refine rr_dup (q := 23) rfl dX6_advance_22 rfl ?_
    refine rr_get (q := 26) rfl fl_X6_259 w_M rfl dX6_advance_23 ?_
    refine rr_iconst 1 (q := 27) rfl dX6_advance_26 rfl ?_
    refine rr_iadd (q := 28) rfl dX6_advance_27 ?_
    refine rr_puti (q := 31) rfl fl_X6_259 fp_X6_27 w_M (Nat.le_of_ble_eq_true rfl) u_M27 dX6_advance_28 (fun s12 => ?_)
    refine rr_goto 8 dX6_advance_31 rfl ?_
    exact hk8 s12
def fX6_advance_8 : Nat → SM → Option (Unit × SM) := lp (fun _ => none) (fX6_advance_8b)
theorem e_X6_advance_8 {G : Cf} {x : SX}  (n : Nat) : ∀ (s : SM), R (wfM x) inU G M_X6_advance 8 [some (.ref mb), none] [] s (fX6_advance_8 n s) := by
  unfold fX6_advance_8
  exact rr_lp (P := fun (kz : SM → Option (Unit × SM)) => ∀ (s : SM), R (wfM x) inU G M_X6_advance 8 [some (.ref mb), none] [] s (kz s)) (fun _ => rr_none) (fun kz hkz => fun s => e_X6_advance_8b hkz s) n
def fX6_advance (s : SM) : Option (Unit × SM) :=
  vl (wM s 0 27 (gM s 0 28)) fun s1 =>
  fX6_advance_8 400 s1
set_option maxRecDepth 100000 in
set_option maxHeartbeats 4000000 in
theorem e_X6_advance {G : Cf} {x : SX} (s : SM) : Ct (wfM x) inU G M_X6_advance [.ref mb] s (fX6_advance s) := by
  refine Ct.of (L0 := [some (.ref mb), none]) 1 rfl rfl ⟨rfl, rfl⟩ (Nat.le_of_ble_eq_true rfl) rfl ?_
  unfold fX6_advance
  refine rr_aload_n (q := 1) rfl dX6_advance_0 rfl ?_
  refine rr_aload_n (q := 2) rfl dX6_advance_1 rfl ?_
  refine rr_get (q := 5) rfl fl_X6_256 w_M rfl dX6_advance_2 ?_
  refine rr_puti (q := 8) rfl fl_X6_259 fp_X6_27 w_M (Nat.le_of_ble_eq_true rfl) u_M27 dX6_advance_5 (fun s1 => ?_)
  exact e_X6_advance_8 400 s1
def fX6_isWord (l1 : Int64) (s : SM) : Option (Int32 × SM) :=
  (if (gM s 0 26) = 1 then
  (if (lg_cmp (gN s 0 29) l1) = 0 then
  some (1, s)
  else
  some (0, s))
  else
  some (0, s))
set_option maxRecDepth 100000 in
set_option maxHeartbeats 4000000 in
theorem e_X6_isWord {G : Cf} {x : SX} (l1 : Int64) (s : SM) : Ct (wfM x) inI G M_X6_isWord [.ref mb, .long l1] s (fX6_isWord l1 s) := by
  refine Ct.of (L0 := [some (.ref mb), some (.long l1), none]) 0 rfl rfl ⟨rfl, rfl⟩ (Nat.le_of_ble_eq_true rfl) rfl ?_
  unfold fX6_isWord
  refine rr_aload_n (q := 1) rfl dX6_isWord_0 rfl ?_
  refine rr_get (q := 4) rfl fl_X6_271 w_M rfl dX6_isWord_1 ?_
  refine rr_iconst 1 (q := 5) rfl dX6_isWord_4 rfl ?_
  refine rr_icmp_ne 21 (q := 8) rfl dX6_isWord_5 rfl (fun _ => ?_) (fun _ => ?_)
  · refine rr_iconst 0 (q := 22) rfl dX6_isWord_21 rfl ?_
    exact rr_zret dX6_isWord_22 rfl (Or.inl rfl)
  · refine rr_aload_n (q := 9) rfl dX6_isWord_8 rfl ?_
    refine rr_get (q := 12) rfl fl_X6_274 w_M rfl dX6_isWord_9 ?_
    refine rr_lload_n (q := 13) rfl dX6_isWord_12 rfl ?_
    refine rr_lcmp (q := 14) rfl dX6_isWord_13 ?_
    refine rr_if_ne 21 (q := 17) rfl dX6_isWord_14 rfl (fun _ => ?_) (fun _ => ?_)
    · refine rr_iconst 0 (q := 22) rfl dX6_isWord_21 rfl ?_
      exact rr_zret dX6_isWord_22 rfl (Or.inl rfl)
    · refine rr_iconst 1 (q := 18) rfl dX6_isWord_17 rfl ?_
      refine rr_goto 22 dX6_isWord_18 rfl ?_
      exact rr_zret dX6_isWord_22 rfl (Or.inr rfl)
def fX6_kindHere (s : SM) : Option (Int32 × SM) :=
  bd (fX6_isWord 1758676 s) fun v1 s2 =>
  (if v1 = 0 then
  bd (fX6_isWord 161370 s2) fun v3 s4 =>
  (if v3 = 0 then
  bd (fX6_isWord 453928 s4) fun v5 s6 =>
  (if v5 = 0 then
  bd (fX6_isWord 78204737 s6) fun v7 s8 =>
  (if v7 = 0 then
  bd (fX6_isWord 247664 s8) fun v9 s10 =>
  (if v9 = 0 then
  bd (fX6_isWord 410684 s10) fun v11 s12 =>
  (if v11 = 0 then
  some ((-1), s12)
  else
  some (5, s12))
  else
  some (4, s10))
  else
  some (3, s8))
  else
  some (2, s6))
  else
  some (1, s4))
  else
  some (0, s2))
set_option maxRecDepth 100000 in
set_option maxHeartbeats 4000000 in
theorem e_X6_kindHere {G : Cf} {x : SX} (s : SM) : Ct (wfM x) inI G M_X6_kindHere [.ref mb] s (fX6_kindHere s) := by
  refine Ct.of (L0 := [some (.ref mb)]) 0 rfl rfl ⟨rfl, rfl⟩ (Nat.le_of_ble_eq_true rfl) rfl ?_
  unfold fX6_kindHere
  refine rr_aload_n (q := 1) rfl dX6_kindHere_0 rfl ?_
  refine rr_ldc2 (q := 4) rfl dX6_kindHere_1 kc_X6_287 ?_
  refine rr_cVi (q := 7) rfl V_X6_isWord ml_X6_289 ⟨Nat.le_of_ble_eq_true rfl, Nat.le_of_ble_eq_true rfl⟩ (e_X6_isWord 1758676 s) w_M rfl rfl rfl rfl (Nat.le_of_ble_eq_true rfl) dX6_kindHere_4 (fun v1 s2 => ?_)
  refine rr_if_eq 14 (q := 10) rfl dX6_kindHere_7 rfl (fun _ => ?_) (fun _ => ?_)
  · refine rr_aload_n (q := 15) rfl dX6_kindHere_14 rfl ?_
    refine rr_ldc2 (q := 18) rfl dX6_kindHere_15 kc_X6_293 ?_
    refine rr_cVi (q := 21) rfl V_X6_isWord ml_X6_289 ⟨Nat.le_of_ble_eq_true rfl, Nat.le_of_ble_eq_true rfl⟩ (e_X6_isWord 161370 s2) w_M rfl rfl rfl rfl (Nat.le_of_ble_eq_true rfl) dX6_kindHere_18 (fun v3 s4 => ?_)
    refine rr_if_eq 28 (q := 24) rfl dX6_kindHere_21 rfl (fun _ => ?_) (fun _ => ?_)
    · refine rr_aload_n (q := 29) rfl dX6_kindHere_28 rfl ?_
      refine rr_ldc2 (q := 32) rfl dX6_kindHere_29 kc_X6_295 ?_
      refine rr_cVi (q := 35) rfl V_X6_isWord ml_X6_289 ⟨Nat.le_of_ble_eq_true rfl, Nat.le_of_ble_eq_true rfl⟩ (e_X6_isWord 453928 s4) w_M rfl rfl rfl rfl (Nat.le_of_ble_eq_true rfl) dX6_kindHere_32 (fun v5 s6 => ?_)
      refine rr_if_eq 42 (q := 38) rfl dX6_kindHere_35 rfl (fun _ => ?_) (fun _ => ?_)
      · refine rr_aload_n (q := 43) rfl dX6_kindHere_42 rfl ?_
        refine rr_ldc2 (q := 46) rfl dX6_kindHere_43 kc_X6_297 ?_
        refine rr_cVi (q := 49) rfl V_X6_isWord ml_X6_289 ⟨Nat.le_of_ble_eq_true rfl, Nat.le_of_ble_eq_true rfl⟩ (e_X6_isWord 78204737 s6) w_M rfl rfl rfl rfl (Nat.le_of_ble_eq_true rfl) dX6_kindHere_46 (fun v7 s8 => ?_)
        refine rr_if_eq 56 (q := 52) rfl dX6_kindHere_49 rfl (fun _ => ?_) (fun _ => ?_)
        · refine rr_aload_n (q := 57) rfl dX6_kindHere_56 rfl ?_
          refine rr_ldc2 (q := 60) rfl dX6_kindHere_57 kc_X6_299 ?_
          refine rr_cVi (q := 63) rfl V_X6_isWord ml_X6_289 ⟨Nat.le_of_ble_eq_true rfl, Nat.le_of_ble_eq_true rfl⟩ (e_X6_isWord 247664 s8) w_M rfl rfl rfl rfl (Nat.le_of_ble_eq_true rfl) dX6_kindHere_60 (fun v9 s10 => ?_)
          refine rr_if_eq 70 (q := 66) rfl dX6_kindHere_63 rfl (fun _ => ?_) (fun _ => ?_)
          · refine rr_aload_n (q := 71) rfl dX6_kindHere_70 rfl ?_
            refine rr_ldc2 (q := 74) rfl dX6_kindHere_71 kc_X6_301 ?_
            refine rr_cVi (q := 77) rfl V_X6_isWord ml_X6_289 ⟨Nat.le_of_ble_eq_true rfl, Nat.le_of_ble_eq_true rfl⟩ (e_X6_isWord 410684 s10) w_M rfl rfl rfl rfl (Nat.le_of_ble_eq_true rfl) dX6_kindHere_74 (fun v11 s12 => ?_)
            refine rr_if_eq 84 (q := 80) rfl dX6_kindHere_77 rfl (fun _ => ?_) (fun _ => ?_)
            · refine rr_iconst (-1) (q := 85) rfl dX6_kindHere_84 rfl ?_
              exact rr_iret dX6_kindHere_85 rfl
            · refine rr_iconst 5 (q := 81) rfl dX6_kindHere_80 rfl ?_
              refine rr_goto 85 dX6_kindHere_81 rfl ?_
              exact rr_iret dX6_kindHere_85 rfl
          · refine rr_iconst 4 (q := 67) rfl dX6_kindHere_66 rfl ?_
            refine rr_goto 85 dX6_kindHere_67 rfl ?_
            exact rr_iret dX6_kindHere_85 rfl
        · refine rr_iconst 3 (q := 53) rfl dX6_kindHere_52 rfl ?_
          refine rr_goto 85 dX6_kindHere_53 rfl ?_
          exact rr_iret dX6_kindHere_85 rfl
      · refine rr_iconst 2 (q := 39) rfl dX6_kindHere_38 rfl ?_
        refine rr_goto 85 dX6_kindHere_39 rfl ?_
        exact rr_iret dX6_kindHere_85 rfl
    · refine rr_iconst 1 (q := 25) rfl dX6_kindHere_24 rfl ?_
      refine rr_goto 85 dX6_kindHere_25 rfl ?_
      exact rr_iret dX6_kindHere_85 rfl
  · refine rr_iconst 0 (q := 11) rfl dX6_kindHere_10 rfl ?_
    refine rr_goto 85 dX6_kindHere_11 rfl ?_
    exact rr_iret dX6_kindHere_85 rfl
def fX6_wantNumber_35 (l3 : Int32) (t1 : Int32) (s : SM) : Option (Int32 × SM) :=
  gd (t1 = 0 ∨ t1 = 1) <|
  vl (wM s 0 31 t1) fun s4 =>
  (if (gM s4 0 31) = 0 then
  some (l3, s4)
  else
  bd (fX6_advance s4) fun _ s5 =>
  some (l3, s5))
set_option maxRecDepth 100000 in
set_option maxHeartbeats 4000000 in
theorem e_X6_wantNumber_35 {G : Cf} {x : SX}  (l3 : Int32) (t1 : Int32) (s : SM) : R (wfM x) inI G M_X6_wantNumber 35 [some (.ref mb), none, none, some (.int l3)] [.int t1, .ref mb] s (fX6_wantNumber_35 l3 t1 s) := by
  unfold fX6_wantNumber_35
  refine rr_gd (fun hb => ?_)
  refine rr_putz (q := 38) rfl fl_X6_303 fp_X6_31 hb w_M (Nat.le_of_ble_eq_true rfl) u_M31 dX6_wantNumber_35 (fun s4 => ?_)
  refine rr_aload_n (q := 39) rfl dX6_wantNumber_38 rfl ?_
  refine rr_get (q := 42) rfl fl_X6_303 w_M rfl dX6_wantNumber_39 ?_
  refine rr_if_eq 49 (q := 45) rfl dX6_wantNumber_42 rfl (fun _ => ?_) (fun _ => ?_)
  · refine rr_iload_n (q := 50) rfl dX6_wantNumber_49 rfl ?_
    exact rr_iret dX6_wantNumber_50 rfl
  · refine rr_aload_n (q := 46) rfl dX6_wantNumber_45 rfl ?_
    refine rr_cVu (q := 49) rfl V_X6_advance ml_X6_307 ⟨Nat.le_of_ble_eq_true rfl, Nat.le_of_ble_eq_true rfl⟩ (e_X6_advance s4) w_M rfl rfl rfl rfl (Nat.le_of_ble_eq_true rfl) dX6_wantNumber_46 (fun _ s5 => ?_)
    refine rr_iload_n (q := 50) rfl dX6_wantNumber_49 rfl ?_
    exact rr_iret dX6_wantNumber_50 rfl
def fX6_wantNumber_34 (l3 : Int32) (s : SM) : Option (Int32 × SM) :=
  fX6_wantNumber_35 l3 0 s
set_option maxRecDepth 100000 in
set_option maxHeartbeats 4000000 in
theorem e_X6_wantNumber_34 {G : Cf} {x : SX}  (l3 : Int32) (s : SM) : R (wfM x) inI G M_X6_wantNumber 34 [some (.ref mb), none, none, some (.int l3)] [.ref mb] s (fX6_wantNumber_34 l3 s) := by
  unfold fX6_wantNumber_34
  refine rr_iconst 0 (q := 35) rfl dX6_wantNumber_34 rfl ?_
  exact e_X6_wantNumber_35 l3 0 s
def fX6_wantNumber (l1 : Int32) (l2 : Int32) (s : SM) : Option (Int32 × SM) :=
  vl (gM s 0 30) fun y1 =>
  (if (gM s 0 31) = 0 then
  fX6_wantNumber_34 y1 s
  else
  (if (gM s 0 26) = 2 then
  bd (fX6_in y1 l1 l2 s) fun v2 s3 =>
  (if v2 = 0 then
  fX6_wantNumber_34 y1 s3
  else
  fX6_wantNumber_35 y1 1 s3)
  else
  fX6_wantNumber_34 y1 s))
set_option maxRecDepth 100000 in
set_option maxHeartbeats 4000000 in
theorem e_X6_wantNumber {G : Cf} {x : SX} (l1 : Int32) (l2 : Int32) (s : SM) : Ct (wfM x) inI G M_X6_wantNumber [.ref mb, .int l1, .int l2] s (fX6_wantNumber l1 l2 s) := by
  refine Ct.of (L0 := [some (.ref mb), some (.int l1), some (.int l2), none]) 1 rfl rfl ⟨rfl, rfl⟩ (Nat.le_of_ble_eq_true rfl) rfl ?_
  unfold fX6_wantNumber
  refine rr_aload_n (q := 1) rfl dX6_wantNumber_0 rfl ?_
  refine rr_get (q := 4) rfl fl_X6_278 w_M rfl dX6_wantNumber_1 ?_
  refine rr_istore_n (L2 := fun y1 => [some (.ref mb), some (.int l1), some (.int l2), some (.int y1)]) (q := 5) rfl dX6_wantNumber_4 (Nat.le_of_ble_eq_true rfl) (fun _ => rfl) (fun y1 => ?_)
  refine rr_aload_n (q := 6) rfl dX6_wantNumber_5 rfl ?_
  refine rr_aload_n (q := 7) rfl dX6_wantNumber_6 rfl ?_
  refine rr_get (q := 10) rfl fl_X6_303 w_M rfl dX6_wantNumber_7 ?_
  refine rr_if_eq 34 (q := 13) rfl dX6_wantNumber_10 rfl (fun _ => ?_) (fun _ => ?_)
  · refine rr_mask [true, false, false, true] (L' := [some (.ref mb), none, none, some (.int y1)]) rfl ?_
    exact e_X6_wantNumber_34 y1 s
  · refine rr_aload_n (q := 14) rfl dX6_wantNumber_13 rfl ?_
    refine rr_get (q := 17) rfl fl_X6_271 w_M rfl dX6_wantNumber_14 ?_
    refine rr_iconst 2 (q := 18) rfl dX6_wantNumber_17 rfl ?_
    refine rr_icmp_ne 34 (q := 21) rfl dX6_wantNumber_18 rfl (fun _ => ?_) (fun _ => ?_)
    · refine rr_mask [true, false, false, true] (L' := [some (.ref mb), none, none, some (.int y1)]) rfl ?_
      exact e_X6_wantNumber_34 y1 s
    · refine rr_iload_n (q := 22) rfl dX6_wantNumber_21 rfl ?_
      refine rr_iload_n (q := 23) rfl dX6_wantNumber_22 rfl ?_
      refine rr_iload_n (q := 24) rfl dX6_wantNumber_23 rfl ?_
      refine rr_cSi (q := 27) rfl V_X6_in ml_X6_79 ⟨Nat.le_of_ble_eq_true rfl, Nat.le_of_ble_eq_true rfl⟩ (e_X6_in y1 l1 l2 s) rfl rfl (Nat.le_of_ble_eq_true rfl) dX6_wantNumber_24 (fun v2 s3 => ?_)
      refine rr_if_eq 34 (q := 30) rfl dX6_wantNumber_27 rfl (fun _ => ?_) (fun _ => ?_)
      · refine rr_mask [true, false, false, true] (L' := [some (.ref mb), none, none, some (.int y1)]) rfl ?_
        exact e_X6_wantNumber_34 y1 s3
      · refine rr_iconst 1 (q := 31) rfl dX6_wantNumber_30 rfl ?_
        refine rr_goto 35 dX6_wantNumber_31 rfl ?_
        refine rr_mask [true, false, false, true] (L' := [some (.ref mb), none, none, some (.int y1)]) rfl ?_
        exact e_X6_wantNumber_35 y1 1 s3
def fX6_mayWant (l1 : Int64) (l3 : Int32) (l4 : Int32) (l5 : Int32) (s : SM) : Option (Int32 × SM) :=
  (if (gM s 0 31) = 0 then
  some (l5, s)
  else
  bd (fX6_isWord l1 s) fun v1 s2 =>
  (if v1 = 0 then
  some (l5, s2)
  else
  bd (fX6_advance s2) fun _ s3 =>
  bd (fX6_wantNumber l3 l4 s3) fun v4 s5 =>
  some (v4, s5)))
set_option maxRecDepth 100000 in
set_option maxHeartbeats 4000000 in
theorem e_X6_mayWant {G : Cf} {x : SX} (l1 : Int64) (l3 : Int32) (l4 : Int32) (l5 : Int32) (s : SM) : Ct (wfM x) inI G M_X6_mayWant [.ref mb, .long l1, .int l3, .int l4, .int l5] s (fX6_mayWant l1 l3 l4 l5 s) := by
  refine Ct.of (L0 := [some (.ref mb), some (.long l1), none, some (.int l3), some (.int l4), some (.int l5)]) 0 rfl rfl ⟨rfl, rfl⟩ (Nat.le_of_ble_eq_true rfl) rfl ?_
  unfold fX6_mayWant
  refine rr_aload_n (q := 1) rfl dX6_mayWant_0 rfl ?_
  refine rr_get (q := 4) rfl fl_X6_303 w_M rfl dX6_mayWant_1 ?_
  refine rr_if_eq 15 (q := 7) rfl dX6_mayWant_4 rfl (fun _ => ?_) (fun _ => ?_)
  · refine rr_iload (q := 17) rfl dX6_mayWant_15 rfl ?_
    exact rr_iret dX6_mayWant_17 rfl
  · refine rr_aload_n (q := 8) rfl dX6_mayWant_7 rfl ?_
    refine rr_lload_n (q := 9) rfl dX6_mayWant_8 rfl ?_
    refine rr_cVi (q := 12) rfl V_X6_isWord ml_X6_289 ⟨Nat.le_of_ble_eq_true rfl, Nat.le_of_ble_eq_true rfl⟩ (e_X6_isWord l1 s) w_M rfl rfl rfl rfl (Nat.le_of_ble_eq_true rfl) dX6_mayWant_9 (fun v1 s2 => ?_)
    refine rr_if_ne 18 (q := 15) rfl dX6_mayWant_12 rfl (fun _ => ?_) (fun _ => ?_)
    · refine rr_aload_n (q := 19) rfl dX6_mayWant_18 rfl ?_
      refine rr_cVu (q := 22) rfl V_X6_advance ml_X6_307 ⟨Nat.le_of_ble_eq_true rfl, Nat.le_of_ble_eq_true rfl⟩ (e_X6_advance s2) w_M rfl rfl rfl rfl (Nat.le_of_ble_eq_true rfl) dX6_mayWant_19 (fun _ s3 => ?_)
      refine rr_aload_n (q := 23) rfl dX6_mayWant_22 rfl ?_
      refine rr_iload_n (q := 24) rfl dX6_mayWant_23 rfl ?_
      refine rr_iload (q := 26) rfl dX6_mayWant_24 rfl ?_
      refine rr_cVi (q := 29) rfl V_X6_wantNumber ml_X6_310 ⟨Nat.le_of_ble_eq_true rfl, Nat.le_of_ble_eq_true rfl⟩ (e_X6_wantNumber l3 l4 s3) w_M rfl rfl rfl rfl (Nat.le_of_ble_eq_true rfl) dX6_mayWant_26 (fun v4 s5 => ?_)
      exact rr_iret dX6_mayWant_29 rfl
    · refine rr_iload (q := 17) rfl dX6_mayWant_15 rfl ?_
      exact rr_iret dX6_mayWant_17 rfl
def fX6_wantWord_21 (t1 : Int32) (s : SM) : Option (Unit × SM) :=
  gd (t1 = 0 ∨ t1 = 1) <|
  vl (wM s 0 31 t1) fun s3 =>
  (if (gM s3 0 31) = 0 then
  some ((), s3)
  else
  bd (fX6_advance s3) fun _ s4 =>
  some ((), s4))
set_option maxRecDepth 100000 in
set_option maxHeartbeats 4000000 in
theorem e_X6_wantWord_21 {G : Cf} {x : SX}  (t1 : Int32) (s : SM) : R (wfM x) inU G M_X6_wantWord 21 [some (.ref mb), none, none] [.int t1, .ref mb] s (fX6_wantWord_21 t1 s) := by
  unfold fX6_wantWord_21
  refine rr_gd (fun hb => ?_)
  refine rr_putz (q := 24) rfl fl_X6_303 fp_X6_31 hb w_M (Nat.le_of_ble_eq_true rfl) u_M31 dX6_wantWord_21 (fun s3 => ?_)
  refine rr_aload_n (q := 25) rfl dX6_wantWord_24 rfl ?_
  refine rr_get (q := 28) rfl fl_X6_303 w_M rfl dX6_wantWord_25 ?_
  refine rr_if_eq 35 (q := 31) rfl dX6_wantWord_28 rfl (fun _ => ?_) (fun _ => ?_)
  · exact rr_vret dX6_wantWord_35 rfl
  · refine rr_aload_n (q := 32) rfl dX6_wantWord_31 rfl ?_
    refine rr_cVu (q := 35) rfl V_X6_advance ml_X6_307 ⟨Nat.le_of_ble_eq_true rfl, Nat.le_of_ble_eq_true rfl⟩ (e_X6_advance s3) w_M rfl rfl rfl rfl (Nat.le_of_ble_eq_true rfl) dX6_wantWord_32 (fun _ s4 => ?_)
    exact rr_vret dX6_wantWord_35 rfl
def fX6_wantWord_20 (s : SM) : Option (Unit × SM) :=
  fX6_wantWord_21 0 s
set_option maxRecDepth 100000 in
set_option maxHeartbeats 4000000 in
theorem e_X6_wantWord_20 {G : Cf} {x : SX}  (s : SM) : R (wfM x) inU G M_X6_wantWord 20 [some (.ref mb), none, none] [.ref mb] s (fX6_wantWord_20 s) := by
  unfold fX6_wantWord_20
  refine rr_iconst 0 (q := 21) rfl dX6_wantWord_20 rfl ?_
  exact e_X6_wantWord_21 0 s
def fX6_wantWord (l1 : Int64) (s : SM) : Option (Unit × SM) :=
  (if (gM s 0 31) = 0 then
  fX6_wantWord_20 s
  else
  bd (fX6_isWord l1 s) fun v1 s2 =>
  (if v1 = 0 then
  fX6_wantWord_20 s2
  else
  fX6_wantWord_21 1 s2))
set_option maxRecDepth 100000 in
set_option maxHeartbeats 4000000 in
theorem e_X6_wantWord {G : Cf} {x : SX} (l1 : Int64) (s : SM) : Ct (wfM x) inU G M_X6_wantWord [.ref mb, .long l1] s (fX6_wantWord l1 s) := by
  refine Ct.of (L0 := [some (.ref mb), some (.long l1), none]) 0 rfl rfl ⟨rfl, rfl⟩ (Nat.le_of_ble_eq_true rfl) rfl ?_
  unfold fX6_wantWord
  refine rr_aload_n (q := 1) rfl dX6_wantWord_0 rfl ?_
  refine rr_aload_n (q := 2) rfl dX6_wantWord_1 rfl ?_
  refine rr_get (q := 5) rfl fl_X6_303 w_M rfl dX6_wantWord_2 ?_
  refine rr_if_eq 20 (q := 8) rfl dX6_wantWord_5 rfl (fun _ => ?_) (fun _ => ?_)
  · refine rr_mask [true, false, false] (L' := [some (.ref mb), none, none]) rfl ?_
    exact e_X6_wantWord_20 s
  · refine rr_aload_n (q := 9) rfl dX6_wantWord_8 rfl ?_
    refine rr_lload_n (q := 10) rfl dX6_wantWord_9 rfl ?_
    refine rr_cVi (q := 13) rfl V_X6_isWord ml_X6_289 ⟨Nat.le_of_ble_eq_true rfl, Nat.le_of_ble_eq_true rfl⟩ (e_X6_isWord l1 s) w_M rfl rfl rfl rfl (Nat.le_of_ble_eq_true rfl) dX6_wantWord_10 (fun v1 s2 => ?_)
    refine rr_if_eq 20 (q := 16) rfl dX6_wantWord_13 rfl (fun _ => ?_) (fun _ => ?_)
    · refine rr_mask [true, false, false] (L' := [some (.ref mb), none, none]) rfl ?_
      exact e_X6_wantWord_20 s2
    · refine rr_iconst 1 (q := 17) rfl dX6_wantWord_16 rfl ?_
      refine rr_goto 21 dX6_wantWord_17 rfl ?_
      refine rr_mask [true, false, false] (L' := [some (.ref mb), none, none]) rfl ?_
      exact e_X6_wantWord_21 1 s2
def fX6_wantKing (s : SM) : Option (Unit × SM) :=
  bd (fX6_advance s) fun _ s1 =>
  bd (fX6_wantNumber 0 5 s1) fun v2 s3 =>
  vl v2 fun y4 =>
  bd (fX6_wantWord 121788 s3) fun _ s5 =>
  bd (fX6_wantNumber 0 99 s5) fun v6 s7 =>
  vl v6 fun y8 =>
  (if (gM s7 0 31) = 0 then
  some ((), s7)
  else
  ixg y4 6 fun n9 => vl (wM s7 1 n9 y8) fun s10 =>
  some ((), s10))
set_option maxRecDepth 100000 in
set_option maxHeartbeats 4000000 in
theorem e_X6_wantKing {G : Cf} {x : SX} (s : SM) : Ct (wfM x) inU G M_X6_wantKing [.ref mb] s (fX6_wantKing s) := by
  refine Ct.of (L0 := [some (.ref mb), none, none]) 2 rfl rfl ⟨rfl, rfl⟩ (Nat.le_of_ble_eq_true rfl) rfl ?_
  unfold fX6_wantKing
  refine rr_aload_n (q := 1) rfl dX6_wantKing_0 rfl ?_
  refine rr_cVu (q := 4) rfl V_X6_advance ml_X6_307 ⟨Nat.le_of_ble_eq_true rfl, Nat.le_of_ble_eq_true rfl⟩ (e_X6_advance s) w_M rfl rfl rfl rfl (Nat.le_of_ble_eq_true rfl) dX6_wantKing_1 (fun _ s1 => ?_)
  refine rr_aload_n (q := 5) rfl dX6_wantKing_4 rfl ?_
  refine rr_iconst 0 (q := 6) rfl dX6_wantKing_5 rfl ?_
  refine rr_iconst 5 (q := 7) rfl dX6_wantKing_6 rfl ?_
  refine rr_cVi (q := 10) rfl V_X6_wantNumber ml_X6_310 ⟨Nat.le_of_ble_eq_true rfl, Nat.le_of_ble_eq_true rfl⟩ (e_X6_wantNumber 0 5 s1) w_M rfl rfl rfl rfl (Nat.le_of_ble_eq_true rfl) dX6_wantKing_7 (fun v2 s3 => ?_)
  refine rr_istore_n (L2 := fun y4 => [some (.ref mb), some (.int y4), none]) (q := 11) rfl dX6_wantKing_10 (Nat.le_of_ble_eq_true rfl) (fun _ => rfl) (fun y4 => ?_)
  refine rr_aload_n (q := 12) rfl dX6_wantKing_11 rfl ?_
  refine rr_ldc2 (q := 15) rfl dX6_wantKing_12 kc_X6_313 ?_
  refine rr_cVu (q := 18) rfl V_X6_wantWord ml_X6_315 ⟨Nat.le_of_ble_eq_true rfl, Nat.le_of_ble_eq_true rfl⟩ (e_X6_wantWord 121788 s3) w_M rfl rfl rfl rfl (Nat.le_of_ble_eq_true rfl) dX6_wantKing_15 (fun _ s5 => ?_)
  refine rr_aload_n (q := 19) rfl dX6_wantKing_18 rfl ?_
  refine rr_iconst 0 (q := 20) rfl dX6_wantKing_19 rfl ?_
  refine rr_bipush 99 (q := 22) rfl dX6_wantKing_20 rfl ?_
  refine rr_cVi (q := 25) rfl V_X6_wantNumber ml_X6_310 ⟨Nat.le_of_ble_eq_true rfl, Nat.le_of_ble_eq_true rfl⟩ (e_X6_wantNumber 0 99 s5) w_M rfl rfl rfl rfl (Nat.le_of_ble_eq_true rfl) dX6_wantKing_22 (fun v6 s7 => ?_)
  refine rr_istore_n (L2 := fun y8 => [some (.ref mb), some (.int y4), some (.int y8)]) (q := 26) rfl dX6_wantKing_25 (Nat.le_of_ble_eq_true rfl) (fun _ => rfl) (fun y8 => ?_)
  refine rr_aload_n (q := 27) rfl dX6_wantKing_26 rfl ?_
  refine rr_get (q := 30) rfl fl_X6_303 w_M rfl dX6_wantKing_27 ?_
  refine rr_if_eq 40 (q := 33) rfl dX6_wantKing_30 rfl (fun _ => ?_) (fun _ => ?_)
  · exact rr_vret dX6_wantKing_40 rfl
  · refine rr_aload_n (q := 34) rfl dX6_wantKing_33 rfl ?_
    refine rr_get (q := 37) rfl fl_X6_7 w_M rfl dX6_wantKing_34 ?_
    refine rr_iload_n (q := 38) rfl dX6_wantKing_37 rfl ?_
    refine rr_iload_n (q := 39) rfl dX6_wantKing_38 rfl ?_
    refine rr_iast (q := 40) rfl w_marr1 (fun _ => u_marr1) dX6_wantKing_39 (fun n9 s10 => ?_)
    exact rr_vret dX6_wantKing_40 rfl
def fX6_wantChild_29 (l1 : Int32) (s : SM) : Option (Unit × SM) :=
  bd (fX6_wantWord 411 s) fun _ s3 =>
  bd (fX6_wantNumber 0 5 s3) fun v4 s5 =>
  vl v4 fun y6 =>
  bd (fX6_mayWant 459818 0 5 y6 s5) fun v7 s8 =>
  vl v7 fun y9 =>
  bd (fX6_mayWant 12532058 0 99 10 s8) fun v10 s11 =>
  vl v10 fun y12 =>
  (if (gM s11 0 31) = 0 then
  some ((), s11)
  else
  bd (fX6_addChild l1 y6 y9 y12 s11) fun _ s13 =>
  some ((), s13))
set_option maxRecDepth 100000 in
set_option maxHeartbeats 4000000 in
theorem e_X6_wantChild_29 {G : Cf} {x : SX}  (l1 : Int32) (s : SM) : R (wfM x) inU G M_X6_wantChild 29 [some (.ref mb), some (.int l1), none, none, none] [] s (fX6_wantChild_29 l1 s) := by
  unfold fX6_wantChild_29
  refine rr_aload_n (q := 30) rfl dX6_wantChild_29 rfl ?_
  refine rr_ldc2 (q := 33) rfl dX6_wantChild_30 kc_X6_319 ?_
  refine rr_cVu (q := 36) rfl V_X6_wantWord ml_X6_315 ⟨Nat.le_of_ble_eq_true rfl, Nat.le_of_ble_eq_true rfl⟩ (e_X6_wantWord 411 s) w_M rfl rfl rfl rfl (Nat.le_of_ble_eq_true rfl) dX6_wantChild_33 (fun _ s3 => ?_)
  refine rr_aload_n (q := 37) rfl dX6_wantChild_36 rfl ?_
  refine rr_iconst 0 (q := 38) rfl dX6_wantChild_37 rfl ?_
  refine rr_iconst 5 (q := 39) rfl dX6_wantChild_38 rfl ?_
  refine rr_cVi (q := 42) rfl V_X6_wantNumber ml_X6_310 ⟨Nat.le_of_ble_eq_true rfl, Nat.le_of_ble_eq_true rfl⟩ (e_X6_wantNumber 0 5 s3) w_M rfl rfl rfl rfl (Nat.le_of_ble_eq_true rfl) dX6_wantChild_39 (fun v4 s5 => ?_)
  refine rr_istore_n (L2 := fun y6 => [some (.ref mb), some (.int l1), some (.int y6), none, none]) (q := 43) rfl dX6_wantChild_42 (Nat.le_of_ble_eq_true rfl) (fun _ => rfl) (fun y6 => ?_)
  refine rr_aload_n (q := 44) rfl dX6_wantChild_43 rfl ?_
  refine rr_ldc2 (q := 47) rfl dX6_wantChild_44 kc_X6_321 ?_
  refine rr_iconst 0 (q := 48) rfl dX6_wantChild_47 rfl ?_
  refine rr_iconst 5 (q := 49) rfl dX6_wantChild_48 rfl ?_
  refine rr_iload_n (q := 50) rfl dX6_wantChild_49 rfl ?_
  refine rr_cVi (q := 53) rfl V_X6_mayWant ml_X6_323 ⟨Nat.le_of_ble_eq_true rfl, Nat.le_of_ble_eq_true rfl⟩ (e_X6_mayWant 459818 0 5 y6 s5) w_M rfl rfl rfl rfl (Nat.le_of_ble_eq_true rfl) dX6_wantChild_50 (fun v7 s8 => ?_)
  refine rr_istore_n (L2 := fun y9 => [some (.ref mb), some (.int l1), some (.int y6), some (.int y9), none]) (q := 54) rfl dX6_wantChild_53 (Nat.le_of_ble_eq_true rfl) (fun _ => rfl) (fun y9 => ?_)
  refine rr_aload_n (q := 55) rfl dX6_wantChild_54 rfl ?_
  refine rr_ldc2 (q := 58) rfl dX6_wantChild_55 kc_X6_327 ?_
  refine rr_iconst 0 (q := 59) rfl dX6_wantChild_58 rfl ?_
  refine rr_bipush 99 (q := 61) rfl dX6_wantChild_59 rfl ?_
  refine rr_bipush 10 (q := 63) rfl dX6_wantChild_61 rfl ?_
  refine rr_cVi (q := 66) rfl V_X6_mayWant ml_X6_323 ⟨Nat.le_of_ble_eq_true rfl, Nat.le_of_ble_eq_true rfl⟩ (e_X6_mayWant 12532058 0 99 10 s8) w_M rfl rfl rfl rfl (Nat.le_of_ble_eq_true rfl) dX6_wantChild_63 (fun v10 s11 => ?_)
  refine rr_istore (L2 := fun y12 => [some (.ref mb), some (.int l1), some (.int y6), some (.int y9), some (.int y12)]) (q := 68) rfl dX6_wantChild_66 (Nat.le_of_ble_eq_true rfl) (fun _ => rfl) (fun y12 => ?_)
  refine rr_aload_n (q := 69) rfl dX6_wantChild_68 rfl ?_
  refine rr_get (q := 72) rfl fl_X6_303 w_M rfl dX6_wantChild_69 ?_
  refine rr_if_eq 84 (q := 75) rfl dX6_wantChild_72 rfl (fun _ => ?_) (fun _ => ?_)
  · exact rr_vret dX6_wantChild_84 rfl
  · refine rr_aload_n (q := 76) rfl dX6_wantChild_75 rfl ?_
    refine rr_iload_n (q := 77) rfl dX6_wantChild_76 rfl ?_
    refine rr_iload_n (q := 78) rfl dX6_wantChild_77 rfl ?_
    refine rr_iload_n (q := 79) rfl dX6_wantChild_78 rfl ?_
    refine rr_iload (q := 81) rfl dX6_wantChild_79 rfl ?_
    refine rr_cVu (q := 84) rfl V_X6_addChild ml_X6_132 ⟨Nat.le_of_ble_eq_true rfl, Nat.le_of_ble_eq_true rfl⟩ (e_X6_addChild l1 y6 y9 y12 s11) w_M rfl rfl rfl rfl (Nat.le_of_ble_eq_true rfl) dX6_wantChild_81 (fun _ s13 => ?_)
    exact rr_vret dX6_wantChild_84 rfl
def fX6_wantChild_15 (l1 : Int32) (t1 : Int32) (s : SM) : Option (Unit × SM) :=
  gd (t1 = 0 ∨ t1 = 1) <|
  vl (wM s 0 31 t1) fun s1 =>
  (if (gM s1 0 31) = 0 then
  fX6_wantChild_29 l1 s1
  else
  bd (fX6_advance s1) fun _ s2 =>
  fX6_wantChild_29 l1 s2)
set_option maxRecDepth 100000 in
set_option maxHeartbeats 4000000 in
theorem e_X6_wantChild_15 {G : Cf} {x : SX}  (l1 : Int32) (t1 : Int32) (s : SM) : R (wfM x) inU G M_X6_wantChild 15 [some (.ref mb), some (.int l1), none, none, none] [.int t1, .ref mb] s (fX6_wantChild_15 l1 t1 s) := by
  unfold fX6_wantChild_15
  refine rr_gd (fun hb => ?_)
  refine rr_putz (q := 18) rfl fl_X6_303 fp_X6_31 hb w_M (Nat.le_of_ble_eq_true rfl) u_M31 dX6_wantChild_15 (fun s1 => ?_)
  refine rr_aload_n (q := 19) rfl dX6_wantChild_18 rfl ?_
  refine rr_get (q := 22) rfl fl_X6_303 w_M rfl dX6_wantChild_19 ?_
  refine rr_if_eq 29 (q := 25) rfl dX6_wantChild_22 rfl (fun _ => ?_) (fun _ => ?_)
  · exact e_X6_wantChild_29 l1 s1
  · refine rr_aload_n (q := 26) rfl dX6_wantChild_25 rfl ?_
    refine rr_cVu (q := 29) rfl V_X6_advance ml_X6_307 ⟨Nat.le_of_ble_eq_true rfl, Nat.le_of_ble_eq_true rfl⟩ (e_X6_advance s1) w_M rfl rfl rfl rfl (Nat.le_of_ble_eq_true rfl) dX6_wantChild_26 (fun _ s2 => ?_)
    exact e_X6_wantChild_29 l1 s2
def fX6_wantChild (l1 : Int32) (s : SM) : Option (Unit × SM) :=
  (if 14 ≤ (gM s 0 1) then
  fX6_wantChild_15 l1 0 s
  else
  fX6_wantChild_15 l1 1 s)
set_option maxRecDepth 100000 in
set_option maxHeartbeats 4000000 in
theorem e_X6_wantChild {G : Cf} {x : SX} (l1 : Int32) (s : SM) : Ct (wfM x) inU G M_X6_wantChild [.ref mb, .int l1] s (fX6_wantChild l1 s) := by
  refine Ct.of (L0 := [some (.ref mb), some (.int l1), none, none, none]) 3 rfl rfl ⟨rfl, rfl⟩ (Nat.le_of_ble_eq_true rfl) rfl ?_
  unfold fX6_wantChild
  refine rr_aload_n (q := 1) rfl dX6_wantChild_0 rfl ?_
  refine rr_aload_n (q := 2) rfl dX6_wantChild_1 rfl ?_
  refine rr_get (q := 5) rfl fl_X6_83 w_M rfl dX6_wantChild_2 ?_
  refine rr_bipush 14 (q := 7) rfl dX6_wantChild_5 rfl ?_
  refine rr_icmp_ge 14 (q := 10) rfl dX6_wantChild_7 rfl (fun _ => ?_) (fun _ => ?_)
  · refine rr_iconst 0 (q := 15) rfl dX6_wantChild_14 rfl ?_
    exact e_X6_wantChild_15 l1 0 s
  · refine rr_iconst 1 (q := 11) rfl dX6_wantChild_10 rfl ?_
    refine rr_goto 15 dX6_wantChild_11 rfl ?_
    exact e_X6_wantChild_15 l1 1 s
def fX6_wantTreaty_72 (l1 : Int32) (t1 : Int32) (s : SM) : Option (Unit × SM) :=
  gd (t1 = 0 ∨ t1 = 1) <|
  vl (wM s 0 31 t1) fun s7 =>
  bd (fX6_wantNumber 0 5 s7) fun v8 s9 =>
  vl v8 fun y10 =>
  bd (fX6_wantWord 138767 s9) fun _ s11 =>
  bd (fX6_wantNumber 0 999 s11) fun v12 s13 =>
  vl v12 fun y14 =>
  bd (fX6_mayWant 11450658 0 999 999 s13) fun v15 s16 =>
  vl v15 fun y17 =>
  (if (gM s16 0 31) = 0 then
  some ((), s16)
  else
  bd (fX6_addTreaty l1 y10 y14 y17 s16) fun _ s18 =>
  some ((), s18))
set_option maxRecDepth 100000 in
set_option maxHeartbeats 4000000 in
theorem e_X6_wantTreaty_72 {G : Cf} {x : SX}  (l1 : Int32) (t1 : Int32) (s : SM) : R (wfM x) inU G M_X6_wantTreaty 72 [some (.ref mb), some (.int l1), none, none, none] [.int t1, .ref mb] s (fX6_wantTreaty_72 l1 t1 s) := by
  unfold fX6_wantTreaty_72
  refine rr_gd (fun hb => ?_)
  refine rr_putz (q := 75) rfl fl_X6_303 fp_X6_31 hb w_M (Nat.le_of_ble_eq_true rfl) u_M31 dX6_wantTreaty_72 (fun s7 => ?_)
  refine rr_aload_n (q := 76) rfl dX6_wantTreaty_75 rfl ?_
  refine rr_iconst 0 (q := 77) rfl dX6_wantTreaty_76 rfl ?_
  refine rr_iconst 5 (q := 78) rfl dX6_wantTreaty_77 rfl ?_
  refine rr_cVi (q := 81) rfl V_X6_wantNumber ml_X6_310 ⟨Nat.le_of_ble_eq_true rfl, Nat.le_of_ble_eq_true rfl⟩ (e_X6_wantNumber 0 5 s7) w_M rfl rfl rfl rfl (Nat.le_of_ble_eq_true rfl) dX6_wantTreaty_78 (fun v8 s9 => ?_)
  refine rr_istore_n (L2 := fun y10 => [some (.ref mb), some (.int l1), some (.int y10), none, none]) (q := 82) rfl dX6_wantTreaty_81 (Nat.le_of_ble_eq_true rfl) (fun _ => rfl) (fun y10 => ?_)
  refine rr_aload_n (q := 83) rfl dX6_wantTreaty_82 rfl ?_
  refine rr_ldc2 (q := 86) rfl dX6_wantTreaty_83 kc_X6_331 ?_
  refine rr_cVu (q := 89) rfl V_X6_wantWord ml_X6_315 ⟨Nat.le_of_ble_eq_true rfl, Nat.le_of_ble_eq_true rfl⟩ (e_X6_wantWord 138767 s9) w_M rfl rfl rfl rfl (Nat.le_of_ble_eq_true rfl) dX6_wantTreaty_86 (fun _ s11 => ?_)
  refine rr_aload_n (q := 90) rfl dX6_wantTreaty_89 rfl ?_
  refine rr_iconst 0 (q := 91) rfl dX6_wantTreaty_90 rfl ?_
  refine rr_sipush 999 (q := 94) rfl dX6_wantTreaty_91 rfl ?_
  refine rr_cVi (q := 97) rfl V_X6_wantNumber ml_X6_310 ⟨Nat.le_of_ble_eq_true rfl, Nat.le_of_ble_eq_true rfl⟩ (e_X6_wantNumber 0 999 s11) w_M rfl rfl rfl rfl (Nat.le_of_ble_eq_true rfl) dX6_wantTreaty_94 (fun v12 s13 => ?_)
  refine rr_istore_n (L2 := fun y14 => [some (.ref mb), some (.int l1), some (.int y10), some (.int y14), none]) (q := 98) rfl dX6_wantTreaty_97 (Nat.le_of_ble_eq_true rfl) (fun _ => rfl) (fun y14 => ?_)
  refine rr_aload_n (q := 99) rfl dX6_wantTreaty_98 rfl ?_
  refine rr_ldc2 (q := 102) rfl dX6_wantTreaty_99 kc_X6_333 ?_
  refine rr_iconst 0 (q := 103) rfl dX6_wantTreaty_102 rfl ?_
  refine rr_sipush 999 (q := 106) rfl dX6_wantTreaty_103 rfl ?_
  refine rr_sipush 999 (q := 109) rfl dX6_wantTreaty_106 rfl ?_
  refine rr_cVi (q := 112) rfl V_X6_mayWant ml_X6_323 ⟨Nat.le_of_ble_eq_true rfl, Nat.le_of_ble_eq_true rfl⟩ (e_X6_mayWant 11450658 0 999 999 s13) w_M rfl rfl rfl rfl (Nat.le_of_ble_eq_true rfl) dX6_wantTreaty_109 (fun v15 s16 => ?_)
  refine rr_istore (L2 := fun y17 => [some (.ref mb), some (.int l1), some (.int y10), some (.int y14), some (.int y17)]) (q := 114) rfl dX6_wantTreaty_112 (Nat.le_of_ble_eq_true rfl) (fun _ => rfl) (fun y17 => ?_)
  refine rr_aload_n (q := 115) rfl dX6_wantTreaty_114 rfl ?_
  refine rr_get (q := 118) rfl fl_X6_303 w_M rfl dX6_wantTreaty_115 ?_
  refine rr_if_eq 130 (q := 121) rfl dX6_wantTreaty_118 rfl (fun _ => ?_) (fun _ => ?_)
  · exact rr_vret dX6_wantTreaty_130 rfl
  · refine rr_aload_n (q := 122) rfl dX6_wantTreaty_121 rfl ?_
    refine rr_iload_n (q := 123) rfl dX6_wantTreaty_122 rfl ?_
    refine rr_iload_n (q := 124) rfl dX6_wantTreaty_123 rfl ?_
    refine rr_iload_n (q := 125) rfl dX6_wantTreaty_124 rfl ?_
    refine rr_iload (q := 127) rfl dX6_wantTreaty_125 rfl ?_
    refine rr_cVu (q := 130) rfl V_X6_addTreaty ml_X6_155 ⟨Nat.le_of_ble_eq_true rfl, Nat.le_of_ble_eq_true rfl⟩ (e_X6_addTreaty l1 y10 y14 y17 s16) w_M rfl rfl rfl rfl (Nat.le_of_ble_eq_true rfl) dX6_wantTreaty_127 (fun _ s18 => ?_)
    exact rr_vret dX6_wantTreaty_130 rfl
def fX6_wantTreaty_67 (l1 : Int32) (s : SM) : Option (Unit × SM) :=
  fX6_wantTreaty_72 l1 1 s
set_option maxRecDepth 100000 in
set_option maxHeartbeats 4000000 in
theorem e_X6_wantTreaty_67 {G : Cf} {x : SX}  (l1 : Int32) (s : SM) : R (wfM x) inU G M_X6_wantTreaty 67 [some (.ref mb), some (.int l1), none, none, none] [.ref mb] s (fX6_wantTreaty_67 l1 s) := by
  unfold fX6_wantTreaty_67
  refine rr_iconst 1 (q := 68) rfl dX6_wantTreaty_67 rfl ?_
  refine rr_goto 72 dX6_wantTreaty_68 rfl ?_
  exact e_X6_wantTreaty_72 l1 1 s
def fX6_wantTreaty_71 (l1 : Int32) (s : SM) : Option (Unit × SM) :=
  fX6_wantTreaty_72 l1 0 s
set_option maxRecDepth 100000 in
set_option maxHeartbeats 4000000 in
theorem e_X6_wantTreaty_71 {G : Cf} {x : SX}  (l1 : Int32) (s : SM) : R (wfM x) inU G M_X6_wantTreaty 71 [some (.ref mb), some (.int l1), none, none, none] [.ref mb] s (fX6_wantTreaty_71 l1 s) := by
  unfold fX6_wantTreaty_71
  refine rr_iconst 0 (q := 72) rfl dX6_wantTreaty_71 rfl ?_
  exact e_X6_wantTreaty_72 l1 0 s
def fX6_wantTreaty_29 (s : SM) : Option (Unit × SM) :=
  bd (fX6_wantNumber 0 5 s) fun v3 s4 =>
  vl v3 fun y5 =>
  bd (fX6_wantWord 555 s4) fun _ s6 =>
  (if (gM s6 0 31) = 0 then
  fX6_wantTreaty_71 y5 s6
  else
  (if (gM s6 0 26) = 2 then
  (if (gM s6 0 30) = y5 then
  fX6_wantTreaty_71 y5 s6
  else
  fX6_wantTreaty_67 y5 s6)
  else
  fX6_wantTreaty_67 y5 s6))
set_option maxRecDepth 100000 in
set_option maxHeartbeats 4000000 in
theorem e_X6_wantTreaty_29 {G : Cf} {x : SX}  (s : SM) : R (wfM x) inU G M_X6_wantTreaty 29 [some (.ref mb), none, none, none, none] [] s (fX6_wantTreaty_29 s) := by
  unfold fX6_wantTreaty_29
  refine rr_aload_n (q := 30) rfl dX6_wantTreaty_29 rfl ?_
  refine rr_iconst 0 (q := 31) rfl dX6_wantTreaty_30 rfl ?_
  refine rr_iconst 5 (q := 32) rfl dX6_wantTreaty_31 rfl ?_
  refine rr_cVi (q := 35) rfl V_X6_wantNumber ml_X6_310 ⟨Nat.le_of_ble_eq_true rfl, Nat.le_of_ble_eq_true rfl⟩ (e_X6_wantNumber 0 5 s) w_M rfl rfl rfl rfl (Nat.le_of_ble_eq_true rfl) dX6_wantTreaty_32 (fun v3 s4 => ?_)
  refine rr_istore_n (L2 := fun y5 => [some (.ref mb), some (.int y5), none, none, none]) (q := 36) rfl dX6_wantTreaty_35 (Nat.le_of_ble_eq_true rfl) (fun _ => rfl) (fun y5 => ?_)
  refine rr_aload_n (q := 37) rfl dX6_wantTreaty_36 rfl ?_
  refine rr_ldc2 (q := 40) rfl dX6_wantTreaty_37 kc_X6_329 ?_
  refine rr_cVu (q := 43) rfl V_X6_wantWord ml_X6_315 ⟨Nat.le_of_ble_eq_true rfl, Nat.le_of_ble_eq_true rfl⟩ (e_X6_wantWord 555 s4) w_M rfl rfl rfl rfl (Nat.le_of_ble_eq_true rfl) dX6_wantTreaty_40 (fun _ s6 => ?_)
  refine rr_aload_n (q := 44) rfl dX6_wantTreaty_43 rfl ?_
  refine rr_aload_n (q := 45) rfl dX6_wantTreaty_44 rfl ?_
  refine rr_get (q := 48) rfl fl_X6_303 w_M rfl dX6_wantTreaty_45 ?_
  refine rr_if_eq 71 (q := 51) rfl dX6_wantTreaty_48 rfl (fun _ => ?_) (fun _ => ?_)
  · exact e_X6_wantTreaty_71 y5 s6
  · refine rr_aload_n (q := 52) rfl dX6_wantTreaty_51 rfl ?_
    refine rr_get (q := 55) rfl fl_X6_271 w_M rfl dX6_wantTreaty_52 ?_
    refine rr_iconst 2 (q := 56) rfl dX6_wantTreaty_55 rfl ?_
    refine rr_icmp_ne 67 (q := 59) rfl dX6_wantTreaty_56 rfl (fun _ => ?_) (fun _ => ?_)
    · exact e_X6_wantTreaty_67 y5 s6
    · refine rr_aload_n (q := 60) rfl dX6_wantTreaty_59 rfl ?_
      refine rr_get (q := 63) rfl fl_X6_278 w_M rfl dX6_wantTreaty_60 ?_
      refine rr_iload_n (q := 64) rfl dX6_wantTreaty_63 rfl ?_
      refine rr_icmp_eq 71 (q := 67) rfl dX6_wantTreaty_64 rfl (fun _ => ?_) (fun _ => ?_)
      · exact e_X6_wantTreaty_71 y5 s6
      · exact e_X6_wantTreaty_67 y5 s6
def fX6_wantTreaty_15 (t1 : Int32) (s : SM) : Option (Unit × SM) :=
  gd (t1 = 0 ∨ t1 = 1) <|
  vl (wM s 0 31 t1) fun s1 =>
  (if (gM s1 0 31) = 0 then
  fX6_wantTreaty_29 s1
  else
  bd (fX6_advance s1) fun _ s2 =>
  fX6_wantTreaty_29 s2)
set_option maxRecDepth 100000 in
set_option maxHeartbeats 4000000 in
theorem e_X6_wantTreaty_15 {G : Cf} {x : SX}  (t1 : Int32) (s : SM) : R (wfM x) inU G M_X6_wantTreaty 15 [some (.ref mb), none, none, none, none] [.int t1, .ref mb] s (fX6_wantTreaty_15 t1 s) := by
  unfold fX6_wantTreaty_15
  refine rr_gd (fun hb => ?_)
  refine rr_putz (q := 18) rfl fl_X6_303 fp_X6_31 hb w_M (Nat.le_of_ble_eq_true rfl) u_M31 dX6_wantTreaty_15 (fun s1 => ?_)
  refine rr_aload_n (q := 19) rfl dX6_wantTreaty_18 rfl ?_
  refine rr_get (q := 22) rfl fl_X6_303 w_M rfl dX6_wantTreaty_19 ?_
  refine rr_if_eq 29 (q := 25) rfl dX6_wantTreaty_22 rfl (fun _ => ?_) (fun _ => ?_)
  · exact e_X6_wantTreaty_29 s1
  · refine rr_aload_n (q := 26) rfl dX6_wantTreaty_25 rfl ?_
    refine rr_cVu (q := 29) rfl V_X6_advance ml_X6_307 ⟨Nat.le_of_ble_eq_true rfl, Nat.le_of_ble_eq_true rfl⟩ (e_X6_advance s1) w_M rfl rfl rfl rfl (Nat.le_of_ble_eq_true rfl) dX6_wantTreaty_26 (fun _ s2 => ?_)
    exact e_X6_wantTreaty_29 s2
def fX6_wantTreaty (s : SM) : Option (Unit × SM) :=
  (if 12 ≤ (gM s 0 5) then
  fX6_wantTreaty_15 0 s
  else
  fX6_wantTreaty_15 1 s)
set_option maxRecDepth 100000 in
set_option maxHeartbeats 4000000 in
theorem e_X6_wantTreaty {G : Cf} {x : SX} (s : SM) : Ct (wfM x) inU G M_X6_wantTreaty [.ref mb] s (fX6_wantTreaty s) := by
  refine Ct.of (L0 := [some (.ref mb), none, none, none, none]) 4 rfl rfl ⟨rfl, rfl⟩ (Nat.le_of_ble_eq_true rfl) rfl ?_
  unfold fX6_wantTreaty
  refine rr_aload_n (q := 1) rfl dX6_wantTreaty_0 rfl ?_
  refine rr_aload_n (q := 2) rfl dX6_wantTreaty_1 rfl ?_
  refine rr_get (q := 5) rfl fl_X6_87 w_M rfl dX6_wantTreaty_2 ?_
  refine rr_bipush 12 (q := 7) rfl dX6_wantTreaty_5 rfl ?_
  refine rr_icmp_ge 14 (q := 10) rfl dX6_wantTreaty_7 rfl (fun _ => ?_) (fun _ => ?_)
  · refine rr_iconst 0 (q := 15) rfl dX6_wantTreaty_14 rfl ?_
    exact e_X6_wantTreaty_15 0 s
  · refine rr_iconst 1 (q := 11) rfl dX6_wantTreaty_10 rfl ?_
    refine rr_goto 15 dX6_wantTreaty_11 rfl ?_
    exact e_X6_wantTreaty_15 1 s
def fX6_wantItem (s : SM) : Option (Unit × SM) :=
  bd (fX6_isWord 223459 s) fun v1 s2 =>
  (if v1 = 0 then
  bd (fX6_isWord 464134 s2) fun v3 s4 =>
  (if v3 = 0 then
  bd (fX6_kindHere s4) fun v5 s6 =>
  (if v5 < 0 then
  vl (wM s6 0 31 0) fun s7 =>
  some ((), s7)
  else
  bd (fX6_kindHere s6) fun v8 s9 =>
  bd (fX6_wantChild v8 s9) fun _ s10 =>
  some ((), s10))
  else
  bd (fX6_wantTreaty s4) fun _ s11 =>
  some ((), s11))
  else
  bd (fX6_wantKing s2) fun _ s12 =>
  some ((), s12))
set_option maxRecDepth 100000 in
set_option maxHeartbeats 4000000 in
theorem e_X6_wantItem {G : Cf} {x : SX} (s : SM) : Ct (wfM x) inU G M_X6_wantItem [.ref mb] s (fX6_wantItem s) := by
  refine Ct.of (L0 := [some (.ref mb)]) 0 rfl rfl ⟨rfl, rfl⟩ (Nat.le_of_ble_eq_true rfl) rfl ?_
  unfold fX6_wantItem
  refine rr_aload_n (q := 1) rfl dX6_wantItem_0 rfl ?_
  refine rr_ldc2 (q := 4) rfl dX6_wantItem_1 kc_X6_335 ?_
  refine rr_cVi (q := 7) rfl V_X6_isWord ml_X6_289 ⟨Nat.le_of_ble_eq_true rfl, Nat.le_of_ble_eq_true rfl⟩ (e_X6_isWord 223459 s) w_M rfl rfl rfl rfl (Nat.le_of_ble_eq_true rfl) dX6_wantItem_4 (fun v1 s2 => ?_)
  refine rr_if_eq 17 (q := 10) rfl dX6_wantItem_7 rfl (fun _ => ?_) (fun _ => ?_)
  · refine rr_aload_n (q := 18) rfl dX6_wantItem_17 rfl ?_
    refine rr_ldc2 (q := 21) rfl dX6_wantItem_18 kc_X6_340 ?_
    refine rr_cVi (q := 24) rfl V_X6_isWord ml_X6_289 ⟨Nat.le_of_ble_eq_true rfl, Nat.le_of_ble_eq_true rfl⟩ (e_X6_isWord 464134 s2) w_M rfl rfl rfl rfl (Nat.le_of_ble_eq_true rfl) dX6_wantItem_21 (fun v3 s4 => ?_)
    refine rr_if_eq 34 (q := 27) rfl dX6_wantItem_24 rfl (fun _ => ?_) (fun _ => ?_)
    · refine rr_aload_n (q := 35) rfl dX6_wantItem_34 rfl ?_
      refine rr_cVi (q := 38) rfl V_X6_kindHere ml_X6_345 ⟨Nat.le_of_ble_eq_true rfl, Nat.le_of_ble_eq_true rfl⟩ (e_X6_kindHere s4) w_M rfl rfl rfl rfl (Nat.le_of_ble_eq_true rfl) dX6_wantItem_35 (fun v5 s6 => ?_)
      refine rr_if_lt 52 (q := 41) rfl dX6_wantItem_38 rfl (fun _ => ?_) (fun _ => ?_)
      · refine rr_aload_n (q := 53) rfl dX6_wantItem_52 rfl ?_
        refine rr_iconst 0 (q := 54) rfl dX6_wantItem_53 rfl ?_
        refine rr_putz (q := 57) rfl fl_X6_303 fp_X6_31 (Or.inl rfl) w_M (Nat.le_of_ble_eq_true rfl) u_M31 dX6_wantItem_54 (fun s7 => ?_)
        exact rr_vret dX6_wantItem_57 rfl
      · refine rr_aload_n (q := 42) rfl dX6_wantItem_41 rfl ?_
        refine rr_aload_n (q := 43) rfl dX6_wantItem_42 rfl ?_
        refine rr_cVi (q := 46) rfl V_X6_kindHere ml_X6_345 ⟨Nat.le_of_ble_eq_true rfl, Nat.le_of_ble_eq_true rfl⟩ (e_X6_kindHere s6) w_M rfl rfl rfl rfl (Nat.le_of_ble_eq_true rfl) dX6_wantItem_43 (fun v8 s9 => ?_)
        refine rr_cVu (q := 49) rfl V_X6_wantChild ml_X6_348 ⟨Nat.le_of_ble_eq_true rfl, Nat.le_of_ble_eq_true rfl⟩ (e_X6_wantChild v8 s9) w_M rfl rfl rfl rfl (Nat.le_of_ble_eq_true rfl) dX6_wantItem_46 (fun _ s10 => ?_)
        refine rr_goto 57 dX6_wantItem_49 rfl ?_
        exact rr_vret dX6_wantItem_57 rfl
    · refine rr_aload_n (q := 28) rfl dX6_wantItem_27 rfl ?_
      refine rr_cVu (q := 31) rfl V_X6_wantTreaty ml_X6_342 ⟨Nat.le_of_ble_eq_true rfl, Nat.le_of_ble_eq_true rfl⟩ (e_X6_wantTreaty s4) w_M rfl rfl rfl rfl (Nat.le_of_ble_eq_true rfl) dX6_wantItem_28 (fun _ s11 => ?_)
      refine rr_goto 57 dX6_wantItem_31 rfl ?_
      exact rr_vret dX6_wantItem_57 rfl
  · refine rr_aload_n (q := 11) rfl dX6_wantItem_10 rfl ?_
    refine rr_cVu (q := 14) rfl V_X6_wantKing ml_X6_337 ⟨Nat.le_of_ble_eq_true rfl, Nat.le_of_ble_eq_true rfl⟩ (e_X6_wantKing s2) w_M rfl rfl rfl rfl (Nat.le_of_ble_eq_true rfl) dX6_wantItem_11 (fun _ s12 => ?_)
    refine rr_goto 57 dX6_wantItem_14 rfl ?_
    exact rr_vret dX6_wantItem_57 rfl
def fX6_moveRow_38 (a1 : Nat) (a4 : Nat) (k3 : Int32 → Int32 → Int32 → SM → Option (Unit × SM)) (l2 : Int32) (l3 : Int32) (l5 : Int32) (s : SM) : Option (Unit × SM) :=
  vl (wM s 0 39 ((gM s 0 39) + 1)) fun s8 =>
  vl (l5 + 1) fun y9 =>
  k3 l2 l3 y9 s8
set_option maxRecDepth 100000 in
set_option maxHeartbeats 4000000 in
theorem e_X6_moveRow_38 {G : Cf} {x : SX} {a1 : Nat} {a4 : Nat} (ha1 : arrM a1) (ha4 : arrM a4) {k3 : Int32 → Int32 → Int32 → SM → Option (Unit × SM)} (hk3 : ∀ (l2 : Int32) (l3 : Int32) (l5 : Int32) (s : SM), R (wfM x) inU G M_X6_moveRow 3 [some (.ref mb), some (.ref (mb + a1)), some (.int l2), some (.int l3), some (.ref (mb + a4)), some (.int l5)] [] s (k3 l2 l3 l5 s)) (l2 : Int32) (l3 : Int32) (l5 : Int32) (s : SM) : R (wfM x) inU G M_X6_moveRow 38 [some (.ref mb), some (.ref (mb + a1)), some (.int l2), some (.int l3), some (.ref (mb + a4)), some (.int l5)] [] s (fX6_moveRow_38 a1 a4 k3 l2 l3 l5 s) := by
  unfold fX6_moveRow_38
  refine rr_aload_n (q := 39) rfl dX6_moveRow_38 rfl ?_
  refine rr_dup (q := 40) rfl dX6_moveRow_39 rfl ?_
  refine rr_get (q := 43) rfl fl_X6_368 w_M rfl dX6_moveRow_40 ?_
  refine rr_iconst 1 (q := 44) rfl dX6_moveRow_43 rfl ?_
  refine rr_iadd (q := 45) rfl dX6_moveRow_44 ?_
  refine rr_puti (q := 48) rfl fl_X6_368 fp_X6_39 w_M (Nat.le_of_ble_eq_true rfl) u_M39 dX6_moveRow_45 (fun s8 => ?_)
  refine rr_iinc (L2 := fun y9 => [some (.ref mb), some (.ref (mb + a1)), some (.int l2), some (.int l3), some (.ref (mb + a4)), some (.int y9)]) (q := 51) rfl dX6_moveRow_48 rfl rfl (Nat.le_of_ble_eq_true rfl) (fun _ => rfl) (fun y9 => ?_)
  refine rr_goto 3 dX6_moveRow_51 rfl ?_
  exact hk3 l2 l3 y9 s8
def fX6_moveRow_3b (a1 : Nat) (a4 : Nat) (k3 : Int32 → Int32 → Int32 → SM → Option (Unit × SM)) (l2 : Int32) (l3 : Int32) (l5 : Int32) (s : SM) : Option (Unit × SM) :=
  (if l2 ≤ l5 then
  some ((), s)
  else
  (if l3 = 0 then
  ixg (gM s 0 39) (lenM a4) fun n2 =>
  ixg l5 (lenM a1) fun n3 => vl (wM s a1 n3 (gM s a4 n2)) fun s4 =>
  fX6_moveRow_38 a1 a4 k3 l2 l3 l5 s4
  else
  ixg l5 (lenM a1) fun n5 =>
  ixg (gM s 0 39) (lenM a4) fun n6 => vl (wM s a4 n6 (gM s a1 n5)) fun s7 =>
  fX6_moveRow_38 a1 a4 k3 l2 l3 l5 s7))
set_option maxRecDepth 100000 in
set_option maxHeartbeats 4000000 in
theorem e_X6_moveRow_3b {G : Cf} {x : SX} {a1 : Nat} {a4 : Nat} (ha1 : arrM a1) (ha4 : arrM a4) {k3 : Int32 → Int32 → Int32 → SM → Option (Unit × SM)} (hk3 : ∀ (l2 : Int32) (l3 : Int32) (l5 : Int32) (s : SM), R (wfM x) inU G M_X6_moveRow 3 [some (.ref mb), some (.ref (mb + a1)), some (.int l2), some (.int l3), some (.ref (mb + a4)), some (.int l5)] [] s (k3 l2 l3 l5 s)) (l2 : Int32) (l3 : Int32) (l5 : Int32) (s : SM) : R (wfM x) inU G M_X6_moveRow 3 [some (.ref mb), some (.ref (mb + a1)), some (.int l2), some (.int l3), some (.ref (mb + a4)), some (.int l5)] [] s (fX6_moveRow_3b a1 a4 k3 l2 l3 l5 s) := by
  unfold fX6_moveRow_3b
  refine rr_iload (q := 5) rfl dX6_moveRow_3 rfl ?_
  refine rr_iload_n (q := 6) rfl dX6_moveRow_5 rfl ?_
  refine rr_icmp_ge 54 (q := 9) rfl dX6_moveRow_6 rfl (fun _ => ?_) (fun _ => ?_)
  · exact rr_vret dX6_moveRow_54 rfl
  · refine rr_iload_n (q := 10) rfl dX6_moveRow_9 rfl ?_
    refine rr_if_eq 27 (q := 13) rfl dX6_moveRow_10 rfl (fun _ => ?_) (fun _ => ?_)
    · refine rr_aload_n (q := 28) rfl dX6_moveRow_27 rfl ?_
      refine rr_iload (q := 30) rfl dX6_moveRow_28 rfl ?_
      refine rr_aload (q := 32) rfl dX6_moveRow_30 rfl ?_
      refine rr_aload_n (q := 33) rfl dX6_moveRow_32 rfl ?_
      refine rr_get (q := 36) rfl fl_X6_368 w_M rfl dX6_moveRow_33 ?_
      refine rr_iald (q := 37) rfl (w_marr ha4) dX6_moveRow_36 (fun n2 => ?_)
      refine rr_iast (q := 38) rfl (w_marr ha1) (fun _ => (u_marr ha1)) dX6_moveRow_37 (fun n3 s4 => ?_)
      exact e_X6_moveRow_38 ha1 ha4 hk3 l2 l3 l5 s4
    · refine rr_aload (q := 15) rfl dX6_moveRow_13 rfl ?_
      refine rr_aload_n (q := 16) rfl dX6_moveRow_15 rfl ?_
      refine rr_get (q := 19) rfl fl_X6_368 w_M rfl dX6_moveRow_16 ?_
      refine rr_aload_n (q := 20) rfl dX6_moveRow_19 rfl ?_
      refine rr_iload (q := 22) rfl dX6_moveRow_20 rfl ?_
      refine rr_iald (q := 23) rfl (w_marr ha1) dX6_moveRow_22 (fun n5 => ?_)
      refine rr_iast (q := 24) rfl (w_marr ha4) (fun _ => (u_marr ha4)) dX6_moveRow_23 (fun n6 s7 => ?_)
      refine rr_goto 38 dX6_moveRow_24 rfl ?_
      exact e_X6_moveRow_38 ha1 ha4 hk3 l2 l3 l5 s7
def fX6_moveRow_3 (a1 : Nat) (a4 : Nat) : Nat → Int32 → Int32 → Int32 → SM → Option (Unit × SM) := lp (fun _ _ _ _ => none) (fX6_moveRow_3b a1 a4)
theorem e_X6_moveRow_3 {G : Cf} {x : SX} {a1 : Nat} {a4 : Nat} (ha1 : arrM a1) (ha4 : arrM a4)  (n : Nat) : ∀ (l2 : Int32) (l3 : Int32) (l5 : Int32) (s : SM), R (wfM x) inU G M_X6_moveRow 3 [some (.ref mb), some (.ref (mb + a1)), some (.int l2), some (.int l3), some (.ref (mb + a4)), some (.int l5)] [] s (fX6_moveRow_3 a1 a4 n l2 l3 l5 s) := by
  unfold fX6_moveRow_3
  exact rr_lp (P := fun (kz : Int32 → Int32 → Int32 → SM → Option (Unit × SM)) => ∀ (l2 : Int32) (l3 : Int32) (l5 : Int32) (s : SM), R (wfM x) inU G M_X6_moveRow 3 [some (.ref mb), some (.ref (mb + a1)), some (.int l2), some (.int l3), some (.ref (mb + a4)), some (.int l5)] [] s (kz l2 l3 l5 s)) (fun _ _ _ _ => rr_none) (fun kz hkz => fun l2 l3 l5 s => e_X6_moveRow_3b ha1 ha4 hkz l2 l3 l5 s) n
def fX6_moveRow (a1 : Nat) (l2 : Int32) (l3 : Int32) (a4 : Nat) (s : SM) : Option (Unit × SM) :=
  vl 0 fun y1 =>
  fX6_moveRow_3 a1 a4 400 l2 l3 y1 s
set_option maxRecDepth 100000 in
set_option maxHeartbeats 4000000 in
theorem e_X6_moveRow {G : Cf} {x : SX} {a1 : Nat} {a4 : Nat} (ha1 : arrM a1) (ha4 : arrM a4) (l2 : Int32) (l3 : Int32) (s : SM) : Ct (wfM x) inU G M_X6_moveRow [.ref mb, .ref (mb + a1), .int l2, .int l3, .ref (mb + a4)] s (fX6_moveRow a1 l2 l3 a4 s) := by
  refine Ct.of (L0 := [some (.ref mb), some (.ref (mb + a1)), some (.int l2), some (.int l3), some (.ref (mb + a4)), none]) 1 rfl rfl ⟨rfl, rfl⟩ (Nat.le_of_ble_eq_true rfl) rfl ?_
  unfold fX6_moveRow
  refine rr_iconst 0 (q := 1) rfl dX6_moveRow_0 rfl ?_
  refine rr_istore (L2 := fun y1 => [some (.ref mb), some (.ref (mb + a1)), some (.int l2), some (.int l3), some (.ref (mb + a4)), some (.int y1)]) (q := 3) rfl dX6_moveRow_1 (Nat.le_of_ble_eq_true rfl) (fun _ => rfl) (fun y1 => ?_)
  exact e_X6_moveRow_3 ha1 ha4 400 l2 l3 y1 s
def fX6_moveAll (l1 : Int32) (a2 : Nat) (s : SM) : Option (Unit × SM) :=
  vl (wM s 0 39 0) fun s1 =>
  ixg 0 2 fun n2 => vl (wM s1 22 n2 (gM s1 0 1)) fun s3 =>
  ixg 1 2 fun n4 => vl (wM s3 22 n4 (gM s3 0 5)) fun s5 =>
  bd (fX6_moveRow 22 2 l1 a2 s5) fun _ s6 =>
  ixg 0 2 fun n7 =>
  vl (wM s6 0 1 (gM s6 22 n7)) fun s8 =>
  ixg 1 2 fun n9 =>
  vl (wM s8 0 5 (gM s8 22 n9)) fun s10 =>
  bd (fX6_moveRow 1 6 l1 a2 s10) fun _ s11 =>
  bd (fX6_moveRow 2 14 l1 a2 s11) fun _ s12 =>
  bd (fX6_moveRow 3 14 l1 a2 s12) fun _ s13 =>
  bd (fX6_moveRow 4 14 l1 a2 s13) fun _ s14 =>
  bd (fX6_moveRow 5 12 l1 a2 s14) fun _ s15 =>
  bd (fX6_moveRow 6 12 l1 a2 s15) fun _ s16 =>
  bd (fX6_moveRow 7 12 l1 a2 s16) fun _ s17 =>
  bd (fX6_moveRow 8 12 l1 a2 s17) fun _ s18 =>
  bd (fX6_moveRow 9 41 l1 a2 s18) fun _ s19 =>
  some ((), s19)
set_option maxRecDepth 100000 in
set_option maxHeartbeats 4000000 in
theorem e_X6_moveAll {G : Cf} {x : SX} {a2 : Nat} (ha2 : arrM a2) (l1 : Int32) (s : SM) : Ct (wfM x) inU G M_X6_moveAll [.ref mb, .int l1, .ref (mb + a2)] s (fX6_moveAll l1 a2 s) := by
  refine Ct.of (L0 := [some (.ref mb), some (.int l1), some (.ref (mb + a2))]) 0 rfl rfl ⟨rfl, rfl⟩ (Nat.le_of_ble_eq_true rfl) rfl ?_
  unfold fX6_moveAll
  refine rr_aload_n (q := 1) rfl dX6_moveAll_0 rfl ?_
  refine rr_iconst 0 (q := 2) rfl dX6_moveAll_1 rfl ?_
  refine rr_puti (q := 5) rfl fl_X6_368 fp_X6_39 w_M (Nat.le_of_ble_eq_true rfl) u_M39 dX6_moveAll_2 (fun s1 => ?_)
  refine rr_aload_n (q := 6) rfl dX6_moveAll_5 rfl ?_
  refine rr_get (q := 9) rfl fl_X6_75 w_M rfl dX6_moveAll_6 ?_
  refine rr_iconst 0 (q := 10) rfl dX6_moveAll_9 rfl ?_
  refine rr_aload_n (q := 11) rfl dX6_moveAll_10 rfl ?_
  refine rr_get (q := 14) rfl fl_X6_83 w_M rfl dX6_moveAll_11 ?_
  refine rr_iast (q := 15) rfl w_marr22 (fun _ => u_marr22) dX6_moveAll_14 (fun n2 s3 => ?_)
  refine rr_aload_n (q := 16) rfl dX6_moveAll_15 rfl ?_
  refine rr_get (q := 19) rfl fl_X6_75 w_M rfl dX6_moveAll_16 ?_
  refine rr_iconst 1 (q := 20) rfl dX6_moveAll_19 rfl ?_
  refine rr_aload_n (q := 21) rfl dX6_moveAll_20 rfl ?_
  refine rr_get (q := 24) rfl fl_X6_87 w_M rfl dX6_moveAll_21 ?_
  refine rr_iast (q := 25) rfl w_marr22 (fun _ => u_marr22) dX6_moveAll_24 (fun n4 s5 => ?_)
  refine rr_aload_n (q := 26) rfl dX6_moveAll_25 rfl ?_
  refine rr_aload_n (q := 27) rfl dX6_moveAll_26 rfl ?_
  refine rr_get (q := 30) rfl fl_X6_75 w_M rfl dX6_moveAll_27 ?_
  refine rr_iconst 2 (q := 31) rfl dX6_moveAll_30 rfl ?_
  refine rr_iload_n (q := 32) rfl dX6_moveAll_31 rfl ?_
  refine rr_aload_n (q := 33) rfl dX6_moveAll_32 rfl ?_
  refine rr_cVu (q := 36) rfl V_X6_moveRow ml_X6_371 ⟨Nat.le_of_ble_eq_true rfl, Nat.le_of_ble_eq_true rfl⟩ (e_X6_moveRow (by decide) ha2 2 l1 s5) w_M rfl rfl rfl rfl (Nat.le_of_ble_eq_true rfl) dX6_moveAll_33 (fun _ s6 => ?_)
  refine rr_aload_n (q := 37) rfl dX6_moveAll_36 rfl ?_
  refine rr_aload_n (q := 38) rfl dX6_moveAll_37 rfl ?_
  refine rr_get (q := 41) rfl fl_X6_75 w_M rfl dX6_moveAll_38 ?_
  refine rr_iconst 0 (q := 42) rfl dX6_moveAll_41 rfl ?_
  refine rr_iald (q := 43) rfl w_marr22 dX6_moveAll_42 (fun n7 => ?_)
  refine rr_puti (q := 46) rfl fl_X6_83 fp_X6_1 w_M (Nat.le_of_ble_eq_true rfl) u_M1 dX6_moveAll_43 (fun s8 => ?_)
  refine rr_aload_n (q := 47) rfl dX6_moveAll_46 rfl ?_
  refine rr_aload_n (q := 48) rfl dX6_moveAll_47 rfl ?_
  refine rr_get (q := 51) rfl fl_X6_75 w_M rfl dX6_moveAll_48 ?_
  refine rr_iconst 1 (q := 52) rfl dX6_moveAll_51 rfl ?_
  refine rr_iald (q := 53) rfl w_marr22 dX6_moveAll_52 (fun n9 => ?_)
  refine rr_puti (q := 56) rfl fl_X6_87 fp_X6_5 w_M (Nat.le_of_ble_eq_true rfl) u_M5 dX6_moveAll_53 (fun s10 => ?_)
  refine rr_aload_n (q := 57) rfl dX6_moveAll_56 rfl ?_
  refine rr_aload_n (q := 58) rfl dX6_moveAll_57 rfl ?_
  refine rr_get (q := 61) rfl fl_X6_7 w_M rfl dX6_moveAll_58 ?_
  refine rr_bipush 6 (q := 63) rfl dX6_moveAll_61 rfl ?_
  refine rr_iload_n (q := 64) rfl dX6_moveAll_63 rfl ?_
  refine rr_aload_n (q := 65) rfl dX6_moveAll_64 rfl ?_
  refine rr_cVu (q := 68) rfl V_X6_moveRow ml_X6_371 ⟨Nat.le_of_ble_eq_true rfl, Nat.le_of_ble_eq_true rfl⟩ (e_X6_moveRow (by decide) ha2 6 l1 s10) w_M rfl rfl rfl rfl (Nat.le_of_ble_eq_true rfl) dX6_moveAll_65 (fun _ s11 => ?_)
  refine rr_aload_n (q := 69) rfl dX6_moveAll_68 rfl ?_
  refine rr_aload_n (q := 70) rfl dX6_moveAll_69 rfl ?_
  refine rr_get (q := 73) rfl fl_X6_13 w_M rfl dX6_moveAll_70 ?_
  refine rr_bipush 14 (q := 75) rfl dX6_moveAll_73 rfl ?_
  refine rr_iload_n (q := 76) rfl dX6_moveAll_75 rfl ?_
  refine rr_aload_n (q := 77) rfl dX6_moveAll_76 rfl ?_
  refine rr_cVu (q := 80) rfl V_X6_moveRow ml_X6_371 ⟨Nat.le_of_ble_eq_true rfl, Nat.le_of_ble_eq_true rfl⟩ (e_X6_moveRow (by decide) ha2 14 l1 s11) w_M rfl rfl rfl rfl (Nat.le_of_ble_eq_true rfl) dX6_moveAll_77 (fun _ s12 => ?_)
  refine rr_aload_n (q := 81) rfl dX6_moveAll_80 rfl ?_
  refine rr_aload_n (q := 82) rfl dX6_moveAll_81 rfl ?_
  refine rr_get (q := 85) rfl fl_X6_16 w_M rfl dX6_moveAll_82 ?_
  refine rr_bipush 14 (q := 87) rfl dX6_moveAll_85 rfl ?_
  refine rr_iload_n (q := 88) rfl dX6_moveAll_87 rfl ?_
  refine rr_aload_n (q := 89) rfl dX6_moveAll_88 rfl ?_
  refine rr_cVu (q := 92) rfl V_X6_moveRow ml_X6_371 ⟨Nat.le_of_ble_eq_true rfl, Nat.le_of_ble_eq_true rfl⟩ (e_X6_moveRow (by decide) ha2 14 l1 s12) w_M rfl rfl rfl rfl (Nat.le_of_ble_eq_true rfl) dX6_moveAll_89 (fun _ s13 => ?_)
  refine rr_aload_n (q := 93) rfl dX6_moveAll_92 rfl ?_
  refine rr_aload_n (q := 94) rfl dX6_moveAll_93 rfl ?_
  refine rr_get (q := 97) rfl fl_X6_19 w_M rfl dX6_moveAll_94 ?_
  refine rr_bipush 14 (q := 99) rfl dX6_moveAll_97 rfl ?_
  refine rr_iload_n (q := 100) rfl dX6_moveAll_99 rfl ?_
  refine rr_aload_n (q := 101) rfl dX6_moveAll_100 rfl ?_
  refine rr_cVu (q := 104) rfl V_X6_moveRow ml_X6_371 ⟨Nat.le_of_ble_eq_true rfl, Nat.le_of_ble_eq_true rfl⟩ (e_X6_moveRow (by decide) ha2 14 l1 s13) w_M rfl rfl rfl rfl (Nat.le_of_ble_eq_true rfl) dX6_moveAll_101 (fun _ s14 => ?_)
  refine rr_aload_n (q := 105) rfl dX6_moveAll_104 rfl ?_
  refine rr_aload_n (q := 106) rfl dX6_moveAll_105 rfl ?_
  refine rr_get (q := 109) rfl fl_X6_22 w_M rfl dX6_moveAll_106 ?_
  refine rr_bipush 12 (q := 111) rfl dX6_moveAll_109 rfl ?_
  refine rr_iload_n (q := 112) rfl dX6_moveAll_111 rfl ?_
  refine rr_aload_n (q := 113) rfl dX6_moveAll_112 rfl ?_
  refine rr_cVu (q := 116) rfl V_X6_moveRow ml_X6_371 ⟨Nat.le_of_ble_eq_true rfl, Nat.le_of_ble_eq_true rfl⟩ (e_X6_moveRow (by decide) ha2 12 l1 s14) w_M rfl rfl rfl rfl (Nat.le_of_ble_eq_true rfl) dX6_moveAll_113 (fun _ s15 => ?_)
  refine rr_aload_n (q := 117) rfl dX6_moveAll_116 rfl ?_
  refine rr_aload_n (q := 118) rfl dX6_moveAll_117 rfl ?_
  refine rr_get (q := 121) rfl fl_X6_25 w_M rfl dX6_moveAll_118 ?_
  refine rr_bipush 12 (q := 123) rfl dX6_moveAll_121 rfl ?_
  refine rr_iload_n (q := 124) rfl dX6_moveAll_123 rfl ?_
  refine rr_aload_n (q := 125) rfl dX6_moveAll_124 rfl ?_
  refine rr_cVu (q := 128) rfl V_X6_moveRow ml_X6_371 ⟨Nat.le_of_ble_eq_true rfl, Nat.le_of_ble_eq_true rfl⟩ (e_X6_moveRow (by decide) ha2 12 l1 s15) w_M rfl rfl rfl rfl (Nat.le_of_ble_eq_true rfl) dX6_moveAll_125 (fun _ s16 => ?_)
  refine rr_aload_n (q := 129) rfl dX6_moveAll_128 rfl ?_
  refine rr_aload_n (q := 130) rfl dX6_moveAll_129 rfl ?_
  refine rr_get (q := 133) rfl fl_X6_28 w_M rfl dX6_moveAll_130 ?_
  refine rr_bipush 12 (q := 135) rfl dX6_moveAll_133 rfl ?_
  refine rr_iload_n (q := 136) rfl dX6_moveAll_135 rfl ?_
  refine rr_aload_n (q := 137) rfl dX6_moveAll_136 rfl ?_
  refine rr_cVu (q := 140) rfl V_X6_moveRow ml_X6_371 ⟨Nat.le_of_ble_eq_true rfl, Nat.le_of_ble_eq_true rfl⟩ (e_X6_moveRow (by decide) ha2 12 l1 s16) w_M rfl rfl rfl rfl (Nat.le_of_ble_eq_true rfl) dX6_moveAll_137 (fun _ s17 => ?_)
  refine rr_aload_n (q := 141) rfl dX6_moveAll_140 rfl ?_
  refine rr_aload_n (q := 142) rfl dX6_moveAll_141 rfl ?_
  refine rr_get (q := 145) rfl fl_X6_31 w_M rfl dX6_moveAll_142 ?_
  refine rr_bipush 12 (q := 147) rfl dX6_moveAll_145 rfl ?_
  refine rr_iload_n (q := 148) rfl dX6_moveAll_147 rfl ?_
  refine rr_aload_n (q := 149) rfl dX6_moveAll_148 rfl ?_
  refine rr_cVu (q := 152) rfl V_X6_moveRow ml_X6_371 ⟨Nat.le_of_ble_eq_true rfl, Nat.le_of_ble_eq_true rfl⟩ (e_X6_moveRow (by decide) ha2 12 l1 s17) w_M rfl rfl rfl rfl (Nat.le_of_ble_eq_true rfl) dX6_moveAll_149 (fun _ s18 => ?_)
  refine rr_aload_n (q := 153) rfl dX6_moveAll_152 rfl ?_
  refine rr_aload_n (q := 154) rfl dX6_moveAll_153 rfl ?_
  refine rr_get (q := 157) rfl fl_X6_34 w_M rfl dX6_moveAll_154 ?_
  refine rr_bipush 41 (q := 159) rfl dX6_moveAll_157 rfl ?_
  refine rr_iload_n (q := 160) rfl dX6_moveAll_159 rfl ?_
  refine rr_aload_n (q := 161) rfl dX6_moveAll_160 rfl ?_
  refine rr_cVu (q := 164) rfl V_X6_moveRow ml_X6_371 ⟨Nat.le_of_ble_eq_true rfl, Nat.le_of_ble_eq_true rfl⟩ (e_X6_moveRow (by decide) ha2 41 l1 s18) w_M rfl rfl rfl rfl (Nat.le_of_ble_eq_true rfl) dX6_moveAll_161 (fun _ s19 => ?_)
  exact rr_vret dX6_moveAll_164 rfl
def fX6_court_67 (k23 : Int32 → Int32 → SM → Option (Int32 × SM)) (l1 : Int32) (t0 : Int32) (s : SM) : Option (Int32 × SM) :=
  vl t0 fun y12 =>
  k23 l1 y12 s
set_option maxRecDepth 100000 in
set_option maxHeartbeats 4000000 in
theorem e_X6_court_67 {G : Cf} {x : SX} {k23 : Int32 → Int32 → SM → Option (Int32 × SM)} (hk23 : ∀ (l1 : Int32) (l2 : Int32) (s : SM), R (wfM x) inI G M_X6_court 23 [some (.ref mb), some (.int l1), some (.int l2)] [] s (k23 l1 l2 s)) (l1 : Int32) (t0 : Int32) (s : SM) : R (wfM x) inI G M_X6_court 67 [some (.ref mb), some (.int l1), none] [.int t0] s (fX6_court_67 k23 l1 t0 s) := by
  unfold fX6_court_67
  refine rr_istore_n (L2 := fun y12 => [some (.ref mb), some (.int l1), some (.int y12)]) (q := 68) rfl dX6_court_67 (Nat.le_of_ble_eq_true rfl) (fun _ => rfl) (fun y12 => ?_)
  refine rr_goto 23 dX6_court_68 rfl ?_
  exact hk23 l1 y12 s
def fX6_court_66 (k23 : Int32 → Int32 → SM → Option (Int32 × SM)) (l1 : Int32) (s : SM) : Option (Int32 × SM) :=
  fX6_court_67 k23 l1 0 s
set_option maxRecDepth 100000 in
set_option maxHeartbeats 4000000 in
theorem e_X6_court_66 {G : Cf} {x : SX} {k23 : Int32 → Int32 → SM → Option (Int32 × SM)} (hk23 : ∀ (l1 : Int32) (l2 : Int32) (s : SM), R (wfM x) inI G M_X6_court 23 [some (.ref mb), some (.int l1), some (.int l2)] [] s (k23 l1 l2 s)) (l1 : Int32) (s : SM) : R (wfM x) inI G M_X6_court 66 [some (.ref mb), some (.int l1), none] [] s (fX6_court_66 k23 l1 s) := by
  unfold fX6_court_66
  refine rr_iconst 0 (q := 67) rfl dX6_court_66 rfl ?_
  exact e_X6_court_67 hk23 l1 0 s
def fX6_court_91 (l1 : Int32) (t1 : Int32) (s : SM) : Option (Int32 × SM) :=
  gd (t1 = 0 ∨ t1 = 1) <|
  vl (wM s 0 31 t1) fun s9 =>
  vl (wM s9 0 25 0) fun s10 =>
  (if (gM s10 0 31) = 0 then
  bd (fX6_moveAll 0 21 s10) fun _ s11 =>
  some ((-1) - (gM s11 0 27), s11)
  else
  some (l1, s10))
set_option maxRecDepth 100000 in
set_option maxHeartbeats 4000000 in
theorem e_X6_court_91 {G : Cf} {x : SX}  (l1 : Int32) (t1 : Int32) (s : SM) : R (wfM x) inI G M_X6_court 91 [some (.ref mb), some (.int l1), none] [.int t1, .ref mb] s (fX6_court_91 l1 t1 s) := by
  unfold fX6_court_91
  refine rr_gd (fun hb => ?_)
  refine rr_putz (q := 94) rfl fl_X6_303 fp_X6_31 hb w_M (Nat.le_of_ble_eq_true rfl) u_M31 dX6_court_91 (fun s9 => ?_)
  refine rr_aload_n (q := 95) rfl dX6_court_94 rfl ?_
  refine rr_iconst 0 (q := 96) rfl dX6_court_95 rfl ?_
  refine rr_puti (q := 99) rfl fl_X6_253 fp_X6_25 w_M (Nat.le_of_ble_eq_true rfl) u_M25 dX6_court_96 (fun s10 => ?_)
  refine rr_aload_n (q := 100) rfl dX6_court_99 rfl ?_
  refine rr_get (q := 103) rfl fl_X6_303 w_M rfl dX6_court_100 ?_
  refine rr_if_ne 122 (q := 106) rfl dX6_court_103 rfl (fun _ => ?_) (fun _ => ?_)
  · refine rr_iload_n (q := 123) rfl dX6_court_122 rfl ?_
    exact rr_iret dX6_court_123 rfl
  · refine rr_aload_n (q := 107) rfl dX6_court_106 rfl ?_
    refine rr_iconst 0 (q := 108) rfl dX6_court_107 rfl ?_
    refine rr_aload_n (q := 109) rfl dX6_court_108 rfl ?_
    refine rr_get (q := 112) rfl fl_X6_72 w_M rfl dX6_court_109 ?_
    refine rr_cVu (q := 115) rfl V_X6_moveAll ml_X6_351 ⟨Nat.le_of_ble_eq_true rfl, Nat.le_of_ble_eq_true rfl⟩ (e_X6_moveAll (by decide) 0 s10) w_M rfl rfl rfl rfl (Nat.le_of_ble_eq_true rfl) dX6_court_112 (fun _ s11 => ?_)
    refine rr_iconst (-1) (q := 116) rfl dX6_court_115 rfl ?_
    refine rr_aload_n (q := 117) rfl dX6_court_116 rfl ?_
    refine rr_get (q := 120) rfl fl_X6_259 w_M rfl dX6_court_117 ?_
    refine rr_isub (q := 121) rfl dX6_court_120 ?_
    exact rr_iret dX6_court_121 rfl
def fX6_court_90 (l1 : Int32) (s : SM) : Option (Int32 × SM) :=
  fX6_court_91 l1 0 s
set_option maxRecDepth 100000 in
set_option maxHeartbeats 4000000 in
theorem e_X6_court_90 {G : Cf} {x : SX}  (l1 : Int32) (s : SM) : R (wfM x) inI G M_X6_court 90 [some (.ref mb), some (.int l1), none] [.ref mb] s (fX6_court_90 l1 s) := by
  unfold fX6_court_90
  refine rr_iconst 0 (q := 91) rfl dX6_court_90 rfl ?_
  exact e_X6_court_91 l1 0 s
def fX6_court_23b (k23 : Int32 → Int32 → SM → Option (Int32 × SM)) (l1 : Int32) (l2 : Int32) (s : SM) : Option (Int32 × SM) :=
  (if l2 = 0 then
  (if (gM s 0 31) = 0 then
  fX6_court_90 l1 s
  else
  (if (gM s 0 26) = 0 then
  fX6_court_91 l1 1 s
  else
  fX6_court_90 l1 s))
  else
  bd (fX6_advance s) fun _ s6 =>
  bd (fX6_wantItem s6) fun _ s7 =>
  vl (l1 + 1) fun y8 =>
  (if (gM s7 0 31) = 0 then
  fX6_court_66 k23 y8 s7
  else
  (if (gM s7 0 26) = 3 then
  (if (gM s7 0 30) = 59 then
  fX6_court_67 k23 y8 1 s7
  else
  fX6_court_66 k23 y8 s7)
  else
  fX6_court_66 k23 y8 s7)))
set_option maxRecDepth 100000 in
set_option maxHeartbeats 4000000 in
theorem e_X6_court_23b {G : Cf} {x : SX} {k23 : Int32 → Int32 → SM → Option (Int32 × SM)} (hk23 : ∀ (l1 : Int32) (l2 : Int32) (s : SM), R (wfM x) inI G M_X6_court 23 [some (.ref mb), some (.int l1), some (.int l2)] [] s (k23 l1 l2 s)) (l1 : Int32) (l2 : Int32) (s : SM) : R (wfM x) inI G M_X6_court 23 [some (.ref mb), some (.int l1), some (.int l2)] [] s (fX6_court_23b k23 l1 l2 s) := by
  unfold fX6_court_23b
  refine rr_iload_n (q := 24) rfl dX6_court_23 rfl ?_
  refine rr_if_eq 71 (q := 27) rfl dX6_court_24 rfl (fun _ => ?_) (fun _ => ?_)
  · refine rr_aload_n (q := 72) rfl dX6_court_71 rfl ?_
    refine rr_aload_n (q := 73) rfl dX6_court_72 rfl ?_
    refine rr_get (q := 76) rfl fl_X6_303 w_M rfl dX6_court_73 ?_
    refine rr_if_eq 90 (q := 79) rfl dX6_court_76 rfl (fun _ => ?_) (fun _ => ?_)
    · refine rr_mask [true, true, false] (L' := [some (.ref mb), some (.int l1), none]) rfl ?_
      exact e_X6_court_90 l1 s
    · refine rr_aload_n (q := 80) rfl dX6_court_79 rfl ?_
      refine rr_get (q := 83) rfl fl_X6_271 w_M rfl dX6_court_80 ?_
      refine rr_if_ne 90 (q := 86) rfl dX6_court_83 rfl (fun _ => ?_) (fun _ => ?_)
      · refine rr_mask [true, true, false] (L' := [some (.ref mb), some (.int l1), none]) rfl ?_
        exact e_X6_court_90 l1 s
      · refine rr_iconst 1 (q := 87) rfl dX6_court_86 rfl ?_
        refine rr_goto 91 dX6_court_87 rfl ?_
        refine rr_mask [true, true, false] (L' := [some (.ref mb), some (.int l1), none]) rfl ?_
        exact e_X6_court_91 l1 1 s
  · refine rr_aload_n (q := 28) rfl dX6_court_27 rfl ?_
    refine rr_cVu (q := 31) rfl V_X6_advance ml_X6_307 ⟨Nat.le_of_ble_eq_true rfl, Nat.le_of_ble_eq_true rfl⟩ (e_X6_advance s) w_M rfl rfl rfl rfl (Nat.le_of_ble_eq_true rfl) dX6_court_28 (fun _ s6 => ?_)
    refine rr_aload_n (q := 32) rfl dX6_court_31 rfl ?_
    refine rr_cVu (q := 35) rfl V_X6_wantItem ml_X6_355 ⟨Nat.le_of_ble_eq_true rfl, Nat.le_of_ble_eq_true rfl⟩ (e_X6_wantItem s6) w_M rfl rfl rfl rfl (Nat.le_of_ble_eq_true rfl) dX6_court_32 (fun _ s7 => ?_)
    refine rr_iinc (L2 := fun y8 => [some (.ref mb), some (.int y8), some (.int l2)]) (q := 38) rfl dX6_court_35 rfl rfl (Nat.le_of_ble_eq_true rfl) (fun _ => rfl) (fun y8 => ?_)
    refine rr_aload_n (q := 39) rfl dX6_court_38 rfl ?_
    refine rr_get (q := 42) rfl fl_X6_303 w_M rfl dX6_court_39 ?_
    refine rr_if_eq 66 (q := 45) rfl dX6_court_42 rfl (fun _ => ?_) (fun _ => ?_)
    · refine rr_mask [true, true, false] (L' := [some (.ref mb), some (.int y8), none]) rfl ?_
      exact e_X6_court_66 hk23 y8 s7
    · refine rr_aload_n (q := 46) rfl dX6_court_45 rfl ?_
      refine rr_get (q := 49) rfl fl_X6_271 w_M rfl dX6_court_46 ?_
      refine rr_iconst 3 (q := 50) rfl dX6_court_49 rfl ?_
      refine rr_icmp_ne 66 (q := 53) rfl dX6_court_50 rfl (fun _ => ?_) (fun _ => ?_)
      · refine rr_mask [true, true, false] (L' := [some (.ref mb), some (.int y8), none]) rfl ?_
        exact e_X6_court_66 hk23 y8 s7
      · refine rr_aload_n (q := 54) rfl dX6_court_53 rfl ?_
        refine rr_get (q := 57) rfl fl_X6_278 w_M rfl dX6_court_54 ?_
        refine rr_bipush 59 (q := 59) rfl dX6_court_57 rfl ?_
        refine rr_icmp_ne 66 (q := 62) rfl dX6_court_59 rfl (fun _ => ?_) (fun _ => ?_)
        · refine rr_mask [true, true, false] (L' := [some (.ref mb), some (.int y8), none]) rfl ?_
          exact e_X6_court_66 hk23 y8 s7
        · refine rr_iconst 1 (q := 63) rfl dX6_court_62 rfl ?_
          refine rr_goto 67 dX6_court_63 rfl ?_
          refine rr_mask [true, true, false] (L' := [some (.ref mb), some (.int y8), none]) rfl ?_
          exact e_X6_court_67 hk23 y8 1 s7
def fX6_court_23 : Nat → Int32 → Int32 → SM → Option (Int32 × SM) := lp (fun _ _ _ => none) (fX6_court_23b)
theorem e_X6_court_23 {G : Cf} {x : SX}  (n : Nat) : ∀ (l1 : Int32) (l2 : Int32) (s : SM), R (wfM x) inI G M_X6_court 23 [some (.ref mb), some (.int l1), some (.int l2)] [] s (fX6_court_23 n l1 l2 s) := by
  unfold fX6_court_23
  exact rr_lp (P := fun (kz : Int32 → Int32 → SM → Option (Int32 × SM)) => ∀ (l1 : Int32) (l2 : Int32) (s : SM), R (wfM x) inI G M_X6_court 23 [some (.ref mb), some (.int l1), some (.int l2)] [] s (kz l1 l2 s)) (fun _ _ _ => rr_none) (fun kz hkz => fun l1 l2 s => e_X6_court_23b hkz l1 l2 s) n
def fX6_court (s : SM) : Option (Int32 × SM) :=
  bd (fX6_moveAll 1 21 s) fun _ s1 =>
  vl (wM s1 0 28 0) fun s2 =>
  vl (wM s2 0 31 1) fun s3 =>
  vl 0 fun y4 =>
  vl 1 fun y5 =>
  fX6_court_23 400 y4 y5 s3
set_option maxRecDepth 100000 in
set_option maxHeartbeats 4000000 in
theorem e_X6_court {G : Cf} {x : SX} (s : SM) : Ct (wfM x) inI G M_X6_court [.ref mb] s (fX6_court s) := by
  refine Ct.of (L0 := [some (.ref mb), none, none]) 2 rfl rfl ⟨rfl, rfl⟩ (Nat.le_of_ble_eq_true rfl) rfl ?_
  unfold fX6_court
  refine rr_aload_n (q := 1) rfl dX6_court_0 rfl ?_
  refine rr_iconst 1 (q := 2) rfl dX6_court_1 rfl ?_
  refine rr_aload_n (q := 3) rfl dX6_court_2 rfl ?_
  refine rr_get (q := 6) rfl fl_X6_72 w_M rfl dX6_court_3 ?_
  refine rr_cVu (q := 9) rfl V_X6_moveAll ml_X6_351 ⟨Nat.le_of_ble_eq_true rfl, Nat.le_of_ble_eq_true rfl⟩ (e_X6_moveAll (by decide) 1 s) w_M rfl rfl rfl rfl (Nat.le_of_ble_eq_true rfl) dX6_court_6 (fun _ s1 => ?_)
  refine rr_aload_n (q := 10) rfl dX6_court_9 rfl ?_
  refine rr_iconst 0 (q := 11) rfl dX6_court_10 rfl ?_
  refine rr_puti (q := 14) rfl fl_X6_256 fp_X6_28 w_M (Nat.le_of_ble_eq_true rfl) u_M28 dX6_court_11 (fun s2 => ?_)
  refine rr_aload_n (q := 15) rfl dX6_court_14 rfl ?_
  refine rr_iconst 1 (q := 16) rfl dX6_court_15 rfl ?_
  refine rr_putz (q := 19) rfl fl_X6_303 fp_X6_31 (Or.inr rfl) w_M (Nat.le_of_ble_eq_true rfl) u_M31 dX6_court_16 (fun s3 => ?_)
  refine rr_iconst 0 (q := 20) rfl dX6_court_19 rfl ?_
  refine rr_istore_n (L2 := fun y4 => [some (.ref mb), some (.int y4), none]) (q := 21) rfl dX6_court_20 (Nat.le_of_ble_eq_true rfl) (fun _ => rfl) (fun y4 => ?_)
  refine rr_iconst 1 (q := 22) rfl dX6_court_21 rfl ?_
  refine rr_istore_n (L2 := fun y5 => [some (.ref mb), some (.int y4), some (.int y5)]) (q := 23) rfl dX6_court_22 (Nat.le_of_ble_eq_true rfl) (fun _ => rfl) (fun y5 => ?_)
  exact e_X6_court_23 400 y4 y5 s3
def fX6_narrow (l0 : Int32) (l1 : Int64) (s : SM) : Option (Int64 × SM) :=
  (if l0 = 8 then
  some ((l1 <<< (Int32.toInt64 56 &&& 63)) >>> (Int32.toInt64 56 &&& 63), s)
  else
  (if l0 = 16 then
  some ((l1 <<< (Int32.toInt64 48 &&& 63)) >>> (Int32.toInt64 48 &&& 63), s)
  else
  some (l1, s)))
set_option maxRecDepth 100000 in
set_option maxHeartbeats 4000000 in
theorem e_X6_narrow {G : Cf} {x : SX} (l0 : Int32) (l1 : Int64) (s : SM) : Ct (wfM x) inJ G M_X6_narrow [.int l0, .long l1] s (fX6_narrow l0 l1 s) := by
  refine Ct.of (L0 := [some (.int l0), some (.long l1), none]) 0 rfl rfl ⟨rfl, rfl⟩ (Nat.le_of_ble_eq_true rfl) rfl ?_
  unfold fX6_narrow
  refine rr_iload_n (q := 1) rfl dX6_narrow_0 rfl ?_
  refine rr_bipush 8 (q := 3) rfl dX6_narrow_1 rfl ?_
  refine rr_icmp_ne 16 (q := 6) rfl dX6_narrow_3 rfl (fun _ => ?_) (fun _ => ?_)
  · refine rr_iload_n (q := 17) rfl dX6_narrow_16 rfl ?_
    refine rr_bipush 16 (q := 19) rfl dX6_narrow_17 rfl ?_
    refine rr_icmp_ne 32 (q := 22) rfl dX6_narrow_19 rfl (fun _ => ?_) (fun _ => ?_)
    · refine rr_lload_n (q := 33) rfl dX6_narrow_32 rfl ?_
      exact rr_lret dX6_narrow_33 rfl
    · refine rr_lload_n (q := 23) rfl dX6_narrow_22 rfl ?_
      refine rr_bipush 48 (q := 25) rfl dX6_narrow_23 rfl ?_
      refine rr_lshl (q := 26) rfl dX6_narrow_25 ?_
      refine rr_bipush 48 (q := 28) rfl dX6_narrow_26 rfl ?_
      refine rr_lshr (q := 29) rfl dX6_narrow_28 ?_
      refine rr_goto 33 dX6_narrow_29 rfl ?_
      exact rr_lret dX6_narrow_33 rfl
  · refine rr_lload_n (q := 7) rfl dX6_narrow_6 rfl ?_
    refine rr_bipush 56 (q := 9) rfl dX6_narrow_7 rfl ?_
    refine rr_lshl (q := 10) rfl dX6_narrow_9 ?_
    refine rr_bipush 56 (q := 12) rfl dX6_narrow_10 rfl ?_
    refine rr_lshr (q := 13) rfl dX6_narrow_12 ?_
    refine rr_goto 33 dX6_narrow_13 rfl ?_
    exact rr_lret dX6_narrow_33 rfl
def fX6_sheet_85b (k85 : Int32 → Int32 → SM → Option (Int32 × SM)) (l1 : Int32) (l4 : Int32) (s : SM) : Option (Int32 × SM) :=
  (if 40 ≤ l4 then
  ixg l1 4 fun n16 =>
  some (gM s 17 n16, s)
  else
  ixg ((40 * l1) + l4) 160 fun n17 => vl (wN s 18 n17 0) fun s18 =>
  vl (l4 + 1) fun y19 =>
  k85 l1 y19 s18)
set_option maxRecDepth 100000 in
set_option maxHeartbeats 4000000 in
theorem e_X6_sheet_85b {G : Cf} {x : SX} {k85 : Int32 → Int32 → SM → Option (Int32 × SM)} (hk85 : ∀ (l1 : Int32) (l4 : Int32) (s : SM), R (wfM x) inI G M_X6_sheet 85 [some (.ref mb), some (.int l1), none, none, some (.int l4)] [] s (k85 l1 l4 s)) (l1 : Int32) (l4 : Int32) (s : SM) : R (wfM x) inI G M_X6_sheet 85 [some (.ref mb), some (.int l1), none, none, some (.int l4)] [] s (fX6_sheet_85b k85 l1 l4 s) := by
  unfold fX6_sheet_85b
  refine rr_iload (q := 87) rfl dX6_sheet_85 rfl ?_
  refine rr_bipush 40 (q := 89) rfl dX6_sheet_87 rfl ?_
  refine rr_icmp_ge 111 (q := 92) rfl dX6_sheet_89 rfl (fun _ => ?_) (fun _ => ?_)
  · refine rr_aload_n (q := 112) rfl dX6_sheet_111 rfl ?_
    refine rr_get (q := 115) rfl fl_X6_59 w_M rfl dX6_sheet_112 ?_
    refine rr_iload_n (q := 116) rfl dX6_sheet_115 rfl ?_
    refine rr_iald (q := 117) rfl w_marr17 dX6_sheet_116 (fun n16 => ?_)
    exact rr_iret dX6_sheet_117 rfl
  · refine rr_aload_n (q := 93) rfl dX6_sheet_92 rfl ?_
    refine rr_get (q := 96) rfl fl_X6_62 w_M rfl dX6_sheet_93 ?_
    refine rr_bipush 40 (q := 98) rfl dX6_sheet_96 rfl ?_
    refine rr_iload_n (q := 99) rfl dX6_sheet_98 rfl ?_
    refine rr_imul (q := 100) rfl dX6_sheet_99 ?_
    refine rr_iload (q := 102) rfl dX6_sheet_100 rfl ?_
    refine rr_iadd (q := 103) rfl dX6_sheet_102 ?_
    refine rr_lconst 0 (q := 104) rfl dX6_sheet_103 rfl ?_
    refine rr_last (q := 105) rfl w_marr18 (fun _ => u_marr18) dX6_sheet_104 (fun n17 s18 => ?_)
    refine rr_iinc (L2 := fun y19 => [some (.ref mb), some (.int l1), none, none, some (.int y19)]) (q := 108) rfl dX6_sheet_105 rfl rfl (Nat.le_of_ble_eq_true rfl) (fun _ => rfl) (fun y19 => ?_)
    refine rr_goto 85 dX6_sheet_108 rfl ?_
    exact hk85 l1 y19 s18
def fX6_sheet_85 : Nat → Int32 → Int32 → SM → Option (Int32 × SM) := lp (fun _ _ _ => none) (fX6_sheet_85b)
theorem e_X6_sheet_85 {G : Cf} {x : SX}  (n : Nat) : ∀ (l1 : Int32) (l4 : Int32) (s : SM), R (wfM x) inI G M_X6_sheet 85 [some (.ref mb), some (.int l1), none, none, some (.int l4)] [] s (fX6_sheet_85 n l1 l4 s) := by
  unfold fX6_sheet_85
  exact rr_lp (P := fun (kz : Int32 → Int32 → SM → Option (Int32 × SM)) => ∀ (l1 : Int32) (l4 : Int32) (s : SM), R (wfM x) inI G M_X6_sheet 85 [some (.ref mb), some (.int l1), none, none, some (.int l4)] [] s (kz l1 l4 s)) (fun _ _ _ => rr_none) (fun kz hkz => fun l1 l4 s => e_X6_sheet_85b hkz l1 l4 s) n
def fX6_sheet_81 (l1 : Int32) (t1 : Int32) (t2 : Int32) (s : SM) : Option (Int32 × SM) :=
  ixg t1 4 fun n13 => vl (wM s 17 n13 t2) fun s14 =>
  vl 0 fun y15 =>
  fX6_sheet_85 400 l1 y15 s14
set_option maxRecDepth 100000 in
set_option maxHeartbeats 4000000 in
theorem e_X6_sheet_81 {G : Cf} {x : SX}  (l1 : Int32) (t1 : Int32) (t2 : Int32) (s : SM) : R (wfM x) inI G M_X6_sheet 81 [some (.ref mb), some (.int l1), none, none, none] [.int t2, .int t1, .ref (mb + 17)] s (fX6_sheet_81 l1 t1 t2 s) := by
  unfold fX6_sheet_81
  refine rr_iast (q := 82) rfl w_marr17 (fun _ => u_marr17) dX6_sheet_81 (fun n13 s14 => ?_)
  refine rr_iconst 0 (q := 83) rfl dX6_sheet_82 rfl ?_
  refine rr_istore (L2 := fun y15 => [some (.ref mb), some (.int l1), none, none, some (.int y15)]) (q := 85) rfl dX6_sheet_83 (Nat.le_of_ble_eq_true rfl) (fun _ => rfl) (fun y15 => ?_)
  exact e_X6_sheet_85 400 l1 y15 s14
def fX6_sheet_36 (l1 : Int32) (l2 : Int32) (l3 : Int32) (s : SM) : Option (Int32 × SM) :=
  (if 0 ≤ l3 then
  (if l3 ≤ 40 then
  ixg l1 4 fun n7 => vl (wM s 16 n7 l2) fun s8 =>
  (if l2 = 0 then
  fX6_sheet_81 l1 l1 0 s8
  else
  fX6_sheet_81 l1 l1 l3 s8)
  else
  bd (fX6_finds (-1000000001) s) fun v9 s10 =>
  some (v9, s10))
  else
  bd (fX6_finds (-1000000007) s) fun v11 s12 =>
  some (v11, s12))
set_option maxRecDepth 100000 in
set_option maxHeartbeats 4000000 in
theorem e_X6_sheet_36 {G : Cf} {x : SX}  (l1 : Int32) (l2 : Int32) (l3 : Int32) (s : SM) : R (wfM x) inI G M_X6_sheet 36 [some (.ref mb), some (.int l1), some (.int l2), some (.int l3), none] [] s (fX6_sheet_36 l1 l2 l3 s) := by
  unfold fX6_sheet_36
  refine rr_iload_n (q := 37) rfl dX6_sheet_36 rfl ?_
  refine rr_if_ge 47 (q := 40) rfl dX6_sheet_37 rfl (fun _ => ?_) (fun _ => ?_)
  · refine rr_iload_n (q := 48) rfl dX6_sheet_47 rfl ?_
    refine rr_bipush 40 (q := 50) rfl dX6_sheet_48 rfl ?_
    refine rr_icmp_le 60 (q := 53) rfl dX6_sheet_50 rfl (fun _ => ?_) (fun _ => ?_)
    · refine rr_aload_n (q := 61) rfl dX6_sheet_60 rfl ?_
      refine rr_get (q := 64) rfl fl_X6_56 w_M rfl dX6_sheet_61 ?_
      refine rr_iload_n (q := 65) rfl dX6_sheet_64 rfl ?_
      refine rr_iload_n (q := 66) rfl dX6_sheet_65 rfl ?_
      refine rr_iast (q := 67) rfl w_marr16 (fun _ => u_marr16) dX6_sheet_66 (fun n7 s8 => ?_)
      refine rr_aload_n (q := 68) rfl dX6_sheet_67 rfl ?_
      refine rr_get (q := 71) rfl fl_X6_59 w_M rfl dX6_sheet_68 ?_
      refine rr_iload_n (q := 72) rfl dX6_sheet_71 rfl ?_
      refine rr_iload_n (q := 73) rfl dX6_sheet_72 rfl ?_
      refine rr_if_ne 80 (q := 76) rfl dX6_sheet_73 rfl (fun _ => ?_) (fun _ => ?_)
      · refine rr_iload_n (q := 81) rfl dX6_sheet_80 rfl ?_
        refine rr_mask [true, true, false, false, false] (L' := [some (.ref mb), some (.int l1), none, none, none]) rfl ?_
        exact e_X6_sheet_81 l1 l1 l3 s8
      · refine rr_iconst 0 (q := 77) rfl dX6_sheet_76 rfl ?_
        refine rr_goto 81 dX6_sheet_77 rfl ?_
        refine rr_mask [true, true, false, false, false] (L' := [some (.ref mb), some (.int l1), none, none, none]) rfl ?_
        exact e_X6_sheet_81 l1 l1 0 s8
    · refine rr_aload_n (q := 54) rfl dX6_sheet_53 rfl ?_
      refine rr_ldc (q := 56) rfl dX6_sheet_54 kc_X6_78 ?_
      refine rr_cVi (q := 59) rfl V_X6_finds ml_X6_125 ⟨Nat.le_of_ble_eq_true rfl, Nat.le_of_ble_eq_true rfl⟩ (e_X6_finds (-1000000001) s) w_M rfl rfl rfl rfl (Nat.le_of_ble_eq_true rfl) dX6_sheet_56 (fun v9 s10 => ?_)
      exact rr_iret dX6_sheet_59 rfl
  · refine rr_aload_n (q := 41) rfl dX6_sheet_40 rfl ?_
    refine rr_ldc (q := 43) rfl dX6_sheet_41 kc_X6_246 ?_
    refine rr_cVi (q := 46) rfl V_X6_finds ml_X6_125 ⟨Nat.le_of_ble_eq_true rfl, Nat.le_of_ble_eq_true rfl⟩ (e_X6_finds (-1000000007) s) w_M rfl rfl rfl rfl (Nat.le_of_ble_eq_true rfl) dX6_sheet_43 (fun v11 s12 => ?_)
    exact rr_iret dX6_sheet_46 rfl
def fX6_sheet (l1 : Int32) (l2 : Int32) (l3 : Int32) (s : SM) : Option (Int32 × SM) :=
  bd (fX6_isSheet l1 s) fun v1 s2 =>
  (if v1 = 0 then
  bd (fX6_finds (-1000000001) s2) fun v3 s4 =>
  some (v3, s4)
  else
  (if l2 = 0 then
  fX6_sheet_36 l1 l2 l3 s2
  else
  (if l2 = 8 then
  fX6_sheet_36 l1 l2 l3 s2
  else
  (if l2 = 16 then
  fX6_sheet_36 l1 l2 l3 s2
  else
  (if l2 = 64 then
  fX6_sheet_36 l1 l2 l3 s2
  else
  bd (fX6_finds (-1000000001) s2) fun v5 s6 =>
  some (v5, s6))))))
set_option maxRecDepth 100000 in
set_option maxHeartbeats 4000000 in
theorem e_X6_sheet {G : Cf} {x : SX} (l1 : Int32) (l2 : Int32) (l3 : Int32) (s : SM) : Ct (wfM x) inI G M_X6_sheet [.ref mb, .int l1, .int l2, .int l3] s (fX6_sheet l1 l2 l3 s) := by
  refine Ct.of (L0 := [some (.ref mb), some (.int l1), some (.int l2), some (.int l3), none]) 1 rfl rfl ⟨rfl, rfl⟩ (Nat.le_of_ble_eq_true rfl) rfl ?_
  unfold fX6_sheet
  refine rr_iload_n (q := 1) rfl dX6_sheet_0 rfl ?_
  refine rr_cSi (q := 4) rfl V_X6_isSheet ml_X6_240 ⟨Nat.le_of_ble_eq_true rfl, Nat.le_of_ble_eq_true rfl⟩ (e_X6_isSheet l1 s) rfl rfl (Nat.le_of_ble_eq_true rfl) dX6_sheet_1 (fun v1 s2 => ?_)
  refine rr_if_eq 29 (q := 7) rfl dX6_sheet_4 rfl (fun _ => ?_) (fun _ => ?_)
  · refine rr_aload_n (q := 30) rfl dX6_sheet_29 rfl ?_
    refine rr_ldc (q := 32) rfl dX6_sheet_30 kc_X6_78 ?_
    refine rr_cVi (q := 35) rfl V_X6_finds ml_X6_125 ⟨Nat.le_of_ble_eq_true rfl, Nat.le_of_ble_eq_true rfl⟩ (e_X6_finds (-1000000001) s2) w_M rfl rfl rfl rfl (Nat.le_of_ble_eq_true rfl) dX6_sheet_32 (fun v3 s4 => ?_)
    exact rr_iret dX6_sheet_35 rfl
  · refine rr_iload_n (q := 8) rfl dX6_sheet_7 rfl ?_
    refine rr_if_eq 36 (q := 11) rfl dX6_sheet_8 rfl (fun _ => ?_) (fun _ => ?_)
    · exact e_X6_sheet_36 l1 l2 l3 s2
    · refine rr_iload_n (q := 12) rfl dX6_sheet_11 rfl ?_
      refine rr_bipush 8 (q := 14) rfl dX6_sheet_12 rfl ?_
      refine rr_icmp_eq 36 (q := 17) rfl dX6_sheet_14 rfl (fun _ => ?_) (fun _ => ?_)
      · exact e_X6_sheet_36 l1 l2 l3 s2
      · refine rr_iload_n (q := 18) rfl dX6_sheet_17 rfl ?_
        refine rr_bipush 16 (q := 20) rfl dX6_sheet_18 rfl ?_
        refine rr_icmp_eq 36 (q := 23) rfl dX6_sheet_20 rfl (fun _ => ?_) (fun _ => ?_)
        · exact e_X6_sheet_36 l1 l2 l3 s2
        · refine rr_iload_n (q := 24) rfl dX6_sheet_23 rfl ?_
          refine rr_bipush 64 (q := 26) rfl dX6_sheet_24 rfl ?_
          refine rr_icmp_eq 36 (q := 29) rfl dX6_sheet_26 rfl (fun _ => ?_) (fun _ => ?_)
          · exact e_X6_sheet_36 l1 l2 l3 s2
          · refine rr_aload_n (q := 30) rfl dX6_sheet_29 rfl ?_
            refine rr_ldc (q := 32) rfl dX6_sheet_30 kc_X6_78 ?_
            refine rr_cVi (q := 35) rfl V_X6_finds ml_X6_125 ⟨Nat.le_of_ble_eq_true rfl, Nat.le_of_ble_eq_true rfl⟩ (e_X6_finds (-1000000001) s2) w_M rfl rfl rfl rfl (Nat.le_of_ble_eq_true rfl) dX6_sheet_32 (fun v5 s6 => ?_)
            exact rr_iret dX6_sheet_35 rfl
def fX6_write (l1 : Int32) (l2 : Int32) (l3 : Int64) (s : SM) : Option (Int64 × SM) :=
  bd (fX6_isSheet l1 s) fun v1 s2 =>
  (if v1 = 0 then
  bd (fX6_finds (-1000000001) s2) fun v18 s19 =>
  some (Int32.toInt64 v18, s19)
  else
  ixg l1 4 fun n3 =>
  (if (gM s2 16 n3) = 0 then
  bd (fX6_finds (-1000000006) s2) fun v16 s17 =>
  some (Int32.toInt64 v16, s17)
  else
  ixg l1 4 fun n4 =>
  bd (fX6_in l2 0 ((gM s2 17 n4) - 1) s2) fun v5 s6 =>
  (if v5 = 0 then
  bd (fX6_finds (-1000000001) s6) fun v14 s15 =>
  some (Int32.toInt64 v14, s15)
  else
  ixg ((40 * l1) + l2) 160 fun n7 =>
  vl (gN s6 18 n7) fun y8 =>
  ixg l1 4 fun n9 =>
  bd (fX6_narrow (gM s6 16 n9) l3 s6) fun v10 s11 =>
  ixg ((40 * l1) + l2) 160 fun n12 => vl (wN s11 18 n12 v10) fun s13 =>
  some (y8, s13))))
set_option maxRecDepth 100000 in
set_option maxHeartbeats 4000000 in
theorem e_X6_write {G : Cf} {x : SX} (l1 : Int32) (l2 : Int32) (l3 : Int64) (s : SM) : Ct (wfM x) inJ G M_X6_write [.ref mb, .int l1, .int l2, .long l3] s (fX6_write l1 l2 l3 s) := by
  refine Ct.of (L0 := [some (.ref mb), some (.int l1), some (.int l2), some (.long l3), none, none, none]) 2 rfl rfl ⟨rfl, rfl⟩ (Nat.le_of_ble_eq_true rfl) rfl ?_
  unfold fX6_write
  refine rr_iload_n (q := 1) rfl dX6_write_0 rfl ?_
  refine rr_cSi (q := 4) rfl V_X6_isSheet ml_X6_240 ⟨Nat.le_of_ble_eq_true rfl, Nat.le_of_ble_eq_true rfl⟩ (e_X6_isSheet l1 s) rfl rfl (Nat.le_of_ble_eq_true rfl) dX6_write_1 (fun v1 s2 => ?_)
  refine rr_if_ne 15 (q := 7) rfl dX6_write_4 rfl (fun _ => ?_) (fun _ => ?_)
  · refine rr_aload_n (q := 16) rfl dX6_write_15 rfl ?_
    refine rr_get (q := 19) rfl fl_X6_56 w_M rfl dX6_write_16 ?_
    refine rr_iload_n (q := 20) rfl dX6_write_19 rfl ?_
    refine rr_iald (q := 21) rfl w_marr16 dX6_write_20 (fun n3 => ?_)
    refine rr_if_ne 32 (q := 24) rfl dX6_write_21 rfl (fun _ => ?_) (fun _ => ?_)
    · refine rr_iload_n (q := 33) rfl dX6_write_32 rfl ?_
      refine rr_iconst 0 (q := 34) rfl dX6_write_33 rfl ?_
      refine rr_aload_n (q := 35) rfl dX6_write_34 rfl ?_
      refine rr_get (q := 38) rfl fl_X6_59 w_M rfl dX6_write_35 ?_
      refine rr_iload_n (q := 39) rfl dX6_write_38 rfl ?_
      refine rr_iald (q := 40) rfl w_marr17 dX6_write_39 (fun n4 => ?_)
      refine rr_iconst 1 (q := 41) rfl dX6_write_40 rfl ?_
      refine rr_isub (q := 42) rfl dX6_write_41 ?_
      refine rr_cSi (q := 45) rfl V_X6_in ml_X6_79 ⟨Nat.le_of_ble_eq_true rfl, Nat.le_of_ble_eq_true rfl⟩ (e_X6_in l2 0 ((gM s2 17 n4) - 1) s2) rfl rfl (Nat.le_of_ble_eq_true rfl) dX6_write_42 (fun v5 s6 => ?_)
      refine rr_if_ne 56 (q := 48) rfl dX6_write_45 rfl (fun _ => ?_) (fun _ => ?_)
      · refine rr_aload_n (q := 57) rfl dX6_write_56 rfl ?_
        refine rr_get (q := 60) rfl fl_X6_62 w_M rfl dX6_write_57 ?_
        refine rr_bipush 40 (q := 62) rfl dX6_write_60 rfl ?_
        refine rr_iload_n (q := 63) rfl dX6_write_62 rfl ?_
        refine rr_imul (q := 64) rfl dX6_write_63 ?_
        refine rr_iload_n (q := 65) rfl dX6_write_64 rfl ?_
        refine rr_iadd (q := 66) rfl dX6_write_65 ?_
        refine rr_lald (q := 67) rfl w_marr18 dX6_write_66 (fun n7 => ?_)
        refine rr_lstore (L2 := fun y8 => [some (.ref mb), some (.int l1), some (.int l2), some (.long l3), none, some (.long y8), none]) (q := 69) rfl dX6_write_67 (Nat.le_of_ble_eq_true rfl) (fun _ => rfl) (fun y8 => ?_)
        refine rr_aload_n (q := 70) rfl dX6_write_69 rfl ?_
        refine rr_get (q := 73) rfl fl_X6_62 w_M rfl dX6_write_70 ?_
        refine rr_bipush 40 (q := 75) rfl dX6_write_73 rfl ?_
        refine rr_iload_n (q := 76) rfl dX6_write_75 rfl ?_
        refine rr_imul (q := 77) rfl dX6_write_76 ?_
        refine rr_iload_n (q := 78) rfl dX6_write_77 rfl ?_
        refine rr_iadd (q := 79) rfl dX6_write_78 ?_
        refine rr_aload_n (q := 80) rfl dX6_write_79 rfl ?_
        refine rr_get (q := 83) rfl fl_X6_56 w_M rfl dX6_write_80 ?_
        refine rr_iload_n (q := 84) rfl dX6_write_83 rfl ?_
        refine rr_iald (q := 85) rfl w_marr16 dX6_write_84 (fun n9 => ?_)
        refine rr_lload_n (q := 86) rfl dX6_write_85 rfl ?_
        refine rr_cSl (q := 89) rfl V_X6_narrow ml_X6_358 ⟨Nat.le_of_ble_eq_true rfl, Nat.le_of_ble_eq_true rfl⟩ (e_X6_narrow (gM s6 16 n9) l3 s6) rfl rfl (Nat.le_of_ble_eq_true rfl) dX6_write_86 (fun v10 s11 => ?_)
        refine rr_last (q := 90) rfl w_marr18 (fun _ => u_marr18) dX6_write_89 (fun n12 s13 => ?_)
        refine rr_lload (q := 92) rfl dX6_write_90 rfl ?_
        exact rr_lret dX6_write_92 rfl
      · refine rr_aload_n (q := 49) rfl dX6_write_48 rfl ?_
        refine rr_ldc (q := 51) rfl dX6_write_49 kc_X6_78 ?_
        refine rr_cVi (q := 54) rfl V_X6_finds ml_X6_125 ⟨Nat.le_of_ble_eq_true rfl, Nat.le_of_ble_eq_true rfl⟩ (e_X6_finds (-1000000001) s6) w_M rfl rfl rfl rfl (Nat.le_of_ble_eq_true rfl) dX6_write_51 (fun v14 s15 => ?_)
        refine rr_i2l (q := 55) rfl dX6_write_54 ?_
        exact rr_lret dX6_write_55 rfl
    · refine rr_aload_n (q := 25) rfl dX6_write_24 rfl ?_
      refine rr_ldc (q := 27) rfl dX6_write_25 kc_X6_243 ?_
      refine rr_cVi (q := 30) rfl V_X6_finds ml_X6_125 ⟨Nat.le_of_ble_eq_true rfl, Nat.le_of_ble_eq_true rfl⟩ (e_X6_finds (-1000000006) s2) w_M rfl rfl rfl rfl (Nat.le_of_ble_eq_true rfl) dX6_write_27 (fun v16 s17 => ?_)
      refine rr_i2l (q := 31) rfl dX6_write_30 ?_
      exact rr_lret dX6_write_31 rfl
  · refine rr_aload_n (q := 8) rfl dX6_write_7 rfl ?_
    refine rr_ldc (q := 10) rfl dX6_write_8 kc_X6_78 ?_
    refine rr_cVi (q := 13) rfl V_X6_finds ml_X6_125 ⟨Nat.le_of_ble_eq_true rfl, Nat.le_of_ble_eq_true rfl⟩ (e_X6_finds (-1000000001) s2) w_M rfl rfl rfl rfl (Nat.le_of_ble_eq_true rfl) dX6_write_10 (fun v18 s19 => ?_)
    refine rr_i2l (q := 14) rfl dX6_write_13 ?_
    exact rr_lret dX6_write_14 rfl
def fX6_isPart (l1 : Int32) (l2 : Int32) (l3 : Int32) (s : SM) : Option (Int32 × SM) :=
  (if l2 < 0 then
  some (0, s)
  else
  (if l3 < 0 then
  some (0, s)
  else
  ixg l1 4 fun n1 =>
  (if (gM s 17 n1) < l3 then
  some (0, s)
  else
  ixg l1 4 fun n2 =>
  (if ((gM s 17 n2) - l3) < l2 then
  some (0, s)
  else
  some (1, s)))))
set_option maxRecDepth 100000 in
set_option maxHeartbeats 4000000 in
theorem e_X6_isPart {G : Cf} {x : SX} (l1 : Int32) (l2 : Int32) (l3 : Int32) (s : SM) : Ct (wfM x) inI G M_X6_isPart [.ref mb, .int l1, .int l2, .int l3] s (fX6_isPart l1 l2 l3 s) := by
  refine Ct.of (L0 := [some (.ref mb), some (.int l1), some (.int l2), some (.int l3)]) 0 rfl rfl ⟨rfl, rfl⟩ (Nat.le_of_ble_eq_true rfl) rfl ?_
  unfold fX6_isPart
  refine rr_iload_n (q := 1) rfl dX6_isPart_0 rfl ?_
  refine rr_if_lt 34 (q := 4) rfl dX6_isPart_1 rfl (fun _ => ?_) (fun _ => ?_)
  · refine rr_iconst 0 (q := 35) rfl dX6_isPart_34 rfl ?_
    exact rr_zret dX6_isPart_35 rfl (Or.inl rfl)
  · refine rr_iload_n (q := 5) rfl dX6_isPart_4 rfl ?_
    refine rr_if_lt 34 (q := 8) rfl dX6_isPart_5 rfl (fun _ => ?_) (fun _ => ?_)
    · refine rr_iconst 0 (q := 35) rfl dX6_isPart_34 rfl ?_
      exact rr_zret dX6_isPart_35 rfl (Or.inl rfl)
    · refine rr_iload_n (q := 9) rfl dX6_isPart_8 rfl ?_
      refine rr_aload_n (q := 10) rfl dX6_isPart_9 rfl ?_
      refine rr_get (q := 13) rfl fl_X6_59 w_M rfl dX6_isPart_10 ?_
      refine rr_iload_n (q := 14) rfl dX6_isPart_13 rfl ?_
      refine rr_iald (q := 15) rfl w_marr17 dX6_isPart_14 (fun n1 => ?_)
      refine rr_icmp_gt 34 (q := 18) rfl dX6_isPart_15 rfl (fun _ => ?_) (fun _ => ?_)
      · refine rr_iconst 0 (q := 35) rfl dX6_isPart_34 rfl ?_
        exact rr_zret dX6_isPart_35 rfl (Or.inl rfl)
      · refine rr_iload_n (q := 19) rfl dX6_isPart_18 rfl ?_
        refine rr_aload_n (q := 20) rfl dX6_isPart_19 rfl ?_
        refine rr_get (q := 23) rfl fl_X6_59 w_M rfl dX6_isPart_20 ?_
        refine rr_iload_n (q := 24) rfl dX6_isPart_23 rfl ?_
        refine rr_iald (q := 25) rfl w_marr17 dX6_isPart_24 (fun n2 => ?_)
        refine rr_iload_n (q := 26) rfl dX6_isPart_25 rfl ?_
        refine rr_isub (q := 27) rfl dX6_isPart_26 ?_
        refine rr_icmp_gt 34 (q := 30) rfl dX6_isPart_27 rfl (fun _ => ?_) (fun _ => ?_)
        · refine rr_iconst 0 (q := 35) rfl dX6_isPart_34 rfl ?_
          exact rr_zret dX6_isPart_35 rfl (Or.inl rfl)
        · refine rr_iconst 1 (q := 31) rfl dX6_isPart_30 rfl ?_
          refine rr_goto 35 dX6_isPart_31 rfl ?_
          exact rr_zret dX6_isPart_35 rfl (Or.inr rfl)
def fX6_copy_138b (k138 : Int32 → Int32 → Int32 → Int32 → SM → Option (Int32 × SM)) (l3 : Int32) (l4 : Int32) (l5 : Int32) (l6 : Int32) (s : SM) : Option (Int32 × SM) :=
  (if l5 ≤ l6 then
  some (l5, s)
  else
  ixg l6 40 fun n33 =>
  ixg (((40 * l3) + l4) + l6) 160 fun n34 => vl (wN s 18 n34 (gN s 19 n33)) fun s35 =>
  vl (l6 + 1) fun y36 =>
  k138 l3 l4 l5 y36 s35)
set_option maxRecDepth 100000 in
set_option maxHeartbeats 4000000 in
theorem e_X6_copy_138b {G : Cf} {x : SX} {k138 : Int32 → Int32 → Int32 → Int32 → SM → Option (Int32 × SM)} (hk138 : ∀ (l3 : Int32) (l4 : Int32) (l5 : Int32) (l6 : Int32) (s : SM), R (wfM x) inI G M_X6_copy 138 [some (.ref mb), none, none, some (.int l3), some (.int l4), some (.int l5), some (.int l6)] [] s (k138 l3 l4 l5 l6 s)) (l3 : Int32) (l4 : Int32) (l5 : Int32) (l6 : Int32) (s : SM) : R (wfM x) inI G M_X6_copy 138 [some (.ref mb), none, none, some (.int l3), some (.int l4), some (.int l5), some (.int l6)] [] s (fX6_copy_138b k138 l3 l4 l5 l6 s) := by
  unfold fX6_copy_138b
  refine rr_iload (q := 140) rfl dX6_copy_138 rfl ?_
  refine rr_iload (q := 142) rfl dX6_copy_140 rfl ?_
  refine rr_icmp_ge 173 (q := 145) rfl dX6_copy_142 rfl (fun _ => ?_) (fun _ => ?_)
  · refine rr_iload (q := 175) rfl dX6_copy_173 rfl ?_
    exact rr_iret dX6_copy_175 rfl
  · refine rr_aload_n (q := 146) rfl dX6_copy_145 rfl ?_
    refine rr_get (q := 149) rfl fl_X6_62 w_M rfl dX6_copy_146 ?_
    refine rr_bipush 40 (q := 151) rfl dX6_copy_149 rfl ?_
    refine rr_iload_n (q := 152) rfl dX6_copy_151 rfl ?_
    refine rr_imul (q := 153) rfl dX6_copy_152 ?_
    refine rr_iload (q := 155) rfl dX6_copy_153 rfl ?_
    refine rr_iadd (q := 156) rfl dX6_copy_155 ?_
    refine rr_iload (q := 158) rfl dX6_copy_156 rfl ?_
    refine rr_iadd (q := 159) rfl dX6_copy_158 ?_
    refine rr_aload_n (q := 160) rfl dX6_copy_159 rfl ?_
    refine rr_get (q := 163) rfl fl_X6_66 w_M rfl dX6_copy_160 ?_
    refine rr_iload (q := 165) rfl dX6_copy_163 rfl ?_
    refine rr_lald (q := 166) rfl w_marr19 dX6_copy_165 (fun n33 => ?_)
    refine rr_last (q := 167) rfl w_marr18 (fun _ => u_marr18) dX6_copy_166 (fun n34 s35 => ?_)
    refine rr_iinc (L2 := fun y36 => [some (.ref mb), none, none, some (.int l3), some (.int l4), some (.int l5), some (.int y36)]) (q := 170) rfl dX6_copy_167 rfl rfl (Nat.le_of_ble_eq_true rfl) (fun _ => rfl) (fun y36 => ?_)
    refine rr_goto 138 dX6_copy_170 rfl ?_
    exact hk138 l3 l4 l5 y36 s35
def fX6_copy_138 : Nat → Int32 → Int32 → Int32 → Int32 → SM → Option (Int32 × SM) := lp (fun _ _ _ _ _ => none) (fX6_copy_138b)
theorem e_X6_copy_138 {G : Cf} {x : SX}  (n : Nat) : ∀ (l3 : Int32) (l4 : Int32) (l5 : Int32) (l6 : Int32) (s : SM), R (wfM x) inI G M_X6_copy 138 [some (.ref mb), none, none, some (.int l3), some (.int l4), some (.int l5), some (.int l6)] [] s (fX6_copy_138 n l3 l4 l5 l6 s) := by
  unfold fX6_copy_138
  exact rr_lp (P := fun (kz : Int32 → Int32 → Int32 → Int32 → SM → Option (Int32 × SM)) => ∀ (l3 : Int32) (l4 : Int32) (l5 : Int32) (l6 : Int32) (s : SM), R (wfM x) inI G M_X6_copy 138 [some (.ref mb), none, none, some (.int l3), some (.int l4), some (.int l5), some (.int l6)] [] s (kz l3 l4 l5 l6 s)) (fun _ _ _ _ _ => rr_none) (fun kz hkz => fun l3 l4 l5 l6 s => e_X6_copy_138b hkz l3 l4 l5 l6 s) n
def fX6_copy_101b (k101 : Int32 → Int32 → Int32 → Int32 → Int32 → Int32 → SM → Option (Int32 × SM)) (l1 : Int32) (l2 : Int32) (l3 : Int32) (l4 : Int32) (l5 : Int32) (l6 : Int32) (s : SM) : Option (Int32 × SM) :=
  (if l5 ≤ l6 then
  vl 0 fun y28 =>
  fX6_copy_138 400 l3 l4 l5 y28 s
  else
  ixg (((40 * l1) + l2) + l6) 160 fun n29 =>
  ixg l6 40 fun n30 => vl (wN s 19 n30 (gN s 18 n29)) fun s31 =>
  vl (l6 + 1) fun y32 =>
  k101 l1 l2 l3 l4 l5 y32 s31)
set_option maxRecDepth 100000 in
set_option maxHeartbeats 4000000 in
theorem e_X6_copy_101b {G : Cf} {x : SX} {k101 : Int32 → Int32 → Int32 → Int32 → Int32 → Int32 → SM → Option (Int32 × SM)} (hk101 : ∀ (l1 : Int32) (l2 : Int32) (l3 : Int32) (l4 : Int32) (l5 : Int32) (l6 : Int32) (s : SM), R (wfM x) inI G M_X6_copy 101 [some (.ref mb), some (.int l1), some (.int l2), some (.int l3), some (.int l4), some (.int l5), some (.int l6)] [] s (k101 l1 l2 l3 l4 l5 l6 s)) (l1 : Int32) (l2 : Int32) (l3 : Int32) (l4 : Int32) (l5 : Int32) (l6 : Int32) (s : SM) : R (wfM x) inI G M_X6_copy 101 [some (.ref mb), some (.int l1), some (.int l2), some (.int l3), some (.int l4), some (.int l5), some (.int l6)] [] s (fX6_copy_101b k101 l1 l2 l3 l4 l5 l6 s) := by
  unfold fX6_copy_101b
  refine rr_iload (q := 103) rfl dX6_copy_101 rfl ?_
  refine rr_iload (q := 105) rfl dX6_copy_103 rfl ?_
  refine rr_icmp_ge 135 (q := 108) rfl dX6_copy_105 rfl (fun _ => ?_) (fun _ => ?_)
  · refine rr_iconst 0 (q := 136) rfl dX6_copy_135 rfl ?_
    refine rr_istore (L2 := fun y28 => [some (.ref mb), some (.int l1), some (.int l2), some (.int l3), some (.int l4), some (.int l5), some (.int y28)]) (q := 138) rfl dX6_copy_136 (Nat.le_of_ble_eq_true rfl) (fun _ => rfl) (fun y28 => ?_)
    refine rr_mask [true, false, false, true, true, true, true] (L' := [some (.ref mb), none, none, some (.int l3), some (.int l4), some (.int l5), some (.int y28)]) rfl ?_
    exact e_X6_copy_138 400 l3 l4 l5 y28 s
  · refine rr_aload_n (q := 109) rfl dX6_copy_108 rfl ?_
    refine rr_get (q := 112) rfl fl_X6_66 w_M rfl dX6_copy_109 ?_
    refine rr_iload (q := 114) rfl dX6_copy_112 rfl ?_
    refine rr_aload_n (q := 115) rfl dX6_copy_114 rfl ?_
    refine rr_get (q := 118) rfl fl_X6_62 w_M rfl dX6_copy_115 ?_
    refine rr_bipush 40 (q := 120) rfl dX6_copy_118 rfl ?_
    refine rr_iload_n (q := 121) rfl dX6_copy_120 rfl ?_
    refine rr_imul (q := 122) rfl dX6_copy_121 ?_
    refine rr_iload_n (q := 123) rfl dX6_copy_122 rfl ?_
    refine rr_iadd (q := 124) rfl dX6_copy_123 ?_
    refine rr_iload (q := 126) rfl dX6_copy_124 rfl ?_
    refine rr_iadd (q := 127) rfl dX6_copy_126 ?_
    refine rr_lald (q := 128) rfl w_marr18 dX6_copy_127 (fun n29 => ?_)
    refine rr_last (q := 129) rfl w_marr19 (fun _ => u_marr19) dX6_copy_128 (fun n30 s31 => ?_)
    refine rr_iinc (L2 := fun y32 => [some (.ref mb), some (.int l1), some (.int l2), some (.int l3), some (.int l4), some (.int l5), some (.int y32)]) (q := 132) rfl dX6_copy_129 rfl rfl (Nat.le_of_ble_eq_true rfl) (fun _ => rfl) (fun y32 => ?_)
    refine rr_goto 101 dX6_copy_132 rfl ?_
    exact hk101 l1 l2 l3 l4 l5 y32 s31
def fX6_copy_101 : Nat → Int32 → Int32 → Int32 → Int32 → Int32 → Int32 → SM → Option (Int32 × SM) := lp (fun _ _ _ _ _ _ _ => none) (fX6_copy_101b)
theorem e_X6_copy_101 {G : Cf} {x : SX}  (n : Nat) : ∀ (l1 : Int32) (l2 : Int32) (l3 : Int32) (l4 : Int32) (l5 : Int32) (l6 : Int32) (s : SM), R (wfM x) inI G M_X6_copy 101 [some (.ref mb), some (.int l1), some (.int l2), some (.int l3), some (.int l4), some (.int l5), some (.int l6)] [] s (fX6_copy_101 n l1 l2 l3 l4 l5 l6 s) := by
  unfold fX6_copy_101
  exact rr_lp (P := fun (kz : Int32 → Int32 → Int32 → Int32 → Int32 → Int32 → SM → Option (Int32 × SM)) => ∀ (l1 : Int32) (l2 : Int32) (l3 : Int32) (l4 : Int32) (l5 : Int32) (l6 : Int32) (s : SM), R (wfM x) inI G M_X6_copy 101 [some (.ref mb), some (.int l1), some (.int l2), some (.int l3), some (.int l4), some (.int l5), some (.int l6)] [] s (kz l1 l2 l3 l4 l5 l6 s)) (fun _ _ _ _ _ _ _ => rr_none) (fun kz hkz => fun l1 l2 l3 l4 l5 l6 s => e_X6_copy_101b hkz l1 l2 l3 l4 l5 l6 s) n
def fX6_copy (l1 : Int32) (l2 : Int32) (l3 : Int32) (l4 : Int32) (l5 : Int32) (s : SM) : Option (Int32 × SM) :=
  bd (fX6_isSheet l1 s) fun v1 s2 =>
  (if v1 = 0 then
  bd (fX6_finds (-1000000001) s2) fun v3 s4 =>
  some (v3, s4)
  else
  bd (fX6_isSheet l3 s2) fun v5 s6 =>
  (if v5 = 0 then
  bd (fX6_finds (-1000000001) s6) fun v26 s27 =>
  some (v26, s27)
  else
  ixg l1 4 fun n7 =>
  (if (gM s6 16 n7) = 0 then
  bd (fX6_finds (-1000000006) s6) fun v8 s9 =>
  some (v8, s9)
  else
  ixg l3 4 fun n10 =>
  (if (gM s6 16 n10) = 0 then
  bd (fX6_finds (-1000000006) s6) fun v24 s25 =>
  some (v24, s25)
  else
  ixg l1 4 fun n11 =>
  ixg l3 4 fun n12 =>
  (if (gM s6 16 n11) = (gM s6 16 n12) then
  bd (fX6_isPart l1 l2 l5 s6) fun v13 s14 =>
  (if v13 = 0 then
  bd (fX6_finds (-1000000001) s14) fun v15 s16 =>
  some (v15, s16)
  else
  bd (fX6_isPart l3 l4 l5 s14) fun v17 s18 =>
  (if v17 = 0 then
  bd (fX6_finds (-1000000001) s18) fun v20 s21 =>
  some (v20, s21)
  else
  vl 0 fun y19 =>
  fX6_copy_101 400 l1 l2 l3 l4 l5 y19 s18))
  else
  bd (fX6_finds (-1000000003) s6) fun v22 s23 =>
  some (v22, s23))))))
set_option maxRecDepth 100000 in
set_option maxHeartbeats 4000000 in
theorem e_X6_copy {G : Cf} {x : SX} (l1 : Int32) (l2 : Int32) (l3 : Int32) (l4 : Int32) (l5 : Int32) (s : SM) : Ct (wfM x) inI G M_X6_copy [.ref mb, .int l1, .int l2, .int l3, .int l4, .int l5] s (fX6_copy l1 l2 l3 l4 l5 s) := by
  refine Ct.of (L0 := [some (.ref mb), some (.int l1), some (.int l2), some (.int l3), some (.int l4), some (.int l5), none]) 1 rfl rfl ⟨rfl, rfl⟩ (Nat.le_of_ble_eq_true rfl) rfl ?_
  unfold fX6_copy
  refine rr_iload_n (q := 1) rfl dX6_copy_0 rfl ?_
  refine rr_cSi (q := 4) rfl V_X6_isSheet ml_X6_240 ⟨Nat.le_of_ble_eq_true rfl, Nat.le_of_ble_eq_true rfl⟩ (e_X6_isSheet l1 s) rfl rfl (Nat.le_of_ble_eq_true rfl) dX6_copy_1 (fun v1 s2 => ?_)
  refine rr_if_eq 14 (q := 7) rfl dX6_copy_4 rfl (fun _ => ?_) (fun _ => ?_)
  · refine rr_aload_n (q := 15) rfl dX6_copy_14 rfl ?_
    refine rr_ldc (q := 17) rfl dX6_copy_15 kc_X6_78 ?_
    refine rr_cVi (q := 20) rfl V_X6_finds ml_X6_125 ⟨Nat.le_of_ble_eq_true rfl, Nat.le_of_ble_eq_true rfl⟩ (e_X6_finds (-1000000001) s2) w_M rfl rfl rfl rfl (Nat.le_of_ble_eq_true rfl) dX6_copy_17 (fun v3 s4 => ?_)
    exact rr_iret dX6_copy_20 rfl
  · refine rr_iload_n (q := 8) rfl dX6_copy_7 rfl ?_
    refine rr_cSi (q := 11) rfl V_X6_isSheet ml_X6_240 ⟨Nat.le_of_ble_eq_true rfl, Nat.le_of_ble_eq_true rfl⟩ (e_X6_isSheet l3 s2) rfl rfl (Nat.le_of_ble_eq_true rfl) dX6_copy_8 (fun v5 s6 => ?_)
    refine rr_if_ne 21 (q := 14) rfl dX6_copy_11 rfl (fun _ => ?_) (fun _ => ?_)
    · refine rr_aload_n (q := 22) rfl dX6_copy_21 rfl ?_
      refine rr_get (q := 25) rfl fl_X6_56 w_M rfl dX6_copy_22 ?_
      refine rr_iload_n (q := 26) rfl dX6_copy_25 rfl ?_
      refine rr_iald (q := 27) rfl w_marr16 dX6_copy_26 (fun n7 => ?_)
      refine rr_if_eq 39 (q := 30) rfl dX6_copy_27 rfl (fun _ => ?_) (fun _ => ?_)
      · refine rr_aload_n (q := 40) rfl dX6_copy_39 rfl ?_
        refine rr_ldc (q := 42) rfl dX6_copy_40 kc_X6_243 ?_
        refine rr_cVi (q := 45) rfl V_X6_finds ml_X6_125 ⟨Nat.le_of_ble_eq_true rfl, Nat.le_of_ble_eq_true rfl⟩ (e_X6_finds (-1000000006) s6) w_M rfl rfl rfl rfl (Nat.le_of_ble_eq_true rfl) dX6_copy_42 (fun v8 s9 => ?_)
        exact rr_iret dX6_copy_45 rfl
      · refine rr_aload_n (q := 31) rfl dX6_copy_30 rfl ?_
        refine rr_get (q := 34) rfl fl_X6_56 w_M rfl dX6_copy_31 ?_
        refine rr_iload_n (q := 35) rfl dX6_copy_34 rfl ?_
        refine rr_iald (q := 36) rfl w_marr16 dX6_copy_35 (fun n10 => ?_)
        refine rr_if_ne 46 (q := 39) rfl dX6_copy_36 rfl (fun _ => ?_) (fun _ => ?_)
        · refine rr_aload_n (q := 47) rfl dX6_copy_46 rfl ?_
          refine rr_get (q := 50) rfl fl_X6_56 w_M rfl dX6_copy_47 ?_
          refine rr_iload_n (q := 51) rfl dX6_copy_50 rfl ?_
          refine rr_iald (q := 52) rfl w_marr16 dX6_copy_51 (fun n11 => ?_)
          refine rr_aload_n (q := 53) rfl dX6_copy_52 rfl ?_
          refine rr_get (q := 56) rfl fl_X6_56 w_M rfl dX6_copy_53 ?_
          refine rr_iload_n (q := 57) rfl dX6_copy_56 rfl ?_
          refine rr_iald (q := 58) rfl w_marr16 dX6_copy_57 (fun n12 => ?_)
          refine rr_icmp_eq 68 (q := 61) rfl dX6_copy_58 rfl (fun _ => ?_) (fun _ => ?_)
          · refine rr_aload_n (q := 69) rfl dX6_copy_68 rfl ?_
            refine rr_iload_n (q := 70) rfl dX6_copy_69 rfl ?_
            refine rr_iload_n (q := 71) rfl dX6_copy_70 rfl ?_
            refine rr_iload (q := 73) rfl dX6_copy_71 rfl ?_
            refine rr_cVi (q := 76) rfl V_X6_isPart ml_X6_362 ⟨Nat.le_of_ble_eq_true rfl, Nat.le_of_ble_eq_true rfl⟩ (e_X6_isPart l1 l2 l5 s6) w_M rfl rfl rfl rfl (Nat.le_of_ble_eq_true rfl) dX6_copy_73 (fun v13 s14 => ?_)
            refine rr_if_eq 91 (q := 79) rfl dX6_copy_76 rfl (fun _ => ?_) (fun _ => ?_)
            · refine rr_aload_n (q := 92) rfl dX6_copy_91 rfl ?_
              refine rr_ldc (q := 94) rfl dX6_copy_92 kc_X6_78 ?_
              refine rr_cVi (q := 97) rfl V_X6_finds ml_X6_125 ⟨Nat.le_of_ble_eq_true rfl, Nat.le_of_ble_eq_true rfl⟩ (e_X6_finds (-1000000001) s14) w_M rfl rfl rfl rfl (Nat.le_of_ble_eq_true rfl) dX6_copy_94 (fun v15 s16 => ?_)
              exact rr_iret dX6_copy_97 rfl
            · refine rr_aload_n (q := 80) rfl dX6_copy_79 rfl ?_
              refine rr_iload_n (q := 81) rfl dX6_copy_80 rfl ?_
              refine rr_iload (q := 83) rfl dX6_copy_81 rfl ?_
              refine rr_iload (q := 85) rfl dX6_copy_83 rfl ?_
              refine rr_cVi (q := 88) rfl V_X6_isPart ml_X6_362 ⟨Nat.le_of_ble_eq_true rfl, Nat.le_of_ble_eq_true rfl⟩ (e_X6_isPart l3 l4 l5 s14) w_M rfl rfl rfl rfl (Nat.le_of_ble_eq_true rfl) dX6_copy_85 (fun v17 s18 => ?_)
              refine rr_if_ne 98 (q := 91) rfl dX6_copy_88 rfl (fun _ => ?_) (fun _ => ?_)
              · refine rr_iconst 0 (q := 99) rfl dX6_copy_98 rfl ?_
                refine rr_istore (L2 := fun y19 => [some (.ref mb), some (.int l1), some (.int l2), some (.int l3), some (.int l4), some (.int l5), some (.int y19)]) (q := 101) rfl dX6_copy_99 (Nat.le_of_ble_eq_true rfl) (fun _ => rfl) (fun y19 => ?_)
                exact e_X6_copy_101 400 l1 l2 l3 l4 l5 y19 s18
              · refine rr_aload_n (q := 92) rfl dX6_copy_91 rfl ?_
                refine rr_ldc (q := 94) rfl dX6_copy_92 kc_X6_78 ?_
                refine rr_cVi (q := 97) rfl V_X6_finds ml_X6_125 ⟨Nat.le_of_ble_eq_true rfl, Nat.le_of_ble_eq_true rfl⟩ (e_X6_finds (-1000000001) s18) w_M rfl rfl rfl rfl (Nat.le_of_ble_eq_true rfl) dX6_copy_94 (fun v20 s21 => ?_)
                exact rr_iret dX6_copy_97 rfl
          · refine rr_aload_n (q := 62) rfl dX6_copy_61 rfl ?_
            refine rr_ldc (q := 64) rfl dX6_copy_62 kc_X6_144 ?_
            refine rr_cVi (q := 67) rfl V_X6_finds ml_X6_125 ⟨Nat.le_of_ble_eq_true rfl, Nat.le_of_ble_eq_true rfl⟩ (e_X6_finds (-1000000003) s6) w_M rfl rfl rfl rfl (Nat.le_of_ble_eq_true rfl) dX6_copy_64 (fun v22 s23 => ?_)
            exact rr_iret dX6_copy_67 rfl
        · refine rr_aload_n (q := 40) rfl dX6_copy_39 rfl ?_
          refine rr_ldc (q := 42) rfl dX6_copy_40 kc_X6_243 ?_
          refine rr_cVi (q := 45) rfl V_X6_finds ml_X6_125 ⟨Nat.le_of_ble_eq_true rfl, Nat.le_of_ble_eq_true rfl⟩ (e_X6_finds (-1000000006) s6) w_M rfl rfl rfl rfl (Nat.le_of_ble_eq_true rfl) dX6_copy_42 (fun v24 s25 => ?_)
          exact rr_iret dX6_copy_45 rfl
    · refine rr_aload_n (q := 15) rfl dX6_copy_14 rfl ?_
      refine rr_ldc (q := 17) rfl dX6_copy_15 kc_X6_78 ?_
      refine rr_cVi (q := 20) rfl V_X6_finds ml_X6_125 ⟨Nat.le_of_ble_eq_true rfl, Nat.le_of_ble_eq_true rfl⟩ (e_X6_finds (-1000000001) s6) w_M rfl rfl rfl rfl (Nat.le_of_ble_eq_true rfl) dX6_copy_17 (fun v26 s27 => ?_)
      exact rr_iret dX6_copy_20 rfl
def fX6_lays_103 (k34 : Int32 → Int32 → Int32 → SM → Option (Int32 × SM)) (l1 : Int32) (l2 : Int32) (l3 : Int32) (s : SM) : Option (Int32 × SM) :=
  vl (l3 + 1) fun y18 =>
  k34 l1 l2 y18 s
set_option maxRecDepth 100000 in
set_option maxHeartbeats 4000000 in
theorem e_X6_lays_103 {G : Cf} {x : SX} {k34 : Int32 → Int32 → Int32 → SM → Option (Int32 × SM)} (hk34 : ∀ (l1 : Int32) (l2 : Int32) (l3 : Int32) (s : SM), R (wfM x) inI G M_X6_lays 34 [some (.ref mb), some (.int l1), some (.int l2), some (.int l3), none, none] [] s (k34 l1 l2 l3 s)) (l1 : Int32) (l2 : Int32) (l3 : Int32) (s : SM) : R (wfM x) inI G M_X6_lays 103 [some (.ref mb), some (.int l1), some (.int l2), some (.int l3), none, none] [] s (fX6_lays_103 k34 l1 l2 l3 s) := by
  unfold fX6_lays_103
  refine rr_iinc (L2 := fun y18 => [some (.ref mb), some (.int l1), some (.int l2), some (.int y18), none, none]) (q := 106) rfl dX6_lays_103 rfl rfl (Nat.le_of_ble_eq_true rfl) (fun _ => rfl) (fun y18 => ?_)
  refine rr_goto 34 dX6_lays_106 rfl ?_
  exact hk34 l1 l2 y18 s
def fX6_lays_34b (k34 : Int32 → Int32 → Int32 → SM → Option (Int32 × SM)) (l1 : Int32) (l2 : Int32) (l3 : Int32) (s : SM) : Option (Int32 × SM) :=
  (if (gM s 0 1) ≤ l3 then
  some (l2, s)
  else
  ixg l1 4 fun n10 =>
  (if (gM s 17 n10) ≤ l3 then
  some (l2, s)
  else
  ixg ((40 * l1) + l3) 160 fun n11 =>
  vl (gN s 18 n11) fun y12 =>
  (if (lg_cmp y12 0) < 0 then
  fX6_lays_103 k34 l1 l2 l3 s
  else
  (if 0 < (lg_cmp y12 5) then
  fX6_lays_103 k34 l1 l2 l3 s
  else
  bd (fX6_lives l3 s) fun v13 s14 =>
  (if v13 = 0 then
  fX6_lays_103 k34 l1 l2 l3 s14
  else
  ixg (1 + l3) 82 fun n15 => vl (wM s14 9 n15 (Int64.toInt32 y12)) fun s16 =>
  vl (l2 + 1) fun y17 =>
  fX6_lays_103 k34 l1 y17 l3 s16)))))
set_option maxRecDepth 100000 in
set_option maxHeartbeats 4000000 in
theorem e_X6_lays_34b {G : Cf} {x : SX} {k34 : Int32 → Int32 → Int32 → SM → Option (Int32 × SM)} (hk34 : ∀ (l1 : Int32) (l2 : Int32) (l3 : Int32) (s : SM), R (wfM x) inI G M_X6_lays 34 [some (.ref mb), some (.int l1), some (.int l2), some (.int l3), none, none] [] s (k34 l1 l2 l3 s)) (l1 : Int32) (l2 : Int32) (l3 : Int32) (s : SM) : R (wfM x) inI G M_X6_lays 34 [some (.ref mb), some (.int l1), some (.int l2), some (.int l3), none, none] [] s (fX6_lays_34b k34 l1 l2 l3 s) := by
  unfold fX6_lays_34b
  refine rr_iload_n (q := 35) rfl dX6_lays_34 rfl ?_
  refine rr_aload_n (q := 36) rfl dX6_lays_35 rfl ?_
  refine rr_get (q := 39) rfl fl_X6_83 w_M rfl dX6_lays_36 ?_
  refine rr_icmp_ge 109 (q := 42) rfl dX6_lays_39 rfl (fun _ => ?_) (fun _ => ?_)
  · refine rr_iload_n (q := 110) rfl dX6_lays_109 rfl ?_
    exact rr_iret dX6_lays_110 rfl
  · refine rr_iload_n (q := 43) rfl dX6_lays_42 rfl ?_
    refine rr_aload_n (q := 44) rfl dX6_lays_43 rfl ?_
    refine rr_get (q := 47) rfl fl_X6_59 w_M rfl dX6_lays_44 ?_
    refine rr_iload_n (q := 48) rfl dX6_lays_47 rfl ?_
    refine rr_iald (q := 49) rfl w_marr17 dX6_lays_48 (fun n10 => ?_)
    refine rr_icmp_ge 109 (q := 52) rfl dX6_lays_49 rfl (fun _ => ?_) (fun _ => ?_)
    · refine rr_iload_n (q := 110) rfl dX6_lays_109 rfl ?_
      exact rr_iret dX6_lays_110 rfl
    · refine rr_aload_n (q := 53) rfl dX6_lays_52 rfl ?_
      refine rr_get (q := 56) rfl fl_X6_62 w_M rfl dX6_lays_53 ?_
      refine rr_bipush 40 (q := 58) rfl dX6_lays_56 rfl ?_
      refine rr_iload_n (q := 59) rfl dX6_lays_58 rfl ?_
      refine rr_imul (q := 60) rfl dX6_lays_59 ?_
      refine rr_iload_n (q := 61) rfl dX6_lays_60 rfl ?_
      refine rr_iadd (q := 62) rfl dX6_lays_61 ?_
      refine rr_lald (q := 63) rfl w_marr18 dX6_lays_62 (fun n11 => ?_)
      refine rr_lstore (L2 := fun y12 => [some (.ref mb), some (.int l1), some (.int l2), some (.int l3), some (.long y12), none]) (q := 65) rfl dX6_lays_63 (Nat.le_of_ble_eq_true rfl) (fun _ => rfl) (fun y12 => ?_)
      refine rr_lload (q := 67) rfl dX6_lays_65 rfl ?_
      refine rr_lconst 0 (q := 68) rfl dX6_lays_67 rfl ?_
      refine rr_lcmp (q := 69) rfl dX6_lays_68 ?_
      refine rr_if_lt 103 (q := 72) rfl dX6_lays_69 rfl (fun _ => ?_) (fun _ => ?_)
      · refine rr_mask [true, true, true, true, false, false] (L' := [some (.ref mb), some (.int l1), some (.int l2), some (.int l3), none, none]) rfl ?_
        exact e_X6_lays_103 hk34 l1 l2 l3 s
      · refine rr_lload (q := 74) rfl dX6_lays_72 rfl ?_
        refine rr_ldc2 (q := 77) rfl dX6_lays_74 kc_X6_244 ?_
        refine rr_lcmp (q := 78) rfl dX6_lays_77 ?_
        refine rr_if_gt 103 (q := 81) rfl dX6_lays_78 rfl (fun _ => ?_) (fun _ => ?_)
        · refine rr_mask [true, true, true, true, false, false] (L' := [some (.ref mb), some (.int l1), some (.int l2), some (.int l3), none, none]) rfl ?_
          exact e_X6_lays_103 hk34 l1 l2 l3 s
        · refine rr_aload_n (q := 82) rfl dX6_lays_81 rfl ?_
          refine rr_iload_n (q := 83) rfl dX6_lays_82 rfl ?_
          refine rr_cVi (q := 86) rfl V_X6_lives ml_X6_97 ⟨Nat.le_of_ble_eq_true rfl, Nat.le_of_ble_eq_true rfl⟩ (e_X6_lives l3 s) w_M rfl rfl rfl rfl (Nat.le_of_ble_eq_true rfl) dX6_lays_83 (fun v13 s14 => ?_)
          refine rr_if_eq 103 (q := 89) rfl dX6_lays_86 rfl (fun _ => ?_) (fun _ => ?_)
          · refine rr_mask [true, true, true, true, false, false] (L' := [some (.ref mb), some (.int l1), some (.int l2), some (.int l3), none, none]) rfl ?_
            exact e_X6_lays_103 hk34 l1 l2 l3 s14
          · refine rr_aload_n (q := 90) rfl dX6_lays_89 rfl ?_
            refine rr_get (q := 93) rfl fl_X6_34 w_M rfl dX6_lays_90 ?_
            refine rr_iconst 1 (q := 94) rfl dX6_lays_93 rfl ?_
            refine rr_iload_n (q := 95) rfl dX6_lays_94 rfl ?_
            refine rr_iadd (q := 96) rfl dX6_lays_95 ?_
            refine rr_lload (q := 98) rfl dX6_lays_96 rfl ?_
            refine rr_l2i (q := 99) rfl dX6_lays_98 ?_
            refine rr_iast (q := 100) rfl w_marr9 (fun _ => u_marr9) dX6_lays_99 (fun n15 s16 => ?_)
            refine rr_iinc (L2 := fun y17 => [some (.ref mb), some (.int l1), some (.int y17), some (.int l3), some (.long y12), none]) (q := 103) rfl dX6_lays_100 rfl rfl (Nat.le_of_ble_eq_true rfl) (fun _ => rfl) (fun y17 => ?_)
            refine rr_mask [true, true, true, true, false, false] (L' := [some (.ref mb), some (.int l1), some (.int y17), some (.int l3), none, none]) rfl ?_
            exact e_X6_lays_103 hk34 l1 y17 l3 s16
def fX6_lays_34 : Nat → Int32 → Int32 → Int32 → SM → Option (Int32 × SM) := lp (fun _ _ _ _ => none) (fX6_lays_34b)
theorem e_X6_lays_34 {G : Cf} {x : SX}  (n : Nat) : ∀ (l1 : Int32) (l2 : Int32) (l3 : Int32) (s : SM), R (wfM x) inI G M_X6_lays 34 [some (.ref mb), some (.int l1), some (.int l2), some (.int l3), none, none] [] s (fX6_lays_34 n l1 l2 l3 s) := by
  unfold fX6_lays_34
  exact rr_lp (P := fun (kz : Int32 → Int32 → Int32 → SM → Option (Int32 × SM)) => ∀ (l1 : Int32) (l2 : Int32) (l3 : Int32) (s : SM), R (wfM x) inI G M_X6_lays 34 [some (.ref mb), some (.int l1), some (.int l2), some (.int l3), none, none] [] s (kz l1 l2 l3 s)) (fun _ _ _ _ => rr_none) (fun kz hkz => fun l1 l2 l3 s => e_X6_lays_34b hkz l1 l2 l3 s) n
def fX6_lays (l1 : Int32) (s : SM) : Option (Int32 × SM) :=
  bd (fX6_isSheet l1 s) fun v1 s2 =>
  (if v1 = 0 then
  bd (fX6_finds (-1000000001) s2) fun v8 s9 =>
  some (v8, s9)
  else
  ixg l1 4 fun n3 =>
  (if (gM s2 16 n3) = 0 then
  bd (fX6_finds (-1000000006) s2) fun v6 s7 =>
  some (v6, s7)
  else
  vl 0 fun y4 =>
  vl 0 fun y5 =>
  fX6_lays_34 400 l1 y4 y5 s2))
set_option maxRecDepth 100000 in
set_option maxHeartbeats 4000000 in
theorem e_X6_lays {G : Cf} {x : SX} (l1 : Int32) (s : SM) : Ct (wfM x) inI G M_X6_lays [.ref mb, .int l1] s (fX6_lays l1 s) := by
  refine Ct.of (L0 := [some (.ref mb), some (.int l1), none, none, none, none]) 4 rfl rfl ⟨rfl, rfl⟩ (Nat.le_of_ble_eq_true rfl) rfl ?_
  unfold fX6_lays
  refine rr_iload_n (q := 1) rfl dX6_lays_0 rfl ?_
  refine rr_cSi (q := 4) rfl V_X6_isSheet ml_X6_240 ⟨Nat.le_of_ble_eq_true rfl, Nat.le_of_ble_eq_true rfl⟩ (e_X6_isSheet l1 s) rfl rfl (Nat.le_of_ble_eq_true rfl) dX6_lays_1 (fun v1 s2 => ?_)
  refine rr_if_ne 14 (q := 7) rfl dX6_lays_4 rfl (fun _ => ?_) (fun _ => ?_)
  · refine rr_aload_n (q := 15) rfl dX6_lays_14 rfl ?_
    refine rr_get (q := 18) rfl fl_X6_56 w_M rfl dX6_lays_15 ?_
    refine rr_iload_n (q := 19) rfl dX6_lays_18 rfl ?_
    refine rr_iald (q := 20) rfl w_marr16 dX6_lays_19 (fun n3 => ?_)
    refine rr_if_ne 30 (q := 23) rfl dX6_lays_20 rfl (fun _ => ?_) (fun _ => ?_)
    · refine rr_iconst 0 (q := 31) rfl dX6_lays_30 rfl ?_
      refine rr_istore_n (L2 := fun y4 => [some (.ref mb), some (.int l1), some (.int y4), none, none, none]) (q := 32) rfl dX6_lays_31 (Nat.le_of_ble_eq_true rfl) (fun _ => rfl) (fun y4 => ?_)
      refine rr_iconst 0 (q := 33) rfl dX6_lays_32 rfl ?_
      refine rr_istore_n (L2 := fun y5 => [some (.ref mb), some (.int l1), some (.int y4), some (.int y5), none, none]) (q := 34) rfl dX6_lays_33 (Nat.le_of_ble_eq_true rfl) (fun _ => rfl) (fun y5 => ?_)
      exact e_X6_lays_34 400 l1 y4 y5 s2
    · refine rr_aload_n (q := 24) rfl dX6_lays_23 rfl ?_
      refine rr_ldc (q := 26) rfl dX6_lays_24 kc_X6_243 ?_
      refine rr_cVi (q := 29) rfl V_X6_finds ml_X6_125 ⟨Nat.le_of_ble_eq_true rfl, Nat.le_of_ble_eq_true rfl⟩ (e_X6_finds (-1000000006) s2) w_M rfl rfl rfl rfl (Nat.le_of_ble_eq_true rfl) dX6_lays_26 (fun v6 s7 => ?_)
      exact rr_iret dX6_lays_29 rfl
  · refine rr_aload_n (q := 8) rfl dX6_lays_7 rfl ?_
    refine rr_ldc (q := 10) rfl dX6_lays_8 kc_X6_78 ?_
    refine rr_cVi (q := 13) rfl V_X6_finds ml_X6_125 ⟨Nat.le_of_ble_eq_true rfl, Nat.le_of_ble_eq_true rfl⟩ (e_X6_finds (-1000000001) s2) w_M rfl rfl rfl rfl (Nat.le_of_ble_eq_true rfl) dX6_lays_10 (fun v8 s9 => ?_)
    exact rr_iret dX6_lays_13 rfl
def fX6_rolled (l1 : Int32) (s : SM) : Option (Int32 × SM) :=
  bd (fX6_lives l1 s) fun v1 s2 =>
  (if v1 = 0 then
  some ((-1), s2)
  else
  bd (fX6_holder l1 s2) fun v3 s4 =>
  some (v3, s4))
set_option maxRecDepth 100000 in
set_option maxHeartbeats 4000000 in
theorem e_X6_rolled {G : Cf} {x : SX} (l1 : Int32) (s : SM) : Ct (wfM x) inI G M_X6_rolled [.ref mb, .int l1] s (fX6_rolled l1 s) := by
  refine Ct.of (L0 := [some (.ref mb), some (.int l1)]) 0 rfl rfl ⟨rfl, rfl⟩ (Nat.le_of_ble_eq_true rfl) rfl ?_
  unfold fX6_rolled
  refine rr_aload_n (q := 1) rfl dX6_rolled_0 rfl ?_
  refine rr_iload_n (q := 2) rfl dX6_rolled_1 rfl ?_
  refine rr_cVi (q := 5) rfl V_X6_lives ml_X6_97 ⟨Nat.le_of_ble_eq_true rfl, Nat.le_of_ble_eq_true rfl⟩ (e_X6_lives l1 s) w_M rfl rfl rfl rfl (Nat.le_of_ble_eq_true rfl) dX6_rolled_2 (fun v1 s2 => ?_)
  refine rr_if_eq 16 (q := 8) rfl dX6_rolled_5 rfl (fun _ => ?_) (fun _ => ?_)
  · refine rr_iconst (-1) (q := 17) rfl dX6_rolled_16 rfl ?_
    exact rr_iret dX6_rolled_17 rfl
  · refine rr_aload_n (q := 9) rfl dX6_rolled_8 rfl ?_
    refine rr_iload_n (q := 10) rfl dX6_rolled_9 rfl ?_
    refine rr_cVi (q := 13) rfl V_X6_holder ml_X6_93 ⟨Nat.le_of_ble_eq_true rfl, Nat.le_of_ble_eq_true rfl⟩ (e_X6_holder l1 s2) w_M rfl rfl rfl rfl (Nat.le_of_ble_eq_true rfl) dX6_rolled_10 (fun v3 s4 => ?_)
    refine rr_goto 17 dX6_rolled_13 rfl ?_
    exact rr_iret dX6_rolled_17 rfl
def fX6_roll_32b (k32 : Int32 → Int32 → SM → Option (Int32 × SM)) (l1 : Int32) (l2 : Int32) (s : SM) : Option (Int32 × SM) :=
  (if (gM s 0 1) ≤ l2 then
  some (l2, s)
  else
  ixg l1 4 fun n9 =>
  (if (gM s 17 n9) ≤ l2 then
  some (l2, s)
  else
  bd (fX6_rolled l2 s) fun v10 s11 =>
  ixg ((40 * l1) + l2) 160 fun n12 => vl (wN s11 18 n12 (Int32.toInt64 v10)) fun s13 =>
  vl (l2 + 1) fun y14 =>
  k32 l1 y14 s13))
set_option maxRecDepth 100000 in
set_option maxHeartbeats 4000000 in
theorem e_X6_roll_32b {G : Cf} {x : SX} {k32 : Int32 → Int32 → SM → Option (Int32 × SM)} (hk32 : ∀ (l1 : Int32) (l2 : Int32) (s : SM), R (wfM x) inI G M_X6_roll 32 [some (.ref mb), some (.int l1), some (.int l2)] [] s (k32 l1 l2 s)) (l1 : Int32) (l2 : Int32) (s : SM) : R (wfM x) inI G M_X6_roll 32 [some (.ref mb), some (.int l1), some (.int l2)] [] s (fX6_roll_32b k32 l1 l2 s) := by
  unfold fX6_roll_32b
  refine rr_iload_n (q := 33) rfl dX6_roll_32 rfl ?_
  refine rr_aload_n (q := 34) rfl dX6_roll_33 rfl ?_
  refine rr_get (q := 37) rfl fl_X6_83 w_M rfl dX6_roll_34 ?_
  refine rr_icmp_ge 73 (q := 40) rfl dX6_roll_37 rfl (fun _ => ?_) (fun _ => ?_)
  · refine rr_iload_n (q := 74) rfl dX6_roll_73 rfl ?_
    exact rr_iret dX6_roll_74 rfl
  · refine rr_iload_n (q := 41) rfl dX6_roll_40 rfl ?_
    refine rr_aload_n (q := 42) rfl dX6_roll_41 rfl ?_
    refine rr_get (q := 45) rfl fl_X6_59 w_M rfl dX6_roll_42 ?_
    refine rr_iload_n (q := 46) rfl dX6_roll_45 rfl ?_
    refine rr_iald (q := 47) rfl w_marr17 dX6_roll_46 (fun n9 => ?_)
    refine rr_icmp_ge 73 (q := 50) rfl dX6_roll_47 rfl (fun _ => ?_) (fun _ => ?_)
    · refine rr_iload_n (q := 74) rfl dX6_roll_73 rfl ?_
      exact rr_iret dX6_roll_74 rfl
    · refine rr_aload_n (q := 51) rfl dX6_roll_50 rfl ?_
      refine rr_get (q := 54) rfl fl_X6_62 w_M rfl dX6_roll_51 ?_
      refine rr_bipush 40 (q := 56) rfl dX6_roll_54 rfl ?_
      refine rr_iload_n (q := 57) rfl dX6_roll_56 rfl ?_
      refine rr_imul (q := 58) rfl dX6_roll_57 ?_
      refine rr_iload_n (q := 59) rfl dX6_roll_58 rfl ?_
      refine rr_iadd (q := 60) rfl dX6_roll_59 ?_
      refine rr_aload_n (q := 61) rfl dX6_roll_60 rfl ?_
      refine rr_iload_n (q := 62) rfl dX6_roll_61 rfl ?_
      refine rr_cVi (q := 65) rfl V_X6_rolled ml_X6_365 ⟨Nat.le_of_ble_eq_true rfl, Nat.le_of_ble_eq_true rfl⟩ (e_X6_rolled l2 s) w_M rfl rfl rfl rfl (Nat.le_of_ble_eq_true rfl) dX6_roll_62 (fun v10 s11 => ?_)
      refine rr_i2l (q := 66) rfl dX6_roll_65 ?_
      refine rr_last (q := 67) rfl w_marr18 (fun _ => u_marr18) dX6_roll_66 (fun n12 s13 => ?_)
      refine rr_iinc (L2 := fun y14 => [some (.ref mb), some (.int l1), some (.int y14)]) (q := 70) rfl dX6_roll_67 rfl rfl (Nat.le_of_ble_eq_true rfl) (fun _ => rfl) (fun y14 => ?_)
      refine rr_goto 32 dX6_roll_70 rfl ?_
      exact hk32 l1 y14 s13
def fX6_roll_32 : Nat → Int32 → Int32 → SM → Option (Int32 × SM) := lp (fun _ _ _ => none) (fX6_roll_32b)
theorem e_X6_roll_32 {G : Cf} {x : SX}  (n : Nat) : ∀ (l1 : Int32) (l2 : Int32) (s : SM), R (wfM x) inI G M_X6_roll 32 [some (.ref mb), some (.int l1), some (.int l2)] [] s (fX6_roll_32 n l1 l2 s) := by
  unfold fX6_roll_32
  exact rr_lp (P := fun (kz : Int32 → Int32 → SM → Option (Int32 × SM)) => ∀ (l1 : Int32) (l2 : Int32) (s : SM), R (wfM x) inI G M_X6_roll 32 [some (.ref mb), some (.int l1), some (.int l2)] [] s (kz l1 l2 s)) (fun _ _ _ => rr_none) (fun kz hkz => fun l1 l2 s => e_X6_roll_32b hkz l1 l2 s) n
def fX6_roll (l1 : Int32) (s : SM) : Option (Int32 × SM) :=
  bd (fX6_isSheet l1 s) fun v1 s2 =>
  (if v1 = 0 then
  bd (fX6_finds (-1000000001) s2) fun v7 s8 =>
  some (v7, s8)
  else
  ixg l1 4 fun n3 =>
  (if (gM s2 16 n3) = 0 then
  bd (fX6_finds (-1000000006) s2) fun v5 s6 =>
  some (v5, s6)
  else
  vl 0 fun y4 =>
  fX6_roll_32 400 l1 y4 s2))
set_option maxRecDepth 100000 in
set_option maxHeartbeats 4000000 in
theorem e_X6_roll {G : Cf} {x : SX} (l1 : Int32) (s : SM) : Ct (wfM x) inI G M_X6_roll [.ref mb, .int l1] s (fX6_roll l1 s) := by
  refine Ct.of (L0 := [some (.ref mb), some (.int l1), none]) 1 rfl rfl ⟨rfl, rfl⟩ (Nat.le_of_ble_eq_true rfl) rfl ?_
  unfold fX6_roll
  refine rr_iload_n (q := 1) rfl dX6_roll_0 rfl ?_
  refine rr_cSi (q := 4) rfl V_X6_isSheet ml_X6_240 ⟨Nat.le_of_ble_eq_true rfl, Nat.le_of_ble_eq_true rfl⟩ (e_X6_isSheet l1 s) rfl rfl (Nat.le_of_ble_eq_true rfl) dX6_roll_1 (fun v1 s2 => ?_)
  refine rr_if_ne 14 (q := 7) rfl dX6_roll_4 rfl (fun _ => ?_) (fun _ => ?_)
  · refine rr_aload_n (q := 15) rfl dX6_roll_14 rfl ?_
    refine rr_get (q := 18) rfl fl_X6_56 w_M rfl dX6_roll_15 ?_
    refine rr_iload_n (q := 19) rfl dX6_roll_18 rfl ?_
    refine rr_iald (q := 20) rfl w_marr16 dX6_roll_19 (fun n3 => ?_)
    refine rr_if_ne 30 (q := 23) rfl dX6_roll_20 rfl (fun _ => ?_) (fun _ => ?_)
    · refine rr_iconst 0 (q := 31) rfl dX6_roll_30 rfl ?_
      refine rr_istore_n (L2 := fun y4 => [some (.ref mb), some (.int l1), some (.int y4)]) (q := 32) rfl dX6_roll_31 (Nat.le_of_ble_eq_true rfl) (fun _ => rfl) (fun y4 => ?_)
      exact e_X6_roll_32 400 l1 y4 s2
    · refine rr_aload_n (q := 24) rfl dX6_roll_23 rfl ?_
      refine rr_ldc (q := 26) rfl dX6_roll_24 kc_X6_243 ?_
      refine rr_cVi (q := 29) rfl V_X6_finds ml_X6_125 ⟨Nat.le_of_ble_eq_true rfl, Nat.le_of_ble_eq_true rfl⟩ (e_X6_finds (-1000000006) s2) w_M rfl rfl rfl rfl (Nat.le_of_ble_eq_true rfl) dX6_roll_26 (fun v5 s6 => ?_)
      exact rr_iret dX6_roll_29 rfl
  · refine rr_aload_n (q := 8) rfl dX6_roll_7 rfl ?_
    refine rr_ldc (q := 10) rfl dX6_roll_8 kc_X6_78 ?_
    refine rr_cVi (q := 13) rfl V_X6_finds ml_X6_125 ⟨Nat.le_of_ble_eq_true rfl, Nat.le_of_ble_eq_true rfl⟩ (e_X6_finds (-1000000001) s2) w_M rfl rfl rfl rfl (Nat.le_of_ble_eq_true rfl) dX6_roll_10 (fun v7 s8 => ?_)
    exact rr_iret dX6_roll_13 rfl
def fX6_read_77 (l1 : Int32) (l2 : Int32) (s : SM) : Option (Int32 × SM) :=
  ixg l1 4 fun n14 =>
  (if l2 = (gM s 17 n14) then
  (if l2 = (gM s 0 1) then
  some (0, s)
  else
  some (l2 + 1, s))
  else
  some (l2 + 1, s))
set_option maxRecDepth 100000 in
set_option maxHeartbeats 4000000 in
theorem e_X6_read_77 {G : Cf} {x : SX}  (l1 : Int32) (l2 : Int32) (s : SM) : R (wfM x) inI G M_X6_read 77 [some (.ref mb), some (.int l1), some (.int l2)] [] s (fX6_read_77 l1 l2 s) := by
  unfold fX6_read_77
  refine rr_iload_n (q := 78) rfl dX6_read_77 rfl ?_
  refine rr_aload_n (q := 79) rfl dX6_read_78 rfl ?_
  refine rr_get (q := 82) rfl fl_X6_59 w_M rfl dX6_read_79 ?_
  refine rr_iload_n (q := 83) rfl dX6_read_82 rfl ?_
  refine rr_iald (q := 84) rfl w_marr17 dX6_read_83 (fun n14 => ?_)
  refine rr_icmp_ne 99 (q := 87) rfl dX6_read_84 rfl (fun _ => ?_) (fun _ => ?_)
  · refine rr_iload_n (q := 100) rfl dX6_read_99 rfl ?_
    refine rr_iconst 1 (q := 101) rfl dX6_read_100 rfl ?_
    refine rr_iadd (q := 102) rfl dX6_read_101 ?_
    exact rr_iret dX6_read_102 rfl
  · refine rr_iload_n (q := 88) rfl dX6_read_87 rfl ?_
    refine rr_aload_n (q := 89) rfl dX6_read_88 rfl ?_
    refine rr_get (q := 92) rfl fl_X6_83 w_M rfl dX6_read_89 ?_
    refine rr_icmp_ne 99 (q := 95) rfl dX6_read_92 rfl (fun _ => ?_) (fun _ => ?_)
    · refine rr_iload_n (q := 100) rfl dX6_read_99 rfl ?_
      refine rr_iconst 1 (q := 101) rfl dX6_read_100 rfl ?_
      refine rr_iadd (q := 102) rfl dX6_read_101 ?_
      exact rr_iret dX6_read_102 rfl
    · refine rr_iconst 0 (q := 96) rfl dX6_read_95 rfl ?_
      refine rr_goto 102 dX6_read_96 rfl ?_
      exact rr_iret dX6_read_102 rfl
def fX6_read_32b (k32 : Int32 → Int32 → SM → Option (Int32 × SM)) (l1 : Int32) (l2 : Int32) (s : SM) : Option (Int32 × SM) :=
  ixg l1 4 fun n9 =>
  (if (gM s 17 n9) ≤ l2 then
  fX6_read_77 l1 l2 s
  else
  (if (gM s 0 1) ≤ l2 then
  fX6_read_77 l1 l2 s
  else
  ixg ((40 * l1) + l2) 160 fun n10 =>
  bd (fX6_rolled l2 s) fun v11 s12 =>
  (if (lg_cmp (gN s 18 n10) (Int32.toInt64 v11)) = 0 then
  vl (l2 + 1) fun y13 =>
  k32 l1 y13 s12
  else
  fX6_read_77 l1 l2 s12)))
set_option maxRecDepth 100000 in
set_option maxHeartbeats 4000000 in
theorem e_X6_read_32b {G : Cf} {x : SX} {k32 : Int32 → Int32 → SM → Option (Int32 × SM)} (hk32 : ∀ (l1 : Int32) (l2 : Int32) (s : SM), R (wfM x) inI G M_X6_read 32 [some (.ref mb), some (.int l1), some (.int l2)] [] s (k32 l1 l2 s)) (l1 : Int32) (l2 : Int32) (s : SM) : R (wfM x) inI G M_X6_read 32 [some (.ref mb), some (.int l1), some (.int l2)] [] s (fX6_read_32b k32 l1 l2 s) := by
  unfold fX6_read_32b
  refine rr_iload_n (q := 33) rfl dX6_read_32 rfl ?_
  refine rr_aload_n (q := 34) rfl dX6_read_33 rfl ?_
  refine rr_get (q := 37) rfl fl_X6_59 w_M rfl dX6_read_34 ?_
  refine rr_iload_n (q := 38) rfl dX6_read_37 rfl ?_
  refine rr_iald (q := 39) rfl w_marr17 dX6_read_38 (fun n9 => ?_)
  refine rr_icmp_ge 77 (q := 42) rfl dX6_read_39 rfl (fun _ => ?_) (fun _ => ?_)
  · exact e_X6_read_77 l1 l2 s
  · refine rr_iload_n (q := 43) rfl dX6_read_42 rfl ?_
    refine rr_aload_n (q := 44) rfl dX6_read_43 rfl ?_
    refine rr_get (q := 47) rfl fl_X6_83 w_M rfl dX6_read_44 ?_
    refine rr_icmp_ge 77 (q := 50) rfl dX6_read_47 rfl (fun _ => ?_) (fun _ => ?_)
    · exact e_X6_read_77 l1 l2 s
    · refine rr_aload_n (q := 51) rfl dX6_read_50 rfl ?_
      refine rr_get (q := 54) rfl fl_X6_62 w_M rfl dX6_read_51 ?_
      refine rr_bipush 40 (q := 56) rfl dX6_read_54 rfl ?_
      refine rr_iload_n (q := 57) rfl dX6_read_56 rfl ?_
      refine rr_imul (q := 58) rfl dX6_read_57 ?_
      refine rr_iload_n (q := 59) rfl dX6_read_58 rfl ?_
      refine rr_iadd (q := 60) rfl dX6_read_59 ?_
      refine rr_lald (q := 61) rfl w_marr18 dX6_read_60 (fun n10 => ?_)
      refine rr_aload_n (q := 62) rfl dX6_read_61 rfl ?_
      refine rr_iload_n (q := 63) rfl dX6_read_62 rfl ?_
      refine rr_cVi (q := 66) rfl V_X6_rolled ml_X6_365 ⟨Nat.le_of_ble_eq_true rfl, Nat.le_of_ble_eq_true rfl⟩ (e_X6_rolled l2 s) w_M rfl rfl rfl rfl (Nat.le_of_ble_eq_true rfl) dX6_read_63 (fun v11 s12 => ?_)
      refine rr_i2l (q := 67) rfl dX6_read_66 ?_
      refine rr_lcmp (q := 68) rfl dX6_read_67 ?_
      refine rr_if_ne 77 (q := 71) rfl dX6_read_68 rfl (fun _ => ?_) (fun _ => ?_)
      · exact e_X6_read_77 l1 l2 s12
      · refine rr_iinc (L2 := fun y13 => [some (.ref mb), some (.int l1), some (.int y13)]) (q := 74) rfl dX6_read_71 rfl rfl (Nat.le_of_ble_eq_true rfl) (fun _ => rfl) (fun y13 => ?_)
        refine rr_goto 32 dX6_read_74 rfl ?_
        exact hk32 l1 y13 s12
def fX6_read_32 : Nat → Int32 → Int32 → SM → Option (Int32 × SM) := lp (fun _ _ _ => none) (fX6_read_32b)
theorem e_X6_read_32 {G : Cf} {x : SX}  (n : Nat) : ∀ (l1 : Int32) (l2 : Int32) (s : SM), R (wfM x) inI G M_X6_read 32 [some (.ref mb), some (.int l1), some (.int l2)] [] s (fX6_read_32 n l1 l2 s) := by
  unfold fX6_read_32
  exact rr_lp (P := fun (kz : Int32 → Int32 → SM → Option (Int32 × SM)) => ∀ (l1 : Int32) (l2 : Int32) (s : SM), R (wfM x) inI G M_X6_read 32 [some (.ref mb), some (.int l1), some (.int l2)] [] s (kz l1 l2 s)) (fun _ _ _ => rr_none) (fun kz hkz => fun l1 l2 s => e_X6_read_32b hkz l1 l2 s) n
def fX6_read (l1 : Int32) (s : SM) : Option (Int32 × SM) :=
  bd (fX6_isSheet l1 s) fun v1 s2 =>
  (if v1 = 0 then
  bd (fX6_finds (-1000000001) s2) fun v7 s8 =>
  some (v7, s8)
  else
  ixg l1 4 fun n3 =>
  (if (gM s2 16 n3) = 0 then
  bd (fX6_finds (-1000000006) s2) fun v5 s6 =>
  some (v5, s6)
  else
  vl 0 fun y4 =>
  fX6_read_32 400 l1 y4 s2))
set_option maxRecDepth 100000 in
set_option maxHeartbeats 4000000 in
theorem e_X6_read {G : Cf} {x : SX} (l1 : Int32) (s : SM) : Ct (wfM x) inI G M_X6_read [.ref mb, .int l1] s (fX6_read l1 s) := by
  refine Ct.of (L0 := [some (.ref mb), some (.int l1), none]) 1 rfl rfl ⟨rfl, rfl⟩ (Nat.le_of_ble_eq_true rfl) rfl ?_
  unfold fX6_read
  refine rr_iload_n (q := 1) rfl dX6_read_0 rfl ?_
  refine rr_cSi (q := 4) rfl V_X6_isSheet ml_X6_240 ⟨Nat.le_of_ble_eq_true rfl, Nat.le_of_ble_eq_true rfl⟩ (e_X6_isSheet l1 s) rfl rfl (Nat.le_of_ble_eq_true rfl) dX6_read_1 (fun v1 s2 => ?_)
  refine rr_if_ne 14 (q := 7) rfl dX6_read_4 rfl (fun _ => ?_) (fun _ => ?_)
  · refine rr_aload_n (q := 15) rfl dX6_read_14 rfl ?_
    refine rr_get (q := 18) rfl fl_X6_56 w_M rfl dX6_read_15 ?_
    refine rr_iload_n (q := 19) rfl dX6_read_18 rfl ?_
    refine rr_iald (q := 20) rfl w_marr16 dX6_read_19 (fun n3 => ?_)
    refine rr_if_ne 30 (q := 23) rfl dX6_read_20 rfl (fun _ => ?_) (fun _ => ?_)
    · refine rr_iconst 0 (q := 31) rfl dX6_read_30 rfl ?_
      refine rr_istore_n (L2 := fun y4 => [some (.ref mb), some (.int l1), some (.int y4)]) (q := 32) rfl dX6_read_31 (Nat.le_of_ble_eq_true rfl) (fun _ => rfl) (fun y4 => ?_)
      exact e_X6_read_32 400 l1 y4 s2
    · refine rr_aload_n (q := 24) rfl dX6_read_23 rfl ?_
      refine rr_ldc (q := 26) rfl dX6_read_24 kc_X6_243 ?_
      refine rr_cVi (q := 29) rfl V_X6_finds ml_X6_125 ⟨Nat.le_of_ble_eq_true rfl, Nat.le_of_ble_eq_true rfl⟩ (e_X6_finds (-1000000006) s2) w_M rfl rfl rfl rfl (Nat.le_of_ble_eq_true rfl) dX6_read_26 (fun v5 s6 => ?_)
      exact rr_iret dX6_read_29 rfl
  · refine rr_aload_n (q := 8) rfl dX6_read_7 rfl ?_
    refine rr_ldc (q := 10) rfl dX6_read_8 kc_X6_78 ?_
    refine rr_cVi (q := 13) rfl V_X6_finds ml_X6_125 ⟨Nat.le_of_ble_eq_true rfl, Nat.le_of_ble_eq_true rfl⟩ (e_X6_finds (-1000000001) s2) w_M rfl rfl rfl rfl (Nat.le_of_ble_eq_true rfl) dX6_read_10 (fun v7 s8 => ?_)
    exact rr_iret dX6_read_13 rfl
def fX6_image (s : SM) : Option (Int32 × SM) :=
  bd (fX6_moveAll 1 20 s) fun _ s1 =>
  vl (wM s1 0 38 1) fun s2 =>
  some (1, s2)
set_option maxRecDepth 100000 in
set_option maxHeartbeats 4000000 in
theorem e_X6_image {G : Cf} {x : SX} (s : SM) : Ct (wfM x) inI G M_X6_image [.ref mb] s (fX6_image s) := by
  refine Ct.of (L0 := [some (.ref mb)]) 0 rfl rfl ⟨rfl, rfl⟩ (Nat.le_of_ble_eq_true rfl) rfl ?_
  unfold fX6_image
  refine rr_aload_n (q := 1) rfl dX6_image_0 rfl ?_
  refine rr_iconst 1 (q := 2) rfl dX6_image_1 rfl ?_
  refine rr_aload_n (q := 3) rfl dX6_image_2 rfl ?_
  refine rr_get (q := 6) rfl fl_X6_69 w_M rfl dX6_image_3 ?_
  refine rr_cVu (q := 9) rfl V_X6_moveAll ml_X6_351 ⟨Nat.le_of_ble_eq_true rfl, Nat.le_of_ble_eq_true rfl⟩ (e_X6_moveAll (by decide) 1 s) w_M rfl rfl rfl rfl (Nat.le_of_ble_eq_true rfl) dX6_image_6 (fun _ s1 => ?_)
  refine rr_aload_n (q := 10) rfl dX6_image_9 rfl ?_
  refine rr_iconst 1 (q := 11) rfl dX6_image_10 rfl ?_
  refine rr_putz (q := 14) rfl fl_X6_375 fp_X6_38 (Or.inr rfl) w_M (Nat.le_of_ble_eq_true rfl) u_M38 dX6_image_11 (fun s2 => ?_)
  refine rr_iconst 1 (q := 15) rfl dX6_image_14 rfl ?_
  exact rr_iret dX6_image_15 rfl
def fX6_undo (s : SM) : Option (Int32 × SM) :=
  (if (gM s 0 38) = 0 then
  bd (fX6_finds (-1000000004) s) fun v2 s3 =>
  some (v2, s3)
  else
  bd (fX6_moveAll 0 20 s) fun _ s1 =>
  some (gM s1 0 1, s1))
set_option maxRecDepth 100000 in
set_option maxHeartbeats 4000000 in
theorem e_X6_undo {G : Cf} {x : SX} (s : SM) : Ct (wfM x) inI G M_X6_undo [.ref mb] s (fX6_undo s) := by
  refine Ct.of (L0 := [some (.ref mb)]) 0 rfl rfl ⟨rfl, rfl⟩ (Nat.le_of_ble_eq_true rfl) rfl ?_
  unfold fX6_undo
  refine rr_aload_n (q := 1) rfl dX6_undo_0 rfl ?_
  refine rr_get (q := 4) rfl fl_X6_375 w_M rfl dX6_undo_1 ?_
  refine rr_if_ne 14 (q := 7) rfl dX6_undo_4 rfl (fun _ => ?_) (fun _ => ?_)
  · refine rr_aload_n (q := 15) rfl dX6_undo_14 rfl ?_
    refine rr_iconst 0 (q := 16) rfl dX6_undo_15 rfl ?_
    refine rr_aload_n (q := 17) rfl dX6_undo_16 rfl ?_
    refine rr_get (q := 20) rfl fl_X6_69 w_M rfl dX6_undo_17 ?_
    refine rr_cVu (q := 23) rfl V_X6_moveAll ml_X6_351 ⟨Nat.le_of_ble_eq_true rfl, Nat.le_of_ble_eq_true rfl⟩ (e_X6_moveAll (by decide) 0 s) w_M rfl rfl rfl rfl (Nat.le_of_ble_eq_true rfl) dX6_undo_20 (fun _ s1 => ?_)
    refine rr_aload_n (q := 24) rfl dX6_undo_23 rfl ?_
    refine rr_get (q := 27) rfl fl_X6_83 w_M rfl dX6_undo_24 ?_
    exact rr_iret dX6_undo_27 rfl
  · refine rr_aload_n (q := 8) rfl dX6_undo_7 rfl ?_
    refine rr_ldc (q := 10) rfl dX6_undo_8 kc_X6_170 ?_
    refine rr_cVi (q := 13) rfl V_X6_finds ml_X6_125 ⟨Nat.le_of_ble_eq_true rfl, Nat.le_of_ble_eq_true rfl⟩ (e_X6_finds (-1000000004) s) w_M rfl rfl rfl rfl (Nat.le_of_ble_eq_true rfl) dX6_undo_10 (fun v2 s3 => ?_)
    exact rr_iret dX6_undo_13 rfl
def fX6_tear (s : SM) : Option (Int32 × SM) :=
  (if (gM s 0 38) = 0 then
  vl 0 fun y1 =>
  vl (wM s 0 38 0) fun s2 =>
  some (y1, s2)
  else
  vl 1 fun y3 =>
  vl (wM s 0 38 0) fun s4 =>
  some (y3, s4))
set_option maxRecDepth 100000 in
set_option maxHeartbeats 4000000 in
theorem e_X6_tear {G : Cf} {x : SX} (s : SM) : Ct (wfM x) inI G M_X6_tear [.ref mb] s (fX6_tear s) := by
  refine Ct.of (L0 := [some (.ref mb), none]) 1 rfl rfl ⟨rfl, rfl⟩ (Nat.le_of_ble_eq_true rfl) rfl ?_
  unfold fX6_tear
  refine rr_aload_n (q := 1) rfl dX6_tear_0 rfl ?_
  refine rr_get (q := 4) rfl fl_X6_375 w_M rfl dX6_tear_1 ?_
  refine rr_if_eq 11 (q := 7) rfl dX6_tear_4 rfl (fun _ => ?_) (fun _ => ?_)
  · refine rr_iconst 0 (q := 12) rfl dX6_tear_11 rfl ?_
    refine rr_istore_n (L2 := fun y1 => [some (.ref mb), some (.int y1)]) (q := 13) rfl dX6_tear_12 (Nat.le_of_ble_eq_true rfl) (fun _ => rfl) (fun y1 => ?_)
    refine rr_aload_n (q := 14) rfl dX6_tear_13 rfl ?_
    refine rr_iconst 0 (q := 15) rfl dX6_tear_14 rfl ?_
    refine rr_putz (q := 18) rfl fl_X6_375 fp_X6_38 (Or.inl rfl) w_M (Nat.le_of_ble_eq_true rfl) u_M38 dX6_tear_15 (fun s2 => ?_)
    refine rr_iload_n (q := 19) rfl dX6_tear_18 rfl ?_
    exact rr_iret dX6_tear_19 rfl
  · refine rr_iconst 1 (q := 8) rfl dX6_tear_7 rfl ?_
    refine rr_goto 12 dX6_tear_8 rfl ?_
    refine rr_istore_n (L2 := fun y3 => [some (.ref mb), some (.int y3)]) (q := 13) rfl dX6_tear_12 (Nat.le_of_ble_eq_true rfl) (fun _ => rfl) (fun y3 => ?_)
    refine rr_aload_n (q := 14) rfl dX6_tear_13 rfl ?_
    refine rr_iconst 0 (q := 15) rfl dX6_tear_14 rfl ?_
    refine rr_putz (q := 18) rfl fl_X6_375 fp_X6_38 (Or.inl rfl) w_M (Nat.le_of_ble_eq_true rfl) u_M38 dX6_tear_15 (fun s4 => ?_)
    refine rr_iload_n (q := 19) rfl dX6_tear_18 rfl ?_
    exact rr_iret dX6_tear_19 rfl
def fX6_count_83 (k49 : Int32 → Int32 → SM → Option (Int32 × SM)) (l3 : Int32) (t0 : Int32) (t1 : Int32) (s : SM) : Option (Int32 × SM) :=
  vl (t0 + t1) fun y15 =>
  vl (l3 + 1) fun y16 =>
  k49 y15 y16 s
set_option maxRecDepth 100000 in
set_option maxHeartbeats 4000000 in
theorem e_X6_count_83 {G : Cf} {x : SX} {k49 : Int32 → Int32 → SM → Option (Int32 × SM)} (hk49 : ∀ (l2 : Int32) (l3 : Int32) (s : SM), R (wfM x) inI G M_X6_count 49 [some (.ref mb), none, some (.int l2), some (.int l3)] [] s (k49 l2 l3 s)) (l3 : Int32) (t0 : Int32) (t1 : Int32) (s : SM) : R (wfM x) inI G M_X6_count 83 [some (.ref mb), none, none, some (.int l3)] [.int t1, .int t0] s (fX6_count_83 k49 l3 t0 t1 s) := by
  unfold fX6_count_83
  refine rr_iadd (q := 84) rfl dX6_count_83 ?_
  refine rr_istore_n (L2 := fun y15 => [some (.ref mb), none, some (.int y15), some (.int l3)]) (q := 85) rfl dX6_count_84 (Nat.le_of_ble_eq_true rfl) (fun _ => rfl) (fun y15 => ?_)
  refine rr_iinc (L2 := fun y16 => [some (.ref mb), none, some (.int y15), some (.int y16)]) (q := 88) rfl dX6_count_85 rfl rfl (Nat.le_of_ble_eq_true rfl) (fun _ => rfl) (fun y16 => ?_)
  refine rr_goto 49 dX6_count_88 rfl ?_
  exact hk49 y15 y16 s
def fX6_count_82 (k49 : Int32 → Int32 → SM → Option (Int32 × SM)) (l3 : Int32) (t0 : Int32) (s : SM) : Option (Int32 × SM) :=
  fX6_count_83 k49 l3 t0 0 s
set_option maxRecDepth 100000 in
set_option maxHeartbeats 4000000 in
theorem e_X6_count_82 {G : Cf} {x : SX} {k49 : Int32 → Int32 → SM → Option (Int32 × SM)} (hk49 : ∀ (l2 : Int32) (l3 : Int32) (s : SM), R (wfM x) inI G M_X6_count 49 [some (.ref mb), none, some (.int l2), some (.int l3)] [] s (k49 l2 l3 s)) (l3 : Int32) (t0 : Int32) (s : SM) : R (wfM x) inI G M_X6_count 82 [some (.ref mb), none, none, some (.int l3)] [.int t0] s (fX6_count_82 k49 l3 t0 s) := by
  unfold fX6_count_82
  refine rr_iconst 0 (q := 83) rfl dX6_count_82 rfl ?_
  exact e_X6_count_83 hk49 l3 t0 0 s
def fX6_count_49b (k49 : Int32 → Int32 → SM → Option (Int32 × SM)) (l2 : Int32) (l3 : Int32) (s : SM) : Option (Int32 × SM) :=
  (if (gM s 0 1) ≤ l3 then
  some (l2, s)
  else
  bd (fX6_lives l3 s) fun v9 s10 =>
  (if v9 = 0 then
  fX6_count_82 k49 l3 l2 s10
  else
  bd (fX6_isHome l3 s10) fun v11 s12 =>
  (if v11 = 0 then
  bd (fX6_loss l3 s12) fun v13 s14 =>
  fX6_count_83 k49 l3 l2 v13 s14
  else
  fX6_count_82 k49 l3 l2 s12)))
set_option maxRecDepth 100000 in
set_option maxHeartbeats 4000000 in
theorem e_X6_count_49b {G : Cf} {x : SX} {k49 : Int32 → Int32 → SM → Option (Int32 × SM)} (hk49 : ∀ (l2 : Int32) (l3 : Int32) (s : SM), R (wfM x) inI G M_X6_count 49 [some (.ref mb), none, some (.int l2), some (.int l3)] [] s (k49 l2 l3 s)) (l2 : Int32) (l3 : Int32) (s : SM) : R (wfM x) inI G M_X6_count 49 [some (.ref mb), none, some (.int l2), some (.int l3)] [] s (fX6_count_49b k49 l2 l3 s) := by
  unfold fX6_count_49b
  refine rr_iload_n (q := 50) rfl dX6_count_49 rfl ?_
  refine rr_aload_n (q := 51) rfl dX6_count_50 rfl ?_
  refine rr_get (q := 54) rfl fl_X6_83 w_M rfl dX6_count_51 ?_
  refine rr_icmp_ge 91 (q := 57) rfl dX6_count_54 rfl (fun _ => ?_) (fun _ => ?_)
  · refine rr_iload_n (q := 92) rfl dX6_count_91 rfl ?_
    exact rr_iret dX6_count_92 rfl
  · refine rr_iload_n (q := 58) rfl dX6_count_57 rfl ?_
    refine rr_aload_n (q := 59) rfl dX6_count_58 rfl ?_
    refine rr_iload_n (q := 60) rfl dX6_count_59 rfl ?_
    refine rr_cVi (q := 63) rfl V_X6_lives ml_X6_97 ⟨Nat.le_of_ble_eq_true rfl, Nat.le_of_ble_eq_true rfl⟩ (e_X6_lives l3 s) w_M rfl rfl rfl rfl (Nat.le_of_ble_eq_true rfl) dX6_count_60 (fun v9 s10 => ?_)
    refine rr_if_eq 82 (q := 66) rfl dX6_count_63 rfl (fun _ => ?_) (fun _ => ?_)
    · refine rr_mask [true, false, false, true] (L' := [some (.ref mb), none, none, some (.int l3)]) rfl ?_
      exact e_X6_count_82 hk49 l3 l2 s10
    · refine rr_aload_n (q := 67) rfl dX6_count_66 rfl ?_
      refine rr_iload_n (q := 68) rfl dX6_count_67 rfl ?_
      refine rr_cVi (q := 71) rfl V_X6_isHome ml_X6_101 ⟨Nat.le_of_ble_eq_true rfl, Nat.le_of_ble_eq_true rfl⟩ (e_X6_isHome l3 s10) w_M rfl rfl rfl rfl (Nat.le_of_ble_eq_true rfl) dX6_count_68 (fun v11 s12 => ?_)
      refine rr_if_ne 82 (q := 74) rfl dX6_count_71 rfl (fun _ => ?_) (fun _ => ?_)
      · refine rr_mask [true, false, false, true] (L' := [some (.ref mb), none, none, some (.int l3)]) rfl ?_
        exact e_X6_count_82 hk49 l3 l2 s12
      · refine rr_aload_n (q := 75) rfl dX6_count_74 rfl ?_
        refine rr_iload_n (q := 76) rfl dX6_count_75 rfl ?_
        refine rr_cVi (q := 79) rfl V_X6_loss ml_X6_107 ⟨Nat.le_of_ble_eq_true rfl, Nat.le_of_ble_eq_true rfl⟩ (e_X6_loss l3 s12) w_M rfl rfl rfl rfl (Nat.le_of_ble_eq_true rfl) dX6_count_76 (fun v13 s14 => ?_)
        refine rr_goto 83 dX6_count_79 rfl ?_
        refine rr_mask [true, false, false, true] (L' := [some (.ref mb), none, none, some (.int l3)]) rfl ?_
        exact e_X6_count_83 hk49 l3 l2 v13 s14
def fX6_count_49 : Nat → Int32 → Int32 → SM → Option (Int32 × SM) := lp (fun _ _ _ => none) (fX6_count_49b)
theorem e_X6_count_49 {G : Cf} {x : SX}  (n : Nat) : ∀ (l2 : Int32) (l3 : Int32) (s : SM), R (wfM x) inI G M_X6_count 49 [some (.ref mb), none, some (.int l2), some (.int l3)] [] s (fX6_count_49 n l2 l3 s) := by
  unfold fX6_count_49
  exact rr_lp (P := fun (kz : Int32 → Int32 → SM → Option (Int32 × SM)) => ∀ (l2 : Int32) (l3 : Int32) (s : SM), R (wfM x) inI G M_X6_count 49 [some (.ref mb), none, some (.int l2), some (.int l3)] [] s (kz l2 l3 s)) (fun _ _ _ => rr_none) (fun kz hkz => fun l2 l3 s => e_X6_count_49b hkz l2 l3 s) n
def fX6_count (l1 : Int32) (s : SM) : Option (Int32 × SM) :=
  vl 0 fun y1 =>
  (if l1 = 0 then
  some (gM s 0 1, s)
  else
  (if l1 = 1 then
  some (gM s 0 5, s)
  else
  (if l1 = 2 then
  some (gM s 0 25, s)
  else
  (if l1 = 3 then
  vl 0 fun y5 =>
  fX6_count_49 400 y1 y5 s
  else
  bd (fX6_finds (-1000000001) s) fun v7 s8 =>
  some (v7, s8)))))
set_option maxRecDepth 100000 in
set_option maxHeartbeats 4000000 in
theorem e_X6_count {G : Cf} {x : SX} (l1 : Int32) (s : SM) : Ct (wfM x) inI G M_X6_count [.ref mb, .int l1] s (fX6_count l1 s) := by
  refine Ct.of (L0 := [some (.ref mb), some (.int l1), none, none]) 2 rfl rfl ⟨rfl, rfl⟩ (Nat.le_of_ble_eq_true rfl) rfl ?_
  unfold fX6_count
  refine rr_iconst 0 (q := 1) rfl dX6_count_0 rfl ?_
  refine rr_istore_n (L2 := fun y1 => [some (.ref mb), some (.int l1), some (.int y1), none]) (q := 2) rfl dX6_count_1 (Nat.le_of_ble_eq_true rfl) (fun _ => rfl) (fun y1 => ?_)
  refine rr_iload_n (q := 3) rfl dX6_count_2 rfl ?_
  refine rr_case 0 ?_ (fun hs2 => ?_)
  · refine rr_tableIn 32 dX6_count_3 (by decide) (by decide) rfl rfl ?_
    refine rr_aload_n (q := 33) rfl dX6_count_32 rfl ?_
    refine rr_get (q := 36) rfl fl_X6_83 w_M rfl dX6_count_33 ?_
    exact rr_iret dX6_count_36 rfl
  · refine rr_case 1 ?_ (fun hs3 => ?_)
    · refine rr_tableIn 37 dX6_count_3 (by decide) (by decide) rfl rfl ?_
      refine rr_aload_n (q := 38) rfl dX6_count_37 rfl ?_
      refine rr_get (q := 41) rfl fl_X6_87 w_M rfl dX6_count_38 ?_
      exact rr_iret dX6_count_41 rfl
    · refine rr_case 2 ?_ (fun hs4 => ?_)
      · refine rr_tableIn 42 dX6_count_3 (by decide) (by decide) rfl rfl ?_
        refine rr_aload_n (q := 43) rfl dX6_count_42 rfl ?_
        refine rr_get (q := 46) rfl fl_X6_253 w_M rfl dX6_count_43 ?_
        exact rr_iret dX6_count_46 rfl
      · refine rr_case 3 ?_ (fun hs6 => ?_)
        · refine rr_tableIn 47 dX6_count_3 (by decide) (by decide) rfl rfl ?_
          refine rr_iconst 0 (q := 48) rfl dX6_count_47 rfl ?_
          refine rr_istore_n (L2 := fun y5 => [some (.ref mb), some (.int l1), some (.int y1), some (.int y5)]) (q := 49) rfl dX6_count_48 (Nat.le_of_ble_eq_true rfl) (fun _ => rfl) (fun y5 => ?_)
          refine rr_mask [true, false, true, true] (L' := [some (.ref mb), none, some (.int y1), some (.int y5)]) rfl ?_
          exact e_X6_count_49 400 y1 y5 s
        · refine rr_tableOut 93 dX6_count_3 (by have ahs2 := ne_lit (n := 0) hs2 rfl; have ahs3 := ne_lit (n := 1) hs3 rfl; have ahs4 := ne_lit (n := 2) hs4 rfl; have ahs6 := ne_lit (n := 3) hs6 rfl; omega) rfl ?_
          refine rr_aload_n (q := 94) rfl dX6_count_93 rfl ?_
          refine rr_ldc (q := 96) rfl dX6_count_94 kc_X6_78 ?_
          refine rr_cVi (q := 99) rfl V_X6_finds ml_X6_125 ⟨Nat.le_of_ble_eq_true rfl, Nat.le_of_ble_eq_true rfl⟩ (e_X6_finds (-1000000001) s) w_M rfl rfl rfl rfl (Nat.le_of_ble_eq_true rfl) dX6_count_96 (fun v7 s8 => ?_)
          exact rr_iret dX6_count_99 rfl
def fX6_status_21b (k21 : Int32 → Int32 → Int32 → SM → Option (Int32 × SM)) (l1 : Int32) (l2 : Int32) (l3 : Int32) (s : SM) : Option (Int32 × SM) :=
  (if 7 ≤ l3 then
  (if 0 ≤ l1 then
  (if 0 ≤ l1 then
  ixg l1 7 fun n7 =>
  some (gM s 10 n7, s)
  else
  ixg 0 7 fun n8 =>
  some (gM s 10 n8, s))
  else
  some (l2, s))
  else
  ixg l3 7 fun n9 =>
  vl (l2 + (gM s 10 n9)) fun y10 =>
  vl (l3 + 1) fun y11 =>
  k21 l1 y10 y11 s)
set_option maxRecDepth 100000 in
set_option maxHeartbeats 4000000 in
theorem e_X6_status_21b {G : Cf} {x : SX} {k21 : Int32 → Int32 → Int32 → SM → Option (Int32 × SM)} (hk21 : ∀ (l1 : Int32) (l2 : Int32) (l3 : Int32) (s : SM), R (wfM x) inI G M_X6_status 21 [some (.ref mb), some (.int l1), some (.int l2), some (.int l3)] [] s (k21 l1 l2 l3 s)) (l1 : Int32) (l2 : Int32) (l3 : Int32) (s : SM) : R (wfM x) inI G M_X6_status 21 [some (.ref mb), some (.int l1), some (.int l2), some (.int l3)] [] s (fX6_status_21b k21 l1 l2 l3 s) := by
  unfold fX6_status_21b
  refine rr_iload_n (q := 22) rfl dX6_status_21 rfl ?_
  refine rr_bipush 7 (q := 24) rfl dX6_status_22 rfl ?_
  refine rr_icmp_ge 42 (q := 27) rfl dX6_status_24 rfl (fun _ => ?_) (fun _ => ?_)
  · refine rr_iload_n (q := 43) rfl dX6_status_42 rfl ?_
    refine rr_if_ge 50 (q := 46) rfl dX6_status_43 rfl (fun _ => ?_) (fun _ => ?_)
    · refine rr_aload_n (q := 51) rfl dX6_status_50 rfl ?_
      refine rr_get (q := 54) rfl fl_X6_37 w_M rfl dX6_status_51 ?_
      refine rr_iload_n (q := 55) rfl dX6_status_54 rfl ?_
      refine rr_if_ge 62 (q := 58) rfl dX6_status_55 rfl (fun _ => ?_) (fun _ => ?_)
      · refine rr_iload_n (q := 63) rfl dX6_status_62 rfl ?_
        refine rr_iald (q := 64) rfl w_marr10 dX6_status_63 (fun n7 => ?_)
        exact rr_iret dX6_status_64 rfl
      · refine rr_iconst 0 (q := 59) rfl dX6_status_58 rfl ?_
        refine rr_goto 63 dX6_status_59 rfl ?_
        refine rr_iald (q := 64) rfl w_marr10 dX6_status_63 (fun n8 => ?_)
        exact rr_iret dX6_status_64 rfl
    · refine rr_iload_n (q := 47) rfl dX6_status_46 rfl ?_
      refine rr_goto 64 dX6_status_47 rfl ?_
      exact rr_iret dX6_status_64 rfl
  · refine rr_iload_n (q := 28) rfl dX6_status_27 rfl ?_
    refine rr_aload_n (q := 29) rfl dX6_status_28 rfl ?_
    refine rr_get (q := 32) rfl fl_X6_37 w_M rfl dX6_status_29 ?_
    refine rr_iload_n (q := 33) rfl dX6_status_32 rfl ?_
    refine rr_iald (q := 34) rfl w_marr10 dX6_status_33 (fun n9 => ?_)
    refine rr_iadd (q := 35) rfl dX6_status_34 ?_
    refine rr_istore_n (L2 := fun y10 => [some (.ref mb), some (.int l1), some (.int y10), some (.int l3)]) (q := 36) rfl dX6_status_35 (Nat.le_of_ble_eq_true rfl) (fun _ => rfl) (fun y10 => ?_)
    refine rr_iinc (L2 := fun y11 => [some (.ref mb), some (.int l1), some (.int y10), some (.int y11)]) (q := 39) rfl dX6_status_36 rfl rfl (Nat.le_of_ble_eq_true rfl) (fun _ => rfl) (fun y11 => ?_)
    refine rr_goto 21 dX6_status_39 rfl ?_
    exact hk21 l1 y10 y11 s
def fX6_status_21 : Nat → Int32 → Int32 → Int32 → SM → Option (Int32 × SM) := lp (fun _ _ _ _ => none) (fX6_status_21b)
theorem e_X6_status_21 {G : Cf} {x : SX}  (n : Nat) : ∀ (l1 : Int32) (l2 : Int32) (l3 : Int32) (s : SM), R (wfM x) inI G M_X6_status 21 [some (.ref mb), some (.int l1), some (.int l2), some (.int l3)] [] s (fX6_status_21 n l1 l2 l3 s) := by
  unfold fX6_status_21
  exact rr_lp (P := fun (kz : Int32 → Int32 → Int32 → SM → Option (Int32 × SM)) => ∀ (l1 : Int32) (l2 : Int32) (l3 : Int32) (s : SM), R (wfM x) inI G M_X6_status 21 [some (.ref mb), some (.int l1), some (.int l2), some (.int l3)] [] s (kz l1 l2 l3 s)) (fun _ _ _ _ => rr_none) (fun kz hkz => fun l1 l2 l3 s => e_X6_status_21b hkz l1 l2 l3 s) n
def fX6_status (l1 : Int32) (s : SM) : Option (Int32 × SM) :=
  bd (fX6_in l1 (-1) 6 s) fun v1 s2 =>
  (if v1 = 0 then
  bd (fX6_finds (-1000000001) s2) fun v5 s6 =>
  some (v5, s6)
  else
  vl 0 fun y3 =>
  vl 0 fun y4 =>
  fX6_status_21 400 l1 y3 y4 s2)
set_option maxRecDepth 100000 in
set_option maxHeartbeats 4000000 in
theorem e_X6_status {G : Cf} {x : SX} (l1 : Int32) (s : SM) : Ct (wfM x) inI G M_X6_status [.ref mb, .int l1] s (fX6_status l1 s) := by
  refine Ct.of (L0 := [some (.ref mb), some (.int l1), none, none]) 2 rfl rfl ⟨rfl, rfl⟩ (Nat.le_of_ble_eq_true rfl) rfl ?_
  unfold fX6_status
  refine rr_iload_n (q := 1) rfl dX6_status_0 rfl ?_
  refine rr_iconst (-1) (q := 2) rfl dX6_status_1 rfl ?_
  refine rr_bipush 6 (q := 4) rfl dX6_status_2 rfl ?_
  refine rr_cSi (q := 7) rfl V_X6_in ml_X6_79 ⟨Nat.le_of_ble_eq_true rfl, Nat.le_of_ble_eq_true rfl⟩ (e_X6_in l1 (-1) 6 s) rfl rfl (Nat.le_of_ble_eq_true rfl) dX6_status_4 (fun v1 s2 => ?_)
  refine rr_if_ne 17 (q := 10) rfl dX6_status_7 rfl (fun _ => ?_) (fun _ => ?_)
  · refine rr_iconst 0 (q := 18) rfl dX6_status_17 rfl ?_
    refine rr_istore_n (L2 := fun y3 => [some (.ref mb), some (.int l1), some (.int y3), none]) (q := 19) rfl dX6_status_18 (Nat.le_of_ble_eq_true rfl) (fun _ => rfl) (fun y3 => ?_)
    refine rr_iconst 0 (q := 20) rfl dX6_status_19 rfl ?_
    refine rr_istore_n (L2 := fun y4 => [some (.ref mb), some (.int l1), some (.int y3), some (.int y4)]) (q := 21) rfl dX6_status_20 (Nat.le_of_ble_eq_true rfl) (fun _ => rfl) (fun y4 => ?_)
    exact e_X6_status_21 400 l1 y3 y4 s2
  · refine rr_aload_n (q := 11) rfl dX6_status_10 rfl ?_
    refine rr_ldc (q := 13) rfl dX6_status_11 kc_X6_78 ?_
    refine rr_cVi (q := 16) rfl V_X6_finds ml_X6_125 ⟨Nat.le_of_ble_eq_true rfl, Nat.le_of_ble_eq_true rfl⟩ (e_X6_finds (-1000000001) s2) w_M rfl rfl rfl rfl (Nat.le_of_ble_eq_true rfl) dX6_status_13 (fun v5 s6 => ?_)
    exact rr_iret dX6_status_16 rfl
