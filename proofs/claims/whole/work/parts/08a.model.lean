def fX6_in (l0 : Int32) (l1 : Int32) (l2 : Int32) (s : SM) : Option (Int32 × SM) :=
  (if l0 < l1 then
  some (0, s)
  else
  (if l2 < l0 then
  some (0, s)
  else
  some (1, s)))
set_option maxRecDepth 100000 in
set_option maxHeartbeats 4000000 in
theorem e_X6_in {G : Cf} {x : SX} (l0 : Int32) (l1 : Int32) (l2 : Int32) (s : SM) : Ct (wfM x) inI G M_X6_in [.int l0, .int l1, .int l2] s (fX6_in l0 l1 l2 s) := by
  refine Ct.of (L0 := [some (.int l0), some (.int l1), some (.int l2)]) 0 rfl rfl ⟨rfl, rfl⟩ (Nat.le_of_ble_eq_true rfl) rfl ?_
  unfold fX6_in
  refine rr_iload_n (q := 1) rfl dX6_in_0 rfl ?_
  refine rr_iload_n (q := 2) rfl dX6_in_1 rfl ?_
  refine rr_icmp_lt 14 (q := 5) rfl dX6_in_2 rfl (fun _ => ?_) (fun _ => ?_)
  · refine rr_iconst 0 (q := 15) rfl dX6_in_14 rfl ?_
    exact rr_zret dX6_in_15 rfl (Or.inl rfl)
  · refine rr_iload_n (q := 6) rfl dX6_in_5 rfl ?_
    refine rr_iload_n (q := 7) rfl dX6_in_6 rfl ?_
    refine rr_icmp_gt 14 (q := 10) rfl dX6_in_7 rfl (fun _ => ?_) (fun _ => ?_)
    · refine rr_iconst 0 (q := 15) rfl dX6_in_14 rfl ?_
      exact rr_zret dX6_in_15 rfl (Or.inl rfl)
    · refine rr_iconst 1 (q := 11) rfl dX6_in_10 rfl ?_
      refine rr_goto 15 dX6_in_11 rfl ?_
      exact rr_zret dX6_in_15 rfl (Or.inr rfl)
def fX6_finds (l1 : Int32) (s : SM) : Option (Int32 × SM) :=
  ixg ((-1000000001) - l1) 7 fun n1 =>
  ixg ((-1000000001) - l1) 7 fun n2 => vl (wM s 10 n2 ((gM s 10 n1) + 1)) fun s3 =>
  some (l1, s3)
set_option maxRecDepth 100000 in
set_option maxHeartbeats 4000000 in
theorem e_X6_finds {G : Cf} {x : SX} (l1 : Int32) (s : SM) : Ct (wfM x) inI G M_X6_finds [.ref mb, .int l1] s (fX6_finds l1 s) := by
  refine Ct.of (L0 := [some (.ref mb), some (.int l1)]) 0 rfl rfl ⟨rfl, rfl⟩ (Nat.le_of_ble_eq_true rfl) rfl ?_
  unfold fX6_finds
  refine rr_aload_n (q := 1) rfl dX6_finds_0 rfl ?_
  refine rr_get (q := 4) rfl fl_X6_37 w_M rfl dX6_finds_1 ?_
  refine rr_ldc (q := 6) rfl dX6_finds_4 kc_X6_78 ?_
  refine rr_iload_n (q := 7) rfl dX6_finds_6 rfl ?_
  refine rr_isub (q := 8) rfl dX6_finds_7 ?_
  refine rr_dup2 (q := 9) rfl dX6_finds_8 rfl rfl ?_
  refine rr_iald (q := 10) rfl w_marr10 dX6_finds_9 (fun n1 => ?_)
  refine rr_iconst 1 (q := 11) rfl dX6_finds_10 rfl ?_
  refine rr_iadd (q := 12) rfl dX6_finds_11 ?_
  refine rr_iast (q := 13) rfl w_marr10 (fun _ => u_marr10) dX6_finds_12 (fun n2 s3 => ?_)
  refine rr_iload_n (q := 14) rfl dX6_finds_13 rfl ?_
  exact rr_iret dX6_finds_14 rfl
def fX6_isKing (l0 : Int32) (s : SM) : Option (Int32 × SM) :=
  bd (fX6_in l0 0 5 s) fun v1 s2 =>
  gd (v1 = 0 ∨ v1 = 1) (some (v1, s2))
set_option maxRecDepth 100000 in
set_option maxHeartbeats 4000000 in
theorem e_X6_isKing {G : Cf} {x : SX} (l0 : Int32) (s : SM) : Ct (wfM x) inI G M_X6_isKing [.int l0] s (fX6_isKing l0 s) := by
  refine Ct.of (L0 := [some (.int l0)]) 0 rfl rfl ⟨rfl, rfl⟩ (Nat.le_of_ble_eq_true rfl) rfl ?_
  unfold fX6_isKing
  refine rr_iload_n (q := 1) rfl dX6_isKing_0 rfl ?_
  refine rr_iconst 0 (q := 2) rfl dX6_isKing_1 rfl ?_
  refine rr_iconst 5 (q := 3) rfl dX6_isKing_2 rfl ?_
  refine rr_cSi (q := 6) rfl V_X6_in ml_X6_79 ⟨Nat.le_of_ble_eq_true rfl, Nat.le_of_ble_eq_true rfl⟩ (e_X6_in l0 0 5 s) rfl rfl (Nat.le_of_ble_eq_true rfl) dX6_isKing_3 (fun v1 s2 => ?_)
  exact rr_gd (fun hb => rr_zret dX6_isKing_6 rfl hb)
def fX6_isChild (l1 : Int32) (s : SM) : Option (Int32 × SM) :=
  bd (fX6_in l1 0 ((gM s 0 1) - 1) s) fun v1 s2 =>
  gd (v1 = 0 ∨ v1 = 1) (some (v1, s2))
set_option maxRecDepth 100000 in
set_option maxHeartbeats 4000000 in
theorem e_X6_isChild {G : Cf} {x : SX} (l1 : Int32) (s : SM) : Ct (wfM x) inI G M_X6_isChild [.ref mb, .int l1] s (fX6_isChild l1 s) := by
  refine Ct.of (L0 := [some (.ref mb), some (.int l1)]) 0 rfl rfl ⟨rfl, rfl⟩ (Nat.le_of_ble_eq_true rfl) rfl ?_
  unfold fX6_isChild
  refine rr_iload_n (q := 1) rfl dX6_isChild_0 rfl ?_
  refine rr_iconst 0 (q := 2) rfl dX6_isChild_1 rfl ?_
  refine rr_aload_n (q := 3) rfl dX6_isChild_2 rfl ?_
  refine rr_get (q := 6) rfl fl_X6_83 w_M rfl dX6_isChild_3 ?_
  refine rr_iconst 1 (q := 7) rfl dX6_isChild_6 rfl ?_
  refine rr_isub (q := 8) rfl dX6_isChild_7 ?_
  refine rr_cSi (q := 11) rfl V_X6_in ml_X6_79 ⟨Nat.le_of_ble_eq_true rfl, Nat.le_of_ble_eq_true rfl⟩ (e_X6_in l1 0 ((gM s 0 1) - 1) s) rfl rfl (Nat.le_of_ble_eq_true rfl) dX6_isChild_8 (fun v1 s2 => ?_)
  exact rr_gd (fun hb => rr_zret dX6_isChild_11 rfl hb)
def fX6_isKind (l0 : Int32) (s : SM) : Option (Int32 × SM) :=
  bd (fX6_in l0 0 5 s) fun v1 s2 =>
  gd (v1 = 0 ∨ v1 = 1) (some (v1, s2))
set_option maxRecDepth 100000 in
set_option maxHeartbeats 4000000 in
theorem e_X6_isKind {G : Cf} {x : SX} (l0 : Int32) (s : SM) : Ct (wfM x) inI G M_X6_isKind [.int l0] s (fX6_isKind l0 s) := by
  refine Ct.of (L0 := [some (.int l0)]) 0 rfl rfl ⟨rfl, rfl⟩ (Nat.le_of_ble_eq_true rfl) rfl ?_
  unfold fX6_isKind
  refine rr_iload_n (q := 1) rfl dX6_isKind_0 rfl ?_
  refine rr_iconst 0 (q := 2) rfl dX6_isKind_1 rfl ?_
  refine rr_iconst 5 (q := 3) rfl dX6_isKind_2 rfl ?_
  refine rr_cSi (q := 6) rfl V_X6_in ml_X6_79 ⟨Nat.le_of_ble_eq_true rfl, Nat.le_of_ble_eq_true rfl⟩ (e_X6_in l0 0 5 s) rfl rfl (Nat.le_of_ble_eq_true rfl) dX6_isKind_3 (fun v1 s2 => ?_)
  exact rr_gd (fun hb => rr_zret dX6_isKind_6 rfl hb)
def fX6_isTold (l0 : Int32) (s : SM) : Option (Int32 × SM) :=
  bd (fX6_in l0 0 99 s) fun v1 s2 =>
  gd (v1 = 0 ∨ v1 = 1) (some (v1, s2))
set_option maxRecDepth 100000 in
set_option maxHeartbeats 4000000 in
theorem e_X6_isTold {G : Cf} {x : SX} (l0 : Int32) (s : SM) : Ct (wfM x) inI G M_X6_isTold [.int l0] s (fX6_isTold l0 s) := by
  refine Ct.of (L0 := [some (.int l0)]) 0 rfl rfl ⟨rfl, rfl⟩ (Nat.le_of_ble_eq_true rfl) rfl ?_
  unfold fX6_isTold
  refine rr_iload_n (q := 1) rfl dX6_isTold_0 rfl ?_
  refine rr_iconst 0 (q := 2) rfl dX6_isTold_1 rfl ?_
  refine rr_bipush 99 (q := 4) rfl dX6_isTold_2 rfl ?_
  refine rr_cSi (q := 7) rfl V_X6_in ml_X6_79 ⟨Nat.le_of_ble_eq_true rfl, Nat.le_of_ble_eq_true rfl⟩ (e_X6_in l0 0 99 s) rfl rfl (Nat.le_of_ble_eq_true rfl) dX6_isTold_4 (fun v1 s2 => ?_)
  exact rr_gd (fun hb => rr_zret dX6_isTold_7 rfl hb)
def fX6_isLong (l0 : Int32) (s : SM) : Option (Int32 × SM) :=
  bd (fX6_in l0 0 999 s) fun v1 s2 =>
  gd (v1 = 0 ∨ v1 = 1) (some (v1, s2))
set_option maxRecDepth 100000 in
set_option maxHeartbeats 4000000 in
theorem e_X6_isLong {G : Cf} {x : SX} (l0 : Int32) (s : SM) : Ct (wfM x) inI G M_X6_isLong [.int l0] s (fX6_isLong l0 s) := by
  refine Ct.of (L0 := [some (.int l0)]) 0 rfl rfl ⟨rfl, rfl⟩ (Nat.le_of_ble_eq_true rfl) rfl ?_
  unfold fX6_isLong
  refine rr_iload_n (q := 1) rfl dX6_isLong_0 rfl ?_
  refine rr_iconst 0 (q := 2) rfl dX6_isLong_1 rfl ?_
  refine rr_sipush 999 (q := 5) rfl dX6_isLong_2 rfl ?_
  refine rr_cSi (q := 8) rfl V_X6_in ml_X6_79 ⟨Nat.le_of_ble_eq_true rfl, Nat.le_of_ble_eq_true rfl⟩ (e_X6_in l0 0 999 s) rfl rfl (Nat.le_of_ble_eq_true rfl) dX6_isLong_5 (fun v1 s2 => ?_)
  exact rr_gd (fun hb => rr_zret dX6_isLong_8 rfl hb)
def fX6_isTreaty (l1 : Int32) (s : SM) : Option (Int32 × SM) :=
  bd (fX6_in l1 0 ((gM s 0 5) - 1) s) fun v1 s2 =>
  gd (v1 = 0 ∨ v1 = 1) (some (v1, s2))
set_option maxRecDepth 100000 in
set_option maxHeartbeats 4000000 in
theorem e_X6_isTreaty {G : Cf} {x : SX} (l1 : Int32) (s : SM) : Ct (wfM x) inI G M_X6_isTreaty [.ref mb, .int l1] s (fX6_isTreaty l1 s) := by
  refine Ct.of (L0 := [some (.ref mb), some (.int l1)]) 0 rfl rfl ⟨rfl, rfl⟩ (Nat.le_of_ble_eq_true rfl) rfl ?_
  unfold fX6_isTreaty
  refine rr_iload_n (q := 1) rfl dX6_isTreaty_0 rfl ?_
  refine rr_iconst 0 (q := 2) rfl dX6_isTreaty_1 rfl ?_
  refine rr_aload_n (q := 3) rfl dX6_isTreaty_2 rfl ?_
  refine rr_get (q := 6) rfl fl_X6_87 w_M rfl dX6_isTreaty_3 ?_
  refine rr_iconst 1 (q := 7) rfl dX6_isTreaty_6 rfl ?_
  refine rr_isub (q := 8) rfl dX6_isTreaty_7 ?_
  refine rr_cSi (q := 11) rfl V_X6_in ml_X6_79 ⟨Nat.le_of_ble_eq_true rfl, Nat.le_of_ble_eq_true rfl⟩ (e_X6_in l1 0 ((gM s 0 5) - 1) s) rfl rfl (Nat.le_of_ble_eq_true rfl) dX6_isTreaty_8 (fun v1 s2 => ?_)
  exact rr_gd (fun hb => rr_zret dX6_isTreaty_11 rfl hb)
def fX6_has (l0 : Int32) (l1 : Int32) (s : SM) : Option (Int32 × SM) :=
  (if ((l0 >>> (l1 &&& 31)) &&& 1) = 1 then
  some (1, s)
  else
  some (0, s))
set_option maxRecDepth 100000 in
set_option maxHeartbeats 4000000 in
theorem e_X6_has {G : Cf} {x : SX} (l0 : Int32) (l1 : Int32) (s : SM) : Ct (wfM x) inI G M_X6_has [.int l0, .int l1] s (fX6_has l0 l1 s) := by
  refine Ct.of (L0 := [some (.int l0), some (.int l1)]) 0 rfl rfl ⟨rfl, rfl⟩ (Nat.le_of_ble_eq_true rfl) rfl ?_
  unfold fX6_has
  refine rr_iload_n (q := 1) rfl dX6_has_0 rfl ?_
  refine rr_iload_n (q := 2) rfl dX6_has_1 rfl ?_
  refine rr_ishr (q := 3) rfl dX6_has_2 ?_
  refine rr_iconst 1 (q := 4) rfl dX6_has_3 rfl ?_
  refine rr_iand (q := 5) rfl dX6_has_4 ?_
  refine rr_iconst 1 (q := 6) rfl dX6_has_5 rfl ?_
  refine rr_icmp_ne 13 (q := 9) rfl dX6_has_6 rfl (fun _ => ?_) (fun _ => ?_)
  · refine rr_iconst 0 (q := 14) rfl dX6_has_13 rfl ?_
    exact rr_zret dX6_has_14 rfl (Or.inl rfl)
  · refine rr_iconst 1 (q := 10) rfl dX6_has_9 rfl ?_
    refine rr_goto 14 dX6_has_10 rfl ?_
    exact rr_zret dX6_has_14 rfl (Or.inr rfl)
def fX6_ones_4b (k4 : Int32 → Int32 → SM → Option (Int32 × SM)) (l1 : Int32) (l2 : Int32) (s : SM) : Option (Int32 × SM) :=
  (if l2 = 0 then
  some (l1, s)
  else
  vl (l1 + 1) fun y3 =>
  vl (l2 &&& (l2 - 1)) fun y4 =>
  k4 y3 y4 s)
set_option maxRecDepth 100000 in
set_option maxHeartbeats 4000000 in
theorem e_X6_ones_4b {G : Cf} {x : SX} {k4 : Int32 → Int32 → SM → Option (Int32 × SM)} (hk4 : ∀ (l1 : Int32) (l2 : Int32) (s : SM), R (wfM x) inI G M_X6_ones 4 [none, some (.int l1), some (.int l2)] [] s (k4 l1 l2 s)) (l1 : Int32) (l2 : Int32) (s : SM) : R (wfM x) inI G M_X6_ones 4 [none, some (.int l1), some (.int l2)] [] s (fX6_ones_4b k4 l1 l2 s) := by
  unfold fX6_ones_4b
  refine rr_iload_n (q := 5) rfl dX6_ones_4 rfl ?_
  refine rr_if_eq 20 (q := 8) rfl dX6_ones_5 rfl (fun _ => ?_) (fun _ => ?_)
  · refine rr_iload_n (q := 21) rfl dX6_ones_20 rfl ?_
    exact rr_iret dX6_ones_21 rfl
  · refine rr_iinc (L2 := fun y3 => [none, some (.int y3), some (.int l2)]) (q := 11) rfl dX6_ones_8 rfl rfl (Nat.le_of_ble_eq_true rfl) (fun _ => rfl) (fun y3 => ?_)
    refine rr_iload_n (q := 12) rfl dX6_ones_11 rfl ?_
    refine rr_iload_n (q := 13) rfl dX6_ones_12 rfl ?_
    refine rr_iconst 1 (q := 14) rfl dX6_ones_13 rfl ?_
    refine rr_isub (q := 15) rfl dX6_ones_14 ?_
    refine rr_iand (q := 16) rfl dX6_ones_15 ?_
    refine rr_istore_n (L2 := fun y4 => [none, some (.int y3), some (.int y4)]) (q := 17) rfl dX6_ones_16 (Nat.le_of_ble_eq_true rfl) (fun _ => rfl) (fun y4 => ?_)
    refine rr_goto 4 dX6_ones_17 rfl ?_
    exact hk4 y3 y4 s
def fX6_ones_4 : Nat → Int32 → Int32 → SM → Option (Int32 × SM) := lp (fun _ _ _ => none) (fX6_ones_4b)
theorem e_X6_ones_4 {G : Cf} {x : SX}  (n : Nat) : ∀ (l1 : Int32) (l2 : Int32) (s : SM), R (wfM x) inI G M_X6_ones 4 [none, some (.int l1), some (.int l2)] [] s (fX6_ones_4 n l1 l2 s) := by
  unfold fX6_ones_4
  exact rr_lp (P := fun (kz : Int32 → Int32 → SM → Option (Int32 × SM)) => ∀ (l1 : Int32) (l2 : Int32) (s : SM), R (wfM x) inI G M_X6_ones 4 [none, some (.int l1), some (.int l2)] [] s (kz l1 l2 s)) (fun _ _ _ => rr_none) (fun kz hkz => fun l1 l2 s => e_X6_ones_4b hkz l1 l2 s) n
def fX6_ones (l0 : Int32) (s : SM) : Option (Int32 × SM) :=
  vl 0 fun y1 =>
  vl l0 fun y2 =>
  fX6_ones_4 400 y1 y2 s
set_option maxRecDepth 100000 in
set_option maxHeartbeats 4000000 in
theorem e_X6_ones {G : Cf} {x : SX} (l0 : Int32) (s : SM) : Ct (wfM x) inI G M_X6_ones [.int l0] s (fX6_ones l0 s) := by
  refine Ct.of (L0 := [some (.int l0), none, none]) 2 rfl rfl ⟨rfl, rfl⟩ (Nat.le_of_ble_eq_true rfl) rfl ?_
  unfold fX6_ones
  refine rr_iconst 0 (q := 1) rfl dX6_ones_0 rfl ?_
  refine rr_istore_n (L2 := fun y1 => [some (.int l0), some (.int y1), none]) (q := 2) rfl dX6_ones_1 (Nat.le_of_ble_eq_true rfl) (fun _ => rfl) (fun y1 => ?_)
  refine rr_iload_n (q := 3) rfl dX6_ones_2 rfl ?_
  refine rr_istore_n (L2 := fun y2 => [some (.int l0), some (.int y1), some (.int y2)]) (q := 4) rfl dX6_ones_3 (Nat.le_of_ble_eq_true rfl) (fun _ => rfl) (fun y2 => ?_)
  refine rr_mask [false, true, true] (L' := [none, some (.int y1), some (.int y2)]) rfl ?_
  exact e_X6_ones_4 400 y1 y2 s
def fX6_lives (l1 : Int32) (s : SM) : Option (Int32 × SM) :=
  ixg (((gM s 0 11) + 15) + l1) 82 fun n1 =>
  (if (gM s 9 n1) = 0 then
  some (1, s)
  else
  some (0, s))
set_option maxRecDepth 100000 in
set_option maxHeartbeats 4000000 in
theorem e_X6_lives {G : Cf} {x : SX} (l1 : Int32) (s : SM) : Ct (wfM x) inI G M_X6_lives [.ref mb, .int l1] s (fX6_lives l1 s) := by
  refine Ct.of (L0 := [some (.ref mb), some (.int l1)]) 0 rfl rfl ⟨rfl, rfl⟩ (Nat.le_of_ble_eq_true rfl) rfl ?_
  unfold fX6_lives
  refine rr_aload_n (q := 1) rfl dX6_lives_0 rfl ?_
  refine rr_get (q := 4) rfl fl_X6_34 w_M rfl dX6_lives_1 ?_
  refine rr_aload_n (q := 5) rfl dX6_lives_4 rfl ?_
  refine rr_get (q := 8) rfl fl_X6_90 w_M rfl dX6_lives_5 ?_
  refine rr_bipush 15 (q := 10) rfl dX6_lives_8 rfl ?_
  refine rr_iadd (q := 11) rfl dX6_lives_10 ?_
  refine rr_iload_n (q := 12) rfl dX6_lives_11 rfl ?_
  refine rr_iadd (q := 13) rfl dX6_lives_12 ?_
  refine rr_iald (q := 14) rfl w_marr9 dX6_lives_13 (fun n1 => ?_)
  refine rr_if_ne 21 (q := 17) rfl dX6_lives_14 rfl (fun _ => ?_) (fun _ => ?_)
  · refine rr_iconst 0 (q := 22) rfl dX6_lives_21 rfl ?_
    exact rr_zret dX6_lives_22 rfl (Or.inl rfl)
  · refine rr_iconst 1 (q := 18) rfl dX6_lives_17 rfl ?_
    refine rr_goto 22 dX6_lives_18 rfl ?_
    exact rr_zret dX6_lives_22 rfl (Or.inr rfl)
def fX6_holder (l1 : Int32) (s : SM) : Option (Int32 × SM) :=
  ixg (((gM s 0 11) + 1) + l1) 82 fun n1 =>
  some (gM s 9 n1, s)
set_option maxRecDepth 100000 in
set_option maxHeartbeats 4000000 in
theorem e_X6_holder {G : Cf} {x : SX} (l1 : Int32) (s : SM) : Ct (wfM x) inI G M_X6_holder [.ref mb, .int l1] s (fX6_holder l1 s) := by
  refine Ct.of (L0 := [some (.ref mb), some (.int l1)]) 0 rfl rfl ⟨rfl, rfl⟩ (Nat.le_of_ble_eq_true rfl) rfl ?_
  unfold fX6_holder
  refine rr_aload_n (q := 1) rfl dX6_holder_0 rfl ?_
  refine rr_get (q := 4) rfl fl_X6_34 w_M rfl dX6_holder_1 ?_
  refine rr_aload_n (q := 5) rfl dX6_holder_4 rfl ?_
  refine rr_get (q := 8) rfl fl_X6_90 w_M rfl dX6_holder_5 ?_
  refine rr_iconst 1 (q := 9) rfl dX6_holder_8 rfl ?_
  refine rr_iadd (q := 10) rfl dX6_holder_9 ?_
  refine rr_iload_n (q := 11) rfl dX6_holder_10 rfl ?_
  refine rr_iadd (q := 12) rfl dX6_holder_11 ?_
  refine rr_iald (q := 13) rfl w_marr9 dX6_holder_12 (fun n1 => ?_)
  exact rr_iret dX6_holder_13 rfl
def fX6_isHome (l1 : Int32) (s : SM) : Option (Int32 × SM) :=
  bd (fX6_holder l1 s) fun v1 s2 =>
  ixg l1 14 fun n3 =>
  (if v1 = (gM s2 3 n3) then
  some (1, s2)
  else
  some (0, s2))
set_option maxRecDepth 100000 in
set_option maxHeartbeats 4000000 in
theorem e_X6_isHome {G : Cf} {x : SX} (l1 : Int32) (s : SM) : Ct (wfM x) inI G M_X6_isHome [.ref mb, .int l1] s (fX6_isHome l1 s) := by
  refine Ct.of (L0 := [some (.ref mb), some (.int l1)]) 0 rfl rfl ⟨rfl, rfl⟩ (Nat.le_of_ble_eq_true rfl) rfl ?_
  unfold fX6_isHome
  refine rr_aload_n (q := 1) rfl dX6_isHome_0 rfl ?_
  refine rr_iload_n (q := 2) rfl dX6_isHome_1 rfl ?_
  refine rr_cVi (q := 5) rfl V_X6_holder ml_X6_93 ⟨Nat.le_of_ble_eq_true rfl, Nat.le_of_ble_eq_true rfl⟩ (e_X6_holder l1 s) w_M rfl rfl rfl rfl (Nat.le_of_ble_eq_true rfl) dX6_isHome_2 (fun v1 s2 => ?_)
  refine rr_aload_n (q := 6) rfl dX6_isHome_5 rfl ?_
  refine rr_get (q := 9) rfl fl_X6_16 w_M rfl dX6_isHome_6 ?_
  refine rr_iload_n (q := 10) rfl dX6_isHome_9 rfl ?_
  refine rr_iald (q := 11) rfl w_marr3 dX6_isHome_10 (fun n3 => ?_)
  refine rr_icmp_ne 18 (q := 14) rfl dX6_isHome_11 rfl (fun _ => ?_) (fun _ => ?_)
  · refine rr_iconst 0 (q := 19) rfl dX6_isHome_18 rfl ?_
    exact rr_zret dX6_isHome_19 rfl (Or.inl rfl)
  · refine rr_iconst 1 (q := 15) rfl dX6_isHome_14 rfl ?_
    refine rr_goto 19 dX6_isHome_15 rfl ?_
    exact rr_zret dX6_isHome_19 rfl (Or.inr rfl)
def fX6_isInForce (l1 : Int32) (s : SM) : Option (Int32 × SM) :=
  ixg (((gM s 0 11) + 29) + l1) 82 fun n1 =>
  (if (gM s 9 n1) = 0 then
  ixg ((gM s 0 11) + 0) 82 fun n2 =>
  ixg l1 12 fun n3 =>
  (if (gM s 8 n3) < (gM s 9 n2) then
  some (0, s)
  else
  some (1, s))
  else
  some (0, s))
set_option maxRecDepth 100000 in
set_option maxHeartbeats 4000000 in
theorem e_X6_isInForce {G : Cf} {x : SX} (l1 : Int32) (s : SM) : Ct (wfM x) inI G M_X6_isInForce [.ref mb, .int l1] s (fX6_isInForce l1 s) := by
  refine Ct.of (L0 := [some (.ref mb), some (.int l1)]) 0 rfl rfl ⟨rfl, rfl⟩ (Nat.le_of_ble_eq_true rfl) rfl ?_
  unfold fX6_isInForce
  refine rr_aload_n (q := 1) rfl dX6_isInForce_0 rfl ?_
  refine rr_get (q := 4) rfl fl_X6_34 w_M rfl dX6_isInForce_1 ?_
  refine rr_aload_n (q := 5) rfl dX6_isInForce_4 rfl ?_
  refine rr_get (q := 8) rfl fl_X6_90 w_M rfl dX6_isInForce_5 ?_
  refine rr_bipush 29 (q := 10) rfl dX6_isInForce_8 rfl ?_
  refine rr_iadd (q := 11) rfl dX6_isInForce_10 ?_
  refine rr_iload_n (q := 12) rfl dX6_isInForce_11 rfl ?_
  refine rr_iadd (q := 13) rfl dX6_isInForce_12 ?_
  refine rr_iald (q := 14) rfl w_marr9 dX6_isInForce_13 (fun n1 => ?_)
  refine rr_if_ne 41 (q := 17) rfl dX6_isInForce_14 rfl (fun _ => ?_) (fun _ => ?_)
  · refine rr_iconst 0 (q := 42) rfl dX6_isInForce_41 rfl ?_
    exact rr_zret dX6_isInForce_42 rfl (Or.inl rfl)
  · refine rr_aload_n (q := 18) rfl dX6_isInForce_17 rfl ?_
    refine rr_get (q := 21) rfl fl_X6_34 w_M rfl dX6_isInForce_18 ?_
    refine rr_aload_n (q := 22) rfl dX6_isInForce_21 rfl ?_
    refine rr_get (q := 25) rfl fl_X6_90 w_M rfl dX6_isInForce_22 ?_
    refine rr_iconst 0 (q := 26) rfl dX6_isInForce_25 rfl ?_
    refine rr_iadd (q := 27) rfl dX6_isInForce_26 ?_
    refine rr_iald (q := 28) rfl w_marr9 dX6_isInForce_27 (fun n2 => ?_)
    refine rr_aload_n (q := 29) rfl dX6_isInForce_28 rfl ?_
    refine rr_get (q := 32) rfl fl_X6_31 w_M rfl dX6_isInForce_29 ?_
    refine rr_iload_n (q := 33) rfl dX6_isInForce_32 rfl ?_
    refine rr_iald (q := 34) rfl w_marr8 dX6_isInForce_33 (fun n3 => ?_)
    refine rr_icmp_gt 41 (q := 37) rfl dX6_isInForce_34 rfl (fun _ => ?_) (fun _ => ?_)
    · refine rr_iconst 0 (q := 42) rfl dX6_isInForce_41 rfl ?_
      exact rr_zret dX6_isInForce_42 rfl (Or.inl rfl)
    · refine rr_iconst 1 (q := 38) rfl dX6_isInForce_37 rfl ?_
      refine rr_goto 42 dX6_isInForce_38 rfl ?_
      exact rr_zret dX6_isInForce_42 rfl (Or.inr rfl)
def fX6_hasTwinAtHome_67 (k4 : Int32 → Int32 → Int32 → SM → Option (Int32 × SM)) (l1 : Int32) (l3 : Int32) (t0 : Int32) (s : SM) : Option (Int32 × SM) :=
  vl t0 fun y10 =>
  vl (l3 + 1) fun y11 =>
  k4 l1 y10 y11 s
set_option maxRecDepth 100000 in
set_option maxHeartbeats 4000000 in
theorem e_X6_hasTwinAtHome_67 {G : Cf} {x : SX} {k4 : Int32 → Int32 → Int32 → SM → Option (Int32 × SM)} (hk4 : ∀ (l1 : Int32) (l2 : Int32) (l3 : Int32) (s : SM), R (wfM x) inI G M_X6_hasTwinAtHome 4 [some (.ref mb), some (.int l1), some (.int l2), some (.int l3)] [] s (k4 l1 l2 l3 s)) (l1 : Int32) (l3 : Int32) (t0 : Int32) (s : SM) : R (wfM x) inI G M_X6_hasTwinAtHome 67 [some (.ref mb), some (.int l1), none, some (.int l3)] [.int t0] s (fX6_hasTwinAtHome_67 k4 l1 l3 t0 s) := by
  unfold fX6_hasTwinAtHome_67
  refine rr_istore_n (L2 := fun y10 => [some (.ref mb), some (.int l1), some (.int y10), some (.int l3)]) (q := 68) rfl dX6_hasTwinAtHome_67 (Nat.le_of_ble_eq_true rfl) (fun _ => rfl) (fun y10 => ?_)
  refine rr_iinc (L2 := fun y11 => [some (.ref mb), some (.int l1), some (.int y10), some (.int y11)]) (q := 71) rfl dX6_hasTwinAtHome_68 rfl rfl (Nat.le_of_ble_eq_true rfl) (fun _ => rfl) (fun y11 => ?_)
  refine rr_goto 4 dX6_hasTwinAtHome_71 rfl ?_
  exact hk4 l1 y10 y11 s
def fX6_hasTwinAtHome_62 (k4 : Int32 → Int32 → Int32 → SM → Option (Int32 × SM)) (l1 : Int32) (l3 : Int32) (s : SM) : Option (Int32 × SM) :=
  fX6_hasTwinAtHome_67 k4 l1 l3 1 s
set_option maxRecDepth 100000 in
set_option maxHeartbeats 4000000 in
theorem e_X6_hasTwinAtHome_62 {G : Cf} {x : SX} {k4 : Int32 → Int32 → Int32 → SM → Option (Int32 × SM)} (hk4 : ∀ (l1 : Int32) (l2 : Int32) (l3 : Int32) (s : SM), R (wfM x) inI G M_X6_hasTwinAtHome 4 [some (.ref mb), some (.int l1), some (.int l2), some (.int l3)] [] s (k4 l1 l2 l3 s)) (l1 : Int32) (l3 : Int32) (s : SM) : R (wfM x) inI G M_X6_hasTwinAtHome 62 [some (.ref mb), some (.int l1), none, some (.int l3)] [] s (fX6_hasTwinAtHome_62 k4 l1 l3 s) := by
  unfold fX6_hasTwinAtHome_62
  refine rr_iconst 1 (q := 63) rfl dX6_hasTwinAtHome_62 rfl ?_
  refine rr_goto 67 dX6_hasTwinAtHome_63 rfl ?_
  exact e_X6_hasTwinAtHome_67 hk4 l1 l3 1 s
def fX6_hasTwinAtHome_66 (k4 : Int32 → Int32 → Int32 → SM → Option (Int32 × SM)) (l1 : Int32) (l3 : Int32) (s : SM) : Option (Int32 × SM) :=
  fX6_hasTwinAtHome_67 k4 l1 l3 0 s
set_option maxRecDepth 100000 in
set_option maxHeartbeats 4000000 in
theorem e_X6_hasTwinAtHome_66 {G : Cf} {x : SX} {k4 : Int32 → Int32 → Int32 → SM → Option (Int32 × SM)} (hk4 : ∀ (l1 : Int32) (l2 : Int32) (l3 : Int32) (s : SM), R (wfM x) inI G M_X6_hasTwinAtHome 4 [some (.ref mb), some (.int l1), some (.int l2), some (.int l3)] [] s (k4 l1 l2 l3 s)) (l1 : Int32) (l3 : Int32) (s : SM) : R (wfM x) inI G M_X6_hasTwinAtHome 66 [some (.ref mb), some (.int l1), none, some (.int l3)] [] s (fX6_hasTwinAtHome_66 k4 l1 l3 s) := by
  unfold fX6_hasTwinAtHome_66
  refine rr_iconst 0 (q := 67) rfl dX6_hasTwinAtHome_66 rfl ?_
  exact e_X6_hasTwinAtHome_67 hk4 l1 l3 0 s
def fX6_hasTwinAtHome_4b (k4 : Int32 → Int32 → Int32 → SM → Option (Int32 × SM)) (l1 : Int32) (l2 : Int32) (l3 : Int32) (s : SM) : Option (Int32 × SM) :=
  (if (gM s 0 1) ≤ l3 then
  gd (l2 = 0 ∨ l2 = 1) (some (l2, s))
  else
  (if l2 = 0 then
  (if l3 = l1 then
  fX6_hasTwinAtHome_66 k4 l1 l3 s
  else
  ixg l3 14 fun n3 =>
  (if (gM s 2 n3) = 5 then
  ixg l3 14 fun n4 =>
  ixg l1 14 fun n5 =>
  (if (gM s 3 n4) = (gM s 3 n5) then
  bd (fX6_lives l3 s) fun v6 s7 =>
  (if v6 = 0 then
  fX6_hasTwinAtHome_66 k4 l1 l3 s7
  else
  bd (fX6_isHome l3 s7) fun v8 s9 =>
  (if v8 = 0 then
  fX6_hasTwinAtHome_66 k4 l1 l3 s9
  else
  fX6_hasTwinAtHome_62 k4 l1 l3 s9))
  else
  fX6_hasTwinAtHome_66 k4 l1 l3 s)
  else
  fX6_hasTwinAtHome_66 k4 l1 l3 s))
  else
  fX6_hasTwinAtHome_62 k4 l1 l3 s))
set_option maxRecDepth 100000 in
set_option maxHeartbeats 4000000 in
theorem e_X6_hasTwinAtHome_4b {G : Cf} {x : SX} {k4 : Int32 → Int32 → Int32 → SM → Option (Int32 × SM)} (hk4 : ∀ (l1 : Int32) (l2 : Int32) (l3 : Int32) (s : SM), R (wfM x) inI G M_X6_hasTwinAtHome 4 [some (.ref mb), some (.int l1), some (.int l2), some (.int l3)] [] s (k4 l1 l2 l3 s)) (l1 : Int32) (l2 : Int32) (l3 : Int32) (s : SM) : R (wfM x) inI G M_X6_hasTwinAtHome 4 [some (.ref mb), some (.int l1), some (.int l2), some (.int l3)] [] s (fX6_hasTwinAtHome_4b k4 l1 l2 l3 s) := by
  unfold fX6_hasTwinAtHome_4b
  refine rr_iload_n (q := 5) rfl dX6_hasTwinAtHome_4 rfl ?_
  refine rr_aload_n (q := 6) rfl dX6_hasTwinAtHome_5 rfl ?_
  refine rr_get (q := 9) rfl fl_X6_83 w_M rfl dX6_hasTwinAtHome_6 ?_
  refine rr_icmp_ge 74 (q := 12) rfl dX6_hasTwinAtHome_9 rfl (fun _ => ?_) (fun _ => ?_)
  · refine rr_iload_n (q := 75) rfl dX6_hasTwinAtHome_74 rfl ?_
    exact rr_gd (fun hb => rr_zret dX6_hasTwinAtHome_75 rfl hb)
  · refine rr_iload_n (q := 13) rfl dX6_hasTwinAtHome_12 rfl ?_
    refine rr_if_ne 62 (q := 16) rfl dX6_hasTwinAtHome_13 rfl (fun _ => ?_) (fun _ => ?_)
    · refine rr_mask [true, true, false, true] (L' := [some (.ref mb), some (.int l1), none, some (.int l3)]) rfl ?_
      exact e_X6_hasTwinAtHome_62 hk4 l1 l3 s
    · refine rr_iload_n (q := 17) rfl dX6_hasTwinAtHome_16 rfl ?_
      refine rr_iload_n (q := 18) rfl dX6_hasTwinAtHome_17 rfl ?_
      refine rr_icmp_eq 66 (q := 21) rfl dX6_hasTwinAtHome_18 rfl (fun _ => ?_) (fun _ => ?_)
      · refine rr_mask [true, true, false, true] (L' := [some (.ref mb), some (.int l1), none, some (.int l3)]) rfl ?_
        exact e_X6_hasTwinAtHome_66 hk4 l1 l3 s
      · refine rr_aload_n (q := 22) rfl dX6_hasTwinAtHome_21 rfl ?_
        refine rr_get (q := 25) rfl fl_X6_13 w_M rfl dX6_hasTwinAtHome_22 ?_
        refine rr_iload_n (q := 26) rfl dX6_hasTwinAtHome_25 rfl ?_
        refine rr_iald (q := 27) rfl w_marr2 dX6_hasTwinAtHome_26 (fun n3 => ?_)
        refine rr_iconst 5 (q := 28) rfl dX6_hasTwinAtHome_27 rfl ?_
        refine rr_icmp_ne 66 (q := 31) rfl dX6_hasTwinAtHome_28 rfl (fun _ => ?_) (fun _ => ?_)
        · refine rr_mask [true, true, false, true] (L' := [some (.ref mb), some (.int l1), none, some (.int l3)]) rfl ?_
          exact e_X6_hasTwinAtHome_66 hk4 l1 l3 s
        · refine rr_aload_n (q := 32) rfl dX6_hasTwinAtHome_31 rfl ?_
          refine rr_get (q := 35) rfl fl_X6_16 w_M rfl dX6_hasTwinAtHome_32 ?_
          refine rr_iload_n (q := 36) rfl dX6_hasTwinAtHome_35 rfl ?_
          refine rr_iald (q := 37) rfl w_marr3 dX6_hasTwinAtHome_36 (fun n4 => ?_)
          refine rr_aload_n (q := 38) rfl dX6_hasTwinAtHome_37 rfl ?_
          refine rr_get (q := 41) rfl fl_X6_16 w_M rfl dX6_hasTwinAtHome_38 ?_
          refine rr_iload_n (q := 42) rfl dX6_hasTwinAtHome_41 rfl ?_
          refine rr_iald (q := 43) rfl w_marr3 dX6_hasTwinAtHome_42 (fun n5 => ?_)
          refine rr_icmp_ne 66 (q := 46) rfl dX6_hasTwinAtHome_43 rfl (fun _ => ?_) (fun _ => ?_)
          · refine rr_mask [true, true, false, true] (L' := [some (.ref mb), some (.int l1), none, some (.int l3)]) rfl ?_
            exact e_X6_hasTwinAtHome_66 hk4 l1 l3 s
          · refine rr_aload_n (q := 47) rfl dX6_hasTwinAtHome_46 rfl ?_
            refine rr_iload_n (q := 48) rfl dX6_hasTwinAtHome_47 rfl ?_
            refine rr_cVi (q := 51) rfl V_X6_lives ml_X6_97 ⟨Nat.le_of_ble_eq_true rfl, Nat.le_of_ble_eq_true rfl⟩ (e_X6_lives l3 s) w_M rfl rfl rfl rfl (Nat.le_of_ble_eq_true rfl) dX6_hasTwinAtHome_48 (fun v6 s7 => ?_)
            refine rr_if_eq 66 (q := 54) rfl dX6_hasTwinAtHome_51 rfl (fun _ => ?_) (fun _ => ?_)
            · refine rr_mask [true, true, false, true] (L' := [some (.ref mb), some (.int l1), none, some (.int l3)]) rfl ?_
              exact e_X6_hasTwinAtHome_66 hk4 l1 l3 s7
            · refine rr_aload_n (q := 55) rfl dX6_hasTwinAtHome_54 rfl ?_
              refine rr_iload_n (q := 56) rfl dX6_hasTwinAtHome_55 rfl ?_
              refine rr_cVi (q := 59) rfl V_X6_isHome ml_X6_101 ⟨Nat.le_of_ble_eq_true rfl, Nat.le_of_ble_eq_true rfl⟩ (e_X6_isHome l3 s7) w_M rfl rfl rfl rfl (Nat.le_of_ble_eq_true rfl) dX6_hasTwinAtHome_56 (fun v8 s9 => ?_)
              refine rr_if_eq 66 (q := 62) rfl dX6_hasTwinAtHome_59 rfl (fun _ => ?_) (fun _ => ?_)
              · refine rr_mask [true, true, false, true] (L' := [some (.ref mb), some (.int l1), none, some (.int l3)]) rfl ?_
                exact e_X6_hasTwinAtHome_66 hk4 l1 l3 s9
              · refine rr_mask [true, true, false, true] (L' := [some (.ref mb), some (.int l1), none, some (.int l3)]) rfl ?_
                exact e_X6_hasTwinAtHome_62 hk4 l1 l3 s9
def fX6_hasTwinAtHome_4 : Nat → Int32 → Int32 → Int32 → SM → Option (Int32 × SM) := lp (fun _ _ _ _ => none) (fX6_hasTwinAtHome_4b)
theorem e_X6_hasTwinAtHome_4 {G : Cf} {x : SX}  (n : Nat) : ∀ (l1 : Int32) (l2 : Int32) (l3 : Int32) (s : SM), R (wfM x) inI G M_X6_hasTwinAtHome 4 [some (.ref mb), some (.int l1), some (.int l2), some (.int l3)] [] s (fX6_hasTwinAtHome_4 n l1 l2 l3 s) := by
  unfold fX6_hasTwinAtHome_4
  exact rr_lp (P := fun (kz : Int32 → Int32 → Int32 → SM → Option (Int32 × SM)) => ∀ (l1 : Int32) (l2 : Int32) (l3 : Int32) (s : SM), R (wfM x) inI G M_X6_hasTwinAtHome 4 [some (.ref mb), some (.int l1), some (.int l2), some (.int l3)] [] s (kz l1 l2 l3 s)) (fun _ _ _ _ => rr_none) (fun kz hkz => fun l1 l2 l3 s => e_X6_hasTwinAtHome_4b hkz l1 l2 l3 s) n
def fX6_hasTwinAtHome (l1 : Int32) (s : SM) : Option (Int32 × SM) :=
  vl 0 fun y1 =>
  vl 0 fun y2 =>
  fX6_hasTwinAtHome_4 400 l1 y1 y2 s
set_option maxRecDepth 100000 in
set_option maxHeartbeats 4000000 in
theorem e_X6_hasTwinAtHome {G : Cf} {x : SX} (l1 : Int32) (s : SM) : Ct (wfM x) inI G M_X6_hasTwinAtHome [.ref mb, .int l1] s (fX6_hasTwinAtHome l1 s) := by
  refine Ct.of (L0 := [some (.ref mb), some (.int l1), none, none]) 2 rfl rfl ⟨rfl, rfl⟩ (Nat.le_of_ble_eq_true rfl) rfl ?_
  unfold fX6_hasTwinAtHome
  refine rr_iconst 0 (q := 1) rfl dX6_hasTwinAtHome_0 rfl ?_
  refine rr_istore_n (L2 := fun y1 => [some (.ref mb), some (.int l1), some (.int y1), none]) (q := 2) rfl dX6_hasTwinAtHome_1 (Nat.le_of_ble_eq_true rfl) (fun _ => rfl) (fun y1 => ?_)
  refine rr_iconst 0 (q := 3) rfl dX6_hasTwinAtHome_2 rfl ?_
  refine rr_istore_n (L2 := fun y2 => [some (.ref mb), some (.int l1), some (.int y1), some (.int y2)]) (q := 4) rfl dX6_hasTwinAtHome_3 (Nat.le_of_ble_eq_true rfl) (fun _ => rfl) (fun y2 => ?_)
  exact e_X6_hasTwinAtHome_4 400 l1 y1 y2 s
def fX6_loss (l1 : Int32) (s : SM) : Option (Int32 × SM) :=
  ixg l1 14 fun n1 =>
  vl (gM s 4 n1) fun y2 =>
  ixg l1 14 fun n3 =>
  (if (gM s 2 n3) = 1 then
  some (2 * y2, s)
  else
  (if (gM s 2 n3) = 2 then
  some (y2 / 2, s)
  else
  (if (gM s 2 n3) = 3 then
  some ((2 * y2) + 20, s)
  else
  (if (gM s 2 n3) = 4 then
  (if 5 ≤ (y2 / 2) then
  some ((y2 / 2) - 5, s)
  else
  some (0, s))
  else
  (if (gM s 2 n3) = 5 then
  bd (fX6_hasTwinAtHome l1 s) fun v8 s9 =>
  (if v8 = 0 then
  some (2 * y2, s9)
  else
  some (y2, s9))
  else
  some (y2, s))))))
set_option maxRecDepth 100000 in
set_option maxHeartbeats 4000000 in
theorem e_X6_loss {G : Cf} {x : SX} (l1 : Int32) (s : SM) : Ct (wfM x) inI G M_X6_loss [.ref mb, .int l1] s (fX6_loss l1 s) := by
  refine Ct.of (L0 := [some (.ref mb), some (.int l1), none]) 1 rfl rfl ⟨rfl, rfl⟩ (Nat.le_of_ble_eq_true rfl) rfl ?_
  unfold fX6_loss
  refine rr_aload_n (q := 1) rfl dX6_loss_0 rfl ?_
  refine rr_get (q := 4) rfl fl_X6_19 w_M rfl dX6_loss_1 ?_
  refine rr_iload_n (q := 5) rfl dX6_loss_4 rfl ?_
  refine rr_iald (q := 6) rfl w_marr4 dX6_loss_5 (fun n1 => ?_)
  refine rr_istore_n (L2 := fun y2 => [some (.ref mb), some (.int l1), some (.int y2)]) (q := 7) rfl dX6_loss_6 (Nat.le_of_ble_eq_true rfl) (fun _ => rfl) (fun y2 => ?_)
  refine rr_aload_n (q := 8) rfl dX6_loss_7 rfl ?_
  refine rr_get (q := 11) rfl fl_X6_13 w_M rfl dX6_loss_8 ?_
  refine rr_iload_n (q := 12) rfl dX6_loss_11 rfl ?_
  refine rr_iald (q := 13) rfl w_marr2 dX6_loss_12 (fun n3 => ?_)
  refine rr_case 1 ?_ (fun hs4 => ?_)
  · refine rr_tableIn 48 dX6_loss_13 (by decide) (by decide) rfl rfl ?_
    refine rr_iconst 2 (q := 49) rfl dX6_loss_48 rfl ?_
    refine rr_iload_n (q := 50) rfl dX6_loss_49 rfl ?_
    refine rr_imul (q := 51) rfl dX6_loss_50 ?_
    exact rr_iret dX6_loss_51 rfl
  · refine rr_case 2 ?_ (fun hs5 => ?_)
    · refine rr_tableIn 52 dX6_loss_13 (by decide) (by decide) rfl rfl ?_
      refine rr_iload_n (q := 53) rfl dX6_loss_52 rfl ?_
      refine rr_iconst 2 (q := 54) rfl dX6_loss_53 rfl ?_
      refine rr_idiv (q := 55) rfl dX6_loss_54 (by decide) ?_
      exact rr_iret dX6_loss_55 rfl
    · refine rr_case 3 ?_ (fun hs6 => ?_)
      · refine rr_tableIn 56 dX6_loss_13 (by decide) (by decide) rfl rfl ?_
        refine rr_iconst 2 (q := 57) rfl dX6_loss_56 rfl ?_
        refine rr_iload_n (q := 58) rfl dX6_loss_57 rfl ?_
        refine rr_imul (q := 59) rfl dX6_loss_58 ?_
        refine rr_bipush 20 (q := 61) rfl dX6_loss_59 rfl ?_
        refine rr_iadd (q := 62) rfl dX6_loss_61 ?_
        exact rr_iret dX6_loss_62 rfl
      · refine rr_case 4 ?_ (fun hs7 => ?_)
        · refine rr_tableIn 63 dX6_loss_13 (by decide) (by decide) rfl rfl ?_
          refine rr_iload_n (q := 64) rfl dX6_loss_63 rfl ?_
          refine rr_iconst 2 (q := 65) rfl dX6_loss_64 rfl ?_
          refine rr_idiv (q := 66) rfl dX6_loss_65 (by decide) ?_
          refine rr_iconst 5 (q := 67) rfl dX6_loss_66 rfl ?_
          refine rr_icmp_ge 74 (q := 70) rfl dX6_loss_67 rfl (fun _ => ?_) (fun _ => ?_)
          · refine rr_iload_n (q := 75) rfl dX6_loss_74 rfl ?_
            refine rr_iconst 2 (q := 76) rfl dX6_loss_75 rfl ?_
            refine rr_idiv (q := 77) rfl dX6_loss_76 (by decide) ?_
            refine rr_iconst 5 (q := 78) rfl dX6_loss_77 rfl ?_
            refine rr_isub (q := 79) rfl dX6_loss_78 ?_
            exact rr_iret dX6_loss_79 rfl
          · refine rr_iconst 0 (q := 71) rfl dX6_loss_70 rfl ?_
            refine rr_goto 79 dX6_loss_71 rfl ?_
            exact rr_iret dX6_loss_79 rfl
        · refine rr_case 5 ?_ (fun hs10 => ?_)
          · refine rr_tableIn 80 dX6_loss_13 (by decide) (by decide) rfl rfl ?_
            refine rr_aload_n (q := 81) rfl dX6_loss_80 rfl ?_
            refine rr_iload_n (q := 82) rfl dX6_loss_81 rfl ?_
            refine rr_cVi (q := 85) rfl V_X6_hasTwinAtHome ml_X6_104 ⟨Nat.le_of_ble_eq_true rfl, Nat.le_of_ble_eq_true rfl⟩ (e_X6_hasTwinAtHome l1 s) w_M rfl rfl rfl rfl (Nat.le_of_ble_eq_true rfl) dX6_loss_82 (fun v8 s9 => ?_)
            refine rr_if_eq 92 (q := 88) rfl dX6_loss_85 rfl (fun _ => ?_) (fun _ => ?_)
            · refine rr_iconst 2 (q := 93) rfl dX6_loss_92 rfl ?_
              refine rr_iload_n (q := 94) rfl dX6_loss_93 rfl ?_
              refine rr_imul (q := 95) rfl dX6_loss_94 ?_
              exact rr_iret dX6_loss_95 rfl
            · refine rr_iload_n (q := 89) rfl dX6_loss_88 rfl ?_
              refine rr_goto 95 dX6_loss_89 rfl ?_
              exact rr_iret dX6_loss_95 rfl
          · refine rr_tableOut 96 dX6_loss_13 (by have ahs4 := ne_lit (n := 1) hs4 rfl; have ahs5 := ne_lit (n := 2) hs5 rfl; have ahs6 := ne_lit (n := 3) hs6 rfl; have ahs7 := ne_lit (n := 4) hs7 rfl; have ahs10 := ne_lit (n := 5) hs10 rfl; omega) rfl ?_
            refine rr_iload_n (q := 97) rfl dX6_loss_96 rfl ?_
            exact rr_iret dX6_loss_97 rfl
def fX6_findPledges_75 (k23 : Int32 → SM → Option (Unit × SM)) (l1 : Int32) (s : SM) : Option (Unit × SM) :=
  vl (l1 + 1) fun y18 =>
  k23 y18 s
set_option maxRecDepth 100000 in
set_option maxHeartbeats 4000000 in
theorem e_X6_findPledges_75 {G : Cf} {x : SX} {k23 : Int32 → SM → Option (Unit × SM)} (hk23 : ∀ (l1 : Int32) (s : SM), R (wfM x) inU G M_X6_findPledges 23 [some (.ref mb), some (.int l1)] [] s (k23 l1 s)) (l1 : Int32) (s : SM) : R (wfM x) inU G M_X6_findPledges 75 [some (.ref mb), some (.int l1)] [] s (fX6_findPledges_75 k23 l1 s) := by
  unfold fX6_findPledges_75
  refine rr_iinc (L2 := fun y18 => [some (.ref mb), some (.int y18)]) (q := 78) rfl dX6_findPledges_75 rfl rfl (Nat.le_of_ble_eq_true rfl) (fun _ => rfl) (fun y18 => ?_)
  refine rr_goto 23 dX6_findPledges_78 rfl ?_
  exact hk23 y18 s
def fX6_findPledges_23b (k23 : Int32 → SM → Option (Unit × SM)) (l1 : Int32) (s : SM) : Option (Unit × SM) :=
  (if (gM s 0 1) ≤ l1 then
  some ((), s)
  else
  bd (fX6_lives l1 s) fun v6 s7 =>
  (if v6 = 0 then
  fX6_findPledges_75 k23 l1 s7
  else
  bd (fX6_isHome l1 s7) fun v8 s9 =>
  (if v8 = 0 then
  bd (fX6_holder l1 s9) fun v10 s11 =>
  ixg l1 14 fun n12 =>
  ixg ((6 * v10) + (gM s11 3 n12)) 36 fun n13 =>
  bd (fX6_loss l1 s11) fun v14 s15 =>
  ixg ((6 * v10) + (gM s11 3 n12)) 36 fun n16 => vl (wM s15 11 n16 ((gM s11 11 n13) + v14)) fun s17 =>
  fX6_findPledges_75 k23 l1 s17
  else
  fX6_findPledges_75 k23 l1 s9)))
set_option maxRecDepth 100000 in
set_option maxHeartbeats 4000000 in
theorem e_X6_findPledges_23b {G : Cf} {x : SX} {k23 : Int32 → SM → Option (Unit × SM)} (hk23 : ∀ (l1 : Int32) (s : SM), R (wfM x) inU G M_X6_findPledges 23 [some (.ref mb), some (.int l1)] [] s (k23 l1 s)) (l1 : Int32) (s : SM) : R (wfM x) inU G M_X6_findPledges 23 [some (.ref mb), some (.int l1)] [] s (fX6_findPledges_23b k23 l1 s) := by
  unfold fX6_findPledges_23b
  refine rr_iload_n (q := 24) rfl dX6_findPledges_23 rfl ?_
  refine rr_aload_n (q := 25) rfl dX6_findPledges_24 rfl ?_
  refine rr_get (q := 28) rfl fl_X6_83 w_M rfl dX6_findPledges_25 ?_
  refine rr_icmp_ge 81 (q := 31) rfl dX6_findPledges_28 rfl (fun _ => ?_) (fun _ => ?_)
  · exact rr_vret dX6_findPledges_81 rfl
  · refine rr_aload_n (q := 32) rfl dX6_findPledges_31 rfl ?_
    refine rr_iload_n (q := 33) rfl dX6_findPledges_32 rfl ?_
    refine rr_cVi (q := 36) rfl V_X6_lives ml_X6_97 ⟨Nat.le_of_ble_eq_true rfl, Nat.le_of_ble_eq_true rfl⟩ (e_X6_lives l1 s) w_M rfl rfl rfl rfl (Nat.le_of_ble_eq_true rfl) dX6_findPledges_33 (fun v6 s7 => ?_)
    refine rr_if_eq 75 (q := 39) rfl dX6_findPledges_36 rfl (fun _ => ?_) (fun _ => ?_)
    · exact e_X6_findPledges_75 hk23 l1 s7
    · refine rr_aload_n (q := 40) rfl dX6_findPledges_39 rfl ?_
      refine rr_iload_n (q := 41) rfl dX6_findPledges_40 rfl ?_
      refine rr_cVi (q := 44) rfl V_X6_isHome ml_X6_101 ⟨Nat.le_of_ble_eq_true rfl, Nat.le_of_ble_eq_true rfl⟩ (e_X6_isHome l1 s7) w_M rfl rfl rfl rfl (Nat.le_of_ble_eq_true rfl) dX6_findPledges_41 (fun v8 s9 => ?_)
      refine rr_if_ne 75 (q := 47) rfl dX6_findPledges_44 rfl (fun _ => ?_) (fun _ => ?_)
      · exact e_X6_findPledges_75 hk23 l1 s9
      · refine rr_aload_n (q := 48) rfl dX6_findPledges_47 rfl ?_
        refine rr_get (q := 51) rfl fl_X6_40 w_M rfl dX6_findPledges_48 ?_
        refine rr_bipush 6 (q := 53) rfl dX6_findPledges_51 rfl ?_
        refine rr_aload_n (q := 54) rfl dX6_findPledges_53 rfl ?_
        refine rr_iload_n (q := 55) rfl dX6_findPledges_54 rfl ?_
        refine rr_cVi (q := 58) rfl V_X6_holder ml_X6_93 ⟨Nat.le_of_ble_eq_true rfl, Nat.le_of_ble_eq_true rfl⟩ (e_X6_holder l1 s9) w_M rfl rfl rfl rfl (Nat.le_of_ble_eq_true rfl) dX6_findPledges_55 (fun v10 s11 => ?_)
        refine rr_imul (q := 59) rfl dX6_findPledges_58 ?_
        refine rr_aload_n (q := 60) rfl dX6_findPledges_59 rfl ?_
        refine rr_get (q := 63) rfl fl_X6_16 w_M rfl dX6_findPledges_60 ?_
        refine rr_iload_n (q := 64) rfl dX6_findPledges_63 rfl ?_
        refine rr_iald (q := 65) rfl w_marr3 dX6_findPledges_64 (fun n12 => ?_)
        refine rr_iadd (q := 66) rfl dX6_findPledges_65 ?_
        refine rr_dup2 (q := 67) rfl dX6_findPledges_66 rfl rfl ?_
        refine rr_iald (q := 68) rfl w_marr11 dX6_findPledges_67 (fun n13 => ?_)
        refine rr_aload_n (q := 69) rfl dX6_findPledges_68 rfl ?_
        refine rr_iload_n (q := 70) rfl dX6_findPledges_69 rfl ?_
        refine rr_cVi (q := 73) rfl V_X6_loss ml_X6_107 ⟨Nat.le_of_ble_eq_true rfl, Nat.le_of_ble_eq_true rfl⟩ (e_X6_loss l1 s11) w_M rfl rfl rfl rfl (Nat.le_of_ble_eq_true rfl) dX6_findPledges_70 (fun v14 s15 => ?_)
        refine rr_iadd (q := 74) rfl dX6_findPledges_73 ?_
        refine rr_iast (q := 75) rfl w_marr11 (fun _ => u_marr11) dX6_findPledges_74 (fun n16 s17 => ?_)
        exact e_X6_findPledges_75 hk23 l1 s17
def fX6_findPledges_23 : Nat → Int32 → SM → Option (Unit × SM) := lp (fun _ _ => none) (fX6_findPledges_23b)
theorem e_X6_findPledges_23 {G : Cf} {x : SX}  (n : Nat) : ∀ (l1 : Int32) (s : SM), R (wfM x) inU G M_X6_findPledges 23 [some (.ref mb), some (.int l1)] [] s (fX6_findPledges_23 n l1 s) := by
  unfold fX6_findPledges_23
  exact rr_lp (P := fun (kz : Int32 → SM → Option (Unit × SM)) => ∀ (l1 : Int32) (s : SM), R (wfM x) inU G M_X6_findPledges 23 [some (.ref mb), some (.int l1)] [] s (kz l1 s)) (fun _ _ => rr_none) (fun kz hkz => fun l1 s => e_X6_findPledges_23b hkz l1 s) n
def fX6_findPledges_2b (k2 : Int32 → SM → Option (Unit × SM)) (l1 : Int32) (s : SM) : Option (Unit × SM) :=
  (if 36 ≤ l1 then
  vl 0 fun y2 =>
  fX6_findPledges_23 400 y2 s
  else
  ixg l1 36 fun n3 => vl (wM s 11 n3 0) fun s4 =>
  vl (l1 + 1) fun y5 =>
  k2 y5 s4)
set_option maxRecDepth 100000 in
set_option maxHeartbeats 4000000 in
theorem e_X6_findPledges_2b {G : Cf} {x : SX} {k2 : Int32 → SM → Option (Unit × SM)} (hk2 : ∀ (l1 : Int32) (s : SM), R (wfM x) inU G M_X6_findPledges 2 [some (.ref mb), some (.int l1)] [] s (k2 l1 s)) (l1 : Int32) (s : SM) : R (wfM x) inU G M_X6_findPledges 2 [some (.ref mb), some (.int l1)] [] s (fX6_findPledges_2b k2 l1 s) := by
  unfold fX6_findPledges_2b
  refine rr_iload_n (q := 3) rfl dX6_findPledges_2 rfl ?_
  refine rr_bipush 36 (q := 5) rfl dX6_findPledges_3 rfl ?_
  refine rr_icmp_ge 21 (q := 8) rfl dX6_findPledges_5 rfl (fun _ => ?_) (fun _ => ?_)
  · refine rr_iconst 0 (q := 22) rfl dX6_findPledges_21 rfl ?_
    refine rr_istore_n (L2 := fun y2 => [some (.ref mb), some (.int y2)]) (q := 23) rfl dX6_findPledges_22 (Nat.le_of_ble_eq_true rfl) (fun _ => rfl) (fun y2 => ?_)
    exact e_X6_findPledges_23 400 y2 s
  · refine rr_aload_n (q := 9) rfl dX6_findPledges_8 rfl ?_
    refine rr_get (q := 12) rfl fl_X6_40 w_M rfl dX6_findPledges_9 ?_
    refine rr_iload_n (q := 13) rfl dX6_findPledges_12 rfl ?_
    refine rr_iconst 0 (q := 14) rfl dX6_findPledges_13 rfl ?_
    refine rr_iast (q := 15) rfl w_marr11 (fun _ => u_marr11) dX6_findPledges_14 (fun n3 s4 => ?_)
    refine rr_iinc (L2 := fun y5 => [some (.ref mb), some (.int y5)]) (q := 18) rfl dX6_findPledges_15 rfl rfl (Nat.le_of_ble_eq_true rfl) (fun _ => rfl) (fun y5 => ?_)
    refine rr_goto 2 dX6_findPledges_18 rfl ?_
    exact hk2 y5 s4
def fX6_findPledges_2 : Nat → Int32 → SM → Option (Unit × SM) := lp (fun _ _ => none) (fX6_findPledges_2b)
theorem e_X6_findPledges_2 {G : Cf} {x : SX}  (n : Nat) : ∀ (l1 : Int32) (s : SM), R (wfM x) inU G M_X6_findPledges 2 [some (.ref mb), some (.int l1)] [] s (fX6_findPledges_2 n l1 s) := by
  unfold fX6_findPledges_2
  exact rr_lp (P := fun (kz : Int32 → SM → Option (Unit × SM)) => ∀ (l1 : Int32) (s : SM), R (wfM x) inU G M_X6_findPledges 2 [some (.ref mb), some (.int l1)] [] s (kz l1 s)) (fun _ _ => rr_none) (fun kz hkz => fun l1 s => e_X6_findPledges_2b hkz l1 s) n
def fX6_findPledges (s : SM) : Option (Unit × SM) :=
  vl 0 fun y1 =>
  fX6_findPledges_2 400 y1 s
set_option maxRecDepth 100000 in
set_option maxHeartbeats 4000000 in
theorem e_X6_findPledges {G : Cf} {x : SX} (s : SM) : Ct (wfM x) inU G M_X6_findPledges [.ref mb] s (fX6_findPledges s) := by
  refine Ct.of (L0 := [some (.ref mb), none]) 1 rfl rfl ⟨rfl, rfl⟩ (Nat.le_of_ble_eq_true rfl) rfl ?_
  unfold fX6_findPledges
  refine rr_iconst 0 (q := 1) rfl dX6_findPledges_0 rfl ?_
  refine rr_istore_n (L2 := fun y1 => [some (.ref mb), some (.int y1)]) (q := 2) rfl dX6_findPledges_1 (Nat.le_of_ble_eq_true rfl) (fun _ => rfl) (fun y1 => ?_)
  exact e_X6_findPledges_2 400 y1 s
def fX6_easeOf (l1 : Int32) (s : SM) : Option (Int32 × SM) :=
  ixg l1 12 fun n1 =>
  ixg l1 12 fun n2 =>
  ixg ((6 * (gM s 6 n1)) + (gM s 5 n2)) 36 fun n3 =>
  ixg l1 12 fun n4 =>
  ixg (gM s 5 n4) 6 fun n5 =>
  ixg l1 12 fun n6 =>
  some (((gM s 11 n3) + (gM s 1 n5)) - (gM s 7 n6), s)
set_option maxRecDepth 100000 in
set_option maxHeartbeats 4000000 in
theorem e_X6_easeOf {G : Cf} {x : SX} (l1 : Int32) (s : SM) : Ct (wfM x) inI G M_X6_easeOf [.ref mb, .int l1] s (fX6_easeOf l1 s) := by
  refine Ct.of (L0 := [some (.ref mb), some (.int l1)]) 0 rfl rfl ⟨rfl, rfl⟩ (Nat.le_of_ble_eq_true rfl) rfl ?_
  unfold fX6_easeOf
  refine rr_aload_n (q := 1) rfl dX6_easeOf_0 rfl ?_
  refine rr_get (q := 4) rfl fl_X6_40 w_M rfl dX6_easeOf_1 ?_
  refine rr_bipush 6 (q := 6) rfl dX6_easeOf_4 rfl ?_
  refine rr_aload_n (q := 7) rfl dX6_easeOf_6 rfl ?_
  refine rr_get (q := 10) rfl fl_X6_25 w_M rfl dX6_easeOf_7 ?_
  refine rr_iload_n (q := 11) rfl dX6_easeOf_10 rfl ?_
  refine rr_iald (q := 12) rfl w_marr6 dX6_easeOf_11 (fun n1 => ?_)
  refine rr_imul (q := 13) rfl dX6_easeOf_12 ?_
  refine rr_aload_n (q := 14) rfl dX6_easeOf_13 rfl ?_
  refine rr_get (q := 17) rfl fl_X6_22 w_M rfl dX6_easeOf_14 ?_
  refine rr_iload_n (q := 18) rfl dX6_easeOf_17 rfl ?_
  refine rr_iald (q := 19) rfl w_marr5 dX6_easeOf_18 (fun n2 => ?_)
  refine rr_iadd (q := 20) rfl dX6_easeOf_19 ?_
  refine rr_iald (q := 21) rfl w_marr11 dX6_easeOf_20 (fun n3 => ?_)
  refine rr_aload_n (q := 22) rfl dX6_easeOf_21 rfl ?_
  refine rr_get (q := 25) rfl fl_X6_7 w_M rfl dX6_easeOf_22 ?_
  refine rr_aload_n (q := 26) rfl dX6_easeOf_25 rfl ?_
  refine rr_get (q := 29) rfl fl_X6_22 w_M rfl dX6_easeOf_26 ?_
  refine rr_iload_n (q := 30) rfl dX6_easeOf_29 rfl ?_
  refine rr_iald (q := 31) rfl w_marr5 dX6_easeOf_30 (fun n4 => ?_)
  refine rr_iald (q := 32) rfl w_marr1 dX6_easeOf_31 (fun n5 => ?_)
  refine rr_iadd (q := 33) rfl dX6_easeOf_32 ?_
  refine rr_aload_n (q := 34) rfl dX6_easeOf_33 rfl ?_
  refine rr_get (q := 37) rfl fl_X6_28 w_M rfl dX6_easeOf_34 ?_
  refine rr_iload_n (q := 38) rfl dX6_easeOf_37 rfl ?_
  refine rr_iald (q := 39) rfl w_marr7 dX6_easeOf_38 (fun n6 => ?_)
  refine rr_isub (q := 40) rfl dX6_easeOf_39 ?_
  exact rr_iret dX6_easeOf_40 rfl
def fX6_looseSet_40 (k8 : Int32 → Int32 → SM → Option (Int32 × SM)) (l2 : Int32) (t0 : Int32) (t1 : Int32) (s : SM) : Option (Int32 × SM) :=
  vl (t0 ||| t1) fun y8 =>
  vl (l2 + 1) fun y9 =>
  k8 y8 y9 s
set_option maxRecDepth 100000 in
set_option maxHeartbeats 4000000 in
theorem e_X6_looseSet_40 {G : Cf} {x : SX} {k8 : Int32 → Int32 → SM → Option (Int32 × SM)} (hk8 : ∀ (l1 : Int32) (l2 : Int32) (s : SM), R (wfM x) inI G M_X6_looseSet 8 [some (.ref mb), some (.int l1), some (.int l2)] [] s (k8 l1 l2 s)) (l2 : Int32) (t0 : Int32) (t1 : Int32) (s : SM) : R (wfM x) inI G M_X6_looseSet 40 [some (.ref mb), none, some (.int l2)] [.int t1, .int t0] s (fX6_looseSet_40 k8 l2 t0 t1 s) := by
  unfold fX6_looseSet_40
  refine rr_ior (q := 41) rfl dX6_looseSet_40 ?_
  refine rr_istore_n (L2 := fun y8 => [some (.ref mb), some (.int y8), some (.int l2)]) (q := 42) rfl dX6_looseSet_41 (Nat.le_of_ble_eq_true rfl) (fun _ => rfl) (fun y8 => ?_)
  refine rr_iinc (L2 := fun y9 => [some (.ref mb), some (.int y8), some (.int y9)]) (q := 45) rfl dX6_looseSet_42 rfl rfl (Nat.le_of_ble_eq_true rfl) (fun _ => rfl) (fun y9 => ?_)
  refine rr_goto 8 dX6_looseSet_45 rfl ?_
  exact hk8 y8 y9 s
def fX6_looseSet_39 (k8 : Int32 → Int32 → SM → Option (Int32 × SM)) (l2 : Int32) (t0 : Int32) (s : SM) : Option (Int32 × SM) :=
  fX6_looseSet_40 k8 l2 t0 0 s
set_option maxRecDepth 100000 in
set_option maxHeartbeats 4000000 in
theorem e_X6_looseSet_39 {G : Cf} {x : SX} {k8 : Int32 → Int32 → SM → Option (Int32 × SM)} (hk8 : ∀ (l1 : Int32) (l2 : Int32) (s : SM), R (wfM x) inI G M_X6_looseSet 8 [some (.ref mb), some (.int l1), some (.int l2)] [] s (k8 l1 l2 s)) (l2 : Int32) (t0 : Int32) (s : SM) : R (wfM x) inI G M_X6_looseSet 39 [some (.ref mb), none, some (.int l2)] [.int t0] s (fX6_looseSet_39 k8 l2 t0 s) := by
  unfold fX6_looseSet_39
  refine rr_iconst 0 (q := 40) rfl dX6_looseSet_39 rfl ?_
  exact e_X6_looseSet_40 hk8 l2 t0 0 s
def fX6_looseSet_8b (k8 : Int32 → Int32 → SM → Option (Int32 × SM)) (l1 : Int32) (l2 : Int32) (s : SM) : Option (Int32 × SM) :=
  (if (gM s 0 5) ≤ l2 then
  some (l1, s)
  else
  bd (fX6_isInForce l2 s) fun v4 s5 =>
  (if v4 = 0 then
  fX6_looseSet_39 k8 l2 l1 s5
  else
  bd (fX6_easeOf l2 s5) fun v6 s7 =>
  (if 0 ≤ v6 then
  fX6_looseSet_39 k8 l2 l1 s7
  else
  fX6_looseSet_40 k8 l2 l1 (1 <<< (l2 &&& 31)) s7)))
set_option maxRecDepth 100000 in
set_option maxHeartbeats 4000000 in
theorem e_X6_looseSet_8b {G : Cf} {x : SX} {k8 : Int32 → Int32 → SM → Option (Int32 × SM)} (hk8 : ∀ (l1 : Int32) (l2 : Int32) (s : SM), R (wfM x) inI G M_X6_looseSet 8 [some (.ref mb), some (.int l1), some (.int l2)] [] s (k8 l1 l2 s)) (l1 : Int32) (l2 : Int32) (s : SM) : R (wfM x) inI G M_X6_looseSet 8 [some (.ref mb), some (.int l1), some (.int l2)] [] s (fX6_looseSet_8b k8 l1 l2 s) := by
  unfold fX6_looseSet_8b
  refine rr_iload_n (q := 9) rfl dX6_looseSet_8 rfl ?_
  refine rr_aload_n (q := 10) rfl dX6_looseSet_9 rfl ?_
  refine rr_get (q := 13) rfl fl_X6_87 w_M rfl dX6_looseSet_10 ?_
  refine rr_icmp_ge 48 (q := 16) rfl dX6_looseSet_13 rfl (fun _ => ?_) (fun _ => ?_)
  · refine rr_iload_n (q := 49) rfl dX6_looseSet_48 rfl ?_
    exact rr_iret dX6_looseSet_49 rfl
  · refine rr_iload_n (q := 17) rfl dX6_looseSet_16 rfl ?_
    refine rr_aload_n (q := 18) rfl dX6_looseSet_17 rfl ?_
    refine rr_iload_n (q := 19) rfl dX6_looseSet_18 rfl ?_
    refine rr_cVi (q := 22) rfl V_X6_isInForce ml_X6_113 ⟨Nat.le_of_ble_eq_true rfl, Nat.le_of_ble_eq_true rfl⟩ (e_X6_isInForce l2 s) w_M rfl rfl rfl rfl (Nat.le_of_ble_eq_true rfl) dX6_looseSet_19 (fun v4 s5 => ?_)
    refine rr_if_eq 39 (q := 25) rfl dX6_looseSet_22 rfl (fun _ => ?_) (fun _ => ?_)
    · refine rr_mask [true, false, true] (L' := [some (.ref mb), none, some (.int l2)]) rfl ?_
      exact e_X6_looseSet_39 hk8 l2 l1 s5
    · refine rr_aload_n (q := 26) rfl dX6_looseSet_25 rfl ?_
      refine rr_iload_n (q := 27) rfl dX6_looseSet_26 rfl ?_
      refine rr_cVi (q := 30) rfl V_X6_easeOf ml_X6_116 ⟨Nat.le_of_ble_eq_true rfl, Nat.le_of_ble_eq_true rfl⟩ (e_X6_easeOf l2 s5) w_M rfl rfl rfl rfl (Nat.le_of_ble_eq_true rfl) dX6_looseSet_27 (fun v6 s7 => ?_)
      refine rr_if_ge 39 (q := 33) rfl dX6_looseSet_30 rfl (fun _ => ?_) (fun _ => ?_)
      · refine rr_mask [true, false, true] (L' := [some (.ref mb), none, some (.int l2)]) rfl ?_
        exact e_X6_looseSet_39 hk8 l2 l1 s7
      · refine rr_iconst 1 (q := 34) rfl dX6_looseSet_33 rfl ?_
        refine rr_iload_n (q := 35) rfl dX6_looseSet_34 rfl ?_
        refine rr_ishl (q := 36) rfl dX6_looseSet_35 ?_
        refine rr_goto 40 dX6_looseSet_36 rfl ?_
        refine rr_mask [true, false, true] (L' := [some (.ref mb), none, some (.int l2)]) rfl ?_
        exact e_X6_looseSet_40 hk8 l2 l1 (1 <<< (l2 &&& 31)) s7
def fX6_looseSet_8 : Nat → Int32 → Int32 → SM → Option (Int32 × SM) := lp (fun _ _ _ => none) (fX6_looseSet_8b)
theorem e_X6_looseSet_8 {G : Cf} {x : SX}  (n : Nat) : ∀ (l1 : Int32) (l2 : Int32) (s : SM), R (wfM x) inI G M_X6_looseSet 8 [some (.ref mb), some (.int l1), some (.int l2)] [] s (fX6_looseSet_8 n l1 l2 s) := by
  unfold fX6_looseSet_8
  exact rr_lp (P := fun (kz : Int32 → Int32 → SM → Option (Int32 × SM)) => ∀ (l1 : Int32) (l2 : Int32) (s : SM), R (wfM x) inI G M_X6_looseSet 8 [some (.ref mb), some (.int l1), some (.int l2)] [] s (kz l1 l2 s)) (fun _ _ _ => rr_none) (fun kz hkz => fun l1 l2 s => e_X6_looseSet_8b hkz l1 l2 s) n
def fX6_looseSet (s : SM) : Option (Int32 × SM) :=
  bd (fX6_findPledges s) fun _ s1 =>
  vl 0 fun y2 =>
  vl 0 fun y3 =>
  fX6_looseSet_8 400 y2 y3 s1
set_option maxRecDepth 100000 in
set_option maxHeartbeats 4000000 in
theorem e_X6_looseSet {G : Cf} {x : SX} (s : SM) : Ct (wfM x) inI G M_X6_looseSet [.ref mb] s (fX6_looseSet s) := by
  refine Ct.of (L0 := [some (.ref mb), none, none]) 2 rfl rfl ⟨rfl, rfl⟩ (Nat.le_of_ble_eq_true rfl) rfl ?_
  unfold fX6_looseSet
  refine rr_aload_n (q := 1) rfl dX6_looseSet_0 rfl ?_
  refine rr_cVu (q := 4) rfl V_X6_findPledges ml_X6_110 ⟨Nat.le_of_ble_eq_true rfl, Nat.le_of_ble_eq_true rfl⟩ (e_X6_findPledges s) w_M rfl rfl rfl rfl (Nat.le_of_ble_eq_true rfl) dX6_looseSet_1 (fun _ s1 => ?_)
  refine rr_iconst 0 (q := 5) rfl dX6_looseSet_4 rfl ?_
  refine rr_istore_n (L2 := fun y2 => [some (.ref mb), some (.int y2), none]) (q := 6) rfl dX6_looseSet_5 (Nat.le_of_ble_eq_true rfl) (fun _ => rfl) (fun y2 => ?_)
  refine rr_iconst 0 (q := 7) rfl dX6_looseSet_6 rfl ?_
  refine rr_istore_n (L2 := fun y3 => [some (.ref mb), some (.int y2), some (.int y3)]) (q := 8) rfl dX6_looseSet_7 (Nat.le_of_ble_eq_true rfl) (fun _ => rfl) (fun y3 => ?_)
  exact e_X6_looseSet_8 400 y2 y3 s1
def fX6_forceSet_28 (k4 : Int32 → Int32 → SM → Option (Int32 × SM)) (l2 : Int32) (t0 : Int32) (t1 : Int32) (s : SM) : Option (Int32 × SM) :=
  vl (t0 ||| t1) fun y5 =>
  vl (l2 + 1) fun y6 =>
  k4 y5 y6 s
set_option maxRecDepth 100000 in
set_option maxHeartbeats 4000000 in
theorem e_X6_forceSet_28 {G : Cf} {x : SX} {k4 : Int32 → Int32 → SM → Option (Int32 × SM)} (hk4 : ∀ (l1 : Int32) (l2 : Int32) (s : SM), R (wfM x) inI G M_X6_forceSet 4 [some (.ref mb), some (.int l1), some (.int l2)] [] s (k4 l1 l2 s)) (l2 : Int32) (t0 : Int32) (t1 : Int32) (s : SM) : R (wfM x) inI G M_X6_forceSet 28 [some (.ref mb), none, some (.int l2)] [.int t1, .int t0] s (fX6_forceSet_28 k4 l2 t0 t1 s) := by
  unfold fX6_forceSet_28
  refine rr_ior (q := 29) rfl dX6_forceSet_28 ?_
  refine rr_istore_n (L2 := fun y5 => [some (.ref mb), some (.int y5), some (.int l2)]) (q := 30) rfl dX6_forceSet_29 (Nat.le_of_ble_eq_true rfl) (fun _ => rfl) (fun y5 => ?_)
  refine rr_iinc (L2 := fun y6 => [some (.ref mb), some (.int y5), some (.int y6)]) (q := 33) rfl dX6_forceSet_30 rfl rfl (Nat.le_of_ble_eq_true rfl) (fun _ => rfl) (fun y6 => ?_)
  refine rr_goto 4 dX6_forceSet_33 rfl ?_
  exact hk4 y5 y6 s
def fX6_forceSet_4b (k4 : Int32 → Int32 → SM → Option (Int32 × SM)) (l1 : Int32) (l2 : Int32) (s : SM) : Option (Int32 × SM) :=
  (if (gM s 0 5) ≤ l2 then
  some (l1, s)
  else
  bd (fX6_isInForce l2 s) fun v3 s4 =>
  (if v3 = 0 then
  fX6_forceSet_28 k4 l2 l1 0 s4
  else
  fX6_forceSet_28 k4 l2 l1 (1 <<< (l2 &&& 31)) s4))
set_option maxRecDepth 100000 in
set_option maxHeartbeats 4000000 in
theorem e_X6_forceSet_4b {G : Cf} {x : SX} {k4 : Int32 → Int32 → SM → Option (Int32 × SM)} (hk4 : ∀ (l1 : Int32) (l2 : Int32) (s : SM), R (wfM x) inI G M_X6_forceSet 4 [some (.ref mb), some (.int l1), some (.int l2)] [] s (k4 l1 l2 s)) (l1 : Int32) (l2 : Int32) (s : SM) : R (wfM x) inI G M_X6_forceSet 4 [some (.ref mb), some (.int l1), some (.int l2)] [] s (fX6_forceSet_4b k4 l1 l2 s) := by
  unfold fX6_forceSet_4b
  refine rr_iload_n (q := 5) rfl dX6_forceSet_4 rfl ?_
  refine rr_aload_n (q := 6) rfl dX6_forceSet_5 rfl ?_
  refine rr_get (q := 9) rfl fl_X6_87 w_M rfl dX6_forceSet_6 ?_
  refine rr_icmp_ge 36 (q := 12) rfl dX6_forceSet_9 rfl (fun _ => ?_) (fun _ => ?_)
  · refine rr_iload_n (q := 37) rfl dX6_forceSet_36 rfl ?_
    exact rr_iret dX6_forceSet_37 rfl
  · refine rr_iload_n (q := 13) rfl dX6_forceSet_12 rfl ?_
    refine rr_aload_n (q := 14) rfl dX6_forceSet_13 rfl ?_
    refine rr_iload_n (q := 15) rfl dX6_forceSet_14 rfl ?_
    refine rr_cVi (q := 18) rfl V_X6_isInForce ml_X6_113 ⟨Nat.le_of_ble_eq_true rfl, Nat.le_of_ble_eq_true rfl⟩ (e_X6_isInForce l2 s) w_M rfl rfl rfl rfl (Nat.le_of_ble_eq_true rfl) dX6_forceSet_15 (fun v3 s4 => ?_)
    refine rr_if_eq 27 (q := 21) rfl dX6_forceSet_18 rfl (fun _ => ?_) (fun _ => ?_)
    · refine rr_iconst 0 (q := 28) rfl dX6_forceSet_27 rfl ?_
      refine rr_mask [true, false, true] (L' := [some (.ref mb), none, some (.int l2)]) rfl ?_
      exact e_X6_forceSet_28 hk4 l2 l1 0 s4
    · refine rr_iconst 1 (q := 22) rfl dX6_forceSet_21 rfl ?_
      refine rr_iload_n (q := 23) rfl dX6_forceSet_22 rfl ?_
      refine rr_ishl (q := 24) rfl dX6_forceSet_23 ?_
      refine rr_goto 28 dX6_forceSet_24 rfl ?_
      refine rr_mask [true, false, true] (L' := [some (.ref mb), none, some (.int l2)]) rfl ?_
      exact e_X6_forceSet_28 hk4 l2 l1 (1 <<< (l2 &&& 31)) s4
def fX6_forceSet_4 : Nat → Int32 → Int32 → SM → Option (Int32 × SM) := lp (fun _ _ _ => none) (fX6_forceSet_4b)
theorem e_X6_forceSet_4 {G : Cf} {x : SX}  (n : Nat) : ∀ (l1 : Int32) (l2 : Int32) (s : SM), R (wfM x) inI G M_X6_forceSet 4 [some (.ref mb), some (.int l1), some (.int l2)] [] s (fX6_forceSet_4 n l1 l2 s) := by
  unfold fX6_forceSet_4
  exact rr_lp (P := fun (kz : Int32 → Int32 → SM → Option (Int32 × SM)) => ∀ (l1 : Int32) (l2 : Int32) (s : SM), R (wfM x) inI G M_X6_forceSet 4 [some (.ref mb), some (.int l1), some (.int l2)] [] s (kz l1 l2 s)) (fun _ _ _ => rr_none) (fun kz hkz => fun l1 l2 s => e_X6_forceSet_4b hkz l1 l2 s) n
def fX6_forceSet (s : SM) : Option (Int32 × SM) :=
  vl 0 fun y1 =>
  vl 0 fun y2 =>
  fX6_forceSet_4 400 y1 y2 s
set_option maxRecDepth 100000 in
set_option maxHeartbeats 4000000 in
theorem e_X6_forceSet {G : Cf} {x : SX} (s : SM) : Ct (wfM x) inI G M_X6_forceSet [.ref mb] s (fX6_forceSet s) := by
  refine Ct.of (L0 := [some (.ref mb), none, none]) 2 rfl rfl ⟨rfl, rfl⟩ (Nat.le_of_ble_eq_true rfl) rfl ?_
  unfold fX6_forceSet
  refine rr_iconst 0 (q := 1) rfl dX6_forceSet_0 rfl ?_
  refine rr_istore_n (L2 := fun y1 => [some (.ref mb), some (.int y1), none]) (q := 2) rfl dX6_forceSet_1 (Nat.le_of_ble_eq_true rfl) (fun _ => rfl) (fun y1 => ?_)
  refine rr_iconst 0 (q := 3) rfl dX6_forceSet_2 rfl ?_
  refine rr_istore_n (L2 := fun y2 => [some (.ref mb), some (.int y1), some (.int y2)]) (q := 4) rfl dX6_forceSet_3 (Nat.le_of_ble_eq_true rfl) (fun _ => rfl) (fun y2 => ?_)
  exact e_X6_forceSet_4 400 y1 y2 s
def fX6_held_53 (k5 : Int32 → Int32 → Int32 → Int32 → SM → Option (Int32 × SM)) (l1 : Int32) (l2 : Int32) (l4 : Int32) (t0 : Int32) (t1 : Int32) (s : SM) : Option (Int32 × SM) :=
  vl (t0 ||| t1) fun y8 =>
  vl (l4 + 1) fun y9 =>
  k5 l1 l2 y8 y9 s
set_option maxRecDepth 100000 in
set_option maxHeartbeats 4000000 in
theorem e_X6_held_53 {G : Cf} {x : SX} {k5 : Int32 → Int32 → Int32 → Int32 → SM → Option (Int32 × SM)} (hk5 : ∀ (l1 : Int32) (l2 : Int32) (l3 : Int32) (l4 : Int32) (s : SM), R (wfM x) inI G M_X6_held 5 [some (.ref mb), some (.int l1), some (.int l2), some (.int l3), some (.int l4)] [] s (k5 l1 l2 l3 l4 s)) (l1 : Int32) (l2 : Int32) (l4 : Int32) (t0 : Int32) (t1 : Int32) (s : SM) : R (wfM x) inI G M_X6_held 53 [some (.ref mb), some (.int l1), some (.int l2), none, some (.int l4)] [.int t1, .int t0] s (fX6_held_53 k5 l1 l2 l4 t0 t1 s) := by
  unfold fX6_held_53
  refine rr_ior (q := 54) rfl dX6_held_53 ?_
  refine rr_istore_n (L2 := fun y8 => [some (.ref mb), some (.int l1), some (.int l2), some (.int y8), some (.int l4)]) (q := 55) rfl dX6_held_54 (Nat.le_of_ble_eq_true rfl) (fun _ => rfl) (fun y8 => ?_)
  refine rr_iinc (L2 := fun y9 => [some (.ref mb), some (.int l1), some (.int l2), some (.int y8), some (.int y9)]) (q := 58) rfl dX6_held_55 rfl rfl (Nat.le_of_ble_eq_true rfl) (fun _ => rfl) (fun y9 => ?_)
  refine rr_goto 5 dX6_held_58 rfl ?_
  exact hk5 l1 l2 y8 y9 s
def fX6_held_52 (k5 : Int32 → Int32 → Int32 → Int32 → SM → Option (Int32 × SM)) (l1 : Int32) (l2 : Int32) (l4 : Int32) (t0 : Int32) (s : SM) : Option (Int32 × SM) :=
  fX6_held_53 k5 l1 l2 l4 t0 0 s
set_option maxRecDepth 100000 in
set_option maxHeartbeats 4000000 in
theorem e_X6_held_52 {G : Cf} {x : SX} {k5 : Int32 → Int32 → Int32 → Int32 → SM → Option (Int32 × SM)} (hk5 : ∀ (l1 : Int32) (l2 : Int32) (l3 : Int32) (l4 : Int32) (s : SM), R (wfM x) inI G M_X6_held 5 [some (.ref mb), some (.int l1), some (.int l2), some (.int l3), some (.int l4)] [] s (k5 l1 l2 l3 l4 s)) (l1 : Int32) (l2 : Int32) (l4 : Int32) (t0 : Int32) (s : SM) : R (wfM x) inI G M_X6_held 52 [some (.ref mb), some (.int l1), some (.int l2), none, some (.int l4)] [.int t0] s (fX6_held_52 k5 l1 l2 l4 t0 s) := by
  unfold fX6_held_52
  refine rr_iconst 0 (q := 53) rfl dX6_held_52 rfl ?_
  exact e_X6_held_53 hk5 l1 l2 l4 t0 0 s
def fX6_held_5b (k5 : Int32 → Int32 → Int32 → Int32 → SM → Option (Int32 × SM)) (l1 : Int32) (l2 : Int32) (l3 : Int32) (l4 : Int32) (s : SM) : Option (Int32 × SM) :=
  (if (gM s 0 1) ≤ l4 then
  some (l3, s)
  else
  bd (fX6_lives l4 s) fun v3 s4 =>
  (if v3 = 0 then
  fX6_held_52 k5 l1 l2 l4 l3 s4
  else
  ixg l4 14 fun n5 =>
  (if (gM s4 3 n5) = l2 then
  bd (fX6_holder l4 s4) fun v6 s7 =>
  (if v6 = l1 then
  fX6_held_53 k5 l1 l2 l4 l3 (1 <<< (l4 &&& 31)) s7
  else
  fX6_held_52 k5 l1 l2 l4 l3 s7)
  else
  fX6_held_52 k5 l1 l2 l4 l3 s4)))
set_option maxRecDepth 100000 in
set_option maxHeartbeats 4000000 in
theorem e_X6_held_5b {G : Cf} {x : SX} {k5 : Int32 → Int32 → Int32 → Int32 → SM → Option (Int32 × SM)} (hk5 : ∀ (l1 : Int32) (l2 : Int32) (l3 : Int32) (l4 : Int32) (s : SM), R (wfM x) inI G M_X6_held 5 [some (.ref mb), some (.int l1), some (.int l2), some (.int l3), some (.int l4)] [] s (k5 l1 l2 l3 l4 s)) (l1 : Int32) (l2 : Int32) (l3 : Int32) (l4 : Int32) (s : SM) : R (wfM x) inI G M_X6_held 5 [some (.ref mb), some (.int l1), some (.int l2), some (.int l3), some (.int l4)] [] s (fX6_held_5b k5 l1 l2 l3 l4 s) := by
  unfold fX6_held_5b
  refine rr_iload (q := 7) rfl dX6_held_5 rfl ?_
  refine rr_aload_n (q := 8) rfl dX6_held_7 rfl ?_
  refine rr_get (q := 11) rfl fl_X6_83 w_M rfl dX6_held_8 ?_
  refine rr_icmp_ge 61 (q := 14) rfl dX6_held_11 rfl (fun _ => ?_) (fun _ => ?_)
  · refine rr_iload_n (q := 62) rfl dX6_held_61 rfl ?_
    exact rr_iret dX6_held_62 rfl
  · refine rr_iload_n (q := 15) rfl dX6_held_14 rfl ?_
    refine rr_aload_n (q := 16) rfl dX6_held_15 rfl ?_
    refine rr_iload (q := 18) rfl dX6_held_16 rfl ?_
    refine rr_cVi (q := 21) rfl V_X6_lives ml_X6_97 ⟨Nat.le_of_ble_eq_true rfl, Nat.le_of_ble_eq_true rfl⟩ (e_X6_lives l4 s) w_M rfl rfl rfl rfl (Nat.le_of_ble_eq_true rfl) dX6_held_18 (fun v3 s4 => ?_)
    refine rr_if_eq 52 (q := 24) rfl dX6_held_21 rfl (fun _ => ?_) (fun _ => ?_)
    · refine rr_mask [true, true, true, false, true] (L' := [some (.ref mb), some (.int l1), some (.int l2), none, some (.int l4)]) rfl ?_
      exact e_X6_held_52 hk5 l1 l2 l4 l3 s4
    · refine rr_aload_n (q := 25) rfl dX6_held_24 rfl ?_
      refine rr_get (q := 28) rfl fl_X6_16 w_M rfl dX6_held_25 ?_
      refine rr_iload (q := 30) rfl dX6_held_28 rfl ?_
      refine rr_iald (q := 31) rfl w_marr3 dX6_held_30 (fun n5 => ?_)
      refine rr_iload_n (q := 32) rfl dX6_held_31 rfl ?_
      refine rr_icmp_ne 52 (q := 35) rfl dX6_held_32 rfl (fun _ => ?_) (fun _ => ?_)
      · refine rr_mask [true, true, true, false, true] (L' := [some (.ref mb), some (.int l1), some (.int l2), none, some (.int l4)]) rfl ?_
        exact e_X6_held_52 hk5 l1 l2 l4 l3 s4
      · refine rr_aload_n (q := 36) rfl dX6_held_35 rfl ?_
        refine rr_iload (q := 38) rfl dX6_held_36 rfl ?_
        refine rr_cVi (q := 41) rfl V_X6_holder ml_X6_93 ⟨Nat.le_of_ble_eq_true rfl, Nat.le_of_ble_eq_true rfl⟩ (e_X6_holder l4 s4) w_M rfl rfl rfl rfl (Nat.le_of_ble_eq_true rfl) dX6_held_38 (fun v6 s7 => ?_)
        refine rr_iload_n (q := 42) rfl dX6_held_41 rfl ?_
        refine rr_icmp_ne 52 (q := 45) rfl dX6_held_42 rfl (fun _ => ?_) (fun _ => ?_)
        · refine rr_mask [true, true, true, false, true] (L' := [some (.ref mb), some (.int l1), some (.int l2), none, some (.int l4)]) rfl ?_
          exact e_X6_held_52 hk5 l1 l2 l4 l3 s7
        · refine rr_iconst 1 (q := 46) rfl dX6_held_45 rfl ?_
          refine rr_iload (q := 48) rfl dX6_held_46 rfl ?_
          refine rr_ishl (q := 49) rfl dX6_held_48 ?_
          refine rr_goto 53 dX6_held_49 rfl ?_
          refine rr_mask [true, true, true, false, true] (L' := [some (.ref mb), some (.int l1), some (.int l2), none, some (.int l4)]) rfl ?_
          exact e_X6_held_53 hk5 l1 l2 l4 l3 (1 <<< (l4 &&& 31)) s7
def fX6_held_5 : Nat → Int32 → Int32 → Int32 → Int32 → SM → Option (Int32 × SM) := lp (fun _ _ _ _ _ => none) (fX6_held_5b)
theorem e_X6_held_5 {G : Cf} {x : SX}  (n : Nat) : ∀ (l1 : Int32) (l2 : Int32) (l3 : Int32) (l4 : Int32) (s : SM), R (wfM x) inI G M_X6_held 5 [some (.ref mb), some (.int l1), some (.int l2), some (.int l3), some (.int l4)] [] s (fX6_held_5 n l1 l2 l3 l4 s) := by
  unfold fX6_held_5
  exact rr_lp (P := fun (kz : Int32 → Int32 → Int32 → Int32 → SM → Option (Int32 × SM)) => ∀ (l1 : Int32) (l2 : Int32) (l3 : Int32) (l4 : Int32) (s : SM), R (wfM x) inI G M_X6_held 5 [some (.ref mb), some (.int l1), some (.int l2), some (.int l3), some (.int l4)] [] s (kz l1 l2 l3 l4 s)) (fun _ _ _ _ _ => rr_none) (fun kz hkz => fun l1 l2 l3 l4 s => e_X6_held_5b hkz l1 l2 l3 l4 s) n
def fX6_held (l1 : Int32) (l2 : Int32) (s : SM) : Option (Int32 × SM) :=
  vl 0 fun y1 =>
  vl 0 fun y2 =>
  fX6_held_5 400 l1 l2 y1 y2 s
set_option maxRecDepth 100000 in
set_option maxHeartbeats 4000000 in
theorem e_X6_held {G : Cf} {x : SX} (l1 : Int32) (l2 : Int32) (s : SM) : Ct (wfM x) inI G M_X6_held [.ref mb, .int l1, .int l2] s (fX6_held l1 l2 s) := by
  refine Ct.of (L0 := [some (.ref mb), some (.int l1), some (.int l2), none, none]) 2 rfl rfl ⟨rfl, rfl⟩ (Nat.le_of_ble_eq_true rfl) rfl ?_
  unfold fX6_held
  refine rr_iconst 0 (q := 1) rfl dX6_held_0 rfl ?_
  refine rr_istore_n (L2 := fun y1 => [some (.ref mb), some (.int l1), some (.int l2), some (.int y1), none]) (q := 2) rfl dX6_held_1 (Nat.le_of_ble_eq_true rfl) (fun _ => rfl) (fun y1 => ?_)
  refine rr_iconst 0 (q := 3) rfl dX6_held_2 rfl ?_
  refine rr_istore (L2 := fun y2 => [some (.ref mb), some (.int l1), some (.int l2), some (.int y1), some (.int y2)]) (q := 5) rfl dX6_held_3 (Nat.le_of_ble_eq_true rfl) (fun _ => rfl) (fun y2 => ?_)
  exact e_X6_held_5 400 l1 l2 y1 y2 s
def fX6_deadSet_28 (k4 : Int32 → Int32 → SM → Option (Int32 × SM)) (l2 : Int32) (t0 : Int32) (t1 : Int32) (s : SM) : Option (Int32 × SM) :=
  vl (t0 ||| t1) fun y5 =>
  vl (l2 + 1) fun y6 =>
  k4 y5 y6 s
set_option maxRecDepth 100000 in
set_option maxHeartbeats 4000000 in
theorem e_X6_deadSet_28 {G : Cf} {x : SX} {k4 : Int32 → Int32 → SM → Option (Int32 × SM)} (hk4 : ∀ (l1 : Int32) (l2 : Int32) (s : SM), R (wfM x) inI G M_X6_deadSet 4 [some (.ref mb), some (.int l1), some (.int l2)] [] s (k4 l1 l2 s)) (l2 : Int32) (t0 : Int32) (t1 : Int32) (s : SM) : R (wfM x) inI G M_X6_deadSet 28 [some (.ref mb), none, some (.int l2)] [.int t1, .int t0] s (fX6_deadSet_28 k4 l2 t0 t1 s) := by
  unfold fX6_deadSet_28
  refine rr_ior (q := 29) rfl dX6_deadSet_28 ?_
  refine rr_istore_n (L2 := fun y5 => [some (.ref mb), some (.int y5), some (.int l2)]) (q := 30) rfl dX6_deadSet_29 (Nat.le_of_ble_eq_true rfl) (fun _ => rfl) (fun y5 => ?_)
  refine rr_iinc (L2 := fun y6 => [some (.ref mb), some (.int y5), some (.int y6)]) (q := 33) rfl dX6_deadSet_30 rfl rfl (Nat.le_of_ble_eq_true rfl) (fun _ => rfl) (fun y6 => ?_)
  refine rr_goto 4 dX6_deadSet_33 rfl ?_
  exact hk4 y5 y6 s
def fX6_deadSet_4b (k4 : Int32 → Int32 → SM → Option (Int32 × SM)) (l1 : Int32) (l2 : Int32) (s : SM) : Option (Int32 × SM) :=
  (if (gM s 0 1) ≤ l2 then
  some (l1, s)
  else
  bd (fX6_lives l2 s) fun v3 s4 =>
  (if v3 = 0 then
  fX6_deadSet_28 k4 l2 l1 (1 <<< (l2 &&& 31)) s4
  else
  fX6_deadSet_28 k4 l2 l1 0 s4))
set_option maxRecDepth 100000 in
set_option maxHeartbeats 4000000 in
theorem e_X6_deadSet_4b {G : Cf} {x : SX} {k4 : Int32 → Int32 → SM → Option (Int32 × SM)} (hk4 : ∀ (l1 : Int32) (l2 : Int32) (s : SM), R (wfM x) inI G M_X6_deadSet 4 [some (.ref mb), some (.int l1), some (.int l2)] [] s (k4 l1 l2 s)) (l1 : Int32) (l2 : Int32) (s : SM) : R (wfM x) inI G M_X6_deadSet 4 [some (.ref mb), some (.int l1), some (.int l2)] [] s (fX6_deadSet_4b k4 l1 l2 s) := by
  unfold fX6_deadSet_4b
  refine rr_iload_n (q := 5) rfl dX6_deadSet_4 rfl ?_
  refine rr_aload_n (q := 6) rfl dX6_deadSet_5 rfl ?_
  refine rr_get (q := 9) rfl fl_X6_83 w_M rfl dX6_deadSet_6 ?_
  refine rr_icmp_ge 36 (q := 12) rfl dX6_deadSet_9 rfl (fun _ => ?_) (fun _ => ?_)
  · refine rr_iload_n (q := 37) rfl dX6_deadSet_36 rfl ?_
    exact rr_iret dX6_deadSet_37 rfl
  · refine rr_iload_n (q := 13) rfl dX6_deadSet_12 rfl ?_
    refine rr_aload_n (q := 14) rfl dX6_deadSet_13 rfl ?_
    refine rr_iload_n (q := 15) rfl dX6_deadSet_14 rfl ?_
    refine rr_cVi (q := 18) rfl V_X6_lives ml_X6_97 ⟨Nat.le_of_ble_eq_true rfl, Nat.le_of_ble_eq_true rfl⟩ (e_X6_lives l2 s) w_M rfl rfl rfl rfl (Nat.le_of_ble_eq_true rfl) dX6_deadSet_15 (fun v3 s4 => ?_)
    refine rr_if_eq 25 (q := 21) rfl dX6_deadSet_18 rfl (fun _ => ?_) (fun _ => ?_)
    · refine rr_iconst 1 (q := 26) rfl dX6_deadSet_25 rfl ?_
      refine rr_iload_n (q := 27) rfl dX6_deadSet_26 rfl ?_
      refine rr_ishl (q := 28) rfl dX6_deadSet_27 ?_
      refine rr_mask [true, false, true] (L' := [some (.ref mb), none, some (.int l2)]) rfl ?_
      exact e_X6_deadSet_28 hk4 l2 l1 (1 <<< (l2 &&& 31)) s4
    · refine rr_iconst 0 (q := 22) rfl dX6_deadSet_21 rfl ?_
      refine rr_goto 28 dX6_deadSet_22 rfl ?_
      refine rr_mask [true, false, true] (L' := [some (.ref mb), none, some (.int l2)]) rfl ?_
      exact e_X6_deadSet_28 hk4 l2 l1 0 s4
def fX6_deadSet_4 : Nat → Int32 → Int32 → SM → Option (Int32 × SM) := lp (fun _ _ _ => none) (fX6_deadSet_4b)
theorem e_X6_deadSet_4 {G : Cf} {x : SX}  (n : Nat) : ∀ (l1 : Int32) (l2 : Int32) (s : SM), R (wfM x) inI G M_X6_deadSet 4 [some (.ref mb), some (.int l1), some (.int l2)] [] s (fX6_deadSet_4 n l1 l2 s) := by
  unfold fX6_deadSet_4
  exact rr_lp (P := fun (kz : Int32 → Int32 → SM → Option (Int32 × SM)) => ∀ (l1 : Int32) (l2 : Int32) (s : SM), R (wfM x) inI G M_X6_deadSet 4 [some (.ref mb), some (.int l1), some (.int l2)] [] s (kz l1 l2 s)) (fun _ _ _ => rr_none) (fun kz hkz => fun l1 l2 s => e_X6_deadSet_4b hkz l1 l2 s) n
def fX6_deadSet (s : SM) : Option (Int32 × SM) :=
  vl 0 fun y1 =>
  vl 0 fun y2 =>
  fX6_deadSet_4 400 y1 y2 s
set_option maxRecDepth 100000 in
set_option maxHeartbeats 4000000 in
theorem e_X6_deadSet {G : Cf} {x : SX} (s : SM) : Ct (wfM x) inI G M_X6_deadSet [.ref mb] s (fX6_deadSet s) := by
  refine Ct.of (L0 := [some (.ref mb), none, none]) 2 rfl rfl ⟨rfl, rfl⟩ (Nat.le_of_ble_eq_true rfl) rfl ?_
  unfold fX6_deadSet
  refine rr_iconst 0 (q := 1) rfl dX6_deadSet_0 rfl ?_
  refine rr_istore_n (L2 := fun y1 => [some (.ref mb), some (.int y1), none]) (q := 2) rfl dX6_deadSet_1 (Nat.le_of_ble_eq_true rfl) (fun _ => rfl) (fun y1 => ?_)
  refine rr_iconst 0 (q := 3) rfl dX6_deadSet_2 rfl ?_
  refine rr_istore_n (L2 := fun y2 => [some (.ref mb), some (.int y1), some (.int y2)]) (q := 4) rfl dX6_deadSet_3 (Nat.le_of_ble_eq_true rfl) (fun _ => rfl) (fun y2 => ?_)
  exact e_X6_deadSet_4 400 y1 y2 s
def fX6_fear (l1 : Int32) (l2 : Int32) (s : SM) : Option (Int32 × SM) :=
  bd (fX6_isKing l1 s) fun v1 s2 =>
  (if v1 = 0 then
  bd (fX6_finds (-1000000001) s2) fun v3 s4 =>
  some (v3, s4)
  else
  bd (fX6_isTold l2 s2) fun v5 s6 =>
  (if v5 = 0 then
  bd (fX6_finds (-1000000001) s6) fun v11 s12 =>
  some (v11, s12)
  else
  ixg l1 6 fun n7 =>
  vl (gM s6 1 n7) fun y8 =>
  ixg l1 6 fun n9 => vl (wM s6 1 n9 l2) fun s10 =>
  some (y8, s10)))
set_option maxRecDepth 100000 in
set_option maxHeartbeats 4000000 in
theorem e_X6_fear {G : Cf} {x : SX} (l1 : Int32) (l2 : Int32) (s : SM) : Ct (wfM x) inI G M_X6_fear [.ref mb, .int l1, .int l2] s (fX6_fear l1 l2 s) := by
  refine Ct.of (L0 := [some (.ref mb), some (.int l1), some (.int l2), none]) 1 rfl rfl ⟨rfl, rfl⟩ (Nat.le_of_ble_eq_true rfl) rfl ?_
  unfold fX6_fear
  refine rr_iload_n (q := 1) rfl dX6_fear_0 rfl ?_
  refine rr_cSi (q := 4) rfl V_X6_isKing ml_X6_119 ⟨Nat.le_of_ble_eq_true rfl, Nat.le_of_ble_eq_true rfl⟩ (e_X6_isKing l1 s) rfl rfl (Nat.le_of_ble_eq_true rfl) dX6_fear_1 (fun v1 s2 => ?_)
  refine rr_if_eq 14 (q := 7) rfl dX6_fear_4 rfl (fun _ => ?_) (fun _ => ?_)
  · refine rr_aload_n (q := 15) rfl dX6_fear_14 rfl ?_
    refine rr_ldc (q := 17) rfl dX6_fear_15 kc_X6_78 ?_
    refine rr_cVi (q := 20) rfl V_X6_finds ml_X6_125 ⟨Nat.le_of_ble_eq_true rfl, Nat.le_of_ble_eq_true rfl⟩ (e_X6_finds (-1000000001) s2) w_M rfl rfl rfl rfl (Nat.le_of_ble_eq_true rfl) dX6_fear_17 (fun v3 s4 => ?_)
    exact rr_iret dX6_fear_20 rfl
  · refine rr_iload_n (q := 8) rfl dX6_fear_7 rfl ?_
    refine rr_cSi (q := 11) rfl V_X6_isTold ml_X6_122 ⟨Nat.le_of_ble_eq_true rfl, Nat.le_of_ble_eq_true rfl⟩ (e_X6_isTold l2 s2) rfl rfl (Nat.le_of_ble_eq_true rfl) dX6_fear_8 (fun v5 s6 => ?_)
    refine rr_if_ne 21 (q := 14) rfl dX6_fear_11 rfl (fun _ => ?_) (fun _ => ?_)
    · refine rr_aload_n (q := 22) rfl dX6_fear_21 rfl ?_
      refine rr_get (q := 25) rfl fl_X6_7 w_M rfl dX6_fear_22 ?_
      refine rr_iload_n (q := 26) rfl dX6_fear_25 rfl ?_
      refine rr_iald (q := 27) rfl w_marr1 dX6_fear_26 (fun n7 => ?_)
      refine rr_istore_n (L2 := fun y8 => [some (.ref mb), some (.int l1), some (.int l2), some (.int y8)]) (q := 28) rfl dX6_fear_27 (Nat.le_of_ble_eq_true rfl) (fun _ => rfl) (fun y8 => ?_)
      refine rr_aload_n (q := 29) rfl dX6_fear_28 rfl ?_
      refine rr_get (q := 32) rfl fl_X6_7 w_M rfl dX6_fear_29 ?_
      refine rr_iload_n (q := 33) rfl dX6_fear_32 rfl ?_
      refine rr_iload_n (q := 34) rfl dX6_fear_33 rfl ?_
      refine rr_iast (q := 35) rfl w_marr1 (fun _ => u_marr1) dX6_fear_34 (fun n9 s10 => ?_)
      refine rr_iload_n (q := 36) rfl dX6_fear_35 rfl ?_
      exact rr_iret dX6_fear_36 rfl
    · refine rr_aload_n (q := 15) rfl dX6_fear_14 rfl ?_
      refine rr_ldc (q := 17) rfl dX6_fear_15 kc_X6_78 ?_
      refine rr_cVi (q := 20) rfl V_X6_finds ml_X6_125 ⟨Nat.le_of_ble_eq_true rfl, Nat.le_of_ble_eq_true rfl⟩ (e_X6_finds (-1000000001) s6) w_M rfl rfl rfl rfl (Nat.le_of_ble_eq_true rfl) dX6_fear_17 (fun v11 s12 => ?_)
      exact rr_iret dX6_fear_20 rfl
def fX6_kingOf_100 (k62 : Int32 → Int32 → Int32 → SM → Option (Int32 × SM)) (l1 : Int32) (l4 : Int32) (t0 : Int32) (t1 : Int32) (s : SM) : Option (Int32 × SM) :=
  vl (t0 ||| t1) fun y23 =>
  vl (l4 + 1) fun y24 =>
  k62 l1 y23 y24 s
set_option maxRecDepth 100000 in
set_option maxHeartbeats 4000000 in
theorem e_X6_kingOf_100 {G : Cf} {x : SX} {k62 : Int32 → Int32 → Int32 → SM → Option (Int32 × SM)} (hk62 : ∀ (l1 : Int32) (l3 : Int32) (l4 : Int32) (s : SM), R (wfM x) inI G M_X6_kingOf 62 [some (.ref mb), some (.int l1), none, some (.int l3), some (.int l4), none] [] s (k62 l1 l3 l4 s)) (l1 : Int32) (l4 : Int32) (t0 : Int32) (t1 : Int32) (s : SM) : R (wfM x) inI G M_X6_kingOf 100 [some (.ref mb), some (.int l1), none, none, some (.int l4), none] [.int t1, .int t0] s (fX6_kingOf_100 k62 l1 l4 t0 t1 s) := by
  unfold fX6_kingOf_100
  refine rr_ior (q := 101) rfl dX6_kingOf_100 ?_
  refine rr_istore_n (L2 := fun y23 => [some (.ref mb), some (.int l1), none, some (.int y23), some (.int l4), none]) (q := 102) rfl dX6_kingOf_101 (Nat.le_of_ble_eq_true rfl) (fun _ => rfl) (fun y23 => ?_)
  refine rr_iinc (L2 := fun y24 => [some (.ref mb), some (.int l1), none, some (.int y23), some (.int y24), none]) (q := 105) rfl dX6_kingOf_102 rfl rfl (Nat.le_of_ble_eq_true rfl) (fun _ => rfl) (fun y24 => ?_)
  refine rr_goto 62 dX6_kingOf_105 rfl ?_
  exact hk62 l1 y23 y24 s
def fX6_kingOf_99 (k62 : Int32 → Int32 → Int32 → SM → Option (Int32 × SM)) (l1 : Int32) (l4 : Int32) (t0 : Int32) (s : SM) : Option (Int32 × SM) :=
  fX6_kingOf_100 k62 l1 l4 t0 0 s
set_option maxRecDepth 100000 in
set_option maxHeartbeats 4000000 in
theorem e_X6_kingOf_99 {G : Cf} {x : SX} {k62 : Int32 → Int32 → Int32 → SM → Option (Int32 × SM)} (hk62 : ∀ (l1 : Int32) (l3 : Int32) (l4 : Int32) (s : SM), R (wfM x) inI G M_X6_kingOf 62 [some (.ref mb), some (.int l1), none, some (.int l3), some (.int l4), none] [] s (k62 l1 l3 l4 s)) (l1 : Int32) (l4 : Int32) (t0 : Int32) (s : SM) : R (wfM x) inI G M_X6_kingOf 99 [some (.ref mb), some (.int l1), none, none, some (.int l4), none] [.int t0] s (fX6_kingOf_99 k62 l1 l4 t0 s) := by
  unfold fX6_kingOf_99
  refine rr_iconst 0 (q := 100) rfl dX6_kingOf_99 rfl ?_
  exact e_X6_kingOf_100 hk62 l1 l4 t0 0 s
def fX6_kingOf_62b (k62 : Int32 → Int32 → Int32 → SM → Option (Int32 × SM)) (l1 : Int32) (l3 : Int32) (l4 : Int32) (s : SM) : Option (Int32 × SM) :=
  (if (gM s 0 5) ≤ l4 then
  some (l3, s)
  else
  ixg l4 12 fun n15 =>
  (if (gM s 5 n15) = l1 then
  bd (fX6_isInForce l4 s) fun v16 s17 =>
  (if v16 = 0 then
  fX6_kingOf_99 k62 l1 l4 l3 s17
  else
  fX6_kingOf_100 k62 l1 l4 l3 (1 <<< (l4 &&& 31)) s17)
  else
  fX6_kingOf_99 k62 l1 l4 l3 s))
set_option maxRecDepth 100000 in
set_option maxHeartbeats 4000000 in
theorem e_X6_kingOf_62b {G : Cf} {x : SX} {k62 : Int32 → Int32 → Int32 → SM → Option (Int32 × SM)} (hk62 : ∀ (l1 : Int32) (l3 : Int32) (l4 : Int32) (s : SM), R (wfM x) inI G M_X6_kingOf 62 [some (.ref mb), some (.int l1), none, some (.int l3), some (.int l4), none] [] s (k62 l1 l3 l4 s)) (l1 : Int32) (l3 : Int32) (l4 : Int32) (s : SM) : R (wfM x) inI G M_X6_kingOf 62 [some (.ref mb), some (.int l1), none, some (.int l3), some (.int l4), none] [] s (fX6_kingOf_62b k62 l1 l3 l4 s) := by
  unfold fX6_kingOf_62b
  refine rr_iload (q := 64) rfl dX6_kingOf_62 rfl ?_
  refine rr_aload_n (q := 65) rfl dX6_kingOf_64 rfl ?_
  refine rr_get (q := 68) rfl fl_X6_87 w_M rfl dX6_kingOf_65 ?_
  refine rr_icmp_ge 108 (q := 71) rfl dX6_kingOf_68 rfl (fun _ => ?_) (fun _ => ?_)
  · refine rr_iload_n (q := 109) rfl dX6_kingOf_108 rfl ?_
    exact rr_iret dX6_kingOf_109 rfl
  · refine rr_iload_n (q := 72) rfl dX6_kingOf_71 rfl ?_
    refine rr_aload_n (q := 73) rfl dX6_kingOf_72 rfl ?_
    refine rr_get (q := 76) rfl fl_X6_22 w_M rfl dX6_kingOf_73 ?_
    refine rr_iload (q := 78) rfl dX6_kingOf_76 rfl ?_
    refine rr_iald (q := 79) rfl w_marr5 dX6_kingOf_78 (fun n15 => ?_)
    refine rr_iload_n (q := 80) rfl dX6_kingOf_79 rfl ?_
    refine rr_icmp_ne 99 (q := 83) rfl dX6_kingOf_80 rfl (fun _ => ?_) (fun _ => ?_)
    · refine rr_mask [true, true, false, false, true, false] (L' := [some (.ref mb), some (.int l1), none, none, some (.int l4), none]) rfl ?_
      exact e_X6_kingOf_99 hk62 l1 l4 l3 s
    · refine rr_aload_n (q := 84) rfl dX6_kingOf_83 rfl ?_
      refine rr_iload (q := 86) rfl dX6_kingOf_84 rfl ?_
      refine rr_cVi (q := 89) rfl V_X6_isInForce ml_X6_113 ⟨Nat.le_of_ble_eq_true rfl, Nat.le_of_ble_eq_true rfl⟩ (e_X6_isInForce l4 s) w_M rfl rfl rfl rfl (Nat.le_of_ble_eq_true rfl) dX6_kingOf_86 (fun v16 s17 => ?_)
      refine rr_if_eq 99 (q := 92) rfl dX6_kingOf_89 rfl (fun _ => ?_) (fun _ => ?_)
      · refine rr_mask [true, true, false, false, true, false] (L' := [some (.ref mb), some (.int l1), none, none, some (.int l4), none]) rfl ?_
        exact e_X6_kingOf_99 hk62 l1 l4 l3 s17
      · refine rr_iconst 1 (q := 93) rfl dX6_kingOf_92 rfl ?_
        refine rr_iload (q := 95) rfl dX6_kingOf_93 rfl ?_
        refine rr_ishl (q := 96) rfl dX6_kingOf_95 ?_
        refine rr_goto 100 dX6_kingOf_96 rfl ?_
        refine rr_mask [true, true, false, false, true, false] (L' := [some (.ref mb), some (.int l1), none, none, some (.int l4), none]) rfl ?_
        exact e_X6_kingOf_100 hk62 l1 l4 l3 (1 <<< (l4 &&& 31)) s17
def fX6_kingOf_62 : Nat → Int32 → Int32 → Int32 → SM → Option (Int32 × SM) := lp (fun _ _ _ _ => none) (fX6_kingOf_62b)
theorem e_X6_kingOf_62 {G : Cf} {x : SX}  (n : Nat) : ∀ (l1 : Int32) (l3 : Int32) (l4 : Int32) (s : SM), R (wfM x) inI G M_X6_kingOf 62 [some (.ref mb), some (.int l1), none, some (.int l3), some (.int l4), none] [] s (fX6_kingOf_62 n l1 l3 l4 s) := by
  unfold fX6_kingOf_62
  exact rr_lp (P := fun (kz : Int32 → Int32 → Int32 → SM → Option (Int32 × SM)) => ∀ (l1 : Int32) (l3 : Int32) (l4 : Int32) (s : SM), R (wfM x) inI G M_X6_kingOf 62 [some (.ref mb), some (.int l1), none, some (.int l3), some (.int l4), none] [] s (kz l1 l3 l4 s)) (fun _ _ _ _ => rr_none) (fun kz hkz => fun l1 l3 l4 s => e_X6_kingOf_62b hkz l1 l3 l4 s) n
def fX6_kingOf_195 (k113 : Int32 → Int32 → Int32 → Int32 → SM → Option (Int32 × SM)) (l1 : Int32) (l2 : Int32) (l4 : Int32) (t0 : Int32) (t1 : Int32) (s : SM) : Option (Int32 × SM) :=
  vl (t0 ||| t1) fun y28 =>
  vl (l4 + 1) fun y29 =>
  k113 l1 l2 y28 y29 s
set_option maxRecDepth 100000 in
set_option maxHeartbeats 4000000 in
theorem e_X6_kingOf_195 {G : Cf} {x : SX} {k113 : Int32 → Int32 → Int32 → Int32 → SM → Option (Int32 × SM)} (hk113 : ∀ (l1 : Int32) (l2 : Int32) (l3 : Int32) (l4 : Int32) (s : SM), R (wfM x) inI G M_X6_kingOf 113 [some (.ref mb), some (.int l1), some (.int l2), some (.int l3), some (.int l4), none] [] s (k113 l1 l2 l3 l4 s)) (l1 : Int32) (l2 : Int32) (l4 : Int32) (t0 : Int32) (t1 : Int32) (s : SM) : R (wfM x) inI G M_X6_kingOf 195 [some (.ref mb), some (.int l1), some (.int l2), none, some (.int l4), none] [.int t1, .int t0] s (fX6_kingOf_195 k113 l1 l2 l4 t0 t1 s) := by
  unfold fX6_kingOf_195
  refine rr_ior (q := 196) rfl dX6_kingOf_195 ?_
  refine rr_istore_n (L2 := fun y28 => [some (.ref mb), some (.int l1), some (.int l2), some (.int y28), some (.int l4), none]) (q := 197) rfl dX6_kingOf_196 (Nat.le_of_ble_eq_true rfl) (fun _ => rfl) (fun y28 => ?_)
  refine rr_iinc (L2 := fun y29 => [some (.ref mb), some (.int l1), some (.int l2), some (.int y28), some (.int y29), none]) (q := 200) rfl dX6_kingOf_197 rfl rfl (Nat.le_of_ble_eq_true rfl) (fun _ => rfl) (fun y29 => ?_)
  refine rr_goto 113 dX6_kingOf_200 rfl ?_
  exact hk113 l1 l2 y28 y29 s
def fX6_kingOf_194 (k113 : Int32 → Int32 → Int32 → Int32 → SM → Option (Int32 × SM)) (l1 : Int32) (l2 : Int32) (l4 : Int32) (t0 : Int32) (s : SM) : Option (Int32 × SM) :=
  fX6_kingOf_195 k113 l1 l2 l4 t0 0 s
set_option maxRecDepth 100000 in
set_option maxHeartbeats 4000000 in
theorem e_X6_kingOf_194 {G : Cf} {x : SX} {k113 : Int32 → Int32 → Int32 → Int32 → SM → Option (Int32 × SM)} (hk113 : ∀ (l1 : Int32) (l2 : Int32) (l3 : Int32) (l4 : Int32) (s : SM), R (wfM x) inI G M_X6_kingOf 113 [some (.ref mb), some (.int l1), some (.int l2), some (.int l3), some (.int l4), none] [] s (k113 l1 l2 l3 l4 s)) (l1 : Int32) (l2 : Int32) (l4 : Int32) (t0 : Int32) (s : SM) : R (wfM x) inI G M_X6_kingOf 194 [some (.ref mb), some (.int l1), some (.int l2), none, some (.int l4), none] [.int t0] s (fX6_kingOf_194 k113 l1 l2 l4 t0 s) := by
  unfold fX6_kingOf_194
  refine rr_iconst 0 (q := 195) rfl dX6_kingOf_194 rfl ?_
  exact e_X6_kingOf_195 hk113 l1 l2 l4 t0 0 s
def fX6_kingOf_170 (k113 : Int32 → Int32 → Int32 → Int32 → SM → Option (Int32 × SM)) (l1 : Int32) (l2 : Int32) (l3 : Int32) (l4 : Int32) (t0 : Int32) (s : SM) : Option (Int32 × SM) :=
  vl t0 fun y25 =>
  (if y25 = 0 then
  fX6_kingOf_194 k113 l1 l2 l4 l3 s
  else
  bd (fX6_lives l4 s) fun v26 s27 =>
  (if v26 = 0 then
  fX6_kingOf_194 k113 l1 l2 l4 l3 s27
  else
  fX6_kingOf_195 k113 l1 l2 l4 l3 (1 <<< (l4 &&& 31)) s27))
set_option maxRecDepth 100000 in
set_option maxHeartbeats 4000000 in
theorem e_X6_kingOf_170 {G : Cf} {x : SX} {k113 : Int32 → Int32 → Int32 → Int32 → SM → Option (Int32 × SM)} (hk113 : ∀ (l1 : Int32) (l2 : Int32) (l3 : Int32) (l4 : Int32) (s : SM), R (wfM x) inI G M_X6_kingOf 113 [some (.ref mb), some (.int l1), some (.int l2), some (.int l3), some (.int l4), none] [] s (k113 l1 l2 l3 l4 s)) (l1 : Int32) (l2 : Int32) (l3 : Int32) (l4 : Int32) (t0 : Int32) (s : SM) : R (wfM x) inI G M_X6_kingOf 170 [some (.ref mb), some (.int l1), some (.int l2), some (.int l3), some (.int l4), none] [.int t0] s (fX6_kingOf_170 k113 l1 l2 l3 l4 t0 s) := by
  unfold fX6_kingOf_170
  refine rr_istore (L2 := fun y25 => [some (.ref mb), some (.int l1), some (.int l2), some (.int l3), some (.int l4), some (.int y25)]) (q := 172) rfl dX6_kingOf_170 (Nat.le_of_ble_eq_true rfl) (fun _ => rfl) (fun y25 => ?_)
  refine rr_iload_n (q := 173) rfl dX6_kingOf_172 rfl ?_
  refine rr_iload (q := 175) rfl dX6_kingOf_173 rfl ?_
  refine rr_if_eq 194 (q := 178) rfl dX6_kingOf_175 rfl (fun _ => ?_) (fun _ => ?_)
  · refine rr_mask [true, true, true, false, true, false] (L' := [some (.ref mb), some (.int l1), some (.int l2), none, some (.int l4), none]) rfl ?_
    exact e_X6_kingOf_194 hk113 l1 l2 l4 l3 s
  · refine rr_aload_n (q := 179) rfl dX6_kingOf_178 rfl ?_
    refine rr_iload (q := 181) rfl dX6_kingOf_179 rfl ?_
    refine rr_cVi (q := 184) rfl V_X6_lives ml_X6_97 ⟨Nat.le_of_ble_eq_true rfl, Nat.le_of_ble_eq_true rfl⟩ (e_X6_lives l4 s) w_M rfl rfl rfl rfl (Nat.le_of_ble_eq_true rfl) dX6_kingOf_181 (fun v26 s27 => ?_)
    refine rr_if_eq 194 (q := 187) rfl dX6_kingOf_184 rfl (fun _ => ?_) (fun _ => ?_)
    · refine rr_mask [true, true, true, false, true, false] (L' := [some (.ref mb), some (.int l1), some (.int l2), none, some (.int l4), none]) rfl ?_
      exact e_X6_kingOf_194 hk113 l1 l2 l4 l3 s27
    · refine rr_iconst 1 (q := 188) rfl dX6_kingOf_187 rfl ?_
      refine rr_iload (q := 190) rfl dX6_kingOf_188 rfl ?_
      refine rr_ishl (q := 191) rfl dX6_kingOf_190 ?_
      refine rr_goto 195 dX6_kingOf_191 rfl ?_
      refine rr_mask [true, true, true, false, true, false] (L' := [some (.ref mb), some (.int l1), some (.int l2), none, some (.int l4), none]) rfl ?_
      exact e_X6_kingOf_195 hk113 l1 l2 l4 l3 (1 <<< (l4 &&& 31)) s27
def fX6_kingOf_169 (k113 : Int32 → Int32 → Int32 → Int32 → SM → Option (Int32 × SM)) (l1 : Int32) (l2 : Int32) (l3 : Int32) (l4 : Int32) (s : SM) : Option (Int32 × SM) :=
  fX6_kingOf_170 k113 l1 l2 l3 l4 0 s
set_option maxRecDepth 100000 in
set_option maxHeartbeats 4000000 in
theorem e_X6_kingOf_169 {G : Cf} {x : SX} {k113 : Int32 → Int32 → Int32 → Int32 → SM → Option (Int32 × SM)} (hk113 : ∀ (l1 : Int32) (l2 : Int32) (l3 : Int32) (l4 : Int32) (s : SM), R (wfM x) inI G M_X6_kingOf 113 [some (.ref mb), some (.int l1), some (.int l2), some (.int l3), some (.int l4), none] [] s (k113 l1 l2 l3 l4 s)) (l1 : Int32) (l2 : Int32) (l3 : Int32) (l4 : Int32) (s : SM) : R (wfM x) inI G M_X6_kingOf 169 [some (.ref mb), some (.int l1), some (.int l2), some (.int l3), some (.int l4), none] [] s (fX6_kingOf_169 k113 l1 l2 l3 l4 s) := by
  unfold fX6_kingOf_169
  refine rr_iconst 0 (q := 170) rfl dX6_kingOf_169 rfl ?_
  exact e_X6_kingOf_170 hk113 l1 l2 l3 l4 0 s
def fX6_kingOf_113b (k113 : Int32 → Int32 → Int32 → Int32 → SM → Option (Int32 × SM)) (l1 : Int32) (l2 : Int32) (l3 : Int32) (l4 : Int32) (s : SM) : Option (Int32 × SM) :=
  (if (gM s 0 1) ≤ l4 then
  some (l3, s)
  else
  (if l2 = 1 then
  ixg l4 14 fun n22 =>
  (if (gM s 3 n22) = l1 then
  fX6_kingOf_170 k113 l1 l2 l3 l4 1 s
  else
  fX6_kingOf_170 k113 l1 l2 l3 l4 0 s)
  else
  bd (fX6_holder l4 s) fun v18 s19 =>
  (if v18 = l1 then
  bd (fX6_isHome l4 s19) fun v20 s21 =>
  (if v20 = 0 then
  fX6_kingOf_170 k113 l1 l2 l3 l4 1 s21
  else
  fX6_kingOf_169 k113 l1 l2 l3 l4 s21)
  else
  fX6_kingOf_169 k113 l1 l2 l3 l4 s19)))
set_option maxRecDepth 100000 in
set_option maxHeartbeats 4000000 in
theorem e_X6_kingOf_113b {G : Cf} {x : SX} {k113 : Int32 → Int32 → Int32 → Int32 → SM → Option (Int32 × SM)} (hk113 : ∀ (l1 : Int32) (l2 : Int32) (l3 : Int32) (l4 : Int32) (s : SM), R (wfM x) inI G M_X6_kingOf 113 [some (.ref mb), some (.int l1), some (.int l2), some (.int l3), some (.int l4), none] [] s (k113 l1 l2 l3 l4 s)) (l1 : Int32) (l2 : Int32) (l3 : Int32) (l4 : Int32) (s : SM) : R (wfM x) inI G M_X6_kingOf 113 [some (.ref mb), some (.int l1), some (.int l2), some (.int l3), some (.int l4), none] [] s (fX6_kingOf_113b k113 l1 l2 l3 l4 s) := by
  unfold fX6_kingOf_113b
  refine rr_iload (q := 115) rfl dX6_kingOf_113 rfl ?_
  refine rr_aload_n (q := 116) rfl dX6_kingOf_115 rfl ?_
  refine rr_get (q := 119) rfl fl_X6_83 w_M rfl dX6_kingOf_116 ?_
  refine rr_icmp_ge 203 (q := 122) rfl dX6_kingOf_119 rfl (fun _ => ?_) (fun _ => ?_)
  · refine rr_iload_n (q := 204) rfl dX6_kingOf_203 rfl ?_
    exact rr_iret dX6_kingOf_204 rfl
  · refine rr_iload_n (q := 123) rfl dX6_kingOf_122 rfl ?_
    refine rr_iconst 1 (q := 124) rfl dX6_kingOf_123 rfl ?_
    refine rr_icmp_ne 146 (q := 127) rfl dX6_kingOf_124 rfl (fun _ => ?_) (fun _ => ?_)
    · refine rr_aload_n (q := 147) rfl dX6_kingOf_146 rfl ?_
      refine rr_iload (q := 149) rfl dX6_kingOf_147 rfl ?_
      refine rr_cVi (q := 152) rfl V_X6_holder ml_X6_93 ⟨Nat.le_of_ble_eq_true rfl, Nat.le_of_ble_eq_true rfl⟩ (e_X6_holder l4 s) w_M rfl rfl rfl rfl (Nat.le_of_ble_eq_true rfl) dX6_kingOf_149 (fun v18 s19 => ?_)
      refine rr_iload_n (q := 153) rfl dX6_kingOf_152 rfl ?_
      refine rr_icmp_ne 169 (q := 156) rfl dX6_kingOf_153 rfl (fun _ => ?_) (fun _ => ?_)
      · exact e_X6_kingOf_169 hk113 l1 l2 l3 l4 s19
      · refine rr_aload_n (q := 157) rfl dX6_kingOf_156 rfl ?_
        refine rr_iload (q := 159) rfl dX6_kingOf_157 rfl ?_
        refine rr_cVi (q := 162) rfl V_X6_isHome ml_X6_101 ⟨Nat.le_of_ble_eq_true rfl, Nat.le_of_ble_eq_true rfl⟩ (e_X6_isHome l4 s19) w_M rfl rfl rfl rfl (Nat.le_of_ble_eq_true rfl) dX6_kingOf_159 (fun v20 s21 => ?_)
        refine rr_if_ne 169 (q := 165) rfl dX6_kingOf_162 rfl (fun _ => ?_) (fun _ => ?_)
        · exact e_X6_kingOf_169 hk113 l1 l2 l3 l4 s21
        · refine rr_iconst 1 (q := 166) rfl dX6_kingOf_165 rfl ?_
          refine rr_goto 170 dX6_kingOf_166 rfl ?_
          exact e_X6_kingOf_170 hk113 l1 l2 l3 l4 1 s21
    · refine rr_aload_n (q := 128) rfl dX6_kingOf_127 rfl ?_
      refine rr_get (q := 131) rfl fl_X6_16 w_M rfl dX6_kingOf_128 ?_
      refine rr_iload (q := 133) rfl dX6_kingOf_131 rfl ?_
      refine rr_iald (q := 134) rfl w_marr3 dX6_kingOf_133 (fun n22 => ?_)
      refine rr_iload_n (q := 135) rfl dX6_kingOf_134 rfl ?_
      refine rr_icmp_ne 142 (q := 138) rfl dX6_kingOf_135 rfl (fun _ => ?_) (fun _ => ?_)
      · refine rr_iconst 0 (q := 143) rfl dX6_kingOf_142 rfl ?_
        refine rr_goto 170 dX6_kingOf_143 rfl ?_
        exact e_X6_kingOf_170 hk113 l1 l2 l3 l4 0 s
      · refine rr_iconst 1 (q := 139) rfl dX6_kingOf_138 rfl ?_
        refine rr_goto 170 dX6_kingOf_139 rfl ?_
        exact e_X6_kingOf_170 hk113 l1 l2 l3 l4 1 s
def fX6_kingOf_113 : Nat → Int32 → Int32 → Int32 → Int32 → SM → Option (Int32 × SM) := lp (fun _ _ _ _ _ => none) (fX6_kingOf_113b)
theorem e_X6_kingOf_113 {G : Cf} {x : SX}  (n : Nat) : ∀ (l1 : Int32) (l2 : Int32) (l3 : Int32) (l4 : Int32) (s : SM), R (wfM x) inI G M_X6_kingOf 113 [some (.ref mb), some (.int l1), some (.int l2), some (.int l3), some (.int l4), none] [] s (fX6_kingOf_113 n l1 l2 l3 l4 s) := by
  unfold fX6_kingOf_113
  exact rr_lp (P := fun (kz : Int32 → Int32 → Int32 → Int32 → SM → Option (Int32 × SM)) => ∀ (l1 : Int32) (l2 : Int32) (l3 : Int32) (l4 : Int32) (s : SM), R (wfM x) inI G M_X6_kingOf 113 [some (.ref mb), some (.int l1), some (.int l2), some (.int l3), some (.int l4), none] [] s (kz l1 l2 l3 l4 s)) (fun _ _ _ _ _ => rr_none) (fun kz hkz => fun l1 l2 l3 l4 s => e_X6_kingOf_113b hkz l1 l2 l3 l4 s) n
def fX6_kingOf (l1 : Int32) (l2 : Int32) (s : SM) : Option (Int32 × SM) :=
  bd (fX6_isKing l1 s) fun v1 s2 =>
  (if v1 = 0 then
  bd (fX6_finds (-1000000001) s2) fun v3 s4 =>
  some (v3, s4)
  else
  bd (fX6_in l2 0 3 s2) fun v5 s6 =>
  (if v5 = 0 then
  bd (fX6_finds (-1000000001) s6) fun v13 s14 =>
  some (v13, s14)
  else
  vl 0 fun y7 =>
  (if l2 = 0 then
  ixg l1 6 fun n8 =>
  some (gM s6 1 n8, s6)
  else
  (if l2 = 3 then
  vl 0 fun y10 =>
  fX6_kingOf_62 400 l1 y7 y10 s6
  else
  vl 0 fun y12 =>
  fX6_kingOf_113 400 l1 l2 y7 y12 s6))))
set_option maxRecDepth 100000 in
set_option maxHeartbeats 4000000 in
theorem e_X6_kingOf {G : Cf} {x : SX} (l1 : Int32) (l2 : Int32) (s : SM) : Ct (wfM x) inI G M_X6_kingOf [.ref mb, .int l1, .int l2] s (fX6_kingOf l1 l2 s) := by
  refine Ct.of (L0 := [some (.ref mb), some (.int l1), some (.int l2), none, none, none]) 3 rfl rfl ⟨rfl, rfl⟩ (Nat.le_of_ble_eq_true rfl) rfl ?_
  unfold fX6_kingOf
  refine rr_iload_n (q := 1) rfl dX6_kingOf_0 rfl ?_
  refine rr_cSi (q := 4) rfl V_X6_isKing ml_X6_119 ⟨Nat.le_of_ble_eq_true rfl, Nat.le_of_ble_eq_true rfl⟩ (e_X6_isKing l1 s) rfl rfl (Nat.le_of_ble_eq_true rfl) dX6_kingOf_1 (fun v1 s2 => ?_)
  refine rr_if_eq 16 (q := 7) rfl dX6_kingOf_4 rfl (fun _ => ?_) (fun _ => ?_)
  · refine rr_aload_n (q := 17) rfl dX6_kingOf_16 rfl ?_
    refine rr_ldc (q := 19) rfl dX6_kingOf_17 kc_X6_78 ?_
    refine rr_cVi (q := 22) rfl V_X6_finds ml_X6_125 ⟨Nat.le_of_ble_eq_true rfl, Nat.le_of_ble_eq_true rfl⟩ (e_X6_finds (-1000000001) s2) w_M rfl rfl rfl rfl (Nat.le_of_ble_eq_true rfl) dX6_kingOf_19 (fun v3 s4 => ?_)
    exact rr_iret dX6_kingOf_22 rfl
  · refine rr_iload_n (q := 8) rfl dX6_kingOf_7 rfl ?_
    refine rr_iconst 0 (q := 9) rfl dX6_kingOf_8 rfl ?_
    refine rr_iconst 3 (q := 10) rfl dX6_kingOf_9 rfl ?_
    refine rr_cSi (q := 13) rfl V_X6_in ml_X6_79 ⟨Nat.le_of_ble_eq_true rfl, Nat.le_of_ble_eq_true rfl⟩ (e_X6_in l2 0 3 s2) rfl rfl (Nat.le_of_ble_eq_true rfl) dX6_kingOf_10 (fun v5 s6 => ?_)
    refine rr_if_ne 23 (q := 16) rfl dX6_kingOf_13 rfl (fun _ => ?_) (fun _ => ?_)
    · refine rr_iconst 0 (q := 24) rfl dX6_kingOf_23 rfl ?_
      refine rr_istore_n (L2 := fun y7 => [some (.ref mb), some (.int l1), some (.int l2), some (.int y7), none, none]) (q := 25) rfl dX6_kingOf_24 (Nat.le_of_ble_eq_true rfl) (fun _ => rfl) (fun y7 => ?_)
      refine rr_iload_n (q := 26) rfl dX6_kingOf_25 rfl ?_
      refine rr_case 0 ?_ (fun hs9 => ?_)
      · refine rr_lookup 52 dX6_kingOf_26 (by decide) rfl rfl ?_
        refine rr_aload_n (q := 53) rfl dX6_kingOf_52 rfl ?_
        refine rr_get (q := 56) rfl fl_X6_7 w_M rfl dX6_kingOf_53 ?_
        refine rr_iload_n (q := 57) rfl dX6_kingOf_56 rfl ?_
        refine rr_iald (q := 58) rfl w_marr1 dX6_kingOf_57 (fun n8 => ?_)
        exact rr_iret dX6_kingOf_58 rfl
      · refine rr_case 3 ?_ (fun hs11 => ?_)
        · refine rr_lookup 59 dX6_kingOf_26 (by decide) rfl rfl ?_
          refine rr_iconst 0 (q := 60) rfl dX6_kingOf_59 rfl ?_
          refine rr_istore (L2 := fun y10 => [some (.ref mb), some (.int l1), some (.int l2), some (.int y7), some (.int y10), none]) (q := 62) rfl dX6_kingOf_60 (Nat.le_of_ble_eq_true rfl) (fun _ => rfl) (fun y10 => ?_)
          refine rr_mask [true, true, false, true, true, false] (L' := [some (.ref mb), some (.int l1), none, some (.int y7), some (.int y10), none]) rfl ?_
          exact e_X6_kingOf_62 400 l1 y7 y10 s6
        · refine rr_lookup (off := 84) 110 dX6_kingOf_26 (by decide) (by have ahs9 := ne_lit (n := 0) hs9 rfl; have ahs11 := ne_lit (n := 3) hs11 rfl; simp [Op.lookupswitch.offset, Ne.symm ahs9, Ne.symm ahs11]) rfl ?_
          refine rr_iconst 0 (q := 111) rfl dX6_kingOf_110 rfl ?_
          refine rr_istore (L2 := fun y12 => [some (.ref mb), some (.int l1), some (.int l2), some (.int y7), some (.int y12), none]) (q := 113) rfl dX6_kingOf_111 (Nat.le_of_ble_eq_true rfl) (fun _ => rfl) (fun y12 => ?_)
          exact e_X6_kingOf_113 400 l1 l2 y7 y12 s6
    · refine rr_aload_n (q := 17) rfl dX6_kingOf_16 rfl ?_
      refine rr_ldc (q := 19) rfl dX6_kingOf_17 kc_X6_78 ?_
      refine rr_cVi (q := 22) rfl V_X6_finds ml_X6_125 ⟨Nat.le_of_ble_eq_true rfl, Nat.le_of_ble_eq_true rfl⟩ (e_X6_finds (-1000000001) s6) w_M rfl rfl rfl rfl (Nat.le_of_ble_eq_true rfl) dX6_kingOf_19 (fun v13 s14 => ?_)
      exact rr_iret dX6_kingOf_22 rfl
def fX6_addChild (l1 : Int32) (l2 : Int32) (l3 : Int32) (l4 : Int32) (s : SM) : Option (Unit × SM) :=
  ixg (gM s 0 1) 14 fun n1 => vl (wM s 2 n1 l1) fun s2 =>
  ixg (gM s2 0 1) 14 fun n3 => vl (wM s2 3 n3 l2) fun s4 =>
  ixg (gM s4 0 1) 14 fun n5 => vl (wM s4 4 n5 l4) fun s6 =>
  ixg (1 + (gM s6 0 1)) 82 fun n7 => vl (wM s6 9 n7 l3) fun s8 =>
  ixg (15 + (gM s8 0 1)) 82 fun n9 => vl (wM s8 9 n9 0) fun s10 =>
  vl (wM s10 0 1 ((gM s10 0 1) + 1)) fun s11 =>
  some ((), s11)
set_option maxRecDepth 100000 in
set_option maxHeartbeats 4000000 in
theorem e_X6_addChild {G : Cf} {x : SX} (l1 : Int32) (l2 : Int32) (l3 : Int32) (l4 : Int32) (s : SM) : Ct (wfM x) inU G M_X6_addChild [.ref mb, .int l1, .int l2, .int l3, .int l4] s (fX6_addChild l1 l2 l3 l4 s) := by
  refine Ct.of (L0 := [some (.ref mb), some (.int l1), some (.int l2), some (.int l3), some (.int l4)]) 0 rfl rfl ⟨rfl, rfl⟩ (Nat.le_of_ble_eq_true rfl) rfl ?_
  unfold fX6_addChild
  refine rr_aload_n (q := 1) rfl dX6_addChild_0 rfl ?_
  refine rr_get (q := 4) rfl fl_X6_13 w_M rfl dX6_addChild_1 ?_
  refine rr_aload_n (q := 5) rfl dX6_addChild_4 rfl ?_
  refine rr_get (q := 8) rfl fl_X6_83 w_M rfl dX6_addChild_5 ?_
  refine rr_iload_n (q := 9) rfl dX6_addChild_8 rfl ?_
  refine rr_iast (q := 10) rfl w_marr2 (fun _ => u_marr2) dX6_addChild_9 (fun n1 s2 => ?_)
  refine rr_aload_n (q := 11) rfl dX6_addChild_10 rfl ?_
  refine rr_get (q := 14) rfl fl_X6_16 w_M rfl dX6_addChild_11 ?_
  refine rr_aload_n (q := 15) rfl dX6_addChild_14 rfl ?_
  refine rr_get (q := 18) rfl fl_X6_83 w_M rfl dX6_addChild_15 ?_
  refine rr_iload_n (q := 19) rfl dX6_addChild_18 rfl ?_
  refine rr_iast (q := 20) rfl w_marr3 (fun _ => u_marr3) dX6_addChild_19 (fun n3 s4 => ?_)
  refine rr_aload_n (q := 21) rfl dX6_addChild_20 rfl ?_
  refine rr_get (q := 24) rfl fl_X6_19 w_M rfl dX6_addChild_21 ?_
  refine rr_aload_n (q := 25) rfl dX6_addChild_24 rfl ?_
  refine rr_get (q := 28) rfl fl_X6_83 w_M rfl dX6_addChild_25 ?_
  refine rr_iload (q := 30) rfl dX6_addChild_28 rfl ?_
  refine rr_iast (q := 31) rfl w_marr4 (fun _ => u_marr4) dX6_addChild_30 (fun n5 s6 => ?_)
  refine rr_aload_n (q := 32) rfl dX6_addChild_31 rfl ?_
  refine rr_get (q := 35) rfl fl_X6_34 w_M rfl dX6_addChild_32 ?_
  refine rr_iconst 1 (q := 36) rfl dX6_addChild_35 rfl ?_
  refine rr_aload_n (q := 37) rfl dX6_addChild_36 rfl ?_
  refine rr_get (q := 40) rfl fl_X6_83 w_M rfl dX6_addChild_37 ?_
  refine rr_iadd (q := 41) rfl dX6_addChild_40 ?_
  refine rr_iload_n (q := 42) rfl dX6_addChild_41 rfl ?_
  refine rr_iast (q := 43) rfl w_marr9 (fun _ => u_marr9) dX6_addChild_42 (fun n7 s8 => ?_)
  refine rr_aload_n (q := 44) rfl dX6_addChild_43 rfl ?_
  refine rr_get (q := 47) rfl fl_X6_34 w_M rfl dX6_addChild_44 ?_
  refine rr_bipush 15 (q := 49) rfl dX6_addChild_47 rfl ?_
  refine rr_aload_n (q := 50) rfl dX6_addChild_49 rfl ?_
  refine rr_get (q := 53) rfl fl_X6_83 w_M rfl dX6_addChild_50 ?_
  refine rr_iadd (q := 54) rfl dX6_addChild_53 ?_
  refine rr_iconst 0 (q := 55) rfl dX6_addChild_54 rfl ?_
  refine rr_iast (q := 56) rfl w_marr9 (fun _ => u_marr9) dX6_addChild_55 (fun n9 s10 => ?_)
  refine rr_aload_n (q := 57) rfl dX6_addChild_56 rfl ?_
  refine rr_dup (q := 58) rfl dX6_addChild_57 rfl ?_
  refine rr_get (q := 61) rfl fl_X6_83 w_M rfl dX6_addChild_58 ?_
  refine rr_iconst 1 (q := 62) rfl dX6_addChild_61 rfl ?_
  refine rr_iadd (q := 63) rfl dX6_addChild_62 ?_
  refine rr_puti (q := 66) rfl fl_X6_83 fp_X6_1 w_M (Nat.le_of_ble_eq_true rfl) u_M1 dX6_addChild_63 (fun s11 => ?_)
  exact rr_vret dX6_addChild_66 rfl
def fX6_child (l1 : Int32) (l2 : Int32) (l3 : Int32) (s : SM) : Option (Int32 × SM) :=
  bd (fX6_isKind l1 s) fun v1 s2 =>
  (if v1 = 0 then
  bd (fX6_finds (-1000000001) s2) fun v3 s4 =>
  some (v3, s4)
  else
  bd (fX6_isKing l2 s2) fun v5 s6 =>
  (if v5 = 0 then
  bd (fX6_finds (-1000000001) s6) fun v7 s8 =>
  some (v7, s8)
  else
  bd (fX6_isTold l3 s6) fun v9 s10 =>
  (if v9 = 0 then
  bd (fX6_finds (-1000000001) s10) fun v14 s15 =>
  some (v14, s15)
  else
  (if (gM s10 0 1) = 14 then
  bd (fX6_finds (-1000000002) s10) fun v12 s13 =>
  some (v12, s13)
  else
  bd (fX6_addChild l1 l2 l2 l3 s10) fun _ s11 =>
  some ((gM s11 0 1) - 1, s11)))))
set_option maxRecDepth 100000 in
set_option maxHeartbeats 4000000 in
theorem e_X6_child {G : Cf} {x : SX} (l1 : Int32) (l2 : Int32) (l3 : Int32) (s : SM) : Ct (wfM x) inI G M_X6_child [.ref mb, .int l1, .int l2, .int l3] s (fX6_child l1 l2 l3 s) := by
  refine Ct.of (L0 := [some (.ref mb), some (.int l1), some (.int l2), some (.int l3)]) 0 rfl rfl ⟨rfl, rfl⟩ (Nat.le_of_ble_eq_true rfl) rfl ?_
  unfold fX6_child
  refine rr_iload_n (q := 1) rfl dX6_child_0 rfl ?_
  refine rr_cSi (q := 4) rfl V_X6_isKind ml_X6_128 ⟨Nat.le_of_ble_eq_true rfl, Nat.le_of_ble_eq_true rfl⟩ (e_X6_isKind l1 s) rfl rfl (Nat.le_of_ble_eq_true rfl) dX6_child_1 (fun v1 s2 => ?_)
  refine rr_if_eq 21 (q := 7) rfl dX6_child_4 rfl (fun _ => ?_) (fun _ => ?_)
  · refine rr_aload_n (q := 22) rfl dX6_child_21 rfl ?_
    refine rr_ldc (q := 24) rfl dX6_child_22 kc_X6_78 ?_
    refine rr_cVi (q := 27) rfl V_X6_finds ml_X6_125 ⟨Nat.le_of_ble_eq_true rfl, Nat.le_of_ble_eq_true rfl⟩ (e_X6_finds (-1000000001) s2) w_M rfl rfl rfl rfl (Nat.le_of_ble_eq_true rfl) dX6_child_24 (fun v3 s4 => ?_)
    exact rr_iret dX6_child_27 rfl
  · refine rr_iload_n (q := 8) rfl dX6_child_7 rfl ?_
    refine rr_cSi (q := 11) rfl V_X6_isKing ml_X6_119 ⟨Nat.le_of_ble_eq_true rfl, Nat.le_of_ble_eq_true rfl⟩ (e_X6_isKing l2 s2) rfl rfl (Nat.le_of_ble_eq_true rfl) dX6_child_8 (fun v5 s6 => ?_)
    refine rr_if_eq 21 (q := 14) rfl dX6_child_11 rfl (fun _ => ?_) (fun _ => ?_)
    · refine rr_aload_n (q := 22) rfl dX6_child_21 rfl ?_
      refine rr_ldc (q := 24) rfl dX6_child_22 kc_X6_78 ?_
      refine rr_cVi (q := 27) rfl V_X6_finds ml_X6_125 ⟨Nat.le_of_ble_eq_true rfl, Nat.le_of_ble_eq_true rfl⟩ (e_X6_finds (-1000000001) s6) w_M rfl rfl rfl rfl (Nat.le_of_ble_eq_true rfl) dX6_child_24 (fun v7 s8 => ?_)
      exact rr_iret dX6_child_27 rfl
    · refine rr_iload_n (q := 15) rfl dX6_child_14 rfl ?_
      refine rr_cSi (q := 18) rfl V_X6_isTold ml_X6_122 ⟨Nat.le_of_ble_eq_true rfl, Nat.le_of_ble_eq_true rfl⟩ (e_X6_isTold l3 s6) rfl rfl (Nat.le_of_ble_eq_true rfl) dX6_child_15 (fun v9 s10 => ?_)
      refine rr_if_ne 28 (q := 21) rfl dX6_child_18 rfl (fun _ => ?_) (fun _ => ?_)
      · refine rr_aload_n (q := 29) rfl dX6_child_28 rfl ?_
        refine rr_get (q := 32) rfl fl_X6_83 w_M rfl dX6_child_29 ?_
        refine rr_bipush 14 (q := 34) rfl dX6_child_32 rfl ?_
        refine rr_icmp_ne 44 (q := 37) rfl dX6_child_34 rfl (fun _ => ?_) (fun _ => ?_)
        · refine rr_aload_n (q := 45) rfl dX6_child_44 rfl ?_
          refine rr_iload_n (q := 46) rfl dX6_child_45 rfl ?_
          refine rr_iload_n (q := 47) rfl dX6_child_46 rfl ?_
          refine rr_iload_n (q := 48) rfl dX6_child_47 rfl ?_
          refine rr_iload_n (q := 49) rfl dX6_child_48 rfl ?_
          refine rr_cVu (q := 52) rfl V_X6_addChild ml_X6_132 ⟨Nat.le_of_ble_eq_true rfl, Nat.le_of_ble_eq_true rfl⟩ (e_X6_addChild l1 l2 l2 l3 s10) w_M rfl rfl rfl rfl (Nat.le_of_ble_eq_true rfl) dX6_child_49 (fun _ s11 => ?_)
          refine rr_aload_n (q := 53) rfl dX6_child_52 rfl ?_
          refine rr_get (q := 56) rfl fl_X6_83 w_M rfl dX6_child_53 ?_
          refine rr_iconst 1 (q := 57) rfl dX6_child_56 rfl ?_
          refine rr_isub (q := 58) rfl dX6_child_57 ?_
          exact rr_iret dX6_child_58 rfl
        · refine rr_aload_n (q := 38) rfl dX6_child_37 rfl ?_
          refine rr_ldc (q := 40) rfl dX6_child_38 kc_X6_131 ?_
          refine rr_cVi (q := 43) rfl V_X6_finds ml_X6_125 ⟨Nat.le_of_ble_eq_true rfl, Nat.le_of_ble_eq_true rfl⟩ (e_X6_finds (-1000000002) s10) w_M rfl rfl rfl rfl (Nat.le_of_ble_eq_true rfl) dX6_child_40 (fun v12 s13 => ?_)
          exact rr_iret dX6_child_43 rfl
      · refine rr_aload_n (q := 22) rfl dX6_child_21 rfl ?_
        refine rr_ldc (q := 24) rfl dX6_child_22 kc_X6_78 ?_
        refine rr_cVi (q := 27) rfl V_X6_finds ml_X6_125 ⟨Nat.le_of_ble_eq_true rfl, Nat.le_of_ble_eq_true rfl⟩ (e_X6_finds (-1000000001) s10) w_M rfl rfl rfl rfl (Nat.le_of_ble_eq_true rfl) dX6_child_24 (fun v14 s15 => ?_)
        exact rr_iret dX6_child_27 rfl
def fX6_of (l1 : Int32) (l2 : Int32) (s : SM) : Option (Int32 × SM) :=
  bd (fX6_isChild l1 s) fun v1 s2 =>
  (if v1 = 0 then
  bd (fX6_finds (-1000000001) s2) fun v3 s4 =>
  some (v3, s4)
  else
  bd (fX6_in l2 0 5 s2) fun v5 s6 =>
  (if v5 = 0 then
  bd (fX6_finds (-1000000001) s6) fun v23 s24 =>
  some (v23, s24)
  else
  (if l2 = 0 then
  ixg l1 14 fun n7 =>
  some (gM s6 2 n7, s6)
  else
  (if l2 = 1 then
  ixg l1 14 fun n9 =>
  some (gM s6 3 n9, s6)
  else
  (if l2 = 2 then
  bd (fX6_holder l1 s6) fun v11 s12 =>
  some (v11, s12)
  else
  (if l2 = 3 then
  ixg l1 14 fun n14 =>
  some (gM s6 4 n14, s6)
  else
  (if l2 = 4 then
  bd (fX6_lives l1 s6) fun v16 s17 =>
  (if v16 = 0 then
  some (1, s17)
  else
  some (0, s17))
  else
  bd (fX6_lives l1 s6) fun v19 s20 =>
  (if v19 = 0 then
  some (0, s20)
  else
  bd (fX6_loss l1 s20) fun v21 s22 =>
  some (v21, s22)))))))))
set_option maxRecDepth 100000 in
set_option maxHeartbeats 4000000 in
theorem e_X6_of {G : Cf} {x : SX} (l1 : Int32) (l2 : Int32) (s : SM) : Ct (wfM x) inI G M_X6_of [.ref mb, .int l1, .int l2] s (fX6_of l1 l2 s) := by
  refine Ct.of (L0 := [some (.ref mb), some (.int l1), some (.int l2)]) 0 rfl rfl ⟨rfl, rfl⟩ (Nat.le_of_ble_eq_true rfl) rfl ?_
  unfold fX6_of
  refine rr_aload_n (q := 1) rfl dX6_of_0 rfl ?_
  refine rr_iload_n (q := 2) rfl dX6_of_1 rfl ?_
  refine rr_cVi (q := 5) rfl V_X6_isChild ml_X6_136 ⟨Nat.le_of_ble_eq_true rfl, Nat.le_of_ble_eq_true rfl⟩ (e_X6_isChild l1 s) w_M rfl rfl rfl rfl (Nat.le_of_ble_eq_true rfl) dX6_of_2 (fun v1 s2 => ?_)
  refine rr_if_eq 17 (q := 8) rfl dX6_of_5 rfl (fun _ => ?_) (fun _ => ?_)
  · refine rr_aload_n (q := 18) rfl dX6_of_17 rfl ?_
    refine rr_ldc (q := 20) rfl dX6_of_18 kc_X6_78 ?_
    refine rr_cVi (q := 23) rfl V_X6_finds ml_X6_125 ⟨Nat.le_of_ble_eq_true rfl, Nat.le_of_ble_eq_true rfl⟩ (e_X6_finds (-1000000001) s2) w_M rfl rfl rfl rfl (Nat.le_of_ble_eq_true rfl) dX6_of_20 (fun v3 s4 => ?_)
    exact rr_iret dX6_of_23 rfl
  · refine rr_iload_n (q := 9) rfl dX6_of_8 rfl ?_
    refine rr_iconst 0 (q := 10) rfl dX6_of_9 rfl ?_
    refine rr_iconst 5 (q := 11) rfl dX6_of_10 rfl ?_
    refine rr_cSi (q := 14) rfl V_X6_in ml_X6_79 ⟨Nat.le_of_ble_eq_true rfl, Nat.le_of_ble_eq_true rfl⟩ (e_X6_in l2 0 5 s2) rfl rfl (Nat.le_of_ble_eq_true rfl) dX6_of_11 (fun v5 s6 => ?_)
    refine rr_if_ne 24 (q := 17) rfl dX6_of_14 rfl (fun _ => ?_) (fun _ => ?_)
    · refine rr_iload_n (q := 25) rfl dX6_of_24 rfl ?_
      refine rr_case 0 ?_ (fun hs8 => ?_)
      · refine rr_tableIn 60 dX6_of_25 (by decide) (by decide) rfl rfl ?_
        refine rr_aload_n (q := 61) rfl dX6_of_60 rfl ?_
        refine rr_get (q := 64) rfl fl_X6_13 w_M rfl dX6_of_61 ?_
        refine rr_iload_n (q := 65) rfl dX6_of_64 rfl ?_
        refine rr_iald (q := 66) rfl w_marr2 dX6_of_65 (fun n7 => ?_)
        exact rr_iret dX6_of_66 rfl
      · refine rr_case 1 ?_ (fun hs10 => ?_)
        · refine rr_tableIn 67 dX6_of_25 (by decide) (by decide) rfl rfl ?_
          refine rr_aload_n (q := 68) rfl dX6_of_67 rfl ?_
          refine rr_get (q := 71) rfl fl_X6_16 w_M rfl dX6_of_68 ?_
          refine rr_iload_n (q := 72) rfl dX6_of_71 rfl ?_
          refine rr_iald (q := 73) rfl w_marr3 dX6_of_72 (fun n9 => ?_)
          exact rr_iret dX6_of_73 rfl
        · refine rr_case 2 ?_ (fun hs13 => ?_)
          · refine rr_tableIn 74 dX6_of_25 (by decide) (by decide) rfl rfl ?_
            refine rr_aload_n (q := 75) rfl dX6_of_74 rfl ?_
            refine rr_iload_n (q := 76) rfl dX6_of_75 rfl ?_
            refine rr_cVi (q := 79) rfl V_X6_holder ml_X6_93 ⟨Nat.le_of_ble_eq_true rfl, Nat.le_of_ble_eq_true rfl⟩ (e_X6_holder l1 s6) w_M rfl rfl rfl rfl (Nat.le_of_ble_eq_true rfl) dX6_of_76 (fun v11 s12 => ?_)
            exact rr_iret dX6_of_79 rfl
          · refine rr_case 3 ?_ (fun hs15 => ?_)
            · refine rr_tableIn 80 dX6_of_25 (by decide) (by decide) rfl rfl ?_
              refine rr_aload_n (q := 81) rfl dX6_of_80 rfl ?_
              refine rr_get (q := 84) rfl fl_X6_19 w_M rfl dX6_of_81 ?_
              refine rr_iload_n (q := 85) rfl dX6_of_84 rfl ?_
              refine rr_iald (q := 86) rfl w_marr4 dX6_of_85 (fun n14 => ?_)
              exact rr_iret dX6_of_86 rfl
            · refine rr_case 4 ?_ (fun hs18 => ?_)
              · refine rr_tableIn 87 dX6_of_25 (by decide) (by decide) rfl rfl ?_
                refine rr_aload_n (q := 88) rfl dX6_of_87 rfl ?_
                refine rr_iload_n (q := 89) rfl dX6_of_88 rfl ?_
                refine rr_cVi (q := 92) rfl V_X6_lives ml_X6_97 ⟨Nat.le_of_ble_eq_true rfl, Nat.le_of_ble_eq_true rfl⟩ (e_X6_lives l1 s6) w_M rfl rfl rfl rfl (Nat.le_of_ble_eq_true rfl) dX6_of_89 (fun v16 s17 => ?_)
                refine rr_if_eq 99 (q := 95) rfl dX6_of_92 rfl (fun _ => ?_) (fun _ => ?_)
                · refine rr_iconst 1 (q := 100) rfl dX6_of_99 rfl ?_
                  exact rr_iret dX6_of_100 rfl
                · refine rr_iconst 0 (q := 96) rfl dX6_of_95 rfl ?_
                  refine rr_goto 100 dX6_of_96 rfl ?_
                  exact rr_iret dX6_of_100 rfl
              · refine rr_tableOut 101 dX6_of_25 (by have ahs8 := ne_lit (n := 0) hs8 rfl; have ahs10 := ne_lit (n := 1) hs10 rfl; have ahs13 := ne_lit (n := 2) hs13 rfl; have ahs15 := ne_lit (n := 3) hs15 rfl; have ahs18 := ne_lit (n := 4) hs18 rfl; omega) rfl ?_
                refine rr_aload_n (q := 102) rfl dX6_of_101 rfl ?_
                refine rr_iload_n (q := 103) rfl dX6_of_102 rfl ?_
                refine rr_cVi (q := 106) rfl V_X6_lives ml_X6_97 ⟨Nat.le_of_ble_eq_true rfl, Nat.le_of_ble_eq_true rfl⟩ (e_X6_lives l1 s6) w_M rfl rfl rfl rfl (Nat.le_of_ble_eq_true rfl) dX6_of_103 (fun v19 s20 => ?_)
                refine rr_if_eq 117 (q := 109) rfl dX6_of_106 rfl (fun _ => ?_) (fun _ => ?_)
                · refine rr_iconst 0 (q := 118) rfl dX6_of_117 rfl ?_
                  exact rr_iret dX6_of_118 rfl
                · refine rr_aload_n (q := 110) rfl dX6_of_109 rfl ?_
                  refine rr_iload_n (q := 111) rfl dX6_of_110 rfl ?_
                  refine rr_cVi (q := 114) rfl V_X6_loss ml_X6_107 ⟨Nat.le_of_ble_eq_true rfl, Nat.le_of_ble_eq_true rfl⟩ (e_X6_loss l1 s20) w_M rfl rfl rfl rfl (Nat.le_of_ble_eq_true rfl) dX6_of_111 (fun v21 s22 => ?_)
                  refine rr_goto 118 dX6_of_114 rfl ?_
                  exact rr_iret dX6_of_118 rfl
    · refine rr_aload_n (q := 18) rfl dX6_of_17 rfl ?_
      refine rr_ldc (q := 20) rfl dX6_of_18 kc_X6_78 ?_
      refine rr_cVi (q := 23) rfl V_X6_finds ml_X6_125 ⟨Nat.le_of_ble_eq_true rfl, Nat.le_of_ble_eq_true rfl⟩ (e_X6_finds (-1000000001) s6) w_M rfl rfl rfl rfl (Nat.le_of_ble_eq_true rfl) dX6_of_20 (fun v23 s24 => ?_)
      exact rr_iret dX6_of_23 rfl
def fX6_move (l1 : Int32) (l2 : Int32) (s : SM) : Option (Int32 × SM) :=
  bd (fX6_isChild l1 s) fun v1 s2 =>
  (if v1 = 0 then
  bd (fX6_finds (-1000000001) s2) fun v3 s4 =>
  some (v3, s4)
  else
  bd (fX6_isKing l2 s2) fun v5 s6 =>
  (if v5 = 0 then
  bd (fX6_finds (-1000000001) s6) fun v15 s16 =>
  some (v15, s16)
  else
  bd (fX6_lives l1 s6) fun v7 s8 =>
  (if v7 = 0 then
  bd (fX6_finds (-1000000005) s8) fun v13 s14 =>
  some (v13, s14)
  else
  ixg (1 + l1) 82 fun n9 =>
  vl (gM s8 9 n9) fun y10 =>
  ixg (1 + l1) 82 fun n11 => vl (wM s8 9 n11 l2) fun s12 =>
  some (y10, s12))))
set_option maxRecDepth 100000 in
set_option maxHeartbeats 4000000 in
theorem e_X6_move {G : Cf} {x : SX} (l1 : Int32) (l2 : Int32) (s : SM) : Ct (wfM x) inI G M_X6_move [.ref mb, .int l1, .int l2] s (fX6_move l1 l2 s) := by
  refine Ct.of (L0 := [some (.ref mb), some (.int l1), some (.int l2), none]) 1 rfl rfl ⟨rfl, rfl⟩ (Nat.le_of_ble_eq_true rfl) rfl ?_
  unfold fX6_move
  refine rr_aload_n (q := 1) rfl dX6_move_0 rfl ?_
  refine rr_iload_n (q := 2) rfl dX6_move_1 rfl ?_
  refine rr_cVi (q := 5) rfl V_X6_isChild ml_X6_136 ⟨Nat.le_of_ble_eq_true rfl, Nat.le_of_ble_eq_true rfl⟩ (e_X6_isChild l1 s) w_M rfl rfl rfl rfl (Nat.le_of_ble_eq_true rfl) dX6_move_2 (fun v1 s2 => ?_)
  refine rr_if_eq 15 (q := 8) rfl dX6_move_5 rfl (fun _ => ?_) (fun _ => ?_)
  · refine rr_aload_n (q := 16) rfl dX6_move_15 rfl ?_
    refine rr_ldc (q := 18) rfl dX6_move_16 kc_X6_78 ?_
    refine rr_cVi (q := 21) rfl V_X6_finds ml_X6_125 ⟨Nat.le_of_ble_eq_true rfl, Nat.le_of_ble_eq_true rfl⟩ (e_X6_finds (-1000000001) s2) w_M rfl rfl rfl rfl (Nat.le_of_ble_eq_true rfl) dX6_move_18 (fun v3 s4 => ?_)
    exact rr_iret dX6_move_21 rfl
  · refine rr_iload_n (q := 9) rfl dX6_move_8 rfl ?_
    refine rr_cSi (q := 12) rfl V_X6_isKing ml_X6_119 ⟨Nat.le_of_ble_eq_true rfl, Nat.le_of_ble_eq_true rfl⟩ (e_X6_isKing l2 s2) rfl rfl (Nat.le_of_ble_eq_true rfl) dX6_move_9 (fun v5 s6 => ?_)
    refine rr_if_ne 22 (q := 15) rfl dX6_move_12 rfl (fun _ => ?_) (fun _ => ?_)
    · refine rr_aload_n (q := 23) rfl dX6_move_22 rfl ?_
      refine rr_iload_n (q := 24) rfl dX6_move_23 rfl ?_
      refine rr_cVi (q := 27) rfl V_X6_lives ml_X6_97 ⟨Nat.le_of_ble_eq_true rfl, Nat.le_of_ble_eq_true rfl⟩ (e_X6_lives l1 s6) w_M rfl rfl rfl rfl (Nat.le_of_ble_eq_true rfl) dX6_move_24 (fun v7 s8 => ?_)
      refine rr_if_ne 37 (q := 30) rfl dX6_move_27 rfl (fun _ => ?_) (fun _ => ?_)
      · refine rr_aload_n (q := 38) rfl dX6_move_37 rfl ?_
        refine rr_get (q := 41) rfl fl_X6_34 w_M rfl dX6_move_38 ?_
        refine rr_iconst 1 (q := 42) rfl dX6_move_41 rfl ?_
        refine rr_iload_n (q := 43) rfl dX6_move_42 rfl ?_
        refine rr_iadd (q := 44) rfl dX6_move_43 ?_
        refine rr_iald (q := 45) rfl w_marr9 dX6_move_44 (fun n9 => ?_)
        refine rr_istore_n (L2 := fun y10 => [some (.ref mb), some (.int l1), some (.int l2), some (.int y10)]) (q := 46) rfl dX6_move_45 (Nat.le_of_ble_eq_true rfl) (fun _ => rfl) (fun y10 => ?_)
        refine rr_aload_n (q := 47) rfl dX6_move_46 rfl ?_
        refine rr_get (q := 50) rfl fl_X6_34 w_M rfl dX6_move_47 ?_
        refine rr_iconst 1 (q := 51) rfl dX6_move_50 rfl ?_
        refine rr_iload_n (q := 52) rfl dX6_move_51 rfl ?_
        refine rr_iadd (q := 53) rfl dX6_move_52 ?_
        refine rr_iload_n (q := 54) rfl dX6_move_53 rfl ?_
        refine rr_iast (q := 55) rfl w_marr9 (fun _ => u_marr9) dX6_move_54 (fun n11 s12 => ?_)
        refine rr_iload_n (q := 56) rfl dX6_move_55 rfl ?_
        exact rr_iret dX6_move_56 rfl
      · refine rr_aload_n (q := 31) rfl dX6_move_30 rfl ?_
        refine rr_ldc (q := 33) rfl dX6_move_31 kc_X6_139 ?_
        refine rr_cVi (q := 36) rfl V_X6_finds ml_X6_125 ⟨Nat.le_of_ble_eq_true rfl, Nat.le_of_ble_eq_true rfl⟩ (e_X6_finds (-1000000005) s8) w_M rfl rfl rfl rfl (Nat.le_of_ble_eq_true rfl) dX6_move_33 (fun v13 s14 => ?_)
        exact rr_iret dX6_move_36 rfl
    · refine rr_aload_n (q := 16) rfl dX6_move_15 rfl ?_
      refine rr_ldc (q := 18) rfl dX6_move_16 kc_X6_78 ?_
      refine rr_cVi (q := 21) rfl V_X6_finds ml_X6_125 ⟨Nat.le_of_ble_eq_true rfl, Nat.le_of_ble_eq_true rfl⟩ (e_X6_finds (-1000000001) s6) w_M rfl rfl rfl rfl (Nat.le_of_ble_eq_true rfl) dX6_move_18 (fun v15 s16 => ?_)
      exact rr_iret dX6_move_21 rfl
def fX6_worth (l1 : Int32) (l2 : Int32) (s : SM) : Option (Int32 × SM) :=
  bd (fX6_isChild l1 s) fun v1 s2 =>
  (if v1 = 0 then
  bd (fX6_finds (-1000000001) s2) fun v3 s4 =>
  some (v3, s4)
  else
  bd (fX6_isTold l2 s2) fun v5 s6 =>
  (if v5 = 0 then
  bd (fX6_finds (-1000000001) s6) fun v11 s12 =>
  some (v11, s12)
  else
  ixg l1 14 fun n7 =>
  vl (gM s6 4 n7) fun y8 =>
  ixg l1 14 fun n9 => vl (wM s6 4 n9 l2) fun s10 =>
  some (y8, s10)))
set_option maxRecDepth 100000 in
set_option maxHeartbeats 4000000 in
theorem e_X6_worth {G : Cf} {x : SX} (l1 : Int32) (l2 : Int32) (s : SM) : Ct (wfM x) inI G M_X6_worth [.ref mb, .int l1, .int l2] s (fX6_worth l1 l2 s) := by
  refine Ct.of (L0 := [some (.ref mb), some (.int l1), some (.int l2), none]) 1 rfl rfl ⟨rfl, rfl⟩ (Nat.le_of_ble_eq_true rfl) rfl ?_
  unfold fX6_worth
  refine rr_aload_n (q := 1) rfl dX6_worth_0 rfl ?_
  refine rr_iload_n (q := 2) rfl dX6_worth_1 rfl ?_
  refine rr_cVi (q := 5) rfl V_X6_isChild ml_X6_136 ⟨Nat.le_of_ble_eq_true rfl, Nat.le_of_ble_eq_true rfl⟩ (e_X6_isChild l1 s) w_M rfl rfl rfl rfl (Nat.le_of_ble_eq_true rfl) dX6_worth_2 (fun v1 s2 => ?_)
  refine rr_if_eq 15 (q := 8) rfl dX6_worth_5 rfl (fun _ => ?_) (fun _ => ?_)
  · refine rr_aload_n (q := 16) rfl dX6_worth_15 rfl ?_
    refine rr_ldc (q := 18) rfl dX6_worth_16 kc_X6_78 ?_
    refine rr_cVi (q := 21) rfl V_X6_finds ml_X6_125 ⟨Nat.le_of_ble_eq_true rfl, Nat.le_of_ble_eq_true rfl⟩ (e_X6_finds (-1000000001) s2) w_M rfl rfl rfl rfl (Nat.le_of_ble_eq_true rfl) dX6_worth_18 (fun v3 s4 => ?_)
    exact rr_iret dX6_worth_21 rfl
  · refine rr_iload_n (q := 9) rfl dX6_worth_8 rfl ?_
    refine rr_cSi (q := 12) rfl V_X6_isTold ml_X6_122 ⟨Nat.le_of_ble_eq_true rfl, Nat.le_of_ble_eq_true rfl⟩ (e_X6_isTold l2 s2) rfl rfl (Nat.le_of_ble_eq_true rfl) dX6_worth_9 (fun v5 s6 => ?_)
    refine rr_if_ne 22 (q := 15) rfl dX6_worth_12 rfl (fun _ => ?_) (fun _ => ?_)
    · refine rr_aload_n (q := 23) rfl dX6_worth_22 rfl ?_
      refine rr_get (q := 26) rfl fl_X6_19 w_M rfl dX6_worth_23 ?_
      refine rr_iload_n (q := 27) rfl dX6_worth_26 rfl ?_
      refine rr_iald (q := 28) rfl w_marr4 dX6_worth_27 (fun n7 => ?_)
      refine rr_istore_n (L2 := fun y8 => [some (.ref mb), some (.int l1), some (.int l2), some (.int y8)]) (q := 29) rfl dX6_worth_28 (Nat.le_of_ble_eq_true rfl) (fun _ => rfl) (fun y8 => ?_)
      refine rr_aload_n (q := 30) rfl dX6_worth_29 rfl ?_
      refine rr_get (q := 33) rfl fl_X6_19 w_M rfl dX6_worth_30 ?_
      refine rr_iload_n (q := 34) rfl dX6_worth_33 rfl ?_
      refine rr_iload_n (q := 35) rfl dX6_worth_34 rfl ?_
      refine rr_iast (q := 36) rfl w_marr4 (fun _ => u_marr4) dX6_worth_35 (fun n9 s10 => ?_)
      refine rr_iload_n (q := 37) rfl dX6_worth_36 rfl ?_
      exact rr_iret dX6_worth_37 rfl
    · refine rr_aload_n (q := 16) rfl dX6_worth_15 rfl ?_
      refine rr_ldc (q := 18) rfl dX6_worth_16 kc_X6_78 ?_
      refine rr_cVi (q := 21) rfl V_X6_finds ml_X6_125 ⟨Nat.le_of_ble_eq_true rfl, Nat.le_of_ble_eq_true rfl⟩ (e_X6_finds (-1000000001) s6) w_M rfl rfl rfl rfl (Nat.le_of_ble_eq_true rfl) dX6_worth_18 (fun v11 s12 => ?_)
      exact rr_iret dX6_worth_21 rfl
def fX6_turn (l1 : Int32) (l2 : Int32) (s : SM) : Option (Int32 × SM) :=
  bd (fX6_isChild l1 s) fun v1 s2 =>
  (if v1 = 0 then
  bd (fX6_finds (-1000000001) s2) fun v3 s4 =>
  some (v3, s4)
  else
  bd (fX6_isKind l2 s2) fun v5 s6 =>
  (if v5 = 0 then
  bd (fX6_finds (-1000000001) s6) fun v11 s12 =>
  some (v11, s12)
  else
  ixg l1 14 fun n7 =>
  vl (gM s6 2 n7) fun y8 =>
  ixg l1 14 fun n9 => vl (wM s6 2 n9 l2) fun s10 =>
  some (y8, s10)))
set_option maxRecDepth 100000 in
set_option maxHeartbeats 4000000 in
theorem e_X6_turn {G : Cf} {x : SX} (l1 : Int32) (l2 : Int32) (s : SM) : Ct (wfM x) inI G M_X6_turn [.ref mb, .int l1, .int l2] s (fX6_turn l1 l2 s) := by
  refine Ct.of (L0 := [some (.ref mb), some (.int l1), some (.int l2), none]) 1 rfl rfl ⟨rfl, rfl⟩ (Nat.le_of_ble_eq_true rfl) rfl ?_
  unfold fX6_turn
  refine rr_aload_n (q := 1) rfl dX6_turn_0 rfl ?_
  refine rr_iload_n (q := 2) rfl dX6_turn_1 rfl ?_
  refine rr_cVi (q := 5) rfl V_X6_isChild ml_X6_136 ⟨Nat.le_of_ble_eq_true rfl, Nat.le_of_ble_eq_true rfl⟩ (e_X6_isChild l1 s) w_M rfl rfl rfl rfl (Nat.le_of_ble_eq_true rfl) dX6_turn_2 (fun v1 s2 => ?_)
  refine rr_if_eq 15 (q := 8) rfl dX6_turn_5 rfl (fun _ => ?_) (fun _ => ?_)
  · refine rr_aload_n (q := 16) rfl dX6_turn_15 rfl ?_
    refine rr_ldc (q := 18) rfl dX6_turn_16 kc_X6_78 ?_
    refine rr_cVi (q := 21) rfl V_X6_finds ml_X6_125 ⟨Nat.le_of_ble_eq_true rfl, Nat.le_of_ble_eq_true rfl⟩ (e_X6_finds (-1000000001) s2) w_M rfl rfl rfl rfl (Nat.le_of_ble_eq_true rfl) dX6_turn_18 (fun v3 s4 => ?_)
    exact rr_iret dX6_turn_21 rfl
  · refine rr_iload_n (q := 9) rfl dX6_turn_8 rfl ?_
    refine rr_cSi (q := 12) rfl V_X6_isKind ml_X6_128 ⟨Nat.le_of_ble_eq_true rfl, Nat.le_of_ble_eq_true rfl⟩ (e_X6_isKind l2 s2) rfl rfl (Nat.le_of_ble_eq_true rfl) dX6_turn_9 (fun v5 s6 => ?_)
    refine rr_if_ne 22 (q := 15) rfl dX6_turn_12 rfl (fun _ => ?_) (fun _ => ?_)
    · refine rr_aload_n (q := 23) rfl dX6_turn_22 rfl ?_
      refine rr_get (q := 26) rfl fl_X6_13 w_M rfl dX6_turn_23 ?_
      refine rr_iload_n (q := 27) rfl dX6_turn_26 rfl ?_
      refine rr_iald (q := 28) rfl w_marr2 dX6_turn_27 (fun n7 => ?_)
      refine rr_istore_n (L2 := fun y8 => [some (.ref mb), some (.int l1), some (.int l2), some (.int y8)]) (q := 29) rfl dX6_turn_28 (Nat.le_of_ble_eq_true rfl) (fun _ => rfl) (fun y8 => ?_)
      refine rr_aload_n (q := 30) rfl dX6_turn_29 rfl ?_
      refine rr_get (q := 33) rfl fl_X6_13 w_M rfl dX6_turn_30 ?_
      refine rr_iload_n (q := 34) rfl dX6_turn_33 rfl ?_
      refine rr_iload_n (q := 35) rfl dX6_turn_34 rfl ?_
      refine rr_iast (q := 36) rfl w_marr2 (fun _ => u_marr2) dX6_turn_35 (fun n9 s10 => ?_)
      refine rr_iload_n (q := 37) rfl dX6_turn_36 rfl ?_
      exact rr_iret dX6_turn_37 rfl
    · refine rr_aload_n (q := 16) rfl dX6_turn_15 rfl ?_
      refine rr_ldc (q := 18) rfl dX6_turn_16 kc_X6_78 ?_
      refine rr_cVi (q := 21) rfl V_X6_finds ml_X6_125 ⟨Nat.le_of_ble_eq_true rfl, Nat.le_of_ble_eq_true rfl⟩ (e_X6_finds (-1000000001) s6) w_M rfl rfl rfl rfl (Nat.le_of_ble_eq_true rfl) dX6_turn_18 (fun v11 s12 => ?_)
      exact rr_iret dX6_turn_21 rfl
def fX6_isUnder_34 (s : SM) : Option (Int32 × SM) :=
  some (1, s)
set_option maxRecDepth 100000 in
set_option maxHeartbeats 4000000 in
theorem e_X6_isUnder_34 {G : Cf} {x : SX}  (s : SM) : R (wfM x) inI G M_X6_isUnder 34 [none, none] [] s (fX6_isUnder_34 s) := by
  unfold fX6_isUnder_34
  refine rr_iconst 1 (q := 35) rfl dX6_isUnder_34 rfl ?_
  refine rr_goto 39 dX6_isUnder_35 rfl ?_
  exact rr_zret dX6_isUnder_39 rfl (Or.inr rfl)
def fX6_isUnder_24 (l0 : Int32) (l1 : Int32) (s : SM) : Option (Int32 × SM) :=
  (if l1 = 2 then
  (if l0 = 4 then
  fX6_isUnder_34 s
  else
  some (0, s))
  else
  some (0, s))
set_option maxRecDepth 100000 in
set_option maxHeartbeats 4000000 in
theorem e_X6_isUnder_24 {G : Cf} {x : SX}  (l0 : Int32) (l1 : Int32) (s : SM) : R (wfM x) inI G M_X6_isUnder 24 [some (.int l0), some (.int l1)] [] s (fX6_isUnder_24 l0 l1 s) := by
  unfold fX6_isUnder_24
  refine rr_iload_n (q := 25) rfl dX6_isUnder_24 rfl ?_
  refine rr_iconst 2 (q := 26) rfl dX6_isUnder_25 rfl ?_
  refine rr_icmp_ne 38 (q := 29) rfl dX6_isUnder_26 rfl (fun _ => ?_) (fun _ => ?_)
  · refine rr_iconst 0 (q := 39) rfl dX6_isUnder_38 rfl ?_
    exact rr_zret dX6_isUnder_39 rfl (Or.inl rfl)
  · refine rr_iload_n (q := 30) rfl dX6_isUnder_29 rfl ?_
    refine rr_iconst 4 (q := 31) rfl dX6_isUnder_30 rfl ?_
    refine rr_icmp_ne 38 (q := 34) rfl dX6_isUnder_31 rfl (fun _ => ?_) (fun _ => ?_)
    · refine rr_iconst 0 (q := 39) rfl dX6_isUnder_38 rfl ?_
      exact rr_zret dX6_isUnder_39 rfl (Or.inl rfl)
    · refine rr_mask [false, false] (L' := [none, none]) rfl ?_
      exact e_X6_isUnder_34 s
def fX6_isUnder (l0 : Int32) (l1 : Int32) (s : SM) : Option (Int32 × SM) :=
  (if l1 = 0 then
  fX6_isUnder_34 s
  else
  (if l1 = l0 then
  fX6_isUnder_34 s
  else
  (if l1 = 1 then
  (if l0 = 3 then
  fX6_isUnder_34 s
  else
  (if l0 = 5 then
  fX6_isUnder_34 s
  else
  fX6_isUnder_24 l0 l1 s))
  else
  fX6_isUnder_24 l0 l1 s)))
set_option maxRecDepth 100000 in
set_option maxHeartbeats 4000000 in
theorem e_X6_isUnder {G : Cf} {x : SX} (l0 : Int32) (l1 : Int32) (s : SM) : Ct (wfM x) inI G M_X6_isUnder [.int l0, .int l1] s (fX6_isUnder l0 l1 s) := by
  refine Ct.of (L0 := [some (.int l0), some (.int l1)]) 0 rfl rfl ⟨rfl, rfl⟩ (Nat.le_of_ble_eq_true rfl) rfl ?_
  unfold fX6_isUnder
  refine rr_iload_n (q := 1) rfl dX6_isUnder_0 rfl ?_
  refine rr_if_eq 34 (q := 4) rfl dX6_isUnder_1 rfl (fun _ => ?_) (fun _ => ?_)
  · refine rr_mask [false, false] (L' := [none, none]) rfl ?_
    exact e_X6_isUnder_34 s
  · refine rr_iload_n (q := 5) rfl dX6_isUnder_4 rfl ?_
    refine rr_iload_n (q := 6) rfl dX6_isUnder_5 rfl ?_
    refine rr_icmp_eq 34 (q := 9) rfl dX6_isUnder_6 rfl (fun _ => ?_) (fun _ => ?_)
    · refine rr_mask [false, false] (L' := [none, none]) rfl ?_
      exact e_X6_isUnder_34 s
    · refine rr_iload_n (q := 10) rfl dX6_isUnder_9 rfl ?_
      refine rr_iconst 1 (q := 11) rfl dX6_isUnder_10 rfl ?_
      refine rr_icmp_ne 24 (q := 14) rfl dX6_isUnder_11 rfl (fun _ => ?_) (fun _ => ?_)
      · exact e_X6_isUnder_24 l0 l1 s
      · refine rr_iload_n (q := 15) rfl dX6_isUnder_14 rfl ?_
        refine rr_iconst 3 (q := 16) rfl dX6_isUnder_15 rfl ?_
        refine rr_icmp_eq 34 (q := 19) rfl dX6_isUnder_16 rfl (fun _ => ?_) (fun _ => ?_)
        · refine rr_mask [false, false] (L' := [none, none]) rfl ?_
          exact e_X6_isUnder_34 s
        · refine rr_iload_n (q := 20) rfl dX6_isUnder_19 rfl ?_
          refine rr_iconst 5 (q := 21) rfl dX6_isUnder_20 rfl ?_
          refine rr_icmp_eq 34 (q := 24) rfl dX6_isUnder_21 rfl (fun _ => ?_) (fun _ => ?_)
          · refine rr_mask [false, false] (L' := [none, none]) rfl ?_
            exact e_X6_isUnder_34 s
          · exact e_X6_isUnder_24 l0 l1 s
def fX6_as (l1 : Int32) (l2 : Int32) (s : SM) : Option (Int32 × SM) :=
  bd (fX6_isChild l1 s) fun v1 s2 =>
  (if v1 = 0 then
  bd (fX6_finds (-1000000001) s2) fun v3 s4 =>
  some (v3, s4)
  else
  bd (fX6_isKind l2 s2) fun v5 s6 =>
  (if v5 = 0 then
  bd (fX6_finds (-1000000001) s6) fun v14 s15 =>
  some (v14, s15)
  else
  ixg l1 14 fun n7 =>
  bd (fX6_isUnder (gM s6 2 n7) l2 s6) fun v8 s9 =>
  (if v8 = 0 then
  bd (fX6_finds (-1000000003) s9) fun v10 s11 =>
  some (v10, s11)
  else
  bd (fX6_holder l1 s9) fun v12 s13 =>
  some (v12, s13))))
set_option maxRecDepth 100000 in
set_option maxHeartbeats 4000000 in
theorem e_X6_as {G : Cf} {x : SX} (l1 : Int32) (l2 : Int32) (s : SM) : Ct (wfM x) inI G M_X6_as [.ref mb, .int l1, .int l2] s (fX6_as l1 l2 s) := by
  refine Ct.of (L0 := [some (.ref mb), some (.int l1), some (.int l2)]) 0 rfl rfl ⟨rfl, rfl⟩ (Nat.le_of_ble_eq_true rfl) rfl ?_
  unfold fX6_as
  refine rr_aload_n (q := 1) rfl dX6_as_0 rfl ?_
  refine rr_iload_n (q := 2) rfl dX6_as_1 rfl ?_
  refine rr_cVi (q := 5) rfl V_X6_isChild ml_X6_136 ⟨Nat.le_of_ble_eq_true rfl, Nat.le_of_ble_eq_true rfl⟩ (e_X6_isChild l1 s) w_M rfl rfl rfl rfl (Nat.le_of_ble_eq_true rfl) dX6_as_2 (fun v1 s2 => ?_)
  refine rr_if_eq 15 (q := 8) rfl dX6_as_5 rfl (fun _ => ?_) (fun _ => ?_)
  · refine rr_aload_n (q := 16) rfl dX6_as_15 rfl ?_
    refine rr_ldc (q := 18) rfl dX6_as_16 kc_X6_78 ?_
    refine rr_cVi (q := 21) rfl V_X6_finds ml_X6_125 ⟨Nat.le_of_ble_eq_true rfl, Nat.le_of_ble_eq_true rfl⟩ (e_X6_finds (-1000000001) s2) w_M rfl rfl rfl rfl (Nat.le_of_ble_eq_true rfl) dX6_as_18 (fun v3 s4 => ?_)
    exact rr_iret dX6_as_21 rfl
  · refine rr_iload_n (q := 9) rfl dX6_as_8 rfl ?_
    refine rr_cSi (q := 12) rfl V_X6_isKind ml_X6_128 ⟨Nat.le_of_ble_eq_true rfl, Nat.le_of_ble_eq_true rfl⟩ (e_X6_isKind l2 s2) rfl rfl (Nat.le_of_ble_eq_true rfl) dX6_as_9 (fun v5 s6 => ?_)
    refine rr_if_ne 22 (q := 15) rfl dX6_as_12 rfl (fun _ => ?_) (fun _ => ?_)
    · refine rr_aload_n (q := 23) rfl dX6_as_22 rfl ?_
      refine rr_get (q := 26) rfl fl_X6_13 w_M rfl dX6_as_23 ?_
      refine rr_iload_n (q := 27) rfl dX6_as_26 rfl ?_
      refine rr_iald (q := 28) rfl w_marr2 dX6_as_27 (fun n7 => ?_)
      refine rr_iload_n (q := 29) rfl dX6_as_28 rfl ?_
      refine rr_cSi (q := 32) rfl V_X6_isUnder ml_X6_140 ⟨Nat.le_of_ble_eq_true rfl, Nat.le_of_ble_eq_true rfl⟩ (e_X6_isUnder (gM s6 2 n7) l2 s6) rfl rfl (Nat.le_of_ble_eq_true rfl) dX6_as_29 (fun v8 s9 => ?_)
      refine rr_if_eq 43 (q := 35) rfl dX6_as_32 rfl (fun _ => ?_) (fun _ => ?_)
      · refine rr_aload_n (q := 44) rfl dX6_as_43 rfl ?_
        refine rr_ldc (q := 46) rfl dX6_as_44 kc_X6_144 ?_
        refine rr_cVi (q := 49) rfl V_X6_finds ml_X6_125 ⟨Nat.le_of_ble_eq_true rfl, Nat.le_of_ble_eq_true rfl⟩ (e_X6_finds (-1000000003) s9) w_M rfl rfl rfl rfl (Nat.le_of_ble_eq_true rfl) dX6_as_46 (fun v10 s11 => ?_)
        exact rr_iret dX6_as_49 rfl
      · refine rr_aload_n (q := 36) rfl dX6_as_35 rfl ?_
        refine rr_iload_n (q := 37) rfl dX6_as_36 rfl ?_
        refine rr_cVi (q := 40) rfl V_X6_holder ml_X6_93 ⟨Nat.le_of_ble_eq_true rfl, Nat.le_of_ble_eq_true rfl⟩ (e_X6_holder l1 s9) w_M rfl rfl rfl rfl (Nat.le_of_ble_eq_true rfl) dX6_as_37 (fun v12 s13 => ?_)
        refine rr_goto 49 dX6_as_40 rfl ?_
        exact rr_iret dX6_as_49 rfl
    · refine rr_aload_n (q := 16) rfl dX6_as_15 rfl ?_
      refine rr_ldc (q := 18) rfl dX6_as_16 kc_X6_78 ?_
      refine rr_cVi (q := 21) rfl V_X6_finds ml_X6_125 ⟨Nat.le_of_ble_eq_true rfl, Nat.le_of_ble_eq_true rfl⟩ (e_X6_finds (-1000000001) s6) w_M rfl rfl rfl rfl (Nat.le_of_ble_eq_true rfl) dX6_as_18 (fun v14 s15 => ?_)
      exact rr_iret dX6_as_21 rfl
def fX6_dies (l1 : Int32) (s : SM) : Option (Int32 × SM) :=
  bd (fX6_isChild l1 s) fun v1 s2 =>
  (if v1 = 0 then
  bd (fX6_finds (-1000000001) s2) fun v16 s17 =>
  some (v16, s17)
  else
  bd (fX6_lives l1 s2) fun v3 s4 =>
  (if v3 = 0 then
  bd (fX6_finds (-1000000005) s4) fun v14 s15 =>
  some (v14, s15)
  else
  bd (fX6_looseSet s4) fun v5 s6 =>
  vl v5 fun y7 =>
  ixg (15 + l1) 82 fun n8 => vl (wM s6 9 n8 1) fun s9 =>
  bd (fX6_looseSet s9) fun v10 s11 =>
  bd (fX6_ones (v10 &&& (y7 ^^^ (-1))) s11) fun v12 s13 =>
  some (v12, s13)))
set_option maxRecDepth 100000 in
set_option maxHeartbeats 4000000 in
theorem e_X6_dies {G : Cf} {x : SX} (l1 : Int32) (s : SM) : Ct (wfM x) inI G M_X6_dies [.ref mb, .int l1] s (fX6_dies l1 s) := by
  refine Ct.of (L0 := [some (.ref mb), some (.int l1), none]) 1 rfl rfl ⟨rfl, rfl⟩ (Nat.le_of_ble_eq_true rfl) rfl ?_
  unfold fX6_dies
  refine rr_aload_n (q := 1) rfl dX6_dies_0 rfl ?_
  refine rr_iload_n (q := 2) rfl dX6_dies_1 rfl ?_
  refine rr_cVi (q := 5) rfl V_X6_isChild ml_X6_136 ⟨Nat.le_of_ble_eq_true rfl, Nat.le_of_ble_eq_true rfl⟩ (e_X6_isChild l1 s) w_M rfl rfl rfl rfl (Nat.le_of_ble_eq_true rfl) dX6_dies_2 (fun v1 s2 => ?_)
  refine rr_if_ne 15 (q := 8) rfl dX6_dies_5 rfl (fun _ => ?_) (fun _ => ?_)
  · refine rr_aload_n (q := 16) rfl dX6_dies_15 rfl ?_
    refine rr_iload_n (q := 17) rfl dX6_dies_16 rfl ?_
    refine rr_cVi (q := 20) rfl V_X6_lives ml_X6_97 ⟨Nat.le_of_ble_eq_true rfl, Nat.le_of_ble_eq_true rfl⟩ (e_X6_lives l1 s2) w_M rfl rfl rfl rfl (Nat.le_of_ble_eq_true rfl) dX6_dies_17 (fun v3 s4 => ?_)
    refine rr_if_ne 30 (q := 23) rfl dX6_dies_20 rfl (fun _ => ?_) (fun _ => ?_)
    · refine rr_aload_n (q := 31) rfl dX6_dies_30 rfl ?_
      refine rr_cVi (q := 34) rfl V_X6_looseSet ml_X6_145 ⟨Nat.le_of_ble_eq_true rfl, Nat.le_of_ble_eq_true rfl⟩ (e_X6_looseSet s4) w_M rfl rfl rfl rfl (Nat.le_of_ble_eq_true rfl) dX6_dies_31 (fun v5 s6 => ?_)
      refine rr_istore_n (L2 := fun y7 => [some (.ref mb), some (.int l1), some (.int y7)]) (q := 35) rfl dX6_dies_34 (Nat.le_of_ble_eq_true rfl) (fun _ => rfl) (fun y7 => ?_)
      refine rr_aload_n (q := 36) rfl dX6_dies_35 rfl ?_
      refine rr_get (q := 39) rfl fl_X6_34 w_M rfl dX6_dies_36 ?_
      refine rr_bipush 15 (q := 41) rfl dX6_dies_39 rfl ?_
      refine rr_iload_n (q := 42) rfl dX6_dies_41 rfl ?_
      refine rr_iadd (q := 43) rfl dX6_dies_42 ?_
      refine rr_iconst 1 (q := 44) rfl dX6_dies_43 rfl ?_
      refine rr_iast (q := 45) rfl w_marr9 (fun _ => u_marr9) dX6_dies_44 (fun n8 s9 => ?_)
      refine rr_aload_n (q := 46) rfl dX6_dies_45 rfl ?_
      refine rr_cVi (q := 49) rfl V_X6_looseSet ml_X6_145 ⟨Nat.le_of_ble_eq_true rfl, Nat.le_of_ble_eq_true rfl⟩ (e_X6_looseSet s9) w_M rfl rfl rfl rfl (Nat.le_of_ble_eq_true rfl) dX6_dies_46 (fun v10 s11 => ?_)
      refine rr_iload_n (q := 50) rfl dX6_dies_49 rfl ?_
      refine rr_iconst (-1) (q := 51) rfl dX6_dies_50 rfl ?_
      refine rr_ixor (q := 52) rfl dX6_dies_51 ?_
      refine rr_iand (q := 53) rfl dX6_dies_52 ?_
      refine rr_cSi (q := 56) rfl V_X6_ones ml_X6_149 ⟨Nat.le_of_ble_eq_true rfl, Nat.le_of_ble_eq_true rfl⟩ (e_X6_ones (v10 &&& (y7 ^^^ (-1))) s11) rfl rfl (Nat.le_of_ble_eq_true rfl) dX6_dies_53 (fun v12 s13 => ?_)
      exact rr_iret dX6_dies_56 rfl
    · refine rr_aload_n (q := 24) rfl dX6_dies_23 rfl ?_
      refine rr_ldc (q := 26) rfl dX6_dies_24 kc_X6_139 ?_
      refine rr_cVi (q := 29) rfl V_X6_finds ml_X6_125 ⟨Nat.le_of_ble_eq_true rfl, Nat.le_of_ble_eq_true rfl⟩ (e_X6_finds (-1000000005) s4) w_M rfl rfl rfl rfl (Nat.le_of_ble_eq_true rfl) dX6_dies_26 (fun v14 s15 => ?_)
      exact rr_iret dX6_dies_29 rfl
  · refine rr_aload_n (q := 9) rfl dX6_dies_8 rfl ?_
    refine rr_ldc (q := 11) rfl dX6_dies_9 kc_X6_78 ?_
    refine rr_cVi (q := 14) rfl V_X6_finds ml_X6_125 ⟨Nat.le_of_ble_eq_true rfl, Nat.le_of_ble_eq_true rfl⟩ (e_X6_finds (-1000000001) s2) w_M rfl rfl rfl rfl (Nat.le_of_ble_eq_true rfl) dX6_dies_11 (fun v16 s17 => ?_)
    exact rr_iret dX6_dies_14 rfl
def fX6_swap (l1 : Int32) (l2 : Int32) (s : SM) : Option (Int32 × SM) :=
  bd (fX6_isChild l1 s) fun v1 s2 =>
  (if v1 = 0 then
  bd (fX6_finds (-1000000001) s2) fun v3 s4 =>
  some (v3, s4)
  else
  bd (fX6_isChild l2 s2) fun v5 s6 =>
  (if v5 = 0 then
  bd (fX6_finds (-1000000001) s6) fun v7 s8 =>
  some (v7, s8)
  else
  (if l1 = l2 then
  bd (fX6_finds (-1000000001) s6) fun v24 s25 =>
  some (v24, s25)
  else
  bd (fX6_lives l1 s6) fun v9 s10 =>
  (if v9 = 0 then
  bd (fX6_finds (-1000000005) s10) fun v11 s12 =>
  some (v11, s12)
  else
  bd (fX6_lives l2 s10) fun v13 s14 =>
  (if v13 = 0 then
  bd (fX6_finds (-1000000005) s14) fun v22 s23 =>
  some (v22, s23)
  else
  ixg (1 + l1) 82 fun n15 =>
  vl (gM s14 9 n15) fun y16 =>
  ixg (1 + l2) 82 fun n17 =>
  ixg (1 + l1) 82 fun n18 => vl (wM s14 9 n18 (gM s14 9 n17)) fun s19 =>
  ixg (1 + l2) 82 fun n20 => vl (wM s19 9 n20 y16) fun s21 =>
  some (1, s21))))))
set_option maxRecDepth 100000 in
set_option maxHeartbeats 4000000 in
theorem e_X6_swap {G : Cf} {x : SX} (l1 : Int32) (l2 : Int32) (s : SM) : Ct (wfM x) inI G M_X6_swap [.ref mb, .int l1, .int l2] s (fX6_swap l1 l2 s) := by
  refine Ct.of (L0 := [some (.ref mb), some (.int l1), some (.int l2), none]) 1 rfl rfl ⟨rfl, rfl⟩ (Nat.le_of_ble_eq_true rfl) rfl ?_
  unfold fX6_swap
  refine rr_aload_n (q := 1) rfl dX6_swap_0 rfl ?_
  refine rr_iload_n (q := 2) rfl dX6_swap_1 rfl ?_
  refine rr_cVi (q := 5) rfl V_X6_isChild ml_X6_136 ⟨Nat.le_of_ble_eq_true rfl, Nat.le_of_ble_eq_true rfl⟩ (e_X6_isChild l1 s) w_M rfl rfl rfl rfl (Nat.le_of_ble_eq_true rfl) dX6_swap_2 (fun v1 s2 => ?_)
  refine rr_if_eq 21 (q := 8) rfl dX6_swap_5 rfl (fun _ => ?_) (fun _ => ?_)
  · refine rr_aload_n (q := 22) rfl dX6_swap_21 rfl ?_
    refine rr_ldc (q := 24) rfl dX6_swap_22 kc_X6_78 ?_
    refine rr_cVi (q := 27) rfl V_X6_finds ml_X6_125 ⟨Nat.le_of_ble_eq_true rfl, Nat.le_of_ble_eq_true rfl⟩ (e_X6_finds (-1000000001) s2) w_M rfl rfl rfl rfl (Nat.le_of_ble_eq_true rfl) dX6_swap_24 (fun v3 s4 => ?_)
    exact rr_iret dX6_swap_27 rfl
  · refine rr_aload_n (q := 9) rfl dX6_swap_8 rfl ?_
    refine rr_iload_n (q := 10) rfl dX6_swap_9 rfl ?_
    refine rr_cVi (q := 13) rfl V_X6_isChild ml_X6_136 ⟨Nat.le_of_ble_eq_true rfl, Nat.le_of_ble_eq_true rfl⟩ (e_X6_isChild l2 s2) w_M rfl rfl rfl rfl (Nat.le_of_ble_eq_true rfl) dX6_swap_10 (fun v5 s6 => ?_)
    refine rr_if_eq 21 (q := 16) rfl dX6_swap_13 rfl (fun _ => ?_) (fun _ => ?_)
    · refine rr_aload_n (q := 22) rfl dX6_swap_21 rfl ?_
      refine rr_ldc (q := 24) rfl dX6_swap_22 kc_X6_78 ?_
      refine rr_cVi (q := 27) rfl V_X6_finds ml_X6_125 ⟨Nat.le_of_ble_eq_true rfl, Nat.le_of_ble_eq_true rfl⟩ (e_X6_finds (-1000000001) s6) w_M rfl rfl rfl rfl (Nat.le_of_ble_eq_true rfl) dX6_swap_24 (fun v7 s8 => ?_)
      exact rr_iret dX6_swap_27 rfl
    · refine rr_iload_n (q := 17) rfl dX6_swap_16 rfl ?_
      refine rr_iload_n (q := 18) rfl dX6_swap_17 rfl ?_
      refine rr_icmp_ne 28 (q := 21) rfl dX6_swap_18 rfl (fun _ => ?_) (fun _ => ?_)
      · refine rr_aload_n (q := 29) rfl dX6_swap_28 rfl ?_
        refine rr_iload_n (q := 30) rfl dX6_swap_29 rfl ?_
        refine rr_cVi (q := 33) rfl V_X6_lives ml_X6_97 ⟨Nat.le_of_ble_eq_true rfl, Nat.le_of_ble_eq_true rfl⟩ (e_X6_lives l1 s6) w_M rfl rfl rfl rfl (Nat.le_of_ble_eq_true rfl) dX6_swap_30 (fun v9 s10 => ?_)
        refine rr_if_eq 44 (q := 36) rfl dX6_swap_33 rfl (fun _ => ?_) (fun _ => ?_)
        · refine rr_aload_n (q := 45) rfl dX6_swap_44 rfl ?_
          refine rr_ldc (q := 47) rfl dX6_swap_45 kc_X6_139 ?_
          refine rr_cVi (q := 50) rfl V_X6_finds ml_X6_125 ⟨Nat.le_of_ble_eq_true rfl, Nat.le_of_ble_eq_true rfl⟩ (e_X6_finds (-1000000005) s10) w_M rfl rfl rfl rfl (Nat.le_of_ble_eq_true rfl) dX6_swap_47 (fun v11 s12 => ?_)
          exact rr_iret dX6_swap_50 rfl
        · refine rr_aload_n (q := 37) rfl dX6_swap_36 rfl ?_
          refine rr_iload_n (q := 38) rfl dX6_swap_37 rfl ?_
          refine rr_cVi (q := 41) rfl V_X6_lives ml_X6_97 ⟨Nat.le_of_ble_eq_true rfl, Nat.le_of_ble_eq_true rfl⟩ (e_X6_lives l2 s10) w_M rfl rfl rfl rfl (Nat.le_of_ble_eq_true rfl) dX6_swap_38 (fun v13 s14 => ?_)
          refine rr_if_ne 51 (q := 44) rfl dX6_swap_41 rfl (fun _ => ?_) (fun _ => ?_)
          · refine rr_aload_n (q := 52) rfl dX6_swap_51 rfl ?_
            refine rr_get (q := 55) rfl fl_X6_34 w_M rfl dX6_swap_52 ?_
            refine rr_iconst 1 (q := 56) rfl dX6_swap_55 rfl ?_
            refine rr_iload_n (q := 57) rfl dX6_swap_56 rfl ?_
            refine rr_iadd (q := 58) rfl dX6_swap_57 ?_
            refine rr_iald (q := 59) rfl w_marr9 dX6_swap_58 (fun n15 => ?_)
            refine rr_istore_n (L2 := fun y16 => [some (.ref mb), some (.int l1), some (.int l2), some (.int y16)]) (q := 60) rfl dX6_swap_59 (Nat.le_of_ble_eq_true rfl) (fun _ => rfl) (fun y16 => ?_)
            refine rr_aload_n (q := 61) rfl dX6_swap_60 rfl ?_
            refine rr_get (q := 64) rfl fl_X6_34 w_M rfl dX6_swap_61 ?_
            refine rr_iconst 1 (q := 65) rfl dX6_swap_64 rfl ?_
            refine rr_iload_n (q := 66) rfl dX6_swap_65 rfl ?_
            refine rr_iadd (q := 67) rfl dX6_swap_66 ?_
            refine rr_aload_n (q := 68) rfl dX6_swap_67 rfl ?_
            refine rr_get (q := 71) rfl fl_X6_34 w_M rfl dX6_swap_68 ?_
            refine rr_iconst 1 (q := 72) rfl dX6_swap_71 rfl ?_
            refine rr_iload_n (q := 73) rfl dX6_swap_72 rfl ?_
            refine rr_iadd (q := 74) rfl dX6_swap_73 ?_
            refine rr_iald (q := 75) rfl w_marr9 dX6_swap_74 (fun n17 => ?_)
            refine rr_iast (q := 76) rfl w_marr9 (fun _ => u_marr9) dX6_swap_75 (fun n18 s19 => ?_)
            refine rr_aload_n (q := 77) rfl dX6_swap_76 rfl ?_
            refine rr_get (q := 80) rfl fl_X6_34 w_M rfl dX6_swap_77 ?_
            refine rr_iconst 1 (q := 81) rfl dX6_swap_80 rfl ?_
            refine rr_iload_n (q := 82) rfl dX6_swap_81 rfl ?_
            refine rr_iadd (q := 83) rfl dX6_swap_82 ?_
            refine rr_iload_n (q := 84) rfl dX6_swap_83 rfl ?_
            refine rr_iast (q := 85) rfl w_marr9 (fun _ => u_marr9) dX6_swap_84 (fun n20 s21 => ?_)
            refine rr_iconst 1 (q := 86) rfl dX6_swap_85 rfl ?_
            exact rr_iret dX6_swap_86 rfl
          · refine rr_aload_n (q := 45) rfl dX6_swap_44 rfl ?_
            refine rr_ldc (q := 47) rfl dX6_swap_45 kc_X6_139 ?_
            refine rr_cVi (q := 50) rfl V_X6_finds ml_X6_125 ⟨Nat.le_of_ble_eq_true rfl, Nat.le_of_ble_eq_true rfl⟩ (e_X6_finds (-1000000005) s14) w_M rfl rfl rfl rfl (Nat.le_of_ble_eq_true rfl) dX6_swap_47 (fun v22 s23 => ?_)
            exact rr_iret dX6_swap_50 rfl
      · refine rr_aload_n (q := 22) rfl dX6_swap_21 rfl ?_
        refine rr_ldc (q := 24) rfl dX6_swap_22 kc_X6_78 ?_
        refine rr_cVi (q := 27) rfl V_X6_finds ml_X6_125 ⟨Nat.le_of_ble_eq_true rfl, Nat.le_of_ble_eq_true rfl⟩ (e_X6_finds (-1000000001) s6) w_M rfl rfl rfl rfl (Nat.le_of_ble_eq_true rfl) dX6_swap_24 (fun v24 s25 => ?_)
        exact rr_iret dX6_swap_27 rfl
def fX6_addTreaty (l1 : Int32) (l2 : Int32) (l3 : Int32) (l4 : Int32) (s : SM) : Option (Unit × SM) :=
  ixg (gM s 0 5) 12 fun n1 => vl (wM s 5 n1 l1) fun s2 =>
  ixg (gM s2 0 5) 12 fun n3 => vl (wM s2 6 n3 l2) fun s4 =>
  ixg (gM s4 0 5) 12 fun n5 => vl (wM s4 7 n5 l3) fun s6 =>
  ixg (gM s6 0 5) 12 fun n7 => vl (wM s6 8 n7 l4) fun s8 =>
  ixg (29 + (gM s8 0 5)) 82 fun n9 => vl (wM s8 9 n9 0) fun s10 =>
  vl (wM s10 0 5 ((gM s10 0 5) + 1)) fun s11 =>
  some ((), s11)
set_option maxRecDepth 100000 in
set_option maxHeartbeats 4000000 in
theorem e_X6_addTreaty {G : Cf} {x : SX} (l1 : Int32) (l2 : Int32) (l3 : Int32) (l4 : Int32) (s : SM) : Ct (wfM x) inU G M_X6_addTreaty [.ref mb, .int l1, .int l2, .int l3, .int l4] s (fX6_addTreaty l1 l2 l3 l4 s) := by
  refine Ct.of (L0 := [some (.ref mb), some (.int l1), some (.int l2), some (.int l3), some (.int l4)]) 0 rfl rfl ⟨rfl, rfl⟩ (Nat.le_of_ble_eq_true rfl) rfl ?_
  unfold fX6_addTreaty
  refine rr_aload_n (q := 1) rfl dX6_addTreaty_0 rfl ?_
  refine rr_get (q := 4) rfl fl_X6_22 w_M rfl dX6_addTreaty_1 ?_
  refine rr_aload_n (q := 5) rfl dX6_addTreaty_4 rfl ?_
  refine rr_get (q := 8) rfl fl_X6_87 w_M rfl dX6_addTreaty_5 ?_
  refine rr_iload_n (q := 9) rfl dX6_addTreaty_8 rfl ?_
  refine rr_iast (q := 10) rfl w_marr5 (fun _ => u_marr5) dX6_addTreaty_9 (fun n1 s2 => ?_)
  refine rr_aload_n (q := 11) rfl dX6_addTreaty_10 rfl ?_
  refine rr_get (q := 14) rfl fl_X6_25 w_M rfl dX6_addTreaty_11 ?_
  refine rr_aload_n (q := 15) rfl dX6_addTreaty_14 rfl ?_
  refine rr_get (q := 18) rfl fl_X6_87 w_M rfl dX6_addTreaty_15 ?_
  refine rr_iload_n (q := 19) rfl dX6_addTreaty_18 rfl ?_
  refine rr_iast (q := 20) rfl w_marr6 (fun _ => u_marr6) dX6_addTreaty_19 (fun n3 s4 => ?_)
  refine rr_aload_n (q := 21) rfl dX6_addTreaty_20 rfl ?_
  refine rr_get (q := 24) rfl fl_X6_28 w_M rfl dX6_addTreaty_21 ?_
  refine rr_aload_n (q := 25) rfl dX6_addTreaty_24 rfl ?_
  refine rr_get (q := 28) rfl fl_X6_87 w_M rfl dX6_addTreaty_25 ?_
  refine rr_iload_n (q := 29) rfl dX6_addTreaty_28 rfl ?_
  refine rr_iast (q := 30) rfl w_marr7 (fun _ => u_marr7) dX6_addTreaty_29 (fun n5 s6 => ?_)
  refine rr_aload_n (q := 31) rfl dX6_addTreaty_30 rfl ?_
  refine rr_get (q := 34) rfl fl_X6_31 w_M rfl dX6_addTreaty_31 ?_
  refine rr_aload_n (q := 35) rfl dX6_addTreaty_34 rfl ?_
  refine rr_get (q := 38) rfl fl_X6_87 w_M rfl dX6_addTreaty_35 ?_
  refine rr_iload (q := 40) rfl dX6_addTreaty_38 rfl ?_
  refine rr_iast (q := 41) rfl w_marr8 (fun _ => u_marr8) dX6_addTreaty_40 (fun n7 s8 => ?_)
  refine rr_aload_n (q := 42) rfl dX6_addTreaty_41 rfl ?_
  refine rr_get (q := 45) rfl fl_X6_34 w_M rfl dX6_addTreaty_42 ?_
  refine rr_bipush 29 (q := 47) rfl dX6_addTreaty_45 rfl ?_
  refine rr_aload_n (q := 48) rfl dX6_addTreaty_47 rfl ?_
  refine rr_get (q := 51) rfl fl_X6_87 w_M rfl dX6_addTreaty_48 ?_
  refine rr_iadd (q := 52) rfl dX6_addTreaty_51 ?_
  refine rr_iconst 0 (q := 53) rfl dX6_addTreaty_52 rfl ?_
  refine rr_iast (q := 54) rfl w_marr9 (fun _ => u_marr9) dX6_addTreaty_53 (fun n9 s10 => ?_)
  refine rr_aload_n (q := 55) rfl dX6_addTreaty_54 rfl ?_
  refine rr_dup (q := 56) rfl dX6_addTreaty_55 rfl ?_
  refine rr_get (q := 59) rfl fl_X6_87 w_M rfl dX6_addTreaty_56 ?_
  refine rr_iconst 1 (q := 60) rfl dX6_addTreaty_59 rfl ?_
  refine rr_iadd (q := 61) rfl dX6_addTreaty_60 ?_
  refine rr_puti (q := 64) rfl fl_X6_87 fp_X6_5 w_M (Nat.le_of_ble_eq_true rfl) u_M5 dX6_addTreaty_61 (fun s11 => ?_)
  exact rr_vret dX6_addTreaty_64 rfl
def fX6_treaty (l1 : Int32) (l2 : Int32) (l3 : Int32) (l4 : Int32) (s : SM) : Option (Int32 × SM) :=
  bd (fX6_isKing l1 s) fun v1 s2 =>
  (if v1 = 0 then
  bd (fX6_finds (-1000000001) s2) fun v3 s4 =>
  some (v3, s4)
  else
  bd (fX6_isKing l2 s2) fun v5 s6 =>
  (if v5 = 0 then
  bd (fX6_finds (-1000000001) s6) fun v7 s8 =>
  some (v7, s8)
  else
  (if l1 = l2 then
  bd (fX6_finds (-1000000001) s6) fun v9 s10 =>
  some (v9, s10)
  else
  bd (fX6_isLong l3 s6) fun v11 s12 =>
  (if v11 = 0 then
  bd (fX6_finds (-1000000001) s12) fun v13 s14 =>
  some (v13, s14)
  else
  bd (fX6_isLong l4 s12) fun v15 s16 =>
  (if v15 = 0 then
  bd (fX6_finds (-1000000001) s16) fun v20 s21 =>
  some (v20, s21)
  else
  (if (gM s16 0 5) = 12 then
  bd (fX6_finds (-1000000002) s16) fun v18 s19 =>
  some (v18, s19)
  else
  bd (fX6_addTreaty l1 l2 l3 l4 s16) fun _ s17 =>
  some ((gM s17 0 5) - 1, s17)))))))
set_option maxRecDepth 100000 in
set_option maxHeartbeats 4000000 in
theorem e_X6_treaty {G : Cf} {x : SX} (l1 : Int32) (l2 : Int32) (l3 : Int32) (l4 : Int32) (s : SM) : Ct (wfM x) inI G M_X6_treaty [.ref mb, .int l1, .int l2, .int l3, .int l4] s (fX6_treaty l1 l2 l3 l4 s) := by
  refine Ct.of (L0 := [some (.ref mb), some (.int l1), some (.int l2), some (.int l3), some (.int l4)]) 0 rfl rfl ⟨rfl, rfl⟩ (Nat.le_of_ble_eq_true rfl) rfl ?_
  unfold fX6_treaty
  refine rr_iload_n (q := 1) rfl dX6_treaty_0 rfl ?_
  refine rr_cSi (q := 4) rfl V_X6_isKing ml_X6_119 ⟨Nat.le_of_ble_eq_true rfl, Nat.le_of_ble_eq_true rfl⟩ (e_X6_isKing l1 s) rfl rfl (Nat.le_of_ble_eq_true rfl) dX6_treaty_1 (fun v1 s2 => ?_)
  refine rr_if_eq 34 (q := 7) rfl dX6_treaty_4 rfl (fun _ => ?_) (fun _ => ?_)
  · refine rr_aload_n (q := 35) rfl dX6_treaty_34 rfl ?_
    refine rr_ldc (q := 37) rfl dX6_treaty_35 kc_X6_78 ?_
    refine rr_cVi (q := 40) rfl V_X6_finds ml_X6_125 ⟨Nat.le_of_ble_eq_true rfl, Nat.le_of_ble_eq_true rfl⟩ (e_X6_finds (-1000000001) s2) w_M rfl rfl rfl rfl (Nat.le_of_ble_eq_true rfl) dX6_treaty_37 (fun v3 s4 => ?_)
    exact rr_iret dX6_treaty_40 rfl
  · refine rr_iload_n (q := 8) rfl dX6_treaty_7 rfl ?_
    refine rr_cSi (q := 11) rfl V_X6_isKing ml_X6_119 ⟨Nat.le_of_ble_eq_true rfl, Nat.le_of_ble_eq_true rfl⟩ (e_X6_isKing l2 s2) rfl rfl (Nat.le_of_ble_eq_true rfl) dX6_treaty_8 (fun v5 s6 => ?_)
    refine rr_if_eq 34 (q := 14) rfl dX6_treaty_11 rfl (fun _ => ?_) (fun _ => ?_)
    · refine rr_aload_n (q := 35) rfl dX6_treaty_34 rfl ?_
      refine rr_ldc (q := 37) rfl dX6_treaty_35 kc_X6_78 ?_
      refine rr_cVi (q := 40) rfl V_X6_finds ml_X6_125 ⟨Nat.le_of_ble_eq_true rfl, Nat.le_of_ble_eq_true rfl⟩ (e_X6_finds (-1000000001) s6) w_M rfl rfl rfl rfl (Nat.le_of_ble_eq_true rfl) dX6_treaty_37 (fun v7 s8 => ?_)
      exact rr_iret dX6_treaty_40 rfl
    · refine rr_iload_n (q := 15) rfl dX6_treaty_14 rfl ?_
      refine rr_iload_n (q := 16) rfl dX6_treaty_15 rfl ?_
      refine rr_icmp_eq 34 (q := 19) rfl dX6_treaty_16 rfl (fun _ => ?_) (fun _ => ?_)
      · refine rr_aload_n (q := 35) rfl dX6_treaty_34 rfl ?_
        refine rr_ldc (q := 37) rfl dX6_treaty_35 kc_X6_78 ?_
        refine rr_cVi (q := 40) rfl V_X6_finds ml_X6_125 ⟨Nat.le_of_ble_eq_true rfl, Nat.le_of_ble_eq_true rfl⟩ (e_X6_finds (-1000000001) s6) w_M rfl rfl rfl rfl (Nat.le_of_ble_eq_true rfl) dX6_treaty_37 (fun v9 s10 => ?_)
        exact rr_iret dX6_treaty_40 rfl
      · refine rr_iload_n (q := 20) rfl dX6_treaty_19 rfl ?_
        refine rr_cSi (q := 23) rfl V_X6_isLong ml_X6_152 ⟨Nat.le_of_ble_eq_true rfl, Nat.le_of_ble_eq_true rfl⟩ (e_X6_isLong l3 s6) rfl rfl (Nat.le_of_ble_eq_true rfl) dX6_treaty_20 (fun v11 s12 => ?_)
        refine rr_if_eq 34 (q := 26) rfl dX6_treaty_23 rfl (fun _ => ?_) (fun _ => ?_)
        · refine rr_aload_n (q := 35) rfl dX6_treaty_34 rfl ?_
          refine rr_ldc (q := 37) rfl dX6_treaty_35 kc_X6_78 ?_
          refine rr_cVi (q := 40) rfl V_X6_finds ml_X6_125 ⟨Nat.le_of_ble_eq_true rfl, Nat.le_of_ble_eq_true rfl⟩ (e_X6_finds (-1000000001) s12) w_M rfl rfl rfl rfl (Nat.le_of_ble_eq_true rfl) dX6_treaty_37 (fun v13 s14 => ?_)
          exact rr_iret dX6_treaty_40 rfl
        · refine rr_iload (q := 28) rfl dX6_treaty_26 rfl ?_
          refine rr_cSi (q := 31) rfl V_X6_isLong ml_X6_152 ⟨Nat.le_of_ble_eq_true rfl, Nat.le_of_ble_eq_true rfl⟩ (e_X6_isLong l4 s12) rfl rfl (Nat.le_of_ble_eq_true rfl) dX6_treaty_28 (fun v15 s16 => ?_)
          refine rr_if_ne 41 (q := 34) rfl dX6_treaty_31 rfl (fun _ => ?_) (fun _ => ?_)
          · refine rr_aload_n (q := 42) rfl dX6_treaty_41 rfl ?_
            refine rr_get (q := 45) rfl fl_X6_87 w_M rfl dX6_treaty_42 ?_
            refine rr_bipush 12 (q := 47) rfl dX6_treaty_45 rfl ?_
            refine rr_icmp_ne 57 (q := 50) rfl dX6_treaty_47 rfl (fun _ => ?_) (fun _ => ?_)
            · refine rr_aload_n (q := 58) rfl dX6_treaty_57 rfl ?_
              refine rr_iload_n (q := 59) rfl dX6_treaty_58 rfl ?_
              refine rr_iload_n (q := 60) rfl dX6_treaty_59 rfl ?_
              refine rr_iload_n (q := 61) rfl dX6_treaty_60 rfl ?_
              refine rr_iload (q := 63) rfl dX6_treaty_61 rfl ?_
              refine rr_cVu (q := 66) rfl V_X6_addTreaty ml_X6_155 ⟨Nat.le_of_ble_eq_true rfl, Nat.le_of_ble_eq_true rfl⟩ (e_X6_addTreaty l1 l2 l3 l4 s16) w_M rfl rfl rfl rfl (Nat.le_of_ble_eq_true rfl) dX6_treaty_63 (fun _ s17 => ?_)
              refine rr_aload_n (q := 67) rfl dX6_treaty_66 rfl ?_
              refine rr_get (q := 70) rfl fl_X6_87 w_M rfl dX6_treaty_67 ?_
              refine rr_iconst 1 (q := 71) rfl dX6_treaty_70 rfl ?_
              refine rr_isub (q := 72) rfl dX6_treaty_71 ?_
              exact rr_iret dX6_treaty_72 rfl
            · refine rr_aload_n (q := 51) rfl dX6_treaty_50 rfl ?_
              refine rr_ldc (q := 53) rfl dX6_treaty_51 kc_X6_131 ?_
              refine rr_cVi (q := 56) rfl V_X6_finds ml_X6_125 ⟨Nat.le_of_ble_eq_true rfl, Nat.le_of_ble_eq_true rfl⟩ (e_X6_finds (-1000000002) s16) w_M rfl rfl rfl rfl (Nat.le_of_ble_eq_true rfl) dX6_treaty_53 (fun v18 s19 => ?_)
              exact rr_iret dX6_treaty_56 rfl
          · refine rr_aload_n (q := 35) rfl dX6_treaty_34 rfl ?_
            refine rr_ldc (q := 37) rfl dX6_treaty_35 kc_X6_78 ?_
            refine rr_cVi (q := 40) rfl V_X6_finds ml_X6_125 ⟨Nat.le_of_ble_eq_true rfl, Nat.le_of_ble_eq_true rfl⟩ (e_X6_finds (-1000000001) s16) w_M rfl rfl rfl rfl (Nat.le_of_ble_eq_true rfl) dX6_treaty_37 (fun v20 s21 => ?_)
            exact rr_iret dX6_treaty_40 rfl
def fX6_treatyOf (l1 : Int32) (l2 : Int32) (s : SM) : Option (Int32 × SM) :=
  bd (fX6_isTreaty l1 s) fun v1 s2 =>
  (if v1 = 0 then
  bd (fX6_finds (-1000000001) s2) fun v3 s4 =>
  some (v3, s4)
  else
  bd (fX6_in l2 0 6 s2) fun v5 s6 =>
  (if v5 = 0 then
  bd (fX6_finds (-1000000001) s6) fun v24 s25 =>
  some (v24, s25)
  else
  (if l2 = 0 then
  ixg l1 12 fun n7 =>
  some (gM s6 5 n7, s6)
  else
  (if l2 = 1 then
  ixg l1 12 fun n9 =>
  some (gM s6 6 n9, s6)
  else
  (if l2 = 2 then
  ixg l1 12 fun n11 =>
  some (gM s6 7 n11, s6)
  else
  (if l2 = 3 then
  ixg l1 12 fun n13 =>
  some (gM s6 8 n13, s6)
  else
  (if l2 = 4 then
  ixg (29 + l1) 82 fun n15 =>
  some (gM s6 9 n15, s6)
  else
  (if l2 = 5 then
  bd (fX6_isInForce l1 s6) fun v17 s18 =>
  (if v17 = 0 then
  some (0, s18)
  else
  some (1, s18))
  else
  bd (fX6_looseSet s6) fun v20 s21 =>
  bd (fX6_has v20 l1 s21) fun v22 s23 =>
  (if v22 = 0 then
  some (0, s23)
  else
  some (1, s23))))))))))
set_option maxRecDepth 100000 in
set_option maxHeartbeats 4000000 in
theorem e_X6_treatyOf {G : Cf} {x : SX} (l1 : Int32) (l2 : Int32) (s : SM) : Ct (wfM x) inI G M_X6_treatyOf [.ref mb, .int l1, .int l2] s (fX6_treatyOf l1 l2 s) := by
  refine Ct.of (L0 := [some (.ref mb), some (.int l1), some (.int l2)]) 0 rfl rfl ⟨rfl, rfl⟩ (Nat.le_of_ble_eq_true rfl) rfl ?_
  unfold fX6_treatyOf
  refine rr_aload_n (q := 1) rfl dX6_treatyOf_0 rfl ?_
  refine rr_iload_n (q := 2) rfl dX6_treatyOf_1 rfl ?_
  refine rr_cVi (q := 5) rfl V_X6_isTreaty ml_X6_158 ⟨Nat.le_of_ble_eq_true rfl, Nat.le_of_ble_eq_true rfl⟩ (e_X6_isTreaty l1 s) w_M rfl rfl rfl rfl (Nat.le_of_ble_eq_true rfl) dX6_treatyOf_2 (fun v1 s2 => ?_)
  refine rr_if_eq 18 (q := 8) rfl dX6_treatyOf_5 rfl (fun _ => ?_) (fun _ => ?_)
  · refine rr_aload_n (q := 19) rfl dX6_treatyOf_18 rfl ?_
    refine rr_ldc (q := 21) rfl dX6_treatyOf_19 kc_X6_78 ?_
    refine rr_cVi (q := 24) rfl V_X6_finds ml_X6_125 ⟨Nat.le_of_ble_eq_true rfl, Nat.le_of_ble_eq_true rfl⟩ (e_X6_finds (-1000000001) s2) w_M rfl rfl rfl rfl (Nat.le_of_ble_eq_true rfl) dX6_treatyOf_21 (fun v3 s4 => ?_)
    exact rr_iret dX6_treatyOf_24 rfl
  · refine rr_iload_n (q := 9) rfl dX6_treatyOf_8 rfl ?_
    refine rr_iconst 0 (q := 10) rfl dX6_treatyOf_9 rfl ?_
    refine rr_bipush 6 (q := 12) rfl dX6_treatyOf_10 rfl ?_
    refine rr_cSi (q := 15) rfl V_X6_in ml_X6_79 ⟨Nat.le_of_ble_eq_true rfl, Nat.le_of_ble_eq_true rfl⟩ (e_X6_in l2 0 6 s2) rfl rfl (Nat.le_of_ble_eq_true rfl) dX6_treatyOf_12 (fun v5 s6 => ?_)
    refine rr_if_ne 25 (q := 18) rfl dX6_treatyOf_15 rfl (fun _ => ?_) (fun _ => ?_)
    · refine rr_iload_n (q := 26) rfl dX6_treatyOf_25 rfl ?_
      refine rr_case 0 ?_ (fun hs8 => ?_)
      · refine rr_tableIn 64 dX6_treatyOf_26 (by decide) (by decide) rfl rfl ?_
        refine rr_aload_n (q := 65) rfl dX6_treatyOf_64 rfl ?_
        refine rr_get (q := 68) rfl fl_X6_22 w_M rfl dX6_treatyOf_65 ?_
        refine rr_iload_n (q := 69) rfl dX6_treatyOf_68 rfl ?_
        refine rr_iald (q := 70) rfl w_marr5 dX6_treatyOf_69 (fun n7 => ?_)
        exact rr_iret dX6_treatyOf_70 rfl
      · refine rr_case 1 ?_ (fun hs10 => ?_)
        · refine rr_tableIn 71 dX6_treatyOf_26 (by decide) (by decide) rfl rfl ?_
          refine rr_aload_n (q := 72) rfl dX6_treatyOf_71 rfl ?_
          refine rr_get (q := 75) rfl fl_X6_25 w_M rfl dX6_treatyOf_72 ?_
          refine rr_iload_n (q := 76) rfl dX6_treatyOf_75 rfl ?_
          refine rr_iald (q := 77) rfl w_marr6 dX6_treatyOf_76 (fun n9 => ?_)
          exact rr_iret dX6_treatyOf_77 rfl
        · refine rr_case 2 ?_ (fun hs12 => ?_)
          · refine rr_tableIn 78 dX6_treatyOf_26 (by decide) (by decide) rfl rfl ?_
            refine rr_aload_n (q := 79) rfl dX6_treatyOf_78 rfl ?_
            refine rr_get (q := 82) rfl fl_X6_28 w_M rfl dX6_treatyOf_79 ?_
            refine rr_iload_n (q := 83) rfl dX6_treatyOf_82 rfl ?_
            refine rr_iald (q := 84) rfl w_marr7 dX6_treatyOf_83 (fun n11 => ?_)
            exact rr_iret dX6_treatyOf_84 rfl
          · refine rr_case 3 ?_ (fun hs14 => ?_)
            · refine rr_tableIn 85 dX6_treatyOf_26 (by decide) (by decide) rfl rfl ?_
              refine rr_aload_n (q := 86) rfl dX6_treatyOf_85 rfl ?_
              refine rr_get (q := 89) rfl fl_X6_31 w_M rfl dX6_treatyOf_86 ?_
              refine rr_iload_n (q := 90) rfl dX6_treatyOf_89 rfl ?_
              refine rr_iald (q := 91) rfl w_marr8 dX6_treatyOf_90 (fun n13 => ?_)
              exact rr_iret dX6_treatyOf_91 rfl
            · refine rr_case 4 ?_ (fun hs16 => ?_)
              · refine rr_tableIn 92 dX6_treatyOf_26 (by decide) (by decide) rfl rfl ?_
                refine rr_aload_n (q := 93) rfl dX6_treatyOf_92 rfl ?_
                refine rr_get (q := 96) rfl fl_X6_34 w_M rfl dX6_treatyOf_93 ?_
                refine rr_bipush 29 (q := 98) rfl dX6_treatyOf_96 rfl ?_
                refine rr_iload_n (q := 99) rfl dX6_treatyOf_98 rfl ?_
                refine rr_iadd (q := 100) rfl dX6_treatyOf_99 ?_
                refine rr_iald (q := 101) rfl w_marr9 dX6_treatyOf_100 (fun n15 => ?_)
                exact rr_iret dX6_treatyOf_101 rfl
              · refine rr_case 5 ?_ (fun hs19 => ?_)
                · refine rr_tableIn 102 dX6_treatyOf_26 (by decide) (by decide) rfl rfl ?_
                  refine rr_aload_n (q := 103) rfl dX6_treatyOf_102 rfl ?_
                  refine rr_iload_n (q := 104) rfl dX6_treatyOf_103 rfl ?_
                  refine rr_cVi (q := 107) rfl V_X6_isInForce ml_X6_113 ⟨Nat.le_of_ble_eq_true rfl, Nat.le_of_ble_eq_true rfl⟩ (e_X6_isInForce l1 s6) w_M rfl rfl rfl rfl (Nat.le_of_ble_eq_true rfl) dX6_treatyOf_104 (fun v17 s18 => ?_)
                  refine rr_if_eq 114 (q := 110) rfl dX6_treatyOf_107 rfl (fun _ => ?_) (fun _ => ?_)
                  · refine rr_iconst 0 (q := 115) rfl dX6_treatyOf_114 rfl ?_
                    exact rr_iret dX6_treatyOf_115 rfl
                  · refine rr_iconst 1 (q := 111) rfl dX6_treatyOf_110 rfl ?_
                    refine rr_goto 115 dX6_treatyOf_111 rfl ?_
                    exact rr_iret dX6_treatyOf_115 rfl
                · refine rr_tableOut 116 dX6_treatyOf_26 (by have ahs8 := ne_lit (n := 0) hs8 rfl; have ahs10 := ne_lit (n := 1) hs10 rfl; have ahs12 := ne_lit (n := 2) hs12 rfl; have ahs14 := ne_lit (n := 3) hs14 rfl; have ahs16 := ne_lit (n := 4) hs16 rfl; have ahs19 := ne_lit (n := 5) hs19 rfl; omega) rfl ?_
                  refine rr_aload_n (q := 117) rfl dX6_treatyOf_116 rfl ?_
                  refine rr_cVi (q := 120) rfl V_X6_looseSet ml_X6_145 ⟨Nat.le_of_ble_eq_true rfl, Nat.le_of_ble_eq_true rfl⟩ (e_X6_looseSet s6) w_M rfl rfl rfl rfl (Nat.le_of_ble_eq_true rfl) dX6_treatyOf_117 (fun v20 s21 => ?_)
                  refine rr_iload_n (q := 121) rfl dX6_treatyOf_120 rfl ?_
                  refine rr_cSi (q := 124) rfl V_X6_has ml_X6_161 ⟨Nat.le_of_ble_eq_true rfl, Nat.le_of_ble_eq_true rfl⟩ (e_X6_has v20 l1 s21) rfl rfl (Nat.le_of_ble_eq_true rfl) dX6_treatyOf_121 (fun v22 s23 => ?_)
                  refine rr_if_eq 131 (q := 127) rfl dX6_treatyOf_124 rfl (fun _ => ?_) (fun _ => ?_)
                  · refine rr_iconst 0 (q := 132) rfl dX6_treatyOf_131 rfl ?_
                    exact rr_iret dX6_treatyOf_132 rfl
                  · refine rr_iconst 1 (q := 128) rfl dX6_treatyOf_127 rfl ?_
                    refine rr_goto 132 dX6_treatyOf_128 rfl ?_
                    exact rr_iret dX6_treatyOf_132 rfl
    · refine rr_aload_n (q := 19) rfl dX6_treatyOf_18 rfl ?_
      refine rr_ldc (q := 21) rfl dX6_treatyOf_19 kc_X6_78 ?_
      refine rr_cVi (q := 24) rfl V_X6_finds ml_X6_125 ⟨Nat.le_of_ble_eq_true rfl, Nat.le_of_ble_eq_true rfl⟩ (e_X6_finds (-1000000001) s6) w_M rfl rfl rfl rfl (Nat.le_of_ble_eq_true rfl) dX6_treatyOf_21 (fun v24 s25 => ?_)
      exact rr_iret dX6_treatyOf_24 rfl
def fX6_gain (l1 : Int32) (l2 : Int32) (s : SM) : Option (Int32 × SM) :=
  bd (fX6_isTreaty l1 s) fun v1 s2 =>
  (if v1 = 0 then
  bd (fX6_finds (-1000000001) s2) fun v3 s4 =>
  some (v3, s4)
  else
  bd (fX6_isLong l2 s2) fun v5 s6 =>
  (if v5 = 0 then
  bd (fX6_finds (-1000000001) s6) fun v11 s12 =>
  some (v11, s12)
  else
  ixg l1 12 fun n7 =>
  vl (gM s6 7 n7) fun y8 =>
  ixg l1 12 fun n9 => vl (wM s6 7 n9 l2) fun s10 =>
  some (y8, s10)))
set_option maxRecDepth 100000 in
set_option maxHeartbeats 4000000 in
theorem e_X6_gain {G : Cf} {x : SX} (l1 : Int32) (l2 : Int32) (s : SM) : Ct (wfM x) inI G M_X6_gain [.ref mb, .int l1, .int l2] s (fX6_gain l1 l2 s) := by
  refine Ct.of (L0 := [some (.ref mb), some (.int l1), some (.int l2), none]) 1 rfl rfl ⟨rfl, rfl⟩ (Nat.le_of_ble_eq_true rfl) rfl ?_
  unfold fX6_gain
  refine rr_aload_n (q := 1) rfl dX6_gain_0 rfl ?_
  refine rr_iload_n (q := 2) rfl dX6_gain_1 rfl ?_
  refine rr_cVi (q := 5) rfl V_X6_isTreaty ml_X6_158 ⟨Nat.le_of_ble_eq_true rfl, Nat.le_of_ble_eq_true rfl⟩ (e_X6_isTreaty l1 s) w_M rfl rfl rfl rfl (Nat.le_of_ble_eq_true rfl) dX6_gain_2 (fun v1 s2 => ?_)
  refine rr_if_eq 15 (q := 8) rfl dX6_gain_5 rfl (fun _ => ?_) (fun _ => ?_)
  · refine rr_aload_n (q := 16) rfl dX6_gain_15 rfl ?_
    refine rr_ldc (q := 18) rfl dX6_gain_16 kc_X6_78 ?_
    refine rr_cVi (q := 21) rfl V_X6_finds ml_X6_125 ⟨Nat.le_of_ble_eq_true rfl, Nat.le_of_ble_eq_true rfl⟩ (e_X6_finds (-1000000001) s2) w_M rfl rfl rfl rfl (Nat.le_of_ble_eq_true rfl) dX6_gain_18 (fun v3 s4 => ?_)
    exact rr_iret dX6_gain_21 rfl
  · refine rr_iload_n (q := 9) rfl dX6_gain_8 rfl ?_
    refine rr_cSi (q := 12) rfl V_X6_isLong ml_X6_152 ⟨Nat.le_of_ble_eq_true rfl, Nat.le_of_ble_eq_true rfl⟩ (e_X6_isLong l2 s2) rfl rfl (Nat.le_of_ble_eq_true rfl) dX6_gain_9 (fun v5 s6 => ?_)
    refine rr_if_ne 22 (q := 15) rfl dX6_gain_12 rfl (fun _ => ?_) (fun _ => ?_)
    · refine rr_aload_n (q := 23) rfl dX6_gain_22 rfl ?_
      refine rr_get (q := 26) rfl fl_X6_28 w_M rfl dX6_gain_23 ?_
      refine rr_iload_n (q := 27) rfl dX6_gain_26 rfl ?_
      refine rr_iald (q := 28) rfl w_marr7 dX6_gain_27 (fun n7 => ?_)
      refine rr_istore_n (L2 := fun y8 => [some (.ref mb), some (.int l1), some (.int l2), some (.int y8)]) (q := 29) rfl dX6_gain_28 (Nat.le_of_ble_eq_true rfl) (fun _ => rfl) (fun y8 => ?_)
      refine rr_aload_n (q := 30) rfl dX6_gain_29 rfl ?_
      refine rr_get (q := 33) rfl fl_X6_28 w_M rfl dX6_gain_30 ?_
      refine rr_iload_n (q := 34) rfl dX6_gain_33 rfl ?_
      refine rr_iload_n (q := 35) rfl dX6_gain_34 rfl ?_
      refine rr_iast (q := 36) rfl w_marr7 (fun _ => u_marr7) dX6_gain_35 (fun n9 s10 => ?_)
      refine rr_iload_n (q := 37) rfl dX6_gain_36 rfl ?_
      exact rr_iret dX6_gain_37 rfl
    · refine rr_aload_n (q := 16) rfl dX6_gain_15 rfl ?_
      refine rr_ldc (q := 18) rfl dX6_gain_16 kc_X6_78 ?_
      refine rr_cVi (q := 21) rfl V_X6_finds ml_X6_125 ⟨Nat.le_of_ble_eq_true rfl, Nat.le_of_ble_eq_true rfl⟩ (e_X6_finds (-1000000001) s6) w_M rfl rfl rfl rfl (Nat.le_of_ble_eq_true rfl) dX6_gain_18 (fun v11 s12 => ?_)
      exact rr_iret dX6_gain_21 rfl
def fX6_areTwo (l0 : Int32) (l1 : Int32) (s : SM) : Option (Int32 × SM) :=
  bd (fX6_isKing l0 s) fun v1 s2 =>
  (if v1 = 0 then
  some (0, s2)
  else
  bd (fX6_isKing l1 s2) fun v3 s4 =>
  (if v3 = 0 then
  some (0, s4)
  else
  (if l0 = l1 then
  some (0, s4)
  else
  some (1, s4))))
set_option maxRecDepth 100000 in
set_option maxHeartbeats 4000000 in
theorem e_X6_areTwo {G : Cf} {x : SX} (l0 : Int32) (l1 : Int32) (s : SM) : Ct (wfM x) inI G M_X6_areTwo [.int l0, .int l1] s (fX6_areTwo l0 l1 s) := by
  refine Ct.of (L0 := [some (.int l0), some (.int l1)]) 0 rfl rfl ⟨rfl, rfl⟩ (Nat.le_of_ble_eq_true rfl) rfl ?_
  unfold fX6_areTwo
  refine rr_iload_n (q := 1) rfl dX6_areTwo_0 rfl ?_
  refine rr_cSi (q := 4) rfl V_X6_isKing ml_X6_119 ⟨Nat.le_of_ble_eq_true rfl, Nat.le_of_ble_eq_true rfl⟩ (e_X6_isKing l0 s) rfl rfl (Nat.le_of_ble_eq_true rfl) dX6_areTwo_1 (fun v1 s2 => ?_)
  refine rr_if_eq 23 (q := 7) rfl dX6_areTwo_4 rfl (fun _ => ?_) (fun _ => ?_)
  · refine rr_iconst 0 (q := 24) rfl dX6_areTwo_23 rfl ?_
    exact rr_zret dX6_areTwo_24 rfl (Or.inl rfl)
  · refine rr_iload_n (q := 8) rfl dX6_areTwo_7 rfl ?_
    refine rr_cSi (q := 11) rfl V_X6_isKing ml_X6_119 ⟨Nat.le_of_ble_eq_true rfl, Nat.le_of_ble_eq_true rfl⟩ (e_X6_isKing l1 s2) rfl rfl (Nat.le_of_ble_eq_true rfl) dX6_areTwo_8 (fun v3 s4 => ?_)
    refine rr_if_eq 23 (q := 14) rfl dX6_areTwo_11 rfl (fun _ => ?_) (fun _ => ?_)
    · refine rr_iconst 0 (q := 24) rfl dX6_areTwo_23 rfl ?_
      exact rr_zret dX6_areTwo_24 rfl (Or.inl rfl)
    · refine rr_iload_n (q := 15) rfl dX6_areTwo_14 rfl ?_
      refine rr_iload_n (q := 16) rfl dX6_areTwo_15 rfl ?_
      refine rr_icmp_eq 23 (q := 19) rfl dX6_areTwo_16 rfl (fun _ => ?_) (fun _ => ?_)
      · refine rr_iconst 0 (q := 24) rfl dX6_areTwo_23 rfl ?_
        exact rr_zret dX6_areTwo_24 rfl (Or.inl rfl)
      · refine rr_iconst 1 (q := 20) rfl dX6_areTwo_19 rfl ?_
        refine rr_goto 24 dX6_areTwo_20 rfl ?_
        exact rr_zret dX6_areTwo_24 rfl (Or.inr rfl)
def fX6_pledge (l1 : Int32) (l2 : Int32) (s : SM) : Option (Int32 × SM) :=
  bd (fX6_areTwo l1 l2 s) fun v1 s2 =>
  (if v1 = 0 then
  bd (fX6_finds (-1000000001) s2) fun v5 s6 =>
  some (v5, s6)
  else
  bd (fX6_findPledges s2) fun _ s3 =>
  ixg ((6 * l1) + l2) 36 fun n4 =>
  some (gM s3 11 n4, s3))
set_option maxRecDepth 100000 in
set_option maxHeartbeats 4000000 in
theorem e_X6_pledge {G : Cf} {x : SX} (l1 : Int32) (l2 : Int32) (s : SM) : Ct (wfM x) inI G M_X6_pledge [.ref mb, .int l1, .int l2] s (fX6_pledge l1 l2 s) := by
  refine Ct.of (L0 := [some (.ref mb), some (.int l1), some (.int l2)]) 0 rfl rfl ⟨rfl, rfl⟩ (Nat.le_of_ble_eq_true rfl) rfl ?_
  unfold fX6_pledge
  refine rr_iload_n (q := 1) rfl dX6_pledge_0 rfl ?_
  refine rr_iload_n (q := 2) rfl dX6_pledge_1 rfl ?_
  refine rr_cSi (q := 5) rfl V_X6_areTwo ml_X6_164 ⟨Nat.le_of_ble_eq_true rfl, Nat.le_of_ble_eq_true rfl⟩ (e_X6_areTwo l1 l2 s) rfl rfl (Nat.le_of_ble_eq_true rfl) dX6_pledge_2 (fun v1 s2 => ?_)
  refine rr_if_ne 15 (q := 8) rfl dX6_pledge_5 rfl (fun _ => ?_) (fun _ => ?_)
  · refine rr_aload_n (q := 16) rfl dX6_pledge_15 rfl ?_
    refine rr_cVu (q := 19) rfl V_X6_findPledges ml_X6_110 ⟨Nat.le_of_ble_eq_true rfl, Nat.le_of_ble_eq_true rfl⟩ (e_X6_findPledges s2) w_M rfl rfl rfl rfl (Nat.le_of_ble_eq_true rfl) dX6_pledge_16 (fun _ s3 => ?_)
    refine rr_aload_n (q := 20) rfl dX6_pledge_19 rfl ?_
    refine rr_get (q := 23) rfl fl_X6_40 w_M rfl dX6_pledge_20 ?_
    refine rr_bipush 6 (q := 25) rfl dX6_pledge_23 rfl ?_
    refine rr_iload_n (q := 26) rfl dX6_pledge_25 rfl ?_
    refine rr_imul (q := 27) rfl dX6_pledge_26 ?_
    refine rr_iload_n (q := 28) rfl dX6_pledge_27 rfl ?_
    refine rr_iadd (q := 29) rfl dX6_pledge_28 ?_
    refine rr_iald (q := 30) rfl w_marr11 dX6_pledge_29 (fun n4 => ?_)
    exact rr_iret dX6_pledge_30 rfl
  · refine rr_aload_n (q := 9) rfl dX6_pledge_8 rfl ?_
    refine rr_ldc (q := 11) rfl dX6_pledge_9 kc_X6_78 ?_
    refine rr_cVi (q := 14) rfl V_X6_finds ml_X6_125 ⟨Nat.le_of_ble_eq_true rfl, Nat.le_of_ble_eq_true rfl⟩ (e_X6_finds (-1000000001) s2) w_M rfl rfl rfl rfl (Nat.le_of_ble_eq_true rfl) dX6_pledge_11 (fun v5 s6 => ?_)
    exact rr_iret dX6_pledge_14 rfl
def fX6_ease (l1 : Int32) (s : SM) : Option (Int32 × SM) :=
  bd (fX6_isTreaty l1 s) fun v1 s2 =>
  (if v1 = 0 then
  bd (fX6_finds (-1000000001) s2) fun v10 s11 =>
  some (v10, s11)
  else
  bd (fX6_isInForce l1 s2) fun v3 s4 =>
  (if v3 = 0 then
  bd (fX6_finds (-1000000005) s4) fun v8 s9 =>
  some (v8, s9)
  else
  bd (fX6_findPledges s4) fun _ s5 =>
  bd (fX6_easeOf l1 s5) fun v6 s7 =>
  some (v6, s7)))
set_option maxRecDepth 100000 in
set_option maxHeartbeats 4000000 in
theorem e_X6_ease {G : Cf} {x : SX} (l1 : Int32) (s : SM) : Ct (wfM x) inI G M_X6_ease [.ref mb, .int l1] s (fX6_ease l1 s) := by
  refine Ct.of (L0 := [some (.ref mb), some (.int l1)]) 0 rfl rfl ⟨rfl, rfl⟩ (Nat.le_of_ble_eq_true rfl) rfl ?_
  unfold fX6_ease
  refine rr_aload_n (q := 1) rfl dX6_ease_0 rfl ?_
  refine rr_iload_n (q := 2) rfl dX6_ease_1 rfl ?_
  refine rr_cVi (q := 5) rfl V_X6_isTreaty ml_X6_158 ⟨Nat.le_of_ble_eq_true rfl, Nat.le_of_ble_eq_true rfl⟩ (e_X6_isTreaty l1 s) w_M rfl rfl rfl rfl (Nat.le_of_ble_eq_true rfl) dX6_ease_2 (fun v1 s2 => ?_)
  refine rr_if_ne 15 (q := 8) rfl dX6_ease_5 rfl (fun _ => ?_) (fun _ => ?_)
  · refine rr_aload_n (q := 16) rfl dX6_ease_15 rfl ?_
    refine rr_iload_n (q := 17) rfl dX6_ease_16 rfl ?_
    refine rr_cVi (q := 20) rfl V_X6_isInForce ml_X6_113 ⟨Nat.le_of_ble_eq_true rfl, Nat.le_of_ble_eq_true rfl⟩ (e_X6_isInForce l1 s2) w_M rfl rfl rfl rfl (Nat.le_of_ble_eq_true rfl) dX6_ease_17 (fun v3 s4 => ?_)
    refine rr_if_ne 30 (q := 23) rfl dX6_ease_20 rfl (fun _ => ?_) (fun _ => ?_)
    · refine rr_aload_n (q := 31) rfl dX6_ease_30 rfl ?_
      refine rr_cVu (q := 34) rfl V_X6_findPledges ml_X6_110 ⟨Nat.le_of_ble_eq_true rfl, Nat.le_of_ble_eq_true rfl⟩ (e_X6_findPledges s4) w_M rfl rfl rfl rfl (Nat.le_of_ble_eq_true rfl) dX6_ease_31 (fun _ s5 => ?_)
      refine rr_aload_n (q := 35) rfl dX6_ease_34 rfl ?_
      refine rr_iload_n (q := 36) rfl dX6_ease_35 rfl ?_
      refine rr_cVi (q := 39) rfl V_X6_easeOf ml_X6_116 ⟨Nat.le_of_ble_eq_true rfl, Nat.le_of_ble_eq_true rfl⟩ (e_X6_easeOf l1 s5) w_M rfl rfl rfl rfl (Nat.le_of_ble_eq_true rfl) dX6_ease_36 (fun v6 s7 => ?_)
      exact rr_iret dX6_ease_39 rfl
    · refine rr_aload_n (q := 24) rfl dX6_ease_23 rfl ?_
      refine rr_ldc (q := 26) rfl dX6_ease_24 kc_X6_139 ?_
      refine rr_cVi (q := 29) rfl V_X6_finds ml_X6_125 ⟨Nat.le_of_ble_eq_true rfl, Nat.le_of_ble_eq_true rfl⟩ (e_X6_finds (-1000000005) s4) w_M rfl rfl rfl rfl (Nat.le_of_ble_eq_true rfl) dX6_ease_26 (fun v8 s9 => ?_)
      exact rr_iret dX6_ease_29 rfl
  · refine rr_aload_n (q := 9) rfl dX6_ease_8 rfl ?_
    refine rr_ldc (q := 11) rfl dX6_ease_9 kc_X6_78 ?_
    refine rr_cVi (q := 14) rfl V_X6_finds ml_X6_125 ⟨Nat.le_of_ble_eq_true rfl, Nat.le_of_ble_eq_true rfl⟩ (e_X6_finds (-1000000001) s2) w_M rfl rfl rfl rfl (Nat.le_of_ble_eq_true rfl) dX6_ease_11 (fun v10 s11 => ?_)
    exact rr_iret dX6_ease_14 rfl
def fX6_loose (s : SM) : Option (Int32 × SM) :=
  bd (fX6_looseSet s) fun v1 s2 =>
  some (v1, s2)
set_option maxRecDepth 100000 in
set_option maxHeartbeats 4000000 in
theorem e_X6_loose {G : Cf} {x : SX} (s : SM) : Ct (wfM x) inI G M_X6_loose [.ref mb] s (fX6_loose s) := by
  refine Ct.of (L0 := [some (.ref mb)]) 0 rfl rfl ⟨rfl, rfl⟩ (Nat.le_of_ble_eq_true rfl) rfl ?_
  unfold fX6_loose
  refine rr_aload_n (q := 1) rfl dX6_loose_0 rfl ?_
  refine rr_cVi (q := 4) rfl V_X6_looseSet ml_X6_145 ⟨Nat.le_of_ble_eq_true rfl, Nat.le_of_ble_eq_true rfl⟩ (e_X6_looseSet s) w_M rfl rfl rfl rfl (Nat.le_of_ble_eq_true rfl) dX6_loose_1 (fun v1 s2 => ?_)
  exact rr_iret dX6_loose_4 rfl
def fX6_pays_105 (k19 : Int32 → Int32 → Int32 → Int32 → SM → Option (Int32 × SM)) (l1 : Int32) (l2 : Int32) (l4 : Int32) (t0 : Int32) (t1 : Int32) (s : SM) : Option (Int32 × SM) :=
  vl (t0 + t1) fun y18 =>
  vl (l4 + 1) fun y19 =>
  k19 l1 l2 y18 y19 s
set_option maxRecDepth 100000 in
set_option maxHeartbeats 4000000 in
theorem e_X6_pays_105 {G : Cf} {x : SX} {k19 : Int32 → Int32 → Int32 → Int32 → SM → Option (Int32 × SM)} (hk19 : ∀ (l1 : Int32) (l2 : Int32) (l3 : Int32) (l4 : Int32) (s : SM), R (wfM x) inI G M_X6_pays 19 [some (.ref mb), some (.int l1), some (.int l2), some (.int l3), some (.int l4), none] [] s (k19 l1 l2 l3 l4 s)) (l1 : Int32) (l2 : Int32) (l4 : Int32) (t0 : Int32) (t1 : Int32) (s : SM) : R (wfM x) inI G M_X6_pays 105 [some (.ref mb), some (.int l1), some (.int l2), none, some (.int l4), none] [.int t1, .int t0] s (fX6_pays_105 k19 l1 l2 l4 t0 t1 s) := by
  unfold fX6_pays_105
  refine rr_iadd (q := 106) rfl dX6_pays_105 ?_
  refine rr_istore_n (L2 := fun y18 => [some (.ref mb), some (.int l1), some (.int l2), some (.int y18), some (.int l4), none]) (q := 107) rfl dX6_pays_106 (Nat.le_of_ble_eq_true rfl) (fun _ => rfl) (fun y18 => ?_)
  refine rr_iinc (L2 := fun y19 => [some (.ref mb), some (.int l1), some (.int l2), some (.int y18), some (.int y19), none]) (q := 110) rfl dX6_pays_107 rfl rfl (Nat.le_of_ble_eq_true rfl) (fun _ => rfl) (fun y19 => ?_)
  refine rr_goto 19 dX6_pays_110 rfl ?_
  exact hk19 l1 l2 y18 y19 s
def fX6_pays_104 (k19 : Int32 → Int32 → Int32 → Int32 → SM → Option (Int32 × SM)) (l1 : Int32) (l2 : Int32) (l4 : Int32) (t0 : Int32) (s : SM) : Option (Int32 × SM) :=
  fX6_pays_105 k19 l1 l2 l4 t0 0 s
set_option maxRecDepth 100000 in
set_option maxHeartbeats 4000000 in
theorem e_X6_pays_104 {G : Cf} {x : SX} {k19 : Int32 → Int32 → Int32 → Int32 → SM → Option (Int32 × SM)} (hk19 : ∀ (l1 : Int32) (l2 : Int32) (l3 : Int32) (l4 : Int32) (s : SM), R (wfM x) inI G M_X6_pays 19 [some (.ref mb), some (.int l1), some (.int l2), some (.int l3), some (.int l4), none] [] s (k19 l1 l2 l3 l4 s)) (l1 : Int32) (l2 : Int32) (l4 : Int32) (t0 : Int32) (s : SM) : R (wfM x) inI G M_X6_pays 104 [some (.ref mb), some (.int l1), some (.int l2), none, some (.int l4), none] [.int t0] s (fX6_pays_104 k19 l1 l2 l4 t0 s) := by
  unfold fX6_pays_104
  refine rr_iconst 0 (q := 105) rfl dX6_pays_104 rfl ?_
  exact e_X6_pays_105 hk19 l1 l2 l4 t0 0 s
def fX6_pays_55 (k19 : Int32 → Int32 → Int32 → Int32 → SM → Option (Int32 × SM)) (l1 : Int32) (l2 : Int32) (l3 : Int32) (l4 : Int32) (t0 : Int32) (s : SM) : Option (Int32 × SM) :=
  vl t0 fun y10 =>
  (if y10 = 0 then
  fX6_pays_104 k19 l1 l2 l4 l3 s
  else
  ixg l4 12 fun n11 =>
  (if (gM s 6 n11) = l1 then
  fX6_pays_104 k19 l1 l2 l4 l3 s
  else
  ixg l4 12 fun n12 =>
  (if (gM s 6 n12) = l2 then
  fX6_pays_104 k19 l1 l2 l4 l3 s
  else
  bd (fX6_isInForce l4 s) fun v13 s14 =>
  (if v13 = 0 then
  fX6_pays_104 k19 l1 l2 l4 l3 s14
  else
  ixg l4 12 fun n15 =>
  fX6_pays_105 k19 l1 l2 l4 l3 (gM s14 7 n15) s14))))
set_option maxRecDepth 100000 in
set_option maxHeartbeats 4000000 in
theorem e_X6_pays_55 {G : Cf} {x : SX} {k19 : Int32 → Int32 → Int32 → Int32 → SM → Option (Int32 × SM)} (hk19 : ∀ (l1 : Int32) (l2 : Int32) (l3 : Int32) (l4 : Int32) (s : SM), R (wfM x) inI G M_X6_pays 19 [some (.ref mb), some (.int l1), some (.int l2), some (.int l3), some (.int l4), none] [] s (k19 l1 l2 l3 l4 s)) (l1 : Int32) (l2 : Int32) (l3 : Int32) (l4 : Int32) (t0 : Int32) (s : SM) : R (wfM x) inI G M_X6_pays 55 [some (.ref mb), some (.int l1), some (.int l2), some (.int l3), some (.int l4), none] [.int t0] s (fX6_pays_55 k19 l1 l2 l3 l4 t0 s) := by
  unfold fX6_pays_55
  refine rr_istore (L2 := fun y10 => [some (.ref mb), some (.int l1), some (.int l2), some (.int l3), some (.int l4), some (.int y10)]) (q := 57) rfl dX6_pays_55 (Nat.le_of_ble_eq_true rfl) (fun _ => rfl) (fun y10 => ?_)
  refine rr_iload_n (q := 58) rfl dX6_pays_57 rfl ?_
  refine rr_iload (q := 60) rfl dX6_pays_58 rfl ?_
  refine rr_if_eq 104 (q := 63) rfl dX6_pays_60 rfl (fun _ => ?_) (fun _ => ?_)
  · refine rr_mask [true, true, true, false, true, false] (L' := [some (.ref mb), some (.int l1), some (.int l2), none, some (.int l4), none]) rfl ?_
    exact e_X6_pays_104 hk19 l1 l2 l4 l3 s
  · refine rr_aload_n (q := 64) rfl dX6_pays_63 rfl ?_
    refine rr_get (q := 67) rfl fl_X6_25 w_M rfl dX6_pays_64 ?_
    refine rr_iload (q := 69) rfl dX6_pays_67 rfl ?_
    refine rr_iald (q := 70) rfl w_marr6 dX6_pays_69 (fun n11 => ?_)
    refine rr_iload_n (q := 71) rfl dX6_pays_70 rfl ?_
    refine rr_icmp_eq 104 (q := 74) rfl dX6_pays_71 rfl (fun _ => ?_) (fun _ => ?_)
    · refine rr_mask [true, true, true, false, true, false] (L' := [some (.ref mb), some (.int l1), some (.int l2), none, some (.int l4), none]) rfl ?_
      exact e_X6_pays_104 hk19 l1 l2 l4 l3 s
    · refine rr_aload_n (q := 75) rfl dX6_pays_74 rfl ?_
      refine rr_get (q := 78) rfl fl_X6_25 w_M rfl dX6_pays_75 ?_
      refine rr_iload (q := 80) rfl dX6_pays_78 rfl ?_
      refine rr_iald (q := 81) rfl w_marr6 dX6_pays_80 (fun n12 => ?_)
      refine rr_iload_n (q := 82) rfl dX6_pays_81 rfl ?_
      refine rr_icmp_eq 104 (q := 85) rfl dX6_pays_82 rfl (fun _ => ?_) (fun _ => ?_)
      · refine rr_mask [true, true, true, false, true, false] (L' := [some (.ref mb), some (.int l1), some (.int l2), none, some (.int l4), none]) rfl ?_
        exact e_X6_pays_104 hk19 l1 l2 l4 l3 s
      · refine rr_aload_n (q := 86) rfl dX6_pays_85 rfl ?_
        refine rr_iload (q := 88) rfl dX6_pays_86 rfl ?_
        refine rr_cVi (q := 91) rfl V_X6_isInForce ml_X6_113 ⟨Nat.le_of_ble_eq_true rfl, Nat.le_of_ble_eq_true rfl⟩ (e_X6_isInForce l4 s) w_M rfl rfl rfl rfl (Nat.le_of_ble_eq_true rfl) dX6_pays_88 (fun v13 s14 => ?_)
        refine rr_if_eq 104 (q := 94) rfl dX6_pays_91 rfl (fun _ => ?_) (fun _ => ?_)
        · refine rr_mask [true, true, true, false, true, false] (L' := [some (.ref mb), some (.int l1), some (.int l2), none, some (.int l4), none]) rfl ?_
          exact e_X6_pays_104 hk19 l1 l2 l4 l3 s14
        · refine rr_aload_n (q := 95) rfl dX6_pays_94 rfl ?_
          refine rr_get (q := 98) rfl fl_X6_28 w_M rfl dX6_pays_95 ?_
          refine rr_iload (q := 100) rfl dX6_pays_98 rfl ?_
          refine rr_iald (q := 101) rfl w_marr7 dX6_pays_100 (fun n15 => ?_)
          refine rr_goto 105 dX6_pays_101 rfl ?_
          refine rr_mask [true, true, true, false, true, false] (L' := [some (.ref mb), some (.int l1), some (.int l2), none, some (.int l4), none]) rfl ?_
          exact e_X6_pays_105 hk19 l1 l2 l4 l3 (gM s14 7 n15) s14
def fX6_pays_50 (k19 : Int32 → Int32 → Int32 → Int32 → SM → Option (Int32 × SM)) (l1 : Int32) (l2 : Int32) (l3 : Int32) (l4 : Int32) (s : SM) : Option (Int32 × SM) :=
  fX6_pays_55 k19 l1 l2 l3 l4 1 s
set_option maxRecDepth 100000 in
set_option maxHeartbeats 4000000 in
theorem e_X6_pays_50 {G : Cf} {x : SX} {k19 : Int32 → Int32 → Int32 → Int32 → SM → Option (Int32 × SM)} (hk19 : ∀ (l1 : Int32) (l2 : Int32) (l3 : Int32) (l4 : Int32) (s : SM), R (wfM x) inI G M_X6_pays 19 [some (.ref mb), some (.int l1), some (.int l2), some (.int l3), some (.int l4), none] [] s (k19 l1 l2 l3 l4 s)) (l1 : Int32) (l2 : Int32) (l3 : Int32) (l4 : Int32) (s : SM) : R (wfM x) inI G M_X6_pays 50 [some (.ref mb), some (.int l1), some (.int l2), some (.int l3), some (.int l4), none] [] s (fX6_pays_50 k19 l1 l2 l3 l4 s) := by
  unfold fX6_pays_50
  refine rr_iconst 1 (q := 51) rfl dX6_pays_50 rfl ?_
  refine rr_goto 55 dX6_pays_51 rfl ?_
  exact e_X6_pays_55 hk19 l1 l2 l3 l4 1 s
def fX6_pays_165 (k116 : Int32 → Int32 → Int32 → Int32 → SM → Option (Int32 × SM)) (l1 : Int32) (l2 : Int32) (l4 : Int32) (t0 : Int32) (t1 : Int32) (s : SM) : Option (Int32 × SM) :=
  vl (t0 - t1) fun y16 =>
  vl (l4 + 1) fun y17 =>
  k116 l1 l2 y16 y17 s
set_option maxRecDepth 100000 in
set_option maxHeartbeats 4000000 in
theorem e_X6_pays_165 {G : Cf} {x : SX} {k116 : Int32 → Int32 → Int32 → Int32 → SM → Option (Int32 × SM)} (hk116 : ∀ (l1 : Int32) (l2 : Int32) (l3 : Int32) (l4 : Int32) (s : SM), R (wfM x) inI G M_X6_pays 116 [some (.ref mb), some (.int l1), some (.int l2), some (.int l3), some (.int l4), none] [] s (k116 l1 l2 l3 l4 s)) (l1 : Int32) (l2 : Int32) (l4 : Int32) (t0 : Int32) (t1 : Int32) (s : SM) : R (wfM x) inI G M_X6_pays 165 [some (.ref mb), some (.int l1), some (.int l2), none, some (.int l4), none] [.int t1, .int t0] s (fX6_pays_165 k116 l1 l2 l4 t0 t1 s) := by
  unfold fX6_pays_165
  refine rr_isub (q := 166) rfl dX6_pays_165 ?_
  refine rr_istore_n (L2 := fun y16 => [some (.ref mb), some (.int l1), some (.int l2), some (.int y16), some (.int l4), none]) (q := 167) rfl dX6_pays_166 (Nat.le_of_ble_eq_true rfl) (fun _ => rfl) (fun y16 => ?_)
  refine rr_iinc (L2 := fun y17 => [some (.ref mb), some (.int l1), some (.int l2), some (.int y16), some (.int y17), none]) (q := 170) rfl dX6_pays_167 rfl rfl (Nat.le_of_ble_eq_true rfl) (fun _ => rfl) (fun y17 => ?_)
  refine rr_goto 116 dX6_pays_170 rfl ?_
  exact hk116 l1 l2 y16 y17 s
def fX6_pays_164 (k116 : Int32 → Int32 → Int32 → Int32 → SM → Option (Int32 × SM)) (l1 : Int32) (l2 : Int32) (l4 : Int32) (t0 : Int32) (s : SM) : Option (Int32 × SM) :=
  fX6_pays_165 k116 l1 l2 l4 t0 0 s
set_option maxRecDepth 100000 in
set_option maxHeartbeats 4000000 in
theorem e_X6_pays_164 {G : Cf} {x : SX} {k116 : Int32 → Int32 → Int32 → Int32 → SM → Option (Int32 × SM)} (hk116 : ∀ (l1 : Int32) (l2 : Int32) (l3 : Int32) (l4 : Int32) (s : SM), R (wfM x) inI G M_X6_pays 116 [some (.ref mb), some (.int l1), some (.int l2), some (.int l3), some (.int l4), none] [] s (k116 l1 l2 l3 l4 s)) (l1 : Int32) (l2 : Int32) (l4 : Int32) (t0 : Int32) (s : SM) : R (wfM x) inI G M_X6_pays 164 [some (.ref mb), some (.int l1), some (.int l2), none, some (.int l4), none] [.int t0] s (fX6_pays_164 k116 l1 l2 l4 t0 s) := by
  unfold fX6_pays_164
  refine rr_iconst 0 (q := 165) rfl dX6_pays_164 rfl ?_
  exact e_X6_pays_165 hk116 l1 l2 l4 t0 0 s
def fX6_pays_116b (k116 : Int32 → Int32 → Int32 → Int32 → SM → Option (Int32 × SM)) (l1 : Int32) (l2 : Int32) (l3 : Int32) (l4 : Int32) (s : SM) : Option (Int32 × SM) :=
  (if 6 ≤ l4 then
  (if l3 ≤ 0 then
  some (0, s)
  else
  some (1, s))
  else
  (if l4 = l1 then
  fX6_pays_164 k116 l1 l2 l4 l3 s
  else
  (if l4 = l2 then
  fX6_pays_164 k116 l1 l2 l4 l3 s
  else
  ixg ((6 * l4) + l1) 36 fun n8 =>
  ixg ((6 * l4) + l2) 36 fun n9 =>
  fX6_pays_165 k116 l1 l2 l4 l3 ((gM s 11 n8) + (gM s 11 n9)) s)))
set_option maxRecDepth 100000 in
set_option maxHeartbeats 4000000 in
theorem e_X6_pays_116b {G : Cf} {x : SX} {k116 : Int32 → Int32 → Int32 → Int32 → SM → Option (Int32 × SM)} (hk116 : ∀ (l1 : Int32) (l2 : Int32) (l3 : Int32) (l4 : Int32) (s : SM), R (wfM x) inI G M_X6_pays 116 [some (.ref mb), some (.int l1), some (.int l2), some (.int l3), some (.int l4), none] [] s (k116 l1 l2 l3 l4 s)) (l1 : Int32) (l2 : Int32) (l3 : Int32) (l4 : Int32) (s : SM) : R (wfM x) inI G M_X6_pays 116 [some (.ref mb), some (.int l1), some (.int l2), some (.int l3), some (.int l4), none] [] s (fX6_pays_116b k116 l1 l2 l3 l4 s) := by
  unfold fX6_pays_116b
  refine rr_iload (q := 118) rfl dX6_pays_116 rfl ?_
  refine rr_bipush 6 (q := 120) rfl dX6_pays_118 rfl ?_
  refine rr_icmp_ge 173 (q := 123) rfl dX6_pays_120 rfl (fun _ => ?_) (fun _ => ?_)
  · refine rr_iload_n (q := 174) rfl dX6_pays_173 rfl ?_
    refine rr_if_le 181 (q := 177) rfl dX6_pays_174 rfl (fun _ => ?_) (fun _ => ?_)
    · refine rr_iconst 0 (q := 182) rfl dX6_pays_181 rfl ?_
      exact rr_zret dX6_pays_182 rfl (Or.inl rfl)
    · refine rr_iconst 1 (q := 178) rfl dX6_pays_177 rfl ?_
      refine rr_goto 182 dX6_pays_178 rfl ?_
      exact rr_zret dX6_pays_182 rfl (Or.inr rfl)
  · refine rr_iload_n (q := 124) rfl dX6_pays_123 rfl ?_
    refine rr_iload (q := 126) rfl dX6_pays_124 rfl ?_
    refine rr_iload_n (q := 127) rfl dX6_pays_126 rfl ?_
    refine rr_icmp_eq 164 (q := 130) rfl dX6_pays_127 rfl (fun _ => ?_) (fun _ => ?_)
    · refine rr_mask [true, true, true, false, true, false] (L' := [some (.ref mb), some (.int l1), some (.int l2), none, some (.int l4), none]) rfl ?_
      exact e_X6_pays_164 hk116 l1 l2 l4 l3 s
    · refine rr_iload (q := 132) rfl dX6_pays_130 rfl ?_
      refine rr_iload_n (q := 133) rfl dX6_pays_132 rfl ?_
      refine rr_icmp_eq 164 (q := 136) rfl dX6_pays_133 rfl (fun _ => ?_) (fun _ => ?_)
      · refine rr_mask [true, true, true, false, true, false] (L' := [some (.ref mb), some (.int l1), some (.int l2), none, some (.int l4), none]) rfl ?_
        exact e_X6_pays_164 hk116 l1 l2 l4 l3 s
      · refine rr_aload_n (q := 137) rfl dX6_pays_136 rfl ?_
        refine rr_get (q := 140) rfl fl_X6_40 w_M rfl dX6_pays_137 ?_
        refine rr_bipush 6 (q := 142) rfl dX6_pays_140 rfl ?_
        refine rr_iload (q := 144) rfl dX6_pays_142 rfl ?_
        refine rr_imul (q := 145) rfl dX6_pays_144 ?_
        refine rr_iload_n (q := 146) rfl dX6_pays_145 rfl ?_
        refine rr_iadd (q := 147) rfl dX6_pays_146 ?_
        refine rr_iald (q := 148) rfl w_marr11 dX6_pays_147 (fun n8 => ?_)
        refine rr_aload_n (q := 149) rfl dX6_pays_148 rfl ?_
        refine rr_get (q := 152) rfl fl_X6_40 w_M rfl dX6_pays_149 ?_
        refine rr_bipush 6 (q := 154) rfl dX6_pays_152 rfl ?_
        refine rr_iload (q := 156) rfl dX6_pays_154 rfl ?_
        refine rr_imul (q := 157) rfl dX6_pays_156 ?_
        refine rr_iload_n (q := 158) rfl dX6_pays_157 rfl ?_
        refine rr_iadd (q := 159) rfl dX6_pays_158 ?_
        refine rr_iald (q := 160) rfl w_marr11 dX6_pays_159 (fun n9 => ?_)
        refine rr_iadd (q := 161) rfl dX6_pays_160 ?_
        refine rr_goto 165 dX6_pays_161 rfl ?_
        refine rr_mask [true, true, true, false, true, false] (L' := [some (.ref mb), some (.int l1), some (.int l2), none, some (.int l4), none]) rfl ?_
        exact e_X6_pays_165 hk116 l1 l2 l4 l3 ((gM s 11 n8) + (gM s 11 n9)) s
def fX6_pays_116 : Nat → Int32 → Int32 → Int32 → Int32 → SM → Option (Int32 × SM) := lp (fun _ _ _ _ _ => none) (fX6_pays_116b)
theorem e_X6_pays_116 {G : Cf} {x : SX}  (n : Nat) : ∀ (l1 : Int32) (l2 : Int32) (l3 : Int32) (l4 : Int32) (s : SM), R (wfM x) inI G M_X6_pays 116 [some (.ref mb), some (.int l1), some (.int l2), some (.int l3), some (.int l4), none] [] s (fX6_pays_116 n l1 l2 l3 l4 s) := by
  unfold fX6_pays_116
  exact rr_lp (P := fun (kz : Int32 → Int32 → Int32 → Int32 → SM → Option (Int32 × SM)) => ∀ (l1 : Int32) (l2 : Int32) (l3 : Int32) (l4 : Int32) (s : SM), R (wfM x) inI G M_X6_pays 116 [some (.ref mb), some (.int l1), some (.int l2), some (.int l3), some (.int l4), none] [] s (kz l1 l2 l3 l4 s)) (fun _ _ _ _ _ => rr_none) (fun kz hkz => fun l1 l2 l3 l4 s => e_X6_pays_116b hkz l1 l2 l3 l4 s) n
def fX6_pays_19b (k19 : Int32 → Int32 → Int32 → Int32 → SM → Option (Int32 × SM)) (l1 : Int32) (l2 : Int32) (l3 : Int32) (l4 : Int32) (s : SM) : Option (Int32 × SM) :=
  (if (gM s 0 5) ≤ l4 then
  vl 0 fun y5 =>
  fX6_pays_116 400 l1 l2 l3 y5 s
  else
  ixg l4 12 fun n6 =>
  (if (gM s 5 n6) = l1 then
  fX6_pays_50 k19 l1 l2 l3 l4 s
  else
  ixg l4 12 fun n7 =>
  (if (gM s 5 n7) = l2 then
  fX6_pays_50 k19 l1 l2 l3 l4 s
  else
  fX6_pays_55 k19 l1 l2 l3 l4 0 s)))
set_option maxRecDepth 100000 in
set_option maxHeartbeats 4000000 in
theorem e_X6_pays_19b {G : Cf} {x : SX} {k19 : Int32 → Int32 → Int32 → Int32 → SM → Option (Int32 × SM)} (hk19 : ∀ (l1 : Int32) (l2 : Int32) (l3 : Int32) (l4 : Int32) (s : SM), R (wfM x) inI G M_X6_pays 19 [some (.ref mb), some (.int l1), some (.int l2), some (.int l3), some (.int l4), none] [] s (k19 l1 l2 l3 l4 s)) (l1 : Int32) (l2 : Int32) (l3 : Int32) (l4 : Int32) (s : SM) : R (wfM x) inI G M_X6_pays 19 [some (.ref mb), some (.int l1), some (.int l2), some (.int l3), some (.int l4), none] [] s (fX6_pays_19b k19 l1 l2 l3 l4 s) := by
  unfold fX6_pays_19b
  refine rr_iload (q := 21) rfl dX6_pays_19 rfl ?_
  refine rr_aload_n (q := 22) rfl dX6_pays_21 rfl ?_
  refine rr_get (q := 25) rfl fl_X6_87 w_M rfl dX6_pays_22 ?_
  refine rr_icmp_ge 113 (q := 28) rfl dX6_pays_25 rfl (fun _ => ?_) (fun _ => ?_)
  · refine rr_iconst 0 (q := 114) rfl dX6_pays_113 rfl ?_
    refine rr_istore (L2 := fun y5 => [some (.ref mb), some (.int l1), some (.int l2), some (.int l3), some (.int y5), none]) (q := 116) rfl dX6_pays_114 (Nat.le_of_ble_eq_true rfl) (fun _ => rfl) (fun y5 => ?_)
    exact e_X6_pays_116 400 l1 l2 l3 y5 s
  · refine rr_aload_n (q := 29) rfl dX6_pays_28 rfl ?_
    refine rr_get (q := 32) rfl fl_X6_22 w_M rfl dX6_pays_29 ?_
    refine rr_iload (q := 34) rfl dX6_pays_32 rfl ?_
    refine rr_iald (q := 35) rfl w_marr5 dX6_pays_34 (fun n6 => ?_)
    refine rr_iload_n (q := 36) rfl dX6_pays_35 rfl ?_
    refine rr_icmp_eq 50 (q := 39) rfl dX6_pays_36 rfl (fun _ => ?_) (fun _ => ?_)
    · exact e_X6_pays_50 hk19 l1 l2 l3 l4 s
    · refine rr_aload_n (q := 40) rfl dX6_pays_39 rfl ?_
      refine rr_get (q := 43) rfl fl_X6_22 w_M rfl dX6_pays_40 ?_
      refine rr_iload (q := 45) rfl dX6_pays_43 rfl ?_
      refine rr_iald (q := 46) rfl w_marr5 dX6_pays_45 (fun n7 => ?_)
      refine rr_iload_n (q := 47) rfl dX6_pays_46 rfl ?_
      refine rr_icmp_ne 54 (q := 50) rfl dX6_pays_47 rfl (fun _ => ?_) (fun _ => ?_)
      · refine rr_iconst 0 (q := 55) rfl dX6_pays_54 rfl ?_
        exact e_X6_pays_55 hk19 l1 l2 l3 l4 0 s
      · exact e_X6_pays_50 hk19 l1 l2 l3 l4 s
def fX6_pays_19 : Nat → Int32 → Int32 → Int32 → Int32 → SM → Option (Int32 × SM) := lp (fun _ _ _ _ _ => none) (fX6_pays_19b)
theorem e_X6_pays_19 {G : Cf} {x : SX}  (n : Nat) : ∀ (l1 : Int32) (l2 : Int32) (l3 : Int32) (l4 : Int32) (s : SM), R (wfM x) inI G M_X6_pays 19 [some (.ref mb), some (.int l1), some (.int l2), some (.int l3), some (.int l4), none] [] s (fX6_pays_19 n l1 l2 l3 l4 s) := by
  unfold fX6_pays_19
  exact rr_lp (P := fun (kz : Int32 → Int32 → Int32 → Int32 → SM → Option (Int32 × SM)) => ∀ (l1 : Int32) (l2 : Int32) (l3 : Int32) (l4 : Int32) (s : SM), R (wfM x) inI G M_X6_pays 19 [some (.ref mb), some (.int l1), some (.int l2), some (.int l3), some (.int l4), none] [] s (kz l1 l2 l3 l4 s)) (fun _ _ _ _ _ => rr_none) (fun kz hkz => fun l1 l2 l3 l4 s => e_X6_pays_19b hkz l1 l2 l3 l4 s) n
def fX6_pays (l1 : Int32) (l2 : Int32) (s : SM) : Option (Int32 × SM) :=
  ixg l1 6 fun n1 =>
  ixg l2 6 fun n2 =>
  vl ((0 - (gM s 1 n1)) - (gM s 1 n2)) fun y3 =>
  vl 0 fun y4 =>
  fX6_pays_19 400 l1 l2 y3 y4 s
set_option maxRecDepth 100000 in
set_option maxHeartbeats 4000000 in
theorem e_X6_pays {G : Cf} {x : SX} (l1 : Int32) (l2 : Int32) (s : SM) : Ct (wfM x) inI G M_X6_pays [.ref mb, .int l1, .int l2] s (fX6_pays l1 l2 s) := by
  refine Ct.of (L0 := [some (.ref mb), some (.int l1), some (.int l2), none, none, none]) 3 rfl rfl ⟨rfl, rfl⟩ (Nat.le_of_ble_eq_true rfl) rfl ?_
  unfold fX6_pays
  refine rr_iconst 0 (q := 1) rfl dX6_pays_0 rfl ?_
  refine rr_aload_n (q := 2) rfl dX6_pays_1 rfl ?_
  refine rr_get (q := 5) rfl fl_X6_7 w_M rfl dX6_pays_2 ?_
  refine rr_iload_n (q := 6) rfl dX6_pays_5 rfl ?_
  refine rr_iald (q := 7) rfl w_marr1 dX6_pays_6 (fun n1 => ?_)
  refine rr_isub (q := 8) rfl dX6_pays_7 ?_
  refine rr_aload_n (q := 9) rfl dX6_pays_8 rfl ?_
  refine rr_get (q := 12) rfl fl_X6_7 w_M rfl dX6_pays_9 ?_
  refine rr_iload_n (q := 13) rfl dX6_pays_12 rfl ?_
  refine rr_iald (q := 14) rfl w_marr1 dX6_pays_13 (fun n2 => ?_)
  refine rr_isub (q := 15) rfl dX6_pays_14 ?_
  refine rr_istore_n (L2 := fun y3 => [some (.ref mb), some (.int l1), some (.int l2), some (.int y3), none, none]) (q := 16) rfl dX6_pays_15 (Nat.le_of_ble_eq_true rfl) (fun _ => rfl) (fun y3 => ?_)
  refine rr_iconst 0 (q := 17) rfl dX6_pays_16 rfl ?_
  refine rr_istore (L2 := fun y4 => [some (.ref mb), some (.int l1), some (.int l2), some (.int y3), some (.int y4), none]) (q := 19) rfl dX6_pays_17 (Nat.le_of_ble_eq_true rfl) (fun _ => rfl) (fun y4 => ?_)
  exact e_X6_pays_19 400 l1 l2 y3 y4 s
def fX6_pact (l1 : Int32) (l2 : Int32) (s : SM) : Option (Int32 × SM) :=
  bd (fX6_areTwo l1 l2 s) fun v1 s2 =>
  (if v1 = 0 then
  bd (fX6_finds (-1000000001) s2) fun v6 s7 =>
  some (v6, s7)
  else
  bd (fX6_findPledges s2) fun _ s3 =>
  bd (fX6_pays l1 l2 s3) fun v4 s5 =>
  (if v4 = 0 then
  some (0, s5)
  else
  some (1, s5)))
set_option maxRecDepth 100000 in
set_option maxHeartbeats 4000000 in
theorem e_X6_pact {G : Cf} {x : SX} (l1 : Int32) (l2 : Int32) (s : SM) : Ct (wfM x) inI G M_X6_pact [.ref mb, .int l1, .int l2] s (fX6_pact l1 l2 s) := by
  refine Ct.of (L0 := [some (.ref mb), some (.int l1), some (.int l2)]) 0 rfl rfl ⟨rfl, rfl⟩ (Nat.le_of_ble_eq_true rfl) rfl ?_
  unfold fX6_pact
  refine rr_iload_n (q := 1) rfl dX6_pact_0 rfl ?_
  refine rr_iload_n (q := 2) rfl dX6_pact_1 rfl ?_
  refine rr_cSi (q := 5) rfl V_X6_areTwo ml_X6_164 ⟨Nat.le_of_ble_eq_true rfl, Nat.le_of_ble_eq_true rfl⟩ (e_X6_areTwo l1 l2 s) rfl rfl (Nat.le_of_ble_eq_true rfl) dX6_pact_2 (fun v1 s2 => ?_)
  refine rr_if_ne 15 (q := 8) rfl dX6_pact_5 rfl (fun _ => ?_) (fun _ => ?_)
  · refine rr_aload_n (q := 16) rfl dX6_pact_15 rfl ?_
    refine rr_cVu (q := 19) rfl V_X6_findPledges ml_X6_110 ⟨Nat.le_of_ble_eq_true rfl, Nat.le_of_ble_eq_true rfl⟩ (e_X6_findPledges s2) w_M rfl rfl rfl rfl (Nat.le_of_ble_eq_true rfl) dX6_pact_16 (fun _ s3 => ?_)
    refine rr_aload_n (q := 20) rfl dX6_pact_19 rfl ?_
    refine rr_iload_n (q := 21) rfl dX6_pact_20 rfl ?_
    refine rr_iload_n (q := 22) rfl dX6_pact_21 rfl ?_
    refine rr_cVi (q := 25) rfl V_X6_pays ml_X6_167 ⟨Nat.le_of_ble_eq_true rfl, Nat.le_of_ble_eq_true rfl⟩ (e_X6_pays l1 l2 s3) w_M rfl rfl rfl rfl (Nat.le_of_ble_eq_true rfl) dX6_pact_22 (fun v4 s5 => ?_)
    refine rr_if_eq 32 (q := 28) rfl dX6_pact_25 rfl (fun _ => ?_) (fun _ => ?_)
    · refine rr_iconst 0 (q := 33) rfl dX6_pact_32 rfl ?_
      exact rr_iret dX6_pact_33 rfl
    · refine rr_iconst 1 (q := 29) rfl dX6_pact_28 rfl ?_
      refine rr_goto 33 dX6_pact_29 rfl ?_
      exact rr_iret dX6_pact_33 rfl
  · refine rr_aload_n (q := 9) rfl dX6_pact_8 rfl ?_
    refine rr_ldc (q := 11) rfl dX6_pact_9 kc_X6_78 ?_
    refine rr_cVi (q := 14) rfl V_X6_finds ml_X6_125 ⟨Nat.le_of_ble_eq_true rfl, Nat.le_of_ble_eq_true rfl⟩ (e_X6_finds (-1000000001) s2) w_M rfl rfl rfl rfl (Nat.le_of_ble_eq_true rfl) dX6_pact_11 (fun v6 s7 => ?_)
    exact rr_iret dX6_pact_14 rfl
def fX6_plot_16b (k6 : Int32 → SM → Option (Int32 × SM)) (k16 : Int32 → Int32 → SM → Option (Int32 × SM)) (l1 : Int32) (l2 : Int32) (s : SM) : Option (Int32 × SM) :=
  (if 6 ≤ l2 then
  vl (l1 + 1) fun y6 =>
  k6 y6 s
  else
  bd (fX6_pays l1 l2 s) fun v7 s8 =>
  (if v7 = 0 then
  vl (l2 + 1) fun y9 =>
  k16 l1 y9 s8
  else
  some ((10 * l1) + l2, s8)))
set_option maxRecDepth 100000 in
set_option maxHeartbeats 4000000 in
theorem e_X6_plot_16b {G : Cf} {x : SX} {k6 : Int32 → SM → Option (Int32 × SM)} (hk6 : ∀ (l1 : Int32) (s : SM), R (wfM x) inI G M_X6_plot 6 [some (.ref mb), some (.int l1), none] [] s (k6 l1 s)) {k16 : Int32 → Int32 → SM → Option (Int32 × SM)} (hk16 : ∀ (l1 : Int32) (l2 : Int32) (s : SM), R (wfM x) inI G M_X6_plot 16 [some (.ref mb), some (.int l1), some (.int l2)] [] s (k16 l1 l2 s)) (l1 : Int32) (l2 : Int32) (s : SM) : R (wfM x) inI G M_X6_plot 16 [some (.ref mb), some (.int l1), some (.int l2)] [] s (fX6_plot_16b k6 k16 l1 l2 s) := by
  unfold fX6_plot_16b
  refine rr_iload_n (q := 17) rfl dX6_plot_16 rfl ?_
  refine rr_bipush 6 (q := 19) rfl dX6_plot_17 rfl ?_
  refine rr_icmp_ge 44 (q := 22) rfl dX6_plot_19 rfl (fun _ => ?_) (fun _ => ?_)
  · refine rr_iinc (L2 := fun y6 => [some (.ref mb), some (.int y6), some (.int l2)]) (q := 47) rfl dX6_plot_44 rfl rfl (Nat.le_of_ble_eq_true rfl) (fun _ => rfl) (fun y6 => ?_)
    refine rr_goto 6 dX6_plot_47 rfl ?_
    refine rr_mask [true, true, false] (L' := [some (.ref mb), some (.int y6), none]) rfl ?_
    exact hk6 y6 s
  · refine rr_aload_n (q := 23) rfl dX6_plot_22 rfl ?_
    refine rr_iload_n (q := 24) rfl dX6_plot_23 rfl ?_
    refine rr_iload_n (q := 25) rfl dX6_plot_24 rfl ?_
    refine rr_cVi (q := 28) rfl V_X6_pays ml_X6_167 ⟨Nat.le_of_ble_eq_true rfl, Nat.le_of_ble_eq_true rfl⟩ (e_X6_pays l1 l2 s) w_M rfl rfl rfl rfl (Nat.le_of_ble_eq_true rfl) dX6_plot_25 (fun v7 s8 => ?_)
    refine rr_if_eq 38 (q := 31) rfl dX6_plot_28 rfl (fun _ => ?_) (fun _ => ?_)
    · refine rr_iinc (L2 := fun y9 => [some (.ref mb), some (.int l1), some (.int y9)]) (q := 41) rfl dX6_plot_38 rfl rfl (Nat.le_of_ble_eq_true rfl) (fun _ => rfl) (fun y9 => ?_)
      refine rr_goto 16 dX6_plot_41 rfl ?_
      exact hk16 l1 y9 s8
    · refine rr_bipush 10 (q := 33) rfl dX6_plot_31 rfl ?_
      refine rr_iload_n (q := 34) rfl dX6_plot_33 rfl ?_
      refine rr_imul (q := 35) rfl dX6_plot_34 ?_
      refine rr_iload_n (q := 36) rfl dX6_plot_35 rfl ?_
      refine rr_iadd (q := 37) rfl dX6_plot_36 ?_
      exact rr_iret dX6_plot_37 rfl
def fX6_plot_16 (k6 : Int32 → SM → Option (Int32 × SM)) : Nat → Int32 → Int32 → SM → Option (Int32 × SM) := lp (fun _ _ _ => none) (fX6_plot_16b k6)
theorem e_X6_plot_16 {G : Cf} {x : SX} {k6 : Int32 → SM → Option (Int32 × SM)} (hk6 : ∀ (l1 : Int32) (s : SM), R (wfM x) inI G M_X6_plot 6 [some (.ref mb), some (.int l1), none] [] s (k6 l1 s)) (n : Nat) : ∀ (l1 : Int32) (l2 : Int32) (s : SM), R (wfM x) inI G M_X6_plot 16 [some (.ref mb), some (.int l1), some (.int l2)] [] s (fX6_plot_16 k6 n l1 l2 s) := by
  unfold fX6_plot_16
  exact rr_lp (P := fun (kz : Int32 → Int32 → SM → Option (Int32 × SM)) => ∀ (l1 : Int32) (l2 : Int32) (s : SM), R (wfM x) inI G M_X6_plot 16 [some (.ref mb), some (.int l1), some (.int l2)] [] s (kz l1 l2 s)) (fun _ _ _ => rr_none) (fun kz hkz => fun l1 l2 s => e_X6_plot_16b hk6 hkz l1 l2 s) n
def fX6_plot_6b (k6 : Int32 → SM → Option (Int32 × SM)) (l1 : Int32) (s : SM) : Option (Int32 × SM) :=
  (if 6 ≤ l1 then
  bd (fX6_finds (-1000000004) s) fun v3 s4 =>
  some (v3, s4)
  else
  vl (l1 + 1) fun y5 =>
  fX6_plot_16 k6 400 l1 y5 s)
set_option maxRecDepth 100000 in
set_option maxHeartbeats 4000000 in
theorem e_X6_plot_6b {G : Cf} {x : SX} {k6 : Int32 → SM → Option (Int32 × SM)} (hk6 : ∀ (l1 : Int32) (s : SM), R (wfM x) inI G M_X6_plot 6 [some (.ref mb), some (.int l1), none] [] s (k6 l1 s)) (l1 : Int32) (s : SM) : R (wfM x) inI G M_X6_plot 6 [some (.ref mb), some (.int l1), none] [] s (fX6_plot_6b k6 l1 s) := by
  unfold fX6_plot_6b
  refine rr_iload_n (q := 7) rfl dX6_plot_6 rfl ?_
  refine rr_bipush 6 (q := 9) rfl dX6_plot_7 rfl ?_
  refine rr_icmp_ge 50 (q := 12) rfl dX6_plot_9 rfl (fun _ => ?_) (fun _ => ?_)
  · refine rr_aload_n (q := 51) rfl dX6_plot_50 rfl ?_
    refine rr_ldc (q := 53) rfl dX6_plot_51 kc_X6_170 ?_
    refine rr_cVi (q := 56) rfl V_X6_finds ml_X6_125 ⟨Nat.le_of_ble_eq_true rfl, Nat.le_of_ble_eq_true rfl⟩ (e_X6_finds (-1000000004) s) w_M rfl rfl rfl rfl (Nat.le_of_ble_eq_true rfl) dX6_plot_53 (fun v3 s4 => ?_)
    exact rr_iret dX6_plot_56 rfl
  · refine rr_iload_n (q := 13) rfl dX6_plot_12 rfl ?_
    refine rr_iconst 1 (q := 14) rfl dX6_plot_13 rfl ?_
    refine rr_iadd (q := 15) rfl dX6_plot_14 ?_
    refine rr_istore_n (L2 := fun y5 => [some (.ref mb), some (.int l1), some (.int y5)]) (q := 16) rfl dX6_plot_15 (Nat.le_of_ble_eq_true rfl) (fun _ => rfl) (fun y5 => ?_)
    exact e_X6_plot_16 hk6 400 l1 y5 s
def fX6_plot_6 : Nat → Int32 → SM → Option (Int32 × SM) := lp (fun _ _ => none) (fX6_plot_6b)
theorem e_X6_plot_6 {G : Cf} {x : SX}  (n : Nat) : ∀ (l1 : Int32) (s : SM), R (wfM x) inI G M_X6_plot 6 [some (.ref mb), some (.int l1), none] [] s (fX6_plot_6 n l1 s) := by
  unfold fX6_plot_6
  exact rr_lp (P := fun (kz : Int32 → SM → Option (Int32 × SM)) => ∀ (l1 : Int32) (s : SM), R (wfM x) inI G M_X6_plot 6 [some (.ref mb), some (.int l1), none] [] s (kz l1 s)) (fun _ _ => rr_none) (fun kz hkz => fun l1 s => e_X6_plot_6b hkz l1 s) n
def fX6_plot (s : SM) : Option (Int32 × SM) :=
  bd (fX6_findPledges s) fun _ s1 =>
  vl 0 fun y2 =>
  fX6_plot_6 400 y2 s1
set_option maxRecDepth 100000 in
set_option maxHeartbeats 4000000 in
theorem e_X6_plot {G : Cf} {x : SX} (s : SM) : Ct (wfM x) inI G M_X6_plot [.ref mb] s (fX6_plot s) := by
  refine Ct.of (L0 := [some (.ref mb), none, none]) 2 rfl rfl ⟨rfl, rfl⟩ (Nat.le_of_ble_eq_true rfl) rfl ?_
  unfold fX6_plot
  refine rr_aload_n (q := 1) rfl dX6_plot_0 rfl ?_
  refine rr_cVu (q := 4) rfl V_X6_findPledges ml_X6_110 ⟨Nat.le_of_ble_eq_true rfl, Nat.le_of_ble_eq_true rfl⟩ (e_X6_findPledges s) w_M rfl rfl rfl rfl (Nat.le_of_ble_eq_true rfl) dX6_plot_1 (fun _ s1 => ?_)
  refine rr_iconst 0 (q := 5) rfl dX6_plot_4 rfl ?_
  refine rr_istore_n (L2 := fun y2 => [some (.ref mb), some (.int y2), none]) (q := 6) rfl dX6_plot_5 (Nat.le_of_ble_eq_true rfl) (fun _ => rfl) (fun y2 => ?_)
  exact e_X6_plot_6 400 y2 s1
def fX6_breaks_69 (k17 : Int32 → Int32 → SM → Option (Unit × SM)) (l1 : Int32) (l2 : Int32) (s : SM) : Option (Unit × SM) :=
  vl (l2 + 1) fun y11 =>
  k17 l1 y11 s
set_option maxRecDepth 100000 in
set_option maxHeartbeats 4000000 in
theorem e_X6_breaks_69 {G : Cf} {x : SX} {k17 : Int32 → Int32 → SM → Option (Unit × SM)} (hk17 : ∀ (l1 : Int32) (l2 : Int32) (s : SM), R (wfM x) inU G M_X6_breaks 17 [some (.ref mb), some (.int l1), some (.int l2)] [] s (k17 l1 l2 s)) (l1 : Int32) (l2 : Int32) (s : SM) : R (wfM x) inU G M_X6_breaks 69 [some (.ref mb), some (.int l1), some (.int l2)] [] s (fX6_breaks_69 k17 l1 l2 s) := by
  unfold fX6_breaks_69
  refine rr_iinc (L2 := fun y11 => [some (.ref mb), some (.int l1), some (.int y11)]) (q := 72) rfl dX6_breaks_69 rfl rfl (Nat.le_of_ble_eq_true rfl) (fun _ => rfl) (fun y11 => ?_)
  refine rr_goto 17 dX6_breaks_72 rfl ?_
  exact hk17 l1 y11 s
def fX6_breaks_17b (k17 : Int32 → Int32 → SM → Option (Unit × SM)) (l1 : Int32) (l2 : Int32) (s : SM) : Option (Unit × SM) :=
  (if (gM s 0 1) ≤ l2 then
  some ((), s)
  else
  ixg l2 14 fun n4 =>
  ixg l1 12 fun n5 =>
  (if (gM s 3 n4) = (gM s 5 n5) then
  bd (fX6_holder l2 s) fun v6 s7 =>
  ixg l1 12 fun n8 =>
  (if v6 = (gM s7 6 n8) then
  ixg (((gM s7 0 11) + 15) + l2) 82 fun n9 => vl (wM s7 9 n9 1) fun s10 =>
  fX6_breaks_69 k17 l1 l2 s10
  else
  fX6_breaks_69 k17 l1 l2 s7)
  else
  fX6_breaks_69 k17 l1 l2 s))
set_option maxRecDepth 100000 in
set_option maxHeartbeats 4000000 in
theorem e_X6_breaks_17b {G : Cf} {x : SX} {k17 : Int32 → Int32 → SM → Option (Unit × SM)} (hk17 : ∀ (l1 : Int32) (l2 : Int32) (s : SM), R (wfM x) inU G M_X6_breaks 17 [some (.ref mb), some (.int l1), some (.int l2)] [] s (k17 l1 l2 s)) (l1 : Int32) (l2 : Int32) (s : SM) : R (wfM x) inU G M_X6_breaks 17 [some (.ref mb), some (.int l1), some (.int l2)] [] s (fX6_breaks_17b k17 l1 l2 s) := by
  unfold fX6_breaks_17b
  refine rr_iload_n (q := 18) rfl dX6_breaks_17 rfl ?_
  refine rr_aload_n (q := 19) rfl dX6_breaks_18 rfl ?_
  refine rr_get (q := 22) rfl fl_X6_83 w_M rfl dX6_breaks_19 ?_
  refine rr_icmp_ge 75 (q := 25) rfl dX6_breaks_22 rfl (fun _ => ?_) (fun _ => ?_)
  · exact rr_vret dX6_breaks_75 rfl
  · refine rr_aload_n (q := 26) rfl dX6_breaks_25 rfl ?_
    refine rr_get (q := 29) rfl fl_X6_16 w_M rfl dX6_breaks_26 ?_
    refine rr_iload_n (q := 30) rfl dX6_breaks_29 rfl ?_
    refine rr_iald (q := 31) rfl w_marr3 dX6_breaks_30 (fun n4 => ?_)
    refine rr_aload_n (q := 32) rfl dX6_breaks_31 rfl ?_
    refine rr_get (q := 35) rfl fl_X6_22 w_M rfl dX6_breaks_32 ?_
    refine rr_iload_n (q := 36) rfl dX6_breaks_35 rfl ?_
    refine rr_iald (q := 37) rfl w_marr5 dX6_breaks_36 (fun n5 => ?_)
    refine rr_icmp_ne 69 (q := 40) rfl dX6_breaks_37 rfl (fun _ => ?_) (fun _ => ?_)
    · exact e_X6_breaks_69 hk17 l1 l2 s
    · refine rr_aload_n (q := 41) rfl dX6_breaks_40 rfl ?_
      refine rr_iload_n (q := 42) rfl dX6_breaks_41 rfl ?_
      refine rr_cVi (q := 45) rfl V_X6_holder ml_X6_93 ⟨Nat.le_of_ble_eq_true rfl, Nat.le_of_ble_eq_true rfl⟩ (e_X6_holder l2 s) w_M rfl rfl rfl rfl (Nat.le_of_ble_eq_true rfl) dX6_breaks_42 (fun v6 s7 => ?_)
      refine rr_aload_n (q := 46) rfl dX6_breaks_45 rfl ?_
      refine rr_get (q := 49) rfl fl_X6_25 w_M rfl dX6_breaks_46 ?_
      refine rr_iload_n (q := 50) rfl dX6_breaks_49 rfl ?_
      refine rr_iald (q := 51) rfl w_marr6 dX6_breaks_50 (fun n8 => ?_)
      refine rr_icmp_ne 69 (q := 54) rfl dX6_breaks_51 rfl (fun _ => ?_) (fun _ => ?_)
      · exact e_X6_breaks_69 hk17 l1 l2 s7
      · refine rr_aload_n (q := 55) rfl dX6_breaks_54 rfl ?_
        refine rr_get (q := 58) rfl fl_X6_34 w_M rfl dX6_breaks_55 ?_
        refine rr_aload_n (q := 59) rfl dX6_breaks_58 rfl ?_
        refine rr_get (q := 62) rfl fl_X6_90 w_M rfl dX6_breaks_59 ?_
        refine rr_bipush 15 (q := 64) rfl dX6_breaks_62 rfl ?_
        refine rr_iadd (q := 65) rfl dX6_breaks_64 ?_
        refine rr_iload_n (q := 66) rfl dX6_breaks_65 rfl ?_
        refine rr_iadd (q := 67) rfl dX6_breaks_66 ?_
        refine rr_iconst 1 (q := 68) rfl dX6_breaks_67 rfl ?_
        refine rr_iast (q := 69) rfl w_marr9 (fun _ => u_marr9) dX6_breaks_68 (fun n9 s10 => ?_)
        exact e_X6_breaks_69 hk17 l1 l2 s10
def fX6_breaks_17 : Nat → Int32 → Int32 → SM → Option (Unit × SM) := lp (fun _ _ _ => none) (fX6_breaks_17b)
theorem e_X6_breaks_17 {G : Cf} {x : SX}  (n : Nat) : ∀ (l1 : Int32) (l2 : Int32) (s : SM), R (wfM x) inU G M_X6_breaks 17 [some (.ref mb), some (.int l1), some (.int l2)] [] s (fX6_breaks_17 n l1 l2 s) := by
  unfold fX6_breaks_17
  exact rr_lp (P := fun (kz : Int32 → Int32 → SM → Option (Unit × SM)) => ∀ (l1 : Int32) (l2 : Int32) (s : SM), R (wfM x) inU G M_X6_breaks 17 [some (.ref mb), some (.int l1), some (.int l2)] [] s (kz l1 l2 s)) (fun _ _ _ => rr_none) (fun kz hkz => fun l1 l2 s => e_X6_breaks_17b hkz l1 l2 s) n
def fX6_breaks (l1 : Int32) (s : SM) : Option (Unit × SM) :=
  ixg (((gM s 0 11) + 29) + l1) 82 fun n1 => vl (wM s 9 n1 1) fun s2 =>
  vl 0 fun y3 =>
  fX6_breaks_17 400 l1 y3 s2
set_option maxRecDepth 100000 in
set_option maxHeartbeats 4000000 in
theorem e_X6_breaks {G : Cf} {x : SX} (l1 : Int32) (s : SM) : Ct (wfM x) inU G M_X6_breaks [.ref mb, .int l1] s (fX6_breaks l1 s) := by
  refine Ct.of (L0 := [some (.ref mb), some (.int l1), none]) 1 rfl rfl ⟨rfl, rfl⟩ (Nat.le_of_ble_eq_true rfl) rfl ?_
  unfold fX6_breaks
  refine rr_aload_n (q := 1) rfl dX6_breaks_0 rfl ?_
  refine rr_get (q := 4) rfl fl_X6_34 w_M rfl dX6_breaks_1 ?_
  refine rr_aload_n (q := 5) rfl dX6_breaks_4 rfl ?_
  refine rr_get (q := 8) rfl fl_X6_90 w_M rfl dX6_breaks_5 ?_
  refine rr_bipush 29 (q := 10) rfl dX6_breaks_8 rfl ?_
  refine rr_iadd (q := 11) rfl dX6_breaks_10 ?_
  refine rr_iload_n (q := 12) rfl dX6_breaks_11 rfl ?_
  refine rr_iadd (q := 13) rfl dX6_breaks_12 ?_
  refine rr_iconst 1 (q := 14) rfl dX6_breaks_13 rfl ?_
  refine rr_iast (q := 15) rfl w_marr9 (fun _ => u_marr9) dX6_breaks_14 (fun n1 s2 => ?_)
  refine rr_iconst 0 (q := 16) rfl dX6_breaks_15 rfl ?_
  refine rr_istore_n (L2 := fun y3 => [some (.ref mb), some (.int l1), some (.int y3)]) (q := 17) rfl dX6_breaks_16 (Nat.le_of_ble_eq_true rfl) (fun _ => rfl) (fun y3 => ?_)
  exact e_X6_breaks_17 400 l1 y3 s2
def fX6_falls_87 (k20 : Int32 → SM → Option (Unit × SM)) (k66 : Int32 → Int32 → SM → Option (Unit × SM)) (l1 : Int32) (l2 : Int32) (s : SM) : Option (Unit × SM) :=
  vl (l2 + 1) fun y17 =>
  k66 l1 y17 s
set_option maxRecDepth 100000 in
set_option maxHeartbeats 4000000 in
theorem e_X6_falls_87 {G : Cf} {x : SX} {k20 : Int32 → SM → Option (Unit × SM)} (hk20 : ∀ (l1 : Int32) (s : SM), R (wfM x) inU G M_X6_falls 20 [some (.ref mb), some (.int l1), none] [] s (k20 l1 s)) {k66 : Int32 → Int32 → SM → Option (Unit × SM)} (hk66 : ∀ (l1 : Int32) (l2 : Int32) (s : SM), R (wfM x) inU G M_X6_falls 66 [some (.ref mb), some (.int l1), some (.int l2)] [] s (k66 l1 l2 s)) (l1 : Int32) (l2 : Int32) (s : SM) : R (wfM x) inU G M_X6_falls 87 [some (.ref mb), some (.int l1), some (.int l2)] [] s (fX6_falls_87 k20 k66 l1 l2 s) := by
  unfold fX6_falls_87
  refine rr_iinc (L2 := fun y17 => [some (.ref mb), some (.int l1), some (.int y17)]) (q := 90) rfl dX6_falls_87 rfl rfl (Nat.le_of_ble_eq_true rfl) (fun _ => rfl) (fun y17 => ?_)
  refine rr_goto 66 dX6_falls_90 rfl ?_
  exact hk66 l1 y17 s
def fX6_falls_66b (k20 : Int32 → SM → Option (Unit × SM)) (k66 : Int32 → Int32 → SM → Option (Unit × SM)) (l1 : Int32) (l2 : Int32) (s : SM) : Option (Unit × SM) :=
  (if (gM s 0 5) ≤ l2 then
  bd (fX6_looseSet s) fun v11 s12 =>
  vl v11 fun y13 =>
  k20 y13 s12
  else
  bd (fX6_has l1 l2 s) fun v14 s15 =>
  (if v14 = 0 then
  fX6_falls_87 k20 k66 l1 l2 s15
  else
  bd (fX6_breaks l2 s15) fun _ s16 =>
  fX6_falls_87 k20 k66 l1 l2 s16))
set_option maxRecDepth 100000 in
set_option maxHeartbeats 4000000 in
theorem e_X6_falls_66b {G : Cf} {x : SX} {k20 : Int32 → SM → Option (Unit × SM)} (hk20 : ∀ (l1 : Int32) (s : SM), R (wfM x) inU G M_X6_falls 20 [some (.ref mb), some (.int l1), none] [] s (k20 l1 s)) {k66 : Int32 → Int32 → SM → Option (Unit × SM)} (hk66 : ∀ (l1 : Int32) (l2 : Int32) (s : SM), R (wfM x) inU G M_X6_falls 66 [some (.ref mb), some (.int l1), some (.int l2)] [] s (k66 l1 l2 s)) (l1 : Int32) (l2 : Int32) (s : SM) : R (wfM x) inU G M_X6_falls 66 [some (.ref mb), some (.int l1), some (.int l2)] [] s (fX6_falls_66b k20 k66 l1 l2 s) := by
  unfold fX6_falls_66b
  refine rr_iload_n (q := 67) rfl dX6_falls_66 rfl ?_
  refine rr_aload_n (q := 68) rfl dX6_falls_67 rfl ?_
  refine rr_get (q := 71) rfl fl_X6_87 w_M rfl dX6_falls_68 ?_
  refine rr_icmp_ge 93 (q := 74) rfl dX6_falls_71 rfl (fun _ => ?_) (fun _ => ?_)
  · refine rr_aload_n (q := 94) rfl dX6_falls_93 rfl ?_
    refine rr_cVi (q := 97) rfl V_X6_looseSet ml_X6_145 ⟨Nat.le_of_ble_eq_true rfl, Nat.le_of_ble_eq_true rfl⟩ (e_X6_looseSet s) w_M rfl rfl rfl rfl (Nat.le_of_ble_eq_true rfl) dX6_falls_94 (fun v11 s12 => ?_)
    refine rr_istore_n (L2 := fun y13 => [some (.ref mb), some (.int y13), some (.int l2)]) (q := 98) rfl dX6_falls_97 (Nat.le_of_ble_eq_true rfl) (fun _ => rfl) (fun y13 => ?_)
    refine rr_goto 20 dX6_falls_98 rfl ?_
    refine rr_mask [true, true, false] (L' := [some (.ref mb), some (.int y13), none]) rfl ?_
    exact hk20 y13 s12
  · refine rr_iload_n (q := 75) rfl dX6_falls_74 rfl ?_
    refine rr_iload_n (q := 76) rfl dX6_falls_75 rfl ?_
    refine rr_cSi (q := 79) rfl V_X6_has ml_X6_161 ⟨Nat.le_of_ble_eq_true rfl, Nat.le_of_ble_eq_true rfl⟩ (e_X6_has l1 l2 s) rfl rfl (Nat.le_of_ble_eq_true rfl) dX6_falls_76 (fun v14 s15 => ?_)
    refine rr_if_eq 87 (q := 82) rfl dX6_falls_79 rfl (fun _ => ?_) (fun _ => ?_)
    · exact e_X6_falls_87 hk20 hk66 l1 l2 s15
    · refine rr_aload_n (q := 83) rfl dX6_falls_82 rfl ?_
      refine rr_iload_n (q := 84) rfl dX6_falls_83 rfl ?_
      refine rr_cVu (q := 87) rfl V_X6_breaks ml_X6_180 ⟨Nat.le_of_ble_eq_true rfl, Nat.le_of_ble_eq_true rfl⟩ (e_X6_breaks l2 s15) w_M rfl rfl rfl rfl (Nat.le_of_ble_eq_true rfl) dX6_falls_84 (fun _ s16 => ?_)
      exact e_X6_falls_87 hk20 hk66 l1 l2 s16
def fX6_falls_66 (k20 : Int32 → SM → Option (Unit × SM)) : Nat → Int32 → Int32 → SM → Option (Unit × SM) := lp (fun _ _ _ => none) (fX6_falls_66b k20)
theorem e_X6_falls_66 {G : Cf} {x : SX} {k20 : Int32 → SM → Option (Unit × SM)} (hk20 : ∀ (l1 : Int32) (s : SM), R (wfM x) inU G M_X6_falls 20 [some (.ref mb), some (.int l1), none] [] s (k20 l1 s)) (n : Nat) : ∀ (l1 : Int32) (l2 : Int32) (s : SM), R (wfM x) inU G M_X6_falls 66 [some (.ref mb), some (.int l1), some (.int l2)] [] s (fX6_falls_66 k20 n l1 l2 s) := by
  unfold fX6_falls_66
  exact rr_lp (P := fun (kz : Int32 → Int32 → SM → Option (Unit × SM)) => ∀ (l1 : Int32) (l2 : Int32) (s : SM), R (wfM x) inU G M_X6_falls 66 [some (.ref mb), some (.int l1), some (.int l2)] [] s (kz l1 l2 s)) (fun _ _ _ => rr_none) (fun kz hkz => fun l1 l2 s => e_X6_falls_66b hk20 hkz l1 l2 s) n
def fX6_falls_51 (k20 : Int32 → SM → Option (Unit × SM)) (l1 : Int32) (t1 : Int32) (s : SM) : Option (Unit × SM) :=
  vl (wM s 0 15 t1) fun s8 =>
  vl (wM s8 0 16 ((gM s8 0 16) ||| l1)) fun s9 =>
  vl 0 fun y10 =>
  fX6_falls_66 k20 400 l1 y10 s9
set_option maxRecDepth 100000 in
set_option maxHeartbeats 4000000 in
theorem e_X6_falls_51 {G : Cf} {x : SX} {k20 : Int32 → SM → Option (Unit × SM)} (hk20 : ∀ (l1 : Int32) (s : SM), R (wfM x) inU G M_X6_falls 20 [some (.ref mb), some (.int l1), none] [] s (k20 l1 s)) (l1 : Int32) (t1 : Int32) (s : SM) : R (wfM x) inU G M_X6_falls 51 [some (.ref mb), some (.int l1), none] [.int t1, .ref mb] s (fX6_falls_51 k20 l1 t1 s) := by
  unfold fX6_falls_51
  refine rr_puti (q := 54) rfl fl_X6_174 fp_X6_15 w_M (Nat.le_of_ble_eq_true rfl) u_M15 dX6_falls_51 (fun s8 => ?_)
  refine rr_aload_n (q := 55) rfl dX6_falls_54 rfl ?_
  refine rr_dup (q := 56) rfl dX6_falls_55 rfl ?_
  refine rr_get (q := 59) rfl fl_X6_177 w_M rfl dX6_falls_56 ?_
  refine rr_iload_n (q := 60) rfl dX6_falls_59 rfl ?_
  refine rr_ior (q := 61) rfl dX6_falls_60 ?_
  refine rr_puti (q := 64) rfl fl_X6_177 fp_X6_16 w_M (Nat.le_of_ble_eq_true rfl) u_M16 dX6_falls_61 (fun s9 => ?_)
  refine rr_iconst 0 (q := 65) rfl dX6_falls_64 rfl ?_
  refine rr_istore_n (L2 := fun y10 => [some (.ref mb), some (.int l1), some (.int y10)]) (q := 66) rfl dX6_falls_65 (Nat.le_of_ble_eq_true rfl) (fun _ => rfl) (fun y10 => ?_)
  exact e_X6_falls_66 hk20 400 l1 y10 s9
def fX6_falls_20b (k20 : Int32 → SM → Option (Unit × SM)) (l1 : Int32) (s : SM) : Option (Unit × SM) :=
  (if l1 = 0 then
  some ((), s)
  else
  vl (wM s 0 14 ((gM s 0 14) + 1)) fun s7 =>
  (if (gM s7 0 14) = 1 then
  fX6_falls_51 k20 l1 l1 s7
  else
  fX6_falls_51 k20 l1 (gM s7 0 15) s7))
set_option maxRecDepth 100000 in
set_option maxHeartbeats 4000000 in
theorem e_X6_falls_20b {G : Cf} {x : SX} {k20 : Int32 → SM → Option (Unit × SM)} (hk20 : ∀ (l1 : Int32) (s : SM), R (wfM x) inU G M_X6_falls 20 [some (.ref mb), some (.int l1), none] [] s (k20 l1 s)) (l1 : Int32) (s : SM) : R (wfM x) inU G M_X6_falls 20 [some (.ref mb), some (.int l1), none] [] s (fX6_falls_20b k20 l1 s) := by
  unfold fX6_falls_20b
  refine rr_iload_n (q := 21) rfl dX6_falls_20 rfl ?_
  refine rr_if_eq 101 (q := 24) rfl dX6_falls_21 rfl (fun _ => ?_) (fun _ => ?_)
  · exact rr_vret dX6_falls_101 rfl
  · refine rr_aload_n (q := 25) rfl dX6_falls_24 rfl ?_
    refine rr_dup (q := 26) rfl dX6_falls_25 rfl ?_
    refine rr_get (q := 29) rfl fl_X6_171 w_M rfl dX6_falls_26 ?_
    refine rr_iconst 1 (q := 30) rfl dX6_falls_29 rfl ?_
    refine rr_iadd (q := 31) rfl dX6_falls_30 ?_
    refine rr_puti (q := 34) rfl fl_X6_171 fp_X6_14 w_M (Nat.le_of_ble_eq_true rfl) u_M14 dX6_falls_31 (fun s7 => ?_)
    refine rr_aload_n (q := 35) rfl dX6_falls_34 rfl ?_
    refine rr_aload_n (q := 36) rfl dX6_falls_35 rfl ?_
    refine rr_get (q := 39) rfl fl_X6_171 w_M rfl dX6_falls_36 ?_
    refine rr_iconst 1 (q := 40) rfl dX6_falls_39 rfl ?_
    refine rr_icmp_ne 47 (q := 43) rfl dX6_falls_40 rfl (fun _ => ?_) (fun _ => ?_)
    · refine rr_aload_n (q := 48) rfl dX6_falls_47 rfl ?_
      refine rr_get (q := 51) rfl fl_X6_174 w_M rfl dX6_falls_48 ?_
      exact e_X6_falls_51 hk20 l1 (gM s7 0 15) s7
    · refine rr_iload_n (q := 44) rfl dX6_falls_43 rfl ?_
      refine rr_goto 51 dX6_falls_44 rfl ?_
      exact e_X6_falls_51 hk20 l1 l1 s7
def fX6_falls_20 : Nat → Int32 → SM → Option (Unit × SM) := lp (fun _ _ => none) (fX6_falls_20b)
theorem e_X6_falls_20 {G : Cf} {x : SX}  (n : Nat) : ∀ (l1 : Int32) (s : SM), R (wfM x) inU G M_X6_falls 20 [some (.ref mb), some (.int l1), none] [] s (fX6_falls_20 n l1 s) := by
  unfold fX6_falls_20
  exact rr_lp (P := fun (kz : Int32 → SM → Option (Unit × SM)) => ∀ (l1 : Int32) (s : SM), R (wfM x) inU G M_X6_falls 20 [some (.ref mb), some (.int l1), none] [] s (kz l1 s)) (fun _ _ => rr_none) (fun kz hkz => fun l1 s => e_X6_falls_20b hkz l1 s) n
def fX6_falls (s : SM) : Option (Unit × SM) :=
  vl (wM s 0 14 0) fun s1 =>
  vl (wM s1 0 15 0) fun s2 =>
  vl (wM s2 0 16 0) fun s3 =>
  bd (fX6_looseSet s3) fun v4 s5 =>
  vl v4 fun y6 =>
  fX6_falls_20 400 y6 s5
set_option maxRecDepth 100000 in
set_option maxHeartbeats 4000000 in
theorem e_X6_falls {G : Cf} {x : SX} (s : SM) : Ct (wfM x) inU G M_X6_falls [.ref mb] s (fX6_falls s) := by
  refine Ct.of (L0 := [some (.ref mb), none, none]) 2 rfl rfl ⟨rfl, rfl⟩ (Nat.le_of_ble_eq_true rfl) rfl ?_
  unfold fX6_falls
  refine rr_aload_n (q := 1) rfl dX6_falls_0 rfl ?_
  refine rr_iconst 0 (q := 2) rfl dX6_falls_1 rfl ?_
  refine rr_puti (q := 5) rfl fl_X6_171 fp_X6_14 w_M (Nat.le_of_ble_eq_true rfl) u_M14 dX6_falls_2 (fun s1 => ?_)
  refine rr_aload_n (q := 6) rfl dX6_falls_5 rfl ?_
  refine rr_iconst 0 (q := 7) rfl dX6_falls_6 rfl ?_
  refine rr_puti (q := 10) rfl fl_X6_174 fp_X6_15 w_M (Nat.le_of_ble_eq_true rfl) u_M15 dX6_falls_7 (fun s2 => ?_)
  refine rr_aload_n (q := 11) rfl dX6_falls_10 rfl ?_
  refine rr_iconst 0 (q := 12) rfl dX6_falls_11 rfl ?_
  refine rr_puti (q := 15) rfl fl_X6_177 fp_X6_16 w_M (Nat.le_of_ble_eq_true rfl) u_M16 dX6_falls_12 (fun s3 => ?_)
  refine rr_aload_n (q := 16) rfl dX6_falls_15 rfl ?_
  refine rr_cVi (q := 19) rfl V_X6_looseSet ml_X6_145 ⟨Nat.le_of_ble_eq_true rfl, Nat.le_of_ble_eq_true rfl⟩ (e_X6_looseSet s3) w_M rfl rfl rfl rfl (Nat.le_of_ble_eq_true rfl) dX6_falls_16 (fun v4 s5 => ?_)
  refine rr_istore_n (L2 := fun y6 => [some (.ref mb), some (.int y6), none]) (q := 20) rfl dX6_falls_19 (Nat.le_of_ble_eq_true rfl) (fun _ => rfl) (fun y6 => ?_)
  exact e_X6_falls_20 400 y6 s5
def fX6_lends_7b (k7 : Int32 → SM → Option (Unit × SM)) (l1 : Int32) (s : SM) : Option (Unit × SM) :=
  (if 41 ≤ l1 then
  vl (wM s 0 11 41) fun s3 =>
  some ((), s3)
  else
  ixg l1 82 fun n4 =>
  ixg (41 + l1) 82 fun n5 => vl (wM s 9 n5 (gM s 9 n4)) fun s6 =>
  vl (l1 + 1) fun y7 =>
  k7 y7 s6)
set_option maxRecDepth 100000 in
set_option maxHeartbeats 4000000 in
theorem e_X6_lends_7b {G : Cf} {x : SX} {k7 : Int32 → SM → Option (Unit × SM)} (hk7 : ∀ (l1 : Int32) (s : SM), R (wfM x) inU G M_X6_lends 7 [some (.ref mb), some (.int l1)] [] s (k7 l1 s)) (l1 : Int32) (s : SM) : R (wfM x) inU G M_X6_lends 7 [some (.ref mb), some (.int l1)] [] s (fX6_lends_7b k7 l1 s) := by
  unfold fX6_lends_7b
  refine rr_iload_n (q := 8) rfl dX6_lends_7 rfl ?_
  refine rr_bipush 41 (q := 10) rfl dX6_lends_8 rfl ?_
  refine rr_icmp_ge 34 (q := 13) rfl dX6_lends_10 rfl (fun _ => ?_) (fun _ => ?_)
  · refine rr_aload_n (q := 35) rfl dX6_lends_34 rfl ?_
    refine rr_bipush 41 (q := 37) rfl dX6_lends_35 rfl ?_
    refine rr_puti (q := 40) rfl fl_X6_90 fp_X6_11 w_M (Nat.le_of_ble_eq_true rfl) u_M11 dX6_lends_37 (fun s3 => ?_)
    exact rr_vret dX6_lends_40 rfl
  · refine rr_aload_n (q := 14) rfl dX6_lends_13 rfl ?_
    refine rr_get (q := 17) rfl fl_X6_34 w_M rfl dX6_lends_14 ?_
    refine rr_bipush 41 (q := 19) rfl dX6_lends_17 rfl ?_
    refine rr_iload_n (q := 20) rfl dX6_lends_19 rfl ?_
    refine rr_iadd (q := 21) rfl dX6_lends_20 ?_
    refine rr_aload_n (q := 22) rfl dX6_lends_21 rfl ?_
    refine rr_get (q := 25) rfl fl_X6_34 w_M rfl dX6_lends_22 ?_
    refine rr_iload_n (q := 26) rfl dX6_lends_25 rfl ?_
    refine rr_iald (q := 27) rfl w_marr9 dX6_lends_26 (fun n4 => ?_)
    refine rr_iast (q := 28) rfl w_marr9 (fun _ => u_marr9) dX6_lends_27 (fun n5 s6 => ?_)
    refine rr_iinc (L2 := fun y7 => [some (.ref mb), some (.int y7)]) (q := 31) rfl dX6_lends_28 rfl rfl (Nat.le_of_ble_eq_true rfl) (fun _ => rfl) (fun y7 => ?_)
    refine rr_goto 7 dX6_lends_31 rfl ?_
    exact hk7 y7 s6
def fX6_lends_7 : Nat → Int32 → SM → Option (Unit × SM) := lp (fun _ _ => none) (fX6_lends_7b)
theorem e_X6_lends_7 {G : Cf} {x : SX}  (n : Nat) : ∀ (l1 : Int32) (s : SM), R (wfM x) inU G M_X6_lends 7 [some (.ref mb), some (.int l1)] [] s (fX6_lends_7 n l1 s) := by
  unfold fX6_lends_7
  exact rr_lp (P := fun (kz : Int32 → SM → Option (Unit × SM)) => ∀ (l1 : Int32) (s : SM), R (wfM x) inU G M_X6_lends 7 [some (.ref mb), some (.int l1)] [] s (kz l1 s)) (fun _ _ => rr_none) (fun kz hkz => fun l1 s => e_X6_lends_7b hkz l1 s) n
def fX6_lends (s : SM) : Option (Unit × SM) :=
  vl (wM s 0 11 0) fun s1 =>
  vl 0 fun y2 =>
  fX6_lends_7 400 y2 s1
set_option maxRecDepth 100000 in
set_option maxHeartbeats 4000000 in
theorem e_X6_lends {G : Cf} {x : SX} (s : SM) : Ct (wfM x) inU G M_X6_lends [.ref mb] s (fX6_lends s) := by
  refine Ct.of (L0 := [some (.ref mb), none]) 1 rfl rfl ⟨rfl, rfl⟩ (Nat.le_of_ble_eq_true rfl) rfl ?_
  unfold fX6_lends
  refine rr_aload_n (q := 1) rfl dX6_lends_0 rfl ?_
  refine rr_iconst 0 (q := 2) rfl dX6_lends_1 rfl ?_
  refine rr_puti (q := 5) rfl fl_X6_90 fp_X6_11 w_M (Nat.le_of_ble_eq_true rfl) u_M11 dX6_lends_2 (fun s1 => ?_)
  refine rr_iconst 0 (q := 6) rfl dX6_lends_5 rfl ?_
  refine rr_istore_n (L2 := fun y2 => [some (.ref mb), some (.int y2)]) (q := 7) rfl dX6_lends_6 (Nat.le_of_ble_eq_true rfl) (fun _ => rfl) (fun y2 => ?_)
  exact e_X6_lends_7 400 y2 s1
def fX6_fall (s : SM) : Option (Int32 × SM) :=
  bd (fX6_falls s) fun _ s1 =>
  some (gM s1 0 14, s1)
set_option maxRecDepth 100000 in
set_option maxHeartbeats 4000000 in
theorem e_X6_fall {G : Cf} {x : SX} (s : SM) : Ct (wfM x) inI G M_X6_fall [.ref mb] s (fX6_fall s) := by
  refine Ct.of (L0 := [some (.ref mb)]) 0 rfl rfl ⟨rfl, rfl⟩ (Nat.le_of_ble_eq_true rfl) rfl ?_
  unfold fX6_fall
  refine rr_aload_n (q := 1) rfl dX6_fall_0 rfl ?_
  refine rr_cVu (q := 4) rfl V_X6_falls ml_X6_184 ⟨Nat.le_of_ble_eq_true rfl, Nat.le_of_ble_eq_true rfl⟩ (e_X6_falls s) w_M rfl rfl rfl rfl (Nat.le_of_ble_eq_true rfl) dX6_fall_1 (fun _ s1 => ?_)
  refine rr_aload_n (q := 5) rfl dX6_fall_4 rfl ?_
  refine rr_get (q := 8) rfl fl_X6_171 w_M rfl dX6_fall_5 ?_
  exact rr_iret dX6_fall_8 rfl
def fX6_wouldFall (l1 : Int32) (s : SM) : Option (Int32 × SM) :=
  bd (fX6_in l1 0 3 s) fun v1 s2 =>
  (if v1 = 0 then
  bd (fX6_finds (-1000000001) s2) fun v12 s13 =>
  some (v12, s13)
  else
  bd (fX6_deadSet s2) fun v3 s4 =>
  vl v3 fun y5 =>
  bd (fX6_lends s4) fun _ s6 =>
  bd (fX6_falls s6) fun _ s7 =>
  bd (fX6_deadSet s7) fun v8 s9 =>
  vl (v8 &&& (y5 ^^^ (-1))) fun y10 =>
  vl (wM s9 0 11 0) fun s11 =>
  (if l1 = 0 then
  some (gM s11 0 14, s11)
  else
  (if l1 = 1 then
  some (gM s11 0 16, s11)
  else
  (if l1 = 2 then
  some (y10, s11)
  else
  some (gM s11 0 15, s11)))))
set_option maxRecDepth 100000 in
set_option maxHeartbeats 4000000 in
theorem e_X6_wouldFall {G : Cf} {x : SX} (l1 : Int32) (s : SM) : Ct (wfM x) inI G M_X6_wouldFall [.ref mb, .int l1] s (fX6_wouldFall l1 s) := by
  refine Ct.of (L0 := [some (.ref mb), some (.int l1), none, none]) 2 rfl rfl ⟨rfl, rfl⟩ (Nat.le_of_ble_eq_true rfl) rfl ?_
  unfold fX6_wouldFall
  refine rr_iload_n (q := 1) rfl dX6_wouldFall_0 rfl ?_
  refine rr_iconst 0 (q := 2) rfl dX6_wouldFall_1 rfl ?_
  refine rr_iconst 3 (q := 3) rfl dX6_wouldFall_2 rfl ?_
  refine rr_cSi (q := 6) rfl V_X6_in ml_X6_79 ⟨Nat.le_of_ble_eq_true rfl, Nat.le_of_ble_eq_true rfl⟩ (e_X6_in l1 0 3 s) rfl rfl (Nat.le_of_ble_eq_true rfl) dX6_wouldFall_3 (fun v1 s2 => ?_)
  refine rr_if_ne 16 (q := 9) rfl dX6_wouldFall_6 rfl (fun _ => ?_) (fun _ => ?_)
  · refine rr_aload_n (q := 17) rfl dX6_wouldFall_16 rfl ?_
    refine rr_cVi (q := 20) rfl V_X6_deadSet ml_X6_187 ⟨Nat.le_of_ble_eq_true rfl, Nat.le_of_ble_eq_true rfl⟩ (e_X6_deadSet s2) w_M rfl rfl rfl rfl (Nat.le_of_ble_eq_true rfl) dX6_wouldFall_17 (fun v3 s4 => ?_)
    refine rr_istore_n (L2 := fun y5 => [some (.ref mb), some (.int l1), some (.int y5), none]) (q := 21) rfl dX6_wouldFall_20 (Nat.le_of_ble_eq_true rfl) (fun _ => rfl) (fun y5 => ?_)
    refine rr_aload_n (q := 22) rfl dX6_wouldFall_21 rfl ?_
    refine rr_cVu (q := 25) rfl V_X6_lends ml_X6_190 ⟨Nat.le_of_ble_eq_true rfl, Nat.le_of_ble_eq_true rfl⟩ (e_X6_lends s4) w_M rfl rfl rfl rfl (Nat.le_of_ble_eq_true rfl) dX6_wouldFall_22 (fun _ s6 => ?_)
    refine rr_aload_n (q := 26) rfl dX6_wouldFall_25 rfl ?_
    refine rr_cVu (q := 29) rfl V_X6_falls ml_X6_184 ⟨Nat.le_of_ble_eq_true rfl, Nat.le_of_ble_eq_true rfl⟩ (e_X6_falls s6) w_M rfl rfl rfl rfl (Nat.le_of_ble_eq_true rfl) dX6_wouldFall_26 (fun _ s7 => ?_)
    refine rr_aload_n (q := 30) rfl dX6_wouldFall_29 rfl ?_
    refine rr_cVi (q := 33) rfl V_X6_deadSet ml_X6_187 ⟨Nat.le_of_ble_eq_true rfl, Nat.le_of_ble_eq_true rfl⟩ (e_X6_deadSet s7) w_M rfl rfl rfl rfl (Nat.le_of_ble_eq_true rfl) dX6_wouldFall_30 (fun v8 s9 => ?_)
    refine rr_iload_n (q := 34) rfl dX6_wouldFall_33 rfl ?_
    refine rr_iconst (-1) (q := 35) rfl dX6_wouldFall_34 rfl ?_
    refine rr_ixor (q := 36) rfl dX6_wouldFall_35 ?_
    refine rr_iand (q := 37) rfl dX6_wouldFall_36 ?_
    refine rr_istore_n (L2 := fun y10 => [some (.ref mb), some (.int l1), some (.int y5), some (.int y10)]) (q := 38) rfl dX6_wouldFall_37 (Nat.le_of_ble_eq_true rfl) (fun _ => rfl) (fun y10 => ?_)
    refine rr_aload_n (q := 39) rfl dX6_wouldFall_38 rfl ?_
    refine rr_iconst 0 (q := 40) rfl dX6_wouldFall_39 rfl ?_
    refine rr_puti (q := 43) rfl fl_X6_90 fp_X6_11 w_M (Nat.le_of_ble_eq_true rfl) u_M11 dX6_wouldFall_40 (fun s11 => ?_)
    refine rr_iload_n (q := 44) rfl dX6_wouldFall_43 rfl ?_
    refine rr_if_ne 54 (q := 47) rfl dX6_wouldFall_44 rfl (fun _ => ?_) (fun _ => ?_)
    · refine rr_iload_n (q := 55) rfl dX6_wouldFall_54 rfl ?_
      refine rr_iconst 1 (q := 56) rfl dX6_wouldFall_55 rfl ?_
      refine rr_icmp_ne 66 (q := 59) rfl dX6_wouldFall_56 rfl (fun _ => ?_) (fun _ => ?_)
      · refine rr_iload_n (q := 67) rfl dX6_wouldFall_66 rfl ?_
        refine rr_iconst 2 (q := 68) rfl dX6_wouldFall_67 rfl ?_
        refine rr_icmp_ne 75 (q := 71) rfl dX6_wouldFall_68 rfl (fun _ => ?_) (fun _ => ?_)
        · refine rr_aload_n (q := 76) rfl dX6_wouldFall_75 rfl ?_
          refine rr_get (q := 79) rfl fl_X6_174 w_M rfl dX6_wouldFall_76 ?_
          exact rr_iret dX6_wouldFall_79 rfl
        · refine rr_iload_n (q := 72) rfl dX6_wouldFall_71 rfl ?_
          refine rr_goto 79 dX6_wouldFall_72 rfl ?_
          exact rr_iret dX6_wouldFall_79 rfl
      · refine rr_aload_n (q := 60) rfl dX6_wouldFall_59 rfl ?_
        refine rr_get (q := 63) rfl fl_X6_177 w_M rfl dX6_wouldFall_60 ?_
        refine rr_goto 79 dX6_wouldFall_63 rfl ?_
        exact rr_iret dX6_wouldFall_79 rfl
    · refine rr_aload_n (q := 48) rfl dX6_wouldFall_47 rfl ?_
      refine rr_get (q := 51) rfl fl_X6_171 w_M rfl dX6_wouldFall_48 ?_
      refine rr_goto 79 dX6_wouldFall_51 rfl ?_
      exact rr_iret dX6_wouldFall_79 rfl
  · refine rr_aload_n (q := 10) rfl dX6_wouldFall_9 rfl ?_
    refine rr_ldc (q := 12) rfl dX6_wouldFall_10 kc_X6_78 ?_
    refine rr_cVi (q := 15) rfl V_X6_finds ml_X6_125 ⟨Nat.le_of_ble_eq_true rfl, Nat.le_of_ble_eq_true rfl⟩ (e_X6_finds (-1000000001) s2) w_M rfl rfl rfl rfl (Nat.le_of_ble_eq_true rfl) dX6_wouldFall_12 (fun v12 s13 => ?_)
    exact rr_iret dX6_wouldFall_15 rfl
def fX6_pullsDown (l1 : Int32) (s : SM) : Option (Int32 × SM) :=
  bd (fX6_lends s) fun _ s1 =>
  bd (fX6_breaks l1 s1) fun _ s2 =>
  bd (fX6_falls s2) fun _ s3 =>
  vl (wM s3 0 11 0) fun s4 =>
  some ((gM s4 0 16) ||| (1 <<< (l1 &&& 31)), s4)
set_option maxRecDepth 100000 in
set_option maxHeartbeats 4000000 in
theorem e_X6_pullsDown {G : Cf} {x : SX} (l1 : Int32) (s : SM) : Ct (wfM x) inI G M_X6_pullsDown [.ref mb, .int l1] s (fX6_pullsDown l1 s) := by
  refine Ct.of (L0 := [some (.ref mb), some (.int l1)]) 0 rfl rfl ⟨rfl, rfl⟩ (Nat.le_of_ble_eq_true rfl) rfl ?_
  unfold fX6_pullsDown
  refine rr_aload_n (q := 1) rfl dX6_pullsDown_0 rfl ?_
  refine rr_cVu (q := 4) rfl V_X6_lends ml_X6_190 ⟨Nat.le_of_ble_eq_true rfl, Nat.le_of_ble_eq_true rfl⟩ (e_X6_lends s) w_M rfl rfl rfl rfl (Nat.le_of_ble_eq_true rfl) dX6_pullsDown_1 (fun _ s1 => ?_)
  refine rr_aload_n (q := 5) rfl dX6_pullsDown_4 rfl ?_
  refine rr_iload_n (q := 6) rfl dX6_pullsDown_5 rfl ?_
  refine rr_cVu (q := 9) rfl V_X6_breaks ml_X6_180 ⟨Nat.le_of_ble_eq_true rfl, Nat.le_of_ble_eq_true rfl⟩ (e_X6_breaks l1 s1) w_M rfl rfl rfl rfl (Nat.le_of_ble_eq_true rfl) dX6_pullsDown_6 (fun _ s2 => ?_)
  refine rr_aload_n (q := 10) rfl dX6_pullsDown_9 rfl ?_
  refine rr_cVu (q := 13) rfl V_X6_falls ml_X6_184 ⟨Nat.le_of_ble_eq_true rfl, Nat.le_of_ble_eq_true rfl⟩ (e_X6_falls s2) w_M rfl rfl rfl rfl (Nat.le_of_ble_eq_true rfl) dX6_pullsDown_10 (fun _ s3 => ?_)
  refine rr_aload_n (q := 14) rfl dX6_pullsDown_13 rfl ?_
  refine rr_iconst 0 (q := 15) rfl dX6_pullsDown_14 rfl ?_
  refine rr_puti (q := 18) rfl fl_X6_90 fp_X6_11 w_M (Nat.le_of_ble_eq_true rfl) u_M11 dX6_pullsDown_15 (fun s4 => ?_)
  refine rr_aload_n (q := 19) rfl dX6_pullsDown_18 rfl ?_
  refine rr_get (q := 22) rfl fl_X6_177 w_M rfl dX6_pullsDown_19 ?_
  refine rr_iconst 1 (q := 23) rfl dX6_pullsDown_22 rfl ?_
  refine rr_iload_n (q := 24) rfl dX6_pullsDown_23 rfl ?_
  refine rr_ishl (q := 25) rfl dX6_pullsDown_24 ?_
  refine rr_ior (q := 26) rfl dX6_pullsDown_25 ?_
  exact rr_iret dX6_pullsDown_26 rfl
def fX6_pulls (l1 : Int32) (s : SM) : Option (Int32 × SM) :=
  bd (fX6_isTreaty l1 s) fun v1 s2 =>
  (if v1 = 0 then
  bd (fX6_finds (-1000000001) s2) fun v9 s10 =>
  some (v9, s10)
  else
  bd (fX6_isInForce l1 s2) fun v3 s4 =>
  (if v3 = 0 then
  bd (fX6_finds (-1000000005) s4) fun v5 s6 =>
  some (v5, s6)
  else
  bd (fX6_pullsDown l1 s4) fun v7 s8 =>
  some (v7, s8)))
set_option maxRecDepth 100000 in
set_option maxHeartbeats 4000000 in
theorem e_X6_pulls {G : Cf} {x : SX} (l1 : Int32) (s : SM) : Ct (wfM x) inI G M_X6_pulls [.ref mb, .int l1] s (fX6_pulls l1 s) := by
  refine Ct.of (L0 := [some (.ref mb), some (.int l1)]) 0 rfl rfl ⟨rfl, rfl⟩ (Nat.le_of_ble_eq_true rfl) rfl ?_
  unfold fX6_pulls
  refine rr_aload_n (q := 1) rfl dX6_pulls_0 rfl ?_
  refine rr_iload_n (q := 2) rfl dX6_pulls_1 rfl ?_
  refine rr_cVi (q := 5) rfl V_X6_isTreaty ml_X6_158 ⟨Nat.le_of_ble_eq_true rfl, Nat.le_of_ble_eq_true rfl⟩ (e_X6_isTreaty l1 s) w_M rfl rfl rfl rfl (Nat.le_of_ble_eq_true rfl) dX6_pulls_2 (fun v1 s2 => ?_)
  refine rr_if_ne 15 (q := 8) rfl dX6_pulls_5 rfl (fun _ => ?_) (fun _ => ?_)
  · refine rr_aload_n (q := 16) rfl dX6_pulls_15 rfl ?_
    refine rr_iload_n (q := 17) rfl dX6_pulls_16 rfl ?_
    refine rr_cVi (q := 20) rfl V_X6_isInForce ml_X6_113 ⟨Nat.le_of_ble_eq_true rfl, Nat.le_of_ble_eq_true rfl⟩ (e_X6_isInForce l1 s2) w_M rfl rfl rfl rfl (Nat.le_of_ble_eq_true rfl) dX6_pulls_17 (fun v3 s4 => ?_)
    refine rr_if_eq 31 (q := 23) rfl dX6_pulls_20 rfl (fun _ => ?_) (fun _ => ?_)
    · refine rr_aload_n (q := 32) rfl dX6_pulls_31 rfl ?_
      refine rr_ldc (q := 34) rfl dX6_pulls_32 kc_X6_139 ?_
      refine rr_cVi (q := 37) rfl V_X6_finds ml_X6_125 ⟨Nat.le_of_ble_eq_true rfl, Nat.le_of_ble_eq_true rfl⟩ (e_X6_finds (-1000000005) s4) w_M rfl rfl rfl rfl (Nat.le_of_ble_eq_true rfl) dX6_pulls_34 (fun v5 s6 => ?_)
      exact rr_iret dX6_pulls_37 rfl
    · refine rr_aload_n (q := 24) rfl dX6_pulls_23 rfl ?_
      refine rr_iload_n (q := 25) rfl dX6_pulls_24 rfl ?_
      refine rr_cVi (q := 28) rfl V_X6_pullsDown ml_X6_193 ⟨Nat.le_of_ble_eq_true rfl, Nat.le_of_ble_eq_true rfl⟩ (e_X6_pullsDown l1 s4) w_M rfl rfl rfl rfl (Nat.le_of_ble_eq_true rfl) dX6_pulls_25 (fun v7 s8 => ?_)
      refine rr_goto 37 dX6_pulls_28 rfl ?_
      exact rr_iret dX6_pulls_37 rfl
  · refine rr_aload_n (q := 9) rfl dX6_pulls_8 rfl ?_
    refine rr_ldc (q := 11) rfl dX6_pulls_9 kc_X6_78 ?_
    refine rr_cVi (q := 14) rfl V_X6_finds ml_X6_125 ⟨Nat.le_of_ble_eq_true rfl, Nat.le_of_ble_eq_true rfl⟩ (e_X6_finds (-1000000001) s2) w_M rfl rfl rfl rfl (Nat.le_of_ble_eq_true rfl) dX6_pulls_11 (fun v9 s10 => ?_)
    exact rr_iret dX6_pulls_14 rfl
