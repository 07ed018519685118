/-! ===== String constants: ldc, length, charAt ===== -/
def sLn (i : Nat) : Int32 := nI (sLen.getD i 0)
def sCh (i j : Nat) : Int32 := (sByt.getD i []).getD j 0
theorem sLen_lt (i : Nat) : sLen.getD i 0 < 2 ^ 31 := by
  by_cases hi : i < 15
  · have : ∀ i : Nat, i < 15 → sLen.getD i 0 < 2 ^ 31 := by decide +kernel
    exact this i hi
  · have : sLen.getD i 0 = 0 := by
      rw [List.getD_eq_getElem?_getD, List.getElem?_eq_none (by simp [sLen]; omega)]
      rfl
    omega
section JStr
variable {G : Cf} {M : MI} {pc : Nat} {L : List (Option Value)} {st : List Value} {w : Wd} {Q : QW}
theorem j_ldcs {i : Nat} (hi : i < 15) (ho : mO M = RX4) (hd : decode (mC M) pc = .ok (.ldc (sIdx.getD i 0), 2)) (k : J G M (pc + 2) L (.ref (1000 + i) :: st) w Q) : J G M pc L st w Q := by
  intro p l e s m args below meth c cells slots Qf C hR hE ls H locs hw hl
  exact va_ldcS C.1.1 C.1.2.1 (ho ▸ C.1.2.2.2.1) (C.2.2.2.1 i hi) hd (k p l e s m args below meth c cells slots Qf C hR hE ls H locs hw hl)
theorem j_strv {i idx : Nat} (hi : i < 15) (hk : Cond.fieldLink (mO M) idx RJ0 "value" "[B" ∈ lw_good) (hd : decode (mC M) pc = .ok (.getfield idx, 3)) (k : J G M (pc + 3) L (.ref (2000 + i) :: st) w Q) : J G M pc L (.ref (1000 + i) :: st) w Q := by
  intro p l e s m args below meth c cells slots Qf C hR hE ls H locs hw hl
  exact vk_getf C.1.1 C.1.2.1 (C.2.2.1.1 i hi).2.2.1 hw.2.2 C.1.2.2.2.1 (C.1.2.2.2.2 _ hk) (fun _ h => h) hd (k p l e s m args below meth c cells slots Qf C hR hE ls H locs hw hl)
theorem j_strc {i idx : Nat} (hi : i < 15) (hk : Cond.fieldLink (mO M) idx RJ0 "coder" "B" ∈ lw_good) (hd : decode (mC M) pc = .ok (.getfield idx, 3)) (k : J G M (pc + 3) L (.int 0 :: st) w Q) : J G M pc L (.ref (1000 + i) :: st) w Q := by
  intro p l e s m args below meth c cells slots Qf C hR hE ls H locs hw hl
  exact vk_getf C.1.1 C.1.2.1 (C.2.2.1.1 i hi).2.1 hw.2.2 C.1.2.2.2.1 (C.1.2.2.2.2 _ hk) (fun _ h => h) hd (k p l e s m args below meth c cells slots Qf C hR hE ls H locs hw hl)
theorem j_strn {i : Nat} (hi : i < 15) (hd : decode (mC M) pc = .ok (.arraylength, 1)) (k : J G M (pc + 1) L (.int (sLn i) :: st) w Q) : J G M pc L (.ref (2000 + i) :: st) w Q := by
  intro p l e s m args below meth c cells slots Qf C hR hE ls H locs hw hl
  exact va_tlen C.1.1 C.1.2.1 (C.2.2.1.1 i hi).2.2.2 hw.2.2 rfl hd (k p l e s m args below meth c cells slots Qf C hR hE ls H locs hw hl)
theorem j_strb {i k0 : Nat} {x : Int32} (hi : i < 15) (hx : ix x (sLen.getD i 0) k0) (hd : decode (mC M) pc = .ok (.baload, 1)) (k : J G M (pc + 1) L (.int (sCh i k0) :: st) w Q) : J G M pc L (.int x :: .ref (2000 + i) :: st) w Q := by
  intro p l e s m args below meth c cells slots Qf C hR hE ls H locs hw hl
  obtain ⟨hx, rfl⟩ := hx
  exact va_tb C.1.1 C.1.2.1 (C.2.2.1.1 i hi).2.2.2 hw.2.2 hx rfl hd (k p l e s m args below meth c cells slots Qf C hR hE ls H locs hw hl)
theorem j_compact {idx : Nat} (hk : Cond.fieldLink (mO M) idx RJ0 "COMPACT_STRINGS" "Z" ∈ lw_good) (hd : decode (mC M) pc = .ok (.getstatic idx, 3)) (k : J G M (pc + 3) L (.int 1 :: st) w Q) : J G M pc L st w Q := by
  intro p l e s m args below meth c cells slots Qf C hR hE ls H locs hw hl
  exact va_gets C.1.1 C.1.2.1 C.2.2.2.2.2.2.1 hw.2.2 C.1.2.2.2.1 (C.1.2.2.2.2 _ hk) (fun _ h => h) hd (k p l e s m args below meth c cells slots Qf C hR hE ls H locs hw hl)
theorem j_fmt {idx : Nat} (hk : Cond.fieldLink (mO M) idx RJ3 "SIOOBE_FORMATTER" "Ljava/util/function/BiFunction;" ∈ lw_good) (hd : decode (mC M) pc = .ok (.getstatic idx, 3)) (k : (cF G).category = 1 → J G M (pc + 3) L (cF G :: st) w Q) : J G M pc L st w Q := by
  intro p l e s m args below meth c cells slots Qf C hR hE ls H locs hw hl
  exact va_gets C.1.1 C.1.2.1 C.2.2.2.2.2.2.2.1.2 hw.2.2 C.1.2.2.2.1 (C.1.2.2.2.2 _ hk) (fun _ h => h) hd (k C.2.2.2.2.2.2.2.1.1 p l e s m args below meth c cells slots Qf C hR hE ls H locs hw hl)
theorem j_callT {M' : MI} {n idx i : Nat} {as rest : List Value} {r : Value} {u : Wd} (hM : MVV M' n) (hk : Cond.methodLink (mO M) idx (mY M') ∈ lw_good) (hr : rOK M' M) (hi : i < 15) (ho : mO M' = RJ0) (hD : Does G M' (.ref (1000 + i) :: as) w (Is (some r) u)) (hn : as.length = n) (hst : as.reverse ++ .ref (1000 + i) :: rest = st) (hcat : (rest.map fun v => v.category).sum ≤ 8) (hd : decode (mC M) pc = .ok (.invokevirtual idx, 3))
    (kk : J G M (pc + 3) L (r :: rest) u Q) : J G M pc L st w Q := by
  refine j_run (Q' := Is (some r) u) (rest := rest) ?_ (fun v u2 h => by obtain ⟨rfl, rfl⟩ := h; exact kk)
  intro p l e s m args below meth c cells slots ls H locs C hR hw hl
  obtain ⟨⟨m1, m2, m3, m4, m5, m6, m7, m8⟩, m9, m10⟩ := hM
  have ht := C.1.2.2.2.2
  subst hst
  refine ⟨((Value.ref (1000 + i) :: as).map (rv (cz G))).toArray, ?_⟩
  have hrec := vk_recv C.2.2.1 hi hw.2.2
  rw [show ("java/lang/String" : String) = mO M' from ho.symm] at hrec
  refine va_runV (C := mO M') (As := as.map (rv (cz G))) (rest := rest.map (rv (cz G))) C.1 (hD l) ⟨callB_of n ht (lw_goodAll m1) rfl m3 m4 (by rw [m5]; exact ht _ m2) (ht _ hk) ⟨m6, m7, m8⟩ hr, ht _ m9, ht _ m10⟩ ⟨GW.blind _, hrec, fun U hU hW => ⟨rfl, GW.pre C hw hU hW⟩⟩ rfl (by rw [List.length_map]; exact hn) hl.1 (by simp [rv]) (by rw [cat_rv]; exact lv_room (m := m) (pc := pc) (ls := ls) (rest := []) hcat) hd ⟨hR.1, hR.2⟩
end JStr
theorem c_coder {G : Cf} {w : Wd} {i : Nat} (hi : i < 15) : Does G M_J0_coder_7d493 [.ref (1000 + i)] w (Is (some (.int 0)) w) := by
  refine Does.of rfl rfl ⟨rfl, rfl⟩ (Nat.le_of_ble_eq_true rfl) ?_
  refine j_compact sl_J0_38 dJ0_coder_7d493_0 ?_
  refine j_if_eq (tgt := 13) dJ0_coder_7d493_3 rfl (fun h => absurd h (by decide)) (fun _ => ?_)
  refine j_aload_n dJ0_coder_7d493_6 rfl ?_
  refine j_strc hi sl_J0_15 dJ0_coder_7d493_7 ?_
  refine j_goto (tgt := 14) dJ0_coder_7d493_10 rfl ?_
  exact j_iret (ty := .byte) dJ0_coder_7d493_14 rfl rfl ⟨rfl, rfl⟩
theorem c_isLatin1 {G : Cf} {w : Wd} {i : Nat} (hi : i < 15) : Does G M_J0_isLatin1_aae02 [.ref (1000 + i)] w (Is (some (.int 1)) w) := by
  refine Does.of rfl rfl ⟨rfl, rfl⟩ (Nat.le_of_ble_eq_true rfl) ?_
  refine j_compact sl_J0_38 dJ0_isLatin1_aae02_0 ?_
  refine j_if_eq (tgt := 17) dJ0_isLatin1_aae02_3 rfl (fun h => absurd h (by decide)) (fun _ => ?_)
  refine j_aload_n dJ0_isLatin1_aae02_6 rfl ?_
  refine j_strc hi sl_J0_15 dJ0_isLatin1_aae02_7 ?_
  refine j_if_ne (tgt := 17) dJ0_isLatin1_aae02_10 rfl (fun h => absurd rfl h) (fun _ => ?_)
  refine j_iconst 1 dJ0_isLatin1_aae02_13 rfl ?_
  refine j_goto (tgt := 18) dJ0_isLatin1_aae02_14 rfl ?_
  exact j_zret dJ0_isLatin1_aae02_18 rfl (Or.inr rfl) ⟨rfl, rfl⟩
theorem c_length {G : Cf} {w : Wd} {i : Nat} (hi : i < 15) : Does G M_J0_length_8abf5 [.ref (1000 + i)] w (Is (some (.int (sLn i))) w) := by
  refine Does.of rfl rfl ⟨rfl, rfl⟩ (Nat.le_of_ble_eq_true rfl) ?_
  refine j_aload_n dJ0_length_8abf5_0 rfl ?_
  refine j_strv hi sl_J0_9 dJ0_length_8abf5_1 ?_
  refine j_strn hi dJ0_length_8abf5_4 ?_
  refine j_aload_n dJ0_length_8abf5_5 rfl ?_
  refine j_callT (rest := [.int (sLn i)]) V_J0_coder_7d493 ml_J0_335 ⟨Nat.le_of_ble_eq_true rfl, Nat.le_of_ble_eq_true rfl⟩ hi rfl (c_coder hi) rfl rfl (Nat.le_of_ble_eq_true rfl) dJ0_length_8abf5_6 ?_
  refine j_ishr dJ0_length_8abf5_9 ?_
  have e : sLn i >>> ((0 : Int32) &&& 31) = sLn i := by
    have : ∀ i : Nat, i < 15 → sLn i >>> ((0 : Int32) &&& 31) = sLn i := by decide +kernel
    exact this i hi
  rw [e]
  exact j_iret (ty := .int) dJ0_length_8abf5_10 rfl rfl ⟨rfl, rfl⟩
theorem c_check3 {G : Cf} {w : Wd} {x n : Int32} (hF : (cF G).category = 1) (h1 : ¬ x < 0) (h2 : x < n) : Does G M_J3_checkIndex_8e157 [.int x, .int n, cF G] w (Is (some (.int x)) w) := by
  have e : lg_sl [Value.int x, .int n, cF G] = [Slot.val (.int x)] ++ ([Slot.val (.int n)] ++ ((if (cF G).category = 2 then [Slot.val (cF G), Slot.second] else [Slot.val (cF G)]) ++ [])) := rfl
  refine Does.of rfl rfl ⟨rfl, rfl⟩ (by rw [e, if_neg (by rw [hF]; decide)]; exact Nat.le_of_ble_eq_true rfl) ?_
  refine j_iload_n (x := x) dJ3_checkIndex_8e157_0 rfl ?_
  refine j_if_lt (tgt := 9) dJ3_checkIndex_8e157_1 rfl (fun h => absurd h h1) (fun _ => ?_)
  refine j_iload_n (x := x) dJ3_checkIndex_8e157_4 rfl ?_
  refine j_iload_n (x := n) dJ3_checkIndex_8e157_5 rfl ?_
  refine j_icmp_lt (tgt := 16) dJ3_checkIndex_8e157_6 rfl (fun _ => ?_) (fun h => absurd h2 h)
  refine j_iload_n (x := x) dJ3_checkIndex_8e157_16 rfl ?_
  exact j_iret (ty := .int) dJ3_checkIndex_8e157_17 rfl rfl ⟨rfl, rfl⟩
theorem c_check {G : Cf} {w : Wd} {x n : Int32} (h1 : ¬ x < 0) (h2 : x < n) : Does G M_J0_checkIndex_df160 [.int x, .int n] w (Is none w) := by
  refine Does.of rfl rfl ⟨rfl, rfl⟩ (Nat.le_of_ble_eq_true rfl) ?_
  refine j_iload_n dJ0_checkIndex_df160_0 rfl ?_
  refine j_iload_n dJ0_checkIndex_df160_1 rfl ?_
  refine j_fmt sl_J0_1053 dJ0_checkIndex_df160_2 (fun hF => ?_)
  refine j_cS (rest := []) V_J3_checkIndex_8e157 ml_J0_1059 ⟨Nat.le_of_ble_eq_true rfl, Nat.le_of_ble_eq_true rfl⟩ (c_check3 hF h1 h2) rfl rfl (Nat.le_of_ble_eq_true rfl) dJ0_checkIndex_df160_5 ?_
  refine j_pop dJ0_checkIndex_df160_8 rfl ?_
  exact j_vret dJ0_checkIndex_df160_9 rfl ⟨rfl, rfl⟩
theorem sCh_c : ∀ i : Nat, i < 15 → ∀ j : Nat, j < sLen.getD i 0 → ((sCh i j &&& 255).toUInt32 % 65536).toInt32 = sCh i j := by decide +kernel
theorem sCh_r : ∀ i : Nat, i < 15 → ∀ j : Nat, j < sLen.getD i 0 → 97 ≤ sCh i j ∧ sCh i j ≤ 122 := by decide +kernel
theorem c_charAt1 {G : Cf} {w : Wd} {i k : Nat} {x : Int32} (hi : i < 15) (hx : ix x (sLen.getD i 0) k) : Does G M_J1_charAt_3b067 [.ref (2000 + i), .int x] w (Is (some (.int (sCh i k))) w) := by
  have hlt := sLen_lt i
  have h0 := hx.1
  obtain ⟨h1, h2⟩ := vp_in_iff.mp hx.1
  have hk : k < sLen.getD i 0 := by
    rw [← hx.2]
    exact Nat.lt_of_not_le (fun h => h0 (Or.inr h))
  refine Does.of rfl rfl ⟨rfl, rfl⟩ (Nat.le_of_ble_eq_true rfl) ?_
  refine j_iload_n dJ1_charAt_3b067_0 rfl ?_
  refine j_aload_n dJ1_charAt_3b067_1 rfl ?_
  refine j_strn hi dJ1_charAt_3b067_2 ?_
  refine j_callS (rest := []) (Q' := Is none w) V_J0_checkIndex_df160 ml_J1_9 ⟨Nat.le_of_ble_eq_true rfl, Nat.le_of_ble_eq_true rfl⟩ (c_check (x := x) (n := sLn i) (fun h => h0 (Or.inl h)) (by rw [Int32.lt_iff_toInt_lt, sLn, nI_toInt hlt]; exact h2)) rfl rfl (Nat.le_of_ble_eq_true rfl) dJ1_charAt_3b067_3 (fun v u hu => ?_)
  obtain ⟨rfl, rfl⟩ := hu
  refine j_aload_n (x := 2000 + i) dJ1_charAt_3b067_6 rfl ?_
  refine j_iload_n (x := x) dJ1_charAt_3b067_7 rfl ?_
  refine j_strb hi hx dJ1_charAt_3b067_8 ?_
  refine j_sipush 255 dJ1_charAt_3b067_9 rfl ?_
  refine j_iand dJ1_charAt_3b067_12 ?_
  refine j_i2c dJ1_charAt_3b067_13 ?_
  rw [sCh_c i hi k hk]
  exact j_iret (ty := .char) dJ1_charAt_3b067_14 rfl (by
    have := sCh_c i hi k hk
    have h3 : ∀ i : Nat, i < 15 → ∀ j : Nat, j < sLen.getD i 0 → narrow .char (.int (sCh i j)) = .int (sCh i j) := by decide +kernel
    exact h3 i hi k hk) ⟨rfl, rfl⟩
theorem c_charAt {G : Cf} {w : Wd} {i k : Nat} {x : Int32} (hi : i < 15) (hx : ix x (sLen.getD i 0) k) : Does G M_J0_charAt_5068e [.ref (1000 + i), .int x] w (Is (some (.int (sCh i k))) w) := by
  have h0 := hx.1
  have hk : k < sLen.getD i 0 := by
    rw [← hx.2]
    exact Nat.lt_of_not_le (fun h => h0 (Or.inr h))
  refine Does.of rfl rfl ⟨rfl, rfl⟩ (Nat.le_of_ble_eq_true rfl) ?_
  refine j_aload_n dJ0_charAt_5068e_0 rfl ?_
  refine j_callT (rest := []) V_J0_isLatin1_aae02 ml_J0_492 ⟨Nat.le_of_ble_eq_true rfl, Nat.le_of_ble_eq_true rfl⟩ hi rfl (c_isLatin1 hi) rfl rfl (Nat.le_of_ble_eq_true rfl) dJ0_charAt_5068e_1 ?_
  refine j_if_eq (tgt := 16) dJ0_charAt_5068e_4 rfl (fun h => absurd h (by decide)) (fun _ => ?_)
  refine j_aload_n dJ0_charAt_5068e_7 rfl ?_
  refine j_strv hi sl_J0_9 dJ0_charAt_5068e_8 ?_
  refine j_iload_n dJ0_charAt_5068e_11 rfl ?_
  refine j_cS (rest := []) V_J1_charAt_3b067 ml_J0_495 ⟨Nat.le_of_ble_eq_true rfl, Nat.le_of_ble_eq_true rfl⟩ (c_charAt1 hi hx) rfl rfl (Nat.le_of_ble_eq_true rfl) dJ0_charAt_5068e_12 ?_
  exact j_iret (ty := .char) dJ0_charAt_5068e_15 rfl (by
    have h3 : ∀ i : Nat, i < 15 → ∀ j : Nat, j < sLen.getD i 0 → narrow .char (.int (sCh i j)) = .int (sCh i j) := by decide +kernel
    exact h3 i hi k hk) ⟨rfl, rfl⟩
section RStr
variable {S α : Type} {wf : S → Wd} {inj : α → Option Value} {G : Cf} {M : MI} {pc q : Nat} {L : List (Option Value)} {st : List Value} {s : S} {F : Option (α × S)}
theorem rr_ldcs (i : Nat) {idx : Nat} (hq : pc + 2 = q) (hd : decode (mC M) pc = .ok (.ldc idx, 2)) (ho : mO M = RX4 ∧ sIdx.getD i 0 = idx) (hi : i < 15) (k : R wf inj G M q L (.ref (1000 + i) :: st) s F) : R wf inj G M pc L st s F := by
  subst hq
  obtain ⟨ho, rfl⟩ := ho
  exact fun a s2 h => j_ldcs hi ho hd (k a s2 h)
theorem rr_slen {i idx : Nat} (hq : pc + 3 = q) (hk : Cond.methodLink (mO M) idx yJ0_length_8abf5 ∈ lw_good) (hi : i < 15) (hd : decode (mC M) pc = .ok (.invokevirtual idx, 3)) (h1 : (mR M_J0_length_8abf5).frames + 1 ≤ (mR M).frames) (h2 : 8 + (mN M_J0_length_8abf5 + 11) + (mR M_J0_length_8abf5).locals ≤ (mR M).locals) (hcat : (st.map fun v => v.category).sum ≤ 8) (k : R wf inj G M q L (.int (sLn i) :: st) s F) : R wf inj G M pc L (.ref (1000 + i) :: st) s F := by
  subst hq
  exact fun a s2 h => j_callT (rest := st) V_J0_length_8abf5 hk ⟨h1, h2⟩ hi rfl (c_length hi) rfl rfl hcat hd (k a s2 h)
theorem rr_schar {i idx : Nat} {x : Int32} {F : Nat → Option (α × S)} (hq : pc + 3 = q) (hk : Cond.methodLink (mO M) idx yJ0_charAt_5068e ∈ lw_good) (hi : i < 15) (hd : decode (mC M) pc = .ok (.invokevirtual idx, 3)) (h1 : (mR M_J0_charAt_5068e).frames + 1 ≤ (mR M).frames) (h2 : 8 + (mN M_J0_charAt_5068e + 11) + (mR M_J0_charAt_5068e).locals ≤ (mR M).locals) (hcat : (st.map fun v => v.category).sum ≤ 8) (k : ∀ k0, R wf inj G M q L (.int (sCh i k0) :: st) s (F k0)) : R wf inj G M pc L (.int x :: .ref (1000 + i) :: st) s (ixg x (sLen.getD i 0) F) := by
  subst hq
  exact fun a s2 h => j_callT (rest := st) V_J0_charAt_5068e hk ⟨h1, h2⟩ hi rfl (c_charAt hi (ixg_some h).1) rfl rfl hcat hd (k _ a s2 (ixg_some h).2)
end RStr
