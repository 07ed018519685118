/-! ===== the law from its entry to its loop ===== -/
def s00 : SX := (fun _ _ _ => 0, fun _ _ => 0)
def t00 : SM := (fun _ _ => 0, fun _ _ => 0)
set_option maxRecDepth 100000 in
theorem world_00 : hkc 0 ++ moc 74 = world s00 t00 := rfl
def fl1 : List Cond := flatC (Jvm.Cond.and given_1 narrow_1)
def tmS (i : Nat) : Term := Term.string RX4 (sIdx.getD i 0)
def tmV (i : Nat) : Term := Term.field (tmS i) "java/lang/String" "value" "[B"
def tmK : Term := Term.static RX5 "KIND_ABOVE" "[I"
set_option maxRecDepth 100000 in
theorem fl_ex : ∀ i : Nat, i < 15 → Cond.exactly (tmS i) "java/lang/String" ∈ fl1 := by decide +kernel
set_option maxRecDepth 100000 in
theorem fl_co : ∀ i : Nat, i < 15 → Cond.eq (.field (tmS i) "java/lang/String" "coder" "B") (.int 0) ∈ fl1 := by decide +kernel
set_option maxRecDepth 100000 in
theorem fl_ar : ∀ i : Nat, i < 15 → Cond.arrayOf (tmV i) .byte ∈ fl1 := by decide +kernel
set_option maxRecDepth 100000 in
theorem fl_le : ∀ i : Nat, i < 15 → Cond.eq (.length (tmV i)) (.int (Int32.ofNat (sLen.getD i 0))) ∈ fl1 := by decide +kernel
set_option maxRecDepth 100000 in
theorem fl_el : ∀ i : Nat, i < 15 → ∀ j : Nat, j < sLen.getD i 0 → Cond.eq (.elem (tmV i) (.int (Int32.ofNat j))) (.int ((sByt.getD i []).getD j 0)) ∈ fl1 := by decide +kernel
set_option maxRecDepth 100000 in
theorem fl_ne0 : ∀ j : Nat, j < 15 → 0 ≠ j → Cond.not (Cond.eq (tmS 0) (tmS j)) ∈ fl1 ∨ Cond.not (Cond.eq (tmS j) (tmS 0)) ∈ fl1 := by decide +kernel
set_option maxRecDepth 100000 in
theorem fl_ne1 : ∀ j : Nat, j < 15 → 1 ≠ j → Cond.not (Cond.eq (tmS 1) (tmS j)) ∈ fl1 ∨ Cond.not (Cond.eq (tmS j) (tmS 1)) ∈ fl1 := by decide +kernel
set_option maxRecDepth 100000 in
theorem fl_ne2 : ∀ j : Nat, j < 15 → 2 ≠ j → Cond.not (Cond.eq (tmS 2) (tmS j)) ∈ fl1 ∨ Cond.not (Cond.eq (tmS j) (tmS 2)) ∈ fl1 := by decide +kernel
set_option maxRecDepth 100000 in
theorem fl_ne3 : ∀ j : Nat, j < 15 → 3 ≠ j → Cond.not (Cond.eq (tmS 3) (tmS j)) ∈ fl1 ∨ Cond.not (Cond.eq (tmS j) (tmS 3)) ∈ fl1 := by decide +kernel
set_option maxRecDepth 100000 in
theorem fl_ne4 : ∀ j : Nat, j < 15 → 4 ≠ j → Cond.not (Cond.eq (tmS 4) (tmS j)) ∈ fl1 ∨ Cond.not (Cond.eq (tmS j) (tmS 4)) ∈ fl1 := by decide +kernel
set_option maxRecDepth 100000 in
theorem fl_ne5 : ∀ j : Nat, j < 15 → 5 ≠ j → Cond.not (Cond.eq (tmS 5) (tmS j)) ∈ fl1 ∨ Cond.not (Cond.eq (tmS j) (tmS 5)) ∈ fl1 := by decide +kernel
set_option maxRecDepth 100000 in
theorem fl_ne6 : ∀ j : Nat, j < 15 → 6 ≠ j → Cond.not (Cond.eq (tmS 6) (tmS j)) ∈ fl1 ∨ Cond.not (Cond.eq (tmS j) (tmS 6)) ∈ fl1 := by decide +kernel
set_option maxRecDepth 100000 in
theorem fl_ne7 : ∀ j : Nat, j < 15 → 7 ≠ j → Cond.not (Cond.eq (tmS 7) (tmS j)) ∈ fl1 ∨ Cond.not (Cond.eq (tmS j) (tmS 7)) ∈ fl1 := by decide +kernel
set_option maxRecDepth 100000 in
theorem fl_ne8 : ∀ j : Nat, j < 15 → 8 ≠ j → Cond.not (Cond.eq (tmS 8) (tmS j)) ∈ fl1 ∨ Cond.not (Cond.eq (tmS j) (tmS 8)) ∈ fl1 := by decide +kernel
set_option maxRecDepth 100000 in
theorem fl_ne9 : ∀ j : Nat, j < 15 → 9 ≠ j → Cond.not (Cond.eq (tmS 9) (tmS j)) ∈ fl1 ∨ Cond.not (Cond.eq (tmS j) (tmS 9)) ∈ fl1 := by decide +kernel
set_option maxRecDepth 100000 in
theorem fl_ne10 : ∀ j : Nat, j < 15 → 10 ≠ j → Cond.not (Cond.eq (tmS 10) (tmS j)) ∈ fl1 ∨ Cond.not (Cond.eq (tmS j) (tmS 10)) ∈ fl1 := by decide +kernel
set_option maxRecDepth 100000 in
theorem fl_ne11 : ∀ j : Nat, j < 15 → 11 ≠ j → Cond.not (Cond.eq (tmS 11) (tmS j)) ∈ fl1 ∨ Cond.not (Cond.eq (tmS j) (tmS 11)) ∈ fl1 := by decide +kernel
set_option maxRecDepth 100000 in
theorem fl_ne12 : ∀ j : Nat, j < 15 → 12 ≠ j → Cond.not (Cond.eq (tmS 12) (tmS j)) ∈ fl1 ∨ Cond.not (Cond.eq (tmS j) (tmS 12)) ∈ fl1 := by decide +kernel
set_option maxRecDepth 100000 in
theorem fl_ne13 : ∀ j : Nat, j < 15 → 13 ≠ j → Cond.not (Cond.eq (tmS 13) (tmS j)) ∈ fl1 ∨ Cond.not (Cond.eq (tmS j) (tmS 13)) ∈ fl1 := by decide +kernel
set_option maxRecDepth 100000 in
theorem fl_ne14 : ∀ j : Nat, j < 15 → 14 ≠ j → Cond.not (Cond.eq (tmS 14) (tmS j)) ∈ fl1 ∨ Cond.not (Cond.eq (tmS j) (tmS 14)) ∈ fl1 := by decide +kernel
theorem fl_ne : ∀ i : Nat, i < 15 → ∀ j : Nat, j < 15 → i ≠ j → Cond.not (Cond.eq (tmS i) (tmS j)) ∈ fl1 ∨ Cond.not (Cond.eq (tmS j) (tmS i)) ∈ fl1 := by
  intro i hi
  match i, hi with
  | 0, _ => exact fl_ne0
  | 1, _ => exact fl_ne1
  | 2, _ => exact fl_ne2
  | 3, _ => exact fl_ne3
  | 4, _ => exact fl_ne4
  | 5, _ => exact fl_ne5
  | 6, _ => exact fl_ne6
  | 7, _ => exact fl_ne7
  | 8, _ => exact fl_ne8
  | 9, _ => exact fl_ne9
  | 10, _ => exact fl_ne10
  | 11, _ => exact fl_ne11
  | 12, _ => exact fl_ne12
  | 13, _ => exact fl_ne13
  | 14, _ => exact fl_ne14
  | i + 15, hi => omega
set_option maxRecDepth 100000 in
theorem fl_ka : Cond.arrayOf tmK .int ∈ fl1 ∧ Cond.eq (.length tmK) (.int (Int32.ofNat 6)) ∈ fl1 ∧ ∀ j : Nat, j < 6 → Cond.eq (.elem tmK (.int (Int32.ofNat j))) (.int (kaf j)) ∈ fl1 := by decide +kernel
set_option maxRecDepth 100000 in
theorem fl_cs : Cond.eq (.static RJ0 "COMPACT_STRINGS" "Z") (.int 1) ∈ fl1 ∧ Cond.isRef (.static RJ3 "SIOOBE_FORMATTER" "Ljava/util/function/BiFunction;") ∈ fl1 := by decide +kernel
theorem tb_sr : ∀ i : Nat, i < 15 → ∃ k : Nat, lw_tbl[k]? = some (Cond.stringRef RX4 (sIdx.getD i 0) (sTxt.getD i "")) := by
  intro i hi
  match i, hi with
  | 0, _ => exact ⟨678, by decide +kernel⟩
  | 1, _ => exact ⟨739, by decide +kernel⟩
  | 2, _ => exact ⟨744, by decide +kernel⟩
  | 3, _ => exact ⟨749, by decide +kernel⟩
  | 4, _ => exact ⟨750, by decide +kernel⟩
  | 5, _ => exact ⟨751, by decide +kernel⟩
  | 6, _ => exact ⟨756, by decide +kernel⟩
  | 7, _ => exact ⟨757, by decide +kernel⟩
  | 8, _ => exact ⟨758, by decide +kernel⟩
  | 9, _ => exact ⟨759, by decide +kernel⟩
  | 10, _ => exact ⟨760, by decide +kernel⟩
  | 11, _ => exact ⟨761, by decide +kernel⟩
  | 12, _ => exact ⟨766, by decide +kernel⟩
  | 13, _ => exact ⟨767, by decide +kernel⟩
  | 14, _ => exact ⟨768, by decide +kernel⟩
  | i + 15, hi => omega
def zAll (B : Nat) (adK adV : Nat → Nat) (ka b f : Nat) : Nat → Nat := fun k => if k < 1000 then B + k else if k < 2000 then adK (k - 1000) else if k < 3000 then adV (k - 2000) else if k = 3000 then ka else if k = 4000 then b else f
theorem vk_S.congr {N : Nat} {len : List Nat} {byt : List (List Int32)} {adK adV adK' adV' : Nat → Nat} {A : Nat → Prop} {U : State} {H : Heap} (h1 : ∀ i, i < N → adK' i = adK i) (h2 : ∀ i, i < N → adV' i = adV i) (h : vk_S N len byt adK adV A U H) : vk_S N len byt adK' adV' A U H := by
  refine ⟨fun i hi => ?_, fun i j hi hj e => ?_⟩
  · rw [h1 i hi, h2 i hi]
    exact h.1 i hi
  · rw [h1 i hi, h1 j hj] at e
    exact h.2 i j hi hj e
theorem hts_good {args : Array Value} {s : State} (h : ∀ w ∈ lw_tbl, w.before args s = true) : ∀ w ∈ lw_good, w.before args s = true := fun w hw => h w (List.mem_filter.mp hw).1
set_option maxRecDepth 100000 in
theorem tb_at {args : Array Value} {s : State} (h : ∀ w ∈ lw_tbl, w.before args s = true) (k : Nat) {w : Cond} (hk : lw_tbl[k]? = some w) : w.before args s = true := h w (List.mem_of_getElem? hk)
theorem arr_of {s : State} {args : Array Value} {ty : FieldType} (h : (Cond.arrayClass ty).before args s = true) (hra : ∀ cA, s.vm.findClass ("[" ++ ty.toString) = some cA → va_RA s cA ty) : ∃ cA, ArrOfT s cA ty ∧ va_RA s cA ty := by
  obtain ⟨cA, kA, comp, h1, h2, h3⟩ := Cond.arrayClass_spec h
  exact ⟨cA, fun n z => ⟨fun k h => (by cases h), kA, h2, comp, h3⟩, hra cA h1⟩

section NRows3
variable {G : Cf} {M : MI} {p : Program} {l : Launch} {e : Env} {s : State} {m : MethodId} {args : Array Value} {below : List Frame} {meth : Method} {c : Code} {Qf : State → Prop} {n0 : Nat} {z0 z : Nat → Nat} {pc : Nat} {L : List (Option Value)} {st : List Value} {w : Wd} {cells slots : Nat}
theorem n_astore_n {k0 : Fin 4} {x : Nat} {L2 : List (Option Value)} (C : CxN G M p s m args c meth) (hd : decode (mC M) pc = .ok (.astore_n k0, 1)) (hn : (k0 : Nat) < mN M) (hL : lst1 L (k0 : Nat) (.ref x) = L2) (k : AW G M p l e s m args below meth c Qf n0 z0 z (pc + 1) L2 st w cells slots) : AW G M p l e s m args below meth c Qf n0 z0 z pc L (.ref x :: st) w cells slots := by
  intro a1 a2 a3 hs ls H locs hw hl
  subst hL
  refine lv_astore_n C.1.1 C.1.2.1 hd rfl hl.has hn rfl (fun ls2 hl2 => k a1 a2 a3 ⟨fun j v hj => ?_, fun v hv => hs.2.1 v (List.mem_cons_of_mem _ hv), hs.2.2⟩ ls2 H locs hw (Lh.st1 hl2))
  rcases lget_lput _ _ _ _ _ hj with ⟨-, h1⟩ | ⟨-, h1⟩
  · cases h1; exact hs.2.1 _ List.mem_cons_self
  · exact hs.1 _ _ (lget_lkill h1).1
end NRows3
set_option maxRecDepth 100000 in
set_option maxHeartbeats 4000000 in
theorem start_of (hpure : ∀ (N : Nat) (xs : Nat → Int32), N ≤ 384 → ∃ s', fL_law_18 N xs 400 0 (s00, t00) = some (1, s'))
    {p : Program} {e : Env} {s : State} {m : MethodId} {below : List Frame} {meth : Method} {c : Code} (l : Launch) {b L : Nat} {xs : Nat → Int32} (hL : L ≤ 384)
    (hx : p.tables.exec = Jvm.exec) (hb : c.code = code) (hr : meth.sig.returnType = ret) (hml : c.maxLocals = 4) (hown : s.vm.findClass RL = some m.cls) (hts : ∀ w ∈ lw_tbl, w.before #[Value.ref b] s = true) (hX : va_X b L xs s s.heap) (hbl : b < s.heap.size) (hgv : (Jvm.Cond.and given_1 narrow_1).before #[Value.ref b] s = true)
    {Z : State → Prop} (hend : ∀ (pc : Nat) (ls : Array Slot) (H : Heap), decode code pc = .ok (.ireturn, 1) → W p l e room_1 s m #[Value.ref b] below meth c H [] 600000 7302249 Z (F0 m pc ls [.int 1])) :
    W p l e room_1 s m #[Value.ref b] below meth c s.heap [] 0 0 Z (entryFrame m ([Value.ref b] : List Value).toArray 4) := by
  have hg := hts_good hts
  have hfl := flat_of_before _ hgv
  have hA : ∀ q : Nat, s.heap.size ≤ q → (fun q : Nat => s.heap.size ≤ q) q := fun _ h => h
  have hnA : ∀ a : Nat, a < s.heap.size → ¬ (fun q : Nat => s.heap.size ≤ q) a := fun a h => Nat.not_le.mpr h
  obtain ⟨c0, iS0, hKn0⟩ := u_known (C := RX0) (T := TX0) (N := 4) (n := 4) hg inX0 (hg _ is_X0)
  obtain ⟨c1, iS1, hKn1⟩ := u_known (C := RX1) (T := TX1) (N := 15) (n := 15) hg inX1 (hg _ is_X1)
  obtain ⟨c2, iS2, hKn2⟩ := u_known (C := RX2) (T := TX2) (N := 6) (n := 6) hg inX2 (hg _ is_X2)
  obtain ⟨c3, iS3, hKn3⟩ := u_known (C := RX3) (T := TX3) (N := 3) (n := 3) hg inX3 (hg _ is_X3)
  obtain ⟨c4, iS4, hKn4⟩ := u_known (C := RX4) (T := TX4) (N := 6) (n := 6) hg inX4 (hg _ is_X4)
  obtain ⟨c5, iS5, hKn5⟩ := u_known (C := RX5) (T := TX5) (N := 9) (n := 9) hg inX5 (hg _ is_X5)
  obtain ⟨c6, iS6, hKn6⟩ := u_known (C := RX6) (T := TX6) (N := 41) (n := 41) hg inX6 (hg _ is_X6)
  obtain ⟨dC, dI, hKc⟩ : ∃ (dC : Nat → ClassId) (dI : Nat → Nat → Nat), ∀ (k : Nat) (q : vw_C), vwCl[k]? = some q → u_Kn s q.1 q.2.1 q.2.2 (dC k) (dI k) := by
    refine ⟨fun k => if k = 0 then c0 else if k = 1 then c1 else if k = 2 then c2 else if k = 3 then c3 else if k = 4 then c4 else if k = 5 then c5 else c6, fun k => if k = 0 then iS0 else if k = 1 then iS1 else if k = 2 then iS2 else if k = 3 then iS3 else if k = 4 then iS4 else if k = 5 then iS5 else iS6, ?_⟩
    intro k q hq
    match k, hq with
    | 0, hq => cases hq; exact hKn0
    | 1, hq => cases hq; exact hKn1
    | 2, hq => cases hq; exact hKn2
    | 3, hq => cases hq; exact hKn3
    | 4, hq => cases hq; exact hKn4
    | 5, hq => cases hq; exact hKn5
    | 6, hq => cases hq; exact hKn6
    | k + 7, hq => simp [vwCl] at hq
  obtain ⟨cI, hI1, hI2⟩ := arr_of (ty := .int) (hg _ w_aci) (fun cA h => h)
  obtain ⟨cJ, hJ1, hJ2⟩ := arr_of (ty := .long) (hg _ w_acl) (fun cA h => h)
  obtain ⟨cZ, hZ1, hZ2⟩ := arr_of (ty := .boolean) (hg _ w_acz) (fun cA h => h)
  have hover : (Cond.arrayOver (.object RX3)).before #[Value.ref b] s = true := tb_at hts 248 (by decide +kernel)
  obtain ⟨compO, cO, kO, o1, o2, o3, o4, o5⟩ := Cond.arrayOver_spec hover
  obtain ⟨adK, adV, hstr, hstrE⟩ := vk_Sof (args := #[Value.ref b]) (s := s) (N := 15) (tm := tmS) (len := sLen) (byt := sByt) (A := fun q : Nat => s.heap.size ≤ q) (fun i _ => sLen_lt i) (fun i hi => hfl _ (fl_ex i hi)) (fun i hi => hfl _ (fl_co i hi)) (fun i hi => hfl _ (fl_ar i hi)) (fun i hi => hfl _ (fl_le i hi)) (fun i hi j hj => hfl _ (fl_el i hi j hj)) (fun i j hi hj hne => (fl_ne i hi j hj hne).imp (fun h => hfl _ h) (fun h => hfl _ h)) hnA
  obtain ⟨ka, hkaE, hkaT⟩ := va_Tof (tm := tmK) (ty := .int) (N := 6) (f := fun j => .int (kaf j)) (A := fun q : Nat => s.heap.size ≤ q) (by decide) (hfl _ fl_ka.1) (va_eqt (hfl _ fl_ka.2.1)) (fun j hj => va_eqt (hfl _ (fl_ka.2.2 j hj))) hnA
  have hkaZ := va_Zof (A := fun q : Nat => s.heap.size ≤ q) (tb_at hts 395 (by decide +kernel) : (Cond.laysStatic RX5 "KIND_ABOVE" "[I").before #[Value.ref b] s = true) (hg _ in_X5) hkaE hnA
  have hcsZ := va_Zof (A := fun q : Nat => s.heap.size ≤ q) (tb_at hts 692 (by decide +kernel) : (Cond.laysStatic RJ0 "COMPACT_STRINGS" "Z").before #[Value.ref b] s = true) (tb_at hts 80 (by decide +kernel) : (Cond.initialized RJ0).before #[Value.ref b] s = true) (va_eqt (hfl _ fl_cs.1)) hnA
  have hfmt := va_Zqof (A := fun q : Nat => s.heap.size ≤ q) (tb_at hts 708 (by decide +kernel) : (Cond.laysStatic RJ3 "SIOOBE_FORMATTER" "Ljava/util/function/BiFunction;").before #[Value.ref b] s = true) (tb_at hts 82 (by decide +kernel) : (Cond.initialized RJ3).before #[Value.ref b] s = true) (hfl _ fl_cs.2) hnA
  obtain ⟨fv, fa, hfcat, hfZ⟩ : ∃ (fv : Value) (fa : Nat), (fv.category = 1 ∧ okV 0 fv) ∧ va_Z RJ3 "SIOOBE_FORMATTER" "Ljava/util/function/BiFunction;" (rv (zAll s.heap.size adK adV ka b fa) fv) (fun q : Nat => s.heap.size ≤ q) s s.heap := by
    rcases hfmt with h | ⟨t, h⟩
    · exact ⟨.null, 0, ⟨rfl, trivial⟩, h⟩
    · exact ⟨.ref 5000, t, ⟨rfl, Or.inr (by decide)⟩, h⟩
  have hX2 : va_T .int b L (fun j => .int (xs j)) (fun q : Nat => s.heap.size ≤ q) s s.heap := by
    obtain ⟨scr, g1, g2, g3, g4, g5⟩ := hX
    exact ⟨scr, g1, g2, g3, by omega, by rw [g4], g5, hnA b hbl⟩
  have hEx : ∀ z : Nat → Nat, xt 0 (zAll s.heap.size adK adV ka b fa) z → Ex ((dC, dI), (fun t => if t = 0 then cI else if t = 1 then cJ else if t = 2 then cZ else cO), z, (fun q : Nat => s.heap.size ≤ q), (L, xs), fv) s s.heap := by
    intro z hz
    have e1 : ∀ i, i < 15 → z (1000 + i) = adK i := fun i hi => by
      rw [hz (1000 + i) (Or.inr (by omega)), zAll, if_neg (by omega), if_pos (by omega), Nat.add_sub_cancel_left]
    have e2 : ∀ i, i < 15 → z (2000 + i) = adV i := fun i hi => by
      rw [hz (2000 + i) (Or.inr (by omega)), zAll, if_neg (by omega), if_neg (by omega), if_pos (by omega), Nat.add_sub_cancel_left]
    have e3 : z 3000 = ka := by rw [hz 3000 (Or.inr (by omega))]; rfl
    have e4 : z 4000 = b := by rw [hz 4000 (Or.inr (by omega))]; rfl
    have e5 : rv z fv = rv (zAll s.heap.size adK adV ka b fa) fv := rv_xt hz hfcat.2
    refine ⟨vk_S.congr e1 e2 hstr, fun i hi => ?_, ?_, ?_, hcsZ, ⟨hfcat.1, ?_⟩, ?_⟩
    · obtain ⟨k, hk⟩ := tb_sr i hi
      show vk_R RX4 _ _ (z (1000 + i)) s
      rw [e1 i hi]
      exact vk_R.of (tb_at hts k hk) (hstrE i hi)
    · show va_Z RX5 "KIND_ABOVE" "[I" (.ref (z 3000)) _ s s.heap
      rw [e3]; exact hkaZ
    · show va_T .int (z 3000) 6 _ _ s s.heap
      rw [e3]; exact hkaT
    · show va_Z RJ3 _ _ (rv z fv) _ s s.heap
      rw [e5]; exact hfZ
    · show va_T .int (z 4000) L _ _ s s.heap
      rw [e4]; exact hX2
  have hK : va_K (dC, dI) vwCl (tysG ((dC, dI), (fun t => if t = 0 then cI else if t = 1 then cJ else if t = 2 then cZ else cO), zAll s.heap.size adK adV ka b fa, (fun q : Nat => s.heap.size ≤ q), (L, xs), fv)) s := by
    refine ⟨hKc, fun k q hk => ?_⟩
    match k, hk with
    | 0, hk => cases hk; exact ⟨hI1, hI2⟩
    | 1, hk => cases hk; exact ⟨hJ1, hJ2⟩
    | 2, hk => cases hk; exact ⟨hZ1, hZ2⟩
    | 3, hk => cases hk; exact ⟨fun n z => ⟨fun k h => (by cases h), kO, o3, compO, o4⟩, kO, compO, o3, o4, o1, o5⟩
    | k + 4, hk => simp [tysG] at hk
  have hKA : KA s := by
    refine ⟨va_AO.of hover, fun q hq => ?_⟩
    simp only [NLs, List.mem_cons, List.not_mem_nil, or_false] at hq
    rcases hq with rfl | rfl | rfl | rfl | rfl | rfl | rfl
    · exact va_Nw.of rfl (tb_at hts 94 (by decide +kernel))
    · exact va_Nw.of rfl (tb_at hts 169 (by decide +kernel))
    · exact va_Nw.of rfl (tb_at hts 174 (by decide +kernel))
    · exact va_Nw.of rfl (tb_at hts 192 (by decide +kernel))
    · exact va_Nw.of rfl (tb_at hts 197 (by decide +kernel))
    · exact va_Nw.of rfl (tb_at hts 222 (by decide +kernel))
    · exact va_Nw.of rfl (tb_at hts 250 (by decide +kernel))
  generalize hG : (((dC, dI), (fun t => if t = 0 then cI else if t = 1 then cJ else if t = 2 then cZ else cO), zAll s.heap.size adK adV ka b fa, (fun q : Nat => s.heap.size ≤ q), (L, xs), fv) : Cf) = G at hK
  have hcz : cz G = zAll s.heap.size adK adV ka b fa := by rw [← hG]
  have hGA : cA G = fun q : Nat => s.heap.size ≤ q := by rw [← hG]
  have hGL : cL G = L ∧ cX G = xs := by rw [← hG]; exact ⟨rfl, rfl⟩
  have hGEx : ∀ z, xt 0 (cz G) z → Ex (Gz G z) s s.heap := by
    intro z hz
    rw [hcz] at hz
    have := hEx z hz
    rw [← hG]
    exact this
  have hGD : cD G = (dC, dI) := by rw [← hG]
  rw [← hGD] at hK
  have C : CxN G M_L_law p s m #[Value.ref b] c meth := ⟨⟨hx, hb, hml, hown, hg⟩, hK, hKA, fun h => absurd h (by decide), fun q hq => by rw [hGA]; exact hq⟩
  have hcb : cz G 4000 = b := by rw [hcz]; rfl
  have hl := lv_entry ([.ref b]) (n := 4) (Nat.le_of_ble_eq_true rfl)
  rw [lg_entry_eq]
  generalize (lg_sl ([.ref b]) ++ List.replicate (4 - (lg_sl ([.ref b])).length) Slot.unset).toArray = ls at hl ⊢
  have key : AW G M_L_law p l e s m #[Value.ref b] below meth c Z 0 (cz G) (cz G) 0 [some (.ref 4000), none, none, none] [] [] 0 0 := by
    refine n_new (w := []) (ci := 5) (Cn := RX5) (T := TX5) (N := 9) (ty := tyX5) (fs := [.null, .null, .null, .null, .null, .null, .null, .null, .int 0]) C (Nat.zero_le _) rfl inX5 tyX5_ok cl_L_7 is_X5 in_X5 (by decide) (by simp) (by exact Nat.le_of_ble_eq_true rfl) (by exact Nat.le_of_ble_eq_true rfl) dL_law_0 (fun z => ?_)
    refine n_dup C dL_law_3 rfl ?_
    refine n_callL (x := 0) (M2 := M_X5_init) (w := [blX5]) (w' := hkc 0) (st := [.ref 0]) (cells := 1) (slots := 9) C V_X5_init mlL_9 ⟨Nat.le_of_ble_eq_true rfl, Nat.le_of_ble_eq_true rfl⟩ c_X5_init ⟨(by exact Nat.le_of_ble_eq_true rfl), (by exact Nat.le_of_ble_eq_true rfl)⟩ (by exact Nat.le_of_ble_eq_true rfl) (by exact Nat.le_of_ble_eq_true rfl) (by exact Nat.le_of_ble_eq_true rfl) dL_law_4 (fun z => ?_)
    refine n_astore_n (L2 := [some (.ref 4000), some (.ref 0), none, none]) C dL_law_7 (by exact Nat.le_of_ble_eq_true rfl) rfl ?_
    refine n_new (w := hkc 0) (ci := 6) (Cn := RX6) (T := TX6) (N := 41) (ty := tyX6) (fs := [.null, .int 0, .null, .null, .null, .int 0, .null, .null, .null, .null, .null, .int 0, .null, .null, .int 0, .int 0, .int 0, .int 0, .int 0, .int 0, .null, .null, .null, .int 0, .null, .int 0, .int 0, .int 0, .int 0, .long 0, .int 0, .int 0, .null, .null, .null, .null, .null, .null, .int 0, .int 0, .null]) C (by exact Nat.le_of_ble_eq_true rfl) rfl inX6 tyX6_ok cl_L_10 is_X6 in_X6 (by decide) (by simp) (by exact Nat.le_of_ble_eq_true rfl) (by exact Nat.le_of_ble_eq_true rfl) dL_law_8 (fun z => ?_)
    refine n_dup C dL_law_11 rfl ?_
    intro a1 a2 a3 hs
    refine n_callL (x := (hkc 0).length) (M2 := M_X6_init) (w := hkc 0 ++ [blX6]) (w' := hkc 0 ++ moc (hkc 0).length) (st := [.ref (hkc 0).length]) (cells := 75) (slots := 1316) C V_X6_init mlL_12 ⟨Nat.le_of_ble_eq_true rfl, Nat.le_of_ble_eq_true rfl⟩ (c_X6_init (hkc 0) (by exact Nat.le_of_ble_eq_true rfl) hs.2.2) ⟨(by exact Nat.le_of_ble_eq_true rfl), (by exact Nat.le_of_ble_eq_true rfl)⟩ (by exact Nat.le_of_ble_eq_true rfl) (by exact Nat.le_of_ble_eq_true rfl) (by exact Nat.le_of_ble_eq_true rfl) dL_law_12 (fun z => ?_) a1 a2 a3 hs
    refine n_astore_n (L2 := [some (.ref 4000), some (.ref 0), some (.ref mb), none]) C dL_law_15 (by exact Nat.le_of_ble_eq_true rfl) rfl ?_
    refine n_iconst 0 C dL_law_16 rfl ?_
    refine n_istore_n (L2 := [some (.ref 4000), some (.ref 0), some (.ref mb), some (.int 0)]) C dL_law_17 (by exact Nat.le_of_ble_eq_true rfl) rfl ?_
    intro a1 a2 a3 hs ls H locs hw hl
    obtain ⟨s', hs'⟩ := hpure L xs hL
    have hR := e_L_law_18 (G := Gz G z) (N := L) (xs := xs) hGL.1 hGL.2 400 0 (s00, t00) 1 s' hs'
    refine hR p l e s m #[Value.ref b] below meth c _ _ Z ⟨C.1, C.2.1, hGEx z a3⟩ ⟨(by exact Nat.le_of_ble_eq_true rfl), (by exact Nat.le_of_ble_eq_true rfl)⟩ ?_ ls H locs ?_ hl
    · intro pc ls H locs v w hq hret hw
      obtain ⟨rfl, rfl⟩ := hq
      refine va_forget (fun q hq => ?_) ?_
      · have := hw.2.2.2.2 q hq
        have h2 : cA (Gz G z) = fun q : Nat => s.heap.size ≤ q := hGA
        rw [h2] at this
        exact this
      · exact W.widen (Nat.le_of_ble_eq_true rfl) (Nat.le_of_ble_eq_true rfl) (hend pc ls H hret.1)
    · have e0 : hkc 0 ++ moc (hkc 0).length = wfL (s00, t00) := world_00
      rw [← e0]
      exact hw
  refine key (Nat.zero_le _) (Nat.zero_le _) (fun _ _ => rfl) ⟨fun i v h => ?_, fun v hv => (nomatch hv), fun e h => (nomatch h)⟩ ls s.heap [] ⟨fun k q h => by simp [rW] at h, ⟨fun i j p q h => by simp [rW] at h, fun k q h => by simp [rW] at h⟩, va_S.rf⟩ ⟨hl.1, hl.2.1, fun i v h => ?_⟩
  · match i, h with
    | 0, h => cases h; exact Or.inr (by decide)
    | 1, h => cases h
    | 2, h => cases h
    | 3, h => cases h
    | i + 4, h => cases h
  · match i, h with
    | 0, h =>
      cases h
      show ls[0]? = some (.val (.ref (cz G 4000)))
      rw [hcb]
      exact hl.2.2 (0, .ref b) List.mem_cons_self
    | 1, h => cases h
    | 2, h => cases h
    | 3, h => cases h
    | i + 4, h => cases h
