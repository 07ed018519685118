def blX0 : va_E := .inr (0, [.null, .int 0, .int 0, .int 0])
def blX1 : va_E := .inr (1, [.null, .null, .null, .null, .null, .null, .null, .null, .null, .null, .int 0, .int 0, .int 0, .int 0, .int 0])
def blX2 : va_E := .inr (2, [.null, .null, .null, .null, .null, .int 0])
def blX3 : va_E := .inr (3, [.null, .int 0, .int 0])
def blX4 : va_E := .inr (4, [.null, .int 0, .int 0, .int 0, .int 0, .int 0])
def blX5 : va_E := .inr (5, [.null, .null, .null, .null, .null, .null, .null, .null, .int 0])
def blX6 : va_E := .inr (6, [.null, .int 0, .null, .null, .null, .int 0, .null, .null, .null, .null, .null, .int 0, .null, .null, .int 0, .int 0, .int 0, .int 0, .int 0, .int 0, .null, .null, .null, .int 0, .null, .int 0, .int 0, .int 0, .int 0, .long 0, .int 0, .int 0, .null, .null, .null, .null, .null, .null, .int 0, .int 0, .null])
def rc (n : Nat) : Wd := [.inr (1, [.ref (n + 1), .ref (n + 2), .ref (n + 3), .ref (n + 4), .ref (n + 5), .ref (n + 6), .ref (n + 7), .ref (n + 8), .ref (n + 9), .ref (n + 10), .int 0, .int 0, .int 0, .int 0, .int 0]), .inl (0, 6, .inl (fun _ => 0)), .inl (0, 14, .inl (fun _ => 0)), .inl (0, 14, .inl (fun _ => 0)), .inl (0, 14, .inl (fun _ => 0)), .inl (0, 14, .inl (fun _ => 0)), .inl (0, 12, .inl (fun _ => 0)), .inl (0, 12, .inl (fun _ => 0)), .inl (0, 12, .inl (fun _ => 0)), .inl (0, 12, .inl (fun _ => 0)), .inl (0, 6, .inl (fun _ => 0))]
def shc (n : Nat) : Wd := [.inr (3, [.ref (n + 1), .int 0, .int 0]), .inl (1, 40, .inr (.inl (fun _ => 0)))]
def tpc (n : Nat) : Wd := [.inr (4, [.ref (n + 1), .int 0, .int 0, .int 0, .int 0, .int 0]), .inl (0, 120, .inl (fun _ => 0))]
def plc (n : Nat) : Wd := [.inr (0, [.ref (n + 1), .int 0, .int 0, .int 0])] ++ rc (n + 1)
def roc (n : Nat) : Wd := [.inr (2, [.ref (n + 1), .ref (n + 12), .ref (n + 13), .ref (n + 14), .ref (n + 15), .int 0])] ++ (rc (n + 1) ++ [.inl (0, 14, .inl (fun _ => 0)), .inl (0, 14, .inl (fun _ => 0)), .inl (2, 256, .inl (fun _ => 0)), .inl (0, 8, .inl (fun _ => 0))])
def moc (n : Nat) : Wd := [.inr (6, [.ref (n + 1), .int 0, .ref (n + 2), .ref (n + 3), .ref (n + 4), .int 0, .ref (n + 5), .ref (n + 6), .ref (n + 7), .ref (n + 8), .ref (n + 9), .int 0, .ref (n + 10), .ref (n + 11), .int 0, .int 0, .int 0, .int 0, .int 0, .int 0, .ref (n + 12), .ref (n + 13), .ref (n + 14), .int 0, .ref (n + 15), .int 0, .int 0, .int 0, .int 0, .long 0, .int 0, .int 0, .ref (n + 16), .ref (n + 17), .ref (n + 18), .ref (n + 19), .ref (n + 20), .ref (n + 21), .int 0, .int 0, .ref (n + 22)]), .inl (0, 6, .inl (fun _ => 0)), .inl (0, 14, .inl (fun _ => 0)), .inl (0, 14, .inl (fun _ => 0)), .inl (0, 14, .inl (fun _ => 0)), .inl (0, 12, .inl (fun _ => 0)), .inl (0, 12, .inl (fun _ => 0)), .inl (0, 12, .inl (fun _ => 0)), .inl (0, 12, .inl (fun _ => 0)), .inl (0, 82, .inl (fun _ => 0)), .inl (0, 7, .inl (fun _ => 0)), .inl (0, 36, .inl (fun _ => 0)), .inl (0, 8, .inl (fun _ => 0)), .inl (0, 8, .inl (fun _ => 0)), .inl (2, 256, .inl (fun _ => 0)), .inl (0, 120, .inl (fun _ => 0)), .inl (0, 4, .inl (fun _ => 0)), .inl (0, 4, .inl (fun _ => 0)), .inl (1, 160, .inr (.inl (fun _ => 0))), .inl (1, 40, .inr (.inl (fun _ => 0))), .inl (0, 150, .inl (fun _ => 0)), .inl (0, 150, .inl (fun _ => 0)), .inl (0, 2, .inl (fun _ => 0))]
def M_X1_init : MI := (cX1_init, 1, RX1, none, { frames := 1, cells := 10, slots := 116, locals := 12 }, yX1_init)
theorem V_X1_init : MVI M_X1_init := ⟨lw_goodIn 96 (by decide +kernel) rfl, lw_goodIn 71 (by decide +kernel) rfl, rfl, rfl, rfl, by decide +kernel, by decide +kernel, by decide +kernel, lw_goodIn 95 (by decide +kernel) rfl⟩
theorem oi_X1 : Cond.methodLink RX1 3 Lib.objectInit ∈ lw_good := lw_goodIn 97 (by decide +kernel) rfl
theorem is_X1 : Cond.instantiable RX1 15 ∈ lw_good := lw_goodIn 93 (by decide +kernel) rfl
theorem in_X1 : Cond.initialized RX1 ∈ lw_good := lw_goodIn 71 (by decide +kernel) rfl
def M_X3_init : MI := (cX3_init, 1, RX3, none, { frames := 1, cells := 1, slots := 40, locals := 12 }, yX3_init)
theorem V_X3_init : MVI M_X3_init := ⟨lw_goodIn 252 (by decide +kernel) rfl, lw_goodIn 75 (by decide +kernel) rfl, rfl, rfl, rfl, by decide +kernel, by decide +kernel, by decide +kernel, lw_goodIn 251 (by decide +kernel) rfl⟩
theorem oi_X3 : Cond.methodLink RX3 3 Lib.objectInit ∈ lw_good := lw_goodIn 253 (by decide +kernel) rfl
theorem is_X3 : Cond.instantiable RX3 3 ∈ lw_good := lw_goodIn 249 (by decide +kernel) rfl
theorem in_X3 : Cond.initialized RX3 ∈ lw_good := lw_goodIn 75 (by decide +kernel) rfl
def M_X4_init : MI := (cX4_init, 1, RX4, none, { frames := 1, cells := 1, slots := 120, locals := 12 }, yX4_init)
theorem V_X4_init : MVI M_X4_init := ⟨lw_goodIn 224 (by decide +kernel) rfl, lw_goodIn 74 (by decide +kernel) rfl, rfl, rfl, rfl, by decide +kernel, by decide +kernel, by decide +kernel, lw_goodIn 223 (by decide +kernel) rfl⟩
theorem oi_X4 : Cond.methodLink RX4 3 Lib.objectInit ∈ lw_good := lw_goodIn 225 (by decide +kernel) rfl
theorem is_X4 : Cond.instantiable RX4 6 ∈ lw_good := lw_goodIn 221 (by decide +kernel) rfl
theorem in_X4 : Cond.initialized RX4 ∈ lw_good := lw_goodIn 74 (by decide +kernel) rfl
def M_X0_init : MI := (cX0_init, 1, RX0, none, { frames := 2, cells := 11, slots := 131, locals := 32 }, yX0_init)
theorem V_X0_init : MVI M_X0_init := ⟨lw_goodIn 171 (by decide +kernel) rfl, lw_goodIn 72 (by decide +kernel) rfl, rfl, rfl, rfl, by decide +kernel, by decide +kernel, by decide +kernel, lw_goodIn 170 (by decide +kernel) rfl⟩
theorem oi_X0 : Cond.methodLink RX0 3 Lib.objectInit ∈ lw_good := lw_goodIn 172 (by decide +kernel) rfl
theorem is_X0 : Cond.instantiable RX0 4 ∈ lw_good := lw_goodIn 168 (by decide +kernel) rfl
theorem in_X0 : Cond.initialized RX0 ∈ lw_good := lw_goodIn 72 (by decide +kernel) rfl
def M_X2_init : MI := (cX2_init, 1, RX2, none, { frames := 2, cells := 15, slots := 423, locals := 32 }, yX2_init)
theorem V_X2_init : MVI M_X2_init := ⟨lw_goodIn 194 (by decide +kernel) rfl, lw_goodIn 73 (by decide +kernel) rfl, rfl, rfl, rfl, by decide +kernel, by decide +kernel, by decide +kernel, lw_goodIn 193 (by decide +kernel) rfl⟩
theorem oi_X2 : Cond.methodLink RX2 3 Lib.objectInit ∈ lw_good := lw_goodIn 195 (by decide +kernel) rfl
theorem is_X2 : Cond.instantiable RX2 6 ∈ lw_good := lw_goodIn 191 (by decide +kernel) rfl
theorem in_X2 : Cond.initialized RX2 ∈ lw_good := lw_goodIn 73 (by decide +kernel) rfl
def M_X6_init : MI := (cX6_init, 1, RX6, none, { frames := 1, cells := 22, slots := 1123, locals := 12 }, yX6_init)
theorem V_X6_init : MVI M_X6_init := ⟨lw_goodIn 842 (by decide +kernel) rfl, lw_goodIn 76 (by decide +kernel) rfl, rfl, rfl, rfl, by decide +kernel, by decide +kernel, by decide +kernel, lw_goodIn 841 (by decide +kernel) rfl⟩
theorem oi_X6 : Cond.methodLink RX6 1 Lib.objectInit ∈ lw_good := lw_goodIn 843 (by decide +kernel) rfl
theorem is_X6 : Cond.instantiable RX6 41 ∈ lw_good := lw_goodIn 839 (by decide +kernel) rfl
theorem in_X6 : Cond.initialized RX6 ∈ lw_good := lw_goodIn 76 (by decide +kernel) rfl
def M_X5_init : MI := (cX5_init, 2, RX5, none, { frames := 3, cells := 73, slots := 1266, locals := 52 }, yX5_init)
theorem V_X5_init : MVI M_X5_init := ⟨lw_goodIn 88 (by decide +kernel) rfl, lw_goodIn 70 (by decide +kernel) rfl, rfl, rfl, rfl, by decide +kernel, by decide +kernel, by decide +kernel, lw_goodIn 87 (by decide +kernel) rfl⟩
theorem oi_X5 : Cond.methodLink RX5 1 Lib.objectInit ∈ lw_good := lw_goodIn 89 (by decide +kernel) rfl
theorem is_X5 : Cond.instantiable RX5 9 ∈ lw_good := lw_goodIn 85 (by decide +kernel) rfl
theorem in_X5 : Cond.initialized RX5 ∈ lw_good := lw_goodIn 70 (by decide +kernel) rfl
theorem cl_L_7 : Cond.classLink RL 7 RX5 ∈ lw_good := lw_goodIn 84 (by decide +kernel) rfl
theorem cl_X5_7 : Cond.classLink RX5 7 RX1 ∈ lw_good := lw_goodIn 92 (by decide +kernel) rfl
theorem cl_X5_22 : Cond.classLink RX5 22 RX0 ∈ lw_good := lw_goodIn 167 (by decide +kernel) rfl
theorem cl_X0_9 : Cond.classLink RX0 9 RX1 ∈ lw_good := lw_goodIn 173 (by decide +kernel) rfl
theorem cl_X5_29 : Cond.classLink RX5 29 RX2 ∈ lw_good := lw_goodIn 190 (by decide +kernel) rfl
theorem cl_X2_9 : Cond.classLink RX2 9 RX1 ∈ lw_good := lw_goodIn 196 (by decide +kernel) rfl
theorem cl_X5_36 : Cond.classLink RX5 36 RX4 ∈ lw_good := lw_goodIn 220 (by decide +kernel) rfl
theorem cl_X5_43 : Cond.classLink RX5 43 RX3 ∈ lw_good := lw_goodIn 247 (by decide +kernel) rfl
theorem cl_L_10 : Cond.classLink RL 10 RX6 ∈ lw_good := lw_goodIn 838 (by decide +kernel) rfl
theorem mlL_9 : Cond.methodLink RL 9 yX5_init ∈ lw_good := lw_goodIn 86 (by decide +kernel) rfl
theorem mlL_12 : Cond.methodLink RL 12 yX6_init ∈ lw_good := lw_goodIn 840 (by decide +kernel) rfl
theorem fpf_X0_0 : FPF RX0 0 0 (.object "HostageKings$Realm") := ⟨RX0, TX0, 4, tyX0, rfl, tyX0_ok, nmX0, rfl, rfl, by decide +kernel⟩
theorem fpf_X1_0 : FPF RX1 1 0 (.array .int) := ⟨RX1, TX1, 15, tyX1, rfl, tyX1_ok, nmX1, rfl, rfl, by decide +kernel⟩
theorem fpf_X1_1 : FPF RX1 1 1 (.array .int) := ⟨RX1, TX1, 15, tyX1, rfl, tyX1_ok, nmX1, rfl, rfl, by decide +kernel⟩
theorem fpf_X1_2 : FPF RX1 1 2 (.array .int) := ⟨RX1, TX1, 15, tyX1, rfl, tyX1_ok, nmX1, rfl, rfl, by decide +kernel⟩
theorem fpf_X1_3 : FPF RX1 1 3 (.array .int) := ⟨RX1, TX1, 15, tyX1, rfl, tyX1_ok, nmX1, rfl, rfl, by decide +kernel⟩
theorem fpf_X1_4 : FPF RX1 1 4 (.array .int) := ⟨RX1, TX1, 15, tyX1, rfl, tyX1_ok, nmX1, rfl, rfl, by decide +kernel⟩
theorem fpf_X1_5 : FPF RX1 1 5 (.array .int) := ⟨RX1, TX1, 15, tyX1, rfl, tyX1_ok, nmX1, rfl, rfl, by decide +kernel⟩
theorem fpf_X1_6 : FPF RX1 1 6 (.array .int) := ⟨RX1, TX1, 15, tyX1, rfl, tyX1_ok, nmX1, rfl, rfl, by decide +kernel⟩
theorem fpf_X1_7 : FPF RX1 1 7 (.array .int) := ⟨RX1, TX1, 15, tyX1, rfl, tyX1_ok, nmX1, rfl, rfl, by decide +kernel⟩
theorem fpf_X1_8 : FPF RX1 1 8 (.array .int) := ⟨RX1, TX1, 15, tyX1, rfl, tyX1_ok, nmX1, rfl, rfl, by decide +kernel⟩
theorem fpf_X1_9 : FPF RX1 1 9 (.array .int) := ⟨RX1, TX1, 15, tyX1, rfl, tyX1_ok, nmX1, rfl, rfl, by decide +kernel⟩
theorem fpf_X2_0 : FPF RX2 2 0 (.object "HostageKings$Realm") := ⟨RX2, TX2, 6, tyX2, rfl, tyX2_ok, nmX2, rfl, rfl, by decide +kernel⟩
theorem fpf_X2_1 : FPF RX2 2 1 (.array .int) := ⟨RX2, TX2, 6, tyX2, rfl, tyX2_ok, nmX2, rfl, rfl, by decide +kernel⟩
theorem fpf_X2_2 : FPF RX2 2 2 (.array .int) := ⟨RX2, TX2, 6, tyX2, rfl, tyX2_ok, nmX2, rfl, rfl, by decide +kernel⟩
theorem fpf_X2_3 : FPF RX2 2 3 (.array .boolean) := ⟨RX2, TX2, 6, tyX2, rfl, tyX2_ok, nmX2, rfl, rfl, by decide +kernel⟩
theorem fpf_X2_4 : FPF RX2 2 4 (.array .int) := ⟨RX2, TX2, 6, tyX2, rfl, tyX2_ok, nmX2, rfl, rfl, by decide +kernel⟩
theorem fpf_X3_0 : FPF RX3 3 0 (.array .long) := ⟨RX3, TX3, 3, tyX3, rfl, tyX3_ok, nmX3, rfl, rfl, by decide +kernel⟩
theorem fpf_X4_0 : FPF RX4 4 0 (.array .int) := ⟨RX4, TX4, 6, tyX4, rfl, tyX4_ok, nmX4, rfl, rfl, by decide +kernel⟩
theorem fpf_X5_0 : FPF RX5 5 0 (.object "HostageKings$Realm") := ⟨RX5, TX5, 9, tyX5, rfl, tyX5_ok, nmX5, rfl, rfl, by decide +kernel⟩
theorem fpf_X5_1 : FPF RX5 5 1 (.object "HostageKings$Realm") := ⟨RX5, TX5, 9, tyX5, rfl, tyX5_ok, nmX5, rfl, rfl, by decide +kernel⟩
theorem fpf_X5_2 : FPF RX5 5 2 (.object "HostageKings$Realm") := ⟨RX5, TX5, 9, tyX5, rfl, tyX5_ok, nmX5, rfl, rfl, by decide +kernel⟩
theorem fpf_X5_3 : FPF RX5 5 3 (.object "HostageKings$Planner") := ⟨RX5, TX5, 9, tyX5, rfl, tyX5_ok, nmX5, rfl, rfl, by decide +kernel⟩
theorem fpf_X5_4 : FPF RX5 5 4 (.object "HostageKings$Route") := ⟨RX5, TX5, 9, tyX5, rfl, tyX5_ok, nmX5, rfl, rfl, by decide +kernel⟩
theorem fpf_X5_5 : FPF RX5 5 5 (.object "HostageKings$Tape") := ⟨RX5, TX5, 9, tyX5, rfl, tyX5_ok, nmX5, rfl, rfl, by decide +kernel⟩
theorem fpf_X5_6 : FPF RX5 5 6 (.array (.object "HostageKings$Sheet")) := ⟨RX5, TX5, 9, tyX5, rfl, tyX5_ok, nmX5, rfl, rfl, by decide +kernel⟩
theorem fpf_X5_7 : FPF RX5 5 7 (.array .int) := ⟨RX5, TX5, 9, tyX5, rfl, tyX5_ok, nmX5, rfl, rfl, by decide +kernel⟩
theorem fpf_X6_0 : FPF RX6 6 0 (.array .int) := ⟨RX6, TX6, 41, tyX6, rfl, tyX6_ok, nmX6, rfl, rfl, by decide +kernel⟩
theorem fpf_X6_2 : FPF RX6 6 2 (.array .int) := ⟨RX6, TX6, 41, tyX6, rfl, tyX6_ok, nmX6, rfl, rfl, by decide +kernel⟩
theorem fpf_X6_3 : FPF RX6 6 3 (.array .int) := ⟨RX6, TX6, 41, tyX6, rfl, tyX6_ok, nmX6, rfl, rfl, by decide +kernel⟩
theorem fpf_X6_4 : FPF RX6 6 4 (.array .int) := ⟨RX6, TX6, 41, tyX6, rfl, tyX6_ok, nmX6, rfl, rfl, by decide +kernel⟩
theorem fpf_X6_6 : FPF RX6 6 6 (.array .int) := ⟨RX6, TX6, 41, tyX6, rfl, tyX6_ok, nmX6, rfl, rfl, by decide +kernel⟩
theorem fpf_X6_7 : FPF RX6 6 7 (.array .int) := ⟨RX6, TX6, 41, tyX6, rfl, tyX6_ok, nmX6, rfl, rfl, by decide +kernel⟩
theorem fpf_X6_8 : FPF RX6 6 8 (.array .int) := ⟨RX6, TX6, 41, tyX6, rfl, tyX6_ok, nmX6, rfl, rfl, by decide +kernel⟩
theorem fpf_X6_9 : FPF RX6 6 9 (.array .int) := ⟨RX6, TX6, 41, tyX6, rfl, tyX6_ok, nmX6, rfl, rfl, by decide +kernel⟩
theorem fpf_X6_10 : FPF RX6 6 10 (.array .int) := ⟨RX6, TX6, 41, tyX6, rfl, tyX6_ok, nmX6, rfl, rfl, by decide +kernel⟩
theorem fpf_X6_12 : FPF RX6 6 12 (.array .int) := ⟨RX6, TX6, 41, tyX6, rfl, tyX6_ok, nmX6, rfl, rfl, by decide +kernel⟩
theorem fpf_X6_13 : FPF RX6 6 13 (.array .int) := ⟨RX6, TX6, 41, tyX6, rfl, tyX6_ok, nmX6, rfl, rfl, by decide +kernel⟩
theorem fpf_X6_20 : FPF RX6 6 20 (.array .int) := ⟨RX6, TX6, 41, tyX6, rfl, tyX6_ok, nmX6, rfl, rfl, by decide +kernel⟩
theorem fpf_X6_21 : FPF RX6 6 21 (.array .int) := ⟨RX6, TX6, 41, tyX6, rfl, tyX6_ok, nmX6, rfl, rfl, by decide +kernel⟩
theorem fpf_X6_22 : FPF RX6 6 22 (.array .boolean) := ⟨RX6, TX6, 41, tyX6, rfl, tyX6_ok, nmX6, rfl, rfl, by decide +kernel⟩
theorem fpf_X6_24 : FPF RX6 6 24 (.array .int) := ⟨RX6, TX6, 41, tyX6, rfl, tyX6_ok, nmX6, rfl, rfl, by decide +kernel⟩
theorem fpf_X6_32 : FPF RX6 6 32 (.array .int) := ⟨RX6, TX6, 41, tyX6, rfl, tyX6_ok, nmX6, rfl, rfl, by decide +kernel⟩
theorem fpf_X6_33 : FPF RX6 6 33 (.array .int) := ⟨RX6, TX6, 41, tyX6, rfl, tyX6_ok, nmX6, rfl, rfl, by decide +kernel⟩
theorem fpf_X6_34 : FPF RX6 6 34 (.array .long) := ⟨RX6, TX6, 41, tyX6, rfl, tyX6_ok, nmX6, rfl, rfl, by decide +kernel⟩
theorem fpf_X6_35 : FPF RX6 6 35 (.array .long) := ⟨RX6, TX6, 41, tyX6, rfl, tyX6_ok, nmX6, rfl, rfl, by decide +kernel⟩
theorem fpf_X6_36 : FPF RX6 6 36 (.array .int) := ⟨RX6, TX6, 41, tyX6, rfl, tyX6_ok, nmX6, rfl, rfl, by decide +kernel⟩
theorem fpf_X6_37 : FPF RX6 6 37 (.array .int) := ⟨RX6, TX6, 41, tyX6, rfl, tyX6_ok, nmX6, rfl, rfl, by decide +kernel⟩
theorem fpf_X6_40 : FPF RX6 6 40 (.array .int) := ⟨RX6, TX6, 41, tyX6, rfl, tyX6_ok, nmX6, rfl, rfl, by decide +kernel⟩
section NRows2
variable {G : Cf} {M : MI} {p : Program} {l : Launch} {e : Env} {s : State} {m : MethodId} {args : Array Value} {below : List Frame} {meth : Method} {c : Code} {Qf : State → Prop} {n0 : Nat} {z0 z : Nat → Nat} {pc : Nat} {L : List (Option Value)} {st : List Value} {w w0 w1 : Wd} {cells slots n : Nat}
theorem n_conv {w' : Wd} {st' : List Value} (hw : w = w') (hst : st = st') (k : AW G M p l e s m args below meth c Qf n0 z0 z pc L st' w' cells slots) : AW G M p l e s m args below meth c Qf n0 z0 z pc L st w cells slots := by
  subst hw hst
  exact k
theorem n_Fin {w' : Wd} (hw : w = w') (h : FinN G M p l e s m args below meth c Qf n0 z0 w') : FinN G M p l e s m args below meth c Qf n0 z0 w := by
  subst hw
  exact h
theorem len_app {w0 w1 : Wd} {j : Nat} (hj : w1.length = j) : (w0 ++ w1).length = w0.length + j := by
  rw [List.length_append, hj]
theorem n_new' {w2 : Wd} {idx ci N j : Nat} {Cn : String} {T : u_T} {ty : Nat → FieldType} {fs : List Value} (C : CxN G M p s m args c meth) (hlen : w0.length ≤ 600) (hj : w1.length = j) (hj2 : j ≤ 200) (hc : vwCl[ci]? = some (Cn, T, N)) (hin : ∀ w ∈ u_ws Cn T N, w ∈ lw_good) (hty : ∀ k, k < N → parseFieldDescriptor (T k).2.2.1 = some (ty k)) (h1 : Cond.classLink (mO M) idx Cn ∈ lw_good) (h2 : Cond.instantiable Cn N ∈ lw_good) (h3 : Cond.initialized Cn ∈ lw_good) (hfs : ∀ j, j < N → defaultValue (ty j) = vp_V fs j) (hnr : ∀ v ∈ fs, v = .null ∨ v = .int 0 ∨ v = .long 0) (hc1 : cells + 1 ≤ (mR M).cells) (hc2 : slots + N ≤ (mR M).slots) (hd : decode (mC M) pc = .ok (.new idx, 3)) (hw2 : w1 ++ [.inr (ci, fs)] = w2)
    (k : ∀ z, AW G M p l e s m args below meth c Qf n0 z0 z (pc + 3) L (.ref (w0.length + j) :: st) (w0 ++ w2) (cells + 1) (slots + N)) : AW G M p l e s m args below meth c Qf n0 z0 z pc L st (w0 ++ w1) cells slots := by
  subst hw2
  refine n_new C (by rw [len_app hj]; omega) hc hin hty h1 h2 h3 hfs hnr hc1 hc2 hd (fun z => ?_)
  rw [len_app hj, List.append_assoc]
  exact k z
theorem n_newi' {w2 : Wd} {x : Int32} {j : Nat} (N : Nat) (C : CxN G M p s m args c meth) (hlen : w0.length ≤ 600) (hj : w1.length = j) (hj2 : j ≤ 200) (hx : ¬ x < 0) (hN : x.toNatClampNeg = N) (hb : N * componentBytes .int ≤ 536870912) (hc1 : cells + 1 ≤ (mR M).cells) (hc2 : slots + N ≤ (mR M).slots) (hd : decode (mC M) pc = .ok (.newarray .int, 2)) (hw2 : w1 ++ [.inl (0, N, .inl (fun _ => 0))] = w2)
    (k : ∀ z, AW G M p l e s m args below meth c Qf n0 z0 z (pc + 2) L (.ref (w0.length + j) :: st) (w0 ++ w2) (cells + 1) (slots + N)) : AW G M p l e s m args below meth c Qf n0 z0 z pc L (.int x :: st) (w0 ++ w1) cells slots := by
  subst hw2
  refine n_newi N C (by rw [len_app hj]; omega) hx hN hb hc1 hc2 hd (fun z => ?_)
  rw [len_app hj, List.append_assoc]
  exact k z
theorem n_newl' {w2 : Wd} {x : Int32} {j : Nat} (N : Nat) (C : CxN G M p s m args c meth) (hlen : w0.length ≤ 600) (hj : w1.length = j) (hj2 : j ≤ 200) (hx : ¬ x < 0) (hN : x.toNatClampNeg = N) (hb : N * componentBytes .long ≤ 536870912) (hc1 : cells + 1 ≤ (mR M).cells) (hc2 : slots + N ≤ (mR M).slots) (hd : decode (mC M) pc = .ok (.newarray .long, 2)) (hw2 : w1 ++ [.inl (1, N, .inr (.inl (fun _ => 0)))] = w2)
    (k : ∀ z, AW G M p l e s m args below meth c Qf n0 z0 z (pc + 2) L (.ref (w0.length + j) :: st) (w0 ++ w2) (cells + 1) (slots + N)) : AW G M p l e s m args below meth c Qf n0 z0 z pc L (.int x :: st) (w0 ++ w1) cells slots := by
  subst hw2
  refine n_newl N C (by rw [len_app hj]; omega) hx hN hb hc1 hc2 hd (fun z => ?_)
  rw [len_app hj, List.append_assoc]
  exact k z
theorem n_newz' {w2 : Wd} {x : Int32} {j : Nat} (N : Nat) (C : CxN G M p s m args c meth) (hlen : w0.length ≤ 600) (hj : w1.length = j) (hj2 : j ≤ 200) (hx : ¬ x < 0) (hN : x.toNatClampNeg = N) (hb : N * componentBytes .boolean ≤ 536870912) (hc1 : cells + 1 ≤ (mR M).cells) (hc2 : slots + N ≤ (mR M).slots) (hd : decode (mC M) pc = .ok (.newarray .boolean, 2)) (hw2 : w1 ++ [.inl (2, N, .inl (fun _ => 0))] = w2)
    (k : ∀ z, AW G M p l e s m args below meth c Qf n0 z0 z (pc + 2) L (.ref (w0.length + j) :: st) (w0 ++ w2) (cells + 1) (slots + N)) : AW G M p l e s m args below meth c Qf n0 z0 z pc L (.int x :: st) (w0 ++ w1) cells slots := by
  subst hw2
  refine n_newz N C (by rw [len_app hj]; omega) hx hN hb hc1 hc2 hd (fun z => ?_)
  rw [len_app hj, List.append_assoc]
  exact k z
theorem n_newq' {w2 : Wd} {x : Int32} {idx j : Nat} (N : Nat) (C : CxN G M p s m args c meth) (hlen : w0.length ≤ 600) (hj : w1.length = j) (hj2 : j ≤ 200) (h1 : Cond.classLink (mO M) idx RX3 ∈ lw_good) (hx : ¬ x < 0) (hN : x.toNatClampNeg = N) (hb : N * 4 ≤ 536870912) (hc1 : cells + 1 ≤ (mR M).cells) (hc2 : slots + N ≤ (mR M).slots) (hd : decode (mC M) pc = .ok (.anewarray idx, 3)) (hw2 : w1 ++ [.inl (3, N, .inr (.inr (.inr (.inr (fun _ => none)))))] = w2)
    (k : ∀ z, AW G M p l e s m args below meth c Qf n0 z0 z (pc + 3) L (.ref (w0.length + j) :: st) (w0 ++ w2) (cells + 1) (slots + N)) : AW G M p l e s m args below meth c Qf n0 z0 z pc L (.int x :: st) (w0 ++ w1) cells slots := by
  subst hw2
  refine n_newq N C (by rw [len_app hj]; omega) h1 hx hN hb hc1 hc2 hd (fun z => ?_)
  rw [len_app hj, List.append_assoc]
  exact k z
theorem n_putF' {idx ci k0 a b : Nat} {ty : FieldType} {fs : List Value} {w2 : Wd} (C : CxN G M p s m args c meth) (hi : (mY M).name = "<init>") (F : FL (mO M) idx ci k0) (F2 : FPF (mO M) ci k0 ty) (he : w1[a]? = some (.inr (ci, fs))) (hl2 : k0 < fs.length) (hn : ∀ q, narrow ty (.ref q) = .ref q) (hfit : ∀ q, fits ty (.ref q) = true) (hw2 : w1.set a (.inr (ci, fs.set k0 (.ref b))) = w2) (hd : decode (mC M) pc = .ok (.putfield idx, 3))
    (kk : AW G M p l e s m args below meth c Qf n0 z0 z (pc + 3) L st (w0 ++ w2) cells slots) : AW G M p l e s m args below meth c Qf n0 z0 z pc L (.ref b :: .ref (w0.length + a) :: st) (w0 ++ w1) cells slots :=
  n_putF C hi F F2 (at_app rfl he) hl2 hn hfit ((set_app rfl).trans (congrArg (w0 ++ ·) hw2)) hd kk
theorem n_callN' {w2 : Wd} {M2 : MI} {idx j jj : Nat} {bl : va_E} {r : Nat → Wd} (C : CxN G M p s m args c meth) (hM : MVI M2) (hk : (mO M, idx, mY M2) ∈ NLs) (hr : rOK M2 M) (hD : ∀ z, (∀ e ∈ (w0 ++ w1) ++ [bl], okE ((w0 ++ w1) ++ [bl]).length e) → DoesN (Gz G z) M2 [.ref (w0 ++ w1).length] ((w0 ++ w1) ++ [bl]) ((w0 ++ w1) ++ r (w0 ++ w1).length)) (hlen : w0.length ≤ 600) (hj : w1.length = j) (hjj : ∀ n, (r n).length = jj) (hj2 : j + jj ≤ 200) (hj3 : 1 ≤ jj) (hcat : (st.map fun v => v.category).sum ≤ 8) (hc1 : cells + (mR M2).cells ≤ (mR M).cells) (hc2 : slots + (mR M2).slots ≤ (mR M).slots) (hd : decode (mC M) pc = .ok (.invokespecial idx, 3)) (hw2 : w1 ++ r (w0.length + j) = w2)
    (kk : ∀ z, AW G M p l e s m args below meth c Qf n0 z0 z (pc + 3) L st (w0 ++ w2) (cells + (mR M2).cells) (slots + (mR M2).slots)) : AW G M p l e s m args below meth c Qf n0 z0 z pc L (.ref (w0.length + j) :: st) (w0 ++ (w1 ++ [bl])) cells slots := by
  subst hw2
  refine n_conv (w' := (w0 ++ w1) ++ [bl]) (st' := .ref (w0 ++ w1).length :: st) (List.append_assoc _ _ _).symm (by rw [len_app hj]) ?_
  intro a1 a2 a3 hs
  refine n_callN C hM hk hr (hD z hs.2.2) ⟨by simp [hjj]; omega, by simp [hjj]; omega⟩ hcat hc1 hc2 hd (fun z => ?_) a1 a2 a3 hs
  rw [len_app hj, List.append_assoc]
  exact kk z
theorem lput_ok {L : List (Option Value)} {i q : Nat} {x : Int32} (h : ∀ i v, lget L i = some v → okV q v) : ∀ j v, lget (lst1 L i (.int x)) j = some v → okV q v := by
  intro j v hj
  rcases lget_lput _ _ _ _ _ hj with ⟨-, h1⟩ | ⟨-, h1⟩
  · cases h1; trivial
  · exact h _ _ (lget_lkill h1).1
theorem n_istore_n {k0 : Fin 4} {x : Int32} {L2 : List (Option Value)} (C : CxN G M p s m args c meth) (hd : decode (mC M) pc = .ok (.istore_n k0, 1)) (hn : (k0 : Nat) < mN M) (hL : lst1 L (k0 : Nat) (.int x) = L2) (k : AW G M p l e s m args below meth c Qf n0 z0 z (pc + 1) L2 st w cells slots) : AW G M p l e s m args below meth c Qf n0 z0 z pc L (.int x :: st) w cells slots := by
  intro a1 a2 a3 hs ls H locs hw hl
  subst hL
  exact lv_istore_n C.1.1 C.1.2.1 hd rfl hl.has hn rfl (fun ls2 hl2 => k a1 a2 a3 ⟨lput_ok hs.1, fun v hv => hs.2.1 v (List.mem_cons_of_mem _ hv), hs.2.2⟩ ls2 H locs hw (Lh.st1 hl2))
theorem n_iinc {i : Nat} {n1 : Int} {x v : Int32} {L2 : List (Option Value)} (C : CxN G M p s m args c meth) (hd : decode (mC M) pc = .ok (.iinc i n1, 3)) (hg : lget L i = some (.int x)) (hv : x + Int32.ofInt n1 = v) (hn : i < mN M) (hL : lst1 L i (.int v) = L2) (k : AW G M p l e s m args below meth c Qf n0 z0 z (pc + 3) L2 st w cells slots) : AW G M p l e s m args below meth c Qf n0 z0 z pc L st w cells slots := by
  intro a1 a2 a3 hs ls H locs hw hl
  subst hL
  obtain ⟨q, hq⟩ := List.getElem?_of_mem (La_mem (G := Gz G z) hg)
  exact lv_iinc C.1.1 C.1.2.1 hd hl.has hq hv hn rfl (fun ls2 hl2 => k a1 a2 a3 ⟨lput_ok hs.1, hs.2⟩ ls2 H locs hw (Lh.st1 (v := .int v) hl2))
theorem n_goto {off : Int} (tgt : Nat) (C : CxN G M p s m args c meth) (hd : decode (mC M) pc = .ok (.goto off, 3)) (ht : (pc : Int) + off = (tgt : Int)) (k : AW G M p l e s m args below meth c Qf n0 z0 z tgt L st w cells slots) : AW G M p l e s m args below meth c Qf n0 z0 z pc L st w cells slots := by
  intro a1 a2 a3 hs ls H locs hw hl
  exact lv_goto C.1.1 C.1.2.1 hd ht (k a1 a2 a3 hs ls H locs hw hl)
theorem n_geT {x y : Int32} {off : Int} (tgt : Nat) (C : CxN G M p s m args c meth) (hd : decode (mC M) pc = .ok (.if_icmp .ge off, 3)) (ht : (pc : Int) + off = (tgt : Int)) (h : y ≤ x) (k : AW G M p l e s m args below meth c Qf n0 z0 z tgt L st w cells slots) : AW G M p l e s m args below meth c Qf n0 z0 z pc L (.int y :: .int x :: st) w cells slots := by
  intro a1 a2 a3 hs ls H locs hw hl
  exact lv_icmp_ge C.1.1 C.1.2.1 hd ht (fun _ => k a1 a2 a3 ⟨hs.1, fun v hv => hs.2.1 v (List.mem_cons_of_mem _ (List.mem_cons_of_mem _ hv)), hs.2.2⟩ ls H locs hw hl) (fun h2 => absurd h h2)
theorem n_geF {x y : Int32} {off : Int} (tgt : Nat) (C : CxN G M p s m args c meth) (hd : decode (mC M) pc = .ok (.if_icmp .ge off, 3)) (ht : (pc : Int) + off = (tgt : Int)) (h : ¬ y ≤ x) (k : AW G M p l e s m args below meth c Qf n0 z0 z (pc + 3) L st w cells slots) : AW G M p l e s m args below meth c Qf n0 z0 z pc L (.int y :: .int x :: st) w cells slots := by
  intro a1 a2 a3 hs ls H locs hw hl
  exact lv_icmp_ge C.1.1 C.1.2.1 hd ht (fun h2 => absurd h2 h) (fun _ => k a1 a2 a3 ⟨hs.1, fun v hv => hs.2.1 v (List.mem_cons_of_mem _ (List.mem_cons_of_mem _ hv)), hs.2.2⟩ ls H locs hw hl)
theorem n_get {idx ci k0 a : Nat} {fs : List Value} {v : Value} (C : CxN G M p s m args c meth) (F : FL (mO M) idx ci k0) (he : w[a]? = some (.inr (ci, fs))) (hv : fs[k0]? = some v) (hd : decode (mC M) pc = .ok (.getfield idx, 3)) (kk : AW G M p l e s m args below meth c Qf n0 z0 z (pc + 3) L (v :: st) w cells slots) : AW G M p l e s m args below meth c Qf n0 z0 z pc L (.ref a :: st) w cells slots := by
  intro a1 a2 a3 hs ls H locs hw hl
  obtain ⟨C1, T, N, f1, f2, f3, f4⟩ := F
  exact va_get (D := cD G) (ci := ci) (C := C1) (T := T) (N := N) C.1.1 C.1.2.1 C.1.2.2.2.2 f3 C.1.2.2.2.1 C.2.1 hw.1 a (rW_at he) f1 k0 f2 (C.1.2.2.2.2 _ f4) (fun _ h9 => h9) (v := rv z v) (by rw [List.getElem?_map, hv]; rfl) hd (kk a1 a2 a3 ⟨hs.1, fun u hu => by
      rcases List.mem_cons.mp hu with rfl | h
      · exact hs.2.2 _ (List.mem_of_getElem? he) _ (List.mem_of_getElem? hv)
      · exact hs.2.1 _ (List.mem_cons_of_mem _ h), hs.2.2⟩ ls H locs hw hl)
theorem n_aast {a b nn k0 : Nat} {i : Int32} {vs : List Value} {f f2 : Nat → Option Nat} {w2 : Wd} (C : CxN G M p s m args c meth) (he : w[a]? = some (.inl (3, nn, .inr (.inr (.inr (.inr f)))))) (hv : w[b]? = some (.inr (3, vs))) (hi : ix i nn k0) (hf2 : va_up f k0 (some b) = f2) (hw2 : w.set a (.inl (3, nn, .inr (.inr (.inr (.inr f2))))) = w2) (hd : decode (mC M) pc = .ok (.aastore, 1))
    (kk : AW G M p l e s m args below meth c Qf n0 z0 z (pc + 1) L st w2 cells slots) : AW G M p l e s m args below meth c Qf n0 z0 z pc L (.ref b :: .int i :: .ref a :: st) w cells slots := by
  intro a1 a2 a3 hs ls H locs hw hl
  obtain ⟨hi, rfl⟩ := hi
  subst hw2
  have hb : b < w.length := (List.getElem?_eq_some_iff.mp hv).1
  refine va_astq (D := cD G) (r := (RX3, TX3, 3)) C.1.1 C.1.2.1 C.2.1 hw.1 hw.2.1 hw.2.2 a 3 b 3 (rW_at he) rfl (rW_at hv) rfl hi hd (fun H1 locs1 hP hD hS => ?_)
  have ef : va_up (fun j => (f j).map z) i.toNatClampNeg (some (z b)) = fun j => (f2 j).map z := by
    subst hf2
    funext j
    simp only [va_up]
    split <;> rfl
  have e1 : (rW (Gz G z) w).set a (z a, .inl (cT G 3, nn, .inr (.inr (.inr (.inr (va_up (fun j => (f j).map z) i.toNatClampNeg (some (z b)))))))) = rW (Gz G z) (w.set a (.inl (3, nn, .inr (.inr (.inr (.inr f2)))))) := by
    rw [ef, ← rW_set]
    rfl
  have hs2 : Sc w.length L st w := ⟨hs.1, fun v hv => hs.2.1 v (List.mem_cons_of_mem _ (List.mem_cons_of_mem _ (List.mem_cons_of_mem _ hv))), hs.2.2⟩
  refine kk (by rw [List.length_set]; exact a1) (by rw [List.length_set]; exact a2) a3 (hs2.put ?_) ls H1 locs1 ⟨e1 ▸ hP, e1 ▸ hD, hS⟩ hl
  intro j k hk
  subst hf2
  have h0 := hs.2.2 _ (List.mem_of_getElem? he)
  simp only [va_up] at hk
  split at hk
  · cases hk; exact hb
  · exact h0 j k hk
end NRows2
theorem ok_app {w0 : Wd} {e : va_E} (hok : ∀ e ∈ w0, okE w0.length e) (he : ∀ n, okE n e) : ∀ e2 ∈ w0 ++ [e], okE (w0 ++ [e]).length e2 := by
  intro e2 h
  rcases List.mem_append.mp h with h | h
  · exact (hok e2 h).mono (by simp)
  · rcases List.mem_singleton.mp h with rfl
    exact he _
theorem blX1_ok (n : Nat) : okE n blX1 := by simp [blX1, okE, okV]
theorem blX0_ok (n : Nat) : okE n blX0 := by simp [blX0, okE, okV]
theorem blX2_ok (n : Nat) : okE n blX2 := by simp [blX2, okE, okV]
theorem blX3_ok (n : Nat) : okE n blX3 := by simp [blX3, okE, okV]
theorem blX4_ok (n : Nat) : okE n blX4 := by simp [blX4, okE, okV]
theorem blX5_ok (n : Nat) : okE n blX5 := by simp [blX5, okE, okV]
theorem blX6_ok (n : Nat) : okE n blX6 := by simp [blX6, okE, okV]
def shm (m j : Nat) : Option Nat := if j < m then some (66 + 2 * j) else none
theorem shm_0 : va_up (fun _ => none) 0 (some 66) = shm 1 := by
  funext j
  simp only [va_up, shm]
  split
  next h => subst h; rfl
  next h => rw [if_neg (by omega)]
theorem shm_up {m b : Nat} (hb : b = 66 + 2 * m) : va_up (shm m) m (some b) = shm (m + 1) := by
  subst hb
  funext j
  simp only [va_up, shm]
  split
  next h => subst h; rw [if_pos (Nat.lt_succ_self _)]
  next h =>
    by_cases h2 : j < m
    · rw [if_pos h2, if_pos (by omega)]
    · rw [if_neg h2, if_neg (by omega)]
theorem shm_4 : shm 4 = shs := by
  funext j
  rcases j with _ | _ | _ | _ | j
  · rfl
  · rfl
  · rfl
  · rfl
  · simp [shm, shs]
def zi (n : Nat) : va_E := .inl (0, n, .inl (fun _ => 0))
def zl (n : Nat) : va_E := .inl (1, n, .inr (.inl (fun _ => 0)))
def zz (n : Nat) : va_E := .inl (2, n, .inl (fun _ => 0))
def zq (n : Nat) : va_E := .inl (3, n, .inr (.inr (.inr (.inr (fun _ => none)))))
set_option maxRecDepth 100000 in
set_option maxHeartbeats 4000000 in
theorem c_X1_init {G : Cf} (w0 : Wd) (hlen : w0.length ≤ 600) (hok : ∀ e ∈ w0 ++ [blX1], okE (w0 ++ [blX1]).length e) : DoesN G M_X1_init [.ref w0.length] (w0 ++ [blX1]) (w0 ++ rc w0.length) := by
  refine DoesN.of (L0 := [some (.ref (w0.length + 0))]) 0 rfl rfl rfl rfl (Nat.le_of_ble_eq_true rfl) rfl (by simp; omega) (fun v hv => by rcases List.mem_singleton.mp hv with rfl; exact Or.inl (by simp)) hok ?_
  intro p l e s m args below meth c Qf C hF
  have hlen : w0.length ≤ 600 := by omega
  refine n_aload_n C dX1_init_0 rfl ?_
  refine n_obj C oi_X1 dX1_init_1 (by exact Nat.le_of_ble_eq_true rfl) (by exact Nat.le_of_ble_eq_true rfl) ?_
  refine n_aload_n C dX1_init_4 rfl ?_
  refine n_bipush 6 C dX1_init_5 rfl ?_
  refine n_newi' (w2 := [.inr (1, [.null, .null, .null, .null, .null, .null, .null, .null, .null, .null, .int 0, .int 0, .int 0, .int 0, .int 0]), zi 6]) 6 C hlen (j := 1) rfl (by exact Nat.le_of_ble_eq_true rfl) (by decide) (by decide) (by exact Nat.le_of_ble_eq_true rfl) (by exact Nat.le_of_ble_eq_true rfl) (by exact Nat.le_of_ble_eq_true rfl) dX1_init_7 rfl (fun z => ?_)
  refine n_putF' (w2 := [.inr (1, [.ref (w0.length + 1), .null, .null, .null, .null, .null, .null, .null, .null, .null, .int 0, .int 0, .int 0, .int 0, .int 0]), zi 6]) (a := 0) C rfl fl_X1_9 fpf_X1_0 rfl (by exact Nat.le_of_ble_eq_true rfl) (fun _ => rfl) (fun _ => rfl) rfl dX1_init_9 ?_
  refine n_aload_n C dX1_init_12 rfl ?_
  refine n_bipush 14 C dX1_init_13 rfl ?_
  refine n_newi' (w2 := [.inr (1, [.ref (w0.length + 1), .null, .null, .null, .null, .null, .null, .null, .null, .null, .int 0, .int 0, .int 0, .int 0, .int 0]), zi 6, zi 14]) 14 C hlen (j := 2) rfl (by exact Nat.le_of_ble_eq_true rfl) (by decide) (by decide) (by exact Nat.le_of_ble_eq_true rfl) (by exact Nat.le_of_ble_eq_true rfl) (by exact Nat.le_of_ble_eq_true rfl) dX1_init_15 rfl (fun z => ?_)
  refine n_putF' (w2 := [.inr (1, [.ref (w0.length + 1), .ref (w0.length + 2), .null, .null, .null, .null, .null, .null, .null, .null, .int 0, .int 0, .int 0, .int 0, .int 0]), zi 6, zi 14]) (a := 0) C rfl fl_X1_15 fpf_X1_1 rfl (by exact Nat.le_of_ble_eq_true rfl) (fun _ => rfl) (fun _ => rfl) rfl dX1_init_17 ?_
  refine n_aload_n C dX1_init_20 rfl ?_
  refine n_bipush 14 C dX1_init_21 rfl ?_
  refine n_newi' (w2 := [.inr (1, [.ref (w0.length + 1), .ref (w0.length + 2), .null, .null, .null, .null, .null, .null, .null, .null, .int 0, .int 0, .int 0, .int 0, .int 0]), zi 6, zi 14, zi 14]) 14 C hlen (j := 3) rfl (by exact Nat.le_of_ble_eq_true rfl) (by decide) (by decide) (by exact Nat.le_of_ble_eq_true rfl) (by exact Nat.le_of_ble_eq_true rfl) (by exact Nat.le_of_ble_eq_true rfl) dX1_init_23 rfl (fun z => ?_)
  refine n_putF' (w2 := [.inr (1, [.ref (w0.length + 1), .ref (w0.length + 2), .ref (w0.length + 3), .null, .null, .null, .null, .null, .null, .null, .int 0, .int 0, .int 0, .int 0, .int 0]), zi 6, zi 14, zi 14]) (a := 0) C rfl fl_X1_18 fpf_X1_2 rfl (by exact Nat.le_of_ble_eq_true rfl) (fun _ => rfl) (fun _ => rfl) rfl dX1_init_25 ?_
  refine n_aload_n C dX1_init_28 rfl ?_
  refine n_bipush 14 C dX1_init_29 rfl ?_
  refine n_newi' (w2 := [.inr (1, [.ref (w0.length + 1), .ref (w0.length + 2), .ref (w0.length + 3), .null, .null, .null, .null, .null, .null, .null, .int 0, .int 0, .int 0, .int 0, .int 0]), zi 6, zi 14, zi 14, zi 14]) 14 C hlen (j := 4) rfl (by exact Nat.le_of_ble_eq_true rfl) (by decide) (by decide) (by exact Nat.le_of_ble_eq_true rfl) (by exact Nat.le_of_ble_eq_true rfl) (by exact Nat.le_of_ble_eq_true rfl) dX1_init_31 rfl (fun z => ?_)
  refine n_putF' (w2 := [.inr (1, [.ref (w0.length + 1), .ref (w0.length + 2), .ref (w0.length + 3), .ref (w0.length + 4), .null, .null, .null, .null, .null, .null, .int 0, .int 0, .int 0, .int 0, .int 0]), zi 6, zi 14, zi 14, zi 14]) (a := 0) C rfl fl_X1_21 fpf_X1_3 rfl (by exact Nat.le_of_ble_eq_true rfl) (fun _ => rfl) (fun _ => rfl) rfl dX1_init_33 ?_
  refine n_aload_n C dX1_init_36 rfl ?_
  refine n_bipush 14 C dX1_init_37 rfl ?_
  refine n_newi' (w2 := [.inr (1, [.ref (w0.length + 1), .ref (w0.length + 2), .ref (w0.length + 3), .ref (w0.length + 4), .null, .null, .null, .null, .null, .null, .int 0, .int 0, .int 0, .int 0, .int 0]), zi 6, zi 14, zi 14, zi 14, zi 14]) 14 C hlen (j := 5) rfl (by exact Nat.le_of_ble_eq_true rfl) (by decide) (by decide) (by exact Nat.le_of_ble_eq_true rfl) (by exact Nat.le_of_ble_eq_true rfl) (by exact Nat.le_of_ble_eq_true rfl) dX1_init_39 rfl (fun z => ?_)
  refine n_putF' (w2 := [.inr (1, [.ref (w0.length + 1), .ref (w0.length + 2), .ref (w0.length + 3), .ref (w0.length + 4), .ref (w0.length + 5), .null, .null, .null, .null, .null, .int 0, .int 0, .int 0, .int 0, .int 0]), zi 6, zi 14, zi 14, zi 14, zi 14]) (a := 0) C rfl fl_X1_24 fpf_X1_4 rfl (by exact Nat.le_of_ble_eq_true rfl) (fun _ => rfl) (fun _ => rfl) rfl dX1_init_41 ?_
  refine n_aload_n C dX1_init_44 rfl ?_
  refine n_bipush 12 C dX1_init_45 rfl ?_
  refine n_newi' (w2 := [.inr (1, [.ref (w0.length + 1), .ref (w0.length + 2), .ref (w0.length + 3), .ref (w0.length + 4), .ref (w0.length + 5), .null, .null, .null, .null, .null, .int 0, .int 0, .int 0, .int 0, .int 0]), zi 6, zi 14, zi 14, zi 14, zi 14, zi 12]) 12 C hlen (j := 6) rfl (by exact Nat.le_of_ble_eq_true rfl) (by decide) (by decide) (by exact Nat.le_of_ble_eq_true rfl) (by exact Nat.le_of_ble_eq_true rfl) (by exact Nat.le_of_ble_eq_true rfl) dX1_init_47 rfl (fun z => ?_)
  refine n_putF' (w2 := [.inr (1, [.ref (w0.length + 1), .ref (w0.length + 2), .ref (w0.length + 3), .ref (w0.length + 4), .ref (w0.length + 5), .ref (w0.length + 6), .null, .null, .null, .null, .int 0, .int 0, .int 0, .int 0, .int 0]), zi 6, zi 14, zi 14, zi 14, zi 14, zi 12]) (a := 0) C rfl fl_X1_27 fpf_X1_5 rfl (by exact Nat.le_of_ble_eq_true rfl) (fun _ => rfl) (fun _ => rfl) rfl dX1_init_49 ?_
  refine n_aload_n C dX1_init_52 rfl ?_
  refine n_bipush 12 C dX1_init_53 rfl ?_
  refine n_newi' (w2 := [.inr (1, [.ref (w0.length + 1), .ref (w0.length + 2), .ref (w0.length + 3), .ref (w0.length + 4), .ref (w0.length + 5), .ref (w0.length + 6), .null, .null, .null, .null, .int 0, .int 0, .int 0, .int 0, .int 0]), zi 6, zi 14, zi 14, zi 14, zi 14, zi 12, zi 12]) 12 C hlen (j := 7) rfl (by exact Nat.le_of_ble_eq_true rfl) (by decide) (by decide) (by exact Nat.le_of_ble_eq_true rfl) (by exact Nat.le_of_ble_eq_true rfl) (by exact Nat.le_of_ble_eq_true rfl) dX1_init_55 rfl (fun z => ?_)
  refine n_putF' (w2 := [.inr (1, [.ref (w0.length + 1), .ref (w0.length + 2), .ref (w0.length + 3), .ref (w0.length + 4), .ref (w0.length + 5), .ref (w0.length + 6), .ref (w0.length + 7), .null, .null, .null, .int 0, .int 0, .int 0, .int 0, .int 0]), zi 6, zi 14, zi 14, zi 14, zi 14, zi 12, zi 12]) (a := 0) C rfl fl_X1_30 fpf_X1_6 rfl (by exact Nat.le_of_ble_eq_true rfl) (fun _ => rfl) (fun _ => rfl) rfl dX1_init_57 ?_
  refine n_aload_n C dX1_init_60 rfl ?_
  refine n_bipush 12 C dX1_init_61 rfl ?_
  refine n_newi' (w2 := [.inr (1, [.ref (w0.length + 1), .ref (w0.length + 2), .ref (w0.length + 3), .ref (w0.length + 4), .ref (w0.length + 5), .ref (w0.length + 6), .ref (w0.length + 7), .null, .null, .null, .int 0, .int 0, .int 0, .int 0, .int 0]), zi 6, zi 14, zi 14, zi 14, zi 14, zi 12, zi 12, zi 12]) 12 C hlen (j := 8) rfl (by exact Nat.le_of_ble_eq_true rfl) (by decide) (by decide) (by exact Nat.le_of_ble_eq_true rfl) (by exact Nat.le_of_ble_eq_true rfl) (by exact Nat.le_of_ble_eq_true rfl) dX1_init_63 rfl (fun z => ?_)
  refine n_putF' (w2 := [.inr (1, [.ref (w0.length + 1), .ref (w0.length + 2), .ref (w0.length + 3), .ref (w0.length + 4), .ref (w0.length + 5), .ref (w0.length + 6), .ref (w0.length + 7), .ref (w0.length + 8), .null, .null, .int 0, .int 0, .int 0, .int 0, .int 0]), zi 6, zi 14, zi 14, zi 14, zi 14, zi 12, zi 12, zi 12]) (a := 0) C rfl fl_X1_33 fpf_X1_7 rfl (by exact Nat.le_of_ble_eq_true rfl) (fun _ => rfl) (fun _ => rfl) rfl dX1_init_65 ?_
  refine n_aload_n C dX1_init_68 rfl ?_
  refine n_bipush 12 C dX1_init_69 rfl ?_
  refine n_newi' (w2 := [.inr (1, [.ref (w0.length + 1), .ref (w0.length + 2), .ref (w0.length + 3), .ref (w0.length + 4), .ref (w0.length + 5), .ref (w0.length + 6), .ref (w0.length + 7), .ref (w0.length + 8), .null, .null, .int 0, .int 0, .int 0, .int 0, .int 0]), zi 6, zi 14, zi 14, zi 14, zi 14, zi 12, zi 12, zi 12, zi 12]) 12 C hlen (j := 9) rfl (by exact Nat.le_of_ble_eq_true rfl) (by decide) (by decide) (by exact Nat.le_of_ble_eq_true rfl) (by exact Nat.le_of_ble_eq_true rfl) (by exact Nat.le_of_ble_eq_true rfl) dX1_init_71 rfl (fun z => ?_)
  refine n_putF' (w2 := [.inr (1, [.ref (w0.length + 1), .ref (w0.length + 2), .ref (w0.length + 3), .ref (w0.length + 4), .ref (w0.length + 5), .ref (w0.length + 6), .ref (w0.length + 7), .ref (w0.length + 8), .ref (w0.length + 9), .null, .int 0, .int 0, .int 0, .int 0, .int 0]), zi 6, zi 14, zi 14, zi 14, zi 14, zi 12, zi 12, zi 12, zi 12]) (a := 0) C rfl fl_X1_36 fpf_X1_8 rfl (by exact Nat.le_of_ble_eq_true rfl) (fun _ => rfl) (fun _ => rfl) rfl dX1_init_73 ?_
  refine n_aload_n C dX1_init_76 rfl ?_
  refine n_bipush 6 C dX1_init_77 rfl ?_
  refine n_newi' (w2 := [.inr (1, [.ref (w0.length + 1), .ref (w0.length + 2), .ref (w0.length + 3), .ref (w0.length + 4), .ref (w0.length + 5), .ref (w0.length + 6), .ref (w0.length + 7), .ref (w0.length + 8), .ref (w0.length + 9), .null, .int 0, .int 0, .int 0, .int 0, .int 0]), zi 6, zi 14, zi 14, zi 14, zi 14, zi 12, zi 12, zi 12, zi 12, zi 6]) 6 C hlen (j := 10) rfl (by exact Nat.le_of_ble_eq_true rfl) (by decide) (by decide) (by exact Nat.le_of_ble_eq_true rfl) (by exact Nat.le_of_ble_eq_true rfl) (by exact Nat.le_of_ble_eq_true rfl) dX1_init_79 rfl (fun z => ?_)
  refine n_putF' (w2 := [.inr (1, [.ref (w0.length + 1), .ref (w0.length + 2), .ref (w0.length + 3), .ref (w0.length + 4), .ref (w0.length + 5), .ref (w0.length + 6), .ref (w0.length + 7), .ref (w0.length + 8), .ref (w0.length + 9), .ref (w0.length + 10), .int 0, .int 0, .int 0, .int 0, .int 0]), zi 6, zi 14, zi 14, zi 14, zi 14, zi 12, zi 12, zi 12, zi 12, zi 6]) (a := 0) C rfl fl_X1_39 fpf_X1_9 rfl (by exact Nat.le_of_ble_eq_true rfl) (fun _ => rfl) (fun _ => rfl) rfl dX1_init_81 ?_
  exact n_ret C (n_Fin (by rfl) hF) dX1_init_84 (by exact Nat.le_of_ble_eq_true rfl) (by exact Nat.le_of_ble_eq_true rfl)
set_option maxRecDepth 100000 in
set_option maxHeartbeats 4000000 in
theorem c_X3_init {G : Cf} (w0 : Wd) (hlen : w0.length ≤ 600) (hok : ∀ e ∈ w0 ++ [blX3], okE (w0 ++ [blX3]).length e) : DoesN G M_X3_init [.ref w0.length] (w0 ++ [blX3]) (w0 ++ shc w0.length) := by
  refine DoesN.of (L0 := [some (.ref (w0.length + 0))]) 0 rfl rfl rfl rfl (Nat.le_of_ble_eq_true rfl) rfl (by simp; omega) (fun v hv => by rcases List.mem_singleton.mp hv with rfl; exact Or.inl (by simp)) hok ?_
  intro p l e s m args below meth c Qf C hF
  have hlen : w0.length ≤ 600 := by omega
  refine n_aload_n C dX3_init_0 rfl ?_
  refine n_obj C oi_X3 dX3_init_1 (by exact Nat.le_of_ble_eq_true rfl) (by exact Nat.le_of_ble_eq_true rfl) ?_
  refine n_aload_n C dX3_init_4 rfl ?_
  refine n_bipush 40 C dX3_init_5 rfl ?_
  refine n_newl' (w2 := [.inr (3, [.null, .int 0, .int 0]), zl 40]) 40 C hlen (j := 1) rfl (by exact Nat.le_of_ble_eq_true rfl) (by decide) (by decide) (by exact Nat.le_of_ble_eq_true rfl) (by exact Nat.le_of_ble_eq_true rfl) (by exact Nat.le_of_ble_eq_true rfl) dX3_init_7 rfl (fun z => ?_)
  refine n_putF' (w2 := [.inr (3, [.ref (w0.length + 1), .int 0, .int 0]), zl 40]) (a := 0) C rfl fl_X3_9 fpf_X3_0 rfl (by exact Nat.le_of_ble_eq_true rfl) (fun _ => rfl) (fun _ => rfl) rfl dX3_init_9 ?_
  exact n_ret C (n_Fin (by rfl) hF) dX3_init_12 (by exact Nat.le_of_ble_eq_true rfl) (by exact Nat.le_of_ble_eq_true rfl)
set_option maxRecDepth 100000 in
set_option maxHeartbeats 4000000 in
theorem c_X4_init {G : Cf} (w0 : Wd) (hlen : w0.length ≤ 600) (hok : ∀ e ∈ w0 ++ [blX4], okE (w0 ++ [blX4]).length e) : DoesN G M_X4_init [.ref w0.length] (w0 ++ [blX4]) (w0 ++ tpc w0.length) := by
  refine DoesN.of (L0 := [some (.ref (w0.length + 0))]) 0 rfl rfl rfl rfl (Nat.le_of_ble_eq_true rfl) rfl (by simp; omega) (fun v hv => by rcases List.mem_singleton.mp hv with rfl; exact Or.inl (by simp)) hok ?_
  intro p l e s m args below meth c Qf C hF
  have hlen : w0.length ≤ 600 := by omega
  refine n_aload_n C dX4_init_0 rfl ?_
  refine n_obj C oi_X4 dX4_init_1 (by exact Nat.le_of_ble_eq_true rfl) (by exact Nat.le_of_ble_eq_true rfl) ?_
  refine n_aload_n C dX4_init_4 rfl ?_
  refine n_bipush 120 C dX4_init_5 rfl ?_
  refine n_newi' (w2 := [.inr (4, [.null, .int 0, .int 0, .int 0, .int 0, .int 0]), zi 120]) 120 C hlen (j := 1) rfl (by exact Nat.le_of_ble_eq_true rfl) (by decide) (by decide) (by exact Nat.le_of_ble_eq_true rfl) (by exact Nat.le_of_ble_eq_true rfl) (by exact Nat.le_of_ble_eq_true rfl) dX4_init_7 rfl (fun z => ?_)
  refine n_putF' (w2 := [.inr (4, [.ref (w0.length + 1), .int 0, .int 0, .int 0, .int 0, .int 0]), zi 120]) (a := 0) C rfl fl_X4_9 fpf_X4_0 rfl (by exact Nat.le_of_ble_eq_true rfl) (fun _ => rfl) (fun _ => rfl) rfl dX4_init_9 ?_
  exact n_ret C (n_Fin (by rfl) hF) dX4_init_12 (by exact Nat.le_of_ble_eq_true rfl) (by exact Nat.le_of_ble_eq_true rfl)
set_option maxRecDepth 100000 in
set_option maxHeartbeats 4000000 in
theorem c_X6_init {G : Cf} (w0 : Wd) (hlen : w0.length ≤ 600) (hok : ∀ e ∈ w0 ++ [blX6], okE (w0 ++ [blX6]).length e) : DoesN G M_X6_init [.ref w0.length] (w0 ++ [blX6]) (w0 ++ moc w0.length) := by
  refine DoesN.of (L0 := [some (.ref (w0.length + 0))]) 0 rfl rfl rfl rfl (Nat.le_of_ble_eq_true rfl) rfl (by simp; omega) (fun v hv => by rcases List.mem_singleton.mp hv with rfl; exact Or.inl (by simp)) hok ?_
  intro p l e s m args below meth c Qf C hF
  have hlen : w0.length ≤ 600 := by omega
  refine n_aload_n C dX6_init_0 rfl ?_
  refine n_obj C oi_X6 dX6_init_1 (by exact Nat.le_of_ble_eq_true rfl) (by exact Nat.le_of_ble_eq_true rfl) ?_
  refine n_aload_n C dX6_init_4 rfl ?_
  refine n_bipush 6 C dX6_init_5 rfl ?_
  refine n_newi' (w2 := [.inr (6, [.null, .int 0, .null, .null, .null, .int 0, .null, .null, .null, .null, .null, .int 0, .null, .null, .int 0, .int 0, .int 0, .int 0, .int 0, .int 0, .null, .null, .null, .int 0, .null, .int 0, .int 0, .int 0, .int 0, .long 0, .int 0, .int 0, .null, .null, .null, .null, .null, .null, .int 0, .int 0, .null]), zi 6]) 6 C hlen (j := 1) rfl (by exact Nat.le_of_ble_eq_true rfl) (by decide) (by decide) (by exact Nat.le_of_ble_eq_true rfl) (by exact Nat.le_of_ble_eq_true rfl) (by exact Nat.le_of_ble_eq_true rfl) dX6_init_7 rfl (fun z => ?_)
  refine n_putF' (w2 := [.inr (6, [.ref (w0.length + 1), .int 0, .null, .null, .null, .int 0, .null, .null, .null, .null, .null, .int 0, .null, .null, .int 0, .int 0, .int 0, .int 0, .int 0, .int 0, .null, .null, .null, .int 0, .null, .int 0, .int 0, .int 0, .int 0, .long 0, .int 0, .int 0, .null, .null, .null, .null, .null, .null, .int 0, .int 0, .null]), zi 6]) (a := 0) C rfl fl_X6_7 fpf_X6_0 rfl (by exact Nat.le_of_ble_eq_true rfl) (fun _ => rfl) (fun _ => rfl) rfl dX6_init_9 ?_
  refine n_aload_n C dX6_init_12 rfl ?_
  refine n_bipush 14 C dX6_init_13 rfl ?_
  refine n_newi' (w2 := [.inr (6, [.ref (w0.length + 1), .int 0, .null, .null, .null, .int 0, .null, .null, .null, .null, .null, .int 0, .null, .null, .int 0, .int 0, .int 0, .int 0, .int 0, .int 0, .null, .null, .null, .int 0, .null, .int 0, .int 0, .int 0, .int 0, .long 0, .int 0, .int 0, .null, .null, .null, .null, .null, .null, .int 0, .int 0, .null]), zi 6, zi 14]) 14 C hlen (j := 2) rfl (by exact Nat.le_of_ble_eq_true rfl) (by decide) (by decide) (by exact Nat.le_of_ble_eq_true rfl) (by exact Nat.le_of_ble_eq_true rfl) (by exact Nat.le_of_ble_eq_true rfl) dX6_init_15 rfl (fun z => ?_)
  refine n_putF' (w2 := [.inr (6, [.ref (w0.length + 1), .int 0, .ref (w0.length + 2), .null, .null, .int 0, .null, .null, .null, .null, .null, .int 0, .null, .null, .int 0, .int 0, .int 0, .int 0, .int 0, .int 0, .null, .null, .null, .int 0, .null, .int 0, .int 0, .int 0, .int 0, .long 0, .int 0, .int 0, .null, .null, .null, .null, .null, .null, .int 0, .int 0, .null]), zi 6, zi 14]) (a := 0) C rfl fl_X6_13 fpf_X6_2 rfl (by exact Nat.le_of_ble_eq_true rfl) (fun _ => rfl) (fun _ => rfl) rfl dX6_init_17 ?_
  refine n_aload_n C dX6_init_20 rfl ?_
  refine n_bipush 14 C dX6_init_21 rfl ?_
  refine n_newi' (w2 := [.inr (6, [.ref (w0.length + 1), .int 0, .ref (w0.length + 2), .null, .null, .int 0, .null, .null, .null, .null, .null, .int 0, .null, .null, .int 0, .int 0, .int 0, .int 0, .int 0, .int 0, .null, .null, .null, .int 0, .null, .int 0, .int 0, .int 0, .int 0, .long 0, .int 0, .int 0, .null, .null, .null, .null, .null, .null, .int 0, .int 0, .null]), zi 6, zi 14, zi 14]) 14 C hlen (j := 3) rfl (by exact Nat.le_of_ble_eq_true rfl) (by decide) (by decide) (by exact Nat.le_of_ble_eq_true rfl) (by exact Nat.le_of_ble_eq_true rfl) (by exact Nat.le_of_ble_eq_true rfl) dX6_init_23 rfl (fun z => ?_)
  refine n_putF' (w2 := [.inr (6, [.ref (w0.length + 1), .int 0, .ref (w0.length + 2), .ref (w0.length + 3), .null, .int 0, .null, .null, .null, .null, .null, .int 0, .null, .null, .int 0, .int 0, .int 0, .int 0, .int 0, .int 0, .null, .null, .null, .int 0, .null, .int 0, .int 0, .int 0, .int 0, .long 0, .int 0, .int 0, .null, .null, .null, .null, .null, .null, .int 0, .int 0, .null]), zi 6, zi 14, zi 14]) (a := 0) C rfl fl_X6_16 fpf_X6_3 rfl (by exact Nat.le_of_ble_eq_true rfl) (fun _ => rfl) (fun _ => rfl) rfl dX6_init_25 ?_
  refine n_aload_n C dX6_init_28 rfl ?_
  refine n_bipush 14 C dX6_init_29 rfl ?_
  refine n_newi' (w2 := [.inr (6, [.ref (w0.length + 1), .int 0, .ref (w0.length + 2), .ref (w0.length + 3), .null, .int 0, .null, .null, .null, .null, .null, .int 0, .null, .null, .int 0, .int 0, .int 0, .int 0, .int 0, .int 0, .null, .null, .null, .int 0, .null, .int 0, .int 0, .int 0, .int 0, .long 0, .int 0, .int 0, .null, .null, .null, .null, .null, .null, .int 0, .int 0, .null]), zi 6, zi 14, zi 14, zi 14]) 14 C hlen (j := 4) rfl (by exact Nat.le_of_ble_eq_true rfl) (by decide) (by decide) (by exact Nat.le_of_ble_eq_true rfl) (by exact Nat.le_of_ble_eq_true rfl) (by exact Nat.le_of_ble_eq_true rfl) dX6_init_31 rfl (fun z => ?_)
  refine n_putF' (w2 := [.inr (6, [.ref (w0.length + 1), .int 0, .ref (w0.length + 2), .ref (w0.length + 3), .ref (w0.length + 4), .int 0, .null, .null, .null, .null, .null, .int 0, .null, .null, .int 0, .int 0, .int 0, .int 0, .int 0, .int 0, .null, .null, .null, .int 0, .null, .int 0, .int 0, .int 0, .int 0, .long 0, .int 0, .int 0, .null, .null, .null, .null, .null, .null, .int 0, .int 0, .null]), zi 6, zi 14, zi 14, zi 14]) (a := 0) C rfl fl_X6_19 fpf_X6_4 rfl (by exact Nat.le_of_ble_eq_true rfl) (fun _ => rfl) (fun _ => rfl) rfl dX6_init_33 ?_
  refine n_aload_n C dX6_init_36 rfl ?_
  refine n_bipush 12 C dX6_init_37 rfl ?_
  refine n_newi' (w2 := [.inr (6, [.ref (w0.length + 1), .int 0, .ref (w0.length + 2), .ref (w0.length + 3), .ref (w0.length + 4), .int 0, .null, .null, .null, .null, .null, .int 0, .null, .null, .int 0, .int 0, .int 0, .int 0, .int 0, .int 0, .null, .null, .null, .int 0, .null, .int 0, .int 0, .int 0, .int 0, .long 0, .int 0, .int 0, .null, .null, .null, .null, .null, .null, .int 0, .int 0, .null]), zi 6, zi 14, zi 14, zi 14, zi 12]) 12 C hlen (j := 5) rfl (by exact Nat.le_of_ble_eq_true rfl) (by decide) (by decide) (by exact Nat.le_of_ble_eq_true rfl) (by exact Nat.le_of_ble_eq_true rfl) (by exact Nat.le_of_ble_eq_true rfl) dX6_init_39 rfl (fun z => ?_)
  refine n_putF' (w2 := [.inr (6, [.ref (w0.length + 1), .int 0, .ref (w0.length + 2), .ref (w0.length + 3), .ref (w0.length + 4), .int 0, .ref (w0.length + 5), .null, .null, .null, .null, .int 0, .null, .null, .int 0, .int 0, .int 0, .int 0, .int 0, .int 0, .null, .null, .null, .int 0, .null, .int 0, .int 0, .int 0, .int 0, .long 0, .int 0, .int 0, .null, .null, .null, .null, .null, .null, .int 0, .int 0, .null]), zi 6, zi 14, zi 14, zi 14, zi 12]) (a := 0) C rfl fl_X6_22 fpf_X6_6 rfl (by exact Nat.le_of_ble_eq_true rfl) (fun _ => rfl) (fun _ => rfl) rfl dX6_init_41 ?_
  refine n_aload_n C dX6_init_44 rfl ?_
  refine n_bipush 12 C dX6_init_45 rfl ?_
  refine n_newi' (w2 := [.inr (6, [.ref (w0.length + 1), .int 0, .ref (w0.length + 2), .ref (w0.length + 3), .ref (w0.length + 4), .int 0, .ref (w0.length + 5), .null, .null, .null, .null, .int 0, .null, .null, .int 0, .int 0, .int 0, .int 0, .int 0, .int 0, .null, .null, .null, .int 0, .null, .int 0, .int 0, .int 0, .int 0, .long 0, .int 0, .int 0, .null, .null, .null, .null, .null, .null, .int 0, .int 0, .null]), zi 6, zi 14, zi 14, zi 14, zi 12, zi 12]) 12 C hlen (j := 6) rfl (by exact Nat.le_of_ble_eq_true rfl) (by decide) (by decide) (by exact Nat.le_of_ble_eq_true rfl) (by exact Nat.le_of_ble_eq_true rfl) (by exact Nat.le_of_ble_eq_true rfl) dX6_init_47 rfl (fun z => ?_)
  refine n_putF' (w2 := [.inr (6, [.ref (w0.length + 1), .int 0, .ref (w0.length + 2), .ref (w0.length + 3), .ref (w0.length + 4), .int 0, .ref (w0.length + 5), .ref (w0.length + 6), .null, .null, .null, .int 0, .null, .null, .int 0, .int 0, .int 0, .int 0, .int 0, .int 0, .null, .null, .null, .int 0, .null, .int 0, .int 0, .int 0, .int 0, .long 0, .int 0, .int 0, .null, .null, .null, .null, .null, .null, .int 0, .int 0, .null]), zi 6, zi 14, zi 14, zi 14, zi 12, zi 12]) (a := 0) C rfl fl_X6_25 fpf_X6_7 rfl (by exact Nat.le_of_ble_eq_true rfl) (fun _ => rfl) (fun _ => rfl) rfl dX6_init_49 ?_
  refine n_aload_n C dX6_init_52 rfl ?_
  refine n_bipush 12 C dX6_init_53 rfl ?_
  refine n_newi' (w2 := [.inr (6, [.ref (w0.length + 1), .int 0, .ref (w0.length + 2), .ref (w0.length + 3), .ref (w0.length + 4), .int 0, .ref (w0.length + 5), .ref (w0.length + 6), .null, .null, .null, .int 0, .null, .null, .int 0, .int 0, .int 0, .int 0, .int 0, .int 0, .null, .null, .null, .int 0, .null, .int 0, .int 0, .int 0, .int 0, .long 0, .int 0, .int 0, .null, .null, .null, .null, .null, .null, .int 0, .int 0, .null]), zi 6, zi 14, zi 14, zi 14, zi 12, zi 12, zi 12]) 12 C hlen (j := 7) rfl (by exact Nat.le_of_ble_eq_true rfl) (by decide) (by decide) (by exact Nat.le_of_ble_eq_true rfl) (by exact Nat.le_of_ble_eq_true rfl) (by exact Nat.le_of_ble_eq_true rfl) dX6_init_55 rfl (fun z => ?_)
  refine n_putF' (w2 := [.inr (6, [.ref (w0.length + 1), .int 0, .ref (w0.length + 2), .ref (w0.length + 3), .ref (w0.length + 4), .int 0, .ref (w0.length + 5), .ref (w0.length + 6), .ref (w0.length + 7), .null, .null, .int 0, .null, .null, .int 0, .int 0, .int 0, .int 0, .int 0, .int 0, .null, .null, .null, .int 0, .null, .int 0, .int 0, .int 0, .int 0, .long 0, .int 0, .int 0, .null, .null, .null, .null, .null, .null, .int 0, .int 0, .null]), zi 6, zi 14, zi 14, zi 14, zi 12, zi 12, zi 12]) (a := 0) C rfl fl_X6_28 fpf_X6_8 rfl (by exact Nat.le_of_ble_eq_true rfl) (fun _ => rfl) (fun _ => rfl) rfl dX6_init_57 ?_
  refine n_aload_n C dX6_init_60 rfl ?_
  refine n_bipush 12 C dX6_init_61 rfl ?_
  refine n_newi' (w2 := [.inr (6, [.ref (w0.length + 1), .int 0, .ref (w0.length + 2), .ref (w0.length + 3), .ref (w0.length + 4), .int 0, .ref (w0.length + 5), .ref (w0.length + 6), .ref (w0.length + 7), .null, .null, .int 0, .null, .null, .int 0, .int 0, .int 0, .int 0, .int 0, .int 0, .null, .null, .null, .int 0, .null, .int 0, .int 0, .int 0, .int 0, .long 0, .int 0, .int 0, .null, .null, .null, .null, .null, .null, .int 0, .int 0, .null]), zi 6, zi 14, zi 14, zi 14, zi 12, zi 12, zi 12, zi 12]) 12 C hlen (j := 8) rfl (by exact Nat.le_of_ble_eq_true rfl) (by decide) (by decide) (by exact Nat.le_of_ble_eq_true rfl) (by exact Nat.le_of_ble_eq_true rfl) (by exact Nat.le_of_ble_eq_true rfl) dX6_init_63 rfl (fun z => ?_)
  refine n_putF' (w2 := [.inr (6, [.ref (w0.length + 1), .int 0, .ref (w0.length + 2), .ref (w0.length + 3), .ref (w0.length + 4), .int 0, .ref (w0.length + 5), .ref (w0.length + 6), .ref (w0.length + 7), .ref (w0.length + 8), .null, .int 0, .null, .null, .int 0, .int 0, .int 0, .int 0, .int 0, .int 0, .null, .null, .null, .int 0, .null, .int 0, .int 0, .int 0, .int 0, .long 0, .int 0, .int 0, .null, .null, .null, .null, .null, .null, .int 0, .int 0, .null]), zi 6, zi 14, zi 14, zi 14, zi 12, zi 12, zi 12, zi 12]) (a := 0) C rfl fl_X6_31 fpf_X6_9 rfl (by exact Nat.le_of_ble_eq_true rfl) (fun _ => rfl) (fun _ => rfl) rfl dX6_init_65 ?_
  refine n_aload_n C dX6_init_68 rfl ?_
  refine n_bipush 82 C dX6_init_69 rfl ?_
  refine n_newi' (w2 := [.inr (6, [.ref (w0.length + 1), .int 0, .ref (w0.length + 2), .ref (w0.length + 3), .ref (w0.length + 4), .int 0, .ref (w0.length + 5), .ref (w0.length + 6), .ref (w0.length + 7), .ref (w0.length + 8), .null, .int 0, .null, .null, .int 0, .int 0, .int 0, .int 0, .int 0, .int 0, .null, .null, .null, .int 0, .null, .int 0, .int 0, .int 0, .int 0, .long 0, .int 0, .int 0, .null, .null, .null, .null, .null, .null, .int 0, .int 0, .null]), zi 6, zi 14, zi 14, zi 14, zi 12, zi 12, zi 12, zi 12, zi 82]) 82 C hlen (j := 9) rfl (by exact Nat.le_of_ble_eq_true rfl) (by decide) (by decide) (by exact Nat.le_of_ble_eq_true rfl) (by exact Nat.le_of_ble_eq_true rfl) (by exact Nat.le_of_ble_eq_true rfl) dX6_init_71 rfl (fun z => ?_)
  refine n_putF' (w2 := [.inr (6, [.ref (w0.length + 1), .int 0, .ref (w0.length + 2), .ref (w0.length + 3), .ref (w0.length + 4), .int 0, .ref (w0.length + 5), .ref (w0.length + 6), .ref (w0.length + 7), .ref (w0.length + 8), .ref (w0.length + 9), .int 0, .null, .null, .int 0, .int 0, .int 0, .int 0, .int 0, .int 0, .null, .null, .null, .int 0, .null, .int 0, .int 0, .int 0, .int 0, .long 0, .int 0, .int 0, .null, .null, .null, .null, .null, .null, .int 0, .int 0, .null]), zi 6, zi 14, zi 14, zi 14, zi 12, zi 12, zi 12, zi 12, zi 82]) (a := 0) C rfl fl_X6_34 fpf_X6_10 rfl (by exact Nat.le_of_ble_eq_true rfl) (fun _ => rfl) (fun _ => rfl) rfl dX6_init_73 ?_
  refine n_aload_n C dX6_init_76 rfl ?_
  refine n_bipush 7 C dX6_init_77 rfl ?_
  refine n_newi' (w2 := [.inr (6, [.ref (w0.length + 1), .int 0, .ref (w0.length + 2), .ref (w0.length + 3), .ref (w0.length + 4), .int 0, .ref (w0.length + 5), .ref (w0.length + 6), .ref (w0.length + 7), .ref (w0.length + 8), .ref (w0.length + 9), .int 0, .null, .null, .int 0, .int 0, .int 0, .int 0, .int 0, .int 0, .null, .null, .null, .int 0, .null, .int 0, .int 0, .int 0, .int 0, .long 0, .int 0, .int 0, .null, .null, .null, .null, .null, .null, .int 0, .int 0, .null]), zi 6, zi 14, zi 14, zi 14, zi 12, zi 12, zi 12, zi 12, zi 82, zi 7]) 7 C hlen (j := 10) rfl (by exact Nat.le_of_ble_eq_true rfl) (by decide) (by decide) (by exact Nat.le_of_ble_eq_true rfl) (by exact Nat.le_of_ble_eq_true rfl) (by exact Nat.le_of_ble_eq_true rfl) dX6_init_79 rfl (fun z => ?_)
  refine n_putF' (w2 := [.inr (6, [.ref (w0.length + 1), .int 0, .ref (w0.length + 2), .ref (w0.length + 3), .ref (w0.length + 4), .int 0, .ref (w0.length + 5), .ref (w0.length + 6), .ref (w0.length + 7), .ref (w0.length + 8), .ref (w0.length + 9), .int 0, .ref (w0.length + 10), .null, .int 0, .int 0, .int 0, .int 0, .int 0, .int 0, .null, .null, .null, .int 0, .null, .int 0, .int 0, .int 0, .int 0, .long 0, .int 0, .int 0, .null, .null, .null, .null, .null, .null, .int 0, .int 0, .null]), zi 6, zi 14, zi 14, zi 14, zi 12, zi 12, zi 12, zi 12, zi 82, zi 7]) (a := 0) C rfl fl_X6_37 fpf_X6_12 rfl (by exact Nat.le_of_ble_eq_true rfl) (fun _ => rfl) (fun _ => rfl) rfl dX6_init_81 ?_
  refine n_aload_n C dX6_init_84 rfl ?_
  refine n_bipush 36 C dX6_init_85 rfl ?_
  refine n_newi' (w2 := [.inr (6, [.ref (w0.length + 1), .int 0, .ref (w0.length + 2), .ref (w0.length + 3), .ref (w0.length + 4), .int 0, .ref (w0.length + 5), .ref (w0.length + 6), .ref (w0.length + 7), .ref (w0.length + 8), .ref (w0.length + 9), .int 0, .ref (w0.length + 10), .null, .int 0, .int 0, .int 0, .int 0, .int 0, .int 0, .null, .null, .null, .int 0, .null, .int 0, .int 0, .int 0, .int 0, .long 0, .int 0, .int 0, .null, .null, .null, .null, .null, .null, .int 0, .int 0, .null]), zi 6, zi 14, zi 14, zi 14, zi 12, zi 12, zi 12, zi 12, zi 82, zi 7, zi 36]) 36 C hlen (j := 11) rfl (by exact Nat.le_of_ble_eq_true rfl) (by decide) (by decide) (by exact Nat.le_of_ble_eq_true rfl) (by exact Nat.le_of_ble_eq_true rfl) (by exact Nat.le_of_ble_eq_true rfl) dX6_init_87 rfl (fun z => ?_)
  refine n_putF' (w2 := [.inr (6, [.ref (w0.length + 1), .int 0, .ref (w0.length + 2), .ref (w0.length + 3), .ref (w0.length + 4), .int 0, .ref (w0.length + 5), .ref (w0.length + 6), .ref (w0.length + 7), .ref (w0.length + 8), .ref (w0.length + 9), .int 0, .ref (w0.length + 10), .ref (w0.length + 11), .int 0, .int 0, .int 0, .int 0, .int 0, .int 0, .null, .null, .null, .int 0, .null, .int 0, .int 0, .int 0, .int 0, .long 0, .int 0, .int 0, .null, .null, .null, .null, .null, .null, .int 0, .int 0, .null]), zi 6, zi 14, zi 14, zi 14, zi 12, zi 12, zi 12, zi 12, zi 82, zi 7, zi 36]) (a := 0) C rfl fl_X6_40 fpf_X6_13 rfl (by exact Nat.le_of_ble_eq_true rfl) (fun _ => rfl) (fun _ => rfl) rfl dX6_init_89 ?_
  refine n_aload_n C dX6_init_92 rfl ?_
  refine n_bipush 8 C dX6_init_93 rfl ?_
  refine n_newi' (w2 := [.inr (6, [.ref (w0.length + 1), .int 0, .ref (w0.length + 2), .ref (w0.length + 3), .ref (w0.length + 4), .int 0, .ref (w0.length + 5), .ref (w0.length + 6), .ref (w0.length + 7), .ref (w0.length + 8), .ref (w0.length + 9), .int 0, .ref (w0.length + 10), .ref (w0.length + 11), .int 0, .int 0, .int 0, .int 0, .int 0, .int 0, .null, .null, .null, .int 0, .null, .int 0, .int 0, .int 0, .int 0, .long 0, .int 0, .int 0, .null, .null, .null, .null, .null, .null, .int 0, .int 0, .null]), zi 6, zi 14, zi 14, zi 14, zi 12, zi 12, zi 12, zi 12, zi 82, zi 7, zi 36, zi 8]) 8 C hlen (j := 12) rfl (by exact Nat.le_of_ble_eq_true rfl) (by decide) (by decide) (by exact Nat.le_of_ble_eq_true rfl) (by exact Nat.le_of_ble_eq_true rfl) (by exact Nat.le_of_ble_eq_true rfl) dX6_init_95 rfl (fun z => ?_)
  refine n_putF' (w2 := [.inr (6, [.ref (w0.length + 1), .int 0, .ref (w0.length + 2), .ref (w0.length + 3), .ref (w0.length + 4), .int 0, .ref (w0.length + 5), .ref (w0.length + 6), .ref (w0.length + 7), .ref (w0.length + 8), .ref (w0.length + 9), .int 0, .ref (w0.length + 10), .ref (w0.length + 11), .int 0, .int 0, .int 0, .int 0, .int 0, .int 0, .ref (w0.length + 12), .null, .null, .int 0, .null, .int 0, .int 0, .int 0, .int 0, .long 0, .int 0, .int 0, .null, .null, .null, .null, .null, .null, .int 0, .int 0, .null]), zi 6, zi 14, zi 14, zi 14, zi 12, zi 12, zi 12, zi 12, zi 82, zi 7, zi 36, zi 8]) (a := 0) C rfl fl_X6_43 fpf_X6_20 rfl (by exact Nat.le_of_ble_eq_true rfl) (fun _ => rfl) (fun _ => rfl) rfl dX6_init_97 ?_
  refine n_aload_n C dX6_init_100 rfl ?_
  refine n_bipush 8 C dX6_init_101 rfl ?_
  refine n_newi' (w2 := [.inr (6, [.ref (w0.length + 1), .int 0, .ref (w0.length + 2), .ref (w0.length + 3), .ref (w0.length + 4), .int 0, .ref (w0.length + 5), .ref (w0.length + 6), .ref (w0.length + 7), .ref (w0.length + 8), .ref (w0.length + 9), .int 0, .ref (w0.length + 10), .ref (w0.length + 11), .int 0, .int 0, .int 0, .int 0, .int 0, .int 0, .ref (w0.length + 12), .null, .null, .int 0, .null, .int 0, .int 0, .int 0, .int 0, .long 0, .int 0, .int 0, .null, .null, .null, .null, .null, .null, .int 0, .int 0, .null]), zi 6, zi 14, zi 14, zi 14, zi 12, zi 12, zi 12, zi 12, zi 82, zi 7, zi 36, zi 8, zi 8]) 8 C hlen (j := 13) rfl (by exact Nat.le_of_ble_eq_true rfl) (by decide) (by decide) (by exact Nat.le_of_ble_eq_true rfl) (by exact Nat.le_of_ble_eq_true rfl) (by exact Nat.le_of_ble_eq_true rfl) dX6_init_103 rfl (fun z => ?_)
  refine n_putF' (w2 := [.inr (6, [.ref (w0.length + 1), .int 0, .ref (w0.length + 2), .ref (w0.length + 3), .ref (w0.length + 4), .int 0, .ref (w0.length + 5), .ref (w0.length + 6), .ref (w0.length + 7), .ref (w0.length + 8), .ref (w0.length + 9), .int 0, .ref (w0.length + 10), .ref (w0.length + 11), .int 0, .int 0, .int 0, .int 0, .int 0, .int 0, .ref (w0.length + 12), .ref (w0.length + 13), .null, .int 0, .null, .int 0, .int 0, .int 0, .int 0, .long 0, .int 0, .int 0, .null, .null, .null, .null, .null, .null, .int 0, .int 0, .null]), zi 6, zi 14, zi 14, zi 14, zi 12, zi 12, zi 12, zi 12, zi 82, zi 7, zi 36, zi 8, zi 8]) (a := 0) C rfl fl_X6_46 fpf_X6_21 rfl (by exact Nat.le_of_ble_eq_true rfl) (fun _ => rfl) (fun _ => rfl) rfl dX6_init_105 ?_
  refine n_aload_n C dX6_init_108 rfl ?_
  refine n_sipush 256 C dX6_init_109 rfl ?_
  refine n_newz' (w2 := [.inr (6, [.ref (w0.length + 1), .int 0, .ref (w0.length + 2), .ref (w0.length + 3), .ref (w0.length + 4), .int 0, .ref (w0.length + 5), .ref (w0.length + 6), .ref (w0.length + 7), .ref (w0.length + 8), .ref (w0.length + 9), .int 0, .ref (w0.length + 10), .ref (w0.length + 11), .int 0, .int 0, .int 0, .int 0, .int 0, .int 0, .ref (w0.length + 12), .ref (w0.length + 13), .null, .int 0, .null, .int 0, .int 0, .int 0, .int 0, .long 0, .int 0, .int 0, .null, .null, .null, .null, .null, .null, .int 0, .int 0, .null]), zi 6, zi 14, zi 14, zi 14, zi 12, zi 12, zi 12, zi 12, zi 82, zi 7, zi 36, zi 8, zi 8, zz 256]) 256 C hlen (j := 14) rfl (by exact Nat.le_of_ble_eq_true rfl) (by decide) (by decide) (by exact Nat.le_of_ble_eq_true rfl) (by exact Nat.le_of_ble_eq_true rfl) (by exact Nat.le_of_ble_eq_true rfl) dX6_init_112 rfl (fun z => ?_)
  refine n_putF' (w2 := [.inr (6, [.ref (w0.length + 1), .int 0, .ref (w0.length + 2), .ref (w0.length + 3), .ref (w0.length + 4), .int 0, .ref (w0.length + 5), .ref (w0.length + 6), .ref (w0.length + 7), .ref (w0.length + 8), .ref (w0.length + 9), .int 0, .ref (w0.length + 10), .ref (w0.length + 11), .int 0, .int 0, .int 0, .int 0, .int 0, .int 0, .ref (w0.length + 12), .ref (w0.length + 13), .ref (w0.length + 14), .int 0, .null, .int 0, .int 0, .int 0, .int 0, .long 0, .int 0, .int 0, .null, .null, .null, .null, .null, .null, .int 0, .int 0, .null]), zi 6, zi 14, zi 14, zi 14, zi 12, zi 12, zi 12, zi 12, zi 82, zi 7, zi 36, zi 8, zi 8, zz 256]) (a := 0) C rfl fl_X6_49 fpf_X6_22 rfl (by exact Nat.le_of_ble_eq_true rfl) (fun _ => rfl) (fun _ => rfl) rfl dX6_init_114 ?_
  refine n_aload_n C dX6_init_117 rfl ?_
  refine n_bipush 120 C dX6_init_118 rfl ?_
  refine n_newi' (w2 := [.inr (6, [.ref (w0.length + 1), .int 0, .ref (w0.length + 2), .ref (w0.length + 3), .ref (w0.length + 4), .int 0, .ref (w0.length + 5), .ref (w0.length + 6), .ref (w0.length + 7), .ref (w0.length + 8), .ref (w0.length + 9), .int 0, .ref (w0.length + 10), .ref (w0.length + 11), .int 0, .int 0, .int 0, .int 0, .int 0, .int 0, .ref (w0.length + 12), .ref (w0.length + 13), .ref (w0.length + 14), .int 0, .null, .int 0, .int 0, .int 0, .int 0, .long 0, .int 0, .int 0, .null, .null, .null, .null, .null, .null, .int 0, .int 0, .null]), zi 6, zi 14, zi 14, zi 14, zi 12, zi 12, zi 12, zi 12, zi 82, zi 7, zi 36, zi 8, zi 8, zz 256, zi 120]) 120 C hlen (j := 15) rfl (by exact Nat.le_of_ble_eq_true rfl) (by decide) (by decide) (by exact Nat.le_of_ble_eq_true rfl) (by exact Nat.le_of_ble_eq_true rfl) (by exact Nat.le_of_ble_eq_true rfl) dX6_init_120 rfl (fun z => ?_)
  refine n_putF' (w2 := [.inr (6, [.ref (w0.length + 1), .int 0, .ref (w0.length + 2), .ref (w0.length + 3), .ref (w0.length + 4), .int 0, .ref (w0.length + 5), .ref (w0.length + 6), .ref (w0.length + 7), .ref (w0.length + 8), .ref (w0.length + 9), .int 0, .ref (w0.length + 10), .ref (w0.length + 11), .int 0, .int 0, .int 0, .int 0, .int 0, .int 0, .ref (w0.length + 12), .ref (w0.length + 13), .ref (w0.length + 14), .int 0, .ref (w0.length + 15), .int 0, .int 0, .int 0, .int 0, .long 0, .int 0, .int 0, .null, .null, .null, .null, .null, .null, .int 0, .int 0, .null]), zi 6, zi 14, zi 14, zi 14, zi 12, zi 12, zi 12, zi 12, zi 82, zi 7, zi 36, zi 8, zi 8, zz 256, zi 120]) (a := 0) C rfl fl_X6_53 fpf_X6_24 rfl (by exact Nat.le_of_ble_eq_true rfl) (fun _ => rfl) (fun _ => rfl) rfl dX6_init_122 ?_
  refine n_aload_n C dX6_init_125 rfl ?_
  refine n_iconst 4 C dX6_init_126 rfl ?_
  refine n_newi' (w2 := [.inr (6, [.ref (w0.length + 1), .int 0, .ref (w0.length + 2), .ref (w0.length + 3), .ref (w0.length + 4), .int 0, .ref (w0.length + 5), .ref (w0.length + 6), .ref (w0.length + 7), .ref (w0.length + 8), .ref (w0.length + 9), .int 0, .ref (w0.length + 10), .ref (w0.length + 11), .int 0, .int 0, .int 0, .int 0, .int 0, .int 0, .ref (w0.length + 12), .ref (w0.length + 13), .ref (w0.length + 14), .int 0, .ref (w0.length + 15), .int 0, .int 0, .int 0, .int 0, .long 0, .int 0, .int 0, .null, .null, .null, .null, .null, .null, .int 0, .int 0, .null]), zi 6, zi 14, zi 14, zi 14, zi 12, zi 12, zi 12, zi 12, zi 82, zi 7, zi 36, zi 8, zi 8, zz 256, zi 120, zi 4]) 4 C hlen (j := 16) rfl (by exact Nat.le_of_ble_eq_true rfl) (by decide) (by decide) (by exact Nat.le_of_ble_eq_true rfl) (by exact Nat.le_of_ble_eq_true rfl) (by exact Nat.le_of_ble_eq_true rfl) dX6_init_127 rfl (fun z => ?_)
  refine n_putF' (w2 := [.inr (6, [.ref (w0.length + 1), .int 0, .ref (w0.length + 2), .ref (w0.length + 3), .ref (w0.length + 4), .int 0, .ref (w0.length + 5), .ref (w0.length + 6), .ref (w0.length + 7), .ref (w0.length + 8), .ref (w0.length + 9), .int 0, .ref (w0.length + 10), .ref (w0.length + 11), .int 0, .int 0, .int 0, .int 0, .int 0, .int 0, .ref (w0.length + 12), .ref (w0.length + 13), .ref (w0.length + 14), .int 0, .ref (w0.length + 15), .int 0, .int 0, .int 0, .int 0, .long 0, .int 0, .int 0, .ref (w0.length + 16), .null, .null, .null, .null, .null, .int 0, .int 0, .null]), zi 6, zi 14, zi 14, zi 14, zi 12, zi 12, zi 12, zi 12, zi 82, zi 7, zi 36, zi 8, zi 8, zz 256, zi 120, zi 4]) (a := 0) C rfl fl_X6_56 fpf_X6_32 rfl (by exact Nat.le_of_ble_eq_true rfl) (fun _ => rfl) (fun _ => rfl) rfl dX6_init_129 ?_
  refine n_aload_n C dX6_init_132 rfl ?_
  refine n_iconst 4 C dX6_init_133 rfl ?_
  refine n_newi' (w2 := [.inr (6, [.ref (w0.length + 1), .int 0, .ref (w0.length + 2), .ref (w0.length + 3), .ref (w0.length + 4), .int 0, .ref (w0.length + 5), .ref (w0.length + 6), .ref (w0.length + 7), .ref (w0.length + 8), .ref (w0.length + 9), .int 0, .ref (w0.length + 10), .ref (w0.length + 11), .int 0, .int 0, .int 0, .int 0, .int 0, .int 0, .ref (w0.length + 12), .ref (w0.length + 13), .ref (w0.length + 14), .int 0, .ref (w0.length + 15), .int 0, .int 0, .int 0, .int 0, .long 0, .int 0, .int 0, .ref (w0.length + 16), .null, .null, .null, .null, .null, .int 0, .int 0, .null]), zi 6, zi 14, zi 14, zi 14, zi 12, zi 12, zi 12, zi 12, zi 82, zi 7, zi 36, zi 8, zi 8, zz 256, zi 120, zi 4, zi 4]) 4 C hlen (j := 17) rfl (by exact Nat.le_of_ble_eq_true rfl) (by decide) (by decide) (by exact Nat.le_of_ble_eq_true rfl) (by exact Nat.le_of_ble_eq_true rfl) (by exact Nat.le_of_ble_eq_true rfl) dX6_init_134 rfl (fun z => ?_)
  refine n_putF' (w2 := [.inr (6, [.ref (w0.length + 1), .int 0, .ref (w0.length + 2), .ref (w0.length + 3), .ref (w0.length + 4), .int 0, .ref (w0.length + 5), .ref (w0.length + 6), .ref (w0.length + 7), .ref (w0.length + 8), .ref (w0.length + 9), .int 0, .ref (w0.length + 10), .ref (w0.length + 11), .int 0, .int 0, .int 0, .int 0, .int 0, .int 0, .ref (w0.length + 12), .ref (w0.length + 13), .ref (w0.length + 14), .int 0, .ref (w0.length + 15), .int 0, .int 0, .int 0, .int 0, .long 0, .int 0, .int 0, .ref (w0.length + 16), .ref (w0.length + 17), .null, .null, .null, .null, .int 0, .int 0, .null]), zi 6, zi 14, zi 14, zi 14, zi 12, zi 12, zi 12, zi 12, zi 82, zi 7, zi 36, zi 8, zi 8, zz 256, zi 120, zi 4, zi 4]) (a := 0) C rfl fl_X6_59 fpf_X6_33 rfl (by exact Nat.le_of_ble_eq_true rfl) (fun _ => rfl) (fun _ => rfl) rfl dX6_init_136 ?_
  refine n_aload_n C dX6_init_139 rfl ?_
  refine n_sipush 160 C dX6_init_140 rfl ?_
  refine n_newl' (w2 := [.inr (6, [.ref (w0.length + 1), .int 0, .ref (w0.length + 2), .ref (w0.length + 3), .ref (w0.length + 4), .int 0, .ref (w0.length + 5), .ref (w0.length + 6), .ref (w0.length + 7), .ref (w0.length + 8), .ref (w0.length + 9), .int 0, .ref (w0.length + 10), .ref (w0.length + 11), .int 0, .int 0, .int 0, .int 0, .int 0, .int 0, .ref (w0.length + 12), .ref (w0.length + 13), .ref (w0.length + 14), .int 0, .ref (w0.length + 15), .int 0, .int 0, .int 0, .int 0, .long 0, .int 0, .int 0, .ref (w0.length + 16), .ref (w0.length + 17), .null, .null, .null, .null, .int 0, .int 0, .null]), zi 6, zi 14, zi 14, zi 14, zi 12, zi 12, zi 12, zi 12, zi 82, zi 7, zi 36, zi 8, zi 8, zz 256, zi 120, zi 4, zi 4, zl 160]) 160 C hlen (j := 18) rfl (by exact Nat.le_of_ble_eq_true rfl) (by decide) (by decide) (by exact Nat.le_of_ble_eq_true rfl) (by exact Nat.le_of_ble_eq_true rfl) (by exact Nat.le_of_ble_eq_true rfl) dX6_init_143 rfl (fun z => ?_)
  refine n_putF' (w2 := [.inr (6, [.ref (w0.length + 1), .int 0, .ref (w0.length + 2), .ref (w0.length + 3), .ref (w0.length + 4), .int 0, .ref (w0.length + 5), .ref (w0.length + 6), .ref (w0.length + 7), .ref (w0.length + 8), .ref (w0.length + 9), .int 0, .ref (w0.length + 10), .ref (w0.length + 11), .int 0, .int 0, .int 0, .int 0, .int 0, .int 0, .ref (w0.length + 12), .ref (w0.length + 13), .ref (w0.length + 14), .int 0, .ref (w0.length + 15), .int 0, .int 0, .int 0, .int 0, .long 0, .int 0, .int 0, .ref (w0.length + 16), .ref (w0.length + 17), .ref (w0.length + 18), .null, .null, .null, .int 0, .int 0, .null]), zi 6, zi 14, zi 14, zi 14, zi 12, zi 12, zi 12, zi 12, zi 82, zi 7, zi 36, zi 8, zi 8, zz 256, zi 120, zi 4, zi 4, zl 160]) (a := 0) C rfl fl_X6_62 fpf_X6_34 rfl (by exact Nat.le_of_ble_eq_true rfl) (fun _ => rfl) (fun _ => rfl) rfl dX6_init_145 ?_
  refine n_aload_n C dX6_init_148 rfl ?_
  refine n_bipush 40 C dX6_init_149 rfl ?_
  refine n_newl' (w2 := [.inr (6, [.ref (w0.length + 1), .int 0, .ref (w0.length + 2), .ref (w0.length + 3), .ref (w0.length + 4), .int 0, .ref (w0.length + 5), .ref (w0.length + 6), .ref (w0.length + 7), .ref (w0.length + 8), .ref (w0.length + 9), .int 0, .ref (w0.length + 10), .ref (w0.length + 11), .int 0, .int 0, .int 0, .int 0, .int 0, .int 0, .ref (w0.length + 12), .ref (w0.length + 13), .ref (w0.length + 14), .int 0, .ref (w0.length + 15), .int 0, .int 0, .int 0, .int 0, .long 0, .int 0, .int 0, .ref (w0.length + 16), .ref (w0.length + 17), .ref (w0.length + 18), .null, .null, .null, .int 0, .int 0, .null]), zi 6, zi 14, zi 14, zi 14, zi 12, zi 12, zi 12, zi 12, zi 82, zi 7, zi 36, zi 8, zi 8, zz 256, zi 120, zi 4, zi 4, zl 160, zl 40]) 40 C hlen (j := 19) rfl (by exact Nat.le_of_ble_eq_true rfl) (by decide) (by decide) (by exact Nat.le_of_ble_eq_true rfl) (by exact Nat.le_of_ble_eq_true rfl) (by exact Nat.le_of_ble_eq_true rfl) dX6_init_151 rfl (fun z => ?_)
  refine n_putF' (w2 := [.inr (6, [.ref (w0.length + 1), .int 0, .ref (w0.length + 2), .ref (w0.length + 3), .ref (w0.length + 4), .int 0, .ref (w0.length + 5), .ref (w0.length + 6), .ref (w0.length + 7), .ref (w0.length + 8), .ref (w0.length + 9), .int 0, .ref (w0.length + 10), .ref (w0.length + 11), .int 0, .int 0, .int 0, .int 0, .int 0, .int 0, .ref (w0.length + 12), .ref (w0.length + 13), .ref (w0.length + 14), .int 0, .ref (w0.length + 15), .int 0, .int 0, .int 0, .int 0, .long 0, .int 0, .int 0, .ref (w0.length + 16), .ref (w0.length + 17), .ref (w0.length + 18), .ref (w0.length + 19), .null, .null, .int 0, .int 0, .null]), zi 6, zi 14, zi 14, zi 14, zi 12, zi 12, zi 12, zi 12, zi 82, zi 7, zi 36, zi 8, zi 8, zz 256, zi 120, zi 4, zi 4, zl 160, zl 40]) (a := 0) C rfl fl_X6_66 fpf_X6_35 rfl (by exact Nat.le_of_ble_eq_true rfl) (fun _ => rfl) (fun _ => rfl) rfl dX6_init_153 ?_
  refine n_aload_n C dX6_init_156 rfl ?_
  refine n_sipush 150 C dX6_init_157 rfl ?_
  refine n_newi' (w2 := [.inr (6, [.ref (w0.length + 1), .int 0, .ref (w0.length + 2), .ref (w0.length + 3), .ref (w0.length + 4), .int 0, .ref (w0.length + 5), .ref (w0.length + 6), .ref (w0.length + 7), .ref (w0.length + 8), .ref (w0.length + 9), .int 0, .ref (w0.length + 10), .ref (w0.length + 11), .int 0, .int 0, .int 0, .int 0, .int 0, .int 0, .ref (w0.length + 12), .ref (w0.length + 13), .ref (w0.length + 14), .int 0, .ref (w0.length + 15), .int 0, .int 0, .int 0, .int 0, .long 0, .int 0, .int 0, .ref (w0.length + 16), .ref (w0.length + 17), .ref (w0.length + 18), .ref (w0.length + 19), .null, .null, .int 0, .int 0, .null]), zi 6, zi 14, zi 14, zi 14, zi 12, zi 12, zi 12, zi 12, zi 82, zi 7, zi 36, zi 8, zi 8, zz 256, zi 120, zi 4, zi 4, zl 160, zl 40, zi 150]) 150 C hlen (j := 20) rfl (by exact Nat.le_of_ble_eq_true rfl) (by decide) (by decide) (by exact Nat.le_of_ble_eq_true rfl) (by exact Nat.le_of_ble_eq_true rfl) (by exact Nat.le_of_ble_eq_true rfl) dX6_init_160 rfl (fun z => ?_)
  refine n_putF' (w2 := [.inr (6, [.ref (w0.length + 1), .int 0, .ref (w0.length + 2), .ref (w0.length + 3), .ref (w0.length + 4), .int 0, .ref (w0.length + 5), .ref (w0.length + 6), .ref (w0.length + 7), .ref (w0.length + 8), .ref (w0.length + 9), .int 0, .ref (w0.length + 10), .ref (w0.length + 11), .int 0, .int 0, .int 0, .int 0, .int 0, .int 0, .ref (w0.length + 12), .ref (w0.length + 13), .ref (w0.length + 14), .int 0, .ref (w0.length + 15), .int 0, .int 0, .int 0, .int 0, .long 0, .int 0, .int 0, .ref (w0.length + 16), .ref (w0.length + 17), .ref (w0.length + 18), .ref (w0.length + 19), .ref (w0.length + 20), .null, .int 0, .int 0, .null]), zi 6, zi 14, zi 14, zi 14, zi 12, zi 12, zi 12, zi 12, zi 82, zi 7, zi 36, zi 8, zi 8, zz 256, zi 120, zi 4, zi 4, zl 160, zl 40, zi 150]) (a := 0) C rfl fl_X6_69 fpf_X6_36 rfl (by exact Nat.le_of_ble_eq_true rfl) (fun _ => rfl) (fun _ => rfl) rfl dX6_init_162 ?_
  refine n_aload_n C dX6_init_165 rfl ?_
  refine n_sipush 150 C dX6_init_166 rfl ?_
  refine n_newi' (w2 := [.inr (6, [.ref (w0.length + 1), .int 0, .ref (w0.length + 2), .ref (w0.length + 3), .ref (w0.length + 4), .int 0, .ref (w0.length + 5), .ref (w0.length + 6), .ref (w0.length + 7), .ref (w0.length + 8), .ref (w0.length + 9), .int 0, .ref (w0.length + 10), .ref (w0.length + 11), .int 0, .int 0, .int 0, .int 0, .int 0, .int 0, .ref (w0.length + 12), .ref (w0.length + 13), .ref (w0.length + 14), .int 0, .ref (w0.length + 15), .int 0, .int 0, .int 0, .int 0, .long 0, .int 0, .int 0, .ref (w0.length + 16), .ref (w0.length + 17), .ref (w0.length + 18), .ref (w0.length + 19), .ref (w0.length + 20), .null, .int 0, .int 0, .null]), zi 6, zi 14, zi 14, zi 14, zi 12, zi 12, zi 12, zi 12, zi 82, zi 7, zi 36, zi 8, zi 8, zz 256, zi 120, zi 4, zi 4, zl 160, zl 40, zi 150, zi 150]) 150 C hlen (j := 21) rfl (by exact Nat.le_of_ble_eq_true rfl) (by decide) (by decide) (by exact Nat.le_of_ble_eq_true rfl) (by exact Nat.le_of_ble_eq_true rfl) (by exact Nat.le_of_ble_eq_true rfl) dX6_init_169 rfl (fun z => ?_)
  refine n_putF' (w2 := [.inr (6, [.ref (w0.length + 1), .int 0, .ref (w0.length + 2), .ref (w0.length + 3), .ref (w0.length + 4), .int 0, .ref (w0.length + 5), .ref (w0.length + 6), .ref (w0.length + 7), .ref (w0.length + 8), .ref (w0.length + 9), .int 0, .ref (w0.length + 10), .ref (w0.length + 11), .int 0, .int 0, .int 0, .int 0, .int 0, .int 0, .ref (w0.length + 12), .ref (w0.length + 13), .ref (w0.length + 14), .int 0, .ref (w0.length + 15), .int 0, .int 0, .int 0, .int 0, .long 0, .int 0, .int 0, .ref (w0.length + 16), .ref (w0.length + 17), .ref (w0.length + 18), .ref (w0.length + 19), .ref (w0.length + 20), .ref (w0.length + 21), .int 0, .int 0, .null]), zi 6, zi 14, zi 14, zi 14, zi 12, zi 12, zi 12, zi 12, zi 82, zi 7, zi 36, zi 8, zi 8, zz 256, zi 120, zi 4, zi 4, zl 160, zl 40, zi 150, zi 150]) (a := 0) C rfl fl_X6_72 fpf_X6_37 rfl (by exact Nat.le_of_ble_eq_true rfl) (fun _ => rfl) (fun _ => rfl) rfl dX6_init_171 ?_
  refine n_aload_n C dX6_init_174 rfl ?_
  refine n_iconst 2 C dX6_init_175 rfl ?_
  refine n_newi' (w2 := [.inr (6, [.ref (w0.length + 1), .int 0, .ref (w0.length + 2), .ref (w0.length + 3), .ref (w0.length + 4), .int 0, .ref (w0.length + 5), .ref (w0.length + 6), .ref (w0.length + 7), .ref (w0.length + 8), .ref (w0.length + 9), .int 0, .ref (w0.length + 10), .ref (w0.length + 11), .int 0, .int 0, .int 0, .int 0, .int 0, .int 0, .ref (w0.length + 12), .ref (w0.length + 13), .ref (w0.length + 14), .int 0, .ref (w0.length + 15), .int 0, .int 0, .int 0, .int 0, .long 0, .int 0, .int 0, .ref (w0.length + 16), .ref (w0.length + 17), .ref (w0.length + 18), .ref (w0.length + 19), .ref (w0.length + 20), .ref (w0.length + 21), .int 0, .int 0, .null]), zi 6, zi 14, zi 14, zi 14, zi 12, zi 12, zi 12, zi 12, zi 82, zi 7, zi 36, zi 8, zi 8, zz 256, zi 120, zi 4, zi 4, zl 160, zl 40, zi 150, zi 150, zi 2]) 2 C hlen (j := 22) rfl (by exact Nat.le_of_ble_eq_true rfl) (by decide) (by decide) (by exact Nat.le_of_ble_eq_true rfl) (by exact Nat.le_of_ble_eq_true rfl) (by exact Nat.le_of_ble_eq_true rfl) dX6_init_176 rfl (fun z => ?_)
  refine n_putF' (w2 := [.inr (6, [.ref (w0.length + 1), .int 0, .ref (w0.length + 2), .ref (w0.length + 3), .ref (w0.length + 4), .int 0, .ref (w0.length + 5), .ref (w0.length + 6), .ref (w0.length + 7), .ref (w0.length + 8), .ref (w0.length + 9), .int 0, .ref (w0.length + 10), .ref (w0.length + 11), .int 0, .int 0, .int 0, .int 0, .int 0, .int 0, .ref (w0.length + 12), .ref (w0.length + 13), .ref (w0.length + 14), .int 0, .ref (w0.length + 15), .int 0, .int 0, .int 0, .int 0, .long 0, .int 0, .int 0, .ref (w0.length + 16), .ref (w0.length + 17), .ref (w0.length + 18), .ref (w0.length + 19), .ref (w0.length + 20), .ref (w0.length + 21), .int 0, .int 0, .ref (w0.length + 22)]), zi 6, zi 14, zi 14, zi 14, zi 12, zi 12, zi 12, zi 12, zi 82, zi 7, zi 36, zi 8, zi 8, zz 256, zi 120, zi 4, zi 4, zl 160, zl 40, zi 150, zi 150, zi 2]) (a := 0) C rfl fl_X6_75 fpf_X6_40 rfl (by exact Nat.le_of_ble_eq_true rfl) (fun _ => rfl) (fun _ => rfl) rfl dX6_init_178 ?_
  exact n_ret C (n_Fin (by rfl) hF) dX6_init_181 (by exact Nat.le_of_ble_eq_true rfl) (by exact Nat.le_of_ble_eq_true rfl)
set_option maxRecDepth 100000 in
set_option maxHeartbeats 4000000 in
theorem c_X0_init {G : Cf} (w0 : Wd) (hlen : w0.length ≤ 550) (hok : ∀ e ∈ w0 ++ [blX0], okE (w0 ++ [blX0]).length e) : DoesN G M_X0_init [.ref w0.length] (w0 ++ [blX0]) (w0 ++ plc w0.length) := by
  refine DoesN.of (L0 := [some (.ref (w0.length + 0))]) 0 rfl rfl rfl rfl (Nat.le_of_ble_eq_true rfl) rfl (by simp; omega) (fun v hv => by rcases List.mem_singleton.mp hv with rfl; exact Or.inl (by simp)) hok ?_
  intro p l e s m args below meth c Qf C hF
  have hlen : w0.length ≤ 600 := by omega
  refine n_aload_n C dX0_init_0 rfl ?_
  refine n_obj C oi_X0 dX0_init_1 (by exact Nat.le_of_ble_eq_true rfl) (by exact Nat.le_of_ble_eq_true rfl) ?_
  refine n_aload_n C dX0_init_4 rfl ?_
  refine n_new' (w2 := ([.inr (0, [.null, .int 0, .int 0, .int 0])]) ++ [blX1]) (ci := 1) (Cn := RX1) (T := TX1) (N := 15) (ty := tyX1) (fs := [.null, .null, .null, .null, .null, .null, .null, .null, .null, .null, .int 0, .int 0, .int 0, .int 0, .int 0]) C hlen (j := 1) rfl (by exact Nat.le_of_ble_eq_true rfl) rfl inX1 tyX1_ok cl_X0_9 is_X1 in_X1 (by decide) (by simp) (by exact Nat.le_of_ble_eq_true rfl) (by exact Nat.le_of_ble_eq_true rfl) dX0_init_5 rfl (fun z => ?_)
  refine n_dup C dX0_init_8 rfl ?_
  refine n_callN' (st := [.ref (w0.length + 1), .ref (w0.length + 0)]) (cells := 1) (slots := 15) (w1 := [.inr (0, [.null, .int 0, .int 0, .int 0])]) (w2 := [.inr (0, [.null, .int 0, .int 0, .int 0])] ++ (rc (w0.length + 1))) (r := rc) (jj := 11) (bl := blX1) C V_X1_init (by simp [NLs, mO, mY, M_X0_init, M_X1_init]) ⟨Nat.le_of_ble_eq_true rfl, Nat.le_of_ble_eq_true rfl⟩ (fun z hok0 => c_X1_init _ (by rw [len_app (j := 1) rfl]; omega) hok0) hlen (j := 1) rfl (fun _ => rfl) (by exact Nat.le_of_ble_eq_true rfl) (by exact Nat.le_of_ble_eq_true rfl) (by exact Nat.le_of_ble_eq_true rfl) (by exact Nat.le_of_ble_eq_true rfl) (by exact Nat.le_of_ble_eq_true rfl) dX0_init_9 rfl (fun z => ?_)
  refine n_putF' (w2 := [.inr (0, [.ref (w0.length + 1), .int 0, .int 0, .int 0])] ++ (rc (w0.length + 1))) (a := 0) C rfl fl_X0_12 fpf_X0_0 rfl (by exact Nat.le_of_ble_eq_true rfl) (fun _ => rfl) (fun _ => rfl) rfl dX0_init_12 ?_
  exact n_ret C (n_Fin (by rfl) hF) dX0_init_15 (by exact Nat.le_of_ble_eq_true rfl) (by exact Nat.le_of_ble_eq_true rfl)
set_option maxRecDepth 100000 in
set_option maxHeartbeats 4000000 in
theorem c_X2_init {G : Cf} (w0 : Wd) (hlen : w0.length ≤ 550) (hok : ∀ e ∈ w0 ++ [blX2], okE (w0 ++ [blX2]).length e) : DoesN G M_X2_init [.ref w0.length] (w0 ++ [blX2]) (w0 ++ roc w0.length) := by
  refine DoesN.of (L0 := [some (.ref (w0.length + 0))]) 0 rfl rfl rfl rfl (Nat.le_of_ble_eq_true rfl) rfl (by simp; omega) (fun v hv => by rcases List.mem_singleton.mp hv with rfl; exact Or.inl (by simp)) hok ?_
  intro p l e s m args below meth c Qf C hF
  have hlen : w0.length ≤ 600 := by omega
  refine n_aload_n C dX2_init_0 rfl ?_
  refine n_obj C oi_X2 dX2_init_1 (by exact Nat.le_of_ble_eq_true rfl) (by exact Nat.le_of_ble_eq_true rfl) ?_
  refine n_aload_n C dX2_init_4 rfl ?_
  refine n_new' (w2 := ([.inr (2, [.null, .null, .null, .null, .null, .int 0])]) ++ [blX1]) (ci := 1) (Cn := RX1) (T := TX1) (N := 15) (ty := tyX1) (fs := [.null, .null, .null, .null, .null, .null, .null, .null, .null, .null, .int 0, .int 0, .int 0, .int 0, .int 0]) C hlen (j := 1) rfl (by exact Nat.le_of_ble_eq_true rfl) rfl inX1 tyX1_ok cl_X2_9 is_X1 in_X1 (by decide) (by simp) (by exact Nat.le_of_ble_eq_true rfl) (by exact Nat.le_of_ble_eq_true rfl) dX2_init_5 rfl (fun z => ?_)
  refine n_dup C dX2_init_8 rfl ?_
  refine n_callN' (st := [.ref (w0.length + 1), .ref (w0.length + 0)]) (cells := 1) (slots := 15) (w1 := [.inr (2, [.null, .null, .null, .null, .null, .int 0])]) (w2 := [.inr (2, [.null, .null, .null, .null, .null, .int 0])] ++ (rc (w0.length + 1))) (r := rc) (jj := 11) (bl := blX1) C V_X1_init (by simp [NLs, mO, mY, M_X2_init, M_X1_init]) ⟨Nat.le_of_ble_eq_true rfl, Nat.le_of_ble_eq_true rfl⟩ (fun z hok0 => c_X1_init _ (by rw [len_app (j := 1) rfl]; omega) hok0) hlen (j := 1) rfl (fun _ => rfl) (by exact Nat.le_of_ble_eq_true rfl) (by exact Nat.le_of_ble_eq_true rfl) (by exact Nat.le_of_ble_eq_true rfl) (by exact Nat.le_of_ble_eq_true rfl) (by exact Nat.le_of_ble_eq_true rfl) dX2_init_9 rfl (fun z => ?_)
  refine n_putF' (w2 := [.inr (2, [.ref (w0.length + 1), .null, .null, .null, .null, .int 0])] ++ (rc (w0.length + 1))) (a := 0) C rfl fl_X2_12 fpf_X2_0 rfl (by exact Nat.le_of_ble_eq_true rfl) (fun _ => rfl) (fun _ => rfl) rfl dX2_init_12 ?_
  refine n_aload_n C dX2_init_15 rfl ?_
  refine n_bipush 14 C dX2_init_16 rfl ?_
  refine n_newi' (w2 := [.inr (2, [.ref (w0.length + 1), .null, .null, .null, .null, .int 0])] ++ (rc (w0.length + 1) ++ ([zi 14]))) 14 C hlen (j := 12) rfl (by exact Nat.le_of_ble_eq_true rfl) (by decide) (by decide) (by exact Nat.le_of_ble_eq_true rfl) (by exact Nat.le_of_ble_eq_true rfl) (by exact Nat.le_of_ble_eq_true rfl) dX2_init_18 rfl (fun z => ?_)
  refine n_putF' (w2 := [.inr (2, [.ref (w0.length + 1), .ref (w0.length + 12), .null, .null, .null, .int 0])] ++ (rc (w0.length + 1) ++ ([zi 14]))) (a := 0) C rfl fl_X2_18 fpf_X2_1 rfl (by exact Nat.le_of_ble_eq_true rfl) (fun _ => rfl) (fun _ => rfl) rfl dX2_init_20 ?_
  refine n_aload_n C dX2_init_23 rfl ?_
  refine n_bipush 14 C dX2_init_24 rfl ?_
  refine n_newi' (w2 := [.inr (2, [.ref (w0.length + 1), .ref (w0.length + 12), .null, .null, .null, .int 0])] ++ (rc (w0.length + 1) ++ ([zi 14, zi 14]))) 14 C hlen (j := 13) rfl (by exact Nat.le_of_ble_eq_true rfl) (by decide) (by decide) (by exact Nat.le_of_ble_eq_true rfl) (by exact Nat.le_of_ble_eq_true rfl) (by exact Nat.le_of_ble_eq_true rfl) dX2_init_26 rfl (fun z => ?_)
  refine n_putF' (w2 := [.inr (2, [.ref (w0.length + 1), .ref (w0.length + 12), .ref (w0.length + 13), .null, .null, .int 0])] ++ (rc (w0.length + 1) ++ ([zi 14, zi 14]))) (a := 0) C rfl fl_X2_22 fpf_X2_2 rfl (by exact Nat.le_of_ble_eq_true rfl) (fun _ => rfl) (fun _ => rfl) rfl dX2_init_28 ?_
  refine n_aload_n C dX2_init_31 rfl ?_
  refine n_sipush 256 C dX2_init_32 rfl ?_
  refine n_newz' (w2 := [.inr (2, [.ref (w0.length + 1), .ref (w0.length + 12), .ref (w0.length + 13), .null, .null, .int 0])] ++ (rc (w0.length + 1) ++ ([zi 14, zi 14, zz 256]))) 256 C hlen (j := 14) rfl (by exact Nat.le_of_ble_eq_true rfl) (by decide) (by decide) (by exact Nat.le_of_ble_eq_true rfl) (by exact Nat.le_of_ble_eq_true rfl) (by exact Nat.le_of_ble_eq_true rfl) dX2_init_35 rfl (fun z => ?_)
  refine n_putF' (w2 := [.inr (2, [.ref (w0.length + 1), .ref (w0.length + 12), .ref (w0.length + 13), .ref (w0.length + 14), .null, .int 0])] ++ (rc (w0.length + 1) ++ ([zi 14, zi 14, zz 256]))) (a := 0) C rfl fl_X2_25 fpf_X2_3 rfl (by exact Nat.le_of_ble_eq_true rfl) (fun _ => rfl) (fun _ => rfl) rfl dX2_init_37 ?_
  refine n_aload_n C dX2_init_40 rfl ?_
  refine n_bipush 8 C dX2_init_41 rfl ?_
  refine n_newi' (w2 := [.inr (2, [.ref (w0.length + 1), .ref (w0.length + 12), .ref (w0.length + 13), .ref (w0.length + 14), .null, .int 0])] ++ (rc (w0.length + 1) ++ ([zi 14, zi 14, zz 256, zi 8]))) 8 C hlen (j := 15) rfl (by exact Nat.le_of_ble_eq_true rfl) (by decide) (by decide) (by exact Nat.le_of_ble_eq_true rfl) (by exact Nat.le_of_ble_eq_true rfl) (by exact Nat.le_of_ble_eq_true rfl) dX2_init_43 rfl (fun z => ?_)
  refine n_putF' (w2 := [.inr (2, [.ref (w0.length + 1), .ref (w0.length + 12), .ref (w0.length + 13), .ref (w0.length + 14), .ref (w0.length + 15), .int 0])] ++ (rc (w0.length + 1) ++ ([zi 14, zi 14, zz 256, zi 8]))) (a := 0) C rfl fl_X2_29 fpf_X2_4 rfl (by exact Nat.le_of_ble_eq_true rfl) (fun _ => rfl) (fun _ => rfl) rfl dX2_init_45 ?_
  exact n_ret C (n_Fin (by rfl) hF) dX2_init_48 (by exact Nat.le_of_ble_eq_true rfl) (by exact Nat.le_of_ble_eq_true rfl)
def hkc (n : Nat) : Wd := [.inr (5, [.ref (n + 1), .ref (n + 12), .ref (n + 23), .ref (n + 34), .ref (n + 46), .ref (n + 62), .ref (n + 64), .ref (n + 65), .int 0])] ++ (rc (n + 1) ++ (rc (n + 12) ++ (rc (n + 23) ++ (plc (n + 34) ++ (roc (n + 46) ++ (tpc (n + 62) ++ ([.inl (3, 4, .inr (.inr (.inr (.inr shs)))), zi 7] ++ (shc (n + 66) ++ (shc (n + 68) ++ (shc (n + 70) ++ shc (n + 72)))))))))))
set_option maxRecDepth 100000 in
set_option maxHeartbeats 4000000 in
theorem c_X5_init {G : Cf} : DoesN G M_X5_init [.ref 0] [blX5] (hkc 0) := by
  refine DoesN.of (L0 := [some (.ref 0), none]) 1 rfl rfl rfl rfl (Nat.le_of_ble_eq_true rfl) rfl (Nat.le_of_ble_eq_true rfl) (fun v hv => by rcases List.mem_singleton.mp hv with rfl; exact Or.inl (Nat.le_of_ble_eq_true rfl)) (ok_app (w0 := []) (fun e h => nomatch h) blX5_ok) ?_
  intro p l e s m args below meth c Qf C hF
  have hlen : ([] : Wd).length ≤ 600 := Nat.zero_le _
  refine n_aload_n C dX5_init_0 rfl ?_
  refine n_obj C oi_X5 dX5_init_1 (by exact Nat.le_of_ble_eq_true rfl) (by exact Nat.le_of_ble_eq_true rfl) ?_
  refine n_aload_n C dX5_init_4 rfl ?_
  refine n_new' (w0 := []) (w2 := ([.inr (5, [.null, .null, .null, .null, .null, .null, .null, .null, .int 0])]) ++ [blX1]) (ci := 1) (Cn := RX1) (T := TX1) (N := 15) (ty := tyX1) (fs := [.null, .null, .null, .null, .null, .null, .null, .null, .null, .null, .int 0, .int 0, .int 0, .int 0, .int 0]) C hlen (j := 1) rfl (by exact Nat.le_of_ble_eq_true rfl) rfl inX1 tyX1_ok cl_X5_7 is_X1 in_X1 (by decide) (by simp) (by exact Nat.le_of_ble_eq_true rfl) (by exact Nat.le_of_ble_eq_true rfl) dX5_init_5 rfl (fun z => ?_)
  refine n_dup C dX5_init_8 rfl ?_
  refine n_callN' (w0 := []) (st := [.ref (0 + 1), .ref (0 + 0)]) (cells := 1) (slots := 15) (w1 := [.inr (5, [.null, .null, .null, .null, .null, .null, .null, .null, .int 0])]) (w2 := [.inr (5, [.null, .null, .null, .null, .null, .null, .null, .null, .int 0])] ++ (rc (0 + 1))) (r := rc) (jj := 11) (bl := blX1) C V_X1_init (by simp [NLs, mO, mY, M_X5_init, M_X1_init]) ⟨Nat.le_of_ble_eq_true rfl, Nat.le_of_ble_eq_true rfl⟩ (fun z hok0 => c_X1_init _ (Nat.le_of_ble_eq_true rfl) hok0) hlen (j := 1) rfl (fun _ => rfl) (by exact Nat.le_of_ble_eq_true rfl) (by exact Nat.le_of_ble_eq_true rfl) (by exact Nat.le_of_ble_eq_true rfl) (by exact Nat.le_of_ble_eq_true rfl) (by exact Nat.le_of_ble_eq_true rfl) dX5_init_9 rfl (fun z => ?_)
  refine n_putF' (w0 := []) (w2 := [.inr (5, [.ref (0 + 1), .null, .null, .null, .null, .null, .null, .null, .int 0])] ++ (rc (0 + 1))) (a := 0) C rfl fl_X5_10 fpf_X5_0 rfl (by exact Nat.le_of_ble_eq_true rfl) (fun _ => rfl) (fun _ => rfl) rfl dX5_init_12 ?_
  refine n_aload_n C dX5_init_15 rfl ?_
  refine n_new' (w0 := []) (w2 := ([.inr (5, [.ref (0 + 1), .null, .null, .null, .null, .null, .null, .null, .int 0])] ++ (rc (0 + 1))) ++ [blX1]) (ci := 1) (Cn := RX1) (T := TX1) (N := 15) (ty := tyX1) (fs := [.null, .null, .null, .null, .null, .null, .null, .null, .null, .null, .int 0, .int 0, .int 0, .int 0, .int 0]) C hlen (j := 12) rfl (by exact Nat.le_of_ble_eq_true rfl) rfl inX1 tyX1_ok cl_X5_7 is_X1 in_X1 (by decide) (by simp) (by exact Nat.le_of_ble_eq_true rfl) (by exact Nat.le_of_ble_eq_true rfl) dX5_init_16 rfl (fun z => ?_)
  refine n_dup C dX5_init_19 rfl ?_
  refine n_callN' (w0 := []) (st := [.ref (0 + 12), .ref (0 + 0)]) (cells := 12) (slots := 146) (w1 := [.inr (5, [.ref (0 + 1), .null, .null, .null, .null, .null, .null, .null, .int 0])] ++ (rc (0 + 1))) (w2 := [.inr (5, [.ref (0 + 1), .null, .null, .null, .null, .null, .null, .null, .int 0])] ++ (rc (0 + 1) ++ (rc (0 + 12)))) (r := rc) (jj := 11) (bl := blX1) C V_X1_init (by simp [NLs, mO, mY, M_X5_init, M_X1_init]) ⟨Nat.le_of_ble_eq_true rfl, Nat.le_of_ble_eq_true rfl⟩ (fun z hok0 => c_X1_init _ (Nat.le_of_ble_eq_true rfl) hok0) hlen (j := 12) rfl (fun _ => rfl) (by exact Nat.le_of_ble_eq_true rfl) (by exact Nat.le_of_ble_eq_true rfl) (by exact Nat.le_of_ble_eq_true rfl) (by exact Nat.le_of_ble_eq_true rfl) (by exact Nat.le_of_ble_eq_true rfl) dX5_init_20 rfl (fun z => ?_)
  refine n_putF' (w0 := []) (w2 := [.inr (5, [.ref (0 + 1), .ref (0 + 12), .null, .null, .null, .null, .null, .null, .int 0])] ++ (rc (0 + 1) ++ (rc (0 + 12)))) (a := 0) C rfl fl_X5_16 fpf_X5_1 rfl (by exact Nat.le_of_ble_eq_true rfl) (fun _ => rfl) (fun _ => rfl) rfl dX5_init_23 ?_
  refine n_aload_n C dX5_init_26 rfl ?_
  refine n_new' (w0 := []) (w2 := ([.inr (5, [.ref (0 + 1), .ref (0 + 12), .null, .null, .null, .null, .null, .null, .int 0])] ++ (rc (0 + 1) ++ (rc (0 + 12)))) ++ [blX1]) (ci := 1) (Cn := RX1) (T := TX1) (N := 15) (ty := tyX1) (fs := [.null, .null, .null, .null, .null, .null, .null, .null, .null, .null, .int 0, .int 0, .int 0, .int 0, .int 0]) C hlen (j := 23) rfl (by exact Nat.le_of_ble_eq_true rfl) rfl inX1 tyX1_ok cl_X5_7 is_X1 in_X1 (by decide) (by simp) (by exact Nat.le_of_ble_eq_true rfl) (by exact Nat.le_of_ble_eq_true rfl) dX5_init_27 rfl (fun z => ?_)
  refine n_dup C dX5_init_30 rfl ?_
  refine n_callN' (w0 := []) (st := [.ref (0 + 23), .ref (0 + 0)]) (cells := 23) (slots := 277) (w1 := [.inr (5, [.ref (0 + 1), .ref (0 + 12), .null, .null, .null, .null, .null, .null, .int 0])] ++ (rc (0 + 1) ++ (rc (0 + 12)))) (w2 := [.inr (5, [.ref (0 + 1), .ref (0 + 12), .null, .null, .null, .null, .null, .null, .int 0])] ++ (rc (0 + 1) ++ (rc (0 + 12) ++ (rc (0 + 23))))) (r := rc) (jj := 11) (bl := blX1) C V_X1_init (by simp [NLs, mO, mY, M_X5_init, M_X1_init]) ⟨Nat.le_of_ble_eq_true rfl, Nat.le_of_ble_eq_true rfl⟩ (fun z hok0 => c_X1_init _ (Nat.le_of_ble_eq_true rfl) hok0) hlen (j := 23) rfl (fun _ => rfl) (by exact Nat.le_of_ble_eq_true rfl) (by exact Nat.le_of_ble_eq_true rfl) (by exact Nat.le_of_ble_eq_true rfl) (by exact Nat.le_of_ble_eq_true rfl) (by exact Nat.le_of_ble_eq_true rfl) dX5_init_31 rfl (fun z => ?_)
  refine n_putF' (w0 := []) (w2 := [.inr (5, [.ref (0 + 1), .ref (0 + 12), .ref (0 + 23), .null, .null, .null, .null, .null, .int 0])] ++ (rc (0 + 1) ++ (rc (0 + 12) ++ (rc (0 + 23))))) (a := 0) C rfl fl_X5_19 fpf_X5_2 rfl (by exact Nat.le_of_ble_eq_true rfl) (fun _ => rfl) (fun _ => rfl) rfl dX5_init_34 ?_
  refine n_aload_n C dX5_init_37 rfl ?_
  refine n_new' (w0 := []) (w2 := ([.inr (5, [.ref (0 + 1), .ref (0 + 12), .ref (0 + 23), .null, .null, .null, .null, .null, .int 0])] ++ (rc (0 + 1) ++ (rc (0 + 12) ++ (rc (0 + 23))))) ++ [blX0]) (ci := 0) (Cn := RX0) (T := TX0) (N := 4) (ty := tyX0) (fs := [.null, .int 0, .int 0, .int 0]) C hlen (j := 34) rfl (by exact Nat.le_of_ble_eq_true rfl) rfl inX0 tyX0_ok cl_X5_22 is_X0 in_X0 (by decide) (by simp) (by exact Nat.le_of_ble_eq_true rfl) (by exact Nat.le_of_ble_eq_true rfl) dX5_init_38 rfl (fun z => ?_)
  refine n_dup C dX5_init_41 rfl ?_
  refine n_callN' (w0 := []) (st := [.ref (0 + 34), .ref (0 + 0)]) (cells := 34) (slots := 397) (w1 := [.inr (5, [.ref (0 + 1), .ref (0 + 12), .ref (0 + 23), .null, .null, .null, .null, .null, .int 0])] ++ (rc (0 + 1) ++ (rc (0 + 12) ++ (rc (0 + 23))))) (w2 := [.inr (5, [.ref (0 + 1), .ref (0 + 12), .ref (0 + 23), .null, .null, .null, .null, .null, .int 0])] ++ (rc (0 + 1) ++ (rc (0 + 12) ++ (rc (0 + 23) ++ (plc (0 + 34)))))) (r := plc) (jj := 12) (bl := blX0) C V_X0_init (by simp [NLs, mO, mY, M_X5_init, M_X0_init]) ⟨Nat.le_of_ble_eq_true rfl, Nat.le_of_ble_eq_true rfl⟩ (fun z hok0 => c_X0_init _ (Nat.le_of_ble_eq_true rfl) hok0) hlen (j := 34) rfl (fun _ => rfl) (by exact Nat.le_of_ble_eq_true rfl) (by exact Nat.le_of_ble_eq_true rfl) (by exact Nat.le_of_ble_eq_true rfl) (by exact Nat.le_of_ble_eq_true rfl) (by exact Nat.le_of_ble_eq_true rfl) dX5_init_42 rfl (fun z => ?_)
  refine n_putF' (w0 := []) (w2 := [.inr (5, [.ref (0 + 1), .ref (0 + 12), .ref (0 + 23), .ref (0 + 34), .null, .null, .null, .null, .int 0])] ++ (rc (0 + 1) ++ (rc (0 + 12) ++ (rc (0 + 23) ++ (plc (0 + 34)))))) (a := 0) C rfl fl_X5_25 fpf_X5_3 rfl (by exact Nat.le_of_ble_eq_true rfl) (fun _ => rfl) (fun _ => rfl) rfl dX5_init_45 ?_
  refine n_aload_n C dX5_init_48 rfl ?_
  refine n_new' (w0 := []) (w2 := ([.inr (5, [.ref (0 + 1), .ref (0 + 12), .ref (0 + 23), .ref (0 + 34), .null, .null, .null, .null, .int 0])] ++ (rc (0 + 1) ++ (rc (0 + 12) ++ (rc (0 + 23) ++ (plc (0 + 34)))))) ++ [blX2]) (ci := 2) (Cn := RX2) (T := TX2) (N := 6) (ty := tyX2) (fs := [.null, .null, .null, .null, .null, .int 0]) C hlen (j := 46) rfl (by exact Nat.le_of_ble_eq_true rfl) rfl inX2 tyX2_ok cl_X5_29 is_X2 in_X2 (by decide) (by simp) (by exact Nat.le_of_ble_eq_true rfl) (by exact Nat.le_of_ble_eq_true rfl) dX5_init_49 rfl (fun z => ?_)
  refine n_dup C dX5_init_52 rfl ?_
  refine n_callN' (w0 := []) (st := [.ref (0 + 46), .ref (0 + 0)]) (cells := 46) (slots := 534) (w1 := [.inr (5, [.ref (0 + 1), .ref (0 + 12), .ref (0 + 23), .ref (0 + 34), .null, .null, .null, .null, .int 0])] ++ (rc (0 + 1) ++ (rc (0 + 12) ++ (rc (0 + 23) ++ (plc (0 + 34)))))) (w2 := [.inr (5, [.ref (0 + 1), .ref (0 + 12), .ref (0 + 23), .ref (0 + 34), .null, .null, .null, .null, .int 0])] ++ (rc (0 + 1) ++ (rc (0 + 12) ++ (rc (0 + 23) ++ (plc (0 + 34) ++ (roc (0 + 46))))))) (r := roc) (jj := 16) (bl := blX2) C V_X2_init (by simp [NLs, mO, mY, M_X5_init, M_X2_init]) ⟨Nat.le_of_ble_eq_true rfl, Nat.le_of_ble_eq_true rfl⟩ (fun z hok0 => c_X2_init _ (Nat.le_of_ble_eq_true rfl) hok0) hlen (j := 46) rfl (fun _ => rfl) (by exact Nat.le_of_ble_eq_true rfl) (by exact Nat.le_of_ble_eq_true rfl) (by exact Nat.le_of_ble_eq_true rfl) (by exact Nat.le_of_ble_eq_true rfl) (by exact Nat.le_of_ble_eq_true rfl) dX5_init_53 rfl (fun z => ?_)
  refine n_putF' (w0 := []) (w2 := [.inr (5, [.ref (0 + 1), .ref (0 + 12), .ref (0 + 23), .ref (0 + 34), .ref (0 + 46), .null, .null, .null, .int 0])] ++ (rc (0 + 1) ++ (rc (0 + 12) ++ (rc (0 + 23) ++ (plc (0 + 34) ++ (roc (0 + 46))))))) (a := 0) C rfl fl_X5_32 fpf_X5_4 rfl (by exact Nat.le_of_ble_eq_true rfl) (fun _ => rfl) (fun _ => rfl) rfl dX5_init_56 ?_
  refine n_aload_n C dX5_init_59 rfl ?_
  refine n_new' (w0 := []) (w2 := ([.inr (5, [.ref (0 + 1), .ref (0 + 12), .ref (0 + 23), .ref (0 + 34), .ref (0 + 46), .null, .null, .null, .int 0])] ++ (rc (0 + 1) ++ (rc (0 + 12) ++ (rc (0 + 23) ++ (plc (0 + 34) ++ (roc (0 + 46))))))) ++ [blX4]) (ci := 4) (Cn := RX4) (T := TX4) (N := 6) (ty := tyX4) (fs := [.null, .int 0, .int 0, .int 0, .int 0, .int 0]) C hlen (j := 62) rfl (by exact Nat.le_of_ble_eq_true rfl) rfl inX4 tyX4_ok cl_X5_36 is_X4 in_X4 (by decide) (by simp) (by exact Nat.le_of_ble_eq_true rfl) (by exact Nat.le_of_ble_eq_true rfl) dX5_init_60 rfl (fun z => ?_)
  refine n_dup C dX5_init_63 rfl ?_
  refine n_callN' (w0 := []) (st := [.ref (0 + 62), .ref (0 + 0)]) (cells := 62) (slots := 963) (w1 := [.inr (5, [.ref (0 + 1), .ref (0 + 12), .ref (0 + 23), .ref (0 + 34), .ref (0 + 46), .null, .null, .null, .int 0])] ++ (rc (0 + 1) ++ (rc (0 + 12) ++ (rc (0 + 23) ++ (plc (0 + 34) ++ (roc (0 + 46))))))) (w2 := [.inr (5, [.ref (0 + 1), .ref (0 + 12), .ref (0 + 23), .ref (0 + 34), .ref (0 + 46), .null, .null, .null, .int 0])] ++ (rc (0 + 1) ++ (rc (0 + 12) ++ (rc (0 + 23) ++ (plc (0 + 34) ++ (roc (0 + 46) ++ (tpc (0 + 62)))))))) (r := tpc) (jj := 2) (bl := blX4) C V_X4_init (by simp [NLs, mO, mY, M_X5_init, M_X4_init]) ⟨Nat.le_of_ble_eq_true rfl, Nat.le_of_ble_eq_true rfl⟩ (fun z hok0 => c_X4_init _ (Nat.le_of_ble_eq_true rfl) hok0) hlen (j := 62) rfl (fun _ => rfl) (by exact Nat.le_of_ble_eq_true rfl) (by exact Nat.le_of_ble_eq_true rfl) (by exact Nat.le_of_ble_eq_true rfl) (by exact Nat.le_of_ble_eq_true rfl) (by exact Nat.le_of_ble_eq_true rfl) dX5_init_64 rfl (fun z => ?_)
  refine n_putF' (w0 := []) (w2 := [.inr (5, [.ref (0 + 1), .ref (0 + 12), .ref (0 + 23), .ref (0 + 34), .ref (0 + 46), .ref (0 + 62), .null, .null, .int 0])] ++ (rc (0 + 1) ++ (rc (0 + 12) ++ (rc (0 + 23) ++ (plc (0 + 34) ++ (roc (0 + 46) ++ (tpc (0 + 62)))))))) (a := 0) C rfl fl_X5_39 fpf_X5_5 rfl (by exact Nat.le_of_ble_eq_true rfl) (fun _ => rfl) (fun _ => rfl) rfl dX5_init_67 ?_
  refine n_aload_n C dX5_init_70 rfl ?_
  refine n_iconst 4 C dX5_init_71 rfl ?_
  refine n_newq' (w0 := []) (w2 := [.inr (5, [.ref (0 + 1), .ref (0 + 12), .ref (0 + 23), .ref (0 + 34), .ref (0 + 46), .ref (0 + 62), .null, .null, .int 0])] ++ (rc (0 + 1) ++ (rc (0 + 12) ++ (rc (0 + 23) ++ (plc (0 + 34) ++ (roc (0 + 46) ++ (tpc (0 + 62) ++ ([zq 4])))))))) 4 C hlen (j := 64) rfl (by exact Nat.le_of_ble_eq_true rfl) cl_X5_43 (by decide) (by decide) (by exact Nat.le_of_ble_eq_true rfl) (by exact Nat.le_of_ble_eq_true rfl) (by exact Nat.le_of_ble_eq_true rfl) dX5_init_72 rfl (fun z => ?_)
  refine n_putF' (w0 := []) (w2 := [.inr (5, [.ref (0 + 1), .ref (0 + 12), .ref (0 + 23), .ref (0 + 34), .ref (0 + 46), .ref (0 + 62), .ref (0 + 64), .null, .int 0])] ++ (rc (0 + 1) ++ (rc (0 + 12) ++ (rc (0 + 23) ++ (plc (0 + 34) ++ (roc (0 + 46) ++ (tpc (0 + 62) ++ ([zq 4])))))))) (a := 0) C rfl fl_X5_45 fpf_X5_6 rfl (by exact Nat.le_of_ble_eq_true rfl) (fun _ => rfl) (fun _ => rfl) rfl dX5_init_75 ?_
  refine n_aload_n C dX5_init_78 rfl ?_
  refine n_bipush 7 C dX5_init_79 rfl ?_
  refine n_newi' (w0 := []) (w2 := [.inr (5, [.ref (0 + 1), .ref (0 + 12), .ref (0 + 23), .ref (0 + 34), .ref (0 + 46), .ref (0 + 62), .ref (0 + 64), .null, .int 0])] ++ (rc (0 + 1) ++ (rc (0 + 12) ++ (rc (0 + 23) ++ (plc (0 + 34) ++ (roc (0 + 46) ++ (tpc (0 + 62) ++ ([zq 4, zi 7])))))))) 7 C hlen (j := 65) rfl (by exact Nat.le_of_ble_eq_true rfl) (by decide) (by decide) (by exact Nat.le_of_ble_eq_true rfl) (by exact Nat.le_of_ble_eq_true rfl) (by exact Nat.le_of_ble_eq_true rfl) dX5_init_81 rfl (fun z => ?_)
  refine n_putF' (w0 := []) (w2 := [.inr (5, [.ref (0 + 1), .ref (0 + 12), .ref (0 + 23), .ref (0 + 34), .ref (0 + 46), .ref (0 + 62), .ref (0 + 64), .ref (0 + 65), .int 0])] ++ (rc (0 + 1) ++ (rc (0 + 12) ++ (rc (0 + 23) ++ (plc (0 + 34) ++ (roc (0 + 46) ++ (tpc (0 + 62) ++ ([zq 4, zi 7])))))))) (a := 0) C rfl fl_X5_49 fpf_X5_7 rfl (by exact Nat.le_of_ble_eq_true rfl) (fun _ => rfl) (fun _ => rfl) rfl dX5_init_83 ?_
  refine n_iconst 0 C dX5_init_86 rfl ?_
  refine n_istore_n (L2 := [some (.ref 0), some (.int 0)]) C dX5_init_87 (Nat.le_of_ble_eq_true rfl) rfl ?_
  refine n_iload_n (x := 0) C dX5_init_88 rfl ?_
  refine n_iconst 4 C dX5_init_89 rfl ?_
  refine n_geF 112 C dX5_init_90 rfl (by decide) ?_
  refine n_aload_n (x := 0) C dX5_init_93 rfl ?_
  refine n_get C fl_X5_45 rfl rfl dX5_init_94 ?_
  refine n_iload_n (x := 0) C dX5_init_97 rfl ?_
  refine n_new' (w0 := []) (w2 := ([.inr (5, [.ref (0 + 1), .ref (0 + 12), .ref (0 + 23), .ref (0 + 34), .ref (0 + 46), .ref (0 + 62), .ref (0 + 64), .ref (0 + 65), .int 0])] ++ (rc (0 + 1) ++ (rc (0 + 12) ++ (rc (0 + 23) ++ (plc (0 + 34) ++ (roc (0 + 46) ++ (tpc (0 + 62) ++ ([zq 4, zi 7])))))))) ++ [blX3]) (ci := 3) (Cn := RX3) (T := TX3) (N := 3) (ty := tyX3) (fs := [.null, .int 0, .int 0]) C hlen (j := 66) rfl (by exact Nat.le_of_ble_eq_true rfl) rfl inX3 tyX3_ok cl_X5_43 is_X3 in_X3 (by decide) (by simp) (by exact Nat.le_of_ble_eq_true rfl) (by exact Nat.le_of_ble_eq_true rfl) dX5_init_98 rfl (fun z => ?_)
  refine n_dup C dX5_init_101 rfl ?_
  refine n_callN' (st := [.ref 66, .int 0, .ref 64]) (cells := 66) (slots := 1097) (w0 := []) (w1 := [.inr (5, [.ref (0 + 1), .ref (0 + 12), .ref (0 + 23), .ref (0 + 34), .ref (0 + 46), .ref (0 + 62), .ref (0 + 64), .ref (0 + 65), .int 0])] ++ (rc (0 + 1) ++ (rc (0 + 12) ++ (rc (0 + 23) ++ (plc (0 + 34) ++ (roc (0 + 46) ++ (tpc (0 + 62) ++ ([zq 4, zi 7])))))))) (w2 := [.inr (5, [.ref (0 + 1), .ref (0 + 12), .ref (0 + 23), .ref (0 + 34), .ref (0 + 46), .ref (0 + 62), .ref (0 + 64), .ref (0 + 65), .int 0])] ++ (rc (0 + 1) ++ (rc (0 + 12) ++ (rc (0 + 23) ++ (plc (0 + 34) ++ (roc (0 + 46) ++ (tpc (0 + 62) ++ ([zq 4, zi 7] ++ (shc (0 + 66)))))))))) (r := shc) (jj := 2) (bl := blX3) C V_X3_init (by simp [NLs, mO, mY, M_X5_init, M_X3_init]) ⟨Nat.le_of_ble_eq_true rfl, Nat.le_of_ble_eq_true rfl⟩ (fun z hok0 => c_X3_init _ (Nat.le_of_ble_eq_true rfl) hok0) hlen (j := 66) rfl (fun _ => rfl) (by exact Nat.le_of_ble_eq_true rfl) (by exact Nat.le_of_ble_eq_true rfl) (by exact Nat.le_of_ble_eq_true rfl) (by exact Nat.le_of_ble_eq_true rfl) (by exact Nat.le_of_ble_eq_true rfl) dX5_init_102 rfl (fun z => ?_)
  refine n_aast (a := 64) (b := 66) (k0 := 0) (f2 := shm 1) (w2 := [.inr (5, [.ref (0 + 1), .ref (0 + 12), .ref (0 + 23), .ref (0 + 34), .ref (0 + 46), .ref (0 + 62), .ref (0 + 64), .ref (0 + 65), .int 0])] ++ (rc (0 + 1) ++ (rc (0 + 12) ++ (rc (0 + 23) ++ (plc (0 + 34) ++ (roc (0 + 46) ++ (tpc (0 + 62) ++ ([.inl (3, 4, .inr (.inr (.inr (.inr (shm 1))))), zi 7] ++ (shc (0 + 66)))))))))) C rfl rfl ⟨by unfold vp_in; decide, rfl⟩ shm_0 rfl dX5_init_105 ?_
  refine n_iinc (v := 1) (L2 := [some (.ref 0), some (.int 1)]) C dX5_init_106 rfl rfl (Nat.le_of_ble_eq_true rfl) rfl ?_
  refine n_goto 88 C dX5_init_109 rfl ?_
  refine n_iload_n (x := 1) C dX5_init_88 rfl ?_
  refine n_iconst 4 C dX5_init_89 rfl ?_
  refine n_geF 112 C dX5_init_90 rfl (by decide) ?_
  refine n_aload_n (x := 0) C dX5_init_93 rfl ?_
  refine n_get C fl_X5_45 rfl rfl dX5_init_94 ?_
  refine n_iload_n (x := 1) C dX5_init_97 rfl ?_
  refine n_new' (w0 := []) (w2 := ([.inr (5, [.ref (0 + 1), .ref (0 + 12), .ref (0 + 23), .ref (0 + 34), .ref (0 + 46), .ref (0 + 62), .ref (0 + 64), .ref (0 + 65), .int 0])] ++ (rc (0 + 1) ++ (rc (0 + 12) ++ (rc (0 + 23) ++ (plc (0 + 34) ++ (roc (0 + 46) ++ (tpc (0 + 62) ++ ([.inl (3, 4, .inr (.inr (.inr (.inr (shm 1))))), zi 7] ++ (shc (0 + 66)))))))))) ++ [blX3]) (ci := 3) (Cn := RX3) (T := TX3) (N := 3) (ty := tyX3) (fs := [.null, .int 0, .int 0]) C hlen (j := 68) rfl (by exact Nat.le_of_ble_eq_true rfl) rfl inX3 tyX3_ok cl_X5_43 is_X3 in_X3 (by decide) (by simp) (by exact Nat.le_of_ble_eq_true rfl) (by exact Nat.le_of_ble_eq_true rfl) dX5_init_98 rfl (fun z => ?_)
  refine n_dup C dX5_init_101 rfl ?_
  refine n_callN' (st := [.ref 68, .int 1, .ref 64]) (cells := 68) (slots := 1140) (w0 := []) (w1 := [.inr (5, [.ref (0 + 1), .ref (0 + 12), .ref (0 + 23), .ref (0 + 34), .ref (0 + 46), .ref (0 + 62), .ref (0 + 64), .ref (0 + 65), .int 0])] ++ (rc (0 + 1) ++ (rc (0 + 12) ++ (rc (0 + 23) ++ (plc (0 + 34) ++ (roc (0 + 46) ++ (tpc (0 + 62) ++ ([.inl (3, 4, .inr (.inr (.inr (.inr (shm 1))))), zi 7] ++ (shc (0 + 66)))))))))) (w2 := [.inr (5, [.ref (0 + 1), .ref (0 + 12), .ref (0 + 23), .ref (0 + 34), .ref (0 + 46), .ref (0 + 62), .ref (0 + 64), .ref (0 + 65), .int 0])] ++ (rc (0 + 1) ++ (rc (0 + 12) ++ (rc (0 + 23) ++ (plc (0 + 34) ++ (roc (0 + 46) ++ (tpc (0 + 62) ++ ([.inl (3, 4, .inr (.inr (.inr (.inr (shm 1))))), zi 7] ++ (shc (0 + 66) ++ (shc (0 + 68))))))))))) (r := shc) (jj := 2) (bl := blX3) C V_X3_init (by simp [NLs, mO, mY, M_X5_init, M_X3_init]) ⟨Nat.le_of_ble_eq_true rfl, Nat.le_of_ble_eq_true rfl⟩ (fun z hok0 => c_X3_init _ (Nat.le_of_ble_eq_true rfl) hok0) hlen (j := 68) rfl (fun _ => rfl) (by exact Nat.le_of_ble_eq_true rfl) (by exact Nat.le_of_ble_eq_true rfl) (by exact Nat.le_of_ble_eq_true rfl) (by exact Nat.le_of_ble_eq_true rfl) (by exact Nat.le_of_ble_eq_true rfl) dX5_init_102 rfl (fun z => ?_)
  refine n_aast (a := 64) (b := 68) (k0 := 1) (f2 := shm 2) (w2 := [.inr (5, [.ref (0 + 1), .ref (0 + 12), .ref (0 + 23), .ref (0 + 34), .ref (0 + 46), .ref (0 + 62), .ref (0 + 64), .ref (0 + 65), .int 0])] ++ (rc (0 + 1) ++ (rc (0 + 12) ++ (rc (0 + 23) ++ (plc (0 + 34) ++ (roc (0 + 46) ++ (tpc (0 + 62) ++ ([.inl (3, 4, .inr (.inr (.inr (.inr (shm 2))))), zi 7] ++ (shc (0 + 66) ++ (shc (0 + 68))))))))))) C rfl rfl ⟨by unfold vp_in; decide, rfl⟩ (shm_up rfl) rfl dX5_init_105 ?_
  refine n_iinc (v := 2) (L2 := [some (.ref 0), some (.int 2)]) C dX5_init_106 rfl rfl (Nat.le_of_ble_eq_true rfl) rfl ?_
  refine n_goto 88 C dX5_init_109 rfl ?_
  refine n_iload_n (x := 2) C dX5_init_88 rfl ?_
  refine n_iconst 4 C dX5_init_89 rfl ?_
  refine n_geF 112 C dX5_init_90 rfl (by decide) ?_
  refine n_aload_n (x := 0) C dX5_init_93 rfl ?_
  refine n_get C fl_X5_45 rfl rfl dX5_init_94 ?_
  refine n_iload_n (x := 2) C dX5_init_97 rfl ?_
  refine n_new' (w0 := []) (w2 := ([.inr (5, [.ref (0 + 1), .ref (0 + 12), .ref (0 + 23), .ref (0 + 34), .ref (0 + 46), .ref (0 + 62), .ref (0 + 64), .ref (0 + 65), .int 0])] ++ (rc (0 + 1) ++ (rc (0 + 12) ++ (rc (0 + 23) ++ (plc (0 + 34) ++ (roc (0 + 46) ++ (tpc (0 + 62) ++ ([.inl (3, 4, .inr (.inr (.inr (.inr (shm 2))))), zi 7] ++ (shc (0 + 66) ++ (shc (0 + 68))))))))))) ++ [blX3]) (ci := 3) (Cn := RX3) (T := TX3) (N := 3) (ty := tyX3) (fs := [.null, .int 0, .int 0]) C hlen (j := 70) rfl (by exact Nat.le_of_ble_eq_true rfl) rfl inX3 tyX3_ok cl_X5_43 is_X3 in_X3 (by decide) (by simp) (by exact Nat.le_of_ble_eq_true rfl) (by exact Nat.le_of_ble_eq_true rfl) dX5_init_98 rfl (fun z => ?_)
  refine n_dup C dX5_init_101 rfl ?_
  refine n_callN' (st := [.ref 70, .int 2, .ref 64]) (cells := 70) (slots := 1183) (w0 := []) (w1 := [.inr (5, [.ref (0 + 1), .ref (0 + 12), .ref (0 + 23), .ref (0 + 34), .ref (0 + 46), .ref (0 + 62), .ref (0 + 64), .ref (0 + 65), .int 0])] ++ (rc (0 + 1) ++ (rc (0 + 12) ++ (rc (0 + 23) ++ (plc (0 + 34) ++ (roc (0 + 46) ++ (tpc (0 + 62) ++ ([.inl (3, 4, .inr (.inr (.inr (.inr (shm 2))))), zi 7] ++ (shc (0 + 66) ++ (shc (0 + 68))))))))))) (w2 := [.inr (5, [.ref (0 + 1), .ref (0 + 12), .ref (0 + 23), .ref (0 + 34), .ref (0 + 46), .ref (0 + 62), .ref (0 + 64), .ref (0 + 65), .int 0])] ++ (rc (0 + 1) ++ (rc (0 + 12) ++ (rc (0 + 23) ++ (plc (0 + 34) ++ (roc (0 + 46) ++ (tpc (0 + 62) ++ ([.inl (3, 4, .inr (.inr (.inr (.inr (shm 2))))), zi 7] ++ (shc (0 + 66) ++ (shc (0 + 68) ++ (shc (0 + 70)))))))))))) (r := shc) (jj := 2) (bl := blX3) C V_X3_init (by simp [NLs, mO, mY, M_X5_init, M_X3_init]) ⟨Nat.le_of_ble_eq_true rfl, Nat.le_of_ble_eq_true rfl⟩ (fun z hok0 => c_X3_init _ (Nat.le_of_ble_eq_true rfl) hok0) hlen (j := 70) rfl (fun _ => rfl) (by exact Nat.le_of_ble_eq_true rfl) (by exact Nat.le_of_ble_eq_true rfl) (by exact Nat.le_of_ble_eq_true rfl) (by exact Nat.le_of_ble_eq_true rfl) (by exact Nat.le_of_ble_eq_true rfl) dX5_init_102 rfl (fun z => ?_)
  refine n_aast (a := 64) (b := 70) (k0 := 2) (f2 := shm 3) (w2 := [.inr (5, [.ref (0 + 1), .ref (0 + 12), .ref (0 + 23), .ref (0 + 34), .ref (0 + 46), .ref (0 + 62), .ref (0 + 64), .ref (0 + 65), .int 0])] ++ (rc (0 + 1) ++ (rc (0 + 12) ++ (rc (0 + 23) ++ (plc (0 + 34) ++ (roc (0 + 46) ++ (tpc (0 + 62) ++ ([.inl (3, 4, .inr (.inr (.inr (.inr (shm 3))))), zi 7] ++ (shc (0 + 66) ++ (shc (0 + 68) ++ (shc (0 + 70)))))))))))) C rfl rfl ⟨by unfold vp_in; decide, rfl⟩ (shm_up rfl) rfl dX5_init_105 ?_
  refine n_iinc (v := 3) (L2 := [some (.ref 0), some (.int 3)]) C dX5_init_106 rfl rfl (Nat.le_of_ble_eq_true rfl) rfl ?_
  refine n_goto 88 C dX5_init_109 rfl ?_
  refine n_iload_n (x := 3) C dX5_init_88 rfl ?_
  refine n_iconst 4 C dX5_init_89 rfl ?_
  refine n_geF 112 C dX5_init_90 rfl (by decide) ?_
  refine n_aload_n (x := 0) C dX5_init_93 rfl ?_
  refine n_get C fl_X5_45 rfl rfl dX5_init_94 ?_
  refine n_iload_n (x := 3) C dX5_init_97 rfl ?_
  refine n_new' (w0 := []) (w2 := ([.inr (5, [.ref (0 + 1), .ref (0 + 12), .ref (0 + 23), .ref (0 + 34), .ref (0 + 46), .ref (0 + 62), .ref (0 + 64), .ref (0 + 65), .int 0])] ++ (rc (0 + 1) ++ (rc (0 + 12) ++ (rc (0 + 23) ++ (plc (0 + 34) ++ (roc (0 + 46) ++ (tpc (0 + 62) ++ ([.inl (3, 4, .inr (.inr (.inr (.inr (shm 3))))), zi 7] ++ (shc (0 + 66) ++ (shc (0 + 68) ++ (shc (0 + 70)))))))))))) ++ [blX3]) (ci := 3) (Cn := RX3) (T := TX3) (N := 3) (ty := tyX3) (fs := [.null, .int 0, .int 0]) C hlen (j := 72) rfl (by exact Nat.le_of_ble_eq_true rfl) rfl inX3 tyX3_ok cl_X5_43 is_X3 in_X3 (by decide) (by simp) (by exact Nat.le_of_ble_eq_true rfl) (by exact Nat.le_of_ble_eq_true rfl) dX5_init_98 rfl (fun z => ?_)
  refine n_dup C dX5_init_101 rfl ?_
  refine n_callN' (st := [.ref 72, .int 3, .ref 64]) (cells := 72) (slots := 1226) (w0 := []) (w1 := [.inr (5, [.ref (0 + 1), .ref (0 + 12), .ref (0 + 23), .ref (0 + 34), .ref (0 + 46), .ref (0 + 62), .ref (0 + 64), .ref (0 + 65), .int 0])] ++ (rc (0 + 1) ++ (rc (0 + 12) ++ (rc (0 + 23) ++ (plc (0 + 34) ++ (roc (0 + 46) ++ (tpc (0 + 62) ++ ([.inl (3, 4, .inr (.inr (.inr (.inr (shm 3))))), zi 7] ++ (shc (0 + 66) ++ (shc (0 + 68) ++ (shc (0 + 70)))))))))))) (w2 := [.inr (5, [.ref (0 + 1), .ref (0 + 12), .ref (0 + 23), .ref (0 + 34), .ref (0 + 46), .ref (0 + 62), .ref (0 + 64), .ref (0 + 65), .int 0])] ++ (rc (0 + 1) ++ (rc (0 + 12) ++ (rc (0 + 23) ++ (plc (0 + 34) ++ (roc (0 + 46) ++ (tpc (0 + 62) ++ ([.inl (3, 4, .inr (.inr (.inr (.inr (shm 3))))), zi 7] ++ (shc (0 + 66) ++ (shc (0 + 68) ++ (shc (0 + 70) ++ (shc (0 + 72))))))))))))) (r := shc) (jj := 2) (bl := blX3) C V_X3_init (by simp [NLs, mO, mY, M_X5_init, M_X3_init]) ⟨Nat.le_of_ble_eq_true rfl, Nat.le_of_ble_eq_true rfl⟩ (fun z hok0 => c_X3_init _ (Nat.le_of_ble_eq_true rfl) hok0) hlen (j := 72) rfl (fun _ => rfl) (by exact Nat.le_of_ble_eq_true rfl) (by exact Nat.le_of_ble_eq_true rfl) (by exact Nat.le_of_ble_eq_true rfl) (by exact Nat.le_of_ble_eq_true rfl) (by exact Nat.le_of_ble_eq_true rfl) dX5_init_102 rfl (fun z => ?_)
  refine n_aast (a := 64) (b := 72) (k0 := 3) (f2 := shm 4) (w2 := [.inr (5, [.ref (0 + 1), .ref (0 + 12), .ref (0 + 23), .ref (0 + 34), .ref (0 + 46), .ref (0 + 62), .ref (0 + 64), .ref (0 + 65), .int 0])] ++ (rc (0 + 1) ++ (rc (0 + 12) ++ (rc (0 + 23) ++ (plc (0 + 34) ++ (roc (0 + 46) ++ (tpc (0 + 62) ++ ([.inl (3, 4, .inr (.inr (.inr (.inr (shm 4))))), zi 7] ++ (shc (0 + 66) ++ (shc (0 + 68) ++ (shc (0 + 70) ++ (shc (0 + 72))))))))))))) C rfl rfl ⟨by unfold vp_in; decide, rfl⟩ (shm_up rfl) rfl dX5_init_105 ?_
  refine n_iinc (v := 4) (L2 := [some (.ref 0), some (.int 4)]) C dX5_init_106 rfl rfl (Nat.le_of_ble_eq_true rfl) rfl ?_
  refine n_goto 88 C dX5_init_109 rfl ?_
  refine n_iload_n (x := 4) C dX5_init_88 rfl ?_
  refine n_iconst 4 C dX5_init_89 rfl ?_
  refine n_geT 112 C dX5_init_90 rfl (by decide) ?_
  exact n_ret C (n_Fin (by rw [shm_4]; rfl) hF) dX5_init_112 (by exact Nat.le_of_ble_eq_true rfl) (by exact Nat.le_of_ble_eq_true rfl)
