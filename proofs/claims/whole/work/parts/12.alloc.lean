/-! ===== the constructors: worlds that grow ===== -/
def Gz (G : Cf) (z : Nat → Nat) : Cf := (cD G, cT G, z, cA G, (cL G, cX G), cF G)
def xt (n : Nat) (z z' : Nat → Nat) : Prop := ∀ k, (k < n ∨ 1000 ≤ k) → z' k = z k
def okV (n : Nat) : Value → Prop
  | .ref k => k < n ∨ 1000 ≤ k
  | _ => True
def okE (n : Nat) : va_E → Prop
  | .inr (_, fs) => ∀ v ∈ fs, okV n v
  | .inl (_, _, .inr (.inr (.inr (.inr f)))) => ∀ j k, f j = some k → k < n
  | _ => True
theorem okV.mono {n m : Nat} {v : Value} (hnm : n ≤ m) (h : okV n v) : okV m v := by
  cases v with
  | ref k => exact h.imp (fun h => Nat.lt_of_lt_of_le h hnm) id
  | _ => trivial
theorem okE.mono {n m : Nat} {e : va_E} (hnm : n ≤ m) (h : okE n e) : okE m e := by
  rcases e with ⟨t, k, f | f | f | f | f⟩ | ⟨ci, fs⟩
  · trivial
  · trivial
  · trivial
  · trivial
  · exact fun j q hq => Nat.lt_of_lt_of_le (h j q hq) hnm
  · exact fun v hv => (h v hv).mono hnm
theorem rv_xt {n : Nat} {z z' : Nat → Nat} {v : Value} (hx : xt n z z') (h : okV n v) : rv z' v = rv z v := by
  cases v with
  | ref k => exact congrArg Value.ref (hx k h)
  | _ => rfl
theorem rE_xt {G : Cf} {n : Nat} {z z' : Nat → Nat} {e : va_E} (hx : xt n z z') (h : okE n e) : rE (Gz G z') e = rE (Gz G z) e := by
  rcases e with ⟨t, k, f | f | f | f | f⟩ | ⟨ci, fs⟩
  · rfl
  · rfl
  · rfl
  · rfl
  · have : (fun j => (f j).map z') = (fun j => (f j).map z) := by
      funext j
      cases hj : f j with
      | none => rfl
      | some q => exact congrArg some (hx q (Or.inl (h j q hj)))
    show Sum.inl (cT G t, k, Sum.inr (Sum.inr (Sum.inr (Sum.inr (fun j => (f j).map z'))))) = Sum.inl (cT G t, k, Sum.inr (Sum.inr (Sum.inr (Sum.inr (fun j => (f j).map z)))))
    rw [this]
  · show Sum.inr (ci, fs.map (rv z')) = Sum.inr (ci, fs.map (rv z))
    rw [List.map_congr_left (fun v hv => rv_xt hx (h v hv))]
theorem rW_xt {G : Cf} {n : Nat} {z z' : Nat → Nat} {w : Wd} (hx : xt n z z') (hn : w.length ≤ n) (h : ∀ e ∈ w, okE n e) : rW (Gz G z') w = rW (Gz G z) w := by
  apply List.ext_getElem?
  intro i
  simp only [rW, List.getElem?_mapIdx]
  cases hi : w[i]? with
  | none => rfl
  | some e =>
    have hl := (List.getElem?_eq_some_iff.mp hi).1
    show some (z' i, rE (Gz G z') e) = some (z i, rE (Gz G z) e)
    rw [hx i (Or.inl (Nat.lt_of_lt_of_le hl hn)), rE_xt hx (h e (List.mem_of_getElem? hi))]
theorem rW_app {G : Cf} {w : Wd} {e : va_E} : rW G (w ++ [e]) = rW G w ++ [(cz G w.length, rE G e)] := by
  simp [rW, List.mapIdx_append]
def up (z : Nat → Nat) (n q : Nat) : Nat → Nat := fun k => if k = n then q else z k
theorem up_xt {z : Nat → Nat} {n q : Nat} (hn : n < 1000) : xt n z (up z n q) := by
  intro k hk
  have : ¬ k = n := by omega
  simp [up, this]
def NLs : List (String × Nat × MethodName) := [(RX5, 9, yX1_init), (RX5, 24, yX0_init), (RX0, 11, yX1_init), (RX5, 31, yX2_init), (RX2, 11, yX1_init), (RX5, 38, yX4_init), (RX5, 53, yX3_init)]
def KA (U : State) : Prop := va_AO RX3 U ∧ ∀ q ∈ NLs, va_Nw (.methodLinkNest q.1 q.2.1 q.2.2 RX5) U
theorem KA.warm {s U : State} (hW : s.WarmedH U.vm) (h : KA s) : KA U := ⟨h.1.moved hW.alike, fun q hq => (h.2 q hq).warmM hW⟩
theorem KA.same {u U : State} (hv : u.vm = U.vm) (h : KA u) : KA U := ⟨h.1.moved (by rw [hv]; exact Vm.Alike.refl U.vm), fun q hq => va_Nw.same rfl hv (h.2 q hq)⟩
def CxN (G : Cf) (M : MI) (p : Program) (s : State) (m : MethodId) (args : Array Value) (c : Code) (meth : Method) : Prop :=
  CallFix p m c (mC M) (mN M) s args lw_good (mO M) ∧ va_K (cD G) vwCl (tysG G) s ∧ KA s ∧ ((mY M).name = "<init>" → meth.name = "<init>") ∧ ∀ q, s.heap.size ≤ q → cA G q
def Sc (n : Nat) (L : List (Option Value)) (st : List Value) (w : Wd) : Prop := (∀ i v, lget L i = some v → okV n v) ∧ (∀ v ∈ st, okV n v) ∧ ∀ e ∈ w, okE n e
/-- walking with a world that grows: n0, z0 the world's length and addresses at the method's start -/
def AW (G : Cf) (M : MI) (p : Program) (l : Launch) (e : Env) (s : State) (m : MethodId) (args : Array Value) (below : List Frame) (meth : Method) (c : Code) (Qf : State → Prop) (n0 : Nat) (z0 : Nat → Nat) (z : Nat → Nat) (pc : Nat) (L : List (Option Value)) (st : List Value) (w : Wd) (cells slots : Nat) : Prop :=
  n0 ≤ w.length → w.length ≤ 900 → xt n0 z0 z → Sc w.length L st w → ∀ (ls : Array Slot) (H : Heap) (locs : List Loc), WH (Gz G z) s H locs w → Lh (Gz G z) ls (mN M) L → W p l e (mR M) s m args below meth c H locs cells slots Qf (F0 m pc ls (st.map (rv z)))
def FinN (G : Cf) (M : MI) (p : Program) (l : Launch) (e : Env) (s : State) (m : MethodId) (args : Array Value) (below : List Frame) (meth : Method) (c : Code) (Qf : State → Prop) (n0 : Nat) (z0 : Nat → Nat) (w : Wd) : Prop :=
  ∀ (z : Nat → Nat) (pc : Nat) (ls : Array Slot) (H : Heap) (locs : List Loc) (cells slots : Nat), xt n0 z0 z → decode (mC M) pc = .ok (.return_, 1) → WH (Gz G z) s H locs w → (∀ e ∈ w, okE w.length e) → cells ≤ (mR M).cells → slots ≤ (mR M).slots → W p l e (mR M) s m args below meth c H locs cells slots Qf (F0 m pc ls [])
def GN (G : Cf) (w : Wd) (U : State) : Prop := va_P (cD G) vwCl (rW G w) U.heap ∧ va_D (cA G) (rW G w) ∧ va_K (cD G) vwCl (tysG G) U ∧ KA U ∧ ∀ q, U.heap.size ≤ q → cA G q
def QN (G : Cf) (w w' : Wd) : Array Value → State → Outcome → State → Prop := fun _ st o t => (∃ z', o = .returned none ∧ xt w.length (cz G) z' ∧ va_P (cD G) vwCl (rW (Gz G z') w') t.heap ∧ va_D (cA G) (rW (Gz G z') w') ∧ ∀ e ∈ w', okE w'.length e) ∧ va_F (cA G) st t
def DoesN (G : Cf) (M : MI) (as : List Value) (w w' : Wd) : Prop := ∀ l : Launch, Met l (mY M) (mW M) (mR M) (va_Pc (as.map (rv (cz G))) (GN G w)) (QN G w w') (mR M).cells (mR M).slots (cA G)
theorem GN.blind {G : Cf} {w : Wd} (as : List Value) : FrameBlind (va_Pc as (GN G w)) := by
  intro a U g mk h
  obtain ⟨h1, h2, h3, h4, h5, h6⟩ := h
  exact ⟨h1, h2, h3, va_K.moved (u := U) (U := U.calling g mk a) (Vm.Alike.refl U.vm) h4, KA.same (u := U) (U := U.calling g mk a) rfl h5, h6⟩
theorem DoesN.of {G : Cf} {M : MI} {as : List Value} {w w' : Wd} {L0 : List (Option Value)} (n : Nat) (hy : plainName (mY M).cls = true) (ho : (mY M).cls = mO M) (hname : (mY M).name = "<init>") (hret : mT M = none) (hn : (lg_sl as).length ≤ mN M) (hL : lpad n (lent as) = L0) (hlen : w.length ≤ 900) (hok : ∀ v ∈ as, okV w.length v) (hw : ∀ e ∈ w, okE w.length e)
    (k : ∀ (p : Program) (l : Launch) (e : Env) (s : State) (m : MethodId) (args : Array Value) (below : List Frame) (meth : Method) (c : Code) (Qf : State → Prop), CxN G M p s m args c meth → FinN G M p l e s m args below meth c Qf w.length (cz G) w' → AW G M p l e s m args below meth c Qf w.length (cz G) (cz G) 0 L0 [] w 0 0) : DoesN G M as w w' := by
  intro l
  refine Met.ofW (cc := mC M) (maxL := mN M) (ret := mT M) hy rfl ?_
  intro p e s m args below meth c s₁ B hml hv
  obtain ⟨rfl, hP, hD, hK, hKA, hA⟩ := hv
  have hx := B.exec
  have hb := B.bytes
  have hr := B.returns
  have hts := atoms_spec (ws := mW M) B.pre
  have hown : s.vm.findClass (mO M) = some m.cls := by rw [← ho]; exact findClass_of_methodNamed B.named
  have hin : meth.name = (mY M).name := (name_of_methodNamed B.named B.method).1
  have hlocks := B.notSynchronized
  have hl := lv_entry (as.map (rv (cz G))) (n := mN M) (by rw [lg_sl_rv]; exact hn)
  rw [lg_entry_eq]
  generalize (lg_sl (as.map (rv (cz G))) ++ List.replicate (mN M - (lg_sl (as.map (rv (cz G)))).length) Slot.unset).toArray = ls at hl ⊢
  have hLL : Lh G ls (mN M) (lent as) := ⟨hl.1, hl.2.1, fun i v h => hl.2.2 (i, rv (cz G) v) (by have := lent_args G as 0 i v h; rwa [Nat.zero_add] at this)⟩
  subst hL
  have hokL : ∀ i v, lget (lpad n (lent as)) i = some v → okV w.length v := by
    intro i v h
    have h2 := lget_pad h
    have : ∀ (as : List Value) (i : Nat) (v : Value), lget (lent as) i = some v → v ∈ as := by
      intro as
      induction as with
      | nil => intro i v h; simp [lent, lget] at h
      | cons a as ih =>
        intro i v h
        have one : lent (a :: as) = some a :: lent as → v ∈ a :: as := by
          intro e1
          rw [e1] at h
          cases i with
          | zero => cases h; exact List.mem_cons_self
          | succ i => exact List.mem_cons_of_mem _ (ih i v h)
        have two : lent (a :: as) = some a :: none :: lent as → v ∈ a :: as := by
          intro e1
          rw [e1] at h
          cases i with
          | zero => cases h; exact List.mem_cons_self
          | succ i => cases i with
            | zero => cases h
            | succ i => exact List.mem_cons_of_mem _ (ih i v h)
        cases a with
        | long x => exact two rfl
        | double x => exact two rfl
        | _ => exact one rfl
    exact hok v (this as i v h2)
  refine k p l e s m _ below meth c _ ⟨⟨hx, hb, hml, hown, fun w hw => hts w (List.mem_cons_of_mem _ hw)⟩, hK, hKA, fun h => hin.trans h, hA⟩ ?_ (Nat.le_refl _) hlen (fun _ _ => rfl) ⟨hokL, fun v hv => (nomatch hv), hw⟩ ls s.heap [] ⟨hP, hD, va_S.rf⟩ ⟨hLL.1, hLL.2.1, fun i v h => hLL.2.2 i v (lget_pad h)⟩
  intro z pc ls H locs cells slots hz hd hW hoks hc1 hc2
  obtain ⟨hP1, hD1, hS1⟩ := hW
  refine W.widen hc1 hc2 ?_
  exact W.vret hx hb (hr.trans hret) (fun t ht _ => ⟨⟨z, rfl, hz, by rw [ht]; exact hP1, hD1, hoks⟩, hS1.F ht⟩) hS1.2.2 hd
theorem at_app {w0 w1 : Wd} {n j : Nat} {e : va_E} (hn : w0.length = n) (h : w1[j]? = some e) : (w0 ++ w1)[n + j]? = some e := by
  subst hn
  rw [List.getElem?_append_right (by omega), Nat.add_sub_cancel_left]
  exact h
theorem set_app {w0 w1 : Wd} {n j : Nat} {e : va_E} (hn : w0.length = n) : (w0 ++ w1).set (n + j) e = w0 ++ w1.set j e := by
  subst hn
  rw [List.set_append, if_neg (by omega), Nat.add_sub_cancel_left]
section NRows
variable {G : Cf} {M : MI} {p : Program} {l : Launch} {e : Env} {s : State} {m : MethodId} {args : Array Value} {below : List Frame} {meth : Method} {c : Code} {Qf : State → Prop} {n0 : Nat} {z0 z : Nat → Nat} {pc : Nat} {L : List (Option Value)} {st : List Value} {w w0 w1 : Wd} {cells slots n : Nat}
theorem n_ret (C : CxN G M p s m args c meth) (hF : FinN G M p l e s m args below meth c Qf n0 z0 w) (hd : decode (mC M) pc = .ok (.return_, 1)) (h1 : cells ≤ (mR M).cells) (h2 : slots ≤ (mR M).slots) : AW G M p l e s m args below meth c Qf n0 z0 z pc L [] w cells slots :=
  fun a1 a2 a3 hs ls H locs hw _ => hF z pc ls H locs cells slots a3 hd hw hs.2.2 h1 h2
theorem n_aload_n {k0 : Fin 4} {x : Nat} (C : CxN G M p s m args c meth) (hd : decode (mC M) pc = .ok (.aload_n k0, 1)) (hg : lget L (k0 : Nat) = some (.ref x)) (k : AW G M p l e s m args below meth c Qf n0 z0 z (pc + 1) L (.ref x :: st) w cells slots) : AW G M p l e s m args below meth c Qf n0 z0 z pc L st w cells slots := by
  intro a1 a2 a3 hs ls H locs hw hl
  exact lv_aload_n C.1.1 C.1.2.1 hd rfl (hl.2.2 _ _ hg) (k a1 a2 a3 ⟨hs.1, fun v hv => by
      rcases List.mem_cons.mp hv with rfl | h
      · exact hs.1 _ _ hg
      · exact hs.2.1 _ h, hs.2.2⟩ ls H locs hw hl)
theorem n_iload_n {k0 : Fin 4} {x : Int32} (C : CxN G M p s m args c meth) (hd : decode (mC M) pc = .ok (.iload_n k0, 1)) (hg : lget L (k0 : Nat) = some (.int x)) (k : AW G M p l e s m args below meth c Qf n0 z0 z (pc + 1) L (.int x :: st) w cells slots) : AW G M p l e s m args below meth c Qf n0 z0 z pc L st w cells slots := by
  intro a1 a2 a3 hs ls H locs hw hl
  exact lv_iload_n C.1.1 C.1.2.1 hd rfl (hl.2.2 _ _ hg) (k a1 a2 a3 ⟨hs.1, fun v hv => by
      rcases List.mem_cons.mp hv with rfl | h
      · exact trivial
      · exact hs.2.1 _ h, hs.2.2⟩ ls H locs hw hl)
theorem n_iconst {n1 : Int} (v : Int32) (C : CxN G M p s m args c meth) (hd : decode (mC M) pc = .ok (.iconst n1, 1)) (hv : Int32.ofInt n1 = v) (k : AW G M p l e s m args below meth c Qf n0 z0 z (pc + 1) L (.int v :: st) w cells slots) : AW G M p l e s m args below meth c Qf n0 z0 z pc L st w cells slots := by
  intro a1 a2 a3 hs ls H locs hw hl
  exact lv_iconst C.1.1 C.1.2.1 hd hv (k a1 a2 a3 ⟨hs.1, fun v hv => by
      rcases List.mem_cons.mp hv with rfl | h
      · exact trivial
      · exact hs.2.1 _ h, hs.2.2⟩ ls H locs hw hl)
theorem n_bipush {n1 : Int} (v : Int32) (C : CxN G M p s m args c meth) (hd : decode (mC M) pc = .ok (.bipush n1, 2)) (hv : (Int8.ofInt n1).toInt32 = v) (k : AW G M p l e s m args below meth c Qf n0 z0 z (pc + 2) L (.int v :: st) w cells slots) : AW G M p l e s m args below meth c Qf n0 z0 z pc L st w cells slots := by
  intro a1 a2 a3 hs ls H locs hw hl
  exact lv_bipush C.1.1 C.1.2.1 hd hv (k a1 a2 a3 ⟨hs.1, fun v hv => by
      rcases List.mem_cons.mp hv with rfl | h
      · exact trivial
      · exact hs.2.1 _ h, hs.2.2⟩ ls H locs hw hl)
theorem n_sipush {n1 : Int} (v : Int32) (C : CxN G M p s m args c meth) (hd : decode (mC M) pc = .ok (.sipush n1, 3)) (hv : (Int16.ofInt n1).toInt32 = v) (k : AW G M p l e s m args below meth c Qf n0 z0 z (pc + 3) L (.int v :: st) w cells slots) : AW G M p l e s m args below meth c Qf n0 z0 z pc L st w cells slots := by
  intro a1 a2 a3 hs ls H locs hw hl
  exact lv_sipush C.1.1 C.1.2.1 hd hv (k a1 a2 a3 ⟨hs.1, fun v hv => by
      rcases List.mem_cons.mp hv with rfl | h
      · exact trivial
      · exact hs.2.1 _ h, hs.2.2⟩ ls H locs hw hl)
theorem n_dup {a : Value} (C : CxN G M p s m args c meth) (hd : decode (mC M) pc = .ok (.dup, 1)) (hc : a.category = 1) (k : AW G M p l e s m args below meth c Qf n0 z0 z (pc + 1) L (a :: a :: st) w cells slots) : AW G M p l e s m args below meth c Qf n0 z0 z pc L (a :: st) w cells slots := by
  intro a1 a2 a3 hs ls H locs hw hl
  exact lv_dup C.1.1 C.1.2.1 hd ((rv_cat _ _).trans hc) (k a1 a2 a3 ⟨hs.1, fun v hv => by
      rcases List.mem_cons.mp hv with rfl | h
      · exact hs.2.1 _ List.mem_cons_self
      · exact hs.2.1 _ h, hs.2.2⟩ ls H locs hw hl)
theorem w_oi1 : Cond.instanceMethod Lib.objectInit ∈ lw_good := lw_goodIn 90 (by decide +kernel) rfl
theorem w_oi2 : Cond.code Lib.objectInit ⟨#[0xb1]⟩ 1 none ∈ lw_good := lw_goodIn 91 (by decide +kernel) rfl
theorem n_obj {idx x : Nat} (C : CxN G M p s m args c meth) (hk : Cond.methodLink (mO M) idx Lib.objectInit ∈ lw_good) (hd : decode (mC M) pc = .ok (.invokespecial idx, 3)) (hf : 1 ≤ (mR M).frames) (hlo : (st.map fun v => v.category).sum + 12 ≤ (mR M).locals) (k : AW G M p l e s m args below meth c Qf n0 z0 z (pc + 3) L st w cells slots) : AW G M p l e s m args below meth c Qf n0 z0 z pc L (.ref x :: st) w cells slots := by
  intro a1 a2 a3 hs ls H locs hw hl
  have ht := C.1.2.2.2.2
  refine W.objInit C.1.1 C.1.2.1 C.1.2.2.2.1 (ht _ hk) (ht _ w_oi1) (ht _ w_oi2) rfl (hl.1.trans C.1.2.2.1.symm) rfl hd hf ?_ ?_
  · show 2 * 0 + _ + 12 ≤ _
    rw [cat_rv]
    omega
  · exact W.eq (g2 := F0 m (pc + 3) ls (st.map (rv z))) rfl (k a1 a2 a3 ⟨hs.1, fun v hv => hs.2.1 v (List.mem_cons_of_mem _ hv), hs.2.2⟩ ls H locs hw hl)
theorem Sc.grow {L : List (Option Value)} {st : List Value} {w : Wd} {e : va_E} (hs : Sc w.length L st w) (he : okE (w.length + 1) e) (v : Value) (hv : okV (w.length + 1) v) : Sc (w ++ [e]).length L (v :: st) (w ++ [e]) := by
  have hl : (w ++ [e]).length = w.length + 1 := by simp
  rw [hl]
  refine ⟨fun i u h => (hs.1 i u h).mono (Nat.le_succ _), fun u hu => ?_, fun e2 h2 => ?_⟩
  · rcases List.mem_cons.mp hu with rfl | h
    · exact hv
    · exact (hs.2.1 u h).mono (Nat.le_succ _)
  · rcases List.mem_append.mp h2 with h | h
    · exact (hs.2.2 e2 h).mono (Nat.le_succ _)
    · rcases List.mem_singleton.mp h with rfl
      exact he
theorem n_grow {e1 : va_E} {q : Nat} {H1 : Heap} {locs : List Loc} {ls : Array Slot} (a1 : n0 ≤ w.length) (a2 : w.length ≤ 800) (a3 : xt n0 z0 z) (hs : Sc w.length L st w) (he : okE (w.length + 1) e1) (hl : Lh (Gz G z) ls (mN M) L)
    (hP : va_P (cD G) vwCl (rW (Gz G z) w ++ [(q, rE (Gz G z) e1)]) H1) (hD : va_D (cA G) (rW (Gz G z) w ++ [(q, rE (Gz G z) e1)])) (hS : va_S (cA G) s.heap H1 locs) (heq : okE w.length e1)
    (k : ∀ z, AW G M p l e s m args below meth c Qf n0 z0 z pc L (.ref w.length :: st) (w ++ [e1]) cells slots) : W p l e (mR M) s m args below meth c H1 locs cells slots Qf (F0 m pc ls (.ref q :: st.map (rv z))) := by
  have hx : xt w.length z (up z w.length q) := up_xt (by omega)
  have e2 : rW (Gz G (up z w.length q)) (w ++ [e1]) = rW (Gz G z) w ++ [(q, rE (Gz G z) e1)] := by
    rw [rW_app, rW_xt hx (Nat.le_refl _) hs.2.2, rE_xt hx heq]
    show rW (Gz G z) w ++ [(up z w.length q w.length, _)] = _
    simp [up]
  have e3 : (Value.ref w.length :: st).map (rv (up z w.length q)) = .ref q :: st.map (rv z) := by
    rw [List.map_cons, List.map_congr_left (fun v hv => rv_xt hx (hs.2.1 v hv))]
    show Value.ref (up z w.length q w.length) :: _ = _
    simp [up]
  rw [← e3]
  refine k (up z w.length q) (by simp; omega) (by simp; omega) (fun k hk => (hx k (hk.imp (fun h => Nat.lt_of_lt_of_le h a1) id)).trans (a3 k hk)) (hs.grow he _ (Or.inl (Nat.lt_succ_self _))) ls H1 locs ⟨by rw [e2]; exact hP, by show va_D (cA G) _; rw [e2]; exact hD, hS⟩ ⟨hl.1, hl.2.1, fun i v h => ?_⟩
  show ls[i]? = some (.val (rv (up z w.length q) v))
  rw [rv_xt hx (hs.1 i v h)]
  exact hl.2.2 i v h
theorem n_new {idx ci N : Nat} {Cn : String} {T : u_T} {ty : Nat → FieldType} {fs : List Value} (C : CxN G M p s m args c meth) (hlen : w.length ≤ 800) (hc : vwCl[ci]? = some (Cn, T, N)) (hin : ∀ w ∈ u_ws Cn T N, w ∈ lw_good) (hty : ∀ k, k < N → parseFieldDescriptor (T k).2.2.1 = some (ty k)) (h1 : Cond.classLink (mO M) idx Cn ∈ lw_good) (h2 : Cond.instantiable Cn N ∈ lw_good) (h3 : Cond.initialized Cn ∈ lw_good) (hfs : ∀ j, j < N → defaultValue (ty j) = vp_V fs j) (hnr : ∀ v ∈ fs, v = .null ∨ v = .int 0 ∨ v = .long 0) (hc1 : cells + 1 ≤ (mR M).cells) (hc2 : slots + N ≤ (mR M).slots) (hd : decode (mC M) pc = .ok (.new idx, 3))
    (k : ∀ z, AW G M p l e s m args below meth c Qf n0 z0 z (pc + 3) L (.ref w.length :: st) (w ++ [.inr (ci, fs)]) (cells + 1) (slots + N)) : AW G M p l e s m args below meth c Qf n0 z0 z pc L st w cells slots := by
  intro a1 a2 a3 hs ls H locs hw hl
  have ht := C.1.2.2.2.2
  have hok : ∀ n, okE n (.inr (ci, fs)) := fun n v hv => by
    rcases hnr v hv with rfl | rfl | rfl <;> trivial
  have hmap : fs.map (rv z) = fs := by
    conv => rhs; rw [← List.map_id fs]
    exact List.map_congr_left (fun v hv => by rcases hnr v hv with rfl | rfl | rfl <;> rfl)
  refine va_new (D := cD G) (ci := ci) (fs := fs) C.1.1 C.1.2.1 ht hin ty hty C.1.2.2.2.1 (ht _ h1) (ht _ h2) (ht _ h3) C.2.1 hw.1 hw.2.1 hw.2.2 C.2.2.2.2 hc hfs hc1 hc2 hd (fun q H1 hP hD hS => ?_)
  have e1 : rE (Gz G z) (.inr (ci, fs)) = .inr (ci, fs) := by show Sum.inr (ci, fs.map (rv z)) = _; rw [hmap]
  exact n_grow a1 hlen a3 hs (hok _) hl (e1.symm ▸ hP) (e1.symm ▸ hD) hS (hok _) k
theorem w_aci : Cond.arrayClass .int ∈ lw_good := lw_goodIn 166 (by decide +kernel) rfl
theorem n_newi {x : Int32} (N : Nat) (C : CxN G M p s m args c meth) (hlen : w.length ≤ 800) (hx : ¬ x < 0) (hN : x.toNatClampNeg = N) (hb : N * componentBytes .int ≤ 536870912) (hc1 : cells + 1 ≤ (mR M).cells) (hc2 : slots + N ≤ (mR M).slots) (hd : decode (mC M) pc = .ok (.newarray .int, 2))
    (k : ∀ z, AW G M p l e s m args below meth c Qf n0 z0 z (pc + 2) L (.ref w.length :: st) (w ++ [.inl (0, N, .inl (fun _ => 0))]) (cells + 1) (slots + N)) : AW G M p l e s m args below meth c Qf n0 z0 z pc L (.int x :: st) w cells slots := by
  intro a1 a2 a3 hs ls H locs hw hl
  have hs2 : Sc w.length L st w := ⟨hs.1, fun v hv => hs.2.1 v (List.mem_cons_of_mem _ hv), hs.2.2⟩
  refine va_newa (D := cD G) (atype := .int) (ty := .int) (a0 := (N, .inl (fun _ => 0))) C.1.1 C.1.2.1 (C.1.2.2.2.2 _ w_aci) rfl C.2.1 hw.1 hw.2.1 hw.2.2 C.2.2.2.2 (fun _ => rfl) hx hN hb hc1 hc2 hd (fun q cA0 H1 hK hP hD hS => ?_)
  have h1 : s.vm.findClass ("[" ++ FieldType.int.toString) = some cA0 := (hK.2 4 (cA0, .int) rfl).2
  have h2 : s.vm.findClass ("[" ++ FieldType.int.toString) = some (cT G 0) := (C.2.1.2 0 (cT G 0, .int) rfl).2
  cases h1.symm.trans h2
  exact n_grow (e1 := .inl (0, N, .inl (fun _ => 0))) a1 hlen a3 hs2 trivial hl hP hD hS trivial k
theorem w_acl : Cond.arrayClass .long ∈ lw_good := lw_goodIn 268 (by decide +kernel) rfl
theorem n_newl {x : Int32} (N : Nat) (C : CxN G M p s m args c meth) (hlen : w.length ≤ 800) (hx : ¬ x < 0) (hN : x.toNatClampNeg = N) (hb : N * componentBytes .long ≤ 536870912) (hc1 : cells + 1 ≤ (mR M).cells) (hc2 : slots + N ≤ (mR M).slots) (hd : decode (mC M) pc = .ok (.newarray .long, 2))
    (k : ∀ z, AW G M p l e s m args below meth c Qf n0 z0 z (pc + 2) L (.ref w.length :: st) (w ++ [.inl (1, N, .inr (.inl (fun _ => 0)))]) (cells + 1) (slots + N)) : AW G M p l e s m args below meth c Qf n0 z0 z pc L (.int x :: st) w cells slots := by
  intro a1 a2 a3 hs ls H locs hw hl
  have hs2 : Sc w.length L st w := ⟨hs.1, fun v hv => hs.2.1 v (List.mem_cons_of_mem _ hv), hs.2.2⟩
  refine va_newa (D := cD G) (atype := .long) (ty := .long) (a0 := (N, .inr (.inl (fun _ => 0)))) C.1.1 C.1.2.1 (C.1.2.2.2.2 _ w_acl) rfl C.2.1 hw.1 hw.2.1 hw.2.2 C.2.2.2.2 (fun _ => rfl) hx hN hb hc1 hc2 hd (fun q cA0 H1 hK hP hD hS => ?_)
  have h1 : s.vm.findClass ("[" ++ FieldType.long.toString) = some cA0 := (hK.2 4 (cA0, .long) rfl).2
  have h2 : s.vm.findClass ("[" ++ FieldType.long.toString) = some (cT G 1) := (C.2.1.2 1 (cT G 1, .long) rfl).2
  cases h1.symm.trans h2
  exact n_grow (e1 := .inl (1, N, .inr (.inl (fun _ => 0)))) a1 hlen a3 hs2 trivial hl hP hD hS trivial k
theorem w_acz : Cond.arrayClass .boolean ∈ lw_good := lw_goodIn 219 (by decide +kernel) rfl
theorem n_newz {x : Int32} (N : Nat) (C : CxN G M p s m args c meth) (hlen : w.length ≤ 800) (hx : ¬ x < 0) (hN : x.toNatClampNeg = N) (hb : N * componentBytes .boolean ≤ 536870912) (hc1 : cells + 1 ≤ (mR M).cells) (hc2 : slots + N ≤ (mR M).slots) (hd : decode (mC M) pc = .ok (.newarray .boolean, 2))
    (k : ∀ z, AW G M p l e s m args below meth c Qf n0 z0 z (pc + 2) L (.ref w.length :: st) (w ++ [.inl (2, N, .inl (fun _ => 0))]) (cells + 1) (slots + N)) : AW G M p l e s m args below meth c Qf n0 z0 z pc L (.int x :: st) w cells slots := by
  intro a1 a2 a3 hs ls H locs hw hl
  have hs2 : Sc w.length L st w := ⟨hs.1, fun v hv => hs.2.1 v (List.mem_cons_of_mem _ hv), hs.2.2⟩
  refine va_newa (D := cD G) (atype := .boolean) (ty := .boolean) (a0 := (N, .inl (fun _ => 0))) C.1.1 C.1.2.1 (C.1.2.2.2.2 _ w_acz) rfl C.2.1 hw.1 hw.2.1 hw.2.2 C.2.2.2.2 (fun _ => rfl) hx hN hb hc1 hc2 hd (fun q cA0 H1 hK hP hD hS => ?_)
  have h1 : s.vm.findClass ("[" ++ FieldType.boolean.toString) = some cA0 := (hK.2 4 (cA0, .boolean) rfl).2
  have h2 : s.vm.findClass ("[" ++ FieldType.boolean.toString) = some (cT G 2) := (C.2.1.2 2 (cT G 2, .boolean) rfl).2
  cases h1.symm.trans h2
  exact n_grow (e1 := .inl (2, N, .inl (fun _ => 0))) a1 hlen a3 hs2 trivial hl hP hD hS trivial k
theorem n_newq {x : Int32} {idx : Nat} (N : Nat) (C : CxN G M p s m args c meth) (hlen : w.length ≤ 800) (h1 : Cond.classLink (mO M) idx RX3 ∈ lw_good) (hx : ¬ x < 0) (hN : x.toNatClampNeg = N) (hb : N * 4 ≤ 536870912) (hc1 : cells + 1 ≤ (mR M).cells) (hc2 : slots + N ≤ (mR M).slots) (hd : decode (mC M) pc = .ok (.anewarray idx, 3))
    (k : ∀ z, AW G M p l e s m args below meth c Qf n0 z0 z (pc + 3) L (.ref w.length :: st) (w ++ [.inl (3, N, .inr (.inr (.inr (.inr (fun _ => none)))))]) (cells + 1) (slots + N)) : AW G M p l e s m args below meth c Qf n0 z0 z pc L (.int x :: st) w cells slots := by
  intro a1 a2 a3 hs ls H locs hw hl
  have hs2 : Sc w.length L st w := ⟨hs.1, fun v hv => hs.2.1 v (List.mem_cons_of_mem _ hv), hs.2.2⟩
  refine va_newq (D := cD G) (C := RX3) C.1.1 C.1.2.1 C.1.2.2.2.1 (C.1.2.2.2.2 _ h1) C.2.2.1.1 C.2.1 hw.1 hw.2.1 hw.2.2 C.2.2.2.2 hx hN hb hc1 hc2 hd (fun q cA0 H1 hK hP hD hS => ?_)
  have h1 : s.vm.findClass ("[" ++ (FieldType.object RX3).toString) = some cA0 := by
    obtain ⟨_, _, _, _, _, h⟩ := (hK.2 4 (cA0, .object RX3) rfl).2
    exact h
  have h2 : s.vm.findClass ("[" ++ (FieldType.object RX3).toString) = some (cT G 3) := by
    obtain ⟨_, _, _, _, _, h⟩ := (C.2.1.2 3 (cT G 3, .object RX3) rfl).2
    exact h
  cases h1.symm.trans h2
  exact n_grow (e1 := .inl (3, N, .inr (.inr (.inr (.inr (fun _ => none)))))) a1 hlen a3 hs2 (fun j k h => nomatch h) hl hP hD hS (fun j k h => nomatch h) k
def FPF (own : String) (ci k : Nat) (ty : FieldType) : Prop := ∃ (C : String) (T : u_T) (N : Nat) (ty0 : Nat → FieldType), vwCl[ci]? = some (C, T, N) ∧ (∀ k, k < N → parseFieldDescriptor (T k).2.2.1 = some (ty0 k)) ∧ (∀ a, a < N → ∀ b, b < N → a ≠ b → (T a).2.1 ≠ (T b).2.1) ∧ (T k).2.2.2 = true ∧ (T k).1 = own ∧ parseFieldDescriptor (T k).2.2.1 = some ty
theorem okE.put {n : Nat} {ci k : Nat} {fs : List Value} {v : Value} (h : okE n (.inr (ci, fs))) (hv : okV n v) : okE n (.inr (ci, fs.set k v)) := by
  intro u hu
  rcases List.mem_or_eq_of_mem_set hu with h1 | rfl
  · exact h u h1
  · exact hv
theorem Sc.put {L : List (Option Value)} {st : List Value} {w : Wd} {a : Nat} {e : va_E} (hs : Sc w.length L st w) (he : okE w.length e) : Sc (w.set a e).length L st (w.set a e) := by
  rw [List.length_set]
  refine ⟨hs.1, hs.2.1, fun u hu => ?_⟩
  rcases List.mem_or_eq_of_mem_set hu with h1 | rfl
  · exact hs.2.2 u h1
  · exact he
theorem n_putF {idx ci k0 a b : Nat} {ty : FieldType} {fs : List Value} {w2 : Wd} (C : CxN G M p s m args c meth) (hi : (mY M).name = "<init>") (F : FL (mO M) idx ci k0) (F2 : FPF (mO M) ci k0 ty) (he : w[a]? = some (.inr (ci, fs))) (hl2 : k0 < fs.length) (hn : ∀ q, narrow ty (.ref q) = .ref q) (hfit : ∀ q, fits ty (.ref q) = true) (hw2 : w.set a (.inr (ci, fs.set k0 (.ref b))) = w2) (hd : decode (mC M) pc = .ok (.putfield idx, 3))
    (kk : AW G M p l e s m args below meth c Qf n0 z0 z (pc + 3) L st w2 cells slots) : AW G M p l e s m args below meth c Qf n0 z0 z pc L (.ref b :: .ref a :: st) w cells slots := by
  intro a1 a2 a3 hs ls H locs hw hl
  subst hw2
  obtain ⟨C1, T, N, f1, f2, f3, f4⟩ := F
  obtain ⟨C2, T2, N2, ty0, g1, g2, g3, g4, g5, g6⟩ := F2
  cases f1.symm.trans g1
  have hb : okV w.length (.ref b) := hs.2.1 _ List.mem_cons_self
  refine va_putF (D := cD G) (ci := ci) (C := C1) (T := T) (N := N) (v := .ref (z b)) C.1.1 C.1.2.1 C.1.2.2.2.2 f3 ty0 g2 g3 C.1.2.2.2.1 C.2.1 hw.1 hw.2.1 hw.2.2 a (rW_at he) f1 k0 f2 (C.1.2.2.2.2 _ f4) (fun _ h9 => h9) g4 (C.2.2.2.1 hi) g5 g6 (hn _) (hfit _) (by rw [List.length_map]; exact hl2) hd (fun H1 locs1 hP hD hS => ?_)
  have e1 : (rW (Gz G z) w).set a (z a, .inr (ci, (fs.map (rv (cz (Gz G z)))).set k0 (.ref (z b)))) = rW (Gz G z) (w.set a (.inr (ci, fs.set k0 (.ref b)))) := by
    have := rE_set (G := Gz G z) (ci := ci) (k := k0) (fs := fs) (v := .ref b)
    rw [← rW_set, ← this]
    rfl
  have hs2 : Sc w.length L st w := ⟨hs.1, fun v hv => hs.2.1 v (List.mem_cons_of_mem _ (List.mem_cons_of_mem _ hv)), hs.2.2⟩
  exact kk (by rw [List.length_set]; exact a1) (by rw [List.length_set]; exact a2) a3 (hs2.put (okE.put (hs.2.2 _ (List.mem_of_getElem? he)) hb)) ls H1 locs1 ⟨e1 ▸ hP, e1 ▸ hD, hS⟩ hl
theorem n_after {M2 : MI} {w' : Wd} {rest : List Value} (C : CxN G M p s m args c meth) {ls : Array Slot} {H : Heap} {locs : List Loc} (a1 : n0 ≤ w.length) (a3 : xt n0 z0 z) (hs : Sc w.length L rest w) (hw : WH (Gz G z) s H locs w) (hl : Lh (Gz G z) ls (mN M) L) (hlen : w.length ≤ w'.length ∧ w'.length ≤ 800) {a : Array Value} {g : List Value}
    (hr : va_Run p l e (mR M) s m args below meth c H locs cells slots (mR M2).cells (mR M2).slots (F0 m pc ls g) (rest.map (rv z)) (QN (Gz G z) w w' a) (cA G))
    (kk : ∀ z, AW G M p l e s m args below meth c Qf n0 z0 z (pc + 3) L rest w' (cells + (mR M2).cells) (slots + (mR M2).slots)) : W p l e (mR M) s m args below meth c H locs cells slots Qf (F0 m pc ls g) := by
  intro T hT X
  obtain ⟨v, st₀, t, T', Lx, h0, X', hL, e1, e2, ⟨⟨z', hv, hx, hP, hD, hok⟩, hz, hk⟩, stp⟩ := hr T hT X
  have hv : v = none := by injection hv
  subst hv
  rw [h0] at hz hk
  have hS := hw.2.2
  have hS1 : va_S (cA G) s.heap T'.heap (locs ++ Lx) := ⟨Nat.le_trans hS.1 (by rw [e1]; exact hz), fun q h1 h2 => by rw [e1, hk q (Nat.lt_of_lt_of_le h1 hS.1) h2]; exact hS.2.1 q h1 h2, fun q hq => by
      rcases List.mem_append.mp hq with h | h
      · exact hS.2.2 q h
      · exact hL q h⟩
  have hx : xt w.length z z' := hx
  obtain ⟨t2, b1, b2⟩ := kk z' (Nat.le_trans a1 hlen.1) (by omega) (fun k hk => (hx k (hk.imp (fun h => Nat.lt_of_lt_of_le h a1) id)).trans (a3 k hk)) ⟨fun i v h => (hs.1 i v h).mono hlen.1, fun v hv => (hs.2.1 v hv).mono hlen.1, hok⟩ ls T'.heap (locs ++ Lx) ⟨by rw [e1]; exact hP, hD, hS1⟩ ⟨hl.1, hl.2.1, fun i v h => by
      show ls[i]? = some (.val (rv z' v))
      rw [rv_xt hx (hs.1 i v h)]
      exact hl.2.2 i v h⟩ T' rfl X'
  refine ⟨t2, stp t2 ?_, b2⟩
  have es : rest.map (rv z') = rest.map (rv z) := List.map_congr_left (fun v hv => rv_xt hx (hs.2.1 v hv))
  rw [es] at b1
  exact b1
def MVI (M2 : MI) : Prop := Cond.code (mY M2) (mC M2) (mN M2) none ∈ lw_good ∧ Cond.initialized (mO M2) ∈ lw_good ∧ mT M2 = none ∧ (mY M2).cls = mO M2 ∧ (mY M2).name = "<init>" ∧ (mY M2).cls ≠ "java/lang/invoke/MethodHandle" ∧ (mY M2).cls ≠ "java/lang/invoke/VarHandle" ∧ (parseMethodDescriptor (mY M2).desc).map (fun d => d.parameters.length) = some 0 ∧ Cond.instanceMethod (mY M2) ∈ lw_good
theorem n_pre {x : Nat} (C : CxN G M p s m args c meth) {H : Heap} {locs : List Loc} (hw : WH (Gz G z) s H locs w) : PreS s H (va_Pc ([Value.ref x].map (rv z)) (GN (Gz G z) w)) [Value.ref (z x)] :=
  ⟨GN.blind _, fun U hU hW => ⟨rfl, by rw [hU]; exact hw.1, hw.2.1, va_K.moved hW.alike C.2.1, C.2.2.1.warm hW, fun q hq => C.2.2.2.2 q (Nat.le_trans hw.2.2.1 (by rw [hU] at hq; exact hq))⟩⟩
theorem n_callN {M2 : MI} {idx x : Nat} {w' : Wd} (C : CxN G M p s m args c meth) (hM : MVI M2) (hk : (mO M, idx, mY M2) ∈ NLs) (hr : rOK M2 M) (hD : DoesN (Gz G z) M2 [.ref x] w w') (hlen : w.length ≤ w'.length ∧ w'.length ≤ 800) (hcat : (st.map fun v => v.category).sum ≤ 8) (hc1 : cells + (mR M2).cells ≤ (mR M).cells) (hc2 : slots + (mR M2).slots ≤ (mR M).slots) (hd : decode (mC M) pc = .ok (.invokespecial idx, 3))
    (kk : ∀ z, AW G M p l e s m args below meth c Qf n0 z0 z (pc + 3) L st w' (cells + (mR M2).cells) (slots + (mR M2).slots)) : AW G M p l e s m args below meth c Qf n0 z0 z pc L (.ref x :: st) w cells slots := by
  intro a1 a2 a3 hs ls H locs hw hl
  obtain ⟨m1, m2, m3, m4, m5, m6, m7, m8, m9⟩ := hM
  have ht := C.1.2.2.2.2
  have hs2 : Sc w.length L st w := ⟨hs.1, fun v hv => hs.2.1 v (List.mem_cons_of_mem _ hv), hs.2.2⟩
  have hDl := hD l
  have hW : mW M2 = Cond.code (mY M2) (mC M2) (mN M2) none :: lw_good := by show Cond.code _ _ _ (mT M2) :: _ = _; rw [m3]
  rw [hW] at hDl
  refine n_after (M2 := M2) C a1 a3 hs2 hw hl hlen (va_runIN (As := []) (b := z x) (rest := st.map (rv z)) C.1 hDl ⟨va_cnB (host := RX5) 0 ht (lw_goodAll m1) rfl rfl rfl (C.2.2.1.2 _ hk) (by rw [m4]; exact ht _ m2) ⟨m6, m7, m8⟩ hr, m5, ht _ m9⟩ (n_pre C hw) rfl rfl hl.1 rfl (by rw [cat_rv]; exact lv_room (m := m) (pc := pc) (ls := ls) (rest := []) hcat) hd ⟨hc1, hc2⟩) kk
theorem n_callL {M2 : MI} {idx x : Nat} {w' : Wd} (C : CxN G M p s m args c meth) (hM : MVI M2) (hk : Cond.methodLink (mO M) idx (mY M2) ∈ lw_good) (hr : rOK M2 M) (hD : DoesN (Gz G z) M2 [.ref x] w w') (hlen : w.length ≤ w'.length ∧ w'.length ≤ 800) (hcat : (st.map fun v => v.category).sum ≤ 8) (hc1 : cells + (mR M2).cells ≤ (mR M).cells) (hc2 : slots + (mR M2).slots ≤ (mR M).slots) (hd : decode (mC M) pc = .ok (.invokespecial idx, 3))
    (kk : ∀ z, AW G M p l e s m args below meth c Qf n0 z0 z (pc + 3) L st w' (cells + (mR M2).cells) (slots + (mR M2).slots)) : AW G M p l e s m args below meth c Qf n0 z0 z pc L (.ref x :: st) w cells slots := by
  intro a1 a2 a3 hs ls H locs hw hl
  obtain ⟨m1, m2, m3, m4, m5, m6, m7, m8, m9⟩ := hM
  have ht := C.1.2.2.2.2
  have hs2 : Sc w.length L st w := ⟨hs.1, fun v hv => hs.2.1 v (List.mem_cons_of_mem _ hv), hs.2.2⟩
  have hDl := hD l
  have hW : mW M2 = Cond.code (mY M2) (mC M2) (mN M2) none :: lw_good := by show Cond.code _ _ _ (mT M2) :: _ = _; rw [m3]
  rw [hW] at hDl
  refine n_after (M2 := M2) C a1 a3 hs2 hw hl hlen (va_runI (As := []) (b := z x) (rest := st.map (rv z)) C.1 hDl ⟨callB_of 0 ht (lw_goodAll m1) rfl rfl rfl (by rw [m4]; exact ht _ m2) (ht _ hk) ⟨m6, m7, m8⟩ hr, m5, ht _ m9⟩ (n_pre C hw) rfl rfl hl.1 rfl (by rw [cat_rv]; exact lv_room (m := m) (pc := pc) (ls := ls) (rest := []) hcat) hd ⟨hc1, hc2⟩) kk
end NRows
