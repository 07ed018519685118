/-! ===== a virtual world: cell k of the list stands at the address cz G k; references in values are places of the list ===== -/
abbrev Cf : Type := va_G × (Nat → ClassId) × (Nat → Nat) × (Nat → Prop) × (Nat × (Nat → Int32)) × Value
abbrev cD (G : Cf) : va_G := G.1
abbrev cT (G : Cf) : Nat → ClassId := G.2.1
abbrev cz (G : Cf) : Nat → Nat := G.2.2.1
abbrev cA (G : Cf) : Nat → Prop := G.2.2.2.1
abbrev cL (G : Cf) : Nat := G.2.2.2.2.1.1
abbrev cX (G : Cf) : Nat → Int32 := G.2.2.2.2.1.2
abbrev cF (G : Cf) : Value := G.2.2.2.2.2
abbrev Wd : Type := List va_E
def rv (z : Nat → Nat) : Value → Value
  | .ref k => .ref (z k)
  | .int x => .int x
  | .long x => .long x
  | .null => .null
  | .float x => .float x
  | .double x => .double x
  | .retAddr x => .retAddr x
theorem rv_cat (z : Nat → Nat) (v : Value) : (rv z v).category = v.category := by cases v <;> rfl
def rE (G : Cf) : va_E → va_E
  | .inl (t, n, .inl f) => .inl (cT G t, n, .inl f)
  | .inl (t, n, .inr (.inl f)) => .inl (cT G t, n, .inr (.inl f))
  | .inl (t, n, .inr (.inr (.inl f))) => .inl (cT G t, n, .inr (.inr (.inl f)))
  | .inl (t, n, .inr (.inr (.inr (.inl f)))) => .inl (cT G t, n, .inr (.inr (.inr (.inl f))))
  | .inl (t, n, .inr (.inr (.inr (.inr f)))) => .inl (cT G t, n, .inr (.inr (.inr (.inr (fun j => (f j).map (cz G))))))
  | .inr (ci, fs) => .inr (ci, fs.map (rv (cz G)))
def rW (G : Cf) (w : Wd) : va_W := w.mapIdx (fun k e => (cz G k, rE G e))
theorem rW_at {G : Cf} {w : Wd} {k : Nat} {e : va_E} (h : w[k]? = some e) : (rW G w)[k]? = some (cz G k, rE G e) := by
  simp [rW, List.getElem?_mapIdx, h]
theorem rW_set {G : Cf} {w : Wd} {k : Nat} {e : va_E} : (rW G w).set k (cz G k, rE G e) = rW G (w.set k e) := by
  apply List.ext_getElem?
  intro i
  simp only [rW, List.getElem?_mapIdx, List.getElem?_set, List.length_mapIdx]
  by_cases h : k = i
  · subst h
    by_cases h2 : k < w.length <;> simp [h2]
  · simp [h]
abbrev tysG (G : Cf) : List (ClassId × FieldType) := [(cT G 0, .int), (cT G 1, .long), (cT G 2, .boolean), (cT G 3, .object RX3)]
/-! what stands outside the world and nobody writes: the String constants of the tape's words, one table, three statics, the script -/
def sIdx : List Nat := [32, 58, 41, 84, 89, 91, 122, 124, 126, 128, 130, 132, 71, 73, 75]
def sTxt : List String := ["king", "fear", "word", "to", "gain", "until", "heir", "ward", "eldest", "lost", "twin", "child", "of", "with", "worth"]
def sByt : List (List Int32) := [[107, 105, 110, 103], [102, 101, 97, 114], [119, 111, 114, 100], [116, 111], [103, 97, 105, 110], [117, 110, 116, 105, 108], [104, 101, 105, 114], [119, 97, 114, 100], [101, 108, 100, 101, 115, 116], [108, 111, 115, 116], [116, 119, 105, 110], [99, 104, 105, 108, 100], [111, 102], [119, 105, 116, 104], [119, 111, 114, 116, 104]]
def sLen : List Nat := [4, 4, 4, 2, 4, 5, 4, 4, 6, 4, 4, 5, 2, 4, 5]
def kaf (j : Nat) : Int32 := ([-1, 0, 0, 1, 2, 1] : List Int32).getD j 0
def Ex (G : Cf) (U : State) (H : Heap) : Prop :=
  vk_S 15 sLen sByt (fun i => cz G (1000 + i)) (fun i => cz G (2000 + i)) (cA G) U H ∧
  (∀ i, i < 15 → vk_R RX4 (sIdx.getD i 0) (sTxt.getD i "") (cz G (1000 + i)) U) ∧
  va_Z RX5 "KIND_ABOVE" "[I" (.ref (cz G 3000)) (cA G) U H ∧
  va_T .int (cz G 3000) 6 (fun j => .int (kaf j)) (cA G) U H ∧
  va_Z RJ0 "COMPACT_STRINGS" "Z" (.int 1) (cA G) U H ∧
  ((cF G).category = 1 ∧ va_Z RJ3 "SIOOBE_FORMATTER" "Ljava/util/function/BiFunction;" (rv (cz G) (cF G)) (cA G) U H) ∧
  va_T .int (cz G 4000) (cL G) (fun j => .int (cX G j)) (cA G) U H
theorem Ex.warm {G : Cf} {s U : State} {H : Heap} (hW : s.WarmedH U.vm) (h : Ex G s H) : Ex G U H :=
  ⟨vk_S.moved hW.alike h.1, fun i hi => vk_R.warm hW (h.2.1 i hi), va_Z.moved hW.alike h.2.2.1, va_T.moved hW.alike h.2.2.2.1, va_Z.moved hW.alike h.2.2.2.2.1, ⟨h.2.2.2.2.2.1.1, va_Z.moved hW.alike h.2.2.2.2.2.1.2⟩, va_T.moved hW.alike h.2.2.2.2.2.2⟩
theorem Ex.same {G : Cf} {u U : State} {H : Heap} (hv : U.vm = u.vm) (h : Ex G u H) : Ex G U H := by
  have ha : u.vm.Alike U.vm := by rw [hv]; exact Vm.Alike.refl u.vm
  exact ⟨vk_S.moved ha h.1, fun i hi => vk_R.same hv (h.2.1 i hi), va_Z.moved ha h.2.2.1, va_T.moved ha h.2.2.2.1, va_Z.moved ha h.2.2.2.2.1, ⟨h.2.2.2.2.2.1.1, va_Z.moved ha h.2.2.2.2.2.1.2⟩, va_T.moved ha h.2.2.2.2.2.2⟩
theorem Ex.kept {G : Cf} {U : State} {H H1 : Heap} (h : Ex G U H) (hq : ∀ a : Nat, a < H.size → ¬ cA G a → H1[a]? = H[a]?) : Ex G U H1 :=
  ⟨h.1.kept hq, h.2.1, h.2.2.1.kept hq, h.2.2.2.1.kept hq, h.2.2.2.2.1.kept hq, ⟨h.2.2.2.2.2.1.1, h.2.2.2.2.2.1.2.kept hq⟩, h.2.2.2.2.2.2.kept hq⟩
/-! locals -/
def lget : List (Option Value) → Nat → Option Value
  | [], _ => none
  | a :: _, 0 => a
  | _ :: l, n + 1 => lget l n
def lput : List (Option Value) → Nat → Option Value → List (Option Value)
  | [], _, _ => []
  | _ :: l, 0, v => v :: l
  | a :: l, n + 1, v => a :: lput l n v
theorem lget_lput (L : List (Option Value)) : ∀ (i : Nat) (v : Option Value) (j : Nat) (u : Value), lget (lput L i v) j = some u → (j = i ∧ v = some u) ∨ (j ≠ i ∧ lget L j = some u) := by
  induction L with
  | nil => intro i v j u h; simp [lput, lget] at h
  | cons a l ih =>
    intro i v j u h
    cases i with
    | zero =>
      cases j with
      | zero => exact Or.inl ⟨rfl, h⟩
      | succ j => exact Or.inr ⟨by omega, h⟩
    | succ i =>
      cases j with
      | zero => exact Or.inr ⟨by omega, h⟩
      | succ j =>
        rcases ih i v j u h with ⟨e, q⟩ | ⟨e, q⟩
        · exact Or.inl ⟨by omega, q⟩
        · exact Or.inr ⟨by omega, q⟩
def lkill (L : List (Option Value)) : Nat → List (Option Value)
  | 0 => L
  | i + 1 => match lget L i with
    | some (.long _) => lput L i none
    | some (.double _) => lput L i none
    | _ => L
theorem lget_lkill {L : List (Option Value)} {i j : Nat} {u : Value} (h : lget (lkill L i) j = some u) : lget L j = some u ∧ ¬ (j + 1 = i ∧ u.category = 2) := by
  cases i with
  | zero => exact ⟨h, by omega⟩
  | succ i =>
    simp only [lkill] at h
    split at h
    next x e =>
      rcases lget_lput _ _ _ _ _ h with ⟨-, q⟩ | ⟨e2, q⟩
      · cases q
      · exact ⟨q, by omega⟩
    next x e =>
      rcases lget_lput _ _ _ _ _ h with ⟨-, q⟩ | ⟨e2, q⟩
      · cases q
      · exact ⟨q, by omega⟩
    next h1 h2 =>
      refine ⟨h, fun q => ?_⟩
      obtain ⟨q1, q2⟩ := q
      have : j = i := by omega
      subst this
      cases u with
      | long x => exact h1 x h
      | double x => exact h2 x h
      | _ => simp [Value.category] at q2
abbrev lst1 (L : List (Option Value)) (i : Nat) (v : Value) : List (Option Value) := lput (lkill L i) i (some v)
abbrev lst2 (L : List (Option Value)) (i : Nat) (v : Value) : List (Option Value) := lput (lput (lkill L i) (i + 1) none) i (some v)
def Lh (G : Cf) (ls : Array Slot) (n : Nat) (L : List (Option Value)) : Prop := ls.size = n ∧ lv_wf ls ∧ ∀ i v, lget L i = some v → ls[i]? = some (.val (rv (cz G) v))
def La (G : Cf) (L : List (Option Value)) : List (Nat × Value) := (List.range L.length).filterMap (fun i => (lget L i).map (fun v => (i, rv (cz G) v)))
theorem lget_lt {L : List (Option Value)} : ∀ {i : Nat} {v : Value}, lget L i = some v → i < L.length := by
  induction L with
  | nil => intro i v h; simp [lget] at h
  | cons a l ih =>
    intro i v h
    cases i with
    | zero => simp
    | succ i => have := ih h; simp; omega
theorem La_mem {G : Cf} {L : List (Option Value)} {i : Nat} {v : Value} (h : lget L i = some v) : (i, rv (cz G) v) ∈ La G L :=
  List.mem_filterMap.mpr ⟨i, List.mem_range.mpr (lget_lt h), by rw [h]; rfl⟩
theorem Lh.has {G : Cf} {ls : Array Slot} {n : Nat} {L : List (Option Value)} (h : Lh G ls n L) : lv_has ls n (La G L) := by
  refine ⟨h.1, h.2.1, fun q hq => ?_⟩
  obtain ⟨i, -, hi⟩ := List.mem_filterMap.mp hq
  cases hl : lget L i with
  | none => rw [hl] at hi; cases hi
  | some v =>
    rw [hl] at hi
    cases hi
    exact h.2.2 i v hl
theorem Lh.st1 {G : Cf} {ls : Array Slot} {n i : Nat} {L : List (Option Value)} {v : Value} (h : lv_has ls n ((i, rv (cz G) v) :: (La G L).filter (fun q => !(q.1 == i) && !(q.1 + 1 == i && q.2.category == 2)))) : Lh G ls n (lst1 L i v) := by
  refine ⟨h.1, h.2.1, fun j u hj => ?_⟩
  rcases lget_lput _ _ _ _ _ hj with ⟨e, q⟩ | ⟨e, q⟩
  · subst e; cases q
    exact h.2.2 _ List.mem_cons_self
  · obtain ⟨q1, q2⟩ := lget_lkill q
    refine h.2.2 (j, rv (cz G) u) (List.mem_cons_of_mem _ (List.mem_filter.mpr ⟨La_mem q1, ?_⟩))
    simp only [Bool.and_eq_true, Bool.not_eq_true', beq_eq_false_iff_ne, Bool.and_eq_false_iff, rv_cat]
    refine ⟨e, ?_⟩
    by_cases a : j + 1 = i
    · exact Or.inr (fun b => q2 ⟨a, b⟩)
    · exact Or.inl a
theorem Lh.st2 {G : Cf} {ls : Array Slot} {n i : Nat} {L : List (Option Value)} {v : Value} (h : lv_has ls n ((i, rv (cz G) v) :: (La G L).filter (fun q => !(q.1 == i) && (!(q.1 == i + 1) && !(q.1 + 1 == i && q.2.category == 2))))) : Lh G ls n (lst2 L i v) := by
  refine ⟨h.1, h.2.1, fun j u hj => ?_⟩
  rcases lget_lput _ _ _ _ _ hj with ⟨e, q⟩ | ⟨e, q⟩
  · subst e; cases q
    exact h.2.2 _ List.mem_cons_self
  · rcases lget_lput _ _ _ _ _ q with ⟨e2, q⟩ | ⟨e2, q⟩
    · cases q
    · obtain ⟨q1, q2⟩ := lget_lkill q
      refine h.2.2 (j, rv (cz G) u) (List.mem_cons_of_mem _ (List.mem_filter.mpr ⟨La_mem q1, ?_⟩))
      simp only [Bool.and_eq_true, Bool.not_eq_true', beq_eq_false_iff_ne, Bool.and_eq_false_iff, rv_cat]
      refine ⟨e, e2, ?_⟩
      by_cases a : j + 1 = i
      · exact Or.inr (fun b => q2 ⟨a, b⟩)
      · exact Or.inl a
/-! a method: its bytes, locals, own name, answer, room, name -/
abbrev MI : Type := ByteArray × Nat × String × Option FieldType × Room × MethodName
abbrev mC (M : MI) : ByteArray := M.1
abbrev mN (M : MI) : Nat := M.2.1
abbrev mO (M : MI) : String := M.2.2.1
abbrev mT (M : MI) : Option FieldType := M.2.2.2.1
abbrev mR (M : MI) : Room := M.2.2.2.2.1
abbrev mY (M : MI) : MethodName := M.2.2.2.2.2
abbrev mW (M : MI) : List Cond := Cond.code (mY M) (mC M) (mN M) (mT M) :: lw_good
def Cx (G : Cf) (M : MI) (p : Program) (s : State) (m : MethodId) (args : Array Value) (c : Code) : Prop :=
  CallFix p m c (mC M) (mN M) s args lw_good (mO M) ∧ va_K (cD G) vwCl (tysG G) s ∧ Ex G s s.heap
def WH (G : Cf) (s : State) (H : Heap) (locs : List Loc) (w : Wd) : Prop := va_P (cD G) vwCl (rW G w) H ∧ va_D (cA G) (rW G w) ∧ va_S (cA G) s.heap H locs
def RetI (M : MI) (pc : Nat) (v : Option Value) : Prop := match v with
  | none => decode (mC M) pc = .ok (.return_, 1) ∧ mT M = none
  | some (.int x) => decode (mC M) pc = .ok (.ireturn, 1) ∧ ∃ ty, mT M = some ty ∧ narrow ty (.int x) = .int x
  | some (.long _) => decode (mC M) pc = .ok (.lreturn, 1) ∧ mT M = some .long
  | some (.ref _) => decode (mC M) pc = .ok (.areturn, 1) ∧ ∃ n, mT M = some (.object n)
  | some .null => decode (mC M) pc = .ok (.areturn, 1) ∧ ∃ n, mT M = some (.object n)
  | _ => False
abbrev QW : Type := Option Value → Wd → Prop
def JE (G : Cf) (M : MI) (p : Program) (l : Launch) (e : Env) (s : State) (m : MethodId) (args : Array Value) (below : List Frame) (meth : Method) (c : Code) (cells slots : Nat) (Qf : State → Prop) (Q : QW) : Prop :=
  ∀ (pc : Nat) (ls : Array Slot) (H : Heap) (locs : List Loc) (v : Option Value) (w : Wd), Q v w → RetI M pc v → WH G s H locs w → W p l e (mR M) s m args below meth c H locs cells slots Qf (F0 m pc ls (v.toList.map (rv (cz G))))
/-- from here the method comes to its end, with an answer and a world of Q -/
def J (G : Cf) (M : MI) (pc : Nat) (L : List (Option Value)) (st : List Value) (w : Wd) (Q : QW) : Prop :=
  ∀ (p : Program) (l : Launch) (e : Env) (s : State) (m : MethodId) (args : Array Value) (below : List Frame) (meth : Method) (c : Code) (cells slots : Nat) (Qf : State → Prop),
    Cx G M p s m args c → (cells ≤ (mR M).cells ∧ slots ≤ (mR M).slots) → JE G M p l e s m args below meth c cells slots Qf Q →
    ∀ (ls : Array Slot) (H : Heap) (locs : List Loc), WH G s H locs w → Lh G ls (mN M) L → W p l e (mR M) s m args below meth c H locs cells slots Qf (F0 m pc ls (st.map (rv (cz G))))
def Is (r : Option Value) (w : Wd) : QW := fun v u => v = r ∧ u = w
/-- a contract -/
def GW (G : Cf) (w : Wd) (U : State) : Prop := va_P (cD G) vwCl (rW G w) U.heap ∧ va_D (cA G) (rW G w) ∧ va_K (cD G) vwCl (tysG G) U ∧ Ex G U U.heap
def QG (G : Cf) (Q : QW) : Array Value → State → Outcome → State → Prop := fun _ st o t => (∃ v w, o = .returned (v.map (rv (cz G))) ∧ Q v w ∧ va_P (cD G) vwCl (rW G w) t.heap ∧ va_D (cA G) (rW G w)) ∧ va_F (cA G) st t
def Does (G : Cf) (M : MI) (as : List Value) (w : Wd) (Q : QW) : Prop := ∀ l : Launch, Met l (mY M) (mW M) (mR M) (va_Pc (as.map (rv (cz G))) (GW G w)) (QG G Q) 0 0 (cA G)
def lent : List Value → List (Option Value)
  | [] => []
  | .long x :: vs => some (.long x) :: none :: lent vs
  | .double x :: vs => some (.double x) :: none :: lent vs
  | v :: vs => some v :: lent vs
theorem lent_args (G : Cf) (vs : List Value) : ∀ (i j : Nat) (u : Value), lget (lent vs) j = some u → (i + j, rv (cz G) u) ∈ lv_args i (vs.map (rv (cz G))) := by
  induction vs with
  | nil => intro i j u h; simp [lent, lget] at h
  | cons v vs ih =>
    intro i j u h
    have one : lent (v :: vs) = some v :: lent vs → v.category = 1 → (i + j, rv (cz G) u) ∈ lv_args i ((v :: vs).map (rv (cz G))) := by
      intro e hc
      rw [e] at h
      cases j with
      | zero => cases h; exact List.mem_cons_self
      | succ j =>
        have := ih (i + 1) j u h
        rw [List.map_cons, lv_args, rv_cat, if_neg (by omega)]
        rw [show i + (j + 1) = i + 1 + j by omega]
        exact List.mem_cons_of_mem _ this
    have two : lent (v :: vs) = some v :: none :: lent vs → v.category = 2 → (i + j, rv (cz G) u) ∈ lv_args i ((v :: vs).map (rv (cz G))) := by
      intro e hc
      rw [e] at h
      cases j with
      | zero => cases h; exact List.mem_cons_self
      | succ j =>
        cases j with
        | zero => cases h
        | succ j =>
          have := ih (i + 2) j u h
          rw [List.map_cons, lv_args, rv_cat, if_pos hc]
          rw [show i + (j + 1 + 1) = i + 2 + j by omega]
          exact List.mem_cons_of_mem _ this
    cases v with
    | long x => exact two rfl rfl
    | double x => exact two rfl rfl
    | _ => exact one rfl rfl
theorem lg_sl_rv (z : Nat → Nat) (vs : List Value) : (lg_sl (vs.map (rv z))).length = (lg_sl vs).length := by
  induction vs with
  | nil => rfl
  | cons v vs ih =>
    simp only [lg_sl, List.map_cons, List.flatMap_cons, List.length_append] at ih ⊢
    rw [ih, rv_cat]
    by_cases h : v.category = 2 <;> simp [h]
theorem Does.of {G : Cf} {M : MI} {as : List Value} {w : Wd} {Q : QW} (hy : plainName (mY M).cls = true) (ho : (mY M).cls = mO M) (hc : (mR M).cells = 0 ∧ (mR M).slots = 0) (hn : (lg_sl as).length ≤ mN M) (k : J G M 0 (lent as) [] w Q) : Does G M as w Q := by
  intro l
  refine Met.ofW (cc := mC M) (maxL := mN M) (ret := mT M) hy rfl ?_
  intro p e s m args below meth c s₁ B hml hv
  obtain ⟨rfl, hP, hD, hK, hE⟩ := hv
  have hx := B.exec
  have hb := B.bytes
  have hr := B.returns
  have hts := atoms_spec (ws := mW M) B.pre
  have hown : s.vm.findClass (mO M) = some m.cls := by rw [← ho]; exact findClass_of_methodNamed B.named
  have hlocks := B.notSynchronized
  have hl := lv_entry (as.map (rv (cz G))) (n := mN M) (by rw [lg_sl_rv]; exact hn)
  rw [lg_entry_eq]
  generalize (lg_sl (as.map (rv (cz G))) ++ List.replicate (mN M - (lg_sl (as.map (rv (cz G)))).length) Slot.unset).toArray = ls at hl ⊢
  have hL : Lh G ls (mN M) (lent as) := ⟨hl.1, hl.2.1, fun i v h => hl.2.2 (i, rv (cz G) v) (by have := lent_args G as 0 i v h; rwa [Nat.zero_add] at this)⟩
  refine k p l e s m _ below meth c 0 0 _ ⟨⟨hx, hb, hml, hown, fun w hw => hts w (List.mem_cons_of_mem _ hw)⟩, hK, hE⟩ ⟨Nat.zero_le _, Nat.zero_le _⟩ ?_ ls s.heap [] ⟨hP, hD, va_S.rf⟩ hL
  intro pc ls H locs v w1 hq hret hw
  obtain ⟨hP1, hD1, hS1⟩ := hw
  have post : ∀ t : State, t.heap = H → QG G Q (as.map (rv (cz G))).toArray s (.returned (v.map (rv (cz G)))) t := fun t ht => ⟨⟨v, w1, rfl, hq, by rw [ht]; exact hP1, hD1⟩, hS1.F ht⟩
  cases v with
  | none => exact W.vret hx hb (hr.trans hret.2) (fun t ht _ => post t ht) hS1.2.2 hret.1
  | some v =>
    cases v with
    | int x =>
      obtain ⟨h1, ty, h2, h3⟩ := hret
      exact W.zret hx hb (hr.trans h2) h3 (fun t ht _ => post t ht) hS1.2.2 h1
    | long x => exact W.lret hx hb (hr.trans hret.2) (fun t ht _ => post t ht) hS1.2.2 hret.1
    | ref x =>
      obtain ⟨h1, n, h2⟩ := hret
      exact W.aret hx hb (hr.trans h2) (Or.inl ⟨n, rfl⟩) (Or.inr ⟨_, rfl⟩) (fun t ht _ => post t ht) hS1.2.2 h1
    | null =>
      obtain ⟨h1, n, h2⟩ := hret
      exact W.aret hx hb (hr.trans h2) (Or.inl ⟨n, rfl⟩) (Or.inl rfl) (fun t ht _ => post t ht) hS1.2.2 h1
    | float x => exact hret.elim
    | double x => exact hret.elim
    | retAddr x => exact hret.elim
section JRows
variable {G : Cf} {M : MI} {pc : Nat} {L : List (Option Value)} {st : List Value} {w : Wd} {Q : QW}
theorem j_iadd {x y : Int32} (hd : decode (mC M) pc = .ok (.iadd, 1)) (k : J G M (pc + 1) L (.int (x + y) :: st) w Q) : J G M pc L (.int y :: .int x :: st) w Q := by
  intro p l e s m args below meth c cells slots Qf C hR hE ls H locs hw hl
  exact lv_iadd C.1.1 C.1.2.1 hd (k p l e s m args below meth c cells slots Qf C hR hE ls H locs hw hl)
theorem j_isub {x y : Int32} (hd : decode (mC M) pc = .ok (.isub, 1)) (k : J G M (pc + 1) L (.int (x - y) :: st) w Q) : J G M pc L (.int y :: .int x :: st) w Q := by
  intro p l e s m args below meth c cells slots Qf C hR hE ls H locs hw hl
  exact lv_isub C.1.1 C.1.2.1 hd (k p l e s m args below meth c cells slots Qf C hR hE ls H locs hw hl)
theorem j_imul {x y : Int32} (hd : decode (mC M) pc = .ok (.imul, 1)) (k : J G M (pc + 1) L (.int (x * y) :: st) w Q) : J G M pc L (.int y :: .int x :: st) w Q := by
  intro p l e s m args below meth c cells slots Qf C hR hE ls H locs hw hl
  exact lv_imul C.1.1 C.1.2.1 hd (k p l e s m args below meth c cells slots Qf C hR hE ls H locs hw hl)
theorem j_iand {x y : Int32} (hd : decode (mC M) pc = .ok (.iand, 1)) (k : J G M (pc + 1) L (.int (x &&& y) :: st) w Q) : J G M pc L (.int y :: .int x :: st) w Q := by
  intro p l e s m args below meth c cells slots Qf C hR hE ls H locs hw hl
  exact lv_iand C.1.1 C.1.2.1 hd (k p l e s m args below meth c cells slots Qf C hR hE ls H locs hw hl)
theorem j_ior {x y : Int32} (hd : decode (mC M) pc = .ok (.ior, 1)) (k : J G M (pc + 1) L (.int (x ||| y) :: st) w Q) : J G M pc L (.int y :: .int x :: st) w Q := by
  intro p l e s m args below meth c cells slots Qf C hR hE ls H locs hw hl
  exact lv_ior C.1.1 C.1.2.1 hd (k p l e s m args below meth c cells slots Qf C hR hE ls H locs hw hl)
theorem j_ixor {x y : Int32} (hd : decode (mC M) pc = .ok (.ixor, 1)) (k : J G M (pc + 1) L (.int (x ^^^ y) :: st) w Q) : J G M pc L (.int y :: .int x :: st) w Q := by
  intro p l e s m args below meth c cells slots Qf C hR hE ls H locs hw hl
  exact lv_ixor C.1.1 C.1.2.1 hd (k p l e s m args below meth c cells slots Qf C hR hE ls H locs hw hl)
theorem j_ishl {x y : Int32} (hd : decode (mC M) pc = .ok (.ishl, 1)) (k : J G M (pc + 1) L (.int (x <<< (y &&& 31)) :: st) w Q) : J G M pc L (.int y :: .int x :: st) w Q := by
  intro p l e s m args below meth c cells slots Qf C hR hE ls H locs hw hl
  exact lv_ishl C.1.1 C.1.2.1 hd (k p l e s m args below meth c cells slots Qf C hR hE ls H locs hw hl)
theorem j_ishr {x y : Int32} (hd : decode (mC M) pc = .ok (.ishr, 1)) (k : J G M (pc + 1) L (.int (x >>> (y &&& 31)) :: st) w Q) : J G M pc L (.int y :: .int x :: st) w Q := by
  intro p l e s m args below meth c cells slots Qf C hR hE ls H locs hw hl
  exact lv_ishr C.1.1 C.1.2.1 hd (k p l e s m args below meth c cells slots Qf C hR hE ls H locs hw hl)
theorem j_idiv {x y : Int32} (hd : decode (mC M) pc = .ok (.idiv, 1)) (hne : ¬ y = 0) (k : J G M (pc + 1) L (.int (x / y) :: st) w Q) : J G M pc L (.int y :: .int x :: st) w Q := by
  intro p l e s m args below meth c cells slots Qf C hR hE ls H locs hw hl
  exact lv_idiv C.1.1 C.1.2.1 hd hne (k p l e s m args below meth c cells slots Qf C hR hE ls H locs hw hl)
theorem j_irem {x y : Int32} (hd : decode (mC M) pc = .ok (.irem, 1)) (hne : ¬ y = 0) (k : J G M (pc + 1) L (.int (x - x / y * y) :: st) w Q) : J G M pc L (.int y :: .int x :: st) w Q := by
  intro p l e s m args below meth c cells slots Qf C hR hE ls H locs hw hl
  exact lv_irem C.1.1 C.1.2.1 hd hne (k p l e s m args below meth c cells slots Qf C hR hE ls H locs hw hl)
theorem j_iushr {x y : Int32} (hd : decode (mC M) pc = .ok (.iushr, 1)) (k : J G M (pc + 1) L (.int ((x.toUInt32 >>> (y.toUInt32 &&& Int32.toUInt32 31)).toInt32) :: st) w Q) : J G M pc L (.int y :: .int x :: st) w Q := by
  intro p l e s m args below meth c cells slots Qf C hR hE ls H locs hw hl
  exact lv_iushr C.1.1 C.1.2.1 hd rfl (k p l e s m args below meth c cells slots Qf C hR hE ls H locs hw hl)
theorem j_ladd {x y : Int64} (hd : decode (mC M) pc = .ok (.ladd, 1)) (k : J G M (pc + 1) L (.long (x + y) :: st) w Q) : J G M pc L (.long y :: .long x :: st) w Q := by
  intro p l e s m args below meth c cells slots Qf C hR hE ls H locs hw hl
  exact lv_ladd C.1.1 C.1.2.1 hd (k p l e s m args below meth c cells slots Qf C hR hE ls H locs hw hl)
theorem j_lsub {x y : Int64} (hd : decode (mC M) pc = .ok (.lsub, 1)) (k : J G M (pc + 1) L (.long (x - y) :: st) w Q) : J G M pc L (.long y :: .long x :: st) w Q := by
  intro p l e s m args below meth c cells slots Qf C hR hE ls H locs hw hl
  exact lv_lsub C.1.1 C.1.2.1 hd (k p l e s m args below meth c cells slots Qf C hR hE ls H locs hw hl)
theorem j_lmul {x y : Int64} (hd : decode (mC M) pc = .ok (.lmul, 1)) (k : J G M (pc + 1) L (.long (x * y) :: st) w Q) : J G M pc L (.long y :: .long x :: st) w Q := by
  intro p l e s m args below meth c cells slots Qf C hR hE ls H locs hw hl
  exact lv_lmul C.1.1 C.1.2.1 hd (k p l e s m args below meth c cells slots Qf C hR hE ls H locs hw hl)
theorem j_land {x y : Int64} (hd : decode (mC M) pc = .ok (.land, 1)) (k : J G M (pc + 1) L (.long (x &&& y) :: st) w Q) : J G M pc L (.long y :: .long x :: st) w Q := by
  intro p l e s m args below meth c cells slots Qf C hR hE ls H locs hw hl
  exact lv_land C.1.1 C.1.2.1 hd (k p l e s m args below meth c cells slots Qf C hR hE ls H locs hw hl)
theorem j_lor {x y : Int64} (hd : decode (mC M) pc = .ok (.lor, 1)) (k : J G M (pc + 1) L (.long (x ||| y) :: st) w Q) : J G M pc L (.long y :: .long x :: st) w Q := by
  intro p l e s m args below meth c cells slots Qf C hR hE ls H locs hw hl
  exact lv_lor C.1.1 C.1.2.1 hd (k p l e s m args below meth c cells slots Qf C hR hE ls H locs hw hl)
theorem j_lshl {x : Int64} {y : Int32} (hd : decode (mC M) pc = .ok (.lshl, 1)) (k : J G M (pc + 1) L (.long (x <<< (y.toInt64 &&& 63)) :: st) w Q) : J G M pc L (.int y :: .long x :: st) w Q := by
  intro p l e s m args below meth c cells slots Qf C hR hE ls H locs hw hl
  exact lv_lshl C.1.1 C.1.2.1 hd rfl (k p l e s m args below meth c cells slots Qf C hR hE ls H locs hw hl)
theorem j_lshr {x : Int64} {y : Int32} (hd : decode (mC M) pc = .ok (.lshr, 1)) (k : J G M (pc + 1) L (.long (x >>> (y.toInt64 &&& 63)) :: st) w Q) : J G M pc L (.int y :: .long x :: st) w Q := by
  intro p l e s m args below meth c cells slots Qf C hR hE ls H locs hw hl
  exact lv_lshr C.1.1 C.1.2.1 hd rfl (k p l e s m args below meth c cells slots Qf C hR hE ls H locs hw hl)
theorem j_i2l {x : Int32} (hd : decode (mC M) pc = .ok (.i2l, 1)) (k : J G M (pc + 1) L (.long x.toInt64 :: st) w Q) : J G M pc L (.int x :: st) w Q := by
  intro p l e s m args below meth c cells slots Qf C hR hE ls H locs hw hl
  exact lv_i2l C.1.1 C.1.2.1 hd rfl (k p l e s m args below meth c cells slots Qf C hR hE ls H locs hw hl)
theorem j_l2i {x : Int64} (hd : decode (mC M) pc = .ok (.l2i, 1)) (k : J G M (pc + 1) L (.int x.toInt32 :: st) w Q) : J G M pc L (.long x :: st) w Q := by
  intro p l e s m args below meth c cells slots Qf C hR hE ls H locs hw hl
  exact lv_l2i C.1.1 C.1.2.1 hd rfl (k p l e s m args below meth c cells slots Qf C hR hE ls H locs hw hl)
theorem j_i2b {x : Int32} (hd : decode (mC M) pc = .ok (.i2b, 1)) (k : J G M (pc + 1) L (.int x.toInt8.toInt32 :: st) w Q) : J G M pc L (.int x :: st) w Q := by
  intro p l e s m args below meth c cells slots Qf C hR hE ls H locs hw hl
  exact lv_i2b C.1.1 C.1.2.1 hd rfl (k p l e s m args below meth c cells slots Qf C hR hE ls H locs hw hl)
theorem j_i2s {x : Int32} (hd : decode (mC M) pc = .ok (.i2s, 1)) (k : J G M (pc + 1) L (.int x.toInt16.toInt32 :: st) w Q) : J G M pc L (.int x :: st) w Q := by
  intro p l e s m args below meth c cells slots Qf C hR hE ls H locs hw hl
  exact lv_i2s C.1.1 C.1.2.1 hd rfl (k p l e s m args below meth c cells slots Qf C hR hE ls H locs hw hl)
theorem j_i2c {x : Int32} (hd : decode (mC M) pc = .ok (.i2c, 1)) (k : J G M (pc + 1) L (.int (x.toUInt32 % 65536).toInt32 :: st) w Q) : J G M pc L (.int x :: st) w Q := by
  intro p l e s m args below meth c cells slots Qf C hR hE ls H locs hw hl
  exact lv_i2c C.1.1 C.1.2.1 hd rfl (k p l e s m args below meth c cells slots Qf C hR hE ls H locs hw hl)
theorem j_lcmp {x y : Int64} (hd : decode (mC M) pc = .ok (.lcmp, 1)) (k : J G M (pc + 1) L (.int (lg_cmp x y) :: st) w Q) : J G M pc L (.long y :: .long x :: st) w Q := by
  intro p l e s m args below meth c cells slots Qf C hR hE ls H locs hw hl
  exact W.lcmp C.1.1 C.1.2.1 hd (k p l e s m args below meth c cells slots Qf C hR hE ls H locs hw hl)
theorem j_iconst {n : Int} (v : Int32) (hd : decode (mC M) pc = .ok (.iconst n, 1)) (hv : Int32.ofInt n = v) (k : J G M (pc + 1) L (.int v :: st) w Q) : J G M pc L (st) w Q := by
  intro p l e s m args below meth c cells slots Qf C hR hE ls H locs hw hl
  exact lv_iconst C.1.1 C.1.2.1 hd hv (k p l e s m args below meth c cells slots Qf C hR hE ls H locs hw hl)
theorem j_bipush {n : Int} (v : Int32) (hd : decode (mC M) pc = .ok (.bipush n, 2)) (hv : (Int8.ofInt n).toInt32 = v) (k : J G M (pc + 2) L (.int v :: st) w Q) : J G M pc L (st) w Q := by
  intro p l e s m args below meth c cells slots Qf C hR hE ls H locs hw hl
  exact lv_bipush C.1.1 C.1.2.1 hd hv (k p l e s m args below meth c cells slots Qf C hR hE ls H locs hw hl)
theorem j_sipush {n : Int} (v : Int32) (hd : decode (mC M) pc = .ok (.sipush n, 3)) (hv : (Int16.ofInt n).toInt32 = v) (k : J G M (pc + 3) L (.int v :: st) w Q) : J G M pc L (st) w Q := by
  intro p l e s m args below meth c cells slots Qf C hR hE ls H locs hw hl
  exact lv_sipush C.1.1 C.1.2.1 hd hv (k p l e s m args below meth c cells slots Qf C hR hE ls H locs hw hl)
theorem j_lconst {n : Fin 2} (v : Int64) (hd : decode (mC M) pc = .ok (.lconst n, 1)) (hv : Int64.ofNat (n : Nat) = v) (k : J G M (pc + 1) L (.long v :: st) w Q) : J G M pc L (st) w Q := by
  intro p l e s m args below meth c cells slots Qf C hR hE ls H locs hw hl
  exact lv_lconst C.1.1 C.1.2.1 hd hv (k p l e s m args below meth c cells slots Qf C hR hE ls H locs hw hl)
theorem j_null (hd : decode (mC M) pc = .ok (.aconst_null, 1)) (k : J G M (pc + 1) L (.null :: st) w Q) : J G M pc L (st) w Q := by
  intro p l e s m args below meth c cells slots Qf C hR hE ls H locs hw hl
  exact lv_null C.1.1 C.1.2.1 hd (k p l e s m args below meth c cells slots Qf C hR hE ls H locs hw hl)
theorem j_ldc {idx : Nat} {v : Int32} (hc : Cond.constant (mO M) idx v ∈ lw_good) (hd : decode (mC M) pc = .ok (.ldc idx, 2)) (k : J G M (pc + 2) L (.int v :: st) w Q) : J G M pc L st w Q := by
  intro p l e s m args below meth c cells slots Qf C hR hE ls H locs hw hl
  exact lv_ldc C.1.1 C.1.2.1 C.1.2.2.2.1 (C.1.2.2.2.2 _ hc) hd (k p l e s m args below meth c cells slots Qf C hR hE ls H locs hw hl)
theorem j_ldcw {idx : Nat} {v : Int32} (hc : Cond.constant (mO M) idx v ∈ lw_good) (hd : decode (mC M) pc = .ok (.ldc_w idx, 3)) (k : J G M (pc + 3) L (.int v :: st) w Q) : J G M pc L st w Q := by
  intro p l e s m args below meth c cells slots Qf C hR hE ls H locs hw hl
  exact lv_ldcw C.1.1 C.1.2.1 C.1.2.2.2.1 (C.1.2.2.2.2 _ hc) hd (k p l e s m args below meth c cells slots Qf C hR hE ls H locs hw hl)
theorem j_ldc2 {idx : Nat} {v : Int64} (hc : Cond.constantLong (mO M) idx v ∈ lw_good) (hd : decode (mC M) pc = .ok (.ldc2_w idx, 3)) (k : J G M (pc + 3) L (.long v :: st) w Q) : J G M pc L st w Q := by
  intro p l e s m args below meth c cells slots Qf C hR hE ls H locs hw hl
  exact lv_ldc2 C.1.1 C.1.2.1 C.1.2.2.2.1 (C.1.2.2.2.2 _ hc) hd (k p l e s m args below meth c cells slots Qf C hR hE ls H locs hw hl)
theorem j_iload_n {k : Fin 4} {x : Int32} (hd : decode (mC M) pc = .ok (.iload_n k, 1)) (hg : lget L (k : Nat) = some (.int x)) (k2 : J G M (pc + 1) L (.int x :: st) w Q) : J G M pc L st w Q := by
  intro p l e s m args below meth c cells slots Qf C hR hE ls H locs hw hl
  exact lv_iload_n C.1.1 C.1.2.1 hd rfl (hl.2.2 _ _ hg) (k2 p l e s m args below meth c cells slots Qf C hR hE ls H locs hw hl)
theorem j_iload {i : Nat} {x : Int32} (hd : decode (mC M) pc = .ok (.iload i, 2)) (hg : lget L i = some (.int x)) (k2 : J G M (pc + 2) L (.int x :: st) w Q) : J G M pc L st w Q := by
  intro p l e s m args below meth c cells slots Qf C hR hE ls H locs hw hl
  exact lv_iload C.1.1 C.1.2.1 hd (hl.2.2 _ _ hg) (k2 p l e s m args below meth c cells slots Qf C hR hE ls H locs hw hl)
theorem j_lload_n {k : Fin 4} {x : Int64} (hd : decode (mC M) pc = .ok (.lload_n k, 1)) (hg : lget L (k : Nat) = some (.long x)) (k2 : J G M (pc + 1) L (.long x :: st) w Q) : J G M pc L st w Q := by
  intro p l e s m args below meth c cells slots Qf C hR hE ls H locs hw hl
  exact lv_lload_n C.1.1 C.1.2.1 hd rfl (hl.2.2 _ _ hg) (k2 p l e s m args below meth c cells slots Qf C hR hE ls H locs hw hl)
theorem j_lload {i : Nat} {x : Int64} (hd : decode (mC M) pc = .ok (.lload i, 2)) (hg : lget L i = some (.long x)) (k2 : J G M (pc + 2) L (.long x :: st) w Q) : J G M pc L st w Q := by
  intro p l e s m args below meth c cells slots Qf C hR hE ls H locs hw hl
  exact lv_lload C.1.1 C.1.2.1 hd (hl.2.2 _ _ hg) (k2 p l e s m args below meth c cells slots Qf C hR hE ls H locs hw hl)
theorem j_aload_n {k : Fin 4} {x : Nat} (hd : decode (mC M) pc = .ok (.aload_n k, 1)) (hg : lget L (k : Nat) = some (.ref x)) (k2 : J G M (pc + 1) L (.ref x :: st) w Q) : J G M pc L st w Q := by
  intro p l e s m args below meth c cells slots Qf C hR hE ls H locs hw hl
  exact lv_aload_n C.1.1 C.1.2.1 hd rfl (hl.2.2 _ _ hg) (k2 p l e s m args below meth c cells slots Qf C hR hE ls H locs hw hl)
theorem j_aload {i : Nat} {x : Nat} (hd : decode (mC M) pc = .ok (.aload i, 2)) (hg : lget L i = some (.ref x)) (k2 : J G M (pc + 2) L (.ref x :: st) w Q) : J G M pc L st w Q := by
  intro p l e s m args below meth c cells slots Qf C hR hE ls H locs hw hl
  exact lv_aload C.1.1 C.1.2.1 hd (hl.2.2 _ _ hg) (k2 p l e s m args below meth c cells slots Qf C hR hE ls H locs hw hl)
theorem j_aload_nN {k : Fin 4} (hd : decode (mC M) pc = .ok (.aload_n k, 1)) (hg : lget L (k : Nat) = some .null) (k2 : J G M (pc + 1) L (.null :: st) w Q) : J G M pc L st w Q := by
  intro p l e s m args below meth c cells slots Qf C hR hE ls H locs hw hl
  exact lv_aload_nN C.1.1 C.1.2.1 hd rfl (hl.2.2 _ _ hg) (k2 p l e s m args below meth c cells slots Qf C hR hE ls H locs hw hl)
theorem j_aloadN {i : Nat} (hd : decode (mC M) pc = .ok (.aload i, 2)) (hg : lget L i = some .null) (k2 : J G M (pc + 2) L (.null :: st) w Q) : J G M pc L st w Q := by
  intro p l e s m args below meth c cells slots Qf C hR hE ls H locs hw hl
  exact lv_aloadN C.1.1 C.1.2.1 hd (hl.2.2 _ _ hg) (k2 p l e s m args below meth c cells slots Qf C hR hE ls H locs hw hl)
theorem j_istore_n {k : Fin 4} {x : Int32} {L2 : List (Option Value)} (hd : decode (mC M) pc = .ok (.istore_n k, 1)) (hn : (k : Nat) < mN M) (hL : lst1 L (k : Nat) (.int x) = L2) (k2 : J G M (pc + 1) L2 st w Q) : J G M pc L (.int x :: st) w Q := by
  intro p l e s m args below meth c cells slots Qf C hR hE ls H locs hw hl
  subst hL
  exact lv_istore_n C.1.1 C.1.2.1 hd rfl hl.has hn rfl (fun ls2 hl2 => k2 p l e s m args below meth c cells slots Qf C hR hE ls2 H locs hw (Lh.st1 hl2))
theorem j_istore {i : Nat} {x : Int32} {L2 : List (Option Value)} (hd : decode (mC M) pc = .ok (.istore i, 2)) (hn : i < mN M) (hL : lst1 L i (.int x) = L2) (k2 : J G M (pc + 2) L2 st w Q) : J G M pc L (.int x :: st) w Q := by
  intro p l e s m args below meth c cells slots Qf C hR hE ls H locs hw hl
  subst hL
  exact lv_istore C.1.1 C.1.2.1 hd hl.has hn rfl (fun ls2 hl2 => k2 p l e s m args below meth c cells slots Qf C hR hE ls2 H locs hw (Lh.st1 hl2))
theorem j_astore_n {k : Fin 4} {x : Nat} {L2 : List (Option Value)} (hd : decode (mC M) pc = .ok (.astore_n k, 1)) (hn : (k : Nat) < mN M) (hL : lst1 L (k : Nat) (.ref x) = L2) (k2 : J G M (pc + 1) L2 st w Q) : J G M pc L (.ref x :: st) w Q := by
  intro p l e s m args below meth c cells slots Qf C hR hE ls H locs hw hl
  subst hL
  exact lv_astore_n C.1.1 C.1.2.1 hd rfl hl.has hn rfl (fun ls2 hl2 => k2 p l e s m args below meth c cells slots Qf C hR hE ls2 H locs hw (Lh.st1 hl2))
theorem j_astore {i : Nat} {x : Nat} {L2 : List (Option Value)} (hd : decode (mC M) pc = .ok (.astore i, 2)) (hn : i < mN M) (hL : lst1 L i (.ref x) = L2) (k2 : J G M (pc + 2) L2 st w Q) : J G M pc L (.ref x :: st) w Q := by
  intro p l e s m args below meth c cells slots Qf C hR hE ls H locs hw hl
  subst hL
  exact lv_astore C.1.1 C.1.2.1 hd hl.has hn rfl (fun ls2 hl2 => k2 p l e s m args below meth c cells slots Qf C hR hE ls2 H locs hw (Lh.st1 hl2))
theorem j_lstore_n {k : Fin 4} {x : Int64} {L2 : List (Option Value)} (hd : decode (mC M) pc = .ok (.lstore_n k, 1)) (hn : (k : Nat) + 1 < mN M) (hL : lst2 L (k : Nat) (.long x) = L2) (k2 : J G M (pc + 1) L2 st w Q) : J G M pc L (.long x :: st) w Q := by
  intro p l e s m args below meth c cells slots Qf C hR hE ls H locs hw hl
  subst hL
  exact lv_lstore_n C.1.1 C.1.2.1 hd rfl hl.has hn rfl (fun ls2 hl2 => k2 p l e s m args below meth c cells slots Qf C hR hE ls2 H locs hw (Lh.st2 hl2))
theorem j_lstore {i : Nat} {x : Int64} {L2 : List (Option Value)} (hd : decode (mC M) pc = .ok (.lstore i, 2)) (hn : i + 1 < mN M) (hL : lst2 L i (.long x) = L2) (k2 : J G M (pc + 2) L2 st w Q) : J G M pc L (.long x :: st) w Q := by
  intro p l e s m args below meth c cells slots Qf C hR hE ls H locs hw hl
  subst hL
  exact lv_lstore C.1.1 C.1.2.1 hd hl.has hn rfl (fun ls2 hl2 => k2 p l e s m args below meth c cells slots Qf C hR hE ls2 H locs hw (Lh.st2 hl2))
theorem j_astore_nN {k : Fin 4} {L2 : List (Option Value)} (hd : decode (mC M) pc = .ok (.astore_n k, 1)) (hn : (k : Nat) < mN M) (hL : lst1 L (k : Nat) .null = L2) (k2 : J G M (pc + 1) L2 st w Q) : J G M pc L (.null :: st) w Q := by
  intro p l e s m args below meth c cells slots Qf C hR hE ls H locs hw hl
  subst hL
  exact lv_astore_nN C.1.1 C.1.2.1 hd rfl hl.has hn rfl (fun ls2 hl2 => k2 p l e s m args below meth c cells slots Qf C hR hE ls2 H locs hw (Lh.st1 (v := .null) hl2))
theorem j_astoreN {i : Nat} {L2 : List (Option Value)} (hd : decode (mC M) pc = .ok (.astore i, 2)) (hn : i < mN M) (hL : lst1 L i .null = L2) (k2 : J G M (pc + 2) L2 st w Q) : J G M pc L (.null :: st) w Q := by
  intro p l e s m args below meth c cells slots Qf C hR hE ls H locs hw hl
  subst hL
  exact lv_astoreN C.1.1 C.1.2.1 hd hl.has hn rfl (fun ls2 hl2 => k2 p l e s m args below meth c cells slots Qf C hR hE ls2 H locs hw (Lh.st1 (v := .null) hl2))
theorem j_iinc {i : Nat} {n : Int} {x v : Int32} {L2 : List (Option Value)} (hd : decode (mC M) pc = .ok (.iinc i n, 3)) (hg : lget L i = some (.int x)) (hv : x + Int32.ofInt n = v) (hn : i < mN M) (hL : lst1 L i (.int v) = L2) (k2 : J G M (pc + 3) L2 st w Q) : J G M pc L st w Q := by
  intro p l e s m args below meth c cells slots Qf C hR hE ls H locs hw hl
  subst hL
  obtain ⟨q, hq⟩ := List.getElem?_of_mem (La_mem (G := G) hg)
  exact lv_iinc C.1.1 C.1.2.1 hd hl.has hq hv hn rfl (fun ls2 hl2 => k2 p l e s m args below meth c cells slots Qf C hR hE ls2 H locs hw (Lh.st1 (v := .int v) hl2))
theorem j_dup {a : Value} (hd : decode (mC M) pc = .ok (.dup, 1)) (hc : a.category = 1) (k : J G M (pc + 1) L (a :: a :: st) w Q) : J G M pc L (a :: st) w Q := by
  intro p l e s m args below meth c cells slots Qf C hR hE ls H locs hw hl
  exact lv_dup C.1.1 C.1.2.1 hd ((rv_cat _ _).trans hc) (k p l e s m args below meth c cells slots Qf C hR hE ls H locs hw hl)
theorem j_pop {a : Value} (hd : decode (mC M) pc = .ok (.pop, 1)) (hc : a.category = 1) (k : J G M (pc + 1) L (st) w Q) : J G M pc L (a :: st) w Q := by
  intro p l e s m args below meth c cells slots Qf C hR hE ls H locs hw hl
  exact lv_pop C.1.1 C.1.2.1 hd ((rv_cat _ _).trans hc) (k p l e s m args below meth c cells slots Qf C hR hE ls H locs hw hl)
theorem j_dup_x1 {a b : Value} (hd : decode (mC M) pc = .ok (.dup_x1, 1)) (hc : a.category = 1) (hc2 : b.category = 1) (k : J G M (pc + 1) L (a :: b :: a :: st) w Q) : J G M pc L (a :: b :: st) w Q := by
  intro p l e s m args below meth c cells slots Qf C hR hE ls H locs hw hl
  exact lv_dup_x1 C.1.1 C.1.2.1 hd ((rv_cat _ _).trans hc) ((rv_cat _ _).trans hc2) (k p l e s m args below meth c cells slots Qf C hR hE ls H locs hw hl)
theorem j_dup2 {a b : Value} (hd : decode (mC M) pc = .ok (.dup2, 1)) (hc : a.category = 1) (hc2 : b.category = 1) (k : J G M (pc + 1) L (a :: b :: a :: b :: st) w Q) : J G M pc L (a :: b :: st) w Q := by
  intro p l e s m args below meth c cells slots Qf C hR hE ls H locs hw hl
  exact lv_dup2_11 C.1.1 C.1.2.1 hd ((rv_cat _ _).trans hc) ((rv_cat _ _).trans hc2) (k p l e s m args below meth c cells slots Qf C hR hE ls H locs hw hl)
theorem j_if_eq {x : Int32} {off : Int} {tgt : Nat} (hd : decode (mC M) pc = .ok (.ifCond .eq off, 3)) (ht : (pc : Int) + off = (tgt : Int)) (kt : x = 0 → J G M tgt L st w Q) (kf : ¬ x = 0 → J G M (pc + 3) L st w Q) : J G M pc L (.int x :: st) w Q := by
  intro p l e s m args below meth c cells slots Qf C hR hE ls H locs hw hl
  exact lv_if_eq C.1.1 C.1.2.1 hd ht (fun h => kt h p l e s m args below meth c cells slots Qf C hR hE ls H locs hw hl) (fun h => kf h p l e s m args below meth c cells slots Qf C hR hE ls H locs hw hl)
theorem j_if_ne {x : Int32} {off : Int} {tgt : Nat} (hd : decode (mC M) pc = .ok (.ifCond .ne off, 3)) (ht : (pc : Int) + off = (tgt : Int)) (kt : ¬ x = 0 → J G M tgt L st w Q) (kf : x = 0 → J G M (pc + 3) L st w Q) : J G M pc L (.int x :: st) w Q := by
  intro p l e s m args below meth c cells slots Qf C hR hE ls H locs hw hl
  exact lv_if_ne C.1.1 C.1.2.1 hd ht (fun h => kt h p l e s m args below meth c cells slots Qf C hR hE ls H locs hw hl) (fun h => kf h p l e s m args below meth c cells slots Qf C hR hE ls H locs hw hl)
theorem j_if_lt {x : Int32} {off : Int} {tgt : Nat} (hd : decode (mC M) pc = .ok (.ifCond .lt off, 3)) (ht : (pc : Int) + off = (tgt : Int)) (kt : x < 0 → J G M tgt L st w Q) (kf : ¬ x < 0 → J G M (pc + 3) L st w Q) : J G M pc L (.int x :: st) w Q := by
  intro p l e s m args below meth c cells slots Qf C hR hE ls H locs hw hl
  exact lv_if_lt C.1.1 C.1.2.1 hd ht (fun h => kt h p l e s m args below meth c cells slots Qf C hR hE ls H locs hw hl) (fun h => kf h p l e s m args below meth c cells slots Qf C hR hE ls H locs hw hl)
theorem j_if_ge {x : Int32} {off : Int} {tgt : Nat} (hd : decode (mC M) pc = .ok (.ifCond .ge off, 3)) (ht : (pc : Int) + off = (tgt : Int)) (kt : 0 ≤ x → J G M tgt L st w Q) (kf : ¬ 0 ≤ x → J G M (pc + 3) L st w Q) : J G M pc L (.int x :: st) w Q := by
  intro p l e s m args below meth c cells slots Qf C hR hE ls H locs hw hl
  exact lv_if_ge C.1.1 C.1.2.1 hd ht (fun h => kt h p l e s m args below meth c cells slots Qf C hR hE ls H locs hw hl) (fun h => kf h p l e s m args below meth c cells slots Qf C hR hE ls H locs hw hl)
theorem j_if_gt {x : Int32} {off : Int} {tgt : Nat} (hd : decode (mC M) pc = .ok (.ifCond .gt off, 3)) (ht : (pc : Int) + off = (tgt : Int)) (kt : 0 < x → J G M tgt L st w Q) (kf : ¬ 0 < x → J G M (pc + 3) L st w Q) : J G M pc L (.int x :: st) w Q := by
  intro p l e s m args below meth c cells slots Qf C hR hE ls H locs hw hl
  exact lv_if_gt C.1.1 C.1.2.1 hd ht (fun h => kt h p l e s m args below meth c cells slots Qf C hR hE ls H locs hw hl) (fun h => kf h p l e s m args below meth c cells slots Qf C hR hE ls H locs hw hl)
theorem j_if_le {x : Int32} {off : Int} {tgt : Nat} (hd : decode (mC M) pc = .ok (.ifCond .le off, 3)) (ht : (pc : Int) + off = (tgt : Int)) (kt : x ≤ 0 → J G M tgt L st w Q) (kf : ¬ x ≤ 0 → J G M (pc + 3) L st w Q) : J G M pc L (.int x :: st) w Q := by
  intro p l e s m args below meth c cells slots Qf C hR hE ls H locs hw hl
  exact lv_if_le C.1.1 C.1.2.1 hd ht (fun h => kt h p l e s m args below meth c cells slots Qf C hR hE ls H locs hw hl) (fun h => kf h p l e s m args below meth c cells slots Qf C hR hE ls H locs hw hl)
theorem j_icmp_eq {x y : Int32} {off : Int} {tgt : Nat} (hd : decode (mC M) pc = .ok (.if_icmp .eq off, 3)) (ht : (pc : Int) + off = (tgt : Int)) (kt : x = y → J G M tgt L st w Q) (kf : ¬ x = y → J G M (pc + 3) L st w Q) : J G M pc L (.int y :: .int x :: st) w Q := by
  intro p l e s m args below meth c cells slots Qf C hR hE ls H locs hw hl
  exact lv_icmp_eq C.1.1 C.1.2.1 hd ht (fun h => kt h p l e s m args below meth c cells slots Qf C hR hE ls H locs hw hl) (fun h => kf h p l e s m args below meth c cells slots Qf C hR hE ls H locs hw hl)
theorem j_icmp_ne {x y : Int32} {off : Int} {tgt : Nat} (hd : decode (mC M) pc = .ok (.if_icmp .ne off, 3)) (ht : (pc : Int) + off = (tgt : Int)) (kt : ¬ x = y → J G M tgt L st w Q) (kf : x = y → J G M (pc + 3) L st w Q) : J G M pc L (.int y :: .int x :: st) w Q := by
  intro p l e s m args below meth c cells slots Qf C hR hE ls H locs hw hl
  exact lv_icmp_ne C.1.1 C.1.2.1 hd ht (fun h => kt h p l e s m args below meth c cells slots Qf C hR hE ls H locs hw hl) (fun h => kf h p l e s m args below meth c cells slots Qf C hR hE ls H locs hw hl)
theorem j_icmp_lt {x y : Int32} {off : Int} {tgt : Nat} (hd : decode (mC M) pc = .ok (.if_icmp .lt off, 3)) (ht : (pc : Int) + off = (tgt : Int)) (kt : x < y → J G M tgt L st w Q) (kf : ¬ x < y → J G M (pc + 3) L st w Q) : J G M pc L (.int y :: .int x :: st) w Q := by
  intro p l e s m args below meth c cells slots Qf C hR hE ls H locs hw hl
  exact lv_icmp_lt C.1.1 C.1.2.1 hd ht (fun h => kt h p l e s m args below meth c cells slots Qf C hR hE ls H locs hw hl) (fun h => kf h p l e s m args below meth c cells slots Qf C hR hE ls H locs hw hl)
theorem j_icmp_ge {x y : Int32} {off : Int} {tgt : Nat} (hd : decode (mC M) pc = .ok (.if_icmp .ge off, 3)) (ht : (pc : Int) + off = (tgt : Int)) (kt : y ≤ x → J G M tgt L st w Q) (kf : ¬ y ≤ x → J G M (pc + 3) L st w Q) : J G M pc L (.int y :: .int x :: st) w Q := by
  intro p l e s m args below meth c cells slots Qf C hR hE ls H locs hw hl
  exact lv_icmp_ge C.1.1 C.1.2.1 hd ht (fun h => kt h p l e s m args below meth c cells slots Qf C hR hE ls H locs hw hl) (fun h => kf h p l e s m args below meth c cells slots Qf C hR hE ls H locs hw hl)
theorem j_icmp_gt {x y : Int32} {off : Int} {tgt : Nat} (hd : decode (mC M) pc = .ok (.if_icmp .gt off, 3)) (ht : (pc : Int) + off = (tgt : Int)) (kt : y < x → J G M tgt L st w Q) (kf : ¬ y < x → J G M (pc + 3) L st w Q) : J G M pc L (.int y :: .int x :: st) w Q := by
  intro p l e s m args below meth c cells slots Qf C hR hE ls H locs hw hl
  exact lv_icmp_gt C.1.1 C.1.2.1 hd ht (fun h => kt h p l e s m args below meth c cells slots Qf C hR hE ls H locs hw hl) (fun h => kf h p l e s m args below meth c cells slots Qf C hR hE ls H locs hw hl)
theorem j_icmp_le {x y : Int32} {off : Int} {tgt : Nat} (hd : decode (mC M) pc = .ok (.if_icmp .le off, 3)) (ht : (pc : Int) + off = (tgt : Int)) (kt : x ≤ y → J G M tgt L st w Q) (kf : ¬ x ≤ y → J G M (pc + 3) L st w Q) : J G M pc L (.int y :: .int x :: st) w Q := by
  intro p l e s m args below meth c cells slots Qf C hR hE ls H locs hw hl
  exact lv_icmp_le C.1.1 C.1.2.1 hd ht (fun h => kt h p l e s m args below meth c cells slots Qf C hR hE ls H locs hw hl) (fun h => kf h p l e s m args below meth c cells slots Qf C hR hE ls H locs hw hl)
theorem j_goto {off : Int} {tgt : Nat} (hd : decode (mC M) pc = .ok (.goto off, 3)) (ht : (pc : Int) + off = (tgt : Int)) (k : J G M tgt L st w Q) : J G M pc L st w Q := by
  intro p l e s m args below meth c cells slots Qf C hR hE ls H locs hw hl
  exact lv_goto C.1.1 C.1.2.1 hd ht (k p l e s m args below meth c cells slots Qf C hR hE ls H locs hw hl)
theorem j_ifnonnull {x : Nat} {off : Int} {tgt : Nat} (hd : decode (mC M) pc = .ok (.ifnonnull off, 3)) (ht : (pc : Int) + off = (tgt : Int)) (k : J G M tgt L st w Q) : J G M pc L (.ref x :: st) w Q := by
  intro p l e s m args below meth c cells slots Qf C hR hE ls H locs hw hl
  exact lv_ifnonnull C.1.1 C.1.2.1 hd ht (k p l e s m args below meth c cells slots Qf C hR hE ls H locs hw hl)
theorem j_ifnonnullN {off : Int} (hd : decode (mC M) pc = .ok (.ifnonnull off, 3)) (k : J G M (pc + 3) L st w Q) : J G M pc L (.null :: st) w Q := by
  intro p l e s m args below meth c cells slots Qf C hR hE ls H locs hw hl
  exact lv_ifnonnullN C.1.1 C.1.2.1 hd (k p l e s m args below meth c cells slots Qf C hR hE ls H locs hw hl)
theorem j_ifnull {x : Nat} {off : Int} (hd : decode (mC M) pc = .ok (.ifnull off, 3)) (k : J G M (pc + 3) L st w Q) : J G M pc L (.ref x :: st) w Q := by
  intro p l e s m args below meth c cells slots Qf C hR hE ls H locs hw hl
  exact lv_ifnull C.1.1 C.1.2.1 hd (k p l e s m args below meth c cells slots Qf C hR hE ls H locs hw hl)
theorem j_ifnullN {off : Int} {tgt : Nat} (hd : decode (mC M) pc = .ok (.ifnull off, 3)) (ht : (pc : Int) + off = (tgt : Int)) (k : J G M tgt L st w Q) : J G M pc L (.null :: st) w Q := by
  intro p l e s m args below meth c cells slots Qf C hR hE ls H locs hw hl
  exact lv_ifnullN C.1.1 C.1.2.1 hd ht (k p l e s m args below meth c cells slots Qf C hR hE ls H locs hw hl)
theorem j_tableOut {dflt lo hi : Int} {offs : Array Int} {len : Nat} {x : Int32} {tgt : Nat} (hd : decode (mC M) pc = .ok (.tableswitch dflt lo hi offs, len)) (h : x.toInt < lo ∨ hi < x.toInt) (ht : (pc : Int) + dflt = (tgt : Int)) (k : J G M tgt L st w Q) : J G M pc L (.int x :: st) w Q := by
  intro p l e s m args below meth c cells slots Qf C hR hE ls H locs hw hl
  exact lv_tableOut C.1.1 C.1.2.1 hd h ht (k p l e s m args below meth c cells slots Qf C hR hE ls H locs hw hl)
theorem j_tableIn {dflt lo hi : Int} {offs : Array Int} {len : Nat} {x : Int32} {off : Int} {tgt : Nat} (hd : decode (mC M) pc = .ok (.tableswitch dflt lo hi offs, len)) (h1 : ¬ x.toInt < lo) (h2 : ¬ hi < x.toInt) (ho : offs[(x.toInt - lo).toNat]? = some off) (ht : (pc : Int) + off = (tgt : Int)) (k : J G M tgt L st w Q) : J G M pc L (.int x :: st) w Q := by
  intro p l e s m args below meth c cells slots Qf C hR hE ls H locs hw hl
  exact lv_tableIn C.1.1 C.1.2.1 hd h1 h2 ho ht (k p l e s m args below meth c cells slots Qf C hR hE ls H locs hw hl)
theorem j_lookup {dflt : Int} {ps : Array (Int × Int)} {len : Nat} {x : Int32} {off : Int} {tgt : Nat} (hd : decode (mC M) pc = .ok (.lookupswitch dflt ps, len)) (hp : (ps.toList.zip (ps.toList.drop 1)).all (fun (a, next) => a.1 < next.1) = true) (ho : Op.lookupswitch.offset ps.toList dflt x.toInt = off) (ht : (pc : Int) + off = (tgt : Int)) (k : J G M tgt L st w Q) : J G M pc L (.int x :: st) w Q := by
  intro p l e s m args below meth c cells slots Qf C hR hE ls H locs hw hl
  exact lv_lookup C.1.1 C.1.2.1 hd hp ho ht (k p l e s m args below meth c cells slots Qf C hR hE ls H locs hw hl)
/-! fields -/
def FL (own : String) (idx ci k : Nat) : Prop := ∃ (C : String) (T : u_T) (N : Nat), vwCl[ci]? = some (C, T, N) ∧ k < N ∧ (∀ w ∈ u_ws C T N, w ∈ lw_good) ∧ Cond.fieldLink own idx (T k).1 (T k).2.1 (T k).2.2.1 ∈ lw_good
theorem j_get {idx ci k a : Nat} {fs : List Value} {v : Value} (F : FL (mO M) idx ci k) (he : w[a]? = some (.inr (ci, fs))) (hv : fs[k]? = some v) (hd : decode (mC M) pc = .ok (.getfield idx, 3)) (kk : J G M (pc + 3) L (v :: st) w Q) : J G M pc L (.ref a :: st) w Q := by
  intro p l e s m args below meth c cells slots Qf C hR hE ls H locs hw hl
  obtain ⟨C1, T, N, f1, f2, f3, f4⟩ := F
  exact va_get (D := cD G) (ci := ci) (C := C1) (T := T) (N := N) C.1.1 C.1.2.1 C.1.2.2.2.2 f3 C.1.2.2.2.1 C.2.1 hw.1 a (rW_at he) f1 k f2 (C.1.2.2.2.2 _ f4) (fun _ h9 => h9) (v := rv (cz G) v) (by rw [List.getElem?_map, hv]; rfl) hd (kk p l e s m args below meth c cells slots Qf C hR hE ls H locs hw hl)
def FP (ci k : Nat) (ty : FieldType) : Prop := ∃ (C : String) (T : u_T) (N : Nat) (ty0 : Nat → FieldType), vwCl[ci]? = some (C, T, N) ∧ (∀ k, k < N → parseFieldDescriptor (T k).2.2.1 = some (ty0 k)) ∧ (∀ a, a < N → ∀ b, b < N → a ≠ b → (T a).2.1 ≠ (T b).2.1) ∧ (T k).2.2.2 = false ∧ parseFieldDescriptor (T k).2.2.1 = some ty
theorem rE_set {G : Cf} {ci k : Nat} {fs : List Value} {v : Value} : (Sum.inr (ci, (fs.map (rv (cz G))).set k (rv (cz G) v)) : va_E) = rE G (.inr (ci, fs.set k v)) := by
  show _ = Sum.inr (ci, (fs.set k v).map (rv (cz G)))
  rw [List.map_set]
theorem j_put {idx ci k a : Nat} {ty : FieldType} {fs : List Value} {v : Value} (F : FL (mO M) idx ci k) (F2 : FP ci k ty) (he : w[a]? = some (.inr (ci, fs))) (hl2 : k < fs.length) (hn : narrow ty (rv (cz G) v) = rv (cz G) v) (hfit : fits ty (rv (cz G) v) = true) (hd : decode (mC M) pc = .ok (.putfield idx, 3)) (kk : J G M (pc + 3) L st (w.set a (.inr (ci, fs.set k v))) Q) : J G M pc L (v :: .ref a :: st) w Q := by
  intro p l e s m args below meth c cells slots Qf C hR hE ls H locs hw hl
  obtain ⟨C1, T, N, f1, f2, f3, f4⟩ := F
  obtain ⟨C2, T2, N2, ty0, g1, g2, g3, g4, g5⟩ := F2
  cases f1.symm.trans g1
  refine va_put (D := cD G) (ci := ci) (C := C1) (T := T) (N := N) C.1.1 C.1.2.1 C.1.2.2.2.2 f3 ty0 g2 g3 C.1.2.2.2.1 C.2.1 hw.1 hw.2.1 hw.2.2 a (rW_at he) f1 k f2 (C.1.2.2.2.2 _ f4) (fun _ h9 => h9) g4 g5 hn hfit (by rw [List.length_map]; exact hl2) hd (fun H1 locs1 hP hD hS => ?_)
  rw [rE_set, rW_set] at hP hD
  exact kk p l e s m args below meth c cells slots Qf C hR hE ls H1 locs1 ⟨hP, hD, hS⟩ hl
theorem j_puti {idx ci k a : Nat} {fs : List Value} {x : Int32} (F : FL (mO M) idx ci k) (F2 : FP ci k .int) (he : w[a]? = some (.inr (ci, fs))) (hl2 : k < fs.length) (hd : decode (mC M) pc = .ok (.putfield idx, 3)) (kk : J G M (pc + 3) L st (w.set a (.inr (ci, fs.set k (.int x)))) Q) : J G M pc L (.int x :: .ref a :: st) w Q :=
  j_put F F2 he hl2 rfl rfl hd kk
theorem j_putl {idx ci k a : Nat} {fs : List Value} {x : Int64} (F : FL (mO M) idx ci k) (F2 : FP ci k .long) (he : w[a]? = some (.inr (ci, fs))) (hl2 : k < fs.length) (hd : decode (mC M) pc = .ok (.putfield idx, 3)) (kk : J G M (pc + 3) L st (w.set a (.inr (ci, fs.set k (.long x)))) Q) : J G M pc L (.long x :: .ref a :: st) w Q :=
  j_put F F2 he hl2 rfl rfl hd kk
def isB (x : Int32) : Prop := x = 0 ∨ x = 1
theorem j_putz {idx ci k a : Nat} {fs : List Value} {x : Int32} (F : FL (mO M) idx ci k) (F2 : FP ci k .boolean) (hx : isB x) (he : w[a]? = some (.inr (ci, fs))) (hl2 : k < fs.length) (hd : decode (mC M) pc = .ok (.putfield idx, 3)) (kk : J G M (pc + 3) L st (w.set a (.inr (ci, fs.set k (.int x)))) Q) : J G M pc L (.int x :: .ref a :: st) w Q :=
  j_put F F2 he hl2 (by rcases hx with rfl | rfl <;> rfl) (by rcases hx with rfl | rfl <;> rfl) hd kk
/-! arrays: ix i n k: the index i is the place k, below n -/
def ix (i : Int32) (n k : Nat) : Prop := vp_in i n ∧ i.toNatClampNeg = k
theorem ix_nI {k n : Nat} (h : k < n) (hn : n < 2 ^ 31) : ix (nI k) n k := ⟨vp_in_nI h hn, nI_clamp (Nat.lt_trans h hn)⟩
theorem ix_of {i : Int32} {n : Nat} (h : vp_in i n) : ix i n i.toNatClampNeg := ⟨h, rfl⟩
theorem j_iald {a n k : Nat} {f : Nat → Int32} {i : Int32} (he : w[a]? = some (.inl (0, n, .inl f))) (hi : ix i n k) (hd : decode (mC M) pc = .ok (.iaload, 1)) (kk : J G M (pc + 1) L (.int (f k) :: st) w Q) : J G M pc L (.int i :: .ref a :: st) w Q := by
  intro p l e s m args below meth c cells slots Qf C hR hE ls H locs hw hl
  obtain ⟨hi, rfl⟩ := hi
  exact va_iald (D := cD G) C.1.1 C.1.2.1 C.2.1 hw.1 a 0 (rW_at he) rfl hi hd (kk p l e s m args below meth c cells slots Qf C hR hE ls H locs hw hl)
theorem j_zald {a n k : Nat} {f : Nat → Int32} {i : Int32} (he : w[a]? = some (.inl (2, n, .inl f))) (hi : ix i n k) (hd : decode (mC M) pc = .ok (.baload, 1)) (kk : J G M (pc + 1) L (.int (f k) :: st) w Q) : J G M pc L (.int i :: .ref a :: st) w Q := by
  intro p l e s m args below meth c cells slots Qf C hR hE ls H locs hw hl
  obtain ⟨hi, rfl⟩ := hi
  exact va_zald (D := cD G) C.1.1 C.1.2.1 C.2.1 hw.1 a 2 (rW_at he) rfl hi hd (kk p l e s m args below meth c cells slots Qf C hR hE ls H locs hw hl)
theorem j_lald {a n k : Nat} {f : Nat → Int64} {i : Int32} (he : w[a]? = some (.inl (1, n, .inr (.inl f)))) (hi : ix i n k) (hd : decode (mC M) pc = .ok (.laload, 1)) (kk : J G M (pc + 1) L (.long (f k) :: st) w Q) : J G M pc L (.int i :: .ref a :: st) w Q := by
  intro p l e s m args below meth c cells slots Qf C hR hE ls H locs hw hl
  obtain ⟨hi, rfl⟩ := hi
  exact va_lald (D := cD G) C.1.1 C.1.2.1 C.2.1 hw.1 a 1 (rW_at he) rfl hi hd (kk p l e s m args below meth c cells slots Qf C hR hE ls H locs hw hl)
theorem j_iast {a n k : Nat} {f : Nat → Int32} {i x : Int32} (he : w[a]? = some (.inl (0, n, .inl f))) (hi : ix i n k) (hd : decode (mC M) pc = .ok (.iastore, 1)) (kk : J G M (pc + 1) L st (w.set a (.inl (0, n, .inl (upd f k x)))) Q) : J G M pc L (.int x :: .int i :: .ref a :: st) w Q := by
  intro p l e s m args below meth c cells slots Qf C hR hE ls H locs hw hl
  obtain ⟨hi, rfl⟩ := hi
  refine va_iast (D := cD G) C.1.1 C.1.2.1 C.2.1 hw.1 hw.2.1 hw.2.2 a 0 (rW_at he) rfl hi hd (fun H1 locs1 hP hD hS => ?_)
  exact kk p l e s m args below meth c cells slots Qf C hR hE ls H1 locs1 ⟨rW_set (e := .inl (0, n, .inl (upd f i.toNatClampNeg x))) ▸ hP, rW_set (e := .inl (0, n, .inl (upd f i.toNatClampNeg x))) ▸ hD, hS⟩ hl
theorem j_last {a n k : Nat} {f : Nat → Int64} {i : Int32} {x : Int64} (he : w[a]? = some (.inl (1, n, .inr (.inl f)))) (hi : ix i n k) (hd : decode (mC M) pc = .ok (.lastore, 1)) (kk : J G M (pc + 1) L st (w.set a (.inl (1, n, .inr (.inl (vp_updL f k x))))) Q) : J G M pc L (.long x :: .int i :: .ref a :: st) w Q := by
  intro p l e s m args below meth c cells slots Qf C hR hE ls H locs hw hl
  obtain ⟨hi, rfl⟩ := hi
  refine va_last (D := cD G) C.1.1 C.1.2.1 C.2.1 hw.1 hw.2.1 hw.2.2 a 1 (rW_at he) rfl hi hd (fun H1 locs1 hP hD hS => ?_)
  exact kk p l e s m args below meth c cells slots Qf C hR hE ls H1 locs1 ⟨rW_set (e := .inl (1, n, .inr (.inl (vp_updL f i.toNatClampNeg x)))) ▸ hP, rW_set (e := .inl (1, n, .inr (.inl (vp_updL f i.toNatClampNeg x)))) ▸ hD, hS⟩ hl
theorem nar_b {x : Int32} (hx : isB x) : vp_nar .boolean x = x := by rcases hx with rfl | rfl <;> decide
theorem j_zast {a n k : Nat} {f : Nat → Int32} {i x : Int32} (he : w[a]? = some (.inl (2, n, .inl f))) (hi : ix i n k) (hx : isB x) (hd : decode (mC M) pc = .ok (.bastore, 1)) (kk : J G M (pc + 1) L st (w.set a (.inl (2, n, .inl (upd f k x)))) Q) : J G M pc L (.int x :: .int i :: .ref a :: st) w Q := by
  intro p l e s m args below meth c cells slots Qf C hR hE ls H locs hw hl
  obtain ⟨hi, rfl⟩ := hi
  refine va_zast (D := cD G) C.1.1 C.1.2.1 C.2.1 hw.1 hw.2.1 hw.2.2 a 2 (rW_at he) rfl hi hd (fun H1 locs1 hP hD hS => ?_)
  rw [nar_b hx] at hP hD
  exact kk p l e s m args below meth c cells slots Qf C hR hE ls H1 locs1 ⟨rW_set (e := .inl (2, n, .inl (upd f i.toNatClampNeg x))) ▸ hP, rW_set (e := .inl (2, n, .inl (upd f i.toNatClampNeg x))) ▸ hD, hS⟩ hl
theorem j_aald {a n k b : Nat} {f : Nat → Option Nat} {i : Int32} (he : w[a]? = some (.inl (3, n, .inr (.inr (.inr (.inr f)))))) (hi : ix i n k) (hb : f k = some b) (hd : decode (mC M) pc = .ok (.aaload, 1)) (kk : J G M (pc + 1) L (.ref b :: st) w Q) : J G M pc L (.int i :: .ref a :: st) w Q := by
  intro p l e s m args below meth c cells slots Qf C hR hE ls H locs hw hl
  obtain ⟨hi, rfl⟩ := hi
  refine va_aldq (D := cD G) (C := RX3) C.1.1 C.1.2.1 C.2.1 hw.1 a 3 (rW_at he) rfl hi hd ?_
  rw [hb]
  exact kk p l e s m args below meth c cells slots Qf C hR hE ls H locs hw hl
/-! the table of kinds, the script -/
theorem j_ka {idx : Nat} (hk : Cond.fieldLink (mO M) idx RX5 "KIND_ABOVE" "[I" ∈ lw_good) (hd : decode (mC M) pc = .ok (.getstatic idx, 3)) (kk : J G M (pc + 3) L (.ref 3000 :: st) w Q) : J G M pc L st w Q := by
  intro p l e s m args below meth c cells slots Qf C hR hE ls H locs hw hl
  exact va_gets C.1.1 C.1.2.1 C.2.2.2.2.1 hw.2.2 C.1.2.2.2.1 (C.1.2.2.2.2 _ hk) (fun _ h => h) hd (kk p l e s m args below meth c cells slots Qf C hR hE ls H locs hw hl)
theorem j_kald {k : Nat} {i : Int32} (hi : ix i 6 k) (hd : decode (mC M) pc = .ok (.iaload, 1)) (kk : J G M (pc + 1) L (.int (kaf k) :: st) w Q) : J G M pc L (.int i :: .ref 3000 :: st) w Q := by
  intro p l e s m args below meth c cells slots Qf C hR hE ls H locs hw hl
  obtain ⟨hi, rfl⟩ := hi
  exact va_ti C.1.1 C.1.2.1 C.2.2.2.2.2.1 hw.2.2 hi rfl hd (kk p l e s m args below meth c cells slots Qf C hR hE ls H locs hw hl)
theorem j_slen (hd : decode (mC M) pc = .ok (.arraylength, 1)) (kk : J G M (pc + 1) L (.int (nI (cL G)) :: st) w Q) : J G M pc L (.ref 4000 :: st) w Q := by
  intro p l e s m args below meth c cells slots Qf C hR hE ls H locs hw hl
  exact va_tlen C.1.1 C.1.2.1 C.2.2.2.2.2.2.2.2 hw.2.2 rfl hd (kk p l e s m args below meth c cells slots Qf C hR hE ls H locs hw hl)
theorem j_sald {k : Nat} {i : Int32} (hi : ix i (cL G) k) (hd : decode (mC M) pc = .ok (.iaload, 1)) (kk : J G M (pc + 1) L (.int (cX G k) :: st) w Q) : J G M pc L (.int i :: .ref 4000 :: st) w Q := by
  intro p l e s m args below meth c cells slots Qf C hR hE ls H locs hw hl
  obtain ⟨hi, rfl⟩ := hi
  exact va_ti C.1.1 C.1.2.1 C.2.2.2.2.2.2.2.2 hw.2.2 hi rfl hd (kk p l e s m args below meth c cells slots Qf C hR hE ls H locs hw hl)
/-! ends -/
theorem j_iret {v : Int32} {ty : FieldType} (hd : decode (mC M) pc = .ok (.ireturn, 1)) (hr : mT M = some ty) (hn : narrow ty (.int v) = .int v) (hq : Q (some (.int v)) w) : J G M pc L [.int v] w Q := by
  intro p l e s m args below meth c cells slots Qf C hR hE ls H locs hw hl
  exact hE pc ls H locs (some (.int v)) w hq ⟨hd, ty, hr, hn⟩ hw
theorem j_zret {v : Int32} (hd : decode (mC M) pc = .ok (.ireturn, 1)) (hr : mT M = some .boolean) (hx : isB v) (hq : Q (some (.int v)) w) : J G M pc L [.int v] w Q :=
  j_iret hd hr (by rcases hx with rfl | rfl <;> rfl) hq
theorem j_lret {v : Int64} (hd : decode (mC M) pc = .ok (.lreturn, 1)) (hr : mT M = some .long) (hq : Q (some (.long v)) w) : J G M pc L [.long v] w Q := by
  intro p l e s m args below meth c cells slots Qf C hR hE ls H locs hw hl
  exact hE pc ls H locs (some (.long v)) w hq ⟨hd, hr⟩ hw
theorem j_aret {v : Nat} {n : String} (hd : decode (mC M) pc = .ok (.areturn, 1)) (hr : mT M = some (.object n)) (hq : Q (some (.ref v)) w) : J G M pc L [.ref v] w Q := by
  intro p l e s m args below meth c cells slots Qf C hR hE ls H locs hw hl
  exact hE pc ls H locs (some (.ref v)) w hq ⟨hd, n, hr⟩ hw
theorem j_aretN {n : String} (hd : decode (mC M) pc = .ok (.areturn, 1)) (hr : mT M = some (.object n)) (hq : Q (some .null) w) : J G M pc L [.null] w Q := by
  intro p l e s m args below meth c cells slots Qf C hR hE ls H locs hw hl
  exact hE pc ls H locs (some .null) w hq ⟨hd, n, hr⟩ hw
theorem j_vret (hd : decode (mC M) pc = .ok (.return_, 1)) (hr : mT M = none) (hq : Q none w) : J G M pc L [] w Q := by
  intro p l e s m args below meth c cells slots Qf C hR hE ls H locs hw hl
  exact hE pc ls H locs none w hq ⟨hd, hr⟩ hw
theorem J.mono {Q2 : QW} (h : ∀ v u, Q v u → Q2 v u) (k : J G M pc L st w Q) : J G M pc L st w Q2 := by
  intro p l e s m args below meth c cells slots Qf C hR hE ls H locs hw hl
  exact k p l e s m args below meth c cells slots Qf C hR (fun pc ls H locs v u hq => hE pc ls H locs v u (h v u hq)) ls H locs hw hl
/-! calls -/
theorem j_run {Q' : QW} {rest : List Value}
    (hrun : ∀ (p : Program) (l : Launch) (e : Env) (s : State) (m : MethodId) (args : Array Value) (below : List Frame) (meth : Method) (c : Code) (cells slots : Nat) (ls : Array Slot) (H : Heap) (locs : List Loc), Cx G M p s m args c → (cells ≤ (mR M).cells ∧ slots ≤ (mR M).slots) → WH G s H locs w → Lh G ls (mN M) L →
      ∃ a : Array Value, va_Run p l e (mR M) s m args below meth c H locs cells slots 0 0 (F0 m pc ls (st.map (rv (cz G)))) (rest.map (rv (cz G))) (QG G Q' a) (cA G))
    (kk : ∀ v u, Q' v u → J G M (pc + 3) L (v.toList ++ rest) u Q) : J G M pc L st w Q := by
  intro p l e s m args below meth c cells slots Qf C hR hE ls H locs hw hl
  intro T hT X
  obtain ⟨a, hr⟩ := hrun p l e s m args below meth c cells slots ls H locs C hR hw hl
  obtain ⟨v, st₀, t, T', Lx, h0, X', hL, e1, e2, ⟨⟨v', u, hv, hq, hP, hD⟩, hz, hk⟩, stp⟩ := hr T hT X
  have hv : v = v'.map (rv (cz G)) := by injection hv
  subst hv
  rw [h0] at hz hk
  have hS := hw.2.2
  have hS1 : va_S (cA G) s.heap T'.heap (locs ++ Lx) := ⟨Nat.le_trans hS.1 (by rw [e1]; exact hz), fun q h1 h2 => by rw [e1, hk q (Nat.lt_of_lt_of_le h1 hS.1) h2]; exact hS.2.1 q h1 h2, fun q hq => by
      rcases List.mem_append.mp hq with h | h
      · exact hS.2.2 q h
      · exact hL q h⟩
  obtain ⟨t2, a1, b1⟩ := kk v' u hq p l e s m args below meth c cells slots Qf C hR hE ls T'.heap (locs ++ Lx) ⟨by rw [e1]; exact hP, hD, hS1⟩ hl T' rfl X'
  refine ⟨t2, stp t2 ?_, b1⟩
  have es : (v'.toList ++ rest).map (rv (cz G)) = (v'.map (rv (cz G))).toList ++ rest.map (rv (cz G)) := by
    cases v' <;> simp
  rw [es] at a1
  exact a1
theorem lw_goodAll {y : MethodName} {cc : ByteArray} {n : Nat} {r : Option FieldType} (hc : Cond.code y cc n r ∈ lw_good) : GoodIn lw_good (Cond.code y cc n r :: lw_good) := by
  intro w hw
  have h : w ∈ lw_good := by
    rcases List.mem_cons.mp hw with rfl | h
    · exact hc
    · exact h
  exact ⟨h, good_of_word (List.mem_filter.mp h).2⟩
def MV (M' : MI) (n : Nat) : Prop := Cond.code (mY M') (mC M') (mN M') (mT M') ∈ lw_good ∧ Cond.initialized (mO M') ∈ lw_good ∧ (mR M').cells = 0 ∧ (mR M').slots = 0 ∧ (mY M').cls = mO M' ∧ (mY M').cls ≠ "java/lang/invoke/MethodHandle" ∧ (mY M').cls ≠ "java/lang/invoke/VarHandle" ∧ (parseMethodDescriptor (mY M').desc).map (fun d => d.parameters.length) = some n
def MVV (M' : MI) (n : Nat) : Prop := MV M' n ∧ Cond.instanceMethod (mY M') ∈ lw_good ∧ Cond.selects (mO M') (mY M') (mY M') ∈ lw_good
def MVS (M' : MI) (n : Nat) : Prop := MV M' n ∧ Cond.static (mY M') ∈ lw_good
def rOK (M' M : MI) : Prop := (mR M').frames + 1 ≤ (mR M).frames ∧ 8 + (mN M' + 11) + (mR M').locals ≤ (mR M).locals
theorem GW.pre {s U : State} {H : Heap} {locs : List Loc} {p : Program} {m : MethodId} {args : Array Value} {c : Code} (C : Cx G M p s m args c) (hw : WH G s H locs w) (hU : U.heap = H) (hW : s.WarmedH U.vm) : GW G w U :=
  ⟨by rw [hU]; exact hw.1, hw.2.1, va_K.moved hW.alike C.2.1, by rw [hU]; exact (Ex.warm hW C.2.2).kept hw.2.2.2.1⟩
theorem GW.blind (as : List Value) : FrameBlind (va_Pc as (GW G w)) := by
  intro a U g mk h
  obtain ⟨h1, h2, h3, h4, h5⟩ := h
  exact ⟨h1, h2, h3, va_K.moved (u := U) (U := U.calling g mk a) (Vm.Alike.refl U.vm) h4, Ex.same (u := U) (U := U.calling g mk a) rfl h5⟩
theorem cat_rv (z : Nat → Nat) (l : List Value) : ((l.map (rv z)).map fun v => v.category) = l.map fun v => v.category := by
  rw [List.map_map]
  exact List.map_congr_left (fun v _ => rv_cat z v)
theorem j_callV {M' : MI} {n idx b ci : Nat} {as rest fs} {q : vw_C} {Q' : QW} (hM : MVV M' n) (hk : Cond.methodLink (mO M) idx (mY M') ∈ lw_good) (hr : rOK M' M) (hD : Does G M' (.ref b :: as) w Q') (he : w[b]? = some (.inr (ci, fs))) (hc : vwCl[ci]? = some q) (hq : q.1 = mO M') (hn : as.length = n) (hst : as.reverse ++ .ref b :: rest = st) (hcat : (rest.map fun v => v.category).sum ≤ 8) (hd : decode (mC M) pc = .ok (.invokevirtual idx, 3))
    (kk : ∀ v u, Q' v u → J G M (pc + 3) L (v.toList ++ rest) u Q) : J G M pc L st w Q := by
  refine j_run ?_ kk
  intro p l e s m args below meth c cells slots ls H locs C hR hw hl
  obtain ⟨⟨m1, m2, m3, m4, m5, m6, m7, m8⟩, m9, m10⟩ := hM
  have ht := C.1.2.2.2.2
  subst hst
  refine ⟨((Value.ref b :: as).map (rv (cz G))).toArray, ?_⟩
  have hrec := va_recv C.2.1 hw.1 hc (rW_at he)
  rw [hq] at hrec
  refine va_runV (C := mO M') (As := as.map (rv (cz G))) (rest := rest.map (rv (cz G))) C.1 (hD l) ⟨callB_of n ht (lw_goodAll m1) rfl m3 m4 (by rw [m5]; exact ht _ m2) (ht _ hk) ⟨m6, m7, m8⟩ hr, ht _ m9, ht _ m10⟩ ⟨GW.blind _, hrec, fun U hU hW => ⟨rfl, GW.pre C hw hU hW⟩⟩ rfl (by rw [List.length_map]; exact hn) hl.1 (by simp [rv]) (by rw [cat_rv]; exact lv_room (m := m) (pc := pc) (ls := ls) (rest := []) hcat) hd ⟨hR.1, hR.2⟩
theorem j_callS {M' : MI} {n idx : Nat} {as rest} {Q' : QW} (hM : MVS M' n) (hk : Cond.methodLink (mO M) idx (mY M') ∈ lw_good) (hr : rOK M' M) (hD : Does G M' as w Q') (hn : as.length = n) (hst : as.reverse ++ rest = st) (hcat : (rest.map fun v => v.category).sum ≤ 8) (hd : decode (mC M) pc = .ok (.invokestatic idx, 3))
    (kk : ∀ v u, Q' v u → J G M (pc + 3) L (v.toList ++ rest) u Q) : J G M pc L st w Q := by
  refine j_run ?_ kk
  intro p l e s m args below meth c cells slots ls H locs C hR hw hl
  obtain ⟨⟨m1, m2, m3, m4, m5, m6, m7, m8⟩, m9⟩ := hM
  have ht := C.1.2.2.2.2
  subst hst
  refine ⟨(as.map (rv (cz G))).toArray, ?_⟩
  refine va_runS (As := as.map (rv (cz G))) (rest := rest.map (rv (cz G))) C.1 (hD l) ⟨callB_of n ht (lw_goodAll m1) rfl m3 m4 (by rw [m5]; exact ht _ m2) (ht _ hk) ⟨m6, m7, m8⟩ hr, ht _ m9⟩ ⟨GW.blind _, fun U hU hW => ⟨rfl, GW.pre C hw hU hW⟩⟩ rfl (by rw [List.length_map]; exact hn) hl.1 (by simp) (by rw [cat_rv]; exact lv_room (m := m) (pc := pc) (ls := ls) (rest := []) hcat) hd ⟨hR.1, hR.2⟩
theorem j_cV {M' : MI} {n idx b ci : Nat} {as rest fs} {q : vw_C} {r : Value} {u : Wd} (hM : MVV M' n) (hk : Cond.methodLink (mO M) idx (mY M') ∈ lw_good) (hr : rOK M' M) (hD : Does G M' (.ref b :: as) w (Is (some r) u)) (he : w[b]? = some (.inr (ci, fs))) (hc : vwCl[ci]? = some q) (hq : q.1 = mO M') (hn : as.length = n) (hst : as.reverse ++ .ref b :: rest = st) (hcat : (rest.map fun v => v.category).sum ≤ 8) (hd : decode (mC M) pc = .ok (.invokevirtual idx, 3))
    (kk : J G M (pc + 3) L (r :: rest) u Q) : J G M pc L st w Q :=
  j_callV hM hk hr hD he hc hq hn hst hcat hd (fun v u2 h => by obtain ⟨rfl, rfl⟩ := h; exact kk)
theorem j_cVv {M' : MI} {n idx b ci : Nat} {as rest fs} {q : vw_C} {u : Wd} (hM : MVV M' n) (hk : Cond.methodLink (mO M) idx (mY M') ∈ lw_good) (hr : rOK M' M) (hD : Does G M' (.ref b :: as) w (Is none u)) (he : w[b]? = some (.inr (ci, fs))) (hc : vwCl[ci]? = some q) (hq : q.1 = mO M') (hn : as.length = n) (hst : as.reverse ++ .ref b :: rest = st) (hcat : (rest.map fun v => v.category).sum ≤ 8) (hd : decode (mC M) pc = .ok (.invokevirtual idx, 3))
    (kk : J G M (pc + 3) L rest u Q) : J G M pc L st w Q :=
  j_callV hM hk hr hD he hc hq hn hst hcat hd (fun v u2 h => by obtain ⟨rfl, rfl⟩ := h; exact kk)
theorem j_cS {M' : MI} {n idx : Nat} {as rest} {r : Value} {u : Wd} (hM : MVS M' n) (hk : Cond.methodLink (mO M) idx (mY M') ∈ lw_good) (hr : rOK M' M) (hD : Does G M' as w (Is (some r) u)) (hn : as.length = n) (hst : as.reverse ++ rest = st) (hcat : (rest.map fun v => v.category).sum ≤ 8) (hd : decode (mC M) pc = .ok (.invokestatic idx, 3))
    (kk : J G M (pc + 3) L (r :: rest) u Q) : J G M pc L st w Q :=
  j_callS hM hk hr hD hn hst hcat hd (fun v u2 h => by obtain ⟨rfl, rfl⟩ := h; exact kk)
/-! Math.max, Math.min, System.arraycopy -/
theorem j_max {idx : Nat} {x y : Int32} (hk : Cond.methodLink (mO M) idx Lib.Math.max.name ∈ lw_good) (h1 : Cond.static Lib.Math.max.name ∈ lw_good) (h2 : Cond.initialized "java/lang/Math" ∈ lw_good) (h3 : Cond.code Lib.Math.max.name Lib.Math.max.code 2 (some .int) ∈ lw_good) (hf : 1 ≤ (mR M).frames) (hlo : (st.map fun v => v.category).sum + 13 ≤ (mR M).locals) (hd : decode (mC M) pc = .ok (.invokestatic idx, 3)) (k : J G M (pc + 3) L (.int (if x < y then y else x) :: st) w Q) : J G M pc L (.int y :: .int x :: st) w Q := by
  intro p l e s m args below meth c cells slots Qf C hR hE ls H locs hw hl
  have ht := C.1.2.2.2.2
  exact va_mmax C.1.1 C.1.2.1 (C.1.2.2.1.trans hl.1.symm) C.1.2.2.2.1 (ht _ hk) (ht _ h1) (ht _ h2) (ht _ h3) hf (by rw [cat_rv]; exact hlo) hR.1 hR.2 hd (k p l e s m args below meth c cells slots Qf C hR hE ls H locs hw hl)
theorem j_min {idx : Nat} {x y : Int32} (hk : Cond.methodLink (mO M) idx Lib.Math.min.name ∈ lw_good) (h1 : Cond.static Lib.Math.min.name ∈ lw_good) (h2 : Cond.initialized "java/lang/Math" ∈ lw_good) (h3 : Cond.code Lib.Math.min.name Lib.Math.min.code 2 (some .int) ∈ lw_good) (hf : 1 ≤ (mR M).frames) (hlo : (st.map fun v => v.category).sum + 13 ≤ (mR M).locals) (hd : decode (mC M) pc = .ok (.invokestatic idx, 3)) (k : J G M (pc + 3) L (.int (if y < x then y else x) :: st) w Q) : J G M pc L (.int y :: .int x :: st) w Q := by
  intro p l e s m args below meth c cells slots Qf C hR hE ls H locs hw hl
  have ht := C.1.2.2.2.2
  exact va_mmin C.1.1 C.1.2.1 (C.1.2.2.1.trans hl.1.symm) C.1.2.2.2.1 (ht _ hk) (ht _ h1) (ht _ h2) (ht _ h3) hf (by rw [cat_rv]; exact hlo) hR.1 hR.2 hd (k p l e s m args below meth c cells slots Qf C hR hE ls H locs hw hl)
theorem j_copyi {idx a0 a n0 n1 : Nat} {f g : Nat → Int32} {sp dp n : Int32} (hk : Cond.methodLink (mO M) idx arraycopyName ∈ lw_good) (h1 : Cond.native arraycopyName ∈ lw_good) (h2 : Cond.static arraycopyName ∈ lw_good) (h3 : Cond.initialized "java/lang/System" ∈ lw_good) (he0 : w[a0]? = some (.inl (0, n0, .inl f))) (he1 : w[a]? = some (.inl (0, n1, .inl g))) (g1 : ¬ sp < 0) (g2 : ¬ dp < 0) (g3 : ¬ n < 0) (g4 : sp.toNatClampNeg + n.toNatClampNeg ≤ n0) (g5 : dp.toNatClampNeg + n.toNatClampNeg ≤ n1) (hf : 1 ≤ (mR M).frames) (hlo : (st.map fun v => v.category).sum + (nativeFrameWords "java/lang/System" "arraycopy" 5 + 11) ≤ (mR M).locals) (hd : decode (mC M) pc = .ok (.invokestatic idx, 3))
    (k : J G M (pc + 3) L st (w.set a (.inl (0, n1, .inl (va_cpy f g sp.toNatClampNeg dp.toNatClampNeg n.toNatClampNeg)))) Q) : J G M pc L (.int n :: .int dp :: .ref a :: .int sp :: .ref a0 :: st) w Q := by
  intro p l e s m args below meth c cells slots Qf C hR hE ls H locs hw hl
  have ht := C.1.2.2.2.2
  refine va_copyi (D := cD G) (ty := .int) C.1.1 C.1.2.1 (C.1.2.2.1.trans hl.1.symm) C.1.2.2.2.1 (ht _ hk) (ht _ h1) (ht _ h2) (ht _ h3) C.2.1 hw.1 hw.2.1 hw.2.2 a0 a 0 0 (rW_at he0) (rW_at he1) rfl rfl rfl g1 g2 g3 g4 g5 (fun _ _ => rfl) hf (by rw [cat_rv]; exact hlo) hd (fun H1 locs1 hP hD hS => ?_)
  exact k p l e s m args below meth c cells slots Qf C hR hE ls H1 locs1 ⟨rW_set (e := .inl (0, n1, .inl (va_cpy f g sp.toNatClampNeg dp.toNatClampNeg n.toNatClampNeg))) ▸ hP, rW_set (e := .inl (0, n1, .inl (va_cpy f g sp.toNatClampNeg dp.toNatClampNeg n.toNatClampNeg))) ▸ hD, hS⟩ hl
theorem j_copyl {idx a0 a n0 n1 : Nat} {f g : Nat → Int64} {sp dp n : Int32} (hk : Cond.methodLink (mO M) idx arraycopyName ∈ lw_good) (h1 : Cond.native arraycopyName ∈ lw_good) (h2 : Cond.static arraycopyName ∈ lw_good) (h3 : Cond.initialized "java/lang/System" ∈ lw_good) (he0 : w[a0]? = some (.inl (1, n0, .inr (.inl f)))) (he1 : w[a]? = some (.inl (1, n1, .inr (.inl g)))) (g1 : ¬ sp < 0) (g2 : ¬ dp < 0) (g3 : ¬ n < 0) (g4 : sp.toNatClampNeg + n.toNatClampNeg ≤ n0) (g5 : dp.toNatClampNeg + n.toNatClampNeg ≤ n1) (hf : 1 ≤ (mR M).frames) (hlo : (st.map fun v => v.category).sum + (nativeFrameWords "java/lang/System" "arraycopy" 5 + 11) ≤ (mR M).locals) (hd : decode (mC M) pc = .ok (.invokestatic idx, 3))
    (k : J G M (pc + 3) L st (w.set a (.inl (1, n1, .inr (.inl (va_cpy f g sp.toNatClampNeg dp.toNatClampNeg n.toNatClampNeg))))) Q) : J G M pc L (.int n :: .int dp :: .ref a :: .int sp :: .ref a0 :: st) w Q := by
  intro p l e s m args below meth c cells slots Qf C hR hE ls H locs hw hl
  have ht := C.1.2.2.2.2
  refine va_copyl (D := cD G) (ty := .long) C.1.1 C.1.2.1 (C.1.2.2.1.trans hl.1.symm) C.1.2.2.2.1 (ht _ hk) (ht _ h1) (ht _ h2) (ht _ h3) C.2.1 hw.1 hw.2.1 hw.2.2 a0 a 1 1 (rW_at he0) (rW_at he1) rfl rfl rfl g1 g2 g3 g4 g5 (fun _ _ => rfl) hf (by rw [cat_rv]; exact hlo) hd (fun H1 locs1 hP hD hS => ?_)
  exact k p l e s m args below meth c cells slots Qf C hR hE ls H1 locs1 ⟨rW_set (e := .inl (1, n1, .inr (.inl (va_cpy f g sp.toNatClampNeg dp.toNatClampNeg n.toNatClampNeg)))) ▸ hP, rW_set (e := .inl (1, n1, .inr (.inl (va_cpy f g sp.toNatClampNeg dp.toNatClampNeg n.toNatClampNeg)))) ▸ hD, hS⟩ hl
end JRows
