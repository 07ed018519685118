/-! ===== refinement: the code from here does what the program F of the memory says, where F says something ===== -/
def R {S α : Type} (wf : S → Wd) (inj : α → Option Value) (G : Cf) (M : MI) (pc : Nat) (L : List (Option Value)) (st : List Value) (s : S) (F : Option (α × S)) : Prop :=
  ∀ a s', F = some (a, s') → J G M pc L st (wf s) (Is (inj a) (wf s'))
def Ct {S α : Type} (wf : S → Wd) (inj : α → Option Value) (G : Cf) (M : MI) (as : List Value) (s : S) (F : Option (α × S)) : Prop :=
  ∀ a s', F = some (a, s') → Does G M as (wf s) (Is (inj a) (wf s'))
def inI (x : Int32) : Option Value := some (.int x)
def inJ (x : Int64) : Option Value := some (.long x)
def inU (_ : Unit) : Option Value := none
def inS (k : Nat) : Option Value := some (.ref (1000 + k))
def oS (k : Option Nat) : Value := match k with
  | none => .null
  | some i => .ref (sb i)
def inO (k : Option Nat) : Option Value := some (oS k)
def bd {S α β : Type} (x : Option (α × S)) (k : α → S → Option (β × S)) : Option (β × S) := match x with
  | none => none
  | some q => k q.1 q.2
def gd {S α : Type} (p : Prop) [Decidable p] (x : Option (α × S)) : Option (α × S) := if p then x else none
def om {S α : Type} (v : Option Nat) (a : Option (α × S)) (b : Nat → Option (α × S)) : Option (α × S) := match v with
  | none => a
  | some i => gd (i < 4) (b i)
def vl {A B : Type} (x : A) (k : A → B) : B := k x
def inb (i : Int32) (n : Nat) : Prop := 0 ≤ i ∧ i.toNatClampNeg < n
def ixg {S α : Type} (i : Int32) (n : Nat) (k : Nat → Option (α × S)) : Option (α × S) := if 0 ≤ i then (if i.toNatClampNeg < n then k i.toNatClampNeg else none) else none
def lp {T : Type} (bot : T) (body : T → T) : Nat → T
  | 0 => bot
  | n + 1 => body (lp bot body n)
def lpad (n : Nat) (L : List (Option Value)) : List (Option Value) := L ++ List.replicate n none
theorem lget_pad {n : Nat} : ∀ {L : List (Option Value)} {i : Nat} {v : Value}, lget (lpad n L) i = some v → lget L i = some v := by
  intro L
  induction L with
  | nil =>
    intro i v h
    exfalso
    have : ∀ (n i : Nat), lget (List.replicate n none) i = none := by
      intro n
      induction n with
      | zero => intro i; rfl
      | succ n ih => intro i; cases i with
        | zero => rfl
        | succ i => exact ih i
    rw [show lpad n [] = List.replicate n none from rfl, this] at h
    cases h
  | cons a l ih =>
    intro i v h
    cases i with
    | zero => exact h
    | succ i => exact ih h
def lmask : List Bool → List (Option Value) → List (Option Value)
  | true :: bs, a :: l => a :: lmask bs l
  | false :: bs, _ :: l => none :: lmask bs l
  | _, _ => []
theorem lget_mask : ∀ {bs : List Bool} {L : List (Option Value)} {i : Nat} {v : Value}, lget (lmask bs L) i = some v → lget L i = some v := by
  intro bs
  induction bs with
  | nil => intro L i v h; cases L <;> simp [lmask, lget] at h
  | cons b bs ih =>
    intro L i v h
    cases L with
    | nil => cases b <;> simp [lmask, lget] at h
    | cons a l =>
      cases b with
      | true =>
        cases i with
        | zero => exact h
        | succ i => exact ih (L := l) (i := i) h
      | false =>
        cases i with
        | zero => cases h
        | succ i => exact ih (L := l) (i := i) h
theorem J.sub {G : Cf} {M : MI} {pc : Nat} {L L' : List (Option Value)} {st : List Value} {w : Wd} {Q : QW} (h : ∀ i v, lget L' i = some v → lget L i = some v) (k : J G M pc L' st w Q) : J G M pc L st w Q := by
  intro p l e s m args below meth c cells slots Qf C hR hE ls H locs hw hl
  exact k p l e s m args below meth c cells slots Qf C hR hE ls H locs hw ⟨hl.1, hl.2.1, fun i v q => hl.2.2 i v (h i v q)⟩
section RRows
variable {S α : Type} {wf : S → Wd} {inj : α → Option Value} {G : Cf} {M : MI} {pc q : Nat} {L : List (Option Value)} {st : List Value} {s : S} {F F1 F2 : Option (α × S)}
theorem Ct.of {as : List Value} {L0 : List (Option Value)} (n : Nat) (hy : plainName (mY M).cls = true) (ho : (mY M).cls = mO M) (hc : (mR M).cells = 0 ∧ (mR M).slots = 0) (hn : (lg_sl as).length ≤ mN M) (hL : lpad n (lent as) = L0) (k : R wf inj G M 0 L0 [] s F) : Ct wf inj G M as s F := by
  subst hL
  exact fun a s' h => Does.of hy ho hc hn (J.sub (fun i v hv => lget_pad hv) (k a s' h))
theorem rr_none : R wf inj G M pc L st s (none : Option (α × S)) := fun a s' h => nomatch h
theorem rr_mask (bs : List Bool) {L' : List (Option Value)} (hL : lmask bs L = L') (k : R wf inj G M pc L' st s F) : R wf inj G M pc L st s F := by
  subst hL
  exact fun a s' h => J.sub (fun i v hv => lget_mask hv) (k a s' h)
theorem rr_gd {p : Prop} [Decidable p] (k : p → R wf inj G M pc L st s F) : R wf inj G M pc L st s (gd p F) := by
  intro a s' h
  by_cases hp : p
  · rw [gd, if_pos hp] at h; exact k hp a s' h
  · rw [gd, if_neg hp] at h; cases h
theorem rr_case (v : Int32) {x : Int32} (k1 : R wf inj G M pc L (.int v :: st) s F1) (k2 : ¬ x = v → R wf inj G M pc L (.int x :: st) s F2) : R wf inj G M pc L (.int x :: st) s (if x = v then F1 else F2) := by
  intro a s' h
  by_cases hp : x = v
  · rw [if_pos hp] at h; subst hp; exact k1 a s' h
  · rw [if_neg hp] at h; exact k2 hp a s' h
theorem ne_lit {x v : Int32} {n : Int} (h : ¬ x = v) (hv : v.toInt = n) : x.toInt ≠ n := fun e => h (Int32.toInt_inj.mp (e.trans hv.symm))
theorem rr_iadd {x y : Int32} (hq : pc + 1 = q) (hd : decode (mC M) pc = .ok (.iadd, 1)) (k : R wf inj G M q L (.int (x + y) :: st) s F) : R wf inj G M pc L (.int y :: .int x :: st) s F := by
  subst hq
  exact fun a s2 h => j_iadd hd (k a s2 h)
theorem rr_isub {x y : Int32} (hq : pc + 1 = q) (hd : decode (mC M) pc = .ok (.isub, 1)) (k : R wf inj G M q L (.int (x - y) :: st) s F) : R wf inj G M pc L (.int y :: .int x :: st) s F := by
  subst hq
  exact fun a s2 h => j_isub hd (k a s2 h)
theorem rr_imul {x y : Int32} (hq : pc + 1 = q) (hd : decode (mC M) pc = .ok (.imul, 1)) (k : R wf inj G M q L (.int (x * y) :: st) s F) : R wf inj G M pc L (.int y :: .int x :: st) s F := by
  subst hq
  exact fun a s2 h => j_imul hd (k a s2 h)
theorem rr_iand {x y : Int32} (hq : pc + 1 = q) (hd : decode (mC M) pc = .ok (.iand, 1)) (k : R wf inj G M q L (.int (x &&& y) :: st) s F) : R wf inj G M pc L (.int y :: .int x :: st) s F := by
  subst hq
  exact fun a s2 h => j_iand hd (k a s2 h)
theorem rr_ior {x y : Int32} (hq : pc + 1 = q) (hd : decode (mC M) pc = .ok (.ior, 1)) (k : R wf inj G M q L (.int (x ||| y) :: st) s F) : R wf inj G M pc L (.int y :: .int x :: st) s F := by
  subst hq
  exact fun a s2 h => j_ior hd (k a s2 h)
theorem rr_ixor {x y : Int32} (hq : pc + 1 = q) (hd : decode (mC M) pc = .ok (.ixor, 1)) (k : R wf inj G M q L (.int (x ^^^ y) :: st) s F) : R wf inj G M pc L (.int y :: .int x :: st) s F := by
  subst hq
  exact fun a s2 h => j_ixor hd (k a s2 h)
theorem rr_ishl {x y : Int32} (hq : pc + 1 = q) (hd : decode (mC M) pc = .ok (.ishl, 1)) (k : R wf inj G M q L (.int (x <<< (y &&& 31)) :: st) s F) : R wf inj G M pc L (.int y :: .int x :: st) s F := by
  subst hq
  exact fun a s2 h => j_ishl hd (k a s2 h)
theorem rr_ishr {x y : Int32} (hq : pc + 1 = q) (hd : decode (mC M) pc = .ok (.ishr, 1)) (k : R wf inj G M q L (.int (x >>> (y &&& 31)) :: st) s F) : R wf inj G M pc L (.int y :: .int x :: st) s F := by
  subst hq
  exact fun a s2 h => j_ishr hd (k a s2 h)
theorem rr_iushr {x y : Int32} (hq : pc + 1 = q) (hd : decode (mC M) pc = .ok (.iushr, 1)) (k : R wf inj G M q L (.int ((x.toUInt32 >>> (y.toUInt32 &&& Int32.toUInt32 31)).toInt32) :: st) s F) : R wf inj G M pc L (.int y :: .int x :: st) s F := by
  subst hq
  exact fun a s2 h => j_iushr hd (k a s2 h)
theorem rr_idiv {x y : Int32} (hq : pc + 1 = q) (hd : decode (mC M) pc = .ok (.idiv, 1)) (hne : ¬ y = 0) (k : R wf inj G M q L (.int (x / y) :: st) s F) : R wf inj G M pc L (.int y :: .int x :: st) s F := by
  subst hq
  exact fun a s2 h => j_idiv hd hne (k a s2 h)
theorem rr_irem {x y : Int32} (hq : pc + 1 = q) (hd : decode (mC M) pc = .ok (.irem, 1)) (hne : ¬ y = 0) (k : R wf inj G M q L (.int (x - x / y * y) :: st) s F) : R wf inj G M pc L (.int y :: .int x :: st) s F := by
  subst hq
  exact fun a s2 h => j_irem hd hne (k a s2 h)
theorem rr_ladd {x y : Int64} (hq : pc + 1 = q) (hd : decode (mC M) pc = .ok (.ladd, 1)) (k : R wf inj G M q L (.long (x + y) :: st) s F) : R wf inj G M pc L (.long y :: .long x :: st) s F := by
  subst hq
  exact fun a s2 h => j_ladd hd (k a s2 h)
theorem rr_lsub {x y : Int64} (hq : pc + 1 = q) (hd : decode (mC M) pc = .ok (.lsub, 1)) (k : R wf inj G M q L (.long (x - y) :: st) s F) : R wf inj G M pc L (.long y :: .long x :: st) s F := by
  subst hq
  exact fun a s2 h => j_lsub hd (k a s2 h)
theorem rr_lmul {x y : Int64} (hq : pc + 1 = q) (hd : decode (mC M) pc = .ok (.lmul, 1)) (k : R wf inj G M q L (.long (x * y) :: st) s F) : R wf inj G M pc L (.long y :: .long x :: st) s F := by
  subst hq
  exact fun a s2 h => j_lmul hd (k a s2 h)
theorem rr_land {x y : Int64} (hq : pc + 1 = q) (hd : decode (mC M) pc = .ok (.land, 1)) (k : R wf inj G M q L (.long (x &&& y) :: st) s F) : R wf inj G M pc L (.long y :: .long x :: st) s F := by
  subst hq
  exact fun a s2 h => j_land hd (k a s2 h)
theorem rr_lor {x y : Int64} (hq : pc + 1 = q) (hd : decode (mC M) pc = .ok (.lor, 1)) (k : R wf inj G M q L (.long (x ||| y) :: st) s F) : R wf inj G M pc L (.long y :: .long x :: st) s F := by
  subst hq
  exact fun a s2 h => j_lor hd (k a s2 h)
theorem rr_lshl {x : Int64} {y : Int32} (hq : pc + 1 = q) (hd : decode (mC M) pc = .ok (.lshl, 1)) (k : R wf inj G M q L (.long (x <<< (y.toInt64 &&& 63)) :: st) s F) : R wf inj G M pc L (.int y :: .long x :: st) s F := by
  subst hq
  exact fun a s2 h => j_lshl hd (k a s2 h)
theorem rr_lshr {x : Int64} {y : Int32} (hq : pc + 1 = q) (hd : decode (mC M) pc = .ok (.lshr, 1)) (k : R wf inj G M q L (.long (x >>> (y.toInt64 &&& 63)) :: st) s F) : R wf inj G M pc L (.int y :: .long x :: st) s F := by
  subst hq
  exact fun a s2 h => j_lshr hd (k a s2 h)
theorem rr_i2l {x : Int32} (hq : pc + 1 = q) (hd : decode (mC M) pc = .ok (.i2l, 1)) (k : R wf inj G M q L (.long x.toInt64 :: st) s F) : R wf inj G M pc L (.int x :: st) s F := by
  subst hq
  exact fun a s2 h => j_i2l hd (k a s2 h)
theorem rr_l2i {x : Int64} (hq : pc + 1 = q) (hd : decode (mC M) pc = .ok (.l2i, 1)) (k : R wf inj G M q L (.int x.toInt32 :: st) s F) : R wf inj G M pc L (.long x :: st) s F := by
  subst hq
  exact fun a s2 h => j_l2i hd (k a s2 h)
theorem rr_i2b {x : Int32} (hq : pc + 1 = q) (hd : decode (mC M) pc = .ok (.i2b, 1)) (k : R wf inj G M q L (.int x.toInt8.toInt32 :: st) s F) : R wf inj G M pc L (.int x :: st) s F := by
  subst hq
  exact fun a s2 h => j_i2b hd (k a s2 h)
theorem rr_i2s {x : Int32} (hq : pc + 1 = q) (hd : decode (mC M) pc = .ok (.i2s, 1)) (k : R wf inj G M q L (.int x.toInt16.toInt32 :: st) s F) : R wf inj G M pc L (.int x :: st) s F := by
  subst hq
  exact fun a s2 h => j_i2s hd (k a s2 h)
theorem rr_lcmp {x y : Int64} (hq : pc + 1 = q) (hd : decode (mC M) pc = .ok (.lcmp, 1)) (k : R wf inj G M q L (.int (lg_cmp x y) :: st) s F) : R wf inj G M pc L (.long y :: .long x :: st) s F := by
  subst hq
  exact fun a s2 h => j_lcmp hd (k a s2 h)
theorem rr_iconst {n : Int} (v : Int32) (hq : pc + 1 = q) (hd : decode (mC M) pc = .ok (.iconst n, 1)) (hv : Int32.ofInt n = v) (k : R wf inj G M q L (.int v :: st) s F) : R wf inj G M pc L (st) s F := by
  subst hq
  exact fun a s2 h => j_iconst v hd hv (k a s2 h)
theorem rr_bipush {n : Int} (v : Int32) (hq : pc + 2 = q) (hd : decode (mC M) pc = .ok (.bipush n, 2)) (hv : (Int8.ofInt n).toInt32 = v) (k : R wf inj G M q L (.int v :: st) s F) : R wf inj G M pc L (st) s F := by
  subst hq
  exact fun a s2 h => j_bipush v hd hv (k a s2 h)
theorem rr_sipush {n : Int} (v : Int32) (hq : pc + 3 = q) (hd : decode (mC M) pc = .ok (.sipush n, 3)) (hv : (Int16.ofInt n).toInt32 = v) (k : R wf inj G M q L (.int v :: st) s F) : R wf inj G M pc L (st) s F := by
  subst hq
  exact fun a s2 h => j_sipush v hd hv (k a s2 h)
theorem rr_lconst {n : Fin 2} (v : Int64) (hq : pc + 1 = q) (hd : decode (mC M) pc = .ok (.lconst n, 1)) (hv : Int64.ofNat (n : Nat) = v) (k : R wf inj G M q L (.long v :: st) s F) : R wf inj G M pc L (st) s F := by
  subst hq
  exact fun a s2 h => j_lconst v hd hv (k a s2 h)
theorem rr_null (hq : pc + 1 = q) (hd : decode (mC M) pc = .ok (.aconst_null, 1)) (k : R wf inj G M q L (.null :: st) s F) : R wf inj G M pc L (st) s F := by
  subst hq
  exact fun a s2 h => j_null hd (k a s2 h)
theorem rr_dup {a : Value} (hq : pc + 1 = q) (hd : decode (mC M) pc = .ok (.dup, 1)) (hc : a.category = 1) (k : R wf inj G M q L (a :: a :: st) s F) : R wf inj G M pc L (a :: st) s F := by
  subst hq
  exact fun a s2 h => j_dup hd hc (k a s2 h)
theorem rr_pop {a : Value} (hq : pc + 1 = q) (hd : decode (mC M) pc = .ok (.pop, 1)) (hc : a.category = 1) (k : R wf inj G M q L (st) s F) : R wf inj G M pc L (a :: st) s F := by
  subst hq
  exact fun a s2 h => j_pop hd hc (k a s2 h)
theorem rr_dup2 {a b : Value} (hq : pc + 1 = q) (hd : decode (mC M) pc = .ok (.dup2, 1)) (hc : a.category = 1) (hc2 : b.category = 1) (k : R wf inj G M q L (a :: b :: a :: b :: st) s F) : R wf inj G M pc L (a :: b :: st) s F := by
  subst hq
  exact fun a s2 h => j_dup2 hd hc hc2 (k a s2 h)
theorem rr_ldc {idx : Nat} {v : Int32} (hq : pc + 2 = q) (hd : decode (mC M) pc = .ok (.ldc idx, 2)) (hc : Cond.constant (mO M) idx v ∈ lw_good) (k : R wf inj G M q L (.int v :: st) s F) : R wf inj G M pc L (st) s F := by
  subst hq
  exact fun a s2 h => j_ldc hc hd (k a s2 h)
theorem rr_ldcw {idx : Nat} {v : Int32} (hq : pc + 3 = q) (hd : decode (mC M) pc = .ok (.ldc_w idx, 3)) (hc : Cond.constant (mO M) idx v ∈ lw_good) (k : R wf inj G M q L (.int v :: st) s F) : R wf inj G M pc L (st) s F := by
  subst hq
  exact fun a s2 h => j_ldcw hc hd (k a s2 h)
theorem rr_ldc2 {idx : Nat} {v : Int64} (hq : pc + 3 = q) (hd : decode (mC M) pc = .ok (.ldc2_w idx, 3)) (hc : Cond.constantLong (mO M) idx v ∈ lw_good) (k : R wf inj G M q L (.long v :: st) s F) : R wf inj G M pc L (st) s F := by
  subst hq
  exact fun a s2 h => j_ldc2 hc hd (k a s2 h)
theorem rr_iload_n {k0 : Fin 4} {x : Int32} (hq : pc + 1 = q) (hd : decode (mC M) pc = .ok (.iload_n k0, 1)) (hg : lget L (k0 : Nat) = some (.int x)) (k : R wf inj G M q L (.int x :: st) s F) : R wf inj G M pc L (st) s F := by
  subst hq
  exact fun a s2 h => j_iload_n hd hg (k a s2 h)
theorem rr_iload {i : Nat} {x : Int32} (hq : pc + 2 = q) (hd : decode (mC M) pc = .ok (.iload i, 2)) (hg : lget L i = some (.int x)) (k : R wf inj G M q L (.int x :: st) s F) : R wf inj G M pc L (st) s F := by
  subst hq
  exact fun a s2 h => j_iload hd hg (k a s2 h)
theorem rr_lload_n {k0 : Fin 4} {x : Int64} (hq : pc + 1 = q) (hd : decode (mC M) pc = .ok (.lload_n k0, 1)) (hg : lget L (k0 : Nat) = some (.long x)) (k : R wf inj G M q L (.long x :: st) s F) : R wf inj G M pc L (st) s F := by
  subst hq
  exact fun a s2 h => j_lload_n hd hg (k a s2 h)
theorem rr_lload {i : Nat} {x : Int64} (hq : pc + 2 = q) (hd : decode (mC M) pc = .ok (.lload i, 2)) (hg : lget L i = some (.long x)) (k : R wf inj G M q L (.long x :: st) s F) : R wf inj G M pc L (st) s F := by
  subst hq
  exact fun a s2 h => j_lload hd hg (k a s2 h)
theorem rr_aload_n {k0 : Fin 4} {x : Nat} (hq : pc + 1 = q) (hd : decode (mC M) pc = .ok (.aload_n k0, 1)) (hg : lget L (k0 : Nat) = some (.ref x)) (k : R wf inj G M q L (.ref x :: st) s F) : R wf inj G M pc L (st) s F := by
  subst hq
  exact fun a s2 h => j_aload_n hd hg (k a s2 h)
theorem rr_aload {i : Nat} {x : Nat} (hq : pc + 2 = q) (hd : decode (mC M) pc = .ok (.aload i, 2)) (hg : lget L i = some (.ref x)) (k : R wf inj G M q L (.ref x :: st) s F) : R wf inj G M pc L (st) s F := by
  subst hq
  exact fun a s2 h => j_aload hd hg (k a s2 h)
theorem rr_aload_nN {k0 : Fin 4} (hq : pc + 1 = q) (hd : decode (mC M) pc = .ok (.aload_n k0, 1)) (hg : lget L (k0 : Nat) = some .null) (k : R wf inj G M q L (.null :: st) s F) : R wf inj G M pc L (st) s F := by
  subst hq
  exact fun a s2 h => j_aload_nN hd hg (k a s2 h)
theorem rr_aloadN {i : Nat} (hq : pc + 2 = q) (hd : decode (mC M) pc = .ok (.aload i, 2)) (hg : lget L i = some .null) (k : R wf inj G M q L (.null :: st) s F) : R wf inj G M pc L (st) s F := by
  subst hq
  exact fun a s2 h => j_aloadN hd hg (k a s2 h)
theorem rr_istore_n {k0 : Fin 4} {x : Int32} {F : Int32 → Option (α × S)} {L2 : Int32 → List (Option Value)} (hq : pc + 1 = q) (hd : decode (mC M) pc = .ok (.istore_n k0, 1)) (hn : (k0 : Nat) < mN M) (hL : ∀ y, lst1 L (k0 : Nat) (.int y) = L2 y) (k : ∀ y, R wf inj G M q (L2 y) st s (F y)) : R wf inj G M pc L (.int x :: st) s (vl x F) := by
  subst hq
  exact fun a s2 h => j_istore_n hd hn (hL x) (k x a s2 h)
theorem rr_istore {i : Nat} {x : Int32} {F : Int32 → Option (α × S)} {L2 : Int32 → List (Option Value)} (hq : pc + 2 = q) (hd : decode (mC M) pc = .ok (.istore i, 2)) (hn : i < mN M) (hL : ∀ y, lst1 L i (.int y) = L2 y) (k : ∀ y, R wf inj G M q (L2 y) st s (F y)) : R wf inj G M pc L (.int x :: st) s (vl x F) := by
  subst hq
  exact fun a s2 h => j_istore hd hn (hL x) (k x a s2 h)
theorem rr_lstore_n {k0 : Fin 4} {x : Int64} {F : Int64 → Option (α × S)} {L2 : Int64 → List (Option Value)} (hq : pc + 1 = q) (hd : decode (mC M) pc = .ok (.lstore_n k0, 1)) (hn : (k0 : Nat) + 1 < mN M) (hL : ∀ y, lst2 L (k0 : Nat) (.long y) = L2 y) (k : ∀ y, R wf inj G M q (L2 y) st s (F y)) : R wf inj G M pc L (.long x :: st) s (vl x F) := by
  subst hq
  exact fun a s2 h => j_lstore_n hd hn (hL x) (k x a s2 h)
theorem rr_lstore {i : Nat} {x : Int64} {F : Int64 → Option (α × S)} {L2 : Int64 → List (Option Value)} (hq : pc + 2 = q) (hd : decode (mC M) pc = .ok (.lstore i, 2)) (hn : i + 1 < mN M) (hL : ∀ y, lst2 L i (.long y) = L2 y) (k : ∀ y, R wf inj G M q (L2 y) st s (F y)) : R wf inj G M pc L (.long x :: st) s (vl x F) := by
  subst hq
  exact fun a s2 h => j_lstore hd hn (hL x) (k x a s2 h)
theorem rr_astore_n {k0 : Fin 4} {x : Nat} {L2 : List (Option Value)} (hq : pc + 1 = q) (hd : decode (mC M) pc = .ok (.astore_n k0, 1)) (hn : (k0 : Nat) < mN M) (hL : lst1 L (k0 : Nat) (.ref x) = L2) (k : R wf inj G M q L2 st s F) : R wf inj G M pc L (.ref x :: st) s F := by
  subst hq
  exact fun a s2 h => j_astore_n hd hn hL (k a s2 h)
theorem rr_astore_nN {k0 : Fin 4} {L2 : List (Option Value)} (hq : pc + 1 = q) (hd : decode (mC M) pc = .ok (.astore_n k0, 1)) (hn : (k0 : Nat) < mN M) (hL : lst1 L (k0 : Nat) .null = L2) (k : R wf inj G M q L2 st s F) : R wf inj G M pc L (.null :: st) s F := by
  subst hq
  exact fun a s2 h => j_astore_nN hd hn hL (k a s2 h)
theorem rr_astore {i : Nat} {x : Nat} {L2 : List (Option Value)} (hq : pc + 2 = q) (hd : decode (mC M) pc = .ok (.astore i, 2)) (hn : i < mN M) (hL : lst1 L i (.ref x) = L2) (k : R wf inj G M q L2 st s F) : R wf inj G M pc L (.ref x :: st) s F := by
  subst hq
  exact fun a s2 h => j_astore hd hn hL (k a s2 h)
theorem rr_astoreN {i : Nat} {L2 : List (Option Value)} (hq : pc + 2 = q) (hd : decode (mC M) pc = .ok (.astore i, 2)) (hn : i < mN M) (hL : lst1 L i .null = L2) (k : R wf inj G M q L2 st s F) : R wf inj G M pc L (.null :: st) s F := by
  subst hq
  exact fun a s2 h => j_astoreN hd hn hL (k a s2 h)
theorem rr_iinc {i : Nat} {n : Int} {x v : Int32} {F : Int32 → Option (α × S)} {L2 : Int32 → List (Option Value)} (hq : pc + 3 = q) (hd : decode (mC M) pc = .ok (.iinc i n, 3)) (hg : lget L i = some (.int x)) (hv : Int32.ofInt n = v) (hn : i < mN M) (hL : ∀ y, lst1 L i (.int y) = L2 y) (k : ∀ y, R wf inj G M q (L2 y) st s (F y)) : R wf inj G M pc L st s (vl (x + v) F) := by
  subst hq hv
  exact fun a s2 h => j_iinc hd hg rfl hn (hL _) (k _ a s2 h)
theorem rr_if_eq {x : Int32} {off : Int} (tgt : Nat) (hq : pc + 3 = q) (hd : decode (mC M) pc = .ok (.ifCond .eq off, 3)) (ht : (pc : Int) + off = (tgt : Int)) (k1 : x = 0 → R wf inj G M tgt L st s F1) (k2 : ¬ x = 0 → R wf inj G M q L st s F2) : R wf inj G M pc L (.int x :: st) s (if x = 0 then F1 else F2) := by
  subst hq
  exact fun a s2 h => j_if_eq hd ht (fun h2 => k1 h2 a s2 (by rw [if_pos h2] at h; exact h)) (fun h2 => k2 h2 a s2 (by rw [if_neg h2] at h; exact h))
theorem rr_if_lt {x : Int32} {off : Int} (tgt : Nat) (hq : pc + 3 = q) (hd : decode (mC M) pc = .ok (.ifCond .lt off, 3)) (ht : (pc : Int) + off = (tgt : Int)) (k1 : x < 0 → R wf inj G M tgt L st s F1) (k2 : ¬ x < 0 → R wf inj G M q L st s F2) : R wf inj G M pc L (.int x :: st) s (if x < 0 then F1 else F2) := by
  subst hq
  exact fun a s2 h => j_if_lt hd ht (fun h2 => k1 h2 a s2 (by rw [if_pos h2] at h; exact h)) (fun h2 => k2 h2 a s2 (by rw [if_neg h2] at h; exact h))
theorem rr_if_ge {x : Int32} {off : Int} (tgt : Nat) (hq : pc + 3 = q) (hd : decode (mC M) pc = .ok (.ifCond .ge off, 3)) (ht : (pc : Int) + off = (tgt : Int)) (k1 : 0 ≤ x → R wf inj G M tgt L st s F1) (k2 : ¬ 0 ≤ x → R wf inj G M q L st s F2) : R wf inj G M pc L (.int x :: st) s (if 0 ≤ x then F1 else F2) := by
  subst hq
  exact fun a s2 h => j_if_ge hd ht (fun h2 => k1 h2 a s2 (by rw [if_pos h2] at h; exact h)) (fun h2 => k2 h2 a s2 (by rw [if_neg h2] at h; exact h))
theorem rr_if_gt {x : Int32} {off : Int} (tgt : Nat) (hq : pc + 3 = q) (hd : decode (mC M) pc = .ok (.ifCond .gt off, 3)) (ht : (pc : Int) + off = (tgt : Int)) (k1 : 0 < x → R wf inj G M tgt L st s F1) (k2 : ¬ 0 < x → R wf inj G M q L st s F2) : R wf inj G M pc L (.int x :: st) s (if 0 < x then F1 else F2) := by
  subst hq
  exact fun a s2 h => j_if_gt hd ht (fun h2 => k1 h2 a s2 (by rw [if_pos h2] at h; exact h)) (fun h2 => k2 h2 a s2 (by rw [if_neg h2] at h; exact h))
theorem rr_if_le {x : Int32} {off : Int} (tgt : Nat) (hq : pc + 3 = q) (hd : decode (mC M) pc = .ok (.ifCond .le off, 3)) (ht : (pc : Int) + off = (tgt : Int)) (k1 : x ≤ 0 → R wf inj G M tgt L st s F1) (k2 : ¬ x ≤ 0 → R wf inj G M q L st s F2) : R wf inj G M pc L (.int x :: st) s (if x ≤ 0 then F1 else F2) := by
  subst hq
  exact fun a s2 h => j_if_le hd ht (fun h2 => k1 h2 a s2 (by rw [if_pos h2] at h; exact h)) (fun h2 => k2 h2 a s2 (by rw [if_neg h2] at h; exact h))
theorem rr_if_ne {x : Int32} {off : Int} (tgt : Nat) (hq : pc + 3 = q) (hd : decode (mC M) pc = .ok (.ifCond .ne off, 3)) (ht : (pc : Int) + off = (tgt : Int)) (k1 : ¬ x = 0 → R wf inj G M tgt L st s F1) (k2 : x = 0 → R wf inj G M q L st s F2) : R wf inj G M pc L (.int x :: st) s (if x = 0 then F2 else F1) := by
  subst hq
  exact fun a s2 h => j_if_ne hd ht (fun h2 => k1 h2 a s2 (by rw [if_neg h2] at h; exact h)) (fun h2 => k2 h2 a s2 (by rw [if_pos h2] at h; exact h))
theorem rr_icmp_eq {x y : Int32} {off : Int} (tgt : Nat) (hq : pc + 3 = q) (hd : decode (mC M) pc = .ok (.if_icmp .eq off, 3)) (ht : (pc : Int) + off = (tgt : Int)) (k1 : x = y → R wf inj G M tgt L st s F1) (k2 : ¬ x = y → R wf inj G M q L st s F2) : R wf inj G M pc L (.int y :: .int x :: st) s (if x = y then F1 else F2) := by
  subst hq
  exact fun a s2 h => j_icmp_eq hd ht (fun h2 => k1 h2 a s2 (by rw [if_pos h2] at h; exact h)) (fun h2 => k2 h2 a s2 (by rw [if_neg h2] at h; exact h))
theorem rr_icmp_lt {x y : Int32} {off : Int} (tgt : Nat) (hq : pc + 3 = q) (hd : decode (mC M) pc = .ok (.if_icmp .lt off, 3)) (ht : (pc : Int) + off = (tgt : Int)) (k1 : x < y → R wf inj G M tgt L st s F1) (k2 : ¬ x < y → R wf inj G M q L st s F2) : R wf inj G M pc L (.int y :: .int x :: st) s (if x < y then F1 else F2) := by
  subst hq
  exact fun a s2 h => j_icmp_lt hd ht (fun h2 => k1 h2 a s2 (by rw [if_pos h2] at h; exact h)) (fun h2 => k2 h2 a s2 (by rw [if_neg h2] at h; exact h))
theorem rr_icmp_ge {x y : Int32} {off : Int} (tgt : Nat) (hq : pc + 3 = q) (hd : decode (mC M) pc = .ok (.if_icmp .ge off, 3)) (ht : (pc : Int) + off = (tgt : Int)) (k1 : y ≤ x → R wf inj G M tgt L st s F1) (k2 : ¬ y ≤ x → R wf inj G M q L st s F2) : R wf inj G M pc L (.int y :: .int x :: st) s (if y ≤ x then F1 else F2) := by
  subst hq
  exact fun a s2 h => j_icmp_ge hd ht (fun h2 => k1 h2 a s2 (by rw [if_pos h2] at h; exact h)) (fun h2 => k2 h2 a s2 (by rw [if_neg h2] at h; exact h))
theorem rr_icmp_gt {x y : Int32} {off : Int} (tgt : Nat) (hq : pc + 3 = q) (hd : decode (mC M) pc = .ok (.if_icmp .gt off, 3)) (ht : (pc : Int) + off = (tgt : Int)) (k1 : y < x → R wf inj G M tgt L st s F1) (k2 : ¬ y < x → R wf inj G M q L st s F2) : R wf inj G M pc L (.int y :: .int x :: st) s (if y < x then F1 else F2) := by
  subst hq
  exact fun a s2 h => j_icmp_gt hd ht (fun h2 => k1 h2 a s2 (by rw [if_pos h2] at h; exact h)) (fun h2 => k2 h2 a s2 (by rw [if_neg h2] at h; exact h))
theorem rr_icmp_le {x y : Int32} {off : Int} (tgt : Nat) (hq : pc + 3 = q) (hd : decode (mC M) pc = .ok (.if_icmp .le off, 3)) (ht : (pc : Int) + off = (tgt : Int)) (k1 : x ≤ y → R wf inj G M tgt L st s F1) (k2 : ¬ x ≤ y → R wf inj G M q L st s F2) : R wf inj G M pc L (.int y :: .int x :: st) s (if x ≤ y then F1 else F2) := by
  subst hq
  exact fun a s2 h => j_icmp_le hd ht (fun h2 => k1 h2 a s2 (by rw [if_pos h2] at h; exact h)) (fun h2 => k2 h2 a s2 (by rw [if_neg h2] at h; exact h))
theorem rr_icmp_ne {x y : Int32} {off : Int} (tgt : Nat) (hq : pc + 3 = q) (hd : decode (mC M) pc = .ok (.if_icmp .ne off, 3)) (ht : (pc : Int) + off = (tgt : Int)) (k1 : ¬ x = y → R wf inj G M tgt L st s F1) (k2 : x = y → R wf inj G M q L st s F2) : R wf inj G M pc L (.int y :: .int x :: st) s (if x = y then F2 else F1) := by
  subst hq
  exact fun a s2 h => j_icmp_ne hd ht (fun h2 => k1 h2 a s2 (by rw [if_neg h2] at h; exact h)) (fun h2 => k2 h2 a s2 (by rw [if_pos h2] at h; exact h))
theorem rr_goto {off : Int} (tgt : Nat) (hd : decode (mC M) pc = .ok (.goto off, 3)) (ht : (pc : Int) + off = (tgt : Int)) (k : R wf inj G M tgt L st s F) : R wf inj G M pc L st s F := fun a s2 h => j_goto hd ht (k a s2 h)
theorem rr_ifnonnull {x : Nat} {off : Int} (tgt : Nat) (hd : decode (mC M) pc = .ok (.ifnonnull off, 3)) (ht : (pc : Int) + off = (tgt : Int)) (k : R wf inj G M tgt L st s F) : R wf inj G M pc L (.ref x :: st) s F := fun a s2 h => j_ifnonnull hd ht (k a s2 h)
theorem rr_ifnonnullN {off : Int} (hq : pc + 3 = q) (hd : decode (mC M) pc = .ok (.ifnonnull off, 3)) (k : R wf inj G M q L st s F) : R wf inj G M pc L (.null :: st) s F := by
  subst hq
  exact fun a s2 h => j_ifnonnullN hd (k a s2 h)
theorem rr_ifnull {x : Nat} {off : Int} (hq : pc + 3 = q) (hd : decode (mC M) pc = .ok (.ifnull off, 3)) (k : R wf inj G M q L st s F) : R wf inj G M pc L (.ref x :: st) s F := by
  subst hq
  exact fun a s2 h => j_ifnull hd (k a s2 h)
theorem rr_ifnullN {off : Int} (tgt : Nat) (hd : decode (mC M) pc = .ok (.ifnull off, 3)) (ht : (pc : Int) + off = (tgt : Int)) (k : R wf inj G M tgt L st s F) : R wf inj G M pc L (.null :: st) s F := fun a s2 h => j_ifnullN hd ht (k a s2 h)
theorem rr_tableOut {dflt lo hi : Int} {offs : Array Int} {len : Nat} {x : Int32} (tgt : Nat) (hd : decode (mC M) pc = .ok (.tableswitch dflt lo hi offs, len)) (h0 : x.toInt < lo ∨ hi < x.toInt) (ht : (pc : Int) + dflt = (tgt : Int)) (k : R wf inj G M tgt L st s F) : R wf inj G M pc L (.int x :: st) s F := fun a s2 h => j_tableOut hd h0 ht (k a s2 h)
theorem rr_tableIn {dflt lo hi : Int} {offs : Array Int} {len : Nat} {x : Int32} {off : Int} (tgt : Nat) (hd : decode (mC M) pc = .ok (.tableswitch dflt lo hi offs, len)) (h1 : ¬ x.toInt < lo) (h2 : ¬ hi < x.toInt) (ho : offs[(x.toInt - lo).toNat]? = some off) (ht : (pc : Int) + off = (tgt : Int)) (k : R wf inj G M tgt L st s F) : R wf inj G M pc L (.int x :: st) s F := fun a s2 h => j_tableIn hd h1 h2 ho ht (k a s2 h)
theorem rr_lookup {dflt : Int} {ps : Array (Int × Int)} {len : Nat} {x : Int32} {off : Int} (tgt : Nat) (hd : decode (mC M) pc = .ok (.lookupswitch dflt ps, len)) (hp : (ps.toList.zip (ps.toList.drop 1)).all (fun (a, next) => a.1 < next.1) = true) (ho : Op.lookupswitch.offset ps.toList dflt x.toInt = off) (ht : (pc : Int) + off = (tgt : Int)) (k : R wf inj G M tgt L st s F) : R wf inj G M pc L (.int x :: st) s F := fun a s2 h => j_lookup hd hp ho ht (k a s2 h)
theorem rr_get {idx ci k0 a0 : Nat} {fs : List Value} {v : Value} (hq : pc + 3 = q) (Fl : FL (mO M) idx ci k0) (he : (wf s)[a0]? = some (.inr (ci, fs))) (hv : fs[k0]? = some v) (hd : decode (mC M) pc = .ok (.getfield idx, 3)) (k : R wf inj G M q L (v :: st) s F) : R wf inj G M pc L (.ref a0 :: st) s F := by
  subst hq
  exact fun a s2 h => j_get Fl he hv hd (k a s2 h)
theorem rr_puti {idx ci k0 a0 : Nat} {fs : List Value} {x : Int32} {s1 : S} {F : S → Option (α × S)} (hq : pc + 3 = q) (Fl : FL (mO M) idx ci k0) (F2 : FP ci k0 .int) (he : (wf s)[a0]? = some (.inr (ci, fs))) (hl2 : k0 < fs.length) (hs : (wf s).set a0 (.inr (ci, fs.set k0 (.int x))) = wf s1) (hd : decode (mC M) pc = .ok (.putfield idx, 3)) (k : ∀ s2, R wf inj G M q L st s2 (F s2)) : R wf inj G M pc L (.int x :: .ref a0 :: st) s (vl s1 F) := by
  subst hq
  exact fun a s2 h => j_puti Fl F2 he hl2 hd (hs ▸ k s1 a s2 h)
theorem rr_putl {idx ci k0 a0 : Nat} {fs : List Value} {x : Int64} {s1 : S} {F : S → Option (α × S)} (hq : pc + 3 = q) (Fl : FL (mO M) idx ci k0) (F2 : FP ci k0 .long) (he : (wf s)[a0]? = some (.inr (ci, fs))) (hl2 : k0 < fs.length) (hs : (wf s).set a0 (.inr (ci, fs.set k0 (.long x))) = wf s1) (hd : decode (mC M) pc = .ok (.putfield idx, 3)) (k : ∀ s2, R wf inj G M q L st s2 (F s2)) : R wf inj G M pc L (.long x :: .ref a0 :: st) s (vl s1 F) := by
  subst hq
  exact fun a s2 h => j_putl Fl F2 he hl2 hd (hs ▸ k s1 a s2 h)
theorem rr_putz {idx ci k0 a0 : Nat} {fs : List Value} {x : Int32} {s1 : S} {F : S → Option (α × S)} (hq : pc + 3 = q) (Fl : FL (mO M) idx ci k0) (F2 : FP ci k0 .boolean) (hx : isB x) (he : (wf s)[a0]? = some (.inr (ci, fs))) (hl2 : k0 < fs.length) (hs : (wf s).set a0 (.inr (ci, fs.set k0 (.int x))) = wf s1) (hd : decode (mC M) pc = .ok (.putfield idx, 3)) (k : ∀ s2, R wf inj G M q L st s2 (F s2)) : R wf inj G M pc L (.int x :: .ref a0 :: st) s (vl s1 F) := by
  subst hq
  exact fun a s2 h => j_putz Fl F2 hx he hl2 hd (hs ▸ k s1 a s2 h)
theorem ixg_some {i : Int32} {n : Nat} {F : Nat → Option (α × S)} {r : α × S} (h : ixg i n F = some r) : ix i n i.toNatClampNeg ∧ F i.toNatClampNeg = some r := by
  unfold ixg at h
  split at h
  next h1 =>
    split at h
    next h2 => exact ⟨⟨fun q => q.elim (fun q => absurd h1 (Int32.not_le.mpr q)) (fun q => absurd h2 (Nat.not_lt.mpr q)), rfl⟩, h⟩
    next => cases h
  next => cases h
theorem rr_iald {a0 n : Nat} {f : Nat → Int32} {i : Int32} {F : Nat → Option (α × S)} (hq : pc + 1 = q) (he : (wf s)[a0]? = some (.inl (0, n, .inl f))) (hd : decode (mC M) pc = .ok (.iaload, 1)) (k : ∀ k0, R wf inj G M q L (.int (f k0) :: st) s (F k0)) : R wf inj G M pc L (.int i :: .ref a0 :: st) s (ixg i n F) := by
  subst hq
  exact fun a s2 h => j_iald he (ixg_some h).1 hd (k _ a s2 (ixg_some h).2)
theorem rr_zald {a0 n : Nat} {f : Nat → Int32} {i : Int32} {F : Nat → Option (α × S)} (hq : pc + 1 = q) (he : (wf s)[a0]? = some (.inl (2, n, .inl f))) (hd : decode (mC M) pc = .ok (.baload, 1)) (k : ∀ k0, R wf inj G M q L (.int (f k0) :: st) s (F k0)) : R wf inj G M pc L (.int i :: .ref a0 :: st) s (ixg i n F) := by
  subst hq
  exact fun a s2 h => j_zald he (ixg_some h).1 hd (k _ a s2 (ixg_some h).2)
theorem rr_lald {a0 n : Nat} {f : Nat → Int64} {i : Int32} {F : Nat → Option (α × S)} (hq : pc + 1 = q) (he : (wf s)[a0]? = some (.inl (1, n, .inr (.inl f)))) (hd : decode (mC M) pc = .ok (.laload, 1)) (k : ∀ k0, R wf inj G M q L (.long (f k0) :: st) s (F k0)) : R wf inj G M pc L (.int i :: .ref a0 :: st) s (ixg i n F) := by
  subst hq
  exact fun a s2 h => j_lald he (ixg_some h).1 hd (k _ a s2 (ixg_some h).2)
theorem rr_iast {a0 n : Nat} {f : Nat → Int32} {i : Int32} {x : Int32} {F : Nat → S → Option (α × S)} {s1 : Nat → S} (hq : pc + 1 = q) (he : (wf s)[a0]? = some (.inl (0, n, .inl f))) (hs : ∀ k0, (wf s).set a0 (.inl (0, n, .inl (upd f k0 x))) = wf (s1 k0)) (hd : decode (mC M) pc = .ok (.iastore, 1)) (k : ∀ k0 s2, R wf inj G M q L st s2 (F k0 s2)) : R wf inj G M pc L (.int x :: .int i :: .ref a0 :: st) s (ixg i n (fun k0 => vl (s1 k0) (F k0))) := by
  subst hq
  exact fun a s2 h => j_iast he (ixg_some h).1 hd (hs _ ▸ k _ (s1 _) a s2 (ixg_some h).2)
theorem rr_zast {a0 n : Nat} {f : Nat → Int32} {i : Int32} {x : Int32} {F : Nat → S → Option (α × S)} {s1 : Nat → S} (hq : pc + 1 = q) (he : (wf s)[a0]? = some (.inl (2, n, .inl f))) (hs : ∀ k0, (wf s).set a0 (.inl (2, n, .inl (upd f k0 x))) = wf (s1 k0)) (hx : isB x) (hd : decode (mC M) pc = .ok (.bastore, 1)) (k : ∀ k0 s2, R wf inj G M q L st s2 (F k0 s2)) : R wf inj G M pc L (.int x :: .int i :: .ref a0 :: st) s (ixg i n (fun k0 => vl (s1 k0) (F k0))) := by
  subst hq
  exact fun a s2 h => j_zast he (ixg_some h).1 hx hd (hs _ ▸ k _ (s1 _) a s2 (ixg_some h).2)
theorem rr_last {a0 n : Nat} {f : Nat → Int64} {i : Int32} {x : Int64} {F : Nat → S → Option (α × S)} {s1 : Nat → S} (hq : pc + 1 = q) (he : (wf s)[a0]? = some (.inl (1, n, .inr (.inl f)))) (hs : ∀ k0, (wf s).set a0 (.inl (1, n, .inr (.inl (vp_updL f k0 x)))) = wf (s1 k0)) (hd : decode (mC M) pc = .ok (.lastore, 1)) (k : ∀ k0 s2, R wf inj G M q L st s2 (F k0 s2)) : R wf inj G M pc L (.long x :: .int i :: .ref a0 :: st) s (ixg i n (fun k0 => vl (s1 k0) (F k0))) := by
  subst hq
  exact fun a s2 h => j_last he (ixg_some h).1 hd (hs _ ▸ k _ (s1 _) a s2 (ixg_some h).2)
theorem rr_aald {a0 n b k0 : Nat} {f : Nat → Option Nat} {i : Int32} (hq : pc + 1 = q) (he : (wf s)[a0]? = some (.inl (3, n, .inr (.inr (.inr (.inr f)))))) (hi : ix i n k0) (hb : f k0 = some b) (hd : decode (mC M) pc = .ok (.aaload, 1)) (k : R wf inj G M q L (.ref b :: st) s F) : R wf inj G M pc L (.int i :: .ref a0 :: st) s F := by
  subst hq
  exact fun a s2 h => j_aald he hi hb hd (k a s2 h)
theorem rr_kald {i : Int32} {F : Nat → Option (α × S)} (hq : pc + 1 = q) (hd : decode (mC M) pc = .ok (.iaload, 1)) (k : ∀ k0, R wf inj G M q L (.int (kaf k0) :: st) s (F k0)) : R wf inj G M pc L (.int i :: .ref 3000 :: st) s (ixg i 6 F) := by
  subst hq
  exact fun a s2 h => j_kald (ixg_some h).1 hd (k _ a s2 (ixg_some h).2)
theorem rr_ka {idx : Nat} (hq : pc + 3 = q) (hk : Cond.fieldLink (mO M) idx RX5 "KIND_ABOVE" "[I" ∈ lw_good) (hd : decode (mC M) pc = .ok (.getstatic idx, 3)) (k : R wf inj G M q L (.ref 3000 :: st) s F) : R wf inj G M pc L st s F := by
  subst hq
  exact fun a s2 h => j_ka hk hd (k a s2 h)
theorem rr_copyi {idx a0 a1 n0 n1 : Nat} {f g : Nat → Int32} {sp dp n : Int32} {s1 : S} {F : S → Option (α × S)} (hq : pc + 3 = q) (hk : Cond.methodLink (mO M) idx arraycopyName ∈ lw_good) (he0 : (wf s)[a0]? = some (.inl (0, n0, .inl f))) (he1 : (wf s)[a1]? = some (.inl (0, n1, .inl g))) (g1 : ¬ sp < 0) (g2 : ¬ dp < 0) (g3 : ¬ n < 0) (g4 : sp.toNatClampNeg + n.toNatClampNeg ≤ n0) (g5 : dp.toNatClampNeg + n.toNatClampNeg ≤ n1) (hf : 1 ≤ (mR M).frames) (hlo : (st.map fun v => v.category).sum + (nativeFrameWords "java/lang/System" "arraycopy" 5 + 11) ≤ (mR M).locals) (hs : (wf s).set a1 (.inl (0, n1, .inl (va_cpy f g sp.toNatClampNeg dp.toNatClampNeg n.toNatClampNeg))) = wf s1) (hd : decode (mC M) pc = .ok (.invokestatic idx, 3)) (k : ∀ s2, R wf inj G M q L st s2 (F s2)) : R wf inj G M pc L (.int n :: .int dp :: .ref a1 :: .int sp :: .ref a0 :: st) s (vl s1 F) := by
  subst hq
  exact fun a s2 h => j_copyi hk w_cp1 w_cp2 w_cp3 he0 he1 g1 g2 g3 g4 g5 hf hlo hd (hs ▸ k s1 a s2 h)
theorem rr_copyl {idx a0 a1 n0 n1 : Nat} {f g : Nat → Int64} {sp dp n : Int32} {s1 : S} {F : S → Option (α × S)} (hq : pc + 3 = q) (hk : Cond.methodLink (mO M) idx arraycopyName ∈ lw_good) (he0 : (wf s)[a0]? = some (.inl (1, n0, .inr (.inl f)))) (he1 : (wf s)[a1]? = some (.inl (1, n1, .inr (.inl g)))) (hf : 1 ≤ (mR M).frames) (hlo : (st.map fun v => v.category).sum + (nativeFrameWords "java/lang/System" "arraycopy" 5 + 11) ≤ (mR M).locals) (hs : (wf s).set a1 (.inl (1, n1, .inr (.inl (va_cpy f g sp.toNatClampNeg dp.toNatClampNeg n.toNatClampNeg)))) = wf s1) (hd : decode (mC M) pc = .ok (.invokestatic idx, 3)) (k : ∀ s2, R wf inj G M q L st s2 (F s2)) : R wf inj G M pc L (.int n :: .int dp :: .ref a1 :: .int sp :: .ref a0 :: st) s (gd (¬ sp < 0 ∧ ¬ dp < 0 ∧ ¬ n < 0 ∧ sp.toNatClampNeg + n.toNatClampNeg ≤ n0 ∧ dp.toNatClampNeg + n.toNatClampNeg ≤ n1) (vl s1 F)) := by
  subst hq
  refine rr_gd (fun g => ?_)
  exact fun a s2 h => j_copyl hk w_cp1 w_cp2 w_cp3 he0 he1 g.1 g.2.1 g.2.2.1 g.2.2.2.1 g.2.2.2.2 hf hlo hd (hs ▸ k s1 a s2 h)
theorem rr_max {idx : Nat} {x y : Int32} (hq : pc + 3 = q) (hk : Cond.methodLink (mO M) idx Lib.Math.max.name ∈ lw_good) (hf : 1 ≤ (mR M).frames) (hlo : (st.map fun v => v.category).sum + 13 ≤ (mR M).locals) (hd : decode (mC M) pc = .ok (.invokestatic idx, 3)) (k : R wf inj G M q L (.int (if x < y then y else x) :: st) s F) : R wf inj G M pc L (.int y :: .int x :: st) s F := by
  subst hq
  exact fun a s2 h => j_max hk w_max1 w_math2 w_max3 hf hlo hd (k a s2 h)
theorem rr_min {idx : Nat} {x y : Int32} (hq : pc + 3 = q) (hk : Cond.methodLink (mO M) idx Lib.Math.min.name ∈ lw_good) (hf : 1 ≤ (mR M).frames) (hlo : (st.map fun v => v.category).sum + 13 ≤ (mR M).locals) (hd : decode (mC M) pc = .ok (.invokestatic idx, 3)) (k : R wf inj G M q L (.int (if y < x then y else x) :: st) s F) : R wf inj G M pc L (.int y :: .int x :: st) s F := by
  subst hq
  exact fun a s2 h => j_min hk w_min1 w_math2 w_min3 hf hlo hd (k a s2 h)
theorem bd_some {β : Type} {x : Option (α × S)} {k : α → S → Option (β × S)} {r : β × S} (h : bd x k = some r) : ∃ a s1, x = some (a, s1) ∧ k a s1 = some r := by
  cases x with
  | none => cases h
  | some q => exact ⟨q.1, q.2, rfl, h⟩
theorem rr_iret {v : Int32} {s : S} {wf : S → Wd} (hd : decode (mC M) pc = .ok (.ireturn, 1)) (hr : mT M = some .int) : R wf inI G M pc L [.int v] s (some (v, s)) := by
  intro a s2 h
  cases h
  exact j_iret hd hr rfl ⟨rfl, rfl⟩
theorem rr_zret {v : Int32} {s : S} {wf : S → Wd} (hd : decode (mC M) pc = .ok (.ireturn, 1)) (hr : mT M = some .boolean) (hx : isB v) : R wf inI G M pc L [.int v] s (some (v, s)) := by
  intro a s2 h
  cases h
  exact j_zret hd hr hx ⟨rfl, rfl⟩
theorem rr_lret {v : Int64} {s : S} {wf : S → Wd} (hd : decode (mC M) pc = .ok (.lreturn, 1)) (hr : mT M = some .long) : R wf inJ G M pc L [.long v] s (some (v, s)) := by
  intro a s2 h
  cases h
  exact j_lret hd hr ⟨rfl, rfl⟩
theorem rr_vret {s : S} {wf : S → Wd} (hd : decode (mC M) pc = .ok (.return_, 1)) (hr : mT M = none) : R wf inU G M pc L [] s (some ((), s)) := by
  intro a s2 h
  cases h
  exact j_vret hd hr ⟨rfl, rfl⟩
theorem rr_sret {k : Nat} {n : String} {s : S} {wf : S → Wd} (hd : decode (mC M) pc = .ok (.areturn, 1)) (hr : mT M = some (.object n)) : R wf inS G M pc L [.ref (1000 + k)] s (some (k, s)) := by
  intro a s2 h
  cases h
  exact j_aret hd hr ⟨rfl, rfl⟩
theorem rr_oret {k : Option Nat} {n : String} {s : S} {wf : S → Wd} (hd : decode (mC M) pc = .ok (.areturn, 1)) (hr : mT M = some (.object n)) : R wf inO G M pc L [oS k] s (some (k, s)) := by
  intro a s2 h
  cases h
  cases k with
  | none => exact j_aretN hd hr ⟨rfl, rfl⟩
  | some i => exact j_aret hd hr ⟨rfl, rfl⟩
theorem rr_cVi {M2 : MI} {n idx b ci : Nat} {as rest : List Value} {fs : List Value} {q2 : vw_C} {F2 : Option ((Int32) × S)} {F : (Int32) → S → Option (α × S)} (hq : pc + 3 = q) (hM : MVV M2 n) (hk : Cond.methodLink (mO M) idx (mY M2) ∈ lw_good) (hr : rOK M2 M) (hC : Ct wf inI G M2 (.ref b :: as) s F2) (he : (wf s)[b]? = some (.inr (ci, fs))) (hc : vwCl[ci]? = some q2) (hq2 : q2.1 = mO M2) (hn : as.length = n) (hst : as.reverse ++ .ref b :: rest = st) (hcat : (rest.map fun v => v.category).sum ≤ 8) (hd : decode (mC M) pc = .ok (.invokevirtual idx, 3)) (k : ∀ v s1, R wf inj G M q L (.int v :: rest) s1 (F v s1)) : R wf inj G M pc L st s (bd F2 F) := by
  subst hq
  intro a s2 h
  obtain ⟨v, s1, h1, h2⟩ := bd_some h
  exact j_callV hM hk hr (hC v s1 h1) he hc hq2 hn hst hcat hd (fun v2 u hu => by obtain ⟨rfl, rfl⟩ := hu; exact k v s1 a s2 h2)
theorem rr_cSi {M2 : MI} {n idx : Nat} {as rest : List Value} {F2 : Option ((Int32) × S)} {F : (Int32) → S → Option (α × S)} (hq : pc + 3 = q) (hM : MVS M2 n) (hk : Cond.methodLink (mO M) idx (mY M2) ∈ lw_good) (hr : rOK M2 M) (hC : Ct wf inI G M2 as s F2) (hn : as.length = n) (hst : as.reverse ++ rest = st) (hcat : (rest.map fun v => v.category).sum ≤ 8) (hd : decode (mC M) pc = .ok (.invokestatic idx, 3)) (k : ∀ v s1, R wf inj G M q L (.int v :: rest) s1 (F v s1)) : R wf inj G M pc L st s (bd F2 F) := by
  subst hq
  intro a s2 h
  obtain ⟨v, s1, h1, h2⟩ := bd_some h
  exact j_callS hM hk hr (hC v s1 h1) hn hst hcat hd (fun v2 u hu => by obtain ⟨rfl, rfl⟩ := hu; exact k v s1 a s2 h2)
theorem rr_cVl {M2 : MI} {n idx b ci : Nat} {as rest : List Value} {fs : List Value} {q2 : vw_C} {F2 : Option ((Int64) × S)} {F : (Int64) → S → Option (α × S)} (hq : pc + 3 = q) (hM : MVV M2 n) (hk : Cond.methodLink (mO M) idx (mY M2) ∈ lw_good) (hr : rOK M2 M) (hC : Ct wf inJ G M2 (.ref b :: as) s F2) (he : (wf s)[b]? = some (.inr (ci, fs))) (hc : vwCl[ci]? = some q2) (hq2 : q2.1 = mO M2) (hn : as.length = n) (hst : as.reverse ++ .ref b :: rest = st) (hcat : (rest.map fun v => v.category).sum ≤ 8) (hd : decode (mC M) pc = .ok (.invokevirtual idx, 3)) (k : ∀ v s1, R wf inj G M q L (.long v :: rest) s1 (F v s1)) : R wf inj G M pc L st s (bd F2 F) := by
  subst hq
  intro a s2 h
  obtain ⟨v, s1, h1, h2⟩ := bd_some h
  exact j_callV hM hk hr (hC v s1 h1) he hc hq2 hn hst hcat hd (fun v2 u hu => by obtain ⟨rfl, rfl⟩ := hu; exact k v s1 a s2 h2)
theorem rr_cSl {M2 : MI} {n idx : Nat} {as rest : List Value} {F2 : Option ((Int64) × S)} {F : (Int64) → S → Option (α × S)} (hq : pc + 3 = q) (hM : MVS M2 n) (hk : Cond.methodLink (mO M) idx (mY M2) ∈ lw_good) (hr : rOK M2 M) (hC : Ct wf inJ G M2 as s F2) (hn : as.length = n) (hst : as.reverse ++ rest = st) (hcat : (rest.map fun v => v.category).sum ≤ 8) (hd : decode (mC M) pc = .ok (.invokestatic idx, 3)) (k : ∀ v s1, R wf inj G M q L (.long v :: rest) s1 (F v s1)) : R wf inj G M pc L st s (bd F2 F) := by
  subst hq
  intro a s2 h
  obtain ⟨v, s1, h1, h2⟩ := bd_some h
  exact j_callS hM hk hr (hC v s1 h1) hn hst hcat hd (fun v2 u hu => by obtain ⟨rfl, rfl⟩ := hu; exact k v s1 a s2 h2)
theorem rr_cVu {M2 : MI} {n idx b ci : Nat} {as rest : List Value} {fs : List Value} {q2 : vw_C} {F2 : Option ((Unit) × S)} {F : (Unit) → S → Option (α × S)} (hq : pc + 3 = q) (hM : MVV M2 n) (hk : Cond.methodLink (mO M) idx (mY M2) ∈ lw_good) (hr : rOK M2 M) (hC : Ct wf inU G M2 (.ref b :: as) s F2) (he : (wf s)[b]? = some (.inr (ci, fs))) (hc : vwCl[ci]? = some q2) (hq2 : q2.1 = mO M2) (hn : as.length = n) (hst : as.reverse ++ .ref b :: rest = st) (hcat : (rest.map fun v => v.category).sum ≤ 8) (hd : decode (mC M) pc = .ok (.invokevirtual idx, 3)) (k : ∀ v s1, R wf inj G M q L (rest) s1 (F v s1)) : R wf inj G M pc L st s (bd F2 F) := by
  subst hq
  intro a s2 h
  obtain ⟨v, s1, h1, h2⟩ := bd_some h
  exact j_callV hM hk hr (hC v s1 h1) he hc hq2 hn hst hcat hd (fun v2 u hu => by obtain ⟨rfl, rfl⟩ := hu; exact k v s1 a s2 h2)
theorem rr_cSu {M2 : MI} {n idx : Nat} {as rest : List Value} {F2 : Option ((Unit) × S)} {F : (Unit) → S → Option (α × S)} (hq : pc + 3 = q) (hM : MVS M2 n) (hk : Cond.methodLink (mO M) idx (mY M2) ∈ lw_good) (hr : rOK M2 M) (hC : Ct wf inU G M2 as s F2) (hn : as.length = n) (hst : as.reverse ++ rest = st) (hcat : (rest.map fun v => v.category).sum ≤ 8) (hd : decode (mC M) pc = .ok (.invokestatic idx, 3)) (k : ∀ v s1, R wf inj G M q L (rest) s1 (F v s1)) : R wf inj G M pc L st s (bd F2 F) := by
  subst hq
  intro a s2 h
  obtain ⟨v, s1, h1, h2⟩ := bd_some h
  exact j_callS hM hk hr (hC v s1 h1) hn hst hcat hd (fun v2 u hu => by obtain ⟨rfl, rfl⟩ := hu; exact k v s1 a s2 h2)
theorem rr_cVs {M2 : MI} {n idx b ci : Nat} {as rest : List Value} {fs : List Value} {q2 : vw_C} {F2 : Option ((Nat) × S)} {F : (Nat) → S → Option (α × S)} (hq : pc + 3 = q) (hM : MVV M2 n) (hk : Cond.methodLink (mO M) idx (mY M2) ∈ lw_good) (hr : rOK M2 M) (hC : Ct wf inS G M2 (.ref b :: as) s F2) (he : (wf s)[b]? = some (.inr (ci, fs))) (hc : vwCl[ci]? = some q2) (hq2 : q2.1 = mO M2) (hn : as.length = n) (hst : as.reverse ++ .ref b :: rest = st) (hcat : (rest.map fun v => v.category).sum ≤ 8) (hd : decode (mC M) pc = .ok (.invokevirtual idx, 3)) (k : ∀ v s1, R wf inj G M q L (.ref (1000 + v) :: rest) s1 (F v s1)) : R wf inj G M pc L st s (bd F2 F) := by
  subst hq
  intro a s2 h
  obtain ⟨v, s1, h1, h2⟩ := bd_some h
  exact j_callV hM hk hr (hC v s1 h1) he hc hq2 hn hst hcat hd (fun v2 u hu => by obtain ⟨rfl, rfl⟩ := hu; exact k v s1 a s2 h2)
theorem rr_cSs {M2 : MI} {n idx : Nat} {as rest : List Value} {F2 : Option ((Nat) × S)} {F : (Nat) → S → Option (α × S)} (hq : pc + 3 = q) (hM : MVS M2 n) (hk : Cond.methodLink (mO M) idx (mY M2) ∈ lw_good) (hr : rOK M2 M) (hC : Ct wf inS G M2 as s F2) (hn : as.length = n) (hst : as.reverse ++ rest = st) (hcat : (rest.map fun v => v.category).sum ≤ 8) (hd : decode (mC M) pc = .ok (.invokestatic idx, 3)) (k : ∀ v s1, R wf inj G M q L (.ref (1000 + v) :: rest) s1 (F v s1)) : R wf inj G M pc L st s (bd F2 F) := by
  subst hq
  intro a s2 h
  obtain ⟨v, s1, h1, h2⟩ := bd_some h
  exact j_callS hM hk hr (hC v s1 h1) hn hst hcat hd (fun v2 u hu => by obtain ⟨rfl, rfl⟩ := hu; exact k v s1 a s2 h2)
theorem rr_cVo {M2 : MI} {n idx b ci : Nat} {as rest : List Value} {fs : List Value} {q2 : vw_C} {F2 : Option ((Option Nat) × S)} {F : (Option Nat) → S → Option (α × S)} (hq : pc + 3 = q) (hM : MVV M2 n) (hk : Cond.methodLink (mO M) idx (mY M2) ∈ lw_good) (hr : rOK M2 M) (hC : Ct wf inO G M2 (.ref b :: as) s F2) (he : (wf s)[b]? = some (.inr (ci, fs))) (hc : vwCl[ci]? = some q2) (hq2 : q2.1 = mO M2) (hn : as.length = n) (hst : as.reverse ++ .ref b :: rest = st) (hcat : (rest.map fun v => v.category).sum ≤ 8) (hd : decode (mC M) pc = .ok (.invokevirtual idx, 3)) (k : ∀ v s1, R wf inj G M q L (oS v :: rest) s1 (F v s1)) : R wf inj G M pc L st s (bd F2 F) := by
  subst hq
  intro a s2 h
  obtain ⟨v, s1, h1, h2⟩ := bd_some h
  exact j_callV hM hk hr (hC v s1 h1) he hc hq2 hn hst hcat hd (fun v2 u hu => by obtain ⟨rfl, rfl⟩ := hu; exact k v s1 a s2 h2)
theorem rr_cSo {M2 : MI} {n idx : Nat} {as rest : List Value} {F2 : Option ((Option Nat) × S)} {F : (Option Nat) → S → Option (α × S)} (hq : pc + 3 = q) (hM : MVS M2 n) (hk : Cond.methodLink (mO M) idx (mY M2) ∈ lw_good) (hr : rOK M2 M) (hC : Ct wf inO G M2 as s F2) (hn : as.length = n) (hst : as.reverse ++ rest = st) (hcat : (rest.map fun v => v.category).sum ≤ 8) (hd : decode (mC M) pc = .ok (.invokestatic idx, 3)) (k : ∀ v s1, R wf inj G M q L (oS v :: rest) s1 (F v s1)) : R wf inj G M pc L st s (bd F2 F) := by
  subst hq
  intro a s2 h
  obtain ⟨v, s1, h1, h2⟩ := bd_some h
  exact j_callS hM hk hr (hC v s1 h1) hn hst hcat hd (fun v2 u hu => by obtain ⟨rfl, rfl⟩ := hu; exact k v s1 a s2 h2)
theorem rr_om {F1 : Option (α × S)} {F2 : Nat → Option (α × S)} {v : Option Nat} (h0 : R wf inj G M pc L (.null :: st) s F1) (h1 : ∀ i, i < 4 → R wf inj G M pc L (.ref (sb i) :: st) s (F2 i)) : R wf inj G M pc L (oS v :: st) s (om v F1 F2) := by
  cases v with
  | none => exact h0
  | some i => exact rr_gd (h1 i)
theorem rr_opt {F : Option Nat → Option (α × S)} {v : Option Nat} (f : Option Nat → List Value) (g : Option Nat → List (Option Value)) (h0 : R wf inj G M pc (g none) (f none) s (F none)) (h1 : ∀ i, R wf inj G M pc (g (some i)) (f (some i)) s (F (some i))) : R wf inj G M pc (g v) (f v) s (F v) := by
  cases v with
  | none => exact h0
  | some i => exact h1 i
theorem rr_lp {T : Type} {bot : T} {body : T → T} {P : T → Prop} (h0 : P bot) (h1 : ∀ k, P k → P (body k)) (n : Nat) : P (lp bot body n) := by
  induction n with
  | zero => exact h0
  | succ n ih => exact h1 _ ih
end RRows
