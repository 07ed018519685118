/-! ===== the pure proof: memory, loops, sets ===== -/
theorem vl_eq {A B : Type} (x : A) (k : A → B) : vl x k = k x := rfl
theorem bd_one {S α β : Type} (a : α) (s : S) (k : α → S → Option (β × S)) : bd (some (a, s)) k = k a s := rfl
theorem gd_pos {S α : Type} {p : Prop} [Decidable p] (h : p) (x : Option (α × S)) : gd p x = x := if_pos h
theorem ixg_nI {S α : Type} {k n : Nat} (h : k < n) (hn : n < 2 ^ 31) (F : Nat → Option (α × S)) : ixg (nI k) n F = F k := by
  unfold ixg
  rw [if_pos (nI_pos' (Nat.lt_trans h hn)), nI_clamp (Nat.lt_trans h hn), if_pos h]
def rng (x : Int32) (n : Nat) : Prop := ∃ k, k < n ∧ x = nI k
def kg (x : Int32) : Nat := x.toNatClampNeg
theorem kg_nI {k : Nat} (h : k < 2 ^ 31) : kg (nI k) = k := nI_clamp h
theorem rng.nI_kg {x : Int32} {n : Nat} (h : rng x n) (hn : n < 2 ^ 31) : nI (kg x) = x ∧ kg x < n := by
  obtain ⟨k, hk, rfl⟩ := h
  rw [kg_nI (by omega)]
  exact ⟨rfl, hk⟩
theorem ixg_rng {S α : Type} {x : Int32} {m n : Nat} (h : rng x m) (hmn : m ≤ n) (hn : n < 2 ^ 31) (F : Nat → Option (α × S)) : ixg x n F = F (kg x) := by
  obtain ⟨k, hk, rfl⟩ := h
  rw [ixg_nI (by omega) hn, kg_nI (by omega)]
theorem gX_wX (s : SX) (i j k : Nat) (x : Int32) (a b c : Nat) : gX (wX s i j k x) a b c = if a = i then (if b = j then (if c = k then x else gX s a b c) else gX s a b c) else gX s a b c := by
  unfold wX rX gX upd
  by_cases h1 : a = i
  · subst h1
    by_cases h2 : b = j
    · subst h2; simp
    · simp [h2]
  · simp [h1]
theorem gX_rX (s : SX) (i j : Nat) (f : Nat → Int32) (a b : Nat) : gX (rX s i j f) a b = if a = i then (if b = j then f else gX s a b) else gX s a b := by
  unfold rX gX
  by_cases h1 : a = i
  · subst h1
    by_cases h2 : b = j
    · subst h2; simp
    · simp [h2]
  · simp [h1]
theorem gL_wX (s : SX) (i j k : Nat) (x : Int32) : gL (wX s i j k x) = gL s := rfl
theorem gL_rX (s : SX) (i j : Nat) (f : Nat → Int32) : gL (rX s i j f) = gL s := rfl
theorem gX_wL (s : SX) (i k : Nat) (x : Int64) : gX (wL s i k x) = gX s := rfl
theorem gX_rL (s : SX) (i : Nat) (f : Nat → Int64) : gX (rL s i f) = gX s := rfl
theorem gL_wL (s : SX) (i k : Nat) (x : Int64) (a c : Nat) : gL (wL s i k x) a c = if a = i then (if c = k then x else gL s a c) else gL s a c := by
  unfold wL rL gL vp_updL
  by_cases h1 : a = i
  · subst h1; simp
  · simp [h1]
theorem gL_rL (s : SX) (i : Nat) (f : Nat → Int64) (a : Nat) : gL (rL s i f) a = if a = i then f else gL s a := rfl
theorem gM_wM (t : SM) (j k : Nat) (x : Int32) (b c : Nat) : gM (wM t j k x) b c = if b = j then (if c = k then x else gM t b c) else gM t b c := by
  unfold wM rM gM upd
  by_cases h2 : b = j
  · subst h2; simp
  · simp [h2]
theorem gM_rM (t : SM) (j : Nat) (f : Nat → Int32) (b : Nat) : gM (rM t j f) b = if b = j then f else gM t b := rfl
theorem gN_wM (t : SM) (j k : Nat) (x : Int32) : gN (wM t j k x) = gN t := rfl
theorem gN_rM (t : SM) (j : Nat) (f : Nat → Int32) : gN (rM t j f) = gN t := rfl
theorem gM_wN (t : SM) (j k : Nat) (x : Int64) : gM (wN t j k x) = gM t := rfl
theorem gM_rN (t : SM) (j : Nat) (f : Nat → Int64) : gM (rN t j f) = gM t := rfl
theorem gN_wN (t : SM) (j k : Nat) (x : Int64) (b c : Nat) : gN (wN t j k x) b c = if b = j then (if c = k then x else gN t b c) else gN t b c := by
  unfold wN rN gN vp_updL
  by_cases h2 : b = j
  · subst h2; simp
  · simp [h2]
theorem rX_rX (s : SX) (i j : Nat) (f g : Nat → Int32) : rX (rX s i j f) i j g = rX s i j g := by
  unfold rX
  congr 1
  funext a b
  by_cases h1 : a = i
  · subst h1
    by_cases h2 : b = j
    · subst h2; simp
    · simp [h2]
  · simp [h1]
theorem wX_rX (s : SX) (i j k : Nat) (f : Nat → Int32) (x : Int32) : wX (rX s i j f) i j k x = rX s i j (upd f k x) := by
  unfold wX
  rw [rX_rX, gX_rX, if_pos rfl, if_pos rfl]
theorem rX_self (s : SX) (i j : Nat) : rX s i j (gX s i j) = s := by
  unfold rX gX
  refine Prod.ext ?_ rfl
  funext a b
  by_cases h1 : a = i
  · subst h1
    by_cases h2 : b = j
    · subst h2; simp
    · simp [h2]
  · simp [h1]
theorem rM_rM (t : SM) (j : Nat) (f g : Nat → Int32) : rM (rM t j f) j g = rM t j g := by
  unfold rM
  congr 1
  funext b
  by_cases h2 : b = j
  · subst h2; simp
  · simp [h2]
theorem wM_rM (t : SM) (j k : Nat) (f : Nat → Int32) (x : Int32) : wM (rM t j f) j k x = rM t j (upd f k x) := by
  unfold wM
  rw [rM_rM, gM_rM, if_pos rfl]
theorem rM_self (t : SM) (j : Nat) : rM t j (gM t j) = t := by
  unfold rM gM
  refine Prod.ext ?_ rfl
  funext b
  by_cases h2 : b = j
  · subst h2; simp
  · simp [h2]
/-! loops -/
def it {A : Type} (g : Nat → A → A) : Nat → A → A
  | 0, a => a
  | n + 1, a => g n (it g n a)
theorem lp_at {T A B : Type} {bot : T} {body : T → T} {ap : T → Nat → A → Option B} {g : Nat → A → A} {fin : Option B} {N : Nat} {a0 : A} {P : Nat → A → Prop} (hs : ∀ k c a, c < N → P c a → ap (body k) c a = ap k (c + 1) (g c a) ∧ P (c + 1) (g c a)) (he : ∀ k, P N (it g N a0) → ap (body k) N (it g N a0) = fin) :
    ∀ (d F c : Nat), c + d = N → d < F → P c (it g c a0) → ap (lp bot body F) c (it g c a0) = fin := by
  intro d
  induction d with
  | zero =>
    intro F c h1 h2 h3
    obtain ⟨F, rfl⟩ : ∃ G, F = G + 1 := ⟨F - 1, by omega⟩
    have : c = N := by omega
    subst this
    exact he _ h3
  | succ d ih =>
    intro F c h1 h2 h3
    obtain ⟨F, rfl⟩ : ∃ G, F = G + 1 := ⟨F - 1, by omega⟩
    have h4 := hs (lp bot body F) c _ (by omega) h3
    show ap (body (lp bot body F)) c _ = _
    rw [h4.1]
    exact ih F (c + 1) (by omega) (by omega) h4.2
/-- a loop that counts from 0 to N: its accumulators go by g -/
theorem lp_for {T A B : Type} {bot : T} {body : T → T} (ap : T → Nat → A → Option B) (g : Nat → A → A) {fin : Option B} (N : Nat) (a0 : A) (P : Nat → A → Prop) {F : Nat} (hs : ∀ k c a, c < N → P c a → ap (body k) c a = ap k (c + 1) (g c a) ∧ P (c + 1) (g c a)) (he : ∀ k, P N (it g N a0) → ap (body k) N (it g N a0) = fin) (hP : P 0 a0) (hF : N < F) : ap (lp bot body F) 0 a0 = fin :=
  lp_at hs he N F 0 (by omega) hF hP
theorem it_P {A : Type} {g : Nat → A → A} {a0 : A} {P : Nat → A → Prop} {N : Nat} (h0 : P 0 a0) (hs : ∀ c a, c < N → P c a → P (c + 1) (g c a)) : P N (it g N a0) := by
  have : ∀ n, n ≤ N → P n (it g n a0) := by
    intro n
    induction n with
    | zero => exact fun _ => h0
    | succ n ih => exact fun h => hs n _ (by omega) (ih (by omega))
  exact this N (Nat.le_refl N)
theorem it_congr {A : Type} {g h : Nat → A → A} {a0 : A} {N : Nat} (hs : ∀ c a, c < N → g c a = h c a) : it g N a0 = it h N a0 := by
  have : ∀ n, n ≤ N → it g n a0 = it h n a0 := by
    intro n
    induction n with
    | zero => exact fun _ => rfl
    | succ n ih =>
      intro hn
      show g n (it g n a0) = h n (it h n a0)
      rw [ih (by omega), hs n _ (by omega)]
  exact this N (Nat.le_refl N)
/-- a loop that seeks the first c with p -/
theorem lp_seek {T B : Type} {bot : T} {body : T → T} (ap : T → Nat → Option B) (p : Nat → Bool) (yes : Nat → Option B) {no : Option B} (N : Nat) {F : Nat} (hy : ∀ k c, c < N → p c = true → ap (body k) c = yes c) (hn : ∀ k c, c < N → p c = false → ap (body k) c = ap k (c + 1)) (he : ∀ k, ap (body k) N = no) (c0 : Nat) (h0 : c0 ≤ N) (hF : N - c0 < F) :
    (∃ c, c0 ≤ c ∧ c < N ∧ p c = true ∧ (∀ j, c0 ≤ j → j < c → p j = false) ∧ ap (lp bot body F) c0 = yes c) ∨ ((∀ j, c0 ≤ j → j < N → p j = false) ∧ ap (lp bot body F) c0 = no) := by
  have key : ∀ (d F c : Nat), c + d = N → d < F → (∃ e, c ≤ e ∧ e < N ∧ p e = true ∧ (∀ j, c ≤ j → j < e → p j = false) ∧ ap (lp bot body F) c = yes e) ∨ ((∀ j, c ≤ j → j < N → p j = false) ∧ ap (lp bot body F) c = no) := by
    intro d
    induction d with
    | zero =>
      intro F c h1 h2
      obtain ⟨F, rfl⟩ : ∃ G, F = G + 1 := ⟨F - 1, by omega⟩
      have : c = N := by omega
      subst this
      exact Or.inr ⟨fun j a b => by omega, he _⟩
    | succ d ih =>
      intro F c h1 h2
      obtain ⟨F, rfl⟩ : ∃ G, F = G + 1 := ⟨F - 1, by omega⟩
      cases hp : p c with
      | true => exact Or.inl ⟨c, Nat.le_refl c, by omega, hp, fun j a b => by omega, hy _ c (by omega) hp⟩
      | false =>
        have e1 : ap (lp bot body (F + 1)) c = ap (lp bot body F) (c + 1) := hn _ c (by omega) hp
        rw [e1]
        rcases ih F (c + 1) (by omega) (by omega) with ⟨e, q1, q2, q3, q4, q5⟩ | ⟨q1, q2⟩
        · refine Or.inl ⟨e, by omega, q2, q3, fun j a b => ?_, q5⟩
          by_cases hj : j = c
          · subst hj; exact hp
          · exact q4 j (by omega) b
        · refine Or.inr ⟨fun j a b => ?_, q2⟩
          by_cases hj : j = c
          · subst hj; exact hp
          · exact q1 j (by omega) b
  exact key (N - c0) F c0 (by omega) hF
/-! bits and sets -/
def bt (c : Nat) : Int32 := 1 <<< (nI c &&& 31)
def b2i (b : Bool) : Int32 := if b = true then 1 else 0
theorem b2i_0 (b : Bool) : (b2i b = 0) = (b = false) := by cases b <;> decide
theorem b2i_1 (b : Bool) : (b2i b = 1) = (b = true) := by cases b <;> decide
theorem b2i_b (b : Bool) : b2i b = 0 ∨ b2i b = 1 := by cases b <;> decide
def bitB (x : Int32) (c : Nat) : Bool := x.toBitVec.getLsbD c
theorem nI_31 {c : Nat} (h : c < 32) : nI c &&& 31 = nI c := by
  have : ∀ c : Nat, c < 32 → nI c &&& 31 = nI c := by decide +kernel
  exact this c h
theorem bt_bit {c k : Nat} (h : c < 32) : bitB (bt c) k = decide (k = c) := by
  unfold bt bitB
  rw [nI_31 h]
  by_cases hk : k < 32
  · have : ∀ c : Nat, c < 32 → ∀ k : Nat, k < 32 → ((1 : Int32) <<< nI c).toBitVec.getLsbD k = decide (k = c) := by decide +kernel
    exact this c h k hk
  · rw [BitVec.getLsbD_of_ge _ _ (by omega)]
    simp; omega
theorem bit_or (x y : Int32) (k : Nat) : bitB (x ||| y) k = (bitB x k || bitB y k) := by
  unfold bitB; simp
theorem bit_and (x y : Int32) (k : Nat) : bitB (x &&& y) k = (bitB x k && bitB y k) := by
  unfold bitB; simp
theorem bit_not {x : Int32} {k : Nat} (h : k < 32) : bitB (x ^^^ -1) k = !bitB x k := by
  unfold bitB
  have e : ((-1 : Int32)).toBitVec = BitVec.allOnes 32 := by decide +kernel
  rw [Int32.toBitVec_xor, e, BitVec.getLsbD_xor, BitVec.getLsbD_allOnes]
  simp [h]
theorem bit_0 (k : Nat) : bitB 0 k = false := by
  unfold bitB
  rw [show (0 : Int32).toBitVec = 0#32 from rfl, BitVec.getLsbD_zero]
theorem bit_ext {x y : Int32} (h : ∀ k, k < 32 → bitB x k = bitB y k) : x = y := by
  apply Int32.toBitVec_inj.mp
  apply BitVec.eq_of_getLsbD_eq
  intro i hi
  exact h i hi
theorem bit_code {x : Int32} {c : Nat} (h : c < 32) : (((x >>> (nI c &&& 31)) &&& 1) = 0) = (bitB x c = false) := by
  rw [nI_31 h]
  apply propext
  have hs : ∀ c : Nat, c < 32 → ((nI c).toBitVec.smod 32).toNat = c := by decide +kernel
  have e : ((x >>> nI c) &&& 1).toBitVec = (x.toBitVec.sshiftRight c) &&& 1#32 := by
    rw [Int32.toBitVec_and, Int32.toBitVec_shiftRight]
    show (x.toBitVec.sshiftRight' ((nI c).toBitVec.smod 32)) &&& 1#32 = _
    unfold BitVec.sshiftRight'
    rw [hs c h]
  have b0 : ((x.toBitVec.sshiftRight c) &&& 1#32) = 0#32 ↔ (x.toBitVec.sshiftRight c).getLsbD 0 = false := by
    constructor
    · intro hh
      have := congrArg (fun z => BitVec.getLsbD z 0) hh
      simpa using this
    · intro hh
      apply BitVec.eq_of_getLsbD_eq
      intro i hi
      rw [BitVec.getLsbD_and]
      by_cases hi0 : i = 0
      · subst hi0; rw [hh, Bool.false_and]; simp
      · have : (1#32).getLsbD i = false := by simp [hi0]
        simp [this]
  rw [← Int32.toBitVec_inj, e, show (0 : Int32).toBitVec = 0#32 from rfl, b0, BitVec.getLsbD_sshiftRight]
  unfold bitB
  by_cases hc : c < 32
  · simp [hc]
  · omega
def setN (n : Nat) (p : Nat → Bool) : Int32 := it (fun c a => if p c = true then a ||| bt c else a) n 0
theorem setN_bit {n : Nat} {p : Nat → Bool} (hn : n ≤ 32) (k : Nat) : bitB (setN n p) k = (decide (k < n) && p k) := by
  unfold setN
  induction n with
  | zero => simp [it, bit_0]
  | succ n ih =>
    have ih := ih (by omega)
    show bitB (if p n = true then it _ n 0 ||| bt n else it _ n 0) k = _
    by_cases hp : p n = true
    · rw [if_pos hp, bit_or, ih, bt_bit (by omega)]
      by_cases hk : k = n
      · subst hk; simp [hp]
      · have : decide (k < n) = decide (k < n + 1) := by
          apply decide_eq_decide.mpr; omega
        simp [hk, this]
    · rw [if_neg hp, ih]
      by_cases hk : k = n
      · subst hk; simp at hp; simp [hp]
      · have : decide (k < n) = decide (k < n + 1) := by
          apply decide_eq_decide.mpr; omega
        simp [this]
theorem setN_congr {n : Nat} {p q : Nat → Bool} (h : ∀ c, c < n → p c = q c) : setN n p = setN n q :=
  it_congr (fun c a hc => by rw [h c hc])
def anyN (n : Nat) (p : Nat → Bool) : Bool := it (fun c a => a || p c) n false
theorem anyN_iff {n : Nat} {p : Nat → Bool} : anyN n p = true ↔ ∃ k, k < n ∧ p k = true := by
  unfold anyN
  induction n with
  | zero => simp [it]
  | succ n ih =>
    show (it _ n false || p n) = true ↔ _
    rw [Bool.or_eq_true, ih]
    constructor
    · rintro (⟨k, h1, h2⟩ | h)
      · exact ⟨k, by omega, h2⟩
      · exact ⟨n, by omega, h⟩
    · rintro ⟨k, h1, h2⟩
      by_cases hk : k = n
      · subst hk; exact Or.inr h2
      · exact Or.inl ⟨k, by omega, h2⟩
def sumN (n : Nat) (f : Nat → Int32) : Int32 := it (fun c a => a + f c) n 0
theorem sumN_congr {n : Nat} {f g : Nat → Int32} (h : ∀ c, c < n → f c = g c) : sumN n f = sumN n g :=
  it_congr (fun c a hc => by rw [h c hc])
