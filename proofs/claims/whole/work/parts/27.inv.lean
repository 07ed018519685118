/-! ===== what class and reference have in common ===== -/
def inR (x : Int32) (N : Nat) : Bool := decide (0 ≤ x.toInt ∧ x.toInt < N)
theorem inR_rng {x : Int32} {N : Nat} (h : inR x N = true) : rng x N := by
  simp only [inR, decide_eq_true_eq] at h
  refine ⟨x.toNatClampNeg, ?_, ?_⟩
  · show x.toInt.toNat < N
    omega
  · have := (Int32.ofNat_toNatClampNeg x (Int32.le_iff_toInt_le.mpr (by rw [Int32.toInt_zero]; exact h.1)))
    exact this.symm
theorem inR_nI {k N : Nat} (hk : k < 2 ^ 31) : inR (nI k) N = decide (k < N) := by
  unfold inR
  rw [nI_toInt hk]
  apply decide_eq_decide.mpr
  omega
theorem chk {x : Int32} {N : Nat} (hN : N < 2 ^ 31) {S : Type} (s : S) : (if x < 0 then some ((0 : Int32), s) else if nI N ≤ x then some (0, s) else some (1, s)) = some (b2i (inR x N), s) := by
  unfold inR
  have e0 : (x < 0) = (x.toInt < 0) := by rw [Int32.lt_iff_toInt_lt, Int32.toInt_zero]
  have e : (nI N ≤ x) = ((N : Int) ≤ x.toInt) := by rw [Int32.le_iff_toInt_le, nI_toInt hN]
  simp only [e0, e]
  by_cases h1 : x.toInt < 0
  · have : ¬ (0 ≤ x.toInt ∧ x.toInt < N) := by omega
    simp [h1, this, b2i]
  · by_cases h2 : (N : Int) ≤ x.toInt
    · have : ¬ (0 ≤ x.toInt ∧ x.toInt < N) := by omega
      simp [h1, h2, this, b2i]
    · have : 0 ≤ x.toInt ∧ x.toInt < N := by omega
      simp [h1, h2, this, b2i]
theorem chk2 {x : Int32} {N : Nat} (hN : N < 2 ^ 31) {S : Type} (s : S) {y : Int32} (hy : y.toInt = (N : Int) - 1) : (if x < 0 then some ((0 : Int32), s) else if y < x then some (0, s) else some (1, s)) = some (b2i (inR x N), s) := by
  rw [← chk hN]
  have e : (y < x) = (nI N ≤ x) := by
    rw [Int32.le_iff_toInt_le, nI_toInt hN, Int32.lt_iff_toInt_lt, hy]
    apply propext; omega
  simp only [e]
theorem x_isKing (x : Int32) (s : SX) : fX5_isKing x s = some (b2i (inR x 6), s) := chk (by decide) s
theorem x_isKind (x : Int32) (s : SX) : fX5_isKind x s = some (b2i (inR x 6), s) := chk (by decide) s
theorem x_w99 (x : Int32) (s : SX) : fX5_isWithin x 99 s = some (b2i (inR x 100), s) := chk2 (N := 100) (by decide) s rfl
theorem x_w999 (x : Int32) (s : SX) : fX5_isWithin x 999 s = some (b2i (inR x 1000), s) := chk2 (N := 1000) (by decide) s rfl
theorem x_w120 (x : Int32) (s : SX) : fX5_isWithin x 120 s = some (b2i (inR x 121), s) := chk2 (N := 121) (by decide) s rfl
theorem x_isChild {n : Nat} {s : SX} (x : Int32) (hn : n ≤ 14) (h : gX s 0 10 10 = nI n) : fX5_isChild x s = some (b2i (inR x n), s) := by
  unfold fX5_isChild; rw [h]; exact chk (by omega) s
theorem x_isTreaty {m : Nat} {s : SX} (x : Int32) (hm : m ≤ 12) (h : gX s 0 10 11 = nI m) : fX5_isTreaty x s = some (b2i (inR x m), s) := by
  unfold fX5_isTreaty; rw [h]; exact chk (by omega) s
theorem m_in0 {x y : Int32} {N : Nat} (hN : N < 2 ^ 31) (hy : y.toInt = (N : Int) - 1) (t : SM) : fX6_in x 0 y t = some (b2i (inR x N), t) := chk2 hN t hy
theorem m_isKing (x : Int32) (t : SM) : fX6_isKing x t = some (b2i (inR x 6), t) := by
  unfold fX6_isKing; rw [m_in0 (N := 6) (by decide) rfl, bd_one, gd_pos (b2i_b _)]
theorem m_isKind (x : Int32) (t : SM) : fX6_isKind x t = some (b2i (inR x 6), t) := by
  unfold fX6_isKind; rw [m_in0 (N := 6) (by decide) rfl, bd_one, gd_pos (b2i_b _)]
theorem m_isTold (x : Int32) (t : SM) : fX6_isTold x t = some (b2i (inR x 100), t) := by
  unfold fX6_isTold; rw [m_in0 (N := 100) (by decide) rfl, bd_one, gd_pos (b2i_b _)]
theorem m_isLong (x : Int32) (t : SM) : fX6_isLong x t = some (b2i (inR x 1000), t) := by
  unfold fX6_isLong; rw [m_in0 (N := 1000) (by decide) rfl, bd_one, gd_pos (b2i_b _)]
theorem nI_m1 {n : Nat} (hn : n < 100) : (nI n - 1).toInt = (n : Int) - 1 := by
  have : ∀ n : Nat, n < 100 → (nI n - 1).toInt = (n : Int) - 1 := by decide +kernel
  exact this n hn
theorem m_isChild {n : Nat} {t : SM} (x : Int32) (hn : n ≤ 14) (h : gM t 0 1 = nI n) : fX6_isChild x t = some (b2i (inR x n), t) := by
  unfold fX6_isChild; rw [h, m_in0 (N := n) (by omega) (nI_m1 (by omega)), bd_one, gd_pos (b2i_b _)]
theorem m_isTreaty {m : Nat} {t : SM} (x : Int32) (hm : m ≤ 12) (h : gM t 0 5 = nI m) : fX6_isTreaty x t = some (b2i (inR x m), t) := by
  unfold fX6_isTreaty; rw [h, m_in0 (N := m) (by omega) (nI_m1 (by omega)), bd_one, gd_pos (b2i_b _)]
def two (a b : Int32) : Bool := inR a 6 && (inR b 6 && !decide (a = b))
theorem x_two (a b : Int32) (s : SX) : fX5_areTwoKings a b s = some (b2i (two a b), s) := by
  unfold fX5_areTwoKings two
  simp only [x_isKing, bd_one, b2i_0]
  cases inR a 6
  · rfl
  · cases inR b 6
    · rfl
    · by_cases h : a = b <;> simp [h, b2i]
theorem m_two (a b : Int32) (t : SM) : fX6_areTwo a b t = some (b2i (two a b), t) := by
  unfold fX6_areTwo two
  simp only [m_isKing, bd_one, b2i_0]
  cases inR a 6
  · rfl
  · cases inR b 6
    · rfl
    · by_cases h : a = b <;> simp [h, b2i]
/-! the image -/
def Im (n m : Nat) (r : Co) (g : Nat → Int32) : Prop := g 0 = nI n ∧ g 1 = nI m ∧ (∀ k, k < 6 → g (2 + k) = r 0 k) ∧ (∀ c, c < n → g (8 + c) = r 1 c ∧ g (22 + c) = r 2 c ∧ g (36 + c) = r 4 c ∧ g (98 + (1 + c)) = r 3 c ∧ g (98 + (15 + c)) = b2i (dead r c)) ∧ (∀ j, j < m → g (50 + j) = r 5 j ∧ g (62 + j) = r 6 j ∧ g (74 + j) = r 7 j ∧ g (86 + j) = r 8 j ∧ g (98 + (29 + j)) = b2i (brk r j)) ∧ g 98 = r 10 14
def Kp (s : SX) (t : SM) : Prop := gX s 5 0 8 = gM t 0 38 ∧ (gX s 5 0 8 = 0 ∨ (gX s 5 0 8 = 1 ∧ ∃ n m, Ok n m (co s 1) ∧ Im n m (co s 1) (gM t 20)))
def Fnd (s : SX) (t : SM) : Prop := ∀ k, k < 7 → gX s 5 1 k = gM t 10 k
def Tp (s : SX) (t : SM) : Prop := ∃ z, z ≤ 120 ∧ gX s 8 0 1 = nI z ∧ gM t 0 25 = nI z ∧ ∀ k, k < z → gX s 8 1 k = gM t 15 k ∧ rng (gX s 8 1 k) 256
def Sh (s : SX) (t : SM) : Prop := ∀ q, q < 4 → gX s (9 + q) 0 1 = gM t 16 q ∧ (gM t 16 q = 0 ∨ gM t 16 q = 8 ∨ gM t 16 q = 16 ∨ gM t 16 q = 64) ∧ gX s (9 + q) 0 2 = gM t 17 q ∧ rng (gM t 17 q) 41 ∧ ∀ k, k < 40 → gL s q k = gN t 18 (40 * q + k)
def Inv (s : SX) (t : SM) : Prop := (∃ n m, Ok n m (co s 0) ∧ Rl 0 n m (co s 0) t) ∧ (∀ i, i < 5 → Cl (co s i)) ∧ Kp s t ∧ Fnd s t ∧ Tp s t ∧ Sh s t
/-- both answer alike, and go on alike -/
def Sm {α : Type} (A : Option (α × SX)) (B : Option (α × SM)) : Prop := ∃ v s' t', A = some (v, s') ∧ B = some (v, t') ∧ Inv s' t'
theorem Sm.of {α : Type} {v : α} {s : SX} {t : SM} (h : Inv s t) : Sm (some (v, s)) (some (v, t)) := ⟨v, s, t, rfl, rfl, h⟩
/-- of the class nothing but courts in use and scratch has changed -/
def Xo (s s' : SX) : Prop := (∀ a, a = 1 ∨ a = 5 ∨ 8 ≤ a → gX s' a = gX s a) ∧ gL s' = gL s
def Mo (t t' : SM) : Prop := gM t' 0 38 = gM t 0 38 ∧ gM t' 20 = gM t 20 ∧ gM t' 10 = gM t 10 ∧ gM t' 0 25 = gM t 0 25 ∧ gM t' 15 = gM t 15 ∧ gM t' 16 = gM t 16 ∧ gM t' 17 = gM t 17 ∧ gN t' 18 = gN t 18
theorem Xo.rfl' {s : SX} : Xo s s := ⟨fun _ _ => rfl, rfl⟩
theorem Mo.rfl' {t : SM} : Mo t t := ⟨rfl, rfl, rfl, rfl, rfl, rfl, rfl, rfl⟩
theorem Xo.trans {s s1 s2 : SX} (h1 : Xo s s1) (h2 : Xo s1 s2) : Xo s s2 := ⟨fun a ha => (h2.1 a ha).trans (h1.1 a ha), h2.2.trans h1.2⟩
theorem Mo.trans {t t1 t2 : SM} (h1 : Mo t t1) (h2 : Mo t1 t2) : Mo t t2 := by
  obtain ⟨a1, a2, a3, a4, a5, a6, a7, a8⟩ := h1
  obtain ⟨b1, b2, b3, b4, b5, b6, b7, b8⟩ := h2
  exact ⟨b1.trans a1, b2.trans a2, b3.trans a3, b4.trans a4, b5.trans a5, b6.trans a6, b7.trans a7, b8.trans a8⟩
theorem Mq.rfl' {t : SM} : Mq t t := ⟨fun _ _ _ => rfl, rfl, rfl, rfl⟩
theorem Mq.trans {t t1 t2 : SM} (h1 : Mq t t1) (h2 : Mq t1 t2) : Mq t t2 := ⟨fun a p q => (h2.1 a p q).trans (h1.1 a p q), h2.2.1.trans h1.2.1, h2.2.2.1.trans h1.2.2.1, h2.2.2.2.trans h1.2.2.2⟩
theorem Fr.Xo {i : Nat} {s s' : SX} (h : Fr i s s') (hi : i = 0 ∨ i = 2 ∨ i = 3 ∨ i = 4) : Xo s s' := ⟨fun a ha => h.1 a (by omega), h.2⟩
theorem Mo.r11 {t : SM} {f : Nat → Int32} : Mo t (rM t 11 f) := ⟨rfl, rfl, rfl, rfl, rfl, rfl, rfl, rfl⟩
theorem Inv.court {s s' : SX} {t t' : SM} (h : Inv s t) (hx : Xo s s') (hm : Mo t t') (hA : ∃ n m, Ok n m (co s' 0) ∧ Rl 0 n m (co s' 0) t') (hC : ∀ i, i = 0 ∨ i = 2 ∨ i = 3 ∨ i = 4 → Cl (co s' i)) : Inv s' t' := by
  obtain ⟨-, h2, h3, h4, h5, h6⟩ := h
  obtain ⟨m1, m2, m3, m4, m5, m6, m7, m8⟩ := hm
  have c1 : co s' 1 = co s 1 := by unfold co; rw [hx.1 1 (Or.inl rfl)]
  refine ⟨hA, fun i hi => ?_, ?_, ?_, ?_, ?_⟩
  · by_cases h1 : i = 1
    · subst h1; rw [c1]; exact h2 1 (by decide)
    · exact hC i (by omega)
  · unfold Kp
    rw [hx.1 5 (by omega), c1, m1, m2]; exact h3
  · unfold Fnd
    rw [hx.1 5 (by omega), m3]; exact h4
  · unfold Tp
    rw [hx.1 8 (by omega), m4, m5]; exact h5
  · unfold Sh
    intro q hq
    rw [hx.1 (9 + q) (by omega), m6, m7, m8, hx.2]; exact h6 q hq
/-- the class's scratch and the reference's scratch alone have changed -/
theorem Inv.scr {s s' : SX} {t t' : SM} (h : Inv s t) (hx : Xo s s') (h0 : co s' 0 = co s 0) (hC : ∀ i, i = 2 ∨ i = 3 ∨ i = 4 → Cl (co s' i)) (hm : Mo t t') (hq : Mq t t') : Inv s' t' := by
  refine h.court hx hm ?_ (fun i hi => ?_)
  · obtain ⟨n, m, ok, rl⟩ := h.1
    exact ⟨n, m, by rw [h0]; exact ok, by rw [h0]; exact rl.q hq⟩
  · rcases hi with rfl | hi
    · rw [h0]; exact h.2.1 0 (by decide)
    · exact hC i hi
theorem Inv.x9 {s : SX} {t t' : SM} {f : Nat → Int32} (h : Inv s t) (hm : Mo t t') (hq : Mq t t') : Inv (rX s 0 9 f) t' :=
  h.scr (Fr.rX.Xo (Or.inl rfl)) (co_9 s 0 f) (fun i hi => by rw [co_o (Fr.rX (i := 0)) (by omega)]; exact h.2.1 i (by omega)) hm hq
theorem Inv.m11 {s : SX} {t : SM} {f : Nat → Int32} (h : Inv s t) : Inv s (rM t 11 f) :=
  h.scr Xo.rfl' rfl (fun i hi => h.2.1 i (by omega)) Mo.r11 Mq.r11
theorem inv_find {s : SX} {t : SM} (h : Inv s t) (k : Nat) (hk : k < 7) : ∃ s' t', fX5_finding (nI k) s = some (-1000000001 - nI k, s') ∧ fX6_finds (-1000000001 - nI k) t = some (-1000000001 - nI k, t') ∧ Inv s' t' := by
  have e : (-1000000001 : Int32) - (-1000000001 - nI k) = nI k := by
    have : ∀ k : Nat, k < 7 → (-1000000001 : Int32) - (-1000000001 - nI k) = nI k := by decide +kernel
    exact this k hk
  unfold fX5_finding fX6_finds
  simp only [e, ixg_nI hk (by decide), vl_eq]
  refine ⟨_, _, rfl, rfl, ?_⟩
  obtain ⟨⟨n, m, ok, rl⟩, h2, h3, h4, h5, h6⟩ := h
  have cc : ∀ i, i < 5 → co (wX s 5 1 k (gX s 5 1 k + 1)) i = co s i := fun i hi => by
    have : gX (wX s 5 1 k (gX s 5 1 k + 1)) i = gX s i := (Fr.wX (i := 5)).1 i (by omega)
    unfold co; rw [this]
  refine ⟨⟨n, m, by rw [cc 0 (by decide)]; exact ok, by rw [cc 0 (by decide)]; exact rl.q ⟨fun a p q => by rw [show wM t 10 k (gM t 10 k + 1) = rM t 10 _ from rfl, gM_rM, if_neg (by omega)], rfl, rfl, rfl⟩⟩, fun i hi => by rw [cc i hi]; exact h2 i hi, ?_, ?_, h5, ?_⟩
  · unfold Kp
    rw [cc 1 (by decide)]
    exact h3
  · intro j hj
    have := h4 j hj
    simp only [gX_wX, gM_wM, if_true, h4 k hk]
    by_cases q : j = k
    · simp [q]
    · simp [q, this]
  · intro q hq
    have : gX (wX s 5 1 k (gX s 5 1 k + 1)) (9 + q) = gX s (9 + q) := (Fr.wX (i := 5)).1 (9 + q) (by omega)
    rw [this]
    exact h6 q hq
theorem fin0 {s : SX} {t : SM} (h : Inv s t) : Sm (bd (fX5_finding 0 s) fun v s2 => some (v, s2)) (bd (fX6_finds (-1000000001) t) fun v s2 => some (v, s2)) := by
  obtain ⟨s', t', e1, e2, e3⟩ := inv_find h 0 (by decide)
  have e1 : fX5_finding 0 s = some (-1000000001, s') := e1
  have e2 : fX6_finds (-1000000001) t = some (-1000000001, t') := e2
  rw [e1, e2, bd_one, bd_one]
  exact Sm.of e3
theorem fin1 {s : SX} {t : SM} (h : Inv s t) : Sm (bd (fX5_finding 1 s) fun v s2 => some (v, s2)) (bd (fX6_finds (-1000000002) t) fun v s2 => some (v, s2)) := by
  obtain ⟨s', t', e1, e2, e3⟩ := inv_find h 1 (by decide)
  have e1 : fX5_finding 1 s = some (-1000000002, s') := e1
  have e2 : fX6_finds (-1000000002) t = some (-1000000002, t') := e2
  rw [e1, e2, bd_one, bd_one]
  exact Sm.of e3
theorem fin2 {s : SX} {t : SM} (h : Inv s t) : Sm (bd (fX5_finding 2 s) fun v s2 => some (v, s2)) (bd (fX6_finds (-1000000003) t) fun v s2 => some (v, s2)) := by
  obtain ⟨s', t', e1, e2, e3⟩ := inv_find h 2 (by decide)
  have e1 : fX5_finding 2 s = some (-1000000003, s') := e1
  have e2 : fX6_finds (-1000000003) t = some (-1000000003, t') := e2
  rw [e1, e2, bd_one, bd_one]
  exact Sm.of e3
theorem fin3 {s : SX} {t : SM} (h : Inv s t) : Sm (bd (fX5_finding 3 s) fun v s2 => some (v, s2)) (bd (fX6_finds (-1000000004) t) fun v s2 => some (v, s2)) := by
  obtain ⟨s', t', e1, e2, e3⟩ := inv_find h 3 (by decide)
  have e1 : fX5_finding 3 s = some (-1000000004, s') := e1
  have e2 : fX6_finds (-1000000004) t = some (-1000000004, t') := e2
  rw [e1, e2, bd_one, bd_one]
  exact Sm.of e3
theorem fin4 {s : SX} {t : SM} (h : Inv s t) : Sm (bd (fX5_finding 4 s) fun v s2 => some (v, s2)) (bd (fX6_finds (-1000000005) t) fun v s2 => some (v, s2)) := by
  obtain ⟨s', t', e1, e2, e3⟩ := inv_find h 4 (by decide)
  have e1 : fX5_finding 4 s = some (-1000000005, s') := e1
  have e2 : fX6_finds (-1000000005) t = some (-1000000005, t') := e2
  rw [e1, e2, bd_one, bd_one]
  exact Sm.of e3
theorem fin5 {s : SX} {t : SM} (h : Inv s t) : Sm (bd (fX5_finding 5 s) fun v s2 => some (v, s2)) (bd (fX6_finds (-1000000006) t) fun v s2 => some (v, s2)) := by
  obtain ⟨s', t', e1, e2, e3⟩ := inv_find h 5 (by decide)
  have e1 : fX5_finding 5 s = some (-1000000006, s') := e1
  have e2 : fX6_finds (-1000000006) t = some (-1000000006, t') := e2
  rw [e1, e2, bd_one, bd_one]
  exact Sm.of e3
theorem fin6 {s : SX} {t : SM} (h : Inv s t) : Sm (bd (fX5_finding 6 s) fun v s2 => some (v, s2)) (bd (fX6_finds (-1000000007) t) fun v s2 => some (v, s2)) := by
  obtain ⟨s', t', e1, e2, e3⟩ := inv_find h 6 (by decide)
  have e1 : fX5_finding 6 s = some (-1000000007, s') := e1
  have e2 : fX6_finds (-1000000007) t = some (-1000000007, t') := e2
  rw [e1, e2, bd_one, bd_one]
  exact Sm.of e3
