/-! ===== the way: what is to be moved ===== -/
def pS (a : Nat → Int32) (mask i : Nat) : Bool := !mask.testBit i && !decide (a (mask ||| 2 ^ i) = 0)
/-- how the row of ways is made -/
def EQ (K : Nat) (H : Nat → Bool) (a : Nat → Int32) (mask : Nat) : Prop := a mask = b2i ((decide (mask = 2 ^ K - 1) || anyN K (pS a mask)) && H mask)
theorem or_gt {mask i : Nat} (h : mask.testBit i = false) : mask < mask ||| 2 ^ i := by
  have h1 : mask ≤ mask ||| 2 ^ i := Nat.left_le_or
  rcases Nat.lt_or_eq_of_le h1 with h2 | h2
  · exact h2
  · exfalso
    have : (mask ||| 2 ^ i).testBit i = true := by
      rw [Nat.testBit_or, Nat.testBit_two_pow_self, Bool.or_true]
    rw [← h2, h] at this
    cases this
theorem or_lt {mask i K : Nat} (h : mask < 2 ^ K) (hi : i < K) : mask ||| 2 ^ i < 2 ^ K := Nat.or_lt_two_pow h (Nat.pow_lt_pow_right (by decide) hi)
theorem EQ_same {K : Nat} {H : Nat → Bool} {a b : Nat → Int32} (ha : ∀ x, 1 ≤ x → x < 2 ^ K → EQ K H a x) (hb : ∀ x, 1 ≤ x → x < 2 ^ K → EQ K H b x) : ∀ d x, 1 ≤ x → x < 2 ^ K → 2 ^ K - x ≤ d → a x = b x := by
  intro d
  induction d with
  | zero => intro x h1 h2 h3; omega
  | succ d ih =>
    intro x h1 h2 h3
    have e1 := ha x h1 h2
    have e2 := hb x h1 h2
    unfold EQ at e1 e2
    rw [e1, e2]
    have : anyN K (pS a x) = anyN K (pS b x) := by
      apply anyN_congr
      intro i hi
      unfold pS
      cases ht : x.testBit i with
      | true => rfl
      | false =>
        have g1 := or_gt ht
        have g2 := or_lt h2 hi
        rw [ih (x ||| 2 ^ i) (by omega) g2 (by omega)]
    rw [this]
theorem bt_nI {i : Nat} (hi : i < 31) : bt i = nI (2 ^ i) := by
  apply bit_ext
  intro k hk
  rw [bt_bit (by omega), bit_nI, Nat.testBit_two_pow]
  simp [hk, eq_comm]
theorem or_nI (a b : Nat) : nI a ||| nI b = nI (a ||| b) := by
  apply bit_ext
  intro k hk
  rw [bit_or, bit_nI, bit_nI, bit_nI, Nat.testBit_or]
  simp [hk]
theorem or_bt {mask i : Nat} (hi : i < 31) : nI mask ||| (1 <<< (nI i &&& 31)) = nI (mask ||| 2 ^ i) := by
  have := bt_nI hi
  unfold bt at this
  rw [this, or_nI]
theorem bit_m {mask i : Nat} (hi : i < 32) : bitB (nI mask) i = mask.testBit i := by
  rw [bit_nI]; simp [hi]
theorem fnd_any {p : Nat → Bool} : ∀ d c, (fnd p c d = none → ∀ j, c ≤ j → j < c + d → p j = false) ∧ (∀ x, fnd p c d = some x → c ≤ x ∧ x < c + d ∧ p x = true ∧ ∀ j, c ≤ j → j < x → p j = false) := by
  intro d
  induction d with
  | zero => intro c; exact ⟨fun _ j h1 h2 => by omega, fun x h => by cases h⟩
  | succ d ih =>
    intro c
    obtain ⟨i1, i2⟩ := ih (c + 1)
    unfold fnd
    cases hp : p c with
    | true =>
      rw [if_pos rfl]
      refine ⟨fun h => (by cases h), fun x h => ?_⟩
      cases h
      exact ⟨Nat.le_refl _, by omega, hp, fun j h1 h2 => by omega⟩
    | false =>
      rw [if_neg (by decide)]
      refine ⟨fun h j h1 h2 => ?_, fun x h => ?_⟩
      · by_cases e : j = c
        · rw [e]; exact hp
        · exact i1 h j (by omega) (by omega)
      · obtain ⟨w1, w2, w3, w4⟩ := i2 x h
        refine ⟨by omega, by omega, w3, fun j h1 h2 => ?_⟩
        by_cases e : j = c
        · rw [e]; exact hp
        · exact w4 j (by omega) h2
theorem fnd_none {p : Nat → Bool} {K : Nat} (h : fnd p 0 K = none) : anyN K p = false := by
  cases ha : anyN K p with
  | false => rfl
  | true =>
    obtain ⟨j, h1, h2⟩ := anyN_iff.mp ha
    rw [(fnd_any K 0).1 h j (Nat.zero_le _) (by omega)] at h2
    cases h2
theorem fnd_some {p : Nat → Bool} {K x : Nat} (h : fnd p 0 K = some x) : x < K ∧ p x = true ∧ ∀ j, j < x → p j = false := by
  obtain ⟨-, w2, w3, w4⟩ := (fnd_any K 0).2 x h
  exact ⟨by omega, w3, fun j hj => w4 j (Nat.zero_le _) hj⟩
/-- the moves that a sheet asks for: how many, which children, where to -/
def isMv (r : Co) (Y : Nat → Int64) (c : Nat) : Bool := !decide (Y c < 0) && (!decide ((5 : Int64) < Y c) && !decide (Int64.toInt32 (Y c) = r 3 c))
def MS (r : Co) (Y : Nat → Int64) (k : Nat) : Nat × (Nat → Nat) × (Nat → Nat) := it (fun c a => if isMv r Y c = true then (a.1 + 1, (fun i => if i = a.1 then c else a.2.1 i), (fun i => if i = a.1 then kg (Int64.toInt32 (Y c)) else a.2.2 i)) else a) k (0, (fun _ => 0), (fun _ => 0))
theorem MS_s {r : Co} {Y : Nat → Int64} {k : Nat} : MS r Y (k + 1) = if isMv r Y k = true then ((MS r Y k).1 + 1, (fun i => if i = (MS r Y k).1 then k else (MS r Y k).2.1 i), (fun i => if i = (MS r Y k).1 then kg (Int64.toInt32 (Y k)) else (MS r Y k).2.2 i)) else MS r Y k := rfl
theorem isMv_q {r : Co} {Y : Nat → Int64} {c : Nat} (h : isMv r Y c = true) : ¬ Y c < 0 ∧ ¬ (5 : Int64) < Y c ∧ ¬ Int64.toInt32 (Y c) = r 3 c ∧ ∃ q, q < 6 ∧ Int64.toInt32 (Y c) = nI q := by
  unfold isMv at h
  simp only [Bool.and_eq_true, Bool.not_eq_true', decide_eq_false_iff_not] at h
  exact ⟨h.1, h.2.1, h.2.2, i64_6 h.1 (by rw [i64_56]; exact h.2.1)⟩
theorem MS_ok {r : Co} {Y : Nat → Int64} : ∀ k, (MS r Y k).1 ≤ k ∧ (∀ i, i < (MS r Y k).1 → (MS r Y k).2.1 i < k ∧ (MS r Y k).2.2 i < 6) ∧ ∀ i j, i < j → j < (MS r Y k).1 → (MS r Y k).2.1 i < (MS r Y k).2.1 j := by
  intro k
  induction k with
  | zero => exact ⟨Nat.le_refl 0, fun i hi => absurd hi (Nat.not_lt_zero i), fun i j _ hj => absurd hj (Nat.not_lt_zero j)⟩
  | succ k ih =>
    obtain ⟨i1, i2, i3⟩ := ih
    rw [MS_s]
    by_cases h : isMv r Y k = true
    · rw [if_pos h]
      obtain ⟨-, -, -, q, hq, eq⟩ := isMv_q h
      refine ⟨by show (MS r Y k).1 + 1 ≤ k + 1; omega, fun i hi => ?_, fun i j hij hj => ?_⟩
      · have hi : i < (MS r Y k).1 + 1 := hi
        show (if i = (MS r Y k).1 then k else (MS r Y k).2.1 i) < k + 1 ∧ (if i = (MS r Y k).1 then kg (Int64.toInt32 (Y k)) else (MS r Y k).2.2 i) < 6
        by_cases e : i = (MS r Y k).1
        · rw [if_pos e, if_pos e, eq, kg_nI (by omega)]; exact ⟨by omega, hq⟩
        · rw [if_neg e, if_neg e]
          have := i2 i (by omega)
          exact ⟨by omega, this.2⟩
      · have hj : j < (MS r Y k).1 + 1 := hj
        show (if i = (MS r Y k).1 then k else (MS r Y k).2.1 i) < (if j = (MS r Y k).1 then k else (MS r Y k).2.1 j)
        rw [if_neg (show i ≠ (MS r Y k).1 by omega)]
        by_cases e : j = (MS r Y k).1
        · rw [if_pos e]; exact (i2 i (by omega)).1
        · rw [if_neg e]; exact i3 i j hij (by omega)
    · rw [if_neg h]
      exact ⟨by omega, fun i hi => ⟨by have := (i2 i hi).1; omega, (i2 i hi).2⟩, i3⟩
/-- moves in a row, as long as they are told apart -/
def Mvs (n K : Nat) (mc ma : Nat → Nat) : Prop := (∀ i, i < K → mc i < n ∧ ma i < 6) ∧ ∀ i j, i < j → j < K → mc i < mc j
theorem Mvs.ne {n K : Nat} {mc ma : Nat → Nat} (h : Mvs n K mc ma) {i j : Nat} (hi : i < K) (hj : j < K) (e : mc i = mc j) : i = j := by
  rcases Nat.lt_trichotomy i j with w | w | w
  · have := h.2 i j w hj; omega
  · exact w
  · have := h.2 j i w hi; omega
def MVk (r : Co) (mc ma : Nat → Nat) (mask k : Nat) : Co := it (fun i a => if mask.testBit i = true then crw a 3 (mc i) (nI (ma i)) else a) k r
theorem MVk_s {r : Co} {mc ma : Nat → Nat} {mask k : Nat} : MVk r mc ma mask (k + 1) = if mask.testBit k = true then crw (MVk r mc ma mask k) 3 (mc k) (nI (ma k)) else MVk r mc ma mask k := rfl
theorem MVk_ok {n m K : Nat} {r : Co} {mc ma : Nat → Nat} (hM : Mvs n K mc ma) (ok : Ok n m r) (mask : Nat) : ∀ k, k ≤ K → Ok n m (MVk r mc ma mask k) := by
  intro k
  induction k with
  | zero => intro _; exact ok
  | succ k ih =>
    intro hk
    rw [MVk_s]
    by_cases h : mask.testBit k = true
    · rw [if_pos h]; exact ok_hold (ih (by omega)) ⟨ma k, (hM.1 k (by omega)).2, rfl⟩
    · rw [if_neg h]; exact ih (by omega)
theorem MVk_j {r : Co} {mc ma : Nat → Nat} {mask j : Nat} (hj : j ≠ 3) : ∀ k, MVk r mc ma mask k j = r j := by
  intro k
  induction k with
  | zero => rfl
  | succ k ih =>
    rw [MVk_s]
    by_cases h : mask.testBit k = true
    · rw [if_pos h]; unfold crw; rw [if_neg hj]; exact ih
    · rw [if_neg h]; exact ih
theorem MVk_o {r : Co} {mc ma : Nat → Nat} {mask c : Nat} : ∀ k, (∀ i, i < k → mc i ≠ c) → MVk r mc ma mask k 3 c = r 3 c := by
  intro k
  induction k with
  | zero => intro _; rfl
  | succ k ih =>
    intro h
    rw [MVk_s]
    by_cases hb : mask.testBit k = true
    · rw [if_pos hb, crw3_3 (fun w => h k (by omega) w.symm)]; exact ih (fun i hi => h i (by omega))
    · rw [if_neg hb]; exact ih (fun i hi => h i (by omega))
theorem MVk_i {n K : Nat} {r : Co} {mc ma : Nat → Nat} (hM : Mvs n K mc ma) {mask i : Nat} : ∀ k, k ≤ K → i < k → MVk r mc ma mask k 3 (mc i) = if mask.testBit i = true then nI (ma i) else r 3 (mc i) := by
  intro k
  induction k with
  | zero => intro _ h; omega
  | succ k ih =>
    intro hk hi
    rw [MVk_s]
    by_cases e : i = k
    · subst e
      by_cases hb : mask.testBit i = true
      · rw [if_pos hb, if_pos hb]
        show upd _ (mc i) (nI (ma i)) (mc i) = _
        unfold upd; rw [if_pos rfl]
      · rw [if_neg hb, if_neg hb]
        exact MVk_o i (fun j hj w => by have := hM.ne (by omega) (by omega) w; omega)
    · by_cases hb : mask.testBit k = true
      · rw [if_pos hb, crw3_3 (fun w => e (hM.ne (by omega) (by omega) w))]; exact ih (by omega) (by omega)
      · rw [if_neg hb]; exact ih (by omega) (by omega)
def HH (n m : Nat) (r : Co) (K : Nat) (mc ma : Nat → Nat) (mask : Nat) : Bool := decide (LW n m (MVk r mc ma mask K) = 0)
