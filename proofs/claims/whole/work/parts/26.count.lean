/-! ===== counting bits: both ways give pop ===== -/
def popF : Nat → Nat → Nat
  | 0, _ => 0
  | n + 1, k => k % 2 + popF n (k / 2)
def pop (k : Nat) : Nat := popF 14 k
theorem bit_nI {a k : Nat} : bitB (nI a) k = (decide (k < 32) && a.testBit k) := by
  unfold bitB nI
  rw [show (Int32.ofNat a).toBitVec = BitVec.ofNat 32 a from rfl, BitVec.getLsbD_ofNat]
theorem nI_and (a b : Nat) : nI a &&& nI b = nI (a &&& b) := by
  apply bit_ext
  intro k hk
  rw [bit_and, bit_nI, bit_nI, bit_nI, Nat.testBit_and]
  simp [hk]
def swar (x0 : Int32) : Int32 := match fJ6_bitCount_0f7a4 x0 s00 with
  | some q => q.1
  | none => 0
theorem swar_eq (x : Int32) (s : SX) : fJ6_bitCount_0f7a4 x s = some (swar x, s) := rfl
def all2 (b : Nat) (p : Nat → Bool) : Bool := (List.range 64).all fun a => (List.range b).all fun c => p (b * a + c)
theorem all2_use {b : Nat} {p : Nat → Bool} (h : all2 b p = true) {k : Nat} (hk : k < b * 64) (hb : 0 < b) : p k = true := by
  have h1 := List.all_eq_true.mp h (k / b) (List.mem_range.mpr (Nat.div_lt_of_lt_mul (by rw [Nat.mul_comm] at hk; omega)))
  have h2 := List.all_eq_true.mp h1 (k % b) (List.mem_range.mpr (Nat.mod_lt k hb))
  rwa [Nat.div_add_mod] at h2
theorem pop_step0 : all2 256 (fun k => k == 0 || (popF 14 (k &&& (k - 1)) + 1 == popF 14 k && decide (k &&& (k - 1) < k))) = true := by decide +kernel
theorem pop_step {k : Nat} (h0 : 0 < k) (hk : k < 16384) : pop (k &&& (k - 1)) + 1 = pop k ∧ k &&& (k - 1) < k := by
  have := all2_use pop_step0 (k := k) (by omega) (by decide)
  simp only [Bool.or_eq_true, beq_iff_eq, Bool.and_eq_true, decide_eq_true_eq] at this
  rcases this with h | h
  · omega
  · exact h
theorem nI_ushr {a c : Nat} {x : Int32} (hx : x.toBitVec = (BitVec.ofNat 32 a) >>> c) (ha : a < 2 ^ 31) : x = nI (a >>> c) := by
  apply bit_ext
  intro k hk
  rw [bit_nI]
  unfold bitB
  rw [hx, BitVec.getLsbD_ushiftRight, BitVec.getLsbD_ofNat, Nat.testBit_shiftRight]
  by_cases h : c + k < 32
  · simp [hk, h]
  · have : a.testBit (c + k) = false := Nat.testBit_lt_two_pow (Nat.lt_of_lt_of_le ha (Nat.pow_le_pow_right (by decide) (by omega)))
    simp [hk, this]
theorem us1 {a : Nat} (ha : a < 2 ^ 31) : ((nI a).toUInt32 >>> (Int32.toUInt32 1 &&& Int32.toUInt32 31)).toInt32 = nI (a >>> 1) := nI_ushr rfl ha
theorem us2 {a : Nat} (ha : a < 2 ^ 31) : ((nI a).toUInt32 >>> (Int32.toUInt32 2 &&& Int32.toUInt32 31)).toInt32 = nI (a >>> 2) := nI_ushr rfl ha
theorem us4 {a : Nat} (ha : a < 2 ^ 31) : ((nI a).toUInt32 >>> (Int32.toUInt32 4 &&& Int32.toUInt32 31)).toInt32 = nI (a >>> 4) := nI_ushr rfl ha
theorem us8 {a : Nat} (ha : a < 2 ^ 31) : ((nI a).toUInt32 >>> (Int32.toUInt32 8 &&& Int32.toUInt32 31)).toInt32 = nI (a >>> 8) := nI_ushr rfl ha
theorem us16 {a : Nat} (ha : a < 2 ^ 31) : ((nI a).toUInt32 >>> (Int32.toUInt32 16 &&& Int32.toUInt32 31)).toInt32 = nI (a >>> 16) := nI_ushr rfl ha
theorem nI_subb {a b : Nat} (h : b ≤ a) : nI a - nI b = nI (a - b) := by
  have : nI a = nI (a - b) + nI b := by rw [nI_add, Nat.sub_add_cancel h]
  rw [this, Int32.add_sub_cancel]
def sw1 (a : Nat) : Nat := a - ((a >>> 1) &&& 1431655765)
def sw2 (a : Nat) : Nat := (a &&& 858993459) + ((a >>> 2) &&& 858993459)
def sw3 (a : Nat) : Nat := (a + (a >>> 4)) &&& 252645135
def swN (a : Nat) : Nat := let y3 := sw3 (sw2 (sw1 a)); let y4 := y3 + (y3 >>> 8); (y4 + (y4 >>> 16)) &&& 63
theorem shr_le (a c : Nat) : a >>> c ≤ a := by
  rw [Nat.shiftRight_eq_div_pow]; exact Nat.div_le_self _ _
theorem swar_nI {a : Nat} (ha : a < 2 ^ 20) : swar (nI a) = nI (swN a) := by
  have l1 : sw1 a ≤ a := Nat.sub_le _ _
  have l2 : sw2 (sw1 a) ≤ 2 * a := by
    have q1 : sw1 a &&& 858993459 ≤ sw1 a := Nat.and_le_left
    have q2 : (sw1 a >>> 2) &&& 858993459 ≤ sw1 a >>> 2 := Nat.and_le_left
    have q3 := shr_le (sw1 a) 2
    unfold sw2; omega
  have l3 : sw3 (sw2 (sw1 a)) ≤ 4 * a := by
    have q1 : (sw2 (sw1 a) + (sw2 (sw1 a) >>> 4)) &&& 252645135 ≤ sw2 (sw1 a) + (sw2 (sw1 a) >>> 4) := Nat.and_le_left
    have q3 := shr_le (sw2 (sw1 a)) 4
    unfold sw3; omega
  have hs1 : (a >>> 1) &&& 1431655765 ≤ a := Nat.le_trans Nat.and_le_left (shr_le a 1)
  have q8 := shr_le (sw3 (sw2 (sw1 a))) 8
  show ((let y1 := nI a - (((nI a).toUInt32 >>> (Int32.toUInt32 1 &&& Int32.toUInt32 31)).toInt32 &&& nI 1431655765); let y2 := (y1 &&& nI 858993459) + ((y1.toUInt32 >>> (Int32.toUInt32 2 &&& Int32.toUInt32 31)).toInt32 &&& nI 858993459); let y3 := (y2 + (y2.toUInt32 >>> (Int32.toUInt32 4 &&& Int32.toUInt32 31)).toInt32) &&& nI 252645135; let y4 := y3 + (y3.toUInt32 >>> (Int32.toUInt32 8 &&& Int32.toUInt32 31)).toInt32; let y5 := y4 + (y4.toUInt32 >>> (Int32.toUInt32 16 &&& Int32.toUInt32 31)).toInt32; y5 &&& nI 63) : Int32) = _
  have e1 : nI a - (((nI a).toUInt32 >>> (Int32.toUInt32 1 &&& Int32.toUInt32 31)).toInt32 &&& nI 1431655765) = nI (sw1 a) := by
    rw [us1 (by omega), nI_and, nI_subb hs1]; rfl
  have e2 : (nI (sw1 a) &&& nI 858993459) + (((nI (sw1 a)).toUInt32 >>> (Int32.toUInt32 2 &&& Int32.toUInt32 31)).toInt32 &&& nI 858993459) = nI (sw2 (sw1 a)) := by
    rw [us2 (by omega), nI_and, nI_and, nI_add]; rfl
  have e3 : (nI (sw2 (sw1 a)) + ((nI (sw2 (sw1 a))).toUInt32 >>> (Int32.toUInt32 4 &&& Int32.toUInt32 31)).toInt32) &&& nI 252645135 = nI (sw3 (sw2 (sw1 a))) := by
    rw [us4 (by omega), nI_add, nI_and]; rfl
  simp only [e1, e2, e3]
  rw [us8 (by omega), nI_add, us16 (by omega), nI_add, nI_and]
  rfl
theorem swar_0 : all2 256 (fun k => swN k == popF 14 k) = true := by decide +kernel
theorem x_bitCount {k : Nat} (hk : k < 16384) (s : SX) : fJ6_bitCount_0f7a4 (nI k) s = some (nI (pop k), s) := by
  rw [swar_eq, swar_nI (by omega)]
  have := all2_use swar_0 (k := k) (by omega) (by decide)
  rw [beq_iff_eq.mp this]
  rfl
theorem pop_le {k : Nat} : pop k ≤ 14 := by
  have : ∀ n k, popF n k ≤ n := by
    intro n
    induction n with
    | zero => intro k; exact Nat.le_refl 0
    | succ n ih => intro k; have := ih (k / 2); show k % 2 + popF n (k / 2) ≤ n + 1; omega
  exact this 14 k
theorem m_ones {k : Nat} (hk : k < 16384) (t : SM) : fX6_ones (nI k) t = some (nI (pop k), t) := by
  unfold fX6_ones fX6_ones_4
  simp only [vl_eq]
  have key : ∀ (d F a k : Nat), pop k = d → k < 16384 → d < F → lp (fun _ _ _ => none) fX6_ones_4b F (nI a) (nI k) t = some (nI (a + d), t) := by
    intro d
    induction d with
    | zero =>
      intro F a k h1 h2 h3
      obtain ⟨F, rfl⟩ : ∃ G, F = G + 1 := ⟨F - 1, by omega⟩
      have k0 : k = 0 := by
        rcases Nat.eq_zero_or_pos k with h | h
        · exact h
        · have := (pop_step h h2).1; omega
      subst k0
      show fX6_ones_4b _ (nI a) (nI 0) t = _
      unfold fX6_ones_4b
      rw [if_pos nI_0]
      rfl
    | succ d ih =>
      intro F a k h1 h2 h3
      obtain ⟨F, rfl⟩ : ∃ G, F = G + 1 := ⟨F - 1, by omega⟩
      have k0 : 0 < k := by
        rcases Nat.eq_zero_or_pos k with h | h
        · subst h
          have : pop 0 = 0 := by decide
          omega
        · exact h
      obtain ⟨p1, p2⟩ := pop_step k0 h2
      show fX6_ones_4b (lp (fun _ _ _ => none) fX6_ones_4b F) (nI a) (nI k) t = _
      generalize hK : lp (fun _ _ _ => none) fX6_ones_4b F = K
      unfold fX6_ones_4b
      rw [if_neg (nI_ne0 k0 (by omega))]
      simp only [vl_eq]
      have e : nI k - 1 = nI (k - 1) := by
        rw [show (1 : Int32) = nI 1 from rfl, nI_subb (by omega)]
      rw [e, nI_and, ← nI_succ, ← hK, ih F (a + 1) (k &&& (k - 1)) (by omega) (by omega) (by omega), show a + 1 + d = a + (d + 1) by omega]
  have := key (pop k) 400 0 k rfl hk (by have := pop_le (k := k); omega)
  rw [Nat.zero_add] at this
  exact this
/-- a set of at most fourteen is a number below 2 ^ 14 -/
theorem small_of {x : Int32} (h : ∀ k, 14 ≤ k → k < 32 → bitB x k = false) : ∃ k, k < 16384 ∧ x = nI k := by
  refine ⟨x.toBitVec.toNat, ?_, ?_⟩
  · apply Nat.lt_pow_two_of_testBit (n := 14)
    intro i hi
    by_cases h32 : i < 32
    · exact h i hi h32
    · exact BitVec.testBit_toNat x.toBitVec ▸ BitVec.getLsbD_of_ge _ _ (by omega)
  · apply bit_ext
    intro k hk
    rw [bit_nI]
    simp only [hk, decide_true, Bool.true_and]
    rfl
theorem cnt {x : Int32} (h : ∀ k, 14 ≤ k → k < 32 → bitB x k = false) : ∃ c : Nat, c ≤ 14 ∧ (∀ s, fJ6_bitCount_0f7a4 x s = some (nI c, s)) ∧ (∀ t, fX6_ones x t = some (nI c, t)) := by
  obtain ⟨k, hk, rfl⟩ := small_of h
  exact ⟨pop k, pop_le, x_bitCount hk, m_ones hk⟩
