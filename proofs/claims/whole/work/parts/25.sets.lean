/-! ===== bounds; the reference's sets ===== -/
theorem lossW_b : ∀ w : Nat, w < 100 → ∀ k : Nat, k < 6 → ∀ b : Bool, kg (lossW b (nI k) (nI w)) < 219 ∧ nI (kg (lossW b (nI k) (nI w))) = lossW b (nI k) (nI w) := by decide +kernel
theorem lossC_rng {n m : Nat} {r : Co} (ok : Ok n m r) {c : Nat} (hc : c < n) : rng (lossC n r c) 219 := by
  unfold lossC
  by_cases h : dead r c = true
  · rw [if_pos h]; exact ⟨0, by decide, rfl⟩
  · rw [if_neg h]
    obtain ⟨⟨k, hk, ek⟩, -, -, w, hw, ew⟩ := ok.2.2.2.2.1 c hc
    have := lossW_b w hw k hk (othT n r c)
    rw [ek, ew]
    exact ⟨_, this.1, this.2.symm⟩
theorem pl_rng {n m : Nat} {r : Co} (ok : Ok n m r) (h f : Int32) : ∀ k, k ≤ n → rng (pl n r h f k) (218 * k + 1) := by
  intro k
  induction k with
  | zero => intro _; exact ⟨0, by decide, rfl⟩
  | succ k ih =>
    intro hk
    obtain ⟨a, ha, ea⟩ := ih (by omega)
    obtain ⟨b, hb, eb⟩ := lossC_rng ok (show k < n by omega)
    rw [pl_s]
    split
    · exact ⟨a + b, by omega, by rw [ea, eb, nI_add]⟩
    · exact ⟨a, by omega, ea⟩
theorem sub_sign {a b : Nat} (ha : a < 2 ^ 30) (hb : b < 2 ^ 30) : (0 ≤ nI a - nI b) = (nI b ≤ nI a) := by
  apply propext
  have h1 := nI_toInt (show a < 2 ^ 31 by omega)
  have h2 := nI_toInt (show b < 2 ^ 31 by omega)
  rw [Int32.le_iff_toInt_le, Int32.le_iff_toInt_le, Int32.toInt_sub, h1, h2, Int32.toInt_zero, Int.bmod_eq_of_le (by omega) (by omega)]
  omega
section MSet
variable {off n m : Nat} {r : Co} {t : SM}
theorem m_easeOf (rl : Rl off n m r t) (ok : Ok n m r) {j : Nat} (hj : j < m) (hp : ∀ h, h < 6 → ∀ g, g < 6 → h ≠ g → gM t 11 (6 * h + g) = pl n r (nI h) (nI g) n) : fX6_easeOf (nI j) t = some (pl n r (r 6 j) (r 5 j) n + r 0 (kg (r 5 j)) - r 7 j, t) := by
  have hm := ok.2.1
  obtain ⟨⟨g, hg, eg⟩, ⟨h, hh, eh⟩, hne, -, -⟩ := ok.2.2.2.2.2.1 j hj
  obtain ⟨q1, q2, q3, q4, -⟩ := rl.tr hj
  unfold fX6_easeOf
  simp only [ixg_nI (show j < 12 by omega) (by decide), q1, q2, q3]
  rw [eg, eh, ix36 h hh g hg, ixg_nI (show 6 * h + g < 36 by omega) (by decide), ixg_nI hg (by decide), kg_nI (by omega), hp h hh g hg (fun e => hne (by rw [eg, eh, e])), rl.2.2.2.2.1 g hg]
theorem ease_lse (ok : Ok n m r) {j : Nat} (hj : j < m) : (0 ≤ pl n r (r 6 j) (r 5 j) n + r 0 (kg (r 5 j)) - r 7 j) = (r 7 j ≤ pl n r (r 6 j) (r 5 j) n + r 0 (kg (r 5 j))) := by
  have hn := ok.1
  obtain ⟨h5, -, -, ⟨g, hg, eg⟩, -⟩ := ok.2.2.2.2.2.1 j hj
  obtain ⟨a, ha, ea⟩ := pl_rng ok (r 6 j) (r 5 j) n (Nat.le_refl n)
  obtain ⟨b, hb, eb⟩ := ok.2.2.2.2.2.2.1 (kg (r 5 j)) (h5.nI_kg (by decide)).2
  rw [ea, eb, eg, nI_add]
  exact sub_sign (by omega) (by omega)
theorem m_looseSet (rl : Rl off n m r t) (ok : Ok n m r) : ∃ f, fX6_looseSet t = some (LW n m r, rM t 11 f) ∧ ∀ h, h < 6 → ∀ g, g < 6 → h ≠ g → f (6 * h + g) = pl n r (nI h) (nI g) n := by
  have hm := ok.2.1
  obtain ⟨f, e1, e2⟩ := m_findPledges rl ok
  have rlf : Rl off n m r (rM t 11 f) := rl.q Mq.r11
  have h9 : gM (rM t 11 f) 11 = f := by rw [gM_rM, if_pos rfl]
  refine ⟨f, ?_, e2⟩
  unfold fX6_looseSet fX6_looseSet_8
  simp only [e1, bd_one, vl_eq]
  refine lp_for (F := 400) (ap := fun (k : Tm Int32 2) c a => k a (nI c) (rM t 11 f)) (g := fun c a => if lse n r c = true then a ||| bt c else a) m 0 (fun _ _ => True) (fun k c a hc _ => ⟨?_, trivial⟩) (fun k _ => ?_) trivial (by omega)
  · unfold fX6_looseSet_8b
    rw [if_neg (by rw [rlf.2.2.2.1]; exact nI_ge hc (by omega))]
    simp only [m_isInForce rlf hm hc, m_easeOf rlf ok hc (by rw [h9]; exact e2), bd_one, b2i_0, ease_lse ok hc, fX6_looseSet_39, fX6_looseSet_40, vl_eq, ← nI_succ, Int32.or_zero, lse]
    by_cases h1 : inF r c = false
    · simp [h1]
    · simp at h1
      by_cases h2 : r 7 c ≤ pl n r (r 6 c) (r 5 c) n + r 0 (kg (r 5 c))
      · simp [h1, h2]
      · simp [h1, h2, bt]
  · unfold fX6_looseSet_8b
    rw [if_pos (by rw [rlf.2.2.2.1]; exact nI_le (Nat.le_refl m) (by omega))]
    rfl
theorem m_forceSet (rl : Rl off n m r t) (ok : Ok n m r) : fX6_forceSet t = some (setN m (inF r), t) := by
  have hm := ok.2.1
  unfold fX6_forceSet fX6_forceSet_4
  simp only [vl_eq]
  refine lp_for (F := 400) (ap := fun (k : Tm Int32 2) c a => k a (nI c) t) (g := fun c a => if inF r c = true then a ||| bt c else a) m 0 (fun _ _ => True) (fun k c a hc _ => ⟨?_, trivial⟩) (fun k _ => ?_) trivial (by omega)
  · unfold fX6_forceSet_4b
    rw [if_neg (by rw [rl.2.2.2.1]; exact nI_ge hc (by omega))]
    simp only [m_isInForce rl hm hc, bd_one, b2i_0, fX6_forceSet_28, vl_eq, ← nI_succ]
    cases inF r c <;> simp [bt]
  · unfold fX6_forceSet_4b
    rw [if_pos (by rw [rl.2.2.2.1]; exact nI_le (Nat.le_refl m) (by omega))]
    rfl
theorem m_held (rl : Rl off n m r t) (ok : Ok n m r) (h f : Int32) : fX6_held h f t = some (setN n (hld r h f), t) := by
  have hn := ok.1
  unfold fX6_held fX6_held_5
  simp only [vl_eq]
  refine lp_for (F := 400) (ap := fun (k : Tm Int32 4) c a => k h f a (nI c) t) (g := fun c a => if hld r h f c = true then a ||| bt c else a) n 0 (fun _ _ => True) (fun k c a hc _ => ⟨?_, trivial⟩) (fun k _ => ?_) trivial (by omega)
  · unfold fX6_held_5b
    rw [if_neg (by rw [rl.2.2.1]; exact nI_ge hc (by omega))]
    simp only [m_lives rl hn hc, m_holder rl hn hc, ixg_nI (show c < 14 by omega) (by decide), (rl.ch hc).2.1, bd_one, b2i_0, fX6_held_52, fX6_held_53, vl_eq, ← nI_succ, hld, Int32.or_zero]
    by_cases h1 : dead r c = false
    · by_cases h2 : r 2 c = f
      · by_cases h3 : r 3 c = h
        · simp [h1, h2, h3, bt]
        · simp [h1, h2, h3]
      · simp [h1, h2]
    · simp at h1
      simp [h1]
  · unfold fX6_held_5b
    rw [if_pos (by rw [rl.2.2.1]; exact nI_le (Nat.le_refl n) (by omega))]
    rfl
theorem m_deadSet (rl : Rl off n m r t) (ok : Ok n m r) : fX6_deadSet t = some (r 10 12, t) := by
  have hn := ok.1
  have e : setN n (dead r) = r 10 12 := by
    apply bit_ext
    intro k hk
    rw [setN_bit (by omega)]
    by_cases hkn : k < n
    · simp [hkn, dead]
    · have := ok.2.2.2.2.2.2.2.2.1 k (by omega)
      unfold dead at this
      simp [hkn, this]
  unfold fX6_deadSet fX6_deadSet_4
  simp only [vl_eq]
  rw [← e]
  refine lp_for (F := 400) (ap := fun (k : Tm Int32 2) c a => k a (nI c) t) (g := fun c a => if dead r c = true then a ||| bt c else a) n 0 (fun _ _ => True) (fun k c a hc _ => ⟨?_, trivial⟩) (fun k _ => ?_) trivial (by omega)
  · unfold fX6_deadSet_4b
    rw [if_neg (by rw [rl.2.2.1]; exact nI_ge hc (by omega))]
    simp only [m_lives rl hn hc, bd_one, b2i_0, fX6_deadSet_28, vl_eq, ← nI_succ]
    cases dead r c <;> simp [bt]
  · unfold fX6_deadSet_4b
    rw [if_pos (by rw [rl.2.2.1]; exact nI_le (Nat.le_refl n) (by omega))]
    rfl
end MSet
/-! counting bits -/
def pcN (n : Nat) (x : Int32) : Nat := it (fun k a => if bitB x k = true then a + 1 else a) n 0
