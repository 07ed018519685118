/-! ===== the reference's reading methods, over the same courts ===== -/
def Rl (off n m : Nat) (r : Co) (t : SM) : Prop := off ≤ 41 ∧ gM t 0 11 = nI off ∧ gM t 0 1 = nI n ∧ gM t 0 5 = nI m ∧ (∀ k, k < 6 → gM t 1 k = r 0 k) ∧ (∀ c, c < n → gM t 2 c = r 1 c ∧ gM t 3 c = r 2 c ∧ gM t 4 c = r 4 c ∧ gM t 9 (off + (1 + c)) = r 3 c ∧ gM t 9 (off + (15 + c)) = b2i (dead r c)) ∧ (∀ j, j < m → gM t 5 j = r 5 j ∧ gM t 6 j = r 6 j ∧ gM t 7 j = r 7 j ∧ gM t 8 j = r 8 j ∧ gM t 9 (off + (29 + j)) = b2i (brk r j)) ∧ gM t 9 off = r 10 14
theorem Rl.ch {off n m : Nat} {r : Co} {t : SM} (h : Rl off n m r t) {c : Nat} (hc : c < n) : gM t 2 c = r 1 c ∧ gM t 3 c = r 2 c ∧ gM t 4 c = r 4 c ∧ gM t 9 (off + (1 + c)) = r 3 c ∧ gM t 9 (off + (15 + c)) = b2i (dead r c) := h.2.2.2.2.2.1 c hc
theorem Rl.tr {off n m : Nat} {r : Co} {t : SM} (h : Rl off n m r t) {j : Nat} (hj : j < m) : gM t 5 j = r 5 j ∧ gM t 6 j = r 6 j ∧ gM t 7 j = r 7 j ∧ gM t 8 j = r 8 j ∧ gM t 9 (off + (29 + j)) = b2i (brk r j) := h.2.2.2.2.2.2.1 j hj
/-- what Rl looks at is as it was -/
def Mq (t t' : SM) : Prop := (∀ a, 1 ≤ a → a ≤ 9 → gM t' a = gM t a) ∧ gM t' 0 1 = gM t 0 1 ∧ gM t' 0 5 = gM t 0 5 ∧ gM t' 0 11 = gM t 0 11
theorem Rl.q {off n m : Nat} {r : Co} {t t' : SM} (h : Rl off n m r t) (q : Mq t t') : Rl off n m r t' := by
  obtain ⟨q1, q2, q3, q4⟩ := q
  obtain ⟨a1, a2, a3, a4, a5, a6, a7, a8⟩ := h
  refine ⟨a1, by rw [q4]; exact a2, by rw [q2]; exact a3, by rw [q3]; exact a4, ?_, ?_, ?_, ?_⟩
  · rw [q1 1 (by decide) (by decide)]; exact a5
  · rw [q1 2 (by decide) (by decide), q1 3 (by decide) (by decide), q1 4 (by decide) (by decide), q1 9 (by decide) (by decide)]; exact a6
  · rw [q1 5 (by decide) (by decide), q1 6 (by decide) (by decide), q1 7 (by decide) (by decide), q1 8 (by decide) (by decide), q1 9 (by decide) (by decide)]; exact a7
  · rw [q1 9 (by decide) (by decide)]; exact a8
theorem Mq.r11 {t : SM} {f : Nat → Int32} : Mq t (rM t 11 f) := by
  refine ⟨fun a h1 h2 => ?_, rfl, rfl, rfl⟩
  rw [gM_rM, if_neg (by omega)]
theorem at3 (off k c : Nat) : nI off + nI k + nI c = nI (off + (k + c)) := by
  rw [nI_add, nI_add, Nat.add_assoc]
section MRead
variable {off n m : Nat} {r : Co} {t : SM}
theorem m_lives (rl : Rl off n m r t) (hn : n ≤ 14) {c : Nat} (hc : c < n) : fX6_lives (nI c) t = some (b2i (!dead r c), t) := by
  have h41 := rl.1
  unfold fX6_lives
  rw [rl.2.1, show (15 : Int32) = nI 15 from rfl, at3, ixg_nI (by omega) (by decide), (rl.ch hc).2.2.2.2]
  simp only [b2i_0]
  cases dead r c <;> rfl
theorem m_holder (rl : Rl off n m r t) (hn : n ≤ 14) {c : Nat} (hc : c < n) : fX6_holder (nI c) t = some (r 3 c, t) := by
  have h41 := rl.1
  unfold fX6_holder
  rw [rl.2.1, show (1 : Int32) = nI 1 from rfl, at3, ixg_nI (by omega) (by decide), (rl.ch hc).2.2.2.1]
theorem m_isHome (rl : Rl off n m r t) (hn : n ≤ 14) {c : Nat} (hc : c < n) : fX6_isHome (nI c) t = some (b2i (decide (r 3 c = r 2 c)), t) := by
  unfold fX6_isHome
  rw [m_holder rl hn hc, bd_one, ixg_nI (by omega) (by decide), (rl.ch hc).2.1]
  by_cases h : r 3 c = r 2 c <;> simp [h, b2i]
theorem m_isInForce (rl : Rl off n m r t) (hm : m ≤ 12) {j : Nat} (hj : j < m) : fX6_isInForce (nI j) t = some (b2i (inF r j), t) := by
  have h41 := rl.1
  unfold fX6_isInForce
  have e0 : nI off + 0 = nI off := by rw [show (0 : Int32) = nI 0 from rfl, nI_add, Nat.add_zero]
  rw [rl.2.1, show (29 : Int32) = nI 29 from rfl, at3, ixg_nI (by omega) (by decide), (rl.tr hj).2.2.2.2, e0, ixg_nI (by omega) (by decide), ixg_nI (by omega) (by decide), (rl.tr hj).2.2.2.1, rl.2.2.2.2.2.2.2]
  simp only [b2i_0, inF]
  by_cases h1 : brk r j = false
  · by_cases h2 : r 8 j < r 10 14
    · have : ¬ r 10 14 ≤ r 8 j := Int32.not_le.mpr h2
      simp [h1, h2, this, b2i]
    · have : r 10 14 ≤ r 8 j := Int32.not_lt.mp h2
      simp [h1, h2, this, b2i]
  · simp at h1
    simp [h1, b2i]
theorem m_hasTwin (rl : Rl off n m r t) (hn : n ≤ 14) {c : Nat} (hc : c < n) : fX6_hasTwinAtHome (nI c) t = some (b2i (othT n r c), t) := by
  unfold fX6_hasTwinAtHome fX6_hasTwinAtHome_4
  simp only [vl_eq]
  refine lp_for (F := 400) (ap := fun (k : Tm Int32 3) x (a : Bool) => k (nI c) (b2i a) (nI x) t) (g := fun k a => a || (decide (k ≠ c) && twn r (r 2 c) k)) n false (fun _ _ => True) (fun k x a hx _ => ⟨?_, trivial⟩) (fun k _ => ?_) trivial (by omega)
  · unfold fX6_hasTwinAtHome_4b
    rw [if_neg (by rw [rl.2.2.1]; exact nI_ge hx (by omega))]
    simp only [b2i_0, fX6_hasTwinAtHome_66, fX6_hasTwinAtHome_62, fX6_hasTwinAtHome_67, vl_eq, ← nI_succ, ixg_nI (show x < 14 by omega) (by decide), ixg_nI (show c < 14 by omega) (by decide), (rl.ch hx).1, (rl.ch hx).2.1, (rl.ch hc).2.1, m_lives rl hn hx, m_isHome rl hn hx, bd_one, nI_eq (show x < 2 ^ 31 by omega) (show c < 2 ^ 31 by omega), twn]
    cases a with
    | true => simp [b2i]
    | false =>
      by_cases h1 : x = c
      · simp [h1, b2i]
      · by_cases h2 : r 1 x = 5
        · by_cases h3 : r 2 x = r 2 c
          · by_cases h4 : dead r x = false
            · by_cases h5 : r 3 x = r 2 c
              · simp [h1, h2, h3, h4, h5, b2i]
              · simp [h1, h2, h3, h4, h5, b2i]
            · simp at h4
              simp [h1, h2, h3, h4, b2i]
          · simp [h1, h2, h3, b2i]
        · simp [h1, h2, b2i]
  · unfold fX6_hasTwinAtHome_4b
    rw [if_pos (by rw [rl.2.2.1]; exact nI_le (Nat.le_refl n) (by omega)), gd_pos (b2i_b _)]
    rfl
theorem lost_eq : ∀ w : Nat, w < 100 → (if (5 : Int32) ≤ nI w / 2 then nI w / 2 - 5 else 0) = (if (0 : Int32) < nI w / 2 - 5 then nI w / 2 - 5 else 0) := by decide +kernel
theorem m_loss (rl : Rl off n m r t) (ok : Ok n m r) {c : Nat} (hc : c < n) : fX6_loss (nI c) t = some (lossW (othT n r c) (r 1 c) (r 4 c), t) := by
  have hn := ok.1
  obtain ⟨w, hw, ew⟩ := (ok.2.2.2.2.1 c hc).2.2.2
  have hl := lost_eq w hw
  unfold fX6_loss lossW
  simp only [ixg_nI (show c < 14 by omega) (by decide), vl_eq, (rl.ch hc).1, (rl.ch hc).2.2.1, m_hasTwin rl hn hc, bd_one, b2i_0]
  rw [ew]
  by_cases k1 : r 1 c = 1
  · simp [k1]
  · by_cases k2 : r 1 c = 2
    · simp [k2]
    · by_cases k3 : r 1 c = 3
      · simp [k3]
      · by_cases k4 : r 1 c = 4
        · rw [← hl]
          by_cases h5 : (5 : Int32) ≤ nI w / 2 <;> simp [k4, h5]
        · by_cases k5 : r 1 c = 5
          · cases othT n r c <;> simp [k5]
          · simp [k1, k2, k3, k4, k5]
theorem ix36 : ∀ h : Nat, h < 6 → ∀ g : Nat, g < 6 → 6 * nI h + nI g = nI (6 * h + g) := by decide +kernel
theorem m_fp2 (rl : Rl off n m r t) (ok : Ok n m r) (h0 : ∀ k, k < 36 → gM t 11 k = 0) : ∃ b : Unit × SM, fX6_findPledges_23 400 0 t = some b ∧ ∃ f, b.2 = rM t 11 f ∧ ∀ h, h < 6 → ∀ g, g < 6 → h ≠ g → f (6 * h + g) = pl n r (nI h) (nI g) n := by
  have hn := ok.1
  unfold fX6_findPledges_23
  have h9 : ∀ f, gM (rM t 11 f) 11 = f := fun f => by rw [gM_rM, if_pos rfl]
  have key := lp_inv (bot := fun _ _ => none) (body := fX6_findPledges_23b) (F := 400) (ap := fun (k : Tm Unit 1) c (f : Nat → Int32) => k (nI c) (rM t 11 f)) n (fun c f => ∀ h, h < 6 → ∀ g, g < 6 → h ≠ g → f (6 * h + g) = pl n r (nI h) (nI g) c) (fun b => ∃ f, b.2 = rM t 11 f ∧ ∀ h, h < 6 → ∀ g, g < 6 → h ≠ g → f (6 * h + g) = pl n r (nI h) (nI g) n) ?_ ?_ (gM t 11) (fun h hh g hg _ => h0 _ (by omega)) (by omega)
  · rw [rM_self] at key
    exact key
  · intro k c f hc hP
    have rlf : Rl off n m r (rM t 11 f) := rl.q Mq.r11
    have hch := ok.2.2.2.2.1 c hc
    unfold fX6_findPledges_23b
    rw [if_neg (by rw [rlf.2.2.1]; exact nI_ge hc (by omega))]
    simp only [m_lives rlf hn hc, m_isHome rlf hn hc, m_holder rlf hn hc, m_loss rlf ok hc, bd_one, b2i_0, ixg_nI (show c < 14 by omega) (by decide), (rlf.ch hc).2.1, fX6_findPledges_75, vl_eq, ← nI_succ, h9]
    by_cases h1 : dead r c = false
    · by_cases h2 : r 3 c = r 2 c
      · refine ⟨f, ?_, fun h hh g hg hne => ?_⟩
        · simp [h1, h2]
        · rw [pl_s, if_neg (fun q => hne (by
            have := q.1.symm.trans (h2.trans q.2)
            exact (nI_eq (by omega) (by omega)).mp this))]
          exact hP h hh g hg hne
      · obtain ⟨h, hh, eh⟩ := hch.2.2.1
        obtain ⟨g, hg, eg⟩ := hch.2.1
        have hgh : h ≠ g := fun e => h2 (by rw [eh, eg, e])
        have hx : ¬ nI h = nI g := fun e => hgh ((nI_eq (by omega) (by omega)).mp e)
        refine ⟨upd f (6 * h + g) (f (6 * h + g) + lossW (othT n r c) (r 1 c) (r 4 c)), ?_, fun h' hh' g' hg' hne => ?_⟩
        · rw [eh, eg, ix36 h hh g hg]
          simp only [ixg_nI (show 6 * h + g < 36 by omega) (by decide), h1, wM_rM]
          simp [hx]
        · rw [pl_s, eh, eg]
          simp only [nI_eq (show h < 2 ^ 31 by omega) (show h' < 2 ^ 31 by omega), nI_eq (show g < 2 ^ 31 by omega) (show g' < 2 ^ 31 by omega)]
          unfold upd
          by_cases q : h = h' ∧ g = g'
          · obtain ⟨rfl, rfl⟩ := q
            rw [if_pos rfl, if_pos ⟨rfl, rfl⟩, hP _ hh _ hg hne, lossC, if_neg (by simp [h1])]
          · rw [if_neg (by omega), if_neg q]
            exact hP h' hh' g' hg' hne
    · simp at h1
      refine ⟨f, ?_, fun h hh g hg hne => ?_⟩
      · simp [h1]
      · rw [pl_s]
        have : lossC n r c = 0 := by unfold lossC; rw [if_pos h1]
        rw [this, Int32.add_zero]
        split <;> exact hP h hh g hg hne
  · intro k f hP
    have rlf : Rl off n m r (rM t 11 f) := rl.q Mq.r11
    unfold fX6_findPledges_23b
    rw [if_pos (by rw [rlf.2.2.1]; exact nI_le (Nat.le_refl n) (by omega))]
    exact ⟨_, rfl, f, rfl, hP⟩
theorem m_findPledges (rl : Rl off n m r t) (ok : Ok n m r) : ∃ f, fX6_findPledges t = some ((), rM t 11 f) ∧ ∀ h, h < 6 → ∀ g, g < 6 → h ≠ g → f (6 * h + g) = pl n r (nI h) (nI g) n := by
  unfold fX6_findPledges fX6_findPledges_2
  simp only [vl_eq]
  have key := lp_inv (bot := fun _ _ => none) (body := fX6_findPledges_2b) (F := 400) (ap := fun (k : Tm Unit 1) c (f : Nat → Int32) => k (nI c) (rM t 11 f)) 36 (fun c f => ∀ k, k < c → f k = 0) (fun b => ∃ f, b.2 = rM t 11 f ∧ ∀ h, h < 6 → ∀ g, g < 6 → h ≠ g → f (6 * h + g) = pl n r (nI h) (nI g) n) ?_ ?_ (gM t 11) (fun k hk => absurd hk (Nat.not_lt_zero k)) (by omega)
  · rw [rM_self] at key
    obtain ⟨⟨u, t'⟩, e1, f, e2, e3⟩ := key
    simp only at e2
    subst e2
    exact ⟨f, e1, e3⟩
  · intro k c f hc hP
    unfold fX6_findPledges_2b
    rw [if_neg (show ¬ (36 : Int32) ≤ nI c from nI_ge (b := 36) hc (by decide))]
    refine ⟨upd f c 0, ?_, fun h hh => ?_⟩
    · simp only [ixg_nI hc (by decide), vl_eq, ← nI_succ, wM_rM]
    · unfold upd
      by_cases h2 : h = c
      · rw [if_pos h2]
      · rw [if_neg h2]; exact hP h (by omega)
  · intro k f hP
    unfold fX6_findPledges_2b
    rw [if_pos (show (36 : Int32) ≤ nI 36 from nI_le (b := 36) (Nat.le_refl 36) (by decide))]
    simp only [vl_eq]
    obtain ⟨b, e1, f2, e2, e3⟩ := m_fp2 (rl.q Mq.r11) ok (t := rM t 11 f) (fun k hk => by rw [gM_rM, if_pos rfl]; exact hP k hk)
    exact ⟨b, e1, f2, by rw [e2, rM_rM], e3⟩
end MRead
