/-! ===== rows are copied ===== -/
theorem m_part {t : SM} {q w : Nat} {a l : Int32} (hq : q < 4) (hw : w < 41) (a4 : gM t 17 q = nI w) : (∃ x y, a = nI x ∧ l = nI y ∧ x + y ≤ w ∧ fX6_isPart (nI q) a l t = some (1, t)) ∨ (fX6_isPart (nI q) a l t = some (0, t) ∧ (a < 0 ∨ l < 0 ∨ (w : Int) < a.toInt + l.toInt)) := by
  unfold fX6_isPart
  rw [ixg_nI hq (by decide), ixg_nI hq (by decide), a4]
  by_cases h1 : a < 0
  · rw [if_pos h1]; exact Or.inr ⟨rfl, Or.inl h1⟩
  rw [if_neg h1]
  by_cases h2 : l < 0
  · rw [if_pos h2]; exact Or.inr ⟨rfl, Or.inr (Or.inl h2)⟩
  rw [if_neg h2]
  have e2 := nI_toInt (n := w) (by omega)
  have p1 := h1
  have p2 := h2
  rw [Int32.lt_iff_toInt_lt, Int32.toInt_zero] at p1 p2
  by_cases h3 : nI w < l
  · rw [if_pos h3]
    rw [Int32.lt_iff_toInt_lt, e2] at h3
    exact Or.inr ⟨rfl, Or.inr (Or.inr (by omega))⟩
  rw [if_neg h3]
  rw [Int32.lt_iff_toInt_lt, e2] at h3
  obtain ⟨y, hy, r⟩ := inR_rng (x := l) (N := w + 1) (by unfold inR; simp only [decide_eq_true_eq]; omega)
  subst r
  have ey := nI_toInt (n := y) (by omega)
  have es : ∀ w, w < 41 → ∀ y, y < w + 1 → (nI w - nI y).toInt = (w : Int) - y := by decide
  have es2 := es w hw y hy
  by_cases h4 : nI w - nI y < a
  · rw [if_pos h4]
    rw [Int32.lt_iff_toInt_lt, es2] at h4
    exact Or.inr ⟨rfl, Or.inr (Or.inr (by omega))⟩
  · rw [if_neg h4]
    rw [Int32.lt_iff_toInt_lt, es2] at h4
    obtain ⟨x, hx, r⟩ := inR_rng (x := a) (N := w - y + 1) (by unfold inR; simp only [decide_eq_true_eq]; omega)
    exact Or.inl ⟨x, y, r, rfl, by omega, rfl⟩
