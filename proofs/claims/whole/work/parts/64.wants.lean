/-! ===== reading a court: numbers and words ===== -/
def Ft (s0 s : SX) : Prop := (∀ a, a ≠ 2 → a ≠ 8 → gX s a = gX s0 a) ∧ gL s = gL s0 ∧ gX s 8 1 = gX s0 8 1 ∧ gX s 8 0 1 = gX s0 8 0 1
def Mt (t0 t : SM) : Prop := (∀ j, 10 ≤ j → gM t j = gM t0 j) ∧ (∀ k, k ≠ 1 → k ≠ 5 → k ≠ 26 → k ≠ 27 → k ≠ 28 → k ≠ 30 → k ≠ 31 → gM t 0 k = gM t0 0 k) ∧ ∀ j, j ≠ 0 → gN t j = gN t0 j
theorem Ft.fa {s0 s s' : SX} (h : Ft s0 s) (fa : Fa s s') : Ft s0 s' := ⟨fun a h1 h2 => (fa.1 a h2).trans (h.1 a h1 h2), fa.2.1.trans h.2.1, fa.2.2.1.trans h.2.2.1, fa.2.2.2.trans h.2.2.2⟩
theorem Ft.fr2 {s0 s s' : SX} (h : Ft s0 s) (f : Fr 2 s s') : Ft s0 s' := ⟨fun a h1 h2 => (f.1 a h1).trans (h.1 a h1 h2), f.2.trans h.2.1, by rw [f.1 8 (by decide)]; exact h.2.2.1, by rw [f.1 8 (by decide)]; exact h.2.2.2⟩
theorem Mt.ma {t0 t t' : SM} (h : Mt t0 t) (ma : Ma t t') : Mt t0 t' := ⟨fun j hj => (ma.1 j (by omega)).trans (h.1 j hj), fun k a b c d e f g => (ma.2.1 k c d e f g).trans (h.2.1 k a b c d e f g), fun j hj => (ma.2.2 j hj).trans (h.2.2 j hj)⟩
/-- both read on, and hold the same court -/
def RR (s0 : SX) (t0 : SM) (y : Nat → Int32) (z : Nat) (r : Co) (s : SX) (t : SM) (b e : Nat) : Prop := Ft s0 s ∧ Mt t0 t ∧ Tz y z s t ∧ Tok y z s t b e ∧ gM t 0 31 = 1 ∧ co s 2 = r ∧ ∃ n m, Ok n m r ∧ Cl r ∧ Rl 0 n m r t
/-- both have given up at the same place -/
def BB (s0 : SX) (t0 : SM) (s : SX) (t : SM) : Prop := Ft s0 s ∧ Mt t0 t ∧ gX s 8 0 3 = gM t 0 27 ∧ gM t 0 31 = 0 ∧ Cl (co s 2)
theorem rl_ma {n m : Nat} {r : Co} {t t' : SM} (rl : Rl 0 n m r t) (ma : Ma t t') : Rl 0 n m r t' := rl.q ⟨fun a h1 h2 => ma.1 a (by omega), ma.2.1 1 (by decide) (by decide) (by decide) (by decide) (by decide), ma.2.1 5 (by decide) (by decide) (by decide) (by decide) (by decide), ma.2.1 11 (by decide) (by decide) (by decide) (by decide) (by decide)⟩
section Wants
variable {s0 : SX} {t0 : SM} {y : Nat → Int32} {z : Nat} {r : Co} {s : SX} {t : SM} {b e : Nat}
theorem rr_adv (h : RR s0 t0 y z r s t b e) : ∃ s' t' b' e', fX4_advance s = some ((), s') ∧ fX6_advance t = some ((), t') ∧ RR s0 t0 y z r s' t' b' e' ∧ e ≤ b' := by
  obtain ⟨h1, h2, h3, h4, h5, hr, n, m, h6, h7, h8⟩ := h
  obtain ⟨s', t', b', e', a1, a2, a3, a4, a5, a6, a7⟩ := tok_adv h3 h4.2.2.1 h4.2.2.2.1 h4.2.2.2.2.2.1
  have c2 : co s' 2 = co s 2 := by unfold co; rw [a3.1 2 (by decide)]
  exact ⟨s', t', b', e', a1, a2, ⟨h1.fa a3, h2.ma a4, h3.fm a3 a4, a7, a5.trans h5, c2.trans hr, n, m, h6, h7, rl_ma h8 a4⟩, a6⟩
theorem rr_bad (h : RR s0 t0 y z r s t b e) : BB s0 t0 s (wM t 0 31 0) := by
  obtain ⟨h1, h2, h3, h4, h5, hr, n, m, h6, h7, h8⟩ := h
  refine ⟨h1, h2.ma (Ma.rfl'.w (by decide)), ?_, by rw [g0, if_pos rfl], by rw [hr]; exact h7⟩
  rw [g0, if_neg (by decide), h4.1, h4.2.1]
theorem bad_num (h : gM t 0 31 = 0) (l1 l2 : Int32) : fX6_wantNumber l1 l2 t = some (gM t 0 30, t) := by
  unfold fX6_wantNumber fX6_wantNumber_34 fX6_wantNumber_35
  rw [vl_eq, if_pos h, gd_pos (Or.inl (Eq.refl 0)), vl_eq, wM_self h, if_pos h]
theorem bad_word (h : gM t 0 31 = 0) (c : Int64) : fX6_wantWord c t = some ((), t) := by
  unfold fX6_wantWord fX6_wantWord_20 fX6_wantWord_21
  rw [if_pos h, gd_pos (Or.inl (Eq.refl 0)), vl_eq, wM_self h, if_pos h]
theorem bad_may (h : gM t 0 31 = 0) (c : Int64) (l3 l4 d : Int32) : fX6_mayWant c l3 l4 d t = some (d, t) := by
  unfold fX6_mayWant
  rw [if_pos h]
theorem rr_num (h : RR s0 t0 y z r s t b e) {hi : Nat} (hh : hi < 1001) : (∃ v s' t' b' e', fX4_takeNumber (nI hi) s = some (nI v, s') ∧ fX6_wantNumber 0 (nI hi) t = some (nI v, t') ∧ v ≤ hi ∧ RR s0 t0 y z r s' t' b' e' ∧ b < b') ∨ (∃ w t', fX4_takeNumber (nI hi) s = some (-1, s) ∧ fX6_wantNumber 0 (nI hi) t = some (w, t') ∧ BB s0 t0 s t') := by
  have h5 := h.2.2.2.2.1
  have g1 : ¬ gM t 0 31 = 0 := by rw [h5]; decide
  have bad : fX6_wantNumber_34 (gM t 0 30) t = some (gM t 0 30, wM t 0 31 0) := by
    unfold fX6_wantNumber_34 fX6_wantNumber_35
    rw [gd_pos (Or.inl (Eq.refl 0)), vl_eq, if_pos (by rw [g0, if_pos rfl])]
  have other : ¬ gX s 8 0 2 = 2 → ¬ gM t 0 26 = 2 → (∃ w t', fX4_takeNumber (nI hi) s = some (-1, s) ∧ fX6_wantNumber 0 (nI hi) t = some (w, t') ∧ BB s0 t0 s t') := by
    intro k1 k2
    refine ⟨gM t 0 30, wM t 0 31 0, ?_, ?_, rr_bad h⟩
    · unfold fX4_takeNumber; rw [if_neg k1]
    · unfold fX6_wantNumber; rw [vl_eq, if_neg g1, if_neg k2]; exact bad
  obtain ⟨-, -, -, -, be, -, cs⟩ := h.2.2.2.1
  rcases cs with ⟨-, c1, c2⟩ | ⟨-, -, c1, c2, -⟩ | ⟨c0, c1, c2, v, hv, c3, c4⟩ | ⟨-, c1, c2, -⟩ | ⟨-, c1, c2, -⟩
  · exact Or.inr (other (by rw [c1]; decide) (by rw [c2]; decide))
  · exact Or.inr (other (by rw [c1]; decide) (by rw [c2]; decide))
  · by_cases hvh : v ≤ hi
    · obtain ⟨s', t', b', e', a1, a2, a3, a4⟩ := rr_adv h
      refine Or.inl ⟨v, s', t', b', e', ?_, ?_, hvh, a3, by omega⟩
      · unfold fX4_takeNumber
        rw [if_pos c1, c3, if_pos (nI_le hvh (by omega)), vl_eq, a1, bd_one]
      · unfold fX6_wantNumber fX6_wantNumber_35
        rw [vl_eq, if_neg g1, if_pos c2, c4, in_in (nI_pos (by omega)) (Int32.not_lt.mpr (nI_le hvh (by omega))), bd_one, if_neg (show ¬ (1 : Int32) = 0 by decide), gd_pos (Or.inr (Eq.refl 1)), vl_eq, wM_self h5, if_neg g1, a2, bd_one]
    · refine Or.inr ⟨gM t 0 30, wM t 0 31 0, ?_, ?_, rr_bad h⟩
      · unfold fX4_takeNumber
        rw [if_pos c1, c3, if_neg (nI_ge (by omega) (by omega))]
      · unfold fX6_wantNumber
        rw [vl_eq, if_neg g1, if_pos c2]
        have : fX6_in (gM t 0 30) 0 (nI hi) t = some (0, t) := by
          rw [c4]; exact in_hi (nI_pos (by omega)) (Int32.not_le.mp (nI_ge (by omega) (by omega))) t
        rw [this, bd_one, if_pos (Eq.refl (0 : Int32))]
        exact bad
  · exact Or.inr (other (by rw [c1]; decide) (by rw [c2]; decide))
  · exact Or.inr (other (by rw [c1]; decide) (by rw [c2]; decide))
theorem rr_word (h : RR s0 t0 y z r s t b e) {k : Nat} (hk : k < 15) : (∃ s' t' b' e', fX4_takeWord k s = some (1, s') ∧ fX6_wantWord (cW k) t = some ((), t') ∧ RR s0 t0 y z r s' t' b' e' ∧ b < b') ∨ (∃ t', fX4_takeWord k s = some (0, s) ∧ fX6_wantWord (cW k) t = some ((), t') ∧ BB s0 t0 s t') := by
  have h5 := h.2.2.2.2.1
  have g1 : ¬ gM t 0 31 = 0 := by rw [h5]; decide
  obtain ⟨w, w1, w2, w3⟩ := tok_word h.2.2.1 h.2.2.2.1 hk
  cases w with
  | true =>
    obtain ⟨s', t', b', e', a1, a2, a3, a4⟩ := rr_adv h
    have := w3 rfl
    refine Or.inl ⟨s', t', b', e', ?_, ?_, a3, by omega⟩
    · unfold fX4_takeWord
      rw [w1, bd_one, if_neg (show ¬ b2i true = 0 by decide), a1, bd_one]
    · unfold fX6_wantWord fX6_wantWord_21
      rw [if_neg g1, w2, bd_one, if_neg (show ¬ b2i true = 0 by decide), gd_pos (Or.inr (Eq.refl 1)), vl_eq, wM_self h5, if_neg g1, a2, bd_one]
  | false =>
    refine Or.inr ⟨_, ?_, ?_, rr_bad h⟩
    · unfold fX4_takeWord
      rw [w1, bd_one, if_pos (show b2i false = 0 by decide)]
    · unfold fX6_wantWord fX6_wantWord_20 fX6_wantWord_21
      rw [if_neg g1, w2, bd_one, if_pos (show b2i false = 0 by decide), gd_pos (Or.inl (Eq.refl 0)), vl_eq, if_pos (by rw [g0, if_pos rfl])]
theorem rr_may (h : RR s0 t0 y z r s t b e) {k hi : Nat} (hk : k < 15) (hh : hi < 1001) (d : Int32) : (fX4_takeWord k s = some (0, s) ∧ fX6_mayWant (cW k) 0 (nI hi) d t = some (d, t)) ∨ (∃ s1 v s2 t2 b2 e2, fX4_takeWord k s = some (1, s1) ∧ fX4_takeNumber (nI hi) s1 = some (nI v, s2) ∧ fX6_mayWant (cW k) 0 (nI hi) d t = some (nI v, t2) ∧ v ≤ hi ∧ RR s0 t0 y z r s2 t2 b2 e2 ∧ b < b2) ∨ (∃ s1 w t2, fX4_takeWord k s = some (1, s1) ∧ fX4_takeNumber (nI hi) s1 = some (-1, s1) ∧ fX6_mayWant (cW k) 0 (nI hi) d t = some (w, t2) ∧ BB s0 t0 s1 t2) := by
  have h5 := h.2.2.2.2.1
  have g1 : ¬ gM t 0 31 = 0 := by rw [h5]; decide
  obtain ⟨w, w1, w2, w3⟩ := tok_word h.2.2.1 h.2.2.2.1 hk
  cases w with
  | true =>
    obtain ⟨s', t', b', e', a1, a2, a3, a4⟩ := rr_adv h
    have := w3 rfl
    have tw : fX4_takeWord k s = some (1, s') := by
      unfold fX4_takeWord
      rw [w1, bd_one, if_neg (show ¬ b2i true = 0 by decide), a1, bd_one]
    have mw : fX6_mayWant (cW k) 0 (nI hi) d t = fX6_wantNumber 0 (nI hi) t' := by
      unfold fX6_mayWant
      rw [if_neg g1, w2, bd_one, if_neg (show ¬ b2i true = 0 by decide), a2, bd_one]
      cases fX6_wantNumber 0 (nI hi) t' with
      | none => rfl
      | some q => rfl
    rcases rr_num a3 hh with ⟨v, s2, t2, b2, e2, n1, n2, n3, n4, n5⟩ | ⟨w, t2, n1, n2, n3⟩
    · exact Or.inr (Or.inl ⟨s', v, s2, t2, b2, e2, tw, n1, mw.trans n2, n3, n4, by omega⟩)
    · exact Or.inr (Or.inr ⟨s', w, t2, tw, n1, mw.trans n2, n3⟩)
  | false =>
    refine Or.inl ⟨?_, ?_⟩
    · unfold fX4_takeWord
      rw [w1, bd_one, if_pos (show b2i false = 0 by decide)]
    · unfold fX6_mayWant
      rw [if_neg g1, w2, bd_one, if_pos (show b2i false = 0 by decide)]
end Wants
