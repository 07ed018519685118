/-! ===== a row lent: what would fall ===== -/
/-- while a row is lent: all but scratch, the place of the row and the lent row is as it was -/
def Ml (t t' : SM) : Prop := (∀ a, a ≠ 0 → a ≠ 9 → a ≠ 11 → gM t' a = gM t a) ∧ (∀ k, k ≠ 11 → k ≠ 14 → k ≠ 15 → k ≠ 16 → gM t' 0 k = gM t 0 k) ∧ gN t' = gN t ∧ ∀ k, k < 41 → gM t' 9 k = gM t 9 k
theorem Ml.Mk {t t1 t2 : SM} (h1 : Ml t t1) (h2 : Mk 41 t1 t2) : Ml t t2 := ⟨fun a p q s => (h2.1 a p q s).trans (h1.1 a p q s), fun k p q s u => (h2.2.1 k q s u).trans (h1.2.1 k p q s u), h2.2.2.1.trans h1.2.2.1, fun k hk => (h2.2.2.2 k (Or.inl hk)).trans (h1.2.2.2 k hk)⟩
section MLend
variable {n m : Nat} {r : Co} {t : SM}
theorem rl_back {t2 : SM} (rl : Rl 0 n m r t) (ok : Ok n m r) (h : Ml t t2) : Rl 0 n m r (wM t2 0 11 0) := by
  have hn := ok.1
  have hm := ok.2.1
  obtain ⟨a1, a2, a3, a4, a5, a6, a7, a8⟩ := rl
  have g : ∀ a, a ≠ 0 → a ≠ 9 → a ≠ 11 → gM (wM t2 0 11 0) a = gM t a := fun a p q s => by
    rw [show wM t2 0 11 0 = rM t2 0 _ from rfl, gM_rM, if_neg p]; exact h.1 a p q s
  have g9 : ∀ k, k < 41 → gM (wM t2 0 11 0) 9 k = gM t 9 k := fun k hk => h.2.2.2 k hk
  refine ⟨a1, rfl, ?_, ?_, ?_, fun c hc => ?_, fun j hj => ?_, ?_⟩
  · exact (h.2.1 1 (by decide) (by decide) (by decide) (by decide)).trans a3
  · exact (h.2.1 5 (by decide) (by decide) (by decide) (by decide)).trans a4
  · rw [g 1 (by decide) (by decide) (by decide)]; exact a5
  · rw [g 2 (by decide) (by decide) (by decide), g 3 (by decide) (by decide) (by decide), g 4 (by decide) (by decide) (by decide), g9 _ (by omega), g9 _ (by omega)]
    exact a6 c hc
  · rw [g 5 (by decide) (by decide) (by decide), g 6 (by decide) (by decide) (by decide), g 7 (by decide) (by decide) (by decide), g 8 (by decide) (by decide) (by decide), g9 _ (by omega)]
    exact a7 j hj
  · rw [g9 _ (by omega)]; exact a8
theorem mo_back {t2 : SM} (h : Ml t t2) : Mo t (wM t2 0 11 0) := by
  have g : ∀ a, a ≠ 0 → a ≠ 9 → a ≠ 11 → gM (wM t2 0 11 0) a = gM t a := fun a p q s => by
    rw [show wM t2 0 11 0 = rM t2 0 _ from rfl, gM_rM, if_neg p]; exact h.1 a p q s
  exact ⟨h.2.1 38 (by decide) (by decide) (by decide) (by decide), g 20 (by decide) (by decide) (by decide), g 10 (by decide) (by decide) (by decide), h.2.1 25 (by decide) (by decide) (by decide) (by decide), g 15 (by decide) (by decide) (by decide), g 16 (by decide) (by decide) (by decide), g 17 (by decide) (by decide) (by decide), by show gN t2 18 = gN t 18; rw [h.2.2.1]⟩
theorem m_lends (rl : Rl 0 n m r t) (ok : Ok n m r) : ∃ t', fX6_lends t = some ((), t') ∧ Rl 41 n m r t' ∧ Ml t t' := by
  have hn := ok.1
  have hm := ok.2.1
  unfold fX6_lends fX6_lends_7
  rw [vl_eq, vl_eq]
  generalize hT : wM t 0 11 0 = T
  have T9 : gM T 9 = gM t 9 := by subst hT; rfl
  have h9 : ∀ f, gM (rM T 9 f) 9 = f := fun f => by rw [gM_rM, if_pos rfl]
  have key := lp_inv (bot := fun _ _ => none) (body := fX6_lends_7b) (F := 400) (ap := fun (k : Tm Unit 1) c (f : Nat → Int32) => k (nI c) (rM T 9 f)) 41 (fun c f => (∀ k, k < 41 → f k = gM t 9 k) ∧ ∀ k, k < c → f (41 + k) = gM t 9 k) (fun b => ∃ f, b = ((), wM (rM T 9 f) 0 11 41) ∧ (∀ k, k < 41 → f k = gM t 9 k) ∧ ∀ k, k < 41 → f (41 + k) = gM t 9 k) ?_ ?_ (gM T 9) ⟨fun k _ => by rw [T9], fun k hk => absurd hk (Nat.not_lt_zero k)⟩ (by omega)
  · rw [rM_self] at key
    obtain ⟨b, e1, f, e2, p1, p2⟩ := key
    subst e2
    refine ⟨_, e1, ?_, ?_⟩
    · obtain ⟨a1, a2, a3, a4, a5, a6, a7, a8⟩ := rl
      have g9 : ∀ k, k < 41 → gM (wM (rM T 9 f) 0 11 41) 9 (41 + k) = gM t 9 k := fun k hk => p2 k hk
      subst hT
      refine ⟨by decide, rfl, a3, a4, a5, fun c hc => ⟨(a6 c hc).1, (a6 c hc).2.1, (a6 c hc).2.2.1, ?_, ?_⟩, fun j hj => ⟨(a7 j hj).1, (a7 j hj).2.1, (a7 j hj).2.2.1, (a7 j hj).2.2.2.1, ?_⟩, ?_⟩
      · rw [g9 _ (by omega), ← Nat.zero_add (1 + c)]; exact (a6 c hc).2.2.2.1
      · rw [g9 _ (by omega), ← Nat.zero_add (15 + c)]; exact (a6 c hc).2.2.2.2
      · rw [g9 _ (by omega), ← Nat.zero_add (29 + j)]; exact (a7 j hj).2.2.2.2
      · have := g9 0 (by omega)
        rw [Nat.add_zero] at this
        rw [this]; exact a8
    · subst hT
      refine ⟨fun a p q _ => ?_, fun k k1 _ _ _ => ?_, rfl, fun k hk => p1 k hk⟩
      · funext b; simp [gM_wM, gM_rM, p, q]
      · simp [gM_wM, gM_rM, k1]
  · intro k c f hc hP
    have e41 : (41 : Int32) + nI c = nI (41 + c) := by rw [show (41 : Int32) = nI 41 from rfl, nI_add]
    unfold fX6_lends_7b
    rw [if_neg (show ¬ (41 : Int32) ≤ nI c from nI_ge (b := 41) hc (by decide))]
    refine ⟨upd f (41 + c) (f c), ?_, ?_, ?_⟩
    · simp only [ixg_nI (show c < 82 by omega) (by decide), e41, ixg_nI (show 41 + c < 82 by omega) (by decide), vl_eq, ← nI_succ, h9, wM_rM]
    · intro q hq; unfold upd; rw [if_neg (by omega)]; exact hP.1 q hq
    · intro q hq
      unfold upd
      by_cases e : q = c
      · subst e; rw [if_pos rfl]; exact hP.1 q hc
      · rw [if_neg (by omega)]; exact hP.2 q (by omega)
  · intro k f hP
    unfold fX6_lends_7b
    rw [if_pos (show (41 : Int32) ≤ nI 41 from nI_le (b := 41) (Nat.le_refl 41) (by decide))]
    exact ⟨_, rfl, f, rfl, hP.1, hP.2⟩
end MLend
theorem lse_brk {n : Nat} {r : Co} {j : Nat} (h : lse n r j = true) : brk r j = false := by
  unfold lse inF at h
  cases hb : brk r j with
  | false => rfl
  | true => rw [hb] at h; simp at h
theorem all_bits {n m : Nat} (hm : m ≤ 12) (d : Nat) : ∀ {r : Co} (_ : Ok n m r) (k : Nat), k < 32 → bitB ((fal n m d r).2 10 13) k = (bitB (r 10 13) k || bitB (allR n m d r) k) ∧ (bitB (allR n m d r) k = true → bitB (r 10 13) k = false) := by
  induction d with
  | zero =>
    intro r ok k hk
    refine ⟨?_, fun h => ?_⟩
    · show bitB (r 10 13) k = (bitB (r 10 13) k || bitB 0 k)
      rw [bit_0, Bool.or_false]
    · rw [show allR n m 0 r = 0 from rfl, bit_0] at h; cases h
  | succ d ih =>
    intro r ok k hk
    unfold fal allR
    by_cases h0 : LW n m r = 0
    · rw [if_pos h0, if_pos h0]
      refine ⟨by rw [bit_0, Bool.or_false], fun h => ?_⟩
      rw [bit_0] at h; cases h
    · rw [if_neg h0, if_neg h0]
      obtain ⟨i1, i2⟩ := ih (r := stp n m r) (ok_stp ok) k hk
      have e : bitB (stp n m r 10 13) k = (bitB (r 10 13) k || bitB (LW n m r) k) := by
        show bitB (r 10 13 ||| LW n m r) k = _
        rw [bit_or]
      refine ⟨?_, fun h => ?_⟩
      · show bitB ((fal n m d (stp n m r)).2 10 13) k = _
        rw [i1, e, bit_or, Bool.or_assoc]
      · rw [bit_or] at h
        cases hl : bitB (LW n m r) k with
        | true =>
          rw [LW, setN_bit (by omega)] at hl
          simp only [Bool.and_eq_true, decide_eq_true_eq] at hl
          exact lse_brk hl.2
        | false =>
          rw [hl, Bool.false_or] at h
          have := i2 h
          rw [e] at this
          cases hb : bitB (r 10 13) k with
          | false => rfl
          | true => rw [hb] at this; cases this
theorem all_eq {n m : Nat} {r : Co} (ok : Ok n m r) (d : Nat) : (fal n m d r).2 10 13 &&& (r 10 13 ^^^ (-1)) = allR n m d r := by
  apply bit_ext
  intro k hk
  obtain ⟨a1, a2⟩ := all_bits ok.2.1 d ok k hk
  rw [bit_and, bit_not hk, a1]
  cases h : bitB (allR n m d r) k with
  | false => cases bitB (r 10 13) k <;> rfl
  | true => rw [a2 h]; rfl
theorem Inv.trial {s s' : SX} {t t' : SM} (h : Inv s t) (hf : Fr 2 s s') (hc : Cl (co s' 2)) (hm : Mo t t') (hr : ∀ n m, Ok n m (co s 0) → Rl 0 n m (co s 0) t → Rl 0 n m (co s 0) t') : Inv s' t' := by
  have c0 : co s' 0 = co s 0 := co_o hf (by decide)
  refine h.court (hf.Xo (Or.inr (Or.inl rfl))) hm ?_ (fun i hi => ?_)
  · obtain ⟨n, m, ok, rl⟩ := h.1
    exact ⟨n, m, by rw [c0]; exact ok, by rw [c0]; exact hr n m ok rl⟩
  · by_cases h2 : i = 2
    · subst h2; exact hc
    · rw [co_o hf h2]; exact h.2.1 i (by omega)
