/-! ===== rounds: both fall alike ===== -/
theorem lp_to {T A B : Type} {bot : T} {body : T → T} (ap : T → Nat → A → Option B) (N : Nat) (P : Nat → A → Prop) (E : A → Option B) {F : Nat} (hs : ∀ k c a, c < N → P c a → ∃ a', ap (body k) c a = ap k (c + 1) a' ∧ P (c + 1) a') (he : ∀ k a, P N a → ap (body k) N a = E a) (a0 : A) (h0 : P 0 a0) (hF : N < F) : ∃ a, P N a ∧ ap (lp bot body F) 0 a0 = E a := by
  have key : ∀ (d F c : Nat) (a : A), c + d = N → d < F → P c a → ∃ b, P N b ∧ ap (lp bot body F) c a = E b := by
    intro d
    induction d with
    | zero =>
      intro F c a h1 h2 h3
      obtain ⟨F, rfl⟩ : ∃ G, F = G + 1 := ⟨F - 1, by omega⟩
      have : c = N := by omega
      subst this
      exact ⟨a, h3, he _ a h3⟩
    | succ d ih =>
      intro F c a h1 h2 h3
      obtain ⟨F, rfl⟩ : ∃ G, F = G + 1 := ⟨F - 1, by omega⟩
      obtain ⟨a', e1, e2⟩ := hs (lp bot body F) c a (by omega) h3
      obtain ⟨b, q1, q2⟩ := ih F (c + 1) a' (by omega) (by omega) e2
      exact ⟨b, q1, by show ap (body (lp bot body F)) c a = E b; rw [e1]; exact q2⟩
  exact key N F 0 a0 (by omega) hF h0
def ubN (m : Nat) (p : Nat → Bool) : Nat := it (fun j a => if p j = true then a else a + 1) m 0
theorem ubN_le {m : Nat} {p : Nat → Bool} : ubN m p ≤ m := by
  induction m with
  | zero => exact Nat.le_refl 0
  | succ m ih =>
    show (if p m = true then ubN m p else ubN m p + 1) ≤ m + 1
    split <;> omega
theorem ubN_mono {m : Nat} {p q : Nat → Bool} (h : ∀ j, j < m → p j = true → q j = true) : ubN m q ≤ ubN m p := by
  induction m with
  | zero => exact Nat.le_refl 0
  | succ m ih =>
    have ih := ih (fun j hj => h j (by omega))
    show (if q m = true then ubN m q else ubN m q + 1) ≤ (if p m = true then ubN m p else ubN m p + 1)
    by_cases hp : p m = true
    · rw [if_pos hp, if_pos (h m (by omega) hp)]; exact ih
    · rw [if_neg hp]; split <;> omega
theorem ubN_lt {m : Nat} {p q : Nat → Bool} {k : Nat} (h : ∀ j, j < m → p j = true → q j = true) (hk : k < m) (h1 : p k = false) (h2 : q k = true) : ubN m q < ubN m p := by
  induction m with
  | zero => omega
  | succ m ih =>
    show (if q m = true then ubN m q else ubN m q + 1) < (if p m = true then ubN m p else ubN m p + 1)
    by_cases e : k = m
    · subst e
      have := ubN_mono (m := k) (p := p) (q := q) (fun j hj => h j (show j < k + 1 by omega))
      rw [if_pos h2, if_neg (by rw [h1]; decide)]
      omega
    · have ih := ih (fun j hj => h j (by omega)) (by omega)
      by_cases hp : p m = true
      · rw [if_pos hp, if_pos (h m (by omega) hp)]; exact ih
      · rw [if_neg hp]; split <;> omega
theorem ubN_pos {m : Nat} {p : Nat → Bool} {k : Nat} (hk : k < m) (h1 : p k = false) : 0 < ubN m p := by
  have := ubN_lt (p := p) (q := fun _ => true) (fun _ _ _ => rfl) hk h1 rfl
  omega
theorem LW_some {n m : Nat} {r : Co} (hm : m ≤ 12) (h : LW n m r ≠ 0) : ∃ j, j < m ∧ lse n r j = true := by
  cases ha : anyN m (lse n r) with
  | true => exact anyN_iff.mp ha
  | false =>
    exfalso
    apply h
    apply bit_ext
    intro k hk
    rw [LW, setN_bit (by omega), bit_0]
    by_cases hkm : k < m
    · cases hl : lse n r k with
      | false => simp
      | true =>
        have := anyN_iff.mpr ⟨k, hkm, hl⟩
        rw [ha] at this
        cases this
    · simp [hkm]
theorem brk_stp {n m : Nat} {r : Co} (hm : m ≤ 12) {j : Nat} (hj : j < m) : brk (stp n m r) j = (brk r j || lse n r j) := by
  show bitB (r 10 13 ||| LW n m r) j = _
  rw [bit_or, LW, setN_bit (by omega)]
  simp [hj, brk]
theorem ub_stp {n m : Nat} {r : Co} (hm : m ≤ 12) (h : LW n m r ≠ 0) : ubN m (brk (stp n m r)) < ubN m (brk r) := by
  obtain ⟨k, hk, hl⟩ := LW_some hm h
  refine ubN_lt (fun j hj hp => by rw [brk_stp hm hj, hp]; rfl) hk ?_ (by rw [brk_stp hm hk, hl]; simp)
  unfold lse inF at hl
  cases hb : brk r k with
  | false => rfl
  | true => rw [hb] at hl; simp at hl
theorem ub_0 {n m : Nat} {r : Co} (hm : m ≤ 12) (h : ubN m (brk r) = 0) : LW n m r = 0 := by
  apply Classical.byContradiction
  intro h0
  have := ub_stp (n := n) hm h0
  omega
theorem fal_end {n m : Nat} (hm : m ≤ 12) (d : Nat) : ∀ {r : Co}, ubN m (brk r) ≤ d → LW n m (fal n m d r).2 = 0 := by
  induction d with
  | zero => intro r h; exact ub_0 (r := r) hm (by omega)
  | succ d ih =>
    intro r h
    unfold fal
    by_cases h0 : LW n m r = 0
    · rw [if_pos h0]; exact h0
    · rw [if_neg h0]
      have := ub_stp (n := n) hm h0
      exact ih (by omega)
theorem fal_le {n m : Nat} (d : Nat) : ∀ {r : Co}, (fal n m d r).1 ≤ d := by
  induction d with
  | zero => intro r; exact Nat.le_refl 0
  | succ d ih =>
    intro r
    unfold fal
    by_cases h0 : LW n m r = 0
    · rw [if_pos h0]; exact Nat.zero_le _
    · rw [if_neg h0]; have := ih (r := stp n m r); show _ + 1 ≤ d + 1; omega
def allR (n m : Nat) : Nat → Co → Int32
  | 0, _ => 0
  | k + 1, r => if LW n m r = 0 then 0 else LW n m r ||| allR n m k (stp n m r)
/-- the reference's memory but for its row (from off on), pledges and the three numbers of a fall -/
def Mk (off : Nat) (t t' : SM) : Prop := (∀ a, a ≠ 0 → a ≠ 9 → a ≠ 11 → gM t' a = gM t a) ∧ (∀ k, k ≠ 14 → k ≠ 15 → k ≠ 16 → gM t' 0 k = gM t 0 k) ∧ gN t' = gN t ∧ ∀ k, k < off ∨ off + 41 ≤ k → gM t' 9 k = gM t 9 k
theorem Mk.rfl' {off : Nat} {t : SM} : Mk off t t := ⟨fun _ _ _ _ => rfl, fun _ _ _ _ => rfl, rfl, fun _ _ => rfl⟩
theorem Mk.trans {off : Nat} {t t1 t2 : SM} (h1 : Mk off t t1) (h2 : Mk off t1 t2) : Mk off t t2 := ⟨fun a p q s => (h2.1 a p q s).trans (h1.1 a p q s), fun a p q s => (h2.2.1 a p q s).trans (h1.2.1 a p q s), h2.2.2.1.trans h1.2.2.1, fun k hk => (h2.2.2.2 k hk).trans (h1.2.2.2 k hk)⟩
theorem Mk.r11 {off : Nat} {t : SM} {f : Nat → Int32} : Mk off t (rM t 11 f) := ⟨fun a p q s => by rw [gM_rM, if_neg s], fun _ _ _ _ => rfl, rfl, fun _ _ => rfl⟩
section MRounds
variable {off n m : Nat} {r : Co} {t : SM}
theorem m_round (rl : Rl off n m r t) (ok : Ok n m r) {S : Int32} (hS : ∀ j, m ≤ j → bitB S j = false) (k20 : Tm Unit 1) : ∃ f, (Rl off n m (bw n m S r) (rM t 9 f) ∧ ∀ k, k < off ∨ off + 41 ≤ k → f k = gM t 9 k) ∧ fX6_falls_66 k20 400 S 0 t = bd (fX6_looseSet (rM t 9 f)) fun v s2 => k20 v s2 := by
  have hn := ok.1
  have hm := ok.2.1
  unfold fX6_falls_66
  have key := lp_to (bot := fun _ _ _ => none) (body := fX6_falls_66b k20) (F := 400) (ap := fun (k : Tm Unit 2) c (f : Nat → Int32) => k S (nI c) (rM t 9 f)) m (fun c f => Rl off n m (dbc r (r 10 13 ||| setN c (bitB S)) (r 10 12 ||| setN n (kil c S r))) (rM t 9 f) ∧ ∀ k, k < off ∨ off + 41 ≤ k → f k = gM t 9 k) (fun f => bd (fX6_looseSet (rM t 9 f)) fun v s2 => k20 v s2) ?_ ?_ (gM t 9) ?_ (by omega)
  · obtain ⟨f, ⟨q1, q2⟩, q3⟩ := key
    rw [rM_self] at q3
    refine ⟨f, ⟨?_, q2⟩, q3⟩
    have e : setN m (bitB S) = S := by
      apply bit_ext
      intro k hk
      rw [setN_bit (by omega)]
      by_cases hkm : k < m
      · simp [hkm]
      · simp [hkm, hS k (by omega)]
    rw [e] at q1
    exact q1
  · intro k c f hc hP
    obtain ⟨hP, hF⟩ := hP
    have okc : Ok n m (dbc r (r 10 13 ||| setN c (bitB S)) (r 10 12 ||| setN n (kil c S r))) := ok_dbc ok (fun j hj => by
        rw [bit_or, setN_bit (by omega)]
        have := ok.2.2.2.2.2.2.2.2.2 j hj
        unfold brk at this
        rw [this]; simp; omega) (fun j hj => by
        rw [bit_or, setN_bit (by omega)]
        have := ok.2.2.2.2.2.2.2.2.1 j hj
        unfold dead at this
        rw [this]; simp; omega)
    unfold fX6_falls_66b
    rw [if_neg (by rw [hP.2.2.2.1]; exact nI_ge hc (by omega))]
    simp only [m_has (show c < 32 by omega), bd_one, b2i_0, fX6_falls_87, vl_eq, ← nI_succ]
    by_cases h1 : bitB S c = false
    · refine ⟨f, by rw [if_pos h1], ?_, hF⟩
      have e1 : setN (c + 1) (bitB S) = setN c (bitB S) := by
        show (if bitB S c = true then _ else _) = _
        rw [if_neg (by rw [h1]; decide)]; rfl
      have e2 : setN n (kil (c + 1) S r) = setN n (kil c S r) := setN_congr (fun x _ => by unfold kil; rw [anyN_s, h1]; simp)
      rw [e1, e2]; exact hP
    · rw [if_neg h1]
      simp at h1
      obtain ⟨f2, q1, q2⟩ := m_breaks hP okc hc
      rw [q1, bd_one, rM_rM]
      have q3 := rl_breaks hP okc hc q2
      rw [rM_rM, dbc_dbc] at q3
      refine ⟨f2, rfl, ?_, fun k hk => ?_⟩
      · have e1 : r 10 13 ||| setN (c + 1) (bitB S) = (r 10 13 ||| setN c (bitB S)) ||| bt c := by
          show r 10 13 ||| (if bitB S c = true then setN c (bitB S) ||| bt c else _) = _
          rw [if_pos h1, Int32.or_assoc]
        have e2 : r 10 12 ||| setN n (kil (c + 1) S r) = (r 10 12 ||| setN n (kil c S r)) ||| setN n (mtc (dbc r (r 10 13 ||| setN c (bitB S)) (r 10 12 ||| setN n (kil c S r))) c) := by
          apply bit_ext
          intro x hx
          simp only [bit_or, setN_bit (show n ≤ 32 by omega)]
          by_cases hxn : x < n
          · simp only [hxn, decide_true, Bool.true_and, kil, anyN_s, h1]
            show _ = (bitB (r 10 12) x || anyN c (fun j => bitB S j && (decide (r 3 x = r 6 j) && decide (r 2 x = r 5 j))) || (decide (r 3 x = r 6 c) && decide (r 2 x = r 5 c)))
            rw [Bool.or_assoc]
          · simp [hxn]
        rw [e1, e2]
        exact q3
      · have h9 : gM (rM t 9 f) 9 = f := by rw [gM_rM, if_pos rfl]
        have := q2.2.1 k (by omega) (fun d hd => by omega)
        rw [h9] at this
        rw [this]; exact hF k hk
  · intro k f hP
    unfold fX6_falls_66b
    rw [if_pos (by rw [hP.1.2.2.2.1]; exact nI_le (Nat.le_refl m) (by omega))]
    simp only [vl_eq]
  · refine ⟨?_, fun _ _ => rfl⟩
    rw [rM_self]
    have e1 : setN 0 (bitB S) = 0 := rfl
    have e2 : setN n (kil 0 S r) = 0 := by
      apply bit_ext
      intro x hx
      rw [setN_bit (by omega), bit_0]
      simp [kil, anyN, it]
    rw [e1, e2, Int32.or_zero, Int32.or_zero, dbc_self]
    exact rl
theorem m_falls20 (hm12 : m ≤ 12) (d : Nat) : ∀ {r : Co} {t : SM} {p F : Nat}, Rl off n m r t → Ok n m r → ubN m (brk r) ≤ d → d < F → gM t 0 14 = nI p → p + d < 1000 → ∃ t', lp (fun _ _ => none) fX6_falls_20b F (LW n m r) t = some ((), t') ∧ Rl off n m (fal n m d r).2 t' ∧ Mk off t t' ∧ gM t' 0 14 = nI (p + (fal n m d r).1) ∧ gM t' 0 16 = gM t 0 16 ||| allR n m d r ∧ gM t' 0 15 = (if LW n m r = 0 then gM t 0 15 else if p = 0 then LW n m r else gM t 0 15) := by
  induction d with
  | zero =>
    intro r t p F rl ok h1 h2 h3 h4
    obtain ⟨F, rfl⟩ : ∃ G, F = G + 1 := ⟨F - 1, by omega⟩
    have h0 : LW n m r = 0 := ub_0 hm12 (by omega)
    refine ⟨t, ?_, rl, Mk.rfl', h3, ?_, ?_⟩
    · show fX6_falls_20b _ (LW n m r) t = _
      unfold fX6_falls_20b
      rw [if_pos h0]
    · show _ = gM t 0 16 ||| 0
      rw [Int32.or_zero]
    · rw [if_pos h0]
  | succ d ih =>
    intro r t p F rl ok h1 h2 h3 h4
    obtain ⟨F, rfl⟩ : ∃ G, F = G + 1 := ⟨F - 1, by omega⟩
    show ∃ t', fX6_falls_20b (lp (fun _ _ => none) fX6_falls_20b F) (LW n m r) t = _ ∧ _
    by_cases h0 : LW n m r = 0
    · refine ⟨t, ?_, ?_, Mk.rfl', ?_, ?_, ?_⟩
      · unfold fX6_falls_20b
        rw [if_pos h0]
      · unfold fal; rw [if_pos h0]; exact rl
      · unfold fal; rw [if_pos h0]; exact h3
      · unfold allR; rw [if_pos h0, Int32.or_zero]
      · rw [if_pos h0]
    · have hub := ub_stp (n := n) hm12 h0
      have e51 : ∀ x : Int32, fX6_falls_51 (lp (fun _ _ => none) fX6_falls_20b F) (LW n m r) x (wM t 0 14 (gM t 0 14 + 1)) = fX6_falls_66 (lp (fun _ _ => none) fX6_falls_20b F) 400 (LW n m r) 0 (wM (wM (wM t 0 14 (gM t 0 14 + 1)) 0 15 x) 0 16 (gM t 0 16 ||| LW n m r)) := by
        intro x
        rfl
      have main : ∀ x : Int32, (x = if p = 0 then LW n m r else gM t 0 15) → ∃ t', fX6_falls_51 (lp (fun _ _ => none) fX6_falls_20b F) (LW n m r) x (wM t 0 14 (gM t 0 14 + 1)) = some ((), t') ∧ Rl off n m (fal n m (d + 1) r).2 t' ∧ Mk off t t' ∧ gM t' 0 14 = nI (p + (fal n m (d + 1) r).1) ∧ gM t' 0 16 = gM t 0 16 ||| allR n m (d + 1) r ∧ gM t' 0 15 = (if LW n m r = 0 then gM t 0 15 else if p = 0 then LW n m r else gM t 0 15) := by
        intro x hx
        rw [e51]
        generalize hT : wM (wM (wM t 0 14 (gM t 0 14 + 1)) 0 15 x) 0 16 (gM t 0 16 ||| LW n m r) = T
        have mT : Mk off t T := by
          subst hT
          refine ⟨fun a a0 _ _ => ?_, fun k k1 k2 k3 => ?_, rfl, fun k _ => rfl⟩
          · funext b; simp [gM_wM, a0]
          · simp [gM_wM, k1, k2, k3]
        have T14 : gM T 0 14 = nI (p + 1) := by subst hT; simp [gM_wM, h3, nI_1]
        have T15 : gM T 0 15 = x := by subst hT; simp [gM_wM]
        have T16 : gM T 0 16 = gM t 0 16 ||| LW n m r := by subst hT; simp [gM_wM]
        have rT : Rl off n m r T := rl.q ⟨fun a a1 a2 => by
          by_cases a9 : a = 9
          · subst a9; subst hT; rfl
          · exact mT.1 a (by omega) a9 (by omega), mT.2.1 1 (by decide) (by decide) (by decide), mT.2.1 5 (by decide) (by decide) (by decide), mT.2.1 11 (by decide) (by decide) (by decide)⟩
        obtain ⟨f, ⟨q1, q2⟩, q3⟩ := m_round rT ok (LW_hi hm12) (lp (fun _ _ => none) fX6_falls_20b F)
        have q1 : Rl off n m (stp n m r) (rM T 9 f) := q1
        obtain ⟨g, e1, -⟩ := m_looseSet q1 (ok_stp ok)
        rw [q3, e1, bd_one]
        obtain ⟨t', w1, w2, w3, w4, w5, w6⟩ := ih (r := stp n m r) (t := rM (rM T 9 f) 11 g) (p := p + 1) (F := F) (q1.q Mq.r11) (ok_stp ok) (by omega) (by omega) T14 (by omega)
        have mkf : Mk off T (rM T 9 f) := ⟨fun a a0 a9 _ => by rw [gM_rM, if_neg a9], fun _ _ _ _ => rfl, rfl, fun k hk => by rw [gM_rM, if_pos rfl]; exact q2 k hk⟩
        have mk1 : Mk off t (rM (rM T 9 f) 11 g) := (mT.trans mkf).trans Mk.r11
        have ef : fal n m (d + 1) r = ((fal n m d (stp n m r)).1 + 1, (fal n m d (stp n m r)).2) := by
          show (if LW n m r = 0 then _ else _) = _
          rw [if_neg h0]
        refine ⟨t', w1, ?_, mk1.trans w3, ?_, ?_, ?_⟩
        · rw [ef]; exact w2
        · rw [ef, w4]; show nI _ = nI _; congr 1; omega
        · rw [w5]
          show gM T 0 16 ||| _ = _
          rw [T16]
          show _ = gM t 0 16 ||| (if LW n m r = 0 then 0 else LW n m r ||| allR n m d (stp n m r))
          rw [if_neg h0, Int32.or_assoc]
        · rw [w6, if_neg h0, ← hx]
          have e15 : gM (rM (rM T 9 f) 11 g) 0 15 = x := T15
          rw [e15, if_neg (show ¬ p + 1 = 0 by omega)]
          split <;> rfl
      unfold fX6_falls_20b
      rw [if_neg h0]
      simp only [vl_eq]
      have c14 : gM (wM t 0 14 (gM t 0 14 + 1)) 0 14 = nI (p + 1) := by simp [gM_wM, h3, nI_1]
      have c15 : gM (wM t 0 14 (gM t 0 14 + 1)) 0 15 = gM t 0 15 := by simp [gM_wM]
      rw [c14, c15]
      by_cases hp : p = 0
      · have : nI (p + 1) = 1 := by rw [hp]; rfl
        rw [if_pos this]
        exact main _ (by rw [if_pos hp])
      · have : ¬ nI (p + 1) = 1 := fun e => hp (by have := (nI_eq (a := p + 1) (b := 1) (by omega) (by omega)).mp e; omega)
        rw [if_neg this]
        exact main _ (by rw [if_neg hp])
end MRounds
section MFalls2
variable {off n m : Nat} {r : Co} {t : SM}
theorem m_falls (rl : Rl off n m r t) (ok : Ok n m r) : ∃ t', fX6_falls t = some ((), t') ∧ Rl off n m (fal n m 12 r).2 t' ∧ Mk off t t' ∧ gM t' 0 14 = nI (fal n m 12 r).1 ∧ gM t' 0 16 = allR n m 12 r ∧ gM t' 0 15 = LW n m r := by
  unfold fX6_falls fX6_falls_20
  simp only [vl_eq]
  generalize hT : wM (wM (wM t 0 14 0) 0 15 0) 0 16 0 = T
  have mT : Mk off t T := by
    subst hT
    refine ⟨fun a a0 _ _ => ?_, fun k k1 k2 k3 => ?_, rfl, fun k _ => rfl⟩
    · funext b; simp [gM_wM, a0]
    · simp [gM_wM, k1, k2, k3]
  have T14 : gM T 0 14 = nI 0 := by subst hT; simp [gM_wM, nI_0]
  have T15 : gM T 0 15 = 0 := by subst hT; simp [gM_wM]
  have T16 : gM T 0 16 = 0 := by subst hT; simp [gM_wM]
  have rT : Rl off n m r T := rl.q ⟨fun a a1 a2 => by
    by_cases a9 : a = 9
    · subst a9; subst hT; rfl
    · exact mT.1 a (by omega) a9 (by omega), mT.2.1 1 (by decide) (by decide) (by decide), mT.2.1 5 (by decide) (by decide) (by decide), mT.2.1 11 (by decide) (by decide) (by decide)⟩
  obtain ⟨g, e1, -⟩ := m_looseSet rT ok
  simp only [e1, bd_one]
  have hu : ubN m (brk r) ≤ 12 := Nat.le_trans ubN_le ok.2.1
  obtain ⟨t', w1, w2, w3, w4, w5, w6⟩ := m_falls20 (F := 400) ok.2.1 12 (p := 0) (rT.q Mq.r11 : Rl off n m r (rM T 11 g)) ok hu (by omega) T14 (by omega)
  refine ⟨t', w1, w2, (mT.trans Mk.r11).trans w3, by rw [w4, Nat.zero_add], ?_, ?_⟩
  · rw [w5, show gM (rM T 11 g) 0 16 = 0 from T16, Int32.zero_or]
  · rw [w6, show gM (rM T 11 g) 0 15 = 0 from T15, if_pos rfl]
    split
    · next h => rw [h]
    · rfl
theorem Mk.Mo {t t' : SM} (h : Mk off t t') : Mo t t' := ⟨h.2.1 38 (by decide) (by decide) (by decide), h.1 20 (by decide) (by decide) (by decide), h.1 10 (by decide) (by decide) (by decide), h.2.1 25 (by decide) (by decide) (by decide), h.1 15 (by decide) (by decide) (by decide), h.1 16 (by decide) (by decide) (by decide), h.1 17 (by decide) (by decide) (by decide), by rw [h.2.2.1]⟩
end MFalls2
theorem op_fall {s : SX} {t : SM} (h : Inv s t) : Sm (fX5_fall s) (fX6_fall t) := by
  obtain ⟨n, m, ok, rl⟩ := h.1
  obtain ⟨s', e1, e2, e3⟩ := x_bringDown ok
  obtain ⟨t', w1, w2, w3, w4, -, -⟩ := m_falls rl ok
  unfold fX5_fall fX6_fall
  simp only [e1, w1, bd_one, w4]
  exact Sm.of (h.new e3 w3.Mo ⟨n, m, by rw [e2]; exact ok_fal 12 ok, by rw [e2]; exact w2⟩ (by rw [e2]; exact cl_fal 12 (h.2.1 0 (by decide))))
