/-! ===== falls, months, what a realm takes over ===== -/
def stp (n m : Nat) (r : Co) : Co := bw n m (LW n m r) r
def fal (n m : Nat) : Nat → Co → Nat × Co
  | 0, r => (0, r)
  | k + 1, r => if LW n m r = 0 then (0, r) else ((fal n m k (stp n m r)).1 + 1, (fal n m k (stp n m r)).2)
theorem ok_stp {n m : Nat} {r : Co} (ok : Ok n m r) : Ok n m (stp n m r) := ok.bw (LW_hi ok.2.1)
theorem ok_fal {n m : Nat} (k : Nat) : ∀ {r : Co}, Ok n m r → Ok n m (fal n m k r).2 := by
  induction k with
  | zero => intro r ok; exact ok
  | succ k ih =>
    intro r ok
    unfold fal
    by_cases h : LW n m r = 0
    · rw [if_pos h]; exact ok
    · rw [if_neg h]; exact ih (ok_stp ok)
theorem x_bringDown {i n m : Nat} {s : SX} (ok : Ok n m (co s i)) : ∃ s', fX1_bringDown i s = some (nI (fal n m 12 (co s i)).1, s') ∧ co s' i = (fal n m 12 (co s i)).2 ∧ Fr i s s' := by
  unfold fX1_bringDown fX1_bringDown_2
  simp only [vl_eq]
  have key : ∀ (d c F : Nat) (a : SX), c + d = 12 → d < F → Ok n m (co a i) → ∃ s', lp (fun _ _ => none) (fX1_bringDown_2b i) F (nI c) a = some (nI (c + (fal n m d (co a i)).1), s') ∧ co s' i = (fal n m d (co a i)).2 ∧ Fr i a s' := by
    intro d
    induction d with
    | zero =>
      intro c F a h1 h2 oka
      obtain ⟨F, rfl⟩ : ∃ G, F = G + 1 := ⟨F - 1, by omega⟩
      have : c = 12 := by omega
      subst this
      refine ⟨a, ?_, rfl, Fr.rfl'⟩
      show fX1_bringDown_2b i _ (nI 12) a = _
      unfold fX1_bringDown_2b
      rw [if_pos (show (12 : Int32) ≤ nI 12 from nI_le (b := 12) (Nat.le_refl 12) (by decide))]
      rfl
    | succ d ih =>
      intro c F a h1 h2 oka
      obtain ⟨F, rfl⟩ : ∃ G, F = G + 1 := ⟨F - 1, by omega⟩
      show ∃ s', fX1_bringDown_2b i (lp (fun _ _ => none) (fX1_bringDown_2b i) F) (nI c) a = _ ∧ _
      generalize hK : lp (fun _ _ => none) (fX1_bringDown_2b i) F = K
      unfold fX1_bringDown_2b fal
      rw [if_neg (show ¬ (12 : Int32) ≤ nI c from nI_ge (b := 12) (by omega) (by decide))]
      obtain ⟨f, e1⟩ := x_looseWords oka
      simp only [e1, bd_one, vl_eq]
      by_cases h0 : LW n m (co a i) = 0
      · simp only [h0, if_true]
        exact ⟨rX a i 9 f, rfl, co_9 a i f, Fr.rX⟩
      · simp only [h0, if_false]
        obtain ⟨s5, e2, e3, e4⟩ := x_breakWords (s := rX a i 9 f) (i := i) (S := LW n m (co a i)) (by rw [co_9]; exact oka) (LW_hi oka.2.1)
        rw [co_9] at e3
        have e3 : co s5 i = stp n m (co a i) := e3
        simp only [e2, bd_one, ← nI_succ]
        obtain ⟨s', q1, q2, q3⟩ := ih (c + 1) F s5 (by omega) (by omega) (by rw [e3]; exact ok_stp oka)
        rw [e3] at q1 q2
        rw [hK] at q1
        refine ⟨s', ?_, q2, (Fr.rX.trans e4).trans q3⟩
        rw [q1, show c + 1 + (fal n m d (stp n m (co a i))).1 = c + ((fal n m d (stp n m (co a i))).1 + 1) by omega]
  obtain ⟨s', q1, q2, q3⟩ := key 12 0 400 s (by omega) (by omega) ok
  rw [Nat.zero_add] at q1
  exact ⟨s', q1, q2, q3⟩
def psd (n m : Nat) (x : Int32) (r : Co) : Co := if x ≤ 0 then r else cst (fal n m 12 r).2 14 ((fal n m 12 r).2 10 14 + x)
theorem x_pass {i n m : Nat} {s : SX} (ok : Ok n m (co s i)) (x : Int32) : ∃ s', fX1_pass i x s = some ((), s') ∧ co s' i = psd n m x (co s i) ∧ Fr i s s' := by
  unfold fX1_pass psd
  by_cases h : x ≤ 0
  · simp only [h, if_true]
    exact ⟨s, rfl, rfl, Fr.rfl'⟩
  · simp only [h, if_false]
    obtain ⟨s', q1, q2, q3⟩ := x_bringDown ok
    simp only [q1, bd_one, vl_eq]
    refine ⟨_, rfl, ?_, q3.trans Fr.wX⟩
    rw [co_w, q2]
    have : gX s' i 10 14 = (fal n m 12 (co s i)).2 10 14 := by rw [← q2]; rfl
    rw [this]
/-! rows -/
def crw (r : Co) (j k : Nat) (x : Int32) : Co := fun a => if a = j then upd (r j) k x else r a
theorem co_wj {s : SX} {i j k : Nat} {x : Int32} (hj : j ≠ 9) : co (wX s i j k x) i = crw (co s i) j k x := by
  funext a b
  unfold co crw
  by_cases h9 : a = 9
  · subst h9; simp [Ne.symm hj]
  · by_cases h : a = j
    · subst h
      simp [h9, gX_wX, upd]
    · simp [h9, h, gX_wX]
theorem co_o {s s' : SX} {i a : Nat} (h : Fr i s s') (ha : a ≠ i) : co s' a = co s a := by
  unfold co
  rw [h.1 a ha]
def inl (j k : Nat) : Prop := (j < 9 ∧ k < lenR j) ∨ (j = 10 ∧ 10 ≤ k ∧ k ≤ 14)
/-- nothing is held where nothing can be -/
def Cl (r : Co) : Prop := ∀ j k, ¬ inl j k → r j k = 0
theorem cl_crw {r : Co} {j k : Nat} {x : Int32} (h : Cl r) (hk : inl j k) : Cl (crw r j k x) := by
  intro a b hab
  unfold crw upd
  by_cases h1 : a = j
  · subst h1
    by_cases h2 : b = k
    · subst h2; exact absurd hk hab
    · simp [h2, h a b hab]
  · simp [h1, h a b hab]
theorem cl_cst {r : Co} {k : Nat} {x : Int32} (h : Cl r) (h1 : 10 ≤ k) (h2 : k ≤ 14) : Cl (cst r k x) := cl_crw (j := 10) h (Or.inr ⟨rfl, h1, h2⟩)
theorem cl_bw {n m : Nat} {S : Int32} {r : Co} (h : Cl r) : Cl (bw n m S r) := cl_cst (cl_cst h (by decide) (by decide)) (by decide) (by decide)
theorem cl_fal {n m : Nat} (k : Nat) : ∀ {r : Co}, Cl r → Cl (fal n m k r).2 := by
  induction k with
  | zero => intro r h; exact h
  | succ k ih =>
    intro r h
    unfold fal
    by_cases h0 : LW n m r = 0
    · rw [if_pos h0]; exact h
    · rw [if_neg h0]; exact ih (cl_bw h)
theorem cl_psd {n m : Nat} {x : Int32} {r : Co} (h : Cl r) : Cl (psd n m x r) := by
  unfold psd
  by_cases h0 : x ≤ 0
  · rw [if_pos h0]; exact h
  · rw [if_neg h0]; exact cl_cst (cl_fal 12 h) (by decide) (by decide)
theorem cpy_all {f g : Nat → Int32} {n : Nat} (h : ∀ k, n ≤ k → f k = g k) : va_cpy f g 0 0 n = f := by
  funext k
  unfold va_cpy
  by_cases hk : k < n
  · simp [hk]
  · simp [hk, h k (by omega)]
theorem x_become {i j : Nat} {s : SX} (hij : i ≠ j) (ci : Cl (co s i)) (cj : Cl (co s j)) : ∃ s', fX1_become i j s = some ((), s') ∧ co s' i = co s j ∧ Fr i s s' := by
  have hz : (0 : Int32).toNatClampNeg = 0 := by decide
  have h6 : (6 : Int32).toNatClampNeg = 6 := by decide
  have h14 : (14 : Int32).toNatClampNeg = 14 := by decide
  have h12 : (12 : Int32).toNatClampNeg = 12 := by decide
  have hne : ∀ (a N : Nat), a < 9 → lenR a = N → ∀ k, N ≤ k → gX s j a k = gX s i a k := by
    intro a N ha hN k hk
    have q : ¬ inl a k := by
      rintro (⟨-, q⟩ | ⟨q, -⟩)
      · rw [hN] at q; omega
      · omega
    have h9 : a ≠ 9 := by omega
    have e1 := ci a k q
    have e2 := cj a k q
    simp only [co, if_neg h9] at e1 e2
    rw [e1, e2]
  unfold fX1_become
  simp only [vl_eq, hz, h6, h14, h12]
  refine ⟨_, rfl, ?_, ?_⟩
  · have hji : j ≠ i := Ne.symm hij
    funext a b
    unfold co
    by_cases h9 : a = 9
    · subst h9; rfl
    · simp only [if_neg h9, gX_wX, gX_rX, if_neg hji, if_true]
      have c0 := cpy_all (hne 0 6 (by decide) rfl)
      have c1 := cpy_all (hne 1 14 (by decide) rfl)
      have c2 := cpy_all (hne 2 14 (by decide) rfl)
      have c3 := cpy_all (hne 3 14 (by decide) rfl)
      have c4 := cpy_all (hne 4 14 (by decide) rfl)
      have c5 := cpy_all (hne 5 12 (by decide) rfl)
      have c6 := cpy_all (hne 6 12 (by decide) rfl)
      have c7 := cpy_all (hne 7 12 (by decide) rfl)
      have c8 := cpy_all (hne 8 12 (by decide) rfl)
      by_cases a10 : a = 10
      · subst a10
        by_cases b14 : b = 14
        · subst b14; simp
        by_cases b13 : b = 13
        · subst b13; simp
        by_cases b12 : b = 12
        · subst b12; simp
        by_cases b11 : b = 11
        · subst b11; simp
        by_cases b10 : b = 10
        · subst b10; simp
        have q : ¬ inl 10 b := by
          rintro (⟨q, -⟩ | ⟨-, q1, q2⟩)
          · omega
          · omega
        have e1 := ci 10 b q
        have e2 := cj 10 b q
        simp only [co] at e1 e2
        simp at e1 e2
        simp [b10, b11, b12, b13, b14, e1, e2]
      · rcases a with _ | _ | _ | _ | _ | _ | _ | _ | _ | _ | _ | a
        · simp [c0]
        · simp [c1]
        · simp [c2]
        · simp [c3]
        · simp [c4]
        · simp [c5]
        · simp [c6]
        · simp [c7]
        · simp [c8]
        · exact absurd rfl h9
        · exact absurd rfl a10
        · have q : ¬ inl (a + 11) b := by
            rintro (⟨q, -⟩ | ⟨q, -⟩) <;> omega
          have e1 := ci (a + 11) b q
          have e2 := cj (a + 11) b q
          simp only [co, if_neg h9] at e1 e2
          simp [e1, e2]
  · exact ((((((((((((Fr.rX.trans Fr.rX).trans Fr.rX).trans Fr.rX).trans Fr.rX).trans Fr.rX).trans Fr.rX).trans Fr.rX).trans Fr.rX).trans Fr.wX).trans Fr.wX).trans Fr.wX).trans Fr.wX).trans Fr.wX
def adC (r : Co) (n : Nat) (k f h w : Int32) : Co := crw (crw (crw (crw (crw r 1 n k) 2 n f) 3 n h) 4 n w) 10 10 (nI (n + 1))
theorem x_addChild {i n m : Nat} {s : SX} (ok : Ok n m (co s i)) (hn : n < 14) (k f h w : Int32) : ∃ s', fX1_addChild i k f h w s = some (nI n, s') ∧ co s' i = adC (co s i) n k f h w ∧ Fr i s s' := by
  unfold fX1_addChild
  simp only [vl_eq, ok.hn.2, ixg_nI hn (by decide)]
  refine ⟨_, rfl, ?_, ((((Fr.wX.trans Fr.wX).trans Fr.wX).trans Fr.wX).trans Fr.wX)⟩
  unfold adC
  rw [co_wj (by decide), co_wj (by decide), co_wj (by decide), co_wj (by decide), co_wj (by decide)]
  simp only [gX_wX]
  simp [ok.hn.2, nI_1]
def adT (r : Co) (m : Nat) (b t g u : Int32) : Co := crw (crw (crw (crw (crw r 5 m b) 6 m t) 7 m g) 8 m u) 10 11 (nI (m + 1))
theorem x_addTreaty {i n m : Nat} {s : SX} (ok : Ok n m (co s i)) (hm : m < 12) (b t g u : Int32) : ∃ s', fX1_addTreaty i b t g u s = some (nI m, s') ∧ co s' i = adT (co s i) m b t g u ∧ Fr i s s' := by
  unfold fX1_addTreaty
  simp only [vl_eq, ok.hm.2, ixg_nI hm (by decide)]
  refine ⟨_, rfl, ?_, ((((Fr.wX.trans Fr.wX).trans Fr.wX).trans Fr.wX).trans Fr.wX)⟩
  unfold adT
  rw [co_wj (by decide), co_wj (by decide), co_wj (by decide), co_wj (by decide), co_wj (by decide)]
  simp only [gX_wX]
  simp [ok.hm.2, nI_1]
def hom (r : Co) (c : Nat) : Bool := decide (r 3 c = r 2 c) && !dead r c
theorem x_livingAtHome {i n m : Nat} {s : SX} (ok : Ok n m (co s i)) : fX1_livingAtHome i s = some (setN n (hom (co s i)), s) := by
  have hn := ok.1
  have e : it (fun k a => a ||| setN n (hld (co s i) (nI k) (nI k))) 6 0 = setN n (hom (co s i)) := by
    apply bit_ext
    intro k hk
    rw [it_or_bit, bit_0, Bool.false_or, setN_bit (by omega)]
    by_cases hkn : k < n
    · obtain ⟨e1, e2⟩ := (ok.ch hkn).2.1.nI_kg (by decide)
      refine anyN_one (k := kg (gX s i 2 k)) e2 (fun c hc => ?_)
      rw [setN_bit (by omega)]
      simp only [hkn, decide_true, Bool.true_and, hld, hom, CO]
      by_cases h : c = kg (gX s i 2 k)
      · subst h
        simp only [e1, decide_true, Bool.true_and]
      · have : ¬ gX s i 2 k = nI c := fun e => h (by rw [e, kg_nI (by omega)])
        simp [this, h]
    · simp only [hkn, decide_false, Bool.false_and]
      have : ∀ c, c < 6 → bitB (setN n (hld (co s i) (nI c) (nI c))) k = (decide (c = 0) && false) := fun c hc => by
        rw [setN_bit (by omega)]; simp [hkn]
      exact anyN_one (k := 0) (by decide) this
  unfold fX1_livingAtHome fX1_livingAtHome_4
  simp only [vl_eq]
  refine lp_for (F := 400) (ap := fun (k : Tx Int32 2) c a => k a (nI c) s) (g := fun k a => a ||| setN n (hld (co s i) (nI k) (nI k))) 6 0 (fun _ _ => True) (fun k c a hc _ => ⟨?_, trivial⟩) (fun k _ => ?_) trivial (by omega)
  · unfold fX1_livingAtHome_4b
    rw [if_neg (show ¬ (6 : Int32) ≤ nI c from nI_ge (b := 6) hc (by decide))]
    simp only [x_heldBy ok, bd_one, vl_eq, ← nI_succ]
  · unfold fX1_livingAtHome_4b
    rw [if_pos (show (6 : Int32) ≤ nI 6 from nI_le (b := 6) (Nat.le_refl 6) (by decide)), e]
