/-! ===== what a moved child changes ===== -/
def ls (n m : Nat) (r : Co) (q : Nat) : Int32 := setN m (lso n r (nI q))
theorem crw3_3 {r : Co} {c d : Nat} {x : Int32} (h : d ≠ c) : crw r 3 c x 3 d = r 3 d := by
  show upd (r 3) c x d = r 3 d
  unfold upd; rw [if_neg h]
theorem othT_mv {n c d : Nat} {r : Co} {x : Int32} (h : r 2 d ≠ r 2 c) : othT n (crw r 3 c x) d = othT n r d := by
  unfold othT
  apply anyN_congr
  intro k hk
  show (decide (k ≠ d) && (decide (r 1 k = 5) && (decide (r 2 k = r 2 d) && (decide (crw r 3 c x 3 k = r 2 d) && !dead r k)))) = (decide (k ≠ d) && (decide (r 1 k = 5) && (decide (r 2 k = r 2 d) && (decide (r 3 k = r 2 d) && !dead r k))))
  by_cases e : k = c
  · subst e
    have : decide (r 2 k = r 2 d) = false := by
      simp only [decide_eq_false_iff_not]; exact fun q => h q.symm
    rw [this]; simp
  · rw [crw3_3 e]
theorem lossC_mv {n c d : Nat} {r : Co} {x : Int32} (h : r 2 d ≠ r 2 c) : lossC n (crw r 3 c x) d = lossC n r d := by
  unfold lossC
  rw [othT_mv h]
  rfl
theorem pl_mv {n c : Nat} {r : Co} {x h q : Int32} (hq : q ≠ r 2 c) (k : Nat) : pl n (crw r 3 c x) h q k = pl n r h q k := by
  unfold pl
  apply it_congr
  intro d a _
  show (if crw r 3 c x 3 d = h ∧ r 2 d = q then a + lossC n (crw r 3 c x) d else a) = _
  by_cases e : r 2 d = q
  · have dc : d ≠ c := fun w => hq (by rw [← e, w])
    rw [crw3_3 dc, lossC_mv (by rw [e]; exact hq)]
  · rw [if_neg (fun w => e w.2), if_neg (fun w => e w.2)]
theorem ls_mv {n m c q : Nat} {r : Co} {x : Int32} (hq : nI q ≠ r 2 c) : ls n m (crw r 3 c x) q = ls n m r q := by
  unfold ls
  apply setN_congr
  intro j _
  unfold lso
  rw [pl_mv hq]
  rfl
theorem LW_ls {n m : Nat} {r : Co} (ok : Ok n m r) : LW n m r = 0 ↔ ∀ q, q < 6 → ls n m r q = 0 := by
  rw [← lw_or ok]
  constructor
  · intro h q hq
    apply bit_ext
    intro k hk
    rw [bit_0]
    cases hb : bitB (ls n m r q) k with
    | false => rfl
    | true =>
      have : bitB (it (fun k a => a ||| setN m (lso n r (nI k))) 6 0) k = true := by
        rw [it_or_bit, bit_0, Bool.false_or]
        exact anyN_iff.mpr ⟨q, hq, hb⟩
      rw [h, bit_0] at this
      exact this.symm
  · intro h
    apply bit_ext
    intro k hk
    rw [it_or_bit, bit_0, Bool.false_or]
    cases ha : anyN 6 (fun c => bitB (setN m (lso n r (nI c))) k) with
    | false => rfl
    | true =>
      obtain ⟨q, hq, hb⟩ := anyN_iff.mp ha
      have := h q hq
      unfold ls at this
      rw [this, bit_0] at hb
      exact hb.symm
/-- the kings with a loose word -/
def LK (n m : Nat) (r : Co) : Int32 := setN 6 (fun q => !decide (ls n m r q = 0))
theorem LK_0 {n m : Nat} {r : Co} (ok : Ok n m r) : (LK n m r = 0) = (LW n m r = 0) := by
  apply propext
  rw [LW_ls ok]
  constructor
  · intro h q hq
    have hb : bitB (LK n m r) q = false := by rw [h, bit_0]
    unfold LK at hb
    rw [setN_bit (by decide)] at hb
    simp only [hq, decide_true, Bool.true_and, Bool.not_eq_false', decide_eq_true_eq] at hb
    exact hb
  · intro h
    apply bit_ext
    intro k hk
    unfold LK
    rw [setN_bit (by decide), bit_0]
    by_cases h6 : k < 6
    · simp [h6, h k h6]
    · simp [h6]
theorem LK_mend {n m f g : Nat} {r : Co} (hf : f < 6) (hg : g < 6) : ((LK n m r &&& ((bt f ||| bt g) ^^^ (-1))) = 0) = (∀ q, q < 6 → q ≠ f → q ≠ g → ls n m r q = 0) := by
  apply propext
  have hb : ∀ k, k < 32 → bitB (LK n m r &&& ((bt f ||| bt g) ^^^ (-1))) k = ((decide (k < 6) && !decide (ls n m r k = 0)) && !(decide (k = f) || decide (k = g))) := fun k hk => by
    unfold LK
    rw [bit_and, setN_bit (by decide), bit_not hk, bit_or, bt_bit (by omega), bt_bit (by omega)]
  constructor
  · intro h q hq q1 q2
    have := hb q (by omega)
    rw [h, bit_0] at this
    simp only [hq, q1, q2, decide_true, decide_false, Bool.true_and, Bool.or_self, Bool.not_false, Bool.and_true] at this
    have := this.symm
    simp only [Bool.not_eq_false', decide_eq_true_eq] at this
    exact this
  · intro h
    apply bit_ext
    intro k hk
    rw [hb k hk, bit_0]
    by_cases h6 : k < 6
    · by_cases k1 : k = f
      · simp [k1]
      · by_cases k2 : k = g
        · simp [k2]
        · simp [h k h6 k1 k2]
    · simp [h6]
/-- all hold, seen from the kings whose children moved -/
theorem LW_two {n m f g : Nat} {r r2 : Co} (ok2 : Ok n m r2) (hf : f < 6) (hg : g < 6) (hs : ∀ q, q < 6 → q ≠ f → q ≠ g → ls n m r2 q = ls n m r q) : (LW n m r2 = 0) ↔ ((∀ q, q < 6 → q ≠ f → q ≠ g → ls n m r q = 0) ∧ ls n m r2 f = 0 ∧ ls n m r2 g = 0) := by
  rw [LW_ls ok2]
  constructor
  · intro h
    exact ⟨fun q h1 h2 h3 => by rw [← hs q h1 h2 h3]; exact h q h1, h f hf, h g hg⟩
  · intro ⟨h1, h2, h3⟩ q hq
    by_cases q1 : q = f
    · subst q1; exact h2
    · by_cases q2 : q = g
      · subst q2; exact h3
      · rw [hs q hq q1 q2]; exact h1 q hq q1 q2
/-! seeking the first -/
def fnd (p : Nat → Bool) : Nat → Nat → Option Nat
  | _, 0 => none
  | c, d + 1 => if p c = true then some c else fnd p (c + 1) d
theorem lp_fnd {T S B : Type} {bot : T} {body : T → T} (ap : T → Nat → S → Option B) (p : Nat → Bool) (Q : S → Prop) (R : Option Nat → B → Prop) (N lo : Nat) (hy : ∀ k c s, lo ≤ c → c < N → Q s → p c = true → ∃ b, ap (body k) c s = some b ∧ R (some c) b) (hn : ∀ k c s, lo ≤ c → c < N → Q s → p c = false → ∃ s', Q s' ∧ ap (body k) c s = ap k (c + 1) s') (he : ∀ k c s, N ≤ c → c ≤ max N lo → Q s → ∃ b, ap (body k) c s = some b ∧ R none b) : ∀ (d c F : Nat) (s : S), lo ≤ c → c ≤ max N lo → d = N - c → d < F → Q s → ∃ b, ap (lp bot body F) c s = some b ∧ R (fnd p c d) b := by
  intro d
  induction d with
  | zero =>
    intro c F s h0 h1 h2 h3 hQ
    obtain ⟨F, rfl⟩ : ∃ G, F = G + 1 := ⟨F - 1, by omega⟩
    exact he _ c s (by omega) h1 hQ
  | succ d ih =>
    intro c F s h0 h1 h2 h3 hQ
    obtain ⟨F, rfl⟩ : ∃ G, F = G + 1 := ⟨F - 1, by omega⟩
    show ∃ b, ap (body (lp bot body F)) c s = some b ∧ R (if p c = true then some c else fnd p (c + 1) d) b
    cases hp : p c with
    | true => rw [if_pos rfl]; exact hy _ c s h0 (by omega) hQ hp
    | false =>
      rw [if_neg (by decide)]
      obtain ⟨s', q1, q2⟩ := hn (lp bot body F) c s h0 (by omega) hQ hp
      rw [q2]
      exact ih (c + 1) F s' (by omega) (by omega) (by omega) (by omega) q1
/-- p is a move of the court -/
def mv (r : Co) (p : Nat) : Bool := !dead r (p / 6) && !decide (r 3 (p / 6) = nI (p % 6))
def mvd (r : Co) (p : Nat) : Co := crw r 3 (p / 6) (nI (p % 6))
def P1 (n m : Nat) (r : Co) (p : Nat) : Bool := mv r p && decide (LW n m (mvd r p) = 0)
def P2 (n m : Nat) (r : Co) (p : Nat) : Bool := mv r p && (fnd (P1 n m (mvd r p)) (6 * (p / 6 + 1)) (6 * n - 6 * (p / 6 + 1))).isSome
theorem div6 : ∀ p : Nat, p < 84 → nI p / 6 = nI (p / 6) ∧ nI p - nI p / 6 * 6 = nI (p % 6) := by decide +kernel
theorem ok_mvd {n m p : Nat} {r : Co} (ok : Ok n m r) : Ok n m (mvd r p) := ok_hold ok ⟨p % 6, by omega, rfl⟩
theorem cl_mvd {n p : Nat} {r : Co} (h : Cl r) (hn : n ≤ 14) (hp : p < 6 * n) : Cl (mvd r p) := cl_crw h (inl9 (by decide) (show p / 6 < 14 by omega))
