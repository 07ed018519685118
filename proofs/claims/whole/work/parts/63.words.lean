/-! ===== words: letters or a number ===== -/
def lv (y : Nat → Int32) (j : Nat) : Nat := kg (y j) - 96
theorem let_nI {y : Nat → Int32} {j : Nat} (h : rng (y j) 256) (hd : letB (y j) = true) : y j = nI (96 + lv y j) ∧ 1 ≤ lv y j ∧ lv y j ≤ 26 := by
  obtain ⟨k, hk, ek⟩ := h
  unfold letB at hd
  simp only [Bool.and_eq_true, Bool.not_eq_true', decide_eq_false_iff_not] at hd
  unfold lv
  rw [ek, kg_nI (by omega)]
  rw [ek] at hd
  have a1 : 97 ≤ k := Nat.le_of_not_lt (fun w => hd.1 (Int32.not_le.mp (nI_ge (a := k) (b := 97) w (by decide))))
  have a2 : k ≤ 122 := Nat.le_of_not_lt (fun w => hd.2 (Int32.not_le.mp (nI_ge (a := 122) (b := k) w (by omega))))
  exact ⟨by congr 1; omega, by omega, by omega⟩
def encN (v : Nat → Nat) (L : Nat) : Nat := it (fun i a => 27 * a + v i) L 0
theorem encN_s {v : Nat → Nat} {L : Nat} : encN v (L + 1) = 27 * encN v L + v L := by unfold encN; rw [it_s]
theorem encN_lt {v : Nat → Nat} : ∀ L, (∀ i, i < L → v i ≤ 26) → encN v L < 27 ^ L := by
  intro L
  induction L with
  | zero => intro _; exact Nat.one_pos
  | succ L ih =>
    intro h
    have := ih (fun i hi => h i (by omega))
    have h2 := h L (by omega)
    rw [encN_s, Nat.pow_succ]
    omega
theorem enc_inj : ∀ (L M : Nat) (v w : Nat → Nat), (∀ i, i < L → 1 ≤ v i ∧ v i ≤ 26) → (∀ i, i < M → 1 ≤ w i ∧ w i ≤ 26) → encN v L = encN w M → L = M ∧ ∀ i, i < L → v i = w i := by
  intro L
  induction L with
  | zero =>
    intro M v w hv hw h
    cases M with
    | zero => exact ⟨rfl, fun i hi => absurd hi (Nat.not_lt_zero i)⟩
    | succ M =>
      rw [encN_s] at h
      have := hw M (by omega)
      have e0 : encN v 0 = 0 := rfl
      omega
  | succ L ih =>
    intro M v w hv hw h
    cases M with
    | zero =>
      rw [encN_s] at h
      have := hv L (by omega)
      have e0 : encN w 0 = 0 := rfl
      omega
    | succ M =>
      rw [encN_s, encN_s] at h
      have a1 := hv L (by omega)
      have a2 := hw M (by omega)
      obtain ⟨i1, i2⟩ := ih M v w (fun i hi => hv i (by omega)) (fun i hi => hw i (by omega)) (by omega)
      subst i1
      refine ⟨rfl, fun i hi => ?_⟩
      by_cases e : i = L
      · subst e; omega
      · exact i2 i (by omega)
theorem p27 : (27 : Nat) ^ 12 = 150094635296999121 := by decide
theorem encN_12 {v : Nat → Nat} {L : Nat} (hL : L ≤ 12) (h : ∀ i, i < L → v i ≤ 26) : encN v L < 150094635296999121 := by
  have := encN_lt L h
  have h2 : 27 ^ L ≤ 27 ^ 12 := Nat.pow_le_pow_right (by decide) hL
  rw [p27] at h2
  omega
theorem l64 : ∀ v : Nat, v < 27 → (Int32.toInt64 (nI (96 + v))).toInt = 96 + v := by decide
theorem wcod_toInt {y : Nat → Int32} {b : Nat} : ∀ L, L ≤ 12 → (∀ i, i < L → rng (y (b + i)) 256 ∧ letB (y (b + i)) = true) → (wcod y b L).toInt = (encN (fun i => lv y (b + i)) L : Int) := by
  intro L
  induction L with
  | zero => intro _ _; rfl
  | succ L ih =>
    intro hL h
    have ih := ih (by omega) (fun i hi => h i (by omega))
    obtain ⟨l1, l2, l3⟩ := let_nI (h L (by omega)).1 (h L (by omega)).2
    have bd12 := encN_12 (v := fun i => lv y (b + i)) (L := L + 1) hL (fun i hi => (let_nI (h i hi).1 (h i hi).2).2.2)
    rw [encN_s] at bd12 ⊢
    rw [wcod_s]
    unfold wcS
    rw [if_neg (by omega)]
    have e27 : (27 : Int64).toInt = 27 := by decide
    have e96 : (96 : Int64).toInt = 96 := by decide
    have ex : (Int32.toInt64 (y (b + L))).toInt = 96 + lv y (b + L) := by rw [l1]; exact l64 _ (by omega)
    rw [Int64.toInt_sub, Int64.toInt_add, Int64.toInt_mul, e27, e96, ex, ih]
    generalize encN (fun i => lv y (b + i)) L = A at bd12
    generalize lv y (b + L) = B at bd12 l3 l2
    rw [Int.bmod_eq_of_le (n := 27 * (A : Int)) (by omega) (by omega), Int.bmod_eq_of_le (n := 27 * (A : Int) + (96 + B)) (by omega) (by omega), Int.bmod_eq_of_le (by omega) (by omega)]
    omega
def cW (k : Nat) : Int64 := ([223459, 121788, 464134, 555, 138767, 11450658, 161370, 453928, 78204737, 247664, 410684, 1758676, 411, 459818, 12532058] : List Int64).getD k 0
def slen (k : Nat) : Nat := sLen.getD k 0
def wv (k i : Nat) : Nat := kg (sCh k i) - 96
theorem cW_enc : ∀ k : Nat, k < 15 → slen k ≤ 12 ∧ (cW k).toInt = (encN (wv k) (slen k) : Int) ∧ ∀ i, i < slen k → 1 ≤ wv k i ∧ wv k i ≤ 26 ∧ sCh k i = nI (96 + wv k i) := by decide
theorem word_eq {y : Nat → Int32} {b L k : Nat} (hk : k < 15) (h : ∀ i, i < L → rng (y (b + i)) 256 ∧ letB (y (b + i)) = true) : (wcod y b L = cW k) = (L = slen k ∧ ∀ i, i < L → y (b + i) = sCh k i) := by
  obtain ⟨c1, c2, c3⟩ := cW_enc k hk
  apply propext
  have hv : ∀ i, i < L → 1 ≤ lv y (b + i) ∧ lv y (b + i) ≤ 26 := fun i hi => (let_nI (h i hi).1 (h i hi).2).2
  by_cases hL : L ≤ 12
  · have hi := wcod_toInt L hL h
    constructor
    · intro w
      rw [w, c2] at hi
      obtain ⟨e1, e2⟩ := enc_inj L (slen k) (fun i => lv y (b + i)) (wv k) hv (fun i hi => ⟨(c3 i hi).1, (c3 i hi).2.1⟩) (by omega)
      refine ⟨e1, fun i hi => ?_⟩
      rw [(let_nI (h i hi).1 (h i hi).2).1, (c3 i (by omega)).2.2]
      have := e2 i hi
      rw [show lv y (b + i) = wv k i from this]
    · intro ⟨w1, w2⟩
      apply Int64.toInt_inj.mp
      rw [hi, c2]
      subst w1
      have : encN (fun i => lv y (b + i)) (slen k) = encN (wv k) (slen k) := by
        unfold encN
        apply it_congr
        intro i a hi
        show 27 * a + (kg (y (b + i)) - 96) = 27 * a + (kg (sCh k i) - 96)
        rw [w2 i hi]
      rw [this]
  · constructor
    · intro w
      exfalso
      obtain ⟨L', rfl⟩ : ∃ q, L = q + 1 := ⟨L - 1, by omega⟩
      rw [wcod_s] at w
      unfold wcS at w
      rw [if_pos (by omega)] at w
      have := congrArg Int64.toInt w
      rw [c2, show (-1 : Int64).toInt = -1 by decide] at this
      omega
    · intro ⟨w1, _⟩
      omega
theorem tok_word {y : Nat → Int32} {z b e k : Nat} {s : SX} {t : SM} (tz : Tz y z s t) (tk : Tok y z s t b e) (hk : k < 15) : ∃ w : Bool, fX4_isWord k s = some (b2i w, s) ∧ fX6_isWord (cW k) t = some (b2i w, t) ∧ (w = true → b < e) := by
  obtain ⟨hz, z1, z2, z3, z4⟩ := tz
  obtain ⟨t3, t27, t4, t28, be, ez, cs⟩ := tk
  have non : ¬ gX s 8 0 2 = 1 → ¬ gM t 0 26 = 1 → ∃ w : Bool, fX4_isWord k s = some (b2i w, s) ∧ fX6_isWord (cW k) t = some (b2i w, t) ∧ (w = true → b < e) := by
    intro h1 h2
    refine ⟨false, ?_, ?_, fun w => (by cases w)⟩
    · unfold fX4_isWord; rw [if_neg h1]; rfl
    · unfold fX6_isWord; rw [if_neg h2]; rfl
  rcases cs with ⟨-, c1, c2⟩ | ⟨c0, cl, c1, c2, c3⟩ | ⟨-, c1, c2, -⟩ | ⟨-, c1, c2, -⟩ | ⟨-, c1, c2, -⟩
  · exact non (by rw [c1]; decide) (by rw [c2]; decide)
  · have hl : ∀ i, i < e - b → rng (y (b + i)) 256 ∧ letB (y (b + i)) = true := fun i hi => ⟨(z4 (b + i) (by omega)).2, cl (b + i) (by omega) (by omega)⟩
    have we := word_eq hk hl
    have lg : (lg_cmp (wcod y b (e - b)) (cW k) = 0) = (wcod y b (e - b) = cW k) := by
      unfold lg_cmp
      apply propext
      by_cases g : wcod y b (e - b) > cW k
      · rw [if_pos g]
        refine ⟨fun w => absurd w (by decide), fun w => ?_⟩
        rw [w] at g
        exact absurd g Int64.lt_irrefl
      · rw [if_neg g]
        by_cases g2 : wcod y b (e - b) = cW k
        · rw [if_pos g2]; exact ⟨fun _ => g2, fun _ => rfl⟩
        · rw [if_neg g2]; exact ⟨fun w => absurd w (by decide), fun w => absurd w g2⟩
    refine ⟨decide (e - b = slen k ∧ ∀ i, i < e - b → y (b + i) = sCh k i), ?_, ?_, fun _ => c0⟩
    · unfold fX4_isWord fX4_isWord_28
      have esub : nI e - nI b = nI (e - b) := nI_subb be
      rw [if_pos c1, t3, t4, esub]
      have eln : sLn k = nI (slen k) := rfl
      rw [eln]
      have hs12 := (cW_enc k hk).1
      by_cases hLn : e - b = slen k
      · rw [if_pos (show nI (e - b) = nI (slen k) by rw [hLn]), vl_eq]
        have key := lp_fnd (bot := fun _ _ => none) (body := fX4_isWord_28b k) (ap := fun (kk : Tx Int32 1) i a => kk (nI i) a) (fun i => !decide (y (b + i) = sCh k i)) (fun a => a = s) (fun o r => r = (match o with
          | some _ => 0
          | none => 1, s)) (slen k) 0 ?_ ?_ ?_ (slen k) 0 400 s (Nat.zero_le _) (by omega) (by omega) (by omega) rfl
        · obtain ⟨r, k1, k2⟩ := key
          refine k1.trans ?_
          rw [k2]
          cases hF : fnd (fun i => !decide (y (b + i) = sCh k i)) 0 (slen k) with
          | none =>
            have : e - b = slen k ∧ ∀ i, i < e - b → y (b + i) = sCh k i := by
              refine ⟨hLn, fun i hi => ?_⟩
              have := (fnd_any (slen k) 0).1 hF i (Nat.zero_le _) (by omega)
              simpa using this
            rw [decide_eq_true this]; rfl
          | some x =>
            obtain ⟨x1, x2, -⟩ := fnd_some hF
            have : ¬ (e - b = slen k ∧ ∀ i, i < e - b → y (b + i) = sCh k i) := fun w => by
              have := w.2 x (by omega)
              simp [this] at x2
            rw [decide_eq_false this]; rfl
        · intro kk i a _ hi ea hp
          subst ea
          refine ⟨_, ?_, rfl⟩
          show fX4_isWord_28b k kk (nI i) a = _
          unfold fX4_isWord_28b
          rw [eln, if_neg (nI_ge hi (by omega)), t3, nI_add, ixg_nI (show b + i < 120 by omega) (by decide), ixg_nI (show i < sLen.getD k 0 from hi) (Nat.lt_of_le_of_lt hs12 (by decide)), z3, if_neg (by simpa using hp)]
        · intro kk i a _ hi ea hp
          subst ea
          refine ⟨a, rfl, ?_⟩
          show fX4_isWord_28b k kk (nI i) a = _
          unfold fX4_isWord_28b
          rw [eln, if_neg (nI_ge hi (by omega)), t3, nI_add, ixg_nI (show b + i < 120 by omega) (by decide), ixg_nI (show i < sLen.getD k 0 from hi) (Nat.lt_of_le_of_lt hs12 (by decide)), z3, if_pos (by simpa using hp), vl_eq, ← nI_succ]
        · intro kk i a h1 _ ea
          subst ea
          refine ⟨_, ?_, rfl⟩
          show fX4_isWord_28b k kk (nI i) a = _
          unfold fX4_isWord_28b
          rw [eln, if_pos (nI_le h1 (by omega))]
      · rw [if_neg (fun w => hLn ((nI_eq (by omega) (by omega)).mp w)), decide_eq_false (fun w => hLn w.1)]; rfl
    · unfold fX6_isWord
      rw [if_pos c2, c3]
      by_cases w : e - b = slen k ∧ ∀ i, i < e - b → y (b + i) = sCh k i
      · rw [if_pos (by rw [lg, we]; exact w), decide_eq_true w]; rfl
      · rw [if_neg (by rw [lg, we]; exact w), decide_eq_false w]; rfl
  · exact non (by rw [c1]; decide) (by rw [c2]; decide)
  · exact non (by rw [c1]; decide) (by rw [c2]; decide)
  · exact non (by rw [c1]; decide) (by rw [c2]; decide)
