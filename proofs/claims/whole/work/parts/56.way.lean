/-! ===== the way: the class finds it ===== -/
def C4 (K : Nat) (mc : Nat → Nat) (r : Co) (s : SX) : Prop := (∀ j, j ≠ 3 → co s 4 j = r j) ∧ ∀ c, (∀ i, i < K → mc i ≠ c) → co s 4 3 c = r 3 c
theorem c4_cl {n K : Nat} {mc ma : Nat → Nat} {r : Co} {s : SX} (h : C4 K mc r s) (hM : Mvs n K mc ma) (hn : n ≤ 14) (cl : Cl r) : Cl (co s 4) := by
  intro j k hjk
  by_cases e : j = 3
  · subst e
    rw [h.2 k (fun i hi w => hjk (Or.inl ⟨by decide, by have := (hM.1 i hi).1; show k < 14; omega⟩))]
    exact cl 3 k hjk
  · rw [h.1 j e]; exact cl j k hjk
theorem c4_fr {K : Nat} {mc : Nat → Nat} {r : Co} {s s' : SX} (h : C4 K mc r s) (e : gX s' 4 = gX s 4) : C4 K mc r s' := by
  have : co s' 4 = co s 4 := by unfold co; rw [e]
  unfold C4; rw [this]; exact h
theorem x_holdsAt {s : SX} {n m K mask : Nat} {mc ma : Nat → Nat} {r : Co} (ok : Ok n m r) (e0 : co s 0 = r) (hM : Mvs n K mc ma) (rt : Rt K mc ma s) (c4 : C4 K mc r s) (hK : K ≤ 8) : ∃ s', fX2_holdsAt (nI mask) s = some (b2i (HH n m r K mc ma mask), s') ∧ Fr 4 s s' ∧ C4 K mc r s' := by
  have hn := ok.1
  unfold fX2_holdsAt fX2_holdsAt_2
  rw [vl_eq]
  have key := lp_inv (bot := fun _ _ _ => none) (body := fX2_holdsAt_2b) (F := 400) (ap := fun (k : Tx Int32 2) i (a : SX) => k (nI mask) (nI i) a) K (fun i a => Fr 4 s a ∧ C4 K mc r a ∧ ∀ j, j < i → co a 4 3 (mc j) = MVk r mc ma mask K 3 (mc j)) (fun b => b.1 = b2i (HH n m r K mc ma mask) ∧ Fr 4 s b.2 ∧ C4 K mc r b.2) ?_ ?_ s ⟨Fr.rfl', c4, fun j hj => absurd hj (Nat.not_lt_zero j)⟩ (by omega)
  · obtain ⟨⟨v, s'⟩, k1, k2, k3, k4⟩ := key
    have k2 : v = b2i (HH n m r K mc ma mask) := k2
    rw [k2] at k1
    exact ⟨s', k1, k3, k4⟩
  · intro k i a hi ⟨q1, q2, q3⟩
    have rta : Rt K mc ma a := rt.fr (q1.1 7 (by decide))
    have hc := (hM.1 i hi).1
    have e3 : gX a 0 3 (mc i) = r 3 (mc i) := by rw [q1.1 0 (by decide), ← e0]; rfl
    have mv := MVk_i (r := r) hM (mask := mask) (i := i) K (Nat.le_refl K) hi
    refine ⟨wX a 4 3 (mc i) (MVk r mc ma mask K 3 (mc i)), ?_, q1.trans Fr.wX, ⟨fun j hj => ?_, fun c hc2 => ?_⟩, fun j hj => ?_⟩
    · show fX2_holdsAt_2b k (nI mask) (nI i) a = _
      unfold fX2_holdsAt_2b fX2_holdsAt_51
      rw [rta.1, if_neg (nI_ge hi (by omega)), ixg_nI (show i < 14 by omega) (by decide), vl_eq, (rta.2 i hi).1, ixg_nI (show mc i < 14 by omega) (by decide), ixg_nI (show i < 14 by omega) (by decide), ixg_nI (show mc i < 14 by omega) (by decide), ixg_nI (show mc i < 14 by omega) (by decide), (rta.2 i hi).2, e3, mv, vl_eq, vl_eq, vl_eq, vl_eq, ← nI_succ]
      cases hb : mask.testBit i with
      | true => rw [if_neg (by rw [bit_code (by omega), bit_m (by omega), hb]; decide), if_pos rfl]
      | false => rw [if_pos (by rw [bit_code (by omega), bit_m (by omega)]; exact hb), if_neg (by decide)]
    · rw [co_wj (by decide)]; unfold crw; rw [if_neg hj]; exact q2.1 j hj
    · rw [co_wj (by decide), crw3_3 (fun w => hc2 i hi w.symm)]; exact q2.2 c hc2
    · rw [co_wj (by decide)]
      by_cases e : j = i
      · subst e
        show upd _ (mc j) _ (mc j) = _
        unfold upd; rw [if_pos rfl]
      · rw [crw3_3 (fun w => e (hM.ne (by omega) hi w))]; exact q3 j (by omega)
  · intro k a ⟨q1, q2, q3⟩
    have rta : Rt K mc ma a := rt.fr (q1.1 7 (by decide))
    have e4 : co a 4 = MVk r mc ma mask K := by
      funext j c
      by_cases e : j = 3
      · subst e
        by_cases hx : ∃ i, i < K ∧ mc i = c
        · obtain ⟨i, hi, rfl⟩ := hx
          exact q3 i hi
        · have hx : ∀ i, i < K → mc i ≠ c := fun i hi w => hx ⟨i, hi, w⟩
          rw [q2.2 c hx, MVk_o K hx]
      · rw [q2.1 j e, MVk_j e K]
    obtain ⟨f, l1⟩ := x_looseWords (i := 4) (s := a) (n := n) (m := m) (by rw [e4]; exact MVk_ok hM ok mask K (Nat.le_refl K))
    rw [e4] at l1
    refine ⟨(b2i (HH n m r K mc ma mask), rX a 4 9 f), ?_, rfl, q1.trans Fr.rX, ?_⟩
    · show fX2_holdsAt_2b k (nI mask) (nI K) a = _
      unfold fX2_holdsAt_2b HH
      rw [rta.1, if_pos (nI_le (Nat.le_refl K) (by omega)), l1, bd_one]
      by_cases hL : LW n m (MVk r mc ma mask K) = 0
      · rw [if_pos hL]; simp [hL, b2i]
      · rw [if_neg hL]; simp [hL, b2i]
    · unfold C4; rw [co_9]; exact q2
theorem pS_upd {a : Nat → Int32} {d x i : Nat} {v : Int32} (h : d ≤ x) : pS (upd a d v) x i = pS a x i := by
  unfold pS
  cases ht : x.testBit i with
  | true => rfl
  | false =>
    have := or_gt ht
    unfold upd
    rw [if_neg (by omega)]
theorem EQ_upd {K lo d : Nat} {H : Nat → Bool} {a : Nat → Int32} {v : Int32} (h : ∀ x, lo ≤ x → d + 1 ≤ x → x < 2 ^ K → EQ K H a x) (hv : v = b2i ((decide (d = 2 ^ K - 1) || anyN K (pS a d)) && H d)) : ∀ x, lo ≤ x → d ≤ x → x < 2 ^ K → EQ K H (upd a d v) x := by
  intro x h0 h1 h2
  unfold EQ
  have e : anyN K (pS (upd a d v) x) = anyN K (pS a x) := anyN_congr (fun i _ => pS_upd h1)
  rw [e]
  by_cases hx : x = d
  · subst hx
    show upd a x v x = _
    unfold upd; rw [if_pos rfl]; exact hv
  · show upd a d v x = _
    unfold upd; rw [if_neg hx]; exact h x h0 (by omega) h2
theorem full_nI {K : Nat} (hK : K ≤ 8) : ((1 : Int32) <<< (nI K &&& 31)) - 1 = nI (2 ^ K - 1) := by
  have : ∀ K : Nat, K < 9 → ((1 : Int32) <<< (nI K &&& 31)) - 1 = nI (2 ^ K - 1) := by decide
  exact this K (by omega)
theorem nI_dec (d : Nat) : nI (d + 1) + (-1) = nI d := by
  have := nI_s1 d
  rw [Int32.sub_eq_add_neg] at this
  exact this
def pm (a : Nat → Int32) (K : Nat) (i : Nat) : Nat := it (fun _ x => match fnd (pS a x) 0 K with
  | some j => x ||| 2 ^ j
  | none => x) i 0
def sj (a : Nat → Int32) (K i : Nat) : Nat := (fnd (pS a (pm a K i)) 0 K).getD 0
theorem pm_s {a : Nat → Int32} {K i : Nat} : pm a K (i + 1) = match fnd (pS a (pm a K i)) 0 K with
  | some j => pm a K i ||| 2 ^ j
  | none => pm a K i := rfl
theorem pm_lt {a : Nat → Int32} {K : Nat} : ∀ i, pm a K i < 2 ^ K := by
  intro i
  induction i with
  | zero => exact Nat.two_pow_pos K
  | succ i ih =>
    rw [pm_s]
    cases h : fnd (pS a (pm a K i)) 0 K with
    | none => exact ih
    | some j => exact or_lt ih (fnd_some h).1
def cb (K mask : Nat) : Nat := it (fun k a => if mask.testBit k = true then a + 1 else a) K 0
theorem cb_s {K mask : Nat} : cb (K + 1) mask = if mask.testBit K = true then cb K mask + 1 else cb K mask := rfl
theorem cb_or {mask j : Nat} (h : mask.testBit j = false) : ∀ K, cb K (mask ||| 2 ^ j) = if j < K then cb K mask + 1 else cb K mask := by
  intro K
  induction K with
  | zero => rfl
  | succ K ih =>
    rw [cb_s, cb_s, ih, Nat.testBit_or, Nat.testBit_two_pow]
    by_cases e : j = K
    · subst e
      simp [h]
    · by_cases l : j < K
      · have : j < K + 1 := by omega
        simp [e, l, this]
        split <;> omega
      · have : ¬ j < K + 1 := by omega
        simp [e, l, this]
theorem cb_full {N : Nat} : ∀ K, K ≤ N → cb K (2 ^ N - 1) = K := by
  intro K
  induction K with
  | zero => intro _; rfl
  | succ K ih =>
    intro h
    rw [cb_s, ih (by omega), Nat.testBit_two_pow_sub_one]
    have : decide (K < N) = true := by simp; omega
    rw [if_pos this]
theorem cb_0 : ∀ K, cb K 0 = 0 := by
  intro K
  induction K with
  | zero => rfl
  | succ K ih => rw [cb_s, ih, Nat.zero_testBit]; rfl
theorem way_path {K : Nat} {H : Nat → Bool} {a : Nat → Int32} (hE : ∀ x, 1 ≤ x → x < 2 ^ K → EQ K H a x) (hG : 0 < K → anyN K (pS a 0) = true) : ∀ i, i ≤ K → cb K (pm a K i) = i ∧ (i < K → fnd (pS a (pm a K i)) 0 K = some (sj a K i) ∧ sj a K i < K) := by
  have fin : ∀ i, anyN K (pS a (pm a K i)) = true → fnd (pS a (pm a K i)) 0 K = some (sj a K i) ∧ sj a K i < K := by
    intro i h
    cases hf : fnd (pS a (pm a K i)) 0 K with
    | none => rw [fnd_none hf] at h; cases h
    | some j =>
      have : sj a K i = j := by unfold sj; rw [hf]; rfl
      rw [this]
      exact ⟨rfl, (fnd_some hf).1⟩
  intro i
  induction i with
  | zero => intro _; exact ⟨cb_0 K, fun h => fin 0 (hG h)⟩
  | succ i ih =>
    intro hi
    obtain ⟨c1, c2⟩ := ih (by omega)
    obtain ⟨f1, f2⟩ := c2 (by omega)
    obtain ⟨w1, w2, -⟩ := fnd_some f1
    have e : pm a K (i + 1) = pm a K i ||| 2 ^ sj a K i := by rw [pm_s, f1]
    unfold pS at w2
    simp only [Bool.and_eq_true, Bool.not_eq_true', decide_eq_false_iff_not] at w2
    have cc : cb K (pm a K (i + 1)) = i + 1 := by rw [e, cb_or w2.1 K, if_pos w1, c1]
    refine ⟨cc, fun hl => fin (i + 1) ?_⟩
    have gt := or_gt w2.1
    have lt := pm_lt (a := a) (K := K) (i + 1)
    have hq := hE (pm a K (i + 1)) (by rw [e]; omega) lt
    unfold EQ at hq
    have nz : ¬ a (pm a K (i + 1)) = 0 := by rw [e]; exact w2.2
    cases han : anyN K (pS a (pm a K (i + 1))) with
    | true => rfl
    | false =>
      exfalso
      rw [han, Bool.or_false] at hq
      have nf : pm a K (i + 1) ≠ 2 ^ K - 1 := fun w => by
        rw [w, cb_full K (Nat.le_refl K)] at cc; omega
      apply nz
      rw [hq]
      simp [nf, b2i]
theorem x_find67 {s0 : SX} {n K : Nat} {H : Nat → Bool} {mc ma : Nat → Nat} (hM : Mvs n K mc ma) (hn : n ≤ 14) (rt : Rt K mc ma s0) (hK : K ≤ 8) (hE : ∀ x, 1 ≤ x → x < 2 ^ K → EQ K H (gX s0 7 3) x) : ∃ v s', fX2_find_67 400 0 0 s0 = some (v, s') ∧ Fr 7 s0 s' ∧ gX s' 7 0 5 = nI K ∧ gX s' 7 3 = gX s0 7 3 ∧ ((0 < K → anyN K (pS (gX s0 7 3) 0) = true) → v = 1 ∧ ∀ i, i < K → gX s' 7 4 i = nI (mc (sj (gX s0 7 3) K i))) ∧ (¬ (0 < K → anyN K (pS (gX s0 7 3) 0) = true) → v = 0) := by
  unfold fX2_find_67
  by_cases hG : 0 < K → anyN K (pS (gX s0 7 3) 0) = true
  · have path := way_path hE hG
    have key := lp_inv (bot := fun _ _ _ => none) (body := fX2_find_67b) (F := 400) (ap := fun (k : Tx Int32 2) i (a : SX) => k (nI (pm (gX s0 7 3) K i)) (nI i) a) K (fun i a => Fr 7 s0 a ∧ Rt K mc ma a ∧ gX a 7 3 = gX s0 7 3 ∧ ∀ j, j < i → gX a 7 4 j = nI (mc (sj (gX s0 7 3) K j))) (fun b => b.1 = 1 ∧ Fr 7 s0 b.2 ∧ Rt K mc ma b.2 ∧ gX b.2 7 3 = gX s0 7 3 ∧ ∀ j, j < K → gX b.2 7 4 j = nI (mc (sj (gX s0 7 3) K j))) ?_ ?_ s0 ⟨Fr.rfl', rt, rfl, fun j hj => absurd hj (Nat.not_lt_zero j)⟩ (by omega)
    · obtain ⟨⟨v, s'⟩, k1, k2, k3, k4, k5, k6⟩ := key
      exact ⟨v, s', k1, k3, k4.1, k5, fun _ => ⟨k2, k6⟩, fun w => absurd hG w⟩
    · intro k i a hi ⟨q1, q2, q3, q4⟩
      obtain ⟨-, f1⟩ := path i (by omega)
      obtain ⟨f1, f2⟩ := f1 hi
      have fs := x_firstStep (s := a) (K := K) (mask := pm (gX s0 7 3) K i) q2.1 hK (pm_lt i)
      rw [q3, f1] at fs
      have fs : fX2_firstStep (nI (pm (gX s0 7 3) K i)) a = some (nI (sj (gX s0 7 3) K i), a) := fs
      have e : pm (gX s0 7 3) K (i + 1) = pm (gX s0 7 3) K i ||| 2 ^ sj (gX s0 7 3) K i := by rw [pm_s, f1]
      refine ⟨wX a 7 4 i (nI (mc (sj (gX s0 7 3) K i))), ?_, q1.trans Fr.wX, rt_w q2 (Or.inr rfl), ?_, fun j hj => ?_⟩
      · show fX2_find_67b k (nI (pm (gX s0 7 3) K i)) (nI i) a = _
        unfold fX2_find_67b
        rw [q2.1, if_neg (nI_ge hi (by omega)), fs, bd_one, vl_eq, if_pos (Int32.not_lt.mp (nI_pos (by omega))), ixg_nI (show sj (gX s0 7 3) K i < 14 by omega) (by decide), ixg_nI (show i < 8 by omega) (by decide), vl_eq, vl_eq, vl_eq, (q2.2 _ f2).1, or_bt (by omega), ← e, ← nI_succ]
      · funext k
        rw [gX_wX, if_pos rfl, if_neg (by decide), q3]
      · rw [gX_wX, if_pos rfl, if_pos rfl]
        by_cases ej : j = i
        · rw [if_pos ej, ej]
        · rw [if_neg ej]; exact q4 j (by omega)
    · intro k a ⟨q1, q2, q3, q4⟩
      refine ⟨(1, a), ?_, rfl, q1, q2, q3, q4⟩
      show fX2_find_67b k _ (nI K) a = _
      unfold fX2_find_67b
      rw [q2.1, if_pos (nI_le (Nat.le_refl K) (by omega))]
  · have hK0 : 0 < K := Nat.pos_of_ne_zero (fun w => hG (fun w2 => by omega))
    have hN : anyN K (pS (gX s0 7 3) 0) = false := by
      cases h : anyN K (pS (gX s0 7 3) 0) with
      | false => rfl
      | true => exact absurd (fun _ => h) hG
    have fn : fnd (pS (gX s0 7 3) 0) 0 K = none := by
      cases h : fnd (pS (gX s0 7 3) 0) 0 K with
      | none => rfl
      | some j =>
        obtain ⟨w1, w2, -⟩ := fnd_some h
        rw [anyN_iff.mpr ⟨j, w1, w2⟩] at hN
        cases hN
    have fs := x_firstStep (s := s0) (K := K) (mask := 0) rt.1 hK (Nat.two_pow_pos K)
    rw [fn] at fs
    have fs : fX2_firstStep 0 s0 = some (-1, s0) := fs
    refine ⟨0, s0, ?_, Fr.rfl', rt.1, rfl, fun w => absurd w hG, fun _ => rfl⟩
    show fX2_find_67b (lp _ _ 399) 0 0 s0 = _
    generalize lp _ fX2_find_67b 399 = kk
    unfold fX2_find_67b
    rw [rt.1, if_neg (show ¬ nI K ≤ 0 from nI_ge (a := 0) hK0 (by omega)), fs, bd_one, vl_eq, if_neg (show ¬ (0 : Int32) ≤ -1 by decide)]
