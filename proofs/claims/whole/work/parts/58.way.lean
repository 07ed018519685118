/-! ===== the way: the reference finds it; both ===== -/
def H0 (n m : Nat) (r : Co) (K : Nat) (mc ma : Nat → Nat) (x : Nat) : Bool := decide (x = 0) || HH n m r K mc ma x
theorem m_findWay {n m K : Nat} {mc ma : Nat → Nat} {r : Co} {t0 t : SM} (ok : Ok n m r) (hM : Mvs n K mc ma) (hK : K ≤ 8) (h : Wt n m K mc ma r t0 t) : ∃ t', fX6_findWay t = some ((), t') ∧ Wt n m K mc ma r t0 t' ∧ ∀ x, x < 2 ^ K → EQ K (H0 n m r K mc ma) (gM t' 14) x := by
  have h256 : 2 ^ K ≤ 256 := Nat.pow_le_pow_right (by decide) hK
  have p2 := Nat.two_pow_pos K
  have key : ∀ (d F : Nat) (a : SM), d ≤ 2 ^ K → d < F → Wt n m K mc ma r t0 a → (∀ x, 0 ≤ x → d ≤ x → x < 2 ^ K → EQ K (H0 n m r K mc ma) (gM a 14) x) → ∃ a', lp (fun _ _ _ => none) fX6_findWay_11b F (nI (2 ^ K - 1)) (nI d + (-1)) a = some ((), a') ∧ Wt n m K mc ma r t0 a' ∧ ∀ x, x < 2 ^ K → EQ K (H0 n m r K mc ma) (gM a' 14) x := by
    intro d
    induction d with
    | zero =>
      intro F a h1 h2 q1 q2
      obtain ⟨F, rfl⟩ : ∃ G, F = G + 1 := ⟨F - 1, by omega⟩
      refine ⟨a, ?_, q1, fun x hx => q2 x (Nat.zero_le _) (Nat.zero_le _) hx⟩
      show fX6_findWay_11b (lp _ _ F) _ (nI 0 + (-1)) a = _
      generalize lp _ fX6_findWay_11b F = kk
      unfold fX6_findWay_11b
      rw [if_pos (show nI 0 + (-1) < 0 by decide)]
    | succ d ih =>
      intro F a h1 h2 q1 q2
      obtain ⟨F, rfl⟩ : ∃ G, F = G + 1 := ⟨F - 1, by omega⟩
      have ih2 := ih F
      rw [nI_dec]
      show ∃ a', fX6_findWay_11b (lp _ _ F) (nI (2 ^ K - 1)) (nI d) a = _ ∧ _
      generalize lp _ fX6_findWay_11b F = kk at ih2 ⊢
      have go : ∀ (b : SM) (v : Bool), Wt n m K mc ma r t0 b → gM b 14 = gM a 14 → v = ((decide (d = 2 ^ K - 1) || anyN K (pS (gM a 14) d)) && H0 n m r K mc ma d) → ∃ a', fX6_findWay_103 kk (nI (2 ^ K - 1)) (nI d) (nI d) (b2i v) b = some ((), a') ∧ Wt n m K mc ma r t0 a' ∧ ∀ x, x < 2 ^ K → EQ K (H0 n m r K mc ma) (gM a' 14) x := by
        intro b v wb eb hv
        have u3 : gM (wM b 14 d (b2i v)) 14 = upd (gM a 14) d (b2i v) := by
          funext k
          rw [gM_wM, if_pos rfl, eb]
          rfl
        unfold fX6_findWay_103
        rw [gd_pos (b2i_b v), ixg_nI (show d < 256 by omega) (by decide), vl_eq, vl_eq]
        refine ih2 (wM b 14 d (b2i v)) (by omega) (by omega) wb.w14 ?_
        rw [u3]
        exact EQ_upd (lo := 0) (fun x h0 h1 h2 => q2 x h0 h1 h2) (by rw [hv])
      have all : ∃ a', fX6_findWay_29 kk 400 (nI (2 ^ K - 1)) (nI d) (b2i (decide (d = 2 ^ K - 1))) 0 a = some ((), a') ∧ Wt n m K mc ma r t0 a' ∧ ∀ x, x < 2 ^ K → EQ K (H0 n m r K mc ma) (gM a' 14) x := by
        rw [m_fw29 kk hK (by omega) q1]
        unfold fX6_findWay_98 fX6_findWay_102
        cases hT : (decide (d = 2 ^ K - 1) || anyN K (pS (gM a 14) d)) with
        | false => rw [if_neg (by decide)]; exact go a false q1 rfl (by rw [hT]; rfl)
        | true =>
          rw [if_pos rfl]
          by_cases d0 : d = 0
          · rw [if_pos (show nI d = 0 by rw [d0]; rfl)]
            exact go a true q1 rfl (by rw [hT]; simp [H0, d0])
          · rw [if_neg (nI_ne0 (by omega) (by omega))]
            obtain ⟨b, k1, k2, k3⟩ := m_holdsWith (mask := d) ok hM hK q1
            have gg := go b (HH n m r K mc ma d) k2 k3 (by rw [hT]; simp [H0, d0])
            rw [k1, bd_one]
            cases hH : HH n m r K mc ma d with
            | true => rw [hH] at gg; rw [if_neg (show ¬ b2i true = 0 by decide)]; exact gg
            | false => rw [hH] at gg; rw [if_pos (show b2i false = 0 by decide)]; exact gg
      unfold fX6_findWay_11b fX6_findWay_25
      rw [if_neg (nI_pos (by omega))]
      by_cases hf : d = 2 ^ K - 1
      · rw [if_pos (show nI d = nI (2 ^ K - 1) by rw [hf]), vl_eq, vl_eq]
        have : b2i (decide (d = 2 ^ K - 1)) = 1 := by simp [hf, b2i]
        rw [this] at all
        exact all
      · rw [if_neg (fun w => hf ((nI_eq (by omega) (by omega)).mp w)), vl_eq, vl_eq]
        have : b2i (decide (d = 2 ^ K - 1)) = 0 := by simp [hf, b2i]
        rw [this] at all
        exact all
  have := key (2 ^ K) 400 t (Nat.le_refl _) (by omega) h (fun x _ h1 h2 => by omega)
  have ed : nI (2 ^ K) + (-1) = nI (2 ^ K - 1) := by
    have := nI_dec (2 ^ K - 1)
    rwa [show 2 ^ K - 1 + 1 = 2 ^ K by omega] at this
  rw [ed] at this
  unfold fX6_findWay fX6_findWay_11
  rw [vl_eq, vl_eq, h.2.2.1, full_nI hK]
  exact this
theorem m_step {n m K mask j : Nat} {mc ma : Nat → Nat} {r : Co} {t0 t : SM} (hK : K ≤ 8) (h : Wt n m K mc ma r t0 t) (hm : mask < 2 ^ K) (hj : fnd (pS (gM t 14) mask) 0 K = some j) (k7 : Tm Int32 4) (l1 l4 : Int32) : fX6_movedAs_16 k7 400 l1 (nI mask) l4 0 t = k7 l1 (nI (mask ||| 2 ^ j)) (nI (mc j)) (l4 + 1) t := by
  have h256 : 2 ^ K ≤ 256 := Nat.pow_le_pow_right (by decide) hK
  obtain ⟨j1, j2, j3⟩ := fnd_some hj
  unfold fX6_movedAs_16
  have key := lp_to (bot := fun _ _ _ _ _ => none) (body := fX6_movedAs_16b k7) (F := 400) (ap := fun (k : Tm Int32 4) i (a : SM) => k l1 (nI mask) l4 (nI i) a) j (fun _ a => a = t) (fun a => k7 l1 (nI (mask ||| 2 ^ j)) (nI (mc j)) (l4 + 1) a) ?_ ?_ t rfl (by omega)
  · obtain ⟨a, k1, k2⟩ := key
    rw [k1] at k2
    exact k2
  · intro k i a hi ea
    subst ea
    have lt := or_lt hm (show i < K by omega)
    refine ⟨a, ?_, rfl⟩
    have := j3 i hi
    unfold pS at this
    show fX6_movedAs_16b k7 k l1 (nI mask) l4 (nI i) a = _
    unfold fX6_movedAs_16b fX6_movedAs_39
    rw [m_has (show i < 32 by omega), bd_one, bit_m (by omega), or_bt (by omega), ixg_nI (show mask ||| 2 ^ i < 256 by omega) (by decide), vl_eq, ← nI_succ]
    cases hb : mask.testBit i with
    | true => rw [if_neg (show ¬ b2i true = 0 by decide)]
    | false =>
      rw [hb] at this
      simp only [Bool.not_false, Bool.true_and, Bool.not_eq_false', decide_eq_true_eq] at this
      rw [if_pos (show b2i false = 0 by decide), if_pos this]
  · intro k a ea
    subst ea
    have lt := or_lt hm j1
    unfold pS at j2
    simp only [Bool.and_eq_true, Bool.not_eq_true', decide_eq_false_iff_not] at j2
    show fX6_movedAs_16b k7 k l1 (nI mask) l4 (nI j) a = _
    unfold fX6_movedAs_16b
    rw [m_has (show j < 32 by omega), bd_one, bit_m (by omega), or_bt (by omega), ixg_nI (show mask ||| 2 ^ j < 256 by omega) (by decide), j2.1, if_pos (show b2i false = 0 by decide), if_neg j2.2, vl_eq, ixg_nI (show j < 8 by omega) (by decide), vl_eq, vl_eq, (h.2.2.2 j j1).1]
theorem m_movedAs {n m K e : Nat} {H : Nat → Bool} {mc ma : Nat → Nat} {r : Co} {t0 t : SM} (hK : K ≤ 8) (h : Wt n m K mc ma r t0 t) (hE : ∀ x, 1 ≤ x → x < 2 ^ K → EQ K H (gM t 14) x) (hG : 0 < K → anyN K (pS (gM t 14) 0) = true) (he : e < K) : fX6_movedAs (nI e) t = some (nI (mc (sj (gM t 14) K e)), t) := by
  have path := way_path hE hG
  unfold fX6_movedAs fX6_movedAs_7
  rw [vl_eq, vl_eq, vl_eq]
  have key := lp_inv (bot := fun _ _ _ _ _ => none) (body := fX6_movedAs_7b) (F := 400) (ap := fun (k : Tm Int32 4) i (l3 : Int32) => k (nI e) (nI (pm (gM t 14) K i)) l3 (nI i) t) (e + 1) (fun i l3 => 0 < i → l3 = nI (mc (sj (gM t 14) K (i - 1)))) (fun b => b = (nI (mc (sj (gM t 14) K e)), t)) ?_ ?_ 0 (fun w => absurd w (Nat.lt_irrefl 0)) (by omega)
  · obtain ⟨b, k1, k2⟩ := key
    rw [k2] at k1
    exact k1
  · intro k i l3 hi hP
    obtain ⟨f1, f2⟩ := (path i (by omega)).2 (by omega)
    refine ⟨nI (mc (sj (gM t 14) K i)), ?_, fun _ => rfl⟩
    have es : pm (gM t 14) K (i + 1) = pm (gM t 14) K i ||| 2 ^ sj (gM t 14) K i := by rw [pm_s, f1]
    show fX6_movedAs_7b k (nI e) (nI (pm (gM t 14) K i)) l3 (nI i) t = _
    unfold fX6_movedAs_7b
    rw [if_neg (Int32.not_lt.mpr (nI_le (show i ≤ e by omega) (by omega))), vl_eq, m_step hK h (pm_lt i) f1, ← es, ← nI_succ]
  · intro k l3 hP
    refine ⟨_, ?_, rfl⟩
    show fX6_movedAs_7b k (nI e) (nI (pm (gM t 14) K (e + 1))) l3 (nI (e + 1)) t = _
    unfold fX6_movedAs_7b
    rw [if_pos (Int32.not_le.mp (nI_ge (show e < e + 1 by omega) (by omega))), hP (by omega)]
    rfl
theorem fnd_congr {p q : Nat → Bool} : ∀ d c, (∀ j, c ≤ j → j < c + d → p j = q j) → fnd p c d = fnd q c d := by
  intro d
  induction d with
  | zero => intro c _; rfl
  | succ d ih =>
    intro c h
    unfold fnd
    rw [h c (Nat.le_refl c) (by omega), ih (c + 1) (fun j h1 h2 => h j (by omega) (by omega))]
theorem pm_congr {a b : Nat → Int32} {K : Nat} (h : ∀ x i, x < 2 ^ K → i < K → pS a x i = pS b x i) : ∀ i, pm a K i = pm b K i := by
  intro i
  induction i with
  | zero => rfl
  | succ i ih => rw [pm_s, pm_s, ih, fnd_congr K 0 (fun j _ hj => h _ j (pm_lt i) (by omega))]
theorem sj_congr {a b : Nat → Int32} {K : Nat} (h : ∀ x i, x < 2 ^ K → i < K → pS a x i = pS b x i) (i : Nat) : sj a K i = sj b K i := by
  unfold sj
  rw [pm_congr h, fnd_congr K 0 (fun j _ hj => h _ j (pm_lt i) (by omega))]
theorem y_eq {Y : Int64} {x : Int32} (h1 : ¬ Y < 0) (h2 : ¬ (5 : Int64) < Y) (hx : rng x 6) : (lg_cmp Y (Int32.toInt64 x) = 0) = (Int64.toInt32 Y = x) := by
  obtain ⟨k, hk, rfl⟩ := hx
  have e5 : (5 : Int64).toInt = 5 := by decide
  rw [Int64.lt_iff_toInt_lt, Int64.toInt_zero] at h1
  rw [Int64.lt_iff_toInt_lt, e5] at h2
  have key : ∀ q : Nat, q < 6 → ∀ k : Nat, k < 6 → ((lg_cmp (Int64.ofInt (q : Int)) (Int32.toInt64 (nI k)) = 0) ↔ (Int64.toInt32 (Int64.ofInt (q : Int)) = nI k)) := by decide
  have := key Y.toInt.toNat (by omega) k hk
  rw [Int.toNat_of_nonneg (by omega), Int64.ofInt_toInt] at this
  exact propext this
def Dd (r : Co) (Y : Nat → Int64) (k : Nat) : Bool := anyN (MS r Y k).1 (fun i => dead r ((MS r Y k).2.1 i))
theorem Dd_s {r : Co} {Y : Nat → Int64} {k : Nat} (h : isMv r Y k = true) : Dd r Y (k + 1) = (Dd r Y k || dead r k) := by
  unfold Dd
  rw [MS_s, if_pos h]
  show (anyN (MS r Y k).1 _ || _) = _
  have e1 : anyN (MS r Y k).1 (fun i => dead r (if i = (MS r Y k).1 then k else (MS r Y k).2.1 i)) = anyN (MS r Y k).1 (fun i => dead r ((MS r Y k).2.1 i)) := anyN_congr (fun i hi => by rw [if_neg (by omega)])
  show (anyN (MS r Y k).1 (fun i => dead r (if i = (MS r Y k).1 then k else (MS r Y k).2.1 i)) || dead r (if (MS r Y k).1 = (MS r Y k).1 then k else (MS r Y k).2.1 (MS r Y k).1)) = _
  rw [e1, if_pos rfl]
theorem m_way55 {n m q w u : Nat} {r : Co} {t : SM} (rl : Rl 0 n m r t) (ok : Ok n m r) (hq : q < 4) (hw : w < 41) (a4 : gM t 17 q = nI w) (un : u ≤ n) (uw : u ≤ w) (ue : u = n ∨ u = w) (l2 : Int32) (Y : Nat → Int64) (hY : ∀ k, k < 40 → gN t 18 (40 * q + k) = Y k) : ∃ t', (Rl 0 n m r t' ∧ Mo t t' ∧ ∀ i, i < (MS r Y u).1 → i < 8 → gM t' 12 i = nI ((MS r Y u).2.1 i) ∧ gM t' 13 i = nI ((MS r Y u).2.2 i)) ∧ fX6_way_55 400 (nI q) l2 0 0 0 t = fX6_way_171 l2 (nI (MS r Y u).1) (b2i (Dd r Y u)) t' := by
  have hn := ok.1
  unfold fX6_way_55
  refine lp_to (bot := fun _ _ _ _ _ _ => none) (body := fX6_way_55b) (F := 400) (ap := fun (k : Tm Int32 5) c (a : SM) => k (nI q) l2 (nI (MS r Y c).1) (b2i (Dd r Y c)) (nI c) a) u (fun c a => Rl 0 n m r a ∧ Mo t a ∧ ∀ i, i < (MS r Y c).1 → i < 8 → gM a 12 i = nI ((MS r Y c).2.1 i) ∧ gM a 13 i = nI ((MS r Y c).2.2 i)) (fun a => fX6_way_171 l2 (nI (MS r Y u).1) (b2i (Dd r Y u)) a) ?_ ?_ t ⟨rl, Mo.rfl', fun i hi => absurd hi (Nat.not_lt_zero i)⟩ (by omega)
  · intro k c a hc ⟨q1, q2, q3⟩
    have e17 : gM a 17 q = nI w := by rw [q2.2.2.2.2.2.2.1]; exact a4
    have e18 : gN a 18 (40 * q + c) = Y c := by rw [q2.2.2.2.2.2.2.2]; exact hY c (by omega)
    have g1 : ¬ nI n ≤ nI c := nI_ge (by omega) (by omega)
    have g2 : ¬ nI w ≤ nI c := nI_ge (by omega) (by omega)
    have hK := (MS_ok (r := r) (Y := Y) c).1
    have lz : (lg_cmp (Y c) 0 < 0) = (Y c < 0) := lg_neg _ 0
    have l5 : (0 < lg_cmp (Y c) 5) = ((5 : Int64) < Y c) := lg_pos _ 5
    have hr := (ok.2.2.2.2.1 c (by omega)).2.2.1
    show ∃ a', fX6_way_55b k (nI q) l2 (nI (MS r Y c).1) (b2i (Dd r Y c)) (nI c) a = _ ∧ _
    have open1 : fX6_way_55b k (nI q) l2 (nI (MS r Y c).1) (b2i (Dd r Y c)) (nI c) a = if lg_cmp (Y c) 0 < 0 then fX6_way_165 k (nI q) l2 (nI (MS r Y c).1) (b2i (Dd r Y c)) (nI c) a else if 0 < lg_cmp (Y c) 5 then fX6_way_165 k (nI q) l2 (nI (MS r Y c).1) (b2i (Dd r Y c)) (nI c) a else if lg_cmp (Y c) (Int32.toInt64 (r 3 c)) = 0 then fX6_way_165 k (nI q) l2 (nI (MS r Y c).1) (b2i (Dd r Y c)) (nI c) a else if 8 ≤ nI (MS r Y c).1 then fX6_way_141 k (nI q) l2 (nI (MS r Y c).1) (b2i (Dd r Y c)) (nI c) a else ixg (nI (MS r Y c).1) 8 fun n20 => vl (wM a 12 n20 (nI c)) fun s21 => ixg (nI (MS r Y c).1) 8 fun n22 => vl (wM s21 13 n22 (Int64.toInt32 (Y c))) fun s23 => fX6_way_141 k (nI q) l2 (nI (MS r Y c).1) (b2i (Dd r Y c)) (nI c) s23 := by
      unfold fX6_way_55b
      rw [q1.2.2.1, if_neg g1, ixg_nI hq (by decide), e17, if_neg g2, nI_mul40 hq (show c < 40 by omega), ixg_nI (show 40 * q + c < 160 by omega) (by decide), vl_eq, e18, m_holder q1 hn (show c < n by omega), bd_one]
    rw [open1]
    have skip : isMv r Y c = false → ∃ a', fX6_way_165 k (nI q) l2 (nI (MS r Y c).1) (b2i (Dd r Y c)) (nI c) a = k (nI q) l2 (nI (MS r Y (c + 1)).1) (b2i (Dd r Y (c + 1))) (nI (c + 1)) a' ∧ Rl 0 n m r a' ∧ Mo t a' ∧ ∀ i, i < (MS r Y (c + 1)).1 → i < 8 → gM a' 12 i = nI ((MS r Y (c + 1)).2.1 i) ∧ gM a' 13 i = nI ((MS r Y (c + 1)).2.2 i) := by
      intro hf
      have e : MS r Y (c + 1) = MS r Y c := by rw [MS_s, hf, if_neg (by decide)]
      have e2 : Dd r Y (c + 1) = Dd r Y c := by unfold Dd; rw [e]
      rw [e, e2]
      refine ⟨a, ?_, q1, q2, q3⟩
      unfold fX6_way_165
      rw [vl_eq, ← nI_succ]
    by_cases m1 : Y c < 0
    · rw [if_pos (by rw [lz]; exact m1)]
      exact skip (by unfold isMv; simp [m1])
    rw [if_neg (by rw [lz]; exact m1)]
    by_cases m2 : (5 : Int64) < Y c
    · rw [if_pos (by rw [l5]; exact m2)]
      exact skip (by unfold isMv; simp [m2])
    rw [if_neg (by rw [l5]; exact m2)]
    have le := y_eq m1 m2 hr
    by_cases m3 : Int64.toInt32 (Y c) = r 3 c
    · rw [if_pos (by rw [le]; exact m3)]
      exact skip (by unfold isMv; simp [m3])
    rw [if_neg (by rw [le]; exact m3)]
    have hmv : isMv r Y c = true := by unfold isMv; simp [m1, m2, m3]
    obtain ⟨-, -, -, z, hz, ez⟩ := isMv_q hmv
    have e1 : (MS r Y (c + 1)).1 = (MS r Y c).1 + 1 := by rw [MS_s, if_pos hmv]
    have eD := Dd_s hmv
    have f141 : ∀ b : SM, Rl 0 n m r b → fX6_way_141 k (nI q) l2 (nI (MS r Y c).1) (b2i (Dd r Y c)) (nI c) b = k (nI q) l2 (nI (MS r Y (c + 1)).1) (b2i (Dd r Y (c + 1))) (nI (c + 1)) b := by
      intro b rb
      unfold fX6_way_141 fX6_way_158 fX6_way_163 fX6_way_165
      simp only [vl_eq, ← nI_succ]
      rw [e1, eD, m_lives rb hn (show c < n by omega), bd_one]
      cases Dd r Y c with
      | true => rw [if_neg (show ¬ b2i true = 0 by decide)]; rfl
      | false =>
        rw [if_pos (show b2i false = 0 by decide)]
        cases dead r c with
        | true => rw [if_pos (show b2i (!true) = 0 by decide)]; rfl
        | false => rw [if_neg (show ¬ b2i (!false) = 0 by decide)]; rfl
    have m21 : ∀ i, (MS r Y (c + 1)).2.1 i = if i = (MS r Y c).1 then c else (MS r Y c).2.1 i := fun i => by rw [MS_s, if_pos hmv]
    have m22 : ∀ i, (MS r Y (c + 1)).2.2 i = if i = (MS r Y c).1 then z else (MS r Y c).2.2 i := fun i => by
      rw [MS_s, if_pos hmv, ez, kg_nI (by omega)]
    by_cases h8 : 8 ≤ (MS r Y c).1
    · rw [if_pos (show (8 : Int32) ≤ nI (MS r Y c).1 from nI_le (a := 8) h8 (by omega)), f141 a q1]
      refine ⟨a, rfl, q1, q2, fun i hi h => ?_⟩
      rw [m21, m22, if_neg (by omega), if_neg (by omega)]
      exact q3 i (by omega) h
    · rw [if_neg (show ¬ (8 : Int32) ≤ nI (MS r Y c).1 from nI_ge (b := 8) (by omega) (by omega)), ixg_nI (show (MS r Y c).1 < 8 by omega) (by decide), vl_eq, ixg_nI (show (MS r Y c).1 < 8 by omega) (by decide), vl_eq, ez]
      have g : ∀ b, b ≠ 12 → b ≠ 13 → gM (wM (wM a 12 (MS r Y c).1 (nI c)) 13 (MS r Y c).1 (nI z)) b = gM a b := fun b h1 h2 => by
        funext j; rw [gM_wM, if_neg h2, gM_wM, if_neg h1]
      have rb : Rl 0 n m r (wM (wM a 12 (MS r Y c).1 (nI c)) 13 (MS r Y c).1 (nI z)) := q1.q ⟨fun b h1 h2 => g b (by omega) (by omega), by rw [g 0 (by decide) (by decide)], by rw [g 0 (by decide) (by decide)], by rw [g 0 (by decide) (by decide)]⟩
      rw [f141 _ rb]
      refine ⟨_, rfl, rb, q2.trans ⟨rfl, rfl, rfl, rfl, rfl, rfl, rfl, rfl⟩, fun i hi h => ?_⟩
      rw [m21, m22, gM_wM, if_neg (by decide), gM_wM, if_pos rfl, gM_wM, if_pos rfl]
      by_cases e : i = (MS r Y c).1
      · rw [if_pos e, if_pos e, if_pos e, if_pos e]; exact ⟨rfl, rfl⟩
      · rw [if_neg e, if_neg e, if_neg e, if_neg e, gM_wM, if_neg (by decide)]; exact q3 i (by omega) h
  · intro k a ⟨q1, q2, q3⟩
    have e17 : gM a 17 q = nI w := by rw [q2.2.2.2.2.2.2.1]; exact a4
    show fX6_way_55b k (nI q) l2 (nI (MS r Y u).1) (b2i (Dd r Y u)) (nI u) a = _
    unfold fX6_way_55b
    rw [q1.2.2.1, ixg_nI hq (by decide), e17]
    by_cases c : nI n ≤ nI u
    · rw [if_pos c]
    · have c4 : ¬ n ≤ u := fun c5 => c (nI_le c5 (by omega))
      rw [if_neg c, if_pos (nI_le (show w ≤ u by omega) (by omega))]
