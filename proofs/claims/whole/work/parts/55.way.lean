/-! ===== the way: the class ===== -/
def Fw (s0 s : SX) : Prop := (∀ a, a ≠ 4 → a ≠ 7 → gX s a = gX s0 a) ∧ gL s = gL s0
theorem Fw.rfl' {s : SX} : Fw s s := ⟨fun _ _ _ => rfl, rfl⟩
theorem Fw.trans {s s1 s2 : SX} (h1 : Fw s s1) (h2 : Fw s1 s2) : Fw s s2 := ⟨fun a p q => (h2.1 a p q).trans (h1.1 a p q), h2.2.trans h1.2⟩
theorem Fr.Fw {i : Nat} {s s' : SX} (h : Fr i s s') (hi : i = 4 ∨ i = 7) : Fw s s' := ⟨fun a p q => h.1 a (by omega), h.2⟩
theorem fw_co {s0 s : SX} (h : Fw s0 s) {i : Nat} (h3 : i ≠ 4) (h6 : i ≠ 7) : co s i = co s0 i := by
  unfold co; rw [h.1 i h3 h6]
/-- the route's rows tell these moves -/
def Rt (K : Nat) (mc ma : Nat → Nat) (s : SX) : Prop := gX s 7 0 5 = nI K ∧ ∀ i, i < K → gX s 7 1 i = nI (mc i) ∧ gX s 7 2 i = nI (ma i)
theorem Rt.fr {K : Nat} {mc ma : Nat → Nat} {s s' : SX} (h : Rt K mc ma s) (h7 : gX s' 7 = gX s 7) : Rt K mc ma s' := by
  unfold Rt; rw [h7]; exact h
theorem rt_w {K j k : Nat} {mc ma : Nat → Nat} {s : SX} {x : Int32} (h : Rt K mc ma s) (hj : j = 3 ∨ j = 4) : Rt K mc ma (wX s 7 j k x) := by
  refine ⟨?_, fun i hi => ⟨?_, ?_⟩⟩
  · rw [gX_wX, if_pos rfl, if_neg (by omega)]; exact h.1
  · rw [gX_wX, if_pos rfl, if_neg (by omega)]; exact (h.2 i hi).1
  · rw [gX_wX, if_pos rfl, if_neg (by omega)]; exact (h.2 i hi).2
theorem x_holderAt {s : SX} {q k : Nat} (hk : k < 40) : fX3_holderAt q (nI k) s = some (if gL s q k < 0 then -1 else if (5 : Int64) < gL s q k then -1 else Int64.toInt32 (gL s q k), s) := by
  unfold fX3_holderAt
  rw [ixg_nI hk (by decide), vl_eq]
  have lz : (lg_cmp (gL s q k) 0 < 0) = (gL s q k < 0) := lg_neg _ 0
  have l6 : (0 ≤ lg_cmp (gL s q k) 6) = ((5 : Int64) < gL s q k) := (lg_nneg _ 6).trans i64_56
  by_cases h1 : gL s q k < 0
  · have c : lg_cmp (gL s q k) 0 < 0 := by rw [lz]; exact h1
    rw [if_pos c, if_pos h1]
  · have c : ¬ lg_cmp (gL s q k) 0 < 0 := by rw [lz]; exact h1
    rw [if_neg c, if_neg h1]
    by_cases h2 : (5 : Int64) < gL s q k
    · have c : 0 ≤ lg_cmp (gL s q k) 6 := by rw [l6]; exact h2
      rw [if_pos c, if_pos h2]
    · have c : ¬ 0 ≤ lg_cmp (gL s q k) 6 := by rw [l6]; exact h2
      rw [if_neg c, if_neg h2]
theorem x_aim {s : SX} {n m q w u : Nat} (ok : Ok n m (co s 0)) (hw : w < 41) (a3 : gX s (9 + q) 0 2 = nI w) (un : u ≤ n) (uw : u ≤ w) (ue : u = n ∨ u = w) : ∃ s', fX2_aim q s = some ((), s') ∧ Fr 7 s s' ∧ Rt (MS (co s 0) (gL s q) u).1 (MS (co s 0) (gL s q) u).2.1 (MS (co s 0) (gL s q) u).2.2 s' := by
  have hn := ok.1
  unfold fX2_aim fX2_aim_7
  rw [vl_eq, vl_eq]
  have key := lp_inv (bot := fun _ _ => none) (body := fX2_aim_7b q) (F := 400) (ap := fun (k : Tx Unit 1) c (a : SX) => k (nI c) a) u (fun c a => Fr 7 s a ∧ Rt (MS (co s 0) (gL s q) c).1 (MS (co s 0) (gL s q) c).2.1 (MS (co s 0) (gL s q) c).2.2 a) (fun b => Fr 7 s b.2 ∧ Rt (MS (co s 0) (gL s q) u).1 (MS (co s 0) (gL s q) u).2.1 (MS (co s 0) (gL s q) u).2.2 b.2) ?_ ?_ (wX s 7 0 5 0) ⟨Fr.wX, by rw [gX_wX, if_pos rfl, if_pos rfl, if_pos rfl]; rfl, fun i hi => absurd hi (Nat.not_lt_zero i)⟩ (by omega)
  · obtain ⟨⟨v, s'⟩, k1, k2, k3⟩ := key
    exact ⟨s', k1, k2, k3⟩
  · intro k c a hc ⟨q1, q2⟩
    have e1 : gX a 0 10 10 = nI n := by rw [q1.1 0 (by decide)]; exact ok.hn.2
    have e2 : gX a (9 + q) 0 2 = nI w := by rw [q1.1 (9 + q) (by omega)]; exact a3
    have e3 : gX a 0 3 c = co s 0 3 c := by rw [q1.1 0 (by decide)]; rfl
    have eL : gL a q c = gL s q c := by rw [q1.2]
    have g1 : ¬ nI n ≤ nI c := nI_ge (by omega) (by omega)
    have g2 : ¬ nI w ≤ nI c := nI_ge (by omega) (by omega)
    have hK := MS_ok (r := co s 0) (Y := gL s q) c
    have skip : isMv (co s 0) (gL s q) c = false → Rt (MS (co s 0) (gL s q) (c + 1)).1 (MS (co s 0) (gL s q) (c + 1)).2.1 (MS (co s 0) (gL s q) (c + 1)).2.2 a := fun hf => by
      rw [MS_s, hf, if_neg (by decide)]; exact q2
    by_cases hm : isMv (co s 0) (gL s q) c = true
    · obtain ⟨m1, m2, m3, z, hz, ez⟩ := isMv_q hm
      have h5 : gX a 7 0 5 = nI (MS (co s 0) (gL s q) c).1 := q2.1
      have kz : kg (nI z) = z := kg_nI (by omega)
      generalize hKK : (MS (co s 0) (gL s q) c).1 = K at h5 hK
      refine ⟨wX (wX (wX a 7 1 K (nI c)) 7 2 K (nI z)) 7 0 5 (nI (K + 1)), ?_, q1.trans ((Fr.wX.trans Fr.wX).trans Fr.wX), ?_⟩
      · show fX2_aim_7b q k (nI c) a = _
        unfold fX2_aim_7b fX2_aim_77
        have g5 : gX (wX a 7 1 K (nI c)) 7 0 5 = nI K := by rw [gX_wX, if_pos rfl, if_neg (by decide)]; exact h5
        have g6 : gX (wX (wX a 7 1 K (nI c)) 7 2 K (nI z)) 7 0 5 = nI K := by rw [gX_wX, if_pos rfl, if_neg (by decide)]; exact g5
        rw [e1, if_neg g1, e2, if_neg g2, x_holderAt (show c < 40 by omega), eL, if_neg m1, if_neg m2, bd_one, vl_eq, ez, if_neg (nI_pos (by omega)), ixg_nI (show c < 14 by omega) (by decide), e3, if_neg (by rw [← ez]; exact m3), h5, ixg_nI (show K < 14 by omega) (by decide), vl_eq, g5, ixg_nI (show K < 14 by omega) (by decide), vl_eq, vl_eq, g6, vl_eq, ← nI_succ, ← nI_succ]
      · rw [MS_s, if_pos hm, hKK, ez, kz]
        refine ⟨?_, fun i hi => ⟨?_, ?_⟩⟩
        · rw [gX_wX, if_pos rfl, if_pos rfl, if_pos rfl]
        · have hi : i < K + 1 := hi
          rw [gX_wX, if_pos rfl, if_neg (by decide), gX_wX, if_pos rfl, if_neg (by decide), gX_wX, if_pos rfl, if_pos rfl]
          show _ = nI (if i = K then c else (MS (co s 0) (gL s q) c).2.1 i)
          by_cases e : i = K
          · rw [if_pos e, if_pos e]
          · rw [if_neg e, if_neg e]; exact (q2.2 i (by omega)).1
        · have hi : i < K + 1 := hi
          rw [gX_wX, if_pos rfl, if_neg (by decide), gX_wX, if_pos rfl, if_pos rfl]
          show _ = nI (if i = K then z else (MS (co s 0) (gL s q) c).2.2 i)
          by_cases e : i = K
          · rw [if_pos e, if_pos e]
          · rw [if_neg e, if_neg e, gX_wX, if_pos rfl, if_neg (by decide)]; exact (q2.2 i (by omega)).2
    · simp only [Bool.not_eq_true] at hm
      refine ⟨a, ?_, q1, skip hm⟩
      show fX2_aim_7b q k (nI c) a = _
      unfold fX2_aim_7b fX2_aim_77
      rw [e1, if_neg g1, e2, if_neg g2, x_holderAt (show c < 40 by omega), eL, bd_one, vl_eq]
      by_cases m1 : gL s q c < 0
      · rw [if_pos m1, if_pos (show (-1 : Int32) < 0 by decide), vl_eq, ← nI_succ]
      · by_cases m2 : (5 : Int64) < gL s q c
        · rw [if_neg m1, if_pos m2, if_pos (show (-1 : Int32) < 0 by decide), vl_eq, ← nI_succ]
        · obtain ⟨z, hz, ez⟩ := i64_6 m1 (by rw [i64_56]; exact m2)
          unfold isMv at hm
          have m3 : Int64.toInt32 (gL s q c) = co s 0 3 c := by
            simp only [m1, m2, decide_false, Bool.not_false, Bool.true_and, Bool.not_eq_false', decide_eq_true_eq] at hm
            exact hm
          rw [if_neg m1, if_neg m2, if_neg (by rw [ez]; exact nI_pos (by omega)), ixg_nI (show c < 14 by omega) (by decide), e3, if_pos m3, vl_eq, ← nI_succ]
  · intro k a ⟨q1, q2⟩
    have e1 : gX a 0 10 10 = nI n := by rw [q1.1 0 (by decide)]; exact ok.hn.2
    have e2 : gX a (9 + q) 0 2 = nI w := by rw [q1.1 (9 + q) (by omega)]; exact a3
    refine ⟨((), a), ?_, q1, q2⟩
    show fX2_aim_7b q k (nI u) a = _
    unfold fX2_aim_7b
    rw [e1, e2]
    by_cases c : nI n ≤ nI u
    · rw [if_pos c]
    · have c4 : ¬ n ≤ u := fun c5 => c (nI_le c5 (by omega))
      rw [if_neg c, if_pos (nI_le (show w ≤ u by omega) (by omega))]
theorem x_movesDead {s : SX} {n m K : Nat} {mc ma : Nat → Nat} {r : Co} (ok : Ok n m r) (e0 : co s 0 = r) (hM : Mvs n K mc ma) (rt : Rt K mc ma s) (hK : K ≤ 14) : fX2_movesDead s = some (b2i (anyN K (fun i => dead r (mc i))), s) := by
  have hn := ok.1
  unfold fX2_movesDead fX2_movesDead_2
  rw [vl_eq]
  have key := lp_fnd (bot := fun _ _ => none) (body := fX2_movesDead_2b) (ap := fun (k : Tx Int32 1) i a => k (nI i) a) (fun i => dead r (mc i)) (fun a => a = s) (fun o b => b = (match o with
    | some _ => 1
    | none => 0, s)) K 0 ?_ ?_ ?_ K 0 400 s (Nat.zero_le _) (by omega) (by omega) (by omega) rfl
  · obtain ⟨b, k1, k2⟩ := key
    refine k1.trans ?_
    rw [k2]
    cases hF : fnd (fun i => dead r (mc i)) 0 K with
    | none => rw [fnd_none hF]; rfl
    | some x =>
      obtain ⟨x1, x2, -⟩ := fnd_some hF
      rw [anyN_iff.mpr ⟨x, x1, x2⟩]; rfl
  · intro k i a _ hi ea hp
    subst ea
    refine ⟨_, ?_, rfl⟩
    have := (hM.1 i hi).1
    show fX2_movesDead_2b k (nI i) a = _
    unfold fX2_movesDead_2b
    rw [rt.1, if_neg (nI_ge hi (by omega)), ixg_nI (show i < 14 by omega) (by decide), (rt.2 i hi).1, x_isDead (show mc i < 32 by omega), bd_one, e0, hp, if_neg (show ¬ b2i true = 0 by decide)]
  · intro k i a _ hi ea hp
    subst ea
    refine ⟨a, rfl, ?_⟩
    have := (hM.1 i hi).1
    show fX2_movesDead_2b k (nI i) a = _
    unfold fX2_movesDead_2b
    rw [rt.1, if_neg (nI_ge hi (by omega)), ixg_nI (show i < 14 by omega) (by decide), (rt.2 i hi).1, x_isDead (show mc i < 32 by omega), bd_one, e0, hp, if_pos (show b2i false = 0 by decide), vl_eq, ← nI_succ]
  · intro k i a h1 _ ea
    subst ea
    refine ⟨_, ?_, rfl⟩
    show fX2_movesDead_2b k (nI i) a = _
    unfold fX2_movesDead_2b
    rw [rt.1, if_pos (nI_le h1 (by omega))]
theorem x_firstStep {s : SX} {K mask : Nat} (h5 : gX s 7 0 5 = nI K) (hK : K ≤ 8) (hm : mask < 2 ^ K) : fX2_firstStep (nI mask) s = some (match fnd (pS (gX s 7 3) mask) 0 K with
    | some i => nI i
    | none => -1, s) := by
  have h256 : 2 ^ K ≤ 256 := Nat.pow_le_pow_right (by decide) hK
  unfold fX2_firstStep fX2_firstStep_2
  rw [vl_eq]
  have key := lp_fnd (bot := fun _ _ _ => none) (body := fX2_firstStep_2b) (ap := fun (k : Tx Int32 2) i a => k (nI mask) (nI i) a) (pS (gX s 7 3) mask) (fun a => a = s) (fun o b => b = (match o with
    | some i => nI i
    | none => -1, s)) K 0 ?_ ?_ ?_ K 0 400 s (Nat.zero_le _) (by omega) (by omega) (by omega) rfl
  · obtain ⟨b, k1, k2⟩ := key
    refine k1.trans ?_
    rw [k2]
  · intro k i a _ hi ea hp
    subst ea
    have lt := or_lt hm hi
    refine ⟨_, ?_, rfl⟩
    unfold pS at hp
    simp only [Bool.and_eq_true, Bool.not_eq_true', decide_eq_false_iff_not] at hp
    show fX2_firstStep_2b k (nI mask) (nI i) a = _
    unfold fX2_firstStep_2b
    rw [h5, if_neg (nI_ge hi (by omega)), if_pos (by rw [bit_code (by omega), bit_m (by omega)]; exact hp.1), or_bt (by omega), ixg_nI (show mask ||| 2 ^ i < 256 by omega) (by decide), if_neg hp.2]
  · intro k i a _ hi ea hp
    subst ea
    have lt := or_lt hm hi
    refine ⟨a, rfl, ?_⟩
    unfold pS at hp
    show fX2_firstStep_2b k (nI mask) (nI i) a = _
    unfold fX2_firstStep_2b fX2_firstStep_33
    rw [h5, if_neg (nI_ge hi (by omega))]
    cases hb : mask.testBit i with
    | true => rw [if_neg (by rw [bit_code (by omega), bit_m (by omega), hb]; decide), vl_eq, ← nI_succ]
    | false =>
      rw [hb] at hp
      simp only [Bool.not_false, Bool.true_and, Bool.not_eq_false', decide_eq_true_eq] at hp
      rw [if_pos (by rw [bit_code (by omega), bit_m (by omega)]; exact hb), or_bt (by omega), ixg_nI (show mask ||| 2 ^ i < 256 by omega) (by decide), if_pos hp, vl_eq, ← nI_succ]
  · intro k i a h1 _ ea
    subst ea
    refine ⟨_, ?_, rfl⟩
    show fX2_firstStep_2b k (nI mask) (nI i) a = _
    unfold fX2_firstStep_2b
    rw [h5, if_pos (nI_le h1 (by omega))]
