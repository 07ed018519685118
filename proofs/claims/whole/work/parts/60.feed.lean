/-! ===== bytes onto the tape ===== -/
theorem feed_byte (x : Int32) {i : Nat} (hi : i < 4) : ((x.toUInt32 >>> (Int32.toUInt32 (8 * nI i) &&& Int32.toUInt32 31)).toInt32 &&& 255) = ((x >>> ((8 * nI i) &&& 31)) &&& 255) := by
  have hs : ∀ i : Nat, i < 4 → (((8 * nI i) &&& 31 : Int32).toBitVec.smod 32).toNat = 8 * i := by decide +kernel
  have hu : ∀ i : Nat, i < 4 → ((Int32.toUInt32 (8 * nI i) &&& Int32.toUInt32 31).toBitVec % 32#32).toNat = 8 * i := by decide +kernel
  apply bit_ext
  intro k hk
  rw [bit_and, bit_and]
  have h255 : ∀ k : Nat, k < 32 → bitB 255 k = decide (k < 8) := by decide +kernel
  rw [h255 k hk]
  by_cases h8 : k < 8
  · have e1 : bitB ((x.toUInt32 >>> (Int32.toUInt32 (8 * nI i) &&& Int32.toUInt32 31)).toInt32) k = bitB x (8 * i + k) := by
      unfold bitB
      show (x.toUInt32 >>> (Int32.toUInt32 (8 * nI i) &&& Int32.toUInt32 31)).toBitVec.getLsbD k = _
      rw [UInt32.toBitVec_shiftRight]
      show (x.toBitVec >>> ((Int32.toUInt32 (8 * nI i) &&& Int32.toUInt32 31).toBitVec % 32#32)).getLsbD k = _
      rw [BitVec.ushiftRight_eq', BitVec.getLsbD_ushiftRight, hu i hi]
    have e2 : bitB (x >>> ((8 * nI i) &&& 31)) k = bitB x (8 * i + k) := by
      unfold bitB
      rw [Int32.toBitVec_shiftRight]
      show (x.toBitVec.sshiftRight' (((8 * nI i) &&& 31 : Int32).toBitVec.smod 32)).getLsbD k = _
      unfold BitVec.sshiftRight'
      rw [hs i hi, BitVec.getLsbD_sshiftRight]
      have : 8 * i + k < 32 := by omega
      simp [this]
      omega
    rw [e1, e2]
  · simp [h8]
theorem byte_rng (x : Int32) : rng (x &&& 255) 256 := by
  have h255 : ∀ k : Nat, k < 32 → bitB 255 k = decide (k < 8) := by decide +kernel
  refine ⟨(x &&& 255).toBitVec.toNat, ?_, ?_⟩
  · apply Nat.lt_pow_two_of_testBit (n := 8)
    intro i hi
    by_cases h32 : i < 32
    · have : bitB (x &&& 255) i = false := by rw [bit_and, h255 i h32]; simp; omega
      exact this
    · exact BitVec.testBit_toNat (x &&& 255).toBitVec ▸ BitVec.getLsbD_of_ge _ _ (by omega)
  · apply bit_ext
    intro k hk
    rw [bit_nI]
    simp only [hk, decide_true, Bool.true_and]
    rfl
theorem inv_tape {s s' : SX} {t t' : SM} (h : Inv s t) (hs : ∀ a, a ≠ 8 → gX s' a = gX s a) (hl : gL s' = gL s) (ht : ∀ j, j ≠ 0 → j ≠ 15 → gM t' j = gM t j) (h0 : ∀ k, k ≠ 25 → gM t' 0 k = gM t 0 k) (hN : gN t' = gN t) (htp : Tp s' t') : Inv s' t' := by
  obtain ⟨⟨n, m, ok, rl⟩, cl, kp, fd, -, sh⟩ := h
  have hc : ∀ i, i < 5 → co s' i = co s i := by
    intro i hi
    unfold co
    rw [hs i (by omega)]
  refine ⟨⟨n, m, ?_, ?_⟩, fun i hi => ?_, ?_, ?_, htp, ?_⟩
  · rw [hc 0 (by decide)]; exact ok
  · rw [hc 0 (by decide)]; exact rl.q ⟨fun a h1 h2 => ht a (by omega) (by omega), h0 1 (by decide), h0 5 (by decide), h0 11 (by decide)⟩
  · rw [hc i hi]; exact cl i hi
  · unfold Kp at kp ⊢
    rw [hs 5 (by decide), hc 1 (by decide), h0 38 (by decide), ht 20 (by decide) (by decide)]; exact kp
  · unfold Fnd at fd ⊢
    rw [hs 5 (by decide), ht 10 (by decide) (by decide)]; exact fd
  · intro q hq
    rw [hs (9 + q) (by omega), ht 16 (by decide) (by decide), ht 17 (by decide) (by decide), hl, hN]; exact sh q hq
theorem op_feed {s : SX} {t : SM} (h : Inv s t) (a b : Int32) : Sm (fX5_feed a b s) (fX6_feed a b t) := by
  have z0 : (0 : Int32) = 0 := Eq.refl 0
  have z1 : ¬ (1 : Int32) = 0 := by decide
  obtain ⟨z, hz, tz1, tz2, tz3⟩ := h.2.2.2.2.1
  have key : ∀ (d F G z : Nat) (s : SX) (t : SM), Inv s t → d ≤ 4 → z + d ≤ 120 → d < F → d < G → gX s 8 0 1 = nI z → gM t 0 25 = nI z → (∀ k, k < z → gX s 8 1 k = gM t 15 k ∧ rng (gX s 8 1 k) 256) → Sm (lp (fun _ _ _ => none) fX5_feed_40b F a (nI d + (-1)) s) (lp (fun _ _ _ => none) fX6_feed_38b G a (nI d + (-1)) t) := by
    intro d
    induction d with
    | zero =>
      intro F G z s t h _ hz h1 h2 e1 e2 e3
      obtain ⟨F, rfl⟩ : ∃ g, F = g + 1 := ⟨F - 1, by omega⟩
      obtain ⟨G, rfl⟩ : ∃ g, G = g + 1 := ⟨G - 1, by omega⟩
      show Sm (fX5_feed_40b _ a (nI 0 + (-1)) s) (fX6_feed_38b _ a (nI 0 + (-1)) t)
      generalize lp _ fX5_feed_40b F = gx
      generalize lp _ fX6_feed_38b G = gm
      unfold fX5_feed_40b fX6_feed_38b
      rw [if_pos (show nI 0 + (-1) < 0 by decide), if_pos (show nI 0 + (-1) < 0 by decide), e1, e2]
      exact Sm.of h
    | succ d ih =>
      intro F G z s t h d4 hz h1 h2 e1 e2 e3
      obtain ⟨F, rfl⟩ : ∃ g, F = g + 1 := ⟨F - 1, by omega⟩
      obtain ⟨G, rfl⟩ : ∃ g, G = g + 1 := ⟨G - 1, by omega⟩
      have ih2 := ih F G (z + 1)
      rw [nI_dec]
      show Sm (fX5_feed_40b (lp _ _ F) a (nI d) s) (fX6_feed_38b (lp _ _ G) a (nI d) t)
      generalize lp _ fX5_feed_40b F = gx at ih2 ⊢
      generalize lp _ fX6_feed_38b G = gm at ih2 ⊢
      have fb := feed_byte a (show d < 4 by omega)
      have br := byte_rng (a >>> ((8 * nI d) &&& 31))
      unfold fX5_feed_40b fX6_feed_38b fX4_add
      rw [if_neg (nI_pos (by omega)), if_neg (nI_pos (by omega)), fb, e1, e2, ixg_nI (show z < 120 by omega) (by decide), ixg_nI (show z < 120 by omega) (by decide)]
      generalize (a >>> ((8 * nI d) &&& 31)) &&& 255 = y at br
      have f1 : gX (wX s 8 1 z y) 8 0 1 = nI z := by rw [gX_wX, if_pos rfl, if_neg (by decide), e1]
      have f2 : gM (wM t 15 z y) 0 25 = nI z := by rw [gM_wM, if_neg (by decide), e2]
      simp only [vl_eq, bd_one]
      rw [f1, f2, ← nI_succ]
      have g3 : ∀ k, k < z + 1 → gX (wX (wX s 8 1 z y) 8 0 1 (nI (z + 1))) 8 1 k = gM (wM (wM t 15 z y) 0 25 (nI (z + 1))) 15 k ∧ rng (gX (wX (wX s 8 1 z y) 8 0 1 (nI (z + 1))) 8 1 k) 256 := by
        intro k hk
        have q1 : gX (wX (wX s 8 1 z y) 8 0 1 (nI (z + 1))) 8 1 k = if k = z then y else gX s 8 1 k := by
          rw [gX_wX, if_pos rfl, if_neg (show ¬ (1 : Nat) = 0 by decide), gX_wX, if_pos rfl, if_pos rfl]
        have q2 : gM (wM (wM t 15 z y) 0 25 (nI (z + 1))) 15 k = if k = z then y else gM t 15 k := by
          rw [gM_wM, if_neg (show ¬ (15 : Nat) = 0 by decide), gM_wM, if_pos rfl]
        rw [q1, q2]
        by_cases ek : k = z
        · rw [if_pos ek, if_pos ek]; exact ⟨rfl, br⟩
        · rw [if_neg ek, if_neg ek]; exact e3 k (by omega)
      have g1 : gX (wX (wX s 8 1 z y) 8 0 1 (nI (z + 1))) 8 0 1 = nI (z + 1) := by rw [gX_wX, if_pos rfl, if_pos rfl, if_pos rfl]
      have g2 : gM (wM (wM t 15 z y) 0 25 (nI (z + 1))) 0 25 = nI (z + 1) := by rw [gM_wM, if_pos rfl, if_pos rfl]
      refine ih2 _ _ (inv_tape h ?_ rfl ?_ ?_ rfl ⟨z + 1, by omega, g1, g2, g3⟩) (by omega) (by omega) (by omega) (by omega) g1 g2 g3
      · intro i hi
        funext j k
        rw [gX_wX, if_neg hi, gX_wX, if_neg hi]
      · intro j h0 h15
        funext k
        rw [gM_wM, if_neg h0, gM_wM, if_neg h15]
      · intro k hk
        rw [gM_wM, if_pos rfl, if_neg hk, gM_wM, if_neg (by decide)]
  unfold fX5_feed fX6_feed
  by_cases h1 : b < 1
  · rw [if_pos h1, in_lo h1, bd_one, if_pos z0]; exact fin0 h
  rw [if_neg h1]
  by_cases h2 : b ≤ 4
  · rw [if_pos h2, in_in h1 (Int32.not_lt.mpr h2), bd_one, if_neg z1, tz1, tz2]
    have v1 : (1 : Int32).toInt = 1 := by decide
    have v4 : (4 : Int32).toInt = 4 := by decide
    obtain ⟨k, hk, ek⟩ := inR_rng (x := b) (N := 5) (by
      unfold inR
      rw [Int32.lt_iff_toInt_lt, v1] at h1
      rw [Int32.le_iff_toInt_le, v4] at h2
      simp only [decide_eq_true_eq]; omega)
    rw [ek, nI_add]
    by_cases h3 : nI (z + k) ≤ 120
    · have hzk : z + k ≤ 120 := Nat.le_of_not_lt (fun w => nI_ge (a := 120) (b := z + k) w (by omega) h3)
      rw [if_pos h3, if_pos h3, vl_eq, vl_eq, Int32.sub_eq_add_neg]
      unfold fX5_feed_40 fX6_feed_38
      exact key k 400 400 z s t h (by omega) hzk (by omega) (by omega) tz1 tz2 tz3
    · rw [if_neg h3, if_neg h3]; exact fin1 h
  · rw [if_neg h2, in_hi h1 (Int32.not_le.mp h2), bd_one, if_pos z0]; exact fin0 h
