/-! ===== the image: all rows out, all rows in ===== -/
theorem wM_self {t : SM} {j k : Nat} {x : Int32} (h : gM t j k = x) : wM t j k x = t := by
  unfold wM
  have : upd (gM t j) k x = gM t j := by
    funext b
    unfold upd
    by_cases e : b = k
    · rw [if_pos e, e, h]
    · rw [if_neg e]
  rw [this, rM_self]
theorem ixg_0 {S α : Type} {n : Nat} (h : 0 < n) (hn : n < 2 ^ 31) (F : Nat → Option (α × S)) : ixg 0 n F = F 0 := ixg_nI (k := 0) h hn F
theorem ixg_1 {S α : Type} {n : Nat} (h : 1 < n) (hn : n < 2 ^ 31) (F : Nat → Option (α × S)) : ixg 1 n F = F 1 := ixg_nI (k := 1) h hn F
def Po (z : Nat) (t0 : SM) (L : List (Nat × Nat × Nat)) (p : Nat) (t : SM) : Prop := gM t 0 39 = nI p ∧ (∀ k, k ≠ 39 → gM t 0 k = gM t0 0 k) ∧ (∀ b, b ≠ 0 → b ≠ z → gM t b = gM t0 b) ∧ gN t = gN t0 ∧ ∀ x, x ∈ L → x.2.1 + x.2.2 ≤ p ∧ ∀ k, k < x.2.2 → gM t z (x.2.1 + k) = gM t0 x.1 k
def Pn (z : Nat) (t0 : SM) (L : List (Nat × Nat × Nat)) (p : Nat) (t : SM) : Prop := gM t 0 39 = nI p ∧ (∀ k, k ≠ 39 → gM t 0 k = gM t0 0 k) ∧ (∀ b, b ≠ 0 → (∀ x, x ∈ L → b ≠ x.1) → gM t b = gM t0 b) ∧ gN t = gN t0 ∧ ∀ x, x ∈ L → ∀ k, k < x.2.2 → gM t x.1 k = gM t0 z (x.2.1 + k)
theorem lenM_z {z : Nat} (hz : z = 20 ∨ z = 21) : lenM z = 150 := by rcases hz with rfl | rfl <;> rfl
theorem po_row {z a N p : Nat} {t0 t : SM} {L : List (Nat × Nat × Nat)} (hz : z = 20 ∨ z = 21) (ha : a ≠ 0) (haz : a ≠ z) (hl : N ≤ lenM a) (hl2 : lenM a < 300) (hp : p + N ≤ 139) (h : Po z t0 L p t) : ∃ t', fX6_moveRow a (nI N) 1 z t = some ((), t') ∧ Po z t0 ((a, p, N) :: L) (p + N) t' := by
  obtain ⟨h1, h2, h3, h4, h5⟩ := h
  have hz0 : z ≠ 0 := by omega
  have hlz := lenM_z hz
  have key := lp_inv (bot := fun _ _ _ _ => none) (body := fX6_moveRow_3b a z) (F := 400) (ap := fun (k : Tm Unit 3) c (u : SM) => k (nI N) 1 (nI c) u) N (fun c u => gM u 0 39 = nI (p + c) ∧ (∀ k, k ≠ 39 → gM u 0 k = gM t0 0 k) ∧ (∀ b, b ≠ 0 → b ≠ z → gM u b = gM t0 b) ∧ gN u = gN t0 ∧ (∀ k, k < p → gM u z k = gM t z k) ∧ ∀ k, k < c → gM u z (p + k) = gM t0 a k) (fun b => Po z t0 ((a, p, N) :: L) (p + N) b.2) ?_ ?_ t ⟨by rw [Nat.add_zero]; exact h1, h2, h3, h4, fun _ _ => rfl, fun k hk => absurd hk (Nat.not_lt_zero k)⟩ (by omega)
  · obtain ⟨⟨u, t'⟩, e1, e2⟩ := key
    unfold fX6_moveRow fX6_moveRow_3
    rw [vl_eq]
    exact ⟨t', e1, e2⟩
  · intro k c u hc ⟨q1, q2, q3, q4, q5, q6⟩
    refine ⟨wM (wM u z (p + c) (gM u a c)) 0 39 (nI (p + (c + 1))), ?_, ?_, ?_, ?_, ?_, ?_, ?_⟩
    · show fX6_moveRow_3b a z k (nI N) 1 (nI c) u = _
      have q1' : gM (wM u z (p + c) (gM u a c)) 0 39 = nI (p + c) := by rw [gM_wM, if_neg (Ne.symm hz0), q1]
      unfold fX6_moveRow_3b fX6_moveRow_38
      rw [if_neg (nI_ge hc (by omega)), if_neg (show ¬ (1 : Int32) = 0 by decide), ixg_nI (show c < lenM a by omega) (by omega), q1, ixg_nI (show p + c < lenM z by omega) (by omega), vl_eq, vl_eq, vl_eq, q1', ← nI_succ, ← nI_succ]
      rfl
    · rw [gM_wM, if_pos rfl, if_pos rfl]
    · intro k hk
      rw [gM_wM, if_pos rfl, if_neg hk, gM_wM, if_neg (Ne.symm hz0)]; exact q2 k hk
    · intro b hb hbz
      funext k
      rw [gM_wM, if_neg hb, gM_wM, if_neg hbz, q3 b hb hbz]
    · exact q4
    · intro k hk
      rw [gM_wM, if_neg hz0, gM_wM, if_pos rfl, if_neg (by omega)]; exact q5 k hk
    · intro k hk
      rw [gM_wM, if_neg hz0, gM_wM, if_pos rfl]
      by_cases e : k = c
      · subst e; rw [if_pos rfl, q3 a ha haz]
      · rw [if_neg (by omega)]; exact q6 k (by omega)
  · intro k u ⟨q1, q2, q3, q4, q5, q6⟩
    refine ⟨((), u), ?_, q1, q2, q3, q4, fun x hx => ?_⟩
    · show fX6_moveRow_3b a z k (nI N) 1 (nI N) u = _
      unfold fX6_moveRow_3b
      rw [if_pos (nI_le (Nat.le_refl N) (by omega))]
    · rcases List.mem_cons.mp hx with rfl | hx
      · exact ⟨Nat.le_refl _, q6⟩
      · obtain ⟨w1, w2⟩ := h5 x hx
        exact ⟨by omega, fun k hk => by rw [q5 _ (by omega)]; exact w2 k hk⟩
theorem pn_row {z a N p : Nat} {t0 t : SM} {L : List (Nat × Nat × Nat)} (hz : z = 20 ∨ z = 21) (ha : a ≠ 0) (haz : a ≠ z) (hl : N ≤ lenM a) (hl2 : lenM a < 300) (hp : p + N ≤ 139) (hL : ∀ x, x ∈ L → a ≠ x.1 ∧ z ≠ x.1 ∧ x.1 ≠ 0) (h : Pn z t0 L p t) : ∃ t', fX6_moveRow a (nI N) 0 z t = some ((), t') ∧ Pn z t0 ((a, p, N) :: L) (p + N) t' := by
  obtain ⟨h1, h2, h3, h4, h5⟩ := h
  have hz0 : z ≠ 0 := by omega
  have hlz := lenM_z hz
  have key := lp_inv (bot := fun _ _ _ _ => none) (body := fX6_moveRow_3b a z) (F := 400) (ap := fun (k : Tm Unit 3) c (u : SM) => k (nI N) 0 (nI c) u) N (fun c u => gM u 0 39 = nI (p + c) ∧ (∀ k, k ≠ 39 → gM u 0 k = gM t0 0 k) ∧ (∀ b, b ≠ 0 → b ≠ a → gM u b = gM t b) ∧ gN u = gN t0 ∧ ∀ k, k < c → gM u a k = gM t0 z (p + k)) (fun b => Pn z t0 ((a, p, N) :: L) (p + N) b.2) ?_ ?_ t ⟨by rw [Nat.add_zero]; exact h1, h2, fun _ _ _ => rfl, h4, fun k hk => absurd hk (Nat.not_lt_zero k)⟩ (by omega)
  · obtain ⟨⟨u, t'⟩, e1, e2⟩ := key
    unfold fX6_moveRow fX6_moveRow_3
    rw [vl_eq]
    exact ⟨t', e1, e2⟩
  · intro k c u hc ⟨q1, q2, q3, q4, q5⟩
    refine ⟨wM (wM u a c (gM u z (p + c))) 0 39 (nI (p + (c + 1))), ?_, ?_, ?_, ?_, ?_, ?_⟩
    · show fX6_moveRow_3b a z k (nI N) 0 (nI c) u = _
      have q1' : gM (wM u a c (gM u z (p + c))) 0 39 = nI (p + c) := by rw [gM_wM, if_neg (Ne.symm ha), q1]
      unfold fX6_moveRow_3b fX6_moveRow_38
      rw [if_neg (nI_ge hc (by omega)), if_pos (Eq.refl (0 : Int32)), q1, ixg_nI (show p + c < lenM z by omega) (by omega), ixg_nI (show c < lenM a by omega) (by omega), vl_eq, vl_eq, vl_eq, q1', ← nI_succ, ← nI_succ]
      rfl
    · rw [gM_wM, if_pos rfl, if_pos rfl]
    · intro k hk
      rw [gM_wM, if_pos rfl, if_neg hk, gM_wM, if_neg (Ne.symm ha)]; exact q2 k hk
    · intro b hb hbz
      funext k
      rw [gM_wM, if_neg hb, gM_wM, if_neg hbz, q3 b hb hbz]
    · exact q4
    · intro k hk
      rw [gM_wM, if_neg ha, gM_wM, if_pos rfl]
      by_cases e : k = c
      · subst e; rw [if_pos rfl, q3 z hz0 (Ne.symm haz), h3 z hz0 (fun x hx => (hL x hx).2.1)]
      · rw [if_neg e]; exact q5 k (by omega)
  · intro k u ⟨q1, q2, q3, q4, q5⟩
    refine ⟨((), u), ?_, q1, q2, fun b hb hbx => ?_, q4, fun x hx => ?_⟩
    · show fX6_moveRow_3b a z k (nI N) 0 (nI N) u = _
      unfold fX6_moveRow_3b
      rw [if_pos (nI_le (Nat.le_refl N) (by omega))]
    · rw [q3 b hb (hbx (a, p, N) (List.mem_cons_self))]
      exact h3 b hb (fun x hx => hbx x (List.mem_cons_of_mem _ hx))
    · rcases List.mem_cons.mp hx with rfl | hx
      · exact q5
      · intro k hk
        have w := hL x hx
        rw [q3 x.1 w.2.2 (Ne.symm w.1)]; exact h5 x hx k hk
theorem m_out {z n m : Nat} {r : Co} {t : SM} (hz : z = 20 ∨ z = 21) (rl : Rl 0 n m r t) (ok : Ok n m r) : ∃ t', fX6_moveAll 1 z t = some ((), t') ∧ Im n m r (gM t' z) ∧ (∀ b, b ≠ 0 → b ≠ z → b ≠ 22 → gM t' b = gM t b) ∧ (∀ k, k ≠ 39 → gM t' 0 k = gM t 0 k) ∧ gN t' = gN t := by
  have hn := ok.1
  have hm := ok.2.1
  unfold fX6_moveAll
  rw [vl_eq, ixg_0 (by decide) (by decide), vl_eq, ixg_1 (by decide) (by decide), vl_eq]
  generalize hT : wM (wM (wM t 0 39 0) 22 0 (gM (wM t 0 39 0) 0 1)) 22 1 (gM (wM (wM t 0 39 0) 22 0 (gM (wM t 0 39 0) 0 1)) 0 5) = T
  have T0 : ∀ k, k ≠ 39 → gM T 0 k = gM t 0 k := fun k hk => by subst hT; simp [gM_wM, hk]
  have T39 : gM T 0 39 = nI 0 := by subst hT; simp [gM_wM, nI_0]
  have T220 : gM T 22 0 = gM t 0 1 := by subst hT; simp [gM_wM]
  have T221 : gM T 22 1 = gM t 0 5 := by subst hT; simp [gM_wM]
  have Tb : ∀ b, b ≠ 0 → b ≠ 22 → gM T b = gM t b := fun b h0 h2 => by subst hT; funext k; simp [gM_wM, h0, h2]
  have TN : gN T = gN t := by subst hT; rfl
  have hz2 : 22 ≠ z := by omega
  obtain ⟨t1, e1, p1⟩ := po_row (a := 22) (N := 2) (p := 0) (t0 := T) (t := T) (L := []) hz (by decide) hz2 (by decide) (by decide) (by decide) ⟨T39, fun _ _ => rfl, fun _ _ _ => rfl, rfl, fun x hx => absurd hx (List.not_mem_nil)⟩
  have e1 : fX6_moveRow 22 2 1 z T = some ((), t1) := e1
  rw [e1, bd_one, ixg_0 (by decide) (by decide), vl_eq]
  have s1 : wM t1 0 1 (gM t1 22 0) = t1 := wM_self (by rw [p1.2.1 1 (by decide), p1.2.2.1 22 (by decide) hz2, T220, T0 1 (by decide)])
  rw [s1, ixg_1 (by decide) (by decide), vl_eq]
  have s2 : wM t1 0 5 (gM t1 22 1) = t1 := wM_self (by rw [p1.2.1 5 (by decide), p1.2.2.1 22 (by decide) hz2, T221, T0 5 (by decide)])
  rw [s2]
  obtain ⟨t2, e2, p2⟩ := po_row (a := 1) (N := 6) hz (by decide) (by omega) (by decide) (by decide) (by decide) p1
  obtain ⟨t3, e3, p3⟩ := po_row (a := 2) (N := 14) hz (by decide) (by omega) (by decide) (by decide) (by decide) p2
  obtain ⟨t4, e4, p4⟩ := po_row (a := 3) (N := 14) hz (by decide) (by omega) (by decide) (by decide) (by decide) p3
  obtain ⟨t5, e5, p5⟩ := po_row (a := 4) (N := 14) hz (by decide) (by omega) (by decide) (by decide) (by decide) p4
  obtain ⟨t6, e6, p6⟩ := po_row (a := 5) (N := 12) hz (by decide) (by omega) (by decide) (by decide) (by decide) p5
  obtain ⟨t7, e7, p7⟩ := po_row (a := 6) (N := 12) hz (by decide) (by omega) (by decide) (by decide) (by decide) p6
  obtain ⟨t8, e8, p8⟩ := po_row (a := 7) (N := 12) hz (by decide) (by omega) (by decide) (by decide) (by decide) p7
  obtain ⟨t9, e9, p9⟩ := po_row (a := 8) (N := 12) hz (by decide) (by omega) (by decide) (by decide) (by decide) p8
  obtain ⟨t10, e10, p10⟩ := po_row (a := 9) (N := 41) hz (by decide) (by omega) (by decide) (by decide) (by decide) p9
  have e2 : fX6_moveRow 1 6 1 z t1 = some ((), t2) := e2
  have e3 : fX6_moveRow 2 14 1 z t2 = some ((), t3) := e3
  have e4 : fX6_moveRow 3 14 1 z t3 = some ((), t4) := e4
  have e5 : fX6_moveRow 4 14 1 z t4 = some ((), t5) := e5
  have e6 : fX6_moveRow 5 12 1 z t5 = some ((), t6) := e6
  have e7 : fX6_moveRow 6 12 1 z t6 = some ((), t7) := e7
  have e8 : fX6_moveRow 7 12 1 z t7 = some ((), t8) := e8
  have e9 : fX6_moveRow 8 12 1 z t8 = some ((), t9) := e9
  have e10 : fX6_moveRow 9 41 1 z t9 = some ((), t10) := e10
  rw [e2, bd_one, e3, bd_one, e4, bd_one, e5, bd_one, e6, bd_one, e7, bd_one, e8, bd_one, e9, bd_one, e10, bd_one]
  obtain ⟨-, w2, w3, w4, w5⟩ := p10
  have g : ∀ a p N, (a, p, N) ∈ [(9, 0+2+6+14+14+14+12+12+12+12, 41), (8, 0+2+6+14+14+14+12+12+12, 12), (7, 0+2+6+14+14+14+12+12, 12), (6, 0+2+6+14+14+14+12, 12), (5, 0+2+6+14+14+14, 12), (4, 0+2+6+14+14, 14), (3, 0+2+6+14, 14), (2, 0+2+6, 14), (1, 0+2, 6), (22, 0, 2)] → ∀ k, k < N → gM t10 z (p + k) = gM T a k := fun a p N hx k hk => (w5 (a, p, N) hx).2 k hk
  obtain ⟨a1, a2, a3, a4, a5, a6, a7, a8⟩ := rl
  refine ⟨t10, rfl, ⟨?_, ?_, fun k hk => ?_, fun c hc => ⟨?_, ?_, ?_, ?_, ?_⟩, fun j hj => ⟨?_, ?_, ?_, ?_, ?_⟩, ?_⟩, fun b b0 bz b2 => ?_, fun k hk => ?_, ?_⟩
  · exact (g 22 0 2 (by decide) 0 (by decide)).trans (T220.trans a3)
  · exact (g 22 0 2 (by decide) 1 (by decide)).trans (T221.trans a4)
  · rw [g 1 2 6 (by decide) k hk, Tb 1 (by decide) (by decide)]; exact a5 k hk
  · rw [g 2 8 14 (by decide) c (by omega), Tb 2 (by decide) (by decide)]; exact (a6 c hc).1
  · rw [g 3 22 14 (by decide) c (by omega), Tb 3 (by decide) (by decide)]; exact (a6 c hc).2.1
  · rw [g 4 36 14 (by decide) c (by omega), Tb 4 (by decide) (by decide)]; exact (a6 c hc).2.2.1
  · rw [g 9 98 41 (by decide) (1 + c) (by omega), Tb 9 (by decide) (by decide), ← Nat.zero_add (1 + c)]; exact (a6 c hc).2.2.2.1
  · rw [g 9 98 41 (by decide) (15 + c) (by omega), Tb 9 (by decide) (by decide), ← Nat.zero_add (15 + c)]; exact (a6 c hc).2.2.2.2
  · rw [g 5 50 12 (by decide) j (by omega), Tb 5 (by decide) (by decide)]; exact (a7 j hj).1
  · rw [g 6 62 12 (by decide) j (by omega), Tb 6 (by decide) (by decide)]; exact (a7 j hj).2.1
  · rw [g 7 74 12 (by decide) j (by omega), Tb 7 (by decide) (by decide)]; exact (a7 j hj).2.2.1
  · rw [g 8 86 12 (by decide) j (by omega), Tb 8 (by decide) (by decide)]; exact (a7 j hj).2.2.2.1
  · rw [g 9 98 41 (by decide) (29 + j) (by omega), Tb 9 (by decide) (by decide), ← Nat.zero_add (29 + j)]; exact (a7 j hj).2.2.2.2
  · exact (g 9 98 41 (by decide) 0 (by decide)).trans (by rw [Tb 9 (by decide) (by decide)]; exact a8)
  · rw [w3 b b0 bz, Tb b b0 b2]
  · rw [w2 k hk, T0 k hk]
  · rw [w4, TN]
theorem m_inn {z n m : Nat} {r : Co} {t : SM} (hz : z = 20 ∨ z = 21) (h11 : gM t 0 11 = 0) (ok : Ok n m r) (im : Im n m r (gM t z)) : ∃ t', fX6_moveAll 0 z t = some ((), t') ∧ Rl 0 n m r t' ∧ (∀ b, 10 ≤ b → b ≠ 22 → gM t' b = gM t b) ∧ (∀ k, k ≠ 39 → k ≠ 1 → k ≠ 5 → gM t' 0 k = gM t 0 k) ∧ gN t' = gN t := by
  have hn := ok.1
  have hm := ok.2.1
  unfold fX6_moveAll
  rw [vl_eq, ixg_0 (by decide) (by decide), vl_eq, ixg_1 (by decide) (by decide), vl_eq]
  generalize hT : wM (wM (wM t 0 39 0) 22 0 (gM (wM t 0 39 0) 0 1)) 22 1 (gM (wM (wM t 0 39 0) 22 0 (gM (wM t 0 39 0) 0 1)) 0 5) = T
  have T0 : ∀ k, k ≠ 39 → gM T 0 k = gM t 0 k := fun k hk => by subst hT; simp [gM_wM, hk]
  have T39 : gM T 0 39 = nI 0 := by subst hT; simp [gM_wM, nI_0]
  have Tb : ∀ b, b ≠ 0 → b ≠ 22 → gM T b = gM t b := fun b h0 h2 => by subst hT; funext k; simp [gM_wM, h0, h2]
  have TN : gN T = gN t := by subst hT; rfl
  have hz2 : 22 ≠ z := by omega
  have hz0 : z ≠ 0 := by omega
  obtain ⟨t1, e1, p1⟩ := pn_row (a := 22) (N := 2) (p := 0) (t0 := T) (t := T) (L := []) hz (by decide) hz2 (by decide) (by decide) (by decide) (fun x hx => absurd hx (List.not_mem_nil)) ⟨T39, fun _ _ => rfl, fun _ _ _ => rfl, rfl, fun x hx => absurd hx (List.not_mem_nil)⟩
  have e1 : fX6_moveRow 22 2 0 z T = some ((), t1) := e1
  rw [e1, bd_one, ixg_0 (by decide) (by decide), vl_eq, ixg_1 (by decide) (by decide), vl_eq]
  obtain ⟨v1, v2, v3, v4, v5⟩ := p1
  have v50 : gM t1 22 0 = gM T z 0 := v5 (22, 0, 2) (List.mem_cons_self) 0 (by decide)
  have v51 : gM t1 22 1 = gM T z 1 := v5 (22, 0, 2) (List.mem_cons_self) 1 (by decide)
  have v3 : ∀ b, b ≠ 0 → b ≠ 22 → gM t1 b = gM t b := fun b b0 b2 => by
    rw [v3 b b0 (fun x hx => by
      rcases List.mem_cons.mp hx with rfl | hx
      · exact b2
      · exact absurd hx (List.not_mem_nil)), Tb b b0 b2]
  rw [Tb z hz0 (Ne.symm hz2)] at v50 v51
  generalize hU : wM (wM t1 0 1 (gM t1 22 0)) 0 5 (gM (wM t1 0 1 (gM t1 22 0)) 22 1) = U
  have U0 : ∀ k, k ≠ 39 → k ≠ 1 → k ≠ 5 → gM U 0 k = gM t 0 k := fun k h1 h2 h3 => by subst hU; simp [gM_wM, h2, h3, v2 k h1, T0 k h1]
  have U1 : gM U 0 1 = gM t z 0 := by subst hU; simp [gM_wM, v50]
  have U5 : gM U 0 5 = gM t z 1 := by subst hU; simp [gM_wM, v51]
  have U39 : gM U 0 39 = nI 2 := by subst hU; simp [gM_wM, v1]
  have Ub : ∀ b, b ≠ 0 → b ≠ 22 → gM U b = gM t b := fun b h0 h2 => by subst hU; funext k; simp [gM_wM, h0, v3 b h0 h2]
  have UN : gN U = gN t := by subst hU; exact v4.trans TN
  obtain ⟨t2, e2, p2⟩ := pn_row (a := 1) (N := 6) (p := 2) (t0 := U) (t := U) (L := []) hz (by decide) (by omega) (by decide) (by decide) (by decide) (fun x hx => absurd hx (List.not_mem_nil)) ⟨U39, fun _ _ => rfl, fun _ _ _ => rfl, rfl, fun x hx => absurd hx (List.not_mem_nil)⟩
  obtain ⟨t3, e3, p3⟩ := pn_row (a := 2) (N := 14) hz (by decide) (by omega) (by decide) (by decide) (by decide) (by simp; omega) p2
  obtain ⟨t4, e4, p4⟩ := pn_row (a := 3) (N := 14) hz (by decide) (by omega) (by decide) (by decide) (by decide) (by simp; omega) p3
  obtain ⟨t5, e5, p5⟩ := pn_row (a := 4) (N := 14) hz (by decide) (by omega) (by decide) (by decide) (by decide) (by simp; omega) p4
  obtain ⟨t6, e6, p6⟩ := pn_row (a := 5) (N := 12) hz (by decide) (by omega) (by decide) (by decide) (by decide) (by simp; omega) p5
  obtain ⟨t7, e7, p7⟩ := pn_row (a := 6) (N := 12) hz (by decide) (by omega) (by decide) (by decide) (by decide) (by simp; omega) p6
  obtain ⟨t8, e8, p8⟩ := pn_row (a := 7) (N := 12) hz (by decide) (by omega) (by decide) (by decide) (by decide) (by simp; omega) p7
  obtain ⟨t9, e9, p9⟩ := pn_row (a := 8) (N := 12) hz (by decide) (by omega) (by decide) (by decide) (by decide) (by simp; omega) p8
  obtain ⟨t10, e10, p10⟩ := pn_row (a := 9) (N := 41) hz (by decide) (by omega) (by decide) (by decide) (by decide) (by simp; omega) p9
  have e2 : fX6_moveRow 1 6 0 z U = some ((), t2) := e2
  have e3 : fX6_moveRow 2 14 0 z t2 = some ((), t3) := e3
  have e4 : fX6_moveRow 3 14 0 z t3 = some ((), t4) := e4
  have e5 : fX6_moveRow 4 14 0 z t4 = some ((), t5) := e5
  have e6 : fX6_moveRow 5 12 0 z t5 = some ((), t6) := e6
  have e7 : fX6_moveRow 6 12 0 z t6 = some ((), t7) := e7
  have e8 : fX6_moveRow 7 12 0 z t7 = some ((), t8) := e8
  have e9 : fX6_moveRow 8 12 0 z t8 = some ((), t9) := e9
  have e10 : fX6_moveRow 9 41 0 z t9 = some ((), t10) := e10
  rw [e2, bd_one, e3, bd_one, e4, bd_one, e5, bd_one, e6, bd_one, e7, bd_one, e8, bd_one, e9, bd_one, e10, bd_one]
  obtain ⟨-, w2, w3, w4, w5⟩ := p10
  have uz := Ub z hz0 (Ne.symm hz2)
  have g : ∀ a p N, (a, p, N) ∈ [(9, 2+6+14+14+14+12+12+12+12, 41), (8, 2+6+14+14+14+12+12+12, 12), (7, 2+6+14+14+14+12+12, 12), (6, 2+6+14+14+14+12, 12), (5, 2+6+14+14+14, 12), (4, 2+6+14+14, 14), (3, 2+6+14, 14), (2, 2+6, 14), (1, 2, 6)] → ∀ k, k < N → gM t10 a k = gM t z (p + k) := fun a p N hx k hk => by
    rw [← uz]; exact w5 (a, p, N) hx k hk
  obtain ⟨a1, a2, a3, a4, a5, a6⟩ := im
  refine ⟨t10, rfl, ⟨by decide, ?_, ?_, ?_, fun k hk => ?_, fun c hc => ⟨?_, ?_, ?_, ?_, ?_⟩, fun j hj => ⟨?_, ?_, ?_, ?_, ?_⟩, ?_⟩, fun b b0 b2 => ?_, fun k h1 h2 h3 => ?_, ?_⟩
  · rw [w2 11 (by decide), U0 11 (by decide) (by decide) (by decide), h11]; rfl
  · rw [w2 1 (by decide), U1, a1]
  · rw [w2 5 (by decide), U5, a2]
  · rw [g 1 2 6 (by decide) k hk]; exact a3 k hk
  · rw [g 2 8 14 (by decide) c (by omega)]; exact (a4 c hc).1
  · rw [g 3 22 14 (by decide) c (by omega)]; exact (a4 c hc).2.1
  · rw [g 4 36 14 (by decide) c (by omega)]; exact (a4 c hc).2.2.1
  · rw [Nat.zero_add, g 9 98 41 (by decide) (1 + c) (by omega)]; exact (a4 c hc).2.2.2.1
  · rw [Nat.zero_add, g 9 98 41 (by decide) (15 + c) (by omega)]; exact (a4 c hc).2.2.2.2
  · rw [g 5 50 12 (by decide) j (by omega)]; exact (a5 j hj).1
  · rw [g 6 62 12 (by decide) j (by omega)]; exact (a5 j hj).2.1
  · rw [g 7 74 12 (by decide) j (by omega)]; exact (a5 j hj).2.2.1
  · rw [g 8 86 12 (by decide) j (by omega)]; exact (a5 j hj).2.2.2.1
  · rw [Nat.zero_add, g 9 98 41 (by decide) (29 + j) (by omega)]; exact (a5 j hj).2.2.2.2
  · rw [g 9 98 41 (by decide) 0 (by decide)]; exact a6
  · rw [w3 b (by omega) (by simp; omega), Ub b (by omega) b2]
  · rw [w2 k h1, U0 k h1 h2 h3]
  · rw [w4, UN]
theorem op_image {s : SX} {t : SM} (h : Inv s t) : Sm (fX5_image s) (fX6_image t) := by
  obtain ⟨n, m, ok, rl⟩ := h.1
  obtain ⟨s1, x1, x2, x3⟩ := x_become (i := 1) (j := 0) (s := s) (by decide) (h.2.1 1 (by decide)) (h.2.1 0 (by decide))
  obtain ⟨t1, y1, y2, y3, y4, y5⟩ := m_out (z := 20) (Or.inl rfl) rl ok
  unfold fX5_image fX6_image
  rw [x1, bd_one, vl_eq, y1, bd_one, vl_eq]
  have gs : ∀ a, a ≠ 1 → a ≠ 5 → gX (wX s1 5 0 8 1) a = gX s a := fun a h1 h5 => by
    funext j k
    rw [gX_wX, if_neg h5, x3.1 a h1]
  have c1 : co (wX s1 5 0 8 1) 1 = co s 0 := by rw [co_o (Fr.wX (i := 5)) (by decide)]; exact x2
  have gt : ∀ b, b ≠ 0 → b ≠ 20 → b ≠ 22 → gM (wM t1 0 38 1) b = gM t b := fun b b0 b1 b2 => by
    funext k
    rw [gM_wM, if_neg b0, y3 b b0 b1 b2]
  have gt0 : ∀ k, k ≠ 38 → k ≠ 39 → gM (wM t1 0 38 1) 0 k = gM t 0 k := fun k h1 h2 => by
    rw [gM_wM, if_pos rfl, if_neg h1, y4 k h2]
  refine ⟨1, _, _, rfl, rfl, ?_⟩
  obtain ⟨-, cl, kp, fd, tp, sh⟩ := h
  have cc : ∀ i, i ≠ 1 → i ≠ 5 → co (wX s1 5 0 8 1) i = co s i := fun i h1 h5 => by unfold co; rw [gs i h1 h5]
  refine ⟨⟨n, m, ?_, ?_⟩, fun i hi => ?_, ⟨?_, Or.inr ⟨?_, n, m, ?_, ?_⟩⟩, ?_, ?_, ?_⟩
  · rw [cc 0 (by decide) (by decide)]; exact ok
  · rw [cc 0 (by decide) (by decide)]; exact rl.q ⟨fun a h1 h2 => gt a (by omega) (by omega) (by omega), gt0 1 (by decide) (by decide), gt0 5 (by decide) (by decide), gt0 11 (by decide) (by decide)⟩
  · by_cases i1 : i = 1
    · subst i1; rw [c1]; exact cl 0 (by decide)
    · rw [cc i i1 (by omega)]; exact cl i hi
  · rw [gX_wX, if_pos rfl, if_pos rfl, if_pos rfl, gM_wM, if_pos rfl, if_pos rfl]
  · rw [gX_wX, if_pos rfl, if_pos rfl, if_pos rfl]
  · rw [c1]; exact ok
  · rw [c1]
    have : gM (wM t1 0 38 1) 20 = gM t1 20 := by funext k; rw [gM_wM, if_neg (by decide)]
    rw [this]; exact y2
  · intro k hk
    rw [gX_wX, if_pos rfl, if_neg (by decide), x3.1 5 (by decide), gt 10 (by decide) (by decide) (by decide)]
    exact fd k hk
  · unfold Tp at tp ⊢
    rw [gs 8 (by decide) (by decide), gt0 25 (by decide) (by decide), gt 15 (by decide) (by decide) (by decide)]
    exact tp
  · intro q hq
    rw [gs (9 + q) (by omega) (by omega), gt 16 (by decide) (by decide) (by decide), gt 17 (by decide) (by decide) (by decide)]
    have e1 : gL (wX s1 5 0 8 1) = gL s := by rw [gL_wX]; exact x3.2
    have e2 : gN (wM t1 0 38 1) = gN t := by rw [gN_wM]; exact y5
    rw [e1, e2]
    exact sh q hq
theorem op_undo {s : SX} {t : SM} (h : Inv s t) : Sm (fX5_undo s) (fX6_undo t) := by
  obtain ⟨n0, m0, ok0, rl0⟩ := h.1
  obtain ⟨k1, k2⟩ := h.2.2.1
  unfold fX5_undo fX6_undo
  rw [← k1]
  rcases k2 with k2 | ⟨k2, n, m, ok, im⟩
  · rw [if_pos k2, if_pos k2]; exact fin3 h
  · have n1 : ¬ gX s 5 0 8 = 0 := by rw [k2]; decide
    obtain ⟨s1, x1, x2, x3⟩ := x_become (i := 0) (j := 1) (s := s) (by decide) (h.2.1 0 (by decide)) (h.2.1 1 (by decide))
    obtain ⟨t1, y1, y2, y3, y4, y5⟩ := m_inn (z := 20) (Or.inl rfl) (t := t) rl0.2.1 ok im
    rw [if_neg n1, if_neg n1, x1, y1, bd_one, bd_one]
    have e1 : gX s1 0 10 10 = nI n := by
      have := ok.2.2.1
      rw [← x2] at this
      exact this
    rw [e1, y2.2.2.1]
    have mo : Mo t t1 := ⟨y4 38 (by decide) (by decide) (by decide), y3 20 (by decide) (by decide), y3 10 (by decide) (by decide), y4 25 (by decide) (by decide) (by decide), y3 15 (by decide) (by decide), y3 16 (by decide) (by decide), y3 17 (by decide) (by decide), by rw [y5]⟩
    exact Sm.of (h.new x3 mo ⟨n, m, by rw [x2]; exact ok, by rw [x2]; exact y2⟩ (by rw [x2]; exact h.2.1 1 (by decide)))
