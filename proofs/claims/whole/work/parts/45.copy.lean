/-! ===== a part of a sheet is copied ===== -/
theorem lg_pos (x y : Int64) : (0 < lg_cmp x y) = (y < x) := by
  unfold lg_cmp
  apply propext
  by_cases h : x > y
  · rw [if_pos h]; exact ⟨fun _ => h, fun _ => by decide⟩
  · rw [if_neg h]
    by_cases h2 : x = y
    · rw [if_pos h2]; exact ⟨fun q => absurd q (by decide), fun q => absurd q h⟩
    · rw [if_neg h2]; exact ⟨fun q => absurd q (by decide), fun q => absurd q h⟩
theorem lg_neg (x y : Int64) : (lg_cmp x y < 0) = (x < y) := by
  unfold lg_cmp
  apply propext
  by_cases h : x > y
  · rw [if_pos h]; exact ⟨fun q => absurd q (by decide), fun q => absurd (Int64.lt_trans q h) (Int64.lt_irrefl)⟩
  · rw [if_neg h]
    by_cases h2 : x = y
    · rw [if_pos h2]; exact ⟨fun q => absurd q (by decide), fun q => absurd (h2 ▸ q) (Int64.lt_irrefl)⟩
    · rw [if_neg h2]
      refine ⟨fun _ => ?_, fun _ => by decide⟩
      exact Int64.lt_of_le_of_ne (Int64.not_lt.mp h) h2
theorem x_hasRow {s : SX} {i w : Nat} (hw : w < 41) {a l : Int32} (e : gX s (9 + i) 0 2 = nI w) (h1 : ¬ a < 0) (h2 : ¬ l < 0) : fX3_hasRow i a l s = some (if (w : Int) < a.toInt + l.toInt then 0 else 1, s) := by
  unfold fX3_hasRow
  rw [if_neg h1, if_neg h2, e]
  rw [Int32.lt_iff_toInt_lt, Int32.toInt_zero] at h1 h2
  have a1 := Int32.toInt_lt a
  have a2 := Int32.toInt_lt l
  have e2 : (Int32.toInt64 (nI w) < Int32.toInt64 a + Int32.toInt64 l) = ((w : Int) < a.toInt + l.toInt) := by
    rw [Int64.lt_iff_toInt_lt, Int64.toInt_add, Int32.toInt_toInt64, Int32.toInt_toInt64, Int32.toInt_toInt64, nI_toInt (by omega), Int.bmod_eq_of_le (by omega) (by omega)]
  have e3 := (lg_pos _ _).trans e2
  by_cases h : (w : Int) < a.toInt + l.toInt
  · rw [if_pos (by rw [e3]; exact h), if_pos h]
  · rw [if_neg (by rw [e3]; exact h), if_neg h]
theorem sh_part {s : SX} {t : SM} {q w : Nat} {a l : Int32} (hq : q < 4) (hw : w < 41) (a3 : gX s (9 + q) 0 2 = nI w) (a4 : gM t 17 q = nI w) : (∃ x y, a = nI x ∧ l = nI y ∧ x + y ≤ w ∧ fX6_isPart (nI q) a l t = some (1, t) ∧ fX3_hasRow q a l s = some (1, s)) ∨ (fX6_isPart (nI q) a l t = some (0, t) ∧ fX3_hasRow q a l s = some (0, s)) := by
  rcases m_part (t := t) (a := a) (l := l) hq hw a4 with ⟨x, y, e1, e2, e3, e4⟩ | ⟨e1, e2⟩
  · refine Or.inl ⟨x, y, e1, e2, e3, e4, ?_⟩
    have n1 : ¬ a < 0 := by rw [e1]; exact nI_pos (by omega)
    have n2 : ¬ l < 0 := by rw [e2]; exact nI_pos (by omega)
    rw [x_hasRow hw a3 n1 n2, e1, e2, nI_toInt (by omega), nI_toInt (by omega), if_neg (by omega)]
  · refine Or.inr ⟨e1, ?_⟩
    by_cases h1 : a < 0
    · unfold fX3_hasRow; rw [if_pos h1]
    by_cases h2 : l < 0
    · unfold fX3_hasRow; rw [if_neg h1, if_pos h2]
    rcases e2 with e2 | e2 | e2
    · exact absurd e2 h1
    · exact absurd e2 h2
    · rw [x_hasRow hw a3 h1 h2, if_pos e2]
theorem nI_mul40' {q k c : Nat} : (40 : Int32) * nI q + nI k + nI c = nI (40 * q + k + c) := by
  have e : (40 : Int32) = nI 40 := by decide
  rw [e]
  unfold nI
  rw [← Int32.ofNat_mul, ← Int32.ofNat_add, ← Int32.ofNat_add]
theorem m_copy2 {t : SM} {q z y : Nat} {g : Nat → Int64} (hq : q < 4) (hz : z + y ≤ 40) (hg : ∀ k, k < y → gN t 19 k = g k) : ∃ t', fX6_copy_138 400 (nI q) (nI z) (nI y) 0 t = some (nI y, t') ∧ gM t' = gM t ∧ ∀ k, gN t' 18 k = if 40 * q + z ≤ k ∧ k < 40 * q + z + y then g (k - (40 * q + z)) else gN t 18 k := by
  unfold fX6_copy_138
  have key := lp_inv (bot := fun _ _ _ _ _ => none) (body := fX6_copy_138b) (F := 400) (ap := fun (k : Tm Int32 4) c (a : SM) => k (nI q) (nI z) (nI y) (nI c) a) y (fun c a => gM a = gM t ∧ (∀ k, k < y → gN a 19 k = g k) ∧ ∀ k, gN a 18 k = if 40 * q + z ≤ k ∧ k < 40 * q + z + c then g (k - (40 * q + z)) else gN t 18 k) (fun r => r.1 = nI y ∧ gM r.2 = gM t ∧ ∀ k, gN r.2 18 k = if 40 * q + z ≤ k ∧ k < 40 * q + z + y then g (k - (40 * q + z)) else gN t 18 k) ?_ ?_ t ⟨rfl, hg, ?_⟩ (by omega)
  · obtain ⟨⟨u, t'⟩, e1, e2, e3, e4⟩ := key
    have e2 : u = nI y := e2
    rw [← e2]
    exact ⟨t', by rw [e2] at e1 ⊢; exact e1, e3, e4⟩
  · intro k c a hc ⟨h1, h2, h3⟩
    refine ⟨wN a 18 (40 * q + z + c) (gN a 19 c), ?_, ?_, ?_, ?_⟩
    · show fX6_copy_138b k (nI q) (nI z) (nI y) (nI c) a = _
      unfold fX6_copy_138b
      rw [if_neg (nI_ge hc (by omega)), nI_mul40', ixg_nI (show c < 40 by omega) (by decide), ixg_nI (show 40 * q + z + c < 160 by omega) (by decide), vl_eq, vl_eq, ← nI_succ]
    · rw [gM_wN]; exact h1
    · intro k hk
      rw [gN_wN, if_neg (by decide)]; exact h2 k hk
    · intro k
      rw [gN_wN, if_pos (Eq.refl 18), h3 k, h2 c hc]
      by_cases e : k = 40 * q + z + c
      · rw [if_pos e, if_pos (by omega), e]; congr 1; omega
      · rw [if_neg e]
        by_cases e2 : 40 * q + z ≤ k ∧ k < 40 * q + z + c
        · rw [if_pos e2, if_pos (by omega)]
        · rw [if_neg e2, if_neg (by omega)]
  · intro k a ⟨h1, h2, h3⟩
    refine ⟨(nI y, a), ?_, rfl, h1, h3⟩
    show fX6_copy_138b k (nI q) (nI z) (nI y) (nI y) a = _
    unfold fX6_copy_138b
    rw [if_pos (nI_le (Nat.le_refl y) (by omega))]
  · intro k
    rw [if_neg (by omega)]
theorem m_copy1 {t : SM} {p x q z y : Nat} (hp : p < 4) (hq : q < 4) (hx : x + y ≤ 40) (hz : z + y ≤ 40) : ∃ t', fX6_copy_101 400 (nI p) (nI x) (nI q) (nI z) (nI y) 0 t = some (nI y, t') ∧ gM t' = gM t ∧ ∀ k, gN t' 18 k = if 40 * q + z ≤ k ∧ k < 40 * q + z + y then gN t 18 (40 * p + x + (k - (40 * q + z))) else gN t 18 k := by
  unfold fX6_copy_101
  have key := lp_inv (bot := fun _ _ _ _ _ _ _ => none) (body := fX6_copy_101b) (F := 400) (ap := fun (k : Tm Int32 6) c (a : SM) => k (nI p) (nI x) (nI q) (nI z) (nI y) (nI c) a) y (fun c a => gM a = gM t ∧ gN a 18 = gN t 18 ∧ ∀ k, k < c → gN a 19 k = gN t 18 (40 * p + x + k)) (fun r => r.1 = nI y ∧ gM r.2 = gM t ∧ ∀ k, gN r.2 18 k = if 40 * q + z ≤ k ∧ k < 40 * q + z + y then gN t 18 (40 * p + x + (k - (40 * q + z))) else gN t 18 k) ?_ ?_ t ⟨rfl, rfl, fun k hk => absurd hk (Nat.not_lt_zero k)⟩ (by omega)
  · obtain ⟨⟨u, t'⟩, e1, e2, e3, e4⟩ := key
    have e2 : u = nI y := e2
    exact ⟨t', by rw [e2] at e1; exact e1, e3, e4⟩
  · intro k c a hc ⟨h1, h2, h3⟩
    refine ⟨wN a 19 c (gN a 18 (40 * p + x + c)), ?_, ?_, ?_, ?_⟩
    · show fX6_copy_101b k (nI p) (nI x) (nI q) (nI z) (nI y) (nI c) a = _
      unfold fX6_copy_101b
      rw [if_neg (nI_ge hc (by omega)), nI_mul40', ixg_nI (show 40 * p + x + c < 160 by omega) (by decide), ixg_nI (show c < 40 by omega) (by decide), vl_eq, vl_eq, ← nI_succ]
    · rw [gM_wN]; exact h1
    · funext k
      rw [gN_wN, if_neg (by decide), h2]
    · intro k hk
      rw [gN_wN, if_pos (Eq.refl 19)]
      by_cases e : k = c
      · rw [if_pos e, e, h2]
      · rw [if_neg e]; exact h3 k (by omega)
  · intro k a ⟨h1, h2, h3⟩
    obtain ⟨t', f1, f2, f3⟩ := m_copy2 (t := a) hq hz h3
    refine ⟨(nI y, t'), ?_, rfl, f2.trans h1, fun k => ?_⟩
    · show fX6_copy_101b k (nI p) (nI x) (nI q) (nI z) (nI y) (nI y) a = _
      unfold fX6_copy_101b
      rw [if_pos (nI_le (Nat.le_refl y) (by omega)), vl_eq, f1]
    · rw [f3 k, h2]
theorem op_copy {s : SX} {t : SM} (h : Inv s t) (a b c d e : Int32) : Sm (fX5_copy a b c d e s) (fX6_copy a b c d e t) := by
  have z0 : (0 : Int32) = 0 := Eq.refl 0
  have z1 : ¬ (1 : Int32) = 0 := by decide
  unfold fX5_copy fX6_copy
  rcases sh_pick a with ⟨p1, p2⟩ | ⟨p, hp, ea, p1, p2⟩
  · rw [p1, p2, bd_one, bd_one, om_none, if_pos z0]
    rcases sh_pick c with ⟨q1, q2⟩ | ⟨q, hq, ec, q1, q2⟩
    · rw [q1, bd_one, om_none]; exact fin0 h
    · rw [q1, bd_one, om_some hq]; exact fin0 h
  rw [p1, p2, bd_one, bd_one, om_some hp, if_neg z1]
  rcases sh_pick c with ⟨q1, q2⟩ | ⟨q, hq, ec, q1, q2⟩
  · rw [q1, q2, bd_one, bd_one, om_none, if_pos z0]
    exact fin0 h
  obtain ⟨a1, a2, a3, ⟨w, hw, a4⟩, a5⟩ := h.2.2.2.2.2 p hp
  obtain ⟨b1, b2, b3, ⟨v, hv, b4⟩, b5⟩ := h.2.2.2.2.2 q hq
  rw [q1, q2, bd_one, bd_one, om_some hq, if_neg z1, ea, ec, ixg_nI hp (by decide)]
  unfold fX3_isMissing
  rw [a1]
  by_cases k1 : gM t 16 p = 0
  · rw [if_pos k1, if_pos k1, bd_one, if_neg z1]; exact fin5 h
  rw [if_neg k1, if_neg k1, bd_one, if_pos z0, ixg_nI hq (by decide), b1]
  by_cases k2 : gM t 16 q = 0
  · rw [if_pos k2, if_pos k2, bd_one, if_neg z1]; exact fin5 h
  rw [if_neg k2, if_neg k2, bd_one, if_pos z0, ixg_nI hp (by decide), ixg_nI hq (by decide), a1, b1]
  by_cases k3 : gM t 16 p = gM t 16 q
  · rw [if_pos k3, if_pos k3]
    rcases sh_part (s := s) (t := t) (a := b) (l := e) hp hw (a3.trans a4) a4 with ⟨x, y, eb, ee, xy, c1, c2⟩ | ⟨c1, c2⟩
    · rw [c1, c2, bd_one, bd_one, if_neg z1, if_neg z1]
      rcases sh_part (s := s) (t := t) (a := d) (l := e) hq hv (b3.trans b4) b4 with ⟨z, y2, ed, ee2, zy, d1, d2⟩ | ⟨d1, d2⟩
      · rw [d1, d2, bd_one, bd_one, if_neg z1, if_neg z1]
        have ey : y2 = y := (nI_eq (by omega) (by omega)).mp (ee2.symm.trans ee)
        subst ey
        obtain ⟨t', f1, f2, f3⟩ := m_copy1 (t := t) (p := p) (x := x) (q := q) (z := z) (y := y2) hp hq (by omega) (by omega)
        have cx := nI_clamp (show x < 2 ^ 31 by omega)
        have cz := nI_clamp (show z < 2 ^ 31 by omega)
        have cy := nI_clamp (show y2 < 2 ^ 31 by omega)
        rw [vl_eq, vl_eq, eb, ed, ee, f1, gd_pos ⟨nI_pos (by omega), nI_pos (by omega), nI_pos (by omega), by rw [cx, cy]; omega, by rw [cz, cy]; omega⟩, cx, cy, cz]
        refine ⟨nI y2, _, t', rfl, rfl, inv_sheets h (fun a ha => by rw [gX_rL]) (fun j _ _ => by rw [f2]) ?_⟩
        intro i hi
        obtain ⟨g1, g2, g3, g4, g5⟩ := h.2.2.2.2.2 i hi
        rw [gX_rL, f2]
        refine ⟨g1, g2, g3, g4, fun k hk => ?_⟩
        rw [f3, gL_rL]
        by_cases hiq : i = q
        · subst hiq
          rw [if_pos rfl]
          unfold va_cpy
          by_cases hk2 : z ≤ k ∧ k < z + y2
          · rw [if_pos hk2, if_pos (by omega), a5 _ (by omega)]; congr 1; omega
          · rw [if_neg hk2, if_neg (by omega)]; exact g5 k hk
        · rw [if_neg hiq, if_neg (by omega)]; exact g5 k hk
      · rw [d1, d2, bd_one, bd_one, if_pos z0, if_pos z0]; exact fin0 h
    · rw [c1, c2, bd_one, bd_one, if_pos z0, if_pos z0]; exact fin0 h
  · rw [if_neg k3, if_neg k3]; exact fin2 h
