/-! ===== reading a court: treaties, any item ===== -/
section Items2
variable {s0 : SX} {t0 : SM} {y : Nat → Int32} {z : Nat} {r : Co} {s : SX} {t : SM} {b e : Nat}
theorem num_val (h : RR s0 t0 y z r s t b e) {hi : Int32} {v : Nat} {s' : SX} (hv : v < 1001) (n1 : fX4_takeNumber hi s = some (nI v, s')) : gX s 8 0 2 = 2 ∧ gX s 8 0 5 = nI v := by
  have neg : ¬ (-1 : Int32) = nI v := fun w => by
    have := nI_pos (n := v) (by omega)
    rw [← w] at this
    exact this (by decide)
  obtain ⟨s1, t1, b1, e1, a1, -⟩ := rr_adv h
  unfold fX4_takeNumber at n1
  by_cases k : gX s 8 0 2 = 2
  · rw [if_pos k] at n1
    by_cases k2 : gX s 8 0 5 ≤ hi
    · rw [if_pos k2, vl_eq, a1, bd_one] at n1
      have := congrArg (fun o => (o.map Prod.fst)) n1
      simp only [Option.map_some, Option.some.injEq] at this
      exact ⟨k, this⟩
    · rw [if_neg k2] at n1
      have := congrArg (fun o => (o.map Prod.fst)) n1
      simp only [Option.map_some, Option.some.injEq] at this
      exact absurd this neg
  · rw [if_neg k] at n1
    have := congrArg (fun o => (o.map Prod.fst)) n1
    simp only [Option.map_some, Option.some.injEq] at this
    exact absurd this neg
theorem tok2 (h : Tok y z s t b e) : ((gX s 8 0 2 = 2) = (gM t 0 26 = 2)) ∧ (gX s 8 0 2 = 2 → gX s 8 0 5 = gM t 0 30) := by
  obtain ⟨-, -, -, -, -, -, cs⟩ := h
  rcases cs with ⟨-, c1, c2⟩ | ⟨-, -, c1, c2, -⟩ | ⟨-, c1, c2, v, -, c3, c4⟩ | ⟨-, c1, c2, -⟩ | ⟨-, c1, c2, -⟩
  · rw [c1, c2]; exact ⟨rfl, fun w => absurd w (by decide)⟩
  · rw [c1, c2]; exact ⟨rfl, fun w => absurd w (by decide)⟩
  · rw [c1, c2]; exact ⟨rfl, fun _ => c3.trans c4.symm⟩
  · rw [c1, c2]; exact ⟨propext ⟨fun w => absurd w (by decide), fun w => absurd w (by decide)⟩, fun w => absurd w (by decide)⟩
  · rw [c1, c2]; exact ⟨propext ⟨fun w => absurd w (by decide), fun w => absurd w (by decide)⟩, fun w => absurd w (by decide)⟩
theorem bad72 {u : SM} (hu : gM u 0 31 = 0) (l : Int32) : fX6_wantTreaty_72 l 0 u = some ((), u) := by
  unfold fX6_wantTreaty_72
  rw [gd_pos (Or.inl (Eq.refl 0)), vl_eq, wM_self hu, bad_num hu, bd_one, vl_eq, bad_word hu, bd_one, bad_num hu, bd_one, vl_eq, bad_may hu, bd_one, vl_eq, if_pos hu]
theorem it_tr2 (h : RR s0 t0 y z r s t b e) {c v : Nat} (hcb : c < b) (hv : v ≤ 5) (hlt : r 10 11 < 12) (hne : gX s 8 0 2 = 2 → gX s 8 0 5 ≠ nI v) : Oo s0 t0 y z c (fX4_readTreaty_52 (nI v) s) (fX6_wantTreaty_72 (nI v) 1 t) := by
  unfold fX4_readTreaty_52 fX6_wantTreaty_72
  rw [gd_pos (Or.inr (Eq.refl 1)), vl_eq, wM_self h.2.2.2.2.1]
  rcases rr_num h (hi := 5) (by decide) with ⟨q, s2, t2, b2, e2, n1, n2, n3, n4, n5⟩ | ⟨w, t2, n1, n2, n3⟩
  · have nv := num_val h (by omega) n1
    have n1 : fX4_takeNumber 5 s = some (nI q, s2) := n1
    have n2 : fX6_wantNumber 0 5 t = some (nI q, t2) := n2
    have vq : nI v ≠ nI q := fun w => hne nv.1 (by rw [nv.2, w])
    rw [n1, n2, bd_one, bd_one, vl_eq, vl_eq, if_neg (nI_pos (by omega))]
    rcases rr_word n4 (k := 4) (by decide) with ⟨s3, t3, b3, e3, w1, w2, w3, w4⟩ | ⟨t3, w1, w2, w3⟩
    · have w2 : fX6_wantWord 138767 t2 = some ((), t3) := w2
      rw [w1, w2, bd_one, bd_one, if_neg (show ¬ (1 : Int32) = 0 by decide)]
      rcases rr_num w3 (hi := 999) (by decide) with ⟨g, s4, t4, b4, e4, m1, m2, m3, m4, m5⟩ | ⟨w, t4, m1, m2, m3⟩
      · have m1 : fX4_takeNumber 999 s3 = some (nI g, s4) := m1
        have m2 : fX6_wantNumber 0 999 t3 = some (nI g, t4) := m2
        rw [m1, m2, bd_one, bd_one, vl_eq, vl_eq, if_pos (Int32.not_lt.mp (nI_pos (by omega)))]
        have fin : ∀ (sB : SX) (tB : SM) (bB eB u : Nat), RR s0 t0 y z r sB tB bB eB → c < bB → u ≤ 999 → Oo s0 t0 y z c (fX4_readTreaty_111 (nI v) (nI q) (nI g) (nI u) sB) (if gM tB 0 31 = 0 then some ((), tB) else bd (fX6_addTreaty (nI v) (nI q) (nI g) (nI u) tB) fun _ s18 => some ((), s18)) := by
          intro sB tB bB eB u hB hb2 hu
          have gB : ¬ gM tB 0 31 = 0 := by rw [hB.2.2.2.2.1]; decide
          obtain ⟨r', vv, s', t', x1, x2, x3⟩ := rr_addT hB hlt (k := nI v) (f := nI q) (q := nI g) (w := nI u) ⟨v, by omega, rfl⟩ ⟨q, by omega, rfl⟩ vq ⟨g, by omega, rfl⟩ ⟨u, by omega, rfl⟩
          unfold fX4_readTreaty_111
          rw [vl_eq, if_pos (Int32.not_lt.mp (nI_pos (by omega))), x1, bd_one, if_neg gB, x2, bd_one]
          exact Or.inl ⟨r', s', t', bB, eB, rfl, rfl, x3, hb2⟩
        rcases rr_may m4 (k := 5) (hi := 999) (by decide) (by decide) 999 with ⟨y1, y2⟩ | ⟨s5, u, s6, t6, b6, e6, y1, y2, y3, y4, y5, y6⟩ | ⟨s5, w, t6, y1, y2, y3, y4⟩
        · have y2 : fX6_mayWant 11450658 0 999 999 t4 = some (999, t4) := y2
          rw [y1, y2, bd_one, bd_one, vl_eq, if_pos (Eq.refl (0 : Int32))]
          exact fin s4 t4 b4 e4 999 m4 (by omega) (by decide)
        · have y3 : fX6_mayWant 11450658 0 999 999 t4 = some (nI u, t6) := y3
          have y2 : fX4_takeNumber 999 s5 = some (nI u, s6) := y2
          rw [y1, y3, bd_one, bd_one, vl_eq, if_neg (show ¬ (1 : Int32) = 0 by decide), y2, bd_one]
          exact fin s6 t6 b6 e6 u y5 (by omega) y4
        · have y3 : fX6_mayWant 11450658 0 999 999 t4 = some (w, t6) := y3
          have y2 : fX4_takeNumber 999 s5 = some (-1, s5) := y2
          unfold fX4_readTreaty_111
          rw [y1, y3, bd_one, bd_one, if_neg (show ¬ (1 : Int32) = 0 by decide), y2, bd_one, vl_eq, if_neg (show ¬ (0 : Int32) ≤ -1 by decide), vl_eq, if_pos y4.2.2.2.1]
          exact Or.inr ⟨_, _, rfl, rfl, y4⟩
      · have m1 : fX4_takeNumber 999 s3 = some (-1, s3) := m1
        have m2 : fX6_wantNumber 0 999 t3 = some (w, t4) := m2
        have g := m3.2.2.2.1
        rw [m1, m2, bd_one, bd_one, vl_eq, vl_eq, if_neg (show ¬ (0 : Int32) ≤ -1 by decide), bad_may g, bd_one, vl_eq, if_pos g]
        exact Or.inr ⟨_, _, rfl, rfl, m3⟩
    · have w2 : fX6_wantWord 138767 t2 = some ((), t3) := w2
      have g := w3.2.2.2.1
      rw [w1, w2, bd_one, bd_one, if_pos (Eq.refl (0 : Int32)), bad_num g, bd_one, vl_eq, bad_may g, bd_one, vl_eq, if_pos g]
      exact Or.inr ⟨_, _, rfl, rfl, w3⟩
  · have n1 : fX4_takeNumber 5 s = some (-1, s) := n1
    have n2 : fX6_wantNumber 0 5 t = some (w, t2) := n2
    have g := n3.2.2.2.1
    rw [n1, n2, bd_one, bd_one, vl_eq, vl_eq, if_pos (show (-1 : Int32) < 0 by decide), bad_word g, bd_one, bad_num g, bd_one, vl_eq, bad_may g, bd_one, vl_eq, if_pos g]
    exact Or.inr ⟨_, _, rfl, rfl, n3⟩
theorem it_treaty (h : RR s0 t0 y z r s t b e) (hbe : b < e) : Oo s0 t0 y z b (fX4_readTreaty s) (fX6_wantTreaty t) := by
  have h5 := h.2.2.2.2.1
  have hr := h.2.2.2.2.2.1
  obtain ⟨n, m, o1, o2, o3⟩ := h.2.2.2.2.2.2
  have g1 : ¬ gM t 0 31 = 0 := by rw [h5]; decide
  have c11 : gX s 2 10 11 = nI m := by
    have := o1.2.2.2.1
    rw [← hr] at this
    exact this
  unfold fX4_readTreaty fX6_wantTreaty fX6_wantTreaty_15
  rw [c11, o3.2.2.2.1]
  by_cases hm : m < 12
  · have l1 : nI m < 12 := by rw [(lt12 o1.2.1).1]; exact hm
    rw [if_pos l1, if_neg (Int32.not_le.mpr l1), gd_pos (Or.inr (Eq.refl 1)), vl_eq, wM_self h5, if_neg g1]
    have hlt : r 10 11 < 12 := by rw [o1.2.2.2.1]; exact l1
    obtain ⟨s1, t1, b1, e1, a1, a2, a3, a4⟩ := rr_adv h
    unfold fX6_wantTreaty_29 fX6_wantTreaty_71 fX6_wantTreaty_67
    rw [a1, a2, bd_one, bd_one]
    rcases rr_num a3 (hi := 5) (by decide) with ⟨v, s2, t2, b2, e2, n1, n2, n3, n4, n5⟩ | ⟨w, t2, n1, n2, n3⟩
    · have n1 : fX4_takeNumber 5 s1 = some (nI v, s2) := n1
      have n2 : fX6_wantNumber 0 5 t1 = some (nI v, t2) := n2
      rw [n1, n2, bd_one, bd_one, vl_eq, vl_eq, if_neg (nI_pos (by omega))]
      rcases rr_word n4 (k := 3) (by decide) with ⟨s3, t3, b3, e3, w1, w2, w3, w4⟩ | ⟨t3, w1, w2, w3⟩
      · have w2 : fX6_wantWord 555 t2 = some ((), t3) := w2
        have g3 : ¬ gM t3 0 31 = 0 := by rw [w3.2.2.2.2.1]; decide
        obtain ⟨k1, k2⟩ := tok2 w3.2.2.2.1
        rw [w1, w2, bd_one, bd_one, if_neg (show ¬ (1 : Int32) = 0 by decide), if_neg g3]
        by_cases kd : gX s3 8 0 2 = 2
        · have kd2 : gM t3 0 26 = 2 := by rw [← k1]; exact kd
          have kv := k2 kd
          rw [if_pos kd, if_pos kd2, ← kv]
          by_cases ev : gX s3 8 0 5 = nI v
          · have bb := rr_bad w3
            rw [if_pos ev, if_pos ev]
            have e72 : fX6_wantTreaty_72 (nI v) 0 t3 = some ((), wM t3 0 31 0) := by
              have := bad72 bb.2.2.2.1 (nI v)
              unfold fX6_wantTreaty_72 at this ⊢
              rw [gd_pos (Or.inl (Eq.refl 0)), vl_eq] at this ⊢
              rw [wM_self bb.2.2.2.1] at this
              exact this
            rw [e72]
            exact Or.inr ⟨_, _, rfl, rfl, bb⟩
          · rw [if_neg ev, if_neg ev]
            exact it_tr2 w3 (by omega) n3 hlt (fun _ => ev)
        · have kd2 : ¬ gM t3 0 26 = 2 := by rw [← k1]; exact kd
          rw [if_neg kd, if_neg kd2]
          exact it_tr2 w3 (by omega) n3 hlt (fun w => absurd w kd)
      · have w2 : fX6_wantWord 555 t2 = some ((), t3) := w2
        have g := w3.2.2.2.1
        rw [w1, w2, bd_one, bd_one, if_pos (Eq.refl (0 : Int32)), if_pos g, bad72 g]
        exact Or.inr ⟨_, _, rfl, rfl, w3⟩
    · have n1 : fX4_takeNumber 5 s1 = some (-1, s1) := n1
      have n2 : fX6_wantNumber 0 5 t1 = some (w, t2) := n2
      have g := n3.2.2.2.1
      rw [n1, n2, bd_one, bd_one, vl_eq, vl_eq, if_pos (show (-1 : Int32) < 0 by decide), bad_word g, bd_one, if_pos g, bad72 g]
      exact Or.inr ⟨_, _, rfl, rfl, n3⟩
  · have l1 : ¬ nI m < 12 := by rw [(lt12 o1.2.1).1]; exact hm
    have bb := rr_bad h
    have g := bb.2.2.2.1
    rw [if_neg l1, if_pos (Int32.not_lt.mp l1), gd_pos (Or.inl (Eq.refl 0)), vl_eq, if_pos g]
    unfold fX6_wantTreaty_29 fX6_wantTreaty_71
    rw [bad_num g, bd_one, vl_eq, bad_word g, bd_one, if_pos g, bad72 g]
    exact Or.inr ⟨_, _, rfl, rfl, bb⟩
theorem oo_gd {A : Option (Int32 × SX)} {B : Option (Unit × SM)} (h : Oo s0 t0 y z b A B) : Oo s0 t0 y z b (bd A fun v6 s7 => gd (v6 = 0 ∨ v6 = 1) (some (v6, s7))) (bd B fun _ s11 => some ((), s11)) := by
  rcases h with ⟨r', s', t', b', e', h1, h2, h3, h4⟩ | ⟨s', t', h1, h2, h3⟩
  · rw [h1, h2, bd_one, bd_one, gd_pos (Or.inr (Eq.refl 1))]
    exact Or.inl ⟨r', s', t', b', e', rfl, rfl, h3, h4⟩
  · rw [h1, h2, bd_one, bd_one, gd_pos (Or.inl (Eq.refl 0))]
    exact Or.inr ⟨s', t', rfl, rfl, h3⟩
def nm (l : Nat) : Nat := ([11, 6, 7, 8, 9, 10] : List Nat).getD l 0
theorem x_nm {l : Nat} (hl : l < 6) (s : SX) : fX4_nameOfKind (nI l) s = some (nm l, s) := by
  have : l = 0 ∨ l = 1 ∨ l = 2 ∨ l = 3 ∨ l = 4 ∨ l = 5 := by omega
  rcases this with rfl | rfl | rfl | rfl | rfl | rfl <;> rfl
theorem nm_lt {l : Nat} (hl : l < 6) : nm l < 15 := by
  have : ∀ l : Nat, l < 6 → nm l < 15 := by decide
  exact this l hl
theorem kind_s {F l : Nat} (hl : l < 6) {w : Bool} (h : fX4_isWord (nm l) s = some (b2i w, s)) : lp (fun _ _ => none) fX4_readItem_32b (F + 1) (nI l) s = if w = true then (bd (fX4_readChild (nI l) s) fun v6 s7 => gd (v6 = 0 ∨ v6 = 1) (some (v6, s7))) else lp (fun _ _ => none) fX4_readItem_32b F (nI (l + 1)) s := by
  show fX4_readItem_32b (lp (fun _ _ => none) fX4_readItem_32b F) (nI l) s = _
  generalize lp (fun _ _ => none) fX4_readItem_32b F = kk
  unfold fX4_readItem_32b
  rw [if_neg (show ¬ (6 : Int32) ≤ nI l from nI_ge (b := 6) hl (by decide)), x_nm hl, bd_one, gd_pos (nm_lt hl), h, bd_one, vl_eq, ← nI_succ]
  cases w with
  | true => rw [if_neg (show ¬ b2i true = 0 by decide), if_pos rfl]
  | false => rw [if_pos (show b2i false = 0 by decide), if_neg (by decide)]
theorem it_item (h : RR s0 t0 y z r s t b e) : Oo s0 t0 y z b (fX4_readItem s) (fX6_wantItem t) := by
  have tz := h.2.2.1
  have tk := h.2.2.2.1
  have word : ∀ k, k < 15 → ∃ w : Bool, fX4_isWord k s = some (b2i w, s) ∧ fX6_isWord (cW k) t = some (b2i w, t) ∧ (w = true → b < e) := fun k hk => tok_word tz tk hk
  obtain ⟨w0, p0, q0, r0⟩ := word 0 (by decide)
  obtain ⟨w2, p2, q2, r2⟩ := word 2 (by decide)
  have q0 : fX6_isWord 223459 t = some (b2i w0, t) := q0
  have q2 : fX6_isWord 464134 t = some (b2i w2, t) := q2
  unfold fX4_readItem fX6_wantItem
  rw [p0, q0, bd_one, bd_one]
  cases w0 with
  | true =>
    rw [if_neg (show ¬ b2i true = 0 by decide), if_neg (show ¬ b2i true = 0 by decide)]
    exact oo_gd (it_king h (r0 rfl))
  | false =>
    rw [if_pos (show b2i false = 0 by decide), if_pos (show b2i false = 0 by decide), p2, q2, bd_one, bd_one]
    cases w2 with
    | true =>
      rw [if_neg (show ¬ b2i true = 0 by decide), if_neg (show ¬ b2i true = 0 by decide)]
      exact oo_gd (it_treaty h (r2 rfl))
    | false =>
      rw [if_pos (show b2i false = 0 by decide), if_pos (show b2i false = 0 by decide), vl_eq]
      obtain ⟨k0, x0, y0, z0⟩ := word (nm 0) (by decide)
      obtain ⟨k1, x1, y1, z1⟩ := word (nm 1) (by decide)
      obtain ⟨k2, x2, y2, z2⟩ := word (nm 2) (by decide)
      obtain ⟨k3, x3, y3, z3⟩ := word (nm 3) (by decide)
      obtain ⟨k4, x4, y4, z4⟩ := word (nm 4) (by decide)
      obtain ⟨k5, x5, y5, z5⟩ := word (nm 5) (by decide)
      have y0 : fX6_isWord 1758676 t = some (b2i k0, t) := y0
      have y1 : fX6_isWord 161370 t = some (b2i k1, t) := y1
      have y2 : fX6_isWord 453928 t = some (b2i k2, t) := y2
      have y3 : fX6_isWord 78204737 t = some (b2i k3, t) := y3
      have y4 : fX6_isWord 247664 t = some (b2i k4, t) := y4
      have y5 : fX6_isWord 410684 t = some (b2i k5, t) := y5
      have N : ¬ b2i true = 0 := by decide
      have Z : b2i false = 0 := by decide
      have kh : fX6_kindHere t = some (if k0 = true then 0 else if k1 = true then 1 else if k2 = true then 2 else if k3 = true then 3 else if k4 = true then 4 else if k5 = true then 5 else -1, t) := by
        unfold fX6_kindHere
        rw [y0, bd_one]
        cases k0 with
        | true => rw [if_neg N]; rfl
        | false =>
          rw [if_pos Z, y1, bd_one]
          cases k1 with
          | true => rw [if_neg N]; rfl
          | false =>
            rw [if_pos Z, y2, bd_one]
            cases k2 with
            | true => rw [if_neg N]; rfl
            | false =>
              rw [if_pos Z, y3, bd_one]
              cases k3 with
              | true => rw [if_neg N]; rfl
              | false =>
                rw [if_pos Z, y4, bd_one]
                cases k4 with
                | true => rw [if_neg N]; rfl
                | false =>
                  rw [if_pos Z, y5, bd_one]
                  cases k5 with
                  | true => rw [if_neg N]; rfl
                  | false => rw [if_pos Z]; rfl
      have yes : ∀ l : Nat, l < 6 → b < e → fX6_kindHere t = some (nI l, t) → Oo s0 t0 y z b (bd (fX4_readChild (nI l) s) fun v6 s7 => gd (v6 = 0 ∨ v6 = 1) (some (v6, s7))) (bd (fX6_kindHere t) fun v5 s6 => if v5 < 0 then vl (wM s6 0 31 0) fun s7 => some ((), s7) else bd (fX6_kindHere s6) fun v8 s9 => bd (fX6_wantChild v8 s9) fun _ s10 => some ((), s10)) := by
        intro l hl hbe hk
        rw [hk, bd_one, if_neg (nI_pos (by omega)), hk, bd_one]
        exact oo_gd (it_child h hbe ⟨l, hl, rfl⟩)
      show Oo s0 t0 y z b (lp (fun _ _ => none) fX4_readItem_32b (394 + 6) (nI 0) s) _
      rw [kind_s (by decide) x0]
      cases k0 with
      | true => rw [if_pos rfl]; exact yes 0 (by decide) (z0 rfl) kh
      | false =>
        rw [if_neg (by decide), kind_s (by decide) x1]
        cases k1 with
        | true => rw [if_pos rfl]; exact yes 1 (by decide) (z1 rfl) kh
        | false =>
          rw [if_neg (by decide), kind_s (by decide) x2]
          cases k2 with
          | true => rw [if_pos rfl]; exact yes 2 (by decide) (z2 rfl) kh
          | false =>
            rw [if_neg (by decide), kind_s (by decide) x3]
            cases k3 with
            | true => rw [if_pos rfl]; exact yes 3 (by decide) (z3 rfl) kh
            | false =>
              rw [if_neg (by decide), kind_s (by decide) x4]
              cases k4 with
              | true => rw [if_pos rfl]; exact yes 4 (by decide) (z4 rfl) kh
              | false =>
                rw [if_neg (by decide), kind_s (by decide) x5]
                cases k5 with
                | true => rw [if_pos rfl]; exact yes 5 (by decide) (z5 rfl) kh
                | false =>
                  have kh : fX6_kindHere t = some (-1, t) := kh
                  rw [if_neg (by decide), kh, bd_one, if_pos (show (-1 : Int32) < 0 by decide), vl_eq]
                  show Oo s0 t0 y z b (fX4_readItem_32b (lp _ _ 393) (nI 6) s) _
                  generalize lp _ fX4_readItem_32b 393 = kk
                  unfold fX4_readItem_32b
                  rw [if_pos (show (6 : Int32) ≤ nI 6 by decide)]
                  exact Or.inr ⟨_, _, rfl, rfl, rr_bad h⟩
end Items2
