/-! ===== the reference's plan ===== -/
def Mp (t t' : SM) : Prop := (∀ a, a ≠ 0 → a ≠ 9 → a ≠ 11 → gM t' a = gM t a) ∧ (∀ k, k ≠ 11 → k ≠ 14 → k ≠ 15 → k ≠ 16 → k ≠ 17 → k ≠ 18 → k ≠ 19 → gM t' 0 k = gM t 0 k) ∧ gN t' = gN t ∧ ∀ k, k < 41 → gM t' 9 k = gM t 9 k
theorem Ml.Mp {t t' : SM} (h : Ml t t') : Mp t t' := ⟨h.1, fun k a b c d _ _ _ => h.2.1 k a b c d, h.2.2.1, h.2.2.2⟩
theorem Mp.r11 {t0 t : SM} {f : Nat → Int32} (h : Mp t0 t) : Mp t0 (rM t 11 f) := ⟨fun a p q s => by rw [gM_rM, if_neg s]; exact h.1 a p q s, h.2.1, h.2.2.1, h.2.2.2⟩
theorem Mp.w9 {t0 t : SM} {k : Nat} {x : Int32} (h : Mp t0 t) (hk : 41 ≤ k) : Mp t0 (wM t 9 k x) := by
  refine ⟨fun a p q s => ?_, h.2.1, h.2.2.1, fun j hj => ?_⟩
  · funext b; rw [gM_wM, if_neg q, h.1 a p q s]
  · rw [gM_wM, if_pos rfl, if_neg (by omega)]; exact h.2.2.2 j hj
theorem Mp.w0 {t0 t : SM} {k : Nat} {x : Int32} (h : Mp t0 t) (hk : k = 11 ∨ k = 17 ∨ k = 18 ∨ k = 19) : Mp t0 (wM t 0 k x) := by
  refine ⟨fun a p q s => ?_, fun j a b c d e f g => ?_, h.2.2.1, h.2.2.2⟩
  · funext b; rw [gM_wM, if_neg p, h.1 a p q s]
  · rw [gM_wM, if_pos rfl, if_neg (by omega)]; exact h.2.1 j a b c d e f g
theorem rl_pback {n m : Nat} {r : Co} {t t2 : SM} (rl : Rl 0 n m r t) (ok : Ok n m r) (h : Mp t t2) (h11 : gM t2 0 11 = 0) : Rl 0 n m r t2 := by
  have hn := ok.1
  have hm := ok.2.1
  obtain ⟨a1, a2, a3, a4, a5, a6, a7, a8⟩ := rl
  have g := h.1
  have g9 := h.2.2.2
  refine ⟨a1, h11, ?_, ?_, ?_, fun c hc => ?_, fun j hj => ?_, ?_⟩
  · exact (h.2.1 1 (by decide) (by decide) (by decide) (by decide) (by decide) (by decide) (by decide)).trans a3
  · exact (h.2.1 5 (by decide) (by decide) (by decide) (by decide) (by decide) (by decide) (by decide)).trans a4
  · rw [g 1 (by decide) (by decide) (by decide)]; exact a5
  · rw [g 2 (by decide) (by decide) (by decide), g 3 (by decide) (by decide) (by decide), g 4 (by decide) (by decide) (by decide), g9 _ (by omega), g9 _ (by omega)]
    exact a6 c hc
  · rw [g 5 (by decide) (by decide) (by decide), g 6 (by decide) (by decide) (by decide), g 7 (by decide) (by decide) (by decide), g 8 (by decide) (by decide) (by decide), g9 _ (by omega)]
    exact a7 j hj
  · rw [g9 _ (by omega)]; exact a8
theorem mo_pback {t t2 : SM} (h : Mp t t2) : Mo t t2 := by
  have g := h.1
  exact ⟨h.2.1 38 (by decide) (by decide) (by decide) (by decide) (by decide) (by decide) (by decide), g 20 (by decide) (by decide) (by decide), g 10 (by decide) (by decide) (by decide), h.2.1 25 (by decide) (by decide) (by decide) (by decide) (by decide) (by decide) (by decide), g 15 (by decide) (by decide) (by decide), g 16 (by decide) (by decide) (by decide), g 17 (by decide) (by decide) (by decide), by rw [h.2.2.1]⟩
theorem rl_w0 {off n m k : Nat} {r : Co} {t : SM} {x : Int32} (rl : Rl off n m r t) (hk : k = 17 ∨ k = 18 ∨ k = 19) : Rl off n m r (wM t 0 k x) := by
  refine rl.q ⟨fun a h1 h2 => ?_, ?_, ?_, ?_⟩
  · funext b; rw [gM_wM, if_neg (by omega)]
  · rw [gM_wM, if_pos rfl, if_neg (by omega)]
  · rw [gM_wM, if_pos rfl, if_neg (by omega)]
  · rw [gM_wM, if_pos rfl, if_neg (by omega)]
theorem at1 {n m c : Nat} {r : Co} {t : SM} (rl : Rl 41 n m r t) : (gM t 0 11 + 1) + nI c = nI (41 + (1 + c)) := by
  rw [rl.2.1, show (1 : Int32) = nI 1 from rfl, at3]
theorem m_findsOne {t0 t : SM} {n m : Nat} {r : Co} (rl : Rl 41 n m r t) (ok : Ok n m r) (mp : Mp t0 t) : ∃ b, fX6_findsOne t = some b ∧ Rl 41 n m r b.2 ∧ Mp t0 b.2 ∧ (match fnd (P1 n m r) (0) (6 * n - 0) with
    | some p => b.1 = 1 ∧ gM b.2 0 18 = nI p
    | none => b.1 = 0) := by
  have hn := ok.1
  unfold fX6_findsOne fX6_findsOne_2
  rw [vl_eq]
  refine lp_fnd (body := fX6_findsOne_2b) (ap := fun (k : Tm Int32 1) p s => k (nI p) s) (P1 n m r) (fun s => Rl 41 n m r s ∧ Mp t0 s) (fun o b => Rl 41 n m r b.2 ∧ Mp t0 b.2 ∧ (match o with
    | some p => b.1 = 1 ∧ gM b.2 0 18 = nI p
    | none => b.1 = 0)) (6 * n) (0) ?_ ?_ ?_ (6 * n - 0) (0) 400 t (Nat.le_refl _) (by omega) (by omega) (by omega) ⟨rl, mp⟩
  · intro k p s lo hp ⟨q1, q2⟩ hP
    obtain ⟨d1, d2⟩ := div6 p (by omega)
    unfold P1 mv at hP
    simp only [Bool.and_eq_true, decide_eq_true_eq, Bool.not_eq_true', decide_eq_false_iff_not] at hP
    obtain ⟨⟨hd, hh⟩, hL⟩ := hP
    have r1 : Rl 41 n m (mvd r p) (wM s 9 (41 + (1 + p / 6)) (nI (p % 6))) := rl_hold (x := nI (p % 6)) q1 hn (show p / 6 < n by omega)
    have o1 : Ok n m (mvd r p) := ok_mvd ok
    obtain ⟨f, l1, -⟩ := m_looseSet r1 o1
    have r2 : Rl 41 n m (mvd r p) (rM (wM s 9 (41 + (1 + p / 6)) (nI (p % 6))) 11 f) := r1.q Mq.r11
    have r3 := rl_hold (x := r 3 (p / 6)) r2 hn (show p / 6 < n by omega)
    have e3 : crw (mvd r p) 3 (p / 6) (r 3 (p / 6)) = r := by unfold mvd; rw [crw_crw, crw_self rfl]
    rw [e3] at r3
    refine ⟨(1, wM (wM (rM (wM s 9 (41 + (1 + p / 6)) (nI (p % 6))) 11 f) 9 (41 + (1 + p / 6)) (r 3 (p / 6))) 0 18 (nI p)), ?_, rl_w0 r3 (by decide), ?_, rfl, ?_⟩
    · show fX6_findsOne_2b k (nI p) s = _
      unfold fX6_findsOne_2b
      rw [if_neg (show ¬ 6 * gM s 0 1 ≤ nI p by rw [q1.2.2.1, six_n hn]; exact nI_ge hp (by omega)), d2, d1, vl_eq, m_holder q1 hn (show p / 6 < n by omega), bd_one, vl_eq, m_lives q1 hn (show p / 6 < n by omega), bd_one, hd, if_neg (show ¬ b2i (!false) = 0 by decide), if_neg (fun w => hh w.symm), at1 q1, ixg_nI (by omega) (by decide), vl_eq, l1, bd_one, if_pos hL]
      unfold fX6_findsOne_69
      rw [vl_eq, at1 r2, ixg_nI (by omega) (by decide), vl_eq, if_neg (show ¬ (1 : Int32) = 0 by decide), vl_eq]
    · exact (((q2.w9 (by omega)).r11).w9 (by omega)).w0 (by decide)
    · show gM (wM _ 0 18 (nI p)) 0 18 = nI p
      rw [gM_wM, if_pos rfl, if_pos rfl]
  · intro k p s lo hp ⟨q1, q2⟩ hP
    obtain ⟨d1, d2⟩ := div6 p (by omega)
    have ge : ¬ 6 * gM s 0 1 ≤ nI p := by rw [q1.2.2.1, six_n hn]; exact nI_ge hp (by omega)
    unfold P1 mv at hP
    cases hd : dead r (p / 6) with
    | true =>
      refine ⟨s, ⟨q1, q2⟩, ?_⟩
      show fX6_findsOne_2b k (nI p) s = _
      unfold fX6_findsOne_2b fX6_findsOne_97
      rw [if_neg ge, d2, d1, vl_eq, m_holder q1 hn (show p / 6 < n by omega), bd_one, vl_eq, m_lives q1 hn (show p / 6 < n by omega), bd_one, hd, if_pos (show b2i (!true) = 0 by decide), vl_eq, ← nI_succ]
    | false =>
      by_cases hh : nI (p % 6) = r 3 (p / 6)
      · refine ⟨s, ⟨q1, q2⟩, ?_⟩
        show fX6_findsOne_2b k (nI p) s = _
        unfold fX6_findsOne_2b fX6_findsOne_97
        rw [if_neg ge, d2, d1, vl_eq, m_holder q1 hn (show p / 6 < n by omega), bd_one, vl_eq, m_lives q1 hn (show p / 6 < n by omega), bd_one, hd, if_neg (show ¬ b2i (!false) = 0 by decide), if_pos hh, vl_eq, ← nI_succ]
      · have hL : ¬ LW n m (mvd r p) = 0 := by
          intro w
          rw [hd] at hP
          simp [w] at hP
          exact hh hP.symm
        have r1 : Rl 41 n m (mvd r p) (wM s 9 (41 + (1 + p / 6)) (nI (p % 6))) := rl_hold (x := nI (p % 6)) q1 hn (show p / 6 < n by omega)
        have o1 : Ok n m (mvd r p) := ok_mvd ok
        obtain ⟨f, l1, -⟩ := m_looseSet r1 o1
        have r2 : Rl 41 n m (mvd r p) (rM (wM s 9 (41 + (1 + p / 6)) (nI (p % 6))) 11 f) := r1.q Mq.r11
        have r3 := rl_hold (x := r 3 (p / 6)) r2 hn (show p / 6 < n by omega)
        have e3 : crw (mvd r p) 3 (p / 6) (r 3 (p / 6)) = r := by unfold mvd; rw [crw_crw, crw_self rfl]
        rw [e3] at r3
        refine ⟨wM (rM (wM s 9 (41 + (1 + p / 6)) (nI (p % 6))) 11 f) 9 (41 + (1 + p / 6)) (r 3 (p / 6)), ⟨r3, (((q2.w9 (by omega)).r11).w9 (by omega))⟩, ?_⟩
        show fX6_findsOne_2b k (nI p) s = _
        unfold fX6_findsOne_2b
        rw [if_neg ge, d2, d1, vl_eq, m_holder q1 hn (show p / 6 < n by omega), bd_one, vl_eq, m_lives q1 hn (show p / 6 < n by omega), bd_one, hd, if_neg (show ¬ b2i (!false) = 0 by decide), if_neg hh, at1 q1, ixg_nI (by omega) (by decide), vl_eq, l1, bd_one, if_neg hL]
        unfold fX6_findsOne_69 fX6_findsOne_97
        rw [vl_eq, at1 r2, ixg_nI (by omega) (by decide), vl_eq, if_pos (show (0 : Int32) = 0 by decide), vl_eq, ← nI_succ]
  · intro k p s h1 h2 ⟨q1, q2⟩
    refine ⟨(0, s), ?_, q1, q2, rfl⟩
    show fX6_findsOne_2b k (nI p) s = _
    unfold fX6_findsOne_2b
    rw [if_pos (show 6 * gM s 0 1 ≤ nI p by rw [q1.2.2.1, six_n hn]; exact nI_le h1 (by omega))]
theorem m_findsBehind {t0 t : SM} {n m c : Nat} {r : Co} (rl : Rl 41 n m r t) (ok : Ok n m r) (mp : Mp t0 t) (hc : c < n) : ∃ b, fX6_findsBehind (nI c) t = some b ∧ Rl 41 n m r b.2 ∧ Mp t0 b.2 ∧ (match fnd (P1 n m r) (6 * (c + 1)) (6 * n - 6 * (c + 1)) with
    | some p => b.1 = 1 ∧ gM b.2 0 19 = nI p
    | none => b.1 = 0) := by
  have hn := ok.1
  unfold fX6_findsBehind fX6_findsBehind_7
  rw [vl_eq, six_c (show c < 14 by omega)]
  refine lp_fnd (body := fX6_findsBehind_7b) (ap := fun (k : Tm Int32 1) p s => k (nI p) s) (P1 n m r) (fun s => Rl 41 n m r s ∧ Mp t0 s) (fun o b => Rl 41 n m r b.2 ∧ Mp t0 b.2 ∧ (match o with
    | some p => b.1 = 1 ∧ gM b.2 0 19 = nI p
    | none => b.1 = 0)) (6 * n) (6 * (c + 1)) ?_ ?_ ?_ (6 * n - 6 * (c + 1)) (6 * (c + 1)) 400 t (Nat.le_refl _) (by omega) (by omega) (by omega) ⟨rl, mp⟩
  · intro k p s lo hp ⟨q1, q2⟩ hP
    obtain ⟨d1, d2⟩ := div6 p (by omega)
    unfold P1 mv at hP
    simp only [Bool.and_eq_true, decide_eq_true_eq, Bool.not_eq_true', decide_eq_false_iff_not] at hP
    obtain ⟨⟨hd, hh⟩, hL⟩ := hP
    have r1 : Rl 41 n m (mvd r p) (wM s 9 (41 + (1 + p / 6)) (nI (p % 6))) := rl_hold (x := nI (p % 6)) q1 hn (show p / 6 < n by omega)
    have o1 : Ok n m (mvd r p) := ok_mvd ok
    obtain ⟨f, l1, -⟩ := m_looseSet r1 o1
    have r2 : Rl 41 n m (mvd r p) (rM (wM s 9 (41 + (1 + p / 6)) (nI (p % 6))) 11 f) := r1.q Mq.r11
    have r3 := rl_hold (x := r 3 (p / 6)) r2 hn (show p / 6 < n by omega)
    have e3 : crw (mvd r p) 3 (p / 6) (r 3 (p / 6)) = r := by unfold mvd; rw [crw_crw, crw_self rfl]
    rw [e3] at r3
    refine ⟨(1, wM (wM (rM (wM s 9 (41 + (1 + p / 6)) (nI (p % 6))) 11 f) 9 (41 + (1 + p / 6)) (r 3 (p / 6))) 0 19 (nI p)), ?_, rl_w0 r3 (by decide), ?_, rfl, ?_⟩
    · show fX6_findsBehind_7b k (nI p) s = _
      unfold fX6_findsBehind_7b
      rw [if_neg (show ¬ 6 * gM s 0 1 ≤ nI p by rw [q1.2.2.1, six_n hn]; exact nI_ge hp (by omega)), d2, d1, vl_eq, m_holder q1 hn (show p / 6 < n by omega), bd_one, vl_eq, m_lives q1 hn (show p / 6 < n by omega), bd_one, hd, if_neg (show ¬ b2i (!false) = 0 by decide), if_neg (fun w => hh w.symm), at1 q1, ixg_nI (by omega) (by decide), vl_eq, l1, bd_one, if_pos hL]
      unfold fX6_findsBehind_76
      rw [vl_eq, at1 r2, ixg_nI (by omega) (by decide), vl_eq, if_neg (show ¬ (1 : Int32) = 0 by decide), vl_eq]
    · exact (((q2.w9 (by omega)).r11).w9 (by omega)).w0 (by decide)
    · show gM (wM _ 0 19 (nI p)) 0 19 = nI p
      rw [gM_wM, if_pos rfl, if_pos rfl]
  · intro k p s lo hp ⟨q1, q2⟩ hP
    obtain ⟨d1, d2⟩ := div6 p (by omega)
    have ge : ¬ 6 * gM s 0 1 ≤ nI p := by rw [q1.2.2.1, six_n hn]; exact nI_ge hp (by omega)
    unfold P1 mv at hP
    cases hd : dead r (p / 6) with
    | true =>
      refine ⟨s, ⟨q1, q2⟩, ?_⟩
      show fX6_findsBehind_7b k (nI p) s = _
      unfold fX6_findsBehind_7b fX6_findsBehind_105
      rw [if_neg ge, d2, d1, vl_eq, m_holder q1 hn (show p / 6 < n by omega), bd_one, vl_eq, m_lives q1 hn (show p / 6 < n by omega), bd_one, hd, if_pos (show b2i (!true) = 0 by decide), vl_eq, ← nI_succ]
    | false =>
      by_cases hh : nI (p % 6) = r 3 (p / 6)
      · refine ⟨s, ⟨q1, q2⟩, ?_⟩
        show fX6_findsBehind_7b k (nI p) s = _
        unfold fX6_findsBehind_7b fX6_findsBehind_105
        rw [if_neg ge, d2, d1, vl_eq, m_holder q1 hn (show p / 6 < n by omega), bd_one, vl_eq, m_lives q1 hn (show p / 6 < n by omega), bd_one, hd, if_neg (show ¬ b2i (!false) = 0 by decide), if_pos hh, vl_eq, ← nI_succ]
      · have hL : ¬ LW n m (mvd r p) = 0 := by
          intro w
          rw [hd] at hP
          simp [w] at hP
          exact hh hP.symm
        have r1 : Rl 41 n m (mvd r p) (wM s 9 (41 + (1 + p / 6)) (nI (p % 6))) := rl_hold (x := nI (p % 6)) q1 hn (show p / 6 < n by omega)
        have o1 : Ok n m (mvd r p) := ok_mvd ok
        obtain ⟨f, l1, -⟩ := m_looseSet r1 o1
        have r2 : Rl 41 n m (mvd r p) (rM (wM s 9 (41 + (1 + p / 6)) (nI (p % 6))) 11 f) := r1.q Mq.r11
        have r3 := rl_hold (x := r 3 (p / 6)) r2 hn (show p / 6 < n by omega)
        have e3 : crw (mvd r p) 3 (p / 6) (r 3 (p / 6)) = r := by unfold mvd; rw [crw_crw, crw_self rfl]
        rw [e3] at r3
        refine ⟨wM (rM (wM s 9 (41 + (1 + p / 6)) (nI (p % 6))) 11 f) 9 (41 + (1 + p / 6)) (r 3 (p / 6)), ⟨r3, (((q2.w9 (by omega)).r11).w9 (by omega))⟩, ?_⟩
        show fX6_findsBehind_7b k (nI p) s = _
        unfold fX6_findsBehind_7b
        rw [if_neg ge, d2, d1, vl_eq, m_holder q1 hn (show p / 6 < n by omega), bd_one, vl_eq, m_lives q1 hn (show p / 6 < n by omega), bd_one, hd, if_neg (show ¬ b2i (!false) = 0 by decide), if_neg hh, at1 q1, ixg_nI (by omega) (by decide), vl_eq, l1, bd_one, if_neg hL]
        unfold fX6_findsBehind_76 fX6_findsBehind_105
        rw [vl_eq, at1 r2, ixg_nI (by omega) (by decide), vl_eq, if_pos (show (0 : Int32) = 0 by decide), vl_eq, ← nI_succ]
  · intro k p s h1 h2 ⟨q1, q2⟩
    refine ⟨(0, s), ?_, q1, q2, rfl⟩
    show fX6_findsBehind_7b k (nI p) s = _
    unfold fX6_findsBehind_7b
    rw [if_pos (show 6 * gM s 0 1 ≤ nI p by rw [q1.2.2.1, six_n hn]; exact nI_le h1 (by omega))]
theorem m_findsTwo {t0 t : SM} {n m : Nat} {r : Co} (rl : Rl 41 n m r t) (ok : Ok n m r) (mp : Mp t0 t) : ∃ b, fX6_findsTwo t = some b ∧ Rl 41 n m r b.2 ∧ Mp t0 b.2 ∧ (match fnd (P2 n m r) 0 (6 * n) with
    | some p => b.1 = 1 ∧ gM b.2 0 18 = nI p ∧ ∃ p2, fnd (P1 n m (mvd r p)) (6 * (p / 6 + 1)) (6 * n - 6 * (p / 6 + 1)) = some p2 ∧ gM b.2 0 19 = nI p2
    | none => b.1 = 0) := by
  have hn := ok.1
  unfold fX6_findsTwo fX6_findsTwo_2
  rw [vl_eq]
  refine lp_fnd (body := fX6_findsTwo_2b) (ap := fun (k : Tm Int32 1) p s => k (nI p) s) (P2 n m r) (fun s => Rl 41 n m r s ∧ Mp t0 s) (fun o b => Rl 41 n m r b.2 ∧ Mp t0 b.2 ∧ (match o with
    | some p => b.1 = 1 ∧ gM b.2 0 18 = nI p ∧ ∃ p2, fnd (P1 n m (mvd r p)) (6 * (p / 6 + 1)) (6 * n - 6 * (p / 6 + 1)) = some p2 ∧ gM b.2 0 19 = nI p2
    | none => b.1 = 0)) (6 * n) 0 ?_ ?_ ?_ (6 * n) 0 400 t (Nat.zero_le _) (by omega) (by omega) (by omega) ⟨rl, mp⟩
  · intro k p s lo hp ⟨q1, q2⟩ hP
    obtain ⟨d1, d2⟩ := div6 p (by omega)
    unfold P2 mv at hP
    simp only [Bool.and_eq_true, Bool.not_eq_true', decide_eq_false_iff_not] at hP
    obtain ⟨⟨hd, hh⟩, hS⟩ := hP
    obtain ⟨p2, hp2⟩ := Option.isSome_iff_exists.mp hS
    have r1 : Rl 41 n m (mvd r p) (wM s 9 (41 + (1 + p / 6)) (nI (p % 6))) := rl_hold (x := nI (p % 6)) q1 hn (show p / 6 < n by omega)
    obtain ⟨⟨v, s11⟩, g1, g2, g3, g4⟩ := m_findsBehind (c := p / 6) r1 (ok_mvd ok) (q2.w9 (by omega)) (by omega)
    rw [hp2] at g4
    obtain ⟨g4, g5⟩ := g4
    have g4 : v = 1 := g4
    have g2 : Rl 41 n m (mvd r p) s11 := g2
    have g5 : gM s11 0 19 = nI p2 := g5
    have r3 := rl_hold (x := r 3 (p / 6)) g2 hn (show p / 6 < n by omega)
    have e3 : crw (mvd r p) 3 (p / 6) (r 3 (p / 6)) = r := by unfold mvd; rw [crw_crw, crw_self rfl]
    rw [e3] at r3
    refine ⟨(1, wM (wM s11 9 (41 + (1 + p / 6)) (r 3 (p / 6))) 0 18 (nI p)), ?_, rl_w0 r3 (by decide), (g3.w9 (by omega)).w0 (by decide), rfl, ?_, p2, hp2, ?_⟩
    · show fX6_findsTwo_2b k (nI p) s = _
      unfold fX6_findsTwo_2b
      rw [if_neg (show ¬ 6 * gM s 0 1 ≤ nI p by rw [q1.2.2.1, six_n hn]; exact nI_ge hp (by omega)), d2, d1, vl_eq, m_holder q1 hn (show p / 6 < n by omega), bd_one, vl_eq, m_lives q1 hn (show p / 6 < n by omega), bd_one, hd, if_neg (show ¬ b2i (!false) = 0 by decide), if_neg (fun w => hh w.symm), at1 q1, ixg_nI (by omega) (by decide), vl_eq, g1, bd_one, vl_eq, at1 g2, ixg_nI (by omega) (by decide), vl_eq, g4, if_neg (show ¬ (1 : Int32) = 0 by decide), vl_eq]
    · show gM (wM _ 0 18 (nI p)) 0 18 = nI p
      rw [gM_wM, if_pos rfl, if_pos rfl]
    · show gM (wM (wM s11 9 _ _) 0 18 (nI p)) 0 19 = nI p2
      rw [gM_wM, if_pos rfl, if_neg (by decide), gM_wM, if_neg (by decide)]; exact g5
  · intro k p s lo hp ⟨q1, q2⟩ hP
    obtain ⟨d1, d2⟩ := div6 p (by omega)
    have ge : ¬ 6 * gM s 0 1 ≤ nI p := by rw [q1.2.2.1, six_n hn]; exact nI_ge hp (by omega)
    unfold P2 mv at hP
    cases hd : dead r (p / 6) with
    | true =>
      refine ⟨s, ⟨q1, q2⟩, ?_⟩
      show fX6_findsTwo_2b k (nI p) s = _
      unfold fX6_findsTwo_2b fX6_findsTwo_90
      rw [if_neg ge, d2, d1, vl_eq, m_holder q1 hn (show p / 6 < n by omega), bd_one, vl_eq, m_lives q1 hn (show p / 6 < n by omega), bd_one, hd, if_pos (show b2i (!true) = 0 by decide), vl_eq, ← nI_succ]
    | false =>
      by_cases hh : nI (p % 6) = r 3 (p / 6)
      · refine ⟨s, ⟨q1, q2⟩, ?_⟩
        show fX6_findsTwo_2b k (nI p) s = _
        unfold fX6_findsTwo_2b fX6_findsTwo_90
        rw [if_neg ge, d2, d1, vl_eq, m_holder q1 hn (show p / 6 < n by omega), bd_one, vl_eq, m_lives q1 hn (show p / 6 < n by omega), bd_one, hd, if_neg (show ¬ b2i (!false) = 0 by decide), if_pos hh, vl_eq, ← nI_succ]
      · have hno : fnd (P1 n m (mvd r p)) (6 * (p / 6 + 1)) (6 * n - 6 * (p / 6 + 1)) = none := by
          cases hq : fnd (P1 n m (mvd r p)) (6 * (p / 6 + 1)) (6 * n - 6 * (p / 6 + 1)) with
          | none => rfl
          | some q =>
            rw [hd, hq] at hP
            simp at hP
            exact absurd hP.symm hh
        have r1 : Rl 41 n m (mvd r p) (wM s 9 (41 + (1 + p / 6)) (nI (p % 6))) := rl_hold (x := nI (p % 6)) q1 hn (show p / 6 < n by omega)
        obtain ⟨⟨v, s11⟩, g1, g2, g3, g4⟩ := m_findsBehind (c := p / 6) r1 (ok_mvd ok) (q2.w9 (by omega)) (by omega)
        rw [hno] at g4
        have g4 : v = 0 := g4
        have g2 : Rl 41 n m (mvd r p) s11 := g2
        have r3 := rl_hold (x := r 3 (p / 6)) g2 hn (show p / 6 < n by omega)
        have e3 : crw (mvd r p) 3 (p / 6) (r 3 (p / 6)) = r := by unfold mvd; rw [crw_crw, crw_self rfl]
        rw [e3] at r3
        refine ⟨wM s11 9 (41 + (1 + p / 6)) (r 3 (p / 6)), ⟨r3, g3.w9 (by omega)⟩, ?_⟩
        show fX6_findsTwo_2b k (nI p) s = _
        unfold fX6_findsTwo_2b fX6_findsTwo_90
        rw [if_neg ge, d2, d1, vl_eq, m_holder q1 hn (show p / 6 < n by omega), bd_one, vl_eq, m_lives q1 hn (show p / 6 < n by omega), bd_one, hd, if_neg (show ¬ b2i (!false) = 0 by decide), if_neg hh, at1 q1, ixg_nI (by omega) (by decide), vl_eq, g1, bd_one, vl_eq, at1 g2, ixg_nI (by omega) (by decide), vl_eq, g4, if_pos (show (0 : Int32) = 0 by decide), vl_eq, ← nI_succ]
  · intro k p s h1 h2 ⟨q1, q2⟩
    refine ⟨(0, s), ?_, q1, q2, rfl⟩
    show fX6_findsTwo_2b k (nI p) s = _
    unfold fX6_findsTwo_2b
    rw [if_pos (show 6 * gM s 0 1 ≤ nI p by rw [q1.2.2.1, six_n hn]; exact nI_le h1 (by omega))]
theorem m_plan {t : SM} {n m : Nat} {r : Co} (rl : Rl 0 n m r t) (ok : Ok n m r) (l1 : Int32) : ∃ v t2, (bd (fX6_lends t) fun _ s3 => bd (fX6_looseSet s3) fun v4 s5 => if v4 = 0 then fX6_moves_55 l1 0 s5 else bd (fX6_findsOne s5) fun v6 s7 => if v6 = 0 then bd (fX6_findsTwo s7) fun v8 s9 => if v8 = 0 then fX6_moves_55 l1 3 s9 else fX6_moves_55 l1 2 s9 else fX6_moves_55 l1 1 s7) = fX6_moves_55 l1 v t2 ∧ Mp t t2 ∧ PL n m r v (gM t2 0 18) (gM t2 0 19) 3 := by
  obtain ⟨t1, z1, z2, z3⟩ := m_lends rl ok
  obtain ⟨f, e1, -⟩ := m_looseSet z2 ok
  rw [z1, bd_one, e1, bd_one]
  have mp : Mp t (rM t1 11 f) := z3.Mp.r11
  by_cases hL : LW n m r = 0
  · rw [if_pos hL]
    exact ⟨0, _, rfl, mp, fun _ => rfl, fun w => absurd hL w, fun w => absurd hL w, fun w => absurd hL w⟩
  · rw [if_neg hL]
    obtain ⟨⟨v, s7⟩, f1, f2, f3, f4⟩ := m_findsOne (z2.q Mq.r11 : Rl 41 n m r (rM t1 11 f)) ok mp
    rw [f1, bd_one]
    rw [Nat.sub_zero] at f4
    cases hF : fnd (P1 n m r) 0 (6 * n) with
    | some p =>
      rw [hF] at f4
      obtain ⟨w1, w2⟩ := f4
      have w1 : v = 1 := w1
      rw [w1, if_neg (show ¬ (1 : Int32) = 0 by decide)]
      refine ⟨1, s7, rfl, f3, fun w => absurd w hL, ?_, ?_, ?_⟩
      · intro _ p' hp'
        rw [hF] at hp'
        cases hp'
        exact ⟨rfl, w2⟩
      · intro _ w
        rw [hF] at w
        cases w
      · intro _ w
        rw [hF] at w
        cases w
    | none =>
      rw [hF] at f4
      have w1 : v = 0 := f4
      rw [w1, if_pos (Eq.refl (0 : Int32))]
      obtain ⟨⟨v2, s9⟩, g1, g2, g3, g4⟩ := m_findsTwo f2 ok f3
      rw [g1, bd_one]
      cases hG : fnd (P2 n m r) 0 (6 * n) with
      | some p =>
        rw [hG] at g4
        obtain ⟨y1, y4, y5⟩ := g4
        have y1 : v2 = 1 := y1
        rw [y1, if_neg (show ¬ (1 : Int32) = 0 by decide)]
        refine ⟨2, s9, rfl, g3, fun w => absurd w hL, ?_, ?_, ?_⟩
        · intro _ p' hp'
          rw [hF] at hp'
          cases hp'
        · intro _ _ p' hp'
          rw [hG] at hp'
          cases hp'
          exact ⟨rfl, y4, y5⟩
        · intro _ _ w
          rw [hG] at w
          cases w
      | none =>
        rw [hG] at g4
        have y1 : v2 = 0 := g4
        rw [y1, if_pos (Eq.refl (0 : Int32))]
        refine ⟨3, s9, rfl, g3, fun w => absurd w hL, ?_, ?_, fun _ _ _ => rfl⟩
        · intro _ p' hp'
          rw [hF] at hp'
          cases hp'
        · intro _ _ p' hp'
          rw [hG] at hp'
          cases hp'
theorem Inv.plan {s s' : SX} {t t' : SM} (h : Inv s t) (hf : Fp s s') (hc : Cl (co s' 3)) (hm : Mo t t') (hr : ∀ n m, Ok n m (co s 0) → Rl 0 n m (co s 0) t → Rl 0 n m (co s 0) t') : Inv s' t' := by
  have c0 : co s' 0 = co s 0 := fp_co hf (by decide) (by decide)
  refine h.court ⟨fun a ha => hf.1 a (by omega) (by omega), hf.2⟩ hm ?_ (fun i hi => ?_)
  · obtain ⟨n, m, ok, rl⟩ := h.1
    exact ⟨n, m, by rw [c0]; exact ok, by rw [c0]; exact hr n m ok rl⟩
  · by_cases h3 : i = 3
    · subst h3; exact hc
    · rw [fp_co hf h3 (by omega)]; exact h.2.1 i (by omega)
theorem op_moves {s : SX} {t : SM} (h : Inv s t) (a : Int32) : Sm (fX5_moves a s) (fX6_moves a t) := by
  obtain ⟨n, m, ok, rl⟩ := h.1
  have z0 : (0 : Int32) = 0 := Eq.refl 0
  have z1 : ¬ (1 : Int32) = 0 := by decide
  unfold fX5_moves fX6_moves
  by_cases h1 : a < 0
  · rw [if_pos h1, in_lo h1, bd_one, if_pos z0]; exact fin0 h
  rw [if_neg h1]
  by_cases h2 : a ≤ 2
  · obtain ⟨v, s1, x1, x2, x3, x4⟩ := x_plan (s := s) ok rfl (h.2.1 0 (by decide)) (h.2.1 3 (by decide))
    obtain ⟨u, t2, y1, y2, y3⟩ := m_plan rl ok a
    rw [if_pos h2, in_in h1 (Int32.not_lt.mpr h2), bd_one, if_neg z1, x1, bd_one, y1, vl_eq]
    have mp2 : Mp t (wM (wM t2 0 17 u) 0 11 0) := (y2.w0 (by decide)).w0 (by decide)
    have i1 : Inv s1 (wM (wM t2 0 17 u) 0 11 0) := h.plan x2 x3 (mo_pback mp2) (fun n m ok rl => rl_pback rl ok mp2 rfl)
    unfold fX6_moves_55
    rw [vl_eq, vl_eq]
    have g17 : gM (wM (wM t2 0 17 u) 0 11 0) 0 17 = u := by simp [gM_wM]
    have g18 : gM (wM (wM t2 0 17 u) 0 11 0) 0 18 = gM t2 0 18 := by simp [gM_wM]
    have g19 : gM (wM (wM t2 0 17 u) 0 11 0) 0 19 = gM t2 0 19 := by simp [gM_wM]
    rw [g17, g18, g19]
    generalize wM (wM t2 0 17 u) 0 11 0 = T at i1
    generalize gM t2 0 18 = A at y3
    generalize gM t2 0 19 = B at y3
    have f3 := fin3 i1
    obtain ⟨p1, p2, p3, p4⟩ := x4
    obtain ⟨r1, r2, r3, r4⟩ := y3
    by_cases hL : LW n m (co s 0) = 0
    · rw [p1 hL, r1 hL, if_neg (show ¬ (0 : Int32) < 0 by decide), if_neg (show ¬ (0 : Int32) = 3 by decide)]
      by_cases h3 : a ≤ 0
      · have h4 : a = 0 := Int32.le_antisymm h3 (Int32.not_lt.mp h1)
        rw [if_pos h3, if_pos h3, if_pos h4, if_pos h4]; exact Sm.of i1
      · rw [if_neg h3, if_neg h3]; exact f3
    · cases hF : fnd (P1 n m (co s 0)) 0 (6 * n) with
      | some p =>
        obtain ⟨a1, a2⟩ := p2 hL p hF
        obtain ⟨b1, b2⟩ := r2 hL p hF
        rw [a1, b1, if_neg (show ¬ (1 : Int32) < 0 by decide), if_neg (show ¬ (1 : Int32) = 3 by decide), a2, b2]
        by_cases h3 : a ≤ 1
        · rw [if_pos h3, if_pos h3]
          by_cases h4 : a = 0
          · rw [if_pos h4, if_pos h4]; exact Sm.of i1
          · have h5 : a = 1 := by
              rw [Int32.lt_iff_toInt_lt, Int32.toInt_zero] at h1
              rw [Int32.le_iff_toInt_le, show (1 : Int32).toInt = 1 by decide] at h3
              have h6 : a.toInt ≠ 0 := fun w => h4 (Int32.toInt_inj.mp (by rw [w]; decide))
              exact Int32.toInt_inj.mp (by rw [show (1 : Int32).toInt = 1 by decide]; omega)
            rw [if_neg h4, if_neg h4, if_pos h5, if_pos h5]; exact Sm.of i1
        · rw [if_neg h3, if_neg h3]; exact f3
      | none =>
        cases hG : fnd (P2 n m (co s 0)) 0 (6 * n) with
        | some p =>
          obtain ⟨a1, a2, q1, a3, a4⟩ := p3 hL hF p hG
          obtain ⟨b1, b2, q2, b3, b4⟩ := r3 hL hF p hG
          have eq : q1 = q2 := by rw [a3] at b3; cases b3; rfl
          subst eq
          rw [a1, b1, if_neg (show ¬ (2 : Int32) < 0 by decide), if_neg (show ¬ (2 : Int32) = 3 by decide), a2, b2, a4, b4, if_pos h2, if_pos h2]
          by_cases h4 : a = 0
          · rw [if_pos h4, if_pos h4]; exact Sm.of i1
          · rw [if_neg h4, if_neg h4]
            by_cases h5 : a = 1
            · rw [if_pos h5, if_pos h5]; exact Sm.of i1
            · rw [if_neg h5, if_neg h5]; exact Sm.of i1
        | none =>
          rw [p4 hL hF hG, r4 hL hF hG, if_pos (show (-1 : Int32) < 0 by decide), if_pos (Eq.refl (3 : Int32))]
          exact f3
  · rw [if_neg h2, in_hi h1 (Int32.not_le.mp h2), bd_one, if_pos z0]; exact fin0 h
