section Ops6
variable {s : SX} {t : SM}
/-- the first pact that pays, from a pair on -/
theorem op_plot (h : Inv s t) : Sm (fX5_plot s) (fX6_plot t) := by
  obtain ⟨n, m, ok, rl⟩ := h.1
  obtain ⟨f, e1, e2⟩ := m_findPledges rl ok
  have rlf : Rl 0 n m (co s 0) (rM t 11 f) := rl.q Mq.r11
  have hM : ∀ k l, k < 6 → l < 6 → k ≠ l → fX6_pays (nI k) (nI l) (rM t 11 f) = some (b2i (pays n m (co s 0) (nI k) (nI l)), rM t 11 f) := fun k l hk hl hkl => m_pays rlf ok hk hl hkl (by rw [gM_rM, if_pos rfl]; exact e2)
  have hX : ∀ k l, k < 6 → l < 6 → fX1_pactPays 0 (nI k) (nI l) s = some (b2i (pays n m (co s 0) (nI k) (nI l)), s) := fun k l hk hl => x_pp1 ok (nI k) (nI l) ⟨k, hk, rfl⟩ ⟨l, hl, rfl⟩
  have hi := h.m11 (f := f)
  unfold fX5_plot fX6_plot fX5_plot_2 fX6_plot_6
  simp only [e1, bd_one, vl_eq]
  have inner : ∀ (kx : Tx Int32 1) (km : Tm Int32 1) (k : Nat), k < 6 → Sm (kx (nI (k + 1)) s) (km (nI (k + 1)) (rM t 11 f)) → ∀ (d l F1 F2 : Nat), l + d = 6 → d < F1 → d < F2 → k < l → Sm (lp (fun _ _ _ => none) (fX5_plot_12b kx) F1 (nI k) (nI l) s) (lp (fun _ _ _ => none) (fX6_plot_16b km) F2 (nI k) (nI l) (rM t 11 f)) := by
    intro kx km k hk hK d
    induction d with
    | zero =>
      intro l F1 F2 h1 h2 h3 h4
      obtain ⟨F1, rfl⟩ : ∃ G, F1 = G + 1 := ⟨F1 - 1, by omega⟩
      obtain ⟨F2, rfl⟩ : ∃ G, F2 = G + 1 := ⟨F2 - 1, by omega⟩
      have : l = 6 := by omega
      subst this
      show Sm (fX5_plot_12b kx _ (nI k) (nI 6) s) (fX6_plot_16b km _ (nI k) (nI 6) _)
      unfold fX5_plot_12b fX6_plot_16b
      rw [if_pos (show (6 : Int32) ≤ nI 6 from nI_le (b := 6) (Nat.le_refl 6) (by decide)), if_pos (show (6 : Int32) ≤ nI 6 from nI_le (b := 6) (Nat.le_refl 6) (by decide))]
      simp only [vl_eq, ← nI_succ]
      exact hK
    | succ d ih =>
      intro l F1 F2 h1 h2 h3 h4
      obtain ⟨F1, rfl⟩ : ∃ G, F1 = G + 1 := ⟨F1 - 1, by omega⟩
      obtain ⟨F2, rfl⟩ : ∃ G, F2 = G + 1 := ⟨F2 - 1, by omega⟩
      have ih := ih (l + 1) F1 F2 (by omega) (by omega) (by omega) (by omega)
      show Sm (fX5_plot_12b kx (lp (fun _ _ _ => none) (fX5_plot_12b kx) F1) (nI k) (nI l) s) (fX6_plot_16b km (lp (fun _ _ _ => none) (fX6_plot_16b km) F2) (nI k) (nI l) _)
      generalize lp (fun _ _ _ => none) (fX5_plot_12b kx) F1 = A1 at ih ⊢
      generalize lp (fun _ _ _ => none) (fX6_plot_16b km) F2 = A2 at ih ⊢
      unfold fX5_plot_12b fX6_plot_16b
      rw [if_neg (show ¬ (6 : Int32) ≤ nI l from nI_ge (b := 6) (by omega) (by decide)), if_neg (show ¬ (6 : Int32) ≤ nI l from nI_ge (b := 6) (by omega) (by decide)), hX k l hk (by omega), hM k l hk (by omega) (by omega), bd_one, bd_one]
      simp only [b2i_0, vl_eq, ← nI_succ]
      cases pays n m (co s 0) (nI k) (nI l) with
      | false => rw [if_pos rfl, if_pos rfl]; exact ih
      | true =>
        rw [if_neg (by decide), if_neg (by decide)]
        exact Sm.of hi
  have outer : ∀ (d k F1 F2 : Nat), k + d = 6 → d < F1 → d < F2 → Sm (lp (fun _ _ => none) fX5_plot_2b F1 (nI k) s) (lp (fun _ _ => none) fX6_plot_6b F2 (nI k) (rM t 11 f)) := by
    intro d
    induction d with
    | zero =>
      intro k F1 F2 h1 h2 h3
      obtain ⟨F1, rfl⟩ : ∃ G, F1 = G + 1 := ⟨F1 - 1, by omega⟩
      obtain ⟨F2, rfl⟩ : ∃ G, F2 = G + 1 := ⟨F2 - 1, by omega⟩
      have : k = 6 := by omega
      subst this
      show Sm (fX5_plot_2b _ (nI 6) s) (fX6_plot_6b _ (nI 6) _)
      unfold fX5_plot_2b fX6_plot_6b
      rw [if_pos (show (6 : Int32) ≤ nI 6 from nI_le (b := 6) (Nat.le_refl 6) (by decide)), if_pos (show (6 : Int32) ≤ nI 6 from nI_le (b := 6) (Nat.le_refl 6) (by decide))]
      exact fin3 hi
    | succ d ih =>
      intro k F1 F2 h1 h2 h3
      obtain ⟨F1, rfl⟩ : ∃ G, F1 = G + 1 := ⟨F1 - 1, by omega⟩
      obtain ⟨F2, rfl⟩ : ∃ G, F2 = G + 1 := ⟨F2 - 1, by omega⟩
      have ih := ih (k + 1) F1 F2 (by omega) (by omega) (by omega)
      show Sm (fX5_plot_2b (lp (fun _ _ => none) fX5_plot_2b F1) (nI k) s) (fX6_plot_6b (lp (fun _ _ => none) fX6_plot_6b F2) (nI k) _)
      generalize lp (fun _ _ => none) fX5_plot_2b F1 = A1 at ih ⊢
      generalize lp (fun _ _ => none) fX6_plot_6b F2 = A2 at ih ⊢
      unfold fX5_plot_2b fX6_plot_6b fX5_plot_12 fX6_plot_16
      rw [if_neg (show ¬ (6 : Int32) ≤ nI k from nI_ge (b := 6) (by omega) (by decide)), if_neg (show ¬ (6 : Int32) ≤ nI k from nI_ge (b := 6) (by omega) (by decide))]
      simp only [vl_eq, ← nI_succ]
      exact inner A1 A2 k (by omega) ih (6 - (k + 1)) (k + 1) 400 400 (by omega) (by omega) (by omega) (by omega)
  exact outer 6 0 400 400 (by omega) (by omega) (by omega)
end Ops6
