/-! ===== the reference's falls ===== -/
def dbc (r : Co) (B D : Int32) : Co := cst (cst r 13 B) 12 D
theorem dbc_dbc {r : Co} {B D B2 D2 : Int32} : dbc (dbc r B D) B2 D2 = dbc r B2 D2 := by
  funext j b
  unfold dbc cst upd
  by_cases h10 : j = 10
  · subst h10
    by_cases h12 : b = 12
    · simp [h12]
    · by_cases h13 : b = 13
      · simp [h13]
      · simp [h12, h13]
  · simp [h10]
theorem dbc_self {r : Co} : dbc r (r 10 13) (r 10 12) = r := by
  funext j b
  unfold dbc cst upd
  by_cases h10 : j = 10
  · subst h10
    by_cases h12 : b = 12
    · simp [h12]
    · by_cases h13 : b = 13
      · simp [h13]
      · simp [h12, h13]
  · simp [h10]
theorem bw_dbc {n m : Nat} {S : Int32} {r : Co} : bw n m S r = dbc r (r 10 13 ||| S) (r 10 12 ||| setN n (kil m S r)) := rfl
theorem ok_dbc {n m : Nat} {r : Co} {B D : Int32} (ok : Ok n m r) (hB : ∀ j, m ≤ j → bitB B j = false) (hD : ∀ c, n ≤ c → bitB D c = false) : Ok n m (dbc r B D) := (ok.cst13 hB).cst12 hD
section MFalls
variable {off n m : Nat} {r : Co} {t : SM}
theorem rl_db {f : Nat → Int32} {B D : Int32} (rl : Rl off n m r t) (h2 : f off = gM t 9 off) (h3 : ∀ c, c < n → f (off + (1 + c)) = gM t 9 (off + (1 + c)) ∧ f (off + (15 + c)) = b2i (bitB D c)) (h4 : ∀ j, j < m → f (off + (29 + j)) = b2i (bitB B j)) : Rl off n m (dbc r B D) (rM t 9 f) := by
  obtain ⟨a1, a2, a3, a4, a5, a6, a7, a8⟩ := rl
  exact ⟨a1, a2, a3, a4, a5, fun c hc => ⟨(a6 c hc).1, (a6 c hc).2.1, (a6 c hc).2.2.1, (h3 c hc).1.trans (a6 c hc).2.2.2.1, (h3 c hc).2⟩, fun j hj => ⟨(a7 j hj).1, (a7 j hj).2.1, (a7 j hj).2.2.1, (a7 j hj).2.2.2.1, h4 j hj⟩, h2.trans a8⟩
theorem hold_raw (h : gM t 0 11 = nI off) (h41 : off ≤ 41) {c : Nat} (hc : c < 14) : fX6_holder (nI c) t = some (gM t 9 (off + (1 + c)), t) := by
  unfold fX6_holder
  rw [h, show (1 : Int32) = nI 1 from rfl, at3, ixg_nI (by omega) (by decide)]
def mtc (r : Co) (j c : Nat) : Bool := decide (r 3 c = r 6 j) && decide (r 2 c = r 5 j)
/-- what a broken word does to the row -/
def Bf (off n : Nat) (r : Co) (j : Nat) (g f : Nat → Int32) : Prop := f (off + (29 + j)) = 1 ∧ (∀ k, k ≠ off + (29 + j) → (∀ c, c < n → k ≠ off + (15 + c)) → f k = g k) ∧ ∀ c, c < n → f (off + (15 + c)) = if mtc r j c = true then 1 else g (off + (15 + c))
theorem m_breaks (rl : Rl off n m r t) (ok : Ok n m r) {j : Nat} (hj : j < m) : ∃ f, fX6_breaks (nI j) t = some ((), rM t 9 f) ∧ Bf off n r j (gM t 9) f := by
  have hn := ok.1
  have hm := ok.2.1
  have h41 := rl.1
  unfold fX6_breaks fX6_breaks_17
  rw [rl.2.1, show (29 : Int32) = nI 29 from rfl, at3, ixg_nI (by omega) (by decide)]
  simp only [vl_eq]
  have h9 : ∀ f, gM (rM t 9 f) 9 = f := fun f => by rw [gM_rM, if_pos rfl]
  have ho : ∀ f a, a ≠ 9 → gM (rM t 9 f) a = gM t a := fun f a ha => by rw [gM_rM, if_neg ha]
  have key := lp_inv (bot := fun _ _ _ => none) (body := fX6_breaks_17b) (F := 400) (ap := fun (k : Tm Unit 2) c (f : Nat → Int32) => k (nI j) (nI c) (rM t 9 f)) n (fun c f => f (off + (29 + j)) = 1 ∧ (∀ k, k ≠ off + (29 + j) → (∀ c, c < n → k ≠ off + (15 + c)) → f k = gM t 9 k) ∧ (∀ d, d < c → f (off + (15 + d)) = if mtc r j d = true then 1 else gM t 9 (off + (15 + d))) ∧ ∀ d, c ≤ d → d < n → f (off + (15 + d)) = gM t 9 (off + (15 + d))) (fun b => ∃ f, b = ((), rM t 9 f) ∧ Bf off n r j (gM t 9) f) ?_ ?_ (upd (gM t 9) (off + (29 + j)) 1) ?_ (by omega)
  · obtain ⟨b, e1, f, e2, e3⟩ := key
    subst e2
    exact ⟨f, e1, e3⟩
  · intro k c f hc hP
    obtain ⟨p1, p2, p3, p4⟩ := hP
    have hh : f (off + (1 + c)) = r 3 c := by rw [p2 _ (by omega) (fun d hd => by omega)]; exact (rl.ch hc).2.2.2.1
    have hat : gM (rM t 9 f) 0 11 = nI off := rl.2.1
    unfold fX6_breaks_17b
    rw [if_neg (by rw [show gM (rM t 9 f) 0 1 = nI n from rl.2.2.1]; exact nI_ge hc (by omega))]
    simp only [ixg_nI (show c < 14 by omega) (by decide), ixg_nI (show j < 12 by omega) (by decide), ho _ 3 (by decide), ho _ 5 (by decide), ho _ 6 (by decide), (rl.ch hc).2.1, (rl.tr hj).1, (rl.tr hj).2.1, hold_raw hat h41 (show c < 14 by omega), bd_one, h9, hh, fX6_breaks_69, vl_eq, ← nI_succ]
    by_cases q1 : r 2 c = r 5 j
    · by_cases q2 : r 3 c = r 6 j
      · refine ⟨upd f (off + (15 + c)) 1, ?_, ?_, ?_, ?_, ?_⟩
        · simp only [q1, q2, if_true]
          rw [hat, show (15 : Int32) = nI 15 from rfl, at3, ixg_nI (by omega) (by decide), wM_rM]
        · unfold upd; rw [if_neg (by omega)]; exact p1
        · intro k hk1 hk2
          unfold upd; rw [if_neg (hk2 c hc)]; exact p2 k hk1 hk2
        · intro d hd
          unfold upd
          by_cases e : d = c
          · subst e; simp [mtc, q1, q2]
          · rw [if_neg (by omega)]; exact p3 d (by omega)
        · intro d hd1 hd2
          unfold upd; rw [if_neg (by omega)]; exact p4 d (by omega) hd2
      · refine ⟨f, by simp only [q1, q2, if_true, if_false], p1, p2, fun d hd => ?_, fun d hd1 hd2 => p4 d (by omega) hd2⟩
        by_cases e : d = c
        · subst e; rw [p4 d (Nat.le_refl d) hc]; simp [mtc, q2]
        · exact p3 d (by omega)
    · refine ⟨f, by simp only [q1, if_false], p1, p2, fun d hd => ?_, fun d hd1 hd2 => p4 d (by omega) hd2⟩
      by_cases e : d = c
      · subst e; rw [p4 d (Nat.le_refl d) hc]; simp [mtc, q1]
      · exact p3 d (by omega)
  · intro k f hP
    unfold fX6_breaks_17b
    rw [if_pos (by rw [show gM (rM t 9 f) 0 1 = nI n from rl.2.2.1]; exact nI_le (Nat.le_refl n) (by omega))]
    exact ⟨_, rfl, f, rfl, hP.1, hP.2.1, hP.2.2.1⟩
  · refine ⟨by unfold upd; rw [if_pos rfl], fun k hk1 _ => by unfold upd; rw [if_neg hk1], fun d hd => absurd hd (Nat.not_lt_zero d), fun d _ hd => ?_⟩
    unfold upd; rw [if_neg (by omega)]
theorem rl_breaks {f : Nat → Int32} {j : Nat} (rl : Rl off n m r t) (ok : Ok n m r) (hj : j < m) (hf : Bf off n r j (gM t 9) f) : Rl off n m (dbc r (r 10 13 ||| bt j) (r 10 12 ||| setN n (mtc r j))) (rM t 9 f) := by
  have hn := ok.1
  have hm := ok.2.1
  obtain ⟨b1, b2, b3⟩ := hf
  refine rl_db rl (b2 off (by omega) (fun c hc => by omega)) (fun c hc => ⟨b2 _ (by omega) (fun d hd => by omega), ?_⟩) (fun i hi => ?_)
  · rw [b3 c hc, bit_or, setN_bit (by omega), (rl.ch hc).2.2.2.2]
    simp only [hc, decide_true, Bool.true_and]
    show _ = b2i (dead r c || mtc r j c)
    cases mtc r j c <;> simp [b2i]
  · rw [bit_or, bt_bit (by omega)]
    by_cases e : i = j
    · subst e; rw [b1]; simp [b2i]
    · rw [b2 _ (by omega) (fun c hc => by omega), (rl.tr hi).2.2.2.2]
      show b2i (brk r i) = b2i (brk r i || decide (i = j))
      simp [e]
end MFalls
