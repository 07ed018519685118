/-! ===== the law's loop, over both memories ===== -/
abbrev SL : Type := SX × SM
def wfL (s : SL) : Wd := world s.1 s.2
def lX {α : Type} (s : SL) (F : Option (α × SX)) : Option (α × SL) := F.map (fun q => (q.1, (q.2, s.2)))
def lM {α : Type} (s : SL) (F : Option (α × SM)) : Option (α × SL) := F.map (fun q => (q.1, (s.1, q.2)))
def M_L_law : MI := (cL_law, 4, RL, some .boolean, room_1, yL_law)
theorem ctX {α : Type} {inj : α → Option Value} {G : Cf} {M : MI} {as : List Value} {s : SL} {F : Option (α × SX)} (h : Ct (wfX s.2) inj G M as s.1 F) : Ct wfL inj G M as s (lX s F) := by
  intro a s' e
  cases F with
  | none => cases e
  | some q => cases e; exact h q.1 q.2 rfl
theorem ctM {α : Type} {inj : α → Option Value} {G : Cf} {M : MI} {as : List Value} {s : SL} {F : Option (α × SM)} (h : Ct (wfM s.1) inj G M as s.2 F) : Ct wfL inj G M as s (lM s F) := by
  intro a s' e
  cases F with
  | none => cases e
  | some q => cases e; exact h q.1 q.2 rfl
theorem w_selfL {s : SL} : (wfL s)[0]? = some (.inr (5, fSelf s.1)) := rfl
theorem w_ML {s : SL} : (wfL s)[mb]? = some (.inr (6, fModel s.2)) := rfl
section RLaw
variable {S α : Type} {wf : S → Wd} {inj : α → Option Value} {G : Cf} {M : MI} {pc q : Nat} {L : List (Option Value)} {st : List Value} {s : S} {F : Option (α × S)} {N : Nat} {xs : Nat → Int32}
theorem rr_slenN (hq : pc + 1 = q) (hN : cL G = N) (hd : decode (mC M) pc = .ok (.arraylength, 1)) (k : R wf inj G M q L (.int (nI N) :: st) s F) : R wf inj G M pc L (.ref 4000 :: st) s F := by
  subst hq hN
  exact fun a s2 h => j_slen hd (k a s2 h)
theorem rr_sald {i : Int32} {F : Nat → Option (α × S)} (hq : pc + 1 = q) (hN : cL G = N) (hxs : cX G = xs) (hd : decode (mC M) pc = .ok (.iaload, 1)) (k : ∀ k0, R wf inj G M q L (.int (xs k0) :: st) s (F k0)) : R wf inj G M pc L (.int i :: .ref 4000 :: st) s (ixg i N F) := by
  subst hq hN hxs
  exact fun a s2 h => j_sald (ixg_some h).1 hd (k _ a s2 (ixg_some h).2)
end RLaw
def fL_law_1457 (N : Nat) (xs : Nat → Int32) (k18 : Int32 → SL → Option (Int32 × SL)) (l3 : Int32) (s : SL) : Option (Int32 × SL) :=
  vl (l3 + 6) fun y350 =>
  k18 y350 s
set_option maxRecDepth 100000 in
set_option maxHeartbeats 4000000 in
theorem e_L_law_1457 {G : Cf}  {N : Nat} {xs : Nat → Int32} (hN : cL G = N) (hxs : cX G = xs) {k18 : Int32 → SL → Option (Int32 × SL)} (hk18 : ∀ (l3 : Int32) (s : SL), R wfL inI G M_L_law 18 [some (.ref 4000), some (.ref 0), some (.ref mb), some (.int l3)] [] s (k18 l3 s)) (l3 : Int32) (s : SL) : R wfL inI G M_L_law 1457 [some (.ref 4000), some (.ref 0), some (.ref mb), some (.int l3)] [] s (fL_law_1457 N xs k18 l3 s) := by
  unfold fL_law_1457
  refine rr_iinc (L2 := fun y350 => [some (.ref 4000), some (.ref 0), some (.ref mb), some (.int y350)]) (q := 1460) rfl dL_law_1457 rfl rfl (Nat.le_of_ble_eq_true rfl) (fun _ => rfl) (fun y350 => ?_)
  refine rr_goto 18 dL_law_1460 rfl ?_
  exact hk18 y350 s
def fL_law_18b (N : Nat) (xs : Nat → Int32) (k18 : Int32 → SL → Option (Int32 × SL)) (l3 : Int32) (s : SL) : Option (Int32 × SL) :=
  (if ((nI N) - 6) < l3 then
  some (1, s)
  else
  ixg l3 N fun n1 =>
  (if ((xs n1) &&& 63) = 0 then
  ixg (l3 + 1) N fun n2 =>
  ixg (l3 + 2) N fun n3 =>
  bd (lX s (fX5_fear (xs n2) (xs n3) s.1)) fun v4 s5 =>
  ixg (l3 + 1) N fun n6 =>
  ixg (l3 + 2) N fun n7 =>
  bd (lM s5 (fX6_fear (xs n6) (xs n7) s5.2)) fun v8 s9 =>
  (if v4 = v8 then
  fL_law_1457 N xs k18 l3 s9
  else
  some (0, s9))
  else
  (if ((xs n1) &&& 63) = 1 then
  ixg (l3 + 1) N fun n11 =>
  ixg (l3 + 2) N fun n12 =>
  bd (lX s (fX5_kingOf (xs n11) (xs n12) s.1)) fun v13 s14 =>
  ixg (l3 + 1) N fun n15 =>
  ixg (l3 + 2) N fun n16 =>
  bd (lM s14 (fX6_kingOf (xs n15) (xs n16) s14.2)) fun v17 s18 =>
  (if v13 = v17 then
  fL_law_1457 N xs k18 l3 s18
  else
  some (0, s18))
  else
  (if ((xs n1) &&& 63) = 2 then
  ixg (l3 + 1) N fun n20 =>
  ixg (l3 + 2) N fun n21 =>
  ixg (l3 + 3) N fun n22 =>
  bd (lX s (fX5_child (xs n20) (xs n21) (xs n22) s.1)) fun v23 s24 =>
  ixg (l3 + 1) N fun n25 =>
  ixg (l3 + 2) N fun n26 =>
  ixg (l3 + 3) N fun n27 =>
  bd (lM s24 (fX6_child (xs n25) (xs n26) (xs n27) s24.2)) fun v28 s29 =>
  (if v23 = v28 then
  fL_law_1457 N xs k18 l3 s29
  else
  some (0, s29))
  else
  (if ((xs n1) &&& 63) = 3 then
  ixg (l3 + 1) N fun n31 =>
  ixg (l3 + 2) N fun n32 =>
  bd (lX s (fX5_of (xs n31) (xs n32) s.1)) fun v33 s34 =>
  ixg (l3 + 1) N fun n35 =>
  ixg (l3 + 2) N fun n36 =>
  bd (lM s34 (fX6_of (xs n35) (xs n36) s34.2)) fun v37 s38 =>
  (if v33 = v37 then
  fL_law_1457 N xs k18 l3 s38
  else
  some (0, s38))
  else
  (if ((xs n1) &&& 63) = 4 then
  ixg (l3 + 1) N fun n40 =>
  ixg (l3 + 2) N fun n41 =>
  bd (lX s (fX5_move (xs n40) (xs n41) s.1)) fun v42 s43 =>
  ixg (l3 + 1) N fun n44 =>
  ixg (l3 + 2) N fun n45 =>
  bd (lM s43 (fX6_move (xs n44) (xs n45) s43.2)) fun v46 s47 =>
  (if v42 = v46 then
  fL_law_1457 N xs k18 l3 s47
  else
  some (0, s47))
  else
  (if ((xs n1) &&& 63) = 5 then
  ixg (l3 + 1) N fun n49 =>
  ixg (l3 + 2) N fun n50 =>
  bd (lX s (fX5_worth (xs n49) (xs n50) s.1)) fun v51 s52 =>
  ixg (l3 + 1) N fun n53 =>
  ixg (l3 + 2) N fun n54 =>
  bd (lM s52 (fX6_worth (xs n53) (xs n54) s52.2)) fun v55 s56 =>
  (if v51 = v55 then
  fL_law_1457 N xs k18 l3 s56
  else
  some (0, s56))
  else
  (if ((xs n1) &&& 63) = 6 then
  ixg (l3 + 1) N fun n58 =>
  ixg (l3 + 2) N fun n59 =>
  bd (lX s (fX5_turn (xs n58) (xs n59) s.1)) fun v60 s61 =>
  ixg (l3 + 1) N fun n62 =>
  ixg (l3 + 2) N fun n63 =>
  bd (lM s61 (fX6_turn (xs n62) (xs n63) s61.2)) fun v64 s65 =>
  (if v60 = v64 then
  fL_law_1457 N xs k18 l3 s65
  else
  some (0, s65))
  else
  (if ((xs n1) &&& 63) = 7 then
  ixg (l3 + 1) N fun n67 =>
  ixg (l3 + 2) N fun n68 =>
  bd (lX s (fX5_as (xs n67) (xs n68) s.1)) fun v69 s70 =>
  ixg (l3 + 1) N fun n71 =>
  ixg (l3 + 2) N fun n72 =>
  bd (lM s70 (fX6_as (xs n71) (xs n72) s70.2)) fun v73 s74 =>
  (if v69 = v73 then
  fL_law_1457 N xs k18 l3 s74
  else
  some (0, s74))
  else
  (if ((xs n1) &&& 63) = 8 then
  ixg (l3 + 1) N fun n76 =>
  bd (lX s (fX5_dies (xs n76) s.1)) fun v77 s78 =>
  ixg (l3 + 1) N fun n79 =>
  bd (lM s78 (fX6_dies (xs n79) s78.2)) fun v80 s81 =>
  (if v77 = v80 then
  fL_law_1457 N xs k18 l3 s81
  else
  some (0, s81))
  else
  (if ((xs n1) &&& 63) = 9 then
  ixg (l3 + 1) N fun n83 =>
  ixg (l3 + 2) N fun n84 =>
  bd (lX s (fX5_swap (xs n83) (xs n84) s.1)) fun v85 s86 =>
  ixg (l3 + 1) N fun n87 =>
  ixg (l3 + 2) N fun n88 =>
  bd (lM s86 (fX6_swap (xs n87) (xs n88) s86.2)) fun v89 s90 =>
  (if v85 = v89 then
  fL_law_1457 N xs k18 l3 s90
  else
  some (0, s90))
  else
  (if ((xs n1) &&& 63) = 10 then
  ixg (l3 + 1) N fun n92 =>
  ixg (l3 + 2) N fun n93 =>
  ixg (l3 + 3) N fun n94 =>
  ixg (l3 + 4) N fun n95 =>
  bd (lX s (fX5_treaty (xs n92) (xs n93) (xs n94) (xs n95) s.1)) fun v96 s97 =>
  ixg (l3 + 1) N fun n98 =>
  ixg (l3 + 2) N fun n99 =>
  ixg (l3 + 3) N fun n100 =>
  ixg (l3 + 4) N fun n101 =>
  bd (lM s97 (fX6_treaty (xs n98) (xs n99) (xs n100) (xs n101) s97.2)) fun v102 s103 =>
  (if v96 = v102 then
  fL_law_1457 N xs k18 l3 s103
  else
  some (0, s103))
  else
  (if ((xs n1) &&& 63) = 11 then
  ixg (l3 + 1) N fun n105 =>
  ixg (l3 + 2) N fun n106 =>
  bd (lX s (fX5_treatyOf (xs n105) (xs n106) s.1)) fun v107 s108 =>
  ixg (l3 + 1) N fun n109 =>
  ixg (l3 + 2) N fun n110 =>
  bd (lM s108 (fX6_treatyOf (xs n109) (xs n110) s108.2)) fun v111 s112 =>
  (if v107 = v111 then
  fL_law_1457 N xs k18 l3 s112
  else
  some (0, s112))
  else
  (if ((xs n1) &&& 63) = 12 then
  ixg (l3 + 1) N fun n114 =>
  ixg (l3 + 2) N fun n115 =>
  bd (lX s (fX5_gain (xs n114) (xs n115) s.1)) fun v116 s117 =>
  ixg (l3 + 1) N fun n118 =>
  ixg (l3 + 2) N fun n119 =>
  bd (lM s117 (fX6_gain (xs n118) (xs n119) s117.2)) fun v120 s121 =>
  (if v116 = v120 then
  fL_law_1457 N xs k18 l3 s121
  else
  some (0, s121))
  else
  (if ((xs n1) &&& 63) = 13 then
  ixg (l3 + 1) N fun n123 =>
  ixg (l3 + 2) N fun n124 =>
  bd (lX s (fX5_pledge (xs n123) (xs n124) s.1)) fun v125 s126 =>
  ixg (l3 + 1) N fun n127 =>
  ixg (l3 + 2) N fun n128 =>
  bd (lM s126 (fX6_pledge (xs n127) (xs n128) s126.2)) fun v129 s130 =>
  (if v125 = v129 then
  fL_law_1457 N xs k18 l3 s130
  else
  some (0, s130))
  else
  (if ((xs n1) &&& 63) = 14 then
  ixg (l3 + 1) N fun n132 =>
  bd (lX s (fX5_ease (xs n132) s.1)) fun v133 s134 =>
  ixg (l3 + 1) N fun n135 =>
  bd (lM s134 (fX6_ease (xs n135) s134.2)) fun v136 s137 =>
  (if v133 = v136 then
  fL_law_1457 N xs k18 l3 s137
  else
  some (0, s137))
  else
  (if ((xs n1) &&& 63) = 15 then
  bd (lX s (fX5_loose s.1)) fun v139 s140 =>
  bd (lM s140 (fX6_loose s140.2)) fun v141 s142 =>
  (if v139 = v141 then
  fL_law_1457 N xs k18 l3 s142
  else
  some (0, s142))
  else
  (if ((xs n1) &&& 63) = 16 then
  ixg (l3 + 1) N fun n144 =>
  ixg (l3 + 2) N fun n145 =>
  bd (lX s (fX5_pact (xs n144) (xs n145) s.1)) fun v146 s147 =>
  ixg (l3 + 1) N fun n148 =>
  ixg (l3 + 2) N fun n149 =>
  bd (lM s147 (fX6_pact (xs n148) (xs n149) s147.2)) fun v150 s151 =>
  (if v146 = v150 then
  fL_law_1457 N xs k18 l3 s151
  else
  some (0, s151))
  else
  (if ((xs n1) &&& 63) = 17 then
  bd (lX s (fX5_plot s.1)) fun v153 s154 =>
  bd (lM s154 (fX6_plot s154.2)) fun v155 s156 =>
  (if v153 = v155 then
  fL_law_1457 N xs k18 l3 s156
  else
  some (0, s156))
  else
  (if ((xs n1) &&& 63) = 18 then
  bd (lX s (fX5_fall s.1)) fun v158 s159 =>
  bd (lM s159 (fX6_fall s159.2)) fun v160 s161 =>
  (if v158 = v160 then
  fL_law_1457 N xs k18 l3 s161
  else
  some (0, s161))
  else
  (if ((xs n1) &&& 63) = 19 then
  ixg (l3 + 1) N fun n163 =>
  bd (lX s (fX5_wouldFall (xs n163) s.1)) fun v164 s165 =>
  ixg (l3 + 1) N fun n166 =>
  bd (lM s165 (fX6_wouldFall (xs n166) s165.2)) fun v167 s168 =>
  (if v164 = v167 then
  fL_law_1457 N xs k18 l3 s168
  else
  some (0, s168))
  else
  (if ((xs n1) &&& 63) = 20 then
  ixg (l3 + 1) N fun n170 =>
  bd (lX s (fX5_pulls (xs n170) s.1)) fun v171 s172 =>
  ixg (l3 + 1) N fun n173 =>
  bd (lM s172 (fX6_pulls (xs n173) s172.2)) fun v174 s175 =>
  (if v171 = v174 then
  fL_law_1457 N xs k18 l3 s175
  else
  some (0, s175))
  else
  (if ((xs n1) &&& 63) = 21 then
  bd (lX s (fX5_keystone s.1)) fun v177 s178 =>
  bd (lM s178 (fX6_keystone s178.2)) fun v179 s180 =>
  (if v177 = v179 then
  fL_law_1457 N xs k18 l3 s180
  else
  some (0, s180))
  else
  (if ((xs n1) &&& 63) = 22 then
  ixg (l3 + 1) N fun n182 =>
  bd (lX s (fX5_months (xs n182) s.1)) fun v183 s184 =>
  ixg (l3 + 1) N fun n185 =>
  bd (lM s184 (fX6_months (xs n185) s184.2)) fun v186 s187 =>
  (if v183 = v186 then
  fL_law_1457 N xs k18 l3 s187
  else
  some (0, s187))
  else
  (if ((xs n1) &&& 63) = 23 then
  ixg (l3 + 1) N fun n189 =>
  bd (lX s (fX5_now (xs n189) s.1)) fun v190 s191 =>
  ixg (l3 + 1) N fun n192 =>
  bd (lM s191 (fX6_now (xs n192) s191.2)) fun v193 s194 =>
  (if v190 = v193 then
  fL_law_1457 N xs k18 l3 s194
  else
  some (0, s194))
  else
  (if ((xs n1) &&& 63) = 24 then
  ixg (l3 + 1) N fun n196 =>
  bd (lX s (fX5_on (xs n196) s.1)) fun v197 s198 =>
  ixg (l3 + 1) N fun n199 =>
  bd (lM s198 (fX6_on (xs n199) s198.2)) fun v200 s201 =>
  (if v197 = v200 then
  fL_law_1457 N xs k18 l3 s201
  else
  some (0, s201))
  else
  (if ((xs n1) &&& 63) = 25 then
  ixg (l3 + 1) N fun n203 =>
  bd (lX s (fX5_moves (xs n203) s.1)) fun v204 s205 =>
  ixg (l3 + 1) N fun n206 =>
  bd (lM s205 (fX6_moves (xs n206) s205.2)) fun v207 s208 =>
  (if v204 = v207 then
  fL_law_1457 N xs k18 l3 s208
  else
  some (0, s208))
  else
  (if ((xs n1) &&& 63) = 26 then
  ixg (l3 + 1) N fun n210 =>
  bd (lX s (fX5_best (xs n210) s.1)) fun v211 s212 =>
  ixg (l3 + 1) N fun n213 =>
  bd (lM s212 (fX6_best (xs n213) s212.2)) fun v214 s215 =>
  (if v211 = v214 then
  fL_law_1457 N xs k18 l3 s215
  else
  some (0, s215))
  else
  (if ((xs n1) &&& 63) = 27 then
  ixg (l3 + 1) N fun n217 =>
  bd (lX s (fX5_key (xs n217) s.1)) fun v218 s219 =>
  ixg (l3 + 1) N fun n220 =>
  bd (lM s219 (fX6_key (xs n220) s219.2)) fun v221 s222 =>
  (if v218 = v221 then
  fL_law_1457 N xs k18 l3 s222
  else
  some (0, s222))
  else
  (if ((xs n1) &&& 63) = 28 then
  ixg (l3 + 1) N fun n224 =>
  ixg (l3 + 2) N fun n225 =>
  bd (lX s (fX5_toFree (xs n224) (xs n225) s.1)) fun v226 s227 =>
  ixg (l3 + 1) N fun n228 =>
  ixg (l3 + 2) N fun n229 =>
  bd (lM s227 (fX6_toFree (xs n228) (xs n229) s227.2)) fun v230 s231 =>
  (if v226 = v230 then
  fL_law_1457 N xs k18 l3 s231
  else
  some (0, s231))
  else
  (if ((xs n1) &&& 63) = 29 then
  ixg (l3 + 1) N fun n233 =>
  ixg (l3 + 2) N fun n234 =>
  bd (lX s (fX5_way (xs n233) (xs n234) s.1)) fun v235 s236 =>
  ixg (l3 + 1) N fun n237 =>
  ixg (l3 + 2) N fun n238 =>
  bd (lM s236 (fX6_way (xs n237) (xs n238) s236.2)) fun v239 s240 =>
  (if v235 = v239 then
  fL_law_1457 N xs k18 l3 s240
  else
  some (0, s240))
  else
  (if ((xs n1) &&& 63) = 30 then
  ixg (l3 + 1) N fun n242 =>
  ixg (l3 + 2) N fun n243 =>
  bd (lX s (fX5_feed (xs n242) (xs n243) s.1)) fun v244 s245 =>
  ixg (l3 + 1) N fun n246 =>
  ixg (l3 + 2) N fun n247 =>
  bd (lM s245 (fX6_feed (xs n246) (xs n247) s245.2)) fun v248 s249 =>
  (if v244 = v248 then
  fL_law_1457 N xs k18 l3 s249
  else
  some (0, s249))
  else
  (if ((xs n1) &&& 63) = 31 then
  bd (lX s (fX5_wipe s.1)) fun v251 s252 =>
  bd (lM s252 (fX6_wipe s252.2)) fun v253 s254 =>
  (if v251 = v253 then
  fL_law_1457 N xs k18 l3 s254
  else
  some (0, s254))
  else
  (if ((xs n1) &&& 63) = 32 then
  bd (lX s (fX5_court s.1)) fun v256 s257 =>
  bd (lM s257 (fX6_court s257.2)) fun v258 s259 =>
  (if v256 = v258 then
  fL_law_1457 N xs k18 l3 s259
  else
  some (0, s259))
  else
  (if ((xs n1) &&& 63) = 33 then
  ixg (l3 + 1) N fun n261 =>
  ixg (l3 + 2) N fun n262 =>
  ixg (l3 + 3) N fun n263 =>
  bd (lX s (fX5_sheet (xs n261) (xs n262) (xs n263) s.1)) fun v264 s265 =>
  ixg (l3 + 1) N fun n266 =>
  ixg (l3 + 2) N fun n267 =>
  ixg (l3 + 3) N fun n268 =>
  bd (lM s265 (fX6_sheet (xs n266) (xs n267) (xs n268) s265.2)) fun v269 s270 =>
  (if v264 = v269 then
  fL_law_1457 N xs k18 l3 s270
  else
  some (0, s270))
  else
  (if ((xs n1) &&& 63) = 34 then
  ixg (l3 + 1) N fun n272 =>
  ixg (l3 + 2) N fun n273 =>
  ixg (l3 + 3) N fun n274 =>
  ixg (l3 + 4) N fun n275 =>
  bd (lX s (fX5_write (xs n272) (xs n273) (((Int32.toInt64 (xs n274)) <<< (Int32.toInt64 32 &&& 63)) ||| ((Int32.toInt64 (xs n275)) &&& 4294967295)) s.1)) fun v276 s277 =>
  ixg (l3 + 1) N fun n278 =>
  ixg (l3 + 2) N fun n279 =>
  ixg (l3 + 3) N fun n280 =>
  ixg (l3 + 4) N fun n281 =>
  bd (lM s277 (fX6_write (xs n278) (xs n279) (((Int32.toInt64 (xs n280)) <<< (Int32.toInt64 32 &&& 63)) ||| ((Int32.toInt64 (xs n281)) &&& 4294967295)) s277.2)) fun v282 s283 =>
  (if (lg_cmp v276 v282) = 0 then
  fL_law_1457 N xs k18 l3 s283
  else
  some (0, s283))
  else
  (if ((xs n1) &&& 63) = 35 then
  ixg (l3 + 1) N fun n285 =>
  ixg (l3 + 2) N fun n286 =>
  ixg (l3 + 3) N fun n287 =>
  ixg (l3 + 4) N fun n288 =>
  ixg (l3 + 5) N fun n289 =>
  bd (lX s (fX5_copy (xs n285) (xs n286) (xs n287) (xs n288) (xs n289) s.1)) fun v290 s291 =>
  ixg (l3 + 1) N fun n292 =>
  ixg (l3 + 2) N fun n293 =>
  ixg (l3 + 3) N fun n294 =>
  ixg (l3 + 4) N fun n295 =>
  ixg (l3 + 5) N fun n296 =>
  bd (lM s291 (fX6_copy (xs n292) (xs n293) (xs n294) (xs n295) (xs n296) s291.2)) fun v297 s298 =>
  (if v290 = v297 then
  fL_law_1457 N xs k18 l3 s298
  else
  some (0, s298))
  else
  (if ((xs n1) &&& 63) = 36 then
  ixg (l3 + 1) N fun n300 =>
  bd (lX s (fX5_lays (xs n300) s.1)) fun v301 s302 =>
  ixg (l3 + 1) N fun n303 =>
  bd (lM s302 (fX6_lays (xs n303) s302.2)) fun v304 s305 =>
  (if v301 = v304 then
  fL_law_1457 N xs k18 l3 s305
  else
  some (0, s305))
  else
  (if ((xs n1) &&& 63) = 37 then
  ixg (l3 + 1) N fun n307 =>
  bd (lX s (fX5_roll (xs n307) s.1)) fun v308 s309 =>
  ixg (l3 + 1) N fun n310 =>
  bd (lM s309 (fX6_roll (xs n310) s309.2)) fun v311 s312 =>
  (if v308 = v311 then
  fL_law_1457 N xs k18 l3 s312
  else
  some (0, s312))
  else
  (if ((xs n1) &&& 63) = 38 then
  ixg (l3 + 1) N fun n314 =>
  bd (lX s (fX5_read (xs n314) s.1)) fun v315 s316 =>
  ixg (l3 + 1) N fun n317 =>
  bd (lM s316 (fX6_read (xs n317) s316.2)) fun v318 s319 =>
  (if v315 = v318 then
  fL_law_1457 N xs k18 l3 s319
  else
  some (0, s319))
  else
  (if ((xs n1) &&& 63) = 39 then
  bd (lX s (fX5_image s.1)) fun v321 s322 =>
  bd (lM s322 (fX6_image s322.2)) fun v323 s324 =>
  (if v321 = v323 then
  fL_law_1457 N xs k18 l3 s324
  else
  some (0, s324))
  else
  (if ((xs n1) &&& 63) = 40 then
  bd (lX s (fX5_undo s.1)) fun v326 s327 =>
  bd (lM s327 (fX6_undo s327.2)) fun v328 s329 =>
  (if v326 = v328 then
  fL_law_1457 N xs k18 l3 s329
  else
  some (0, s329))
  else
  (if ((xs n1) &&& 63) = 41 then
  bd (lX s (fX5_tear s.1)) fun v331 s332 =>
  bd (lM s332 (fX6_tear s332.2)) fun v333 s334 =>
  (if v331 = v333 then
  fL_law_1457 N xs k18 l3 s334
  else
  some (0, s334))
  else
  (if ((xs n1) &&& 63) = 42 then
  ixg (l3 + 1) N fun n336 =>
  bd (lX s (fX5_count (xs n336) s.1)) fun v337 s338 =>
  ixg (l3 + 1) N fun n339 =>
  bd (lM s338 (fX6_count (xs n339) s338.2)) fun v340 s341 =>
  (if v337 = v340 then
  fL_law_1457 N xs k18 l3 s341
  else
  some (0, s341))
  else
  (if ((xs n1) &&& 63) = 43 then
  ixg (l3 + 1) N fun n343 =>
  bd (lX s (fX5_status (xs n343) s.1)) fun v344 s345 =>
  ixg (l3 + 1) N fun n346 =>
  bd (lM s345 (fX6_status (xs n346) s345.2)) fun v347 s348 =>
  (if v344 = v347 then
  fL_law_1457 N xs k18 l3 s348
  else
  some (0, s348))
  else
  fL_law_1457 N xs k18 l3 s)))))))))))))))))))))))))))))))))))))))))))))
set_option maxRecDepth 100000 in
set_option maxHeartbeats 4000000 in
theorem e_L_law_18b {G : Cf}  {N : Nat} {xs : Nat → Int32} (hN : cL G = N) (hxs : cX G = xs) {k18 : Int32 → SL → Option (Int32 × SL)} (hk18 : ∀ (l3 : Int32) (s : SL), R wfL inI G M_L_law 18 [some (.ref 4000), some (.ref 0), some (.ref mb), some (.int l3)] [] s (k18 l3 s)) (l3 : Int32) (s : SL) : R wfL inI G M_L_law 18 [some (.ref 4000), some (.ref 0), some (.ref mb), some (.int l3)] [] s (fL_law_18b N xs k18 l3 s) := by
  unfold fL_law_18b
  refine rr_iload_n (q := 19) rfl dL_law_18 rfl ?_
  refine rr_aload_n (q := 20) rfl dL_law_19 rfl ?_
  refine rr_slenN (q := 21) rfl hN dL_law_20 ?_
  refine rr_bipush 6 (q := 23) rfl dL_law_21 rfl ?_
  refine rr_isub (q := 24) rfl dL_law_23 ?_
  refine rr_icmp_gt 1463 (q := 27) rfl dL_law_24 rfl (fun _ => ?_) (fun _ => ?_)
  · refine rr_iconst 1 (q := 1464) rfl dL_law_1463 rfl ?_
    exact rr_zret dL_law_1464 rfl (Or.inr rfl)
  · refine rr_aload_n (q := 28) rfl dL_law_27 rfl ?_
    refine rr_iload_n (q := 29) rfl dL_law_28 rfl ?_
    refine rr_sald (q := 30) rfl hN hxs dL_law_29 (fun n1 => ?_)
    refine rr_bipush 63 (q := 32) rfl dL_law_30 rfl ?_
    refine rr_iand (q := 33) rfl dL_law_32 ?_
    refine rr_case 0 ?_ (fun hs10 => ?_)
    · refine rr_tableIn 224 dL_law_33 (by decide) (by decide) rfl rfl ?_
      refine rr_aload_n (q := 225) rfl dL_law_224 rfl ?_
      refine rr_aload_n (q := 226) rfl dL_law_225 rfl ?_
      refine rr_iload_n (q := 227) rfl dL_law_226 rfl ?_
      refine rr_iconst 1 (q := 228) rfl dL_law_227 rfl ?_
      refine rr_iadd (q := 229) rfl dL_law_228 ?_
      refine rr_sald (q := 230) rfl hN hxs dL_law_229 (fun n2 => ?_)
      refine rr_aload_n (q := 231) rfl dL_law_230 rfl ?_
      refine rr_iload_n (q := 232) rfl dL_law_231 rfl ?_
      refine rr_iconst 2 (q := 233) rfl dL_law_232 rfl ?_
      refine rr_iadd (q := 234) rfl dL_law_233 ?_
      refine rr_sald (q := 235) rfl hN hxs dL_law_234 (fun n3 => ?_)
      refine rr_cVi (q := 238) rfl V_X5_fear ml_L_13 ⟨Nat.le_of_ble_eq_true rfl, Nat.le_of_ble_eq_true rfl⟩ (ctX (e_X5_fear (xs n2) (xs n3) s.1)) w_selfL rfl rfl rfl rfl (Nat.le_of_ble_eq_true rfl) dL_law_235 (fun v4 s5 => ?_)
      refine rr_aload_n (q := 239) rfl dL_law_238 rfl ?_
      refine rr_aload_n (q := 240) rfl dL_law_239 rfl ?_
      refine rr_iload_n (q := 241) rfl dL_law_240 rfl ?_
      refine rr_iconst 1 (q := 242) rfl dL_law_241 rfl ?_
      refine rr_iadd (q := 243) rfl dL_law_242 ?_
      refine rr_sald (q := 244) rfl hN hxs dL_law_243 (fun n6 => ?_)
      refine rr_aload_n (q := 245) rfl dL_law_244 rfl ?_
      refine rr_iload_n (q := 246) rfl dL_law_245 rfl ?_
      refine rr_iconst 2 (q := 247) rfl dL_law_246 rfl ?_
      refine rr_iadd (q := 248) rfl dL_law_247 ?_
      refine rr_sald (q := 249) rfl hN hxs dL_law_248 (fun n7 => ?_)
      refine rr_cVi (q := 252) rfl V_X6_fear ml_L_17 ⟨Nat.le_of_ble_eq_true rfl, Nat.le_of_ble_eq_true rfl⟩ (ctM (e_X6_fear (xs n6) (xs n7) s5.2)) w_ML rfl rfl rfl rfl (Nat.le_of_ble_eq_true rfl) dL_law_249 (fun v8 s9 => ?_)
      refine rr_icmp_eq 1457 (q := 255) rfl dL_law_252 rfl (fun _ => ?_) (fun _ => ?_)
      · exact e_L_law_1457 hN hxs hk18 l3 s9
      · refine rr_iconst 0 (q := 256) rfl dL_law_255 rfl ?_
        exact rr_zret dL_law_256 rfl (Or.inl rfl)
    · refine rr_case 1 ?_ (fun hs19 => ?_)
      · refine rr_tableIn 257 dL_law_33 (by decide) (by decide) rfl rfl ?_
        refine rr_aload_n (q := 258) rfl dL_law_257 rfl ?_
        refine rr_aload_n (q := 259) rfl dL_law_258 rfl ?_
        refine rr_iload_n (q := 260) rfl dL_law_259 rfl ?_
        refine rr_iconst 1 (q := 261) rfl dL_law_260 rfl ?_
        refine rr_iadd (q := 262) rfl dL_law_261 ?_
        refine rr_sald (q := 263) rfl hN hxs dL_law_262 (fun n11 => ?_)
        refine rr_aload_n (q := 264) rfl dL_law_263 rfl ?_
        refine rr_iload_n (q := 265) rfl dL_law_264 rfl ?_
        refine rr_iconst 2 (q := 266) rfl dL_law_265 rfl ?_
        refine rr_iadd (q := 267) rfl dL_law_266 ?_
        refine rr_sald (q := 268) rfl hN hxs dL_law_267 (fun n12 => ?_)
        refine rr_cVi (q := 271) rfl V_X5_kingOf ml_L_18 ⟨Nat.le_of_ble_eq_true rfl, Nat.le_of_ble_eq_true rfl⟩ (ctX (e_X5_kingOf (xs n11) (xs n12) s.1)) w_selfL rfl rfl rfl rfl (Nat.le_of_ble_eq_true rfl) dL_law_268 (fun v13 s14 => ?_)
        refine rr_aload_n (q := 272) rfl dL_law_271 rfl ?_
        refine rr_aload_n (q := 273) rfl dL_law_272 rfl ?_
        refine rr_iload_n (q := 274) rfl dL_law_273 rfl ?_
        refine rr_iconst 1 (q := 275) rfl dL_law_274 rfl ?_
        refine rr_iadd (q := 276) rfl dL_law_275 ?_
        refine rr_sald (q := 277) rfl hN hxs dL_law_276 (fun n15 => ?_)
        refine rr_aload_n (q := 278) rfl dL_law_277 rfl ?_
        refine rr_iload_n (q := 279) rfl dL_law_278 rfl ?_
        refine rr_iconst 2 (q := 280) rfl dL_law_279 rfl ?_
        refine rr_iadd (q := 281) rfl dL_law_280 ?_
        refine rr_sald (q := 282) rfl hN hxs dL_law_281 (fun n16 => ?_)
        refine rr_cVi (q := 285) rfl V_X6_kingOf ml_L_21 ⟨Nat.le_of_ble_eq_true rfl, Nat.le_of_ble_eq_true rfl⟩ (ctM (e_X6_kingOf (xs n15) (xs n16) s14.2)) w_ML rfl rfl rfl rfl (Nat.le_of_ble_eq_true rfl) dL_law_282 (fun v17 s18 => ?_)
        refine rr_icmp_eq 1457 (q := 288) rfl dL_law_285 rfl (fun _ => ?_) (fun _ => ?_)
        · exact e_L_law_1457 hN hxs hk18 l3 s18
        · refine rr_iconst 0 (q := 289) rfl dL_law_288 rfl ?_
          exact rr_zret dL_law_289 rfl (Or.inl rfl)
      · refine rr_case 2 ?_ (fun hs30 => ?_)
        · refine rr_tableIn 290 dL_law_33 (by decide) (by decide) rfl rfl ?_
          refine rr_aload_n (q := 291) rfl dL_law_290 rfl ?_
          refine rr_aload_n (q := 292) rfl dL_law_291 rfl ?_
          refine rr_iload_n (q := 293) rfl dL_law_292 rfl ?_
          refine rr_iconst 1 (q := 294) rfl dL_law_293 rfl ?_
          refine rr_iadd (q := 295) rfl dL_law_294 ?_
          refine rr_sald (q := 296) rfl hN hxs dL_law_295 (fun n20 => ?_)
          refine rr_aload_n (q := 297) rfl dL_law_296 rfl ?_
          refine rr_iload_n (q := 298) rfl dL_law_297 rfl ?_
          refine rr_iconst 2 (q := 299) rfl dL_law_298 rfl ?_
          refine rr_iadd (q := 300) rfl dL_law_299 ?_
          refine rr_sald (q := 301) rfl hN hxs dL_law_300 (fun n21 => ?_)
          refine rr_aload_n (q := 302) rfl dL_law_301 rfl ?_
          refine rr_iload_n (q := 303) rfl dL_law_302 rfl ?_
          refine rr_iconst 3 (q := 304) rfl dL_law_303 rfl ?_
          refine rr_iadd (q := 305) rfl dL_law_304 ?_
          refine rr_sald (q := 306) rfl hN hxs dL_law_305 (fun n22 => ?_)
          refine rr_cVi (q := 309) rfl V_X5_child ml_L_22 ⟨Nat.le_of_ble_eq_true rfl, Nat.le_of_ble_eq_true rfl⟩ (ctX (e_X5_child (xs n20) (xs n21) (xs n22) s.1)) w_selfL rfl rfl rfl rfl (Nat.le_of_ble_eq_true rfl) dL_law_306 (fun v23 s24 => ?_)
          refine rr_aload_n (q := 310) rfl dL_law_309 rfl ?_
          refine rr_aload_n (q := 311) rfl dL_law_310 rfl ?_
          refine rr_iload_n (q := 312) rfl dL_law_311 rfl ?_
          refine rr_iconst 1 (q := 313) rfl dL_law_312 rfl ?_
          refine rr_iadd (q := 314) rfl dL_law_313 ?_
          refine rr_sald (q := 315) rfl hN hxs dL_law_314 (fun n25 => ?_)
          refine rr_aload_n (q := 316) rfl dL_law_315 rfl ?_
          refine rr_iload_n (q := 317) rfl dL_law_316 rfl ?_
          refine rr_iconst 2 (q := 318) rfl dL_law_317 rfl ?_
          refine rr_iadd (q := 319) rfl dL_law_318 ?_
          refine rr_sald (q := 320) rfl hN hxs dL_law_319 (fun n26 => ?_)
          refine rr_aload_n (q := 321) rfl dL_law_320 rfl ?_
          refine rr_iload_n (q := 322) rfl dL_law_321 rfl ?_
          refine rr_iconst 3 (q := 323) rfl dL_law_322 rfl ?_
          refine rr_iadd (q := 324) rfl dL_law_323 ?_
          refine rr_sald (q := 325) rfl hN hxs dL_law_324 (fun n27 => ?_)
          refine rr_cVi (q := 328) rfl V_X6_child ml_L_26 ⟨Nat.le_of_ble_eq_true rfl, Nat.le_of_ble_eq_true rfl⟩ (ctM (e_X6_child (xs n25) (xs n26) (xs n27) s24.2)) w_ML rfl rfl rfl rfl (Nat.le_of_ble_eq_true rfl) dL_law_325 (fun v28 s29 => ?_)
          refine rr_icmp_eq 1457 (q := 331) rfl dL_law_328 rfl (fun _ => ?_) (fun _ => ?_)
          · exact e_L_law_1457 hN hxs hk18 l3 s29
          · refine rr_iconst 0 (q := 332) rfl dL_law_331 rfl ?_
            exact rr_zret dL_law_332 rfl (Or.inl rfl)
        · refine rr_case 3 ?_ (fun hs39 => ?_)
          · refine rr_tableIn 333 dL_law_33 (by decide) (by decide) rfl rfl ?_
            refine rr_aload_n (q := 334) rfl dL_law_333 rfl ?_
            refine rr_aload_n (q := 335) rfl dL_law_334 rfl ?_
            refine rr_iload_n (q := 336) rfl dL_law_335 rfl ?_
            refine rr_iconst 1 (q := 337) rfl dL_law_336 rfl ?_
            refine rr_iadd (q := 338) rfl dL_law_337 ?_
            refine rr_sald (q := 339) rfl hN hxs dL_law_338 (fun n31 => ?_)
            refine rr_aload_n (q := 340) rfl dL_law_339 rfl ?_
            refine rr_iload_n (q := 341) rfl dL_law_340 rfl ?_
            refine rr_iconst 2 (q := 342) rfl dL_law_341 rfl ?_
            refine rr_iadd (q := 343) rfl dL_law_342 ?_
            refine rr_sald (q := 344) rfl hN hxs dL_law_343 (fun n32 => ?_)
            refine rr_cVi (q := 347) rfl V_X5_of ml_L_27 ⟨Nat.le_of_ble_eq_true rfl, Nat.le_of_ble_eq_true rfl⟩ (ctX (e_X5_of (xs n31) (xs n32) s.1)) w_selfL rfl rfl rfl rfl (Nat.le_of_ble_eq_true rfl) dL_law_344 (fun v33 s34 => ?_)
            refine rr_aload_n (q := 348) rfl dL_law_347 rfl ?_
            refine rr_aload_n (q := 349) rfl dL_law_348 rfl ?_
            refine rr_iload_n (q := 350) rfl dL_law_349 rfl ?_
            refine rr_iconst 1 (q := 351) rfl dL_law_350 rfl ?_
            refine rr_iadd (q := 352) rfl dL_law_351 ?_
            refine rr_sald (q := 353) rfl hN hxs dL_law_352 (fun n35 => ?_)
            refine rr_aload_n (q := 354) rfl dL_law_353 rfl ?_
            refine rr_iload_n (q := 355) rfl dL_law_354 rfl ?_
            refine rr_iconst 2 (q := 356) rfl dL_law_355 rfl ?_
            refine rr_iadd (q := 357) rfl dL_law_356 ?_
            refine rr_sald (q := 358) rfl hN hxs dL_law_357 (fun n36 => ?_)
            refine rr_cVi (q := 361) rfl V_X6_of ml_L_30 ⟨Nat.le_of_ble_eq_true rfl, Nat.le_of_ble_eq_true rfl⟩ (ctM (e_X6_of (xs n35) (xs n36) s34.2)) w_ML rfl rfl rfl rfl (Nat.le_of_ble_eq_true rfl) dL_law_358 (fun v37 s38 => ?_)
            refine rr_icmp_eq 1457 (q := 364) rfl dL_law_361 rfl (fun _ => ?_) (fun _ => ?_)
            · exact e_L_law_1457 hN hxs hk18 l3 s38
            · refine rr_iconst 0 (q := 365) rfl dL_law_364 rfl ?_
              exact rr_zret dL_law_365 rfl (Or.inl rfl)
          · refine rr_case 4 ?_ (fun hs48 => ?_)
            · refine rr_tableIn 366 dL_law_33 (by decide) (by decide) rfl rfl ?_
              refine rr_aload_n (q := 367) rfl dL_law_366 rfl ?_
              refine rr_aload_n (q := 368) rfl dL_law_367 rfl ?_
              refine rr_iload_n (q := 369) rfl dL_law_368 rfl ?_
              refine rr_iconst 1 (q := 370) rfl dL_law_369 rfl ?_
              refine rr_iadd (q := 371) rfl dL_law_370 ?_
              refine rr_sald (q := 372) rfl hN hxs dL_law_371 (fun n40 => ?_)
              refine rr_aload_n (q := 373) rfl dL_law_372 rfl ?_
              refine rr_iload_n (q := 374) rfl dL_law_373 rfl ?_
              refine rr_iconst 2 (q := 375) rfl dL_law_374 rfl ?_
              refine rr_iadd (q := 376) rfl dL_law_375 ?_
              refine rr_sald (q := 377) rfl hN hxs dL_law_376 (fun n41 => ?_)
              refine rr_cVi (q := 380) rfl V_X5_move ml_L_31 ⟨Nat.le_of_ble_eq_true rfl, Nat.le_of_ble_eq_true rfl⟩ (ctX (e_X5_move (xs n40) (xs n41) s.1)) w_selfL rfl rfl rfl rfl (Nat.le_of_ble_eq_true rfl) dL_law_377 (fun v42 s43 => ?_)
              refine rr_aload_n (q := 381) rfl dL_law_380 rfl ?_
              refine rr_aload_n (q := 382) rfl dL_law_381 rfl ?_
              refine rr_iload_n (q := 383) rfl dL_law_382 rfl ?_
              refine rr_iconst 1 (q := 384) rfl dL_law_383 rfl ?_
              refine rr_iadd (q := 385) rfl dL_law_384 ?_
              refine rr_sald (q := 386) rfl hN hxs dL_law_385 (fun n44 => ?_)
              refine rr_aload_n (q := 387) rfl dL_law_386 rfl ?_
              refine rr_iload_n (q := 388) rfl dL_law_387 rfl ?_
              refine rr_iconst 2 (q := 389) rfl dL_law_388 rfl ?_
              refine rr_iadd (q := 390) rfl dL_law_389 ?_
              refine rr_sald (q := 391) rfl hN hxs dL_law_390 (fun n45 => ?_)
              refine rr_cVi (q := 394) rfl V_X6_move ml_L_34 ⟨Nat.le_of_ble_eq_true rfl, Nat.le_of_ble_eq_true rfl⟩ (ctM (e_X6_move (xs n44) (xs n45) s43.2)) w_ML rfl rfl rfl rfl (Nat.le_of_ble_eq_true rfl) dL_law_391 (fun v46 s47 => ?_)
              refine rr_icmp_eq 1457 (q := 397) rfl dL_law_394 rfl (fun _ => ?_) (fun _ => ?_)
              · exact e_L_law_1457 hN hxs hk18 l3 s47
              · refine rr_iconst 0 (q := 398) rfl dL_law_397 rfl ?_
                exact rr_zret dL_law_398 rfl (Or.inl rfl)
            · refine rr_case 5 ?_ (fun hs57 => ?_)
              · refine rr_tableIn 399 dL_law_33 (by decide) (by decide) rfl rfl ?_
                refine rr_aload_n (q := 400) rfl dL_law_399 rfl ?_
                refine rr_aload_n (q := 401) rfl dL_law_400 rfl ?_
                refine rr_iload_n (q := 402) rfl dL_law_401 rfl ?_
                refine rr_iconst 1 (q := 403) rfl dL_law_402 rfl ?_
                refine rr_iadd (q := 404) rfl dL_law_403 ?_
                refine rr_sald (q := 405) rfl hN hxs dL_law_404 (fun n49 => ?_)
                refine rr_aload_n (q := 406) rfl dL_law_405 rfl ?_
                refine rr_iload_n (q := 407) rfl dL_law_406 rfl ?_
                refine rr_iconst 2 (q := 408) rfl dL_law_407 rfl ?_
                refine rr_iadd (q := 409) rfl dL_law_408 ?_
                refine rr_sald (q := 410) rfl hN hxs dL_law_409 (fun n50 => ?_)
                refine rr_cVi (q := 413) rfl V_X5_worth ml_L_35 ⟨Nat.le_of_ble_eq_true rfl, Nat.le_of_ble_eq_true rfl⟩ (ctX (e_X5_worth (xs n49) (xs n50) s.1)) w_selfL rfl rfl rfl rfl (Nat.le_of_ble_eq_true rfl) dL_law_410 (fun v51 s52 => ?_)
                refine rr_aload_n (q := 414) rfl dL_law_413 rfl ?_
                refine rr_aload_n (q := 415) rfl dL_law_414 rfl ?_
                refine rr_iload_n (q := 416) rfl dL_law_415 rfl ?_
                refine rr_iconst 1 (q := 417) rfl dL_law_416 rfl ?_
                refine rr_iadd (q := 418) rfl dL_law_417 ?_
                refine rr_sald (q := 419) rfl hN hxs dL_law_418 (fun n53 => ?_)
                refine rr_aload_n (q := 420) rfl dL_law_419 rfl ?_
                refine rr_iload_n (q := 421) rfl dL_law_420 rfl ?_
                refine rr_iconst 2 (q := 422) rfl dL_law_421 rfl ?_
                refine rr_iadd (q := 423) rfl dL_law_422 ?_
                refine rr_sald (q := 424) rfl hN hxs dL_law_423 (fun n54 => ?_)
                refine rr_cVi (q := 427) rfl V_X6_worth ml_L_38 ⟨Nat.le_of_ble_eq_true rfl, Nat.le_of_ble_eq_true rfl⟩ (ctM (e_X6_worth (xs n53) (xs n54) s52.2)) w_ML rfl rfl rfl rfl (Nat.le_of_ble_eq_true rfl) dL_law_424 (fun v55 s56 => ?_)
                refine rr_icmp_eq 1457 (q := 430) rfl dL_law_427 rfl (fun _ => ?_) (fun _ => ?_)
                · exact e_L_law_1457 hN hxs hk18 l3 s56
                · refine rr_iconst 0 (q := 431) rfl dL_law_430 rfl ?_
                  exact rr_zret dL_law_431 rfl (Or.inl rfl)
              · refine rr_case 6 ?_ (fun hs66 => ?_)
                · refine rr_tableIn 432 dL_law_33 (by decide) (by decide) rfl rfl ?_
                  refine rr_aload_n (q := 433) rfl dL_law_432 rfl ?_
                  refine rr_aload_n (q := 434) rfl dL_law_433 rfl ?_
                  refine rr_iload_n (q := 435) rfl dL_law_434 rfl ?_
                  refine rr_iconst 1 (q := 436) rfl dL_law_435 rfl ?_
                  refine rr_iadd (q := 437) rfl dL_law_436 ?_
                  refine rr_sald (q := 438) rfl hN hxs dL_law_437 (fun n58 => ?_)
                  refine rr_aload_n (q := 439) rfl dL_law_438 rfl ?_
                  refine rr_iload_n (q := 440) rfl dL_law_439 rfl ?_
                  refine rr_iconst 2 (q := 441) rfl dL_law_440 rfl ?_
                  refine rr_iadd (q := 442) rfl dL_law_441 ?_
                  refine rr_sald (q := 443) rfl hN hxs dL_law_442 (fun n59 => ?_)
                  refine rr_cVi (q := 446) rfl V_X5_turn ml_L_39 ⟨Nat.le_of_ble_eq_true rfl, Nat.le_of_ble_eq_true rfl⟩ (ctX (e_X5_turn (xs n58) (xs n59) s.1)) w_selfL rfl rfl rfl rfl (Nat.le_of_ble_eq_true rfl) dL_law_443 (fun v60 s61 => ?_)
                  refine rr_aload_n (q := 447) rfl dL_law_446 rfl ?_
                  refine rr_aload_n (q := 448) rfl dL_law_447 rfl ?_
                  refine rr_iload_n (q := 449) rfl dL_law_448 rfl ?_
                  refine rr_iconst 1 (q := 450) rfl dL_law_449 rfl ?_
                  refine rr_iadd (q := 451) rfl dL_law_450 ?_
                  refine rr_sald (q := 452) rfl hN hxs dL_law_451 (fun n62 => ?_)
                  refine rr_aload_n (q := 453) rfl dL_law_452 rfl ?_
                  refine rr_iload_n (q := 454) rfl dL_law_453 rfl ?_
                  refine rr_iconst 2 (q := 455) rfl dL_law_454 rfl ?_
                  refine rr_iadd (q := 456) rfl dL_law_455 ?_
                  refine rr_sald (q := 457) rfl hN hxs dL_law_456 (fun n63 => ?_)
                  refine rr_cVi (q := 460) rfl V_X6_turn ml_L_42 ⟨Nat.le_of_ble_eq_true rfl, Nat.le_of_ble_eq_true rfl⟩ (ctM (e_X6_turn (xs n62) (xs n63) s61.2)) w_ML rfl rfl rfl rfl (Nat.le_of_ble_eq_true rfl) dL_law_457 (fun v64 s65 => ?_)
                  refine rr_icmp_eq 1457 (q := 463) rfl dL_law_460 rfl (fun _ => ?_) (fun _ => ?_)
                  · exact e_L_law_1457 hN hxs hk18 l3 s65
                  · refine rr_iconst 0 (q := 464) rfl dL_law_463 rfl ?_
                    exact rr_zret dL_law_464 rfl (Or.inl rfl)
                · refine rr_case 7 ?_ (fun hs75 => ?_)
                  · refine rr_tableIn 465 dL_law_33 (by decide) (by decide) rfl rfl ?_
                    refine rr_aload_n (q := 466) rfl dL_law_465 rfl ?_
                    refine rr_aload_n (q := 467) rfl dL_law_466 rfl ?_
                    refine rr_iload_n (q := 468) rfl dL_law_467 rfl ?_
                    refine rr_iconst 1 (q := 469) rfl dL_law_468 rfl ?_
                    refine rr_iadd (q := 470) rfl dL_law_469 ?_
                    refine rr_sald (q := 471) rfl hN hxs dL_law_470 (fun n67 => ?_)
                    refine rr_aload_n (q := 472) rfl dL_law_471 rfl ?_
                    refine rr_iload_n (q := 473) rfl dL_law_472 rfl ?_
                    refine rr_iconst 2 (q := 474) rfl dL_law_473 rfl ?_
                    refine rr_iadd (q := 475) rfl dL_law_474 ?_
                    refine rr_sald (q := 476) rfl hN hxs dL_law_475 (fun n68 => ?_)
                    refine rr_cVi (q := 479) rfl V_X5_as ml_L_43 ⟨Nat.le_of_ble_eq_true rfl, Nat.le_of_ble_eq_true rfl⟩ (ctX (e_X5_as (xs n67) (xs n68) s.1)) w_selfL rfl rfl rfl rfl (Nat.le_of_ble_eq_true rfl) dL_law_476 (fun v69 s70 => ?_)
                    refine rr_aload_n (q := 480) rfl dL_law_479 rfl ?_
                    refine rr_aload_n (q := 481) rfl dL_law_480 rfl ?_
                    refine rr_iload_n (q := 482) rfl dL_law_481 rfl ?_
                    refine rr_iconst 1 (q := 483) rfl dL_law_482 rfl ?_
                    refine rr_iadd (q := 484) rfl dL_law_483 ?_
                    refine rr_sald (q := 485) rfl hN hxs dL_law_484 (fun n71 => ?_)
                    refine rr_aload_n (q := 486) rfl dL_law_485 rfl ?_
                    refine rr_iload_n (q := 487) rfl dL_law_486 rfl ?_
                    refine rr_iconst 2 (q := 488) rfl dL_law_487 rfl ?_
                    refine rr_iadd (q := 489) rfl dL_law_488 ?_
                    refine rr_sald (q := 490) rfl hN hxs dL_law_489 (fun n72 => ?_)
                    refine rr_cVi (q := 493) rfl V_X6_as ml_L_46 ⟨Nat.le_of_ble_eq_true rfl, Nat.le_of_ble_eq_true rfl⟩ (ctM (e_X6_as (xs n71) (xs n72) s70.2)) w_ML rfl rfl rfl rfl (Nat.le_of_ble_eq_true rfl) dL_law_490 (fun v73 s74 => ?_)
                    refine rr_icmp_eq 1457 (q := 496) rfl dL_law_493 rfl (fun _ => ?_) (fun _ => ?_)
                    · exact e_L_law_1457 hN hxs hk18 l3 s74
                    · refine rr_iconst 0 (q := 497) rfl dL_law_496 rfl ?_
                      exact rr_zret dL_law_497 rfl (Or.inl rfl)
                  · refine rr_case 8 ?_ (fun hs82 => ?_)
                    · refine rr_tableIn 498 dL_law_33 (by decide) (by decide) rfl rfl ?_
                      refine rr_aload_n (q := 499) rfl dL_law_498 rfl ?_
                      refine rr_aload_n (q := 500) rfl dL_law_499 rfl ?_
                      refine rr_iload_n (q := 501) rfl dL_law_500 rfl ?_
                      refine rr_iconst 1 (q := 502) rfl dL_law_501 rfl ?_
                      refine rr_iadd (q := 503) rfl dL_law_502 ?_
                      refine rr_sald (q := 504) rfl hN hxs dL_law_503 (fun n76 => ?_)
                      refine rr_cVi (q := 507) rfl V_X5_dies ml_L_47 ⟨Nat.le_of_ble_eq_true rfl, Nat.le_of_ble_eq_true rfl⟩ (ctX (e_X5_dies (xs n76) s.1)) w_selfL rfl rfl rfl rfl (Nat.le_of_ble_eq_true rfl) dL_law_504 (fun v77 s78 => ?_)
                      refine rr_aload_n (q := 508) rfl dL_law_507 rfl ?_
                      refine rr_aload_n (q := 509) rfl dL_law_508 rfl ?_
                      refine rr_iload_n (q := 510) rfl dL_law_509 rfl ?_
                      refine rr_iconst 1 (q := 511) rfl dL_law_510 rfl ?_
                      refine rr_iadd (q := 512) rfl dL_law_511 ?_
                      refine rr_sald (q := 513) rfl hN hxs dL_law_512 (fun n79 => ?_)
                      refine rr_cVi (q := 516) rfl V_X6_dies ml_L_51 ⟨Nat.le_of_ble_eq_true rfl, Nat.le_of_ble_eq_true rfl⟩ (ctM (e_X6_dies (xs n79) s78.2)) w_ML rfl rfl rfl rfl (Nat.le_of_ble_eq_true rfl) dL_law_513 (fun v80 s81 => ?_)
                      refine rr_icmp_eq 1457 (q := 519) rfl dL_law_516 rfl (fun _ => ?_) (fun _ => ?_)
                      · exact e_L_law_1457 hN hxs hk18 l3 s81
                      · refine rr_iconst 0 (q := 520) rfl dL_law_519 rfl ?_
                        exact rr_zret dL_law_520 rfl (Or.inl rfl)
                    · refine rr_case 9 ?_ (fun hs91 => ?_)
                      · refine rr_tableIn 521 dL_law_33 (by decide) (by decide) rfl rfl ?_
                        refine rr_aload_n (q := 522) rfl dL_law_521 rfl ?_
                        refine rr_aload_n (q := 523) rfl dL_law_522 rfl ?_
                        refine rr_iload_n (q := 524) rfl dL_law_523 rfl ?_
                        refine rr_iconst 1 (q := 525) rfl dL_law_524 rfl ?_
                        refine rr_iadd (q := 526) rfl dL_law_525 ?_
                        refine rr_sald (q := 527) rfl hN hxs dL_law_526 (fun n83 => ?_)
                        refine rr_aload_n (q := 528) rfl dL_law_527 rfl ?_
                        refine rr_iload_n (q := 529) rfl dL_law_528 rfl ?_
                        refine rr_iconst 2 (q := 530) rfl dL_law_529 rfl ?_
                        refine rr_iadd (q := 531) rfl dL_law_530 ?_
                        refine rr_sald (q := 532) rfl hN hxs dL_law_531 (fun n84 => ?_)
                        refine rr_cVi (q := 535) rfl V_X5_swap ml_L_52 ⟨Nat.le_of_ble_eq_true rfl, Nat.le_of_ble_eq_true rfl⟩ (ctX (e_X5_swap (xs n83) (xs n84) s.1)) w_selfL rfl rfl rfl rfl (Nat.le_of_ble_eq_true rfl) dL_law_532 (fun v85 s86 => ?_)
                        refine rr_aload_n (q := 536) rfl dL_law_535 rfl ?_
                        refine rr_aload_n (q := 537) rfl dL_law_536 rfl ?_
                        refine rr_iload_n (q := 538) rfl dL_law_537 rfl ?_
                        refine rr_iconst 1 (q := 539) rfl dL_law_538 rfl ?_
                        refine rr_iadd (q := 540) rfl dL_law_539 ?_
                        refine rr_sald (q := 541) rfl hN hxs dL_law_540 (fun n87 => ?_)
                        refine rr_aload_n (q := 542) rfl dL_law_541 rfl ?_
                        refine rr_iload_n (q := 543) rfl dL_law_542 rfl ?_
                        refine rr_iconst 2 (q := 544) rfl dL_law_543 rfl ?_
                        refine rr_iadd (q := 545) rfl dL_law_544 ?_
                        refine rr_sald (q := 546) rfl hN hxs dL_law_545 (fun n88 => ?_)
                        refine rr_cVi (q := 549) rfl V_X6_swap ml_L_55 ⟨Nat.le_of_ble_eq_true rfl, Nat.le_of_ble_eq_true rfl⟩ (ctM (e_X6_swap (xs n87) (xs n88) s86.2)) w_ML rfl rfl rfl rfl (Nat.le_of_ble_eq_true rfl) dL_law_546 (fun v89 s90 => ?_)
                        refine rr_icmp_eq 1457 (q := 552) rfl dL_law_549 rfl (fun _ => ?_) (fun _ => ?_)
                        · exact e_L_law_1457 hN hxs hk18 l3 s90
                        · refine rr_iconst 0 (q := 553) rfl dL_law_552 rfl ?_
                          exact rr_zret dL_law_553 rfl (Or.inl rfl)
                      · refine rr_case 10 ?_ (fun hs104 => ?_)
                        · refine rr_tableIn 554 dL_law_33 (by decide) (by decide) rfl rfl ?_
                          refine rr_aload_n (q := 555) rfl dL_law_554 rfl ?_
                          refine rr_aload_n (q := 556) rfl dL_law_555 rfl ?_
                          refine rr_iload_n (q := 557) rfl dL_law_556 rfl ?_
                          refine rr_iconst 1 (q := 558) rfl dL_law_557 rfl ?_
                          refine rr_iadd (q := 559) rfl dL_law_558 ?_
                          refine rr_sald (q := 560) rfl hN hxs dL_law_559 (fun n92 => ?_)
                          refine rr_aload_n (q := 561) rfl dL_law_560 rfl ?_
                          refine rr_iload_n (q := 562) rfl dL_law_561 rfl ?_
                          refine rr_iconst 2 (q := 563) rfl dL_law_562 rfl ?_
                          refine rr_iadd (q := 564) rfl dL_law_563 ?_
                          refine rr_sald (q := 565) rfl hN hxs dL_law_564 (fun n93 => ?_)
                          refine rr_aload_n (q := 566) rfl dL_law_565 rfl ?_
                          refine rr_iload_n (q := 567) rfl dL_law_566 rfl ?_
                          refine rr_iconst 3 (q := 568) rfl dL_law_567 rfl ?_
                          refine rr_iadd (q := 569) rfl dL_law_568 ?_
                          refine rr_sald (q := 570) rfl hN hxs dL_law_569 (fun n94 => ?_)
                          refine rr_aload_n (q := 571) rfl dL_law_570 rfl ?_
                          refine rr_iload_n (q := 572) rfl dL_law_571 rfl ?_
                          refine rr_iconst 4 (q := 573) rfl dL_law_572 rfl ?_
                          refine rr_iadd (q := 574) rfl dL_law_573 ?_
                          refine rr_sald (q := 575) rfl hN hxs dL_law_574 (fun n95 => ?_)
                          refine rr_cVi (q := 578) rfl V_X5_treaty ml_L_56 ⟨Nat.le_of_ble_eq_true rfl, Nat.le_of_ble_eq_true rfl⟩ (ctX (e_X5_treaty (xs n92) (xs n93) (xs n94) (xs n95) s.1)) w_selfL rfl rfl rfl rfl (Nat.le_of_ble_eq_true rfl) dL_law_575 (fun v96 s97 => ?_)
                          refine rr_aload_n (q := 579) rfl dL_law_578 rfl ?_
                          refine rr_aload_n (q := 580) rfl dL_law_579 rfl ?_
                          refine rr_iload_n (q := 581) rfl dL_law_580 rfl ?_
                          refine rr_iconst 1 (q := 582) rfl dL_law_581 rfl ?_
                          refine rr_iadd (q := 583) rfl dL_law_582 ?_
                          refine rr_sald (q := 584) rfl hN hxs dL_law_583 (fun n98 => ?_)
                          refine rr_aload_n (q := 585) rfl dL_law_584 rfl ?_
                          refine rr_iload_n (q := 586) rfl dL_law_585 rfl ?_
                          refine rr_iconst 2 (q := 587) rfl dL_law_586 rfl ?_
                          refine rr_iadd (q := 588) rfl dL_law_587 ?_
                          refine rr_sald (q := 589) rfl hN hxs dL_law_588 (fun n99 => ?_)
                          refine rr_aload_n (q := 590) rfl dL_law_589 rfl ?_
                          refine rr_iload_n (q := 591) rfl dL_law_590 rfl ?_
                          refine rr_iconst 3 (q := 592) rfl dL_law_591 rfl ?_
                          refine rr_iadd (q := 593) rfl dL_law_592 ?_
                          refine rr_sald (q := 594) rfl hN hxs dL_law_593 (fun n100 => ?_)
                          refine rr_aload_n (q := 595) rfl dL_law_594 rfl ?_
                          refine rr_iload_n (q := 596) rfl dL_law_595 rfl ?_
                          refine rr_iconst 4 (q := 597) rfl dL_law_596 rfl ?_
                          refine rr_iadd (q := 598) rfl dL_law_597 ?_
                          refine rr_sald (q := 599) rfl hN hxs dL_law_598 (fun n101 => ?_)
                          refine rr_cVi (q := 602) rfl V_X6_treaty ml_L_60 ⟨Nat.le_of_ble_eq_true rfl, Nat.le_of_ble_eq_true rfl⟩ (ctM (e_X6_treaty (xs n98) (xs n99) (xs n100) (xs n101) s97.2)) w_ML rfl rfl rfl rfl (Nat.le_of_ble_eq_true rfl) dL_law_599 (fun v102 s103 => ?_)
                          refine rr_icmp_eq 1457 (q := 605) rfl dL_law_602 rfl (fun _ => ?_) (fun _ => ?_)
                          · exact e_L_law_1457 hN hxs hk18 l3 s103
                          · refine rr_iconst 0 (q := 606) rfl dL_law_605 rfl ?_
                            exact rr_zret dL_law_606 rfl (Or.inl rfl)
                        · refine rr_case 11 ?_ (fun hs113 => ?_)
                          · refine rr_tableIn 607 dL_law_33 (by decide) (by decide) rfl rfl ?_
                            refine rr_aload_n (q := 608) rfl dL_law_607 rfl ?_
                            refine rr_aload_n (q := 609) rfl dL_law_608 rfl ?_
                            refine rr_iload_n (q := 610) rfl dL_law_609 rfl ?_
                            refine rr_iconst 1 (q := 611) rfl dL_law_610 rfl ?_
                            refine rr_iadd (q := 612) rfl dL_law_611 ?_
                            refine rr_sald (q := 613) rfl hN hxs dL_law_612 (fun n105 => ?_)
                            refine rr_aload_n (q := 614) rfl dL_law_613 rfl ?_
                            refine rr_iload_n (q := 615) rfl dL_law_614 rfl ?_
                            refine rr_iconst 2 (q := 616) rfl dL_law_615 rfl ?_
                            refine rr_iadd (q := 617) rfl dL_law_616 ?_
                            refine rr_sald (q := 618) rfl hN hxs dL_law_617 (fun n106 => ?_)
                            refine rr_cVi (q := 621) rfl V_X5_treatyOf ml_L_61 ⟨Nat.le_of_ble_eq_true rfl, Nat.le_of_ble_eq_true rfl⟩ (ctX (e_X5_treatyOf (xs n105) (xs n106) s.1)) w_selfL rfl rfl rfl rfl (Nat.le_of_ble_eq_true rfl) dL_law_618 (fun v107 s108 => ?_)
                            refine rr_aload_n (q := 622) rfl dL_law_621 rfl ?_
                            refine rr_aload_n (q := 623) rfl dL_law_622 rfl ?_
                            refine rr_iload_n (q := 624) rfl dL_law_623 rfl ?_
                            refine rr_iconst 1 (q := 625) rfl dL_law_624 rfl ?_
                            refine rr_iadd (q := 626) rfl dL_law_625 ?_
                            refine rr_sald (q := 627) rfl hN hxs dL_law_626 (fun n109 => ?_)
                            refine rr_aload_n (q := 628) rfl dL_law_627 rfl ?_
                            refine rr_iload_n (q := 629) rfl dL_law_628 rfl ?_
                            refine rr_iconst 2 (q := 630) rfl dL_law_629 rfl ?_
                            refine rr_iadd (q := 631) rfl dL_law_630 ?_
                            refine rr_sald (q := 632) rfl hN hxs dL_law_631 (fun n110 => ?_)
                            refine rr_cVi (q := 635) rfl V_X6_treatyOf ml_L_64 ⟨Nat.le_of_ble_eq_true rfl, Nat.le_of_ble_eq_true rfl⟩ (ctM (e_X6_treatyOf (xs n109) (xs n110) s108.2)) w_ML rfl rfl rfl rfl (Nat.le_of_ble_eq_true rfl) dL_law_632 (fun v111 s112 => ?_)
                            refine rr_icmp_eq 1457 (q := 638) rfl dL_law_635 rfl (fun _ => ?_) (fun _ => ?_)
                            · exact e_L_law_1457 hN hxs hk18 l3 s112
                            · refine rr_iconst 0 (q := 639) rfl dL_law_638 rfl ?_
                              exact rr_zret dL_law_639 rfl (Or.inl rfl)
                          · refine rr_case 12 ?_ (fun hs122 => ?_)
                            · refine rr_tableIn 640 dL_law_33 (by decide) (by decide) rfl rfl ?_
                              refine rr_aload_n (q := 641) rfl dL_law_640 rfl ?_
                              refine rr_aload_n (q := 642) rfl dL_law_641 rfl ?_
                              refine rr_iload_n (q := 643) rfl dL_law_642 rfl ?_
                              refine rr_iconst 1 (q := 644) rfl dL_law_643 rfl ?_
                              refine rr_iadd (q := 645) rfl dL_law_644 ?_
                              refine rr_sald (q := 646) rfl hN hxs dL_law_645 (fun n114 => ?_)
                              refine rr_aload_n (q := 647) rfl dL_law_646 rfl ?_
                              refine rr_iload_n (q := 648) rfl dL_law_647 rfl ?_
                              refine rr_iconst 2 (q := 649) rfl dL_law_648 rfl ?_
                              refine rr_iadd (q := 650) rfl dL_law_649 ?_
                              refine rr_sald (q := 651) rfl hN hxs dL_law_650 (fun n115 => ?_)
                              refine rr_cVi (q := 654) rfl V_X5_gain ml_L_65 ⟨Nat.le_of_ble_eq_true rfl, Nat.le_of_ble_eq_true rfl⟩ (ctX (e_X5_gain (xs n114) (xs n115) s.1)) w_selfL rfl rfl rfl rfl (Nat.le_of_ble_eq_true rfl) dL_law_651 (fun v116 s117 => ?_)
                              refine rr_aload_n (q := 655) rfl dL_law_654 rfl ?_
                              refine rr_aload_n (q := 656) rfl dL_law_655 rfl ?_
                              refine rr_iload_n (q := 657) rfl dL_law_656 rfl ?_
                              refine rr_iconst 1 (q := 658) rfl dL_law_657 rfl ?_
                              refine rr_iadd (q := 659) rfl dL_law_658 ?_
                              refine rr_sald (q := 660) rfl hN hxs dL_law_659 (fun n118 => ?_)
                              refine rr_aload_n (q := 661) rfl dL_law_660 rfl ?_
                              refine rr_iload_n (q := 662) rfl dL_law_661 rfl ?_
                              refine rr_iconst 2 (q := 663) rfl dL_law_662 rfl ?_
                              refine rr_iadd (q := 664) rfl dL_law_663 ?_
                              refine rr_sald (q := 665) rfl hN hxs dL_law_664 (fun n119 => ?_)
                              refine rr_cVi (q := 668) rfl V_X6_gain ml_L_68 ⟨Nat.le_of_ble_eq_true rfl, Nat.le_of_ble_eq_true rfl⟩ (ctM (e_X6_gain (xs n118) (xs n119) s117.2)) w_ML rfl rfl rfl rfl (Nat.le_of_ble_eq_true rfl) dL_law_665 (fun v120 s121 => ?_)
                              refine rr_icmp_eq 1457 (q := 671) rfl dL_law_668 rfl (fun _ => ?_) (fun _ => ?_)
                              · exact e_L_law_1457 hN hxs hk18 l3 s121
                              · refine rr_iconst 0 (q := 672) rfl dL_law_671 rfl ?_
                                exact rr_zret dL_law_672 rfl (Or.inl rfl)
                            · refine rr_case 13 ?_ (fun hs131 => ?_)
                              · refine rr_tableIn 673 dL_law_33 (by decide) (by decide) rfl rfl ?_
                                refine rr_aload_n (q := 674) rfl dL_law_673 rfl ?_
                                refine rr_aload_n (q := 675) rfl dL_law_674 rfl ?_
                                refine rr_iload_n (q := 676) rfl dL_law_675 rfl ?_
                                refine rr_iconst 1 (q := 677) rfl dL_law_676 rfl ?_
                                refine rr_iadd (q := 678) rfl dL_law_677 ?_
                                refine rr_sald (q := 679) rfl hN hxs dL_law_678 (fun n123 => ?_)
                                refine rr_aload_n (q := 680) rfl dL_law_679 rfl ?_
                                refine rr_iload_n (q := 681) rfl dL_law_680 rfl ?_
                                refine rr_iconst 2 (q := 682) rfl dL_law_681 rfl ?_
                                refine rr_iadd (q := 683) rfl dL_law_682 ?_
                                refine rr_sald (q := 684) rfl hN hxs dL_law_683 (fun n124 => ?_)
                                refine rr_cVi (q := 687) rfl V_X5_pledge ml_L_69 ⟨Nat.le_of_ble_eq_true rfl, Nat.le_of_ble_eq_true rfl⟩ (ctX (e_X5_pledge (xs n123) (xs n124) s.1)) w_selfL rfl rfl rfl rfl (Nat.le_of_ble_eq_true rfl) dL_law_684 (fun v125 s126 => ?_)
                                refine rr_aload_n (q := 688) rfl dL_law_687 rfl ?_
                                refine rr_aload_n (q := 689) rfl dL_law_688 rfl ?_
                                refine rr_iload_n (q := 690) rfl dL_law_689 rfl ?_
                                refine rr_iconst 1 (q := 691) rfl dL_law_690 rfl ?_
                                refine rr_iadd (q := 692) rfl dL_law_691 ?_
                                refine rr_sald (q := 693) rfl hN hxs dL_law_692 (fun n127 => ?_)
                                refine rr_aload_n (q := 694) rfl dL_law_693 rfl ?_
                                refine rr_iload_n (q := 695) rfl dL_law_694 rfl ?_
                                refine rr_iconst 2 (q := 696) rfl dL_law_695 rfl ?_
                                refine rr_iadd (q := 697) rfl dL_law_696 ?_
                                refine rr_sald (q := 698) rfl hN hxs dL_law_697 (fun n128 => ?_)
                                refine rr_cVi (q := 701) rfl V_X6_pledge ml_L_72 ⟨Nat.le_of_ble_eq_true rfl, Nat.le_of_ble_eq_true rfl⟩ (ctM (e_X6_pledge (xs n127) (xs n128) s126.2)) w_ML rfl rfl rfl rfl (Nat.le_of_ble_eq_true rfl) dL_law_698 (fun v129 s130 => ?_)
                                refine rr_icmp_eq 1457 (q := 704) rfl dL_law_701 rfl (fun _ => ?_) (fun _ => ?_)
                                · exact e_L_law_1457 hN hxs hk18 l3 s130
                                · refine rr_iconst 0 (q := 705) rfl dL_law_704 rfl ?_
                                  exact rr_zret dL_law_705 rfl (Or.inl rfl)
                              · refine rr_case 14 ?_ (fun hs138 => ?_)
                                · refine rr_tableIn 706 dL_law_33 (by decide) (by decide) rfl rfl ?_
                                  refine rr_aload_n (q := 707) rfl dL_law_706 rfl ?_
                                  refine rr_aload_n (q := 708) rfl dL_law_707 rfl ?_
                                  refine rr_iload_n (q := 709) rfl dL_law_708 rfl ?_
                                  refine rr_iconst 1 (q := 710) rfl dL_law_709 rfl ?_
                                  refine rr_iadd (q := 711) rfl dL_law_710 ?_
                                  refine rr_sald (q := 712) rfl hN hxs dL_law_711 (fun n132 => ?_)
                                  refine rr_cVi (q := 715) rfl V_X5_ease ml_L_73 ⟨Nat.le_of_ble_eq_true rfl, Nat.le_of_ble_eq_true rfl⟩ (ctX (e_X5_ease (xs n132) s.1)) w_selfL rfl rfl rfl rfl (Nat.le_of_ble_eq_true rfl) dL_law_712 (fun v133 s134 => ?_)
                                  refine rr_aload_n (q := 716) rfl dL_law_715 rfl ?_
                                  refine rr_aload_n (q := 717) rfl dL_law_716 rfl ?_
                                  refine rr_iload_n (q := 718) rfl dL_law_717 rfl ?_
                                  refine rr_iconst 1 (q := 719) rfl dL_law_718 rfl ?_
                                  refine rr_iadd (q := 720) rfl dL_law_719 ?_
                                  refine rr_sald (q := 721) rfl hN hxs dL_law_720 (fun n135 => ?_)
                                  refine rr_cVi (q := 724) rfl V_X6_ease ml_L_76 ⟨Nat.le_of_ble_eq_true rfl, Nat.le_of_ble_eq_true rfl⟩ (ctM (e_X6_ease (xs n135) s134.2)) w_ML rfl rfl rfl rfl (Nat.le_of_ble_eq_true rfl) dL_law_721 (fun v136 s137 => ?_)
                                  refine rr_icmp_eq 1457 (q := 727) rfl dL_law_724 rfl (fun _ => ?_) (fun _ => ?_)
                                  · exact e_L_law_1457 hN hxs hk18 l3 s137
                                  · refine rr_iconst 0 (q := 728) rfl dL_law_727 rfl ?_
                                    exact rr_zret dL_law_728 rfl (Or.inl rfl)
                                · refine rr_case 15 ?_ (fun hs143 => ?_)
                                  · refine rr_tableIn 729 dL_law_33 (by decide) (by decide) rfl rfl ?_
                                    refine rr_aload_n (q := 730) rfl dL_law_729 rfl ?_
                                    refine rr_cVi (q := 733) rfl V_X5_loose ml_L_77 ⟨Nat.le_of_ble_eq_true rfl, Nat.le_of_ble_eq_true rfl⟩ (ctX (e_X5_loose s.1)) w_selfL rfl rfl rfl rfl (Nat.le_of_ble_eq_true rfl) dL_law_730 (fun v139 s140 => ?_)
                                    refine rr_aload_n (q := 734) rfl dL_law_733 rfl ?_
                                    refine rr_cVi (q := 737) rfl V_X6_loose ml_L_81 ⟨Nat.le_of_ble_eq_true rfl, Nat.le_of_ble_eq_true rfl⟩ (ctM (e_X6_loose s140.2)) w_ML rfl rfl rfl rfl (Nat.le_of_ble_eq_true rfl) dL_law_734 (fun v141 s142 => ?_)
                                    refine rr_icmp_eq 1457 (q := 740) rfl dL_law_737 rfl (fun _ => ?_) (fun _ => ?_)
                                    · exact e_L_law_1457 hN hxs hk18 l3 s142
                                    · refine rr_iconst 0 (q := 741) rfl dL_law_740 rfl ?_
                                      exact rr_zret dL_law_741 rfl (Or.inl rfl)
                                  · refine rr_case 16 ?_ (fun hs152 => ?_)
                                    · refine rr_tableIn 742 dL_law_33 (by decide) (by decide) rfl rfl ?_
                                      refine rr_aload_n (q := 743) rfl dL_law_742 rfl ?_
                                      refine rr_aload_n (q := 744) rfl dL_law_743 rfl ?_
                                      refine rr_iload_n (q := 745) rfl dL_law_744 rfl ?_
                                      refine rr_iconst 1 (q := 746) rfl dL_law_745 rfl ?_
                                      refine rr_iadd (q := 747) rfl dL_law_746 ?_
                                      refine rr_sald (q := 748) rfl hN hxs dL_law_747 (fun n144 => ?_)
                                      refine rr_aload_n (q := 749) rfl dL_law_748 rfl ?_
                                      refine rr_iload_n (q := 750) rfl dL_law_749 rfl ?_
                                      refine rr_iconst 2 (q := 751) rfl dL_law_750 rfl ?_
                                      refine rr_iadd (q := 752) rfl dL_law_751 ?_
                                      refine rr_sald (q := 753) rfl hN hxs dL_law_752 (fun n145 => ?_)
                                      refine rr_cVi (q := 756) rfl V_X5_pact ml_L_82 ⟨Nat.le_of_ble_eq_true rfl, Nat.le_of_ble_eq_true rfl⟩ (ctX (e_X5_pact (xs n144) (xs n145) s.1)) w_selfL rfl rfl rfl rfl (Nat.le_of_ble_eq_true rfl) dL_law_753 (fun v146 s147 => ?_)
                                      refine rr_aload_n (q := 757) rfl dL_law_756 rfl ?_
                                      refine rr_aload_n (q := 758) rfl dL_law_757 rfl ?_
                                      refine rr_iload_n (q := 759) rfl dL_law_758 rfl ?_
                                      refine rr_iconst 1 (q := 760) rfl dL_law_759 rfl ?_
                                      refine rr_iadd (q := 761) rfl dL_law_760 ?_
                                      refine rr_sald (q := 762) rfl hN hxs dL_law_761 (fun n148 => ?_)
                                      refine rr_aload_n (q := 763) rfl dL_law_762 rfl ?_
                                      refine rr_iload_n (q := 764) rfl dL_law_763 rfl ?_
                                      refine rr_iconst 2 (q := 765) rfl dL_law_764 rfl ?_
                                      refine rr_iadd (q := 766) rfl dL_law_765 ?_
                                      refine rr_sald (q := 767) rfl hN hxs dL_law_766 (fun n149 => ?_)
                                      refine rr_cVi (q := 770) rfl V_X6_pact ml_L_85 ⟨Nat.le_of_ble_eq_true rfl, Nat.le_of_ble_eq_true rfl⟩ (ctM (e_X6_pact (xs n148) (xs n149) s147.2)) w_ML rfl rfl rfl rfl (Nat.le_of_ble_eq_true rfl) dL_law_767 (fun v150 s151 => ?_)
                                      refine rr_icmp_eq 1457 (q := 773) rfl dL_law_770 rfl (fun _ => ?_) (fun _ => ?_)
                                      · exact e_L_law_1457 hN hxs hk18 l3 s151
                                      · refine rr_iconst 0 (q := 774) rfl dL_law_773 rfl ?_
                                        exact rr_zret dL_law_774 rfl (Or.inl rfl)
                                    · refine rr_case 17 ?_ (fun hs157 => ?_)
                                      · refine rr_tableIn 775 dL_law_33 (by decide) (by decide) rfl rfl ?_
                                        refine rr_aload_n (q := 776) rfl dL_law_775 rfl ?_
                                        refine rr_cVi (q := 779) rfl V_X5_plot ml_L_86 ⟨Nat.le_of_ble_eq_true rfl, Nat.le_of_ble_eq_true rfl⟩ (ctX (e_X5_plot s.1)) w_selfL rfl rfl rfl rfl (Nat.le_of_ble_eq_true rfl) dL_law_776 (fun v153 s154 => ?_)
                                        refine rr_aload_n (q := 780) rfl dL_law_779 rfl ?_
                                        refine rr_cVi (q := 783) rfl V_X6_plot ml_L_89 ⟨Nat.le_of_ble_eq_true rfl, Nat.le_of_ble_eq_true rfl⟩ (ctM (e_X6_plot s154.2)) w_ML rfl rfl rfl rfl (Nat.le_of_ble_eq_true rfl) dL_law_780 (fun v155 s156 => ?_)
                                        refine rr_icmp_eq 1457 (q := 786) rfl dL_law_783 rfl (fun _ => ?_) (fun _ => ?_)
                                        · exact e_L_law_1457 hN hxs hk18 l3 s156
                                        · refine rr_iconst 0 (q := 787) rfl dL_law_786 rfl ?_
                                          exact rr_zret dL_law_787 rfl (Or.inl rfl)
                                      · refine rr_case 18 ?_ (fun hs162 => ?_)
                                        · refine rr_tableIn 788 dL_law_33 (by decide) (by decide) rfl rfl ?_
                                          refine rr_aload_n (q := 789) rfl dL_law_788 rfl ?_
                                          refine rr_cVi (q := 792) rfl V_X5_fall ml_L_90 ⟨Nat.le_of_ble_eq_true rfl, Nat.le_of_ble_eq_true rfl⟩ (ctX (e_X5_fall s.1)) w_selfL rfl rfl rfl rfl (Nat.le_of_ble_eq_true rfl) dL_law_789 (fun v158 s159 => ?_)
                                          refine rr_aload_n (q := 793) rfl dL_law_792 rfl ?_
                                          refine rr_cVi (q := 796) rfl V_X6_fall ml_L_93 ⟨Nat.le_of_ble_eq_true rfl, Nat.le_of_ble_eq_true rfl⟩ (ctM (e_X6_fall s159.2)) w_ML rfl rfl rfl rfl (Nat.le_of_ble_eq_true rfl) dL_law_793 (fun v160 s161 => ?_)
                                          refine rr_icmp_eq 1457 (q := 799) rfl dL_law_796 rfl (fun _ => ?_) (fun _ => ?_)
                                          · exact e_L_law_1457 hN hxs hk18 l3 s161
                                          · refine rr_iconst 0 (q := 800) rfl dL_law_799 rfl ?_
                                            exact rr_zret dL_law_800 rfl (Or.inl rfl)
                                        · refine rr_case 19 ?_ (fun hs169 => ?_)
                                          · refine rr_tableIn 801 dL_law_33 (by decide) (by decide) rfl rfl ?_
                                            refine rr_aload_n (q := 802) rfl dL_law_801 rfl ?_
                                            refine rr_aload_n (q := 803) rfl dL_law_802 rfl ?_
                                            refine rr_iload_n (q := 804) rfl dL_law_803 rfl ?_
                                            refine rr_iconst 1 (q := 805) rfl dL_law_804 rfl ?_
                                            refine rr_iadd (q := 806) rfl dL_law_805 ?_
                                            refine rr_sald (q := 807) rfl hN hxs dL_law_806 (fun n163 => ?_)
                                            refine rr_cVi (q := 810) rfl V_X5_wouldFall ml_L_94 ⟨Nat.le_of_ble_eq_true rfl, Nat.le_of_ble_eq_true rfl⟩ (ctX (e_X5_wouldFall (xs n163) s.1)) w_selfL rfl rfl rfl rfl (Nat.le_of_ble_eq_true rfl) dL_law_807 (fun v164 s165 => ?_)
                                            refine rr_aload_n (q := 811) rfl dL_law_810 rfl ?_
                                            refine rr_aload_n (q := 812) rfl dL_law_811 rfl ?_
                                            refine rr_iload_n (q := 813) rfl dL_law_812 rfl ?_
                                            refine rr_iconst 1 (q := 814) rfl dL_law_813 rfl ?_
                                            refine rr_iadd (q := 815) rfl dL_law_814 ?_
                                            refine rr_sald (q := 816) rfl hN hxs dL_law_815 (fun n166 => ?_)
                                            refine rr_cVi (q := 819) rfl V_X6_wouldFall ml_L_97 ⟨Nat.le_of_ble_eq_true rfl, Nat.le_of_ble_eq_true rfl⟩ (ctM (e_X6_wouldFall (xs n166) s165.2)) w_ML rfl rfl rfl rfl (Nat.le_of_ble_eq_true rfl) dL_law_816 (fun v167 s168 => ?_)
                                            refine rr_icmp_eq 1457 (q := 822) rfl dL_law_819 rfl (fun _ => ?_) (fun _ => ?_)
                                            · exact e_L_law_1457 hN hxs hk18 l3 s168
                                            · refine rr_iconst 0 (q := 823) rfl dL_law_822 rfl ?_
                                              exact rr_zret dL_law_823 rfl (Or.inl rfl)
                                          · refine rr_case 20 ?_ (fun hs176 => ?_)
                                            · refine rr_tableIn 824 dL_law_33 (by decide) (by decide) rfl rfl ?_
                                              refine rr_aload_n (q := 825) rfl dL_law_824 rfl ?_
                                              refine rr_aload_n (q := 826) rfl dL_law_825 rfl ?_
                                              refine rr_iload_n (q := 827) rfl dL_law_826 rfl ?_
                                              refine rr_iconst 1 (q := 828) rfl dL_law_827 rfl ?_
                                              refine rr_iadd (q := 829) rfl dL_law_828 ?_
                                              refine rr_sald (q := 830) rfl hN hxs dL_law_829 (fun n170 => ?_)
                                              refine rr_cVi (q := 833) rfl V_X5_pulls ml_L_98 ⟨Nat.le_of_ble_eq_true rfl, Nat.le_of_ble_eq_true rfl⟩ (ctX (e_X5_pulls (xs n170) s.1)) w_selfL rfl rfl rfl rfl (Nat.le_of_ble_eq_true rfl) dL_law_830 (fun v171 s172 => ?_)
                                              refine rr_aload_n (q := 834) rfl dL_law_833 rfl ?_
                                              refine rr_aload_n (q := 835) rfl dL_law_834 rfl ?_
                                              refine rr_iload_n (q := 836) rfl dL_law_835 rfl ?_
                                              refine rr_iconst 1 (q := 837) rfl dL_law_836 rfl ?_
                                              refine rr_iadd (q := 838) rfl dL_law_837 ?_
                                              refine rr_sald (q := 839) rfl hN hxs dL_law_838 (fun n173 => ?_)
                                              refine rr_cVi (q := 842) rfl V_X6_pulls ml_L_101 ⟨Nat.le_of_ble_eq_true rfl, Nat.le_of_ble_eq_true rfl⟩ (ctM (e_X6_pulls (xs n173) s172.2)) w_ML rfl rfl rfl rfl (Nat.le_of_ble_eq_true rfl) dL_law_839 (fun v174 s175 => ?_)
                                              refine rr_icmp_eq 1457 (q := 845) rfl dL_law_842 rfl (fun _ => ?_) (fun _ => ?_)
                                              · exact e_L_law_1457 hN hxs hk18 l3 s175
                                              · refine rr_iconst 0 (q := 846) rfl dL_law_845 rfl ?_
                                                exact rr_zret dL_law_846 rfl (Or.inl rfl)
                                            · refine rr_case 21 ?_ (fun hs181 => ?_)
                                              · refine rr_tableIn 847 dL_law_33 (by decide) (by decide) rfl rfl ?_
                                                refine rr_aload_n (q := 848) rfl dL_law_847 rfl ?_
                                                refine rr_cVi (q := 851) rfl V_X5_keystone ml_L_102 ⟨Nat.le_of_ble_eq_true rfl, Nat.le_of_ble_eq_true rfl⟩ (ctX (e_X5_keystone s.1)) w_selfL rfl rfl rfl rfl (Nat.le_of_ble_eq_true rfl) dL_law_848 (fun v177 s178 => ?_)
                                                refine rr_aload_n (q := 852) rfl dL_law_851 rfl ?_
                                                refine rr_cVi (q := 855) rfl V_X6_keystone ml_L_105 ⟨Nat.le_of_ble_eq_true rfl, Nat.le_of_ble_eq_true rfl⟩ (ctM (e_X6_keystone s178.2)) w_ML rfl rfl rfl rfl (Nat.le_of_ble_eq_true rfl) dL_law_852 (fun v179 s180 => ?_)
                                                refine rr_icmp_eq 1457 (q := 858) rfl dL_law_855 rfl (fun _ => ?_) (fun _ => ?_)
                                                · exact e_L_law_1457 hN hxs hk18 l3 s180
                                                · refine rr_iconst 0 (q := 859) rfl dL_law_858 rfl ?_
                                                  exact rr_zret dL_law_859 rfl (Or.inl rfl)
                                              · refine rr_case 22 ?_ (fun hs188 => ?_)
                                                · refine rr_tableIn 860 dL_law_33 (by decide) (by decide) rfl rfl ?_
                                                  refine rr_aload_n (q := 861) rfl dL_law_860 rfl ?_
                                                  refine rr_aload_n (q := 862) rfl dL_law_861 rfl ?_
                                                  refine rr_iload_n (q := 863) rfl dL_law_862 rfl ?_
                                                  refine rr_iconst 1 (q := 864) rfl dL_law_863 rfl ?_
                                                  refine rr_iadd (q := 865) rfl dL_law_864 ?_
                                                  refine rr_sald (q := 866) rfl hN hxs dL_law_865 (fun n182 => ?_)
                                                  refine rr_cVi (q := 869) rfl V_X5_months ml_L_106 ⟨Nat.le_of_ble_eq_true rfl, Nat.le_of_ble_eq_true rfl⟩ (ctX (e_X5_months (xs n182) s.1)) w_selfL rfl rfl rfl rfl (Nat.le_of_ble_eq_true rfl) dL_law_866 (fun v183 s184 => ?_)
                                                  refine rr_aload_n (q := 870) rfl dL_law_869 rfl ?_
                                                  refine rr_aload_n (q := 871) rfl dL_law_870 rfl ?_
                                                  refine rr_iload_n (q := 872) rfl dL_law_871 rfl ?_
                                                  refine rr_iconst 1 (q := 873) rfl dL_law_872 rfl ?_
                                                  refine rr_iadd (q := 874) rfl dL_law_873 ?_
                                                  refine rr_sald (q := 875) rfl hN hxs dL_law_874 (fun n185 => ?_)
                                                  refine rr_cVi (q := 878) rfl V_X6_months ml_L_109 ⟨Nat.le_of_ble_eq_true rfl, Nat.le_of_ble_eq_true rfl⟩ (ctM (e_X6_months (xs n185) s184.2)) w_ML rfl rfl rfl rfl (Nat.le_of_ble_eq_true rfl) dL_law_875 (fun v186 s187 => ?_)
                                                  refine rr_icmp_eq 1457 (q := 881) rfl dL_law_878 rfl (fun _ => ?_) (fun _ => ?_)
                                                  · exact e_L_law_1457 hN hxs hk18 l3 s187
                                                  · refine rr_iconst 0 (q := 882) rfl dL_law_881 rfl ?_
                                                    exact rr_zret dL_law_882 rfl (Or.inl rfl)
                                                · refine rr_case 23 ?_ (fun hs195 => ?_)
                                                  · refine rr_tableIn 883 dL_law_33 (by decide) (by decide) rfl rfl ?_
                                                    refine rr_aload_n (q := 884) rfl dL_law_883 rfl ?_
                                                    refine rr_aload_n (q := 885) rfl dL_law_884 rfl ?_
                                                    refine rr_iload_n (q := 886) rfl dL_law_885 rfl ?_
                                                    refine rr_iconst 1 (q := 887) rfl dL_law_886 rfl ?_
                                                    refine rr_iadd (q := 888) rfl dL_law_887 ?_
                                                    refine rr_sald (q := 889) rfl hN hxs dL_law_888 (fun n189 => ?_)
                                                    refine rr_cVi (q := 892) rfl V_X5_now ml_L_110 ⟨Nat.le_of_ble_eq_true rfl, Nat.le_of_ble_eq_true rfl⟩ (ctX (e_X5_now (xs n189) s.1)) w_selfL rfl rfl rfl rfl (Nat.le_of_ble_eq_true rfl) dL_law_889 (fun v190 s191 => ?_)
                                                    refine rr_aload_n (q := 893) rfl dL_law_892 rfl ?_
                                                    refine rr_aload_n (q := 894) rfl dL_law_893 rfl ?_
                                                    refine rr_iload_n (q := 895) rfl dL_law_894 rfl ?_
                                                    refine rr_iconst 1 (q := 896) rfl dL_law_895 rfl ?_
                                                    refine rr_iadd (q := 897) rfl dL_law_896 ?_
                                                    refine rr_sald (q := 898) rfl hN hxs dL_law_897 (fun n192 => ?_)
                                                    refine rr_cVi (q := 901) rfl V_X6_now ml_L_113 ⟨Nat.le_of_ble_eq_true rfl, Nat.le_of_ble_eq_true rfl⟩ (ctM (e_X6_now (xs n192) s191.2)) w_ML rfl rfl rfl rfl (Nat.le_of_ble_eq_true rfl) dL_law_898 (fun v193 s194 => ?_)
                                                    refine rr_icmp_eq 1457 (q := 904) rfl dL_law_901 rfl (fun _ => ?_) (fun _ => ?_)
                                                    · exact e_L_law_1457 hN hxs hk18 l3 s194
                                                    · refine rr_iconst 0 (q := 905) rfl dL_law_904 rfl ?_
                                                      exact rr_zret dL_law_905 rfl (Or.inl rfl)
                                                  · refine rr_case 24 ?_ (fun hs202 => ?_)
                                                    · refine rr_tableIn 906 dL_law_33 (by decide) (by decide) rfl rfl ?_
                                                      refine rr_aload_n (q := 907) rfl dL_law_906 rfl ?_
                                                      refine rr_aload_n (q := 908) rfl dL_law_907 rfl ?_
                                                      refine rr_iload_n (q := 909) rfl dL_law_908 rfl ?_
                                                      refine rr_iconst 1 (q := 910) rfl dL_law_909 rfl ?_
                                                      refine rr_iadd (q := 911) rfl dL_law_910 ?_
                                                      refine rr_sald (q := 912) rfl hN hxs dL_law_911 (fun n196 => ?_)
                                                      refine rr_cVi (q := 915) rfl V_X5_on ml_L_114 ⟨Nat.le_of_ble_eq_true rfl, Nat.le_of_ble_eq_true rfl⟩ (ctX (e_X5_on (xs n196) s.1)) w_selfL rfl rfl rfl rfl (Nat.le_of_ble_eq_true rfl) dL_law_912 (fun v197 s198 => ?_)
                                                      refine rr_aload_n (q := 916) rfl dL_law_915 rfl ?_
                                                      refine rr_aload_n (q := 917) rfl dL_law_916 rfl ?_
                                                      refine rr_iload_n (q := 918) rfl dL_law_917 rfl ?_
                                                      refine rr_iconst 1 (q := 919) rfl dL_law_918 rfl ?_
                                                      refine rr_iadd (q := 920) rfl dL_law_919 ?_
                                                      refine rr_sald (q := 921) rfl hN hxs dL_law_920 (fun n199 => ?_)
                                                      refine rr_cVi (q := 924) rfl V_X6_on ml_L_117 ⟨Nat.le_of_ble_eq_true rfl, Nat.le_of_ble_eq_true rfl⟩ (ctM (e_X6_on (xs n199) s198.2)) w_ML rfl rfl rfl rfl (Nat.le_of_ble_eq_true rfl) dL_law_921 (fun v200 s201 => ?_)
                                                      refine rr_icmp_eq 1457 (q := 927) rfl dL_law_924 rfl (fun _ => ?_) (fun _ => ?_)
                                                      · exact e_L_law_1457 hN hxs hk18 l3 s201
                                                      · refine rr_iconst 0 (q := 928) rfl dL_law_927 rfl ?_
                                                        exact rr_zret dL_law_928 rfl (Or.inl rfl)
                                                    · refine rr_case 25 ?_ (fun hs209 => ?_)
                                                      · refine rr_tableIn 929 dL_law_33 (by decide) (by decide) rfl rfl ?_
                                                        refine rr_aload_n (q := 930) rfl dL_law_929 rfl ?_
                                                        refine rr_aload_n (q := 931) rfl dL_law_930 rfl ?_
                                                        refine rr_iload_n (q := 932) rfl dL_law_931 rfl ?_
                                                        refine rr_iconst 1 (q := 933) rfl dL_law_932 rfl ?_
                                                        refine rr_iadd (q := 934) rfl dL_law_933 ?_
                                                        refine rr_sald (q := 935) rfl hN hxs dL_law_934 (fun n203 => ?_)
                                                        refine rr_cVi (q := 938) rfl V_X5_moves ml_L_118 ⟨Nat.le_of_ble_eq_true rfl, Nat.le_of_ble_eq_true rfl⟩ (ctX (e_X5_moves (xs n203) s.1)) w_selfL rfl rfl rfl rfl (Nat.le_of_ble_eq_true rfl) dL_law_935 (fun v204 s205 => ?_)
                                                        refine rr_aload_n (q := 939) rfl dL_law_938 rfl ?_
                                                        refine rr_aload_n (q := 940) rfl dL_law_939 rfl ?_
                                                        refine rr_iload_n (q := 941) rfl dL_law_940 rfl ?_
                                                        refine rr_iconst 1 (q := 942) rfl dL_law_941 rfl ?_
                                                        refine rr_iadd (q := 943) rfl dL_law_942 ?_
                                                        refine rr_sald (q := 944) rfl hN hxs dL_law_943 (fun n206 => ?_)
                                                        refine rr_cVi (q := 947) rfl V_X6_moves ml_L_121 ⟨Nat.le_of_ble_eq_true rfl, Nat.le_of_ble_eq_true rfl⟩ (ctM (e_X6_moves (xs n206) s205.2)) w_ML rfl rfl rfl rfl (Nat.le_of_ble_eq_true rfl) dL_law_944 (fun v207 s208 => ?_)
                                                        refine rr_icmp_eq 1457 (q := 950) rfl dL_law_947 rfl (fun _ => ?_) (fun _ => ?_)
                                                        · exact e_L_law_1457 hN hxs hk18 l3 s208
                                                        · refine rr_iconst 0 (q := 951) rfl dL_law_950 rfl ?_
                                                          exact rr_zret dL_law_951 rfl (Or.inl rfl)
                                                      · refine rr_case 26 ?_ (fun hs216 => ?_)
                                                        · refine rr_tableIn 952 dL_law_33 (by decide) (by decide) rfl rfl ?_
                                                          refine rr_aload_n (q := 953) rfl dL_law_952 rfl ?_
                                                          refine rr_aload_n (q := 954) rfl dL_law_953 rfl ?_
                                                          refine rr_iload_n (q := 955) rfl dL_law_954 rfl ?_
                                                          refine rr_iconst 1 (q := 956) rfl dL_law_955 rfl ?_
                                                          refine rr_iadd (q := 957) rfl dL_law_956 ?_
                                                          refine rr_sald (q := 958) rfl hN hxs dL_law_957 (fun n210 => ?_)
                                                          refine rr_cVi (q := 961) rfl V_X5_best ml_L_122 ⟨Nat.le_of_ble_eq_true rfl, Nat.le_of_ble_eq_true rfl⟩ (ctX (e_X5_best (xs n210) s.1)) w_selfL rfl rfl rfl rfl (Nat.le_of_ble_eq_true rfl) dL_law_958 (fun v211 s212 => ?_)
                                                          refine rr_aload_n (q := 962) rfl dL_law_961 rfl ?_
                                                          refine rr_aload_n (q := 963) rfl dL_law_962 rfl ?_
                                                          refine rr_iload_n (q := 964) rfl dL_law_963 rfl ?_
                                                          refine rr_iconst 1 (q := 965) rfl dL_law_964 rfl ?_
                                                          refine rr_iadd (q := 966) rfl dL_law_965 ?_
                                                          refine rr_sald (q := 967) rfl hN hxs dL_law_966 (fun n213 => ?_)
                                                          refine rr_cVi (q := 970) rfl V_X6_best ml_L_125 ⟨Nat.le_of_ble_eq_true rfl, Nat.le_of_ble_eq_true rfl⟩ (ctM (e_X6_best (xs n213) s212.2)) w_ML rfl rfl rfl rfl (Nat.le_of_ble_eq_true rfl) dL_law_967 (fun v214 s215 => ?_)
                                                          refine rr_icmp_eq 1457 (q := 973) rfl dL_law_970 rfl (fun _ => ?_) (fun _ => ?_)
                                                          · exact e_L_law_1457 hN hxs hk18 l3 s215
                                                          · refine rr_iconst 0 (q := 974) rfl dL_law_973 rfl ?_
                                                            exact rr_zret dL_law_974 rfl (Or.inl rfl)
                                                        · refine rr_case 27 ?_ (fun hs223 => ?_)
                                                          · refine rr_tableIn 975 dL_law_33 (by decide) (by decide) rfl rfl ?_
                                                            refine rr_aload_n (q := 976) rfl dL_law_975 rfl ?_
                                                            refine rr_aload_n (q := 977) rfl dL_law_976 rfl ?_
                                                            refine rr_iload_n (q := 978) rfl dL_law_977 rfl ?_
                                                            refine rr_iconst 1 (q := 979) rfl dL_law_978 rfl ?_
                                                            refine rr_iadd (q := 980) rfl dL_law_979 ?_
                                                            refine rr_sald (q := 981) rfl hN hxs dL_law_980 (fun n217 => ?_)
                                                            refine rr_cVi (q := 984) rfl V_X5_key ml_L_126 ⟨Nat.le_of_ble_eq_true rfl, Nat.le_of_ble_eq_true rfl⟩ (ctX (e_X5_key (xs n217) s.1)) w_selfL rfl rfl rfl rfl (Nat.le_of_ble_eq_true rfl) dL_law_981 (fun v218 s219 => ?_)
                                                            refine rr_aload_n (q := 985) rfl dL_law_984 rfl ?_
                                                            refine rr_aload_n (q := 986) rfl dL_law_985 rfl ?_
                                                            refine rr_iload_n (q := 987) rfl dL_law_986 rfl ?_
                                                            refine rr_iconst 1 (q := 988) rfl dL_law_987 rfl ?_
                                                            refine rr_iadd (q := 989) rfl dL_law_988 ?_
                                                            refine rr_sald (q := 990) rfl hN hxs dL_law_989 (fun n220 => ?_)
                                                            refine rr_cVi (q := 993) rfl V_X6_key ml_L_129 ⟨Nat.le_of_ble_eq_true rfl, Nat.le_of_ble_eq_true rfl⟩ (ctM (e_X6_key (xs n220) s219.2)) w_ML rfl rfl rfl rfl (Nat.le_of_ble_eq_true rfl) dL_law_990 (fun v221 s222 => ?_)
                                                            refine rr_icmp_eq 1457 (q := 996) rfl dL_law_993 rfl (fun _ => ?_) (fun _ => ?_)
                                                            · exact e_L_law_1457 hN hxs hk18 l3 s222
                                                            · refine rr_iconst 0 (q := 997) rfl dL_law_996 rfl ?_
                                                              exact rr_zret dL_law_997 rfl (Or.inl rfl)
                                                          · refine rr_case 28 ?_ (fun hs232 => ?_)
                                                            · refine rr_tableIn 998 dL_law_33 (by decide) (by decide) rfl rfl ?_
                                                              refine rr_aload_n (q := 999) rfl dL_law_998 rfl ?_
                                                              refine rr_aload_n (q := 1000) rfl dL_law_999 rfl ?_
                                                              refine rr_iload_n (q := 1001) rfl dL_law_1000 rfl ?_
                                                              refine rr_iconst 1 (q := 1002) rfl dL_law_1001 rfl ?_
                                                              refine rr_iadd (q := 1003) rfl dL_law_1002 ?_
                                                              refine rr_sald (q := 1004) rfl hN hxs dL_law_1003 (fun n224 => ?_)
                                                              refine rr_aload_n (q := 1005) rfl dL_law_1004 rfl ?_
                                                              refine rr_iload_n (q := 1006) rfl dL_law_1005 rfl ?_
                                                              refine rr_iconst 2 (q := 1007) rfl dL_law_1006 rfl ?_
                                                              refine rr_iadd (q := 1008) rfl dL_law_1007 ?_
                                                              refine rr_sald (q := 1009) rfl hN hxs dL_law_1008 (fun n225 => ?_)
                                                              refine rr_cVi (q := 1012) rfl V_X5_toFree ml_L_130 ⟨Nat.le_of_ble_eq_true rfl, Nat.le_of_ble_eq_true rfl⟩ (ctX (e_X5_toFree (xs n224) (xs n225) s.1)) w_selfL rfl rfl rfl rfl (Nat.le_of_ble_eq_true rfl) dL_law_1009 (fun v226 s227 => ?_)
                                                              refine rr_aload_n (q := 1013) rfl dL_law_1012 rfl ?_
                                                              refine rr_aload_n (q := 1014) rfl dL_law_1013 rfl ?_
                                                              refine rr_iload_n (q := 1015) rfl dL_law_1014 rfl ?_
                                                              refine rr_iconst 1 (q := 1016) rfl dL_law_1015 rfl ?_
                                                              refine rr_iadd (q := 1017) rfl dL_law_1016 ?_
                                                              refine rr_sald (q := 1018) rfl hN hxs dL_law_1017 (fun n228 => ?_)
                                                              refine rr_aload_n (q := 1019) rfl dL_law_1018 rfl ?_
                                                              refine rr_iload_n (q := 1020) rfl dL_law_1019 rfl ?_
                                                              refine rr_iconst 2 (q := 1021) rfl dL_law_1020 rfl ?_
                                                              refine rr_iadd (q := 1022) rfl dL_law_1021 ?_
                                                              refine rr_sald (q := 1023) rfl hN hxs dL_law_1022 (fun n229 => ?_)
                                                              refine rr_cVi (q := 1026) rfl V_X6_toFree ml_L_133 ⟨Nat.le_of_ble_eq_true rfl, Nat.le_of_ble_eq_true rfl⟩ (ctM (e_X6_toFree (xs n228) (xs n229) s227.2)) w_ML rfl rfl rfl rfl (Nat.le_of_ble_eq_true rfl) dL_law_1023 (fun v230 s231 => ?_)
                                                              refine rr_icmp_eq 1457 (q := 1029) rfl dL_law_1026 rfl (fun _ => ?_) (fun _ => ?_)
                                                              · exact e_L_law_1457 hN hxs hk18 l3 s231
                                                              · refine rr_iconst 0 (q := 1030) rfl dL_law_1029 rfl ?_
                                                                exact rr_zret dL_law_1030 rfl (Or.inl rfl)
                                                            · refine rr_case 29 ?_ (fun hs241 => ?_)
                                                              · refine rr_tableIn 1031 dL_law_33 (by decide) (by decide) rfl rfl ?_
                                                                refine rr_aload_n (q := 1032) rfl dL_law_1031 rfl ?_
                                                                refine rr_aload_n (q := 1033) rfl dL_law_1032 rfl ?_
                                                                refine rr_iload_n (q := 1034) rfl dL_law_1033 rfl ?_
                                                                refine rr_iconst 1 (q := 1035) rfl dL_law_1034 rfl ?_
                                                                refine rr_iadd (q := 1036) rfl dL_law_1035 ?_
                                                                refine rr_sald (q := 1037) rfl hN hxs dL_law_1036 (fun n233 => ?_)
                                                                refine rr_aload_n (q := 1038) rfl dL_law_1037 rfl ?_
                                                                refine rr_iload_n (q := 1039) rfl dL_law_1038 rfl ?_
                                                                refine rr_iconst 2 (q := 1040) rfl dL_law_1039 rfl ?_
                                                                refine rr_iadd (q := 1041) rfl dL_law_1040 ?_
                                                                refine rr_sald (q := 1042) rfl hN hxs dL_law_1041 (fun n234 => ?_)
                                                                refine rr_cVi (q := 1045) rfl V_X5_way ml_L_134 ⟨Nat.le_of_ble_eq_true rfl, Nat.le_of_ble_eq_true rfl⟩ (ctX (e_X5_way (xs n233) (xs n234) s.1)) w_selfL rfl rfl rfl rfl (Nat.le_of_ble_eq_true rfl) dL_law_1042 (fun v235 s236 => ?_)
                                                                refine rr_aload_n (q := 1046) rfl dL_law_1045 rfl ?_
                                                                refine rr_aload_n (q := 1047) rfl dL_law_1046 rfl ?_
                                                                refine rr_iload_n (q := 1048) rfl dL_law_1047 rfl ?_
                                                                refine rr_iconst 1 (q := 1049) rfl dL_law_1048 rfl ?_
                                                                refine rr_iadd (q := 1050) rfl dL_law_1049 ?_
                                                                refine rr_sald (q := 1051) rfl hN hxs dL_law_1050 (fun n237 => ?_)
                                                                refine rr_aload_n (q := 1052) rfl dL_law_1051 rfl ?_
                                                                refine rr_iload_n (q := 1053) rfl dL_law_1052 rfl ?_
                                                                refine rr_iconst 2 (q := 1054) rfl dL_law_1053 rfl ?_
                                                                refine rr_iadd (q := 1055) rfl dL_law_1054 ?_
                                                                refine rr_sald (q := 1056) rfl hN hxs dL_law_1055 (fun n238 => ?_)
                                                                refine rr_cVi (q := 1059) rfl V_X6_way ml_L_137 ⟨Nat.le_of_ble_eq_true rfl, Nat.le_of_ble_eq_true rfl⟩ (ctM (e_X6_way (xs n237) (xs n238) s236.2)) w_ML rfl rfl rfl rfl (Nat.le_of_ble_eq_true rfl) dL_law_1056 (fun v239 s240 => ?_)
                                                                refine rr_icmp_eq 1457 (q := 1062) rfl dL_law_1059 rfl (fun _ => ?_) (fun _ => ?_)
                                                                · exact e_L_law_1457 hN hxs hk18 l3 s240
                                                                · refine rr_iconst 0 (q := 1063) rfl dL_law_1062 rfl ?_
                                                                  exact rr_zret dL_law_1063 rfl (Or.inl rfl)
                                                              · refine rr_case 30 ?_ (fun hs250 => ?_)
                                                                · refine rr_tableIn 1064 dL_law_33 (by decide) (by decide) rfl rfl ?_
                                                                  refine rr_aload_n (q := 1065) rfl dL_law_1064 rfl ?_
                                                                  refine rr_aload_n (q := 1066) rfl dL_law_1065 rfl ?_
                                                                  refine rr_iload_n (q := 1067) rfl dL_law_1066 rfl ?_
                                                                  refine rr_iconst 1 (q := 1068) rfl dL_law_1067 rfl ?_
                                                                  refine rr_iadd (q := 1069) rfl dL_law_1068 ?_
                                                                  refine rr_sald (q := 1070) rfl hN hxs dL_law_1069 (fun n242 => ?_)
                                                                  refine rr_aload_n (q := 1071) rfl dL_law_1070 rfl ?_
                                                                  refine rr_iload_n (q := 1072) rfl dL_law_1071 rfl ?_
                                                                  refine rr_iconst 2 (q := 1073) rfl dL_law_1072 rfl ?_
                                                                  refine rr_iadd (q := 1074) rfl dL_law_1073 ?_
                                                                  refine rr_sald (q := 1075) rfl hN hxs dL_law_1074 (fun n243 => ?_)
                                                                  refine rr_cVi (q := 1078) rfl V_X5_feed ml_L_138 ⟨Nat.le_of_ble_eq_true rfl, Nat.le_of_ble_eq_true rfl⟩ (ctX (e_X5_feed (xs n242) (xs n243) s.1)) w_selfL rfl rfl rfl rfl (Nat.le_of_ble_eq_true rfl) dL_law_1075 (fun v244 s245 => ?_)
                                                                  refine rr_aload_n (q := 1079) rfl dL_law_1078 rfl ?_
                                                                  refine rr_aload_n (q := 1080) rfl dL_law_1079 rfl ?_
                                                                  refine rr_iload_n (q := 1081) rfl dL_law_1080 rfl ?_
                                                                  refine rr_iconst 1 (q := 1082) rfl dL_law_1081 rfl ?_
                                                                  refine rr_iadd (q := 1083) rfl dL_law_1082 ?_
                                                                  refine rr_sald (q := 1084) rfl hN hxs dL_law_1083 (fun n246 => ?_)
                                                                  refine rr_aload_n (q := 1085) rfl dL_law_1084 rfl ?_
                                                                  refine rr_iload_n (q := 1086) rfl dL_law_1085 rfl ?_
                                                                  refine rr_iconst 2 (q := 1087) rfl dL_law_1086 rfl ?_
                                                                  refine rr_iadd (q := 1088) rfl dL_law_1087 ?_
                                                                  refine rr_sald (q := 1089) rfl hN hxs dL_law_1088 (fun n247 => ?_)
                                                                  refine rr_cVi (q := 1092) rfl V_X6_feed ml_L_141 ⟨Nat.le_of_ble_eq_true rfl, Nat.le_of_ble_eq_true rfl⟩ (ctM (e_X6_feed (xs n246) (xs n247) s245.2)) w_ML rfl rfl rfl rfl (Nat.le_of_ble_eq_true rfl) dL_law_1089 (fun v248 s249 => ?_)
                                                                  refine rr_icmp_eq 1457 (q := 1095) rfl dL_law_1092 rfl (fun _ => ?_) (fun _ => ?_)
                                                                  · exact e_L_law_1457 hN hxs hk18 l3 s249
                                                                  · refine rr_iconst 0 (q := 1096) rfl dL_law_1095 rfl ?_
                                                                    exact rr_zret dL_law_1096 rfl (Or.inl rfl)
                                                                · refine rr_case 31 ?_ (fun hs255 => ?_)
                                                                  · refine rr_tableIn 1097 dL_law_33 (by decide) (by decide) rfl rfl ?_
                                                                    refine rr_aload_n (q := 1098) rfl dL_law_1097 rfl ?_
                                                                    refine rr_cVi (q := 1101) rfl V_X5_wipe ml_L_142 ⟨Nat.le_of_ble_eq_true rfl, Nat.le_of_ble_eq_true rfl⟩ (ctX (e_X5_wipe s.1)) w_selfL rfl rfl rfl rfl (Nat.le_of_ble_eq_true rfl) dL_law_1098 (fun v251 s252 => ?_)
                                                                    refine rr_aload_n (q := 1102) rfl dL_law_1101 rfl ?_
                                                                    refine rr_cVi (q := 1105) rfl V_X6_wipe ml_L_145 ⟨Nat.le_of_ble_eq_true rfl, Nat.le_of_ble_eq_true rfl⟩ (ctM (e_X6_wipe s252.2)) w_ML rfl rfl rfl rfl (Nat.le_of_ble_eq_true rfl) dL_law_1102 (fun v253 s254 => ?_)
                                                                    refine rr_icmp_eq 1457 (q := 1108) rfl dL_law_1105 rfl (fun _ => ?_) (fun _ => ?_)
                                                                    · exact e_L_law_1457 hN hxs hk18 l3 s254
                                                                    · refine rr_iconst 0 (q := 1109) rfl dL_law_1108 rfl ?_
                                                                      exact rr_zret dL_law_1109 rfl (Or.inl rfl)
                                                                  · refine rr_case 32 ?_ (fun hs260 => ?_)
                                                                    · refine rr_tableIn 1110 dL_law_33 (by decide) (by decide) rfl rfl ?_
                                                                      refine rr_aload_n (q := 1111) rfl dL_law_1110 rfl ?_
                                                                      refine rr_cVi (q := 1114) rfl V_X5_court ml_L_146 ⟨Nat.le_of_ble_eq_true rfl, Nat.le_of_ble_eq_true rfl⟩ (ctX (e_X5_court s.1)) w_selfL rfl rfl rfl rfl (Nat.le_of_ble_eq_true rfl) dL_law_1111 (fun v256 s257 => ?_)
                                                                      refine rr_aload_n (q := 1115) rfl dL_law_1114 rfl ?_
                                                                      refine rr_cVi (q := 1118) rfl V_X6_court ml_L_149 ⟨Nat.le_of_ble_eq_true rfl, Nat.le_of_ble_eq_true rfl⟩ (ctM (e_X6_court s257.2)) w_ML rfl rfl rfl rfl (Nat.le_of_ble_eq_true rfl) dL_law_1115 (fun v258 s259 => ?_)
                                                                      refine rr_icmp_eq 1457 (q := 1121) rfl dL_law_1118 rfl (fun _ => ?_) (fun _ => ?_)
                                                                      · exact e_L_law_1457 hN hxs hk18 l3 s259
                                                                      · refine rr_iconst 0 (q := 1122) rfl dL_law_1121 rfl ?_
                                                                        exact rr_zret dL_law_1122 rfl (Or.inl rfl)
                                                                    · refine rr_case 33 ?_ (fun hs271 => ?_)
                                                                      · refine rr_tableIn 1123 dL_law_33 (by decide) (by decide) rfl rfl ?_
                                                                        refine rr_aload_n (q := 1124) rfl dL_law_1123 rfl ?_
                                                                        refine rr_aload_n (q := 1125) rfl dL_law_1124 rfl ?_
                                                                        refine rr_iload_n (q := 1126) rfl dL_law_1125 rfl ?_
                                                                        refine rr_iconst 1 (q := 1127) rfl dL_law_1126 rfl ?_
                                                                        refine rr_iadd (q := 1128) rfl dL_law_1127 ?_
                                                                        refine rr_sald (q := 1129) rfl hN hxs dL_law_1128 (fun n261 => ?_)
                                                                        refine rr_aload_n (q := 1130) rfl dL_law_1129 rfl ?_
                                                                        refine rr_iload_n (q := 1131) rfl dL_law_1130 rfl ?_
                                                                        refine rr_iconst 2 (q := 1132) rfl dL_law_1131 rfl ?_
                                                                        refine rr_iadd (q := 1133) rfl dL_law_1132 ?_
                                                                        refine rr_sald (q := 1134) rfl hN hxs dL_law_1133 (fun n262 => ?_)
                                                                        refine rr_aload_n (q := 1135) rfl dL_law_1134 rfl ?_
                                                                        refine rr_iload_n (q := 1136) rfl dL_law_1135 rfl ?_
                                                                        refine rr_iconst 3 (q := 1137) rfl dL_law_1136 rfl ?_
                                                                        refine rr_iadd (q := 1138) rfl dL_law_1137 ?_
                                                                        refine rr_sald (q := 1139) rfl hN hxs dL_law_1138 (fun n263 => ?_)
                                                                        refine rr_cVi (q := 1142) rfl V_X5_sheet ml_L_150 ⟨Nat.le_of_ble_eq_true rfl, Nat.le_of_ble_eq_true rfl⟩ (ctX (e_X5_sheet (xs n261) (xs n262) (xs n263) s.1)) w_selfL rfl rfl rfl rfl (Nat.le_of_ble_eq_true rfl) dL_law_1139 (fun v264 s265 => ?_)
                                                                        refine rr_aload_n (q := 1143) rfl dL_law_1142 rfl ?_
                                                                        refine rr_aload_n (q := 1144) rfl dL_law_1143 rfl ?_
                                                                        refine rr_iload_n (q := 1145) rfl dL_law_1144 rfl ?_
                                                                        refine rr_iconst 1 (q := 1146) rfl dL_law_1145 rfl ?_
                                                                        refine rr_iadd (q := 1147) rfl dL_law_1146 ?_
                                                                        refine rr_sald (q := 1148) rfl hN hxs dL_law_1147 (fun n266 => ?_)
                                                                        refine rr_aload_n (q := 1149) rfl dL_law_1148 rfl ?_
                                                                        refine rr_iload_n (q := 1150) rfl dL_law_1149 rfl ?_
                                                                        refine rr_iconst 2 (q := 1151) rfl dL_law_1150 rfl ?_
                                                                        refine rr_iadd (q := 1152) rfl dL_law_1151 ?_
                                                                        refine rr_sald (q := 1153) rfl hN hxs dL_law_1152 (fun n267 => ?_)
                                                                        refine rr_aload_n (q := 1154) rfl dL_law_1153 rfl ?_
                                                                        refine rr_iload_n (q := 1155) rfl dL_law_1154 rfl ?_
                                                                        refine rr_iconst 3 (q := 1156) rfl dL_law_1155 rfl ?_
                                                                        refine rr_iadd (q := 1157) rfl dL_law_1156 ?_
                                                                        refine rr_sald (q := 1158) rfl hN hxs dL_law_1157 (fun n268 => ?_)
                                                                        refine rr_cVi (q := 1161) rfl V_X6_sheet ml_L_153 ⟨Nat.le_of_ble_eq_true rfl, Nat.le_of_ble_eq_true rfl⟩ (ctM (e_X6_sheet (xs n266) (xs n267) (xs n268) s265.2)) w_ML rfl rfl rfl rfl (Nat.le_of_ble_eq_true rfl) dL_law_1158 (fun v269 s270 => ?_)
                                                                        refine rr_icmp_eq 1457 (q := 1164) rfl dL_law_1161 rfl (fun _ => ?_) (fun _ => ?_)
                                                                        · exact e_L_law_1457 hN hxs hk18 l3 s270
                                                                        · refine rr_iconst 0 (q := 1165) rfl dL_law_1164 rfl ?_
                                                                          exact rr_zret dL_law_1165 rfl (Or.inl rfl)
                                                                      · refine rr_case 34 ?_ (fun hs284 => ?_)
                                                                        · refine rr_tableIn 1166 dL_law_33 (by decide) (by decide) rfl rfl ?_
                                                                          refine rr_aload_n (q := 1167) rfl dL_law_1166 rfl ?_
                                                                          refine rr_aload_n (q := 1168) rfl dL_law_1167 rfl ?_
                                                                          refine rr_iload_n (q := 1169) rfl dL_law_1168 rfl ?_
                                                                          refine rr_iconst 1 (q := 1170) rfl dL_law_1169 rfl ?_
                                                                          refine rr_iadd (q := 1171) rfl dL_law_1170 ?_
                                                                          refine rr_sald (q := 1172) rfl hN hxs dL_law_1171 (fun n272 => ?_)
                                                                          refine rr_aload_n (q := 1173) rfl dL_law_1172 rfl ?_
                                                                          refine rr_iload_n (q := 1174) rfl dL_law_1173 rfl ?_
                                                                          refine rr_iconst 2 (q := 1175) rfl dL_law_1174 rfl ?_
                                                                          refine rr_iadd (q := 1176) rfl dL_law_1175 ?_
                                                                          refine rr_sald (q := 1177) rfl hN hxs dL_law_1176 (fun n273 => ?_)
                                                                          refine rr_aload_n (q := 1178) rfl dL_law_1177 rfl ?_
                                                                          refine rr_iload_n (q := 1179) rfl dL_law_1178 rfl ?_
                                                                          refine rr_iconst 3 (q := 1180) rfl dL_law_1179 rfl ?_
                                                                          refine rr_iadd (q := 1181) rfl dL_law_1180 ?_
                                                                          refine rr_sald (q := 1182) rfl hN hxs dL_law_1181 (fun n274 => ?_)
                                                                          refine rr_i2l (q := 1183) rfl dL_law_1182 ?_
                                                                          refine rr_bipush 32 (q := 1185) rfl dL_law_1183 rfl ?_
                                                                          refine rr_lshl (q := 1186) rfl dL_law_1185 ?_
                                                                          refine rr_aload_n (q := 1187) rfl dL_law_1186 rfl ?_
                                                                          refine rr_iload_n (q := 1188) rfl dL_law_1187 rfl ?_
                                                                          refine rr_iconst 4 (q := 1189) rfl dL_law_1188 rfl ?_
                                                                          refine rr_iadd (q := 1190) rfl dL_law_1189 ?_
                                                                          refine rr_sald (q := 1191) rfl hN hxs dL_law_1190 (fun n275 => ?_)
                                                                          refine rr_i2l (q := 1192) rfl dL_law_1191 ?_
                                                                          refine rr_ldc2 (q := 1195) rfl dL_law_1192 kc_L_154 ?_
                                                                          refine rr_land (q := 1196) rfl dL_law_1195 ?_
                                                                          refine rr_lor (q := 1197) rfl dL_law_1196 ?_
                                                                          refine rr_cVl (q := 1200) rfl V_X5_write ml_L_156 ⟨Nat.le_of_ble_eq_true rfl, Nat.le_of_ble_eq_true rfl⟩ (ctX (e_X5_write (xs n272) (xs n273) (((Int32.toInt64 (xs n274)) <<< (Int32.toInt64 32 &&& 63)) ||| ((Int32.toInt64 (xs n275)) &&& 4294967295)) s.1)) w_selfL rfl rfl rfl rfl (Nat.le_of_ble_eq_true rfl) dL_law_1197 (fun v276 s277 => ?_)
                                                                          refine rr_aload_n (q := 1201) rfl dL_law_1200 rfl ?_
                                                                          refine rr_aload_n (q := 1202) rfl dL_law_1201 rfl ?_
                                                                          refine rr_iload_n (q := 1203) rfl dL_law_1202 rfl ?_
                                                                          refine rr_iconst 1 (q := 1204) rfl dL_law_1203 rfl ?_
                                                                          refine rr_iadd (q := 1205) rfl dL_law_1204 ?_
                                                                          refine rr_sald (q := 1206) rfl hN hxs dL_law_1205 (fun n278 => ?_)
                                                                          refine rr_aload_n (q := 1207) rfl dL_law_1206 rfl ?_
                                                                          refine rr_iload_n (q := 1208) rfl dL_law_1207 rfl ?_
                                                                          refine rr_iconst 2 (q := 1209) rfl dL_law_1208 rfl ?_
                                                                          refine rr_iadd (q := 1210) rfl dL_law_1209 ?_
                                                                          refine rr_sald (q := 1211) rfl hN hxs dL_law_1210 (fun n279 => ?_)
                                                                          refine rr_aload_n (q := 1212) rfl dL_law_1211 rfl ?_
                                                                          refine rr_iload_n (q := 1213) rfl dL_law_1212 rfl ?_
                                                                          refine rr_iconst 3 (q := 1214) rfl dL_law_1213 rfl ?_
                                                                          refine rr_iadd (q := 1215) rfl dL_law_1214 ?_
                                                                          refine rr_sald (q := 1216) rfl hN hxs dL_law_1215 (fun n280 => ?_)
                                                                          refine rr_i2l (q := 1217) rfl dL_law_1216 ?_
                                                                          refine rr_bipush 32 (q := 1219) rfl dL_law_1217 rfl ?_
                                                                          refine rr_lshl (q := 1220) rfl dL_law_1219 ?_
                                                                          refine rr_aload_n (q := 1221) rfl dL_law_1220 rfl ?_
                                                                          refine rr_iload_n (q := 1222) rfl dL_law_1221 rfl ?_
                                                                          refine rr_iconst 4 (q := 1223) rfl dL_law_1222 rfl ?_
                                                                          refine rr_iadd (q := 1224) rfl dL_law_1223 ?_
                                                                          refine rr_sald (q := 1225) rfl hN hxs dL_law_1224 (fun n281 => ?_)
                                                                          refine rr_i2l (q := 1226) rfl dL_law_1225 ?_
                                                                          refine rr_ldc2 (q := 1229) rfl dL_law_1226 kc_L_154 ?_
                                                                          refine rr_land (q := 1230) rfl dL_law_1229 ?_
                                                                          refine rr_lor (q := 1231) rfl dL_law_1230 ?_
                                                                          refine rr_cVl (q := 1234) rfl V_X6_write ml_L_160 ⟨Nat.le_of_ble_eq_true rfl, Nat.le_of_ble_eq_true rfl⟩ (ctM (e_X6_write (xs n278) (xs n279) (((Int32.toInt64 (xs n280)) <<< (Int32.toInt64 32 &&& 63)) ||| ((Int32.toInt64 (xs n281)) &&& 4294967295)) s277.2)) w_ML rfl rfl rfl rfl (Nat.le_of_ble_eq_true rfl) dL_law_1231 (fun v282 s283 => ?_)
                                                                          refine rr_lcmp (q := 1235) rfl dL_law_1234 ?_
                                                                          refine rr_if_eq 1457 (q := 1238) rfl dL_law_1235 rfl (fun _ => ?_) (fun _ => ?_)
                                                                          · exact e_L_law_1457 hN hxs hk18 l3 s283
                                                                          · refine rr_iconst 0 (q := 1239) rfl dL_law_1238 rfl ?_
                                                                            exact rr_zret dL_law_1239 rfl (Or.inl rfl)
                                                                        · refine rr_case 35 ?_ (fun hs299 => ?_)
                                                                          · refine rr_tableIn 1240 dL_law_33 (by decide) (by decide) rfl rfl ?_
                                                                            refine rr_aload_n (q := 1241) rfl dL_law_1240 rfl ?_
                                                                            refine rr_aload_n (q := 1242) rfl dL_law_1241 rfl ?_
                                                                            refine rr_iload_n (q := 1243) rfl dL_law_1242 rfl ?_
                                                                            refine rr_iconst 1 (q := 1244) rfl dL_law_1243 rfl ?_
                                                                            refine rr_iadd (q := 1245) rfl dL_law_1244 ?_
                                                                            refine rr_sald (q := 1246) rfl hN hxs dL_law_1245 (fun n285 => ?_)
                                                                            refine rr_aload_n (q := 1247) rfl dL_law_1246 rfl ?_
                                                                            refine rr_iload_n (q := 1248) rfl dL_law_1247 rfl ?_
                                                                            refine rr_iconst 2 (q := 1249) rfl dL_law_1248 rfl ?_
                                                                            refine rr_iadd (q := 1250) rfl dL_law_1249 ?_
                                                                            refine rr_sald (q := 1251) rfl hN hxs dL_law_1250 (fun n286 => ?_)
                                                                            refine rr_aload_n (q := 1252) rfl dL_law_1251 rfl ?_
                                                                            refine rr_iload_n (q := 1253) rfl dL_law_1252 rfl ?_
                                                                            refine rr_iconst 3 (q := 1254) rfl dL_law_1253 rfl ?_
                                                                            refine rr_iadd (q := 1255) rfl dL_law_1254 ?_
                                                                            refine rr_sald (q := 1256) rfl hN hxs dL_law_1255 (fun n287 => ?_)
                                                                            refine rr_aload_n (q := 1257) rfl dL_law_1256 rfl ?_
                                                                            refine rr_iload_n (q := 1258) rfl dL_law_1257 rfl ?_
                                                                            refine rr_iconst 4 (q := 1259) rfl dL_law_1258 rfl ?_
                                                                            refine rr_iadd (q := 1260) rfl dL_law_1259 ?_
                                                                            refine rr_sald (q := 1261) rfl hN hxs dL_law_1260 (fun n288 => ?_)
                                                                            refine rr_aload_n (q := 1262) rfl dL_law_1261 rfl ?_
                                                                            refine rr_iload_n (q := 1263) rfl dL_law_1262 rfl ?_
                                                                            refine rr_iconst 5 (q := 1264) rfl dL_law_1263 rfl ?_
                                                                            refine rr_iadd (q := 1265) rfl dL_law_1264 ?_
                                                                            refine rr_sald (q := 1266) rfl hN hxs dL_law_1265 (fun n289 => ?_)
                                                                            refine rr_cVi (q := 1269) rfl V_X5_copy ml_L_161 ⟨Nat.le_of_ble_eq_true rfl, Nat.le_of_ble_eq_true rfl⟩ (ctX (e_X5_copy (xs n285) (xs n286) (xs n287) (xs n288) (xs n289) s.1)) w_selfL rfl rfl rfl rfl (Nat.le_of_ble_eq_true rfl) dL_law_1266 (fun v290 s291 => ?_)
                                                                            refine rr_aload_n (q := 1270) rfl dL_law_1269 rfl ?_
                                                                            refine rr_aload_n (q := 1271) rfl dL_law_1270 rfl ?_
                                                                            refine rr_iload_n (q := 1272) rfl dL_law_1271 rfl ?_
                                                                            refine rr_iconst 1 (q := 1273) rfl dL_law_1272 rfl ?_
                                                                            refine rr_iadd (q := 1274) rfl dL_law_1273 ?_
                                                                            refine rr_sald (q := 1275) rfl hN hxs dL_law_1274 (fun n292 => ?_)
                                                                            refine rr_aload_n (q := 1276) rfl dL_law_1275 rfl ?_
                                                                            refine rr_iload_n (q := 1277) rfl dL_law_1276 rfl ?_
                                                                            refine rr_iconst 2 (q := 1278) rfl dL_law_1277 rfl ?_
                                                                            refine rr_iadd (q := 1279) rfl dL_law_1278 ?_
                                                                            refine rr_sald (q := 1280) rfl hN hxs dL_law_1279 (fun n293 => ?_)
                                                                            refine rr_aload_n (q := 1281) rfl dL_law_1280 rfl ?_
                                                                            refine rr_iload_n (q := 1282) rfl dL_law_1281 rfl ?_
                                                                            refine rr_iconst 3 (q := 1283) rfl dL_law_1282 rfl ?_
                                                                            refine rr_iadd (q := 1284) rfl dL_law_1283 ?_
                                                                            refine rr_sald (q := 1285) rfl hN hxs dL_law_1284 (fun n294 => ?_)
                                                                            refine rr_aload_n (q := 1286) rfl dL_law_1285 rfl ?_
                                                                            refine rr_iload_n (q := 1287) rfl dL_law_1286 rfl ?_
                                                                            refine rr_iconst 4 (q := 1288) rfl dL_law_1287 rfl ?_
                                                                            refine rr_iadd (q := 1289) rfl dL_law_1288 ?_
                                                                            refine rr_sald (q := 1290) rfl hN hxs dL_law_1289 (fun n295 => ?_)
                                                                            refine rr_aload_n (q := 1291) rfl dL_law_1290 rfl ?_
                                                                            refine rr_iload_n (q := 1292) rfl dL_law_1291 rfl ?_
                                                                            refine rr_iconst 5 (q := 1293) rfl dL_law_1292 rfl ?_
                                                                            refine rr_iadd (q := 1294) rfl dL_law_1293 ?_
                                                                            refine rr_sald (q := 1295) rfl hN hxs dL_law_1294 (fun n296 => ?_)
                                                                            refine rr_cVi (q := 1298) rfl V_X6_copy ml_L_165 ⟨Nat.le_of_ble_eq_true rfl, Nat.le_of_ble_eq_true rfl⟩ (ctM (e_X6_copy (xs n292) (xs n293) (xs n294) (xs n295) (xs n296) s291.2)) w_ML rfl rfl rfl rfl (Nat.le_of_ble_eq_true rfl) dL_law_1295 (fun v297 s298 => ?_)
                                                                            refine rr_icmp_eq 1457 (q := 1301) rfl dL_law_1298 rfl (fun _ => ?_) (fun _ => ?_)
                                                                            · exact e_L_law_1457 hN hxs hk18 l3 s298
                                                                            · refine rr_iconst 0 (q := 1302) rfl dL_law_1301 rfl ?_
                                                                              exact rr_zret dL_law_1302 rfl (Or.inl rfl)
                                                                          · refine rr_case 36 ?_ (fun hs306 => ?_)
                                                                            · refine rr_tableIn 1303 dL_law_33 (by decide) (by decide) rfl rfl ?_
                                                                              refine rr_aload_n (q := 1304) rfl dL_law_1303 rfl ?_
                                                                              refine rr_aload_n (q := 1305) rfl dL_law_1304 rfl ?_
                                                                              refine rr_iload_n (q := 1306) rfl dL_law_1305 rfl ?_
                                                                              refine rr_iconst 1 (q := 1307) rfl dL_law_1306 rfl ?_
                                                                              refine rr_iadd (q := 1308) rfl dL_law_1307 ?_
                                                                              refine rr_sald (q := 1309) rfl hN hxs dL_law_1308 (fun n300 => ?_)
                                                                              refine rr_cVi (q := 1312) rfl V_X5_lays ml_L_166 ⟨Nat.le_of_ble_eq_true rfl, Nat.le_of_ble_eq_true rfl⟩ (ctX (e_X5_lays (xs n300) s.1)) w_selfL rfl rfl rfl rfl (Nat.le_of_ble_eq_true rfl) dL_law_1309 (fun v301 s302 => ?_)
                                                                              refine rr_aload_n (q := 1313) rfl dL_law_1312 rfl ?_
                                                                              refine rr_aload_n (q := 1314) rfl dL_law_1313 rfl ?_
                                                                              refine rr_iload_n (q := 1315) rfl dL_law_1314 rfl ?_
                                                                              refine rr_iconst 1 (q := 1316) rfl dL_law_1315 rfl ?_
                                                                              refine rr_iadd (q := 1317) rfl dL_law_1316 ?_
                                                                              refine rr_sald (q := 1318) rfl hN hxs dL_law_1317 (fun n303 => ?_)
                                                                              refine rr_cVi (q := 1321) rfl V_X6_lays ml_L_169 ⟨Nat.le_of_ble_eq_true rfl, Nat.le_of_ble_eq_true rfl⟩ (ctM (e_X6_lays (xs n303) s302.2)) w_ML rfl rfl rfl rfl (Nat.le_of_ble_eq_true rfl) dL_law_1318 (fun v304 s305 => ?_)
                                                                              refine rr_icmp_eq 1457 (q := 1324) rfl dL_law_1321 rfl (fun _ => ?_) (fun _ => ?_)
                                                                              · exact e_L_law_1457 hN hxs hk18 l3 s305
                                                                              · refine rr_iconst 0 (q := 1325) rfl dL_law_1324 rfl ?_
                                                                                exact rr_zret dL_law_1325 rfl (Or.inl rfl)
                                                                            · refine rr_case 37 ?_ (fun hs313 => ?_)
                                                                              · refine rr_tableIn 1326 dL_law_33 (by decide) (by decide) rfl rfl ?_
                                                                                refine rr_aload_n (q := 1327) rfl dL_law_1326 rfl ?_
                                                                                refine rr_aload_n (q := 1328) rfl dL_law_1327 rfl ?_
                                                                                refine rr_iload_n (q := 1329) rfl dL_law_1328 rfl ?_
                                                                                refine rr_iconst 1 (q := 1330) rfl dL_law_1329 rfl ?_
                                                                                refine rr_iadd (q := 1331) rfl dL_law_1330 ?_
                                                                                refine rr_sald (q := 1332) rfl hN hxs dL_law_1331 (fun n307 => ?_)
                                                                                refine rr_cVi (q := 1335) rfl V_X5_roll ml_L_170 ⟨Nat.le_of_ble_eq_true rfl, Nat.le_of_ble_eq_true rfl⟩ (ctX (e_X5_roll (xs n307) s.1)) w_selfL rfl rfl rfl rfl (Nat.le_of_ble_eq_true rfl) dL_law_1332 (fun v308 s309 => ?_)
                                                                                refine rr_aload_n (q := 1336) rfl dL_law_1335 rfl ?_
                                                                                refine rr_aload_n (q := 1337) rfl dL_law_1336 rfl ?_
                                                                                refine rr_iload_n (q := 1338) rfl dL_law_1337 rfl ?_
                                                                                refine rr_iconst 1 (q := 1339) rfl dL_law_1338 rfl ?_
                                                                                refine rr_iadd (q := 1340) rfl dL_law_1339 ?_
                                                                                refine rr_sald (q := 1341) rfl hN hxs dL_law_1340 (fun n310 => ?_)
                                                                                refine rr_cVi (q := 1344) rfl V_X6_roll ml_L_173 ⟨Nat.le_of_ble_eq_true rfl, Nat.le_of_ble_eq_true rfl⟩ (ctM (e_X6_roll (xs n310) s309.2)) w_ML rfl rfl rfl rfl (Nat.le_of_ble_eq_true rfl) dL_law_1341 (fun v311 s312 => ?_)
                                                                                refine rr_icmp_eq 1457 (q := 1347) rfl dL_law_1344 rfl (fun _ => ?_) (fun _ => ?_)
                                                                                · exact e_L_law_1457 hN hxs hk18 l3 s312
                                                                                · refine rr_iconst 0 (q := 1348) rfl dL_law_1347 rfl ?_
                                                                                  exact rr_zret dL_law_1348 rfl (Or.inl rfl)
                                                                              · refine rr_case 38 ?_ (fun hs320 => ?_)
                                                                                · refine rr_tableIn 1349 dL_law_33 (by decide) (by decide) rfl rfl ?_
                                                                                  refine rr_aload_n (q := 1350) rfl dL_law_1349 rfl ?_
                                                                                  refine rr_aload_n (q := 1351) rfl dL_law_1350 rfl ?_
                                                                                  refine rr_iload_n (q := 1352) rfl dL_law_1351 rfl ?_
                                                                                  refine rr_iconst 1 (q := 1353) rfl dL_law_1352 rfl ?_
                                                                                  refine rr_iadd (q := 1354) rfl dL_law_1353 ?_
                                                                                  refine rr_sald (q := 1355) rfl hN hxs dL_law_1354 (fun n314 => ?_)
                                                                                  refine rr_cVi (q := 1358) rfl V_X5_read ml_L_174 ⟨Nat.le_of_ble_eq_true rfl, Nat.le_of_ble_eq_true rfl⟩ (ctX (e_X5_read (xs n314) s.1)) w_selfL rfl rfl rfl rfl (Nat.le_of_ble_eq_true rfl) dL_law_1355 (fun v315 s316 => ?_)
                                                                                  refine rr_aload_n (q := 1359) rfl dL_law_1358 rfl ?_
                                                                                  refine rr_aload_n (q := 1360) rfl dL_law_1359 rfl ?_
                                                                                  refine rr_iload_n (q := 1361) rfl dL_law_1360 rfl ?_
                                                                                  refine rr_iconst 1 (q := 1362) rfl dL_law_1361 rfl ?_
                                                                                  refine rr_iadd (q := 1363) rfl dL_law_1362 ?_
                                                                                  refine rr_sald (q := 1364) rfl hN hxs dL_law_1363 (fun n317 => ?_)
                                                                                  refine rr_cVi (q := 1367) rfl V_X6_read ml_L_177 ⟨Nat.le_of_ble_eq_true rfl, Nat.le_of_ble_eq_true rfl⟩ (ctM (e_X6_read (xs n317) s316.2)) w_ML rfl rfl rfl rfl (Nat.le_of_ble_eq_true rfl) dL_law_1364 (fun v318 s319 => ?_)
                                                                                  refine rr_icmp_eq 1457 (q := 1370) rfl dL_law_1367 rfl (fun _ => ?_) (fun _ => ?_)
                                                                                  · exact e_L_law_1457 hN hxs hk18 l3 s319
                                                                                  · refine rr_iconst 0 (q := 1371) rfl dL_law_1370 rfl ?_
                                                                                    exact rr_zret dL_law_1371 rfl (Or.inl rfl)
                                                                                · refine rr_case 39 ?_ (fun hs325 => ?_)
                                                                                  · refine rr_tableIn 1372 dL_law_33 (by decide) (by decide) rfl rfl ?_
                                                                                    refine rr_aload_n (q := 1373) rfl dL_law_1372 rfl ?_
                                                                                    refine rr_cVi (q := 1376) rfl V_X5_image ml_L_178 ⟨Nat.le_of_ble_eq_true rfl, Nat.le_of_ble_eq_true rfl⟩ (ctX (e_X5_image s.1)) w_selfL rfl rfl rfl rfl (Nat.le_of_ble_eq_true rfl) dL_law_1373 (fun v321 s322 => ?_)
                                                                                    refine rr_aload_n (q := 1377) rfl dL_law_1376 rfl ?_
                                                                                    refine rr_cVi (q := 1380) rfl V_X6_image ml_L_181 ⟨Nat.le_of_ble_eq_true rfl, Nat.le_of_ble_eq_true rfl⟩ (ctM (e_X6_image s322.2)) w_ML rfl rfl rfl rfl (Nat.le_of_ble_eq_true rfl) dL_law_1377 (fun v323 s324 => ?_)
                                                                                    refine rr_icmp_eq 1457 (q := 1383) rfl dL_law_1380 rfl (fun _ => ?_) (fun _ => ?_)
                                                                                    · exact e_L_law_1457 hN hxs hk18 l3 s324
                                                                                    · refine rr_iconst 0 (q := 1384) rfl dL_law_1383 rfl ?_
                                                                                      exact rr_zret dL_law_1384 rfl (Or.inl rfl)
                                                                                  · refine rr_case 40 ?_ (fun hs330 => ?_)
                                                                                    · refine rr_tableIn 1385 dL_law_33 (by decide) (by decide) rfl rfl ?_
                                                                                      refine rr_aload_n (q := 1386) rfl dL_law_1385 rfl ?_
                                                                                      refine rr_cVi (q := 1389) rfl V_X5_undo ml_L_182 ⟨Nat.le_of_ble_eq_true rfl, Nat.le_of_ble_eq_true rfl⟩ (ctX (e_X5_undo s.1)) w_selfL rfl rfl rfl rfl (Nat.le_of_ble_eq_true rfl) dL_law_1386 (fun v326 s327 => ?_)
                                                                                      refine rr_aload_n (q := 1390) rfl dL_law_1389 rfl ?_
                                                                                      refine rr_cVi (q := 1393) rfl V_X6_undo ml_L_185 ⟨Nat.le_of_ble_eq_true rfl, Nat.le_of_ble_eq_true rfl⟩ (ctM (e_X6_undo s327.2)) w_ML rfl rfl rfl rfl (Nat.le_of_ble_eq_true rfl) dL_law_1390 (fun v328 s329 => ?_)
                                                                                      refine rr_icmp_eq 1457 (q := 1396) rfl dL_law_1393 rfl (fun _ => ?_) (fun _ => ?_)
                                                                                      · exact e_L_law_1457 hN hxs hk18 l3 s329
                                                                                      · refine rr_iconst 0 (q := 1397) rfl dL_law_1396 rfl ?_
                                                                                        exact rr_zret dL_law_1397 rfl (Or.inl rfl)
                                                                                    · refine rr_case 41 ?_ (fun hs335 => ?_)
                                                                                      · refine rr_tableIn 1398 dL_law_33 (by decide) (by decide) rfl rfl ?_
                                                                                        refine rr_aload_n (q := 1399) rfl dL_law_1398 rfl ?_
                                                                                        refine rr_cVi (q := 1402) rfl V_X5_tear ml_L_186 ⟨Nat.le_of_ble_eq_true rfl, Nat.le_of_ble_eq_true rfl⟩ (ctX (e_X5_tear s.1)) w_selfL rfl rfl rfl rfl (Nat.le_of_ble_eq_true rfl) dL_law_1399 (fun v331 s332 => ?_)
                                                                                        refine rr_aload_n (q := 1403) rfl dL_law_1402 rfl ?_
                                                                                        refine rr_cVi (q := 1406) rfl V_X6_tear ml_L_189 ⟨Nat.le_of_ble_eq_true rfl, Nat.le_of_ble_eq_true rfl⟩ (ctM (e_X6_tear s332.2)) w_ML rfl rfl rfl rfl (Nat.le_of_ble_eq_true rfl) dL_law_1403 (fun v333 s334 => ?_)
                                                                                        refine rr_icmp_eq 1457 (q := 1409) rfl dL_law_1406 rfl (fun _ => ?_) (fun _ => ?_)
                                                                                        · exact e_L_law_1457 hN hxs hk18 l3 s334
                                                                                        · refine rr_iconst 0 (q := 1410) rfl dL_law_1409 rfl ?_
                                                                                          exact rr_zret dL_law_1410 rfl (Or.inl rfl)
                                                                                      · refine rr_case 42 ?_ (fun hs342 => ?_)
                                                                                        · refine rr_tableIn 1411 dL_law_33 (by decide) (by decide) rfl rfl ?_
                                                                                          refine rr_aload_n (q := 1412) rfl dL_law_1411 rfl ?_
                                                                                          refine rr_aload_n (q := 1413) rfl dL_law_1412 rfl ?_
                                                                                          refine rr_iload_n (q := 1414) rfl dL_law_1413 rfl ?_
                                                                                          refine rr_iconst 1 (q := 1415) rfl dL_law_1414 rfl ?_
                                                                                          refine rr_iadd (q := 1416) rfl dL_law_1415 ?_
                                                                                          refine rr_sald (q := 1417) rfl hN hxs dL_law_1416 (fun n336 => ?_)
                                                                                          refine rr_cVi (q := 1420) rfl V_X5_count ml_L_190 ⟨Nat.le_of_ble_eq_true rfl, Nat.le_of_ble_eq_true rfl⟩ (ctX (e_X5_count (xs n336) s.1)) w_selfL rfl rfl rfl rfl (Nat.le_of_ble_eq_true rfl) dL_law_1417 (fun v337 s338 => ?_)
                                                                                          refine rr_aload_n (q := 1421) rfl dL_law_1420 rfl ?_
                                                                                          refine rr_aload_n (q := 1422) rfl dL_law_1421 rfl ?_
                                                                                          refine rr_iload_n (q := 1423) rfl dL_law_1422 rfl ?_
                                                                                          refine rr_iconst 1 (q := 1424) rfl dL_law_1423 rfl ?_
                                                                                          refine rr_iadd (q := 1425) rfl dL_law_1424 ?_
                                                                                          refine rr_sald (q := 1426) rfl hN hxs dL_law_1425 (fun n339 => ?_)
                                                                                          refine rr_cVi (q := 1429) rfl V_X6_count ml_L_193 ⟨Nat.le_of_ble_eq_true rfl, Nat.le_of_ble_eq_true rfl⟩ (ctM (e_X6_count (xs n339) s338.2)) w_ML rfl rfl rfl rfl (Nat.le_of_ble_eq_true rfl) dL_law_1426 (fun v340 s341 => ?_)
                                                                                          refine rr_icmp_eq 1457 (q := 1432) rfl dL_law_1429 rfl (fun _ => ?_) (fun _ => ?_)
                                                                                          · exact e_L_law_1457 hN hxs hk18 l3 s341
                                                                                          · refine rr_iconst 0 (q := 1433) rfl dL_law_1432 rfl ?_
                                                                                            exact rr_zret dL_law_1433 rfl (Or.inl rfl)
                                                                                        · refine rr_case 43 ?_ (fun hs349 => ?_)
                                                                                          · refine rr_tableIn 1434 dL_law_33 (by decide) (by decide) rfl rfl ?_
                                                                                            refine rr_aload_n (q := 1435) rfl dL_law_1434 rfl ?_
                                                                                            refine rr_aload_n (q := 1436) rfl dL_law_1435 rfl ?_
                                                                                            refine rr_iload_n (q := 1437) rfl dL_law_1436 rfl ?_
                                                                                            refine rr_iconst 1 (q := 1438) rfl dL_law_1437 rfl ?_
                                                                                            refine rr_iadd (q := 1439) rfl dL_law_1438 ?_
                                                                                            refine rr_sald (q := 1440) rfl hN hxs dL_law_1439 (fun n343 => ?_)
                                                                                            refine rr_cVi (q := 1443) rfl V_X5_status ml_L_194 ⟨Nat.le_of_ble_eq_true rfl, Nat.le_of_ble_eq_true rfl⟩ (ctX (e_X5_status (xs n343) s.1)) w_selfL rfl rfl rfl rfl (Nat.le_of_ble_eq_true rfl) dL_law_1440 (fun v344 s345 => ?_)
                                                                                            refine rr_aload_n (q := 1444) rfl dL_law_1443 rfl ?_
                                                                                            refine rr_aload_n (q := 1445) rfl dL_law_1444 rfl ?_
                                                                                            refine rr_iload_n (q := 1446) rfl dL_law_1445 rfl ?_
                                                                                            refine rr_iconst 1 (q := 1447) rfl dL_law_1446 rfl ?_
                                                                                            refine rr_iadd (q := 1448) rfl dL_law_1447 ?_
                                                                                            refine rr_sald (q := 1449) rfl hN hxs dL_law_1448 (fun n346 => ?_)
                                                                                            refine rr_cVi (q := 1452) rfl V_X6_status ml_L_197 ⟨Nat.le_of_ble_eq_true rfl, Nat.le_of_ble_eq_true rfl⟩ (ctM (e_X6_status (xs n346) s345.2)) w_ML rfl rfl rfl rfl (Nat.le_of_ble_eq_true rfl) dL_law_1449 (fun v347 s348 => ?_)
                                                                                            refine rr_icmp_eq 1457 (q := 1455) rfl dL_law_1452 rfl (fun _ => ?_) (fun _ => ?_)
                                                                                            · exact e_L_law_1457 hN hxs hk18 l3 s348
                                                                                            · refine rr_iconst 0 (q := 1456) rfl dL_law_1455 rfl ?_
                                                                                              exact rr_zret dL_law_1456 rfl (Or.inl rfl)
                                                                                          · refine rr_tableOut 1457 dL_law_33 (by have ahs10 := ne_lit (n := 0) hs10 rfl; have ahs19 := ne_lit (n := 1) hs19 rfl; have ahs30 := ne_lit (n := 2) hs30 rfl; have ahs39 := ne_lit (n := 3) hs39 rfl; have ahs48 := ne_lit (n := 4) hs48 rfl; have ahs57 := ne_lit (n := 5) hs57 rfl; have ahs66 := ne_lit (n := 6) hs66 rfl; have ahs75 := ne_lit (n := 7) hs75 rfl; have ahs82 := ne_lit (n := 8) hs82 rfl; have ahs91 := ne_lit (n := 9) hs91 rfl; have ahs104 := ne_lit (n := 10) hs104 rfl; have ahs113 := ne_lit (n := 11) hs113 rfl; have ahs122 := ne_lit (n := 12) hs122 rfl; have ahs131 := ne_lit (n := 13) hs131 rfl; have ahs138 := ne_lit (n := 14) hs138 rfl; have ahs143 := ne_lit (n := 15) hs143 rfl; have ahs152 := ne_lit (n := 16) hs152 rfl; have ahs157 := ne_lit (n := 17) hs157 rfl; have ahs162 := ne_lit (n := 18) hs162 rfl; have ahs169 := ne_lit (n := 19) hs169 rfl; have ahs176 := ne_lit (n := 20) hs176 rfl; have ahs181 := ne_lit (n := 21) hs181 rfl; have ahs188 := ne_lit (n := 22) hs188 rfl; have ahs195 := ne_lit (n := 23) hs195 rfl; have ahs202 := ne_lit (n := 24) hs202 rfl; have ahs209 := ne_lit (n := 25) hs209 rfl; have ahs216 := ne_lit (n := 26) hs216 rfl; have ahs223 := ne_lit (n := 27) hs223 rfl; have ahs232 := ne_lit (n := 28) hs232 rfl; have ahs241 := ne_lit (n := 29) hs241 rfl; have ahs250 := ne_lit (n := 30) hs250 rfl; have ahs255 := ne_lit (n := 31) hs255 rfl; have ahs260 := ne_lit (n := 32) hs260 rfl; have ahs271 := ne_lit (n := 33) hs271 rfl; have ahs284 := ne_lit (n := 34) hs284 rfl; have ahs299 := ne_lit (n := 35) hs299 rfl; have ahs306 := ne_lit (n := 36) hs306 rfl; have ahs313 := ne_lit (n := 37) hs313 rfl; have ahs320 := ne_lit (n := 38) hs320 rfl; have ahs325 := ne_lit (n := 39) hs325 rfl; have ahs330 := ne_lit (n := 40) hs330 rfl; have ahs335 := ne_lit (n := 41) hs335 rfl; have ahs342 := ne_lit (n := 42) hs342 rfl; have ahs349 := ne_lit (n := 43) hs349 rfl; omega) rfl ?_
                                                                                            exact e_L_law_1457 hN hxs hk18 l3 s
def fL_law_18 (N : Nat) (xs : Nat → Int32) : Nat → Int32 → SL → Option (Int32 × SL) := lp (fun _ _ => none) (fL_law_18b N xs)
theorem e_L_law_18 {G : Cf}  {N : Nat} {xs : Nat → Int32} (hN : cL G = N) (hxs : cX G = xs)  (n : Nat) : ∀ (l3 : Int32) (s : SL), R wfL inI G M_L_law 18 [some (.ref 4000), some (.ref 0), some (.ref mb), some (.int l3)] [] s (fL_law_18 N xs n l3 s) := by
  unfold fL_law_18
  exact rr_lp (P := fun (kz : Int32 → SL → Option (Int32 × SL)) => ∀ (l3 : Int32) (s : SL), R wfL inI G M_L_law 18 [some (.ref 4000), some (.ref 0), some (.ref mb), some (.int l3)] [] s (kz l3 s)) (fun _ _ => rr_none) (fun kz hkz => fun l3 s => e_L_law_18b hN hxs hkz l3 s) n
