/-! ===== the memory of the class (objects 0 to 4 realms, 5 self, 6 planner, 7 route, 8 tape, 9.. sheets) and of the reference ===== -/
abbrev SX : Type := (Nat → Nat → Nat → Int32) × (Nat → Nat → Int64)
abbrev SM : Type := (Nat → Nat → Int32) × (Nat → Nat → Int64)
def gX (s : SX) (i j : Nat) : Nat → Int32 := s.1 i j
def gL (s : SX) (i : Nat) : Nat → Int64 := s.2 i
def rX (s : SX) (i j : Nat) (f : Nat → Int32) : SX := (fun a b => if a = i then (if b = j then f else s.1 a b) else s.1 a b, s.2)
def rL (s : SX) (i : Nat) (f : Nat → Int64) : SX := (s.1, fun a => if a = i then f else s.2 a)
def wX (s : SX) (i j k : Nat) (x : Int32) : SX := rX s i j (upd (gX s i j) k x)
def wL (s : SX) (i k : Nat) (x : Int64) : SX := rL s i (vp_updL (gL s i) k x)
def gM (t : SM) (a : Nat) : Nat → Int32 := t.1 a
def gN (t : SM) (a : Nat) : Nat → Int64 := t.2 a
def rM (t : SM) (a : Nat) (f : Nat → Int32) : SM := (fun b => if b = a then f else t.1 b, t.2)
def rN (t : SM) (a : Nat) (f : Nat → Int64) : SM := (t.1, fun b => if b = a then f else t.2 b)
def wM (t : SM) (a k : Nat) (x : Int32) : SM := rM t a (upd (gM t a) k x)
def wN (t : SM) (a k : Nat) (x : Int64) : SM := rN t a (vp_updL (gN t a) k x)
def rb (i : Nat) : Nat := ([1, 12, 23, 35, 47] : List Nat).getD i 0
def sb (i : Nat) : Nat := 66 + 2 * i
def mb : Nat := 74
def lenR (j : Nat) : Nat := ([6, 14, 14, 14, 14, 12, 12, 12, 12, 6] : List Nat).getD j 0
def lenM (a : Nat) : Nat := ([0, 6, 14, 14, 14, 12, 12, 12, 12, 82, 7, 36, 8, 8, 256, 120, 4, 4, 160, 40, 150, 150, 2] : List Nat).getD a 0

def fRealm (i : Nat) (s : SX) : List Value := [.ref (rb i + 1), .ref (rb i + 2), .ref (rb i + 3), .ref (rb i + 4), .ref (rb i + 5), .ref (rb i + 6), .ref (rb i + 7), .ref (rb i + 8), .ref (rb i + 9), .ref (rb i + 10), .int (gX s i 10 10), .int (gX s i 10 11), .int (gX s i 10 12), .int (gX s i 10 13), .int (gX s i 10 14)]
def cRealm (i : Nat) (s : SX) : List va_E := [.inr (1, fRealm i s), .inl (0, 6, .inl (gX s i 0)), .inl (0, 14, .inl (gX s i 1)), .inl (0, 14, .inl (gX s i 2)), .inl (0, 14, .inl (gX s i 3)), .inl (0, 14, .inl (gX s i 4)), .inl (0, 12, .inl (gX s i 5)), .inl (0, 12, .inl (gX s i 6)), .inl (0, 12, .inl (gX s i 7)), .inl (0, 12, .inl (gX s i 8)), .inl (0, 6, .inl (gX s i 9))]
def fSelf (s : SX) : List Value := [.ref (rb 0), .ref (rb 1), .ref (rb 2), .ref 34, .ref 46, .ref 62, .ref 64, .ref 65, .int (gX s 5 0 8)]
def fPlanner (s : SX) : List Value := [.ref (rb 3), .int (gX s 6 0 1), .int (gX s 6 0 2), .int (gX s 6 0 3)]
def fRoute (s : SX) : List Value := [.ref (rb 4), .ref 58, .ref 59, .ref 60, .ref 61, .int (gX s 7 0 5)]
def fTape (s : SX) : List Value := [.ref 63, .int (gX s 8 0 1), .int (gX s 8 0 2), .int (gX s 8 0 3), .int (gX s 8 0 4), .int (gX s 8 0 5)]
def fSheet (i : Nat) (s : SX) : List Value := [.ref (sb i + 1), .int (gX s (9 + i) 0 1), .int (gX s (9 + i) 0 2)]
def shs (j : Nat) : Option Nat := ([some (sb 0), some (sb 1), some (sb 2), some (sb 3)] : List (Option Nat)).getD j none
def fModel (t : SM) : List Value := [.ref (mb + 1), .int (gM t 0 1), .ref (mb + 2), .ref (mb + 3), .ref (mb + 4), .int (gM t 0 5), .ref (mb + 5), .ref (mb + 6), .ref (mb + 7), .ref (mb + 8), .ref (mb + 9), .int (gM t 0 11), .ref (mb + 10), .ref (mb + 11), .int (gM t 0 14), .int (gM t 0 15), .int (gM t 0 16), .int (gM t 0 17), .int (gM t 0 18), .int (gM t 0 19), .ref (mb + 12), .ref (mb + 13), .ref (mb + 14), .int (gM t 0 23), .ref (mb + 15), .int (gM t 0 25), .int (gM t 0 26), .int (gM t 0 27), .int (gM t 0 28), .long (gN t 0 29), .int (gM t 0 30), .int (gM t 0 31), .ref (mb + 16), .ref (mb + 17), .ref (mb + 18), .ref (mb + 19), .ref (mb + 20), .ref (mb + 21), .int (gM t 0 38), .int (gM t 0 39), .ref (mb + 22)]
def cModel (t : SM) : List va_E := [.inr (6, fModel t), .inl (0, 6, .inl (gM t 1)), .inl (0, 14, .inl (gM t 2)), .inl (0, 14, .inl (gM t 3)), .inl (0, 14, .inl (gM t 4)), .inl (0, 12, .inl (gM t 5)), .inl (0, 12, .inl (gM t 6)), .inl (0, 12, .inl (gM t 7)), .inl (0, 12, .inl (gM t 8)), .inl (0, 82, .inl (gM t 9)), .inl (0, 7, .inl (gM t 10)), .inl (0, 36, .inl (gM t 11)), .inl (0, 8, .inl (gM t 12)), .inl (0, 8, .inl (gM t 13)), .inl (2, 256, .inl (gM t 14)), .inl (0, 120, .inl (gM t 15)), .inl (0, 4, .inl (gM t 16)), .inl (0, 4, .inl (gM t 17)), .inl (1, 160, .inr (.inl (gN t 18))), .inl (1, 40, .inr (.inl (gN t 19))), .inl (0, 150, .inl (gM t 20)), .inl (0, 150, .inl (gM t 21)), .inl (0, 2, .inl (gM t 22))]
def world (s : SX) (t : SM) : Wd := [.inr (5, fSelf s)] ++ (cRealm 0 s ++ (cRealm 1 s ++ (cRealm 2 s ++ ([.inr (0, fPlanner s)] ++ (cRealm 3 s ++ ([.inr (2, fRoute s)] ++ (cRealm 4 s ++ ([.inl (0, 14, .inl (gX s 7 1)), .inl (0, 14, .inl (gX s 7 2)), .inl (2, 256, .inl (gX s 7 3)), .inl (0, 8, .inl (gX s 7 4)), .inr (4, fTape s), .inl (0, 120, .inl (gX s 8 1)), .inl (3, 4, .inr (.inr (.inr (.inr shs)))), .inl (0, 7, .inl (gX s 5 1))] ++ ([.inr (3, fSheet 0 s), .inl (1, 40, .inr (.inl (gL s 0)))] ++ ([.inr (3, fSheet 1 s), .inl (1, 40, .inr (.inl (gL s 1)))] ++ ([.inr (3, fSheet 2 s), .inl (1, 40, .inr (.inl (gL s 2)))] ++ ([.inr (3, fSheet 3 s), .inl (1, 40, .inr (.inl (gL s 3)))] ++ (cModel t)))))))))))))
def wfX (t : SM) (s : SX) : Wd := world s t
def wfM (s : SX) (t : SM) : Wd := world s t
theorem w_realm {i : Nat} {s : SX} {t : SM} (hi : i < 5) : (wfX t s)[rb i]? = some (.inr (1, fRealm i s)) := by
  rcases i with _ | _ | _ | _ | _ | i
  · rfl
  · rfl
  · rfl
  · rfl
  · rfl
  · omega
theorem w_rarr0 {i : Nat} {s : SX} {t : SM} (hi : i < 5) : (wfX t s)[rb i + 1]? = some (.inl (0, 6, .inl (gX s i 0))) := by
  rcases i with _ | _ | _ | _ | _ | i
  · rfl
  · rfl
  · rfl
  · rfl
  · rfl
  · omega
theorem w_rarr1 {i : Nat} {s : SX} {t : SM} (hi : i < 5) : (wfX t s)[rb i + 2]? = some (.inl (0, 14, .inl (gX s i 1))) := by
  rcases i with _ | _ | _ | _ | _ | i
  · rfl
  · rfl
  · rfl
  · rfl
  · rfl
  · omega
theorem w_rarr2 {i : Nat} {s : SX} {t : SM} (hi : i < 5) : (wfX t s)[rb i + 3]? = some (.inl (0, 14, .inl (gX s i 2))) := by
  rcases i with _ | _ | _ | _ | _ | i
  · rfl
  · rfl
  · rfl
  · rfl
  · rfl
  · omega
theorem w_rarr3 {i : Nat} {s : SX} {t : SM} (hi : i < 5) : (wfX t s)[rb i + 4]? = some (.inl (0, 14, .inl (gX s i 3))) := by
  rcases i with _ | _ | _ | _ | _ | i
  · rfl
  · rfl
  · rfl
  · rfl
  · rfl
  · omega
theorem w_rarr4 {i : Nat} {s : SX} {t : SM} (hi : i < 5) : (wfX t s)[rb i + 5]? = some (.inl (0, 14, .inl (gX s i 4))) := by
  rcases i with _ | _ | _ | _ | _ | i
  · rfl
  · rfl
  · rfl
  · rfl
  · rfl
  · omega
theorem w_rarr5 {i : Nat} {s : SX} {t : SM} (hi : i < 5) : (wfX t s)[rb i + 6]? = some (.inl (0, 12, .inl (gX s i 5))) := by
  rcases i with _ | _ | _ | _ | _ | i
  · rfl
  · rfl
  · rfl
  · rfl
  · rfl
  · omega
theorem w_rarr6 {i : Nat} {s : SX} {t : SM} (hi : i < 5) : (wfX t s)[rb i + 7]? = some (.inl (0, 12, .inl (gX s i 6))) := by
  rcases i with _ | _ | _ | _ | _ | i
  · rfl
  · rfl
  · rfl
  · rfl
  · rfl
  · omega
theorem w_rarr7 {i : Nat} {s : SX} {t : SM} (hi : i < 5) : (wfX t s)[rb i + 8]? = some (.inl (0, 12, .inl (gX s i 7))) := by
  rcases i with _ | _ | _ | _ | _ | i
  · rfl
  · rfl
  · rfl
  · rfl
  · rfl
  · omega
theorem w_rarr8 {i : Nat} {s : SX} {t : SM} (hi : i < 5) : (wfX t s)[rb i + 9]? = some (.inl (0, 12, .inl (gX s i 8))) := by
  rcases i with _ | _ | _ | _ | _ | i
  · rfl
  · rfl
  · rfl
  · rfl
  · rfl
  · omega
theorem w_rarr9 {i : Nat} {s : SX} {t : SM} (hi : i < 5) : (wfX t s)[rb i + 10]? = some (.inl (0, 6, .inl (gX s i 9))) := by
  rcases i with _ | _ | _ | _ | _ | i
  · rfl
  · rfl
  · rfl
  · rfl
  · rfl
  · omega
theorem w_self {s : SX} {t : SM} : (wfX t s)[0]? = some (.inr (5, fSelf s)) := rfl
theorem w_planner {s : SX} {t : SM} : (wfX t s)[34]? = some (.inr (0, fPlanner s)) := rfl
theorem w_route {s : SX} {t : SM} : (wfX t s)[46]? = some (.inr (2, fRoute s)) := rfl
theorem w_routearr1 {s : SX} {t : SM} : (wfX t s)[58]? = some (.inl (0, 14, .inl (gX s 7 1))) := rfl
theorem w_routearr2 {s : SX} {t : SM} : (wfX t s)[59]? = some (.inl (0, 14, .inl (gX s 7 2))) := rfl
theorem w_routearr3 {s : SX} {t : SM} : (wfX t s)[60]? = some (.inl (2, 256, .inl (gX s 7 3))) := rfl
theorem w_routearr4 {s : SX} {t : SM} : (wfX t s)[61]? = some (.inl (0, 8, .inl (gX s 7 4))) := rfl
theorem w_tape {s : SX} {t : SM} : (wfX t s)[62]? = some (.inr (4, fTape s)) := rfl
theorem w_tapearr {s : SX} {t : SM} : (wfX t s)[63]? = some (.inl (0, 120, .inl (gX s 8 1))) := rfl
theorem w_sheets {s : SX} {t : SM} : (wfX t s)[64]? = some (.inl (3, 4, .inr (.inr (.inr (.inr shs))))) := rfl
theorem w_ans {s : SX} {t : SM} : (wfX t s)[65]? = some (.inl (0, 7, .inl (gX s 5 1))) := rfl
theorem w_sheet {i : Nat} {s : SX} {t : SM} (hi : i < 4) : (wfX t s)[sb i]? = some (.inr (3, fSheet i s)) := by
  rcases i with _ | _ | _ | _ | i
  · rfl
  · rfl
  · rfl
  · rfl
  · omega
theorem w_snum {i : Nat} {s : SX} {t : SM} (hi : i < 4) : (wfX t s)[sb i + 1]? = some (.inl (1, 40, .inr (.inl (gL s i)))) := by
  rcases i with _ | _ | _ | _ | i
  · rfl
  · rfl
  · rfl
  · rfl
  · omega
theorem w_M {s : SX} {t : SM} : (wfM s t)[mb]? = some (.inr (6, fModel t)) := rfl
set_option maxRecDepth 100000 in
theorem w_marr1 {s : SX} {t : SM} : (wfM s t)[mb + 1]? = some (.inl (0, 6, .inl (gM t 1))) := rfl
set_option maxRecDepth 100000 in
theorem w_marr2 {s : SX} {t : SM} : (wfM s t)[mb + 2]? = some (.inl (0, 14, .inl (gM t 2))) := rfl
set_option maxRecDepth 100000 in
theorem w_marr3 {s : SX} {t : SM} : (wfM s t)[mb + 3]? = some (.inl (0, 14, .inl (gM t 3))) := rfl
set_option maxRecDepth 100000 in
theorem w_marr4 {s : SX} {t : SM} : (wfM s t)[mb + 4]? = some (.inl (0, 14, .inl (gM t 4))) := rfl
set_option maxRecDepth 100000 in
theorem w_marr5 {s : SX} {t : SM} : (wfM s t)[mb + 5]? = some (.inl (0, 12, .inl (gM t 5))) := rfl
set_option maxRecDepth 100000 in
theorem w_marr6 {s : SX} {t : SM} : (wfM s t)[mb + 6]? = some (.inl (0, 12, .inl (gM t 6))) := rfl
set_option maxRecDepth 100000 in
theorem w_marr7 {s : SX} {t : SM} : (wfM s t)[mb + 7]? = some (.inl (0, 12, .inl (gM t 7))) := rfl
set_option maxRecDepth 100000 in
theorem w_marr8 {s : SX} {t : SM} : (wfM s t)[mb + 8]? = some (.inl (0, 12, .inl (gM t 8))) := rfl
set_option maxRecDepth 100000 in
theorem w_marr9 {s : SX} {t : SM} : (wfM s t)[mb + 9]? = some (.inl (0, 82, .inl (gM t 9))) := rfl
set_option maxRecDepth 100000 in
theorem w_marr10 {s : SX} {t : SM} : (wfM s t)[mb + 10]? = some (.inl (0, 7, .inl (gM t 10))) := rfl
set_option maxRecDepth 100000 in
theorem w_marr11 {s : SX} {t : SM} : (wfM s t)[mb + 11]? = some (.inl (0, 36, .inl (gM t 11))) := rfl
set_option maxRecDepth 100000 in
theorem w_marr12 {s : SX} {t : SM} : (wfM s t)[mb + 12]? = some (.inl (0, 8, .inl (gM t 12))) := rfl
set_option maxRecDepth 100000 in
theorem w_marr13 {s : SX} {t : SM} : (wfM s t)[mb + 13]? = some (.inl (0, 8, .inl (gM t 13))) := rfl
set_option maxRecDepth 100000 in
theorem w_marr14 {s : SX} {t : SM} : (wfM s t)[mb + 14]? = some (.inl (2, 256, .inl (gM t 14))) := rfl
set_option maxRecDepth 100000 in
theorem w_marr15 {s : SX} {t : SM} : (wfM s t)[mb + 15]? = some (.inl (0, 120, .inl (gM t 15))) := rfl
set_option maxRecDepth 100000 in
theorem w_marr16 {s : SX} {t : SM} : (wfM s t)[mb + 16]? = some (.inl (0, 4, .inl (gM t 16))) := rfl
set_option maxRecDepth 100000 in
theorem w_marr17 {s : SX} {t : SM} : (wfM s t)[mb + 17]? = some (.inl (0, 4, .inl (gM t 17))) := rfl
set_option maxRecDepth 100000 in
theorem w_marr18 {s : SX} {t : SM} : (wfM s t)[mb + 18]? = some (.inl (1, 160, .inr (.inl (gN t 18)))) := rfl
set_option maxRecDepth 100000 in
theorem w_marr19 {s : SX} {t : SM} : (wfM s t)[mb + 19]? = some (.inl (1, 40, .inr (.inl (gN t 19)))) := rfl
set_option maxRecDepth 100000 in
theorem w_marr20 {s : SX} {t : SM} : (wfM s t)[mb + 20]? = some (.inl (0, 150, .inl (gM t 20))) := rfl
set_option maxRecDepth 100000 in
theorem w_marr21 {s : SX} {t : SM} : (wfM s t)[mb + 21]? = some (.inl (0, 150, .inl (gM t 21))) := rfl
set_option maxRecDepth 100000 in
theorem w_marr22 {s : SX} {t : SM} : (wfM s t)[mb + 22]? = some (.inl (0, 2, .inl (gM t 22))) := rfl
abbrev arrM (a : Nat) : Prop := a ∈ ([1, 2, 3, 4, 5, 6, 7, 8, 9, 10, 11, 12, 13, 15, 16, 17, 20, 21, 22] : List Nat)
set_option maxRecDepth 100000 in
theorem w_marr {a : Nat} {s : SX} {t : SM} (ha : arrM a) : (wfM s t)[mb + a]? = some (.inl (0, lenM a, .inl (gM t a))) := by
  simp only [arrM, List.mem_cons, List.not_mem_nil, or_false] at ha
  rcases ha with rfl | rfl | rfl | rfl | rfl | rfl | rfl | rfl | rfl | rfl | rfl | rfl | rfl | rfl | rfl | rfl | rfl | rfl | rfl <;> rfl
theorem u_rarr0 {i : Nat} {s : SX} {t : SM} {f : Nat → Int32} (hi : i < 5) : (wfX t s).set (rb i + 1) (.inl (0, 6, .inl f)) = wfX t (rX s i 0 f) := by
  rcases i with _ | _ | _ | _ | _ | i
  · rfl
  · rfl
  · rfl
  · rfl
  · rfl
  · omega
theorem u_rarr1 {i : Nat} {s : SX} {t : SM} {f : Nat → Int32} (hi : i < 5) : (wfX t s).set (rb i + 2) (.inl (0, 14, .inl f)) = wfX t (rX s i 1 f) := by
  rcases i with _ | _ | _ | _ | _ | i
  · rfl
  · rfl
  · rfl
  · rfl
  · rfl
  · omega
theorem u_rarr2 {i : Nat} {s : SX} {t : SM} {f : Nat → Int32} (hi : i < 5) : (wfX t s).set (rb i + 3) (.inl (0, 14, .inl f)) = wfX t (rX s i 2 f) := by
  rcases i with _ | _ | _ | _ | _ | i
  · rfl
  · rfl
  · rfl
  · rfl
  · rfl
  · omega
theorem u_rarr3 {i : Nat} {s : SX} {t : SM} {f : Nat → Int32} (hi : i < 5) : (wfX t s).set (rb i + 4) (.inl (0, 14, .inl f)) = wfX t (rX s i 3 f) := by
  rcases i with _ | _ | _ | _ | _ | i
  · rfl
  · rfl
  · rfl
  · rfl
  · rfl
  · omega
theorem u_rarr4 {i : Nat} {s : SX} {t : SM} {f : Nat → Int32} (hi : i < 5) : (wfX t s).set (rb i + 5) (.inl (0, 14, .inl f)) = wfX t (rX s i 4 f) := by
  rcases i with _ | _ | _ | _ | _ | i
  · rfl
  · rfl
  · rfl
  · rfl
  · rfl
  · omega
theorem u_rarr5 {i : Nat} {s : SX} {t : SM} {f : Nat → Int32} (hi : i < 5) : (wfX t s).set (rb i + 6) (.inl (0, 12, .inl f)) = wfX t (rX s i 5 f) := by
  rcases i with _ | _ | _ | _ | _ | i
  · rfl
  · rfl
  · rfl
  · rfl
  · rfl
  · omega
theorem u_rarr6 {i : Nat} {s : SX} {t : SM} {f : Nat → Int32} (hi : i < 5) : (wfX t s).set (rb i + 7) (.inl (0, 12, .inl f)) = wfX t (rX s i 6 f) := by
  rcases i with _ | _ | _ | _ | _ | i
  · rfl
  · rfl
  · rfl
  · rfl
  · rfl
  · omega
theorem u_rarr7 {i : Nat} {s : SX} {t : SM} {f : Nat → Int32} (hi : i < 5) : (wfX t s).set (rb i + 8) (.inl (0, 12, .inl f)) = wfX t (rX s i 7 f) := by
  rcases i with _ | _ | _ | _ | _ | i
  · rfl
  · rfl
  · rfl
  · rfl
  · rfl
  · omega
theorem u_rarr8 {i : Nat} {s : SX} {t : SM} {f : Nat → Int32} (hi : i < 5) : (wfX t s).set (rb i + 9) (.inl (0, 12, .inl f)) = wfX t (rX s i 8 f) := by
  rcases i with _ | _ | _ | _ | _ | i
  · rfl
  · rfl
  · rfl
  · rfl
  · rfl
  · omega
theorem u_rarr9 {i : Nat} {s : SX} {t : SM} {f : Nat → Int32} (hi : i < 5) : (wfX t s).set (rb i + 10) (.inl (0, 6, .inl f)) = wfX t (rX s i 9 f) := by
  rcases i with _ | _ | _ | _ | _ | i
  · rfl
  · rfl
  · rfl
  · rfl
  · rfl
  · omega
theorem u_realm10 {i : Nat} {s : SX} {t : SM} {x : Int32} (hi : i < 5) : (wfX t s).set (rb i) (.inr (1, (fRealm i s).set 10 (.int x))) = wfX t (wX s i 10 10 x) := by
  rcases i with _ | _ | _ | _ | _ | i
  · rfl
  · rfl
  · rfl
  · rfl
  · rfl
  · omega
theorem u_realm11 {i : Nat} {s : SX} {t : SM} {x : Int32} (hi : i < 5) : (wfX t s).set (rb i) (.inr (1, (fRealm i s).set 11 (.int x))) = wfX t (wX s i 10 11 x) := by
  rcases i with _ | _ | _ | _ | _ | i
  · rfl
  · rfl
  · rfl
  · rfl
  · rfl
  · omega
theorem u_realm12 {i : Nat} {s : SX} {t : SM} {x : Int32} (hi : i < 5) : (wfX t s).set (rb i) (.inr (1, (fRealm i s).set 12 (.int x))) = wfX t (wX s i 10 12 x) := by
  rcases i with _ | _ | _ | _ | _ | i
  · rfl
  · rfl
  · rfl
  · rfl
  · rfl
  · omega
theorem u_realm13 {i : Nat} {s : SX} {t : SM} {x : Int32} (hi : i < 5) : (wfX t s).set (rb i) (.inr (1, (fRealm i s).set 13 (.int x))) = wfX t (wX s i 10 13 x) := by
  rcases i with _ | _ | _ | _ | _ | i
  · rfl
  · rfl
  · rfl
  · rfl
  · rfl
  · omega
theorem u_realm14 {i : Nat} {s : SX} {t : SM} {x : Int32} (hi : i < 5) : (wfX t s).set (rb i) (.inr (1, (fRealm i s).set 14 (.int x))) = wfX t (wX s i 10 14 x) := by
  rcases i with _ | _ | _ | _ | _ | i
  · rfl
  · rfl
  · rfl
  · rfl
  · rfl
  · omega
theorem u_self8 {s : SX} {t : SM} {x : Int32} : (wfX t s).set 0 (.inr (5, (fSelf s).set 8 (.int x))) = wfX t (wX s 5 0 8 x) := rfl
theorem u_planner1 {s : SX} {t : SM} {x : Int32} : (wfX t s).set 34 (.inr (0, (fPlanner s).set 1 (.int x))) = wfX t (wX s 6 0 1 x) := rfl
theorem u_planner2 {s : SX} {t : SM} {x : Int32} : (wfX t s).set 34 (.inr (0, (fPlanner s).set 2 (.int x))) = wfX t (wX s 6 0 2 x) := rfl
theorem u_planner3 {s : SX} {t : SM} {x : Int32} : (wfX t s).set 34 (.inr (0, (fPlanner s).set 3 (.int x))) = wfX t (wX s 6 0 3 x) := rfl
theorem u_route5 {s : SX} {t : SM} {x : Int32} : (wfX t s).set 46 (.inr (2, (fRoute s).set 5 (.int x))) = wfX t (wX s 7 0 5 x) := rfl
theorem u_routearr1 {s : SX} {t : SM} {f : Nat → Int32} : (wfX t s).set 58 (.inl (0, 14, .inl f)) = wfX t (rX s 7 1 f) := rfl
theorem u_routearr2 {s : SX} {t : SM} {f : Nat → Int32} : (wfX t s).set 59 (.inl (0, 14, .inl f)) = wfX t (rX s 7 2 f) := rfl
theorem u_routearr3 {s : SX} {t : SM} {f : Nat → Int32} : (wfX t s).set 60 (.inl (2, 256, .inl f)) = wfX t (rX s 7 3 f) := rfl
theorem u_routearr4 {s : SX} {t : SM} {f : Nat → Int32} : (wfX t s).set 61 (.inl (0, 8, .inl f)) = wfX t (rX s 7 4 f) := rfl
theorem u_tape1 {s : SX} {t : SM} {x : Int32} : (wfX t s).set 62 (.inr (4, (fTape s).set 1 (.int x))) = wfX t (wX s 8 0 1 x) := rfl
theorem u_tape2 {s : SX} {t : SM} {x : Int32} : (wfX t s).set 62 (.inr (4, (fTape s).set 2 (.int x))) = wfX t (wX s 8 0 2 x) := rfl
theorem u_tape3 {s : SX} {t : SM} {x : Int32} : (wfX t s).set 62 (.inr (4, (fTape s).set 3 (.int x))) = wfX t (wX s 8 0 3 x) := rfl
theorem u_tape4 {s : SX} {t : SM} {x : Int32} : (wfX t s).set 62 (.inr (4, (fTape s).set 4 (.int x))) = wfX t (wX s 8 0 4 x) := rfl
theorem u_tape5 {s : SX} {t : SM} {x : Int32} : (wfX t s).set 62 (.inr (4, (fTape s).set 5 (.int x))) = wfX t (wX s 8 0 5 x) := rfl
theorem u_tapearr {s : SX} {t : SM} {f : Nat → Int32} : (wfX t s).set 63 (.inl (0, 120, .inl f)) = wfX t (rX s 8 1 f) := rfl
theorem u_ans {s : SX} {t : SM} {f : Nat → Int32} : (wfX t s).set 65 (.inl (0, 7, .inl f)) = wfX t (rX s 5 1 f) := rfl
theorem u_sheet1 {i : Nat} {s : SX} {t : SM} {x : Int32} (hi : i < 4) : (wfX t s).set (sb i) (.inr (3, (fSheet i s).set 1 (.int x))) = wfX t (wX s (9 + i) 0 1 x) := by
  rcases i with _ | _ | _ | _ | i
  · rfl
  · rfl
  · rfl
  · rfl
  · omega
theorem u_sheet2 {i : Nat} {s : SX} {t : SM} {x : Int32} (hi : i < 4) : (wfX t s).set (sb i) (.inr (3, (fSheet i s).set 2 (.int x))) = wfX t (wX s (9 + i) 0 2 x) := by
  rcases i with _ | _ | _ | _ | i
  · rfl
  · rfl
  · rfl
  · rfl
  · omega
theorem u_snum {i : Nat} {s : SX} {t : SM} {f : Nat → Int64} (hi : i < 4) : (wfX t s).set (sb i + 1) (.inl (1, 40, .inr (.inl f))) = wfX t (rL s i f) := by
  rcases i with _ | _ | _ | _ | i
  · rfl
  · rfl
  · rfl
  · rfl
  · omega
set_option maxRecDepth 100000 in
theorem u_M1 {s : SX} {t : SM} {x : Int32} : (wfM s t).set mb (.inr (6, (fModel t).set 1 (.int x))) = wfM s (wM t 0 1 x) := rfl
set_option maxRecDepth 100000 in
theorem u_M5 {s : SX} {t : SM} {x : Int32} : (wfM s t).set mb (.inr (6, (fModel t).set 5 (.int x))) = wfM s (wM t 0 5 x) := rfl
set_option maxRecDepth 100000 in
theorem u_M11 {s : SX} {t : SM} {x : Int32} : (wfM s t).set mb (.inr (6, (fModel t).set 11 (.int x))) = wfM s (wM t 0 11 x) := rfl
set_option maxRecDepth 100000 in
theorem u_M14 {s : SX} {t : SM} {x : Int32} : (wfM s t).set mb (.inr (6, (fModel t).set 14 (.int x))) = wfM s (wM t 0 14 x) := rfl
set_option maxRecDepth 100000 in
theorem u_M15 {s : SX} {t : SM} {x : Int32} : (wfM s t).set mb (.inr (6, (fModel t).set 15 (.int x))) = wfM s (wM t 0 15 x) := rfl
set_option maxRecDepth 100000 in
theorem u_M16 {s : SX} {t : SM} {x : Int32} : (wfM s t).set mb (.inr (6, (fModel t).set 16 (.int x))) = wfM s (wM t 0 16 x) := rfl
set_option maxRecDepth 100000 in
theorem u_M17 {s : SX} {t : SM} {x : Int32} : (wfM s t).set mb (.inr (6, (fModel t).set 17 (.int x))) = wfM s (wM t 0 17 x) := rfl
set_option maxRecDepth 100000 in
theorem u_M18 {s : SX} {t : SM} {x : Int32} : (wfM s t).set mb (.inr (6, (fModel t).set 18 (.int x))) = wfM s (wM t 0 18 x) := rfl
set_option maxRecDepth 100000 in
theorem u_M19 {s : SX} {t : SM} {x : Int32} : (wfM s t).set mb (.inr (6, (fModel t).set 19 (.int x))) = wfM s (wM t 0 19 x) := rfl
set_option maxRecDepth 100000 in
theorem u_M23 {s : SX} {t : SM} {x : Int32} : (wfM s t).set mb (.inr (6, (fModel t).set 23 (.int x))) = wfM s (wM t 0 23 x) := rfl
set_option maxRecDepth 100000 in
theorem u_M25 {s : SX} {t : SM} {x : Int32} : (wfM s t).set mb (.inr (6, (fModel t).set 25 (.int x))) = wfM s (wM t 0 25 x) := rfl
set_option maxRecDepth 100000 in
theorem u_M26 {s : SX} {t : SM} {x : Int32} : (wfM s t).set mb (.inr (6, (fModel t).set 26 (.int x))) = wfM s (wM t 0 26 x) := rfl
set_option maxRecDepth 100000 in
theorem u_M27 {s : SX} {t : SM} {x : Int32} : (wfM s t).set mb (.inr (6, (fModel t).set 27 (.int x))) = wfM s (wM t 0 27 x) := rfl
set_option maxRecDepth 100000 in
theorem u_M28 {s : SX} {t : SM} {x : Int32} : (wfM s t).set mb (.inr (6, (fModel t).set 28 (.int x))) = wfM s (wM t 0 28 x) := rfl
set_option maxRecDepth 100000 in
theorem u_M29 {s : SX} {t : SM} {x : Int64} : (wfM s t).set mb (.inr (6, (fModel t).set 29 (.long x))) = wfM s (wN t 0 29 x) := rfl
set_option maxRecDepth 100000 in
theorem u_M30 {s : SX} {t : SM} {x : Int32} : (wfM s t).set mb (.inr (6, (fModel t).set 30 (.int x))) = wfM s (wM t 0 30 x) := rfl
set_option maxRecDepth 100000 in
theorem u_M31 {s : SX} {t : SM} {x : Int32} : (wfM s t).set mb (.inr (6, (fModel t).set 31 (.int x))) = wfM s (wM t 0 31 x) := rfl
set_option maxRecDepth 100000 in
theorem u_M38 {s : SX} {t : SM} {x : Int32} : (wfM s t).set mb (.inr (6, (fModel t).set 38 (.int x))) = wfM s (wM t 0 38 x) := rfl
set_option maxRecDepth 100000 in
theorem u_M39 {s : SX} {t : SM} {x : Int32} : (wfM s t).set mb (.inr (6, (fModel t).set 39 (.int x))) = wfM s (wM t 0 39 x) := rfl
set_option maxRecDepth 100000 in
theorem u_marr1 {s : SX} {t : SM} {f : Nat → Int32} : (wfM s t).set (mb + 1) (.inl (0, 6, .inl f)) = wfM s (rM t 1 f) := rfl
set_option maxRecDepth 100000 in
theorem u_marr2 {s : SX} {t : SM} {f : Nat → Int32} : (wfM s t).set (mb + 2) (.inl (0, 14, .inl f)) = wfM s (rM t 2 f) := rfl
set_option maxRecDepth 100000 in
theorem u_marr3 {s : SX} {t : SM} {f : Nat → Int32} : (wfM s t).set (mb + 3) (.inl (0, 14, .inl f)) = wfM s (rM t 3 f) := rfl
set_option maxRecDepth 100000 in
theorem u_marr4 {s : SX} {t : SM} {f : Nat → Int32} : (wfM s t).set (mb + 4) (.inl (0, 14, .inl f)) = wfM s (rM t 4 f) := rfl
set_option maxRecDepth 100000 in
theorem u_marr5 {s : SX} {t : SM} {f : Nat → Int32} : (wfM s t).set (mb + 5) (.inl (0, 12, .inl f)) = wfM s (rM t 5 f) := rfl
set_option maxRecDepth 100000 in
theorem u_marr6 {s : SX} {t : SM} {f : Nat → Int32} : (wfM s t).set (mb + 6) (.inl (0, 12, .inl f)) = wfM s (rM t 6 f) := rfl
set_option maxRecDepth 100000 in
theorem u_marr7 {s : SX} {t : SM} {f : Nat → Int32} : (wfM s t).set (mb + 7) (.inl (0, 12, .inl f)) = wfM s (rM t 7 f) := rfl
set_option maxRecDepth 100000 in
theorem u_marr8 {s : SX} {t : SM} {f : Nat → Int32} : (wfM s t).set (mb + 8) (.inl (0, 12, .inl f)) = wfM s (rM t 8 f) := rfl
set_option maxRecDepth 100000 in
theorem u_marr9 {s : SX} {t : SM} {f : Nat → Int32} : (wfM s t).set (mb + 9) (.inl (0, 82, .inl f)) = wfM s (rM t 9 f) := rfl
set_option maxRecDepth 100000 in
theorem u_marr10 {s : SX} {t : SM} {f : Nat → Int32} : (wfM s t).set (mb + 10) (.inl (0, 7, .inl f)) = wfM s (rM t 10 f) := rfl
set_option maxRecDepth 100000 in
theorem u_marr11 {s : SX} {t : SM} {f : Nat → Int32} : (wfM s t).set (mb + 11) (.inl (0, 36, .inl f)) = wfM s (rM t 11 f) := rfl
set_option maxRecDepth 100000 in
theorem u_marr12 {s : SX} {t : SM} {f : Nat → Int32} : (wfM s t).set (mb + 12) (.inl (0, 8, .inl f)) = wfM s (rM t 12 f) := rfl
set_option maxRecDepth 100000 in
theorem u_marr13 {s : SX} {t : SM} {f : Nat → Int32} : (wfM s t).set (mb + 13) (.inl (0, 8, .inl f)) = wfM s (rM t 13 f) := rfl
set_option maxRecDepth 100000 in
theorem u_marr14 {s : SX} {t : SM} {f : Nat → Int32} : (wfM s t).set (mb + 14) (.inl (2, 256, .inl f)) = wfM s (rM t 14 f) := rfl
set_option maxRecDepth 100000 in
theorem u_marr15 {s : SX} {t : SM} {f : Nat → Int32} : (wfM s t).set (mb + 15) (.inl (0, 120, .inl f)) = wfM s (rM t 15 f) := rfl
set_option maxRecDepth 100000 in
theorem u_marr16 {s : SX} {t : SM} {f : Nat → Int32} : (wfM s t).set (mb + 16) (.inl (0, 4, .inl f)) = wfM s (rM t 16 f) := rfl
set_option maxRecDepth 100000 in
theorem u_marr17 {s : SX} {t : SM} {f : Nat → Int32} : (wfM s t).set (mb + 17) (.inl (0, 4, .inl f)) = wfM s (rM t 17 f) := rfl
set_option maxRecDepth 100000 in
theorem u_marr18 {s : SX} {t : SM} {f : Nat → Int64} : (wfM s t).set (mb + 18) (.inl (1, 160, .inr (.inl f))) = wfM s (rN t 18 f) := rfl
set_option maxRecDepth 100000 in
theorem u_marr19 {s : SX} {t : SM} {f : Nat → Int64} : (wfM s t).set (mb + 19) (.inl (1, 40, .inr (.inl f))) = wfM s (rN t 19 f) := rfl
set_option maxRecDepth 100000 in
theorem u_marr20 {s : SX} {t : SM} {f : Nat → Int32} : (wfM s t).set (mb + 20) (.inl (0, 150, .inl f)) = wfM s (rM t 20 f) := rfl
set_option maxRecDepth 100000 in
theorem u_marr21 {s : SX} {t : SM} {f : Nat → Int32} : (wfM s t).set (mb + 21) (.inl (0, 150, .inl f)) = wfM s (rM t 21 f) := rfl
set_option maxRecDepth 100000 in
theorem u_marr22 {s : SX} {t : SM} {f : Nat → Int32} : (wfM s t).set (mb + 22) (.inl (0, 2, .inl f)) = wfM s (rM t 22 f) := rfl
set_option maxRecDepth 100000 in
theorem u_marr {a : Nat} {s : SX} {t : SM} {f : Nat → Int32} (ha : arrM a) : (wfM s t).set (mb + a) (.inl (0, lenM a, .inl f)) = wfM s (rM t a f) := by
  simp only [arrM, List.mem_cons, List.not_mem_nil, or_false] at ha
  rcases ha with rfl | rfl | rfl | rfl | rfl | rfl | rfl | rfl | rfl | rfl | rfl | rfl | rfl | rfl | rfl | rfl | rfl | rfl | rfl <;> rfl
