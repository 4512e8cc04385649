/-! ===== what the states are ===== -/
abbrev AI : Type := Nat → Int32
abbrev AL : Type := Nat → Int64
/-- line, counts, lasts, kinds, amounts, people, laws, force, turns, seed -/
abbrev ShT : Type := AI × AI × AI × AI × AI × Int32 × Int32 × Int32 × Int32 × Int32
/-- bytes, size, start, end -/
abbrev TpT : Type := AI × Int32 × Int32 × Int32
/-- elements, sort, law, size -/
abbrev SlT : Type := AL × Int32 × Int32 × Int32
def cSh (b : Nat) (s : ShT) : Wd := [.inr (.inr (1, [.ref (b + 1), .ref (b + 2), .ref (b + 3), .ref (b + 4), .ref (b + 5), .int s.2.2.2.2.2.1, .int s.2.2.2.2.2.2.1, .int s.2.2.2.2.2.2.2.1, .int s.2.2.2.2.2.2.2.2.1, .int s.2.2.2.2.2.2.2.2.2])), .inr (.inl (0, 16, .inl s.1)), .inr (.inl (0, 16, .inl s.2.1)), .inr (.inl (0, 16, .inl s.2.2.1)), .inr (.inl (0, 6, .inl s.2.2.2.1)), .inr (.inl (0, 6, .inl s.2.2.2.2.1))]
def cTp (b : Nat) (s : TpT) : Wd := [.inr (.inr (2, [.ref (b + 1), .int s.2.1, .int s.2.2.1, .int s.2.2.2])), .inr (.inl (0, 250, .inl s.1))]
def cSl (b : Nat) (s : SlT) : Wd := [.inr (.inr (0, [.ref (b + 1), .int s.2.1, .int s.2.2.1, .int s.2.2.2])), .inr (.inl (1, 40, .inr (.inl s.1)))]
def fuel0 : Nat := 5000
/-- truth, kept, thought, the other thought, the tape, the shelves, the pack, the refusals, whether there is an image -/
def cX (tr kp th ot : ShT) (tp : TpT) (sl : Nat → SlT) (pk rf : AI) (ik : Int32) : Wd :=
  [.inr (.inr (3, [.ref 1, .ref 7, .ref 13, .ref 19, .ref 25, .ref 27, .ref 28, .ref 29, .int ik]))] ++ (cSh 1 tr ++ (cSh 7 kp ++ (cSh 13 th ++ (cSh 19 ot ++ (cTp 25 tp ++ ([rfC 3 8 [30, 32, 34, 36, 38, 40, 42, 44], .inr (.inl (0, 52, .inl pk)), .inr (.inl (0, 5, .inl rf))] ++ (cSl 30 (sl 0) ++ (cSl 32 (sl 1) ++ (cSl 34 (sl 2) ++ (cSl 36 (sl 3) ++ (cSl 38 (sl 4) ++ (cSl 40 (sl 5) ++ (cSl 42 (sl 6) ++ (cSl 44 (sl 7)))))))))))))))
theorem va_up_id {α : Type} (f : Nat → α) (k : Nat) : va_up f k (f k) = f := by
  funext j
  unfold va_up
  split
  next h => rw [h]
  next => rfl
theorem wX_so {j : Nat} (hj : j < 8) (tr kp th ot : ShT) (tp : TpT) (sl : Nat → SlT) (pk rf : AI) (ik : Int32) : wA (cX tr kp th ot tp sl pk rf ik) (30 + 2 * j) = some (.inr (0, [.ref (31 + 2 * j), .int (sl j).2.1, .int (sl j).2.2.1, .int (sl j).2.2.2])) := by
  rcases lt8 hj with rfl | rfl | rfl | rfl | rfl | rfl | rfl | rfl <;> rfl
theorem wX_sa {j : Nat} (hj : j < 8) (tr kp th ot : ShT) (tp : TpT) (sl : Nat → SlT) (pk rf : AI) (ik : Int32) : wA (cX tr kp th ot tp sl pk rf ik) (31 + 2 * j) = some (.inl (1, 40, .inr (.inl (sl j).1))) := by
  rcases lt8 hj with rfl | rfl | rfl | rfl | rfl | rfl | rfl | rfl <;> rfl
theorem fX_30 {j : Nat} (hj : j < 8) : ([30, 32, 34, 36, 38, 40, 42, 44] : List Nat)[j]? = some (30 + 2 * j) := by
  rcases lt8 hj with rfl | rfl | rfl | rfl | rfl | rfl | rfl | rfl <;> rfl
theorem rvX {j : Nat} (hj : j < 8) : rV (List.range 46) 46 (.ref (30 + 2 * j)) = .ref (30 + 2 * j) := by
  rcases lt8 hj with rfl | rfl | rfl | rfl | rfl | rfl | rfl | rfl <;> rfl
theorem wX_st {j : Nat} (hj : j < 8) (tr kp th ot : ShT) (tp : TpT) (sl : Nat → SlT) (pk rf : AI) (ik : Int32) (e : AL) : (cX tr kp th ot tp sl pk rf ik).set (31 + 2 * j) (.inr (.inl (1, 40, .inr (.inl e)))) = cX tr kp th ot tp (va_up sl j (e, (sl j).2.1, (sl j).2.2.1, (sl j).2.2.2)) pk rf ik := by
  rcases lt8 hj with rfl | rfl | rfl | rfl | rfl | rfl | rfl | rfl <;> rfl
theorem two_eq {a b c d : Value} (h1 : c = a) (h2 : d = b) : [b, a] = [d, c] := by rw [h1, h2]
theorem ts_out1 {x : Int32} (h0 : ¬ x = 0) : x.toInt < 0 ∨ 0 < x.toInt := by
  have g0 := lv_neT h0 (show (0 : Int32).toInt = 0 from rfl)
  omega
theorem ts_one1 {x : Int32} (h0 : ¬ x = 1) : x.toInt < 1 ∨ 1 < x.toInt := by
  have g0 := lv_neT h0 (show (1 : Int32).toInt = 1 from rfl)
  omega
theorem ts_out2 {x : Int32} (h0 : ¬ x = 0) (h1 : ¬ x = 1) : x.toInt < 0 ∨ 1 < x.toInt := by
  have g0 := lv_neT h0 (show (0 : Int32).toInt = 0 from rfl)
  have g1 := lv_neT h1 (show (1 : Int32).toInt = 1 from rfl)
  omega
theorem ts_one2 {x : Int32} (h0 : ¬ x = 1) (h1 : ¬ x = 2) : x.toInt < 1 ∨ 2 < x.toInt := by
  have g0 := lv_neT h0 (show (1 : Int32).toInt = 1 from rfl)
  have g1 := lv_neT h1 (show (2 : Int32).toInt = 2 from rfl)
  omega
theorem ts_out3 {x : Int32} (h0 : ¬ x = 0) (h1 : ¬ x = 1) (h2 : ¬ x = 2) : x.toInt < 0 ∨ 2 < x.toInt := by
  have g0 := lv_neT h0 (show (0 : Int32).toInt = 0 from rfl)
  have g1 := lv_neT h1 (show (1 : Int32).toInt = 1 from rfl)
  have g2 := lv_neT h2 (show (2 : Int32).toInt = 2 from rfl)
  omega
theorem ts_one3 {x : Int32} (h0 : ¬ x = 1) (h1 : ¬ x = 2) (h2 : ¬ x = 3) : x.toInt < 1 ∨ 3 < x.toInt := by
  have g0 := lv_neT h0 (show (1 : Int32).toInt = 1 from rfl)
  have g1 := lv_neT h1 (show (2 : Int32).toInt = 2 from rfl)
  have g2 := lv_neT h2 (show (3 : Int32).toInt = 3 from rfl)
  omega
theorem ts_out4 {x : Int32} (h0 : ¬ x = 0) (h1 : ¬ x = 1) (h2 : ¬ x = 2) (h3 : ¬ x = 3) : x.toInt < 0 ∨ 3 < x.toInt := by
  have g0 := lv_neT h0 (show (0 : Int32).toInt = 0 from rfl)
  have g1 := lv_neT h1 (show (1 : Int32).toInt = 1 from rfl)
  have g2 := lv_neT h2 (show (2 : Int32).toInt = 2 from rfl)
  have g3 := lv_neT h3 (show (3 : Int32).toInt = 3 from rfl)
  omega
theorem ts_one4 {x : Int32} (h0 : ¬ x = 1) (h1 : ¬ x = 2) (h2 : ¬ x = 3) (h3 : ¬ x = 4) : x.toInt < 1 ∨ 4 < x.toInt := by
  have g0 := lv_neT h0 (show (1 : Int32).toInt = 1 from rfl)
  have g1 := lv_neT h1 (show (2 : Int32).toInt = 2 from rfl)
  have g2 := lv_neT h2 (show (3 : Int32).toInt = 3 from rfl)
  have g3 := lv_neT h3 (show (4 : Int32).toInt = 4 from rfl)
  omega
theorem ts_out5 {x : Int32} (h0 : ¬ x = 0) (h1 : ¬ x = 1) (h2 : ¬ x = 2) (h3 : ¬ x = 3) (h4 : ¬ x = 4) : x.toInt < 0 ∨ 4 < x.toInt := by
  have g0 := lv_neT h0 (show (0 : Int32).toInt = 0 from rfl)
  have g1 := lv_neT h1 (show (1 : Int32).toInt = 1 from rfl)
  have g2 := lv_neT h2 (show (2 : Int32).toInt = 2 from rfl)
  have g3 := lv_neT h3 (show (3 : Int32).toInt = 3 from rfl)
  have g4 := lv_neT h4 (show (4 : Int32).toInt = 4 from rfl)
  omega
theorem ts_one5 {x : Int32} (h0 : ¬ x = 1) (h1 : ¬ x = 2) (h2 : ¬ x = 3) (h3 : ¬ x = 4) (h4 : ¬ x = 5) : x.toInt < 1 ∨ 5 < x.toInt := by
  have g0 := lv_neT h0 (show (1 : Int32).toInt = 1 from rfl)
  have g1 := lv_neT h1 (show (2 : Int32).toInt = 2 from rfl)
  have g2 := lv_neT h2 (show (3 : Int32).toInt = 3 from rfl)
  have g3 := lv_neT h3 (show (4 : Int32).toInt = 4 from rfl)
  have g4 := lv_neT h4 (show (5 : Int32).toInt = 5 from rfl)
  omega
theorem ts_out6 {x : Int32} (h0 : ¬ x = 0) (h1 : ¬ x = 1) (h2 : ¬ x = 2) (h3 : ¬ x = 3) (h4 : ¬ x = 4) (h5 : ¬ x = 5) : x.toInt < 0 ∨ 5 < x.toInt := by
  have g0 := lv_neT h0 (show (0 : Int32).toInt = 0 from rfl)
  have g1 := lv_neT h1 (show (1 : Int32).toInt = 1 from rfl)
  have g2 := lv_neT h2 (show (2 : Int32).toInt = 2 from rfl)
  have g3 := lv_neT h3 (show (3 : Int32).toInt = 3 from rfl)
  have g4 := lv_neT h4 (show (4 : Int32).toInt = 4 from rfl)
  have g5 := lv_neT h5 (show (5 : Int32).toInt = 5 from rfl)
  omega
theorem ts_one6 {x : Int32} (h0 : ¬ x = 1) (h1 : ¬ x = 2) (h2 : ¬ x = 3) (h3 : ¬ x = 4) (h4 : ¬ x = 5) (h5 : ¬ x = 6) : x.toInt < 1 ∨ 6 < x.toInt := by
  have g0 := lv_neT h0 (show (1 : Int32).toInt = 1 from rfl)
  have g1 := lv_neT h1 (show (2 : Int32).toInt = 2 from rfl)
  have g2 := lv_neT h2 (show (3 : Int32).toInt = 3 from rfl)
  have g3 := lv_neT h3 (show (4 : Int32).toInt = 4 from rfl)
  have g4 := lv_neT h4 (show (5 : Int32).toInt = 5 from rfl)
  have g5 := lv_neT h5 (show (6 : Int32).toInt = 6 from rfl)
  omega
theorem ts_out7 {x : Int32} (h0 : ¬ x = 0) (h1 : ¬ x = 1) (h2 : ¬ x = 2) (h3 : ¬ x = 3) (h4 : ¬ x = 4) (h5 : ¬ x = 5) (h6 : ¬ x = 6) : x.toInt < 0 ∨ 6 < x.toInt := by
  have g0 := lv_neT h0 (show (0 : Int32).toInt = 0 from rfl)
  have g1 := lv_neT h1 (show (1 : Int32).toInt = 1 from rfl)
  have g2 := lv_neT h2 (show (2 : Int32).toInt = 2 from rfl)
  have g3 := lv_neT h3 (show (3 : Int32).toInt = 3 from rfl)
  have g4 := lv_neT h4 (show (4 : Int32).toInt = 4 from rfl)
  have g5 := lv_neT h5 (show (5 : Int32).toInt = 5 from rfl)
  have g6 := lv_neT h6 (show (6 : Int32).toInt = 6 from rfl)
  omega
theorem ts_one7 {x : Int32} (h0 : ¬ x = 1) (h1 : ¬ x = 2) (h2 : ¬ x = 3) (h3 : ¬ x = 4) (h4 : ¬ x = 5) (h5 : ¬ x = 6) (h6 : ¬ x = 7) : x.toInt < 1 ∨ 7 < x.toInt := by
  have g0 := lv_neT h0 (show (1 : Int32).toInt = 1 from rfl)
  have g1 := lv_neT h1 (show (2 : Int32).toInt = 2 from rfl)
  have g2 := lv_neT h2 (show (3 : Int32).toInt = 3 from rfl)
  have g3 := lv_neT h3 (show (4 : Int32).toInt = 4 from rfl)
  have g4 := lv_neT h4 (show (5 : Int32).toInt = 5 from rfl)
  have g5 := lv_neT h5 (show (6 : Int32).toInt = 6 from rfl)
  have g6 := lv_neT h6 (show (7 : Int32).toInt = 7 from rfl)
  omega
theorem ts_out8 {x : Int32} (h0 : ¬ x = 0) (h1 : ¬ x = 1) (h2 : ¬ x = 2) (h3 : ¬ x = 3) (h4 : ¬ x = 4) (h5 : ¬ x = 5) (h6 : ¬ x = 6) (h7 : ¬ x = 7) : x.toInt < 0 ∨ 7 < x.toInt := by
  have g0 := lv_neT h0 (show (0 : Int32).toInt = 0 from rfl)
  have g1 := lv_neT h1 (show (1 : Int32).toInt = 1 from rfl)
  have g2 := lv_neT h2 (show (2 : Int32).toInt = 2 from rfl)
  have g3 := lv_neT h3 (show (3 : Int32).toInt = 3 from rfl)
  have g4 := lv_neT h4 (show (4 : Int32).toInt = 4 from rfl)
  have g5 := lv_neT h5 (show (5 : Int32).toInt = 5 from rfl)
  have g6 := lv_neT h6 (show (6 : Int32).toInt = 6 from rfl)
  have g7 := lv_neT h7 (show (7 : Int32).toInt = 7 from rfl)
  omega
theorem ts_one8 {x : Int32} (h0 : ¬ x = 1) (h1 : ¬ x = 2) (h2 : ¬ x = 3) (h3 : ¬ x = 4) (h4 : ¬ x = 5) (h5 : ¬ x = 6) (h6 : ¬ x = 7) (h7 : ¬ x = 8) : x.toInt < 1 ∨ 8 < x.toInt := by
  have g0 := lv_neT h0 (show (1 : Int32).toInt = 1 from rfl)
  have g1 := lv_neT h1 (show (2 : Int32).toInt = 2 from rfl)
  have g2 := lv_neT h2 (show (3 : Int32).toInt = 3 from rfl)
  have g3 := lv_neT h3 (show (4 : Int32).toInt = 4 from rfl)
  have g4 := lv_neT h4 (show (5 : Int32).toInt = 5 from rfl)
  have g5 := lv_neT h5 (show (6 : Int32).toInt = 6 from rfl)
  have g6 := lv_neT h6 (show (7 : Int32).toInt = 7 from rfl)
  have g7 := lv_neT h7 (show (8 : Int32).toInt = 8 from rfl)
  omega
theorem ts_out9 {x : Int32} (h0 : ¬ x = 0) (h1 : ¬ x = 1) (h2 : ¬ x = 2) (h3 : ¬ x = 3) (h4 : ¬ x = 4) (h5 : ¬ x = 5) (h6 : ¬ x = 6) (h7 : ¬ x = 7) (h8 : ¬ x = 8) : x.toInt < 0 ∨ 8 < x.toInt := by
  have g0 := lv_neT h0 (show (0 : Int32).toInt = 0 from rfl)
  have g1 := lv_neT h1 (show (1 : Int32).toInt = 1 from rfl)
  have g2 := lv_neT h2 (show (2 : Int32).toInt = 2 from rfl)
  have g3 := lv_neT h3 (show (3 : Int32).toInt = 3 from rfl)
  have g4 := lv_neT h4 (show (4 : Int32).toInt = 4 from rfl)
  have g5 := lv_neT h5 (show (5 : Int32).toInt = 5 from rfl)
  have g6 := lv_neT h6 (show (6 : Int32).toInt = 6 from rfl)
  have g7 := lv_neT h7 (show (7 : Int32).toInt = 7 from rfl)
  have g8 := lv_neT h8 (show (8 : Int32).toInt = 8 from rfl)
  omega
theorem ts_one9 {x : Int32} (h0 : ¬ x = 1) (h1 : ¬ x = 2) (h2 : ¬ x = 3) (h3 : ¬ x = 4) (h4 : ¬ x = 5) (h5 : ¬ x = 6) (h6 : ¬ x = 7) (h7 : ¬ x = 8) (h8 : ¬ x = 9) : x.toInt < 1 ∨ 9 < x.toInt := by
  have g0 := lv_neT h0 (show (1 : Int32).toInt = 1 from rfl)
  have g1 := lv_neT h1 (show (2 : Int32).toInt = 2 from rfl)
  have g2 := lv_neT h2 (show (3 : Int32).toInt = 3 from rfl)
  have g3 := lv_neT h3 (show (4 : Int32).toInt = 4 from rfl)
  have g4 := lv_neT h4 (show (5 : Int32).toInt = 5 from rfl)
  have g5 := lv_neT h5 (show (6 : Int32).toInt = 6 from rfl)
  have g6 := lv_neT h6 (show (7 : Int32).toInt = 7 from rfl)
  have g7 := lv_neT h7 (show (8 : Int32).toInt = 8 from rfl)
  have g8 := lv_neT h8 (show (9 : Int32).toInt = 9 from rfl)
  omega
/-- tape, told, tapeSize, here, token, from, figures, fault, statements -/
abbrev TkT : Type := AI × AI × Int32 × Int32 × Int32 × Int32 × Int32 × Int32 × Int32
/-- shelf, rowSort, rowSize, shown, moved, rows -/
abbrev SvT : Type := AI × AI × AI × AI × AL × (Nat → AL)
def cM (b : Nat) (s : ShT) (k : TkT) (v : SvT) (mf mo mn ma : AI) (kv tv : Value) : Wd := [.inr (.inr (4, [.ref (b + 1), .ref (b + 2), .ref (b + 3), .ref (b + 4), .ref (b + 5), .ref (b + 6), .ref (b + 7), .int k.2.2.1, .ref (b + 8), .int s.2.2.2.2.2.1, .ref (b + 9), .ref (b + 10), .ref (b + 11), .int s.2.2.2.2.2.2.1, .ref (b + 12), .ref (b + 13), .int s.2.2.2.2.2.2.2.1, .int s.2.2.2.2.2.2.2.2.1, .int s.2.2.2.2.2.2.2.2.2, kv, tv, .int k.2.2.2.1, .int k.2.2.2.2.1, .int k.2.2.2.2.2.1, .int k.2.2.2.2.2.2.1, .int k.2.2.2.2.2.2.2.1, .ref (b + 14), .int k.2.2.2.2.2.2.2.2, .ref (b + 15), .ref (b + 16), .ref (b + 17)])),
  .inr (.inl (0, 8, .inl v.1)), .inr (.inl (0, 8, .inl v.2.1)), .inr (.inl (0, 8, .inl v.2.2.1)), rfC 4 8 [b + 18, b + 19, b + 20, b + 21, b + 22, b + 23, b + 24, b + 25], .inr (.inl (1, 40, .inr (.inl v.2.2.2.2.1))), .inr (.inl (0, 8, .inl v.2.2.2.1)), .inr (.inl (0, 250, .inl k.1)), .inr (.inl (0, 8, .inl mf)), .inr (.inl (0, 16, .inl s.1)), .inr (.inl (0, 16, .inl s.2.1)), .inr (.inl (0, 16, .inl s.2.2.1)), .inr (.inl (0, 6, .inl s.2.2.2.1)), .inr (.inl (0, 6, .inl s.2.2.2.2.1)), .inr (.inl (0, 2, .inl k.2.1)), .inr (.inl (0, 999, .inl mo)), .inr (.inl (2, 52, .inl mn)), .inr (.inl (0, 52, .inl ma)),
  .inr (.inl (1, 40, .inr (.inl (v.2.2.2.2.2 0)))), .inr (.inl (1, 40, .inr (.inl (v.2.2.2.2.2 1)))), .inr (.inl (1, 40, .inr (.inl (v.2.2.2.2.2 2)))), .inr (.inl (1, 40, .inr (.inl (v.2.2.2.2.2 3)))), .inr (.inl (1, 40, .inr (.inl (v.2.2.2.2.2 4)))), .inr (.inl (1, 40, .inr (.inl (v.2.2.2.2.2 5)))), .inr (.inl (1, 40, .inr (.inl (v.2.2.2.2.2 6)))), .inr (.inl (1, 40, .inr (.inl (v.2.2.2.2.2 7))))]
theorem fM_18 {j : Nat} (hj : j < 8) : ([0 + 18, 0 + 19, 0 + 20, 0 + 21, 0 + 22, 0 + 23, 0 + 24, 0 + 25] : List Nat)[j]? = some (18 + j) := by
  rcases lt8 hj with rfl | rfl | rfl | rfl | rfl | rfl | rfl | rfl <;> rfl
theorem wM_ro {j : Nat} (hj : j < 8) (s : ShT) (k : TkT) (v : SvT) (mf mo mn ma : AI) (kv tv : Value) : wA (cM 0 s k v mf mo mn ma kv tv) (18 + j) = some (.inl (1, 40, .inr (.inl (v.2.2.2.2.2 j)))) := by
  rcases lt8 hj with rfl | rfl | rfl | rfl | rfl | rfl | rfl | rfl <;> rfl
theorem wM_st {j : Nat} (hj : j < 8) (s : ShT) (k : TkT) (v : SvT) (mf mo mn ma : AI) (kv tv : Value) (e : AL) : (cM 0 s k v mf mo mn ma kv tv).set (18 + j) (.inr (.inl (1, 40, .inr (.inl e)))) = cM 0 s k (v.1, v.2.1, v.2.2.1, v.2.2.2.1, v.2.2.2.2.1, va_up v.2.2.2.2.2 j e) mf mo mn ma kv tv := by
  rcases lt8 hj with rfl | rfl | rfl | rfl | rfl | rfl | rfl | rfl <;> rfl
