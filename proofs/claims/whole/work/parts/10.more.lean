/-! ===== rows that the program's proofs use ===== -/
def inB (i : Int32) (n : Nat) : Bool := decide (0 ≤ i.toInt) && decide (i.toInt < n)
theorem inB_use {i : Int32} {n : Nat} (h : inB i n = true) : vp_in i n := by
  simp only [inB, Bool.and_eq_true, decide_eq_true_eq] at h
  exact vp_in_iff.mpr h
def z01 (x : Int32) : Bool := decide (x = 0) || decide (x = 1)
theorem z01_use {x : Int32} (h : z01 x = true) : x = 0 ∨ x = 1 := by
  simp only [z01, Bool.or_eq_true, decide_eq_true_eq] at h
  exact h
theorem ite_s {α : Type} {c : Prop} [Decidable c] {a b : Option α} {r : α} (h : (if c then a else b) = some r) : (c ∧ a = some r) ∨ (¬ c ∧ b = some r) := by
  by_cases hc : c
  · rw [if_pos hc] at h; exact Or.inl ⟨hc, h⟩
  · rw [if_neg hc] at h; exact Or.inr ⟨hc, h⟩
theorem grd_s {α : Type} {c : Prop} [Decidable c] {a : Option α} {r : α} (h : (if c then a else none) = some r) : c ∧ a = some r := by
  rcases ite_s h with h | ⟨-, h⟩
  · exact h
  · cases h
theorem bnd_s {α β : Type} {a : Option α} {f : α → Option β} {r : β} (h : a.bind f = some r) : ∃ x, a = some x ∧ f x = some r := Option.bind_eq_some_iff.mp h
def wkL : List (Option Value) → List (Option Value) → Prop
  | [], [] => True
  | a :: l, b :: l' => (b = none ∨ b = a) ∧ wkL l l'
  | _, _ => False
theorem wkL_len : ∀ {L L' : List (Option Value)}, wkL L L' → L'.length = L.length
  | [], [], _ => rfl
  | _ :: l, _ :: l', h => by rw [List.length_cons, List.length_cons, wkL_len h.2]
theorem wkL_get : ∀ {L L' : List (Option Value)}, wkL L L' → ∀ (k : Nat) (v : Value), L'[k]? = some (some v) → L[k]? = some (some v)
  | [], [], _, k, v, h => by simp at h
  | a :: l, b :: l', h, k, v, hk => by
    cases k with
    | zero =>
      simp at hk
      rcases h.1 with h1 | h1
      · rw [h1] at hk; cases hk
      · rw [h1] at hk; simp [hk]
    | succ k =>
      simp at hk ⊢
      exact wkL_get h.2 k v hk
section MMR
variable {l : Launch} {D : va_G} {cT : Nat → ClassId} {O : Own} {code : ByteArray} {nL fr lo Rc Rs : Nat} {g : GT} {bc bs : Nat}
theorem m_jT (M : MB l D cT O code nL fr lo Rc Rs g) {i : Instr} {pc : Nat} (tgt : Nat) {off : Int} {L : List (Option Value)} {st st' : List Value} {w : Wd} {C : Prop} (hd : decode code pc = .ok (i, 3)) (hs : aB i st = some (C, off, st')) (ht : (pc : Int) + off = (tgt : Int)) (h : C) (k : g bc bs w tgt L st') : g bc bs w pc L st :=
  m_br M hd hs ht (fun _ => k) (fun n => absurd h n)
theorem m_jF (M : MB l D cT O code nL fr lo Rc Rs g) {i : Instr} {pc : Nat} (tgt : Nat) {off : Int} {L : List (Option Value)} {st st' : List Value} {w : Wd} {C : Prop} (hd : decode code pc = .ok (i, 3)) (hs : aB i st = some (C, off, st')) (ht : (pc : Int) + off = (tgt : Int)) (h : ¬ C) (k : g bc bs w (pc + 3) L st') : g bc bs w pc L st :=
  m_br M hd hs ht (fun n => absurd n h) (fun _ => k)
theorem m_wk (M : MB l D cT O code nL fr lo Rc Rs g) {pc : Nat} {L : List (Option Value)} (L' : List (Option Value)) {st : List Value} {w : Wd} (h : wkL L L') (k : g bc bs w pc L' st) : g bc bs w pc L st := by
  obtain ⟨p, e, R, s, m, args, below, meth, c, q0, w0, sz, Q, h1, h2, h3, h4, h5, h6, hxs, rfl⟩ := M
  intro q H locs ls cells slots a1 a2 a3 a4 a5 a6 a7
  refine k q H locs ls cells slots a1 a2 a3 a4 ⟨⟨a5.1.1, a5.1.2.1, fun x hx => a5.1.2.2 x ?_⟩, (wkL_len h).trans a5.2⟩ a6 a7
  obtain ⟨k9, v, hk, rfl⟩ := (lvl_mem _ _ _).mp hx
  exact (lvl_mem _ _ _).mpr ⟨k9, v, wkL_get h k9 v hk, rfl⟩
theorem nn32 {z : Int32} (hz : ¬ z < 0) : z.toInt = (z.toNatClampNeg : Int) := by
  have hz0 : (0 : Int) ≤ z.toInt := by
    have := Int32.not_lt.mp hz
    simpa using Int32.le_iff_toInt_le.mp this
  show z.toInt = ((z.toInt.toNat : Nat) : Int)
  omega
/-- the places that System.arraycopy asks for -/
def cpB (sp dp n : Int32) (n0 n1 : Nat) : Bool := decide (0 ≤ sp.toInt) && (decide (0 ≤ dp.toInt) && (decide (0 ≤ n.toInt) && (decide (sp.toInt + n.toInt ≤ n0) && decide (dp.toInt + n.toInt ≤ n1))))
theorem cpB_use {sp dp n : Int32} {n0 n1 : Nat} (h : cpB sp dp n n0 n1 = true) : ¬ sp < 0 ∧ ¬ dp < 0 ∧ ¬ n < 0 ∧ sp.toNatClampNeg + n.toNatClampNeg ≤ n0 ∧ dp.toNatClampNeg + n.toNatClampNeg ≤ n1 := by
  simp only [cpB, Bool.and_eq_true, decide_eq_true_eq] at h
  obtain ⟨a, b, c, d, e⟩ := h
  have n0 : ∀ z : Int32, 0 ≤ z.toInt → ¬ z < 0 := fun z hz q => by
    have := Int32.lt_iff_toInt_lt.mp q
    rw [Int32.toInt_zero] at this
    omega
  have h1 := nn32 (n0 sp a)
  have h2 := nn32 (n0 dp b)
  have h3 := nn32 (n0 n c)
  exact ⟨n0 _ a, n0 _ b, n0 _ c, by omega, by omega⟩
def cpW (own : String) (ix : Nat) : Prop := Cond.methodLink own ix arraycopyName ∈ gw ∧ Cond.native arraycopyName ∈ gw ∧ Cond.static arraycopyName ∈ gw ∧ Cond.initialized "java/lang/System" ∈ gw
theorem m_cpI (M : MB l D cT O code nL fr lo Rc Rs g) {ix pc a b n0 n1 : Nat} {f h : Nat → Int32} {sp dp n : Int32} {L : List (Option Value)} {rest : List Value} {w w2 : Wd} (hw : cpW O.1 ix) (ha : wA w a = some (.inl (0, n0, .inl f))) (hb' : wA w b = some (.inl (0, n1, .inl h))) (hB : cpB sp dp n n0 n1 = true) (hfr : 1 ≤ fr) (hlo : (rest.map fun v => v.category).sum + (nativeFrameWords "java/lang/System" "arraycopy" 5 + 11) ≤ lo) (hd : decode code pc = .ok (.invokestatic ix, 3))
    (hw2 : w.set b (.inr (.inl (0, n1, .inl (va_cpy f h sp.toNatClampNeg dp.toNatClampNeg n.toNatClampNeg)))) = w2) (k : g bc bs w2 (pc + 3) L rest) : g bc bs w pc L (.int n :: .int dp :: .ref b :: .int sp :: .ref a :: rest) := by
  obtain ⟨p, e, R, s, m, args, below, meth, c, q0, w0, sz, Q, ⟨hx, hb, hml, hown, hts, hK, hlk, hsz⟩, h2, h3, h4, h5, h6, hxs, rfl⟩ := M
  obtain ⟨l1, l2, l3, l4⟩ := hw
  obtain ⟨c1, c2, c3, c4, c5⟩ := cpB_use hB
  subst hw2
  intro q H locs ls cells slots a1 a2 a3 a4 a5 a6 a7
  obtain ⟨j0, hj0⟩ := cn_get (cT := cT) (q := q) ha
  obtain ⟨j1, hj1⟩ := cn_get (cT := cT) (q := q) hb'
  exact va_copyi hx hb (hml.trans a5.1.1.symm) hown (hts _ l1) (hts _ l2) (hts _ l3) (hts _ l4) hK.1 a2.P a3.D a4 j0 j1 0 0 hj0 hj1 rfl rfl rfl c1 c2 c3 c4 c5 (fun _ _ => rfl) (by rw [h3]; exact hfr) (by rw [h4, cats]; exact hlo) hd (fun H1 locs1 b1 _ b3 => k q H1 locs1 ls cells slots (a1.set hb' _) (RP.back (e := .inl (0, n1, .inl (va_cpy f h sp.toNatClampNeg dp.toNatClampNeg n.toNatClampNeg))) a3 hb' hj1 b1) (a3.set hb' _) b3 a5 a6 a7)
theorem m_cpL (M : MB l D cT O code nL fr lo Rc Rs g) {ix pc a b n0 n1 : Nat} {f h : Nat → Int64} {sp dp n : Int32} {L : List (Option Value)} {rest : List Value} {w w2 : Wd} (hw : cpW O.1 ix) (ha : wA w a = some (.inl (1, n0, .inr (.inl f)))) (hb' : wA w b = some (.inl (1, n1, .inr (.inl h)))) (hB : cpB sp dp n n0 n1 = true) (hfr : 1 ≤ fr) (hlo : (rest.map fun v => v.category).sum + (nativeFrameWords "java/lang/System" "arraycopy" 5 + 11) ≤ lo) (hd : decode code pc = .ok (.invokestatic ix, 3))
    (hw2 : w.set b (.inr (.inl (1, n1, .inr (.inl (va_cpy f h sp.toNatClampNeg dp.toNatClampNeg n.toNatClampNeg))))) = w2) (k : g bc bs w2 (pc + 3) L rest) : g bc bs w pc L (.int n :: .int dp :: .ref b :: .int sp :: .ref a :: rest) := by
  obtain ⟨p, e, R, s, m, args, below, meth, c, q0, w0, sz, Q, ⟨hx, hb, hml, hown, hts, hK, hlk, hsz⟩, h2, h3, h4, h5, h6, hxs, rfl⟩ := M
  obtain ⟨l1, l2, l3, l4⟩ := hw
  obtain ⟨c1, c2, c3, c4, c5⟩ := cpB_use hB
  subst hw2
  intro q H locs ls cells slots a1 a2 a3 a4 a5 a6 a7
  obtain ⟨j0, hj0⟩ := cn_get (cT := cT) (q := q) ha
  obtain ⟨j1, hj1⟩ := cn_get (cT := cT) (q := q) hb'
  exact va_copyl hx hb (hml.trans a5.1.1.symm) hown (hts _ l1) (hts _ l2) (hts _ l3) (hts _ l4) hK.1 a2.P a3.D a4 j0 j1 1 1 hj0 hj1 rfl rfl rfl c1 c2 c3 c4 c5 (fun _ _ => rfl) (by rw [h3]; exact hfr) (by rw [h4, cats]; exact hlo) hd (fun H1 locs1 b1 _ b3 => k q H1 locs1 ls cells slots (a1.set hb' _) (RP.back (e := .inl (1, n1, .inr (.inl (va_cpy f h sp.toNatClampNeg dp.toNatClampNeg n.toNatClampNeg)))) a3 hb' hj1 b1) (a3.set hb' _) b3 a5 a6 a7)
/-! a reference, and none -/
theorem m_nnR (M : MB l D cT O code nL fr lo Rc Rs g) {pc a : Nat} (tgt : Nat) {off : Int} {L : List (Option Value)} {rest : List Value} {w : Wd} (hd : decode code pc = .ok (.ifnonnull off, 3)) (ht : (pc : Int) + off = (tgt : Int)) (k : g bc bs w tgt L rest) : g bc bs w pc L (.ref a :: rest) := by
  obtain ⟨p, e, R, s, m, args, below, meth, c, q0, w0, sz, Q, ⟨hx, hb, hml, hown, hts, hK, hlk, hsz⟩, h2, h3, h4, h5, h6, hxs, rfl⟩ := M
  exact gg_stk (fun q _ _ _ _ _ _ _ kk => lv_ifnonnull hx hb hd ht kk) k
theorem m_nnN (M : MB l D cT O code nL fr lo Rc Rs g) {pc : Nat} {off : Int} {L : List (Option Value)} {rest : List Value} {w : Wd} (hd : decode code pc = .ok (.ifnonnull off, 3)) (k : g bc bs w (pc + 3) L rest) : g bc bs w pc L (.null :: rest) := by
  obtain ⟨p, e, R, s, m, args, below, meth, c, q0, w0, sz, Q, ⟨hx, hb, hml, hown, hts, hK, hlk, hsz⟩, h2, h3, h4, h5, h6, hxs, rfl⟩ := M
  exact gg_stk (fun q _ _ _ _ _ _ _ kk => lv_ifnonnullN hx hb hd kk) k
end MMR
/-! one step at a cell whose name isn't a numeral -/
theorem s_getf {O : Own} {ix pc k ci j : Nat} {nest : Bool} {fs : List Value} {v : Value} {L : List (Option Value)} {st : List Value} {w : Wd} (hw : wA w k = some (.inr (ci, fs))) (hl : lkp O.2.1 ix = some (nest, ci, j)) (hv : fs[j]? = some v) : aR O [(pc, .getfield ix, 0)] (pc, L, .ref k :: st, w) = some (True, pc + 3, L, v :: st, w) := by
  simp [aR, aS, h_getf, hl, hw, hv]
theorem s_lald {O : Own} {pc k n : Nat} {f : Nat → Int64} {i : Int32} {L : List (Option Value)} {st : List Value} {w : Wd} (hw : wA w k = some (.inl (1, n, .inr (.inl f)))) : aR O [(pc, .laload, 0)] (pc, L, .int i :: .ref k :: st, w) = some (vp_in i n ∧ True, pc + 1, L, .long (f i.toNatClampNeg) :: st, w) := by
  simp [aR, aS, h_lald, hw]
theorem s_last {O : Own} {pc k n : Nat} {f : Nat → Int64} {i : Int32} {x : Int64} {L : List (Option Value)} {st : List Value} {w w2 : Wd} (hw : wA w k = some (.inl (1, n, .inr (.inl f)))) (h2 : w.set k (.inr (.inl (1, n, .inr (.inl (vp_updL f i.toNatClampNeg x))))) = w2) : aR O [(pc, .lastore, 0)] (pc, L, .long x :: .int i :: .ref k :: st, w) = some (vp_in i n ∧ True, pc + 1, L, st, w2) := by
  simp [aR, aS, h_last, hw, h2]
theorem inB_lt {i : Int32} {n : Nat} (h : inB i n = true) : i.toNatClampNeg < n := by
  have := inB_use h
  exact Nat.not_le.mp fun q => this (Or.inr q)
theorem lt8 {j : Nat} (h : j < 8) : j = 0 ∨ j = 1 ∨ j = 2 ∨ j = 3 ∨ j = 4 ∨ j = 5 ∨ j = 6 ∨ j = 7 := by omega
def vb (b : Bool) (n : Nat) : Value := match b with
  | true => .ref n
  | false => .null
theorem s_aald {O : Own} {pc k t n b : Nat} {f : Nat → Option Nat} {i : Int32} {L : List (Option Value)} {st : List Value} {w : Wd} (hw : wA w k = some (.inl (t, n, .inr (.inr (.inr (.inr f)))))) (ht : (Nat.beq t 3 || Nat.beq t 4) = true) (hf : f i.toNatClampNeg = some b) : aR O [(pc, .aaload, 0)] (pc, L, .int i :: .ref k :: st, w) = some (vp_in i n ∧ True, pc + 1, L, .ref b :: st, w) := by
  simp [aR, aS, h_aald, hw, hf, ht]
/-- an array of references -/
def rfC (t n : Nat) (l : List Nat) : Nat ⊕ va_E := .inr (.inl (t, n, .inr (.inr (.inr (.inr (fun i => l[i]?))))))
theorem rS_rfC (ρ : List Nat) (B t n : Nat) (l : List Nat) : rS ρ B (rfC t n l) = rfC t n (l.map (rn ρ B)) := by
  unfold rfC rS rE tE tA
  simp only [List.getElem?_map]
theorem cg {α : Type} {a b : α} {l m : List α} (h : a = b) (h2 : l = m) : a :: l = b :: m := by rw [h, h2]
/-! a callee in the caller's own world -/
theorem rn_id (n j : Nat) : rn (List.range n) n j = j := by
  unfold rn
  rw [List.getD_eq_getElem?_getD]
  by_cases h : j < n
  · rw [List.getElem?_range h]; rfl
  · rw [List.getElem?_eq_none (by rw [List.length_range]; omega), if_neg h]; rfl
theorem tV_id {q : Nat → Nat} (h : ∀ j, q j = j) (v : Value) : tV q v = v := by cases v <;> simp [tV, h]
theorem tE_id {q : Nat → Nat} (h : ∀ j, q j = j) (e : va_E) : tE (fun t => t) q e = e := by
  obtain ⟨t, n, f | f | f | f | f⟩ | ⟨ci, fs⟩ := e
  · rfl
  · rfl
  · rfl
  · rfl
  · have : q = fun j => j := funext h
    subst this
    simp [tE, tA]
  · have : (fun v => tV q v) = fun v => v := funext (tV_id h)
    show Sum.inr (ci, fs.map (tV q)) = _
    rw [show tV q = fun v => v from this, List.map_id']
theorem rS_id (n : Nat) (x : Nat ⊕ va_E) : rS (List.range n) n x = x := by
  cases x with
  | inl a => rfl
  | inr e => exact congrArg Sum.inr (tE_id (rn_id n) e)
theorem hwId {w : Wd} {n : Nat} (h : w.length = n) : (List.take w.length (List.range n)).map (fun k => w[k]?) = w.map (fun x => some (rS (List.range n) w.length x)) := by
  subst h
  apply List.ext_getElem?
  intro i
  rw [List.getElem?_map, List.getElem?_map, List.getElem?_take]
  by_cases hi : i < w.length
  · rw [if_pos hi, List.getElem?_range hi, List.getElem?_eq_getElem hi]
    simp only [Option.map_some, rS_id, Option.some.injEq]
    exact List.getElem?_eq_getElem hi
  · rw [if_neg hi, List.getElem?_eq_none (by omega)]; rfl
theorem hpId {w w' : Wd} {n : Nat} (h : w.length = n) (h' : w'.length = n) : putL (List.take w.length (List.range n)) (w'.map (rS (List.range n) w.length)) w = w' := by
  subst h
  apply List.ext_getElem?
  intro i
  by_cases hi : i < w.length
  · rw [putL_in _ _ _ i i (List.Nodup.sublist (List.take_sublist _ _) List.nodup_range) (by rw [List.getElem?_take, if_pos hi, List.getElem?_range hi]) hi (by rw [List.length_map]; omega), List.getElem?_map]
    cases w'[i]? with
    | none => rfl
    | some x => simp [rS_id]
  · rw [List.getElem?_eq_none (by rw [putL_len]; omega), List.getElem?_eq_none (by omega)]
