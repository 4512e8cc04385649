/-! ===== new cells ===== -/
def qN (q : Nat → Nat) (k a : Nat) : Nat → Nat := fun j => if j = k then a else q j
theorem qN_ne {q : Nat → Nat} {k a j : Nat} (h : j ≠ k) : qN q k a j = q j := if_neg h
theorem qN_at {q : Nat → Nat} {k a : Nat} : qN q k a k = a := if_pos rfl
theorem ab_lt {w : Wd} {k n : Nat} (hk : w[k]? = some (.inl n)) : k < w.length := (List.getElem?_eq_some_iff.mp hk).1
theorem ab_ne {w : Wd} {k n : Nat} (hk : w[k]? = some (.inl n)) {j : Nat} {e : va_E} (h : wA w j = some e) : j ≠ k := by
  intro z
  subst z
  rw [wA_iff, hk] at h
  cases h
theorem prs_use {w : Wd} {j : Nat} (h : prs w j = true) : (∃ e, wA w j = some e) ∨ w.length ≤ j := by
  rcases Bool.or_eq_true _ _ |>.mp h with h | h
  · exact Or.inl (Option.isSome_iff_exists.mp h)
  · exact Or.inr (Nat.le_of_ble_eq_true h)
theorem ab_q {w : Wd} {k n a : Nat} {q : Nat → Nat} (hk : w[k]? = some (.inl n)) : ∀ j, prs w j = true → qN q k a j = q j := fun j h => qN_ne (by
  rcases prs_use h with ⟨e, he⟩ | h
  · exact ab_ne hk he
  · have := ab_lt hk
    omega)
theorem RP.new {D : va_G} {cT : Nat → ClassId} {q : Nat → Nat} {w : Wd} {H1 : Heap} {k n a : Nat} {e x : va_E} (hk : w[k]? = some (.inl n)) (hN : NRW w) (hP : va_P D vwCl (cn cT q w ++ [(a, x)]) H1) (hx : tE cT (qN q k a) e = x) : RP D cT (qN q k a) (w.set k (.inr e)) H1 := by
  intro i y hi
  rw [wA_set (ab_lt hk)] at hi
  by_cases hik : i = k
  · rw [if_pos hik] at hi
    cases hi
    subst hik
    rw [qN_at, hx]
    exact hP (cn cT q w).length _ (by rw [List.getElem?_append_right (Nat.le_refl _), Nat.sub_self]; rfl)
  · rw [if_neg hik] at hi
    obtain ⟨j, hj⟩ := cn_get (cT := cT) (q := q) hi
    rw [qN_ne hik, tE_NR (ab_q hk) (hN i y hi)]
    exact hP j _ (by rw [List.getElem?_append_left (List.getElem?_eq_some_iff.mp hj).1]; exact hj)
theorem DP.new {A : Nat → Prop} {cT : Nat → ClassId} {q : Nat → Nat} {w : Wd} {k n a : Nat} {e x : va_E} (hk : w[k]? = some (.inl n)) (hD : DP A q w) (h : va_D A (cn cT q w ++ [(a, x)])) : DP A (qN q k a) (w.set k (.inr e)) := by
  have hlast : (cn cT q w ++ [(a, x)])[(cn cT q w).length]? = some (a, x) := by rw [List.getElem?_append_right (Nat.le_refl _), Nat.sub_self]; rfl
  have hold : ∀ i y, wA w i = some y → q i ≠ a := by
    intro i y hi hz
    obtain ⟨j, hj⟩ := cn_get (cT := cT) (q := q) hi
    have hl := (List.getElem?_eq_some_iff.mp hj).1
    have := h.1 j _ _ _ (by rw [List.getElem?_append_left hl]; exact hj) hlast hz
    omega
  refine ⟨fun i j y z hi hj hij => ?_, fun i y hi => ?_⟩
  · rw [wA_set (ab_lt hk)] at hi hj
    by_cases h1 : i = k <;> by_cases h2 : j = k
    · rw [h1, h2]
    · rw [if_neg h2] at hj
      rw [h1, qN_at, qN_ne h2] at hij
      exact absurd hij.symm (hold j z hj)
    · rw [if_neg h1] at hi
      rw [h2, qN_at, qN_ne h1] at hij
      exact absurd hij (hold i y hi)
    · rw [if_neg h1] at hi
      rw [if_neg h2] at hj
      rw [qN_ne h1, qN_ne h2] at hij
      exact hD.1 i j y z hi hj hij
  · rw [wA_set (ab_lt hk)] at hi
    by_cases h1 : i = k
    · rw [h1, qN_at]
      exact h.2 _ _ hlast
    · rw [if_neg h1] at hi
      rw [qN_ne h1]
      exact hD.2 i y hi
theorem Ext.new {q0 q : Nat → Nat} {w0 w : Wd} {k n a : Nat} {e : va_E} (hk : w[k]? = some (.inl n)) (h : Ext q0 w0 q w) : Ext q0 w0 (qN q k a) (w.set k (.inr e)) := by
  have hl := ab_lt hk
  refine ⟨fun j hj => ?_, fun j y hj => ?_, by rw [List.length_set]; exact h.2.2⟩
  · have hne : j ≠ k := by
      rcases hj with ⟨y, hy⟩ | hj
      · obtain ⟨y', hy'⟩ := h.2.1 j y hy
        exact ab_ne hk hy'
      · have := h.2.2
        omega
    rw [qN_ne hne]
    exact h.1 j hj
  · obtain ⟨y', hy'⟩ := h.2.1 j y hj
    exact ⟨y', by rw [wA_set hl, if_neg (ab_ne hk hy')]; exact hy'⟩
theorem tV_P {w : Wd} {q q' : Nat → Nat} (h : ∀ j, prs w j = true → q' j = q j) {v : Value} (hv : okP w v = true) : tV q' v = tV q v := by
  cases v with
  | ref j => exact congrArg Value.ref (h j hv)
  | _ => rfl
def rfL (w : Wd) (L : List (Option Value)) : Bool := L.all (fun o => match o with | some v => okP w v | none => true)
theorem lvl_P {w : Wd} {q q' : Nat → Nat} (h : ∀ j, prs w j = true → q' j = q j) : ∀ (L : List (Option Value)) (i : Nat), rfL w L = true → lvl q' i L = lvl q i L
  | [], _, _ => rfl
  | none :: L, i, hL => lvl_P h L (i + 1) (by simpa [rfL] using hL)
  | some v :: L, i, hL => by
    have h2 : okP w v = true ∧ rfL w L = true := by simpa [rfL] using hL
    show (i, tV q' v) :: lvl q' (i + 1) L = (i, tV q v) :: lvl q (i + 1) L
    rw [tV_P h h2.1, lvl_P h L (i + 1) h2.2]
theorem stk_P {w : Wd} {q q' : Nat → Nat} (h : ∀ j, prs w j = true → q' j = q j) {r : List Value} (hr : r.all (okP w) = true) : r.map (tV q') = r.map (tV q) := List.map_congr_left (fun v hv => tV_P h (List.all_eq_true.mp hr v hv))
theorem va_RA_one {U : State} {a b : ClassId} {ty : FieldType} (h1 : va_RA U a ty) (h2 : va_RA U b ty) : a = b := by
  cases ty with
  | object C =>
    obtain ⟨-, -, -, -, -, h3⟩ := h1
    obtain ⟨-, -, -, -, -, h4⟩ := h2
    exact Option.some.inj (h3.symm.trans h4)
  | _ => exact Option.some.inj (Eq.trans (Eq.symm h1) h2)
section ALC
variable {l : Launch} {D : va_G} {cT : Nat → ClassId} {O : Own} {code : ByteArray} {nL fr lo Rc Rs : Nat} {g : GT} {bc bs : Nat} {ret : Option FieldType} {E : Option Value → Wd → Prop}
variable {pc ix k N : Nat} {L : List (Option Value)} {rest st : List Value} {w : Wd}
/-- what is as it was behind a new cell -/
def ncW (w : Wd) (L : List (Option Value)) (rest : List Value) (k N : Nat) : Prop := w[k]? = some (.inl N) ∧ NRW w ∧ rfL w L = true ∧ rest.all (okP w) = true
theorem m_newa (M : MB l D cT O code nL fr lo Rc Rs g) {atype : ArrayType} (t : Nat) {ty : FieldType} {x : Int32} (a0 : vp_A) (hty : newarray.typeOf atype = ty) (htt : (tysOf cT)[t]? = some (cT t, ty)) (harr : Cond.arrayClass ty ∈ gw) (ha : ∀ cA : ClassId, vp_cell cA a0 = arrV cA N (fun _ => defaultValue ty)) (ht0 : ∀ q, tA q a0 = a0) (hn : ¬ x < 0) (hN : x.toNatClampNeg = N) (hby : N * componentBytes ty ≤ 536870912)
    (hw : ncW w L rest k N) (hb1 : bc + 1 ≤ Rc) (hb2 : bs + N ≤ Rs) (hd : decode code pc = .ok (.newarray atype, 2)) (kk : g (bc + 1) (bs + N) (w.set k (.inr (.inl (t, a0)))) (pc + 2) L (.ref k :: rest)) : g bc bs w pc L (.int x :: rest) := by
  obtain ⟨p, e, R, s, m, args, below, meth, c, q0, w0, sz, Q, ⟨hx, hb, hml, hown, hts, hK, hlk, hsz⟩, h2, h3, h4, h5, h6, hxs, rfl⟩ := M
  obtain ⟨hk, hNR, hrl, hrr⟩ := hw
  intro q H locs ls cells slots a1 a2 a3 a4 a5 a6 a7
  refine va_newa hx hb (by rw [hty]; exact hts _ harr) hty hK.1 a2.P (DP.D (cT := cT) a3) a4 (fun a h => Or.inr (by rw [hsz]; exact h)) ha hn hN hby (by omega) (by omega) hd (fun a cA H1 b1 b2 b3 b4 => ?_)
  have hc : cA = cT t := va_RA_one (b1.2 5 (cA, ty) rfl).2 (b1.2 t (cT t, ty) (by rw [List.getElem?_append_left (List.getElem?_eq_some_iff.mp htt).1]; exact htt)).2
  subst hc
  have := kk (qN q k a) H1 locs ls (cells + 1) (slots + N) (a1.new hk) (RP.new hk hNR b2 (by show (Sum.inl (cT t, tA _ a0) : va_E) = _; rw [ht0])) (DP.new hk a3 b3) b4 ⟨by rw [lvl_P (ab_q hk) L 0 hrl]; exact a5.1, a5.2⟩ (by omega) (by omega)
  rw [List.map_cons, stk_P (ab_q hk) hrr, show tV (qN q k a) (.ref k) = .ref a from congrArg Value.ref qN_at] at this
  exact this
theorem m_newq (M : MB l D cT O code nL fr lo Rc Rs g) {x : Int32} (hcl : Cond.classLink O.1 ix RX0 ∈ gw) (hn : ¬ x < 0) (hN : x.toNatClampNeg = N) (hby : N * 4 ≤ 536870912)
    (hw : ncW w L rest k N) (hb1 : bc + 1 ≤ Rc) (hb2 : bs + N ≤ Rs) (hd : decode code pc = .ok (.anewarray ix, 3)) (kk : g (bc + 1) (bs + N) (w.set k (.inr (.inl (3, N, .inr (.inr (.inr (.inr (fun _ => none)))))))) (pc + 3) L (.ref k :: rest)) : g bc bs w pc L (.int x :: rest) := by
  obtain ⟨p, e, R, s, m, args, below, meth, c, q0, w0, sz, Q, ⟨hx, hb, hml, hown, hts, hK, hlk, hsz⟩, h2, h3, h4, h5, h6, hxs, rfl⟩ := M
  obtain ⟨hk, hNR, hrl, hrr⟩ := hw
  intro q H locs ls cells slots a1 a2 a3 a4 a5 a6 a7
  refine va_newq hx hb hown (hts _ hcl) (va_AO.of hK.2.2.1) hK.1 a2.P (DP.D (cT := cT) a3) a4 (fun a h => Or.inr (by rw [hsz]; exact h)) hn hN hby (by omega) (by omega) hd (fun a cA H1 b1 b2 b3 b4 => ?_)
  have hc : cA = cT 3 := va_RA_one (b1.2 5 (cA, .object RX0) rfl).2 (b1.2 3 (cT 3, .object RX0) rfl).2
  subst hc
  have := kk (qN q k a) H1 locs ls (cells + 1) (slots + N) (a1.new hk) (RP.new hk hNR b2 rfl) (DP.new hk a3 b3) b4 ⟨by rw [lvl_P (ab_q hk) L 0 hrl]; exact a5.1, a5.2⟩ (by omega) (by omega)
  rw [List.map_cons, stk_P (ab_q hk) hrr, show tV (qN q k a) (.ref k) = .ref a from congrArg Value.ref qN_at] at this
  exact this
theorem m_new (M : MB l D cT O code nL fr lo Rc Rs g) (ci : Nat) (hci : ci < 5) (fs : List Value) (hcl : Cond.classLink O.1 ix (clR ci) ∈ gw) (hinst : Cond.instantiable (clR ci) (clN ci) ∈ gw) (hini : Cond.initialized (clR ci) ∈ gw) (hfs : ∀ j, j < clN ci → defaultValue (tyF ci j) = vp_V fs j) (ht0 : ∀ q, fs.map (tV q) = fs)
    (hw : ncW w L st k (clN ci)) (hb1 : bc + 1 ≤ Rc) (hb2 : bs + clN ci ≤ Rs) (hd : decode code pc = .ok (.new ix, 3)) (kk : g (bc + 1) (bs + clN ci) (w.set k (.inr (.inr (ci, fs)))) (pc + 3) L (.ref k :: st)) : g bc bs w pc L st := by
  obtain ⟨p, e, R, s, m, args, below, meth, c, q0, w0, sz, Q, ⟨hx, hb, hml, hown, hts, hK, hlk, hsz⟩, h2, h3, h4, h5, h6, hxs, rfl⟩ := M
  obtain ⟨hk, hNR, hrl, hrr⟩ := hw
  intro q H locs ls cells slots a1 a2 a3 a4 a5 a6 a7
  refine va_new hx hb hts (cl_gw hci) (tyF ci) (cl_ty hci) hown (hts _ hcl) (hts _ hinst) (hts _ hini) hK.1 a2.P (DP.D (cT := cT) a3) a4 (fun a h => Or.inr (by rw [hsz]; exact h)) (cl_get hci) hfs (by omega) (by omega) hd (fun a H1 b2 b3 b4 => ?_)
  have := kk (qN q k a) H1 locs ls (cells + 1) (slots + clN ci) (a1.new hk) (RP.new hk hNR b2 (by show (Sum.inr (ci, fs.map _) : va_E) = _; rw [ht0])) (DP.new hk a3 b3) b4 ⟨by rw [lvl_P (ab_q hk) L 0 hrl]; exact a5.1, a5.2⟩ (by omega) (by omega)
  rw [List.map_cons, stk_P (ab_q hk) hrr, show tV (qN q k a) (.ref k) = .ref a from congrArg Value.ref qN_at] at this
  exact this
theorem m_oin (M : MB l D cT O code nL fr lo Rc Rs g) {a : Nat} (hl : Cond.methodLink O.1 ix Lib.objectInit ∈ gw) (hi : Cond.instanceMethod Lib.objectInit ∈ gw) (hc : Cond.code Lib.objectInit ⟨#[0xb1]⟩ 1 none ∈ gw) (hfr : 1 ≤ fr) (hlo : (rest.map fun v => v.category).sum + 12 ≤ lo) (hd : decode code pc = .ok (.invokespecial ix, 3)) (kk : g bc bs w (pc + 3) L rest) : g bc bs w pc L (.ref a :: rest) := by
  obtain ⟨p, e, R, s, m, args, below, meth, c, q0, w0, sz, Q, ⟨hx, hb, hml, hown, hts, hK, hlk, hsz⟩, h2, h3, h4, h5, h6, hxs, rfl⟩ := M
  intro q H locs ls cells slots a1 a2 a3 a4 a5 a6 a7
  exact W.objInit hx hb hown (hts _ hl) (hts _ hi) (hts _ hc) rfl (by rw [hml]; exact a5.1.1) rfl hd (by rw [h3]; exact hfr) (by rw [h4, cats]; simpa using hlo) (kk q H locs ls cells slots a1 a2 a3 a4 a5 a6 a7)
theorem m_aast (M : MB l D cT O code nL fr lo Rc Rs g) {x : Int32} {a n v ci : Nat} {vs : List Value} {f : Nat → Option Nat} (hw : wA w a = some (.inl (3, n, .inr (.inr (.inr (.inr f)))))) (hv : wA w v = some (.inr (0, vs))) (hin : vp_in x n) (hd : decode code pc = .ok (.aastore, 1)) (kk : g bc bs (w.set a (.inr (.inl (3, n, .inr (.inr (.inr (.inr (va_up f x.toNatClampNeg (some v))))))))) (pc + 1) L rest) : g bc bs w pc L (.ref v :: .int x :: .ref a :: rest) := by
  obtain ⟨p, e, R, s, m, args, below, meth, c, q0, w0, sz, Q, ⟨hx, hb, hml, hown, hts, hK, hlk, hsz⟩, h2, h3, h4, h5, h6, hxs, rfl⟩ := M
  refine gg_wr (st := .ref v :: .int x :: .ref a :: rest) (st' := rest) hsz hw (fun q _ _ _ _ _ j0 hj0 hP' hD' hS' k9 => ?_) kk
  obtain ⟨j1, hj1⟩ := cn_get (cT := cT) (q := q) hv
  refine va_astq hx hb hK.1 hP' hD' hS' j0 3 j1 0 hj0 rfl hj1 rfl hin hd (fun H1 locs1 b1 _ b3 => k9 H1 locs1 ?_ b3)
  have e1 : (fun j => (va_up f x.toNatClampNeg (some v) j).map q) = va_up (fun j => (f j).map q) x.toNatClampNeg (some (q v)) := by
    funext j
    unfold va_up
    split <;> rfl
  show va_P D vwCl ((cn cT q w).set j0 (q a, .inl (cT 3, n, .inr (.inr (.inr (.inr (fun j => (va_up f x.toNatClampNeg (some v) j).map q))))))) H1
  rw [e1]
  exact b1
/-- .. in a constructor -/
def MI (l : Launch) (D : va_G) (cT : Nat → ClassId) (O : Own) (code : ByteArray) (nL fr lo Rc Rs : Nat) (g : GT) : Prop :=
  ∃ (p : Program) (e : Env) (R : Room) (s : State) (m : MethodId) (args : Array Value) (below : List Frame) (meth : Method) (c : Code) (q0 : Nat → Nat) (w0 : Wd) (sz : Nat) (Q : State → Prop),
    FX p s m args meth c D cT nL sz O.1 code ∧ okO O = true ∧ meth.name = "<init>" ∧ g = fun bc bs w pc L st => GG p l e R s m args below meth c D cT nL q0 w0 sz Q bc bs w pc L st
theorem m_putF (M : MI l D cT O code nL fr lo Rc Rs g) (ix a : Nat) {nest : Bool} {ci j : Nat} {fs : List Value} {v : Value} (hl : lkp O.2.1 ix = some (nest, ci, j)) (hw : wA w a = some (.inr (ci, fs))) (hj : j < fs.length) (ho : okV (tyF ci j) v = true) (hf : (clT ci j).2.2.2 = true) (hn0 : nest = false) (hdc : (clT ci j).1 = O.1) (hd : decode code pc = .ok (.putfield ix, 3)) (kk : g bc bs (w.set a (.inr (.inr (ci, fs.set j v)))) (pc + 3) L rest) : g bc bs w pc L (v :: .ref a :: rest) := by
  obtain ⟨p, e, R, s, m, args, below, meth, c, q0, w0, sz, Q, ⟨hx, hb, hml, hown, hts, hK, hlk, hsz⟩, h2, hnm, rfl⟩ := M
  subst hn0
  obtain ⟨o1, o2, o3⟩ := okO_f h2 (lkp_mem hl)
  refine gg_wr (st := v :: .ref a :: rest) (st' := rest) hsz hw (fun q _ _ _ _ _ j0 hj0 hP' hD' hS' k9 => ?_) kk
  have e1 : tE cT q (.inr (ci, fs.set j v)) = .inr (ci, (fs.map (tV q)).set j (tV q v)) := by simp [tE, List.map_set]
  exact va_putF hx hb hts (cl_gw o1) (tyF ci) (cl_ty o1) (cl_nm o1) hown hK.1 hP' hD' hS' j0 hj0 (cl_get o1) j o2 (hts _ (List.mem_filter.mpr ⟨o3, rfl⟩)) (fun _ h => h) hf hnm hdc (cl_ty o1 j o2) (okV_ok ho q).1 (okV_ok ho q).2 (by rw [List.length_map]; exact hj) hd (fun H1 locs1 a b c => k9 H1 locs1 (by rw [e1]; exact a) c)
end ALC
theorem runs_ofI {l : Launch} {D : va_G} {cT : Nat → ClassId} (O : Own) {y : MethodName} {code : ByteArray} {nL : Nat} {ret : Option FieldType} {fr lo : Nat} {As : List Value} {w : Wd} {E : Option Value → Wd → Prop} (hO : okO O = true) (hy : plainFor y = true) (hyc : y.cls = O.1) (hyn : y.name = "<init>") (hA : As.all okArg = true) (hn : (entL As).length ≤ nL) (hwl : w.length ≤ 1000)
    (body : ∀ g : GT, MR l D cT O code nL fr lo (potC w) (potS w) g ret E → MI l D cT O code nL fr lo (potC w) (potS w) g → g 0 0 w 0 (ent nL As) []) : Runs l D cT y code nL ret fr lo As w E := by
  intro q sz hZq
  refine va_MetF (cc := code) (maxL := nL) (ret := ret) (ws' := gw) hy rfl ?_
  intro p e s m args below meth c s₁ B hml hv
  obtain ⟨rfl, hsz, hP, hD0, hK, hSS⟩ := hv
  have hts := atoms_spec (ws := wsG y code nL ret) B.pre
  have hown : s.vm.findClass O.1 = some m.cls := hyc ▸ findClass_of_methodNamed B.named
  have hFX : FX p s m (As.map (tV q)).toArray meth c D cT nL sz O.1 code := ⟨B.exec, B.bytes, hml, hown, fun w hw => hts w (List.mem_cons_of_mem _ hw), hK, B.notSynchronized, hsz.symm⟩
  have K := body _ ⟨p, e, (headSpec (wsG y code nL ret) { frames := fr, cells := potC w, slots := potS w, locals := lo }).room, s, m, (As.map (tV q)).toArray, below, meth, c, q, w, sz, _, hFX, hO, rfl, rfl, rfl, rfl, ⟨hSS, hZq, hwl⟩, rfl, B.returns, rfl⟩ ⟨p, e, (headSpec (wsG y code nL ret) { frames := fr, cells := potC w, slots := potS w, locals := lo }).room, s, m, (As.map (tV q)).toArray, below, meth, c, q, w, sz, _, hFX, hO, ((name_of_methodNamed B.named B.method).1).trans hyn, rfl⟩
  rw [lg_entry_eq]
  refine K q s.heap [] _ 0 0 Ext.rf hP ⟨hD0.1, fun k e9 h9 => Or.inl ⟨k, e9, h9, rfl⟩⟩ va_S.rf (LQ.ofArgs hA hn) (Nat.le_refl _) (Nat.le_refl _)
