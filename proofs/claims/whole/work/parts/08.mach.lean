/-! ===== the machine as one relation; its rules ===== -/
abbrev GT : Type := Nat → Nat → Wd → Nat → List (Option Value) → List Value → Prop
def MB (l : Launch) (D : va_G) (cT : Nat → ClassId) (O : Own) (code : ByteArray) (nL fr lo Rc Rs : Nat) (g : GT) : Prop :=
  ∃ (p : Program) (e : Env) (R : Room) (s : State) (m : MethodId) (args : Array Value) (below : List Frame) (meth : Method) (c : Code) (q0 : Nat → Nat) (w0 : Wd) (sz : Nat) (Q : State → Prop),
    FX p s m args meth c D cT nL sz O.1 code ∧ okO O = true ∧ R.frames = fr ∧ R.locals = lo ∧ R.cells = Rc ∧ R.slots = Rs ∧ (SS cT (AF q0 w0 sz) s s.heap ∧ Zq cT q0 ∧ w0.length ≤ 1000) ∧ g = fun bc bs w pc L st => GG p l e R s m args below meth c D cT nL q0 w0 sz Q bc bs w pc L st
def MR (l : Launch) (D : va_G) (cT : Nat → ClassId) (O : Own) (code : ByteArray) (nL fr lo Rc Rs : Nat) (g : GT) (ret : Option FieldType) (E : Option Value → Wd → Prop) : Prop :=
  ∃ (p : Program) (e : Env) (R : Room) (s : State) (m : MethodId) (args : Array Value) (below : List Frame) (meth : Method) (c : Code) (q0 : Nat → Nat) (w0 : Wd) (sz : Nat) (Q : State → Prop),
    FX p s m args meth c D cT nL sz O.1 code ∧ okO O = true ∧ R.frames = fr ∧ R.locals = lo ∧ R.cells = Rc ∧ R.slots = Rs ∧ (SS cT (AF q0 w0 sz) s s.heap ∧ Zq cT q0 ∧ w0.length ≤ 1000) ∧ (g = fun bc bs w pc L st => GG p l e R s m args below meth c D cT nL q0 w0 sz Q bc bs w pc L st) ∧ meth.sig.returnType = ret ∧ Q = MQ below (QcOf E D cT q0 w0 sz) args s Rc Rs (AF q0 w0 sz)
section MRL
variable {l : Launch} {D : va_G} {cT : Nat → ClassId} {O : Own} {code : ByteArray} {nL fr lo Rc Rs : Nat} {g : GT} {ret : Option FieldType} {E : Option Value → Wd → Prop} {bc bs : Nat}
theorem MR.b (M : MR l D cT O code nL fr lo Rc Rs g ret E) : MB l D cT O code nL fr lo Rc Rs g := by
  obtain ⟨p, e, R, s, m, args, below, meth, c, q0, w0, sz, Q, h1, h2, h3, h4, h5, h6, hxs, h7, -⟩ := M
  exact ⟨p, e, R, s, m, args, below, meth, c, q0, w0, sz, Q, h1, h2, h3, h4, h5, h6, hxs, h7⟩
theorem m_run (M : MB l D cT O code nL fr lo Rc Rs g) {is : List (Nat × Instr × Int32)} {pc : Nat} {L : List (Option Value)} {st : List Value} {w : Wd} {P : Prop} {pc' : Nat} {L' : List (Option Value)} {st' : List Value} {w' : Wd} (hd : decs code is = true) (hr : aR O is (pc, L, st, w) = some (P, pc', L', st', w')) (hP : P) (k : g bc bs w' pc' L' st') : g bc bs w pc L st := by
  obtain ⟨p, e, R, s, m, args, below, meth, c, q0, w0, sz, Q, h1, h2, h3, h4, h5, h6, hxs, rfl⟩ := M
  exact gg_run h2 h1 hd hr hP k
theorem m_br (M : MB l D cT O code nL fr lo Rc Rs g) {i : Instr} {pc tgt : Nat} {off : Int} {L : List (Option Value)} {st st' : List Value} {w : Wd} {C : Prop} (hd : decode code pc = .ok (i, 3)) (hs : aB i st = some (C, off, st')) (ht : (pc : Int) + off = (tgt : Int))
    (kt : C → g bc bs w tgt L st') (kf : ¬ C → g bc bs w (pc + 3) L st') : g bc bs w pc L st := by
  obtain ⟨p, e, R, s, m, args, below, meth, c, q0, w0, sz, Q, h1, h2, h3, h4, h5, h6, hxs, rfl⟩ := M
  exact gg_br h1 hd hs ht kt kf
theorem m_tsI (M : MB l D cT O code nL fr lo Rc Rs g) {dflt t0 t1 : Int} {offs : Array Int} {len pc tgt : Nat} (k : Nat) {off : Int} {L : List (Option Value)} {st : List Value} {w : Wd} {x : Int32} (hd : decode code pc = .ok (.tableswitch dflt t0 t1 offs, len)) (hx1 : x.toInt = t0 + k) (hk : t0 + k ≤ t1) (ho : offs[k]? = some off) (ht : (pc : Int) + off = (tgt : Int))
    (kk : g bc bs w tgt L st) : g bc bs w pc L (.int x :: st) := by
  obtain ⟨p, e, R, s, m, args, below, meth, c, q0, w0, sz, Q, h1, h2, h3, h4, h5, h6, hxs, rfl⟩ := M
  exact gg_tsI h1 hd hx1 hk ho ht kk
theorem m_tsO (M : MB l D cT O code nL fr lo Rc Rs g) {dflt t0 t1 : Int} {offs : Array Int} {len pc tgt : Nat} {L : List (Option Value)} {st : List Value} {w : Wd} {x : Int32} (hd : decode code pc = .ok (.tableswitch dflt t0 t1 offs, len)) (hx1 : x.toInt < t0 ∨ t1 < x.toInt) (ht : (pc : Int) + dflt = (tgt : Int))
    (kk : g bc bs w tgt L st) : g bc bs w pc L (.int x :: st) := by
  obtain ⟨p, e, R, s, m, args, below, meth, c, q0, w0, sz, Q, h1, h2, h3, h4, h5, h6, hxs, rfl⟩ := M
  exact gg_tsO h1 hd hx1 ht kk
theorem m_widen (M : MB l D cT O code nL fr lo Rc Rs g) {bc' bs' pc : Nat} {L : List (Option Value)} {st : List Value} {w : Wd} (h1 : bc ≤ bc') (h2 : bs ≤ bs') (k : g bc' bs' w pc L st) : g bc bs w pc L st := by
  obtain ⟨p, e, R, s, m, args, below, meth, c, q0, w0, sz, Q, -, -, -, -, -, -, -, rfl⟩ := M
  exact fun q H locs ls cells slots a1 a2 a3 a4 a5 a6 a7 => k q H locs ls cells slots a1 a2 a3 a4 a5 (by omega) (by omega)
/-! ends -/
theorem m_iret (M : MR l D cT O code nL fr lo Rc Rs g (some .int) E) {pc : Nat} {L : List (Option Value)} {w : Wd} {x : Int32} (hd : decode code pc = .ok (.ireturn, 1)) (hc : bc ≤ Rc) (hs : bs ≤ Rs) (h : E (some (.int x)) w) : g bc bs w pc L [.int x] := by
  obtain ⟨p, e, R, s, m, args, below, meth, c, q0, w0, sz, Q, ⟨hx, hb, hml, hown, hts, hK, hlk, hsz⟩, h2, h3, h4, h5, h6, hxs, rfl, hr, rfl⟩ := M
  subst h5; subst h6; subst hsz
  intro q H locs ls cells slots a1 a2 a3 a4 a5 a6 a7
  refine W.widen (k := R.cells) (n := R.slots) (by omega) (by omega) ?_
  exact W.iret hx hb hr (fun t ht hW => ⟨⟨some (.int x), q, w, rfl, h, a1, by rw [ht]; exact a2, a3⟩, a4.F ht⟩) a4.2.2 hd hlk
theorem m_zret (M : MR l D cT O code nL fr lo Rc Rs g (some .boolean) E) {pc : Nat} {L : List (Option Value)} {w : Wd} {x : Int32} (hd : decode code pc = .ok (.ireturn, 1)) (hz : x = 0 ∨ x = 1) (hc : bc ≤ Rc) (hs : bs ≤ Rs) (h : E (some (.int x)) w) : g bc bs w pc L [.int x] := by
  obtain ⟨p, e, R, s, m, args, below, meth, c, q0, w0, sz, Q, ⟨hx, hb, hml, hown, hts, hK, hlk, hsz⟩, h2, h3, h4, h5, h6, hxs, rfl, hr, rfl⟩ := M
  subst h5; subst h6; subst hsz
  intro q H locs ls cells slots a1 a2 a3 a4 a5 a6 a7
  refine W.widen (k := R.cells) (n := R.slots) (by omega) (by omega) ?_
  exact W.zret hx hb hr (by rcases hz with rfl | rfl <;> rfl) (fun t ht hW => ⟨⟨some (.int x), q, w, rfl, h, a1, by rw [ht]; exact a2, a3⟩, a4.F ht⟩) a4.2.2 hd hlk
theorem m_lret (M : MR l D cT O code nL fr lo Rc Rs g (some .long) E) {pc : Nat} {L : List (Option Value)} {w : Wd} {x : Int64} (hd : decode code pc = .ok (.lreturn, 1)) (hc : bc ≤ Rc) (hs : bs ≤ Rs) (h : E (some (.long x)) w) : g bc bs w pc L [.long x] := by
  obtain ⟨p, e, R, s, m, args, below, meth, c, q0, w0, sz, Q, ⟨hx, hb, hml, hown, hts, hK, hlk, hsz⟩, h2, h3, h4, h5, h6, hxs, rfl, hr, rfl⟩ := M
  subst h5; subst h6; subst hsz
  intro q H locs ls cells slots a1 a2 a3 a4 a5 a6 a7
  refine W.widen (k := R.cells) (n := R.slots) (by omega) (by omega) ?_
  exact W.lret hx hb hr (fun t ht hW => ⟨⟨some (.long x), q, w, rfl, h, a1, by rw [ht]; exact a2, a3⟩, a4.F ht⟩) a4.2.2 hd hlk
theorem m_vret (M : MR l D cT O code nL fr lo Rc Rs g none E) {pc : Nat} {L : List (Option Value)} {w : Wd} (hd : decode code pc = .ok (.return_, 1)) (hc : bc ≤ Rc) (hs : bs ≤ Rs) (h : E none w) : g bc bs w pc L [] := by
  obtain ⟨p, e, R, s, m, args, below, meth, c, q0, w0, sz, Q, ⟨hx, hb, hml, hown, hts, hK, hlk, hsz⟩, h2, h3, h4, h5, h6, hxs, rfl, hr, rfl⟩ := M
  subst h5; subst h6; subst hsz
  intro q H locs ls cells slots a1 a2 a3 a4 a5 a6 a7
  refine W.widen (k := R.cells) (n := R.slots) (by omega) (by omega) ?_
  exact W.vret hx hb hr (fun t ht hW => ⟨⟨none, q, w, rfl, h, a1, by rw [ht]; exact a2, a3⟩, a4.F ht⟩) a4.2.2 hd hlk
theorem m_aret {ty : FieldType} (M : MR l D cT O code nL fr lo Rc Rs g (some ty) E) (hty : (∃ n, ty = FieldType.object n) ∨ ∃ t : FieldType, ty = FieldType.array t) {pc : Nat} {L : List (Option Value)} {w : Wd} {k : Nat} (hd : decode code pc = .ok (.areturn, 1)) (hc : bc ≤ Rc) (hs : bs ≤ Rs) (h : E (some (.ref k)) w) : g bc bs w pc L [.ref k] := by
  obtain ⟨p, e, R, s, m, args, below, meth, c, q0, w0, sz, Q, ⟨hx, hb, hml, hown, hts, hK, hlk, hsz⟩, h2, h3, h4, h5, h6, hxs, rfl, hr, rfl⟩ := M
  subst h5; subst h6; subst hsz
  intro q H locs ls cells slots a1 a2 a3 a4 a5 a6 a7
  refine W.widen (k := R.cells) (n := R.slots) (by omega) (by omega) ?_
  exact W.aret (Qc := QcOf E D cT q0 w0 s.heap.size) hx hb hr hty (v := .ref (q k)) (Or.inr ⟨_, rfl⟩) (fun t ht hW => ⟨⟨some (.ref k), q, w, rfl, h, a1, by rw [ht]; exact a2, a3⟩, a4.F ht⟩) a4.2.2 hd hlk
end MRL
/-! ===== from a walk to the contract ===== -/
def entL : List Value → List (Option Value)
  | [] => []
  | .long x :: r => some (.long x) :: none :: entL r
  | v :: r => some v :: entL r
def ent (n : Nat) (As : List Value) : List (Option Value) := entL As ++ List.replicate (n - (entL As).length) none
def okArg : Value → Bool
  | .int _ => true
  | .long _ => true
  | .ref _ => true
  | .null => true
  | _ => false
theorem entL_len : ∀ As : List Value, As.all okArg = true → (lg_sl As).length = (entL As).length
  | [], _ => rfl
  | v :: r, h => by
    rw [List.all_cons, Bool.and_eq_true] at h
    have ih := entL_len r h.2
    cases v with
    | int x => show (lg_sl r).length + 1 = (entL r).length + 1; rw [ih]
    | ref x => show (lg_sl r).length + 1 = (entL r).length + 1; rw [ih]
    | null => show (lg_sl r).length + 1 = (entL r).length + 1; rw [ih]
    | long x => show (lg_sl r).length + 1 + 1 = (entL r).length + 1 + 1; rw [ih]
    | _ => exact nomatch h.1
theorem entL_mem (q : Nat → Nat) : ∀ (As : List Value) (i : Nat), As.all okArg = true → ∀ x ∈ lvl q i (entL As), x ∈ lv_args i (As.map (tV q))
  | [], i, _, x, hx => by cases hx
  | v :: r, i, h, x, hx => by
    rw [List.all_cons, Bool.and_eq_true] at h
    cases v with
    | int z =>
      rcases List.mem_cons.mp (show x ∈ (i, tV q (.int z)) :: lvl q (i + 1) (entL r) from hx) with h1 | h1
      · subst h1; exact List.mem_cons_self
      · exact List.mem_cons_of_mem _ (entL_mem q r (i + 1) h.2 x h1)
    | ref z =>
      rcases List.mem_cons.mp (show x ∈ (i, tV q (.ref z)) :: lvl q (i + 1) (entL r) from hx) with h1 | h1
      · subst h1; exact List.mem_cons_self
      · exact List.mem_cons_of_mem _ (entL_mem q r (i + 1) h.2 x h1)
    | null =>
      rcases List.mem_cons.mp (show x ∈ (i, tV q .null) :: lvl q (i + 1) (entL r) from hx) with h1 | h1
      · subst h1; exact List.mem_cons_self
      · exact List.mem_cons_of_mem _ (entL_mem q r (i + 1) h.2 x h1)
    | long z =>
      rcases List.mem_cons.mp (show x ∈ (i, tV q (.long z)) :: lvl q (i + 2) (entL r) from hx) with h1 | h1
      · subst h1; exact List.mem_cons_self
      · exact List.mem_cons_of_mem _ (entL_mem q r (i + 2) h.2 x h1)
    | _ => exact nomatch h.1
theorem lvl_rep (q : Nat → Nat) : ∀ (L : List (Option Value)) (i n : Nat), lvl q i (L ++ List.replicate n none) = lvl q i L
  | [], i, n => by
    induction n generalizing i with
    | zero => rfl
    | succ n ih => exact ih (i + 1)
  | none :: L, i, n => lvl_rep q L (i + 1) n
  | some v :: L, i, n => by
    exact congrArg ((i, tV q v) :: ·) (lvl_rep q L (i + 1) n)
theorem okArg_t (q : Nat → Nat) (As : List Value) (h : As.all okArg = true) : (As.map (tV q)).all okArg = true := by
  rw [List.all_map]
  rw [List.all_eq_true] at h ⊢
  intro v hv
  have := h v hv
  cases v <;> first | rfl | exact this
theorem entL_t (q : Nat → Nat) : ∀ As : List Value, (entL (As.map (tV q))).length = (entL As).length
  | [] => rfl
  | v :: r => by
    have ih := entL_t q r
    cases v <;> simp [entL, tV, ih]
theorem LQ.ofArgs {q : Nat → Nat} {As : List Value} {n : Nat} (h : As.all okArg = true) (hn : (entL As).length ≤ n) : LQ n q (ent n As) ((lg_sl (As.map (tV q)) ++ List.replicate (n - (lg_sl (As.map (tV q))).length) Slot.unset).toArray) := by
  have e : (lg_sl (As.map (tV q))).length = (entL As).length := by rw [entL_len _ (okArg_t q As h), entL_t]
  have h1 := lv_entry (As.map (tV q)) (n := n) (by rw [e]; exact hn)
  refine ⟨⟨h1.1, h1.2.1, fun x hx => h1.2.2 x ?_⟩, by unfold ent; rw [List.length_append, List.length_replicate]; omega⟩
  unfold ent at hx
  rw [lvl_rep] at hx
  exact entL_mem q As 0 h x hx
theorem runs_of {l : Launch} {D : va_G} {cT : Nat → ClassId} (O : Own) {y : MethodName} {code : ByteArray} {nL : Nat} {ret : Option FieldType} {fr lo : Nat} {As : List Value} {w : Wd} {E : Option Value → Wd → Prop} (hO : okO O = true) (hy : plainFor y = true) (hyc : y.cls = O.1) (hA : As.all okArg = true) (hn : (entL As).length ≤ nL) (hwl : w.length ≤ 1000)
    (body : ∀ g : GT, MR l D cT O code nL fr lo (potC w) (potS w) g ret E → g 0 0 w 0 (ent nL As) []) : Runs l D cT y code nL ret fr lo As w E := by
  intro q sz hZq
  refine va_MetF (cc := code) (maxL := nL) (ret := ret) (ws' := gw) hy rfl ?_
  intro p e s m args below meth c s₁ B hml hv
  obtain ⟨rfl, hsz, hP, hD0, hK, hSS⟩ := hv
  have hts := atoms_spec (ws := wsG y code nL ret) B.pre
  have hown : s.vm.findClass O.1 = some m.cls := hyc ▸ findClass_of_methodNamed B.named
  have hFX : FX p s m (As.map (tV q)).toArray meth c D cT nL sz O.1 code := ⟨B.exec, B.bytes, hml, hown, fun w hw => hts w (List.mem_cons_of_mem _ hw), hK, B.notSynchronized, hsz.symm⟩
  have K := body _ ⟨p, e, (headSpec (wsG y code nL ret) { frames := fr, cells := potC w, slots := potS w, locals := lo }).room, s, m, (As.map (tV q)).toArray, below, meth, c, q, w, sz, _, hFX, hO, rfl, rfl, rfl, rfl, ⟨hSS, hZq, hwl⟩, rfl, B.returns, rfl⟩
  rw [lg_entry_eq]
  refine K q s.heap [] _ 0 0 Ext.rf hP ⟨hD0.1, fun k e9 h9 => Or.inl ⟨k, e9, h9, rfl⟩⟩ va_S.rf (LQ.ofArgs hA hn) (Nat.le_refl _) (Nat.le_refl _)
