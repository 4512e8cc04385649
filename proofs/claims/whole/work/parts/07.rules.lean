/-! ===== calls: a callee's names among the caller's ===== -/
def rn (ρ : List Nat) (B j : Nat) : Nat := ρ.getD j (if j < B then B + j else j)
def rV (ρ : List Nat) (B : Nat) : Value → Value := tV (rn ρ B)
def rE (ρ : List Nat) (B : Nat) : va_E → va_E := tE (fun t => t) (rn ρ B)
def rS (ρ : List Nat) (B : Nat) : Nat ⊕ va_E → Nat ⊕ va_E
  | .inl n => .inl n
  | .inr e => .inr (rE ρ B e)
def putL : List Nat → List (Nat ⊕ va_E) → Wd → Wd
  | k :: ks, x :: xs, w => putL ks xs (w.set k x)
  | _, _, w => w
theorem tV_tV (q r : Nat → Nat) (v : Value) : tV q (tV r v) = tV (fun j => q (r j)) v := by cases v <;> rfl
theorem tA_tA (q r : Nat → Nat) (a : vp_A) : tA q (tA r a) = tA (fun j => q (r j)) a := by
  obtain ⟨n, f | f | f | f | f⟩ := a
  · rfl
  · rfl
  · rfl
  · rfl
  · show (n, _) = (n, _)
    congr 5
    funext j
    simp [Option.map_map, Function.comp_def]
theorem tE_rE (cT : Nat → ClassId) (q : Nat → Nat) (ρ : List Nat) (B : Nat) (e : va_E) : tE cT q (rE ρ B e) = tE cT (fun j => q (rn ρ B j)) e := by
  obtain ⟨t, a⟩ | ⟨ci, fs⟩ := e
  · show Sum.inl (cT t, tA q (tA (rn ρ B) a)) = Sum.inl (cT t, tA _ a)
    rw [tA_tA]
  · show Sum.inr (ci, (fs.map (tV (rn ρ B))).map (tV q)) = Sum.inr (ci, fs.map _)
    rw [List.map_map]
    congr 2
    apply List.map_congr_left
    intro v _
    exact tV_tV q _ v
theorem tV_eq {q r : Nat → Nat} (h : ∀ j, q j = r j) (v : Value) : tV q v = tV r v := by
  have : q = r := funext h
  rw [this]
theorem tE_eq {cT : Nat → ClassId} {q r : Nat → Nat} (h : ∀ j, q j = r j) (e : va_E) : tE cT q e = tE cT r e := by
  have : q = r := funext h
  rw [this]
theorem wA_none {w : Wd} {k n : Nat} (h : w[k]? = some (.inl n)) : wA w k = none := by unfold wA; rw [h]
theorem wA_iff {w : Wd} {k : Nat} {e : va_E} : wA w k = some e ↔ w[k]? = some (.inr e) := by
  unfold wA
  constructor
  · intro h
    split at h
    next x hx => cases h; exact hx
    next => cases h
  · intro h; rw [h]
theorem putL_len : ∀ (ks : List Nat) (xs : List (Nat ⊕ va_E)) (w : Wd), (putL ks xs w).length = w.length
  | [], _, w => by unfold putL; rfl
  | k :: ks, [], w => by unfold putL; rfl
  | k :: ks, x :: xs, w => by rw [putL, putL_len ks xs, List.length_set]
theorem putL_out : ∀ (ks : List Nat) (xs : List (Nat ⊕ va_E)) (w : Wd) (k : Nat), k ∉ ks → (putL ks xs w)[k]? = w[k]?
  | [], _, w, k, _ => by unfold putL; rfl
  | a :: ks, [], w, k, _ => by unfold putL; rfl
  | a :: ks, x :: xs, w, k, h => by
    rw [List.mem_cons, not_or] at h
    rw [putL, putL_out ks xs _ k h.2, List.getElem?_set_ne (Ne.symm h.1)]
theorem putL_in : ∀ (ks : List Nat) (xs : List (Nat ⊕ va_E)) (w : Wd) (i k : Nat), ks.Nodup → ks[i]? = some k → k < w.length → i < xs.length → (putL ks xs w)[k]? = xs[i]?
  | [], _, _, i, k, _, h, _, _ => by simp at h
  | a :: ks, [], w, i, k, _, _, _, h => by simp at h
  | a :: ks, x :: xs, w, i, k, hn, hi, hk, hx => by
    rw [List.nodup_cons] at hn
    rw [putL]
    cases i with
    | zero =>
      simp at hi
      subst hi
      rw [putL_out ks xs _ a hn.1, List.getElem?_set_self hk]
      rfl
    | succ i =>
      simp at hi hx
      rw [putL_in ks xs _ i k hn.2 hi (by rw [List.length_set]; exact hk) (by omega)]
      simp
theorem nodup_inj : ∀ (ks : List Nat), ks.Nodup → ∀ (i j a : Nat), ks[i]? = some a → ks[j]? = some a → i = j
  | [], _, i, _, a, h, _ => by simp at h
  | b :: ks, hn, i, j, a, h1, h2 => by
    rw [List.nodup_cons] at hn
    cases i with
    | zero =>
      cases j with
      | zero => rfl
      | succ j =>
        simp at h1 h2
        subst h1
        exact absurd (List.mem_of_getElem? h2) hn.1
    | succ i =>
      cases j with
      | zero =>
        simp at h1 h2
        subst h2
        exact absurd (List.mem_of_getElem? h1) hn.1
      | succ j =>
        simp at h1 h2
        rw [nodup_inj ks hn.2 i j a h1 h2]
/-! ===== the contract of a method ===== -/
def QcOf (E : Option Value → Wd → Prop) (D : va_G) (cT : Nat → ClassId) (q : Nat → Nat) (w : Wd) (sz : Nat) : Array Value → State → Outcome → State → Prop := fun _ st oc t =>
  (∃ (r : Option Value) (q' : Nat → Nat) (w' : Wd), oc = .returned (r.map (tV q')) ∧ E r w' ∧ Ext q w q' w' ∧ RP D cT q' w' t.heap ∧ DP (AF q w sz) q' w') ∧ va_F (AF q w sz) st t
def wsG (y : MethodName) (code : ByteArray) (nL : Nat) (ret : Option FieldType) : List Cond := .code y code nL ret :: gw
/-! ===== the words of the text: strings that are there from the start, fourteen places ===== -/
def txS (i : Nat) : String := ["people", "law", "use", "serve", "let", "leave", "count"].getD (i % 7) ""
def owS (i : Nat) : String := if i < 7 then "BackByTwice$Tape" else "BackByTwiceModel"
def ixS (i : Nat) : Nat := [32, 41, 52, 57, 62, 67, 72, 191, 199, 201, 203, 208, 213, 218].getD i 0
def byS (i : Nat) : List Int32 := [[112, 101, 111, 112, 108, 101], [108, 97, 119], [117, 115, 101], [115, 101, 114, 118, 101], [108, 101, 116], [108, 101, 97, 118, 101], [99, 111, 117, 110, 116]].getD (i % 7) []
def lnS (i : Nat) : Nat := (byS i).length
def Zq (cT : Nat → ClassId) (q : Nat → Nat) : Prop := ∀ j, q (1000 + j) = cT (100 + j)
def SS (cT : Nat → ClassId) (A : Nat → Prop) (U : State) (H : Heap) : Prop :=
  (∀ i : Nat, i < 14 → (va_O "java/lang/String" (cT (100 + i)) A U H ∧ va_OF "java/lang/String" "coder" "B" (.int 0) (cT (100 + i)) A U H ∧ va_OF "java/lang/String" "value" "[B" (.ref (cT (200 + i))) (cT (100 + i)) A U H ∧ va_T .byte (cT (200 + i)) (lnS i) (fun j => .int ((byS i).getD j 0)) A U H) ∧ vk_R (owS i) (ixS i) (txS i) (cT (100 + i)) U) ∧ va_Z "java/lang/String" "COMPACT_STRINGS" "Z" (.int 1) A U H ∧ (va_Z "jdk/internal/util/Preconditions" "SIOOBE_FORMATTER" "Ljava/util/function/BiFunction;" (.ref (cT 400)) A U H ∨ va_Z "jdk/internal/util/Preconditions" "SIOOBE_FORMATTER" "Ljava/util/function/BiFunction;" .null A U H)
theorem SS.same {cT : Nat → ClassId} {A : Nat → Prop} {u U : State} {H : Heap} (e : u.vm = U.vm) (h : SS cT A u H) : SS cT A U H := by
  have hv : u.vm.Alike U.vm := by rw [e]; exact Vm.Alike.refl U.vm
  exact ⟨fun i hi => ⟨⟨va_O.moved hv (h.1 i hi).1.1, va_OF.moved hv (h.1 i hi).1.2.1, va_OF.moved hv (h.1 i hi).1.2.2.1, va_T.moved hv (h.1 i hi).1.2.2.2⟩, vk_R.same e.symm (h.1 i hi).2⟩, va_Z.moved hv h.2.1, h.2.2.imp (va_Z.moved hv) (va_Z.moved hv)⟩
theorem SS.warm {cT : Nat → ClassId} {A : Nat → Prop} {s U : State} {H : Heap} (hW : s.WarmedH U.vm) (h : SS cT A s H) : SS cT A U H :=
  ⟨fun i hi => ⟨⟨va_O.moved hW.alike (h.1 i hi).1.1, va_OF.moved hW.alike (h.1 i hi).1.2.1, va_OF.moved hW.alike (h.1 i hi).1.2.2.1, va_T.moved hW.alike (h.1 i hi).1.2.2.2⟩, vk_R.warm hW (h.1 i hi).2⟩, va_Z.moved hW.alike h.2.1, h.2.2.imp (va_Z.moved hW.alike) (va_Z.moved hW.alike)⟩
theorem SS.kept {cT : Nat → ClassId} {A : Nat → Prop} {U : State} {H H1 : Heap} (h : SS cT A U H) (hq : ∀ a : Nat, a < H.size → ¬ A a → H1[a]? = H[a]?) : SS cT A U H1 :=
  ⟨fun i hi => ⟨⟨(h.1 i hi).1.1.kept hq, (h.1 i hi).1.2.1.kept hq, (h.1 i hi).1.2.2.1.kept hq, (h.1 i hi).1.2.2.2.kept hq⟩, (h.1 i hi).2⟩, h.2.1.kept hq, h.2.2.imp (fun z => z.kept hq) (fun z => z.kept hq)⟩
theorem SS.narrow {cT : Nat → ClassId} {A B : Nat → Prop} {U : State} {H : Heap} (h : SS cT A U H) (hAB : ∀ q, B q → A q) : SS cT B U H :=
  ⟨fun i hi => ⟨⟨(h.1 i hi).1.1.narrow hAB, (h.1 i hi).1.2.1.narrow hAB, (h.1 i hi).1.2.2.1.narrow hAB, (h.1 i hi).1.2.2.2.narrow hAB⟩, (h.1 i hi).2⟩, h.2.1.narrow hAB, h.2.2.imp (fun z => z.narrow hAB) (fun z => z.narrow hAB)⟩
def PcB (D : va_G) (cT : Nat → ClassId) (q : Nat → Nat) (w : Wd) (sz : Nat) : State → Prop := fun U => U.heap.size = sz ∧ RP D cT q w U.heap ∧ DP (fun _ => True) q w ∧ KK D cT U ∧ SS cT (AF q w sz) U U.heap
def Runs (l : Launch) (D : va_G) (cT : Nat → ClassId) (y : MethodName) (code : ByteArray) (nL : Nat) (ret : Option FieldType) (fr lo : Nat) (As : List Value) (w : Wd) (E : Option Value → Wd → Prop) : Prop :=
  ∀ (q : Nat → Nat) (sz : Nat), Zq cT q → Met l y (wsG y code nL ret) { frames := fr, cells := potC w, slots := potS w, locals := lo } (va_Pc (As.map (tV q)) (PcB D cT q w sz)) (QcOf E D cT q w sz) (potC w) (potS w) (AF q w sz)
theorem blindP {D : va_G} {cT : Nat → ClassId} {q : Nat → Nat} {w : Wd} {sz : Nat} {av : List Value} : FrameBlind (va_Pc av (PcB D cT q w sz)) := by
  intro a U g mk h
  obtain ⟨h0, h1, h2, h3, h4, h5⟩ := h
  exact ⟨h0, h1, h2, h3, KK.same (u := U) (U := U.calling g mk a) rfl h4, SS.same (u := U) (U := U.calling g mk a) rfl h5⟩
/-! ===== references to what is there alone ===== -/
def prs (w : Wd) (j : Nat) : Bool := (wA w j).isSome || Nat.ble w.length j
def okP (w : Wd) : Value → Bool
  | .ref j => prs w j
  | _ => true
def NRE (w : Wd) : va_E → Prop
  | .inl (_, _, .inr (.inr (.inr (.inr f)))) => ∀ i j, f i = some j → prs w j = true
  | .inl _ => True
  | .inr (_, fs) => fs.all (okP w) = true
def NRL (w : Wd) : Wd → Prop
  | [] => True
  | .inl _ :: r => NRL w r
  | .inr e :: r => NRE w e ∧ NRL w r
def NRW (w : Wd) : Prop := ∀ k e, wA w k = some e → NRE w e
theorem NRL.at {w : Wd} : ∀ {u : Wd} {k : Nat} {e : va_E}, NRL w u → wA u k = some e → NRE w e
  | [], k, e, _, h => by simp [wA] at h
  | .inl n :: r, 0, e, _, h => by simp [wA] at h
  | .inl n :: r, k + 1, e, hn, h => NRL.at (u := r) (k := k) hn (by simpa [wA] using h)
  | .inr x :: r, 0, e, hn, h => by
    have : x = e := by simpa [wA] using h
    exact this ▸ hn.1
  | .inr x :: r, k + 1, e, hn, h => NRL.at (u := r) (k := k) hn.2 (by simpa [wA] using h)
theorem NRL.W {w : Wd} (h : NRL w w) : NRW w := fun _ _ he => h.at he
theorem tE_NR {cT : Nat → ClassId} {w : Wd} {q q' : Nat → Nat} (h : ∀ k, prs w k = true → q' k = q k) : ∀ {e : va_E}, NRE w e → tE cT q' e = tE cT q e := by
  intro e he
  have hr : ∀ j, prs w j = true → q' j = q j := h
  rcases e with ⟨t, n, f | f | f | f | f⟩ | ⟨ci, fs⟩
  · rfl
  · rfl
  · rfl
  · rfl
  · show (Sum.inl (cT t, n, .inr (.inr (.inr (.inr (fun j => (f j).map q'))))) : va_E) = .inl (cT t, n, .inr (.inr (.inr (.inr (fun j => (f j).map q)))))
    have : (fun j => (f j).map q') = (fun j => (f j).map q) := by
      funext j
      cases hj : f j with
      | none => rfl
      | some b => exact congrArg some (hr b (he j b hj))
    rw [this]
  · show (Sum.inr (ci, fs.map (tV q')) : va_E) = .inr (ci, fs.map (tV q))
    have : fs.map (tV q') = fs.map (tV q) := List.map_congr_left (fun v hv => by
      have h9 := List.all_eq_true.mp he v hv
      cases v with
      | ref j => exact congrArg Value.ref (hr j h9)
      | _ => rfl)
    rw [this]
section CLL
variable {p : Program} {l : Launch} {e : Env} {R : Room} {s : State} {m : MethodId} {args : Array Value} {below : List Frame} {meth : Method} {c : Code}
variable {D : va_G} {cT : Nat → ClassId} {nL : Nat} {q0 : Nat → Nat} {w0 : Wd} {sz : Nat} {Q : State → Prop} {bc bs : Nat}
theorem gg_run {O : Own} {code : ByteArray} (hO : okO O = true) (X : FX p s m args meth c D cT nL sz O.1 code) : ∀ {is : List (Nat × Instr × Int32)} {pc : Nat} {L : List (Option Value)} {st : List Value} {w : Wd} {P : Prop} {pc' : Nat} {L' : List (Option Value)} {st' : List Value} {w' : Wd}, decs code is = true → aR O is (pc, L, st, w) = some (P, pc', L', st', w') → P →
    GG p l e R s m args below meth c D cT nL q0 w0 sz Q bc bs w' pc' L' st' → GG p l e R s m args below meth c D cT nL q0 w0 sz Q bc bs w pc L st
  | [], pc, L, st, w, P, pc', L', st', w', _, hr, _, k => by cases hr; exact k
  | (a, i, v) :: is, pc, L, st, w, P, pc', L', st', w', hd, hr, hP, k => by
    simp only [decs, List.all_cons, Bool.and_eq_true, decide_eq_true_eq] at hd
    dsimp only [aR] at hr
    split at hr
    next hb =>
      have e1 : pc = a := Nat.eq_of_beq_eq_true hb
      subst e1
      split at hr
      next => cases hr
      next c' h1 =>
        obtain ⟨p1, L1, st1, w1⟩ := c'
        exact gg_step hO X hd.1 h1 (fun a h => by cases h) (gg_run hO X hd.2 hr hP k)
      next p0 c' h1 =>
        obtain ⟨p1, L1, st1, w1⟩ := c'
        split at hr
        next => cases hr
        next P0 c2 h2 =>
          cases hr
          exact gg_step hO X hd.1 h1 (fun a h => by cases h; exact hP.1) (gg_run hO X hd.2 h2 hP.2 k)
    next => cases hr
theorem iv_bu {f : Int32 → Prop} {off off' : Int} {st st' : List Value} {C : Prop} (h : b_un f off st = some (C, off', st')) : ∃ x, st = .int x :: st' ∧ C = f x ∧ off' = off := by
  unfold b_un at h
  split at h
  next => cases h; exact ⟨_, rfl, rfl, rfl⟩
  next => cases h
theorem iv_bb {f : Int32 → Int32 → Prop} {off off' : Int} {st st' : List Value} {C : Prop} (h : b_bin f off st = some (C, off', st')) : ∃ x y, st = .int y :: .int x :: st' ∧ C = f x y ∧ off' = off := by
  unfold b_bin at h
  split at h
  next => cases h; exact ⟨_, _, rfl, rfl, rfl⟩
  next => cases h
theorem gg_br2 {pc tgt : Nat} {L : List (Option Value)} {st st' : List Value} {w : Wd} {C C' : Prop}
    (hW : ∀ (q : Nat → Nat) {H : Heap} {locs : List Loc} {cells slots : Nat} {ls : Array Slot}, (C → W p l e R s m args below meth c H locs cells slots Q (F0 m tgt ls (st'.map (tV q)))) → (C' → W p l e R s m args below meth c H locs cells slots Q (F0 m (pc + 3) ls (st'.map (tV q)))) → W p l e R s m args below meth c H locs cells slots Q (F0 m pc ls (st.map (tV q))))
    (kt : C → GG p l e R s m args below meth c D cT nL q0 w0 sz Q bc bs w tgt L st') (kf : C' → GG p l e R s m args below meth c D cT nL q0 w0 sz Q bc bs w (pc + 3) L st') : GG p l e R s m args below meth c D cT nL q0 w0 sz Q bc bs w pc L st := by
  intro q H locs ls cells slots h1 h2 h3 h4 h5 h6 h7
  exact hW q (fun h => kt h q H locs ls cells slots h1 h2 h3 h4 h5 h6 h7) (fun h => kf h q H locs ls cells slots h1 h2 h3 h4 h5 h6 h7)
/-- a conditional jump -/
theorem gg_br {own : String} {code : ByteArray} (X : FX p s m args meth c D cT nL sz own code) {i : Instr} {pc tgt : Nat} {off : Int} {L : List (Option Value)} {st st' : List Value} {w : Wd} {C : Prop} (hd : decode code pc = .ok (i, 3)) (hs : aB i st = some (C, off, st')) (ht : (pc : Int) + off = (tgt : Int))
    (kt : C → GG p l e R s m args below meth c D cT nL q0 w0 sz Q bc bs w tgt L st') (kf : ¬ C → GG p l e R s m args below meth c D cT nL q0 w0 sz Q bc bs w (pc + 3) L st') : GG p l e R s m args below meth c D cT nL q0 w0 sz Q bc bs w pc L st := by
  obtain ⟨hx, hb, hml, hown, hts, hK, hlk, hsz⟩ := X
  cases i
  case ifCond cd o =>
    cases cd <;> obtain ⟨x, rfl, rfl, rfl⟩ := iv_bu hs
    · exact gg_br2 (fun q _ _ _ _ _ a b => lv_if_eq hx hb hd ht a b) kt kf
    · exact gg_br2 (fun q _ _ _ _ _ a b => lv_if_ne hx hb hd ht a (fun z => b (fun y => y z))) kt kf
    · exact gg_br2 (fun q _ _ _ _ _ a b => lv_if_lt hx hb hd ht a b) kt kf
    · exact gg_br2 (fun q _ _ _ _ _ a b => lv_if_ge hx hb hd ht a b) kt kf
    · exact gg_br2 (fun q _ _ _ _ _ a b => lv_if_gt hx hb hd ht a b) kt kf
    · exact gg_br2 (fun q _ _ _ _ _ a b => lv_if_le hx hb hd ht a b) kt kf
  case if_icmp cd o =>
    cases cd <;> obtain ⟨x, y, rfl, rfl, rfl⟩ := iv_bb hs
    · exact gg_br2 (fun q _ _ _ _ _ a b => lv_icmp_eq hx hb hd ht a b) kt kf
    · exact gg_br2 (fun q _ _ _ _ _ a b => lv_icmp_ne hx hb hd ht a (fun z => b (fun y => y z))) kt kf
    · exact gg_br2 (fun q _ _ _ _ _ a b => lv_icmp_lt hx hb hd ht a b) kt kf
    · exact gg_br2 (fun q _ _ _ _ _ a b => lv_icmp_ge hx hb hd ht a b) kt kf
    · exact gg_br2 (fun q _ _ _ _ _ a b => lv_icmp_gt hx hb hd ht a b) kt kf
    · exact gg_br2 (fun q _ _ _ _ _ a b => lv_icmp_le hx hb hd ht a b) kt kf
  all_goals (exact absurd hs (by simp [aB]))
theorem gg_tsI {own : String} {code : ByteArray} (X : FX p s m args meth c D cT nL sz own code) {dflt lo hi : Int} {offs : Array Int} {len pc tgt k : Nat} {off : Int} {L : List (Option Value)} {st : List Value} {w : Wd} {x : Int32} (hd : decode code pc = .ok (.tableswitch dflt lo hi offs, len)) (hx1 : x.toInt = lo + k) (hk : lo + k ≤ hi) (ho : offs[k]? = some off) (ht : (pc : Int) + off = (tgt : Int))
    (kk : GG p l e R s m args below meth c D cT nL q0 w0 sz Q bc bs w tgt L st) : GG p l e R s m args below meth c D cT nL q0 w0 sz Q bc bs w pc L (.int x :: st) := by
  obtain ⟨hx, hb, hml, hown, hts, hK, hlk, hsz⟩ := X
  exact gg_stk (fun q _ _ _ _ _ _ _ k9 => lv_tableIn hx hb hd (by omega) (by omega) (by rw [hx1, show (lo + (k : Int) - lo).toNat = k by omega]; exact ho) ht k9) kk
theorem gg_tsO {own : String} {code : ByteArray} (X : FX p s m args meth c D cT nL sz own code) {dflt lo hi : Int} {offs : Array Int} {len pc tgt : Nat} {L : List (Option Value)} {st : List Value} {w : Wd} {x : Int32} (hd : decode code pc = .ok (.tableswitch dflt lo hi offs, len)) (hx1 : x.toInt < lo ∨ hi < x.toInt) (ht : (pc : Int) + dflt = (tgt : Int))
    (kk : GG p l e R s m args below meth c D cT nL q0 w0 sz Q bc bs w tgt L st) : GG p l e R s m args below meth c D cT nL q0 w0 sz Q bc bs w pc L (.int x :: st) := by
  obtain ⟨hx, hb, hml, hown, hts, hK, hlk, hsz⟩ := X
  exact gg_stk (fun q _ _ _ _ _ _ _ k9 => lv_tableOut hx hb hd hx1 ht k9) kk
/-- the core of a call -/
theorem gg_call {code : ByteArray} {own : String} (X : FX p s m args meth c D cT nL sz own code) {y : MethodName} {ycode : ByteArray} {ynL fr lo : Nat} {yret : Option FieldType} {As : List Value} {wc : Wd} {E : Option Value → Wd → Prop} (K : Runs l D cT y ycode ynL yret fr lo As wc E)
    {pc : Nat} {L : List (Option Value)} {rest st : List Value} {w : Wd} (ρ : List Nat) (hnd : ρ.Nodup) (hle0 : wc.length ≤ ρ.length ∧ ρ.length ≤ 1000) (hXS : SS cT (AF q0 w0 sz) s s.heap ∧ Zq cT q0 ∧ w0.length ≤ 1000) (hw : (ρ.take wc.length).map (fun k => w[k]?) = wc.map (fun x => some (rS ρ w.length x))) (hst : st = (As.map (rV ρ w.length)).reverse ++ rest)
    (hrun : ∀ (q : Nat → Nat) (H : Heap) (locs : List Loc) (cells slots : Nat) (ls : Array Slot), RP D cT q w H → LQ nL q L ls → cells ≤ bc → slots ≤ bs → Zq cT (fun i => q (rn ρ w.length i)) → va_S (AF q0 w0 sz) s.heap H locs → (∀ U : State, U.heap = H → s.WarmedH U.vm → va_Pc (As.map (tV (fun i => q (rn ρ w.length i)))) (PcB D cT (fun i => q (rn ρ w.length i)) wc H.size) ((As.map (tV (fun i => q (rn ρ w.length i)))).toArray) U) →
      va_Run p l e R s m args below meth c H locs cells slots (potC wc) (potS wc) (F0 m pc ls (st.map (tV q))) (rest.map (tV q)) (QcOf E D cT (fun i => q (rn ρ w.length i)) wc H.size ((As.map (tV (fun i => q (rn ρ w.length i)))).toArray)) (AF (fun i => q (rn ρ w.length i)) wc H.size))
    (hR : potC wc = 0 ∨ (NRW w ∧ (L.all (fun o => match o with | some (.ref j) => prs w j | _ => true) && rest.all (fun v => match v with | .ref j => prs w j | _ => true)) = true))
    (kk : ∀ (r : Option Value) (wc' : Wd), E r wc' → wc'.length = wc.length → GG p l e R s m args below meth c D cT nL q0 w0 sz Q (bc + potC wc) (bs + potS wc) (putL (ρ.take wc.length) (wc'.map (rS ρ w.length)) w) (pc + 3) L ((r.map (rV ρ w.length)).toList ++ rest)) : GG p l e R s m args below meth c D cT nL q0 w0 sz Q bc bs w pc L st := by
  obtain ⟨hx, hb, hml, hown, hts, hK, hlk, hsz⟩ := X
  obtain ⟨hSS, hZq, hl0⟩ := hXS
  obtain ⟨hle, hρ⟩ := hle0
  intro q H locs ls cells slots h1 h2 h3 h4 h5 h6 h7 T hT XT
  have hZc : Zq cT (fun i => q (rn ρ w.length i)) := by
    intro j
    have e1 : rn ρ w.length (1000 + j) = 1000 + j := by
      unfold rn
      rw [List.getD_eq_getElem?_getD, List.getElem?_eq_none (by omega)]
      have := h1.2.2
      exact if_neg (by omega)
    show q (rn ρ w.length (1000 + j)) = _
    rw [e1, h1.1 (1000 + j) (Or.inr (by omega)), hZq j]
  generalize hB : w.length = B at *
  generalize hqc : (fun i => q (rn ρ B i)) = qc at *
  have hqc' : ∀ i, qc i = q (rn ρ B i) := fun i => by rw [← hqc]
  have hrn : ∀ i k, ρ[i]? = some k → rn ρ B i = k := fun i k h => by unfold rn; rw [List.getD_eq_getElem?_getD, h]; rfl
  have hidx : ∀ i, i < wc.length → ∃ k, ρ[i]? = some k := fun i hi => ⟨_, List.getElem?_eq_getElem (by omega)⟩
  have hget : ∀ (i : Nat) (x : Nat ⊕ va_E), wc[i]? = some x → ∃ k, ρ[i]? = some k ∧ w[k]? = some (rS ρ B x) := by
    intro i x hi
    have hl : i < wc.length := (List.getElem?_eq_some_iff.mp hi).1
    obtain ⟨k, hk⟩ := hidx i hl
    have h9 := congrArg (fun z => z[i]?) hw
    simp only [List.getElem?_map, List.getElem?_take, if_pos hl, hk, hi, Option.map_some, Option.some.injEq] at h9
    exact ⟨k, hk, h9⟩
  have hcell : ∀ i e, wA wc i = some e → ∃ k, ρ[i]? = some k ∧ wA w k = some (rE ρ B e) := by
    intro i e he
    obtain ⟨k, hk, hwk⟩ := hget i _ (wA_iff.mp he)
    exact ⟨k, hk, wA_iff.mpr hwk⟩
  have hRPc : RP D cT qc wc H := by
    intro i e he
    obtain ⟨k, hk, hwk⟩ := hcell i e he
    have h9 := h2 k _ hwk
    rw [tE_rE, hqc] at h9
    rw [hqc' i, hrn i k hk]
    exact h9
  have hDPc : DP (fun _ => True) qc wc := by
    refine ⟨fun i j a b ha hb' hab => ?_, fun _ _ _ => trivial⟩
    obtain ⟨k, hk, hwk⟩ := hcell i a ha
    obtain ⟨k2, hk2, hwk2⟩ := hcell j b hb'
    rw [hqc' i, hqc' j, hrn i k hk, hrn j k2 hk2] at hab
    have := h3.1 k k2 _ _ hwk hwk2 hab
    subst this
    exact nodup_inj ρ hnd i j k hk hk2
  have hAA : ∀ a, AF qc wc H.size a → AF q0 w0 sz a := by
    rintro a (⟨i, e, he, rfl⟩ | h)
    · obtain ⟨k, hk, hwk⟩ := hcell i e he
      rw [hqc' i, hrn i k hk]
      exact h3.2 k _ hwk
    · exact Or.inr (by rw [hsz]; exact Nat.le_trans h4.1 h)
  obtain ⟨v, st₀, t, T', Lc, e0, X', hL, e1, e2, ⟨⟨r, q'c, w'c, hv, hE, hX, hRP, hDP⟩, hz, hkf⟩, stp⟩ := hrun q H locs cells slots ls h2 h5 h6 h7 (by rw [hqc]; exact hZc) h4 (fun U hU hW => by rw [hqc]; exact ⟨rfl, by rw [hU], by rw [hU]; exact hRPc, hDPc, KK.warm hW hK, by rw [hU]; exact (SS.warm hW (hSS.kept h4.2.1)).narrow hAA⟩) T hT XT
  rw [hqc] at hX hDP hkf hL
  rw [e0] at hz hkf
  have hv' : v = r.map (tV q'c) := Outcome.returned.inj hv
  -- the new names
  have hex : ∃ q' : Nat → Nat, (∀ i k, i < wc.length → ρ[i]? = some k → q' k = q'c i) ∧ (∀ k, (¬ ∃ i, i < wc.length ∧ ρ[i]? = some k) → q' k = q k) := by
    refine ⟨fun k => by classical exact if h : ∃ i, i < wc.length ∧ ρ[i]? = some k then q'c (Classical.choose h) else q k, fun i k hi hk => ?_, fun k h => ?_⟩
    · have h : ∃ i, i < wc.length ∧ ρ[i]? = some k := ⟨i, hi, hk⟩
      have h9 := Classical.choose_spec h
      show (if h : ∃ i, i < wc.length ∧ ρ[i]? = some k then q'c (Classical.choose h) else q k) = _
      rw [dif_pos h, nodup_inj ρ hnd _ i k h9.2 hk]
    · show (if h : ∃ i, i < wc.length ∧ ρ[i]? = some k then q'c (Classical.choose h) else q k) = _
      rw [dif_neg h]
  obtain ⟨q', f1, f2⟩ := hex
  have hlt : ∀ i k, i < wc.length → ρ[i]? = some k → k < w.length := by
    intro i k hi hk
    obtain ⟨k2, hk2, h9⟩ := hget i _ (List.getElem?_eq_getElem hi)
    rw [hk] at hk2
    cases hk2
    exact (List.getElem?_eq_some_iff.mp h9).1
  have f3 : ∀ j, q' (rn ρ B j) = q'c j := by
    intro j
    by_cases hj : j < wc.length
    · obtain ⟨k, hk⟩ := hidx j hj
      rw [hrn j k hk]
      exact f1 j k hj hk
    · rw [hX.1 j (Or.inr (by omega)), hqc' j]
      refine f2 _ ?_
      rintro ⟨i, hi, hk⟩
      by_cases hj2 : j < ρ.length
      · rw [hrn j _ (List.getElem?_eq_getElem hj2)] at hk
        have := nodup_inj ρ hnd i j _ hk (List.getElem?_eq_getElem hj2)
        omega
      · have h9 : rn ρ B j = if j < B then B + j else j := by unfold rn; rw [List.getD_eq_getElem?_getD, List.getElem?_eq_none (by omega)]; rfl
        rw [h9] at hk
        have := hlt i _ hi hk
        split at this <;> omega
  have f4 : ∀ k e, wA w k = some e → q' k = q k := by
    intro k e he
    by_cases hk : ∃ i, i < wc.length ∧ ρ[i]? = some k
    · obtain ⟨i, hi, hk⟩ := hk
      rw [f1 i k hi hk]
      obtain ⟨k2, hk2, h9⟩ := hget i _ (List.getElem?_eq_getElem hi)
      rw [hk] at hk2
      cases hk2
      rw [wA_iff] at he
      rw [he] at h9
      have h10 : ∃ e', wA wc i = some e' := by
        cases hx9 : wc[i] with
        | inl n => rw [hx9] at h9; cases h9
        | inr e' => exact ⟨e', wA_iff.mpr (by rw [List.getElem?_eq_getElem hi, hx9])⟩
      rw [hX.1 i (Or.inl h10), hqc' i, hrn i k hk]
    · exact f2 k hk
  have f5 : potC wc = 0 → q' = q := by
    intro h0
    funext k
    by_cases hk : ∃ i, i < wc.length ∧ ρ[i]? = some k
    · obtain ⟨i, hi, hk⟩ := hk
      rw [f1 i k hi hk]
      have h10 : ∃ e', wA wc i = some e' := by
        have : ∀ (u : Wd) (i : Nat), potC u = 0 → i < u.length → ∃ e', wA u i = some e' := by
          intro u
          induction u with
          | nil => intro i _ h; simp at h
          | cons a u ih =>
            intro i h hi
            cases a with
            | inl n => simp [potC] at h
            | inr e =>
              cases i with
              | zero => exact ⟨e, rfl⟩
              | succ i =>
                obtain ⟨e', h9⟩ := ih i (by simpa [potC] using h) (by simpa using hi)
                exact ⟨e', by rw [wA_iff] at h9 ⊢; simpa using h9⟩
        exact this wc i h0 hi
      rw [hX.1 i (Or.inl h10), hqc' i, hrn i k hk]
    · exact f2 k hk
  have hksn : (ρ.take wc.length).Nodup := List.Nodup.sublist (List.take_sublist _ _) hnd
  have hksg : ∀ i k, i < wc.length → ρ[i]? = some k → (ρ.take wc.length)[i]? = some k := fun i k hi hk => by rw [List.getElem?_take, if_pos hi, hk]
  have hksm : ∀ k, k ∈ ρ.take wc.length ↔ ∃ i, i < wc.length ∧ ρ[i]? = some k := by
    intro k
    constructor
    · intro h
      obtain ⟨i, hi⟩ := List.getElem?_of_mem h
      rw [List.getElem?_take] at hi
      split at hi
      next h9 => exact ⟨i, h9, hi⟩
      next => cases hi
    · rintro ⟨i, hi, hk⟩
      exact List.mem_of_getElem? (hksg i k hi hk)
  obtain ⟨w', hw'⟩ : ∃ w', putL (ρ.take wc.length) (w'c.map (rS ρ B)) w = w' := ⟨_, rfl⟩
  have win : ∀ i k, i < wc.length → ρ[i]? = some k → w'[k]? = (w'c[i]?).map (rS ρ B) := by
    intro i k hi hk
    rw [← hw', putL_in _ _ _ i k hksn (hksg i k hi hk) (hlt i k hi hk) (by rw [List.length_map, hX.2.2]; exact hi), List.getElem?_map]
  have wout : ∀ k, (¬ ∃ i, i < wc.length ∧ ρ[i]? = some k) → w'[k]? = w[k]? := by
    intro k hk
    rw [← hw', putL_out _ _ _ k (fun h => hk ((hksm k).mp h))]
  have wain : ∀ i k e, i < wc.length → ρ[i]? = some k → wA w' k = some e → ∃ e', wA w'c i = some e' ∧ e = rE ρ B e' := by
    intro i k e hi hk he
    rw [wA_iff, win i k hi hk] at he
    cases hx9 : w'c[i]? with
    | none => rw [hx9] at he; cases he
    | some x =>
      rw [hx9] at he
      cases x with
      | inl n => cases he
      | inr e' =>
        cases he
        exact ⟨e', wA_iff.mpr hx9, rfl⟩
  have waout : ∀ k, (¬ ∃ i, i < wc.length ∧ ρ[i]? = some k) → wA w' k = wA w k := by
    intro k hk
    unfold wA
    rw [wout k hk]
  have hclt : ∀ k e, wA w k = some e → q k < H.size := fun k e he => (h2 k e he).lt
  have hAFn : ∀ k e, (¬ ∃ i, i < wc.length ∧ ρ[i]? = some k) → wA w k = some e → ¬ AF qc wc H.size (q k) := by
    rintro k e hk he (⟨i, e', he', hq9⟩ | h)
    · obtain ⟨k2, hk2, hwk2⟩ := hcell i e' he'
      rw [hqc' i, hrn i k2 hk2] at hq9
      have := h3.1 k2 k _ _ hwk2 he hq9
      subst this
      exact hk ⟨i, wA_lt he', hk2⟩
    · have := hclt k e he
      omega
  have fP : ∀ j, prs w j = true → q' j = q j := by
    intro j hj
    rcases Bool.or_eq_true _ _ |>.mp hj with hj | hj
    · obtain ⟨x, hx⟩ := Option.isSome_iff_exists.mp hj
      exact f4 j x hx
    · refine f2 j ?_
      rintro ⟨i, hi, hk9⟩
      have h8 := hlt i j hi hk9
      have h7 := Nat.le_of_ble_eq_true hj
      omega
  have htE : ∀ k e, (¬ ∃ i, i < wc.length ∧ ρ[i]? = some k) → wA w k = some e → tE cT q' e = tE cT q e := by
    intro k e hk he
    rcases hR with h0 | ⟨h0, -⟩
    · rw [f5 h0]
    · exact tE_NR fP (h0 k e he)
  have hvals : (∀ v, some v ∈ L → tV q' v = tV q v) ∧ ∀ v ∈ rest, tV q' v = tV q v := by
    rcases hR with h0 | ⟨-, h0⟩
    · rw [f5 h0]
      exact ⟨fun _ _ => rfl, fun _ _ => rfl⟩
    · rw [Bool.and_eq_true, List.all_eq_true, List.all_eq_true] at h0
      refine ⟨fun v hv => ?_, fun v hv => ?_⟩
      · have h9 := h0.1 _ hv
        cases v with
        | ref j =>
          exact congrArg Value.ref (fP j h9)
        | _ => rfl
      · have h9 := h0.2 _ hv
        cases v with
        | ref j =>
          exact congrArg Value.ref (fP j h9)
        | _ => rfl
  have hlv : ∀ (L : List (Option Value)) (i : Nat), (∀ v, some v ∈ L → tV q' v = tV q v) → lvl q' i L = lvl q i L := by
    intro L
    induction L with
    | nil => intro i _; rfl
    | cons a L ih =>
      intro i h
      cases a with
      | none => exact ih (i + 1) (fun v hv => h v (List.mem_cons_of_mem _ hv))
      | some v =>
        show (i, tV q' v) :: _ = (i, tV q v) :: _
        rw [h v List.mem_cons_self, ih (i + 1) (fun v hv => h v (List.mem_cons_of_mem _ hv))]
  have hstk : v.toList ++ rest.map (tV q) = (((r.map (rV ρ B)).toList ++ rest)).map (tV q') := by
    rw [List.map_append, hv']
    congr 1
    · cases r with
      | none => rfl
      | some u =>
        show [tV q'c u] = [tV q' (tV (rn ρ B) u)]
        rw [tV_tV, tV_eq (fun j => f3 j)]
    · exact List.map_congr_left (fun u hu => (hvals.2 u hu).symm)
  have hExt : Ext q w q' w' := by
    refine ⟨fun k hk => ?_, fun k e he => ?_, by rw [← hw', putL_len]⟩
    · rcases hk with ⟨e, he⟩ | hk
      · exact f4 k e he
      · refine f2 k ?_
        rintro ⟨i, hi, hk2⟩
        have := hlt i k hi hk2
        omega
    · by_cases hk : ∃ i, i < wc.length ∧ ρ[i]? = some k
      · obtain ⟨i, hi, hk⟩ := hk
        obtain ⟨k2, hk2, h9⟩ := hget i _ (List.getElem?_eq_getElem hi)
        rw [hk] at hk2
        cases hk2
        rw [wA_iff] at he
        rw [he] at h9
        cases hx9 : wc[i] with
        | inl n => rw [hx9] at h9; cases h9
        | inr e' =>
          obtain ⟨e2, he2⟩ := hX.2.1 i e' (wA_iff.mpr (by rw [List.getElem?_eq_getElem hi, hx9]))
          exact ⟨rE ρ B e2, wA_iff.mpr (by rw [win i k hi hk, wA_iff.mp he2]; rfl)⟩
      · exact ⟨e, by rw [waout k hk]; exact he⟩
  have hRP' : RP D cT q' w' t.heap := by
    intro k e he
    by_cases hk : ∃ i, i < wc.length ∧ ρ[i]? = some k
    · obtain ⟨i, hi, hk⟩ := hk
      obtain ⟨e', he', rfl⟩ := wain i k e hi hk he
      rw [tE_rE, tE_eq f3, f1 i k hi hk]
      exact hRP i e' he'
    · rw [waout k hk] at he
      rw [htE k e hk he, f4 k e he]
      exact (h2 k e he).kept (hkf (q k) (hclt k e he) (hAFn k e hk he))
  have hDP' : DP (AF q0 w0 sz) q' w' := by
    have hsrc : ∀ i e', wA w'c i = some e' → ∀ k2 e2, (¬ ∃ i, i < wc.length ∧ ρ[i]? = some k2) → wA w k2 = some e2 → q'c i ≠ q k2 := by
      intro i e' he' k2 e2 hk2 he2 hq9
      exact hAFn k2 e2 hk2 he2 (hq9 ▸ hDP.2 i e' he')
    refine ⟨fun i j a b ha hb' hab => ?_, fun k e he => ?_⟩
    · by_cases hi : ∃ i', i' < wc.length ∧ ρ[i']? = some i <;> by_cases hj : ∃ j', j' < wc.length ∧ ρ[j']? = some j
      · obtain ⟨i', hi', hi⟩ := hi
        obtain ⟨j', hj', hj⟩ := hj
        obtain ⟨a', ha', -⟩ := wain i' i a hi' hi ha
        obtain ⟨b', hb9, -⟩ := wain j' j b hj' hj hb'
        rw [f1 i' i hi' hi, f1 j' j hj' hj] at hab
        have := hDP.1 i' j' a' b' ha' hb9 hab
        subst this
        rw [hi] at hj
        exact Option.some.inj hj
      · obtain ⟨i', hi', hi⟩ := hi
        obtain ⟨a', ha', -⟩ := wain i' i a hi' hi ha
        rw [waout j hj] at hb'
        rw [f1 i' i hi' hi, f4 j b hb'] at hab
        exact absurd hab (hsrc i' a' ha' j b hj hb')
      · obtain ⟨j', hj', hj⟩ := hj
        obtain ⟨b', hb9, -⟩ := wain j' j b hj' hj hb'
        rw [waout i hi] at ha
        rw [f1 j' j hj' hj, f4 i a ha] at hab
        exact absurd hab.symm (hsrc j' b' hb9 i a hi ha)
      · rw [waout i hi] at ha
        rw [waout j hj] at hb'
        rw [f4 i a ha, f4 j b hb'] at hab
        exact h3.1 i j a b ha hb' hab
    · by_cases hk : ∃ i, i < wc.length ∧ ρ[i]? = some k
      · obtain ⟨i, hi, hk⟩ := hk
        obtain ⟨e', he', -⟩ := wain i k e hi hk he
        rw [f1 i k hi hk]
        exact hAA _ (hDP.2 i e' he')
      · rw [waout k hk] at he
        rw [f4 k e he]
        exact h3.2 k e he
  have kk9 := kk r w'c hE hX.2.2
  rw [hw'] at kk9
  obtain ⟨t2, a1, b1⟩ := kk9 q' t.heap (locs ++ Lc) ls (cells + potC wc) (slots + potS wc) (h1.tr hExt) hRP' hDP'
    ⟨Nat.le_trans h4.1 hz, fun a g1 g2 => by rw [hkf a (Nat.lt_of_lt_of_le g1 h4.1) (fun z => g2 (hAA a z))]; exact h4.2.1 a g1 g2, fun x hx => by
      rcases List.mem_append.mp hx with h | h
      · exact h4.2.2 x h
      · exact hAA _ (hL x h)⟩
    ⟨by rw [hlv L 0 hvals.1]; exact h5.1, h5.2⟩ (by omega) (by omega) T' e1 X'
  refine ⟨t2, stp t2 ?_, b1⟩
  rw [← hstk] at a1
  exact a1
end CLL
