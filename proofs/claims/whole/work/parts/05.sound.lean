/-! ===== soundness of the abstract machine ===== -/
section SND
variable {p : Program} {l : Launch} {e : Env} {R : Room} {s : State} {m : MethodId} {args : Array Value} {below : List Frame} {meth : Method} {c : Code}
variable {D : va_G} {cT : Nat → ClassId} {nL : Nat} {q0 : Nat → Nat} {w0 : Wd} {sz : Nat} {Q : State → Prop} {bc bs : Nat}
def GG (p : Program) (l : Launch) (e : Env) (R : Room) (s : State) (m : MethodId) (args : Array Value) (below : List Frame) (meth : Method) (c : Code) (D : va_G) (cT : Nat → ClassId) (nL : Nat) (q0 : Nat → Nat) (w0 : Wd) (sz : Nat) (Q : State → Prop) (bc bs : Nat) (w : Wd) (pc : Nat) (L : List (Option Value)) (st : List Value) : Prop :=
  ∀ (q : Nat → Nat) (H : Heap) (locs : List Loc) (ls : Array Slot) (cells slots : Nat), Ext q0 w0 q w → RP D cT q w H → DP (AF q0 w0 sz) q w → va_S (AF q0 w0 sz) s.heap H locs → LQ nL q L ls → cells ≤ bc → slots ≤ bs → W p l e R s m args below meth c H locs cells slots Q (F0 m pc ls (st.map (tV q)))
/-- what holds of a frame all along -/
def FX (p : Program) (s : State) (m : MethodId) (args : Array Value) (meth : Method) (c : Code) (D : va_G) (cT : Nat → ClassId) (nL : Nat) (sz : Nat) (own : String) (code : ByteArray) : Prop :=
  p.tables.exec = Jvm.exec ∧ c.code = code ∧ c.maxLocals = nL ∧ s.vm.findClass own = some m.cls ∧ (∀ w ∈ gw, w.before args s = true) ∧ KK D cT s ∧ meth.locks = false ∧ sz = s.heap.size
theorem gg_push {code : ByteArray} {n : Nat} {v : Value} {pc : Nat} {L : List (Option Value)} {st : List Value} {w w' : Wd} {P : Option Prop} {pc' : Nat} {L' : List (Option Value)} {st' : List Value}
    (hs : h_push n v (pc, L, st, w) = some (P, pc', L', st', w')) (hv : ∀ q, tV q v = v)
    (hW : ∀ {H : Heap} {locs : List Loc} {cells slots : Nat} {ls : Array Slot} {rest : List Value}, W p l e R s m args below meth c H locs cells slots Q (F0 m (pc + n) ls (v :: rest)) → W p l e R s m args below meth c H locs cells slots Q (F0 m pc ls rest))
    (k : GG p l e R s m args below meth c D cT nL q0 w0 sz Q bc bs w' pc' L' st') : GG p l e R s m args below meth c D cT nL q0 w0 sz Q bc bs w pc L st := by
  cases hs
  intro q H locs ls cells slots h1 h2 h3 h4 h5 h6 h7
  refine hW ?_
  have := k q H locs ls cells slots h1 h2 h3 h4 h5 h6 h7
  rwa [List.map_cons, hv q] at this
/-- a step that neither writes the heap nor the locals: the stack alone changes -/
theorem gg_stk {pc pc' : Nat} {L : List (Option Value)} {st st' : List Value} {w : Wd}
    (hW : ∀ (q : Nat → Nat) {H : Heap} {locs : List Loc} {cells slots : Nat} {ls : Array Slot}, RP D cT q w H → LQ nL q L ls → W p l e R s m args below meth c H locs cells slots Q (F0 m pc' ls (st'.map (tV q))) → W p l e R s m args below meth c H locs cells slots Q (F0 m pc ls (st.map (tV q))))
    (k : GG p l e R s m args below meth c D cT nL q0 w0 sz Q bc bs w pc' L st') : GG p l e R s m args below meth c D cT nL q0 w0 sz Q bc bs w pc L st := by
  intro q H locs ls cells slots h1 h2 h3 h4 h5 h6 h7
  exact hW q h2 h5 (k q H locs ls cells slots h1 h2 h3 h4 h5 h6 h7)
theorem iv_ldi {n i pc pc' : Nat} {L L' : List (Option Value)} {st st' : List Value} {w w' : Wd} {P : Option Prop} (h : h_ldi n i (pc, L, st, w) = some (P, pc', L', st', w')) : ∃ x, L[i]? = some (some (.int x)) ∧ P = none ∧ pc' = pc + n ∧ L' = L ∧ st' = .int x :: st ∧ w' = w := by
  dsimp only [h_ldi] at h
  split at h
  next x hx => cases h; exact ⟨x, hx, rfl, rfl, rfl, rfl, rfl⟩
  next => cases h
theorem iv_ldl {n i pc pc' : Nat} {L L' : List (Option Value)} {st st' : List Value} {w w' : Wd} {P : Option Prop} (h : h_ldl n i (pc, L, st, w) = some (P, pc', L', st', w')) : ∃ x, L[i]? = some (some (.long x)) ∧ P = none ∧ pc' = pc + n ∧ L' = L ∧ st' = .long x :: st ∧ w' = w := by
  dsimp only [h_ldl] at h
  split at h
  next x hx => cases h; exact ⟨x, hx, rfl, rfl, rfl, rfl, rfl⟩
  next => cases h
theorem iv_lda {n i pc pc' : Nat} {L L' : List (Option Value)} {st st' : List Value} {w w' : Wd} {P : Option Prop} (h : h_lda n i (pc, L, st, w) = some (P, pc', L', st', w')) : ∃ x, L[i]? = some (some (.ref x)) ∧ P = none ∧ pc' = pc + n ∧ L' = L ∧ st' = .ref x :: st ∧ w' = w := by
  dsimp only [h_lda] at h
  split at h
  next x hx => cases h; exact ⟨x, hx, rfl, rfl, rfl, rfl, rfl⟩
  next => cases h
theorem blt_and {a b : Nat} {c : Bool} (h : (Nat.blt a b && c) = true) : a < b ∧ c = true := by
  rw [Bool.and_eq_true] at h
  exact ⟨by simpa using h.1, h.2⟩
theorem iv_sti {n i pc pc' : Nat} {L L' : List (Option Value)} {st st' : List Value} {w w' : Wd} {P : Option Prop} (h : h_sti n i (pc, L, st, w) = some (P, pc', L', st', w')) : ∃ x, st = .int x :: st' ∧ i < L.length ∧ okS L i = true ∧ P = none ∧ pc' = pc + n ∧ L' = stO L i (.int x) ∧ w' = w := by
  unfold h_sti at h
  split at h
  next hx =>
    cases hx
    split at h
    next hb => cases h; exact ⟨_, rfl, (blt_and hb).1, (blt_and hb).2, rfl, rfl, rfl, rfl⟩
    next => cases h
  next => cases h
theorem iv_sta {n i pc pc' : Nat} {L L' : List (Option Value)} {st st' : List Value} {w w' : Wd} {P : Option Prop} (h : h_sta n i (pc, L, st, w) = some (P, pc', L', st', w')) : ∃ x, st = .ref x :: st' ∧ i < L.length ∧ okS L i = true ∧ P = none ∧ pc' = pc + n ∧ L' = stO L i (.ref x) ∧ w' = w := by
  unfold h_sta at h
  split at h
  next hx =>
    cases hx
    split at h
    next hb => cases h; exact ⟨_, rfl, (blt_and hb).1, (blt_and hb).2, rfl, rfl, rfl, rfl⟩
    next => cases h
  next => cases h
theorem iv_stl {n i pc pc' : Nat} {L L' : List (Option Value)} {st st' : List Value} {w w' : Wd} {P : Option Prop} (h : h_stl n i (pc, L, st, w) = some (P, pc', L', st', w')) : ∃ x, st = .long x :: st' ∧ i + 1 < L.length ∧ okS L i = true ∧ P = none ∧ pc' = pc + n ∧ L' = stT L i (.long x) ∧ w' = w := by
  unfold h_stl at h
  split at h
  next hx =>
    cases hx
    split at h
    next hb => cases h; exact ⟨_, rfl, (blt_and hb).1, (blt_and hb).2, rfl, rfl, rfl, rfl⟩
    next => cases h
  next => cases h
theorem iv_inc {i pc pc' : Nat} {u v : Int32} {L L' : List (Option Value)} {st st' : List Value} {w w' : Wd} {P : Option Prop} (h : h_inc i u v (pc, L, st, w) = some (P, pc', L', st', w')) : ∃ x, u = v ∧ L[i]? = some (some (.int x)) ∧ i < L.length ∧ okS L i = true ∧ P = none ∧ pc' = pc + 3 ∧ L' = stO L i (.int (x + v)) ∧ st' = st ∧ w' = w := by
  dsimp only [h_inc] at h
  split at h
  next hd =>
    split at h
    next x hx =>
      split at h
      next hb => cases h; exact ⟨x, of_decide_eq_true hd, hx, (blt_and hb).1, (blt_and hb).2, rfl, rfl, rfl, rfl, rfl⟩
      next => cases h
    next => cases h
  next => cases h
theorem iv_c {n pc pc' : Nat} {u v : Int32} {L L' : List (Option Value)} {st st' : List Value} {w w' : Wd} {P : Option Prop} (h : h_c n u v (pc, L, st, w) = some (P, pc', L', st', w')) : u = v ∧ P = none ∧ pc' = pc + n ∧ L' = L ∧ st' = .int v :: st ∧ w' = w := by
  dsimp only [h_c] at h
  split at h
  next hd => cases h; exact ⟨of_decide_eq_true hd, rfl, rfl, rfl, rfl, rfl⟩
  next => cases h
theorem l01_ok (n : Fin 2) : Int64.ofNat (n : Nat) = l01 n := by
  match n with
  | ⟨0, _⟩ => rfl
  | ⟨1, _⟩ => rfl
theorem iv_bin {f : Int32 → Int32 → Int32} {pc pc' : Nat} {L L' : List (Option Value)} {st st' : List Value} {w w' : Wd} {P : Option Prop} (h : h_bin f (pc, L, st, w) = some (P, pc', L', st', w')) : ∃ x y r, st = .int y :: .int x :: r ∧ P = none ∧ pc' = pc + 1 ∧ L' = L ∧ st' = .int (f x y) :: r ∧ w' = w := by
  unfold h_bin at h
  split at h
  next hx => cases hx; cases h; exact ⟨_, _, _, rfl, rfl, rfl, rfl, rfl, rfl⟩
  next => cases h
theorem iv_bin0 {f : Int32 → Int32 → Int32} {pc pc' : Nat} {L L' : List (Option Value)} {st st' : List Value} {w w' : Wd} {P : Option Prop} (h : h_bin0 f (pc, L, st, w) = some (P, pc', L', st', w')) : ∃ x y r, st = .int y :: .int x :: r ∧ P = some (¬ y = 0) ∧ pc' = pc + 1 ∧ L' = L ∧ st' = .int (f x y) :: r ∧ w' = w := by
  unfold h_bin0 at h
  split at h
  next hx => cases hx; cases h; exact ⟨_, _, _, rfl, rfl, rfl, rfl, rfl, rfl⟩
  next => cases h
theorem iv_un {f : Int32 → Int32} {pc pc' : Nat} {L L' : List (Option Value)} {st st' : List Value} {w w' : Wd} {P : Option Prop} (h : h_un f (pc, L, st, w) = some (P, pc', L', st', w')) : ∃ x r, st = .int x :: r ∧ P = none ∧ pc' = pc + 1 ∧ L' = L ∧ st' = .int (f x) :: r ∧ w' = w := by
  unfold h_un at h
  split at h
  next hx => cases hx; cases h; exact ⟨_, _, rfl, rfl, rfl, rfl, rfl, rfl⟩
  next => cases h
theorem iv_binl {f : Int64 → Int64 → Int64} {pc pc' : Nat} {L L' : List (Option Value)} {st st' : List Value} {w w' : Wd} {P : Option Prop} (h : h_binl f (pc, L, st, w) = some (P, pc', L', st', w')) : ∃ x y r, st = .long y :: .long x :: r ∧ P = none ∧ pc' = pc + 1 ∧ L' = L ∧ st' = .long (f x y) :: r ∧ w' = w := by
  unfold h_binl at h
  split at h
  next hx => cases hx; cases h; exact ⟨_, _, _, rfl, rfl, rfl, rfl, rfl, rfl⟩
  next => cases h
theorem iv_lcmp {pc pc' : Nat} {L L' : List (Option Value)} {st st' : List Value} {w w' : Wd} {P : Option Prop} (h : h_lcmp (pc, L, st, w) = some (P, pc', L', st', w')) : ∃ x y r, st = .long y :: .long x :: r ∧ P = none ∧ pc' = pc + 1 ∧ L' = L ∧ st' = .int (lg_cmp x y) :: r ∧ w' = w := by
  unfold h_lcmp at h
  split at h
  next hx => cases hx; cases h; exact ⟨_, _, _, rfl, rfl, rfl, rfl, rfl, rfl⟩
  next => cases h
theorem iv_lshl {pc pc' : Nat} {L L' : List (Option Value)} {st st' : List Value} {w w' : Wd} {P : Option Prop} (h : h_lshl (pc, L, st, w) = some (P, pc', L', st', w')) : ∃ x y r, st = .int y :: .long x :: r ∧ P = none ∧ pc' = pc + 1 ∧ L' = L ∧ st' = .long (x <<< (y.toInt64 &&& 63)) :: r ∧ w' = w := by
  unfold h_lshl at h
  split at h
  next hx => cases hx; cases h; exact ⟨_, _, _, rfl, rfl, rfl, rfl, rfl, rfl⟩
  next => cases h
theorem iv_i2l {pc pc' : Nat} {L L' : List (Option Value)} {st st' : List Value} {w w' : Wd} {P : Option Prop} (h : h_i2l (pc, L, st, w) = some (P, pc', L', st', w')) : ∃ x r, st = .int x :: r ∧ P = none ∧ pc' = pc + 1 ∧ L' = L ∧ st' = .long x.toInt64 :: r ∧ w' = w := by
  unfold h_i2l at h
  split at h
  next hx => cases hx; cases h; exact ⟨_, _, rfl, rfl, rfl, rfl, rfl, rfl⟩
  next => cases h
theorem iv_l2i {pc pc' : Nat} {L L' : List (Option Value)} {st st' : List Value} {w w' : Wd} {P : Option Prop} (h : h_l2i (pc, L, st, w) = some (P, pc', L', st', w')) : ∃ x r, st = .long x :: r ∧ P = none ∧ pc' = pc + 1 ∧ L' = L ∧ st' = .int x.toInt32 :: r ∧ w' = w := by
  unfold h_l2i at h
  split at h
  next hx => cases hx; cases h; exact ⟨_, _, rfl, rfl, rfl, rfl, rfl, rfl⟩
  next => cases h
theorem iv_dup {pc pc' : Nat} {L L' : List (Option Value)} {st st' : List Value} {w w' : Wd} {P : Option Prop} (h : h_dup (pc, L, st, w) = some (P, pc', L', st', w')) : ∃ v r, st = v :: r ∧ v.category = 1 ∧ P = none ∧ pc' = pc + 1 ∧ L' = L ∧ st' = v :: v :: r ∧ w' = w := by
  unfold h_dup at h
  split at h
  next hx =>
    cases hx
    split at h
    next hb => cases h; exact ⟨_, _, rfl, Nat.eq_of_beq_eq_true hb, rfl, rfl, rfl, rfl, rfl⟩
    next => cases h
  next => cases h
theorem iv_pop {pc pc' : Nat} {L L' : List (Option Value)} {st st' : List Value} {w w' : Wd} {P : Option Prop} (h : h_pop (pc, L, st, w) = some (P, pc', L', st', w')) : ∃ v, st = v :: st' ∧ v.category = 1 ∧ P = none ∧ pc' = pc + 1 ∧ L' = L ∧ w' = w := by
  unfold h_pop at h
  split at h
  next hx =>
    cases hx
    split at h
    next hb => cases h; exact ⟨_, rfl, Nat.eq_of_beq_eq_true hb, rfl, rfl, rfl, rfl⟩
    next => cases h
  next => cases h
theorem iv_dup_x1 {pc pc' : Nat} {L L' : List (Option Value)} {st st' : List Value} {w w' : Wd} {P : Option Prop} (h : h_dup_x1 (pc, L, st, w) = some (P, pc', L', st', w')) : ∃ a b r, st = a :: b :: r ∧ a.category = 1 ∧ b.category = 1 ∧ P = none ∧ pc' = pc + 1 ∧ L' = L ∧ st' = a :: b :: a :: r ∧ w' = w := by
  unfold h_dup_x1 at h
  split at h
  next hx =>
    cases hx
    split at h
    next hb => rw [Bool.and_eq_true] at hb; cases h; exact ⟨_, _, _, rfl, Nat.eq_of_beq_eq_true hb.1, Nat.eq_of_beq_eq_true hb.2, rfl, rfl, rfl, rfl, rfl⟩
    next => cases h
  next => cases h
theorem iv_dup2 {pc pc' : Nat} {L L' : List (Option Value)} {st st' : List Value} {w w' : Wd} {P : Option Prop} (h : h_dup2 (pc, L, st, w) = some (P, pc', L', st', w')) : ∃ a b r, st = a :: b :: r ∧ a.category = 1 ∧ b.category = 1 ∧ P = none ∧ pc' = pc + 1 ∧ L' = L ∧ st' = a :: b :: a :: b :: r ∧ w' = w := by
  unfold h_dup2 at h
  split at h
  next hx =>
    cases hx
    split at h
    next hb => rw [Bool.and_eq_true] at hb; cases h; exact ⟨_, _, _, rfl, Nat.eq_of_beq_eq_true hb.1, Nat.eq_of_beq_eq_true hb.2, rfl, rfl, rfl, rfl, rfl⟩
    next => cases h
  next => cases h
theorem iv_goto {off : Int} {pc pc' : Nat} {L L' : List (Option Value)} {st st' : List Value} {w w' : Wd} {P : Option Prop} (h : h_goto off (pc, L, st, w) = some (P, pc', L', st', w')) : P = none ∧ (pc : Int) + off = (pc' : Int) ∧ pc' = ((pc : Int) + off).toNat ∧ L' = L ∧ st' = st ∧ w' = w := by
  dsimp only [h_goto] at h
  split at h
  next hb => cases h; exact ⟨rfl, of_decide_eq_true hb, rfl, rfl, rfl, rfl⟩
  next => cases h
theorem iv_getf {O : Own} {ix pc pc' : Nat} {L L' : List (Option Value)} {st st' : List Value} {w w' : Wd} {P : Option Prop} (h : h_getf O ix (pc, L, st, w) = some (P, pc', L', st', w')) : ∃ k r nest ci j fs v, st = .ref k :: r ∧ lkp O.2.1 ix = some (nest, ci, j) ∧ wA w k = some (.inr (ci, fs)) ∧ fs[j]? = some v ∧ P = none ∧ pc' = pc + 3 ∧ L' = L ∧ st' = v :: r ∧ w' = w := by
  unfold h_getf at h
  split at h
  next hx =>
    cases hx
    split at h
    next nest ci j hl =>
      split at h
      next cj fs hw =>
        split at h
        next hb =>
          split at h
          next v hv =>
            cases h
            have e := Nat.eq_of_beq_eq_true hb
            subst e
            exact ⟨_, _, nest, _, j, fs, v, rfl, hl, hw, hv, rfl, rfl, rfl, rfl, rfl⟩
          next => cases h
        next => cases h
      next => cases h
    next => cases h
  next => cases h
theorem iv_putf {O : Own} {ix pc pc' : Nat} {L L' : List (Option Value)} {st st' : List Value} {w w' : Wd} {P : Option Prop} (h : h_putf O ix (pc, L, st, w) = some (P, pc', L', st', w')) : ∃ k nest ci j fs v, st = v :: .ref k :: st' ∧ lkp O.2.1 ix = some (nest, ci, j) ∧ wA w k = some (.inr (ci, fs)) ∧ j < fs.length ∧ okV (tyF ci j) v = true ∧ (clT ci j).2.2.2 = false ∧ P = none ∧ pc' = pc + 3 ∧ L' = L ∧ w' = w.set k (.inr (.inr (ci, fs.set j v))) := by
  unfold h_putf at h
  split at h
  next hx =>
    cases hx
    split at h
    next nest ci j hl =>
      split at h
      next cj fs hw =>
        split at h
        next hb =>
          cases h
          simp only [Bool.and_eq_true, Bool.not_eq_true'] at hb
          have e := Nat.eq_of_beq_eq_true hb.1
          subst e
          exact ⟨_, nest, _, j, fs, _, rfl, hl, hw, by simpa using hb.2.1, hb.2.2.1, hb.2.2.2, rfl, rfl, rfl, rfl⟩
        next => cases h
      next => cases h
    next => cases h
  next => cases h
theorem iv_iald {pc pc' : Nat} {L L' : List (Option Value)} {st st' : List Value} {w w' : Wd} {P : Option Prop} (h : h_iald (pc, L, st, w) = some (P, pc', L', st', w')) : ∃ i k r n f, st = .int i :: .ref k :: r ∧ wA w k = some (.inl (0, n, .inl f)) ∧ P = some (vp_in i n) ∧ pc' = pc + 1 ∧ L' = L ∧ st' = .int (f i.toNatClampNeg) :: r ∧ w' = w := by
  unfold h_iald at h
  split at h
  next hx =>
    cases hx
    split at h
    next n f hw => cases h; exact ⟨_, _, _, n, f, rfl, hw, rfl, rfl, rfl, rfl, rfl⟩
    next => cases h
  next => cases h
theorem iv_zald {pc pc' : Nat} {L L' : List (Option Value)} {st st' : List Value} {w w' : Wd} {P : Option Prop} (h : h_zald (pc, L, st, w) = some (P, pc', L', st', w')) : ∃ i k r n f, st = .int i :: .ref k :: r ∧ wA w k = some (.inl (2, n, .inl f)) ∧ P = some (vp_in i n) ∧ pc' = pc + 1 ∧ L' = L ∧ st' = .int (f i.toNatClampNeg) :: r ∧ w' = w := by
  unfold h_zald at h
  split at h
  next hx =>
    cases hx
    split at h
    next n f hw => cases h; exact ⟨_, _, _, n, f, rfl, hw, rfl, rfl, rfl, rfl, rfl⟩
    next => cases h
  next => cases h
theorem iv_lald {pc pc' : Nat} {L L' : List (Option Value)} {st st' : List Value} {w w' : Wd} {P : Option Prop} (h : h_lald (pc, L, st, w) = some (P, pc', L', st', w')) : ∃ i k r n f, st = .int i :: .ref k :: r ∧ wA w k = some (.inl (1, n, .inr (.inl f))) ∧ P = some (vp_in i n) ∧ pc' = pc + 1 ∧ L' = L ∧ st' = .long (f i.toNatClampNeg) :: r ∧ w' = w := by
  unfold h_lald at h
  split at h
  next hx =>
    cases hx
    split at h
    next n f hw => cases h; exact ⟨_, _, _, n, f, rfl, hw, rfl, rfl, rfl, rfl, rfl⟩
    next => cases h
  next => cases h
theorem iv_aald {pc pc' : Nat} {L L' : List (Option Value)} {st st' : List Value} {w w' : Wd} {P : Option Prop} (h : h_aald (pc, L, st, w) = some (P, pc', L', st', w')) : ∃ i k r t n f b, st = .int i :: .ref k :: r ∧ wA w k = some (.inl (t, n, .inr (.inr (.inr (.inr f))))) ∧ (t = 3 ∨ t = 4) ∧ f i.toNatClampNeg = some b ∧ P = some (vp_in i n) ∧ pc' = pc + 1 ∧ L' = L ∧ st' = .ref b :: r ∧ w' = w := by
  unfold h_aald at h
  split at h
  next hx =>
    cases hx
    split at h
    next t n f hw =>
      split at h
      next hb =>
        split at h
        next b hf =>
          cases h
          rw [Bool.or_eq_true] at hb
          exact ⟨_, _, _, t, n, f, b, rfl, hw, hb.imp Nat.eq_of_beq_eq_true Nat.eq_of_beq_eq_true, hf, rfl, rfl, rfl, rfl, rfl⟩
        next => cases h
      next => cases h
    next => cases h
  next => cases h
theorem iv_iast {pc pc' : Nat} {L L' : List (Option Value)} {st st' : List Value} {w w' : Wd} {P : Option Prop} (h : h_iast (pc, L, st, w) = some (P, pc', L', st', w')) : ∃ x i k n f, st = .int x :: .int i :: .ref k :: st' ∧ wA w k = some (.inl (0, n, .inl f)) ∧ P = some (vp_in i n) ∧ pc' = pc + 1 ∧ L' = L ∧ w' = w.set k (.inr (.inl (0, n, .inl (upd f i.toNatClampNeg x)))) := by
  unfold h_iast at h
  split at h
  next hx =>
    cases hx
    split at h
    next n f hw => cases h; exact ⟨_, _, _, n, f, rfl, hw, rfl, rfl, rfl, rfl⟩
    next => cases h
  next => cases h
theorem iv_zast {pc pc' : Nat} {L L' : List (Option Value)} {st st' : List Value} {w w' : Wd} {P : Option Prop} (h : h_zast (pc, L, st, w) = some (P, pc', L', st', w')) : ∃ x i k n f, st = .int x :: .int i :: .ref k :: st' ∧ wA w k = some (.inl (2, n, .inl f)) ∧ P = some (vp_in i n) ∧ pc' = pc + 1 ∧ L' = L ∧ w' = w.set k (.inr (.inl (2, n, .inl (upd f i.toNatClampNeg (vp_nar .boolean x))))) := by
  unfold h_zast at h
  split at h
  next hx =>
    cases hx
    split at h
    next n f hw => cases h; exact ⟨_, _, _, n, f, rfl, hw, rfl, rfl, rfl, rfl⟩
    next => cases h
  next => cases h
theorem iv_last {pc pc' : Nat} {L L' : List (Option Value)} {st st' : List Value} {w w' : Wd} {P : Option Prop} (h : h_last (pc, L, st, w) = some (P, pc', L', st', w')) : ∃ x i k n f, st = .long x :: .int i :: .ref k :: st' ∧ wA w k = some (.inl (1, n, .inr (.inl f))) ∧ P = some (vp_in i n) ∧ pc' = pc + 1 ∧ L' = L ∧ w' = w.set k (.inr (.inl (1, n, .inr (.inl (vp_updL f i.toNatClampNeg x))))) := by
  unfold h_last at h
  split at h
  next hx =>
    cases hx
    split at h
    next n f hw => cases h; exact ⟨_, _, _, n, f, rfl, hw, rfl, rfl, rfl, rfl⟩
    next => cases h
  next => cases h
theorem iv_alen {pc pc' : Nat} {L L' : List (Option Value)} {st st' : List Value} {w w' : Wd} {P : Option Prop} (h : h_alen (pc, L, st, w) = some (P, pc', L', st', w')) : ∃ k r t n f, st = .ref k :: r ∧ wA w k = some (.inl (t, n, f)) ∧ t < 5 ∧ P = none ∧ pc' = pc + 1 ∧ L' = L ∧ st' = .int (Int32.ofNat n) :: r ∧ w' = w := by
  unfold h_alen at h
  split at h
  next hx =>
    cases hx
    split at h
    next t n f hw =>
      split at h
      next hb => cases h; exact ⟨_, _, t, n, f, rfl, hw, by simpa using hb, rfl, rfl, rfl, rfl, rfl⟩
      next => cases h
    next => cases h
  next => cases h
theorem tys_get {cT : Nat → ClassId} {t : Nat} (h : t < 5) : ∃ ty, (tysOf cT)[t]? = some (cT t, ty) := by
  rcases lt5 h with rfl | rfl | rfl | rfl | rfl <;> exact ⟨_, rfl⟩
theorem DP.ok {A : Nat → Prop} {q : Nat → Nat} {w : Wd} (h : DP A q w) : va_D A (cn cT q w) := h.D
end SND
