/-! ===== one step of the abstract machine ===== -/
abbrev Cfg : Type := Nat × List (Option Value) × List Value × Wd
abbrev Res : Type := Option (Option Prop × Cfg)
/-- what a class's own pool says: fields (entry, of a nest mate, kind of object, place), ints, longs -/
abbrev Own : Type := String × List (Nat × Bool × Nat × Nat) × List (Nat × Int32) × List (Nat × Int64)
def lkp {α : Type} : List (Nat × α) → Nat → Option α
  | [], _ => none
  | (a, x) :: r, k => if Nat.beq a k = true then some x else lkp r k
theorem lkp_mem {α : Type} {k : Nat} {x : α} : ∀ {l : List (Nat × α)}, lkp l k = some x → (k, x) ∈ l
  | [], h => by cases h
  | (a, y) :: r, h => by
    unfold lkp at h
    split at h
    next hb => cases h; rw [Nat.eq_of_beq_eq_true hb]; exact List.mem_cons_self
    next => exact List.mem_cons_of_mem _ (lkp_mem h)
def h_push (n : Nat) (v : Value) : Cfg → Res
  | (pc, L, st, w) => some (none, (pc + n, L, v :: st, w))
def h_c (n : Nat) (x v : Int32) : Cfg → Res
  | (pc, L, st, w) => if decide (x = v) = true then some (none, (pc + n, L, .int v :: st, w)) else none
def l01 (n : Fin 2) : Int64 := if Nat.beq n.val 0 = true then 0 else 1
def h_ldi (n i : Nat) : Cfg → Res
  | (pc, L, st, w) => match L[i]? with
    | some (some (.int x)) => some (none, (pc + n, L, .int x :: st, w))
    | _ => none
def h_ldl (n i : Nat) : Cfg → Res
  | (pc, L, st, w) => match L[i]? with
    | some (some (.long x)) => some (none, (pc + n, L, .long x :: st, w))
    | _ => none
def h_lda (n i : Nat) : Cfg → Res
  | (pc, L, st, w) => match L[i]? with
    | some (some (.ref x)) => some (none, (pc + n, L, .ref x :: st, w))
    | _ => none
def h_sti (n i : Nat) : Cfg → Res
  | (pc, L, .int x :: st, w) => if (Nat.blt i L.length && okS L i) = true then some (none, (pc + n, stO L i (.int x), st, w)) else none
  | _ => none
def h_sta (n i : Nat) : Cfg → Res
  | (pc, L, .ref x :: st, w) => if (Nat.blt i L.length && okS L i) = true then some (none, (pc + n, stO L i (.ref x), st, w)) else none
  | _ => none
def h_stl (n i : Nat) : Cfg → Res
  | (pc, L, .long x :: st, w) => if (Nat.blt (i + 1) L.length && okS L i) = true then some (none, (pc + n, stT L i (.long x), st, w)) else none
  | _ => none
def h_inc (i : Nat) (x v : Int32) : Cfg → Res
  | (pc, L, st, w) => if decide (x = v) = true then (match L[i]? with
    | some (some (.int y)) => if (Nat.blt i L.length && okS L i) = true then some (none, (pc + 3, stO L i (.int (y + v)), st, w)) else none
    | _ => none) else none
def h_bin (f : Int32 → Int32 → Int32) : Cfg → Res
  | (pc, L, .int y :: .int x :: st, w) => some (none, (pc + 1, L, .int (f x y) :: st, w))
  | _ => none
def h_bin0 (f : Int32 → Int32 → Int32) : Cfg → Res
  | (pc, L, .int y :: .int x :: st, w) => some (some (¬ y = 0), (pc + 1, L, .int (f x y) :: st, w))
  | _ => none
def h_un (f : Int32 → Int32) : Cfg → Res
  | (pc, L, .int x :: st, w) => some (none, (pc + 1, L, .int (f x) :: st, w))
  | _ => none
def h_binl (f : Int64 → Int64 → Int64) : Cfg → Res
  | (pc, L, .long y :: .long x :: st, w) => some (none, (pc + 1, L, .long (f x y) :: st, w))
  | _ => none
def h_lcmp : Cfg → Res
  | (pc, L, .long y :: .long x :: st, w) => some (none, (pc + 1, L, .int (lg_cmp x y) :: st, w))
  | _ => none
def h_lshl : Cfg → Res
  | (pc, L, .int y :: .long x :: st, w) => some (none, (pc + 1, L, .long (x <<< (y.toInt64 &&& 63)) :: st, w))
  | _ => none
def h_i2l : Cfg → Res
  | (pc, L, .int x :: st, w) => some (none, (pc + 1, L, .long x.toInt64 :: st, w))
  | _ => none
def h_l2i : Cfg → Res
  | (pc, L, .long x :: st, w) => some (none, (pc + 1, L, .int x.toInt32 :: st, w))
  | _ => none
def h_dup : Cfg → Res
  | (pc, L, v :: st, w) => if Nat.beq v.category 1 = true then some (none, (pc + 1, L, v :: v :: st, w)) else none
  | _ => none
def h_pop : Cfg → Res
  | (pc, L, v :: st, w) => if Nat.beq v.category 1 = true then some (none, (pc + 1, L, st, w)) else none
  | _ => none
def h_dup_x1 : Cfg → Res
  | (pc, L, a :: b :: st, w) => if (Nat.beq a.category 1 && Nat.beq b.category 1) = true then some (none, (pc + 1, L, a :: b :: a :: st, w)) else none
  | _ => none
def h_dup2 : Cfg → Res
  | (pc, L, a :: b :: st, w) => if (Nat.beq a.category 1 && Nat.beq b.category 1) = true then some (none, (pc + 1, L, a :: b :: a :: b :: st, w)) else none
  | _ => none
def h_goto (off : Int) : Cfg → Res
  | (pc, L, st, w) => if decide ((pc : Int) + off = ((((pc : Int) + off).toNat : Nat) : Int)) = true then some (none, (((pc : Int) + off).toNat, L, st, w)) else none
def h_getf (O : Own) (ix : Nat) : Cfg → Res
  | (pc, L, .ref k :: st, w) => match lkp O.2.1 ix with
    | some (_, ci, j) => match wA w k with
      | some (.inr (cj, fs)) => if Nat.beq cj ci = true then (match fs[j]? with
        | some v => some (none, (pc + 3, L, v :: st, w))
        | none => none) else none
      | _ => none
    | none => none
  | _ => none
/-- a value that a field of this type holds as it is -/
def okV (ty : FieldType) (v : Value) : Bool := match ty, v with
  | .int, .int _ => true
  | .boolean, .int x => decide (x = 1) || decide (x = 0)
  | .object _, .ref _ => true
  | .array _, .ref _ => true
  | _, _ => false
def tyF (ci j : Nat) : FieldType := match ci with
  | 0 => tyX0 j
  | 1 => tyX1 j
  | 2 => tyX2 j
  | 3 => tyX3 j
  | _ => tyX4 j
def clT (ci : Nat) : u_T := match ci with
  | 0 => TX0
  | 1 => TX1
  | 2 => TX2
  | 3 => TX3
  | _ => TX4
def h_putf (O : Own) (ix : Nat) : Cfg → Res
  | (pc, L, v :: .ref k :: st, w) => match lkp O.2.1 ix with
    | some (_, ci, j) => match wA w k with
      | some (.inr (cj, fs)) => if (Nat.beq cj ci && (Nat.blt j fs.length && (okV (tyF ci j) v && !(clT ci j).2.2.2))) = true then some (none, (pc + 3, L, st, w.set k (.inr (.inr (cj, fs.set j v))))) else none
      | _ => none
    | none => none
  | _ => none
def h_iald : Cfg → Res
  | (pc, L, .int i :: .ref k :: st, w) => match wA w k with
    | some (.inl (0, n, .inl f)) => some (some (vp_in i n), (pc + 1, L, .int (f i.toNatClampNeg) :: st, w))
    | _ => none
  | _ => none
def h_zald : Cfg → Res
  | (pc, L, .int i :: .ref k :: st, w) => match wA w k with
    | some (.inl (2, n, .inl f)) => some (some (vp_in i n), (pc + 1, L, .int (f i.toNatClampNeg) :: st, w))
    | _ => none
  | _ => none
def h_lald : Cfg → Res
  | (pc, L, .int i :: .ref k :: st, w) => match wA w k with
    | some (.inl (1, n, .inr (.inl f))) => some (some (vp_in i n), (pc + 1, L, .long (f i.toNatClampNeg) :: st, w))
    | _ => none
  | _ => none
def h_aald : Cfg → Res
  | (pc, L, .int i :: .ref k :: st, w) => match wA w k with
    | some (.inl (t, n, .inr (.inr (.inr (.inr f))))) => if (Nat.beq t 3 || Nat.beq t 4) = true then (match f i.toNatClampNeg with
      | some b => some (some (vp_in i n), (pc + 1, L, .ref b :: st, w))
      | none => none) else none
    | _ => none
  | _ => none
def h_iast : Cfg → Res
  | (pc, L, .int x :: .int i :: .ref k :: st, w) => match wA w k with
    | some (.inl (0, n, .inl f)) => some (some (vp_in i n), (pc + 1, L, st, w.set k (.inr (.inl (0, n, .inl (upd f i.toNatClampNeg x))))))
    | _ => none
  | _ => none
def h_zast : Cfg → Res
  | (pc, L, .int x :: .int i :: .ref k :: st, w) => match wA w k with
    | some (.inl (2, n, .inl f)) => some (some (vp_in i n), (pc + 1, L, st, w.set k (.inr (.inl (2, n, .inl (upd f i.toNatClampNeg (vp_nar .boolean x)))))))
    | _ => none
  | _ => none
def h_last : Cfg → Res
  | (pc, L, .long x :: .int i :: .ref k :: st, w) => match wA w k with
    | some (.inl (1, n, .inr (.inl f))) => some (some (vp_in i n), (pc + 1, L, st, w.set k (.inr (.inl (1, n, .inr (.inl (vp_updL f i.toNatClampNeg x)))))))
    | _ => none
  | _ => none
def h_alen : Cfg → Res
  | (pc, L, .ref k :: st, w) => match wA w k with
    | some (.inl (t, n, _)) => if Nat.blt t 5 = true then some (none, (pc + 1, L, .int (Int32.ofNat n) :: st, w)) else none
    | _ => none
  | _ => none
def h_ldc (O : Own) (n ix : Nat) : Cfg → Res
  | (pc, L, st, w) => match lkp O.2.2.1 ix with
    | some v => some (none, (pc + n, L, .int v :: st, w))
    | none => none
def h_ldc2 (O : Own) (ix : Nat) : Cfg → Res
  | (pc, L, st, w) => match lkp O.2.2.2 ix with
    | some v => some (none, (pc + 3, L, .long v :: st, w))
    | none => none
def ilen : Instr → Nat
  | .iload _ => 2
  | .lload _ => 2
  | .aload _ => 2
  | .istore _ => 2
  | .lstore _ => 2
  | .astore _ => 2
  | .bipush _ => 2
  | .ldc _ => 2
  | .ldc_w _ => 3
  | .ldc2_w _ => 3
  | .sipush _ => 3
  | .iinc _ _ => 3
  | .getfield _ => 3
  | .putfield _ => 3
  | .goto _ => 3
  | .ifCond _ _ => 3
  | .if_icmp _ _ => 3
  | .ifnull _ => 3
  | .ifnonnull _ => 3
  | .invokevirtual _ => 3
  | .invokestatic _ => 3
  | .invokespecial _ => 3
  | .new _ => 3
  | .newarray _ => 2
  | .anewarray _ => 3
  | .multianewarray _ _ => 4
  | _ => 1
def aS (O : Own) (i : Instr) (v : Int32) : Cfg → Res := match i with
  | .iconst n => h_c 1 (Int32.ofInt n) v
  | .bipush n => h_c 2 (Int8.ofInt n).toInt32 v
  | .sipush n => h_c 3 (Int16.ofInt n).toInt32 v
  | .lconst n => h_push 1 (.long (l01 n))
  | .iload_n k => h_ldi 1 k
  | .iload k => h_ldi 2 k
  | .lload_n k => h_ldl 1 k
  | .lload k => h_ldl 2 k
  | .aload_n k => h_lda 1 k
  | .aload k => h_lda 2 k
  | .istore_n k => h_sti 1 k
  | .istore k => h_sti 2 k
  | .lstore_n k => h_stl 1 k
  | .lstore k => h_stl 2 k
  | .astore_n k => h_sta 1 k
  | .astore k => h_sta 2 k
  | .iinc k n => h_inc k (Int32.ofInt n) v
  | .iadd => h_bin (fun x y => x + y)
  | .isub => h_bin (fun x y => x - y)
  | .imul => h_bin (fun x y => x * y)
  | .iand => h_bin (fun x y => x &&& y)
  | .ior => h_bin (fun x y => x ||| y)
  | .ixor => h_bin (fun x y => x ^^^ y)
  | .ishl => h_bin (fun x y => x <<< (y &&& 31))
  | .ishr => h_bin (fun x y => x >>> (y &&& 31))
  | .iushr => h_bin (fun x y => (x.toUInt32 >>> (y.toUInt32 &&& Int32.toUInt32 31)).toInt32)
  | .idiv => h_bin0 (fun x y => x / y)
  | .irem => h_bin0 (fun x y => x - x / y * y)
  | .ineg => h_un (fun x => -x)
  | .i2b => h_un (fun x => x.toInt8.toInt32)
  | .i2s => h_un (fun x => x.toInt16.toInt32)
  | .land => h_binl (fun x y => x &&& y)
  | .lor => h_binl (fun x y => x ||| y)
  | .lcmp => h_lcmp
  | .lshl => h_lshl
  | .i2l => h_i2l
  | .l2i => h_l2i
  | .dup => h_dup
  | .pop => h_pop
  | .dup_x1 => h_dup_x1
  | .dup2 => h_dup2
  | .goto off => h_goto off
  | .getfield ix => h_getf O ix
  | .putfield ix => h_putf O ix
  | .iaload => h_iald
  | .baload => h_zald
  | .laload => h_lald
  | .aaload => h_aald
  | .iastore => h_iast
  | .bastore => h_zast
  | .lastore => h_last
  | .arraylength => h_alen
  | .ldc ix => h_ldc O 2 ix
  | .ldc_w ix => h_ldc O 3 ix
  | .ldc2_w ix => h_ldc2 O ix
  | _ => fun _ => none
def decs (code : ByteArray) (is : List (Nat × Instr × Int32)) : Bool := is.all (fun x => decide (decode code x.1 = .ok (x.2.1, ilen x.2.1)))
def aR (O : Own) : List (Nat × Instr × Int32) → Cfg → Option (Prop × Cfg)
  | [], c => some (True, c)
  | (a, i, v) :: r, c => if Nat.beq c.1 a = true then (match aS O i v c with
    | none => none
    | some (none, c') => aR O r c'
    | some (some p, c') => match aR O r c' with
      | none => none
      | some (P, c'') => some (p ∧ P, c'')) else none
/-- a conditional jump: the condition, how far, the stack behind it -/
def b_un (f : Int32 → Prop) (off : Int) : List Value → Option (Prop × Int × List Value)
  | .int x :: r => some (f x, off, r)
  | _ => none
def b_bin (f : Int32 → Int32 → Prop) (off : Int) : List Value → Option (Prop × Int × List Value)
  | .int y :: .int x :: r => some (f x y, off, r)
  | _ => none
def aB (i : Instr) : List Value → Option (Prop × Int × List Value) := match i with
  | .ifCond cd off => match cd with
    | .eq => b_un (fun x => x = 0) off
    | .ne => b_un (fun x => ¬ x = 0) off
    | .lt => b_un (fun x => x < 0) off
    | .ge => b_un (fun x => 0 ≤ x) off
    | .gt => b_un (fun x => 0 < x) off
    | .le => b_un (fun x => x ≤ 0) off
  | .if_icmp cd off => match cd with
    | .eq => b_bin (fun x y => x = y) off
    | .ne => b_bin (fun x y => ¬ x = y) off
    | .lt => b_bin (fun x y => x < y) off
    | .ge => b_bin (fun x y => y ≤ x) off
    | .gt => b_bin (fun x y => y < x) off
    | .le => b_bin (fun x y => x ≤ y) off
  | _ => fun _ => none
/-! ===== what the classes' pools say ===== -/
def clR (ci : Nat) : String := match ci with
  | 0 => RX0
  | 1 => RX1
  | 2 => RX2
  | 3 => RX3
  | _ => RX4
def clN (ci : Nat) : Nat := match ci with
  | 0 => 4
  | 1 => 10
  | 2 => 4
  | 3 => 9
  | _ => 31
theorem lt5 {ci : Nat} (h : ci < 5) : ci = 0 ∨ ci = 1 ∨ ci = 2 ∨ ci = 3 ∨ ci = 4 := by omega
theorem cl_get {ci : Nat} (h : ci < 5) : vwCl[ci]? = some (clR ci, clT ci, clN ci) := by
  rcases lt5 h with rfl | rfl | rfl | rfl | rfl <;> rfl
theorem cl_ty {ci : Nat} (h : ci < 5) : ∀ k, k < clN ci → parseFieldDescriptor (clT ci k).2.2.1 = some (tyF ci k) := by
  rcases lt5 h with rfl | rfl | rfl | rfl | rfl
  · exact tyX0_ok
  · exact tyX1_ok
  · exact tyX2_ok
  · exact tyX3_ok
  · exact tyX4_ok
theorem cl_nm {ci : Nat} (h : ci < 5) : ∀ a, a < clN ci → ∀ b, b < clN ci → a ≠ b → (clT ci a).2.1 ≠ (clT ci b).2.1 := by
  rcases lt5 h with rfl | rfl | rfl | rfl | rfl
  · exact nmX0
  · exact nmX1
  · exact nmX2
  · exact nmX3
  · exact nmX4
theorem gw_0 : ∀ w ∈ u_ws RX0 TX0 4, w ∈ gw := by decide +kernel
theorem gw_1 : ∀ w ∈ u_ws RX1 TX1 10, w ∈ gw := by decide +kernel
theorem gw_2 : ∀ w ∈ u_ws RX2 TX2 4, w ∈ gw := by decide +kernel
theorem gw_3 : ∀ w ∈ u_ws RX3 TX3 9, w ∈ gw := by decide +kernel
theorem gw_4 : ∀ w ∈ u_ws RX4 TX4 31, w ∈ gw := by decide +kernel
theorem cl_gw {ci : Nat} (h : ci < 5) : ∀ w ∈ u_ws (clR ci) (clT ci) (clN ci), w ∈ gw := by
  rcases lt5 h with rfl | rfl | rfl | rfl | rfl
  · exact gw_0
  · exact gw_1
  · exact gw_2
  · exact gw_3
  · exact gw_4
def fldW (own : String) (x : Nat × Bool × Nat × Nat) : Cond := if x.2.1 = true then .fieldLinkNest own x.1 (clT x.2.2.1 x.2.2.2).1 (clT x.2.2.1 x.2.2.2).2.1 (clT x.2.2.1 x.2.2.2).2.2.1 "BackByTwice" else .fieldLink own x.1 (clT x.2.2.1 x.2.2.2).1 (clT x.2.2.1 x.2.2.2).2.1 (clT x.2.2.1 x.2.2.2).2.2.1
def okO (O : Own) : Bool := O.2.1.all (fun x => decide (x.2.2.1 < 5) && (decide (x.2.2.2 < clN x.2.2.1) && decide (fldW O.1 x ∈ lw_tbl))) && (O.2.2.1.all (fun x => decide (Cond.constant O.1 x.1 x.2 ∈ gw)) && O.2.2.2.all (fun x => decide (Cond.constantLong O.1 x.1 x.2 ∈ gw)))
theorem okO_f {O : Own} (h : okO O = true) {x : Nat × Bool × Nat × Nat} (hx : x ∈ O.2.1) : x.2.2.1 < 5 ∧ x.2.2.2 < clN x.2.2.1 ∧ fldW O.1 x ∈ lw_tbl := by
  simp only [okO, Bool.and_eq_true, List.all_eq_true, decide_eq_true_eq] at h
  exact ⟨(h.1 x hx).1, (h.1 x hx).2.1, (h.1 x hx).2.2⟩
theorem okO_c {O : Own} (h : okO O = true) {x : Nat × Int32} (hx : x ∈ O.2.2.1) : Cond.constant O.1 x.1 x.2 ∈ gw := by
  simp only [okO, Bool.and_eq_true, List.all_eq_true, decide_eq_true_eq] at h
  exact h.2.1 x hx
theorem okO_l {O : Own} (h : okO O = true) {x : Nat × Int64} (hx : x ∈ O.2.2.2) : Cond.constantLong O.1 x.1 x.2 ∈ gw := by
  simp only [okO, Bool.and_eq_true, List.all_eq_true, decide_eq_true_eq] at h
  exact h.2.2 x hx
def tysOf (cT : Nat → ClassId) : List (ClassId × FieldType) := [(cT 0, .int), (cT 1, .long), (cT 2, .boolean), (cT 3, .object RX0), (cT 4, .array .long)]
/-- what the tables say of arrays over a type; not among gw, for it is no word of the tables alone -/
def aoW (t : FieldType) (U : State) : Prop := (Cond.arrayOver t).before #[] U = true
theorem aoW.moved {t : FieldType} {u U : State} (h : u.vm.Alike U.vm) (hu : aoW t u) : aoW t U :=
  Eq.trans (show (Cond.arrayOver t).before #[] U = (Cond.arrayOver t).before #[] (u.setVm U.vm) from rfl) ((Cond.arrayOver_setVmC h t).trans hu)
def KK (D : va_G) (cT : Nat → ClassId) (U : State) : Prop := va_K D vwCl (tysOf cT) U ∧ (∀ w ∈ nw, va_Nw w U) ∧ aoW (.object RX0) U ∧ aoW (.array .long) U
theorem nw_warm {w : Cond} (hw : nw_is w = true) {s U : State} (hW : s.WarmedH U.vm) (h : va_Nw w s) : va_Nw w U := by
  cases w <;> first | (cases hw; done) | exact va_Nw.warmM hW h | exact va_Nw.warmF hW h
theorem nw_same {w : Cond} (hw : nw_is w = true) {u U : State} (e : u.vm = U.vm) (h : va_Nw w u) : va_Nw w U := by
  cases w <;> first | (cases hw; done) | exact va_Nw.same rfl e h
theorem nw_use {w : Cond} (hw : nw_is w = true) {A : Array Value} {U : State} (h : va_Nw w U) : w.before A U = true := by
  cases w <;> first | (cases hw; done) | exact va_Nw.use rfl h
theorem KK.warm {D : va_G} {cT : Nat → ClassId} {s U : State} (hW : s.WarmedH U.vm) (h : KK D cT s) : KK D cT U := ⟨va_K.moved hW.alike h.1, fun w hw => nw_warm (List.mem_filter.mp hw).2 hW (h.2.1 w hw), h.2.2.1.moved hW.alike, h.2.2.2.moved hW.alike⟩
theorem KK.same {D : va_G} {cT : Nat → ClassId} {u U : State} (e : u.vm = U.vm) (h : KK D cT u) : KK D cT U := ⟨va_K.moved (by rw [e]; exact Vm.Alike.refl U.vm) h.1, fun w hw => nw_same (List.mem_filter.mp hw).2 e (h.2.1 w hw), h.2.2.1.moved (by rw [e]; exact Vm.Alike.refl U.vm), h.2.2.2.moved (by rw [e]; exact Vm.Alike.refl U.vm)⟩
theorem okV_ok {ty : FieldType} {v : Value} (h : okV ty v = true) (q : Nat → Nat) : narrow ty (tV q v) = tV q v ∧ fits ty (tV q v) = true := by
  unfold okV at h
  split at h
  · exact ⟨rfl, rfl⟩
  · rcases (by simpa using h : _ ∨ _) with rfl | rfl <;> exact ⟨rfl, rfl⟩
  · exact ⟨rfl, rfl⟩
  · exact ⟨rfl, rfl⟩
  · cases h
