/-! ===== the claim's start ===== -/
theorem arr_prim {ty : FieldType} {s : State} {args : Array Value} (h : (Cond.arrayClass ty).before args s = true) : ∃ (cA : ClassId) (k : Class) (comp : ClassId), s.vm.findClass ("[" ++ ty.toString) = some cA ∧ s.vm.classes[cA]? = some k ∧ k.kind = .array comp ty := Cond.arrayClass_spec h
theorem arr_int {s : State} {args : Array Value} (h : (Cond.arrayClass .int).before args s = true) : ∃ cA, ArrOfT s cA .int ∧ va_RA s cA .int := by
  obtain ⟨c, k, comp, h1, h2, h3⟩ := arr_prim h
  exact ⟨c, fun n z => ⟨fun k h => (by cases h), k, h2, comp, h3⟩, h1⟩
theorem arr_long {s : State} {args : Array Value} (h : (Cond.arrayClass .long).before args s = true) : ∃ cA, ArrOfT s cA .long ∧ va_RA s cA .long := by
  obtain ⟨c, k, comp, h1, h2, h3⟩ := arr_prim h
  exact ⟨c, fun n z => ⟨fun k h => (by cases h), k, h2, comp, h3⟩, h1⟩
theorem arr_boolean {s : State} {args : Array Value} (h : (Cond.arrayClass .boolean).before args s = true) : ∃ cA, ArrOfT s cA .boolean ∧ va_RA s cA .boolean := by
  obtain ⟨c, k, comp, h1, h2, h3⟩ := arr_prim h
  exact ⟨c, fun n z => ⟨fun k h => (by cases h), k, h2, comp, h3⟩, h1⟩
theorem arr_obj {C : String} {s : State} {args : Array Value} (h : (Cond.arrayOver (.object C)).before args s = true) : ∃ cA, ArrOfT s cA (.object C) ∧ va_RA s cA (.object C) := by
  obtain ⟨comp, c, k, h1, h2, h3, h4, h5⟩ := Cond.arrayOver_spec h
  exact ⟨c, fun n z => ⟨fun k h => (by cases h), k, h3, comp, h4⟩, ⟨k, comp, h3, h4, h1, h5⟩⟩
theorem arr_al {s : State} {args : Array Value} (h : (Cond.arrayOver (.array .long)).before args s = true) : ∃ cA, ArrOfT s cA (.array .long) ∧ va_RA s cA (.array .long) := by
  have key : ∃ comp c k, s.vm.classes[c]? = some k ∧ k.kind = .array comp (.array .long) ∧ s.vm.findClass ("[" ++ (FieldType.array .long).toString) = some c := by
    unfold Cond.before at h
    simp only [Cond.holds, Cond.value, beq_iff_eq] at h
    cases hc : s.vm.findClass (FieldType.array .long).toString with
    | none => simp [hc] at h
    | some comp =>
      simp only [hc, Option.bind_some, Option.bind_eq_some_iff, Option.map_eq_some_iff] at h
      obtain ⟨c, hi, k, hk, hb⟩ := h
      cases hkind : k.kind with
      | array component ty =>
        rw [hkind] at hb
        simp at hb
        exact ⟨component, c, k, hk, by rw [hkind, hb.1], hb.2⟩
      | _ => rw [hkind] at hb; simp at hb
  obtain ⟨comp, c, k, h1, h2, h3⟩ := key
  exact ⟨c, fun n z => ⟨fun k h => (by cases h), k, h1, comp, h2⟩, h3⟩
theorem KK0 {s : State} {args : Array Value} (hts : ∀ w ∈ lw_tbl, w.before args s = true) : ∃ (D : va_G) (cT : Nat → ClassId), ∀ cT' : Nat → ClassId, (∀ j, j < 5 → cT' j = cT j) → KK D cT' s := by
  have hg : ∀ w ∈ gw, w.before args s = true := fun w hw => hts w (List.mem_filter.mp hw).1
  obtain ⟨c0, d0, k0⟩ := u_known (C := RX0) (T := TX0) (N := 4) (n := 4) hg gw_0 (hg _ kn_0)
  obtain ⟨c1, d1, k1⟩ := u_known (C := RX1) (T := TX1) (N := 10) (n := 10) hg gw_1 (hg _ kn_1)
  obtain ⟨c2, d2, k2⟩ := u_known (C := RX2) (T := TX2) (N := 4) (n := 4) hg gw_2 (hg _ kn_2)
  obtain ⟨c3, d3, k3⟩ := u_known (C := RX3) (T := TX3) (N := 9) (n := 9) hg gw_3 (hg _ kn_3)
  obtain ⟨c4, d4, k4⟩ := u_known (C := RX4) (T := TX4) (N := 31) (n := 31) hg gw_4 (hg _ kn_4)
  have o0 : (Cond.arrayOver (.object RX0)).before args s = true := hts _ (by decide +kernel)
  have o1 : (Cond.arrayOver (.array .long)).before args s = true := hts _ (by decide +kernel)
  obtain ⟨e0, a0⟩ := arr_int (hg _ ac_int)
  obtain ⟨e1, a1⟩ := arr_long (hg _ ac_long)
  obtain ⟨e2, a2⟩ := arr_boolean (hg _ ac_boolean)
  obtain ⟨e3, a3⟩ := arr_obj o0
  obtain ⟨e4, a4⟩ := arr_al o1
  refine ⟨(fun k => if k = 0 then c0 else if k = 1 then c1 else if k = 2 then c2 else if k = 3 then c3 else c4, fun k => if k = 0 then d0 else if k = 1 then d1 else if k = 2 then d2 else if k = 3 then d3 else d4), fun k => if k = 0 then e0 else if k = 1 then e1 else if k = 2 then e2 else if k = 3 then e3 else e4, fun cT' hcT => ⟨⟨?_, ?_⟩, ?_, o0, o1⟩⟩
  · intro k q hq
    match k, hq with
    | 0, hq => cases hq; exact k0
    | 1, hq => cases hq; exact k1
    | 2, hq => cases hq; exact k2
    | 3, hq => cases hq; exact k3
    | 4, hq => cases hq; exact k4
    | k + 5, hq => simp [vwCl] at hq
  · intro k q hq
    unfold tysOf at hq
    rw [hcT 0 (by decide), hcT 1 (by decide), hcT 2 (by decide), hcT 3 (by decide), hcT 4 (by decide)] at hq
    match k, hq with
    | 0, hq => cases hq; exact a0
    | 1, hq => cases hq; exact a1
    | 2, hq => cases hq; exact a2
    | 3, hq => cases hq; exact a3
    | 4, hq => cases hq; exact a4
    | k + 5, hq => simp at hq
  · intro w hw
    obtain ⟨h1, h2⟩ := List.mem_filter.mp hw
    have h3 := hts w h1
    cases w <;> first | (cases h2; done) | exact h3
def tmS (i : Nat) : Term := .string (owS i) (ixS i)
def fvS (i : Nat) : Term := .field (tmS i) "java/lang/String" "value" "[B"
theorem SS0 {s : State} {args : Array Value} (hts : ∀ w ∈ lw_tbl, w.before args s = true) (hgv : (Jvm.Cond.and given_1 narrow_1).before args s = true) {A : Nat → Prop} (hA : ∀ a : Nat, a < s.heap.size → ¬ A a) : ∃ ad av : Nat → Nat, ∃ fm : Nat, ∀ cT : Nat → ClassId, (∀ i, i < 14 → cT (100 + i) = ad i ∧ cT (200 + i) = av i) → cT 400 = fm → SS cT A s s.heap := by
  have hs := flat_of_before _ hgv
  have x1 : ∀ i, i < 14 → (Cond.exactly (tmS i) "java/lang/String").before args s = true := fun i hi => hs _ ((by decide +kernel : ∀ i, i < 14 → Cond.exactly (tmS i) "java/lang/String" ∈ _) i hi)
  have x2 : ∀ i, i < 14 → (Cond.eq (.field (tmS i) "java/lang/String" "coder" "B") (.int 0)).before args s = true := fun i hi => hs _ ((by decide +kernel : ∀ i, i < 14 → Cond.eq (.field (tmS i) "java/lang/String" "coder" "B") (.int 0) ∈ _) i hi)
  have x3 : ∀ i, i < 14 → (Cond.arrayOf (fvS i) .byte).before args s = true := fun i hi => hs _ ((by decide +kernel : ∀ i, i < 14 → Cond.arrayOf (fvS i) .byte ∈ _) i hi)
  have x4 : ∀ i, i < 14 → (Cond.eq (.length (fvS i)) (.int (Int32.ofNat (lnS i)))).before args s = true := fun i hi => hs _ ((by decide +kernel : ∀ i, i < 14 → Cond.eq (.length (fvS i)) (.int (Int32.ofNat (lnS i))) ∈ _) i hi)
  have x5 : ∀ i, i < 14 → ∀ j, j < lnS i → (Cond.eq (.elem (fvS i) (.int (Int32.ofNat j))) (.int ((byS i).getD j 0))).before args s = true := fun i hi j hj => hs _ ((by decide +kernel : ∀ i, i < 14 → ∀ j, j < lnS i → Cond.eq (.elem (fvS i) (.int (Int32.ofNat j))) (.int ((byS i).getD j 0)) ∈ _) i hi j hj)
  have x6 : ∀ i, i < 14 → (Cond.stringRef (owS i) (ixS i) (txS i)).before args s = true := fun i hi => hts _ ((by decide +kernel : ∀ i, i < 14 → Cond.stringRef (owS i) (ixS i) (txS i) ∈ lw_tbl) i hi)
  have x7 : (Cond.eq (.static "java/lang/String" "COMPACT_STRINGS" "Z") (.int 1)).before args s = true := hs _ (by decide +kernel)
  have x8 : (Cond.isRef (.static "jdk/internal/util/Preconditions" "SIOOBE_FORMATTER" "Ljava/util/function/BiFunction;")).before args s = true := hs _ (by decide +kernel)
  have y1 : (Cond.laysStatic "java/lang/String" "COMPACT_STRINGS" "Z").before args s = true := hts _ (by decide +kernel)
  have y2 : (Cond.laysStatic "jdk/internal/util/Preconditions" "SIOOBE_FORMATTER" "Ljava/util/function/BiFunction;").before args s = true := hts _ (by decide +kernel)
  have y3 : (Cond.initialized "java/lang/String").before args s = true := hts _ (by decide +kernel)
  have y4 : (Cond.initialized "jdk/internal/util/Preconditions").before args s = true := hts _ (by decide +kernel)
  have l14 : ∀ i, i < 14 → lnS i < 2 ^ 31 := by decide +kernel
  have h0 : ∀ i : Nat, ∃ q : Nat × Nat, i < 14 → (tmS i).eval args s none [] s = some (.ref q.1) ∧ va_O "java/lang/String" q.1 A s s.heap ∧ va_OF "java/lang/String" "coder" "B" (.int 0) q.1 A s s.heap ∧ va_OF "java/lang/String" "value" "[B" (.ref q.2) q.1 A s s.heap ∧ va_T .byte q.2 (lnS i) (fun j => .int ((byS i).getD j 0)) A s s.heap := by
    intro i
    by_cases hi : i < 14
    · obtain ⟨a, c, cA, kA, q1, q2, q3, q4, q5, q6, -⟩ := Cond.exactly_spec (args := args) (first := s) (o := none) (s := s) (idx := []) (t := tmS i) (cls := "java/lang/String") (x1 i hi)
      obtain ⟨t, ht, hT⟩ := va_Tof (f := fun j => .int ((byS i).getD j 0)) (A := A) (l14 i hi) (x3 i hi) (va_eqt (x4 i hi)) (fun j hj => va_eqt (x5 i hi j hj)) hA
      exact ⟨(a, t), fun _ => ⟨q1, ⟨cA, q3, q5, by rw [q6]; exact q2, hA a (Array.getElem?_eq_some_iff.mp q3).1⟩, vk_OFof q1 (va_eqt (x2 i hi)) hA, vk_OFof q1 ht hA, hT⟩⟩
    · exact ⟨(0, 0), fun h => absurd h hi⟩
  obtain ⟨ad, had⟩ := Classical.axiomOfChoice h0
  have h8 : ∃ fm, (Term.static "jdk/internal/util/Preconditions" "SIOOBE_FORMATTER" "Ljava/util/function/BiFunction;").eval args s none [] s = some (.ref fm) ∨ (Term.static "jdk/internal/util/Preconditions" "SIOOBE_FORMATTER" "Ljava/util/function/BiFunction;").eval args s none [] s = some .null := by
    cases hv : (Term.static "jdk/internal/util/Preconditions" "SIOOBE_FORMATTER" "Ljava/util/function/BiFunction;").eval args s none [] s with
    | none => simp [Cond.before, Cond.holds, Cond.value, hv] at x8
    | some v =>
      cases v with
      | ref a => exact ⟨a, Or.inl rfl⟩
      | null => exact ⟨0, Or.inr rfl⟩
      | _ => simp [Cond.before, Cond.holds, Cond.value, hv] at x8
  obtain ⟨fm, hfm⟩ := h8
  refine ⟨fun i => (ad i).1, fun i => (ad i).2, fm, fun cT h1 h2 => ⟨fun i hi => ?_, va_Zof y1 y3 (va_eqt x7) hA, hfm.imp (fun z => by rw [h2]; exact va_Zof y2 y4 z hA) (fun z => va_Zof y2 y4 z hA)⟩⟩
  obtain ⟨g1, g2, g3, g4, g5⟩ := had i hi
  rw [(h1 i hi).1, (h1 i hi).2]
  exact ⟨⟨g2, g3, g4, g5⟩, vk_R.of (x6 i hi) g1⟩
