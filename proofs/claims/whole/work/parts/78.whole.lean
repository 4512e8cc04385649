/-! ===== the claim's start ===== -/
theorem arr_prim {ty : FieldType} {s : State} {args : Array Value} (h : (Cond.arrayClass ty).before args s = true) : ∃ (cA : ClassId) (k : Class) (comp : ClassId), s.vm.findClass ("[" ++ ty.toString) = some cA ∧ s.vm.classes[cA]? = some k ∧ k.kind = .array comp ty := Cond.arrayClass_spec h
theorem arr_int {s : State} {args : Array Value} (h : (Cond.arrayClass .int).before args s = true) : ∃ cA, ArrOfT s cA .int ∧ va_RA s cA .int := by
  obtain ⟨c, k, comp, h1, h2, h3⟩ := arr_prim h
  exact ⟨c, fun n z => ⟨fun k h => (by cases h), k, h2, comp, h3⟩, h1⟩
theorem arr_long {s : State} {args : Array Value} (h : (Cond.arrayClass .long).before args s = true) : ∃ cA, ArrOfT s cA .long ∧ va_RA s cA .long := by
  obtain ⟨c, k, comp, h1, h2, h3⟩ := arr_prim h
  exact ⟨c, fun n z => ⟨fun k h => (by cases h), k, h2, comp, h3⟩, h1⟩
theorem arr_boolean {s : State} {args : Array Value} (h : (Cond.arrayClass .boolean).before args s = true) : ∃ cA, ArrOfT s cA .boolean ∧ va_RA s cA .boolean := by
  obtain ⟨c, k, comp, h1, h2, h3⟩ := arr_prim h
  exact ⟨c, fun n z => ⟨fun k h => (by cases h), k, h2, comp, h3⟩, h1⟩
theorem arr_obj {C : String} {s : State} {args : Array Value} (h : (Cond.arrayOver (.object C)).before args s = true) : ∃ cA, ArrOfT s cA (.object C) ∧ va_RA s cA (.object C) := by
  obtain ⟨comp, c, k, h1, h2, h3, h4, h5⟩ := Cond.arrayOver_spec h
  exact ⟨c, fun n z => ⟨fun k h => (by cases h), k, h3, comp, h4⟩, ⟨k, comp, h3, h4, h1, h5⟩⟩
theorem arr_al {s : State} {args : Array Value} (h : (Cond.arrayOver (.array .long)).before args s = true) : ∃ cA, ArrOfT s cA (.array .long) ∧ va_RA s cA (.array .long) := by
  have key : ∃ comp c k, s.vm.classes[c]? = some k ∧ k.kind = .array comp (.array .long) ∧ s.vm.findClass ("[" ++ (FieldType.array .long).toString) = some c := by
    unfold Cond.before at h
    simp only [Cond.holds, Cond.value, beq_iff_eq] at h
    cases hc : s.vm.findClass (FieldType.array .long).toString with
    | none => simp [hc] at h
    | some comp =>
      simp only [hc, Option.bind_some, Option.bind_eq_some_iff, Option.map_eq_some_iff] at h
      obtain ⟨c, hi, k, hk, hb⟩ := h
      cases hkind : k.kind with
      | array component ty =>
        rw [hkind] at hb
        simp at hb
        exact ⟨component, c, k, hk, by rw [hkind, hb.1], hb.2⟩
      | _ => rw [hkind] at hb; simp at hb
  obtain ⟨comp, c, k, h1, h2, h3⟩ := key
  exact ⟨c, fun n z => ⟨fun k h => (by cases h), k, h1, comp, h2⟩, h3⟩
theorem KK0 {s : State} {args : Array Value} (hts : ∀ w ∈ lw_tbl, w.before args s = true) : ∃ (D : va_G) (cT : Nat → ClassId), ∀ cT' : Nat → ClassId, (∀ j, j < 5 → cT' j = cT j) → KK D cT' s := by
  have hg : ∀ w ∈ gw, w.before args s = true := fun w hw => hts w (List.mem_filter.mp hw).1
  obtain ⟨c0, d0, k0⟩ := u_known (C := RX0) (T := TX0) (N := 4) (n := 4) hg gw_0 (hg _ kn_0)
  obtain ⟨c1, d1, k1⟩ := u_known (C := RX1) (T := TX1) (N := 10) (n := 10) hg gw_1 (hg _ kn_1)
  obtain ⟨c2, d2, k2⟩ := u_known (C := RX2) (T := TX2) (N := 4) (n := 4) hg gw_2 (hg _ kn_2)
  obtain ⟨c3, d3, k3⟩ := u_known (C := RX3) (T := TX3) (N := 9) (n := 9) hg gw_3 (hg _ kn_3)
  obtain ⟨c4, d4, k4⟩ := u_known (C := RX4) (T := TX4) (N := 31) (n := 31) hg gw_4 (hg _ kn_4)
  have o0 : (Cond.arrayOver (.object RX0)).before args s = true := hts _ (by decide +kernel)
  have o1 : (Cond.arrayOver (.array .long)).before args s = true := hts _ (by decide +kernel)
  obtain ⟨e0, a0⟩ := arr_int (hg _ ac_int)
  obtain ⟨e1, a1⟩ := arr_long (hg _ ac_long)
  obtain ⟨e2, a2⟩ := arr_boolean (hg _ ac_boolean)
  obtain ⟨e3, a3⟩ := arr_obj o0
  obtain ⟨e4, a4⟩ := arr_al o1
  refine ⟨(fun k => if k = 0 then c0 else if k = 1 then c1 else if k = 2 then c2 else if k = 3 then c3 else c4, fun k => if k = 0 then d0 else if k = 1 then d1 else if k = 2 then d2 else if k = 3 then d3 else d4), fun k => if k = 0 then e0 else if k = 1 then e1 else if k = 2 then e2 else if k = 3 then e3 else e4, fun cT' hcT => ⟨⟨?_, ?_⟩, ?_, o0, o1⟩⟩
  · intro k q hq
    match k, hq with
    | 0, hq => cases hq; exact k0
    | 1, hq => cases hq; exact k1
    | 2, hq => cases hq; exact k2
    | 3, hq => cases hq; exact k3
    | 4, hq => cases hq; exact k4
    | k + 5, hq => simp [vwCl] at hq
  · intro k q hq
    unfold tysOf at hq
    rw [hcT 0 (by decide), hcT 1 (by decide), hcT 2 (by decide), hcT 3 (by decide), hcT 4 (by decide)] at hq
    match k, hq with
    | 0, hq => cases hq; exact a0
    | 1, hq => cases hq; exact a1
    | 2, hq => cases hq; exact a2
    | 3, hq => cases hq; exact a3
    | 4, hq => cases hq; exact a4
    | k + 5, hq => simp at hq
  · intro w hw
    obtain ⟨h1, h2⟩ := List.mem_filter.mp hw
    have h3 := hts w h1
    cases w <;> first | (cases h2; done) | exact h3
