/-! ===== the law's entry ===== -/
theorem noW0 (k : Nat) : wA W0 k = none := by
  have hall : W0.all (fun x => x.isLeft) = true := by decide +kernel
  cases h : wA W0 k with
  | none => rfl
  | some e =>
    have h1 := wA_iff.mp h
    have h2 := List.all_eq_true.mp hall _ (List.mem_of_getElem? h1)
    exact absurd h2 Bool.false_ne_true
theorem lnW0 : W0.length = 124 := by decide +kernel
set_option maxRecDepth 100000 in
set_option maxHeartbeats 4000000 in
theorem whole_start {p : Program} {e : Env} {s : State} {m : MethodId} {below : List Frame} {meth : Method} {c : Code} (l : Launch) (hflags : l.flags = flags0) {b L : Nat} {xs : Nat → Int32} (hL : L ≤ 3072) (C0 : lw_At p s m meth c b L xs) : W p l e room_1 s m #[Value.ref b] below meth c s.heap [] 0 0 (lw_Z below #[Value.ref b] s) (entryFrame m ([Value.ref b] : List Value).toArray 4) := by
  obtain ⟨hx, hb, hr, hml, hown, hts, hX, hbl, hlocks, hgv⟩ := C0
  obtain ⟨D, c5, hK⟩ := KK0 hts
  obtain ⟨ad, av, fm, hS⟩ := SS0 (A := fun a => s.heap.size ≤ a) hts hgv (fun a ha h => Nat.lt_irrefl _ (Nat.lt_of_lt_of_le ha h))
  obtain ⟨cT, e1, e2, e3⟩ : ∃ cT : Nat → ClassId, (∀ j, j < 5 → cT j = c5 j) ∧ (∀ i, i < 14 → cT (100 + i) = ad i ∧ cT (200 + i) = av i) ∧ cT 400 = fm := by
    refine ⟨fun j => if j < 5 then c5 j else if j < 200 then ad (j - 100) else if j < 400 then av (j - 200) else fm, fun j hj => if_pos hj, fun i hi => ⟨?_, ?_⟩, ?_⟩
    · show (if 100 + i < 5 then c5 (100 + i) else if 100 + i < 200 then ad (100 + i - 100) else if 100 + i < 400 then av (100 + i - 200) else fm) = ad i
      rw [if_neg (by omega), if_pos (by omega), show 100 + i - 100 = i by omega]
    · show (if 200 + i < 5 then c5 (200 + i) else if 200 + i < 200 then ad (200 + i - 100) else if 200 + i < 400 then av (200 + i - 200) else fm) = av i
      rw [if_neg (by omega), if_neg (by omega), if_pos (by omega), show 200 + i - 200 = i by omega]
    · show (if 400 < 5 then c5 400 else if 400 < 200 then ad (400 - 100) else if 400 < 400 then av (400 - 200) else fm) = fm
      rw [if_neg (by omega), if_neg (by omega), if_neg (by omega)]
  obtain ⟨q0, hz, hq⟩ : ∃ q0 : Nat → Nat, Zq cT q0 ∧ q0 900 = b := by
    refine ⟨fun j => if j = 900 then b else cT (100 + (j - 1000)), fun j => ?_, if_pos rfl⟩
    show (if 1000 + j = 900 then b else cT (100 + (1000 + j - 1000))) = cT (100 + j)
    rw [if_neg (by omega), show 1000 + j - 1000 = j by omega]
  have hA : ∀ a, AF q0 W0 s.heap.size a → s.heap.size ≤ a := by
    rintro a (⟨k, e9, h1, -⟩ | h1)
    · rw [noW0 k] at h1; cases h1
    · exact h1
  have hSS : SS cT (AF q0 W0 s.heap.size) s s.heap := (hS cT e2 e3).narrow hA
  have hFX : FX p s m #[Value.ref b] meth c D cT 4 s.heap.size O_L.1 code := ⟨hx, hb, hml, hown, fun w hw => hts w (List.mem_filter.mp hw).1, hK cT e1, hlocks, rfl⟩
  have M : ML l D cT b L xs (fun bc bs w pc L st => GG p l e room_1 s m #[Value.ref b] below meth c D cT 4 q0 W0 s.heap.size (lw_Z below #[Value.ref b] s) bc bs w pc L st) :=
    ⟨p, e, s, m, below, meth, c, q0, W0, hFX, ⟨hSS, hz, by rw [lnW0]; omega⟩, rfl, hX, hbl, noW0, by rw [lnW0]; omega, hq, hr⟩
  have G := startL M hL
  have hLQ : LQ 4 q0 [some (.ref 900), none, none, none] ((lg_sl [Value.ref b] ++ List.replicate (4 - (lg_sl [Value.ref b]).length) Slot.unset).toArray) := by
    have h := LQ.ofArgs (q := q0) (As := [Value.ref 900]) (n := 4) rfl (by decide)
    rw [show ([Value.ref 900] : List Value).map (tV q0) = [Value.ref b] from by rw [← hq]; rfl] at h
    exact h
  rw [lg_entry_eq]
  refine G q0 s.heap [] _ 0 0 Ext.rf (fun k e9 h9 => ?_) ⟨fun i j e9 f9 h9 => ?_, fun k e9 h9 => ?_⟩ va_S.rf hLQ (Nat.le_refl _) (Nat.le_refl _)
  · rw [noW0 k] at h9; cases h9
  · rw [noW0 i] at h9; cases h9
  · rw [noW0 k] at h9; cases h9
