/-! ===== eight rows of forty, and what holds them ===== -/
def mW0 (x0 x1 x2 x3 : Nat ⊕ va_E) : Wd := [x0, x1, x2, x3, .inl 8, .inl 40, .inl 8, .inl 250, .inl 8, .inl 16, .inl 16, .inl 16, .inl 6, .inl 6, .inl 2, .inl 999, .inl 52, .inl 52, .inl 40, .inl 40, .inl 40, .inl 40, .inl 40, .inl 40, .inl 40, .inl 40]
def mRow : Nat ⊕ va_E := .inr (.inl (1, 40, .inr (.inl (fun _ => 0))))
def mOut : Nat ⊕ va_E := rfC 4 8 [18, 19, 20, 21, 22, 23, 24, 25]
def mW1 (x0 x1 x2 x3 : Nat ⊕ va_E) : Wd := [x0, x1, x2, x3, mOut, .inl 40, .inl 8, .inl 250, .inl 8, .inl 16, .inl 16, .inl 16, .inl 6, .inl 6, .inl 2, .inl 999, .inl 52, .inl 52, mRow, mRow, mRow, mRow, mRow, mRow, mRow, mRow]
theorem mW_o {x0 x1 x2 x3 : Nat ⊕ va_E} : ∀ j, j ≠ 4 → ¬ (18 ≤ j ∧ j < 26) → (mW1 x0 x1 x2 x3)[j]? = (mW0 x0 x1 x2 x3)[j]?
  | 0, _, _ => rfl
  | 1, _, _ => rfl
  | 2, _, _ => rfl
  | 3, _, _ => rfl
  | 4, h, _ => absurd rfl h
  | 5, _, _ => rfl
  | 6, _, _ => rfl
  | 7, _, _ => rfl
  | 8, _, _ => rfl
  | 9, _, _ => rfl
  | 10, _, _ => rfl
  | 11, _, _ => rfl
  | 12, _, _ => rfl
  | 13, _, _ => rfl
  | 14, _, _ => rfl
  | 15, _, _ => rfl
  | 16, _, _ => rfl
  | 17, _, _ => rfl
  | 18, _, h => absurd (by decide) h
  | 19, _, h => absurd (by decide) h
  | 20, _, h => absurd (by decide) h
  | 21, _, h => absurd (by decide) h
  | 22, _, h => absurd (by decide) h
  | 23, _, h => absurd (by decide) h
  | 24, _, h => absurd (by decide) h
  | 25, _, h => absurd (by decide) h
  | _ + 26, _, _ => rfl
theorem mW_r {x0 x1 x2 x3 : Nat ⊕ va_E} {i : Nat} (h : i < 8) : (mW1 x0 x1 x2 x3)[18 + i]? = some mRow := by
  rcases lt8 h with rfl | rfl | rfl | rfl | rfl | rfl | rfl | rfl <;> rfl
theorem mW_a {x0 x1 x2 x3 : Nat ⊕ va_E} {i : Nat} (h : i < 8) : (mW0 x0 x1 x2 x3)[18 + i]? = some (.inl 40) := by
  rcases lt8 h with rfl | rfl | rfl | rfl | rfl | rfl | rfl | rfl <;> rfl
def qM (q : Nat → Nat) (S : Nat) : Nat → Nat := fun j => if j = 4 then S else if 18 ≤ j ∧ j < 26 then S + 1 + (j - 18) else q j
theorem outer_eq (c : ClassId) (N h0 : Nat) : ∀ i : Nat, Jvm.Free.Multi.outerC c N h0 i = arrV c N (fun j => if j < i then .ref (h0 + 1 + j) else .null)
  | 0 => by
    show ({ cls := c, slots := Array.replicate N .null, vm := .none } : Cell) = _
    rw [arrV_new]
    exact congrArg (arrV c N) (funext fun j => (if_neg (Nat.not_lt_zero j)).symm)
  | i + 1 => by
    show (Jvm.Free.Multi.outerC c N h0 i).setSlot i (.ref (h0 + 1 + i)) = _
    rw [outer_eq c N h0 i, arrV_store]
    refine congrArg (arrV c N) (funext fun j => ?_)
    unfold updV
    by_cases e : j = i
    · subst e
      rw [if_pos rfl, if_pos (Nat.lt_succ_self j)]
    · rw [if_neg e]
      show (if j < i then Value.ref (h0 + 1 + j) else Value.null) = _
      by_cases h : j < i
      · rw [if_pos h, if_pos (Nat.lt_succ_of_lt h)]
      · rw [if_neg h, if_neg (by omega)]
theorem arrV_same {c : ClassId} {N : Nat} {f g : Nat → Value} (h : ∀ j, j < N → f j = g j) : arrV c N f = arrV c N g := by
  unfold arrV
  congr 1
  apply congrArg
  funext j
  exact h j.val j.isLt
section MNA
variable {l : Launch} {D : va_G} {cT : Nat → ClassId} {O : Own} {code : ByteArray} {nL fr lo Rc Rs : Nat} {g : GT} {bc bs : Nat}
variable {pc ix : Nat} {L : List (Option Value)} {rest : List Value} {x0 x1 x2 x3 : Nat ⊕ va_E}
theorem m_mna (M : MB l D cT O code nL fr lo Rc Rs g) (hcl : Cond.classLink O.1 ix "[[J" ∈ gw) (harr : Cond.arrayClass .long ∈ gw) (hNR : NRW (mW0 x0 x1 x2 x3)) (hrl : rfL (mW0 x0 x1 x2 x3) L = true) (hrr : rest.all (okP (mW0 x0 x1 x2 x3)) = true) (hb1 : bc + 9 ≤ Rc) (hb2 : bs + 328 ≤ Rs) (hd : decode code pc = .ok (.multianewarray ix 2, 4)) (kk : g (bc + 9) (bs + 328) (mW1 x0 x1 x2 x3) (pc + 4) L (.ref 4 :: rest)) : g bc bs (mW0 x0 x1 x2 x3) pc L (.int 40 :: .int 8 :: rest) := by
  obtain ⟨p, e, R, s, m, args, below, meth, c, q0, w0, sz, Q, ⟨hx, hb, hml, hown, hts, hK, hlk, hsz⟩, h2, h3, h4, h5, h6, hxs, rfl⟩ := M
  intro q H locs ls cells slots a1 a2 a3 a4 a5 a6 a7 T hT X
  obtain ⟨vm₁, cA, comp, -, fA, fC, hO, -, X', step⟩ := X.multianewarray2F hx hown (ty := .long) (hts _ hcl) hK.2.2.2 (hts _ harr) (g := F0 m pc ls (.int 40 :: .int 8 :: rest.map (tV q))) rfl (by rw [hb]; exact hd) rfl (by decide) (by decide) (by decide) (by decide) (by decide) rfl rfl (by show cells + (1 + 8) ≤ R.cells; omega) (by show slots + (8 + 8 * 40) ≤ R.slots; omega)
  have e1 : cT 1 = comp := Option.some.inj (Eq.trans (Eq.symm (hK.1.2 1 (cT 1, .long) rfl).2) fC)
  have e4 : cT 4 = cA := Option.some.inj (Eq.trans (Eq.symm (hK.1.2 4 (cT 4, .array .long) rfl).2) fA)
  subst e1
  subst e4
  have hTh : (T.setVm vm₁).heap = H := hT
  have f1 := (Jvm.Free.Multi.fill_facts (T.setVm vm₁) (cT 4) (cT 1) 8 40 (defaultValue .long) 8).1
  have f2 := (Jvm.Free.Multi.fill_facts (T.setVm vm₁) (cT 4) (cT 1) 8 40 (defaultValue .long) 8).2.1
  have f3 : ∀ j, j < 8 → (Jvm.Free.Multi.fill (T.setVm vm₁) (cT 4) (cT 1) 8 40 (defaultValue .long) 8).heap[(T.setVm vm₁).heap.size + 1 + j]? = some (Jvm.Free.Multi.innerC (cT 1) 40 (defaultValue .long)) := fun j hj => Jvm.Free.Multi.fill_inner (T.setVm vm₁) (cT 4) (cT 1) 8 40 (defaultValue .long) 8 j hj
  have f4 : ∀ x : Nat, x < H.size → (Jvm.Free.Multi.fill (T.setVm vm₁) (cT 4) (cT 1) 8 40 (defaultValue .long) 8).heap[x]? = H[x]? := fun x hx9 => by
    have := Jvm.Free.Multi.fill_old (T.setVm vm₁) (cT 4) (cT 1) 8 40 (defaultValue .long) (a := x) (by rw [hTh]; exact hx9) 8
    rw [hTh] at this
    exact this
  rw [hTh] at f1 f2 f3
  have hX' : Stand p l e R s m args below meth c (Jvm.Free.Multi.fill (T.setVm vm₁) (cT 4) (cT 1) 8 40 (defaultValue .long) 8) locs (cells + 1 + 8) (slots + 8 + 8 * 40) := X'
  have hstep : ∀ target, Steps p.tables e below ((Jvm.Free.Multi.fill (T.setVm vm₁) (cT 4) (cT 1) 8 40 (defaultValue .long) 8).setTop (F0 m (pc + 4) ls (.ref T.heap.size :: rest.map (tV q)))) target → Steps p.tables e below (T.setTop (F0 m pc ls (.int 40 :: .int 8 :: rest.map (tV q)))) target := step
  generalize Jvm.Free.Multi.fill (T.setVm vm₁) (cT 4) (cT 1) 8 40 (defaultValue .long) 8 = F at f1 f2 f3 f4 hX' hstep
  clear step X'
  have hab : ∀ j e, wA (mW0 x0 x1 x2 x3) j = some e → j ≠ 4 ∧ ¬ (18 ≤ j ∧ j < 26) := by
    intro j e he
    rw [wA_iff] at he
    refine ⟨fun z => ?_, fun z => ?_⟩
    · subst z; cases he
    · have h9 := mW_a (x0 := x0) (x1 := x1) (x2 := x2) (x3 := x3) (i := j - 18) (by omega)
      rw [show 18 + (j - 18) = j by omega, he] at h9
      cases h9
  have hq : ∀ j e, wA (mW0 x0 x1 x2 x3) j = some e → qM q H.size j = q j := fun j e he => by
    obtain ⟨g1, g2⟩ := hab j e he
    unfold qM
    rw [if_neg g1, if_neg g2]
  have hqp : ∀ j, prs (mW0 x0 x1 x2 x3) j = true → qM q H.size j = q j := fun j hj => by
    rcases prs_use hj with ⟨e, he⟩ | hj
    · exact hq j e he
    · have h26 : (mW0 x0 x1 x2 x3).length = 26 := rfl
      unfold qM
      rw [if_neg (by omega), if_neg (by omega)]
  have hold : ∀ j e, wA (mW0 x0 x1 x2 x3) j = some e → wA (mW1 x0 x1 x2 x3) j = some e := fun j e he => by
    obtain ⟨g1, g2⟩ := hab j e he
    rw [wA_iff] at he ⊢
    rw [mW_o j g1 g2]
    exact he
  have hcase : ∀ j e, wA (mW1 x0 x1 x2 x3) j = some e → (j = 4 ∧ (.inr e : Nat ⊕ va_E) = mOut) ∨ (∃ t, t < 8 ∧ j = 18 + t ∧ (.inr e : Nat ⊕ va_E) = mRow) ∨ wA (mW0 x0 x1 x2 x3) j = some e := by
    intro j e he
    by_cases g1 : j = 4
    · subst g1
      rw [wA_iff] at he
      exact Or.inl ⟨rfl, (Option.some.inj he).symm⟩
    · by_cases g2 : 18 ≤ j ∧ j < 26
      · refine Or.inr (Or.inl ⟨j - 18, by omega, by omega, ?_⟩)
        have h9 := mW_r (x0 := x0) (x1 := x1) (x2 := x2) (x3 := x3) (i := j - 18) (by omega)
        rw [wA_iff] at he
        rw [show 18 + (j - 18) = j by omega, he] at h9
        exact Option.some.inj h9
      · refine Or.inr (Or.inr ?_)
        rw [wA_iff] at he ⊢
        rw [← mW_o j g1 g2]
        exact he
  have q4 : qM q H.size 4 = H.size := if_pos rfl
  have q18 : ∀ t, t < 8 → qM q H.size (18 + t) = H.size + 1 + t := fun t ht => by
    unfold qM
    rw [if_neg (by omega), if_pos (by omega)]
    omega
  have hRP : RP D cT (qM q H.size) (mW1 x0 x1 x2 x3) F.heap := by
    intro j e he
    rcases hcase j e he with ⟨rfl, h9⟩ | ⟨t, ht, rfl, h9⟩ | h9
    · cases Sum.inr.inj h9
      rw [q4]
      show F.heap[H.size]? = some (vp_cell (cT 4) (8, .inr (.inr (.inr (.inr (fun i => (([18, 19, 20, 21, 22, 23, 24, 25] : List Nat)[i]?).map (qM q H.size)))))))
      rw [f2, outer_eq, vp_cell_q]
      refine congrArg some (arrV_same fun i hi => ?_)
      rw [if_pos hi]
      have h10 : ([18, 19, 20, 21, 22, 23, 24, 25] : List Nat)[i]? = some (18 + i) := by
        rcases lt8 hi with rfl | rfl | rfl | rfl | rfl | rfl | rfl | rfl <;> rfl
      rw [h10, Option.map_some, q18 i hi]
      rfl
    · cases Sum.inr.inj h9
      rw [q18 t ht]
      show F.heap[H.size + 1 + t]? = some (vp_cell (cT 1) (40, .inr (.inl (fun _ => 0))))
      rw [f3 t ht]
      exact congrArg some (arrV_new (cT 1) 40 (.long 0))
    · rw [hq j e h9, tE_NR hqp (hNR j e h9)]
      exact (a2 j e h9).kept (f4 _ (a2 j e h9).lt)
  have hlt : ∀ j e, wA (mW0 x0 x1 x2 x3) j = some e → q j < H.size := fun j e h9 => (a2 j e h9).lt
  have hDP : DP (AF q0 w0 sz) (qM q H.size) (mW1 x0 x1 x2 x3) := by
    refine ⟨fun i j a b hi hj hij => ?_, fun i a hi => ?_⟩
    · rcases hcase i a hi with ⟨rfl, -⟩ | ⟨t, ht, rfl, -⟩ | h9 <;> rcases hcase j b hj with ⟨rfl, -⟩ | ⟨u, hu, rfl, -⟩ | h10
      · rfl
      · rw [q4, q18 u hu] at hij; omega
      · rw [q4, hq j b h10] at hij; have := hlt j b h10; omega
      · rw [q4, q18 t ht] at hij; omega
      · rw [q18 t ht, q18 u hu] at hij; omega
      · rw [q18 t ht, hq j b h10] at hij; have := hlt j b h10; omega
      · rw [q4, hq i a h9] at hij; have := hlt i a h9; omega
      · rw [q18 u hu, hq i a h9] at hij; have := hlt i a h9; omega
      · rw [hq i a h9, hq j b h10] at hij; exact a3.1 i j a b h9 h10 hij
    · have hs := a4.1
      rcases hcase i a hi with ⟨rfl, -⟩ | ⟨t, ht, rfl, -⟩ | h9
      · rw [q4]; exact Or.inr (by omega)
      · rw [q18 t ht]; exact Or.inr (by omega)
      · rw [hq i a h9]; exact a3.2 i a h9
  have hExt : Ext q0 w0 (qM q H.size) (mW1 x0 x1 x2 x3) := by
    have hl : w0.length = 26 := a1.2.2.symm
    refine ⟨fun j hj => ?_, fun j e he => ?_, a1.2.2⟩
    · rw [← a1.1 j hj]
      rcases hj with ⟨e, he⟩ | hj
      · obtain ⟨e', he'⟩ := a1.2.1 j e he
        exact hq j e' he'
      · unfold qM
        rw [if_neg (by omega), if_neg (by omega)]
    · obtain ⟨e', he'⟩ := a1.2.1 j e he
      exact ⟨e', hold j e' he'⟩
  have hst : (.ref T.heap.size :: rest.map (tV q)) = (.ref 4 :: rest).map (tV (qM q H.size)) := by
    rw [List.map_cons, stk_P hqp hrr, show tV (qM q H.size) (.ref 4) = .ref H.size from congrArg Value.ref q4, show T.heap.size = H.size by rw [show T.heap = H from hT]]
  rw [hst] at hstep
  obtain ⟨t, b1, b2⟩ := kk (qM q H.size) F.heap locs ls (cells + 1 + 8) (slots + 8 + 8 * 40) hExt hRP hDP ⟨by rw [f1]; have := a4.1; omega, fun x g1 g2 => (f4 x (Nat.lt_of_lt_of_le g1 a4.1)).trans (a4.2.1 x g1 g2), a4.2.2⟩ ⟨by rw [lvl_P hqp L 0 hrl]; exact a5.1, a5.2⟩ (by omega) (by omega) F rfl hX'
  exact ⟨t, hstep t b1, b2⟩
end MNA
