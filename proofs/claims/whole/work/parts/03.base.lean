/-! ===== the abstract machine: cells by names ===== -/
def gw : List Cond := lw_tbl.filter goodWord
def nw_is : Cond → Bool
  | .methodLinkNest _ _ _ _ => true
  | .fieldLinkNest _ _ _ _ _ _ => true
  | _ => false
def nw : List Cond := lw_tbl.filter nw_is
abbrev Wd : Type := List (Nat ⊕ va_E)
def wA (w : Wd) (k : Nat) : Option va_E := match w[k]? with
  | some (.inr e) => some e
  | _ => none
def tV (q : Nat → Nat) : Value → Value
  | .ref k => .ref (q k)
  | v => v
def tA (q : Nat → Nat) (a : vp_A) : vp_A := match a with
  | (n, .inr (.inr (.inr (.inr f)))) => (n, .inr (.inr (.inr (.inr (fun j => (f j).map q)))))
  | a => a
def tE (cT : Nat → ClassId) (q : Nat → Nat) : va_E → va_E
  | .inl (t, a) => .inl (cT t, tA q a)
  | .inr (ci, fs) => .inr (ci, fs.map (tV q))
def potC : Wd → Nat
  | [] => 0
  | .inl _ :: r => potC r + 1
  | .inr _ :: r => potC r
def potS : Wd → Nat
  | [] => 0
  | .inl n :: r => potS r + n
  | .inr _ :: r => potS r
def RP (D : va_G) (cT : Nat → ClassId) (q : Nat → Nat) (w : Wd) (H : Heap) : Prop := ∀ k e, wA w k = some e → va_at D vwCl (q k, tE cT q e) H
def DP (A : Nat → Prop) (q : Nat → Nat) (w : Wd) : Prop := (∀ i j e f, wA w i = some e → wA w j = some f → q i = q j → i = j) ∧ ∀ k e, wA w k = some e → A (q k)
def AF (q : Nat → Nat) (w : Wd) (sz : Nat) : Nat → Prop := fun a => (∃ k e, wA w k = some e ∧ q k = a) ∨ sz ≤ a
def Ext (q : Nat → Nat) (w : Wd) (q' : Nat → Nat) (w' : Wd) : Prop := (∀ k, ((∃ e, wA w k = some e) ∨ w.length ≤ k) → q' k = q k) ∧ (∀ k e, wA w k = some e → ∃ e', wA w' k = some e') ∧ w'.length = w.length
theorem Ext.rf {q : Nat → Nat} {w : Wd} : Ext q w q w := ⟨fun _ _ => rfl, fun k e h => ⟨e, h⟩, rfl⟩
theorem Ext.tr {q0 q1 q2 : Nat → Nat} {w0 w1 w2 : Wd} (h1 : Ext q0 w0 q1 w1) (h2 : Ext q1 w1 q2 w2) : Ext q0 w0 q2 w2 := by
  refine ⟨fun k h => ?_, fun k e h => ?_, h2.2.2.trans h1.2.2⟩
  · rw [← h1.1 k h]
    refine h2.1 k ?_
    rcases h with ⟨e, h⟩ | h
    · exact Or.inl (h1.2.1 k e h)
    · exact Or.inr (by rw [h1.2.2]; exact h)
  · obtain ⟨e1, b⟩ := h1.2.1 k e h
    exact h2.2.1 k e1 b
/-- the cells that are there, as the kit lists them -/
def cn (cT : Nat → ClassId) (q : Nat → Nat) (w : Wd) : va_W := (List.range w.length).filterMap (fun k => (wA w k).map (fun e => (q k, tE cT q e)))
theorem wA_lt {w : Wd} {k : Nat} {e : va_E} (h : wA w k = some e) : k < w.length := by
  unfold wA at h
  rcases Nat.lt_or_ge k w.length with h1 | h1
  · exact h1
  · rw [List.getElem?_eq_none h1] at h; cases h
theorem cn_mem {cT : Nat → ClassId} {q : Nat → Nat} {w : Wd} {x : Nat × va_E} : x ∈ cn cT q w ↔ ∃ k e, wA w k = some e ∧ x = (q k, tE cT q e) := by
  unfold cn
  rw [List.mem_filterMap]
  constructor
  · rintro ⟨k, -, h⟩
    cases he : wA w k with
    | none => rw [he] at h; cases h
    | some e => rw [he] at h; exact ⟨k, e, he, (Option.some.inj h).symm⟩
  · rintro ⟨k, e, h, rfl⟩
    exact ⟨k, List.mem_range.mpr (wA_lt h), by rw [h]; rfl⟩
theorem cn_get {cT : Nat → ClassId} {q : Nat → Nat} {w : Wd} {k : Nat} {e : va_E} (h : wA w k = some e) : ∃ j : Nat, (cn cT q w)[j]? = some (q k, tE cT q e) :=
  List.getElem?_of_mem (cn_mem.mpr ⟨k, e, h, rfl⟩)
theorem RP.P {D : va_G} {cT : Nat → ClassId} {q : Nat → Nat} {w : Wd} {H : Heap} (h : RP D cT q w H) : va_P D vwCl (cn cT q w) H := by
  intro i x hx
  obtain ⟨k, e, he, rfl⟩ := cn_mem.mp (List.mem_of_getElem? hx)
  exact h k e he
theorem pw_inj {α : Type} : ∀ (l : List (Nat × α)), l.Pairwise (fun a b => a.1 ≠ b.1) → ∀ (i j : Nat) (p q : Nat × α), l[i]? = some p → l[j]? = some q → p.1 = q.1 → i = j
  | [], _, i, j, p, q, h, _, _ => by simp at h
  | a :: l, hp, i, j, p, q, hi, hj, e => by
    rw [List.pairwise_cons] at hp
    cases i with
    | zero =>
      cases j with
      | zero => rfl
      | succ j =>
        simp at hi hj
        subst hi
        exact absurd e (hp.1 q (List.mem_of_getElem? hj))
    | succ i =>
      cases j with
      | zero =>
        simp at hi hj
        subst hj
        exact absurd e.symm (hp.1 p (List.mem_of_getElem? hi))
      | succ j =>
        simp at hi hj
        rw [pw_inj l hp.2 i j p q hi hj e]
theorem DP.D {A : Nat → Prop} {cT : Nat → ClassId} {q : Nat → Nat} {w : Wd} (h : DP A q w) : va_D A (cn cT q w) := by
  refine ⟨fun i j x y hi hj hxy => pw_inj _ ?_ i j x y hi hj hxy, fun i x hx => ?_⟩
  · unfold cn
    rw [List.pairwise_filterMap]
    refine List.Pairwise.imp ?_ List.nodup_range
    intro a b hab x hx y hy hq
    cases ha : wA w a with
    | none => rw [ha] at hx; cases hx
    | some e =>
      cases hb : wA w b with
      | none => rw [hb] at hy; cases hy
      | some f =>
        rw [ha] at hx; rw [hb] at hy
        cases hx; cases hy
        exact hab (h.1 a b e f ha hb hq)
  · obtain ⟨k, e, he, rfl⟩ := cn_mem.mp (List.mem_of_getElem? hx)
    exact h.2 k e he
theorem wA_set {w : Wd} {k : Nat} (h : k < w.length) (e : va_E) (i : Nat) : wA (w.set k (.inr e)) i = if i = k then some e else wA w i := by
  unfold wA
  by_cases hi : i = k
  · subst hi
    rw [List.getElem?_set_self h, if_pos rfl]
  · rw [List.getElem?_set_ne (Ne.symm hi), if_neg hi]
theorem DP.set {A : Nat → Prop} {q : Nat → Nat} {w : Wd} {k : Nat} {e0 : va_E} (h : DP A q w) (h0 : wA w k = some e0) (e : va_E) : DP A q (w.set k (.inr e)) := by
  have key : ∀ i x, wA (w.set k (.inr e)) i = some x → ∃ y, wA w i = some y := by
    intro i x hx
    rw [wA_set (wA_lt h0)] at hx
    by_cases hi : i = k
    · subst hi; exact ⟨_, h0⟩
    · rw [if_neg hi] at hx; exact ⟨_, hx⟩
  refine ⟨fun i j x y hi hj => ?_, fun i x hi => ?_⟩
  · obtain ⟨x0, h1⟩ := key i x hi
    obtain ⟨y0, h2⟩ := key j y hj
    exact h.1 i j x0 y0 h1 h2
  · obtain ⟨x0, h1⟩ := key i x hi
    exact h.2 i x0 h1
theorem Ext.set {q0 q : Nat → Nat} {w0 w : Wd} {k : Nat} {e0 : va_E} (h : Ext q0 w0 q w) (h0 : wA w k = some e0) (e : va_E) : Ext q0 w0 q (w.set k (.inr e)) := by
  refine ⟨h.1, fun i x hx => ?_, by rw [List.length_set]; exact h.2.2⟩
  obtain ⟨e1, b⟩ := h.2.1 i x hx
  rw [wA_set (wA_lt h0)]
  by_cases hi : i = k
  · rw [if_pos hi]; exact ⟨_, rfl⟩
  · rw [if_neg hi]; exact ⟨_, b⟩
/-- back from the kit's list behind one write -/
theorem RP.back {A : Nat → Prop} {D : va_G} {cT : Nat → ClassId} {q : Nat → Nat} {w : Wd} {H : Heap} {k j : Nat} {e0 e : va_E} (hD : DP A q w) (h0 : wA w k = some e0) (hj : (cn cT q w)[j]? = some (q k, tE cT q e0)) (hP : va_P D vwCl ((cn cT q w).set j (q k, tE cT q e)) H) : RP D cT q (w.set k (.inr e)) H := by
  intro i x hx
  rw [wA_set (wA_lt h0)] at hx
  have hl := (List.getElem?_eq_some_iff.mp hj).1
  by_cases hi : i = k
  · rw [if_pos hi] at hx
    cases hx
    subst hi
    exact hP j _ (List.getElem?_set_self hl)
  · rw [if_neg hi] at hx
    obtain ⟨j2, h2⟩ := cn_get (cT := cT) (q := q) hx
    have hne : j ≠ j2 := by
      intro z
      subst z
      rw [hj] at h2
      have e1 : q k = q i := congrArg Prod.fst (Option.some.inj h2)
      exact hi (hD.1 i k x e0 hx h0 e1.symm)
    exact hP j2 _ (by rw [List.getElem?_set_ne hne]; exact h2)
/-! the locals -/
def lvl (q : Nat → Nat) : Nat → List (Option Value) → List (Nat × Value)
  | _, [] => []
  | i, none :: L => lvl q (i + 1) L
  | i, some v :: L => (i, tV q v) :: lvl q (i + 1) L
theorem lvl_mem {q : Nat → Nat} : ∀ (L : List (Option Value)) (i : Nat) (x : Nat × Value), x ∈ lvl q i L ↔ ∃ k v, L[k]? = some (some v) ∧ x = (i + k, tV q v)
  | [], i, x => by simp [lvl]
  | none :: L, i, x => by
    rw [lvl, lvl_mem L]
    constructor
    · rintro ⟨k, v, h, rfl⟩
      exact ⟨k + 1, v, by simpa using h, by rw [show i + 1 + k = i + (k + 1) by omega]⟩
    · rintro ⟨k, v, h, rfl⟩
      cases k with
      | zero => simp at h
      | succ k => exact ⟨k, v, by simpa using h, by rw [show i + (k + 1) = i + 1 + k by omega]⟩
  | some w :: L, i, x => by
    rw [lvl, List.mem_cons, lvl_mem L]
    constructor
    · rintro (rfl | ⟨k, v, h, rfl⟩)
      · exact ⟨0, w, rfl, rfl⟩
      · exact ⟨k + 1, v, by simpa using h, by rw [show i + 1 + k = i + (k + 1) by omega]⟩
    · rintro ⟨k, v, h, rfl⟩
      cases k with
      | zero => simp at h; subst h; exact Or.inl rfl
      | succ k => exact Or.inr ⟨k, v, by simpa using h, by rw [show i + (k + 1) = i + 1 + k by omega]⟩
def LQ (nL : Nat) (q : Nat → Nat) (L : List (Option Value)) (ls : Array Slot) : Prop := lv_has ls nL (lvl q 0 L) ∧ L.length = nL
theorem LQ.get {nL : Nat} {q : Nat → Nat} {L : List (Option Value)} {ls : Array Slot} (h : LQ nL q L ls) {i : Nat} {v : Value} (hi : L[i]? = some (some v)) : ls[i]? = some (.val (tV q v)) :=
  h.1.2.2 (i, tV q v) ((lvl_mem L 0 _).mpr ⟨i, v, hi, by rw [Nat.zero_add]⟩)
theorem tV_cat (q : Nat → Nat) (v : Value) : (tV q v).category = v.category := by cases v <;> rfl
/-- no long begins just ahead of place i -/
def okS (L : List (Option Value)) : Nat → Bool
  | 0 => true
  | i + 1 => match L[i]? with
    | some (some v) => v.category == 1
    | _ => true
def stO (L : List (Option Value)) (i : Nat) (v : Value) : List (Option Value) := L.set i (some v)
def stT (L : List (Option Value)) (i : Nat) (v : Value) : List (Option Value) := (L.set i (some v)).set (i + 1) none
theorem okS_use {L : List (Option Value)} {i j : Nat} {v : Value} (h : okS L i = true) (hj : j + 1 = i) (hv : L[j]? = some (some v)) : ¬ v.category = 2 := by
  subst hj
  simp only [okS, hv, beq_iff_eq] at h
  omega
theorem LQ.one {nL : Nat} {q : Nat → Nat} {L : List (Option Value)} {ls' : Array Slot} {i : Nat} {v : Value} (hl : L.length = nL) (hi : i < L.length) (ho : okS L i = true)
    (h : lv_has ls' nL ((i, tV q v) :: (lvl q 0 L).filter (fun x => !(x.1 == i) && !(x.1 + 1 == i && x.2.category == 2)))) : LQ nL q (stO L i v) ls' := by
  refine ⟨⟨h.1, h.2.1, fun x hx => h.2.2 x ?_⟩, by simp [stO, hl]⟩
  obtain ⟨k, u, hk, rfl⟩ := (lvl_mem _ _ _).mp hx
  rw [Nat.zero_add] at *
  unfold stO at hk
  by_cases hki : i = k
  · subst hki
    rw [List.getElem?_set_self hi] at hk
    cases hk
    exact List.mem_cons_self
  · rw [List.getElem?_set_ne hki] at hk
    refine List.mem_cons_of_mem _ (List.mem_filter.mpr ⟨(lvl_mem _ _ _).mpr ⟨k, u, hk, by rw [Nat.zero_add]⟩, ?_⟩)
    by_cases h1 : k + 1 = i
    · have := okS_use ho h1 hk
      simp [Ne.symm hki, tV_cat, this]
    · simp [Ne.symm hki, h1]
theorem LQ.two {nL : Nat} {q : Nat → Nat} {L : List (Option Value)} {ls' : Array Slot} {i : Nat} {v : Value} (hl : L.length = nL) (hi : i + 1 < L.length) (ho : okS L i = true)
    (h : lv_has ls' nL ((i, tV q v) :: (lvl q 0 L).filter (fun x => !(x.1 == i) && (!(x.1 == i + 1) && !(x.1 + 1 == i && x.2.category == 2))))) : LQ nL q (stT L i v) ls' := by
  refine ⟨⟨h.1, h.2.1, fun x hx => h.2.2 x ?_⟩, by simp [stT, hl]⟩
  obtain ⟨k, u, hk, rfl⟩ := (lvl_mem _ _ _).mp hx
  rw [Nat.zero_add] at *
  unfold stT at hk
  by_cases hk2 : i + 1 = k
  · subst hk2
    rw [List.getElem?_set_self (by simpa using hi)] at hk
    cases hk
  · rw [List.getElem?_set_ne hk2] at hk
    by_cases hki : i = k
    · subst hki
      rw [List.getElem?_set_self (by omega)] at hk
      cases hk
      exact List.mem_cons_self
    · rw [List.getElem?_set_ne hki] at hk
      refine List.mem_cons_of_mem _ (List.mem_filter.mpr ⟨(lvl_mem _ _ _).mpr ⟨k, u, hk, by rw [Nat.zero_add]⟩, ?_⟩)
      by_cases h1 : k + 1 = i
      · have := okS_use ho h1 hk
        simp [Ne.symm hki, Ne.symm hk2, tV_cat, this]
      · simp [Ne.symm hki, Ne.symm hk2, h1]
