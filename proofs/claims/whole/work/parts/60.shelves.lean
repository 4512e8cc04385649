/-! ===== the shelves ===== -/
def SH (L : Nat) (u : SlT) (x so sz sh : Int32) (row : AL) : Prop :=
  (x = 0 ∧ u.2.1 = -1 ∧ u.2.2.1 = -1 ∧ u.2.2.2 = 0) ∨ (x = 1 ∧ ∃ t z, t ≤ 4 ∧ z ≤ 40 ∧ u.2.1 = kI t ∧ u.2.2.1 = -1 ∧ u.2.2.2 = kI z ∧ so = kI t ∧ sz = kI z ∧ ∀ j, j < z → u.1 j = row j) ∨ (x = 2 ∧ ∃ w, w < L ∧ w < 6 ∧ u.2.1 = -1 ∧ u.2.2.1 = kI w ∧ u.2.2.2 = 0 ∧ sh = kI w)
def SL (L : Nat) (sl : Nat → SlT) (sv : SvT) : Prop := ∀ j, j < 8 → SH L (sl j) (sv.1 j) (sv.2.1 j) (sv.2.2.1 j) (sv.2.2.2.1 j) (sv.2.2.2.2.2 j)
def TS (L : Nat) (x : Option (Int32 × (Nat → SlT) × AI)) (y : Option (Int32 × SvT × AI)) : Prop := ∃ r sl rf sv mf, x = some (r, sl, rf) ∧ y = some (r, sv, mf) ∧ SL L sl sv ∧ RF rf mf
theorem up_at {α : Type} {f : Nat → α} {k : Nat} {v : α} : va_up f k v k = v := if_pos rfl
theorem up_ne {α : Type} {f : Nat → α} {k j : Nat} {v : α} (h : j ≠ k) : va_up f k v j = f j := if_neg h
theorem upl_at {f : AL} {k : Nat} {v : Int64} : vp_updL f k v k = v := if_pos rfl
theorem upl_ne {f : AL} {k j : Nat} {v : Int64} (h : j ≠ k) : vp_updL f k v j = f j := if_neg h
theorem SH.mono {L L' : Nat} {u : SlT} {x so sz sh : Int32} {row : AL} (h : SH L u x so sz sh row) (hl : L ≤ L') : SH L' u x so sz sh row := by
  rcases h with h | h | ⟨e, w, h1, h2⟩
  · exact Or.inl h
  · exact Or.inr (Or.inl h)
  · exact Or.inr (Or.inr ⟨e, w, by omega, h2⟩)
theorem SL.mono {L L' : Nat} {sl : Nat → SlT} {sv : SvT} (h : SL L sl sv) (hl : L ≤ L') : SL L' sl sv := fun j hj => (h j hj).mono hl
theorem shf (a : Int32) : (∃ j, j < 8 ∧ a = kI j ∧ f_X3_isShelf a = some 1 ∧ f_X4_in a.toInt64 0 7 = some 1) ∨ (f_X3_isShelf a = some 0 ∧ f_X4_in a.toInt64 0 7 = some 0) := by
  unfold f_X3_isShelf
  rcases b_0_7 a with ⟨n, -, h2, h3, h4, h5⟩ | ⟨h4, h5⟩
  · exact Or.inl ⟨n, by omega, h3, by rw [bsm h4, if_pos z01_1], h5⟩
  · exact Or.inr ⟨by rw [bsm h4, if_pos z01_0], h5⟩
theorem neT : ¬ (2 : Int32) = 0 ∧ ¬ (2 : Int32) = 1 ∧ ¬ (1 : Int32) = 2 ∧ ¬ (0 : Int32) = 2 ∧ ¬ (0 : Int32) = 1 ∧ ¬ (0 : Int32) = -1 := by decide
theorem neN : ¬ (-3 : Int32) = 0 ∧ ¬ (-4 : Int32) = 0 ∧ ¬ (-2 : Int32) = 0 ∧ ¬ (-5 : Int32) = 0 := by decide
/-- a place of a row -/
theorem prt {u : SlT} {z : Nat} (hz : z ≤ 40) (e : u.2.2.2 = kI z) (a : Int32) : (∃ i, i < z ∧ a = kI i ∧ f_X0_hasPart a 1 u = some 1 ∧ f_X4_in a.toInt64 0 (kI z - 1).toInt64 = some 1) ∨ (f_X0_hasPart a 1 u = some 0 ∧ f_X4_in a.toInt64 0 (kI z - 1).toInt64 = some 0) := by
  have hm : (kI z - 1).toInt64.toInt = (z : Int) - 1 := by
    rw [Int32.toInt_toInt64]
    by_cases c : z = 0
    · subst c; rfl
    · rw [show kI z - 1 = kI (z - 1) from kI_sub (b := 1) (by omega), kI_toInt (by omega)]
      omega
  unfold f_X0_hasPart
  rw [M4_in, hm, Int32.toInt_toInt64, show (0 : Int64).toInt = 0 from rfl, e, if_neg (show ¬ (1 : Int32) < 0 by decide)]
  by_cases c : 0 ≤ a.toInt ∧ a.toInt < (z : Int)
  · obtain ⟨n, hn, rfl⟩ := kI_of (x := a) (by omega)
    rw [kI_toInt hn] at c ⊢
    refine Or.inl ⟨n, by omega, rfl, ?_, by rw [if_pos (by omega)]⟩
    rw [if_neg (kI_nn hn), i1, if_neg (kI_ltF (by omega) (by omega) (by omega)), kI_sub (by omega), if_neg (kI_ltF (by omega) (by omega) (by omega))]
  · refine Or.inr ⟨?_, by rw [if_neg (by omega)]⟩
    by_cases c0 : a < 0
    · rw [if_pos c0]
    · have h1 : ¬ a.toInt < (0 : Int32).toInt := fun h => c0 (Int32.lt_iff_toInt_lt.mpr h)
      have h0 : (0 : Int32).toInt = 0 := rfl
      obtain ⟨n, hn, rfl⟩ := kI_of (x := a) (by omega)
      rw [kI_toInt hn] at c
      rw [if_neg c0, i1, if_kIlt (by omega) (by omega)]
      by_cases c1 : z < 1
      · rw [if_pos c1]
      · rw [if_neg c1, kI_sub (by omega), if_kIlt (by omega) (by omega), if_pos (by omega)]
theorem lfil {v : Int64} {N : Nat} (hN : N ≤ 1000) : ∀ (d k n : Nat) (f : AL), k + d = N → d < n → ∃ f', f_J7_fill_d0a16_L0 v (kI N) N n (kI k) f = some f' ∧ ∀ j, f' j = if k ≤ j ∧ j < N then v else f j
  | _, _, 0, _, _, h => by omega
  | 0, k, n + 1, f, hk, _ => by
    refine ⟨f, ?_, fun j => ?_⟩
    · rw [f_J7_fill_d0a16_L0, if_pos ((kI_le (by omega) (by omega)).mpr (by omega))]
    · rw [if_neg (by omega)]
  | d + 1, k, n + 1, f, hk, hd => by
    obtain ⟨f', e, h⟩ := lfil hN d (k + 1) n (vp_updL f k v) (by omega) (by omega)
    refine ⟨f', ?_, fun j => ?_⟩
    · rw [f_J7_fill_d0a16_L0, if_neg (fun c => by have := (kI_le (by omega) (by omega)).mp c; omega), if_pos (inBT (by omega) (by omega)), kI_nat (by omega), i1, kI_add]
      exact e
    · rw [h j]
      by_cases c : k + 1 ≤ j ∧ j < N
      · rw [if_pos c, if_pos (by omega)]
      · rw [if_neg c]
        by_cases c2 : j = k
        · rw [c2, upl_at, if_pos (by omega)]
        · rw [upl_ne c2, if_neg (by omega)]
theorem rowF {a : Nat} (ha : a < 8) {mf : AI} : ∀ (d k n : Nat) (sv : SvT), k + d = 40 → d < n → ∃ sv', f_X4_row_L0 (kI a) n (kI k) sv mf = some (1, sv', mf) ∧ sv'.1 = sv.1 ∧ sv'.2.1 = sv.2.1 ∧ sv'.2.2.1 = sv.2.2.1 ∧ sv'.2.2.2.1 = sv.2.2.2.1 ∧ (∀ q, q ≠ a → sv'.2.2.2.2.2 q = sv.2.2.2.2.2 q) ∧ ∀ j, sv'.2.2.2.2.2 a j = if k ≤ j ∧ j < 40 then 0 else sv.2.2.2.2.2 a j
  | _, _, 0, _, _, h => by omega
  | 0, k, n + 1, sv, hk, _ => by
    refine ⟨sv, ?_, rfl, rfl, rfl, rfl, fun _ _ => rfl, fun j => ?_⟩
    · rw [f_X4_row_L0, i40, if_pos ((kI_le (by omega) (by omega)).mpr (by omega))]
    · rw [if_neg (by omega)]
  | d + 1, k, n + 1, sv, hk, hd => by
    obtain ⟨sv', e, h1, h2, h3, h4, h5, h6⟩ := rowF ha d (k + 1) n (sv.1, sv.2.1, sv.2.2.1, sv.2.2.2.1, sv.2.2.2.2.1, (va_up sv.2.2.2.2.2 a (vp_updL (sv.2.2.2.2.2 a) k 0))) (by omega) (by omega)
    refine ⟨sv', ?_, h1, h2, h3, h4, fun q hq => ?_, fun j => ?_⟩
    · rw [f_X4_row_L0, i40, if_neg (fun c => by have := (kI_le (by omega) (by omega)).mp c; omega), if_pos (inBT ha (by omega)), if_pos (inBT (by omega) (by omega)), kI_nat (by omega), kI_nat (by omega), i1, kI_add]
      exact e
    · rw [h5 q hq]
      exact up_ne hq
    · rw [h6 j]
      dsimp only
      rw [up_at]
      by_cases c : k + 1 ≤ j ∧ j < 40
      · rw [if_pos c, if_pos (by omega)]
      · rw [if_neg c]
        by_cases c2 : j = k
        · rw [c2, upl_at, if_pos (by omega)]
        · rw [upl_ne c2, if_neg (by omega)]
section SHV
variable {L : Nat} {sl : Nat → SlT} {sv : SvT} {rf mf : AI}
theorem TSr (h : SL L sl sv) (hr : RF rf mf) (i : Nat) (hi : i < 5) {c : Int32} (hc : c = -kI (i + 2)) : TS L ((f_X3_refuse c rf).bind fun r => some (r.1, sl, r.2)) ((f_X4_refuse c mf).bind fun r => some (r.1, sv, r.2)) := by
  subst hc
  obtain ⟨rf', mf', e1, e2, h'⟩ := refu hr hi
  rw [bsm e1, bsm e2]
  exact ⟨_, _, _, _, _, rfl, rfl, h, h'⟩
theorem SL.put (h : SL L sl sv) {a : Nat} {u : SlT} {sv' : SvT} (hs : SH L u (sv'.1 a) (sv'.2.1 a) (sv'.2.2.1 a) (sv'.2.2.2.1 a) (sv'.2.2.2.2.2 a)) (ho : ∀ q, q ≠ a → sv'.1 q = sv.1 q ∧ sv'.2.1 q = sv.2.1 q ∧ sv'.2.2.1 q = sv.2.2.1 q ∧ sv'.2.2.2.1 q = sv.2.2.2.1 q ∧ sv'.2.2.2.2.2 q = sv.2.2.2.2.2 q) : SL L (va_up sl a u) sv' := fun j hj => by
  by_cases c : j = a
  · subst c
    rw [up_at]
    exact hs
  · obtain ⟨h1, h2, h3, h4, h5⟩ := ho j c
    rw [up_ne c, h1, h2, h3, h4, h5]
    exact h j hj
theorem s_row (h : SL L sl sv) (hr : RF rf mf) (a0 a1 a2 : Int32) : TS L (f_X3_row a0 a1 a2 sl rf) (f_X4_row a0 a1 a2 sv mf) := by
  unfold f_X3_row f_X4_row f_X0_holdRow
  rcases shf a0 with ⟨a, ha, rfl, e1, e2⟩ | ⟨e1, e2⟩
  rotate_left
  · rw [bsm e1, bsm e2, if_pos rfl, if_pos rfl]
    exact TSr h hr 0 (by decide) rfl
  rw [bsm e1, bsm e2, if_neg one_ne, if_neg one_ne]
  rcases b_0_4 a1 with ⟨t, -, ht, rfl, e1, e2⟩ | ⟨e1, e2⟩
  rotate_left
  · rw [bsm e1, bsm e2, if_pos rfl, if_pos rfl]
    exact TSr h hr 0 (by decide) rfl
  rw [bsm e1, bsm e2, if_neg one_ne, if_neg one_ne]
  rcases b_0_40 a2 with ⟨z, -, hz, rfl, e1, e2⟩ | ⟨e1, e2⟩
  rotate_left
  · rw [bsm e1, bsm e2, if_pos rfl, if_pos rfl]
    exact TSr h hr 0 (by decide) rfl
  have g : inB (kI a) 8 = true := inBT ha (by decide)
  obtain ⟨f', q1, q2⟩ := lfil (v := 0) (N := 40) (by decide) 40 0 fuel0 (sl a).1 (by omega) (by unfold fuel0; omega)
  obtain ⟨sv', e, h1, h2, h3, h4, h5, h6⟩ := rowF (mf := mf) ha 40 0 fuel0 (upd sv.1 a 1, upd sv.2.1 a (kI t), upd sv.2.2.1 a (kI z), sv.2.2.2.1, sv.2.2.2.2.1, sv.2.2.2.2.2) (by omega) (by unfold fuel0; omega)
  rw [bsm e1, bsm e2, if_neg one_ne, if_neg one_ne]
  simp only [g, ↓reduceIte]
  rw [kI_nat (by omega), bsm (show f_J7_fill_d0a16 0 40 (sl a).1 = some f' from q1), Option.bind_some]
  refine ⟨_, _, _, sv', mf, rfl, e, h.put (Or.inr (Or.inl ⟨by rw [h1]; exact upd_at, t, z, ht, hz, rfl, rfl, rfl, by rw [h2]; exact upd_at, by rw [h3]; exact upd_at, fun j hj => ?_⟩)) (fun q hq => ⟨by rw [h1]; exact upd_ne hq, by rw [h2]; exact upd_ne hq, by rw [h3]; exact upd_ne hq, by rw [h4], h5 q hq⟩), hr⟩
  rw [h6 j]
  show f' j = _
  rw [q2 j, if_pos (by omega), if_pos (by omega)]
theorem noRo (h : SL L sl sv) (hr : RF rf mf) {a : Nat} (ha : a < 8) : (f_X0_refusalOfRow (sl a) = some 0 ∧ f_X4_noRow (kI a) sv mf = some (0, mf) ∧ sv.1 a = 1 ∧ ∃ t z, t ≤ 4 ∧ z ≤ 40 ∧ (sl a).2.1 = kI t ∧ (sl a).2.2.1 = -1 ∧ (sl a).2.2.2 = kI z ∧ sv.2.1 a = kI t ∧ sv.2.2.1 a = kI z ∧ ∀ j, j < z → (sl a).1 j = sv.2.2.2.2.2 a j) ∨ (∃ i rf' mf', i < 5 ∧ ¬ -kI (i + 2) = 0 ∧ f_X0_refusalOfRow (sl a) = some (-kI (i + 2)) ∧ f_X3_refuse (-kI (i + 2)) rf = some (-kI (i + 2), rf') ∧ f_X4_noRow (kI a) sv mf = some (-kI (i + 2), mf') ∧ RF rf' mf') := by
  have g : inB (kI a) 8 = true := inBT ha (by decide)
  obtain ⟨n1, n2, n3, n4, n5, n6⟩ := neT
  have g7 : f_X4_in (kI a).toInt64 0 7 = some 1 := by
    rcases shf (kI a) with ⟨_, _, _, _, e⟩ | ⟨e, _⟩
    · exact e
    · exfalso
      unfold f_X3_isShelf at e
      rw [bsm (show f_X3_isBetween (kI a) 0 7 = some 1 by rw [X3_bet, kI_toInt (by omega), show (0 : Int32).toInt = 0 from rfl, show (7 : Int32).toInt = 7 from rfl, if_pos (by omega)]), if_pos z01_1] at e
      exact one_ne (Option.some.inj e)
  unfold f_X0_refusalOfRow f_X0_holdsLaw f_X0_holdsRow f_X4_noRow
  simp only [g, ↓reduceIte]
  rw [kI_nat (by omega), bsm g7, if_neg one_ne]
  rcases h a ha with ⟨x, s1, s2, s3⟩ | ⟨x, t, z, ht, hz, s1, s2, s3, s4, s5, s6⟩ | ⟨x, w, hw, hw6, s1, s2, s3, s4⟩
  · obtain ⟨rf', mf', e1, e2, h'⟩ := refu hr (i := 2) (by decide)
    refine Or.inr ⟨2, rf', mf', by decide, by decide, ?_, e1, ?_, h'⟩
    · rw [s1, s2, if_pos rfl, Option.bind_some, if_pos rfl, Option.bind_some, if_pos rfl]
      rfl
    · rw [x, if_neg n4, if_pos rfl, bsm (show f_X4_refuse (-4) mf = _ from e2)]
  · refine Or.inl ⟨?_, ?_, x, t, z, ht, hz, s1, s2, s3, s4, s5, s6⟩
    · rw [s1, s2, if_pos rfl, Option.bind_some, if_pos rfl, if_neg (kI_m1 (by omega)), Option.bind_some, if_neg one_ne]
    · rw [x, if_neg n3, if_neg one_ne]
  · obtain ⟨rf', mf', e1, e2, h'⟩ := refu hr (i := 1) (by decide)
    refine Or.inr ⟨1, rf', mf', by decide, by decide, ?_, e1, ?_, h'⟩
    · rw [s2, if_neg (kI_m1 (by omega)), Option.bind_some, if_neg one_ne]
      rfl
    · rw [x, if_pos rfl, bsm (show f_X4_refuse (-3) mf = _ from e2)]
theorem cutE {u : SlT} {t : Nat} (ht : t ≤ 4) (e : u.2.1 = kI t) (v : Int64) : ∃ r, f_X0_cut v u = some r ∧ f_X4_fit (kI t) v = some r := by
  unfold f_X0_cut f_X4_fit
  rw [e]
  have : t = 0 ∨ t = 1 ∨ t = 2 ∨ t = 3 ∨ t = 4 := by omega
  rcases this with rfl | rfl | rfl | rfl | rfl
  · exact ⟨_, rfl, rfl⟩
  · exact ⟨_, rfl, rfl⟩
  · exact ⟨_, rfl, rfl⟩
  · exact ⟨_, rfl, rfl⟩
  · by_cases c : lg_cmp v 0 = 0
    · refine ⟨0, ?_, ?_⟩
      · rw [if_pos c]; rfl
      · rw [if_pos c]; rfl
    · refine ⟨1, ?_, ?_⟩
      · rw [if_neg c]; rfl
      · rw [if_neg c]; rfl
theorem s_set (h : SL L sl sv) (hr : RF rf mf) (a0 a1 : Int32) (a2 : Int64) : TS L (f_X3_set a0 a1 a2 sl rf) (f_X4_set a0 a1 a2 sv mf) := by
  unfold f_X3_set f_X4_set f_X0_put
  rcases shf a0 with ⟨a, ha, rfl, e1, e2⟩ | ⟨e1, e2⟩
  rotate_left
  · unfold f_X4_noRow
    obtain ⟨rf', mf', f1, f2, h'⟩ := refu hr (i := 0) (by decide)
    rw [bsm e1, bsm e2, if_pos rfl, if_pos rfl, bsm (show f_X3_refuse (-2) rf = _ from f1), bsm (show f_X4_refuse (-2) mf = _ from f2), Option.bind_some, if_neg (show ¬ -kI (0 + 2) = 0 by decide)]
    exact ⟨_, _, _, _, _, rfl, rfl, h, h'⟩
  have g : inB (kI a) 8 = true := inBT ha (by decide)
  rw [bsm e1, if_neg one_ne]
  simp only [g, ↓reduceIte]
  rw [kI_nat (by omega)]
  rcases noRo h hr ha with ⟨f1, f2, x, t, z, ht, hz, s1, s2, s3, s4, s5, s6⟩ | ⟨i, rf', mf', hi, hne, f1, f2, f3, h'⟩
  rotate_left
  · rw [bsm f1, bsm f3, if_neg hne, if_neg hne, bsm f2]
    exact ⟨_, _, _, _, _, rfl, rfl, h, h'⟩
  rw [bsm f1, bsm f2, if_pos rfl, if_pos rfl, s5]
  rcases prt hz s3 a1 with ⟨i, hi, rfl, p1, p2⟩ | ⟨p1, p2⟩
  rotate_left
  · rw [bsm p1, bsm p2, if_pos rfl, if_pos rfl]
    exact TSr h hr 0 (by decide) rfl
  obtain ⟨r, c1, c2⟩ := cutE ht s1 a2
  have g40 : inB (kI i) 40 = true := inBT (by omega) (by decide)
  rw [bsm p1, bsm p2, if_neg one_ne, if_neg one_ne, bsm p1, if_neg one_ne, bsm c1, s4, bsm c2]
  simp only [g40, ↓reduceIte]
  rw [kI_nat (by omega), Option.bind_some]
  refine ⟨_, _, _, _, _, rfl, rfl, h.put (Or.inr (Or.inl ⟨x, t, z, ht, hz, s1, s2, s3, s4, s5, fun j hj => ?_⟩)) (fun q hq => ⟨rfl, rfl, rfl, rfl, up_ne hq⟩), hr⟩
  dsimp only
  rw [up_at]
  by_cases c : j = i
  · rw [c, upl_at, upl_at]
  · rw [upl_ne c, upl_ne c, s6 j hj]
theorem SL.elem (h : SL L sl sv) {a : Nat} (ha : a < 8) {t z : Nat} (hz : z ≤ 40) (s3 : (sl a).2.2.2 = kI z) (s6 : ∀ j, j < z → (sl a).1 j = sv.2.2.2.2.2 a j) {i : Nat} (hi : i < z) : f_X0_elementAt (kI i) (sl a) = some (sv.2.2.2.2.2 a i) := by
  rcases prt hz s3 (kI i) with ⟨i', hi', ei, p1, p2⟩ | ⟨p1, p2⟩
  · unfold f_X0_elementAt
    rw [bsm p1, if_neg one_ne, if_pos (inBT (by omega) (by decide)), kI_nat (by omega), s6 i hi]
  · rw [M4_in, Int32.toInt_toInt64, kI_toInt (by omega), Int32.toInt_toInt64, show kI z - 1 = kI (z - 1) from kI_sub (b := 1) (by omega), kI_toInt (by omega), show (0 : Int64).toInt = 0 from rfl, if_pos (by omega)] at p2
    exact absurd (Option.some.inj p2) one_ne
theorem s_element (h : SL L sl sv) (a0 a1 : Int32) : ∃ r, f_X3_element a0 a1 sl = some r ∧ f_X4_element a0 a1 sv = some r := by
  obtain ⟨n1, n2, n3, n4, n5, n6⟩ := neT
  unfold f_X3_element f_X4_element
  rcases shf a0 with ⟨a, ha, rfl, e1, e2⟩ | ⟨e1, e2⟩
  rotate_left
  · exact ⟨0, by rw [bsm e1, if_pos rfl], by rw [bsm e2, if_pos rfl]⟩
  have g : inB (kI a) 8 = true := inBT ha (by decide)
  rw [bsm e1, bsm e2, if_neg one_ne, if_neg one_ne]
  simp only [g, ↓reduceIte]
  rw [kI_nat (by omega)]
  unfold f_X0_elementAt
  have hE : ∀ (e : (sl a).2.2.2 = 0), f_X0_hasPart a1 1 (sl a) = some 0 := fun e => by
    rcases prt (u := sl a) (z := 0) (by omega) e a1 with ⟨i, hi, _⟩ | ⟨p1, p2⟩
    · omega
    · exact p1
  rcases h a ha with ⟨x, s1, s2, s3⟩ | ⟨x, t, z, ht, hz, s1, s2, s3, s4, s5, s6⟩ | ⟨x, w, hw, hw6, s1, s2, s3, s4⟩
  · rw [x, bsm (hE s3), if_pos rfl, if_neg n5]
    exact ⟨0, rfl, rfl⟩
  · rw [x, if_pos rfl, s5]
    rcases prt hz s3 a1 with ⟨i, hi, rfl, p1, p2⟩ | ⟨p1, p2⟩
    · have g40 : inB (kI i) 40 = true := inBT (by omega) (by decide)
      rw [bsm p1, bsm p2, if_neg one_ne, if_neg one_ne, if_pos g40, if_pos g40, kI_nat (by omega), s6 i hi]
      exact ⟨_, rfl, rfl⟩
    · rw [bsm p1, bsm p2, if_pos rfl, if_pos rfl]
      exact ⟨0, rfl, rfl⟩
  · rw [x, bsm (hE s3), if_pos rfl, if_neg n2]
    exact ⟨0, rfl, rfl⟩
theorem s_holds (h : SL L sl sv) (a0 : Int32) : ∃ r, f_X3_holds a0 sl = some r ∧ f_X4_holds a0 sv = some r := by
  obtain ⟨n1, n2, n3, n4, n5, n6⟩ := neT
  unfold f_X3_holds f_X4_holds f_X0_content f_X0_holdsLaw
  rcases shf a0 with ⟨a, ha, rfl, e1, e2⟩ | ⟨e1, e2⟩
  rotate_left
  · exact ⟨-1, by rw [bsm e1, if_pos rfl], by rw [bsm e2, if_pos rfl]⟩
  have g : inB (kI a) 8 = true := inBT ha (by decide)
  rw [bsm e1, bsm e2, if_neg one_ne, if_neg one_ne]
  simp only [g, ↓reduceIte]
  rw [kI_nat (by omega)]
  rcases h a ha with ⟨x, s1, s2, s3⟩ | ⟨x, t, z, ht, hz, s1, s2, s3, s4, s5, s6⟩ | ⟨x, w, hw, hw6, s1, s2, s3, s4⟩
  · rw [x, s2, s1, if_pos rfl, if_pos rfl]
    exact ⟨-1, rfl, rfl⟩
  · rw [x, s2, s1, s4, if_pos rfl, if_neg one_ne, if_pos rfl]
    exact ⟨kI t, rfl, rfl⟩
  · rw [x, s2, s4, if_neg (kI_m1 (by omega)), if_neg n1, if_neg n2]
    exact ⟨10 + kI w, rfl, rfl⟩
theorem J.lawF {s m : ShT} {p B : Nat} (h : J p L B s m) {w : Nat} (hw : w < L) : f_X1_hasLaw (kI w) s = some 1 := by
  rcases h.lawg (kI w) with ⟨_, _, _, e, _⟩ | ⟨e, e'⟩
  · exact e
  · have h6 := h.l6
    obtain ⟨ln, ct, la, kd, am, fc, tu, se, R, R', v⟩ := h
    exact X1_hasLaw R v.2.1 hw
theorem s_show {tr sp : ShT} {p B : Nat} (hJ : J p L B tr sp) (h : SL L sl sv) (hr : RF rf mf) (a0 a1 : Int32) : TS L (f_X3_show a0 a1 tr sl rf) (f_X4_show a0 a1 sp sv mf) := by
  have h6 := hJ.l6
  unfold f_X3_show f_X4_show f_X0_holdLaw
  rcases shf a0 with ⟨a, ha, rfl, e1, e2⟩ | ⟨e1, e2⟩
  rotate_left
  · rw [bsm e1, bsm e2, if_pos rfl, if_pos rfl]
    exact TSr h hr 0 (by decide) rfl
  have g : inB (kI a) 8 = true := inBT ha (by decide)
  rw [bsm e1, bsm e2, if_neg one_ne, if_neg one_ne]
  simp only [g, ↓reduceIte]
  rw [kI_nat (by omega)]
  by_cases c : a1 = -1
  · subst c
    simp only [↓reduceIte, Option.bind_some]
    exact ⟨_, _, _, _, _, rfl, rfl, h.put (Or.inl ⟨upd_at, rfl, rfl, rfl⟩) (fun q hq => ⟨upd_ne hq, rfl, rfl, upd_ne hq, rfl⟩), hr⟩
  · rw [if_neg c, if_neg c]
    rcases hJ.lawg a1 with ⟨f, hf, rfl, e3, e5⟩ | ⟨e3, e5⟩
    rotate_left
    · rw [bsm e3, bsm e5, if_pos rfl, if_pos rfl]
      exact TSr h hr 0 (by decide) rfl
    rw [bsm e3, bsm e5, if_neg one_ne, if_neg one_ne, if_neg c, Option.bind_some]
    exact ⟨_, _, _, _, _, rfl, rfl, h.put (Or.inr (Or.inr ⟨upd_at, f, hf, by omega, rfl, rfl, rfl, upd_at⟩)) (fun q hq => ⟨upd_ne hq, rfl, rfl, upd_ne hq, rfl⟩), hr⟩
end SHV
