/-! ===== tests that both make ===== -/
theorem X3_bet (a lo hi : Int32) : f_X3_isBetween a lo hi = if lo.toInt ≤ a.toInt ∧ a.toInt ≤ hi.toInt then some 1 else some 0 := by
  unfold f_X3_isBetween
  by_cases c1 : a < lo
  · have := Int32.lt_iff_toInt_lt.mp c1
    rw [if_pos c1, if_neg (by omega)]
  · have h1 : ¬ a.toInt < lo.toInt := fun h => c1 (Int32.lt_iff_toInt_lt.mpr h)
    rw [if_neg c1]
    by_cases c2 : hi < a
    · have := Int32.lt_iff_toInt_lt.mp c2
      rw [if_pos c2, if_neg (by omega)]
    · have h2 : ¬ hi.toInt < a.toInt := fun h => c2 (Int32.lt_iff_toInt_lt.mpr h)
      rw [if_neg c2, if_pos (by omega)]
theorem ran (a q : Int32) : (if a < 0 then some 0 else if q ≤ a then some 0 else some 1 : Option Int32) = if 0 ≤ a.toInt ∧ a.toInt < q.toInt then some 1 else some 0 := by
  have h0 : (0 : Int32).toInt = 0 := rfl
  by_cases c1 : a < 0
  · have := Int32.lt_iff_toInt_lt.mp c1
    rw [if_pos c1, if_neg (by omega)]
  · have h1 : ¬ a.toInt < (0 : Int32).toInt := fun h => c1 (Int32.lt_iff_toInt_lt.mpr h)
    rw [if_neg c1]
    by_cases c2 : q ≤ a
    · have := Int32.le_iff_toInt_le.mp c2
      rw [if_pos c2, if_neg (by omega)]
    · have h2 : ¬ q.toInt ≤ a.toInt := fun h => c2 (Int32.le_iff_toInt_le.mpr h)
      rw [if_neg c2, if_pos (by omega)]
theorem lg_lt (x y : Int64) : (lg_cmp x y < 0) ↔ x.toInt < y.toInt := by
  unfold lg_cmp
  by_cases c1 : x > y
  · rw [if_pos c1]
    have := Int64.lt_iff_toInt_lt.mp c1
    constructor
    · intro h; exact absurd h (by decide)
    · intro h; omega
  · rw [if_neg c1]
    have h1 : ¬ y.toInt < x.toInt := fun h => c1 (Int64.lt_iff_toInt_lt.mpr h)
    by_cases c2 : x = y
    · rw [if_pos c2, c2]
      constructor
      · intro h; exact absurd h (by decide)
      · intro h; omega
    · rw [if_neg c2]
      have h2 : x.toInt ≠ y.toInt := fun h => c2 (Int64.toInt_inj.mp h)
      constructor
      · intro _; omega
      · intro _; decide
theorem lg_gt (x y : Int64) : (0 < lg_cmp x y) ↔ y.toInt < x.toInt := by
  unfold lg_cmp
  by_cases c1 : x > y
  · rw [if_pos c1]
    have := Int64.lt_iff_toInt_lt.mp c1
    constructor
    · intro _; omega
    · intro _; decide
  · rw [if_neg c1]
    have h1 : ¬ y.toInt < x.toInt := fun h => c1 (Int64.lt_iff_toInt_lt.mpr h)
    by_cases c2 : x = y
    · rw [if_pos c2]
      constructor
      · intro h; exact absurd h (by decide)
      · intro h; omega
    · rw [if_neg c2]
      constructor
      · intro h; exact absurd h (by decide)
      · intro h; omega
theorem lg_eq0 (x y : Int64) : (lg_cmp x y = 0) ↔ x = y := by
  unfold lg_cmp
  by_cases c1 : x > y
  · rw [if_pos c1]
    constructor
    · intro h; exact absurd h (by decide)
    · intro h; subst h; exact absurd c1 (fun h => Int64.lt_irrefl h)
  · rw [if_neg c1]
    by_cases c2 : x = y
    · rw [if_pos c2]; exact ⟨fun _ => c2, fun _ => rfl⟩
    · rw [if_neg c2]; exact ⟨fun h => absurd h (by decide), fun h => absurd h c2⟩
theorem M4_in (a lo hi : Int64) : f_X4_in a lo hi = if lo.toInt ≤ a.toInt ∧ a.toInt ≤ hi.toInt then some 1 else some 0 := by
  unfold f_X4_in
  by_cases c1 : a.toInt < lo.toInt
  · rw [if_pos ((lg_lt _ _).mpr c1), if_neg (by omega)]
  · rw [if_neg (fun h => c1 ((lg_lt _ _).mp h))]
    by_cases c2 : hi.toInt < a.toInt
    · rw [if_pos ((lg_gt _ _).mpr c2), if_neg (by omega)]
    · rw [if_neg (fun h => c2 ((lg_gt _ _).mp h)), if_pos (by omega)]
theorem btw (a : Int32) {lo hi : Nat} (hlo : lo < 2147483648) (hhi : hi < 2147483648) : (∃ n, n < 2147483648 ∧ lo ≤ n ∧ n ≤ hi ∧ a = kI n ∧ f_X3_isBetween a (kI lo) (kI hi) = some 1 ∧ f_X4_in a.toInt64 (Int64.ofNat lo) (Int64.ofNat hi) = some 1) ∨ (f_X3_isBetween a (kI lo) (kI hi) = some 0 ∧ f_X4_in a.toInt64 (Int64.ofNat lo) (Int64.ofNat hi) = some 0) := by
  rw [X3_bet, M4_in, kI_toInt hlo, kI_toInt hhi, Int32.toInt_toInt64, Int64.toInt_ofNat_of_lt (by omega), Int64.toInt_ofNat_of_lt (by omega)]
  by_cases c : (lo : Int) ≤ a.toInt ∧ a.toInt ≤ (hi : Int)
  · obtain ⟨n, hn, rfl⟩ := kI_of (x := a) (by omega)
    rw [kI_toInt hn] at c ⊢
    rw [if_pos c]
    exact Or.inl ⟨n, hn, by omega, by omega, rfl, rfl, rfl⟩
  · rw [if_neg c]
    exact Or.inr ⟨rfl, rfl⟩
theorem z01_1 : z01 1 = true := by decide
theorem z01_0 : z01 0 = true := by decide
theorem may (a : Int32) : (∃ n, n ≤ 999 ∧ a = kI n ∧ f_X3_isBetween a 0 999 = some 1 ∧ f_X4_mayTurns a = some 1) ∨ (f_X3_isBetween a 0 999 = some 0 ∧ f_X4_mayTurns a = some 0) := by
  unfold f_X4_mayTurns
  rcases btw a (lo := 0) (hi := 999) (by decide) (by decide) with ⟨n, h1, h2, h3, h4, h5, h6⟩ | ⟨h5, h6⟩
  · refine Or.inl ⟨n, h3, h4, h5, ?_⟩
    rw [bsm (show f_X4_in a.toInt64 0 999 = some 1 from h6), if_pos z01_1]
  · refine Or.inr ⟨h5, ?_⟩
    rw [bsm (show f_X4_in a.toInt64 0 999 = some 0 from h6), if_pos z01_0]
theorem pm1 {p : Nat} (h : p ≤ 16) : (kI p - 1).toInt64.toInt = (p : Int) - 1 := by
  rw [Int32.toInt_toInt64]
  by_cases c : p = 0
  · subst c; rfl
  · rw [show kI p - 1 = kI (p - 1) from kI_sub (b := 1) (by omega), kI_toInt (by omega)]
    omega
section GRD
variable {s m : ShT} {p L B : Nat}
theorem J.per (h : J p L B s m) (a : Int32) : (∃ x, x < p ∧ a = kI x ∧ f_X1_hasPerson a s = some 1 ∧ f_X1_hasPlace a s = some 1 ∧ f_X4_isPerson a.toInt64 m = some 1) ∨ (f_X1_hasPerson a s = some 0 ∧ f_X1_hasPlace a s = some 0 ∧ f_X4_isPerson a.toInt64 m = some 0) := by
  have h16 := h.p16
  unfold f_X1_hasPerson f_X1_hasPlace f_X4_isPerson
  rw [h.pp.1, h.pp.2, M4_in, pm1 h16, Int32.toInt_toInt64, ran, kI_toInt (by omega), show (0 : Int64).toInt = 0 from rfl]
  by_cases c : 0 ≤ a.toInt ∧ a.toInt < (p : Int)
  · obtain ⟨n, hn, rfl⟩ := kI_of (x := a) (by omega)
    rw [kI_toInt hn] at c ⊢
    refine Or.inl ⟨n, by omega, rfl, ?_, ?_, ?_⟩
    · rw [if_pos (by omega)]
    · rw [if_pos (by omega)]
    · rw [if_pos (by omega)]; rfl
  · refine Or.inr ⟨by rw [if_neg (by omega)], by rw [if_neg (by omega)], ?_⟩
    rw [if_neg (by omega)]
    rfl
theorem J.lawg (h : J p L B s m) (a : Int32) : (∃ x, x < L ∧ a = kI x ∧ f_X1_hasLaw a s = some 1 ∧ f_X4_isLaw a m = some 1) ∨ (f_X1_hasLaw a s = some 0 ∧ f_X4_isLaw a m = some 0) := by
  have h16 := h.l6
  unfold f_X1_hasLaw f_X4_isLaw
  rw [h.LL.1, h.LL.2, M4_in, pm1 (by omega), Int32.toInt_toInt64, ran, kI_toInt (by omega), show (0 : Int64).toInt = 0 from rfl]
  by_cases c : 0 ≤ a.toInt ∧ a.toInt < (L : Int)
  · obtain ⟨n, hn, rfl⟩ := kI_of (x := a) (by omega)
    rw [kI_toInt hn] at c ⊢
    refine Or.inl ⟨n, by omega, rfl, ?_, ?_⟩
    · rw [if_pos (by omega)]
    · rw [if_pos (by omega)]; rfl
  · refine Or.inr ⟨by rw [if_neg (by omega)], ?_⟩
    rw [if_neg (by omega)]
    rfl
theorem J.less (h : J p L B s m) : (0 < L ∧ f_X1_isLawless s = some 0 ∧ ¬ m.2.2.2.2.2.2.1 = 0) ∨ (L = 0 ∧ f_X1_isLawless s = some 1 ∧ m.2.2.2.2.2.2.1 = 0) := by
  have h6 := h.l6
  unfold f_X1_isLawless
  rw [h.LL.1, h.LL.2, i1, if_kIle (by omega) (by omega)]
  by_cases c : 1 ≤ L
  · exact Or.inl ⟨by omega, by rw [if_pos c], by rw [i0, kI_eq (by omega) (by omega)]; omega⟩
  · exact Or.inr ⟨by omega, by rw [if_neg c], by rw [show L = 0 by omega]; rfl⟩
theorem J.empt (h : J p L B s m) : (0 < p ∧ f_X1_isEmpty s = some 0 ∧ ¬ m.2.2.2.2.2.1 = 0) ∨ (p = 0 ∧ f_X1_isEmpty s = some 1 ∧ m.2.2.2.2.2.1 = 0) := by
  have h6 := h.p16
  unfold f_X1_isEmpty
  rw [h.pp.1, h.pp.2, i1, if_kIle (by omega) (by omega)]
  by_cases c : 1 ≤ p
  · exact Or.inl ⟨by omega, by rw [if_pos c], by rw [i0, kI_eq (by omega) (by omega)]; omega⟩
  · exact Or.inr ⟨by omega, by rw [if_neg c], by rw [show p = 0 by omega]; rfl⟩
theorem J.stk (h : J p L B s m) : (0 < p ∧ 0 < L ∧ f_X1_isStuck s = some 0 ∧ f_X4_goesOn m = some 1) ∨ ((p = 0 ∨ L = 0) ∧ f_X1_isStuck s = some 1 ∧ f_X4_goesOn m = some 0) := by
  have h6 := h.l6
  have h16 := h.p16
  have hm : f_X4_goesOn m = if p ≤ 0 then some 0 else if L ≤ 0 then some 0 else some 1 := by
    unfold f_X4_goesOn
    rw [h.pp.2, h.LL.2, i0, if_kIle (by omega) (by omega), if_kIle (by omega) (by omega)]
  rw [hm]
  unfold f_X1_isStuck
  rcases h.empt with ⟨c1, e1, -⟩ | ⟨c1, e1, -⟩
  · rw [bsm e1, if_pos rfl, if_neg (by omega)]
    rcases h.less with ⟨c2, e2, -⟩ | ⟨c2, e2, -⟩
    · rw [bsm e2, if_pos rfl, if_neg (by omega)]
      exact Or.inl ⟨c1, c2, rfl, rfl⟩
    · rw [bsm e2, if_neg (by decide), if_pos (by omega)]
      exact Or.inr ⟨Or.inr c2, rfl, rfl⟩
  · rw [bsm e1, if_neg (by decide), if_pos (by omega)]
    exact Or.inr ⟨Or.inl c1, rfl, rfl⟩
theorem J.lin (h : J p L B s m) {j : Nat} (hj : j < p) : ∃ x, x < p ∧ s.1 j = kI x ∧ m.1 j = kI x := by
  obtain ⟨ln, ct, la, kd, am, fc, tu, se, R, R', v⟩ := h
  exact ⟨_, (v.2.2.1 j hj).1, R.lE hj, R'.lE hj⟩
theorem J.cnt (h : J p L B s m) {j : Nat} (hj : j < p) : ∃ c, c ≤ B ∧ s.2.1 j = kI c ∧ m.2.1 j = kI c := by
  obtain ⟨ln, ct, la, kd, am, fc, tu, se, R, R', v⟩ := h
  exact ⟨_, (v.2.2.1 j hj).2.1, R.cE hj, R'.cE hj⟩
theorem J.las (h : J p L B s m) {j : Nat} (hj : j < p) : ∃ c, 1 ≤ c ∧ c ≤ 99 ∧ s.2.2.1 j = kI c ∧ m.2.2.1 j = kI c := by
  obtain ⟨ln, ct, la, kd, am, fc, tu, se, R, R', v⟩ := h
  exact ⟨_, (v.2.2.1 j hj).2.2.1, (v.2.2.1 j hj).2.2.2, R.aE hj, R'.aE hj⟩
theorem J.lawE (h : J p L B s m) {j : Nat} (hj : j < L) : ∃ k a, k ≤ 5 ∧ a ≤ 15 ∧ s.2.2.2.1 j = kI k ∧ m.2.2.2.1 j = kI k ∧ s.2.2.2.2.1 j = kI a ∧ m.2.2.2.2.1 j = kI a := by
  obtain ⟨ln, ct, la, kd, am, fc, tu, se, R, R', v⟩ := h
  exact ⟨_, _, (v.2.2.2.2.2.1 j hj).1, (v.2.2.2.2.2.1 j hj).2, R.kE hj, R'.kE hj, R.mE hj, R'.mE hj⟩
theorem J.Bb (h : J p L B s m) : B < 1000000000 := by
  obtain ⟨ln, ct, la, kd, am, fc, tu, se, R, R', v⟩ := h
  exact v.2.2.2.2.2.2.2
end GRD
/-! refusals -/
def RF (rf mf : AI) : Prop := ∀ j, j < 5 → rf j = mf (j + 2)
theorem refu {rf mf : AI} (h : RF rf mf) {i : Nat} (hi : i < 5) : ∃ rf' mf', f_X3_refuse (-kI (i + 2)) rf = some (-kI (i + 2), rf') ∧ f_X4_refuse (-kI (i + 2)) mf = some (-kI (i + 2), mf') ∧ RF rf' mf' := by
  have e1 : (-2 : Int32) - -kI (i + 2) = kI i := by
    have h5 : i = 0 ∨ i = 1 ∨ i = 2 ∨ i = 3 ∨ i = 4 := by omega
    rcases h5 with rfl | rfl | rfl | rfl | rfl <;> decide
  have e2 : - -kI (i + 2) = kI (i + 2) := by
    have h5 : i = 0 ∨ i = 1 ∨ i = 2 ∨ i = 3 ∨ i = 4 := by omega
    rcases h5 with rfl | rfl | rfl | rfl | rfl <;> decide
  refine ⟨upd rf i (rf i + 1), upd mf (i + 2) (mf (i + 2) + 1), ?_, ?_, fun j hj => ?_⟩
  · unfold f_X3_refuse
    rw [e1, bsm (show f_X3_isBetween (kI i) 0 4 = some 1 by
      rw [X3_bet, kI_toInt (by omega), show (0 : Int32).toInt = 0 from rfl, show (4 : Int32).toInt = 4 from rfl, if_pos (by omega)]), if_neg one_ne, if_pos (inBT hi (by decide)), if_pos (inBT hi (by decide)), kI_nat (by omega)]
  · unfold f_X4_refuse
    rw [e2, if_pos (inBT (by omega) (by decide)), if_pos (inBT (by omega) (by decide)), kI_nat (by omega)]
  · by_cases c : j = i
    · rw [c, upd_at, upd_at, h i hi]
    · rw [upd_ne c, upd_ne (by omega), h j hj]
/-- what is had in thought: the same answer, refusals that agree -/
def T3 (x : Option (Int32 × ShT × AI)) (y : Option (Int32 × AI × Bool × ShT × AI)) : Prop := ∃ r th rf mf tb tp tf, x = some (r, th, rf) ∧ y = some (r, mf, tb, tp, tf) ∧ RF rf mf
/-- .. and of those that see the shop alone -/
def T1 (x y : Option (Int32 × AI)) : Prop := ∃ r rf mf, x = some (r, rf) ∧ y = some (r, mf) ∧ RF rf mf
section REF
variable {rf mf : AI}
theorem T3r (h : RF rf mf) (i : Nat) (hi : i < 5) {c : Int32} (hc : c = -kI (i + 2)) {th : ShT} {tb : Bool} {tp : ShT} {tf : AI} : T3 ((f_X3_refuse c rf).bind fun r => some (r.1, th, r.2)) ((f_X4_refuse c mf).bind fun r => some (r.1, r.2, tb, tp, tf)) := by
  subst hc
  obtain ⟨rf', mf', e1, e2, h'⟩ := refu h hi
  rw [bsm e1, bsm e2]
  exact ⟨_, _, _, _, _, _, _, rfl, rfl, h'⟩
theorem T1r (h : RF rf mf) (i : Nat) (hi : i < 5) {c : Int32} (hc : c = -kI (i + 2)) : T1 ((f_X3_refuse c rf).bind fun r => some (r.1, r.2)) ((f_X4_refuse c mf).bind fun r => some (r.1, r.2)) := by
  subst hc
  obtain ⟨rf', mf', e1, e2, h'⟩ := refu h hi
  rw [bsm e1, bsm e2]
  exact ⟨_, _, _, rfl, rfl, h'⟩
theorem T3s (h : RF rf mf) {r : Int32} {th : ShT} {tb : Bool} {tp : ShT} {tf : AI} : T3 (some (r, th, rf)) (some (r, mf, tb, tp, tf)) := ⟨_, _, _, _, _, _, _, rfl, rfl, h⟩
theorem T1s (h : RF rf mf) {r : Int32} : T1 (some (r, rf)) (some (r, mf)) := ⟨_, _, _, rfl, rfl, h⟩
end REF
