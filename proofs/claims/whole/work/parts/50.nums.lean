/-! ===== numbers ===== -/
def kI (n : Nat) : Int32 := Int32.ofNat n
theorem kI_toInt {n : Nat} (h : n < 2147483648) : (kI n).toInt = n := Int32.toInt_ofNat_of_lt h
theorem kI_nat {n : Nat} (h : n < 2147483648) : (kI n).toNatClampNeg = n := Int32.toNatClampNeg_ofNat_of_lt h
theorem kI_le {a b : Nat} (ha : a < 2147483648) (hb : b < 2147483648) : kI a ≤ kI b ↔ a ≤ b := Int32.ofNat_le_iff_le ha hb
theorem kI_lt {a b : Nat} (ha : a < 2147483648) (hb : b < 2147483648) : kI a < kI b ↔ a < b := Int32.ofNat_lt_iff_lt ha hb
theorem kI_eq {a b : Nat} (ha : a < 2147483648) (hb : b < 2147483648) : kI a = kI b ↔ a = b := by
  constructor
  · intro h
    have := congrArg Int32.toInt h
    rw [kI_toInt ha, kI_toInt hb] at this
    omega
  · intro h; rw [h]
theorem kI_add (a b : Nat) : kI a + kI b = kI (a + b) := (Int32.ofNat_add a b).symm
theorem kI_sub {a b : Nat} (h : b ≤ a) : kI a - kI b = kI (a - b) := (Int32.ofNat_sub a b h).symm
theorem kI_mul (a b : Nat) : kI a * kI b = kI (a * b) := (Int32.ofNat_mul a b).symm
theorem kI_nn {n : Nat} (h : n < 2147483648) : ¬ kI n < 0 := by
  rw [Int32.lt_iff_toInt_lt, kI_toInt h]
  show ¬ ((n : Int) < 0)
  omega
theorem kI_ge {n : Nat} (h : n < 2147483648) : (0 : Int32) ≤ kI n := by
  rw [Int32.le_iff_toInt_le, kI_toInt h]
  show (0 : Int) ≤ n
  omega
theorem kI_m1 {n : Nat} (h : n < 2147483648) : ¬ kI n = -1 := by
  intro e
  have := congrArg Int32.toInt e
  rw [kI_toInt h] at this
  have h2 : (-1 : Int32).toInt = -1 := by decide
  omega
theorem kI_of {x : Int32} (h : 0 ≤ x.toInt) : ∃ n : Nat, n < 2147483648 ∧ x = kI n := by
  have hb := Int32.toInt_lt x
  have hn : x.toInt.toNat < 2147483648 := by omega
  refine ⟨x.toInt.toNat, hn, Int32.toInt_inj.mp ?_⟩
  rw [kI_toInt hn]
  omega
theorem inBT {a N : Nat} (h : a < N) (hN : N ≤ 1000) : inB (kI a) N = true := by
  unfold inB
  rw [kI_toInt (by omega)]
  simp only [Bool.and_eq_true, decide_eq_true_eq]
  omega
theorem inBF {a N : Nat} (h : N ≤ a) (ha : a < 2147483648) : ¬ inB (kI a) N = true := by
  unfold inB
  rw [kI_toInt ha]
  simp only [Bool.and_eq_true, decide_eq_true_eq]
  omega
theorem cpBT {a b n N M : Nat} (h1 : a + n ≤ N) (h2 : b + n ≤ M) (hN : N ≤ 1000) (hM : M ≤ 1000) : cpB (kI a) (kI b) (kI n) N M = true := by
  unfold cpB
  rw [kI_toInt (by omega), kI_toInt (by omega), kI_toInt (by omega)]
  simp only [Bool.and_eq_true, decide_eq_true_eq]
  omega
theorem upd_at {f : Nat → Int32} {k : Nat} {x : Int32} : upd f k x k = x := if_pos rfl
theorem upd_ne {f : Nat → Int32} {k j : Nat} {x : Int32} (h : j ≠ k) : upd f k x j = f j := if_neg h
theorem bsm {α β : Type} {a : Option α} {x : α} {f : α → Option β} (h : a = some x) : a.bind f = f x := by rw [h]; rfl
/-! ===== what an abstract shop is: people, line, counts, lasts, laws, kinds, amounts, force, turns, seed ===== -/
def Rs (s : ShT) (p : Nat) (ln ct la : Nat → Nat) (L : Nat) (kd am : Nat → Nat) (fc : Nat) (tu se : Int32) : Prop :=
  s.2.2.2.2.2.1 = kI p ∧ s.2.2.2.2.2.2.1 = kI L ∧ s.2.2.2.2.2.2.2.1 = kI fc ∧ s.2.2.2.2.2.2.2.2.1 = tu ∧ s.2.2.2.2.2.2.2.2.2 = se ∧ (∀ j, j < p → s.1 j = kI (ln j) ∧ s.2.1 j = kI (ct j) ∧ s.2.2.1 j = kI (la j)) ∧ ∀ j, j < L → s.2.2.2.1 j = kI (kd j) ∧ s.2.2.2.2.1 j = kI (am j)
def Vs (p : Nat) (ln ct la : Nat → Nat) (L : Nat) (kd am : Nat → Nat) (fc B : Nat) : Prop :=
  p ≤ 16 ∧ L ≤ 6 ∧ (∀ j, j < p → ln j < p ∧ ct j ≤ B ∧ 1 ≤ la j ∧ la j ≤ 99) ∧ (∀ i j, i < p → j < p → ln i = ln j → i = j) ∧ (∀ x, x < p → ∃ j, j < p ∧ ln j = x) ∧ (∀ j, j < L → kd j ≤ 5 ∧ am j ≤ 15) ∧ (fc < L ∨ fc = 0) ∧ B < 1000000000
section ABS
variable {s m : ShT} {p : Nat} {ln ct la : Nat → Nat} {L : Nat} {kd am : Nat → Nat} {fc B : Nat} {tu se : Int32}
theorem Rs.pE (R : Rs s p ln ct la L kd am fc tu se) : s.2.2.2.2.2.1 = kI p := R.1
theorem Rs.LE (R : Rs s p ln ct la L kd am fc tu se) : s.2.2.2.2.2.2.1 = kI L := R.2.1
theorem Rs.fE (R : Rs s p ln ct la L kd am fc tu se) : s.2.2.2.2.2.2.2.1 = kI fc := R.2.2.1
theorem Rs.tE (R : Rs s p ln ct la L kd am fc tu se) : s.2.2.2.2.2.2.2.2.1 = tu := R.2.2.2.1
theorem Rs.sE (R : Rs s p ln ct la L kd am fc tu se) : s.2.2.2.2.2.2.2.2.2 = se := R.2.2.2.2.1
theorem Rs.lE (R : Rs s p ln ct la L kd am fc tu se) {j : Nat} (h : j < p) : s.1 j = kI (ln j) := (R.2.2.2.2.2.1 j h).1
theorem Rs.cE (R : Rs s p ln ct la L kd am fc tu se) {j : Nat} (h : j < p) : s.2.1 j = kI (ct j) := (R.2.2.2.2.2.1 j h).2.1
theorem Rs.aE (R : Rs s p ln ct la L kd am fc tu se) {j : Nat} (h : j < p) : s.2.2.1 j = kI (la j) := (R.2.2.2.2.2.1 j h).2.2
theorem Rs.kE (R : Rs s p ln ct la L kd am fc tu se) {j : Nat} (h : j < L) : s.2.2.2.1 j = kI (kd j) := (R.2.2.2.2.2.2 j h).1
theorem Rs.mE (R : Rs s p ln ct la L kd am fc tu se) {j : Nat} (h : j < L) : s.2.2.2.2.1 j = kI (am j) := (R.2.2.2.2.2.2 j h).2
theorem X1_hasPerson (R : Rs s p ln ct la L kd am fc tu se) (h16 : p ≤ 16) {x : Nat} (hx : x < p) : f_X1_hasPerson (kI x) s = some 1 := by
  unfold f_X1_hasPerson
  rw [if_neg (kI_nn (by omega)), R.pE, if_neg (by rw [kI_le (by omega) (by omega)]; omega)]
theorem X1_hasPlace (R : Rs s p ln ct la L kd am fc tu se) (h16 : p ≤ 16) {x : Nat} (hx : x < p) : f_X1_hasPlace (kI x) s = some 1 := by
  unfold f_X1_hasPlace
  rw [if_neg (kI_nn (by omega)), R.pE, if_neg (by rw [kI_le (by omega) (by omega)]; omega)]
theorem X1_hasLaw (R : Rs s p ln ct la L kd am fc tu se) (h6 : L ≤ 6) {x : Nat} (hx : x < L) : f_X1_hasLaw (kI x) s = some 1 := by
  unfold f_X1_hasLaw
  rw [if_neg (kI_nn (by omega)), R.LE, if_neg (by rw [kI_le (by omega) (by omega)]; omega)]
def wnt (p k a c l : Nat) : Nat := if k = 1 then l else if k = 2 then c + 1 else if k = 3 then l else if k = 4 then c + 1 + a else if k = 5 then p - 1 else a
def lst (p k l : Nat) : Nat := if k = 3 ∧ p - 1 ≤ l then 1 else if k = 1 ∨ k = 3 then min (2 * l) 99 else l
theorem if_kI {α : Type} {a b : Nat} {x y : α} (ha : a < 2147483648) (hb : b < 2147483648) : (if kI a = kI b then x else y) = if a = b then x else y := by
  by_cases h : a = b
  · rw [if_pos h, if_pos (by rw [h])]
  · rw [if_neg h, if_neg (fun c => h ((kI_eq ha hb).mp c))]
theorem if_kIle {α : Type} {a b : Nat} {x y : α} (ha : a < 2147483648) (hb : b < 2147483648) : (if kI a ≤ kI b then x else y) = if a ≤ b then x else y := by
  by_cases h : a ≤ b
  · rw [if_pos h, if_pos ((kI_le ha hb).mpr h)]
  · rw [if_neg h, if_neg (fun c => h ((kI_le ha hb).mp c))]
theorem if_kIlt {α : Type} {a b : Nat} {x y : α} (ha : a < 2147483648) (hb : b < 2147483648) : (if kI a < kI b then x else y) = if a < b then x else y := by
  by_cases h : a < b
  · rw [if_pos h, if_pos ((kI_lt ha hb).mpr h)]
  · rw [if_neg h, if_neg (fun c => h ((kI_lt ha hb).mp c))]
theorem X1_stepsWanted (R : Rs s p ln ct la L kd am fc tu se) (v : Vs p ln ct la L kd am fc B) {x f : Nat} (hx : x < p) (hf : f < L) : f_X1_stepsWanted (kI x) (kI f) s = some (kI (wnt p (kd f) (am f) (ct x) (la x))) := by
  obtain ⟨v1, v2, v3, v4, v8, v5, v6, v7⟩ := v
  have hk := v5 f hf
  have e1 : (1 : Int32) = kI 1 := rfl
  have e2 : (2 : Int32) = kI 2 := rfl
  have e3 : (3 : Int32) = kI 3 := rfl
  have e4 : (4 : Int32) = kI 4 := rfl
  have e5 : (5 : Int32) = kI 5 := rfl
  have g1 : inB (kI x) 16 = true := inBT (by omega) (by decide)
  have g2 : inB (kI f) 6 = true := inBT (by omega) (by decide)
  unfold f_X1_stepsWanted wnt
  simp only [g1, g2, ↓reduceIte]
  rw [kI_nat (by omega), kI_nat (by omega), R.kE hf, R.aE hx, R.cE hx, R.mE hf, R.pE, e1, e2, e3, e4, e5, if_kI (by omega) (by omega), if_kI (by omega) (by omega), if_kI (by omega) (by omega), if_kI (by omega) (by omega), if_kI (by omega) (by omega), kI_add, kI_add, kI_sub (by omega)]
  repeat' split
  all_goals rfl
theorem J9_min {a b : Nat} (ha : a < 2147483648) (hb : b < 2147483648) : f_J9_min_7cf53 (kI a) (kI b) = some (kI (min a b)) := by
  unfold f_J9_min_7cf53
  rw [if_kIlt hb ha]
  split
  · rw [Nat.min_eq_right (by omega)]
  · rw [Nat.min_eq_left (by omega)]
theorem J9_max {a b : Nat} (ha : a < 2147483648) (hb : b < 2147483648) : f_J9_max_7cf53 (kI a) (kI b) = some (kI (max a b)) := by
  unfold f_J9_max_7cf53
  rw [if_kIlt ha hb]
  split
  · rw [Nat.max_eq_right (by omega)]
  · rw [Nat.max_eq_left (by omega)]
theorem one_ne : ¬ (1 : Int32) = 0 := by decide
theorem wnt_le (v : Vs p ln ct la L kd am fc B) {x f : Nat} (hx : x < p) (hf : f < L) : wnt p (kd f) (am f) (ct x) (la x) < 1000000100 := by
  obtain ⟨v1, v2, v3, v4, v8, v5, v6, v7⟩ := v
  have h1 := v3 x hx
  have h2 := v5 f hf
  unfold wnt
  repeat' split
  all_goals omega
theorem X1_stepsBack (R : Rs s p ln ct la L kd am fc tu se) (v : Vs p ln ct la L kd am fc B) {f : Nat} (hp : 0 < p) (hf : f < L) : f_X1_stepsBack (kI f) s = some (kI (min (wnt p (kd f) (am f) (ct (ln 0)) (la (ln 0))) (p - 1))) := by
  have hw := wnt_le v (v.2.2.1 0 hp).1 hf
  have hx := (v.2.2.1 0 hp).1
  have e0 : (0 : Int32) = kI 0 := rfl
  have e1 : (1 : Int32) = kI 1 := rfl
  unfold f_X1_stepsBack
  rw [if_pos (show inB 0 16 = true from inBT (a := 0) (by decide) (by decide)), show (0 : Int32).toNatClampNeg = 0 from rfl, R.lE hp, bsm (X1_hasPerson R v.1 hx), if_neg one_ne, bsm (X1_hasLaw R v.2.1 hf), if_neg one_ne, bsm (X1_stepsWanted R v hx hf), R.pE, e1, kI_sub (by omega), bsm (J9_min (by omega) (by have := v.1; omega)), e0, bsm (J9_max (by omega) (by have := v.1; omega)), Nat.zero_max]
theorem X1_lastThen (R : Rs s p ln ct la L kd am fc tu se) (v : Vs p ln ct la L kd am fc B) {f : Nat} (hp : 0 < p) (hf : f < L) : f_X1_lastThen (kI f) s = some (kI (lst p (kd f) (la (ln 0)))) := by
  have hx := (v.2.2.1 0 hp).1
  have hl := v.2.2.1 (ln 0) hx
  have hk := v.2.2.2.2.2.1 f hf
  have h16 := v.1
  have h6 := v.2.1
  have e1 : (1 : Int32) = kI 1 := rfl
  have e2 : (2 : Int32) = kI 2 := rfl
  have e3 : (3 : Int32) = kI 3 := rfl
  have e99 : (99 : Int32) = kI 99 := rfl
  have g0 : inB 0 16 = true := inBT (a := 0) (by decide) (by decide)
  have g1 : inB (kI (ln 0)) 16 = true := inBT (by omega) (by decide)
  have g2 : inB (kI f) 6 = true := inBT (by omega) (by decide)
  unfold f_X1_lastThen
  rw [show (0 : Int32).toNatClampNeg = 0 from rfl, R.lE hp, bsm (X1_hasPerson R v.1 hx), bsm (X1_hasLaw R v.2.1 hf)]
  simp only [g0, g1, g2, one_ne, ↓reduceIte]
  rw [kI_nat (by omega), kI_nat (by omega), R.kE hf, R.aE hx, R.pE]
  have h5 : kd f = 0 ∨ kd f = 1 ∨ kd f = 2 ∨ kd f = 3 ∨ kd f = 4 ∨ kd f = 5 := by omega
  have m99 : f_J9_min_7cf53 (2 * kI (la (ln 0))) 99 = some (kI (min (2 * la (ln 0)) 99)) := by
    rw [e2, e99, kI_mul]
    exact J9_min (by omega) (by omega)
  unfold lst
  rcases h5 with h | h | h | h | h | h <;> rw [h]
  · rw [bsm (show f_X3_isUnder (kI 0) 1 = some 0 from rfl), if_pos rfl, if_neg (by omega), if_neg (by omega)]
  · rw [bsm (show f_X3_isUnder (kI 1) 1 = some 1 from rfl), if_neg one_ne, e3, if_kI (by omega) (by omega), if_neg (by omega), bsm m99, if_neg (by omega), if_pos (by omega)]
  · rw [bsm (show f_X3_isUnder (kI 2) 1 = some 0 from rfl), if_pos rfl, if_neg (by omega), if_neg (by omega)]
  · rw [bsm (show f_X3_isUnder (kI 3) 1 = some 1 from rfl), if_neg one_ne, e3, if_kI (by omega) (by omega), if_pos rfl, e1, kI_sub (by omega), if_kIlt (by omega) (by omega)]
    by_cases hc : la (ln 0) < p - 1
    · rw [if_pos hc, bsm m99, if_neg (by omega), if_pos (by omega)]
    · rw [if_neg hc, if_pos ⟨rfl, by omega⟩]
  · rw [bsm (show f_X3_isUnder (kI 4) 1 = some 0 from rfl), if_pos rfl, if_neg (by omega), if_neg (by omega)]
  · rw [bsm (show f_X3_isUnder (kI 5) 1 = some 0 from rfl), if_pos rfl, if_neg (by omega), if_neg (by omega)]
def tln (ln : Nat → Nat) (fr : Nat) : Nat → Nat := fun j => if j < fr then ln (j + 1) else if j = fr then ln 0 else ln j
def tup (f : Nat → Nat) (x v : Nat) : Nat → Nat := fun j => if j = x then v else f j
theorem X1_turn (R : Rs s p ln ct la L kd am fc tu se) (v : Vs p ln ct la L kd am fc B) (hp : 0 < p) (hL : 0 < L) : ∃ s', f_X1_turn s = some (kI (ln 0), s') ∧ Rs s' p (tln ln (min (wnt p (kd fc) (am fc) (ct (ln 0)) (la (ln 0))) (p - 1))) (tup ct (ln 0) (ct (ln 0) + 1)) (tup la (ln 0) (lst p (kd fc) (la (ln 0)))) L kd am fc (tu + 1) se := by
  have hx := (v.2.2.1 0 hp).1
  have hf : fc < L := by rcases v.2.2.2.2.2.2.1 with h | h <;> omega
  have h16 := v.1
  have hw := wnt_le v hx hf
  have e0 : (0 : Int32) = kI 0 := rfl
  have e1 : (1 : Int32) = kI 1 := rfl
  obtain ⟨fr, hfr⟩ : ∃ fr, min (wnt p (kd fc) (am fc) (ct (ln 0)) (la (ln 0))) (p - 1) = fr := ⟨_, rfl⟩
  obtain ⟨nl, hnl⟩ : ∃ nl, lst p (kd fc) (la (ln 0)) = nl := ⟨_, rfl⟩
  have hB := X1_stepsBack R v hp hf
  have hT := X1_lastThen R v hp hf
  rw [hfr] at hB
  rw [hnl] at hT
  rw [hfr, hnl]
  have hfr15 : fr ≤ p - 1 := by rw [← hfr]; exact Nat.min_le_right _ _
  refine ⟨(upd (va_cpy s.1 s.1 1 0 fr) fr (kI (ln 0)), upd s.2.1 (ln 0) (kI (ct (ln 0) + 1)), upd s.2.2.1 (ln 0) (kI nl), s.2.2.2.1, s.2.2.2.2.1, s.2.2.2.2.2.1, s.2.2.2.2.2.2.1, s.2.2.2.2.2.2.2.1, s.2.2.2.2.2.2.2.2.1 + 1, s.2.2.2.2.2.2.2.2.2), ?_, ?_⟩
  · unfold f_X1_turn
    rw [R.fE, bsm hB, if_neg (kI_m1 (by omega)), if_pos (show inB 0 16 = true from inBT (a := 0) (by decide) (by decide)), bsm hT, show (0 : Int32).toNatClampNeg = 0 from rfl, show (1 : Int32).toNatClampNeg = 1 from rfl, R.lE hp, if_pos (inBT (by omega) (by decide)), if_pos (inBT (by omega) (by decide)), if_pos (inBT (by omega) (by decide)), if_pos (show cpB 1 0 (kI fr) 16 16 = true from cpBT (a := 1) (b := 0) (by omega) (by omega) (by decide) (by decide)), if_pos (inBT (by omega) (by decide)), kI_nat (by omega), kI_nat (by omega), R.cE hx, e1, kI_add]
  · refine ⟨R.pE, R.LE, R.fE, by rw [← R.tE], R.sE, fun j hj => ⟨?_, ?_, ?_⟩, fun j hj => ⟨R.kE hj, R.mE hj⟩⟩
    · show upd (va_cpy s.1 s.1 1 0 fr) fr (kI (ln 0)) j = kI (tln ln fr j)
      unfold tln
      by_cases h1 : j = fr
      · rw [h1, upd_at, if_neg (by omega), if_pos rfl]
      · rw [upd_ne h1]
        unfold va_cpy
        by_cases h2 : j < fr
        · rw [if_pos ⟨Nat.zero_le _, by omega⟩, if_pos h2, show 1 + (j - 0) = j + 1 by omega, R.lE (by omega)]
        · rw [if_neg (by omega), if_neg h2, if_neg h1, R.lE hj]
    · show upd s.2.1 (ln 0) (kI (ct (ln 0) + 1)) j = kI (tup ct (ln 0) (ct (ln 0) + 1) j)
      unfold tup
      by_cases h1 : j = ln 0
      · rw [h1, upd_at, if_pos rfl]
      · rw [upd_ne h1, if_neg h1, R.cE hj]
    · show upd s.2.2.1 (ln 0) _ j = kI (tup la (ln 0) _ j)
      unfold tup
      by_cases h1 : j = ln 0
      · rw [h1, upd_at, if_pos rfl]
      · rw [upd_ne h1, if_neg h1, R.aE hj]
end ABS
