/-! ===== the fewest steps ===== -/
theorem surj_le : ∀ (p q : Nat) (f : Nat → Nat), (∀ x, x < p → ∃ j, j < q ∧ f j = x) → p ≤ q
  | 0, _, _, _ => Nat.zero_le _
  | p + 1, q, f, h => by
    obtain ⟨j0, h0, e0⟩ := h p (by omega)
    have := surj_le p (q - 1) (fun j => if j < j0 then f j else f (j + 1)) (fun x hx => by
      obtain ⟨j, hj, e⟩ := h x (by omega)
      have hne : j ≠ j0 := fun c => by rw [c] at e; omega
      by_cases c : j < j0
      · exact ⟨j, by omega, by rw [if_pos c, e]⟩
      · exact ⟨j - 1, by omega, by rw [if_neg (by omega), show j - 1 + 1 = j by omega, e]⟩)
    omega
theorem surj_ex {p i0 : Nat} {f : Nat → Nat} (h0 : i0 < p) (h : ∀ x, x < p → ∃ j, j < p ∧ j ≠ i0 ∧ f j = x) : False := by
  have := surj_le p (p - 1) (fun j => if j < i0 then f j else f (j + 1)) (fun x hx => by
    obtain ⟨j, hj, hne, e⟩ := h x hx
    by_cases c : j < i0
    · exact ⟨j, by omega, by rw [if_pos c, e]⟩
    · exact ⟨j - 1, by omega, by rw [if_neg (by omega), show j - 1 + 1 = j by omega, e]⟩)
  omega
theorem surj_inj {p : Nat} {f : Nat → Nat} (h : ∀ x, x < p → ∃ j, j < p ∧ f j = x) {i j : Nat} (hi : i < p) (hj : j < p) (e : f i = f j) : i = j := by
  by_cases c : i = j
  · exact c
  · exfalso
    refine surj_ex hj (fun x hx => ?_) (f := f)
    obtain ⟨t, ht, et⟩ := h x hx
    by_cases c2 : t = j
    · exact ⟨i, hi, c, by rw [e, ← c2, et]⟩
    · exact ⟨t, ht, c2, et⟩
def cnt (P : Nat → Bool) : Nat → Nat → Nat
  | _, 0 => 0
  | k, d + 1 => (if P k then 1 else 0) + cnt P (k + 1) d
theorem cnt_app (P : Nat → Bool) : ∀ (a b k : Nat), cnt P k (a + b) = cnt P k a + cnt P (k + a) b
  | 0, b, k => by rw [Nat.zero_add, cnt, Nat.zero_add, Nat.add_zero]
  | a + 1, b, k => by
    rw [show a + 1 + b = (a + b) + 1 by omega, cnt, cnt, cnt_app P a b (k + 1), show k + 1 + a = k + (a + 1) by omega]
    omega
theorem cnt_cg {P Q : Nat → Bool} : ∀ (d k : Nat), (∀ i, k ≤ i → i < k + d → P i = Q i) → cnt P k d = cnt Q k d
  | 0, _, _ => rfl
  | d + 1, k, h => by
    rw [cnt, cnt, h k (by omega) (by omega), cnt_cg d (k + 1) (fun i h1 h2 => h i (by omega) (by omega))]
theorem cnt_sh (P : Nat → Bool) : ∀ (d k : Nat), cnt P (k + 1) d = cnt (fun i => P (i + 1)) k d
  | 0, _ => rfl
  | d + 1, k => by rw [cnt, cnt, cnt_sh P d (k + 1)]
theorem cnt_all {P : Nat → Bool} : ∀ (d k : Nat), (∀ i, k ≤ i → i < k + d → P i = true) → cnt P k d = d
  | 0, _, _ => rfl
  | d + 1, k, h => by
    rw [cnt, if_pos (h k (by omega) (by omega)), cnt_all d (k + 1) (fun i h1 h2 => h i (by omega) (by omega))]
    omega
theorem cnt_non {P : Nat → Bool} : ∀ (d k : Nat), (∀ i, k ≤ i → i < k + d → P i = false) → cnt P k d = 0
  | 0, _, _ => rfl
  | d + 1, k, h => by
    rw [cnt, h k (by omega) (by omega), cnt_non d (k + 1) (fun i h1 h2 => h i (by omega) (by omega))]
    rfl
theorem cnt_mv (g : Nat → Bool) {k q d : Nat} (h1 : k ≤ q) (h2 : q < k + d + 1) : cnt g k (d + 1) = (if g q then 1 else 0) + cnt (fun i => g (mg q k i)) (k + 1) d := by
  have e1 : cnt g k (d + 1) = cnt g k (q - k) + ((if g q then 1 else 0) + cnt g (q + 1) (k + d - q)) := by
    rw [show d + 1 = (q - k) + ((k + d - q) + 1) by omega, cnt_app, cnt, show k + (q - k) = q by omega]
  have e2 : cnt (fun i => g (mg q k i)) (k + 1) d = cnt (fun i => g (mg q k i)) (k + 1) (q - k) + cnt (fun i => g (mg q k i)) (q + 1) (k + d - q) := by
    have := cnt_app (fun i => g (mg q k i)) (q - k) (k + d - q) (k + 1)
    rw [show q - k + (k + d - q) = d by omega, show k + 1 + (q - k) = q + 1 by omega] at this
    exact this
  have e3 : cnt (fun i => g (mg q k i)) (k + 1) (q - k) = cnt g k (q - k) := by
    rw [cnt_sh]
    refine cnt_cg _ _ (fun i a b => ?_)
    rw [show mg q k (i + 1) = i by unfold mg; rw [if_neg (by omega), if_pos h1, if_pos (by omega)]; omega]
  have e4 : cnt (fun i => g (mg q k i)) (q + 1) (k + d - q) = cnt g (q + 1) (k + d - q) := by
    refine cnt_cg _ _ (fun i a b => ?_)
    rw [show mg q k i = i by unfold mg; rw [if_neg (by omega), if_pos h1, if_neg (by omega)]]
  rw [e1, e2, e3, e4]
  omega
def Sg (π : Nat → Nat) : Nat → Nat → Nat
  | _, 0 => 0
  | k, d + 1 => cnt (fun j => decide (π j < π k)) (k + 1) d + Sg π (k + 1) d
theorem ab16 : ∀ p, p < 17 → ((1 : Int32) <<< (kI p &&& 31)) - 1 = kI (2 ^ p - 1) := by decide +kernel
section FEW
variable {tr sp : ShT} {p L B : Nat} {rf mf : AI} {sl : Nat → SlT} {sv : SvT}
/-- a part that names a person -/
def isP (e : AL) (p i : Nat) : Bool := decide (0 ≤ (e i).toInt) && decide ((e i).toInt < (p : Int))
def nOf (e : AL) (i : Nat) : Nat := (e i).toInt.toNat
def bW (e : AL) (p : Nat) : Nat → Nat
  | 0 => 0
  | k + 1 => if isP e p k = true then bW e p k ||| 2 ^ nOf e k else bW e p k
theorem isP_n {e : AL} {i : Nat} (h : isP e p i = true) (h16 : p ≤ 16) : nOf e i < p ∧ (e i).toInt32 = kI (nOf e i) := by
  unfold isP at h
  simp only [Bool.and_eq_true, decide_eq_true_eq] at h
  obtain ⟨n, hn, e1, e2⟩ := el32 (e := e i) (q := p) h.1 h.2 (by omega)
  have : nOf e i = n := by unfold nOf; omega
  rw [this]
  exact ⟨hn, e1⟩
theorem bW_lt {e : AL} (h16 : p ≤ 16) : ∀ k, bW e p k < 65536
  | 0 => by rw [bW]; omega
  | k + 1 => by
    rw [bW]
    by_cases c : isP e p k = true
    · rw [if_pos c]
      have h1 := (isP_n c h16).1
      exact Nat.or_lt_two_pow (n := 16) (bW_lt h16 k) (Nat.pow_lt_pow_right (by decide) (by omega))
    · rw [if_neg c]
      exact bW_lt h16 k
theorem bW_bit {e : AL} {x : Nat} : ∀ k, (bW e p k).testBit x = true → ∃ i, i < k ∧ isP e p i = true ∧ nOf e i = x
  | 0, h => by
    rw [bW, Nat.zero_testBit] at h
    cases h
  | k + 1, h => by
    rw [bW] at h
    by_cases c : isP e p k = true
    · rw [if_pos c, Nat.testBit_or, Bool.or_eq_true] at h
      rcases h with h | h
      · obtain ⟨i, hi, h1⟩ := bW_bit k h
        exact ⟨i, by omega, h1⟩
      · rw [Nat.testBit_two_pow] at h
        exact ⟨k, by omega, c, of_decide_eq_true h⟩
    · rw [if_neg c] at h
      obtain ⟨i, hi, h1⟩ := bW_bit k h
      exact ⟨i, by omega, h1⟩
theorem orE {e : AL} {k : Nat} (h16 : p ≤ 16) (c : isP e p k = true) : kI (bW e p k) ||| ((1 : Int32) <<< ((e k).toInt32 &&& 31)) = kI (bW e p (k + 1)) := by
  obtain ⟨h1, h2⟩ := isP_n c h16
  rw [h2, shlT _ (by omega), kI_or, bW, if_pos c]
theorem hapL {a : Nat} (h16 : p ≤ 16) (hP : tr.2.2.2.2.2.1 = kI p) (ok : RowOk sl sv a p) : ∀ (d k f : Nat), k + d = p → d < f → ((∀ i, k ≤ i → i < p → isP (sv.2.2.2.2.2 a) p i = true) → f_X3_hasAllPeople_L0 a tr sl f (kI (bW (sv.2.2.2.2.2 a) p k)) (kI k) = some (if bW (sv.2.2.2.2.2 a) p p = 2 ^ p - 1 then 1 else 0)) ∧ ((∃ i, k ≤ i ∧ i < p ∧ ¬ isP (sv.2.2.2.2.2 a) p i = true) → ∀ w, f_X3_hasAllPeople_L0 a tr sl f w (kI k) = some 0)
  | _, _, 0, _, h => by omega
  | 0, k, f + 1, hk, _ => by
    constructor
    · intro _
      have hl := bW_lt (e := sv.2.2.2.2.2 a) h16 p
      have h2 : 2 ^ p ≤ 2 ^ 16 := Nat.pow_le_pow_right (by decide) h16
      have h3 : 2 ^ 16 = 65536 := by decide
      unfold f_X3_hasAllPeople_L0 f_X1_allBits
      rw [hP, if_pos ((kI_le (by omega) (by omega)).mpr (by omega)), Option.bind_some, ab16 p (by omega), show k = p by omega, if_kI (by omega) (by omega)]
      by_cases c : bW (sv.2.2.2.2.2 a) p p = 2 ^ p - 1
      · rw [if_pos c, if_pos c]
      · rw [if_neg c, if_neg c]
    · rintro ⟨i, h1, h2, _⟩
      omega
  | d + 1, k, f + 1, hk, hd => by
    obtain ⟨i1', i2'⟩ := hapL h16 hP ok d (k + 1) f (by omega) (by omega)
    obtain ⟨q1, q2⟩ := lg0 (sv.2.2.2.2.2 a k) (kI p)
    have pI : (kI p).toInt = (p : Int) := kI_toInt (by omega)
    have st : ∀ w, f_X3_hasAllPeople_L0 a tr sl (f + 1) w (kI k) = if isP (sv.2.2.2.2.2 a) p k = true then f_X3_hasAllPeople_L0 a tr sl f (w ||| (1 <<< ((sv.2.2.2.2.2 a k).toInt32 &&& 31))) (kI (k + 1)) else some 0 := fun w => by
      rw [f_X3_hasAllPeople_L0, hP, if_neg (kI_leF (by omega) (by omega) (by omega)), bsm (ok.el (i := k) (by omega)), show kI k + 1 = kI (k + 1) from kI_add k 1]
      unfold isP
      simp only [Bool.and_eq_true, decide_eq_true_eq]
      by_cases c1 : (sv.2.2.2.2.2 a k).toInt < 0
      · rw [if_pos (q1.mpr c1), if_neg (by omega)]
      · rw [if_neg (fun h => c1 (q1.mp h))]
        by_cases c2 : (sv.2.2.2.2.2 a k).toInt < (p : Int)
        · rw [if_pos (q2.mpr (by rw [pI]; exact c2)), if_pos ⟨by omega, c2⟩]
        · rw [if_neg (fun h => c2 (by rw [← pI]; exact q2.mp h)), if_neg (fun h => c2 h.2)]
    constructor
    · intro hall
      have c := hall k (by omega) (by omega)
      rw [st, if_pos c, orE h16 c]
      exact i1' (fun i h1 h2 => hall i (by omega) h2)
    · rintro ⟨i, h1, h2, h3⟩ w
      rw [st]
      by_cases c : isP (sv.2.2.2.2.2 a) p k = true
      · rw [if_pos c]
        refine i2' ⟨i, ?_, h2, h3⟩ _
        by_cases c2 : i = k
        · rw [c2] at h3; exact absurd c h3
        · omega
      · rw [if_neg c]
theorem fwA {a : Nat} (ha : a < 8) (h16 : p ≤ 16) (hP : sp.2.2.2.2.2.1 = kI p) (hp : 0 < p) : ∀ (d k f : Nat), k + d = p → d < f → f_X4_fewest_L0 (kI a) sp sv f (kI (bW (sv.2.2.2.2.2 a) p k)) (kI k) mf = if bW (sv.2.2.2.2.2 a) p p = 2 ^ p - 1 then f_X4_fewest_L1 (kI a) sp sv fuel0 0 0 0 0 mf else (f_X4_refuse (-5) mf).bind fun r => some (r.1, r.2)
  | _, _, 0, _, h => by omega
  | 0, k, f + 1, hk, _ => by
    have hl := bW_lt (e := sv.2.2.2.2.2 a) h16 p
    have h2 : 2 ^ p ≤ 2 ^ 16 := Nat.pow_le_pow_right (by decide) h16
    have h3 : 2 ^ 16 = 65536 := by decide
    rw [f_X4_fewest_L0, hP, if_pos ((kI_le (by omega) (by omega)).mpr (by omega)), ab16 p (by omega), show k = p by omega, if_kI (by omega) (by omega)]
  | d + 1, k, f + 1, hk, hd => by
    have g : inB (kI a) 8 = true := inBT ha (by decide)
    have g1 : inB (kI k) 40 = true := inBT (by omega) (by decide)
    have ih := fwA ha h16 hP hp d (k + 1) f (by omega) (by omega)
    have p1 : (kI p - 1).toInt64.toInt = (p : Int) - 1 := pm1 h16
    rw [f_X4_fewest_L0, hP, if_neg (kI_leF (by omega) (by omega) (by omega))]
    simp only [g, g1, ↓reduceIte]
    rw [kI_nat (n := a) (by omega), kI_nat (n := k) (by omega), show kI k + 1 = kI (k + 1) from kI_add k 1, Int32.or_zero]
    unfold f_X4_isPerson
    rw [M4_in, hP, p1, show (0 : Int64).toInt = 0 from rfl]
    by_cases c : isP (sv.2.2.2.2.2 a) p k = true
    · have c' := c
      unfold isP at c'
      simp only [Bool.and_eq_true, decide_eq_true_eq] at c'
      rw [if_pos (by omega), Option.bind_some, if_pos z01_1, Option.bind_some, if_neg one_ne, orE h16 c]
      exact ih
    · have c' : ¬ (0 ≤ (sv.2.2.2.2.2 a k).toInt ∧ (sv.2.2.2.2.2 a k).toInt ≤ (p : Int) - 1) := fun h => c (by
        unfold isP
        simp only [Bool.and_eq_true, decide_eq_true_eq]
        omega)
      rw [if_neg c', Option.bind_some, if_pos z01_0, Option.bind_some, if_pos rfl]
      rw [bW, if_neg c] at ih
      exact ih
section RUN
variable {ln ct la kd am : Nat → Nat} {fc : Nat} {tu se : Int32} {inv nn : Nat → Nat}
theorem fwX (h16 : p ≤ 16) {a : Nat} (ha : a < 8) (ok : RowOk sl sv a p) (hN : ∀ i, i < p → nn i < p ∧ (sv.2.2.2.2.2 a i).toInt32 = kI (nn i)) (hJ : ∀ i j, i < p → j < p → nn i = nn j → i = j) : ∀ (d k f w : Nat) (t : ShT) (ln : Nat → Nat), Rs t p ln ct la L kd am fc tu se → Vs p ln ct la L kd am fc B → k + d = p → d < f → (∀ i, i < k → ln i = nn i) → (∀ i j, k ≤ i → i < j → j < p → inv (ln i) < inv (ln j)) → (∃ t', f_X3_fewest_L0 (kI a) tr sl f (kI w) (kI k) t rf = some (kI (w + Sg (fun i => inv (nn i)) k d), t', rf)) ∧ ∀ T, cnt (fun i => decide (inv (ln i) < T)) k d = cnt (fun i => decide (inv (nn i) < T)) k d
  | _, _, 0, _, _, _, _, _, _, h, _, _ => by omega
  | 0, k, f + 1, w, t, ln, R, v, hk, _, _, _ => by
    refine ⟨⟨t, ?_⟩, fun _ => rfl⟩
    rw [f_X3_fewest_L0, R.pE, if_pos ((kI_le (by omega) (by omega)).mpr (by omega)), Sg, Nat.add_zero]
  | d + 1, k, f + 1, w, t, ln, R, v, hk, hf, hpre, hsrt => by
    have g : inB (kI a) 8 = true := inBT ha (by decide)
    obtain ⟨hnk, hek⟩ := hN k (by omega)
    obtain ⟨q, hq, eq⟩ := v.2.2.2.2.1 (nn k) hnk
    have hkq : k ≤ q := by
      by_cases c : q < k
      · rw [hpre q c] at eq
        have := hJ q k hq (by omega) eq
        omega
      · omega
    obtain ⟨t1, e1, r1⟩ := X1_move R v hq (q := k) (by omega)
    have v1 := V_move v hq (q := k) (by omega)
    obtain ⟨⟨t', e2⟩, hc⟩ := fwX h16 ha ok hN hJ d (k + 1) f (w + (q - k)) t1 (fun t => ln (mg q k t)) r1 v1 (by omega) (by omega) (fun i hi => by
      by_cases c : i = k
      · rw [c, show mg q k k = q by unfold mg; rw [if_pos rfl], eq]
      · rw [show mg q k i = i by unfold mg; rw [if_neg c, if_pos hkq, if_neg (by omega)]]
        exact hpre i (by omega)) (fun i j h1 h2 h3 => by
      refine hsrt _ _ ?_ ?_ ?_
      · unfold mg
        repeat' split
        all_goals omega
      · unfold mg
        repeat' split
        all_goals omega
      · unfold mg
        repeat' split
        all_goals omega)
    have H : ∀ T, cnt (fun i => decide (inv (ln i) < T)) k (d + 1) = cnt (fun i => decide (inv (nn i) < T)) k (d + 1) := fun T => by
      rw [cnt_mv (fun i => decide (inv (ln i) < T)) hkq (by omega), hc T, eq, cnt]
    have Q : q - k = cnt (fun i => decide (inv (nn i) < inv (nn k))) (k + 1) d := by
      have h1 := H (inv (nn k))
      have h2 : cnt (fun i => decide (inv (ln i) < inv (nn k))) k (d + 1) = q - k := by
        rw [show d + 1 = (q - k) + (k + d + 1 - q) by omega, cnt_app, cnt_all, cnt_non]
        · rfl
        · intro i a1 a2
          refine decide_eq_false ?_
          by_cases c : i = q
          · rw [c, eq]; omega
          · have := hsrt q i hkq (by omega) (by omega)
            rw [eq] at this
            omega
        · intro i a1 a2
          refine decide_eq_true ?_
          have := hsrt i q (by omega) (by omega) hq
          rw [eq] at this
          exact this
      rw [h2, cnt, if_neg (by rw [decide_eq_true_eq]; omega)] at h1
      omega
    refine ⟨⟨t', ?_⟩, H⟩
    have e3 : f_X1_placeOf (kI (nn k)) t = some (kI q) := by
      rw [← eq]
      exact X1_placeOf R v hq
    have e4 : f_X1_move (kI (nn k)) (kI k) t = some t1 := by
      rw [← eq]
      exact e1
    rw [f_X3_fewest_L0, R.pE, if_neg (kI_leF (by omega) (by omega) (by omega)), if_pos g, kI_nat (by omega), bsm (ok.el (i := k) (by omega)), hek, bsm e3, bsm e4, kI_sub hkq, kI_add, show kI k + 1 = kI (k + 1) from kI_add k 1, e2, Sg, Q, Nat.add_assoc]
theorem fwI (hP : sp.2.2.2.2.2.1 = kI p) (h16 : p ≤ 16) {a : Nat} (ha : a < 8) (hN : ∀ i, i < p → (sv.2.2.2.2.2 a i).toInt32 = kI (nn i) ∧ inv (nn i) < p ∧ f_X4_placeOf (kI (nn i)) sp = some (kI (inv (nn i)))) {i : Nat} (hi : i < p) : ∀ (d j f v : Nat), j + d = p → d < f → f_X4_fewest_L1 (kI a) sp sv f 1 (kI v) (kI i) (kI j) mf = f_X4_fewest_L1 (kI a) sp sv (f - (d + 1)) 0 (kI (v + cnt (fun j => decide (inv (nn j) < inv (nn i))) j d)) (kI (i + 1)) 0 mf
  | _, _, 0, _, _, h => by omega
  | 0, j, f + 1, v, hj, _ => by
    rw [f_X4_fewest_L1, if_neg n10, hP, if_pos ((kI_le (by omega) (by omega)).mpr (by omega)), cnt, Nat.add_zero, show kI i + 1 = kI (i + 1) from kI_add i 1, Nat.zero_add, Nat.add_sub_cancel]
    rfl
  | d + 1, j, f + 1, v, hj, hd => by
    have g : inB (kI a) 8 = true := inBT ha (by decide)
    have g1 : inB (kI i) 40 = true := inBT (by omega) (by decide)
    have g2 : inB (kI j) 40 = true := inBT (by omega) (by decide)
    obtain ⟨a1, a2, a3⟩ := hN i hi
    obtain ⟨b1, b2, b3⟩ := hN j (by omega)
    rw [f_X4_fewest_L1, if_neg n10, hP, if_neg (kI_leF (by omega) (by omega) (by omega))]
    simp only [g, g1, g2, ↓reduceIte]
    rw [kI_nat (n := a) (by omega), kI_nat (n := i) (by omega), kI_nat (n := j) (by omega), a1, b1, bsm a3, bsm b3, if_kIle (by omega) (by omega), show kI j + 1 = kI (j + 1) from kI_add j 1, Int32.add_zero, i1, kI_add, cnt]
    by_cases c : inv (nn i) ≤ inv (nn j)
    · rw [if_pos c, fwI hP h16 ha hN hi d (j + 1) f v (by omega) (by omega), if_neg (by rw [decide_eq_true_eq]; omega), Nat.zero_add, show f + 1 - (d + 1 + 1) = f - (d + 1) by omega]
    · rw [if_neg c, fwI hP h16 ha hN hi d (j + 1) f (v + 1) (by omega) (by omega), if_pos (by rw [decide_eq_true_eq]; omega), Nat.add_assoc, show f + 1 - (d + 1 + 1) = f - (d + 1) by omega]
theorem fwO (hP : sp.2.2.2.2.2.1 = kI p) (h16 : p ≤ 16) {a : Nat} (ha : a < 8) (hN : ∀ i, i < p → (sv.2.2.2.2.2 a i).toInt32 = kI (nn i) ∧ inv (nn i) < p ∧ f_X4_placeOf (kI (nn i)) sp = some (kI (inv (nn i)))) : ∀ (d i f v : Nat) (z : Int32), i + d = p → 20 * d < f → f_X4_fewest_L1 (kI a) sp sv f 0 (kI v) (kI i) z mf = some (kI (v + Sg (fun j => inv (nn j)) i d), mf)
  | _, _, 0, _, _, _, h => by omega
  | 0, i, f + 1, v, z, hi, _ => by
    rw [f_X4_fewest_L1, if_pos rfl, hP, if_pos ((kI_le (by omega) (by omega)).mpr (by omega)), Sg, Nat.add_zero]
  | d + 1, i, f + 1, v, z, hi, hd => by
    rw [f_X4_fewest_L1, if_pos rfl, hP, if_neg (kI_leF (by omega) (by omega) (by omega)), show kI i + 1 = kI (i + 1) from kI_add i 1, fwI hP h16 ha hN (i := i) (by omega) d (i + 1) f v (by omega) (by omega), fwO hP h16 ha hN d (i + 1) (f - (d + 1)) _ 0 (by omega) (by omega), Sg, Nat.add_assoc]
end RUN
def TF (x : Option (Int32 × ShT × AI)) (y : Option (Int32 × AI)) : Prop := ∃ r th rf mf, x = some (r, th, rf) ∧ y = some (r, mf) ∧ RF rf mf
theorem s_fewest (hJ : J p L B tr sp) (h : SL L sl sv) (hr : RF rf mf) (a0 : Int32) {th : ShT} : TF (f_X3_fewest a0 tr th sl rf) (f_X4_fewest a0 sp sv mf) := by
  have h16 := hJ.p16
  unfold f_X3_fewest f_X4_fewest
  rw [hJ.pp.1, hJ.pp.2]
  rcases slate hJ h hr a0 (kI p) with ⟨a, n, ha, hn, rfl, en, e1, e2, hp, hL, ok⟩ | ⟨i, rf', mf', hi, hne, e1, e2, e3, h'⟩
  rotate_left
  · rw [bsm e1, bsm e3, if_neg hne, if_neg hne, bsm e2]
    exact ⟨_, _, _, _, rfl, rfl, h'⟩
  have en' : n = p := ((kI_eq (by omega) (by omega)).mp en).symm
  subst en'
  have g : inB (kI a) 8 = true := inBT ha (by decide)
  obtain ⟨rf3, mf3, x3, y3, h3⟩ := refu hr (i := 3) (by decide)
  obtain ⟨x1, x2⟩ := hapL (tr := tr) h16 hJ.pp.1 ok n 0 fuel0 (by omega) (by unfold fuel0; omega)
  have M0 := fwA (mf := mf) (sv := sv) ha h16 hJ.pp.2 hp n 0 fuel0 (by omega) (by unfold fuel0; omega)
  have b0 : kI (bW (sv.2.2.2.2.2 a) n 0) = 0 := rfl
  rw [b0] at M0 x1
  rw [bsm e1, bsm e2, if_pos rfl, if_pos rfl, if_pos g, kI_nat (by omega)]
  have M1 : f_X4_fewest_L0 (kI a) sp sv fuel0 0 0 mf = _ := M0
  dsimp only
  rw [M1]
  have surj : bW (sv.2.2.2.2.2 a) n n = 2 ^ n - 1 → ∀ x, x < n → ∃ i, i < n ∧ isP (sv.2.2.2.2.2 a) n i = true ∧ nOf (sv.2.2.2.2.2 a) i = x := fun hb x hx => by
    refine bW_bit n ?_
    rw [hb, Nat.testBit_two_pow_sub_one]
    exact decide_eq_true hx
  have hno : ∀ {Z : Option (Int32 × AI)}, Z = (f_X4_refuse (-5) mf).bind (fun r => some (r.1, r.2)) → TF ((f_X3_refuse (-5) rf).bind fun r1006 => some (r1006.1, th, r1006.2)) Z := fun hz => by
    rw [hz, bsm (show f_X3_refuse (-5) rf = _ from x3), bsm (show f_X4_refuse (-5) mf = _ from y3)]
    exact ⟨_, _, _, _, rfl, rfl, h3⟩
  by_cases ca : ∀ i, 0 ≤ i → i < n → isP (sv.2.2.2.2.2 a) n i = true
  · rw [bsm (show f_X3_hasAllPeople a tr sl = _ from x1 ca)]
    by_cases c : bW (sv.2.2.2.2.2 a) n n = 2 ^ n - 1
    · rw [if_pos c, if_pos c, if_neg one_ne]
      have hs := surj c
      obtain ⟨ln, ct, la, kd, am, fc, tu, se, R, R', v⟩ := hJ
      have v8 : ∀ x, x < n → ∃ j, j < n ∧ ln j = x := v.2.2.2.2.1
      obtain ⟨inv, hinv⟩ : ∃ inv : Nat → Nat, ∀ x, x < n → inv x < n ∧ ln (inv x) = x := ⟨fun x => if hx : x < n then (v8 x hx).choose else 0, fun x hx => by
        dsimp only
        rw [dif_pos hx]
        exact (v8 x hx).choose_spec⟩
      obtain ⟨t1, f1, q1⟩ := X1_become R v.1 v.2.1 th
      have hI : ∀ j, j < n → inv (ln j) = j := fun j hj => by
        have hl := (v.2.2.1 j hj).1
        exact v.2.2.2.1 _ _ (hinv _ hl).1 hj (hinv _ hl).2
      obtain ⟨⟨t', X⟩, -⟩ := fwX (tr := tr) (rf := rf) (inv := inv) (nn := nOf (sv.2.2.2.2.2 a)) h16 ha ok (fun i hi => isP_n (ca i (Nat.zero_le _) hi) h16) (fun i j hi hj e => surj_inj (fun x hx => by obtain ⟨i, h1, _, h2⟩ := hs x hx; exact ⟨i, h1, h2⟩) hi hj e) n 0 fuel0 0 t1 ln q1 v (by omega) (by unfold fuel0; omega) (fun i hi => by omega) (fun i j _ h2 h3 => by rw [hI i (by omega), hI j h3]; exact h2)
      have Y := fwO (sp := sp) (sv := sv) (mf := mf) (inv := inv) (nn := nOf (sv.2.2.2.2.2 a)) R'.pE h16 ha (fun i hi => by
        obtain ⟨h1, h2⟩ := isP_n (ca i (Nat.zero_le _) hi) h16
        obtain ⟨h4, h5⟩ := hinv _ h1
        refine ⟨h2, h4, ?_⟩
        have := M4_placeOf R' v h4
        rwa [h5] at this) n 0 fuel0 0 (kI 0) (by omega) (by unfold fuel0; omega)
      rw [bsm f1, show (0 : Int32) = kI 0 from rfl, X, Y]
      exact ⟨_, _, _, _, rfl, rfl, hr⟩
    · rw [if_neg c, if_neg c, if_pos rfl]
      exact hno rfl
  · have ca' : ∃ i, 0 ≤ i ∧ i < n ∧ ¬ isP (sv.2.2.2.2.2 a) n i = true := by
      by_cases q : ∃ i, 0 ≤ i ∧ i < n ∧ ¬ isP (sv.2.2.2.2.2 a) n i = true
      · exact q
      · exact absurd (fun i h1 h2 => Decidable.byContradiction fun h3 => q ⟨i, h1, h2, h3⟩) ca
    rw [bsm (show f_X3_hasAllPeople a tr sl = _ from x2 ca' 0), if_pos rfl]
    by_cases c : bW (sv.2.2.2.2.2 a) n n = 2 ^ n - 1
    · exfalso
      obtain ⟨i0, -, h0, hnp⟩ := ca'
      refine surj_ex h0 (fun x hx => ?_) (f := nOf (sv.2.2.2.2.2 a))
      obtain ⟨i, h1, h2, h4⟩ := surj c x hx
      exact ⟨i, h1, fun e => hnp (by rw [← e]; exact h2), h4⟩
    · rw [if_neg c]
      exact hno rfl
end FEW
