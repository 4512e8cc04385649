/-! ===== packs ===== -/
def shN (n : Nat) (o : Bool) (x : Nat) : Nat :=
  if o = true then if (n + 1) / 2 ≤ x then 2 * (x - (n + 1) / 2) + 1 else 2 * x
  else if n / 2 ≤ x then 2 * (x - n / 2) else 2 * x + 1
theorem sh_lt {n x : Nat} (o : Bool) (h : x < n) : shN n o x < n := by
  unfold shN
  repeat' split
  all_goals omega
def itN (n : Nat) (o : Bool) : Nat → Nat → Nat
  | 0, x => x
  | t + 1, x => shN n o (itN n o t x)
theorem it_lt {n x : Nat} (o : Bool) (h : x < n) : ∀ t, itN n o t x < n
  | 0 => h
  | t + 1 => sh_lt o (it_lt o h t)
theorem it_add {n x : Nat} {o : Bool} (a : Nat) : ∀ b, itN n o (b + a) x = itN n o b (itN n o a x)
  | 0 => by rw [Nat.zero_add]; rfl
  | b + 1 => by
    rw [show b + 1 + a = (b + a) + 1 by omega, itN, itN, it_add a b]
def ob (a : Int32) : Bool := decide (a = 0)
theorem kI_div {a b : Nat} (ha : a < 2147483648) (hb : b < 2147483648) : kI a / kI b = kI (a / b) := (Int32.ofNat_div ha hb).symm
theorem shE {n x : Nat} (a : Int32) (hn : n ≤ 52) (hx : x < n) : f_X3_shuffled (kI n) a (kI x) = some (kI (shN n (ob a) x)) := by
  unfold f_X3_shuffled shN ob
  rw [i2, i1, kI_add, kI_div (by omega) (by omega), kI_div (by omega) (by omega), if_kIle (by omega) (by omega), if_kIle (by omega) (by omega), kI_mul, Int32.sub_zero, Int32.add_zero]
  have h2 : ¬ kI 2 = 0 := by decide
  by_cases c : a = 0
  · rw [if_pos c, if_pos h2, if_pos c, if_pos (decide_eq_true c)]
    by_cases q : (n + 1) / 2 ≤ x
    · rw [if_pos q, if_pos q, kI_sub q, kI_mul, kI_add]
    · rw [if_neg q, if_neg q]
  · rw [if_neg c, if_pos h2, if_neg c, decide_eq_false c, if_neg (show ¬ false = true by decide), if_kIle (by omega) (by omega)]
    by_cases q : n / 2 ≤ x
    · rw [if_pos q, if_pos q, kI_sub q, kI_mul, kI_add, kI_sub (by omega), Nat.add_sub_cancel]
    · rw [if_neg q, if_neg q, kI_add]
theorem cmE (n a x : Int32) : f_X4_comesTo n a x = f_X3_shuffled n a x := rfl
theorem stL {n x N : Nat} (a : Int32) (hn : n ≤ 52) (hx : x < n) (hN : N ≤ 1000) : ∀ (d k f : Nat), k + d = N → d < f → f_X3_shuffledTimes_L0 (kI n) a (kI N) f (kI (itN n (ob a) k x)) (kI k) = some (kI (itN n (ob a) N x)) ∧ f_X4_liesAt_L0 (kI n) a (kI N) f (kI (itN n (ob a) k x)) (kI k) = some (kI (itN n (ob a) N x))
  | _, _, 0, _, h => by omega
  | 0, k, f + 1, hk, _ => by
    rw [f_X3_shuffledTimes_L0, f_X4_liesAt_L0, if_pos ((kI_le (by omega) (by omega)).mpr (by omega)), if_pos ((kI_le (by omega) (by omega)).mpr (by omega)), show k = N by omega]
    exact ⟨rfl, rfl⟩
  | d + 1, k, f + 1, hk, hf => by
    have e := shE a hn (it_lt (ob a) hx k)
    rw [f_X3_shuffledTimes_L0, f_X4_liesAt_L0, if_neg (kI_leF (by omega) (by omega) (by omega)), if_neg (kI_leF (by omega) (by omega) (by omega)), cmE, bsm e, bsm e, show kI k + 1 = kI (k + 1) from kI_add k 1]
    exact stL a hn hx hN d (k + 1) f (by omega) (by omega)
theorem stE {n x N : Nat} (a : Int32) (hn : n ≤ 52) (hx : x < n) (hN : N ≤ 1000) : f_X3_shuffledTimes (kI n) a (kI x) (kI N) = some (kI (itN n (ob a) N x)) ∧ f_X4_liesAt (kI n) a (kI x) (kI N) = some (kI (itN n (ob a) N x)) :=
  stL a hn hx hN N 0 fuel0 (by omega) (by unfold fuel0; omega)
def fixd (n : Nat) (o : Bool) (N x : Nat) : Bool := decide (itN n o N x = x)
theorem fxL {n N : Nat} (a : Int32) (hn : n ≤ 52) (hN : N ≤ 1000) {pk rf : AI} : ∀ (d k f v : Nat), k + d = n → d < f → f_X3_stay_L0 (kI n) a (kI N) f (kI v) (kI k) pk rf = some (kI (v + cnt (fixd n (ob a) N) k d), pk, rf) ∧ f_X4_stayOf_L0 (kI n) a (kI N) f (kI v) (kI k) = some (kI (v + cnt (fixd n (ob a) N) k d))
  | _, _, 0, _, _, h => by omega
  | 0, k, f + 1, v, hk, _ => by
    rw [f_X3_stay_L0, f_X4_stayOf_L0, if_pos ((kI_le (by omega) (by omega)).mpr (by omega)), if_pos ((kI_le (by omega) (by omega)).mpr (by omega)), cnt]
    exact ⟨rfl, rfl⟩
  | d + 1, k, f + 1, v, hk, hf => by
    obtain ⟨e1, e2⟩ := stE a hn (show k < n by omega) hN
    have hl := it_lt (ob a) (show k < n by omega) N
    rw [f_X3_stay_L0, f_X4_stayOf_L0, if_neg (kI_leF (by omega) (by omega) (by omega)), if_neg (kI_leF (by omega) (by omega) (by omega)), bsm e1, bsm e2, if_kI (by omega) (by omega), if_kI (by omega) (by omega), show kI k + 1 = kI (k + 1) from kI_add k 1, show kI v + 1 = kI (v + 1) from kI_add v 1, Int32.add_zero, cnt]
    unfold fixd
    by_cases c : itN n (ob a) N k = k
    · rw [if_pos c, if_pos c, if_pos (decide_eq_true c), ← Nat.add_assoc]
      exact fxL a hn hN d (k + 1) f (v + 1) (by omega) (by omega)
    · rw [if_neg c, if_neg c, if_neg (by rw [decide_eq_true_eq]; exact c), Nat.zero_add]
      exact fxL a hn hN d (k + 1) f v (by omega) (by omega)
/-! a pack comes home within 52 shuffles -/
def homeB (n : Nat) (o : Bool) (t : Nat) : Nat → Bool
  | 0 => true
  | x + 1 => Nat.beq (itN n o t x) x && homeB n o t x
theorem homeB_of {n : Nat} {o : Bool} {t : Nat} : ∀ k, homeB n o t k = true ↔ ∀ x, x < k → itN n o t x = x
  | 0 => ⟨fun _ x hx => by omega, fun _ => rfl⟩
  | k + 1 => by
    rw [homeB, Bool.and_eq_true, homeB_of k]
    constructor
    · rintro ⟨h1, h2⟩ x hx
      by_cases c : x = k
      · rw [c]; exact Nat.eq_of_beq_eq_true h1
      · exact h2 x (by omega)
    · intro h
      exact ⟨by rw [h k (by omega)]; exact Nat.beq_refl k, fun x hx => h x (by omega)⟩
def perB (n : Nat) (o : Bool) : Nat → Bool
  | 0 => false
  | t + 1 => homeB n o (t + 1) n || perB n o t
theorem perB_of {n : Nat} {o : Bool} : ∀ k, perB n o k = true → ∃ t, 1 ≤ t ∧ t ≤ k ∧ homeB n o t n = true
  | 0, h => by cases h
  | k + 1, h => by
    rw [perB, Bool.or_eq_true] at h
    rcases h with h | h
    · exact ⟨k + 1, by omega, by omega, h⟩
    · obtain ⟨t, h1, h2, h3⟩ := perB_of k h
      exact ⟨t, h1, by omega, h3⟩
def perA : Nat → Bool
  | 0 => true
  | n + 1 => perB n true 52 && (perB n false 52 && perA n)
theorem perK : perA 53 = true := by decide +kernel
theorem perA_of {n : Nat} (o : Bool) : ∀ k, perA k = true → n < k → perB n o 52 = true
  | 0, _, h => by omega
  | k + 1, h, hn => by
    rw [perA, Bool.and_eq_true, Bool.and_eq_true] at h
    by_cases c : n = k
    · rw [c]
      cases o
      · exact h.2.1
      · exact h.1
    · exact perA_of o k h.2.2 (by omega)
theorem least {P : Nat → Bool} : ∀ (d k : Nat), P (k + d) = true → ∃ t, k ≤ t ∧ t ≤ k + d ∧ P t = true ∧ ∀ u, k ≤ u → u < t → ¬ P u = true
  | 0, k, h => ⟨k, by omega, by omega, h, fun u h1 h2 => by omega⟩
  | d + 1, k, h => by
    by_cases c : P k = true
    · exact ⟨k, by omega, by omega, c, fun u h1 h2 => by omega⟩
    · obtain ⟨t, h1, h2, h3, h4⟩ := least d (k + 1) (by rw [show k + 1 + d = k + (d + 1) by omega]; exact h)
      refine ⟨t, by omega, by omega, h3, fun u h5 h6 => ?_⟩
      by_cases c2 : u = k
      · rw [c2]; exact c
      · exact h4 u (by omega) h6
theorem period {n : Nat} (hn : n ≤ 52) (o : Bool) : ∃ t, 1 ≤ t ∧ t ≤ 52 ∧ homeB n o t n = true ∧ ∀ u, 1 ≤ u → u < t → ¬ homeB n o u n = true := by
  obtain ⟨t, h1, h2, h3⟩ := perB_of 52 (perA_of o 53 perK (n := n) (by omega))
  obtain ⟨t', g1, g2, g3, g4⟩ := least (P := fun t => homeB n o t n) (t - 1) 1 (by rw [show 1 + (t - 1) = t by omega]; exact h3)
  exact ⟨t', g1, by omega, g3, g4⟩
def b2i (b : Bool) : Int32 := if b = true then 1 else 0
theorem taI {n t : Nat} (a : Int32) (hn : n ≤ 52) : ∀ (d k f : Nat) (pk : AI), k + d = n → d < f → (∀ j, j < n → pk j = kI (if j < k then itN n (ob a) (t + 1) j else itN n (ob a) t j)) → ∃ pk', (∀ j, j < n → pk' j = kI (itN n (ob a) (t + 1) j)) ∧ f_X3_timesAgain_L1 (kI n) a f 1 (kI (t + 1)) (b2i (homeB n (ob a) (t + 1) k)) (kI k) pk = if homeB n (ob a) (t + 1) n = true then some (kI (t + 1), pk') else f_X3_timesAgain_L1 (kI n) a (f - (d + 1)) 0 (kI (t + 1 + 1)) 0 0 pk'
  | _, _, 0, _, _, h, _ => by omega
  | 0, k, f + 1, pk, hk, _, hp => by
    have e : k = n := by omega
    refine ⟨pk, fun j hj => by rw [hp j hj, if_pos (by omega)], ?_⟩
    rw [f_X3_timesAgain_L1, if_neg n10, if_pos ((kI_le (by omega) (by omega)).mpr (by omega)), e, Nat.zero_add, Nat.add_sub_cancel, show kI (t + 1) + 1 = kI (t + 1 + 1) from kI_add _ 1]
    unfold b2i
    by_cases c : homeB n (ob a) (t + 1) n = true
    · rw [if_pos c, if_pos c, if_neg one_ne]
    · rw [if_neg c, if_neg c, if_pos rfl]
  | d + 1, k, f + 1, pk, hk, hf, hp => by
    have g : inB (kI k) 52 = true := inBT (by omega) (by decide)
    have hl := it_lt (ob a) (show k < n by omega) t
    have hl2 := it_lt (ob a) (show k < n by omega) (t + 1)
    obtain ⟨pk', h1, h2⟩ := taI (t := t) a hn d (k + 1) f (upd pk k (kI (itN n (ob a) (t + 1) k))) (by omega) (by omega) (fun j hj => by
      by_cases c : j = k
      · rw [c, upd_at, if_pos (by omega)]
      · rw [upd_ne c, hp j hj]
        by_cases c2 : j < k
        · rw [if_pos c2, if_pos (by omega)]
        · rw [if_neg c2, if_neg (by omega)])
    refine ⟨pk', h1, ?_⟩
    rw [f_X3_timesAgain_L1, if_neg n10, if_neg (kI_leF (by omega) (by omega) (by omega))]
    simp only [g, ↓reduceIte]
    rw [kI_nat (by omega), hp k (by omega), if_neg (Nat.lt_irrefl k), bsm (shE a hn hl), upd_at, show kI k + 1 = kI (k + 1) from kI_add k 1, show f + 1 - (d + 1 + 1) = f - (d + 1) by omega, ← h2, show shN n (ob a) (itN n (ob a) t k) = itN n (ob a) (t + 1) k from rfl, if_kI (by omega) (by omega), homeB]
    unfold b2i
    by_cases c : homeB n (ob a) (t + 1) k = true
    · rw [if_pos c, if_neg one_ne, c, Bool.and_true]
      by_cases c2 : itN n (ob a) (t + 1) k = k
      · rw [if_pos c2, c2, Nat.beq_refl, if_pos rfl]
      · rw [if_neg c2, if_neg (fun h => c2 (Nat.eq_of_beq_eq_true h))]
    · rw [if_neg c, if_pos rfl, Bool.eq_false_iff.mpr c, Bool.and_false, if_neg (by decide)]
theorem taO {n T : Nat} (a : Int32) (hn : n ≤ 52) (hT : T ≤ 52) (hH : homeB n (ob a) T n = true) (hm : ∀ u, 1 ≤ u → u < T → ¬ homeB n (ob a) u n = true) : ∀ (d t f : Nat) (pk : AI) (x y : Int32), t + 1 + d = T → 54 * (d + 1) < f → (∀ j, j < n → pk j = kI (itN n (ob a) t j)) → ∃ pk', f_X3_timesAgain_L1 (kI n) a f 0 (kI (t + 1)) x y pk = some (kI T, pk')
  | _, _, 0, _, _, _, _, h, _ => by omega
  | d, t, f + 1, pk, x, y, hd, hf, hp => by
    obtain ⟨pk', h1, h2⟩ := taI (t := t) a hn n 0 f pk (by omega) (by omega) (fun j hj => by rw [hp j hj, if_neg (by omega)])
    rw [f_X3_timesAgain_L1, if_pos rfl, i999, if_neg (kI_ltF (by omega) (by omega) (by omega)), show f_X3_timesAgain_L1 (kI n) a f 1 (kI (t + 1)) 1 0 pk = _ from h2]
    match d, hd, hf with
    | 0, hd, _ =>
      rw [show t + 1 = T by omega, if_pos hH]
      exact ⟨_, rfl⟩
    | d + 1, hd, hf =>
      rw [if_neg (hm (t + 1) (by omega) (by omega))]
      exact taO a hn hT hH hm d (t + 1) _ pk' 0 0 (by omega) (by omega) h1
theorem taF {n : Nat} (a : Int32) (hn : n ≤ 52) : ∀ (d k f : Nat) (pk : AI), k + d = n → d < f → (∀ j, j < k → pk j = kI j) → ∃ pk', (∀ j, j < n → pk' j = kI j) ∧ f_X3_timesAgain_L0 (kI n) a f (kI k) pk = f_X3_timesAgain_L1 (kI n) a fuel0 0 1 0 0 pk'
  | _, _, 0, _, _, h, _ => by omega
  | 0, k, f + 1, pk, hk, _, hp => by
    refine ⟨pk, fun j hj => hp j (by omega), ?_⟩
    rw [f_X3_timesAgain_L0, if_pos ((kI_le (by omega) (by omega)).mpr (by omega))]
  | d + 1, k, f + 1, pk, hk, hf, hp => by
    have g : inB (kI k) 52 = true := inBT (by omega) (by decide)
    rw [f_X3_timesAgain_L0, if_neg (kI_leF (by omega) (by omega) (by omega)), if_pos g, kI_nat (by omega), show kI k + 1 = kI (k + 1) from kI_add k 1]
    refine taF a hn d (k + 1) f _ (by omega) (by omega) (fun j hj => ?_)
    by_cases c : j = k
    · rw [c, upd_at]
    · rw [upd_ne c, hp j (by omega)]
theorem taE {n : Nat} (a : Int32) (hn : n ≤ 52) (pk : AI) : ∃ T pk', 1 ≤ T ∧ T ≤ 52 ∧ homeB n (ob a) T n = true ∧ (∀ u, 1 ≤ u → u < T → ¬ homeB n (ob a) u n = true) ∧ f_X3_timesAgain (kI n) a pk = some (kI T, pk') := by
  obtain ⟨T, h1, h2, h3, h4⟩ := period hn (ob a)
  obtain ⟨pk1, g1, g2⟩ := taF a hn n 0 fuel0 pk (by omega) (by unfold fuel0; omega) (fun j hj => by omega)
  obtain ⟨pk', e⟩ := taO a hn h2 h3 h4 (T - 1) 0 fuel0 pk1 0 0 (by omega) (by unfold fuel0; omega) g1
  refine ⟨T, pk', h1, h2, h3, h4, ?_⟩
  unfold f_X3_timesAgain
  rw [show (0 : Int32) = kI 0 from rfl, g2]
  exact e
theorem cnt_full {P : Nat → Bool} {n : Nat} (h : n ≤ cnt P 0 n) : ∀ x, x < n → P x = true := fun x hx => by
  by_cases c : P x = true
  · exact c
  · have := cnt_lt (P := P) (Q := fun _ => true) (z := x) rfl c n 0 (Nat.zero_le _) (by omega) (fun _ _ _ _ => rfl)
    rw [cnt_all n 0 (fun _ _ _ => rfl)] at this
    omega
theorem agM {n T : Nat} (a : Int32) (hn : n ≤ 52) (hT : T ≤ 52) (hH : homeB n (ob a) T n = true) (hm : ∀ u, 1 ≤ u → u < T → ¬ homeB n (ob a) u n = true) {mf : AI} : ∀ (d t f : Nat), t + d = T → 1 ≤ t → d < f → f_X4_again_L0 (kI n) a f (kI t) mf = some (kI T, mf)
  | _, _, 0, _, _, h => by omega
  | 0, t, f + 1, ht, h1, _ => by
    have e : t = T := by omega
    subst e
    have c1 : cnt (fixd n (ob a) t) 0 n = n := cnt_all n 0 (fun x _ hx => decide_eq_true ((homeB_of n).mp hH x (by omega)))
    have e2 := (fxL (N := t) (pk := fun _ => 0) (rf := fun _ => 0) a hn (by omega) n 0 fuel0 0 (by omega) (by unfold fuel0; omega)).2
    rw [c1, Nat.zero_add] at e2
    rw [f_X4_again_L0, bsm (show f_X4_stayOf (kI n) a (kI t) = some (kI n) from e2), if_pos ((kI_le (by omega) (by omega)).mpr (Nat.le_refl _))]
  | d + 1, t, f + 1, ht, h1, hf => by
    have c1 : cnt (fixd n (ob a) t) 0 n < n := by
      refine Nat.lt_of_not_le fun h => hm t h1 (by omega) ((homeB_of n).mpr fun x hx => of_decide_eq_true (cnt_full h x hx))
    have e2 := (fxL (N := t) (pk := fun _ => 0) (rf := fun _ => 0) a hn (by omega) n 0 fuel0 0 (by omega) (by unfold fuel0; omega)).2
    rw [Nat.zero_add] at e2
    rw [f_X4_again_L0, bsm (show f_X4_stayOf (kI n) a (kI t) = some (kI _) from e2), if_neg (kI_leF (by omega) (by omega) c1), show kI t + 1 = kI (t + 1) from kI_add t 1]
    exact agM a hn hT hH hm d (t + 1) f (by omega) (by omega) (by omega)
theorem it_mul {n x T : Nat} {o : Bool} (h : ∀ y, y < n → itN n o T y = y) (hx : x < n) : ∀ q, itN n o (T * q) x = x
  | 0 => rfl
  | q + 1 => by rw [Nat.mul_succ, it_add T, h x hx, it_mul h hx q]
theorem it_mod {n x T K : Nat} {o : Bool} (h : ∀ y, y < n → itN n o T y = y) (hx : x < n) : itN n o (K % T) x = itN n o K x := by
  have e := Nat.div_add_mod K T
  have e2 : itN n o (T * (K / T) + K % T) x = itN n o (T * (K / T)) (itN n o (K % T) x) := it_add _ _
  rw [e, it_mul h (it_lt o hx _)] at e2
  exact e2.symm
theorem pck (a : Int32) : (∃ n, 2 ≤ n ∧ n ≤ 52 ∧ a = kI n ∧ f_X3_isPack a = some 1 ∧ f_X4_in a.toInt64 2 52 = some 1) ∨ (f_X3_isPack a = some 0 ∧ f_X4_in a.toInt64 2 52 = some 0) := by
  unfold f_X3_isPack
  rcases b_2_52 a with ⟨n, h1, h2, h3, h4, h5⟩ | ⟨h4, h5⟩
  · exact Or.inl ⟨n, h1, h2, h3, by rw [bsm h4, if_pos z01_1], h5⟩
  · exact Or.inr ⟨by rw [bsm h4, if_pos z01_0], h5⟩
section PCK
variable {rf mf : AI}
def TK (x : Option (Int32 × AI × AI)) (y : Option (Int32 × AI)) : Prop := ∃ r pk rf mf, x = some (r, pk, rf) ∧ y = some (r, mf) ∧ RF rf mf
def TN (x : Option (Int32 × AI)) (y : Option (Int32 × AI × AI)) : Prop := ∃ r mn rf mf, x = some (r, rf) ∧ y = some (r, mf, mn) ∧ RF rf mf
theorem TKr (h : RF rf mf) {pk : AI} (i : Nat) (hi : i < 5) {c : Int32} (hc : c = -kI (i + 2)) : TK ((f_X3_refuse c rf).bind fun r => some (r.1, pk, r.2)) ((f_X4_refuse c mf).bind fun r => some (r.1, r.2)) := by
  subst hc
  obtain ⟨rf', mf', e1, e2, h'⟩ := refu h hi
  rw [bsm e1, bsm e2]
  exact ⟨_, _, _, _, rfl, rfl, h'⟩
theorem TNr (h : RF rf mf) {mn : AI} (i : Nat) (hi : i < 5) {c : Int32} (hc : c = -kI (i + 2)) : TN ((f_X3_refuse c rf).bind fun r => some (r.1, r.2)) ((f_X4_refuse c mf).bind fun r => some (r.1, r.2, mn)) := by
  subst hc
  obtain ⟨rf', mf', e1, e2, h'⟩ := refu h hi
  rw [bsm e1, bsm e2]
  exact ⟨_, _, _, _, rfl, rfl, h'⟩
theorem s_again (hr : RF rf mf) (a0 a1 : Int32) (pk : AI) : TK (f_X3_again a0 a1 pk rf) (f_X4_again a0 a1 mf) := by
  unfold f_X3_again f_X4_again
  rcases pck a0 with ⟨n, h2, hn, rfl, e1, e2⟩ | ⟨e1, e2⟩
  rotate_left
  · rw [bsm e1, bsm e2, if_pos rfl, if_pos rfl]
    exact TKr hr 0 (by decide) rfl
  obtain ⟨T, pk', t1, t2, t3, t4, e⟩ := taE a1 hn pk
  rw [bsm e1, bsm e2, if_neg one_ne, if_neg one_ne, bsm e, show f_X4_again_L0 (kI n) a1 fuel0 1 mf = _ from agM a1 hn t2 t3 t4 (T - 1) 1 fuel0 (by omega) (by omega) (by unfold fuel0; omega)]
  exact ⟨_, _, _, _, rfl, rfl, hr⟩
theorem s_lies (hr : RF rf mf) (a0 a1 a2 a3 : Int32) : T1 (f_X3_lies a0 a1 a2 a3 rf) (f_X4_lies a0 a1 a2 a3 mf) := by
  unfold f_X3_lies f_X4_lies
  rcases pck a0 with ⟨n, h2, hn, rfl, e1, e2⟩ | ⟨e1, e2⟩
  rotate_left
  · rw [bsm e1, bsm e2, if_pos rfl, if_pos rfl]
    exact T1r hr 0 (by decide) rfl
  rw [bsm e1, bsm e2, if_neg one_ne, if_neg one_ne, i1, kI_sub (by omega)]
  rcases btw a2 (lo := 0) (hi := n - 1) (by omega) (by omega) with ⟨x, x1, x2, x3, rfl, e3, e4⟩ | ⟨e3, e4⟩
  rotate_left
  · have e4' : f_X4_in a2.toInt64 0 (kI (n - 1)).toInt64 = some 0 := by
      rw [show (kI (n - 1)).toInt64 = Int64.ofNat (n - 1) from Int64.toInt_inj.mp (by rw [Int32.toInt_toInt64, kI_toInt (by omega), Int64.toInt_ofNat_of_lt (by omega)])]
      exact e4
    rw [bsm (show f_X3_isBetween a2 0 (kI (n - 1)) = _ from e3), bsm e4', if_pos rfl, if_pos rfl]
    exact T1r hr 0 (by decide) rfl
  have e4' : f_X4_in (kI x).toInt64 0 (kI (n - 1)).toInt64 = some 1 := by
    rw [show (kI (n - 1)).toInt64 = Int64.ofNat (n - 1) from Int64.toInt_inj.mp (by rw [Int32.toInt_toInt64, kI_toInt (by omega), Int64.toInt_ofNat_of_lt (by omega)])]
    exact e4
  rw [bsm (show f_X3_isBetween (kI x) 0 (kI (n - 1)) = _ from e3), bsm e4', if_neg one_ne, if_neg one_ne]
  rcases may a3 with ⟨N, hN, rfl, e5, e6⟩ | ⟨e5, e6⟩
  rotate_left
  · rw [bsm e5, bsm e6, if_pos rfl, if_pos rfl]
    exact T1r hr 0 (by decide) rfl
  obtain ⟨f1, f2⟩ := stE a1 hn (x := x) (by omega) (N := N) (by omega)
  rw [bsm e5, bsm e6, if_neg one_ne, if_neg one_ne, bsm f1, bsm f2]
  exact T1s hr
theorem s_stay (hr : RF rf mf) (a0 a1 a2 : Int32) (pk : AI) : TK (f_X3_stay a0 a1 a2 pk rf) (f_X4_stay a0 a1 a2 mf) := by
  unfold f_X3_stay f_X4_stay
  rcases pck a0 with ⟨n, h2, hn, rfl, e1, e2⟩ | ⟨e1, e2⟩
  rotate_left
  · rw [bsm e1, bsm e2, if_pos rfl, if_pos rfl]
    exact TKr hr 0 (by decide) rfl
  rw [bsm e1, bsm e2, if_neg one_ne, if_neg one_ne]
  rcases may a2 with ⟨K, hK, rfl, e5, e6⟩ | ⟨e5, e6⟩
  rotate_left
  · rw [bsm e5, bsm e6, if_pos rfl, if_pos rfl]
    exact TKr hr 0 (by decide) rfl
  obtain ⟨T, pk', t1, t2, t3, t4, e⟩ := taE a1 hn pk
  have hm := Nat.mod_lt K (show 0 < T by omega)
  have F1 := (fxL (N := K % T) (pk := pk') (rf := rf) a1 hn (by omega) n 0 fuel0 0 (by omega) (by unfold fuel0; omega)).1
  have F2 := (fxL (N := K) (pk := pk') (rf := rf) a1 hn (by omega) n 0 fuel0 0 (by omega) (by unfold fuel0; omega)).2
  have ec : cnt (fixd n (ob a1) (K % T)) 0 n = cnt (fixd n (ob a1) K) 0 n := cnt_cg n 0 (fun x _ hx => by
    unfold fixd
    rw [it_mod ((homeB_of n).mp t3) (by omega)])
  rw [bsm e5, bsm e6, if_neg one_ne, if_neg one_ne, bsm e, i1, bsm (J9_max (by omega) (by omega)), Nat.max_eq_right t1, if_pos (by rw [i0, kI_eq (by omega) (by omega)]; omega), quo5 (by omega) (by omega) (by omega), show f_X3_stay_L0 (kI n) a1 (kI (K % T)) fuel0 0 0 pk' rf = _ from F1, bsm (show f_X4_stayOf (kI n) a1 (kI K) = _ from F2), ec]
  exact ⟨_, _, _, _, rfl, rfl, hr⟩
end PCK
