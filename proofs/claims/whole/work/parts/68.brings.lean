/-! ===== what brings a card to its place ===== -/
def bl (x : Nat) : Nat := if x = 0 then 0 else Nat.log2 x + 1
theorem blD : ∀ x, x < 52 → f_X3_digitsInTwos (kI x) = some (kI (bl x)) := by decide +kernel
theorem bl2 : ∀ y, y < 52 → bl (2 * y) ≤ bl y + 1 ∧ bl (2 * y + 1) ≤ bl y + 1 ∧ (0 < y → bl (2 * y) = bl y + 1) ∧ bl y ≤ y ∧ bl y ≤ 6 := by decide +kernel
theorem blm : ∀ y, y < 52 → ∀ z, z < 52 → z ≤ y → bl z ≤ bl y := by decide +kernel
theorem bls : ∀ x, x < 52 → ∀ i, i < 7 → i ≤ bl x → bl (x >>> (bl x - i)) = i := by decide +kernel
def reach (n x : Nat) : Nat → Nat → Prop
  | 0, j => j = x
  | k + 1, j => ∃ o, reach n x k (shN n o j)
theorem sh_cs {n j : Nat} (o : Bool) (h : j < n) : shN n o j ≤ j ∨ shN n o j = 2 * j ∨ shN n o j = 2 * j + 1 := by
  unfold shN
  repeat' split
  all_goals omega
theorem reach_bl {n x : Nat} (hn : n ≤ 52) : ∀ (k j : Nat), j < n → reach n x k j → bl x ≤ bl j + k ∧ (bl x = bl j + k → x >>> k = j)
  | 0, j, _, h => by
    have e : j = x := h
    subst e
    exact ⟨Nat.le_refl _, fun _ => rfl⟩
  | k + 1, j, hj, ⟨o, h⟩ => by
    have hl := sh_lt o hj
    obtain ⟨i1', i2'⟩ := reach_bl hn k _ hl h
    have b2 := bl2 j (by omega)
    have hb : bl (shN n o j) ≤ bl j + 1 ∧ (bl (shN n o j) = bl j + 1 → shN n o j / 2 = j) := by
      rcases sh_cs o hj with c | c | c
      · have := blm j (by omega) _ (by omega) c
        exact ⟨by omega, fun h => by omega⟩
      · rw [c]
        exact ⟨b2.1, fun _ => by omega⟩
      · rw [c]
        exact ⟨b2.2.1, fun _ => by omega⟩
    refine ⟨by omega, fun h2 => ?_⟩
    rw [Nat.shiftRight_succ, i2' (by omega)]
    exact hb.2 (by omega)
theorem path {n x : Nat} (hx : x < n) (i : Nat) : x >>> i < n := by
  have := shr_le x i
  omega
theorem shUp {n x i : Nat} (hx : x < n) : shN n (decide ((x >>> i) % 2 = 0)) (x >>> (i + 1)) = x >>> i := by
  have h1 := path hx i
  rw [Nat.shiftRight_succ]
  unfold shN
  by_cases c : (x >>> i) % 2 = 0
  · rw [decide_eq_true c, if_pos rfl, if_neg (by omega)]
    omega
  · rw [decide_eq_false c, if_neg (by decide), if_neg (by omega)]
    omega
theorem reach_p {n x : Nat} (hx : x < n) : ∀ k, reach n x k (x >>> k)
  | 0 => rfl
  | k + 1 => ⟨decide ((x >>> k) % 2 = 0), by rw [shUp hx]; exact reach_p hx k⟩
def enc : Option Nat → Int32
  | none => -1
  | some k => kI k
/-- what is held of a place is sound, for less than R steps -/
def Sd (n x R : Nat) (ma : AI) : Prop := ∀ j, j < n → ∃ q, ma j = enc q ∧ ∀ k, q = some k → k ≤ R ∧ reach n x k j
def Cp (n x r : Nat) (ma : AI) (j : Nat) : Prop := ∀ k, k ≤ r → reach n x k j → ∃ k', k' ≤ k ∧ ma j = kI k'
theorem enc_inj {q : Option Nat} {k : Nat} (hq : ∀ k, q = some k → k < 1000000) (hk : k < 1000000) (h : enc q = kI k) : q = some k := by
  cases q with
  | none => exact absurd h.symm (kI_m1 (by omega))
  | some m =>
    have h1 := hq m rfl
    have : m = k := (kI_eq (by omega) (by omega)).mp h
    rw [this]
section BRG
variable {n x : Nat}
theorem cand {v R y : Nat} {ma : AI} {qv : Option Nat} {F : AI → Option AI} (ev : ma v = enc qv) (hR : R < 100000) (hy : y ≤ R) (hqv : ∀ k, qv = some k → k ≤ R) : ∃ q' ma', (∀ k, q' = some k → qv = some k ∨ k = y + 1) ∧ (∀ k, qv = some k → ∃ k2, k2 ≤ k ∧ q' = some k2) ∧ (∃ k2, k2 ≤ y + 1 ∧ q' = some k2) ∧ (∀ j, ma' j = if j = v then enc q' else ma j) ∧ (if enc (some y) = -1 then F ma else if enc qv = -1 then F (upd ma v (enc (some y) + 1)) else if enc qv ≤ enc (some y) + 1 then F ma else F (upd ma v (enc (some y) + 1))) = F ma' := by
  have m1 : ∀ {k : Nat}, k ≤ R → ¬ kI k = -1 := fun h => kI_m1 (by omega)
  have same : ∀ j, ma j = if j = v then enc qv else ma j := fun j => by
    by_cases c : j = v
    · rw [if_pos c, c, ev]
    · rw [if_neg c]
  have ey : enc (some y) + 1 = kI (y + 1) := kI_add y 1
  rw [if_neg (show ¬ enc (some y) = -1 from m1 hy), ey]
  cases qv with
  | none =>
    refine ⟨some (y + 1), upd ma v (kI (y + 1)), fun k h => Or.inr (Option.some.inj h).symm, fun k h => (by cases h), ⟨y + 1, Nat.le_refl _, rfl⟩, fun j => rfl, ?_⟩
    rw [if_pos (show enc none = -1 from rfl)]
  | some c =>
    have hc := hqv c rfl
    rw [if_neg (show ¬ enc (some c) = -1 from m1 hc)]
    by_cases q : c ≤ y + 1
    · refine ⟨some c, ma, fun k h => Or.inl h, fun k h => ⟨c, by have := Option.some.inj h; omega, rfl⟩, ⟨c, q, rfl⟩, same, ?_⟩
      rw [if_pos (show enc (some c) ≤ kI (y + 1) from (kI_le (by omega) (by omega)).mpr q)]
    · refine ⟨some (y + 1), upd ma v (kI (y + 1)), fun k h => Or.inr (Option.some.inj h).symm, fun k h => ⟨y + 1, by have := Option.some.inj h; omega, rfl⟩, ⟨y + 1, Nat.le_refl _, rfl⟩, fun j => rfl, ?_⟩
      rw [if_neg (show ¬ enc (some c) ≤ kI (y + 1) from kI_leF (by omega) (by omega) (by omega))]
/-- one place, looked at -/
theorem relx (hn : n ≤ 52) {v R : Nat} (hv : v < n) {ma : AI} (hR : R < 100000) (hS : Sd n x R ma) {z : Int32} (f : Nat) : ∃ qv qo qi q', ma v = enc qv ∧ ma (shN n true v) = enc qo ∧ ma (shN n false v) = enc qi ∧ (∀ k, q' = some k → qv = some k ∨ (∃ k', qo = some k' ∧ k = k' + 1) ∨ ∃ k', qi = some k' ∧ k = k' + 1) ∧ (∀ k, qv = some k → ∃ k2, k2 ≤ k ∧ q' = some k2) ∧ (∀ k, qo = some k → ∃ k2, k2 ≤ k + 1 ∧ q' = some k2) ∧ (∀ k, qi = some k → ∃ k2, k2 ≤ k + 1 ∧ q' = some k2) ∧ ((∀ k, qv = some k → k ≤ R ∧ reach n x k v) ∧ (∀ k, qo = some k → k ≤ R ∧ reach n x k (shN n true v)) ∧ ∀ k, qi = some k → k ≤ R ∧ reach n x k (shN n false v)) ∧ ∃ ma', (∀ j, ma' j = if j = v then enc q' else ma j) ∧ f_X4_findAway_L1 (kI n) (f + 1) 1 z (kI v) ma = f_X4_findAway_L1 (kI n) f 1 z (kI (v + 1)) ma' := by
  obtain ⟨qv, ev, hqv⟩ := hS v hv
  obtain ⟨qo, eo, hqo⟩ := hS _ (sh_lt true hv)
  obtain ⟨qi, ei, hqi⟩ := hS _ (sh_lt false hv)
  have lo := sh_lt true hv
  have li := sh_lt false hv
  have g0 : inB (kI v) 52 = true := inBT (by omega) (by decide)
  have go : inB (kI (shN n true v)) 52 = true := inBT (by omega) (by decide)
  have gi : inB (kI (shN n false v)) 52 = true := inBT (by omega) (by decide)
  have so : f_X4_comesTo (kI n) 0 (kI v) = some (kI (shN n true v)) := shE 0 hn hv
  have si : f_X4_comesTo (kI n) 1 (kI v) = some (kI (shN n false v)) := shE 1 hn hv
  have same : ∀ j, ma j = if j = v then enc qv else ma j := fun j => by
    by_cases c : j = v
    · rw [if_pos c, c, ev]
    · rw [if_neg c]
  have m1 : ∀ {k : Nat}, k ≤ R → ¬ kI k = -1 := fun h => kI_m1 (by omega)
  refine ⟨qv, qo, qi, ?_⟩
  rw [f_X4_findAway_L1, if_neg n10, if_neg (kI_leF (by omega) (by omega) (by omega)), bsm so, bsm si]
  simp only [go, gi, g0, ↓reduceIte]
  rw [kI_nat (n := v) (by omega), kI_nat (n := shN n true v) (by omega), kI_nat (n := shN n false v) (by omega), ev, eo, ei, show kI v + 1 = kI (v + 1) from kI_add v 1]
  have hB := And.intro hqv (And.intro hqo hqi)
  cases qo with
  | none =>
    rw [if_pos (show enc none = -1 from rfl)]
    cases qi with
    | none =>
      rw [if_pos (show enc none = -1 from rfl)]
      exact ⟨qv, rfl, rfl, rfl, fun k h => Or.inl h, fun k h => ⟨k, Nat.le_refl _, h⟩, fun k h => (by cases h), fun k h => (by cases h), hB, ma, same, rfl⟩
    | some b =>
      obtain ⟨q', ma', k1, k2, k3, k4, k5⟩ := cand (F := fun ma => f_X4_findAway_L1 (kI n) f 1 z (kI (v + 1)) ma) ev hR (hqi b rfl).1 (fun k h => (hqv k h).1)
      refine ⟨q', rfl, rfl, rfl, fun k h => ?_, k2, fun k h => (by cases h), fun k h => ?_, hB, ma', k4, k5⟩
      · rcases k1 k h with h | h
        · exact Or.inl h
        · exact Or.inr (Or.inr ⟨b, rfl, h⟩)
      · rw [← Option.some.inj h]; exact k3
  | some a =>
    rw [if_neg (show ¬ enc (some a) = -1 from m1 (hqo a rfl).1)]
    cases qi with
    | none =>
      rw [if_pos (show enc none = -1 from rfl)]
      obtain ⟨q', ma', k1, k2, k3, k4, k5⟩ := cand (F := fun ma => f_X4_findAway_L1 (kI n) f 1 z (kI (v + 1)) ma) ev hR (hqo a rfl).1 (fun k h => (hqv k h).1)
      refine ⟨q', rfl, rfl, rfl, fun k h => ?_, k2, fun k h => ?_, fun k h => (by cases h), hB, ma', k4, k5⟩
      · rcases k1 k h with h | h
        · exact Or.inl h
        · exact Or.inr (Or.inl ⟨a, rfl, h⟩)
      · rw [← Option.some.inj h]; exact k3
    | some b =>
      have ha := (hqo a rfl).1
      have hb := (hqi b rfl).1
      rw [if_neg (show ¬ enc (some b) = -1 from m1 hb)]
      by_cases w : a ≤ b
      · rw [if_pos (show enc (some a) ≤ enc (some b) from (kI_le (by omega) (by omega)).mpr w)]
        obtain ⟨q', ma', k1, k2, k3, k4, k5⟩ := cand (F := fun ma => f_X4_findAway_L1 (kI n) f 1 z (kI (v + 1)) ma) ev hR ha (fun k h => (hqv k h).1)
        refine ⟨q', rfl, rfl, rfl, fun k h => ?_, k2, fun k h => ?_, fun k h => ?_, hB, ma', k4, k5⟩
        · rcases k1 k h with h | h
          · exact Or.inl h
          · exact Or.inr (Or.inl ⟨a, rfl, h⟩)
        · rw [← Option.some.inj h]; exact k3
        · obtain ⟨k0, z1, z2⟩ := k3
          exact ⟨k0, by have := Option.some.inj h; omega, z2⟩
      · rw [if_neg (show ¬ enc (some a) ≤ enc (some b) from kI_leF (by omega) (by omega) (by omega))]
        obtain ⟨q', ma', k1, k2, k3, k4, k5⟩ := cand (F := fun ma => f_X4_findAway_L1 (kI n) f 1 z (kI (v + 1)) ma) ev hR hb (fun k h => (hqv k h).1)
        refine ⟨q', rfl, rfl, rfl, fun k h => ?_, k2, fun k h => ?_, fun k h => ?_, hB, ma', k4, k5⟩
        · rcases k1 k h with h | h
          · exact Or.inl h
          · exact Or.inr (Or.inr ⟨b, rfl, h⟩)
        · obtain ⟨k0, z1, z2⟩ := k3
          exact ⟨k0, by have := Option.some.inj h; omega, z2⟩
        · rw [← Option.some.inj h]; exact k3
theorem enc_some {q : Option Nat} {k' : Nat} {R : Nat} (hq : ∀ k, q = some k → k ≤ R) (hR : R < 1000000) (hk : k' < 1000000) (h : enc q = kI k') : q = some k' :=
  enc_inj (fun k h => by have := hq k h; omega) hk h
theorem fnI (hn : n ≤ 52) {r : Nat} (hr : r < 1000) {z : Int32} : ∀ (d v f R : Nat) (ma : AI), v + d = n → d < f → R + d < 100000 → Sd n x R ma → (∀ j, j < n → Cp n x r ma j) → (∀ j, j < v → Cp n x (r + 1) ma j) → ∃ ma', Sd n x (R + d) ma' ∧ (∀ j, j < n → Cp n x (r + 1) ma' j) ∧ f_X4_findAway_L1 (kI n) f 1 z (kI v) ma = f_X4_findAway_L1 (kI n) (f - (d + 1)) 0 (z + 1) 0 ma'
  | _, _, 0, _, _, _, h, _, _, _, _ => by omega
  | 0, v, f + 1, R, ma, hv, _, _, hS, _, hC => by
    refine ⟨ma, hS, fun j hj => hC j (by omega), ?_⟩
    rw [f_X4_findAway_L1, if_neg n10, if_pos ((kI_le (by omega) (by omega)).mpr (by omega)), Nat.zero_add, Nat.add_sub_cancel]
  | d + 1, v, f + 1, R, ma, hv, hf, hR, hS, hC0, hC => by
    obtain ⟨qv, qo, qi, q', ev, eo, ei, h1, h2, h3, h4, ⟨b1, b2, b3⟩, ma1, hm, e⟩ := relx (x := x) hn (v := v) (by omega) (R := R) (by omega) hS (z := z) f
    have lo := sh_lt true (show v < n by omega)
    have li := sh_lt false (show v < n by omega)
    have hS1 : Sd n x (R + 1) ma1 := fun j hj => by
      rw [hm j]
      by_cases c : j = v
      · rw [if_pos c, c]
        refine ⟨q', rfl, fun k hk => ?_⟩
        rcases h1 k hk with h | ⟨k', h, ek⟩ | ⟨k', h, ek⟩
        · have := b1 k h
          exact ⟨by omega, this.2⟩
        · have := b2 k' h
          rw [ek]
          exact ⟨by omega, true, this.2⟩
        · have := b3 k' h
          rw [ek]
          exact ⟨by omega, false, this.2⟩
      · rw [if_neg c]
        obtain ⟨q, e1, e2⟩ := hS j hj
        exact ⟨q, e1, fun k hk => ⟨by have := (e2 k hk).1; omega, (e2 k hk).2⟩⟩
    have hV : Cp n x (r + 1) ma1 v := fun k hk hrk => by
      rw [hm v, if_pos rfl]
      have fin : ∀ (k2 b : Nat), k2 ≤ b → b ≤ k → q' = some k2 → ∃ k', k' ≤ k ∧ enc q' = kI k' := fun k2 b a1 a2 a3 => ⟨k2, by omega, by rw [a3]; rfl⟩
      match k, hk, hrk, fin with
      | 0, _, hrk, fin =>
        obtain ⟨k', z1, z2⟩ := hC0 v (by omega) 0 (by omega) hrk
        rw [ev] at z2
        obtain ⟨k2, y1, y2⟩ := h2 k' (enc_some (fun k h => (b1 k h).1) (by omega) (by omega) z2)
        exact fin _ _ y1 z1 y2
      | k + 1, hk, ⟨o, hrk⟩, fin =>
        cases o with
        | true =>
          obtain ⟨k', z1, z2⟩ := hC0 _ lo k (by omega) hrk
          rw [eo] at z2
          obtain ⟨k2, y1, y2⟩ := h3 k' (enc_some (fun k h => (b2 k h).1) (by omega) (by omega) z2)
          exact fin _ _ y1 (by omega) y2
        | false =>
          obtain ⟨k', z1, z2⟩ := hC0 _ li k (by omega) hrk
          rw [ei] at z2
          obtain ⟨k2, y1, y2⟩ := h4 k' (enc_some (fun k h => (b3 k h).1) (by omega) (by omega) z2)
          exact fin _ _ y1 (by omega) y2
    have keep : ∀ {r' j : Nat}, j ≠ v → Cp n x r' ma j → Cp n x r' ma1 j := fun {r' j} c h k hk hrk => by
      rw [hm j, if_neg c]
      exact h k hk hrk
    obtain ⟨ma', s1, s2, s3⟩ := fnI hn hr (z := z) d (v + 1) f (R + 1) ma1 (by omega) (by omega) (by omega) hS1 (fun j hj => by
      by_cases c : j = v
      · rw [c]
        exact fun k hk => hV k (by omega)
      · exact keep c (hC0 j hj)) (fun j hj => by
      by_cases c : j = v
      · rw [c]; exact hV
      · exact keep c (hC j (by omega)))
    refine ⟨ma', by rw [show R + (d + 1) = R + 1 + d by omega]; exact s1, s2, ?_⟩
    rw [e, s3, show f + 1 - (d + 1 + 1) = f - (d + 1) by omega]
theorem fnO (hn : n ≤ 52) : ∀ (d r f R : Nat) (y : Int32) (ma : AI), r + d = n → 60 * d < f → R + 52 * d < 100000 → Sd n x R ma → (∀ j, j < n → Cp n x r ma j) → ∃ ma' R', R' < 100000 ∧ Sd n x R' ma' ∧ (∀ j, j < n → Cp n x n ma' j) ∧ f_X4_findAway_L1 (kI n) f 0 (kI r) y ma = some ma'
  | _, _, 0, _, _, _, _, h, _, _, _ => by omega
  | 0, r, f + 1, R, y, ma, hr, _, hR, hS, hC => by
    have e : r = n := by omega
    subst e
    refine ⟨ma, R, by omega, hS, hC, ?_⟩
    rw [f_X4_findAway_L1, if_pos rfl, if_pos ((kI_le (by omega) (by omega)).mpr (by omega))]
  | d + 1, r, f + 1, R, y, ma, hr, hf, hR, hS, hC => by
    obtain ⟨ma1, s1, s2, s3⟩ := fnI (x := x) hn (r := r) (by omega) (z := kI r) n 0 f R ma (by omega) (by omega) (by omega) hS hC (fun j hj => by omega)
    obtain ⟨ma', R', g1, g2, g3, g4⟩ := fnO hn d (r + 1) (f - (n + 1)) (R + n) 0 ma1 (by omega) (by omega) (by omega) s1 s2
    refine ⟨ma', R', g1, g2, g3, ?_⟩
    rw [f_X4_findAway_L1, if_pos rfl, if_neg (kI_leF (by omega) (by omega) (by omega)), show f_X4_findAway_L1 (kI n) f 1 (kI r) 0 ma = _ from s3, show kI r + 1 = kI (r + 1) from kI_add r 1]
    exact g4
theorem fnF (hn : n ≤ 52) : ∀ (d k f : Nat) (ma : AI), k + d = n → d < f → (∀ j, j < k → ma j = if j = x then 0 else -1) → x < n → ∃ ma', (∀ j, j < n → ma' j = if j = x then 0 else -1) ∧ f_X4_findAway_L0 (kI n) (kI x) f (kI k) ma = f_X4_findAway_L1 (kI n) fuel0 0 0 0 ma'
  | _, _, 0, _, _, h, _, _ => by omega
  | 0, k, f + 1, ma, hk, _, hp, _ => by
    refine ⟨ma, fun j hj => hp j (by omega), ?_⟩
    rw [f_X4_findAway_L0, if_pos ((kI_le (by omega) (by omega)).mpr (by omega))]
  | d + 1, k, f + 1, ma, hk, hf, hp, hx => by
    have g : inB (kI k) 52 = true := inBT (by omega) (by decide)
    rw [f_X4_findAway_L0, if_neg (kI_leF (by omega) (by omega) (by omega)), if_kI (by omega) (by omega), if_pos g, if_pos g, kI_nat (by omega), show kI k + 1 = kI (k + 1) from kI_add k 1]
    by_cases c : k = x
    · rw [if_pos c]
      refine fnF hn d (k + 1) f _ (by omega) (by omega) (fun j hj => ?_) hx
      by_cases c2 : j = k
      · rw [c2, upd_at, if_pos c]
      · rw [upd_ne c2, hp j (by omega)]
    · rw [if_neg c]
      refine fnF hn d (k + 1) f _ (by omega) (by omega) (fun j hj => ?_) hx
      by_cases c2 : j = k
      · rw [c2, upd_at, if_neg c]
      · rw [upd_ne c2, hp j (by omega)]
theorem fnE (hn : n ≤ 52) (hx : x < n) (ma : AI) : ∃ ma' R, R < 100000 ∧ Sd n x R ma' ∧ (∀ j, j < n → Cp n x n ma' j) ∧ f_X4_findAway (kI n) (kI x) ma = some ma' := by
  obtain ⟨ma1, h1, h2⟩ := fnF hn n 0 fuel0 ma (by omega) (by unfold fuel0; omega) (fun j hj => by omega) hx
  obtain ⟨ma', R', g1, g2, g3, g4⟩ := fnO (x := x) hn n 0 fuel0 0 0 ma1 (by omega) (by unfold fuel0; omega) (by omega) (fun j hj => by
    rw [h1 j hj]
    by_cases c : j = x
    · exact ⟨some 0, by rw [if_pos c]; rfl, fun k hk => by rw [← Option.some.inj hk]; exact ⟨Nat.le_refl _, c⟩⟩
    · exact ⟨none, by rw [if_neg c]; rfl, fun k hk => by cases hk⟩) (fun j hj k hk hrk => by
    rw [show k = 0 by omega] at hrk
    have : j = x := hrk
    exact ⟨0, Nat.zero_le _, by rw [h1 j hj, if_pos this]; rfl⟩)
  exact ⟨ma', R', g1, g2, g3, by unfold f_X4_findAway; rw [show (0 : Int32) = kI 0 from rfl, h2]; exact g4⟩
/-- the distance of the places on the way -/
theorem dist (hn : n ≤ 52) (hx : x < n) {ma : AI} {R : Nat} (hR : R < 100000) (hS : Sd n x R ma) (hC : ∀ j, j < n → Cp n x n ma j) {i : Nat} (hi : i ≤ bl x) : ma (x >>> (bl x - i)) = kI (bl x - i) := by
  have b := bl2 x (by omega)
  obtain ⟨k', h1, h2⟩ := hC _ (path hx (bl x - i)) (bl x - i) (by omega) (reach_p hx _)
  obtain ⟨q, e, hq⟩ := hS _ (path hx (bl x - i))
  have eq : q = some k' := enc_some (fun k h => (hq k h).1) (by omega) (by omega) (by rw [← e, h2])
  have := (reach_bl hn k' _ (path hx _) (hq k' eq).2).1
  rw [bls x (by omega) i (by omega) hi] at this
  rw [h2, show k' = bl x - i by omega]
theorem brL (hn : n ≤ 52) (hx : x < n) {ma : AI} {R : Nat} (hR : R < 100000) (hS : Sd n x R ma) (hC : ∀ j, j < n → Cp n x n ma j) {A : Nat} (hA : A < bl x) {mf : AI} : ∀ (d i f : Nat) (v : Int32), i + d = A + 1 → d < f → (i = A + 1 → v = kI ((x >>> (bl x - i)) % 2)) → f_X4_brings_L0 (kI n) (kI A) f (kI (x >>> (bl x - i))) v (kI i) mf ma = some (kI ((x >>> (bl x - (A + 1))) % 2), mf, ma)
  | _, _, 0, _, _, h, _ => by omega
  | 0, i, f + 1, v, hi, _, hv => by
    have b := bl2 x (by omega)
    rw [f_X4_brings_L0, if_pos ((kI_lt (by omega) (by omega)).mpr (by omega)), hv (by omega), show i = A + 1 by omega]
  | d + 1, i, f + 1, v, hi, hf, _ => by
    have b := bl2 x (by omega)
    obtain ⟨c, hc⟩ : ∃ c, x >>> (bl x - i) = c := ⟨_, rfl⟩
    have hcn : c < n := by rw [← hc]; exact path hx _
    have hup := shUp (i := bl x - (i + 1)) hx
    rw [show bl x - (i + 1) + 1 = bl x - i by omega, hc] at hup
    have lo := sh_lt true hcn
    have go : inB (kI (shN n true c)) 52 = true := inBT (by omega) (by decide)
    have gc : inB (kI c) 52 = true := inBT (by omega) (by decide)
    have so : f_X4_comesTo (kI n) 0 (kI c) = some (kI (shN n true c)) := shE 0 hn hcn
    have si : f_X4_comesTo (kI n) 1 (kI c) = some (kI (shN n false c)) := shE 1 hn hcn
    have dc : ma c = kI (bl x - i) := by rw [← hc]; exact dist hn hx hR hS hC (by omega)
    have dn : ma (x >>> (bl x - (i + 1))) = kI (bl x - (i + 1)) := dist hn hx hR hS hC (by omega)
    have e1 : kI (bl x - i) - 1 = kI (bl x - i - 1) := kI_sub (b := 1) (by omega)
    rw [hc, f_X4_brings_L0, if_neg (kI_ltF (by omega) (by omega) (by omega)), bsm so, if_pos go, bsm so, bsm si, if_pos gc, kI_nat (by omega), kI_nat (by omega), dc, e1, show kI i + 1 = kI (i + 1) from kI_add i 1]
    by_cases q : (x >>> (bl x - (i + 1))) % 2 = 0
    · rw [decide_eq_true q] at hup
      rw [hup, dn, if_neg (kI_m1 (by omega)), if_pos (by rw [show bl x - (i + 1) = bl x - i - 1 by omega])]
      exact brL hn hx hR hS hC hA d (i + 1) f 0 (by omega) (by omega) (fun _ => by rw [q]; rfl)
    · rw [decide_eq_false q] at hup
      have rest : f_X4_brings_L0 (kI n) (kI A) f (kI (shN n false c)) 1 (kI (i + 1)) mf ma = some (kI ((x >>> (bl x - (A + 1))) % 2), mf, ma) := by
        rw [hup]
        exact brL hn hx hR hS hC hA d (i + 1) f 1 (by omega) (by omega) (fun _ => by rw [show (x >>> (bl x - (i + 1))) % 2 = 1 by omega]; rfl)
      have hne : ¬ ma (shN n true c) = kI (bl x - i - 1) := fun he => by
        obtain ⟨w, e, hw⟩ := hS _ lo
        have ew : w = some (bl x - i - 1) := enc_some (fun k h => (hw k h).1) (by omega) (by omega) (by rw [← e, he])
        have hb := reach_bl hn _ _ lo (hw _ ew).2
        have c2 : x >>> (bl x - (i + 1)) = 2 * c + 1 := by
          have h9 : x >>> (bl x - i) = (x >>> (bl x - (i + 1))) / 2 := by rw [← Nat.shiftRight_succ, show bl x - (i + 1) + 1 = bl x - i by omega]
          rw [hc] at h9
          omega
        have h10 := path hx (bl x - (i + 1))
        have ct : shN n true c = 2 * c := by
          unfold shN
          rw [if_pos rfl, if_neg (by omega)]
        have bc : bl c = i := by rw [← hc]; exact bls x (by omega) i (by omega) (by omega)
        rw [ct] at hb
        have b9 := bl2 c (by omega)
        by_cases z : c = 0
        · rw [z] at hb bc
          have b0 : bl 0 = 0 := rfl
          rw [show 2 * 0 = 0 from rfl, b0] at hb
          omega
        · have h11 := b9.2.2.1 (by omega)
          have := hb.2 (by omega)
          rw [show bl x - i - 1 = bl x - (i + 1) by omega] at this
          omega
      by_cases m : ma (shN n true c) = -1
      · rw [if_pos m]
        exact rest
      · rw [if_neg m, if_neg hne]
        exact rest
end BRG
theorem bl0 : ∀ x, x < 52 → x >>> bl x = 0 := by decide +kernel
theorem m1le (a : Int32) : ((-1 : Int32) ≤ a) ↔ -1 ≤ a.toInt := by
  rw [Int32.le_iff_toInt_le]
  rfl
theorem s_brings {rf mf : AI} (hr : RF rf mf) (a0 a1 a2 : Int32) (ma : AI) : TN (f_X3_brings a0 a1 a2 rf) (f_X4_brings a0 a1 a2 mf ma) := by
  unfold f_X3_brings f_X4_brings
  rcases pck a0 with ⟨n, h2, hn, rfl, e1, e2⟩ | ⟨e1, e2⟩
  rotate_left
  · rw [bsm e1, bsm e2, if_pos rfl, if_pos rfl]
    exact TNr hr 0 (by decide) rfl
  have e64 : (kI n - 1).toInt64 = Int64.ofNat (n - 1) := by
    rw [show kI n - 1 = kI (n - 1) from kI_sub (b := 1) (by omega)]
    exact Int64.toInt_inj.mp (by rw [Int32.toInt_toInt64, kI_toInt (by omega), Int64.toInt_ofNat_of_lt (by omega)])
  have e32 : kI n - 1 = kI (n - 1) := kI_sub (b := 1) (by omega)
  rw [bsm e1, bsm e2, if_neg one_ne, if_neg one_ne, e64, e32]
  rcases btw a1 (lo := 0) (hi := n - 1) (by omega) (by omega) with ⟨x, x1, x2, x3, rfl, e3, e4⟩ | ⟨e3, e4⟩
  rotate_left
  · rw [bsm (show f_X3_isBetween a1 0 (kI (n - 1)) = _ from e3), bsm (show f_X4_in a1.toInt64 0 (Int64.ofNat (n - 1)) = _ from e4), if_pos rfl, if_pos rfl]
    exact TNr hr 0 (by decide) rfl
  rw [bsm (show f_X3_isBetween (kI x) 0 (kI (n - 1)) = _ from e3), bsm (show f_X4_in (kI x).toInt64 0 (Int64.ofNat (n - 1)) = _ from e4), if_neg one_ne, if_neg one_ne]
  by_cases c : (-1 : Int32) ≤ a2
  rotate_left
  · rw [if_neg c, if_neg c]
    exact TNr hr 0 (by decide) rfl
  have hx : x < n := by omega
  have b := bl2 x (by omega)
  obtain ⟨ma', R, hR, hS, hC, e5⟩ := fnE hn hx ma
  have d0 := dist hn hx hR hS hC (i := 0) (by omega)
  rw [Nat.sub_zero, bl0 x (by omega)] at d0
  have g0 : inB 0 52 = true := inBT (a := 0) (by decide) (by decide)
  rw [if_pos c, if_pos c, bsm (blD x (by omega)), bsm e5]
  simp only [g0, ↓reduceIte]
  rw [z0, d0]
  by_cases c2 : a2 = -1
  · rw [if_pos c2, if_pos c2]
    exact ⟨_, _, _, _, rfl, rfl, hr⟩
  rw [if_neg c2, if_neg c2, if_neg (kI_m1 (by omega))]
  have c3 := (m1le a2).mp c
  have c4 : a2.toInt ≠ -1 := fun h => c2 (Int32.toInt_inj.mp (by rw [h]; rfl))
  obtain ⟨A, hA, rfl⟩ := kI_of (x := a2) (by omega)
  rw [if_kIle (by omega) hA, if_kIlt hA (by omega)]
  by_cases q : bl x ≤ A
  · rw [if_pos q, if_neg (by omega)]
    exact TNr hr 3 (by decide) rfl
  · have L := brL (mf := mf) hn hx hR hS hC (A := A) (by omega) (A + 1) 0 fuel0 0 (by omega) (by unfold fuel0; omega) (fun h => by omega)
    rw [Nat.sub_zero, bl0 x (by omega)] at L
    rw [if_neg q, if_pos (by omega), show f_X4_brings_L0 (kI n) (kI A) fuel0 0 0 0 mf ma' = _ from L, i1, kI_sub (by omega), kI_sub (by omega), kI_sar (by omega) (by omega), kI_and, Nat.and_one_is_mod, show bl x - 1 - A = bl x - (A + 1) by omega]
    exact ⟨_, _, _, _, rfl, rfl, hr⟩
