/-! ===== places, moves ===== -/
section ABM
variable {s m : ShT} {p : Nat} {ln ct la : Nat → Nat} {L : Nat} {kd am : Nat → Nat} {fc B : Nat} {tu se : Int32}
theorem X1_placeOfL (R : Rs s p ln ct la L kd am fc tu se) (v : Vs p ln ct la L kd am fc B) {j : Nat} (hj : j < p) : ∀ (d k n : Nat), k + d = j → d < n → f_X1_placeOf_L0 (kI (ln j)) s n (kI k) = some (kI j)
  | _, _, 0, _, h => by omega
  | 0, k, n + 1, hk, _ => by
    have e : k = j := by omega
    have h16 := v.1
    subst e
    rw [f_X1_placeOf_L0, R.pE, if_neg (by rw [kI_le (by omega) (by omega)]; omega), if_pos (inBT (by omega) (by decide)), kI_nat (by omega), R.lE hj, if_pos rfl]
  | d + 1, k, n + 1, hk, hd => by
    have h16 := v.1
    have hl := (v.2.2.1 j hj).1
    have hl2 := (v.2.2.1 k (by omega)).1
    rw [f_X1_placeOf_L0, R.pE, if_neg (by rw [kI_le (by omega) (by omega)]; omega), if_pos (inBT (by omega) (by decide)), kI_nat (by omega), R.lE (by omega), if_neg (by
      rw [kI_eq (by omega) (by omega)]
      intro c
      have := v.2.2.2.1 k j (by omega) hj c
      omega), i1, kI_add]
    exact X1_placeOfL R v hj d (k + 1) n (by omega) (by omega)
theorem M4_placeOfL (R : Rs s p ln ct la L kd am fc tu se) (v : Vs p ln ct la L kd am fc B) {j : Nat} (hj : j < p) : ∀ (d k n : Nat), k + d = j → d < n → f_X4_placeOf_L0 (kI (ln j)) s n (kI k) = some (kI j)
  | _, _, 0, _, h => by omega
  | 0, k, n + 1, hk, _ => by
    have e : k = j := by omega
    have h16 := v.1
    subst e
    rw [f_X4_placeOf_L0, if_pos (inBT (by omega) (by decide)), kI_nat (by omega), R.lE hj, if_pos rfl]
  | d + 1, k, n + 1, hk, hd => by
    have h16 := v.1
    have hl := (v.2.2.1 j hj).1
    have hl2 := (v.2.2.1 k (by omega)).1
    rw [f_X4_placeOf_L0, if_pos (inBT (by omega) (by decide)), kI_nat (by omega), R.lE (by omega), if_neg (by
      rw [kI_eq (by omega) (by omega)]
      intro c
      have := v.2.2.2.1 k j (by omega) hj c
      omega), i1, kI_add]
    exact M4_placeOfL R v hj d (k + 1) n (by omega) (by omega)
theorem X1_placeOf (R : Rs s p ln ct la L kd am fc tu se) (v : Vs p ln ct la L kd am fc B) {j : Nat} (hj : j < p) : f_X1_placeOf (kI (ln j)) s = some (kI j) := by
  unfold f_X1_placeOf
  have := v.1
  exact X1_placeOfL R v hj j 0 fuel0 (by omega) (by unfold fuel0; omega)
theorem M4_placeOf (R : Rs s p ln ct la L kd am fc tu se) (v : Vs p ln ct la L kd am fc B) {j : Nat} (hj : j < p) : f_X4_placeOf (kI (ln j)) s = some (kI j) := by
  unfold f_X4_placeOf
  have := v.1
  exact M4_placeOfL R v hj j 0 fuel0 (by omega) (by unfold fuel0; omega)
def mg (j q t : Nat) : Nat := if t = q then j else if q ≤ j then (if q < t ∧ t ≤ j then t - 1 else t) else (if j ≤ t ∧ t < q then t + 1 else t)
theorem X1_move (R : Rs s p ln ct la L kd am fc tu se) (v : Vs p ln ct la L kd am fc B) {j q : Nat} (hj : j < p) (hq : q < p) : ∃ s', f_X1_move (kI (ln j)) (kI q) s = some s' ∧ Rs s' p (fun t => ln (mg j q t)) ct la L kd am fc tu se := by
  have h16 := v.1
  unfold f_X1_move
  rw [bsm (X1_placeOf R v hj), if_neg (kI_m1 (by omega)), bsm (X1_hasPlace R v.1 hq), if_neg one_ne, if_kIle (by omega) (by omega)]
  by_cases c : q ≤ j
  · refine ⟨(upd (va_cpy s.1 s.1 q (q + 1) (j - q)) q (kI (ln j)), s.2), ?_, R.pE, R.LE, R.fE, R.tE, R.sE, fun t ht => ⟨?_, R.cE ht, R.aE ht⟩, fun t ht => ⟨R.kE ht, R.mE ht⟩⟩
    · rw [if_pos c, i1, kI_add, kI_sub c, if_pos (cpBT (by omega) (by omega) (by decide) (by decide)), if_pos (inBT (by omega) (by decide)), kI_nat (by omega), kI_nat (by omega), kI_nat (by omega)]
    · show upd (va_cpy s.1 s.1 q (q + 1) (j - q)) q (kI (ln j)) t = kI (ln (mg j q t))
      unfold mg
      by_cases c1 : t = q
      · rw [c1, upd_at, if_pos rfl]
      · rw [upd_ne c1, if_neg c1, if_pos c]
        unfold va_cpy
        by_cases c2 : q < t ∧ t ≤ j
        · rw [if_pos (by omega), if_pos c2, show q + (t - (q + 1)) = t - 1 by omega, R.lE (by omega)]
        · rw [if_neg (by omega), if_neg c2, R.lE ht]
  · refine ⟨(upd (va_cpy s.1 s.1 (j + 1) j (q - j)) q (kI (ln j)), s.2), ?_, R.pE, R.LE, R.fE, R.tE, R.sE, fun t ht => ⟨?_, R.cE ht, R.aE ht⟩, fun t ht => ⟨R.kE ht, R.mE ht⟩⟩
    · rw [if_neg c, i1, kI_add, kI_sub (by omega), if_pos (cpBT (by omega) (by omega) (by decide) (by decide)), if_pos (inBT (by omega) (by decide)), kI_nat (by omega), kI_nat (by omega), kI_nat (by omega), kI_nat (by omega)]
    · show upd (va_cpy s.1 s.1 (j + 1) j (q - j)) q (kI (ln j)) t = kI (ln (mg j q t))
      unfold mg
      by_cases c1 : t = q
      · rw [c1, upd_at, if_pos rfl]
      · rw [upd_ne c1, if_neg c1, if_neg c]
        unfold va_cpy
        by_cases c2 : j ≤ t ∧ t < q
        · rw [if_pos (by omega), if_pos c2, show j + 1 + (t - j) = t + 1 by omega, R.lE (by omega)]
        · rw [if_neg (by omega), if_neg c2, R.lE ht]
/-- two that stand one behind the other change -/
def swp (f : Nat → Int32) (a : Nat) : Nat → Int32 := fun t => if t = a then f (a + 1) else if t = a + 1 then f a else f t
theorem M4_lettingAt {a : Nat} (ha : a + 1 < 16) : f_X4_lettingAt (kI a) s = some (swp s.1 a, s.2) := by
  unfold f_X4_lettingAt
  rw [i1, kI_add, if_pos (inBT (by omega) (by decide)), if_pos (inBT (by omega) (by decide)), if_pos (inBT (by omega) (by decide)), if_pos (inBT (by omega) (by decide)), kI_nat (by omega), kI_nat (by omega)]
  refine congrArg some (Prod.ext (funext fun t => ?_) rfl)
  show upd (upd s.1 a (s.1 (a + 1))) (a + 1) (s.1 a) t = swp s.1 a t
  unfold swp
  by_cases c1 : t = a + 1
  · rw [c1, upd_at, if_neg (by omega), if_pos rfl]
  · rw [upd_ne c1]
    by_cases c2 : t = a
    · rw [c2, upd_at, if_pos rfl]
    · rw [upd_ne c2, if_neg c2, if_neg c1]
theorem kI_dec {k : Nat} : kI (k + 1) + (-1) = kI k := by
  have h : kI (k + 1) = kI k + kI 1 := (kI_add k 1).symm
  rw [h, Int32.add_assoc]
  show kI k + (kI 1 + -1) = kI k
  rw [show kI 1 + (-1 : Int32) = 0 by decide, Int32.add_zero]
theorem M4_movesL1 {q : Nat} (hq : q < 16) : ∀ (d k n : Nat) (S : ShT), q + d = k → k < 16 → d < n → ∃ S', f_X4_movesTo_L1 (kI q) n (kI k) S = some S' ∧ S'.2 = S.2 ∧ ∀ t, S'.1 t = if t = q then S.1 k else if q < t ∧ t ≤ k then S.1 (t - 1) else S.1 t
  | _, _, 0, _, _, _, h => by omega
  | 0, k, n + 1, S, hk, hk16, _ => by
    refine ⟨S, ?_, rfl, fun t => ?_⟩
    · rw [f_X4_movesTo_L1, if_pos ((kI_le (by omega) (by omega)).mpr (by omega))]
    · by_cases c : t = q
      · rw [if_pos c, c, show k = q by omega]
      · rw [if_neg c, if_neg (by omega)]
  | d + 1, k + 1, n + 1, S, hk, hk16, hd => by
    obtain ⟨S', e, h2, h1⟩ := M4_movesL1 hq d k n (swp S.1 k, S.2) (by omega) (by omega) (by omega)
    refine ⟨S', ?_, h2, fun t => ?_⟩
    · rw [f_X4_movesTo_L1, if_neg (fun c => by have := (kI_le (by omega) (by omega)).mp c; omega), kI_dec, bsm (M4_lettingAt (by omega))]
      exact e
    · rw [h1 t]
      show (if t = q then swp S.1 k k else if q < t ∧ t ≤ k then swp S.1 k (t - 1) else swp S.1 k t) = _
      unfold swp
      by_cases c1 : t = q
      · rw [if_pos c1, if_pos c1, if_pos rfl]
      · rw [if_neg c1, if_neg c1]
        by_cases c2 : q < t ∧ t ≤ k
        · rw [if_pos c2, if_neg (by omega), if_neg (by omega), if_pos (by omega)]
        · rw [if_neg c2]
          by_cases c3 : t = k + 1
          · rw [if_neg (by omega), if_pos c3, if_pos (by omega), c3]
            rfl
          · rw [if_neg (by omega), if_neg c3, if_neg (by omega)]
  | d + 1, 0, _, _, hk, _, _ => by omega
theorem M4_movesL0 {q : Nat} (hq : q < 16) : ∀ (d k n : Nat) (S : ShT), k + d = q → d < n → ∃ S', f_X4_movesTo_L0 (kI q) n (kI k) S = some S' ∧ S'.2 = S.2 ∧ ∀ t, S'.1 t = if t = q then S.1 k else if k ≤ t ∧ t < q then S.1 (t + 1) else S.1 t
  | _, _, 0, _, _, h => by omega
  | 0, k, n + 1, S, hk, _ => by
    obtain ⟨S', e, h2, h1⟩ := M4_movesL1 hq 0 k fuel0 S (by omega) (by omega) (by unfold fuel0; omega)
    refine ⟨S', ?_, h2, fun t => ?_⟩
    · rw [f_X4_movesTo_L0, if_pos ((kI_le (by omega) (by omega)).mpr (by omega))]
      exact e
    · rw [h1 t]
      by_cases c : t = q
      · rw [if_pos c, if_pos c]
      · rw [if_neg c, if_neg c, if_neg (by omega), if_neg (by omega)]
  | d + 1, k, n + 1, S, hk, hd => by
    obtain ⟨S', e, h2, h1⟩ := M4_movesL0 hq d (k + 1) n (swp S.1 k, S.2) (by omega) (by omega)
    refine ⟨S', ?_, h2, fun t => ?_⟩
    · rw [f_X4_movesTo_L0, if_neg (fun c => by have := (kI_le (by omega) (by omega)).mp c; omega), bsm (M4_lettingAt (by omega)), i1, kI_add]
      exact e
    · rw [h1 t]
      show (if t = q then swp S.1 k (k + 1) else if k + 1 ≤ t ∧ t < q then swp S.1 k (t + 1) else swp S.1 k t) = _
      unfold swp
      by_cases c1 : t = q
      · rw [if_pos c1, if_pos c1, if_neg (by omega), if_pos rfl]
      · rw [if_neg c1, if_neg c1]
        by_cases c2 : k + 1 ≤ t ∧ t < q
        · rw [if_pos c2, if_neg (by omega), if_neg (by omega), if_pos (by omega)]
        · rw [if_neg c2]
          by_cases c3 : t = k
          · rw [if_pos c3, if_pos (by omega), c3]
          · rw [if_neg c3, if_neg (by omega), if_neg (by omega)]
theorem M4_movesL0b {q : Nat} (hq : q < 16) {k : Nat} (hk : k < 16) (S : ShT) : ∃ S', f_X4_movesTo_L0 (kI q) fuel0 (kI k) S = some S' ∧ S'.2 = S.2 ∧ ∀ t, S'.1 t = S.1 (mg k q t) := by
  by_cases c : q ≤ k
  · obtain ⟨S', e, h2, h1⟩ := M4_movesL1 hq (k - q) k fuel0 S (by omega) hk (by unfold fuel0; omega)
    refine ⟨S', ?_, h2, fun t => ?_⟩
    · rw [show fuel0 = 4999 + 1 from rfl, f_X4_movesTo_L0, if_pos ((kI_le (by omega) (by omega)).mpr c)]
      exact e
    · rw [h1 t]
      unfold mg
      by_cases c1 : t = q
      · rw [if_pos c1, if_pos c1]
      · rw [if_neg c1, if_neg c1, if_pos c]
        by_cases c2 : q < t ∧ t ≤ k
        · rw [if_pos c2, if_pos c2]
        · rw [if_neg c2, if_neg c2]
  · obtain ⟨S', e, h2, h1⟩ := M4_movesL0 hq (q - k) k fuel0 S (by omega) (by unfold fuel0; omega)
    refine ⟨S', e, h2, fun t => ?_⟩
    rw [h1 t]
    unfold mg
    by_cases c1 : t = q
    · rw [if_pos c1, if_pos c1]
    · rw [if_neg c1, if_neg c1, if_neg c]
      by_cases c2 : k ≤ t ∧ t < q
      · rw [if_pos c2, if_pos c2]
      · rw [if_neg c2, if_neg c2]
theorem mg_lt {j q t : Nat} (hj : j < p) (hq : q < p) (ht : t < p) : mg j q t < p := by
  unfold mg
  repeat' split
  all_goals omega
theorem M4_movesTo (R : Rs s p ln ct la L kd am fc tu se) (v : Vs p ln ct la L kd am fc B) {j q : Nat} (hj : j < p) (hq : q < p) : ∃ s', f_X4_movesTo (kI (ln j)) (kI q) s = some s' ∧ Rs s' p (fun t => ln (mg j q t)) ct la L kd am fc tu se := by
  have h16 := v.1
  obtain ⟨S', e, h2, h1⟩ := M4_movesL0b (q := q) (by omega) (k := j) (by omega) s
  refine ⟨S', ?_, ?_⟩
  · unfold f_X4_movesTo
    rw [bsm (M4_placeOf R v hj)]
    exact e
  · refine ⟨by rw [h2]; exact R.pE, by rw [h2]; exact R.LE, by rw [h2]; exact R.fE, by rw [h2]; exact R.tE, by rw [h2]; exact R.sE, fun t ht => ⟨?_, by rw [h2]; exact R.cE ht, by rw [h2]; exact R.aE ht⟩, fun t ht => ⟨by rw [h2]; exact R.kE ht, by rw [h2]; exact R.mE ht⟩⟩
    rw [h1 t, R.lE (mg_lt hj hq ht)]
theorem V_move (v : Vs p ln ct la L kd am fc B) {j q : Nat} (hj : j < p) (hq : q < p) : Vs p (fun t => ln (mg j q t)) ct la L kd am fc B := by
  obtain ⟨v1, v2, v3, v4, v8, v5, v6, v7⟩ := v
  refine ⟨v1, v2, fun t ht => ⟨(v3 _ (mg_lt hj hq ht)).1, (v3 t ht).2⟩, fun a b ha hb hab => ?_, fun y hy => ?_, v5, v6, v7⟩
  · have h := v4 _ _ (mg_lt hj hq ha) (mg_lt hj hq hb) hab
    unfold mg at h
    repeat' split at h
    all_goals omega
  · obtain ⟨t, ht, e⟩ := v8 y hy
    by_cases c0 : t = j
    · refine ⟨q, hq, ?_⟩
      show ln (mg j q q) = y
      rw [show mg j q q = j by unfold mg; rw [if_pos rfl], ← c0, e]
    · by_cases c : q ≤ j
      · by_cases c1 : q ≤ t ∧ t < j
        · refine ⟨t + 1, by omega, ?_⟩
          show ln (mg j q (t + 1)) = y
          rw [show mg j q (t + 1) = t by unfold mg; rw [if_neg (by omega), if_pos c, if_pos (by omega)]; omega, e]
        · refine ⟨t, ht, ?_⟩
          show ln (mg j q t) = y
          rw [show mg j q t = t by unfold mg; rw [if_neg (by omega), if_pos c, if_neg (by omega)], e]
      · by_cases c1 : j < t ∧ t ≤ q
        · refine ⟨t - 1, by omega, ?_⟩
          show ln (mg j q (t - 1)) = y
          rw [show mg j q (t - 1) = t by unfold mg; rw [if_neg (by omega), if_neg c, if_pos (by omega)]; omega, e]
        · refine ⟨t, ht, ?_⟩
          show ln (mg j q t) = y
          rw [show mg j q t = t by unfold mg; rw [if_neg (by omega), if_neg c, if_neg (by omega)], e]
end ABM
section JM
variable {s m : ShT} {p L B : Nat}
theorem J.move (h : J p L B s m) {x q : Nat} (hx : x < p) (hq : q < p) : ∃ s' m', f_X1_move (kI x) (kI q) s = some s' ∧ f_X4_movesTo (kI x) (kI q) m = some m' ∧ J p L B s' m' := by
  obtain ⟨ln, ct, la, kd, am, fc, tu, se, R, R', v⟩ := h
  obtain ⟨j, hj, e⟩ := v.2.2.2.2.1 x hx
  subst e
  obtain ⟨s', e, r⟩ := X1_move R v hj hq
  obtain ⟨m', e', r'⟩ := M4_movesTo R' v hj hq
  exact ⟨s', m', e, e', _, _, _, kd, am, fc, tu, se, r, r', V_move v hj hq⟩
theorem J.place (h : J p L B s m) {x : Nat} (hx : x < p) : ∃ j, j < p ∧ f_X1_placeOf (kI x) s = some (kI j) ∧ f_X4_placeOf (kI x) m = some (kI j) := by
  obtain ⟨ln, ct, la, kd, am, fc, tu, se, R, R', v⟩ := h
  obtain ⟨j, hj, e⟩ := v.2.2.2.2.1 x hx
  subst e
  exact ⟨j, hj, X1_placeOf R v hj, M4_placeOf R' v hj⟩
end JM
