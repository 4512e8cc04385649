/-! ===== the other ways of a shop ===== -/
theorem fillL {v : Int32} {N : Nat} (hN : N ≤ 1000) : ∀ (d k n : Nat) (f : AI), k + d = N → d < n → ∃ f', f_J7_fill_53178_L0 v (kI N) N n (kI k) f = some f' ∧ ∀ j, f' j = if k ≤ j ∧ j < N then v else f j
  | _, _, 0, _, _, h => by omega
  | 0, k, n + 1, f, hk, _ => by
    refine ⟨f, ?_, fun j => ?_⟩
    · rw [f_J7_fill_53178_L0, if_pos ((kI_le (by omega) (by omega)).mpr (by omega))]
    · rw [if_neg (by omega)]
  | d + 1, k, n + 1, f, hk, hd => by
    obtain ⟨f', e, h⟩ := fillL hN d (k + 1) n (upd f k v) (by omega) (by omega)
    refine ⟨f', ?_, fun j => ?_⟩
    · rw [f_J7_fill_53178_L0, if_neg (fun c => by have := (kI_le (by omega) (by omega)).mp c; omega), if_pos (inBT (by omega) (by omega)), kI_nat (by omega), i1, kI_add]
      exact e
    · rw [h j]
      by_cases c : k + 1 ≤ j ∧ j < N
      · rw [if_pos c, if_pos (by omega)]
      · rw [if_neg c]
        by_cases c2 : j = k
        · rw [c2, upd_at, if_pos (by omega)]
        · rw [upd_ne c2, if_neg (by omega)]
theorem fillA (v : Int32) {N : Nat} (hN : N ≤ 1000) (f : AI) : ∃ f', f_J7_fill_53178 v N f = some f' ∧ ∀ j, f' j = if j < N then v else f j := by
  obtain ⟨f', e, h⟩ := fillL (v := v) hN N 0 fuel0 f (by omega) (by unfold fuel0; omega)
  refine ⟨f', e, fun j => ?_⟩
  rw [h j]
  by_cases c : j < N
  · rw [if_pos ⟨Nat.zero_le _, c⟩, if_pos c]
  · rw [if_neg (by omega), if_neg c]
theorem copL {N : Nat} (hN : N ≤ 1000) {fa : AI} : ∀ (d k n : Nat) (f : AI), k + d = N → d < n → ∃ f', f_X4_copied_L0 N fa n (kI k) f = some f' ∧ ∀ j, f' j = if k ≤ j ∧ j < N then fa j else f j
  | _, _, 0, _, _, h => by omega
  | 0, k, n + 1, f, hk, _ => by
    refine ⟨f, ?_, fun j => ?_⟩
    · rw [f_X4_copied_L0, if_pos (show Int32.ofNat N ≤ kI k from (kI_le (a := N) (by omega) (by omega)).mpr (by omega))]
    · rw [if_neg (by omega)]
  | d + 1, k, n + 1, f, hk, hd => by
    obtain ⟨f', e, h⟩ := copL hN (fa := fa) d (k + 1) n (upd f k (fa k)) (by omega) (by omega)
    refine ⟨f', ?_, fun j => ?_⟩
    · rw [f_X4_copied_L0, if_neg (show ¬ Int32.ofNat N ≤ kI k from fun c => by have := (kI_le (a := N) (by omega) (by omega)).mp c; omega), if_pos (inBT (by omega) (by omega)), if_pos (inBT (by omega) (by omega)), kI_nat (by omega), i1, kI_add]
      exact e
    · rw [h j]
      by_cases c : k + 1 ≤ j ∧ j < N
      · rw [if_pos c, if_pos (by omega)]
      · rw [if_neg c]
        by_cases c2 : j = k
        · rw [c2, upd_at, if_pos (by omega)]
        · rw [upd_ne c2, if_neg (by omega)]
theorem copA {N : Nat} (hN : N ≤ 1000) (fa f : AI) : ∃ f', f_X4_copied N fa f = some f' ∧ ∀ j, f' j = if j < N then fa j else f j := by
  obtain ⟨f', e, h⟩ := copL hN (fa := fa) N 0 fuel0 f (by omega) (by unfold fuel0; omega)
  refine ⟨f', e, fun j => ?_⟩
  rw [h j]
  by_cases c : j < N
  · rw [if_pos ⟨Nat.zero_le _, c⟩, if_pos c]
  · rw [if_neg (by omega), if_neg c]
section ABO
variable {s m : ShT} {p : Nat} {ln ct la : Nat → Nat} {L : Nat} {kd am : Nat → Nat} {fc B : Nat} {tu se : Int32}
theorem X1_become (R : Rs s p ln ct la L kd am fc tu se) (h16 : p ≤ 16) (h6 : L ≤ 6) (t : ShT) : ∃ t', f_X1_become t s = some t' ∧ Rs t' p ln ct la L kd am fc tu se := by
  have g1 : cpB 0 0 16 16 16 = true := by decide
  have g2 : cpB 0 0 6 6 6 = true := by decide
  refine ⟨(va_cpy s.1 t.1 0 0 16, va_cpy s.2.1 t.2.1 0 0 16, va_cpy s.2.2.1 t.2.2.1 0 0 16, va_cpy s.2.2.2.1 t.2.2.2.1 0 0 6, va_cpy s.2.2.2.2.1 t.2.2.2.2.1 0 0 6, s.2.2.2.2.2), ?_, R.pE, R.LE, R.fE, R.tE, R.sE, fun j hj => ⟨?_, ?_, ?_⟩, fun j hj => ⟨?_, ?_⟩⟩
  · unfold f_X1_become
    simp only [g1, g2, ↓reduceIte]
    rfl
  · show va_cpy s.1 t.1 0 0 16 j = _
    unfold va_cpy
    rw [if_pos (by omega), show 0 + (j - 0) = j by omega, R.lE hj]
  · show va_cpy s.2.1 t.2.1 0 0 16 j = _
    unfold va_cpy
    rw [if_pos (by omega), show 0 + (j - 0) = j by omega, R.cE hj]
  · show va_cpy s.2.2.1 t.2.2.1 0 0 16 j = _
    unfold va_cpy
    rw [if_pos (by omega), show 0 + (j - 0) = j by omega, R.aE hj]
  · show va_cpy s.2.2.2.1 t.2.2.2.1 0 0 6 j = _
    unfold va_cpy
    rw [if_pos (by omega), show 0 + (j - 0) = j by omega, R.kE hj]
  · show va_cpy s.2.2.2.2.1 t.2.2.2.2.1 0 0 6 j = _
    unfold va_cpy
    rw [if_pos (by omega), show 0 + (j - 0) = j by omega, R.mE hj]
theorem M4_takeFrom (R : Rs s p ln ct la L kd am fc tu se) (h16 : p ≤ 16) (h6 : L ≤ 6) (t : ShT) : ∃ t', f_X4_takeFrom t s = some t' ∧ Rs t' p ln ct la L kd am fc tu se := by
  obtain ⟨f1, e1, q1⟩ := copA (N := 16) (by decide) s.1 t.1
  obtain ⟨f2, e2, q2⟩ := copA (N := 16) (by decide) s.2.1 t.2.1
  obtain ⟨f3, e3, q3⟩ := copA (N := 16) (by decide) s.2.2.1 t.2.2.1
  obtain ⟨f4, e4, q4⟩ := copA (N := 6) (by decide) s.2.2.2.1 t.2.2.2.1
  obtain ⟨f5, e5, q5⟩ := copA (N := 6) (by decide) s.2.2.2.2.1 t.2.2.2.2.1
  refine ⟨(f1, f2, f3, f4, f5, s.2.2.2.2.2), ?_, R.pE, R.LE, R.fE, R.tE, R.sE, fun j hj => ⟨?_, ?_, ?_⟩, fun j hj => ⟨?_, ?_⟩⟩
  · unfold f_X4_takeFrom
    rw [bsm e1, bsm e2, bsm e3, bsm e4, bsm e5]
  · show f1 j = _
    rw [q1 j, if_pos (by omega), R.lE hj]
  · show f2 j = _
    rw [q2 j, if_pos (by omega), R.cE hj]
  · show f3 j = _
    rw [q3 j, if_pos (by omega), R.aE hj]
  · show f4 j = _
    rw [q4 j, if_pos (by omega), R.kE hj]
  · show f5 j = _
    rw [q5 j, if_pos (by omega), R.mE hj]
theorem X1_add (R : Rs s p ln ct la L kd am fc tu se) (h16 : p < 16) : ∃ s', f_X1_add s = some (kI p, s') ∧ Rs s' (p + 1) (tup ln p p) (tup ct p 0) (tup la p 1) L kd am fc tu se := by
  have g : inB (kI p) 16 = true := inBT (by omega) (by decide)
  refine ⟨(upd s.1 p (kI p), upd s.2.1 p 0, upd s.2.2.1 p 1, s.2.2.2.1, s.2.2.2.2.1, kI (p + 1), s.2.2.2.2.2.2), ?_, rfl, R.LE, R.fE, R.tE, R.sE, fun j hj => ?_, fun j hj => ⟨R.kE hj, R.mE hj⟩⟩
  · unfold f_X1_add
    rw [bsm (show f_X1_hasRoom s = some 1 by
      unfold f_X1_hasRoom
      rw [R.pE, if_neg (fun c => by have := (kI_le (a := 16) (by omega) (by omega)).mp c; omega)]), if_neg one_ne, R.pE, if_pos g, if_pos g, if_pos g, kI_nat (by omega)]
    rw [show kI p + 1 = kI (p + 1) from kI_add p 1]
  · show upd s.1 p (kI p) j = kI (tup ln p p j) ∧ upd s.2.1 p 0 j = kI (tup ct p 0 j) ∧ upd s.2.2.1 p 1 j = kI (tup la p 1 j)
    unfold tup
    by_cases c : j = p
    · rw [c, upd_at, upd_at, upd_at, if_pos rfl, if_pos rfl, if_pos rfl]
      exact ⟨rfl, rfl, rfl⟩
    · rw [upd_ne c, upd_ne c, upd_ne c, if_neg c, if_neg c, if_neg c]
      exact ⟨R.lE (by omega), R.cE (by omega), R.aE (by omega)⟩
theorem M4_addPerson (R : Rs s p ln ct la L kd am fc tu se) (h16 : p < 16) : ∃ s', f_X4_addPerson s = some s' ∧ Rs s' (p + 1) (tup ln p p) (tup ct p 0) (tup la p 1) L kd am fc tu se := by
  have g : inB (kI p) 16 = true := inBT (by omega) (by decide)
  refine ⟨(upd s.1 p (kI p), upd s.2.1 p 0, upd s.2.2.1 p 1, s.2.2.2.1, s.2.2.2.2.1, kI (p + 1), s.2.2.2.2.2.2), ?_, rfl, R.LE, R.fE, R.tE, R.sE, fun j hj => ?_, fun j hj => ⟨R.kE hj, R.mE hj⟩⟩
  · unfold f_X4_addPerson
    rw [R.pE, if_pos g, if_pos g, if_pos g, kI_nat (by omega)]
    rw [show kI p + 1 = kI (p + 1) from kI_add p 1]
  · show upd s.1 p (kI p) j = kI (tup ln p p j) ∧ upd s.2.1 p 0 j = kI (tup ct p 0 j) ∧ upd s.2.2.1 p 1 j = kI (tup la p 1 j)
    unfold tup
    by_cases c : j = p
    · rw [c, upd_at, upd_at, upd_at, if_pos rfl, if_pos rfl, if_pos rfl]
      exact ⟨rfl, rfl, rfl⟩
    · rw [upd_ne c, upd_ne c, upd_ne c, if_neg c, if_neg c, if_neg c]
      exact ⟨R.lE (by omega), R.cE (by omega), R.aE (by omega)⟩
theorem V_add (v : Vs p ln ct la L kd am fc B) (h16 : p < 16) : Vs (p + 1) (tup ln p p) (tup ct p 0) (tup la p 1) L kd am fc B := by
  obtain ⟨v1, v2, v3, v4, v8, v5, v6, v7⟩ := v
  refine ⟨h16, v2, fun j hj => ?_, fun i j hi hj hij => ?_, fun y hy => ?_, v5, v6, v7⟩
  · unfold tup
    by_cases c : j = p
    · rw [if_pos c, if_pos c, if_pos c]
      omega
    · rw [if_neg c, if_neg c, if_neg c]
      have := v3 j (by omega)
      omega
  · unfold tup at hij
    by_cases c1 : i = p <;> by_cases c2 : j = p
    · omega
    · rw [if_pos c1, if_neg c2] at hij
      have := (v3 j (by omega)).1
      omega
    · rw [if_neg c1, if_pos c2] at hij
      have := (v3 i (by omega)).1
      omega
    · rw [if_neg c1, if_neg c2] at hij
      exact v4 i j (by omega) (by omega) hij
  · by_cases c : y = p
    · exact ⟨p, by omega, by unfold tup; rw [if_pos rfl, c]⟩
    · obtain ⟨j, hj, e⟩ := v8 y (by omega)
      exact ⟨j, by omega, by unfold tup; rw [if_neg (by omega), e]⟩
theorem X1_addLaw (R : Rs s p ln ct la L kd am fc tu se) (h6 : L < 6) (k a : Nat) : ∃ s', f_X1_addLaw (kI k) (kI a) s = some (kI L, s') ∧ Rs s' p ln ct la (L + 1) (tup kd L k) (tup am L a) fc tu se := by
  have g : inB (kI L) 6 = true := inBT (by omega) (by decide)
  refine ⟨(s.1, s.2.1, s.2.2.1, upd s.2.2.2.1 L (kI k), upd s.2.2.2.2.1 L (kI a), s.2.2.2.2.2.1, kI (L + 1), s.2.2.2.2.2.2.2), ?_, R.pE, rfl, R.fE, R.tE, R.sE, fun j hj => ⟨R.lE hj, R.cE hj, R.aE hj⟩, fun j hj => ?_⟩
  · unfold f_X1_addLaw
    rw [bsm (show f_X1_hasRoomForLaw s = some 1 by
      unfold f_X1_hasRoomForLaw
      rw [R.LE, if_neg (fun c => by have := (kI_le (a := 6) (by omega) (by omega)).mp c; omega)]), if_neg one_ne, R.LE, if_pos g, if_pos g, kI_nat (by omega)]
    rw [show kI L + 1 = kI (L + 1) from kI_add L 1]
  · show upd s.2.2.2.1 L (kI k) j = kI (tup kd L k j) ∧ upd s.2.2.2.2.1 L (kI a) j = kI (tup am L a j)
    unfold tup
    by_cases c : j = L
    · rw [c, upd_at, upd_at, if_pos rfl, if_pos rfl]
      exact ⟨rfl, rfl⟩
    · rw [upd_ne c, upd_ne c, if_neg c, if_neg c]
      exact ⟨R.kE (by omega), R.mE (by omega)⟩
theorem M4_addLaw (R : Rs s p ln ct la L kd am fc tu se) (h6 : L < 6) (k a : Nat) : ∃ s', f_X4_addLaw (kI k) (kI a) s = some s' ∧ Rs s' p ln ct la (L + 1) (tup kd L k) (tup am L a) fc tu se := by
  have g : inB (kI L) 6 = true := inBT (by omega) (by decide)
  refine ⟨(s.1, s.2.1, s.2.2.1, upd s.2.2.2.1 L (kI k), upd s.2.2.2.2.1 L (kI a), s.2.2.2.2.2.1, kI (L + 1), s.2.2.2.2.2.2.2), ?_, R.pE, rfl, R.fE, R.tE, R.sE, fun j hj => ⟨R.lE hj, R.cE hj, R.aE hj⟩, fun j hj => ?_⟩
  · unfold f_X4_addLaw
    rw [R.LE, if_pos g, if_pos g, kI_nat (by omega)]
    rw [show kI L + 1 = kI (L + 1) from kI_add L 1]
  · show upd s.2.2.2.1 L (kI k) j = kI (tup kd L k j) ∧ upd s.2.2.2.2.1 L (kI a) j = kI (tup am L a j)
    unfold tup
    by_cases c : j = L
    · rw [c, upd_at, upd_at, if_pos rfl, if_pos rfl]
      exact ⟨rfl, rfl⟩
    · rw [upd_ne c, upd_ne c, if_neg c, if_neg c]
      exact ⟨R.kE (by omega), R.mE (by omega)⟩
theorem V_addLaw (v : Vs p ln ct la L kd am fc B) (h6 : L < 6) {k a : Nat} (hk : k ≤ 5) (ha : a ≤ 15) : Vs p ln ct la (L + 1) (tup kd L k) (tup am L a) fc B := by
  obtain ⟨v1, v2, v3, v4, v8, v5, v6, v7⟩ := v
  refine ⟨v1, h6, v3, v4, v8, fun j hj => ?_, by omega, v7⟩
  unfold tup
  by_cases c : j = L
  · rw [if_pos c, if_pos c]
    exact ⟨hk, ha⟩
  · rw [if_neg c, if_neg c]
    exact v5 j (by omega)
def swn (f : Nat → Nat) (a : Nat) : Nat → Nat := fun t => if t = a then f (a + 1) else if t = a + 1 then f a else f t
theorem X1_letBefore (R : Rs s p ln ct la L kd am fc tu se) (h16 : p ≤ 16) {a : Nat} (ha : a + 1 < p) : ∃ s', f_X1_letBefore (kI a) s = some (kI (ln (a + 1)), s') ∧ Rs s' p (swn ln a) ct la L kd am fc tu se := by
  refine ⟨(upd (upd s.1 (a + 1) (s.1 a)) a (s.1 (a + 1)), s.2), ?_, R.pE, R.LE, R.fE, R.tE, R.sE, fun j hj => ⟨?_, R.cE hj, R.aE hj⟩, fun j hj => ⟨R.kE hj, R.mE hj⟩⟩
  · unfold f_X1_letBefore
    rw [bsm (X1_hasPlace R h16 (by omega)), if_neg one_ne, i1, kI_add, bsm (X1_hasPlace R h16 ha), if_neg one_ne, if_pos (inBT (by omega) (by decide)), if_pos (inBT (by omega) (by decide)), if_pos (inBT (by omega) (by decide)), if_pos (inBT (by omega) (by decide)), kI_nat (by omega), kI_nat (by omega), R.lE ha]
  · show upd (upd s.1 (a + 1) (s.1 a)) a (s.1 (a + 1)) j = kI (swn ln a j)
    unfold swn
    by_cases c1 : j = a
    · rw [c1, upd_at, if_pos rfl, R.lE ha]
    · rw [upd_ne c1, if_neg c1]
      by_cases c2 : j = a + 1
      · rw [c2, upd_at, if_pos rfl, R.lE (by omega)]
      · rw [upd_ne c2, if_neg c2, R.lE hj]
theorem M4_letting (R : Rs s p ln ct la L kd am fc tu se) (h16 : p ≤ 16) {a : Nat} (ha : a + 1 < p) : ∃ s', f_X4_lettingAt (kI a) s = some s' ∧ s'.1 a = kI (ln (a + 1)) ∧ Rs s' p (swn ln a) ct la L kd am fc tu se := by
  refine ⟨_, M4_lettingAt (by omega), ?_, R.pE, R.LE, R.fE, R.tE, R.sE, fun j hj => ⟨?_, R.cE hj, R.aE hj⟩, fun j hj => ⟨R.kE hj, R.mE hj⟩⟩
  · show swp s.1 a a = _
    unfold swp
    rw [if_pos rfl, R.lE ha]
  · show swp s.1 a j = kI (swn ln a j)
    unfold swn swp
    by_cases c1 : j = a
    · rw [if_pos c1, if_pos c1, R.lE ha]
    · rw [if_neg c1, if_neg c1]
      by_cases c2 : j = a + 1
      · rw [if_pos c2, if_pos c2, R.lE (by omega)]
      · rw [if_neg c2, if_neg c2, R.lE hj]
theorem V_let (v : Vs p ln ct la L kd am fc B) {a : Nat} (ha : a + 1 < p) : Vs p (swn ln a) ct la L kd am fc B := by
  have h := V_move v (j := a) (q := a + 1) (by omega) ha
  have e : swn ln a = fun t => ln (mg a (a + 1) t) := by
    funext t
    unfold swn mg
    by_cases c1 : t = a
    · rw [if_pos c1, if_neg (by omega), if_neg (by omega), if_pos (by omega), c1]
    · rw [if_neg c1]
      by_cases c2 : t = a + 1
      · rw [if_pos c2, if_pos c2]
      · rw [if_neg c2, if_neg c2, if_neg (by omega), if_neg (by omega)]
  rw [e]
  exact h
theorem R_drop (R : Rs s p ln ct la L kd am fc tu se) (hp : 0 < p) : Rs (s.1, s.2.1, s.2.2.1, s.2.2.2.1, s.2.2.2.2.1, kI (p - 1), s.2.2.2.2.2.2.1, s.2.2.2.2.2.2.2.1, s.2.2.2.2.2.2.2.2.1, s.2.2.2.2.2.2.2.2.2) (p - 1) ln ct la L kd am fc tu se :=
  ⟨rfl, R.LE, R.fE, R.tE, R.sE, fun j hj => ⟨R.lE (by omega), R.cE (by omega), R.aE (by omega)⟩, fun j hj => ⟨R.kE hj, R.mE hj⟩⟩
theorem V_drop (v : Vs p ln ct la L kd am fc B) (hp : 0 < p) (hl : ln (p - 1) = p - 1) : Vs (p - 1) ln ct la L kd am fc B := by
  obtain ⟨v1, v2, v3, v4, v8, v5, v6, v7⟩ := v
  refine ⟨by omega, v2, fun j hj => ⟨?_, (v3 j (by omega)).2⟩, fun i j hi hj hij => v4 i j (by omega) (by omega) hij, fun y hy => ?_, v5, v6, v7⟩
  · have h1 := (v3 j (by omega)).1
    by_cases c : ln j = p - 1
    · have := v4 j (p - 1) (by omega) (by omega) (by omega)
      omega
    · omega
  · obtain ⟨j, hj, e⟩ := v8 y (by omega)
    refine ⟨j, ?_, e⟩
    by_cases c : j = p - 1
    · rw [c, hl] at e
      omega
    · omega
theorem X1_startAnew (R : Rs s p ln ct la L kd am fc tu se) (h16 : p ≤ 16) : ∃ s', f_X1_startAnew s = some s' ∧ Rs s' p ln (fun _ => 0) (fun _ => 1) L kd am fc 0 se := by
  obtain ⟨f1, e1, q1⟩ := fillA 0 (N := 16) (by decide) s.2.1
  obtain ⟨f2, e2, q2⟩ := fillA 1 (N := 16) (by decide) s.2.2.1
  refine ⟨(s.1, f1, f2, s.2.2.2.1, s.2.2.2.2.1, s.2.2.2.2.2.1, s.2.2.2.2.2.2.1, s.2.2.2.2.2.2.2.1, 0, s.2.2.2.2.2.2.2.2.2), ?_, R.pE, R.LE, R.fE, rfl, R.sE, fun j hj => ⟨R.lE hj, ?_, ?_⟩, fun j hj => ⟨R.kE hj, R.mE hj⟩⟩
  · unfold f_X1_startAnew
    rw [bsm e1, bsm e2]
  · show f1 j = _
    rw [q1 j, if_pos (by omega)]
    rfl
  · show f2 j = _
    rw [q2 j, if_pos (by omega)]
    rfl
theorem M4_begL : ∀ (d k n : Nat) (S : ShT), S.2.2.2.2.2.1 = kI p → p ≤ 16 → k + d = p → d < n → ∃ S', f_X4_beginsAnew_L0 n (kI k) S = some S' ∧ S'.1 = S.1 ∧ S'.2.2.2 = (S.2.2.2.1, S.2.2.2.2.1, S.2.2.2.2.2.1, S.2.2.2.2.2.2.1, S.2.2.2.2.2.2.2.1, 0, S.2.2.2.2.2.2.2.2.2) ∧ ∀ j, (S'.2.1 j = if k ≤ j ∧ j < p then 0 else S.2.1 j) ∧ S'.2.2.1 j = if k ≤ j ∧ j < p then 1 else S.2.2.1 j
  | _, _, 0, _, _, _, _, h => by omega
  | 0, k, n + 1, S, hP, h16, hk, _ => by
    refine ⟨(S.1, S.2.1, S.2.2.1, S.2.2.2.1, S.2.2.2.2.1, S.2.2.2.2.2.1, S.2.2.2.2.2.2.1, S.2.2.2.2.2.2.2.1, 0, S.2.2.2.2.2.2.2.2.2), ?_, rfl, rfl, fun j => ⟨?_, ?_⟩⟩
    · rw [f_X4_beginsAnew_L0, if_pos (by rw [hP]; exact (kI_le (by omega) (by omega)).mpr (by omega))]
    · rw [if_neg (by omega)]
    · rw [if_neg (by omega)]
  | d + 1, k, n + 1, S, hP, h16, hk, hd => by
    obtain ⟨S', e, h1, h2, h3⟩ := M4_begL d (k + 1) n (S.1, upd S.2.1 k 0, upd S.2.2.1 k 1, S.2.2.2) hP h16 (by omega) (by omega)
    refine ⟨S', ?_, h1, h2, fun j => ⟨?_, ?_⟩⟩
    · rw [f_X4_beginsAnew_L0, if_neg (by rw [hP]; exact fun c => by have := (kI_le (by omega) (by omega)).mp c; omega), if_pos (inBT (by omega) (by decide)), if_pos (inBT (by omega) (by decide)), kI_nat (by omega), show kI k + 1 = kI (k + 1) from kI_add k 1]
      exact e
    · rw [(h3 j).1]
      show (if k + 1 ≤ j ∧ j < p then 0 else upd S.2.1 k 0 j) = _
      by_cases c : k + 1 ≤ j ∧ j < p
      · rw [if_pos c, if_pos (by omega)]
      · rw [if_neg c]
        by_cases c2 : j = k
        · rw [c2, upd_at, if_pos (by omega)]
        · rw [upd_ne c2, if_neg (by omega)]
    · rw [(h3 j).2]
      show (if k + 1 ≤ j ∧ j < p then 1 else upd S.2.2.1 k 1 j) = _
      by_cases c : k + 1 ≤ j ∧ j < p
      · rw [if_pos c, if_pos (by omega)]
      · rw [if_neg c]
        by_cases c2 : j = k
        · rw [c2, upd_at, if_pos (by omega)]
        · rw [upd_ne c2, if_neg (by omega)]
theorem M4_beginsAnew (R : Rs s p ln ct la L kd am fc tu se) (h16 : p ≤ 16) : ∃ s', f_X4_beginsAnew s = some s' ∧ Rs s' p ln (fun _ => 0) (fun _ => 1) L kd am fc 0 se := by
  obtain ⟨S', e, h1, h2, h3⟩ := M4_begL (p := p) p 0 fuel0 s R.pE h16 (by omega) (by unfold fuel0; omega)
  refine ⟨S', e, ?_, ?_, ?_, ?_, ?_, fun j hj => ⟨?_, ?_, ?_⟩, fun j hj => ⟨?_, ?_⟩⟩
  · rw [h2]; exact R.pE
  · rw [h2]; exact R.LE
  · rw [h2]; exact R.fE
  · rw [h2]
  · rw [h2]; exact R.sE
  · rw [h1]; exact R.lE hj
  · rw [(h3 j).1, if_pos ⟨Nat.zero_le _, hj⟩]; rfl
  · rw [(h3 j).2, if_pos ⟨Nat.zero_le _, hj⟩]; rfl
  · rw [h2]; exact R.kE hj
  · rw [h2]; exact R.mE hj
theorem V_anew (v : Vs p ln ct la L kd am fc B) : Vs p ln (fun _ => 0) (fun _ => 1) L kd am fc 0 := by
  obtain ⟨v1, v2, v3, v4, v8, v5, v6, v7⟩ := v
  exact ⟨v1, v2, fun j hj => ⟨(v3 j hj).1, Nat.le_refl _, Nat.le_refl _, by show 1 ≤ 99; omega⟩, v4, v8, v5, v6, by omega⟩
theorem R_force (R : Rs s p ln ct la L kd am fc tu se) (f : Nat) : Rs (s.1, s.2.1, s.2.2.1, s.2.2.2.1, s.2.2.2.2.1, s.2.2.2.2.2.1, s.2.2.2.2.2.2.1, kI f, s.2.2.2.2.2.2.2.2.1, s.2.2.2.2.2.2.2.2.2) p ln ct la L kd am f tu se :=
  ⟨R.pE, R.LE, rfl, R.tE, R.sE, fun j hj => ⟨R.lE hj, R.cE hj, R.aE hj⟩, fun j hj => ⟨R.kE hj, R.mE hj⟩⟩
theorem V_force (v : Vs p ln ct la L kd am fc B) {f : Nat} (hf : f < L) : Vs p ln ct la L kd am f B := by
  obtain ⟨v1, v2, v3, v4, v8, v5, v6, v7⟩ := v
  exact ⟨v1, v2, v3, v4, v8, v5, Or.inl hf, v7⟩
end ABO
section JO
variable {s m : ShT} {p L B : Nat}
theorem J.become (h : J p L B s m) (t x : ShT) : ∃ t' x', f_X1_become t s = some t' ∧ f_X4_takeFrom x m = some x' ∧ J p L B t' x' := by
  obtain ⟨ln, ct, la, kd, am, fc, tu, se, R, R', v⟩ := h
  obtain ⟨t', e, r⟩ := X1_become R v.1 v.2.1 t
  obtain ⟨x', e', r'⟩ := M4_takeFrom R' v.1 v.2.1 x
  exact ⟨t', x', e, e', _, _, _, _, _, _, _, _, r, r', v⟩
theorem J.fresh (h : J p L B s m) (t : ShT) (tb : Bool) (x : ShT) (f : AI) : ∃ t' x' f', f_X1_become t s = some t' ∧ f_X4_fresh m tb x f = some (x', f') ∧ J p L B t' x' := by
  cases tb with
  | true =>
    obtain ⟨t', x', e, e', j⟩ := h.become t x
    exact ⟨t', x', f, e, by unfold f_X4_fresh; rw [if_pos rfl, bsm e'], j⟩
  | false =>
    obtain ⟨t', x', e, e', j⟩ := h.become t nSh
    exact ⟨t', x', zI, e, by unfold f_X4_fresh; rw [if_neg (by decide), bsm e'], j⟩
theorem J.add (h : J p L B s m) (hp : p < 16) : ∃ s' m', f_X1_add s = some (kI p, s') ∧ f_X4_addPerson m = some m' ∧ J (p + 1) L B s' m' := by
  obtain ⟨ln, ct, la, kd, am, fc, tu, se, R, R', v⟩ := h
  obtain ⟨s', e, r⟩ := X1_add R hp
  obtain ⟨m', e', r'⟩ := M4_addPerson R' hp
  exact ⟨s', m', e, e', _, _, _, _, _, _, _, _, r, r', V_add v hp⟩
theorem J.addLaw (h : J p L B s m) (hL : L < 6) {k a : Nat} (hk : k ≤ 5) (ha : a ≤ 15) : ∃ s' m', f_X1_addLaw (kI k) (kI a) s = some (kI L, s') ∧ f_X4_addLaw (kI k) (kI a) m = some m' ∧ J p (L + 1) B s' m' := by
  obtain ⟨ln, ct, la, kd, am, fc, tu, se, R, R', v⟩ := h
  obtain ⟨s', e, r⟩ := X1_addLaw R hL k a
  obtain ⟨m', e', r'⟩ := M4_addLaw R' hL k a
  exact ⟨s', m', e, e', _, _, _, _, _, _, _, _, r, r', V_addLaw v hL hk ha⟩
theorem J.letb (h : J p L B s m) {a : Nat} (ha : a + 1 < p) : ∃ s' m' x, x < p ∧ f_X1_letBefore (kI a) s = some (kI x, s') ∧ f_X4_lettingAt (kI a) m = some m' ∧ m'.1 a = kI x ∧ J p L B s' m' := by
  obtain ⟨ln, ct, la, kd, am, fc, tu, se, R, R', v⟩ := h
  obtain ⟨s', e, r⟩ := X1_letBefore R v.1 ha
  obtain ⟨m', e', h1, r'⟩ := M4_letting R' v.1 ha
  exact ⟨s', m', _, (v.2.2.1 _ ha).1, e, e', h1, _, _, _, _, _, _, _, _, r, r', V_let v ha⟩
theorem J.leave (h : J p L B s m) (hp : 0 < p) : ∃ s' m', f_X1_removeLast s = some s' ∧ f_X4_lastLeaves m = some m' ∧ J (p - 1) L B s' m' := by
  obtain ⟨ln, ct, la, kd, am, fc, tu, se, R, R', v⟩ := h
  have h16 := v.1
  obtain ⟨j, hj, ej⟩ := v.2.2.2.2.1 (p - 1) (by omega)
  obtain ⟨s', e, r⟩ := X1_move R v hj (q := p - 1) (by omega)
  obtain ⟨m', e', r'⟩ := M4_movesTo R' v hj (q := p - 1) (by omega)
  rw [ej] at e e'
  have v' := V_move v hj (q := p - 1) (by omega)
  have hl : ln (mg j (p - 1) (p - 1)) = p - 1 := by unfold mg; rw [if_pos rfl, ej]
  refine ⟨_, _, ?_, ?_, _, _, _, _, _, _, _, _, R_drop r hp, R_drop r' hp, V_drop v' hp hl⟩
  · unfold f_X1_removeLast
    rw [bsm (show f_X1_isEmpty s = some 0 by
      unfold f_X1_isEmpty
      rw [R.pE, i1, if_pos ((kI_le (by omega) (by omega)).mpr (by omega))]), if_pos rfl, R.pE, show kI p - 1 = kI (p - 1) from kI_sub (b := 1) (by omega), bsm e, r.pE, show kI p - 1 = kI (p - 1) from kI_sub (b := 1) (by omega)]
  · unfold f_X4_lastLeaves
    rw [R'.pE, show kI p - 1 = kI (p - 1) from kI_sub (b := 1) (by omega), bsm e', r'.pE, show kI p - 1 = kI (p - 1) from kI_sub (b := 1) (by omega)]
theorem J.anew (h : J p L B s m) : ∃ s' m', f_X1_startAnew s = some s' ∧ f_X4_beginsAnew m = some m' ∧ J p L 0 s' m' := by
  obtain ⟨ln, ct, la, kd, am, fc, tu, se, R, R', v⟩ := h
  obtain ⟨s', e, r⟩ := X1_startAnew R v.1
  obtain ⟨m', e', r'⟩ := M4_beginsAnew R' v.1
  exact ⟨s', m', e, e', _, _, _, _, _, _, _, _, r, r', V_anew v⟩
theorem J.force (h : J p L B s m) {f : Nat} (hf : f < L) : J p L B (s.1, s.2.1, s.2.2.1, s.2.2.2.1, s.2.2.2.2.1, s.2.2.2.2.2.1, s.2.2.2.2.2.2.1, kI f, s.2.2.2.2.2.2.2.2.1, s.2.2.2.2.2.2.2.2.2) (m.1, m.2.1, m.2.2.1, m.2.2.2.1, m.2.2.2.2.1, m.2.2.2.2.2.1, m.2.2.2.2.2.2.1, kI f, m.2.2.2.2.2.2.2.2.1, m.2.2.2.2.2.2.2.2.2) := by
  obtain ⟨ln, ct, la, kd, am, fc, tu, se, R, R', v⟩ := h
  exact ⟨_, _, _, _, _, _, _, _, R_force R f, R_force R' f, V_force v hf⟩
theorem J.turns : ∀ (d k n n' : Nat) {B : Nat} {s m : ShT}, J p L B s m → 0 < p → 0 < L → d < n → d < n' → k + d < 100000 → B + d < 1000000000 → ∃ s' m', f_X1_turnTimes_L0 (kI (k + d)) n (kI k) s = some s' ∧ f_X4_goes_L0 (kI (k + d)) n' (kI k) m = some m' ∧ J p L (B + d) s' m'
  | _, _, 0, _, _, _, _, _, _, _, h, _, _, _ => by omega
  | _, _, _, 0, _, _, _, _, _, _, _, h, _, _ => by omega
  | 0, k, n + 1, n' + 1, _, s, m, h, _, _, _, _, hk, _ => by
    refine ⟨s, m, ?_, ?_, h⟩
    · rw [f_X1_turnTimes_L0, if_pos ((kI_le (by omega) (by omega)).mpr (by omega))]
    · rw [f_X4_goes_L0, if_pos ((kI_le (by omega) (by omega)).mpr (by omega))]
  | d + 1, k, n + 1, n' + 1, B, s, m, h, hp, hL, hn, hn', hk, hB => by
    obtain ⟨s1, m1, x, -, -, -, e, e', j⟩ := h.turn hp hL (by omega)
    obtain ⟨s', m', f, f', j'⟩ := J.turns d (k + 1) n n' j hp hL (by omega) (by omega) (by omega) (by omega)
    rw [show k + 1 + d = k + (d + 1) by omega] at f f'
    rw [show B + 1 + d = B + (d + 1) by omega] at j'
    refine ⟨s', m', ?_, ?_, j'⟩
    · rw [f_X1_turnTimes_L0, if_neg (fun c => by have := (kI_le (by omega) (by omega)).mp c; omega), bsm e, show kI k + 1 = kI (k + 1) from kI_add k 1]
      exact f
    · rw [f_X4_goes_L0, if_neg (fun c => by have := (kI_le (by omega) (by omega)).mp c; omega), bsm e', show kI k + 1 = kI (k + 1) from kI_add k 1]
      exact f'
theorem J.goes (h : J p L B s m) (hp : 0 < p) (hL : 0 < L) {n : Nat} (hn : n ≤ 999) (hB : B + n < 1000000000) : ∃ s' m', f_X1_turnTimes (kI n) s = some s' ∧ f_X4_goes (kI n) m = some m' ∧ J p L (B + n) s' m' := by
  obtain ⟨s', m', e, e', j⟩ := J.turns n 0 fuel0 fuel0 h hp hL (by unfold fuel0; omega) (by unfold fuel0; omega) (by omega) hB
  rw [Nat.zero_add] at e e'
  exact ⟨s', m', e, e', j⟩
end JO
