/-! ===== shelves: what they say, copies, the image ===== -/
theorem undT : ∀ a, a < 6 → ∀ b, b < 6 → f_X3_isUnder (kI a) (kI b) = f_X4_isUnder (kI a) (kI b) ∧ (f_X4_isUnder (kI a) (kI b)).isSome = true := by decide +kernel
section SHW
variable {L : Nat} {sl : Nat → SlT} {sv : SvT} {rf mf : AI}
theorem T1s' (hr : RF rf mf) {r r' : Int32} (e : r = r') : T1 (some (r, rf)) (some (r', mf)) := by
  subst e
  exact T1s hr
theorem saysA {tr sp : ShT} {p B : Nat} (hJ : J p L B tr sp) (hr : RF rf mf) {w k : Nat} (hw : w < L) (hk : k ≤ 5) : T1
    (if kI k = 0 then (f_X1_amountOf (kI w) tr).bind fun r1016 => some (r1016, rf)
     else if kI k = 3 then (f_X1_lastThen (kI w) tr).bind fun r1018 => some (r1018, rf)
     else (f_X1_stepsBack (kI w) tr).bind fun r1019 => some (r1019, rf))
    (if kI k = 0 then if inB (kI w) 6 then some ((sp.2.2.2.2.1 (kI w).toNatClampNeg), mf) else none
     else if sp.2.2.2.2.2.1 = 0 then some ((-1), mf)
     else if inB 0 16 then
       if kI k = 3 then (f_X4_lastBy (kI w) (sp.1 (0 : Int32).toNatClampNeg) sp).bind fun r1026 => some (r1026, mf)
       else if inB (sp.1 (0 : Int32).toNatClampNeg) 16 then (f_X4_backBy (kI w) (sp.1 (0 : Int32).toNatClampNeg) ((sp.2.1 (sp.1 (0 : Int32).toNatClampNeg).toNatClampNeg) + 1) sp).bind fun r1028 => some (r1028, mf) else none
     else none) := by
  have h6 := hJ.l6
  have h16 := hJ.p16
  have hF := hJ.lawF hw
  have g : inB (kI w) 6 = true := inBT (by omega) (by decide)
  have g0 : inB 0 16 = true := inBT (a := 0) (by decide) (by decide)
  obtain ⟨kk, aa, hkk, haa, k1, k2, a1, a2⟩ := hJ.lawE hw
  by_cases c0 : kI k = 0
  · rw [if_pos c0, if_pos c0]
    unfold f_X1_amountOf
    rw [bsm hF, if_neg one_ne, if_pos g, if_pos g, kI_nat (by omega), a1, a2]
    exact T1s hr
  · rw [if_neg c0, if_neg c0]
    rcases hJ.empt with ⟨hp, e6, e7⟩ | ⟨hp, e6, e7⟩
    · rw [if_neg e7, if_pos g0, z0]
      obtain ⟨ln, ct, la, kd, am, fc, tu, se, R, R', v⟩ := hJ
      have hx := v.2.2.1 0 hp
      have hxx := v.2.2.1 _ hx.1
      have hf := v.2.2.2.2.2.1 w hw
      have hB9 := v.2.2.2.2.2.2.2
      rw [R'.lE hp]
      by_cases c3 : kI k = 3
      · rw [if_pos c3, if_pos c3, bsm (X1_lastThen R v hp hw), bsm (M4_lastBy (p := p) (k := kd w) (l := la (ln 0)) R'.pE (R'.kE hw) (R'.aE hx.1) hp h16 (by omega) (by omega) (by omega) (by omega))]
        exact T1s hr
      · have g2 : inB (kI (ln 0)) 16 = true := inBT (by omega) (by decide)
        rw [if_neg c3, if_neg c3, if_pos g2, kI_nat (by omega), R'.cE hx.1, i1, kI_add, bsm (X1_stepsBack R v hp hw), bsm (M4_backBy (p := p) (k := kd w) (a := am w) (l := la (ln 0)) R'.pE (R'.kE hw) (R'.mE hw) (R'.aE hx.1) hp h16 (by omega) (by omega) (by omega) (by omega) (by omega) (by omega))]
        exact T1s hr
    · rw [if_pos e7]
      subst hp
      have hn : ∀ x, f_X1_hasPerson x tr = some 0 := fun x => by
        rcases hJ.per x with ⟨q, hq, _⟩ | ⟨e, _⟩
        · omega
        · exact e
      unfold f_X1_lastThen f_X1_stepsBack
      simp only [g0, hn, Option.bind_some, ↓reduceIte]
      by_cases c3 : kI k = 3
      · rw [if_pos c3]; exact T1s hr
      · rw [if_neg c3]; exact T1s hr
theorem s_says {tr sp : ShT} {p B : Nat} (hJ : J p L B tr sp) (h : SL L sl sv) (hr : RF rf mf) (a0 a1 : Int32) : T1 (f_X3_says a0 a1 tr sl rf) (f_X4_says a0 a1 sp sv mf) := by
  obtain ⟨n1, n2, n3, n4, n5, n6⟩ := neT
  have h6 := hJ.l6
  unfold f_X3_says f_X4_says f_X3_isKind f_X0_holdsRow f_X0_holdsLaw
  rcases shf a0 with ⟨a, ha, rfl, e1, e2⟩ | ⟨e1, e2⟩
  rotate_left
  · rw [bsm e1, bsm e2, if_pos rfl, if_pos rfl]
    exact T1r hr 0 (by decide) rfl
  have g : inB (kI a) 8 = true := inBT ha (by decide)
  rw [bsm e1, bsm e2, if_neg one_ne, if_neg one_ne]
  rcases b_0_5 a1 with ⟨k, -, hk, rfl, e1, e2⟩ | ⟨e1, e2⟩
  rotate_left
  · rw [bsm e1, if_pos z01_0, bsm e2, Option.bind_some, if_pos rfl, if_pos rfl]
    exact T1r hr 0 (by decide) rfl
  rw [bsm e1, if_pos z01_1, bsm e2, Option.bind_some, if_neg one_ne, if_neg one_ne]
  simp only [g, ↓reduceIte]
  rw [kI_nat (by omega)]
  rcases h a ha with ⟨x, s1, s2, s3⟩ | ⟨x, t, z, ht, hz, s1, s2, s3, s4, s5, s6⟩ | ⟨x, w, hw, hw6, s1, s2, s3, s4⟩
  · rw [x, if_neg n5, if_neg n4, if_pos rfl]
    simp only [s1, s2, ↓reduceIte, Option.bind_some]
    exact T1r hr 2 (by decide) rfl
  · rw [x, if_pos rfl, s1, if_neg (kI_m1 (by omega)), Option.bind_some, if_neg one_ne]
    exact T1r hr 1 (by decide) rfl
  · have gw : inB (kI w) 6 = true := inBT hw6 (by decide)
    obtain ⟨kk, aa, hkk, haa, k1, k2, a1, a2⟩ := hJ.lawE hw
    obtain ⟨u1, u2⟩ := undT kk (by omega) k (by omega)
    obtain ⟨r, er⟩ := Option.isSome_iff_exists.mp u2
    have S := saysA hJ hr hw hk
    unfold f_X1_kindOf
    simp only [x, s1, s2, s4, if_neg n2, if_neg n1, if_neg (kI_m1 (n := w) (by omega)), if_neg one_ne, ↓reduceIte, Option.bind_some, bsm (hJ.lawF hw), gw, kI_nat (n := w) (by omega), k1, k2, bsm er, bsm (u1.trans er)]
    by_cases c : r = 0
    · rw [if_pos c, if_pos c]
      exact T1r hr 1 (by decide) rfl
    · rw [if_neg c, if_neg c]
      simp only [gw, ↓reduceIte, kI_nat (n := w) (by omega)] at S
      exact S
/-! copies -/
theorem X0_row0 {u : SlT} (e : u.2.1 = -1) : f_X0_holdsRow u = some 0 := by unfold f_X0_holdsRow; rw [if_pos e]
theorem X0_row1 {u : SlT} {t : Nat} (ht : t < 100) (e : u.2.1 = kI t) : f_X0_holdsRow u = some 1 := by unfold f_X0_holdsRow; rw [e, if_neg (kI_m1 (by omega))]
theorem X0_law0 {u : SlT} (e : u.2.2.1 = -1) : f_X0_holdsLaw u = some 0 := by unfold f_X0_holdsLaw; rw [if_pos e]
theorem X0_law1 {u : SlT} {t : Nat} (ht : t < 100) (e : u.2.2.1 = kI t) : f_X0_holdsLaw u = some 1 := by unfold f_X0_holdsLaw; rw [e, if_neg (kI_m1 (by omega))]
theorem cpyB {b jj n : Nat} {cnt : Int32} (hb : b < 8) (hn : n ≤ 40) (hj : jj + n ≤ 40) {mf : AI} : ∀ (d k f : Nat) (sv : SvT), k + d = n → d < f → ∃ sv', f_X4_copy_L1 (kI b) (kI jj) (kI n) f (kI k) sv mf = some (kI n, sv', mf) ∧ sv'.1 = sv.1 ∧ sv'.2.1 = sv.2.1 ∧ sv'.2.2.1 = sv.2.2.1 ∧ sv'.2.2.2.1 = sv.2.2.2.1 ∧ (∀ q, q ≠ b → sv'.2.2.2.2.2 q = sv.2.2.2.2.2 q) ∧ ∀ t, sv'.2.2.2.2.2 b t = if jj + k ≤ t ∧ t < jj + n then sv.2.2.2.2.1 (t - jj) else sv.2.2.2.2.2 b t
  | _, _, 0, _, _, h => by omega
  | 0, k, f + 1, sv, hk, _ => by
    refine ⟨sv, ?_, rfl, rfl, rfl, rfl, fun _ _ => rfl, fun t => ?_⟩
    · rw [f_X4_copy_L1, if_pos ((kI_le (by omega) (by omega)).mpr (by omega))]
    · rw [if_neg (by omega)]
  | d + 1, k, f + 1, sv, hk, hd => by
    obtain ⟨sv', e, h1, h2, h3, h4, h5, h6⟩ := cpyB (cnt := cnt) hb hn hj d (k + 1) f (sv.1, sv.2.1, sv.2.2.1, sv.2.2.2.1, sv.2.2.2.2.1, (va_up sv.2.2.2.2.2 b (vp_updL (sv.2.2.2.2.2 b) (jj + k) (sv.2.2.2.2.1 k)))) (by omega) (by omega)
    refine ⟨sv', ?_, h1, h2, h3, h4, fun q hq => ?_, fun t => ?_⟩
    · rw [f_X4_copy_L1, if_neg (kI_leF (by omega) (by omega) (by omega)), if_pos (inBT hb (by omega)), if_pos (inBT (by omega) (by omega)), kI_add, if_pos (inBT (by omega) (by omega)), kI_nat (by omega), kI_nat (by omega), kI_nat (by omega), i1, kI_add]
      exact e
    · rw [h5 q hq]
      exact up_ne hq
    · rw [h6 t]
      dsimp only
      rw [up_at]
      by_cases c : jj + (k + 1) ≤ t ∧ t < jj + n
      · rw [if_pos c, if_pos (by omega)]
      · rw [if_neg c]
        by_cases c2 : t = jj + k
        · rw [c2, upl_at, if_pos (by omega), show jj + k - jj = k by omega]
        · rw [upl_ne c2, if_neg (by omega)]
theorem cpyA {a b ii jj n : Nat} (ha : a < 8) (hb : b < 8) (hn : n ≤ 40) (hi : ii + n ≤ 40) (hj : jj + n ≤ 40) {mf : AI} : ∀ (d k f : Nat) (sv : SvT), k + d = n → d < f → (∀ t, t < k → sv.2.2.2.2.1 t = sv.2.2.2.2.2 a (ii + t)) → ∃ sv', f_X4_copy_L0 (kI a) (kI b) (kI ii) (kI jj) (kI n) f (kI k) sv mf = some (kI n, sv', mf) ∧ sv'.1 = sv.1 ∧ sv'.2.1 = sv.2.1 ∧ sv'.2.2.1 = sv.2.2.1 ∧ sv'.2.2.2.1 = sv.2.2.2.1 ∧ (∀ q, q ≠ b → sv'.2.2.2.2.2 q = sv.2.2.2.2.2 q) ∧ ∀ t, sv'.2.2.2.2.2 b t = if jj ≤ t ∧ t < jj + n then sv.2.2.2.2.2 a (ii + (t - jj)) else sv.2.2.2.2.2 b t
  | _, _, 0, _, _, h, _ => by omega
  | 0, k, f + 1, sv, hk, _, hs => by
    obtain ⟨sv', e, h1, h2, h3, h4, h5, h6⟩ := cpyB (cnt := 0) (mf := mf) hb hn hj n 0 fuel0 sv (by omega) (by unfold fuel0; omega)
    refine ⟨sv', ?_, h1, h2, h3, h4, h5, fun t => ?_⟩
    · rw [f_X4_copy_L0, if_pos ((kI_le (by omega) (by omega)).mpr (by omega))]
      exact e
    · rw [h6 t]
      by_cases c : jj ≤ t ∧ t < jj + n
      · rw [if_pos (by omega), if_pos c, hs (t - jj) (by omega)]
      · rw [if_neg (by omega), if_neg c]
  | d + 1, k, f + 1, sv, hk, hd, hs => by
    obtain ⟨sv', e, h1, h2, h3, h4, h5, h6⟩ := cpyA ha hb hn hi hj d (k + 1) f (sv.1, sv.2.1, sv.2.2.1, sv.2.2.2.1, vp_updL sv.2.2.2.2.1 k (sv.2.2.2.2.2 a (ii + k)), sv.2.2.2.2.2) (by omega) (by omega) (fun t ht => by
      dsimp only
      by_cases c : t = k
      · rw [c, upl_at]
      · rw [upl_ne c, hs t (by omega)])
    refine ⟨sv', ?_, h1, h2, h3, h4, h5, h6⟩
    rw [f_X4_copy_L0, if_neg (kI_leF (by omega) (by omega) (by omega)), if_pos (inBT ha (by omega)), kI_add, if_pos (inBT (by omega) (by omega)), if_pos (inBT (by omega) (by omega)), kI_nat (by omega), kI_nat (by omega), kI_nat (by omega), i1, kI_add]
    exact e
theorem copG (h : SL L sl sv) (hr : RF rf mf) {a b : Nat} (ha : a < 8) (hb : b < 8) {t z z2 : Nat} (ht : t ≤ 4) (hz : z ≤ 40) (hz2 : z2 ≤ 40) (xa : sv.1 a = 1) (xb : sv.1 b = 1) (s1 : (sl a).2.1 = kI t) (s3 : (sl a).2.2.2 = kI z) (s5 : sv.2.2.1 a = kI z) (s6 : ∀ j, j < z → (sl a).1 j = sv.2.2.2.2.2 a j) (b1 : (sl b).2.1 = kI t) (b2 : (sl b).2.2.1 = -1) (b3 : (sl b).2.2.2 = kI z2) (b4 : sv.2.1 b = kI t) (b5 : sv.2.2.1 b = kI z2) (b6 : ∀ j, j < z2 → (sl b).1 j = sv.2.2.2.2.2 b j) (a2 a3 a4 : Int32) : TS L
    ((f_X0_hasPart a2 a4 (sl a)).bind fun r1021 => if r1021 = 0 then (f_X3_refuse (-2) rf).bind fun r1023 => some (r1023.1, sl, r1023.2)
      else (f_X0_hasPart a3 a4 (sl b)).bind fun r1024 => if r1024 = 0 then (f_X3_refuse (-2) rf).bind fun r1026 => some (r1026.1, sl, r1026.2)
        else if cpB a2 a3 a4 40 40 then some (a4, (va_up sl b ((va_cpy ((sl a).1) ((sl b).1) a2.toNatClampNeg a3.toNatClampNeg a4.toNatClampNeg), (sl b).2.1, (sl b).2.2.1, (sl b).2.2.2)), rf) else none)
    (if a4 < 0 then (f_X4_refuse (-2) mf).bind fun r => some (r.1, sv, r.2)
     else if a2 < 0 then (f_X4_refuse (-2) mf).bind fun r => some (r.1, sv, r.2)
     else if a3 < 0 then (f_X4_refuse (-2) mf).bind fun r => some (r.1, sv, r.2)
     else if kI z < a4 then (f_X4_refuse (-2) mf).bind fun r => some (r.1, sv, r.2)
     else if kI z2 < a4 then (f_X4_refuse (-2) mf).bind fun r => some (r.1, sv, r.2)
     else if (kI z - a4) < a2 then (f_X4_refuse (-2) mf).bind fun r => some (r.1, sv, r.2)
     else if a3 ≤ (kI z2 - a4) then f_X4_copy_L0 (kI a) (kI b) a2 a3 a4 fuel0 0 sv mf
     else (f_X4_refuse (-2) mf).bind fun r => some (r.1, sv, r.2)) := by
  have hT := TSr h hr 0 (by decide) (c := -2) rfl
  have n0 : ∀ {x : Int32}, ¬ x < 0 → ∃ n, n < 2147483648 ∧ x = kI n := fun {x} c => kI_of (by
    have h1 : ¬ x.toInt < (0 : Int32).toInt := fun h => c (Int32.lt_iff_toInt_lt.mpr h)
    have h0 : (0 : Int32).toInt = 0 := rfl
    omega)
  unfold f_X0_hasPart
  rw [s3, b3]
  by_cases c4 : a4 < 0
  · simp only [c4, ↓reduceIte, ite_self, Option.bind_some]; exact hT
  by_cases c2 : a2 < 0
  · simp only [c4, c2, ↓reduceIte, Option.bind_some]; exact hT
  by_cases c3 : a3 < 0
  · by_cases q : kI z < a4
    · simp only [c4, c2, c3, q, ↓reduceIte, Option.bind_some]; exact hT
    · by_cases q2 : kI z - a4 < a2
      · simp only [c4, c2, c3, q, q2, ↓reduceIte, Option.bind_some]; exact hT
      · simp only [c4, c2, c3, q, q2, ↓reduceIte, Option.bind_some, one_ne]; exact hT
  by_cases q : kI z < a4
  · simp only [c4, c2, c3, q, ↓reduceIte, Option.bind_some]; exact hT
  by_cases q2 : kI z - a4 < a2
  · by_cases q3 : kI z2 < a4
    · simp only [c4, c2, c3, q, q2, q3, ↓reduceIte, Option.bind_some]; exact hT
    · simp only [c4, c2, c3, q, q2, q3, ↓reduceIte, Option.bind_some]; exact hT
  by_cases q3 : kI z2 < a4
  · simp only [c4, c2, c3, q, q2, q3, ↓reduceIte, Option.bind_some, one_ne]; exact hT
  by_cases q4 : kI z2 - a4 < a3
  · simp only [c4, c2, c3, q, q2, q3, q4, Int32.not_le.mpr q4, ↓reduceIte, Option.bind_some, one_ne]; exact hT
  have q5 : a3 ≤ kI z2 - a4 := Int32.not_lt.mp q4
  obtain ⟨n, hn, rfl⟩ := n0 c4
  obtain ⟨ii, hii, rfl⟩ := n0 c2
  obtain ⟨jj, hjj, rfl⟩ := n0 c3
  have r1 : n ≤ z := Nat.not_lt.mp fun c => q ((kI_lt (by omega) hn).mpr c)
  have r2 : n ≤ z2 := Nat.not_lt.mp fun c => q3 ((kI_lt (by omega) hn).mpr c)
  have r3 : ii ≤ z - n := Nat.not_lt.mp fun c => q2 (by rw [kI_sub r1]; exact (kI_lt (by omega) hii).mpr c)
  have r4 : jj ≤ z2 - n := Nat.not_lt.mp fun c => q4 (by rw [kI_sub r2]; exact (kI_lt (by omega) hjj).mpr c)
  have gc : cpB (kI ii) (kI jj) (kI n) 40 40 = true := cpBT (by omega) (by omega) (by decide) (by decide)
  simp only [c4, c2, c3, q, q2, q3, q4, q5, ↓reduceIte, Option.bind_some, one_ne, gc]
  rw [kI_nat hii, kI_nat hjj, kI_nat hn]
  obtain ⟨sv', e, h1, h2, h3, h4, h5, h6⟩ := cpyA (a := a) (b := b) (ii := ii) (jj := jj) (n := n) (mf := mf) ha hb (by omega) (by omega) (by omega) n 0 fuel0 sv (by omega) (by unfold fuel0; omega) (fun t ht => by omega)
  refine ⟨_, _, _, sv', mf, rfl, e, h.put (Or.inr (Or.inl ⟨by rw [h1]; exact xb, t, z2, ht, hz2, b1, b2, rfl, by rw [h2]; exact b4, by rw [h3]; exact b5, fun j hj => ?_⟩)) (fun q hq => ⟨by rw [h1], by rw [h2], by rw [h3], by rw [h4], h5 q hq⟩), hr⟩
  rw [h6 j]
  show va_cpy (sl a).1 (sl b).1 ii jj n j = _
  unfold va_cpy
  by_cases c : jj ≤ j ∧ j < jj + n
  · rw [if_pos c, if_pos c, s6 _ (by omega)]
  · rw [if_neg c, if_neg c, b6 j hj]
theorem s_copy (h : SL L sl sv) (hr : RF rf mf) (a0 a1 a2 a3 a4 : Int32) : TS L (f_X3_copy a0 a1 a2 a3 a4 sl rf) (f_X4_copy a0 a1 a2 a3 a4 sv mf) := by
  obtain ⟨n1, n2, n3, n4, n5, n6⟩ := neT
  unfold f_X3_copy f_X4_copy f_X0_isOtherRowThan_x
  rcases shf a0 with ⟨a, ha, rfl, e1, e2⟩ | ⟨e1, e2⟩
  rotate_left
  · rw [bsm e1, bsm e2, if_pos rfl, if_pos rfl]
    exact TSr h hr 0 (by decide) rfl
  have g : inB (kI a) 8 = true := inBT ha (by decide)
  rw [bsm e1, bsm e2, if_neg one_ne, if_neg one_ne]
  rcases shf a1 with ⟨b, hb, rfl, e1, e2⟩ | ⟨e1, e2⟩
  rotate_left
  · rw [bsm e1, bsm e2, if_pos rfl, if_pos rfl]
    exact TSr h hr 0 (by decide) rfl
  have gb : inB (kI b) 8 = true := inBT hb (by decide)
  rw [bsm e1, bsm e2, if_neg one_ne, if_neg one_ne]
  simp only [g, gb, ↓reduceIte]
  rw [kI_nat (by omega), kI_nat (by omega)]
  have hT := TSr h hr 1 (by decide) (c := -3) rfl
  have hT2 := TSr h hr 2 (by decide) (c := -4) rfl
  rcases h a ha with ⟨x, s1, s2, s3⟩ | ⟨x, t, z, ht, hz, s1, s2, s3, s4, s5, s6⟩ | ⟨x, w, hw, hw6, s1, s2, s3, s4⟩
  rotate_right
  · rw [bsm (X0_law1 (by omega) s2), if_neg one_ne, x, if_pos rfl]
    exact hT
  · rw [bsm (X0_law0 s2), if_pos rfl, x, if_neg n4]
    rcases h b hb with ⟨y, b1, b2, b3⟩ | ⟨y, t2, z2, ht2, hz2, b1, b2, b3, b4, b5, b6⟩ | ⟨y, w, hw, hw6, b1, b2, b3, b4⟩
    rotate_right
    · rw [bsm (X0_law1 (by omega) b2), if_neg one_ne, y, if_pos rfl]
      exact hT
    · rw [bsm (X0_law0 b2), if_pos rfl, y, if_neg n4, if_neg n5, if_pos rfl]
      simp only [X0_row0 s1, Option.bind_some, ↓reduceIte]
      exact hT2
    · rw [bsm (X0_law0 b2), if_pos rfl, y, if_neg n3, if_neg n5, if_pos rfl]
      simp only [X0_row0 s1, Option.bind_some, ↓reduceIte]
      exact hT2
  · rw [bsm (X0_law0 s2), if_pos rfl, x, if_neg n3, if_pos rfl]
    rcases h b hb with ⟨y, b1, b2, b3⟩ | ⟨y, t2, z2, ht2, hz2, b1, b2, b3, b4, b5, b6⟩ | ⟨y, w, hw, hw6, b1, b2, b3, b4⟩
    rotate_right
    · rw [bsm (X0_law1 (by omega) b2), if_neg one_ne, y, if_pos rfl]
      exact hT
    · rw [bsm (X0_law0 b2), if_pos rfl, y, if_neg n4, if_neg n5, if_neg one_ne, if_pos rfl]
      simp only [X0_row0 b1, X0_row1 (t := t) (by omega) s1, Option.bind_some, ↓reduceIte, one_ne]
      exact hT2
    · rw [bsm (X0_law0 b2), if_pos rfl, y, if_neg n3, if_pos rfl, s4, b4, s5, b5, s1, b1, if_kI (by omega) (by omega), if_kI (by omega) (by omega)]
      simp only [X0_row1 (t := t2) (by omega) b1, X0_row1 (t := t) (by omega) s1, Option.bind_some, ↓reduceIte, one_ne]
      by_cases c : t = t2
      · subst c
        simp only [Option.bind_some, ↓reduceIte, one_ne]
        have G := copG h hr ha hb ht hz hz2 x y s1 s3 s5 s6 b1 b2 b3 b4 b5 b6 a2 a3 a4
        rw [b1] at G
        exact G
      · simp only [Option.bind_some, ↓reduceIte, one_ne, if_neg c]
        exact hT
end SHW
