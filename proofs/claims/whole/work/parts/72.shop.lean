/-! ===== statements, and the shop's text ===== -/
section TAS
variable {n : Nat} {bt : Nat → Nat}
theorem SO.mono {B B' e c l x y} (h : SO n bt B e c l x y) (hB : B ≤ B') (hB' : B' < 1000000000) : SO n bt B' e c l x y := by
  obtain ⟨t, s, sp, k, p, L, h1, h2, h3, h4⟩ := h
  exact ⟨t, s, sp, k, p, L, h1, h2, h3.mono hB hB', h4⟩
theorem b02 : inB 0 2 = true ∧ inB 1 2 = true := by decide
theorem stPeople (hn : n ≤ 250) (hb : ∀ j, j < n → bt j ≤ 255) {t : TpT} {k : TkT} {a e : Nat} (T : TOK n bt t k a e) {p L B : Nat} {s y : ShT} (j : J p L B s y) : SF (f_X2_readPeople t s) (f_X4_peopleTold y k) ∨ SO n bt B e k.2.2.2.2.2.2.2.2 L (f_X2_readPeople t s) (f_X4_peopleTold y k) := by
  have h16 := j.p16
  have pm := pmi h16
  unfold f_X2_readPeople f_X4_peopleTold
  rw [j.pp.1, j.pp.2]
  rcases tel hn hb T (lo := 1) (lo' := 1) (hi := 16 - kI p) (Or.inl rfl) (by rw [pm.2.2]; omega) with ⟨t1, k', a1, r1, r2, r3, r4⟩ | ⟨v, k', a', e', t1, t', r1, r2, r3, r4, r5, r6, r7, r8, r9, r10⟩
  · refine Or.inl ⟨t1, s, y, k', a1, ?_, ?_, r2, r4⟩
    · rw [bsm r1]
      rw [show fuel0 = 4999 + 1 from rfl, f_X2_readPeople_L0]
      dsimp only
      rw [if_pos (by decide), if_pos rfl]
    · rw [bsm r3, if_pos rfl]
  · rw [pm.2.2] at r3
    have h1 : (1 : Int32).toInt = 1 := by decide
    obtain ⟨s', y', f1, f2, j2⟩ := pplL (t := t1) r9 r1 v 0 fuel0 fuel0 p j (by omega) (by omega) (by unfold fuel0; omega) (by unfold fuel0; omega)
    refine Or.inr ⟨t1, s', y', k', p + v, L, ?_, ?_, j2, ⟨t', a', e', r6, r7, r5⟩, r10, by omega⟩
    · rw [bsm r4]
      exact f1
    · rw [bsm r8, if_neg one_ne]
      exact f2
theorem stServe (hn : n ≤ 250) (hb : ∀ j, j < n → bt j ≤ 255) {t : TpT} {k : TkT} {a e : Nat} (T : TOK n bt t k a e) {p L B : Nat} {s y : ShT} (j : J p L B s y) (hB : B + 99 < 1000000000) : SF (f_X2_readServe t s) (f_X4_serveTold y k) ∨ SO n bt (B + 99) e k.2.2.2.2.2.2.2.2 L (f_X2_readServe t s) (f_X4_serveTold y k) := by
  have h1 : (1 : Int32).toInt = 1 := by decide
  have h99 : (99 : Int32).toInt = 99 := by decide
  have h0 : (0 : Int32).toInt = 0 := by decide
  have xf : ∀ (t1 : TpT), f_X2_readServe_L0 (-1) fuel0 0 t1 s = some (0, t1, s) := fun t1 => by
    rw [show fuel0 = 4999 + 1 from rfl, f_X2_readServe_L0]
    rw [if_pos (by decide), if_pos rfl]
  unfold f_X2_readServe f_X4_serveTold
  rcases j.stk with ⟨hp, hL, e6, e7⟩ | ⟨hL, e6, e7⟩
  · rw [bsm e6, bsm e7, if_pos rfl, if_neg one_ne]
    rcases tel hn hb T (lo := 1) (lo' := 1) (hi := 99) (Or.inl rfl) (by rw [h99]; omega) with ⟨t1, k', a1, r1, r2, r3, r4⟩ | ⟨v, k', a', e', t1, t', r1, r2, r3, r4, r5, r6, r7, r8, r9, r10⟩
    · exact Or.inl ⟨t1, s, y, k', a1, by rw [bsm r1]; exact xf t1, by rw [bsm r3, if_pos rfl], r2, r4⟩
    · rw [h99] at r3
      obtain ⟨s', y', f1, f2, j2⟩ := srvL (t := t1) hp hL r1 v 0 fuel0 fuel0 j (by omega) (by omega) (by unfold fuel0; omega) (by unfold fuel0; omega)
      refine Or.inr ⟨t1, s', y', k', p, L, ?_, ?_, j2.mono (by omega) hB, ⟨t', a', e', r6, r7, r5⟩, r10, by omega⟩
      · rw [bsm r4]
        exact f1
      · rw [bsm r8, if_neg one_ne, if_pos b02.1, z0, r9, bsm (show f_X4_goes (kI v) y = some y' from f2)]
  · rw [bsm e6, bsm e7, if_neg one_ne, if_pos rfl]
    rcases tel hn hb T (lo := 1) (lo' := 1) (hi := 0) (Or.inl rfl) (by rw [h0]; omega) with ⟨t1, k', a1, r1, r2, r3, r4⟩ | ⟨v, k', a', e', t1, t', r1, r2, r3, r4, r5, r6, r7, r8, r9, r10⟩
    · exact Or.inl ⟨t1, s, y, k', a1, by rw [bsm r1]; exact xf t1, by rw [bsm r3, if_pos rfl], r2, r4⟩
    · rw [h0] at r3
      omega
theorem stLaw (hn : n ≤ 250) (hb : ∀ j, j < n → bt j ≤ 255) {t : TpT} {k : TkT} {a e : Nat} (T : TOK n bt t k a e) {p L B : Nat} {s y : ShT} (j : J p L B s y) (hL : L < 6) :
    SF (f_X2_readLaw t s) ((f_X4_tells 0 5 k).bind fun r1080 => if r1080.1 = 0 then some (0, y, r1080.2) else (f_X4_number 1 0 15 r1080.2).bind fun r1082 => if r1082.1 = 0 then some (0, y, r1082.2) else if inB 0 2 then if inB 1 2 then (f_X4_addLaw (r1082.2.2.1 (0 : Int32).toNatClampNeg) (r1082.2.2.1 (1 : Int32).toNatClampNeg) y).bind fun r1086 => some (1, r1086, r1082.2) else none else none) ∨ SO n bt B e k.2.2.2.2.2.2.2.2 L (f_X2_readLaw t s) ((f_X4_tells 0 5 k).bind fun r1080 => if r1080.1 = 0 then some (0, y, r1080.2) else (f_X4_number 1 0 15 r1080.2).bind fun r1082 => if r1082.1 = 0 then some (0, y, r1082.2) else if inB 0 2 then if inB 1 2 then (f_X4_addLaw (r1082.2.2.1 (0 : Int32).toNatClampNeg) (r1082.2.2.1 (1 : Int32).toNatClampNeg) y).bind fun r1086 => some (1, r1086, r1082.2) else none else none) := by
  have h5 : (5 : Int32).toInt = 5 := by decide
  have h15 : (15 : Int32).toInt = 15 := by decide
  unfold f_X2_readLaw
  rcases tel hn hb T (lo := 0) (lo' := 0) (hi := 5) (Or.inl rfl) (by rw [h5]; omega) with ⟨t1, k', a1, r1, r2, r3, r4⟩ | ⟨v, k', a', e', t1, t', r1, r2, r3, r4, r5, r6, r7, r8, r9, r10⟩
  · exact Or.inl ⟨t1, s, y, k', a1, by rw [bsm r1, if_pos rfl], by rw [bsm r3, if_pos rfl], r2, r4⟩
  · rw [h5] at r3
    rw [bsm r4, bsm r8, if_neg (kI_m1 (by omega)), if_neg one_ne]
    rcases numb hn hb r6 r7 (lo := 0) (lo' := 0) (hi := 15) (Or.inl rfl) (by rw [h15]; omega) (i := 1) (by decide) with ⟨q1, q2, q3, k2, q4, q5⟩ | ⟨w, k2, a2, e2, t2, q1, q2, q3, q4, q5, q6, q7, q8, q9, q10⟩
    · exact Or.inl ⟨t', s, y, k2, a', by rw [bsm q1, if_pos rfl], by rw [bsm (show f_X4_number 1 0 15 k' = _ from q4), if_pos rfl], q2, q5⟩
    · rw [h15] at q3
      obtain ⟨s', y', f1, f2, j2⟩ := j.addLaw hL (k := v) (a := w) (by omega) (by omega)
      have l6 := j.l6
      refine Or.inr ⟨t', s', y', k2, p, L + 1, ?_, ?_, j2, ⟨t2, a2, e2, q6, q7, by have := r7.2.2.1; omega⟩, q10.trans r10, by omega⟩
      · rw [bsm q4, if_neg (kI_m1 (by omega)), bsm f1, if_neg (kI_m1 (by omega))]
      · rw [bsm (show f_X4_number 1 0 15 k' = _ from q8), if_neg one_ne, if_pos b02.1, if_pos b02.2, z0, z1, q9, upd_ne (by decide), upd_at, r9, bsm f2]
theorem stUse (hn : n ≤ 250) (hb : ∀ j, j < n → bt j ≤ 255) {t : TpT} {k : TkT} {a e : Nat} (T : TOK n bt t k a e) {p L B : Nat} {s y : ShT} (j : J p L B s y) :
    SF (f_X2_readUse t s) ((f_X4_tells 0 (kI L - 1) k).bind fun r1037 => if r1037.1 = 0 then if z01 r1037.1 then some (r1037.1, y, r1037.2) else none else if inB 0 2 then if z01 r1037.1 then some (r1037.1, (y.1, y.2.1, y.2.2.1, y.2.2.2.1, y.2.2.2.2.1, y.2.2.2.2.2.1, y.2.2.2.2.2.2.1, (r1037.2.2.1 (0 : Int32).toNatClampNeg), y.2.2.2.2.2.2.2.2.1, y.2.2.2.2.2.2.2.2.2), r1037.2) else none else none) ∨ SO n bt B e k.2.2.2.2.2.2.2.2 L (f_X2_readUse t s) ((f_X4_tells 0 (kI L - 1) k).bind fun r1037 => if r1037.1 = 0 then if z01 r1037.1 then some (r1037.1, y, r1037.2) else none else if inB 0 2 then if z01 r1037.1 then some (r1037.1, (y.1, y.2.1, y.2.2.1, y.2.2.2.1, y.2.2.2.2.1, y.2.2.2.2.2.1, y.2.2.2.2.2.2.1, (r1037.2.2.1 (0 : Int32).toNatClampNeg), y.2.2.2.2.2.2.2.2.1, y.2.2.2.2.2.2.2.2.2), r1037.2) else none else none) := by
  have l6 := j.l6
  have pm := pmi (show L ≤ 16 by omega)
  unfold f_X2_readUse
  rw [j.LL.1]
  rcases tel hn hb T (lo := 0) (lo' := 0) (hi := kI L - 1) (Or.inl rfl) (by rw [pm.1]; omega) with ⟨t1, k', a1, r1, r2, r3, r4⟩ | ⟨v, k', a', e', t1, t', r1, r2, r3, r4, r5, r6, r7, r8, r9, r10⟩
  · exact Or.inl ⟨t1, s, y, k', a1, by rw [bsm r1, if_pos rfl], by rw [bsm r3, if_pos rfl, if_pos z01_0], r2, r4⟩
  · rw [pm.1] at r3
    refine Or.inr ⟨t1, _, _, k', p, L, ?_, ?_, j.force (f := v) (by omega), ⟨t', a', e', r6, r7, r5⟩, r10, by omega⟩
    · rw [bsm r4, if_neg (kI_m1 (by omega)), j.LL.1]
    · rw [bsm r8, if_neg one_ne, if_pos b02.1, if_pos z01_1, z0, r9]
theorem stLet (hn : n ≤ 250) (hb : ∀ j, j < n → bt j ≤ 255) {t : TpT} {k : TkT} {a e : Nat} (T : TOK n bt t k a e) {p L B : Nat} {s y : ShT} (j : J p L B s y) :
    SF (f_X2_readLet t s) ((f_X4_tells 0 (kI p - 2) k).bind fun r1031 => if r1031.1 = 0 then some (0, y, r1031.2) else if inB 0 2 then (f_X4_lettingAt (r1031.2.2.1 (0 : Int32).toNatClampNeg) y).bind fun r1034 => some (1, r1034, r1031.2) else none) ∨ SO n bt B e k.2.2.2.2.2.2.2.2 L (f_X2_readLet t s) ((f_X4_tells 0 (kI p - 2) k).bind fun r1031 => if r1031.1 = 0 then some (0, y, r1031.2) else if inB 0 2 then (f_X4_lettingAt (r1031.2.2.1 (0 : Int32).toNatClampNeg) y).bind fun r1034 => some (1, r1034, r1031.2) else none) := by
  have h16 := j.p16
  have pm := pmi h16
  unfold f_X2_readLet
  rw [j.pp.1]
  rcases tel hn hb T (lo := 0) (lo' := 0) (hi := kI p - 2) (Or.inl rfl) (by rw [pm.2.1]; omega) with ⟨t1, k', a1, r1, r2, r3, r4⟩ | ⟨v, k', a', e', t1, t', r1, r2, r3, r4, r5, r6, r7, r8, r9, r10⟩
  · exact Or.inl ⟨t1, s, y, k', a1, by rw [bsm r1, if_pos rfl], by rw [bsm r3, if_pos rfl], r2, r4⟩
  · rw [pm.2.1] at r3
    obtain ⟨s', m', z, hz, g1, g2, g3, j2⟩ := j.letb (a := v) (by omega)
    refine Or.inr ⟨t1, s', m', k', p, L, ?_, ?_, j2, ⟨t', a', e', r6, r7, r5⟩, r10, by omega⟩
    · rw [bsm r4, if_neg (kI_m1 (by omega)), bsm g1, if_neg (kI_m1 (by omega))]
    · rw [bsm r8, if_neg one_ne, if_pos b02.1, z0, r9, bsm g2]
theorem stLeave (hn : n ≤ 250) (hb : ∀ j, j < n → bt j ≤ 255) {t : TpT} {k : TkT} {a e : Nat} (T : TOK n bt t k a e) {p L B : Nat} {s y : ShT} (j : J p L B s y) :
    SF (f_X2_readLeave t s) (if kI p ≤ 0 then (f_X4_tells 0 (kI p - 1) k).bind fun r1025 => if r1025.1 = 0 then some (0, y, r1025.2) else (f_X4_lastLeaves y).bind fun r1027 => some (1, r1027, r1025.2) else (f_X4_tells (kI p - 1) (kI p - 1) k).bind fun r1028 => if r1028.1 = 0 then some (0, y, r1028.2) else (f_X4_lastLeaves y).bind fun r1030 => some (1, r1030, r1028.2)) ∨ SO n bt B e k.2.2.2.2.2.2.2.2 L (f_X2_readLeave t s) (if kI p ≤ 0 then (f_X4_tells 0 (kI p - 1) k).bind fun r1025 => if r1025.1 = 0 then some (0, y, r1025.2) else (f_X4_lastLeaves y).bind fun r1027 => some (1, r1027, r1025.2) else (f_X4_tells (kI p - 1) (kI p - 1) k).bind fun r1028 => if r1028.1 = 0 then some (0, y, r1028.2) else (f_X4_lastLeaves y).bind fun r1030 => some (1, r1030, r1028.2)) := by
  have h16 := j.p16
  have pm := pmi h16
  unfold f_X2_readLeave
  rw [j.pp.1, i0, if_kIle (by omega) (by omega)]
  by_cases hp : p ≤ 0
  · rw [if_pos hp]
    rcases tel hn hb T (lo := kI p - 1) (lo' := kI 0) (hi := kI p - 1) (Or.inr (by rw [pm.1]; omega)) (by rw [pm.1]; omega) with ⟨t1, k', a1, r1, r2, r3, r4⟩ | ⟨v, k', a', e', t1, t', r1, r2, r3, r4, r5, r6, r7, r8, r9, r10⟩
    · exact Or.inl ⟨t1, s, y, k', a1, by rw [bsm r1, if_pos rfl]; rfl, by rw [bsm r3, if_pos (show (0 : Int32) = kI 0 from rfl)]; rfl, r2, r4⟩
    · rw [pm.1] at r3
      omega
  · rw [if_neg hp]
    rcases tel hn hb T (lo := kI p - 1) (lo' := kI p - 1) (hi := kI p - 1) (Or.inl rfl) (by rw [pm.1]; omega) with ⟨t1, k', a1, r1, r2, r3, r4⟩ | ⟨v, k', a', e', t1, t', r1, r2, r3, r4, r5, r6, r7, r8, r9, r10⟩
    · exact Or.inl ⟨t1, s, y, k', a1, by rw [bsm r1, if_pos rfl]; rfl, by rw [bsm r3, if_pos (show (0 : Int32) = kI 0 from rfl)]; rfl, r2, r4⟩
    · obtain ⟨s', m', g1, g2, j2⟩ := j.leave (by omega)
      refine Or.inr ⟨t1, s', m', k', p - 1, L, ?_, ?_, j2, ⟨t', a', e', r6, r7, r5⟩, r10, by omega⟩
      · rw [bsm r4, if_neg (kI_m1 (by omega)), bsm g1]
      · rw [bsm r8, if_neg (show ¬ (1 : Int32) = kI 0 by decide), bsm g2]
theorem stCount (hn : n ≤ 250) (hb : ∀ j, j < n → bt j ≤ 255) {t : TpT} {k : TkT} {a e : Nat} (T : TOK n bt t k a e) {p L B : Nat} {s y : ShT} (j : J p L B s y) (hB : 999 ≤ B) :
    SF (f_X2_readCount t s) ((f_X4_tells 0 (kI p - 1) k).bind fun r1017 => if r1017.1 = 0 then some (0, y, r1017.2) else (f_X4_number 1 0 999 r1017.2).bind fun r1019 => if r1019.1 = 0 then some (0, y, r1019.2) else if inB 0 2 then if inB 1 2 then if inB (r1019.2.2.1 (0 : Int32).toNatClampNeg) 16 then some (1, (y.1, (upd y.2.1 (r1019.2.2.1 (0 : Int32).toNatClampNeg).toNatClampNeg (r1019.2.2.1 (1 : Int32).toNatClampNeg)), y.2.2.1, y.2.2.2.1, y.2.2.2.2.1, y.2.2.2.2.2.1, y.2.2.2.2.2.2.1, y.2.2.2.2.2.2.2.1, y.2.2.2.2.2.2.2.2.1, y.2.2.2.2.2.2.2.2.2), r1019.2) else none else none else none) ∨ SO n bt B e k.2.2.2.2.2.2.2.2 L (f_X2_readCount t s) ((f_X4_tells 0 (kI p - 1) k).bind fun r1017 => if r1017.1 = 0 then some (0, y, r1017.2) else (f_X4_number 1 0 999 r1017.2).bind fun r1019 => if r1019.1 = 0 then some (0, y, r1019.2) else if inB 0 2 then if inB 1 2 then if inB (r1019.2.2.1 (0 : Int32).toNatClampNeg) 16 then some (1, (y.1, (upd y.2.1 (r1019.2.2.1 (0 : Int32).toNatClampNeg).toNatClampNeg (r1019.2.2.1 (1 : Int32).toNatClampNeg)), y.2.2.1, y.2.2.2.1, y.2.2.2.2.1, y.2.2.2.2.2.1, y.2.2.2.2.2.2.1, y.2.2.2.2.2.2.2.1, y.2.2.2.2.2.2.2.2.1, y.2.2.2.2.2.2.2.2.2), r1019.2) else none else none else none) := by
  have h16 := j.p16
  have pm := pmi h16
  have h999 : (999 : Int32).toInt = 999 := by decide
  unfold f_X2_readCount
  rw [j.pp.1]
  rcases tel hn hb T (lo := 0) (lo' := 0) (hi := kI p - 1) (Or.inl rfl) (by rw [pm.1]; omega) with ⟨t1, k', a1, r1, r2, r3, r4⟩ | ⟨v, k', a', e', t1, t', r1, r2, r3, r4, r5, r6, r7, r8, r9, r10⟩
  · exact Or.inl ⟨t1, s, y, k', a1, by rw [bsm r1, if_pos rfl], by rw [bsm r3, if_pos rfl], r2, r4⟩
  · rw [pm.1] at r3
    rw [bsm r4, bsm r8, if_neg (kI_m1 (by omega)), if_neg one_ne]
    rcases numb hn hb r6 r7 (lo := 0) (lo' := 0) (hi := 999) (Or.inl rfl) (by rw [h999]; omega) (i := 1) (by decide) with ⟨q1, q2, q3, k2, q4, q5⟩ | ⟨w, k2, a2, e2, t2, q1, q2, q3, q4, q5, q6, q7, q8, q9, q10⟩
    · exact Or.inl ⟨t', s, y, k2, a', by rw [bsm q1, if_pos rfl], by rw [bsm (show f_X4_number 1 0 999 k' = _ from q4), if_pos rfl], q2, q5⟩
    · have g : inB (kI v) 16 = true := inBT (by omega) (by decide)
      have hP : f_X1_hasPerson (kI v) s = some 1 := by
        obtain ⟨ln, ct, la, kd, am, fc, tu, se, R, R', vv⟩ := j
        exact X1_hasPerson R vv.1 (by omega)
      refine Or.inr ⟨t', _, _, k2, p, L, ?_, ?_, j.tellC (x := v) (c := w) (by omega) (by omega), ⟨t2, a2, e2, q6, q7, by have := r7.2.2.1; omega⟩, q10.trans r10, by omega⟩
      · rw [bsm q4, if_neg (kI_m1 (by omega)), bsm hP, if_neg one_ne, if_pos g, kI_nat (by omega), j.pp.1]
      · rw [bsm (show f_X4_number 1 0 999 k' = _ from q8), if_neg one_ne, if_pos b02.1, if_pos b02.2, z0, z1, q9, upd_ne (by decide), upd_at, r9, if_pos g, kI_nat (by omega)]
end TAS
