/-! ===== turns ===== -/
theorem i0 : (0 : Int32) = kI 0 := rfl
theorem i1 : (1 : Int32) = kI 1 := rfl
theorem i2 : (2 : Int32) = kI 2 := rfl
theorem i3 : (3 : Int32) = kI 3 := rfl
theorem i4 : (4 : Int32) = kI 4 := rfl
theorem i5 : (5 : Int32) = kI 5 := rfl
theorem i6 : (6 : Int32) = kI 6 := rfl
theorem i16 : (16 : Int32) = kI 16 := rfl
theorem i40 : (40 : Int32) = kI 40 := rfl
theorem i99 : (99 : Int32) = kI 99 := rfl
theorem i999 : (999 : Int32) = kI 999 := rfl
theorem z0 : (0 : Int32).toNatClampNeg = 0 := rfl
theorem z1 : (1 : Int32).toNatClampNeg = 1 := rfl
section ABT
variable {s m : ShT} {p : Nat} {ln ct la : Nat → Nat} {L : Nat} {kd am : Nat → Nat} {fc B : Nat} {tu se : Int32}
theorem M4_backBy {f x k a c l : Nat} (hP : s.2.2.2.2.2.1 = kI p) (hk : s.2.2.2.1 f = kI k) (hm : s.2.2.2.2.1 f = kI a) (ha : s.2.2.1 x = kI l) (hp : 0 < p) (h16 : p ≤ 16) (hf : f < 6) (hx : x < 16) (h5 : k ≤ 5) (h15 : a ≤ 15) (hc : c < 1000000000) (hl : l ≤ 99) : f_X4_backBy (kI f) (kI x) (kI (c + 1)) s = some (kI (min (wnt p k a c l) (p - 1))) := by
  have g1 : inB (kI x) 16 = true := inBT (by omega) (by decide)
  have g2 : inB (kI f) 6 = true := inBT (by omega) (by decide)
  unfold f_X4_backBy
  simp only [g1, g2, ↓reduceIte]
  rw [kI_nat (by omega), kI_nat (by omega), hk, ha, hm, hP]
  simp (disch := omega) only [i1, i2, i3, i4, i5, kI_add, kI_sub, kI_eq, kI_le]
  unfold wnt
  repeat' split
  all_goals first | (exfalso; omega) | rfl | (congr 2; omega)
theorem M4_lastBy {f x k l : Nat} (hP : s.2.2.2.2.2.1 = kI p) (hk : s.2.2.2.1 f = kI k) (ha : s.2.2.1 x = kI l) (hp : 0 < p) (h16 : p ≤ 16) (hf : f < 6) (hx : x < 16) (h5 : k ≤ 5) (hl : l ≤ 99) : f_X4_lastBy (kI f) (kI x) s = some (kI (lst p k l)) := by
  have g1 : inB (kI x) 16 = true := inBT (by omega) (by decide)
  have g2 : inB (kI f) 6 = true := inBT (by omega) (by decide)
  unfold f_X4_lastBy
  simp only [g1, g2, ↓reduceIte]
  rw [kI_nat (by omega), kI_nat (by omega), hk, ha, hP]
  simp (disch := omega) only [i1, i2, i3, i99, kI_mul, kI_sub, kI_eq, kI_le, kI_lt]
  unfold lst
  repeat' split
  all_goals first | (exfalso; omega) | rfl | (congr 2; omega)
theorem M4_turnL0 {x fr : Nat} (hfr : fr < 16) : ∀ (d k n : Nat) (S : ShT), k + d = fr → d < n → ∃ S', f_X4_turn_L0 (kI x) (kI fr) n (kI k) S = some S' ∧ S'.2 = S.2 ∧ ∀ j, S'.1 j = if k ≤ j ∧ j < fr then S.1 (j + 1) else if j = fr then kI x else S.1 j
  | 0, k, 0, _, _, h => by omega
  | d + 1, k, 0, _, _, h => by omega
  | 0, k, n + 1, S, hk, _ => by
    have e : k = fr := by omega
    subst e
    have g : inB (kI k) 16 = true := inBT (by omega) (by decide)
    refine ⟨(upd S.1 k (kI x), S.2), ?_, rfl, fun j => ?_⟩
    · rw [f_X4_turn_L0, if_pos ((kI_le (by omega) (by omega)).mpr (Nat.le_refl _)), if_pos g, kI_nat (by omega)]
    · rw [if_neg (by omega)]
      by_cases h : j = k
      · rw [if_pos h, h]; exact upd_at
      · rw [if_neg h]; exact upd_ne h
  | d + 1, k, n + 1, S, hk, hd => by
    have g : inB (kI k) 16 = true := inBT (by omega) (by decide)
    have g2 : inB (kI (k + 1)) 16 = true := inBT (by omega) (by decide)
    obtain ⟨S', e, h2, h1⟩ := M4_turnL0 hfr d (k + 1) n (upd S.1 k (S.1 (k + 1)), S.2) (by omega) (by omega)
    refine ⟨S', ?_, h2, fun j => ?_⟩
    · rw [f_X4_turn_L0, if_neg (fun c => by have := (kI_le (by omega) (by omega)).mp c; omega), i1, kI_add, if_pos g2, if_pos g, kI_nat (by omega), kI_nat (by omega)]
      exact e
    · rw [h1 j]
      show (if k + 1 ≤ j ∧ j < fr then upd S.1 k (S.1 (k + 1)) (j + 1) else if j = fr then kI x else upd S.1 k (S.1 (k + 1)) j) = _
      by_cases c1 : k + 1 ≤ j ∧ j < fr
      · rw [if_pos c1, if_pos (by omega), upd_ne (by omega)]
      · rw [if_neg c1]
        by_cases c2 : j = fr
        · rw [if_pos c2, if_neg (by omega), if_pos c2]
        · rw [if_neg c2]
          by_cases c3 : j = k
          · rw [c3, upd_at, if_pos (by omega)]
          · rw [upd_ne c3, if_neg (by omega), if_neg c2]
theorem M4_turn (R : Rs s p ln ct la L kd am fc tu se) (v : Vs p ln ct la L kd am fc B) (hp : 0 < p) (hL : 0 < L) : ∃ s', f_X4_turn s = some s' ∧ Rs s' p (tln ln (min (wnt p (kd fc) (am fc) (ct (ln 0)) (la (ln 0))) (p - 1))) (tup ct (ln 0) (ct (ln 0) + 1)) (tup la (ln 0) (lst p (kd fc) (la (ln 0)))) L kd am fc (tu + 1) se := by
  have hx := (v.2.2.1 0 hp).1
  have hxx := v.2.2.1 (ln 0) hx
  have hf : fc < L := by rcases v.2.2.2.2.2.2.1 with h | h <;> omega
  have h16 := v.1
  have h6 := v.2.1
  have hB9 := v.2.2.2.2.2.2.2
  have hk := v.2.2.2.2.2.1 fc hf
  obtain ⟨x, hxe⟩ : ∃ x, ln 0 = x := ⟨_, rfl⟩
  rw [hxe] at hx hxx
  obtain ⟨fr, hfr⟩ : ∃ fr, min (wnt p (kd fc) (am fc) (ct x) (la x)) (p - 1) = fr := ⟨_, rfl⟩
  obtain ⟨nl, hnl⟩ : ∃ nl, lst p (kd fc) (la x) = nl := ⟨_, rfl⟩
  rw [hxe, hfr, hnl]
  have hfr15 : fr ≤ p - 1 := by rw [← hfr]; exact Nat.min_le_right _ _
  have g0 : inB 0 16 = true := inBT (a := 0) (by decide) (by decide)
  have g1 : inB (kI x) 16 = true := inBT (by omega) (by decide)
  obtain ⟨S', e, h2, h1⟩ := M4_turnL0 (x := x) (fr := fr) (by omega) fr 0 fuel0 (s.1, upd s.2.1 x (kI (ct x + 1)), upd s.2.2.1 x (kI nl), s.2.2.2.1, s.2.2.2.2.1, s.2.2.2.2.2.1, s.2.2.2.2.2.2.1, s.2.2.2.2.2.2.2.1, s.2.2.2.2.2.2.2.2.1 + 1, s.2.2.2.2.2.2.2.2.2) (by omega) (by unfold fuel0; omega)
  refine ⟨S', ?_, ?_⟩
  · unfold f_X4_turn
    rw [z0, R.lE hp, hxe, kI_nat (by omega), R.cE hx, upd_at, i1, kI_add, R.fE]
    simp only [g0, g1, ↓reduceIte]
    refine (bsm (M4_backBy (p := p) (k := kd fc) (a := am fc) (l := la x) R.pE (R.kE hf) (R.mE hf) (R.aE hx) hp h16 (by omega) (by omega) (by omega) (by omega) (by omega) (by omega))).trans ?_
    refine (bsm (M4_lastBy (p := p) (k := kd fc) (l := la x) R.pE (R.kE hf) (R.aE hx) hp h16 (by omega) (by omega) (by omega) (by omega))).trans ?_
    rw [hfr, hnl]
    rw [← i1, ← R.fE]
    exact e
  · have h0 : S'.2 = (upd s.2.1 x (kI (ct x + 1)), upd s.2.2.1 x (kI nl), s.2.2.2.1, s.2.2.2.2.1, s.2.2.2.2.2.1, s.2.2.2.2.2.2.1, s.2.2.2.2.2.2.2.1, s.2.2.2.2.2.2.2.2.1 + 1, s.2.2.2.2.2.2.2.2.2) := h2
    refine ⟨?_, ?_, ?_, ?_, ?_, fun j hj => ⟨?_, ?_, ?_⟩, fun j hj => ⟨?_, ?_⟩⟩
    · rw [h0]; exact R.pE
    · rw [h0]; exact R.LE
    · rw [h0]; exact R.fE
    · rw [h0, ← R.tE]
    · rw [h0]; exact R.sE
    · rw [h1 j]
      unfold tln
      show (if 0 ≤ j ∧ j < fr then s.1 (j + 1) else if j = fr then kI x else s.1 j) = _
      by_cases c1 : j < fr
      · rw [if_pos ⟨Nat.zero_le _, c1⟩, if_pos c1, R.lE (by omega)]
      · rw [if_neg (by omega), if_neg c1]
        by_cases c2 : j = fr
        · rw [if_pos c2, if_pos c2, hxe]
        · rw [if_neg c2, if_neg c2, R.lE hj]
    · rw [h0]
      show upd s.2.1 x (kI (ct x + 1)) j = kI (tup ct x (ct x + 1) j)
      unfold tup
      by_cases c1 : j = x
      · rw [c1, upd_at, if_pos rfl]
      · rw [upd_ne c1, if_neg c1, R.cE hj]
    · rw [h0]
      show upd s.2.2.1 x (kI nl) j = kI (tup la x nl j)
      unfold tup
      by_cases c1 : j = x
      · rw [c1, upd_at, if_pos rfl]
      · rw [upd_ne c1, if_neg c1, R.aE hj]
    · rw [h0]; exact R.kE hj
    · rw [h0]; exact R.mE hj
def tg (fr j : Nat) : Nat := if j < fr then j + 1 else if j = fr then 0 else j
theorem tln_tg (ln : Nat → Nat) (fr j : Nat) : tln ln fr j = ln (tg fr j) := by
  unfold tln tg
  split
  · rfl
  · split <;> rfl
theorem V_turn (v : Vs p ln ct la L kd am fc B) (hp : 0 < p) {x fr nl : Nat} (hx : x < p) (hfr : fr ≤ p - 1) (hnl : 1 ≤ nl ∧ nl ≤ 99) (hB : B + 1 < 1000000000) : Vs p (tln ln fr) (tup ct x (ct x + 1)) (tup la x nl) L kd am fc (B + 1) := by
  obtain ⟨v1, v2, v3, v4, v8, v5, v6, v7⟩ := v
  have tglt : ∀ j, j < p → tg fr j < p := fun j hj => by
    unfold tg
    repeat' split
    all_goals omega
  refine ⟨v1, v2, fun j hj => ⟨?_, ?_, ?_⟩, fun i j hi hj hij => ?_, fun y hy => ?_, v5, v6, hB⟩
  · rw [tln_tg]; exact (v3 _ (tglt j hj)).1
  · have h1 := v3 j hj
    have h2 := v3 x hx
    unfold tup
    split <;> omega
  · have h1 := v3 j hj
    unfold tup
    split <;> omega
  · rw [tln_tg, tln_tg] at hij
    have h := v4 _ _ (tglt i hi) (tglt j hj) hij
    unfold tg at h
    repeat' split at h
    all_goals omega
  · obtain ⟨j, hj, e⟩ := v8 y hy
    by_cases c0 : j = 0
    · refine ⟨fr, by omega, ?_⟩
      rw [tln_tg, show tg fr fr = 0 by unfold tg; rw [if_neg (by omega), if_pos rfl], ← c0]
      exact e
    · by_cases c1 : j ≤ fr
      · refine ⟨j - 1, by omega, ?_⟩
        rw [tln_tg, show tg fr (j - 1) = j by unfold tg; rw [if_pos (by omega)]; omega]
        exact e
      · refine ⟨j, hj, ?_⟩
        rw [tln_tg, show tg fr j = j by unfold tg; rw [if_neg (by omega), if_neg (by omega)]]
        exact e
theorem lst_ok {k l : Nat} (h1 : 1 ≤ l) (h2 : l ≤ 99) : 1 ≤ lst p k l ∧ lst p k l ≤ 99 := by
  unfold lst
  repeat' split
  all_goals omega
end ABT
/-- two shops that say the same -/
def J (p L B : Nat) (s m : ShT) : Prop := ∃ (ln ct la kd am : Nat → Nat) (fc : Nat) (tu se : Int32), Rs s p ln ct la L kd am fc tu se ∧ Rs m p ln ct la L kd am fc tu se ∧ Vs p ln ct la L kd am fc B
section JJ
variable {s m : ShT} {p L B : Nat}
theorem J.p16 (h : J p L B s m) : p ≤ 16 := by
  obtain ⟨ln, ct, la, kd, am, fc, tu, se, R, R', v⟩ := h
  exact v.1
theorem J.l6 (h : J p L B s m) : L ≤ 6 := by
  obtain ⟨ln, ct, la, kd, am, fc, tu, se, R, R', v⟩ := h
  exact v.2.1
theorem J.pp (h : J p L B s m) : s.2.2.2.2.2.1 = kI p ∧ m.2.2.2.2.2.1 = kI p := by
  obtain ⟨ln, ct, la, kd, am, fc, tu, se, R, R', v⟩ := h
  exact ⟨R.pE, R'.pE⟩
theorem J.LL (h : J p L B s m) : s.2.2.2.2.2.2.1 = kI L ∧ m.2.2.2.2.2.2.1 = kI L := by
  obtain ⟨ln, ct, la, kd, am, fc, tu, se, R, R', v⟩ := h
  exact ⟨R.LE, R'.LE⟩
theorem J.mono (h : J p L B s m) {B' : Nat} (hB : B ≤ B') (hB' : B' < 1000000000) : J p L B' s m := by
  obtain ⟨ln, ct, la, kd, am, fc, tu, se, R, R', v1, v2, v3, v4, v8, v5, v6, v7⟩ := h
  exact ⟨ln, ct, la, kd, am, fc, tu, se, R, R', v1, v2, fun j hj => ⟨(v3 j hj).1, by have := (v3 j hj).2.1; omega, (v3 j hj).2.2⟩, v4, v8, v5, v6, hB'⟩
theorem J.turn (h : J p L B s m) (hp : 0 < p) (hL : 0 < L) (hB : B + 1 < 1000000000) : ∃ s' m' x, x < p ∧ s.1 0 = kI x ∧ m.1 0 = kI x ∧ f_X1_turn s = some (kI x, s') ∧ f_X4_turn m = some m' ∧ J p L (B + 1) s' m' := by
  obtain ⟨ln, ct, la, kd, am, fc, tu, se, R, R', v⟩ := h
  obtain ⟨s', e, r⟩ := X1_turn R v hp hL
  obtain ⟨m', e', r'⟩ := M4_turn R' v hp hL
  have hx := (v.2.2.1 0 hp).1
  have hxx := v.2.2.1 (ln 0) hx
  exact ⟨s', m', ln 0, hx, R.lE hp, R'.lE hp, e, e', _, _, _, kd, am, fc, tu + 1, se, r, r', V_turn v hp hx (Nat.min_le_right _ _) (lst_ok hxx.2.2.1 hxx.2.2.2) hB⟩
end JJ
