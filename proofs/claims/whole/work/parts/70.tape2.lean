/-! ===== tokens, numbers, words ===== -/
section TAQ
variable {n : Nat} {bt : Nat → Nat}
theorem lk0 (hn : n ≤ 250) (hb : ∀ j, j < n → bt j ≤ 255) : ∀ (d a f f' : Nat) (t : TpT) (k : TkT), XT n bt t → MT n bt k → a + d = n → d < f → d < f' → t.2.2.1 = kI a → k.2.2.2.1 = kI a → ∃ a' e' t' k', a ≤ a' ∧ f_X2_goOn_L0 f t = some t' ∧ f_X4_look_L0 f' k = some k' ∧ TOK n bt t' k' a' e' ∧ Kp k k'
  | _, _, 0, _, _, _, _, _, _, h, _, _, _ => by omega
  | _, _, _, 0, _, _, _, _, _, _, h, _, _ => by omega
  | 0, a, f + 1, f' + 1, t, k, x, m, he, _, _, h1, h2 => by
    have e : a = n := by omega
    subst e
    refine ⟨a, a, (t.1, t.2.1, t.2.2.1, kI a), (k.1, k.2.1, k.2.2.1, k.2.2.2.1, 0, k.2.2.2.1, 0, k.2.2.2.2.2.2.2.1, k.2.2.2.2.2.2.2.2), Nat.le_refl _, ?_, ?_, ⟨x, m, Nat.le_refl _, Nat.le_refl _, h1, rfl, h2, h2, Or.inl ⟨rfl, rfl, rfl⟩⟩, rfl, rfl, rfl⟩
    · have c : t.2.1 ≤ t.2.2.1 := by rw [x.1, h1]; exact (kI_le (by omega) (by omega)).mpr (Nat.le_refl _)
      rw [f_X2_goOn_L0]
      simp only [c, ↓reduceIte]
      rw [h1, x.1, i1, kI_add, bsm (J9_min (by omega) (by omega)), Nat.min_eq_right (by omega), ← x.1]
    · have c : k.2.2.1 ≤ k.2.2.2.1 := by rw [m.1, h2]; exact (kI_le (by omega) (by omega)).mpr (Nat.le_refl _)
      have c2 : k.2.2.2.1 = k.2.2.1 := by rw [m.1, h2]
      rw [f_X4_look_L0, if_pos c, if_pos c2]
  | d + 1, a, f + 1, f' + 1, t, k, x, m, he, hf, hf', h1, h2 => by
    have g : inB (kI a) 250 = true := inBT (by omega) (by decide)
    have b := hb a (by omega)
    have c : ¬ kI n ≤ kI a := kI_leF (by omega) (by omega) (by omega)
    have cm : ¬ kI a = kI n := fun h => by have := (kI_eq (by omega) (by omega)).mp h; omega
    have b1 := x.2 a (by omega)
    have b2 := m.2 a (by omega)
    by_cases sp : bt a = 32
    · obtain ⟨a', e', t', k', q1, q2, q3, q4, q5⟩ := lk0 hn hb d (a + 1) f f' (t.1, t.2.1, kI (a + 1), t.2.2.2) (k.1, k.2.1, k.2.2.1, kI (a + 1), k.2.2.2.2.1, k.2.2.2.2.2.1, k.2.2.2.2.2.2.1, k.2.2.2.2.2.2.2.1, k.2.2.2.2.2.2.2.2) x m (by omega) (by omega) (by omega) rfl rfl
      refine ⟨a', e', t', k', by omega, ?_, ?_, q4, q5⟩
      · rw [f_X2_goOn_L0, h1, x.1, if_neg c, if_pos g, kI_nat (by omega), b1, sp, if_pos (show kI 32 = 32 from rfl), show kI a + 1 = kI (a + 1) from kI_add a 1, ← x.1]
        exact q2
      · rw [f_X4_look_L0, h2, m.1, if_neg c, if_pos g, kI_nat (by omega), b2, sp, if_pos (show kI 32 = 32 from rfl), show kI a + 1 = kI (a + 1) from kI_add a 1, ← m.1]
        exact q3
    · have X0 : f_X2_goOn_L0 (f + 1) t = if 97 ≤ bt a ∧ bt a ≤ 122 then f_X2_goOn_L1 fuel0 (t.1, t.2.1, kI a, kI (a + 1)) else if 48 ≤ bt a ∧ bt a ≤ 57 then f_X2_goOn_L2 fuel0 (t.1, t.2.1, kI a, kI (a + 1)) else some (t.1, t.2.1, kI a, kI (a + 1)) := by
        have c3 : ¬ kI (bt a) = 32 := fun h => sp ((kI_eq (by omega) (by omega)).mp h)
        rw [f_X2_goOn_L0, h1, x.1]
        simp only [c, g, ↓reduceIte]
        rw [kI_nat (by omega), b1, if_neg c3, i1, kI_add, bsm (J9_min (by omega) (by omega)), Nat.min_eq_left (by omega), bsm (letE b), bsm (digE b), ← x.1]
        by_cases w : 97 ≤ bt a ∧ bt a ≤ 122
        · rw [if_pos w, if_pos w, if_neg one_ne]
        · rw [if_neg w, if_neg w, if_pos rfl]
          by_cases w2 : 48 ≤ bt a ∧ bt a ≤ 57
          · rw [if_pos w2, if_pos w2, if_neg one_ne]
          · rw [if_neg w2, if_neg w2, if_pos rfl]
      have M0 : f_X4_look_L0 (f' + 1) k = if 97 ≤ bt a ∧ bt a ≤ 122 then f_X4_look_L1 fuel0 (k.1, k.2.1, k.2.2.1, kI a, 1, kI a, 0, k.2.2.2.2.2.2.2.1, k.2.2.2.2.2.2.2.2) else if 48 ≤ bt a ∧ bt a ≤ 57 then f_X4_look_L2 fuel0 (k.1, k.2.1, k.2.2.1, kI a, 2, kI a, 0, k.2.2.2.2.2.2.2.1, k.2.2.2.2.2.2.2.2) else if bt a = 59 then some (k.1, k.2.1, k.2.2.1, kI (a + 1), 3, kI a, 0, k.2.2.2.2.2.2.2.1, k.2.2.2.2.2.2.2.2) else some (k.1, k.2.1, k.2.2.1, kI (a + 1), 4, kI a, 0, k.2.2.2.2.2.2.2.1, k.2.2.2.2.2.2.2.2) := by
        have c3 : ¬ kI (bt a) = 32 := fun h => sp ((kI_eq (by omega) (by omega)).mp h)
        rw [f_X4_look_L0, h2, m.1]
        simp only [c, cm, g, ↓reduceIte]
        rw [kI_nat (by omega), b2, if_neg c3, let4, bsm (letE b), dig4, bsm (digE b), show kI a + 1 = kI (a + 1) from kI_add a 1, show (59 : Int32) = kI 59 from rfl, if_kI (by omega) (by omega), ← m.1]
        by_cases w : 97 ≤ bt a ∧ bt a ≤ 122
        · rw [if_pos w, if_pos w, if_neg one_ne]
        · rw [if_neg w, if_neg w, if_pos rfl]
          by_cases w2 : 48 ≤ bt a ∧ bt a ≤ 57
          · rw [if_pos w2, if_pos w2, if_neg one_ne]
          · rw [if_neg w2, if_neg w2, if_pos rfl]
      rw [X0, M0]
      by_cases w : 97 ≤ bt a ∧ bt a ≤ 122
      · rw [if_pos w, if_pos w]
        have S : f_X4_look_L1 fuel0 (k.1, k.2.1, k.2.2.1, kI a, 1, kI a, 0, k.2.2.2.2.2.2.2.1, k.2.2.2.2.2.2.2.2) = f_X4_look_L1 4999 (k.1, k.2.1, k.2.2.1, kI (a + 1), 1, kI a, 0, k.2.2.2.2.2.2.2.1, k.2.2.2.2.2.2.2.2) := by
          rw [show fuel0 = 4999 + 1 from rfl, f_X4_look_L1]
          dsimp only
          rw [m.1, if_neg c, if_pos g, kI_nat (by omega), b2, let4, bsm (letE b), if_pos w, if_neg one_ne, show kI a + 1 = kI (a + 1) from kI_add a 1]
        obtain ⟨e', t', k', a1, a2, a3, a4, a5, a6, a7, a8, a9, a10, a11, a12, a13, a14⟩ := lkA hn hb (a := a) d (a + 1) fuel0 4999 (t.1, t.2.1, kI a, kI (a + 1)) (k.1, k.2.1, k.2.2.1, kI (a + 1), 1, kI a, 0, k.2.2.2.2.2.2.2.1, k.2.2.2.2.2.2.2.2) x m (by omega) (by unfold fuel0; omega) (by omega) rfl rfl (fun j q1 q2 => by rw [show j = a by omega]; exact w.1)
        rw [S]
        exact ⟨a, e', t', k', Nat.le_refl _, a3, a4, ⟨a5, a6, by omega, a2, a7, a8, a11, a9, Or.inr (Or.inl ⟨a10, by omega, a14⟩)⟩, a13⟩
      · rw [if_neg w, if_neg w]
        by_cases w2 : 48 ≤ bt a ∧ bt a ≤ 57
        · rw [if_pos w2, if_pos w2]
          have S : f_X4_look_L2 fuel0 (k.1, k.2.1, k.2.2.1, kI a, 2, kI a, 0, k.2.2.2.2.2.2.2.1, k.2.2.2.2.2.2.2.2) = f_X4_look_L2 4999 (k.1, k.2.1, k.2.2.1, kI (a + 1), 2, kI a, kI (bt a - 48), k.2.2.2.2.2.2.2.1, k.2.2.2.2.2.2.2.2) := by
            rw [show fuel0 = 4999 + 1 from rfl, f_X4_look_L2]
            dsimp only
            rw [m.1, if_neg c, if_pos g, kI_nat (by omega), b2, dig4, bsm (digE b), if_pos w2, if_neg one_ne, show kI a + 1 = kI (a + 1) from kI_add a 1, Int32.sub_self, if_neg (by decide), if_pos g, show (0 : Int32) * 10 = 0 from rfl, Int32.zero_add, show (48 : Int32) = kI 48 from rfl, kI_sub (by omega)]
          obtain ⟨e', t', k', a1, a2, a3, a4, a5, a6, a7, a8, a9, a10, a11, a12, a13, a14⟩ := lkD hn hb (a := a) d (a + 1) fuel0 4999 (t.1, t.2.1, kI a, kI (a + 1)) (k.1, k.2.1, k.2.2.1, kI (a + 1), 2, kI a, kI (bt a - 48), k.2.2.2.2.2.2.2.1, k.2.2.2.2.2.2.2.2) x m (by omega) (by unfold fuel0; omega) (by omega) rfl rfl (by omega) rfl (by rw [if_pos (by omega), show a + 1 - a = 0 + 1 by omega, nv, nv, Nat.mul_zero, Nat.zero_add]; rfl) (fun j q1 q2 => by rw [show j = a by omega]; exact w2)
          rw [S]
          exact ⟨a, e', t', k', Nat.le_refl _, a3, a4, ⟨a5, a6, by omega, a2, a7, a8, a11, a9, Or.inr (Or.inr (Or.inl ⟨a10, by omega, a14, a12⟩))⟩, a13⟩
        · rw [if_neg w2, if_neg w2]
          by_cases w3 : bt a = 59
          · rw [if_pos w3]
            exact ⟨a, a + 1, _, _, Nat.le_refl _, rfl, rfl, ⟨x, m, by omega, by omega, rfl, rfl, rfl, rfl, Or.inr (Or.inr (Or.inr (Or.inl ⟨rfl, by omega, rfl, w3⟩)))⟩, rfl, rfl, rfl⟩
          · rw [if_neg w3]
            exact ⟨a, a + 1, _, _, Nat.le_refl _, rfl, rfl, ⟨x, m, by omega, by omega, rfl, rfl, rfl, rfl, Or.inr (Or.inr (Or.inr (Or.inr ⟨rfl, by omega, rfl, w3, w2, w⟩)))⟩, rfl, rfl, rfl⟩
theorem lkE (hn : n ≤ 250) (hb : ∀ j, j < n → bt j ≤ 255) {e : Nat} (he : e ≤ n) {t : TpT} {k : TkT} (x : XT n bt t) (m : MT n bt k) (h1 : t.2.2.2 = kI e) (h2 : k.2.2.2.1 = kI e) : ∃ a' e' t' k', e ≤ a' ∧ f_X2_goOn t = some t' ∧ f_X4_look k = some k' ∧ TOK n bt t' k' a' e' ∧ Kp k k' :=
  lk0 hn hb (n - e) e fuel0 fuel0 (t.1, t.2.1, t.2.2.2, t.2.2.2) k x m (by omega) (by unfold fuel0; omega) (by unfold fuel0; omega) h1 h2
theorem nvL (hn : n ≤ 250) {a : Nat} {t : TpT} (x : XT n bt t) {e : Nat} (he : e ≤ n) (h1 : t.2.2.2 = kI e) : ∀ (d k f : Nat), a + k + d = e → d < f → (∀ j, a ≤ j → j < e → 48 ≤ bt j ∧ bt j ≤ 57) → f_X2_numberInHand_L0 t f (kI (nv bt a k)) (kI (a + k)) = some (kI (nv bt a (k + d)))
  | _, _, 0, _, h, _ => by omega
  | 0, k, f + 1, hk, _, _ => by
    rw [f_X2_numberInHand_L0, h1, if_pos ((kI_le (by omega) (by omega)).mpr (by omega)), Nat.add_zero]
  | d + 1, k, f + 1, hk, hf, hd => by
    have g : inB (kI (a + k)) 250 = true := inBT (by omega) (by decide)
    have b := hd (a + k) (by omega) (by omega)
    rw [f_X2_numberInHand_L0, h1, if_neg (kI_leF (by omega) (by omega) (by omega)), if_pos g, kI_nat (by omega), x.2 _ (by omega), show (10 : Int32) = kI 10 from rfl, show (48 : Int32) = kI 48 from rfl, kI_mul, kI_add, kI_sub (by omega), show kI (a + k) + 1 = kI (a + (k + 1)) from kI_add (a + k) 1, show 10 * nv bt a k + bt (a + k) - 48 = nv bt a (k + 1) by rw [nv]; omega, nvL hn x he h1 d (k + 1) f (by omega) (by omega) hd, show k + 1 + d = k + (d + 1) by omega]
theorem nv9 {a e : Nat} (hd : ∀ j, a ≤ j → j < e → 48 ≤ bt j ∧ bt j ≤ 57) : ∀ k, a + k ≤ e → nv bt a k < 10 ^ k
  | 0, _ => by rw [nv]; decide
  | k + 1, h => by
    have ih := nv9 hd k (by omega)
    have b := hd (a + k) (by omega) (by omega)
    rw [nv, Nat.pow_succ]
    omega
/-- a number is read, or not -/
theorem numb (hn : n ≤ 250) (hb : ∀ j, j < n → bt j ≤ 255) {t0 t : TpT} {k : TkT} {a e : Nat} (hg : f_X2_goOn t0 = some t) (T : TOK n bt t k a e) {lo lo' hi : Int32} (hlo : lo = lo' ∨ (hi.toInt < 0)) (hhi : hi.toInt ≤ 999) {i : Nat} (hi2 : i < 2) : (f_X2_number lo hi t0 = some (-1, t) ∧ t.2.2.1 = kI a ∧ a ≤ n ∧ ∃ k', f_X4_number (kI i) lo' hi k = some (0, k') ∧ k'.2.2.2.2.2.2.2.1 = kI a) ∨ (∃ (v : Nat) (k' : TkT) (a' e' : Nat) (t' : TpT), v ≤ 999 ∧ lo.toInt ≤ v ∧ (v : Int) ≤ hi.toInt ∧ f_X2_number lo hi t0 = some (kI v, t) ∧ e ≤ a' ∧ f_X2_goOn t = some t' ∧ TOK n bt t' k' a' e' ∧ f_X4_number (kI i) lo' hi k = some (1, k') ∧ k'.2.1 = upd k.2.1 i (kI v) ∧ k'.2.2.2.2.2.2.2.2 = k.2.2.2.2.2.2.2.2) := by
  obtain ⟨x, m, ae, en, h1, h2, h3, h4, hT⟩ := T
  have wr : f_X4_wrong k = some (0, (k.1, k.2.1, k.2.2.1, k.2.2.2.1, k.2.2.2.2.1, k.2.2.2.2.2.1, k.2.2.2.2.2.2.1, k.2.2.2.2.2.1, k.2.2.2.2.2.2.2.2)) := rfl
  have m1 : (-1 : Int32).toInt = -1 := by decide
  -- not a number in hand
  have no : ∀ (r : Int32), (r = -1 ∨ (∃ v : Nat, v < 2147483648 ∧ r = kI v ∧ ¬ (lo.toInt ≤ v ∧ (v : Int) ≤ hi.toInt))) → f_X2_numberInHand t = some r → f_X2_number lo hi t0 = some (-1, t) := fun r hr e1 => by
    unfold f_X2_number
    rw [bsm hg, bsm e1]
    rcases hr with rfl | ⟨v, hv, rfl, hr⟩
    · by_cases q : (-1 : Int32) < lo
      · rw [if_pos q]
      · rw [if_neg q]
        by_cases q2 : hi < -1
        · rw [if_pos q2]
        · rw [if_neg q2]
    · by_cases q : kI v < lo
      · rw [if_pos q]
      · rw [if_neg q]
        have q' : ¬ (kI v).toInt < lo.toInt := fun h => q (Int32.lt_iff_toInt_lt.mpr h)
        rw [kI_toInt hv] at q'
        rw [if_pos (Int32.lt_iff_toInt_lt.mpr (by rw [kI_toInt hv]; omega))]
  have fail : (∀ r1, f_X4_in (k.2.2.2.2.2.2.1).toInt64 lo'.toInt64 hi.toInt64 = some r1 → k.2.2.2.2.1 = 2 → r1 = 0) → f_X4_number (kI i) lo' hi k = some (0, (k.1, k.2.1, k.2.2.1, k.2.2.2.1, k.2.2.2.2.1, k.2.2.2.2.2.1, k.2.2.2.2.2.2.1, k.2.2.2.2.2.1, k.2.2.2.2.2.2.2.2)) := fun hin => by
    unfold f_X4_number
    by_cases q : k.2.2.2.2.1 = 2
    · have hin2 := fun r1 h => hin r1 h q
      rw [M4_in] at hin2
      rw [if_pos q, M4_in]
      by_cases q2 : lo'.toInt64.toInt ≤ (k.2.2.2.2.2.2.1).toInt64.toInt ∧ (k.2.2.2.2.2.2.1).toInt64.toInt ≤ hi.toInt64.toInt
      · rw [if_pos q2] at hin2
        exact absurd (hin2 1 rfl) one_ne
      · rw [if_neg q2, Option.bind_some, if_pos rfl, bsm wr, if_pos z01_0]
    · rw [if_neg q, bsm wr, if_pos z01_0]
  have s2 : ∀ {c : Int32}, k.2.2.2.2.1 = c → ¬ c = 2 → f_X4_number (kI i) lo' hi k = some (0, (k.1, k.2.1, k.2.2.1, k.2.2.2.1, k.2.2.2.2.1, k.2.2.2.2.2.1, k.2.2.2.2.2.2.1, k.2.2.2.2.2.1, k.2.2.2.2.2.2.2.2)) := fun {c} e1 e2 => fail (fun r1 _ h => absurd (e1.symm.trans h) e2)
  have nd : a < n → ¬ (48 ≤ bt a ∧ bt a ≤ 57) → f_X2_numberInHand t = some (-1) := fun ha hd => by
    have g : inB (kI a) 250 = true := inBT (by omega) (by decide)
    unfold f_X2_numberInHand
    rw [x.1, h1, if_neg (kI_leF (by omega) (by omega) ha), if_pos g, kI_nat (by omega), x.2 a ha, bsm (digE (hb a ha)), if_neg hd, if_pos rfl]
  rcases hT with ⟨q1, q2, q3⟩ | ⟨q1, q2, q3⟩ | ⟨q1, q2, q3, q4⟩ | ⟨q1, q2, q3, q4⟩ | ⟨q1, q2, q3, q4, q5, q6⟩
  · refine Or.inl ⟨no (-1) (Or.inl rfl) ?_, h1, by omega, _, s2 q1 (by decide), h3⟩
    unfold f_X2_numberInHand
    rw [x.1, h1, if_pos ((kI_le (by omega) (by omega)).mpr (by omega))]
  · have := q3 a (Nat.le_refl _) q2
    exact Or.inl ⟨no (-1) (Or.inl rfl) (nd (by omega) (by omega)), h1, by omega, _, s2 q1 (by decide), h3⟩
  · have ha : a < n := by omega
    have g : inB (kI a) 250 = true := inBT (by omega) (by decide)
    have dg := q3 a (Nat.le_refl _) q2
    have X0 : f_X2_numberInHand t = if e - a ≤ 3 then f_X2_numberInHand_L0 t fuel0 0 (kI a) else some (-1) := by
      unfold f_X2_numberInHand
      rw [x.1, h1, h2, if_neg (kI_leF (by omega) (by omega) ha), if_pos g, kI_nat (by omega), x.2 a ha, bsm (digE (hb a ha)), if_pos dg, if_neg one_ne, kI_sub ae, i3, if_kIle (by omega) (by omega)]
    have hi64 : hi.toInt64.toInt = hi.toInt := Int32.toInt_toInt64 hi
    have lo64 : lo'.toInt64.toInt = lo'.toInt := Int32.toInt_toInt64 lo'
    by_cases w : e - a ≤ 3
    · rw [if_pos w] at q4 X0
      have L := nvL hn x en h2 (e - a) 0 fuel0 (by omega) (by unfold fuel0; omega) q3
      rw [Nat.zero_add, Nat.add_zero] at L
      have XI : f_X2_numberInHand t = some (kI (nv bt a (e - a))) := X0.trans L
      obtain ⟨v, hv⟩ : ∃ v, nv bt a (e - a) = v := ⟨_, rfl⟩
      have v9 : v ≤ 999 := by
        have h9 := nv9 q3 (e - a) (by omega)
        have h10 : 10 ^ (e - a) ≤ 10 ^ 3 := Nat.pow_le_pow_right (by decide) w
        have : 10 ^ 3 = 1000 := by decide
        omega
      rw [hv] at XI q4
      have nu64 : (k.2.2.2.2.2.2.1).toInt64.toInt = v := by rw [q4, Int32.toInt_toInt64, kI_toInt (by omega)]
      by_cases z : lo.toInt ≤ v ∧ (v : Int) ≤ hi.toInt
      · have el : lo = lo' := by
          rcases hlo with h | h
          · exact h
          · omega
        subst el
        obtain ⟨a', e', t', k', r1, r2, r3, r4, r5⟩ := lkE hn hb en (t := t) (k := (k.1, upd k.2.1 i (kI v), k.2.2.1, k.2.2.2.1, k.2.2.2.2.1, k.2.2.2.2.2.1, k.2.2.2.2.2.2.1, k.2.2.2.2.2.2.2.1, k.2.2.2.2.2.2.2.2)) x m h2 h4
        refine Or.inr ⟨v, k', a', e', t', v9, z.1, z.2, ?_, r1, r2, r4, ?_, r5.1, r5.2.2⟩
        · unfold f_X2_number
          rw [bsm hg, bsm XI, if_neg (fun h => by have := Int32.lt_iff_toInt_lt.mp h; rw [kI_toInt (by omega)] at this; omega), if_neg (fun h => by have := Int32.lt_iff_toInt_lt.mp h; rw [kI_toInt (by omega)] at this; omega)]
        · unfold f_X4_number
          rw [if_pos q1, M4_in, nu64, hi64, lo64, if_pos z, Option.bind_some, if_neg one_ne, if_pos (inBT hi2 (by decide)), kI_nat (by omega), q4, ← q4]
          rw [q4] at r3 ⊢
          exact (bsm r3)
      · refine Or.inl ⟨no _ (Or.inr ⟨v, by omega, rfl, z⟩) XI, h1, by omega, _, fail (fun r1 hr _ => ?_), h3⟩
        rw [M4_in, nu64, hi64, lo64, if_neg (by
          rcases hlo with h | h
          · rw [← h]; exact z
          · omega)] at hr
        exact (Option.some.inj hr).symm
    · rw [if_neg w] at q4 X0
      refine Or.inl ⟨no (-1) (Or.inl rfl) X0, h1, by omega, _, fail (fun r1 hr _ => ?_), h3⟩
      rw [M4_in, q4, hi64, lo64, Int32.toInt_toInt64, kI_toInt (by omega), if_neg (by omega)] at hr
      exact (Option.some.inj hr).symm
  · exact Or.inl ⟨no (-1) (Or.inl rfl) (nd q2 (by omega)), h1, by omega, _, s2 q1 (by decide), h3⟩
  · exact Or.inl ⟨no (-1) (Or.inl rfl) (nd q2 q5), h1, by omega, _, s2 q1 (by decide), h3⟩
end TAQ
