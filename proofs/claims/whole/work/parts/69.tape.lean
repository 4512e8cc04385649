/-! ===== the two readers of the tape ===== -/
theorem letE {c : Nat} (h : c ≤ 255) : f_X2_isLetter (kI c) = some (if 97 ≤ c ∧ c ≤ 122 then 1 else 0) := by
  unfold f_X2_isLetter
  rw [show (97 : Int32) = kI 97 from rfl, show (122 : Int32) = kI 122 from rfl, if_kIlt (by omega) (by omega), if_kIlt (by omega) (by omega)]
  by_cases c1 : c < 97
  · rw [if_pos c1, if_neg (by omega)]
  · rw [if_neg c1]
    by_cases c2 : 122 < c
    · rw [if_pos c2, if_neg (by omega)]
    · rw [if_neg c2, if_pos (by omega)]
theorem digE {c : Nat} (h : c ≤ 255) : f_X2_isDigit (kI c) = some (if 48 ≤ c ∧ c ≤ 57 then 1 else 0) := by
  unfold f_X2_isDigit
  rw [show (48 : Int32) = kI 48 from rfl, show (57 : Int32) = kI 57 from rfl, if_kIlt (by omega) (by omega), if_kIlt (by omega) (by omega)]
  by_cases c1 : c < 48
  · rw [if_pos c1, if_neg (by omega)]
  · rw [if_neg c1]
    by_cases c2 : 57 < c
    · rw [if_pos c2, if_neg (by omega)]
    · rw [if_neg c2, if_pos (by omega)]
theorem let4 (a : Int32) : f_X4_isLetter a = f_X2_isLetter a := rfl
theorem dig4 (a : Int32) : f_X4_isDigit a = f_X2_isDigit a := rfl
def XT (n : Nat) (bt : Nat → Nat) (t : TpT) : Prop := t.2.1 = kI n ∧ ∀ j, j < n → t.1 j = kI (bt j)
def MT (n : Nat) (bt : Nat → Nat) (k : TkT) : Prop := k.2.2.1 = kI n ∧ ∀ j, j < n → k.1 j = kI (bt j)
/-- the value of digits -/
def nv (bt : Nat → Nat) (a : Nat) : Nat → Nat
  | 0 => 0
  | k + 1 => 10 * nv bt a k + (bt (a + k) - 48)
/-- what is in hand, of sort s, from a to e -/
def Tok (n : Nat) (bt : Nat → Nat) (a e : Nat) (so nu : Int32) : Prop :=
  (so = 0 ∧ a = n ∧ e = n) ∨ (so = 1 ∧ a < e ∧ ∀ j, a ≤ j → j < e → 97 ≤ bt j) ∨ (so = 2 ∧ a < e ∧ (∀ j, a ≤ j → j < e → 48 ≤ bt j ∧ bt j ≤ 57) ∧ nu = if e - a ≤ 3 then kI (nv bt a (e - a)) else kI 10000) ∨ (so = 3 ∧ a < n ∧ e = a + 1 ∧ bt a = 59) ∨ (so = 4 ∧ a < n ∧ e = a + 1 ∧ bt a ≠ 59 ∧ ¬ (48 ≤ bt a ∧ bt a ≤ 57) ∧ ¬ (97 ≤ bt a ∧ bt a ≤ 122))
def TOK (n : Nat) (bt : Nat → Nat) (t : TpT) (k : TkT) (a e : Nat) : Prop := XT n bt t ∧ MT n bt k ∧ a ≤ e ∧ e ≤ n ∧ t.2.2.1 = kI a ∧ t.2.2.2 = kI e ∧ k.2.2.2.2.2.1 = kI a ∧ k.2.2.2.1 = kI e ∧ Tok n bt a e k.2.2.2.2.1 k.2.2.2.2.2.2.1
/-- what a look keeps -/
def Kp (k k' : TkT) : Prop := k'.2.1 = k.2.1 ∧ k'.2.2.2.2.2.2.2.1 = k.2.2.2.2.2.2.2.1 ∧ k'.2.2.2.2.2.2.2.2 = k.2.2.2.2.2.2.2.2
theorem Kp.rf (k : TkT) : Kp k k := ⟨rfl, rfl, rfl⟩
theorem Kp.tr {a b c : TkT} (h : Kp a b) (h' : Kp b c) : Kp a c := ⟨h'.1.trans h.1, h'.2.1.trans h.2.1, h'.2.2.trans h.2.2⟩
section TAP
variable {n : Nat} {bt : Nat → Nat}
theorem lkA (hn : n ≤ 250) (hb : ∀ j, j < n → bt j ≤ 255) {a : Nat} : ∀ (d e f f' : Nat) (t : TpT) (k : TkT), XT n bt t → MT n bt k → e + d = n → d < f → d < f' → t.2.2.2 = kI e → k.2.2.2.1 = kI e → (∀ j, a ≤ j → j < e → 97 ≤ bt j) → ∃ e' t' k', e ≤ e' ∧ e' ≤ n ∧ f_X2_goOn_L1 f t = some t' ∧ f_X4_look_L1 f' k = some k' ∧ XT n bt t' ∧ MT n bt k' ∧ t'.2.2.1 = t.2.2.1 ∧ t'.2.2.2 = kI e' ∧ k'.2.2.2.1 = kI e' ∧ k'.2.2.2.2.1 = k.2.2.2.2.1 ∧ k'.2.2.2.2.2.1 = k.2.2.2.2.2.1 ∧ k'.2.2.2.2.2.2.1 = k.2.2.2.2.2.2.1 ∧ Kp k k' ∧ ∀ j, a ≤ j → j < e' → 97 ≤ bt j
  | _, _, 0, _, _, _, _, _, _, h, _, _, _, _ => by omega
  | _, _, _, 0, _, _, _, _, _, _, h, _, _, _ => by omega
  | 0, e, f + 1, f' + 1, t, k, x, m, he, _, _, h1, h2, h3 => by
    refine ⟨e, t, k, Nat.le_refl _, by omega, ?_, ?_, x, m, rfl, h1, h2, rfl, rfl, rfl, Kp.rf k, h3⟩
    · rw [f_X2_goOn_L1, x.1, h1, if_pos ((kI_le (by omega) (by omega)).mpr (by omega))]
    · rw [f_X4_look_L1, m.1, h2, if_pos ((kI_le (by omega) (by omega)).mpr (by omega))]
  | d + 1, e, f + 1, f' + 1, t, k, x, m, he, hf, hf', h1, h2, h3 => by
    have g : inB (kI e) 250 = true := inBT (by omega) (by decide)
    have b := hb e (by omega)
    by_cases c : 97 ≤ bt e ∧ bt e ≤ 122
    · obtain ⟨e', t', k', a1, a2, a3, a4, a5, a6, a7, a8, a9, a10, a11, a12, a13, a14⟩ := lkA hn hb d (e + 1) f f' (t.1, t.2.1, t.2.2.1, kI (e + 1)) (k.1, k.2.1, k.2.2.1, kI (e + 1), k.2.2.2.2.1, k.2.2.2.2.2.1, k.2.2.2.2.2.2.1, k.2.2.2.2.2.2.2.1, k.2.2.2.2.2.2.2.2) x m (by omega) (by omega) (by omega) rfl rfl (fun j q1 q2 => by
        by_cases z : j = e
        · rw [z]; exact c.1
        · exact h3 j q1 (by omega))
      refine ⟨e', t', k', by omega, a2, ?_, ?_, a5, a6, a7, a8, a9, a10, a11, a12, a13, a14⟩
      · rw [f_X2_goOn_L1, x.1, h1, if_neg (kI_leF (by omega) (by omega) (by omega)), if_pos g, kI_nat (by omega), x.2 e (by omega), bsm (letE b), if_pos c, if_neg one_ne, show kI e + 1 = kI (e + 1) from kI_add e 1, ← x.1]
        exact a3
      · rw [f_X4_look_L1, m.1, h2, if_neg (kI_leF (by omega) (by omega) (by omega)), if_pos g, kI_nat (by omega), m.2 e (by omega), let4, bsm (letE b), if_pos c, if_neg one_ne, show kI e + 1 = kI (e + 1) from kI_add e 1, ← m.1]
        exact a4
    · refine ⟨e, t, k, Nat.le_refl _, by omega, ?_, ?_, x, m, rfl, h1, h2, rfl, rfl, rfl, Kp.rf k, h3⟩
      · rw [f_X2_goOn_L1, x.1, h1, if_neg (kI_leF (by omega) (by omega) (by omega)), if_pos g, kI_nat (by omega), x.2 e (by omega), bsm (letE b), if_neg c, if_pos rfl]
      · rw [f_X4_look_L1, m.1, h2, if_neg (kI_leF (by omega) (by omega) (by omega)), if_pos g, kI_nat (by omega), m.2 e (by omega), let4, bsm (letE b), if_neg c, if_pos rfl]
theorem lkD (hn : n ≤ 250) (hb : ∀ j, j < n → bt j ≤ 255) {a : Nat} : ∀ (d e f f' : Nat) (t : TpT) (k : TkT), XT n bt t → MT n bt k → e + d = n → d < f → d < f' → t.2.2.2 = kI e → k.2.2.2.1 = kI e → a ≤ e → k.2.2.2.2.2.1 = kI a → (k.2.2.2.2.2.2.1 = if e - a ≤ 3 then kI (nv bt a (e - a)) else kI 10000) → (∀ j, a ≤ j → j < e → 48 ≤ bt j ∧ bt j ≤ 57) → ∃ e' t' k', e ≤ e' ∧ e' ≤ n ∧ f_X2_goOn_L2 f t = some t' ∧ f_X4_look_L2 f' k = some k' ∧ XT n bt t' ∧ MT n bt k' ∧ t'.2.2.1 = t.2.2.1 ∧ t'.2.2.2 = kI e' ∧ k'.2.2.2.1 = kI e' ∧ k'.2.2.2.2.1 = k.2.2.2.2.1 ∧ k'.2.2.2.2.2.1 = kI a ∧ (k'.2.2.2.2.2.2.1 = if e' - a ≤ 3 then kI (nv bt a (e' - a)) else kI 10000) ∧ Kp k k' ∧ ∀ j, a ≤ j → j < e' → 48 ≤ bt j ∧ bt j ≤ 57
  | _, _, 0, _, _, _, _, _, _, h, _, _, _, _, _, _, _ => by omega
  | _, _, _, 0, _, _, _, _, _, _, h, _, _, _, _, _, _ => by omega
  | 0, e, f + 1, f' + 1, t, k, x, m, he, _, _, h1, h2, ha, hfr, hnu, h3 => by
    refine ⟨e, t, k, Nat.le_refl _, by omega, ?_, ?_, x, m, rfl, h1, h2, rfl, hfr, hnu, Kp.rf k, h3⟩
    · rw [f_X2_goOn_L2, x.1, h1, if_pos ((kI_le (by omega) (by omega)).mpr (by omega))]
    · rw [f_X4_look_L2, m.1, h2, if_pos ((kI_le (by omega) (by omega)).mpr (by omega))]
  | d + 1, e, f + 1, f' + 1, t, k, x, m, he, hf, hf', h1, h2, ha, hfr, hnu, h3 => by
    have g : inB (kI e) 250 = true := inBT (by omega) (by decide)
    have b := hb e (by omega)
    by_cases c : 48 ≤ bt e ∧ bt e ≤ 57
    · obtain ⟨w, hw⟩ : ∃ w, (if e + 1 - a ≤ 3 then kI (nv bt a (e + 1 - a)) else kI 10000) = w := ⟨_, rfl⟩
      obtain ⟨e', t', k', a1, a2, a3, a4, a5, a6, a7, a8, a9, a10, a11, a12, a13, a14⟩ := lkD hn hb (a := a) d (e + 1) f f' (t.1, t.2.1, t.2.2.1, kI (e + 1)) (k.1, k.2.1, k.2.2.1, kI (e + 1), k.2.2.2.2.1, k.2.2.2.2.2.1, w, k.2.2.2.2.2.2.2.1, k.2.2.2.2.2.2.2.2) x m (by omega) (by omega) (by omega) rfl rfl (by omega) hfr hw.symm (fun j q1 q2 => by
        by_cases z : j = e
        · rw [z]; exact c
        · exact h3 j q1 (by omega))
      refine ⟨e', t', k', by omega, a2, ?_, ?_, a5, a6, a7, a8, a9, a10, a11, a12, a13, a14⟩
      · rw [f_X2_goOn_L2, x.1, h1, if_neg (kI_leF (by omega) (by omega) (by omega)), if_pos g, kI_nat (by omega), x.2 e (by omega), bsm (digE b), if_pos c, if_neg one_ne, show kI e + 1 = kI (e + 1) from kI_add e 1, ← x.1]
        exact a3
      · rw [f_X4_look_L2, m.1, h2, if_neg (kI_leF (by omega) (by omega) (by omega)), if_pos g, kI_nat (by omega), m.2 e (by omega), dig4, bsm (digE b), if_pos c, if_neg one_ne, show kI e + 1 = kI (e + 1) from kI_add e 1, hfr, kI_sub ha, i3, if_kIle (by omega) (by omega), if_pos g]
        rw [hfr] at a4
        by_cases q : 3 ≤ e - a
        · rw [if_neg (by omega)] at hw
          rw [if_pos q, show (10000 : Int32) = w from hw, ← m.1]
          exact a4
        · rw [if_pos (by omega)] at hw hnu
          rw [show e + 1 - a = (e - a) + 1 by omega, nv, show a + (e - a) = e by omega] at hw
          rw [if_neg q, hnu, show (10 : Int32) = kI 10 from rfl, show (48 : Int32) = kI 48 from rfl, kI_mul, kI_add, kI_sub (by omega), show nv bt a (e - a) * 10 + bt e - 48 = 10 * nv bt a (e - a) + (bt e - 48) by omega, hw, ← m.1]
          exact a4
    · refine ⟨e, t, k, Nat.le_refl _, by omega, ?_, ?_, x, m, rfl, h1, h2, rfl, hfr, hnu, Kp.rf k, h3⟩
      · rw [f_X2_goOn_L2, x.1, h1, if_neg (kI_leF (by omega) (by omega) (by omega)), if_pos g, kI_nat (by omega), x.2 e (by omega), bsm (digE b), if_neg c, if_pos rfl]
      · rw [f_X4_look_L2, m.1, h2, if_neg (kI_leF (by omega) (by omega) (by omega)), if_pos g, kI_nat (by omega), m.2 e (by omega), dig4, bsm (digE b), if_neg c, if_pos rfl]
end TAP
