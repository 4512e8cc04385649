/-! ===== words and statements ===== -/
def cc (i v : Nat) : Nat := (chS i (kI v)).toNatClampNeg
theorem wdT : ∀ i, i < 7 → lnS (i + 7) = lnS i ∧ 3 ≤ lnS i ∧ lnS i ≤ 6 ∧ ∀ v, v < lnS i → chS (i + 7) (kI v) = chS i (kI v) ∧ chS i (kI v) = kI (cc i v) ∧ 97 ≤ cc i v ∧ cc i v ≤ 122 := by decide +kernel
theorem wdN : ∀ i, i < 7 → i = 1 ∨ lnS i ≠ lnS 1 ∨ ∃ v, v < lnS 1 ∧ cc i v ≠ cc 1 v := by decide +kernel
theorem pmi {p : Nat} (h : p ≤ 16) : (kI p - 1).toInt = (p : Int) - 1 ∧ (kI p - 2).toInt = (p : Int) - 2 ∧ (16 - kI p).toInt = 16 - (p : Int) := by
  have : ∀ p, p < 17 → (kI p - 1).toInt = (p : Int) - 1 ∧ (kI p - 2).toInt = (p : Int) - 2 ∧ (16 - kI p).toInt = 16 - (p : Int) := by decide +kernel
  exact this p (by omega)
section TAR
variable {n : Nat} {bt : Nat → Nat}
theorem wdL (hn : n ≤ 250) (hb : ∀ j, j < n → bt j ≤ 255) {i : Nat} (hi : i < 7) {t : TpT} {k : TkT} (x : XT n bt t) (m : MT n bt k) {a : Nat} (ha : a + lnS i ≤ n) (h1 : t.2.2.1 = kI a) (h3 : k.2.2.2.2.2.1 = kI a) : ∀ (d q f f' : Nat), q + d = lnS i → d < f → d < f' → ∃ b, f_X2_isWord_L0 i t f (kI q) = some b ∧ f_X4_isWord_L0 (i + 7) k f' (kI q) = some b ∧ (b = 0 ∨ (b = 1 ∧ ∀ v, q ≤ v → v < lnS i → bt (a + v) = cc i v))
  | _, _, 0, _, _, h, _ => by omega
  | _, _, _, 0, _, _, h => by omega
  | 0, q, f + 1, f' + 1, hq, _, _ => by
    obtain ⟨w1, w2, w3, w4⟩ := wdT i hi
    have c : Int32.ofNat (lnS i) ≤ kI q := (kI_le (a := lnS i) (by omega) (by omega)).mpr (by omega)
    refine ⟨1, ?_, ?_, Or.inr ⟨rfl, fun v h1 h2 => by omega⟩⟩
    · rw [f_X2_isWord_L0, if_pos c]
    · rw [f_X4_isWord_L0, w1, if_pos c]
  | d + 1, q, f + 1, f' + 1, hq, hf, hf' => by
    obtain ⟨w1, w2, w3, w4⟩ := wdT i hi
    obtain ⟨u1, u2, u3, u4⟩ := w4 q (by omega)
    have c : ¬ Int32.ofNat (lnS i) ≤ kI q := kI_leF (a := lnS i) (by omega) (by omega) (by omega)
    have g : inB (kI (a + q)) 250 = true := inBT (by omega) (by decide)
    have g2 : inB (kI q) (lnS i) = true := inBT (by omega) (by omega)
    have b := hb (a + q) (by omega)
    obtain ⟨r, e1, e2, e3⟩ := wdL hn hb hi x m ha h1 h3 d (q + 1) f f' (by omega) (by omega) (by omega)
    rw [f_X2_isWord_L0, f_X4_isWord_L0, w1, if_neg c, if_neg c, x.1, h1, h3, kI_add, if_neg (kI_leF (by omega) (by omega) (by omega)), if_pos g, if_pos g, if_pos g2, if_pos g2, kI_nat (by omega), x.2 _ (by omega), m.2 _ (by omega), u1, u2, if_kI (by omega) (by omega), if_kI (by omega) (by omega), show kI q + 1 = kI (q + 1) from kI_add q 1]
    by_cases z : bt (a + q) = cc i q
    · rw [if_pos z, if_pos z]
      refine ⟨r, e1, e2, ?_⟩
      rcases e3 with e3 | ⟨e3, e4⟩
      · exact Or.inl e3
      · refine Or.inr ⟨e3, fun v h1 h2 => ?_⟩
        by_cases y : v = q
        · rw [y]; exact z
        · exact e4 v (by omega) h2
    · rw [if_neg z, if_neg z]
      exact ⟨0, rfl, rfl, Or.inl rfl⟩
theorem wrd (hn : n ≤ 250) (hb : ∀ j, j < n → bt j ≤ 255) {i : Nat} (hi : i < 7) {t : TpT} {k : TkT} {a e : Nat} (T : TOK n bt t k a e) : ∃ b, f_X2_isWord i t = some b ∧ f_X4_isWord (i + 7) k = some b ∧ (b = 0 ∨ (b = 1 ∧ e = a + lnS i ∧ ∀ v, v < lnS i → bt (a + v) = cc i v)) := by
  obtain ⟨x, m, ae, en, h1, h2, h3, h4, hT⟩ := T
  obtain ⟨w1, w2, w3, w4⟩ := wdT i hi
  unfold f_X2_isWord f_X4_isWord
  rw [h1, h2, h3, h4, w1, kI_sub ae]
  have cE : ∀ {α : Type} {y z : α}, (if kI (e - a) = Int32.ofNat (lnS i) then y else z) = if e - a = lnS i then y else z := fun {α y z} => if_kI (b := lnS i) (by omega) (by omega)
  rw [cE, cE]
  by_cases c : e - a = lnS i
  · obtain ⟨b, e1, e2, e3⟩ := wdL hn hb hi x m (a := a) (by omega) h1 h3 (lnS i) 0 fuel0 fuel0 (by omega) (by unfold fuel0; omega) (by unfold fuel0; omega)
    rw [if_pos c, if_pos c, show f_X2_isWord_L0 i t fuel0 0 = some b from e1, show f_X4_isWord_L0 (i + 7) k fuel0 0 = some b from e2]
    rcases hT with ⟨q1, q2, q3⟩ | ⟨q1, q2, q3⟩ | ⟨q1, q2, q3, q4⟩ | ⟨q1, q2, q3, q4⟩ | ⟨q1, q2, q3, q4, q5, q6⟩
    · omega
    · rw [q1, if_pos rfl]
      refine ⟨b, rfl, rfl, ?_⟩
      rcases e3 with e3 | ⟨e3, e4⟩
      · exact Or.inl e3
      · exact Or.inr ⟨e3, by omega, fun v hv => e4 v (Nat.zero_le _) hv⟩
    · rw [q1, if_neg (by decide)]
      rcases e3 with e3 | ⟨e3, e4⟩
      · exact ⟨b, rfl, by rw [e3], Or.inl e3⟩
      · have z1 := e4 0 (Nat.le_refl _) (by omega)
        have z2 := (w4 0 (by omega)).2.2.1
        have z3 := (q3 a (Nat.le_refl _) q2).2
        rw [Nat.add_zero] at z1
        omega
    · omega
    · omega
  · rw [if_neg c, if_neg c]
    refine ⟨0, rfl, ?_, Or.inl rfl⟩
    by_cases z : k.2.2.2.2.1 = 1
    · rw [if_pos z]
    · rw [if_neg z]
/-- another word than law -/
theorem wrdN (hn : n ≤ 250) (hb : ∀ j, j < n → bt j ≤ 255) {i : Nat} (hi : i < 7) (hne : i ≠ 1) {t : TpT} {k : TkT} {a e : Nat} (T : TOK n bt t k a e) (hl : e = a + lnS 1 ∧ ∀ v, v < lnS 1 → bt (a + v) = cc 1 v) : f_X4_isWord (i + 7) k = some 0 := by
  obtain ⟨b, e1, e2, e3⟩ := wrd hn hb hi T
  rcases e3 with rfl | ⟨_, e4, e5⟩
  · exact e2
  · exfalso
    rcases wdN i hi with h | h | ⟨v, hv, h⟩
    · exact hne h
    · omega
    · have h1 := hl.2 v hv
      have h2 := e5 v (by omega)
      omega
def BEH (n : Nat) (bt : Nat → Nat) (t : TpT) (k : TkT) (e : Nat) : Prop := ∃ t' a' e', f_X2_goOn t = some t' ∧ TOK n bt t' k a' e' ∧ e ≤ a'
def SF (x : Option (Int32 × TpT × ShT)) (y : Option (Int32 × ShT × TkT)) : Prop := ∃ t s sp k a, x = some (0, t, s) ∧ y = some (0, sp, k) ∧ t.2.2.1 = kI a ∧ k.2.2.2.2.2.2.2.1 = kI a
def SO (n : Nat) (bt : Nat → Nat) (B e : Nat) (c : Int32) (l : Nat) (x : Option (Int32 × TpT × ShT)) (y : Option (Int32 × ShT × TkT)) : Prop := ∃ t s sp k p L, x = some (1, t, s) ∧ y = some (1, sp, k) ∧ J p L B s sp ∧ BEH n bt t k e ∧ k.2.2.2.2.2.2.2.2 = c ∧ l ≤ L
/-- the first number -/
theorem tel (hn : n ≤ 250) (hb : ∀ j, j < n → bt j ≤ 255) {t : TpT} {k : TkT} {a e : Nat} (T : TOK n bt t k a e) {lo lo' hi : Int32} (hlo : lo = lo' ∨ (hi.toInt < 0)) (hhi : hi.toInt ≤ 999) : (∃ t1 k' a1, f_X2_number lo hi t = some (-1, t1) ∧ t1.2.2.1 = kI a1 ∧ f_X4_tells lo' hi k = some (0, k') ∧ k'.2.2.2.2.2.2.2.1 = kI a1) ∨ (∃ (v : Nat) (k' : TkT) (a' e' : Nat) (t1 t' : TpT), v ≤ 999 ∧ lo.toInt ≤ v ∧ (v : Int) ≤ hi.toInt ∧ f_X2_number lo hi t = some (kI v, t1) ∧ e ≤ a' ∧ f_X2_goOn t1 = some t' ∧ TOK n bt t' k' a' e' ∧ f_X4_tells lo' hi k = some (1, k') ∧ k'.2.1 0 = kI v ∧ k'.2.2.2.2.2.2.2.2 = k.2.2.2.2.2.2.2.2) := by
  obtain ⟨a1, e1, t1, k1, g1, g2, g3, g4, g5⟩ := lkE hn hb T.2.2.2.1 T.1 T.2.1 T.2.2.2.2.2.1 T.2.2.2.2.2.2.2.1
  unfold f_X4_tells
  rw [bsm g3]
  rcases numb hn hb g2 g4 hlo hhi (i := 0) (by decide) with ⟨r1, r2, r3, k', r4, r5⟩ | ⟨v, k', a', e', t', r1, r2, r3, r4, r5, r6, r7, r8, r9, r10⟩
  · refine Or.inl ⟨t1, k', a1, r1, r2, ?_, r5⟩
    rw [bsm (show f_X4_number 0 lo' hi k1 = _ from r4), if_pos z01_0]
  · refine Or.inr ⟨v, k', a', e', t1, t', r1, r2, r3, r4, by have := g4.2.2.1; omega, r6, r7, ?_, by rw [r9]; exact upd_at, r10.trans g5.2.2⟩
    rw [bsm (show f_X4_number 0 lo' hi k1 = _ from r8), if_pos z01_1]
theorem pplL {t : TpT} {k : TkT} {L v : Nat} (hv : k.2.1 0 = kI v) (hv9 : v ≤ 999) : ∀ (d q f f' p : Nat) {B : Nat} {s y : ShT}, J p L B s y → q + d = v → p + d ≤ 16 → d < f → d < f' → ∃ s' y', f_X2_readPeople_L0 (kI v) f (kI q) t s = some (1, t, s') ∧ f_X4_peopleTold_L0 f' (kI q) y k = some (1, y', k) ∧ J (p + d) L B s' y'
  | _, _, 0, _, _, _, _, _, _, _, _, h, _ => by omega
  | _, _, _, 0, _, _, _, _, _, _, _, _, h => by omega
  | 0, q, f + 1, f' + 1, p, _, s, y, j, hq, _, _, _ => by
    have g0 : inB 0 2 = true := inBT (a := 0) (by decide) (by decide)
    refine ⟨s, y, ?_, ?_, j⟩
    · rw [f_X2_readPeople_L0, if_pos ((kI_le (by omega) (by omega)).mpr (by omega)), if_neg (kI_m1 (by omega))]
    · rw [f_X4_peopleTold_L0, if_pos g0, z0, hv, if_pos ((kI_le (by omega) (by omega)).mpr (by omega))]
  | d + 1, q, f + 1, f' + 1, p, _, s, y, j, hq, hp, hf, hf' => by
    have g0 : inB 0 2 = true := inBT (a := 0) (by decide) (by decide)
    obtain ⟨s1, y1, e1, e2, j1⟩ := j.add (by omega)
    obtain ⟨s', y', f1, f2, j2⟩ := pplL (t := t) hv hv9 d (q + 1) f f' (p + 1) j1 (by omega) (by omega) (by omega) (by omega)
    refine ⟨s', y', ?_, ?_, by rw [show p + (d + 1) = p + 1 + d by omega]; exact j2⟩
    · rw [f_X2_readPeople_L0, if_neg (kI_leF (by omega) (by omega) (by omega)), bsm e1, show kI q + 1 = kI (q + 1) from kI_add q 1]
      exact f1
    · rw [f_X4_peopleTold_L0, if_pos g0, z0, hv, if_neg (kI_leF (by omega) (by omega) (by omega)), bsm e2, show kI q + 1 = kI (q + 1) from kI_add q 1]
      exact f2
theorem srvL {t : TpT} {p L v : Nat} (hp : 0 < p) (hL : 0 < L) (hv9 : v ≤ 999) : ∀ (d q f f' : Nat) {B : Nat} {s y : ShT}, J p L B s y → q + d = v → B + d < 1000000000 → d < f → d < f' → ∃ s' y', f_X2_readServe_L0 (kI v) f (kI q) t s = some (1, t, s') ∧ f_X4_goes_L0 (kI v) f' (kI q) y = some y' ∧ J p L (B + d) s' y'
  | _, _, 0, _, _, _, _, _, _, _, h, _ => by omega
  | _, _, _, 0, _, _, _, _, _, _, _, h => by omega
  | 0, q, f + 1, f' + 1, _, s, y, j, hq, _, _, _ => by
    refine ⟨s, y, ?_, ?_, j⟩
    · rw [f_X2_readServe_L0, if_pos ((kI_le (by omega) (by omega)).mpr (by omega)), if_neg (kI_m1 (by omega))]
    · rw [f_X4_goes_L0, if_pos ((kI_le (by omega) (by omega)).mpr (by omega))]
  | d + 1, q, f + 1, f' + 1, B2, s, y, j, hq, hB, hf, hf' => by
    obtain ⟨s1, y1, z, hz, l1, l2, e1, e2, j1⟩ := j.turn hp hL (by omega)
    obtain ⟨s', y', f1, f2, j2⟩ := srvL (t := t) hp hL hv9 d (q + 1) f f' j1 (by omega) (by omega) (by omega) (by omega)
    refine ⟨s', y', ?_, ?_, by rw [show B2 + (d + 1) = B2 + 1 + d by omega]; exact j2⟩
    · rw [f_X2_readServe_L0, if_neg (kI_leF (by omega) (by omega) (by omega)), bsm e1, show kI q + 1 = kI (q + 1) from kI_add q 1]
      exact f1
    · rw [f_X4_goes_L0, if_neg (kI_leF (by omega) (by omega) (by omega)), bsm e2, show kI q + 1 = kI (q + 1) from kI_add q 1]
      exact f2
end TAR
