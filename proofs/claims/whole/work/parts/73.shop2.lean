/-! ===== the whole text ===== -/
section TAU
variable {n : Nat} {bt : Nat → Nat}
theorem SF.wx {x y z} (h : SF x z) (e : y = x) : SF y z := by rw [e]; exact h
theorem zw {α β : Type} {x : Option (Int32 × α × β)} {r : α} {q : β} {b : Int32} (e : x = some (b, r, q)) (hb : b = 0 ∨ b = 1) : (x.bind fun r => if z01 r.1 then some (r.1, r.2.1, r.2.2) else none) = x := by
  rw [e, Option.bind_some]
  rcases hb with rfl | rfl
  · rw [if_pos z01_0]
  · rw [if_pos z01_1]
theorem zz {x y} (B : Nat) {e l : Nat} {c : Int32} (h : SF x y ∨ SO n bt B e c l x y) : (x.bind fun r => if z01 r.1 then some (r.1, r.2.1, r.2.2) else none) = x ∧ (y.bind fun r => if z01 r.1 then some (r.1, r.2.1, r.2.2) else none) = y := by
  rcases h with ⟨t, s, sp, k, a, h1, h2, _⟩ | ⟨t, s, sp, k, p, L, h1, h2, _⟩
  · exact ⟨zw h1 (Or.inl rfl), zw h2 (Or.inl rfl)⟩
  · exact ⟨zw h1 (Or.inr rfl), zw h2 (Or.inr rfl)⟩
theorem z1w {x y} (B : Nat) {e l : Nat} {c : Int32} (h : SF x y ∨ SO n bt B e c l x y) : (x.bind fun r => if r.1 = 0 then some (0, r.2.1, r.2.2) else some (1, r.2.1, r.2.2)) = x := by
  rcases h with ⟨t, s, sp, k, a, h1, h2, _⟩ | ⟨t, s, sp, k, p, L, h1, h2, _⟩
  · rw [h1, Option.bind_some, if_pos rfl]
  · rw [h1, Option.bind_some, if_neg one_ne]
theorem stm (hn : n ≤ 250) (hb : ∀ j, j < n → bt j ≤ 255) {t : TpT} {k : TkT} {a e : Nat} (T : TOK n bt t k a e) {p L B : Nat} {s y : ShT} (j : J p L B s y) (hB : 999 ≤ B) (hB' : B + 99 < 1000000000) : SF (f_X2_readStatement t s) (f_X4_statement y k) ∨ (SO n bt (B + 99) e k.2.2.2.2.2.2.2.2 L (f_X2_readStatement t s) (f_X4_statement y k) ∧ a < e) := by
  have l6 := j.l6
  have wr : f_X4_wrong k = some (0, (k.1, k.2.1, k.2.2.1, k.2.2.2.1, k.2.2.2.2.1, k.2.2.2.2.2.1, k.2.2.2.2.2.2.1, k.2.2.2.2.2.1, k.2.2.2.2.2.2.2.2)) := rfl
  have fin : ∀ {x y B0}, B0 ≤ B + 99 → a < e → SF x y ∨ SO n bt B0 e k.2.2.2.2.2.2.2.2 L x y → SF x y ∨ (SO n bt (B + 99) e k.2.2.2.2.2.2.2.2 L x y ∧ a < e) := fun {x y B0} h1 h2 h => by
    rcases h with h | h
    · exact Or.inl h
    · exact Or.inr ⟨h.mono h1 hB', h2⟩
  have ha : t.2.2.1 = kI a := T.2.2.2.2.1
  have hf : k.2.2.2.2.2.1 = kI a := T.2.2.2.2.2.2.1
  unfold f_X2_readStatement f_X4_statement
  rw [j.pp.2, j.LL.2]
  obtain ⟨b0, x0, m0, r0⟩ := wrd hn hb (i := 0) (by decide) T
  obtain ⟨b1, x1, m1, r1⟩ := wrd hn hb (i := 1) (by decide) T
  obtain ⟨b2, x2, m2, r2⟩ := wrd hn hb (i := 2) (by decide) T
  obtain ⟨b3, x3, m3, r3⟩ := wrd hn hb (i := 3) (by decide) T
  obtain ⟨b4, x4, m4, r4⟩ := wrd hn hb (i := 4) (by decide) T
  obtain ⟨b5, x5, m5, r5⟩ := wrd hn hb (i := 5) (by decide) T
  obtain ⟨b6, x6, m6, r6⟩ := wrd hn hb (i := 6) (by decide) T
  have l3 : ∀ i, i < 7 → 3 ≤ lnS i := fun i hi => (wdT i hi).2.1
  rw [bsm x0, bsm (show f_X4_isWord 7 k = _ from m0)]
  rcases r0 with rfl | ⟨rfl, q0, _⟩
  rotate_left
  · have q3 := l3 0 (by decide)
    rw [if_neg one_ne, if_neg one_ne]
    have S := stPeople hn hb T j
    rw [(zz B S).1, (zz B S).2]
    exact fin (by omega) (by omega) S
  rw [if_pos rfl, if_pos rfl, bsm x1, bsm (show f_X4_isWord 8 k = _ from m1)]
  rcases r1 with rfl | ⟨rfl, q1, q2⟩
  rotate_left
  · have q3 := l3 1 (by decide)
    have N := fun i h7 hne => wrdN hn hb (i := i) h7 hne T ⟨q1, q2⟩
    rw [if_neg one_ne, if_neg one_ne]
    unfold f_X1_hasRoomForLaw
    rw [j.LL.1, i6, if_kIle (by omega) (by omega), if_kIle (by omega) (by omega)]
    by_cases c : 6 ≤ L
    · rw [if_pos c, if_pos c, Option.bind_some, if_pos rfl, bsm (show f_X4_isWord 9 k = _ from N 2 (by decide) (by decide)), if_pos rfl, bsm (show f_X4_isWord 10 k = _ from N 3 (by decide) (by decide)), if_pos rfl, bsm (show f_X4_isWord 11 k = _ from N 4 (by decide) (by decide)), if_pos rfl, bsm (show f_X4_isWord 12 k = _ from N 5 (by decide) (by decide)), if_pos rfl, bsm (show f_X4_isWord 13 k = _ from N 6 (by decide) (by decide)), if_pos rfl, bsm wr, if_pos z01_0]
      exact Or.inl ⟨t, s, y, _, a, rfl, rfl, ha, hf⟩
    · rw [if_neg c, if_neg c, Option.bind_some, if_neg one_ne]
      have S := stLaw hn hb T j (by omega)
      rw [z1w B S]
      exact fin (by omega) (by omega) S
  rw [if_pos rfl, if_pos rfl, bsm x2, bsm (show f_X4_isWord 9 k = _ from m2)]
  rcases r2 with rfl | ⟨rfl, q1, q2⟩
  rotate_left
  · have q3 := l3 2 (by decide)
    rw [if_neg one_ne, if_neg one_ne]
    have S := stUse hn hb T j
    rw [(zz B S).1]
    rw [j.pp.2, j.LL.2] at S
    exact fin (by omega) (by omega) S
  rw [if_pos rfl, if_pos rfl, bsm x3, bsm (show f_X4_isWord 10 k = _ from m3)]
  rcases r3 with rfl | ⟨rfl, q1, q2⟩
  rotate_left
  · have q3 := l3 3 (by decide)
    rw [if_neg one_ne, if_neg one_ne]
    have S := stServe hn hb T j hB'
    rw [(zz (B + 99) S).1, (zz (B + 99) S).2]
    exact fin (by omega) (by omega) S
  rw [if_pos rfl, if_pos rfl, bsm x4, bsm (show f_X4_isWord 11 k = _ from m4)]
  rcases r4 with rfl | ⟨rfl, q1, q2⟩
  rotate_left
  · have q3 := l3 4 (by decide)
    rw [if_neg one_ne, if_neg one_ne]
    have S := stLet hn hb T j
    rw [(zz B S).1]
    exact fin (by omega) (by omega) S
  rw [if_pos rfl, if_pos rfl, bsm x5, bsm (show f_X4_isWord 12 k = _ from m5)]
  rcases r5 with rfl | ⟨rfl, q1, q2⟩
  rotate_left
  · have q3 := l3 5 (by decide)
    rw [if_neg one_ne, if_neg one_ne]
    have S := stLeave hn hb T j
    rw [(zz B S).1]
    exact fin (by omega) (by omega) S
  rw [if_pos rfl, if_pos rfl, bsm x6, bsm (show f_X4_isWord 13 k = _ from m6)]
  rcases r6 with rfl | ⟨rfl, q1, q2⟩
  rotate_left
  · have q3 := l3 6 (by decide)
    rw [if_neg one_ne, if_neg one_ne]
    have S := stCount hn hb T j hB
    rw [z1w B S]
    rw [j.pp.2, j.LL.2] at S
    exact fin (by omega) (by omega) S
  rw [if_pos rfl, if_pos rfl, bsm wr, if_pos z01_0]
  exact Or.inl ⟨t, s, y, _, a, rfl, rfl, ha, hf⟩
/-- the outcome of a text -/
def RF1 (x : Option (Int32 × TpT × ShT)) (y : Option (Int32 × ShT × TkT)) : Prop := ∃ t s sp k a, x = some (-1, t, s) ∧ y = some (0, sp, k) ∧ t.2.2.1 = kI a ∧ k.2.2.2.2.2.2.2.1 = kI a
def RO1 (B l : Nat) (x : Option (Int32 × TpT × ShT)) (y : Option (Int32 × ShT × TkT)) : Prop := ∃ t s sp k p L v, v ≤ 250 ∧ x = some (kI v, t, s) ∧ y = some (1, sp, k) ∧ J p L B s sp ∧ k.2.2.2.2.2.2.2.2 = kI v ∧ l ≤ L
theorem aft (hn : n ≤ 250) (hb : ∀ j, j < n → bt j ≤ 255) {BB l : Nat} (hBB : BB + 99 * 250 < 1000000000) : ∀ (d v f f' : Nat) {t : TpT} {k : TkT} {e p L B : Nat} {s y : ShT}, BEH n bt t k e → J p L B s y → v + d = 130 → d < f → d < f' → 2 * v ≤ e + 1 → 1 ≤ v → 999 ≤ B → B ≤ BB + 99 * v → k.2.2.2.2.2.2.2.2 = kI v → l ≤ L → RF1 ((f_X2_goOn t).bind fun r105 => if r105.2.2.1 < r105.2.1 then if inB r105.2.2.1 250 then if (r105.1 r105.2.2.1.toNatClampNeg) = 59 then f_X2_readInto_L0 f (kI (v + 1)) r105 s else some ((-1), r105, s) else none else some (kI v, r105, s)) (f_X4_readAll_L0 f' y k) ∨ RO1 (BB + 99 * 250) l ((f_X2_goOn t).bind fun r105 => if r105.2.2.1 < r105.2.1 then if inB r105.2.2.1 250 then if (r105.1 r105.2.2.1.toNatClampNeg) = 59 then f_X2_readInto_L0 f (kI (v + 1)) r105 s else some ((-1), r105, s) else none else some (kI v, r105, s)) (f_X4_readAll_L0 f' y k)
  | _, _, 0, _, _, _, _, _, _, _, _, _, _, _, _, h, _, _, _, _, _, _, _ => by omega
  | _, _, _, 0, _, _, _, _, _, _, _, _, _, _, _, _, h, _, _, _, _, _, _ => by omega
  | 0, v, f + 1, f' + 1, t, k, e, p, L, B, s, y, ⟨t', a', e', h1, T, h2⟩, _, hv, _, _, hve, _, _, _, _, _ => by
    have := T.2.2.1
    have := T.2.2.2.1
    omega
  | d + 1, v, f + 1, f' + 1, t, k, e, p, L, B, s, y, ⟨t', a', e', h1, T, h2⟩, j, hv, hf, hf', hve, hv1, hB, hBv, hc, hl => by
    obtain ⟨x, m, ae, en, g1, g2, g3, g4, hT⟩ := T
    have wr : f_X4_wrong k = some (0, (k.1, k.2.1, k.2.2.1, k.2.2.2.1, k.2.2.2.2.1, k.2.2.2.2.2.1, k.2.2.2.2.2.2.1, k.2.2.2.2.2.1, k.2.2.2.2.2.2.2.2)) := rfl
    rw [bsm h1, x.1, g1, f_X4_readAll_L0]
    have bad : a' < n → bt a' ≠ 59 → ¬ k.2.2.2.2.1 = 0 → ¬ k.2.2.2.2.1 = 3 → RF1 (if kI a' < kI n then if inB (kI a') 250 then if t'.1 (kI a').toNatClampNeg = 59 then f_X2_readInto_L0 (f + 1) (kI (v + 1)) t' s else some (-1, t', s) else none else some (kI v, t', s)) (if k.2.2.2.2.1 = 0 then some (1, y, k) else if k.2.2.2.2.1 = 3 then (f_X4_look k).bind fun r103 => (f_X4_statement y r103).bind fun r104 => if r104.1 = 0 then some (0, r104.2.1, r104.2.2) else f_X4_readAll_L0 f' r104.2.1 (r104.2.2.1, r104.2.2.2.1, r104.2.2.2.2.1, r104.2.2.2.2.2.1, r104.2.2.2.2.2.2.1, r104.2.2.2.2.2.2.2.1, r104.2.2.2.2.2.2.2.2.1, r104.2.2.2.2.2.2.2.2.2.1, (r104.2.2.2.2.2.2.2.2.2.2 + 1)) else (f_X4_wrong k).bind fun r106 => if z01 r106.1 then some (r106.1, y, r106.2) else none) := fun ha hne s0 s3 => by
      have g : inB (kI a') 250 = true := inBT (by omega) (by decide)
      have b := hb a' ha
      rw [if_pos ((kI_lt (by omega) (by omega)).mpr ha), if_pos g, kI_nat (by omega), x.2 a' ha, if_neg (show ¬ kI (bt a') = 59 from fun h => hne ((kI_eq (b := 59) (by omega) (by omega)).mp h)), if_neg s0, if_neg s3, bsm wr, if_pos z01_0]
      exact ⟨t', s, y, _, a', rfl, rfl, g1, g3⟩
    rcases hT with ⟨q1, q2, q3⟩ | ⟨q1, q2, q3⟩ | ⟨q1, q2, q3, q4⟩ | ⟨q1, q2, q3, q4⟩ | ⟨q1, q2, q3, q4, q5, q6⟩
    · rw [if_neg (kI_ltF (by omega) (by omega) (by omega)), if_pos q1]
      exact Or.inr ⟨t', s, y, k, p, L, v, by omega, rfl, rfl, j.mono (by omega) hBB, hc, hl⟩
    · have z := q3 a' (Nat.le_refl _) q2
      exact Or.inl (bad (by omega) (by omega) (by rw [q1]; decide) (by rw [q1]; decide))
    · have z := q3 a' (Nat.le_refl _) q2
      exact Or.inl (bad (by omega) (by omega) (by rw [q1]; decide) (by rw [q1]; decide))
    · have g : inB (kI a') 250 = true := inBT (by omega) (by decide)
      obtain ⟨a2, e2, t2, k2, w1, w2, w3, w4, w5⟩ := lkE hn hb en x m g2 g4
      rw [if_pos ((kI_lt (by omega) (by omega)).mpr q2), if_pos g, kI_nat (by omega), x.2 a' q2, q4, if_pos (show kI 59 = 59 from rfl), if_neg (by rw [q1]; decide), if_pos q1, bsm w3, f_X2_readInto_L0, show (250 : Int32) = kI 250 from rfl, if_neg (kI_ltF (by omega) (by omega) (by omega)), bsm w2]
      rcases stm hn hb w4 j hB (by omega) with ⟨t3, s3, sp3, k3, a3, z1, z2, z3, z4⟩ | ⟨⟨t3, s3, sp3, k3, p3, L3, z1, z2, z3, z4, z5, z7⟩, hae⟩
      · rw [bsm z1, bsm z2, if_pos rfl, if_pos rfl]
        exact Or.inl ⟨t3, s3, sp3, k3, a3, rfl, rfl, z3, z4⟩
      · rw [bsm z1, bsm z2, if_neg one_ne, if_neg one_ne]
        dsimp only
        have z6 : k3.2.2.2.2.2.2.2.2 + 1 = kI (v + 1) := by rw [z5, w5.2.2, hc]; exact kI_add v 1
        rw [z6, show kI (v + 1) + 1 = kI (v + 1 + 1) from kI_add (v + 1) 1]
        exact aft hn hb hBB d (v + 1) f f' (t := t3) (k := (k3.1, k3.2.1, k3.2.2.1, k3.2.2.2.1, k3.2.2.2.2.1, k3.2.2.2.2.2.1, k3.2.2.2.2.2.2.1, k3.2.2.2.2.2.2.2.1, kI (v + 1))) z4 z3 (by omega) (by omega) (by omega) (by omega) (by omega) (by omega) (by omega) rfl (by omega)
    · exact Or.inl (bad q2 q4 (by rw [q1]; decide) (by rw [q1]; decide))
end TAU
