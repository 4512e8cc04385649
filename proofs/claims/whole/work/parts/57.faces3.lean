/-! ===== still more, in thought ===== -/
theorem absT : ∀ a, a < 16 → ∀ b, b < 16 → (decide (f_J9_abs_0f7a4 (kI a - kI b) = some 1) = (decide (kI a - kI b = 1) || decide (kI a - kI b = -1))) ∧ (f_J9_abs_0f7a4 (kI a - kI b)).isSome = true := by decide +kernel
theorem kI_or (a b : Nat) : kI a ||| kI b = kI (a ||| b) := by
  apply Int32.toBitVec.inj
  unfold kI
  rw [Int32.toBitVec_or, Int32.toBitVec_ofNat', Int32.toBitVec_ofNat', Int32.toBitVec_ofNat']
  apply BitVec.eq_of_getLsbD_eq
  intro i hi
  simp [BitVec.getLsbD_ofNat, hi]
theorem shlT : ∀ x, x < 16 → (1 : Int32) <<< (kI x &&& 31) = kI (2 ^ x) := by decide +kernel
theorem orb {w x : Nat} (hw : w < 65536) (hx : x < 16) : ∃ w', w' < 65536 ∧ kI w ||| ((1 : Int32) <<< (kI x &&& 31)) = kI w' := by
  refine ⟨w ||| 2 ^ x, ?_, by rw [shlT x hx, kI_or]⟩
  have h2 : 2 ^ x < 2 ^ 16 := Nat.pow_lt_pow_right (by decide) hx
  exact Nat.or_lt_two_pow (n := 16) hw h2
section FA3
variable {s m tr sp : ShT} {p L B : Nat} {rf mf : AI} {th : ShT} {tb : Bool} {tp : ShT} {tf : AI}
theorem waitL {x : Nat} (hx : x < p) (hL : 0 < L) (hr : RF rf mf) : ∀ (d k n n' : Nat) (v b : Int32) {B : Nat} {t y : ShT}, J p L B t y → k + d = 1000 → d < n → d < n' → B + d < 1000000000 → T3 (f_X3_waits_L0 (kI x) tr n v b (kI k) t rf) (f_X4_waits_L0 (kI x) sp n' v b (kI k) mf y tf)
  | _, _, 0, _, _, _, _, _, _, _, _, h, _, _ => by omega
  | _, _, _, 0, _, _, _, _, _, _, _, _, h, _ => by omega
  | 0, k, n + 1, n' + 1, v, b, _, t, y, _, hk, _, _, _ => by
    rw [f_X3_waits_L0, f_X4_waits_L0, i999, if_pos ((kI_lt (by omega) (by omega)).mpr (by omega)), if_pos ((kI_lt (by omega) (by omega)).mpr (by omega))]
    exact T3s hr
  | d + 1, k, n + 1, n' + 1, v, b, B2, t, y, j, hk, hn, hn', hB => by
    have h16 := j.p16
    obtain ⟨t1, y1, z, hz, l1, l2, e1, e2, j1⟩ := j.turn (by omega) hL (by omega)
    have g0 : inB 0 16 = true := inBT (a := 0) (by decide) (by decide)
    rw [f_X3_waits_L0, f_X4_waits_L0, i999, if_neg (kI_ltF (by omega) (by omega) (by omega)), if_neg (kI_ltF (by omega) (by omega) (by omega)), bsm e1, if_pos g0, z0, l2, if_kI (by omega) (by omega), if_kI (by omega) (by omega), show kI k + 1 = kI (k + 1) from kI_add k 1, bsm e2, bsm e2, bsm e2]
    by_cases c : z = x
    · rw [if_pos c, if_pos c]
      unfold f_J9_max_7cf53
      by_cases c2 : v < kI k - b
      · rw [if_pos c2, if_neg (Int32.not_le.mpr c2)]
        exact waitL hx hL hr d (k + 1) n n' _ _ j1 (by omega) (by omega) (by omega) (by omega)
      · rw [if_neg c2, if_pos (Int32.not_lt.mp c2)]
        exact waitL hx hL hr d (k + 1) n n' _ _ j1 (by omega) (by omega) (by omega) (by omega)
    · rw [if_neg c, if_neg c]
      exact waitL hx hL hr d (k + 1) n n' _ _ j1 (by omega) (by omega) (by omega) (by omega)
theorem s_waits (h : J p L B tr sp) (hB : B + 1000 < 1000000000) (hr : RF rf mf) (a0 : Int32) : T3 (f_X3_waits a0 tr th rf) (f_X4_waits a0 sp mf tb tp tf) := by
  unfold f_X3_waits f_X4_waits
  rcases h.per a0 with ⟨x, hx, rfl, e3, e4, e5⟩ | ⟨e3, e4, e5⟩
  rotate_left
  · rw [bsm e3, bsm e5, if_pos rfl, if_pos rfl]
    exact T3r hr 0 (by decide) rfl
  rw [bsm e3, bsm e5, if_neg one_ne, if_neg one_ne]
  rcases h.less with ⟨hL, e6, e7⟩ | ⟨hL, e6, e7⟩
  rotate_left
  · rw [bsm e6, if_neg one_ne, if_pos e7]
    exact T3r hr 3 (by decide) rfl
  obtain ⟨t1, x1, g1, e1, e2, j⟩ := h.fresh th tb tp tf
  rw [bsm e6, if_pos rfl, if_neg e7, bsm e1, bsm e2]
  exact waitL hx hL hr 999 1 fuel0 fuel0 (-1) 0 j (by omega) (by unfold fuel0; omega) (by unfold fuel0; omega) (by omega)
theorem besL {x y : Nat} (hx : x < p) (hy : y < p) (hL : 0 < L) (hr : RF rf mf) : ∀ (d k n n' : Nat) {B : Nat} {t q : ShT}, J p L B t q → k + d = 1000 → d < n → d < n' → B + d < 1000000000 → T3 (f_X3_beside_L0 (kI x) (kI y) tr n (kI k) t rf) (f_X4_beside_L0 (kI x) (kI y) sp n' (kI k) mf q tf)
  | _, _, 0, _, _, _, _, _, _, h, _, _ => by omega
  | _, _, _, 0, _, _, _, _, _, _, h, _ => by omega
  | 0, k, n + 1, n' + 1, _, t, q, _, hk, _, _, _ => by
    rw [f_X3_beside_L0, f_X4_beside_L0, i999, if_pos ((kI_lt (by omega) (by omega)).mpr (by omega)), if_pos ((kI_lt (by omega) (by omega)).mpr (by omega))]
    exact T3s hr
  | d + 1, k, n + 1, n' + 1, B2, t, q, j, hk, hn, hn', hB => by
    have h16 := j.p16
    obtain ⟨t1, q1, z, hz, l1, l2, e1, e2, j1⟩ := j.turn (by omega) hL (by omega)
    obtain ⟨a, ha, a1, a2⟩ := j.place hx
    obtain ⟨b, hb, b1, b2⟩ := j.place hy
    have T := absT a (by omega) b (by omega)
    rw [f_X3_beside_L0, f_X4_beside_L0, i999, if_neg (kI_ltF (by omega) (by omega) (by omega)), if_neg (kI_ltF (by omega) (by omega) (by omega)), bsm a1, bsm b1, bsm a2, bsm b2, show kI k + 1 = kI (k + 1) from kI_add k 1]
    obtain ⟨r, er⟩ := Option.isSome_iff_exists.mp T.2
    have T1 := T.1
    rw [er] at T1
    rw [bsm er]
    by_cases c1 : kI a - kI b = 1
    · rw [if_pos c1]
      have : r = 1 := by
        have h1 : (decide (some r = some (1 : Int32))) = true := by rw [T1, decide_eq_true c1]; rfl
        exact Option.some.inj (of_decide_eq_true h1)
      rw [if_pos this]
      exact T3s hr
    · rw [if_neg c1]
      by_cases c2 : kI a - kI b = -1
      · rw [if_pos c2]
        have : r = 1 := by
          have h1 : (decide (some r = some (1 : Int32))) = true := by rw [T1, decide_eq_true c2, Bool.or_true]
          exact Option.some.inj (of_decide_eq_true h1)
        rw [if_pos this]
        exact T3s hr
      · rw [if_neg c2]
        have : ¬ r = 1 := by
          intro hc
          rw [hc, decide_eq_false c1, decide_eq_false c2, decide_eq_true rfl] at T1
          cases T1
        rw [if_neg this, bsm e1, bsm e2]
        exact besL hx hy hL hr d (k + 1) n n' j1 (by omega) (by omega) (by omega) (by omega)
theorem s_beside (h : J p L B tr sp) (hB : B + 1001 < 1000000000) (hr : RF rf mf) (a0 a1 : Int32) : T3 (f_X3_beside a0 a1 tr th rf) (f_X4_beside a0 a1 sp mf tb tp tf) := by
  unfold f_X3_beside f_X4_beside
  rcases h.per a0 with ⟨x, hx, rfl, e3, e4, e5⟩ | ⟨e3, e4, e5⟩
  rotate_left
  · rw [bsm e3, bsm e5, if_pos rfl, if_pos rfl]
    exact T3r hr 0 (by decide) rfl
  rw [bsm e3, bsm e5, if_neg one_ne, if_neg one_ne]
  rcases h.per a1 with ⟨y, hy, rfl, f3, f4, f5⟩ | ⟨f3, f4, f5⟩
  rotate_left
  · rw [bsm f3, bsm f5, if_pos rfl, if_pos rfl]
    exact T3r hr 0 (by decide) rfl
  rw [bsm f3, bsm f5, if_neg one_ne, if_neg one_ne]
  by_cases c : kI x = kI y
  · rw [if_pos c, if_pos c]
    exact T3r hr 0 (by decide) rfl
  rw [if_neg c, if_neg c]
  rcases h.less with ⟨hL, e6, e7⟩ | ⟨hL, e6, e7⟩
  rotate_left
  · rw [bsm e6, if_neg one_ne, if_pos e7]
    exact T3r hr 3 (by decide) rfl
  obtain ⟨t1, x1, g1, e1, e2, j⟩ := h.fresh th tb tp tf
  rw [bsm e6, if_pos rfl, if_neg e7, bsm e1, bsm e2]
  exact besL hx hy hL hr 1000 0 fuel0 fuel0 j (by omega) (by unfold fuel0; omega) (by unfold fuel0; omega) (by omega)
theorem lfL (h : J p L B tr sp) (hr : RF rf mf) {x N : Nat} (hx : x < p) (hN : N ≤ 999) (hB : B + 999 < 1000000000) : ∀ (d k n n' : Nat) (b l : Int32) (th : ShT) (tb : Bool) (tp : ShT) (tf : AI), k + d = L → d < n → d < n' → T3 (f_X3_lawFor_L0 (kI x) (kI N) tr n b l (kI k) th rf) (f_X4_lawFor_L0 (kI x) (kI N) sp n' b l (kI k) mf tb tp tf)
  | _, _, 0, _, _, _, _, _, _, _, _, h, _ => by omega
  | _, _, _, 0, _, _, _, _, _, _, _, _, h => by omega
  | 0, k, n + 1, n' + 1, b, l, th, tb, tp, tf, hk, _, _ => by
    have h6 := h.l6
    rw [f_X3_lawFor_L0, f_X4_lawFor_L0, h.LL.1, h.LL.2, if_pos ((kI_le (by omega) (by omega)).mpr (by omega)), if_pos ((kI_le (by omega) (by omega)).mpr (by omega))]
    exact T3s hr
  | d + 1, k, n + 1, n' + 1, b, l, th, tb, tp, tf, hk, hn, hn' => by
    have h6 := h.l6
    have h16 := h.p16
    obtain ⟨t1, x1, g1, e1, e2, j⟩ := h.by th tb tp tf (f := k) (by omega)
    obtain ⟨t2, x2, e3, e4, j2⟩ := j.goes (by omega) (by omega) hN (by omega)
    obtain ⟨c, hc, c1, c2⟩ := j2.cnt hx
    have g : inB (kI x) 16 = true := inBT (by omega) (by decide)
    rw [f_X3_lawFor_L0, f_X4_lawFor_L0, h.LL.1, h.LL.2, if_neg (kI_leF (by omega) (by omega) (by omega)), if_neg (kI_leF (by omega) (by omega) (by omega)), bsm e1, bsm e2, bsm e3]
    dsimp only
    rw [bsm e4]
    simp only [g, ↓reduceIte, show (kI x).toNatClampNeg = x from kI_nat (by omega), c1, c2, show kI k + 1 = kI (k + 1) from kI_add k 1]
    by_cases q : kI c ≤ l
    · simp only [if_pos q]
      exact lfL h hr hx hN hB d (k + 1) n n' b l t2 true x2 g1 (by omega) (by omega) (by omega)
    · simp only [if_neg q]
      exact lfL h hr hx hN hB d (k + 1) n n' (kI k) (kI c) t2 true x2 g1 (by omega) (by omega) (by omega)
theorem kI_lem1 {c : Nat} (h : c < 2147483648) : ¬ kI c ≤ -1 := by
  rw [Int32.le_iff_toInt_le, kI_toInt h, show (-1 : Int32).toInt = -1 by decide]
  omega
theorem s_lawFor (h : J p L B tr sp) (hB : B + 999 < 1000000000) (hr : RF rf mf) (a0 a1 : Int32) : T3 (f_X3_lawFor a0 a1 tr th rf) (f_X4_lawFor a0 a1 sp mf tb tp tf) := by
  have h6 := h.l6
  have h16 := h.p16
  unfold f_X3_lawFor f_X4_lawFor
  rcases h.per a0 with ⟨x, hx, rfl, e3, e4, e5⟩ | ⟨e3, e4, e5⟩
  rotate_left
  · rw [bsm e3, bsm e5, if_pos rfl, if_pos rfl]
    exact T3r hr 0 (by decide) rfl
  rw [bsm e3, bsm e5, if_neg one_ne, if_neg one_ne]
  rcases may a1 with ⟨N, hN, rfl, e1, e2⟩ | ⟨e1, e2⟩
  rotate_left
  · rw [bsm e1, bsm e2, if_pos rfl, if_pos rfl]
    exact T3r hr 0 (by decide) rfl
  rw [bsm e1, bsm e2, if_neg one_ne, if_neg one_ne]
  rcases h.less with ⟨hL, e6, e7⟩ | ⟨hL, e6, e7⟩
  rotate_left
  · rw [bsm e6, if_neg one_ne, if_pos e7]
    exact T3r hr 3 (by decide) rfl
  rw [bsm e6, if_pos rfl, if_neg e7]
  obtain ⟨t1, x1, g1, e1, e2, j⟩ := h.by th tb tp tf (f := 0) (by omega)
  obtain ⟨t2, x2, e3, e4, j2⟩ := j.goes (by omega) (by omega) hN (by omega)
  obtain ⟨c, hc, c1, c2⟩ := j2.cnt hx
  have g : inB (kI x) 16 = true := inBT (by omega) (by decide)
  rw [show fuel0 = 4999 + 1 from rfl, f_X3_lawFor_L0, f_X4_lawFor_L0, h.LL.1, h.LL.2, i0, if_neg (kI_leF (by omega) (by omega) (by omega)), if_neg (kI_leF (by omega) (by omega) (by omega)), bsm e1, bsm e2, bsm e3]
  dsimp only
  rw [bsm e4]
  simp only [g, ↓reduceIte, show (kI x).toNatClampNeg = x from kI_nat (by omega), c1, c2, show kI 0 + 1 = kI 1 from kI_add 0 1, kI_lem1 (show c < 2147483648 by omega)]
  exact lfL h hr hx hN hB (L - 1) 1 4999 4999 (kI 0) (kI c) t2 true x2 g1 (by omega) (by omega) (by omega)
/-- the first of the greatest, of two rows that say the same -/
theorem grL {f : AI} {a : Nat → Nat} {b0 : Nat} (h : J p L b0 s m) (hf : ∀ j, j < p → f j = kI (a j) ∧ a j < 2147483648) : ∀ (d k n b : Nat), k + d = p → d < n → b < p → ∃ r, r < p ∧ f_X3_firstGreatest_L0 (kI p) 16 f n (kI b) (kI k) = some (kI r) ∧ ((∀ j, j < p → m.2.1 j = f j) → f_X4_mostCounts_L0 m n (kI b) (kI k) = some (kI r)) ∧ ((∀ j, j < p → m.2.2.1 j = f j) → f_X4_longestOf_L0 m n (kI b) (kI k) = some (kI r))
  | _, _, 0, _, _, h, _ => by omega
  | 0, k, n + 1, b, hk, _, hb => by
    have h16 := h.p16
    refine ⟨b, hb, ?_, fun _ => ?_, fun _ => ?_⟩
    · rw [f_X3_firstGreatest_L0, if_pos ((kI_le (by omega) (by omega)).mpr (by omega))]
    · rw [f_X4_mostCounts_L0, h.pp.2, if_pos ((kI_le (by omega) (by omega)).mpr (by omega))]
    · rw [f_X4_longestOf_L0, h.pp.2, if_pos ((kI_le (by omega) (by omega)).mpr (by omega))]
  | d + 1, k, n + 1, b, hk, hn, hb => by
    have h16 := h.p16
    have g : inB (kI k) 16 = true := inBT (by omega) (by decide)
    have g2 : inB (kI b) 16 = true := inBT (by omega) (by decide)
    have fk := hf k (by omega)
    have fb := hf b hb
    by_cases c : a k ≤ a b
    · obtain ⟨r, hr, e1, e2, e3⟩ := grL h hf d (k + 1) n b (by omega) (by omega) hb
      refine ⟨r, hr, ?_, fun q => ?_, fun q => ?_⟩
      · rw [f_X3_firstGreatest_L0, if_neg (kI_leF (by omega) (by omega) (by omega)), if_pos g, if_pos g2, kI_nat (by omega), kI_nat (by omega), fk.1, fb.1, if_pos ((kI_le fk.2 fb.2).mpr c), show kI k + 1 = kI (k + 1) from kI_add k 1]
        exact e1
      · rw [f_X4_mostCounts_L0, h.pp.2, if_neg (kI_leF (by omega) (by omega) (by omega)), if_pos g, if_pos g2, kI_nat (by omega), kI_nat (by omega), q k (by omega), q b hb, fk.1, fb.1, if_pos ((kI_le fk.2 fb.2).mpr c), show kI k + 1 = kI (k + 1) from kI_add k 1]
        exact e2 q
      · rw [f_X4_longestOf_L0, h.pp.2, if_neg (kI_leF (by omega) (by omega) (by omega)), if_pos g, if_pos g2, kI_nat (by omega), kI_nat (by omega), q k (by omega), q b hb, fk.1, fb.1, if_pos ((kI_le fk.2 fb.2).mpr c), show kI k + 1 = kI (k + 1) from kI_add k 1]
        exact e3 q
    · obtain ⟨r, hr, e1, e2, e3⟩ := grL h hf d (k + 1) n k (by omega) (by omega) (by omega)
      refine ⟨r, hr, ?_, fun q => ?_, fun q => ?_⟩
      · rw [f_X3_firstGreatest_L0, if_neg (kI_leF (by omega) (by omega) (by omega)), if_pos g, if_pos g2, kI_nat (by omega), kI_nat (by omega), fk.1, fb.1, if_neg (fun z => c ((kI_le fk.2 fb.2).mp z)), show kI k + 1 = kI (k + 1) from kI_add k 1]
        exact e1
      · rw [f_X4_mostCounts_L0, h.pp.2, if_neg (kI_leF (by omega) (by omega) (by omega)), if_pos g, if_pos g2, kI_nat (by omega), kI_nat (by omega), q k (by omega), q b hb, fk.1, fb.1, if_neg (fun z => c ((kI_le fk.2 fb.2).mp z)), show kI k + 1 = kI (k + 1) from kI_add k 1]
        exact e2 q
      · rw [f_X4_longestOf_L0, h.pp.2, if_neg (kI_leF (by omega) (by omega) (by omega)), if_pos g, if_pos g2, kI_nat (by omega), kI_nat (by omega), q k (by omega), q b hb, fk.1, fb.1, if_neg (fun z => c ((kI_le fk.2 fb.2).mp z)), show kI k + 1 = kI (k + 1) from kI_add k 1]
        exact e3 q
theorem J.mostc (h : J p L B s m) (hp : 0 < p) : ∃ r, r < p ∧ f_X3_firstGreatest (kI p) 16 s.2.1 = some (kI r) ∧ f_X4_mostCounts m = some (kI r) := by
  have h16 := h.p16
  have hB := h.Bb
  obtain ⟨ln, ct, la, kd, am, fc, tu, se, R, R', v⟩ := h
  obtain ⟨r, hr, e1, e2, -⟩ := grL (f := s.2.1) (a := ct) (s := s) (m := m) ⟨ln, ct, la, kd, am, fc, tu, se, R, R', v⟩ (fun j hj => ⟨R.cE hj, by have := (v.2.2.1 j hj).2.1; omega⟩) (p - 1) 1 fuel0 0 (by omega) (by unfold fuel0; omega) hp
  exact ⟨r, hr, e1, e2 (fun j hj => by rw [R.cE hj, R'.cE hj])⟩
theorem J.longo (h : J p L B s m) (hp : 0 < p) : ∃ r, r < p ∧ f_X3_firstGreatest (kI p) 16 s.2.2.1 = some (kI r) ∧ f_X4_longestOf m = some (kI r) := by
  have h16 := h.p16
  obtain ⟨ln, ct, la, kd, am, fc, tu, se, R, R', v⟩ := h
  obtain ⟨r, hr, e1, -, e2⟩ := grL (f := s.2.2.1) (a := la) (s := s) (m := m) ⟨ln, ct, la, kd, am, fc, tu, se, R, R', v⟩ (fun j hj => ⟨R.aE hj, by have := (v.2.2.1 j hj).2.2.2; omega⟩) (p - 1) 1 fuel0 0 (by omega) (by unfold fuel0; omega) hp
  exact ⟨r, hr, e1, e2 (fun j hj => by rw [R.aE hj, R'.aE hj])⟩
theorem s_longest (h : J p L B tr sp) (hr : RF rf mf) : T1 (f_X3_longest tr rf) (f_X4_longest sp mf) := by
  unfold f_X3_longest f_X4_longest
  rcases h.empt with ⟨hp, e6, e7⟩ | ⟨hp, e6, e7⟩
  rotate_left
  · rw [bsm e6, if_neg one_ne, if_pos e7]
    exact T1r hr 3 (by decide) rfl
  obtain ⟨r, hr2, e1, e2⟩ := h.longo hp
  rw [bsm e6, if_pos rfl, if_neg e7, h.pp.1, bsm e1, bsm e2]
  exact T1s hr
theorem s_leader (h : J p L B tr sp) (hr : RF rf mf) (a0 : Int32) : T3 (f_X3_leader a0 tr th rf) (f_X4_leader a0 sp mf tb tp tf) := by
  unfold f_X3_leader f_X4_leader
  rcases may a0 with ⟨n, hn, rfl, e1, e2⟩ | ⟨e1, e2⟩
  rotate_left
  · rw [bsm e1, bsm e2, if_pos rfl, if_pos rfl]
    exact T3r hr 0 (by decide) rfl
  rw [bsm e1, bsm e2, if_neg one_ne, if_neg one_ne]
  rcases h.stk with ⟨hp, hL, e6, e7⟩ | ⟨hL, e6, e7⟩
  rotate_left
  · rw [bsm e6, bsm e7, if_neg one_ne, if_pos rfl]
    exact T3r hr 3 (by decide) rfl
  obtain ⟨t1, x1, g1, e1, e2, j⟩ := h.fresh th tb tp tf
  obtain ⟨t2, x2, e8, e9, j2⟩ := j.anew
  obtain ⟨t3, x3, f1, f2, j3⟩ := j2.goes hp hL hn (by omega)
  obtain ⟨r, hr2, q1, q2⟩ := j3.mostc hp
  rw [bsm e6, bsm e7, if_pos rfl, if_neg one_ne, bsm e1, bsm e2, bsm e8]
  dsimp only
  rw [bsm e9, bsm f1, bsm f2, j3.pp.1, bsm q1, bsm q2]
  exact T3s hr
theorem bitL {N : Nat} (hp : 0 < p) (hL : 0 < L) (hN : N ≤ 999) : ∀ (d k n n' w : Nat) {B : Nat} {t q : ShT}, J p L B t q → k + d = N → d < n → d < n' → w < 65536 → B + d < 1000000000 → ∃ r t' q', r < 65536 ∧ f_X3_servedBits_L0 (kI N) tr n (kI w) (kI k) t = some (kI r, t') ∧ f_X4_servedIn_L0 (kI N) sp n' (kI w) (kI k) q tf = some (kI r, q', tf)
  | _, _, 0, _, _, _, _, _, _, _, h, _, _, _ => by omega
  | _, _, _, 0, _, _, _, _, _, _, _, h, _, _ => by omega
  | 0, k, n + 1, n' + 1, w, _, t, q, _, hk, _, _, hw, _ => by
    rw [f_X3_servedBits_L0, f_X4_servedIn_L0, if_pos ((kI_le (by omega) (by omega)).mpr (by omega)), if_pos ((kI_le (by omega) (by omega)).mpr (by omega))]
    exact ⟨w, t, q, hw, rfl, rfl⟩
  | d + 1, k, n + 1, n' + 1, w, B2, t, q, j, hk, hn, hn', hw, hB => by
    have h16 := j.p16
    obtain ⟨t1, q1, z, hz, l1, l2, e1, e2, j1⟩ := j.turn hp hL (by omega)
    obtain ⟨w', hw', ew⟩ := orb hw (x := z) (by omega)
    have g0 : inB 0 16 = true := inBT (a := 0) (by decide) (by decide)
    rw [f_X3_servedBits_L0, f_X4_servedIn_L0, if_neg (kI_leF (by omega) (by omega) (by omega)), if_neg (kI_leF (by omega) (by omega) (by omega)), bsm e1, if_pos g0, bsm e2, z0, l2, ew, show kI k + 1 = kI (k + 1) from kI_add k 1]
    exact bitL hp hL hN d (k + 1) n n' w' j1 (by omega) (by omega) (by omega) hw' (by omega)
theorem J.bits (h : J p L B tr sp) (th : ShT) (tb : Bool) (tp : ShT) (tf : AI) {n : Nat} (hn : n ≤ 999) (hp : 0 < p) (hL : 0 < L) (hB : B + 999 < 1000000000) : ∃ r t' q' f', r < 65536 ∧ f_X3_servedBits (kI n) tr th = some (kI r, t') ∧ f_X4_servedIn (kI n) sp tb tp tf = some (kI r, q', f') := by
  obtain ⟨t1, x1, g1, e1, e2, j⟩ := h.fresh th tb tp tf
  obtain ⟨r, t', q', hr, f1, f2⟩ := bitL (tr := tr) (sp := sp) (tf := g1) hp hL hn n 0 fuel0 fuel0 0 j (by omega) (by unfold fuel0; omega) (by unfold fuel0; omega) (by omega) (by omega)
  refine ⟨r, t', q', g1, hr, ?_, ?_⟩
  · unfold f_X3_servedBits
    rw [bsm e1]
    exact f1
  · unfold f_X4_servedIn
    rw [bsm e2]
    exact f2
theorem s_never (h : J p L B tr sp) (hB : B + 999 < 1000000000) (hr : RF rf mf) : T3 (f_X3_never tr th rf) (f_X4_never sp mf tb tp tf) := by
  unfold f_X3_never f_X4_never
  rcases h.stk with ⟨hp, hL, e6, e7⟩ | ⟨hL, e6, e7⟩
  rotate_left
  · rw [bsm e6, bsm e7, if_neg one_ne, if_pos rfl]
    exact T3r hr 3 (by decide) rfl
  obtain ⟨r, t', q', f', hr2, f1, f2⟩ := h.bits th tb tp tf (n := 999) (by decide) hp hL hB
  rw [bsm e6, bsm e7, if_pos rfl, if_neg one_ne, bsm (show f_X4_servedIn 999 sp tb tp tf = _ from f2), h.pp.2]
  unfold f_X1_allBits
  rw [h.pp.1, Option.bind_some, bsm (show f_X3_servedBits 999 tr th = _ from f1)]
  exact T3s hr
end FA3
