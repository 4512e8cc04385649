/-! ===== more faces, in thought ===== -/
section FA2
variable {s m tr sp : ShT} {p L B : Nat} {rf mf : AI} {th : ShT} {tb : Bool} {tp : ShT} {tf : AI}
theorem kI_ltF {a b : Nat} (ha : a < 2147483648) (hb : b < 2147483648) (h : b ≤ a) : ¬ kI a < kI b := fun c => by have := (kI_lt ha hb).mp c; omega
theorem kI_leF {a b : Nat} (ha : a < 2147483648) (hb : b < 2147483648) (h : b < a) : ¬ kI a ≤ kI b := fun c => by have := (kI_le ha hb).mp c; omega
/-- the row stands as another -/
theorem sameL {p2 : Nat} {t x : ShT} (h : J p L B s m) {B2 : Nat} (h2 : J p L B2 t x) : ∀ (d k n n' : Nat), k + d = p → d < n → d < n' → ∃ r, (r = 0 ∨ r = 1) ∧ f_X1_standsLike_L0 t s n (kI k) = some r ∧ f_X4_standsAs_L0 m x n' (kI k) = some r
  | _, _, 0, _, _, h, _ => by omega
  | _, _, _, 0, _, _, h => by omega
  | 0, k, n + 1, n' + 1, hk, _, _ => by
    have h16 := h.p16
    refine ⟨1, Or.inr rfl, ?_, ?_⟩
    · rw [f_X1_standsLike_L0, h2.pp.1, if_pos ((kI_le (by omega) (by omega)).mpr (by omega))]
    · rw [f_X4_standsAs_L0, h.pp.2, if_pos ((kI_le (by omega) (by omega)).mpr (by omega))]
  | d + 1, k, n + 1, n' + 1, hk, hn, hn' => by
    have h16 := h.p16
    obtain ⟨r, h01, e, e'⟩ := sameL (p2 := p2) h h2 d (k + 1) n n' (by omega) (by omega) (by omega)
    obtain ⟨y, hy, l1, l2⟩ := h.lin (j := k) (by omega)
    obtain ⟨z, hz, l3, l4⟩ := h2.lin (j := k) (by omega)
    have g : inB (kI k) 16 = true := inBT (by omega) (by decide)
    rw [f_X1_standsLike_L0, f_X4_standsAs_L0, h2.pp.1, h.pp.2, if_neg (kI_leF (by omega) (by omega) (by omega)), if_neg (kI_leF (by omega) (by omega) (by omega)), if_pos g, if_pos g, if_pos g, if_pos g, kI_nat (by omega), l1, l2, l3, l4, if_kI (by omega) (by omega), if_kI (by omega) (by omega), show kI k + 1 = kI (k + 1) from kI_add k 1]
    by_cases c : z = y
    · rw [if_pos c, if_pos c.symm]
      exact ⟨r, h01, e, e'⟩
    · rw [if_neg c, if_neg (fun q => c q.symm)]
      exact ⟨0, Or.inl rfl, rfl, rfl⟩
theorem J.same {t x : ShT} (h : J p L B s m) {B2 : Nat} (h2 : J p L B2 t x) : ∃ r, (r = 0 ∨ r = 1) ∧ f_X1_standsLike t s = some r ∧ f_X4_standsAs m x = some r := by
  have h16 := h.p16
  exact sameL (p2 := 0) h h2 p 0 fuel0 fuel0 (by omega) (by unfold fuel0; omega) (by unfold fuel0; omega)
theorem roundL (h : J p L B tr sp) (hp : 0 < p) (hL : 0 < L) (hr : RF rf mf) : ∀ (d k n n' : Nat) {B2 : Nat} {t x : ShT}, J p L B2 t x → k + d = 1000 → d < n → d < n' → B2 + d < 1000000000 → T3 (f_X3_round_L0 tr n (kI k) t rf) (f_X4_round_L0 sp n' (kI k) mf x tf)
  | _, _, 0, _, _, _, _, _, _, h, _, _ => by omega
  | _, _, _, 0, _, _, _, _, _, _, h, _ => by omega
  | 0, k, n + 1, n' + 1, _, t, x, _, hk, _, _, _ => by
    rw [f_X3_round_L0, f_X4_round_L0, i999, if_pos ((kI_lt (by omega) (by omega)).mpr (by omega)), if_pos ((kI_lt (by omega) (by omega)).mpr (by omega))]
    exact T3s hr
  | d + 1, k, n + 1, n' + 1, B2, t, x, j, hk, hn, hn', hB => by
    obtain ⟨t1, x1, y, hy, -, -, e1, e2, j1⟩ := j.turn hp hL (by omega)
    obtain ⟨r, h01, f1, f2⟩ := h.same j1
    have ih := roundL h hp hL hr d (k + 1) n n' j1 (by omega) (by omega) (by omega) (by omega)
    rw [f_X3_round_L0, f_X4_round_L0, i999, if_neg (kI_ltF (by omega) (by omega) (by omega)), if_neg (kI_ltF (by omega) (by omega) (by omega)), bsm e1, bsm e2, bsm f1, bsm f2, show kI k + 1 = kI (k + 1) from kI_add k 1]
    rcases h01 with rfl | rfl
    · rw [if_pos rfl, if_pos rfl]
      exact ih
    · rw [if_neg one_ne, if_neg one_ne]
      exact T3s hr
theorem s_round (h : J p L B tr sp) (hB : B + 1000 < 1000000000) (hr : RF rf mf) : T3 (f_X3_round tr th rf) (f_X4_round sp mf tb tp tf) := by
  unfold f_X3_round f_X4_round
  rcases h.stk with ⟨hp, hL, e6, e7⟩ | ⟨hL, e6, e7⟩
  rotate_left
  · rw [bsm e6, bsm e7, if_neg one_ne, if_pos rfl]
    exact T3r hr 3 (by decide) rfl
  obtain ⟨t1, x1, g1, e1, e2, j⟩ := h.fresh th tb tp tf
  rw [bsm e6, bsm e7, if_pos rfl, if_neg one_ne, bsm e1, bsm e2]
  exact roundL h hp hL hr 999 1 fuel0 fuel0 j (by omega) (by unfold fuel0; omega) (by unfold fuel0; omega) (by omega)
/-- the k-th serving of one within so many turns -/
theorem servL {x k N : Nat} (hx : x < p) (hp : 0 < p) (hL : 0 < L) (hk : k ≤ 99) (hN : N ≤ 999) : ∀ (d t n n' c : Nat) {B : Nat} {s m : ShT}, J p L B s m → t + d = N + 1 → c < k → d < n → d < n' → B + d < 1000000000 → ∃ r s' m', f_X3_turnOfServing_L0 (kI x) (kI k) (kI N) n (kI c) (kI t) s = some (r, s') ∧ f_X4_whenIn_L0 (kI x) (kI N) n' (kI (k - c)) (kI t) m = some (r, m')
  | _, _, 0, _, _, _, _, _, _, _, _, h, _, _ => by omega
  | _, _, _, 0, _, _, _, _, _, _, _, _, h, _ => by omega
  | 0, t, n + 1, n' + 1, c, _, s, m, _, ht, _, _, _, _ => by
    rw [f_X3_turnOfServing_L0, f_X4_whenIn_L0, if_pos ((kI_lt (by omega) (by omega)).mpr (by omega)), if_pos ((kI_lt (by omega) (by omega)).mpr (by omega))]
    exact ⟨_, _, _, rfl, rfl⟩
  | d + 1, t, n + 1, n' + 1, c, B, s, m, j, ht, hc, hn, hn', hB => by
    have h16 := j.p16
    obtain ⟨s1, m1, y, hy, l1, l2, e1, e2, j1⟩ := j.turn hp hL (by omega)
    have g0 : inB 0 16 = true := inBT (a := 0) (by decide) (by decide)
    rw [f_X3_turnOfServing_L0, f_X4_whenIn_L0, if_neg (kI_ltF (by omega) (by omega) (by omega)), if_neg (kI_ltF (by omega) (by omega) (by omega)), bsm e1, if_pos g0, z0, l2, if_kI (by omega) (by omega), if_kI (by omega) (by omega), show kI c + 1 = kI (c + 1) from kI_add c 1, if_kI (by omega) (by omega), show kI (k - c) - 1 = kI (k - (c + 1)) by rw [show k - (c + 1) = k - c - 1 by omega]; exact kI_sub (b := 1) (by omega), Int32.sub_zero, i0, if_kI (by omega) (by omega), if_kI (by omega) (by omega), show kI t + 1 = kI (t + 1) from kI_add t 1]
    by_cases q : y = x
    · rw [if_pos q, if_pos q]
      by_cases q2 : c + 1 = k
      · rw [if_pos q2, if_pos (by omega)]
        exact ⟨_, _, _, rfl, rfl⟩
      · rw [if_neg q2, if_neg (by omega), bsm e2]
        exact servL hx hp hL hk hN d (t + 1) n n' (c + 1) j1 (by omega) (by omega) (by omega) (by omega) (by omega)
    · rw [if_neg q, if_neg q, if_neg (by omega), bsm e2]
      exact servL hx hp hL hk hN d (t + 1) n n' c j1 (by omega) (by omega) (by omega) (by omega) (by omega)
theorem J.serv (j : J p L B s m) {x k N : Nat} (hx : x < p) (hL : 0 < L) (hk0 : 0 < k) (hk : k ≤ 99) (hN : N ≤ 999) (hB : B + 1000 < 1000000000) : ∃ r s' m', f_X3_turnOfServing (kI x) (kI k) (kI N) s = some (r, s') ∧ f_X4_whenIn (kI x) (kI k) (kI N) m = some (r, m') :=
  servL hx (by omega) hL hk hN N 1 fuel0 fuel0 0 j (by omega) hk0 (by unfold fuel0; omega) (by unfold fuel0; omega) (by omega)
theorem s_when (h : J p L B tr sp) (hB : B + 1000 < 1000000000) (hr : RF rf mf) (a0 a1 : Int32) : T3 (f_X3_when a0 a1 tr th rf) (f_X4_when a0 a1 sp mf tb tp tf) := by
  unfold f_X3_when f_X4_when
  rcases h.per a0 with ⟨x, hx, rfl, e3, e4, e5⟩ | ⟨e3, e4, e5⟩
  rotate_left
  · rw [bsm e3, bsm e5, if_pos rfl, if_pos rfl]
    exact T3r hr 0 (by decide) rfl
  rw [bsm e3, bsm e5, if_neg one_ne, if_neg one_ne]
  rcases b_1_99 a1 with ⟨k, hk0, hk, rfl, b1, b2⟩ | ⟨b1, b2⟩
  rotate_left
  · rw [bsm b1, bsm b2, if_pos rfl, if_pos rfl]
    exact T3r hr 0 (by decide) rfl
  rw [bsm b1, bsm b2, if_neg one_ne, if_neg one_ne]
  rcases h.less with ⟨hL, e6, e7⟩ | ⟨hL, e6, e7⟩
  rotate_left
  · rw [bsm e6, if_neg one_ne, if_pos e7]
    exact T3r hr 3 (by decide) rfl
  obtain ⟨t1, x1, g1, e1, e2, j⟩ := h.fresh th tb tp tf
  obtain ⟨r, s', m', f1, f2⟩ := j.serv (N := 999) hx hL hk0 hk (by decide) hB
  rw [bsm e6, if_pos rfl, if_neg e7, bsm e1, bsm e2, bsm (show f_X3_turnOfServing (kI x) (kI k) 999 t1 = some (r, s') from f1)]
  dsimp only
  rw [bsm (show f_X4_whenIn (kI x) (kI k) 999 x1 = some (r, m') from f2)]
  exact T3s hr
theorem s_newcomer (h : J p L B tr sp) (hB : B + 1000 < 1000000000) (hr : RF rf mf) : T3 (f_X3_newcomer tr th rf) (f_X4_newcomer sp mf tb tp tf) := by
  have h16 := h.p16
  unfold f_X3_newcomer f_X4_newcomer
  rcases h.less with ⟨hL, e6, e7⟩ | ⟨hL, e6, e7⟩
  rotate_left
  · rw [bsm e6, if_neg one_ne, if_pos e7]
    exact T3r hr 3 (by decide) rfl
  rw [bsm e6, if_pos rfl, if_neg e7]
  by_cases c : p = 16
  · rw [bsm (show f_X1_hasRoom tr = some 0 by
      unfold f_X1_hasRoom
      rw [h.pp.1, i16, if_pos ((kI_le (by omega) (by omega)).mpr (by omega))]), if_pos rfl, h.pp.2, i16, if_pos (by rw [c])]
    exact T3r hr 4 (by decide) rfl
  · obtain ⟨t1, x1, g1, e1, e2, j⟩ := h.fresh th tb tp tf
    obtain ⟨t2, x2, e3, e4, j2⟩ := j.add (by omega)
    obtain ⟨r, s', m', f1, f2⟩ := j2.serv (x := p) (k := 1) (N := 999) (by omega) hL (by decide) (by decide) (by decide) hB
    rw [bsm (show f_X1_hasRoom tr = some 1 by
      unfold f_X1_hasRoom
      rw [h.pp.1, i16, if_neg (kI_leF (by omega) (by omega) (by omega))]), if_neg one_ne, h.pp.2, if_neg (show ¬ kI p = 16 by rw [i16, kI_eq (by omega) (by omega)]; exact c), bsm e1, bsm e2, bsm e3]
    dsimp only
    rw [bsm e4, bsm (show f_X3_turnOfServing (kI p) 1 999 t2 = some (r, s') from f1), bsm (show f_X4_whenIn (kI p) 1 999 x2 = some (r, m') from f2)]
    exact T3s hr
theorem fwdL (h : J p L B tr sp) (hL : 0 < L) (hB : B + 1000 < 1000000000) (hr : RF rf mf) {x k N q : Nat} (hx : x < p) (hk0 : 0 < k) (hk : k ≤ 99) (hN : N ≤ 999) (hq : q < p) : ∀ (d a n n' : Nat) (th : ShT) (tb : Bool) (tp : ShT) (tf : AI), a + d = q + 1 → d < n → d < n' → T3 (f_X3_forward_L0 (kI x) (kI k) (kI N) (kI q) tr n (kI a) th rf) (f_X4_forward_L0 (kI x) (kI k) (kI N) (kI q) sp n' (kI a) mf tb tp tf)
  | _, _, 0, _, _, _, _, _, _, h, _ => by omega
  | _, _, _, 0, _, _, _, _, _, _, h => by omega
  | 0, a, n + 1, n' + 1, th, tb, tp, tf, ha, _, _ => by
    have h16 := h.p16
    rw [f_X3_forward_L0, f_X4_forward_L0, if_pos ((kI_lt (by omega) (by omega)).mpr (by omega)), if_pos ((kI_lt (by omega) (by omega)).mpr (by omega))]
    exact T3s hr
  | d + 1, a, n + 1, n' + 1, th, tb, tp, tf, ha, hn, hn' => by
    have h16 := h.p16
    obtain ⟨t1, x1, g1, e1, e2, j⟩ := h.fresh th tb tp tf
    obtain ⟨t2, x2, e3, e4, j2⟩ := j.move hx (q := q - a) (by omega)
    obtain ⟨r, s', m', f1, f2⟩ := j2.serv hx hL hk0 hk hN hB
    rw [f_X3_forward_L0, f_X4_forward_L0, if_neg (kI_ltF (by omega) (by omega) (by omega)), if_neg (kI_ltF (by omega) (by omega) (by omega)), bsm e1, bsm e2, kI_sub (by omega), bsm e3]
    dsimp only
    rw [bsm e4, bsm f1, bsm f2, show kI a + 1 = kI (a + 1) from kI_add a 1]
    dsimp only
    by_cases c : r = -1
    · rw [if_pos c, if_pos c]
      exact fwdL h hL hB hr hx hk0 hk hN hq d (a + 1) n n' s' true m' g1 (by omega) (by omega) (by omega)
    · rw [if_neg c, if_neg c]
      exact T3s hr
theorem s_forward (h : J p L B tr sp) (hB : B + 1000 < 1000000000) (hr : RF rf mf) (a0 a1 a2 : Int32) : T3 (f_X3_forward a0 a1 a2 tr th rf) (f_X4_forward a0 a1 a2 sp mf tb tp tf) := by
  have h16 := h.p16
  unfold f_X3_forward f_X4_forward
  rcases h.per a0 with ⟨x, hx, rfl, e3, e4, e5⟩ | ⟨e3, e4, e5⟩
  rotate_left
  · rw [bsm e3, bsm e5, if_pos rfl, if_pos rfl]
    exact T3r hr 0 (by decide) rfl
  rw [bsm e3, bsm e5, if_neg one_ne, if_neg one_ne]
  rcases b_1_99 a1 with ⟨k, hk0, hk, rfl, b1, b2⟩ | ⟨b1, b2⟩
  rotate_left
  · rw [bsm b1, bsm b2, if_pos rfl, if_pos rfl]
    exact T3r hr 0 (by decide) rfl
  rw [bsm b1, bsm b2, if_neg one_ne, if_neg one_ne]
  rcases may a2 with ⟨n, hn, rfl, e1, e2⟩ | ⟨e1, e2⟩
  rotate_left
  · rw [bsm e1, bsm e2, if_pos rfl, if_pos rfl]
    exact T3r hr 0 (by decide) rfl
  rw [bsm e1, bsm e2, if_neg one_ne, if_neg one_ne]
  rcases h.less with ⟨hL, e6, e7⟩ | ⟨hL, e6, e7⟩
  rotate_left
  · rw [bsm e6, if_neg one_ne, if_pos e7]
    exact T3r hr 3 (by decide) rfl
  obtain ⟨q, hq, q1, q2⟩ := h.place hx
  rw [bsm e6, if_pos rfl, if_neg e7, bsm q1, bsm q2]
  exact fwdL h hL hB hr hx hk0 hk hn hq (q + 1) 0 fuel0 fuel0 th tb tp tf (by omega) (by unfold fuel0; omega) (by unfold fuel0; omega)
/-- the greatest count less the least -/
theorem apL (h : J p L B s m) : ∀ (d k n n' lo hi : Nat), k + d = p → d < n → d < n' → lo ≤ hi → hi ≤ B → ∃ a b, f_X1_countsApart_L0 s n (kI lo) (kI hi) (kI k) = some (kI b - kI a) ∧ f_X4_spreadNow_L0 m n' (kI lo) (kI hi) (kI k) = some (kI b - kI a)
  | _, _, 0, _, _, _, _, h, _, _, _ => by omega
  | _, _, _, 0, _, _, _, _, h, _, _ => by omega
  | 0, k, n + 1, n' + 1, lo, hi, hk, _, _, _, _ => by
    have h16 := h.p16
    rw [f_X1_countsApart_L0, f_X4_spreadNow_L0, h.pp.1, h.pp.2, if_pos ((kI_le (by omega) (by omega)).mpr (by omega)), if_pos ((kI_le (by omega) (by omega)).mpr (by omega))]
    exact ⟨lo, hi, rfl, rfl⟩
  | d + 1, k, n + 1, n' + 1, lo, hi, hk, hn, hn', hlh, hB => by
    have h16 := h.p16
    have hB9 := h.Bb
    obtain ⟨c, hc, c1, c2⟩ := h.cnt (j := k) (by omega)
    have g : inB (kI k) 16 = true := inBT (by omega) (by decide)
    rw [f_X1_countsApart_L0, f_X4_spreadNow_L0, h.pp.1, h.pp.2, if_neg (kI_leF (by omega) (by omega) (by omega)), if_neg (kI_leF (by omega) (by omega) (by omega))]
    simp only [g, ↓reduceIte, show (kI k).toNatClampNeg = k from kI_nat (by omega), c1, c2, show kI k + 1 = kI (k + 1) from kI_add k 1]
    rw [bsm (J9_min (by omega) (by omega)), bsm (J9_max (by omega) (by omega)), if_kIle (by omega) (by omega), if_kIle (by omega) (by omega), if_kIle (by omega) (by omega)]
    have ih := apL h d (k + 1) n n' (min lo c) (max hi c) (by omega) (by omega) (by omega) (by omega) (by omega)
    by_cases q1 : lo ≤ c
    · rw [if_pos q1]
      by_cases q2 : c ≤ hi
      · rw [if_pos q2]
        rw [show min lo c = lo by omega, show max hi c = hi by omega] at ih ⊢
        exact ih
      · rw [if_neg q2]
        rw [show min lo c = lo by omega, show max hi c = c by omega] at ih ⊢
        exact ih
    · rw [if_neg q1, if_pos (by omega)]
      rw [show min lo c = c by omega, show max hi c = hi by omega] at ih ⊢
      exact ih
theorem J.apart (h : J p L B s m) (hp : 0 < p) : ∃ a b, f_X1_countsApart s = some (kI b - kI a) ∧ f_X4_spreadNow m = some (kI b - kI a) := by
  have h16 := h.p16
  obtain ⟨c, hc, c1, c2⟩ := h.cnt hp
  have g : inB 0 16 = true := inBT (a := 0) (by decide) (by decide)
  unfold f_X1_countsApart f_X4_spreadNow
  simp only [g, ↓reduceIte, z0, c1, c2]
  exact apL h (p - 1) 1 fuel0 fuel0 c c (by omega) (by unfold fuel0; omega) (by unfold fuel0; omega) (Nat.le_refl _) hc
theorem J.by (h : J p L B tr sp) (th : ShT) (tb : Bool) (tp : ShT) (tf : AI) {f : Nat} (hf : f < L) : ∃ t x g, f_X3_thinkBy (kI f) tr th = some t ∧ f_X4_fresh sp tb tp tf = some (x, g) ∧ J p L B t (x.1, x.2.1, x.2.2.1, x.2.2.2.1, x.2.2.2.2.1, x.2.2.2.2.2.1, x.2.2.2.2.2.2.1, kI f, x.2.2.2.2.2.2.2.2.1, x.2.2.2.2.2.2.2.2.2) := by
  obtain ⟨t1, x1, g1, e1, e2, j⟩ := h.fresh th tb tp tf
  exact ⟨_, x1, g1, by unfold f_X3_thinkBy; rw [bsm e1], e2, j.force hf⟩
theorem J.sprd (h : J p L B tr sp) (th : ShT) (tb : Bool) (tp : ShT) (tf : AI) {f n : Nat} (hf : f < L) (hp : 0 < p) (hn : n ≤ 999) : ∃ r t x g, f_X3_spreadBy (kI f) (kI n) tr th = some (r, t) ∧ f_X4_spreadBy (kI f) (kI n) sp tb tp tf = some (r, x, g) := by
  obtain ⟨t1, x1, g1, e1, e2, j⟩ := h.by th tb tp tf hf
  obtain ⟨t2, x2, e3, e4, j2⟩ := j.anew
  obtain ⟨t3, x3, e5, e6, j3⟩ := j2.goes hp (by omega) hn (by omega)
  obtain ⟨a, b, e7, e8⟩ := j3.apart hp
  refine ⟨kI b - kI a, t3, x3, g1, ?_, ?_⟩
  · unfold f_X3_spreadBy
    rw [bsm e1, bsm e3, bsm e5, bsm e7]
  · unfold f_X4_spreadBy f_X4_anewBy
    rw [bsm e2]
    dsimp only
    rw [bsm e4]
    show ((some (x2, g1)).bind fun r1001 => (f_X4_goes (kI n) r1001.1).bind fun r1002 => (f_X4_spreadNow r1002).bind fun r1003 => some (r1003, r1002, r1001.2)) = _
    rw [bsm rfl, bsm e6, bsm e8]
theorem s_spread (h : J p L B tr sp) (hr : RF rf mf) (a0 a1 : Int32) : T3 (f_X3_spread a0 a1 tr th rf) (f_X4_spread a0 a1 sp mf tb tp tf) := by
  unfold f_X3_spread f_X4_spread
  rcases h.lawg a0 with ⟨f, hf, rfl, e3, e5⟩ | ⟨e3, e5⟩
  rotate_left
  · rw [bsm e3, bsm e5, if_pos rfl, if_pos rfl]
    exact T3r hr 0 (by decide) rfl
  rw [bsm e3, bsm e5, if_neg one_ne, if_neg one_ne]
  rcases may a1 with ⟨n, hn, rfl, e1, e2⟩ | ⟨e1, e2⟩
  rotate_left
  · rw [bsm e1, bsm e2, if_pos rfl, if_pos rfl]
    exact T3r hr 0 (by decide) rfl
  rw [bsm e1, bsm e2, if_neg one_ne, if_neg one_ne]
  rcases h.empt with ⟨hp, e6, e7⟩ | ⟨hp, e6, e7⟩
  rotate_left
  · rw [bsm e6, if_neg one_ne, if_pos e7]
    exact T3r hr 3 (by decide) rfl
  obtain ⟨r, t, x, g, f1, f2⟩ := h.sprd th tb tp tf hf hp hn
  rw [bsm e6, if_pos rfl, if_neg e7, bsm f1, bsm f2]
  exact T3s hr
theorem fairL (h : J p L B tr sp) (hp : 0 < p) (hr : RF rf mf) {N : Nat} (hN : N ≤ 999) : ∀ (d k n n' : Nat) (b l : Int32) (th : ShT) (tp : ShT) (tf : AI), k + d = L → d < n → d < n' → T3 (f_X3_fairest_L0 (kI N) tr n b l (kI k) th rf) (f_X4_fairest_L0 (kI N) sp n' b l (kI k) mf tp tf)
  | _, _, 0, _, _, _, _, _, _, _, h, _ => by omega
  | _, _, _, 0, _, _, _, _, _, _, _, h => by omega
  | 0, k, n + 1, n' + 1, b, l, th, tp, tf, hk, _, _ => by
    have h6 := h.l6
    rw [f_X3_fairest_L0, f_X4_fairest_L0, h.LL.1, h.LL.2, if_pos ((kI_le (by omega) (by omega)).mpr (by omega)), if_pos ((kI_le (by omega) (by omega)).mpr (by omega))]
    exact T3s hr
  | d + 1, k, n + 1, n' + 1, b, l, th, tp, tf, hk, hn, hn' => by
    have h6 := h.l6
    obtain ⟨r, t, x, g, f1, f2⟩ := h.sprd th true tp tf (f := k) (by omega) hp hN
    rw [f_X3_fairest_L0, f_X4_fairest_L0, h.LL.1, h.LL.2, if_neg (kI_leF (by omega) (by omega) (by omega)), if_neg (kI_leF (by omega) (by omega) (by omega)), bsm f1, bsm f2, show kI k + 1 = kI (k + 1) from kI_add k 1]
    dsimp only
    by_cases c : l ≤ r
    · simp only [if_pos c]
      exact fairL h hp hr hN d (k + 1) n n' b l t x g (by omega) (by omega) (by omega)
    · simp only [if_neg c]
      exact fairL h hp hr hN d (k + 1) n n' (kI k) r t x g (by omega) (by omega) (by omega)
theorem s_fairest (h : J p L B tr sp) (hr : RF rf mf) (a0 : Int32) : T3 (f_X3_fairest a0 tr th rf) (f_X4_fairest a0 sp mf tb tp tf) := by
  have h6 := h.l6
  unfold f_X3_fairest f_X4_fairest
  rcases may a0 with ⟨n, hn, rfl, e1, e2⟩ | ⟨e1, e2⟩
  rotate_left
  · rw [bsm e1, bsm e2, if_pos rfl, if_pos rfl]
    exact T3r hr 0 (by decide) rfl
  rw [bsm e1, bsm e2, if_neg one_ne, if_neg one_ne]
  rcases h.stk with ⟨hp, hL, e6, e7⟩ | ⟨hL, e6, e7⟩
  rotate_left
  · rw [bsm e6, bsm e7, if_neg one_ne, if_pos rfl]
    exact T3r hr 3 (by decide) rfl
  obtain ⟨r, t, x, g, f1, f2⟩ := h.sprd th tb tp tf (f := 0) hL hp hn
  rw [bsm e6, bsm e7, if_pos rfl, if_neg one_ne, bsm (show f_X3_spreadBy 0 (kI n) tr th = some (r, t) from f1), bsm (show f_X4_spreadBy 0 (kI n) sp tb tp tf = some (r, x, g) from f2)]
  exact fairL h hp hr hn (L - 1) 1 fuel0 fuel0 0 r t x g (by omega) (by unfold fuel0; omega) (by unfold fuel0; omega)
theorem levL (hp : 0 < p) (hL : 0 < L) (hr : RF rf mf) : ∀ (d k n n' : Nat) {B : Nat} {t x : ShT}, J p L B t x → k + d = 1000 → d < n → d < n' → B + d < 1000000000 → T3 (f_X3_level_L0 tr n (kI k) t rf) (f_X4_level_L0 sp n' (kI k) mf x tf)
  | _, _, 0, _, _, _, _, _, _, h, _, _ => by omega
  | _, _, _, 0, _, _, _, _, _, _, h, _ => by omega
  | 0, k, n + 1, n' + 1, _, t, x, _, hk, _, _, _ => by
    rw [f_X3_level_L0, f_X4_level_L0, i999, if_pos ((kI_lt (by omega) (by omega)).mpr (by omega)), if_pos ((kI_lt (by omega) (by omega)).mpr (by omega))]
    exact T3s hr
  | d + 1, k, n + 1, n' + 1, B2, t, x, j, hk, hn, hn', hB => by
    obtain ⟨t1, x1, y, hy, -, -, e1, e2, j1⟩ := j.turn hp hL (by omega)
    obtain ⟨a, b, f1, f2⟩ := j1.apart hp
    have ih := levL hp hL hr d (k + 1) n n' j1 (by omega) (by omega) (by omega) (by omega)
    rw [f_X3_level_L0, f_X4_level_L0, i999, if_neg (kI_ltF (by omega) (by omega) (by omega)), if_neg (kI_ltF (by omega) (by omega) (by omega)), bsm e1, bsm e2, bsm f1, bsm f2, show kI k + 1 = kI (k + 1) from kI_add k 1]
    by_cases c : kI b - kI a = 0
    · rw [if_pos c, if_pos c]
      exact T3s hr
    · rw [if_neg c, if_neg c]
      exact ih
theorem s_level (h : J p L B tr sp) (hr : RF rf mf) (a0 : Int32) : T3 (f_X3_level a0 tr th rf) (f_X4_level a0 sp mf tb tp tf) := by
  unfold f_X3_level f_X4_level
  rcases h.lawg a0 with ⟨f, hf, rfl, e3, e5⟩ | ⟨e3, e5⟩
  rotate_left
  · rw [bsm e3, bsm e5, if_pos rfl, if_pos rfl]
    exact T3r hr 0 (by decide) rfl
  rw [bsm e3, bsm e5, if_neg one_ne, if_neg one_ne]
  rcases h.empt with ⟨hp, e6, e7⟩ | ⟨hp, e6, e7⟩
  rotate_left
  · rw [bsm e6, if_neg one_ne, if_pos e7]
    exact T3r hr 3 (by decide) rfl
  obtain ⟨t1, x1, g1, e1, e2, j⟩ := h.by th tb tp tf hf
  obtain ⟨t2, x2, e8, e9, j2⟩ := j.anew
  rw [bsm e6, if_pos rfl, if_neg e7, bsm e1, bsm e8]
  unfold f_X4_anewBy
  rw [bsm e2]
  dsimp only
  rw [bsm e9, bsm (show (some (x2, g1) : Option (ShT × AI)) = some (x2, g1) from rfl)]
  exact levL hp (by omega) hr 999 1 fuel0 fuel0 j2 (by omega) (by unfold fuel0; omega) (by unfold fuel0; omega) (by omega)
end FA2
