/-! ===== what changes the shop ===== -/
def TM (B l : Nat) (x y : Option (Int32 × ShT × AI)) : Prop := ∃ r tr sp rf mf p L, x = some (r, tr, rf) ∧ y = some (r, sp, mf) ∧ J p L B tr sp ∧ RF rf mf ∧ l ≤ L
theorem quo5 {u a : Nat} (hu : u < 2147483648) (ha : 0 < a) (ha2 : a < 2147483648) : kI u - kI u / kI a * kI a = kI (u % a) := by
  have h1 := Nat.div_mul_le_self u a
  have h2 := Nat.div_add_mod u a
  rw [Nat.mul_comm] at h2
  rw [show kI u / kI a = kI (u / a) from (Int32.ofNat_div hu ha2).symm, kI_mul, kI_sub h1]
  congr 1
  omega
theorem ushr (e : Int32) : ∃ u, u < 65536 ∧ (e.toUInt32 >>> ((16 : Int32).toUInt32 &&& Int32.toUInt32 31)).toInt32 = kI u := by
  refine ⟨e.toUInt32.toNat >>> 16, ?_, ?_⟩
  · rw [Nat.shiftRight_eq_div_pow]
    have := e.toUInt32.toNat_lt
    omega
  · apply Int32.toBitVec.inj
    apply BitVec.eq_of_toNat_eq
    show (e.toUInt32 >>> ((16 : Int32).toUInt32 &&& Int32.toUInt32 31)).toNat = (BitVec.ofNat 32 (e.toUInt32.toNat >>> 16)).toNat
    rw [UInt32.toNat_shiftRight, BitVec.toNat_ofNat, show ((16 : Int32).toUInt32 &&& Int32.toUInt32 31).toNat % 32 = 16 from by decide]
    have h1 := e.toUInt32.toNat_lt
    have h2 := shr_le e.toUInt32.toNat 16
    omega
section ACT
variable {s m tr sp : ShT} {p L B : Nat} {rf mf : AI}
theorem TMr (h : J p L B tr sp) (hr : RF rf mf) (i : Nat) (hi : i < 5) {c : Int32} (hc : c = -kI (i + 2)) : TM B L ((f_X3_refuse c rf).bind fun r => some (r.1, tr, r.2)) ((f_X4_refuse c mf).bind fun r => some (r.1, sp, r.2)) := by
  subst hc
  obtain ⟨rf', mf', e1, e2, h'⟩ := refu hr hi
  rw [bsm e1, bsm e2]
  exact ⟨_, _, _, _, _, _, _, rfl, rfl, h, h', Nat.le_refl _⟩
theorem TMs {B' l : Nat} (h : J p L B tr sp) (hr : RF rf mf) (hB : B ≤ B') (hB' : B' < 1000000000) {r r' : Int32} (e : r = r') (hl : l ≤ L := by omega) : TM B' l (some (r, tr, rf)) (some (r', sp, mf)) := by
  subst e
  exact ⟨_, _, _, _, _, _, _, rfl, rfl, h.mono hB hB', hr, hl⟩
theorem s_comes (h : J p L B tr sp) (hr : RF rf mf) : TM B L (f_X3_comes tr rf) (f_X4_comes sp mf) := by
  have h16 := h.p16
  unfold f_X3_comes f_X4_comes f_X1_hasRoom
  rw [h.pp.1, h.pp.2, i16, if_kIle (by omega) (by omega), if_kI (by omega) (by omega)]
  by_cases c : p = 16
  · rw [if_pos (by omega), if_pos c, Option.bind_some, if_pos rfl]
    exact TMr h hr 4 (by decide) rfl
  · obtain ⟨s', m', e1, e2, j⟩ := h.add (by omega)
    rw [if_neg (by omega), if_neg c, Option.bind_some, if_neg one_ne, bsm e1, bsm e2]
    exact TMs j hr (Nat.le_refl _) h.Bb (by rw [j.pp.2, i1, kI_sub (by omega), Nat.add_sub_cancel])
theorem s_law (h : J p L B tr sp) (hr : RF rf mf) (a0 a1 : Int32) : TM B L (f_X3_law a0 a1 tr rf) (f_X4_law a0 a1 sp mf) := by
  have h6 := h.l6
  unfold f_X3_law f_X4_law f_X3_isKind
  rcases b_0_5 a0 with ⟨k, -, hk, rfl, e1, e2⟩ | ⟨e1, e2⟩
  rotate_left
  · rw [bsm e1, if_pos z01_0, bsm e2, Option.bind_some, if_pos rfl, if_pos rfl]
    exact TMr h hr 0 (by decide) rfl
  rw [bsm e1, if_pos z01_1, bsm e2, Option.bind_some, if_neg one_ne, if_neg one_ne]
  rcases b_0_15 a1 with ⟨a, -, ha, rfl, e1, e2⟩ | ⟨e1, e2⟩
  rotate_left
  · rw [bsm e1, bsm e2, if_pos rfl, if_pos rfl]
    exact TMr h hr 0 (by decide) rfl
  unfold f_X1_hasRoomForLaw
  rw [bsm e1, bsm e2, if_neg one_ne, if_neg one_ne, h.LL.1, h.LL.2, i6, if_kIle (by omega) (by omega), if_kI (by omega) (by omega)]
  by_cases c : L = 6
  · rw [if_pos (by omega), if_pos c, Option.bind_some, if_pos rfl]
    exact TMr h hr 4 (by decide) rfl
  · obtain ⟨s', m', e1, e2, j⟩ := h.addLaw (by omega) hk ha
    rw [if_neg (by omega), if_neg c, Option.bind_some, if_neg one_ne, bsm e1, bsm e2]
    exact TMs j hr (Nat.le_refl _) h.Bb (by rw [j.LL.2, i1, kI_sub (by omega), Nat.add_sub_cancel])
theorem J.fts (h : J p L B s m) : s.2.2.2.2.2.2.2.1 = m.2.2.2.2.2.2.2.1 ∧ s.2.2.2.2.2.2.2.2.1 = m.2.2.2.2.2.2.2.2.1 ∧ s.2.2.2.2.2.2.2.2.2 = m.2.2.2.2.2.2.2.2.2 := by
  obtain ⟨ln, ct, la, kd, am, fc, tu, se, R, R', v⟩ := h
  exact ⟨by rw [R.fE, R'.fE], by rw [R.tE, R'.tE], by rw [R.sE, R'.sE]⟩
theorem s_use (h : J p L B tr sp) (hr : RF rf mf) (a0 : Int32) : TM B L (f_X3_use a0 tr rf) (f_X4_use a0 sp mf) := by
  unfold f_X3_use f_X4_use
  rcases h.lawg a0 with ⟨f, hf, rfl, e3, e5⟩ | ⟨e3, e5⟩
  rotate_left
  · rw [bsm e3, bsm e5, if_pos rfl, if_pos rfl]
    exact TMr h hr 0 (by decide) rfl
  rw [bsm e3, bsm e5, if_neg one_ne, if_neg one_ne]
  exact TMs (h.force hf) hr (Nat.le_refl _) h.Bb h.fts.1
theorem J.sed (h : J p L B s m) (e : Int32) : J p L B (s.1, s.2.1, s.2.2.1, s.2.2.2.1, s.2.2.2.2.1, s.2.2.2.2.2.1, s.2.2.2.2.2.2.1, s.2.2.2.2.2.2.2.1, s.2.2.2.2.2.2.2.2.1, e) (m.1, m.2.1, m.2.2.1, m.2.2.2.1, m.2.2.2.2.1, m.2.2.2.2.2.1, m.2.2.2.2.2.2.1, m.2.2.2.2.2.2.2.1, m.2.2.2.2.2.2.2.2.1, e) := by
  obtain ⟨ln, ct, la, kd, am, fc, tu, se, R, R', v⟩ := h
  exact ⟨ln, ct, la, kd, am, fc, tu, e, ⟨R.pE, R.LE, R.fE, R.tE, rfl, fun j hj => ⟨R.lE hj, R.cE hj, R.aE hj⟩, fun j hj => ⟨R.kE hj, R.mE hj⟩⟩, ⟨R'.pE, R'.LE, R'.fE, R'.tE, rfl, fun j hj => ⟨R'.lE hj, R'.cE hj, R'.aE hj⟩, fun j hj => ⟨R'.kE hj, R'.mE hj⟩⟩, v⟩
theorem s_seed (h : J p L B tr sp) (a0 : Int32) : ∃ r s' m', f_X3_seed a0 tr = some (r, s') ∧ f_X4_seed a0 sp = some (r, m') ∧ J p L B s' m' :=
  ⟨_, _, _, rfl, by unfold f_X4_seed; rw [← h.fts.2.2], h.sed a0⟩
theorem s_anew (h : J p L B tr sp) : ∃ r s' m', f_X3_anew tr = some (r, s') ∧ f_X4_anew sp = some (r, m') ∧ J p L B s' m' := by
  obtain ⟨s', m', e1, e2, j⟩ := h.anew
  refine ⟨tr.2.2.2.2.2.2.2.2.1, s', m', ?_, ?_, j.mono (Nat.zero_le _) h.Bb⟩
  · unfold f_X3_anew
    rw [bsm e1]
  · unfold f_X4_anew
    rw [bsm e2, h.fts.2.1]
theorem s_lets (h : J p L B tr sp) (hr : RF rf mf) (a0 : Int32) : TM B L (f_X3_lets a0 tr rf) (f_X4_lets a0 sp mf) := by
  have h16 := h.p16
  unfold f_X3_lets f_X4_lets
  rcases h.per a0 with ⟨x, hx, rfl, e3, e4, e5⟩ | ⟨e3, e4, e5⟩
  rotate_left
  · rw [bsm e4, bsm e5, if_pos rfl, if_pos rfl]
    exact TMr h hr 0 (by decide) rfl
  rw [bsm e4, bsm e5, if_neg one_ne, if_neg one_ne, h.pp.2, i1, kI_add, kI_sub (by omega), if_kI (by omega) (by omega)]
  by_cases c : x = p - 1
  · rw [if_pos c]
    rcases h.per (kI (x + 1)) with ⟨y, hy, e, f3, f4, f5⟩ | ⟨f3, f4, f5⟩
    · rw [kI_eq (by omega) (by omega)] at e
      omega
    · rw [bsm f4, if_pos rfl]
      exact TMr h hr 3 (by decide) rfl
  · rw [if_neg c]
    rcases h.per (kI (x + 1)) with ⟨y, hy, e, f3, f4, f5⟩ | ⟨f3, f4, f5⟩
    rotate_left
    · obtain ⟨ln, ct, la, kd, am, fc, tu, se, R, R', v⟩ := h
      rw [X1_hasPlace R v.1 (x := x + 1) (by omega)] at f4
      exact absurd (Option.some.inj f4) one_ne
    obtain ⟨s', m', z, hz, g1, g2, g3, j⟩ := h.letb (a := x) (by omega)
    have g : inB (kI x) 16 = true := inBT (by omega) (by decide)
    rw [bsm f4, if_neg one_ne, bsm g1, bsm g2, if_pos g, kI_nat (by omega)]
    exact TMs j hr (Nat.le_refl _) h.Bb g3.symm
theorem s_moves (h : J p L B tr sp) (hr : RF rf mf) (a0 a1 : Int32) : TM B L (f_X3_moves a0 a1 tr rf) (f_X4_moves a0 a1 sp mf) := by
  unfold f_X3_moves f_X4_moves
  rcases h.per a0 with ⟨x, hx, rfl, e3, e4, e5⟩ | ⟨e3, e4, e5⟩
  rotate_left
  · rw [bsm e3, bsm e5, if_pos rfl, if_pos rfl]
    exact TMr h hr 0 (by decide) rfl
  rw [bsm e3, bsm e5, if_neg one_ne, if_neg one_ne]
  rcases h.per a1 with ⟨y, hy, rfl, f3, f4, f5⟩ | ⟨f3, f4, f5⟩
  rotate_left
  · rw [bsm f4, bsm f5, if_pos rfl, if_pos rfl]
    exact TMr h hr 0 (by decide) rfl
  obtain ⟨q, hq, q1, q2⟩ := h.place hx
  obtain ⟨s', m', g1, g2, j⟩ := h.move hx hy
  rw [bsm f4, bsm f5, if_neg one_ne, if_neg one_ne, bsm q1, bsm q2, bsm g1, bsm g2]
  exact TMs j hr (Nat.le_refl _) h.Bb rfl
theorem s_leaves (h : J p L B tr sp) (hr : RF rf mf) : TM B L (f_X3_leaves tr rf) (f_X4_leaves sp mf) := by
  unfold f_X3_leaves f_X4_leaves
  rcases h.empt with ⟨hp, e6, e7⟩ | ⟨hp, e6, e7⟩
  rotate_left
  · rw [bsm e6, if_neg one_ne, if_pos e7]
    exact TMr h hr 3 (by decide) rfl
  obtain ⟨s', m', g1, g2, j⟩ := h.leave hp
  rw [bsm e6, if_pos rfl, if_neg e7, bsm g1, bsm g2]
  exact TMs j hr (Nat.le_refl _) h.Bb (by rw [j.pp.1, j.pp.2])
theorem s_serve (h : J p L B tr sp) (hB : B + 99 < 1000000000) (hr : RF rf mf) (a0 : Int32) : TM (B + 99) L (f_X3_serve a0 tr rf) (f_X4_serve a0 sp mf) := by
  have hm := h.mono (B' := B + 99) (by omega) hB
  unfold f_X3_serve f_X4_serve
  rcases b_1_99 a0 with ⟨n, hn0, hn, rfl, e1, e2⟩ | ⟨e1, e2⟩
  rotate_left
  · rw [bsm e1, bsm e2, if_pos rfl, if_pos rfl]
    exact TMr hm hr 0 (by decide) rfl
  rw [bsm e1, bsm e2, if_neg one_ne, if_neg one_ne]
  rcases h.stk with ⟨hp, hL, e6, e7⟩ | ⟨hL, e6, e7⟩
  rotate_left
  · rw [bsm e6, bsm e7, if_neg one_ne, if_pos rfl]
    exact TMr hm hr 3 (by decide) rfl
  obtain ⟨s', m', g1, g2, j⟩ := h.goes hp hL (n := n) (by omega) (by omega)
  obtain ⟨x, hx, l1, l2⟩ := j.lin hp
  have g0 : inB 0 16 = true := inBT (a := 0) (by decide) (by decide)
  rw [bsm e6, bsm e7, if_pos rfl, if_neg one_ne, bsm g1, bsm g2, if_pos g0, bsm (show f_X1_who 0 s' = some (s'.1 0) from j.who hp)]
  exact TMs j hr (by omega) hB (by rw [z0, l1, l2])
theorem J.draw (h : J p L B s m) {a : Nat} (ha : 0 < a) (ha2 : a < 1000) : ∃ s' m' u, u < a ∧ f_X1_draw (kI a) s = some (kI u, s') ∧ f_X4_below (kI a) m = some (kI u, m') ∧ J p L B s' m' := by
  obtain ⟨e, he⟩ : ∃ e, s.2.2.2.2.2.2.2.2.2 * 1103515245 + 12345 = e := ⟨_, rfl⟩
  obtain ⟨u, hu, eu⟩ := ushr e
  have hne : ¬ kI a = 0 := by rw [i0, kI_eq (by omega) (by omega)]; omega
  refine ⟨_, _, u % a, Nat.mod_lt _ ha, ?_, ?_, h.sed e⟩
  · unfold f_X1_draw
    rw [he, Option.bind_some, if_neg (show ¬ kI a ≤ 0 from kI_leF (b := 0) (by omega) (by omega) ha), if_pos hne, eu, quo5 (by omega) ha (by omega)]
  · unfold f_X4_below
    rw [← h.fts.2.2, he, Option.bind_some, if_pos hne, eu, quo5 (by omega) ha (by omega)]
theorem dayL {N : Nat} (hN : N ≤ 99) (hr : RF rf mf) : ∀ (d k n n' : Nat) (v : Int32) {B B' : Nat} {t y : ShT}, J p L B t y → 0 < p → 0 < L → k + d = N → d < n → d < n' → B + d ≤ B' → B' < 1000000000 → TM B' L (f_X3_day_L0 (kI N) n v (kI k) t rf) (f_X4_day_L0 (kI N) n' v (kI k) y mf)
  | _, _, 0, _, _, _, _, _, _, _, _, _, _, h, _, _, _ => by omega
  | _, _, _, 0, _, _, _, _, _, _, _, _, _, _, h, _, _ => by omega
  | 0, k, n + 1, n' + 1, v, _, _, t, y, j, _, _, hk, _, _, hB, hB' => by
    rw [f_X3_day_L0, f_X4_day_L0, if_pos ((kI_le (by omega) (by omega)).mpr (by omega)), if_pos ((kI_le (by omega) (by omega)).mpr (by omega))]
    exact TMs j hr (by omega) hB' rfl
  | d + 1, k, n + 1, n' + 1, v, B2, B', t, y, j, hp, hL, hk, hn, hn', hB, hB' => by
    have h16 := j.p16
    obtain ⟨t1, y1, u, hu, d1, d2, j1⟩ := j.draw (a := 5) (by decide) (by decide)
    rw [f_X3_day_L0, f_X4_day_L0, if_neg (kI_leF (by omega) (by omega) (by omega)), if_neg (kI_leF (by omega) (by omega) (by omega)), i5, bsm d1, bsm d2]
    dsimp only
    rw [i0, if_kI (by omega) (by omega), if_kI (by omega) (by omega), j1.pp.1, j1.pp.2, i1, if_kIle (by omega) (by omega), if_kIle (by omega) (by omega), kI_add k 1, show v + kI 0 = v from Int32.add_zero v]
    by_cases c0 : u = 0
    · rw [if_pos c0, if_pos c0]
      by_cases c1 : p ≤ 1
      · rw [if_pos c1, if_pos c1]
        obtain ⟨t2, y2, z, hz, l1, l2, e1, e2, j2⟩ := j1.turn hp hL (by omega)
        rw [bsm e1, bsm e2]
        exact dayL hN hr d (k + 1) n n' v j2 hp hL (by omega) (by omega) (by omega) (by omega) hB'
      · rw [if_neg c1, if_neg c1, kI_sub (by omega)]
        obtain ⟨t3, y3, w, hw, d3, d4, j3⟩ := j1.draw (a := p - 1) (by omega) (by omega)
        obtain ⟨t4, y4, x4, hx4, g1, g2, g3, j4⟩ := j3.letb (a := w) (by omega)
        obtain ⟨t2, y2, z, hz, l1, l2, e1, e2, j2⟩ := j4.turn hp hL (by omega)
        rw [bsm d3, bsm d4]
        dsimp only
        rw [bsm g1, bsm g2]
        dsimp only
        rw [bsm e1, bsm e2]
        exact dayL hN hr d (k + 1) n n' (v + kI 1) j2 hp hL (by omega) (by omega) (by omega) (by omega) hB'
    · rw [if_neg c0, if_neg c0]
      obtain ⟨t2, y2, z, hz, l1, l2, e1, e2, j2⟩ := j1.turn hp hL (by omega)
      rw [bsm e1, bsm e2]
      exact dayL hN hr d (k + 1) n n' v j2 hp hL (by omega) (by omega) (by omega) (by omega) hB'
theorem s_day (h : J p L B tr sp) (hB : B + 99 < 1000000000) (hr : RF rf mf) (a0 : Int32) : TM (B + 99) L (f_X3_day a0 tr rf) (f_X4_day a0 sp mf) := by
  have hm := h.mono (B' := B + 99) (by omega) hB
  unfold f_X3_day f_X4_day
  rcases b_1_99 a0 with ⟨n, hn0, hn, rfl, e1, e2⟩ | ⟨e1, e2⟩
  rotate_left
  · rw [bsm e1, bsm e2, if_pos rfl, if_pos rfl]
    exact TMr hm hr 0 (by decide) rfl
  rw [bsm e1, bsm e2, if_neg one_ne, if_neg one_ne]
  rcases h.stk with ⟨hp, hL, e6, e7⟩ | ⟨hL, e6, e7⟩
  rotate_left
  · rw [bsm e6, bsm e7, if_neg one_ne, if_pos rfl]
    exact TMr hm hr 3 (by decide) rfl
  rw [bsm e6, bsm e7, if_pos rfl, if_neg one_ne]
  exact dayL hn hr n 0 fuel0 fuel0 0 h hp hL (by omega) (by unfold fuel0; omega) (by unfold fuel0; omega) (by omega) hB
theorem unsL (h : J p L B tr sp) : ∀ (d k n : Nat) (v : Int32), k + d = p → d < n → ∃ r, f_X3_unserved_L0 tr n v (kI k) = some r ∧ f_X4_unserved_L0 sp n v (kI k) = some r
  | _, _, 0, _, _, h => by omega
  | 0, k, n + 1, v, hk, _ => by
    have h16 := h.p16
    refine ⟨v, ?_, ?_⟩
    · rw [f_X3_unserved_L0, h.pp.1, if_pos ((kI_le (by omega) (by omega)).mpr (by omega))]
    · rw [f_X4_unserved_L0, h.pp.2, if_pos ((kI_le (by omega) (by omega)).mpr (by omega))]
  | d + 1, k, n + 1, v, hk, hn => by
    have h16 := h.p16
    obtain ⟨c, hc, c1, c2⟩ := h.cnt (j := k) (by omega)
    have g : inB (kI k) 16 = true := inBT (by omega) (by decide)
    rw [f_X3_unserved_L0, f_X4_unserved_L0, h.pp.1, h.pp.2, if_neg (kI_leF (by omega) (by omega) (by omega)), if_neg (kI_leF (by omega) (by omega) (by omega)), if_pos g, if_pos g, kI_nat (by omega), c1, c2, show kI k + 1 = kI (k + 1) from kI_add k 1, Int32.or_zero]
    by_cases q : kI c = 0
    · rw [if_pos q, if_pos q]
      exact unsL h d (k + 1) n _ (by omega) (by omega)
    · rw [if_neg q, if_neg q]
      exact unsL h d (k + 1) n _ (by omega) (by omega)
theorem s_unserved (h : J p L B tr sp) : ∃ r, f_X3_unserved tr = some r ∧ f_X4_unserved sp = some r :=
  unsL h p 0 fuel0 0 (by omega) (by have := h.p16; unfold fuel0; omega)
theorem J.tellC (h : J p L B s m) {x c : Nat} (hx : x < p) (hc : c ≤ B) : J p L B (s.1, (upd s.2.1 x (kI c)), s.2.2.1, s.2.2.2.1, s.2.2.2.2.1, s.2.2.2.2.2.1, s.2.2.2.2.2.2.1, s.2.2.2.2.2.2.2.1, s.2.2.2.2.2.2.2.2.1, s.2.2.2.2.2.2.2.2.2) (m.1, (upd m.2.1 x (kI c)), m.2.2.1, m.2.2.2.1, m.2.2.2.2.1, m.2.2.2.2.2.1, m.2.2.2.2.2.2.1, m.2.2.2.2.2.2.2.1, m.2.2.2.2.2.2.2.2.1, m.2.2.2.2.2.2.2.2.2) := by
  obtain ⟨ln, ct, la, kd, am, fc, tu, se, R, R', v1, v2, v3, v4⟩ := h
  have q : ∀ {z : ShT}, Rs z p ln ct la L kd am fc tu se → ∀ j, j < p → upd z.2.1 x (kI c) j = kI (tup ct x c j) := fun Z j hj => by
    unfold tup
    by_cases e : j = x
    · rw [e, upd_at, if_pos rfl]
    · rw [upd_ne e, if_neg e, Z.cE hj]
  refine ⟨ln, tup ct x c, la, kd, am, fc, tu, se, ⟨R.pE, R.LE, R.fE, R.tE, R.sE, fun j hj => ⟨R.lE hj, q R j hj, R.aE hj⟩, fun j hj => ⟨R.kE hj, R.mE hj⟩⟩, ⟨R'.pE, R'.LE, R'.fE, R'.tE, R'.sE, fun j hj => ⟨R'.lE hj, q R' j hj, R'.aE hj⟩, fun j hj => ⟨R'.kE hj, R'.mE hj⟩⟩, v1, v2, fun j hj => ⟨(v3 j hj).1, ?_, (v3 j hj).2.2⟩, v4⟩
  have := (v3 j hj).2.1
  unfold tup
  split <;> omega
theorem J.tellL (h : J p L B s m) {x c : Nat} (hx : x < p) (hc1 : 1 ≤ c) (hc : c ≤ 99) : J p L B (s.1, s.2.1, (upd s.2.2.1 x (kI c)), s.2.2.2.1, s.2.2.2.2.1, s.2.2.2.2.2.1, s.2.2.2.2.2.2.1, s.2.2.2.2.2.2.2.1, s.2.2.2.2.2.2.2.2.1, s.2.2.2.2.2.2.2.2.2) (m.1, m.2.1, (upd m.2.2.1 x (kI c)), m.2.2.2.1, m.2.2.2.2.1, m.2.2.2.2.2.1, m.2.2.2.2.2.2.1, m.2.2.2.2.2.2.2.1, m.2.2.2.2.2.2.2.2.1, m.2.2.2.2.2.2.2.2.2) := by
  obtain ⟨ln, ct, la, kd, am, fc, tu, se, R, R', v1, v2, v3, v4⟩ := h
  have q : ∀ {z : ShT}, Rs z p ln ct la L kd am fc tu se → ∀ j, j < p → upd z.2.2.1 x (kI c) j = kI (tup la x c j) := fun Z j hj => by
    unfold tup
    by_cases e : j = x
    · rw [e, upd_at, if_pos rfl]
    · rw [upd_ne e, if_neg e, Z.aE hj]
  refine ⟨ln, ct, tup la x c, kd, am, fc, tu, se, ⟨R.pE, R.LE, R.fE, R.tE, R.sE, fun j hj => ⟨R.lE hj, R.cE hj, q R j hj⟩, fun j hj => ⟨R.kE hj, R.mE hj⟩⟩, ⟨R'.pE, R'.LE, R'.fE, R'.tE, R'.sE, fun j hj => ⟨R'.lE hj, R'.cE hj, q R' j hj⟩, fun j hj => ⟨R'.kE hj, R'.mE hj⟩⟩, v1, v2, fun j hj => ⟨(v3 j hj).1, (v3 j hj).2.1, ?_⟩, v4⟩
  have := (v3 j hj).2.2
  unfold tup
  split <;> omega
theorem s_tell (h : J p L B tr sp) (hB : 999 ≤ B) (hr : RF rf mf) (a0 a1 a2 : Int32) : TM B L (f_X3_tell a0 a1 a2 tr rf) (f_X4_tell a0 a1 a2 sp mf) := by
  have h16 := h.p16
  have h10 : ¬ (1 : Int32) = 0 := one_ne
  unfold f_X3_tell f_X4_tell
  rcases h.per a0 with ⟨x, hx, rfl, e3, e4, e5⟩ | ⟨e3, e4, e5⟩
  rotate_left
  · rw [bsm e3, if_pos rfl]
    by_cases c0 : a1 = 0
    · rw [if_pos c0]
      rcases b_0_999 a2 with ⟨n, -, hn, rfl, e1, e2⟩ | ⟨e1, e2⟩
      · rw [bsm e2, bsm e5, if_pos rfl]
        exact TMr h hr 0 (by decide) rfl
      · rw [bsm e2, bsm e5, if_pos rfl]
        exact TMr h hr 0 (by decide) rfl
    · rw [if_neg c0]
      by_cases c1 : a1 = 1
      · rw [if_pos c1]
        rcases b_1_99 a2 with ⟨n, hn0, hn, rfl, e1, e2⟩ | ⟨e1, e2⟩
        · rw [bsm e2, if_neg one_ne, bsm e5, if_pos rfl]
          exact TMr h hr 0 (by decide) rfl
        · rw [bsm e2, if_pos rfl, bsm e5, if_pos rfl]
          exact TMr h hr 0 (by decide) rfl
      · rw [if_neg c1, bsm e5, if_pos rfl]
        exact TMr h hr 0 (by decide) rfl
  · have g : inB (kI x) 16 = true := inBT (by omega) (by decide)
    rw [bsm e3, if_neg one_ne]
    by_cases c0 : a1 = 0
    · subst c0
      rw [if_pos rfl, if_pos rfl]
      rcases b_0_999 a2 with ⟨n, -, hn, rfl, e1, e2⟩ | ⟨e1, e2⟩
      · rw [bsm e1, if_neg one_ne, bsm e2, bsm e5, if_neg one_ne, if_neg one_ne, if_pos rfl]
        simp only [g, ↓reduceIte]
        rw [kI_nat (by omega)]
        obtain ⟨c, hc, l1, l2⟩ := h.cnt hx
        exact TMs (h.tellC hx (by omega)) hr (Nat.le_refl _) h.Bb (by rw [l1, l2])
      · rw [bsm e1, if_pos rfl, if_neg (fun c => one_ne c.symm), bsm e2, bsm e5, if_neg one_ne, if_pos rfl]
        exact TMr h hr 0 (by decide) rfl
    · rw [if_neg c0, if_neg c0]
      by_cases c1 : a1 = 1
      · subst c1
        rw [if_pos rfl, if_pos rfl]
        rcases b_1_99 a2 with ⟨n, hn0, hn, rfl, e1, e2⟩ | ⟨e1, e2⟩
        · rw [bsm e1, if_neg one_ne, bsm e2, if_neg one_ne, bsm e5, if_neg one_ne, if_neg one_ne]
          simp only [g, ↓reduceIte]
          rw [kI_nat (by omega)]
          obtain ⟨c, hc, hc2, l1, l2⟩ := h.las hx
          exact TMs (h.tellL hx hn0 hn) hr (Nat.le_refl _) h.Bb (by rw [l1, l2])
        · rw [bsm e1, if_pos rfl, bsm e2, if_pos rfl, bsm e5, if_neg one_ne]
          exact TMr h hr 0 (by decide) rfl
      · rw [if_neg c1, if_neg c1, bsm e5, if_neg one_ne]
        exact TMr h hr 0 (by decide) rfl
end ACT
