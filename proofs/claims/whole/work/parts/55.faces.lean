/-! ===== faces, in thought ===== -/
section FAC
variable {s m tr sp : ShT} {p L B : Nat} {rf mf : AI} {th : ShT} {tb : Bool} {tp : ShT} {tf : AI}
theorem J.who (h : J p L B s m) {x : Nat} (hx : x < p) : f_X1_who (kI x) s = some (s.1 x) := by
  have h16 := h.p16
  obtain ⟨ln, ct, la, kd, am, fc, tu, se, R, R', v⟩ := h
  unfold f_X1_who
  rw [bsm (X1_hasPlace R v.1 hx), if_neg one_ne, if_pos (inBT (by omega) (by decide)), kI_nat (by omega)]
theorem J.think (h : J p L B tr sp) {n : Nat} (hn : n ≤ 999) (hp : 0 < p) (hL : 0 < L) (hB : B + 999 < 1000000000) (th : ShT) (tb : Bool) (tp : ShT) (tf : AI) : ∃ th' tp' tf', f_X3_think (kI n) tr th = some th' ∧ f_X4_behindOf (kI n) sp tb tp tf = some (tp', tf') ∧ J p L (B + n) th' tp' := by
  obtain ⟨t1, x1, f1, e1, e2, j⟩ := h.fresh th tb tp tf
  obtain ⟨t2, x2, e3, e4, j2⟩ := j.goes hp hL hn (by omega)
  refine ⟨t2, x2, f1, ?_, ?_, j2⟩
  · unfold f_X3_think
    rw [bsm e1, bsm e3]
  · unfold f_X4_behindOf
    rw [bsm e2, bsm e4]
theorem s_stands (h : J p L B tr sp) (hB : B + 999 < 1000000000) (hr : RF rf mf) (a0 a1 : Int32) : T3 (f_X3_stands a0 a1 tr th rf) (f_X4_stands a0 a1 sp mf tb tp tf) := by
  have h16 := h.p16
  unfold f_X3_stands f_X4_stands
  rcases may a0 with ⟨n, hn, rfl, e1, e2⟩ | ⟨e1, e2⟩
  rotate_left
  · rw [bsm e1, bsm e2, if_pos rfl, if_pos rfl]
    exact T3r hr 0 (by decide) rfl
  rw [bsm e1, bsm e2, if_neg one_ne, if_neg one_ne]
  rcases h.per a1 with ⟨x, hx, rfl, e3, e4, e5⟩ | ⟨e3, e4, e5⟩
  rotate_left
  · rw [bsm e4, bsm e5, if_pos rfl, if_pos rfl]
    exact T3r hr 0 (by decide) rfl
  rw [bsm e4, bsm e5, if_neg one_ne, if_neg one_ne]
  rcases h.less with ⟨hL, e6, e7⟩ | ⟨hL, e6, e7⟩
  rotate_left
  · rw [bsm e6, if_neg one_ne, if_pos e7]
    exact T3r hr 3 (by decide) rfl
  rw [bsm e6, if_pos rfl, if_neg e7]
  obtain ⟨t1, x1, g1, e8, e9, j⟩ := h.think hn (by omega) hL hB th tb tp tf
  obtain ⟨y, hy, l1, l2⟩ := j.lin hx
  rw [bsm e8, bsm (j.who hx), bsm e9, if_pos (inBT (by omega) (by decide)), kI_nat (by omega), l1]
  dsimp only
  rw [l2]
  exact T3s hr
theorem s_tail (h : J p L B tr sp) (hB : B + 999 < 1000000000) (hr : RF rf mf) (a0 : Int32) : T3 (f_X3_tail a0 tr th rf) (f_X4_tail a0 sp mf tb tp tf) := by
  have h16 := h.p16
  unfold f_X3_tail f_X4_tail
  rcases may a0 with ⟨n, hn, rfl, e1, e2⟩ | ⟨e1, e2⟩
  rotate_left
  · rw [bsm e1, bsm e2, if_pos rfl, if_pos rfl]
    exact T3r hr 0 (by decide) rfl
  rw [bsm e1, bsm e2, if_neg one_ne, if_neg one_ne]
  rcases h.stk with ⟨hp, hL, e6, e7⟩ | ⟨hL, e6, e7⟩
  rotate_left
  · rw [bsm e6, bsm e7, if_neg one_ne, if_pos rfl]
    exact T3r hr 3 (by decide) rfl
  rw [bsm e6, bsm e7, if_pos rfl, if_neg one_ne]
  obtain ⟨t1, x1, g1, e8, e9, j⟩ := h.think hn hp hL hB th tb tp tf
  obtain ⟨y, hy, l1, l2⟩ := j.lin (j := p - 1) (by omega)
  rw [bsm e8, j.pp.1, h.pp.2, show kI p - 1 = kI (p - 1) from kI_sub (b := 1) (by omega), bsm (j.who (by omega)), bsm e9, if_pos (inBT (by omega) (by decide)), kI_nat (by omega), l1]
  dsimp only
  rw [l2]
  exact T3s hr
theorem s_served (h : J p L B tr sp) (hB : B + 999 < 1000000000) (hr : RF rf mf) (a0 : Int32) : T3 (f_X3_served a0 tr th rf) (f_X4_served a0 sp mf tb tp tf) := by
  have h16 := h.p16
  unfold f_X3_served f_X4_served
  rcases b_1_999 a0 with ⟨n, hn0, hn, rfl, e1, e2⟩ | ⟨e1, e2⟩
  rotate_left
  · rw [bsm e1, bsm e2, if_pos rfl, if_pos rfl]
    exact T3r hr 0 (by decide) rfl
  rw [bsm e1, bsm e2, if_neg one_ne, if_neg one_ne]
  rcases h.stk with ⟨hp, hL, e6, e7⟩ | ⟨hL, e6, e7⟩
  rotate_left
  · rw [bsm e6, bsm e7, if_neg one_ne, if_pos rfl]
    exact T3r hr 3 (by decide) rfl
  rw [bsm e6, bsm e7, if_pos rfl, if_neg one_ne, show kI n - 1 = kI (n - 1) from kI_sub (b := 1) hn0]
  obtain ⟨t1, x1, g1, e8, e9, j⟩ := h.think (n := n - 1) (by omega) hp hL hB th tb tp tf
  obtain ⟨y, hy, l1, l2⟩ := j.lin (j := 0) hp
  rw [bsm e8, bsm (show f_X1_who 0 t1 = some (t1.1 0) from j.who hp), bsm e9, if_pos (show inB 0 16 = true from inBT (a := 0) (by decide) (by decide)), z0, l1]
  dsimp only
  rw [l2]
  exact T3s hr
theorem s_stand (h : J p L B tr sp) (hB : B + 999 < 1000000000) (hr : RF rf mf) (a0 : Int32) : T3 (f_X3_stand a0 tr th rf) (f_X4_stand a0 sp mf tb tp tf) := by
  have h16 := h.p16
  unfold f_X3_stand f_X4_stand
  rcases b_1_999 a0 with ⟨n, hn0, hn, rfl, e1, e2⟩ | ⟨e1, e2⟩
  rotate_left
  · rw [bsm e1, bsm e2, if_pos rfl, if_pos rfl]
    exact T3r hr 0 (by decide) rfl
  rw [bsm e1, bsm e2, if_neg one_ne, if_neg one_ne]
  rcases h.stk with ⟨hp, hL, e6, e7⟩ | ⟨hL, e6, e7⟩
  rotate_left
  · rw [bsm e6, bsm e7, if_neg one_ne, if_pos rfl]
    exact T3r hr 3 (by decide) rfl
  rw [bsm e6, bsm e7, if_pos rfl, if_neg one_ne, show kI n - 1 = kI (n - 1) from kI_sub (b := 1) hn0]
  obtain ⟨t1, x1, g1, e8, e9, j⟩ := h.think (n := n - 1) (by omega) hp hL hB th tb tp tf
  obtain ⟨y, hy, l1, l2⟩ := j.lin (j := 0) hp
  obtain ⟨q, hq, q1, q2⟩ := h.place hy
  rw [bsm e8, bsm (show f_X1_who 0 t1 = some (t1.1 0) from j.who hp), bsm e9, if_pos (show inB 0 16 = true from inBT (a := 0) (by decide) (by decide)), z0, l1, bsm q1]
  dsimp only
  rw [l2, bsm q2]
  exact T3s hr
theorem J.fact (h : J p L B s m) {x w : Nat} (hx : x < p) (hw : w ≤ 2) (mf : AI) : ∃ r, f_X1_fact (kI x) (kI w) s = some r ∧ f_X4_personOf (kI x) (kI w) m mf = some (r, mf) := by
  have h16 := h.p16
  rcases h.per (kI x) with ⟨x', hx', hxe, e3, e4, e5⟩ | ⟨e3, e4, e5⟩
  rotate_left
  · obtain ⟨ln, ct, la, kd, am, fc, tu, se, R, R', v⟩ := h
    rw [X1_hasPerson R v.1 hx] at e3
    exact absurd (Option.some.inj e3) one_ne
  rcases b_0_2 (kI w) with ⟨n, -, hn, hne, b1, b2⟩ | ⟨b1, b2⟩
  rotate_left
  · rw [X3_bet, kI_toInt (by omega), show (0 : Int32).toInt = 0 from rfl, show (2 : Int32).toInt = 2 from rfl, if_pos (by omega)] at b1
    exact absurd (Option.some.inj b1) one_ne
  unfold f_X1_fact f_X4_personOf
  rw [bsm e3, bsm e5, if_neg one_ne, if_neg one_ne, bsm b2, if_neg one_ne, i0, i1, if_kI (by omega) (by omega), if_kI (by omega) (by omega), if_kI (by omega) (by omega), if_kI (by omega) (by omega)]
  have h3 : w = 0 ∨ w = 1 ∨ w = 2 := by omega
  rcases h3 with rfl | rfl | rfl
  · obtain ⟨j, hj, p1, p2⟩ := h.place hx
    rw [if_pos rfl, if_pos rfl, bsm p1, bsm p2]
    exact ⟨_, rfl, rfl⟩
  · obtain ⟨c, hc, c1, c2⟩ := h.cnt hx
    simp only [show ¬ (1 = 0) from by decide, show inB (kI x) 16 = true from inBT (by omega) (by decide), show (kI x).toNatClampNeg = x from kI_nat (by omega), ↓reduceIte, c1, c2]
    exact ⟨_, rfl, rfl⟩
  · obtain ⟨c, -, hc, c1, c2⟩ := h.las hx
    simp only [show ¬ (2 = 0) from by decide, show ¬ (2 = 1) from by decide, show inB (kI x) 16 = true from inBT (by omega) (by decide), show (kI x).toNatClampNeg = x from kI_nat (by omega), ↓reduceIte, c1, c2]
    exact ⟨_, rfl, rfl⟩
theorem s_behind (h : J p L B tr sp) (hB : B + 999 < 1000000000) (hr : RF rf mf) (a0 a1 a2 : Int32) : T3 (f_X3_behind a0 a1 a2 tr th rf) (f_X4_behind a0 a1 a2 sp mf tb tp tf) := by
  have h16 := h.p16
  unfold f_X3_behind f_X4_behind
  rcases may a0 with ⟨n, hn, rfl, e1, e2⟩ | ⟨e1, e2⟩
  rotate_left
  · rw [bsm e1, bsm e2, if_pos rfl, if_pos rfl]
    exact T3r hr 0 (by decide) rfl
  rw [bsm e1, bsm e2, if_neg one_ne, if_neg one_ne]
  rcases h.per a1 with ⟨x, hx, rfl, e3, e4, e5⟩ | ⟨e3, e4, e5⟩
  rotate_left
  · rw [bsm e3, bsm e5, if_pos rfl, if_pos rfl]
    exact T3r hr 0 (by decide) rfl
  rw [bsm e3, bsm e5, if_neg one_ne, if_neg one_ne]
  rcases b_0_2 a2 with ⟨w, -, hw, rfl, b1, b2⟩ | ⟨b1, b2⟩
  rotate_left
  · rw [bsm b1, bsm b2, if_pos rfl, if_pos rfl]
    exact T3r hr 0 (by decide) rfl
  rw [bsm b1, bsm b2, if_neg one_ne, if_neg one_ne]
  rcases h.less with ⟨hL, e6, e7⟩ | ⟨hL, e6, e7⟩
  rotate_left
  · rw [bsm e6, if_neg one_ne, if_pos e7]
    exact T3r hr 3 (by decide) rfl
  rw [bsm e6, if_pos rfl, if_neg e7]
  obtain ⟨t1, x1, g1, e8, e9, j⟩ := h.think hn (by omega) hL hB th tb tp tf
  obtain ⟨r, r1, r2⟩ := j.fact hx hw g1
  rw [bsm e8, bsm r1, bsm e9]
  dsimp only
  rw [bsm r2]
  exact T3s hr
theorem s_personOf (h : J p L B tr sp) (hr : RF rf mf) (a0 a1 : Int32) : T1 (f_X3_personOf a0 a1 tr rf) (f_X4_personOf a0 a1 sp mf) := by
  have h16 := h.p16
  rcases h.per a0 with ⟨x, hx, rfl, e3, e4, e5⟩ | ⟨e3, e4, e5⟩
  rotate_left
  · unfold f_X3_personOf f_X4_personOf
    rw [bsm e3, bsm e5, if_pos rfl, if_pos rfl]
    exact T1r hr 0 (by decide) rfl
  rcases b_0_2 a1 with ⟨w, -, hw, rfl, b1, b2⟩ | ⟨b1, b2⟩
  rotate_left
  · unfold f_X3_personOf f_X4_personOf
    rw [bsm e3, bsm e5, if_neg one_ne, if_neg one_ne, bsm b1, bsm b2, if_pos rfl, if_pos rfl]
    exact T1r hr 0 (by decide) rfl
  obtain ⟨r, r1, r2⟩ := h.fact hx hw mf
  unfold f_X3_personOf
  rw [bsm e3, if_neg one_ne, bsm b1, if_neg one_ne, bsm r1, r2]
  exact T1s hr
theorem s_at (h : J p L B tr sp) (hr : RF rf mf) (a0 : Int32) : T1 (f_X3_at a0 tr rf) (f_X4_at a0 sp mf) := by
  have h16 := h.p16
  unfold f_X3_at f_X4_at
  rcases h.per a0 with ⟨x, hx, rfl, e3, e4, e5⟩ | ⟨e3, e4, e5⟩
  rotate_left
  · rw [bsm e4, bsm e5, if_pos rfl, if_pos rfl]
    exact T1r hr 0 (by decide) rfl
  obtain ⟨y, hy, l1, l2⟩ := h.lin hx
  rw [bsm e4, bsm e5, if_neg one_ne, if_neg one_ne, bsm (h.who hx), if_pos (inBT (by omega) (by decide)), kI_nat (by omega), l1, l2]
  exact T1s hr
theorem s_lawOf (h : J p L B tr sp) (hr : RF rf mf) (a0 a1 : Int32) : T1 (f_X3_lawOf a0 a1 tr rf) (f_X4_lawOf a0 a1 sp mf) := by
  have h6 := h.l6
  unfold f_X3_lawOf f_X4_lawOf
  rcases h.lawg a0 with ⟨x, hx, rfl, e3, e5⟩ | ⟨e3, e5⟩
  rotate_left
  · rw [bsm e3, bsm e5, if_pos rfl, if_pos rfl]
    exact T1r hr 0 (by decide) rfl
  rw [bsm e3, bsm e5, if_neg one_ne, if_neg one_ne]
  rcases b_0_1 a1 with ⟨w, -, hw, rfl, b1, b2⟩ | ⟨b1, b2⟩
  rotate_left
  · rw [bsm b1, bsm b2, if_pos rfl, if_pos rfl]
    exact T1r hr 0 (by decide) rfl
  rw [bsm b1, bsm b2, if_neg one_ne, if_neg one_ne]
  obtain ⟨k, a, hk, ha, k1, k2, m1, m2⟩ := h.lawE hx
  unfold f_X1_kindOf f_X1_amountOf
  rw [bsm e3, bsm e3, if_neg one_ne, if_neg one_ne]
  simp only [show inB (kI x) 6 = true from inBT (by omega) (by decide), ↓reduceIte, kI_nat (show x < 2147483648 by omega), k1, k2, m1, m2]
  by_cases c : kI w = 0
  · rw [if_pos c, if_pos c]
    exact T1s hr
  · rw [if_neg c, if_neg c]
    exact T1s hr
end FAC
