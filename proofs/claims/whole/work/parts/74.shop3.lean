/-! ===== shop ===== -/
def TSh (B l : Nat) (x : Option (Int32 × ShT × ShT × TpT × AI)) (y : Option (Int32 × ShT × TkT × AI × Bool × ShT × AI)) : Prop := ∃ r tr th tp rf sp tk mf tq tf p L, x = some (r, tr, th, tp, rf) ∧ y = some (r, sp, tk, mf, true, tq, tf) ∧ J p L B tr sp ∧ TR tp tk ∧ RF rf mf ∧ l ≤ L
theorem s_shop {tr sp : ShT} {p L B : Nat} {rf mf : AI} {tp : TpT} {tk : TkT} (h : J p L B tr sp) (hT : TR tp tk) (hr : RF rf mf) (hB : 999 ≤ B) (hB' : B + 99 * 250 < 1000000000) {th : ShT} {tb : Bool} {tq : ShT} {tf : AI} : TSh (B + 99 * 250) L (f_X3_shop tr th tp rf) (f_X4_shop sp tk mf tb tq tf) := by
  obtain ⟨n, hn, n1, n2, hby⟩ := hT
  have hx : XT n (fun j => (tp.1 j).toNatClampNeg) (tp.1, tp.2.1, tp.2.2.1, 0) := ⟨n1, fun j hj => by
    obtain ⟨c, hc, e1, e2⟩ := hby j hj
    show tp.1 j = kI (tp.1 j).toNatClampNeg
    rw [e1, kI_nat (by omega)]⟩
  have hm : MT n (fun j => (tp.1 j).toNatClampNeg) (tk.1, tk.2.1, tk.2.2.1, 0, tk.2.2.2.2.1, tk.2.2.2.2.2.1, tk.2.2.2.2.2.2.1, tk.2.2.2.2.2.2.2.1, 1) := ⟨n2, fun j hj => by
    obtain ⟨c, hc, e1, e2⟩ := hby j hj
    show tk.1 j = kI (tp.1 j).toNatClampNeg
    rw [e1, e2, kI_nat (by omega)]⟩
  have hb : ∀ j, j < n → (fun j => (tp.1 j).toNatClampNeg) j ≤ 255 := fun j hj => by
    obtain ⟨c, hc, e1, e2⟩ := hby j hj
    show (tp.1 j).toNatClampNeg ≤ 255
    rw [e1, kI_nat (by omega)]
    exact hc
  generalize (fun j => (tp.1 j).toNatClampNeg) = bt at hx hm hb
  have h16 := h.p16
  have h6 := h.l6
  obtain ⟨ln, ct, la, kd, am, fc, tu, se, R, R', v⟩ := h
  obtain ⟨t1, e1, q1⟩ := X1_become R h16 h6 th
  obtain ⟨x1, g1, e2, q2⟩ := freshR R' h16 h6 tb tq tf
  have j1 : J p L B t1 sp := ⟨_, _, _, _, _, _, _, _, q1, R', v⟩
  obtain ⟨a2, en2, t2, k2, w1, w2, w3, w4, w5⟩ := lkE hn hb (e := 0) (Nat.zero_le _) hx hm rfl rfl
  have key : RF1 (f_X2_readInto tp t1) (f_X4_readAll sp tk) ∨ RO1 (B + 99 * 250) L (f_X2_readInto tp t1) (f_X4_readAll sp tk) := by
    unfold f_X2_readInto f_X4_readAll
    rw [bsm w3, show fuel0 = 4999 + 1 from rfl, f_X2_readInto_L0, if_neg (show ¬ (250 : Int32) < 1 by decide), bsm w2]
    rcases stm hn hb w4 j1 hB (by omega) with ⟨t3, s3, sp3, k3, a3, z1, z2, z3, z4⟩ | ⟨⟨t3, s3, sp3, k3, p3, L3, z1, z2, z3, z4, z5, z7⟩, hae⟩
    · rw [bsm z1, bsm z2, if_pos rfl, if_pos rfl]
      exact Or.inl ⟨t3, s3, sp3, k3, a3, rfl, rfl, z3, z4⟩
    · rw [bsm z1, bsm z2, if_neg one_ne, if_neg one_ne]
      exact aft hn hb (BB := B) (l := L) hB' 129 1 4999 (4999 + 1) z4 z3 (by omega) (by omega) (by omega) (by omega) (by omega) (by omega) (by omega) (by rw [z5, w5.2.2]; rfl) z7
  unfold f_X3_shop f_X4_shop
  rw [bsm e1, bsm e2]
  rcases key with ⟨t, s, sq, k, a, z1, z2, z3, z4⟩ | ⟨t, s, sq, k, p2, L2, w, hw, z1, z2, z3, z4, z5⟩
  · obtain ⟨rf0, mf0, x0, y0, h0⟩ := refu hr (i := 0) (by decide)
    obtain ⟨x', e', r'⟩ := M4_takeFrom q2 h16 h6 sq
    rw [bsm z1, bsm z2]
    dsimp only
    rw [if_pos rfl, if_pos rfl, bsm (show f_X3_refuse (-2) rf = _ from x0), bsm e', bsm (show f_X4_refuse (-2) mf = _ from y0), z3, z4]
    exact ⟨_, _, _, _, _, _, _, _, _, _, p, L, rfl, rfl, (J.mono ⟨_, _, _, _, _, _, _, _, R, r', v⟩ (by omega) hB'), TR.z rfl rfl, h0, Nat.le_refl _⟩
  · rw [bsm z1, bsm z2]
    dsimp only
    obtain ⟨ln2, ct2, la2, kd2, am2, fc2, tu2, se2, R2, R2', v2⟩ := z3
    obtain ⟨t9, e9, q9⟩ := X1_become R2 v2.1 v2.2.1 tr
    rw [if_neg (kI_m1 (by omega)), if_neg one_ne, bsm e9, z4]
    exact ⟨_, _, _, _, _, _, _, _, _, _, p2, L2, rfl, rfl, ⟨_, _, _, _, _, _, _, _, q9, R2', v2⟩, TR.z rfl rfl, hr, z5⟩
