/-! ===== the tape, the image, the status, ranks ===== -/
def TR (tp : TpT) (tk : TkT) : Prop := ∃ n, n ≤ 250 ∧ tp.2.1 = kI n ∧ tk.2.2.1 = kI n ∧ ∀ j, j < n → ∃ c, c ≤ 255 ∧ tp.1 j = kI c ∧ tk.1 j = kI c
theorem kI_sar {a k : Nat} (ha : a < 2147483648) (hk : k < 32) : kI a >>> (kI k &&& 31) = kI (a >>> k) := by
  have e : (kI k &&& 31).toBitVec.smod 32 = BitVec.ofNat 32 k := (by decide +kernel : ∀ k, k < 32 → (kI k &&& 31).toBitVec.smod 32 = BitVec.ofNat 32 k) k hk
  have h2 := shr_le a k
  apply Int32.toBitVec.inj
  rw [Int32.toBitVec_shiftRight, e, BitVec.sshiftRight', BitVec.toNat_ofNat, Nat.mod_eq_of_lt (by omega), BitVec.sshiftRight_eq_of_msb_false]
  · apply BitVec.eq_of_toNat_eq
    show ((BitVec.ofNat 32 a) >>> k).toNat = (BitVec.ofNat 32 (a >>> k)).toNat
    rw [BitVec.toNat_ushiftRight, BitVec.toNat_ofNat, BitVec.toNat_ofNat, Nat.mod_eq_of_lt (by omega), Nat.mod_eq_of_lt (by omega)]
  · show (BitVec.ofNat 32 a).msb = false
    rw [BitVec.msb_eq_false_iff_two_mul_lt, BitVec.toNat_ofNat]
    omega
theorem has_k {w i : Nat} (hw : w < 65536) (hi : i < 32) : f_X4_has (kI w) (kI i) = some (if w.testBit i = true then 1 else 0) := by
  have h1 := shr_le w i
  unfold f_X4_has
  rw [kI_sar (by omega) hi, i1, kI_and]
  have h2 : (w >>> i) &&& 1 ≤ 1 := Nat.and_le_right
  have h3 : w.testBit i = (1 &&& (w >>> i) != 0) := rfl
  rw [i0, if_kI (by omega) (by omega), h3, Nat.and_comm]
  by_cases c : 1 &&& w >>> i = 0
  · rw [if_pos c, c]; rfl
  · rw [if_neg c, if_pos (by rw [bne_iff_ne]; exact c)]
section STA
variable {tr sp : ShT} {p L B : Nat} {rf mf : AI} {sl : Nat → SlT} {sv : SvT} {tp : TpT} {tk : TkT}
theorem s_feed (h : TR tp tk) (hr : RF rf mf) (a0 : Int32) : ∃ r tp' rf' tk' mf', f_X3_feed a0 tp rf = some (r, tp', rf') ∧ f_X4_feed a0 tk mf = some (r, tk', mf') ∧ TR tp' tk' ∧ RF rf' mf' := by
  obtain ⟨n, hn, e1, e2, hb⟩ := h
  obtain ⟨rf0, mf0, x0, y0, h0⟩ := refu hr (i := 0) (by decide)
  obtain ⟨rf4, mf4, x4, y4, h4⟩ := refu hr (i := 4) (by decide)
  unfold f_X3_feed f_X4_feed f_X2_add
  rcases b_0_255 a0 with ⟨c, -, hc, rfl, f1, f2⟩ | ⟨f1, f2⟩
  rotate_left
  · rw [bsm f1, bsm f2, if_pos rfl, if_pos rfl, bsm (show f_X3_refuse (-2) rf = _ from x0), bsm (show f_X4_refuse (-2) mf = _ from y0)]
    exact ⟨_, _, _, _, _, rfl, rfl, ⟨n, hn, e1, e2, hb⟩, h0⟩
  rw [bsm f1, bsm f2, if_neg one_ne, if_neg one_ne, e1, e2, show (250 : Int32) = kI 250 from rfl, if_kIlt (by omega) (by omega), if_kI (by omega) (by omega)]
  by_cases c2 : n = 250
  · rw [if_neg (by omega), if_pos c2, Option.bind_some, if_pos rfl, bsm (show f_X3_refuse (-6) rf = _ from x4), bsm (show f_X4_refuse (-6) mf = _ from y4)]
    exact ⟨_, _, _, _, _, rfl, rfl, ⟨n, hn, e1, e2, hb⟩, h4⟩
  · have g : inB (kI n) 250 = true := inBT (by omega) (by decide)
    rw [if_pos (by omega), if_neg c2, if_pos g, if_pos g, Option.bind_some, if_neg one_ne, kI_nat (by omega), i1, kI_add]
    refine ⟨_, _, _, _, _, rfl, rfl, ⟨n + 1, by omega, rfl, rfl, fun j hj => ?_⟩, hr⟩
    dsimp only
    by_cases c3 : j = n
    · rw [c3, upd_at, upd_at]
      exact ⟨c, hc, rfl, rfl⟩
    · rw [upd_ne c3, upd_ne c3]
      exact hb j (by omega)
theorem TR.z {t : TpT} {k : TkT} (e1 : t.2.1 = 0) (e2 : k.2.2.1 = 0) : TR t k := ⟨0, by omega, e1, e2, fun j hj => by omega⟩
theorem s_wipe (h : TR tp tk) : ∃ r tp' tk', f_X3_wipe tp = some (r, tp') ∧ f_X4_wipe tk = some (r, tk') ∧ TR tp' tk' := by
  obtain ⟨n, hn, e1, e2, hb⟩ := h
  exact ⟨_, _, _, rfl, by unfold f_X4_wipe; rw [e2, e1], TR.z rfl rfl⟩
theorem s_image (h : J p L B tr sp) (ik : Int32) (kp : ShT) (kb : Bool) (kq : ShT) (kf : AI) : ∃ r kp' kq' kf', f_X3_image tr kp ik = some (r, kp', 1) ∧ f_X4_image sp kb kq kf = some (r, true, kq', kf') ∧ J p L B kp' kq' := by
  unfold f_X3_image f_X4_image
  cases kb with
  | true =>
    obtain ⟨t', x', e, e', j⟩ := h.become kp kq
    exact ⟨1, t', x', kf, by rw [bsm e], by rw [if_pos rfl, bsm e'], j⟩
  | false =>
    obtain ⟨t', x', e, e', j⟩ := h.become kp nSh
    exact ⟨1, t', x', zI, by rw [bsm e], by rw [if_neg (by decide), bsm e'], j⟩
/-! back: shelves that show a law that is no more are cleared -/
theorem bckL {kp kq : ShT} (ik : Int32) (hJ : J p L B tr sp) (hr : RF rf mf) {L0 : Nat} : ∀ (d k f f' : Nat) (sl : Nat → SlT) (sv : SvT), k + d = 8 → d < f → d < f' → SL L0 sl sv → (∀ j, j < k → SH L (sl j) (sv.1 j) (sv.2.1 j) (sv.2.2.1 j) (sv.2.2.2.1 j) (sv.2.2.2.2.2 j)) → ∃ sl' sv', f_X3_back_L0 kp ik f (kI k) tr sl rf = some (1, tr, sl', rf) ∧ f_X4_back_L0 kq f' (kI k) sp sv mf = some (1, sp, sv', mf, true) ∧ SL L sl' sv'
  | _, _, 0, _, _, _, _, h, _, _, _ => by omega
  | _, _, _, 0, _, _, _, _, h, _, _ => by omega
  | 0, k, f + 1, f' + 1, sl, sv, hk, _, _, _, hd => by
    refine ⟨sl, sv, ?_, ?_, fun j hj => hd j (by omega)⟩
    · rw [f_X3_back_L0, show (8 : Int32) = kI 8 from rfl, if_pos ((kI_le (by omega) (by omega)).mpr (by omega))]
    · rw [f_X4_back_L0, show (8 : Int32) = kI 8 from rfl, if_pos ((kI_le (by omega) (by omega)).mpr (by omega))]
  | d + 1, k, f + 1, f' + 1, sl, sv, hk, hf, hf', hS, hd => by
    have h6 := hJ.l6
    obtain ⟨n1, n2, n3, n4, n5, n6⟩ := neT
    have g : inB (kI k) 8 = true := inBT (by omega) (by decide)
    have X0 : f_X3_back_L0 kp ik (f + 1) (kI k) tr sl rf = (f_X0_holdsLaw (sl k)).bind fun r103 => if r103 = 0 then f_X3_back_L0 kp ik f (kI (k + 1)) tr sl rf else (f_X1_hasLaw ((sl k).2.2.1) tr).bind fun r106 => if r106 = 0 then (f_X0_holdLaw (-1) (sl k)).bind fun r109 => f_X3_back_L0 kp ik f (kI (k + 1)) tr (va_up sl k r109) rf else f_X3_back_L0 kp ik f (kI (k + 1)) tr sl rf := by
      rw [f_X3_back_L0, show (8 : Int32) = kI 8 from rfl, if_neg (kI_leF (by omega) (by omega) (by omega))]
      simp only [g, ↓reduceIte]
      rw [kI_nat (n := k) (by omega), show kI k + 1 = kI (k + 1) from kI_add k 1]
    have M0 : f_X4_back_L0 kq (f' + 1) (kI k) sp sv mf = if sv.1 k = 2 then if (sv.2.2.2.1 k) < kI L then f_X4_back_L0 kq f' (kI (k + 1)) sp sv mf else f_X4_back_L0 kq f' (kI (k + 1)) sp ((upd sv.1 k 0), sv.2.1, sv.2.2.1, sv.2.2.2.1, sv.2.2.2.2.1, sv.2.2.2.2.2) mf else f_X4_back_L0 kq f' (kI (k + 1)) sp sv mf := by
      rw [f_X4_back_L0, show (8 : Int32) = kI 8 from rfl, if_neg (kI_leF (by omega) (by omega) (by omega))]
      simp only [g, ↓reduceIte]
      rw [kI_nat (n := k) (by omega), show kI k + 1 = kI (k + 1) from kI_add k 1, hJ.LL.2]
    have hd' : ∀ (hh : SH L (sl k) (sv.1 k) (sv.2.1 k) (sv.2.2.1 k) (sv.2.2.2.1 k) (sv.2.2.2.2.2 k)), ∀ j, j < k + 1 → SH L (sl j) (sv.1 j) (sv.2.1 j) (sv.2.2.1 j) (sv.2.2.2.1 j) (sv.2.2.2.2.2 j) := fun hh j hj => by
      by_cases c : j = k
      · rw [c]; exact hh
      · exact hd j (by omega)
    rw [X0, M0]
    rcases hS k (by omega) with ⟨x, s1, s2, s3⟩ | ⟨x, t, z, ht, hz, s1, s2, s3, s4, s5, s6⟩ | ⟨x, w, hw, hw6, s1, s2, s3, s4⟩
    · rw [bsm (X0_law0 s2), if_pos rfl, x, if_neg n4]
      exact bckL ik hJ hr d (k + 1) f f' sl sv (by omega) (by omega) (by omega) hS (hd' (Or.inl ⟨x, s1, s2, s3⟩))
    · rw [bsm (X0_law0 s2), if_pos rfl, x, if_neg n3]
      exact bckL ik hJ hr d (k + 1) f f' sl sv (by omega) (by omega) (by omega) hS (hd' (Or.inr (Or.inl ⟨x, t, z, ht, hz, s1, s2, s3, s4, s5, s6⟩)))
    · rw [bsm (X0_law1 (by omega) s2), if_neg one_ne, x, if_pos rfl, s2, s4, if_kIlt (by omega) (by omega)]
      by_cases c : w < L
      · rw [bsm (hJ.lawF c), if_neg one_ne, if_pos c]
        exact bckL ik hJ hr d (k + 1) f f' sl sv (by omega) (by omega) (by omega) hS (hd' (Or.inr (Or.inr ⟨x, w, c, hw6, s1, s2, s3, s4⟩)))
      · have e0 : f_X1_hasLaw (kI w) tr = some 0 := by
          rcases hJ.lawg (kI w) with ⟨y, hy, ey, _, _⟩ | ⟨e, _⟩
          · rw [kI_eq (by omega) (by omega)] at ey
            omega
          · exact e
        unfold f_X0_holdLaw
        rw [bsm e0, if_pos rfl, if_neg c, Option.bind_some]
        refine bckL ik hJ hr d (k + 1) f f' _ _ (by omega) (by omega) (by omega) (hS.put (Or.inl ⟨upd_at, rfl, rfl, rfl⟩) (fun q hq => ⟨upd_ne hq, rfl, rfl, rfl, rfl⟩)) (fun j hj => ?_)
        by_cases c2 : j = k
        · subst c2
          rw [up_at]
          exact Or.inl ⟨upd_at, rfl, rfl, rfl⟩
        · rw [up_ne c2]
          have := hd j (by omega)
          dsimp only
          rw [upd_ne c2]
          exact this
def TB (B : Nat) (x : Option (Int32 × ShT × (Nat → SlT) × AI)) (y : Option (Int32 × ShT × SvT × AI × Bool)) (kb : Bool) : Prop := ∃ r tr sl rf sp sv mf p L, x = some (r, tr, sl, rf) ∧ y = some (r, sp, sv, mf, kb) ∧ J p L B tr sp ∧ SL L sl sv ∧ RF rf mf
theorem s_back (h : J p L B tr sp) (hS : SL L sl sv) (hr : RF rf mf) {kp kq : ShT} {kb : Bool} {q Q : Nat} (hk : kb = true → J q Q B kp kq) : TB B (f_X3_back tr kp sl rf (if kb = true then 1 else 0)) (f_X4_back sp sv mf kb kq) kb := by
  unfold f_X3_back f_X4_back
  cases kb with
  | false =>
    obtain ⟨rf3, mf3, x3, y3, h3⟩ := refu hr (i := 3) (by decide)
    rw [if_neg (show ¬ false = true by decide), if_pos rfl, if_neg (show ¬ false = true by decide), bsm (show f_X3_refuse (-5) rf = _ from x3), bsm (show f_X4_refuse (-5) mf = _ from y3)]
    exact ⟨_, _, _, _, _, _, _, _, _, rfl, rfl, h, hS, h3⟩
  | true =>
    obtain ⟨t', x', e, e', j⟩ := (hk rfl).become tr sp
    obtain ⟨sl', sv', f1, f2, f3⟩ := bckL (kp := kp) (kq := kq) (L0 := L) (if true = true then 1 else 0) j hr 8 0 fuel0 fuel0 sl sv (by omega) (by unfold fuel0; omega) (by unfold fuel0; omega) hS (fun j hj => by omega)
    rw [if_pos rfl, if_neg one_ne, if_pos rfl, bsm e, bsm e']
    rw [if_pos rfl] at f1
    exact ⟨_, _, _, _, _, _, _, _, _, f1, f2, j, f3, hr⟩
end STA
