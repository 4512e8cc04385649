/-! ===== how many bits; where two laws part ===== -/
theorem kI_and (a b : Nat) : kI a &&& kI b = kI (a &&& b) := by
  apply Int32.toBitVec.inj
  unfold kI
  rw [Int32.toBitVec_and, Int32.toBitVec_ofNat', Int32.toBitVec_ofNat', Int32.toBitVec_ofNat']
  apply BitVec.eq_of_getLsbD_eq
  intro i hi
  simp [BitVec.getLsbD_ofNat, hi]
theorem kI_shr {a k : Nat} (ha : a < 2147483648) (hk : k < 32) : ((kI a).toUInt32 >>> ((kI k).toUInt32 &&& Int32.toUInt32 31)).toInt32 = kI (a >>> k) := by
  have e1 : (kI a).toUInt32.toNat = a := by
    show ((Int32.ofNat a).toUInt32).toNat = a
    show (BitVec.ofNat 32 a).toNat = a
    rw [BitVec.toNat_ofNat]
    omega
  have e2 : ((kI k).toUInt32 &&& Int32.toUInt32 31).toNat = k := by
    have : ∀ k, k < 32 → ((kI k).toUInt32 &&& Int32.toUInt32 31).toNat = k := by decide +kernel
    exact this k hk
  have e3 : ((kI a).toUInt32 >>> ((kI k).toUInt32 &&& Int32.toUInt32 31)).toNat = a >>> k := by
    rw [UInt32.toNat_shiftRight, e1, e2, Nat.mod_eq_of_lt hk]
  have e4 : a >>> k ≤ a := by rw [Nat.shiftRight_eq_div_pow]; exact Nat.div_le_self _ _
  apply Int32.toBitVec.inj
  show ((kI a).toUInt32 >>> ((kI k).toUInt32 &&& Int32.toUInt32 31)).toBitVec = BitVec.ofNat 32 (a >>> k)
  apply BitVec.eq_of_toNat_eq
  rw [BitVec.toNat_ofNat]
  show ((kI a).toUInt32 >>> ((kI k).toUInt32 &&& Int32.toUInt32 31)).toNat = _
  rw [e3]
  omega
def pc1 (w : Nat) : Nat := w - ((w >>> 1) &&& 1431655765)
def pc2 (w : Nat) : Nat := (w &&& 858993459) + ((w >>> 2) &&& 858993459)
def pc4 (w : Nat) : Nat := (w + (w >>> 4)) &&& 252645135
def pc8 (w : Nat) : Nat := w + (w >>> 8)
def pc16 (w : Nat) : Nat := w + (w >>> 16)
def pcn (w : Nat) : Nat := pc16 (pc8 (pc4 (pc2 (pc1 w)))) &&& 63
theorem shr_le (a k : Nat) : a >>> k ≤ a := by rw [Nat.shiftRight_eq_div_pow]; exact Nat.div_le_self _ _
theorem bitC {w : Nat} (h : w < 65536) : f_J6_bitCount_0f7a4 (kI w) = some (kI (pcn w)) := by
  have h1 := shr_le w 1
  have h2 : (w >>> 1) &&& 1431655765 ≤ w >>> 1 := Nat.and_le_left
  have a1 : pc1 w ≤ w := Nat.sub_le _ _
  have a2 : pc2 (pc1 w) ≤ pc1 w + pc1 w := by
    have e1 : pc1 w &&& 858993459 ≤ pc1 w := Nat.and_le_left
    have e2 : (pc1 w >>> 2) &&& 858993459 ≤ pc1 w >>> 2 := Nat.and_le_left
    have e3 := shr_le (pc1 w) 2
    unfold pc2
    omega
  have a3 : pc4 (pc2 (pc1 w)) ≤ pc2 (pc1 w) + pc2 (pc1 w) := by
    have e1 : pc4 (pc2 (pc1 w)) ≤ pc2 (pc1 w) + (pc2 (pc1 w) >>> 4) := Nat.and_le_left
    have e3 := shr_le (pc2 (pc1 w)) 4
    omega
  have a4 : pc8 (pc4 (pc2 (pc1 w))) ≤ pc4 (pc2 (pc1 w)) + pc4 (pc2 (pc1 w)) := by
    have e3 := shr_le (pc4 (pc2 (pc1 w))) 8
    unfold pc8
    omega
  have s1 : kI w - (((kI w).toUInt32 >>> ((1 : Int32).toUInt32 &&& Int32.toUInt32 31)).toInt32 &&& 1431655765) = kI (pc1 w) := by
    rw [i1, kI_shr (by omega) (by decide), show (1431655765 : Int32) = kI 1431655765 from rfl, kI_and, kI_sub (by omega)]
    rfl
  have s2 : ∀ x, x < 2147483648 → (kI x &&& 858993459) + (((kI x).toUInt32 >>> ((2 : Int32).toUInt32 &&& Int32.toUInt32 31)).toInt32 &&& 858993459) = kI (pc2 x) := fun x hx => by
    rw [i2, kI_shr hx (by decide), show (858993459 : Int32) = kI 858993459 from rfl, kI_and, kI_and, kI_add]
    rfl
  have s4 : ∀ x, x < 2147483648 → (kI x + ((kI x).toUInt32 >>> ((4 : Int32).toUInt32 &&& Int32.toUInt32 31)).toInt32) &&& 252645135 = kI (pc4 x) := fun x hx => by
    rw [i4, kI_shr hx (by decide), show (252645135 : Int32) = kI 252645135 from rfl, kI_add, kI_and]
    rfl
  have s8 : ∀ x, x < 2147483648 → kI x + ((kI x).toUInt32 >>> ((8 : Int32).toUInt32 &&& Int32.toUInt32 31)).toInt32 = kI (pc8 x) := fun x hx => by
    rw [show (8 : Int32) = kI 8 from rfl, kI_shr hx (by decide), kI_add]
    rfl
  have s16 : ∀ x, x < 2147483648 → kI x + ((kI x).toUInt32 >>> ((16 : Int32).toUInt32 &&& Int32.toUInt32 31)).toInt32 = kI (pc16 x) := fun x hx => by
    rw [show (16 : Int32) = kI 16 from rfl, kI_shr hx (by decide), kI_add]
    rfl
  unfold f_J6_bitCount_0f7a4
  rw [s1, s2 _ (by omega), s4 _ (by omega), s8 _ (by omega), s16 _ (by omega), show (63 : Int32) = kI 63 from rfl, kI_and]
  rfl
def pcz (x : Nat) (k : Nat → Bool) : Bool := Nat.rec (k 0) (fun n _ => k (n + 1)) x
theorem pcz_e (x : Nat) (k : Nat → Bool) : pcz x k = k x := by
  cases x <;> rfl
def pcv (w : Nat) (k : Nat → Bool) : Bool := pcz (pc1 w) fun a => pcz (pc2 a) fun b => pcz (pc4 b) fun c => pcz (pc8 c) fun d => pcz (pc16 d &&& 63) k
theorem pcv_e (w : Nat) (k : Nat → Bool) : pcv w k = k (pcn w) := by
  unfold pcv
  rw [pcz_e, pcz_e, pcz_e, pcz_e, pcz_e]
  rfl
def pcq (w : Nat) : Bool := pcv w fun a => pcz (w &&& (w - 1)) fun v => pcv v fun b => Nat.beq a (b + 1)
def pcB : Nat → Nat → Bool
  | 0, _ => true
  | n + 1, w => pcq (w + n) && pcB n w
def pcA : Nat → Nat → Bool
  | 0, _ => true
  | n + 1, a => pcB 256 (256 * (a + n)) && pcA n a
theorem pcK_0 : pcA 31 1 = true := by decide +kernel
theorem pcK_00 : pcB 255 1 = true := by decide +kernel
theorem pcK_1 : pcA 32 32 = true := by decide +kernel
theorem pcK_2 : pcA 32 64 = true := by decide +kernel
theorem pcK_3 : pcA 32 96 = true := by decide +kernel
theorem pcK_4 : pcA 32 128 = true := by decide +kernel
theorem pcK_5 : pcA 32 160 = true := by decide +kernel
theorem pcK_6 : pcA 32 192 = true := by decide +kernel
theorem pcK_7 : pcA 32 224 = true := by decide +kernel
theorem pcB_of {w : Nat} : ∀ n, pcB n w = true → ∀ k, k < n → pcq (w + k) = true
  | n + 1, h, k, hk => by
    rw [pcB, Bool.and_eq_true] at h
    by_cases c : k = n
    · rw [c]; exact h.1
    · exact pcB_of n h.2 k (by omega)
theorem pcA_of {a : Nat} : ∀ n, pcA n a = true → ∀ k, k < n → pcB 256 (256 * (a + k)) = true
  | n + 1, h, k, hk => by
    rw [pcA, Bool.and_eq_true] at h
    by_cases c : k = n
    · rw [c]; exact h.1
    · exact pcA_of n h.2 k (by omega)
theorem pcQ {w : Nat} (h : w < 65536) (h0 : w ≠ 0) : pcq w = true := by
  by_cases c0 : w < 256
  · have := pcB_of 255 pcK_00 (w - 1) (by omega)
    rwa [show 1 + (w - 1) = w by omega] at this
  · have : pcB 256 (256 * (w / 256)) = true := by
      by_cases c1 : w / 256 < 32
      · have := pcA_of 31 pcK_0 (w / 256 - 1) (by omega)
        rwa [show 1 + (w / 256 - 1) = w / 256 by omega] at this
      have h8 : w / 256 < 256 := by omega
      by_cases c2 : w / 256 < 64
      · have := pcA_of 32 pcK_1 (w / 256 - 32) (by omega)
        rwa [show 32 + (w / 256 - 32) = w / 256 by omega] at this
      by_cases c3 : w / 256 < 96
      · have := pcA_of 32 pcK_2 (w / 256 - 64) (by omega)
        rwa [show 64 + (w / 256 - 64) = w / 256 by omega] at this
      by_cases c4 : w / 256 < 128
      · have := pcA_of 32 pcK_3 (w / 256 - 96) (by omega)
        rwa [show 96 + (w / 256 - 96) = w / 256 by omega] at this
      by_cases c5 : w / 256 < 160
      · have := pcA_of 32 pcK_4 (w / 256 - 128) (by omega)
        rwa [show 128 + (w / 256 - 128) = w / 256 by omega] at this
      by_cases c6 : w / 256 < 192
      · have := pcA_of 32 pcK_5 (w / 256 - 160) (by omega)
        rwa [show 160 + (w / 256 - 160) = w / 256 by omega] at this
      by_cases c7 : w / 256 < 224
      · have := pcA_of 32 pcK_6 (w / 256 - 192) (by omega)
        rwa [show 192 + (w / 256 - 192) = w / 256 by omega] at this
      by_cases c8 : w / 256 < 256
      · have := pcA_of 32 pcK_7 (w / 256 - 224) (by omega)
        rwa [show 224 + (w / 256 - 224) = w / 256 by omega] at this
      omega
    have := pcB_of 256 this (w % 256) (by omega)
    rwa [show 256 * (w / 256) + w % 256 = w by omega] at this
theorem pcS {w : Nat} (h : w < 65536) : (w = 0 ∧ pcn w = 0) ∨ (pcn (w &&& (w - 1)) + 1 = pcn w ∧ w ≠ 0) := by
  by_cases c : w = 0
  · subst c
    exact Or.inl ⟨rfl, rfl⟩
  · refine Or.inr ⟨?_, c⟩
    have := pcQ h c
    unfold pcq at this
    rw [pcv_e, pcz_e, pcv_e] at this
    exact (Nat.eq_of_beq_eq_true this).symm
theorem pc63 (w : Nat) : pcn w ≤ 63 := Nat.and_le_right
section FA4
variable {s m tr sp : ShT} {p L B : Nat} {rf mf : AI} {th : ShT} {tb : Bool} {tp : ShT} {tf : AI}
theorem sevL : ∀ (c n v w : Nat), w < 65536 → pcn w = c → c < n → f_X4_several_L0 sp n (kI v) (kI w) mf tp tf = some (kI (v + c), mf, true, tp, tf)
  | c, 0, _, _, _, _, h => by omega
  | c, n + 1, v, w, hw, hc, hn => by
    rw [f_X4_several_L0, i0, if_kI (by omega) (by omega)]
    rcases pcS hw with ⟨e1, e2⟩ | ⟨e1, e2⟩
    · rw [if_pos e1, show c = 0 by omega]
      rfl
    · rw [if_neg e2, i1, kI_add, kI_sub (by omega), kI_and]
      have hle : w &&& (w - 1) ≤ w := Nat.and_le_left
      rw [sevL (c - 1) n (v + 1) (w &&& (w - 1)) (by omega) (by omega) (by omega), show v + 1 + (c - 1) = v + c by omega]
theorem s_several (h : J p L B tr sp) (hB : B + 999 < 1000000000) (hr : RF rf mf) (a0 : Int32) : T3 (f_X3_several a0 tr th rf) (f_X4_several a0 sp mf tb tp tf) := by
  unfold f_X3_several f_X4_several
  rcases may a0 with ⟨n, hn, rfl, e1, e2⟩ | ⟨e1, e2⟩
  rotate_left
  · rw [bsm e1, bsm e2, if_pos rfl, if_pos rfl]
    exact T3r hr 0 (by decide) rfl
  rw [bsm e1, bsm e2, if_neg one_ne, if_neg one_ne]
  rcases h.stk with ⟨hp, hL, e6, e7⟩ | ⟨hL, e6, e7⟩
  rotate_left
  · rw [bsm e6, bsm e7, if_neg one_ne, if_pos rfl]
    exact T3r hr 3 (by decide) rfl
  obtain ⟨r, t', q', f', hr2, f1, f2⟩ := h.bits th tb tp tf hn hp hL hB
  rw [bsm e6, bsm e7, if_pos rfl, if_neg one_ne, bsm f1, bsm f2]
  dsimp only
  have h63 := pc63 r
  rw [bsm (bitC hr2), i0, sevL (pcn r) fuel0 0 r hr2 rfl (by unfold fuel0; omega), Nat.zero_add]
  exact T3s hr
theorem unA {v2 : Int32} (hp : 0 < p) (hL : 0 < L) : ∀ (d k n : Nat) {B : Nat} {t y : ShT} (mo : AI), J p L B t y → k + d = 999 → d < n → B + d < 1000000000 → ∃ (T : Nat → ShT) (H : Nat → Nat) (mo' : AI) (y' : ShT), T k = t ∧ (∀ i, k ≤ i → i < 999 → f_X1_turn (T i) = some (kI (H i), T (i + 1)) ∧ mo' i = kI (H i) ∧ H i < p) ∧ (∀ i, i < k → mo' i = mo i) ∧ f_X4_unlike_L0 v2 sp n (kI k) mf mo y tf = (f_X4_fresh sp true y' tf).bind fun r102 => f_X4_unlike_L1 sp fuel0 0 mf mo' (r102.1.1, r102.1.2.1, r102.1.2.2.1, r102.1.2.2.2.1, r102.1.2.2.2.2.1, r102.1.2.2.2.2.2.1, r102.1.2.2.2.2.2.2.1, v2, r102.1.2.2.2.2.2.2.2.2.1, r102.1.2.2.2.2.2.2.2.2.2) r102.2
  | _, _, 0, _, _, _, _, _, _, h, _ => by omega
  | 0, k, n + 1, _, t, y, mo, _, hk, _, _ => by
    refine ⟨fun _ => t, fun _ => 0, mo, y, rfl, fun i h1 h2 => by omega, fun i _ => rfl, ?_⟩
    rw [f_X4_unlike_L0, i999, if_pos ((kI_le (by omega) (by omega)).mpr (by omega))]
  | d + 1, k, n + 1, B2, t, y, mo, j, hk, hn, hB => by
    obtain ⟨t1, y1, z, hz, l1, l2, e1, e2, j1⟩ := j.turn hp hL (by omega)
    have g0 : inB 0 16 = true := inBT (a := 0) (by decide) (by decide)
    have g1 : inB (kI k) 999 = true := inBT (by omega) (by decide)
    obtain ⟨T, H, mo', y', q1, q2, q3, q4⟩ := unA (v2 := v2) hp hL d (k + 1) n (upd mo k (kI z)) j1 (by omega) (by omega) (by omega)
    refine ⟨fun i => if i = k then t else T i, fun i => if i = k then z else H i, mo', y', if_pos rfl, fun i h1 h2 => ?_, fun i hi => ?_, ?_⟩
    · dsimp only
      by_cases c : i = k
      · subst c
        rw [if_pos rfl, if_pos rfl, if_neg (by omega), q1, q3 _ (by omega), upd_at]
        exact ⟨e1, rfl, hz⟩
      · rw [if_neg c, if_neg c, if_neg (by omega)]
        exact q2 i (by omega) h2
    · rw [q3 i (by omega), upd_ne (by omega)]
    · rw [f_X4_unlike_L0, i999, if_neg (kI_leF (by omega) (by omega) (by omega)), if_pos g0, if_pos g1, bsm e2, z0, l2, kI_nat (by omega), show kI k + 1 = kI (k + 1) from kI_add k 1]
      exact q4
def T3u (x : Option (Int32 × ShT × ShT × AI)) (y : Option (Int32 × AI × AI × Bool × ShT × AI)) : Prop := ∃ r th ot rf mf mo tb tp tf, x = some (r, th, ot, rf) ∧ y = some (r, mf, mo, tb, tp, tf) ∧ RF rf mf
theorem unB {T : Nat → ShT} {H : Nat → Nat} {mo : AI} (hp : 0 < p) (hL : 0 < L) (hr : RF rf mf) (q : ∀ i, 0 ≤ i → i < 999 → f_X1_turn (T i) = some (kI (H i), T (i + 1)) ∧ mo i = kI (H i) ∧ H i < p) : ∀ (d k n n' : Nat) {B : Nat} {t y : ShT}, J p L B t y → k + d = 999 → d < n → d < n' → B + d < 1000000000 → T3u (f_X3_unlike_L0 tr n (kI (k + 1)) (T k) t rf) (f_X4_unlike_L1 sp n' (kI k) mf mo y tf)
  | _, _, 0, _, _, _, _, _, _, h, _, _ => by omega
  | _, _, _, 0, _, _, _, _, _, _, h, _ => by omega
  | 0, k, n + 1, n' + 1, _, t, y, _, hk, _, _, _ => by
    rw [f_X3_unlike_L0, f_X4_unlike_L1, i999, if_pos ((kI_le (by omega) (by omega)).mpr (by omega)), if_pos ((kI_lt (by omega) (by omega)).mpr (by omega))]
    exact ⟨_, _, _, _, _, _, _, _, _, rfl, rfl, hr⟩
  | d + 1, k, n + 1, n' + 1, B2, t, y, j, hk, hn, hn', hB => by
    have h16 := j.p16
    obtain ⟨t1, y1, z, hz, l1, l2, e1, e2, j1⟩ := j.turn hp hL (by omega)
    have g0 : inB 0 16 = true := inBT (a := 0) (by decide) (by decide)
    have g1 : inB (kI k) 999 = true := inBT (by omega) (by decide)
    obtain ⟨q1, q2, q3⟩ := q k (Nat.zero_le _) (by omega)
    rw [f_X3_unlike_L0, f_X4_unlike_L1, i999, if_neg (kI_ltF (by omega) (by omega) (by omega)), if_neg (kI_leF (by omega) (by omega) (by omega)), if_pos g0, if_pos g1, bsm q1, bsm e1, z0, l2, kI_nat (by omega), q2, if_kI (by omega) (by omega), if_kI (by omega) (by omega), show kI (k + 1) + 1 = kI (k + 1 + 1) from kI_add (k + 1) 1, show kI k + 1 = kI (k + 1) from kI_add k 1]
    by_cases c : H k = z
    · rw [if_pos c, if_pos c, bsm e2]
      exact unB hp hL hr q d (k + 1) n n' j1 (by omega) (by omega) (by omega) (by omega)
    · rw [if_neg c, if_neg c]
      exact ⟨_, _, _, _, _, _, _, _, _, rfl, rfl, hr⟩
theorem s_unlike (h : J p L B tr sp) (hB : B + 1000 < 1000000000) (hr : RF rf mf) (a0 a1 : Int32) (ot : ShT) (mo : AI) : T3u (f_X3_unlike a0 a1 tr th ot rf) (f_X4_unlike a0 a1 sp mf mo tb tp tf) := by
  unfold f_X3_unlike f_X4_unlike
  have R0 : ∀ (i : Nat) (hi : i < 5) (c : Int32), c = -kI (i + 2) → T3u ((f_X3_refuse c rf).bind fun r => some (r.1, th, ot, r.2)) ((f_X4_refuse c mf).bind fun r => some (r.1, r.2, mo, tb, tp, tf)) := fun i hi c hc => by
    subst hc
    obtain ⟨rf', mf', e1, e2, h'⟩ := refu hr hi
    rw [bsm e1, bsm e2]
    exact ⟨_, _, _, _, _, _, _, _, _, rfl, rfl, h'⟩
  rcases h.lawg a0 with ⟨f, hf, rfl, e3, e5⟩ | ⟨e3, e5⟩
  rotate_left
  · rw [bsm e3, bsm e5, if_pos rfl, if_pos rfl]
    exact R0 0 (by decide) _ rfl
  rw [bsm e3, bsm e5, if_neg one_ne, if_neg one_ne]
  rcases h.lawg a1 with ⟨f2, hf2, rfl, e3, e5⟩ | ⟨e3, e5⟩
  rotate_left
  · rw [bsm e3, bsm e5, if_pos rfl, if_pos rfl]
    exact R0 0 (by decide) _ rfl
  rw [bsm e3, bsm e5, if_neg one_ne, if_neg one_ne]
  rcases h.empt with ⟨hp, e6, e7⟩ | ⟨hp, e6, e7⟩
  rotate_left
  · rw [bsm e6, if_neg one_ne, if_pos e7]
    exact R0 3 (by decide) _ rfl
  obtain ⟨t1, x1, g1, e1, e2, j⟩ := h.by th tb tp tf hf
  rw [bsm e6, if_pos rfl, if_neg e7, bsm e1, bsm e2]
  obtain ⟨T, H, mo', y', q1, q2, q3, q4⟩ := unA (sp := sp) (mf := mf) (tf := g1) (v2 := kI f2) hp (by omega) 999 0 fuel0 mo j (by omega) (by unfold fuel0; omega) (by omega)
  obtain ⟨t2, x2, g2, e8, e9, j2⟩ := h.fresh ot true y' g1
  rw [bsm e8]
  dsimp only
  rw [show (0 : Int32) = kI 0 from rfl, q4, bsm e9, ← q1]
  exact unB hp (by omega) hr q2 999 0 fuel0 fuel0 (j2.force hf2) (by omega) (by unfold fuel0; omega) (by unfold fuel0; omega) (by omega)
end FA4
