/-! ===== status and ranks ===== -/
section RNK
variable {tr sp : ShT} {p L B : Nat} {rf mf : AI} {sl : Nat → SlT} {sv : SvT} {tp : TpT} {tk : TkT}
theorem cntL (h : J p L B tr sp) : ∀ (d k f f' : Nat) (v : Int32), k + d = p → d < f → d < f' → ∃ r, f_X1_allCounts_L0 tr f v (kI k) = some r ∧ f_X4_status_L0 sp tk mf f' v (kI k) = some r
  | _, _, 0, _, _, _, h, _ => by omega
  | _, _, _, 0, _, _, _, h => by omega
  | 0, k, f + 1, f' + 1, v, hk, _, _ => by
    have h16 := h.p16
    refine ⟨v, ?_, ?_⟩
    · rw [f_X1_allCounts_L0, h.pp.1, if_pos ((kI_le (by omega) (by omega)).mpr (by omega))]
    · rw [f_X4_status_L0, h.pp.2, if_pos ((kI_le (by omega) (by omega)).mpr (by omega))]
  | d + 1, k, f + 1, f' + 1, v, hk, hf, hf' => by
    have h16 := h.p16
    obtain ⟨c, hc, c1, c2⟩ := h.cnt (j := k) (by omega)
    have g : inB (kI k) 16 = true := inBT (by omega) (by decide)
    rw [f_X1_allCounts_L0, f_X4_status_L0, h.pp.1, h.pp.2, if_neg (kI_leF (by omega) (by omega) (by omega)), if_neg (kI_leF (by omega) (by omega) (by omega)), if_pos g, if_pos g, kI_nat (by omega), c1, c2, show kI k + 1 = kI (k + 1) from kI_add k 1]
    exact cntL h d (k + 1) f f' _ (by omega) (by omega) (by omega)
theorem useL (h : SL L sl sv) : ∀ (d k f f' : Nat) (v : Int32), k + d = 8 → d < f → d < f' → ∃ r, f_X3_shelvesInUse_L0 sl f v (kI k) = some r ∧ f_X4_status_L1 sp tk sv mf f' v (kI k) = some r
  | _, _, 0, _, _, _, h, _ => by omega
  | _, _, _, 0, _, _, _, h => by omega
  | 0, k, f + 1, f' + 1, v, hk, _, _ => by
    refine ⟨v, ?_, ?_⟩
    · rw [f_X3_shelvesInUse_L0, show (8 : Int32) = kI 8 from rfl, if_pos ((kI_le (by omega) (by omega)).mpr (by omega))]
    · rw [f_X4_status_L1, show (8 : Int32) = kI 8 from rfl, if_pos ((kI_le (by omega) (by omega)).mpr (by omega))]
  | d + 1, k, f + 1, f' + 1, v, hk, hf, hf' => by
    obtain ⟨n1, n2, n3, n4, n5, n6⟩ := neT
    have g : inB (kI k) 8 = true := inBT (by omega) (by decide)
    have ih := fun v => useL h d (k + 1) f f' v (by omega) (by omega) (by omega)
    rw [f_X3_shelvesInUse_L0, f_X4_status_L1, show (8 : Int32) = kI 8 from rfl, if_neg (kI_leF (by omega) (by omega) (by omega)), if_neg (kI_leF (by omega) (by omega) (by omega)), if_pos g, if_pos g, kI_nat (by omega), show kI k + 1 = kI (k + 1) from kI_add k 1, Int32.add_zero]
    unfold f_X0_content
    rcases h k (by omega) with ⟨x, s1, s2, s3⟩ | ⟨x, t, z, ht, hz, s1, s2, s3, s4, s5, s6⟩ | ⟨x, w, hw, hw6, s1, s2, s3, s4⟩
    · rw [bsm (X0_law0 s2), if_pos rfl, Option.bind_some, s1, if_pos rfl, x, if_pos rfl]
      exact ih v
    · rw [bsm (X0_law0 s2), if_pos rfl, Option.bind_some, s1, if_neg (kI_m1 (by omega)), x, if_neg one_ne]
      exact ih (v + 1)
    · rw [bsm (X0_law1 (by omega) s2), if_neg one_ne, Option.bind_some, s2, show (10 : Int32) = kI 10 from rfl, kI_add, if_neg (kI_m1 (by omega)), x, if_neg n1]
      exact ih (v + 1)
theorem s_status (h : J p L B tr sp) (hS : SL L sl sv) (hT : TR tp tk) (hr : RF rf mf) (a0 : Int32) : ∃ r, f_X3_status a0 tr tp sl rf = some r ∧ f_X4_status a0 sp tk sv mf = some r := by
  have h16 := h.p16
  obtain ⟨f1, f2, f3⟩ := h.fts
  obtain ⟨n, hn, t1, t2, -⟩ := hT
  unfold f_X3_status f_X4_status
  by_cases c0 : a0 = 0
  · rw [if_pos c0, if_pos c0, h.pp.1, h.pp.2]; exact ⟨_, rfl, rfl⟩
  rw [if_neg c0, if_neg c0]
  by_cases c1 : a0 = 1
  · rw [if_pos c1, if_pos c1, h.LL.1, h.LL.2]; exact ⟨_, rfl, rfl⟩
  rw [if_neg c1, if_neg c1]
  by_cases c2 : a0 = 2
  · rw [if_pos c2, if_pos c2, f1]; exact ⟨_, rfl, rfl⟩
  rw [if_neg c2, if_neg c2]
  by_cases c3 : a0 = 3
  · rw [if_pos c3, if_pos c3, f2]; exact ⟨_, rfl, rfl⟩
  rw [if_neg c3, if_neg c3]
  by_cases c4 : a0 = 4
  · rw [if_pos c4, if_pos c4]
    obtain ⟨r, e1, e2⟩ := cntL (tk := tk) (mf := mf) h p 0 fuel0 fuel0 0 (by omega) (by unfold fuel0; omega) (by unfold fuel0; omega)
    exact ⟨r, by rw [bsm (show f_X1_allCounts tr = _ from e1)], e2⟩
  rw [if_neg c4, if_neg c4]
  by_cases c5 : a0 = 5
  · rw [if_pos c5, if_pos c5]
    rcases h.empt with ⟨hp, e6, e7⟩ | ⟨hp, e6, e7⟩
    · obtain ⟨r, hr', g1, g2⟩ := h.longo hp
      obtain ⟨c, -, -, l1, l2⟩ := h.las hr'
      have g : inB (kI r) 16 = true := inBT (by omega) (by decide)
      rw [bsm e6, if_pos rfl, if_neg e7, h.pp.1, bsm g1, bsm g2, if_pos g, if_pos g, kI_nat (by omega), l1, l2]
      exact ⟨_, rfl, rfl⟩
    · rw [bsm e6, if_neg one_ne, if_pos e7]
      exact ⟨_, rfl, rfl⟩
  rw [if_neg c5, if_neg c5]
  by_cases c6 : a0 = 6
  · rw [if_pos c6, if_pos c6, t1, t2]; exact ⟨_, rfl, rfl⟩
  rw [if_neg c6, if_neg c6]
  by_cases c7 : a0 = 7
  · rw [if_pos c7, if_pos c7, f3]; exact ⟨_, rfl, rfl⟩
  rw [if_neg c7, if_neg c7]
  by_cases c8 : a0 = 8
  · rw [if_pos c8, if_pos c8]
    obtain ⟨r, e1, e2⟩ := useL (tk := tk) (mf := mf) (sp := sp) hS 8 0 fuel0 fuel0 0 (by omega) (by unfold fuel0; omega) (by unfold fuel0; omega)
    exact ⟨r, by rw [bsm (show f_X3_shelvesInUse sl = _ from e1)], e2⟩
  rw [if_neg c8, if_neg c8]
  rcases b_12_16 a0 with ⟨k, hk1, hk2, rfl, e1, e2⟩ | ⟨e1, e2⟩
  · rw [bsm e1, bsm e2, if_neg one_ne, if_neg one_ne, show (12 : Int32) = kI 12 from rfl, show (10 : Int32) = kI 10 from rfl, kI_sub (by omega), kI_sub (by omega), if_pos (inBT (by omega) (by decide)), if_pos (inBT (by omega) (by decide)), kI_nat (by omega), kI_nat (by omega), hr (k - 12) (by omega), show k - 12 + 2 = k - 10 by omega]
    exact ⟨_, rfl, rfl⟩
  · rw [bsm e1, bsm e2, if_pos rfl, if_pos rfl]
    exact ⟨_, rfl, rfl⟩
/-! ranks -/
/-- u comes before v in rank -/
def bef (c : Nat → Nat) (u v : Nat) : Bool := decide (c v < c u ∨ (c u = c v ∧ u < v))
theorem bef_tr {c : Nat → Nat} {u v w : Nat} (h1 : bef c u v = true) (h2 : bef c v w = true) : bef c u w = true := by
  unfold bef at *
  rw [decide_eq_true_eq] at *
  omega
theorem bef_to {c : Nat → Nat} {u v : Nat} (h : u ≠ v) : bef c u v = true ∨ bef c v u = true := by
  unfold bef
  rw [decide_eq_true_eq, decide_eq_true_eq]
  omega
theorem bef_ir {c : Nat → Nat} (u : Nat) : ¬ bef c u u = true := by
  unfold bef
  rw [decide_eq_true_eq]
  omega
theorem cnt_le {P Q : Nat → Bool} : ∀ (d k : Nat), (∀ i, k ≤ i → i < k + d → P i = true → Q i = true) → cnt P k d ≤ cnt Q k d
  | 0, _, _ => Nat.le_refl _
  | d + 1, k, h => by
    have ih := cnt_le d (k + 1) (fun i h1 h2 => h i (by omega) (by omega))
    have h0 := h k (by omega) (by omega)
    rw [cnt, cnt]
    by_cases c : P k = true
    · rw [if_pos c, if_pos (h0 c)]; omega
    · rw [if_neg c]; split <;> omega
theorem cnt_lt {P Q : Nat → Bool} {z : Nat} (hq : Q z = true) (hp : ¬ P z = true) : ∀ (d k : Nat), k ≤ z → z < k + d → (∀ i, k ≤ i → i < k + d → P i = true → Q i = true) → cnt P k d < cnt Q k d
  | 0, _, h1, h2, _ => by omega
  | d + 1, k, h1, h2, h => by
    have h0 := h k (by omega) (by omega)
    rw [cnt, cnt]
    by_cases c2 : k = z
    · have ih := cnt_le d (k + 1) (fun i h1 h2 => h i (by omega) (by omega))
      rw [c2, if_pos hq, if_neg hp]
      rw [c2] at ih
      omega
    · have ih := cnt_lt hq hp d (k + 1) (by omega) (by omega) (fun i h1 h2 => h i (by omega) (by omega))
      by_cases c : P k = true
      · rw [if_pos c, if_pos (h0 c)]; omega
      · rw [if_neg c]; split <;> omega
def rk (c : Nat → Nat) (p v : Nat) : Nat := cnt (fun u => bef c u v) 0 p
theorem rk_lt {c : Nat → Nat} {u v : Nat} (hu : u < p) (h : bef c u v = true) : rk c p u < rk c p v :=
  cnt_lt (P := fun i => bef c i u) (Q := fun i => bef c i v) (z := u) h (bef_ir u) p 0 (Nat.zero_le _) (by omega) (fun i _ _ hi => bef_tr hi h)
theorem rkL {ct : Nat → Nat} (hP : tr.2.2.2.2.2.1 = kI p) (h16 : p ≤ 16) (hB : B < 1000000000) (hc : ∀ j, j < p → tr.2.1 j = kI (ct j) ∧ ct j ≤ B) {v : Nat} (hv : v < p) : ∀ (d k f r : Nat), k + d = p → d < f → f_X3_rankOf_L0 (kI v) (kI (ct v)) tr f (kI r) (kI k) = some (kI (r + cnt (fun u => bef ct u v) k d))
  | _, _, 0, _, _, h => by omega
  | 0, k, f + 1, r, hk, _ => by
    rw [f_X3_rankOf_L0, hP, if_pos ((kI_le (by omega) (by omega)).mpr (by omega)), cnt, Nat.add_zero]
  | d + 1, k, f + 1, r, hk, hf => by
    have g : inB (kI k) 16 = true := inBT (by omega) (by decide)
    obtain ⟨c1, c2⟩ := hc k (by omega)
    have c3 := (hc v hv).2
    rw [f_X3_rankOf_L0, hP, if_neg (kI_leF (by omega) (by omega) (by omega))]
    simp only [g, ↓reduceIte]
    rw [kI_nat (by omega), c1, if_kIlt (by omega) (by omega), if_kI (by omega) (by omega), if_kIle (by omega) (by omega), show kI k + 1 = kI (k + 1) from kI_add k 1, show kI r + 1 = kI (r + 1) from kI_add r 1, rkL hP h16 hB hc hv d (k + 1) f r (by omega) (by omega), rkL hP h16 hB hc hv d (k + 1) f (r + 1) (by omega) (by omega), cnt]
    unfold bef
    by_cases q1 : ct v < ct k
    · rw [if_pos q1, if_pos (by rw [decide_eq_true_eq]; omega), Nat.add_assoc]
    · rw [if_neg q1]
      by_cases q2 : ct k = ct v
      · rw [if_pos q2]
        by_cases q3 : v ≤ k
        · rw [if_pos q3, if_neg (by rw [decide_eq_true_eq]; omega), Nat.zero_add]
        · rw [if_neg q3, if_pos (by rw [decide_eq_true_eq]; omega), Nat.add_assoc]
      · rw [if_neg q2, if_neg (by rw [decide_eq_true_eq]; omega), Nat.zero_add]
theorem rkX {ct : Nat → Nat} (hP : tr.2.2.2.2.2.1 = kI p) (h16 : p ≤ 16) (hB : B < 1000000000) (hc : ∀ j, j < p → tr.2.1 j = kI (ct j) ∧ ct j ≤ B) {v x : Nat} (hv : v < p) (hx : rk ct p v = x) (hxp : x < p) : ∀ (d k f : Nat), k + d = v → d < f → (∀ u, k ≤ u → u < v → rk ct p u ≠ x) → f_X3_ranked_L0 (kI x) tr f (kI k) rf = some (kI v, rf)
  | _, _, 0, _, h, _ => by omega
  | 0, k, f + 1, hk, _, _ => by
    have e : k = v := by omega
    subst e
    have g : inB (kI k) 16 = true := inBT (by omega) (by decide)
    have rr := rkL hP h16 hB hc hv p 0 fuel0 0 (by omega) (by unfold fuel0; omega)
    rw [Nat.zero_add] at rr
    rw [f_X3_ranked_L0, hP, if_neg (kI_leF (by omega) (by omega) (by omega))]
    unfold f_X3_rankOf
    rw [if_pos g, kI_nat (by omega), (hc k hv).1, bsm (show f_X3_rankOf_L0 (kI k) (kI (ct k)) tr fuel0 0 0 = some (kI (rk ct p k)) from rr), hx, if_pos rfl]
  | d + 1, k, f + 1, hk, hf, hne => by
    have g : inB (kI k) 16 = true := inBT (by omega) (by decide)
    have rr := rkL hP h16 hB hc (v := k) (by omega) p 0 fuel0 0 (by omega) (by unfold fuel0; omega)
    have hr := hne k (by omega) (by omega)
    have hrp : rk ct p k ≤ p := by
      unfold rk
      have := cnt_le (P := fun u => bef ct u k) (Q := fun _ => true) p 0 (fun _ _ _ _ => rfl)
      rw [cnt_all p 0 (fun _ _ _ => rfl)] at this
      exact this
    rw [Nat.zero_add] at rr
    rw [f_X3_ranked_L0, hP, if_neg (kI_leF (by omega) (by omega) (by omega))]
    unfold f_X3_rankOf
    rw [if_pos g, kI_nat (by omega), (hc k (by omega)).1, bsm (show f_X3_rankOf_L0 (kI k) (kI (ct k)) tr fuel0 0 0 = some (kI (rk ct p k)) from rr), if_kI (by omega) (by omega), if_neg hr, show kI k + 1 = kI (k + 1) from kI_add k 1]
    exact rkX hP h16 hB hc hv hx hxp d (k + 1) f (by omega) (by omega) (fun u h1 h2 => hne u (by omega) h2)
/-! the selection: the scan of those that aren't picked -/
def best (ct : Nat → Nat) (w : Nat) (k : Nat) (b : Int32) : Prop := (b = -1 ∧ ∀ u, u < k → w.testBit u = true) ∨ (∃ v, v < k ∧ b = kI v ∧ ¬ w.testBit v = true ∧ ∀ u, u < k → ¬ w.testBit u = true → u ≠ v → bef ct v u = true)
theorem scan {ct : Nat → Nat} (hP : sp.2.2.2.2.2.1 = kI p) (h16 : p ≤ 16) (hB : B < 1000000000) (hc : ∀ j, j < p → sp.2.1 j = kI (ct j) ∧ ct j ≤ B) {w : Nat} (hw : w < 65536) {a q : Int32} : ∀ (d k f : Nat) (b : Int32), k + d = p → d < f → best ct w k b → ∃ b', best ct w p b' ∧ f_X4_ranked_L0 a sp f 1 (kI w) b q (kI k) mf = f_X4_ranked_L0 a sp (f - (d + 1)) 0 (kI w ||| ((1 : Int32) <<< (b' &&& 31))) b' (q + 1) 0 mf
  | _, _, 0, _, _, h, _ => by omega
  | 0, k, f + 1, b, hk, _, hb => by
    refine ⟨b, by rw [show p = k by omega]; exact hb, ?_⟩
    rw [f_X4_ranked_L0, if_neg n10, hP, if_pos ((kI_le (by omega) (by omega)).mpr (by omega)), Nat.zero_add, Nat.add_sub_cancel]
  | d + 1, k, f + 1, b, hk, hf, hb => by
    have g : inB (kI k) 16 = true := inBT (by omega) (by decide)
    obtain ⟨c1, c2⟩ := hc k (by omega)
    have ef : f + 1 - (d + 1 + 1) = f - (d + 1) := by omega
    rw [f_X4_ranked_L0, if_neg n10, hP, if_neg (kI_leF (by omega) (by omega) (by omega)), bsm (has_k hw (i := k) (by omega)), show kI k + 1 = kI (k + 1) from kI_add k 1, ef]
    by_cases t : w.testBit k = true
    · rw [if_pos t, if_neg one_ne]
      refine scan hP h16 hB hc hw d (k + 1) f b (by omega) (by omega) ?_
      rcases hb with ⟨h1, h2⟩ | ⟨v, h1, h2, h3, h4⟩
      · refine Or.inl ⟨h1, fun u hu => ?_⟩
        by_cases c : u = k
        · rw [c]; exact t
        · exact h2 u (by omega)
      · refine Or.inr ⟨v, by omega, h2, h3, fun u hu h5 h6 => ?_⟩
        by_cases c : u = k
        · rw [c] at h5; exact absurd t h5
        · exact h4 u (by omega) h5 h6
    · rw [if_neg t, if_pos rfl]
      rcases hb with ⟨h1, h2⟩ | ⟨v, h1, h2, h3, h4⟩
      · rw [if_pos h1]
        refine scan hP h16 hB hc hw d (k + 1) f (kI k) (by omega) (by omega) (Or.inr ⟨k, by omega, rfl, t, fun u hu h5 h6 => ?_⟩)
        exact absurd (h2 u (by omega)) h5
      · subst h2
        have gv : inB (kI v) 16 = true := inBT (by omega) (by decide)
        obtain ⟨d1, d2⟩ := hc v (by omega)
        rw [if_neg (kI_m1 (by omega)), if_pos g, if_pos gv, kI_nat (by omega), kI_nat (by omega), c1, d1, if_kIle (by omega) (by omega)]
        by_cases c : ct k ≤ ct v
        · rw [if_pos c]
          refine scan hP h16 hB hc hw d (k + 1) f (kI v) (by omega) (by omega) (Or.inr ⟨v, by omega, rfl, h3, fun u hu h5 h6 => ?_⟩)
          by_cases cu : u = k
          · unfold bef
            rw [decide_eq_true_eq, cu]
            omega
          · exact h4 u (by omega) h5 h6
        · rw [if_neg c]
          refine scan hP h16 hB hc hw d (k + 1) f (kI k) (by omega) (by omega) (Or.inr ⟨k, by omega, rfl, t, fun u hu h5 h6 => ?_⟩)
          have hkv : bef ct k v = true := by
            unfold bef
            rw [decide_eq_true_eq]
            omega
          by_cases cu : u = v
          · rw [cu]; exact hkv
          · exact bef_tr hkv (h4 u (by omega) h5 cu)
theorem selL {ct : Nat → Nat} (hP : sp.2.2.2.2.2.1 = kI p) (h16 : p ≤ 16) (hB : B < 1000000000) (hc : ∀ j, j < p → sp.2.1 j = kI (ct j) ∧ ct j ≤ B) {x : Nat} (hx : x < p) : ∀ (d k f w : Nat) (b z : Int32), k + d = x + 1 → 20 * d < f → w < 65536 → cnt (fun u => w.testBit u) 0 p = k → (∀ u v, u < p → v < p → w.testBit v = true → bef ct u v = true → w.testBit u = true) → (k = x + 1 → ∃ v, v < p ∧ b = kI v ∧ rk ct p v = x) → ∃ v, v < p ∧ rk ct p v = x ∧ f_X4_ranked_L0 (kI x) sp f 0 (kI w) b (kI k) z mf = some (kI v, mf)
  | _, _, 0, _, _, _, _, h, _, _, _, _ => by omega
  | 0, k, f + 1, w, b, z, hk, _, _, _, _, hb => by
    obtain ⟨v, hv, eb, er⟩ := hb (by omega)
    refine ⟨v, hv, er, ?_⟩
    rw [f_X4_ranked_L0, if_pos rfl, if_pos ((kI_lt (by omega) (by omega)).mpr (by omega)), eb]
  | d + 1, k, f + 1, w, b, z, hk, hf, hw, hcn, hcl, _ => by
    obtain ⟨b', hb', e⟩ := scan (mf := mf) (a := kI x) (q := kI k) hP h16 hB hc hw p 0 f (-1) (by omega) (by omega) (Or.inl ⟨rfl, fun u hu => by omega⟩)
    rw [f_X4_ranked_L0, if_pos rfl, if_neg (kI_ltF (by omega) (by omega) (by omega)), show (0 : Int32) = kI 0 from rfl, e]
    rcases hb' with ⟨h1, h2⟩ | ⟨v, h1, h2, h3, h4⟩
    · exfalso
      rw [cnt_all p 0 (fun i _ h => h2 i (by omega))] at hcn
      omega
    · subst h2
      have e5 : kI w ||| ((1 : Int32) <<< (kI v &&& 31)) = kI (w ||| 2 ^ v) := by rw [shlT v (by omega), kI_or]
      have hv2 : 2 ^ v < 2 ^ 16 := Nat.pow_lt_pow_right (by decide) (by omega)
      have hbit : ∀ u, (w ||| 2 ^ v).testBit u = (w.testBit u || decide (v = u)) := fun u => by rw [Nat.testBit_or, Nat.testBit_two_pow]
      have hpick : ∀ u, u < p → (bef ct u v = true ↔ w.testBit u = true) := fun u hu => by
        constructor
        · intro hbf
          by_cases t : w.testBit u = true
          · exact t
          · by_cases cu : u = v
            · rw [cu] at hbf; exact absurd hbf (bef_ir v)
            · exact absurd (bef_tr hbf (h4 u hu t cu)) (bef_ir u)
        · intro t
          have hne : u ≠ v := fun c => h3 (by rw [← c]; exact t)
          rcases bef_to (c := ct) hne with hh | hh
          · exact hh
          · exact absurd (hcl v u h1 hu t hh) h3
      have hrk : rk ct p v = k := by
        rw [← hcn]
        unfold rk
        refine cnt_cg p 0 (fun i _ hi => ?_)
        have := hpick i (by omega)
        cases h5 : bef ct i v <;> cases h6 : w.testBit i
        · rfl
        · rw [h5, h6] at this; exact absurd (this.mpr rfl) (by decide)
        · rw [h5, h6] at this; exact absurd (this.mp rfl) (by decide)
        · rfl
      rw [e5, show kI k + 1 = kI (k + 1) from kI_add k 1]
      refine selL hP h16 hB hc hx d (k + 1) _ (w ||| 2 ^ v) (kI v) 0 (by omega) (by omega) (Nat.or_lt_two_pow (n := 16) hw hv2) ?_ (fun u y hu hy ht hbf => ?_) (fun hkx => ⟨v, h1, rfl, by omega⟩)
      · rw [← hcn]
        have e6 : cnt (fun u => (w ||| 2 ^ v).testBit u) 0 p = cnt (fun u => w.testBit u) 0 v + 1 + cnt (fun u => w.testBit u) (v + 1) (p - v - 1) := by
          rw [show p = v + ((p - v - 1) + 1) by omega, cnt_app, cnt, Nat.zero_add, show v + (p - v - 1 + 1) - v - 1 = p - v - 1 by omega, hbit v, decide_eq_true rfl, Bool.or_true, if_pos rfl, cnt_cg (Q := fun u => w.testBit u) v 0 (fun i _ hi => by rw [hbit, decide_eq_false (by omega), Bool.or_false]), cnt_cg (Q := fun u => w.testBit u) (p - v - 1) (v + 1) (fun i hi _ => by rw [hbit, decide_eq_false (by omega), Bool.or_false])]
          omega
        have e7 : cnt (fun u => w.testBit u) 0 p = cnt (fun u => w.testBit u) 0 v + cnt (fun u => w.testBit u) (v + 1) (p - v - 1) := by
          have : cnt (fun u => w.testBit u) 0 (v + ((p - v - 1) + 1)) = cnt (fun u => w.testBit u) 0 v + cnt (fun u => w.testBit u) (v + 1) (p - v - 1) := by
            rw [cnt_app, cnt, Nat.zero_add, if_neg h3, Nat.zero_add]
          rw [show v + ((p - v - 1) + 1) = p by omega] at this
          exact this
        omega
      · rw [hbit, Bool.or_eq_true] at ht
        rw [hbit, Bool.or_eq_true]
        rcases ht with ht | ht
        · exact Or.inl (hcl u y hu hy ht hbf)
        · have : v = y := of_decide_eq_true ht
          subst this
          exact Or.inl ((hpick u hu).mp hbf)
theorem s_ranked (h : J p L B tr sp) (hr : RF rf mf) (a0 : Int32) : T1 (f_X3_ranked a0 tr rf) (f_X4_ranked a0 sp mf) := by
  have h16 := h.p16
  have hB := h.Bb
  unfold f_X3_ranked f_X4_ranked
  rcases h.per a0 with ⟨x, hx, rfl, e3, e4, e5⟩ | ⟨e3, e4, e5⟩
  rotate_left
  · rw [bsm e3, bsm e5, if_pos rfl, if_pos rfl]
    exact T1r hr 0 (by decide) rfl
  rw [bsm e3, bsm e5, if_neg one_ne, if_neg one_ne]
  obtain ⟨ln, ct, la, kd, am, fc, tu, se, R, R', v⟩ := h
  obtain ⟨q, hq, hrk, e⟩ := selL (mf := mf) R'.pE h16 hB (fun j hj => ⟨R'.cE hj, (v.2.2.1 j hj).2.1⟩) hx (x + 1) 0 fuel0 0 (-1) 0 (by omega) (by unfold fuel0; omega) (by omega) (cnt_non p 0 (fun i _ _ => Nat.zero_testBit i)) (fun u y _ _ ht _ => by rw [Nat.zero_testBit] at ht; cases ht) (fun hk => by omega)
  have e' := rkX (rf := rf) R.pE h16 hB (fun j hj => ⟨R.cE hj, (v.2.2.1 j hj).2.1⟩) hq hrk hx q 0 fuel0 (by omega) (by unfold fuel0; omega) (fun u _ hu hru => by
    rcases bef_to (c := ct) (show u ≠ q by omega) with hh | hh
    · have := rk_lt (p := p) (by omega) hh
      omega
    · have := rk_lt (p := p) hq hh
      omega)
  rw [show (0 : Int32) = kI 0 from rfl, e', show f_X4_ranked_L0 (kI x) sp fuel0 0 (kI 0) (-1) (kI 0) (kI 0) mf = _ from e]
  exact T1s hr
end RNK
