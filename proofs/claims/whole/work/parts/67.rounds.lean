/-! ===== rounds; what brings a card to its place ===== -/
theorem inj_le : ∀ (q p : Nat) (f : Nat → Nat), (∀ i, i < p → f i < q) → (∀ i j, i < p → j < p → f i = f j → i = j) → p ≤ q
  | 0, p, f, h, _ => by
    by_cases c : p = 0
    · omega
    · have := h 0 (by omega)
      omega
  | q + 1, p, f, h, hi => by
    by_cases c : ∃ i, i < p ∧ f i = q
    · obtain ⟨i0, h0, e0⟩ := c
      have := inj_le q (p - 1) (fun i => if i < i0 then f i else f (i + 1)) (fun i hp => by
        by_cases c : i < i0
        · rw [if_pos c]
          have h1 := h i (by omega)
          have h2 : f i ≠ q := fun e => by have := hi i i0 (by omega) h0 (by omega); omega
          omega
        · rw [if_neg c]
          have h1 := h (i + 1) (by omega)
          have h2 : f (i + 1) ≠ q := fun e => by have := hi (i + 1) i0 (by omega) h0 (by omega); omega
          omega) (fun i j h1 h2 e => by
        by_cases c1 : i < i0
        · by_cases c2 : j < i0
          · rw [if_pos c1, if_pos c2] at e
            exact hi i j (by omega) (by omega) e
          · rw [if_pos c1, if_neg c2] at e
            have := hi i (j + 1) (by omega) (by omega) e
            omega
        · by_cases c2 : j < i0
          · rw [if_neg c1, if_pos c2] at e
            have := hi (i + 1) j (by omega) (by omega) e
            omega
          · rw [if_neg c1, if_neg c2] at e
            have := hi (i + 1) (j + 1) (by omega) (by omega) e
            omega)
      omega
    · have := inj_le q p f (fun i hp => by
        have h1 := h i hp
        have h2 : f i ≠ q := fun e => c ⟨i, hp, e⟩
        omega) hi
      omega
section RND
variable {n T : Nat} {o : Bool} {x : Nat}
theorem it_back (hT : ∀ y, y < n → itN n o T y = y) (h1 : 1 ≤ T) (hx : x < n) (t u : Nat) : itN n o (T * t + u - t) (itN n o t x) = itN n o u x := by
  have h2 : t ≤ T * t := Nat.le_mul_of_pos_left t h1
  rw [← it_add t, show T * t + u - t + t = u + T * t by omega, it_add (T * t), it_mul hT hx]
theorem it_cyc {c : Nat} (h1 : 1 ≤ c) (hc : itN n o c x = x) : ∀ (N t : Nat), t ≤ N → ∃ s, s < c ∧ itN n o s x = itN n o t x
  | 0, t, ht => ⟨0, by omega, by rw [show t = 0 by omega]⟩
  | N + 1, t, ht => by
    by_cases q : t < c
    · exact ⟨t, q, rfl⟩
    · obtain ⟨s, h2, h3⟩ := it_cyc h1 hc N (t - c) (by omega)
      refine ⟨s, h2, ?_⟩
      rw [h3]
      have := it_add (n := n) (o := o) (x := x) c (t - c)
      rw [hc, show t - c + c = t by omega] at this
      exact this.symm
def Lst (n : Nat) (o : Bool) (x : Nat) : Prop := ∀ t, x ≤ itN n o t x
theorem it_ret (hT : ∀ y, y < n → itN n o T y = y) (h1 : 1 ≤ T) (hx : x < n) (hno : ∀ s, 1 ≤ s → s < n → itN n o s x ≠ x) : itN n o n x = x := by
  by_cases c : itN n o n x = x
  · exact c
  · exfalso
    have := inj_le n (n + 1) (fun i => itN n o i x) (fun i _ => it_lt o hx i) (fun i j hi hj e => by
      have key : ∀ i j, i ≤ j → j < n + 1 → itN n o i x = itN n o j x → i = j := fun i j hij hj e => by
        by_cases q : i = j
        · exact q
        · exfalso
          have b1 := it_back hT h1 hx i 0
          have b2 := it_back hT h1 hx j (T * i + j - i - T * i)
          have e3 : itN n o (j - i) x = x := by
            have h3 : i ≤ T * i := Nat.le_mul_of_pos_left i h1
            rw [e, ← it_add j, show T * i + 0 - i + j = (j - i) + T * i by omega, it_add (T * i), it_mul hT hx] at b1
            exact b1
          by_cases q2 : j - i = n
          · rw [q2] at e3; exact c e3
          · exact hno (j - i) (by omega) (by omega) e3
      by_cases q : i ≤ j
      · exact key i j q hj e
      · exact (key j i (by omega) hi e.symm).symm)
    omega
theorem lsL (a : Int32) (hn : n ≤ 52) (hx : x < n) (ho : o = ob a) (hT : ∀ y, y < n → itN n o T y = y) (h1 : 1 ≤ T) : ∀ (d c f : Nat), c + d = n → 1 ≤ c → d < f → (∀ s, s < c → x ≤ itN n o s x) → (∀ s, 1 ≤ s → s < c → itN n o s x ≠ x) → (f_X3_isLeastOfItsRound_L0 (kI n) a (kI x) f (kI (itN n o c x)) (kI c) = some 1 ∧ Lst n o x) ∨ (f_X3_isLeastOfItsRound_L0 (kI n) a (kI x) f (kI (itN n o c x)) (kI c) = some 0 ∧ ¬ Lst n o x)
  | _, _, 0, _, _, h, _, _ => by omega
  | 0, c, f + 1, hc, h0, _, hs, hr => by
    have e : c = n := by omega
    subst e
    refine Or.inl ⟨?_, fun t => ?_⟩
    · rw [f_X3_isLeastOfItsRound_L0, if_pos ((kI_le (by omega) (by omega)).mpr (Nat.le_refl _))]
    · obtain ⟨s, g1, g2⟩ := it_cyc h0 (it_ret hT h1 hx hr) t t (Nat.le_refl _)
      rw [← g2]
      exact hs s g1
  | d + 1, c, f + 1, hc, h0, hf, hs, hr => by
    have hl := it_lt o hx c
    rw [f_X3_isLeastOfItsRound_L0, if_neg (kI_leF (by omega) (by omega) (by omega)), if_kI (by omega) (by omega), if_kIle (by omega) (by omega)]
    by_cases q : itN n o c x = x
    · refine Or.inl ⟨by rw [if_pos q], fun t => ?_⟩
      obtain ⟨s, g1, g2⟩ := it_cyc h0 q t t (Nat.le_refl _)
      rw [← g2]
      exact hs s g1
    · rw [if_neg q]
      by_cases q2 : x ≤ itN n o c x
      · have e := shE a hn hl
        rw [← ho, show shN n o (itN n o c x) = itN n o (c + 1) x from rfl] at e
        rw [if_pos q2, bsm e, show kI c + 1 = kI (c + 1) from kI_add c 1]
        refine lsL a hn hx ho hT h1 d (c + 1) f (by omega) (by omega) (by omega) (fun s g => ?_) (fun s g1 g2 => ?_)
        · by_cases z : s = c
          · rw [z]; exact q2
          · exact hs s (by omega)
        · by_cases z : s = c
          · rw [z]; exact q
          · exact hr s g1 (by omega)
      · rw [if_neg q2]
        exact Or.inr ⟨rfl, fun h => q2 (h c)⟩
theorem lsE (a : Int32) (h2 : 2 ≤ n) (hn : n ≤ 52) (hx : x < n) : (f_X3_isLeastOfItsRound (kI n) a (kI x) = some 1 ∧ Lst n (ob a) x) ∨ (f_X3_isLeastOfItsRound (kI n) a (kI x) = some 0 ∧ ¬ Lst n (ob a) x) := by
  obtain ⟨T, t1, t2, t3, t4⟩ := period hn (ob a)
  unfold f_X3_isLeastOfItsRound
  rw [bsm (shE a hn hx)]
  exact lsL a hn hx rfl ((homeB_of n).mp t3) t1 (n - 1) 1 fuel0 (by omega) (by omega) (by unfold fuel0; omega) (fun s hs => by rw [show s = 0 by omega]; exact Nat.le_refl _) (fun s h1 h2 => by omega)
def Wk (n : Nat) (o : Bool) (x j : Nat) : Prop := ∃ y, y < x ∧ ∃ t, itN n o t y = j
def In0 (n : Nat) (o : Bool) (x : Nat) (mn : AI) : Prop := ∀ j, j < n → (mn j = 0 ∧ ¬ Wk n o x j) ∨ (mn j = 1 ∧ Wk n o x j)
def In1 (n : Nat) (o : Bool) (x t : Nat) (mn : AI) : Prop := ∀ j, j < n → (mn j = 0 ∧ ¬ (Wk n o x j ∨ ∃ s, s < t ∧ itN n o s x = j)) ∨ (mn j = 1 ∧ (Wk n o x j ∨ ∃ s, s < t ∧ itN n o s x = j))
theorem nar1 : vp_nar .boolean 1 = 1 := by decide
theorem nar0 : vp_nar .boolean 0 = 0 := by decide
theorem rnI (a : Int32) (hn : n ≤ 52) (hx : x < n) (ho : o = ob a) (hT : ∀ y, y < n → itN n o T y = y) (h1 : 1 ≤ T) {v : Int32} {mf : AI} : ∀ (d t f : Nat) (mn : AI), t + d = T → d < f → In1 n o x t mn → ∃ mn' f', f ≤ f' + d + 1 ∧ In0 n o (x + 1) mn' ∧ f_X4_rounds_L1 (kI n) a f 1 v (kI x) (kI (itN n o t x)) mf mn = f_X4_rounds_L1 (kI n) a f' 0 v (kI (x + 1)) 0 mf mn'
  | _, _, 0, _, _, h, _ => by omega
  | d, t, f + 1, mn, ht, hf, hI => by
    have hl := it_lt o hx t
    have g : inB (kI (itN n o t x)) 52 = true := inBT (by omega) (by decide)
    rcases hI _ hl with ⟨m0, hm⟩ | ⟨m1, hm⟩
    · match d, ht, hf with
      | 0, ht, _ =>
        exfalso
        apply hm
        refine Or.inr ⟨0, by omega, ?_⟩
        rw [show t = T by omega, hT x hx]
        rfl
      | d + 1, ht, hf =>
        have e := shE a hn hl
        rw [← ho, show shN n o (itN n o t x) = itN n o (t + 1) x from rfl] at e
        obtain ⟨mn', f', g1, g2, g3⟩ := rnI a hn hx ho hT h1 (v := v) (mf := mf) d (t + 1) f (upd mn (itN n o t x) 1) (by omega) (by omega) (fun j hj => by
          by_cases c : j = itN n o t x
          · rw [c, upd_at]
            exact Or.inr ⟨rfl, Or.inr ⟨t, by omega, rfl⟩⟩
          · rw [upd_ne c]
            rcases hI j hj with ⟨h3, h4⟩ | ⟨h3, h4⟩
            · refine Or.inl ⟨h3, fun h5 => h4 ?_⟩
              rcases h5 with h5 | ⟨s, h6, h7⟩
              · exact Or.inl h5
              · by_cases z : s = t
                · rw [z] at h7; exact absurd h7.symm c
                · exact Or.inr ⟨s, by omega, h7⟩
            · refine Or.inr ⟨h3, ?_⟩
              rcases h4 with h5 | ⟨s, h6, h7⟩
              · exact Or.inl h5
              · exact Or.inr ⟨s, by omega, h7⟩)
        refine ⟨mn', f', by omega, g2, ?_⟩
        rw [f_X4_rounds_L1, if_neg n10, if_pos g, kI_nat (by omega), m0, if_pos rfl, if_pos g, cmE, bsm e, nar1]
        exact g3
    · refine ⟨mn, f, by omega, fun j hj => ?_, ?_⟩
      · have key : ∀ u, Wk n o x (itN n o u x) ∨ ∃ s, s < t ∧ itN n o s x = itN n o u x := fun u => by
          rcases hm with ⟨y, hy, r, er⟩ | ⟨s, hs, es⟩
          · refine Or.inl ⟨y, hy, T * t + u - t + r, ?_⟩
            rw [it_add r, er]
            exact it_back hT h1 hx t u
          · refine Or.inr ?_
            have ind : ∀ N u, u ≤ N → ∃ s', s' < t ∧ itN n o s' x = itN n o u x := fun N => by
              induction N with
              | zero => exact fun u hu => ⟨0, by omega, by rw [show u = 0 by omega]⟩
              | succ N ih =>
                intro u hu
                by_cases z : u < t
                · exact ⟨u, z, rfl⟩
                · obtain ⟨s', z1, z2⟩ := ih (u - t + s) (by omega)
                  refine ⟨s', z1, ?_⟩
                  rw [z2, it_add s, es, ← it_add t, show u - t + t = u by omega]
            exact ind u u (Nat.le_refl _)
        have W1 : Wk n o (x + 1) j ↔ (Wk n o x j ∨ ∃ s, s < t ∧ itN n o s x = j) := by
          constructor
          · rintro ⟨y, hy, r, er⟩
            by_cases z : y = x
            · subst z
              have := key r
              rw [er] at this
              exact this
            · exact Or.inl ⟨y, by omega, r, er⟩
          · rintro (⟨y, hy, r, er⟩ | ⟨s, hs, es⟩)
            · exact ⟨y, by omega, r, er⟩
            · exact ⟨x, by omega, s, es⟩
        rcases hI j hj with ⟨h3, h4⟩ | ⟨h3, h4⟩
        · exact Or.inl ⟨h3, fun h => h4 (W1.mp h)⟩
        · exact Or.inr ⟨h3, W1.mpr h4⟩
      · rw [f_X4_rounds_L1, if_neg n10, if_pos g, kI_nat (by omega), m1, if_neg one_ne, show kI x + 1 = kI (x + 1) from kI_add x 1]
theorem wk_lst (hx : x < n) (hT : ∀ y, y < n → itN n o T y = y) (h1 : 1 ≤ T) : Wk n o x x ↔ ¬ Lst n o x := by
  constructor
  · rintro ⟨y, hy, t, e⟩ h
    have := h (T * t + 0 - t)
    rw [← e, it_back hT h1 (show y < n by omega) t 0] at this
    have e2 : itN n o 0 y = y := rfl
    rw [e2] at this
    rw [e] at this
    omega
  · intro h
    have : ∃ t, itN n o t x < x := by
      by_cases c : ∃ t, itN n o t x < x
      · exact c
      · exact absurd (fun t => Nat.not_lt.mp fun h2 => c ⟨t, h2⟩) h
    obtain ⟨t, ht⟩ := this
    refine ⟨itN n o t x, ht, T * t + 0 - t, ?_⟩
    exact it_back hT h1 hx t 0
theorem rnO (a : Int32) (h2 : 2 ≤ n) (hn : n ≤ 52) (hT : ∀ y, y < n → itN n (ob a) T y = y) (h1 : 1 ≤ T) (hT52 : T ≤ 52) {rf mf : AI} : ∀ (d x f f' : Nat) (v z : Int32) (mn : AI), x + d = n → d < f → 54 * d < f' → In0 n (ob a) x mn → ∃ r mn', f_X3_rounds_L0 (kI n) a f v (kI x) rf = some (r, rf) ∧ f_X4_rounds_L1 (kI n) a f' 0 v (kI x) z mf mn = some (r, mf, mn')
  | _, _, 0, _, _, _, _, _, h, _, _ => by omega
  | _, _, _, 0, _, _, _, _, _, h, _ => by omega
  | 0, x, f + 1, f' + 1, v, z, mn, hx, _, _, _ => by
    refine ⟨v, mn, ?_, ?_⟩
    · rw [f_X3_rounds_L0, if_pos ((kI_le (by omega) (by omega)).mpr (by omega))]
    · rw [f_X4_rounds_L1, if_pos rfl, if_pos ((kI_le (by omega) (by omega)).mpr (by omega))]
  | d + 1, x, f + 1, f' + 1, v, z, mn, hx, hf, hf', hI => by
    have hxn : x < n := by omega
    have g : inB (kI x) 52 = true := inBT (by omega) (by decide)
    have hW := wk_lst hxn hT h1
    have inn := fun w => rnI a hn hxn rfl hT h1 (v := w) (mf := mf) T 0 f' mn (by omega) (by omega) (fun j hj => by
      rcases hI j hj with ⟨h3, h4⟩ | ⟨h3, h4⟩
      · exact Or.inl ⟨h3, fun h5 => h4 (by
          rcases h5 with h5 | ⟨s, h6, _⟩
          · exact h5
          · omega)⟩
      · exact Or.inr ⟨h3, Or.inl h4⟩)
    rw [f_X3_rounds_L0, f_X4_rounds_L1, if_neg (kI_leF (by omega) (by omega) (by omega)), if_pos rfl, if_neg (kI_leF (by omega) (by omega) (by omega)), if_pos g, kI_nat (by omega), show kI x + 1 = kI (x + 1) from kI_add x 1, Int32.add_zero]
    rcases lsE a h2 hn hxn with ⟨e, hL⟩ | ⟨e, hL⟩
    · have m0 : mn x = 0 := by
        rcases hI x hxn with ⟨h3, _⟩ | ⟨_, h4⟩
        · exact h3
        · exact absurd hL (hW.mp h4)
      obtain ⟨mn', f2, g1, g2, g3⟩ := inn (v + 1)
      rw [bsm e, if_neg one_ne, m0, if_pos rfl, show f_X4_rounds_L1 (kI n) a f' 1 (v + 1) (kI x) (kI x) mf mn = _ from g3]
      exact rnO a h2 hn hT h1 hT52 d (x + 1) f f2 (v + 1) 0 mn' (by omega) (by omega) (by omega) g2
    · have m1 : mn x = 1 := by
        rcases hI x hxn with ⟨_, h4⟩ | ⟨h3, _⟩
        · exact absurd (hW.mpr hL) h4
        · exact h3
      obtain ⟨mn', f2, g1, g2, g3⟩ := inn v
      rw [bsm e, if_pos rfl, m1, if_neg one_ne, show f_X4_rounds_L1 (kI n) a f' 1 v (kI x) (kI x) mf mn = _ from g3]
      exact rnO a h2 hn hT h1 hT52 d (x + 1) f f2 v 0 mn' (by omega) (by omega) (by omega) g2
theorem rnF (a : Int32) (hn : n ≤ 52) {mf : AI} : ∀ (d k f : Nat) (mn : AI), k + d = n → d < f → (∀ j, j < k → mn j = 0) → ∃ mn', (∀ j, j < n → mn' j = 0) ∧ f_X4_rounds_L0 (kI n) a f (kI k) mf mn = f_X4_rounds_L1 (kI n) a fuel0 0 0 0 0 mf mn'
  | _, _, 0, _, _, h, _ => by omega
  | 0, k, f + 1, mn, hk, _, hp => by
    refine ⟨mn, fun j hj => hp j (by omega), ?_⟩
    rw [f_X4_rounds_L0, if_pos ((kI_le (by omega) (by omega)).mpr (by omega))]
  | d + 1, k, f + 1, mn, hk, hf, hp => by
    have g : inB (kI k) 52 = true := inBT (by omega) (by decide)
    rw [f_X4_rounds_L0, if_neg (kI_leF (by omega) (by omega) (by omega)), if_pos g, kI_nat (by omega), show kI k + 1 = kI (k + 1) from kI_add k 1, nar0]
    refine rnF a hn d (k + 1) f _ (by omega) (by omega) (fun j hj => ?_)
    by_cases c : j = k
    · rw [c, upd_at]
    · rw [upd_ne c, hp j (by omega)]
end RND
theorem s_rounds {rf mf : AI} (hr : RF rf mf) (a0 a1 : Int32) (mn : AI) : TN (f_X3_rounds a0 a1 rf) (f_X4_rounds a0 a1 mf mn) := by
  unfold f_X3_rounds f_X4_rounds
  rcases pck a0 with ⟨n, h2, hn, rfl, e1, e2⟩ | ⟨e1, e2⟩
  rotate_left
  · rw [bsm e1, bsm e2, if_pos rfl, if_pos rfl]
    exact TNr hr 0 (by decide) rfl
  obtain ⟨T, t1, t2, t3, t4⟩ := period hn (ob a1)
  obtain ⟨mn1, m1, m2⟩ := rnF (mf := mf) a1 hn n 0 fuel0 mn (by omega) (by unfold fuel0; omega) (fun j hj => by omega)
  obtain ⟨r, mn', f1, f2⟩ := rnO (rf := rf) (mf := mf) a1 h2 hn ((homeB_of n).mp t3) t1 t2 n 0 fuel0 fuel0 0 0 mn1 (by omega) (by unfold fuel0; omega) (by unfold fuel0; omega) (fun j hj => Or.inl ⟨m1 j hj, by rintro ⟨y, hy, _⟩; omega⟩)
  rw [bsm e1, bsm e2, if_neg one_ne, if_neg one_ne, show f_X3_rounds_L0 (kI n) a1 fuel0 0 0 rf = _ from f1, show f_X4_rounds_L0 (kI n) a1 fuel0 0 mf mn = _ from m2, show f_X4_rounds_L1 (kI n) a1 fuel0 0 0 0 0 mf mn1 = _ from f2]
  exact ⟨_, _, _, _, rfl, rfl, hr⟩
