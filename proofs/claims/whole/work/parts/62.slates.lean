/-! ===== slates ===== -/
section SLT
variable {tr sp : ShT} {p L B : Nat} {rf mf : AI} {sl : Nat → SlT} {sv : SvT}
def RowOk (sl : Nat → SlT) (sv : SvT) (a n : Nat) : Prop := ∃ z, n ≤ z ∧ z ≤ 40 ∧ (sl a).2.2.2 = kI z ∧ ∀ j, j < z → (sl a).1 j = sv.2.2.2.2.2 a j
theorem RowOk.el {a n i : Nat} (h : RowOk sl sv a n) (hi : i < n) : f_X0_elementAt (kI i) (sl a) = some (sv.2.2.2.2.2 a i) := by
  obtain ⟨z, hn, hz, s3, s6⟩ := h
  rcases prt hz s3 (kI i) with ⟨i', hi', ei, p1, p2⟩ | ⟨p1, p2⟩
  · unfold f_X0_elementAt
    rw [bsm p1, if_neg one_ne, if_pos (inBT (by omega) (by decide)), kI_nat (by omega), s6 i (by omega)]
  · rw [M4_in, Int32.toInt_toInt64, kI_toInt (by omega), Int32.toInt_toInt64, show kI z - 1 = kI (z - 1) from kI_sub (b := 1) (by omega), kI_toInt (by omega), show (0 : Int64).toInt = 0 from rfl, if_pos (by omega)] at p2
    exact absurd (Option.some.inj p2) one_ne
theorem slate (hJ : J p L B tr sp) (h : SL L sl sv) (hr : RF rf mf) (a0 a1 : Int32) : (∃ a n, a < 8 ∧ n ≤ 40 ∧ a0 = kI a ∧ a1 = kI n ∧ f_X3_refusalOfSlate a0 a1 tr sl = some 0 ∧ f_X4_noSlate a0 a1 sp sv mf = some (0, mf) ∧ 0 < p ∧ 0 < L ∧ RowOk sl sv a n) ∨ (∃ i rf' mf', i < 5 ∧ ¬ -kI (i + 2) = 0 ∧ f_X3_refusalOfSlate a0 a1 tr sl = some (-kI (i + 2)) ∧ f_X3_refuse (-kI (i + 2)) rf = some (-kI (i + 2), rf') ∧ f_X4_noSlate a0 a1 sp sv mf = some (-kI (i + 2), mf') ∧ RF rf' mf') := by
  obtain ⟨rf0, mf0, x0, y0, h0⟩ := refu hr (i := 0) (by decide)
  obtain ⟨rf3, mf3, x3, y3, h3⟩ := refu hr (i := 3) (by decide)
  unfold f_X3_refusalOfSlate f_X4_noSlate
  rcases shf a0 with ⟨a, ha, rfl, e1, e2⟩ | ⟨e1, e2⟩
  rotate_left
  · refine Or.inr ⟨0, rf0, mf0, by decide, by decide, ?_, x0, ?_, h0⟩
    · rw [bsm e1, if_pos rfl]; rfl
    · rw [bsm e2, if_pos rfl, bsm (show f_X4_refuse (-2) mf = _ from y0)]
  have g : inB (kI a) 8 = true := inBT ha (by decide)
  rw [bsm e1, bsm e2, if_neg one_ne, if_neg one_ne]
  rcases b_0_40 a1 with ⟨n, -, hn, rfl, e1, e2⟩ | ⟨e1, e2⟩
  rotate_left
  · refine Or.inr ⟨0, rf0, mf0, by decide, by decide, ?_, x0, ?_, h0⟩
    · rw [bsm e1, if_pos rfl]; rfl
    · rw [bsm e2, if_pos rfl, bsm (show f_X4_refuse (-2) mf = _ from y0)]
  rw [bsm e1, bsm e2, if_neg one_ne, if_neg one_ne]
  simp only [g, ↓reduceIte]
  rw [kI_nat (by omega)]
  rcases noRo h hr ha with ⟨f1, f2, x, t, z, ht, hz, s1, s2, s3, s4, s5, s6⟩ | ⟨i, rf', mf', hi, hne, f1, f2, f3, h'⟩
  rotate_left
  · refine Or.inr ⟨i, rf', mf', hi, hne, ?_, f2, ?_, h'⟩
    · rw [bsm f1, if_neg hne]
    · rw [bsm f3, if_neg hne]
  rw [bsm f1, bsm f2, if_pos rfl, if_pos rfl, s5, if_kIle (by omega) (by omega)]
  have hP : f_X0_hasPart 0 (kI n) (sl a) = if n ≤ z then some 1 else some 0 := by
    unfold f_X0_hasPart
    rw [s3, if_neg (show ¬ (0 : Int32) < 0 by decide), if_neg (kI_nn (by omega)), if_kIlt (by omega) (by omega)]
    by_cases c : n ≤ z
    · rw [if_neg (by omega), if_pos c, kI_sub c, if_neg (kI_nn (by omega))]
    · rw [if_pos (by omega), if_neg c]
  rw [hP]
  by_cases c : n ≤ z
  · rw [if_pos c, if_pos c, Option.bind_some, if_neg one_ne]
    rcases hJ.stk with ⟨hp, hL, e6, e7⟩ | ⟨hL, e6, e7⟩
    · exact Or.inl ⟨a, n, ha, hn, rfl, rfl, by rw [bsm e6, if_pos rfl], by rw [bsm e7, if_neg one_ne], hp, hL, z, c, hz, s3, s6⟩
    · refine Or.inr ⟨3, rf3, mf3, by decide, by decide, ?_, x3, ?_, h3⟩
      · rw [bsm e6, if_neg one_ne]; rfl
      · rw [bsm e7, if_pos rfl, bsm (show f_X4_refuse (-5) mf = _ from y3)]
  · rw [if_neg c, if_neg c]
    refine Or.inr ⟨0, rf0, mf0, by decide, by decide, ?_, x0, ?_, h0⟩
    · rw [Option.bind_some, if_pos rfl]; rfl
    · rw [bsm (show f_X4_refuse (-2) mf = _ from y0)]
theorem wrL {a n : Nat} (ok : RowOk sl sv a n) (hn : n ≤ 40) (hp : 0 < p) (hL : 0 < L) : ∀ (d k f f' : Nat) {B : Nat} {t y : ShT}, J p L B t y → k + d = n → d < f → d < f' → B + d < 1000000000 → ∃ r t' y', f_X3_firstWrong_L0 (kI n) a sl f (kI k) t = some (r, t') ∧ f_X4_wrongIn_L0 (kI n) (sv.2.2.2.2.2 a) f' (kI k) y = some (r, y')
  | _, _, 0, _, _, _, _, _, _, h, _, _ => by omega
  | _, _, _, 0, _, _, _, _, _, _, h, _ => by omega
  | 0, k, f + 1, f' + 1, _, t, y, _, hk, _, _, _ => by
    refine ⟨-1, t, y, ?_, ?_⟩
    · rw [f_X3_firstWrong_L0, if_pos ((kI_le (by omega) (by omega)).mpr (by omega))]
    · rw [f_X4_wrongIn_L0, if_pos ((kI_le (by omega) (by omega)).mpr (by omega))]
  | d + 1, k, f + 1, f' + 1, B2, t, y, j, hk, hf, hf', hB => by
    have h16 := j.p16
    obtain ⟨t1, y1, z, hz, l1, l2, e1, e2, j1⟩ := j.turn hp hL (by omega)
    have g0 : inB 0 16 = true := inBT (a := 0) (by decide) (by decide)
    have g1 : inB (kI k) 40 = true := inBT (by omega) (by decide)
    rw [f_X3_firstWrong_L0, f_X4_wrongIn_L0, if_neg (kI_leF (by omega) (by omega) (by omega)), if_neg (kI_leF (by omega) (by omega) (by omega)), bsm (ok.el (i := k) (by omega)), bsm e1, if_pos g1, if_pos g0, z0, l2, kI_nat (by omega), show kI k + 1 = kI (k + 1) from kI_add k 1]
    by_cases c : lg_cmp (sv.2.2.2.2.2 a k) (kI z).toInt64 = 0
    · rw [if_pos c, if_pos c, bsm e2]
      exact wrL ok hn hp hL d (k + 1) f f' j1 (by omega) (by omega) (by omega) (by omega)
    · rw [if_neg c, if_neg c]
      exact ⟨_, _, _, rfl, rfl⟩
theorem J.wrong {t y : ShT} {a n : Nat} (ok : RowOk sl sv a n) (hn : n ≤ 40) (hp : 0 < p) (hL : 0 < L) (j : J p L B t y) (hB : B + 40 < 1000000000) : ∃ r t' y', f_X3_firstWrong (kI n) a t sl = some (r, t') ∧ f_X4_wrongIn (kI n) y (sv.2.2.2.2.2 a) = some (r, y') :=
  wrL ok hn hp hL n 0 fuel0 fuel0 j (by omega) (by unfold fuel0; omega) (by unfold fuel0; omega) (by omega)
theorem s_judge (hJ : J p L B tr sp) (h : SL L sl sv) (hB : B + 40 < 1000000000) (hr : RF rf mf) (a0 a1 : Int32) {th : ShT} {tb : Bool} {tp : ShT} {tf : AI} : T3 (f_X3_judge a0 a1 tr th sl rf) (f_X4_judge a0 a1 sp sv mf tb tp tf) := by
  unfold f_X3_judge f_X4_judge
  rcases slate hJ h hr a0 a1 with ⟨a, n, ha, hn, rfl, rfl, e1, e2, hp, hL, ok⟩ | ⟨i, rf', mf', hi, hne, e1, e2, e3, h'⟩
  rotate_left
  · rw [bsm e1, bsm e3, if_neg hne, if_neg hne, bsm e2]
    exact ⟨_, _, _, _, _, _, _, rfl, rfl, h'⟩
  obtain ⟨t1, x1, g1, f1, f2, j⟩ := hJ.fresh th tb tp tf
  obtain ⟨r, t', y', w1, w2⟩ := j.wrong ok hn hp hL hB
  have g : inB (kI a) 8 = true := inBT ha (by decide)
  rw [bsm e1, bsm e2, if_pos rfl, if_pos rfl, bsm f1, bsm f2]
  simp only [g, ↓reduceIte]
  rw [kI_nat (by omega), bsm w1, bsm w2]
  exact T3s hr
theorem fitL (hJ : J p L B tr sp) (hB : B + 40 < 1000000000) (hr : RF rf mf) {a n : Nat} (ha : a < 8) (ok : RowOk sl sv a n) (hn : n ≤ 40) (hp : 0 < p) (hL : 0 < L) : ∀ (d k f f' : Nat) (v : Int32) (th : ShT) (tb : Bool) (tp : ShT) (tf : AI), k + d = L → d < f → d < f' → T3 (f_X3_fits_L0 (kI a) (kI n) tr sl f v (kI k) th rf) (f_X4_fits_L0 (kI a) (kI n) sp sv f' v (kI k) mf tb tp tf)
  | _, _, 0, _, _, _, _, _, _, _, h, _ => by omega
  | _, _, _, 0, _, _, _, _, _, _, _, h => by omega
  | 0, k, f + 1, f' + 1, v, th, tb, tp, tf, hk, _, _ => by
    have h6 := hJ.l6
    rw [f_X3_fits_L0, f_X4_fits_L0, hJ.LL.1, hJ.LL.2, if_pos ((kI_le (by omega) (by omega)).mpr (by omega)), if_pos ((kI_le (by omega) (by omega)).mpr (by omega))]
    exact T3s hr
  | d + 1, k, f + 1, f' + 1, v, th, tb, tp, tf, hk, hf, hf' => by
    have h6 := hJ.l6
    have g : inB (kI a) 8 = true := inBT ha (by decide)
    obtain ⟨t1, x1, g1, e1, e2, j⟩ := hJ.by th tb tp tf (f := k) (by omega)
    obtain ⟨r, t', y', w1, w2⟩ := j.wrong ok hn hp hL hB
    rw [f_X3_fits_L0, f_X4_fits_L0, hJ.LL.1, hJ.LL.2, if_neg (kI_leF (by omega) (by omega) (by omega)), if_neg (kI_leF (by omega) (by omega) (by omega)), bsm e1, bsm e2, if_pos g, if_pos g]
    dsimp only
    rw [kI_nat (by omega), bsm w1, bsm w2, show kI k + 1 = kI (k + 1) from kI_add k 1, Int32.or_zero]
    dsimp only
    by_cases c : r = -1
    · rw [if_pos c, if_pos c]
      exact fitL hJ hB hr ha ok hn hp hL d (k + 1) f f' _ _ _ _ _ (by omega) (by omega) (by omega)
    · rw [if_neg c, if_neg c]
      exact fitL hJ hB hr ha ok hn hp hL d (k + 1) f f' _ _ _ _ _ (by omega) (by omega) (by omega)
theorem s_fits (hJ : J p L B tr sp) (h : SL L sl sv) (hB : B + 40 < 1000000000) (hr : RF rf mf) (a0 a1 : Int32) {th : ShT} {tb : Bool} {tp : ShT} {tf : AI} : T3 (f_X3_fits a0 a1 tr th sl rf) (f_X4_fits a0 a1 sp sv mf tb tp tf) := by
  have h6 := hJ.l6
  unfold f_X3_fits f_X4_fits
  rcases slate hJ h hr a0 a1 with ⟨a, n, ha, hn, rfl, rfl, e1, e2, hp, hL, ok⟩ | ⟨i, rf', mf', hi, hne, e1, e2, e3, h'⟩
  rotate_left
  · rw [bsm e1, bsm e3, if_neg hne, if_neg hne, bsm e2]
    exact ⟨_, _, _, _, _, _, _, rfl, rfl, h'⟩
  rw [bsm e1, bsm e2, if_pos rfl, if_pos rfl]
  exact fitL hJ hB hr ha ok hn hp hL L 0 fuel0 fuel0 0 th tb tp tf (by omega) (by unfold fuel0; omega) (by unfold fuel0; omega)
/-! after -/
theorem lg0 (e : Int64) (q : Int32) : (lg_cmp e 0 < 0 ↔ e.toInt < 0) ∧ (lg_cmp e q.toInt64 < 0 ↔ e.toInt < q.toInt) := by
  constructor
  · rw [lg_lt]; rfl
  · rw [lg_lt, Int32.toInt_toInt64]
theorem el32 {e : Int64} {q : Nat} (h0 : 0 ≤ e.toInt) (h1 : e.toInt < (q : Int)) (hq : q < 1000) : ∃ n, n < q ∧ e.toInt32 = kI n ∧ e.toInt = n := by
  obtain ⟨n, hn⟩ : ∃ n : Nat, e.toInt = n := ⟨e.toInt.toNat, by omega⟩
  refine ⟨n, by omega, ?_, hn⟩
  apply Int32.toInt_inj.mp
  rw [kI_toInt (by omega), Int64.toInt_toInt32, hn]
  rw [Int.bmod_def]
  omega
theorem aftL (hr : RF rf mf) {a n : Nat} (ha : a < 8) (ok : RowOk sl sv a n) (hn : n ≤ 40) (hp : 0 < p) (hq : sp.2.2.2.2.2.1 = kI p) {tf : AI} : ∀ (d k f f' : Nat) {B : Nat} {t y : ShT}, J p L B t y → k + d = n → d < f → d < f' → T3 (f_X3_after_L0 (kI a) (kI n) tr sl f (kI k) t rf) (f_X4_after_L0 (kI a) (kI n) sp sv f' (kI k) mf y tf)
  | _, _, 0, _, _, _, _, _, _, h, _ => by omega
  | _, _, _, 0, _, _, _, _, _, _, h => by omega
  | 0, k, f + 1, f' + 1, _, t, y, j, hk, _, _ => by
    have h16 := j.p16
    have g0 : inB 0 16 = true := inBT (a := 0) (by decide) (by decide)
    obtain ⟨x, hx, l1, l2⟩ := j.lin hp
    rw [f_X3_after_L0, f_X4_after_L0, if_pos ((kI_le (by omega) (by omega)).mpr (by omega)), if_pos ((kI_le (by omega) (by omega)).mpr (by omega)), if_pos g0, z0, bsm (show f_X1_who 0 t = some (t.1 0) from j.who hp), l1, l2]
    exact T3s hr
  | d + 1, k, f + 1, f' + 1, B2, t, y, j, hk, hf, hf' => by
    have h16 := j.p16
    have g : inB (kI a) 8 = true := inBT ha (by decide)
    have g1 : inB (kI k) 40 = true := inBT (by omega) (by decide)
    obtain ⟨e, he⟩ : ∃ e, sv.2.2.2.2.2 a k = e := ⟨_, rfl⟩
    have hel := ok.el (i := k) (by omega)
    have p1 : (kI p - 1).toInt = (p : Int) - 1 := by
      rw [show kI p - 1 = kI (p - 1) from kI_sub (b := 1) (by omega), kI_toInt (by omega)]
      omega
    have p2 : (kI p - 2).toInt64.toInt = (p : Int) - 2 := by
      rw [Int32.toInt_toInt64]
      by_cases c : p = 1
      · subst c; rfl
      · rw [show kI p - 2 = kI (p - 2) from kI_sub (b := 2) (by omega), kI_toInt (by omega)]
        omega
    rw [he] at hel
    rw [f_X3_after_L0, f_X4_after_L0, if_neg (kI_leF (by omega) (by omega) (by omega)), if_neg (kI_leF (by omega) (by omega) (by omega))]
    simp only [g, g1, ↓reduceIte]
    rw [kI_nat (n := a) (by omega), kI_nat (n := k) (by omega), bsm hel, he, M4_in, hq, p2, j.pp.1, show (0 : Int64).toInt = 0 from rfl, show kI k + 1 = kI (k + 1) from kI_add k 1]
    obtain ⟨q1, q2⟩ := lg0 e (kI p - 1)
    by_cases c : e.toInt < 0
    · rw [if_pos (q1.mpr c), if_neg (by omega), Option.bind_some, if_pos rfl]
      exact T3r hr 3 (by decide) rfl
    · rw [if_neg (fun h => c (q1.mp h))]
      by_cases c2 : e.toInt < (p : Int) - 1
      · obtain ⟨x, hx, e32, ex⟩ := el32 (e := e) (q := p - 1) (by omega) (by omega) (by omega)
        obtain ⟨s', m', z, hz, b1, b2, b3, j1⟩ := j.letb (a := x) (by omega)
        rw [if_pos (q2.mpr (by rw [p1]; exact c2)), if_pos (by omega), Option.bind_some, if_neg one_ne, e32, bsm b1, bsm b2]
        exact aftL hr ha ok hn hp hq d (k + 1) f f' j1 (by omega) (by omega) (by omega)
      · rw [if_neg (fun h => c2 (by rw [← p1]; exact q2.mp h)), if_neg (by omega), Option.bind_some, if_pos rfl]
        exact T3r hr 3 (by decide) rfl
theorem s_after (hJ : J p L B tr sp) (h : SL L sl sv) (hr : RF rf mf) (a0 a1 : Int32) {th : ShT} {tb : Bool} {tp : ShT} {tf : AI} : T3 (f_X3_after a0 a1 tr th sl rf) (f_X4_after a0 a1 sp sv mf tb tp tf) := by
  unfold f_X3_after f_X4_after
  rcases slate hJ h hr a0 a1 with ⟨a, n, ha, hn, rfl, rfl, e1, e2, hp, hL, ok⟩ | ⟨i, rf', mf', hi, hne, e1, e2, e3, h'⟩
  rotate_left
  · rw [bsm e1, bsm e3, if_neg hne, if_neg hne, bsm e2]
    exact ⟨_, _, _, _, _, _, _, rfl, rfl, h'⟩
  obtain ⟨t1, x1, g1, f1, f2, j⟩ := hJ.fresh th tb tp tf
  rw [bsm e1, bsm e2, if_pos rfl, if_pos rfl, bsm f1, bsm f2]
  exact aftL hr ha ok hn hp hJ.pp.2 n 0 fuel0 fuel0 j (by omega) (by unfold fuel0; omega) (by unfold fuel0; omega)
/-! pushes -/
theorem freshR {m : ShT} {ln ct la kd am : Nat → Nat} {fc : Nat} {tu se : Int32} (R : Rs m p ln ct la L kd am fc tu se) (h16 : p ≤ 16) (h6 : L ≤ 6) (tb : Bool) (x : ShT) (f : AI) : ∃ x' f', f_X4_fresh m tb x f = some (x', f') ∧ Rs x' p ln ct la L kd am fc tu se := by
  cases tb with
  | true =>
    obtain ⟨x', e', r⟩ := M4_takeFrom R h16 h6 x
    exact ⟨x', f, by unfold f_X4_fresh; rw [if_pos rfl, bsm e'], r⟩
  | false =>
    obtain ⟨x', e', r⟩ := M4_takeFrom R h16 h6 nSh
    exact ⟨x', zI, by unfold f_X4_fresh; rw [if_neg (by decide), bsm e'], r⟩
theorem n10 : ¬ (1 : Nat) = 0 := by decide
def TP (mf : AI) (x : Option (Int32 × ShT)) (y : Option (Int32 × AI × Bool × ShT × AI)) : Prop := ∃ r th tp tf, x = some (r, th) ∧ y = some (r, mf, true, tp, tf)
theorem mg_same (q t : Nat) : mg q q t = t := by
  unfold mg
  by_cases c : t = q
  · rw [if_pos c, c]
  · rw [if_neg c, if_pos (Nat.le_refl _), if_neg (by omega)]
section PSH
variable {ln ct la kd am : Nat → Nat} {fc : Nat} {tu se : Int32}
theorem pshI (R : Rs tr p ln ct la L kd am fc tu se) (R' : Rs sp p ln ct la L kd am fc tu se) (v : Vs p ln ct la L kd am fc B) (hB : B + 40 < 1000000000) {a n : Nat} (ha : a < 8) (ok : RowOk sl sv a n) (hn : n ≤ 40) (hp : 0 < p) (hL : 0 < L) {r0 : Int32} {t0 : ShT} (w0 : f_X3_firstWrong (kI n) a tr sl = some (r0, t0)) (hr0 : ¬ r0 = -1) {i N : Nat} (hi : i < p) (next : ∀ f f' t y g, N < f → N < f' → TP mf (f_X3_firstPush_L0 (kI n) a tr sl f 0 (kI (ln i + 1)) 0 0 t) (f_X4_pushed_L0 (kI a) (kI n) sp sv f' 0 (kI (ln i + 1)) 0 mf y g)) : ∀ (d k f f' : Nat) (t y : ShT) (g : AI), k + d = p → N + d + 1 < f → N + d + 1 < f' → TP mf (f_X3_firstPush_L0 (kI n) a tr sl f 1 (kI (ln i)) (kI i) (kI k) t) (f_X4_pushed_L0 (kI a) (kI n) sp sv f' 1 (kI (ln i)) (kI k) mf y g)
  | _, _, 0, _, _, _, _, _, h, _ => by omega
  | _, _, _, 0, _, _, _, _, _, h => by omega
  | 0, k, f + 1, f' + 1, t, y, g, hk, hf, hf' => by
    have h16 := v.1
    have hx := (v.2.2.1 i hi).1
    rw [f_X3_firstPush_L0, f_X4_pushed_L0, R.pE, R'.pE, if_neg n10, if_neg n10, if_pos ((kI_le (by omega) (by omega)).mpr (by omega)), if_pos ((kI_le (by omega) (by omega)).mpr (by omega)), show kI (ln i) + 1 = kI (ln i + 1) from kI_add _ 1]
    exact next f f' t y g (by omega) (by omega)
  | d + 1, k, f + 1, f' + 1, t, y, g, hk, hf, hf' => by
    have h16 := v.1
    have h6 := v.2.1
    have hx := (v.2.2.1 i hi).1
    have gA : inB (kI a) 8 = true := inBT ha (by decide)
    obtain ⟨y1, g1, f2, r1⟩ := freshR R' h16 h6 true y g
    obtain ⟨y2, f4, r2⟩ := M4_movesTo r1 v hi (q := k) (by omega)
    rw [f_X3_firstPush_L0, f_X4_pushed_L0, R.pE, R'.pE, if_neg n10, if_neg n10, if_neg (kI_leF (by omega) (by omega) (by omega)), if_neg (kI_leF (by omega) (by omega) (by omega)), if_kI (by omega) (by omega), bsm f2, bsm f4, if_pos gA, kI_nat (by omega), show kI k + 1 = kI (k + 1) from kI_add k 1]
    by_cases c : k = i
    · have jj : J p L B tr y2 := by
        subst c
        rw [show (fun t => ln (mg k k t)) = ln from funext fun t => by rw [mg_same]] at r2
        exact ⟨_, _, _, _, _, _, _, _, R, r2, v⟩
      obtain ⟨r, t', y', w1, w2⟩ := jj.wrong ok hn hp hL hB
      have er : r = r0 := by
        rw [w0] at w1
        exact (Prod.mk.inj (Option.some.inj w1)).1.symm
      rw [if_pos c, bsm w2]
      dsimp only
      rw [if_neg (by rw [er]; exact hr0)]
      exact pshI R R' v hB ha ok hn hp hL w0 hr0 hi next d (k + 1) f f' _ _ _ (by omega) (by omega) (by omega)
    · obtain ⟨t1, f1, q1⟩ := X1_become R h16 h6 t
      obtain ⟨t2, f3, q2⟩ := X1_move q1 v hi (q := k) (by omega)
      have jj : J p L B t2 y2 := ⟨_, _, _, _, _, _, _, _, q2, r2, V_move v hi (by omega)⟩
      obtain ⟨r, t', y', w1, w2⟩ := jj.wrong ok hn hp hL hB
      rw [if_neg c, bsm f1, bsm f3, bsm w1, bsm w2]
      dsimp only
      by_cases c2 : r = -1
      · rw [if_pos c2, if_pos c2]
        exact ⟨_, _, _, _, rfl, rfl⟩
      · rw [if_neg c2, if_neg c2]
        exact pshI R R' v hB ha ok hn hp hL w0 hr0 hi next d (k + 1) f f' _ _ _ (by omega) (by omega) (by omega)
theorem pshO (R : Rs tr p ln ct la L kd am fc tu se) (R' : Rs sp p ln ct la L kd am fc tu se) (v : Vs p ln ct la L kd am fc B) (hB : B + 40 < 1000000000) {a n : Nat} (ha : a < 8) (ok : RowOk sl sv a n) (hn : n ≤ 40) (hp : 0 < p) (hL : 0 < L) {r0 : Int32} {t0 : ShT} (w0 : f_X3_firstWrong (kI n) a tr sl = some (r0, t0)) (hr0 : ¬ r0 = -1) : ∀ (d x f f' : Nat) (t y : ShT) (g : AI), x + d = p → 20 * d < f → 20 * d < f' → TP mf (f_X3_firstPush_L0 (kI n) a tr sl f 0 (kI x) 0 0 t) (f_X4_pushed_L0 (kI a) (kI n) sp sv f' 0 (kI x) 0 mf y g)
  | _, _, 0, _, _, _, _, _, h, _ => by omega
  | _, _, _, 0, _, _, _, _, _, h => by omega
  | 0, x, f + 1, f' + 1, t, y, g, hk, hf, hf' => by
    have h16 := v.1
    rw [f_X3_firstPush_L0, f_X4_pushed_L0, R.pE, R'.pE, if_pos rfl, if_pos rfl, if_pos ((kI_le (by omega) (by omega)).mpr (by omega)), if_pos ((kI_le (by omega) (by omega)).mpr (by omega))]
    exact ⟨_, _, _, _, rfl, rfl⟩
  | d + 1, x, f + 1, f' + 1, t, y, g, hk, hf, hf' => by
    have h16 := v.1
    obtain ⟨i, hi, ei⟩ := v.2.2.2.2.1 x (by omega)
    subst ei
    rw [f_X3_firstPush_L0, f_X4_pushed_L0, R.pE, R'.pE, if_pos rfl, if_pos rfl, if_neg (kI_leF (by omega) (by omega) (by omega)), if_neg (kI_leF (by omega) (by omega) (by omega)), bsm (X1_placeOf R v hi)]
    exact pshI R R' v hB ha ok hn hp hL w0 hr0 hi (N := 20 * d) (fun f f' t y g h1 h2 => pshO R R' v hB ha ok hn hp hL w0 hr0 d (ln i + 1) f f' t y g (by omega) h1 h2) p 0 f f' t y g (by omega) (by omega) (by omega)
end PSH
theorem s_pushed (hJ : J p L B tr sp) (h : SL L sl sv) (hB : B + 40 < 1000000000) (hr : RF rf mf) (a0 a1 : Int32) {th : ShT} {tb : Bool} {tp : ShT} {tf : AI} : T3 (f_X3_pushed a0 a1 tr th sl rf) (f_X4_pushed a0 a1 sp sv mf tb tp tf) := by
  unfold f_X3_pushed f_X4_pushed
  rcases slate hJ h hr a0 a1 with ⟨a, n, ha, hn, rfl, rfl, e1, e2, hp, hL, ok⟩ | ⟨i, rf', mf', hi, hne, e1, e2, e3, h'⟩
  rotate_left
  · rw [bsm e1, bsm e3, if_neg hne, if_neg hne, bsm e2]
    exact ⟨_, _, _, _, _, _, _, rfl, rfl, h'⟩
  have h16 := hJ.p16
  obtain ⟨ln, ct, la, kd, am, fc, tu, se, R, R', v⟩ := hJ
  obtain ⟨t1, f1, q1⟩ := X1_become R v.1 v.2.1 th
  obtain ⟨x1, g1, f2, q2⟩ := freshR R' v.1 v.2.1 tb tp tf
  have j1 : J p L B t1 x1 := ⟨_, _, _, _, _, _, _, _, q1, q2, v⟩
  have j2 : J p L B tr x1 := ⟨_, _, _, _, _, _, _, _, R, q2, v⟩
  obtain ⟨r, t', y', w1, w2⟩ := j1.wrong ok hn hp hL hB
  obtain ⟨r', t'', y'', w3, w4⟩ := j2.wrong ok hn hp hL hB
  have er : r' = r := by
    rw [w2] at w4
    exact (Prod.mk.inj (Option.some.inj w4)).1.symm
  subst er
  have g : inB (kI a) 8 = true := inBT ha (by decide)
  rw [bsm e1, bsm e2, if_pos rfl, if_pos rfl, bsm f1, bsm f2]
  simp only [g, ↓reduceIte]
  rw [kI_nat (by omega), bsm w1, bsm w2]
  dsimp only
  by_cases c : r' = -1
  · rw [if_pos c, if_pos c]
    exact T3s hr
  · rw [if_neg c, if_neg c]
    obtain ⟨q, tz, pz, fz, z1, z2⟩ := pshO (mf := mf) R R' v hB ha ok hn hp hL w3 c p 0 fuel0 fuel0 t' y' g1 (by omega) (by unfold fuel0; omega) (by unfold fuel0; omega)
    rw [bsm (show f_X3_firstPush (kI n) a tr t' sl = _ from z1)]
    exact ⟨_, _, _, _, _, _, _, rfl, z2, hr⟩
end SLT
