/-! ===== the steps of the law; written by wip/whole/steps.py ===== -/
def INV (c : Nat) (tr kp th ot : ShT) (tp : TpT) (sl : Nat → SlT) (pk rf : AI) (ik : Int32) (sp : ShT) (tk : TkT) (sv : SvT) (mf mo mn ma : AI) (kb tb : Bool) (tpm : ShT) (tfm : AI) (kpm : ShT) (kfm : AI) : Prop := ∃ p L, J p L (999 + 24750 * c) tr sp ∧ SL L sl sv ∧ RF rf mf ∧ TR tp tk ∧ (ik = if kb = true then 1 else 0) ∧ (kb = true → ∃ q Q, J q Q (999 + 24750 * c) kp kpm)
def NX (g : GT) (c bc bs : Nat) (i : Int32) : Prop := ∀ (tr kp th ot : ShT) (tp : TpT) (sl : Nat → SlT) (pk rf : AI) (ik : Int32) (sp : ShT) (tk : TkT) (sv : SvT) (mf mo mn ma : AI) (kb tb : Bool) (tpm : ShT) (tfm : AI) (kpm : ShT) (kfm : AI), INV (c + 1) tr kp th ot tp sl pk rf ik sp tk sv mf mo mn ma kb tb tpm tfm kpm kfm → g bc bs (lW tr kp th ot tp sl pk rf ik sp tk sv mf mo mn ma kb tb tpm tfm kpm kfm) 2016 [some (.ref 900), some (.ref 0), some (.ref 46), some (.int i)] []
theorem J.up {p L c : Nat} {s m : ShT} (h : J p L (999 + 24750 * c) s m) (hc : c < 512) : J p L (999 + 24750 * (c + 1)) s m := h.mono (by omega) (by omega)
def bz (a : Int32) : Int32 := if a = 0 then 0 else 1
theorem bz_ok (a : Int32) : (a = 0 ∧ bz a = 0) ∨ (¬ a = 0 ∧ bz a = 1) := by
  unfold bz
  by_cases c : a = 0
  · rw [if_pos c]; exact Or.inl ⟨c, rfl⟩
  · rw [if_neg c]; exact Or.inr ⟨c, rfl⟩
set_option maxHeartbeats 1000000 in
theorem st_0 {l : Launch} {D : va_G} {cT : Nat → ClassId} {b Ln : Nat} {xs : Nat → Int32} {g : GT} (M : ML l D cT b Ln xs g) (tr kp th ot : ShT) (tp : TpT) (sl : Nat → SlT) (pk rf : AI) (ik : Int32) (sp : ShT) (tk : TkT) (sv : SvT) (mf mo mn ma : AI) (kb tb : Bool) (tpm : ShT) (tfm : AI) (kpm : ShT) (kfm : AI) {bc bs c : Nat} (i : Int32) (hin : ∀ n, n ≤ 5 → inB (i + kI n) Ln = true) (hc : c < 512) (hB : bc + 26 ≤ 600000 ∧ bs + 1854 ≤ 7302250) (I : INV c tr kp th ot tp sl pk rf ik sp tk sv mf mo mn ma kb tb tpm tfm kpm kfm) (nx : NX g c (bc + 26) (bs + 1854) i) : g bc bs (lW tr kp th ot tp sl pk rf ik sp tk sv mf mo mn ma kb tb tpm tfm kpm kfm) 284 [some (.ref 900), some (.ref 0), some (.ref 46), some (.int i)] [] := by
  obtain ⟨p, L, hJ, hS, hr, hT, hi, hk⟩ := I
  have hk' : kb = true → ∃ q Q, J q Q (999 + 24750 * (c + 1)) kp kpm := fun h => by
    obtain ⟨q, Q, j⟩ := hk h
    exact ⟨q, Q, j.up hc⟩
  obtain ⟨r, x1, x2, y1, y2, e1, e2, hS2, hr'⟩ := (s_row hS hr _ _ _ : TS L (f_X3_row (xs (i + 1).toNatClampNeg) (xs (i + 2).toNatClampNeg) (xs (i + 3).toNatClampNeg) sl rf) (f_X4_row (xs (i + 1).toNatClampNeg) (xs (i + 2).toNatClampNeg) (xs (i + 3).toNatClampNeg) sv mf))
  exact lc_0 M tr kp th ot tp sl pk rf ik sp tk sv mf mo mn ma kb tb tpm tfm kpm kfm i (hin 1 (by decide)) rfl (hin 2 (by decide)) rfl (hin 3 (by decide)) rfl  e1 e2 rfl hB (nx _ _ _ _ _ _ _ _ _ _ _ _ _ _ _ _ _ _ _ _ _ _ ⟨p, L, hJ.up hc, hS2, hr', hT, hi, hk'⟩)
set_option maxHeartbeats 1000000 in
theorem st_1 {l : Launch} {D : va_G} {cT : Nat → ClassId} {b Ln : Nat} {xs : Nat → Int32} {g : GT} (M : ML l D cT b Ln xs g) (tr kp th ot : ShT) (tp : TpT) (sl : Nat → SlT) (pk rf : AI) (ik : Int32) (sp : ShT) (tk : TkT) (sv : SvT) (mf mo mn ma : AI) (kb tb : Bool) (tpm : ShT) (tfm : AI) (kpm : ShT) (kfm : AI) {bc bs c : Nat} (i : Int32) (hin : ∀ n, n ≤ 5 → inB (i + kI n) Ln = true) (hc : c < 512) (hB : bc + 26 ≤ 600000 ∧ bs + 1854 ≤ 7302250) (I : INV c tr kp th ot tp sl pk rf ik sp tk sv mf mo mn ma kb tb tpm tfm kpm kfm) (nx : NX g c (bc + 26) (bs + 1854) i) : g bc bs (lW tr kp th ot tp sl pk rf ik sp tk sv mf mo mn ma kb tb tpm tfm kpm kfm) 327 [some (.ref 900), some (.ref 0), some (.ref 46), some (.int i)] [] := by
  obtain ⟨p, L, hJ, hS, hr, hT, hi, hk⟩ := I
  have hk' : kb = true → ∃ q Q, J q Q (999 + 24750 * (c + 1)) kp kpm := fun h => by
    obtain ⟨q, Q, j⟩ := hk h
    exact ⟨q, Q, j.up hc⟩
  obtain ⟨r, x1, x2, y1, y2, e1, e2, hS2, hr'⟩ := (s_set hS hr _ _ _ : TS L (f_X3_set (xs (i + 1).toNatClampNeg) (xs (i + 2).toNatClampNeg) (((((xs (i + 3).toNatClampNeg)).toInt64) <<< ((32 : Int32).toInt64 &&& 63)) ||| ((((xs (i + 4).toNatClampNeg)).toInt64) &&& 4294967295)) sl rf) (f_X4_set (xs (i + 1).toNatClampNeg) (xs (i + 2).toNatClampNeg) (((((xs (i + 3).toNatClampNeg)).toInt64) <<< ((32 : Int32).toInt64 &&& 63)) ||| ((((xs (i + 4).toNatClampNeg)).toInt64) &&& 4294967295)) sv mf))
  exact lc_1 M tr kp th ot tp sl pk rf ik sp tk sv mf mo mn ma kb tb tpm tfm kpm kfm i (hin 1 (by decide)) rfl (hin 2 (by decide)) rfl (hin 3 (by decide)) rfl (hin 4 (by decide)) rfl  e1 e2 rfl hB (nx _ _ _ _ _ _ _ _ _ _ _ _ _ _ _ _ _ _ _ _ _ _ ⟨p, L, hJ.up hc, hS2, hr', hT, hi, hk'⟩)
set_option maxHeartbeats 1000000 in
theorem st_2 {l : Launch} {D : va_G} {cT : Nat → ClassId} {b Ln : Nat} {xs : Nat → Int32} {g : GT} (M : ML l D cT b Ln xs g) (tr kp th ot : ShT) (tp : TpT) (sl : Nat → SlT) (pk rf : AI) (ik : Int32) (sp : ShT) (tk : TkT) (sv : SvT) (mf mo mn ma : AI) (kb tb : Bool) (tpm : ShT) (tfm : AI) (kpm : ShT) (kfm : AI) {bc bs c : Nat} (i : Int32) (hin : ∀ n, n ≤ 5 → inB (i + kI n) Ln = true) (hc : c < 512) (hB : bc + 26 ≤ 600000 ∧ bs + 1854 ≤ 7302250) (I : INV c tr kp th ot tp sl pk rf ik sp tk sv mf mo mn ma kb tb tpm tfm kpm kfm) (nx : NX g c (bc + 26) (bs + 1854) i) : g bc bs (lW tr kp th ot tp sl pk rf ik sp tk sv mf mo mn ma kb tb tpm tfm kpm kfm) 400 [some (.ref 900), some (.ref 0), some (.ref 46), some (.int i)] [] := by
  obtain ⟨p, L, hJ, hS, hr, hT, hi, hk⟩ := I
  have hk' : kb = true → ∃ q Q, J q Q (999 + 24750 * (c + 1)) kp kpm := fun h => by
    obtain ⟨q, Q, j⟩ := hk h
    exact ⟨q, Q, j.up hc⟩
  obtain ⟨r, x1, x2, y1, y2, e1, e2, hS2, hr'⟩ := (s_copy hS hr _ _ _ _ _ : TS L (f_X3_copy (xs (i + 1).toNatClampNeg) (xs (i + 2).toNatClampNeg) (xs (i + 3).toNatClampNeg) (xs (i + 4).toNatClampNeg) (xs (i + 5).toNatClampNeg) sl rf) (f_X4_copy (xs (i + 1).toNatClampNeg) (xs (i + 2).toNatClampNeg) (xs (i + 3).toNatClampNeg) (xs (i + 4).toNatClampNeg) (xs (i + 5).toNatClampNeg) sv mf))
  exact lc_2 M tr kp th ot tp sl pk rf ik sp tk sv mf mo mn ma kb tb tpm tfm kpm kfm i (hin 1 (by decide)) rfl (hin 2 (by decide)) rfl (hin 3 (by decide)) rfl (hin 4 (by decide)) rfl (hin 5 (by decide)) rfl  e1 e2 rfl hB (nx _ _ _ _ _ _ _ _ _ _ _ _ _ _ _ _ _ _ _ _ _ _ ⟨p, L, hJ.up hc, hS2, hr', hT, hi, hk'⟩)
set_option maxHeartbeats 1000000 in
theorem st_3 {l : Launch} {D : va_G} {cT : Nat → ClassId} {b Ln : Nat} {xs : Nat → Int32} {g : GT} (M : ML l D cT b Ln xs g) (tr kp th ot : ShT) (tp : TpT) (sl : Nat → SlT) (pk rf : AI) (ik : Int32) (sp : ShT) (tk : TkT) (sv : SvT) (mf mo mn ma : AI) (kb tb : Bool) (tpm : ShT) (tfm : AI) (kpm : ShT) (kfm : AI) {bc bs c : Nat} (i : Int32) (hin : ∀ n, n ≤ 5 → inB (i + kI n) Ln = true) (hc : c < 512) (hB : bc + 26 ≤ 600000 ∧ bs + 1854 ≤ 7302250) (I : INV c tr kp th ot tp sl pk rf ik sp tk sv mf mo mn ma kb tb tpm tfm kpm kfm) (nx : NX g c (bc + 26) (bs + 1854) i) : g bc bs (lW tr kp th ot tp sl pk rf ik sp tk sv mf mo mn ma kb tb tpm tfm kpm kfm) 463 [some (.ref 900), some (.ref 0), some (.ref 46), some (.int i)] [] := by
  obtain ⟨p, L, hJ, hS, hr, hT, hi, hk⟩ := I
  have hk' : kb = true → ∃ q Q, J q Q (999 + 24750 * (c + 1)) kp kpm := fun h => by
    obtain ⟨q, Q, j⟩ := hk h
    exact ⟨q, Q, j.up hc⟩
  obtain ⟨r, e1, e2⟩ := (s_element hS _ _ : ∃ r, f_X3_element (xs (i + 1).toNatClampNeg) (xs (i + 2).toNatClampNeg) sl = some r ∧ f_X4_element (xs (i + 1).toNatClampNeg) (xs (i + 2).toNatClampNeg) sv = some r)
  exact lc_3 M tr kp th ot tp sl pk rf ik sp tk sv mf mo mn ma kb tb tpm tfm kpm kfm i (hin 1 (by decide)) rfl (hin 2 (by decide)) rfl  e1 e2 rfl hB (nx _ _ _ _ _ _ _ _ _ _ _ _ _ _ _ _ _ _ _ _ _ _ ⟨p, L, hJ.up hc, hS, hr, hT, hi, hk'⟩)
set_option maxHeartbeats 1000000 in
theorem st_4 {l : Launch} {D : va_G} {cT : Nat → ClassId} {b Ln : Nat} {xs : Nat → Int32} {g : GT} (M : ML l D cT b Ln xs g) (tr kp th ot : ShT) (tp : TpT) (sl : Nat → SlT) (pk rf : AI) (ik : Int32) (sp : ShT) (tk : TkT) (sv : SvT) (mf mo mn ma : AI) (kb tb : Bool) (tpm : ShT) (tfm : AI) (kpm : ShT) (kfm : AI) {bc bs c : Nat} (i : Int32) (hin : ∀ n, n ≤ 5 → inB (i + kI n) Ln = true) (hc : c < 512) (hB : bc + 26 ≤ 600000 ∧ bs + 1854 ≤ 7302250) (I : INV c tr kp th ot tp sl pk rf ik sp tk sv mf mo mn ma kb tb tpm tfm kpm kfm) (nx : NX g c (bc + 26) (bs + 1854) i) : g bc bs (lW tr kp th ot tp sl pk rf ik sp tk sv mf mo mn ma kb tb tpm tfm kpm kfm) 497 [some (.ref 900), some (.ref 0), some (.ref 46), some (.int i)] [] := by
  obtain ⟨p, L, hJ, hS, hr, hT, hi, hk⟩ := I
  have hk' : kb = true → ∃ q Q, J q Q (999 + 24750 * (c + 1)) kp kpm := fun h => by
    obtain ⟨q, Q, j⟩ := hk h
    exact ⟨q, Q, j.up hc⟩
  obtain ⟨r, e1, e2⟩ := (s_holds hS _ : ∃ r, f_X3_holds (xs (i + 1).toNatClampNeg) sl = some r ∧ f_X4_holds (xs (i + 1).toNatClampNeg) sv = some r)
  exact lc_4 M tr kp th ot tp sl pk rf ik sp tk sv mf mo mn ma kb tb tpm tfm kpm kfm i (hin 1 (by decide)) rfl  e1 e2 rfl hB (nx _ _ _ _ _ _ _ _ _ _ _ _ _ _ _ _ _ _ _ _ _ _ ⟨p, L, hJ.up hc, hS, hr, hT, hi, hk'⟩)
set_option maxHeartbeats 1000000 in
theorem st_5 {l : Launch} {D : va_G} {cT : Nat → ClassId} {b Ln : Nat} {xs : Nat → Int32} {g : GT} (M : ML l D cT b Ln xs g) (tr kp th ot : ShT) (tp : TpT) (sl : Nat → SlT) (pk rf : AI) (ik : Int32) (sp : ShT) (tk : TkT) (sv : SvT) (mf mo mn ma : AI) (kb tb : Bool) (tpm : ShT) (tfm : AI) (kpm : ShT) (kfm : AI) {bc bs c : Nat} (i : Int32) (hin : ∀ n, n ≤ 5 → inB (i + kI n) Ln = true) (hc : c < 512) (hB : bc + 26 ≤ 600000 ∧ bs + 1854 ≤ 7302250) (I : INV c tr kp th ot tp sl pk rf ik sp tk sv mf mo mn ma kb tb tpm tfm kpm kfm) (nx : NX g c (bc + 26) (bs + 1854) i) : g bc bs (lW tr kp th ot tp sl pk rf ik sp tk sv mf mo mn ma kb tb tpm tfm kpm kfm) 520 [some (.ref 900), some (.ref 0), some (.ref 46), some (.int i)] [] := by
  obtain ⟨p, L, hJ, hS, hr, hT, hi, hk⟩ := I
  have hk' : kb = true → ∃ q Q, J q Q (999 + 24750 * (c + 1)) kp kpm := fun h => by
    obtain ⟨q, Q, j⟩ := hk h
    exact ⟨q, Q, j.up hc⟩
  obtain ⟨r, x1, x2, y1, y2, e1, e2, hS2, hr'⟩ := (s_show hJ hS hr _ _ : TS L (f_X3_show (xs (i + 1).toNatClampNeg) (xs (i + 2).toNatClampNeg) tr sl rf) (f_X4_show (xs (i + 1).toNatClampNeg) (xs (i + 2).toNatClampNeg) sp sv mf))
  exact lc_5 M tr kp th ot tp sl pk rf ik sp tk sv mf mo mn ma kb tb tpm tfm kpm kfm i (hin 1 (by decide)) rfl (hin 2 (by decide)) rfl  e1 e2 rfl hB (nx _ _ _ _ _ _ _ _ _ _ _ _ _ _ _ _ _ _ _ _ _ _ ⟨p, L, hJ.up hc, hS2, hr', hT, hi, hk'⟩)
set_option maxHeartbeats 1000000 in
theorem st_6 {l : Launch} {D : va_G} {cT : Nat → ClassId} {b Ln : Nat} {xs : Nat → Int32} {g : GT} (M : ML l D cT b Ln xs g) (tr kp th ot : ShT) (tp : TpT) (sl : Nat → SlT) (pk rf : AI) (ik : Int32) (sp : ShT) (tk : TkT) (sv : SvT) (mf mo mn ma : AI) (kb tb : Bool) (tpm : ShT) (tfm : AI) (kpm : ShT) (kfm : AI) {bc bs c : Nat} (i : Int32) (hin : ∀ n, n ≤ 5 → inB (i + kI n) Ln = true) (hc : c < 512) (hB : bc + 26 ≤ 600000 ∧ bs + 1854 ≤ 7302250) (I : INV c tr kp th ot tp sl pk rf ik sp tk sv mf mo mn ma kb tb tpm tfm kpm kfm) (nx : NX g c (bc + 26) (bs + 1854) i) : g bc bs (lW tr kp th ot tp sl pk rf ik sp tk sv mf mo mn ma kb tb tpm tfm kpm kfm) 553 [some (.ref 900), some (.ref 0), some (.ref 46), some (.int i)] [] := by
  obtain ⟨p, L, hJ, hS, hr, hT, hi, hk⟩ := I
  have hk' : kb = true → ∃ q Q, J q Q (999 + 24750 * (c + 1)) kp kpm := fun h => by
    obtain ⟨q, Q, j⟩ := hk h
    exact ⟨q, Q, j.up hc⟩
  obtain ⟨r, x1, y1, e1, e2, hr'⟩ := (s_says hJ hS hr _ _ : T1 (f_X3_says (xs (i + 1).toNatClampNeg) (xs (i + 2).toNatClampNeg) tr sl rf) (f_X4_says (xs (i + 1).toNatClampNeg) (xs (i + 2).toNatClampNeg) sp sv mf))
  exact lc_6 M tr kp th ot tp sl pk rf ik sp tk sv mf mo mn ma kb tb tpm tfm kpm kfm i (hin 1 (by decide)) rfl (hin 2 (by decide)) rfl  e1 e2 rfl hB (nx _ _ _ _ _ _ _ _ _ _ _ _ _ _ _ _ _ _ _ _ _ _ ⟨p, L, hJ.up hc, hS, hr', hT, hi, hk'⟩)
set_option maxHeartbeats 1000000 in
theorem st_7 {l : Launch} {D : va_G} {cT : Nat → ClassId} {b Ln : Nat} {xs : Nat → Int32} {g : GT} (M : ML l D cT b Ln xs g) (tr kp th ot : ShT) (tp : TpT) (sl : Nat → SlT) (pk rf : AI) (ik : Int32) (sp : ShT) (tk : TkT) (sv : SvT) (mf mo mn ma : AI) (kb tb : Bool) (tpm : ShT) (tfm : AI) (kpm : ShT) (kfm : AI) {bc bs c : Nat} (i : Int32) (hin : ∀ n, n ≤ 5 → inB (i + kI n) Ln = true) (hc : c < 512) (hB : bc + 26 ≤ 600000 ∧ bs + 1854 ≤ 7302250) (I : INV c tr kp th ot tp sl pk rf ik sp tk sv mf mo mn ma kb tb tpm tfm kpm kfm) (nx : NX g c (bc + 26) (bs + 1854) i) : g bc bs (lW tr kp th ot tp sl pk rf ik sp tk sv mf mo mn ma kb tb tpm tfm kpm kfm) 586 [some (.ref 900), some (.ref 0), some (.ref 46), some (.int i)] [] := by
  obtain ⟨p, L, hJ, hS, hr, hT, hi, hk⟩ := I
  have hk' : kb = true → ∃ q Q, J q Q (999 + 24750 * (c + 1)) kp kpm := fun h => by
    obtain ⟨q, Q, j⟩ := hk h
    exact ⟨q, Q, j.up hc⟩
  obtain ⟨r, x1, y1, x2, y2, p2, L2, e1, e2, hJ2, hr', hl⟩ := (s_comes hJ hr : TM (999 + 24750 * c) L (f_X3_comes tr rf) (f_X4_comes sp mf))
  exact lc_7 M tr kp th ot tp sl pk rf ik sp tk sv mf mo mn ma kb tb tpm tfm kpm kfm i   e1 e2 rfl hB (nx _ _ _ _ _ _ _ _ _ _ _ _ _ _ _ _ _ _ _ _ _ _ ⟨p2, L2, hJ2.mono (by omega) (by omega), hS.mono hl, hr', hT, hi, hk'⟩)
set_option maxHeartbeats 1000000 in
theorem st_8 {l : Launch} {D : va_G} {cT : Nat → ClassId} {b Ln : Nat} {xs : Nat → Int32} {g : GT} (M : ML l D cT b Ln xs g) (tr kp th ot : ShT) (tp : TpT) (sl : Nat → SlT) (pk rf : AI) (ik : Int32) (sp : ShT) (tk : TkT) (sv : SvT) (mf mo mn ma : AI) (kb tb : Bool) (tpm : ShT) (tfm : AI) (kpm : ShT) (kfm : AI) {bc bs c : Nat} (i : Int32) (hin : ∀ n, n ≤ 5 → inB (i + kI n) Ln = true) (hc : c < 512) (hB : bc + 26 ≤ 600000 ∧ bs + 1854 ≤ 7302250) (I : INV c tr kp th ot tp sl pk rf ik sp tk sv mf mo mn ma kb tb tpm tfm kpm kfm) (nx : NX g c (bc + 26) (bs + 1854) i) : g bc bs (lW tr kp th ot tp sl pk rf ik sp tk sv mf mo mn ma kb tb tpm tfm kpm kfm) 599 [some (.ref 900), some (.ref 0), some (.ref 46), some (.int i)] [] := by
  obtain ⟨p, L, hJ, hS, hr, hT, hi, hk⟩ := I
  have hk' : kb = true → ∃ q Q, J q Q (999 + 24750 * (c + 1)) kp kpm := fun h => by
    obtain ⟨q, Q, j⟩ := hk h
    exact ⟨q, Q, j.up hc⟩
  obtain ⟨r, x1, y1, x2, y2, p2, L2, e1, e2, hJ2, hr', hl⟩ := (s_law hJ hr _ _ : TM (999 + 24750 * c) L (f_X3_law (xs (i + 1).toNatClampNeg) (xs (i + 2).toNatClampNeg) tr rf) (f_X4_law (xs (i + 1).toNatClampNeg) (xs (i + 2).toNatClampNeg) sp mf))
  exact lc_8 M tr kp th ot tp sl pk rf ik sp tk sv mf mo mn ma kb tb tpm tfm kpm kfm i (hin 1 (by decide)) rfl (hin 2 (by decide)) rfl  e1 e2 rfl hB (nx _ _ _ _ _ _ _ _ _ _ _ _ _ _ _ _ _ _ _ _ _ _ ⟨p2, L2, hJ2.mono (by omega) (by omega), hS.mono hl, hr', hT, hi, hk'⟩)
set_option maxHeartbeats 1000000 in
theorem st_9 {l : Launch} {D : va_G} {cT : Nat → ClassId} {b Ln : Nat} {xs : Nat → Int32} {g : GT} (M : ML l D cT b Ln xs g) (tr kp th ot : ShT) (tp : TpT) (sl : Nat → SlT) (pk rf : AI) (ik : Int32) (sp : ShT) (tk : TkT) (sv : SvT) (mf mo mn ma : AI) (kb tb : Bool) (tpm : ShT) (tfm : AI) (kpm : ShT) (kfm : AI) {bc bs c : Nat} (i : Int32) (hin : ∀ n, n ≤ 5 → inB (i + kI n) Ln = true) (hc : c < 512) (hB : bc + 26 ≤ 600000 ∧ bs + 1854 ≤ 7302250) (I : INV c tr kp th ot tp sl pk rf ik sp tk sv mf mo mn ma kb tb tpm tfm kpm kfm) (nx : NX g c (bc + 26) (bs + 1854) i) : g bc bs (lW tr kp th ot tp sl pk rf ik sp tk sv mf mo mn ma kb tb tpm tfm kpm kfm) 632 [some (.ref 900), some (.ref 0), some (.ref 46), some (.int i)] [] := by
  obtain ⟨p, L, hJ, hS, hr, hT, hi, hk⟩ := I
  have hk' : kb = true → ∃ q Q, J q Q (999 + 24750 * (c + 1)) kp kpm := fun h => by
    obtain ⟨q, Q, j⟩ := hk h
    exact ⟨q, Q, j.up hc⟩
  obtain ⟨r, x1, y1, x2, y2, p2, L2, e1, e2, hJ2, hr', hl⟩ := (s_use hJ hr _ : TM (999 + 24750 * c) L (f_X3_use (xs (i + 1).toNatClampNeg) tr rf) (f_X4_use (xs (i + 1).toNatClampNeg) sp mf))
  exact lc_9 M tr kp th ot tp sl pk rf ik sp tk sv mf mo mn ma kb tb tpm tfm kpm kfm i (hin 1 (by decide)) rfl  e1 e2 rfl hB (nx _ _ _ _ _ _ _ _ _ _ _ _ _ _ _ _ _ _ _ _ _ _ ⟨p2, L2, hJ2.mono (by omega) (by omega), hS.mono hl, hr', hT, hi, hk'⟩)
set_option maxHeartbeats 1000000 in
theorem st_10 {l : Launch} {D : va_G} {cT : Nat → ClassId} {b Ln : Nat} {xs : Nat → Int32} {g : GT} (M : ML l D cT b Ln xs g) (tr kp th ot : ShT) (tp : TpT) (sl : Nat → SlT) (pk rf : AI) (ik : Int32) (sp : ShT) (tk : TkT) (sv : SvT) (mf mo mn ma : AI) (kb tb : Bool) (tpm : ShT) (tfm : AI) (kpm : ShT) (kfm : AI) {bc bs c : Nat} (i : Int32) (hin : ∀ n, n ≤ 5 → inB (i + kI n) Ln = true) (hc : c < 512) (hB : bc + 26 ≤ 600000 ∧ bs + 1854 ≤ 7302250) (I : INV c tr kp th ot tp sl pk rf ik sp tk sv mf mo mn ma kb tb tpm tfm kpm kfm) (nx : NX g c (bc + 26) (bs + 1854) i) : g bc bs (lW tr kp th ot tp sl pk rf ik sp tk sv mf mo mn ma kb tb tpm tfm kpm kfm) 655 [some (.ref 900), some (.ref 0), some (.ref 46), some (.int i)] [] := by
  obtain ⟨p, L, hJ, hS, hr, hT, hi, hk⟩ := I
  have hk' : kb = true → ∃ q Q, J q Q (999 + 24750 * (c + 1)) kp kpm := fun h => by
    obtain ⟨q, Q, j⟩ := hk h
    exact ⟨q, Q, j.up hc⟩
  obtain ⟨r, x1, y1, x2, y2, p2, L2, e1, e2, hJ2, hr', hl⟩ := (s_tell hJ (by omega) hr _ _ _ : TM (999 + 24750 * c) L (f_X3_tell (xs (i + 1).toNatClampNeg) (xs (i + 2).toNatClampNeg) (xs (i + 3).toNatClampNeg) tr rf) (f_X4_tell (xs (i + 1).toNatClampNeg) (xs (i + 2).toNatClampNeg) (xs (i + 3).toNatClampNeg) sp mf))
  exact lc_10 M tr kp th ot tp sl pk rf ik sp tk sv mf mo mn ma kb tb tpm tfm kpm kfm i (hin 1 (by decide)) rfl (hin 2 (by decide)) rfl (hin 3 (by decide)) rfl  e1 e2 rfl hB (nx _ _ _ _ _ _ _ _ _ _ _ _ _ _ _ _ _ _ _ _ _ _ ⟨p2, L2, hJ2.mono (by omega) (by omega), hS.mono hl, hr', hT, hi, hk'⟩)
set_option maxHeartbeats 1000000 in
theorem st_11 {l : Launch} {D : va_G} {cT : Nat → ClassId} {b Ln : Nat} {xs : Nat → Int32} {g : GT} (M : ML l D cT b Ln xs g) (tr kp th ot : ShT) (tp : TpT) (sl : Nat → SlT) (pk rf : AI) (ik : Int32) (sp : ShT) (tk : TkT) (sv : SvT) (mf mo mn ma : AI) (kb tb : Bool) (tpm : ShT) (tfm : AI) (kpm : ShT) (kfm : AI) {bc bs c : Nat} (i : Int32) (hin : ∀ n, n ≤ 5 → inB (i + kI n) Ln = true) (hc : c < 512) (hB : bc + 26 ≤ 600000 ∧ bs + 1854 ≤ 7302250) (I : INV c tr kp th ot tp sl pk rf ik sp tk sv mf mo mn ma kb tb tpm tfm kpm kfm) (nx : NX g c (bc + 26) (bs + 1854) i) : g bc bs (lW tr kp th ot tp sl pk rf ik sp tk sv mf mo mn ma kb tb tpm tfm kpm kfm) 698 [some (.ref 900), some (.ref 0), some (.ref 46), some (.int i)] [] := by
  obtain ⟨p, L, hJ, hS, hr, hT, hi, hk⟩ := I
  have hk' : kb = true → ∃ q Q, J q Q (999 + 24750 * (c + 1)) kp kpm := fun h => by
    obtain ⟨q, Q, j⟩ := hk h
    exact ⟨q, Q, j.up hc⟩
  obtain ⟨r, x1, x2, y1, y2, e1, e2, hT2, hr'⟩ := (s_feed hT hr _ : ∃ r tp' rf' tk' mf', f_X3_feed (xs (i + 1).toNatClampNeg) tp rf = some (r, tp', rf') ∧ f_X4_feed (xs (i + 1).toNatClampNeg) tk mf = some (r, tk', mf') ∧ TR tp' tk' ∧ RF rf' mf')
  exact lc_11 M tr kp th ot tp sl pk rf ik sp tk sv mf mo mn ma kb tb tpm tfm kpm kfm i (hin 1 (by decide)) rfl  e1 e2 rfl hB (nx _ _ _ _ _ _ _ _ _ _ _ _ _ _ _ _ _ _ _ _ _ _ ⟨p, L, hJ.up hc, hS, hr', hT2, hi, hk'⟩)
set_option maxHeartbeats 1000000 in
theorem st_12 {l : Launch} {D : va_G} {cT : Nat → ClassId} {b Ln : Nat} {xs : Nat → Int32} {g : GT} (M : ML l D cT b Ln xs g) (tr kp th ot : ShT) (tp : TpT) (sl : Nat → SlT) (pk rf : AI) (ik : Int32) (sp : ShT) (tk : TkT) (sv : SvT) (mf mo mn ma : AI) (kb tb : Bool) (tpm : ShT) (tfm : AI) (kpm : ShT) (kfm : AI) {bc bs c : Nat} (i : Int32) (hin : ∀ n, n ≤ 5 → inB (i + kI n) Ln = true) (hc : c < 512) (hB : bc + 26 ≤ 600000 ∧ bs + 1854 ≤ 7302250) (I : INV c tr kp th ot tp sl pk rf ik sp tk sv mf mo mn ma kb tb tpm tfm kpm kfm) (nx : NX g c (bc + 26) (bs + 1854) i) : g bc bs (lW tr kp th ot tp sl pk rf ik sp tk sv mf mo mn ma kb tb tpm tfm kpm kfm) 721 [some (.ref 900), some (.ref 0), some (.ref 46), some (.int i)] [] := by
  obtain ⟨p, L, hJ, hS, hr, hT, hi, hk⟩ := I
  have hk' : kb = true → ∃ q Q, J q Q (999 + 24750 * (c + 1)) kp kpm := fun h => by
    obtain ⟨q, Q, j⟩ := hk h
    exact ⟨q, Q, j.up hc⟩
  obtain ⟨r, x1, y1, e1, e2, hT2⟩ := (s_wipe hT : ∃ r tp' tk', f_X3_wipe tp = some (r, tp') ∧ f_X4_wipe tk = some (r, tk') ∧ TR tp' tk')
  exact lc_12 M tr kp th ot tp sl pk rf ik sp tk sv mf mo mn ma kb tb tpm tfm kpm kfm i   e1 e2 rfl hB (nx _ _ _ _ _ _ _ _ _ _ _ _ _ _ _ _ _ _ _ _ _ _ ⟨p, L, hJ.up hc, hS, hr, hT2, hi, hk'⟩)
set_option maxHeartbeats 1000000 in
theorem st_13 {l : Launch} {D : va_G} {cT : Nat → ClassId} {b Ln : Nat} {xs : Nat → Int32} {g : GT} (M : ML l D cT b Ln xs g) (tr kp th ot : ShT) (tp : TpT) (sl : Nat → SlT) (pk rf : AI) (ik : Int32) (sp : ShT) (tk : TkT) (sv : SvT) (mf mo mn ma : AI) (kb tb : Bool) (tpm : ShT) (tfm : AI) (kpm : ShT) (kfm : AI) {bc bs c : Nat} (i : Int32) (hin : ∀ n, n ≤ 5 → inB (i + kI n) Ln = true) (hc : c < 512) (hB : bc + 26 ≤ 600000 ∧ bs + 1854 ≤ 7302250) (I : INV c tr kp th ot tp sl pk rf ik sp tk sv mf mo mn ma kb tb tpm tfm kpm kfm) (nx : NX g c (bc + 26) (bs + 1854) i) : g bc bs (lW tr kp th ot tp sl pk rf ik sp tk sv mf mo mn ma kb tb tpm tfm kpm kfm) 734 [some (.ref 900), some (.ref 0), some (.ref 46), some (.int i)] [] := by
  obtain ⟨p, L, hJ, hS, hr, hT, hi, hk⟩ := I
  have hk' : kb = true → ∃ q Q, J q Q (999 + 24750 * (c + 1)) kp kpm := fun h => by
    obtain ⟨q, Q, j⟩ := hk h
    exact ⟨q, Q, j.up hc⟩
  obtain ⟨r, x1, x2, x3, x4, y1, y2, y3, y4, y5, p2, L2, e1, e2, hJ2, hT2, hr', hl⟩ := (s_shop hJ hT hr (by omega) (by omega) : TSh (999 + 24750 * c + 99 * 250) L (f_X3_shop tr th tp rf) (f_X4_shop sp tk mf tb tpm tfm))
  exact lc_13 M tr kp th ot tp sl pk rf ik sp tk sv mf mo mn ma kb tb tpm tfm kpm kfm i   e1 e2 rfl hB (nx _ _ _ _ _ _ _ _ _ _ _ _ _ _ _ _ _ _ _ _ _ _ ⟨p2, L2, hJ2.mono (by omega) (by omega), hS.mono hl, hr', hT2, hi, hk'⟩)
set_option maxHeartbeats 1000000 in
theorem st_14 {l : Launch} {D : va_G} {cT : Nat → ClassId} {b Ln : Nat} {xs : Nat → Int32} {g : GT} (M : ML l D cT b Ln xs g) (tr kp th ot : ShT) (tp : TpT) (sl : Nat → SlT) (pk rf : AI) (ik : Int32) (sp : ShT) (tk : TkT) (sv : SvT) (mf mo mn ma : AI) (kb tb : Bool) (tpm : ShT) (tfm : AI) (kpm : ShT) (kfm : AI) {bc bs c : Nat} (i : Int32) (hin : ∀ n, n ≤ 5 → inB (i + kI n) Ln = true) (hc : c < 512) (hB : bc + 26 ≤ 600000 ∧ bs + 1854 ≤ 7302250) (I : INV c tr kp th ot tp sl pk rf ik sp tk sv mf mo mn ma kb tb tpm tfm kpm kfm) (nx : NX g c (bc + 26) (bs + 1854) i) : g bc bs (lW tr kp th ot tp sl pk rf ik sp tk sv mf mo mn ma kb tb tpm tfm kpm kfm) 747 [some (.ref 900), some (.ref 0), some (.ref 46), some (.int i)] [] := by
  obtain ⟨p, L, hJ, hS, hr, hT, hi, hk⟩ := I
  have hk' : kb = true → ∃ q Q, J q Q (999 + 24750 * (c + 1)) kp kpm := fun h => by
    obtain ⟨q, Q, j⟩ := hk h
    exact ⟨q, Q, j.up hc⟩
  obtain ⟨r, x1, y1, e1, e2, hr'⟩ := (s_personOf hJ hr _ _ : T1 (f_X3_personOf (xs (i + 1).toNatClampNeg) (xs (i + 2).toNatClampNeg) tr rf) (f_X4_personOf (xs (i + 1).toNatClampNeg) (xs (i + 2).toNatClampNeg) sp mf))
  exact lc_14 M tr kp th ot tp sl pk rf ik sp tk sv mf mo mn ma kb tb tpm tfm kpm kfm i (hin 1 (by decide)) rfl (hin 2 (by decide)) rfl  e1 e2 rfl hB (nx _ _ _ _ _ _ _ _ _ _ _ _ _ _ _ _ _ _ _ _ _ _ ⟨p, L, hJ.up hc, hS, hr', hT, hi, hk'⟩)
set_option maxHeartbeats 1000000 in
theorem st_15 {l : Launch} {D : va_G} {cT : Nat → ClassId} {b Ln : Nat} {xs : Nat → Int32} {g : GT} (M : ML l D cT b Ln xs g) (tr kp th ot : ShT) (tp : TpT) (sl : Nat → SlT) (pk rf : AI) (ik : Int32) (sp : ShT) (tk : TkT) (sv : SvT) (mf mo mn ma : AI) (kb tb : Bool) (tpm : ShT) (tfm : AI) (kpm : ShT) (kfm : AI) {bc bs c : Nat} (i : Int32) (hin : ∀ n, n ≤ 5 → inB (i + kI n) Ln = true) (hc : c < 512) (hB : bc + 26 ≤ 600000 ∧ bs + 1854 ≤ 7302250) (I : INV c tr kp th ot tp sl pk rf ik sp tk sv mf mo mn ma kb tb tpm tfm kpm kfm) (nx : NX g c (bc + 26) (bs + 1854) i) : g bc bs (lW tr kp th ot tp sl pk rf ik sp tk sv mf mo mn ma kb tb tpm tfm kpm kfm) 780 [some (.ref 900), some (.ref 0), some (.ref 46), some (.int i)] [] := by
  obtain ⟨p, L, hJ, hS, hr, hT, hi, hk⟩ := I
  have hk' : kb = true → ∃ q Q, J q Q (999 + 24750 * (c + 1)) kp kpm := fun h => by
    obtain ⟨q, Q, j⟩ := hk h
    exact ⟨q, Q, j.up hc⟩
  obtain ⟨r, x1, y1, e1, e2, hr'⟩ := (s_lawOf hJ hr _ _ : T1 (f_X3_lawOf (xs (i + 1).toNatClampNeg) (xs (i + 2).toNatClampNeg) tr rf) (f_X4_lawOf (xs (i + 1).toNatClampNeg) (xs (i + 2).toNatClampNeg) sp mf))
  exact lc_15 M tr kp th ot tp sl pk rf ik sp tk sv mf mo mn ma kb tb tpm tfm kpm kfm i (hin 1 (by decide)) rfl (hin 2 (by decide)) rfl  e1 e2 rfl hB (nx _ _ _ _ _ _ _ _ _ _ _ _ _ _ _ _ _ _ _ _ _ _ ⟨p, L, hJ.up hc, hS, hr', hT, hi, hk'⟩)
set_option maxHeartbeats 1000000 in
theorem st_16 {l : Launch} {D : va_G} {cT : Nat → ClassId} {b Ln : Nat} {xs : Nat → Int32} {g : GT} (M : ML l D cT b Ln xs g) (tr kp th ot : ShT) (tp : TpT) (sl : Nat → SlT) (pk rf : AI) (ik : Int32) (sp : ShT) (tk : TkT) (sv : SvT) (mf mo mn ma : AI) (kb tb : Bool) (tpm : ShT) (tfm : AI) (kpm : ShT) (kfm : AI) {bc bs c : Nat} (i : Int32) (hin : ∀ n, n ≤ 5 → inB (i + kI n) Ln = true) (hc : c < 512) (hB : bc + 26 ≤ 600000 ∧ bs + 1854 ≤ 7302250) (I : INV c tr kp th ot tp sl pk rf ik sp tk sv mf mo mn ma kb tb tpm tfm kpm kfm) (nx : NX g c (bc + 26) (bs + 1854) i) : g bc bs (lW tr kp th ot tp sl pk rf ik sp tk sv mf mo mn ma kb tb tpm tfm kpm kfm) 813 [some (.ref 900), some (.ref 0), some (.ref 46), some (.int i)] [] := by
  obtain ⟨p, L, hJ, hS, hr, hT, hi, hk⟩ := I
  have hk' : kb = true → ∃ q Q, J q Q (999 + 24750 * (c + 1)) kp kpm := fun h => by
    obtain ⟨q, Q, j⟩ := hk h
    exact ⟨q, Q, j.up hc⟩
  obtain ⟨r, x1, y1, e1, e2, hr'⟩ := (s_at hJ hr _ : T1 (f_X3_at (xs (i + 1).toNatClampNeg) tr rf) (f_X4_at (xs (i + 1).toNatClampNeg) sp mf))
  exact lc_16 M tr kp th ot tp sl pk rf ik sp tk sv mf mo mn ma kb tb tpm tfm kpm kfm i (hin 1 (by decide)) rfl  e1 e2 rfl hB (nx _ _ _ _ _ _ _ _ _ _ _ _ _ _ _ _ _ _ _ _ _ _ ⟨p, L, hJ.up hc, hS, hr', hT, hi, hk'⟩)
set_option maxHeartbeats 1000000 in
theorem st_17 {l : Launch} {D : va_G} {cT : Nat → ClassId} {b Ln : Nat} {xs : Nat → Int32} {g : GT} (M : ML l D cT b Ln xs g) (tr kp th ot : ShT) (tp : TpT) (sl : Nat → SlT) (pk rf : AI) (ik : Int32) (sp : ShT) (tk : TkT) (sv : SvT) (mf mo mn ma : AI) (kb tb : Bool) (tpm : ShT) (tfm : AI) (kpm : ShT) (kfm : AI) {bc bs c : Nat} (i : Int32) (hin : ∀ n, n ≤ 5 → inB (i + kI n) Ln = true) (hc : c < 512) (hB : bc + 26 ≤ 600000 ∧ bs + 1854 ≤ 7302250) (I : INV c tr kp th ot tp sl pk rf ik sp tk sv mf mo mn ma kb tb tpm tfm kpm kfm) (nx : NX g c (bc + 26) (bs + 1854) i) : g bc bs (lW tr kp th ot tp sl pk rf ik sp tk sv mf mo mn ma kb tb tpm tfm kpm kfm) 836 [some (.ref 900), some (.ref 0), some (.ref 46), some (.int i)] [] := by
  obtain ⟨p, L, hJ, hS, hr, hT, hi, hk⟩ := I
  have hk' : kb = true → ∃ q Q, J q Q (999 + 24750 * (c + 1)) kp kpm := fun h => by
    obtain ⟨q, Q, j⟩ := hk h
    exact ⟨q, Q, j.up hc⟩
  obtain ⟨r, x1, x2, y1, y2, y3, y4, e1, e2, hr'⟩ := (s_stands hJ (by omega) hr _ _ : T3 (f_X3_stands (xs (i + 1).toNatClampNeg) (xs (i + 2).toNatClampNeg) tr th rf) (f_X4_stands (xs (i + 1).toNatClampNeg) (xs (i + 2).toNatClampNeg) sp mf tb tpm tfm))
  exact lc_17 M tr kp th ot tp sl pk rf ik sp tk sv mf mo mn ma kb tb tpm tfm kpm kfm i (hin 1 (by decide)) rfl (hin 2 (by decide)) rfl  e1 e2 rfl hB (nx _ _ _ _ _ _ _ _ _ _ _ _ _ _ _ _ _ _ _ _ _ _ ⟨p, L, hJ.up hc, hS, hr', hT, hi, hk'⟩)
set_option maxHeartbeats 1000000 in
theorem st_18 {l : Launch} {D : va_G} {cT : Nat → ClassId} {b Ln : Nat} {xs : Nat → Int32} {g : GT} (M : ML l D cT b Ln xs g) (tr kp th ot : ShT) (tp : TpT) (sl : Nat → SlT) (pk rf : AI) (ik : Int32) (sp : ShT) (tk : TkT) (sv : SvT) (mf mo mn ma : AI) (kb tb : Bool) (tpm : ShT) (tfm : AI) (kpm : ShT) (kfm : AI) {bc bs c : Nat} (i : Int32) (hin : ∀ n, n ≤ 5 → inB (i + kI n) Ln = true) (hc : c < 512) (hB : bc + 26 ≤ 600000 ∧ bs + 1854 ≤ 7302250) (I : INV c tr kp th ot tp sl pk rf ik sp tk sv mf mo mn ma kb tb tpm tfm kpm kfm) (nx : NX g c (bc + 26) (bs + 1854) i) : g bc bs (lW tr kp th ot tp sl pk rf ik sp tk sv mf mo mn ma kb tb tpm tfm kpm kfm) 869 [some (.ref 900), some (.ref 0), some (.ref 46), some (.int i)] [] := by
  obtain ⟨p, L, hJ, hS, hr, hT, hi, hk⟩ := I
  have hk' : kb = true → ∃ q Q, J q Q (999 + 24750 * (c + 1)) kp kpm := fun h => by
    obtain ⟨q, Q, j⟩ := hk h
    exact ⟨q, Q, j.up hc⟩
  obtain ⟨r, x1, x2, y1, y2, y3, y4, e1, e2, hr'⟩ := (s_behind hJ (by omega) hr _ _ _ : T3 (f_X3_behind (xs (i + 1).toNatClampNeg) (xs (i + 2).toNatClampNeg) (xs (i + 3).toNatClampNeg) tr th rf) (f_X4_behind (xs (i + 1).toNatClampNeg) (xs (i + 2).toNatClampNeg) (xs (i + 3).toNatClampNeg) sp mf tb tpm tfm))
  exact lc_18 M tr kp th ot tp sl pk rf ik sp tk sv mf mo mn ma kb tb tpm tfm kpm kfm i (hin 1 (by decide)) rfl (hin 2 (by decide)) rfl (hin 3 (by decide)) rfl  e1 e2 rfl hB (nx _ _ _ _ _ _ _ _ _ _ _ _ _ _ _ _ _ _ _ _ _ _ ⟨p, L, hJ.up hc, hS, hr', hT, hi, hk'⟩)
set_option maxHeartbeats 1000000 in
theorem st_19 {l : Launch} {D : va_G} {cT : Nat → ClassId} {b Ln : Nat} {xs : Nat → Int32} {g : GT} (M : ML l D cT b Ln xs g) (tr kp th ot : ShT) (tp : TpT) (sl : Nat → SlT) (pk rf : AI) (ik : Int32) (sp : ShT) (tk : TkT) (sv : SvT) (mf mo mn ma : AI) (kb tb : Bool) (tpm : ShT) (tfm : AI) (kpm : ShT) (kfm : AI) {bc bs c : Nat} (i : Int32) (hin : ∀ n, n ≤ 5 → inB (i + kI n) Ln = true) (hc : c < 512) (hB : bc + 26 ≤ 600000 ∧ bs + 1854 ≤ 7302250) (I : INV c tr kp th ot tp sl pk rf ik sp tk sv mf mo mn ma kb tb tpm tfm kpm kfm) (nx : NX g c (bc + 26) (bs + 1854) i) : g bc bs (lW tr kp th ot tp sl pk rf ik sp tk sv mf mo mn ma kb tb tpm tfm kpm kfm) 912 [some (.ref 900), some (.ref 0), some (.ref 46), some (.int i)] [] := by
  obtain ⟨p, L, hJ, hS, hr, hT, hi, hk⟩ := I
  have hk' : kb = true → ∃ q Q, J q Q (999 + 24750 * (c + 1)) kp kpm := fun h => by
    obtain ⟨q, Q, j⟩ := hk h
    exact ⟨q, Q, j.up hc⟩
  obtain ⟨r, x1, x2, y1, y2, y3, y4, e1, e2, hr'⟩ := (s_served hJ (by omega) hr _ : T3 (f_X3_served (xs (i + 1).toNatClampNeg) tr th rf) (f_X4_served (xs (i + 1).toNatClampNeg) sp mf tb tpm tfm))
  exact lc_19 M tr kp th ot tp sl pk rf ik sp tk sv mf mo mn ma kb tb tpm tfm kpm kfm i (hin 1 (by decide)) rfl  e1 e2 rfl hB (nx _ _ _ _ _ _ _ _ _ _ _ _ _ _ _ _ _ _ _ _ _ _ ⟨p, L, hJ.up hc, hS, hr', hT, hi, hk'⟩)
set_option maxHeartbeats 1000000 in
theorem st_20 {l : Launch} {D : va_G} {cT : Nat → ClassId} {b Ln : Nat} {xs : Nat → Int32} {g : GT} (M : ML l D cT b Ln xs g) (tr kp th ot : ShT) (tp : TpT) (sl : Nat → SlT) (pk rf : AI) (ik : Int32) (sp : ShT) (tk : TkT) (sv : SvT) (mf mo mn ma : AI) (kb tb : Bool) (tpm : ShT) (tfm : AI) (kpm : ShT) (kfm : AI) {bc bs c : Nat} (i : Int32) (hin : ∀ n, n ≤ 5 → inB (i + kI n) Ln = true) (hc : c < 512) (hB : bc + 26 ≤ 600000 ∧ bs + 1854 ≤ 7302250) (I : INV c tr kp th ot tp sl pk rf ik sp tk sv mf mo mn ma kb tb tpm tfm kpm kfm) (nx : NX g c (bc + 26) (bs + 1854) i) : g bc bs (lW tr kp th ot tp sl pk rf ik sp tk sv mf mo mn ma kb tb tpm tfm kpm kfm) 935 [some (.ref 900), some (.ref 0), some (.ref 46), some (.int i)] [] := by
  obtain ⟨p, L, hJ, hS, hr, hT, hi, hk⟩ := I
  have hk' : kb = true → ∃ q Q, J q Q (999 + 24750 * (c + 1)) kp kpm := fun h => by
    obtain ⟨q, Q, j⟩ := hk h
    exact ⟨q, Q, j.up hc⟩
  obtain ⟨r, x1, x2, y1, y2, y3, y4, e1, e2, hr'⟩ := (s_round hJ (by omega) hr : T3 (f_X3_round tr th rf) (f_X4_round sp mf tb tpm tfm))
  exact lc_20 M tr kp th ot tp sl pk rf ik sp tk sv mf mo mn ma kb tb tpm tfm kpm kfm i   e1 e2 rfl hB (nx _ _ _ _ _ _ _ _ _ _ _ _ _ _ _ _ _ _ _ _ _ _ ⟨p, L, hJ.up hc, hS, hr', hT, hi, hk'⟩)
set_option maxHeartbeats 1000000 in
theorem st_21 {l : Launch} {D : va_G} {cT : Nat → ClassId} {b Ln : Nat} {xs : Nat → Int32} {g : GT} (M : ML l D cT b Ln xs g) (tr kp th ot : ShT) (tp : TpT) (sl : Nat → SlT) (pk rf : AI) (ik : Int32) (sp : ShT) (tk : TkT) (sv : SvT) (mf mo mn ma : AI) (kb tb : Bool) (tpm : ShT) (tfm : AI) (kpm : ShT) (kfm : AI) {bc bs c : Nat} (i : Int32) (hin : ∀ n, n ≤ 5 → inB (i + kI n) Ln = true) (hc : c < 512) (hB : bc + 26 ≤ 600000 ∧ bs + 1854 ≤ 7302250) (I : INV c tr kp th ot tp sl pk rf ik sp tk sv mf mo mn ma kb tb tpm tfm kpm kfm) (nx : NX g c (bc + 26) (bs + 1854) i) : g bc bs (lW tr kp th ot tp sl pk rf ik sp tk sv mf mo mn ma kb tb tpm tfm kpm kfm) 948 [some (.ref 900), some (.ref 0), some (.ref 46), some (.int i)] [] := by
  obtain ⟨p, L, hJ, hS, hr, hT, hi, hk⟩ := I
  have hk' : kb = true → ∃ q Q, J q Q (999 + 24750 * (c + 1)) kp kpm := fun h => by
    obtain ⟨q, Q, j⟩ := hk h
    exact ⟨q, Q, j.up hc⟩
  obtain ⟨r, x1, x2, y1, y2, y3, y4, e1, e2, hr'⟩ := (s_when hJ (by omega) hr _ _ : T3 (f_X3_when (xs (i + 1).toNatClampNeg) (xs (i + 2).toNatClampNeg) tr th rf) (f_X4_when (xs (i + 1).toNatClampNeg) (xs (i + 2).toNatClampNeg) sp mf tb tpm tfm))
  exact lc_21 M tr kp th ot tp sl pk rf ik sp tk sv mf mo mn ma kb tb tpm tfm kpm kfm i (hin 1 (by decide)) rfl (hin 2 (by decide)) rfl  e1 e2 rfl hB (nx _ _ _ _ _ _ _ _ _ _ _ _ _ _ _ _ _ _ _ _ _ _ ⟨p, L, hJ.up hc, hS, hr', hT, hi, hk'⟩)
set_option maxHeartbeats 1000000 in
theorem st_22 {l : Launch} {D : va_G} {cT : Nat → ClassId} {b Ln : Nat} {xs : Nat → Int32} {g : GT} (M : ML l D cT b Ln xs g) (tr kp th ot : ShT) (tp : TpT) (sl : Nat → SlT) (pk rf : AI) (ik : Int32) (sp : ShT) (tk : TkT) (sv : SvT) (mf mo mn ma : AI) (kb tb : Bool) (tpm : ShT) (tfm : AI) (kpm : ShT) (kfm : AI) {bc bs c : Nat} (i : Int32) (hin : ∀ n, n ≤ 5 → inB (i + kI n) Ln = true) (hc : c < 512) (hB : bc + 26 ≤ 600000 ∧ bs + 1854 ≤ 7302250) (I : INV c tr kp th ot tp sl pk rf ik sp tk sv mf mo mn ma kb tb tpm tfm kpm kfm) (nx : NX g c (bc + 26) (bs + 1854) i) : g bc bs (lW tr kp th ot tp sl pk rf ik sp tk sv mf mo mn ma kb tb tpm tfm kpm kfm) 981 [some (.ref 900), some (.ref 0), some (.ref 46), some (.int i)] [] := by
  obtain ⟨p, L, hJ, hS, hr, hT, hi, hk⟩ := I
  have hk' : kb = true → ∃ q Q, J q Q (999 + 24750 * (c + 1)) kp kpm := fun h => by
    obtain ⟨q, Q, j⟩ := hk h
    exact ⟨q, Q, j.up hc⟩
  obtain ⟨r, x1, x2, y1, y2, y3, y4, e1, e2, hr'⟩ := (s_never hJ (by omega) hr : T3 (f_X3_never tr th rf) (f_X4_never sp mf tb tpm tfm))
  exact lc_22 M tr kp th ot tp sl pk rf ik sp tk sv mf mo mn ma kb tb tpm tfm kpm kfm i   e1 e2 rfl hB (nx _ _ _ _ _ _ _ _ _ _ _ _ _ _ _ _ _ _ _ _ _ _ ⟨p, L, hJ.up hc, hS, hr', hT, hi, hk'⟩)
set_option maxHeartbeats 1000000 in
theorem st_23 {l : Launch} {D : va_G} {cT : Nat → ClassId} {b Ln : Nat} {xs : Nat → Int32} {g : GT} (M : ML l D cT b Ln xs g) (tr kp th ot : ShT) (tp : TpT) (sl : Nat → SlT) (pk rf : AI) (ik : Int32) (sp : ShT) (tk : TkT) (sv : SvT) (mf mo mn ma : AI) (kb tb : Bool) (tpm : ShT) (tfm : AI) (kpm : ShT) (kfm : AI) {bc bs c : Nat} (i : Int32) (hin : ∀ n, n ≤ 5 → inB (i + kI n) Ln = true) (hc : c < 512) (hB : bc + 26 ≤ 600000 ∧ bs + 1854 ≤ 7302250) (I : INV c tr kp th ot tp sl pk rf ik sp tk sv mf mo mn ma kb tb tpm tfm kpm kfm) (nx : NX g c (bc + 26) (bs + 1854) i) : g bc bs (lW tr kp th ot tp sl pk rf ik sp tk sv mf mo mn ma kb tb tpm tfm kpm kfm) 994 [some (.ref 900), some (.ref 0), some (.ref 46), some (.int i)] [] := by
  obtain ⟨p, L, hJ, hS, hr, hT, hi, hk⟩ := I
  have hk' : kb = true → ∃ q Q, J q Q (999 + 24750 * (c + 1)) kp kpm := fun h => by
    obtain ⟨q, Q, j⟩ := hk h
    exact ⟨q, Q, j.up hc⟩
  obtain ⟨r, x1, x2, y1, y2, y3, y4, e1, e2, hr'⟩ := (s_stand hJ (by omega) hr _ : T3 (f_X3_stand (xs (i + 1).toNatClampNeg) tr th rf) (f_X4_stand (xs (i + 1).toNatClampNeg) sp mf tb tpm tfm))
  exact lc_23 M tr kp th ot tp sl pk rf ik sp tk sv mf mo mn ma kb tb tpm tfm kpm kfm i (hin 1 (by decide)) rfl  e1 e2 rfl hB (nx _ _ _ _ _ _ _ _ _ _ _ _ _ _ _ _ _ _ _ _ _ _ ⟨p, L, hJ.up hc, hS, hr', hT, hi, hk'⟩)
set_option maxHeartbeats 1000000 in
theorem st_24 {l : Launch} {D : va_G} {cT : Nat → ClassId} {b Ln : Nat} {xs : Nat → Int32} {g : GT} (M : ML l D cT b Ln xs g) (tr kp th ot : ShT) (tp : TpT) (sl : Nat → SlT) (pk rf : AI) (ik : Int32) (sp : ShT) (tk : TkT) (sv : SvT) (mf mo mn ma : AI) (kb tb : Bool) (tpm : ShT) (tfm : AI) (kpm : ShT) (kfm : AI) {bc bs c : Nat} (i : Int32) (hin : ∀ n, n ≤ 5 → inB (i + kI n) Ln = true) (hc : c < 512) (hB : bc + 26 ≤ 600000 ∧ bs + 1854 ≤ 7302250) (I : INV c tr kp th ot tp sl pk rf ik sp tk sv mf mo mn ma kb tb tpm tfm kpm kfm) (nx : NX g c (bc + 26) (bs + 1854) i) : g bc bs (lW tr kp th ot tp sl pk rf ik sp tk sv mf mo mn ma kb tb tpm tfm kpm kfm) 1017 [some (.ref 900), some (.ref 0), some (.ref 46), some (.int i)] [] := by
  obtain ⟨p, L, hJ, hS, hr, hT, hi, hk⟩ := I
  have hk' : kb = true → ∃ q Q, J q Q (999 + 24750 * (c + 1)) kp kpm := fun h => by
    obtain ⟨q, Q, j⟩ := hk h
    exact ⟨q, Q, j.up hc⟩
  obtain ⟨r, x1, x2, y1, y2, y3, y4, e1, e2, hr'⟩ := (s_leader hJ hr _ : T3 (f_X3_leader (xs (i + 1).toNatClampNeg) tr th rf) (f_X4_leader (xs (i + 1).toNatClampNeg) sp mf tb tpm tfm))
  exact lc_24 M tr kp th ot tp sl pk rf ik sp tk sv mf mo mn ma kb tb tpm tfm kpm kfm i (hin 1 (by decide)) rfl  e1 e2 rfl hB (nx _ _ _ _ _ _ _ _ _ _ _ _ _ _ _ _ _ _ _ _ _ _ ⟨p, L, hJ.up hc, hS, hr', hT, hi, hk'⟩)
set_option maxHeartbeats 1000000 in
theorem st_25 {l : Launch} {D : va_G} {cT : Nat → ClassId} {b Ln : Nat} {xs : Nat → Int32} {g : GT} (M : ML l D cT b Ln xs g) (tr kp th ot : ShT) (tp : TpT) (sl : Nat → SlT) (pk rf : AI) (ik : Int32) (sp : ShT) (tk : TkT) (sv : SvT) (mf mo mn ma : AI) (kb tb : Bool) (tpm : ShT) (tfm : AI) (kpm : ShT) (kfm : AI) {bc bs c : Nat} (i : Int32) (hin : ∀ n, n ≤ 5 → inB (i + kI n) Ln = true) (hc : c < 512) (hB : bc + 26 ≤ 600000 ∧ bs + 1854 ≤ 7302250) (I : INV c tr kp th ot tp sl pk rf ik sp tk sv mf mo mn ma kb tb tpm tfm kpm kfm) (nx : NX g c (bc + 26) (bs + 1854) i) : g bc bs (lW tr kp th ot tp sl pk rf ik sp tk sv mf mo mn ma kb tb tpm tfm kpm kfm) 1040 [some (.ref 900), some (.ref 0), some (.ref 46), some (.int i)] [] := by
  obtain ⟨p, L, hJ, hS, hr, hT, hi, hk⟩ := I
  have hk' : kb = true → ∃ q Q, J q Q (999 + 24750 * (c + 1)) kp kpm := fun h => by
    obtain ⟨q, Q, j⟩ := hk h
    exact ⟨q, Q, j.up hc⟩
  obtain ⟨r, x1, x2, y1, y2, y3, y4, e1, e2, hr'⟩ := (s_waits hJ (by omega) hr _ : T3 (f_X3_waits (xs (i + 1).toNatClampNeg) tr th rf) (f_X4_waits (xs (i + 1).toNatClampNeg) sp mf tb tpm tfm))
  exact lc_25 M tr kp th ot tp sl pk rf ik sp tk sv mf mo mn ma kb tb tpm tfm kpm kfm i (hin 1 (by decide)) rfl  e1 e2 rfl hB (nx _ _ _ _ _ _ _ _ _ _ _ _ _ _ _ _ _ _ _ _ _ _ ⟨p, L, hJ.up hc, hS, hr', hT, hi, hk'⟩)
set_option maxHeartbeats 1000000 in
theorem st_26 {l : Launch} {D : va_G} {cT : Nat → ClassId} {b Ln : Nat} {xs : Nat → Int32} {g : GT} (M : ML l D cT b Ln xs g) (tr kp th ot : ShT) (tp : TpT) (sl : Nat → SlT) (pk rf : AI) (ik : Int32) (sp : ShT) (tk : TkT) (sv : SvT) (mf mo mn ma : AI) (kb tb : Bool) (tpm : ShT) (tfm : AI) (kpm : ShT) (kfm : AI) {bc bs c : Nat} (i : Int32) (hin : ∀ n, n ≤ 5 → inB (i + kI n) Ln = true) (hc : c < 512) (hB : bc + 26 ≤ 600000 ∧ bs + 1854 ≤ 7302250) (I : INV c tr kp th ot tp sl pk rf ik sp tk sv mf mo mn ma kb tb tpm tfm kpm kfm) (nx : NX g c (bc + 26) (bs + 1854) i) : g bc bs (lW tr kp th ot tp sl pk rf ik sp tk sv mf mo mn ma kb tb tpm tfm kpm kfm) 1063 [some (.ref 900), some (.ref 0), some (.ref 46), some (.int i)] [] := by
  obtain ⟨p, L, hJ, hS, hr, hT, hi, hk⟩ := I
  have hk' : kb = true → ∃ q Q, J q Q (999 + 24750 * (c + 1)) kp kpm := fun h => by
    obtain ⟨q, Q, j⟩ := hk h
    exact ⟨q, Q, j.up hc⟩
  obtain ⟨r, x1, x2, y1, y2, y3, y4, e1, e2, hr'⟩ := (s_several hJ (by omega) hr _ : T3 (f_X3_several (xs (i + 1).toNatClampNeg) tr th rf) (f_X4_several (xs (i + 1).toNatClampNeg) sp mf tb tpm tfm))
  exact lc_26 M tr kp th ot tp sl pk rf ik sp tk sv mf mo mn ma kb tb tpm tfm kpm kfm i (hin 1 (by decide)) rfl  e1 e2 rfl hB (nx _ _ _ _ _ _ _ _ _ _ _ _ _ _ _ _ _ _ _ _ _ _ ⟨p, L, hJ.up hc, hS, hr', hT, hi, hk'⟩)
set_option maxHeartbeats 1000000 in
theorem st_27 {l : Launch} {D : va_G} {cT : Nat → ClassId} {b Ln : Nat} {xs : Nat → Int32} {g : GT} (M : ML l D cT b Ln xs g) (tr kp th ot : ShT) (tp : TpT) (sl : Nat → SlT) (pk rf : AI) (ik : Int32) (sp : ShT) (tk : TkT) (sv : SvT) (mf mo mn ma : AI) (kb tb : Bool) (tpm : ShT) (tfm : AI) (kpm : ShT) (kfm : AI) {bc bs c : Nat} (i : Int32) (hin : ∀ n, n ≤ 5 → inB (i + kI n) Ln = true) (hc : c < 512) (hB : bc + 26 ≤ 600000 ∧ bs + 1854 ≤ 7302250) (I : INV c tr kp th ot tp sl pk rf ik sp tk sv mf mo mn ma kb tb tpm tfm kpm kfm) (nx : NX g c (bc + 26) (bs + 1854) i) : g bc bs (lW tr kp th ot tp sl pk rf ik sp tk sv mf mo mn ma kb tb tpm tfm kpm kfm) 1086 [some (.ref 900), some (.ref 0), some (.ref 46), some (.int i)] [] := by
  obtain ⟨p, L, hJ, hS, hr, hT, hi, hk⟩ := I
  have hk' : kb = true → ∃ q Q, J q Q (999 + 24750 * (c + 1)) kp kpm := fun h => by
    obtain ⟨q, Q, j⟩ := hk h
    exact ⟨q, Q, j.up hc⟩
  obtain ⟨r, x1, x2, y1, y2, y3, y4, e1, e2, hr'⟩ := (s_beside hJ (by omega) hr _ _ : T3 (f_X3_beside (xs (i + 1).toNatClampNeg) (xs (i + 2).toNatClampNeg) tr th rf) (f_X4_beside (xs (i + 1).toNatClampNeg) (xs (i + 2).toNatClampNeg) sp mf tb tpm tfm))
  exact lc_27 M tr kp th ot tp sl pk rf ik sp tk sv mf mo mn ma kb tb tpm tfm kpm kfm i (hin 1 (by decide)) rfl (hin 2 (by decide)) rfl  e1 e2 rfl hB (nx _ _ _ _ _ _ _ _ _ _ _ _ _ _ _ _ _ _ _ _ _ _ ⟨p, L, hJ.up hc, hS, hr', hT, hi, hk'⟩)
set_option maxHeartbeats 1000000 in
theorem st_28 {l : Launch} {D : va_G} {cT : Nat → ClassId} {b Ln : Nat} {xs : Nat → Int32} {g : GT} (M : ML l D cT b Ln xs g) (tr kp th ot : ShT) (tp : TpT) (sl : Nat → SlT) (pk rf : AI) (ik : Int32) (sp : ShT) (tk : TkT) (sv : SvT) (mf mo mn ma : AI) (kb tb : Bool) (tpm : ShT) (tfm : AI) (kpm : ShT) (kfm : AI) {bc bs c : Nat} (i : Int32) (hin : ∀ n, n ≤ 5 → inB (i + kI n) Ln = true) (hc : c < 512) (hB : bc + 26 ≤ 600000 ∧ bs + 1854 ≤ 7302250) (I : INV c tr kp th ot tp sl pk rf ik sp tk sv mf mo mn ma kb tb tpm tfm kpm kfm) (nx : NX g c (bc + 26) (bs + 1854) i) : g bc bs (lW tr kp th ot tp sl pk rf ik sp tk sv mf mo mn ma kb tb tpm tfm kpm kfm) 1119 [some (.ref 900), some (.ref 0), some (.ref 46), some (.int i)] [] := by
  obtain ⟨p, L, hJ, hS, hr, hT, hi, hk⟩ := I
  have hk' : kb = true → ∃ q Q, J q Q (999 + 24750 * (c + 1)) kp kpm := fun h => by
    obtain ⟨q, Q, j⟩ := hk h
    exact ⟨q, Q, j.up hc⟩
  obtain ⟨r, x1, x2, x3, y1, y2, y3, y4, y5, e1, e2, hr'⟩ := (s_unlike hJ (by omega) hr _ _ _ _ : T3u (f_X3_unlike (xs (i + 1).toNatClampNeg) (xs (i + 2).toNatClampNeg) tr th ot rf) (f_X4_unlike (xs (i + 1).toNatClampNeg) (xs (i + 2).toNatClampNeg) sp mf mo tb tpm tfm))
  exact lc_28 M tr kp th ot tp sl pk rf ik sp tk sv mf mo mn ma kb tb tpm tfm kpm kfm i (hin 1 (by decide)) rfl (hin 2 (by decide)) rfl  e1 e2 rfl hB (nx _ _ _ _ _ _ _ _ _ _ _ _ _ _ _ _ _ _ _ _ _ _ ⟨p, L, hJ.up hc, hS, hr', hT, hi, hk'⟩)
set_option maxHeartbeats 1000000 in
theorem st_29 {l : Launch} {D : va_G} {cT : Nat → ClassId} {b Ln : Nat} {xs : Nat → Int32} {g : GT} (M : ML l D cT b Ln xs g) (tr kp th ot : ShT) (tp : TpT) (sl : Nat → SlT) (pk rf : AI) (ik : Int32) (sp : ShT) (tk : TkT) (sv : SvT) (mf mo mn ma : AI) (kb tb : Bool) (tpm : ShT) (tfm : AI) (kpm : ShT) (kfm : AI) {bc bs c : Nat} (i : Int32) (hin : ∀ n, n ≤ 5 → inB (i + kI n) Ln = true) (hc : c < 512) (hB : bc + 26 ≤ 600000 ∧ bs + 1854 ≤ 7302250) (I : INV c tr kp th ot tp sl pk rf ik sp tk sv mf mo mn ma kb tb tpm tfm kpm kfm) (nx : NX g c (bc + 26) (bs + 1854) i) : g bc bs (lW tr kp th ot tp sl pk rf ik sp tk sv mf mo mn ma kb tb tpm tfm kpm kfm) 1152 [some (.ref 900), some (.ref 0), some (.ref 46), some (.int i)] [] := by
  obtain ⟨p, L, hJ, hS, hr, hT, hi, hk⟩ := I
  have hk' : kb = true → ∃ q Q, J q Q (999 + 24750 * (c + 1)) kp kpm := fun h => by
    obtain ⟨q, Q, j⟩ := hk h
    exact ⟨q, Q, j.up hc⟩
  obtain ⟨r, x1, x2, y1, y2, y3, y4, e1, e2, hr'⟩ := (s_lawFor hJ (by omega) hr _ _ : T3 (f_X3_lawFor (xs (i + 1).toNatClampNeg) (xs (i + 2).toNatClampNeg) tr th rf) (f_X4_lawFor (xs (i + 1).toNatClampNeg) (xs (i + 2).toNatClampNeg) sp mf tb tpm tfm))
  exact lc_29 M tr kp th ot tp sl pk rf ik sp tk sv mf mo mn ma kb tb tpm tfm kpm kfm i (hin 1 (by decide)) rfl (hin 2 (by decide)) rfl  e1 e2 rfl hB (nx _ _ _ _ _ _ _ _ _ _ _ _ _ _ _ _ _ _ _ _ _ _ ⟨p, L, hJ.up hc, hS, hr', hT, hi, hk'⟩)
set_option maxHeartbeats 1000000 in
theorem st_30 {l : Launch} {D : va_G} {cT : Nat → ClassId} {b Ln : Nat} {xs : Nat → Int32} {g : GT} (M : ML l D cT b Ln xs g) (tr kp th ot : ShT) (tp : TpT) (sl : Nat → SlT) (pk rf : AI) (ik : Int32) (sp : ShT) (tk : TkT) (sv : SvT) (mf mo mn ma : AI) (kb tb : Bool) (tpm : ShT) (tfm : AI) (kpm : ShT) (kfm : AI) {bc bs c : Nat} (i : Int32) (hin : ∀ n, n ≤ 5 → inB (i + kI n) Ln = true) (hc : c < 512) (hB : bc + 26 ≤ 600000 ∧ bs + 1854 ≤ 7302250) (I : INV c tr kp th ot tp sl pk rf ik sp tk sv mf mo mn ma kb tb tpm tfm kpm kfm) (nx : NX g c (bc + 26) (bs + 1854) i) : g bc bs (lW tr kp th ot tp sl pk rf ik sp tk sv mf mo mn ma kb tb tpm tfm kpm kfm) 1185 [some (.ref 900), some (.ref 0), some (.ref 46), some (.int i)] [] := by
  obtain ⟨p, L, hJ, hS, hr, hT, hi, hk⟩ := I
  have hk' : kb = true → ∃ q Q, J q Q (999 + 24750 * (c + 1)) kp kpm := fun h => by
    obtain ⟨q, Q, j⟩ := hk h
    exact ⟨q, Q, j.up hc⟩
  obtain ⟨r, x1, x2, y1, y2, y3, y4, e1, e2, hr'⟩ := (s_newcomer hJ (by omega) hr : T3 (f_X3_newcomer tr th rf) (f_X4_newcomer sp mf tb tpm tfm))
  exact lc_30 M tr kp th ot tp sl pk rf ik sp tk sv mf mo mn ma kb tb tpm tfm kpm kfm i   e1 e2 rfl hB (nx _ _ _ _ _ _ _ _ _ _ _ _ _ _ _ _ _ _ _ _ _ _ ⟨p, L, hJ.up hc, hS, hr', hT, hi, hk'⟩)
set_option maxHeartbeats 1000000 in
theorem st_31 {l : Launch} {D : va_G} {cT : Nat → ClassId} {b Ln : Nat} {xs : Nat → Int32} {g : GT} (M : ML l D cT b Ln xs g) (tr kp th ot : ShT) (tp : TpT) (sl : Nat → SlT) (pk rf : AI) (ik : Int32) (sp : ShT) (tk : TkT) (sv : SvT) (mf mo mn ma : AI) (kb tb : Bool) (tpm : ShT) (tfm : AI) (kpm : ShT) (kfm : AI) {bc bs c : Nat} (i : Int32) (hin : ∀ n, n ≤ 5 → inB (i + kI n) Ln = true) (hc : c < 512) (hB : bc + 26 ≤ 600000 ∧ bs + 1854 ≤ 7302250) (I : INV c tr kp th ot tp sl pk rf ik sp tk sv mf mo mn ma kb tb tpm tfm kpm kfm) (nx : NX g c (bc + 26) (bs + 1854) i) : g bc bs (lW tr kp th ot tp sl pk rf ik sp tk sv mf mo mn ma kb tb tpm tfm kpm kfm) 1198 [some (.ref 900), some (.ref 0), some (.ref 46), some (.int i)] [] := by
  obtain ⟨p, L, hJ, hS, hr, hT, hi, hk⟩ := I
  have hk' : kb = true → ∃ q Q, J q Q (999 + 24750 * (c + 1)) kp kpm := fun h => by
    obtain ⟨q, Q, j⟩ := hk h
    exact ⟨q, Q, j.up hc⟩
  obtain ⟨r, x1, x2, y1, y2, y3, y4, e1, e2, hr'⟩ := (s_forward hJ (by omega) hr _ _ _ : T3 (f_X3_forward (xs (i + 1).toNatClampNeg) (xs (i + 2).toNatClampNeg) (xs (i + 3).toNatClampNeg) tr th rf) (f_X4_forward (xs (i + 1).toNatClampNeg) (xs (i + 2).toNatClampNeg) (xs (i + 3).toNatClampNeg) sp mf tb tpm tfm))
  exact lc_31 M tr kp th ot tp sl pk rf ik sp tk sv mf mo mn ma kb tb tpm tfm kpm kfm i (hin 1 (by decide)) rfl (hin 2 (by decide)) rfl (hin 3 (by decide)) rfl  e1 e2 rfl hB (nx _ _ _ _ _ _ _ _ _ _ _ _ _ _ _ _ _ _ _ _ _ _ ⟨p, L, hJ.up hc, hS, hr', hT, hi, hk'⟩)
set_option maxHeartbeats 1000000 in
theorem st_32 {l : Launch} {D : va_G} {cT : Nat → ClassId} {b Ln : Nat} {xs : Nat → Int32} {g : GT} (M : ML l D cT b Ln xs g) (tr kp th ot : ShT) (tp : TpT) (sl : Nat → SlT) (pk rf : AI) (ik : Int32) (sp : ShT) (tk : TkT) (sv : SvT) (mf mo mn ma : AI) (kb tb : Bool) (tpm : ShT) (tfm : AI) (kpm : ShT) (kfm : AI) {bc bs c : Nat} (i : Int32) (hin : ∀ n, n ≤ 5 → inB (i + kI n) Ln = true) (hc : c < 512) (hB : bc + 26 ≤ 600000 ∧ bs + 1854 ≤ 7302250) (I : INV c tr kp th ot tp sl pk rf ik sp tk sv mf mo mn ma kb tb tpm tfm kpm kfm) (nx : NX g c (bc + 26) (bs + 1854) i) : g bc bs (lW tr kp th ot tp sl pk rf ik sp tk sv mf mo mn ma kb tb tpm tfm kpm kfm) 1241 [some (.ref 900), some (.ref 0), some (.ref 46), some (.int i)] [] := by
  obtain ⟨p, L, hJ, hS, hr, hT, hi, hk⟩ := I
  have hk' : kb = true → ∃ q Q, J q Q (999 + 24750 * (c + 1)) kp kpm := fun h => by
    obtain ⟨q, Q, j⟩ := hk h
    exact ⟨q, Q, j.up hc⟩
  obtain ⟨r, x1, x2, y1, y2, y3, y4, e1, e2, hr'⟩ := (s_level hJ hr _ : T3 (f_X3_level (xs (i + 1).toNatClampNeg) tr th rf) (f_X4_level (xs (i + 1).toNatClampNeg) sp mf tb tpm tfm))
  exact lc_32 M tr kp th ot tp sl pk rf ik sp tk sv mf mo mn ma kb tb tpm tfm kpm kfm i (hin 1 (by decide)) rfl  e1 e2 rfl hB (nx _ _ _ _ _ _ _ _ _ _ _ _ _ _ _ _ _ _ _ _ _ _ ⟨p, L, hJ.up hc, hS, hr', hT, hi, hk'⟩)
set_option maxHeartbeats 1000000 in
theorem st_33 {l : Launch} {D : va_G} {cT : Nat → ClassId} {b Ln : Nat} {xs : Nat → Int32} {g : GT} (M : ML l D cT b Ln xs g) (tr kp th ot : ShT) (tp : TpT) (sl : Nat → SlT) (pk rf : AI) (ik : Int32) (sp : ShT) (tk : TkT) (sv : SvT) (mf mo mn ma : AI) (kb tb : Bool) (tpm : ShT) (tfm : AI) (kpm : ShT) (kfm : AI) {bc bs c : Nat} (i : Int32) (hin : ∀ n, n ≤ 5 → inB (i + kI n) Ln = true) (hc : c < 512) (hB : bc + 26 ≤ 600000 ∧ bs + 1854 ≤ 7302250) (I : INV c tr kp th ot tp sl pk rf ik sp tk sv mf mo mn ma kb tb tpm tfm kpm kfm) (nx : NX g c (bc + 26) (bs + 1854) i) : g bc bs (lW tr kp th ot tp sl pk rf ik sp tk sv mf mo mn ma kb tb tpm tfm kpm kfm) 1264 [some (.ref 900), some (.ref 0), some (.ref 46), some (.int i)] [] := by
  obtain ⟨p, L, hJ, hS, hr, hT, hi, hk⟩ := I
  have hk' : kb = true → ∃ q Q, J q Q (999 + 24750 * (c + 1)) kp kpm := fun h => by
    obtain ⟨q, Q, j⟩ := hk h
    exact ⟨q, Q, j.up hc⟩
  obtain ⟨r, x1, x2, y1, y2, y3, y4, e1, e2, hr'⟩ := (s_spread hJ hr _ _ : T3 (f_X3_spread (xs (i + 1).toNatClampNeg) (xs (i + 2).toNatClampNeg) tr th rf) (f_X4_spread (xs (i + 1).toNatClampNeg) (xs (i + 2).toNatClampNeg) sp mf tb tpm tfm))
  exact lc_33 M tr kp th ot tp sl pk rf ik sp tk sv mf mo mn ma kb tb tpm tfm kpm kfm i (hin 1 (by decide)) rfl (hin 2 (by decide)) rfl  e1 e2 rfl hB (nx _ _ _ _ _ _ _ _ _ _ _ _ _ _ _ _ _ _ _ _ _ _ ⟨p, L, hJ.up hc, hS, hr', hT, hi, hk'⟩)
set_option maxHeartbeats 1000000 in
theorem st_34 {l : Launch} {D : va_G} {cT : Nat → ClassId} {b Ln : Nat} {xs : Nat → Int32} {g : GT} (M : ML l D cT b Ln xs g) (tr kp th ot : ShT) (tp : TpT) (sl : Nat → SlT) (pk rf : AI) (ik : Int32) (sp : ShT) (tk : TkT) (sv : SvT) (mf mo mn ma : AI) (kb tb : Bool) (tpm : ShT) (tfm : AI) (kpm : ShT) (kfm : AI) {bc bs c : Nat} (i : Int32) (hin : ∀ n, n ≤ 5 → inB (i + kI n) Ln = true) (hc : c < 512) (hB : bc + 26 ≤ 600000 ∧ bs + 1854 ≤ 7302250) (I : INV c tr kp th ot tp sl pk rf ik sp tk sv mf mo mn ma kb tb tpm tfm kpm kfm) (nx : NX g c (bc + 26) (bs + 1854) i) : g bc bs (lW tr kp th ot tp sl pk rf ik sp tk sv mf mo mn ma kb tb tpm tfm kpm kfm) 1297 [some (.ref 900), some (.ref 0), some (.ref 46), some (.int i)] [] := by
  obtain ⟨p, L, hJ, hS, hr, hT, hi, hk⟩ := I
  have hk' : kb = true → ∃ q Q, J q Q (999 + 24750 * (c + 1)) kp kpm := fun h => by
    obtain ⟨q, Q, j⟩ := hk h
    exact ⟨q, Q, j.up hc⟩
  obtain ⟨r, x1, x2, y1, y2, y3, y4, e1, e2, hr'⟩ := (s_fairest hJ hr _ : T3 (f_X3_fairest (xs (i + 1).toNatClampNeg) tr th rf) (f_X4_fairest (xs (i + 1).toNatClampNeg) sp mf tb tpm tfm))
  exact lc_34 M tr kp th ot tp sl pk rf ik sp tk sv mf mo mn ma kb tb tpm tfm kpm kfm i (hin 1 (by decide)) rfl  e1 e2 rfl hB (nx _ _ _ _ _ _ _ _ _ _ _ _ _ _ _ _ _ _ _ _ _ _ ⟨p, L, hJ.up hc, hS, hr', hT, hi, hk'⟩)
set_option maxHeartbeats 1000000 in
theorem st_35 {l : Launch} {D : va_G} {cT : Nat → ClassId} {b Ln : Nat} {xs : Nat → Int32} {g : GT} (M : ML l D cT b Ln xs g) (tr kp th ot : ShT) (tp : TpT) (sl : Nat → SlT) (pk rf : AI) (ik : Int32) (sp : ShT) (tk : TkT) (sv : SvT) (mf mo mn ma : AI) (kb tb : Bool) (tpm : ShT) (tfm : AI) (kpm : ShT) (kfm : AI) {bc bs c : Nat} (i : Int32) (hin : ∀ n, n ≤ 5 → inB (i + kI n) Ln = true) (hc : c < 512) (hB : bc + 26 ≤ 600000 ∧ bs + 1854 ≤ 7302250) (I : INV c tr kp th ot tp sl pk rf ik sp tk sv mf mo mn ma kb tb tpm tfm kpm kfm) (nx : NX g c (bc + 26) (bs + 1854) i) : g bc bs (lW tr kp th ot tp sl pk rf ik sp tk sv mf mo mn ma kb tb tpm tfm kpm kfm) 1320 [some (.ref 900), some (.ref 0), some (.ref 46), some (.int i)] [] := by
  obtain ⟨p, L, hJ, hS, hr, hT, hi, hk⟩ := I
  have hk' : kb = true → ∃ q Q, J q Q (999 + 24750 * (c + 1)) kp kpm := fun h => by
    obtain ⟨q, Q, j⟩ := hk h
    exact ⟨q, Q, j.up hc⟩
  obtain ⟨r, x1, x2, y1, y2, y3, y4, e1, e2, hr'⟩ := (s_judge hJ hS (by omega) hr _ _ : T3 (f_X3_judge (xs (i + 1).toNatClampNeg) (xs (i + 2).toNatClampNeg) tr th sl rf) (f_X4_judge (xs (i + 1).toNatClampNeg) (xs (i + 2).toNatClampNeg) sp sv mf tb tpm tfm))
  exact lc_35 M tr kp th ot tp sl pk rf ik sp tk sv mf mo mn ma kb tb tpm tfm kpm kfm i (hin 1 (by decide)) rfl (hin 2 (by decide)) rfl  e1 e2 rfl hB (nx _ _ _ _ _ _ _ _ _ _ _ _ _ _ _ _ _ _ _ _ _ _ ⟨p, L, hJ.up hc, hS, hr', hT, hi, hk'⟩)
set_option maxHeartbeats 1000000 in
theorem st_36 {l : Launch} {D : va_G} {cT : Nat → ClassId} {b Ln : Nat} {xs : Nat → Int32} {g : GT} (M : ML l D cT b Ln xs g) (tr kp th ot : ShT) (tp : TpT) (sl : Nat → SlT) (pk rf : AI) (ik : Int32) (sp : ShT) (tk : TkT) (sv : SvT) (mf mo mn ma : AI) (kb tb : Bool) (tpm : ShT) (tfm : AI) (kpm : ShT) (kfm : AI) {bc bs c : Nat} (i : Int32) (hin : ∀ n, n ≤ 5 → inB (i + kI n) Ln = true) (hc : c < 512) (hB : bc + 26 ≤ 600000 ∧ bs + 1854 ≤ 7302250) (I : INV c tr kp th ot tp sl pk rf ik sp tk sv mf mo mn ma kb tb tpm tfm kpm kfm) (nx : NX g c (bc + 26) (bs + 1854) i) : g bc bs (lW tr kp th ot tp sl pk rf ik sp tk sv mf mo mn ma kb tb tpm tfm kpm kfm) 1353 [some (.ref 900), some (.ref 0), some (.ref 46), some (.int i)] [] := by
  obtain ⟨p, L, hJ, hS, hr, hT, hi, hk⟩ := I
  have hk' : kb = true → ∃ q Q, J q Q (999 + 24750 * (c + 1)) kp kpm := fun h => by
    obtain ⟨q, Q, j⟩ := hk h
    exact ⟨q, Q, j.up hc⟩
  obtain ⟨r, x1, x2, y1, y2, y3, y4, e1, e2, hr'⟩ := (s_fits hJ hS (by omega) hr _ _ : T3 (f_X3_fits (xs (i + 1).toNatClampNeg) (xs (i + 2).toNatClampNeg) tr th sl rf) (f_X4_fits (xs (i + 1).toNatClampNeg) (xs (i + 2).toNatClampNeg) sp sv mf tb tpm tfm))
  exact lc_36 M tr kp th ot tp sl pk rf ik sp tk sv mf mo mn ma kb tb tpm tfm kpm kfm i (hin 1 (by decide)) rfl (hin 2 (by decide)) rfl  e1 e2 rfl hB (nx _ _ _ _ _ _ _ _ _ _ _ _ _ _ _ _ _ _ _ _ _ _ ⟨p, L, hJ.up hc, hS, hr', hT, hi, hk'⟩)
set_option maxHeartbeats 1000000 in
theorem st_37 {l : Launch} {D : va_G} {cT : Nat → ClassId} {b Ln : Nat} {xs : Nat → Int32} {g : GT} (M : ML l D cT b Ln xs g) (tr kp th ot : ShT) (tp : TpT) (sl : Nat → SlT) (pk rf : AI) (ik : Int32) (sp : ShT) (tk : TkT) (sv : SvT) (mf mo mn ma : AI) (kb tb : Bool) (tpm : ShT) (tfm : AI) (kpm : ShT) (kfm : AI) {bc bs c : Nat} (i : Int32) (hin : ∀ n, n ≤ 5 → inB (i + kI n) Ln = true) (hc : c < 512) (hB : bc + 26 ≤ 600000 ∧ bs + 1854 ≤ 7302250) (I : INV c tr kp th ot tp sl pk rf ik sp tk sv mf mo mn ma kb tb tpm tfm kpm kfm) (nx : NX g c (bc + 26) (bs + 1854) i) : g bc bs (lW tr kp th ot tp sl pk rf ik sp tk sv mf mo mn ma kb tb tpm tfm kpm kfm) 1386 [some (.ref 900), some (.ref 0), some (.ref 46), some (.int i)] [] := by
  obtain ⟨p, L, hJ, hS, hr, hT, hi, hk⟩ := I
  have hk' : kb = true → ∃ q Q, J q Q (999 + 24750 * (c + 1)) kp kpm := fun h => by
    obtain ⟨q, Q, j⟩ := hk h
    exact ⟨q, Q, j.up hc⟩
  obtain ⟨r, x1, x2, y1, y2, y3, y4, e1, e2, hr'⟩ := (s_pushed hJ hS (by omega) hr _ _ : T3 (f_X3_pushed (xs (i + 1).toNatClampNeg) (xs (i + 2).toNatClampNeg) tr th sl rf) (f_X4_pushed (xs (i + 1).toNatClampNeg) (xs (i + 2).toNatClampNeg) sp sv mf tb tpm tfm))
  exact lc_37 M tr kp th ot tp sl pk rf ik sp tk sv mf mo mn ma kb tb tpm tfm kpm kfm i (hin 1 (by decide)) rfl (hin 2 (by decide)) rfl  e1 e2 rfl hB (nx _ _ _ _ _ _ _ _ _ _ _ _ _ _ _ _ _ _ _ _ _ _ ⟨p, L, hJ.up hc, hS, hr', hT, hi, hk'⟩)
set_option maxHeartbeats 1000000 in
theorem st_38 {l : Launch} {D : va_G} {cT : Nat → ClassId} {b Ln : Nat} {xs : Nat → Int32} {g : GT} (M : ML l D cT b Ln xs g) (tr kp th ot : ShT) (tp : TpT) (sl : Nat → SlT) (pk rf : AI) (ik : Int32) (sp : ShT) (tk : TkT) (sv : SvT) (mf mo mn ma : AI) (kb tb : Bool) (tpm : ShT) (tfm : AI) (kpm : ShT) (kfm : AI) {bc bs c : Nat} (i : Int32) (hin : ∀ n, n ≤ 5 → inB (i + kI n) Ln = true) (hc : c < 512) (hB : bc + 26 ≤ 600000 ∧ bs + 1854 ≤ 7302250) (I : INV c tr kp th ot tp sl pk rf ik sp tk sv mf mo mn ma kb tb tpm tfm kpm kfm) (nx : NX g c (bc + 26) (bs + 1854) i) : g bc bs (lW tr kp th ot tp sl pk rf ik sp tk sv mf mo mn ma kb tb tpm tfm kpm kfm) 1419 [some (.ref 900), some (.ref 0), some (.ref 46), some (.int i)] [] := by
  obtain ⟨p, L, hJ, hS, hr, hT, hi, hk⟩ := I
  have hk' : kb = true → ∃ q Q, J q Q (999 + 24750 * (c + 1)) kp kpm := fun h => by
    obtain ⟨q, Q, j⟩ := hk h
    exact ⟨q, Q, j.up hc⟩
  obtain ⟨r, x1, x2, y1, e1, e2, hr'⟩ := (s_again hr _ _ _ : TK (f_X3_again (xs (i + 1).toNatClampNeg) (bz (xs (i + 2).toNatClampNeg)) pk rf) (f_X4_again (xs (i + 1).toNatClampNeg) (bz (xs (i + 2).toNatClampNeg)) mf))
  exact lc_38 M tr kp th ot tp sl pk rf ik sp tk sv mf mo mn ma kb tb tpm tfm kpm kfm i (hin 1 (by decide)) rfl (hin 2 (by decide)) rfl (bz_ok _) e1 e2 rfl hB (nx _ _ _ _ _ _ _ _ _ _ _ _ _ _ _ _ _ _ _ _ _ _ ⟨p, L, hJ.up hc, hS, hr', hT, hi, hk'⟩)
set_option maxHeartbeats 1000000 in
theorem st_39 {l : Launch} {D : va_G} {cT : Nat → ClassId} {b Ln : Nat} {xs : Nat → Int32} {g : GT} (M : ML l D cT b Ln xs g) (tr kp th ot : ShT) (tp : TpT) (sl : Nat → SlT) (pk rf : AI) (ik : Int32) (sp : ShT) (tk : TkT) (sv : SvT) (mf mo mn ma : AI) (kb tb : Bool) (tpm : ShT) (tfm : AI) (kpm : ShT) (kfm : AI) {bc bs c : Nat} (i : Int32) (hin : ∀ n, n ≤ 5 → inB (i + kI n) Ln = true) (hc : c < 512) (hB : bc + 26 ≤ 600000 ∧ bs + 1854 ≤ 7302250) (I : INV c tr kp th ot tp sl pk rf ik sp tk sv mf mo mn ma kb tb tpm tfm kpm kfm) (nx : NX g c (bc + 26) (bs + 1854) i) : g bc bs (lW tr kp th ot tp sl pk rf ik sp tk sv mf mo mn ma kb tb tpm tfm kpm kfm) 1468 [some (.ref 900), some (.ref 0), some (.ref 46), some (.int i)] [] := by
  obtain ⟨p, L, hJ, hS, hr, hT, hi, hk⟩ := I
  have hk' : kb = true → ∃ q Q, J q Q (999 + 24750 * (c + 1)) kp kpm := fun h => by
    obtain ⟨q, Q, j⟩ := hk h
    exact ⟨q, Q, j.up hc⟩
  obtain ⟨r, x1, y1, e1, e2, hr'⟩ := (s_lies hr _ _ _ _ : T1 (f_X3_lies (xs (i + 1).toNatClampNeg) (bz (xs (i + 2).toNatClampNeg)) (xs (i + 3).toNatClampNeg) (xs (i + 4).toNatClampNeg) rf) (f_X4_lies (xs (i + 1).toNatClampNeg) (bz (xs (i + 2).toNatClampNeg)) (xs (i + 3).toNatClampNeg) (xs (i + 4).toNatClampNeg) mf))
  exact lc_39 M tr kp th ot tp sl pk rf ik sp tk sv mf mo mn ma kb tb tpm tfm kpm kfm i (hin 1 (by decide)) rfl (hin 2 (by decide)) rfl (hin 3 (by decide)) rfl (hin 4 (by decide)) rfl (bz_ok _) e1 e2 rfl hB (nx _ _ _ _ _ _ _ _ _ _ _ _ _ _ _ _ _ _ _ _ _ _ ⟨p, L, hJ.up hc, hS, hr', hT, hi, hk'⟩)
set_option maxHeartbeats 1000000 in
theorem st_40 {l : Launch} {D : va_G} {cT : Nat → ClassId} {b Ln : Nat} {xs : Nat → Int32} {g : GT} (M : ML l D cT b Ln xs g) (tr kp th ot : ShT) (tp : TpT) (sl : Nat → SlT) (pk rf : AI) (ik : Int32) (sp : ShT) (tk : TkT) (sv : SvT) (mf mo mn ma : AI) (kb tb : Bool) (tpm : ShT) (tfm : AI) (kpm : ShT) (kfm : AI) {bc bs c : Nat} (i : Int32) (hin : ∀ n, n ≤ 5 → inB (i + kI n) Ln = true) (hc : c < 512) (hB : bc + 26 ≤ 600000 ∧ bs + 1854 ≤ 7302250) (I : INV c tr kp th ot tp sl pk rf ik sp tk sv mf mo mn ma kb tb tpm tfm kpm kfm) (nx : NX g c (bc + 26) (bs + 1854) i) : g bc bs (lW tr kp th ot tp sl pk rf ik sp tk sv mf mo mn ma kb tb tpm tfm kpm kfm) 1537 [some (.ref 900), some (.ref 0), some (.ref 46), some (.int i)] [] := by
  obtain ⟨p, L, hJ, hS, hr, hT, hi, hk⟩ := I
  have hk' : kb = true → ∃ q Q, J q Q (999 + 24750 * (c + 1)) kp kpm := fun h => by
    obtain ⟨q, Q, j⟩ := hk h
    exact ⟨q, Q, j.up hc⟩
  obtain ⟨r, x1, x2, y1, e1, e2, hr'⟩ := (s_stay hr _ _ _ _ : TK (f_X3_stay (xs (i + 1).toNatClampNeg) (bz (xs (i + 2).toNatClampNeg)) (xs (i + 3).toNatClampNeg) pk rf) (f_X4_stay (xs (i + 1).toNatClampNeg) (bz (xs (i + 2).toNatClampNeg)) (xs (i + 3).toNatClampNeg) mf))
  exact lc_40 M tr kp th ot tp sl pk rf ik sp tk sv mf mo mn ma kb tb tpm tfm kpm kfm i (hin 1 (by decide)) rfl (hin 2 (by decide)) rfl (hin 3 (by decide)) rfl (bz_ok _) e1 e2 rfl hB (nx _ _ _ _ _ _ _ _ _ _ _ _ _ _ _ _ _ _ _ _ _ _ ⟨p, L, hJ.up hc, hS, hr', hT, hi, hk'⟩)
set_option maxHeartbeats 1000000 in
theorem st_41 {l : Launch} {D : va_G} {cT : Nat → ClassId} {b Ln : Nat} {xs : Nat → Int32} {g : GT} (M : ML l D cT b Ln xs g) (tr kp th ot : ShT) (tp : TpT) (sl : Nat → SlT) (pk rf : AI) (ik : Int32) (sp : ShT) (tk : TkT) (sv : SvT) (mf mo mn ma : AI) (kb tb : Bool) (tpm : ShT) (tfm : AI) (kpm : ShT) (kfm : AI) {bc bs c : Nat} (i : Int32) (hin : ∀ n, n ≤ 5 → inB (i + kI n) Ln = true) (hc : c < 512) (hB : bc + 26 ≤ 600000 ∧ bs + 1854 ≤ 7302250) (I : INV c tr kp th ot tp sl pk rf ik sp tk sv mf mo mn ma kb tb tpm tfm kpm kfm) (nx : NX g c (bc + 26) (bs + 1854) i) : g bc bs (lW tr kp th ot tp sl pk rf ik sp tk sv mf mo mn ma kb tb tpm tfm kpm kfm) 1596 [some (.ref 900), some (.ref 0), some (.ref 46), some (.int i)] [] := by
  obtain ⟨p, L, hJ, hS, hr, hT, hi, hk⟩ := I
  have hk' : kb = true → ∃ q Q, J q Q (999 + 24750 * (c + 1)) kp kpm := fun h => by
    obtain ⟨q, Q, j⟩ := hk h
    exact ⟨q, Q, j.up hc⟩
  obtain ⟨r, y2, x1, y1, e1, e2, hr'⟩ := (s_rounds hr _ _ _ : TN (f_X3_rounds (xs (i + 1).toNatClampNeg) (bz (xs (i + 2).toNatClampNeg)) rf) (f_X4_rounds (xs (i + 1).toNatClampNeg) (bz (xs (i + 2).toNatClampNeg)) mf mn))
  exact lc_41 M tr kp th ot tp sl pk rf ik sp tk sv mf mo mn ma kb tb tpm tfm kpm kfm i (hin 1 (by decide)) rfl (hin 2 (by decide)) rfl (bz_ok _) e1 e2 rfl hB (nx _ _ _ _ _ _ _ _ _ _ _ _ _ _ _ _ _ _ _ _ _ _ ⟨p, L, hJ.up hc, hS, hr', hT, hi, hk'⟩)
set_option maxHeartbeats 1000000 in
theorem st_42 {l : Launch} {D : va_G} {cT : Nat → ClassId} {b Ln : Nat} {xs : Nat → Int32} {g : GT} (M : ML l D cT b Ln xs g) (tr kp th ot : ShT) (tp : TpT) (sl : Nat → SlT) (pk rf : AI) (ik : Int32) (sp : ShT) (tk : TkT) (sv : SvT) (mf mo mn ma : AI) (kb tb : Bool) (tpm : ShT) (tfm : AI) (kpm : ShT) (kfm : AI) {bc bs c : Nat} (i : Int32) (hin : ∀ n, n ≤ 5 → inB (i + kI n) Ln = true) (hc : c < 512) (hB : bc + 26 ≤ 600000 ∧ bs + 1854 ≤ 7302250) (I : INV c tr kp th ot tp sl pk rf ik sp tk sv mf mo mn ma kb tb tpm tfm kpm kfm) (nx : NX g c (bc + 26) (bs + 1854) i) : g bc bs (lW tr kp th ot tp sl pk rf ik sp tk sv mf mo mn ma kb tb tpm tfm kpm kfm) 1645 [some (.ref 900), some (.ref 0), some (.ref 46), some (.int i)] [] := by
  obtain ⟨p, L, hJ, hS, hr, hT, hi, hk⟩ := I
  have hk' : kb = true → ∃ q Q, J q Q (999 + 24750 * (c + 1)) kp kpm := fun h => by
    obtain ⟨q, Q, j⟩ := hk h
    exact ⟨q, Q, j.up hc⟩
  obtain ⟨r, x1, x2, y1, y2, y3, y4, e1, e2, hr'⟩ := (s_tail hJ (by omega) hr _ : T3 (f_X3_tail (xs (i + 1).toNatClampNeg) tr th rf) (f_X4_tail (xs (i + 1).toNatClampNeg) sp mf tb tpm tfm))
  exact lc_42 M tr kp th ot tp sl pk rf ik sp tk sv mf mo mn ma kb tb tpm tfm kpm kfm i (hin 1 (by decide)) rfl  e1 e2 rfl hB (nx _ _ _ _ _ _ _ _ _ _ _ _ _ _ _ _ _ _ _ _ _ _ ⟨p, L, hJ.up hc, hS, hr', hT, hi, hk'⟩)
set_option maxHeartbeats 1000000 in
theorem st_43 {l : Launch} {D : va_G} {cT : Nat → ClassId} {b Ln : Nat} {xs : Nat → Int32} {g : GT} (M : ML l D cT b Ln xs g) (tr kp th ot : ShT) (tp : TpT) (sl : Nat → SlT) (pk rf : AI) (ik : Int32) (sp : ShT) (tk : TkT) (sv : SvT) (mf mo mn ma : AI) (kb tb : Bool) (tpm : ShT) (tfm : AI) (kpm : ShT) (kfm : AI) {bc bs c : Nat} (i : Int32) (hin : ∀ n, n ≤ 5 → inB (i + kI n) Ln = true) (hc : c < 512) (hB : bc + 26 ≤ 600000 ∧ bs + 1854 ≤ 7302250) (I : INV c tr kp th ot tp sl pk rf ik sp tk sv mf mo mn ma kb tb tpm tfm kpm kfm) (nx : NX g c (bc + 26) (bs + 1854) i) : g bc bs (lW tr kp th ot tp sl pk rf ik sp tk sv mf mo mn ma kb tb tpm tfm kpm kfm) 1668 [some (.ref 900), some (.ref 0), some (.ref 46), some (.int i)] [] := by
  obtain ⟨p, L, hJ, hS, hr, hT, hi, hk⟩ := I
  have hk' : kb = true → ∃ q Q, J q Q (999 + 24750 * (c + 1)) kp kpm := fun h => by
    obtain ⟨q, Q, j⟩ := hk h
    exact ⟨q, Q, j.up hc⟩
  obtain ⟨r, y2, x1, y1, e1, e2, hr'⟩ := (s_brings hr _ _ _ _ : TN (f_X3_brings (xs (i + 1).toNatClampNeg) (xs (i + 2).toNatClampNeg) (xs (i + 3).toNatClampNeg) rf) (f_X4_brings (xs (i + 1).toNatClampNeg) (xs (i + 2).toNatClampNeg) (xs (i + 3).toNatClampNeg) mf ma))
  exact lc_43 M tr kp th ot tp sl pk rf ik sp tk sv mf mo mn ma kb tb tpm tfm kpm kfm i (hin 1 (by decide)) rfl (hin 2 (by decide)) rfl (hin 3 (by decide)) rfl  e1 e2 rfl hB (nx _ _ _ _ _ _ _ _ _ _ _ _ _ _ _ _ _ _ _ _ _ _ ⟨p, L, hJ.up hc, hS, hr', hT, hi, hk'⟩)
set_option maxHeartbeats 1000000 in
theorem st_44 {l : Launch} {D : va_G} {cT : Nat → ClassId} {b Ln : Nat} {xs : Nat → Int32} {g : GT} (M : ML l D cT b Ln xs g) (tr kp th ot : ShT) (tp : TpT) (sl : Nat → SlT) (pk rf : AI) (ik : Int32) (sp : ShT) (tk : TkT) (sv : SvT) (mf mo mn ma : AI) (kb tb : Bool) (tpm : ShT) (tfm : AI) (kpm : ShT) (kfm : AI) {bc bs c : Nat} (i : Int32) (hin : ∀ n, n ≤ 5 → inB (i + kI n) Ln = true) (hc : c < 512) (hB : bc + 26 ≤ 600000 ∧ bs + 1854 ≤ 7302250) (I : INV c tr kp th ot tp sl pk rf ik sp tk sv mf mo mn ma kb tb tpm tfm kpm kfm) (nx : NX g c (bc + 26) (bs + 1854) i) : g bc bs (lW tr kp th ot tp sl pk rf ik sp tk sv mf mo mn ma kb tb tpm tfm kpm kfm) 1711 [some (.ref 900), some (.ref 0), some (.ref 46), some (.int i)] [] := by
  obtain ⟨p, L, hJ, hS, hr, hT, hi, hk⟩ := I
  have hk' : kb = true → ∃ q Q, J q Q (999 + 24750 * (c + 1)) kp kpm := fun h => by
    obtain ⟨q, Q, j⟩ := hk h
    exact ⟨q, Q, j.up hc⟩
  obtain ⟨r, x1, x2, y1, y2, y3, y4, e1, e2, hr'⟩ := (s_after hJ hS hr _ _ : T3 (f_X3_after (xs (i + 1).toNatClampNeg) (xs (i + 2).toNatClampNeg) tr th sl rf) (f_X4_after (xs (i + 1).toNatClampNeg) (xs (i + 2).toNatClampNeg) sp sv mf tb tpm tfm))
  exact lc_44 M tr kp th ot tp sl pk rf ik sp tk sv mf mo mn ma kb tb tpm tfm kpm kfm i (hin 1 (by decide)) rfl (hin 2 (by decide)) rfl  e1 e2 rfl hB (nx _ _ _ _ _ _ _ _ _ _ _ _ _ _ _ _ _ _ _ _ _ _ ⟨p, L, hJ.up hc, hS, hr', hT, hi, hk'⟩)
set_option maxHeartbeats 1000000 in
theorem st_45 {l : Launch} {D : va_G} {cT : Nat → ClassId} {b Ln : Nat} {xs : Nat → Int32} {g : GT} (M : ML l D cT b Ln xs g) (tr kp th ot : ShT) (tp : TpT) (sl : Nat → SlT) (pk rf : AI) (ik : Int32) (sp : ShT) (tk : TkT) (sv : SvT) (mf mo mn ma : AI) (kb tb : Bool) (tpm : ShT) (tfm : AI) (kpm : ShT) (kfm : AI) {bc bs c : Nat} (i : Int32) (hin : ∀ n, n ≤ 5 → inB (i + kI n) Ln = true) (hc : c < 512) (hB : bc + 26 ≤ 600000 ∧ bs + 1854 ≤ 7302250) (I : INV c tr kp th ot tp sl pk rf ik sp tk sv mf mo mn ma kb tb tpm tfm kpm kfm) (nx : NX g c (bc + 26) (bs + 1854) i) : g bc bs (lW tr kp th ot tp sl pk rf ik sp tk sv mf mo mn ma kb tb tpm tfm kpm kfm) 1744 [some (.ref 900), some (.ref 0), some (.ref 46), some (.int i)] [] := by
  obtain ⟨p, L, hJ, hS, hr, hT, hi, hk⟩ := I
  have hk' : kb = true → ∃ q Q, J q Q (999 + 24750 * (c + 1)) kp kpm := fun h => by
    obtain ⟨q, Q, j⟩ := hk h
    exact ⟨q, Q, j.up hc⟩
  obtain ⟨r, x1, x2, y1, e1, e2, hr'⟩ := (s_fewest hJ hS hr _ : TF (f_X3_fewest (xs (i + 1).toNatClampNeg) tr th sl rf) (f_X4_fewest (xs (i + 1).toNatClampNeg) sp sv mf))
  exact lc_45 M tr kp th ot tp sl pk rf ik sp tk sv mf mo mn ma kb tb tpm tfm kpm kfm i (hin 1 (by decide)) rfl  e1 e2 rfl hB (nx _ _ _ _ _ _ _ _ _ _ _ _ _ _ _ _ _ _ _ _ _ _ ⟨p, L, hJ.up hc, hS, hr', hT, hi, hk'⟩)
set_option maxHeartbeats 1000000 in
theorem st_46 {l : Launch} {D : va_G} {cT : Nat → ClassId} {b Ln : Nat} {xs : Nat → Int32} {g : GT} (M : ML l D cT b Ln xs g) (tr kp th ot : ShT) (tp : TpT) (sl : Nat → SlT) (pk rf : AI) (ik : Int32) (sp : ShT) (tk : TkT) (sv : SvT) (mf mo mn ma : AI) (kb tb : Bool) (tpm : ShT) (tfm : AI) (kpm : ShT) (kfm : AI) {bc bs c : Nat} (i : Int32) (hin : ∀ n, n ≤ 5 → inB (i + kI n) Ln = true) (hc : c < 512) (hB : bc + 26 ≤ 600000 ∧ bs + 1854 ≤ 7302250) (I : INV c tr kp th ot tp sl pk rf ik sp tk sv mf mo mn ma kb tb tpm tfm kpm kfm) (nx : NX g c (bc + 26) (bs + 1854) i) : g bc bs (lW tr kp th ot tp sl pk rf ik sp tk sv mf mo mn ma kb tb tpm tfm kpm kfm) 1767 [some (.ref 900), some (.ref 0), some (.ref 46), some (.int i)] [] := by
  obtain ⟨p, L, hJ, hS, hr, hT, hi, hk⟩ := I
  have hk' : kb = true → ∃ q Q, J q Q (999 + 24750 * (c + 1)) kp kpm := fun h => by
    obtain ⟨q, Q, j⟩ := hk h
    exact ⟨q, Q, j.up hc⟩
  obtain ⟨r, e1, e2⟩ := (s_unserved hJ : ∃ r, f_X3_unserved tr = some r ∧ f_X4_unserved sp = some r)
  exact lc_46 M tr kp th ot tp sl pk rf ik sp tk sv mf mo mn ma kb tb tpm tfm kpm kfm i   e1 e2 rfl hB (nx _ _ _ _ _ _ _ _ _ _ _ _ _ _ _ _ _ _ _ _ _ _ ⟨p, L, hJ.up hc, hS, hr, hT, hi, hk'⟩)
set_option maxHeartbeats 1000000 in
theorem st_47 {l : Launch} {D : va_G} {cT : Nat → ClassId} {b Ln : Nat} {xs : Nat → Int32} {g : GT} (M : ML l D cT b Ln xs g) (tr kp th ot : ShT) (tp : TpT) (sl : Nat → SlT) (pk rf : AI) (ik : Int32) (sp : ShT) (tk : TkT) (sv : SvT) (mf mo mn ma : AI) (kb tb : Bool) (tpm : ShT) (tfm : AI) (kpm : ShT) (kfm : AI) {bc bs c : Nat} (i : Int32) (hin : ∀ n, n ≤ 5 → inB (i + kI n) Ln = true) (hc : c < 512) (hB : bc + 26 ≤ 600000 ∧ bs + 1854 ≤ 7302250) (I : INV c tr kp th ot tp sl pk rf ik sp tk sv mf mo mn ma kb tb tpm tfm kpm kfm) (nx : NX g c (bc + 26) (bs + 1854) i) : g bc bs (lW tr kp th ot tp sl pk rf ik sp tk sv mf mo mn ma kb tb tpm tfm kpm kfm) 1780 [some (.ref 900), some (.ref 0), some (.ref 46), some (.int i)] [] := by
  obtain ⟨p, L, hJ, hS, hr, hT, hi, hk⟩ := I
  have hk' : kb = true → ∃ q Q, J q Q (999 + 24750 * (c + 1)) kp kpm := fun h => by
    obtain ⟨q, Q, j⟩ := hk h
    exact ⟨q, Q, j.up hc⟩
  obtain ⟨r, x1, y1, e1, e2, hr'⟩ := (s_longest hJ hr : T1 (f_X3_longest tr rf) (f_X4_longest sp mf))
  exact lc_47 M tr kp th ot tp sl pk rf ik sp tk sv mf mo mn ma kb tb tpm tfm kpm kfm i   e1 e2 rfl hB (nx _ _ _ _ _ _ _ _ _ _ _ _ _ _ _ _ _ _ _ _ _ _ ⟨p, L, hJ.up hc, hS, hr', hT, hi, hk'⟩)
set_option maxHeartbeats 1000000 in
theorem st_48 {l : Launch} {D : va_G} {cT : Nat → ClassId} {b Ln : Nat} {xs : Nat → Int32} {g : GT} (M : ML l D cT b Ln xs g) (tr kp th ot : ShT) (tp : TpT) (sl : Nat → SlT) (pk rf : AI) (ik : Int32) (sp : ShT) (tk : TkT) (sv : SvT) (mf mo mn ma : AI) (kb tb : Bool) (tpm : ShT) (tfm : AI) (kpm : ShT) (kfm : AI) {bc bs c : Nat} (i : Int32) (hin : ∀ n, n ≤ 5 → inB (i + kI n) Ln = true) (hc : c < 512) (hB : bc + 26 ≤ 600000 ∧ bs + 1854 ≤ 7302250) (I : INV c tr kp th ot tp sl pk rf ik sp tk sv mf mo mn ma kb tb tpm tfm kpm kfm) (nx : NX g c (bc + 26) (bs + 1854) i) : g bc bs (lW tr kp th ot tp sl pk rf ik sp tk sv mf mo mn ma kb tb tpm tfm kpm kfm) 1793 [some (.ref 900), some (.ref 0), some (.ref 46), some (.int i)] [] := by
  obtain ⟨p, L, hJ, hS, hr, hT, hi, hk⟩ := I
  have hk' : kb = true → ∃ q Q, J q Q (999 + 24750 * (c + 1)) kp kpm := fun h => by
    obtain ⟨q, Q, j⟩ := hk h
    exact ⟨q, Q, j.up hc⟩
  obtain ⟨r, x1, y1, e1, e2, hr'⟩ := (s_ranked hJ hr _ : T1 (f_X3_ranked (xs (i + 1).toNatClampNeg) tr rf) (f_X4_ranked (xs (i + 1).toNatClampNeg) sp mf))
  exact lc_48 M tr kp th ot tp sl pk rf ik sp tk sv mf mo mn ma kb tb tpm tfm kpm kfm i (hin 1 (by decide)) rfl  e1 e2 rfl hB (nx _ _ _ _ _ _ _ _ _ _ _ _ _ _ _ _ _ _ _ _ _ _ ⟨p, L, hJ.up hc, hS, hr', hT, hi, hk'⟩)
set_option maxHeartbeats 1000000 in
theorem st_49 {l : Launch} {D : va_G} {cT : Nat → ClassId} {b Ln : Nat} {xs : Nat → Int32} {g : GT} (M : ML l D cT b Ln xs g) (tr kp th ot : ShT) (tp : TpT) (sl : Nat → SlT) (pk rf : AI) (ik : Int32) (sp : ShT) (tk : TkT) (sv : SvT) (mf mo mn ma : AI) (kb tb : Bool) (tpm : ShT) (tfm : AI) (kpm : ShT) (kfm : AI) {bc bs c : Nat} (i : Int32) (hin : ∀ n, n ≤ 5 → inB (i + kI n) Ln = true) (hc : c < 512) (hB : bc + 26 ≤ 600000 ∧ bs + 1854 ≤ 7302250) (I : INV c tr kp th ot tp sl pk rf ik sp tk sv mf mo mn ma kb tb tpm tfm kpm kfm) (nx : NX g c (bc + 26) (bs + 1854) i) : g bc bs (lW tr kp th ot tp sl pk rf ik sp tk sv mf mo mn ma kb tb tpm tfm kpm kfm) 1816 [some (.ref 900), some (.ref 0), some (.ref 46), some (.int i)] [] := by
  obtain ⟨p, L, hJ, hS, hr, hT, hi, hk⟩ := I
  have hk' : kb = true → ∃ q Q, J q Q (999 + 24750 * (c + 1)) kp kpm := fun h => by
    obtain ⟨q, Q, j⟩ := hk h
    exact ⟨q, Q, j.up hc⟩
  obtain ⟨r, x1, y1, x2, y2, p2, L2, e1, e2, hJ2, hr', hl⟩ := (s_serve hJ (by omega) hr _ : TM (999 + 24750 * c + 99) L (f_X3_serve (xs (i + 1).toNatClampNeg) tr rf) (f_X4_serve (xs (i + 1).toNatClampNeg) sp mf))
  exact lc_49 M tr kp th ot tp sl pk rf ik sp tk sv mf mo mn ma kb tb tpm tfm kpm kfm i (hin 1 (by decide)) rfl  e1 e2 rfl hB (nx _ _ _ _ _ _ _ _ _ _ _ _ _ _ _ _ _ _ _ _ _ _ ⟨p2, L2, hJ2.mono (by omega) (by omega), hS.mono hl, hr', hT, hi, hk'⟩)
set_option maxHeartbeats 1000000 in
theorem st_50 {l : Launch} {D : va_G} {cT : Nat → ClassId} {b Ln : Nat} {xs : Nat → Int32} {g : GT} (M : ML l D cT b Ln xs g) (tr kp th ot : ShT) (tp : TpT) (sl : Nat → SlT) (pk rf : AI) (ik : Int32) (sp : ShT) (tk : TkT) (sv : SvT) (mf mo mn ma : AI) (kb tb : Bool) (tpm : ShT) (tfm : AI) (kpm : ShT) (kfm : AI) {bc bs c : Nat} (i : Int32) (hin : ∀ n, n ≤ 5 → inB (i + kI n) Ln = true) (hc : c < 512) (hB : bc + 26 ≤ 600000 ∧ bs + 1854 ≤ 7302250) (I : INV c tr kp th ot tp sl pk rf ik sp tk sv mf mo mn ma kb tb tpm tfm kpm kfm) (nx : NX g c (bc + 26) (bs + 1854) i) : g bc bs (lW tr kp th ot tp sl pk rf ik sp tk sv mf mo mn ma kb tb tpm tfm kpm kfm) 1839 [some (.ref 900), some (.ref 0), some (.ref 46), some (.int i)] [] := by
  obtain ⟨p, L, hJ, hS, hr, hT, hi, hk⟩ := I
  have hk' : kb = true → ∃ q Q, J q Q (999 + 24750 * (c + 1)) kp kpm := fun h => by
    obtain ⟨q, Q, j⟩ := hk h
    exact ⟨q, Q, j.up hc⟩
  obtain ⟨r, x1, y1, x2, y2, p2, L2, e1, e2, hJ2, hr', hl⟩ := (s_lets hJ hr _ : TM (999 + 24750 * c) L (f_X3_lets (xs (i + 1).toNatClampNeg) tr rf) (f_X4_lets (xs (i + 1).toNatClampNeg) sp mf))
  exact lc_50 M tr kp th ot tp sl pk rf ik sp tk sv mf mo mn ma kb tb tpm tfm kpm kfm i (hin 1 (by decide)) rfl  e1 e2 rfl hB (nx _ _ _ _ _ _ _ _ _ _ _ _ _ _ _ _ _ _ _ _ _ _ ⟨p2, L2, hJ2.mono (by omega) (by omega), hS.mono hl, hr', hT, hi, hk'⟩)
set_option maxHeartbeats 1000000 in
theorem st_51 {l : Launch} {D : va_G} {cT : Nat → ClassId} {b Ln : Nat} {xs : Nat → Int32} {g : GT} (M : ML l D cT b Ln xs g) (tr kp th ot : ShT) (tp : TpT) (sl : Nat → SlT) (pk rf : AI) (ik : Int32) (sp : ShT) (tk : TkT) (sv : SvT) (mf mo mn ma : AI) (kb tb : Bool) (tpm : ShT) (tfm : AI) (kpm : ShT) (kfm : AI) {bc bs c : Nat} (i : Int32) (hin : ∀ n, n ≤ 5 → inB (i + kI n) Ln = true) (hc : c < 512) (hB : bc + 26 ≤ 600000 ∧ bs + 1854 ≤ 7302250) (I : INV c tr kp th ot tp sl pk rf ik sp tk sv mf mo mn ma kb tb tpm tfm kpm kfm) (nx : NX g c (bc + 26) (bs + 1854) i) : g bc bs (lW tr kp th ot tp sl pk rf ik sp tk sv mf mo mn ma kb tb tpm tfm kpm kfm) 1862 [some (.ref 900), some (.ref 0), some (.ref 46), some (.int i)] [] := by
  obtain ⟨p, L, hJ, hS, hr, hT, hi, hk⟩ := I
  have hk' : kb = true → ∃ q Q, J q Q (999 + 24750 * (c + 1)) kp kpm := fun h => by
    obtain ⟨q, Q, j⟩ := hk h
    exact ⟨q, Q, j.up hc⟩
  obtain ⟨r, x1, y1, x2, y2, p2, L2, e1, e2, hJ2, hr', hl⟩ := (s_moves hJ hr _ _ : TM (999 + 24750 * c) L (f_X3_moves (xs (i + 1).toNatClampNeg) (xs (i + 2).toNatClampNeg) tr rf) (f_X4_moves (xs (i + 1).toNatClampNeg) (xs (i + 2).toNatClampNeg) sp mf))
  exact lc_51 M tr kp th ot tp sl pk rf ik sp tk sv mf mo mn ma kb tb tpm tfm kpm kfm i (hin 1 (by decide)) rfl (hin 2 (by decide)) rfl  e1 e2 rfl hB (nx _ _ _ _ _ _ _ _ _ _ _ _ _ _ _ _ _ _ _ _ _ _ ⟨p2, L2, hJ2.mono (by omega) (by omega), hS.mono hl, hr', hT, hi, hk'⟩)
set_option maxHeartbeats 1000000 in
theorem st_52 {l : Launch} {D : va_G} {cT : Nat → ClassId} {b Ln : Nat} {xs : Nat → Int32} {g : GT} (M : ML l D cT b Ln xs g) (tr kp th ot : ShT) (tp : TpT) (sl : Nat → SlT) (pk rf : AI) (ik : Int32) (sp : ShT) (tk : TkT) (sv : SvT) (mf mo mn ma : AI) (kb tb : Bool) (tpm : ShT) (tfm : AI) (kpm : ShT) (kfm : AI) {bc bs c : Nat} (i : Int32) (hin : ∀ n, n ≤ 5 → inB (i + kI n) Ln = true) (hc : c < 512) (hB : bc + 26 ≤ 600000 ∧ bs + 1854 ≤ 7302250) (I : INV c tr kp th ot tp sl pk rf ik sp tk sv mf mo mn ma kb tb tpm tfm kpm kfm) (nx : NX g c (bc + 26) (bs + 1854) i) : g bc bs (lW tr kp th ot tp sl pk rf ik sp tk sv mf mo mn ma kb tb tpm tfm kpm kfm) 1895 [some (.ref 900), some (.ref 0), some (.ref 46), some (.int i)] [] := by
  obtain ⟨p, L, hJ, hS, hr, hT, hi, hk⟩ := I
  have hk' : kb = true → ∃ q Q, J q Q (999 + 24750 * (c + 1)) kp kpm := fun h => by
    obtain ⟨q, Q, j⟩ := hk h
    exact ⟨q, Q, j.up hc⟩
  obtain ⟨r, x1, y1, x2, y2, p2, L2, e1, e2, hJ2, hr', hl⟩ := (s_leaves hJ hr : TM (999 + 24750 * c) L (f_X3_leaves tr rf) (f_X4_leaves sp mf))
  exact lc_52 M tr kp th ot tp sl pk rf ik sp tk sv mf mo mn ma kb tb tpm tfm kpm kfm i   e1 e2 rfl hB (nx _ _ _ _ _ _ _ _ _ _ _ _ _ _ _ _ _ _ _ _ _ _ ⟨p2, L2, hJ2.mono (by omega) (by omega), hS.mono hl, hr', hT, hi, hk'⟩)
set_option maxHeartbeats 1000000 in
theorem st_53 {l : Launch} {D : va_G} {cT : Nat → ClassId} {b Ln : Nat} {xs : Nat → Int32} {g : GT} (M : ML l D cT b Ln xs g) (tr kp th ot : ShT) (tp : TpT) (sl : Nat → SlT) (pk rf : AI) (ik : Int32) (sp : ShT) (tk : TkT) (sv : SvT) (mf mo mn ma : AI) (kb tb : Bool) (tpm : ShT) (tfm : AI) (kpm : ShT) (kfm : AI) {bc bs c : Nat} (i : Int32) (hin : ∀ n, n ≤ 5 → inB (i + kI n) Ln = true) (hc : c < 512) (hB : bc + 26 ≤ 600000 ∧ bs + 1854 ≤ 7302250) (I : INV c tr kp th ot tp sl pk rf ik sp tk sv mf mo mn ma kb tb tpm tfm kpm kfm) (nx : NX g c (bc + 26) (bs + 1854) i) : g bc bs (lW tr kp th ot tp sl pk rf ik sp tk sv mf mo mn ma kb tb tpm tfm kpm kfm) 1908 [some (.ref 900), some (.ref 0), some (.ref 46), some (.int i)] [] := by
  obtain ⟨p, L, hJ, hS, hr, hT, hi, hk⟩ := I
  have hk' : kb = true → ∃ q Q, J q Q (999 + 24750 * (c + 1)) kp kpm := fun h => by
    obtain ⟨q, Q, j⟩ := hk h
    exact ⟨q, Q, j.up hc⟩
  obtain ⟨r, x1, y1, x2, y2, p2, L2, e1, e2, hJ2, hr', hl⟩ := (s_day hJ (by omega) hr _ : TM (999 + 24750 * c + 99) L (f_X3_day (xs (i + 1).toNatClampNeg) tr rf) (f_X4_day (xs (i + 1).toNatClampNeg) sp mf))
  exact lc_53 M tr kp th ot tp sl pk rf ik sp tk sv mf mo mn ma kb tb tpm tfm kpm kfm i (hin 1 (by decide)) rfl  e1 e2 rfl hB (nx _ _ _ _ _ _ _ _ _ _ _ _ _ _ _ _ _ _ _ _ _ _ ⟨p2, L2, hJ2.mono (by omega) (by omega), hS.mono hl, hr', hT, hi, hk'⟩)
set_option maxHeartbeats 1000000 in
theorem st_54 {l : Launch} {D : va_G} {cT : Nat → ClassId} {b Ln : Nat} {xs : Nat → Int32} {g : GT} (M : ML l D cT b Ln xs g) (tr kp th ot : ShT) (tp : TpT) (sl : Nat → SlT) (pk rf : AI) (ik : Int32) (sp : ShT) (tk : TkT) (sv : SvT) (mf mo mn ma : AI) (kb tb : Bool) (tpm : ShT) (tfm : AI) (kpm : ShT) (kfm : AI) {bc bs c : Nat} (i : Int32) (hin : ∀ n, n ≤ 5 → inB (i + kI n) Ln = true) (hc : c < 512) (hB : bc + 26 ≤ 600000 ∧ bs + 1854 ≤ 7302250) (I : INV c tr kp th ot tp sl pk rf ik sp tk sv mf mo mn ma kb tb tpm tfm kpm kfm) (nx : NX g c (bc + 26) (bs + 1854) i) : g bc bs (lW tr kp th ot tp sl pk rf ik sp tk sv mf mo mn ma kb tb tpm tfm kpm kfm) 1931 [some (.ref 900), some (.ref 0), some (.ref 46), some (.int i)] [] := by
  obtain ⟨p, L, hJ, hS, hr, hT, hi, hk⟩ := I
  have hk' : kb = true → ∃ q Q, J q Q (999 + 24750 * (c + 1)) kp kpm := fun h => by
    obtain ⟨q, Q, j⟩ := hk h
    exact ⟨q, Q, j.up hc⟩
  obtain ⟨r, x1, y1, e1, e2, hJ2⟩ := (s_anew hJ : ∃ r s' m', f_X3_anew tr = some (r, s') ∧ f_X4_anew sp = some (r, m') ∧ J p L (999 + 24750 * c) s' m')
  exact lc_54 M tr kp th ot tp sl pk rf ik sp tk sv mf mo mn ma kb tb tpm tfm kpm kfm i   e1 e2 rfl hB (nx _ _ _ _ _ _ _ _ _ _ _ _ _ _ _ _ _ _ _ _ _ _ ⟨p, L, hJ2.up hc, hS, hr, hT, hi, hk'⟩)
set_option maxHeartbeats 1000000 in
theorem st_55 {l : Launch} {D : va_G} {cT : Nat → ClassId} {b Ln : Nat} {xs : Nat → Int32} {g : GT} (M : ML l D cT b Ln xs g) (tr kp th ot : ShT) (tp : TpT) (sl : Nat → SlT) (pk rf : AI) (ik : Int32) (sp : ShT) (tk : TkT) (sv : SvT) (mf mo mn ma : AI) (kb tb : Bool) (tpm : ShT) (tfm : AI) (kpm : ShT) (kfm : AI) {bc bs c : Nat} (i : Int32) (hin : ∀ n, n ≤ 5 → inB (i + kI n) Ln = true) (hc : c < 512) (hB : bc + 26 ≤ 600000 ∧ bs + 1854 ≤ 7302250) (I : INV c tr kp th ot tp sl pk rf ik sp tk sv mf mo mn ma kb tb tpm tfm kpm kfm) (nx : NX g c (bc + 26) (bs + 1854) i) : g bc bs (lW tr kp th ot tp sl pk rf ik sp tk sv mf mo mn ma kb tb tpm tfm kpm kfm) 1944 [some (.ref 900), some (.ref 0), some (.ref 46), some (.int i)] [] := by
  obtain ⟨p, L, hJ, hS, hr, hT, hi, hk⟩ := I
  have hk' : kb = true → ∃ q Q, J q Q (999 + 24750 * (c + 1)) kp kpm := fun h => by
    obtain ⟨q, Q, j⟩ := hk h
    exact ⟨q, Q, j.up hc⟩
  obtain ⟨r, x1, y1, e1, e2, hJ2⟩ := (s_seed hJ _ : ∃ r s' m', f_X3_seed (xs (i + 1).toNatClampNeg) tr = some (r, s') ∧ f_X4_seed (xs (i + 1).toNatClampNeg) sp = some (r, m') ∧ J p L (999 + 24750 * c) s' m')
  exact lc_55 M tr kp th ot tp sl pk rf ik sp tk sv mf mo mn ma kb tb tpm tfm kpm kfm i (hin 1 (by decide)) rfl  e1 e2 rfl hB (nx _ _ _ _ _ _ _ _ _ _ _ _ _ _ _ _ _ _ _ _ _ _ ⟨p, L, hJ2.up hc, hS, hr, hT, hi, hk'⟩)
set_option maxHeartbeats 1000000 in
theorem st_56 {l : Launch} {D : va_G} {cT : Nat → ClassId} {b Ln : Nat} {xs : Nat → Int32} {g : GT} (M : ML l D cT b Ln xs g) (tr kp th ot : ShT) (tp : TpT) (sl : Nat → SlT) (pk rf : AI) (ik : Int32) (sp : ShT) (tk : TkT) (sv : SvT) (mf mo mn ma : AI) (kb tb : Bool) (tpm : ShT) (tfm : AI) (kpm : ShT) (kfm : AI) {bc bs c : Nat} (i : Int32) (hin : ∀ n, n ≤ 5 → inB (i + kI n) Ln = true) (hc : c < 512) (hB : bc + 26 ≤ 600000 ∧ bs + 1854 ≤ 7302250) (I : INV c tr kp th ot tp sl pk rf ik sp tk sv mf mo mn ma kb tb tpm tfm kpm kfm) (nx : NX g c (bc + 26) (bs + 1854) i) : g bc bs (lW tr kp th ot tp sl pk rf ik sp tk sv mf mo mn ma kb tb tpm tfm kpm kfm) 1967 [some (.ref 900), some (.ref 0), some (.ref 46), some (.int i)] [] := by
  obtain ⟨p, L, hJ, hS, hr, hT, hi, hk⟩ := I
  have hk' : kb = true → ∃ q Q, J q Q (999 + 24750 * (c + 1)) kp kpm := fun h => by
    obtain ⟨q, Q, j⟩ := hk h
    exact ⟨q, Q, j.up hc⟩
  obtain ⟨r, x1, y1, y2, e1, e2, hJ2⟩ := (s_image hJ _ _ _ _ _ : ∃ r kp' kq' kf', f_X3_image tr kp ik = some (r, kp', 1) ∧ f_X4_image sp kb kpm kfm = some (r, true, kq', kf') ∧ J p L (999 + 24750 * c) kp' kq')
  exact lc_56 M tr kp th ot tp sl pk rf ik sp tk sv mf mo mn ma kb tb tpm tfm kpm kfm i   e1 e2 rfl hB (nx _ _ _ _ _ _ _ _ _ _ _ _ _ _ _ _ _ _ _ _ _ _ ⟨p, L, hJ.up hc, hS, hr, hT, rfl, fun _ => ⟨p, L, hJ2.up hc⟩⟩)
set_option maxHeartbeats 1000000 in
theorem st_57 {l : Launch} {D : va_G} {cT : Nat → ClassId} {b Ln : Nat} {xs : Nat → Int32} {g : GT} (M : ML l D cT b Ln xs g) (tr kp th ot : ShT) (tp : TpT) (sl : Nat → SlT) (pk rf : AI) (ik : Int32) (sp : ShT) (tk : TkT) (sv : SvT) (mf mo mn ma : AI) (kb tb : Bool) (tpm : ShT) (tfm : AI) (kpm : ShT) (kfm : AI) {bc bs c : Nat} (i : Int32) (hin : ∀ n, n ≤ 5 → inB (i + kI n) Ln = true) (hc : c < 512) (hB : bc + 26 ≤ 600000 ∧ bs + 1854 ≤ 7302250) (I : INV c tr kp th ot tp sl pk rf ik sp tk sv mf mo mn ma kb tb tpm tfm kpm kfm) (nx : NX g c (bc + 26) (bs + 1854) i) : g bc bs (lW tr kp th ot tp sl pk rf ik sp tk sv mf mo mn ma kb tb tpm tfm kpm kfm) 1980 [some (.ref 900), some (.ref 0), some (.ref 46), some (.int i)] [] := by
  obtain ⟨p, L, hJ, hS, hr, hT, hi, hk⟩ := I
  have hk' : kb = true → ∃ q Q, J q Q (999 + 24750 * (c + 1)) kp kpm := fun h => by
    obtain ⟨q, Q, j⟩ := hk h
    exact ⟨q, Q, j.up hc⟩
  have H : ∃ q Q, kb = true → J q Q (999 + 24750 * c) kp kpm := by
    cases kb with
    | false => exact ⟨0, 0, fun h => (by cases h)⟩
    | true =>
      obtain ⟨q, Q, j⟩ := hk rfl
      exact ⟨q, Q, fun _ => j⟩
  obtain ⟨q, Q, hq⟩ := H
  obtain ⟨r, x1, x2, x3, y1, y2, y3, p2, L2, e1, e2, hJ2, hS2, hr'⟩ := (s_back hJ hS hr hq : TB (999 + 24750 * c) (f_X3_back tr kp sl rf (if kb = true then 1 else 0)) (f_X4_back sp sv mf kb kpm) kb)
  rw [← hi] at e1
  exact lc_57 M tr kp th ot tp sl pk rf ik sp tk sv mf mo mn ma kb tb tpm tfm kpm kfm i e1 e2 rfl hB (nx _ _ _ _ _ _ _ _ _ _ _ _ _ _ _ _ _ _ _ _ _ _ ⟨p2, L2, hJ2.up hc, hS2, hr', hT, hi, hk'⟩)
set_option maxHeartbeats 1000000 in
theorem st_58 {l : Launch} {D : va_G} {cT : Nat → ClassId} {b Ln : Nat} {xs : Nat → Int32} {g : GT} (M : ML l D cT b Ln xs g) (tr kp th ot : ShT) (tp : TpT) (sl : Nat → SlT) (pk rf : AI) (ik : Int32) (sp : ShT) (tk : TkT) (sv : SvT) (mf mo mn ma : AI) (kb tb : Bool) (tpm : ShT) (tfm : AI) (kpm : ShT) (kfm : AI) {bc bs c : Nat} (i : Int32) (hin : ∀ n, n ≤ 5 → inB (i + kI n) Ln = true) (hc : c < 512) (hB : bc + 26 ≤ 600000 ∧ bs + 1854 ≤ 7302250) (I : INV c tr kp th ot tp sl pk rf ik sp tk sv mf mo mn ma kb tb tpm tfm kpm kfm) (nx : NX g c (bc + 26) (bs + 1854) i) : g bc bs (lW tr kp th ot tp sl pk rf ik sp tk sv mf mo mn ma kb tb tpm tfm kpm kfm) 1993 [some (.ref 900), some (.ref 0), some (.ref 46), some (.int i)] [] := by
  obtain ⟨p, L, hJ, hS, hr, hT, hi, hk⟩ := I
  have hk' : kb = true → ∃ q Q, J q Q (999 + 24750 * (c + 1)) kp kpm := fun h => by
    obtain ⟨q, Q, j⟩ := hk h
    exact ⟨q, Q, j.up hc⟩
  obtain ⟨r, e1, e2⟩ := (s_status hJ hS hT hr _ : ∃ r, f_X3_status (xs (i + 1).toNatClampNeg) tr tp sl rf = some r ∧ f_X4_status (xs (i + 1).toNatClampNeg) sp tk sv mf = some r)
  exact lc_58 M tr kp th ot tp sl pk rf ik sp tk sv mf mo mn ma kb tb tpm tfm kpm kfm i (hin 1 (by decide)) rfl  e1 e2 rfl hB (nx _ _ _ _ _ _ _ _ _ _ _ _ _ _ _ _ _ _ _ _ _ _ ⟨p, L, hJ.up hc, hS, hr, hT, hi, hk'⟩)
