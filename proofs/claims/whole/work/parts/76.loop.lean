/-! ===== the switch and the loop; written by wip/whole/loop.py ===== -/
def offsL : Array Int := #[251, 294, 367, 430, 464, 487, 520, 553, 566, 599, 622, 665, 688, 701, 714, 747, 780, 803, 836, 879, 902, 915, 948, 961, 984, 1007, 1030, 1053, 1086, 1119, 1152, 1165, 1208, 1231, 1264, 1287, 1320, 1353, 1386, 1435, 1504, 1563, 1612, 1635, 1678, 1711, 1734, 1747, 1760, 1783, 1806, 1829, 1862, 1875, 1898, 1911, 1934, 1947, 1960]
theorem tsL : decode code 33 = .ok (.tableswitch 1983 0 58 offsL, 251) := by decide +kernel
theorem and63 (v : Int32) : ∃ k, k < 64 ∧ v &&& 63 = kI k := by
  refine ⟨v.toBitVec.toNat % 64, Nat.mod_lt _ (by decide), ?_⟩
  apply Int32.toBitVec.inj
  apply BitVec.eq_of_toNat_eq
  rw [Int32.toBitVec_and, BitVec.toNat_and]
  show v.toBitVec.toNat &&& 63 = (BitVec.ofNat 32 (v.toBitVec.toNat % 64)).toNat
  rw [BitVec.toNat_ofNat, show (63 : Nat) = 2 ^ 6 - 1 from rfl, Nat.and_two_pow_sub_one_eq_mod]
  omega
theorem inBL {a N : Nat} (h : a < N) (hN : N ≤ 4000) : inB (kI a) N = true := by
  unfold inB
  rw [kI_toInt (by omega)]
  simp only [Bool.and_eq_true, decide_eq_true_eq]
  omega
set_option maxHeartbeats 4000000 in
theorem sw_0 {l : Launch} {D : va_G} {cT : Nat → ClassId} {b Ln : Nat} {xs : Nat → Int32} {g : GT} (M : ML l D cT b Ln xs g) (tr kp th ot : ShT) (tp : TpT) (sl : Nat → SlT) (pk rf : AI) (ik : Int32) (sp : ShT) (tk : TkT) (sv : SvT) (mf mo mn ma : AI) (kb tb : Bool) (tpm : ShT) (tfm : AI) (kpm : ShT) (kfm : AI) {bc bs c : Nat} (i : Int32) (hin : ∀ n, n ≤ 5 → inB (i + kI n) Ln = true) (hc : c < 512) (hB : bc + 26 ≤ 600000 ∧ bs + 1854 ≤ 7302250) (I : INV c tr kp th ot tp sl pk rf ik sp tk sv mf mo mn ma kb tb tpm tfm kpm kfm) (nx : NX g c (bc + 26) (bs + 1854) i) {k : Nat} (h1 : 0 ≤ k) (h2 : k < 10) : g bc bs (lW tr kp th ot tp sl pk rf ik sp tk sv mf mo mn ma kb tb tpm tfm kpm kfm) 33 [some (.ref 900), some (.ref 0), some (.ref 46), some (.int i)] [.int (kI k)] := by
  by_cases c0 : k = 0
  · subst c0
    exact m_tsI M.mb (dflt := 1983) (t0 := 0) (t1 := 58) (offs := offsL) (len := 251) (tgt := 284) 0 tsL (by rw [kI_toInt (by decide)]; rfl) (by decide) rfl (by decide) (st_0 M tr kp th ot tp sl pk rf ik sp tk sv mf mo mn ma kb tb tpm tfm kpm kfm i hin hc hB I nx)
  by_cases c1 : k = 1
  · subst c1
    exact m_tsI M.mb (dflt := 1983) (t0 := 0) (t1 := 58) (offs := offsL) (len := 251) (tgt := 327) 1 tsL (by rw [kI_toInt (by decide)]; rfl) (by decide) rfl (by decide) (st_1 M tr kp th ot tp sl pk rf ik sp tk sv mf mo mn ma kb tb tpm tfm kpm kfm i hin hc hB I nx)
  by_cases c2 : k = 2
  · subst c2
    exact m_tsI M.mb (dflt := 1983) (t0 := 0) (t1 := 58) (offs := offsL) (len := 251) (tgt := 400) 2 tsL (by rw [kI_toInt (by decide)]; rfl) (by decide) rfl (by decide) (st_2 M tr kp th ot tp sl pk rf ik sp tk sv mf mo mn ma kb tb tpm tfm kpm kfm i hin hc hB I nx)
  by_cases c3 : k = 3
  · subst c3
    exact m_tsI M.mb (dflt := 1983) (t0 := 0) (t1 := 58) (offs := offsL) (len := 251) (tgt := 463) 3 tsL (by rw [kI_toInt (by decide)]; rfl) (by decide) rfl (by decide) (st_3 M tr kp th ot tp sl pk rf ik sp tk sv mf mo mn ma kb tb tpm tfm kpm kfm i hin hc hB I nx)
  by_cases c4 : k = 4
  · subst c4
    exact m_tsI M.mb (dflt := 1983) (t0 := 0) (t1 := 58) (offs := offsL) (len := 251) (tgt := 497) 4 tsL (by rw [kI_toInt (by decide)]; rfl) (by decide) rfl (by decide) (st_4 M tr kp th ot tp sl pk rf ik sp tk sv mf mo mn ma kb tb tpm tfm kpm kfm i hin hc hB I nx)
  by_cases c5 : k = 5
  · subst c5
    exact m_tsI M.mb (dflt := 1983) (t0 := 0) (t1 := 58) (offs := offsL) (len := 251) (tgt := 520) 5 tsL (by rw [kI_toInt (by decide)]; rfl) (by decide) rfl (by decide) (st_5 M tr kp th ot tp sl pk rf ik sp tk sv mf mo mn ma kb tb tpm tfm kpm kfm i hin hc hB I nx)
  by_cases c6 : k = 6
  · subst c6
    exact m_tsI M.mb (dflt := 1983) (t0 := 0) (t1 := 58) (offs := offsL) (len := 251) (tgt := 553) 6 tsL (by rw [kI_toInt (by decide)]; rfl) (by decide) rfl (by decide) (st_6 M tr kp th ot tp sl pk rf ik sp tk sv mf mo mn ma kb tb tpm tfm kpm kfm i hin hc hB I nx)
  by_cases c7 : k = 7
  · subst c7
    exact m_tsI M.mb (dflt := 1983) (t0 := 0) (t1 := 58) (offs := offsL) (len := 251) (tgt := 586) 7 tsL (by rw [kI_toInt (by decide)]; rfl) (by decide) rfl (by decide) (st_7 M tr kp th ot tp sl pk rf ik sp tk sv mf mo mn ma kb tb tpm tfm kpm kfm i hin hc hB I nx)
  by_cases c8 : k = 8
  · subst c8
    exact m_tsI M.mb (dflt := 1983) (t0 := 0) (t1 := 58) (offs := offsL) (len := 251) (tgt := 599) 8 tsL (by rw [kI_toInt (by decide)]; rfl) (by decide) rfl (by decide) (st_8 M tr kp th ot tp sl pk rf ik sp tk sv mf mo mn ma kb tb tpm tfm kpm kfm i hin hc hB I nx)
  have c9 : k = 9 := by omega
  subst c9
  exact m_tsI M.mb (dflt := 1983) (t0 := 0) (t1 := 58) (offs := offsL) (len := 251) (tgt := 632) 9 tsL (by rw [kI_toInt (by decide)]; rfl) (by decide) rfl (by decide) (st_9 M tr kp th ot tp sl pk rf ik sp tk sv mf mo mn ma kb tb tpm tfm kpm kfm i hin hc hB I nx)
set_option maxHeartbeats 4000000 in
theorem sw_1 {l : Launch} {D : va_G} {cT : Nat → ClassId} {b Ln : Nat} {xs : Nat → Int32} {g : GT} (M : ML l D cT b Ln xs g) (tr kp th ot : ShT) (tp : TpT) (sl : Nat → SlT) (pk rf : AI) (ik : Int32) (sp : ShT) (tk : TkT) (sv : SvT) (mf mo mn ma : AI) (kb tb : Bool) (tpm : ShT) (tfm : AI) (kpm : ShT) (kfm : AI) {bc bs c : Nat} (i : Int32) (hin : ∀ n, n ≤ 5 → inB (i + kI n) Ln = true) (hc : c < 512) (hB : bc + 26 ≤ 600000 ∧ bs + 1854 ≤ 7302250) (I : INV c tr kp th ot tp sl pk rf ik sp tk sv mf mo mn ma kb tb tpm tfm kpm kfm) (nx : NX g c (bc + 26) (bs + 1854) i) {k : Nat} (h1 : 10 ≤ k) (h2 : k < 20) : g bc bs (lW tr kp th ot tp sl pk rf ik sp tk sv mf mo mn ma kb tb tpm tfm kpm kfm) 33 [some (.ref 900), some (.ref 0), some (.ref 46), some (.int i)] [.int (kI k)] := by
  by_cases c10 : k = 10
  · subst c10
    exact m_tsI M.mb (dflt := 1983) (t0 := 0) (t1 := 58) (offs := offsL) (len := 251) (tgt := 655) 10 tsL (by rw [kI_toInt (by decide)]; rfl) (by decide) rfl (by decide) (st_10 M tr kp th ot tp sl pk rf ik sp tk sv mf mo mn ma kb tb tpm tfm kpm kfm i hin hc hB I nx)
  by_cases c11 : k = 11
  · subst c11
    exact m_tsI M.mb (dflt := 1983) (t0 := 0) (t1 := 58) (offs := offsL) (len := 251) (tgt := 698) 11 tsL (by rw [kI_toInt (by decide)]; rfl) (by decide) rfl (by decide) (st_11 M tr kp th ot tp sl pk rf ik sp tk sv mf mo mn ma kb tb tpm tfm kpm kfm i hin hc hB I nx)
  by_cases c12 : k = 12
  · subst c12
    exact m_tsI M.mb (dflt := 1983) (t0 := 0) (t1 := 58) (offs := offsL) (len := 251) (tgt := 721) 12 tsL (by rw [kI_toInt (by decide)]; rfl) (by decide) rfl (by decide) (st_12 M tr kp th ot tp sl pk rf ik sp tk sv mf mo mn ma kb tb tpm tfm kpm kfm i hin hc hB I nx)
  by_cases c13 : k = 13
  · subst c13
    exact m_tsI M.mb (dflt := 1983) (t0 := 0) (t1 := 58) (offs := offsL) (len := 251) (tgt := 734) 13 tsL (by rw [kI_toInt (by decide)]; rfl) (by decide) rfl (by decide) (st_13 M tr kp th ot tp sl pk rf ik sp tk sv mf mo mn ma kb tb tpm tfm kpm kfm i hin hc hB I nx)
  by_cases c14 : k = 14
  · subst c14
    exact m_tsI M.mb (dflt := 1983) (t0 := 0) (t1 := 58) (offs := offsL) (len := 251) (tgt := 747) 14 tsL (by rw [kI_toInt (by decide)]; rfl) (by decide) rfl (by decide) (st_14 M tr kp th ot tp sl pk rf ik sp tk sv mf mo mn ma kb tb tpm tfm kpm kfm i hin hc hB I nx)
  by_cases c15 : k = 15
  · subst c15
    exact m_tsI M.mb (dflt := 1983) (t0 := 0) (t1 := 58) (offs := offsL) (len := 251) (tgt := 780) 15 tsL (by rw [kI_toInt (by decide)]; rfl) (by decide) rfl (by decide) (st_15 M tr kp th ot tp sl pk rf ik sp tk sv mf mo mn ma kb tb tpm tfm kpm kfm i hin hc hB I nx)
  by_cases c16 : k = 16
  · subst c16
    exact m_tsI M.mb (dflt := 1983) (t0 := 0) (t1 := 58) (offs := offsL) (len := 251) (tgt := 813) 16 tsL (by rw [kI_toInt (by decide)]; rfl) (by decide) rfl (by decide) (st_16 M tr kp th ot tp sl pk rf ik sp tk sv mf mo mn ma kb tb tpm tfm kpm kfm i hin hc hB I nx)
  by_cases c17 : k = 17
  · subst c17
    exact m_tsI M.mb (dflt := 1983) (t0 := 0) (t1 := 58) (offs := offsL) (len := 251) (tgt := 836) 17 tsL (by rw [kI_toInt (by decide)]; rfl) (by decide) rfl (by decide) (st_17 M tr kp th ot tp sl pk rf ik sp tk sv mf mo mn ma kb tb tpm tfm kpm kfm i hin hc hB I nx)
  by_cases c18 : k = 18
  · subst c18
    exact m_tsI M.mb (dflt := 1983) (t0 := 0) (t1 := 58) (offs := offsL) (len := 251) (tgt := 869) 18 tsL (by rw [kI_toInt (by decide)]; rfl) (by decide) rfl (by decide) (st_18 M tr kp th ot tp sl pk rf ik sp tk sv mf mo mn ma kb tb tpm tfm kpm kfm i hin hc hB I nx)
  have c19 : k = 19 := by omega
  subst c19
  exact m_tsI M.mb (dflt := 1983) (t0 := 0) (t1 := 58) (offs := offsL) (len := 251) (tgt := 912) 19 tsL (by rw [kI_toInt (by decide)]; rfl) (by decide) rfl (by decide) (st_19 M tr kp th ot tp sl pk rf ik sp tk sv mf mo mn ma kb tb tpm tfm kpm kfm i hin hc hB I nx)
set_option maxHeartbeats 4000000 in
theorem sw_2 {l : Launch} {D : va_G} {cT : Nat → ClassId} {b Ln : Nat} {xs : Nat → Int32} {g : GT} (M : ML l D cT b Ln xs g) (tr kp th ot : ShT) (tp : TpT) (sl : Nat → SlT) (pk rf : AI) (ik : Int32) (sp : ShT) (tk : TkT) (sv : SvT) (mf mo mn ma : AI) (kb tb : Bool) (tpm : ShT) (tfm : AI) (kpm : ShT) (kfm : AI) {bc bs c : Nat} (i : Int32) (hin : ∀ n, n ≤ 5 → inB (i + kI n) Ln = true) (hc : c < 512) (hB : bc + 26 ≤ 600000 ∧ bs + 1854 ≤ 7302250) (I : INV c tr kp th ot tp sl pk rf ik sp tk sv mf mo mn ma kb tb tpm tfm kpm kfm) (nx : NX g c (bc + 26) (bs + 1854) i) {k : Nat} (h1 : 20 ≤ k) (h2 : k < 30) : g bc bs (lW tr kp th ot tp sl pk rf ik sp tk sv mf mo mn ma kb tb tpm tfm kpm kfm) 33 [some (.ref 900), some (.ref 0), some (.ref 46), some (.int i)] [.int (kI k)] := by
  by_cases c20 : k = 20
  · subst c20
    exact m_tsI M.mb (dflt := 1983) (t0 := 0) (t1 := 58) (offs := offsL) (len := 251) (tgt := 935) 20 tsL (by rw [kI_toInt (by decide)]; rfl) (by decide) rfl (by decide) (st_20 M tr kp th ot tp sl pk rf ik sp tk sv mf mo mn ma kb tb tpm tfm kpm kfm i hin hc hB I nx)
  by_cases c21 : k = 21
  · subst c21
    exact m_tsI M.mb (dflt := 1983) (t0 := 0) (t1 := 58) (offs := offsL) (len := 251) (tgt := 948) 21 tsL (by rw [kI_toInt (by decide)]; rfl) (by decide) rfl (by decide) (st_21 M tr kp th ot tp sl pk rf ik sp tk sv mf mo mn ma kb tb tpm tfm kpm kfm i hin hc hB I nx)
  by_cases c22 : k = 22
  · subst c22
    exact m_tsI M.mb (dflt := 1983) (t0 := 0) (t1 := 58) (offs := offsL) (len := 251) (tgt := 981) 22 tsL (by rw [kI_toInt (by decide)]; rfl) (by decide) rfl (by decide) (st_22 M tr kp th ot tp sl pk rf ik sp tk sv mf mo mn ma kb tb tpm tfm kpm kfm i hin hc hB I nx)
  by_cases c23 : k = 23
  · subst c23
    exact m_tsI M.mb (dflt := 1983) (t0 := 0) (t1 := 58) (offs := offsL) (len := 251) (tgt := 994) 23 tsL (by rw [kI_toInt (by decide)]; rfl) (by decide) rfl (by decide) (st_23 M tr kp th ot tp sl pk rf ik sp tk sv mf mo mn ma kb tb tpm tfm kpm kfm i hin hc hB I nx)
  by_cases c24 : k = 24
  · subst c24
    exact m_tsI M.mb (dflt := 1983) (t0 := 0) (t1 := 58) (offs := offsL) (len := 251) (tgt := 1017) 24 tsL (by rw [kI_toInt (by decide)]; rfl) (by decide) rfl (by decide) (st_24 M tr kp th ot tp sl pk rf ik sp tk sv mf mo mn ma kb tb tpm tfm kpm kfm i hin hc hB I nx)
  by_cases c25 : k = 25
  · subst c25
    exact m_tsI M.mb (dflt := 1983) (t0 := 0) (t1 := 58) (offs := offsL) (len := 251) (tgt := 1040) 25 tsL (by rw [kI_toInt (by decide)]; rfl) (by decide) rfl (by decide) (st_25 M tr kp th ot tp sl pk rf ik sp tk sv mf mo mn ma kb tb tpm tfm kpm kfm i hin hc hB I nx)
  by_cases c26 : k = 26
  · subst c26
    exact m_tsI M.mb (dflt := 1983) (t0 := 0) (t1 := 58) (offs := offsL) (len := 251) (tgt := 1063) 26 tsL (by rw [kI_toInt (by decide)]; rfl) (by decide) rfl (by decide) (st_26 M tr kp th ot tp sl pk rf ik sp tk sv mf mo mn ma kb tb tpm tfm kpm kfm i hin hc hB I nx)
  by_cases c27 : k = 27
  · subst c27
    exact m_tsI M.mb (dflt := 1983) (t0 := 0) (t1 := 58) (offs := offsL) (len := 251) (tgt := 1086) 27 tsL (by rw [kI_toInt (by decide)]; rfl) (by decide) rfl (by decide) (st_27 M tr kp th ot tp sl pk rf ik sp tk sv mf mo mn ma kb tb tpm tfm kpm kfm i hin hc hB I nx)
  by_cases c28 : k = 28
  · subst c28
    exact m_tsI M.mb (dflt := 1983) (t0 := 0) (t1 := 58) (offs := offsL) (len := 251) (tgt := 1119) 28 tsL (by rw [kI_toInt (by decide)]; rfl) (by decide) rfl (by decide) (st_28 M tr kp th ot tp sl pk rf ik sp tk sv mf mo mn ma kb tb tpm tfm kpm kfm i hin hc hB I nx)
  have c29 : k = 29 := by omega
  subst c29
  exact m_tsI M.mb (dflt := 1983) (t0 := 0) (t1 := 58) (offs := offsL) (len := 251) (tgt := 1152) 29 tsL (by rw [kI_toInt (by decide)]; rfl) (by decide) rfl (by decide) (st_29 M tr kp th ot tp sl pk rf ik sp tk sv mf mo mn ma kb tb tpm tfm kpm kfm i hin hc hB I nx)
set_option maxHeartbeats 4000000 in
theorem sw_3 {l : Launch} {D : va_G} {cT : Nat → ClassId} {b Ln : Nat} {xs : Nat → Int32} {g : GT} (M : ML l D cT b Ln xs g) (tr kp th ot : ShT) (tp : TpT) (sl : Nat → SlT) (pk rf : AI) (ik : Int32) (sp : ShT) (tk : TkT) (sv : SvT) (mf mo mn ma : AI) (kb tb : Bool) (tpm : ShT) (tfm : AI) (kpm : ShT) (kfm : AI) {bc bs c : Nat} (i : Int32) (hin : ∀ n, n ≤ 5 → inB (i + kI n) Ln = true) (hc : c < 512) (hB : bc + 26 ≤ 600000 ∧ bs + 1854 ≤ 7302250) (I : INV c tr kp th ot tp sl pk rf ik sp tk sv mf mo mn ma kb tb tpm tfm kpm kfm) (nx : NX g c (bc + 26) (bs + 1854) i) {k : Nat} (h1 : 30 ≤ k) (h2 : k < 40) : g bc bs (lW tr kp th ot tp sl pk rf ik sp tk sv mf mo mn ma kb tb tpm tfm kpm kfm) 33 [some (.ref 900), some (.ref 0), some (.ref 46), some (.int i)] [.int (kI k)] := by
  by_cases c30 : k = 30
  · subst c30
    exact m_tsI M.mb (dflt := 1983) (t0 := 0) (t1 := 58) (offs := offsL) (len := 251) (tgt := 1185) 30 tsL (by rw [kI_toInt (by decide)]; rfl) (by decide) rfl (by decide) (st_30 M tr kp th ot tp sl pk rf ik sp tk sv mf mo mn ma kb tb tpm tfm kpm kfm i hin hc hB I nx)
  by_cases c31 : k = 31
  · subst c31
    exact m_tsI M.mb (dflt := 1983) (t0 := 0) (t1 := 58) (offs := offsL) (len := 251) (tgt := 1198) 31 tsL (by rw [kI_toInt (by decide)]; rfl) (by decide) rfl (by decide) (st_31 M tr kp th ot tp sl pk rf ik sp tk sv mf mo mn ma kb tb tpm tfm kpm kfm i hin hc hB I nx)
  by_cases c32 : k = 32
  · subst c32
    exact m_tsI M.mb (dflt := 1983) (t0 := 0) (t1 := 58) (offs := offsL) (len := 251) (tgt := 1241) 32 tsL (by rw [kI_toInt (by decide)]; rfl) (by decide) rfl (by decide) (st_32 M tr kp th ot tp sl pk rf ik sp tk sv mf mo mn ma kb tb tpm tfm kpm kfm i hin hc hB I nx)
  by_cases c33 : k = 33
  · subst c33
    exact m_tsI M.mb (dflt := 1983) (t0 := 0) (t1 := 58) (offs := offsL) (len := 251) (tgt := 1264) 33 tsL (by rw [kI_toInt (by decide)]; rfl) (by decide) rfl (by decide) (st_33 M tr kp th ot tp sl pk rf ik sp tk sv mf mo mn ma kb tb tpm tfm kpm kfm i hin hc hB I nx)
  by_cases c34 : k = 34
  · subst c34
    exact m_tsI M.mb (dflt := 1983) (t0 := 0) (t1 := 58) (offs := offsL) (len := 251) (tgt := 1297) 34 tsL (by rw [kI_toInt (by decide)]; rfl) (by decide) rfl (by decide) (st_34 M tr kp th ot tp sl pk rf ik sp tk sv mf mo mn ma kb tb tpm tfm kpm kfm i hin hc hB I nx)
  by_cases c35 : k = 35
  · subst c35
    exact m_tsI M.mb (dflt := 1983) (t0 := 0) (t1 := 58) (offs := offsL) (len := 251) (tgt := 1320) 35 tsL (by rw [kI_toInt (by decide)]; rfl) (by decide) rfl (by decide) (st_35 M tr kp th ot tp sl pk rf ik sp tk sv mf mo mn ma kb tb tpm tfm kpm kfm i hin hc hB I nx)
  by_cases c36 : k = 36
  · subst c36
    exact m_tsI M.mb (dflt := 1983) (t0 := 0) (t1 := 58) (offs := offsL) (len := 251) (tgt := 1353) 36 tsL (by rw [kI_toInt (by decide)]; rfl) (by decide) rfl (by decide) (st_36 M tr kp th ot tp sl pk rf ik sp tk sv mf mo mn ma kb tb tpm tfm kpm kfm i hin hc hB I nx)
  by_cases c37 : k = 37
  · subst c37
    exact m_tsI M.mb (dflt := 1983) (t0 := 0) (t1 := 58) (offs := offsL) (len := 251) (tgt := 1386) 37 tsL (by rw [kI_toInt (by decide)]; rfl) (by decide) rfl (by decide) (st_37 M tr kp th ot tp sl pk rf ik sp tk sv mf mo mn ma kb tb tpm tfm kpm kfm i hin hc hB I nx)
  by_cases c38 : k = 38
  · subst c38
    exact m_tsI M.mb (dflt := 1983) (t0 := 0) (t1 := 58) (offs := offsL) (len := 251) (tgt := 1419) 38 tsL (by rw [kI_toInt (by decide)]; rfl) (by decide) rfl (by decide) (st_38 M tr kp th ot tp sl pk rf ik sp tk sv mf mo mn ma kb tb tpm tfm kpm kfm i hin hc hB I nx)
  have c39 : k = 39 := by omega
  subst c39
  exact m_tsI M.mb (dflt := 1983) (t0 := 0) (t1 := 58) (offs := offsL) (len := 251) (tgt := 1468) 39 tsL (by rw [kI_toInt (by decide)]; rfl) (by decide) rfl (by decide) (st_39 M tr kp th ot tp sl pk rf ik sp tk sv mf mo mn ma kb tb tpm tfm kpm kfm i hin hc hB I nx)
set_option maxHeartbeats 4000000 in
theorem sw_4 {l : Launch} {D : va_G} {cT : Nat → ClassId} {b Ln : Nat} {xs : Nat → Int32} {g : GT} (M : ML l D cT b Ln xs g) (tr kp th ot : ShT) (tp : TpT) (sl : Nat → SlT) (pk rf : AI) (ik : Int32) (sp : ShT) (tk : TkT) (sv : SvT) (mf mo mn ma : AI) (kb tb : Bool) (tpm : ShT) (tfm : AI) (kpm : ShT) (kfm : AI) {bc bs c : Nat} (i : Int32) (hin : ∀ n, n ≤ 5 → inB (i + kI n) Ln = true) (hc : c < 512) (hB : bc + 26 ≤ 600000 ∧ bs + 1854 ≤ 7302250) (I : INV c tr kp th ot tp sl pk rf ik sp tk sv mf mo mn ma kb tb tpm tfm kpm kfm) (nx : NX g c (bc + 26) (bs + 1854) i) {k : Nat} (h1 : 40 ≤ k) (h2 : k < 50) : g bc bs (lW tr kp th ot tp sl pk rf ik sp tk sv mf mo mn ma kb tb tpm tfm kpm kfm) 33 [some (.ref 900), some (.ref 0), some (.ref 46), some (.int i)] [.int (kI k)] := by
  by_cases c40 : k = 40
  · subst c40
    exact m_tsI M.mb (dflt := 1983) (t0 := 0) (t1 := 58) (offs := offsL) (len := 251) (tgt := 1537) 40 tsL (by rw [kI_toInt (by decide)]; rfl) (by decide) rfl (by decide) (st_40 M tr kp th ot tp sl pk rf ik sp tk sv mf mo mn ma kb tb tpm tfm kpm kfm i hin hc hB I nx)
  by_cases c41 : k = 41
  · subst c41
    exact m_tsI M.mb (dflt := 1983) (t0 := 0) (t1 := 58) (offs := offsL) (len := 251) (tgt := 1596) 41 tsL (by rw [kI_toInt (by decide)]; rfl) (by decide) rfl (by decide) (st_41 M tr kp th ot tp sl pk rf ik sp tk sv mf mo mn ma kb tb tpm tfm kpm kfm i hin hc hB I nx)
  by_cases c42 : k = 42
  · subst c42
    exact m_tsI M.mb (dflt := 1983) (t0 := 0) (t1 := 58) (offs := offsL) (len := 251) (tgt := 1645) 42 tsL (by rw [kI_toInt (by decide)]; rfl) (by decide) rfl (by decide) (st_42 M tr kp th ot tp sl pk rf ik sp tk sv mf mo mn ma kb tb tpm tfm kpm kfm i hin hc hB I nx)
  by_cases c43 : k = 43
  · subst c43
    exact m_tsI M.mb (dflt := 1983) (t0 := 0) (t1 := 58) (offs := offsL) (len := 251) (tgt := 1668) 43 tsL (by rw [kI_toInt (by decide)]; rfl) (by decide) rfl (by decide) (st_43 M tr kp th ot tp sl pk rf ik sp tk sv mf mo mn ma kb tb tpm tfm kpm kfm i hin hc hB I nx)
  by_cases c44 : k = 44
  · subst c44
    exact m_tsI M.mb (dflt := 1983) (t0 := 0) (t1 := 58) (offs := offsL) (len := 251) (tgt := 1711) 44 tsL (by rw [kI_toInt (by decide)]; rfl) (by decide) rfl (by decide) (st_44 M tr kp th ot tp sl pk rf ik sp tk sv mf mo mn ma kb tb tpm tfm kpm kfm i hin hc hB I nx)
  by_cases c45 : k = 45
  · subst c45
    exact m_tsI M.mb (dflt := 1983) (t0 := 0) (t1 := 58) (offs := offsL) (len := 251) (tgt := 1744) 45 tsL (by rw [kI_toInt (by decide)]; rfl) (by decide) rfl (by decide) (st_45 M tr kp th ot tp sl pk rf ik sp tk sv mf mo mn ma kb tb tpm tfm kpm kfm i hin hc hB I nx)
  by_cases c46 : k = 46
  · subst c46
    exact m_tsI M.mb (dflt := 1983) (t0 := 0) (t1 := 58) (offs := offsL) (len := 251) (tgt := 1767) 46 tsL (by rw [kI_toInt (by decide)]; rfl) (by decide) rfl (by decide) (st_46 M tr kp th ot tp sl pk rf ik sp tk sv mf mo mn ma kb tb tpm tfm kpm kfm i hin hc hB I nx)
  by_cases c47 : k = 47
  · subst c47
    exact m_tsI M.mb (dflt := 1983) (t0 := 0) (t1 := 58) (offs := offsL) (len := 251) (tgt := 1780) 47 tsL (by rw [kI_toInt (by decide)]; rfl) (by decide) rfl (by decide) (st_47 M tr kp th ot tp sl pk rf ik sp tk sv mf mo mn ma kb tb tpm tfm kpm kfm i hin hc hB I nx)
  by_cases c48 : k = 48
  · subst c48
    exact m_tsI M.mb (dflt := 1983) (t0 := 0) (t1 := 58) (offs := offsL) (len := 251) (tgt := 1793) 48 tsL (by rw [kI_toInt (by decide)]; rfl) (by decide) rfl (by decide) (st_48 M tr kp th ot tp sl pk rf ik sp tk sv mf mo mn ma kb tb tpm tfm kpm kfm i hin hc hB I nx)
  have c49 : k = 49 := by omega
  subst c49
  exact m_tsI M.mb (dflt := 1983) (t0 := 0) (t1 := 58) (offs := offsL) (len := 251) (tgt := 1816) 49 tsL (by rw [kI_toInt (by decide)]; rfl) (by decide) rfl (by decide) (st_49 M tr kp th ot tp sl pk rf ik sp tk sv mf mo mn ma kb tb tpm tfm kpm kfm i hin hc hB I nx)
set_option maxHeartbeats 4000000 in
theorem sw_5 {l : Launch} {D : va_G} {cT : Nat → ClassId} {b Ln : Nat} {xs : Nat → Int32} {g : GT} (M : ML l D cT b Ln xs g) (tr kp th ot : ShT) (tp : TpT) (sl : Nat → SlT) (pk rf : AI) (ik : Int32) (sp : ShT) (tk : TkT) (sv : SvT) (mf mo mn ma : AI) (kb tb : Bool) (tpm : ShT) (tfm : AI) (kpm : ShT) (kfm : AI) {bc bs c : Nat} (i : Int32) (hin : ∀ n, n ≤ 5 → inB (i + kI n) Ln = true) (hc : c < 512) (hB : bc + 26 ≤ 600000 ∧ bs + 1854 ≤ 7302250) (I : INV c tr kp th ot tp sl pk rf ik sp tk sv mf mo mn ma kb tb tpm tfm kpm kfm) (nx : NX g c (bc + 26) (bs + 1854) i) {k : Nat} (h1 : 50 ≤ k) (h2 : k < 59) : g bc bs (lW tr kp th ot tp sl pk rf ik sp tk sv mf mo mn ma kb tb tpm tfm kpm kfm) 33 [some (.ref 900), some (.ref 0), some (.ref 46), some (.int i)] [.int (kI k)] := by
  by_cases c50 : k = 50
  · subst c50
    exact m_tsI M.mb (dflt := 1983) (t0 := 0) (t1 := 58) (offs := offsL) (len := 251) (tgt := 1839) 50 tsL (by rw [kI_toInt (by decide)]; rfl) (by decide) rfl (by decide) (st_50 M tr kp th ot tp sl pk rf ik sp tk sv mf mo mn ma kb tb tpm tfm kpm kfm i hin hc hB I nx)
  by_cases c51 : k = 51
  · subst c51
    exact m_tsI M.mb (dflt := 1983) (t0 := 0) (t1 := 58) (offs := offsL) (len := 251) (tgt := 1862) 51 tsL (by rw [kI_toInt (by decide)]; rfl) (by decide) rfl (by decide) (st_51 M tr kp th ot tp sl pk rf ik sp tk sv mf mo mn ma kb tb tpm tfm kpm kfm i hin hc hB I nx)
  by_cases c52 : k = 52
  · subst c52
    exact m_tsI M.mb (dflt := 1983) (t0 := 0) (t1 := 58) (offs := offsL) (len := 251) (tgt := 1895) 52 tsL (by rw [kI_toInt (by decide)]; rfl) (by decide) rfl (by decide) (st_52 M tr kp th ot tp sl pk rf ik sp tk sv mf mo mn ma kb tb tpm tfm kpm kfm i hin hc hB I nx)
  by_cases c53 : k = 53
  · subst c53
    exact m_tsI M.mb (dflt := 1983) (t0 := 0) (t1 := 58) (offs := offsL) (len := 251) (tgt := 1908) 53 tsL (by rw [kI_toInt (by decide)]; rfl) (by decide) rfl (by decide) (st_53 M tr kp th ot tp sl pk rf ik sp tk sv mf mo mn ma kb tb tpm tfm kpm kfm i hin hc hB I nx)
  by_cases c54 : k = 54
  · subst c54
    exact m_tsI M.mb (dflt := 1983) (t0 := 0) (t1 := 58) (offs := offsL) (len := 251) (tgt := 1931) 54 tsL (by rw [kI_toInt (by decide)]; rfl) (by decide) rfl (by decide) (st_54 M tr kp th ot tp sl pk rf ik sp tk sv mf mo mn ma kb tb tpm tfm kpm kfm i hin hc hB I nx)
  by_cases c55 : k = 55
  · subst c55
    exact m_tsI M.mb (dflt := 1983) (t0 := 0) (t1 := 58) (offs := offsL) (len := 251) (tgt := 1944) 55 tsL (by rw [kI_toInt (by decide)]; rfl) (by decide) rfl (by decide) (st_55 M tr kp th ot tp sl pk rf ik sp tk sv mf mo mn ma kb tb tpm tfm kpm kfm i hin hc hB I nx)
  by_cases c56 : k = 56
  · subst c56
    exact m_tsI M.mb (dflt := 1983) (t0 := 0) (t1 := 58) (offs := offsL) (len := 251) (tgt := 1967) 56 tsL (by rw [kI_toInt (by decide)]; rfl) (by decide) rfl (by decide) (st_56 M tr kp th ot tp sl pk rf ik sp tk sv mf mo mn ma kb tb tpm tfm kpm kfm i hin hc hB I nx)
  by_cases c57 : k = 57
  · subst c57
    exact m_tsI M.mb (dflt := 1983) (t0 := 0) (t1 := 58) (offs := offsL) (len := 251) (tgt := 1980) 57 tsL (by rw [kI_toInt (by decide)]; rfl) (by decide) rfl (by decide) (st_57 M tr kp th ot tp sl pk rf ik sp tk sv mf mo mn ma kb tb tpm tfm kpm kfm i hin hc hB I nx)
  have c58 : k = 58 := by omega
  subst c58
  exact m_tsI M.mb (dflt := 1983) (t0 := 0) (t1 := 58) (offs := offsL) (len := 251) (tgt := 1993) 58 tsL (by rw [kI_toInt (by decide)]; rfl) (by decide) rfl (by decide) (st_58 M tr kp th ot tp sl pk rf ik sp tk sv mf mo mn ma kb tb tpm tfm kpm kfm i hin hc hB I nx)
theorem INV.up {c : Nat} {tr kp th ot : ShT} {tp : TpT} {sl : Nat → SlT} {pk rf : AI} {ik : Int32} {sp : ShT} {tk : TkT} {sv : SvT} {mf mo mn ma : AI} {kb tb : Bool} {tpm : ShT} {tfm : AI} {kpm : ShT} {kfm : AI} (hc : c < 512) (I : INV c tr kp th ot tp sl pk rf ik sp tk sv mf mo mn ma kb tb tpm tfm kpm kfm) : INV (c + 1) tr kp th ot tp sl pk rf ik sp tk sv mf mo mn ma kb tb tpm tfm kpm kfm := by
  obtain ⟨p, L, hJ, hS, hr, hT, hi, hk⟩ := I
  exact ⟨p, L, hJ.up hc, hS, hr, hT, hi, fun h => by
    obtain ⟨q, Q, j⟩ := hk h
    exact ⟨q, Q, j.up hc⟩⟩
theorem sw {l : Launch} {D : va_G} {cT : Nat → ClassId} {b Ln : Nat} {xs : Nat → Int32} {g : GT} (M : ML l D cT b Ln xs g) (tr kp th ot : ShT) (tp : TpT) (sl : Nat → SlT) (pk rf : AI) (ik : Int32) (sp : ShT) (tk : TkT) (sv : SvT) (mf mo mn ma : AI) (kb tb : Bool) (tpm : ShT) (tfm : AI) (kpm : ShT) (kfm : AI) {bc bs c : Nat} (i : Int32) (hin : ∀ n, n ≤ 5 → inB (i + kI n) Ln = true) (hc : c < 512) (hB : bc + 26 ≤ 600000 ∧ bs + 1854 ≤ 7302250) (I : INV c tr kp th ot tp sl pk rf ik sp tk sv mf mo mn ma kb tb tpm tfm kpm kfm) (nx : NX g c (bc + 26) (bs + 1854) i) {k : Nat} (h2 : k < 64) : g bc bs (lW tr kp th ot tp sl pk rf ik sp tk sv mf mo mn ma kb tb tpm tfm kpm kfm) 33 [some (.ref 900), some (.ref 0), some (.ref 46), some (.int i)] [.int (kI k)] := by
  by_cases c0 : k < 10
  · exact sw_0 M tr kp th ot tp sl pk rf ik sp tk sv mf mo mn ma kb tb tpm tfm kpm kfm i hin hc hB I nx (by omega) c0
  by_cases c1 : k < 20
  · exact sw_1 M tr kp th ot tp sl pk rf ik sp tk sv mf mo mn ma kb tb tpm tfm kpm kfm i hin hc hB I nx (by omega) c1
  by_cases c2 : k < 30
  · exact sw_2 M tr kp th ot tp sl pk rf ik sp tk sv mf mo mn ma kb tb tpm tfm kpm kfm i hin hc hB I nx (by omega) c2
  by_cases c3 : k < 40
  · exact sw_3 M tr kp th ot tp sl pk rf ik sp tk sv mf mo mn ma kb tb tpm tfm kpm kfm i hin hc hB I nx (by omega) c3
  by_cases c4 : k < 50
  · exact sw_4 M tr kp th ot tp sl pk rf ik sp tk sv mf mo mn ma kb tb tpm tfm kpm kfm i hin hc hB I nx (by omega) c4
  by_cases c9 : k < 59
  · exact sw_5 M tr kp th ot tp sl pk rf ik sp tk sv mf mo mn ma kb tb tpm tfm kpm kfm i hin hc hB I nx (by omega) c9
  · exact m_tsO M.mb (dflt := 1983) (t0 := 0) (t1 := 58) (offs := offsL) (len := 251) (tgt := 2016) tsL (Or.inr (by rw [kI_toInt (by omega)]; omega)) (by decide) (m_widen M.mb (Nat.le_add_right _ _) (Nat.le_add_right _ _) (nx _ _ _ _ _ _ _ _ _ _ _ _ _ _ _ _ _ _ _ _ _ _ (I.up hc)))
theorem loopL {l : Launch} {D : va_G} {cT : Nat → ClassId} {b Ln : Nat} {xs : Nat → Int32} {g : GT} (M : ML l D cT b Ln xs g) (hLn : Ln ≤ 3072) : ∀ (d c bc bs : Nat) (tr kp th ot : ShT) (tp : TpT) (sl : Nat → SlT) (pk rf : AI) (ik : Int32) (sp : ShT) (tk : TkT) (sv : SvT) (mf mo mn ma : AI) (kb tb : Bool) (tpm : ShT) (tfm : AI) (kpm : ShT) (kfm : AI), c + d = 512 → bc + 26 * d ≤ 600000 → bs + 1854 * d ≤ 7302250 → INV c tr kp th ot tp sl pk rf ik sp tk sv mf mo mn ma kb tb tpm tfm kpm kfm → g bc bs (lW tr kp th ot tp sl pk rf ik sp tk sv mf mo mn ma kb tb tpm tfm kpm kfm) 18 [some (.ref 900), some (.ref 0), some (.ref 46), some (.int (kI (6 * c)))] []
  | 0, c, bc, bs, tr, kp, th, ot, tp, sl, pk, rf, ik, sp, tk, sv, mf, mo, mn, ma, kb, tb, tpm, tfm, kpm, kfm, hc, hb1, hb2, I => by
    have hsub : Int32.ofNat Ln - 6 = kI Ln - kI 6 := rfl
    refine m_run M.mb (is := [(18, .iload_n 3, 0), (19, .aload_n 0, 0)]) (pc' := 20) (L' := [some (.ref 900), some (.ref 0), some (.ref 46), some (.int (kI (6 * c)))]) (st' := [.ref 900, .int (kI (6 * c))]) (w' := (lW tr kp th ot tp sl pk rf ik sp tk sv mf mo mn ma kb tb tpm tfm kpm kfm)) (by decide +kernel) rfl trivial ?_
    refine m_slen M (by decide +kernel) ?_
    refine m_run M.mb (is := [(21, .bipush 6, 6), (23, .isub, 0)]) (pc' := 24) (L' := [some (.ref 900), some (.ref 0), some (.ref 46), some (.int (kI (6 * c)))]) (st' := [.int (Int32.ofNat Ln - 6), .int (kI (6 * c))]) (w' := (lW tr kp th ot tp sl pk rf ik sp tk sv mf mo mn ma kb tb tpm tfm kpm kfm)) (by decide +kernel) rfl trivial ?_
    have e6 : (Int32.ofNat Ln - 6).toInt = (Ln : Int) - 6 := by
      by_cases h : 6 ≤ Ln
      · rw [hsub, kI_sub h, kI_toInt (by omega)]; omega
      · have : ∀ n, n < 6 → (Int32.ofNat n - 6).toInt = (n : Int) - 6 := by decide +kernel
        exact this Ln (by omega)
    have e7 : (kI (6 * c)).toInt = (6 * c : Nat) := kI_toInt (by omega)
    refine m_jT M.mb (i := .if_icmp .gt 1998) 2022 (by decide +kernel) rfl (by decide) (show Int32.ofNat Ln - 6 < kI (6 * c) from Int32.lt_iff_toInt_lt.mpr (by rw [e6, e7]; omega)) ?_
    refine m_run M.mb (is := [(2022, .iconst 1, 1)]) (pc' := 2023) (L' := [some (.ref 900), some (.ref 0), some (.ref 46), some (.int (kI (6 * c)))]) (st' := [.int 1]) (w' := (lW tr kp th ot tp sl pk rf ik sp tk sv mf mo mn ma kb tb tpm tfm kpm kfm)) (by decide +kernel) rfl trivial ?_
    exact m_lend M (by decide +kernel) (by omega) (by omega)
  | d + 1, c, bc, bs, tr, kp, th, ot, tp, sl, pk, rf, ik, sp, tk, sv, mf, mo, mn, ma, kb, tb, tpm, tfm, kpm, kfm, hc, hb1, hb2, I => by
    have hsub : Int32.ofNat Ln - 6 = kI Ln - kI 6 := rfl
    refine m_run M.mb (is := [(18, .iload_n 3, 0), (19, .aload_n 0, 0)]) (pc' := 20) (L' := [some (.ref 900), some (.ref 0), some (.ref 46), some (.int (kI (6 * c)))]) (st' := [.ref 900, .int (kI (6 * c))]) (w' := (lW tr kp th ot tp sl pk rf ik sp tk sv mf mo mn ma kb tb tpm tfm kpm kfm)) (by decide +kernel) rfl trivial ?_
    refine m_slen M (by decide +kernel) ?_
    refine m_run M.mb (is := [(21, .bipush 6, 6), (23, .isub, 0)]) (pc' := 24) (L' := [some (.ref 900), some (.ref 0), some (.ref 46), some (.int (kI (6 * c)))]) (st' := [.int (Int32.ofNat Ln - 6), .int (kI (6 * c))]) (w' := (lW tr kp th ot tp sl pk rf ik sp tk sv mf mo mn ma kb tb tpm tfm kpm kfm)) (by decide +kernel) rfl trivial ?_
    have e6 : (Int32.ofNat Ln - 6).toInt = (Ln : Int) - 6 := by
      by_cases h : 6 ≤ Ln
      · rw [hsub, kI_sub h, kI_toInt (by omega)]; omega
      · have : ∀ n, n < 6 → (Int32.ofNat n - 6).toInt = (n : Int) - 6 := by decide +kernel
        exact this Ln (by omega)
    have e7 : (kI (6 * c)).toInt = (6 * c : Nat) := kI_toInt (by omega)
    by_cases q : 6 * c + 6 ≤ Ln
    rotate_left
    · refine m_jT M.mb (i := .if_icmp .gt 1998) 2022 (by decide +kernel) rfl (by decide) (show Int32.ofNat Ln - 6 < kI (6 * c) from Int32.lt_iff_toInt_lt.mpr (by rw [e6, e7]; omega)) ?_
      refine m_run M.mb (is := [(2022, .iconst 1, 1)]) (pc' := 2023) (L' := [some (.ref 900), some (.ref 0), some (.ref 46), some (.int (kI (6 * c)))]) (st' := [.int 1]) (w' := (lW tr kp th ot tp sl pk rf ik sp tk sv mf mo mn ma kb tb tpm tfm kpm kfm)) (by decide +kernel) rfl trivial ?_
      exact m_lend M (by decide +kernel) (by omega) (by omega)
    refine m_jF M.mb (i := .if_icmp .gt 1998) 2022 (by decide +kernel) rfl (by decide) (show ¬ Int32.ofNat Ln - 6 < kI (6 * c) from fun h => by have := Int32.lt_iff_toInt_lt.mp h; rw [e6, e7] at this; omega) ?_
    refine m_run M.mb (is := [(27, .aload_n 0, 0), (28, .iload_n 3, 0)]) (pc' := 29) (L' := [some (.ref 900), some (.ref 0), some (.ref 46), some (.int (kI (6 * c)))]) (st' := [.int (kI (6 * c)), .ref 900]) (w' := (lW tr kp th ot tp sl pk rf ik sp tk sv mf mo mn ma kb tb tpm tfm kpm kfm)) (by decide +kernel) rfl trivial ?_
    refine m_sld M (inBL (by omega) (by omega)) rfl (by decide +kernel) ?_
    obtain ⟨k, hk, ek⟩ := and63 (xs (kI (6 * c)).toNatClampNeg)
    refine m_run M.mb (is := [(30, .bipush 63, 63), (32, .iand, 0)]) (pc' := 33) (L' := [some (.ref 900), some (.ref 0), some (.ref 46), some (.int (kI (6 * c)))]) (st' := [.int (xs (kI (6 * c)).toNatClampNeg &&& 63)]) (w' := (lW tr kp th ot tp sl pk rf ik sp tk sv mf mo mn ma kb tb tpm tfm kpm kfm)) (by decide +kernel) rfl trivial ?_
    rw [ek]
    have hB : bc + 26 ≤ 600000 ∧ bs + 1854 ≤ 7302250 := ⟨Nat.le_trans (Nat.add_le_add_left (Nat.le_mul_of_pos_right 26 (Nat.succ_pos d)) bc) hb1, Nat.le_trans (Nat.add_le_add_left (Nat.le_mul_of_pos_right 1854 (Nat.succ_pos d)) bs) hb2⟩
    have hin : ∀ n, n ≤ 5 → inB (kI (6 * c) + kI n) Ln = true := fun n hn => by
      have h : kI (6 * c) + kI n = kI (6 * c + n) := kI_add _ _
      rw [h]
      exact inBL (by omega) (by omega)
    refine sw M tr kp th ot tp sl pk rf ik sp tk sv mf mo mn ma kb tb tpm tfm kpm kfm (kI (6 * c)) hin (by omega) hB I (fun a1 a2 a3 a4 a5 a6 a7 a8 a9 b1 b2 b3 b4 b5 b6 b7 b8 b9 c1 c2 c3 c4 I2 => ?_) hk
    refine m_run M.mb (is := [(2016, .iinc 3 6, 6), (2019, .goto (-2001), 0)]) (pc' := 18) (L' := [some (.ref 900), some (.ref 0), some (.ref 46), some (.int (kI (6 * c) + 6))]) (st' := []) (w' := (lW a1 a2 a3 a4 a5 a6 a7 a8 a9 b1 b2 b3 b4 b5 b6 b7 b8 b9 c1 c2 c3 c4)) (by decide +kernel) rfl trivial ?_
    rw [show kI (6 * c) + 6 = kI (6 * (c + 1)) from kI_add (6 * c) 6]
    exact loopL M hLn d (c + 1) (bc + 26) (bs + 1854) a1 a2 a3 a4 a5 a6 a7 a8 a9 b1 b2 b3 b4 b5 b6 b7 b8 b9 c1 c2 c3 c4 (by rw [← hc]; exact Nat.add_right_comm c 1 d) (by rw [Nat.add_assoc, show 26 + 26 * d = 26 * (d + 1) from Nat.add_comm _ _]; exact hb1) (by rw [Nat.add_assoc, show 1854 + 1854 * d = 1854 * (d + 1) from Nat.add_comm _ _]; exact hb2) I2
