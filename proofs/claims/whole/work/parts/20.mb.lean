/-! ===== written by wip/whole/drive.py ===== -/
def f_X4_number (a0 : Int32) (a1 : Int32) (a2 : Int32) (tk : TkT) : Option (Int32 × TkT) :=
  if tk.2.2.2.2.1 = 2 then
    (f_X4_in ((tk.2.2.2.2.2.2.1).toInt64) ((a1).toInt64) ((a2).toInt64)).bind fun r1002 =>
    if r1002 = 0 then
      (f_X4_wrong tk).bind fun r1004 =>
      if z01 r1004.1 then
      some (r1004.1, r1004.2)
      else none
    else
      if inB a0 2 then
      (f_X4_look (tk.1, (upd tk.2.1 a0.toNatClampNeg tk.2.2.2.2.2.2.1), tk.2.2.1, tk.2.2.2.1, tk.2.2.2.2.1, tk.2.2.2.2.2.1, tk.2.2.2.2.2.2.1, tk.2.2.2.2.2.2.2.1, tk.2.2.2.2.2.2.2.2)).bind fun r1007 =>
      some (1, r1007)
      else none
  else
    (f_X4_wrong tk).bind fun r1008 =>
    if z01 r1008.1 then
    some (r1008.1, r1008.2)
    else none
set_option maxRecDepth 100000 in
set_option maxHeartbeats 4000000 in
theorem run_X4_number {l : Launch} {D : va_G} {cT : Nat → ClassId} (a0 : Int32) (a1 : Int32) (a2 : Int32)   (sp : ShT) (tk : TkT) (sv : SvT) (mf : AI) (mo : AI) (mn : AI) (ma : AI) (kv : Value) (tv : Value) {r : Int32 × TkT} (hf : f_X4_number a0 a1 a2 tk = some r) : Runs l D cT yX4_number cX4_number 4 (some .boolean) 2 40 [.ref 0, .int a0, .int a1, .int a2] (cM 0 sp tk sv mf mo mn ma kv tv) (EQ (some (.int r.1)) (cM 0 sp r.2 sv mf mo mn ma kv tv)) := by
  refine runs_of O_X4 okO_X4 (by decide +kernel) rfl rfl (Nat.le_of_ble_eq_true rfl) (Nat.le_of_ble_eq_true rfl) (fun g K => ?_)
  have M := K.b
  show g 0 0 (cM 0 sp tk sv mf mo mn ma kv tv) 0 [some (.ref 0), some (.int a0), some (.int a1), some (.int a2)] []
  rw [f_X4_number] at hf
  refine m_run M (is := [(0, .aload_n 0, 0), (1, .getfield 148, 0), (4, .iconst 2, 2)]) (pc' := 5) (L' := [some (.ref 0), some (.int a0), some (.int a1), some (.int a2)]) (st' := [.int 2, .int tk.2.2.2.2.1]) (w' := (cM 0 sp tk sv mf mo mn ma kv tv)) (by decide +kernel) rfl trivial ?_
  rcases ite_s hf with ⟨c_1001, hf⟩ | ⟨c_1001, hf⟩
  · refine m_jF M (i := .if_icmp .ne 18) 23 (by decide +kernel) rfl (by decide) (fun n => n c_1001) ?_
    refine m_run M (is := [(8, .aload_n 0, 0), (9, .getfield 145, 0), (12, .i2l, 0), (13, .iload_n 2, 0), (14, .i2l, 0), (15, .iload_n 3, 0), (16, .i2l, 0)]) (pc' := 17) (L' := [some (.ref 0), some (.int a0), some (.int a1), some (.int a2)]) (st' := [.long ((a2).toInt64), .long ((a1).toInt64), .long ((tk.2.2.2.2.2.2.1).toInt64)]) (w' := (cM 0 sp tk sv mf mo mn ma kv tv)) (by decide +kernel) rfl trivial ?_
    obtain ⟨r1002, h_1002, hf⟩ := bnd_s hf
    refine m_cS0 M (rest := []) (w2 := (cM 0 sp tk sv mf mo mn ma kv tv)) (st2 := [.int r1002]) (run_X4_in ((tk.2.2.2.2.2.2.1).toInt64) ((a1).toInt64) ((a2).toInt64)    h_1002) cs_X4_in lk_X4_72 (by decide +kernel) [] (by decide) ⟨Nat.le_of_ble_eq_true rfl, Nat.le_of_ble_eq_true rfl⟩ rfl rfl (Nat.le_of_ble_eq_true rfl) ⟨by decide, by decide⟩ rfl rfl ⟨Nat.zero_le _, Nat.zero_le _⟩ rfl rfl ?_
    rcases ite_s hf with ⟨c_1003, hf⟩ | ⟨c_1003, hf⟩
    · refine m_jF M (i := .ifCond .ne 8) 28 (by decide +kernel) rfl (by decide) (fun n => n c_1003) ?_
      refine m_run M (is := [(23, .aload_n 0, 0)]) (pc' := 24) (L' := [some (.ref 0), some (.int a0), some (.int a1), some (.int a2)]) (st' := [.ref 0]) (w' := (cM 0 sp tk sv mf mo mn ma kv tv)) (by decide +kernel) rfl trivial ?_
      obtain ⟨r1004, h_1004, hf⟩ := bnd_s hf
      refine m_cV0 M (rest := []) (w2 := (cM 0 sp r1004.2 sv mf mo mn ma kv tv)) (st2 := [.int r1004.1]) (run_X4_wrong    sp tk sv mf mo mn ma kv tv h_1004) cv_X4_wrong lk_X4_170 (by decide +kernel) (List.range 26) List.nodup_range ⟨(by rw [List.length_range]; exact Nat.le_refl _), Nat.le_of_ble_eq_true rfl⟩ (hwId rfl) rfl rfl (Nat.le_of_ble_eq_true rfl) ⟨by decide, by decide⟩ rfl rfl ⟨Nat.zero_le _, Nat.zero_le _⟩ (hpId rfl rfl) rfl ?_
      obtain ⟨h_1005, hf⟩ := grd_s hf
      obtain rfl := Option.some.inj hf
      exact m_zret K (by decide +kernel) (z01_use h_1005) (Nat.zero_le _) (Nat.zero_le _) ⟨rfl, rfl⟩
    · refine m_jT M (i := .ifCond .ne 8) 28 (by decide +kernel) rfl (by decide) c_1003 ?_
      obtain ⟨h_1006, hf⟩ := grd_s hf
      refine m_run M (is := [(28, .aload_n 0, 0), (29, .getfield 56, 0), (32, .iload_n 1, 0), (33, .aload_n 0, 0), (34, .getfield 145, 0), (37, .iastore, 0), (38, .aload_n 0, 0)]) (pc' := 39) (L' := [some (.ref 0), some (.int a0), some (.int a1), some (.int a2)]) (st' := [.ref 0]) (w' := (cM 0 sp (tk.1, (upd tk.2.1 a0.toNatClampNeg tk.2.2.2.2.2.2.1), tk.2.2.1, tk.2.2.2.1, tk.2.2.2.2.1, tk.2.2.2.2.2.1, tk.2.2.2.2.2.2.1, tk.2.2.2.2.2.2.2.1, tk.2.2.2.2.2.2.2.2) sv mf mo mn ma kv tv)) (by decide +kernel) rfl ⟨inB_use h_1006, trivial⟩ ?_
      obtain ⟨r1007, h_1007, hf⟩ := bnd_s hf
      refine m_cV0 M (rest := []) (w2 := (cM 0 sp r1007 sv mf mo mn ma kv tv)) (st2 := []) (run_X4_look    sp (tk.1, (upd tk.2.1 a0.toNatClampNeg tk.2.2.2.2.2.2.1), tk.2.2.1, tk.2.2.2.1, tk.2.2.2.2.1, tk.2.2.2.2.2.1, tk.2.2.2.2.2.2.1, tk.2.2.2.2.2.2.2.1, tk.2.2.2.2.2.2.2.2) sv mf mo mn ma kv tv h_1007) cv_X4_look lk_X4_174 (by decide +kernel) (List.range 26) List.nodup_range ⟨(by rw [List.length_range]; exact Nat.le_refl _), Nat.le_of_ble_eq_true rfl⟩ (hwId rfl) rfl rfl (Nat.le_of_ble_eq_true rfl) ⟨by decide, by decide⟩ rfl rfl ⟨Nat.zero_le _, Nat.zero_le _⟩ (hpId rfl rfl) rfl ?_
      refine m_run M (is := [(42, .iconst 1, 1)]) (pc' := 43) (L' := [some (.ref 0), some (.int a0), some (.int a1), some (.int a2)]) (st' := [.int 1]) (w' := (cM 0 sp r1007 sv mf mo mn ma kv tv)) (by decide +kernel) rfl trivial ?_
      obtain rfl := Option.some.inj hf
      exact m_zret K (by decide +kernel) (Or.inr rfl) (Nat.zero_le _) (Nat.zero_le _) ⟨rfl, rfl⟩
  · refine m_jT M (i := .if_icmp .ne 18) 23 (by decide +kernel) rfl (by decide) c_1001 ?_
    refine m_run M (is := [(23, .aload_n 0, 0)]) (pc' := 24) (L' := [some (.ref 0), some (.int a0), some (.int a1), some (.int a2)]) (st' := [.ref 0]) (w' := (cM 0 sp tk sv mf mo mn ma kv tv)) (by decide +kernel) rfl trivial ?_
    obtain ⟨r1008, h_1008, hf⟩ := bnd_s hf
    refine m_cV0 M (rest := []) (w2 := (cM 0 sp r1008.2 sv mf mo mn ma kv tv)) (st2 := [.int r1008.1]) (run_X4_wrong    sp tk sv mf mo mn ma kv tv h_1008) cv_X4_wrong lk_X4_170 (by decide +kernel) (List.range 26) List.nodup_range ⟨(by rw [List.length_range]; exact Nat.le_refl _), Nat.le_of_ble_eq_true rfl⟩ (hwId rfl) rfl rfl (Nat.le_of_ble_eq_true rfl) ⟨by decide, by decide⟩ rfl rfl ⟨Nat.zero_le _, Nat.zero_le _⟩ (hpId rfl rfl) rfl ?_
    obtain ⟨h_1009, hf⟩ := grd_s hf
    obtain rfl := Option.some.inj hf
    exact m_zret K (by decide +kernel) (z01_use h_1009) (Nat.zero_le _) (Nat.zero_le _) ⟨rfl, rfl⟩

def f_X4_tells (a0 : Int32) (a1 : Int32) (tk : TkT) : Option (Int32 × TkT) :=
  (f_X4_look tk).bind fun r1001 =>
  (f_X4_number 0 a0 a1 r1001).bind fun r1002 =>
  if z01 r1002.1 then
  some (r1002.1, r1002.2)
  else none
set_option maxRecDepth 100000 in
set_option maxHeartbeats 4000000 in
theorem run_X4_tells {l : Launch} {D : va_G} {cT : Nat → ClassId} (a0 : Int32) (a1 : Int32)   (sp : ShT) (tk : TkT) (sv : SvT) (mf : AI) (mo : AI) (mn : AI) (ma : AI) (kv : Value) (tv : Value) {r : Int32 × TkT} (hf : f_X4_tells a0 a1 tk = some r) : Runs l D cT yX4_tells cX4_tells 3 (some .boolean) 3 63 [.ref 0, .int a0, .int a1] (cM 0 sp tk sv mf mo mn ma kv tv) (EQ (some (.int r.1)) (cM 0 sp r.2 sv mf mo mn ma kv tv)) := by
  refine runs_of O_X4 okO_X4 (by decide +kernel) rfl rfl (Nat.le_of_ble_eq_true rfl) (Nat.le_of_ble_eq_true rfl) (fun g K => ?_)
  have M := K.b
  show g 0 0 (cM 0 sp tk sv mf mo mn ma kv tv) 0 [some (.ref 0), some (.int a0), some (.int a1)] []
  rw [f_X4_tells] at hf
  refine m_run M (is := [(0, .aload_n 0, 0)]) (pc' := 1) (L' := [some (.ref 0), some (.int a0), some (.int a1)]) (st' := [.ref 0]) (w' := (cM 0 sp tk sv mf mo mn ma kv tv)) (by decide +kernel) rfl trivial ?_
  obtain ⟨r1001, h_1001, hf⟩ := bnd_s hf
  refine m_cV0 M (rest := []) (w2 := (cM 0 sp r1001 sv mf mo mn ma kv tv)) (st2 := []) (run_X4_look    sp tk sv mf mo mn ma kv tv h_1001) cv_X4_look lk_X4_174 (by decide +kernel) (List.range 26) List.nodup_range ⟨(by rw [List.length_range]; exact Nat.le_refl _), Nat.le_of_ble_eq_true rfl⟩ (hwId rfl) rfl rfl (Nat.le_of_ble_eq_true rfl) ⟨by decide, by decide⟩ rfl rfl ⟨Nat.zero_le _, Nat.zero_le _⟩ (hpId rfl rfl) rfl ?_
  refine m_run M (is := [(4, .aload_n 0, 0), (5, .iconst 0, 0), (6, .iload_n 1, 0), (7, .iload_n 2, 0)]) (pc' := 8) (L' := [some (.ref 0), some (.int a0), some (.int a1)]) (st' := [.int a1, .int a0, .int 0, .ref 0]) (w' := (cM 0 sp r1001 sv mf mo mn ma kv tv)) (by decide +kernel) rfl trivial ?_
  obtain ⟨r1002, h_1002, hf⟩ := bnd_s hf
  refine m_cV0 M (rest := []) (w2 := (cM 0 sp r1002.2 sv mf mo mn ma kv tv)) (st2 := [.int r1002.1]) (run_X4_number 0 a0 a1   sp r1001 sv mf mo mn ma kv tv h_1002) cv_X4_number lk_X4_177 (by decide +kernel) (List.range 26) List.nodup_range ⟨(by rw [List.length_range]; exact Nat.le_refl _), Nat.le_of_ble_eq_true rfl⟩ (hwId rfl) rfl rfl (Nat.le_of_ble_eq_true rfl) ⟨by decide, by decide⟩ rfl rfl ⟨Nat.zero_le _, Nat.zero_le _⟩ (hpId rfl rfl) rfl ?_
  obtain ⟨h_1003, hf⟩ := grd_s hf
  obtain rfl := Option.some.inj hf
  exact m_zret K (by decide +kernel) (z01_use h_1003) (Nat.zero_le _) (Nat.zero_le _) ⟨rfl, rfl⟩

def f_X4_peopleTold_L0  : Nat → Int32 → ShT → TkT → Option (Int32 × ShT × TkT)
  | 0, _, _, _ => none
  | n_ + 1, v1, sp, tk =>
    if inB 0 2 then
    if (tk.2.1 (0 : Int32).toNatClampNeg) ≤ v1 then
      some (1, sp, tk)
    else
      (f_X4_addPerson sp).bind fun r103 =>
      f_X4_peopleTold_L0 n_ (v1 + 1) r103 tk
    else none
def f_X4_peopleTold (sp : ShT) (tk : TkT) : Option (Int32 × ShT × TkT) :=
  (f_X4_tells 1 (16 - sp.2.2.2.2.2.1) tk).bind fun r1001 =>
  if r1001.1 = 0 then
    some (0, sp, r1001.2)
  else
    f_X4_peopleTold_L0 fuel0 0 sp r1001.2
set_option maxRecDepth 100000 in
set_option maxHeartbeats 4000000 in
theorem run_X4_peopleTold {l : Launch} {D : va_G} {cT : Nat → ClassId}    (sp : ShT) (tk : TkT) (sv : SvT) (mf : AI) (mo : AI) (mn : AI) (ma : AI) (kv : Value) (tv : Value) {r : Int32 × ShT × TkT} (hf : f_X4_peopleTold sp tk = some r) : Runs l D cT yX4_peopleTold cX4_peopleTold 2 (some .boolean) 4 85 [.ref 0] (cM 0 sp tk sv mf mo mn ma kv tv) (EQ (some (.int r.1)) (cM 0 r.2.1 r.2.2 sv mf mo mn ma kv tv)) := by
  refine runs_of O_X4 okO_X4 (by decide +kernel) rfl rfl (Nat.le_of_ble_eq_true rfl) (Nat.le_of_ble_eq_true rfl) (fun g K => ?_)
  have M := K.b
  show g 0 0 (cM 0 sp tk sv mf mo mn ma kv tv) 0 [some (.ref 0), none] []
  have loop_0 : ∀ (n_ : Nat), (∀ (v1 : Int32) (sp : ShT) (tk : TkT), f_X4_peopleTold_L0  n_ v1 sp tk = some r → g 0 0 (cM 0 sp tk sv mf mo mn ma kv tv) 19 [some (.ref 0), some (.int v1)] []) := by
    intro n_
    induction n_ with
    | zero => intro v1 sp tk hf; cases hf
    | succ n_ ih =>
      intro v1 sp tk hf
      rw [f_X4_peopleTold_L0] at hf
      obtain ⟨h_101, hf⟩ := grd_s hf
      refine m_run M (is := [(19, .iload_n 1, 0), (20, .aload_n 0, 0), (21, .getfield 56, 0), (24, .iconst 0, 0), (25, .iaload, 0)]) (pc' := 26) (L' := [some (.ref 0), some (.int v1)]) (st' := [.int (tk.2.1 (0 : Int32).toNatClampNeg), .int v1]) (w' := (cM 0 sp tk sv mf mo mn ma kv tv)) (by decide +kernel) rfl ⟨inB_use h_101, trivial⟩ ?_
      rcases ite_s hf with ⟨c_102, hf⟩ | ⟨c_102, hf⟩
      · refine m_jT M (i := .if_icmp .ge 13) 39 (by decide +kernel) rfl (by decide) c_102 ?_
        refine m_run M (is := [(39, .iconst 1, 1)]) (pc' := 40) (L' := [some (.ref 0), some (.int v1)]) (st' := [.int 1]) (w' := (cM 0 sp tk sv mf mo mn ma kv tv)) (by decide +kernel) rfl trivial ?_
        obtain rfl := Option.some.inj hf
        exact m_zret K (by decide +kernel) (Or.inr rfl) (Nat.zero_le _) (Nat.zero_le _) ⟨rfl, rfl⟩
      · refine m_jF M (i := .if_icmp .ge 13) 39 (by decide +kernel) rfl (by decide) c_102 ?_
        refine m_run M (is := [(29, .aload_n 0, 0)]) (pc' := 30) (L' := [some (.ref 0), some (.int v1)]) (st' := [.ref 0]) (w' := (cM 0 sp tk sv mf mo mn ma kv tv)) (by decide +kernel) rfl trivial ?_
        obtain ⟨r103, h_103, hf⟩ := bnd_s hf
        refine m_cV0 M (rest := []) (w2 := (cM 0 r103 tk sv mf mo mn ma kv tv)) (st2 := []) (run_X4_addPerson    sp tk sv mf mo mn ma kv tv h_103) cv_X4_addPerson lk_X4_114 (by decide +kernel) (List.range 26) List.nodup_range ⟨(by rw [List.length_range]; exact Nat.le_refl _), Nat.le_of_ble_eq_true rfl⟩ (hwId rfl) rfl rfl (Nat.le_of_ble_eq_true rfl) ⟨by decide, by decide⟩ rfl rfl ⟨Nat.zero_le _, Nat.zero_le _⟩ (hpId rfl rfl) rfl ?_
        refine m_run M (is := [(33, .iinc 1 1, 1), (36, .goto (-17), 0)]) (pc' := 19) (L' := [some (.ref 0), some (.int (v1 + 1))]) (st' := []) (w' := (cM 0 r103 tk sv mf mo mn ma kv tv)) (by decide +kernel) rfl trivial ?_
        exact ih (v1 + 1) r103 tk hf
  rw [f_X4_peopleTold] at hf
  refine m_run M (is := [(0, .aload_n 0, 0), (1, .iconst 1, 1), (2, .bipush 16, 16), (4, .aload_n 0, 0), (5, .getfield 69, 0), (8, .isub, 0)]) (pc' := 9) (L' := [some (.ref 0), none]) (st' := [.int (16 - sp.2.2.2.2.2.1), .int 1, .ref 0]) (w' := (cM 0 sp tk sv mf mo mn ma kv tv)) (by decide +kernel) rfl trivial ?_
  obtain ⟨r1001, h_1001, hf⟩ := bnd_s hf
  refine m_cV0 M (rest := []) (w2 := (cM 0 sp r1001.2 sv mf mo mn ma kv tv)) (st2 := [.int r1001.1]) (run_X4_tells 1 (16 - sp.2.2.2.2.2.1)   sp tk sv mf mo mn ma kv tv h_1001) cv_X4_tells lk_X4_181 (by decide +kernel) (List.range 26) List.nodup_range ⟨(by rw [List.length_range]; exact Nat.le_refl _), Nat.le_of_ble_eq_true rfl⟩ (hwId rfl) rfl rfl (Nat.le_of_ble_eq_true rfl) ⟨by decide, by decide⟩ rfl rfl ⟨Nat.zero_le _, Nat.zero_le _⟩ (hpId rfl rfl) rfl ?_
  rcases ite_s hf with ⟨c_1002, hf⟩ | ⟨c_1002, hf⟩
  · refine m_jF M (i := .ifCond .ne 5) 17 (by decide +kernel) rfl (by decide) (fun n => n c_1002) ?_
    refine m_run M (is := [(15, .iconst 0, 0)]) (pc' := 16) (L' := [some (.ref 0), none]) (st' := [.int 0]) (w' := (cM 0 sp r1001.2 sv mf mo mn ma kv tv)) (by decide +kernel) rfl trivial ?_
    obtain rfl := Option.some.inj hf
    exact m_zret K (by decide +kernel) (Or.inl rfl) (Nat.zero_le _) (Nat.zero_le _) ⟨rfl, rfl⟩
  · refine m_jT M (i := .ifCond .ne 5) 17 (by decide +kernel) rfl (by decide) c_1002 ?_
    refine m_run M (is := [(17, .iconst 0, 0), (18, .istore_n 1, 0)]) (pc' := 19) (L' := [some (.ref 0), some (.int 0)]) (st' := []) (w' := (cM 0 sp r1001.2 sv mf mo mn ma kv tv)) (by decide +kernel) rfl trivial ?_
    exact loop_0 fuel0 0 sp r1001.2 hf

def f_X4_turn_L0 (v1 : Int32) (v2 : Int32) : Nat → Int32 → ShT → Option (ShT)
  | 0, _, _ => none
  | n_ + 1, v3, sp =>
    if v2 ≤ v3 then
      if inB v2 16 then
      some ((upd sp.1 v2.toNatClampNeg v1), sp.2.1, sp.2.2.1, sp.2.2.2.1, sp.2.2.2.2.1, sp.2.2.2.2.2.1, sp.2.2.2.2.2.2.1, sp.2.2.2.2.2.2.2.1, sp.2.2.2.2.2.2.2.2.1, sp.2.2.2.2.2.2.2.2.2)
      else none
    else
      if inB (v3 + 1) 16 then
      if inB v3 16 then
      f_X4_turn_L0 v1 v2 n_ (v3 + 1) ((upd sp.1 v3.toNatClampNeg (sp.1 (v3 + 1).toNatClampNeg)), sp.2.1, sp.2.2.1, sp.2.2.2.1, sp.2.2.2.2.1, sp.2.2.2.2.2.1, sp.2.2.2.2.2.2.1, sp.2.2.2.2.2.2.2.1, sp.2.2.2.2.2.2.2.2.1, sp.2.2.2.2.2.2.2.2.2)
      else none
      else none
def f_X4_turn (sp : ShT) : Option (ShT) :=
  if inB 0 16 then
  if inB (sp.1 (0 : Int32).toNatClampNeg) 16 then
  if inB (sp.1 (0 : Int32).toNatClampNeg) 16 then
  if inB (sp.1 (0 : Int32).toNatClampNeg) 16 then
  (f_X4_backBy sp.2.2.2.2.2.2.2.1 (sp.1 (0 : Int32).toNatClampNeg) ((upd sp.2.1 (sp.1 (0 : Int32).toNatClampNeg).toNatClampNeg ((sp.2.1 (sp.1 (0 : Int32).toNatClampNeg).toNatClampNeg) + 1)) (sp.1 (0 : Int32).toNatClampNeg).toNatClampNeg) (sp.1, (upd sp.2.1 (sp.1 (0 : Int32).toNatClampNeg).toNatClampNeg ((sp.2.1 (sp.1 (0 : Int32).toNatClampNeg).toNatClampNeg) + 1)), sp.2.2.1, sp.2.2.2.1, sp.2.2.2.2.1, sp.2.2.2.2.2.1, sp.2.2.2.2.2.2.1, sp.2.2.2.2.2.2.2.1, (sp.2.2.2.2.2.2.2.2.1 + 1), sp.2.2.2.2.2.2.2.2.2)).bind fun r1005 =>
  (f_X4_lastBy sp.2.2.2.2.2.2.2.1 (sp.1 (0 : Int32).toNatClampNeg) (sp.1, (upd sp.2.1 (sp.1 (0 : Int32).toNatClampNeg).toNatClampNeg ((sp.2.1 (sp.1 (0 : Int32).toNatClampNeg).toNatClampNeg) + 1)), sp.2.2.1, sp.2.2.2.1, sp.2.2.2.2.1, sp.2.2.2.2.2.1, sp.2.2.2.2.2.2.1, sp.2.2.2.2.2.2.2.1, (sp.2.2.2.2.2.2.2.2.1 + 1), sp.2.2.2.2.2.2.2.2.2)).bind fun r1006 =>
  if inB (sp.1 (0 : Int32).toNatClampNeg) 16 then
  f_X4_turn_L0 (sp.1 (0 : Int32).toNatClampNeg) r1005 fuel0 0 (sp.1, (upd sp.2.1 (sp.1 (0 : Int32).toNatClampNeg).toNatClampNeg ((sp.2.1 (sp.1 (0 : Int32).toNatClampNeg).toNatClampNeg) + 1)), (upd sp.2.2.1 (sp.1 (0 : Int32).toNatClampNeg).toNatClampNeg r1006), sp.2.2.2.1, sp.2.2.2.2.1, sp.2.2.2.2.2.1, sp.2.2.2.2.2.2.1, sp.2.2.2.2.2.2.2.1, (sp.2.2.2.2.2.2.2.2.1 + 1), sp.2.2.2.2.2.2.2.2.2)
  else none
  else none
  else none
  else none
  else none
set_option maxRecDepth 100000 in
set_option maxHeartbeats 4000000 in
theorem run_X4_turn {l : Launch} {D : va_G} {cT : Nat → ClassId}    (sp : ShT) (tk : TkT) (sv : SvT) (mf : AI) (mo : AI) (mn : AI) (ma : AI) (kv : Value) (tv : Value) {r : ShT} (hf : f_X4_turn sp = some r) : Runs l D cT yX4_turn cX4_turn 4 none 1 25 [.ref 0] (cM 0 sp tk sv mf mo mn ma kv tv) (EQ none (cM 0 r tk sv mf mo mn ma kv tv)) := by
  refine runs_of O_X4 okO_X4 (by decide +kernel) rfl rfl (Nat.le_of_ble_eq_true rfl) (Nat.le_of_ble_eq_true rfl) (fun g K => ?_)
  have M := K.b
  show g 0 0 (cM 0 sp tk sv mf mo mn ma kv tv) 0 [some (.ref 0), none, none, none] []
  have loop_0 : ∀ (v1 : Int32) (v2 : Int32) (n_ : Nat), (∀ (v3 : Int32) (sp : ShT), f_X4_turn_L0 v1 v2 n_ v3 sp = some r → g 0 0 (cM 0 sp tk sv mf mo mn ma kv tv) 60 [some (.ref 0), some (.int v1), some (.int v2), some (.int v3)] []) := by
    intro v1 v2 n_
    induction n_ with
    | zero => intro v3 sp hf; cases hf
    | succ n_ ih =>
      intro v3 sp hf
      rw [f_X4_turn_L0] at hf
      refine m_run M (is := [(60, .iload_n 3, 0), (61, .iload_n 2, 0)]) (pc' := 62) (L' := [some (.ref 0), some (.int v1), some (.int v2), some (.int v3)]) (st' := [.int v2, .int v3]) (w' := (cM 0 sp tk sv mf mo mn ma kv tv)) (by decide +kernel) rfl trivial ?_
      rcases ite_s hf with ⟨c_101, hf⟩ | ⟨c_101, hf⟩
      · refine m_jT M (i := .if_icmp .ge 23) 85 (by decide +kernel) rfl (by decide) c_101 ?_
        obtain ⟨h_102, hf⟩ := grd_s hf
        refine m_run M (is := [(85, .aload_n 0, 0), (86, .getfield 37, 0), (89, .iload_n 2, 0), (90, .iload_n 1, 0), (91, .iastore, 0)]) (pc' := 92) (L' := [some (.ref 0), some (.int v1), some (.int v2), some (.int v3)]) (st' := []) (w' := (cM 0 ((upd sp.1 v2.toNatClampNeg v1), sp.2.1, sp.2.2.1, sp.2.2.2.1, sp.2.2.2.2.1, sp.2.2.2.2.2.1, sp.2.2.2.2.2.2.1, sp.2.2.2.2.2.2.2.1, sp.2.2.2.2.2.2.2.2.1, sp.2.2.2.2.2.2.2.2.2) tk sv mf mo mn ma kv tv)) (by decide +kernel) rfl ⟨inB_use h_102, trivial⟩ ?_
        obtain rfl := Option.some.inj hf
        exact m_vret K (by decide +kernel) (Nat.zero_le _) (Nat.zero_le _) ⟨rfl, rfl⟩
      · refine m_jF M (i := .if_icmp .ge 23) 85 (by decide +kernel) rfl (by decide) c_101 ?_
        obtain ⟨h_103, hf⟩ := grd_s hf
        obtain ⟨h_104, hf⟩ := grd_s hf
        refine m_run M (is := [(65, .aload_n 0, 0), (66, .getfield 37, 0), (69, .iload_n 3, 0), (70, .aload_n 0, 0), (71, .getfield 37, 0), (74, .iload_n 3, 0), (75, .iconst 1, 1), (76, .iadd, 0), (77, .iaload, 0), (78, .iastore, 0), (79, .iinc 3 1, 1), (82, .goto (-22), 0)]) (pc' := 60) (L' := [some (.ref 0), some (.int v1), some (.int v2), some (.int (v3 + 1))]) (st' := []) (w' := (cM 0 ((upd sp.1 v3.toNatClampNeg (sp.1 (v3 + 1).toNatClampNeg)), sp.2.1, sp.2.2.1, sp.2.2.2.1, sp.2.2.2.2.1, sp.2.2.2.2.2.1, sp.2.2.2.2.2.2.1, sp.2.2.2.2.2.2.2.1, sp.2.2.2.2.2.2.2.2.1, sp.2.2.2.2.2.2.2.2.2) tk sv mf mo mn ma kv tv)) (by decide +kernel) rfl ⟨inB_use h_103, inB_use h_104, trivial⟩ ?_
        exact ih (v3 + 1) ((upd sp.1 v3.toNatClampNeg (sp.1 (v3 + 1).toNatClampNeg)), sp.2.1, sp.2.2.1, sp.2.2.2.1, sp.2.2.2.2.1, sp.2.2.2.2.2.1, sp.2.2.2.2.2.2.1, sp.2.2.2.2.2.2.2.1, sp.2.2.2.2.2.2.2.2.1, sp.2.2.2.2.2.2.2.2.2) hf
  rw [f_X4_turn] at hf
  obtain ⟨h_1001, hf⟩ := grd_s hf
  obtain ⟨h_1002, hf⟩ := grd_s hf
  obtain ⟨h_1003, hf⟩ := grd_s hf
  obtain ⟨h_1004, hf⟩ := grd_s hf
  refine m_run M (is := [(0, .aload_n 0, 0), (1, .getfield 37, 0), (4, .iconst 0, 0), (5, .iaload, 0), (6, .istore_n 1, 0), (7, .aload_n 0, 0), (8, .getfield 40, 0), (11, .iload_n 1, 0), (12, .dup2, 0), (13, .iaload, 0), (14, .iconst 1, 1), (15, .iadd, 0), (16, .iastore, 0), (17, .aload_n 0, 0), (18, .dup, 0), (19, .getfield 246, 0), (22, .iconst 1, 1), (23, .iadd, 0), (24, .putfield 246, 0), (27, .aload_n 0, 0), (28, .aload_n 0, 0), (29, .getfield 123, 0), (32, .iload_n 1, 0), (33, .aload_n 0, 0), (34, .getfield 40, 0), (37, .iload_n 1, 0), (38, .iaload, 0)]) (pc' := 39) (L' := [some (.ref 0), some (.int (sp.1 (0 : Int32).toNatClampNeg)), none, none]) (st' := [.int ((upd sp.2.1 (sp.1 (0 : Int32).toNatClampNeg).toNatClampNeg ((sp.2.1 (sp.1 (0 : Int32).toNatClampNeg).toNatClampNeg) + 1)) (sp.1 (0 : Int32).toNatClampNeg).toNatClampNeg), .int (sp.1 (0 : Int32).toNatClampNeg), .int sp.2.2.2.2.2.2.2.1, .ref 0]) (w' := (cM 0 (sp.1, (upd sp.2.1 (sp.1 (0 : Int32).toNatClampNeg).toNatClampNeg ((sp.2.1 (sp.1 (0 : Int32).toNatClampNeg).toNatClampNeg) + 1)), sp.2.2.1, sp.2.2.2.1, sp.2.2.2.2.1, sp.2.2.2.2.2.1, sp.2.2.2.2.2.2.1, sp.2.2.2.2.2.2.2.1, (sp.2.2.2.2.2.2.2.2.1 + 1), sp.2.2.2.2.2.2.2.2.2) tk sv mf mo mn ma kv tv)) (by decide +kernel) rfl ⟨inB_use h_1001, inB_use h_1002, inB_use h_1003, inB_use h_1004, trivial⟩ ?_
  obtain ⟨r1005, h_1005, hf⟩ := bnd_s hf
  refine m_cV0 M (rest := []) (w2 := (cM 0 (sp.1, (upd sp.2.1 (sp.1 (0 : Int32).toNatClampNeg).toNatClampNeg ((sp.2.1 (sp.1 (0 : Int32).toNatClampNeg).toNatClampNeg) + 1)), sp.2.2.1, sp.2.2.2.1, sp.2.2.2.2.1, sp.2.2.2.2.2.1, sp.2.2.2.2.2.2.1, sp.2.2.2.2.2.2.2.1, (sp.2.2.2.2.2.2.2.2.1 + 1), sp.2.2.2.2.2.2.2.2.2) tk sv mf mo mn ma kv tv)) (st2 := [.int r1005]) (run_X4_backBy sp.2.2.2.2.2.2.2.1 (sp.1 (0 : Int32).toNatClampNeg) ((upd sp.2.1 (sp.1 (0 : Int32).toNatClampNeg).toNatClampNeg ((sp.2.1 (sp.1 (0 : Int32).toNatClampNeg).toNatClampNeg) + 1)) (sp.1 (0 : Int32).toNatClampNeg).toNatClampNeg)   (sp.1, (upd sp.2.1 (sp.1 (0 : Int32).toNatClampNeg).toNatClampNeg ((sp.2.1 (sp.1 (0 : Int32).toNatClampNeg).toNatClampNeg) + 1)), sp.2.2.1, sp.2.2.2.1, sp.2.2.2.2.1, sp.2.2.2.2.2.1, sp.2.2.2.2.2.2.1, sp.2.2.2.2.2.2.2.1, (sp.2.2.2.2.2.2.2.2.1 + 1), sp.2.2.2.2.2.2.2.2.2) tk sv mf mo mn ma kv tv h_1005) cv_X4_backBy lk_X4_110 (by decide +kernel) (List.range 26) List.nodup_range ⟨(by rw [List.length_range]; exact Nat.le_refl _), Nat.le_of_ble_eq_true rfl⟩ (hwId rfl) rfl rfl (Nat.le_of_ble_eq_true rfl) ⟨by decide, by decide⟩ rfl rfl ⟨Nat.zero_le _, Nat.zero_le _⟩ (hpId rfl rfl) rfl ?_
  refine m_run M (is := [(42, .istore_n 2, 0), (43, .aload_n 0, 0), (44, .getfield 43, 0), (47, .iload_n 1, 0), (48, .aload_n 0, 0), (49, .aload_n 0, 0), (50, .getfield 123, 0), (53, .iload_n 1, 0)]) (pc' := 54) (L' := [some (.ref 0), some (.int (sp.1 (0 : Int32).toNatClampNeg)), some (.int r1005), none]) (st' := [.int (sp.1 (0 : Int32).toNatClampNeg), .int sp.2.2.2.2.2.2.2.1, .ref 0, .int (sp.1 (0 : Int32).toNatClampNeg), .ref 11]) (w' := (cM 0 (sp.1, (upd sp.2.1 (sp.1 (0 : Int32).toNatClampNeg).toNatClampNeg ((sp.2.1 (sp.1 (0 : Int32).toNatClampNeg).toNatClampNeg) + 1)), sp.2.2.1, sp.2.2.2.1, sp.2.2.2.2.1, sp.2.2.2.2.2.1, sp.2.2.2.2.2.2.1, sp.2.2.2.2.2.2.2.1, (sp.2.2.2.2.2.2.2.2.1 + 1), sp.2.2.2.2.2.2.2.2.2) tk sv mf mo mn ma kv tv)) (by decide +kernel) rfl trivial ?_
  obtain ⟨r1006, h_1006, hf⟩ := bnd_s hf
  refine m_cV0 M (rest := [.int (sp.1 (0 : Int32).toNatClampNeg), .ref 11]) (w2 := (cM 0 (sp.1, (upd sp.2.1 (sp.1 (0 : Int32).toNatClampNeg).toNatClampNeg ((sp.2.1 (sp.1 (0 : Int32).toNatClampNeg).toNatClampNeg) + 1)), sp.2.2.1, sp.2.2.2.1, sp.2.2.2.2.1, sp.2.2.2.2.2.1, sp.2.2.2.2.2.2.1, sp.2.2.2.2.2.2.2.1, (sp.2.2.2.2.2.2.2.2.1 + 1), sp.2.2.2.2.2.2.2.2.2) tk sv mf mo mn ma kv tv)) (st2 := [.int r1006, .int (sp.1 (0 : Int32).toNatClampNeg), .ref 11]) (run_X4_lastBy sp.2.2.2.2.2.2.2.1 (sp.1 (0 : Int32).toNatClampNeg)   (sp.1, (upd sp.2.1 (sp.1 (0 : Int32).toNatClampNeg).toNatClampNeg ((sp.2.1 (sp.1 (0 : Int32).toNatClampNeg).toNatClampNeg) + 1)), sp.2.2.1, sp.2.2.2.1, sp.2.2.2.2.1, sp.2.2.2.2.2.1, sp.2.2.2.2.2.2.1, sp.2.2.2.2.2.2.2.1, (sp.2.2.2.2.2.2.2.2.1 + 1), sp.2.2.2.2.2.2.2.2.2) tk sv mf mo mn ma kv tv h_1006) cv_X4_lastBy lk_X4_106 (by decide +kernel) (List.range 26) List.nodup_range ⟨(by rw [List.length_range]; exact Nat.le_refl _), Nat.le_of_ble_eq_true rfl⟩ (hwId rfl) rfl rfl (Nat.le_of_ble_eq_true rfl) ⟨by decide, by decide⟩ rfl rfl ⟨Nat.zero_le _, Nat.zero_le _⟩ (hpId rfl rfl) rfl ?_
  obtain ⟨h_1007, hf⟩ := grd_s hf
  refine m_run M (is := [(57, .iastore, 0), (58, .iconst 0, 0), (59, .istore_n 3, 0)]) (pc' := 60) (L' := [some (.ref 0), some (.int (sp.1 (0 : Int32).toNatClampNeg)), some (.int r1005), some (.int 0)]) (st' := []) (w' := (cM 0 (sp.1, (upd sp.2.1 (sp.1 (0 : Int32).toNatClampNeg).toNatClampNeg ((sp.2.1 (sp.1 (0 : Int32).toNatClampNeg).toNatClampNeg) + 1)), (upd sp.2.2.1 (sp.1 (0 : Int32).toNatClampNeg).toNatClampNeg r1006), sp.2.2.2.1, sp.2.2.2.2.1, sp.2.2.2.2.2.1, sp.2.2.2.2.2.2.1, sp.2.2.2.2.2.2.2.1, (sp.2.2.2.2.2.2.2.2.1 + 1), sp.2.2.2.2.2.2.2.2.2) tk sv mf mo mn ma kv tv)) (by decide +kernel) rfl ⟨inB_use h_1007, trivial⟩ ?_
  exact loop_0 (sp.1 (0 : Int32).toNatClampNeg) r1005 fuel0 0 (sp.1, (upd sp.2.1 (sp.1 (0 : Int32).toNatClampNeg).toNatClampNeg ((sp.2.1 (sp.1 (0 : Int32).toNatClampNeg).toNatClampNeg) + 1)), (upd sp.2.2.1 (sp.1 (0 : Int32).toNatClampNeg).toNatClampNeg r1006), sp.2.2.2.1, sp.2.2.2.2.1, sp.2.2.2.2.2.1, sp.2.2.2.2.2.2.1, sp.2.2.2.2.2.2.2.1, (sp.2.2.2.2.2.2.2.2.1 + 1), sp.2.2.2.2.2.2.2.2.2) hf

def f_X4_goes_L0 (v1 : Int32) : Nat → Int32 → ShT → Option (ShT)
  | 0, _, _ => none
  | n_ + 1, v2, sp =>
    if v1 ≤ v2 then
      some sp
    else
      (f_X4_turn sp).bind fun r102 =>
      f_X4_goes_L0 v1 n_ (v2 + 1) r102
def f_X4_goes (a0 : Int32) (sp : ShT) : Option (ShT) :=
  f_X4_goes_L0 a0 fuel0 0 sp
set_option maxRecDepth 100000 in
set_option maxHeartbeats 4000000 in
theorem run_X4_goes {l : Launch} {D : va_G} {cT : Nat → ClassId} (a0 : Int32)   (sp : ShT) (tk : TkT) (sv : SvT) (mf : AI) (mo : AI) (mn : AI) (ma : AI) (kv : Value) (tv : Value) {r : ShT} (hf : f_X4_goes a0 sp = some r) : Runs l D cT yX4_goes cX4_goes 3 none 2 48 [.ref 0, .int a0] (cM 0 sp tk sv mf mo mn ma kv tv) (EQ none (cM 0 r tk sv mf mo mn ma kv tv)) := by
  refine runs_of O_X4 okO_X4 (by decide +kernel) rfl rfl (Nat.le_of_ble_eq_true rfl) (Nat.le_of_ble_eq_true rfl) (fun g K => ?_)
  have M := K.b
  show g 0 0 (cM 0 sp tk sv mf mo mn ma kv tv) 0 [some (.ref 0), some (.int a0), none] []
  have loop_0 : ∀ (v1 : Int32) (n_ : Nat), (∀ (v2 : Int32) (sp : ShT), f_X4_goes_L0 v1 n_ v2 sp = some r → g 0 0 (cM 0 sp tk sv mf mo mn ma kv tv) 2 [some (.ref 0), some (.int v1), some (.int v2)] []) := by
    intro v1 n_
    induction n_ with
    | zero => intro v2 sp hf; cases hf
    | succ n_ ih =>
      intro v2 sp hf
      rw [f_X4_goes_L0] at hf
      refine m_run M (is := [(2, .iload_n 2, 0), (3, .iload_n 1, 0)]) (pc' := 4) (L' := [some (.ref 0), some (.int v1), some (.int v2)]) (st' := [.int v1, .int v2]) (w' := (cM 0 sp tk sv mf mo mn ma kv tv)) (by decide +kernel) rfl trivial ?_
      rcases ite_s hf with ⟨c_101, hf⟩ | ⟨c_101, hf⟩
      · refine m_jT M (i := .if_icmp .ge 13) 17 (by decide +kernel) rfl (by decide) c_101 ?_
        obtain rfl := Option.some.inj hf
        exact m_vret K (by decide +kernel) (Nat.zero_le _) (Nat.zero_le _) ⟨rfl, rfl⟩
      · refine m_jF M (i := .if_icmp .ge 13) 17 (by decide +kernel) rfl (by decide) c_101 ?_
        refine m_run M (is := [(7, .aload_n 0, 0)]) (pc' := 8) (L' := [some (.ref 0), some (.int v1), some (.int v2)]) (st' := [.ref 0]) (w' := (cM 0 sp tk sv mf mo mn ma kv tv)) (by decide +kernel) rfl trivial ?_
        obtain ⟨r102, h_102, hf⟩ := bnd_s hf
        refine m_cV0 M (rest := []) (w2 := (cM 0 r102 tk sv mf mo mn ma kv tv)) (st2 := []) (run_X4_turn    sp tk sv mf mo mn ma kv tv h_102) cv_X4_turn lk_X4_249 (by decide +kernel) (List.range 26) List.nodup_range ⟨(by rw [List.length_range]; exact Nat.le_refl _), Nat.le_of_ble_eq_true rfl⟩ (hwId rfl) rfl rfl (Nat.le_of_ble_eq_true rfl) ⟨by decide, by decide⟩ rfl rfl ⟨Nat.zero_le _, Nat.zero_le _⟩ (hpId rfl rfl) rfl ?_
        refine m_run M (is := [(11, .iinc 2 1, 1), (14, .goto (-12), 0)]) (pc' := 2) (L' := [some (.ref 0), some (.int v1), some (.int (v2 + 1))]) (st' := []) (w' := (cM 0 r102 tk sv mf mo mn ma kv tv)) (by decide +kernel) rfl trivial ?_
        exact ih (v2 + 1) r102 hf
  rw [f_X4_goes] at hf
  refine m_run M (is := [(0, .iconst 0, 0), (1, .istore_n 2, 0)]) (pc' := 2) (L' := [some (.ref 0), some (.int a0), some (.int 0)]) (st' := []) (w' := (cM 0 sp tk sv mf mo mn ma kv tv)) (by decide +kernel) rfl trivial ?_
  exact loop_0 a0 fuel0 0 sp hf

def f_X4_serveTold (sp : ShT) (tk : TkT) : Option (Int32 × ShT × TkT) :=
  (f_X4_goesOn sp).bind fun r1001 =>
  if r1001 = 0 then
    (f_X4_tells 1 0 tk).bind fun r1003 =>
    if r1003.1 = 0 then
      some (0, sp, r1003.2)
    else
      if inB 0 2 then
      (f_X4_goes (r1003.2.2.1 (0 : Int32).toNatClampNeg) sp).bind fun r1006 =>
      some (1, r1006, r1003.2)
      else none
  else
    (f_X4_tells 1 99 tk).bind fun r1007 =>
    if r1007.1 = 0 then
      some (0, sp, r1007.2)
    else
      if inB 0 2 then
      (f_X4_goes (r1007.2.2.1 (0 : Int32).toNatClampNeg) sp).bind fun r1010 =>
      some (1, r1010, r1007.2)
      else none
set_option maxRecDepth 100000 in
set_option maxHeartbeats 4000000 in
theorem run_X4_serveTold {l : Launch} {D : va_G} {cT : Nat → ClassId}    (sp : ShT) (tk : TkT) (sv : SvT) (mf : AI) (mo : AI) (mn : AI) (ma : AI) (kv : Value) (tv : Value) {r : Int32 × ShT × TkT} (hf : f_X4_serveTold sp tk = some r) : Runs l D cT yX4_serveTold cX4_serveTold 1 (some .boolean) 4 85 [.ref 0] (cM 0 sp tk sv mf mo mn ma kv tv) (EQ (some (.int r.1)) (cM 0 r.2.1 r.2.2 sv mf mo mn ma kv tv)) := by
  refine runs_of O_X4 okO_X4 (by decide +kernel) rfl rfl (Nat.le_of_ble_eq_true rfl) (Nat.le_of_ble_eq_true rfl) (fun g K => ?_)
  have M := K.b
  show g 0 0 (cM 0 sp tk sv mf mo mn ma kv tv) 0 [some (.ref 0)] []
  rw [f_X4_serveTold] at hf
  refine m_run M (is := [(0, .aload_n 0, 0), (1, .iconst 1, 1), (2, .aload_n 0, 0)]) (pc' := 3) (L' := [some (.ref 0)]) (st' := [.ref 0, .int 1, .ref 0]) (w' := (cM 0 sp tk sv mf mo mn ma kv tv)) (by decide +kernel) rfl trivial ?_
  obtain ⟨r1001, h_1001, hf⟩ := bnd_s hf
  refine m_cV0 M (rest := [.int 1, .ref 0]) (w2 := (cM 0 sp tk sv mf mo mn ma kv tv)) (st2 := [.int r1001, .int 1, .ref 0]) (run_X4_goesOn    sp tk sv mf mo mn ma kv tv h_1001) cv_X4_goesOn lk_X4_184 (by decide +kernel) (List.range 26) List.nodup_range ⟨(by rw [List.length_range]; exact Nat.le_refl _), Nat.le_of_ble_eq_true rfl⟩ (hwId rfl) rfl rfl (Nat.le_of_ble_eq_true rfl) ⟨by decide, by decide⟩ rfl rfl ⟨Nat.zero_le _, Nat.zero_le _⟩ (hpId rfl rfl) rfl ?_
  rcases ite_s hf with ⟨c_1002, hf⟩ | ⟨c_1002, hf⟩
  · refine m_jT M (i := .ifCond .eq 8) 14 (by decide +kernel) rfl (by decide) c_1002 ?_
    refine m_run M (is := [(14, .iconst 0, 0)]) (pc' := 15) (L' := [some (.ref 0)]) (st' := [.int 0, .int 1, .ref 0]) (w' := (cM 0 sp tk sv mf mo mn ma kv tv)) (by decide +kernel) rfl trivial ?_
    obtain ⟨r1003, h_1003, hf⟩ := bnd_s hf
    refine m_cV0 M (rest := []) (w2 := (cM 0 sp r1003.2 sv mf mo mn ma kv tv)) (st2 := [.int r1003.1]) (run_X4_tells 1 0   sp tk sv mf mo mn ma kv tv h_1003) cv_X4_tells lk_X4_181 (by decide +kernel) (List.range 26) List.nodup_range ⟨(by rw [List.length_range]; exact Nat.le_refl _), Nat.le_of_ble_eq_true rfl⟩ (hwId rfl) rfl rfl (Nat.le_of_ble_eq_true rfl) ⟨by decide, by decide⟩ rfl rfl ⟨Nat.zero_le _, Nat.zero_le _⟩ (hpId rfl rfl) rfl ?_
    rcases ite_s hf with ⟨c_1004, hf⟩ | ⟨c_1004, hf⟩
    · refine m_jF M (i := .ifCond .ne 5) 23 (by decide +kernel) rfl (by decide) (fun n => n c_1004) ?_
      refine m_run M (is := [(21, .iconst 0, 0)]) (pc' := 22) (L' := [some (.ref 0)]) (st' := [.int 0]) (w' := (cM 0 sp r1003.2 sv mf mo mn ma kv tv)) (by decide +kernel) rfl trivial ?_
      obtain rfl := Option.some.inj hf
      exact m_zret K (by decide +kernel) (Or.inl rfl) (Nat.zero_le _) (Nat.zero_le _) ⟨rfl, rfl⟩
    · refine m_jT M (i := .ifCond .ne 5) 23 (by decide +kernel) rfl (by decide) c_1004 ?_
      obtain ⟨h_1005, hf⟩ := grd_s hf
      refine m_run M (is := [(23, .aload_n 0, 0), (24, .aload_n 0, 0), (25, .getfield 56, 0), (28, .iconst 0, 0), (29, .iaload, 0)]) (pc' := 30) (L' := [some (.ref 0)]) (st' := [.int (r1003.2.2.1 (0 : Int32).toNatClampNeg), .ref 0]) (w' := (cM 0 sp r1003.2 sv mf mo mn ma kv tv)) (by decide +kernel) rfl ⟨inB_use h_1005, trivial⟩ ?_
      obtain ⟨r1006, h_1006, hf⟩ := bnd_s hf
      refine m_cV0 M (rest := []) (w2 := (cM 0 r1006 r1003.2 sv mf mo mn ma kv tv)) (st2 := []) (run_X4_goes (r1003.2.2.1 (0 : Int32).toNatClampNeg)   sp r1003.2 sv mf mo mn ma kv tv h_1006) cv_X4_goes lk_X4_187 (by decide +kernel) (List.range 26) List.nodup_range ⟨(by rw [List.length_range]; exact Nat.le_refl _), Nat.le_of_ble_eq_true rfl⟩ (hwId rfl) rfl rfl (Nat.le_of_ble_eq_true rfl) ⟨by decide, by decide⟩ rfl rfl ⟨Nat.zero_le _, Nat.zero_le _⟩ (hpId rfl rfl) rfl ?_
      refine m_run M (is := [(33, .iconst 1, 1)]) (pc' := 34) (L' := [some (.ref 0)]) (st' := [.int 1]) (w' := (cM 0 r1006 r1003.2 sv mf mo mn ma kv tv)) (by decide +kernel) rfl trivial ?_
      obtain rfl := Option.some.inj hf
      exact m_zret K (by decide +kernel) (Or.inr rfl) (Nat.zero_le _) (Nat.zero_le _) ⟨rfl, rfl⟩
  · refine m_jF M (i := .ifCond .eq 8) 14 (by decide +kernel) rfl (by decide) c_1002 ?_
    refine m_run M (is := [(9, .bipush 99, 99), (11, .goto 4, 0)]) (pc' := 15) (L' := [some (.ref 0)]) (st' := [.int 99, .int 1, .ref 0]) (w' := (cM 0 sp tk sv mf mo mn ma kv tv)) (by decide +kernel) rfl trivial ?_
    obtain ⟨r1007, h_1007, hf⟩ := bnd_s hf
    refine m_cV0 M (rest := []) (w2 := (cM 0 sp r1007.2 sv mf mo mn ma kv tv)) (st2 := [.int r1007.1]) (run_X4_tells 1 99   sp tk sv mf mo mn ma kv tv h_1007) cv_X4_tells lk_X4_181 (by decide +kernel) (List.range 26) List.nodup_range ⟨(by rw [List.length_range]; exact Nat.le_refl _), Nat.le_of_ble_eq_true rfl⟩ (hwId rfl) rfl rfl (Nat.le_of_ble_eq_true rfl) ⟨by decide, by decide⟩ rfl rfl ⟨Nat.zero_le _, Nat.zero_le _⟩ (hpId rfl rfl) rfl ?_
    rcases ite_s hf with ⟨c_1008, hf⟩ | ⟨c_1008, hf⟩
    · refine m_jF M (i := .ifCond .ne 5) 23 (by decide +kernel) rfl (by decide) (fun n => n c_1008) ?_
      refine m_run M (is := [(21, .iconst 0, 0)]) (pc' := 22) (L' := [some (.ref 0)]) (st' := [.int 0]) (w' := (cM 0 sp r1007.2 sv mf mo mn ma kv tv)) (by decide +kernel) rfl trivial ?_
      obtain rfl := Option.some.inj hf
      exact m_zret K (by decide +kernel) (Or.inl rfl) (Nat.zero_le _) (Nat.zero_le _) ⟨rfl, rfl⟩
    · refine m_jT M (i := .ifCond .ne 5) 23 (by decide +kernel) rfl (by decide) c_1008 ?_
      obtain ⟨h_1009, hf⟩ := grd_s hf
      refine m_run M (is := [(23, .aload_n 0, 0), (24, .aload_n 0, 0), (25, .getfield 56, 0), (28, .iconst 0, 0), (29, .iaload, 0)]) (pc' := 30) (L' := [some (.ref 0)]) (st' := [.int (r1007.2.2.1 (0 : Int32).toNatClampNeg), .ref 0]) (w' := (cM 0 sp r1007.2 sv mf mo mn ma kv tv)) (by decide +kernel) rfl ⟨inB_use h_1009, trivial⟩ ?_
      obtain ⟨r1010, h_1010, hf⟩ := bnd_s hf
      refine m_cV0 M (rest := []) (w2 := (cM 0 r1010 r1007.2 sv mf mo mn ma kv tv)) (st2 := []) (run_X4_goes (r1007.2.2.1 (0 : Int32).toNatClampNeg)   sp r1007.2 sv mf mo mn ma kv tv h_1010) cv_X4_goes lk_X4_187 (by decide +kernel) (List.range 26) List.nodup_range ⟨(by rw [List.length_range]; exact Nat.le_refl _), Nat.le_of_ble_eq_true rfl⟩ (hwId rfl) rfl rfl (Nat.le_of_ble_eq_true rfl) ⟨by decide, by decide⟩ rfl rfl ⟨Nat.zero_le _, Nat.zero_le _⟩ (hpId rfl rfl) rfl ?_
      refine m_run M (is := [(33, .iconst 1, 1)]) (pc' := 34) (L' := [some (.ref 0)]) (st' := [.int 1]) (w' := (cM 0 r1010 r1007.2 sv mf mo mn ma kv tv)) (by decide +kernel) rfl trivial ?_
      obtain rfl := Option.some.inj hf
      exact m_zret K (by decide +kernel) (Or.inr rfl) (Nat.zero_le _) (Nat.zero_le _) ⟨rfl, rfl⟩

def f_X4_lettingAt (a0 : Int32) (sp : ShT) : Option (ShT) :=
  if inB a0 16 then
  if inB (a0 + 1) 16 then
  if inB a0 16 then
  if inB (a0 + 1) 16 then
  some ((upd (upd sp.1 a0.toNatClampNeg (sp.1 (a0 + 1).toNatClampNeg)) (a0 + 1).toNatClampNeg (sp.1 a0.toNatClampNeg)), sp.2.1, sp.2.2.1, sp.2.2.2.1, sp.2.2.2.2.1, sp.2.2.2.2.2.1, sp.2.2.2.2.2.2.1, sp.2.2.2.2.2.2.2.1, sp.2.2.2.2.2.2.2.2.1, sp.2.2.2.2.2.2.2.2.2)
  else none
  else none
  else none
  else none
set_option maxRecDepth 100000 in
set_option maxHeartbeats 4000000 in
theorem run_X4_lettingAt {l : Launch} {D : va_G} {cT : Nat → ClassId} (a0 : Int32)   (sp : ShT) (tk : TkT) (sv : SvT) (mf : AI) (mo : AI) (mn : AI) (ma : AI) (kv : Value) (tv : Value) {r : ShT} (hf : f_X4_lettingAt a0 sp = some r) : Runs l D cT yX4_lettingAt cX4_lettingAt 3 none 0 0 [.ref 0, .int a0] (cM 0 sp tk sv mf mo mn ma kv tv) (EQ none (cM 0 r tk sv mf mo mn ma kv tv)) := by
  refine runs_of O_X4 okO_X4 (by decide +kernel) rfl rfl (Nat.le_of_ble_eq_true rfl) (Nat.le_of_ble_eq_true rfl) (fun g K => ?_)
  have M := K.b
  show g 0 0 (cM 0 sp tk sv mf mo mn ma kv tv) 0 [some (.ref 0), some (.int a0), none] []
  rw [f_X4_lettingAt] at hf
  obtain ⟨h_1001, hf⟩ := grd_s hf
  obtain ⟨h_1002, hf⟩ := grd_s hf
  obtain ⟨h_1003, hf⟩ := grd_s hf
  obtain ⟨h_1004, hf⟩ := grd_s hf
  refine m_run M (is := [(0, .aload_n 0, 0), (1, .getfield 37, 0), (4, .iload_n 1, 0), (5, .iaload, 0), (6, .istore_n 2, 0), (7, .aload_n 0, 0), (8, .getfield 37, 0), (11, .iload_n 1, 0), (12, .aload_n 0, 0), (13, .getfield 37, 0), (16, .iload_n 1, 0), (17, .iconst 1, 1), (18, .iadd, 0), (19, .iaload, 0), (20, .iastore, 0), (21, .aload_n 0, 0), (22, .getfield 37, 0), (25, .iload_n 1, 0), (26, .iconst 1, 1), (27, .iadd, 0), (28, .iload_n 2, 0), (29, .iastore, 0)]) (pc' := 30) (L' := [some (.ref 0), some (.int a0), some (.int (sp.1 a0.toNatClampNeg))]) (st' := []) (w' := (cM 0 ((upd (upd sp.1 a0.toNatClampNeg (sp.1 (a0 + 1).toNatClampNeg)) (a0 + 1).toNatClampNeg (sp.1 a0.toNatClampNeg)), sp.2.1, sp.2.2.1, sp.2.2.2.1, sp.2.2.2.2.1, sp.2.2.2.2.2.1, sp.2.2.2.2.2.2.1, sp.2.2.2.2.2.2.2.1, sp.2.2.2.2.2.2.2.2.1, sp.2.2.2.2.2.2.2.2.2) tk sv mf mo mn ma kv tv)) (by decide +kernel) rfl ⟨inB_use h_1001, inB_use h_1002, inB_use h_1003, inB_use h_1004, trivial⟩ ?_
  obtain rfl := Option.some.inj hf
  exact m_vret K (by decide +kernel) (Nat.zero_le _) (Nat.zero_le _) ⟨rfl, rfl⟩

def f_X4_placeOf_L0 (v1 : Int32) (sp : ShT) : Nat → Int32 → Option (Int32)
  | 0, _ => none
  | n_ + 1, v2 =>
    if inB v2 16 then
    if (sp.1 v2.toNatClampNeg) = v1 then
      some v2
    else
      f_X4_placeOf_L0 v1 sp n_ (v2 + 1)
    else none
def f_X4_placeOf (a0 : Int32) (sp : ShT) : Option (Int32) :=
  f_X4_placeOf_L0 a0 sp fuel0 0
set_option maxRecDepth 100000 in
set_option maxHeartbeats 4000000 in
theorem run_X4_placeOf {l : Launch} {D : va_G} {cT : Nat → ClassId} (a0 : Int32)   (sp : ShT) (tk : TkT) (sv : SvT) (mf : AI) (mo : AI) (mn : AI) (ma : AI) (kv : Value) (tv : Value) {r : Int32} (hf : f_X4_placeOf a0 sp = some r) : Runs l D cT yX4_placeOf cX4_placeOf 3 (some .int) 0 0 [.ref 0, .int a0] (cM 0 sp tk sv mf mo mn ma kv tv) (EQ (some (.int r)) (cM 0 sp tk sv mf mo mn ma kv tv)) := by
  refine runs_of O_X4 okO_X4 (by decide +kernel) rfl rfl (Nat.le_of_ble_eq_true rfl) (Nat.le_of_ble_eq_true rfl) (fun g K => ?_)
  have M := K.b
  show g 0 0 (cM 0 sp tk sv mf mo mn ma kv tv) 0 [some (.ref 0), some (.int a0), none] []
  have loop_0 : ∀ (v1 : Int32) (n_ : Nat), (∀ (v2 : Int32), f_X4_placeOf_L0 v1 sp n_ v2 = some r → g 0 0 (cM 0 sp tk sv mf mo mn ma kv tv) 2 [some (.ref 0), some (.int v1), some (.int v2)] []) := by
    intro v1 n_
    induction n_ with
    | zero => intro v2 hf; cases hf
    | succ n_ ih =>
      intro v2 hf
      rw [f_X4_placeOf_L0] at hf
      obtain ⟨h_101, hf⟩ := grd_s hf
      refine m_run M (is := [(2, .aload_n 0, 0), (3, .getfield 37, 0), (6, .iload_n 2, 0), (7, .iaload, 0), (8, .iload_n 1, 0)]) (pc' := 9) (L' := [some (.ref 0), some (.int v1), some (.int v2)]) (st' := [.int v1, .int (sp.1 v2.toNatClampNeg)]) (w' := (cM 0 sp tk sv mf mo mn ma kv tv)) (by decide +kernel) rfl ⟨inB_use h_101, trivial⟩ ?_
      rcases ite_s hf with ⟨c_102, hf⟩ | ⟨c_102, hf⟩
      · refine m_jT M (i := .if_icmp .eq 9) 18 (by decide +kernel) rfl (by decide) c_102 ?_
        refine m_run M (is := [(18, .iload_n 2, 0)]) (pc' := 19) (L' := [some (.ref 0), some (.int v1), some (.int v2)]) (st' := [.int v2]) (w' := (cM 0 sp tk sv mf mo mn ma kv tv)) (by decide +kernel) rfl trivial ?_
        obtain rfl := Option.some.inj hf
        exact m_iret K (by decide +kernel) (Nat.zero_le _) (Nat.zero_le _) ⟨rfl, rfl⟩
      · refine m_jF M (i := .if_icmp .eq 9) 18 (by decide +kernel) rfl (by decide) c_102 ?_
        refine m_run M (is := [(12, .iinc 2 1, 1), (15, .goto (-13), 0)]) (pc' := 2) (L' := [some (.ref 0), some (.int v1), some (.int (v2 + 1))]) (st' := []) (w' := (cM 0 sp tk sv mf mo mn ma kv tv)) (by decide +kernel) rfl trivial ?_
        exact ih (v2 + 1) hf
  rw [f_X4_placeOf] at hf
  refine m_run M (is := [(0, .iconst 0, 0), (1, .istore_n 2, 0)]) (pc' := 2) (L' := [some (.ref 0), some (.int a0), some (.int 0)]) (st' := []) (w' := (cM 0 sp tk sv mf mo mn ma kv tv)) (by decide +kernel) rfl trivial ?_
  exact loop_0 a0 fuel0 0 hf

def f_X4_movesTo_L1 (v2 : Int32) : Nat → Int32 → ShT → Option (ShT)
  | 0, _, _ => none
  | n_ + 1, v3, sp =>
    if v3 ≤ v2 then
      some sp
    else
      (f_X4_lettingAt (v3 + (-1)) sp).bind fun r202 =>
      f_X4_movesTo_L1 v2 n_ (v3 + (-1)) r202
def f_X4_movesTo_L0 (v2 : Int32) : Nat → Int32 → ShT → Option (ShT)
  | 0, _, _ => none
  | n_ + 1, v3, sp =>
    if v2 ≤ v3 then
      f_X4_movesTo_L1 v2 fuel0 v3 sp
    else
      (f_X4_lettingAt v3 sp).bind fun r102 =>
      f_X4_movesTo_L0 v2 n_ (v3 + 1) r102
def f_X4_movesTo (a0 : Int32) (a1 : Int32) (sp : ShT) : Option (ShT) :=
  (f_X4_placeOf a0 sp).bind fun r1001 =>
  f_X4_movesTo_L0 a1 fuel0 r1001 sp
set_option maxRecDepth 100000 in
set_option maxHeartbeats 4000000 in
theorem run_X4_movesTo {l : Launch} {D : va_G} {cT : Nat → ClassId} (a0 : Int32) (a1 : Int32)   (sp : ShT) (tk : TkT) (sv : SvT) (mf : AI) (mo : AI) (mn : AI) (ma : AI) (kv : Value) (tv : Value) {r : ShT} (hf : f_X4_movesTo a0 a1 sp = some r) : Runs l D cT yX4_movesTo cX4_movesTo 4 none 1 22 [.ref 0, .int a0, .int a1] (cM 0 sp tk sv mf mo mn ma kv tv) (EQ none (cM 0 r tk sv mf mo mn ma kv tv)) := by
  refine runs_of O_X4 okO_X4 (by decide +kernel) rfl rfl (Nat.le_of_ble_eq_true rfl) (Nat.le_of_ble_eq_true rfl) (fun g K => ?_)
  have M := K.b
  show g 0 0 (cM 0 sp tk sv mf mo mn ma kv tv) 0 [some (.ref 0), some (.int a0), some (.int a1), none] []
  have loop_1 : ∀ (v2 : Int32) (n_ : Nat), (∀ (v3 : Int32) (sp : ShT), f_X4_movesTo_L1 v2 n_ v3 sp = some r → g 0 0 (cM 0 sp tk sv mf mo mn ma kv tv) 22 [some (.ref 0), none, some (.int v2), some (.int v3)] []) := by
    intro v2 n_
    induction n_ with
    | zero => intro v3 sp hf; cases hf
    | succ n_ ih =>
      intro v3 sp hf
      rw [f_X4_movesTo_L1] at hf
      refine m_run M (is := [(22, .iload_n 3, 0), (23, .iload_n 2, 0)]) (pc' := 24) (L' := [some (.ref 0), none, some (.int v2), some (.int v3)]) (st' := [.int v2, .int v3]) (w' := (cM 0 sp tk sv mf mo mn ma kv tv)) (by decide +kernel) rfl trivial ?_
      rcases ite_s hf with ⟨c_201, hf⟩ | ⟨c_201, hf⟩
      · refine m_jT M (i := .if_icmp .le 14) 38 (by decide +kernel) rfl (by decide) c_201 ?_
        obtain rfl := Option.some.inj hf
        exact m_vret K (by decide +kernel) (Nat.zero_le _) (Nat.zero_le _) ⟨rfl, rfl⟩
      · refine m_jF M (i := .if_icmp .le 14) 38 (by decide +kernel) rfl (by decide) c_201 ?_
        refine m_run M (is := [(27, .iinc 3 (-1), -1), (30, .aload_n 0, 0), (31, .iload_n 3, 0)]) (pc' := 32) (L' := [some (.ref 0), none, some (.int v2), some (.int (v3 + (-1)))]) (st' := [.int (v3 + (-1)), .ref 0]) (w' := (cM 0 sp tk sv mf mo mn ma kv tv)) (by decide +kernel) rfl trivial ?_
        obtain ⟨r202, h_202, hf⟩ := bnd_s hf
        refine m_cV0 M (rest := []) (w2 := (cM 0 r202 tk sv mf mo mn ma kv tv)) (st2 := []) (run_X4_lettingAt (v3 + (-1))   sp tk sv mf mo mn ma kv tv h_202) cv_X4_lettingAt lk_X4_210 (by decide +kernel) (List.range 26) List.nodup_range ⟨(by rw [List.length_range]; exact Nat.le_refl _), Nat.le_of_ble_eq_true rfl⟩ (hwId rfl) rfl rfl (Nat.le_of_ble_eq_true rfl) ⟨by decide, by decide⟩ rfl rfl ⟨Nat.zero_le _, Nat.zero_le _⟩ (hpId rfl rfl) rfl ?_
        refine m_run M (is := [(35, .goto (-13), 0)]) (pc' := 22) (L' := [some (.ref 0), none, some (.int v2), some (.int (v3 + (-1)))]) (st' := []) (w' := (cM 0 r202 tk sv mf mo mn ma kv tv)) (by decide +kernel) rfl trivial ?_
        exact ih (v3 + (-1)) r202 hf
  have loop_0 : ∀ (v2 : Int32) (n_ : Nat), (∀ (v3 : Int32) (sp : ShT), f_X4_movesTo_L0 v2 n_ v3 sp = some r → g 0 0 (cM 0 sp tk sv mf mo mn ma kv tv) 6 [some (.ref 0), none, some (.int v2), some (.int v3)] []) := by
    intro v2 n_
    induction n_ with
    | zero => intro v3 sp hf; cases hf
    | succ n_ ih =>
      intro v3 sp hf
      rw [f_X4_movesTo_L0] at hf
      refine m_run M (is := [(6, .iload_n 3, 0), (7, .iload_n 2, 0)]) (pc' := 8) (L' := [some (.ref 0), none, some (.int v2), some (.int v3)]) (st' := [.int v2, .int v3]) (w' := (cM 0 sp tk sv mf mo mn ma kv tv)) (by decide +kernel) rfl trivial ?_
      rcases ite_s hf with ⟨c_101, hf⟩ | ⟨c_101, hf⟩
      · refine m_jT M (i := .if_icmp .ge 14) 22 (by decide +kernel) rfl (by decide) c_101 ?_
        exact loop_1 v2 fuel0 v3 sp hf
      · refine m_jF M (i := .if_icmp .ge 14) 22 (by decide +kernel) rfl (by decide) c_101 ?_
        refine m_run M (is := [(11, .aload_n 0, 0), (12, .iload_n 3, 0)]) (pc' := 13) (L' := [some (.ref 0), none, some (.int v2), some (.int v3)]) (st' := [.int v3, .ref 0]) (w' := (cM 0 sp tk sv mf mo mn ma kv tv)) (by decide +kernel) rfl trivial ?_
        obtain ⟨r102, h_102, hf⟩ := bnd_s hf
        refine m_cV0 M (rest := []) (w2 := (cM 0 r102 tk sv mf mo mn ma kv tv)) (st2 := []) (run_X4_lettingAt v3   sp tk sv mf mo mn ma kv tv h_102) cv_X4_lettingAt lk_X4_210 (by decide +kernel) (List.range 26) List.nodup_range ⟨(by rw [List.length_range]; exact Nat.le_refl _), Nat.le_of_ble_eq_true rfl⟩ (hwId rfl) rfl rfl (Nat.le_of_ble_eq_true rfl) ⟨by decide, by decide⟩ rfl rfl ⟨Nat.zero_le _, Nat.zero_le _⟩ (hpId rfl rfl) rfl ?_
        refine m_run M (is := [(16, .iinc 3 1, 1), (19, .goto (-13), 0)]) (pc' := 6) (L' := [some (.ref 0), none, some (.int v2), some (.int (v3 + 1))]) (st' := []) (w' := (cM 0 r102 tk sv mf mo mn ma kv tv)) (by decide +kernel) rfl trivial ?_
        exact ih (v3 + 1) r102 hf
  rw [f_X4_movesTo] at hf
  refine m_run M (is := [(0, .aload_n 0, 0), (1, .iload_n 1, 0)]) (pc' := 2) (L' := [some (.ref 0), some (.int a0), some (.int a1), none]) (st' := [.int a0, .ref 0]) (w' := (cM 0 sp tk sv mf mo mn ma kv tv)) (by decide +kernel) rfl trivial ?_
  obtain ⟨r1001, h_1001, hf⟩ := bnd_s hf
  refine m_cV0 M (rest := []) (w2 := (cM 0 sp tk sv mf mo mn ma kv tv)) (st2 := [.int r1001]) (run_X4_placeOf a0   sp tk sv mf mo mn ma kv tv h_1001) cv_X4_placeOf lk_X4_243 (by decide +kernel) (List.range 26) List.nodup_range ⟨(by rw [List.length_range]; exact Nat.le_refl _), Nat.le_of_ble_eq_true rfl⟩ (hwId rfl) rfl rfl (Nat.le_of_ble_eq_true rfl) ⟨by decide, by decide⟩ rfl rfl ⟨Nat.zero_le _, Nat.zero_le _⟩ (hpId rfl rfl) rfl ?_
  refine m_run M (is := [(5, .istore_n 3, 0)]) (pc' := 6) (L' := [some (.ref 0), some (.int a0), some (.int a1), some (.int r1001)]) (st' := []) (w' := (cM 0 sp tk sv mf mo mn ma kv tv)) (by decide +kernel) rfl trivial ?_
  refine m_wk M [some (.ref 0), none, some (.int a1), some (.int r1001)] ⟨Or.inr rfl, Or.inl rfl, Or.inr rfl, Or.inr rfl, trivial⟩ ?_
  exact loop_0 a1 fuel0 r1001 sp hf

def f_X4_lastLeaves (sp : ShT) : Option (ShT) :=
  (f_X4_movesTo (sp.2.2.2.2.2.1 - 1) (sp.2.2.2.2.2.1 - 1) sp).bind fun r1001 =>
  some (r1001.1, r1001.2.1, r1001.2.2.1, r1001.2.2.2.1, r1001.2.2.2.2.1, (r1001.2.2.2.2.2.1 - 1), r1001.2.2.2.2.2.2.1, r1001.2.2.2.2.2.2.2.1, r1001.2.2.2.2.2.2.2.2.1, r1001.2.2.2.2.2.2.2.2.2)
set_option maxRecDepth 100000 in
set_option maxHeartbeats 4000000 in
theorem run_X4_lastLeaves {l : Launch} {D : va_G} {cT : Nat → ClassId}    (sp : ShT) (tk : TkT) (sv : SvT) (mf : AI) (mo : AI) (mn : AI) (ma : AI) (kv : Value) (tv : Value) {r : ShT} (hf : f_X4_lastLeaves sp = some r) : Runs l D cT yX4_lastLeaves cX4_lastLeaves 1 none 2 45 [.ref 0] (cM 0 sp tk sv mf mo mn ma kv tv) (EQ none (cM 0 r tk sv mf mo mn ma kv tv)) := by
  refine runs_of O_X4 okO_X4 (by decide +kernel) rfl rfl (Nat.le_of_ble_eq_true rfl) (Nat.le_of_ble_eq_true rfl) (fun g K => ?_)
  have M := K.b
  show g 0 0 (cM 0 sp tk sv mf mo mn ma kv tv) 0 [some (.ref 0)] []
  rw [f_X4_lastLeaves] at hf
  refine m_run M (is := [(0, .aload_n 0, 0), (1, .aload_n 0, 0), (2, .getfield 69, 0), (5, .iconst 1, 1), (6, .isub, 0), (7, .aload_n 0, 0), (8, .getfield 69, 0), (11, .iconst 1, 1), (12, .isub, 0)]) (pc' := 13) (L' := [some (.ref 0)]) (st' := [.int (sp.2.2.2.2.2.1 - 1), .int (sp.2.2.2.2.2.1 - 1), .ref 0]) (w' := (cM 0 sp tk sv mf mo mn ma kv tv)) (by decide +kernel) rfl trivial ?_
  obtain ⟨r1001, h_1001, hf⟩ := bnd_s hf
  refine m_cV0 M (rest := []) (w2 := (cM 0 r1001 tk sv mf mo mn ma kv tv)) (st2 := []) (run_X4_movesTo (sp.2.2.2.2.2.1 - 1) (sp.2.2.2.2.2.1 - 1)   sp tk sv mf mo mn ma kv tv h_1001) cv_X4_movesTo lk_X4_252 (by decide +kernel) (List.range 26) List.nodup_range ⟨(by rw [List.length_range]; exact Nat.le_refl _), Nat.le_of_ble_eq_true rfl⟩ (hwId rfl) rfl rfl (Nat.le_of_ble_eq_true rfl) ⟨by decide, by decide⟩ rfl rfl ⟨Nat.zero_le _, Nat.zero_le _⟩ (hpId rfl rfl) rfl ?_
  refine m_run M (is := [(16, .aload_n 0, 0), (17, .dup, 0), (18, .getfield 69, 0), (21, .iconst 1, 1), (22, .isub, 0), (23, .putfield 69, 0)]) (pc' := 26) (L' := [some (.ref 0)]) (st' := []) (w' := (cM 0 (r1001.1, r1001.2.1, r1001.2.2.1, r1001.2.2.2.1, r1001.2.2.2.2.1, (r1001.2.2.2.2.2.1 - 1), r1001.2.2.2.2.2.2.1, r1001.2.2.2.2.2.2.2.1, r1001.2.2.2.2.2.2.2.2.1, r1001.2.2.2.2.2.2.2.2.2) tk sv mf mo mn ma kv tv)) (by decide +kernel) rfl trivial ?_
  obtain rfl := Option.some.inj hf
  exact m_vret K (by decide +kernel) (Nat.zero_le _) (Nat.zero_le _) ⟨rfl, rfl⟩

def f_X4_statement (sp : ShT) (tk : TkT) : Option (Int32 × ShT × TkT) :=
  (f_X4_isWord 7 tk).bind fun r1001 =>
  if r1001 = 0 then
    (f_X4_isWord 8 tk).bind fun r1003 =>
    if r1003 = 0 then
      (f_X4_isWord 9 tk).bind fun r1005 =>
      if r1005 = 0 then
        (f_X4_isWord 10 tk).bind fun r1007 =>
        if r1007 = 0 then
          (f_X4_isWord 11 tk).bind fun r1009 =>
          if r1009 = 0 then
            (f_X4_isWord 12 tk).bind fun r1011 =>
            if r1011 = 0 then
              (f_X4_isWord 13 tk).bind fun r1013 =>
              if r1013 = 0 then
                (f_X4_wrong tk).bind fun r1015 =>
                if z01 r1015.1 then
                some (r1015.1, sp, r1015.2)
                else none
              else
                (f_X4_tells 0 (sp.2.2.2.2.2.1 - 1) tk).bind fun r1017 =>
                if r1017.1 = 0 then
                  some (0, sp, r1017.2)
                else
                  (f_X4_number 1 0 999 r1017.2).bind fun r1019 =>
                  if r1019.1 = 0 then
                    some (0, sp, r1019.2)
                  else
                    if inB 0 2 then
                    if inB 1 2 then
                    if inB (r1019.2.2.1 (0 : Int32).toNatClampNeg) 16 then
                    some (1, (sp.1, (upd sp.2.1 (r1019.2.2.1 (0 : Int32).toNatClampNeg).toNatClampNeg (r1019.2.2.1 (1 : Int32).toNatClampNeg)), sp.2.2.1, sp.2.2.2.1, sp.2.2.2.2.1, sp.2.2.2.2.2.1, sp.2.2.2.2.2.2.1, sp.2.2.2.2.2.2.2.1, sp.2.2.2.2.2.2.2.2.1, sp.2.2.2.2.2.2.2.2.2), r1019.2)
                    else none
                    else none
                    else none
            else
              if sp.2.2.2.2.2.1 ≤ 0 then
                (f_X4_tells 0 (sp.2.2.2.2.2.1 - 1) tk).bind fun r1025 =>
                if r1025.1 = 0 then
                  some (0, sp, r1025.2)
                else
                  (f_X4_lastLeaves sp).bind fun r1027 =>
                  some (1, r1027, r1025.2)
              else
                (f_X4_tells (sp.2.2.2.2.2.1 - 1) (sp.2.2.2.2.2.1 - 1) tk).bind fun r1028 =>
                if r1028.1 = 0 then
                  some (0, sp, r1028.2)
                else
                  (f_X4_lastLeaves sp).bind fun r1030 =>
                  some (1, r1030, r1028.2)
          else
            (f_X4_tells 0 (sp.2.2.2.2.2.1 - 2) tk).bind fun r1031 =>
            if r1031.1 = 0 then
              some (0, sp, r1031.2)
            else
              if inB 0 2 then
              (f_X4_lettingAt (r1031.2.2.1 (0 : Int32).toNatClampNeg) sp).bind fun r1034 =>
              some (1, r1034, r1031.2)
              else none
        else
          (f_X4_serveTold sp tk).bind fun r1035 =>
          if z01 r1035.1 then
          some (r1035.1, r1035.2.1, r1035.2.2)
          else none
      else
        (f_X4_tells 0 (sp.2.2.2.2.2.2.1 - 1) tk).bind fun r1037 =>
        if r1037.1 = 0 then
          if z01 r1037.1 then
          some (r1037.1, sp, r1037.2)
          else none
        else
          if inB 0 2 then
          if z01 r1037.1 then
          some (r1037.1, (sp.1, sp.2.1, sp.2.2.1, sp.2.2.2.1, sp.2.2.2.2.1, sp.2.2.2.2.2.1, sp.2.2.2.2.2.2.1, (r1037.2.2.1 (0 : Int32).toNatClampNeg), sp.2.2.2.2.2.2.2.2.1, sp.2.2.2.2.2.2.2.2.2), r1037.2)
          else none
          else none
    else
      if 6 ≤ sp.2.2.2.2.2.2.1 then
        (f_X4_isWord 9 tk).bind fun r1043 =>
        if r1043 = 0 then
          (f_X4_isWord 10 tk).bind fun r1045 =>
          if r1045 = 0 then
            (f_X4_isWord 11 tk).bind fun r1047 =>
            if r1047 = 0 then
              (f_X4_isWord 12 tk).bind fun r1049 =>
              if r1049 = 0 then
                (f_X4_isWord 13 tk).bind fun r1051 =>
                if r1051 = 0 then
                  (f_X4_wrong tk).bind fun r1053 =>
                  if z01 r1053.1 then
                  some (r1053.1, sp, r1053.2)
                  else none
                else
                  (f_X4_tells 0 (sp.2.2.2.2.2.1 - 1) tk).bind fun r1055 =>
                  if r1055.1 = 0 then
                    some (0, sp, r1055.2)
                  else
                    (f_X4_number 1 0 999 r1055.2).bind fun r1057 =>
                    if r1057.1 = 0 then
                      some (0, sp, r1057.2)
                    else
                      if inB 0 2 then
                      if inB 1 2 then
                      if inB (r1057.2.2.1 (0 : Int32).toNatClampNeg) 16 then
                      some (1, (sp.1, (upd sp.2.1 (r1057.2.2.1 (0 : Int32).toNatClampNeg).toNatClampNeg (r1057.2.2.1 (1 : Int32).toNatClampNeg)), sp.2.2.1, sp.2.2.2.1, sp.2.2.2.2.1, sp.2.2.2.2.2.1, sp.2.2.2.2.2.2.1, sp.2.2.2.2.2.2.2.1, sp.2.2.2.2.2.2.2.2.1, sp.2.2.2.2.2.2.2.2.2), r1057.2)
                      else none
                      else none
                      else none
              else
                if sp.2.2.2.2.2.1 ≤ 0 then
                  (f_X4_tells 0 (sp.2.2.2.2.2.1 - 1) tk).bind fun r1063 =>
                  if r1063.1 = 0 then
                    some (0, sp, r1063.2)
                  else
                    (f_X4_lastLeaves sp).bind fun r1065 =>
                    some (1, r1065, r1063.2)
                else
                  (f_X4_tells (sp.2.2.2.2.2.1 - 1) (sp.2.2.2.2.2.1 - 1) tk).bind fun r1066 =>
                  if r1066.1 = 0 then
                    some (0, sp, r1066.2)
                  else
                    (f_X4_lastLeaves sp).bind fun r1068 =>
                    some (1, r1068, r1066.2)
            else
              (f_X4_tells 0 (sp.2.2.2.2.2.1 - 2) tk).bind fun r1069 =>
              if r1069.1 = 0 then
                some (0, sp, r1069.2)
              else
                if inB 0 2 then
                (f_X4_lettingAt (r1069.2.2.1 (0 : Int32).toNatClampNeg) sp).bind fun r1072 =>
                some (1, r1072, r1069.2)
                else none
          else
            (f_X4_serveTold sp tk).bind fun r1073 =>
            if z01 r1073.1 then
            some (r1073.1, r1073.2.1, r1073.2.2)
            else none
        else
          (f_X4_tells 0 (sp.2.2.2.2.2.2.1 - 1) tk).bind fun r1075 =>
          if r1075.1 = 0 then
            if z01 r1075.1 then
            some (r1075.1, sp, r1075.2)
            else none
          else
            if inB 0 2 then
            if z01 r1075.1 then
            some (r1075.1, (sp.1, sp.2.1, sp.2.2.1, sp.2.2.2.1, sp.2.2.2.2.1, sp.2.2.2.2.2.1, sp.2.2.2.2.2.2.1, (r1075.2.2.1 (0 : Int32).toNatClampNeg), sp.2.2.2.2.2.2.2.2.1, sp.2.2.2.2.2.2.2.2.2), r1075.2)
            else none
            else none
      else
        (f_X4_tells 0 5 tk).bind fun r1080 =>
        if r1080.1 = 0 then
          some (0, sp, r1080.2)
        else
          (f_X4_number 1 0 15 r1080.2).bind fun r1082 =>
          if r1082.1 = 0 then
            some (0, sp, r1082.2)
          else
            if inB 0 2 then
            if inB 1 2 then
            (f_X4_addLaw (r1082.2.2.1 (0 : Int32).toNatClampNeg) (r1082.2.2.1 (1 : Int32).toNatClampNeg) sp).bind fun r1086 =>
            some (1, r1086, r1082.2)
            else none
            else none
  else
    (f_X4_peopleTold sp tk).bind fun r1087 =>
    if z01 r1087.1 then
    some (r1087.1, r1087.2.1, r1087.2.2)
    else none
set_option maxRecDepth 100000 in
set_option maxHeartbeats 4000000 in
theorem run_X4_statement {l : Launch} {D : va_G} {cT : Nat → ClassId}    (sp : ShT) (tk : TkT) (sv : SvT) (mf : AI) (mo : AI) (mn : AI) (ma : AI) (kv : Value) (tv : Value) {r : Int32 × ShT × TkT} (hf : f_X4_statement sp tk = some r) : Runs l D cT yX4_statement cX4_statement 2 (some .boolean) 5 107 [.ref 0] (cM 0 sp tk sv mf mo mn ma kv tv) (EQ (some (.int r.1)) (cM 0 r.2.1 r.2.2 sv mf mo mn ma kv tv)) := by
  refine runs_of O_X4 okO_X4 (by decide +kernel) rfl rfl (Nat.le_of_ble_eq_true rfl) (Nat.le_of_ble_eq_true rfl) (fun g K => ?_)
  have M := K.b
  show g 0 0 (cM 0 sp tk sv mf mo mn ma kv tv) 0 [some (.ref 0), none] []
  rw [f_X4_statement] at hf
  refine m_run M (is := [(0, .aload_n 0, 0)]) (pc' := 1) (L' := [some (.ref 0), none]) (st' := [.ref 0]) (w' := (cM 0 sp tk sv mf mo mn ma kv tv)) (by decide +kernel) rfl trivial ?_
  refine m_ldcS M 7 (by decide) rfl rfl (by decide +kernel) ?_
  obtain ⟨r1001, h_1001, hf⟩ := bnd_s hf
  refine m_cV0 M (rest := []) (w2 := (cM 0 sp tk sv mf mo mn ma kv tv)) (st2 := [.int r1001]) (run_X4_isWord  7 (by decide) sp tk sv mf mo mn ma kv tv h_1001) cv_X4_isWord lk_X4_192 (by decide +kernel) (List.range 26) List.nodup_range ⟨(by rw [List.length_range]; exact Nat.le_refl _), Nat.le_of_ble_eq_true rfl⟩ (hwId rfl) rfl rfl (Nat.le_of_ble_eq_true rfl) ⟨by decide, by decide⟩ rfl rfl ⟨Nat.zero_le _, Nat.zero_le _⟩ (hpId rfl rfl) rfl ?_
  rcases ite_s hf with ⟨c_1002, hf⟩ | ⟨c_1002, hf⟩
  · refine m_jT M (i := .ifCond .eq 8) 14 (by decide +kernel) rfl (by decide) c_1002 ?_
    refine m_run M (is := [(14, .aload_n 0, 0)]) (pc' := 15) (L' := [some (.ref 0), none]) (st' := [.ref 0]) (w' := (cM 0 sp tk sv mf mo mn ma kv tv)) (by decide +kernel) rfl trivial ?_
    refine m_ldcS M 8 (by decide) rfl rfl (by decide +kernel) ?_
    obtain ⟨r1003, h_1003, hf⟩ := bnd_s hf
    refine m_cV0 M (rest := []) (w2 := (cM 0 sp tk sv mf mo mn ma kv tv)) (st2 := [.int r1003]) (run_X4_isWord  8 (by decide) sp tk sv mf mo mn ma kv tv h_1003) cv_X4_isWord lk_X4_192 (by decide +kernel) (List.range 26) List.nodup_range ⟨(by rw [List.length_range]; exact Nat.le_refl _), Nat.le_of_ble_eq_true rfl⟩ (hwId rfl) rfl rfl (Nat.le_of_ble_eq_true rfl) ⟨by decide, by decide⟩ rfl rfl ⟨Nat.zero_le _, Nat.zero_le _⟩ (hpId rfl rfl) rfl ?_
    rcases ite_s hf with ⟨c_1004, hf⟩ | ⟨c_1004, hf⟩
    · refine m_jT M (i := .ifCond .eq 52) 72 (by decide +kernel) rfl (by decide) c_1004 ?_
      refine m_run M (is := [(72, .aload_n 0, 0)]) (pc' := 73) (L' := [some (.ref 0), none]) (st' := [.ref 0]) (w' := (cM 0 sp tk sv mf mo mn ma kv tv)) (by decide +kernel) rfl trivial ?_
      refine m_ldcS M 9 (by decide) rfl rfl (by decide +kernel) ?_
      obtain ⟨r1005, h_1005, hf⟩ := bnd_s hf
      refine m_cV0 M (rest := []) (w2 := (cM 0 sp tk sv mf mo mn ma kv tv)) (st2 := [.int r1005]) (run_X4_isWord  9 (by decide) sp tk sv mf mo mn ma kv tv h_1005) cv_X4_isWord lk_X4_192 (by decide +kernel) (List.range 26) List.nodup_range ⟨(by rw [List.length_range]; exact Nat.le_refl _), Nat.le_of_ble_eq_true rfl⟩ (hwId rfl) rfl rfl (Nat.le_of_ble_eq_true rfl) ⟨by decide, by decide⟩ rfl rfl ⟨Nat.zero_le _, Nat.zero_le _⟩ (hpId rfl rfl) rfl ?_
      rcases ite_s hf with ⟨c_1006, hf⟩ | ⟨c_1006, hf⟩
      · refine m_jT M (i := .ifCond .eq 38) 116 (by decide +kernel) rfl (by decide) c_1006 ?_
        refine m_run M (is := [(116, .aload_n 0, 0)]) (pc' := 117) (L' := [some (.ref 0), none]) (st' := [.ref 0]) (w' := (cM 0 sp tk sv mf mo mn ma kv tv)) (by decide +kernel) rfl trivial ?_
        refine m_ldcS M 10 (by decide) rfl rfl (by decide +kernel) ?_
        obtain ⟨r1007, h_1007, hf⟩ := bnd_s hf
        refine m_cV0 M (rest := []) (w2 := (cM 0 sp tk sv mf mo mn ma kv tv)) (st2 := [.int r1007]) (run_X4_isWord  10 (by decide) sp tk sv mf mo mn ma kv tv h_1007) cv_X4_isWord lk_X4_192 (by decide +kernel) (List.range 26) List.nodup_range ⟨(by rw [List.length_range]; exact Nat.le_refl _), Nat.le_of_ble_eq_true rfl⟩ (hwId rfl) rfl rfl (Nat.le_of_ble_eq_true rfl) ⟨by decide, by decide⟩ rfl rfl ⟨Nat.zero_le _, Nat.zero_le _⟩ (hpId rfl rfl) rfl ?_
        rcases ite_s hf with ⟨c_1008, hf⟩ | ⟨c_1008, hf⟩
        · refine m_jT M (i := .ifCond .eq 8) 130 (by decide +kernel) rfl (by decide) c_1008 ?_
          refine m_run M (is := [(130, .aload_n 0, 0)]) (pc' := 131) (L' := [some (.ref 0), none]) (st' := [.ref 0]) (w' := (cM 0 sp tk sv mf mo mn ma kv tv)) (by decide +kernel) rfl trivial ?_
          refine m_ldcS M 11 (by decide) rfl rfl (by decide +kernel) ?_
          obtain ⟨r1009, h_1009, hf⟩ := bnd_s hf
          refine m_cV0 M (rest := []) (w2 := (cM 0 sp tk sv mf mo mn ma kv tv)) (st2 := [.int r1009]) (run_X4_isWord  11 (by decide) sp tk sv mf mo mn ma kv tv h_1009) cv_X4_isWord lk_X4_192 (by decide +kernel) (List.range 26) List.nodup_range ⟨(by rw [List.length_range]; exact Nat.le_refl _), Nat.le_of_ble_eq_true rfl⟩ (hwId rfl) rfl rfl (Nat.le_of_ble_eq_true rfl) ⟨by decide, by decide⟩ rfl rfl ⟨Nat.zero_le _, Nat.zero_le _⟩ (hpId rfl rfl) rfl ?_
          rcases ite_s hf with ⟨c_1010, hf⟩ | ⟨c_1010, hf⟩
          · refine m_jT M (i := .ifCond .eq 31) 167 (by decide +kernel) rfl (by decide) c_1010 ?_
            refine m_run M (is := [(167, .aload_n 0, 0)]) (pc' := 168) (L' := [some (.ref 0), none]) (st' := [.ref 0]) (w' := (cM 0 sp tk sv mf mo mn ma kv tv)) (by decide +kernel) rfl trivial ?_
            refine m_ldcS M 12 (by decide) rfl rfl (by decide +kernel) ?_
            obtain ⟨r1011, h_1011, hf⟩ := bnd_s hf
            refine m_cV0 M (rest := []) (w2 := (cM 0 sp tk sv mf mo mn ma kv tv)) (st2 := [.int r1011]) (run_X4_isWord  12 (by decide) sp tk sv mf mo mn ma kv tv h_1011) cv_X4_isWord lk_X4_192 (by decide +kernel) (List.range 26) List.nodup_range ⟨(by rw [List.length_range]; exact Nat.le_refl _), Nat.le_of_ble_eq_true rfl⟩ (hwId rfl) rfl rfl (Nat.le_of_ble_eq_true rfl) ⟨by decide, by decide⟩ rfl rfl ⟨Nat.zero_le _, Nat.zero_le _⟩ (hpId rfl rfl) rfl ?_
            rcases ite_s hf with ⟨c_1012, hf⟩ | ⟨c_1012, hf⟩
            · refine m_jT M (i := .ifCond .eq 41) 214 (by decide +kernel) rfl (by decide) c_1012 ?_
              refine m_run M (is := [(214, .aload_n 0, 0)]) (pc' := 215) (L' := [some (.ref 0), none]) (st' := [.ref 0]) (w' := (cM 0 sp tk sv mf mo mn ma kv tv)) (by decide +kernel) rfl trivial ?_
              refine m_ldcS M 13 (by decide) rfl rfl (by decide +kernel) ?_
              obtain ⟨r1013, h_1013, hf⟩ := bnd_s hf
              refine m_cV0 M (rest := []) (w2 := (cM 0 sp tk sv mf mo mn ma kv tv)) (st2 := [.int r1013]) (run_X4_isWord  13 (by decide) sp tk sv mf mo mn ma kv tv h_1013) cv_X4_isWord lk_X4_192 (by decide +kernel) (List.range 26) List.nodup_range ⟨(by rw [List.length_range]; exact Nat.le_refl _), Nat.le_of_ble_eq_true rfl⟩ (hwId rfl) rfl rfl (Nat.le_of_ble_eq_true rfl) ⟨by decide, by decide⟩ rfl rfl ⟨Nat.zero_le _, Nat.zero_le _⟩ (hpId rfl rfl) rfl ?_
              rcases ite_s hf with ⟨c_1014, hf⟩ | ⟨c_1014, hf⟩
              · refine m_jT M (i := .ifCond .eq 50) 270 (by decide +kernel) rfl (by decide) c_1014 ?_
                refine m_run M (is := [(270, .aload_n 0, 0)]) (pc' := 271) (L' := [some (.ref 0), none]) (st' := [.ref 0]) (w' := (cM 0 sp tk sv mf mo mn ma kv tv)) (by decide +kernel) rfl trivial ?_
                obtain ⟨r1015, h_1015, hf⟩ := bnd_s hf
                refine m_cV0 M (rest := []) (w2 := (cM 0 sp r1015.2 sv mf mo mn ma kv tv)) (st2 := [.int r1015.1]) (run_X4_wrong    sp tk sv mf mo mn ma kv tv h_1015) cv_X4_wrong lk_X4_170 (by decide +kernel) (List.range 26) List.nodup_range ⟨(by rw [List.length_range]; exact Nat.le_refl _), Nat.le_of_ble_eq_true rfl⟩ (hwId rfl) rfl rfl (Nat.le_of_ble_eq_true rfl) ⟨by decide, by decide⟩ rfl rfl ⟨Nat.zero_le _, Nat.zero_le _⟩ (hpId rfl rfl) rfl ?_
                obtain ⟨h_1016, hf⟩ := grd_s hf
                obtain rfl := Option.some.inj hf
                exact m_zret K (by decide +kernel) (z01_use h_1016) (Nat.zero_le _) (Nat.zero_le _) ⟨rfl, rfl⟩
              · refine m_jF M (i := .ifCond .eq 50) 270 (by decide +kernel) rfl (by decide) c_1014 ?_
                refine m_run M (is := [(223, .aload_n 0, 0), (224, .iconst 0, 0), (225, .aload_n 0, 0), (226, .getfield 69, 0), (229, .iconst 1, 1), (230, .isub, 0)]) (pc' := 231) (L' := [some (.ref 0), none]) (st' := [.int (sp.2.2.2.2.2.1 - 1), .int 0, .ref 0]) (w' := (cM 0 sp tk sv mf mo mn ma kv tv)) (by decide +kernel) rfl trivial ?_
                obtain ⟨r1017, h_1017, hf⟩ := bnd_s hf
                refine m_cV0 M (rest := []) (w2 := (cM 0 sp r1017.2 sv mf mo mn ma kv tv)) (st2 := [.int r1017.1]) (run_X4_tells 0 (sp.2.2.2.2.2.1 - 1)   sp tk sv mf mo mn ma kv tv h_1017) cv_X4_tells lk_X4_181 (by decide +kernel) (List.range 26) List.nodup_range ⟨(by rw [List.length_range]; exact Nat.le_refl _), Nat.le_of_ble_eq_true rfl⟩ (hwId rfl) rfl rfl (Nat.le_of_ble_eq_true rfl) ⟨by decide, by decide⟩ rfl rfl ⟨Nat.zero_le _, Nat.zero_le _⟩ (hpId rfl rfl) rfl ?_
                rcases ite_s hf with ⟨c_1018, hf⟩ | ⟨c_1018, hf⟩
                · refine m_jT M (i := .ifCond .eq 15) 249 (by decide +kernel) rfl (by decide) c_1018 ?_
                  refine m_run M (is := [(249, .iconst 0, 0)]) (pc' := 250) (L' := [some (.ref 0), none]) (st' := [.int 0]) (w' := (cM 0 sp r1017.2 sv mf mo mn ma kv tv)) (by decide +kernel) rfl trivial ?_
                  obtain rfl := Option.some.inj hf
                  exact m_zret K (by decide +kernel) (Or.inl rfl) (Nat.zero_le _) (Nat.zero_le _) ⟨rfl, rfl⟩
                · refine m_jF M (i := .ifCond .eq 15) 249 (by decide +kernel) rfl (by decide) c_1018 ?_
                  refine m_run M (is := [(237, .aload_n 0, 0), (238, .iconst 1, 1), (239, .iconst 0, 0), (240, .sipush 999, 999)]) (pc' := 243) (L' := [some (.ref 0), none]) (st' := [.int 999, .int 0, .int 1, .ref 0]) (w' := (cM 0 sp r1017.2 sv mf mo mn ma kv tv)) (by decide +kernel) rfl trivial ?_
                  obtain ⟨r1019, h_1019, hf⟩ := bnd_s hf
                  refine m_cV0 M (rest := []) (w2 := (cM 0 sp r1019.2 sv mf mo mn ma kv tv)) (st2 := [.int r1019.1]) (run_X4_number 1 0 999   sp r1017.2 sv mf mo mn ma kv tv h_1019) cv_X4_number lk_X4_177 (by decide +kernel) (List.range 26) List.nodup_range ⟨(by rw [List.length_range]; exact Nat.le_refl _), Nat.le_of_ble_eq_true rfl⟩ (hwId rfl) rfl rfl (Nat.le_of_ble_eq_true rfl) ⟨by decide, by decide⟩ rfl rfl ⟨Nat.zero_le _, Nat.zero_le _⟩ (hpId rfl rfl) rfl ?_
                  rcases ite_s hf with ⟨c_1020, hf⟩ | ⟨c_1020, hf⟩
                  · refine m_jF M (i := .ifCond .ne 5) 251 (by decide +kernel) rfl (by decide) (fun n => n c_1020) ?_
                    refine m_run M (is := [(249, .iconst 0, 0)]) (pc' := 250) (L' := [some (.ref 0), none]) (st' := [.int 0]) (w' := (cM 0 sp r1019.2 sv mf mo mn ma kv tv)) (by decide +kernel) rfl trivial ?_
                    obtain rfl := Option.some.inj hf
                    exact m_zret K (by decide +kernel) (Or.inl rfl) (Nat.zero_le _) (Nat.zero_le _) ⟨rfl, rfl⟩
                  · refine m_jT M (i := .ifCond .ne 5) 251 (by decide +kernel) rfl (by decide) c_1020 ?_
                    obtain ⟨h_1021, hf⟩ := grd_s hf
                    obtain ⟨h_1022, hf⟩ := grd_s hf
                    obtain ⟨h_1023, hf⟩ := grd_s hf
                    refine m_run M (is := [(251, .aload_n 0, 0), (252, .getfield 40, 0), (255, .aload_n 0, 0), (256, .getfield 56, 0), (259, .iconst 0, 0), (260, .iaload, 0), (261, .aload_n 0, 0), (262, .getfield 56, 0), (265, .iconst 1, 1), (266, .iaload, 0), (267, .iastore, 0), (268, .iconst 1, 1)]) (pc' := 269) (L' := [some (.ref 0), none]) (st' := [.int 1]) (w' := (cM 0 (sp.1, (upd sp.2.1 (r1019.2.2.1 (0 : Int32).toNatClampNeg).toNatClampNeg (r1019.2.2.1 (1 : Int32).toNatClampNeg)), sp.2.2.1, sp.2.2.2.1, sp.2.2.2.2.1, sp.2.2.2.2.2.1, sp.2.2.2.2.2.2.1, sp.2.2.2.2.2.2.2.1, sp.2.2.2.2.2.2.2.2.1, sp.2.2.2.2.2.2.2.2.2) r1019.2 sv mf mo mn ma kv tv)) (by decide +kernel) rfl ⟨inB_use h_1021, inB_use h_1022, inB_use h_1023, trivial⟩ ?_
                    obtain rfl := Option.some.inj hf
                    exact m_zret K (by decide +kernel) (Or.inr rfl) (Nat.zero_le _) (Nat.zero_le _) ⟨rfl, rfl⟩
            · refine m_jF M (i := .ifCond .eq 41) 214 (by decide +kernel) rfl (by decide) c_1012 ?_
              refine m_run M (is := [(176, .aload_n 0, 0), (177, .aload_n 0, 0), (178, .getfield 69, 0)]) (pc' := 181) (L' := [some (.ref 0), none]) (st' := [.int sp.2.2.2.2.2.1, .ref 0]) (w' := (cM 0 sp tk sv mf mo mn ma kv tv)) (by decide +kernel) rfl trivial ?_
              rcases ite_s hf with ⟨c_1024, hf⟩ | ⟨c_1024, hf⟩
              · refine m_jT M (i := .ifCond .le 12) 193 (by decide +kernel) rfl (by decide) c_1024 ?_
                refine m_run M (is := [(193, .iconst 0, 0), (194, .aload_n 0, 0), (195, .getfield 69, 0), (198, .iconst 1, 1), (199, .isub, 0)]) (pc' := 200) (L' := [some (.ref 0), none]) (st' := [.int (sp.2.2.2.2.2.1 - 1), .int 0, .ref 0]) (w' := (cM 0 sp tk sv mf mo mn ma kv tv)) (by decide +kernel) rfl trivial ?_
                obtain ⟨r1025, h_1025, hf⟩ := bnd_s hf
                refine m_cV0 M (rest := []) (w2 := (cM 0 sp r1025.2 sv mf mo mn ma kv tv)) (st2 := [.int r1025.1]) (run_X4_tells 0 (sp.2.2.2.2.2.1 - 1)   sp tk sv mf mo mn ma kv tv h_1025) cv_X4_tells lk_X4_181 (by decide +kernel) (List.range 26) List.nodup_range ⟨(by rw [List.length_range]; exact Nat.le_refl _), Nat.le_of_ble_eq_true rfl⟩ (hwId rfl) rfl rfl (Nat.le_of_ble_eq_true rfl) ⟨by decide, by decide⟩ rfl rfl ⟨Nat.zero_le _, Nat.zero_le _⟩ (hpId rfl rfl) rfl ?_
                rcases ite_s hf with ⟨c_1026, hf⟩ | ⟨c_1026, hf⟩
                · refine m_jF M (i := .ifCond .ne 5) 208 (by decide +kernel) rfl (by decide) (fun n => n c_1026) ?_
                  refine m_run M (is := [(206, .iconst 0, 0)]) (pc' := 207) (L' := [some (.ref 0), none]) (st' := [.int 0]) (w' := (cM 0 sp r1025.2 sv mf mo mn ma kv tv)) (by decide +kernel) rfl trivial ?_
                  obtain rfl := Option.some.inj hf
                  exact m_zret K (by decide +kernel) (Or.inl rfl) (Nat.zero_le _) (Nat.zero_le _) ⟨rfl, rfl⟩
                · refine m_jT M (i := .ifCond .ne 5) 208 (by decide +kernel) rfl (by decide) c_1026 ?_
                  refine m_run M (is := [(208, .aload_n 0, 0)]) (pc' := 209) (L' := [some (.ref 0), none]) (st' := [.ref 0]) (w' := (cM 0 sp r1025.2 sv mf mo mn ma kv tv)) (by decide +kernel) rfl trivial ?_
                  obtain ⟨r1027, h_1027, hf⟩ := bnd_s hf
                  refine m_cV0 M (rest := []) (w2 := (cM 0 r1027 r1025.2 sv mf mo mn ma kv tv)) (st2 := []) (run_X4_lastLeaves    sp r1025.2 sv mf mo mn ma kv tv h_1027) cv_X4_lastLeaves lk_X4_215 (by decide +kernel) (List.range 26) List.nodup_range ⟨(by rw [List.length_range]; exact Nat.le_refl _), Nat.le_of_ble_eq_true rfl⟩ (hwId rfl) rfl rfl (Nat.le_of_ble_eq_true rfl) ⟨by decide, by decide⟩ rfl rfl ⟨Nat.zero_le _, Nat.zero_le _⟩ (hpId rfl rfl) rfl ?_
                  refine m_run M (is := [(212, .iconst 1, 1)]) (pc' := 213) (L' := [some (.ref 0), none]) (st' := [.int 1]) (w' := (cM 0 r1027 r1025.2 sv mf mo mn ma kv tv)) (by decide +kernel) rfl trivial ?_
                  obtain rfl := Option.some.inj hf
                  exact m_zret K (by decide +kernel) (Or.inr rfl) (Nat.zero_le _) (Nat.zero_le _) ⟨rfl, rfl⟩
              · refine m_jF M (i := .ifCond .le 12) 193 (by decide +kernel) rfl (by decide) c_1024 ?_
                refine m_run M (is := [(184, .aload_n 0, 0), (185, .getfield 69, 0), (188, .iconst 1, 1), (189, .isub, 0), (190, .goto 4, 0), (194, .aload_n 0, 0), (195, .getfield 69, 0), (198, .iconst 1, 1), (199, .isub, 0)]) (pc' := 200) (L' := [some (.ref 0), none]) (st' := [.int (sp.2.2.2.2.2.1 - 1), .int (sp.2.2.2.2.2.1 - 1), .ref 0]) (w' := (cM 0 sp tk sv mf mo mn ma kv tv)) (by decide +kernel) rfl trivial ?_
                obtain ⟨r1028, h_1028, hf⟩ := bnd_s hf
                refine m_cV0 M (rest := []) (w2 := (cM 0 sp r1028.2 sv mf mo mn ma kv tv)) (st2 := [.int r1028.1]) (run_X4_tells (sp.2.2.2.2.2.1 - 1) (sp.2.2.2.2.2.1 - 1)   sp tk sv mf mo mn ma kv tv h_1028) cv_X4_tells lk_X4_181 (by decide +kernel) (List.range 26) List.nodup_range ⟨(by rw [List.length_range]; exact Nat.le_refl _), Nat.le_of_ble_eq_true rfl⟩ (hwId rfl) rfl rfl (Nat.le_of_ble_eq_true rfl) ⟨by decide, by decide⟩ rfl rfl ⟨Nat.zero_le _, Nat.zero_le _⟩ (hpId rfl rfl) rfl ?_
                rcases ite_s hf with ⟨c_1029, hf⟩ | ⟨c_1029, hf⟩
                · refine m_jF M (i := .ifCond .ne 5) 208 (by decide +kernel) rfl (by decide) (fun n => n c_1029) ?_
                  refine m_run M (is := [(206, .iconst 0, 0)]) (pc' := 207) (L' := [some (.ref 0), none]) (st' := [.int 0]) (w' := (cM 0 sp r1028.2 sv mf mo mn ma kv tv)) (by decide +kernel) rfl trivial ?_
                  obtain rfl := Option.some.inj hf
                  exact m_zret K (by decide +kernel) (Or.inl rfl) (Nat.zero_le _) (Nat.zero_le _) ⟨rfl, rfl⟩
                · refine m_jT M (i := .ifCond .ne 5) 208 (by decide +kernel) rfl (by decide) c_1029 ?_
                  refine m_run M (is := [(208, .aload_n 0, 0)]) (pc' := 209) (L' := [some (.ref 0), none]) (st' := [.ref 0]) (w' := (cM 0 sp r1028.2 sv mf mo mn ma kv tv)) (by decide +kernel) rfl trivial ?_
                  obtain ⟨r1030, h_1030, hf⟩ := bnd_s hf
                  refine m_cV0 M (rest := []) (w2 := (cM 0 r1030 r1028.2 sv mf mo mn ma kv tv)) (st2 := []) (run_X4_lastLeaves    sp r1028.2 sv mf mo mn ma kv tv h_1030) cv_X4_lastLeaves lk_X4_215 (by decide +kernel) (List.range 26) List.nodup_range ⟨(by rw [List.length_range]; exact Nat.le_refl _), Nat.le_of_ble_eq_true rfl⟩ (hwId rfl) rfl rfl (Nat.le_of_ble_eq_true rfl) ⟨by decide, by decide⟩ rfl rfl ⟨Nat.zero_le _, Nat.zero_le _⟩ (hpId rfl rfl) rfl ?_
                  refine m_run M (is := [(212, .iconst 1, 1)]) (pc' := 213) (L' := [some (.ref 0), none]) (st' := [.int 1]) (w' := (cM 0 r1030 r1028.2 sv mf mo mn ma kv tv)) (by decide +kernel) rfl trivial ?_
                  obtain rfl := Option.some.inj hf
                  exact m_zret K (by decide +kernel) (Or.inr rfl) (Nat.zero_le _) (Nat.zero_le _) ⟨rfl, rfl⟩
          · refine m_jF M (i := .ifCond .eq 31) 167 (by decide +kernel) rfl (by decide) c_1010 ?_
            refine m_run M (is := [(139, .aload_n 0, 0), (140, .iconst 0, 0), (141, .aload_n 0, 0), (142, .getfield 69, 0), (145, .iconst 2, 2), (146, .isub, 0)]) (pc' := 147) (L' := [some (.ref 0), none]) (st' := [.int (sp.2.2.2.2.2.1 - 2), .int 0, .ref 0]) (w' := (cM 0 sp tk sv mf mo mn ma kv tv)) (by decide +kernel) rfl trivial ?_
            obtain ⟨r1031, h_1031, hf⟩ := bnd_s hf
            refine m_cV0 M (rest := []) (w2 := (cM 0 sp r1031.2 sv mf mo mn ma kv tv)) (st2 := [.int r1031.1]) (run_X4_tells 0 (sp.2.2.2.2.2.1 - 2)   sp tk sv mf mo mn ma kv tv h_1031) cv_X4_tells lk_X4_181 (by decide +kernel) (List.range 26) List.nodup_range ⟨(by rw [List.length_range]; exact Nat.le_refl _), Nat.le_of_ble_eq_true rfl⟩ (hwId rfl) rfl rfl (Nat.le_of_ble_eq_true rfl) ⟨by decide, by decide⟩ rfl rfl ⟨Nat.zero_le _, Nat.zero_le _⟩ (hpId rfl rfl) rfl ?_
            rcases ite_s hf with ⟨c_1032, hf⟩ | ⟨c_1032, hf⟩
            · refine m_jF M (i := .ifCond .ne 5) 155 (by decide +kernel) rfl (by decide) (fun n => n c_1032) ?_
              refine m_run M (is := [(153, .iconst 0, 0)]) (pc' := 154) (L' := [some (.ref 0), none]) (st' := [.int 0]) (w' := (cM 0 sp r1031.2 sv mf mo mn ma kv tv)) (by decide +kernel) rfl trivial ?_
              obtain rfl := Option.some.inj hf
              exact m_zret K (by decide +kernel) (Or.inl rfl) (Nat.zero_le _) (Nat.zero_le _) ⟨rfl, rfl⟩
            · refine m_jT M (i := .ifCond .ne 5) 155 (by decide +kernel) rfl (by decide) c_1032 ?_
              obtain ⟨h_1033, hf⟩ := grd_s hf
              refine m_run M (is := [(155, .aload_n 0, 0), (156, .aload_n 0, 0), (157, .getfield 56, 0), (160, .iconst 0, 0), (161, .iaload, 0)]) (pc' := 162) (L' := [some (.ref 0), none]) (st' := [.int (r1031.2.2.1 (0 : Int32).toNatClampNeg), .ref 0]) (w' := (cM 0 sp r1031.2 sv mf mo mn ma kv tv)) (by decide +kernel) rfl ⟨inB_use h_1033, trivial⟩ ?_
              obtain ⟨r1034, h_1034, hf⟩ := bnd_s hf
              refine m_cV0 M (rest := []) (w2 := (cM 0 r1034 r1031.2 sv mf mo mn ma kv tv)) (st2 := []) (run_X4_lettingAt (r1031.2.2.1 (0 : Int32).toNatClampNeg)   sp r1031.2 sv mf mo mn ma kv tv h_1034) cv_X4_lettingAt lk_X4_210 (by decide +kernel) (List.range 26) List.nodup_range ⟨(by rw [List.length_range]; exact Nat.le_refl _), Nat.le_of_ble_eq_true rfl⟩ (hwId rfl) rfl rfl (Nat.le_of_ble_eq_true rfl) ⟨by decide, by decide⟩ rfl rfl ⟨Nat.zero_le _, Nat.zero_le _⟩ (hpId rfl rfl) rfl ?_
              refine m_run M (is := [(165, .iconst 1, 1)]) (pc' := 166) (L' := [some (.ref 0), none]) (st' := [.int 1]) (w' := (cM 0 r1034 r1031.2 sv mf mo mn ma kv tv)) (by decide +kernel) rfl trivial ?_
              obtain rfl := Option.some.inj hf
              exact m_zret K (by decide +kernel) (Or.inr rfl) (Nat.zero_le _) (Nat.zero_le _) ⟨rfl, rfl⟩
        · refine m_jF M (i := .ifCond .eq 8) 130 (by decide +kernel) rfl (by decide) c_1008 ?_
          refine m_run M (is := [(125, .aload_n 0, 0)]) (pc' := 126) (L' := [some (.ref 0), none]) (st' := [.ref 0]) (w' := (cM 0 sp tk sv mf mo mn ma kv tv)) (by decide +kernel) rfl trivial ?_
          obtain ⟨r1035, h_1035, hf⟩ := bnd_s hf
          refine m_cV0 M (rest := []) (w2 := (cM 0 r1035.2.1 r1035.2.2 sv mf mo mn ma kv tv)) (st2 := [.int r1035.1]) (run_X4_serveTold    sp tk sv mf mo mn ma kv tv h_1035) cv_X4_serveTold lk_X4_205 (by decide +kernel) (List.range 26) List.nodup_range ⟨(by rw [List.length_range]; exact Nat.le_refl _), Nat.le_of_ble_eq_true rfl⟩ (hwId rfl) rfl rfl (Nat.le_of_ble_eq_true rfl) ⟨by decide, by decide⟩ rfl rfl ⟨Nat.zero_le _, Nat.zero_le _⟩ (hpId rfl rfl) rfl ?_
          obtain ⟨h_1036, hf⟩ := grd_s hf
          obtain rfl := Option.some.inj hf
          exact m_zret K (by decide +kernel) (z01_use h_1036) (Nat.zero_le _) (Nat.zero_le _) ⟨rfl, rfl⟩
      · refine m_jF M (i := .ifCond .eq 38) 116 (by decide +kernel) rfl (by decide) c_1006 ?_
        refine m_run M (is := [(81, .aload_n 0, 0), (82, .iconst 0, 0), (83, .aload_n 0, 0), (84, .getfield 76, 0), (87, .iconst 1, 1), (88, .isub, 0)]) (pc' := 89) (L' := [some (.ref 0), none]) (st' := [.int (sp.2.2.2.2.2.2.1 - 1), .int 0, .ref 0]) (w' := (cM 0 sp tk sv mf mo mn ma kv tv)) (by decide +kernel) rfl trivial ?_
        obtain ⟨r1037, h_1037, hf⟩ := bnd_s hf
        refine m_cV0 M (rest := []) (w2 := (cM 0 sp r1037.2 sv mf mo mn ma kv tv)) (st2 := [.int r1037.1]) (run_X4_tells 0 (sp.2.2.2.2.2.2.1 - 1)   sp tk sv mf mo mn ma kv tv h_1037) cv_X4_tells lk_X4_181 (by decide +kernel) (List.range 26) List.nodup_range ⟨(by rw [List.length_range]; exact Nat.le_refl _), Nat.le_of_ble_eq_true rfl⟩ (hwId rfl) rfl rfl (Nat.le_of_ble_eq_true rfl) ⟨by decide, by decide⟩ rfl rfl ⟨Nat.zero_le _, Nat.zero_le _⟩ (hpId rfl rfl) rfl ?_
        refine m_run M (is := [(92, .istore_n 1, 0), (93, .aload_n 0, 0), (94, .iload_n 1, 0)]) (pc' := 95) (L' := [some (.ref 0), some (.int r1037.1)]) (st' := [.int r1037.1, .ref 0]) (w' := (cM 0 sp r1037.2 sv mf mo mn ma kv tv)) (by decide +kernel) rfl trivial ?_
        rcases ite_s hf with ⟨c_1038, hf⟩ | ⟨c_1038, hf⟩
        · refine m_jT M (i := .ifCond .eq 12) 107 (by decide +kernel) rfl (by decide) c_1038 ?_
          refine m_run M (is := [(107, .aload_n 0, 0), (108, .getfield 123, 0), (111, .putfield 123, 0), (114, .iload_n 1, 0)]) (pc' := 115) (L' := [some (.ref 0), some (.int r1037.1)]) (st' := [.int r1037.1]) (w' := (cM 0 sp r1037.2 sv mf mo mn ma kv tv)) (by decide +kernel) rfl trivial ?_
          obtain ⟨h_1039, hf⟩ := grd_s hf
          obtain rfl := Option.some.inj hf
          exact m_zret K (by decide +kernel) (z01_use h_1039) (Nat.zero_le _) (Nat.zero_le _) ⟨rfl, rfl⟩
        · refine m_jF M (i := .ifCond .eq 12) 107 (by decide +kernel) rfl (by decide) c_1038 ?_
          obtain ⟨h_1040, hf⟩ := grd_s hf
          refine m_run M (is := [(98, .aload_n 0, 0), (99, .getfield 56, 0), (102, .iconst 0, 0), (103, .iaload, 0), (104, .goto 7, 0), (111, .putfield 123, 0), (114, .iload_n 1, 0)]) (pc' := 115) (L' := [some (.ref 0), some (.int r1037.1)]) (st' := [.int r1037.1]) (w' := (cM 0 (sp.1, sp.2.1, sp.2.2.1, sp.2.2.2.1, sp.2.2.2.2.1, sp.2.2.2.2.2.1, sp.2.2.2.2.2.2.1, (r1037.2.2.1 (0 : Int32).toNatClampNeg), sp.2.2.2.2.2.2.2.2.1, sp.2.2.2.2.2.2.2.2.2) r1037.2 sv mf mo mn ma kv tv)) (by decide +kernel) rfl ⟨inB_use h_1040, trivial⟩ ?_
          obtain ⟨h_1041, hf⟩ := grd_s hf
          obtain rfl := Option.some.inj hf
          exact m_zret K (by decide +kernel) (z01_use h_1041) (Nat.zero_le _) (Nat.zero_le _) ⟨rfl, rfl⟩
    · refine m_jF M (i := .ifCond .eq 52) 72 (by decide +kernel) rfl (by decide) c_1004 ?_
      refine m_run M (is := [(23, .aload_n 0, 0), (24, .getfield 76, 0), (27, .bipush 6, 6)]) (pc' := 29) (L' := [some (.ref 0), none]) (st' := [.int 6, .int sp.2.2.2.2.2.2.1]) (w' := (cM 0 sp tk sv mf mo mn ma kv tv)) (by decide +kernel) rfl trivial ?_
      rcases ite_s hf with ⟨c_1042, hf⟩ | ⟨c_1042, hf⟩
      · refine m_jT M (i := .if_icmp .ge 43) 72 (by decide +kernel) rfl (by decide) c_1042 ?_
        refine m_run M (is := [(72, .aload_n 0, 0)]) (pc' := 73) (L' := [some (.ref 0), none]) (st' := [.ref 0]) (w' := (cM 0 sp tk sv mf mo mn ma kv tv)) (by decide +kernel) rfl trivial ?_
        refine m_ldcS M 9 (by decide) rfl rfl (by decide +kernel) ?_
        obtain ⟨r1043, h_1043, hf⟩ := bnd_s hf
        refine m_cV0 M (rest := []) (w2 := (cM 0 sp tk sv mf mo mn ma kv tv)) (st2 := [.int r1043]) (run_X4_isWord  9 (by decide) sp tk sv mf mo mn ma kv tv h_1043) cv_X4_isWord lk_X4_192 (by decide +kernel) (List.range 26) List.nodup_range ⟨(by rw [List.length_range]; exact Nat.le_refl _), Nat.le_of_ble_eq_true rfl⟩ (hwId rfl) rfl rfl (Nat.le_of_ble_eq_true rfl) ⟨by decide, by decide⟩ rfl rfl ⟨Nat.zero_le _, Nat.zero_le _⟩ (hpId rfl rfl) rfl ?_
        rcases ite_s hf with ⟨c_1044, hf⟩ | ⟨c_1044, hf⟩
        · refine m_jT M (i := .ifCond .eq 38) 116 (by decide +kernel) rfl (by decide) c_1044 ?_
          refine m_run M (is := [(116, .aload_n 0, 0)]) (pc' := 117) (L' := [some (.ref 0), none]) (st' := [.ref 0]) (w' := (cM 0 sp tk sv mf mo mn ma kv tv)) (by decide +kernel) rfl trivial ?_
          refine m_ldcS M 10 (by decide) rfl rfl (by decide +kernel) ?_
          obtain ⟨r1045, h_1045, hf⟩ := bnd_s hf
          refine m_cV0 M (rest := []) (w2 := (cM 0 sp tk sv mf mo mn ma kv tv)) (st2 := [.int r1045]) (run_X4_isWord  10 (by decide) sp tk sv mf mo mn ma kv tv h_1045) cv_X4_isWord lk_X4_192 (by decide +kernel) (List.range 26) List.nodup_range ⟨(by rw [List.length_range]; exact Nat.le_refl _), Nat.le_of_ble_eq_true rfl⟩ (hwId rfl) rfl rfl (Nat.le_of_ble_eq_true rfl) ⟨by decide, by decide⟩ rfl rfl ⟨Nat.zero_le _, Nat.zero_le _⟩ (hpId rfl rfl) rfl ?_
          rcases ite_s hf with ⟨c_1046, hf⟩ | ⟨c_1046, hf⟩
          · refine m_jT M (i := .ifCond .eq 8) 130 (by decide +kernel) rfl (by decide) c_1046 ?_
            refine m_run M (is := [(130, .aload_n 0, 0)]) (pc' := 131) (L' := [some (.ref 0), none]) (st' := [.ref 0]) (w' := (cM 0 sp tk sv mf mo mn ma kv tv)) (by decide +kernel) rfl trivial ?_
            refine m_ldcS M 11 (by decide) rfl rfl (by decide +kernel) ?_
            obtain ⟨r1047, h_1047, hf⟩ := bnd_s hf
            refine m_cV0 M (rest := []) (w2 := (cM 0 sp tk sv mf mo mn ma kv tv)) (st2 := [.int r1047]) (run_X4_isWord  11 (by decide) sp tk sv mf mo mn ma kv tv h_1047) cv_X4_isWord lk_X4_192 (by decide +kernel) (List.range 26) List.nodup_range ⟨(by rw [List.length_range]; exact Nat.le_refl _), Nat.le_of_ble_eq_true rfl⟩ (hwId rfl) rfl rfl (Nat.le_of_ble_eq_true rfl) ⟨by decide, by decide⟩ rfl rfl ⟨Nat.zero_le _, Nat.zero_le _⟩ (hpId rfl rfl) rfl ?_
            rcases ite_s hf with ⟨c_1048, hf⟩ | ⟨c_1048, hf⟩
            · refine m_jT M (i := .ifCond .eq 31) 167 (by decide +kernel) rfl (by decide) c_1048 ?_
              refine m_run M (is := [(167, .aload_n 0, 0)]) (pc' := 168) (L' := [some (.ref 0), none]) (st' := [.ref 0]) (w' := (cM 0 sp tk sv mf mo mn ma kv tv)) (by decide +kernel) rfl trivial ?_
              refine m_ldcS M 12 (by decide) rfl rfl (by decide +kernel) ?_
              obtain ⟨r1049, h_1049, hf⟩ := bnd_s hf
              refine m_cV0 M (rest := []) (w2 := (cM 0 sp tk sv mf mo mn ma kv tv)) (st2 := [.int r1049]) (run_X4_isWord  12 (by decide) sp tk sv mf mo mn ma kv tv h_1049) cv_X4_isWord lk_X4_192 (by decide +kernel) (List.range 26) List.nodup_range ⟨(by rw [List.length_range]; exact Nat.le_refl _), Nat.le_of_ble_eq_true rfl⟩ (hwId rfl) rfl rfl (Nat.le_of_ble_eq_true rfl) ⟨by decide, by decide⟩ rfl rfl ⟨Nat.zero_le _, Nat.zero_le _⟩ (hpId rfl rfl) rfl ?_
              rcases ite_s hf with ⟨c_1050, hf⟩ | ⟨c_1050, hf⟩
              · refine m_jT M (i := .ifCond .eq 41) 214 (by decide +kernel) rfl (by decide) c_1050 ?_
                refine m_run M (is := [(214, .aload_n 0, 0)]) (pc' := 215) (L' := [some (.ref 0), none]) (st' := [.ref 0]) (w' := (cM 0 sp tk sv mf mo mn ma kv tv)) (by decide +kernel) rfl trivial ?_
                refine m_ldcS M 13 (by decide) rfl rfl (by decide +kernel) ?_
                obtain ⟨r1051, h_1051, hf⟩ := bnd_s hf
                refine m_cV0 M (rest := []) (w2 := (cM 0 sp tk sv mf mo mn ma kv tv)) (st2 := [.int r1051]) (run_X4_isWord  13 (by decide) sp tk sv mf mo mn ma kv tv h_1051) cv_X4_isWord lk_X4_192 (by decide +kernel) (List.range 26) List.nodup_range ⟨(by rw [List.length_range]; exact Nat.le_refl _), Nat.le_of_ble_eq_true rfl⟩ (hwId rfl) rfl rfl (Nat.le_of_ble_eq_true rfl) ⟨by decide, by decide⟩ rfl rfl ⟨Nat.zero_le _, Nat.zero_le _⟩ (hpId rfl rfl) rfl ?_
                rcases ite_s hf with ⟨c_1052, hf⟩ | ⟨c_1052, hf⟩
                · refine m_jT M (i := .ifCond .eq 50) 270 (by decide +kernel) rfl (by decide) c_1052 ?_
                  refine m_run M (is := [(270, .aload_n 0, 0)]) (pc' := 271) (L' := [some (.ref 0), none]) (st' := [.ref 0]) (w' := (cM 0 sp tk sv mf mo mn ma kv tv)) (by decide +kernel) rfl trivial ?_
                  obtain ⟨r1053, h_1053, hf⟩ := bnd_s hf
                  refine m_cV0 M (rest := []) (w2 := (cM 0 sp r1053.2 sv mf mo mn ma kv tv)) (st2 := [.int r1053.1]) (run_X4_wrong    sp tk sv mf mo mn ma kv tv h_1053) cv_X4_wrong lk_X4_170 (by decide +kernel) (List.range 26) List.nodup_range ⟨(by rw [List.length_range]; exact Nat.le_refl _), Nat.le_of_ble_eq_true rfl⟩ (hwId rfl) rfl rfl (Nat.le_of_ble_eq_true rfl) ⟨by decide, by decide⟩ rfl rfl ⟨Nat.zero_le _, Nat.zero_le _⟩ (hpId rfl rfl) rfl ?_
                  obtain ⟨h_1054, hf⟩ := grd_s hf
                  obtain rfl := Option.some.inj hf
                  exact m_zret K (by decide +kernel) (z01_use h_1054) (Nat.zero_le _) (Nat.zero_le _) ⟨rfl, rfl⟩
                · refine m_jF M (i := .ifCond .eq 50) 270 (by decide +kernel) rfl (by decide) c_1052 ?_
                  refine m_run M (is := [(223, .aload_n 0, 0), (224, .iconst 0, 0), (225, .aload_n 0, 0), (226, .getfield 69, 0), (229, .iconst 1, 1), (230, .isub, 0)]) (pc' := 231) (L' := [some (.ref 0), none]) (st' := [.int (sp.2.2.2.2.2.1 - 1), .int 0, .ref 0]) (w' := (cM 0 sp tk sv mf mo mn ma kv tv)) (by decide +kernel) rfl trivial ?_
                  obtain ⟨r1055, h_1055, hf⟩ := bnd_s hf
                  refine m_cV0 M (rest := []) (w2 := (cM 0 sp r1055.2 sv mf mo mn ma kv tv)) (st2 := [.int r1055.1]) (run_X4_tells 0 (sp.2.2.2.2.2.1 - 1)   sp tk sv mf mo mn ma kv tv h_1055) cv_X4_tells lk_X4_181 (by decide +kernel) (List.range 26) List.nodup_range ⟨(by rw [List.length_range]; exact Nat.le_refl _), Nat.le_of_ble_eq_true rfl⟩ (hwId rfl) rfl rfl (Nat.le_of_ble_eq_true rfl) ⟨by decide, by decide⟩ rfl rfl ⟨Nat.zero_le _, Nat.zero_le _⟩ (hpId rfl rfl) rfl ?_
                  rcases ite_s hf with ⟨c_1056, hf⟩ | ⟨c_1056, hf⟩
                  · refine m_jT M (i := .ifCond .eq 15) 249 (by decide +kernel) rfl (by decide) c_1056 ?_
                    refine m_run M (is := [(249, .iconst 0, 0)]) (pc' := 250) (L' := [some (.ref 0), none]) (st' := [.int 0]) (w' := (cM 0 sp r1055.2 sv mf mo mn ma kv tv)) (by decide +kernel) rfl trivial ?_
                    obtain rfl := Option.some.inj hf
                    exact m_zret K (by decide +kernel) (Or.inl rfl) (Nat.zero_le _) (Nat.zero_le _) ⟨rfl, rfl⟩
                  · refine m_jF M (i := .ifCond .eq 15) 249 (by decide +kernel) rfl (by decide) c_1056 ?_
                    refine m_run M (is := [(237, .aload_n 0, 0), (238, .iconst 1, 1), (239, .iconst 0, 0), (240, .sipush 999, 999)]) (pc' := 243) (L' := [some (.ref 0), none]) (st' := [.int 999, .int 0, .int 1, .ref 0]) (w' := (cM 0 sp r1055.2 sv mf mo mn ma kv tv)) (by decide +kernel) rfl trivial ?_
                    obtain ⟨r1057, h_1057, hf⟩ := bnd_s hf
                    refine m_cV0 M (rest := []) (w2 := (cM 0 sp r1057.2 sv mf mo mn ma kv tv)) (st2 := [.int r1057.1]) (run_X4_number 1 0 999   sp r1055.2 sv mf mo mn ma kv tv h_1057) cv_X4_number lk_X4_177 (by decide +kernel) (List.range 26) List.nodup_range ⟨(by rw [List.length_range]; exact Nat.le_refl _), Nat.le_of_ble_eq_true rfl⟩ (hwId rfl) rfl rfl (Nat.le_of_ble_eq_true rfl) ⟨by decide, by decide⟩ rfl rfl ⟨Nat.zero_le _, Nat.zero_le _⟩ (hpId rfl rfl) rfl ?_
                    rcases ite_s hf with ⟨c_1058, hf⟩ | ⟨c_1058, hf⟩
                    · refine m_jF M (i := .ifCond .ne 5) 251 (by decide +kernel) rfl (by decide) (fun n => n c_1058) ?_
                      refine m_run M (is := [(249, .iconst 0, 0)]) (pc' := 250) (L' := [some (.ref 0), none]) (st' := [.int 0]) (w' := (cM 0 sp r1057.2 sv mf mo mn ma kv tv)) (by decide +kernel) rfl trivial ?_
                      obtain rfl := Option.some.inj hf
                      exact m_zret K (by decide +kernel) (Or.inl rfl) (Nat.zero_le _) (Nat.zero_le _) ⟨rfl, rfl⟩
                    · refine m_jT M (i := .ifCond .ne 5) 251 (by decide +kernel) rfl (by decide) c_1058 ?_
                      obtain ⟨h_1059, hf⟩ := grd_s hf
                      obtain ⟨h_1060, hf⟩ := grd_s hf
                      obtain ⟨h_1061, hf⟩ := grd_s hf
                      refine m_run M (is := [(251, .aload_n 0, 0), (252, .getfield 40, 0), (255, .aload_n 0, 0), (256, .getfield 56, 0), (259, .iconst 0, 0), (260, .iaload, 0), (261, .aload_n 0, 0), (262, .getfield 56, 0), (265, .iconst 1, 1), (266, .iaload, 0), (267, .iastore, 0), (268, .iconst 1, 1)]) (pc' := 269) (L' := [some (.ref 0), none]) (st' := [.int 1]) (w' := (cM 0 (sp.1, (upd sp.2.1 (r1057.2.2.1 (0 : Int32).toNatClampNeg).toNatClampNeg (r1057.2.2.1 (1 : Int32).toNatClampNeg)), sp.2.2.1, sp.2.2.2.1, sp.2.2.2.2.1, sp.2.2.2.2.2.1, sp.2.2.2.2.2.2.1, sp.2.2.2.2.2.2.2.1, sp.2.2.2.2.2.2.2.2.1, sp.2.2.2.2.2.2.2.2.2) r1057.2 sv mf mo mn ma kv tv)) (by decide +kernel) rfl ⟨inB_use h_1059, inB_use h_1060, inB_use h_1061, trivial⟩ ?_
                      obtain rfl := Option.some.inj hf
                      exact m_zret K (by decide +kernel) (Or.inr rfl) (Nat.zero_le _) (Nat.zero_le _) ⟨rfl, rfl⟩
              · refine m_jF M (i := .ifCond .eq 41) 214 (by decide +kernel) rfl (by decide) c_1050 ?_
                refine m_run M (is := [(176, .aload_n 0, 0), (177, .aload_n 0, 0), (178, .getfield 69, 0)]) (pc' := 181) (L' := [some (.ref 0), none]) (st' := [.int sp.2.2.2.2.2.1, .ref 0]) (w' := (cM 0 sp tk sv mf mo mn ma kv tv)) (by decide +kernel) rfl trivial ?_
                rcases ite_s hf with ⟨c_1062, hf⟩ | ⟨c_1062, hf⟩
                · refine m_jT M (i := .ifCond .le 12) 193 (by decide +kernel) rfl (by decide) c_1062 ?_
                  refine m_run M (is := [(193, .iconst 0, 0), (194, .aload_n 0, 0), (195, .getfield 69, 0), (198, .iconst 1, 1), (199, .isub, 0)]) (pc' := 200) (L' := [some (.ref 0), none]) (st' := [.int (sp.2.2.2.2.2.1 - 1), .int 0, .ref 0]) (w' := (cM 0 sp tk sv mf mo mn ma kv tv)) (by decide +kernel) rfl trivial ?_
                  obtain ⟨r1063, h_1063, hf⟩ := bnd_s hf
                  refine m_cV0 M (rest := []) (w2 := (cM 0 sp r1063.2 sv mf mo mn ma kv tv)) (st2 := [.int r1063.1]) (run_X4_tells 0 (sp.2.2.2.2.2.1 - 1)   sp tk sv mf mo mn ma kv tv h_1063) cv_X4_tells lk_X4_181 (by decide +kernel) (List.range 26) List.nodup_range ⟨(by rw [List.length_range]; exact Nat.le_refl _), Nat.le_of_ble_eq_true rfl⟩ (hwId rfl) rfl rfl (Nat.le_of_ble_eq_true rfl) ⟨by decide, by decide⟩ rfl rfl ⟨Nat.zero_le _, Nat.zero_le _⟩ (hpId rfl rfl) rfl ?_
                  rcases ite_s hf with ⟨c_1064, hf⟩ | ⟨c_1064, hf⟩
                  · refine m_jF M (i := .ifCond .ne 5) 208 (by decide +kernel) rfl (by decide) (fun n => n c_1064) ?_
                    refine m_run M (is := [(206, .iconst 0, 0)]) (pc' := 207) (L' := [some (.ref 0), none]) (st' := [.int 0]) (w' := (cM 0 sp r1063.2 sv mf mo mn ma kv tv)) (by decide +kernel) rfl trivial ?_
                    obtain rfl := Option.some.inj hf
                    exact m_zret K (by decide +kernel) (Or.inl rfl) (Nat.zero_le _) (Nat.zero_le _) ⟨rfl, rfl⟩
                  · refine m_jT M (i := .ifCond .ne 5) 208 (by decide +kernel) rfl (by decide) c_1064 ?_
                    refine m_run M (is := [(208, .aload_n 0, 0)]) (pc' := 209) (L' := [some (.ref 0), none]) (st' := [.ref 0]) (w' := (cM 0 sp r1063.2 sv mf mo mn ma kv tv)) (by decide +kernel) rfl trivial ?_
                    obtain ⟨r1065, h_1065, hf⟩ := bnd_s hf
                    refine m_cV0 M (rest := []) (w2 := (cM 0 r1065 r1063.2 sv mf mo mn ma kv tv)) (st2 := []) (run_X4_lastLeaves    sp r1063.2 sv mf mo mn ma kv tv h_1065) cv_X4_lastLeaves lk_X4_215 (by decide +kernel) (List.range 26) List.nodup_range ⟨(by rw [List.length_range]; exact Nat.le_refl _), Nat.le_of_ble_eq_true rfl⟩ (hwId rfl) rfl rfl (Nat.le_of_ble_eq_true rfl) ⟨by decide, by decide⟩ rfl rfl ⟨Nat.zero_le _, Nat.zero_le _⟩ (hpId rfl rfl) rfl ?_
                    refine m_run M (is := [(212, .iconst 1, 1)]) (pc' := 213) (L' := [some (.ref 0), none]) (st' := [.int 1]) (w' := (cM 0 r1065 r1063.2 sv mf mo mn ma kv tv)) (by decide +kernel) rfl trivial ?_
                    obtain rfl := Option.some.inj hf
                    exact m_zret K (by decide +kernel) (Or.inr rfl) (Nat.zero_le _) (Nat.zero_le _) ⟨rfl, rfl⟩
                · refine m_jF M (i := .ifCond .le 12) 193 (by decide +kernel) rfl (by decide) c_1062 ?_
                  refine m_run M (is := [(184, .aload_n 0, 0), (185, .getfield 69, 0), (188, .iconst 1, 1), (189, .isub, 0), (190, .goto 4, 0), (194, .aload_n 0, 0), (195, .getfield 69, 0), (198, .iconst 1, 1), (199, .isub, 0)]) (pc' := 200) (L' := [some (.ref 0), none]) (st' := [.int (sp.2.2.2.2.2.1 - 1), .int (sp.2.2.2.2.2.1 - 1), .ref 0]) (w' := (cM 0 sp tk sv mf mo mn ma kv tv)) (by decide +kernel) rfl trivial ?_
                  obtain ⟨r1066, h_1066, hf⟩ := bnd_s hf
                  refine m_cV0 M (rest := []) (w2 := (cM 0 sp r1066.2 sv mf mo mn ma kv tv)) (st2 := [.int r1066.1]) (run_X4_tells (sp.2.2.2.2.2.1 - 1) (sp.2.2.2.2.2.1 - 1)   sp tk sv mf mo mn ma kv tv h_1066) cv_X4_tells lk_X4_181 (by decide +kernel) (List.range 26) List.nodup_range ⟨(by rw [List.length_range]; exact Nat.le_refl _), Nat.le_of_ble_eq_true rfl⟩ (hwId rfl) rfl rfl (Nat.le_of_ble_eq_true rfl) ⟨by decide, by decide⟩ rfl rfl ⟨Nat.zero_le _, Nat.zero_le _⟩ (hpId rfl rfl) rfl ?_
                  rcases ite_s hf with ⟨c_1067, hf⟩ | ⟨c_1067, hf⟩
                  · refine m_jF M (i := .ifCond .ne 5) 208 (by decide +kernel) rfl (by decide) (fun n => n c_1067) ?_
                    refine m_run M (is := [(206, .iconst 0, 0)]) (pc' := 207) (L' := [some (.ref 0), none]) (st' := [.int 0]) (w' := (cM 0 sp r1066.2 sv mf mo mn ma kv tv)) (by decide +kernel) rfl trivial ?_
                    obtain rfl := Option.some.inj hf
                    exact m_zret K (by decide +kernel) (Or.inl rfl) (Nat.zero_le _) (Nat.zero_le _) ⟨rfl, rfl⟩
                  · refine m_jT M (i := .ifCond .ne 5) 208 (by decide +kernel) rfl (by decide) c_1067 ?_
                    refine m_run M (is := [(208, .aload_n 0, 0)]) (pc' := 209) (L' := [some (.ref 0), none]) (st' := [.ref 0]) (w' := (cM 0 sp r1066.2 sv mf mo mn ma kv tv)) (by decide +kernel) rfl trivial ?_
                    obtain ⟨r1068, h_1068, hf⟩ := bnd_s hf
                    refine m_cV0 M (rest := []) (w2 := (cM 0 r1068 r1066.2 sv mf mo mn ma kv tv)) (st2 := []) (run_X4_lastLeaves    sp r1066.2 sv mf mo mn ma kv tv h_1068) cv_X4_lastLeaves lk_X4_215 (by decide +kernel) (List.range 26) List.nodup_range ⟨(by rw [List.length_range]; exact Nat.le_refl _), Nat.le_of_ble_eq_true rfl⟩ (hwId rfl) rfl rfl (Nat.le_of_ble_eq_true rfl) ⟨by decide, by decide⟩ rfl rfl ⟨Nat.zero_le _, Nat.zero_le _⟩ (hpId rfl rfl) rfl ?_
                    refine m_run M (is := [(212, .iconst 1, 1)]) (pc' := 213) (L' := [some (.ref 0), none]) (st' := [.int 1]) (w' := (cM 0 r1068 r1066.2 sv mf mo mn ma kv tv)) (by decide +kernel) rfl trivial ?_
                    obtain rfl := Option.some.inj hf
                    exact m_zret K (by decide +kernel) (Or.inr rfl) (Nat.zero_le _) (Nat.zero_le _) ⟨rfl, rfl⟩
            · refine m_jF M (i := .ifCond .eq 31) 167 (by decide +kernel) rfl (by decide) c_1048 ?_
              refine m_run M (is := [(139, .aload_n 0, 0), (140, .iconst 0, 0), (141, .aload_n 0, 0), (142, .getfield 69, 0), (145, .iconst 2, 2), (146, .isub, 0)]) (pc' := 147) (L' := [some (.ref 0), none]) (st' := [.int (sp.2.2.2.2.2.1 - 2), .int 0, .ref 0]) (w' := (cM 0 sp tk sv mf mo mn ma kv tv)) (by decide +kernel) rfl trivial ?_
              obtain ⟨r1069, h_1069, hf⟩ := bnd_s hf
              refine m_cV0 M (rest := []) (w2 := (cM 0 sp r1069.2 sv mf mo mn ma kv tv)) (st2 := [.int r1069.1]) (run_X4_tells 0 (sp.2.2.2.2.2.1 - 2)   sp tk sv mf mo mn ma kv tv h_1069) cv_X4_tells lk_X4_181 (by decide +kernel) (List.range 26) List.nodup_range ⟨(by rw [List.length_range]; exact Nat.le_refl _), Nat.le_of_ble_eq_true rfl⟩ (hwId rfl) rfl rfl (Nat.le_of_ble_eq_true rfl) ⟨by decide, by decide⟩ rfl rfl ⟨Nat.zero_le _, Nat.zero_le _⟩ (hpId rfl rfl) rfl ?_
              rcases ite_s hf with ⟨c_1070, hf⟩ | ⟨c_1070, hf⟩
              · refine m_jF M (i := .ifCond .ne 5) 155 (by decide +kernel) rfl (by decide) (fun n => n c_1070) ?_
                refine m_run M (is := [(153, .iconst 0, 0)]) (pc' := 154) (L' := [some (.ref 0), none]) (st' := [.int 0]) (w' := (cM 0 sp r1069.2 sv mf mo mn ma kv tv)) (by decide +kernel) rfl trivial ?_
                obtain rfl := Option.some.inj hf
                exact m_zret K (by decide +kernel) (Or.inl rfl) (Nat.zero_le _) (Nat.zero_le _) ⟨rfl, rfl⟩
              · refine m_jT M (i := .ifCond .ne 5) 155 (by decide +kernel) rfl (by decide) c_1070 ?_
                obtain ⟨h_1071, hf⟩ := grd_s hf
                refine m_run M (is := [(155, .aload_n 0, 0), (156, .aload_n 0, 0), (157, .getfield 56, 0), (160, .iconst 0, 0), (161, .iaload, 0)]) (pc' := 162) (L' := [some (.ref 0), none]) (st' := [.int (r1069.2.2.1 (0 : Int32).toNatClampNeg), .ref 0]) (w' := (cM 0 sp r1069.2 sv mf mo mn ma kv tv)) (by decide +kernel) rfl ⟨inB_use h_1071, trivial⟩ ?_
                obtain ⟨r1072, h_1072, hf⟩ := bnd_s hf
                refine m_cV0 M (rest := []) (w2 := (cM 0 r1072 r1069.2 sv mf mo mn ma kv tv)) (st2 := []) (run_X4_lettingAt (r1069.2.2.1 (0 : Int32).toNatClampNeg)   sp r1069.2 sv mf mo mn ma kv tv h_1072) cv_X4_lettingAt lk_X4_210 (by decide +kernel) (List.range 26) List.nodup_range ⟨(by rw [List.length_range]; exact Nat.le_refl _), Nat.le_of_ble_eq_true rfl⟩ (hwId rfl) rfl rfl (Nat.le_of_ble_eq_true rfl) ⟨by decide, by decide⟩ rfl rfl ⟨Nat.zero_le _, Nat.zero_le _⟩ (hpId rfl rfl) rfl ?_
                refine m_run M (is := [(165, .iconst 1, 1)]) (pc' := 166) (L' := [some (.ref 0), none]) (st' := [.int 1]) (w' := (cM 0 r1072 r1069.2 sv mf mo mn ma kv tv)) (by decide +kernel) rfl trivial ?_
                obtain rfl := Option.some.inj hf
                exact m_zret K (by decide +kernel) (Or.inr rfl) (Nat.zero_le _) (Nat.zero_le _) ⟨rfl, rfl⟩
          · refine m_jF M (i := .ifCond .eq 8) 130 (by decide +kernel) rfl (by decide) c_1046 ?_
            refine m_run M (is := [(125, .aload_n 0, 0)]) (pc' := 126) (L' := [some (.ref 0), none]) (st' := [.ref 0]) (w' := (cM 0 sp tk sv mf mo mn ma kv tv)) (by decide +kernel) rfl trivial ?_
            obtain ⟨r1073, h_1073, hf⟩ := bnd_s hf
            refine m_cV0 M (rest := []) (w2 := (cM 0 r1073.2.1 r1073.2.2 sv mf mo mn ma kv tv)) (st2 := [.int r1073.1]) (run_X4_serveTold    sp tk sv mf mo mn ma kv tv h_1073) cv_X4_serveTold lk_X4_205 (by decide +kernel) (List.range 26) List.nodup_range ⟨(by rw [List.length_range]; exact Nat.le_refl _), Nat.le_of_ble_eq_true rfl⟩ (hwId rfl) rfl rfl (Nat.le_of_ble_eq_true rfl) ⟨by decide, by decide⟩ rfl rfl ⟨Nat.zero_le _, Nat.zero_le _⟩ (hpId rfl rfl) rfl ?_
            obtain ⟨h_1074, hf⟩ := grd_s hf
            obtain rfl := Option.some.inj hf
            exact m_zret K (by decide +kernel) (z01_use h_1074) (Nat.zero_le _) (Nat.zero_le _) ⟨rfl, rfl⟩
        · refine m_jF M (i := .ifCond .eq 38) 116 (by decide +kernel) rfl (by decide) c_1044 ?_
          refine m_run M (is := [(81, .aload_n 0, 0), (82, .iconst 0, 0), (83, .aload_n 0, 0), (84, .getfield 76, 0), (87, .iconst 1, 1), (88, .isub, 0)]) (pc' := 89) (L' := [some (.ref 0), none]) (st' := [.int (sp.2.2.2.2.2.2.1 - 1), .int 0, .ref 0]) (w' := (cM 0 sp tk sv mf mo mn ma kv tv)) (by decide +kernel) rfl trivial ?_
          obtain ⟨r1075, h_1075, hf⟩ := bnd_s hf
          refine m_cV0 M (rest := []) (w2 := (cM 0 sp r1075.2 sv mf mo mn ma kv tv)) (st2 := [.int r1075.1]) (run_X4_tells 0 (sp.2.2.2.2.2.2.1 - 1)   sp tk sv mf mo mn ma kv tv h_1075) cv_X4_tells lk_X4_181 (by decide +kernel) (List.range 26) List.nodup_range ⟨(by rw [List.length_range]; exact Nat.le_refl _), Nat.le_of_ble_eq_true rfl⟩ (hwId rfl) rfl rfl (Nat.le_of_ble_eq_true rfl) ⟨by decide, by decide⟩ rfl rfl ⟨Nat.zero_le _, Nat.zero_le _⟩ (hpId rfl rfl) rfl ?_
          refine m_run M (is := [(92, .istore_n 1, 0), (93, .aload_n 0, 0), (94, .iload_n 1, 0)]) (pc' := 95) (L' := [some (.ref 0), some (.int r1075.1)]) (st' := [.int r1075.1, .ref 0]) (w' := (cM 0 sp r1075.2 sv mf mo mn ma kv tv)) (by decide +kernel) rfl trivial ?_
          rcases ite_s hf with ⟨c_1076, hf⟩ | ⟨c_1076, hf⟩
          · refine m_jT M (i := .ifCond .eq 12) 107 (by decide +kernel) rfl (by decide) c_1076 ?_
            refine m_run M (is := [(107, .aload_n 0, 0), (108, .getfield 123, 0), (111, .putfield 123, 0), (114, .iload_n 1, 0)]) (pc' := 115) (L' := [some (.ref 0), some (.int r1075.1)]) (st' := [.int r1075.1]) (w' := (cM 0 sp r1075.2 sv mf mo mn ma kv tv)) (by decide +kernel) rfl trivial ?_
            obtain ⟨h_1077, hf⟩ := grd_s hf
            obtain rfl := Option.some.inj hf
            exact m_zret K (by decide +kernel) (z01_use h_1077) (Nat.zero_le _) (Nat.zero_le _) ⟨rfl, rfl⟩
          · refine m_jF M (i := .ifCond .eq 12) 107 (by decide +kernel) rfl (by decide) c_1076 ?_
            obtain ⟨h_1078, hf⟩ := grd_s hf
            refine m_run M (is := [(98, .aload_n 0, 0), (99, .getfield 56, 0), (102, .iconst 0, 0), (103, .iaload, 0), (104, .goto 7, 0), (111, .putfield 123, 0), (114, .iload_n 1, 0)]) (pc' := 115) (L' := [some (.ref 0), some (.int r1075.1)]) (st' := [.int r1075.1]) (w' := (cM 0 (sp.1, sp.2.1, sp.2.2.1, sp.2.2.2.1, sp.2.2.2.2.1, sp.2.2.2.2.2.1, sp.2.2.2.2.2.2.1, (r1075.2.2.1 (0 : Int32).toNatClampNeg), sp.2.2.2.2.2.2.2.2.1, sp.2.2.2.2.2.2.2.2.2) r1075.2 sv mf mo mn ma kv tv)) (by decide +kernel) rfl ⟨inB_use h_1078, trivial⟩ ?_
            obtain ⟨h_1079, hf⟩ := grd_s hf
            obtain rfl := Option.some.inj hf
            exact m_zret K (by decide +kernel) (z01_use h_1079) (Nat.zero_le _) (Nat.zero_le _) ⟨rfl, rfl⟩
      · refine m_jF M (i := .if_icmp .ge 43) 72 (by decide +kernel) rfl (by decide) c_1042 ?_
        refine m_run M (is := [(32, .aload_n 0, 0), (33, .iconst 0, 0), (34, .iconst 5, 5)]) (pc' := 35) (L' := [some (.ref 0), none]) (st' := [.int 5, .int 0, .ref 0]) (w' := (cM 0 sp tk sv mf mo mn ma kv tv)) (by decide +kernel) rfl trivial ?_
        obtain ⟨r1080, h_1080, hf⟩ := bnd_s hf
        refine m_cV0 M (rest := []) (w2 := (cM 0 sp r1080.2 sv mf mo mn ma kv tv)) (st2 := [.int r1080.1]) (run_X4_tells 0 5   sp tk sv mf mo mn ma kv tv h_1080) cv_X4_tells lk_X4_181 (by decide +kernel) (List.range 26) List.nodup_range ⟨(by rw [List.length_range]; exact Nat.le_refl _), Nat.le_of_ble_eq_true rfl⟩ (hwId rfl) rfl rfl (Nat.le_of_ble_eq_true rfl) ⟨by decide, by decide⟩ rfl rfl ⟨Nat.zero_le _, Nat.zero_le _⟩ (hpId rfl rfl) rfl ?_
        rcases ite_s hf with ⟨c_1081, hf⟩ | ⟨c_1081, hf⟩
        · refine m_jT M (i := .ifCond .eq 14) 52 (by decide +kernel) rfl (by decide) c_1081 ?_
          refine m_run M (is := [(52, .iconst 0, 0)]) (pc' := 53) (L' := [some (.ref 0), none]) (st' := [.int 0]) (w' := (cM 0 sp r1080.2 sv mf mo mn ma kv tv)) (by decide +kernel) rfl trivial ?_
          obtain rfl := Option.some.inj hf
          exact m_zret K (by decide +kernel) (Or.inl rfl) (Nat.zero_le _) (Nat.zero_le _) ⟨rfl, rfl⟩
        · refine m_jF M (i := .ifCond .eq 14) 52 (by decide +kernel) rfl (by decide) c_1081 ?_
          refine m_run M (is := [(41, .aload_n 0, 0), (42, .iconst 1, 1), (43, .iconst 0, 0), (44, .bipush 15, 15)]) (pc' := 46) (L' := [some (.ref 0), none]) (st' := [.int 15, .int 0, .int 1, .ref 0]) (w' := (cM 0 sp r1080.2 sv mf mo mn ma kv tv)) (by decide +kernel) rfl trivial ?_
          obtain ⟨r1082, h_1082, hf⟩ := bnd_s hf
          refine m_cV0 M (rest := []) (w2 := (cM 0 sp r1082.2 sv mf mo mn ma kv tv)) (st2 := [.int r1082.1]) (run_X4_number 1 0 15   sp r1080.2 sv mf mo mn ma kv tv h_1082) cv_X4_number lk_X4_177 (by decide +kernel) (List.range 26) List.nodup_range ⟨(by rw [List.length_range]; exact Nat.le_refl _), Nat.le_of_ble_eq_true rfl⟩ (hwId rfl) rfl rfl (Nat.le_of_ble_eq_true rfl) ⟨by decide, by decide⟩ rfl rfl ⟨Nat.zero_le _, Nat.zero_le _⟩ (hpId rfl rfl) rfl ?_
          rcases ite_s hf with ⟨c_1083, hf⟩ | ⟨c_1083, hf⟩
          · refine m_jF M (i := .ifCond .ne 5) 54 (by decide +kernel) rfl (by decide) (fun n => n c_1083) ?_
            refine m_run M (is := [(52, .iconst 0, 0)]) (pc' := 53) (L' := [some (.ref 0), none]) (st' := [.int 0]) (w' := (cM 0 sp r1082.2 sv mf mo mn ma kv tv)) (by decide +kernel) rfl trivial ?_
            obtain rfl := Option.some.inj hf
            exact m_zret K (by decide +kernel) (Or.inl rfl) (Nat.zero_le _) (Nat.zero_le _) ⟨rfl, rfl⟩
          · refine m_jT M (i := .ifCond .ne 5) 54 (by decide +kernel) rfl (by decide) c_1083 ?_
            obtain ⟨h_1084, hf⟩ := grd_s hf
            obtain ⟨h_1085, hf⟩ := grd_s hf
            refine m_run M (is := [(54, .aload_n 0, 0), (55, .aload_n 0, 0), (56, .getfield 56, 0), (59, .iconst 0, 0), (60, .iaload, 0), (61, .aload_n 0, 0), (62, .getfield 56, 0), (65, .iconst 1, 1), (66, .iaload, 0)]) (pc' := 67) (L' := [some (.ref 0), none]) (st' := [.int (r1082.2.2.1 (1 : Int32).toNatClampNeg), .int (r1082.2.2.1 (0 : Int32).toNatClampNeg), .ref 0]) (w' := (cM 0 sp r1082.2 sv mf mo mn ma kv tv)) (by decide +kernel) rfl ⟨inB_use h_1084, inB_use h_1085, trivial⟩ ?_
            obtain ⟨r1086, h_1086, hf⟩ := bnd_s hf
            refine m_cV0 M (rest := []) (w2 := (cM 0 r1086 r1082.2 sv mf mo mn ma kv tv)) (st2 := []) (run_X4_addLaw (r1082.2.2.1 (0 : Int32).toNatClampNeg) (r1082.2.2.1 (1 : Int32).toNatClampNeg)   sp r1082.2 sv mf mo mn ma kv tv h_1086) cv_X4_addLaw lk_X4_119 (by decide +kernel) (List.range 26) List.nodup_range ⟨(by rw [List.length_range]; exact Nat.le_refl _), Nat.le_of_ble_eq_true rfl⟩ (hwId rfl) rfl rfl (Nat.le_of_ble_eq_true rfl) ⟨by decide, by decide⟩ rfl rfl ⟨Nat.zero_le _, Nat.zero_le _⟩ (hpId rfl rfl) rfl ?_
            refine m_run M (is := [(70, .iconst 1, 1)]) (pc' := 71) (L' := [some (.ref 0), none]) (st' := [.int 1]) (w' := (cM 0 r1086 r1082.2 sv mf mo mn ma kv tv)) (by decide +kernel) rfl trivial ?_
            obtain rfl := Option.some.inj hf
            exact m_zret K (by decide +kernel) (Or.inr rfl) (Nat.zero_le _) (Nat.zero_le _) ⟨rfl, rfl⟩
  · refine m_jF M (i := .ifCond .eq 8) 14 (by decide +kernel) rfl (by decide) c_1002 ?_
    refine m_run M (is := [(9, .aload_n 0, 0)]) (pc' := 10) (L' := [some (.ref 0), none]) (st' := [.ref 0]) (w' := (cM 0 sp tk sv mf mo mn ma kv tv)) (by decide +kernel) rfl trivial ?_
    obtain ⟨r1087, h_1087, hf⟩ := bnd_s hf
    refine m_cV0 M (rest := []) (w2 := (cM 0 r1087.2.1 r1087.2.2 sv mf mo mn ma kv tv)) (st2 := [.int r1087.1]) (run_X4_peopleTold    sp tk sv mf mo mn ma kv tv h_1087) cv_X4_peopleTold lk_X4_196 (by decide +kernel) (List.range 26) List.nodup_range ⟨(by rw [List.length_range]; exact Nat.le_refl _), Nat.le_of_ble_eq_true rfl⟩ (hwId rfl) rfl rfl (Nat.le_of_ble_eq_true rfl) ⟨by decide, by decide⟩ rfl rfl ⟨Nat.zero_le _, Nat.zero_le _⟩ (hpId rfl rfl) rfl ?_
    obtain ⟨h_1088, hf⟩ := grd_s hf
    obtain rfl := Option.some.inj hf
    exact m_zret K (by decide +kernel) (z01_use h_1088) (Nat.zero_le _) (Nat.zero_le _) ⟨rfl, rfl⟩

def f_X4_readAll_L0  : Nat → ShT → TkT → Option (Int32 × ShT × TkT)
  | 0, _, _ => none
  | n_ + 1, sp, tk =>
    if tk.2.2.2.2.1 = 0 then
      some (1, sp, tk)
    else
      if tk.2.2.2.2.1 = 3 then
        (f_X4_look tk).bind fun r103 =>
        (f_X4_statement sp r103).bind fun r104 =>
        if r104.1 = 0 then
          some (0, r104.2.1, r104.2.2)
        else
          f_X4_readAll_L0 n_ r104.2.1 (r104.2.2.1, r104.2.2.2.1, r104.2.2.2.2.1, r104.2.2.2.2.2.1, r104.2.2.2.2.2.2.1, r104.2.2.2.2.2.2.2.1, r104.2.2.2.2.2.2.2.2.1, r104.2.2.2.2.2.2.2.2.2.1, (r104.2.2.2.2.2.2.2.2.2.2 + 1))
      else
        (f_X4_wrong tk).bind fun r106 =>
        if z01 r106.1 then
        some (r106.1, sp, r106.2)
        else none
def f_X4_readAll (sp : ShT) (tk : TkT) : Option (Int32 × ShT × TkT) :=
  (f_X4_look (tk.1, tk.2.1, tk.2.2.1, 0, tk.2.2.2.2.1, tk.2.2.2.2.2.1, tk.2.2.2.2.2.2.1, tk.2.2.2.2.2.2.2.1, 1)).bind fun r1001 =>
  (f_X4_statement sp r1001).bind fun r1002 =>
  if r1002.1 = 0 then
    some (0, r1002.2.1, r1002.2.2)
  else
    f_X4_readAll_L0 fuel0 r1002.2.1 r1002.2.2
set_option maxRecDepth 100000 in
set_option maxHeartbeats 4000000 in
theorem run_X4_readAll {l : Launch} {D : va_G} {cT : Nat → ClassId}    (sp : ShT) (tk : TkT) (sv : SvT) (mf : AI) (mo : AI) (mn : AI) (ma : AI) (kv : Value) (tv : Value) {r : Int32 × ShT × TkT} (hf : f_X4_readAll sp tk = some r) : Runs l D cT yX4_readAll cX4_readAll 1 (some .boolean) 6 128 [.ref 0] (cM 0 sp tk sv mf mo mn ma kv tv) (EQ (some (.int r.1)) (cM 0 r.2.1 r.2.2 sv mf mo mn ma kv tv)) := by
  refine runs_of O_X4 okO_X4 (by decide +kernel) rfl rfl (Nat.le_of_ble_eq_true rfl) (Nat.le_of_ble_eq_true rfl) (fun g K => ?_)
  have M := K.b
  show g 0 0 (cM 0 sp tk sv mf mo mn ma kv tv) 0 [some (.ref 0)] []
  have loop_0 : ∀ (n_ : Nat), (∀ (sp : ShT) (tk : TkT), f_X4_readAll_L0  n_ sp tk = some r → g 0 0 (cM 0 sp tk sv mf mo mn ma kv tv) 23 [some (.ref 0)] []) := by
    intro n_
    induction n_ with
    | zero => intro sp tk hf; cases hf
    | succ n_ ih =>
      intro sp tk hf
      rw [f_X4_readAll_L0] at hf
      refine m_run M (is := [(23, .aload_n 0, 0), (24, .getfield 148, 0)]) (pc' := 27) (L' := [some (.ref 0)]) (st' := [.int tk.2.2.2.2.1]) (w' := (cM 0 sp tk sv mf mo mn ma kv tv)) (by decide +kernel) rfl trivial ?_
      rcases ite_s hf with ⟨c_101, hf⟩ | ⟨c_101, hf⟩
      · refine m_jT M (i := .ifCond .eq 42) 69 (by decide +kernel) rfl (by decide) c_101 ?_
        refine m_run M (is := [(69, .iconst 1, 1)]) (pc' := 70) (L' := [some (.ref 0)]) (st' := [.int 1]) (w' := (cM 0 sp tk sv mf mo mn ma kv tv)) (by decide +kernel) rfl trivial ?_
        obtain rfl := Option.some.inj hf
        exact m_zret K (by decide +kernel) (Or.inr rfl) (Nat.zero_le _) (Nat.zero_le _) ⟨rfl, rfl⟩
      · refine m_jF M (i := .ifCond .eq 42) 69 (by decide +kernel) rfl (by decide) c_101 ?_
        refine m_run M (is := [(30, .aload_n 0, 0), (31, .getfield 148, 0), (34, .iconst 3, 3)]) (pc' := 35) (L' := [some (.ref 0)]) (st' := [.int 3, .int tk.2.2.2.2.1]) (w' := (cM 0 sp tk sv mf mo mn ma kv tv)) (by decide +kernel) rfl trivial ?_
        rcases ite_s hf with ⟨c_102, hf⟩ | ⟨c_102, hf⟩
        · refine m_jT M (i := .if_icmp .eq 8) 43 (by decide +kernel) rfl (by decide) c_102 ?_
          refine m_run M (is := [(43, .aload_n 0, 0)]) (pc' := 44) (L' := [some (.ref 0)]) (st' := [.ref 0]) (w' := (cM 0 sp tk sv mf mo mn ma kv tv)) (by decide +kernel) rfl trivial ?_
          obtain ⟨r103, h_103, hf⟩ := bnd_s hf
          refine m_cV0 M (rest := []) (w2 := (cM 0 sp r103 sv mf mo mn ma kv tv)) (st2 := []) (run_X4_look    sp tk sv mf mo mn ma kv tv h_103) cv_X4_look lk_X4_174 (by decide +kernel) (List.range 26) List.nodup_range ⟨(by rw [List.length_range]; exact Nat.le_refl _), Nat.le_of_ble_eq_true rfl⟩ (hwId rfl) rfl rfl (Nat.le_of_ble_eq_true rfl) ⟨by decide, by decide⟩ rfl rfl ⟨Nat.zero_le _, Nat.zero_le _⟩ (hpId rfl rfl) rfl ?_
          refine m_run M (is := [(47, .aload_n 0, 0)]) (pc' := 48) (L' := [some (.ref 0)]) (st' := [.ref 0]) (w' := (cM 0 sp r103 sv mf mo mn ma kv tv)) (by decide +kernel) rfl trivial ?_
          obtain ⟨r104, h_104, hf⟩ := bnd_s hf
          refine m_cV0 M (rest := []) (w2 := (cM 0 r104.2.1 r104.2.2 sv mf mo mn ma kv tv)) (st2 := [.int r104.1]) (run_X4_statement    sp r103 sv mf mo mn ma kv tv h_104) cv_X4_statement lk_X4_222 (by decide +kernel) (List.range 26) List.nodup_range ⟨(by rw [List.length_range]; exact Nat.le_refl _), Nat.le_of_ble_eq_true rfl⟩ (hwId rfl) rfl rfl (Nat.le_of_ble_eq_true rfl) ⟨by decide, by decide⟩ rfl rfl ⟨Nat.zero_le _, Nat.zero_le _⟩ (hpId rfl rfl) rfl ?_
          rcases ite_s hf with ⟨c_105, hf⟩ | ⟨c_105, hf⟩
          · refine m_jF M (i := .ifCond .ne 5) 56 (by decide +kernel) rfl (by decide) (fun n => n c_105) ?_
            refine m_run M (is := [(54, .iconst 0, 0)]) (pc' := 55) (L' := [some (.ref 0)]) (st' := [.int 0]) (w' := (cM 0 r104.2.1 r104.2.2 sv mf mo mn ma kv tv)) (by decide +kernel) rfl trivial ?_
            obtain rfl := Option.some.inj hf
            exact m_zret K (by decide +kernel) (Or.inl rfl) (Nat.zero_le _) (Nat.zero_le _) ⟨rfl, rfl⟩
          · refine m_jT M (i := .ifCond .ne 5) 56 (by decide +kernel) rfl (by decide) c_105 ?_
            refine m_run M (is := [(56, .aload_n 0, 0), (57, .dup, 0), (58, .getfield 219, 0), (61, .iconst 1, 1), (62, .iadd, 0), (63, .putfield 219, 0), (66, .goto (-43), 0)]) (pc' := 23) (L' := [some (.ref 0)]) (st' := []) (w' := (cM 0 r104.2.1 (r104.2.2.1, r104.2.2.2.1, r104.2.2.2.2.1, r104.2.2.2.2.2.1, r104.2.2.2.2.2.2.1, r104.2.2.2.2.2.2.2.1, r104.2.2.2.2.2.2.2.2.1, r104.2.2.2.2.2.2.2.2.2.1, (r104.2.2.2.2.2.2.2.2.2.2 + 1)) sv mf mo mn ma kv tv)) (by decide +kernel) rfl trivial ?_
            exact ih r104.2.1 (r104.2.2.1, r104.2.2.2.1, r104.2.2.2.2.1, r104.2.2.2.2.2.1, r104.2.2.2.2.2.2.1, r104.2.2.2.2.2.2.2.1, r104.2.2.2.2.2.2.2.2.1, r104.2.2.2.2.2.2.2.2.2.1, (r104.2.2.2.2.2.2.2.2.2.2 + 1)) hf
        · refine m_jF M (i := .if_icmp .eq 8) 43 (by decide +kernel) rfl (by decide) c_102 ?_
          refine m_run M (is := [(38, .aload_n 0, 0)]) (pc' := 39) (L' := [some (.ref 0)]) (st' := [.ref 0]) (w' := (cM 0 sp tk sv mf mo mn ma kv tv)) (by decide +kernel) rfl trivial ?_
          obtain ⟨r106, h_106, hf⟩ := bnd_s hf
          refine m_cV0 M (rest := []) (w2 := (cM 0 sp r106.2 sv mf mo mn ma kv tv)) (st2 := [.int r106.1]) (run_X4_wrong    sp tk sv mf mo mn ma kv tv h_106) cv_X4_wrong lk_X4_170 (by decide +kernel) (List.range 26) List.nodup_range ⟨(by rw [List.length_range]; exact Nat.le_refl _), Nat.le_of_ble_eq_true rfl⟩ (hwId rfl) rfl rfl (Nat.le_of_ble_eq_true rfl) ⟨by decide, by decide⟩ rfl rfl ⟨Nat.zero_le _, Nat.zero_le _⟩ (hpId rfl rfl) rfl ?_
          obtain ⟨h_107, hf⟩ := grd_s hf
          obtain rfl := Option.some.inj hf
          exact m_zret K (by decide +kernel) (z01_use h_107) (Nat.zero_le _) (Nat.zero_le _) ⟨rfl, rfl⟩
  rw [f_X4_readAll] at hf
  refine m_run M (is := [(0, .aload_n 0, 0), (1, .iconst 1, 1), (2, .putfield 219, 0), (5, .aload_n 0, 0), (6, .iconst 0, 0), (7, .putfield 139, 0), (10, .aload_n 0, 0)]) (pc' := 11) (L' := [some (.ref 0)]) (st' := [.ref 0]) (w' := (cM 0 sp (tk.1, tk.2.1, tk.2.2.1, 0, tk.2.2.2.2.1, tk.2.2.2.2.2.1, tk.2.2.2.2.2.2.1, tk.2.2.2.2.2.2.2.1, 1) sv mf mo mn ma kv tv)) (by decide +kernel) rfl trivial ?_
  obtain ⟨r1001, h_1001, hf⟩ := bnd_s hf
  refine m_cV0 M (rest := []) (w2 := (cM 0 sp r1001 sv mf mo mn ma kv tv)) (st2 := []) (run_X4_look    sp (tk.1, tk.2.1, tk.2.2.1, 0, tk.2.2.2.2.1, tk.2.2.2.2.2.1, tk.2.2.2.2.2.2.1, tk.2.2.2.2.2.2.2.1, 1) sv mf mo mn ma kv tv h_1001) cv_X4_look lk_X4_174 (by decide +kernel) (List.range 26) List.nodup_range ⟨(by rw [List.length_range]; exact Nat.le_refl _), Nat.le_of_ble_eq_true rfl⟩ (hwId rfl) rfl rfl (Nat.le_of_ble_eq_true rfl) ⟨by decide, by decide⟩ rfl rfl ⟨Nat.zero_le _, Nat.zero_le _⟩ (hpId rfl rfl) rfl ?_
  refine m_run M (is := [(14, .aload_n 0, 0)]) (pc' := 15) (L' := [some (.ref 0)]) (st' := [.ref 0]) (w' := (cM 0 sp r1001 sv mf mo mn ma kv tv)) (by decide +kernel) rfl trivial ?_
  obtain ⟨r1002, h_1002, hf⟩ := bnd_s hf
  refine m_cV0 M (rest := []) (w2 := (cM 0 r1002.2.1 r1002.2.2 sv mf mo mn ma kv tv)) (st2 := [.int r1002.1]) (run_X4_statement    sp r1001 sv mf mo mn ma kv tv h_1002) cv_X4_statement lk_X4_222 (by decide +kernel) (List.range 26) List.nodup_range ⟨(by rw [List.length_range]; exact Nat.le_refl _), Nat.le_of_ble_eq_true rfl⟩ (hwId rfl) rfl rfl (Nat.le_of_ble_eq_true rfl) ⟨by decide, by decide⟩ rfl rfl ⟨Nat.zero_le _, Nat.zero_le _⟩ (hpId rfl rfl) rfl ?_
  rcases ite_s hf with ⟨c_1003, hf⟩ | ⟨c_1003, hf⟩
  · refine m_jF M (i := .ifCond .ne 5) 23 (by decide +kernel) rfl (by decide) (fun n => n c_1003) ?_
    refine m_run M (is := [(21, .iconst 0, 0)]) (pc' := 22) (L' := [some (.ref 0)]) (st' := [.int 0]) (w' := (cM 0 r1002.2.1 r1002.2.2 sv mf mo mn ma kv tv)) (by decide +kernel) rfl trivial ?_
    obtain rfl := Option.some.inj hf
    exact m_zret K (by decide +kernel) (Or.inl rfl) (Nat.zero_le _) (Nat.zero_le _) ⟨rfl, rfl⟩
  · refine m_jT M (i := .ifCond .ne 5) 23 (by decide +kernel) rfl (by decide) c_1003 ?_
    exact loop_0 fuel0 r1002.2.1 r1002.2.2 hf

def f_X4_personOf (a0 : Int32) (a1 : Int32) (sp : ShT) (mf : AI) : Option (Int32 × AI) :=
  (f_X4_isPerson ((a0).toInt64) sp).bind fun r1001 =>
  if r1001 = 0 then
    (f_X4_refuse (-2) mf).bind fun r1003 =>
    some (r1003.1, r1003.2)
  else
    (f_X4_in ((a1).toInt64) 0 2).bind fun r1004 =>
    if r1004 = 0 then
      (f_X4_refuse (-2) mf).bind fun r1006 =>
      some (r1006.1, r1006.2)
    else
      if a1 = 0 then
        (f_X4_placeOf a0 sp).bind fun r1008 =>
        some (r1008, mf)
      else
        if a1 = 1 then
          if inB a0 16 then
          some ((sp.2.1 a0.toNatClampNeg), mf)
          else none
        else
          if inB a0 16 then
          some ((sp.2.2.1 a0.toNatClampNeg), mf)
          else none
set_option maxRecDepth 100000 in
set_option maxHeartbeats 4000000 in
theorem run_X4_personOf {l : Launch} {D : va_G} {cT : Nat → ClassId} (a0 : Int32) (a1 : Int32)   (sp : ShT) (tk : TkT) (sv : SvT) (mf : AI) (mo : AI) (mn : AI) (ma : AI) (kv : Value) (tv : Value) {r : Int32 × AI} (hf : f_X4_personOf a0 a1 sp mf = some r) : Runs l D cT yX4_personOf cX4_personOf 3 (some .int) 2 47 [.ref 0, .int a0, .int a1] (cM 0 sp tk sv mf mo mn ma kv tv) (EQ (some (.int r.1)) (cM 0 sp tk sv r.2 mo mn ma kv tv)) := by
  refine runs_of O_X4 okO_X4 (by decide +kernel) rfl rfl (Nat.le_of_ble_eq_true rfl) (Nat.le_of_ble_eq_true rfl) (fun g K => ?_)
  have M := K.b
  show g 0 0 (cM 0 sp tk sv mf mo mn ma kv tv) 0 [some (.ref 0), some (.int a0), some (.int a1)] []
  rw [f_X4_personOf] at hf
  refine m_run M (is := [(0, .aload_n 0, 0), (1, .iload_n 1, 0), (2, .i2l, 0)]) (pc' := 3) (L' := [some (.ref 0), some (.int a0), some (.int a1)]) (st' := [.long ((a0).toInt64), .ref 0]) (w' := (cM 0 sp tk sv mf mo mn ma kv tv)) (by decide +kernel) rfl trivial ?_
  obtain ⟨r1001, h_1001, hf⟩ := bnd_s hf
  refine m_cV0 M (rest := []) (w2 := (cM 0 sp tk sv mf mo mn ma kv tv)) (st2 := [.int r1001]) (run_X4_isPerson ((a0).toInt64)   sp tk sv mf mo mn ma kv tv h_1001) cv_X4_isPerson lk_X4_130 (by decide +kernel) (List.range 26) List.nodup_range ⟨(by rw [List.length_range]; exact Nat.le_refl _), Nat.le_of_ble_eq_true rfl⟩ (hwId rfl) rfl rfl (Nat.le_of_ble_eq_true rfl) ⟨by decide, by decide⟩ rfl rfl ⟨Nat.zero_le _, Nat.zero_le _⟩ (hpId rfl rfl) rfl ?_
  rcases ite_s hf with ⟨c_1002, hf⟩ | ⟨c_1002, hf⟩
  · refine m_jT M (i := .ifCond .eq 15) 21 (by decide +kernel) rfl (by decide) c_1002 ?_
    refine m_run M (is := [(21, .aload_n 0, 0), (22, .bipush (-2), -2)]) (pc' := 24) (L' := [some (.ref 0), some (.int a0), some (.int a1)]) (st' := [.int (-2), .ref 0]) (w' := (cM 0 sp tk sv mf mo mn ma kv tv)) (by decide +kernel) rfl trivial ?_
    obtain ⟨r1003, h_1003, hf⟩ := bnd_s hf
    refine m_cV0 M (rest := []) (w2 := (cM 0 sp tk sv r1003.2 mo mn ma kv tv)) (st2 := [.int r1003.1]) (run_X4_refuse (-2)   sp tk sv mf mo mn ma kv tv h_1003) cv_X4_refuse lk_X4_85 (by decide +kernel) (List.range 26) List.nodup_range ⟨(by rw [List.length_range]; exact Nat.le_refl _), Nat.le_of_ble_eq_true rfl⟩ (hwId rfl) rfl rfl (Nat.le_of_ble_eq_true rfl) ⟨by decide, by decide⟩ rfl rfl ⟨Nat.zero_le _, Nat.zero_le _⟩ (hpId rfl rfl) rfl ?_
    obtain rfl := Option.some.inj hf
    exact m_iret K (by decide +kernel) (Nat.zero_le _) (Nat.zero_le _) ⟨rfl, rfl⟩
  · refine m_jF M (i := .ifCond .eq 15) 21 (by decide +kernel) rfl (by decide) c_1002 ?_
    refine m_run M (is := [(9, .iload_n 2, 0), (10, .i2l, 0), (11, .lconst 0, 0), (12, .ldc2_w 241, 0)]) (pc' := 15) (L' := [some (.ref 0), some (.int a0), some (.int a1)]) (st' := [.long 2, .long 0, .long ((a1).toInt64)]) (w' := (cM 0 sp tk sv mf mo mn ma kv tv)) (by decide +kernel) rfl trivial ?_
    obtain ⟨r1004, h_1004, hf⟩ := bnd_s hf
    refine m_cS0 M (rest := []) (w2 := (cM 0 sp tk sv mf mo mn ma kv tv)) (st2 := [.int r1004]) (run_X4_in ((a1).toInt64) 0 2    h_1004) cs_X4_in lk_X4_72 (by decide +kernel) [] (by decide) ⟨Nat.le_of_ble_eq_true rfl, Nat.le_of_ble_eq_true rfl⟩ rfl rfl (Nat.le_of_ble_eq_true rfl) ⟨by decide, by decide⟩ rfl rfl ⟨Nat.zero_le _, Nat.zero_le _⟩ rfl rfl ?_
    rcases ite_s hf with ⟨c_1005, hf⟩ | ⟨c_1005, hf⟩
    · refine m_jF M (i := .ifCond .ne 10) 28 (by decide +kernel) rfl (by decide) (fun n => n c_1005) ?_
      refine m_run M (is := [(21, .aload_n 0, 0), (22, .bipush (-2), -2)]) (pc' := 24) (L' := [some (.ref 0), some (.int a0), some (.int a1)]) (st' := [.int (-2), .ref 0]) (w' := (cM 0 sp tk sv mf mo mn ma kv tv)) (by decide +kernel) rfl trivial ?_
      obtain ⟨r1006, h_1006, hf⟩ := bnd_s hf
      refine m_cV0 M (rest := []) (w2 := (cM 0 sp tk sv r1006.2 mo mn ma kv tv)) (st2 := [.int r1006.1]) (run_X4_refuse (-2)   sp tk sv mf mo mn ma kv tv h_1006) cv_X4_refuse lk_X4_85 (by decide +kernel) (List.range 26) List.nodup_range ⟨(by rw [List.length_range]; exact Nat.le_refl _), Nat.le_of_ble_eq_true rfl⟩ (hwId rfl) rfl rfl (Nat.le_of_ble_eq_true rfl) ⟨by decide, by decide⟩ rfl rfl ⟨Nat.zero_le _, Nat.zero_le _⟩ (hpId rfl rfl) rfl ?_
      obtain rfl := Option.some.inj hf
      exact m_iret K (by decide +kernel) (Nat.zero_le _) (Nat.zero_le _) ⟨rfl, rfl⟩
    · refine m_jT M (i := .ifCond .ne 10) 28 (by decide +kernel) rfl (by decide) c_1005 ?_
      refine m_run M (is := [(28, .iload_n 2, 0)]) (pc' := 29) (L' := [some (.ref 0), some (.int a0), some (.int a1)]) (st' := [.int a1]) (w' := (cM 0 sp tk sv mf mo mn ma kv tv)) (by decide +kernel) rfl trivial ?_
      rcases ite_s hf with ⟨c_1007, hf⟩ | ⟨c_1007, hf⟩
      · refine m_jF M (i := .ifCond .ne 11) 40 (by decide +kernel) rfl (by decide) (fun n => n c_1007) ?_
        refine m_run M (is := [(32, .aload_n 0, 0), (33, .iload_n 1, 0)]) (pc' := 34) (L' := [some (.ref 0), some (.int a0), some (.int a1)]) (st' := [.int a0, .ref 0]) (w' := (cM 0 sp tk sv mf mo mn ma kv tv)) (by decide +kernel) rfl trivial ?_
        obtain ⟨r1008, h_1008, hf⟩ := bnd_s hf
        refine m_cV0 M (rest := []) (w2 := (cM 0 sp tk sv mf mo mn ma kv tv)) (st2 := [.int r1008]) (run_X4_placeOf a0   sp tk sv mf mo mn ma kv tv h_1008) cv_X4_placeOf lk_X4_243 (by decide +kernel) (List.range 26) List.nodup_range ⟨(by rw [List.length_range]; exact Nat.le_refl _), Nat.le_of_ble_eq_true rfl⟩ (hwId rfl) rfl rfl (Nat.le_of_ble_eq_true rfl) ⟨by decide, by decide⟩ rfl rfl ⟨Nat.zero_le _, Nat.zero_le _⟩ (hpId rfl rfl) rfl ?_
        refine m_run M (is := [(37, .goto 23, 0)]) (pc' := 60) (L' := [some (.ref 0), some (.int a0), some (.int a1)]) (st' := [.int r1008]) (w' := (cM 0 sp tk sv mf mo mn ma kv tv)) (by decide +kernel) rfl trivial ?_
        obtain rfl := Option.some.inj hf
        exact m_iret K (by decide +kernel) (Nat.zero_le _) (Nat.zero_le _) ⟨rfl, rfl⟩
      · refine m_jT M (i := .ifCond .ne 11) 40 (by decide +kernel) rfl (by decide) c_1007 ?_
        refine m_run M (is := [(40, .iload_n 2, 0), (41, .iconst 1, 1)]) (pc' := 42) (L' := [some (.ref 0), some (.int a0), some (.int a1)]) (st' := [.int 1, .int a1]) (w' := (cM 0 sp tk sv mf mo mn ma kv tv)) (by decide +kernel) rfl trivial ?_
        rcases ite_s hf with ⟨c_1009, hf⟩ | ⟨c_1009, hf⟩
        · refine m_jF M (i := .if_icmp .ne 12) 54 (by decide +kernel) rfl (by decide) (fun n => n c_1009) ?_
          obtain ⟨h_1010, hf⟩ := grd_s hf
          refine m_run M (is := [(45, .aload_n 0, 0), (46, .getfield 40, 0), (49, .iload_n 1, 0), (50, .iaload, 0), (51, .goto 9, 0)]) (pc' := 60) (L' := [some (.ref 0), some (.int a0), some (.int a1)]) (st' := [.int (sp.2.1 a0.toNatClampNeg)]) (w' := (cM 0 sp tk sv mf mo mn ma kv tv)) (by decide +kernel) rfl ⟨inB_use h_1010, trivial⟩ ?_
          obtain rfl := Option.some.inj hf
          exact m_iret K (by decide +kernel) (Nat.zero_le _) (Nat.zero_le _) ⟨rfl, rfl⟩
        · refine m_jT M (i := .if_icmp .ne 12) 54 (by decide +kernel) rfl (by decide) c_1009 ?_
          obtain ⟨h_1011, hf⟩ := grd_s hf
          refine m_run M (is := [(54, .aload_n 0, 0), (55, .getfield 43, 0), (58, .iload_n 1, 0), (59, .iaload, 0)]) (pc' := 60) (L' := [some (.ref 0), some (.int a0), some (.int a1)]) (st' := [.int (sp.2.2.1 a0.toNatClampNeg)]) (w' := (cM 0 sp tk sv mf mo mn ma kv tv)) (by decide +kernel) rfl ⟨inB_use h_1011, trivial⟩ ?_
          obtain rfl := Option.some.inj hf
          exact m_iret K (by decide +kernel) (Nat.zero_le _) (Nat.zero_le _) ⟨rfl, rfl⟩

def f_X4_lawOf (a0 : Int32) (a1 : Int32) (sp : ShT) (mf : AI) : Option (Int32 × AI) :=
  (f_X4_isLaw a0 sp).bind fun r1001 =>
  if r1001 = 0 then
    (f_X4_refuse (-2) mf).bind fun r1003 =>
    some (r1003.1, r1003.2)
  else
    (f_X4_in ((a1).toInt64) 0 1).bind fun r1004 =>
    if r1004 = 0 then
      (f_X4_refuse (-2) mf).bind fun r1006 =>
      some (r1006.1, r1006.2)
    else
      if a1 = 0 then
        if inB a0 6 then
        some ((sp.2.2.2.1 a0.toNatClampNeg), mf)
        else none
      else
        if inB a0 6 then
        some ((sp.2.2.2.2.1 a0.toNatClampNeg), mf)
        else none
set_option maxRecDepth 100000 in
set_option maxHeartbeats 4000000 in
theorem run_X4_lawOf {l : Launch} {D : va_G} {cT : Nat → ClassId} (a0 : Int32) (a1 : Int32)   (sp : ShT) (tk : TkT) (sv : SvT) (mf : AI) (mo : AI) (mn : AI) (ma : AI) (kv : Value) (tv : Value) {r : Int32 × AI} (hf : f_X4_lawOf a0 a1 sp mf = some r) : Runs l D cT yX4_lawOf cX4_lawOf 3 (some .int) 2 46 [.ref 0, .int a0, .int a1] (cM 0 sp tk sv mf mo mn ma kv tv) (EQ (some (.int r.1)) (cM 0 sp tk sv r.2 mo mn ma kv tv)) := by
  refine runs_of O_X4 okO_X4 (by decide +kernel) rfl rfl (Nat.le_of_ble_eq_true rfl) (Nat.le_of_ble_eq_true rfl) (fun g K => ?_)
  have M := K.b
  show g 0 0 (cM 0 sp tk sv mf mo mn ma kv tv) 0 [some (.ref 0), some (.int a0), some (.int a1)] []
  rw [f_X4_lawOf] at hf
  refine m_run M (is := [(0, .aload_n 0, 0), (1, .iload_n 1, 0)]) (pc' := 2) (L' := [some (.ref 0), some (.int a0), some (.int a1)]) (st' := [.int a0, .ref 0]) (w' := (cM 0 sp tk sv mf mo mn ma kv tv)) (by decide +kernel) rfl trivial ?_
  obtain ⟨r1001, h_1001, hf⟩ := bnd_s hf
  refine m_cV0 M (rest := []) (w2 := (cM 0 sp tk sv mf mo mn ma kv tv)) (st2 := [.int r1001]) (run_X4_isLaw a0   sp tk sv mf mo mn ma kv tv h_1001) cv_X4_isLaw lk_X4_96 (by decide +kernel) (List.range 26) List.nodup_range ⟨(by rw [List.length_range]; exact Nat.le_refl _), Nat.le_of_ble_eq_true rfl⟩ (hwId rfl) rfl rfl (Nat.le_of_ble_eq_true rfl) ⟨by decide, by decide⟩ rfl rfl ⟨Nat.zero_le _, Nat.zero_le _⟩ (hpId rfl rfl) rfl ?_
  rcases ite_s hf with ⟨c_1002, hf⟩ | ⟨c_1002, hf⟩
  · refine m_jT M (i := .ifCond .eq 13) 18 (by decide +kernel) rfl (by decide) c_1002 ?_
    refine m_run M (is := [(18, .aload_n 0, 0), (19, .bipush (-2), -2)]) (pc' := 21) (L' := [some (.ref 0), some (.int a0), some (.int a1)]) (st' := [.int (-2), .ref 0]) (w' := (cM 0 sp tk sv mf mo mn ma kv tv)) (by decide +kernel) rfl trivial ?_
    obtain ⟨r1003, h_1003, hf⟩ := bnd_s hf
    refine m_cV0 M (rest := []) (w2 := (cM 0 sp tk sv r1003.2 mo mn ma kv tv)) (st2 := [.int r1003.1]) (run_X4_refuse (-2)   sp tk sv mf mo mn ma kv tv h_1003) cv_X4_refuse lk_X4_85 (by decide +kernel) (List.range 26) List.nodup_range ⟨(by rw [List.length_range]; exact Nat.le_refl _), Nat.le_of_ble_eq_true rfl⟩ (hwId rfl) rfl rfl (Nat.le_of_ble_eq_true rfl) ⟨by decide, by decide⟩ rfl rfl ⟨Nat.zero_le _, Nat.zero_le _⟩ (hpId rfl rfl) rfl ?_
    obtain rfl := Option.some.inj hf
    exact m_iret K (by decide +kernel) (Nat.zero_le _) (Nat.zero_le _) ⟨rfl, rfl⟩
  · refine m_jF M (i := .ifCond .eq 13) 18 (by decide +kernel) rfl (by decide) c_1002 ?_
    refine m_run M (is := [(8, .iload_n 2, 0), (9, .i2l, 0), (10, .lconst 0, 0), (11, .lconst 1, 0)]) (pc' := 12) (L' := [some (.ref 0), some (.int a0), some (.int a1)]) (st' := [.long 1, .long 0, .long ((a1).toInt64)]) (w' := (cM 0 sp tk sv mf mo mn ma kv tv)) (by decide +kernel) rfl trivial ?_
    obtain ⟨r1004, h_1004, hf⟩ := bnd_s hf
    refine m_cS0 M (rest := []) (w2 := (cM 0 sp tk sv mf mo mn ma kv tv)) (st2 := [.int r1004]) (run_X4_in ((a1).toInt64) 0 1    h_1004) cs_X4_in lk_X4_72 (by decide +kernel) [] (by decide) ⟨Nat.le_of_ble_eq_true rfl, Nat.le_of_ble_eq_true rfl⟩ rfl rfl (Nat.le_of_ble_eq_true rfl) ⟨by decide, by decide⟩ rfl rfl ⟨Nat.zero_le _, Nat.zero_le _⟩ rfl rfl ?_
    rcases ite_s hf with ⟨c_1005, hf⟩ | ⟨c_1005, hf⟩
    · refine m_jF M (i := .ifCond .ne 10) 25 (by decide +kernel) rfl (by decide) (fun n => n c_1005) ?_
      refine m_run M (is := [(18, .aload_n 0, 0), (19, .bipush (-2), -2)]) (pc' := 21) (L' := [some (.ref 0), some (.int a0), some (.int a1)]) (st' := [.int (-2), .ref 0]) (w' := (cM 0 sp tk sv mf mo mn ma kv tv)) (by decide +kernel) rfl trivial ?_
      obtain ⟨r1006, h_1006, hf⟩ := bnd_s hf
      refine m_cV0 M (rest := []) (w2 := (cM 0 sp tk sv r1006.2 mo mn ma kv tv)) (st2 := [.int r1006.1]) (run_X4_refuse (-2)   sp tk sv mf mo mn ma kv tv h_1006) cv_X4_refuse lk_X4_85 (by decide +kernel) (List.range 26) List.nodup_range ⟨(by rw [List.length_range]; exact Nat.le_refl _), Nat.le_of_ble_eq_true rfl⟩ (hwId rfl) rfl rfl (Nat.le_of_ble_eq_true rfl) ⟨by decide, by decide⟩ rfl rfl ⟨Nat.zero_le _, Nat.zero_le _⟩ (hpId rfl rfl) rfl ?_
      obtain rfl := Option.some.inj hf
      exact m_iret K (by decide +kernel) (Nat.zero_le _) (Nat.zero_le _) ⟨rfl, rfl⟩
    · refine m_jT M (i := .ifCond .ne 10) 25 (by decide +kernel) rfl (by decide) c_1005 ?_
      refine m_run M (is := [(25, .iload_n 2, 0)]) (pc' := 26) (L' := [some (.ref 0), some (.int a0), some (.int a1)]) (st' := [.int a1]) (w' := (cM 0 sp tk sv mf mo mn ma kv tv)) (by decide +kernel) rfl trivial ?_
      rcases ite_s hf with ⟨c_1007, hf⟩ | ⟨c_1007, hf⟩
      · refine m_jF M (i := .ifCond .ne 12) 38 (by decide +kernel) rfl (by decide) (fun n => n c_1007) ?_
        obtain ⟨h_1008, hf⟩ := grd_s hf
        refine m_run M (is := [(29, .aload_n 0, 0), (30, .getfield 46, 0), (33, .iload_n 1, 0), (34, .iaload, 0), (35, .goto 9, 0)]) (pc' := 44) (L' := [some (.ref 0), some (.int a0), some (.int a1)]) (st' := [.int (sp.2.2.2.1 a0.toNatClampNeg)]) (w' := (cM 0 sp tk sv mf mo mn ma kv tv)) (by decide +kernel) rfl ⟨inB_use h_1008, trivial⟩ ?_
        obtain rfl := Option.some.inj hf
        exact m_iret K (by decide +kernel) (Nat.zero_le _) (Nat.zero_le _) ⟨rfl, rfl⟩
      · refine m_jT M (i := .ifCond .ne 12) 38 (by decide +kernel) rfl (by decide) c_1007 ?_
        obtain ⟨h_1009, hf⟩ := grd_s hf
        refine m_run M (is := [(38, .aload_n 0, 0), (39, .getfield 49, 0), (42, .iload_n 1, 0), (43, .iaload, 0)]) (pc' := 44) (L' := [some (.ref 0), some (.int a0), some (.int a1)]) (st' := [.int (sp.2.2.2.2.1 a0.toNatClampNeg)]) (w' := (cM 0 sp tk sv mf mo mn ma kv tv)) (by decide +kernel) rfl ⟨inB_use h_1009, trivial⟩ ?_
        obtain rfl := Option.some.inj hf
        exact m_iret K (by decide +kernel) (Nat.zero_le _) (Nat.zero_le _) ⟨rfl, rfl⟩

def f_X4_at (a0 : Int32) (sp : ShT) (mf : AI) : Option (Int32 × AI) :=
  (f_X4_isPerson ((a0).toInt64) sp).bind fun r1001 =>
  if r1001 = 0 then
    (f_X4_refuse (-2) mf).bind fun r1003 =>
    some (r1003.1, r1003.2)
  else
    if inB a0 16 then
    some ((sp.1 a0.toNatClampNeg), mf)
    else none
set_option maxRecDepth 100000 in
set_option maxHeartbeats 4000000 in
theorem run_X4_at {l : Launch} {D : va_G} {cT : Nat → ClassId} (a0 : Int32)   (sp : ShT) (tk : TkT) (sv : SvT) (mf : AI) (mo : AI) (mn : AI) (ma : AI) (kv : Value) (tv : Value) {r : Int32 × AI} (hf : f_X4_at a0 sp mf = some r) : Runs l D cT yX4_at cX4_at 2 (some .int) 2 47 [.ref 0, .int a0] (cM 0 sp tk sv mf mo mn ma kv tv) (EQ (some (.int r.1)) (cM 0 sp tk sv r.2 mo mn ma kv tv)) := by
  refine runs_of O_X4 okO_X4 (by decide +kernel) rfl rfl (Nat.le_of_ble_eq_true rfl) (Nat.le_of_ble_eq_true rfl) (fun g K => ?_)
  have M := K.b
  show g 0 0 (cM 0 sp tk sv mf mo mn ma kv tv) 0 [some (.ref 0), some (.int a0)] []
  rw [f_X4_at] at hf
  refine m_run M (is := [(0, .aload_n 0, 0), (1, .iload_n 1, 0), (2, .i2l, 0)]) (pc' := 3) (L' := [some (.ref 0), some (.int a0)]) (st' := [.long ((a0).toInt64), .ref 0]) (w' := (cM 0 sp tk sv mf mo mn ma kv tv)) (by decide +kernel) rfl trivial ?_
  obtain ⟨r1001, h_1001, hf⟩ := bnd_s hf
  refine m_cV0 M (rest := []) (w2 := (cM 0 sp tk sv mf mo mn ma kv tv)) (st2 := [.int r1001]) (run_X4_isPerson ((a0).toInt64)   sp tk sv mf mo mn ma kv tv h_1001) cv_X4_isPerson lk_X4_130 (by decide +kernel) (List.range 26) List.nodup_range ⟨(by rw [List.length_range]; exact Nat.le_refl _), Nat.le_of_ble_eq_true rfl⟩ (hwId rfl) rfl rfl (Nat.le_of_ble_eq_true rfl) ⟨by decide, by decide⟩ rfl rfl ⟨Nat.zero_le _, Nat.zero_le _⟩ (hpId rfl rfl) rfl ?_
  rcases ite_s hf with ⟨c_1002, hf⟩ | ⟨c_1002, hf⟩
  · refine m_jT M (i := .ifCond .eq 12) 18 (by decide +kernel) rfl (by decide) c_1002 ?_
    refine m_run M (is := [(18, .aload_n 0, 0), (19, .bipush (-2), -2)]) (pc' := 21) (L' := [some (.ref 0), some (.int a0)]) (st' := [.int (-2), .ref 0]) (w' := (cM 0 sp tk sv mf mo mn ma kv tv)) (by decide +kernel) rfl trivial ?_
    obtain ⟨r1003, h_1003, hf⟩ := bnd_s hf
    refine m_cV0 M (rest := []) (w2 := (cM 0 sp tk sv r1003.2 mo mn ma kv tv)) (st2 := [.int r1003.1]) (run_X4_refuse (-2)   sp tk sv mf mo mn ma kv tv h_1003) cv_X4_refuse lk_X4_85 (by decide +kernel) (List.range 26) List.nodup_range ⟨(by rw [List.length_range]; exact Nat.le_refl _), Nat.le_of_ble_eq_true rfl⟩ (hwId rfl) rfl rfl (Nat.le_of_ble_eq_true rfl) ⟨by decide, by decide⟩ rfl rfl ⟨Nat.zero_le _, Nat.zero_le _⟩ (hpId rfl rfl) rfl ?_
    obtain rfl := Option.some.inj hf
    exact m_iret K (by decide +kernel) (Nat.zero_le _) (Nat.zero_le _) ⟨rfl, rfl⟩
  · refine m_jF M (i := .ifCond .eq 12) 18 (by decide +kernel) rfl (by decide) c_1002 ?_
    obtain ⟨h_1004, hf⟩ := grd_s hf
    refine m_run M (is := [(9, .aload_n 0, 0), (10, .getfield 37, 0), (13, .iload_n 1, 0), (14, .iaload, 0), (15, .goto 9, 0)]) (pc' := 24) (L' := [some (.ref 0), some (.int a0)]) (st' := [.int (sp.1 a0.toNatClampNeg)]) (w' := (cM 0 sp tk sv mf mo mn ma kv tv)) (by decide +kernel) rfl ⟨inB_use h_1004, trivial⟩ ?_
    obtain rfl := Option.some.inj hf
    exact m_iret K (by decide +kernel) (Nat.zero_le _) (Nat.zero_le _) ⟨rfl, rfl⟩

def f_X4_beginsAnew_L0  : Nat → Int32 → ShT → Option (ShT)
  | 0, _, _ => none
  | n_ + 1, v1, sp =>
    if sp.2.2.2.2.2.1 ≤ v1 then
      some (sp.1, sp.2.1, sp.2.2.1, sp.2.2.2.1, sp.2.2.2.2.1, sp.2.2.2.2.2.1, sp.2.2.2.2.2.2.1, sp.2.2.2.2.2.2.2.1, 0, sp.2.2.2.2.2.2.2.2.2)
    else
      if inB v1 16 then
      if inB v1 16 then
      f_X4_beginsAnew_L0 n_ (v1 + 1) (sp.1, (upd sp.2.1 v1.toNatClampNeg 0), (upd sp.2.2.1 v1.toNatClampNeg 1), sp.2.2.2.1, sp.2.2.2.2.1, sp.2.2.2.2.2.1, sp.2.2.2.2.2.2.1, sp.2.2.2.2.2.2.2.1, sp.2.2.2.2.2.2.2.2.1, sp.2.2.2.2.2.2.2.2.2)
      else none
      else none
def f_X4_beginsAnew (sp : ShT) : Option (ShT) :=
  f_X4_beginsAnew_L0 fuel0 0 sp
set_option maxRecDepth 100000 in
set_option maxHeartbeats 4000000 in
theorem run_X4_beginsAnew {l : Launch} {D : va_G} {cT : Nat → ClassId}    (sp : ShT) (tk : TkT) (sv : SvT) (mf : AI) (mo : AI) (mn : AI) (ma : AI) (kv : Value) (tv : Value) {r : ShT} (hf : f_X4_beginsAnew sp = some r) : Runs l D cT yX4_beginsAnew cX4_beginsAnew 2 none 0 0 [.ref 0] (cM 0 sp tk sv mf mo mn ma kv tv) (EQ none (cM 0 r tk sv mf mo mn ma kv tv)) := by
  refine runs_of O_X4 okO_X4 (by decide +kernel) rfl rfl (Nat.le_of_ble_eq_true rfl) (Nat.le_of_ble_eq_true rfl) (fun g K => ?_)
  have M := K.b
  show g 0 0 (cM 0 sp tk sv mf mo mn ma kv tv) 0 [some (.ref 0), none] []
  have loop_0 : ∀ (n_ : Nat), (∀ (v1 : Int32) (sp : ShT), f_X4_beginsAnew_L0  n_ v1 sp = some r → g 0 0 (cM 0 sp tk sv mf mo mn ma kv tv) 2 [some (.ref 0), some (.int v1)] []) := by
    intro n_
    induction n_ with
    | zero => intro v1 sp hf; cases hf
    | succ n_ ih =>
      intro v1 sp hf
      rw [f_X4_beginsAnew_L0] at hf
      refine m_run M (is := [(2, .iload_n 1, 0), (3, .aload_n 0, 0), (4, .getfield 69, 0)]) (pc' := 7) (L' := [some (.ref 0), some (.int v1)]) (st' := [.int sp.2.2.2.2.2.1, .int v1]) (w' := (cM 0 sp tk sv mf mo mn ma kv tv)) (by decide +kernel) rfl trivial ?_
      rcases ite_s hf with ⟨c_101, hf⟩ | ⟨c_101, hf⟩
      · refine m_jT M (i := .if_icmp .ge 23) 30 (by decide +kernel) rfl (by decide) c_101 ?_
        refine m_run M (is := [(30, .aload_n 0, 0), (31, .iconst 0, 0), (32, .putfield 246, 0)]) (pc' := 35) (L' := [some (.ref 0), some (.int v1)]) (st' := []) (w' := (cM 0 (sp.1, sp.2.1, sp.2.2.1, sp.2.2.2.1, sp.2.2.2.2.1, sp.2.2.2.2.2.1, sp.2.2.2.2.2.2.1, sp.2.2.2.2.2.2.2.1, 0, sp.2.2.2.2.2.2.2.2.2) tk sv mf mo mn ma kv tv)) (by decide +kernel) rfl trivial ?_
        obtain rfl := Option.some.inj hf
        exact m_vret K (by decide +kernel) (Nat.zero_le _) (Nat.zero_le _) ⟨rfl, rfl⟩
      · refine m_jF M (i := .if_icmp .ge 23) 30 (by decide +kernel) rfl (by decide) c_101 ?_
        obtain ⟨h_102, hf⟩ := grd_s hf
        obtain ⟨h_103, hf⟩ := grd_s hf
        refine m_run M (is := [(10, .aload_n 0, 0), (11, .getfield 40, 0), (14, .iload_n 1, 0), (15, .iconst 0, 0), (16, .iastore, 0), (17, .aload_n 0, 0), (18, .getfield 43, 0), (21, .iload_n 1, 0), (22, .iconst 1, 1), (23, .iastore, 0), (24, .iinc 1 1, 1), (27, .goto (-25), 0)]) (pc' := 2) (L' := [some (.ref 0), some (.int (v1 + 1))]) (st' := []) (w' := (cM 0 (sp.1, (upd sp.2.1 v1.toNatClampNeg 0), (upd sp.2.2.1 v1.toNatClampNeg 1), sp.2.2.2.1, sp.2.2.2.2.1, sp.2.2.2.2.2.1, sp.2.2.2.2.2.2.1, sp.2.2.2.2.2.2.2.1, sp.2.2.2.2.2.2.2.2.1, sp.2.2.2.2.2.2.2.2.2) tk sv mf mo mn ma kv tv)) (by decide +kernel) rfl ⟨inB_use h_102, inB_use h_103, trivial⟩ ?_
        exact ih (v1 + 1) (sp.1, (upd sp.2.1 v1.toNatClampNeg 0), (upd sp.2.2.1 v1.toNatClampNeg 1), sp.2.2.2.1, sp.2.2.2.2.1, sp.2.2.2.2.2.1, sp.2.2.2.2.2.2.1, sp.2.2.2.2.2.2.2.1, sp.2.2.2.2.2.2.2.2.1, sp.2.2.2.2.2.2.2.2.2) hf
  rw [f_X4_beginsAnew] at hf
  refine m_run M (is := [(0, .iconst 0, 0), (1, .istore_n 1, 0)]) (pc' := 2) (L' := [some (.ref 0), some (.int 0)]) (st' := []) (w' := (cM 0 sp tk sv mf mo mn ma kv tv)) (by decide +kernel) rfl trivial ?_
  exact loop_0 fuel0 0 sp hf

def f_X4_mostCounts_L0 (sp : ShT) : Nat → Int32 → Int32 → Option (Int32)
  | 0, _, _ => none
  | n_ + 1, v1, v2 =>
    if sp.2.2.2.2.2.1 ≤ v2 then
      some v1
    else
      if inB v2 16 then
      if inB v1 16 then
      if (sp.2.1 v2.toNatClampNeg) ≤ (sp.2.1 v1.toNatClampNeg) then
        f_X4_mostCounts_L0 sp n_ v1 (v2 + 1)
      else
        f_X4_mostCounts_L0 sp n_ v2 (v2 + 1)
      else none
      else none
def f_X4_mostCounts (sp : ShT) : Option (Int32) :=
  f_X4_mostCounts_L0 sp fuel0 0 1
set_option maxRecDepth 100000 in
set_option maxHeartbeats 4000000 in
theorem run_X4_mostCounts {l : Launch} {D : va_G} {cT : Nat → ClassId}    (sp : ShT) (tk : TkT) (sv : SvT) (mf : AI) (mo : AI) (mn : AI) (ma : AI) (kv : Value) (tv : Value) {r : Int32} (hf : f_X4_mostCounts sp = some r) : Runs l D cT yX4_mostCounts cX4_mostCounts 3 (some .int) 0 0 [.ref 0] (cM 0 sp tk sv mf mo mn ma kv tv) (EQ (some (.int r)) (cM 0 sp tk sv mf mo mn ma kv tv)) := by
  refine runs_of O_X4 okO_X4 (by decide +kernel) rfl rfl (Nat.le_of_ble_eq_true rfl) (Nat.le_of_ble_eq_true rfl) (fun g K => ?_)
  have M := K.b
  show g 0 0 (cM 0 sp tk sv mf mo mn ma kv tv) 0 [some (.ref 0), none, none] []
  have loop_0 : ∀ (n_ : Nat), (∀ (v1 : Int32) (v2 : Int32), f_X4_mostCounts_L0 sp n_ v1 v2 = some r → g 0 0 (cM 0 sp tk sv mf mo mn ma kv tv) 4 [some (.ref 0), some (.int v1), some (.int v2)] []) := by
    intro n_
    induction n_ with
    | zero => intro v1 v2 hf; cases hf
    | succ n_ ih =>
      intro v1 v2 hf
      rw [f_X4_mostCounts_L0] at hf
      refine m_run M (is := [(4, .iload_n 2, 0), (5, .aload_n 0, 0), (6, .getfield 69, 0)]) (pc' := 9) (L' := [some (.ref 0), some (.int v1), some (.int v2)]) (st' := [.int sp.2.2.2.2.2.1, .int v2]) (w' := (cM 0 sp tk sv mf mo mn ma kv tv)) (by decide +kernel) rfl trivial ?_
      rcases ite_s hf with ⟨c_101, hf⟩ | ⟨c_101, hf⟩
      · refine m_jT M (i := .if_icmp .ge 30) 39 (by decide +kernel) rfl (by decide) c_101 ?_
        refine m_run M (is := [(39, .iload_n 1, 0)]) (pc' := 40) (L' := [some (.ref 0), some (.int v1), some (.int v2)]) (st' := [.int v1]) (w' := (cM 0 sp tk sv mf mo mn ma kv tv)) (by decide +kernel) rfl trivial ?_
        obtain rfl := Option.some.inj hf
        exact m_iret K (by decide +kernel) (Nat.zero_le _) (Nat.zero_le _) ⟨rfl, rfl⟩
      · refine m_jF M (i := .if_icmp .ge 30) 39 (by decide +kernel) rfl (by decide) c_101 ?_
        obtain ⟨h_102, hf⟩ := grd_s hf
        obtain ⟨h_103, hf⟩ := grd_s hf
        refine m_run M (is := [(12, .aload_n 0, 0), (13, .getfield 40, 0), (16, .iload_n 2, 0), (17, .iaload, 0), (18, .aload_n 0, 0), (19, .getfield 40, 0), (22, .iload_n 1, 0), (23, .iaload, 0)]) (pc' := 24) (L' := [some (.ref 0), some (.int v1), some (.int v2)]) (st' := [.int (sp.2.1 v1.toNatClampNeg), .int (sp.2.1 v2.toNatClampNeg)]) (w' := (cM 0 sp tk sv mf mo mn ma kv tv)) (by decide +kernel) rfl ⟨inB_use h_102, inB_use h_103, trivial⟩ ?_
        rcases ite_s hf with ⟨c_104, hf⟩ | ⟨c_104, hf⟩
        · refine m_jT M (i := .if_icmp .le 7) 31 (by decide +kernel) rfl (by decide) c_104 ?_
          refine m_run M (is := [(31, .iload_n 1, 0), (32, .istore_n 1, 0), (33, .iinc 2 1, 1), (36, .goto (-32), 0)]) (pc' := 4) (L' := [some (.ref 0), some (.int v1), some (.int (v2 + 1))]) (st' := []) (w' := (cM 0 sp tk sv mf mo mn ma kv tv)) (by decide +kernel) rfl trivial ?_
          exact ih v1 (v2 + 1) hf
        · refine m_jF M (i := .if_icmp .le 7) 31 (by decide +kernel) rfl (by decide) c_104 ?_
          refine m_run M (is := [(27, .iload_n 2, 0), (28, .goto 4, 0), (32, .istore_n 1, 0), (33, .iinc 2 1, 1), (36, .goto (-32), 0)]) (pc' := 4) (L' := [some (.ref 0), some (.int v2), some (.int (v2 + 1))]) (st' := []) (w' := (cM 0 sp tk sv mf mo mn ma kv tv)) (by decide +kernel) rfl trivial ?_
          exact ih v2 (v2 + 1) hf
  rw [f_X4_mostCounts] at hf
  refine m_run M (is := [(0, .iconst 0, 0), (1, .istore_n 1, 0), (2, .iconst 1, 1), (3, .istore_n 2, 0)]) (pc' := 4) (L' := [some (.ref 0), some (.int 0), some (.int 1)]) (st' := []) (w' := (cM 0 sp tk sv mf mo mn ma kv tv)) (by decide +kernel) rfl trivial ?_
  exact loop_0 fuel0 0 1 hf

def f_X4_spreadNow_L0 (sp : ShT) : Nat → Int32 → Int32 → Int32 → Option (Int32)
  | 0, _, _, _ => none
  | n_ + 1, v1, v2, v3 =>
    if sp.2.2.2.2.2.1 ≤ v3 then
      some (v2 - v1)
    else
      if inB v3 16 then
      if v1 ≤ (sp.2.1 v3.toNatClampNeg) then
        if inB v3 16 then
        if (sp.2.1 v3.toNatClampNeg) ≤ v2 then
          f_X4_spreadNow_L0 sp n_ v1 v2 (v3 + 1)
        else
          if inB v3 16 then
          f_X4_spreadNow_L0 sp n_ v1 (sp.2.1 v3.toNatClampNeg) (v3 + 1)
          else none
        else none
      else
        if inB v3 16 then
        if inB v3 16 then
        if (sp.2.1 v3.toNatClampNeg) ≤ v2 then
          f_X4_spreadNow_L0 sp n_ (sp.2.1 v3.toNatClampNeg) v2 (v3 + 1)
        else
          if inB v3 16 then
          f_X4_spreadNow_L0 sp n_ (sp.2.1 v3.toNatClampNeg) (sp.2.1 v3.toNatClampNeg) (v3 + 1)
          else none
        else none
        else none
      else none
def f_X4_spreadNow (sp : ShT) : Option (Int32) :=
  if inB 0 16 then
  if inB 0 16 then
  f_X4_spreadNow_L0 sp fuel0 (sp.2.1 (0 : Int32).toNatClampNeg) (sp.2.1 (0 : Int32).toNatClampNeg) 1
  else none
  else none
set_option maxRecDepth 100000 in
set_option maxHeartbeats 4000000 in
theorem run_X4_spreadNow {l : Launch} {D : va_G} {cT : Nat → ClassId}    (sp : ShT) (tk : TkT) (sv : SvT) (mf : AI) (mo : AI) (mn : AI) (ma : AI) (kv : Value) (tv : Value) {r : Int32} (hf : f_X4_spreadNow sp = some r) : Runs l D cT yX4_spreadNow cX4_spreadNow 4 (some .int) 0 0 [.ref 0] (cM 0 sp tk sv mf mo mn ma kv tv) (EQ (some (.int r)) (cM 0 sp tk sv mf mo mn ma kv tv)) := by
  refine runs_of O_X4 okO_X4 (by decide +kernel) rfl rfl (Nat.le_of_ble_eq_true rfl) (Nat.le_of_ble_eq_true rfl) (fun g K => ?_)
  have M := K.b
  show g 0 0 (cM 0 sp tk sv mf mo mn ma kv tv) 0 [some (.ref 0), none, none, none] []
  have loop_0 : ∀ (n_ : Nat), (∀ (v1 : Int32) (v2 : Int32) (v3 : Int32), f_X4_spreadNow_L0 sp n_ v1 v2 v3 = some r → g 0 0 (cM 0 sp tk sv mf mo mn ma kv tv) 16 [some (.ref 0), some (.int v1), some (.int v2), some (.int v3)] []) := by
    intro n_
    induction n_ with
    | zero => intro v1 v2 v3 hf; cases hf
    | succ n_ ih =>
      intro v1 v2 v3 hf
      rw [f_X4_spreadNow_L0] at hf
      refine m_run M (is := [(16, .iload_n 3, 0), (17, .aload_n 0, 0), (18, .getfield 69, 0)]) (pc' := 21) (L' := [some (.ref 0), some (.int v1), some (.int v2), some (.int v3)]) (st' := [.int sp.2.2.2.2.2.1, .int v3]) (w' := (cM 0 sp tk sv mf mo mn ma kv tv)) (by decide +kernel) rfl trivial ?_
      rcases ite_s hf with ⟨c_101, hf⟩ | ⟨c_101, hf⟩
      · refine m_jT M (i := .if_icmp .ge 51) 72 (by decide +kernel) rfl (by decide) c_101 ?_
        refine m_run M (is := [(72, .iload_n 2, 0), (73, .iload_n 1, 0), (74, .isub, 0)]) (pc' := 75) (L' := [some (.ref 0), some (.int v1), some (.int v2), some (.int v3)]) (st' := [.int (v2 - v1)]) (w' := (cM 0 sp tk sv mf mo mn ma kv tv)) (by decide +kernel) rfl trivial ?_
        obtain rfl := Option.some.inj hf
        exact m_iret K (by decide +kernel) (Nat.zero_le _) (Nat.zero_le _) ⟨rfl, rfl⟩
      · refine m_jF M (i := .if_icmp .ge 51) 72 (by decide +kernel) rfl (by decide) c_101 ?_
        obtain ⟨h_102, hf⟩ := grd_s hf
        refine m_run M (is := [(24, .aload_n 0, 0), (25, .getfield 40, 0), (28, .iload_n 3, 0), (29, .iaload, 0), (30, .iload_n 1, 0)]) (pc' := 31) (L' := [some (.ref 0), some (.int v1), some (.int v2), some (.int v3)]) (st' := [.int v1, .int (sp.2.1 v3.toNatClampNeg)]) (w' := (cM 0 sp tk sv mf mo mn ma kv tv)) (by decide +kernel) rfl ⟨inB_use h_102, trivial⟩ ?_
        rcases ite_s hf with ⟨c_103, hf⟩ | ⟨c_103, hf⟩
        · refine m_jT M (i := .if_icmp .ge 12) 43 (by decide +kernel) rfl (by decide) c_103 ?_
          obtain ⟨h_104, hf⟩ := grd_s hf
          refine m_run M (is := [(43, .iload_n 1, 0), (44, .istore_n 1, 0), (45, .aload_n 0, 0), (46, .getfield 40, 0), (49, .iload_n 3, 0), (50, .iaload, 0), (51, .iload_n 2, 0)]) (pc' := 52) (L' := [some (.ref 0), some (.int v1), some (.int v2), some (.int v3)]) (st' := [.int v2, .int (sp.2.1 v3.toNatClampNeg)]) (w' := (cM 0 sp tk sv mf mo mn ma kv tv)) (by decide +kernel) rfl ⟨inB_use h_104, trivial⟩ ?_
          rcases ite_s hf with ⟨c_105, hf⟩ | ⟨c_105, hf⟩
          · refine m_jT M (i := .if_icmp .le 12) 64 (by decide +kernel) rfl (by decide) c_105 ?_
            refine m_run M (is := [(64, .iload_n 2, 0), (65, .istore_n 2, 0), (66, .iinc 3 1, 1), (69, .goto (-53), 0)]) (pc' := 16) (L' := [some (.ref 0), some (.int v1), some (.int v2), some (.int (v3 + 1))]) (st' := []) (w' := (cM 0 sp tk sv mf mo mn ma kv tv)) (by decide +kernel) rfl trivial ?_
            exact ih v1 v2 (v3 + 1) hf
          · refine m_jF M (i := .if_icmp .le 12) 64 (by decide +kernel) rfl (by decide) c_105 ?_
            obtain ⟨h_106, hf⟩ := grd_s hf
            refine m_run M (is := [(55, .aload_n 0, 0), (56, .getfield 40, 0), (59, .iload_n 3, 0), (60, .iaload, 0), (61, .goto 4, 0), (65, .istore_n 2, 0), (66, .iinc 3 1, 1), (69, .goto (-53), 0)]) (pc' := 16) (L' := [some (.ref 0), some (.int v1), some (.int (sp.2.1 v3.toNatClampNeg)), some (.int (v3 + 1))]) (st' := []) (w' := (cM 0 sp tk sv mf mo mn ma kv tv)) (by decide +kernel) rfl ⟨inB_use h_106, trivial⟩ ?_
            exact ih v1 (sp.2.1 v3.toNatClampNeg) (v3 + 1) hf
        · refine m_jF M (i := .if_icmp .ge 12) 43 (by decide +kernel) rfl (by decide) c_103 ?_
          obtain ⟨h_107, hf⟩ := grd_s hf
          obtain ⟨h_108, hf⟩ := grd_s hf
          refine m_run M (is := [(34, .aload_n 0, 0), (35, .getfield 40, 0), (38, .iload_n 3, 0), (39, .iaload, 0), (40, .goto 4, 0), (44, .istore_n 1, 0), (45, .aload_n 0, 0), (46, .getfield 40, 0), (49, .iload_n 3, 0), (50, .iaload, 0), (51, .iload_n 2, 0)]) (pc' := 52) (L' := [some (.ref 0), some (.int (sp.2.1 v3.toNatClampNeg)), some (.int v2), some (.int v3)]) (st' := [.int v2, .int (sp.2.1 v3.toNatClampNeg)]) (w' := (cM 0 sp tk sv mf mo mn ma kv tv)) (by decide +kernel) rfl ⟨inB_use h_107, inB_use h_108, trivial⟩ ?_
          rcases ite_s hf with ⟨c_109, hf⟩ | ⟨c_109, hf⟩
          · refine m_jT M (i := .if_icmp .le 12) 64 (by decide +kernel) rfl (by decide) c_109 ?_
            refine m_run M (is := [(64, .iload_n 2, 0), (65, .istore_n 2, 0), (66, .iinc 3 1, 1), (69, .goto (-53), 0)]) (pc' := 16) (L' := [some (.ref 0), some (.int (sp.2.1 v3.toNatClampNeg)), some (.int v2), some (.int (v3 + 1))]) (st' := []) (w' := (cM 0 sp tk sv mf mo mn ma kv tv)) (by decide +kernel) rfl trivial ?_
            exact ih (sp.2.1 v3.toNatClampNeg) v2 (v3 + 1) hf
          · refine m_jF M (i := .if_icmp .le 12) 64 (by decide +kernel) rfl (by decide) c_109 ?_
            obtain ⟨h_110, hf⟩ := grd_s hf
            refine m_run M (is := [(55, .aload_n 0, 0), (56, .getfield 40, 0), (59, .iload_n 3, 0), (60, .iaload, 0), (61, .goto 4, 0), (65, .istore_n 2, 0), (66, .iinc 3 1, 1), (69, .goto (-53), 0)]) (pc' := 16) (L' := [some (.ref 0), some (.int (sp.2.1 v3.toNatClampNeg)), some (.int (sp.2.1 v3.toNatClampNeg)), some (.int (v3 + 1))]) (st' := []) (w' := (cM 0 sp tk sv mf mo mn ma kv tv)) (by decide +kernel) rfl ⟨inB_use h_110, trivial⟩ ?_
            exact ih (sp.2.1 v3.toNatClampNeg) (sp.2.1 v3.toNatClampNeg) (v3 + 1) hf
  rw [f_X4_spreadNow] at hf
  obtain ⟨h_1001, hf⟩ := grd_s hf
  obtain ⟨h_1002, hf⟩ := grd_s hf
  refine m_run M (is := [(0, .aload_n 0, 0), (1, .getfield 40, 0), (4, .iconst 0, 0), (5, .iaload, 0), (6, .istore_n 1, 0), (7, .aload_n 0, 0), (8, .getfield 40, 0), (11, .iconst 0, 0), (12, .iaload, 0), (13, .istore_n 2, 0), (14, .iconst 1, 1), (15, .istore_n 3, 0)]) (pc' := 16) (L' := [some (.ref 0), some (.int (sp.2.1 (0 : Int32).toNatClampNeg)), some (.int (sp.2.1 (0 : Int32).toNatClampNeg)), some (.int 1)]) (st' := []) (w' := (cM 0 sp tk sv mf mo mn ma kv tv)) (by decide +kernel) rfl ⟨inB_use h_1001, inB_use h_1002, trivial⟩ ?_
  exact loop_0 fuel0 (sp.2.1 (0 : Int32).toNatClampNeg) (sp.2.1 (0 : Int32).toNatClampNeg) 1 hf

def f_X4_noSlate (a0 : Int32) (a1 : Int32) (sp : ShT) (sv : SvT) (mf : AI) : Option (Int32 × AI) :=
  (f_X4_in ((a0).toInt64) 0 7).bind fun r1001 =>
  if r1001 = 0 then
    (f_X4_refuse (-2) mf).bind fun r1003 =>
    some (r1003.1, r1003.2)
  else
    (f_X4_in ((a1).toInt64) 0 40).bind fun r1004 =>
    if r1004 = 0 then
      (f_X4_refuse (-2) mf).bind fun r1006 =>
      some (r1006.1, r1006.2)
    else
      (f_X4_noRow a0 sv mf).bind fun r1007 =>
      if r1007.1 = 0 then
        if inB a0 8 then
        if a1 ≤ (sv.2.2.1 a0.toNatClampNeg) then
          (f_X4_goesOn sp).bind fun r1011 =>
          if r1011 = 0 then
            (f_X4_refuse (-5) r1007.2).bind fun r1013 =>
            some (r1013.1, r1013.2)
          else
            some (0, r1007.2)
        else
          (f_X4_refuse (-2) r1007.2).bind fun r1014 =>
          some (r1014.1, r1014.2)
        else none
      else
        some (r1007.1, r1007.2)
set_option maxRecDepth 100000 in
set_option maxHeartbeats 4000000 in
theorem run_X4_noSlate {l : Launch} {D : va_G} {cT : Nat → ClassId} (a0 : Int32) (a1 : Int32)   (sp : ShT) (tk : TkT) (sv : SvT) (mf : AI) (mo : AI) (mn : AI) (ma : AI) (kv : Value) (tv : Value) {r : Int32 × AI} (hf : f_X4_noSlate a0 a1 sp sv mf = some r) : Runs l D cT yX4_noSlate cX4_noSlate 4 (some .int) 2 46 [.ref 0, .int a0, .int a1] (cM 0 sp tk sv mf mo mn ma kv tv) (EQ (some (.int r.1)) (cM 0 sp tk sv r.2 mo mn ma kv tv)) := by
  refine runs_of O_X4 okO_X4 (by decide +kernel) rfl rfl (Nat.le_of_ble_eq_true rfl) (Nat.le_of_ble_eq_true rfl) (fun g K => ?_)
  have M := K.b
  show g 0 0 (cM 0 sp tk sv mf mo mn ma kv tv) 0 [some (.ref 0), some (.int a0), some (.int a1), none] []
  rw [f_X4_noSlate] at hf
  refine m_run M (is := [(0, .iload_n 1, 0), (1, .i2l, 0), (2, .lconst 0, 0), (3, .ldc2_w 79, 0)]) (pc' := 6) (L' := [some (.ref 0), some (.int a0), some (.int a1), none]) (st' := [.long 7, .long 0, .long ((a0).toInt64)]) (w' := (cM 0 sp tk sv mf mo mn ma kv tv)) (by decide +kernel) rfl trivial ?_
  obtain ⟨r1001, h_1001, hf⟩ := bnd_s hf
  refine m_cS0 M (rest := []) (w2 := (cM 0 sp tk sv mf mo mn ma kv tv)) (st2 := [.int r1001]) (run_X4_in ((a0).toInt64) 0 7    h_1001) cs_X4_in lk_X4_72 (by decide +kernel) [] (by decide) ⟨Nat.le_of_ble_eq_true rfl, Nat.le_of_ble_eq_true rfl⟩ rfl rfl (Nat.le_of_ble_eq_true rfl) ⟨by decide, by decide⟩ rfl rfl ⟨Nat.zero_le _, Nat.zero_le _⟩ rfl rfl ?_
  rcases ite_s hf with ⟨c_1002, hf⟩ | ⟨c_1002, hf⟩
  · refine m_jT M (i := .ifCond .eq 15) 24 (by decide +kernel) rfl (by decide) c_1002 ?_
    refine m_run M (is := [(24, .aload_n 0, 0), (25, .bipush (-2), -2)]) (pc' := 27) (L' := [some (.ref 0), some (.int a0), some (.int a1), none]) (st' := [.int (-2), .ref 0]) (w' := (cM 0 sp tk sv mf mo mn ma kv tv)) (by decide +kernel) rfl trivial ?_
    obtain ⟨r1003, h_1003, hf⟩ := bnd_s hf
    refine m_cV0 M (rest := []) (w2 := (cM 0 sp tk sv r1003.2 mo mn ma kv tv)) (st2 := [.int r1003.1]) (run_X4_refuse (-2)   sp tk sv mf mo mn ma kv tv h_1003) cv_X4_refuse lk_X4_85 (by decide +kernel) (List.range 26) List.nodup_range ⟨(by rw [List.length_range]; exact Nat.le_refl _), Nat.le_of_ble_eq_true rfl⟩ (hwId rfl) rfl rfl (Nat.le_of_ble_eq_true rfl) ⟨by decide, by decide⟩ rfl rfl ⟨Nat.zero_le _, Nat.zero_le _⟩ (hpId rfl rfl) rfl ?_
    obtain rfl := Option.some.inj hf
    exact m_iret K (by decide +kernel) (Nat.zero_le _) (Nat.zero_le _) ⟨rfl, rfl⟩
  · refine m_jF M (i := .ifCond .eq 15) 24 (by decide +kernel) rfl (by decide) c_1002 ?_
    refine m_run M (is := [(12, .iload_n 2, 0), (13, .i2l, 0), (14, .lconst 0, 0), (15, .ldc2_w 83, 0)]) (pc' := 18) (L' := [some (.ref 0), some (.int a0), some (.int a1), none]) (st' := [.long 40, .long 0, .long ((a1).toInt64)]) (w' := (cM 0 sp tk sv mf mo mn ma kv tv)) (by decide +kernel) rfl trivial ?_
    obtain ⟨r1004, h_1004, hf⟩ := bnd_s hf
    refine m_cS0 M (rest := []) (w2 := (cM 0 sp tk sv mf mo mn ma kv tv)) (st2 := [.int r1004]) (run_X4_in ((a1).toInt64) 0 40    h_1004) cs_X4_in lk_X4_72 (by decide +kernel) [] (by decide) ⟨Nat.le_of_ble_eq_true rfl, Nat.le_of_ble_eq_true rfl⟩ rfl rfl (Nat.le_of_ble_eq_true rfl) ⟨by decide, by decide⟩ rfl rfl ⟨Nat.zero_le _, Nat.zero_le _⟩ rfl rfl ?_
    rcases ite_s hf with ⟨c_1005, hf⟩ | ⟨c_1005, hf⟩
    · refine m_jF M (i := .ifCond .ne 10) 31 (by decide +kernel) rfl (by decide) (fun n => n c_1005) ?_
      refine m_run M (is := [(24, .aload_n 0, 0), (25, .bipush (-2), -2)]) (pc' := 27) (L' := [some (.ref 0), some (.int a0), some (.int a1), none]) (st' := [.int (-2), .ref 0]) (w' := (cM 0 sp tk sv mf mo mn ma kv tv)) (by decide +kernel) rfl trivial ?_
      obtain ⟨r1006, h_1006, hf⟩ := bnd_s hf
      refine m_cV0 M (rest := []) (w2 := (cM 0 sp tk sv r1006.2 mo mn ma kv tv)) (st2 := [.int r1006.1]) (run_X4_refuse (-2)   sp tk sv mf mo mn ma kv tv h_1006) cv_X4_refuse lk_X4_85 (by decide +kernel) (List.range 26) List.nodup_range ⟨(by rw [List.length_range]; exact Nat.le_refl _), Nat.le_of_ble_eq_true rfl⟩ (hwId rfl) rfl rfl (Nat.le_of_ble_eq_true rfl) ⟨by decide, by decide⟩ rfl rfl ⟨Nat.zero_le _, Nat.zero_le _⟩ (hpId rfl rfl) rfl ?_
      obtain rfl := Option.some.inj hf
      exact m_iret K (by decide +kernel) (Nat.zero_le _) (Nat.zero_le _) ⟨rfl, rfl⟩
    · refine m_jT M (i := .ifCond .ne 10) 31 (by decide +kernel) rfl (by decide) c_1005 ?_
      refine m_run M (is := [(31, .aload_n 0, 0), (32, .iload_n 1, 0)]) (pc' := 33) (L' := [some (.ref 0), some (.int a0), some (.int a1), none]) (st' := [.int a0, .ref 0]) (w' := (cM 0 sp tk sv mf mo mn ma kv tv)) (by decide +kernel) rfl trivial ?_
      obtain ⟨r1007, h_1007, hf⟩ := bnd_s hf
      refine m_cV0 M (rest := []) (w2 := (cM 0 sp tk sv r1007.2 mo mn ma kv tv)) (st2 := [.int r1007.1]) (run_X4_noRow a0   sp tk sv mf mo mn ma kv tv h_1007) cv_X4_noRow lk_X4_89 (by decide +kernel) (List.range 26) List.nodup_range ⟨(by rw [List.length_range]; exact Nat.le_refl _), Nat.le_of_ble_eq_true rfl⟩ (hwId rfl) rfl rfl (Nat.le_of_ble_eq_true rfl) ⟨by decide, by decide⟩ rfl rfl ⟨Nat.zero_le _, Nat.zero_le _⟩ (hpId rfl rfl) rfl ?_
      refine m_run M (is := [(36, .istore_n 3, 0), (37, .iload_n 3, 0)]) (pc' := 38) (L' := [some (.ref 0), some (.int a0), some (.int a1), some (.int r1007.1)]) (st' := [.int r1007.1]) (w' := (cM 0 sp tk sv r1007.2 mo mn ma kv tv)) (by decide +kernel) rfl trivial ?_
      rcases ite_s hf with ⟨c_1008, hf⟩ | ⟨c_1008, hf⟩
      · refine m_jT M (i := .ifCond .eq 5) 43 (by decide +kernel) rfl (by decide) c_1008 ?_
        obtain ⟨h_1009, hf⟩ := grd_s hf
        refine m_run M (is := [(43, .aload_n 0, 0), (44, .getfield 16, 0), (47, .iload_n 1, 0), (48, .iaload, 0), (49, .iload_n 2, 0)]) (pc' := 50) (L' := [some (.ref 0), some (.int a0), some (.int a1), some (.int r1007.1)]) (st' := [.int a1, .int (sv.2.2.1 a0.toNatClampNeg)]) (w' := (cM 0 sp tk sv r1007.2 mo mn ma kv tv)) (by decide +kernel) rfl ⟨inB_use h_1009, trivial⟩ ?_
        rcases ite_s hf with ⟨c_1010, hf⟩ | ⟨c_1010, hf⟩
        · refine m_jT M (i := .if_icmp .ge 10) 60 (by decide +kernel) rfl (by decide) c_1010 ?_
          refine m_run M (is := [(60, .aload_n 0, 0)]) (pc' := 61) (L' := [some (.ref 0), some (.int a0), some (.int a1), some (.int r1007.1)]) (st' := [.ref 0]) (w' := (cM 0 sp tk sv r1007.2 mo mn ma kv tv)) (by decide +kernel) rfl trivial ?_
          obtain ⟨r1011, h_1011, hf⟩ := bnd_s hf
          refine m_cV0 M (rest := []) (w2 := (cM 0 sp tk sv r1007.2 mo mn ma kv tv)) (st2 := [.int r1011]) (run_X4_goesOn    sp tk sv r1007.2 mo mn ma kv tv h_1011) cv_X4_goesOn lk_X4_184 (by decide +kernel) (List.range 26) List.nodup_range ⟨(by rw [List.length_range]; exact Nat.le_refl _), Nat.le_of_ble_eq_true rfl⟩ (hwId rfl) rfl rfl (Nat.le_of_ble_eq_true rfl) ⟨by decide, by decide⟩ rfl rfl ⟨Nat.zero_le _, Nat.zero_le _⟩ (hpId rfl rfl) rfl ?_
          rcases ite_s hf with ⟨c_1012, hf⟩ | ⟨c_1012, hf⟩
          · refine m_jT M (i := .ifCond .eq 7) 71 (by decide +kernel) rfl (by decide) c_1012 ?_
            refine m_run M (is := [(71, .aload_n 0, 0), (72, .bipush (-5), -5)]) (pc' := 74) (L' := [some (.ref 0), some (.int a0), some (.int a1), some (.int r1007.1)]) (st' := [.int (-5), .ref 0]) (w' := (cM 0 sp tk sv r1007.2 mo mn ma kv tv)) (by decide +kernel) rfl trivial ?_
            obtain ⟨r1013, h_1013, hf⟩ := bnd_s hf
            refine m_cV0 M (rest := []) (w2 := (cM 0 sp tk sv r1013.2 mo mn ma kv tv)) (st2 := [.int r1013.1]) (run_X4_refuse (-5)   sp tk sv r1007.2 mo mn ma kv tv h_1013) cv_X4_refuse lk_X4_85 (by decide +kernel) (List.range 26) List.nodup_range ⟨(by rw [List.length_range]; exact Nat.le_refl _), Nat.le_of_ble_eq_true rfl⟩ (hwId rfl) rfl rfl (Nat.le_of_ble_eq_true rfl) ⟨by decide, by decide⟩ rfl rfl ⟨Nat.zero_le _, Nat.zero_le _⟩ (hpId rfl rfl) rfl ?_
            obtain rfl := Option.some.inj hf
            exact m_iret K (by decide +kernel) (Nat.zero_le _) (Nat.zero_le _) ⟨rfl, rfl⟩
          · refine m_jF M (i := .ifCond .eq 7) 71 (by decide +kernel) rfl (by decide) c_1012 ?_
            refine m_run M (is := [(67, .iconst 0, 0), (68, .goto 9, 0)]) (pc' := 77) (L' := [some (.ref 0), some (.int a0), some (.int a1), some (.int r1007.1)]) (st' := [.int 0]) (w' := (cM 0 sp tk sv r1007.2 mo mn ma kv tv)) (by decide +kernel) rfl trivial ?_
            obtain rfl := Option.some.inj hf
            exact m_iret K (by decide +kernel) (Nat.zero_le _) (Nat.zero_le _) ⟨rfl, rfl⟩
        · refine m_jF M (i := .if_icmp .ge 10) 60 (by decide +kernel) rfl (by decide) c_1010 ?_
          refine m_run M (is := [(53, .aload_n 0, 0), (54, .bipush (-2), -2)]) (pc' := 56) (L' := [some (.ref 0), some (.int a0), some (.int a1), some (.int r1007.1)]) (st' := [.int (-2), .ref 0]) (w' := (cM 0 sp tk sv r1007.2 mo mn ma kv tv)) (by decide +kernel) rfl trivial ?_
          obtain ⟨r1014, h_1014, hf⟩ := bnd_s hf
          refine m_cV0 M (rest := []) (w2 := (cM 0 sp tk sv r1014.2 mo mn ma kv tv)) (st2 := [.int r1014.1]) (run_X4_refuse (-2)   sp tk sv r1007.2 mo mn ma kv tv h_1014) cv_X4_refuse lk_X4_85 (by decide +kernel) (List.range 26) List.nodup_range ⟨(by rw [List.length_range]; exact Nat.le_refl _), Nat.le_of_ble_eq_true rfl⟩ (hwId rfl) rfl rfl (Nat.le_of_ble_eq_true rfl) ⟨by decide, by decide⟩ rfl rfl ⟨Nat.zero_le _, Nat.zero_le _⟩ (hpId rfl rfl) rfl ?_
          obtain rfl := Option.some.inj hf
          exact m_iret K (by decide +kernel) (Nat.zero_le _) (Nat.zero_le _) ⟨rfl, rfl⟩
      · refine m_jF M (i := .ifCond .eq 5) 43 (by decide +kernel) rfl (by decide) c_1008 ?_
        refine m_run M (is := [(41, .iload_n 3, 0)]) (pc' := 42) (L' := [some (.ref 0), some (.int a0), some (.int a1), some (.int r1007.1)]) (st' := [.int r1007.1]) (w' := (cM 0 sp tk sv r1007.2 mo mn ma kv tv)) (by decide +kernel) rfl trivial ?_
        obtain rfl := Option.some.inj hf
        exact m_iret K (by decide +kernel) (Nat.zero_le _) (Nat.zero_le _) ⟨rfl, rfl⟩

def f_X4_again_L0 (v1 : Int32) (v2 : Int32) : Nat → Int32 → AI → Option (Int32 × AI)
  | 0, _, _ => none
  | n_ + 1, v3, mf =>
    (f_X4_stayOf v1 v2 v3).bind fun r101 =>
    if v1 ≤ r101 then
      some (v3, mf)
    else
      f_X4_again_L0 v1 v2 n_ (v3 + 1) mf
def f_X4_again (a0 : Int32) (a1 : Int32) (mf : AI) : Option (Int32 × AI) :=
  (f_X4_in ((a0).toInt64) 2 52).bind fun r1001 =>
  if r1001 = 0 then
    (f_X4_refuse (-2) mf).bind fun r1003 =>
    some (r1003.1, r1003.2)
  else
    f_X4_again_L0 a0 a1 fuel0 1 mf
set_option maxRecDepth 100000 in
set_option maxHeartbeats 4000000 in
theorem run_X4_again {l : Launch} {D : va_G} {cT : Nat → ClassId} (a0 : Int32) (a1 : Int32)   (sp : ShT) (tk : TkT) (sv : SvT) (mf : AI) (mo : AI) (mn : AI) (ma : AI) (kv : Value) (tv : Value) {r : Int32 × AI} (hf : f_X4_again a0 a1 mf = some r) : Runs l D cT yX4_again cX4_again 4 (some .int) 3 73 [.ref 0, .int a0, .int a1] (cM 0 sp tk sv mf mo mn ma kv tv) (EQ (some (.int r.1)) (cM 0 sp tk sv r.2 mo mn ma kv tv)) := by
  refine runs_of O_X4 okO_X4 (by decide +kernel) rfl rfl (Nat.le_of_ble_eq_true rfl) (Nat.le_of_ble_eq_true rfl) (fun g K => ?_)
  have M := K.b
  show g 0 0 (cM 0 sp tk sv mf mo mn ma kv tv) 0 [some (.ref 0), some (.int a0), some (.int a1), none] []
  have loop_0 : ∀ (v1 : Int32) (v2 : Int32) (n_ : Nat), (∀ (v3 : Int32) (mf : AI), f_X4_again_L0 v1 v2 n_ v3 mf = some r → g 0 0 (cM 0 sp tk sv mf mo mn ma kv tv) 23 [none, some (.int v1), some (.int v2), some (.int v3)] []) := by
    intro v1 v2 n_
    induction n_ with
    | zero => intro v3 mf hf; cases hf
    | succ n_ ih =>
      intro v3 mf hf
      rw [f_X4_again_L0] at hf
      refine m_run M (is := [(23, .iload_n 1, 0), (24, .iload_n 2, 0), (25, .iload_n 3, 0)]) (pc' := 26) (L' := [none, some (.int v1), some (.int v2), some (.int v3)]) (st' := [.int v3, .int v2, .int v1]) (w' := (cM 0 sp tk sv mf mo mn ma kv tv)) (by decide +kernel) rfl trivial ?_
      obtain ⟨r101, h_101, hf⟩ := bnd_s hf
      refine m_cS0 M (rest := []) (w2 := (cM 0 sp tk sv mf mo mn ma kv tv)) (st2 := [.int r101]) (run_X4_stayOf v1 v2 v3    h_101) cs_X4_stayOf lk_X4_308 (by decide +kernel) [] (by decide) ⟨Nat.le_of_ble_eq_true rfl, Nat.le_of_ble_eq_true rfl⟩ rfl rfl (Nat.le_of_ble_eq_true rfl) ⟨by decide, by decide⟩ rfl rfl ⟨Nat.zero_le _, Nat.zero_le _⟩ rfl rfl ?_
      refine m_run M (is := [(29, .iload_n 1, 0)]) (pc' := 30) (L' := [none, some (.int v1), some (.int v2), some (.int v3)]) (st' := [.int v1, .int r101]) (w' := (cM 0 sp tk sv mf mo mn ma kv tv)) (by decide +kernel) rfl trivial ?_
      rcases ite_s hf with ⟨c_102, hf⟩ | ⟨c_102, hf⟩
      · refine m_jT M (i := .if_icmp .ge 9) 39 (by decide +kernel) rfl (by decide) c_102 ?_
        refine m_run M (is := [(39, .iload_n 3, 0)]) (pc' := 40) (L' := [none, some (.int v1), some (.int v2), some (.int v3)]) (st' := [.int v3]) (w' := (cM 0 sp tk sv mf mo mn ma kv tv)) (by decide +kernel) rfl trivial ?_
        obtain rfl := Option.some.inj hf
        exact m_iret K (by decide +kernel) (Nat.zero_le _) (Nat.zero_le _) ⟨rfl, rfl⟩
      · refine m_jF M (i := .if_icmp .ge 9) 39 (by decide +kernel) rfl (by decide) c_102 ?_
        refine m_run M (is := [(33, .iinc 3 1, 1), (36, .goto (-13), 0)]) (pc' := 23) (L' := [none, some (.int v1), some (.int v2), some (.int (v3 + 1))]) (st' := []) (w' := (cM 0 sp tk sv mf mo mn ma kv tv)) (by decide +kernel) rfl trivial ?_
        exact ih (v3 + 1) mf hf
  rw [f_X4_again] at hf
  refine m_run M (is := [(0, .iload_n 1, 0), (1, .i2l, 0), (2, .ldc2_w 241, 0), (5, .ldc2_w 306, 0)]) (pc' := 8) (L' := [some (.ref 0), some (.int a0), some (.int a1), none]) (st' := [.long 52, .long 2, .long ((a0).toInt64)]) (w' := (cM 0 sp tk sv mf mo mn ma kv tv)) (by decide +kernel) rfl trivial ?_
  obtain ⟨r1001, h_1001, hf⟩ := bnd_s hf
  refine m_cS0 M (rest := []) (w2 := (cM 0 sp tk sv mf mo mn ma kv tv)) (st2 := [.int r1001]) (run_X4_in ((a0).toInt64) 2 52    h_1001) cs_X4_in lk_X4_72 (by decide +kernel) [] (by decide) ⟨Nat.le_of_ble_eq_true rfl, Nat.le_of_ble_eq_true rfl⟩ rfl rfl (Nat.le_of_ble_eq_true rfl) ⟨by decide, by decide⟩ rfl rfl ⟨Nat.zero_le _, Nat.zero_le _⟩ rfl rfl ?_
  rcases ite_s hf with ⟨c_1002, hf⟩ | ⟨c_1002, hf⟩
  · refine m_jF M (i := .ifCond .ne 10) 21 (by decide +kernel) rfl (by decide) (fun n => n c_1002) ?_
    refine m_run M (is := [(14, .aload_n 0, 0), (15, .bipush (-2), -2)]) (pc' := 17) (L' := [some (.ref 0), some (.int a0), some (.int a1), none]) (st' := [.int (-2), .ref 0]) (w' := (cM 0 sp tk sv mf mo mn ma kv tv)) (by decide +kernel) rfl trivial ?_
    obtain ⟨r1003, h_1003, hf⟩ := bnd_s hf
    refine m_cV0 M (rest := []) (w2 := (cM 0 sp tk sv r1003.2 mo mn ma kv tv)) (st2 := [.int r1003.1]) (run_X4_refuse (-2)   sp tk sv mf mo mn ma kv tv h_1003) cv_X4_refuse lk_X4_85 (by decide +kernel) (List.range 26) List.nodup_range ⟨(by rw [List.length_range]; exact Nat.le_refl _), Nat.le_of_ble_eq_true rfl⟩ (hwId rfl) rfl rfl (Nat.le_of_ble_eq_true rfl) ⟨by decide, by decide⟩ rfl rfl ⟨Nat.zero_le _, Nat.zero_le _⟩ (hpId rfl rfl) rfl ?_
    obtain rfl := Option.some.inj hf
    exact m_iret K (by decide +kernel) (Nat.zero_le _) (Nat.zero_le _) ⟨rfl, rfl⟩
  · refine m_jT M (i := .ifCond .ne 10) 21 (by decide +kernel) rfl (by decide) c_1002 ?_
    refine m_run M (is := [(21, .iconst 1, 1), (22, .istore_n 3, 0)]) (pc' := 23) (L' := [some (.ref 0), some (.int a0), some (.int a1), some (.int 1)]) (st' := []) (w' := (cM 0 sp tk sv mf mo mn ma kv tv)) (by decide +kernel) rfl trivial ?_
    refine m_wk M [none, some (.int a0), some (.int a1), some (.int 1)] ⟨Or.inl rfl, Or.inr rfl, Or.inr rfl, Or.inr rfl, trivial⟩ ?_
    exact loop_0 a0 a1 fuel0 1 mf hf

def f_X4_lies (a0 : Int32) (a1 : Int32) (a2 : Int32) (a3 : Int32) (mf : AI) : Option (Int32 × AI) :=
  (f_X4_in ((a0).toInt64) 2 52).bind fun r1001 =>
  if r1001 = 0 then
    (f_X4_refuse (-2) mf).bind fun r1003 =>
    some (r1003.1, r1003.2)
  else
    (f_X4_in ((a2).toInt64) 0 (((a0 - 1)).toInt64)).bind fun r1004 =>
    if r1004 = 0 then
      (f_X4_refuse (-2) mf).bind fun r1006 =>
      some (r1006.1, r1006.2)
    else
      (f_X4_mayTurns a3).bind fun r1007 =>
      if r1007 = 0 then
        (f_X4_refuse (-2) mf).bind fun r1009 =>
        some (r1009.1, r1009.2)
      else
        (f_X4_liesAt a0 a1 a2 a3).bind fun r1010 =>
        some (r1010, mf)
set_option maxRecDepth 100000 in
set_option maxHeartbeats 4000000 in
theorem run_X4_lies {l : Launch} {D : va_G} {cT : Nat → ClassId} (a0 : Int32) (a1 : Int32) (a2 : Int32) (a3 : Int32)   (sp : ShT) (tk : TkT) (sv : SvT) (mf : AI) (mo : AI) (mn : AI) (ma : AI) (kv : Value) (tv : Value) {r : Int32 × AI} (hf : f_X4_lies a0 a1 a2 a3 mf = some r) : Runs l D cT yX4_lies cX4_lies 5 (some .int) 2 49 [.ref 0, .int a0, .int a1, .int a2, .int a3] (cM 0 sp tk sv mf mo mn ma kv tv) (EQ (some (.int r.1)) (cM 0 sp tk sv r.2 mo mn ma kv tv)) := by
  refine runs_of O_X4 okO_X4 (by decide +kernel) rfl rfl (Nat.le_of_ble_eq_true rfl) (Nat.le_of_ble_eq_true rfl) (fun g K => ?_)
  have M := K.b
  show g 0 0 (cM 0 sp tk sv mf mo mn ma kv tv) 0 [some (.ref 0), some (.int a0), some (.int a1), some (.int a2), some (.int a3)] []
  rw [f_X4_lies] at hf
  refine m_run M (is := [(0, .iload_n 1, 0), (1, .i2l, 0), (2, .ldc2_w 241, 0), (5, .ldc2_w 306, 0)]) (pc' := 8) (L' := [some (.ref 0), some (.int a0), some (.int a1), some (.int a2), some (.int a3)]) (st' := [.long 52, .long 2, .long ((a0).toInt64)]) (w' := (cM 0 sp tk sv mf mo mn ma kv tv)) (by decide +kernel) rfl trivial ?_
  obtain ⟨r1001, h_1001, hf⟩ := bnd_s hf
  refine m_cS0 M (rest := []) (w2 := (cM 0 sp tk sv mf mo mn ma kv tv)) (st2 := [.int r1001]) (run_X4_in ((a0).toInt64) 2 52    h_1001) cs_X4_in lk_X4_72 (by decide +kernel) [] (by decide) ⟨Nat.le_of_ble_eq_true rfl, Nat.le_of_ble_eq_true rfl⟩ rfl rfl (Nat.le_of_ble_eq_true rfl) ⟨by decide, by decide⟩ rfl rfl ⟨Nat.zero_le _, Nat.zero_le _⟩ rfl rfl ?_
  rcases ite_s hf with ⟨c_1002, hf⟩ | ⟨c_1002, hf⟩
  · refine m_jT M (i := .ifCond .eq 24) 35 (by decide +kernel) rfl (by decide) c_1002 ?_
    refine m_run M (is := [(35, .aload_n 0, 0), (36, .bipush (-2), -2)]) (pc' := 38) (L' := [some (.ref 0), some (.int a0), some (.int a1), some (.int a2), some (.int a3)]) (st' := [.int (-2), .ref 0]) (w' := (cM 0 sp tk sv mf mo mn ma kv tv)) (by decide +kernel) rfl trivial ?_
    obtain ⟨r1003, h_1003, hf⟩ := bnd_s hf
    refine m_cV0 M (rest := []) (w2 := (cM 0 sp tk sv r1003.2 mo mn ma kv tv)) (st2 := [.int r1003.1]) (run_X4_refuse (-2)   sp tk sv mf mo mn ma kv tv h_1003) cv_X4_refuse lk_X4_85 (by decide +kernel) (List.range 26) List.nodup_range ⟨(by rw [List.length_range]; exact Nat.le_refl _), Nat.le_of_ble_eq_true rfl⟩ (hwId rfl) rfl rfl (Nat.le_of_ble_eq_true rfl) ⟨by decide, by decide⟩ rfl rfl ⟨Nat.zero_le _, Nat.zero_le _⟩ (hpId rfl rfl) rfl ?_
    obtain rfl := Option.some.inj hf
    exact m_iret K (by decide +kernel) (Nat.zero_le _) (Nat.zero_le _) ⟨rfl, rfl⟩
  · refine m_jF M (i := .ifCond .eq 24) 35 (by decide +kernel) rfl (by decide) c_1002 ?_
    refine m_run M (is := [(14, .iload_n 3, 0), (15, .i2l, 0), (16, .lconst 0, 0), (17, .iload_n 1, 0), (18, .iconst 1, 1), (19, .isub, 0), (20, .i2l, 0)]) (pc' := 21) (L' := [some (.ref 0), some (.int a0), some (.int a1), some (.int a2), some (.int a3)]) (st' := [.long (((a0 - 1)).toInt64), .long 0, .long ((a2).toInt64)]) (w' := (cM 0 sp tk sv mf mo mn ma kv tv)) (by decide +kernel) rfl trivial ?_
    obtain ⟨r1004, h_1004, hf⟩ := bnd_s hf
    refine m_cS0 M (rest := []) (w2 := (cM 0 sp tk sv mf mo mn ma kv tv)) (st2 := [.int r1004]) (run_X4_in ((a2).toInt64) 0 (((a0 - 1)).toInt64)    h_1004) cs_X4_in lk_X4_72 (by decide +kernel) [] (by decide) ⟨Nat.le_of_ble_eq_true rfl, Nat.le_of_ble_eq_true rfl⟩ rfl rfl (Nat.le_of_ble_eq_true rfl) ⟨by decide, by decide⟩ rfl rfl ⟨Nat.zero_le _, Nat.zero_le _⟩ rfl rfl ?_
    rcases ite_s hf with ⟨c_1005, hf⟩ | ⟨c_1005, hf⟩
    · refine m_jT M (i := .ifCond .eq 11) 35 (by decide +kernel) rfl (by decide) c_1005 ?_
      refine m_run M (is := [(35, .aload_n 0, 0), (36, .bipush (-2), -2)]) (pc' := 38) (L' := [some (.ref 0), some (.int a0), some (.int a1), some (.int a2), some (.int a3)]) (st' := [.int (-2), .ref 0]) (w' := (cM 0 sp tk sv mf mo mn ma kv tv)) (by decide +kernel) rfl trivial ?_
      obtain ⟨r1006, h_1006, hf⟩ := bnd_s hf
      refine m_cV0 M (rest := []) (w2 := (cM 0 sp tk sv r1006.2 mo mn ma kv tv)) (st2 := [.int r1006.1]) (run_X4_refuse (-2)   sp tk sv mf mo mn ma kv tv h_1006) cv_X4_refuse lk_X4_85 (by decide +kernel) (List.range 26) List.nodup_range ⟨(by rw [List.length_range]; exact Nat.le_refl _), Nat.le_of_ble_eq_true rfl⟩ (hwId rfl) rfl rfl (Nat.le_of_ble_eq_true rfl) ⟨by decide, by decide⟩ rfl rfl ⟨Nat.zero_le _, Nat.zero_le _⟩ (hpId rfl rfl) rfl ?_
      obtain rfl := Option.some.inj hf
      exact m_iret K (by decide +kernel) (Nat.zero_le _) (Nat.zero_le _) ⟨rfl, rfl⟩
    · refine m_jF M (i := .ifCond .eq 11) 35 (by decide +kernel) rfl (by decide) c_1005 ?_
      refine m_run M (is := [(27, .iload 4, 0)]) (pc' := 29) (L' := [some (.ref 0), some (.int a0), some (.int a1), some (.int a2), some (.int a3)]) (st' := [.int a3]) (w' := (cM 0 sp tk sv mf mo mn ma kv tv)) (by decide +kernel) rfl trivial ?_
      obtain ⟨r1007, h_1007, hf⟩ := bnd_s hf
      refine m_cS0 M (rest := []) (w2 := (cM 0 sp tk sv mf mo mn ma kv tv)) (st2 := [.int r1007]) (run_X4_mayTurns a3    h_1007) cs_X4_mayTurns lk_X4_255 (by decide +kernel) [] (by decide) ⟨Nat.le_of_ble_eq_true rfl, Nat.le_of_ble_eq_true rfl⟩ rfl rfl (Nat.le_of_ble_eq_true rfl) ⟨by decide, by decide⟩ rfl rfl ⟨Nat.zero_le _, Nat.zero_le _⟩ rfl rfl ?_
      rcases ite_s hf with ⟨c_1008, hf⟩ | ⟨c_1008, hf⟩
      · refine m_jF M (i := .ifCond .ne 10) 42 (by decide +kernel) rfl (by decide) (fun n => n c_1008) ?_
        refine m_run M (is := [(35, .aload_n 0, 0), (36, .bipush (-2), -2)]) (pc' := 38) (L' := [some (.ref 0), some (.int a0), some (.int a1), some (.int a2), some (.int a3)]) (st' := [.int (-2), .ref 0]) (w' := (cM 0 sp tk sv mf mo mn ma kv tv)) (by decide +kernel) rfl trivial ?_
        obtain ⟨r1009, h_1009, hf⟩ := bnd_s hf
        refine m_cV0 M (rest := []) (w2 := (cM 0 sp tk sv r1009.2 mo mn ma kv tv)) (st2 := [.int r1009.1]) (run_X4_refuse (-2)   sp tk sv mf mo mn ma kv tv h_1009) cv_X4_refuse lk_X4_85 (by decide +kernel) (List.range 26) List.nodup_range ⟨(by rw [List.length_range]; exact Nat.le_refl _), Nat.le_of_ble_eq_true rfl⟩ (hwId rfl) rfl rfl (Nat.le_of_ble_eq_true rfl) ⟨by decide, by decide⟩ rfl rfl ⟨Nat.zero_le _, Nat.zero_le _⟩ (hpId rfl rfl) rfl ?_
        obtain rfl := Option.some.inj hf
        exact m_iret K (by decide +kernel) (Nat.zero_le _) (Nat.zero_le _) ⟨rfl, rfl⟩
      · refine m_jT M (i := .ifCond .ne 10) 42 (by decide +kernel) rfl (by decide) c_1008 ?_
        refine m_run M (is := [(42, .iload_n 1, 0), (43, .iload_n 2, 0), (44, .iload_n 3, 0), (45, .iload 4, 0)]) (pc' := 47) (L' := [some (.ref 0), some (.int a0), some (.int a1), some (.int a2), some (.int a3)]) (st' := [.int a3, .int a2, .int a1, .int a0]) (w' := (cM 0 sp tk sv mf mo mn ma kv tv)) (by decide +kernel) rfl trivial ?_
        obtain ⟨r1010, h_1010, hf⟩ := bnd_s hf
        refine m_cS0 M (rest := []) (w2 := (cM 0 sp tk sv mf mo mn ma kv tv)) (st2 := [.int r1010]) (run_X4_liesAt a0 a1 a2 a3    h_1010) cs_X4_liesAt lk_X4_302 (by decide +kernel) [] (by decide) ⟨Nat.le_of_ble_eq_true rfl, Nat.le_of_ble_eq_true rfl⟩ rfl rfl (Nat.le_of_ble_eq_true rfl) ⟨by decide, by decide⟩ rfl rfl ⟨Nat.zero_le _, Nat.zero_le _⟩ rfl rfl ?_
        obtain rfl := Option.some.inj hf
        exact m_iret K (by decide +kernel) (Nat.zero_le _) (Nat.zero_le _) ⟨rfl, rfl⟩

def f_X4_stay (a0 : Int32) (a1 : Int32) (a2 : Int32) (mf : AI) : Option (Int32 × AI) :=
  (f_X4_in ((a0).toInt64) 2 52).bind fun r1001 =>
  if r1001 = 0 then
    (f_X4_refuse (-2) mf).bind fun r1003 =>
    some (r1003.1, r1003.2)
  else
    (f_X4_mayTurns a2).bind fun r1004 =>
    if r1004 = 0 then
      (f_X4_refuse (-2) mf).bind fun r1006 =>
      some (r1006.1, r1006.2)
    else
      (f_X4_stayOf a0 a1 a2).bind fun r1007 =>
      some (r1007, mf)
set_option maxRecDepth 100000 in
set_option maxHeartbeats 4000000 in
theorem run_X4_stay {l : Launch} {D : va_G} {cT : Nat → ClassId} (a0 : Int32) (a1 : Int32) (a2 : Int32)   (sp : ShT) (tk : TkT) (sv : SvT) (mf : AI) (mo : AI) (mn : AI) (ma : AI) (kv : Value) (tv : Value) {r : Int32 × AI} (hf : f_X4_stay a0 a1 a2 mf = some r) : Runs l D cT yX4_stay cX4_stay 4 (some .int) 3 73 [.ref 0, .int a0, .int a1, .int a2] (cM 0 sp tk sv mf mo mn ma kv tv) (EQ (some (.int r.1)) (cM 0 sp tk sv r.2 mo mn ma kv tv)) := by
  refine runs_of O_X4 okO_X4 (by decide +kernel) rfl rfl (Nat.le_of_ble_eq_true rfl) (Nat.le_of_ble_eq_true rfl) (fun g K => ?_)
  have M := K.b
  show g 0 0 (cM 0 sp tk sv mf mo mn ma kv tv) 0 [some (.ref 0), some (.int a0), some (.int a1), some (.int a2)] []
  rw [f_X4_stay] at hf
  refine m_run M (is := [(0, .iload_n 1, 0), (1, .i2l, 0), (2, .ldc2_w 241, 0), (5, .ldc2_w 306, 0)]) (pc' := 8) (L' := [some (.ref 0), some (.int a0), some (.int a1), some (.int a2)]) (st' := [.long 52, .long 2, .long ((a0).toInt64)]) (w' := (cM 0 sp tk sv mf mo mn ma kv tv)) (by decide +kernel) rfl trivial ?_
  obtain ⟨r1001, h_1001, hf⟩ := bnd_s hf
  refine m_cS0 M (rest := []) (w2 := (cM 0 sp tk sv mf mo mn ma kv tv)) (st2 := [.int r1001]) (run_X4_in ((a0).toInt64) 2 52    h_1001) cs_X4_in lk_X4_72 (by decide +kernel) [] (by decide) ⟨Nat.le_of_ble_eq_true rfl, Nat.le_of_ble_eq_true rfl⟩ rfl rfl (Nat.le_of_ble_eq_true rfl) ⟨by decide, by decide⟩ rfl rfl ⟨Nat.zero_le _, Nat.zero_le _⟩ rfl rfl ?_
  rcases ite_s hf with ⟨c_1002, hf⟩ | ⟨c_1002, hf⟩
  · refine m_jT M (i := .ifCond .eq 19) 30 (by decide +kernel) rfl (by decide) c_1002 ?_
    refine m_run M (is := [(30, .aload_n 0, 0), (31, .bipush (-2), -2)]) (pc' := 33) (L' := [some (.ref 0), some (.int a0), some (.int a1), some (.int a2)]) (st' := [.int (-2), .ref 0]) (w' := (cM 0 sp tk sv mf mo mn ma kv tv)) (by decide +kernel) rfl trivial ?_
    obtain ⟨r1003, h_1003, hf⟩ := bnd_s hf
    refine m_cV0 M (rest := []) (w2 := (cM 0 sp tk sv r1003.2 mo mn ma kv tv)) (st2 := [.int r1003.1]) (run_X4_refuse (-2)   sp tk sv mf mo mn ma kv tv h_1003) cv_X4_refuse lk_X4_85 (by decide +kernel) (List.range 26) List.nodup_range ⟨(by rw [List.length_range]; exact Nat.le_refl _), Nat.le_of_ble_eq_true rfl⟩ (hwId rfl) rfl rfl (Nat.le_of_ble_eq_true rfl) ⟨by decide, by decide⟩ rfl rfl ⟨Nat.zero_le _, Nat.zero_le _⟩ (hpId rfl rfl) rfl ?_
    obtain rfl := Option.some.inj hf
    exact m_iret K (by decide +kernel) (Nat.zero_le _) (Nat.zero_le _) ⟨rfl, rfl⟩
  · refine m_jF M (i := .ifCond .eq 19) 30 (by decide +kernel) rfl (by decide) c_1002 ?_
    refine m_run M (is := [(14, .iload_n 3, 0)]) (pc' := 15) (L' := [some (.ref 0), some (.int a0), some (.int a1), some (.int a2)]) (st' := [.int a2]) (w' := (cM 0 sp tk sv mf mo mn ma kv tv)) (by decide +kernel) rfl trivial ?_
    obtain ⟨r1004, h_1004, hf⟩ := bnd_s hf
    refine m_cS0 M (rest := []) (w2 := (cM 0 sp tk sv mf mo mn ma kv tv)) (st2 := [.int r1004]) (run_X4_mayTurns a2    h_1004) cs_X4_mayTurns lk_X4_255 (by decide +kernel) [] (by decide) ⟨Nat.le_of_ble_eq_true rfl, Nat.le_of_ble_eq_true rfl⟩ rfl rfl (Nat.le_of_ble_eq_true rfl) ⟨by decide, by decide⟩ rfl rfl ⟨Nat.zero_le _, Nat.zero_le _⟩ rfl rfl ?_
    rcases ite_s hf with ⟨c_1005, hf⟩ | ⟨c_1005, hf⟩
    · refine m_jT M (i := .ifCond .eq 12) 30 (by decide +kernel) rfl (by decide) c_1005 ?_
      refine m_run M (is := [(30, .aload_n 0, 0), (31, .bipush (-2), -2)]) (pc' := 33) (L' := [some (.ref 0), some (.int a0), some (.int a1), some (.int a2)]) (st' := [.int (-2), .ref 0]) (w' := (cM 0 sp tk sv mf mo mn ma kv tv)) (by decide +kernel) rfl trivial ?_
      obtain ⟨r1006, h_1006, hf⟩ := bnd_s hf
      refine m_cV0 M (rest := []) (w2 := (cM 0 sp tk sv r1006.2 mo mn ma kv tv)) (st2 := [.int r1006.1]) (run_X4_refuse (-2)   sp tk sv mf mo mn ma kv tv h_1006) cv_X4_refuse lk_X4_85 (by decide +kernel) (List.range 26) List.nodup_range ⟨(by rw [List.length_range]; exact Nat.le_refl _), Nat.le_of_ble_eq_true rfl⟩ (hwId rfl) rfl rfl (Nat.le_of_ble_eq_true rfl) ⟨by decide, by decide⟩ rfl rfl ⟨Nat.zero_le _, Nat.zero_le _⟩ (hpId rfl rfl) rfl ?_
      obtain rfl := Option.some.inj hf
      exact m_iret K (by decide +kernel) (Nat.zero_le _) (Nat.zero_le _) ⟨rfl, rfl⟩
    · refine m_jF M (i := .ifCond .eq 12) 30 (by decide +kernel) rfl (by decide) c_1005 ?_
      refine m_run M (is := [(21, .iload_n 1, 0), (22, .iload_n 2, 0), (23, .iload_n 3, 0)]) (pc' := 24) (L' := [some (.ref 0), some (.int a0), some (.int a1), some (.int a2)]) (st' := [.int a2, .int a1, .int a0]) (w' := (cM 0 sp tk sv mf mo mn ma kv tv)) (by decide +kernel) rfl trivial ?_
      obtain ⟨r1007, h_1007, hf⟩ := bnd_s hf
      refine m_cS0 M (rest := []) (w2 := (cM 0 sp tk sv mf mo mn ma kv tv)) (st2 := [.int r1007]) (run_X4_stayOf a0 a1 a2    h_1007) cs_X4_stayOf lk_X4_308 (by decide +kernel) [] (by decide) ⟨Nat.le_of_ble_eq_true rfl, Nat.le_of_ble_eq_true rfl⟩ rfl rfl (Nat.le_of_ble_eq_true rfl) ⟨by decide, by decide⟩ rfl rfl ⟨Nat.zero_le _, Nat.zero_le _⟩ rfl rfl ?_
      refine m_run M (is := [(27, .goto 9, 0)]) (pc' := 36) (L' := [some (.ref 0), some (.int a0), some (.int a1), some (.int a2)]) (st' := [.int r1007]) (w' := (cM 0 sp tk sv mf mo mn ma kv tv)) (by decide +kernel) rfl trivial ?_
      obtain rfl := Option.some.inj hf
      exact m_iret K (by decide +kernel) (Nat.zero_le _) (Nat.zero_le _) ⟨rfl, rfl⟩

def f_X4_rounds_L1 (v1 : Int32) (v2 : Int32) : Nat → Nat → Int32 → Int32 → Int32 → AI → AI → Option (Int32 × AI × AI)
  | 0, _, _, _, _, _, _ => none
  | n_ + 1, lb_, v3, v4, v5, mf, mn =>
    if lb_ = 0 then
      if v1 ≤ v4 then
        some (v3, mf, mn)
      else
        if inB v4 52 then
        if (mn v4.toNatClampNeg) = 0 then
          f_X4_rounds_L1 v1 v2 n_ 1 (v3 + 1) v4 v4 mf mn
        else
          f_X4_rounds_L1 v1 v2 n_ 1 (v3 + 0) v4 v4 mf mn
        else none
    else
      if inB v5 52 then
      if (mn v5.toNatClampNeg) = 0 then
        if inB v5 52 then
        (f_X4_comesTo v1 v2 v5).bind fun r224 =>
        f_X4_rounds_L1 v1 v2 n_ 1 v3 v4 r224 mf (upd mn v5.toNatClampNeg (vp_nar .boolean 1))
        else none
      else
        f_X4_rounds_L1 v1 v2 n_ 0 v3 (v4 + 1) 0 mf mn
      else none
def f_X4_rounds_L0 (v1 : Int32) (v2 : Int32) : Nat → Int32 → AI → AI → Option (Int32 × AI × AI)
  | 0, _, _, _ => none
  | n_ + 1, v3, mf, mn =>
    if v1 ≤ v3 then
      f_X4_rounds_L1 v1 v2 fuel0 0 0 0 0 mf mn
    else
      if inB v3 52 then
      f_X4_rounds_L0 v1 v2 n_ (v3 + 1) mf (upd mn v3.toNatClampNeg (vp_nar .boolean 0))
      else none
def f_X4_rounds (a0 : Int32) (a1 : Int32) (mf : AI) (mn : AI) : Option (Int32 × AI × AI) :=
  (f_X4_in ((a0).toInt64) 2 52).bind fun r1001 =>
  if r1001 = 0 then
    (f_X4_refuse (-2) mf).bind fun r1003 =>
    some (r1003.1, r1003.2, mn)
  else
    f_X4_rounds_L0 a0 a1 fuel0 0 mf mn
set_option maxRecDepth 100000 in
set_option maxHeartbeats 4000000 in
theorem run_X4_rounds {l : Launch} {D : va_G} {cT : Nat → ClassId} (a0 : Int32) (a1 : Int32)   (sp : ShT) (tk : TkT) (sv : SvT) (mf : AI) (mo : AI) (mn : AI) (ma : AI) (kv : Value) (tv : Value) {r : Int32 × AI × AI} (hf : f_X4_rounds a0 a1 mf mn = some r) : Runs l D cT yX4_rounds cX4_rounds 6 (some .int) 1 25 [.ref 0, .int a0, .int a1] (cM 0 sp tk sv mf mo mn ma kv tv) (EQ (some (.int r.1)) (cM 0 sp tk sv r.2.1 mo r.2.2 ma kv tv)) := by
  refine runs_of O_X4 okO_X4 (by decide +kernel) rfl rfl (Nat.le_of_ble_eq_true rfl) (Nat.le_of_ble_eq_true rfl) (fun g K => ?_)
  have M := K.b
  show g 0 0 (cM 0 sp tk sv mf mo mn ma kv tv) 0 [some (.ref 0), some (.int a0), some (.int a1), none, none, none] []
  have loop_1 : ∀ (v1 : Int32) (v2 : Int32) (n_ : Nat), (∀ (v3 : Int32) (v4 : Int32) (v5 : Int32) (mf : AI) (mn : AI), f_X4_rounds_L1 v1 v2 n_ 0 v3 v4 v5 mf mn = some r → g 0 0 (cM 0 sp tk sv mf mo mn ma kv tv) 46 [some (.ref 0), some (.int v1), some (.int v2), some (.int v3), some (.int v4), none] []) ∧ (∀ (v3 : Int32) (v4 : Int32) (v5 : Int32) (mf : AI) (mn : AI), f_X4_rounds_L1 v1 v2 n_ 1 v3 v4 v5 mf mn = some r → g 0 0 (cM 0 sp tk sv mf mo mn ma kv tv) 74 [some (.ref 0), some (.int v1), some (.int v2), some (.int v3), some (.int v4), some (.int v5)] []) := by
    intro v1 v2 n_
    induction n_ with
    | zero => exact ⟨fun v3 v4 v5 mf mn hf => (by cases hf), fun v3 v4 v5 mf mn hf => (by cases hf)⟩
    | succ n_ ih =>
      refine ⟨?_, ?_⟩
      · intro v3 v4 v5 mf mn hf
        rw [f_X4_rounds_L1] at hf
        rw [if_pos rfl] at hf
        refine m_run M (is := [(46, .iload 4, 0), (48, .iload_n 1, 0)]) (pc' := 49) (L' := [some (.ref 0), some (.int v1), some (.int v2), some (.int v3), some (.int v4), none]) (st' := [.int v1, .int v4]) (w' := (cM 0 sp tk sv mf mo mn ma kv tv)) (by decide +kernel) rfl trivial ?_
        rcases ite_s hf with ⟨c_201, hf⟩ | ⟨c_201, hf⟩
        · refine m_jT M (i := .if_icmp .ge 61) 110 (by decide +kernel) rfl (by decide) c_201 ?_
          refine m_run M (is := [(110, .iload_n 3, 0)]) (pc' := 111) (L' := [some (.ref 0), some (.int v1), some (.int v2), some (.int v3), some (.int v4), none]) (st' := [.int v3]) (w' := (cM 0 sp tk sv mf mo mn ma kv tv)) (by decide +kernel) rfl trivial ?_
          obtain rfl := Option.some.inj hf
          exact m_iret K (by decide +kernel) (Nat.zero_le _) (Nat.zero_le _) ⟨rfl, rfl⟩
        · refine m_jF M (i := .if_icmp .ge 61) 110 (by decide +kernel) rfl (by decide) c_201 ?_
          obtain ⟨h_202, hf⟩ := grd_s hf
          refine m_run M (is := [(52, .iload_n 3, 0), (53, .aload_n 0, 0), (54, .getfield 62, 0), (57, .iload 4, 0), (59, .baload, 0)]) (pc' := 60) (L' := [some (.ref 0), some (.int v1), some (.int v2), some (.int v3), some (.int v4), none]) (st' := [.int (mn v4.toNatClampNeg), .int v3]) (w' := (cM 0 sp tk sv mf mo mn ma kv tv)) (by decide +kernel) rfl ⟨inB_use h_202, trivial⟩ ?_
          rcases ite_s hf with ⟨c_203, hf⟩ | ⟨c_203, hf⟩
          · refine m_jT M (i := .ifCond .eq 7) 67 (by decide +kernel) rfl (by decide) c_203 ?_
            refine m_run M (is := [(67, .iconst 1, 1), (68, .iadd, 0), (69, .istore_n 3, 0), (70, .iload 4, 0), (72, .istore 5, 0)]) (pc' := 74) (L' := [some (.ref 0), some (.int v1), some (.int v2), some (.int (v3 + 1)), some (.int v4), some (.int v4)]) (st' := []) (w' := (cM 0 sp tk sv mf mo mn ma kv tv)) (by decide +kernel) rfl trivial ?_
            exact (ih).2 (v3 + 1) v4 v4 mf mn hf
          · refine m_jF M (i := .ifCond .eq 7) 67 (by decide +kernel) rfl (by decide) c_203 ?_
            refine m_run M (is := [(63, .iconst 0, 0), (64, .goto 4, 0), (68, .iadd, 0), (69, .istore_n 3, 0), (70, .iload 4, 0), (72, .istore 5, 0)]) (pc' := 74) (L' := [some (.ref 0), some (.int v1), some (.int v2), some (.int (v3 + 0)), some (.int v4), some (.int v4)]) (st' := []) (w' := (cM 0 sp tk sv mf mo mn ma kv tv)) (by decide +kernel) rfl trivial ?_
            exact (ih).2 (v3 + 0) v4 v4 mf mn hf
      · intro v3 v4 v5 mf mn hf
        rw [f_X4_rounds_L1] at hf
        rw [if_neg (by decide)] at hf
        obtain ⟨h_221, hf⟩ := grd_s hf
        refine m_run M (is := [(74, .aload_n 0, 0), (75, .getfield 62, 0), (78, .iload 5, 0), (80, .baload, 0)]) (pc' := 81) (L' := [some (.ref 0), some (.int v1), some (.int v2), some (.int v3), some (.int v4), some (.int v5)]) (st' := [.int (mn v5.toNatClampNeg)]) (w' := (cM 0 sp tk sv mf mo mn ma kv tv)) (by decide +kernel) rfl ⟨inB_use h_221, trivial⟩ ?_
        rcases ite_s hf with ⟨c_222, hf⟩ | ⟨c_222, hf⟩
        · refine m_jF M (i := .ifCond .ne 23) 104 (by decide +kernel) rfl (by decide) (fun n => n c_222) ?_
          obtain ⟨h_223, hf⟩ := grd_s hf
          refine m_run M (is := [(84, .aload_n 0, 0), (85, .getfield 62, 0), (88, .iload 5, 0), (90, .iconst 1, 1), (91, .bastore, 0), (92, .iload_n 1, 0), (93, .iload_n 2, 0), (94, .iload 5, 0)]) (pc' := 96) (L' := [some (.ref 0), some (.int v1), some (.int v2), some (.int v3), some (.int v4), some (.int v5)]) (st' := [.int v5, .int v2, .int v1]) (w' := (cM 0 sp tk sv mf mo (upd mn v5.toNatClampNeg (vp_nar .boolean 1)) ma kv tv)) (by decide +kernel) rfl ⟨inB_use h_223, trivial⟩ ?_
          obtain ⟨r224, h_224, hf⟩ := bnd_s hf
          refine m_cS0 M (rest := []) (w2 := (cM 0 sp tk sv mf mo (upd mn v5.toNatClampNeg (vp_nar .boolean 1)) ma kv tv)) (st2 := [.int r224]) (run_X4_comesTo v1 v2 v5    h_224) cs_X4_comesTo lk_X4_298 (by decide +kernel) [] (by decide) ⟨Nat.le_of_ble_eq_true rfl, Nat.le_of_ble_eq_true rfl⟩ rfl rfl (Nat.le_of_ble_eq_true rfl) ⟨by decide, by decide⟩ rfl rfl ⟨Nat.zero_le _, Nat.zero_le _⟩ rfl rfl ?_
          refine m_run M (is := [(99, .istore 5, 0), (101, .goto (-27), 0)]) (pc' := 74) (L' := [some (.ref 0), some (.int v1), some (.int v2), some (.int v3), some (.int v4), some (.int r224)]) (st' := []) (w' := (cM 0 sp tk sv mf mo (upd mn v5.toNatClampNeg (vp_nar .boolean 1)) ma kv tv)) (by decide +kernel) rfl trivial ?_
          exact (ih).2 v3 v4 r224 mf (upd mn v5.toNatClampNeg (vp_nar .boolean 1)) hf
        · refine m_jT M (i := .ifCond .ne 23) 104 (by decide +kernel) rfl (by decide) c_222 ?_
          refine m_run M (is := [(104, .iinc 4 1, 1), (107, .goto (-61), 0)]) (pc' := 46) (L' := [some (.ref 0), some (.int v1), some (.int v2), some (.int v3), some (.int (v4 + 1)), some (.int v5)]) (st' := []) (w' := (cM 0 sp tk sv mf mo mn ma kv tv)) (by decide +kernel) rfl trivial ?_
          refine m_wk M [some (.ref 0), some (.int v1), some (.int v2), some (.int v3), some (.int (v4 + 1)), none] ⟨Or.inr rfl, Or.inr rfl, Or.inr rfl, Or.inr rfl, Or.inr rfl, Or.inl rfl, trivial⟩ ?_
          exact (ih).1 v3 (v4 + 1) 0 mf mn hf
  have loop_0 : ∀ (v1 : Int32) (v2 : Int32) (n_ : Nat), (∀ (v3 : Int32) (mf : AI) (mn : AI), f_X4_rounds_L0 v1 v2 n_ v3 mf mn = some r → g 0 0 (cM 0 sp tk sv mf mo mn ma kv tv) 23 [some (.ref 0), some (.int v1), some (.int v2), some (.int v3), none, none] []) := by
    intro v1 v2 n_
    induction n_ with
    | zero => intro v3 mf mn hf; cases hf
    | succ n_ ih =>
      intro v3 mf mn hf
      rw [f_X4_rounds_L0] at hf
      refine m_run M (is := [(23, .iload_n 3, 0), (24, .iload_n 1, 0)]) (pc' := 25) (L' := [some (.ref 0), some (.int v1), some (.int v2), some (.int v3), none, none]) (st' := [.int v1, .int v3]) (w' := (cM 0 sp tk sv mf mo mn ma kv tv)) (by decide +kernel) rfl trivial ?_
      rcases ite_s hf with ⟨c_101, hf⟩ | ⟨c_101, hf⟩
      · refine m_jT M (i := .if_icmp .ge 16) 41 (by decide +kernel) rfl (by decide) c_101 ?_
        refine m_run M (is := [(41, .iconst 0, 0), (42, .istore_n 3, 0), (43, .iconst 0, 0), (44, .istore 4, 0)]) (pc' := 46) (L' := [some (.ref 0), some (.int v1), some (.int v2), some (.int 0), some (.int 0), none]) (st' := []) (w' := (cM 0 sp tk sv mf mo mn ma kv tv)) (by decide +kernel) rfl trivial ?_
        exact (loop_1 v1 v2 fuel0).1 0 0 0 mf mn hf
      · refine m_jF M (i := .if_icmp .ge 16) 41 (by decide +kernel) rfl (by decide) c_101 ?_
        obtain ⟨h_102, hf⟩ := grd_s hf
        refine m_run M (is := [(28, .aload_n 0, 0), (29, .getfield 62, 0), (32, .iload_n 3, 0), (33, .iconst 0, 0), (34, .bastore, 0), (35, .iinc 3 1, 1), (38, .goto (-15), 0)]) (pc' := 23) (L' := [some (.ref 0), some (.int v1), some (.int v2), some (.int (v3 + 1)), none, none]) (st' := []) (w' := (cM 0 sp tk sv mf mo (upd mn v3.toNatClampNeg (vp_nar .boolean 0)) ma kv tv)) (by decide +kernel) rfl ⟨inB_use h_102, trivial⟩ ?_
        exact ih (v3 + 1) mf (upd mn v3.toNatClampNeg (vp_nar .boolean 0)) hf
  rw [f_X4_rounds] at hf
  refine m_run M (is := [(0, .iload_n 1, 0), (1, .i2l, 0), (2, .ldc2_w 241, 0), (5, .ldc2_w 306, 0)]) (pc' := 8) (L' := [some (.ref 0), some (.int a0), some (.int a1), none, none, none]) (st' := [.long 52, .long 2, .long ((a0).toInt64)]) (w' := (cM 0 sp tk sv mf mo mn ma kv tv)) (by decide +kernel) rfl trivial ?_
  obtain ⟨r1001, h_1001, hf⟩ := bnd_s hf
  refine m_cS0 M (rest := []) (w2 := (cM 0 sp tk sv mf mo mn ma kv tv)) (st2 := [.int r1001]) (run_X4_in ((a0).toInt64) 2 52    h_1001) cs_X4_in lk_X4_72 (by decide +kernel) [] (by decide) ⟨Nat.le_of_ble_eq_true rfl, Nat.le_of_ble_eq_true rfl⟩ rfl rfl (Nat.le_of_ble_eq_true rfl) ⟨by decide, by decide⟩ rfl rfl ⟨Nat.zero_le _, Nat.zero_le _⟩ rfl rfl ?_
  rcases ite_s hf with ⟨c_1002, hf⟩ | ⟨c_1002, hf⟩
  · refine m_jF M (i := .ifCond .ne 10) 21 (by decide +kernel) rfl (by decide) (fun n => n c_1002) ?_
    refine m_run M (is := [(14, .aload_n 0, 0), (15, .bipush (-2), -2)]) (pc' := 17) (L' := [some (.ref 0), some (.int a0), some (.int a1), none, none, none]) (st' := [.int (-2), .ref 0]) (w' := (cM 0 sp tk sv mf mo mn ma kv tv)) (by decide +kernel) rfl trivial ?_
    obtain ⟨r1003, h_1003, hf⟩ := bnd_s hf
    refine m_cV0 M (rest := []) (w2 := (cM 0 sp tk sv r1003.2 mo mn ma kv tv)) (st2 := [.int r1003.1]) (run_X4_refuse (-2)   sp tk sv mf mo mn ma kv tv h_1003) cv_X4_refuse lk_X4_85 (by decide +kernel) (List.range 26) List.nodup_range ⟨(by rw [List.length_range]; exact Nat.le_refl _), Nat.le_of_ble_eq_true rfl⟩ (hwId rfl) rfl rfl (Nat.le_of_ble_eq_true rfl) ⟨by decide, by decide⟩ rfl rfl ⟨Nat.zero_le _, Nat.zero_le _⟩ (hpId rfl rfl) rfl ?_
    obtain rfl := Option.some.inj hf
    exact m_iret K (by decide +kernel) (Nat.zero_le _) (Nat.zero_le _) ⟨rfl, rfl⟩
  · refine m_jT M (i := .ifCond .ne 10) 21 (by decide +kernel) rfl (by decide) c_1002 ?_
    refine m_run M (is := [(21, .iconst 0, 0), (22, .istore_n 3, 0)]) (pc' := 23) (L' := [some (.ref 0), some (.int a0), some (.int a1), some (.int 0), none, none]) (st' := []) (w' := (cM 0 sp tk sv mf mo mn ma kv tv)) (by decide +kernel) rfl trivial ?_
    exact loop_0 a0 a1 fuel0 0 mf mn hf

def f_X4_findAway_L1 (v1 : Int32) : Nat → Nat → Int32 → Int32 → AI → Option (AI)
  | 0, _, _, _, _ => none
  | n_ + 1, lb_, v3, v4, ma =>
    if lb_ = 0 then
      if v1 ≤ v3 then
        some ma
      else
        f_X4_findAway_L1 v1 n_ 1 v3 0 ma
    else
      if v1 ≤ v4 then
        f_X4_findAway_L1 v1 n_ 0 (v3 + 1) 0 ma
      else
        (f_X4_comesTo v1 0 v4).bind fun r222 =>
        if inB r222 52 then
        (f_X4_comesTo v1 1 v4).bind fun r224 =>
        if inB r224 52 then
        if (ma r222.toNatClampNeg) = (-1) then
          if (ma r224.toNatClampNeg) = (-1) then
            f_X4_findAway_L1 v1 n_ 1 v3 (v4 + 1) ma
          else
            if inB v4 52 then
            if (ma v4.toNatClampNeg) = (-1) then
              if inB v4 52 then
              f_X4_findAway_L1 v1 n_ 1 v3 (v4 + 1) (upd ma v4.toNatClampNeg ((ma r224.toNatClampNeg) + 1))
              else none
            else
              if inB v4 52 then
              if (ma v4.toNatClampNeg) ≤ ((ma r224.toNatClampNeg) + 1) then
                f_X4_findAway_L1 v1 n_ 1 v3 (v4 + 1) ma
              else
                if inB v4 52 then
                f_X4_findAway_L1 v1 n_ 1 v3 (v4 + 1) (upd ma v4.toNatClampNeg ((ma r224.toNatClampNeg) + 1))
                else none
              else none
            else none
        else
          if (ma r224.toNatClampNeg) = (-1) then
            if (ma r222.toNatClampNeg) = (-1) then
              f_X4_findAway_L1 v1 n_ 1 v3 (v4 + 1) ma
            else
              if inB v4 52 then
              if (ma v4.toNatClampNeg) = (-1) then
                if inB v4 52 then
                f_X4_findAway_L1 v1 n_ 1 v3 (v4 + 1) (upd ma v4.toNatClampNeg ((ma r222.toNatClampNeg) + 1))
                else none
              else
                if inB v4 52 then
                if (ma v4.toNatClampNeg) ≤ ((ma r222.toNatClampNeg) + 1) then
                  f_X4_findAway_L1 v1 n_ 1 v3 (v4 + 1) ma
                else
                  if inB v4 52 then
                  f_X4_findAway_L1 v1 n_ 1 v3 (v4 + 1) (upd ma v4.toNatClampNeg ((ma r222.toNatClampNeg) + 1))
                  else none
                else none
              else none
          else
            if (ma r222.toNatClampNeg) ≤ (ma r224.toNatClampNeg) then
              if (ma r222.toNatClampNeg) = (-1) then
                f_X4_findAway_L1 v1 n_ 1 v3 (v4 + 1) ma
              else
                if inB v4 52 then
                if (ma v4.toNatClampNeg) = (-1) then
                  if inB v4 52 then
                  f_X4_findAway_L1 v1 n_ 1 v3 (v4 + 1) (upd ma v4.toNatClampNeg ((ma r222.toNatClampNeg) + 1))
                  else none
                else
                  if inB v4 52 then
                  if (ma v4.toNatClampNeg) ≤ ((ma r222.toNatClampNeg) + 1) then
                    f_X4_findAway_L1 v1 n_ 1 v3 (v4 + 1) ma
                  else
                    if inB v4 52 then
                    f_X4_findAway_L1 v1 n_ 1 v3 (v4 + 1) (upd ma v4.toNatClampNeg ((ma r222.toNatClampNeg) + 1))
                    else none
                  else none
                else none
            else
              if (ma r224.toNatClampNeg) = (-1) then
                f_X4_findAway_L1 v1 n_ 1 v3 (v4 + 1) ma
              else
                if inB v4 52 then
                if (ma v4.toNatClampNeg) = (-1) then
                  if inB v4 52 then
                  f_X4_findAway_L1 v1 n_ 1 v3 (v4 + 1) (upd ma v4.toNatClampNeg ((ma r224.toNatClampNeg) + 1))
                  else none
                else
                  if inB v4 52 then
                  if (ma v4.toNatClampNeg) ≤ ((ma r224.toNatClampNeg) + 1) then
                    f_X4_findAway_L1 v1 n_ 1 v3 (v4 + 1) ma
                  else
                    if inB v4 52 then
                    f_X4_findAway_L1 v1 n_ 1 v3 (v4 + 1) (upd ma v4.toNatClampNeg ((ma r224.toNatClampNeg) + 1))
                    else none
                  else none
                else none
        else none
        else none
def f_X4_findAway_L0 (v1 : Int32) (v2 : Int32) : Nat → Int32 → AI → Option (AI)
  | 0, _, _ => none
  | n_ + 1, v3, ma =>
    if v1 ≤ v3 then
      f_X4_findAway_L1 v1 fuel0 0 0 0 ma
    else
      if v3 = v2 then
        if inB v3 52 then
        f_X4_findAway_L0 v1 v2 n_ (v3 + 1) (upd ma v3.toNatClampNeg 0)
        else none
      else
        if inB v3 52 then
        f_X4_findAway_L0 v1 v2 n_ (v3 + 1) (upd ma v3.toNatClampNeg (-1))
        else none
def f_X4_findAway (a0 : Int32) (a1 : Int32) (ma : AI) : Option (AI) :=
  f_X4_findAway_L0 a0 a1 fuel0 0 ma
set_option maxRecDepth 100000 in
set_option maxHeartbeats 4000000 in
theorem run_X4_findAway {l : Launch} {D : va_G} {cT : Nat → ClassId} (a0 : Int32) (a1 : Int32)   (sp : ShT) (tk : TkT) (sv : SvT) (mf : AI) (mo : AI) (mn : AI) (ma : AI) (kv : Value) (tv : Value) {r : AI} (hf : f_X4_findAway a0 a1 ma = some r) : Runs l D cT yX4_findAway cX4_findAway 8 none 1 24 [.ref 0, .int a0, .int a1] (cM 0 sp tk sv mf mo mn ma kv tv) (EQ none (cM 0 sp tk sv mf mo mn r kv tv)) := by
  refine runs_of O_X4 okO_X4 (by decide +kernel) rfl rfl (Nat.le_of_ble_eq_true rfl) (Nat.le_of_ble_eq_true rfl) (fun g K => ?_)
  have M := K.b
  show g 0 0 (cM 0 sp tk sv mf mo mn ma kv tv) 0 [some (.ref 0), some (.int a0), some (.int a1), none, none, none, none, none] []
  have loop_1 : ∀ (v1 : Int32) (n_ : Nat), (∀ (v3 : Int32) (v4 : Int32) (ma : AI), f_X4_findAway_L1 v1 n_ 0 v3 v4 ma = some r → g 0 0 (cM 0 sp tk sv mf mo mn ma kv tv) 31 [some (.ref 0), some (.int v1), none, some (.int v3), none, none, none, none] []) ∧ (∀ (v3 : Int32) (v4 : Int32) (ma : AI), f_X4_findAway_L1 v1 n_ 1 v3 v4 ma = some r → g 0 0 (cM 0 sp tk sv mf mo mn ma kv tv) 39 [some (.ref 0), some (.int v1), none, some (.int v3), some (.int v4), none, none, none] []) := by
    intro v1 n_
    induction n_ with
    | zero => exact ⟨fun v3 v4 ma hf => (by cases hf), fun v3 v4 ma hf => (by cases hf)⟩
    | succ n_ ih =>
      refine ⟨?_, ?_⟩
      · intro v3 v4 ma hf
        rw [f_X4_findAway_L1] at hf
        rw [if_pos rfl] at hf
        refine m_run M (is := [(31, .iload_n 3, 0), (32, .iload_n 1, 0)]) (pc' := 33) (L' := [some (.ref 0), some (.int v1), none, some (.int v3), none, none, none, none]) (st' := [.int v1, .int v3]) (w' := (cM 0 sp tk sv mf mo mn ma kv tv)) (by decide +kernel) rfl trivial ?_
        rcases ite_s hf with ⟨c_201, hf⟩ | ⟨c_201, hf⟩
        · refine m_jT M (i := .if_icmp .ge 122) 155 (by decide +kernel) rfl (by decide) c_201 ?_
          obtain rfl := Option.some.inj hf
          exact m_vret K (by decide +kernel) (Nat.zero_le _) (Nat.zero_le _) ⟨rfl, rfl⟩
        · refine m_jF M (i := .if_icmp .ge 122) 155 (by decide +kernel) rfl (by decide) c_201 ?_
          refine m_run M (is := [(36, .iconst 0, 0), (37, .istore 4, 0)]) (pc' := 39) (L' := [some (.ref 0), some (.int v1), none, some (.int v3), some (.int 0), none, none, none]) (st' := []) (w' := (cM 0 sp tk sv mf mo mn ma kv tv)) (by decide +kernel) rfl trivial ?_
          exact (ih).2 v3 0 ma hf
      · intro v3 v4 ma hf
        rw [f_X4_findAway_L1] at hf
        rw [if_neg (by decide)] at hf
        refine m_run M (is := [(39, .iload 4, 0), (41, .iload_n 1, 0)]) (pc' := 42) (L' := [some (.ref 0), some (.int v1), none, some (.int v3), some (.int v4), none, none, none]) (st' := [.int v1, .int v4]) (w' := (cM 0 sp tk sv mf mo mn ma kv tv)) (by decide +kernel) rfl trivial ?_
        rcases ite_s hf with ⟨c_221, hf⟩ | ⟨c_221, hf⟩
        · refine m_jT M (i := .if_icmp .ge 107) 149 (by decide +kernel) rfl (by decide) c_221 ?_
          refine m_run M (is := [(149, .iinc 3 1, 1), (152, .goto (-121), 0)]) (pc' := 31) (L' := [some (.ref 0), some (.int v1), none, some (.int (v3 + 1)), some (.int v4), none, none, none]) (st' := []) (w' := (cM 0 sp tk sv mf mo mn ma kv tv)) (by decide +kernel) rfl trivial ?_
          refine m_wk M [some (.ref 0), some (.int v1), none, some (.int (v3 + 1)), none, none, none, none] ⟨Or.inr rfl, Or.inr rfl, Or.inr rfl, Or.inr rfl, Or.inl rfl, Or.inr rfl, Or.inr rfl, Or.inr rfl, trivial⟩ ?_
          exact (ih).1 (v3 + 1) 0 ma hf
        · refine m_jF M (i := .if_icmp .ge 107) 149 (by decide +kernel) rfl (by decide) c_221 ?_
          refine m_run M (is := [(45, .aload_n 0, 0), (46, .getfield 66, 0), (49, .iload_n 1, 0), (50, .iconst 0, 0), (51, .iload 4, 0)]) (pc' := 53) (L' := [some (.ref 0), some (.int v1), none, some (.int v3), some (.int v4), none, none, none]) (st' := [.int v4, .int 0, .int v1, .ref 17]) (w' := (cM 0 sp tk sv mf mo mn ma kv tv)) (by decide +kernel) rfl trivial ?_
          obtain ⟨r222, h_222, hf⟩ := bnd_s hf
          refine m_cS0 M (rest := [.ref 17]) (w2 := (cM 0 sp tk sv mf mo mn ma kv tv)) (st2 := [.int r222, .ref 17]) (run_X4_comesTo v1 0 v4    h_222) cs_X4_comesTo lk_X4_298 (by decide +kernel) [] (by decide) ⟨Nat.le_of_ble_eq_true rfl, Nat.le_of_ble_eq_true rfl⟩ rfl rfl (Nat.le_of_ble_eq_true rfl) ⟨by decide, by decide⟩ rfl rfl ⟨Nat.zero_le _, Nat.zero_le _⟩ rfl rfl ?_
          obtain ⟨h_223, hf⟩ := grd_s hf
          refine m_run M (is := [(56, .iaload, 0), (57, .istore 5, 0), (59, .aload_n 0, 0), (60, .getfield 66, 0), (63, .iload_n 1, 0), (64, .iconst 1, 1), (65, .iload 4, 0)]) (pc' := 67) (L' := [some (.ref 0), some (.int v1), none, some (.int v3), some (.int v4), some (.int (ma r222.toNatClampNeg)), none, none]) (st' := [.int v4, .int 1, .int v1, .ref 17]) (w' := (cM 0 sp tk sv mf mo mn ma kv tv)) (by decide +kernel) rfl ⟨inB_use h_223, trivial⟩ ?_
          obtain ⟨r224, h_224, hf⟩ := bnd_s hf
          refine m_cS0 M (rest := [.ref 17]) (w2 := (cM 0 sp tk sv mf mo mn ma kv tv)) (st2 := [.int r224, .ref 17]) (run_X4_comesTo v1 1 v4    h_224) cs_X4_comesTo lk_X4_298 (by decide +kernel) [] (by decide) ⟨Nat.le_of_ble_eq_true rfl, Nat.le_of_ble_eq_true rfl⟩ rfl rfl (Nat.le_of_ble_eq_true rfl) ⟨by decide, by decide⟩ rfl rfl ⟨Nat.zero_le _, Nat.zero_le _⟩ rfl rfl ?_
          obtain ⟨h_225, hf⟩ := grd_s hf
          refine m_run M (is := [(70, .iaload, 0), (71, .istore 6, 0), (73, .iload 5, 0), (75, .iconst (-1), -1)]) (pc' := 76) (L' := [some (.ref 0), some (.int v1), none, some (.int v3), some (.int v4), some (.int (ma r222.toNatClampNeg)), some (.int (ma r224.toNatClampNeg)), none]) (st' := [.int (-1), .int (ma r222.toNatClampNeg)]) (w' := (cM 0 sp tk sv mf mo mn ma kv tv)) (by decide +kernel) rfl ⟨inB_use h_225, trivial⟩ ?_
          rcases ite_s hf with ⟨c_226, hf⟩ | ⟨c_226, hf⟩
          · refine m_jT M (i := .if_icmp .eq 16) 92 (by decide +kernel) rfl (by decide) c_226 ?_
            refine m_run M (is := [(92, .iload 6, 0), (94, .goto 5, 0), (99, .istore 7, 0), (101, .iload 7, 0), (103, .iconst (-1), -1)]) (pc' := 104) (L' := [some (.ref 0), some (.int v1), none, some (.int v3), some (.int v4), some (.int (ma r222.toNatClampNeg)), some (.int (ma r224.toNatClampNeg)), some (.int (ma r224.toNatClampNeg))]) (st' := [.int (-1), .int (ma r224.toNatClampNeg)]) (w' := (cM 0 sp tk sv mf mo mn ma kv tv)) (by decide +kernel) rfl trivial ?_
            rcases ite_s hf with ⟨c_227, hf⟩ | ⟨c_227, hf⟩
            · refine m_jT M (i := .if_icmp .eq 39) 143 (by decide +kernel) rfl (by decide) c_227 ?_
              refine m_run M (is := [(143, .iinc 4 1, 1), (146, .goto (-107), 0)]) (pc' := 39) (L' := [some (.ref 0), some (.int v1), none, some (.int v3), some (.int (v4 + 1)), some (.int (ma r222.toNatClampNeg)), some (.int (ma r224.toNatClampNeg)), some (.int (ma r224.toNatClampNeg))]) (st' := []) (w' := (cM 0 sp tk sv mf mo mn ma kv tv)) (by decide +kernel) rfl trivial ?_
              refine m_wk M [some (.ref 0), some (.int v1), none, some (.int v3), some (.int (v4 + 1)), none, none, none] ⟨Or.inr rfl, Or.inr rfl, Or.inr rfl, Or.inr rfl, Or.inr rfl, Or.inl rfl, Or.inl rfl, Or.inl rfl, trivial⟩ ?_
              exact (ih).2 v3 (v4 + 1) ma hf
            · refine m_jF M (i := .if_icmp .eq 39) 143 (by decide +kernel) rfl (by decide) c_227 ?_
              obtain ⟨h_228, hf⟩ := grd_s hf
              refine m_run M (is := [(107, .aload_n 0, 0), (108, .getfield 66, 0), (111, .iload 4, 0), (113, .iaload, 0), (114, .iconst (-1), -1)]) (pc' := 115) (L' := [some (.ref 0), some (.int v1), none, some (.int v3), some (.int v4), some (.int (ma r222.toNatClampNeg)), some (.int (ma r224.toNatClampNeg)), some (.int (ma r224.toNatClampNeg))]) (st' := [.int (-1), .int (ma v4.toNatClampNeg)]) (w' := (cM 0 sp tk sv mf mo mn ma kv tv)) (by decide +kernel) rfl ⟨inB_use h_228, trivial⟩ ?_
              rcases ite_s hf with ⟨c_229, hf⟩ | ⟨c_229, hf⟩
              · refine m_jT M (i := .if_icmp .eq 17) 132 (by decide +kernel) rfl (by decide) c_229 ?_
                obtain ⟨h_230, hf⟩ := grd_s hf
                refine m_run M (is := [(132, .aload_n 0, 0), (133, .getfield 66, 0), (136, .iload 4, 0), (138, .iload 7, 0), (140, .iconst 1, 1), (141, .iadd, 0), (142, .iastore, 0), (143, .iinc 4 1, 1), (146, .goto (-107), 0)]) (pc' := 39) (L' := [some (.ref 0), some (.int v1), none, some (.int v3), some (.int (v4 + 1)), some (.int (ma r222.toNatClampNeg)), some (.int (ma r224.toNatClampNeg)), some (.int (ma r224.toNatClampNeg))]) (st' := []) (w' := (cM 0 sp tk sv mf mo mn (upd ma v4.toNatClampNeg ((ma r224.toNatClampNeg) + 1)) kv tv)) (by decide +kernel) rfl ⟨inB_use h_230, trivial⟩ ?_
                refine m_wk M [some (.ref 0), some (.int v1), none, some (.int v3), some (.int (v4 + 1)), none, none, none] ⟨Or.inr rfl, Or.inr rfl, Or.inr rfl, Or.inr rfl, Or.inr rfl, Or.inl rfl, Or.inl rfl, Or.inl rfl, trivial⟩ ?_
                exact (ih).2 v3 (v4 + 1) (upd ma v4.toNatClampNeg ((ma r224.toNatClampNeg) + 1)) hf
              · refine m_jF M (i := .if_icmp .eq 17) 132 (by decide +kernel) rfl (by decide) c_229 ?_
                obtain ⟨h_231, hf⟩ := grd_s hf
                refine m_run M (is := [(118, .iload 7, 0), (120, .iconst 1, 1), (121, .iadd, 0), (122, .aload_n 0, 0), (123, .getfield 66, 0), (126, .iload 4, 0), (128, .iaload, 0)]) (pc' := 129) (L' := [some (.ref 0), some (.int v1), none, some (.int v3), some (.int v4), some (.int (ma r222.toNatClampNeg)), some (.int (ma r224.toNatClampNeg)), some (.int (ma r224.toNatClampNeg))]) (st' := [.int (ma v4.toNatClampNeg), .int ((ma r224.toNatClampNeg) + 1)]) (w' := (cM 0 sp tk sv mf mo mn ma kv tv)) (by decide +kernel) rfl ⟨inB_use h_231, trivial⟩ ?_
                rcases ite_s hf with ⟨c_232, hf⟩ | ⟨c_232, hf⟩
                · refine m_jT M (i := .if_icmp .ge 14) 143 (by decide +kernel) rfl (by decide) c_232 ?_
                  refine m_run M (is := [(143, .iinc 4 1, 1), (146, .goto (-107), 0)]) (pc' := 39) (L' := [some (.ref 0), some (.int v1), none, some (.int v3), some (.int (v4 + 1)), some (.int (ma r222.toNatClampNeg)), some (.int (ma r224.toNatClampNeg)), some (.int (ma r224.toNatClampNeg))]) (st' := []) (w' := (cM 0 sp tk sv mf mo mn ma kv tv)) (by decide +kernel) rfl trivial ?_
                  refine m_wk M [some (.ref 0), some (.int v1), none, some (.int v3), some (.int (v4 + 1)), none, none, none] ⟨Or.inr rfl, Or.inr rfl, Or.inr rfl, Or.inr rfl, Or.inr rfl, Or.inl rfl, Or.inl rfl, Or.inl rfl, trivial⟩ ?_
                  exact (ih).2 v3 (v4 + 1) ma hf
                · refine m_jF M (i := .if_icmp .ge 14) 143 (by decide +kernel) rfl (by decide) c_232 ?_
                  obtain ⟨h_233, hf⟩ := grd_s hf
                  refine m_run M (is := [(132, .aload_n 0, 0), (133, .getfield 66, 0), (136, .iload 4, 0), (138, .iload 7, 0), (140, .iconst 1, 1), (141, .iadd, 0), (142, .iastore, 0), (143, .iinc 4 1, 1), (146, .goto (-107), 0)]) (pc' := 39) (L' := [some (.ref 0), some (.int v1), none, some (.int v3), some (.int (v4 + 1)), some (.int (ma r222.toNatClampNeg)), some (.int (ma r224.toNatClampNeg)), some (.int (ma r224.toNatClampNeg))]) (st' := []) (w' := (cM 0 sp tk sv mf mo mn (upd ma v4.toNatClampNeg ((ma r224.toNatClampNeg) + 1)) kv tv)) (by decide +kernel) rfl ⟨inB_use h_233, trivial⟩ ?_
                  refine m_wk M [some (.ref 0), some (.int v1), none, some (.int v3), some (.int (v4 + 1)), none, none, none] ⟨Or.inr rfl, Or.inr rfl, Or.inr rfl, Or.inr rfl, Or.inr rfl, Or.inl rfl, Or.inl rfl, Or.inl rfl, trivial⟩ ?_
                  exact (ih).2 v3 (v4 + 1) (upd ma v4.toNatClampNeg ((ma r224.toNatClampNeg) + 1)) hf
          · refine m_jF M (i := .if_icmp .eq 16) 92 (by decide +kernel) rfl (by decide) c_226 ?_
            refine m_run M (is := [(79, .iload 6, 0), (81, .iconst (-1), -1)]) (pc' := 82) (L' := [some (.ref 0), some (.int v1), none, some (.int v3), some (.int v4), some (.int (ma r222.toNatClampNeg)), some (.int (ma r224.toNatClampNeg)), none]) (st' := [.int (-1), .int (ma r224.toNatClampNeg)]) (w' := (cM 0 sp tk sv mf mo mn ma kv tv)) (by decide +kernel) rfl trivial ?_
            rcases ite_s hf with ⟨c_234, hf⟩ | ⟨c_234, hf⟩
            · refine m_jT M (i := .if_icmp .eq 15) 97 (by decide +kernel) rfl (by decide) c_234 ?_
              refine m_run M (is := [(97, .iload 5, 0), (99, .istore 7, 0), (101, .iload 7, 0), (103, .iconst (-1), -1)]) (pc' := 104) (L' := [some (.ref 0), some (.int v1), none, some (.int v3), some (.int v4), some (.int (ma r222.toNatClampNeg)), some (.int (ma r224.toNatClampNeg)), some (.int (ma r222.toNatClampNeg))]) (st' := [.int (-1), .int (ma r222.toNatClampNeg)]) (w' := (cM 0 sp tk sv mf mo mn ma kv tv)) (by decide +kernel) rfl trivial ?_
              rcases ite_s hf with ⟨c_235, hf⟩ | ⟨c_235, hf⟩
              · refine m_jT M (i := .if_icmp .eq 39) 143 (by decide +kernel) rfl (by decide) c_235 ?_
                refine m_run M (is := [(143, .iinc 4 1, 1), (146, .goto (-107), 0)]) (pc' := 39) (L' := [some (.ref 0), some (.int v1), none, some (.int v3), some (.int (v4 + 1)), some (.int (ma r222.toNatClampNeg)), some (.int (ma r224.toNatClampNeg)), some (.int (ma r222.toNatClampNeg))]) (st' := []) (w' := (cM 0 sp tk sv mf mo mn ma kv tv)) (by decide +kernel) rfl trivial ?_
                refine m_wk M [some (.ref 0), some (.int v1), none, some (.int v3), some (.int (v4 + 1)), none, none, none] ⟨Or.inr rfl, Or.inr rfl, Or.inr rfl, Or.inr rfl, Or.inr rfl, Or.inl rfl, Or.inl rfl, Or.inl rfl, trivial⟩ ?_
                exact (ih).2 v3 (v4 + 1) ma hf
              · refine m_jF M (i := .if_icmp .eq 39) 143 (by decide +kernel) rfl (by decide) c_235 ?_
                obtain ⟨h_236, hf⟩ := grd_s hf
                refine m_run M (is := [(107, .aload_n 0, 0), (108, .getfield 66, 0), (111, .iload 4, 0), (113, .iaload, 0), (114, .iconst (-1), -1)]) (pc' := 115) (L' := [some (.ref 0), some (.int v1), none, some (.int v3), some (.int v4), some (.int (ma r222.toNatClampNeg)), some (.int (ma r224.toNatClampNeg)), some (.int (ma r222.toNatClampNeg))]) (st' := [.int (-1), .int (ma v4.toNatClampNeg)]) (w' := (cM 0 sp tk sv mf mo mn ma kv tv)) (by decide +kernel) rfl ⟨inB_use h_236, trivial⟩ ?_
                rcases ite_s hf with ⟨c_237, hf⟩ | ⟨c_237, hf⟩
                · refine m_jT M (i := .if_icmp .eq 17) 132 (by decide +kernel) rfl (by decide) c_237 ?_
                  obtain ⟨h_238, hf⟩ := grd_s hf
                  refine m_run M (is := [(132, .aload_n 0, 0), (133, .getfield 66, 0), (136, .iload 4, 0), (138, .iload 7, 0), (140, .iconst 1, 1), (141, .iadd, 0), (142, .iastore, 0), (143, .iinc 4 1, 1), (146, .goto (-107), 0)]) (pc' := 39) (L' := [some (.ref 0), some (.int v1), none, some (.int v3), some (.int (v4 + 1)), some (.int (ma r222.toNatClampNeg)), some (.int (ma r224.toNatClampNeg)), some (.int (ma r222.toNatClampNeg))]) (st' := []) (w' := (cM 0 sp tk sv mf mo mn (upd ma v4.toNatClampNeg ((ma r222.toNatClampNeg) + 1)) kv tv)) (by decide +kernel) rfl ⟨inB_use h_238, trivial⟩ ?_
                  refine m_wk M [some (.ref 0), some (.int v1), none, some (.int v3), some (.int (v4 + 1)), none, none, none] ⟨Or.inr rfl, Or.inr rfl, Or.inr rfl, Or.inr rfl, Or.inr rfl, Or.inl rfl, Or.inl rfl, Or.inl rfl, trivial⟩ ?_
                  exact (ih).2 v3 (v4 + 1) (upd ma v4.toNatClampNeg ((ma r222.toNatClampNeg) + 1)) hf
                · refine m_jF M (i := .if_icmp .eq 17) 132 (by decide +kernel) rfl (by decide) c_237 ?_
                  obtain ⟨h_239, hf⟩ := grd_s hf
                  refine m_run M (is := [(118, .iload 7, 0), (120, .iconst 1, 1), (121, .iadd, 0), (122, .aload_n 0, 0), (123, .getfield 66, 0), (126, .iload 4, 0), (128, .iaload, 0)]) (pc' := 129) (L' := [some (.ref 0), some (.int v1), none, some (.int v3), some (.int v4), some (.int (ma r222.toNatClampNeg)), some (.int (ma r224.toNatClampNeg)), some (.int (ma r222.toNatClampNeg))]) (st' := [.int (ma v4.toNatClampNeg), .int ((ma r222.toNatClampNeg) + 1)]) (w' := (cM 0 sp tk sv mf mo mn ma kv tv)) (by decide +kernel) rfl ⟨inB_use h_239, trivial⟩ ?_
                  rcases ite_s hf with ⟨c_240, hf⟩ | ⟨c_240, hf⟩
                  · refine m_jT M (i := .if_icmp .ge 14) 143 (by decide +kernel) rfl (by decide) c_240 ?_
                    refine m_run M (is := [(143, .iinc 4 1, 1), (146, .goto (-107), 0)]) (pc' := 39) (L' := [some (.ref 0), some (.int v1), none, some (.int v3), some (.int (v4 + 1)), some (.int (ma r222.toNatClampNeg)), some (.int (ma r224.toNatClampNeg)), some (.int (ma r222.toNatClampNeg))]) (st' := []) (w' := (cM 0 sp tk sv mf mo mn ma kv tv)) (by decide +kernel) rfl trivial ?_
                    refine m_wk M [some (.ref 0), some (.int v1), none, some (.int v3), some (.int (v4 + 1)), none, none, none] ⟨Or.inr rfl, Or.inr rfl, Or.inr rfl, Or.inr rfl, Or.inr rfl, Or.inl rfl, Or.inl rfl, Or.inl rfl, trivial⟩ ?_
                    exact (ih).2 v3 (v4 + 1) ma hf
                  · refine m_jF M (i := .if_icmp .ge 14) 143 (by decide +kernel) rfl (by decide) c_240 ?_
                    obtain ⟨h_241, hf⟩ := grd_s hf
                    refine m_run M (is := [(132, .aload_n 0, 0), (133, .getfield 66, 0), (136, .iload 4, 0), (138, .iload 7, 0), (140, .iconst 1, 1), (141, .iadd, 0), (142, .iastore, 0), (143, .iinc 4 1, 1), (146, .goto (-107), 0)]) (pc' := 39) (L' := [some (.ref 0), some (.int v1), none, some (.int v3), some (.int (v4 + 1)), some (.int (ma r222.toNatClampNeg)), some (.int (ma r224.toNatClampNeg)), some (.int (ma r222.toNatClampNeg))]) (st' := []) (w' := (cM 0 sp tk sv mf mo mn (upd ma v4.toNatClampNeg ((ma r222.toNatClampNeg) + 1)) kv tv)) (by decide +kernel) rfl ⟨inB_use h_241, trivial⟩ ?_
                    refine m_wk M [some (.ref 0), some (.int v1), none, some (.int v3), some (.int (v4 + 1)), none, none, none] ⟨Or.inr rfl, Or.inr rfl, Or.inr rfl, Or.inr rfl, Or.inr rfl, Or.inl rfl, Or.inl rfl, Or.inl rfl, trivial⟩ ?_
                    exact (ih).2 v3 (v4 + 1) (upd ma v4.toNatClampNeg ((ma r222.toNatClampNeg) + 1)) hf
            · refine m_jF M (i := .if_icmp .eq 15) 97 (by decide +kernel) rfl (by decide) c_234 ?_
              refine m_run M (is := [(85, .iload 6, 0), (87, .iload 5, 0)]) (pc' := 89) (L' := [some (.ref 0), some (.int v1), none, some (.int v3), some (.int v4), some (.int (ma r222.toNatClampNeg)), some (.int (ma r224.toNatClampNeg)), none]) (st' := [.int (ma r222.toNatClampNeg), .int (ma r224.toNatClampNeg)]) (w' := (cM 0 sp tk sv mf mo mn ma kv tv)) (by decide +kernel) rfl trivial ?_
              rcases ite_s hf with ⟨c_242, hf⟩ | ⟨c_242, hf⟩
              · refine m_jT M (i := .if_icmp .ge 8) 97 (by decide +kernel) rfl (by decide) c_242 ?_
                refine m_run M (is := [(97, .iload 5, 0), (99, .istore 7, 0), (101, .iload 7, 0), (103, .iconst (-1), -1)]) (pc' := 104) (L' := [some (.ref 0), some (.int v1), none, some (.int v3), some (.int v4), some (.int (ma r222.toNatClampNeg)), some (.int (ma r224.toNatClampNeg)), some (.int (ma r222.toNatClampNeg))]) (st' := [.int (-1), .int (ma r222.toNatClampNeg)]) (w' := (cM 0 sp tk sv mf mo mn ma kv tv)) (by decide +kernel) rfl trivial ?_
                rcases ite_s hf with ⟨c_243, hf⟩ | ⟨c_243, hf⟩
                · refine m_jT M (i := .if_icmp .eq 39) 143 (by decide +kernel) rfl (by decide) c_243 ?_
                  refine m_run M (is := [(143, .iinc 4 1, 1), (146, .goto (-107), 0)]) (pc' := 39) (L' := [some (.ref 0), some (.int v1), none, some (.int v3), some (.int (v4 + 1)), some (.int (ma r222.toNatClampNeg)), some (.int (ma r224.toNatClampNeg)), some (.int (ma r222.toNatClampNeg))]) (st' := []) (w' := (cM 0 sp tk sv mf mo mn ma kv tv)) (by decide +kernel) rfl trivial ?_
                  refine m_wk M [some (.ref 0), some (.int v1), none, some (.int v3), some (.int (v4 + 1)), none, none, none] ⟨Or.inr rfl, Or.inr rfl, Or.inr rfl, Or.inr rfl, Or.inr rfl, Or.inl rfl, Or.inl rfl, Or.inl rfl, trivial⟩ ?_
                  exact (ih).2 v3 (v4 + 1) ma hf
                · refine m_jF M (i := .if_icmp .eq 39) 143 (by decide +kernel) rfl (by decide) c_243 ?_
                  obtain ⟨h_244, hf⟩ := grd_s hf
                  refine m_run M (is := [(107, .aload_n 0, 0), (108, .getfield 66, 0), (111, .iload 4, 0), (113, .iaload, 0), (114, .iconst (-1), -1)]) (pc' := 115) (L' := [some (.ref 0), some (.int v1), none, some (.int v3), some (.int v4), some (.int (ma r222.toNatClampNeg)), some (.int (ma r224.toNatClampNeg)), some (.int (ma r222.toNatClampNeg))]) (st' := [.int (-1), .int (ma v4.toNatClampNeg)]) (w' := (cM 0 sp tk sv mf mo mn ma kv tv)) (by decide +kernel) rfl ⟨inB_use h_244, trivial⟩ ?_
                  rcases ite_s hf with ⟨c_245, hf⟩ | ⟨c_245, hf⟩
                  · refine m_jT M (i := .if_icmp .eq 17) 132 (by decide +kernel) rfl (by decide) c_245 ?_
                    obtain ⟨h_246, hf⟩ := grd_s hf
                    refine m_run M (is := [(132, .aload_n 0, 0), (133, .getfield 66, 0), (136, .iload 4, 0), (138, .iload 7, 0), (140, .iconst 1, 1), (141, .iadd, 0), (142, .iastore, 0), (143, .iinc 4 1, 1), (146, .goto (-107), 0)]) (pc' := 39) (L' := [some (.ref 0), some (.int v1), none, some (.int v3), some (.int (v4 + 1)), some (.int (ma r222.toNatClampNeg)), some (.int (ma r224.toNatClampNeg)), some (.int (ma r222.toNatClampNeg))]) (st' := []) (w' := (cM 0 sp tk sv mf mo mn (upd ma v4.toNatClampNeg ((ma r222.toNatClampNeg) + 1)) kv tv)) (by decide +kernel) rfl ⟨inB_use h_246, trivial⟩ ?_
                    refine m_wk M [some (.ref 0), some (.int v1), none, some (.int v3), some (.int (v4 + 1)), none, none, none] ⟨Or.inr rfl, Or.inr rfl, Or.inr rfl, Or.inr rfl, Or.inr rfl, Or.inl rfl, Or.inl rfl, Or.inl rfl, trivial⟩ ?_
                    exact (ih).2 v3 (v4 + 1) (upd ma v4.toNatClampNeg ((ma r222.toNatClampNeg) + 1)) hf
                  · refine m_jF M (i := .if_icmp .eq 17) 132 (by decide +kernel) rfl (by decide) c_245 ?_
                    obtain ⟨h_247, hf⟩ := grd_s hf
                    refine m_run M (is := [(118, .iload 7, 0), (120, .iconst 1, 1), (121, .iadd, 0), (122, .aload_n 0, 0), (123, .getfield 66, 0), (126, .iload 4, 0), (128, .iaload, 0)]) (pc' := 129) (L' := [some (.ref 0), some (.int v1), none, some (.int v3), some (.int v4), some (.int (ma r222.toNatClampNeg)), some (.int (ma r224.toNatClampNeg)), some (.int (ma r222.toNatClampNeg))]) (st' := [.int (ma v4.toNatClampNeg), .int ((ma r222.toNatClampNeg) + 1)]) (w' := (cM 0 sp tk sv mf mo mn ma kv tv)) (by decide +kernel) rfl ⟨inB_use h_247, trivial⟩ ?_
                    rcases ite_s hf with ⟨c_248, hf⟩ | ⟨c_248, hf⟩
                    · refine m_jT M (i := .if_icmp .ge 14) 143 (by decide +kernel) rfl (by decide) c_248 ?_
                      refine m_run M (is := [(143, .iinc 4 1, 1), (146, .goto (-107), 0)]) (pc' := 39) (L' := [some (.ref 0), some (.int v1), none, some (.int v3), some (.int (v4 + 1)), some (.int (ma r222.toNatClampNeg)), some (.int (ma r224.toNatClampNeg)), some (.int (ma r222.toNatClampNeg))]) (st' := []) (w' := (cM 0 sp tk sv mf mo mn ma kv tv)) (by decide +kernel) rfl trivial ?_
                      refine m_wk M [some (.ref 0), some (.int v1), none, some (.int v3), some (.int (v4 + 1)), none, none, none] ⟨Or.inr rfl, Or.inr rfl, Or.inr rfl, Or.inr rfl, Or.inr rfl, Or.inl rfl, Or.inl rfl, Or.inl rfl, trivial⟩ ?_
                      exact (ih).2 v3 (v4 + 1) ma hf
                    · refine m_jF M (i := .if_icmp .ge 14) 143 (by decide +kernel) rfl (by decide) c_248 ?_
                      obtain ⟨h_249, hf⟩ := grd_s hf
                      refine m_run M (is := [(132, .aload_n 0, 0), (133, .getfield 66, 0), (136, .iload 4, 0), (138, .iload 7, 0), (140, .iconst 1, 1), (141, .iadd, 0), (142, .iastore, 0), (143, .iinc 4 1, 1), (146, .goto (-107), 0)]) (pc' := 39) (L' := [some (.ref 0), some (.int v1), none, some (.int v3), some (.int (v4 + 1)), some (.int (ma r222.toNatClampNeg)), some (.int (ma r224.toNatClampNeg)), some (.int (ma r222.toNatClampNeg))]) (st' := []) (w' := (cM 0 sp tk sv mf mo mn (upd ma v4.toNatClampNeg ((ma r222.toNatClampNeg) + 1)) kv tv)) (by decide +kernel) rfl ⟨inB_use h_249, trivial⟩ ?_
                      refine m_wk M [some (.ref 0), some (.int v1), none, some (.int v3), some (.int (v4 + 1)), none, none, none] ⟨Or.inr rfl, Or.inr rfl, Or.inr rfl, Or.inr rfl, Or.inr rfl, Or.inl rfl, Or.inl rfl, Or.inl rfl, trivial⟩ ?_
                      exact (ih).2 v3 (v4 + 1) (upd ma v4.toNatClampNeg ((ma r222.toNatClampNeg) + 1)) hf
              · refine m_jF M (i := .if_icmp .ge 8) 97 (by decide +kernel) rfl (by decide) c_242 ?_
                refine m_run M (is := [(92, .iload 6, 0), (94, .goto 5, 0), (99, .istore 7, 0), (101, .iload 7, 0), (103, .iconst (-1), -1)]) (pc' := 104) (L' := [some (.ref 0), some (.int v1), none, some (.int v3), some (.int v4), some (.int (ma r222.toNatClampNeg)), some (.int (ma r224.toNatClampNeg)), some (.int (ma r224.toNatClampNeg))]) (st' := [.int (-1), .int (ma r224.toNatClampNeg)]) (w' := (cM 0 sp tk sv mf mo mn ma kv tv)) (by decide +kernel) rfl trivial ?_
                rcases ite_s hf with ⟨c_250, hf⟩ | ⟨c_250, hf⟩
                · refine m_jT M (i := .if_icmp .eq 39) 143 (by decide +kernel) rfl (by decide) c_250 ?_
                  refine m_run M (is := [(143, .iinc 4 1, 1), (146, .goto (-107), 0)]) (pc' := 39) (L' := [some (.ref 0), some (.int v1), none, some (.int v3), some (.int (v4 + 1)), some (.int (ma r222.toNatClampNeg)), some (.int (ma r224.toNatClampNeg)), some (.int (ma r224.toNatClampNeg))]) (st' := []) (w' := (cM 0 sp tk sv mf mo mn ma kv tv)) (by decide +kernel) rfl trivial ?_
                  refine m_wk M [some (.ref 0), some (.int v1), none, some (.int v3), some (.int (v4 + 1)), none, none, none] ⟨Or.inr rfl, Or.inr rfl, Or.inr rfl, Or.inr rfl, Or.inr rfl, Or.inl rfl, Or.inl rfl, Or.inl rfl, trivial⟩ ?_
                  exact (ih).2 v3 (v4 + 1) ma hf
                · refine m_jF M (i := .if_icmp .eq 39) 143 (by decide +kernel) rfl (by decide) c_250 ?_
                  obtain ⟨h_251, hf⟩ := grd_s hf
                  refine m_run M (is := [(107, .aload_n 0, 0), (108, .getfield 66, 0), (111, .iload 4, 0), (113, .iaload, 0), (114, .iconst (-1), -1)]) (pc' := 115) (L' := [some (.ref 0), some (.int v1), none, some (.int v3), some (.int v4), some (.int (ma r222.toNatClampNeg)), some (.int (ma r224.toNatClampNeg)), some (.int (ma r224.toNatClampNeg))]) (st' := [.int (-1), .int (ma v4.toNatClampNeg)]) (w' := (cM 0 sp tk sv mf mo mn ma kv tv)) (by decide +kernel) rfl ⟨inB_use h_251, trivial⟩ ?_
                  rcases ite_s hf with ⟨c_252, hf⟩ | ⟨c_252, hf⟩
                  · refine m_jT M (i := .if_icmp .eq 17) 132 (by decide +kernel) rfl (by decide) c_252 ?_
                    obtain ⟨h_253, hf⟩ := grd_s hf
                    refine m_run M (is := [(132, .aload_n 0, 0), (133, .getfield 66, 0), (136, .iload 4, 0), (138, .iload 7, 0), (140, .iconst 1, 1), (141, .iadd, 0), (142, .iastore, 0), (143, .iinc 4 1, 1), (146, .goto (-107), 0)]) (pc' := 39) (L' := [some (.ref 0), some (.int v1), none, some (.int v3), some (.int (v4 + 1)), some (.int (ma r222.toNatClampNeg)), some (.int (ma r224.toNatClampNeg)), some (.int (ma r224.toNatClampNeg))]) (st' := []) (w' := (cM 0 sp tk sv mf mo mn (upd ma v4.toNatClampNeg ((ma r224.toNatClampNeg) + 1)) kv tv)) (by decide +kernel) rfl ⟨inB_use h_253, trivial⟩ ?_
                    refine m_wk M [some (.ref 0), some (.int v1), none, some (.int v3), some (.int (v4 + 1)), none, none, none] ⟨Or.inr rfl, Or.inr rfl, Or.inr rfl, Or.inr rfl, Or.inr rfl, Or.inl rfl, Or.inl rfl, Or.inl rfl, trivial⟩ ?_
                    exact (ih).2 v3 (v4 + 1) (upd ma v4.toNatClampNeg ((ma r224.toNatClampNeg) + 1)) hf
                  · refine m_jF M (i := .if_icmp .eq 17) 132 (by decide +kernel) rfl (by decide) c_252 ?_
                    obtain ⟨h_254, hf⟩ := grd_s hf
                    refine m_run M (is := [(118, .iload 7, 0), (120, .iconst 1, 1), (121, .iadd, 0), (122, .aload_n 0, 0), (123, .getfield 66, 0), (126, .iload 4, 0), (128, .iaload, 0)]) (pc' := 129) (L' := [some (.ref 0), some (.int v1), none, some (.int v3), some (.int v4), some (.int (ma r222.toNatClampNeg)), some (.int (ma r224.toNatClampNeg)), some (.int (ma r224.toNatClampNeg))]) (st' := [.int (ma v4.toNatClampNeg), .int ((ma r224.toNatClampNeg) + 1)]) (w' := (cM 0 sp tk sv mf mo mn ma kv tv)) (by decide +kernel) rfl ⟨inB_use h_254, trivial⟩ ?_
                    rcases ite_s hf with ⟨c_255, hf⟩ | ⟨c_255, hf⟩
                    · refine m_jT M (i := .if_icmp .ge 14) 143 (by decide +kernel) rfl (by decide) c_255 ?_
                      refine m_run M (is := [(143, .iinc 4 1, 1), (146, .goto (-107), 0)]) (pc' := 39) (L' := [some (.ref 0), some (.int v1), none, some (.int v3), some (.int (v4 + 1)), some (.int (ma r222.toNatClampNeg)), some (.int (ma r224.toNatClampNeg)), some (.int (ma r224.toNatClampNeg))]) (st' := []) (w' := (cM 0 sp tk sv mf mo mn ma kv tv)) (by decide +kernel) rfl trivial ?_
                      refine m_wk M [some (.ref 0), some (.int v1), none, some (.int v3), some (.int (v4 + 1)), none, none, none] ⟨Or.inr rfl, Or.inr rfl, Or.inr rfl, Or.inr rfl, Or.inr rfl, Or.inl rfl, Or.inl rfl, Or.inl rfl, trivial⟩ ?_
                      exact (ih).2 v3 (v4 + 1) ma hf
                    · refine m_jF M (i := .if_icmp .ge 14) 143 (by decide +kernel) rfl (by decide) c_255 ?_
                      obtain ⟨h_256, hf⟩ := grd_s hf
                      refine m_run M (is := [(132, .aload_n 0, 0), (133, .getfield 66, 0), (136, .iload 4, 0), (138, .iload 7, 0), (140, .iconst 1, 1), (141, .iadd, 0), (142, .iastore, 0), (143, .iinc 4 1, 1), (146, .goto (-107), 0)]) (pc' := 39) (L' := [some (.ref 0), some (.int v1), none, some (.int v3), some (.int (v4 + 1)), some (.int (ma r222.toNatClampNeg)), some (.int (ma r224.toNatClampNeg)), some (.int (ma r224.toNatClampNeg))]) (st' := []) (w' := (cM 0 sp tk sv mf mo mn (upd ma v4.toNatClampNeg ((ma r224.toNatClampNeg) + 1)) kv tv)) (by decide +kernel) rfl ⟨inB_use h_256, trivial⟩ ?_
                      refine m_wk M [some (.ref 0), some (.int v1), none, some (.int v3), some (.int (v4 + 1)), none, none, none] ⟨Or.inr rfl, Or.inr rfl, Or.inr rfl, Or.inr rfl, Or.inr rfl, Or.inl rfl, Or.inl rfl, Or.inl rfl, trivial⟩ ?_
                      exact (ih).2 v3 (v4 + 1) (upd ma v4.toNatClampNeg ((ma r224.toNatClampNeg) + 1)) hf
  have loop_0 : ∀ (v1 : Int32) (v2 : Int32) (n_ : Nat), (∀ (v3 : Int32) (ma : AI), f_X4_findAway_L0 v1 v2 n_ v3 ma = some r → g 0 0 (cM 0 sp tk sv mf mo mn ma kv tv) 2 [some (.ref 0), some (.int v1), some (.int v2), some (.int v3), none, none, none, none] []) := by
    intro v1 v2 n_
    induction n_ with
    | zero => intro v3 ma hf; cases hf
    | succ n_ ih =>
      intro v3 ma hf
      rw [f_X4_findAway_L0] at hf
      refine m_run M (is := [(2, .iload_n 3, 0), (3, .iload_n 1, 0)]) (pc' := 4) (L' := [some (.ref 0), some (.int v1), some (.int v2), some (.int v3), none, none, none, none]) (st' := [.int v1, .int v3]) (w' := (cM 0 sp tk sv mf mo mn ma kv tv)) (by decide +kernel) rfl trivial ?_
      rcases ite_s hf with ⟨c_101, hf⟩ | ⟨c_101, hf⟩
      · refine m_jT M (i := .if_icmp .ge 25) 29 (by decide +kernel) rfl (by decide) c_101 ?_
        refine m_run M (is := [(29, .iconst 0, 0), (30, .istore_n 3, 0)]) (pc' := 31) (L' := [some (.ref 0), some (.int v1), some (.int v2), some (.int 0), none, none, none, none]) (st' := []) (w' := (cM 0 sp tk sv mf mo mn ma kv tv)) (by decide +kernel) rfl trivial ?_
        refine m_wk M [some (.ref 0), some (.int v1), none, some (.int 0), none, none, none, none] ⟨Or.inr rfl, Or.inr rfl, Or.inl rfl, Or.inr rfl, Or.inr rfl, Or.inr rfl, Or.inr rfl, Or.inr rfl, trivial⟩ ?_
        exact (loop_1 v1 fuel0).1 0 0 ma hf
      · refine m_jF M (i := .if_icmp .ge 25) 29 (by decide +kernel) rfl (by decide) c_101 ?_
        refine m_run M (is := [(7, .aload_n 0, 0), (8, .getfield 66, 0), (11, .iload_n 3, 0), (12, .iload_n 3, 0), (13, .iload_n 2, 0)]) (pc' := 14) (L' := [some (.ref 0), some (.int v1), some (.int v2), some (.int v3), none, none, none, none]) (st' := [.int v2, .int v3, .int v3, .ref 17]) (w' := (cM 0 sp tk sv mf mo mn ma kv tv)) (by decide +kernel) rfl trivial ?_
        rcases ite_s hf with ⟨c_102, hf⟩ | ⟨c_102, hf⟩
        · refine m_jF M (i := .if_icmp .ne 7) 21 (by decide +kernel) rfl (by decide) (fun n => n c_102) ?_
          obtain ⟨h_103, hf⟩ := grd_s hf
          refine m_run M (is := [(17, .iconst 0, 0), (18, .goto 4, 0), (22, .iastore, 0), (23, .iinc 3 1, 1), (26, .goto (-24), 0)]) (pc' := 2) (L' := [some (.ref 0), some (.int v1), some (.int v2), some (.int (v3 + 1)), none, none, none, none]) (st' := []) (w' := (cM 0 sp tk sv mf mo mn (upd ma v3.toNatClampNeg 0) kv tv)) (by decide +kernel) rfl ⟨inB_use h_103, trivial⟩ ?_
          exact ih (v3 + 1) (upd ma v3.toNatClampNeg 0) hf
        · refine m_jT M (i := .if_icmp .ne 7) 21 (by decide +kernel) rfl (by decide) c_102 ?_
          obtain ⟨h_104, hf⟩ := grd_s hf
          refine m_run M (is := [(21, .iconst (-1), -1), (22, .iastore, 0), (23, .iinc 3 1, 1), (26, .goto (-24), 0)]) (pc' := 2) (L' := [some (.ref 0), some (.int v1), some (.int v2), some (.int (v3 + 1)), none, none, none, none]) (st' := []) (w' := (cM 0 sp tk sv mf mo mn (upd ma v3.toNatClampNeg (-1)) kv tv)) (by decide +kernel) rfl ⟨inB_use h_104, trivial⟩ ?_
          exact ih (v3 + 1) (upd ma v3.toNatClampNeg (-1)) hf
  rw [f_X4_findAway] at hf
  refine m_run M (is := [(0, .iconst 0, 0), (1, .istore_n 3, 0)]) (pc' := 2) (L' := [some (.ref 0), some (.int a0), some (.int a1), some (.int 0), none, none, none, none]) (st' := []) (w' := (cM 0 sp tk sv mf mo mn ma kv tv)) (by decide +kernel) rfl trivial ?_
  exact loop_0 a0 a1 fuel0 0 ma hf

def f_X4_brings_L0 (v1 : Int32) (v3 : Int32) : Nat → Int32 → Int32 → Int32 → AI → AI → Option (Int32 × AI × AI)
  | 0, _, _, _, _, _ => none
  | n_ + 1, v4, v5, v6, mf, ma =>
    if v3 < v6 then
      some (v5, mf, ma)
    else
      (f_X4_comesTo v1 0 v4).bind fun r102 =>
      if inB r102 52 then
      if (ma r102.toNatClampNeg) = (-1) then
        (f_X4_comesTo v1 1 v4).bind fun r106 =>
        f_X4_brings_L0 v1 v3 n_ r106 1 (v6 + 1) mf ma
      else
        if inB v4 52 then
        if (ma r102.toNatClampNeg) = ((ma v4.toNatClampNeg) - 1) then
          (f_X4_comesTo v1 0 v4).bind fun r110 =>
          f_X4_brings_L0 v1 v3 n_ r110 0 (v6 + 1) mf ma
        else
          (f_X4_comesTo v1 1 v4).bind fun r112 =>
          f_X4_brings_L0 v1 v3 n_ r112 1 (v6 + 1) mf ma
        else none
      else none
def f_X4_brings (a0 : Int32) (a1 : Int32) (a2 : Int32) (mf : AI) (ma : AI) : Option (Int32 × AI × AI) :=
  (f_X4_in ((a0).toInt64) 2 52).bind fun r1001 =>
  if r1001 = 0 then
    (f_X4_refuse (-2) mf).bind fun r1003 =>
    some (r1003.1, r1003.2, ma)
  else
    (f_X4_in ((a1).toInt64) 0 (((a0 - 1)).toInt64)).bind fun r1004 =>
    if r1004 = 0 then
      (f_X4_refuse (-2) mf).bind fun r1006 =>
      some (r1006.1, r1006.2, ma)
    else
      if (-1) ≤ a2 then
        (f_X4_findAway a0 a1 ma).bind fun r1008 =>
        if a2 = (-1) then
          if inB 0 52 then
          some ((r1008 (0 : Int32).toNatClampNeg), mf, r1008)
          else none
        else
          if inB 0 52 then
          if (r1008 (0 : Int32).toNatClampNeg) = (-1) then
            if inB 0 52 then
            some ((r1008 (0 : Int32).toNatClampNeg), mf, r1008)
            else none
          else
            if inB 0 52 then
            if a2 < (r1008 (0 : Int32).toNatClampNeg) then
              f_X4_brings_L0 a0 a2 fuel0 0 0 0 mf r1008
            else
              (f_X4_refuse (-5) mf).bind fun r1016 =>
              some (r1016.1, r1016.2, r1008)
            else none
          else none
      else
        (f_X4_refuse (-2) mf).bind fun r1017 =>
        some (r1017.1, r1017.2, ma)
set_option maxRecDepth 100000 in
set_option maxHeartbeats 4000000 in
theorem run_X4_brings {l : Launch} {D : va_G} {cT : Nat → ClassId} (a0 : Int32) (a1 : Int32) (a2 : Int32)   (sp : ShT) (tk : TkT) (sv : SvT) (mf : AI) (mo : AI) (mn : AI) (ma : AI) (kv : Value) (tv : Value) {r : Int32 × AI × AI} (hf : f_X4_brings a0 a1 a2 mf ma = some r) : Runs l D cT yX4_brings cX4_brings 8 (some .int) 2 51 [.ref 0, .int a0, .int a1, .int a2] (cM 0 sp tk sv mf mo mn ma kv tv) (EQ (some (.int r.1)) (cM 0 sp tk sv r.2.1 mo mn r.2.2 kv tv)) := by
  refine runs_of O_X4 okO_X4 (by decide +kernel) rfl rfl (Nat.le_of_ble_eq_true rfl) (Nat.le_of_ble_eq_true rfl) (fun g K => ?_)
  have M := K.b
  show g 0 0 (cM 0 sp tk sv mf mo mn ma kv tv) 0 [some (.ref 0), some (.int a0), some (.int a1), some (.int a2), none, none, none, none] []
  have loop_0 : ∀ (v1 : Int32) (v3 : Int32) (n_ : Nat), (∀ (v4 : Int32) (v5 : Int32) (v6 : Int32) (mf : AI) (ma : AI), f_X4_brings_L0 v1 v3 n_ v4 v5 v6 mf ma = some r → g 0 0 (cM 0 sp tk sv mf mo mn ma kv tv) 93 [some (.ref 0), some (.int v1), none, some (.int v3), some (.int v4), some (.int v5), some (.int v6), none] []) := by
    intro v1 v3 n_
    induction n_ with
    | zero => intro v4 v5 v6 mf ma hf; cases hf
    | succ n_ ih =>
      intro v4 v5 v6 mf ma hf
      rw [f_X4_brings_L0] at hf
      refine m_run M (is := [(93, .iload 6, 0), (95, .iload_n 3, 0)]) (pc' := 96) (L' := [some (.ref 0), some (.int v1), none, some (.int v3), some (.int v4), some (.int v5), some (.int v6), none]) (st' := [.int v3, .int v6]) (w' := (cM 0 sp tk sv mf mo mn ma kv tv)) (by decide +kernel) rfl trivial ?_
      rcases ite_s hf with ⟨c_101, hf⟩ | ⟨c_101, hf⟩
      · refine m_jT M (i := .if_icmp .gt 69) 165 (by decide +kernel) rfl (by decide) c_101 ?_
        refine m_run M (is := [(165, .iload 5, 0)]) (pc' := 167) (L' := [some (.ref 0), some (.int v1), none, some (.int v3), some (.int v4), some (.int v5), some (.int v6), none]) (st' := [.int v5]) (w' := (cM 0 sp tk sv mf mo mn ma kv tv)) (by decide +kernel) rfl trivial ?_
        obtain rfl := Option.some.inj hf
        exact m_iret K (by decide +kernel) (Nat.zero_le _) (Nat.zero_le _) ⟨rfl, rfl⟩
      · refine m_jF M (i := .if_icmp .gt 69) 165 (by decide +kernel) rfl (by decide) c_101 ?_
        refine m_run M (is := [(99, .aload_n 0, 0), (100, .getfield 66, 0), (103, .iload_n 1, 0), (104, .iconst 0, 0), (105, .iload 4, 0)]) (pc' := 107) (L' := [some (.ref 0), some (.int v1), none, some (.int v3), some (.int v4), some (.int v5), some (.int v6), none]) (st' := [.int v4, .int 0, .int v1, .ref 17]) (w' := (cM 0 sp tk sv mf mo mn ma kv tv)) (by decide +kernel) rfl trivial ?_
        obtain ⟨r102, h_102, hf⟩ := bnd_s hf
        refine m_cS0 M (rest := [.ref 17]) (w2 := (cM 0 sp tk sv mf mo mn ma kv tv)) (st2 := [.int r102, .ref 17]) (run_X4_comesTo v1 0 v4    h_102) cs_X4_comesTo lk_X4_298 (by decide +kernel) [] (by decide) ⟨Nat.le_of_ble_eq_true rfl, Nat.le_of_ble_eq_true rfl⟩ rfl rfl (Nat.le_of_ble_eq_true rfl) ⟨by decide, by decide⟩ rfl rfl ⟨Nat.zero_le _, Nat.zero_le _⟩ rfl rfl ?_
        obtain ⟨h_103, hf⟩ := grd_s hf
        refine m_run M (is := [(110, .iaload, 0), (111, .istore 7, 0), (113, .iload 7, 0), (115, .iconst (-1), -1)]) (pc' := 116) (L' := [some (.ref 0), some (.int v1), none, some (.int v3), some (.int v4), some (.int v5), some (.int v6), some (.int (ma r102.toNatClampNeg))]) (st' := [.int (-1), .int (ma r102.toNatClampNeg)]) (w' := (cM 0 sp tk sv mf mo mn ma kv tv)) (by decide +kernel) rfl ⟨inB_use h_103, trivial⟩ ?_
        rcases ite_s hf with ⟨c_104, hf⟩ | ⟨c_104, hf⟩
        · refine m_jT M (i := .if_icmp .eq 21) 137 (by decide +kernel) rfl (by decide) c_104 ?_
          refine m_run M (is := [(137, .iconst 1, 1), (138, .istore 5, 0), (140, .iload_n 1, 0), (141, .iload 5, 0), (143, .iconst 1, 1)]) (pc' := 144) (L' := [some (.ref 0), some (.int v1), none, some (.int v3), some (.int v4), some (.int 1), some (.int v6), some (.int (ma r102.toNatClampNeg))]) (st' := [.int 1, .int 1, .int v1]) (w' := (cM 0 sp tk sv mf mo mn ma kv tv)) (by decide +kernel) rfl trivial ?_
          refine m_jF M (i := .if_icmp .ne 7) 151 (by decide +kernel) rfl (by decide) (by decide) ?_
          refine m_run M (is := [(147, .iconst 1, 1), (148, .goto 4, 0), (152, .iload 4, 0)]) (pc' := 154) (L' := [some (.ref 0), some (.int v1), none, some (.int v3), some (.int v4), some (.int 1), some (.int v6), some (.int (ma r102.toNatClampNeg))]) (st' := [.int v4, .int 1, .int v1]) (w' := (cM 0 sp tk sv mf mo mn ma kv tv)) (by decide +kernel) rfl trivial ?_
          obtain ⟨r106, h_106, hf⟩ := bnd_s hf
          refine m_cS0 M (rest := []) (w2 := (cM 0 sp tk sv mf mo mn ma kv tv)) (st2 := [.int r106]) (run_X4_comesTo v1 1 v4    h_106) cs_X4_comesTo lk_X4_298 (by decide +kernel) [] (by decide) ⟨Nat.le_of_ble_eq_true rfl, Nat.le_of_ble_eq_true rfl⟩ rfl rfl (Nat.le_of_ble_eq_true rfl) ⟨by decide, by decide⟩ rfl rfl ⟨Nat.zero_le _, Nat.zero_le _⟩ rfl rfl ?_
          refine m_run M (is := [(157, .istore 4, 0), (159, .iinc 6 1, 1), (162, .goto (-69), 0)]) (pc' := 93) (L' := [some (.ref 0), some (.int v1), none, some (.int v3), some (.int r106), some (.int 1), some (.int (v6 + 1)), some (.int (ma r102.toNatClampNeg))]) (st' := []) (w' := (cM 0 sp tk sv mf mo mn ma kv tv)) (by decide +kernel) rfl trivial ?_
          refine m_wk M [some (.ref 0), some (.int v1), none, some (.int v3), some (.int r106), some (.int 1), some (.int (v6 + 1)), none] ⟨Or.inr rfl, Or.inr rfl, Or.inr rfl, Or.inr rfl, Or.inr rfl, Or.inr rfl, Or.inr rfl, Or.inl rfl, trivial⟩ ?_
          exact ih r106 1 (v6 + 1) mf ma hf
        · refine m_jF M (i := .if_icmp .eq 21) 137 (by decide +kernel) rfl (by decide) c_104 ?_
          obtain ⟨h_107, hf⟩ := grd_s hf
          refine m_run M (is := [(119, .iload 7, 0), (121, .aload_n 0, 0), (122, .getfield 66, 0), (125, .iload 4, 0), (127, .iaload, 0), (128, .iconst 1, 1), (129, .isub, 0)]) (pc' := 130) (L' := [some (.ref 0), some (.int v1), none, some (.int v3), some (.int v4), some (.int v5), some (.int v6), some (.int (ma r102.toNatClampNeg))]) (st' := [.int ((ma v4.toNatClampNeg) - 1), .int (ma r102.toNatClampNeg)]) (w' := (cM 0 sp tk sv mf mo mn ma kv tv)) (by decide +kernel) rfl ⟨inB_use h_107, trivial⟩ ?_
          rcases ite_s hf with ⟨c_108, hf⟩ | ⟨c_108, hf⟩
          · refine m_jF M (i := .if_icmp .ne 7) 137 (by decide +kernel) rfl (by decide) (fun n => n c_108) ?_
            refine m_run M (is := [(133, .iconst 0, 0), (134, .goto 4, 0), (138, .istore 5, 0), (140, .iload_n 1, 0), (141, .iload 5, 0), (143, .iconst 1, 1)]) (pc' := 144) (L' := [some (.ref 0), some (.int v1), none, some (.int v3), some (.int v4), some (.int 0), some (.int v6), some (.int (ma r102.toNatClampNeg))]) (st' := [.int 1, .int 0, .int v1]) (w' := (cM 0 sp tk sv mf mo mn ma kv tv)) (by decide +kernel) rfl trivial ?_
            refine m_jT M (i := .if_icmp .ne 7) 151 (by decide +kernel) rfl (by decide) (by decide) ?_
            refine m_run M (is := [(151, .iconst 0, 0), (152, .iload 4, 0)]) (pc' := 154) (L' := [some (.ref 0), some (.int v1), none, some (.int v3), some (.int v4), some (.int 0), some (.int v6), some (.int (ma r102.toNatClampNeg))]) (st' := [.int v4, .int 0, .int v1]) (w' := (cM 0 sp tk sv mf mo mn ma kv tv)) (by decide +kernel) rfl trivial ?_
            obtain ⟨r110, h_110, hf⟩ := bnd_s hf
            refine m_cS0 M (rest := []) (w2 := (cM 0 sp tk sv mf mo mn ma kv tv)) (st2 := [.int r110]) (run_X4_comesTo v1 0 v4    h_110) cs_X4_comesTo lk_X4_298 (by decide +kernel) [] (by decide) ⟨Nat.le_of_ble_eq_true rfl, Nat.le_of_ble_eq_true rfl⟩ rfl rfl (Nat.le_of_ble_eq_true rfl) ⟨by decide, by decide⟩ rfl rfl ⟨Nat.zero_le _, Nat.zero_le _⟩ rfl rfl ?_
            refine m_run M (is := [(157, .istore 4, 0), (159, .iinc 6 1, 1), (162, .goto (-69), 0)]) (pc' := 93) (L' := [some (.ref 0), some (.int v1), none, some (.int v3), some (.int r110), some (.int 0), some (.int (v6 + 1)), some (.int (ma r102.toNatClampNeg))]) (st' := []) (w' := (cM 0 sp tk sv mf mo mn ma kv tv)) (by decide +kernel) rfl trivial ?_
            refine m_wk M [some (.ref 0), some (.int v1), none, some (.int v3), some (.int r110), some (.int 0), some (.int (v6 + 1)), none] ⟨Or.inr rfl, Or.inr rfl, Or.inr rfl, Or.inr rfl, Or.inr rfl, Or.inr rfl, Or.inr rfl, Or.inl rfl, trivial⟩ ?_
            exact ih r110 0 (v6 + 1) mf ma hf
          · refine m_jT M (i := .if_icmp .ne 7) 137 (by decide +kernel) rfl (by decide) c_108 ?_
            refine m_run M (is := [(137, .iconst 1, 1), (138, .istore 5, 0), (140, .iload_n 1, 0), (141, .iload 5, 0), (143, .iconst 1, 1)]) (pc' := 144) (L' := [some (.ref 0), some (.int v1), none, some (.int v3), some (.int v4), some (.int 1), some (.int v6), some (.int (ma r102.toNatClampNeg))]) (st' := [.int 1, .int 1, .int v1]) (w' := (cM 0 sp tk sv mf mo mn ma kv tv)) (by decide +kernel) rfl trivial ?_
            refine m_jF M (i := .if_icmp .ne 7) 151 (by decide +kernel) rfl (by decide) (by decide) ?_
            refine m_run M (is := [(147, .iconst 1, 1), (148, .goto 4, 0), (152, .iload 4, 0)]) (pc' := 154) (L' := [some (.ref 0), some (.int v1), none, some (.int v3), some (.int v4), some (.int 1), some (.int v6), some (.int (ma r102.toNatClampNeg))]) (st' := [.int v4, .int 1, .int v1]) (w' := (cM 0 sp tk sv mf mo mn ma kv tv)) (by decide +kernel) rfl trivial ?_
            obtain ⟨r112, h_112, hf⟩ := bnd_s hf
            refine m_cS0 M (rest := []) (w2 := (cM 0 sp tk sv mf mo mn ma kv tv)) (st2 := [.int r112]) (run_X4_comesTo v1 1 v4    h_112) cs_X4_comesTo lk_X4_298 (by decide +kernel) [] (by decide) ⟨Nat.le_of_ble_eq_true rfl, Nat.le_of_ble_eq_true rfl⟩ rfl rfl (Nat.le_of_ble_eq_true rfl) ⟨by decide, by decide⟩ rfl rfl ⟨Nat.zero_le _, Nat.zero_le _⟩ rfl rfl ?_
            refine m_run M (is := [(157, .istore 4, 0), (159, .iinc 6 1, 1), (162, .goto (-69), 0)]) (pc' := 93) (L' := [some (.ref 0), some (.int v1), none, some (.int v3), some (.int r112), some (.int 1), some (.int (v6 + 1)), some (.int (ma r102.toNatClampNeg))]) (st' := []) (w' := (cM 0 sp tk sv mf mo mn ma kv tv)) (by decide +kernel) rfl trivial ?_
            refine m_wk M [some (.ref 0), some (.int v1), none, some (.int v3), some (.int r112), some (.int 1), some (.int (v6 + 1)), none] ⟨Or.inr rfl, Or.inr rfl, Or.inr rfl, Or.inr rfl, Or.inr rfl, Or.inr rfl, Or.inr rfl, Or.inl rfl, trivial⟩ ?_
            exact ih r112 1 (v6 + 1) mf ma hf
  rw [f_X4_brings] at hf
  refine m_run M (is := [(0, .iload_n 1, 0), (1, .i2l, 0), (2, .ldc2_w 241, 0), (5, .ldc2_w 306, 0)]) (pc' := 8) (L' := [some (.ref 0), some (.int a0), some (.int a1), some (.int a2), none, none, none, none]) (st' := [.long 52, .long 2, .long ((a0).toInt64)]) (w' := (cM 0 sp tk sv mf mo mn ma kv tv)) (by decide +kernel) rfl trivial ?_
  obtain ⟨r1001, h_1001, hf⟩ := bnd_s hf
  refine m_cS0 M (rest := []) (w2 := (cM 0 sp tk sv mf mo mn ma kv tv)) (st2 := [.int r1001]) (run_X4_in ((a0).toInt64) 2 52    h_1001) cs_X4_in lk_X4_72 (by decide +kernel) [] (by decide) ⟨Nat.le_of_ble_eq_true rfl, Nat.le_of_ble_eq_true rfl⟩ rfl rfl (Nat.le_of_ble_eq_true rfl) ⟨by decide, by decide⟩ rfl rfl ⟨Nat.zero_le _, Nat.zero_le _⟩ rfl rfl ?_
  rcases ite_s hf with ⟨c_1002, hf⟩ | ⟨c_1002, hf⟩
  · refine m_jT M (i := .ifCond .eq 21) 32 (by decide +kernel) rfl (by decide) c_1002 ?_
    refine m_run M (is := [(32, .aload_n 0, 0), (33, .bipush (-2), -2)]) (pc' := 35) (L' := [some (.ref 0), some (.int a0), some (.int a1), some (.int a2), none, none, none, none]) (st' := [.int (-2), .ref 0]) (w' := (cM 0 sp tk sv mf mo mn ma kv tv)) (by decide +kernel) rfl trivial ?_
    obtain ⟨r1003, h_1003, hf⟩ := bnd_s hf
    refine m_cV0 M (rest := []) (w2 := (cM 0 sp tk sv r1003.2 mo mn ma kv tv)) (st2 := [.int r1003.1]) (run_X4_refuse (-2)   sp tk sv mf mo mn ma kv tv h_1003) cv_X4_refuse lk_X4_85 (by decide +kernel) (List.range 26) List.nodup_range ⟨(by rw [List.length_range]; exact Nat.le_refl _), Nat.le_of_ble_eq_true rfl⟩ (hwId rfl) rfl rfl (Nat.le_of_ble_eq_true rfl) ⟨by decide, by decide⟩ rfl rfl ⟨Nat.zero_le _, Nat.zero_le _⟩ (hpId rfl rfl) rfl ?_
    obtain rfl := Option.some.inj hf
    exact m_iret K (by decide +kernel) (Nat.zero_le _) (Nat.zero_le _) ⟨rfl, rfl⟩
  · refine m_jF M (i := .ifCond .eq 21) 32 (by decide +kernel) rfl (by decide) c_1002 ?_
    refine m_run M (is := [(14, .iload_n 2, 0), (15, .i2l, 0), (16, .lconst 0, 0), (17, .iload_n 1, 0), (18, .iconst 1, 1), (19, .isub, 0), (20, .i2l, 0)]) (pc' := 21) (L' := [some (.ref 0), some (.int a0), some (.int a1), some (.int a2), none, none, none, none]) (st' := [.long (((a0 - 1)).toInt64), .long 0, .long ((a1).toInt64)]) (w' := (cM 0 sp tk sv mf mo mn ma kv tv)) (by decide +kernel) rfl trivial ?_
    obtain ⟨r1004, h_1004, hf⟩ := bnd_s hf
    refine m_cS0 M (rest := []) (w2 := (cM 0 sp tk sv mf mo mn ma kv tv)) (st2 := [.int r1004]) (run_X4_in ((a1).toInt64) 0 (((a0 - 1)).toInt64)    h_1004) cs_X4_in lk_X4_72 (by decide +kernel) [] (by decide) ⟨Nat.le_of_ble_eq_true rfl, Nat.le_of_ble_eq_true rfl⟩ rfl rfl (Nat.le_of_ble_eq_true rfl) ⟨by decide, by decide⟩ rfl rfl ⟨Nat.zero_le _, Nat.zero_le _⟩ rfl rfl ?_
    rcases ite_s hf with ⟨c_1005, hf⟩ | ⟨c_1005, hf⟩
    · refine m_jT M (i := .ifCond .eq 8) 32 (by decide +kernel) rfl (by decide) c_1005 ?_
      refine m_run M (is := [(32, .aload_n 0, 0), (33, .bipush (-2), -2)]) (pc' := 35) (L' := [some (.ref 0), some (.int a0), some (.int a1), some (.int a2), none, none, none, none]) (st' := [.int (-2), .ref 0]) (w' := (cM 0 sp tk sv mf mo mn ma kv tv)) (by decide +kernel) rfl trivial ?_
      obtain ⟨r1006, h_1006, hf⟩ := bnd_s hf
      refine m_cV0 M (rest := []) (w2 := (cM 0 sp tk sv r1006.2 mo mn ma kv tv)) (st2 := [.int r1006.1]) (run_X4_refuse (-2)   sp tk sv mf mo mn ma kv tv h_1006) cv_X4_refuse lk_X4_85 (by decide +kernel) (List.range 26) List.nodup_range ⟨(by rw [List.length_range]; exact Nat.le_refl _), Nat.le_of_ble_eq_true rfl⟩ (hwId rfl) rfl rfl (Nat.le_of_ble_eq_true rfl) ⟨by decide, by decide⟩ rfl rfl ⟨Nat.zero_le _, Nat.zero_le _⟩ (hpId rfl rfl) rfl ?_
      obtain rfl := Option.some.inj hf
      exact m_iret K (by decide +kernel) (Nat.zero_le _) (Nat.zero_le _) ⟨rfl, rfl⟩
    · refine m_jF M (i := .ifCond .eq 8) 32 (by decide +kernel) rfl (by decide) c_1005 ?_
      refine m_run M (is := [(27, .iload_n 3, 0), (28, .iconst (-1), -1)]) (pc' := 29) (L' := [some (.ref 0), some (.int a0), some (.int a1), some (.int a2), none, none, none, none]) (st' := [.int (-1), .int a2]) (w' := (cM 0 sp tk sv mf mo mn ma kv tv)) (by decide +kernel) rfl trivial ?_
      rcases ite_s hf with ⟨c_1007, hf⟩ | ⟨c_1007, hf⟩
      · refine m_jT M (i := .if_icmp .ge 10) 39 (by decide +kernel) rfl (by decide) c_1007 ?_
        refine m_run M (is := [(39, .aload_n 0, 0), (40, .iload_n 1, 0), (41, .iload_n 2, 0)]) (pc' := 42) (L' := [some (.ref 0), some (.int a0), some (.int a1), some (.int a2), none, none, none, none]) (st' := [.int a1, .int a0, .ref 0]) (w' := (cM 0 sp tk sv mf mo mn ma kv tv)) (by decide +kernel) rfl trivial ?_
        obtain ⟨r1008, h_1008, hf⟩ := bnd_s hf
        refine m_cV0 M (rest := []) (w2 := (cM 0 sp tk sv mf mo mn r1008 kv tv)) (st2 := []) (run_X4_findAway a0 a1   sp tk sv mf mo mn ma kv tv h_1008) cv_X4_findAway lk_X4_311 (by decide +kernel) (List.range 26) List.nodup_range ⟨(by rw [List.length_range]; exact Nat.le_refl _), Nat.le_of_ble_eq_true rfl⟩ (hwId rfl) rfl rfl (Nat.le_of_ble_eq_true rfl) ⟨by decide, by decide⟩ rfl rfl ⟨Nat.zero_le _, Nat.zero_le _⟩ (hpId rfl rfl) rfl ?_
        refine m_run M (is := [(45, .iload_n 3, 0), (46, .iconst (-1), -1)]) (pc' := 47) (L' := [some (.ref 0), some (.int a0), some (.int a1), some (.int a2), none, none, none, none]) (st' := [.int (-1), .int a2]) (w' := (cM 0 sp tk sv mf mo mn r1008 kv tv)) (by decide +kernel) rfl trivial ?_
        rcases ite_s hf with ⟨c_1009, hf⟩ | ⟨c_1009, hf⟩
        · refine m_jT M (i := .if_icmp .eq 13) 60 (by decide +kernel) rfl (by decide) c_1009 ?_
          obtain ⟨h_1010, hf⟩ := grd_s hf
          refine m_run M (is := [(60, .aload_n 0, 0), (61, .getfield 66, 0), (64, .iconst 0, 0), (65, .iaload, 0)]) (pc' := 66) (L' := [some (.ref 0), some (.int a0), some (.int a1), some (.int a2), none, none, none, none]) (st' := [.int (r1008 (0 : Int32).toNatClampNeg)]) (w' := (cM 0 sp tk sv mf mo mn r1008 kv tv)) (by decide +kernel) rfl ⟨inB_use h_1010, trivial⟩ ?_
          obtain rfl := Option.some.inj hf
          exact m_iret K (by decide +kernel) (Nat.zero_le _) (Nat.zero_le _) ⟨rfl, rfl⟩
        · refine m_jF M (i := .if_icmp .eq 13) 60 (by decide +kernel) rfl (by decide) c_1009 ?_
          obtain ⟨h_1011, hf⟩ := grd_s hf
          refine m_run M (is := [(50, .aload_n 0, 0), (51, .getfield 66, 0), (54, .iconst 0, 0), (55, .iaload, 0), (56, .iconst (-1), -1)]) (pc' := 57) (L' := [some (.ref 0), some (.int a0), some (.int a1), some (.int a2), none, none, none, none]) (st' := [.int (-1), .int (r1008 (0 : Int32).toNatClampNeg)]) (w' := (cM 0 sp tk sv mf mo mn r1008 kv tv)) (by decide +kernel) rfl ⟨inB_use h_1011, trivial⟩ ?_
          rcases ite_s hf with ⟨c_1012, hf⟩ | ⟨c_1012, hf⟩
          · refine m_jF M (i := .if_icmp .ne 10) 67 (by decide +kernel) rfl (by decide) (fun n => n c_1012) ?_
            obtain ⟨h_1013, hf⟩ := grd_s hf
            refine m_run M (is := [(60, .aload_n 0, 0), (61, .getfield 66, 0), (64, .iconst 0, 0), (65, .iaload, 0)]) (pc' := 66) (L' := [some (.ref 0), some (.int a0), some (.int a1), some (.int a2), none, none, none, none]) (st' := [.int (r1008 (0 : Int32).toNatClampNeg)]) (w' := (cM 0 sp tk sv mf mo mn r1008 kv tv)) (by decide +kernel) rfl ⟨inB_use h_1013, trivial⟩ ?_
            obtain rfl := Option.some.inj hf
            exact m_iret K (by decide +kernel) (Nat.zero_le _) (Nat.zero_le _) ⟨rfl, rfl⟩
          · refine m_jT M (i := .if_icmp .ne 10) 67 (by decide +kernel) rfl (by decide) c_1012 ?_
            obtain ⟨h_1014, hf⟩ := grd_s hf
            refine m_run M (is := [(67, .iload_n 3, 0), (68, .aload_n 0, 0), (69, .getfield 66, 0), (72, .iconst 0, 0), (73, .iaload, 0)]) (pc' := 74) (L' := [some (.ref 0), some (.int a0), some (.int a1), some (.int a2), none, none, none, none]) (st' := [.int (r1008 (0 : Int32).toNatClampNeg), .int a2]) (w' := (cM 0 sp tk sv mf mo mn r1008 kv tv)) (by decide +kernel) rfl ⟨inB_use h_1014, trivial⟩ ?_
            rcases ite_s hf with ⟨c_1015, hf⟩ | ⟨c_1015, hf⟩
            · refine m_jT M (i := .if_icmp .lt 10) 84 (by decide +kernel) rfl (by decide) c_1015 ?_
              refine m_run M (is := [(84, .iconst 0, 0), (85, .istore 4, 0), (87, .iconst 0, 0), (88, .istore 5, 0), (90, .iconst 0, 0), (91, .istore 6, 0)]) (pc' := 93) (L' := [some (.ref 0), some (.int a0), some (.int a1), some (.int a2), some (.int 0), some (.int 0), some (.int 0), none]) (st' := []) (w' := (cM 0 sp tk sv mf mo mn r1008 kv tv)) (by decide +kernel) rfl trivial ?_
              refine m_wk M [some (.ref 0), some (.int a0), none, some (.int a2), some (.int 0), some (.int 0), some (.int 0), none] ⟨Or.inr rfl, Or.inr rfl, Or.inl rfl, Or.inr rfl, Or.inr rfl, Or.inr rfl, Or.inr rfl, Or.inr rfl, trivial⟩ ?_
              exact loop_0 a0 a2 fuel0 0 0 0 mf r1008 hf
            · refine m_jF M (i := .if_icmp .lt 10) 84 (by decide +kernel) rfl (by decide) c_1015 ?_
              refine m_run M (is := [(77, .aload_n 0, 0), (78, .bipush (-5), -5)]) (pc' := 80) (L' := [some (.ref 0), some (.int a0), some (.int a1), some (.int a2), none, none, none, none]) (st' := [.int (-5), .ref 0]) (w' := (cM 0 sp tk sv mf mo mn r1008 kv tv)) (by decide +kernel) rfl trivial ?_
              obtain ⟨r1016, h_1016, hf⟩ := bnd_s hf
              refine m_cV0 M (rest := []) (w2 := (cM 0 sp tk sv r1016.2 mo mn r1008 kv tv)) (st2 := [.int r1016.1]) (run_X4_refuse (-5)   sp tk sv mf mo mn r1008 kv tv h_1016) cv_X4_refuse lk_X4_85 (by decide +kernel) (List.range 26) List.nodup_range ⟨(by rw [List.length_range]; exact Nat.le_refl _), Nat.le_of_ble_eq_true rfl⟩ (hwId rfl) rfl rfl (Nat.le_of_ble_eq_true rfl) ⟨by decide, by decide⟩ rfl rfl ⟨Nat.zero_le _, Nat.zero_le _⟩ (hpId rfl rfl) rfl ?_
              obtain rfl := Option.some.inj hf
              exact m_iret K (by decide +kernel) (Nat.zero_le _) (Nat.zero_le _) ⟨rfl, rfl⟩
      · refine m_jF M (i := .if_icmp .ge 10) 39 (by decide +kernel) rfl (by decide) c_1007 ?_
        refine m_run M (is := [(32, .aload_n 0, 0), (33, .bipush (-2), -2)]) (pc' := 35) (L' := [some (.ref 0), some (.int a0), some (.int a1), some (.int a2), none, none, none, none]) (st' := [.int (-2), .ref 0]) (w' := (cM 0 sp tk sv mf mo mn ma kv tv)) (by decide +kernel) rfl trivial ?_
        obtain ⟨r1017, h_1017, hf⟩ := bnd_s hf
        refine m_cV0 M (rest := []) (w2 := (cM 0 sp tk sv r1017.2 mo mn ma kv tv)) (st2 := [.int r1017.1]) (run_X4_refuse (-2)   sp tk sv mf mo mn ma kv tv h_1017) cv_X4_refuse lk_X4_85 (by decide +kernel) (List.range 26) List.nodup_range ⟨(by rw [List.length_range]; exact Nat.le_refl _), Nat.le_of_ble_eq_true rfl⟩ (hwId rfl) rfl rfl (Nat.le_of_ble_eq_true rfl) ⟨by decide, by decide⟩ rfl rfl ⟨Nat.zero_le _, Nat.zero_le _⟩ (hpId rfl rfl) rfl ?_
        obtain rfl := Option.some.inj hf
        exact m_iret K (by decide +kernel) (Nat.zero_le _) (Nat.zero_le _) ⟨rfl, rfl⟩

def f_X4_fewest_L1 (v1 : Int32) (sp : ShT) (sv : SvT) : Nat → Nat → Int32 → Int32 → Int32 → AI → Option (Int32 × AI)
  | 0, _, _, _, _, _ => none
  | n_ + 1, lb_, v4, v5, v6, mf =>
    if lb_ = 0 then
      if sp.2.2.2.2.2.1 ≤ v5 then
        some (v4, mf)
      else
        f_X4_fewest_L1 v1 sp sv n_ 1 v4 v5 (v5 + 1) mf
    else
      if sp.2.2.2.2.2.1 ≤ v6 then
        f_X4_fewest_L1 v1 sp sv n_ 0 v4 (v5 + 1) 0 mf
      else
        if inB v1 8 then
        if inB v5 40 then
        (f_X4_placeOf (((sv.2.2.2.2.2 v1.toNatClampNeg) v5.toNatClampNeg).toInt32) sp).bind fun r224 =>
        if inB v1 8 then
        if inB v6 40 then
        (f_X4_placeOf (((sv.2.2.2.2.2 v1.toNatClampNeg) v6.toNatClampNeg).toInt32) sp).bind fun r227 =>
        if r224 ≤ r227 then
          f_X4_fewest_L1 v1 sp sv n_ 1 (v4 + 0) v5 (v6 + 1) mf
        else
          f_X4_fewest_L1 v1 sp sv n_ 1 (v4 + 1) v5 (v6 + 1) mf
        else none
        else none
        else none
        else none
def f_X4_fewest_L0 (v1 : Int32) (sp : ShT) (sv : SvT) : Nat → Int32 → Int32 → AI → Option (Int32 × AI)
  | 0, _, _, _ => none
  | n_ + 1, v3, v4, mf =>
    if sp.2.2.2.2.2.1 ≤ v4 then
      if v3 = ((1 <<< (sp.2.2.2.2.2.1 &&& 31)) - 1) then
        f_X4_fewest_L1 v1 sp sv fuel0 0 0 0 0 mf
      else
        (f_X4_refuse (-5) mf).bind fun r103 =>
        some (r103.1, r103.2)
    else
      if inB v1 8 then
      if inB v4 40 then
      (f_X4_isPerson ((sv.2.2.2.2.2 v1.toNatClampNeg) v4.toNatClampNeg) sp).bind fun r106 =>
      if r106 = 0 then
        f_X4_fewest_L0 v1 sp sv n_ (v3 ||| 0) (v4 + 1) mf
      else
        if inB v1 8 then
        if inB v4 40 then
        f_X4_fewest_L0 v1 sp sv n_ (v3 ||| (1 <<< ((((sv.2.2.2.2.2 v1.toNatClampNeg) v4.toNatClampNeg).toInt32) &&& 31))) (v4 + 1) mf
        else none
        else none
      else none
      else none
def f_X4_fewest (a0 : Int32) (sp : ShT) (sv : SvT) (mf : AI) : Option (Int32 × AI) :=
  (f_X4_noSlate a0 sp.2.2.2.2.2.1 sp sv mf).bind fun r1001 =>
  if r1001.1 = 0 then
    f_X4_fewest_L0 a0 sp sv fuel0 0 0 r1001.2
  else
    some (r1001.1, r1001.2)
set_option maxRecDepth 100000 in
set_option maxHeartbeats 4000000 in
theorem run_X4_fewest {l : Launch} {D : va_G} {cT : Nat → ClassId} (a0 : Int32)   (sp : ShT) (tk : TkT) (sv : SvT) (mf : AI) (mo : AI) (mn : AI) (ma : AI) (kv : Value) (tv : Value) {r : Int32 × AI} (hf : f_X4_fewest a0 sp sv mf = some r) : Runs l D cT yX4_fewest cX4_fewest 7 (some .int) 3 69 [.ref 0, .int a0] (cM 0 sp tk sv mf mo mn ma kv tv) (EQ (some (.int r.1)) (cM 0 sp tk sv r.2 mo mn ma kv tv)) := by
  refine runs_of O_X4 okO_X4 (by decide +kernel) rfl rfl (Nat.le_of_ble_eq_true rfl) (Nat.le_of_ble_eq_true rfl) (fun g K => ?_)
  have M := K.b
  show g 0 0 (cM 0 sp tk sv mf mo mn ma kv tv) 0 [some (.ref 0), some (.int a0), none, none, none, none, none] []
  have loop_1 : ∀ (v1 : Int32) (n_ : Nat), (∀ (v4 : Int32) (v5 : Int32) (v6 : Int32) (mf : AI), f_X4_fewest_L1 v1 sp sv n_ 0 v4 v5 v6 mf = some r → g 0 0 (cM 0 sp tk sv mf mo mn ma kv tv) 96 [some (.ref 0), some (.int v1), none, none, some (.int v4), some (.int v5), none] []) ∧ (∀ (v4 : Int32) (v5 : Int32) (v6 : Int32) (mf : AI), f_X4_fewest_L1 v1 sp sv n_ 1 v4 v5 v6 mf = some r → g 0 0 (cM 0 sp tk sv mf mo mn ma kv tv) 111 [some (.ref 0), some (.int v1), none, none, some (.int v4), some (.int v5), some (.int v6)] []) := by
    intro v1 n_
    induction n_ with
    | zero => exact ⟨fun v4 v5 v6 mf hf => (by cases hf), fun v4 v5 v6 mf hf => (by cases hf)⟩
    | succ n_ ih =>
      refine ⟨?_, ?_⟩
      · intro v4 v5 v6 mf hf
        rw [f_X4_fewest_L1] at hf
        rw [if_pos rfl] at hf
        refine m_run M (is := [(96, .iload 5, 0), (98, .aload_n 0, 0), (99, .getfield 69, 0)]) (pc' := 102) (L' := [some (.ref 0), some (.int v1), none, none, some (.int v4), some (.int v5), none]) (st' := [.int sp.2.2.2.2.2.1, .int v5]) (w' := (cM 0 sp tk sv mf mo mn ma kv tv)) (by decide +kernel) rfl trivial ?_
        rcases ite_s hf with ⟨c_201, hf⟩ | ⟨c_201, hf⟩
        · refine m_jT M (i := .if_icmp .ge 71) 173 (by decide +kernel) rfl (by decide) c_201 ?_
          refine m_run M (is := [(173, .iload 4, 0)]) (pc' := 175) (L' := [some (.ref 0), some (.int v1), none, none, some (.int v4), some (.int v5), none]) (st' := [.int v4]) (w' := (cM 0 sp tk sv mf mo mn ma kv tv)) (by decide +kernel) rfl trivial ?_
          obtain rfl := Option.some.inj hf
          exact m_iret K (by decide +kernel) (Nat.zero_le _) (Nat.zero_le _) ⟨rfl, rfl⟩
        · refine m_jF M (i := .if_icmp .ge 71) 173 (by decide +kernel) rfl (by decide) c_201 ?_
          refine m_run M (is := [(105, .iload 5, 0), (107, .iconst 1, 1), (108, .iadd, 0), (109, .istore 6, 0)]) (pc' := 111) (L' := [some (.ref 0), some (.int v1), none, none, some (.int v4), some (.int v5), some (.int (v5 + 1))]) (st' := []) (w' := (cM 0 sp tk sv mf mo mn ma kv tv)) (by decide +kernel) rfl trivial ?_
          exact (ih).2 v4 v5 (v5 + 1) mf hf
      · intro v4 v5 v6 mf hf
        rw [f_X4_fewest_L1] at hf
        rw [if_neg (by decide)] at hf
        refine m_run M (is := [(111, .iload 6, 0), (113, .aload_n 0, 0), (114, .getfield 69, 0)]) (pc' := 117) (L' := [some (.ref 0), some (.int v1), none, none, some (.int v4), some (.int v5), some (.int v6)]) (st' := [.int sp.2.2.2.2.2.1, .int v6]) (w' := (cM 0 sp tk sv mf mo mn ma kv tv)) (by decide +kernel) rfl trivial ?_
        rcases ite_s hf with ⟨c_221, hf⟩ | ⟨c_221, hf⟩
        · refine m_jT M (i := .if_icmp .ge 50) 167 (by decide +kernel) rfl (by decide) c_221 ?_
          refine m_run M (is := [(167, .iinc 5 1, 1), (170, .goto (-74), 0)]) (pc' := 96) (L' := [some (.ref 0), some (.int v1), none, none, some (.int v4), some (.int (v5 + 1)), some (.int v6)]) (st' := []) (w' := (cM 0 sp tk sv mf mo mn ma kv tv)) (by decide +kernel) rfl trivial ?_
          refine m_wk M [some (.ref 0), some (.int v1), none, none, some (.int v4), some (.int (v5 + 1)), none] ⟨Or.inr rfl, Or.inr rfl, Or.inr rfl, Or.inr rfl, Or.inr rfl, Or.inr rfl, Or.inl rfl, trivial⟩ ?_
          exact (ih).1 v4 (v5 + 1) 0 mf hf
        · refine m_jF M (i := .if_icmp .ge 50) 167 (by decide +kernel) rfl (by decide) c_221 ?_
          obtain ⟨h_222, hf⟩ := grd_s hf
          refine m_run M (is := [(120, .iload 4, 0), (122, .aload_n 0, 0), (123, .aload_n 0, 0), (124, .getfield 21, 0), (127, .iload_n 1, 0)]) (pc' := 128) (L' := [some (.ref 0), some (.int v1), none, none, some (.int v4), some (.int v5), some (.int v6)]) (st' := [.int v1, .ref 4, .ref 0, .int v4]) (w' := (cM 0 sp tk sv mf mo mn ma kv tv)) (by decide +kernel) rfl trivial ?_
          refine m_run M (is := [(128, .aaload, 0)]) (pc' := 129) (L' := [some (.ref 0), some (.int v1), none, none, some (.int v4), some (.int v5), some (.int v6)]) (st' := [.ref (18 + v1.toNatClampNeg), .ref 0, .int v4]) (w' := (cM 0 sp tk sv mf mo mn ma kv tv)) (by decide +kernel) (s_aald rfl rfl (fM_18 (inB_lt h_222))) ⟨inB_use h_222, trivial⟩ ?_
          obtain ⟨h_223, hf⟩ := grd_s hf
          refine m_run M (is := [(129, .iload 5, 0)]) (pc' := 131) (L' := [some (.ref 0), some (.int v1), none, none, some (.int v4), some (.int v5), some (.int v6)]) (st' := [.int v5, .ref (18 + v1.toNatClampNeg), .ref 0, .int v4]) (w' := (cM 0 sp tk sv mf mo mn ma kv tv)) (by decide +kernel) rfl trivial ?_
          refine m_run M (is := [(131, .laload, 0)]) (pc' := 132) (L' := [some (.ref 0), some (.int v1), none, none, some (.int v4), some (.int v5), some (.int v6)]) (st' := [.long ((sv.2.2.2.2.2 v1.toNatClampNeg) v5.toNatClampNeg), .ref 0, .int v4]) (w' := (cM 0 sp tk sv mf mo mn ma kv tv)) (by decide +kernel) (s_lald (wM_ro (inB_lt h_222) sp tk sv mf mo mn ma kv tv)) ⟨inB_use h_223, trivial⟩ ?_
          refine m_run M (is := [(132, .l2i, 0)]) (pc' := 133) (L' := [some (.ref 0), some (.int v1), none, none, some (.int v4), some (.int v5), some (.int v6)]) (st' := [.int (((sv.2.2.2.2.2 v1.toNatClampNeg) v5.toNatClampNeg).toInt32), .ref 0, .int v4]) (w' := (cM 0 sp tk sv mf mo mn ma kv tv)) (by decide +kernel) rfl trivial ?_
          obtain ⟨r224, h_224, hf⟩ := bnd_s hf
          refine m_cV0 M (rest := [.int v4]) (w2 := (cM 0 sp tk sv mf mo mn ma kv tv)) (st2 := [.int r224, .int v4]) (run_X4_placeOf (((sv.2.2.2.2.2 v1.toNatClampNeg) v5.toNatClampNeg).toInt32)   sp tk sv mf mo mn ma kv tv h_224) cv_X4_placeOf lk_X4_243 (by decide +kernel) (List.range 26) List.nodup_range ⟨(by rw [List.length_range]; exact Nat.le_refl _), Nat.le_of_ble_eq_true rfl⟩ (hwId rfl) rfl rfl (Nat.le_of_ble_eq_true rfl) ⟨by decide, by decide⟩ rfl rfl ⟨Nat.zero_le _, Nat.zero_le _⟩ (hpId rfl rfl) rfl ?_
          obtain ⟨h_225, hf⟩ := grd_s hf
          refine m_run M (is := [(136, .aload_n 0, 0), (137, .aload_n 0, 0), (138, .getfield 21, 0), (141, .iload_n 1, 0)]) (pc' := 142) (L' := [some (.ref 0), some (.int v1), none, none, some (.int v4), some (.int v5), some (.int v6)]) (st' := [.int v1, .ref 4, .ref 0, .int r224, .int v4]) (w' := (cM 0 sp tk sv mf mo mn ma kv tv)) (by decide +kernel) rfl trivial ?_
          refine m_run M (is := [(142, .aaload, 0)]) (pc' := 143) (L' := [some (.ref 0), some (.int v1), none, none, some (.int v4), some (.int v5), some (.int v6)]) (st' := [.ref (18 + v1.toNatClampNeg), .ref 0, .int r224, .int v4]) (w' := (cM 0 sp tk sv mf mo mn ma kv tv)) (by decide +kernel) (s_aald rfl rfl (fM_18 (inB_lt h_225))) ⟨inB_use h_225, trivial⟩ ?_
          obtain ⟨h_226, hf⟩ := grd_s hf
          refine m_run M (is := [(143, .iload 6, 0)]) (pc' := 145) (L' := [some (.ref 0), some (.int v1), none, none, some (.int v4), some (.int v5), some (.int v6)]) (st' := [.int v6, .ref (18 + v1.toNatClampNeg), .ref 0, .int r224, .int v4]) (w' := (cM 0 sp tk sv mf mo mn ma kv tv)) (by decide +kernel) rfl trivial ?_
          refine m_run M (is := [(145, .laload, 0)]) (pc' := 146) (L' := [some (.ref 0), some (.int v1), none, none, some (.int v4), some (.int v5), some (.int v6)]) (st' := [.long ((sv.2.2.2.2.2 v1.toNatClampNeg) v6.toNatClampNeg), .ref 0, .int r224, .int v4]) (w' := (cM 0 sp tk sv mf mo mn ma kv tv)) (by decide +kernel) (s_lald (wM_ro (inB_lt h_225) sp tk sv mf mo mn ma kv tv)) ⟨inB_use h_226, trivial⟩ ?_
          refine m_run M (is := [(146, .l2i, 0)]) (pc' := 147) (L' := [some (.ref 0), some (.int v1), none, none, some (.int v4), some (.int v5), some (.int v6)]) (st' := [.int (((sv.2.2.2.2.2 v1.toNatClampNeg) v6.toNatClampNeg).toInt32), .ref 0, .int r224, .int v4]) (w' := (cM 0 sp tk sv mf mo mn ma kv tv)) (by decide +kernel) rfl trivial ?_
          obtain ⟨r227, h_227, hf⟩ := bnd_s hf
          refine m_cV0 M (rest := [.int r224, .int v4]) (w2 := (cM 0 sp tk sv mf mo mn ma kv tv)) (st2 := [.int r227, .int r224, .int v4]) (run_X4_placeOf (((sv.2.2.2.2.2 v1.toNatClampNeg) v6.toNatClampNeg).toInt32)   sp tk sv mf mo mn ma kv tv h_227) cv_X4_placeOf lk_X4_243 (by decide +kernel) (List.range 26) List.nodup_range ⟨(by rw [List.length_range]; exact Nat.le_refl _), Nat.le_of_ble_eq_true rfl⟩ (hwId rfl) rfl rfl (Nat.le_of_ble_eq_true rfl) ⟨by decide, by decide⟩ rfl rfl ⟨Nat.zero_le _, Nat.zero_le _⟩ (hpId rfl rfl) rfl ?_
          rcases ite_s hf with ⟨c_228, hf⟩ | ⟨c_228, hf⟩
          · refine m_jT M (i := .if_icmp .le 7) 157 (by decide +kernel) rfl (by decide) c_228 ?_
            refine m_run M (is := [(157, .iconst 0, 0), (158, .iadd, 0), (159, .istore 4, 0), (161, .iinc 6 1, 1), (164, .goto (-53), 0)]) (pc' := 111) (L' := [some (.ref 0), some (.int v1), none, none, some (.int (v4 + 0)), some (.int v5), some (.int (v6 + 1))]) (st' := []) (w' := (cM 0 sp tk sv mf mo mn ma kv tv)) (by decide +kernel) rfl trivial ?_
            exact (ih).2 (v4 + 0) v5 (v6 + 1) mf hf
          · refine m_jF M (i := .if_icmp .le 7) 157 (by decide +kernel) rfl (by decide) c_228 ?_
            refine m_run M (is := [(153, .iconst 1, 1), (154, .goto 4, 0), (158, .iadd, 0), (159, .istore 4, 0), (161, .iinc 6 1, 1), (164, .goto (-53), 0)]) (pc' := 111) (L' := [some (.ref 0), some (.int v1), none, none, some (.int (v4 + 1)), some (.int v5), some (.int (v6 + 1))]) (st' := []) (w' := (cM 0 sp tk sv mf mo mn ma kv tv)) (by decide +kernel) rfl trivial ?_
            exact (ih).2 (v4 + 1) v5 (v6 + 1) mf hf
  have loop_0 : ∀ (v1 : Int32) (n_ : Nat), (∀ (v3 : Int32) (v4 : Int32) (mf : AI), f_X4_fewest_L0 v1 sp sv n_ v3 v4 mf = some r → g 0 0 (cM 0 sp tk sv mf mo mn ma kv tv) 21 [some (.ref 0), some (.int v1), none, some (.int v3), some (.int v4), none, none] []) := by
    intro v1 n_
    induction n_ with
    | zero => intro v3 v4 mf hf; cases hf
    | succ n_ ih =>
      intro v3 v4 mf hf
      rw [f_X4_fewest_L0] at hf
      refine m_run M (is := [(21, .iload 4, 0), (23, .aload_n 0, 0), (24, .getfield 69, 0)]) (pc' := 27) (L' := [some (.ref 0), some (.int v1), none, some (.int v3), some (.int v4), none, none]) (st' := [.int sp.2.2.2.2.2.1, .int v4]) (w' := (cM 0 sp tk sv mf mo mn ma kv tv)) (by decide +kernel) rfl trivial ?_
      rcases ite_s hf with ⟨c_101, hf⟩ | ⟨c_101, hf⟩
      · refine m_jT M (i := .if_icmp .ge 44) 71 (by decide +kernel) rfl (by decide) c_101 ?_
        refine m_run M (is := [(71, .iload_n 3, 0), (72, .iconst 1, 1), (73, .aload_n 0, 0), (74, .getfield 69, 0), (77, .ishl, 0), (78, .iconst 1, 1), (79, .isub, 0)]) (pc' := 80) (L' := [some (.ref 0), some (.int v1), none, some (.int v3), some (.int v4), none, none]) (st' := [.int ((1 <<< (sp.2.2.2.2.2.1 &&& 31)) - 1), .int v3]) (w' := (cM 0 sp tk sv mf mo mn ma kv tv)) (by decide +kernel) rfl trivial ?_
        rcases ite_s hf with ⟨c_102, hf⟩ | ⟨c_102, hf⟩
        · refine m_jT M (i := .if_icmp .eq 10) 90 (by decide +kernel) rfl (by decide) c_102 ?_
          refine m_run M (is := [(90, .iconst 0, 0), (91, .istore 4, 0), (93, .iconst 0, 0), (94, .istore 5, 0)]) (pc' := 96) (L' := [some (.ref 0), some (.int v1), none, some (.int v3), some (.int 0), some (.int 0), none]) (st' := []) (w' := (cM 0 sp tk sv mf mo mn ma kv tv)) (by decide +kernel) rfl trivial ?_
          refine m_wk M [some (.ref 0), some (.int v1), none, none, some (.int 0), some (.int 0), none] ⟨Or.inr rfl, Or.inr rfl, Or.inr rfl, Or.inl rfl, Or.inr rfl, Or.inr rfl, Or.inr rfl, trivial⟩ ?_
          exact (loop_1 v1 fuel0).1 0 0 0 mf hf
        · refine m_jF M (i := .if_icmp .eq 10) 90 (by decide +kernel) rfl (by decide) c_102 ?_
          refine m_run M (is := [(83, .aload_n 0, 0), (84, .bipush (-5), -5)]) (pc' := 86) (L' := [some (.ref 0), some (.int v1), none, some (.int v3), some (.int v4), none, none]) (st' := [.int (-5), .ref 0]) (w' := (cM 0 sp tk sv mf mo mn ma kv tv)) (by decide +kernel) rfl trivial ?_
          obtain ⟨r103, h_103, hf⟩ := bnd_s hf
          refine m_cV0 M (rest := []) (w2 := (cM 0 sp tk sv r103.2 mo mn ma kv tv)) (st2 := [.int r103.1]) (run_X4_refuse (-5)   sp tk sv mf mo mn ma kv tv h_103) cv_X4_refuse lk_X4_85 (by decide +kernel) (List.range 26) List.nodup_range ⟨(by rw [List.length_range]; exact Nat.le_refl _), Nat.le_of_ble_eq_true rfl⟩ (hwId rfl) rfl rfl (Nat.le_of_ble_eq_true rfl) ⟨by decide, by decide⟩ rfl rfl ⟨Nat.zero_le _, Nat.zero_le _⟩ (hpId rfl rfl) rfl ?_
          obtain rfl := Option.some.inj hf
          exact m_iret K (by decide +kernel) (Nat.zero_le _) (Nat.zero_le _) ⟨rfl, rfl⟩
      · refine m_jF M (i := .if_icmp .ge 44) 71 (by decide +kernel) rfl (by decide) c_101 ?_
        obtain ⟨h_104, hf⟩ := grd_s hf
        refine m_run M (is := [(30, .iload_n 3, 0), (31, .aload_n 0, 0), (32, .aload_n 0, 0), (33, .getfield 21, 0), (36, .iload_n 1, 0)]) (pc' := 37) (L' := [some (.ref 0), some (.int v1), none, some (.int v3), some (.int v4), none, none]) (st' := [.int v1, .ref 4, .ref 0, .int v3]) (w' := (cM 0 sp tk sv mf mo mn ma kv tv)) (by decide +kernel) rfl trivial ?_
        refine m_run M (is := [(37, .aaload, 0)]) (pc' := 38) (L' := [some (.ref 0), some (.int v1), none, some (.int v3), some (.int v4), none, none]) (st' := [.ref (18 + v1.toNatClampNeg), .ref 0, .int v3]) (w' := (cM 0 sp tk sv mf mo mn ma kv tv)) (by decide +kernel) (s_aald rfl rfl (fM_18 (inB_lt h_104))) ⟨inB_use h_104, trivial⟩ ?_
        obtain ⟨h_105, hf⟩ := grd_s hf
        refine m_run M (is := [(38, .iload 4, 0)]) (pc' := 40) (L' := [some (.ref 0), some (.int v1), none, some (.int v3), some (.int v4), none, none]) (st' := [.int v4, .ref (18 + v1.toNatClampNeg), .ref 0, .int v3]) (w' := (cM 0 sp tk sv mf mo mn ma kv tv)) (by decide +kernel) rfl trivial ?_
        refine m_run M (is := [(40, .laload, 0)]) (pc' := 41) (L' := [some (.ref 0), some (.int v1), none, some (.int v3), some (.int v4), none, none]) (st' := [.long ((sv.2.2.2.2.2 v1.toNatClampNeg) v4.toNatClampNeg), .ref 0, .int v3]) (w' := (cM 0 sp tk sv mf mo mn ma kv tv)) (by decide +kernel) (s_lald (wM_ro (inB_lt h_104) sp tk sv mf mo mn ma kv tv)) ⟨inB_use h_105, trivial⟩ ?_
        obtain ⟨r106, h_106, hf⟩ := bnd_s hf
        refine m_cV0 M (rest := [.int v3]) (w2 := (cM 0 sp tk sv mf mo mn ma kv tv)) (st2 := [.int r106, .int v3]) (run_X4_isPerson ((sv.2.2.2.2.2 v1.toNatClampNeg) v4.toNatClampNeg)   sp tk sv mf mo mn ma kv tv h_106) cv_X4_isPerson lk_X4_130 (by decide +kernel) (List.range 26) List.nodup_range ⟨(by rw [List.length_range]; exact Nat.le_refl _), Nat.le_of_ble_eq_true rfl⟩ (hwId rfl) rfl rfl (Nat.le_of_ble_eq_true rfl) ⟨by decide, by decide⟩ rfl rfl ⟨Nat.zero_le _, Nat.zero_le _⟩ (hpId rfl rfl) rfl ?_
        rcases ite_s hf with ⟨c_107, hf⟩ | ⟨c_107, hf⟩
        · refine m_jT M (i := .ifCond .eq 18) 62 (by decide +kernel) rfl (by decide) c_107 ?_
          refine m_run M (is := [(62, .iconst 0, 0), (63, .ior, 0), (64, .istore_n 3, 0), (65, .iinc 4 1, 1), (68, .goto (-47), 0)]) (pc' := 21) (L' := [some (.ref 0), some (.int v1), none, some (.int (v3 ||| 0)), some (.int (v4 + 1)), none, none]) (st' := []) (w' := (cM 0 sp tk sv mf mo mn ma kv tv)) (by decide +kernel) rfl trivial ?_
          exact ih (v3 ||| 0) (v4 + 1) mf hf
        · refine m_jF M (i := .ifCond .eq 18) 62 (by decide +kernel) rfl (by decide) c_107 ?_
          obtain ⟨h_108, hf⟩ := grd_s hf
          refine m_run M (is := [(47, .iconst 1, 1), (48, .aload_n 0, 0), (49, .getfield 21, 0), (52, .iload_n 1, 0)]) (pc' := 53) (L' := [some (.ref 0), some (.int v1), none, some (.int v3), some (.int v4), none, none]) (st' := [.int v1, .ref 4, .int 1, .int v3]) (w' := (cM 0 sp tk sv mf mo mn ma kv tv)) (by decide +kernel) rfl trivial ?_
          refine m_run M (is := [(53, .aaload, 0)]) (pc' := 54) (L' := [some (.ref 0), some (.int v1), none, some (.int v3), some (.int v4), none, none]) (st' := [.ref (18 + v1.toNatClampNeg), .int 1, .int v3]) (w' := (cM 0 sp tk sv mf mo mn ma kv tv)) (by decide +kernel) (s_aald rfl rfl (fM_18 (inB_lt h_108))) ⟨inB_use h_108, trivial⟩ ?_
          obtain ⟨h_109, hf⟩ := grd_s hf
          refine m_run M (is := [(54, .iload 4, 0)]) (pc' := 56) (L' := [some (.ref 0), some (.int v1), none, some (.int v3), some (.int v4), none, none]) (st' := [.int v4, .ref (18 + v1.toNatClampNeg), .int 1, .int v3]) (w' := (cM 0 sp tk sv mf mo mn ma kv tv)) (by decide +kernel) rfl trivial ?_
          refine m_run M (is := [(56, .laload, 0)]) (pc' := 57) (L' := [some (.ref 0), some (.int v1), none, some (.int v3), some (.int v4), none, none]) (st' := [.long ((sv.2.2.2.2.2 v1.toNatClampNeg) v4.toNatClampNeg), .int 1, .int v3]) (w' := (cM 0 sp tk sv mf mo mn ma kv tv)) (by decide +kernel) (s_lald (wM_ro (inB_lt h_108) sp tk sv mf mo mn ma kv tv)) ⟨inB_use h_109, trivial⟩ ?_
          refine m_run M (is := [(57, .l2i, 0), (58, .ishl, 0), (59, .goto 4, 0), (63, .ior, 0), (64, .istore_n 3, 0), (65, .iinc 4 1, 1), (68, .goto (-47), 0)]) (pc' := 21) (L' := [some (.ref 0), some (.int v1), none, some (.int (v3 ||| (1 <<< ((((sv.2.2.2.2.2 v1.toNatClampNeg) v4.toNatClampNeg).toInt32) &&& 31)))), some (.int (v4 + 1)), none, none]) (st' := []) (w' := (cM 0 sp tk sv mf mo mn ma kv tv)) (by decide +kernel) rfl trivial ?_
          exact ih (v3 ||| (1 <<< ((((sv.2.2.2.2.2 v1.toNatClampNeg) v4.toNatClampNeg).toInt32) &&& 31))) (v4 + 1) mf hf
  rw [f_X4_fewest] at hf
  refine m_run M (is := [(0, .aload_n 0, 0), (1, .iload_n 1, 0), (2, .aload_n 0, 0), (3, .getfield 69, 0)]) (pc' := 6) (L' := [some (.ref 0), some (.int a0), none, none, none, none, none]) (st' := [.int sp.2.2.2.2.2.1, .int a0, .ref 0]) (w' := (cM 0 sp tk sv mf mo mn ma kv tv)) (by decide +kernel) rfl trivial ?_
  obtain ⟨r1001, h_1001, hf⟩ := bnd_s hf
  refine m_cV0 M (rest := []) (w2 := (cM 0 sp tk sv r1001.2 mo mn ma kv tv)) (st2 := [.int r1001.1]) (run_X4_noSlate a0 sp.2.2.2.2.2.1   sp tk sv mf mo mn ma kv tv h_1001) cv_X4_noSlate lk_X4_291 (by decide +kernel) (List.range 26) List.nodup_range ⟨(by rw [List.length_range]; exact Nat.le_refl _), Nat.le_of_ble_eq_true rfl⟩ (hwId rfl) rfl rfl (Nat.le_of_ble_eq_true rfl) ⟨by decide, by decide⟩ rfl rfl ⟨Nat.zero_le _, Nat.zero_le _⟩ (hpId rfl rfl) rfl ?_
  refine m_run M (is := [(9, .istore_n 2, 0), (10, .iload_n 2, 0)]) (pc' := 11) (L' := [some (.ref 0), some (.int a0), some (.int r1001.1), none, none, none, none]) (st' := [.int r1001.1]) (w' := (cM 0 sp tk sv r1001.2 mo mn ma kv tv)) (by decide +kernel) rfl trivial ?_
  rcases ite_s hf with ⟨c_1002, hf⟩ | ⟨c_1002, hf⟩
  · refine m_jT M (i := .ifCond .eq 5) 16 (by decide +kernel) rfl (by decide) c_1002 ?_
    refine m_run M (is := [(16, .iconst 0, 0), (17, .istore_n 3, 0), (18, .iconst 0, 0), (19, .istore 4, 0)]) (pc' := 21) (L' := [some (.ref 0), some (.int a0), some (.int r1001.1), some (.int 0), some (.int 0), none, none]) (st' := []) (w' := (cM 0 sp tk sv r1001.2 mo mn ma kv tv)) (by decide +kernel) rfl trivial ?_
    refine m_wk M [some (.ref 0), some (.int a0), none, some (.int 0), some (.int 0), none, none] ⟨Or.inr rfl, Or.inr rfl, Or.inl rfl, Or.inr rfl, Or.inr rfl, Or.inr rfl, Or.inr rfl, trivial⟩ ?_
    exact loop_0 a0 fuel0 0 0 r1001.2 hf
  · refine m_jF M (i := .ifCond .eq 5) 16 (by decide +kernel) rfl (by decide) c_1002 ?_
    refine m_run M (is := [(14, .iload_n 2, 0)]) (pc' := 15) (L' := [some (.ref 0), some (.int a0), some (.int r1001.1), none, none, none, none]) (st' := [.int r1001.1]) (w' := (cM 0 sp tk sv r1001.2 mo mn ma kv tv)) (by decide +kernel) rfl trivial ?_
    obtain rfl := Option.some.inj hf
    exact m_iret K (by decide +kernel) (Nat.zero_le _) (Nat.zero_le _) ⟨rfl, rfl⟩

def f_X4_unserved_L0 (sp : ShT) : Nat → Int32 → Int32 → Option (Int32)
  | 0, _, _ => none
  | n_ + 1, v1, v2 =>
    if sp.2.2.2.2.2.1 ≤ v2 then
      some v1
    else
      if inB v2 16 then
      if (sp.2.1 v2.toNatClampNeg) = 0 then
        f_X4_unserved_L0 sp n_ (v1 ||| (1 <<< (v2 &&& 31))) (v2 + 1)
      else
        f_X4_unserved_L0 sp n_ (v1 ||| 0) (v2 + 1)
      else none
def f_X4_unserved (sp : ShT) : Option (Int32) :=
  f_X4_unserved_L0 sp fuel0 0 0
set_option maxRecDepth 100000 in
set_option maxHeartbeats 4000000 in
theorem run_X4_unserved {l : Launch} {D : va_G} {cT : Nat → ClassId}    (sp : ShT) (tk : TkT) (sv : SvT) (mf : AI) (mo : AI) (mn : AI) (ma : AI) (kv : Value) (tv : Value) {r : Int32} (hf : f_X4_unserved sp = some r) : Runs l D cT yX4_unserved cX4_unserved 3 (some .int) 0 0 [.ref 0] (cM 0 sp tk sv mf mo mn ma kv tv) (EQ (some (.int r)) (cM 0 sp tk sv mf mo mn ma kv tv)) := by
  refine runs_of O_X4 okO_X4 (by decide +kernel) rfl rfl (Nat.le_of_ble_eq_true rfl) (Nat.le_of_ble_eq_true rfl) (fun g K => ?_)
  have M := K.b
  show g 0 0 (cM 0 sp tk sv mf mo mn ma kv tv) 0 [some (.ref 0), none, none] []
  have loop_0 : ∀ (n_ : Nat), (∀ (v1 : Int32) (v2 : Int32), f_X4_unserved_L0 sp n_ v1 v2 = some r → g 0 0 (cM 0 sp tk sv mf mo mn ma kv tv) 4 [some (.ref 0), some (.int v1), some (.int v2)] []) := by
    intro n_
    induction n_ with
    | zero => intro v1 v2 hf; cases hf
    | succ n_ ih =>
      intro v1 v2 hf
      rw [f_X4_unserved_L0] at hf
      refine m_run M (is := [(4, .iload_n 2, 0), (5, .aload_n 0, 0), (6, .getfield 69, 0)]) (pc' := 9) (L' := [some (.ref 0), some (.int v1), some (.int v2)]) (st' := [.int sp.2.2.2.2.2.1, .int v2]) (w' := (cM 0 sp tk sv mf mo mn ma kv tv)) (by decide +kernel) rfl trivial ?_
      rcases ite_s hf with ⟨c_101, hf⟩ | ⟨c_101, hf⟩
      · refine m_jT M (i := .if_icmp .ge 28) 37 (by decide +kernel) rfl (by decide) c_101 ?_
        refine m_run M (is := [(37, .iload_n 1, 0)]) (pc' := 38) (L' := [some (.ref 0), some (.int v1), some (.int v2)]) (st' := [.int v1]) (w' := (cM 0 sp tk sv mf mo mn ma kv tv)) (by decide +kernel) rfl trivial ?_
        obtain rfl := Option.some.inj hf
        exact m_iret K (by decide +kernel) (Nat.zero_le _) (Nat.zero_le _) ⟨rfl, rfl⟩
      · refine m_jF M (i := .if_icmp .ge 28) 37 (by decide +kernel) rfl (by decide) c_101 ?_
        obtain ⟨h_102, hf⟩ := grd_s hf
        refine m_run M (is := [(12, .iload_n 1, 0), (13, .aload_n 0, 0), (14, .getfield 40, 0), (17, .iload_n 2, 0), (18, .iaload, 0)]) (pc' := 19) (L' := [some (.ref 0), some (.int v1), some (.int v2)]) (st' := [.int (sp.2.1 v2.toNatClampNeg), .int v1]) (w' := (cM 0 sp tk sv mf mo mn ma kv tv)) (by decide +kernel) rfl ⟨inB_use h_102, trivial⟩ ?_
        rcases ite_s hf with ⟨c_103, hf⟩ | ⟨c_103, hf⟩
        · refine m_jF M (i := .ifCond .ne 9) 28 (by decide +kernel) rfl (by decide) (fun n => n c_103) ?_
          refine m_run M (is := [(22, .iconst 1, 1), (23, .iload_n 2, 0), (24, .ishl, 0), (25, .goto 4, 0), (29, .ior, 0), (30, .istore_n 1, 0), (31, .iinc 2 1, 1), (34, .goto (-30), 0)]) (pc' := 4) (L' := [some (.ref 0), some (.int (v1 ||| (1 <<< (v2 &&& 31)))), some (.int (v2 + 1))]) (st' := []) (w' := (cM 0 sp tk sv mf mo mn ma kv tv)) (by decide +kernel) rfl trivial ?_
          exact ih (v1 ||| (1 <<< (v2 &&& 31))) (v2 + 1) hf
        · refine m_jT M (i := .ifCond .ne 9) 28 (by decide +kernel) rfl (by decide) c_103 ?_
          refine m_run M (is := [(28, .iconst 0, 0), (29, .ior, 0), (30, .istore_n 1, 0), (31, .iinc 2 1, 1), (34, .goto (-30), 0)]) (pc' := 4) (L' := [some (.ref 0), some (.int (v1 ||| 0)), some (.int (v2 + 1))]) (st' := []) (w' := (cM 0 sp tk sv mf mo mn ma kv tv)) (by decide +kernel) rfl trivial ?_
          exact ih (v1 ||| 0) (v2 + 1) hf
  rw [f_X4_unserved] at hf
  refine m_run M (is := [(0, .iconst 0, 0), (1, .istore_n 1, 0), (2, .iconst 0, 0), (3, .istore_n 2, 0)]) (pc' := 4) (L' := [some (.ref 0), some (.int 0), some (.int 0)]) (st' := []) (w' := (cM 0 sp tk sv mf mo mn ma kv tv)) (by decide +kernel) rfl trivial ?_
  exact loop_0 fuel0 0 0 hf

def f_X4_longestOf_L0 (sp : ShT) : Nat → Int32 → Int32 → Option (Int32)
  | 0, _, _ => none
  | n_ + 1, v1, v2 =>
    if sp.2.2.2.2.2.1 ≤ v2 then
      some v1
    else
      if inB v2 16 then
      if inB v1 16 then
      if (sp.2.2.1 v2.toNatClampNeg) ≤ (sp.2.2.1 v1.toNatClampNeg) then
        f_X4_longestOf_L0 sp n_ v1 (v2 + 1)
      else
        f_X4_longestOf_L0 sp n_ v2 (v2 + 1)
      else none
      else none
def f_X4_longestOf (sp : ShT) : Option (Int32) :=
  f_X4_longestOf_L0 sp fuel0 0 1
set_option maxRecDepth 100000 in
set_option maxHeartbeats 4000000 in
theorem run_X4_longestOf {l : Launch} {D : va_G} {cT : Nat → ClassId}    (sp : ShT) (tk : TkT) (sv : SvT) (mf : AI) (mo : AI) (mn : AI) (ma : AI) (kv : Value) (tv : Value) {r : Int32} (hf : f_X4_longestOf sp = some r) : Runs l D cT yX4_longestOf cX4_longestOf 3 (some .int) 0 0 [.ref 0] (cM 0 sp tk sv mf mo mn ma kv tv) (EQ (some (.int r)) (cM 0 sp tk sv mf mo mn ma kv tv)) := by
  refine runs_of O_X4 okO_X4 (by decide +kernel) rfl rfl (Nat.le_of_ble_eq_true rfl) (Nat.le_of_ble_eq_true rfl) (fun g K => ?_)
  have M := K.b
  show g 0 0 (cM 0 sp tk sv mf mo mn ma kv tv) 0 [some (.ref 0), none, none] []
  have loop_0 : ∀ (n_ : Nat), (∀ (v1 : Int32) (v2 : Int32), f_X4_longestOf_L0 sp n_ v1 v2 = some r → g 0 0 (cM 0 sp tk sv mf mo mn ma kv tv) 4 [some (.ref 0), some (.int v1), some (.int v2)] []) := by
    intro n_
    induction n_ with
    | zero => intro v1 v2 hf; cases hf
    | succ n_ ih =>
      intro v1 v2 hf
      rw [f_X4_longestOf_L0] at hf
      refine m_run M (is := [(4, .iload_n 2, 0), (5, .aload_n 0, 0), (6, .getfield 69, 0)]) (pc' := 9) (L' := [some (.ref 0), some (.int v1), some (.int v2)]) (st' := [.int sp.2.2.2.2.2.1, .int v2]) (w' := (cM 0 sp tk sv mf mo mn ma kv tv)) (by decide +kernel) rfl trivial ?_
      rcases ite_s hf with ⟨c_101, hf⟩ | ⟨c_101, hf⟩
      · refine m_jT M (i := .if_icmp .ge 30) 39 (by decide +kernel) rfl (by decide) c_101 ?_
        refine m_run M (is := [(39, .iload_n 1, 0)]) (pc' := 40) (L' := [some (.ref 0), some (.int v1), some (.int v2)]) (st' := [.int v1]) (w' := (cM 0 sp tk sv mf mo mn ma kv tv)) (by decide +kernel) rfl trivial ?_
        obtain rfl := Option.some.inj hf
        exact m_iret K (by decide +kernel) (Nat.zero_le _) (Nat.zero_le _) ⟨rfl, rfl⟩
      · refine m_jF M (i := .if_icmp .ge 30) 39 (by decide +kernel) rfl (by decide) c_101 ?_
        obtain ⟨h_102, hf⟩ := grd_s hf
        obtain ⟨h_103, hf⟩ := grd_s hf
        refine m_run M (is := [(12, .aload_n 0, 0), (13, .getfield 43, 0), (16, .iload_n 2, 0), (17, .iaload, 0), (18, .aload_n 0, 0), (19, .getfield 43, 0), (22, .iload_n 1, 0), (23, .iaload, 0)]) (pc' := 24) (L' := [some (.ref 0), some (.int v1), some (.int v2)]) (st' := [.int (sp.2.2.1 v1.toNatClampNeg), .int (sp.2.2.1 v2.toNatClampNeg)]) (w' := (cM 0 sp tk sv mf mo mn ma kv tv)) (by decide +kernel) rfl ⟨inB_use h_102, inB_use h_103, trivial⟩ ?_
        rcases ite_s hf with ⟨c_104, hf⟩ | ⟨c_104, hf⟩
        · refine m_jT M (i := .if_icmp .le 7) 31 (by decide +kernel) rfl (by decide) c_104 ?_
          refine m_run M (is := [(31, .iload_n 1, 0), (32, .istore_n 1, 0), (33, .iinc 2 1, 1), (36, .goto (-32), 0)]) (pc' := 4) (L' := [some (.ref 0), some (.int v1), some (.int (v2 + 1))]) (st' := []) (w' := (cM 0 sp tk sv mf mo mn ma kv tv)) (by decide +kernel) rfl trivial ?_
          exact ih v1 (v2 + 1) hf
        · refine m_jF M (i := .if_icmp .le 7) 31 (by decide +kernel) rfl (by decide) c_104 ?_
          refine m_run M (is := [(27, .iload_n 2, 0), (28, .goto 4, 0), (32, .istore_n 1, 0), (33, .iinc 2 1, 1), (36, .goto (-32), 0)]) (pc' := 4) (L' := [some (.ref 0), some (.int v2), some (.int (v2 + 1))]) (st' := []) (w' := (cM 0 sp tk sv mf mo mn ma kv tv)) (by decide +kernel) rfl trivial ?_
          exact ih v2 (v2 + 1) hf
  rw [f_X4_longestOf] at hf
  refine m_run M (is := [(0, .iconst 0, 0), (1, .istore_n 1, 0), (2, .iconst 1, 1), (3, .istore_n 2, 0)]) (pc' := 4) (L' := [some (.ref 0), some (.int 0), some (.int 1)]) (st' := []) (w' := (cM 0 sp tk sv mf mo mn ma kv tv)) (by decide +kernel) rfl trivial ?_
  exact loop_0 fuel0 0 1 hf

def f_X4_longest (sp : ShT) (mf : AI) : Option (Int32 × AI) :=
  if sp.2.2.2.2.2.1 = 0 then
    (f_X4_refuse (-5) mf).bind fun r1002 =>
    some (r1002.1, r1002.2)
  else
    (f_X4_longestOf sp).bind fun r1003 =>
    some (r1003, mf)
set_option maxRecDepth 100000 in
set_option maxHeartbeats 4000000 in
theorem run_X4_longest {l : Launch} {D : va_G} {cT : Nat → ClassId}    (sp : ShT) (tk : TkT) (sv : SvT) (mf : AI) (mo : AI) (mn : AI) (ma : AI) (kv : Value) (tv : Value) {r : Int32 × AI} (hf : f_X4_longest sp mf = some r) : Runs l D cT yX4_longest cX4_longest 1 (some .int) 1 22 [.ref 0] (cM 0 sp tk sv mf mo mn ma kv tv) (EQ (some (.int r.1)) (cM 0 sp tk sv r.2 mo mn ma kv tv)) := by
  refine runs_of O_X4 okO_X4 (by decide +kernel) rfl rfl (Nat.le_of_ble_eq_true rfl) (Nat.le_of_ble_eq_true rfl) (fun g K => ?_)
  have M := K.b
  show g 0 0 (cM 0 sp tk sv mf mo mn ma kv tv) 0 [some (.ref 0)] []
  rw [f_X4_longest] at hf
  refine m_run M (is := [(0, .aload_n 0, 0), (1, .getfield 69, 0)]) (pc' := 4) (L' := [some (.ref 0)]) (st' := [.int sp.2.2.2.2.2.1]) (w' := (cM 0 sp tk sv mf mo mn ma kv tv)) (by decide +kernel) rfl trivial ?_
  rcases ite_s hf with ⟨c_1001, hf⟩ | ⟨c_1001, hf⟩
  · refine m_jF M (i := .ifCond .ne 12) 16 (by decide +kernel) rfl (by decide) (fun n => n c_1001) ?_
    refine m_run M (is := [(7, .aload_n 0, 0), (8, .bipush (-5), -5)]) (pc' := 10) (L' := [some (.ref 0)]) (st' := [.int (-5), .ref 0]) (w' := (cM 0 sp tk sv mf mo mn ma kv tv)) (by decide +kernel) rfl trivial ?_
    obtain ⟨r1002, h_1002, hf⟩ := bnd_s hf
    refine m_cV0 M (rest := []) (w2 := (cM 0 sp tk sv r1002.2 mo mn ma kv tv)) (st2 := [.int r1002.1]) (run_X4_refuse (-5)   sp tk sv mf mo mn ma kv tv h_1002) cv_X4_refuse lk_X4_85 (by decide +kernel) (List.range 26) List.nodup_range ⟨(by rw [List.length_range]; exact Nat.le_refl _), Nat.le_of_ble_eq_true rfl⟩ (hwId rfl) rfl rfl (Nat.le_of_ble_eq_true rfl) ⟨by decide, by decide⟩ rfl rfl ⟨Nat.zero_le _, Nat.zero_le _⟩ (hpId rfl rfl) rfl ?_
    refine m_run M (is := [(13, .goto 7, 0)]) (pc' := 20) (L' := [some (.ref 0)]) (st' := [.int r1002.1]) (w' := (cM 0 sp tk sv r1002.2 mo mn ma kv tv)) (by decide +kernel) rfl trivial ?_
    obtain rfl := Option.some.inj hf
    exact m_iret K (by decide +kernel) (Nat.zero_le _) (Nat.zero_le _) ⟨rfl, rfl⟩
  · refine m_jT M (i := .ifCond .ne 12) 16 (by decide +kernel) rfl (by decide) c_1001 ?_
    refine m_run M (is := [(16, .aload_n 0, 0)]) (pc' := 17) (L' := [some (.ref 0)]) (st' := [.ref 0]) (w' := (cM 0 sp tk sv mf mo mn ma kv tv)) (by decide +kernel) rfl trivial ?_
    obtain ⟨r1003, h_1003, hf⟩ := bnd_s hf
    refine m_cV0 M (rest := []) (w2 := (cM 0 sp tk sv mf mo mn ma kv tv)) (st2 := [.int r1003]) (run_X4_longestOf    sp tk sv mf mo mn ma kv tv h_1003) cv_X4_longestOf lk_X4_314 (by decide +kernel) (List.range 26) List.nodup_range ⟨(by rw [List.length_range]; exact Nat.le_refl _), Nat.le_of_ble_eq_true rfl⟩ (hwId rfl) rfl rfl (Nat.le_of_ble_eq_true rfl) ⟨by decide, by decide⟩ rfl rfl ⟨Nat.zero_le _, Nat.zero_le _⟩ (hpId rfl rfl) rfl ?_
    obtain rfl := Option.some.inj hf
    exact m_iret K (by decide +kernel) (Nat.zero_le _) (Nat.zero_le _) ⟨rfl, rfl⟩

def f_X4_ranked_L0 (v1 : Int32) (sp : ShT) : Nat → Nat → Int32 → Int32 → Int32 → Int32 → AI → Option (Int32 × AI)
  | 0, _, _, _, _, _, _ => none
  | n_ + 1, lb_, v2, v3, v4, v5, mf =>
    if lb_ = 0 then
      if v1 < v4 then
        some (v3, mf)
      else
        f_X4_ranked_L0 v1 sp n_ 1 v2 (-1) v4 0 mf
    else
      if sp.2.2.2.2.2.1 ≤ v5 then
        f_X4_ranked_L0 v1 sp n_ 0 (v2 ||| (1 <<< (v3 &&& 31))) v3 (v4 + 1) 0 mf
      else
        (f_X4_has v2 v5).bind fun r122 =>
        if r122 = 0 then
          if v3 = (-1) then
            f_X4_ranked_L0 v1 sp n_ 1 v2 v5 v4 (v5 + 1) mf
          else
            if inB v5 16 then
            if inB v3 16 then
            if (sp.2.1 v5.toNatClampNeg) ≤ (sp.2.1 v3.toNatClampNeg) then
              f_X4_ranked_L0 v1 sp n_ 1 v2 v3 v4 (v5 + 1) mf
            else
              f_X4_ranked_L0 v1 sp n_ 1 v2 v5 v4 (v5 + 1) mf
            else none
            else none
        else
          f_X4_ranked_L0 v1 sp n_ 1 v2 v3 v4 (v5 + 1) mf
def f_X4_ranked (a0 : Int32) (sp : ShT) (mf : AI) : Option (Int32 × AI) :=
  (f_X4_isPerson ((a0).toInt64) sp).bind fun r1001 =>
  if r1001 = 0 then
    (f_X4_refuse (-2) mf).bind fun r1003 =>
    some (r1003.1, r1003.2)
  else
    f_X4_ranked_L0 a0 sp fuel0 0 0 (-1) 0 0 mf
set_option maxRecDepth 100000 in
set_option maxHeartbeats 4000000 in
theorem run_X4_ranked {l : Launch} {D : va_G} {cT : Nat → ClassId} (a0 : Int32)   (sp : ShT) (tk : TkT) (sv : SvT) (mf : AI) (mo : AI) (mn : AI) (ma : AI) (kv : Value) (tv : Value) {r : Int32 × AI} (hf : f_X4_ranked a0 sp mf = some r) : Runs l D cT yX4_ranked cX4_ranked 6 (some .int) 2 47 [.ref 0, .int a0] (cM 0 sp tk sv mf mo mn ma kv tv) (EQ (some (.int r.1)) (cM 0 sp tk sv r.2 mo mn ma kv tv)) := by
  refine runs_of O_X4 okO_X4 (by decide +kernel) rfl rfl (Nat.le_of_ble_eq_true rfl) (Nat.le_of_ble_eq_true rfl) (fun g K => ?_)
  have M := K.b
  show g 0 0 (cM 0 sp tk sv mf mo mn ma kv tv) 0 [some (.ref 0), some (.int a0), none, none, none, none] []
  have loop_0 : ∀ (v1 : Int32) (n_ : Nat), (∀ (v2 : Int32) (v3 : Int32) (v4 : Int32) (v5 : Int32) (mf : AI), f_X4_ranked_L0 v1 sp n_ 0 v2 v3 v4 v5 mf = some r → g 0 0 (cM 0 sp tk sv mf mo mn ma kv tv) 23 [some (.ref 0), some (.int v1), some (.int v2), some (.int v3), some (.int v4), none] []) ∧ (∀ (v2 : Int32) (v3 : Int32) (v4 : Int32) (v5 : Int32) (mf : AI), f_X4_ranked_L0 v1 sp n_ 1 v2 v3 v4 v5 mf = some r → g 0 0 (cM 0 sp tk sv mf mo mn ma kv tv) 34 [some (.ref 0), some (.int v1), some (.int v2), some (.int v3), some (.int v4), some (.int v5)] []) := by
    intro v1 n_
    induction n_ with
    | zero => exact ⟨fun v2 v3 v4 v5 mf hf => (by cases hf), fun v2 v3 v4 v5 mf hf => (by cases hf)⟩
    | succ n_ ih =>
      refine ⟨?_, ?_⟩
      · intro v2 v3 v4 v5 mf hf
        rw [f_X4_ranked_L0] at hf
        rw [if_pos rfl] at hf
        refine m_run M (is := [(23, .iload 4, 0), (25, .iload_n 1, 0)]) (pc' := 26) (L' := [some (.ref 0), some (.int v1), some (.int v2), some (.int v3), some (.int v4), none]) (st' := [.int v1, .int v4]) (w' := (cM 0 sp tk sv mf mo mn ma kv tv)) (by decide +kernel) rfl trivial ?_
        rcases ite_s hf with ⟨c_101, hf⟩ | ⟨c_101, hf⟩
        · refine m_jT M (i := .if_icmp .gt 68) 94 (by decide +kernel) rfl (by decide) c_101 ?_
          refine m_run M (is := [(94, .iload_n 3, 0)]) (pc' := 95) (L' := [some (.ref 0), some (.int v1), some (.int v2), some (.int v3), some (.int v4), none]) (st' := [.int v3]) (w' := (cM 0 sp tk sv mf mo mn ma kv tv)) (by decide +kernel) rfl trivial ?_
          obtain rfl := Option.some.inj hf
          exact m_iret K (by decide +kernel) (Nat.zero_le _) (Nat.zero_le _) ⟨rfl, rfl⟩
        · refine m_jF M (i := .if_icmp .gt 68) 94 (by decide +kernel) rfl (by decide) c_101 ?_
          refine m_run M (is := [(29, .iconst (-1), -1), (30, .istore_n 3, 0), (31, .iconst 0, 0), (32, .istore 5, 0)]) (pc' := 34) (L' := [some (.ref 0), some (.int v1), some (.int v2), some (.int (-1)), some (.int v4), some (.int 0)]) (st' := []) (w' := (cM 0 sp tk sv mf mo mn ma kv tv)) (by decide +kernel) rfl trivial ?_
          exact (ih).2 v2 (-1) v4 0 mf hf
      · intro v2 v3 v4 v5 mf hf
        rw [f_X4_ranked_L0] at hf
        rw [if_neg (by decide)] at hf
        refine m_run M (is := [(34, .iload 5, 0), (36, .aload_n 0, 0), (37, .getfield 69, 0)]) (pc' := 40) (L' := [some (.ref 0), some (.int v1), some (.int v2), some (.int v3), some (.int v4), some (.int v5)]) (st' := [.int sp.2.2.2.2.2.1, .int v5]) (w' := (cM 0 sp tk sv mf mo mn ma kv tv)) (by decide +kernel) rfl trivial ?_
        rcases ite_s hf with ⟨c_121, hf⟩ | ⟨c_121, hf⟩
        · refine m_jT M (i := .if_icmp .ge 42) 82 (by decide +kernel) rfl (by decide) c_121 ?_
          refine m_run M (is := [(82, .iload_n 2, 0), (83, .iconst 1, 1), (84, .iload_n 3, 0), (85, .ishl, 0), (86, .ior, 0), (87, .istore_n 2, 0), (88, .iinc 4 1, 1), (91, .goto (-68), 0)]) (pc' := 23) (L' := [some (.ref 0), some (.int v1), some (.int (v2 ||| (1 <<< (v3 &&& 31)))), some (.int v3), some (.int (v4 + 1)), some (.int v5)]) (st' := []) (w' := (cM 0 sp tk sv mf mo mn ma kv tv)) (by decide +kernel) rfl trivial ?_
          refine m_wk M [some (.ref 0), some (.int v1), some (.int (v2 ||| (1 <<< (v3 &&& 31)))), some (.int v3), some (.int (v4 + 1)), none] ⟨Or.inr rfl, Or.inr rfl, Or.inr rfl, Or.inr rfl, Or.inr rfl, Or.inl rfl, trivial⟩ ?_
          exact (ih).1 (v2 ||| (1 <<< (v3 &&& 31))) v3 (v4 + 1) 0 mf hf
        · refine m_jF M (i := .if_icmp .ge 42) 82 (by decide +kernel) rfl (by decide) c_121 ?_
          refine m_run M (is := [(43, .iload_n 2, 0), (44, .iload 5, 0)]) (pc' := 46) (L' := [some (.ref 0), some (.int v1), some (.int v2), some (.int v3), some (.int v4), some (.int v5)]) (st' := [.int v5, .int v2]) (w' := (cM 0 sp tk sv mf mo mn ma kv tv)) (by decide +kernel) rfl trivial ?_
          obtain ⟨r122, h_122, hf⟩ := bnd_s hf
          refine m_cS0 M (rest := []) (w2 := (cM 0 sp tk sv mf mo mn ma kv tv)) (st2 := [.int r122]) (run_X4_has v2 v5    h_122) cs_X4_has lk_X4_317 (by decide +kernel) [] (by decide) ⟨Nat.le_of_ble_eq_true rfl, Nat.le_of_ble_eq_true rfl⟩ rfl rfl (Nat.le_of_ble_eq_true rfl) ⟨by decide, by decide⟩ rfl rfl ⟨Nat.zero_le _, Nat.zero_le _⟩ rfl rfl ?_
          rcases ite_s hf with ⟨c_123, hf⟩ | ⟨c_123, hf⟩
          · refine m_jF M (i := .ifCond .ne 27) 76 (by decide +kernel) rfl (by decide) (fun n => n c_123) ?_
            refine m_run M (is := [(52, .iload_n 3, 0), (53, .iconst (-1), -1)]) (pc' := 54) (L' := [some (.ref 0), some (.int v1), some (.int v2), some (.int v3), some (.int v4), some (.int v5)]) (st' := [.int (-1), .int v3]) (w' := (cM 0 sp tk sv mf mo mn ma kv tv)) (by decide +kernel) rfl trivial ?_
            rcases ite_s hf with ⟨c_124, hf⟩ | ⟨c_124, hf⟩
            · refine m_jT M (i := .if_icmp .eq 19) 73 (by decide +kernel) rfl (by decide) c_124 ?_
              refine m_run M (is := [(73, .iload 5, 0), (75, .istore_n 3, 0), (76, .iinc 5 1, 1), (79, .goto (-45), 0)]) (pc' := 34) (L' := [some (.ref 0), some (.int v1), some (.int v2), some (.int v5), some (.int v4), some (.int (v5 + 1))]) (st' := []) (w' := (cM 0 sp tk sv mf mo mn ma kv tv)) (by decide +kernel) rfl trivial ?_
              exact (ih).2 v2 v5 v4 (v5 + 1) mf hf
            · refine m_jF M (i := .if_icmp .eq 19) 73 (by decide +kernel) rfl (by decide) c_124 ?_
              obtain ⟨h_125, hf⟩ := grd_s hf
              obtain ⟨h_126, hf⟩ := grd_s hf
              refine m_run M (is := [(57, .aload_n 0, 0), (58, .getfield 40, 0), (61, .iload 5, 0), (63, .iaload, 0), (64, .aload_n 0, 0), (65, .getfield 40, 0), (68, .iload_n 3, 0), (69, .iaload, 0)]) (pc' := 70) (L' := [some (.ref 0), some (.int v1), some (.int v2), some (.int v3), some (.int v4), some (.int v5)]) (st' := [.int (sp.2.1 v3.toNatClampNeg), .int (sp.2.1 v5.toNatClampNeg)]) (w' := (cM 0 sp tk sv mf mo mn ma kv tv)) (by decide +kernel) rfl ⟨inB_use h_125, inB_use h_126, trivial⟩ ?_
              rcases ite_s hf with ⟨c_127, hf⟩ | ⟨c_127, hf⟩
              · refine m_jT M (i := .if_icmp .le 6) 76 (by decide +kernel) rfl (by decide) c_127 ?_
                refine m_run M (is := [(76, .iinc 5 1, 1), (79, .goto (-45), 0)]) (pc' := 34) (L' := [some (.ref 0), some (.int v1), some (.int v2), some (.int v3), some (.int v4), some (.int (v5 + 1))]) (st' := []) (w' := (cM 0 sp tk sv mf mo mn ma kv tv)) (by decide +kernel) rfl trivial ?_
                exact (ih).2 v2 v3 v4 (v5 + 1) mf hf
              · refine m_jF M (i := .if_icmp .le 6) 76 (by decide +kernel) rfl (by decide) c_127 ?_
                refine m_run M (is := [(73, .iload 5, 0), (75, .istore_n 3, 0), (76, .iinc 5 1, 1), (79, .goto (-45), 0)]) (pc' := 34) (L' := [some (.ref 0), some (.int v1), some (.int v2), some (.int v5), some (.int v4), some (.int (v5 + 1))]) (st' := []) (w' := (cM 0 sp tk sv mf mo mn ma kv tv)) (by decide +kernel) rfl trivial ?_
                exact (ih).2 v2 v5 v4 (v5 + 1) mf hf
          · refine m_jT M (i := .ifCond .ne 27) 76 (by decide +kernel) rfl (by decide) c_123 ?_
            refine m_run M (is := [(76, .iinc 5 1, 1), (79, .goto (-45), 0)]) (pc' := 34) (L' := [some (.ref 0), some (.int v1), some (.int v2), some (.int v3), some (.int v4), some (.int (v5 + 1))]) (st' := []) (w' := (cM 0 sp tk sv mf mo mn ma kv tv)) (by decide +kernel) rfl trivial ?_
            exact (ih).2 v2 v3 v4 (v5 + 1) mf hf
  rw [f_X4_ranked] at hf
  refine m_run M (is := [(0, .aload_n 0, 0), (1, .iload_n 1, 0), (2, .i2l, 0)]) (pc' := 3) (L' := [some (.ref 0), some (.int a0), none, none, none, none]) (st' := [.long ((a0).toInt64), .ref 0]) (w' := (cM 0 sp tk sv mf mo mn ma kv tv)) (by decide +kernel) rfl trivial ?_
  obtain ⟨r1001, h_1001, hf⟩ := bnd_s hf
  refine m_cV0 M (rest := []) (w2 := (cM 0 sp tk sv mf mo mn ma kv tv)) (st2 := [.int r1001]) (run_X4_isPerson ((a0).toInt64)   sp tk sv mf mo mn ma kv tv h_1001) cv_X4_isPerson lk_X4_130 (by decide +kernel) (List.range 26) List.nodup_range ⟨(by rw [List.length_range]; exact Nat.le_refl _), Nat.le_of_ble_eq_true rfl⟩ (hwId rfl) rfl rfl (Nat.le_of_ble_eq_true rfl) ⟨by decide, by decide⟩ rfl rfl ⟨Nat.zero_le _, Nat.zero_le _⟩ (hpId rfl rfl) rfl ?_
  rcases ite_s hf with ⟨c_1002, hf⟩ | ⟨c_1002, hf⟩
  · refine m_jF M (i := .ifCond .ne 10) 16 (by decide +kernel) rfl (by decide) (fun n => n c_1002) ?_
    refine m_run M (is := [(9, .aload_n 0, 0), (10, .bipush (-2), -2)]) (pc' := 12) (L' := [some (.ref 0), some (.int a0), none, none, none, none]) (st' := [.int (-2), .ref 0]) (w' := (cM 0 sp tk sv mf mo mn ma kv tv)) (by decide +kernel) rfl trivial ?_
    obtain ⟨r1003, h_1003, hf⟩ := bnd_s hf
    refine m_cV0 M (rest := []) (w2 := (cM 0 sp tk sv r1003.2 mo mn ma kv tv)) (st2 := [.int r1003.1]) (run_X4_refuse (-2)   sp tk sv mf mo mn ma kv tv h_1003) cv_X4_refuse lk_X4_85 (by decide +kernel) (List.range 26) List.nodup_range ⟨(by rw [List.length_range]; exact Nat.le_refl _), Nat.le_of_ble_eq_true rfl⟩ (hwId rfl) rfl rfl (Nat.le_of_ble_eq_true rfl) ⟨by decide, by decide⟩ rfl rfl ⟨Nat.zero_le _, Nat.zero_le _⟩ (hpId rfl rfl) rfl ?_
    obtain rfl := Option.some.inj hf
    exact m_iret K (by decide +kernel) (Nat.zero_le _) (Nat.zero_le _) ⟨rfl, rfl⟩
  · refine m_jT M (i := .ifCond .ne 10) 16 (by decide +kernel) rfl (by decide) c_1002 ?_
    refine m_run M (is := [(16, .iconst 0, 0), (17, .istore_n 2, 0), (18, .iconst (-1), -1), (19, .istore_n 3, 0), (20, .iconst 0, 0), (21, .istore 4, 0)]) (pc' := 23) (L' := [some (.ref 0), some (.int a0), some (.int 0), some (.int (-1)), some (.int 0), none]) (st' := []) (w' := (cM 0 sp tk sv mf mo mn ma kv tv)) (by decide +kernel) rfl trivial ?_
    exact (loop_0 a0 fuel0).1 0 (-1) 0 0 mf hf

def f_X4_serve (a0 : Int32) (sp : ShT) (mf : AI) : Option (Int32 × ShT × AI) :=
  (f_X4_in ((a0).toInt64) 1 99).bind fun r1001 =>
  if r1001 = 0 then
    (f_X4_refuse (-2) mf).bind fun r1003 =>
    some (r1003.1, sp, r1003.2)
  else
    (f_X4_goesOn sp).bind fun r1004 =>
    if r1004 = 0 then
      (f_X4_refuse (-5) mf).bind fun r1006 =>
      some (r1006.1, sp, r1006.2)
    else
      (f_X4_goes a0 sp).bind fun r1007 =>
      if inB 0 16 then
      some ((r1007.1 (0 : Int32).toNatClampNeg), r1007, mf)
      else none
set_option maxRecDepth 100000 in
set_option maxHeartbeats 4000000 in
theorem run_X4_serve {l : Launch} {D : va_G} {cT : Nat → ClassId} (a0 : Int32)   (sp : ShT) (tk : TkT) (sv : SvT) (mf : AI) (mo : AI) (mn : AI) (ma : AI) (kv : Value) (tv : Value) {r : Int32 × ShT × AI} (hf : f_X4_serve a0 sp mf = some r) : Runs l D cT yX4_serve cX4_serve 2 (some .int) 3 70 [.ref 0, .int a0] (cM 0 sp tk sv mf mo mn ma kv tv) (EQ (some (.int r.1)) (cM 0 r.2.1 tk sv r.2.2 mo mn ma kv tv)) := by
  refine runs_of O_X4 okO_X4 (by decide +kernel) rfl rfl (Nat.le_of_ble_eq_true rfl) (Nat.le_of_ble_eq_true rfl) (fun g K => ?_)
  have M := K.b
  show g 0 0 (cM 0 sp tk sv mf mo mn ma kv tv) 0 [some (.ref 0), some (.int a0)] []
  rw [f_X4_serve] at hf
  refine m_run M (is := [(0, .iload_n 1, 0), (1, .i2l, 0), (2, .lconst 1, 0), (3, .ldc2_w 128, 0)]) (pc' := 6) (L' := [some (.ref 0), some (.int a0)]) (st' := [.long 99, .long 1, .long ((a0).toInt64)]) (w' := (cM 0 sp tk sv mf mo mn ma kv tv)) (by decide +kernel) rfl trivial ?_
  obtain ⟨r1001, h_1001, hf⟩ := bnd_s hf
  refine m_cS0 M (rest := []) (w2 := (cM 0 sp tk sv mf mo mn ma kv tv)) (st2 := [.int r1001]) (run_X4_in ((a0).toInt64) 1 99    h_1001) cs_X4_in lk_X4_72 (by decide +kernel) [] (by decide) ⟨Nat.le_of_ble_eq_true rfl, Nat.le_of_ble_eq_true rfl⟩ rfl rfl (Nat.le_of_ble_eq_true rfl) ⟨by decide, by decide⟩ rfl rfl ⟨Nat.zero_le _, Nat.zero_le _⟩ rfl rfl ?_
  rcases ite_s hf with ⟨c_1002, hf⟩ | ⟨c_1002, hf⟩
  · refine m_jF M (i := .ifCond .ne 10) 19 (by decide +kernel) rfl (by decide) (fun n => n c_1002) ?_
    refine m_run M (is := [(12, .aload_n 0, 0), (13, .bipush (-2), -2)]) (pc' := 15) (L' := [some (.ref 0), some (.int a0)]) (st' := [.int (-2), .ref 0]) (w' := (cM 0 sp tk sv mf mo mn ma kv tv)) (by decide +kernel) rfl trivial ?_
    obtain ⟨r1003, h_1003, hf⟩ := bnd_s hf
    refine m_cV0 M (rest := []) (w2 := (cM 0 sp tk sv r1003.2 mo mn ma kv tv)) (st2 := [.int r1003.1]) (run_X4_refuse (-2)   sp tk sv mf mo mn ma kv tv h_1003) cv_X4_refuse lk_X4_85 (by decide +kernel) (List.range 26) List.nodup_range ⟨(by rw [List.length_range]; exact Nat.le_refl _), Nat.le_of_ble_eq_true rfl⟩ (hwId rfl) rfl rfl (Nat.le_of_ble_eq_true rfl) ⟨by decide, by decide⟩ rfl rfl ⟨Nat.zero_le _, Nat.zero_le _⟩ (hpId rfl rfl) rfl ?_
    obtain rfl := Option.some.inj hf
    exact m_iret K (by decide +kernel) (Nat.zero_le _) (Nat.zero_le _) ⟨rfl, rfl⟩
  · refine m_jT M (i := .ifCond .ne 10) 19 (by decide +kernel) rfl (by decide) c_1002 ?_
    refine m_run M (is := [(19, .aload_n 0, 0)]) (pc' := 20) (L' := [some (.ref 0), some (.int a0)]) (st' := [.ref 0]) (w' := (cM 0 sp tk sv mf mo mn ma kv tv)) (by decide +kernel) rfl trivial ?_
    obtain ⟨r1004, h_1004, hf⟩ := bnd_s hf
    refine m_cV0 M (rest := []) (w2 := (cM 0 sp tk sv mf mo mn ma kv tv)) (st2 := [.int r1004]) (run_X4_goesOn    sp tk sv mf mo mn ma kv tv h_1004) cv_X4_goesOn lk_X4_184 (by decide +kernel) (List.range 26) List.nodup_range ⟨(by rw [List.length_range]; exact Nat.le_refl _), Nat.le_of_ble_eq_true rfl⟩ (hwId rfl) rfl rfl (Nat.le_of_ble_eq_true rfl) ⟨by decide, by decide⟩ rfl rfl ⟨Nat.zero_le _, Nat.zero_le _⟩ (hpId rfl rfl) rfl ?_
    rcases ite_s hf with ⟨c_1005, hf⟩ | ⟨c_1005, hf⟩
    · refine m_jF M (i := .ifCond .ne 10) 33 (by decide +kernel) rfl (by decide) (fun n => n c_1005) ?_
      refine m_run M (is := [(26, .aload_n 0, 0), (27, .bipush (-5), -5)]) (pc' := 29) (L' := [some (.ref 0), some (.int a0)]) (st' := [.int (-5), .ref 0]) (w' := (cM 0 sp tk sv mf mo mn ma kv tv)) (by decide +kernel) rfl trivial ?_
      obtain ⟨r1006, h_1006, hf⟩ := bnd_s hf
      refine m_cV0 M (rest := []) (w2 := (cM 0 sp tk sv r1006.2 mo mn ma kv tv)) (st2 := [.int r1006.1]) (run_X4_refuse (-5)   sp tk sv mf mo mn ma kv tv h_1006) cv_X4_refuse lk_X4_85 (by decide +kernel) (List.range 26) List.nodup_range ⟨(by rw [List.length_range]; exact Nat.le_refl _), Nat.le_of_ble_eq_true rfl⟩ (hwId rfl) rfl rfl (Nat.le_of_ble_eq_true rfl) ⟨by decide, by decide⟩ rfl rfl ⟨Nat.zero_le _, Nat.zero_le _⟩ (hpId rfl rfl) rfl ?_
      obtain rfl := Option.some.inj hf
      exact m_iret K (by decide +kernel) (Nat.zero_le _) (Nat.zero_le _) ⟨rfl, rfl⟩
    · refine m_jT M (i := .ifCond .ne 10) 33 (by decide +kernel) rfl (by decide) c_1005 ?_
      refine m_run M (is := [(33, .aload_n 0, 0), (34, .iload_n 1, 0)]) (pc' := 35) (L' := [some (.ref 0), some (.int a0)]) (st' := [.int a0, .ref 0]) (w' := (cM 0 sp tk sv mf mo mn ma kv tv)) (by decide +kernel) rfl trivial ?_
      obtain ⟨r1007, h_1007, hf⟩ := bnd_s hf
      refine m_cV0 M (rest := []) (w2 := (cM 0 r1007 tk sv mf mo mn ma kv tv)) (st2 := []) (run_X4_goes a0   sp tk sv mf mo mn ma kv tv h_1007) cv_X4_goes lk_X4_187 (by decide +kernel) (List.range 26) List.nodup_range ⟨(by rw [List.length_range]; exact Nat.le_refl _), Nat.le_of_ble_eq_true rfl⟩ (hwId rfl) rfl rfl (Nat.le_of_ble_eq_true rfl) ⟨by decide, by decide⟩ rfl rfl ⟨Nat.zero_le _, Nat.zero_le _⟩ (hpId rfl rfl) rfl ?_
      obtain ⟨h_1008, hf⟩ := grd_s hf
      refine m_run M (is := [(38, .aload_n 0, 0), (39, .getfield 37, 0), (42, .iconst 0, 0), (43, .iaload, 0)]) (pc' := 44) (L' := [some (.ref 0), some (.int a0)]) (st' := [.int (r1007.1 (0 : Int32).toNatClampNeg)]) (w' := (cM 0 r1007 tk sv mf mo mn ma kv tv)) (by decide +kernel) rfl ⟨inB_use h_1008, trivial⟩ ?_
      obtain rfl := Option.some.inj hf
      exact m_iret K (by decide +kernel) (Nat.zero_le _) (Nat.zero_le _) ⟨rfl, rfl⟩

def f_X4_lets (a0 : Int32) (sp : ShT) (mf : AI) : Option (Int32 × ShT × AI) :=
  (f_X4_isPerson ((a0).toInt64) sp).bind fun r1001 =>
  if r1001 = 0 then
    (f_X4_refuse (-2) mf).bind fun r1003 =>
    some (r1003.1, sp, r1003.2)
  else
    if a0 = (sp.2.2.2.2.2.1 - 1) then
      (f_X4_refuse (-5) mf).bind fun r1005 =>
      some (r1005.1, sp, r1005.2)
    else
      (f_X4_lettingAt a0 sp).bind fun r1006 =>
      if inB a0 16 then
      some ((r1006.1 a0.toNatClampNeg), r1006, mf)
      else none
set_option maxRecDepth 100000 in
set_option maxHeartbeats 4000000 in
theorem run_X4_lets {l : Launch} {D : va_G} {cT : Nat → ClassId} (a0 : Int32)   (sp : ShT) (tk : TkT) (sv : SvT) (mf : AI) (mo : AI) (mn : AI) (ma : AI) (kv : Value) (tv : Value) {r : Int32 × ShT × AI} (hf : f_X4_lets a0 sp mf = some r) : Runs l D cT yX4_lets cX4_lets 2 (some .int) 2 47 [.ref 0, .int a0] (cM 0 sp tk sv mf mo mn ma kv tv) (EQ (some (.int r.1)) (cM 0 r.2.1 tk sv r.2.2 mo mn ma kv tv)) := by
  refine runs_of O_X4 okO_X4 (by decide +kernel) rfl rfl (Nat.le_of_ble_eq_true rfl) (Nat.le_of_ble_eq_true rfl) (fun g K => ?_)
  have M := K.b
  show g 0 0 (cM 0 sp tk sv mf mo mn ma kv tv) 0 [some (.ref 0), some (.int a0)] []
  rw [f_X4_lets] at hf
  refine m_run M (is := [(0, .aload_n 0, 0), (1, .iload_n 1, 0), (2, .i2l, 0)]) (pc' := 3) (L' := [some (.ref 0), some (.int a0)]) (st' := [.long ((a0).toInt64), .ref 0]) (w' := (cM 0 sp tk sv mf mo mn ma kv tv)) (by decide +kernel) rfl trivial ?_
  obtain ⟨r1001, h_1001, hf⟩ := bnd_s hf
  refine m_cV0 M (rest := []) (w2 := (cM 0 sp tk sv mf mo mn ma kv tv)) (st2 := [.int r1001]) (run_X4_isPerson ((a0).toInt64)   sp tk sv mf mo mn ma kv tv h_1001) cv_X4_isPerson lk_X4_130 (by decide +kernel) (List.range 26) List.nodup_range ⟨(by rw [List.length_range]; exact Nat.le_refl _), Nat.le_of_ble_eq_true rfl⟩ (hwId rfl) rfl rfl (Nat.le_of_ble_eq_true rfl) ⟨by decide, by decide⟩ rfl rfl ⟨Nat.zero_le _, Nat.zero_le _⟩ (hpId rfl rfl) rfl ?_
  rcases ite_s hf with ⟨c_1002, hf⟩ | ⟨c_1002, hf⟩
  · refine m_jF M (i := .ifCond .ne 10) 16 (by decide +kernel) rfl (by decide) (fun n => n c_1002) ?_
    refine m_run M (is := [(9, .aload_n 0, 0), (10, .bipush (-2), -2)]) (pc' := 12) (L' := [some (.ref 0), some (.int a0)]) (st' := [.int (-2), .ref 0]) (w' := (cM 0 sp tk sv mf mo mn ma kv tv)) (by decide +kernel) rfl trivial ?_
    obtain ⟨r1003, h_1003, hf⟩ := bnd_s hf
    refine m_cV0 M (rest := []) (w2 := (cM 0 sp tk sv r1003.2 mo mn ma kv tv)) (st2 := [.int r1003.1]) (run_X4_refuse (-2)   sp tk sv mf mo mn ma kv tv h_1003) cv_X4_refuse lk_X4_85 (by decide +kernel) (List.range 26) List.nodup_range ⟨(by rw [List.length_range]; exact Nat.le_refl _), Nat.le_of_ble_eq_true rfl⟩ (hwId rfl) rfl rfl (Nat.le_of_ble_eq_true rfl) ⟨by decide, by decide⟩ rfl rfl ⟨Nat.zero_le _, Nat.zero_le _⟩ (hpId rfl rfl) rfl ?_
    obtain rfl := Option.some.inj hf
    exact m_iret K (by decide +kernel) (Nat.zero_le _) (Nat.zero_le _) ⟨rfl, rfl⟩
  · refine m_jT M (i := .ifCond .ne 10) 16 (by decide +kernel) rfl (by decide) c_1002 ?_
    refine m_run M (is := [(16, .iload_n 1, 0), (17, .aload_n 0, 0), (18, .getfield 69, 0), (21, .iconst 1, 1), (22, .isub, 0)]) (pc' := 23) (L' := [some (.ref 0), some (.int a0)]) (st' := [.int (sp.2.2.2.2.2.1 - 1), .int a0]) (w' := (cM 0 sp tk sv mf mo mn ma kv tv)) (by decide +kernel) rfl trivial ?_
    rcases ite_s hf with ⟨c_1004, hf⟩ | ⟨c_1004, hf⟩
    · refine m_jF M (i := .if_icmp .ne 10) 33 (by decide +kernel) rfl (by decide) (fun n => n c_1004) ?_
      refine m_run M (is := [(26, .aload_n 0, 0), (27, .bipush (-5), -5)]) (pc' := 29) (L' := [some (.ref 0), some (.int a0)]) (st' := [.int (-5), .ref 0]) (w' := (cM 0 sp tk sv mf mo mn ma kv tv)) (by decide +kernel) rfl trivial ?_
      obtain ⟨r1005, h_1005, hf⟩ := bnd_s hf
      refine m_cV0 M (rest := []) (w2 := (cM 0 sp tk sv r1005.2 mo mn ma kv tv)) (st2 := [.int r1005.1]) (run_X4_refuse (-5)   sp tk sv mf mo mn ma kv tv h_1005) cv_X4_refuse lk_X4_85 (by decide +kernel) (List.range 26) List.nodup_range ⟨(by rw [List.length_range]; exact Nat.le_refl _), Nat.le_of_ble_eq_true rfl⟩ (hwId rfl) rfl rfl (Nat.le_of_ble_eq_true rfl) ⟨by decide, by decide⟩ rfl rfl ⟨Nat.zero_le _, Nat.zero_le _⟩ (hpId rfl rfl) rfl ?_
      obtain rfl := Option.some.inj hf
      exact m_iret K (by decide +kernel) (Nat.zero_le _) (Nat.zero_le _) ⟨rfl, rfl⟩
    · refine m_jT M (i := .if_icmp .ne 10) 33 (by decide +kernel) rfl (by decide) c_1004 ?_
      refine m_run M (is := [(33, .aload_n 0, 0), (34, .iload_n 1, 0)]) (pc' := 35) (L' := [some (.ref 0), some (.int a0)]) (st' := [.int a0, .ref 0]) (w' := (cM 0 sp tk sv mf mo mn ma kv tv)) (by decide +kernel) rfl trivial ?_
      obtain ⟨r1006, h_1006, hf⟩ := bnd_s hf
      refine m_cV0 M (rest := []) (w2 := (cM 0 r1006 tk sv mf mo mn ma kv tv)) (st2 := []) (run_X4_lettingAt a0   sp tk sv mf mo mn ma kv tv h_1006) cv_X4_lettingAt lk_X4_210 (by decide +kernel) (List.range 26) List.nodup_range ⟨(by rw [List.length_range]; exact Nat.le_refl _), Nat.le_of_ble_eq_true rfl⟩ (hwId rfl) rfl rfl (Nat.le_of_ble_eq_true rfl) ⟨by decide, by decide⟩ rfl rfl ⟨Nat.zero_le _, Nat.zero_le _⟩ (hpId rfl rfl) rfl ?_
      obtain ⟨h_1007, hf⟩ := grd_s hf
      refine m_run M (is := [(38, .aload_n 0, 0), (39, .getfield 37, 0), (42, .iload_n 1, 0), (43, .iaload, 0)]) (pc' := 44) (L' := [some (.ref 0), some (.int a0)]) (st' := [.int (r1006.1 a0.toNatClampNeg)]) (w' := (cM 0 r1006 tk sv mf mo mn ma kv tv)) (by decide +kernel) rfl ⟨inB_use h_1007, trivial⟩ ?_
      obtain rfl := Option.some.inj hf
      exact m_iret K (by decide +kernel) (Nat.zero_le _) (Nat.zero_le _) ⟨rfl, rfl⟩

def f_X4_moves (a0 : Int32) (a1 : Int32) (sp : ShT) (mf : AI) : Option (Int32 × ShT × AI) :=
  (f_X4_isPerson ((a0).toInt64) sp).bind fun r1001 =>
  if r1001 = 0 then
    (f_X4_refuse (-2) mf).bind fun r1003 =>
    some (r1003.1, sp, r1003.2)
  else
    (f_X4_isPerson ((a1).toInt64) sp).bind fun r1004 =>
    if r1004 = 0 then
      (f_X4_refuse (-2) mf).bind fun r1006 =>
      some (r1006.1, sp, r1006.2)
    else
      (f_X4_placeOf a0 sp).bind fun r1007 =>
      (f_X4_movesTo a0 a1 sp).bind fun r1008 =>
      some (r1007, r1008, mf)
set_option maxRecDepth 100000 in
set_option maxHeartbeats 4000000 in
theorem run_X4_moves {l : Launch} {D : va_G} {cT : Nat → ClassId} (a0 : Int32) (a1 : Int32)   (sp : ShT) (tk : TkT) (sv : SvT) (mf : AI) (mo : AI) (mn : AI) (ma : AI) (kv : Value) (tv : Value) {r : Int32 × ShT × AI} (hf : f_X4_moves a0 a1 sp mf = some r) : Runs l D cT yX4_moves cX4_moves 4 (some .int) 2 47 [.ref 0, .int a0, .int a1] (cM 0 sp tk sv mf mo mn ma kv tv) (EQ (some (.int r.1)) (cM 0 r.2.1 tk sv r.2.2 mo mn ma kv tv)) := by
  refine runs_of O_X4 okO_X4 (by decide +kernel) rfl rfl (Nat.le_of_ble_eq_true rfl) (Nat.le_of_ble_eq_true rfl) (fun g K => ?_)
  have M := K.b
  show g 0 0 (cM 0 sp tk sv mf mo mn ma kv tv) 0 [some (.ref 0), some (.int a0), some (.int a1), none] []
  rw [f_X4_moves] at hf
  refine m_run M (is := [(0, .aload_n 0, 0), (1, .iload_n 1, 0), (2, .i2l, 0)]) (pc' := 3) (L' := [some (.ref 0), some (.int a0), some (.int a1), none]) (st' := [.long ((a0).toInt64), .ref 0]) (w' := (cM 0 sp tk sv mf mo mn ma kv tv)) (by decide +kernel) rfl trivial ?_
  obtain ⟨r1001, h_1001, hf⟩ := bnd_s hf
  refine m_cV0 M (rest := []) (w2 := (cM 0 sp tk sv mf mo mn ma kv tv)) (st2 := [.int r1001]) (run_X4_isPerson ((a0).toInt64)   sp tk sv mf mo mn ma kv tv h_1001) cv_X4_isPerson lk_X4_130 (by decide +kernel) (List.range 26) List.nodup_range ⟨(by rw [List.length_range]; exact Nat.le_refl _), Nat.le_of_ble_eq_true rfl⟩ (hwId rfl) rfl rfl (Nat.le_of_ble_eq_true rfl) ⟨by decide, by decide⟩ rfl rfl ⟨Nat.zero_le _, Nat.zero_le _⟩ (hpId rfl rfl) rfl ?_
  rcases ite_s hf with ⟨c_1002, hf⟩ | ⟨c_1002, hf⟩
  · refine m_jT M (i := .ifCond .eq 12) 18 (by decide +kernel) rfl (by decide) c_1002 ?_
    refine m_run M (is := [(18, .aload_n 0, 0), (19, .bipush (-2), -2)]) (pc' := 21) (L' := [some (.ref 0), some (.int a0), some (.int a1), none]) (st' := [.int (-2), .ref 0]) (w' := (cM 0 sp tk sv mf mo mn ma kv tv)) (by decide +kernel) rfl trivial ?_
    obtain ⟨r1003, h_1003, hf⟩ := bnd_s hf
    refine m_cV0 M (rest := []) (w2 := (cM 0 sp tk sv r1003.2 mo mn ma kv tv)) (st2 := [.int r1003.1]) (run_X4_refuse (-2)   sp tk sv mf mo mn ma kv tv h_1003) cv_X4_refuse lk_X4_85 (by decide +kernel) (List.range 26) List.nodup_range ⟨(by rw [List.length_range]; exact Nat.le_refl _), Nat.le_of_ble_eq_true rfl⟩ (hwId rfl) rfl rfl (Nat.le_of_ble_eq_true rfl) ⟨by decide, by decide⟩ rfl rfl ⟨Nat.zero_le _, Nat.zero_le _⟩ (hpId rfl rfl) rfl ?_
    obtain rfl := Option.some.inj hf
    exact m_iret K (by decide +kernel) (Nat.zero_le _) (Nat.zero_le _) ⟨rfl, rfl⟩
  · refine m_jF M (i := .ifCond .eq 12) 18 (by decide +kernel) rfl (by decide) c_1002 ?_
    refine m_run M (is := [(9, .aload_n 0, 0), (10, .iload_n 2, 0), (11, .i2l, 0)]) (pc' := 12) (L' := [some (.ref 0), some (.int a0), some (.int a1), none]) (st' := [.long ((a1).toInt64), .ref 0]) (w' := (cM 0 sp tk sv mf mo mn ma kv tv)) (by decide +kernel) rfl trivial ?_
    obtain ⟨r1004, h_1004, hf⟩ := bnd_s hf
    refine m_cV0 M (rest := []) (w2 := (cM 0 sp tk sv mf mo mn ma kv tv)) (st2 := [.int r1004]) (run_X4_isPerson ((a1).toInt64)   sp tk sv mf mo mn ma kv tv h_1004) cv_X4_isPerson lk_X4_130 (by decide +kernel) (List.range 26) List.nodup_range ⟨(by rw [List.length_range]; exact Nat.le_refl _), Nat.le_of_ble_eq_true rfl⟩ (hwId rfl) rfl rfl (Nat.le_of_ble_eq_true rfl) ⟨by decide, by decide⟩ rfl rfl ⟨Nat.zero_le _, Nat.zero_le _⟩ (hpId rfl rfl) rfl ?_
    rcases ite_s hf with ⟨c_1005, hf⟩ | ⟨c_1005, hf⟩
    · refine m_jF M (i := .ifCond .ne 10) 25 (by decide +kernel) rfl (by decide) (fun n => n c_1005) ?_
      refine m_run M (is := [(18, .aload_n 0, 0), (19, .bipush (-2), -2)]) (pc' := 21) (L' := [some (.ref 0), some (.int a0), some (.int a1), none]) (st' := [.int (-2), .ref 0]) (w' := (cM 0 sp tk sv mf mo mn ma kv tv)) (by decide +kernel) rfl trivial ?_
      obtain ⟨r1006, h_1006, hf⟩ := bnd_s hf
      refine m_cV0 M (rest := []) (w2 := (cM 0 sp tk sv r1006.2 mo mn ma kv tv)) (st2 := [.int r1006.1]) (run_X4_refuse (-2)   sp tk sv mf mo mn ma kv tv h_1006) cv_X4_refuse lk_X4_85 (by decide +kernel) (List.range 26) List.nodup_range ⟨(by rw [List.length_range]; exact Nat.le_refl _), Nat.le_of_ble_eq_true rfl⟩ (hwId rfl) rfl rfl (Nat.le_of_ble_eq_true rfl) ⟨by decide, by decide⟩ rfl rfl ⟨Nat.zero_le _, Nat.zero_le _⟩ (hpId rfl rfl) rfl ?_
      obtain rfl := Option.some.inj hf
      exact m_iret K (by decide +kernel) (Nat.zero_le _) (Nat.zero_le _) ⟨rfl, rfl⟩
    · refine m_jT M (i := .ifCond .ne 10) 25 (by decide +kernel) rfl (by decide) c_1005 ?_
      refine m_run M (is := [(25, .aload_n 0, 0), (26, .iload_n 1, 0)]) (pc' := 27) (L' := [some (.ref 0), some (.int a0), some (.int a1), none]) (st' := [.int a0, .ref 0]) (w' := (cM 0 sp tk sv mf mo mn ma kv tv)) (by decide +kernel) rfl trivial ?_
      obtain ⟨r1007, h_1007, hf⟩ := bnd_s hf
      refine m_cV0 M (rest := []) (w2 := (cM 0 sp tk sv mf mo mn ma kv tv)) (st2 := [.int r1007]) (run_X4_placeOf a0   sp tk sv mf mo mn ma kv tv h_1007) cv_X4_placeOf lk_X4_243 (by decide +kernel) (List.range 26) List.nodup_range ⟨(by rw [List.length_range]; exact Nat.le_refl _), Nat.le_of_ble_eq_true rfl⟩ (hwId rfl) rfl rfl (Nat.le_of_ble_eq_true rfl) ⟨by decide, by decide⟩ rfl rfl ⟨Nat.zero_le _, Nat.zero_le _⟩ (hpId rfl rfl) rfl ?_
      refine m_run M (is := [(30, .istore_n 3, 0), (31, .aload_n 0, 0), (32, .iload_n 1, 0), (33, .iload_n 2, 0)]) (pc' := 34) (L' := [some (.ref 0), some (.int a0), some (.int a1), some (.int r1007)]) (st' := [.int a1, .int a0, .ref 0]) (w' := (cM 0 sp tk sv mf mo mn ma kv tv)) (by decide +kernel) rfl trivial ?_
      obtain ⟨r1008, h_1008, hf⟩ := bnd_s hf
      refine m_cV0 M (rest := []) (w2 := (cM 0 r1008 tk sv mf mo mn ma kv tv)) (st2 := []) (run_X4_movesTo a0 a1   sp tk sv mf mo mn ma kv tv h_1008) cv_X4_movesTo lk_X4_252 (by decide +kernel) (List.range 26) List.nodup_range ⟨(by rw [List.length_range]; exact Nat.le_refl _), Nat.le_of_ble_eq_true rfl⟩ (hwId rfl) rfl rfl (Nat.le_of_ble_eq_true rfl) ⟨by decide, by decide⟩ rfl rfl ⟨Nat.zero_le _, Nat.zero_le _⟩ (hpId rfl rfl) rfl ?_
      refine m_run M (is := [(37, .iload_n 3, 0)]) (pc' := 38) (L' := [some (.ref 0), some (.int a0), some (.int a1), some (.int r1007)]) (st' := [.int r1007]) (w' := (cM 0 r1008 tk sv mf mo mn ma kv tv)) (by decide +kernel) rfl trivial ?_
      obtain rfl := Option.some.inj hf
      exact m_iret K (by decide +kernel) (Nat.zero_le _) (Nat.zero_le _) ⟨rfl, rfl⟩

def f_X4_leaves (sp : ShT) (mf : AI) : Option (Int32 × ShT × AI) :=
  if sp.2.2.2.2.2.1 = 0 then
    (f_X4_refuse (-5) mf).bind fun r1002 =>
    some (r1002.1, sp, r1002.2)
  else
    (f_X4_lastLeaves sp).bind fun r1003 =>
    some (r1003.2.2.2.2.2.1, r1003, mf)
set_option maxRecDepth 100000 in
set_option maxHeartbeats 4000000 in
theorem run_X4_leaves {l : Launch} {D : va_G} {cT : Nat → ClassId}    (sp : ShT) (tk : TkT) (sv : SvT) (mf : AI) (mo : AI) (mn : AI) (ma : AI) (kv : Value) (tv : Value) {r : Int32 × ShT × AI} (hf : f_X4_leaves sp mf = some r) : Runs l D cT yX4_leaves cX4_leaves 1 (some .int) 3 65 [.ref 0] (cM 0 sp tk sv mf mo mn ma kv tv) (EQ (some (.int r.1)) (cM 0 r.2.1 tk sv r.2.2 mo mn ma kv tv)) := by
  refine runs_of O_X4 okO_X4 (by decide +kernel) rfl rfl (Nat.le_of_ble_eq_true rfl) (Nat.le_of_ble_eq_true rfl) (fun g K => ?_)
  have M := K.b
  show g 0 0 (cM 0 sp tk sv mf mo mn ma kv tv) 0 [some (.ref 0)] []
  rw [f_X4_leaves] at hf
  refine m_run M (is := [(0, .aload_n 0, 0), (1, .getfield 69, 0)]) (pc' := 4) (L' := [some (.ref 0)]) (st' := [.int sp.2.2.2.2.2.1]) (w' := (cM 0 sp tk sv mf mo mn ma kv tv)) (by decide +kernel) rfl trivial ?_
  rcases ite_s hf with ⟨c_1001, hf⟩ | ⟨c_1001, hf⟩
  · refine m_jF M (i := .ifCond .ne 10) 14 (by decide +kernel) rfl (by decide) (fun n => n c_1001) ?_
    refine m_run M (is := [(7, .aload_n 0, 0), (8, .bipush (-5), -5)]) (pc' := 10) (L' := [some (.ref 0)]) (st' := [.int (-5), .ref 0]) (w' := (cM 0 sp tk sv mf mo mn ma kv tv)) (by decide +kernel) rfl trivial ?_
    obtain ⟨r1002, h_1002, hf⟩ := bnd_s hf
    refine m_cV0 M (rest := []) (w2 := (cM 0 sp tk sv r1002.2 mo mn ma kv tv)) (st2 := [.int r1002.1]) (run_X4_refuse (-5)   sp tk sv mf mo mn ma kv tv h_1002) cv_X4_refuse lk_X4_85 (by decide +kernel) (List.range 26) List.nodup_range ⟨(by rw [List.length_range]; exact Nat.le_refl _), Nat.le_of_ble_eq_true rfl⟩ (hwId rfl) rfl rfl (Nat.le_of_ble_eq_true rfl) ⟨by decide, by decide⟩ rfl rfl ⟨Nat.zero_le _, Nat.zero_le _⟩ (hpId rfl rfl) rfl ?_
    obtain rfl := Option.some.inj hf
    exact m_iret K (by decide +kernel) (Nat.zero_le _) (Nat.zero_le _) ⟨rfl, rfl⟩
  · refine m_jT M (i := .ifCond .ne 10) 14 (by decide +kernel) rfl (by decide) c_1001 ?_
    refine m_run M (is := [(14, .aload_n 0, 0)]) (pc' := 15) (L' := [some (.ref 0)]) (st' := [.ref 0]) (w' := (cM 0 sp tk sv mf mo mn ma kv tv)) (by decide +kernel) rfl trivial ?_
    obtain ⟨r1003, h_1003, hf⟩ := bnd_s hf
    refine m_cV0 M (rest := []) (w2 := (cM 0 r1003 tk sv mf mo mn ma kv tv)) (st2 := []) (run_X4_lastLeaves    sp tk sv mf mo mn ma kv tv h_1003) cv_X4_lastLeaves lk_X4_215 (by decide +kernel) (List.range 26) List.nodup_range ⟨(by rw [List.length_range]; exact Nat.le_refl _), Nat.le_of_ble_eq_true rfl⟩ (hwId rfl) rfl rfl (Nat.le_of_ble_eq_true rfl) ⟨by decide, by decide⟩ rfl rfl ⟨Nat.zero_le _, Nat.zero_le _⟩ (hpId rfl rfl) rfl ?_
    refine m_run M (is := [(18, .aload_n 0, 0), (19, .getfield 69, 0)]) (pc' := 22) (L' := [some (.ref 0)]) (st' := [.int r1003.2.2.2.2.2.1]) (w' := (cM 0 r1003 tk sv mf mo mn ma kv tv)) (by decide +kernel) rfl trivial ?_
    obtain rfl := Option.some.inj hf
    exact m_iret K (by decide +kernel) (Nat.zero_le _) (Nat.zero_le _) ⟨rfl, rfl⟩

def f_X4_below (a0 : Int32) (sp : ShT) : Option (Int32 × ShT) :=
  (some ((sp.2.2.2.2.2.2.2.2.2 * 1103515245) + 12345)).bind fun e1001 =>
  if ¬ a0 = 0 then
  some ((((e1001.toUInt32 >>> ((16 : Int32).toUInt32 &&& Int32.toUInt32 31)).toInt32) - ((e1001.toUInt32 >>> ((16 : Int32).toUInt32 &&& Int32.toUInt32 31)).toInt32) / a0 * a0), (sp.1, sp.2.1, sp.2.2.1, sp.2.2.2.1, sp.2.2.2.2.1, sp.2.2.2.2.2.1, sp.2.2.2.2.2.2.1, sp.2.2.2.2.2.2.2.1, sp.2.2.2.2.2.2.2.2.1, e1001))
  else none
set_option maxRecDepth 100000 in
set_option maxHeartbeats 4000000 in
theorem run_X4_below {l : Launch} {D : va_G} {cT : Nat → ClassId} (a0 : Int32)   (sp : ShT) (tk : TkT) (sv : SvT) (mf : AI) (mo : AI) (mn : AI) (ma : AI) (kv : Value) (tv : Value) {r : Int32 × ShT} (hf : f_X4_below a0 sp = some r) : Runs l D cT yX4_below cX4_below 2 (some .int) 0 0 [.ref 0, .int a0] (cM 0 sp tk sv mf mo mn ma kv tv) (EQ (some (.int r.1)) (cM 0 r.2 tk sv mf mo mn ma kv tv)) := by
  refine runs_of O_X4 okO_X4 (by decide +kernel) rfl rfl (Nat.le_of_ble_eq_true rfl) (Nat.le_of_ble_eq_true rfl) (fun g K => ?_)
  have M := K.b
  show g 0 0 (cM 0 sp tk sv mf mo mn ma kv tv) 0 [some (.ref 0), some (.int a0)] []
  rw [f_X4_below] at hf
  refine m_run M (is := [(0, .aload_n 0, 0), (1, .aload_n 0, 0), (2, .getfield 52, 0), (5, .ldc_w 320, 0), (8, .imul, 0), (9, .sipush 12345, 12345), (12, .iadd, 0)]) (pc' := 13) (L' := [some (.ref 0), some (.int a0)]) (st' := [.int ((sp.2.2.2.2.2.2.2.2.2 * 1103515245) + 12345), .ref 0]) (w' := (cM 0 sp tk sv mf mo mn ma kv tv)) (by decide +kernel) rfl trivial ?_
  obtain ⟨e1001, h_1001, hf⟩ := bnd_s hf
  rw [Option.some.inj h_1001]
  obtain ⟨h_1002, hf⟩ := grd_s hf
  refine m_run M (is := [(13, .putfield 52, 0), (16, .aload_n 0, 0), (17, .getfield 52, 0), (20, .bipush 16, 16), (22, .iushr, 0), (23, .iload_n 1, 0), (24, .irem, 0)]) (pc' := 25) (L' := [some (.ref 0), some (.int a0)]) (st' := [.int (((e1001.toUInt32 >>> ((16 : Int32).toUInt32 &&& Int32.toUInt32 31)).toInt32) - ((e1001.toUInt32 >>> ((16 : Int32).toUInt32 &&& Int32.toUInt32 31)).toInt32) / a0 * a0)]) (w' := (cM 0 (sp.1, sp.2.1, sp.2.2.1, sp.2.2.2.1, sp.2.2.2.2.1, sp.2.2.2.2.2.1, sp.2.2.2.2.2.2.1, sp.2.2.2.2.2.2.2.1, sp.2.2.2.2.2.2.2.2.1, e1001) tk sv mf mo mn ma kv tv)) (by decide +kernel) rfl ⟨h_1002, trivial⟩ ?_
  obtain rfl := Option.some.inj hf
  exact m_iret K (by decide +kernel) (Nat.zero_le _) (Nat.zero_le _) ⟨rfl, rfl⟩

def f_X4_day_L0 (v1 : Int32) : Nat → Int32 → Int32 → ShT → AI → Option (Int32 × ShT × AI)
  | 0, _, _, _, _ => none
  | n_ + 1, v2, v3, sp, mf =>
    if v1 ≤ v3 then
      some (v2, sp, mf)
    else
      (f_X4_below 5 sp).bind fun r102 =>
      if r102.1 = 0 then
        if r102.2.2.2.2.2.2.1 ≤ 1 then
          (f_X4_turn r102.2).bind fun r107 =>
          f_X4_day_L0 v1 n_ (v2 + 0) (v3 + 1) r107 mf
        else
          (f_X4_below (r102.2.2.2.2.2.2.1 - 1) r102.2).bind fun r109 =>
          (f_X4_lettingAt r109.1 r109.2).bind fun r110 =>
          (f_X4_turn r110).bind fun r112 =>
          f_X4_day_L0 v1 n_ (v2 + 1) (v3 + 1) r112 mf
      else
        (f_X4_turn r102.2).bind fun r115 =>
        f_X4_day_L0 v1 n_ (v2 + 0) (v3 + 1) r115 mf
def f_X4_day (a0 : Int32) (sp : ShT) (mf : AI) : Option (Int32 × ShT × AI) :=
  (f_X4_in ((a0).toInt64) 1 99).bind fun r1001 =>
  if r1001 = 0 then
    (f_X4_refuse (-2) mf).bind fun r1003 =>
    some (r1003.1, sp, r1003.2)
  else
    (f_X4_goesOn sp).bind fun r1004 =>
    if r1004 = 0 then
      (f_X4_refuse (-5) mf).bind fun r1006 =>
      some (r1006.1, sp, r1006.2)
    else
      f_X4_day_L0 a0 fuel0 0 0 sp mf
set_option maxRecDepth 100000 in
set_option maxHeartbeats 4000000 in
theorem run_X4_day {l : Launch} {D : va_G} {cT : Nat → ClassId} (a0 : Int32)   (sp : ShT) (tk : TkT) (sv : SvT) (mf : AI) (mo : AI) (mn : AI) (ma : AI) (kv : Value) (tv : Value) {r : Int32 × ShT × AI} (hf : f_X4_day a0 sp mf = some r) : Runs l D cT yX4_day cX4_day 5 (some .int) 2 48 [.ref 0, .int a0] (cM 0 sp tk sv mf mo mn ma kv tv) (EQ (some (.int r.1)) (cM 0 r.2.1 tk sv r.2.2 mo mn ma kv tv)) := by
  refine runs_of O_X4 okO_X4 (by decide +kernel) rfl rfl (Nat.le_of_ble_eq_true rfl) (Nat.le_of_ble_eq_true rfl) (fun g K => ?_)
  have M := K.b
  show g 0 0 (cM 0 sp tk sv mf mo mn ma kv tv) 0 [some (.ref 0), some (.int a0), none, none, none] []
  have loop_0 : ∀ (v1 : Int32) (n_ : Nat), (∀ (v2 : Int32) (v3 : Int32) (sp : ShT) (mf : AI), f_X4_day_L0 v1 n_ v2 v3 sp mf = some r → g 0 0 (cM 0 sp tk sv mf mo mn ma kv tv) 37 [some (.ref 0), some (.int v1), some (.int v2), some (.int v3), none] []) := by
    intro v1 n_
    induction n_ with
    | zero => intro v2 v3 sp mf hf; cases hf
    | succ n_ ih =>
      intro v2 v3 sp mf hf
      rw [f_X4_day_L0] at hf
      refine m_run M (is := [(37, .iload_n 3, 0), (38, .iload_n 1, 0)]) (pc' := 39) (L' := [some (.ref 0), some (.int v1), some (.int v2), some (.int v3), none]) (st' := [.int v1, .int v3]) (w' := (cM 0 sp tk sv mf mo mn ma kv tv)) (by decide +kernel) rfl trivial ?_
      rcases ite_s hf with ⟨c_101, hf⟩ | ⟨c_101, hf⟩
      · refine m_jT M (i := .if_icmp .ge 68) 107 (by decide +kernel) rfl (by decide) c_101 ?_
        refine m_run M (is := [(107, .iload_n 2, 0)]) (pc' := 108) (L' := [some (.ref 0), some (.int v1), some (.int v2), some (.int v3), none]) (st' := [.int v2]) (w' := (cM 0 sp tk sv mf mo mn ma kv tv)) (by decide +kernel) rfl trivial ?_
        obtain rfl := Option.some.inj hf
        exact m_iret K (by decide +kernel) (Nat.zero_le _) (Nat.zero_le _) ⟨rfl, rfl⟩
      · refine m_jF M (i := .if_icmp .ge 68) 107 (by decide +kernel) rfl (by decide) c_101 ?_
        refine m_run M (is := [(42, .aload_n 0, 0), (43, .iconst 5, 5)]) (pc' := 44) (L' := [some (.ref 0), some (.int v1), some (.int v2), some (.int v3), none]) (st' := [.int 5, .ref 0]) (w' := (cM 0 sp tk sv mf mo mn ma kv tv)) (by decide +kernel) rfl trivial ?_
        obtain ⟨r102, h_102, hf⟩ := bnd_s hf
        refine m_cV0 M (rest := []) (w2 := (cM 0 r102.2 tk sv mf mo mn ma kv tv)) (st2 := [.int r102.1]) (run_X4_below 5   sp tk sv mf mo mn ma kv tv h_102) cv_X4_below lk_X4_321 (by decide +kernel) (List.range 26) List.nodup_range ⟨(by rw [List.length_range]; exact Nat.le_refl _), Nat.le_of_ble_eq_true rfl⟩ (hwId rfl) rfl rfl (Nat.le_of_ble_eq_true rfl) ⟨by decide, by decide⟩ rfl rfl ⟨Nat.zero_le _, Nat.zero_le _⟩ (hpId rfl rfl) rfl ?_
        rcases ite_s hf with ⟨c_103, hf⟩ | ⟨c_103, hf⟩
        · refine m_jF M (i := .ifCond .ne 15) 62 (by decide +kernel) rfl (by decide) (fun n => n c_103) ?_
          refine m_run M (is := [(50, .aload_n 0, 0), (51, .getfield 69, 0), (54, .iconst 1, 1)]) (pc' := 55) (L' := [some (.ref 0), some (.int v1), some (.int v2), some (.int v3), none]) (st' := [.int 1, .int r102.2.2.2.2.2.2.1]) (w' := (cM 0 r102.2 tk sv mf mo mn ma kv tv)) (by decide +kernel) rfl trivial ?_
          rcases ite_s hf with ⟨c_104, hf⟩ | ⟨c_104, hf⟩
          · refine m_jT M (i := .if_icmp .le 7) 62 (by decide +kernel) rfl (by decide) c_104 ?_
            refine m_run M (is := [(62, .iconst 0, 0), (63, .istore 4, 0), (65, .iload 4, 0)]) (pc' := 67) (L' := [some (.ref 0), some (.int v1), some (.int v2), some (.int v3), some (.int 0)]) (st' := [.int 0]) (w' := (cM 0 r102.2 tk sv mf mo mn ma kv tv)) (by decide +kernel) rfl trivial ?_
            refine m_jT M (i := .ifCond .eq 17) 84 (by decide +kernel) rfl (by decide) (by decide) ?_
            refine m_run M (is := [(84, .iload_n 2, 0), (85, .iload 4, 0)]) (pc' := 87) (L' := [some (.ref 0), some (.int v1), some (.int v2), some (.int v3), some (.int 0)]) (st' := [.int 0, .int v2]) (w' := (cM 0 r102.2 tk sv mf mo mn ma kv tv)) (by decide +kernel) rfl trivial ?_
            refine m_jT M (i := .ifCond .eq 7) 94 (by decide +kernel) rfl (by decide) (by decide) ?_
            refine m_run M (is := [(94, .iconst 0, 0), (95, .iadd, 0), (96, .istore_n 2, 0), (97, .aload_n 0, 0)]) (pc' := 98) (L' := [some (.ref 0), some (.int v1), some (.int (v2 + 0)), some (.int v3), some (.int 0)]) (st' := [.ref 0]) (w' := (cM 0 r102.2 tk sv mf mo mn ma kv tv)) (by decide +kernel) rfl trivial ?_
            obtain ⟨r107, h_107, hf⟩ := bnd_s hf
            refine m_cV0 M (rest := []) (w2 := (cM 0 r107 tk sv mf mo mn ma kv tv)) (st2 := []) (run_X4_turn    r102.2 tk sv mf mo mn ma kv tv h_107) cv_X4_turn lk_X4_249 (by decide +kernel) (List.range 26) List.nodup_range ⟨(by rw [List.length_range]; exact Nat.le_refl _), Nat.le_of_ble_eq_true rfl⟩ (hwId rfl) rfl rfl (Nat.le_of_ble_eq_true rfl) ⟨by decide, by decide⟩ rfl rfl ⟨Nat.zero_le _, Nat.zero_le _⟩ (hpId rfl rfl) rfl ?_
            refine m_run M (is := [(101, .iinc 3 1, 1), (104, .goto (-67), 0)]) (pc' := 37) (L' := [some (.ref 0), some (.int v1), some (.int (v2 + 0)), some (.int (v3 + 1)), some (.int 0)]) (st' := []) (w' := (cM 0 r107 tk sv mf mo mn ma kv tv)) (by decide +kernel) rfl trivial ?_
            refine m_wk M [some (.ref 0), some (.int v1), some (.int (v2 + 0)), some (.int (v3 + 1)), none] ⟨Or.inr rfl, Or.inr rfl, Or.inr rfl, Or.inr rfl, Or.inl rfl, trivial⟩ ?_
            exact ih (v2 + 0) (v3 + 1) r107 mf hf
          · refine m_jF M (i := .if_icmp .le 7) 62 (by decide +kernel) rfl (by decide) c_104 ?_
            refine m_run M (is := [(58, .iconst 1, 1), (59, .goto 4, 0), (63, .istore 4, 0), (65, .iload 4, 0)]) (pc' := 67) (L' := [some (.ref 0), some (.int v1), some (.int v2), some (.int v3), some (.int 1)]) (st' := [.int 1]) (w' := (cM 0 r102.2 tk sv mf mo mn ma kv tv)) (by decide +kernel) rfl trivial ?_
            refine m_jF M (i := .ifCond .eq 17) 84 (by decide +kernel) rfl (by decide) (by decide) ?_
            refine m_run M (is := [(70, .aload_n 0, 0), (71, .aload_n 0, 0), (72, .aload_n 0, 0), (73, .getfield 69, 0), (76, .iconst 1, 1), (77, .isub, 0)]) (pc' := 78) (L' := [some (.ref 0), some (.int v1), some (.int v2), some (.int v3), some (.int 1)]) (st' := [.int (r102.2.2.2.2.2.2.1 - 1), .ref 0, .ref 0]) (w' := (cM 0 r102.2 tk sv mf mo mn ma kv tv)) (by decide +kernel) rfl trivial ?_
            obtain ⟨r109, h_109, hf⟩ := bnd_s hf
            refine m_cV0 M (rest := [.ref 0]) (w2 := (cM 0 r109.2 tk sv mf mo mn ma kv tv)) (st2 := [.int r109.1, .ref 0]) (run_X4_below (r102.2.2.2.2.2.2.1 - 1)   r102.2 tk sv mf mo mn ma kv tv h_109) cv_X4_below lk_X4_321 (by decide +kernel) (List.range 26) List.nodup_range ⟨(by rw [List.length_range]; exact Nat.le_refl _), Nat.le_of_ble_eq_true rfl⟩ (hwId rfl) rfl rfl (Nat.le_of_ble_eq_true rfl) ⟨by decide, by decide⟩ rfl rfl ⟨Nat.zero_le _, Nat.zero_le _⟩ (hpId rfl rfl) rfl ?_
            obtain ⟨r110, h_110, hf⟩ := bnd_s hf
            refine m_cV0 M (rest := []) (w2 := (cM 0 r110 tk sv mf mo mn ma kv tv)) (st2 := []) (run_X4_lettingAt r109.1   r109.2 tk sv mf mo mn ma kv tv h_110) cv_X4_lettingAt lk_X4_210 (by decide +kernel) (List.range 26) List.nodup_range ⟨(by rw [List.length_range]; exact Nat.le_refl _), Nat.le_of_ble_eq_true rfl⟩ (hwId rfl) rfl rfl (Nat.le_of_ble_eq_true rfl) ⟨by decide, by decide⟩ rfl rfl ⟨Nat.zero_le _, Nat.zero_le _⟩ (hpId rfl rfl) rfl ?_
            refine m_run M (is := [(84, .iload_n 2, 0), (85, .iload 4, 0)]) (pc' := 87) (L' := [some (.ref 0), some (.int v1), some (.int v2), some (.int v3), some (.int 1)]) (st' := [.int 1, .int v2]) (w' := (cM 0 r110 tk sv mf mo mn ma kv tv)) (by decide +kernel) rfl trivial ?_
            refine m_jF M (i := .ifCond .eq 7) 94 (by decide +kernel) rfl (by decide) (by decide) ?_
            refine m_run M (is := [(90, .iconst 1, 1), (91, .goto 4, 0), (95, .iadd, 0), (96, .istore_n 2, 0), (97, .aload_n 0, 0)]) (pc' := 98) (L' := [some (.ref 0), some (.int v1), some (.int (v2 + 1)), some (.int v3), some (.int 1)]) (st' := [.ref 0]) (w' := (cM 0 r110 tk sv mf mo mn ma kv tv)) (by decide +kernel) rfl trivial ?_
            obtain ⟨r112, h_112, hf⟩ := bnd_s hf
            refine m_cV0 M (rest := []) (w2 := (cM 0 r112 tk sv mf mo mn ma kv tv)) (st2 := []) (run_X4_turn    r110 tk sv mf mo mn ma kv tv h_112) cv_X4_turn lk_X4_249 (by decide +kernel) (List.range 26) List.nodup_range ⟨(by rw [List.length_range]; exact Nat.le_refl _), Nat.le_of_ble_eq_true rfl⟩ (hwId rfl) rfl rfl (Nat.le_of_ble_eq_true rfl) ⟨by decide, by decide⟩ rfl rfl ⟨Nat.zero_le _, Nat.zero_le _⟩ (hpId rfl rfl) rfl ?_
            refine m_run M (is := [(101, .iinc 3 1, 1), (104, .goto (-67), 0)]) (pc' := 37) (L' := [some (.ref 0), some (.int v1), some (.int (v2 + 1)), some (.int (v3 + 1)), some (.int 1)]) (st' := []) (w' := (cM 0 r112 tk sv mf mo mn ma kv tv)) (by decide +kernel) rfl trivial ?_
            refine m_wk M [some (.ref 0), some (.int v1), some (.int (v2 + 1)), some (.int (v3 + 1)), none] ⟨Or.inr rfl, Or.inr rfl, Or.inr rfl, Or.inr rfl, Or.inl rfl, trivial⟩ ?_
            exact ih (v2 + 1) (v3 + 1) r112 mf hf
        · refine m_jT M (i := .ifCond .ne 15) 62 (by decide +kernel) rfl (by decide) c_103 ?_
          refine m_run M (is := [(62, .iconst 0, 0), (63, .istore 4, 0), (65, .iload 4, 0)]) (pc' := 67) (L' := [some (.ref 0), some (.int v1), some (.int v2), some (.int v3), some (.int 0)]) (st' := [.int 0]) (w' := (cM 0 r102.2 tk sv mf mo mn ma kv tv)) (by decide +kernel) rfl trivial ?_
          refine m_jT M (i := .ifCond .eq 17) 84 (by decide +kernel) rfl (by decide) (by decide) ?_
          refine m_run M (is := [(84, .iload_n 2, 0), (85, .iload 4, 0)]) (pc' := 87) (L' := [some (.ref 0), some (.int v1), some (.int v2), some (.int v3), some (.int 0)]) (st' := [.int 0, .int v2]) (w' := (cM 0 r102.2 tk sv mf mo mn ma kv tv)) (by decide +kernel) rfl trivial ?_
          refine m_jT M (i := .ifCond .eq 7) 94 (by decide +kernel) rfl (by decide) (by decide) ?_
          refine m_run M (is := [(94, .iconst 0, 0), (95, .iadd, 0), (96, .istore_n 2, 0), (97, .aload_n 0, 0)]) (pc' := 98) (L' := [some (.ref 0), some (.int v1), some (.int (v2 + 0)), some (.int v3), some (.int 0)]) (st' := [.ref 0]) (w' := (cM 0 r102.2 tk sv mf mo mn ma kv tv)) (by decide +kernel) rfl trivial ?_
          obtain ⟨r115, h_115, hf⟩ := bnd_s hf
          refine m_cV0 M (rest := []) (w2 := (cM 0 r115 tk sv mf mo mn ma kv tv)) (st2 := []) (run_X4_turn    r102.2 tk sv mf mo mn ma kv tv h_115) cv_X4_turn lk_X4_249 (by decide +kernel) (List.range 26) List.nodup_range ⟨(by rw [List.length_range]; exact Nat.le_refl _), Nat.le_of_ble_eq_true rfl⟩ (hwId rfl) rfl rfl (Nat.le_of_ble_eq_true rfl) ⟨by decide, by decide⟩ rfl rfl ⟨Nat.zero_le _, Nat.zero_le _⟩ (hpId rfl rfl) rfl ?_
          refine m_run M (is := [(101, .iinc 3 1, 1), (104, .goto (-67), 0)]) (pc' := 37) (L' := [some (.ref 0), some (.int v1), some (.int (v2 + 0)), some (.int (v3 + 1)), some (.int 0)]) (st' := []) (w' := (cM 0 r115 tk sv mf mo mn ma kv tv)) (by decide +kernel) rfl trivial ?_
          refine m_wk M [some (.ref 0), some (.int v1), some (.int (v2 + 0)), some (.int (v3 + 1)), none] ⟨Or.inr rfl, Or.inr rfl, Or.inr rfl, Or.inr rfl, Or.inl rfl, trivial⟩ ?_
          exact ih (v2 + 0) (v3 + 1) r115 mf hf
  rw [f_X4_day] at hf
  refine m_run M (is := [(0, .iload_n 1, 0), (1, .i2l, 0), (2, .lconst 1, 0), (3, .ldc2_w 128, 0)]) (pc' := 6) (L' := [some (.ref 0), some (.int a0), none, none, none]) (st' := [.long 99, .long 1, .long ((a0).toInt64)]) (w' := (cM 0 sp tk sv mf mo mn ma kv tv)) (by decide +kernel) rfl trivial ?_
  obtain ⟨r1001, h_1001, hf⟩ := bnd_s hf
  refine m_cS0 M (rest := []) (w2 := (cM 0 sp tk sv mf mo mn ma kv tv)) (st2 := [.int r1001]) (run_X4_in ((a0).toInt64) 1 99    h_1001) cs_X4_in lk_X4_72 (by decide +kernel) [] (by decide) ⟨Nat.le_of_ble_eq_true rfl, Nat.le_of_ble_eq_true rfl⟩ rfl rfl (Nat.le_of_ble_eq_true rfl) ⟨by decide, by decide⟩ rfl rfl ⟨Nat.zero_le _, Nat.zero_le _⟩ rfl rfl ?_
  rcases ite_s hf with ⟨c_1002, hf⟩ | ⟨c_1002, hf⟩
  · refine m_jF M (i := .ifCond .ne 10) 19 (by decide +kernel) rfl (by decide) (fun n => n c_1002) ?_
    refine m_run M (is := [(12, .aload_n 0, 0), (13, .bipush (-2), -2)]) (pc' := 15) (L' := [some (.ref 0), some (.int a0), none, none, none]) (st' := [.int (-2), .ref 0]) (w' := (cM 0 sp tk sv mf mo mn ma kv tv)) (by decide +kernel) rfl trivial ?_
    obtain ⟨r1003, h_1003, hf⟩ := bnd_s hf
    refine m_cV0 M (rest := []) (w2 := (cM 0 sp tk sv r1003.2 mo mn ma kv tv)) (st2 := [.int r1003.1]) (run_X4_refuse (-2)   sp tk sv mf mo mn ma kv tv h_1003) cv_X4_refuse lk_X4_85 (by decide +kernel) (List.range 26) List.nodup_range ⟨(by rw [List.length_range]; exact Nat.le_refl _), Nat.le_of_ble_eq_true rfl⟩ (hwId rfl) rfl rfl (Nat.le_of_ble_eq_true rfl) ⟨by decide, by decide⟩ rfl rfl ⟨Nat.zero_le _, Nat.zero_le _⟩ (hpId rfl rfl) rfl ?_
    obtain rfl := Option.some.inj hf
    exact m_iret K (by decide +kernel) (Nat.zero_le _) (Nat.zero_le _) ⟨rfl, rfl⟩
  · refine m_jT M (i := .ifCond .ne 10) 19 (by decide +kernel) rfl (by decide) c_1002 ?_
    refine m_run M (is := [(19, .aload_n 0, 0)]) (pc' := 20) (L' := [some (.ref 0), some (.int a0), none, none, none]) (st' := [.ref 0]) (w' := (cM 0 sp tk sv mf mo mn ma kv tv)) (by decide +kernel) rfl trivial ?_
    obtain ⟨r1004, h_1004, hf⟩ := bnd_s hf
    refine m_cV0 M (rest := []) (w2 := (cM 0 sp tk sv mf mo mn ma kv tv)) (st2 := [.int r1004]) (run_X4_goesOn    sp tk sv mf mo mn ma kv tv h_1004) cv_X4_goesOn lk_X4_184 (by decide +kernel) (List.range 26) List.nodup_range ⟨(by rw [List.length_range]; exact Nat.le_refl _), Nat.le_of_ble_eq_true rfl⟩ (hwId rfl) rfl rfl (Nat.le_of_ble_eq_true rfl) ⟨by decide, by decide⟩ rfl rfl ⟨Nat.zero_le _, Nat.zero_le _⟩ (hpId rfl rfl) rfl ?_
    rcases ite_s hf with ⟨c_1005, hf⟩ | ⟨c_1005, hf⟩
    · refine m_jF M (i := .ifCond .ne 10) 33 (by decide +kernel) rfl (by decide) (fun n => n c_1005) ?_
      refine m_run M (is := [(26, .aload_n 0, 0), (27, .bipush (-5), -5)]) (pc' := 29) (L' := [some (.ref 0), some (.int a0), none, none, none]) (st' := [.int (-5), .ref 0]) (w' := (cM 0 sp tk sv mf mo mn ma kv tv)) (by decide +kernel) rfl trivial ?_
      obtain ⟨r1006, h_1006, hf⟩ := bnd_s hf
      refine m_cV0 M (rest := []) (w2 := (cM 0 sp tk sv r1006.2 mo mn ma kv tv)) (st2 := [.int r1006.1]) (run_X4_refuse (-5)   sp tk sv mf mo mn ma kv tv h_1006) cv_X4_refuse lk_X4_85 (by decide +kernel) (List.range 26) List.nodup_range ⟨(by rw [List.length_range]; exact Nat.le_refl _), Nat.le_of_ble_eq_true rfl⟩ (hwId rfl) rfl rfl (Nat.le_of_ble_eq_true rfl) ⟨by decide, by decide⟩ rfl rfl ⟨Nat.zero_le _, Nat.zero_le _⟩ (hpId rfl rfl) rfl ?_
      obtain rfl := Option.some.inj hf
      exact m_iret K (by decide +kernel) (Nat.zero_le _) (Nat.zero_le _) ⟨rfl, rfl⟩
    · refine m_jT M (i := .ifCond .ne 10) 33 (by decide +kernel) rfl (by decide) c_1005 ?_
      refine m_run M (is := [(33, .iconst 0, 0), (34, .istore_n 2, 0), (35, .iconst 0, 0), (36, .istore_n 3, 0)]) (pc' := 37) (L' := [some (.ref 0), some (.int a0), some (.int 0), some (.int 0), none]) (st' := []) (w' := (cM 0 sp tk sv mf mo mn ma kv tv)) (by decide +kernel) rfl trivial ?_
      exact loop_0 a0 fuel0 0 0 sp mf hf

def f_X4_anew (sp : ShT) : Option (Int32 × ShT) :=
  (f_X4_beginsAnew sp).bind fun r1001 =>
  some (sp.2.2.2.2.2.2.2.2.1, r1001)
set_option maxRecDepth 100000 in
set_option maxHeartbeats 4000000 in
theorem run_X4_anew {l : Launch} {D : va_G} {cT : Nat → ClassId}    (sp : ShT) (tk : TkT) (sv : SvT) (mf : AI) (mo : AI) (mn : AI) (ma : AI) (kv : Value) (tv : Value) {r : Int32 × ShT} (hf : f_X4_anew sp = some r) : Runs l D cT yX4_anew cX4_anew 2 (some .int) 1 21 [.ref 0] (cM 0 sp tk sv mf mo mn ma kv tv) (EQ (some (.int r.1)) (cM 0 r.2 tk sv mf mo mn ma kv tv)) := by
  refine runs_of O_X4 okO_X4 (by decide +kernel) rfl rfl (Nat.le_of_ble_eq_true rfl) (Nat.le_of_ble_eq_true rfl) (fun g K => ?_)
  have M := K.b
  show g 0 0 (cM 0 sp tk sv mf mo mn ma kv tv) 0 [some (.ref 0), none] []
  rw [f_X4_anew] at hf
  refine m_run M (is := [(0, .aload_n 0, 0), (1, .getfield 246, 0), (4, .istore_n 1, 0), (5, .aload_n 0, 0)]) (pc' := 6) (L' := [some (.ref 0), some (.int sp.2.2.2.2.2.2.2.2.1)]) (st' := [.ref 0]) (w' := (cM 0 sp tk sv mf mo mn ma kv tv)) (by decide +kernel) rfl trivial ?_
  obtain ⟨r1001, h_1001, hf⟩ := bnd_s hf
  refine m_cV0 M (rest := []) (w2 := (cM 0 r1001 tk sv mf mo mn ma kv tv)) (st2 := []) (run_X4_beginsAnew    sp tk sv mf mo mn ma kv tv h_1001) cv_X4_beginsAnew lk_X4_276 (by decide +kernel) (List.range 26) List.nodup_range ⟨(by rw [List.length_range]; exact Nat.le_refl _), Nat.le_of_ble_eq_true rfl⟩ (hwId rfl) rfl rfl (Nat.le_of_ble_eq_true rfl) ⟨by decide, by decide⟩ rfl rfl ⟨Nat.zero_le _, Nat.zero_le _⟩ (hpId rfl rfl) rfl ?_
  refine m_run M (is := [(9, .iload_n 1, 0)]) (pc' := 10) (L' := [some (.ref 0), some (.int sp.2.2.2.2.2.2.2.2.1)]) (st' := [.int sp.2.2.2.2.2.2.2.2.1]) (w' := (cM 0 r1001 tk sv mf mo mn ma kv tv)) (by decide +kernel) rfl trivial ?_
  obtain rfl := Option.some.inj hf
  exact m_iret K (by decide +kernel) (Nat.zero_le _) (Nat.zero_le _) ⟨rfl, rfl⟩

def f_X4_seed (a0 : Int32) (sp : ShT) : Option (Int32 × ShT) :=
  some (sp.2.2.2.2.2.2.2.2.2, (sp.1, sp.2.1, sp.2.2.1, sp.2.2.2.1, sp.2.2.2.2.1, sp.2.2.2.2.2.1, sp.2.2.2.2.2.2.1, sp.2.2.2.2.2.2.2.1, sp.2.2.2.2.2.2.2.2.1, a0))
set_option maxRecDepth 100000 in
set_option maxHeartbeats 4000000 in
theorem run_X4_seed {l : Launch} {D : va_G} {cT : Nat → ClassId} (a0 : Int32)   (sp : ShT) (tk : TkT) (sv : SvT) (mf : AI) (mo : AI) (mn : AI) (ma : AI) (kv : Value) (tv : Value) {r : Int32 × ShT} (hf : f_X4_seed a0 sp = some r) : Runs l D cT yX4_seed cX4_seed 3 (some .int) 0 0 [.ref 0, .int a0] (cM 0 sp tk sv mf mo mn ma kv tv) (EQ (some (.int r.1)) (cM 0 r.2 tk sv mf mo mn ma kv tv)) := by
  refine runs_of O_X4 okO_X4 (by decide +kernel) rfl rfl (Nat.le_of_ble_eq_true rfl) (Nat.le_of_ble_eq_true rfl) (fun g K => ?_)
  have M := K.b
  show g 0 0 (cM 0 sp tk sv mf mo mn ma kv tv) 0 [some (.ref 0), some (.int a0), none] []
  rw [f_X4_seed] at hf
  refine m_run M (is := [(0, .aload_n 0, 0), (1, .getfield 52, 0), (4, .istore_n 2, 0), (5, .aload_n 0, 0), (6, .iload_n 1, 0), (7, .putfield 52, 0), (10, .iload_n 2, 0)]) (pc' := 11) (L' := [some (.ref 0), some (.int a0), some (.int sp.2.2.2.2.2.2.2.2.2)]) (st' := [.int sp.2.2.2.2.2.2.2.2.2]) (w' := (cM 0 (sp.1, sp.2.1, sp.2.2.1, sp.2.2.2.1, sp.2.2.2.2.1, sp.2.2.2.2.2.1, sp.2.2.2.2.2.2.1, sp.2.2.2.2.2.2.2.1, sp.2.2.2.2.2.2.2.2.1, a0) tk sv mf mo mn ma kv tv)) (by decide +kernel) rfl trivial ?_
  obtain rfl := Option.some.inj hf
  exact m_iret K (by decide +kernel) (Nat.zero_le _) (Nat.zero_le _) ⟨rfl, rfl⟩

def f_X4_status_L0 (sp : ShT) (tk : TkT) (mf : AI) : Nat → Int32 → Int32 → Option (Int32)
  | 0, _, _ => none
  | n_ + 1, v2, v3 =>
    if sp.2.2.2.2.2.1 ≤ v3 then
      some v2
    else
      if inB v3 16 then
      f_X4_status_L0 sp tk mf n_ (v2 + (sp.2.1 v3.toNatClampNeg)) (v3 + 1)
      else none
def f_X4_status_L1 (sp : ShT) (tk : TkT) (sv : SvT) (mf : AI) : Nat → Int32 → Int32 → Option (Int32)
  | 0, _, _ => none
  | n_ + 1, v2, v3 =>
    if 8 ≤ v3 then
      some v2
    else
      if inB v3 8 then
      if (sv.1 v3.toNatClampNeg) = 0 then
        f_X4_status_L1 sp tk sv mf n_ (v2 + 0) (v3 + 1)
      else
        f_X4_status_L1 sp tk sv mf n_ (v2 + 1) (v3 + 1)
      else none
def f_X4_status (a0 : Int32) (sp : ShT) (tk : TkT) (sv : SvT) (mf : AI) : Option (Int32) :=
  if a0 = 0 then
    some sp.2.2.2.2.2.1
  else
    if a0 = 1 then
      some sp.2.2.2.2.2.2.1
    else
      if a0 = 2 then
        some sp.2.2.2.2.2.2.2.1
      else
        if a0 = 3 then
          some sp.2.2.2.2.2.2.2.2.1
        else
          if a0 = 4 then
            f_X4_status_L0 sp tk mf fuel0 0 0
          else
            if a0 = 5 then
              if sp.2.2.2.2.2.1 = 0 then
                some 0
              else
                (f_X4_longestOf sp).bind fun r1008 =>
                if inB r1008 16 then
                some (sp.2.2.1 r1008.toNatClampNeg)
                else none
            else
              if a0 = 6 then
                some tk.2.2.1
              else
                if a0 = 7 then
                  some sp.2.2.2.2.2.2.2.2.2
                else
                  if a0 = 8 then
                    f_X4_status_L1 sp tk sv mf fuel0 0 0
                  else
                    (f_X4_in ((a0).toInt64) 12 16).bind fun r1013 =>
                    if r1013 = 0 then
                      some (-1)
                    else
                      if inB (a0 - 10) 8 then
                      some (mf (a0 - 10).toNatClampNeg)
                      else none
set_option maxRecDepth 100000 in
set_option maxHeartbeats 4000000 in
theorem run_X4_status {l : Launch} {D : va_G} {cT : Nat → ClassId} (a0 : Int32)   (sp : ShT) (tk : TkT) (sv : SvT) (mf : AI) (mo : AI) (mn : AI) (ma : AI) (kv : Value) (tv : Value) {r : Int32} (hf : f_X4_status a0 sp tk sv mf = some r) : Runs l D cT yX4_status cX4_status 4 (some .int) 1 25 [.ref 0, .int a0] (cM 0 sp tk sv mf mo mn ma kv tv) (EQ (some (.int r)) (cM 0 sp tk sv mf mo mn ma kv tv)) := by
  refine runs_of O_X4 okO_X4 (by decide +kernel) rfl rfl (Nat.le_of_ble_eq_true rfl) (Nat.le_of_ble_eq_true rfl) (fun g K => ?_)
  have M := K.b
  show g 0 0 (cM 0 sp tk sv mf mo mn ma kv tv) 0 [some (.ref 0), some (.int a0), none, none] []
  have loop_0 : ∀ (n_ : Nat), (∀ (v2 : Int32) (v3 : Int32), f_X4_status_L0 sp tk mf n_ v2 v3 = some r → g 0 0 (cM 0 sp tk sv mf mo mn ma kv tv) 74 [some (.ref 0), none, some (.int v2), some (.int v3)] []) := by
    intro n_
    induction n_ with
    | zero => intro v2 v3 hf; cases hf
    | succ n_ ih =>
      intro v2 v3 hf
      rw [f_X4_status_L0] at hf
      refine m_run M (is := [(74, .iload_n 3, 0), (75, .aload_n 0, 0), (76, .getfield 69, 0)]) (pc' := 79) (L' := [some (.ref 0), none, some (.int v2), some (.int v3)]) (st' := [.int sp.2.2.2.2.2.1, .int v3]) (w' := (cM 0 sp tk sv mf mo mn ma kv tv)) (by decide +kernel) rfl trivial ?_
      rcases ite_s hf with ⟨c_101, hf⟩ | ⟨c_101, hf⟩
      · refine m_jT M (i := .if_icmp .ge 18) 97 (by decide +kernel) rfl (by decide) c_101 ?_
        refine m_run M (is := [(97, .iload_n 2, 0)]) (pc' := 98) (L' := [some (.ref 0), none, some (.int v2), some (.int v3)]) (st' := [.int v2]) (w' := (cM 0 sp tk sv mf mo mn ma kv tv)) (by decide +kernel) rfl trivial ?_
        obtain rfl := Option.some.inj hf
        exact m_iret K (by decide +kernel) (Nat.zero_le _) (Nat.zero_le _) ⟨rfl, rfl⟩
      · refine m_jF M (i := .if_icmp .ge 18) 97 (by decide +kernel) rfl (by decide) c_101 ?_
        obtain ⟨h_102, hf⟩ := grd_s hf
        refine m_run M (is := [(82, .iload_n 2, 0), (83, .aload_n 0, 0), (84, .getfield 40, 0), (87, .iload_n 3, 0), (88, .iaload, 0), (89, .iadd, 0), (90, .istore_n 2, 0), (91, .iinc 3 1, 1), (94, .goto (-20), 0)]) (pc' := 74) (L' := [some (.ref 0), none, some (.int (v2 + (sp.2.1 v3.toNatClampNeg))), some (.int (v3 + 1))]) (st' := []) (w' := (cM 0 sp tk sv mf mo mn ma kv tv)) (by decide +kernel) rfl ⟨inB_use h_102, trivial⟩ ?_
        exact ih (v2 + (sp.2.1 v3.toNatClampNeg)) (v3 + 1) hf
  have loop_1 : ∀ (n_ : Nat), (∀ (v2 : Int32) (v3 : Int32), f_X4_status_L1 sp tk sv mf n_ v2 v3 = some r → g 0 0 (cM 0 sp tk sv mf mo mn ma kv tv) 132 [some (.ref 0), none, some (.int v2), some (.int v3)] []) := by
    intro n_
    induction n_ with
    | zero => intro v2 v3 hf; cases hf
    | succ n_ ih =>
      intro v2 v3 hf
      rw [f_X4_status_L1] at hf
      refine m_run M (is := [(132, .iload_n 3, 0), (133, .bipush 8, 8)]) (pc' := 135) (L' := [some (.ref 0), none, some (.int v2), some (.int v3)]) (st' := [.int 8, .int v3]) (w' := (cM 0 sp tk sv mf mo mn ma kv tv)) (by decide +kernel) rfl trivial ?_
      rcases ite_s hf with ⟨c_201, hf⟩ | ⟨c_201, hf⟩
      · refine m_jT M (i := .if_icmp .ge 26) 161 (by decide +kernel) rfl (by decide) c_201 ?_
        refine m_run M (is := [(161, .iload_n 2, 0)]) (pc' := 162) (L' := [some (.ref 0), none, some (.int v2), some (.int v3)]) (st' := [.int v2]) (w' := (cM 0 sp tk sv mf mo mn ma kv tv)) (by decide +kernel) rfl trivial ?_
        obtain rfl := Option.some.inj hf
        exact m_iret K (by decide +kernel) (Nat.zero_le _) (Nat.zero_le _) ⟨rfl, rfl⟩
      · refine m_jF M (i := .if_icmp .ge 26) 161 (by decide +kernel) rfl (by decide) c_201 ?_
        obtain ⟨h_202, hf⟩ := grd_s hf
        refine m_run M (is := [(138, .iload_n 2, 0), (139, .aload_n 0, 0), (140, .getfield 7, 0), (143, .iload_n 3, 0), (144, .iaload, 0)]) (pc' := 145) (L' := [some (.ref 0), none, some (.int v2), some (.int v3)]) (st' := [.int (sv.1 v3.toNatClampNeg), .int v2]) (w' := (cM 0 sp tk sv mf mo mn ma kv tv)) (by decide +kernel) rfl ⟨inB_use h_202, trivial⟩ ?_
        rcases ite_s hf with ⟨c_203, hf⟩ | ⟨c_203, hf⟩
        · refine m_jT M (i := .ifCond .eq 7) 152 (by decide +kernel) rfl (by decide) c_203 ?_
          refine m_run M (is := [(152, .iconst 0, 0), (153, .iadd, 0), (154, .istore_n 2, 0), (155, .iinc 3 1, 1), (158, .goto (-26), 0)]) (pc' := 132) (L' := [some (.ref 0), none, some (.int (v2 + 0)), some (.int (v3 + 1))]) (st' := []) (w' := (cM 0 sp tk sv mf mo mn ma kv tv)) (by decide +kernel) rfl trivial ?_
          exact ih (v2 + 0) (v3 + 1) hf
        · refine m_jF M (i := .ifCond .eq 7) 152 (by decide +kernel) rfl (by decide) c_203 ?_
          refine m_run M (is := [(148, .iconst 1, 1), (149, .goto 4, 0), (153, .iadd, 0), (154, .istore_n 2, 0), (155, .iinc 3 1, 1), (158, .goto (-26), 0)]) (pc' := 132) (L' := [some (.ref 0), none, some (.int (v2 + 1)), some (.int (v3 + 1))]) (st' := []) (w' := (cM 0 sp tk sv mf mo mn ma kv tv)) (by decide +kernel) rfl trivial ?_
          exact ih (v2 + 1) (v3 + 1) hf
  rw [f_X4_status] at hf
  refine m_run M (is := [(0, .iconst 0, 0), (1, .istore_n 2, 0), (2, .iload_n 1, 0)]) (pc' := 3) (L' := [some (.ref 0), some (.int a0), some (.int 0), none]) (st' := [.int a0]) (w' := (cM 0 sp tk sv mf mo mn ma kv tv)) (by decide +kernel) rfl trivial ?_
  rcases ite_s hf with ⟨c_1001, hf⟩ | ⟨c_1001, hf⟩
  · refine m_tsI M (dflt := 160) (t0 := 0) (t1 := 8) (offs := #[49, 54, 59, 64, 69, 96, 117, 122, 127]) (len := 49) (tgt := 52) 0 (by decide +kernel) (by rw [c_1001]; rfl) (by decide) rfl (by decide) ?_
    refine m_run M (is := [(52, .aload_n 0, 0), (53, .getfield 69, 0)]) (pc' := 56) (L' := [some (.ref 0), some (.int a0), some (.int 0), none]) (st' := [.int sp.2.2.2.2.2.1]) (w' := (cM 0 sp tk sv mf mo mn ma kv tv)) (by decide +kernel) rfl trivial ?_
    obtain rfl := Option.some.inj hf
    exact m_iret K (by decide +kernel) (Nat.zero_le _) (Nat.zero_le _) ⟨rfl, rfl⟩
  · rcases ite_s hf with ⟨c_1002, hf⟩ | ⟨c_1002, hf⟩
    · refine m_tsI M (dflt := 160) (t0 := 0) (t1 := 8) (offs := #[49, 54, 59, 64, 69, 96, 117, 122, 127]) (len := 49) (tgt := 57) 1 (by decide +kernel) (by rw [c_1002]; rfl) (by decide) rfl (by decide) ?_
      refine m_run M (is := [(57, .aload_n 0, 0), (58, .getfield 76, 0)]) (pc' := 61) (L' := [some (.ref 0), some (.int a0), some (.int 0), none]) (st' := [.int sp.2.2.2.2.2.2.1]) (w' := (cM 0 sp tk sv mf mo mn ma kv tv)) (by decide +kernel) rfl trivial ?_
      obtain rfl := Option.some.inj hf
      exact m_iret K (by decide +kernel) (Nat.zero_le _) (Nat.zero_le _) ⟨rfl, rfl⟩
    · rcases ite_s hf with ⟨c_1003, hf⟩ | ⟨c_1003, hf⟩
      · refine m_tsI M (dflt := 160) (t0 := 0) (t1 := 8) (offs := #[49, 54, 59, 64, 69, 96, 117, 122, 127]) (len := 49) (tgt := 62) 2 (by decide +kernel) (by rw [c_1003]; rfl) (by decide) rfl (by decide) ?_
        refine m_run M (is := [(62, .aload_n 0, 0), (63, .getfield 123, 0)]) (pc' := 66) (L' := [some (.ref 0), some (.int a0), some (.int 0), none]) (st' := [.int sp.2.2.2.2.2.2.2.1]) (w' := (cM 0 sp tk sv mf mo mn ma kv tv)) (by decide +kernel) rfl trivial ?_
        obtain rfl := Option.some.inj hf
        exact m_iret K (by decide +kernel) (Nat.zero_le _) (Nat.zero_le _) ⟨rfl, rfl⟩
      · rcases ite_s hf with ⟨c_1004, hf⟩ | ⟨c_1004, hf⟩
        · refine m_tsI M (dflt := 160) (t0 := 0) (t1 := 8) (offs := #[49, 54, 59, 64, 69, 96, 117, 122, 127]) (len := 49) (tgt := 67) 3 (by decide +kernel) (by rw [c_1004]; rfl) (by decide) rfl (by decide) ?_
          refine m_run M (is := [(67, .aload_n 0, 0), (68, .getfield 246, 0)]) (pc' := 71) (L' := [some (.ref 0), some (.int a0), some (.int 0), none]) (st' := [.int sp.2.2.2.2.2.2.2.2.1]) (w' := (cM 0 sp tk sv mf mo mn ma kv tv)) (by decide +kernel) rfl trivial ?_
          obtain rfl := Option.some.inj hf
          exact m_iret K (by decide +kernel) (Nat.zero_le _) (Nat.zero_le _) ⟨rfl, rfl⟩
        · rcases ite_s hf with ⟨c_1005, hf⟩ | ⟨c_1005, hf⟩
          · refine m_tsI M (dflt := 160) (t0 := 0) (t1 := 8) (offs := #[49, 54, 59, 64, 69, 96, 117, 122, 127]) (len := 49) (tgt := 72) 4 (by decide +kernel) (by rw [c_1005]; rfl) (by decide) rfl (by decide) ?_
            refine m_run M (is := [(72, .iconst 0, 0), (73, .istore_n 3, 0)]) (pc' := 74) (L' := [some (.ref 0), some (.int a0), some (.int 0), some (.int 0)]) (st' := []) (w' := (cM 0 sp tk sv mf mo mn ma kv tv)) (by decide +kernel) rfl trivial ?_
            refine m_wk M [some (.ref 0), none, some (.int 0), some (.int 0)] ⟨Or.inr rfl, Or.inl rfl, Or.inr rfl, Or.inr rfl, trivial⟩ ?_
            exact loop_0 fuel0 0 0 hf
          · rcases ite_s hf with ⟨c_1006, hf⟩ | ⟨c_1006, hf⟩
            · refine m_tsI M (dflt := 160) (t0 := 0) (t1 := 8) (offs := #[49, 54, 59, 64, 69, 96, 117, 122, 127]) (len := 49) (tgt := 99) 5 (by decide +kernel) (by rw [c_1006]; rfl) (by decide) rfl (by decide) ?_
              refine m_run M (is := [(99, .aload_n 0, 0), (100, .getfield 69, 0)]) (pc' := 103) (L' := [some (.ref 0), some (.int a0), some (.int 0), none]) (st' := [.int sp.2.2.2.2.2.1]) (w' := (cM 0 sp tk sv mf mo mn ma kv tv)) (by decide +kernel) rfl trivial ?_
              rcases ite_s hf with ⟨c_1007, hf⟩ | ⟨c_1007, hf⟩
              · refine m_jF M (i := .ifCond .ne 7) 110 (by decide +kernel) rfl (by decide) (fun n => n c_1007) ?_
                refine m_run M (is := [(106, .iconst 0, 0), (107, .goto 12, 0)]) (pc' := 119) (L' := [some (.ref 0), some (.int a0), some (.int 0), none]) (st' := [.int 0]) (w' := (cM 0 sp tk sv mf mo mn ma kv tv)) (by decide +kernel) rfl trivial ?_
                obtain rfl := Option.some.inj hf
                exact m_iret K (by decide +kernel) (Nat.zero_le _) (Nat.zero_le _) ⟨rfl, rfl⟩
              · refine m_jT M (i := .ifCond .ne 7) 110 (by decide +kernel) rfl (by decide) c_1007 ?_
                refine m_run M (is := [(110, .aload_n 0, 0), (111, .getfield 43, 0), (114, .aload_n 0, 0)]) (pc' := 115) (L' := [some (.ref 0), some (.int a0), some (.int 0), none]) (st' := [.ref 0, .ref 11]) (w' := (cM 0 sp tk sv mf mo mn ma kv tv)) (by decide +kernel) rfl trivial ?_
                obtain ⟨r1008, h_1008, hf⟩ := bnd_s hf
                refine m_cV0 M (rest := [.ref 11]) (w2 := (cM 0 sp tk sv mf mo mn ma kv tv)) (st2 := [.int r1008, .ref 11]) (run_X4_longestOf    sp tk sv mf mo mn ma kv tv h_1008) cv_X4_longestOf lk_X4_314 (by decide +kernel) (List.range 26) List.nodup_range ⟨(by rw [List.length_range]; exact Nat.le_refl _), Nat.le_of_ble_eq_true rfl⟩ (hwId rfl) rfl rfl (Nat.le_of_ble_eq_true rfl) ⟨by decide, by decide⟩ rfl rfl ⟨Nat.zero_le _, Nat.zero_le _⟩ (hpId rfl rfl) rfl ?_
                obtain ⟨h_1009, hf⟩ := grd_s hf
                refine m_run M (is := [(118, .iaload, 0)]) (pc' := 119) (L' := [some (.ref 0), some (.int a0), some (.int 0), none]) (st' := [.int (sp.2.2.1 r1008.toNatClampNeg)]) (w' := (cM 0 sp tk sv mf mo mn ma kv tv)) (by decide +kernel) rfl ⟨inB_use h_1009, trivial⟩ ?_
                obtain rfl := Option.some.inj hf
                exact m_iret K (by decide +kernel) (Nat.zero_le _) (Nat.zero_le _) ⟨rfl, rfl⟩
            · rcases ite_s hf with ⟨c_1010, hf⟩ | ⟨c_1010, hf⟩
              · refine m_tsI M (dflt := 160) (t0 := 0) (t1 := 8) (offs := #[49, 54, 59, 64, 69, 96, 117, 122, 127]) (len := 49) (tgt := 120) 6 (by decide +kernel) (by rw [c_1010]; rfl) (by decide) rfl (by decide) ?_
                refine m_run M (is := [(120, .aload_n 0, 0), (121, .getfield 136, 0)]) (pc' := 124) (L' := [some (.ref 0), some (.int a0), some (.int 0), none]) (st' := [.int tk.2.2.1]) (w' := (cM 0 sp tk sv mf mo mn ma kv tv)) (by decide +kernel) rfl trivial ?_
                obtain rfl := Option.some.inj hf
                exact m_iret K (by decide +kernel) (Nat.zero_le _) (Nat.zero_le _) ⟨rfl, rfl⟩
              · rcases ite_s hf with ⟨c_1011, hf⟩ | ⟨c_1011, hf⟩
                · refine m_tsI M (dflt := 160) (t0 := 0) (t1 := 8) (offs := #[49, 54, 59, 64, 69, 96, 117, 122, 127]) (len := 49) (tgt := 125) 7 (by decide +kernel) (by rw [c_1011]; rfl) (by decide) rfl (by decide) ?_
                  refine m_run M (is := [(125, .aload_n 0, 0), (126, .getfield 52, 0)]) (pc' := 129) (L' := [some (.ref 0), some (.int a0), some (.int 0), none]) (st' := [.int sp.2.2.2.2.2.2.2.2.2]) (w' := (cM 0 sp tk sv mf mo mn ma kv tv)) (by decide +kernel) rfl trivial ?_
                  obtain rfl := Option.some.inj hf
                  exact m_iret K (by decide +kernel) (Nat.zero_le _) (Nat.zero_le _) ⟨rfl, rfl⟩
                · rcases ite_s hf with ⟨c_1012, hf⟩ | ⟨c_1012, hf⟩
                  · refine m_tsI M (dflt := 160) (t0 := 0) (t1 := 8) (offs := #[49, 54, 59, 64, 69, 96, 117, 122, 127]) (len := 49) (tgt := 130) 8 (by decide +kernel) (by rw [c_1012]; rfl) (by decide) rfl (by decide) ?_
                    refine m_run M (is := [(130, .iconst 0, 0), (131, .istore_n 3, 0)]) (pc' := 132) (L' := [some (.ref 0), some (.int a0), some (.int 0), some (.int 0)]) (st' := []) (w' := (cM 0 sp tk sv mf mo mn ma kv tv)) (by decide +kernel) rfl trivial ?_
                    refine m_wk M [some (.ref 0), none, some (.int 0), some (.int 0)] ⟨Or.inr rfl, Or.inl rfl, Or.inr rfl, Or.inr rfl, trivial⟩ ?_
                    exact loop_1 fuel0 0 0 hf
                  · refine m_tsO M (dflt := 160) (t0 := 0) (t1 := 8) (offs := #[49, 54, 59, 64, 69, 96, 117, 122, 127]) (len := 49) (tgt := 163) (by decide +kernel) (ts_out9 c_1001 c_1002 c_1003 c_1004 c_1005 c_1006 c_1010 c_1011 c_1012) (by decide) ?_
                    refine m_run M (is := [(163, .iload_n 1, 0), (164, .i2l, 0), (165, .ldc2_w 331, 0), (168, .ldc2_w 333, 0)]) (pc' := 171) (L' := [some (.ref 0), some (.int a0), some (.int 0), none]) (st' := [.long 16, .long 12, .long ((a0).toInt64)]) (w' := (cM 0 sp tk sv mf mo mn ma kv tv)) (by decide +kernel) rfl trivial ?_
                    obtain ⟨r1013, h_1013, hf⟩ := bnd_s hf
                    refine m_cS0 M (rest := []) (w2 := (cM 0 sp tk sv mf mo mn ma kv tv)) (st2 := [.int r1013]) (run_X4_in ((a0).toInt64) 12 16    h_1013) cs_X4_in lk_X4_72 (by decide +kernel) [] (by decide) ⟨Nat.le_of_ble_eq_true rfl, Nat.le_of_ble_eq_true rfl⟩ rfl rfl (Nat.le_of_ble_eq_true rfl) ⟨by decide, by decide⟩ rfl rfl ⟨Nat.zero_le _, Nat.zero_le _⟩ rfl rfl ?_
                    rcases ite_s hf with ⟨c_1014, hf⟩ | ⟨c_1014, hf⟩
                    · refine m_jT M (i := .ifCond .eq 15) 189 (by decide +kernel) rfl (by decide) c_1014 ?_
                      refine m_run M (is := [(189, .iconst (-1), -1)]) (pc' := 190) (L' := [some (.ref 0), some (.int a0), some (.int 0), none]) (st' := [.int (-1)]) (w' := (cM 0 sp tk sv mf mo mn ma kv tv)) (by decide +kernel) rfl trivial ?_
                      obtain rfl := Option.some.inj hf
                      exact m_iret K (by decide +kernel) (Nat.zero_le _) (Nat.zero_le _) ⟨rfl, rfl⟩
                    · refine m_jF M (i := .ifCond .eq 15) 189 (by decide +kernel) rfl (by decide) c_1014 ?_
                      obtain ⟨h_1015, hf⟩ := grd_s hf
                      refine m_run M (is := [(177, .aload_n 0, 0), (178, .getfield 34, 0), (181, .iload_n 1, 0), (182, .bipush 10, 10), (184, .isub, 0), (185, .iaload, 0), (186, .goto 4, 0)]) (pc' := 190) (L' := [some (.ref 0), some (.int a0), some (.int 0), none]) (st' := [.int (mf (a0 - 10).toNatClampNeg)]) (w' := (cM 0 sp tk sv mf mo mn ma kv tv)) (by decide +kernel) rfl ⟨inB_use h_1015, trivial⟩ ?_
                      obtain rfl := Option.some.inj hf
                      exact m_iret K (by decide +kernel) (Nat.zero_le _) (Nat.zero_le _) ⟨rfl, rfl⟩

