/-! ===== written by wip/whole/drive.py ===== -/
def f_X4_fresh (sp : ShT) (tb : Bool) (tp : ShT) (tf : AI) : Option (ShT × AI) :=
  if tb = true then
    (f_X4_takeFrom tp sp).bind fun r1002 =>
    some (r1002, tf)
  else
    (f_X4_takeFrom nSh sp).bind fun r1003 =>
    some (r1003, zI)
set_option maxRecDepth 100000 in
set_option maxHeartbeats 4000000 in
theorem run_X4_fresh {l : Launch} {D : va_G} {cT : Nat → ClassId}    (sp : ShT) (tk : TkT) (sv : SvT) (mf : AI) (mo : AI) (mn : AI) (ma : AI) (kb : Bool) (tb : Bool) (tp : ShT) (tf : AI) {r : ShT × AI} (hf : f_X4_fresh sp tb tp tf = some r) : Runs l D cT yX4_fresh cX4_fresh 1 (some (.object "BackByTwiceModel")) 2 43 [.ref 0] ((cM 0 sp tk sv mf mo mn ma (vb kb 52) (vb tb 26)) ++ (cMo 26 tb tp tf)) (EQ (some (.ref 26)) ((cM 0 sp tk sv mf mo mn ma (vb kb 52) (.ref 26)) ++ (cM 26 r.1 nTk nSv r.2 zI zI zI .null .null))) := by
  refine runs_ofT O_X4 okO_X4 (by decide +kernel) rfl rfl (Nat.le_of_ble_eq_true rfl) (by rw [len_T]; decide) (pot_T _ _ _ _ _ _ _ _ _ _ _ _ _ _) (fun g Rc Rs hB K => ?_)
  have M := K.b
  show g 0 0 ((cM 0 sp tk sv mf mo mn ma (vb kb 52) (vb tb 26)) ++ (cMo 26 tb tp tf)) 0 [some (.ref 0)] []
  rw [f_X4_fresh] at hf
  refine m_run M (is := [(0, .aload_n 0, 0), (1, .getfield 225, 0)]) (pc' := 4) (L' := [some (.ref 0)]) (st' := [(vb tb 26)]) (w' := ((cM 0 sp tk sv mf mo mn ma (vb kb 52) (vb tb 26)) ++ (cMo 26 tb tp tf))) (by decide +kernel) rfl trivial ?_
  rcases ite_s hf with ⟨c_1001, hg_1001⟩ | ⟨c_1001, hg_1001⟩
  · clear hf
    subst c_1001
    have hf := hg_1001
    refine m_nnR M 18 (off := 14) (by decide +kernel) (by decide) ?_
    refine m_run M (is := [(18, .aload_n 0, 0), (19, .getfield 225, 0), (22, .aload_n 0, 0)]) (pc' := 23) (L' := [some (.ref 0)]) (st' := [.ref 0, .ref 26]) (w' := ((cM 0 sp tk sv mf mo mn ma (vb kb 52) (.ref 26)) ++ (cM 26 tp nTk nSv tf zI zI zI .null .null))) (by decide +kernel) rfl trivial ?_
    obtain ⟨r1002, h_1002, hf⟩ := bnd_s hf
    refine m_cV0 M (rest := []) (w2 := ((cM 0 sp tk sv mf mo mn ma (vb kb 52) (.ref 26)) ++ (cM 26 r1002 nTk nSv tf zI zI zI .null .null))) (st2 := []) (run_X4_takeFrom    tp nTk nSv tf zI zI zI .null .null sp tk sv mf mo mn ma (vb kb 52) (.ref 0) h_1002) cv_X4_takeFrom lk_X4_230 (by decide +kernel) (rhF 52) (by decide) ⟨Nat.le_of_ble_eq_true rfl, Nat.le_of_ble_eq_true rfl⟩ (hwF (rvF kb) sp tk sv mf mo mn ma tp nTk nSv tf zI zI zI) rfl rfl (Nat.le_of_ble_eq_true rfl) ⟨by decide, by decide⟩ rfl rfl (bdg hB) (hpF (rvF kb) sp tk sv mf mo mn ma tp nTk nSv tf zI zI zI sp tk sv mf mo mn ma r1002 nTk nSv tf zI zI zI) rfl ?_
    refine m_run M (is := [(26, .aload_n 0, 0), (27, .getfield 225, 0)]) (pc' := 30) (L' := [some (.ref 0)]) (st' := [.ref 26]) (w' := ((cM 0 sp tk sv mf mo mn ma (vb kb 52) (.ref 26)) ++ (cM 26 r1002 nTk nSv tf zI zI zI .null .null))) (by decide +kernel) rfl trivial ?_
    obtain rfl := Option.some.inj hf
    exact m_aret K (Or.inl ⟨_, rfl⟩) (by decide +kernel) (bdg hB).1 (bdg hB).2 ⟨rfl, rfl⟩
  · have c_1001 := bF c_1001
    clear hf
    subst c_1001
    have hf := hg_1001
    refine m_nnN M (off := 14) (by decide +kernel) ?_
    refine m_run M (is := [(7, .aload_n 0, 0)]) (pc' := 8) (L' := [some (.ref 0)]) (st' := [.ref 0]) (w' := ((cM 0 sp tk sv mf mo mn ma (vb kb 52) .null) ++ abM)) (by decide +kernel) rfl trivial ?_
    refine m_new M (k := 26) 4 (by decide) [.null, .null, .null, .null, .null, .null, .null, .int 0, .null, .int 0, .null, .null, .null, .int 0, .null, .null, .int 0, .int 0, .int 0, .null, .null, .int 0, .int 0, .int 0, .int 0, .int 0, .null, .int 0, .null, .null, .null] kl_X4_8 kn_4 ki_4 df_4 (fun _ => rfl) ⟨rfl, nrT (x := false) (p := nSh) (f := zI) sp tk sv mf mo mn ma (vb kb 52) .null okR_w rfl, rfl, rfl⟩ (Nat.le_trans (show 0 + 1 ≤ 0 + potM false by decide) hB.1) (Nat.le_trans (show 0 + clN 4 ≤ 0 + potN false by decide) hB.2) (by decide +kernel) ?_
    show g 1 31 ((cM 0 sp tk sv mf mo mn ma (vb kb 52) .null) ++ (.inr (.inr (4, [.null, .null, .null, .null, .null, .null, .null, .int 0, .null, .int 0, .null, .null, .null, .int 0, .null, .null, .int 0, .int 0, .int 0, .null, .null, .int 0, .int 0, .int 0, .int 0, .int 0, .null, .int 0, .null, .null, .null])) :: abM.tail)) 11 [some (.ref 0)] [.ref 26, .ref 0]
    refine m_run M (is := [(11, .dup, 0)]) (pc' := 12) (L' := [some (.ref 0)]) (st' := [.ref 26, .ref 26, .ref 0]) (w' := ((cM 0 sp tk sv mf mo mn ma (vb kb 52) .null) ++ (.inr (.inr (4, [.null, .null, .null, .null, .null, .null, .null, .int 0, .null, .int 0, .null, .null, .null, .int 0, .null, .null, .int 0, .int 0, .int 0, .null, .null, .int 0, .int 0, .int 0, .int 0, .int 0, .null, .int 0, .null, .null, .null])) :: abM.tail))) (by decide +kernel) rfl trivial ?_
    refine m_cI0 M (rest := [.ref 26, .ref 0]) (w2 := ((cM 0 sp tk sv mf mo mn ma (vb kb 52) .null) ++ (cM 26 nSh nTk nSv zI zI zI zI .null .null))) (bc' := 26) (bs' := 1854) run_X4_init ci_X4_init lk_X4_229 (by decide +kernel) [26, 27, 28, 29, 30, 31, 32, 33, 34, 35, 36, 37, 38, 39, 40, 41, 42, 43, 44, 45, 46, 47, 48, 49, 50, 51] (by decide) ⟨Nat.le_of_ble_eq_true rfl, Nat.le_of_ble_eq_true rfl⟩ rfl rfl (Nat.le_of_ble_eq_true rfl) ⟨by decide, by decide⟩ rfl rfl (show 26 ≤ Rc ∧ 1854 ≤ Rs from ⟨Nat.le_trans (by decide) hB.1, Nat.le_trans (by decide) hB.2⟩) (nrO sp tk sv mf mo mn ma (vb kb 52) .null okR_w rfl) rfl (hpO sp tk sv mf mo mn ma (vb kb 52) .null) ?_
    have hB : 26 + potM true ≤ Rc ∧ 1854 + potN true ≤ Rs := ⟨Nat.le_trans (by decide) hB.1, Nat.le_trans (by decide) hB.2⟩
    refine m_run M (is := [(15, .putfield 225, 0), (18, .aload_n 0, 0), (19, .getfield 225, 0), (22, .aload_n 0, 0)]) (pc' := 23) (L' := [some (.ref 0)]) (st' := [.ref 0, .ref 26]) (w' := ((cM 0 sp tk sv mf mo mn ma (vb kb 52) (.ref 26)) ++ (cM 26 nSh nTk nSv zI zI zI zI .null .null))) (by decide +kernel) rfl trivial ?_
    obtain ⟨r1003, h_1003, hf⟩ := bnd_s hf
    refine m_cV0 M (rest := []) (w2 := ((cM 0 sp tk sv mf mo mn ma (vb kb 52) (.ref 26)) ++ (cM 26 r1003 nTk nSv zI zI zI zI .null .null))) (st2 := []) (run_X4_takeFrom    nSh nTk nSv zI zI zI zI .null .null sp tk sv mf mo mn ma (vb kb 52) (.ref 0) h_1003) cv_X4_takeFrom lk_X4_230 (by decide +kernel) (rhF 52) (by decide) ⟨Nat.le_of_ble_eq_true rfl, Nat.le_of_ble_eq_true rfl⟩ (hwF (rvF kb) sp tk sv mf mo mn ma nSh nTk nSv zI zI zI zI) rfl rfl (Nat.le_of_ble_eq_true rfl) ⟨by decide, by decide⟩ rfl rfl (bdg hB) (hpF (rvF kb) sp tk sv mf mo mn ma nSh nTk nSv zI zI zI zI sp tk sv mf mo mn ma r1003 nTk nSv zI zI zI zI) rfl ?_
    refine m_run M (is := [(26, .aload_n 0, 0), (27, .getfield 225, 0)]) (pc' := 30) (L' := [some (.ref 0)]) (st' := [.ref 26]) (w' := ((cM 0 sp tk sv mf mo mn ma (vb kb 52) (.ref 26)) ++ (cM 26 r1003 nTk nSv zI zI zI zI .null .null))) (by decide +kernel) rfl trivial ?_
    obtain rfl := Option.some.inj hf
    exact m_aret K (Or.inl ⟨_, rfl⟩) (by decide +kernel) (bdg hB).1 (bdg hB).2 ⟨rfl, rfl⟩

def f_X4_behindOf (a0 : Int32) (sp : ShT) (tb : Bool) (tp : ShT) (tf : AI) : Option (ShT × AI) :=
  (f_X4_fresh sp tb tp tf).bind fun r1001 =>
  (f_X4_goes a0 r1001.1).bind fun r1002 =>
  some (r1002, r1001.2)
set_option maxRecDepth 100000 in
set_option maxHeartbeats 4000000 in
theorem run_X4_behindOf {l : Launch} {D : va_G} {cT : Nat → ClassId} (a0 : Int32)   (sp : ShT) (tk : TkT) (sv : SvT) (mf : AI) (mo : AI) (mn : AI) (ma : AI) (kb : Bool) (tb : Bool) (tp : ShT) (tf : AI) {r : ShT × AI} (hf : f_X4_behindOf a0 sp tb tp tf = some r) : Runs l D cT yX4_behindOf cX4_behindOf 3 (some (.object "BackByTwiceModel")) 3 70 [.ref 0, .int a0] ((cM 0 sp tk sv mf mo mn ma (vb kb 52) (vb tb 26)) ++ (cMo 26 tb tp tf)) (EQ (some (.ref 26)) ((cM 0 sp tk sv mf mo mn ma (vb kb 52) (.ref 26)) ++ (cM 26 r.1 nTk nSv r.2 zI zI zI .null .null))) := by
  refine runs_ofT O_X4 okO_X4 (by decide +kernel) rfl rfl (Nat.le_of_ble_eq_true rfl) (by rw [len_T]; decide) (pot_T _ _ _ _ _ _ _ _ _ _ _ _ _ _) (fun g Rc Rs hB K => ?_)
  have M := K.b
  show g 0 0 ((cM 0 sp tk sv mf mo mn ma (vb kb 52) (vb tb 26)) ++ (cMo 26 tb tp tf)) 0 [some (.ref 0), some (.int a0), none] []
  rw [f_X4_behindOf] at hf
  refine m_run M (is := [(0, .aload_n 0, 0)]) (pc' := 1) (L' := [some (.ref 0), some (.int a0), none]) (st' := [.ref 0]) (w' := ((cM 0 sp tk sv mf mo mn ma (vb kb 52) (vb tb 26)) ++ (cMo 26 tb tp tf))) (by decide +kernel) rfl trivial ?_
  obtain ⟨r1001, h_1001, hf⟩ := bnd_s hf
  refine m_cT M (rest := []) (w2 := ((cM 0 sp tk sv mf mo mn ma (vb kb 52) (.ref 26)) ++ (cM 26 r1001.1 nTk nSv r1001.2 zI zI zI .null .null))) (st2 := [.ref 26]) (run_X4_fresh    sp tk sv mf mo mn ma kb tb tp tf h_1001) cv_X4_fresh lk_X4_234 (by decide +kernel) (List.range 53) List.nodup_range ⟨(by rw [List.length_range]; exact (by rw [len_T]; decide)), (by rw [List.length_range]; decide)⟩ (hwId2 (by rw [len_T]; decide)) rfl rfl (Nat.le_of_ble_eq_true rfl) ⟨by decide, by decide⟩ (pot_T _ _ _ _ _ _ _ _ _ _ _ _ _ _) hB (nrT (x := tb) (p := tp) (f := tf) sp tk sv mf mo mn ma (vb kb 52) (vb tb 26) okR_w okR_v) rfl (hpId2 (by rw [len_T]; decide) (by rw [len_T]; rfl)) rfl (fun bc bs hB => ?_)
  refine m_run M (is := [(4, .astore_n 2, 0), (5, .aload_n 2, 0), (6, .iload_n 1, 0)]) (pc' := 7) (L' := [some (.ref 0), some (.int a0), some (.ref 26)]) (st' := [.int a0, .ref 26]) (w' := ((cM 0 sp tk sv mf mo mn ma (vb kb 52) (.ref 26)) ++ (cM 26 r1001.1 nTk nSv r1001.2 zI zI zI .null .null))) (by decide +kernel) rfl trivial ?_
  obtain ⟨r1002, h_1002, hf⟩ := bnd_s hf
  refine m_cV0 M (rest := []) (w2 := ((cM 0 sp tk sv mf mo mn ma (vb kb 52) (.ref 26)) ++ (cM 26 r1002 nTk nSv r1001.2 zI zI zI .null .null))) (st2 := []) (run_X4_goes a0   r1001.1 nTk nSv r1001.2 zI zI zI .null .null h_1002) cv_X4_goes lk_X4_187 (by decide +kernel) rhT (by decide) ⟨Nat.le_of_ble_eq_true rfl, Nat.le_of_ble_eq_true rfl⟩ (hwT sp tk sv mf mo mn ma r1001.1 nTk nSv r1001.2 zI zI zI) rfl rfl (Nat.le_of_ble_eq_true rfl) ⟨by decide, by decide⟩ rfl rfl (bdg hB) (hpT sp tk sv mf mo mn ma r1001.1 nTk nSv r1001.2 zI zI zI r1002 nTk nSv r1001.2 zI zI zI) rfl ?_
  refine m_run M (is := [(10, .aload_n 2, 0)]) (pc' := 11) (L' := [some (.ref 0), some (.int a0), some (.ref 26)]) (st' := [.ref 26]) (w' := ((cM 0 sp tk sv mf mo mn ma (vb kb 52) (.ref 26)) ++ (cM 26 r1002 nTk nSv r1001.2 zI zI zI .null .null))) (by decide +kernel) rfl trivial ?_
  obtain rfl := Option.some.inj hf
  exact m_aret K (Or.inl ⟨_, rfl⟩) (by decide +kernel) (bdg hB).1 (bdg hB).2 ⟨rfl, rfl⟩

def f_X4_servedIn_L0 (v1 : Int32) (sp : ShT) : Nat → Int32 → Int32 → ShT → AI → Option (Int32 × ShT × AI)
  | 0, _, _, _, _ => none
  | n_ + 1, v3, v4, tp, tf =>
    if v1 ≤ v4 then
      some (v3, tp, tf)
    else
      if inB 0 16 then
      (f_X4_turn tp).bind fun r103 =>
      f_X4_servedIn_L0 v1 sp n_ (v3 ||| (1 <<< ((tp.1 (0 : Int32).toNatClampNeg) &&& 31))) (v4 + 1) r103 tf
      else none
def f_X4_servedIn (a0 : Int32) (sp : ShT) (tb : Bool) (tp : ShT) (tf : AI) : Option (Int32 × ShT × AI) :=
  (f_X4_fresh sp tb tp tf).bind fun r1001 =>
  f_X4_servedIn_L0 a0 sp fuel0 0 0 r1001.1 r1001.2
set_option maxRecDepth 100000 in
set_option maxHeartbeats 4000000 in
theorem run_X4_servedIn {l : Launch} {D : va_G} {cT : Nat → ClassId} (a0 : Int32)   (sp : ShT) (tk : TkT) (sv : SvT) (mf : AI) (mo : AI) (mn : AI) (ma : AI) (kb : Bool) (tb : Bool) (tp : ShT) (tf : AI) {r : Int32 × ShT × AI} (hf : f_X4_servedIn a0 sp tb tp tf = some r) : Runs l D cT yX4_servedIn cX4_servedIn 5 (some .int) 3 63 [.ref 0, .int a0] ((cM 0 sp tk sv mf mo mn ma (vb kb 52) (vb tb 26)) ++ (cMo 26 tb tp tf)) (EQ (some (.int r.1)) ((cM 0 sp tk sv mf mo mn ma (vb kb 52) (.ref 26)) ++ (cM 26 r.2.1 nTk nSv r.2.2 zI zI zI .null .null))) := by
  refine runs_ofT O_X4 okO_X4 (by decide +kernel) rfl rfl (Nat.le_of_ble_eq_true rfl) (by rw [len_T]; decide) (pot_T _ _ _ _ _ _ _ _ _ _ _ _ _ _) (fun g Rc Rs hB K => ?_)
  have M := K.b
  show g 0 0 ((cM 0 sp tk sv mf mo mn ma (vb kb 52) (vb tb 26)) ++ (cMo 26 tb tp tf)) 0 [some (.ref 0), some (.int a0), none, none, none] []
  have loop_0 : ∀ (v1 : Int32) (n_ : Nat), (∀ (v3 : Int32) (v4 : Int32) (tp : ShT) (tf : AI) (bc bs : Nat), bc + potM true ≤ Rc ∧ bs + potN true ≤ Rs → f_X4_servedIn_L0 v1 sp n_ v3 v4 tp tf = some r → g bc bs ((cM 0 sp tk sv mf mo mn ma (vb kb 52) (.ref 26)) ++ (cM 26 tp nTk nSv tf zI zI zI .null .null)) 10 [none, some (.int v1), some (.ref 26), some (.int v3), some (.int v4)] []) := by
    intro v1 n_
    induction n_ with
    | zero => intro v3 v4 tp tf bc bs hB hf; cases hf
    | succ n_ ih =>
      intro v3 v4 tp tf bc bs hB hf
      rw [f_X4_servedIn_L0] at hf
      refine m_run M (is := [(10, .iload 4, 0), (12, .iload_n 1, 0)]) (pc' := 13) (L' := [none, some (.int v1), some (.ref 26), some (.int v3), some (.int v4)]) (st' := [.int v1, .int v4]) (w' := ((cM 0 sp tk sv mf mo mn ma (vb kb 52) (.ref 26)) ++ (cM 26 tp nTk nSv tf zI zI zI .null .null))) (by decide +kernel) rfl trivial ?_
      rcases ite_s hf with ⟨c_101, hf⟩ | ⟨c_101, hf⟩
      · refine m_jT M (i := .if_icmp .ge 24) 37 (by decide +kernel) rfl (by decide) c_101 ?_
        refine m_run M (is := [(37, .iload_n 3, 0)]) (pc' := 38) (L' := [none, some (.int v1), some (.ref 26), some (.int v3), some (.int v4)]) (st' := [.int v3]) (w' := ((cM 0 sp tk sv mf mo mn ma (vb kb 52) (.ref 26)) ++ (cM 26 tp nTk nSv tf zI zI zI .null .null))) (by decide +kernel) rfl trivial ?_
        obtain rfl := Option.some.inj hf
        exact m_iret K (by decide +kernel) (bdg hB).1 (bdg hB).2 ⟨rfl, rfl⟩
      · refine m_jF M (i := .if_icmp .ge 24) 37 (by decide +kernel) rfl (by decide) c_101 ?_
        obtain ⟨h_102, hf⟩ := grd_s hf
        refine m_run M (is := [(16, .iload_n 3, 0), (17, .iconst 1, 1), (18, .aload_n 2, 0), (19, .getfield 37, 0), (22, .iconst 0, 0), (23, .iaload, 0), (24, .ishl, 0), (25, .ior, 0), (26, .istore_n 3, 0), (27, .aload_n 2, 0)]) (pc' := 28) (L' := [none, some (.int v1), some (.ref 26), some (.int (v3 ||| (1 <<< ((tp.1 (0 : Int32).toNatClampNeg) &&& 31)))), some (.int v4)]) (st' := [.ref 26]) (w' := ((cM 0 sp tk sv mf mo mn ma (vb kb 52) (.ref 26)) ++ (cM 26 tp nTk nSv tf zI zI zI .null .null))) (by decide +kernel) rfl ⟨inB_use h_102, trivial⟩ ?_
        obtain ⟨r103, h_103, hf⟩ := bnd_s hf
        refine m_cV0 M (rest := []) (w2 := ((cM 0 sp tk sv mf mo mn ma (vb kb 52) (.ref 26)) ++ (cM 26 r103 nTk nSv tf zI zI zI .null .null))) (st2 := []) (run_X4_turn    tp nTk nSv tf zI zI zI .null .null h_103) cv_X4_turn lk_X4_249 (by decide +kernel) rhT (by decide) ⟨Nat.le_of_ble_eq_true rfl, Nat.le_of_ble_eq_true rfl⟩ (hwT sp tk sv mf mo mn ma tp nTk nSv tf zI zI zI) rfl rfl (Nat.le_of_ble_eq_true rfl) ⟨by decide, by decide⟩ rfl rfl (bdg hB) (hpT sp tk sv mf mo mn ma tp nTk nSv tf zI zI zI r103 nTk nSv tf zI zI zI) rfl ?_
        refine m_run M (is := [(31, .iinc 4 1, 1), (34, .goto (-24), 0)]) (pc' := 10) (L' := [none, some (.int v1), some (.ref 26), some (.int (v3 ||| (1 <<< ((tp.1 (0 : Int32).toNatClampNeg) &&& 31)))), some (.int (v4 + 1))]) (st' := []) (w' := ((cM 0 sp tk sv mf mo mn ma (vb kb 52) (.ref 26)) ++ (cM 26 r103 nTk nSv tf zI zI zI .null .null))) (by decide +kernel) rfl trivial ?_
        exact ih (v3 ||| (1 <<< ((tp.1 (0 : Int32).toNatClampNeg) &&& 31))) (v4 + 1) r103 tf _ _ hB hf
  rw [f_X4_servedIn] at hf
  refine m_run M (is := [(0, .aload_n 0, 0)]) (pc' := 1) (L' := [some (.ref 0), some (.int a0), none, none, none]) (st' := [.ref 0]) (w' := ((cM 0 sp tk sv mf mo mn ma (vb kb 52) (vb tb 26)) ++ (cMo 26 tb tp tf))) (by decide +kernel) rfl trivial ?_
  obtain ⟨r1001, h_1001, hf⟩ := bnd_s hf
  refine m_cT M (rest := []) (w2 := ((cM 0 sp tk sv mf mo mn ma (vb kb 52) (.ref 26)) ++ (cM 26 r1001.1 nTk nSv r1001.2 zI zI zI .null .null))) (st2 := [.ref 26]) (run_X4_fresh    sp tk sv mf mo mn ma kb tb tp tf h_1001) cv_X4_fresh lk_X4_234 (by decide +kernel) (List.range 53) List.nodup_range ⟨(by rw [List.length_range]; exact (by rw [len_T]; decide)), (by rw [List.length_range]; decide)⟩ (hwId2 (by rw [len_T]; decide)) rfl rfl (Nat.le_of_ble_eq_true rfl) ⟨by decide, by decide⟩ (pot_T _ _ _ _ _ _ _ _ _ _ _ _ _ _) hB (nrT (x := tb) (p := tp) (f := tf) sp tk sv mf mo mn ma (vb kb 52) (vb tb 26) okR_w okR_v) rfl (hpId2 (by rw [len_T]; decide) (by rw [len_T]; rfl)) rfl (fun bc bs hB => ?_)
  refine m_run M (is := [(4, .astore_n 2, 0), (5, .iconst 0, 0), (6, .istore_n 3, 0), (7, .iconst 0, 0), (8, .istore 4, 0)]) (pc' := 10) (L' := [some (.ref 0), some (.int a0), some (.ref 26), some (.int 0), some (.int 0)]) (st' := []) (w' := ((cM 0 sp tk sv mf mo mn ma (vb kb 52) (.ref 26)) ++ (cM 26 r1001.1 nTk nSv r1001.2 zI zI zI .null .null))) (by decide +kernel) rfl trivial ?_
  refine m_wk M [none, some (.int a0), some (.ref 26), some (.int 0), some (.int 0)] ⟨Or.inl rfl, Or.inr rfl, Or.inr rfl, Or.inr rfl, Or.inr rfl, trivial⟩ ?_
  exact loop_0 a0 fuel0 0 0 r1001.1 r1001.2 _ _ hB hf

def f_X4_anewBy (a0 : Int32) (sp : ShT) (tb : Bool) (tp : ShT) (tf : AI) : Option (ShT × AI) :=
  (f_X4_fresh sp tb tp tf).bind fun r1001 =>
  (f_X4_beginsAnew (r1001.1.1, r1001.1.2.1, r1001.1.2.2.1, r1001.1.2.2.2.1, r1001.1.2.2.2.2.1, r1001.1.2.2.2.2.2.1, r1001.1.2.2.2.2.2.2.1, a0, r1001.1.2.2.2.2.2.2.2.2.1, r1001.1.2.2.2.2.2.2.2.2.2)).bind fun r1002 =>
  some (r1002, r1001.2)
set_option maxRecDepth 100000 in
set_option maxHeartbeats 4000000 in
theorem run_X4_anewBy {l : Launch} {D : va_G} {cT : Nat → ClassId} (a0 : Int32)   (sp : ShT) (tk : TkT) (sv : SvT) (mf : AI) (mo : AI) (mn : AI) (ma : AI) (kb : Bool) (tb : Bool) (tp : ShT) (tf : AI) {r : ShT × AI} (hf : f_X4_anewBy a0 sp tb tp tf = some r) : Runs l D cT yX4_anewBy cX4_anewBy 3 (some (.object "BackByTwiceModel")) 3 63 [.ref 0, .int a0] ((cM 0 sp tk sv mf mo mn ma (vb kb 52) (vb tb 26)) ++ (cMo 26 tb tp tf)) (EQ (some (.ref 26)) ((cM 0 sp tk sv mf mo mn ma (vb kb 52) (.ref 26)) ++ (cM 26 r.1 nTk nSv r.2 zI zI zI .null .null))) := by
  refine runs_ofT O_X4 okO_X4 (by decide +kernel) rfl rfl (Nat.le_of_ble_eq_true rfl) (by rw [len_T]; decide) (pot_T _ _ _ _ _ _ _ _ _ _ _ _ _ _) (fun g Rc Rs hB K => ?_)
  have M := K.b
  show g 0 0 ((cM 0 sp tk sv mf mo mn ma (vb kb 52) (vb tb 26)) ++ (cMo 26 tb tp tf)) 0 [some (.ref 0), some (.int a0), none] []
  rw [f_X4_anewBy] at hf
  refine m_run M (is := [(0, .aload_n 0, 0)]) (pc' := 1) (L' := [some (.ref 0), some (.int a0), none]) (st' := [.ref 0]) (w' := ((cM 0 sp tk sv mf mo mn ma (vb kb 52) (vb tb 26)) ++ (cMo 26 tb tp tf))) (by decide +kernel) rfl trivial ?_
  obtain ⟨r1001, h_1001, hf⟩ := bnd_s hf
  refine m_cT M (rest := []) (w2 := ((cM 0 sp tk sv mf mo mn ma (vb kb 52) (.ref 26)) ++ (cM 26 r1001.1 nTk nSv r1001.2 zI zI zI .null .null))) (st2 := [.ref 26]) (run_X4_fresh    sp tk sv mf mo mn ma kb tb tp tf h_1001) cv_X4_fresh lk_X4_234 (by decide +kernel) (List.range 53) List.nodup_range ⟨(by rw [List.length_range]; exact (by rw [len_T]; decide)), (by rw [List.length_range]; decide)⟩ (hwId2 (by rw [len_T]; decide)) rfl rfl (Nat.le_of_ble_eq_true rfl) ⟨by decide, by decide⟩ (pot_T _ _ _ _ _ _ _ _ _ _ _ _ _ _) hB (nrT (x := tb) (p := tp) (f := tf) sp tk sv mf mo mn ma (vb kb 52) (vb tb 26) okR_w okR_v) rfl (hpId2 (by rw [len_T]; decide) (by rw [len_T]; rfl)) rfl (fun bc bs hB => ?_)
  refine m_run M (is := [(4, .astore_n 2, 0), (5, .aload_n 2, 0), (6, .iload_n 1, 0), (7, .putfield 123, 0), (10, .aload_n 2, 0)]) (pc' := 11) (L' := [some (.ref 0), some (.int a0), some (.ref 26)]) (st' := [.ref 26]) (w' := ((cM 0 sp tk sv mf mo mn ma (vb kb 52) (.ref 26)) ++ (cM 26 (r1001.1.1, r1001.1.2.1, r1001.1.2.2.1, r1001.1.2.2.2.1, r1001.1.2.2.2.2.1, r1001.1.2.2.2.2.2.1, r1001.1.2.2.2.2.2.2.1, a0, r1001.1.2.2.2.2.2.2.2.2.1, r1001.1.2.2.2.2.2.2.2.2.2) nTk nSv r1001.2 zI zI zI .null .null))) (by decide +kernel) rfl trivial ?_
  obtain ⟨r1002, h_1002, hf⟩ := bnd_s hf
  refine m_cV0 M (rest := []) (w2 := ((cM 0 sp tk sv mf mo mn ma (vb kb 52) (.ref 26)) ++ (cM 26 r1002 nTk nSv r1001.2 zI zI zI .null .null))) (st2 := []) (run_X4_beginsAnew    (r1001.1.1, r1001.1.2.1, r1001.1.2.2.1, r1001.1.2.2.2.1, r1001.1.2.2.2.2.1, r1001.1.2.2.2.2.2.1, r1001.1.2.2.2.2.2.2.1, a0, r1001.1.2.2.2.2.2.2.2.2.1, r1001.1.2.2.2.2.2.2.2.2.2) nTk nSv r1001.2 zI zI zI .null .null h_1002) cv_X4_beginsAnew lk_X4_276 (by decide +kernel) rhT (by decide) ⟨Nat.le_of_ble_eq_true rfl, Nat.le_of_ble_eq_true rfl⟩ (hwT sp tk sv mf mo mn ma (r1001.1.1, r1001.1.2.1, r1001.1.2.2.1, r1001.1.2.2.2.1, r1001.1.2.2.2.2.1, r1001.1.2.2.2.2.2.1, r1001.1.2.2.2.2.2.2.1, a0, r1001.1.2.2.2.2.2.2.2.2.1, r1001.1.2.2.2.2.2.2.2.2.2) nTk nSv r1001.2 zI zI zI) rfl rfl (Nat.le_of_ble_eq_true rfl) ⟨by decide, by decide⟩ rfl rfl (bdg hB) (hpT sp tk sv mf mo mn ma (r1001.1.1, r1001.1.2.1, r1001.1.2.2.1, r1001.1.2.2.2.1, r1001.1.2.2.2.2.1, r1001.1.2.2.2.2.2.1, r1001.1.2.2.2.2.2.2.1, a0, r1001.1.2.2.2.2.2.2.2.2.1, r1001.1.2.2.2.2.2.2.2.2.2) nTk nSv r1001.2 zI zI zI r1002 nTk nSv r1001.2 zI zI zI) rfl ?_
  refine m_run M (is := [(14, .aload_n 2, 0)]) (pc' := 15) (L' := [some (.ref 0), some (.int a0), some (.ref 26)]) (st' := [.ref 26]) (w' := ((cM 0 sp tk sv mf mo mn ma (vb kb 52) (.ref 26)) ++ (cM 26 r1002 nTk nSv r1001.2 zI zI zI .null .null))) (by decide +kernel) rfl trivial ?_
  obtain rfl := Option.some.inj hf
  exact m_aret K (Or.inl ⟨_, rfl⟩) (by decide +kernel) (bdg hB).1 (bdg hB).2 ⟨rfl, rfl⟩

def f_X4_spreadBy (a0 : Int32) (a1 : Int32) (sp : ShT) (tb : Bool) (tp : ShT) (tf : AI) : Option (Int32 × ShT × AI) :=
  (f_X4_anewBy a0 sp tb tp tf).bind fun r1001 =>
  (f_X4_goes a1 r1001.1).bind fun r1002 =>
  (f_X4_spreadNow r1002).bind fun r1003 =>
  some (r1003, r1002, r1001.2)
set_option maxRecDepth 100000 in
set_option maxHeartbeats 4000000 in
theorem run_X4_spreadBy {l : Launch} {D : va_G} {cT : Nat → ClassId} (a0 : Int32) (a1 : Int32)   (sp : ShT) (tk : TkT) (sv : SvT) (mf : AI) (mo : AI) (mn : AI) (ma : AI) (kb : Bool) (tb : Bool) (tp : ShT) (tf : AI) {r : Int32 × ShT × AI} (hf : f_X4_spreadBy a0 a1 sp tb tp tf = some r) : Runs l D cT yX4_spreadBy cX4_spreadBy 4 (some .int) 4 85 [.ref 0, .int a0, .int a1] ((cM 0 sp tk sv mf mo mn ma (vb kb 52) (vb tb 26)) ++ (cMo 26 tb tp tf)) (EQ (some (.int r.1)) ((cM 0 sp tk sv mf mo mn ma (vb kb 52) (.ref 26)) ++ (cM 26 r.2.1 nTk nSv r.2.2 zI zI zI .null .null))) := by
  refine runs_ofT O_X4 okO_X4 (by decide +kernel) rfl rfl (Nat.le_of_ble_eq_true rfl) (by rw [len_T]; decide) (pot_T _ _ _ _ _ _ _ _ _ _ _ _ _ _) (fun g Rc Rs hB K => ?_)
  have M := K.b
  show g 0 0 ((cM 0 sp tk sv mf mo mn ma (vb kb 52) (vb tb 26)) ++ (cMo 26 tb tp tf)) 0 [some (.ref 0), some (.int a0), some (.int a1), none] []
  rw [f_X4_spreadBy] at hf
  refine m_run M (is := [(0, .aload_n 0, 0), (1, .iload_n 1, 0)]) (pc' := 2) (L' := [some (.ref 0), some (.int a0), some (.int a1), none]) (st' := [.int a0, .ref 0]) (w' := ((cM 0 sp tk sv mf mo mn ma (vb kb 52) (vb tb 26)) ++ (cMo 26 tb tp tf))) (by decide +kernel) rfl trivial ?_
  obtain ⟨r1001, h_1001, hf⟩ := bnd_s hf
  refine m_cT M (rest := []) (w2 := ((cM 0 sp tk sv mf mo mn ma (vb kb 52) (.ref 26)) ++ (cM 26 r1001.1 nTk nSv r1001.2 zI zI zI .null .null))) (st2 := [.ref 26]) (run_X4_anewBy a0   sp tk sv mf mo mn ma kb tb tp tf h_1001) cv_X4_anewBy lk_X4_282 (by decide +kernel) (List.range 53) List.nodup_range ⟨(by rw [List.length_range]; exact (by rw [len_T]; decide)), (by rw [List.length_range]; decide)⟩ (hwId2 (by rw [len_T]; decide)) rfl rfl (Nat.le_of_ble_eq_true rfl) ⟨by decide, by decide⟩ (pot_T _ _ _ _ _ _ _ _ _ _ _ _ _ _) hB (nrT (x := tb) (p := tp) (f := tf) sp tk sv mf mo mn ma (vb kb 52) (vb tb 26) okR_w okR_v) rfl (hpId2 (by rw [len_T]; decide) (by rw [len_T]; rfl)) rfl (fun bc bs hB => ?_)
  refine m_run M (is := [(5, .astore_n 3, 0), (6, .aload_n 3, 0), (7, .iload_n 2, 0)]) (pc' := 8) (L' := [some (.ref 0), some (.int a0), some (.int a1), some (.ref 26)]) (st' := [.int a1, .ref 26]) (w' := ((cM 0 sp tk sv mf mo mn ma (vb kb 52) (.ref 26)) ++ (cM 26 r1001.1 nTk nSv r1001.2 zI zI zI .null .null))) (by decide +kernel) rfl trivial ?_
  obtain ⟨r1002, h_1002, hf⟩ := bnd_s hf
  refine m_cV0 M (rest := []) (w2 := ((cM 0 sp tk sv mf mo mn ma (vb kb 52) (.ref 26)) ++ (cM 26 r1002 nTk nSv r1001.2 zI zI zI .null .null))) (st2 := []) (run_X4_goes a1   r1001.1 nTk nSv r1001.2 zI zI zI .null .null h_1002) cv_X4_goes lk_X4_187 (by decide +kernel) rhT (by decide) ⟨Nat.le_of_ble_eq_true rfl, Nat.le_of_ble_eq_true rfl⟩ (hwT sp tk sv mf mo mn ma r1001.1 nTk nSv r1001.2 zI zI zI) rfl rfl (Nat.le_of_ble_eq_true rfl) ⟨by decide, by decide⟩ rfl rfl (bdg hB) (hpT sp tk sv mf mo mn ma r1001.1 nTk nSv r1001.2 zI zI zI r1002 nTk nSv r1001.2 zI zI zI) rfl ?_
  refine m_run M (is := [(11, .aload_n 3, 0)]) (pc' := 12) (L' := [some (.ref 0), some (.int a0), some (.int a1), some (.ref 26)]) (st' := [.ref 26]) (w' := ((cM 0 sp tk sv mf mo mn ma (vb kb 52) (.ref 26)) ++ (cM 26 r1002 nTk nSv r1001.2 zI zI zI .null .null))) (by decide +kernel) rfl trivial ?_
  obtain ⟨r1003, h_1003, hf⟩ := bnd_s hf
  refine m_cV0 M (rest := []) (w2 := ((cM 0 sp tk sv mf mo mn ma (vb kb 52) (.ref 26)) ++ (cM 26 r1002 nTk nSv r1001.2 zI zI zI .null .null))) (st2 := [.int r1003]) (run_X4_spreadNow    r1002 nTk nSv r1001.2 zI zI zI .null .null h_1003) cv_X4_spreadNow lk_X4_285 (by decide +kernel) rhT (by decide) ⟨Nat.le_of_ble_eq_true rfl, Nat.le_of_ble_eq_true rfl⟩ (hwT sp tk sv mf mo mn ma r1002 nTk nSv r1001.2 zI zI zI) rfl rfl (Nat.le_of_ble_eq_true rfl) ⟨by decide, by decide⟩ rfl rfl (bdg hB) (hpT sp tk sv mf mo mn ma r1002 nTk nSv r1001.2 zI zI zI r1002 nTk nSv r1001.2 zI zI zI) rfl ?_
  obtain rfl := Option.some.inj hf
  exact m_iret K (by decide +kernel) (bdg hB).1 (bdg hB).2 ⟨rfl, rfl⟩

def f_X4_stands (a0 : Int32) (a1 : Int32) (sp : ShT) (mf : AI) (tb : Bool) (tp : ShT) (tf : AI) : Option (Int32 × AI × Bool × ShT × AI) :=
  (f_X4_mayTurns a0).bind fun r1001 =>
  if r1001 = 0 then
    (f_X4_refuse (-2) mf).bind fun r1003 =>
    some (r1003.1, r1003.2, tb, tp, tf)
  else
    (f_X4_isPerson ((a1).toInt64) sp).bind fun r1004 =>
    if r1004 = 0 then
      (f_X4_refuse (-2) mf).bind fun r1006 =>
      some (r1006.1, r1006.2, tb, tp, tf)
    else
      if sp.2.2.2.2.2.2.1 = 0 then
        (f_X4_refuse (-5) mf).bind fun r1008 =>
        some (r1008.1, r1008.2, tb, tp, tf)
      else
        (f_X4_behindOf a0 sp tb tp tf).bind fun r1009 =>
        if inB a1 16 then
        some ((r1009.1.1 a1.toNatClampNeg), mf, true, r1009.1, r1009.2)
        else none
set_option maxRecDepth 100000 in
set_option maxHeartbeats 4000000 in
theorem run_X4_stands {l : Launch} {D : va_G} {cT : Nat → ClassId} (a0 : Int32) (a1 : Int32)   (sp : ShT) (tk : TkT) (sv : SvT) (mf : AI) (mo : AI) (mn : AI) (ma : AI) (kb : Bool) (tb : Bool) (tp : ShT) (tf : AI) {r : Int32 × AI × Bool × ShT × AI} (hf : f_X4_stands a0 a1 sp mf tb tp tf = some r) : Runs l D cT yX4_stands cX4_stands 3 (some .int) 4 92 [.ref 0, .int a0, .int a1] ((cM 0 sp tk sv mf mo mn ma (vb kb 52) (vb tb 26)) ++ (cMo 26 tb tp tf)) (EQ (some (.int r.1)) ((cM 0 sp tk sv r.2.1 mo mn ma (vb kb 52) (vb r.2.2.1 26)) ++ (cMo 26 r.2.2.1 r.2.2.2.1 r.2.2.2.2))) := by
  refine runs_ofT O_X4 okO_X4 (by decide +kernel) rfl rfl (Nat.le_of_ble_eq_true rfl) (by rw [len_T]; decide) (pot_T _ _ _ _ _ _ _ _ _ _ _ _ _ _) (fun g Rc Rs hB K => ?_)
  have M := K.b
  show g 0 0 ((cM 0 sp tk sv mf mo mn ma (vb kb 52) (vb tb 26)) ++ (cMo 26 tb tp tf)) 0 [some (.ref 0), some (.int a0), some (.int a1)] []
  rw [f_X4_stands] at hf
  refine m_run M (is := [(0, .iload_n 1, 0)]) (pc' := 1) (L' := [some (.ref 0), some (.int a0), some (.int a1)]) (st' := [.int a0]) (w' := ((cM 0 sp tk sv mf mo mn ma (vb kb 52) (vb tb 26)) ++ (cMo 26 tb tp tf))) (by decide +kernel) rfl trivial ?_
  obtain ⟨r1001, h_1001, hf⟩ := bnd_s hf
  refine m_cS0 M (rest := []) (w2 := ((cM 0 sp tk sv mf mo mn ma (vb kb 52) (vb tb 26)) ++ (cMo 26 tb tp tf))) (st2 := [.int r1001]) (run_X4_mayTurns a0    h_1001) cs_X4_mayTurns lk_X4_255 (by decide +kernel) [] (by decide) ⟨Nat.le_of_ble_eq_true rfl, Nat.le_of_ble_eq_true rfl⟩ rfl rfl (Nat.le_of_ble_eq_true rfl) ⟨by decide, by decide⟩ rfl rfl (bdg hB) rfl rfl ?_
  rcases ite_s hf with ⟨c_1002, hf⟩ | ⟨c_1002, hf⟩
  · refine m_jT M (i := .ifCond .eq 12) 16 (by decide +kernel) rfl (by decide) c_1002 ?_
    refine m_run M (is := [(16, .aload_n 0, 0), (17, .bipush (-2), -2)]) (pc' := 19) (L' := [some (.ref 0), some (.int a0), some (.int a1)]) (st' := [.int (-2), .ref 0]) (w' := ((cM 0 sp tk sv mf mo mn ma (vb kb 52) (vb tb 26)) ++ (cMo 26 tb tp tf))) (by decide +kernel) rfl trivial ?_
    obtain ⟨r1003, h_1003, hf⟩ := bnd_s hf
    refine m_cV0 M (rest := []) (w2 := ((cM 0 sp tk sv r1003.2 mo mn ma (vb kb 52) (vb tb 26)) ++ (cMo 26 tb tp tf))) (st2 := [.int r1003.1]) (run_X4_refuse (-2)   sp tk sv mf mo mn ma (vb kb 26) (vb tb 27) h_1003) cv_X4_refuse lk_X4_85 (by decide +kernel) (rhS 52 26) (by decide) ⟨Nat.le_of_ble_eq_true rfl, Nat.le_of_ble_eq_true rfl⟩ (hwS (rvk kb) (rvt tb) (len_Mo _ _ _ _) sp tk sv mf mo mn ma) rfl rfl (Nat.le_of_ble_eq_true rfl) ⟨by decide, by decide⟩ rfl rfl (bdg hB) (hpS (rvk kb) (rvt tb) (len_Mo _ _ _ _) sp tk sv mf mo mn ma sp tk sv r1003.2 mo mn ma) rfl ?_
    obtain rfl := Option.some.inj hf
    exact m_iret K (by decide +kernel) (bdg hB).1 (bdg hB).2 ⟨rfl, rfl⟩
  · refine m_jF M (i := .ifCond .eq 12) 16 (by decide +kernel) rfl (by decide) c_1002 ?_
    refine m_run M (is := [(7, .aload_n 0, 0), (8, .iload_n 2, 0), (9, .i2l, 0)]) (pc' := 10) (L' := [some (.ref 0), some (.int a0), some (.int a1)]) (st' := [.long ((a1).toInt64), .ref 0]) (w' := ((cM 0 sp tk sv mf mo mn ma (vb kb 52) (vb tb 26)) ++ (cMo 26 tb tp tf))) (by decide +kernel) rfl trivial ?_
    obtain ⟨r1004, h_1004, hf⟩ := bnd_s hf
    refine m_cV0 M (rest := []) (w2 := ((cM 0 sp tk sv mf mo mn ma (vb kb 52) (vb tb 26)) ++ (cMo 26 tb tp tf))) (st2 := [.int r1004]) (run_X4_isPerson ((a1).toInt64)   sp tk sv mf mo mn ma (vb kb 26) (vb tb 27) h_1004) cv_X4_isPerson lk_X4_130 (by decide +kernel) (rhS 52 26) (by decide) ⟨Nat.le_of_ble_eq_true rfl, Nat.le_of_ble_eq_true rfl⟩ (hwS (rvk kb) (rvt tb) (len_Mo _ _ _ _) sp tk sv mf mo mn ma) rfl rfl (Nat.le_of_ble_eq_true rfl) ⟨by decide, by decide⟩ rfl rfl (bdg hB) (hpS (rvk kb) (rvt tb) (len_Mo _ _ _ _) sp tk sv mf mo mn ma sp tk sv mf mo mn ma) rfl ?_
    rcases ite_s hf with ⟨c_1005, hf⟩ | ⟨c_1005, hf⟩
    · refine m_jF M (i := .ifCond .ne 10) 23 (by decide +kernel) rfl (by decide) (fun n => n c_1005) ?_
      refine m_run M (is := [(16, .aload_n 0, 0), (17, .bipush (-2), -2)]) (pc' := 19) (L' := [some (.ref 0), some (.int a0), some (.int a1)]) (st' := [.int (-2), .ref 0]) (w' := ((cM 0 sp tk sv mf mo mn ma (vb kb 52) (vb tb 26)) ++ (cMo 26 tb tp tf))) (by decide +kernel) rfl trivial ?_
      obtain ⟨r1006, h_1006, hf⟩ := bnd_s hf
      refine m_cV0 M (rest := []) (w2 := ((cM 0 sp tk sv r1006.2 mo mn ma (vb kb 52) (vb tb 26)) ++ (cMo 26 tb tp tf))) (st2 := [.int r1006.1]) (run_X4_refuse (-2)   sp tk sv mf mo mn ma (vb kb 26) (vb tb 27) h_1006) cv_X4_refuse lk_X4_85 (by decide +kernel) (rhS 52 26) (by decide) ⟨Nat.le_of_ble_eq_true rfl, Nat.le_of_ble_eq_true rfl⟩ (hwS (rvk kb) (rvt tb) (len_Mo _ _ _ _) sp tk sv mf mo mn ma) rfl rfl (Nat.le_of_ble_eq_true rfl) ⟨by decide, by decide⟩ rfl rfl (bdg hB) (hpS (rvk kb) (rvt tb) (len_Mo _ _ _ _) sp tk sv mf mo mn ma sp tk sv r1006.2 mo mn ma) rfl ?_
      obtain rfl := Option.some.inj hf
      exact m_iret K (by decide +kernel) (bdg hB).1 (bdg hB).2 ⟨rfl, rfl⟩
    · refine m_jT M (i := .ifCond .ne 10) 23 (by decide +kernel) rfl (by decide) c_1005 ?_
      refine m_run M (is := [(23, .aload_n 0, 0), (24, .getfield 76, 0)]) (pc' := 27) (L' := [some (.ref 0), some (.int a0), some (.int a1)]) (st' := [.int sp.2.2.2.2.2.2.1]) (w' := ((cM 0 sp tk sv mf mo mn ma (vb kb 52) (vb tb 26)) ++ (cMo 26 tb tp tf))) (by decide +kernel) rfl trivial ?_
      rcases ite_s hf with ⟨c_1007, hf⟩ | ⟨c_1007, hf⟩
      · refine m_jF M (i := .ifCond .ne 12) 39 (by decide +kernel) rfl (by decide) (fun n => n c_1007) ?_
        refine m_run M (is := [(30, .aload_n 0, 0), (31, .bipush (-5), -5)]) (pc' := 33) (L' := [some (.ref 0), some (.int a0), some (.int a1)]) (st' := [.int (-5), .ref 0]) (w' := ((cM 0 sp tk sv mf mo mn ma (vb kb 52) (vb tb 26)) ++ (cMo 26 tb tp tf))) (by decide +kernel) rfl trivial ?_
        obtain ⟨r1008, h_1008, hf⟩ := bnd_s hf
        refine m_cV0 M (rest := []) (w2 := ((cM 0 sp tk sv r1008.2 mo mn ma (vb kb 52) (vb tb 26)) ++ (cMo 26 tb tp tf))) (st2 := [.int r1008.1]) (run_X4_refuse (-5)   sp tk sv mf mo mn ma (vb kb 26) (vb tb 27) h_1008) cv_X4_refuse lk_X4_85 (by decide +kernel) (rhS 52 26) (by decide) ⟨Nat.le_of_ble_eq_true rfl, Nat.le_of_ble_eq_true rfl⟩ (hwS (rvk kb) (rvt tb) (len_Mo _ _ _ _) sp tk sv mf mo mn ma) rfl rfl (Nat.le_of_ble_eq_true rfl) ⟨by decide, by decide⟩ rfl rfl (bdg hB) (hpS (rvk kb) (rvt tb) (len_Mo _ _ _ _) sp tk sv mf mo mn ma sp tk sv r1008.2 mo mn ma) rfl ?_
        refine m_run M (is := [(36, .goto 13, 0)]) (pc' := 49) (L' := [some (.ref 0), some (.int a0), some (.int a1)]) (st' := [.int r1008.1]) (w' := ((cM 0 sp tk sv r1008.2 mo mn ma (vb kb 52) (vb tb 26)) ++ (cMo 26 tb tp tf))) (by decide +kernel) rfl trivial ?_
        obtain rfl := Option.some.inj hf
        exact m_iret K (by decide +kernel) (bdg hB).1 (bdg hB).2 ⟨rfl, rfl⟩
      · refine m_jT M (i := .ifCond .ne 12) 39 (by decide +kernel) rfl (by decide) c_1007 ?_
        refine m_run M (is := [(39, .aload_n 0, 0), (40, .iload_n 1, 0)]) (pc' := 41) (L' := [some (.ref 0), some (.int a0), some (.int a1)]) (st' := [.int a0, .ref 0]) (w' := ((cM 0 sp tk sv mf mo mn ma (vb kb 52) (vb tb 26)) ++ (cMo 26 tb tp tf))) (by decide +kernel) rfl trivial ?_
        obtain ⟨r1009, h_1009, hf⟩ := bnd_s hf
        refine m_cT M (rest := []) (w2 := ((cM 0 sp tk sv mf mo mn ma (vb kb 52) (.ref 26)) ++ (cM 26 r1009.1 nTk nSv r1009.2 zI zI zI .null .null))) (st2 := [.ref 26]) (run_X4_behindOf a0   sp tk sv mf mo mn ma kb tb tp tf h_1009) cv_X4_behindOf lk_X4_258 (by decide +kernel) (List.range 53) List.nodup_range ⟨(by rw [List.length_range]; exact (by rw [len_T]; decide)), (by rw [List.length_range]; decide)⟩ (hwId2 (by rw [len_T]; decide)) rfl rfl (Nat.le_of_ble_eq_true rfl) ⟨by decide, by decide⟩ (pot_T _ _ _ _ _ _ _ _ _ _ _ _ _ _) hB (nrT (x := tb) (p := tp) (f := tf) sp tk sv mf mo mn ma (vb kb 52) (vb tb 26) okR_w okR_v) rfl (hpId2 (by rw [len_T]; decide) (by rw [len_T]; rfl)) rfl (fun bc bs hB => ?_)
        obtain ⟨h_1010, hf⟩ := grd_s hf
        refine m_run M (is := [(44, .getfield 37, 0), (47, .iload_n 2, 0), (48, .iaload, 0)]) (pc' := 49) (L' := [some (.ref 0), some (.int a0), some (.int a1)]) (st' := [.int (r1009.1.1 a1.toNatClampNeg)]) (w' := ((cM 0 sp tk sv mf mo mn ma (vb kb 52) (.ref 26)) ++ (cM 26 r1009.1 nTk nSv r1009.2 zI zI zI .null .null))) (by decide +kernel) rfl ⟨inB_use h_1010, trivial⟩ ?_
        obtain rfl := Option.some.inj hf
        exact m_iret K (by decide +kernel) (bdg hB).1 (bdg hB).2 ⟨rfl, rfl⟩

def f_X4_behind (a0 : Int32) (a1 : Int32) (a2 : Int32) (sp : ShT) (mf : AI) (tb : Bool) (tp : ShT) (tf : AI) : Option (Int32 × AI × Bool × ShT × AI) :=
  (f_X4_mayTurns a0).bind fun r1001 =>
  if r1001 = 0 then
    (f_X4_refuse (-2) mf).bind fun r1003 =>
    some (r1003.1, r1003.2, tb, tp, tf)
  else
    (f_X4_isPerson ((a1).toInt64) sp).bind fun r1004 =>
    if r1004 = 0 then
      (f_X4_refuse (-2) mf).bind fun r1006 =>
      some (r1006.1, r1006.2, tb, tp, tf)
    else
      (f_X4_in ((a2).toInt64) 0 2).bind fun r1007 =>
      if r1007 = 0 then
        (f_X4_refuse (-2) mf).bind fun r1009 =>
        some (r1009.1, r1009.2, tb, tp, tf)
      else
        if sp.2.2.2.2.2.2.1 = 0 then
          (f_X4_refuse (-5) mf).bind fun r1011 =>
          some (r1011.1, r1011.2, tb, tp, tf)
        else
          (f_X4_behindOf a0 sp tb tp tf).bind fun r1012 =>
          (f_X4_personOf a1 a2 r1012.1 r1012.2).bind fun r1013 =>
          some (r1013.1, mf, true, r1012.1, r1013.2)
set_option maxRecDepth 100000 in
set_option maxHeartbeats 4000000 in
theorem run_X4_behind {l : Launch} {D : va_G} {cT : Nat → ClassId} (a0 : Int32) (a1 : Int32) (a2 : Int32)   (sp : ShT) (tk : TkT) (sv : SvT) (mf : AI) (mo : AI) (mn : AI) (ma : AI) (kb : Bool) (tb : Bool) (tp : ShT) (tf : AI) {r : Int32 × AI × Bool × ShT × AI} (hf : f_X4_behind a0 a1 a2 sp mf tb tp tf = some r) : Runs l D cT yX4_behind cX4_behind 4 (some .int) 4 92 [.ref 0, .int a0, .int a1, .int a2] ((cM 0 sp tk sv mf mo mn ma (vb kb 52) (vb tb 26)) ++ (cMo 26 tb tp tf)) (EQ (some (.int r.1)) ((cM 0 sp tk sv r.2.1 mo mn ma (vb kb 52) (vb r.2.2.1 26)) ++ (cMo 26 r.2.2.1 r.2.2.2.1 r.2.2.2.2))) := by
  refine runs_ofT O_X4 okO_X4 (by decide +kernel) rfl rfl (Nat.le_of_ble_eq_true rfl) (by rw [len_T]; decide) (pot_T _ _ _ _ _ _ _ _ _ _ _ _ _ _) (fun g Rc Rs hB K => ?_)
  have M := K.b
  show g 0 0 ((cM 0 sp tk sv mf mo mn ma (vb kb 52) (vb tb 26)) ++ (cMo 26 tb tp tf)) 0 [some (.ref 0), some (.int a0), some (.int a1), some (.int a2)] []
  rw [f_X4_behind] at hf
  refine m_run M (is := [(0, .iload_n 1, 0)]) (pc' := 1) (L' := [some (.ref 0), some (.int a0), some (.int a1), some (.int a2)]) (st' := [.int a0]) (w' := ((cM 0 sp tk sv mf mo mn ma (vb kb 52) (vb tb 26)) ++ (cMo 26 tb tp tf))) (by decide +kernel) rfl trivial ?_
  obtain ⟨r1001, h_1001, hf⟩ := bnd_s hf
  refine m_cS0 M (rest := []) (w2 := ((cM 0 sp tk sv mf mo mn ma (vb kb 52) (vb tb 26)) ++ (cMo 26 tb tp tf))) (st2 := [.int r1001]) (run_X4_mayTurns a0    h_1001) cs_X4_mayTurns lk_X4_255 (by decide +kernel) [] (by decide) ⟨Nat.le_of_ble_eq_true rfl, Nat.le_of_ble_eq_true rfl⟩ rfl rfl (Nat.le_of_ble_eq_true rfl) ⟨by decide, by decide⟩ rfl rfl (bdg hB) rfl rfl ?_
  rcases ite_s hf with ⟨c_1002, hf⟩ | ⟨c_1002, hf⟩
  · refine m_jT M (i := .ifCond .eq 24) 28 (by decide +kernel) rfl (by decide) c_1002 ?_
    refine m_run M (is := [(28, .aload_n 0, 0), (29, .bipush (-2), -2)]) (pc' := 31) (L' := [some (.ref 0), some (.int a0), some (.int a1), some (.int a2)]) (st' := [.int (-2), .ref 0]) (w' := ((cM 0 sp tk sv mf mo mn ma (vb kb 52) (vb tb 26)) ++ (cMo 26 tb tp tf))) (by decide +kernel) rfl trivial ?_
    obtain ⟨r1003, h_1003, hf⟩ := bnd_s hf
    refine m_cV0 M (rest := []) (w2 := ((cM 0 sp tk sv r1003.2 mo mn ma (vb kb 52) (vb tb 26)) ++ (cMo 26 tb tp tf))) (st2 := [.int r1003.1]) (run_X4_refuse (-2)   sp tk sv mf mo mn ma (vb kb 26) (vb tb 27) h_1003) cv_X4_refuse lk_X4_85 (by decide +kernel) (rhS 52 26) (by decide) ⟨Nat.le_of_ble_eq_true rfl, Nat.le_of_ble_eq_true rfl⟩ (hwS (rvk kb) (rvt tb) (len_Mo _ _ _ _) sp tk sv mf mo mn ma) rfl rfl (Nat.le_of_ble_eq_true rfl) ⟨by decide, by decide⟩ rfl rfl (bdg hB) (hpS (rvk kb) (rvt tb) (len_Mo _ _ _ _) sp tk sv mf mo mn ma sp tk sv r1003.2 mo mn ma) rfl ?_
    obtain rfl := Option.some.inj hf
    exact m_iret K (by decide +kernel) (bdg hB).1 (bdg hB).2 ⟨rfl, rfl⟩
  · refine m_jF M (i := .ifCond .eq 24) 28 (by decide +kernel) rfl (by decide) c_1002 ?_
    refine m_run M (is := [(7, .aload_n 0, 0), (8, .iload_n 2, 0), (9, .i2l, 0)]) (pc' := 10) (L' := [some (.ref 0), some (.int a0), some (.int a1), some (.int a2)]) (st' := [.long ((a1).toInt64), .ref 0]) (w' := ((cM 0 sp tk sv mf mo mn ma (vb kb 52) (vb tb 26)) ++ (cMo 26 tb tp tf))) (by decide +kernel) rfl trivial ?_
    obtain ⟨r1004, h_1004, hf⟩ := bnd_s hf
    refine m_cV0 M (rest := []) (w2 := ((cM 0 sp tk sv mf mo mn ma (vb kb 52) (vb tb 26)) ++ (cMo 26 tb tp tf))) (st2 := [.int r1004]) (run_X4_isPerson ((a1).toInt64)   sp tk sv mf mo mn ma (vb kb 26) (vb tb 27) h_1004) cv_X4_isPerson lk_X4_130 (by decide +kernel) (rhS 52 26) (by decide) ⟨Nat.le_of_ble_eq_true rfl, Nat.le_of_ble_eq_true rfl⟩ (hwS (rvk kb) (rvt tb) (len_Mo _ _ _ _) sp tk sv mf mo mn ma) rfl rfl (Nat.le_of_ble_eq_true rfl) ⟨by decide, by decide⟩ rfl rfl (bdg hB) (hpS (rvk kb) (rvt tb) (len_Mo _ _ _ _) sp tk sv mf mo mn ma sp tk sv mf mo mn ma) rfl ?_
    rcases ite_s hf with ⟨c_1005, hf⟩ | ⟨c_1005, hf⟩
    · refine m_jT M (i := .ifCond .eq 15) 28 (by decide +kernel) rfl (by decide) c_1005 ?_
      refine m_run M (is := [(28, .aload_n 0, 0), (29, .bipush (-2), -2)]) (pc' := 31) (L' := [some (.ref 0), some (.int a0), some (.int a1), some (.int a2)]) (st' := [.int (-2), .ref 0]) (w' := ((cM 0 sp tk sv mf mo mn ma (vb kb 52) (vb tb 26)) ++ (cMo 26 tb tp tf))) (by decide +kernel) rfl trivial ?_
      obtain ⟨r1006, h_1006, hf⟩ := bnd_s hf
      refine m_cV0 M (rest := []) (w2 := ((cM 0 sp tk sv r1006.2 mo mn ma (vb kb 52) (vb tb 26)) ++ (cMo 26 tb tp tf))) (st2 := [.int r1006.1]) (run_X4_refuse (-2)   sp tk sv mf mo mn ma (vb kb 26) (vb tb 27) h_1006) cv_X4_refuse lk_X4_85 (by decide +kernel) (rhS 52 26) (by decide) ⟨Nat.le_of_ble_eq_true rfl, Nat.le_of_ble_eq_true rfl⟩ (hwS (rvk kb) (rvt tb) (len_Mo _ _ _ _) sp tk sv mf mo mn ma) rfl rfl (Nat.le_of_ble_eq_true rfl) ⟨by decide, by decide⟩ rfl rfl (bdg hB) (hpS (rvk kb) (rvt tb) (len_Mo _ _ _ _) sp tk sv mf mo mn ma sp tk sv r1006.2 mo mn ma) rfl ?_
      obtain rfl := Option.some.inj hf
      exact m_iret K (by decide +kernel) (bdg hB).1 (bdg hB).2 ⟨rfl, rfl⟩
    · refine m_jF M (i := .ifCond .eq 15) 28 (by decide +kernel) rfl (by decide) c_1005 ?_
      refine m_run M (is := [(16, .iload_n 3, 0), (17, .i2l, 0), (18, .lconst 0, 0), (19, .ldc2_w 241, 0)]) (pc' := 22) (L' := [some (.ref 0), some (.int a0), some (.int a1), some (.int a2)]) (st' := [.long 2, .long 0, .long ((a2).toInt64)]) (w' := ((cM 0 sp tk sv mf mo mn ma (vb kb 52) (vb tb 26)) ++ (cMo 26 tb tp tf))) (by decide +kernel) rfl trivial ?_
      obtain ⟨r1007, h_1007, hf⟩ := bnd_s hf
      refine m_cS0 M (rest := []) (w2 := ((cM 0 sp tk sv mf mo mn ma (vb kb 52) (vb tb 26)) ++ (cMo 26 tb tp tf))) (st2 := [.int r1007]) (run_X4_in ((a2).toInt64) 0 2    h_1007) cs_X4_in lk_X4_72 (by decide +kernel) [] (by decide) ⟨Nat.le_of_ble_eq_true rfl, Nat.le_of_ble_eq_true rfl⟩ rfl rfl (Nat.le_of_ble_eq_true rfl) ⟨by decide, by decide⟩ rfl rfl (bdg hB) rfl rfl ?_
      rcases ite_s hf with ⟨c_1008, hf⟩ | ⟨c_1008, hf⟩
      · refine m_jF M (i := .ifCond .ne 10) 35 (by decide +kernel) rfl (by decide) (fun n => n c_1008) ?_
        refine m_run M (is := [(28, .aload_n 0, 0), (29, .bipush (-2), -2)]) (pc' := 31) (L' := [some (.ref 0), some (.int a0), some (.int a1), some (.int a2)]) (st' := [.int (-2), .ref 0]) (w' := ((cM 0 sp tk sv mf mo mn ma (vb kb 52) (vb tb 26)) ++ (cMo 26 tb tp tf))) (by decide +kernel) rfl trivial ?_
        obtain ⟨r1009, h_1009, hf⟩ := bnd_s hf
        refine m_cV0 M (rest := []) (w2 := ((cM 0 sp tk sv r1009.2 mo mn ma (vb kb 52) (vb tb 26)) ++ (cMo 26 tb tp tf))) (st2 := [.int r1009.1]) (run_X4_refuse (-2)   sp tk sv mf mo mn ma (vb kb 26) (vb tb 27) h_1009) cv_X4_refuse lk_X4_85 (by decide +kernel) (rhS 52 26) (by decide) ⟨Nat.le_of_ble_eq_true rfl, Nat.le_of_ble_eq_true rfl⟩ (hwS (rvk kb) (rvt tb) (len_Mo _ _ _ _) sp tk sv mf mo mn ma) rfl rfl (Nat.le_of_ble_eq_true rfl) ⟨by decide, by decide⟩ rfl rfl (bdg hB) (hpS (rvk kb) (rvt tb) (len_Mo _ _ _ _) sp tk sv mf mo mn ma sp tk sv r1009.2 mo mn ma) rfl ?_
        obtain rfl := Option.some.inj hf
        exact m_iret K (by decide +kernel) (bdg hB).1 (bdg hB).2 ⟨rfl, rfl⟩
      · refine m_jT M (i := .ifCond .ne 10) 35 (by decide +kernel) rfl (by decide) c_1008 ?_
        refine m_run M (is := [(35, .aload_n 0, 0), (36, .getfield 76, 0)]) (pc' := 39) (L' := [some (.ref 0), some (.int a0), some (.int a1), some (.int a2)]) (st' := [.int sp.2.2.2.2.2.2.1]) (w' := ((cM 0 sp tk sv mf mo mn ma (vb kb 52) (vb tb 26)) ++ (cMo 26 tb tp tf))) (by decide +kernel) rfl trivial ?_
        rcases ite_s hf with ⟨c_1010, hf⟩ | ⟨c_1010, hf⟩
        · refine m_jF M (i := .ifCond .ne 12) 51 (by decide +kernel) rfl (by decide) (fun n => n c_1010) ?_
          refine m_run M (is := [(42, .aload_n 0, 0), (43, .bipush (-5), -5)]) (pc' := 45) (L' := [some (.ref 0), some (.int a0), some (.int a1), some (.int a2)]) (st' := [.int (-5), .ref 0]) (w' := ((cM 0 sp tk sv mf mo mn ma (vb kb 52) (vb tb 26)) ++ (cMo 26 tb tp tf))) (by decide +kernel) rfl trivial ?_
          obtain ⟨r1011, h_1011, hf⟩ := bnd_s hf
          refine m_cV0 M (rest := []) (w2 := ((cM 0 sp tk sv r1011.2 mo mn ma (vb kb 52) (vb tb 26)) ++ (cMo 26 tb tp tf))) (st2 := [.int r1011.1]) (run_X4_refuse (-5)   sp tk sv mf mo mn ma (vb kb 26) (vb tb 27) h_1011) cv_X4_refuse lk_X4_85 (by decide +kernel) (rhS 52 26) (by decide) ⟨Nat.le_of_ble_eq_true rfl, Nat.le_of_ble_eq_true rfl⟩ (hwS (rvk kb) (rvt tb) (len_Mo _ _ _ _) sp tk sv mf mo mn ma) rfl rfl (Nat.le_of_ble_eq_true rfl) ⟨by decide, by decide⟩ rfl rfl (bdg hB) (hpS (rvk kb) (rvt tb) (len_Mo _ _ _ _) sp tk sv mf mo mn ma sp tk sv r1011.2 mo mn ma) rfl ?_
          refine m_run M (is := [(48, .goto 13, 0)]) (pc' := 61) (L' := [some (.ref 0), some (.int a0), some (.int a1), some (.int a2)]) (st' := [.int r1011.1]) (w' := ((cM 0 sp tk sv r1011.2 mo mn ma (vb kb 52) (vb tb 26)) ++ (cMo 26 tb tp tf))) (by decide +kernel) rfl trivial ?_
          obtain rfl := Option.some.inj hf
          exact m_iret K (by decide +kernel) (bdg hB).1 (bdg hB).2 ⟨rfl, rfl⟩
        · refine m_jT M (i := .ifCond .ne 12) 51 (by decide +kernel) rfl (by decide) c_1010 ?_
          refine m_run M (is := [(51, .aload_n 0, 0), (52, .iload_n 1, 0)]) (pc' := 53) (L' := [some (.ref 0), some (.int a0), some (.int a1), some (.int a2)]) (st' := [.int a0, .ref 0]) (w' := ((cM 0 sp tk sv mf mo mn ma (vb kb 52) (vb tb 26)) ++ (cMo 26 tb tp tf))) (by decide +kernel) rfl trivial ?_
          obtain ⟨r1012, h_1012, hf⟩ := bnd_s hf
          refine m_cT M (rest := []) (w2 := ((cM 0 sp tk sv mf mo mn ma (vb kb 52) (.ref 26)) ++ (cM 26 r1012.1 nTk nSv r1012.2 zI zI zI .null .null))) (st2 := [.ref 26]) (run_X4_behindOf a0   sp tk sv mf mo mn ma kb tb tp tf h_1012) cv_X4_behindOf lk_X4_258 (by decide +kernel) (List.range 53) List.nodup_range ⟨(by rw [List.length_range]; exact (by rw [len_T]; decide)), (by rw [List.length_range]; decide)⟩ (hwId2 (by rw [len_T]; decide)) rfl rfl (Nat.le_of_ble_eq_true rfl) ⟨by decide, by decide⟩ (pot_T _ _ _ _ _ _ _ _ _ _ _ _ _ _) hB (nrT (x := tb) (p := tp) (f := tf) sp tk sv mf mo mn ma (vb kb 52) (vb tb 26) okR_w okR_v) rfl (hpId2 (by rw [len_T]; decide) (by rw [len_T]; rfl)) rfl (fun bc bs hB => ?_)
          refine m_run M (is := [(56, .iload_n 2, 0), (57, .iload_n 3, 0)]) (pc' := 58) (L' := [some (.ref 0), some (.int a0), some (.int a1), some (.int a2)]) (st' := [.int a2, .int a1, .ref 26]) (w' := ((cM 0 sp tk sv mf mo mn ma (vb kb 52) (.ref 26)) ++ (cM 26 r1012.1 nTk nSv r1012.2 zI zI zI .null .null))) (by decide +kernel) rfl trivial ?_
          obtain ⟨r1013, h_1013, hf⟩ := bnd_s hf
          refine m_cV0 M (rest := []) (w2 := ((cM 0 sp tk sv mf mo mn ma (vb kb 52) (.ref 26)) ++ (cM 26 r1012.1 nTk nSv r1013.2 zI zI zI .null .null))) (st2 := [.int r1013.1]) (run_X4_personOf a1 a2   r1012.1 nTk nSv r1012.2 zI zI zI .null .null h_1013) cv_X4_personOf lk_X4_262 (by decide +kernel) rhT (by decide) ⟨Nat.le_of_ble_eq_true rfl, Nat.le_of_ble_eq_true rfl⟩ (hwT sp tk sv mf mo mn ma r1012.1 nTk nSv r1012.2 zI zI zI) rfl rfl (Nat.le_of_ble_eq_true rfl) ⟨by decide, by decide⟩ rfl rfl (bdg hB) (hpT sp tk sv mf mo mn ma r1012.1 nTk nSv r1012.2 zI zI zI r1012.1 nTk nSv r1013.2 zI zI zI) rfl ?_
          obtain rfl := Option.some.inj hf
          exact m_iret K (by decide +kernel) (bdg hB).1 (bdg hB).2 ⟨rfl, rfl⟩

def f_X4_served (a0 : Int32) (sp : ShT) (mf : AI) (tb : Bool) (tp : ShT) (tf : AI) : Option (Int32 × AI × Bool × ShT × AI) :=
  (f_X4_in ((a0).toInt64) 1 999).bind fun r1001 =>
  if r1001 = 0 then
    (f_X4_refuse (-2) mf).bind fun r1003 =>
    some (r1003.1, r1003.2, tb, tp, tf)
  else
    (f_X4_goesOn sp).bind fun r1004 =>
    if r1004 = 0 then
      (f_X4_refuse (-5) mf).bind fun r1006 =>
      some (r1006.1, r1006.2, tb, tp, tf)
    else
      (f_X4_behindOf (a0 - 1) sp tb tp tf).bind fun r1007 =>
      if inB 0 16 then
      some ((r1007.1.1 (0 : Int32).toNatClampNeg), mf, true, r1007.1, r1007.2)
      else none
set_option maxRecDepth 100000 in
set_option maxHeartbeats 4000000 in
theorem run_X4_served {l : Launch} {D : va_G} {cT : Nat → ClassId} (a0 : Int32)   (sp : ShT) (tk : TkT) (sv : SvT) (mf : AI) (mo : AI) (mn : AI) (ma : AI) (kb : Bool) (tb : Bool) (tp : ShT) (tf : AI) {r : Int32 × AI × Bool × ShT × AI} (hf : f_X4_served a0 sp mf tb tp tf = some r) : Runs l D cT yX4_served cX4_served 2 (some .int) 4 92 [.ref 0, .int a0] ((cM 0 sp tk sv mf mo mn ma (vb kb 52) (vb tb 26)) ++ (cMo 26 tb tp tf)) (EQ (some (.int r.1)) ((cM 0 sp tk sv r.2.1 mo mn ma (vb kb 52) (vb r.2.2.1 26)) ++ (cMo 26 r.2.2.1 r.2.2.2.1 r.2.2.2.2))) := by
  refine runs_ofT O_X4 okO_X4 (by decide +kernel) rfl rfl (Nat.le_of_ble_eq_true rfl) (by rw [len_T]; decide) (pot_T _ _ _ _ _ _ _ _ _ _ _ _ _ _) (fun g Rc Rs hB K => ?_)
  have M := K.b
  show g 0 0 ((cM 0 sp tk sv mf mo mn ma (vb kb 52) (vb tb 26)) ++ (cMo 26 tb tp tf)) 0 [some (.ref 0), some (.int a0)] []
  rw [f_X4_served] at hf
  refine m_run M (is := [(0, .iload_n 1, 0), (1, .i2l, 0), (2, .lconst 1, 0), (3, .ldc2_w 126, 0)]) (pc' := 6) (L' := [some (.ref 0), some (.int a0)]) (st' := [.long 999, .long 1, .long ((a0).toInt64)]) (w' := ((cM 0 sp tk sv mf mo mn ma (vb kb 52) (vb tb 26)) ++ (cMo 26 tb tp tf))) (by decide +kernel) rfl trivial ?_
  obtain ⟨r1001, h_1001, hf⟩ := bnd_s hf
  refine m_cS0 M (rest := []) (w2 := ((cM 0 sp tk sv mf mo mn ma (vb kb 52) (vb tb 26)) ++ (cMo 26 tb tp tf))) (st2 := [.int r1001]) (run_X4_in ((a0).toInt64) 1 999    h_1001) cs_X4_in lk_X4_72 (by decide +kernel) [] (by decide) ⟨Nat.le_of_ble_eq_true rfl, Nat.le_of_ble_eq_true rfl⟩ rfl rfl (Nat.le_of_ble_eq_true rfl) ⟨by decide, by decide⟩ rfl rfl (bdg hB) rfl rfl ?_
  rcases ite_s hf with ⟨c_1002, hf⟩ | ⟨c_1002, hf⟩
  · refine m_jF M (i := .ifCond .ne 10) 19 (by decide +kernel) rfl (by decide) (fun n => n c_1002) ?_
    refine m_run M (is := [(12, .aload_n 0, 0), (13, .bipush (-2), -2)]) (pc' := 15) (L' := [some (.ref 0), some (.int a0)]) (st' := [.int (-2), .ref 0]) (w' := ((cM 0 sp tk sv mf mo mn ma (vb kb 52) (vb tb 26)) ++ (cMo 26 tb tp tf))) (by decide +kernel) rfl trivial ?_
    obtain ⟨r1003, h_1003, hf⟩ := bnd_s hf
    refine m_cV0 M (rest := []) (w2 := ((cM 0 sp tk sv r1003.2 mo mn ma (vb kb 52) (vb tb 26)) ++ (cMo 26 tb tp tf))) (st2 := [.int r1003.1]) (run_X4_refuse (-2)   sp tk sv mf mo mn ma (vb kb 26) (vb tb 27) h_1003) cv_X4_refuse lk_X4_85 (by decide +kernel) (rhS 52 26) (by decide) ⟨Nat.le_of_ble_eq_true rfl, Nat.le_of_ble_eq_true rfl⟩ (hwS (rvk kb) (rvt tb) (len_Mo _ _ _ _) sp tk sv mf mo mn ma) rfl rfl (Nat.le_of_ble_eq_true rfl) ⟨by decide, by decide⟩ rfl rfl (bdg hB) (hpS (rvk kb) (rvt tb) (len_Mo _ _ _ _) sp tk sv mf mo mn ma sp tk sv r1003.2 mo mn ma) rfl ?_
    obtain rfl := Option.some.inj hf
    exact m_iret K (by decide +kernel) (bdg hB).1 (bdg hB).2 ⟨rfl, rfl⟩
  · refine m_jT M (i := .ifCond .ne 10) 19 (by decide +kernel) rfl (by decide) c_1002 ?_
    refine m_run M (is := [(19, .aload_n 0, 0)]) (pc' := 20) (L' := [some (.ref 0), some (.int a0)]) (st' := [.ref 0]) (w' := ((cM 0 sp tk sv mf mo mn ma (vb kb 52) (vb tb 26)) ++ (cMo 26 tb tp tf))) (by decide +kernel) rfl trivial ?_
    obtain ⟨r1004, h_1004, hf⟩ := bnd_s hf
    refine m_cV0 M (rest := []) (w2 := ((cM 0 sp tk sv mf mo mn ma (vb kb 52) (vb tb 26)) ++ (cMo 26 tb tp tf))) (st2 := [.int r1004]) (run_X4_goesOn    sp tk sv mf mo mn ma (vb kb 26) (vb tb 27) h_1004) cv_X4_goesOn lk_X4_184 (by decide +kernel) (rhS 52 26) (by decide) ⟨Nat.le_of_ble_eq_true rfl, Nat.le_of_ble_eq_true rfl⟩ (hwS (rvk kb) (rvt tb) (len_Mo _ _ _ _) sp tk sv mf mo mn ma) rfl rfl (Nat.le_of_ble_eq_true rfl) ⟨by decide, by decide⟩ rfl rfl (bdg hB) (hpS (rvk kb) (rvt tb) (len_Mo _ _ _ _) sp tk sv mf mo mn ma sp tk sv mf mo mn ma) rfl ?_
    rcases ite_s hf with ⟨c_1005, hf⟩ | ⟨c_1005, hf⟩
    · refine m_jT M (i := .ifCond .eq 18) 41 (by decide +kernel) rfl (by decide) c_1005 ?_
      refine m_run M (is := [(41, .aload_n 0, 0), (42, .bipush (-5), -5)]) (pc' := 44) (L' := [some (.ref 0), some (.int a0)]) (st' := [.int (-5), .ref 0]) (w' := ((cM 0 sp tk sv mf mo mn ma (vb kb 52) (vb tb 26)) ++ (cMo 26 tb tp tf))) (by decide +kernel) rfl trivial ?_
      obtain ⟨r1006, h_1006, hf⟩ := bnd_s hf
      refine m_cV0 M (rest := []) (w2 := ((cM 0 sp tk sv r1006.2 mo mn ma (vb kb 52) (vb tb 26)) ++ (cMo 26 tb tp tf))) (st2 := [.int r1006.1]) (run_X4_refuse (-5)   sp tk sv mf mo mn ma (vb kb 26) (vb tb 27) h_1006) cv_X4_refuse lk_X4_85 (by decide +kernel) (rhS 52 26) (by decide) ⟨Nat.le_of_ble_eq_true rfl, Nat.le_of_ble_eq_true rfl⟩ (hwS (rvk kb) (rvt tb) (len_Mo _ _ _ _) sp tk sv mf mo mn ma) rfl rfl (Nat.le_of_ble_eq_true rfl) ⟨by decide, by decide⟩ rfl rfl (bdg hB) (hpS (rvk kb) (rvt tb) (len_Mo _ _ _ _) sp tk sv mf mo mn ma sp tk sv r1006.2 mo mn ma) rfl ?_
      obtain rfl := Option.some.inj hf
      exact m_iret K (by decide +kernel) (bdg hB).1 (bdg hB).2 ⟨rfl, rfl⟩
    · refine m_jF M (i := .ifCond .eq 18) 41 (by decide +kernel) rfl (by decide) c_1005 ?_
      refine m_run M (is := [(26, .aload_n 0, 0), (27, .iload_n 1, 0), (28, .iconst 1, 1), (29, .isub, 0)]) (pc' := 30) (L' := [some (.ref 0), some (.int a0)]) (st' := [.int (a0 - 1), .ref 0]) (w' := ((cM 0 sp tk sv mf mo mn ma (vb kb 52) (vb tb 26)) ++ (cMo 26 tb tp tf))) (by decide +kernel) rfl trivial ?_
      obtain ⟨r1007, h_1007, hf⟩ := bnd_s hf
      refine m_cT M (rest := []) (w2 := ((cM 0 sp tk sv mf mo mn ma (vb kb 52) (.ref 26)) ++ (cM 26 r1007.1 nTk nSv r1007.2 zI zI zI .null .null))) (st2 := [.ref 26]) (run_X4_behindOf (a0 - 1)   sp tk sv mf mo mn ma kb tb tp tf h_1007) cv_X4_behindOf lk_X4_258 (by decide +kernel) (List.range 53) List.nodup_range ⟨(by rw [List.length_range]; exact (by rw [len_T]; decide)), (by rw [List.length_range]; decide)⟩ (hwId2 (by rw [len_T]; decide)) rfl rfl (Nat.le_of_ble_eq_true rfl) ⟨by decide, by decide⟩ (pot_T _ _ _ _ _ _ _ _ _ _ _ _ _ _) hB (nrT (x := tb) (p := tp) (f := tf) sp tk sv mf mo mn ma (vb kb 52) (vb tb 26) okR_w okR_v) rfl (hpId2 (by rw [len_T]; decide) (by rw [len_T]; rfl)) rfl (fun bc bs hB => ?_)
      obtain ⟨h_1008, hf⟩ := grd_s hf
      refine m_run M (is := [(33, .getfield 37, 0), (36, .iconst 0, 0), (37, .iaload, 0), (38, .goto 9, 0)]) (pc' := 47) (L' := [some (.ref 0), some (.int a0)]) (st' := [.int (r1007.1.1 (0 : Int32).toNatClampNeg)]) (w' := ((cM 0 sp tk sv mf mo mn ma (vb kb 52) (.ref 26)) ++ (cM 26 r1007.1 nTk nSv r1007.2 zI zI zI .null .null))) (by decide +kernel) rfl ⟨inB_use h_1008, trivial⟩ ?_
      obtain rfl := Option.some.inj hf
      exact m_iret K (by decide +kernel) (bdg hB).1 (bdg hB).2 ⟨rfl, rfl⟩

def f_X4_round_L0 (sp : ShT) : Nat → Int32 → AI → ShT → AI → Option (Int32 × AI × Bool × ShT × AI)
  | 0, _, _, _, _ => none
  | n_ + 1, v2, mf, tp, tf =>
    if 999 < v2 then
      some ((-1), mf, true, tp, tf)
    else
      (f_X4_turn tp).bind fun r102 =>
      (f_X4_standsAs sp r102).bind fun r103 =>
      if r103 = 0 then
        f_X4_round_L0 sp n_ (v2 + 1) mf r102 tf
      else
        some (v2, mf, true, r102, tf)
def f_X4_round (sp : ShT) (mf : AI) (tb : Bool) (tp : ShT) (tf : AI) : Option (Int32 × AI × Bool × ShT × AI) :=
  (f_X4_goesOn sp).bind fun r1001 =>
  if r1001 = 0 then
    (f_X4_refuse (-5) mf).bind fun r1003 =>
    some (r1003.1, r1003.2, tb, tp, tf)
  else
    (f_X4_fresh sp tb tp tf).bind fun r1004 =>
    f_X4_round_L0 sp fuel0 1 mf r1004.1 r1004.2
set_option maxRecDepth 100000 in
set_option maxHeartbeats 4000000 in
theorem run_X4_round {l : Launch} {D : va_G} {cT : Nat → ClassId}    (sp : ShT) (tk : TkT) (sv : SvT) (mf : AI) (mo : AI) (mn : AI) (ma : AI) (kb : Bool) (tb : Bool) (tp : ShT) (tf : AI) {r : Int32 × AI × Bool × ShT × AI} (hf : f_X4_round sp mf tb tp tf = some r) : Runs l D cT yX4_round cX4_round 3 (some .int) 3 63 [.ref 0] ((cM 0 sp tk sv mf mo mn ma (vb kb 52) (vb tb 26)) ++ (cMo 26 tb tp tf)) (EQ (some (.int r.1)) ((cM 0 sp tk sv r.2.1 mo mn ma (vb kb 52) (vb r.2.2.1 26)) ++ (cMo 26 r.2.2.1 r.2.2.2.1 r.2.2.2.2))) := by
  refine runs_ofT O_X4 okO_X4 (by decide +kernel) rfl rfl (Nat.le_of_ble_eq_true rfl) (by rw [len_T]; decide) (pot_T _ _ _ _ _ _ _ _ _ _ _ _ _ _) (fun g Rc Rs hB K => ?_)
  have M := K.b
  show g 0 0 ((cM 0 sp tk sv mf mo mn ma (vb kb 52) (vb tb 26)) ++ (cMo 26 tb tp tf)) 0 [some (.ref 0), none, none] []
  have loop_0 : ∀ (tb : Bool) (n_ : Nat), (∀ (v2 : Int32) (mf : AI) (tp : ShT) (tf : AI) (bc bs : Nat), bc + potM true ≤ Rc ∧ bs + potN true ≤ Rs → f_X4_round_L0 sp n_ v2 mf tp tf = some r → g bc bs ((cM 0 sp tk sv mf mo mn ma (vb kb 52) (.ref 26)) ++ (cM 26 tp nTk nSv tf zI zI zI .null .null)) 21 [some (.ref 0), some (.ref 26), some (.int v2)] []) := by
    intro tb n_
    induction n_ with
    | zero => intro v2 mf tp tf bc bs hB hf; cases hf
    | succ n_ ih =>
      intro v2 mf tp tf bc bs hB hf
      rw [f_X4_round_L0] at hf
      refine m_run M (is := [(21, .iload_n 2, 0), (22, .sipush 999, 999)]) (pc' := 25) (L' := [some (.ref 0), some (.ref 26), some (.int v2)]) (st' := [.int 999, .int v2]) (w' := ((cM 0 sp tk sv mf mo mn ma (vb kb 52) (.ref 26)) ++ (cM 26 tp nTk nSv tf zI zI zI .null .null))) (by decide +kernel) rfl trivial ?_
      rcases ite_s hf with ⟨c_101, hf⟩ | ⟨c_101, hf⟩
      · refine m_jT M (i := .if_icmp .gt 23) 48 (by decide +kernel) rfl (by decide) c_101 ?_
        refine m_run M (is := [(48, .iconst (-1), -1)]) (pc' := 49) (L' := [some (.ref 0), some (.ref 26), some (.int v2)]) (st' := [.int (-1)]) (w' := ((cM 0 sp tk sv mf mo mn ma (vb kb 52) (.ref 26)) ++ (cM 26 tp nTk nSv tf zI zI zI .null .null))) (by decide +kernel) rfl trivial ?_
        obtain rfl := Option.some.inj hf
        exact m_iret K (by decide +kernel) (bdg hB).1 (bdg hB).2 ⟨rfl, rfl⟩
      · refine m_jF M (i := .if_icmp .gt 23) 48 (by decide +kernel) rfl (by decide) c_101 ?_
        refine m_run M (is := [(28, .aload_n 1, 0)]) (pc' := 29) (L' := [some (.ref 0), some (.ref 26), some (.int v2)]) (st' := [.ref 26]) (w' := ((cM 0 sp tk sv mf mo mn ma (vb kb 52) (.ref 26)) ++ (cM 26 tp nTk nSv tf zI zI zI .null .null))) (by decide +kernel) rfl trivial ?_
        obtain ⟨r102, h_102, hf⟩ := bnd_s hf
        refine m_cV0 M (rest := []) (w2 := ((cM 0 sp tk sv mf mo mn ma (vb kb 52) (.ref 26)) ++ (cM 26 r102 nTk nSv tf zI zI zI .null .null))) (st2 := []) (run_X4_turn    tp nTk nSv tf zI zI zI .null .null h_102) cv_X4_turn lk_X4_249 (by decide +kernel) rhT (by decide) ⟨Nat.le_of_ble_eq_true rfl, Nat.le_of_ble_eq_true rfl⟩ (hwT sp tk sv mf mo mn ma tp nTk nSv tf zI zI zI) rfl rfl (Nat.le_of_ble_eq_true rfl) ⟨by decide, by decide⟩ rfl rfl (bdg hB) (hpT sp tk sv mf mo mn ma tp nTk nSv tf zI zI zI r102 nTk nSv tf zI zI zI) rfl ?_
        refine m_run M (is := [(32, .aload_n 0, 0), (33, .aload_n 1, 0)]) (pc' := 34) (L' := [some (.ref 0), some (.ref 26), some (.int v2)]) (st' := [.ref 26, .ref 0]) (w' := ((cM 0 sp tk sv mf mo mn ma (vb kb 52) (.ref 26)) ++ (cM 26 r102 nTk nSv tf zI zI zI .null .null))) (by decide +kernel) rfl trivial ?_
        obtain ⟨r103, h_103, hf⟩ := bnd_s hf
        refine m_cV0 M (rest := []) (w2 := ((cM 0 sp tk sv mf mo mn ma (vb kb 52) (.ref 26)) ++ (cM 26 r102 nTk nSv tf zI zI zI .null .null))) (st2 := [.int r103]) (run_X4_standsAs    sp tk sv mf mo mn ma (vb kb 52) (.ref 26) r102 nTk nSv tf zI zI zI h_103) cv_X4_standsAs lk_X4_265 (by decide +kernel) (List.range 53) List.nodup_range ⟨(by rw [List.length_range]; exact Nat.le_of_ble_eq_true rfl), (by rw [List.length_range]; decide)⟩ (hwId2 (Nat.le_of_ble_eq_true rfl)) rfl rfl (Nat.le_of_ble_eq_true rfl) ⟨by decide, by decide⟩ rfl rfl (bdg hB) (hpId2 (Nat.le_of_ble_eq_true rfl) rfl) rfl ?_
        rcases ite_s hf with ⟨c_104, hf⟩ | ⟨c_104, hf⟩
        · refine m_jT M (i := .ifCond .eq 5) 42 (by decide +kernel) rfl (by decide) c_104 ?_
          refine m_run M (is := [(42, .iinc 2 1, 1), (45, .goto (-24), 0)]) (pc' := 21) (L' := [some (.ref 0), some (.ref 26), some (.int (v2 + 1))]) (st' := []) (w' := ((cM 0 sp tk sv mf mo mn ma (vb kb 52) (.ref 26)) ++ (cM 26 r102 nTk nSv tf zI zI zI .null .null))) (by decide +kernel) rfl trivial ?_
          exact ih (v2 + 1) mf r102 tf _ _ hB hf
        · refine m_jF M (i := .ifCond .eq 5) 42 (by decide +kernel) rfl (by decide) c_104 ?_
          refine m_run M (is := [(40, .iload_n 2, 0)]) (pc' := 41) (L' := [some (.ref 0), some (.ref 26), some (.int v2)]) (st' := [.int v2]) (w' := ((cM 0 sp tk sv mf mo mn ma (vb kb 52) (.ref 26)) ++ (cM 26 r102 nTk nSv tf zI zI zI .null .null))) (by decide +kernel) rfl trivial ?_
          obtain rfl := Option.some.inj hf
          exact m_iret K (by decide +kernel) (bdg hB).1 (bdg hB).2 ⟨rfl, rfl⟩
  rw [f_X4_round] at hf
  refine m_run M (is := [(0, .aload_n 0, 0)]) (pc' := 1) (L' := [some (.ref 0), none, none]) (st' := [.ref 0]) (w' := ((cM 0 sp tk sv mf mo mn ma (vb kb 52) (vb tb 26)) ++ (cMo 26 tb tp tf))) (by decide +kernel) rfl trivial ?_
  obtain ⟨r1001, h_1001, hf⟩ := bnd_s hf
  refine m_cV0 M (rest := []) (w2 := ((cM 0 sp tk sv mf mo mn ma (vb kb 52) (vb tb 26)) ++ (cMo 26 tb tp tf))) (st2 := [.int r1001]) (run_X4_goesOn    sp tk sv mf mo mn ma (vb kb 26) (vb tb 27) h_1001) cv_X4_goesOn lk_X4_184 (by decide +kernel) (rhS 52 26) (by decide) ⟨Nat.le_of_ble_eq_true rfl, Nat.le_of_ble_eq_true rfl⟩ (hwS (rvk kb) (rvt tb) (len_Mo _ _ _ _) sp tk sv mf mo mn ma) rfl rfl (Nat.le_of_ble_eq_true rfl) ⟨by decide, by decide⟩ rfl rfl (bdg hB) (hpS (rvk kb) (rvt tb) (len_Mo _ _ _ _) sp tk sv mf mo mn ma sp tk sv mf mo mn ma) rfl ?_
  rcases ite_s hf with ⟨c_1002, hf⟩ | ⟨c_1002, hf⟩
  · refine m_jF M (i := .ifCond .ne 10) 14 (by decide +kernel) rfl (by decide) (fun n => n c_1002) ?_
    refine m_run M (is := [(7, .aload_n 0, 0), (8, .bipush (-5), -5)]) (pc' := 10) (L' := [some (.ref 0), none, none]) (st' := [.int (-5), .ref 0]) (w' := ((cM 0 sp tk sv mf mo mn ma (vb kb 52) (vb tb 26)) ++ (cMo 26 tb tp tf))) (by decide +kernel) rfl trivial ?_
    obtain ⟨r1003, h_1003, hf⟩ := bnd_s hf
    refine m_cV0 M (rest := []) (w2 := ((cM 0 sp tk sv r1003.2 mo mn ma (vb kb 52) (vb tb 26)) ++ (cMo 26 tb tp tf))) (st2 := [.int r1003.1]) (run_X4_refuse (-5)   sp tk sv mf mo mn ma (vb kb 26) (vb tb 27) h_1003) cv_X4_refuse lk_X4_85 (by decide +kernel) (rhS 52 26) (by decide) ⟨Nat.le_of_ble_eq_true rfl, Nat.le_of_ble_eq_true rfl⟩ (hwS (rvk kb) (rvt tb) (len_Mo _ _ _ _) sp tk sv mf mo mn ma) rfl rfl (Nat.le_of_ble_eq_true rfl) ⟨by decide, by decide⟩ rfl rfl (bdg hB) (hpS (rvk kb) (rvt tb) (len_Mo _ _ _ _) sp tk sv mf mo mn ma sp tk sv r1003.2 mo mn ma) rfl ?_
    obtain rfl := Option.some.inj hf
    exact m_iret K (by decide +kernel) (bdg hB).1 (bdg hB).2 ⟨rfl, rfl⟩
  · refine m_jT M (i := .ifCond .ne 10) 14 (by decide +kernel) rfl (by decide) c_1002 ?_
    refine m_run M (is := [(14, .aload_n 0, 0)]) (pc' := 15) (L' := [some (.ref 0), none, none]) (st' := [.ref 0]) (w' := ((cM 0 sp tk sv mf mo mn ma (vb kb 52) (vb tb 26)) ++ (cMo 26 tb tp tf))) (by decide +kernel) rfl trivial ?_
    obtain ⟨r1004, h_1004, hf⟩ := bnd_s hf
    refine m_cT M (rest := []) (w2 := ((cM 0 sp tk sv mf mo mn ma (vb kb 52) (.ref 26)) ++ (cM 26 r1004.1 nTk nSv r1004.2 zI zI zI .null .null))) (st2 := [.ref 26]) (run_X4_fresh    sp tk sv mf mo mn ma kb tb tp tf h_1004) cv_X4_fresh lk_X4_234 (by decide +kernel) (List.range 53) List.nodup_range ⟨(by rw [List.length_range]; exact (by rw [len_T]; decide)), (by rw [List.length_range]; decide)⟩ (hwId2 (by rw [len_T]; decide)) rfl rfl (Nat.le_of_ble_eq_true rfl) ⟨by decide, by decide⟩ (pot_T _ _ _ _ _ _ _ _ _ _ _ _ _ _) hB (nrT (x := tb) (p := tp) (f := tf) sp tk sv mf mo mn ma (vb kb 52) (vb tb 26) okR_w okR_v) rfl (hpId2 (by rw [len_T]; decide) (by rw [len_T]; rfl)) rfl (fun bc bs hB => ?_)
    refine m_run M (is := [(18, .astore_n 1, 0), (19, .iconst 1, 1), (20, .istore_n 2, 0)]) (pc' := 21) (L' := [some (.ref 0), some (.ref 26), some (.int 1)]) (st' := []) (w' := ((cM 0 sp tk sv mf mo mn ma (vb kb 52) (.ref 26)) ++ (cM 26 r1004.1 nTk nSv r1004.2 zI zI zI .null .null))) (by decide +kernel) rfl trivial ?_
    exact loop_0 true fuel0 1 mf r1004.1 r1004.2 _ _ hB hf

def f_X4_when (a0 : Int32) (a1 : Int32) (sp : ShT) (mf : AI) (tb : Bool) (tp : ShT) (tf : AI) : Option (Int32 × AI × Bool × ShT × AI) :=
  (f_X4_isPerson ((a0).toInt64) sp).bind fun r1001 =>
  if r1001 = 0 then
    (f_X4_refuse (-2) mf).bind fun r1003 =>
    some (r1003.1, r1003.2, tb, tp, tf)
  else
    (f_X4_in ((a1).toInt64) 1 99).bind fun r1004 =>
    if r1004 = 0 then
      (f_X4_refuse (-2) mf).bind fun r1006 =>
      some (r1006.1, r1006.2, tb, tp, tf)
    else
      if sp.2.2.2.2.2.2.1 = 0 then
        (f_X4_refuse (-5) mf).bind fun r1008 =>
        some (r1008.1, r1008.2, tb, tp, tf)
      else
        (f_X4_fresh sp tb tp tf).bind fun r1009 =>
        (f_X4_whenIn a0 a1 999 r1009.1).bind fun r1010 =>
        some (r1010.1, mf, true, r1010.2, r1009.2)
set_option maxRecDepth 100000 in
set_option maxHeartbeats 4000000 in
theorem run_X4_when {l : Launch} {D : va_G} {cT : Nat → ClassId} (a0 : Int32) (a1 : Int32)   (sp : ShT) (tk : TkT) (sv : SvT) (mf : AI) (mo : AI) (mn : AI) (ma : AI) (kb : Bool) (tb : Bool) (tp : ShT) (tf : AI) {r : Int32 × AI × Bool × ShT × AI} (hf : f_X4_when a0 a1 sp mf tb tp tf = some r) : Runs l D cT yX4_when cX4_when 3 (some .int) 3 74 [.ref 0, .int a0, .int a1] ((cM 0 sp tk sv mf mo mn ma (vb kb 52) (vb tb 26)) ++ (cMo 26 tb tp tf)) (EQ (some (.int r.1)) ((cM 0 sp tk sv r.2.1 mo mn ma (vb kb 52) (vb r.2.2.1 26)) ++ (cMo 26 r.2.2.1 r.2.2.2.1 r.2.2.2.2))) := by
  refine runs_ofT O_X4 okO_X4 (by decide +kernel) rfl rfl (Nat.le_of_ble_eq_true rfl) (by rw [len_T]; decide) (pot_T _ _ _ _ _ _ _ _ _ _ _ _ _ _) (fun g Rc Rs hB K => ?_)
  have M := K.b
  show g 0 0 ((cM 0 sp tk sv mf mo mn ma (vb kb 52) (vb tb 26)) ++ (cMo 26 tb tp tf)) 0 [some (.ref 0), some (.int a0), some (.int a1)] []
  rw [f_X4_when] at hf
  refine m_run M (is := [(0, .aload_n 0, 0), (1, .iload_n 1, 0), (2, .i2l, 0)]) (pc' := 3) (L' := [some (.ref 0), some (.int a0), some (.int a1)]) (st' := [.long ((a0).toInt64), .ref 0]) (w' := ((cM 0 sp tk sv mf mo mn ma (vb kb 52) (vb tb 26)) ++ (cMo 26 tb tp tf))) (by decide +kernel) rfl trivial ?_
  obtain ⟨r1001, h_1001, hf⟩ := bnd_s hf
  refine m_cV0 M (rest := []) (w2 := ((cM 0 sp tk sv mf mo mn ma (vb kb 52) (vb tb 26)) ++ (cMo 26 tb tp tf))) (st2 := [.int r1001]) (run_X4_isPerson ((a0).toInt64)   sp tk sv mf mo mn ma (vb kb 26) (vb tb 27) h_1001) cv_X4_isPerson lk_X4_130 (by decide +kernel) (rhS 52 26) (by decide) ⟨Nat.le_of_ble_eq_true rfl, Nat.le_of_ble_eq_true rfl⟩ (hwS (rvk kb) (rvt tb) (len_Mo _ _ _ _) sp tk sv mf mo mn ma) rfl rfl (Nat.le_of_ble_eq_true rfl) ⟨by decide, by decide⟩ rfl rfl (bdg hB) (hpS (rvk kb) (rvt tb) (len_Mo _ _ _ _) sp tk sv mf mo mn ma sp tk sv mf mo mn ma) rfl ?_
  rcases ite_s hf with ⟨c_1002, hf⟩ | ⟨c_1002, hf⟩
  · refine m_jT M (i := .ifCond .eq 15) 21 (by decide +kernel) rfl (by decide) c_1002 ?_
    refine m_run M (is := [(21, .aload_n 0, 0), (22, .bipush (-2), -2)]) (pc' := 24) (L' := [some (.ref 0), some (.int a0), some (.int a1)]) (st' := [.int (-2), .ref 0]) (w' := ((cM 0 sp tk sv mf mo mn ma (vb kb 52) (vb tb 26)) ++ (cMo 26 tb tp tf))) (by decide +kernel) rfl trivial ?_
    obtain ⟨r1003, h_1003, hf⟩ := bnd_s hf
    refine m_cV0 M (rest := []) (w2 := ((cM 0 sp tk sv r1003.2 mo mn ma (vb kb 52) (vb tb 26)) ++ (cMo 26 tb tp tf))) (st2 := [.int r1003.1]) (run_X4_refuse (-2)   sp tk sv mf mo mn ma (vb kb 26) (vb tb 27) h_1003) cv_X4_refuse lk_X4_85 (by decide +kernel) (rhS 52 26) (by decide) ⟨Nat.le_of_ble_eq_true rfl, Nat.le_of_ble_eq_true rfl⟩ (hwS (rvk kb) (rvt tb) (len_Mo _ _ _ _) sp tk sv mf mo mn ma) rfl rfl (Nat.le_of_ble_eq_true rfl) ⟨by decide, by decide⟩ rfl rfl (bdg hB) (hpS (rvk kb) (rvt tb) (len_Mo _ _ _ _) sp tk sv mf mo mn ma sp tk sv r1003.2 mo mn ma) rfl ?_
    obtain rfl := Option.some.inj hf
    exact m_iret K (by decide +kernel) (bdg hB).1 (bdg hB).2 ⟨rfl, rfl⟩
  · refine m_jF M (i := .ifCond .eq 15) 21 (by decide +kernel) rfl (by decide) c_1002 ?_
    refine m_run M (is := [(9, .iload_n 2, 0), (10, .i2l, 0), (11, .lconst 1, 0), (12, .ldc2_w 128, 0)]) (pc' := 15) (L' := [some (.ref 0), some (.int a0), some (.int a1)]) (st' := [.long 99, .long 1, .long ((a1).toInt64)]) (w' := ((cM 0 sp tk sv mf mo mn ma (vb kb 52) (vb tb 26)) ++ (cMo 26 tb tp tf))) (by decide +kernel) rfl trivial ?_
    obtain ⟨r1004, h_1004, hf⟩ := bnd_s hf
    refine m_cS0 M (rest := []) (w2 := ((cM 0 sp tk sv mf mo mn ma (vb kb 52) (vb tb 26)) ++ (cMo 26 tb tp tf))) (st2 := [.int r1004]) (run_X4_in ((a1).toInt64) 1 99    h_1004) cs_X4_in lk_X4_72 (by decide +kernel) [] (by decide) ⟨Nat.le_of_ble_eq_true rfl, Nat.le_of_ble_eq_true rfl⟩ rfl rfl (Nat.le_of_ble_eq_true rfl) ⟨by decide, by decide⟩ rfl rfl (bdg hB) rfl rfl ?_
    rcases ite_s hf with ⟨c_1005, hf⟩ | ⟨c_1005, hf⟩
    · refine m_jF M (i := .ifCond .ne 10) 28 (by decide +kernel) rfl (by decide) (fun n => n c_1005) ?_
      refine m_run M (is := [(21, .aload_n 0, 0), (22, .bipush (-2), -2)]) (pc' := 24) (L' := [some (.ref 0), some (.int a0), some (.int a1)]) (st' := [.int (-2), .ref 0]) (w' := ((cM 0 sp tk sv mf mo mn ma (vb kb 52) (vb tb 26)) ++ (cMo 26 tb tp tf))) (by decide +kernel) rfl trivial ?_
      obtain ⟨r1006, h_1006, hf⟩ := bnd_s hf
      refine m_cV0 M (rest := []) (w2 := ((cM 0 sp tk sv r1006.2 mo mn ma (vb kb 52) (vb tb 26)) ++ (cMo 26 tb tp tf))) (st2 := [.int r1006.1]) (run_X4_refuse (-2)   sp tk sv mf mo mn ma (vb kb 26) (vb tb 27) h_1006) cv_X4_refuse lk_X4_85 (by decide +kernel) (rhS 52 26) (by decide) ⟨Nat.le_of_ble_eq_true rfl, Nat.le_of_ble_eq_true rfl⟩ (hwS (rvk kb) (rvt tb) (len_Mo _ _ _ _) sp tk sv mf mo mn ma) rfl rfl (Nat.le_of_ble_eq_true rfl) ⟨by decide, by decide⟩ rfl rfl (bdg hB) (hpS (rvk kb) (rvt tb) (len_Mo _ _ _ _) sp tk sv mf mo mn ma sp tk sv r1006.2 mo mn ma) rfl ?_
      obtain rfl := Option.some.inj hf
      exact m_iret K (by decide +kernel) (bdg hB).1 (bdg hB).2 ⟨rfl, rfl⟩
    · refine m_jT M (i := .ifCond .ne 10) 28 (by decide +kernel) rfl (by decide) c_1005 ?_
      refine m_run M (is := [(28, .aload_n 0, 0), (29, .getfield 76, 0)]) (pc' := 32) (L' := [some (.ref 0), some (.int a0), some (.int a1)]) (st' := [.int sp.2.2.2.2.2.2.1]) (w' := ((cM 0 sp tk sv mf mo mn ma (vb kb 52) (vb tb 26)) ++ (cMo 26 tb tp tf))) (by decide +kernel) rfl trivial ?_
      rcases ite_s hf with ⟨c_1007, hf⟩ | ⟨c_1007, hf⟩
      · refine m_jF M (i := .ifCond .ne 12) 44 (by decide +kernel) rfl (by decide) (fun n => n c_1007) ?_
        refine m_run M (is := [(35, .aload_n 0, 0), (36, .bipush (-5), -5)]) (pc' := 38) (L' := [some (.ref 0), some (.int a0), some (.int a1)]) (st' := [.int (-5), .ref 0]) (w' := ((cM 0 sp tk sv mf mo mn ma (vb kb 52) (vb tb 26)) ++ (cMo 26 tb tp tf))) (by decide +kernel) rfl trivial ?_
        obtain ⟨r1008, h_1008, hf⟩ := bnd_s hf
        refine m_cV0 M (rest := []) (w2 := ((cM 0 sp tk sv r1008.2 mo mn ma (vb kb 52) (vb tb 26)) ++ (cMo 26 tb tp tf))) (st2 := [.int r1008.1]) (run_X4_refuse (-5)   sp tk sv mf mo mn ma (vb kb 26) (vb tb 27) h_1008) cv_X4_refuse lk_X4_85 (by decide +kernel) (rhS 52 26) (by decide) ⟨Nat.le_of_ble_eq_true rfl, Nat.le_of_ble_eq_true rfl⟩ (hwS (rvk kb) (rvt tb) (len_Mo _ _ _ _) sp tk sv mf mo mn ma) rfl rfl (Nat.le_of_ble_eq_true rfl) ⟨by decide, by decide⟩ rfl rfl (bdg hB) (hpS (rvk kb) (rvt tb) (len_Mo _ _ _ _) sp tk sv mf mo mn ma sp tk sv r1008.2 mo mn ma) rfl ?_
        refine m_run M (is := [(41, .goto 16, 0)]) (pc' := 57) (L' := [some (.ref 0), some (.int a0), some (.int a1)]) (st' := [.int r1008.1]) (w' := ((cM 0 sp tk sv r1008.2 mo mn ma (vb kb 52) (vb tb 26)) ++ (cMo 26 tb tp tf))) (by decide +kernel) rfl trivial ?_
        obtain rfl := Option.some.inj hf
        exact m_iret K (by decide +kernel) (bdg hB).1 (bdg hB).2 ⟨rfl, rfl⟩
      · refine m_jT M (i := .ifCond .ne 12) 44 (by decide +kernel) rfl (by decide) c_1007 ?_
        refine m_run M (is := [(44, .aload_n 0, 0), (45, .aload_n 0, 0)]) (pc' := 46) (L' := [some (.ref 0), some (.int a0), some (.int a1)]) (st' := [.ref 0, .ref 0]) (w' := ((cM 0 sp tk sv mf mo mn ma (vb kb 52) (vb tb 26)) ++ (cMo 26 tb tp tf))) (by decide +kernel) rfl trivial ?_
        obtain ⟨r1009, h_1009, hf⟩ := bnd_s hf
        refine m_cT M (rest := [.ref 0]) (w2 := ((cM 0 sp tk sv mf mo mn ma (vb kb 52) (.ref 26)) ++ (cM 26 r1009.1 nTk nSv r1009.2 zI zI zI .null .null))) (st2 := [.ref 26, .ref 0]) (run_X4_fresh    sp tk sv mf mo mn ma kb tb tp tf h_1009) cv_X4_fresh lk_X4_234 (by decide +kernel) (List.range 53) List.nodup_range ⟨(by rw [List.length_range]; exact (by rw [len_T]; decide)), (by rw [List.length_range]; decide)⟩ (hwId2 (by rw [len_T]; decide)) rfl rfl (Nat.le_of_ble_eq_true rfl) ⟨by decide, by decide⟩ (pot_T _ _ _ _ _ _ _ _ _ _ _ _ _ _) hB (nrT (x := tb) (p := tp) (f := tf) sp tk sv mf mo mn ma (vb kb 52) (vb tb 26) okR_w okR_v) rfl (hpId2 (by rw [len_T]; decide) (by rw [len_T]; rfl)) rfl (fun bc bs hB => ?_)
        refine m_run M (is := [(49, .iload_n 1, 0), (50, .iload_n 2, 0), (51, .sipush 999, 999)]) (pc' := 54) (L' := [some (.ref 0), some (.int a0), some (.int a1)]) (st' := [.int 999, .int a1, .int a0, .ref 26, .ref 0]) (w' := ((cM 0 sp tk sv mf mo mn ma (vb kb 52) (.ref 26)) ++ (cM 26 r1009.1 nTk nSv r1009.2 zI zI zI .null .null))) (by decide +kernel) rfl trivial ?_
        obtain ⟨r1010, h_1010, hf⟩ := bnd_s hf
        refine m_cV0 M (rest := []) (w2 := ((cM 0 sp tk sv mf mo mn ma (vb kb 52) (.ref 26)) ++ (cM 26 r1010.2 nTk nSv r1009.2 zI zI zI .null .null))) (st2 := [.int r1010.1]) (run_X4_whenIn a0 a1 999   sp tk sv mf mo mn ma (vb kb 52) (.ref 26) r1009.1 nTk nSv r1009.2 zI zI zI h_1010) cv_X4_whenIn lk_X4_269 (by decide +kernel) (List.range 53) List.nodup_range ⟨(by rw [List.length_range]; exact Nat.le_of_ble_eq_true rfl), (by rw [List.length_range]; decide)⟩ (hwId2 (Nat.le_of_ble_eq_true rfl)) rfl rfl (Nat.le_of_ble_eq_true rfl) ⟨by decide, by decide⟩ rfl rfl (bdg hB) (hpId2 (Nat.le_of_ble_eq_true rfl) rfl) rfl ?_
        obtain rfl := Option.some.inj hf
        exact m_iret K (by decide +kernel) (bdg hB).1 (bdg hB).2 ⟨rfl, rfl⟩

def f_X4_never (sp : ShT) (mf : AI) (tb : Bool) (tp : ShT) (tf : AI) : Option (Int32 × AI × Bool × ShT × AI) :=
  (f_X4_goesOn sp).bind fun r1001 =>
  if r1001 = 0 then
    (f_X4_refuse (-5) mf).bind fun r1003 =>
    some (r1003.1, r1003.2, tb, tp, tf)
  else
    (f_X4_servedIn 999 sp tb tp tf).bind fun r1004 =>
    some ((((1 <<< (sp.2.2.2.2.2.1 &&& 31)) - 1) &&& (r1004.1 ^^^ (-1))), mf, true, r1004.2.1, r1004.2.2)
set_option maxRecDepth 100000 in
set_option maxHeartbeats 4000000 in
theorem run_X4_never {l : Launch} {D : va_G} {cT : Nat → ClassId}    (sp : ShT) (tk : TkT) (sv : SvT) (mf : AI) (mo : AI) (mn : AI) (ma : AI) (kb : Bool) (tb : Bool) (tp : ShT) (tf : AI) {r : Int32 × AI × Bool × ShT × AI} (hf : f_X4_never sp mf tb tp tf = some r) : Runs l D cT yX4_never cX4_never 1 (some .int) 4 87 [.ref 0] ((cM 0 sp tk sv mf mo mn ma (vb kb 52) (vb tb 26)) ++ (cMo 26 tb tp tf)) (EQ (some (.int r.1)) ((cM 0 sp tk sv r.2.1 mo mn ma (vb kb 52) (vb r.2.2.1 26)) ++ (cMo 26 r.2.2.1 r.2.2.2.1 r.2.2.2.2))) := by
  refine runs_ofT O_X4 okO_X4 (by decide +kernel) rfl rfl (Nat.le_of_ble_eq_true rfl) (by rw [len_T]; decide) (pot_T _ _ _ _ _ _ _ _ _ _ _ _ _ _) (fun g Rc Rs hB K => ?_)
  have M := K.b
  show g 0 0 ((cM 0 sp tk sv mf mo mn ma (vb kb 52) (vb tb 26)) ++ (cMo 26 tb tp tf)) 0 [some (.ref 0)] []
  rw [f_X4_never] at hf
  refine m_run M (is := [(0, .aload_n 0, 0)]) (pc' := 1) (L' := [some (.ref 0)]) (st' := [.ref 0]) (w' := ((cM 0 sp tk sv mf mo mn ma (vb kb 52) (vb tb 26)) ++ (cMo 26 tb tp tf))) (by decide +kernel) rfl trivial ?_
  obtain ⟨r1001, h_1001, hf⟩ := bnd_s hf
  refine m_cV0 M (rest := []) (w2 := ((cM 0 sp tk sv mf mo mn ma (vb kb 52) (vb tb 26)) ++ (cMo 26 tb tp tf))) (st2 := [.int r1001]) (run_X4_goesOn    sp tk sv mf mo mn ma (vb kb 26) (vb tb 27) h_1001) cv_X4_goesOn lk_X4_184 (by decide +kernel) (rhS 52 26) (by decide) ⟨Nat.le_of_ble_eq_true rfl, Nat.le_of_ble_eq_true rfl⟩ (hwS (rvk kb) (rvt tb) (len_Mo _ _ _ _) sp tk sv mf mo mn ma) rfl rfl (Nat.le_of_ble_eq_true rfl) ⟨by decide, by decide⟩ rfl rfl (bdg hB) (hpS (rvk kb) (rvt tb) (len_Mo _ _ _ _) sp tk sv mf mo mn ma sp tk sv mf mo mn ma) rfl ?_
  rcases ite_s hf with ⟨c_1002, hf⟩ | ⟨c_1002, hf⟩
  · refine m_jT M (i := .ifCond .eq 24) 28 (by decide +kernel) rfl (by decide) c_1002 ?_
    refine m_run M (is := [(28, .aload_n 0, 0), (29, .bipush (-5), -5)]) (pc' := 31) (L' := [some (.ref 0)]) (st' := [.int (-5), .ref 0]) (w' := ((cM 0 sp tk sv mf mo mn ma (vb kb 52) (vb tb 26)) ++ (cMo 26 tb tp tf))) (by decide +kernel) rfl trivial ?_
    obtain ⟨r1003, h_1003, hf⟩ := bnd_s hf
    refine m_cV0 M (rest := []) (w2 := ((cM 0 sp tk sv r1003.2 mo mn ma (vb kb 52) (vb tb 26)) ++ (cMo 26 tb tp tf))) (st2 := [.int r1003.1]) (run_X4_refuse (-5)   sp tk sv mf mo mn ma (vb kb 26) (vb tb 27) h_1003) cv_X4_refuse lk_X4_85 (by decide +kernel) (rhS 52 26) (by decide) ⟨Nat.le_of_ble_eq_true rfl, Nat.le_of_ble_eq_true rfl⟩ (hwS (rvk kb) (rvt tb) (len_Mo _ _ _ _) sp tk sv mf mo mn ma) rfl rfl (Nat.le_of_ble_eq_true rfl) ⟨by decide, by decide⟩ rfl rfl (bdg hB) (hpS (rvk kb) (rvt tb) (len_Mo _ _ _ _) sp tk sv mf mo mn ma sp tk sv r1003.2 mo mn ma) rfl ?_
    obtain rfl := Option.some.inj hf
    exact m_iret K (by decide +kernel) (bdg hB).1 (bdg hB).2 ⟨rfl, rfl⟩
  · refine m_jF M (i := .ifCond .eq 24) 28 (by decide +kernel) rfl (by decide) c_1002 ?_
    refine m_run M (is := [(7, .iconst 1, 1), (8, .aload_n 0, 0), (9, .getfield 69, 0), (12, .ishl, 0), (13, .iconst 1, 1), (14, .isub, 0), (15, .aload_n 0, 0), (16, .sipush 999, 999)]) (pc' := 19) (L' := [some (.ref 0)]) (st' := [.int 999, .ref 0, .int ((1 <<< (sp.2.2.2.2.2.1 &&& 31)) - 1)]) (w' := ((cM 0 sp tk sv mf mo mn ma (vb kb 52) (vb tb 26)) ++ (cMo 26 tb tp tf))) (by decide +kernel) rfl trivial ?_
    obtain ⟨r1004, h_1004, hf⟩ := bnd_s hf
    refine m_cT M (rest := [.int ((1 <<< (sp.2.2.2.2.2.1 &&& 31)) - 1)]) (w2 := ((cM 0 sp tk sv mf mo mn ma (vb kb 52) (.ref 26)) ++ (cM 26 r1004.2.1 nTk nSv r1004.2.2 zI zI zI .null .null))) (st2 := [.int r1004.1, .int ((1 <<< (sp.2.2.2.2.2.1 &&& 31)) - 1)]) (run_X4_servedIn 999   sp tk sv mf mo mn ma kb tb tp tf h_1004) cv_X4_servedIn lk_X4_273 (by decide +kernel) (List.range 53) List.nodup_range ⟨(by rw [List.length_range]; exact (by rw [len_T]; decide)), (by rw [List.length_range]; decide)⟩ (hwId2 (by rw [len_T]; decide)) rfl rfl (Nat.le_of_ble_eq_true rfl) ⟨by decide, by decide⟩ (pot_T _ _ _ _ _ _ _ _ _ _ _ _ _ _) hB (nrT (x := tb) (p := tp) (f := tf) sp tk sv mf mo mn ma (vb kb 52) (vb tb 26) okR_w okR_v) rfl (hpId2 (by rw [len_T]; decide) (by rw [len_T]; rfl)) rfl (fun bc bs hB => ?_)
    refine m_run M (is := [(22, .iconst (-1), -1), (23, .ixor, 0), (24, .iand, 0), (25, .goto 9, 0)]) (pc' := 34) (L' := [some (.ref 0)]) (st' := [.int (((1 <<< (sp.2.2.2.2.2.1 &&& 31)) - 1) &&& (r1004.1 ^^^ (-1)))]) (w' := ((cM 0 sp tk sv mf mo mn ma (vb kb 52) (.ref 26)) ++ (cM 26 r1004.2.1 nTk nSv r1004.2.2 zI zI zI .null .null))) (by decide +kernel) rfl trivial ?_
    obtain rfl := Option.some.inj hf
    exact m_iret K (by decide +kernel) (bdg hB).1 (bdg hB).2 ⟨rfl, rfl⟩

def f_X4_several_L0 (sp : ShT) : Nat → Int32 → Int32 → AI → ShT → AI → Option (Int32 × AI × Bool × ShT × AI)
  | 0, _, _, _, _, _ => none
  | n_ + 1, v2, v3, mf, tp, tf =>
    if v3 = 0 then
      some (v2, mf, true, tp, tf)
    else
      f_X4_several_L0 sp n_ (v2 + 1) (v3 &&& (v3 - 1)) mf tp tf
def f_X4_several (a0 : Int32) (sp : ShT) (mf : AI) (tb : Bool) (tp : ShT) (tf : AI) : Option (Int32 × AI × Bool × ShT × AI) :=
  (f_X4_mayTurns a0).bind fun r1001 =>
  if r1001 = 0 then
    (f_X4_refuse (-2) mf).bind fun r1003 =>
    some (r1003.1, r1003.2, tb, tp, tf)
  else
    (f_X4_goesOn sp).bind fun r1004 =>
    if r1004 = 0 then
      (f_X4_refuse (-5) mf).bind fun r1006 =>
      some (r1006.1, r1006.2, tb, tp, tf)
    else
      (f_X4_servedIn a0 sp tb tp tf).bind fun r1007 =>
      f_X4_several_L0 sp fuel0 0 r1007.1 mf r1007.2.1 r1007.2.2
set_option maxRecDepth 100000 in
set_option maxHeartbeats 4000000 in
theorem run_X4_several {l : Launch} {D : va_G} {cT : Nat → ClassId} (a0 : Int32)   (sp : ShT) (tk : TkT) (sv : SvT) (mf : AI) (mo : AI) (mn : AI) (ma : AI) (kb : Bool) (tb : Bool) (tp : ShT) (tf : AI) {r : Int32 × AI × Bool × ShT × AI} (hf : f_X4_several a0 sp mf tb tp tf = some r) : Runs l D cT yX4_several cX4_several 4 (some .int) 4 87 [.ref 0, .int a0] ((cM 0 sp tk sv mf mo mn ma (vb kb 52) (vb tb 26)) ++ (cMo 26 tb tp tf)) (EQ (some (.int r.1)) ((cM 0 sp tk sv r.2.1 mo mn ma (vb kb 52) (vb r.2.2.1 26)) ++ (cMo 26 r.2.2.1 r.2.2.2.1 r.2.2.2.2))) := by
  refine runs_ofT O_X4 okO_X4 (by decide +kernel) rfl rfl (Nat.le_of_ble_eq_true rfl) (by rw [len_T]; decide) (pot_T _ _ _ _ _ _ _ _ _ _ _ _ _ _) (fun g Rc Rs hB K => ?_)
  have M := K.b
  show g 0 0 ((cM 0 sp tk sv mf mo mn ma (vb kb 52) (vb tb 26)) ++ (cMo 26 tb tp tf)) 0 [some (.ref 0), some (.int a0), none, none] []
  have loop_0 : ∀ (tb : Bool) (n_ : Nat), (∀ (v2 : Int32) (v3 : Int32) (mf : AI) (tp : ShT) (tf : AI) (bc bs : Nat), bc + potM true ≤ Rc ∧ bs + potN true ≤ Rs → f_X4_several_L0 sp n_ v2 v3 mf tp tf = some r → g bc bs ((cM 0 sp tk sv mf mo mn ma (vb kb 52) (.ref 26)) ++ (cM 26 tp nTk nSv tf zI zI zI .null .null)) 36 [none, none, some (.int v2), some (.int v3)] []) := by
    intro tb n_
    induction n_ with
    | zero => intro v2 v3 mf tp tf bc bs hB hf; cases hf
    | succ n_ ih =>
      intro v2 v3 mf tp tf bc bs hB hf
      rw [f_X4_several_L0] at hf
      refine m_run M (is := [(36, .iload_n 3, 0)]) (pc' := 37) (L' := [none, none, some (.int v2), some (.int v3)]) (st' := [.int v3]) (w' := ((cM 0 sp tk sv mf mo mn ma (vb kb 52) (.ref 26)) ++ (cM 26 tp nTk nSv tf zI zI zI .null .null))) (by decide +kernel) rfl trivial ?_
      rcases ite_s hf with ⟨c_101, hf⟩ | ⟨c_101, hf⟩
      · refine m_jT M (i := .ifCond .eq 15) 52 (by decide +kernel) rfl (by decide) c_101 ?_
        refine m_run M (is := [(52, .iload_n 2, 0)]) (pc' := 53) (L' := [none, none, some (.int v2), some (.int v3)]) (st' := [.int v2]) (w' := ((cM 0 sp tk sv mf mo mn ma (vb kb 52) (.ref 26)) ++ (cM 26 tp nTk nSv tf zI zI zI .null .null))) (by decide +kernel) rfl trivial ?_
        obtain rfl := Option.some.inj hf
        exact m_iret K (by decide +kernel) (bdg hB).1 (bdg hB).2 ⟨rfl, rfl⟩
      · refine m_jF M (i := .ifCond .eq 15) 52 (by decide +kernel) rfl (by decide) c_101 ?_
        refine m_run M (is := [(40, .iinc 2 1, 1), (43, .iload_n 3, 0), (44, .iload_n 3, 0), (45, .iconst 1, 1), (46, .isub, 0), (47, .iand, 0), (48, .istore_n 3, 0), (49, .goto (-13), 0)]) (pc' := 36) (L' := [none, none, some (.int (v2 + 1)), some (.int (v3 &&& (v3 - 1)))]) (st' := []) (w' := ((cM 0 sp tk sv mf mo mn ma (vb kb 52) (.ref 26)) ++ (cM 26 tp nTk nSv tf zI zI zI .null .null))) (by decide +kernel) rfl trivial ?_
        exact ih (v2 + 1) (v3 &&& (v3 - 1)) mf tp tf _ _ hB hf
  rw [f_X4_several] at hf
  refine m_run M (is := [(0, .iload_n 1, 0)]) (pc' := 1) (L' := [some (.ref 0), some (.int a0), none, none]) (st' := [.int a0]) (w' := ((cM 0 sp tk sv mf mo mn ma (vb kb 52) (vb tb 26)) ++ (cMo 26 tb tp tf))) (by decide +kernel) rfl trivial ?_
  obtain ⟨r1001, h_1001, hf⟩ := bnd_s hf
  refine m_cS0 M (rest := []) (w2 := ((cM 0 sp tk sv mf mo mn ma (vb kb 52) (vb tb 26)) ++ (cMo 26 tb tp tf))) (st2 := [.int r1001]) (run_X4_mayTurns a0    h_1001) cs_X4_mayTurns lk_X4_255 (by decide +kernel) [] (by decide) ⟨Nat.le_of_ble_eq_true rfl, Nat.le_of_ble_eq_true rfl⟩ rfl rfl (Nat.le_of_ble_eq_true rfl) ⟨by decide, by decide⟩ rfl rfl (bdg hB) rfl rfl ?_
  rcases ite_s hf with ⟨c_1002, hf⟩ | ⟨c_1002, hf⟩
  · refine m_jF M (i := .ifCond .ne 10) 14 (by decide +kernel) rfl (by decide) (fun n => n c_1002) ?_
    refine m_run M (is := [(7, .aload_n 0, 0), (8, .bipush (-2), -2)]) (pc' := 10) (L' := [some (.ref 0), some (.int a0), none, none]) (st' := [.int (-2), .ref 0]) (w' := ((cM 0 sp tk sv mf mo mn ma (vb kb 52) (vb tb 26)) ++ (cMo 26 tb tp tf))) (by decide +kernel) rfl trivial ?_
    obtain ⟨r1003, h_1003, hf⟩ := bnd_s hf
    refine m_cV0 M (rest := []) (w2 := ((cM 0 sp tk sv r1003.2 mo mn ma (vb kb 52) (vb tb 26)) ++ (cMo 26 tb tp tf))) (st2 := [.int r1003.1]) (run_X4_refuse (-2)   sp tk sv mf mo mn ma (vb kb 26) (vb tb 27) h_1003) cv_X4_refuse lk_X4_85 (by decide +kernel) (rhS 52 26) (by decide) ⟨Nat.le_of_ble_eq_true rfl, Nat.le_of_ble_eq_true rfl⟩ (hwS (rvk kb) (rvt tb) (len_Mo _ _ _ _) sp tk sv mf mo mn ma) rfl rfl (Nat.le_of_ble_eq_true rfl) ⟨by decide, by decide⟩ rfl rfl (bdg hB) (hpS (rvk kb) (rvt tb) (len_Mo _ _ _ _) sp tk sv mf mo mn ma sp tk sv r1003.2 mo mn ma) rfl ?_
    obtain rfl := Option.some.inj hf
    exact m_iret K (by decide +kernel) (bdg hB).1 (bdg hB).2 ⟨rfl, rfl⟩
  · refine m_jT M (i := .ifCond .ne 10) 14 (by decide +kernel) rfl (by decide) c_1002 ?_
    refine m_run M (is := [(14, .aload_n 0, 0)]) (pc' := 15) (L' := [some (.ref 0), some (.int a0), none, none]) (st' := [.ref 0]) (w' := ((cM 0 sp tk sv mf mo mn ma (vb kb 52) (vb tb 26)) ++ (cMo 26 tb tp tf))) (by decide +kernel) rfl trivial ?_
    obtain ⟨r1004, h_1004, hf⟩ := bnd_s hf
    refine m_cV0 M (rest := []) (w2 := ((cM 0 sp tk sv mf mo mn ma (vb kb 52) (vb tb 26)) ++ (cMo 26 tb tp tf))) (st2 := [.int r1004]) (run_X4_goesOn    sp tk sv mf mo mn ma (vb kb 26) (vb tb 27) h_1004) cv_X4_goesOn lk_X4_184 (by decide +kernel) (rhS 52 26) (by decide) ⟨Nat.le_of_ble_eq_true rfl, Nat.le_of_ble_eq_true rfl⟩ (hwS (rvk kb) (rvt tb) (len_Mo _ _ _ _) sp tk sv mf mo mn ma) rfl rfl (Nat.le_of_ble_eq_true rfl) ⟨by decide, by decide⟩ rfl rfl (bdg hB) (hpS (rvk kb) (rvt tb) (len_Mo _ _ _ _) sp tk sv mf mo mn ma sp tk sv mf mo mn ma) rfl ?_
    rcases ite_s hf with ⟨c_1005, hf⟩ | ⟨c_1005, hf⟩
    · refine m_jF M (i := .ifCond .ne 10) 28 (by decide +kernel) rfl (by decide) (fun n => n c_1005) ?_
      refine m_run M (is := [(21, .aload_n 0, 0), (22, .bipush (-5), -5)]) (pc' := 24) (L' := [some (.ref 0), some (.int a0), none, none]) (st' := [.int (-5), .ref 0]) (w' := ((cM 0 sp tk sv mf mo mn ma (vb kb 52) (vb tb 26)) ++ (cMo 26 tb tp tf))) (by decide +kernel) rfl trivial ?_
      obtain ⟨r1006, h_1006, hf⟩ := bnd_s hf
      refine m_cV0 M (rest := []) (w2 := ((cM 0 sp tk sv r1006.2 mo mn ma (vb kb 52) (vb tb 26)) ++ (cMo 26 tb tp tf))) (st2 := [.int r1006.1]) (run_X4_refuse (-5)   sp tk sv mf mo mn ma (vb kb 26) (vb tb 27) h_1006) cv_X4_refuse lk_X4_85 (by decide +kernel) (rhS 52 26) (by decide) ⟨Nat.le_of_ble_eq_true rfl, Nat.le_of_ble_eq_true rfl⟩ (hwS (rvk kb) (rvt tb) (len_Mo _ _ _ _) sp tk sv mf mo mn ma) rfl rfl (Nat.le_of_ble_eq_true rfl) ⟨by decide, by decide⟩ rfl rfl (bdg hB) (hpS (rvk kb) (rvt tb) (len_Mo _ _ _ _) sp tk sv mf mo mn ma sp tk sv r1006.2 mo mn ma) rfl ?_
      obtain rfl := Option.some.inj hf
      exact m_iret K (by decide +kernel) (bdg hB).1 (bdg hB).2 ⟨rfl, rfl⟩
    · refine m_jT M (i := .ifCond .ne 10) 28 (by decide +kernel) rfl (by decide) c_1005 ?_
      refine m_run M (is := [(28, .iconst 0, 0), (29, .istore_n 2, 0), (30, .aload_n 0, 0), (31, .iload_n 1, 0)]) (pc' := 32) (L' := [some (.ref 0), some (.int a0), some (.int 0), none]) (st' := [.int a0, .ref 0]) (w' := ((cM 0 sp tk sv mf mo mn ma (vb kb 52) (vb tb 26)) ++ (cMo 26 tb tp tf))) (by decide +kernel) rfl trivial ?_
      obtain ⟨r1007, h_1007, hf⟩ := bnd_s hf
      refine m_cT M (rest := []) (w2 := ((cM 0 sp tk sv mf mo mn ma (vb kb 52) (.ref 26)) ++ (cM 26 r1007.2.1 nTk nSv r1007.2.2 zI zI zI .null .null))) (st2 := [.int r1007.1]) (run_X4_servedIn a0   sp tk sv mf mo mn ma kb tb tp tf h_1007) cv_X4_servedIn lk_X4_273 (by decide +kernel) (List.range 53) List.nodup_range ⟨(by rw [List.length_range]; exact (by rw [len_T]; decide)), (by rw [List.length_range]; decide)⟩ (hwId2 (by rw [len_T]; decide)) rfl rfl (Nat.le_of_ble_eq_true rfl) ⟨by decide, by decide⟩ (pot_T _ _ _ _ _ _ _ _ _ _ _ _ _ _) hB (nrT (x := tb) (p := tp) (f := tf) sp tk sv mf mo mn ma (vb kb 52) (vb tb 26) okR_w okR_v) rfl (hpId2 (by rw [len_T]; decide) (by rw [len_T]; rfl)) rfl (fun bc bs hB => ?_)
      refine m_run M (is := [(35, .istore_n 3, 0)]) (pc' := 36) (L' := [some (.ref 0), some (.int a0), some (.int 0), some (.int r1007.1)]) (st' := []) (w' := ((cM 0 sp tk sv mf mo mn ma (vb kb 52) (.ref 26)) ++ (cM 26 r1007.2.1 nTk nSv r1007.2.2 zI zI zI .null .null))) (by decide +kernel) rfl trivial ?_
      refine m_wk M [none, none, some (.int 0), some (.int r1007.1)] ⟨Or.inl rfl, Or.inl rfl, Or.inr rfl, Or.inr rfl, trivial⟩ ?_
      exact loop_0 true fuel0 0 r1007.1 mf r1007.2.1 r1007.2.2 _ _ hB hf

def f_X4_stand (a0 : Int32) (sp : ShT) (mf : AI) (tb : Bool) (tp : ShT) (tf : AI) : Option (Int32 × AI × Bool × ShT × AI) :=
  (f_X4_in ((a0).toInt64) 1 999).bind fun r1001 =>
  if r1001 = 0 then
    (f_X4_refuse (-2) mf).bind fun r1003 =>
    some (r1003.1, r1003.2, tb, tp, tf)
  else
    (f_X4_goesOn sp).bind fun r1004 =>
    if r1004 = 0 then
      (f_X4_refuse (-5) mf).bind fun r1006 =>
      some (r1006.1, r1006.2, tb, tp, tf)
    else
      (f_X4_behindOf (a0 - 1) sp tb tp tf).bind fun r1007 =>
      if inB 0 16 then
      (f_X4_placeOf (r1007.1.1 (0 : Int32).toNatClampNeg) sp).bind fun r1009 =>
      some (r1009, mf, true, r1007.1, r1007.2)
      else none
set_option maxRecDepth 100000 in
set_option maxHeartbeats 4000000 in
theorem run_X4_stand {l : Launch} {D : va_G} {cT : Nat → ClassId} (a0 : Int32)   (sp : ShT) (tk : TkT) (sv : SvT) (mf : AI) (mo : AI) (mn : AI) (ma : AI) (kb : Bool) (tb : Bool) (tp : ShT) (tf : AI) {r : Int32 × AI × Bool × ShT × AI} (hf : f_X4_stand a0 sp mf tb tp tf = some r) : Runs l D cT yX4_stand cX4_stand 2 (some .int) 4 92 [.ref 0, .int a0] ((cM 0 sp tk sv mf mo mn ma (vb kb 52) (vb tb 26)) ++ (cMo 26 tb tp tf)) (EQ (some (.int r.1)) ((cM 0 sp tk sv r.2.1 mo mn ma (vb kb 52) (vb r.2.2.1 26)) ++ (cMo 26 r.2.2.1 r.2.2.2.1 r.2.2.2.2))) := by
  refine runs_ofT O_X4 okO_X4 (by decide +kernel) rfl rfl (Nat.le_of_ble_eq_true rfl) (by rw [len_T]; decide) (pot_T _ _ _ _ _ _ _ _ _ _ _ _ _ _) (fun g Rc Rs hB K => ?_)
  have M := K.b
  show g 0 0 ((cM 0 sp tk sv mf mo mn ma (vb kb 52) (vb tb 26)) ++ (cMo 26 tb tp tf)) 0 [some (.ref 0), some (.int a0)] []
  rw [f_X4_stand] at hf
  refine m_run M (is := [(0, .iload_n 1, 0), (1, .i2l, 0), (2, .lconst 1, 0), (3, .ldc2_w 126, 0)]) (pc' := 6) (L' := [some (.ref 0), some (.int a0)]) (st' := [.long 999, .long 1, .long ((a0).toInt64)]) (w' := ((cM 0 sp tk sv mf mo mn ma (vb kb 52) (vb tb 26)) ++ (cMo 26 tb tp tf))) (by decide +kernel) rfl trivial ?_
  obtain ⟨r1001, h_1001, hf⟩ := bnd_s hf
  refine m_cS0 M (rest := []) (w2 := ((cM 0 sp tk sv mf mo mn ma (vb kb 52) (vb tb 26)) ++ (cMo 26 tb tp tf))) (st2 := [.int r1001]) (run_X4_in ((a0).toInt64) 1 999    h_1001) cs_X4_in lk_X4_72 (by decide +kernel) [] (by decide) ⟨Nat.le_of_ble_eq_true rfl, Nat.le_of_ble_eq_true rfl⟩ rfl rfl (Nat.le_of_ble_eq_true rfl) ⟨by decide, by decide⟩ rfl rfl (bdg hB) rfl rfl ?_
  rcases ite_s hf with ⟨c_1002, hf⟩ | ⟨c_1002, hf⟩
  · refine m_jF M (i := .ifCond .ne 10) 19 (by decide +kernel) rfl (by decide) (fun n => n c_1002) ?_
    refine m_run M (is := [(12, .aload_n 0, 0), (13, .bipush (-2), -2)]) (pc' := 15) (L' := [some (.ref 0), some (.int a0)]) (st' := [.int (-2), .ref 0]) (w' := ((cM 0 sp tk sv mf mo mn ma (vb kb 52) (vb tb 26)) ++ (cMo 26 tb tp tf))) (by decide +kernel) rfl trivial ?_
    obtain ⟨r1003, h_1003, hf⟩ := bnd_s hf
    refine m_cV0 M (rest := []) (w2 := ((cM 0 sp tk sv r1003.2 mo mn ma (vb kb 52) (vb tb 26)) ++ (cMo 26 tb tp tf))) (st2 := [.int r1003.1]) (run_X4_refuse (-2)   sp tk sv mf mo mn ma (vb kb 26) (vb tb 27) h_1003) cv_X4_refuse lk_X4_85 (by decide +kernel) (rhS 52 26) (by decide) ⟨Nat.le_of_ble_eq_true rfl, Nat.le_of_ble_eq_true rfl⟩ (hwS (rvk kb) (rvt tb) (len_Mo _ _ _ _) sp tk sv mf mo mn ma) rfl rfl (Nat.le_of_ble_eq_true rfl) ⟨by decide, by decide⟩ rfl rfl (bdg hB) (hpS (rvk kb) (rvt tb) (len_Mo _ _ _ _) sp tk sv mf mo mn ma sp tk sv r1003.2 mo mn ma) rfl ?_
    obtain rfl := Option.some.inj hf
    exact m_iret K (by decide +kernel) (bdg hB).1 (bdg hB).2 ⟨rfl, rfl⟩
  · refine m_jT M (i := .ifCond .ne 10) 19 (by decide +kernel) rfl (by decide) c_1002 ?_
    refine m_run M (is := [(19, .aload_n 0, 0)]) (pc' := 20) (L' := [some (.ref 0), some (.int a0)]) (st' := [.ref 0]) (w' := ((cM 0 sp tk sv mf mo mn ma (vb kb 52) (vb tb 26)) ++ (cMo 26 tb tp tf))) (by decide +kernel) rfl trivial ?_
    obtain ⟨r1004, h_1004, hf⟩ := bnd_s hf
    refine m_cV0 M (rest := []) (w2 := ((cM 0 sp tk sv mf mo mn ma (vb kb 52) (vb tb 26)) ++ (cMo 26 tb tp tf))) (st2 := [.int r1004]) (run_X4_goesOn    sp tk sv mf mo mn ma (vb kb 26) (vb tb 27) h_1004) cv_X4_goesOn lk_X4_184 (by decide +kernel) (rhS 52 26) (by decide) ⟨Nat.le_of_ble_eq_true rfl, Nat.le_of_ble_eq_true rfl⟩ (hwS (rvk kb) (rvt tb) (len_Mo _ _ _ _) sp tk sv mf mo mn ma) rfl rfl (Nat.le_of_ble_eq_true rfl) ⟨by decide, by decide⟩ rfl rfl (bdg hB) (hpS (rvk kb) (rvt tb) (len_Mo _ _ _ _) sp tk sv mf mo mn ma sp tk sv mf mo mn ma) rfl ?_
    rcases ite_s hf with ⟨c_1005, hf⟩ | ⟨c_1005, hf⟩
    · refine m_jT M (i := .ifCond .eq 22) 45 (by decide +kernel) rfl (by decide) c_1005 ?_
      refine m_run M (is := [(45, .aload_n 0, 0), (46, .bipush (-5), -5)]) (pc' := 48) (L' := [some (.ref 0), some (.int a0)]) (st' := [.int (-5), .ref 0]) (w' := ((cM 0 sp tk sv mf mo mn ma (vb kb 52) (vb tb 26)) ++ (cMo 26 tb tp tf))) (by decide +kernel) rfl trivial ?_
      obtain ⟨r1006, h_1006, hf⟩ := bnd_s hf
      refine m_cV0 M (rest := []) (w2 := ((cM 0 sp tk sv r1006.2 mo mn ma (vb kb 52) (vb tb 26)) ++ (cMo 26 tb tp tf))) (st2 := [.int r1006.1]) (run_X4_refuse (-5)   sp tk sv mf mo mn ma (vb kb 26) (vb tb 27) h_1006) cv_X4_refuse lk_X4_85 (by decide +kernel) (rhS 52 26) (by decide) ⟨Nat.le_of_ble_eq_true rfl, Nat.le_of_ble_eq_true rfl⟩ (hwS (rvk kb) (rvt tb) (len_Mo _ _ _ _) sp tk sv mf mo mn ma) rfl rfl (Nat.le_of_ble_eq_true rfl) ⟨by decide, by decide⟩ rfl rfl (bdg hB) (hpS (rvk kb) (rvt tb) (len_Mo _ _ _ _) sp tk sv mf mo mn ma sp tk sv r1006.2 mo mn ma) rfl ?_
      obtain rfl := Option.some.inj hf
      exact m_iret K (by decide +kernel) (bdg hB).1 (bdg hB).2 ⟨rfl, rfl⟩
    · refine m_jF M (i := .ifCond .eq 22) 45 (by decide +kernel) rfl (by decide) c_1005 ?_
      refine m_run M (is := [(26, .aload_n 0, 0), (27, .aload_n 0, 0), (28, .iload_n 1, 0), (29, .iconst 1, 1), (30, .isub, 0)]) (pc' := 31) (L' := [some (.ref 0), some (.int a0)]) (st' := [.int (a0 - 1), .ref 0, .ref 0]) (w' := ((cM 0 sp tk sv mf mo mn ma (vb kb 52) (vb tb 26)) ++ (cMo 26 tb tp tf))) (by decide +kernel) rfl trivial ?_
      obtain ⟨r1007, h_1007, hf⟩ := bnd_s hf
      refine m_cT M (rest := [.ref 0]) (w2 := ((cM 0 sp tk sv mf mo mn ma (vb kb 52) (.ref 26)) ++ (cM 26 r1007.1 nTk nSv r1007.2 zI zI zI .null .null))) (st2 := [.ref 26, .ref 0]) (run_X4_behindOf (a0 - 1)   sp tk sv mf mo mn ma kb tb tp tf h_1007) cv_X4_behindOf lk_X4_258 (by decide +kernel) (List.range 53) List.nodup_range ⟨(by rw [List.length_range]; exact (by rw [len_T]; decide)), (by rw [List.length_range]; decide)⟩ (hwId2 (by rw [len_T]; decide)) rfl rfl (Nat.le_of_ble_eq_true rfl) ⟨by decide, by decide⟩ (pot_T _ _ _ _ _ _ _ _ _ _ _ _ _ _) hB (nrT (x := tb) (p := tp) (f := tf) sp tk sv mf mo mn ma (vb kb 52) (vb tb 26) okR_w okR_v) rfl (hpId2 (by rw [len_T]; decide) (by rw [len_T]; rfl)) rfl (fun bc bs hB => ?_)
      obtain ⟨h_1008, hf⟩ := grd_s hf
      refine m_run M (is := [(34, .getfield 37, 0), (37, .iconst 0, 0), (38, .iaload, 0)]) (pc' := 39) (L' := [some (.ref 0), some (.int a0)]) (st' := [.int (r1007.1.1 (0 : Int32).toNatClampNeg), .ref 0]) (w' := ((cM 0 sp tk sv mf mo mn ma (vb kb 52) (.ref 26)) ++ (cM 26 r1007.1 nTk nSv r1007.2 zI zI zI .null .null))) (by decide +kernel) rfl ⟨inB_use h_1008, trivial⟩ ?_
      obtain ⟨r1009, h_1009, hf⟩ := bnd_s hf
      refine m_cV0 M (rest := []) (w2 := ((cM 0 sp tk sv mf mo mn ma (vb kb 52) (.ref 26)) ++ (cM 26 r1007.1 nTk nSv r1007.2 zI zI zI .null .null))) (st2 := [.int r1009]) (run_X4_placeOf (r1007.1.1 (0 : Int32).toNatClampNeg)   sp tk sv mf mo mn ma (vb kb 26) (.ref 27) h_1009) cv_X4_placeOf lk_X4_243 (by decide +kernel) (rhS 52 26) (by decide) ⟨Nat.le_of_ble_eq_true rfl, Nat.le_of_ble_eq_true rfl⟩ (hwS (rvk kb) rvtr rfl sp tk sv mf mo mn ma) rfl rfl (Nat.le_of_ble_eq_true rfl) ⟨by decide, by decide⟩ rfl rfl (bdg hB) (hpS (rvk kb) rvtr rfl sp tk sv mf mo mn ma sp tk sv mf mo mn ma) rfl ?_
      refine m_run M (is := [(42, .goto 9, 0)]) (pc' := 51) (L' := [some (.ref 0), some (.int a0)]) (st' := [.int r1009]) (w' := ((cM 0 sp tk sv mf mo mn ma (vb kb 52) (.ref 26)) ++ (cM 26 r1007.1 nTk nSv r1007.2 zI zI zI .null .null))) (by decide +kernel) rfl trivial ?_
      obtain rfl := Option.some.inj hf
      exact m_iret K (by decide +kernel) (bdg hB).1 (bdg hB).2 ⟨rfl, rfl⟩

def f_X4_leader (a0 : Int32) (sp : ShT) (mf : AI) (tb : Bool) (tp : ShT) (tf : AI) : Option (Int32 × AI × Bool × ShT × AI) :=
  (f_X4_mayTurns a0).bind fun r1001 =>
  if r1001 = 0 then
    (f_X4_refuse (-2) mf).bind fun r1003 =>
    some (r1003.1, r1003.2, tb, tp, tf)
  else
    (f_X4_goesOn sp).bind fun r1004 =>
    if r1004 = 0 then
      (f_X4_refuse (-5) mf).bind fun r1006 =>
      some (r1006.1, r1006.2, tb, tp, tf)
    else
      (f_X4_fresh sp tb tp tf).bind fun r1007 =>
      (f_X4_beginsAnew r1007.1).bind fun r1008 =>
      (f_X4_goes a0 r1008).bind fun r1009 =>
      (f_X4_mostCounts r1009).bind fun r1010 =>
      some (r1010, mf, true, r1009, r1007.2)
set_option maxRecDepth 100000 in
set_option maxHeartbeats 4000000 in
theorem run_X4_leader {l : Launch} {D : va_G} {cT : Nat → ClassId} (a0 : Int32)   (sp : ShT) (tk : TkT) (sv : SvT) (mf : AI) (mo : AI) (mn : AI) (ma : AI) (kb : Bool) (tb : Bool) (tp : ShT) (tf : AI) {r : Int32 × AI × Bool × ShT × AI} (hf : f_X4_leader a0 sp mf tb tp tf = some r) : Runs l D cT yX4_leader cX4_leader 3 (some .int) 3 70 [.ref 0, .int a0] ((cM 0 sp tk sv mf mo mn ma (vb kb 52) (vb tb 26)) ++ (cMo 26 tb tp tf)) (EQ (some (.int r.1)) ((cM 0 sp tk sv r.2.1 mo mn ma (vb kb 52) (vb r.2.2.1 26)) ++ (cMo 26 r.2.2.1 r.2.2.2.1 r.2.2.2.2))) := by
  refine runs_ofT O_X4 okO_X4 (by decide +kernel) rfl rfl (Nat.le_of_ble_eq_true rfl) (by rw [len_T]; decide) (pot_T _ _ _ _ _ _ _ _ _ _ _ _ _ _) (fun g Rc Rs hB K => ?_)
  have M := K.b
  show g 0 0 ((cM 0 sp tk sv mf mo mn ma (vb kb 52) (vb tb 26)) ++ (cMo 26 tb tp tf)) 0 [some (.ref 0), some (.int a0), none] []
  rw [f_X4_leader] at hf
  refine m_run M (is := [(0, .iload_n 1, 0)]) (pc' := 1) (L' := [some (.ref 0), some (.int a0), none]) (st' := [.int a0]) (w' := ((cM 0 sp tk sv mf mo mn ma (vb kb 52) (vb tb 26)) ++ (cMo 26 tb tp tf))) (by decide +kernel) rfl trivial ?_
  obtain ⟨r1001, h_1001, hf⟩ := bnd_s hf
  refine m_cS0 M (rest := []) (w2 := ((cM 0 sp tk sv mf mo mn ma (vb kb 52) (vb tb 26)) ++ (cMo 26 tb tp tf))) (st2 := [.int r1001]) (run_X4_mayTurns a0    h_1001) cs_X4_mayTurns lk_X4_255 (by decide +kernel) [] (by decide) ⟨Nat.le_of_ble_eq_true rfl, Nat.le_of_ble_eq_true rfl⟩ rfl rfl (Nat.le_of_ble_eq_true rfl) ⟨by decide, by decide⟩ rfl rfl (bdg hB) rfl rfl ?_
  rcases ite_s hf with ⟨c_1002, hf⟩ | ⟨c_1002, hf⟩
  · refine m_jF M (i := .ifCond .ne 10) 14 (by decide +kernel) rfl (by decide) (fun n => n c_1002) ?_
    refine m_run M (is := [(7, .aload_n 0, 0), (8, .bipush (-2), -2)]) (pc' := 10) (L' := [some (.ref 0), some (.int a0), none]) (st' := [.int (-2), .ref 0]) (w' := ((cM 0 sp tk sv mf mo mn ma (vb kb 52) (vb tb 26)) ++ (cMo 26 tb tp tf))) (by decide +kernel) rfl trivial ?_
    obtain ⟨r1003, h_1003, hf⟩ := bnd_s hf
    refine m_cV0 M (rest := []) (w2 := ((cM 0 sp tk sv r1003.2 mo mn ma (vb kb 52) (vb tb 26)) ++ (cMo 26 tb tp tf))) (st2 := [.int r1003.1]) (run_X4_refuse (-2)   sp tk sv mf mo mn ma (vb kb 26) (vb tb 27) h_1003) cv_X4_refuse lk_X4_85 (by decide +kernel) (rhS 52 26) (by decide) ⟨Nat.le_of_ble_eq_true rfl, Nat.le_of_ble_eq_true rfl⟩ (hwS (rvk kb) (rvt tb) (len_Mo _ _ _ _) sp tk sv mf mo mn ma) rfl rfl (Nat.le_of_ble_eq_true rfl) ⟨by decide, by decide⟩ rfl rfl (bdg hB) (hpS (rvk kb) (rvt tb) (len_Mo _ _ _ _) sp tk sv mf mo mn ma sp tk sv r1003.2 mo mn ma) rfl ?_
    obtain rfl := Option.some.inj hf
    exact m_iret K (by decide +kernel) (bdg hB).1 (bdg hB).2 ⟨rfl, rfl⟩
  · refine m_jT M (i := .ifCond .ne 10) 14 (by decide +kernel) rfl (by decide) c_1002 ?_
    refine m_run M (is := [(14, .aload_n 0, 0)]) (pc' := 15) (L' := [some (.ref 0), some (.int a0), none]) (st' := [.ref 0]) (w' := ((cM 0 sp tk sv mf mo mn ma (vb kb 52) (vb tb 26)) ++ (cMo 26 tb tp tf))) (by decide +kernel) rfl trivial ?_
    obtain ⟨r1004, h_1004, hf⟩ := bnd_s hf
    refine m_cV0 M (rest := []) (w2 := ((cM 0 sp tk sv mf mo mn ma (vb kb 52) (vb tb 26)) ++ (cMo 26 tb tp tf))) (st2 := [.int r1004]) (run_X4_goesOn    sp tk sv mf mo mn ma (vb kb 26) (vb tb 27) h_1004) cv_X4_goesOn lk_X4_184 (by decide +kernel) (rhS 52 26) (by decide) ⟨Nat.le_of_ble_eq_true rfl, Nat.le_of_ble_eq_true rfl⟩ (hwS (rvk kb) (rvt tb) (len_Mo _ _ _ _) sp tk sv mf mo mn ma) rfl rfl (Nat.le_of_ble_eq_true rfl) ⟨by decide, by decide⟩ rfl rfl (bdg hB) (hpS (rvk kb) (rvt tb) (len_Mo _ _ _ _) sp tk sv mf mo mn ma sp tk sv mf mo mn ma) rfl ?_
    rcases ite_s hf with ⟨c_1005, hf⟩ | ⟨c_1005, hf⟩
    · refine m_jF M (i := .ifCond .ne 10) 28 (by decide +kernel) rfl (by decide) (fun n => n c_1005) ?_
      refine m_run M (is := [(21, .aload_n 0, 0), (22, .bipush (-5), -5)]) (pc' := 24) (L' := [some (.ref 0), some (.int a0), none]) (st' := [.int (-5), .ref 0]) (w' := ((cM 0 sp tk sv mf mo mn ma (vb kb 52) (vb tb 26)) ++ (cMo 26 tb tp tf))) (by decide +kernel) rfl trivial ?_
      obtain ⟨r1006, h_1006, hf⟩ := bnd_s hf
      refine m_cV0 M (rest := []) (w2 := ((cM 0 sp tk sv r1006.2 mo mn ma (vb kb 52) (vb tb 26)) ++ (cMo 26 tb tp tf))) (st2 := [.int r1006.1]) (run_X4_refuse (-5)   sp tk sv mf mo mn ma (vb kb 26) (vb tb 27) h_1006) cv_X4_refuse lk_X4_85 (by decide +kernel) (rhS 52 26) (by decide) ⟨Nat.le_of_ble_eq_true rfl, Nat.le_of_ble_eq_true rfl⟩ (hwS (rvk kb) (rvt tb) (len_Mo _ _ _ _) sp tk sv mf mo mn ma) rfl rfl (Nat.le_of_ble_eq_true rfl) ⟨by decide, by decide⟩ rfl rfl (bdg hB) (hpS (rvk kb) (rvt tb) (len_Mo _ _ _ _) sp tk sv mf mo mn ma sp tk sv r1006.2 mo mn ma) rfl ?_
      obtain rfl := Option.some.inj hf
      exact m_iret K (by decide +kernel) (bdg hB).1 (bdg hB).2 ⟨rfl, rfl⟩
    · refine m_jT M (i := .ifCond .ne 10) 28 (by decide +kernel) rfl (by decide) c_1005 ?_
      refine m_run M (is := [(28, .aload_n 0, 0)]) (pc' := 29) (L' := [some (.ref 0), some (.int a0), none]) (st' := [.ref 0]) (w' := ((cM 0 sp tk sv mf mo mn ma (vb kb 52) (vb tb 26)) ++ (cMo 26 tb tp tf))) (by decide +kernel) rfl trivial ?_
      obtain ⟨r1007, h_1007, hf⟩ := bnd_s hf
      refine m_cT M (rest := []) (w2 := ((cM 0 sp tk sv mf mo mn ma (vb kb 52) (.ref 26)) ++ (cM 26 r1007.1 nTk nSv r1007.2 zI zI zI .null .null))) (st2 := [.ref 26]) (run_X4_fresh    sp tk sv mf mo mn ma kb tb tp tf h_1007) cv_X4_fresh lk_X4_234 (by decide +kernel) (List.range 53) List.nodup_range ⟨(by rw [List.length_range]; exact (by rw [len_T]; decide)), (by rw [List.length_range]; decide)⟩ (hwId2 (by rw [len_T]; decide)) rfl rfl (Nat.le_of_ble_eq_true rfl) ⟨by decide, by decide⟩ (pot_T _ _ _ _ _ _ _ _ _ _ _ _ _ _) hB (nrT (x := tb) (p := tp) (f := tf) sp tk sv mf mo mn ma (vb kb 52) (vb tb 26) okR_w okR_v) rfl (hpId2 (by rw [len_T]; decide) (by rw [len_T]; rfl)) rfl (fun bc bs hB => ?_)
      refine m_run M (is := [(32, .astore_n 2, 0), (33, .aload_n 2, 0)]) (pc' := 34) (L' := [some (.ref 0), some (.int a0), some (.ref 26)]) (st' := [.ref 26]) (w' := ((cM 0 sp tk sv mf mo mn ma (vb kb 52) (.ref 26)) ++ (cM 26 r1007.1 nTk nSv r1007.2 zI zI zI .null .null))) (by decide +kernel) rfl trivial ?_
      obtain ⟨r1008, h_1008, hf⟩ := bnd_s hf
      refine m_cV0 M (rest := []) (w2 := ((cM 0 sp tk sv mf mo mn ma (vb kb 52) (.ref 26)) ++ (cM 26 r1008 nTk nSv r1007.2 zI zI zI .null .null))) (st2 := []) (run_X4_beginsAnew    r1007.1 nTk nSv r1007.2 zI zI zI .null .null h_1008) cv_X4_beginsAnew lk_X4_276 (by decide +kernel) rhT (by decide) ⟨Nat.le_of_ble_eq_true rfl, Nat.le_of_ble_eq_true rfl⟩ (hwT sp tk sv mf mo mn ma r1007.1 nTk nSv r1007.2 zI zI zI) rfl rfl (Nat.le_of_ble_eq_true rfl) ⟨by decide, by decide⟩ rfl rfl (bdg hB) (hpT sp tk sv mf mo mn ma r1007.1 nTk nSv r1007.2 zI zI zI r1008 nTk nSv r1007.2 zI zI zI) rfl ?_
      refine m_run M (is := [(37, .aload_n 2, 0), (38, .iload_n 1, 0)]) (pc' := 39) (L' := [some (.ref 0), some (.int a0), some (.ref 26)]) (st' := [.int a0, .ref 26]) (w' := ((cM 0 sp tk sv mf mo mn ma (vb kb 52) (.ref 26)) ++ (cM 26 r1008 nTk nSv r1007.2 zI zI zI .null .null))) (by decide +kernel) rfl trivial ?_
      obtain ⟨r1009, h_1009, hf⟩ := bnd_s hf
      refine m_cV0 M (rest := []) (w2 := ((cM 0 sp tk sv mf mo mn ma (vb kb 52) (.ref 26)) ++ (cM 26 r1009 nTk nSv r1007.2 zI zI zI .null .null))) (st2 := []) (run_X4_goes a0   r1008 nTk nSv r1007.2 zI zI zI .null .null h_1009) cv_X4_goes lk_X4_187 (by decide +kernel) rhT (by decide) ⟨Nat.le_of_ble_eq_true rfl, Nat.le_of_ble_eq_true rfl⟩ (hwT sp tk sv mf mo mn ma r1008 nTk nSv r1007.2 zI zI zI) rfl rfl (Nat.le_of_ble_eq_true rfl) ⟨by decide, by decide⟩ rfl rfl (bdg hB) (hpT sp tk sv mf mo mn ma r1008 nTk nSv r1007.2 zI zI zI r1009 nTk nSv r1007.2 zI zI zI) rfl ?_
      refine m_run M (is := [(42, .aload_n 2, 0)]) (pc' := 43) (L' := [some (.ref 0), some (.int a0), some (.ref 26)]) (st' := [.ref 26]) (w' := ((cM 0 sp tk sv mf mo mn ma (vb kb 52) (.ref 26)) ++ (cM 26 r1009 nTk nSv r1007.2 zI zI zI .null .null))) (by decide +kernel) rfl trivial ?_
      obtain ⟨r1010, h_1010, hf⟩ := bnd_s hf
      refine m_cV0 M (rest := []) (w2 := ((cM 0 sp tk sv mf mo mn ma (vb kb 52) (.ref 26)) ++ (cM 26 r1009 nTk nSv r1007.2 zI zI zI .null .null))) (st2 := [.int r1010]) (run_X4_mostCounts    r1009 nTk nSv r1007.2 zI zI zI .null .null h_1010) cv_X4_mostCounts lk_X4_279 (by decide +kernel) rhT (by decide) ⟨Nat.le_of_ble_eq_true rfl, Nat.le_of_ble_eq_true rfl⟩ (hwT sp tk sv mf mo mn ma r1009 nTk nSv r1007.2 zI zI zI) rfl rfl (Nat.le_of_ble_eq_true rfl) ⟨by decide, by decide⟩ rfl rfl (bdg hB) (hpT sp tk sv mf mo mn ma r1009 nTk nSv r1007.2 zI zI zI r1009 nTk nSv r1007.2 zI zI zI) rfl ?_
      obtain rfl := Option.some.inj hf
      exact m_iret K (by decide +kernel) (bdg hB).1 (bdg hB).2 ⟨rfl, rfl⟩

def f_X4_waits_L0 (v1 : Int32) (sp : ShT) : Nat → Int32 → Int32 → Int32 → AI → ShT → AI → Option (Int32 × AI × Bool × ShT × AI)
  | 0, _, _, _, _, _, _ => none
  | n_ + 1, v3, v4, v5, mf, tp, tf =>
    if 999 < v5 then
      some (v3, mf, true, tp, tf)
    else
      if inB 0 16 then
      if (tp.1 (0 : Int32).toNatClampNeg) = v1 then
        if (v5 - v4) ≤ v3 then
          (f_X4_turn tp).bind fun r105 =>
          f_X4_waits_L0 v1 sp n_ v3 v5 (v5 + 1) mf r105 tf
        else
          (f_X4_turn tp).bind fun r106 =>
          f_X4_waits_L0 v1 sp n_ (v5 - v4) v5 (v5 + 1) mf r106 tf
      else
        (f_X4_turn tp).bind fun r107 =>
        f_X4_waits_L0 v1 sp n_ v3 v4 (v5 + 1) mf r107 tf
      else none
def f_X4_waits (a0 : Int32) (sp : ShT) (mf : AI) (tb : Bool) (tp : ShT) (tf : AI) : Option (Int32 × AI × Bool × ShT × AI) :=
  (f_X4_isPerson ((a0).toInt64) sp).bind fun r1001 =>
  if r1001 = 0 then
    (f_X4_refuse (-2) mf).bind fun r1003 =>
    some (r1003.1, r1003.2, tb, tp, tf)
  else
    if sp.2.2.2.2.2.2.1 = 0 then
      (f_X4_refuse (-5) mf).bind fun r1005 =>
      some (r1005.1, r1005.2, tb, tp, tf)
    else
      (f_X4_fresh sp tb tp tf).bind fun r1006 =>
      f_X4_waits_L0 a0 sp fuel0 (-1) 0 1 mf r1006.1 r1006.2
set_option maxRecDepth 100000 in
set_option maxHeartbeats 4000000 in
theorem run_X4_waits {l : Launch} {D : va_G} {cT : Nat → ClassId} (a0 : Int32)   (sp : ShT) (tk : TkT) (sv : SvT) (mf : AI) (mo : AI) (mn : AI) (ma : AI) (kb : Bool) (tb : Bool) (tp : ShT) (tf : AI) {r : Int32 × AI × Bool × ShT × AI} (hf : f_X4_waits a0 sp mf tb tp tf = some r) : Runs l D cT yX4_waits cX4_waits 6 (some .int) 3 63 [.ref 0, .int a0] ((cM 0 sp tk sv mf mo mn ma (vb kb 52) (vb tb 26)) ++ (cMo 26 tb tp tf)) (EQ (some (.int r.1)) ((cM 0 sp tk sv r.2.1 mo mn ma (vb kb 52) (vb r.2.2.1 26)) ++ (cMo 26 r.2.2.1 r.2.2.2.1 r.2.2.2.2))) := by
  refine runs_ofT O_X4 okO_X4 (by decide +kernel) rfl rfl (Nat.le_of_ble_eq_true rfl) (by rw [len_T]; decide) (pot_T _ _ _ _ _ _ _ _ _ _ _ _ _ _) (fun g Rc Rs hB K => ?_)
  have M := K.b
  show g 0 0 ((cM 0 sp tk sv mf mo mn ma (vb kb 52) (vb tb 26)) ++ (cMo 26 tb tp tf)) 0 [some (.ref 0), some (.int a0), none, none, none, none] []
  have loop_0 : ∀ (v1 : Int32) (tb : Bool) (n_ : Nat), (∀ (v3 : Int32) (v4 : Int32) (v5 : Int32) (mf : AI) (tp : ShT) (tf : AI) (bc bs : Nat), bc + potM true ≤ Rc ∧ bs + potN true ≤ Rs → f_X4_waits_L0 v1 sp n_ v3 v4 v5 mf tp tf = some r → g bc bs ((cM 0 sp tk sv mf mo mn ma (vb kb 52) (.ref 26)) ++ (cM 26 tp nTk nSv tf zI zI zI .null .null)) 43 [none, some (.int v1), some (.ref 26), some (.int v3), some (.int v4), some (.int v5)] []) := by
    intro v1 tb n_
    induction n_ with
    | zero => intro v3 v4 v5 mf tp tf bc bs hB hf; cases hf
    | succ n_ ih =>
      intro v3 v4 v5 mf tp tf bc bs hB hf
      rw [f_X4_waits_L0] at hf
      refine m_run M (is := [(43, .iload 5, 0), (45, .sipush 999, 999)]) (pc' := 48) (L' := [none, some (.int v1), some (.ref 26), some (.int v3), some (.int v4), some (.int v5)]) (st' := [.int 999, .int v5]) (w' := ((cM 0 sp tk sv mf mo mn ma (vb kb 52) (.ref 26)) ++ (cM 26 tp nTk nSv tf zI zI zI .null .null))) (by decide +kernel) rfl trivial ?_
      rcases ite_s hf with ⟨c_101, hf⟩ | ⟨c_101, hf⟩
      · refine m_jT M (i := .if_icmp .gt 46) 94 (by decide +kernel) rfl (by decide) c_101 ?_
        refine m_run M (is := [(94, .iload_n 3, 0)]) (pc' := 95) (L' := [none, some (.int v1), some (.ref 26), some (.int v3), some (.int v4), some (.int v5)]) (st' := [.int v3]) (w' := ((cM 0 sp tk sv mf mo mn ma (vb kb 52) (.ref 26)) ++ (cM 26 tp nTk nSv tf zI zI zI .null .null))) (by decide +kernel) rfl trivial ?_
        obtain rfl := Option.some.inj hf
        exact m_iret K (by decide +kernel) (bdg hB).1 (bdg hB).2 ⟨rfl, rfl⟩
      · refine m_jF M (i := .if_icmp .gt 46) 94 (by decide +kernel) rfl (by decide) c_101 ?_
        obtain ⟨h_102, hf⟩ := grd_s hf
        refine m_run M (is := [(51, .aload_n 2, 0), (52, .getfield 37, 0), (55, .iconst 0, 0), (56, .iaload, 0), (57, .iload_n 1, 0)]) (pc' := 58) (L' := [none, some (.int v1), some (.ref 26), some (.int v3), some (.int v4), some (.int v5)]) (st' := [.int v1, .int (tp.1 (0 : Int32).toNatClampNeg)]) (w' := ((cM 0 sp tk sv mf mo mn ma (vb kb 52) (.ref 26)) ++ (cM 26 tp nTk nSv tf zI zI zI .null .null))) (by decide +kernel) rfl ⟨inB_use h_102, trivial⟩ ?_
        rcases ite_s hf with ⟨c_103, hf⟩ | ⟨c_103, hf⟩
        · refine m_jF M (i := .if_icmp .ne 26) 84 (by decide +kernel) rfl (by decide) (fun n => n c_103) ?_
          refine m_run M (is := [(61, .iload 5, 0), (63, .iload 4, 0), (65, .isub, 0), (66, .iload_n 3, 0)]) (pc' := 67) (L' := [none, some (.int v1), some (.ref 26), some (.int v3), some (.int v4), some (.int v5)]) (st' := [.int v3, .int (v5 - v4)]) (w' := ((cM 0 sp tk sv mf mo mn ma (vb kb 52) (.ref 26)) ++ (cM 26 tp nTk nSv tf zI zI zI .null .null))) (by decide +kernel) rfl trivial ?_
          rcases ite_s hf with ⟨c_104, hf⟩ | ⟨c_104, hf⟩
          · refine m_jT M (i := .if_icmp .le 11) 78 (by decide +kernel) rfl (by decide) c_104 ?_
            refine m_run M (is := [(78, .iload_n 3, 0), (79, .istore_n 3, 0), (80, .iload 5, 0), (82, .istore 4, 0), (84, .aload_n 2, 0)]) (pc' := 85) (L' := [none, some (.int v1), some (.ref 26), some (.int v3), some (.int v5), some (.int v5)]) (st' := [.ref 26]) (w' := ((cM 0 sp tk sv mf mo mn ma (vb kb 52) (.ref 26)) ++ (cM 26 tp nTk nSv tf zI zI zI .null .null))) (by decide +kernel) rfl trivial ?_
            obtain ⟨r105, h_105, hf⟩ := bnd_s hf
            refine m_cV0 M (rest := []) (w2 := ((cM 0 sp tk sv mf mo mn ma (vb kb 52) (.ref 26)) ++ (cM 26 r105 nTk nSv tf zI zI zI .null .null))) (st2 := []) (run_X4_turn    tp nTk nSv tf zI zI zI .null .null h_105) cv_X4_turn lk_X4_249 (by decide +kernel) rhT (by decide) ⟨Nat.le_of_ble_eq_true rfl, Nat.le_of_ble_eq_true rfl⟩ (hwT sp tk sv mf mo mn ma tp nTk nSv tf zI zI zI) rfl rfl (Nat.le_of_ble_eq_true rfl) ⟨by decide, by decide⟩ rfl rfl (bdg hB) (hpT sp tk sv mf mo mn ma tp nTk nSv tf zI zI zI r105 nTk nSv tf zI zI zI) rfl ?_
            refine m_run M (is := [(88, .iinc 5 1, 1), (91, .goto (-48), 0)]) (pc' := 43) (L' := [none, some (.int v1), some (.ref 26), some (.int v3), some (.int v5), some (.int (v5 + 1))]) (st' := []) (w' := ((cM 0 sp tk sv mf mo mn ma (vb kb 52) (.ref 26)) ++ (cM 26 r105 nTk nSv tf zI zI zI .null .null))) (by decide +kernel) rfl trivial ?_
            exact ih v3 v5 (v5 + 1) mf r105 tf _ _ hB hf
          · refine m_jF M (i := .if_icmp .le 11) 78 (by decide +kernel) rfl (by decide) c_104 ?_
            refine m_run M (is := [(70, .iload 5, 0), (72, .iload 4, 0), (74, .isub, 0), (75, .goto 4, 0), (79, .istore_n 3, 0), (80, .iload 5, 0), (82, .istore 4, 0), (84, .aload_n 2, 0)]) (pc' := 85) (L' := [none, some (.int v1), some (.ref 26), some (.int (v5 - v4)), some (.int v5), some (.int v5)]) (st' := [.ref 26]) (w' := ((cM 0 sp tk sv mf mo mn ma (vb kb 52) (.ref 26)) ++ (cM 26 tp nTk nSv tf zI zI zI .null .null))) (by decide +kernel) rfl trivial ?_
            obtain ⟨r106, h_106, hf⟩ := bnd_s hf
            refine m_cV0 M (rest := []) (w2 := ((cM 0 sp tk sv mf mo mn ma (vb kb 52) (.ref 26)) ++ (cM 26 r106 nTk nSv tf zI zI zI .null .null))) (st2 := []) (run_X4_turn    tp nTk nSv tf zI zI zI .null .null h_106) cv_X4_turn lk_X4_249 (by decide +kernel) rhT (by decide) ⟨Nat.le_of_ble_eq_true rfl, Nat.le_of_ble_eq_true rfl⟩ (hwT sp tk sv mf mo mn ma tp nTk nSv tf zI zI zI) rfl rfl (Nat.le_of_ble_eq_true rfl) ⟨by decide, by decide⟩ rfl rfl (bdg hB) (hpT sp tk sv mf mo mn ma tp nTk nSv tf zI zI zI r106 nTk nSv tf zI zI zI) rfl ?_
            refine m_run M (is := [(88, .iinc 5 1, 1), (91, .goto (-48), 0)]) (pc' := 43) (L' := [none, some (.int v1), some (.ref 26), some (.int (v5 - v4)), some (.int v5), some (.int (v5 + 1))]) (st' := []) (w' := ((cM 0 sp tk sv mf mo mn ma (vb kb 52) (.ref 26)) ++ (cM 26 r106 nTk nSv tf zI zI zI .null .null))) (by decide +kernel) rfl trivial ?_
            exact ih (v5 - v4) v5 (v5 + 1) mf r106 tf _ _ hB hf
        · refine m_jT M (i := .if_icmp .ne 26) 84 (by decide +kernel) rfl (by decide) c_103 ?_
          refine m_run M (is := [(84, .aload_n 2, 0)]) (pc' := 85) (L' := [none, some (.int v1), some (.ref 26), some (.int v3), some (.int v4), some (.int v5)]) (st' := [.ref 26]) (w' := ((cM 0 sp tk sv mf mo mn ma (vb kb 52) (.ref 26)) ++ (cM 26 tp nTk nSv tf zI zI zI .null .null))) (by decide +kernel) rfl trivial ?_
          obtain ⟨r107, h_107, hf⟩ := bnd_s hf
          refine m_cV0 M (rest := []) (w2 := ((cM 0 sp tk sv mf mo mn ma (vb kb 52) (.ref 26)) ++ (cM 26 r107 nTk nSv tf zI zI zI .null .null))) (st2 := []) (run_X4_turn    tp nTk nSv tf zI zI zI .null .null h_107) cv_X4_turn lk_X4_249 (by decide +kernel) rhT (by decide) ⟨Nat.le_of_ble_eq_true rfl, Nat.le_of_ble_eq_true rfl⟩ (hwT sp tk sv mf mo mn ma tp nTk nSv tf zI zI zI) rfl rfl (Nat.le_of_ble_eq_true rfl) ⟨by decide, by decide⟩ rfl rfl (bdg hB) (hpT sp tk sv mf mo mn ma tp nTk nSv tf zI zI zI r107 nTk nSv tf zI zI zI) rfl ?_
          refine m_run M (is := [(88, .iinc 5 1, 1), (91, .goto (-48), 0)]) (pc' := 43) (L' := [none, some (.int v1), some (.ref 26), some (.int v3), some (.int v4), some (.int (v5 + 1))]) (st' := []) (w' := ((cM 0 sp tk sv mf mo mn ma (vb kb 52) (.ref 26)) ++ (cM 26 r107 nTk nSv tf zI zI zI .null .null))) (by decide +kernel) rfl trivial ?_
          exact ih v3 v4 (v5 + 1) mf r107 tf _ _ hB hf
  rw [f_X4_waits] at hf
  refine m_run M (is := [(0, .aload_n 0, 0), (1, .iload_n 1, 0), (2, .i2l, 0)]) (pc' := 3) (L' := [some (.ref 0), some (.int a0), none, none, none, none]) (st' := [.long ((a0).toInt64), .ref 0]) (w' := ((cM 0 sp tk sv mf mo mn ma (vb kb 52) (vb tb 26)) ++ (cMo 26 tb tp tf))) (by decide +kernel) rfl trivial ?_
  obtain ⟨r1001, h_1001, hf⟩ := bnd_s hf
  refine m_cV0 M (rest := []) (w2 := ((cM 0 sp tk sv mf mo mn ma (vb kb 52) (vb tb 26)) ++ (cMo 26 tb tp tf))) (st2 := [.int r1001]) (run_X4_isPerson ((a0).toInt64)   sp tk sv mf mo mn ma (vb kb 26) (vb tb 27) h_1001) cv_X4_isPerson lk_X4_130 (by decide +kernel) (rhS 52 26) (by decide) ⟨Nat.le_of_ble_eq_true rfl, Nat.le_of_ble_eq_true rfl⟩ (hwS (rvk kb) (rvt tb) (len_Mo _ _ _ _) sp tk sv mf mo mn ma) rfl rfl (Nat.le_of_ble_eq_true rfl) ⟨by decide, by decide⟩ rfl rfl (bdg hB) (hpS (rvk kb) (rvt tb) (len_Mo _ _ _ _) sp tk sv mf mo mn ma sp tk sv mf mo mn ma) rfl ?_
  rcases ite_s hf with ⟨c_1002, hf⟩ | ⟨c_1002, hf⟩
  · refine m_jF M (i := .ifCond .ne 10) 16 (by decide +kernel) rfl (by decide) (fun n => n c_1002) ?_
    refine m_run M (is := [(9, .aload_n 0, 0), (10, .bipush (-2), -2)]) (pc' := 12) (L' := [some (.ref 0), some (.int a0), none, none, none, none]) (st' := [.int (-2), .ref 0]) (w' := ((cM 0 sp tk sv mf mo mn ma (vb kb 52) (vb tb 26)) ++ (cMo 26 tb tp tf))) (by decide +kernel) rfl trivial ?_
    obtain ⟨r1003, h_1003, hf⟩ := bnd_s hf
    refine m_cV0 M (rest := []) (w2 := ((cM 0 sp tk sv r1003.2 mo mn ma (vb kb 52) (vb tb 26)) ++ (cMo 26 tb tp tf))) (st2 := [.int r1003.1]) (run_X4_refuse (-2)   sp tk sv mf mo mn ma (vb kb 26) (vb tb 27) h_1003) cv_X4_refuse lk_X4_85 (by decide +kernel) (rhS 52 26) (by decide) ⟨Nat.le_of_ble_eq_true rfl, Nat.le_of_ble_eq_true rfl⟩ (hwS (rvk kb) (rvt tb) (len_Mo _ _ _ _) sp tk sv mf mo mn ma) rfl rfl (Nat.le_of_ble_eq_true rfl) ⟨by decide, by decide⟩ rfl rfl (bdg hB) (hpS (rvk kb) (rvt tb) (len_Mo _ _ _ _) sp tk sv mf mo mn ma sp tk sv r1003.2 mo mn ma) rfl ?_
    obtain rfl := Option.some.inj hf
    exact m_iret K (by decide +kernel) (bdg hB).1 (bdg hB).2 ⟨rfl, rfl⟩
  · refine m_jT M (i := .ifCond .ne 10) 16 (by decide +kernel) rfl (by decide) c_1002 ?_
    refine m_run M (is := [(16, .aload_n 0, 0), (17, .getfield 76, 0)]) (pc' := 20) (L' := [some (.ref 0), some (.int a0), none, none, none, none]) (st' := [.int sp.2.2.2.2.2.2.1]) (w' := ((cM 0 sp tk sv mf mo mn ma (vb kb 52) (vb tb 26)) ++ (cMo 26 tb tp tf))) (by decide +kernel) rfl trivial ?_
    rcases ite_s hf with ⟨c_1004, hf⟩ | ⟨c_1004, hf⟩
    · refine m_jF M (i := .ifCond .ne 10) 30 (by decide +kernel) rfl (by decide) (fun n => n c_1004) ?_
      refine m_run M (is := [(23, .aload_n 0, 0), (24, .bipush (-5), -5)]) (pc' := 26) (L' := [some (.ref 0), some (.int a0), none, none, none, none]) (st' := [.int (-5), .ref 0]) (w' := ((cM 0 sp tk sv mf mo mn ma (vb kb 52) (vb tb 26)) ++ (cMo 26 tb tp tf))) (by decide +kernel) rfl trivial ?_
      obtain ⟨r1005, h_1005, hf⟩ := bnd_s hf
      refine m_cV0 M (rest := []) (w2 := ((cM 0 sp tk sv r1005.2 mo mn ma (vb kb 52) (vb tb 26)) ++ (cMo 26 tb tp tf))) (st2 := [.int r1005.1]) (run_X4_refuse (-5)   sp tk sv mf mo mn ma (vb kb 26) (vb tb 27) h_1005) cv_X4_refuse lk_X4_85 (by decide +kernel) (rhS 52 26) (by decide) ⟨Nat.le_of_ble_eq_true rfl, Nat.le_of_ble_eq_true rfl⟩ (hwS (rvk kb) (rvt tb) (len_Mo _ _ _ _) sp tk sv mf mo mn ma) rfl rfl (Nat.le_of_ble_eq_true rfl) ⟨by decide, by decide⟩ rfl rfl (bdg hB) (hpS (rvk kb) (rvt tb) (len_Mo _ _ _ _) sp tk sv mf mo mn ma sp tk sv r1005.2 mo mn ma) rfl ?_
      obtain rfl := Option.some.inj hf
      exact m_iret K (by decide +kernel) (bdg hB).1 (bdg hB).2 ⟨rfl, rfl⟩
    · refine m_jT M (i := .ifCond .ne 10) 30 (by decide +kernel) rfl (by decide) c_1004 ?_
      refine m_run M (is := [(30, .aload_n 0, 0)]) (pc' := 31) (L' := [some (.ref 0), some (.int a0), none, none, none, none]) (st' := [.ref 0]) (w' := ((cM 0 sp tk sv mf mo mn ma (vb kb 52) (vb tb 26)) ++ (cMo 26 tb tp tf))) (by decide +kernel) rfl trivial ?_
      obtain ⟨r1006, h_1006, hf⟩ := bnd_s hf
      refine m_cT M (rest := []) (w2 := ((cM 0 sp tk sv mf mo mn ma (vb kb 52) (.ref 26)) ++ (cM 26 r1006.1 nTk nSv r1006.2 zI zI zI .null .null))) (st2 := [.ref 26]) (run_X4_fresh    sp tk sv mf mo mn ma kb tb tp tf h_1006) cv_X4_fresh lk_X4_234 (by decide +kernel) (List.range 53) List.nodup_range ⟨(by rw [List.length_range]; exact (by rw [len_T]; decide)), (by rw [List.length_range]; decide)⟩ (hwId2 (by rw [len_T]; decide)) rfl rfl (Nat.le_of_ble_eq_true rfl) ⟨by decide, by decide⟩ (pot_T _ _ _ _ _ _ _ _ _ _ _ _ _ _) hB (nrT (x := tb) (p := tp) (f := tf) sp tk sv mf mo mn ma (vb kb 52) (vb tb 26) okR_w okR_v) rfl (hpId2 (by rw [len_T]; decide) (by rw [len_T]; rfl)) rfl (fun bc bs hB => ?_)
      refine m_run M (is := [(34, .astore_n 2, 0), (35, .iconst (-1), -1), (36, .istore_n 3, 0), (37, .iconst 0, 0), (38, .istore 4, 0), (40, .iconst 1, 1), (41, .istore 5, 0)]) (pc' := 43) (L' := [some (.ref 0), some (.int a0), some (.ref 26), some (.int (-1)), some (.int 0), some (.int 1)]) (st' := []) (w' := ((cM 0 sp tk sv mf mo mn ma (vb kb 52) (.ref 26)) ++ (cM 26 r1006.1 nTk nSv r1006.2 zI zI zI .null .null))) (by decide +kernel) rfl trivial ?_
      refine m_wk M [none, some (.int a0), some (.ref 26), some (.int (-1)), some (.int 0), some (.int 1)] ⟨Or.inl rfl, Or.inr rfl, Or.inr rfl, Or.inr rfl, Or.inr rfl, Or.inr rfl, trivial⟩ ?_
      exact loop_0 a0 true fuel0 (-1) 0 1 mf r1006.1 r1006.2 _ _ hB hf

def f_X4_beside_L0 (v1 : Int32) (v2 : Int32) (sp : ShT) : Nat → Int32 → AI → ShT → AI → Option (Int32 × AI × Bool × ShT × AI)
  | 0, _, _, _, _ => none
  | n_ + 1, v4, mf, tp, tf =>
    if 999 < v4 then
      some ((-1), mf, true, tp, tf)
    else
      (f_X4_placeOf v1 tp).bind fun r102 =>
      (f_X4_placeOf v2 tp).bind fun r103 =>
      if (r102 - r103) = 1 then
        some (v4, mf, true, tp, tf)
      else
        if (r102 - r103) = (-1) then
          some (v4, mf, true, tp, tf)
        else
          (f_X4_turn tp).bind fun r106 =>
          f_X4_beside_L0 v1 v2 sp n_ (v4 + 1) mf r106 tf
def f_X4_beside (a0 : Int32) (a1 : Int32) (sp : ShT) (mf : AI) (tb : Bool) (tp : ShT) (tf : AI) : Option (Int32 × AI × Bool × ShT × AI) :=
  (f_X4_isPerson ((a0).toInt64) sp).bind fun r1001 =>
  if r1001 = 0 then
    (f_X4_refuse (-2) mf).bind fun r1003 =>
    some (r1003.1, r1003.2, tb, tp, tf)
  else
    (f_X4_isPerson ((a1).toInt64) sp).bind fun r1004 =>
    if r1004 = 0 then
      (f_X4_refuse (-2) mf).bind fun r1006 =>
      some (r1006.1, r1006.2, tb, tp, tf)
    else
      if a0 = a1 then
        (f_X4_refuse (-2) mf).bind fun r1008 =>
        some (r1008.1, r1008.2, tb, tp, tf)
      else
        if sp.2.2.2.2.2.2.1 = 0 then
          (f_X4_refuse (-5) mf).bind fun r1010 =>
          some (r1010.1, r1010.2, tb, tp, tf)
        else
          (f_X4_fresh sp tb tp tf).bind fun r1011 =>
          f_X4_beside_L0 a0 a1 sp fuel0 0 mf r1011.1 r1011.2
set_option maxRecDepth 100000 in
set_option maxHeartbeats 4000000 in
theorem run_X4_beside {l : Launch} {D : va_G} {cT : Nat → ClassId} (a0 : Int32) (a1 : Int32)   (sp : ShT) (tk : TkT) (sv : SvT) (mf : AI) (mo : AI) (mn : AI) (ma : AI) (kb : Bool) (tb : Bool) (tp : ShT) (tf : AI) {r : Int32 × AI × Bool × ShT × AI} (hf : f_X4_beside a0 a1 sp mf tb tp tf = some r) : Runs l D cT yX4_beside cX4_beside 6 (some .int) 3 63 [.ref 0, .int a0, .int a1] ((cM 0 sp tk sv mf mo mn ma (vb kb 52) (vb tb 26)) ++ (cMo 26 tb tp tf)) (EQ (some (.int r.1)) ((cM 0 sp tk sv r.2.1 mo mn ma (vb kb 52) (vb r.2.2.1 26)) ++ (cMo 26 r.2.2.1 r.2.2.2.1 r.2.2.2.2))) := by
  refine runs_ofT O_X4 okO_X4 (by decide +kernel) rfl rfl (Nat.le_of_ble_eq_true rfl) (by rw [len_T]; decide) (pot_T _ _ _ _ _ _ _ _ _ _ _ _ _ _) (fun g Rc Rs hB K => ?_)
  have M := K.b
  show g 0 0 ((cM 0 sp tk sv mf mo mn ma (vb kb 52) (vb tb 26)) ++ (cMo 26 tb tp tf)) 0 [some (.ref 0), some (.int a0), some (.int a1), none, none, none] []
  have loop_0 : ∀ (v1 : Int32) (v2 : Int32) (tb : Bool) (n_ : Nat), (∀ (v4 : Int32) (mf : AI) (tp : ShT) (tf : AI) (bc bs : Nat), bc + potM true ≤ Rc ∧ bs + potN true ≤ Rs → f_X4_beside_L0 v1 v2 sp n_ v4 mf tp tf = some r → g bc bs ((cM 0 sp tk sv mf mo mn ma (vb kb 52) (.ref 26)) ++ (cM 26 tp nTk nSv tf zI zI zI .null .null)) 52 [none, some (.int v1), some (.int v2), some (.ref 26), some (.int v4), none] []) := by
    intro v1 v2 tb n_
    induction n_ with
    | zero => intro v4 mf tp tf bc bs hB hf; cases hf
    | succ n_ ih =>
      intro v4 mf tp tf bc bs hB hf
      rw [f_X4_beside_L0] at hf
      refine m_run M (is := [(52, .iload 4, 0), (54, .sipush 999, 999)]) (pc' := 57) (L' := [none, some (.int v1), some (.int v2), some (.ref 26), some (.int v4), none]) (st' := [.int 999, .int v4]) (w' := ((cM 0 sp tk sv mf mo mn ma (vb kb 52) (.ref 26)) ++ (cM 26 tp nTk nSv tf zI zI zI .null .null))) (by decide +kernel) rfl trivial ?_
      rcases ite_s hf with ⟨c_101, hf⟩ | ⟨c_101, hf⟩
      · refine m_jT M (i := .if_icmp .gt 41) 98 (by decide +kernel) rfl (by decide) c_101 ?_
        refine m_run M (is := [(98, .iconst (-1), -1)]) (pc' := 99) (L' := [none, some (.int v1), some (.int v2), some (.ref 26), some (.int v4), none]) (st' := [.int (-1)]) (w' := ((cM 0 sp tk sv mf mo mn ma (vb kb 52) (.ref 26)) ++ (cM 26 tp nTk nSv tf zI zI zI .null .null))) (by decide +kernel) rfl trivial ?_
        obtain rfl := Option.some.inj hf
        exact m_iret K (by decide +kernel) (bdg hB).1 (bdg hB).2 ⟨rfl, rfl⟩
      · refine m_jF M (i := .if_icmp .gt 41) 98 (by decide +kernel) rfl (by decide) c_101 ?_
        refine m_run M (is := [(60, .aload_n 3, 0), (61, .iload_n 1, 0)]) (pc' := 62) (L' := [none, some (.int v1), some (.int v2), some (.ref 26), some (.int v4), none]) (st' := [.int v1, .ref 26]) (w' := ((cM 0 sp tk sv mf mo mn ma (vb kb 52) (.ref 26)) ++ (cM 26 tp nTk nSv tf zI zI zI .null .null))) (by decide +kernel) rfl trivial ?_
        obtain ⟨r102, h_102, hf⟩ := bnd_s hf
        refine m_cV0 M (rest := []) (w2 := ((cM 0 sp tk sv mf mo mn ma (vb kb 52) (.ref 26)) ++ (cM 26 tp nTk nSv tf zI zI zI .null .null))) (st2 := [.int r102]) (run_X4_placeOf v1   tp nTk nSv tf zI zI zI .null .null h_102) cv_X4_placeOf lk_X4_243 (by decide +kernel) rhT (by decide) ⟨Nat.le_of_ble_eq_true rfl, Nat.le_of_ble_eq_true rfl⟩ (hwT sp tk sv mf mo mn ma tp nTk nSv tf zI zI zI) rfl rfl (Nat.le_of_ble_eq_true rfl) ⟨by decide, by decide⟩ rfl rfl (bdg hB) (hpT sp tk sv mf mo mn ma tp nTk nSv tf zI zI zI tp nTk nSv tf zI zI zI) rfl ?_
        refine m_run M (is := [(65, .aload_n 3, 0), (66, .iload_n 2, 0)]) (pc' := 67) (L' := [none, some (.int v1), some (.int v2), some (.ref 26), some (.int v4), none]) (st' := [.int v2, .ref 26, .int r102]) (w' := ((cM 0 sp tk sv mf mo mn ma (vb kb 52) (.ref 26)) ++ (cM 26 tp nTk nSv tf zI zI zI .null .null))) (by decide +kernel) rfl trivial ?_
        obtain ⟨r103, h_103, hf⟩ := bnd_s hf
        refine m_cV0 M (rest := [.int r102]) (w2 := ((cM 0 sp tk sv mf mo mn ma (vb kb 52) (.ref 26)) ++ (cM 26 tp nTk nSv tf zI zI zI .null .null))) (st2 := [.int r103, .int r102]) (run_X4_placeOf v2   tp nTk nSv tf zI zI zI .null .null h_103) cv_X4_placeOf lk_X4_243 (by decide +kernel) rhT (by decide) ⟨Nat.le_of_ble_eq_true rfl, Nat.le_of_ble_eq_true rfl⟩ (hwT sp tk sv mf mo mn ma tp nTk nSv tf zI zI zI) rfl rfl (Nat.le_of_ble_eq_true rfl) ⟨by decide, by decide⟩ rfl rfl (bdg hB) (hpT sp tk sv mf mo mn ma tp nTk nSv tf zI zI zI tp nTk nSv tf zI zI zI) rfl ?_
        refine m_run M (is := [(70, .isub, 0), (71, .istore 5, 0), (73, .iload 5, 0), (75, .iconst 1, 1)]) (pc' := 76) (L' := [none, some (.int v1), some (.int v2), some (.ref 26), some (.int v4), some (.int (r102 - r103))]) (st' := [.int 1, .int (r102 - r103)]) (w' := ((cM 0 sp tk sv mf mo mn ma (vb kb 52) (.ref 26)) ++ (cM 26 tp nTk nSv tf zI zI zI .null .null))) (by decide +kernel) rfl trivial ?_
        rcases ite_s hf with ⟨c_104, hf⟩ | ⟨c_104, hf⟩
        · refine m_jT M (i := .if_icmp .eq 9) 85 (by decide +kernel) rfl (by decide) c_104 ?_
          refine m_run M (is := [(85, .iload 4, 0)]) (pc' := 87) (L' := [none, some (.int v1), some (.int v2), some (.ref 26), some (.int v4), some (.int (r102 - r103))]) (st' := [.int v4]) (w' := ((cM 0 sp tk sv mf mo mn ma (vb kb 52) (.ref 26)) ++ (cM 26 tp nTk nSv tf zI zI zI .null .null))) (by decide +kernel) rfl trivial ?_
          obtain rfl := Option.some.inj hf
          exact m_iret K (by decide +kernel) (bdg hB).1 (bdg hB).2 ⟨rfl, rfl⟩
        · refine m_jF M (i := .if_icmp .eq 9) 85 (by decide +kernel) rfl (by decide) c_104 ?_
          refine m_run M (is := [(79, .iload 5, 0), (81, .iconst (-1), -1)]) (pc' := 82) (L' := [none, some (.int v1), some (.int v2), some (.ref 26), some (.int v4), some (.int (r102 - r103))]) (st' := [.int (-1), .int (r102 - r103)]) (w' := ((cM 0 sp tk sv mf mo mn ma (vb kb 52) (.ref 26)) ++ (cM 26 tp nTk nSv tf zI zI zI .null .null))) (by decide +kernel) rfl trivial ?_
          rcases ite_s hf with ⟨c_105, hf⟩ | ⟨c_105, hf⟩
          · refine m_jF M (i := .if_icmp .ne 6) 88 (by decide +kernel) rfl (by decide) (fun n => n c_105) ?_
            refine m_run M (is := [(85, .iload 4, 0)]) (pc' := 87) (L' := [none, some (.int v1), some (.int v2), some (.ref 26), some (.int v4), some (.int (r102 - r103))]) (st' := [.int v4]) (w' := ((cM 0 sp tk sv mf mo mn ma (vb kb 52) (.ref 26)) ++ (cM 26 tp nTk nSv tf zI zI zI .null .null))) (by decide +kernel) rfl trivial ?_
            obtain rfl := Option.some.inj hf
            exact m_iret K (by decide +kernel) (bdg hB).1 (bdg hB).2 ⟨rfl, rfl⟩
          · refine m_jT M (i := .if_icmp .ne 6) 88 (by decide +kernel) rfl (by decide) c_105 ?_
            refine m_run M (is := [(88, .aload_n 3, 0)]) (pc' := 89) (L' := [none, some (.int v1), some (.int v2), some (.ref 26), some (.int v4), some (.int (r102 - r103))]) (st' := [.ref 26]) (w' := ((cM 0 sp tk sv mf mo mn ma (vb kb 52) (.ref 26)) ++ (cM 26 tp nTk nSv tf zI zI zI .null .null))) (by decide +kernel) rfl trivial ?_
            obtain ⟨r106, h_106, hf⟩ := bnd_s hf
            refine m_cV0 M (rest := []) (w2 := ((cM 0 sp tk sv mf mo mn ma (vb kb 52) (.ref 26)) ++ (cM 26 r106 nTk nSv tf zI zI zI .null .null))) (st2 := []) (run_X4_turn    tp nTk nSv tf zI zI zI .null .null h_106) cv_X4_turn lk_X4_249 (by decide +kernel) rhT (by decide) ⟨Nat.le_of_ble_eq_true rfl, Nat.le_of_ble_eq_true rfl⟩ (hwT sp tk sv mf mo mn ma tp nTk nSv tf zI zI zI) rfl rfl (Nat.le_of_ble_eq_true rfl) ⟨by decide, by decide⟩ rfl rfl (bdg hB) (hpT sp tk sv mf mo mn ma tp nTk nSv tf zI zI zI r106 nTk nSv tf zI zI zI) rfl ?_
            refine m_run M (is := [(92, .iinc 4 1, 1), (95, .goto (-43), 0)]) (pc' := 52) (L' := [none, some (.int v1), some (.int v2), some (.ref 26), some (.int (v4 + 1)), some (.int (r102 - r103))]) (st' := []) (w' := ((cM 0 sp tk sv mf mo mn ma (vb kb 52) (.ref 26)) ++ (cM 26 r106 nTk nSv tf zI zI zI .null .null))) (by decide +kernel) rfl trivial ?_
            refine m_wk M [none, some (.int v1), some (.int v2), some (.ref 26), some (.int (v4 + 1)), none] ⟨Or.inr rfl, Or.inr rfl, Or.inr rfl, Or.inr rfl, Or.inr rfl, Or.inl rfl, trivial⟩ ?_
            exact ih (v4 + 1) mf r106 tf _ _ hB hf
  rw [f_X4_beside] at hf
  refine m_run M (is := [(0, .aload_n 0, 0), (1, .iload_n 1, 0), (2, .i2l, 0)]) (pc' := 3) (L' := [some (.ref 0), some (.int a0), some (.int a1), none, none, none]) (st' := [.long ((a0).toInt64), .ref 0]) (w' := ((cM 0 sp tk sv mf mo mn ma (vb kb 52) (vb tb 26)) ++ (cMo 26 tb tp tf))) (by decide +kernel) rfl trivial ?_
  obtain ⟨r1001, h_1001, hf⟩ := bnd_s hf
  refine m_cV0 M (rest := []) (w2 := ((cM 0 sp tk sv mf mo mn ma (vb kb 52) (vb tb 26)) ++ (cMo 26 tb tp tf))) (st2 := [.int r1001]) (run_X4_isPerson ((a0).toInt64)   sp tk sv mf mo mn ma (vb kb 26) (vb tb 27) h_1001) cv_X4_isPerson lk_X4_130 (by decide +kernel) (rhS 52 26) (by decide) ⟨Nat.le_of_ble_eq_true rfl, Nat.le_of_ble_eq_true rfl⟩ (hwS (rvk kb) (rvt tb) (len_Mo _ _ _ _) sp tk sv mf mo mn ma) rfl rfl (Nat.le_of_ble_eq_true rfl) ⟨by decide, by decide⟩ rfl rfl (bdg hB) (hpS (rvk kb) (rvt tb) (len_Mo _ _ _ _) sp tk sv mf mo mn ma sp tk sv mf mo mn ma) rfl ?_
  rcases ite_s hf with ⟨c_1002, hf⟩ | ⟨c_1002, hf⟩
  · refine m_jT M (i := .ifCond .eq 17) 23 (by decide +kernel) rfl (by decide) c_1002 ?_
    refine m_run M (is := [(23, .aload_n 0, 0), (24, .bipush (-2), -2)]) (pc' := 26) (L' := [some (.ref 0), some (.int a0), some (.int a1), none, none, none]) (st' := [.int (-2), .ref 0]) (w' := ((cM 0 sp tk sv mf mo mn ma (vb kb 52) (vb tb 26)) ++ (cMo 26 tb tp tf))) (by decide +kernel) rfl trivial ?_
    obtain ⟨r1003, h_1003, hf⟩ := bnd_s hf
    refine m_cV0 M (rest := []) (w2 := ((cM 0 sp tk sv r1003.2 mo mn ma (vb kb 52) (vb tb 26)) ++ (cMo 26 tb tp tf))) (st2 := [.int r1003.1]) (run_X4_refuse (-2)   sp tk sv mf mo mn ma (vb kb 26) (vb tb 27) h_1003) cv_X4_refuse lk_X4_85 (by decide +kernel) (rhS 52 26) (by decide) ⟨Nat.le_of_ble_eq_true rfl, Nat.le_of_ble_eq_true rfl⟩ (hwS (rvk kb) (rvt tb) (len_Mo _ _ _ _) sp tk sv mf mo mn ma) rfl rfl (Nat.le_of_ble_eq_true rfl) ⟨by decide, by decide⟩ rfl rfl (bdg hB) (hpS (rvk kb) (rvt tb) (len_Mo _ _ _ _) sp tk sv mf mo mn ma sp tk sv r1003.2 mo mn ma) rfl ?_
    obtain rfl := Option.some.inj hf
    exact m_iret K (by decide +kernel) (bdg hB).1 (bdg hB).2 ⟨rfl, rfl⟩
  · refine m_jF M (i := .ifCond .eq 17) 23 (by decide +kernel) rfl (by decide) c_1002 ?_
    refine m_run M (is := [(9, .aload_n 0, 0), (10, .iload_n 2, 0), (11, .i2l, 0)]) (pc' := 12) (L' := [some (.ref 0), some (.int a0), some (.int a1), none, none, none]) (st' := [.long ((a1).toInt64), .ref 0]) (w' := ((cM 0 sp tk sv mf mo mn ma (vb kb 52) (vb tb 26)) ++ (cMo 26 tb tp tf))) (by decide +kernel) rfl trivial ?_
    obtain ⟨r1004, h_1004, hf⟩ := bnd_s hf
    refine m_cV0 M (rest := []) (w2 := ((cM 0 sp tk sv mf mo mn ma (vb kb 52) (vb tb 26)) ++ (cMo 26 tb tp tf))) (st2 := [.int r1004]) (run_X4_isPerson ((a1).toInt64)   sp tk sv mf mo mn ma (vb kb 26) (vb tb 27) h_1004) cv_X4_isPerson lk_X4_130 (by decide +kernel) (rhS 52 26) (by decide) ⟨Nat.le_of_ble_eq_true rfl, Nat.le_of_ble_eq_true rfl⟩ (hwS (rvk kb) (rvt tb) (len_Mo _ _ _ _) sp tk sv mf mo mn ma) rfl rfl (Nat.le_of_ble_eq_true rfl) ⟨by decide, by decide⟩ rfl rfl (bdg hB) (hpS (rvk kb) (rvt tb) (len_Mo _ _ _ _) sp tk sv mf mo mn ma sp tk sv mf mo mn ma) rfl ?_
    rcases ite_s hf with ⟨c_1005, hf⟩ | ⟨c_1005, hf⟩
    · refine m_jT M (i := .ifCond .eq 8) 23 (by decide +kernel) rfl (by decide) c_1005 ?_
      refine m_run M (is := [(23, .aload_n 0, 0), (24, .bipush (-2), -2)]) (pc' := 26) (L' := [some (.ref 0), some (.int a0), some (.int a1), none, none, none]) (st' := [.int (-2), .ref 0]) (w' := ((cM 0 sp tk sv mf mo mn ma (vb kb 52) (vb tb 26)) ++ (cMo 26 tb tp tf))) (by decide +kernel) rfl trivial ?_
      obtain ⟨r1006, h_1006, hf⟩ := bnd_s hf
      refine m_cV0 M (rest := []) (w2 := ((cM 0 sp tk sv r1006.2 mo mn ma (vb kb 52) (vb tb 26)) ++ (cMo 26 tb tp tf))) (st2 := [.int r1006.1]) (run_X4_refuse (-2)   sp tk sv mf mo mn ma (vb kb 26) (vb tb 27) h_1006) cv_X4_refuse lk_X4_85 (by decide +kernel) (rhS 52 26) (by decide) ⟨Nat.le_of_ble_eq_true rfl, Nat.le_of_ble_eq_true rfl⟩ (hwS (rvk kb) (rvt tb) (len_Mo _ _ _ _) sp tk sv mf mo mn ma) rfl rfl (Nat.le_of_ble_eq_true rfl) ⟨by decide, by decide⟩ rfl rfl (bdg hB) (hpS (rvk kb) (rvt tb) (len_Mo _ _ _ _) sp tk sv mf mo mn ma sp tk sv r1006.2 mo mn ma) rfl ?_
      obtain rfl := Option.some.inj hf
      exact m_iret K (by decide +kernel) (bdg hB).1 (bdg hB).2 ⟨rfl, rfl⟩
    · refine m_jF M (i := .ifCond .eq 8) 23 (by decide +kernel) rfl (by decide) c_1005 ?_
      refine m_run M (is := [(18, .iload_n 1, 0), (19, .iload_n 2, 0)]) (pc' := 20) (L' := [some (.ref 0), some (.int a0), some (.int a1), none, none, none]) (st' := [.int a1, .int a0]) (w' := ((cM 0 sp tk sv mf mo mn ma (vb kb 52) (vb tb 26)) ++ (cMo 26 tb tp tf))) (by decide +kernel) rfl trivial ?_
      rcases ite_s hf with ⟨c_1007, hf⟩ | ⟨c_1007, hf⟩
      · refine m_jF M (i := .if_icmp .ne 10) 30 (by decide +kernel) rfl (by decide) (fun n => n c_1007) ?_
        refine m_run M (is := [(23, .aload_n 0, 0), (24, .bipush (-2), -2)]) (pc' := 26) (L' := [some (.ref 0), some (.int a0), some (.int a1), none, none, none]) (st' := [.int (-2), .ref 0]) (w' := ((cM 0 sp tk sv mf mo mn ma (vb kb 52) (vb tb 26)) ++ (cMo 26 tb tp tf))) (by decide +kernel) rfl trivial ?_
        obtain ⟨r1008, h_1008, hf⟩ := bnd_s hf
        refine m_cV0 M (rest := []) (w2 := ((cM 0 sp tk sv r1008.2 mo mn ma (vb kb 52) (vb tb 26)) ++ (cMo 26 tb tp tf))) (st2 := [.int r1008.1]) (run_X4_refuse (-2)   sp tk sv mf mo mn ma (vb kb 26) (vb tb 27) h_1008) cv_X4_refuse lk_X4_85 (by decide +kernel) (rhS 52 26) (by decide) ⟨Nat.le_of_ble_eq_true rfl, Nat.le_of_ble_eq_true rfl⟩ (hwS (rvk kb) (rvt tb) (len_Mo _ _ _ _) sp tk sv mf mo mn ma) rfl rfl (Nat.le_of_ble_eq_true rfl) ⟨by decide, by decide⟩ rfl rfl (bdg hB) (hpS (rvk kb) (rvt tb) (len_Mo _ _ _ _) sp tk sv mf mo mn ma sp tk sv r1008.2 mo mn ma) rfl ?_
        obtain rfl := Option.some.inj hf
        exact m_iret K (by decide +kernel) (bdg hB).1 (bdg hB).2 ⟨rfl, rfl⟩
      · refine m_jT M (i := .if_icmp .ne 10) 30 (by decide +kernel) rfl (by decide) c_1007 ?_
        refine m_run M (is := [(30, .aload_n 0, 0), (31, .getfield 76, 0)]) (pc' := 34) (L' := [some (.ref 0), some (.int a0), some (.int a1), none, none, none]) (st' := [.int sp.2.2.2.2.2.2.1]) (w' := ((cM 0 sp tk sv mf mo mn ma (vb kb 52) (vb tb 26)) ++ (cMo 26 tb tp tf))) (by decide +kernel) rfl trivial ?_
        rcases ite_s hf with ⟨c_1009, hf⟩ | ⟨c_1009, hf⟩
        · refine m_jF M (i := .ifCond .ne 10) 44 (by decide +kernel) rfl (by decide) (fun n => n c_1009) ?_
          refine m_run M (is := [(37, .aload_n 0, 0), (38, .bipush (-5), -5)]) (pc' := 40) (L' := [some (.ref 0), some (.int a0), some (.int a1), none, none, none]) (st' := [.int (-5), .ref 0]) (w' := ((cM 0 sp tk sv mf mo mn ma (vb kb 52) (vb tb 26)) ++ (cMo 26 tb tp tf))) (by decide +kernel) rfl trivial ?_
          obtain ⟨r1010, h_1010, hf⟩ := bnd_s hf
          refine m_cV0 M (rest := []) (w2 := ((cM 0 sp tk sv r1010.2 mo mn ma (vb kb 52) (vb tb 26)) ++ (cMo 26 tb tp tf))) (st2 := [.int r1010.1]) (run_X4_refuse (-5)   sp tk sv mf mo mn ma (vb kb 26) (vb tb 27) h_1010) cv_X4_refuse lk_X4_85 (by decide +kernel) (rhS 52 26) (by decide) ⟨Nat.le_of_ble_eq_true rfl, Nat.le_of_ble_eq_true rfl⟩ (hwS (rvk kb) (rvt tb) (len_Mo _ _ _ _) sp tk sv mf mo mn ma) rfl rfl (Nat.le_of_ble_eq_true rfl) ⟨by decide, by decide⟩ rfl rfl (bdg hB) (hpS (rvk kb) (rvt tb) (len_Mo _ _ _ _) sp tk sv mf mo mn ma sp tk sv r1010.2 mo mn ma) rfl ?_
          obtain rfl := Option.some.inj hf
          exact m_iret K (by decide +kernel) (bdg hB).1 (bdg hB).2 ⟨rfl, rfl⟩
        · refine m_jT M (i := .ifCond .ne 10) 44 (by decide +kernel) rfl (by decide) c_1009 ?_
          refine m_run M (is := [(44, .aload_n 0, 0)]) (pc' := 45) (L' := [some (.ref 0), some (.int a0), some (.int a1), none, none, none]) (st' := [.ref 0]) (w' := ((cM 0 sp tk sv mf mo mn ma (vb kb 52) (vb tb 26)) ++ (cMo 26 tb tp tf))) (by decide +kernel) rfl trivial ?_
          obtain ⟨r1011, h_1011, hf⟩ := bnd_s hf
          refine m_cT M (rest := []) (w2 := ((cM 0 sp tk sv mf mo mn ma (vb kb 52) (.ref 26)) ++ (cM 26 r1011.1 nTk nSv r1011.2 zI zI zI .null .null))) (st2 := [.ref 26]) (run_X4_fresh    sp tk sv mf mo mn ma kb tb tp tf h_1011) cv_X4_fresh lk_X4_234 (by decide +kernel) (List.range 53) List.nodup_range ⟨(by rw [List.length_range]; exact (by rw [len_T]; decide)), (by rw [List.length_range]; decide)⟩ (hwId2 (by rw [len_T]; decide)) rfl rfl (Nat.le_of_ble_eq_true rfl) ⟨by decide, by decide⟩ (pot_T _ _ _ _ _ _ _ _ _ _ _ _ _ _) hB (nrT (x := tb) (p := tp) (f := tf) sp tk sv mf mo mn ma (vb kb 52) (vb tb 26) okR_w okR_v) rfl (hpId2 (by rw [len_T]; decide) (by rw [len_T]; rfl)) rfl (fun bc bs hB => ?_)
          refine m_run M (is := [(48, .astore_n 3, 0), (49, .iconst 0, 0), (50, .istore 4, 0)]) (pc' := 52) (L' := [some (.ref 0), some (.int a0), some (.int a1), some (.ref 26), some (.int 0), none]) (st' := []) (w' := ((cM 0 sp tk sv mf mo mn ma (vb kb 52) (.ref 26)) ++ (cM 26 r1011.1 nTk nSv r1011.2 zI zI zI .null .null))) (by decide +kernel) rfl trivial ?_
          refine m_wk M [none, some (.int a0), some (.int a1), some (.ref 26), some (.int 0), none] ⟨Or.inl rfl, Or.inr rfl, Or.inr rfl, Or.inr rfl, Or.inr rfl, Or.inr rfl, trivial⟩ ?_
          exact loop_0 a0 a1 true fuel0 0 mf r1011.1 r1011.2 _ _ hB hf

def f_X4_unlike_L1 (sp : ShT) : Nat → Int32 → AI → AI → ShT → AI → Option (Int32 × AI × AI × Bool × ShT × AI)
  | 0, _, _, _, _, _ => none
  | n_ + 1, v4, mf, mo, tp, tf =>
    if 999 ≤ v4 then
      some ((-1), mf, mo, true, tp, tf)
    else
      if inB v4 999 then
      if inB 0 16 then
      if (mo v4.toNatClampNeg) = (tp.1 (0 : Int32).toNatClampNeg) then
        (f_X4_turn tp).bind fun r205 =>
        f_X4_unlike_L1 sp n_ (v4 + 1) mf mo r205 tf
      else
        some ((v4 + 1), mf, mo, true, tp, tf)
      else none
      else none
def f_X4_unlike_L0 (v2 : Int32) (sp : ShT) : Nat → Int32 → AI → AI → ShT → AI → Option (Int32 × AI × AI × Bool × ShT × AI)
  | 0, _, _, _, _, _ => none
  | n_ + 1, v4, mf, mo, tp, tf =>
    if 999 ≤ v4 then
      (f_X4_fresh sp true tp tf).bind fun r102 =>
      f_X4_unlike_L1 sp fuel0 0 mf mo (r102.1.1, r102.1.2.1, r102.1.2.2.1, r102.1.2.2.2.1, r102.1.2.2.2.2.1, r102.1.2.2.2.2.2.1, r102.1.2.2.2.2.2.2.1, v2, r102.1.2.2.2.2.2.2.2.2.1, r102.1.2.2.2.2.2.2.2.2.2) r102.2
    else
      if inB 0 16 then
      if inB v4 999 then
      (f_X4_turn tp).bind fun r105 =>
      f_X4_unlike_L0 v2 sp n_ (v4 + 1) mf (upd mo v4.toNatClampNeg (tp.1 (0 : Int32).toNatClampNeg)) r105 tf
      else none
      else none
def f_X4_unlike (a0 : Int32) (a1 : Int32) (sp : ShT) (mf : AI) (mo : AI) (tb : Bool) (tp : ShT) (tf : AI) : Option (Int32 × AI × AI × Bool × ShT × AI) :=
  (f_X4_isLaw a0 sp).bind fun r1001 =>
  if r1001 = 0 then
    (f_X4_refuse (-2) mf).bind fun r1003 =>
    some (r1003.1, r1003.2, mo, tb, tp, tf)
  else
    (f_X4_isLaw a1 sp).bind fun r1004 =>
    if r1004 = 0 then
      (f_X4_refuse (-2) mf).bind fun r1006 =>
      some (r1006.1, r1006.2, mo, tb, tp, tf)
    else
      if sp.2.2.2.2.2.1 = 0 then
        (f_X4_refuse (-5) mf).bind fun r1008 =>
        some (r1008.1, r1008.2, mo, tb, tp, tf)
      else
        (f_X4_fresh sp tb tp tf).bind fun r1009 =>
        f_X4_unlike_L0 a1 sp fuel0 0 mf mo (r1009.1.1, r1009.1.2.1, r1009.1.2.2.1, r1009.1.2.2.2.1, r1009.1.2.2.2.2.1, r1009.1.2.2.2.2.2.1, r1009.1.2.2.2.2.2.2.1, a0, r1009.1.2.2.2.2.2.2.2.2.1, r1009.1.2.2.2.2.2.2.2.2.2) r1009.2
set_option maxRecDepth 100000 in
set_option maxHeartbeats 4000000 in
theorem run_X4_unlike {l : Launch} {D : va_G} {cT : Nat → ClassId} (a0 : Int32) (a1 : Int32)   (sp : ShT) (tk : TkT) (sv : SvT) (mf : AI) (mo : AI) (mn : AI) (ma : AI) (kb : Bool) (tb : Bool) (tp : ShT) (tf : AI) {r : Int32 × AI × AI × Bool × ShT × AI} (hf : f_X4_unlike a0 a1 sp mf mo tb tp tf = some r) : Runs l D cT yX4_unlike cX4_unlike 5 (some .int) 3 63 [.ref 0, .int a0, .int a1] ((cM 0 sp tk sv mf mo mn ma (vb kb 52) (vb tb 26)) ++ (cMo 26 tb tp tf)) (EQ (some (.int r.1)) ((cM 0 sp tk sv r.2.1 r.2.2.1 mn ma (vb kb 52) (vb r.2.2.2.1 26)) ++ (cMo 26 r.2.2.2.1 r.2.2.2.2.1 r.2.2.2.2.2))) := by
  refine runs_ofT O_X4 okO_X4 (by decide +kernel) rfl rfl (Nat.le_of_ble_eq_true rfl) (by rw [len_T]; decide) (pot_T _ _ _ _ _ _ _ _ _ _ _ _ _ _) (fun g Rc Rs hB K => ?_)
  have M := K.b
  show g 0 0 ((cM 0 sp tk sv mf mo mn ma (vb kb 52) (vb tb 26)) ++ (cMo 26 tb tp tf)) 0 [some (.ref 0), some (.int a0), some (.int a1), none, none] []
  have loop_1 : ∀ (tb : Bool) (n_ : Nat), (∀ (v4 : Int32) (mf : AI) (mo : AI) (tp : ShT) (tf : AI) (bc bs : Nat), bc + potM true ≤ Rc ∧ bs + potN true ≤ Rs → f_X4_unlike_L1 sp n_ v4 mf mo tp tf = some r → g bc bs ((cM 0 sp tk sv mf mo mn ma (vb kb 52) (.ref 26)) ++ (cM 26 tp nTk nSv tf zI zI zI .null .null)) 94 [some (.ref 0), none, none, some (.ref 26), some (.int v4)] []) := by
    intro tb n_
    induction n_ with
    | zero => intro v4 mf mo tp tf bc bs hB hf; cases hf
    | succ n_ ih =>
      intro v4 mf mo tp tf bc bs hB hf
      rw [f_X4_unlike_L1] at hf
      refine m_run M (is := [(94, .iload 4, 0), (96, .sipush 999, 999)]) (pc' := 99) (L' := [some (.ref 0), none, none, some (.ref 26), some (.int v4)]) (st' := [.int 999, .int v4]) (w' := ((cM 0 sp tk sv mf mo mn ma (vb kb 52) (.ref 26)) ++ (cM 26 tp nTk nSv tf zI zI zI .null .null))) (by decide +kernel) rfl trivial ?_
      rcases ite_s hf with ⟨c_201, hf⟩ | ⟨c_201, hf⟩
      · refine m_jT M (i := .if_icmp .ge 34) 133 (by decide +kernel) rfl (by decide) c_201 ?_
        refine m_run M (is := [(133, .iconst (-1), -1)]) (pc' := 134) (L' := [some (.ref 0), none, none, some (.ref 26), some (.int v4)]) (st' := [.int (-1)]) (w' := ((cM 0 sp tk sv mf mo mn ma (vb kb 52) (.ref 26)) ++ (cM 26 tp nTk nSv tf zI zI zI .null .null))) (by decide +kernel) rfl trivial ?_
        obtain rfl := Option.some.inj hf
        exact m_iret K (by decide +kernel) (bdg hB).1 (bdg hB).2 ⟨rfl, rfl⟩
      · refine m_jF M (i := .if_icmp .ge 34) 133 (by decide +kernel) rfl (by decide) c_201 ?_
        obtain ⟨h_202, hf⟩ := grd_s hf
        obtain ⟨h_203, hf⟩ := grd_s hf
        refine m_run M (is := [(102, .aload_n 0, 0), (103, .getfield 59, 0), (106, .iload 4, 0), (108, .iaload, 0), (109, .aload_n 3, 0), (110, .getfield 37, 0), (113, .iconst 0, 0), (114, .iaload, 0)]) (pc' := 115) (L' := [some (.ref 0), none, none, some (.ref 26), some (.int v4)]) (st' := [.int (tp.1 (0 : Int32).toNatClampNeg), .int (mo v4.toNatClampNeg)]) (w' := ((cM 0 sp tk sv mf mo mn ma (vb kb 52) (.ref 26)) ++ (cM 26 tp nTk nSv tf zI zI zI .null .null))) (by decide +kernel) rfl ⟨inB_use h_202, inB_use h_203, trivial⟩ ?_
        rcases ite_s hf with ⟨c_204, hf⟩ | ⟨c_204, hf⟩
        · refine m_jT M (i := .if_icmp .eq 8) 123 (by decide +kernel) rfl (by decide) c_204 ?_
          refine m_run M (is := [(123, .aload_n 3, 0)]) (pc' := 124) (L' := [some (.ref 0), none, none, some (.ref 26), some (.int v4)]) (st' := [.ref 26]) (w' := ((cM 0 sp tk sv mf mo mn ma (vb kb 52) (.ref 26)) ++ (cM 26 tp nTk nSv tf zI zI zI .null .null))) (by decide +kernel) rfl trivial ?_
          obtain ⟨r205, h_205, hf⟩ := bnd_s hf
          refine m_cV0 M (rest := []) (w2 := ((cM 0 sp tk sv mf mo mn ma (vb kb 52) (.ref 26)) ++ (cM 26 r205 nTk nSv tf zI zI zI .null .null))) (st2 := []) (run_X4_turn    tp nTk nSv tf zI zI zI .null .null h_205) cv_X4_turn lk_X4_249 (by decide +kernel) rhT (by decide) ⟨Nat.le_of_ble_eq_true rfl, Nat.le_of_ble_eq_true rfl⟩ (hwT sp tk sv mf mo mn ma tp nTk nSv tf zI zI zI) rfl rfl (Nat.le_of_ble_eq_true rfl) ⟨by decide, by decide⟩ rfl rfl (bdg hB) (hpT sp tk sv mf mo mn ma tp nTk nSv tf zI zI zI r205 nTk nSv tf zI zI zI) rfl ?_
          refine m_run M (is := [(127, .iinc 4 1, 1), (130, .goto (-36), 0)]) (pc' := 94) (L' := [some (.ref 0), none, none, some (.ref 26), some (.int (v4 + 1))]) (st' := []) (w' := ((cM 0 sp tk sv mf mo mn ma (vb kb 52) (.ref 26)) ++ (cM 26 r205 nTk nSv tf zI zI zI .null .null))) (by decide +kernel) rfl trivial ?_
          exact ih (v4 + 1) mf mo r205 tf _ _ hB hf
        · refine m_jF M (i := .if_icmp .eq 8) 123 (by decide +kernel) rfl (by decide) c_204 ?_
          refine m_run M (is := [(118, .iload 4, 0), (120, .iconst 1, 1), (121, .iadd, 0)]) (pc' := 122) (L' := [some (.ref 0), none, none, some (.ref 26), some (.int v4)]) (st' := [.int (v4 + 1)]) (w' := ((cM 0 sp tk sv mf mo mn ma (vb kb 52) (.ref 26)) ++ (cM 26 tp nTk nSv tf zI zI zI .null .null))) (by decide +kernel) rfl trivial ?_
          obtain rfl := Option.some.inj hf
          exact m_iret K (by decide +kernel) (bdg hB).1 (bdg hB).2 ⟨rfl, rfl⟩
  have loop_0 : ∀ (v2 : Int32) (tb : Bool) (n_ : Nat), (∀ (v4 : Int32) (mf : AI) (mo : AI) (tp : ShT) (tf : AI) (bc bs : Nat), bc + potM true ≤ Rc ∧ bs + potN true ≤ Rs → f_X4_unlike_L0 v2 sp n_ v4 mf mo tp tf = some r → g bc bs ((cM 0 sp tk sv mf mo mn ma (vb kb 52) (.ref 26)) ++ (cM 26 tp nTk nSv tf zI zI zI .null .null)) 50 [some (.ref 0), none, some (.int v2), some (.ref 26), some (.int v4)] []) := by
    intro v2 tb n_
    induction n_ with
    | zero => intro v4 mf mo tp tf bc bs hB hf; cases hf
    | succ n_ ih =>
      intro v4 mf mo tp tf bc bs hB hf
      rw [f_X4_unlike_L0] at hf
      refine m_run M (is := [(50, .iload 4, 0), (52, .sipush 999, 999)]) (pc' := 55) (L' := [some (.ref 0), none, some (.int v2), some (.ref 26), some (.int v4)]) (st' := [.int 999, .int v4]) (w' := ((cM 0 sp tk sv mf mo mn ma (vb kb 52) (.ref 26)) ++ (cM 26 tp nTk nSv tf zI zI zI .null .null))) (by decide +kernel) rfl trivial ?_
      rcases ite_s hf with ⟨c_101, hf⟩ | ⟨c_101, hf⟩
      · refine m_jT M (i := .if_icmp .ge 26) 81 (by decide +kernel) rfl (by decide) c_101 ?_
        refine m_run M (is := [(81, .aload_n 0, 0)]) (pc' := 82) (L' := [some (.ref 0), none, some (.int v2), some (.ref 26), some (.int v4)]) (st' := [.ref 0]) (w' := ((cM 0 sp tk sv mf mo mn ma (vb kb 52) (.ref 26)) ++ (cM 26 tp nTk nSv tf zI zI zI .null .null))) (by decide +kernel) rfl trivial ?_
        obtain ⟨r102, h_102, hf⟩ := bnd_s hf
        refine m_cT M (rest := []) (w2 := ((cM 0 sp tk sv mf mo mn ma (vb kb 52) (.ref 26)) ++ (cM 26 r102.1 nTk nSv r102.2 zI zI zI .null .null))) (st2 := [.ref 26]) (run_X4_fresh    sp tk sv mf mo mn ma kb true tp tf h_102) cv_X4_fresh lk_X4_234 (by decide +kernel) (List.range 53) List.nodup_range ⟨(by rw [List.length_range]; exact (Nat.le_of_ble_eq_true rfl)), (by rw [List.length_range]; decide)⟩ (hwId2 (Nat.le_of_ble_eq_true rfl)) rfl rfl (Nat.le_of_ble_eq_true rfl) ⟨by decide, by decide⟩ (pot_T _ _ _ _ _ _ _ _ _ _ _ _ _ _) hB (nrT (x := true) (p := tp) (f := tf) sp tk sv mf mo mn ma (vb kb 52) (.ref 26) okR_w rfl) rfl (hpId2 (Nat.le_of_ble_eq_true rfl) rfl) rfl (fun bc bs hB => ?_)
        refine m_run M (is := [(85, .astore_n 3, 0), (86, .aload_n 3, 0), (87, .iload_n 2, 0), (88, .putfield 123, 0), (91, .iconst 0, 0), (92, .istore 4, 0)]) (pc' := 94) (L' := [some (.ref 0), none, some (.int v2), some (.ref 26), some (.int 0)]) (st' := []) (w' := ((cM 0 sp tk sv mf mo mn ma (vb kb 52) (.ref 26)) ++ (cM 26 (r102.1.1, r102.1.2.1, r102.1.2.2.1, r102.1.2.2.2.1, r102.1.2.2.2.2.1, r102.1.2.2.2.2.2.1, r102.1.2.2.2.2.2.2.1, v2, r102.1.2.2.2.2.2.2.2.2.1, r102.1.2.2.2.2.2.2.2.2.2) nTk nSv r102.2 zI zI zI .null .null))) (by decide +kernel) rfl trivial ?_
        refine m_wk M [some (.ref 0), none, none, some (.ref 26), some (.int 0)] ⟨Or.inr rfl, Or.inr rfl, Or.inl rfl, Or.inr rfl, Or.inr rfl, trivial⟩ ?_
        exact loop_1 true fuel0 0 mf mo (r102.1.1, r102.1.2.1, r102.1.2.2.1, r102.1.2.2.2.1, r102.1.2.2.2.2.1, r102.1.2.2.2.2.2.1, r102.1.2.2.2.2.2.2.1, v2, r102.1.2.2.2.2.2.2.2.2.1, r102.1.2.2.2.2.2.2.2.2.2) r102.2 _ _ hB hf
      · refine m_jF M (i := .if_icmp .ge 26) 81 (by decide +kernel) rfl (by decide) c_101 ?_
        obtain ⟨h_103, hf⟩ := grd_s hf
        obtain ⟨h_104, hf⟩ := grd_s hf
        refine m_run M (is := [(58, .aload_n 0, 0), (59, .getfield 59, 0), (62, .iload 4, 0), (64, .aload_n 3, 0), (65, .getfield 37, 0), (68, .iconst 0, 0), (69, .iaload, 0), (70, .iastore, 0), (71, .aload_n 3, 0)]) (pc' := 72) (L' := [some (.ref 0), none, some (.int v2), some (.ref 26), some (.int v4)]) (st' := [.ref 26]) (w' := ((cM 0 sp tk sv mf (upd mo v4.toNatClampNeg (tp.1 (0 : Int32).toNatClampNeg)) mn ma (vb kb 52) (.ref 26)) ++ (cM 26 tp nTk nSv tf zI zI zI .null .null))) (by decide +kernel) rfl ⟨inB_use h_103, inB_use h_104, trivial⟩ ?_
        obtain ⟨r105, h_105, hf⟩ := bnd_s hf
        refine m_cV0 M (rest := []) (w2 := ((cM 0 sp tk sv mf (upd mo v4.toNatClampNeg (tp.1 (0 : Int32).toNatClampNeg)) mn ma (vb kb 52) (.ref 26)) ++ (cM 26 r105 nTk nSv tf zI zI zI .null .null))) (st2 := []) (run_X4_turn    tp nTk nSv tf zI zI zI .null .null h_105) cv_X4_turn lk_X4_249 (by decide +kernel) rhT (by decide) ⟨Nat.le_of_ble_eq_true rfl, Nat.le_of_ble_eq_true rfl⟩ (hwT sp tk sv mf (upd mo v4.toNatClampNeg (tp.1 (0 : Int32).toNatClampNeg)) mn ma tp nTk nSv tf zI zI zI) rfl rfl (Nat.le_of_ble_eq_true rfl) ⟨by decide, by decide⟩ rfl rfl (bdg hB) (hpT sp tk sv mf (upd mo v4.toNatClampNeg (tp.1 (0 : Int32).toNatClampNeg)) mn ma tp nTk nSv tf zI zI zI r105 nTk nSv tf zI zI zI) rfl ?_
        refine m_run M (is := [(75, .iinc 4 1, 1), (78, .goto (-28), 0)]) (pc' := 50) (L' := [some (.ref 0), none, some (.int v2), some (.ref 26), some (.int (v4 + 1))]) (st' := []) (w' := ((cM 0 sp tk sv mf (upd mo v4.toNatClampNeg (tp.1 (0 : Int32).toNatClampNeg)) mn ma (vb kb 52) (.ref 26)) ++ (cM 26 r105 nTk nSv tf zI zI zI .null .null))) (by decide +kernel) rfl trivial ?_
        exact ih (v4 + 1) mf (upd mo v4.toNatClampNeg (tp.1 (0 : Int32).toNatClampNeg)) r105 tf _ _ hB hf
  rw [f_X4_unlike] at hf
  refine m_run M (is := [(0, .aload_n 0, 0), (1, .iload_n 1, 0)]) (pc' := 2) (L' := [some (.ref 0), some (.int a0), some (.int a1), none, none]) (st' := [.int a0, .ref 0]) (w' := ((cM 0 sp tk sv mf mo mn ma (vb kb 52) (vb tb 26)) ++ (cMo 26 tb tp tf))) (by decide +kernel) rfl trivial ?_
  obtain ⟨r1001, h_1001, hf⟩ := bnd_s hf
  refine m_cV0 M (rest := []) (w2 := ((cM 0 sp tk sv mf mo mn ma (vb kb 52) (vb tb 26)) ++ (cMo 26 tb tp tf))) (st2 := [.int r1001]) (run_X4_isLaw a0   sp tk sv mf mo mn ma (vb kb 26) (vb tb 27) h_1001) cv_X4_isLaw lk_X4_96 (by decide +kernel) (rhS 52 26) (by decide) ⟨Nat.le_of_ble_eq_true rfl, Nat.le_of_ble_eq_true rfl⟩ (hwS (rvk kb) (rvt tb) (len_Mo _ _ _ _) sp tk sv mf mo mn ma) rfl rfl (Nat.le_of_ble_eq_true rfl) ⟨by decide, by decide⟩ rfl rfl (bdg hB) (hpS (rvk kb) (rvt tb) (len_Mo _ _ _ _) sp tk sv mf mo mn ma sp tk sv mf mo mn ma) rfl ?_
  rcases ite_s hf with ⟨c_1002, hf⟩ | ⟨c_1002, hf⟩
  · refine m_jT M (i := .ifCond .eq 11) 16 (by decide +kernel) rfl (by decide) c_1002 ?_
    refine m_run M (is := [(16, .aload_n 0, 0), (17, .bipush (-2), -2)]) (pc' := 19) (L' := [some (.ref 0), some (.int a0), some (.int a1), none, none]) (st' := [.int (-2), .ref 0]) (w' := ((cM 0 sp tk sv mf mo mn ma (vb kb 52) (vb tb 26)) ++ (cMo 26 tb tp tf))) (by decide +kernel) rfl trivial ?_
    obtain ⟨r1003, h_1003, hf⟩ := bnd_s hf
    refine m_cV0 M (rest := []) (w2 := ((cM 0 sp tk sv r1003.2 mo mn ma (vb kb 52) (vb tb 26)) ++ (cMo 26 tb tp tf))) (st2 := [.int r1003.1]) (run_X4_refuse (-2)   sp tk sv mf mo mn ma (vb kb 26) (vb tb 27) h_1003) cv_X4_refuse lk_X4_85 (by decide +kernel) (rhS 52 26) (by decide) ⟨Nat.le_of_ble_eq_true rfl, Nat.le_of_ble_eq_true rfl⟩ (hwS (rvk kb) (rvt tb) (len_Mo _ _ _ _) sp tk sv mf mo mn ma) rfl rfl (Nat.le_of_ble_eq_true rfl) ⟨by decide, by decide⟩ rfl rfl (bdg hB) (hpS (rvk kb) (rvt tb) (len_Mo _ _ _ _) sp tk sv mf mo mn ma sp tk sv r1003.2 mo mn ma) rfl ?_
    obtain rfl := Option.some.inj hf
    exact m_iret K (by decide +kernel) (bdg hB).1 (bdg hB).2 ⟨rfl, rfl⟩
  · refine m_jF M (i := .ifCond .eq 11) 16 (by decide +kernel) rfl (by decide) c_1002 ?_
    refine m_run M (is := [(8, .aload_n 0, 0), (9, .iload_n 2, 0)]) (pc' := 10) (L' := [some (.ref 0), some (.int a0), some (.int a1), none, none]) (st' := [.int a1, .ref 0]) (w' := ((cM 0 sp tk sv mf mo mn ma (vb kb 52) (vb tb 26)) ++ (cMo 26 tb tp tf))) (by decide +kernel) rfl trivial ?_
    obtain ⟨r1004, h_1004, hf⟩ := bnd_s hf
    refine m_cV0 M (rest := []) (w2 := ((cM 0 sp tk sv mf mo mn ma (vb kb 52) (vb tb 26)) ++ (cMo 26 tb tp tf))) (st2 := [.int r1004]) (run_X4_isLaw a1   sp tk sv mf mo mn ma (vb kb 26) (vb tb 27) h_1004) cv_X4_isLaw lk_X4_96 (by decide +kernel) (rhS 52 26) (by decide) ⟨Nat.le_of_ble_eq_true rfl, Nat.le_of_ble_eq_true rfl⟩ (hwS (rvk kb) (rvt tb) (len_Mo _ _ _ _) sp tk sv mf mo mn ma) rfl rfl (Nat.le_of_ble_eq_true rfl) ⟨by decide, by decide⟩ rfl rfl (bdg hB) (hpS (rvk kb) (rvt tb) (len_Mo _ _ _ _) sp tk sv mf mo mn ma sp tk sv mf mo mn ma) rfl ?_
    rcases ite_s hf with ⟨c_1005, hf⟩ | ⟨c_1005, hf⟩
    · refine m_jF M (i := .ifCond .ne 10) 23 (by decide +kernel) rfl (by decide) (fun n => n c_1005) ?_
      refine m_run M (is := [(16, .aload_n 0, 0), (17, .bipush (-2), -2)]) (pc' := 19) (L' := [some (.ref 0), some (.int a0), some (.int a1), none, none]) (st' := [.int (-2), .ref 0]) (w' := ((cM 0 sp tk sv mf mo mn ma (vb kb 52) (vb tb 26)) ++ (cMo 26 tb tp tf))) (by decide +kernel) rfl trivial ?_
      obtain ⟨r1006, h_1006, hf⟩ := bnd_s hf
      refine m_cV0 M (rest := []) (w2 := ((cM 0 sp tk sv r1006.2 mo mn ma (vb kb 52) (vb tb 26)) ++ (cMo 26 tb tp tf))) (st2 := [.int r1006.1]) (run_X4_refuse (-2)   sp tk sv mf mo mn ma (vb kb 26) (vb tb 27) h_1006) cv_X4_refuse lk_X4_85 (by decide +kernel) (rhS 52 26) (by decide) ⟨Nat.le_of_ble_eq_true rfl, Nat.le_of_ble_eq_true rfl⟩ (hwS (rvk kb) (rvt tb) (len_Mo _ _ _ _) sp tk sv mf mo mn ma) rfl rfl (Nat.le_of_ble_eq_true rfl) ⟨by decide, by decide⟩ rfl rfl (bdg hB) (hpS (rvk kb) (rvt tb) (len_Mo _ _ _ _) sp tk sv mf mo mn ma sp tk sv r1006.2 mo mn ma) rfl ?_
      obtain rfl := Option.some.inj hf
      exact m_iret K (by decide +kernel) (bdg hB).1 (bdg hB).2 ⟨rfl, rfl⟩
    · refine m_jT M (i := .ifCond .ne 10) 23 (by decide +kernel) rfl (by decide) c_1005 ?_
      refine m_run M (is := [(23, .aload_n 0, 0), (24, .getfield 69, 0)]) (pc' := 27) (L' := [some (.ref 0), some (.int a0), some (.int a1), none, none]) (st' := [.int sp.2.2.2.2.2.1]) (w' := ((cM 0 sp tk sv mf mo mn ma (vb kb 52) (vb tb 26)) ++ (cMo 26 tb tp tf))) (by decide +kernel) rfl trivial ?_
      rcases ite_s hf with ⟨c_1007, hf⟩ | ⟨c_1007, hf⟩
      · refine m_jF M (i := .ifCond .ne 10) 37 (by decide +kernel) rfl (by decide) (fun n => n c_1007) ?_
        refine m_run M (is := [(30, .aload_n 0, 0), (31, .bipush (-5), -5)]) (pc' := 33) (L' := [some (.ref 0), some (.int a0), some (.int a1), none, none]) (st' := [.int (-5), .ref 0]) (w' := ((cM 0 sp tk sv mf mo mn ma (vb kb 52) (vb tb 26)) ++ (cMo 26 tb tp tf))) (by decide +kernel) rfl trivial ?_
        obtain ⟨r1008, h_1008, hf⟩ := bnd_s hf
        refine m_cV0 M (rest := []) (w2 := ((cM 0 sp tk sv r1008.2 mo mn ma (vb kb 52) (vb tb 26)) ++ (cMo 26 tb tp tf))) (st2 := [.int r1008.1]) (run_X4_refuse (-5)   sp tk sv mf mo mn ma (vb kb 26) (vb tb 27) h_1008) cv_X4_refuse lk_X4_85 (by decide +kernel) (rhS 52 26) (by decide) ⟨Nat.le_of_ble_eq_true rfl, Nat.le_of_ble_eq_true rfl⟩ (hwS (rvk kb) (rvt tb) (len_Mo _ _ _ _) sp tk sv mf mo mn ma) rfl rfl (Nat.le_of_ble_eq_true rfl) ⟨by decide, by decide⟩ rfl rfl (bdg hB) (hpS (rvk kb) (rvt tb) (len_Mo _ _ _ _) sp tk sv mf mo mn ma sp tk sv r1008.2 mo mn ma) rfl ?_
        obtain rfl := Option.some.inj hf
        exact m_iret K (by decide +kernel) (bdg hB).1 (bdg hB).2 ⟨rfl, rfl⟩
      · refine m_jT M (i := .ifCond .ne 10) 37 (by decide +kernel) rfl (by decide) c_1007 ?_
        refine m_run M (is := [(37, .aload_n 0, 0)]) (pc' := 38) (L' := [some (.ref 0), some (.int a0), some (.int a1), none, none]) (st' := [.ref 0]) (w' := ((cM 0 sp tk sv mf mo mn ma (vb kb 52) (vb tb 26)) ++ (cMo 26 tb tp tf))) (by decide +kernel) rfl trivial ?_
        obtain ⟨r1009, h_1009, hf⟩ := bnd_s hf
        refine m_cT M (rest := []) (w2 := ((cM 0 sp tk sv mf mo mn ma (vb kb 52) (.ref 26)) ++ (cM 26 r1009.1 nTk nSv r1009.2 zI zI zI .null .null))) (st2 := [.ref 26]) (run_X4_fresh    sp tk sv mf mo mn ma kb tb tp tf h_1009) cv_X4_fresh lk_X4_234 (by decide +kernel) (List.range 53) List.nodup_range ⟨(by rw [List.length_range]; exact (by rw [len_T]; decide)), (by rw [List.length_range]; decide)⟩ (hwId2 (by rw [len_T]; decide)) rfl rfl (Nat.le_of_ble_eq_true rfl) ⟨by decide, by decide⟩ (pot_T _ _ _ _ _ _ _ _ _ _ _ _ _ _) hB (nrT (x := tb) (p := tp) (f := tf) sp tk sv mf mo mn ma (vb kb 52) (vb tb 26) okR_w okR_v) rfl (hpId2 (by rw [len_T]; decide) (by rw [len_T]; rfl)) rfl (fun bc bs hB => ?_)
        refine m_run M (is := [(41, .astore_n 3, 0), (42, .aload_n 3, 0), (43, .iload_n 1, 0), (44, .putfield 123, 0), (47, .iconst 0, 0), (48, .istore 4, 0)]) (pc' := 50) (L' := [some (.ref 0), some (.int a0), some (.int a1), some (.ref 26), some (.int 0)]) (st' := []) (w' := ((cM 0 sp tk sv mf mo mn ma (vb kb 52) (.ref 26)) ++ (cM 26 (r1009.1.1, r1009.1.2.1, r1009.1.2.2.1, r1009.1.2.2.2.1, r1009.1.2.2.2.2.1, r1009.1.2.2.2.2.2.1, r1009.1.2.2.2.2.2.2.1, a0, r1009.1.2.2.2.2.2.2.2.2.1, r1009.1.2.2.2.2.2.2.2.2.2) nTk nSv r1009.2 zI zI zI .null .null))) (by decide +kernel) rfl trivial ?_
        refine m_wk M [some (.ref 0), none, some (.int a1), some (.ref 26), some (.int 0)] ⟨Or.inr rfl, Or.inl rfl, Or.inr rfl, Or.inr rfl, Or.inr rfl, trivial⟩ ?_
        exact loop_0 a1 true fuel0 0 mf mo (r1009.1.1, r1009.1.2.1, r1009.1.2.2.1, r1009.1.2.2.2.1, r1009.1.2.2.2.2.1, r1009.1.2.2.2.2.2.1, r1009.1.2.2.2.2.2.2.1, a0, r1009.1.2.2.2.2.2.2.2.2.1, r1009.1.2.2.2.2.2.2.2.2.2) r1009.2 _ _ hB hf

def f_X4_lawFor_L0 (v1 : Int32) (v2 : Int32) (sp : ShT) : Nat → Int32 → Int32 → Int32 → AI → Bool → ShT → AI → Option (Int32 × AI × Bool × ShT × AI)
  | 0, _, _, _, _, _, _, _ => none
  | n_ + 1, v3, v4, v5, mf, tb, tp, tf =>
    if sp.2.2.2.2.2.2.1 ≤ v5 then
      some (v3, mf, tb, tp, tf)
    else
      (f_X4_fresh sp tb tp tf).bind fun r102 =>
      (f_X4_goes v2 (r102.1.1, r102.1.2.1, r102.1.2.2.1, r102.1.2.2.2.1, r102.1.2.2.2.2.1, r102.1.2.2.2.2.2.1, r102.1.2.2.2.2.2.2.1, v5, r102.1.2.2.2.2.2.2.2.2.1, r102.1.2.2.2.2.2.2.2.2.2)).bind fun r103 =>
      if inB v1 16 then
      if (r103.2.1 v1.toNatClampNeg) ≤ v4 then
        if inB v1 16 then
        if (r103.2.1 v1.toNatClampNeg) ≤ v4 then
          f_X4_lawFor_L0 v1 v2 sp n_ v3 v4 (v5 + 1) mf true r103 r102.2
        else
          if inB v1 16 then
          f_X4_lawFor_L0 v1 v2 sp n_ v3 (r103.2.1 v1.toNatClampNeg) (v5 + 1) mf true r103 r102.2
          else none
        else none
      else
        if inB v1 16 then
        if (r103.2.1 v1.toNatClampNeg) ≤ v4 then
          f_X4_lawFor_L0 v1 v2 sp n_ v5 v4 (v5 + 1) mf true r103 r102.2
        else
          if inB v1 16 then
          f_X4_lawFor_L0 v1 v2 sp n_ v5 (r103.2.1 v1.toNatClampNeg) (v5 + 1) mf true r103 r102.2
          else none
        else none
      else none
def f_X4_lawFor (a0 : Int32) (a1 : Int32) (sp : ShT) (mf : AI) (tb : Bool) (tp : ShT) (tf : AI) : Option (Int32 × AI × Bool × ShT × AI) :=
  (f_X4_isPerson ((a0).toInt64) sp).bind fun r1001 =>
  if r1001 = 0 then
    (f_X4_refuse (-2) mf).bind fun r1003 =>
    some (r1003.1, r1003.2, tb, tp, tf)
  else
    (f_X4_mayTurns a1).bind fun r1004 =>
    if r1004 = 0 then
      (f_X4_refuse (-2) mf).bind fun r1006 =>
      some (r1006.1, r1006.2, tb, tp, tf)
    else
      if sp.2.2.2.2.2.2.1 = 0 then
        (f_X4_refuse (-5) mf).bind fun r1008 =>
        some (r1008.1, r1008.2, tb, tp, tf)
      else
        f_X4_lawFor_L0 a0 a1 sp fuel0 0 (-1) 0 mf tb tp tf
set_option maxRecDepth 100000 in
set_option maxHeartbeats 4000000 in
theorem run_X4_lawFor {l : Launch} {D : va_G} {cT : Nat → ClassId} (a0 : Int32) (a1 : Int32)   (sp : ShT) (tk : TkT) (sv : SvT) (mf : AI) (mo : AI) (mn : AI) (ma : AI) (kb : Bool) (tb : Bool) (tp : ShT) (tf : AI) {r : Int32 × AI × Bool × ShT × AI} (hf : f_X4_lawFor a0 a1 sp mf tb tp tf = some r) : Runs l D cT yX4_lawFor cX4_lawFor 7 (some .int) 3 70 [.ref 0, .int a0, .int a1] ((cM 0 sp tk sv mf mo mn ma (vb kb 52) (vb tb 26)) ++ (cMo 26 tb tp tf)) (EQ (some (.int r.1)) ((cM 0 sp tk sv r.2.1 mo mn ma (vb kb 52) (vb r.2.2.1 26)) ++ (cMo 26 r.2.2.1 r.2.2.2.1 r.2.2.2.2))) := by
  refine runs_ofT O_X4 okO_X4 (by decide +kernel) rfl rfl (Nat.le_of_ble_eq_true rfl) (by rw [len_T]; decide) (pot_T _ _ _ _ _ _ _ _ _ _ _ _ _ _) (fun g Rc Rs hB K => ?_)
  have M := K.b
  show g 0 0 ((cM 0 sp tk sv mf mo mn ma (vb kb 52) (vb tb 26)) ++ (cMo 26 tb tp tf)) 0 [some (.ref 0), some (.int a0), some (.int a1), none, none, none, none] []
  have loop_0 : ∀ (v1 : Int32) (v2 : Int32) (n_ : Nat), (∀ (v3 : Int32) (v4 : Int32) (v5 : Int32) (mf : AI) (tb : Bool) (tp : ShT) (tf : AI) (bc bs : Nat), bc + potM tb ≤ Rc ∧ bs + potN tb ≤ Rs → f_X4_lawFor_L0 v1 v2 sp n_ v3 v4 v5 mf tb tp tf = some r → g bc bs ((cM 0 sp tk sv mf mo mn ma (vb kb 52) (vb tb 26)) ++ (cMo 26 tb tp tf)) 45 [some (.ref 0), some (.int v1), some (.int v2), some (.int v3), some (.int v4), some (.int v5), none] []) := by
    intro v1 v2 n_
    induction n_ with
    | zero => intro v3 v4 v5 mf tb tp tf bc bs hB hf; cases hf
    | succ n_ ih =>
      intro v3 v4 v5 mf tb tp tf bc bs hB hf
      rw [f_X4_lawFor_L0] at hf
      refine m_run M (is := [(45, .iload 5, 0), (47, .aload_n 0, 0), (48, .getfield 76, 0)]) (pc' := 51) (L' := [some (.ref 0), some (.int v1), some (.int v2), some (.int v3), some (.int v4), some (.int v5), none]) (st' := [.int sp.2.2.2.2.2.2.1, .int v5]) (w' := ((cM 0 sp tk sv mf mo mn ma (vb kb 52) (vb tb 26)) ++ (cMo 26 tb tp tf))) (by decide +kernel) rfl trivial ?_
      rcases ite_s hf with ⟨c_101, hf⟩ | ⟨c_101, hf⟩
      · refine m_jT M (i := .if_icmp .ge 73) 124 (by decide +kernel) rfl (by decide) c_101 ?_
        refine m_run M (is := [(124, .iload_n 3, 0)]) (pc' := 125) (L' := [some (.ref 0), some (.int v1), some (.int v2), some (.int v3), some (.int v4), some (.int v5), none]) (st' := [.int v3]) (w' := ((cM 0 sp tk sv mf mo mn ma (vb kb 52) (vb tb 26)) ++ (cMo 26 tb tp tf))) (by decide +kernel) rfl trivial ?_
        obtain rfl := Option.some.inj hf
        exact m_iret K (by decide +kernel) (bdg hB).1 (bdg hB).2 ⟨rfl, rfl⟩
      · refine m_jF M (i := .if_icmp .ge 73) 124 (by decide +kernel) rfl (by decide) c_101 ?_
        refine m_run M (is := [(54, .aload_n 0, 0)]) (pc' := 55) (L' := [some (.ref 0), some (.int v1), some (.int v2), some (.int v3), some (.int v4), some (.int v5), none]) (st' := [.ref 0]) (w' := ((cM 0 sp tk sv mf mo mn ma (vb kb 52) (vb tb 26)) ++ (cMo 26 tb tp tf))) (by decide +kernel) rfl trivial ?_
        obtain ⟨r102, h_102, hf⟩ := bnd_s hf
        refine m_cT M (rest := []) (w2 := ((cM 0 sp tk sv mf mo mn ma (vb kb 52) (.ref 26)) ++ (cM 26 r102.1 nTk nSv r102.2 zI zI zI .null .null))) (st2 := [.ref 26]) (run_X4_fresh    sp tk sv mf mo mn ma kb tb tp tf h_102) cv_X4_fresh lk_X4_234 (by decide +kernel) (List.range 53) List.nodup_range ⟨(by rw [List.length_range]; exact (by rw [len_T]; decide)), (by rw [List.length_range]; decide)⟩ (hwId2 (by rw [len_T]; decide)) rfl rfl (Nat.le_of_ble_eq_true rfl) ⟨by decide, by decide⟩ (pot_T _ _ _ _ _ _ _ _ _ _ _ _ _ _) hB (nrT (x := tb) (p := tp) (f := tf) sp tk sv mf mo mn ma (vb kb 52) (vb tb 26) okR_w okR_v) rfl (hpId2 (by rw [len_T]; decide) (by rw [len_T]; rfl)) rfl (fun bc bs hB => ?_)
        refine m_run M (is := [(58, .astore 6, 0), (60, .aload 6, 0), (62, .iload 5, 0), (64, .putfield 123, 0), (67, .aload 6, 0), (69, .iload_n 2, 0)]) (pc' := 70) (L' := [some (.ref 0), some (.int v1), some (.int v2), some (.int v3), some (.int v4), some (.int v5), some (.ref 26)]) (st' := [.int v2, .ref 26]) (w' := ((cM 0 sp tk sv mf mo mn ma (vb kb 52) (.ref 26)) ++ (cM 26 (r102.1.1, r102.1.2.1, r102.1.2.2.1, r102.1.2.2.2.1, r102.1.2.2.2.2.1, r102.1.2.2.2.2.2.1, r102.1.2.2.2.2.2.2.1, v5, r102.1.2.2.2.2.2.2.2.2.1, r102.1.2.2.2.2.2.2.2.2.2) nTk nSv r102.2 zI zI zI .null .null))) (by decide +kernel) rfl trivial ?_
        obtain ⟨r103, h_103, hf⟩ := bnd_s hf
        refine m_cV0 M (rest := []) (w2 := ((cM 0 sp tk sv mf mo mn ma (vb kb 52) (.ref 26)) ++ (cM 26 r103 nTk nSv r102.2 zI zI zI .null .null))) (st2 := []) (run_X4_goes v2   (r102.1.1, r102.1.2.1, r102.1.2.2.1, r102.1.2.2.2.1, r102.1.2.2.2.2.1, r102.1.2.2.2.2.2.1, r102.1.2.2.2.2.2.2.1, v5, r102.1.2.2.2.2.2.2.2.2.1, r102.1.2.2.2.2.2.2.2.2.2) nTk nSv r102.2 zI zI zI .null .null h_103) cv_X4_goes lk_X4_187 (by decide +kernel) rhT (by decide) ⟨Nat.le_of_ble_eq_true rfl, Nat.le_of_ble_eq_true rfl⟩ (hwT sp tk sv mf mo mn ma (r102.1.1, r102.1.2.1, r102.1.2.2.1, r102.1.2.2.2.1, r102.1.2.2.2.2.1, r102.1.2.2.2.2.2.1, r102.1.2.2.2.2.2.2.1, v5, r102.1.2.2.2.2.2.2.2.2.1, r102.1.2.2.2.2.2.2.2.2.2) nTk nSv r102.2 zI zI zI) rfl rfl (Nat.le_of_ble_eq_true rfl) ⟨by decide, by decide⟩ rfl rfl (bdg hB) (hpT sp tk sv mf mo mn ma (r102.1.1, r102.1.2.1, r102.1.2.2.1, r102.1.2.2.2.1, r102.1.2.2.2.2.1, r102.1.2.2.2.2.2.1, r102.1.2.2.2.2.2.2.1, v5, r102.1.2.2.2.2.2.2.2.2.1, r102.1.2.2.2.2.2.2.2.2.2) nTk nSv r102.2 zI zI zI r103 nTk nSv r102.2 zI zI zI) rfl ?_
        obtain ⟨h_104, hf⟩ := grd_s hf
        refine m_run M (is := [(73, .aload 6, 0), (75, .getfield 40, 0), (78, .iload_n 1, 0), (79, .iaload, 0), (80, .iload 4, 0)]) (pc' := 82) (L' := [some (.ref 0), some (.int v1), some (.int v2), some (.int v3), some (.int v4), some (.int v5), some (.ref 26)]) (st' := [.int v4, .int (r103.2.1 v1.toNatClampNeg)]) (w' := ((cM 0 sp tk sv mf mo mn ma (vb kb 52) (.ref 26)) ++ (cM 26 r103 nTk nSv r102.2 zI zI zI .null .null))) (by decide +kernel) rfl ⟨inB_use h_104, trivial⟩ ?_
        rcases ite_s hf with ⟨c_105, hf⟩ | ⟨c_105, hf⟩
        · refine m_jT M (i := .if_icmp .le 8) 90 (by decide +kernel) rfl (by decide) c_105 ?_
          obtain ⟨h_106, hf⟩ := grd_s hf
          refine m_run M (is := [(90, .iload_n 3, 0), (91, .istore_n 3, 0), (92, .aload 6, 0), (94, .getfield 40, 0), (97, .iload_n 1, 0), (98, .iaload, 0), (99, .iload 4, 0)]) (pc' := 101) (L' := [some (.ref 0), some (.int v1), some (.int v2), some (.int v3), some (.int v4), some (.int v5), some (.ref 26)]) (st' := [.int v4, .int (r103.2.1 v1.toNatClampNeg)]) (w' := ((cM 0 sp tk sv mf mo mn ma (vb kb 52) (.ref 26)) ++ (cM 26 r103 nTk nSv r102.2 zI zI zI .null .null))) (by decide +kernel) rfl ⟨inB_use h_106, trivial⟩ ?_
          rcases ite_s hf with ⟨c_107, hf⟩ | ⟨c_107, hf⟩
          · refine m_jT M (i := .if_icmp .le 13) 114 (by decide +kernel) rfl (by decide) c_107 ?_
            refine m_run M (is := [(114, .iload 4, 0), (116, .istore 4, 0), (118, .iinc 5 1, 1), (121, .goto (-76), 0)]) (pc' := 45) (L' := [some (.ref 0), some (.int v1), some (.int v2), some (.int v3), some (.int v4), some (.int (v5 + 1)), some (.ref 26)]) (st' := []) (w' := ((cM 0 sp tk sv mf mo mn ma (vb kb 52) (.ref 26)) ++ (cM 26 r103 nTk nSv r102.2 zI zI zI .null .null))) (by decide +kernel) rfl trivial ?_
            refine m_wk M [some (.ref 0), some (.int v1), some (.int v2), some (.int v3), some (.int v4), some (.int (v5 + 1)), none] ⟨Or.inr rfl, Or.inr rfl, Or.inr rfl, Or.inr rfl, Or.inr rfl, Or.inr rfl, Or.inl rfl, trivial⟩ ?_
            exact ih v3 v4 (v5 + 1) mf true r103 r102.2 _ _ hB hf
          · refine m_jF M (i := .if_icmp .le 13) 114 (by decide +kernel) rfl (by decide) c_107 ?_
            obtain ⟨h_108, hf⟩ := grd_s hf
            refine m_run M (is := [(104, .aload 6, 0), (106, .getfield 40, 0), (109, .iload_n 1, 0), (110, .iaload, 0), (111, .goto 5, 0), (116, .istore 4, 0), (118, .iinc 5 1, 1), (121, .goto (-76), 0)]) (pc' := 45) (L' := [some (.ref 0), some (.int v1), some (.int v2), some (.int v3), some (.int (r103.2.1 v1.toNatClampNeg)), some (.int (v5 + 1)), some (.ref 26)]) (st' := []) (w' := ((cM 0 sp tk sv mf mo mn ma (vb kb 52) (.ref 26)) ++ (cM 26 r103 nTk nSv r102.2 zI zI zI .null .null))) (by decide +kernel) rfl ⟨inB_use h_108, trivial⟩ ?_
            refine m_wk M [some (.ref 0), some (.int v1), some (.int v2), some (.int v3), some (.int (r103.2.1 v1.toNatClampNeg)), some (.int (v5 + 1)), none] ⟨Or.inr rfl, Or.inr rfl, Or.inr rfl, Or.inr rfl, Or.inr rfl, Or.inr rfl, Or.inl rfl, trivial⟩ ?_
            exact ih v3 (r103.2.1 v1.toNatClampNeg) (v5 + 1) mf true r103 r102.2 _ _ hB hf
        · refine m_jF M (i := .if_icmp .le 8) 90 (by decide +kernel) rfl (by decide) c_105 ?_
          obtain ⟨h_109, hf⟩ := grd_s hf
          refine m_run M (is := [(85, .iload 5, 0), (87, .goto 4, 0), (91, .istore_n 3, 0), (92, .aload 6, 0), (94, .getfield 40, 0), (97, .iload_n 1, 0), (98, .iaload, 0), (99, .iload 4, 0)]) (pc' := 101) (L' := [some (.ref 0), some (.int v1), some (.int v2), some (.int v5), some (.int v4), some (.int v5), some (.ref 26)]) (st' := [.int v4, .int (r103.2.1 v1.toNatClampNeg)]) (w' := ((cM 0 sp tk sv mf mo mn ma (vb kb 52) (.ref 26)) ++ (cM 26 r103 nTk nSv r102.2 zI zI zI .null .null))) (by decide +kernel) rfl ⟨inB_use h_109, trivial⟩ ?_
          rcases ite_s hf with ⟨c_110, hf⟩ | ⟨c_110, hf⟩
          · refine m_jT M (i := .if_icmp .le 13) 114 (by decide +kernel) rfl (by decide) c_110 ?_
            refine m_run M (is := [(114, .iload 4, 0), (116, .istore 4, 0), (118, .iinc 5 1, 1), (121, .goto (-76), 0)]) (pc' := 45) (L' := [some (.ref 0), some (.int v1), some (.int v2), some (.int v5), some (.int v4), some (.int (v5 + 1)), some (.ref 26)]) (st' := []) (w' := ((cM 0 sp tk sv mf mo mn ma (vb kb 52) (.ref 26)) ++ (cM 26 r103 nTk nSv r102.2 zI zI zI .null .null))) (by decide +kernel) rfl trivial ?_
            refine m_wk M [some (.ref 0), some (.int v1), some (.int v2), some (.int v5), some (.int v4), some (.int (v5 + 1)), none] ⟨Or.inr rfl, Or.inr rfl, Or.inr rfl, Or.inr rfl, Or.inr rfl, Or.inr rfl, Or.inl rfl, trivial⟩ ?_
            exact ih v5 v4 (v5 + 1) mf true r103 r102.2 _ _ hB hf
          · refine m_jF M (i := .if_icmp .le 13) 114 (by decide +kernel) rfl (by decide) c_110 ?_
            obtain ⟨h_111, hf⟩ := grd_s hf
            refine m_run M (is := [(104, .aload 6, 0), (106, .getfield 40, 0), (109, .iload_n 1, 0), (110, .iaload, 0), (111, .goto 5, 0), (116, .istore 4, 0), (118, .iinc 5 1, 1), (121, .goto (-76), 0)]) (pc' := 45) (L' := [some (.ref 0), some (.int v1), some (.int v2), some (.int v5), some (.int (r103.2.1 v1.toNatClampNeg)), some (.int (v5 + 1)), some (.ref 26)]) (st' := []) (w' := ((cM 0 sp tk sv mf mo mn ma (vb kb 52) (.ref 26)) ++ (cM 26 r103 nTk nSv r102.2 zI zI zI .null .null))) (by decide +kernel) rfl ⟨inB_use h_111, trivial⟩ ?_
            refine m_wk M [some (.ref 0), some (.int v1), some (.int v2), some (.int v5), some (.int (r103.2.1 v1.toNatClampNeg)), some (.int (v5 + 1)), none] ⟨Or.inr rfl, Or.inr rfl, Or.inr rfl, Or.inr rfl, Or.inr rfl, Or.inr rfl, Or.inl rfl, trivial⟩ ?_
            exact ih v5 (r103.2.1 v1.toNatClampNeg) (v5 + 1) mf true r103 r102.2 _ _ hB hf
  rw [f_X4_lawFor] at hf
  refine m_run M (is := [(0, .aload_n 0, 0), (1, .iload_n 1, 0), (2, .i2l, 0)]) (pc' := 3) (L' := [some (.ref 0), some (.int a0), some (.int a1), none, none, none, none]) (st' := [.long ((a0).toInt64), .ref 0]) (w' := ((cM 0 sp tk sv mf mo mn ma (vb kb 52) (vb tb 26)) ++ (cMo 26 tb tp tf))) (by decide +kernel) rfl trivial ?_
  obtain ⟨r1001, h_1001, hf⟩ := bnd_s hf
  refine m_cV0 M (rest := []) (w2 := ((cM 0 sp tk sv mf mo mn ma (vb kb 52) (vb tb 26)) ++ (cMo 26 tb tp tf))) (st2 := [.int r1001]) (run_X4_isPerson ((a0).toInt64)   sp tk sv mf mo mn ma (vb kb 26) (vb tb 27) h_1001) cv_X4_isPerson lk_X4_130 (by decide +kernel) (rhS 52 26) (by decide) ⟨Nat.le_of_ble_eq_true rfl, Nat.le_of_ble_eq_true rfl⟩ (hwS (rvk kb) (rvt tb) (len_Mo _ _ _ _) sp tk sv mf mo mn ma) rfl rfl (Nat.le_of_ble_eq_true rfl) ⟨by decide, by decide⟩ rfl rfl (bdg hB) (hpS (rvk kb) (rvt tb) (len_Mo _ _ _ _) sp tk sv mf mo mn ma sp tk sv mf mo mn ma) rfl ?_
  rcases ite_s hf with ⟨c_1002, hf⟩ | ⟨c_1002, hf⟩
  · refine m_jT M (i := .ifCond .eq 10) 16 (by decide +kernel) rfl (by decide) c_1002 ?_
    refine m_run M (is := [(16, .aload_n 0, 0), (17, .bipush (-2), -2)]) (pc' := 19) (L' := [some (.ref 0), some (.int a0), some (.int a1), none, none, none, none]) (st' := [.int (-2), .ref 0]) (w' := ((cM 0 sp tk sv mf mo mn ma (vb kb 52) (vb tb 26)) ++ (cMo 26 tb tp tf))) (by decide +kernel) rfl trivial ?_
    obtain ⟨r1003, h_1003, hf⟩ := bnd_s hf
    refine m_cV0 M (rest := []) (w2 := ((cM 0 sp tk sv r1003.2 mo mn ma (vb kb 52) (vb tb 26)) ++ (cMo 26 tb tp tf))) (st2 := [.int r1003.1]) (run_X4_refuse (-2)   sp tk sv mf mo mn ma (vb kb 26) (vb tb 27) h_1003) cv_X4_refuse lk_X4_85 (by decide +kernel) (rhS 52 26) (by decide) ⟨Nat.le_of_ble_eq_true rfl, Nat.le_of_ble_eq_true rfl⟩ (hwS (rvk kb) (rvt tb) (len_Mo _ _ _ _) sp tk sv mf mo mn ma) rfl rfl (Nat.le_of_ble_eq_true rfl) ⟨by decide, by decide⟩ rfl rfl (bdg hB) (hpS (rvk kb) (rvt tb) (len_Mo _ _ _ _) sp tk sv mf mo mn ma sp tk sv r1003.2 mo mn ma) rfl ?_
    obtain rfl := Option.some.inj hf
    exact m_iret K (by decide +kernel) (bdg hB).1 (bdg hB).2 ⟨rfl, rfl⟩
  · refine m_jF M (i := .ifCond .eq 10) 16 (by decide +kernel) rfl (by decide) c_1002 ?_
    refine m_run M (is := [(9, .iload_n 2, 0)]) (pc' := 10) (L' := [some (.ref 0), some (.int a0), some (.int a1), none, none, none, none]) (st' := [.int a1]) (w' := ((cM 0 sp tk sv mf mo mn ma (vb kb 52) (vb tb 26)) ++ (cMo 26 tb tp tf))) (by decide +kernel) rfl trivial ?_
    obtain ⟨r1004, h_1004, hf⟩ := bnd_s hf
    refine m_cS0 M (rest := []) (w2 := ((cM 0 sp tk sv mf mo mn ma (vb kb 52) (vb tb 26)) ++ (cMo 26 tb tp tf))) (st2 := [.int r1004]) (run_X4_mayTurns a1    h_1004) cs_X4_mayTurns lk_X4_255 (by decide +kernel) [] (by decide) ⟨Nat.le_of_ble_eq_true rfl, Nat.le_of_ble_eq_true rfl⟩ rfl rfl (Nat.le_of_ble_eq_true rfl) ⟨by decide, by decide⟩ rfl rfl (bdg hB) rfl rfl ?_
    rcases ite_s hf with ⟨c_1005, hf⟩ | ⟨c_1005, hf⟩
    · refine m_jF M (i := .ifCond .ne 10) 23 (by decide +kernel) rfl (by decide) (fun n => n c_1005) ?_
      refine m_run M (is := [(16, .aload_n 0, 0), (17, .bipush (-2), -2)]) (pc' := 19) (L' := [some (.ref 0), some (.int a0), some (.int a1), none, none, none, none]) (st' := [.int (-2), .ref 0]) (w' := ((cM 0 sp tk sv mf mo mn ma (vb kb 52) (vb tb 26)) ++ (cMo 26 tb tp tf))) (by decide +kernel) rfl trivial ?_
      obtain ⟨r1006, h_1006, hf⟩ := bnd_s hf
      refine m_cV0 M (rest := []) (w2 := ((cM 0 sp tk sv r1006.2 mo mn ma (vb kb 52) (vb tb 26)) ++ (cMo 26 tb tp tf))) (st2 := [.int r1006.1]) (run_X4_refuse (-2)   sp tk sv mf mo mn ma (vb kb 26) (vb tb 27) h_1006) cv_X4_refuse lk_X4_85 (by decide +kernel) (rhS 52 26) (by decide) ⟨Nat.le_of_ble_eq_true rfl, Nat.le_of_ble_eq_true rfl⟩ (hwS (rvk kb) (rvt tb) (len_Mo _ _ _ _) sp tk sv mf mo mn ma) rfl rfl (Nat.le_of_ble_eq_true rfl) ⟨by decide, by decide⟩ rfl rfl (bdg hB) (hpS (rvk kb) (rvt tb) (len_Mo _ _ _ _) sp tk sv mf mo mn ma sp tk sv r1006.2 mo mn ma) rfl ?_
      obtain rfl := Option.some.inj hf
      exact m_iret K (by decide +kernel) (bdg hB).1 (bdg hB).2 ⟨rfl, rfl⟩
    · refine m_jT M (i := .ifCond .ne 10) 23 (by decide +kernel) rfl (by decide) c_1005 ?_
      refine m_run M (is := [(23, .aload_n 0, 0), (24, .getfield 76, 0)]) (pc' := 27) (L' := [some (.ref 0), some (.int a0), some (.int a1), none, none, none, none]) (st' := [.int sp.2.2.2.2.2.2.1]) (w' := ((cM 0 sp tk sv mf mo mn ma (vb kb 52) (vb tb 26)) ++ (cMo 26 tb tp tf))) (by decide +kernel) rfl trivial ?_
      rcases ite_s hf with ⟨c_1007, hf⟩ | ⟨c_1007, hf⟩
      · refine m_jF M (i := .ifCond .ne 10) 37 (by decide +kernel) rfl (by decide) (fun n => n c_1007) ?_
        refine m_run M (is := [(30, .aload_n 0, 0), (31, .bipush (-5), -5)]) (pc' := 33) (L' := [some (.ref 0), some (.int a0), some (.int a1), none, none, none, none]) (st' := [.int (-5), .ref 0]) (w' := ((cM 0 sp tk sv mf mo mn ma (vb kb 52) (vb tb 26)) ++ (cMo 26 tb tp tf))) (by decide +kernel) rfl trivial ?_
        obtain ⟨r1008, h_1008, hf⟩ := bnd_s hf
        refine m_cV0 M (rest := []) (w2 := ((cM 0 sp tk sv r1008.2 mo mn ma (vb kb 52) (vb tb 26)) ++ (cMo 26 tb tp tf))) (st2 := [.int r1008.1]) (run_X4_refuse (-5)   sp tk sv mf mo mn ma (vb kb 26) (vb tb 27) h_1008) cv_X4_refuse lk_X4_85 (by decide +kernel) (rhS 52 26) (by decide) ⟨Nat.le_of_ble_eq_true rfl, Nat.le_of_ble_eq_true rfl⟩ (hwS (rvk kb) (rvt tb) (len_Mo _ _ _ _) sp tk sv mf mo mn ma) rfl rfl (Nat.le_of_ble_eq_true rfl) ⟨by decide, by decide⟩ rfl rfl (bdg hB) (hpS (rvk kb) (rvt tb) (len_Mo _ _ _ _) sp tk sv mf mo mn ma sp tk sv r1008.2 mo mn ma) rfl ?_
        obtain rfl := Option.some.inj hf
        exact m_iret K (by decide +kernel) (bdg hB).1 (bdg hB).2 ⟨rfl, rfl⟩
      · refine m_jT M (i := .ifCond .ne 10) 37 (by decide +kernel) rfl (by decide) c_1007 ?_
        refine m_run M (is := [(37, .iconst 0, 0), (38, .istore_n 3, 0), (39, .iconst (-1), -1), (40, .istore 4, 0), (42, .iconst 0, 0), (43, .istore 5, 0)]) (pc' := 45) (L' := [some (.ref 0), some (.int a0), some (.int a1), some (.int 0), some (.int (-1)), some (.int 0), none]) (st' := []) (w' := ((cM 0 sp tk sv mf mo mn ma (vb kb 52) (vb tb 26)) ++ (cMo 26 tb tp tf))) (by decide +kernel) rfl trivial ?_
        exact loop_0 a0 a1 fuel0 0 (-1) 0 mf tb tp tf _ _ hB hf

def f_X4_newcomer (sp : ShT) (mf : AI) (tb : Bool) (tp : ShT) (tf : AI) : Option (Int32 × AI × Bool × ShT × AI) :=
  if sp.2.2.2.2.2.2.1 = 0 then
    (f_X4_refuse (-5) mf).bind fun r1002 =>
    some (r1002.1, r1002.2, tb, tp, tf)
  else
    if sp.2.2.2.2.2.1 = 16 then
      (f_X4_refuse (-6) mf).bind fun r1004 =>
      some (r1004.1, r1004.2, tb, tp, tf)
    else
      (f_X4_fresh sp tb tp tf).bind fun r1005 =>
      (f_X4_addPerson r1005.1).bind fun r1006 =>
      (f_X4_whenIn sp.2.2.2.2.2.1 1 999 r1006).bind fun r1007 =>
      some (r1007.1, mf, true, r1007.2, r1005.2)
set_option maxRecDepth 100000 in
set_option maxHeartbeats 4000000 in
theorem run_X4_newcomer {l : Launch} {D : va_G} {cT : Nat → ClassId}    (sp : ShT) (tk : TkT) (sv : SvT) (mf : AI) (mo : AI) (mn : AI) (ma : AI) (kb : Bool) (tb : Bool) (tp : ShT) (tf : AI) {r : Int32 × AI × Bool × ShT × AI} (hf : f_X4_newcomer sp mf tb tp tf = some r) : Runs l D cT yX4_newcomer cX4_newcomer 2 (some .int) 3 74 [.ref 0] ((cM 0 sp tk sv mf mo mn ma (vb kb 52) (vb tb 26)) ++ (cMo 26 tb tp tf)) (EQ (some (.int r.1)) ((cM 0 sp tk sv r.2.1 mo mn ma (vb kb 52) (vb r.2.2.1 26)) ++ (cMo 26 r.2.2.1 r.2.2.2.1 r.2.2.2.2))) := by
  refine runs_ofT O_X4 okO_X4 (by decide +kernel) rfl rfl (Nat.le_of_ble_eq_true rfl) (by rw [len_T]; decide) (pot_T _ _ _ _ _ _ _ _ _ _ _ _ _ _) (fun g Rc Rs hB K => ?_)
  have M := K.b
  show g 0 0 ((cM 0 sp tk sv mf mo mn ma (vb kb 52) (vb tb 26)) ++ (cMo 26 tb tp tf)) 0 [some (.ref 0), none] []
  rw [f_X4_newcomer] at hf
  refine m_run M (is := [(0, .aload_n 0, 0), (1, .getfield 76, 0)]) (pc' := 4) (L' := [some (.ref 0), none]) (st' := [.int sp.2.2.2.2.2.2.1]) (w' := ((cM 0 sp tk sv mf mo mn ma (vb kb 52) (vb tb 26)) ++ (cMo 26 tb tp tf))) (by decide +kernel) rfl trivial ?_
  rcases ite_s hf with ⟨c_1001, hf⟩ | ⟨c_1001, hf⟩
  · refine m_jF M (i := .ifCond .ne 10) 14 (by decide +kernel) rfl (by decide) (fun n => n c_1001) ?_
    refine m_run M (is := [(7, .aload_n 0, 0), (8, .bipush (-5), -5)]) (pc' := 10) (L' := [some (.ref 0), none]) (st' := [.int (-5), .ref 0]) (w' := ((cM 0 sp tk sv mf mo mn ma (vb kb 52) (vb tb 26)) ++ (cMo 26 tb tp tf))) (by decide +kernel) rfl trivial ?_
    obtain ⟨r1002, h_1002, hf⟩ := bnd_s hf
    refine m_cV0 M (rest := []) (w2 := ((cM 0 sp tk sv r1002.2 mo mn ma (vb kb 52) (vb tb 26)) ++ (cMo 26 tb tp tf))) (st2 := [.int r1002.1]) (run_X4_refuse (-5)   sp tk sv mf mo mn ma (vb kb 26) (vb tb 27) h_1002) cv_X4_refuse lk_X4_85 (by decide +kernel) (rhS 52 26) (by decide) ⟨Nat.le_of_ble_eq_true rfl, Nat.le_of_ble_eq_true rfl⟩ (hwS (rvk kb) (rvt tb) (len_Mo _ _ _ _) sp tk sv mf mo mn ma) rfl rfl (Nat.le_of_ble_eq_true rfl) ⟨by decide, by decide⟩ rfl rfl (bdg hB) (hpS (rvk kb) (rvt tb) (len_Mo _ _ _ _) sp tk sv mf mo mn ma sp tk sv r1002.2 mo mn ma) rfl ?_
    obtain rfl := Option.some.inj hf
    exact m_iret K (by decide +kernel) (bdg hB).1 (bdg hB).2 ⟨rfl, rfl⟩
  · refine m_jT M (i := .ifCond .ne 10) 14 (by decide +kernel) rfl (by decide) c_1001 ?_
    refine m_run M (is := [(14, .aload_n 0, 0), (15, .getfield 69, 0), (18, .bipush 16, 16)]) (pc' := 20) (L' := [some (.ref 0), none]) (st' := [.int 16, .int sp.2.2.2.2.2.1]) (w' := ((cM 0 sp tk sv mf mo mn ma (vb kb 52) (vb tb 26)) ++ (cMo 26 tb tp tf))) (by decide +kernel) rfl trivial ?_
    rcases ite_s hf with ⟨c_1003, hf⟩ | ⟨c_1003, hf⟩
    · refine m_jF M (i := .if_icmp .ne 10) 30 (by decide +kernel) rfl (by decide) (fun n => n c_1003) ?_
      refine m_run M (is := [(23, .aload_n 0, 0), (24, .bipush (-6), -6)]) (pc' := 26) (L' := [some (.ref 0), none]) (st' := [.int (-6), .ref 0]) (w' := ((cM 0 sp tk sv mf mo mn ma (vb kb 52) (vb tb 26)) ++ (cMo 26 tb tp tf))) (by decide +kernel) rfl trivial ?_
      obtain ⟨r1004, h_1004, hf⟩ := bnd_s hf
      refine m_cV0 M (rest := []) (w2 := ((cM 0 sp tk sv r1004.2 mo mn ma (vb kb 52) (vb tb 26)) ++ (cMo 26 tb tp tf))) (st2 := [.int r1004.1]) (run_X4_refuse (-6)   sp tk sv mf mo mn ma (vb kb 26) (vb tb 27) h_1004) cv_X4_refuse lk_X4_85 (by decide +kernel) (rhS 52 26) (by decide) ⟨Nat.le_of_ble_eq_true rfl, Nat.le_of_ble_eq_true rfl⟩ (hwS (rvk kb) (rvt tb) (len_Mo _ _ _ _) sp tk sv mf mo mn ma) rfl rfl (Nat.le_of_ble_eq_true rfl) ⟨by decide, by decide⟩ rfl rfl (bdg hB) (hpS (rvk kb) (rvt tb) (len_Mo _ _ _ _) sp tk sv mf mo mn ma sp tk sv r1004.2 mo mn ma) rfl ?_
      obtain rfl := Option.some.inj hf
      exact m_iret K (by decide +kernel) (bdg hB).1 (bdg hB).2 ⟨rfl, rfl⟩
    · refine m_jT M (i := .if_icmp .ne 10) 30 (by decide +kernel) rfl (by decide) c_1003 ?_
      refine m_run M (is := [(30, .aload_n 0, 0)]) (pc' := 31) (L' := [some (.ref 0), none]) (st' := [.ref 0]) (w' := ((cM 0 sp tk sv mf mo mn ma (vb kb 52) (vb tb 26)) ++ (cMo 26 tb tp tf))) (by decide +kernel) rfl trivial ?_
      obtain ⟨r1005, h_1005, hf⟩ := bnd_s hf
      refine m_cT M (rest := []) (w2 := ((cM 0 sp tk sv mf mo mn ma (vb kb 52) (.ref 26)) ++ (cM 26 r1005.1 nTk nSv r1005.2 zI zI zI .null .null))) (st2 := [.ref 26]) (run_X4_fresh    sp tk sv mf mo mn ma kb tb tp tf h_1005) cv_X4_fresh lk_X4_234 (by decide +kernel) (List.range 53) List.nodup_range ⟨(by rw [List.length_range]; exact (by rw [len_T]; decide)), (by rw [List.length_range]; decide)⟩ (hwId2 (by rw [len_T]; decide)) rfl rfl (Nat.le_of_ble_eq_true rfl) ⟨by decide, by decide⟩ (pot_T _ _ _ _ _ _ _ _ _ _ _ _ _ _) hB (nrT (x := tb) (p := tp) (f := tf) sp tk sv mf mo mn ma (vb kb 52) (vb tb 26) okR_w okR_v) rfl (hpId2 (by rw [len_T]; decide) (by rw [len_T]; rfl)) rfl (fun bc bs hB => ?_)
      refine m_run M (is := [(34, .astore_n 1, 0), (35, .aload_n 1, 0)]) (pc' := 36) (L' := [some (.ref 0), some (.ref 26)]) (st' := [.ref 26]) (w' := ((cM 0 sp tk sv mf mo mn ma (vb kb 52) (.ref 26)) ++ (cM 26 r1005.1 nTk nSv r1005.2 zI zI zI .null .null))) (by decide +kernel) rfl trivial ?_
      obtain ⟨r1006, h_1006, hf⟩ := bnd_s hf
      refine m_cV0 M (rest := []) (w2 := ((cM 0 sp tk sv mf mo mn ma (vb kb 52) (.ref 26)) ++ (cM 26 r1006 nTk nSv r1005.2 zI zI zI .null .null))) (st2 := []) (run_X4_addPerson    r1005.1 nTk nSv r1005.2 zI zI zI .null .null h_1006) cv_X4_addPerson lk_X4_114 (by decide +kernel) rhT (by decide) ⟨Nat.le_of_ble_eq_true rfl, Nat.le_of_ble_eq_true rfl⟩ (hwT sp tk sv mf mo mn ma r1005.1 nTk nSv r1005.2 zI zI zI) rfl rfl (Nat.le_of_ble_eq_true rfl) ⟨by decide, by decide⟩ rfl rfl (bdg hB) (hpT sp tk sv mf mo mn ma r1005.1 nTk nSv r1005.2 zI zI zI r1006 nTk nSv r1005.2 zI zI zI) rfl ?_
      refine m_run M (is := [(39, .aload_n 0, 0), (40, .aload_n 1, 0), (41, .aload_n 0, 0), (42, .getfield 69, 0), (45, .iconst 1, 1), (46, .sipush 999, 999)]) (pc' := 49) (L' := [some (.ref 0), some (.ref 26)]) (st' := [.int 999, .int 1, .int sp.2.2.2.2.2.1, .ref 26, .ref 0]) (w' := ((cM 0 sp tk sv mf mo mn ma (vb kb 52) (.ref 26)) ++ (cM 26 r1006 nTk nSv r1005.2 zI zI zI .null .null))) (by decide +kernel) rfl trivial ?_
      obtain ⟨r1007, h_1007, hf⟩ := bnd_s hf
      refine m_cV0 M (rest := []) (w2 := ((cM 0 sp tk sv mf mo mn ma (vb kb 52) (.ref 26)) ++ (cM 26 r1007.2 nTk nSv r1005.2 zI zI zI .null .null))) (st2 := [.int r1007.1]) (run_X4_whenIn sp.2.2.2.2.2.1 1 999   sp tk sv mf mo mn ma (vb kb 52) (.ref 26) r1006 nTk nSv r1005.2 zI zI zI h_1007) cv_X4_whenIn lk_X4_269 (by decide +kernel) (List.range 53) List.nodup_range ⟨(by rw [List.length_range]; exact Nat.le_of_ble_eq_true rfl), (by rw [List.length_range]; decide)⟩ (hwId2 (Nat.le_of_ble_eq_true rfl)) rfl rfl (Nat.le_of_ble_eq_true rfl) ⟨by decide, by decide⟩ rfl rfl (bdg hB) (hpId2 (Nat.le_of_ble_eq_true rfl) rfl) rfl ?_
      obtain rfl := Option.some.inj hf
      exact m_iret K (by decide +kernel) (bdg hB).1 (bdg hB).2 ⟨rfl, rfl⟩

def f_X4_forward_L0 (v1 : Int32) (v2 : Int32) (v3 : Int32) (v4 : Int32) (sp : ShT) : Nat → Int32 → AI → Bool → ShT → AI → Option (Int32 × AI × Bool × ShT × AI)
  | 0, _, _, _, _, _ => none
  | n_ + 1, v5, mf, tb, tp, tf =>
    if v4 < v5 then
      some ((-1), mf, tb, tp, tf)
    else
      (f_X4_fresh sp tb tp tf).bind fun r102 =>
      (f_X4_movesTo v1 (v4 - v5) r102.1).bind fun r103 =>
      (f_X4_whenIn v1 v2 v3 r103).bind fun r104 =>
      if r104.1 = (-1) then
        f_X4_forward_L0 v1 v2 v3 v4 sp n_ (v5 + 1) mf true r104.2 r102.2
      else
        some (v5, mf, true, r104.2, r102.2)
def f_X4_forward (a0 : Int32) (a1 : Int32) (a2 : Int32) (sp : ShT) (mf : AI) (tb : Bool) (tp : ShT) (tf : AI) : Option (Int32 × AI × Bool × ShT × AI) :=
  (f_X4_isPerson ((a0).toInt64) sp).bind fun r1001 =>
  if r1001 = 0 then
    (f_X4_refuse (-2) mf).bind fun r1003 =>
    some (r1003.1, r1003.2, tb, tp, tf)
  else
    (f_X4_in ((a1).toInt64) 1 99).bind fun r1004 =>
    if r1004 = 0 then
      (f_X4_refuse (-2) mf).bind fun r1006 =>
      some (r1006.1, r1006.2, tb, tp, tf)
    else
      (f_X4_mayTurns a2).bind fun r1007 =>
      if r1007 = 0 then
        (f_X4_refuse (-2) mf).bind fun r1009 =>
        some (r1009.1, r1009.2, tb, tp, tf)
      else
        if sp.2.2.2.2.2.2.1 = 0 then
          (f_X4_refuse (-5) mf).bind fun r1011 =>
          some (r1011.1, r1011.2, tb, tp, tf)
        else
          (f_X4_placeOf a0 sp).bind fun r1012 =>
          f_X4_forward_L0 a0 a1 a2 r1012 sp fuel0 0 mf tb tp tf
set_option maxRecDepth 100000 in
set_option maxHeartbeats 4000000 in
theorem run_X4_forward {l : Launch} {D : va_G} {cT : Nat → ClassId} (a0 : Int32) (a1 : Int32) (a2 : Int32)   (sp : ShT) (tk : TkT) (sv : SvT) (mf : AI) (mo : AI) (mn : AI) (ma : AI) (kb : Bool) (tb : Bool) (tp : ShT) (tf : AI) {r : Int32 × AI × Bool × ShT × AI} (hf : f_X4_forward a0 a1 a2 sp mf tb tp tf = some r) : Runs l D cT yX4_forward cX4_forward 7 (some .int) 3 74 [.ref 0, .int a0, .int a1, .int a2] ((cM 0 sp tk sv mf mo mn ma (vb kb 52) (vb tb 26)) ++ (cMo 26 tb tp tf)) (EQ (some (.int r.1)) ((cM 0 sp tk sv r.2.1 mo mn ma (vb kb 52) (vb r.2.2.1 26)) ++ (cMo 26 r.2.2.1 r.2.2.2.1 r.2.2.2.2))) := by
  refine runs_ofT O_X4 okO_X4 (by decide +kernel) rfl rfl (Nat.le_of_ble_eq_true rfl) (by rw [len_T]; decide) (pot_T _ _ _ _ _ _ _ _ _ _ _ _ _ _) (fun g Rc Rs hB K => ?_)
  have M := K.b
  show g 0 0 ((cM 0 sp tk sv mf mo mn ma (vb kb 52) (vb tb 26)) ++ (cMo 26 tb tp tf)) 0 [some (.ref 0), some (.int a0), some (.int a1), some (.int a2), none, none, none] []
  have loop_0 : ∀ (v1 : Int32) (v2 : Int32) (v3 : Int32) (v4 : Int32) (n_ : Nat), (∀ (v5 : Int32) (mf : AI) (tb : Bool) (tp : ShT) (tf : AI) (bc bs : Nat), bc + potM tb ≤ Rc ∧ bs + potN tb ≤ Rs → f_X4_forward_L0 v1 v2 v3 v4 sp n_ v5 mf tb tp tf = some r → g bc bs ((cM 0 sp tk sv mf mo mn ma (vb kb 52) (vb tb 26)) ++ (cMo 26 tb tp tf)) 59 [some (.ref 0), some (.int v1), some (.int v2), some (.int v3), some (.int v4), some (.int v5), none] []) := by
    intro v1 v2 v3 v4 n_
    induction n_ with
    | zero => intro v5 mf tb tp tf bc bs hB hf; cases hf
    | succ n_ ih =>
      intro v5 mf tb tp tf bc bs hB hf
      rw [f_X4_forward_L0] at hf
      refine m_run M (is := [(59, .iload 5, 0), (61, .iload 4, 0)]) (pc' := 63) (L' := [some (.ref 0), some (.int v1), some (.int v2), some (.int v3), some (.int v4), some (.int v5), none]) (st' := [.int v4, .int v5]) (w' := ((cM 0 sp tk sv mf mo mn ma (vb kb 52) (vb tb 26)) ++ (cMo 26 tb tp tf))) (by decide +kernel) rfl trivial ?_
      rcases ite_s hf with ⟨c_101, hf⟩ | ⟨c_101, hf⟩
      · refine m_jT M (i := .if_icmp .gt 42) 105 (by decide +kernel) rfl (by decide) c_101 ?_
        refine m_run M (is := [(105, .iconst (-1), -1)]) (pc' := 106) (L' := [some (.ref 0), some (.int v1), some (.int v2), some (.int v3), some (.int v4), some (.int v5), none]) (st' := [.int (-1)]) (w' := ((cM 0 sp tk sv mf mo mn ma (vb kb 52) (vb tb 26)) ++ (cMo 26 tb tp tf))) (by decide +kernel) rfl trivial ?_
        obtain rfl := Option.some.inj hf
        exact m_iret K (by decide +kernel) (bdg hB).1 (bdg hB).2 ⟨rfl, rfl⟩
      · refine m_jF M (i := .if_icmp .gt 42) 105 (by decide +kernel) rfl (by decide) c_101 ?_
        refine m_run M (is := [(66, .aload_n 0, 0)]) (pc' := 67) (L' := [some (.ref 0), some (.int v1), some (.int v2), some (.int v3), some (.int v4), some (.int v5), none]) (st' := [.ref 0]) (w' := ((cM 0 sp tk sv mf mo mn ma (vb kb 52) (vb tb 26)) ++ (cMo 26 tb tp tf))) (by decide +kernel) rfl trivial ?_
        obtain ⟨r102, h_102, hf⟩ := bnd_s hf
        refine m_cT M (rest := []) (w2 := ((cM 0 sp tk sv mf mo mn ma (vb kb 52) (.ref 26)) ++ (cM 26 r102.1 nTk nSv r102.2 zI zI zI .null .null))) (st2 := [.ref 26]) (run_X4_fresh    sp tk sv mf mo mn ma kb tb tp tf h_102) cv_X4_fresh lk_X4_234 (by decide +kernel) (List.range 53) List.nodup_range ⟨(by rw [List.length_range]; exact (by rw [len_T]; decide)), (by rw [List.length_range]; decide)⟩ (hwId2 (by rw [len_T]; decide)) rfl rfl (Nat.le_of_ble_eq_true rfl) ⟨by decide, by decide⟩ (pot_T _ _ _ _ _ _ _ _ _ _ _ _ _ _) hB (nrT (x := tb) (p := tp) (f := tf) sp tk sv mf mo mn ma (vb kb 52) (vb tb 26) okR_w okR_v) rfl (hpId2 (by rw [len_T]; decide) (by rw [len_T]; rfl)) rfl (fun bc bs hB => ?_)
        refine m_run M (is := [(70, .astore 6, 0), (72, .aload 6, 0), (74, .iload_n 1, 0), (75, .iload 4, 0), (77, .iload 5, 0), (79, .isub, 0)]) (pc' := 80) (L' := [some (.ref 0), some (.int v1), some (.int v2), some (.int v3), some (.int v4), some (.int v5), some (.ref 26)]) (st' := [.int (v4 - v5), .int v1, .ref 26]) (w' := ((cM 0 sp tk sv mf mo mn ma (vb kb 52) (.ref 26)) ++ (cM 26 r102.1 nTk nSv r102.2 zI zI zI .null .null))) (by decide +kernel) rfl trivial ?_
        obtain ⟨r103, h_103, hf⟩ := bnd_s hf
        refine m_cV0 M (rest := []) (w2 := ((cM 0 sp tk sv mf mo mn ma (vb kb 52) (.ref 26)) ++ (cM 26 r103 nTk nSv r102.2 zI zI zI .null .null))) (st2 := []) (run_X4_movesTo v1 (v4 - v5)   r102.1 nTk nSv r102.2 zI zI zI .null .null h_103) cv_X4_movesTo lk_X4_252 (by decide +kernel) rhT (by decide) ⟨Nat.le_of_ble_eq_true rfl, Nat.le_of_ble_eq_true rfl⟩ (hwT sp tk sv mf mo mn ma r102.1 nTk nSv r102.2 zI zI zI) rfl rfl (Nat.le_of_ble_eq_true rfl) ⟨by decide, by decide⟩ rfl rfl (bdg hB) (hpT sp tk sv mf mo mn ma r102.1 nTk nSv r102.2 zI zI zI r103 nTk nSv r102.2 zI zI zI) rfl ?_
        refine m_run M (is := [(83, .aload_n 0, 0), (84, .aload 6, 0), (86, .iload_n 1, 0), (87, .iload_n 2, 0), (88, .iload_n 3, 0)]) (pc' := 89) (L' := [some (.ref 0), some (.int v1), some (.int v2), some (.int v3), some (.int v4), some (.int v5), some (.ref 26)]) (st' := [.int v3, .int v2, .int v1, .ref 26, .ref 0]) (w' := ((cM 0 sp tk sv mf mo mn ma (vb kb 52) (.ref 26)) ++ (cM 26 r103 nTk nSv r102.2 zI zI zI .null .null))) (by decide +kernel) rfl trivial ?_
        obtain ⟨r104, h_104, hf⟩ := bnd_s hf
        refine m_cV0 M (rest := []) (w2 := ((cM 0 sp tk sv mf mo mn ma (vb kb 52) (.ref 26)) ++ (cM 26 r104.2 nTk nSv r102.2 zI zI zI .null .null))) (st2 := [.int r104.1]) (run_X4_whenIn v1 v2 v3   sp tk sv mf mo mn ma (vb kb 52) (.ref 26) r103 nTk nSv r102.2 zI zI zI h_104) cv_X4_whenIn lk_X4_269 (by decide +kernel) (List.range 53) List.nodup_range ⟨(by rw [List.length_range]; exact Nat.le_of_ble_eq_true rfl), (by rw [List.length_range]; decide)⟩ (hwId2 (Nat.le_of_ble_eq_true rfl)) rfl rfl (Nat.le_of_ble_eq_true rfl) ⟨by decide, by decide⟩ rfl rfl (bdg hB) (hpId2 (Nat.le_of_ble_eq_true rfl) rfl) rfl ?_
        refine m_run M (is := [(92, .iconst (-1), -1)]) (pc' := 93) (L' := [some (.ref 0), some (.int v1), some (.int v2), some (.int v3), some (.int v4), some (.int v5), some (.ref 26)]) (st' := [.int (-1), .int r104.1]) (w' := ((cM 0 sp tk sv mf mo mn ma (vb kb 52) (.ref 26)) ++ (cM 26 r104.2 nTk nSv r102.2 zI zI zI .null .null))) (by decide +kernel) rfl trivial ?_
        rcases ite_s hf with ⟨c_105, hf⟩ | ⟨c_105, hf⟩
        · refine m_jT M (i := .if_icmp .eq 6) 99 (by decide +kernel) rfl (by decide) c_105 ?_
          refine m_run M (is := [(99, .iinc 5 1, 1), (102, .goto (-43), 0)]) (pc' := 59) (L' := [some (.ref 0), some (.int v1), some (.int v2), some (.int v3), some (.int v4), some (.int (v5 + 1)), some (.ref 26)]) (st' := []) (w' := ((cM 0 sp tk sv mf mo mn ma (vb kb 52) (.ref 26)) ++ (cM 26 r104.2 nTk nSv r102.2 zI zI zI .null .null))) (by decide +kernel) rfl trivial ?_
          refine m_wk M [some (.ref 0), some (.int v1), some (.int v2), some (.int v3), some (.int v4), some (.int (v5 + 1)), none] ⟨Or.inr rfl, Or.inr rfl, Or.inr rfl, Or.inr rfl, Or.inr rfl, Or.inr rfl, Or.inl rfl, trivial⟩ ?_
          exact ih (v5 + 1) mf true r104.2 r102.2 _ _ hB hf
        · refine m_jF M (i := .if_icmp .eq 6) 99 (by decide +kernel) rfl (by decide) c_105 ?_
          refine m_run M (is := [(96, .iload 5, 0)]) (pc' := 98) (L' := [some (.ref 0), some (.int v1), some (.int v2), some (.int v3), some (.int v4), some (.int v5), some (.ref 26)]) (st' := [.int v5]) (w' := ((cM 0 sp tk sv mf mo mn ma (vb kb 52) (.ref 26)) ++ (cM 26 r104.2 nTk nSv r102.2 zI zI zI .null .null))) (by decide +kernel) rfl trivial ?_
          obtain rfl := Option.some.inj hf
          exact m_iret K (by decide +kernel) (bdg hB).1 (bdg hB).2 ⟨rfl, rfl⟩
  rw [f_X4_forward] at hf
  refine m_run M (is := [(0, .aload_n 0, 0), (1, .iload_n 1, 0), (2, .i2l, 0)]) (pc' := 3) (L' := [some (.ref 0), some (.int a0), some (.int a1), some (.int a2), none, none, none]) (st' := [.long ((a0).toInt64), .ref 0]) (w' := ((cM 0 sp tk sv mf mo mn ma (vb kb 52) (vb tb 26)) ++ (cMo 26 tb tp tf))) (by decide +kernel) rfl trivial ?_
  obtain ⟨r1001, h_1001, hf⟩ := bnd_s hf
  refine m_cV0 M (rest := []) (w2 := ((cM 0 sp tk sv mf mo mn ma (vb kb 52) (vb tb 26)) ++ (cMo 26 tb tp tf))) (st2 := [.int r1001]) (run_X4_isPerson ((a0).toInt64)   sp tk sv mf mo mn ma (vb kb 26) (vb tb 27) h_1001) cv_X4_isPerson lk_X4_130 (by decide +kernel) (rhS 52 26) (by decide) ⟨Nat.le_of_ble_eq_true rfl, Nat.le_of_ble_eq_true rfl⟩ (hwS (rvk kb) (rvt tb) (len_Mo _ _ _ _) sp tk sv mf mo mn ma) rfl rfl (Nat.le_of_ble_eq_true rfl) ⟨by decide, by decide⟩ rfl rfl (bdg hB) (hpS (rvk kb) (rvt tb) (len_Mo _ _ _ _) sp tk sv mf mo mn ma sp tk sv mf mo mn ma) rfl ?_
  rcases ite_s hf with ⟨c_1002, hf⟩ | ⟨c_1002, hf⟩
  · refine m_jT M (i := .ifCond .eq 22) 28 (by decide +kernel) rfl (by decide) c_1002 ?_
    refine m_run M (is := [(28, .aload_n 0, 0), (29, .bipush (-2), -2)]) (pc' := 31) (L' := [some (.ref 0), some (.int a0), some (.int a1), some (.int a2), none, none, none]) (st' := [.int (-2), .ref 0]) (w' := ((cM 0 sp tk sv mf mo mn ma (vb kb 52) (vb tb 26)) ++ (cMo 26 tb tp tf))) (by decide +kernel) rfl trivial ?_
    obtain ⟨r1003, h_1003, hf⟩ := bnd_s hf
    refine m_cV0 M (rest := []) (w2 := ((cM 0 sp tk sv r1003.2 mo mn ma (vb kb 52) (vb tb 26)) ++ (cMo 26 tb tp tf))) (st2 := [.int r1003.1]) (run_X4_refuse (-2)   sp tk sv mf mo mn ma (vb kb 26) (vb tb 27) h_1003) cv_X4_refuse lk_X4_85 (by decide +kernel) (rhS 52 26) (by decide) ⟨Nat.le_of_ble_eq_true rfl, Nat.le_of_ble_eq_true rfl⟩ (hwS (rvk kb) (rvt tb) (len_Mo _ _ _ _) sp tk sv mf mo mn ma) rfl rfl (Nat.le_of_ble_eq_true rfl) ⟨by decide, by decide⟩ rfl rfl (bdg hB) (hpS (rvk kb) (rvt tb) (len_Mo _ _ _ _) sp tk sv mf mo mn ma sp tk sv r1003.2 mo mn ma) rfl ?_
    obtain rfl := Option.some.inj hf
    exact m_iret K (by decide +kernel) (bdg hB).1 (bdg hB).2 ⟨rfl, rfl⟩
  · refine m_jF M (i := .ifCond .eq 22) 28 (by decide +kernel) rfl (by decide) c_1002 ?_
    refine m_run M (is := [(9, .iload_n 2, 0), (10, .i2l, 0), (11, .lconst 1, 0), (12, .ldc2_w 128, 0)]) (pc' := 15) (L' := [some (.ref 0), some (.int a0), some (.int a1), some (.int a2), none, none, none]) (st' := [.long 99, .long 1, .long ((a1).toInt64)]) (w' := ((cM 0 sp tk sv mf mo mn ma (vb kb 52) (vb tb 26)) ++ (cMo 26 tb tp tf))) (by decide +kernel) rfl trivial ?_
    obtain ⟨r1004, h_1004, hf⟩ := bnd_s hf
    refine m_cS0 M (rest := []) (w2 := ((cM 0 sp tk sv mf mo mn ma (vb kb 52) (vb tb 26)) ++ (cMo 26 tb tp tf))) (st2 := [.int r1004]) (run_X4_in ((a1).toInt64) 1 99    h_1004) cs_X4_in lk_X4_72 (by decide +kernel) [] (by decide) ⟨Nat.le_of_ble_eq_true rfl, Nat.le_of_ble_eq_true rfl⟩ rfl rfl (Nat.le_of_ble_eq_true rfl) ⟨by decide, by decide⟩ rfl rfl (bdg hB) rfl rfl ?_
    rcases ite_s hf with ⟨c_1005, hf⟩ | ⟨c_1005, hf⟩
    · refine m_jT M (i := .ifCond .eq 10) 28 (by decide +kernel) rfl (by decide) c_1005 ?_
      refine m_run M (is := [(28, .aload_n 0, 0), (29, .bipush (-2), -2)]) (pc' := 31) (L' := [some (.ref 0), some (.int a0), some (.int a1), some (.int a2), none, none, none]) (st' := [.int (-2), .ref 0]) (w' := ((cM 0 sp tk sv mf mo mn ma (vb kb 52) (vb tb 26)) ++ (cMo 26 tb tp tf))) (by decide +kernel) rfl trivial ?_
      obtain ⟨r1006, h_1006, hf⟩ := bnd_s hf
      refine m_cV0 M (rest := []) (w2 := ((cM 0 sp tk sv r1006.2 mo mn ma (vb kb 52) (vb tb 26)) ++ (cMo 26 tb tp tf))) (st2 := [.int r1006.1]) (run_X4_refuse (-2)   sp tk sv mf mo mn ma (vb kb 26) (vb tb 27) h_1006) cv_X4_refuse lk_X4_85 (by decide +kernel) (rhS 52 26) (by decide) ⟨Nat.le_of_ble_eq_true rfl, Nat.le_of_ble_eq_true rfl⟩ (hwS (rvk kb) (rvt tb) (len_Mo _ _ _ _) sp tk sv mf mo mn ma) rfl rfl (Nat.le_of_ble_eq_true rfl) ⟨by decide, by decide⟩ rfl rfl (bdg hB) (hpS (rvk kb) (rvt tb) (len_Mo _ _ _ _) sp tk sv mf mo mn ma sp tk sv r1006.2 mo mn ma) rfl ?_
      obtain rfl := Option.some.inj hf
      exact m_iret K (by decide +kernel) (bdg hB).1 (bdg hB).2 ⟨rfl, rfl⟩
    · refine m_jF M (i := .ifCond .eq 10) 28 (by decide +kernel) rfl (by decide) c_1005 ?_
      refine m_run M (is := [(21, .iload_n 3, 0)]) (pc' := 22) (L' := [some (.ref 0), some (.int a0), some (.int a1), some (.int a2), none, none, none]) (st' := [.int a2]) (w' := ((cM 0 sp tk sv mf mo mn ma (vb kb 52) (vb tb 26)) ++ (cMo 26 tb tp tf))) (by decide +kernel) rfl trivial ?_
      obtain ⟨r1007, h_1007, hf⟩ := bnd_s hf
      refine m_cS0 M (rest := []) (w2 := ((cM 0 sp tk sv mf mo mn ma (vb kb 52) (vb tb 26)) ++ (cMo 26 tb tp tf))) (st2 := [.int r1007]) (run_X4_mayTurns a2    h_1007) cs_X4_mayTurns lk_X4_255 (by decide +kernel) [] (by decide) ⟨Nat.le_of_ble_eq_true rfl, Nat.le_of_ble_eq_true rfl⟩ rfl rfl (Nat.le_of_ble_eq_true rfl) ⟨by decide, by decide⟩ rfl rfl (bdg hB) rfl rfl ?_
      rcases ite_s hf with ⟨c_1008, hf⟩ | ⟨c_1008, hf⟩
      · refine m_jF M (i := .ifCond .ne 10) 35 (by decide +kernel) rfl (by decide) (fun n => n c_1008) ?_
        refine m_run M (is := [(28, .aload_n 0, 0), (29, .bipush (-2), -2)]) (pc' := 31) (L' := [some (.ref 0), some (.int a0), some (.int a1), some (.int a2), none, none, none]) (st' := [.int (-2), .ref 0]) (w' := ((cM 0 sp tk sv mf mo mn ma (vb kb 52) (vb tb 26)) ++ (cMo 26 tb tp tf))) (by decide +kernel) rfl trivial ?_
        obtain ⟨r1009, h_1009, hf⟩ := bnd_s hf
        refine m_cV0 M (rest := []) (w2 := ((cM 0 sp tk sv r1009.2 mo mn ma (vb kb 52) (vb tb 26)) ++ (cMo 26 tb tp tf))) (st2 := [.int r1009.1]) (run_X4_refuse (-2)   sp tk sv mf mo mn ma (vb kb 26) (vb tb 27) h_1009) cv_X4_refuse lk_X4_85 (by decide +kernel) (rhS 52 26) (by decide) ⟨Nat.le_of_ble_eq_true rfl, Nat.le_of_ble_eq_true rfl⟩ (hwS (rvk kb) (rvt tb) (len_Mo _ _ _ _) sp tk sv mf mo mn ma) rfl rfl (Nat.le_of_ble_eq_true rfl) ⟨by decide, by decide⟩ rfl rfl (bdg hB) (hpS (rvk kb) (rvt tb) (len_Mo _ _ _ _) sp tk sv mf mo mn ma sp tk sv r1009.2 mo mn ma) rfl ?_
        obtain rfl := Option.some.inj hf
        exact m_iret K (by decide +kernel) (bdg hB).1 (bdg hB).2 ⟨rfl, rfl⟩
      · refine m_jT M (i := .ifCond .ne 10) 35 (by decide +kernel) rfl (by decide) c_1008 ?_
        refine m_run M (is := [(35, .aload_n 0, 0), (36, .getfield 76, 0)]) (pc' := 39) (L' := [some (.ref 0), some (.int a0), some (.int a1), some (.int a2), none, none, none]) (st' := [.int sp.2.2.2.2.2.2.1]) (w' := ((cM 0 sp tk sv mf mo mn ma (vb kb 52) (vb tb 26)) ++ (cMo 26 tb tp tf))) (by decide +kernel) rfl trivial ?_
        rcases ite_s hf with ⟨c_1010, hf⟩ | ⟨c_1010, hf⟩
        · refine m_jF M (i := .ifCond .ne 10) 49 (by decide +kernel) rfl (by decide) (fun n => n c_1010) ?_
          refine m_run M (is := [(42, .aload_n 0, 0), (43, .bipush (-5), -5)]) (pc' := 45) (L' := [some (.ref 0), some (.int a0), some (.int a1), some (.int a2), none, none, none]) (st' := [.int (-5), .ref 0]) (w' := ((cM 0 sp tk sv mf mo mn ma (vb kb 52) (vb tb 26)) ++ (cMo 26 tb tp tf))) (by decide +kernel) rfl trivial ?_
          obtain ⟨r1011, h_1011, hf⟩ := bnd_s hf
          refine m_cV0 M (rest := []) (w2 := ((cM 0 sp tk sv r1011.2 mo mn ma (vb kb 52) (vb tb 26)) ++ (cMo 26 tb tp tf))) (st2 := [.int r1011.1]) (run_X4_refuse (-5)   sp tk sv mf mo mn ma (vb kb 26) (vb tb 27) h_1011) cv_X4_refuse lk_X4_85 (by decide +kernel) (rhS 52 26) (by decide) ⟨Nat.le_of_ble_eq_true rfl, Nat.le_of_ble_eq_true rfl⟩ (hwS (rvk kb) (rvt tb) (len_Mo _ _ _ _) sp tk sv mf mo mn ma) rfl rfl (Nat.le_of_ble_eq_true rfl) ⟨by decide, by decide⟩ rfl rfl (bdg hB) (hpS (rvk kb) (rvt tb) (len_Mo _ _ _ _) sp tk sv mf mo mn ma sp tk sv r1011.2 mo mn ma) rfl ?_
          obtain rfl := Option.some.inj hf
          exact m_iret K (by decide +kernel) (bdg hB).1 (bdg hB).2 ⟨rfl, rfl⟩
        · refine m_jT M (i := .ifCond .ne 10) 49 (by decide +kernel) rfl (by decide) c_1010 ?_
          refine m_run M (is := [(49, .aload_n 0, 0), (50, .iload_n 1, 0)]) (pc' := 51) (L' := [some (.ref 0), some (.int a0), some (.int a1), some (.int a2), none, none, none]) (st' := [.int a0, .ref 0]) (w' := ((cM 0 sp tk sv mf mo mn ma (vb kb 52) (vb tb 26)) ++ (cMo 26 tb tp tf))) (by decide +kernel) rfl trivial ?_
          obtain ⟨r1012, h_1012, hf⟩ := bnd_s hf
          refine m_cV0 M (rest := []) (w2 := ((cM 0 sp tk sv mf mo mn ma (vb kb 52) (vb tb 26)) ++ (cMo 26 tb tp tf))) (st2 := [.int r1012]) (run_X4_placeOf a0   sp tk sv mf mo mn ma (vb kb 26) (vb tb 27) h_1012) cv_X4_placeOf lk_X4_243 (by decide +kernel) (rhS 52 26) (by decide) ⟨Nat.le_of_ble_eq_true rfl, Nat.le_of_ble_eq_true rfl⟩ (hwS (rvk kb) (rvt tb) (len_Mo _ _ _ _) sp tk sv mf mo mn ma) rfl rfl (Nat.le_of_ble_eq_true rfl) ⟨by decide, by decide⟩ rfl rfl (bdg hB) (hpS (rvk kb) (rvt tb) (len_Mo _ _ _ _) sp tk sv mf mo mn ma sp tk sv mf mo mn ma) rfl ?_
          refine m_run M (is := [(54, .istore 4, 0), (56, .iconst 0, 0), (57, .istore 5, 0)]) (pc' := 59) (L' := [some (.ref 0), some (.int a0), some (.int a1), some (.int a2), some (.int r1012), some (.int 0), none]) (st' := []) (w' := ((cM 0 sp tk sv mf mo mn ma (vb kb 52) (vb tb 26)) ++ (cMo 26 tb tp tf))) (by decide +kernel) rfl trivial ?_
          exact loop_0 a0 a1 a2 r1012 fuel0 0 mf tb tp tf _ _ hB hf

def f_X4_level_L0 (sp : ShT) : Nat → Int32 → AI → ShT → AI → Option (Int32 × AI × Bool × ShT × AI)
  | 0, _, _, _, _ => none
  | n_ + 1, v3, mf, tp, tf =>
    if 999 < v3 then
      some ((-1), mf, true, tp, tf)
    else
      (f_X4_turn tp).bind fun r102 =>
      (f_X4_spreadNow r102).bind fun r103 =>
      if r103 = 0 then
        some (v3, mf, true, r102, tf)
      else
        f_X4_level_L0 sp n_ (v3 + 1) mf r102 tf
def f_X4_level (a0 : Int32) (sp : ShT) (mf : AI) (tb : Bool) (tp : ShT) (tf : AI) : Option (Int32 × AI × Bool × ShT × AI) :=
  (f_X4_isLaw a0 sp).bind fun r1001 =>
  if r1001 = 0 then
    (f_X4_refuse (-2) mf).bind fun r1003 =>
    some (r1003.1, r1003.2, tb, tp, tf)
  else
    if sp.2.2.2.2.2.1 = 0 then
      (f_X4_refuse (-5) mf).bind fun r1005 =>
      some (r1005.1, r1005.2, tb, tp, tf)
    else
      (f_X4_anewBy a0 sp tb tp tf).bind fun r1006 =>
      f_X4_level_L0 sp fuel0 1 mf r1006.1 r1006.2
set_option maxRecDepth 100000 in
set_option maxHeartbeats 4000000 in
theorem run_X4_level {l : Launch} {D : va_G} {cT : Nat → ClassId} (a0 : Int32)   (sp : ShT) (tk : TkT) (sv : SvT) (mf : AI) (mo : AI) (mn : AI) (ma : AI) (kb : Bool) (tb : Bool) (tp : ShT) (tf : AI) {r : Int32 × AI × Bool × ShT × AI} (hf : f_X4_level a0 sp mf tb tp tf = some r) : Runs l D cT yX4_level cX4_level 4 (some .int) 4 85 [.ref 0, .int a0] ((cM 0 sp tk sv mf mo mn ma (vb kb 52) (vb tb 26)) ++ (cMo 26 tb tp tf)) (EQ (some (.int r.1)) ((cM 0 sp tk sv r.2.1 mo mn ma (vb kb 52) (vb r.2.2.1 26)) ++ (cMo 26 r.2.2.1 r.2.2.2.1 r.2.2.2.2))) := by
  refine runs_ofT O_X4 okO_X4 (by decide +kernel) rfl rfl (Nat.le_of_ble_eq_true rfl) (by rw [len_T]; decide) (pot_T _ _ _ _ _ _ _ _ _ _ _ _ _ _) (fun g Rc Rs hB K => ?_)
  have M := K.b
  show g 0 0 ((cM 0 sp tk sv mf mo mn ma (vb kb 52) (vb tb 26)) ++ (cMo 26 tb tp tf)) 0 [some (.ref 0), some (.int a0), none, none] []
  have loop_0 : ∀ (tb : Bool) (n_ : Nat), (∀ (v3 : Int32) (mf : AI) (tp : ShT) (tf : AI) (bc bs : Nat), bc + potM true ≤ Rc ∧ bs + potN true ≤ Rs → f_X4_level_L0 sp n_ v3 mf tp tf = some r → g bc bs ((cM 0 sp tk sv mf mo mn ma (vb kb 52) (.ref 26)) ++ (cM 26 tp nTk nSv tf zI zI zI .null .null)) 37 [none, none, some (.ref 26), some (.int v3)] []) := by
    intro tb n_
    induction n_ with
    | zero => intro v3 mf tp tf bc bs hB hf; cases hf
    | succ n_ ih =>
      intro v3 mf tp tf bc bs hB hf
      rw [f_X4_level_L0] at hf
      refine m_run M (is := [(37, .iload_n 3, 0), (38, .sipush 999, 999)]) (pc' := 41) (L' := [none, none, some (.ref 26), some (.int v3)]) (st' := [.int 999, .int v3]) (w' := ((cM 0 sp tk sv mf mo mn ma (vb kb 52) (.ref 26)) ++ (cM 26 tp nTk nSv tf zI zI zI .null .null))) (by decide +kernel) rfl trivial ?_
      rcases ite_s hf with ⟨c_101, hf⟩ | ⟨c_101, hf⟩
      · refine m_jT M (i := .if_icmp .gt 22) 63 (by decide +kernel) rfl (by decide) c_101 ?_
        refine m_run M (is := [(63, .iconst (-1), -1)]) (pc' := 64) (L' := [none, none, some (.ref 26), some (.int v3)]) (st' := [.int (-1)]) (w' := ((cM 0 sp tk sv mf mo mn ma (vb kb 52) (.ref 26)) ++ (cM 26 tp nTk nSv tf zI zI zI .null .null))) (by decide +kernel) rfl trivial ?_
        obtain rfl := Option.some.inj hf
        exact m_iret K (by decide +kernel) (bdg hB).1 (bdg hB).2 ⟨rfl, rfl⟩
      · refine m_jF M (i := .if_icmp .gt 22) 63 (by decide +kernel) rfl (by decide) c_101 ?_
        refine m_run M (is := [(44, .aload_n 2, 0)]) (pc' := 45) (L' := [none, none, some (.ref 26), some (.int v3)]) (st' := [.ref 26]) (w' := ((cM 0 sp tk sv mf mo mn ma (vb kb 52) (.ref 26)) ++ (cM 26 tp nTk nSv tf zI zI zI .null .null))) (by decide +kernel) rfl trivial ?_
        obtain ⟨r102, h_102, hf⟩ := bnd_s hf
        refine m_cV0 M (rest := []) (w2 := ((cM 0 sp tk sv mf mo mn ma (vb kb 52) (.ref 26)) ++ (cM 26 r102 nTk nSv tf zI zI zI .null .null))) (st2 := []) (run_X4_turn    tp nTk nSv tf zI zI zI .null .null h_102) cv_X4_turn lk_X4_249 (by decide +kernel) rhT (by decide) ⟨Nat.le_of_ble_eq_true rfl, Nat.le_of_ble_eq_true rfl⟩ (hwT sp tk sv mf mo mn ma tp nTk nSv tf zI zI zI) rfl rfl (Nat.le_of_ble_eq_true rfl) ⟨by decide, by decide⟩ rfl rfl (bdg hB) (hpT sp tk sv mf mo mn ma tp nTk nSv tf zI zI zI r102 nTk nSv tf zI zI zI) rfl ?_
        refine m_run M (is := [(48, .aload_n 2, 0)]) (pc' := 49) (L' := [none, none, some (.ref 26), some (.int v3)]) (st' := [.ref 26]) (w' := ((cM 0 sp tk sv mf mo mn ma (vb kb 52) (.ref 26)) ++ (cM 26 r102 nTk nSv tf zI zI zI .null .null))) (by decide +kernel) rfl trivial ?_
        obtain ⟨r103, h_103, hf⟩ := bnd_s hf
        refine m_cV0 M (rest := []) (w2 := ((cM 0 sp tk sv mf mo mn ma (vb kb 52) (.ref 26)) ++ (cM 26 r102 nTk nSv tf zI zI zI .null .null))) (st2 := [.int r103]) (run_X4_spreadNow    r102 nTk nSv tf zI zI zI .null .null h_103) cv_X4_spreadNow lk_X4_285 (by decide +kernel) rhT (by decide) ⟨Nat.le_of_ble_eq_true rfl, Nat.le_of_ble_eq_true rfl⟩ (hwT sp tk sv mf mo mn ma r102 nTk nSv tf zI zI zI) rfl rfl (Nat.le_of_ble_eq_true rfl) ⟨by decide, by decide⟩ rfl rfl (bdg hB) (hpT sp tk sv mf mo mn ma r102 nTk nSv tf zI zI zI r102 nTk nSv tf zI zI zI) rfl ?_
        rcases ite_s hf with ⟨c_104, hf⟩ | ⟨c_104, hf⟩
        · refine m_jF M (i := .ifCond .ne 5) 57 (by decide +kernel) rfl (by decide) (fun n => n c_104) ?_
          refine m_run M (is := [(55, .iload_n 3, 0)]) (pc' := 56) (L' := [none, none, some (.ref 26), some (.int v3)]) (st' := [.int v3]) (w' := ((cM 0 sp tk sv mf mo mn ma (vb kb 52) (.ref 26)) ++ (cM 26 r102 nTk nSv tf zI zI zI .null .null))) (by decide +kernel) rfl trivial ?_
          obtain rfl := Option.some.inj hf
          exact m_iret K (by decide +kernel) (bdg hB).1 (bdg hB).2 ⟨rfl, rfl⟩
        · refine m_jT M (i := .ifCond .ne 5) 57 (by decide +kernel) rfl (by decide) c_104 ?_
          refine m_run M (is := [(57, .iinc 3 1, 1), (60, .goto (-23), 0)]) (pc' := 37) (L' := [none, none, some (.ref 26), some (.int (v3 + 1))]) (st' := []) (w' := ((cM 0 sp tk sv mf mo mn ma (vb kb 52) (.ref 26)) ++ (cM 26 r102 nTk nSv tf zI zI zI .null .null))) (by decide +kernel) rfl trivial ?_
          exact ih (v3 + 1) mf r102 tf _ _ hB hf
  rw [f_X4_level] at hf
  refine m_run M (is := [(0, .aload_n 0, 0), (1, .iload_n 1, 0)]) (pc' := 2) (L' := [some (.ref 0), some (.int a0), none, none]) (st' := [.int a0, .ref 0]) (w' := ((cM 0 sp tk sv mf mo mn ma (vb kb 52) (vb tb 26)) ++ (cMo 26 tb tp tf))) (by decide +kernel) rfl trivial ?_
  obtain ⟨r1001, h_1001, hf⟩ := bnd_s hf
  refine m_cV0 M (rest := []) (w2 := ((cM 0 sp tk sv mf mo mn ma (vb kb 52) (vb tb 26)) ++ (cMo 26 tb tp tf))) (st2 := [.int r1001]) (run_X4_isLaw a0   sp tk sv mf mo mn ma (vb kb 26) (vb tb 27) h_1001) cv_X4_isLaw lk_X4_96 (by decide +kernel) (rhS 52 26) (by decide) ⟨Nat.le_of_ble_eq_true rfl, Nat.le_of_ble_eq_true rfl⟩ (hwS (rvk kb) (rvt tb) (len_Mo _ _ _ _) sp tk sv mf mo mn ma) rfl rfl (Nat.le_of_ble_eq_true rfl) ⟨by decide, by decide⟩ rfl rfl (bdg hB) (hpS (rvk kb) (rvt tb) (len_Mo _ _ _ _) sp tk sv mf mo mn ma sp tk sv mf mo mn ma) rfl ?_
  rcases ite_s hf with ⟨c_1002, hf⟩ | ⟨c_1002, hf⟩
  · refine m_jF M (i := .ifCond .ne 10) 15 (by decide +kernel) rfl (by decide) (fun n => n c_1002) ?_
    refine m_run M (is := [(8, .aload_n 0, 0), (9, .bipush (-2), -2)]) (pc' := 11) (L' := [some (.ref 0), some (.int a0), none, none]) (st' := [.int (-2), .ref 0]) (w' := ((cM 0 sp tk sv mf mo mn ma (vb kb 52) (vb tb 26)) ++ (cMo 26 tb tp tf))) (by decide +kernel) rfl trivial ?_
    obtain ⟨r1003, h_1003, hf⟩ := bnd_s hf
    refine m_cV0 M (rest := []) (w2 := ((cM 0 sp tk sv r1003.2 mo mn ma (vb kb 52) (vb tb 26)) ++ (cMo 26 tb tp tf))) (st2 := [.int r1003.1]) (run_X4_refuse (-2)   sp tk sv mf mo mn ma (vb kb 26) (vb tb 27) h_1003) cv_X4_refuse lk_X4_85 (by decide +kernel) (rhS 52 26) (by decide) ⟨Nat.le_of_ble_eq_true rfl, Nat.le_of_ble_eq_true rfl⟩ (hwS (rvk kb) (rvt tb) (len_Mo _ _ _ _) sp tk sv mf mo mn ma) rfl rfl (Nat.le_of_ble_eq_true rfl) ⟨by decide, by decide⟩ rfl rfl (bdg hB) (hpS (rvk kb) (rvt tb) (len_Mo _ _ _ _) sp tk sv mf mo mn ma sp tk sv r1003.2 mo mn ma) rfl ?_
    obtain rfl := Option.some.inj hf
    exact m_iret K (by decide +kernel) (bdg hB).1 (bdg hB).2 ⟨rfl, rfl⟩
  · refine m_jT M (i := .ifCond .ne 10) 15 (by decide +kernel) rfl (by decide) c_1002 ?_
    refine m_run M (is := [(15, .aload_n 0, 0), (16, .getfield 69, 0)]) (pc' := 19) (L' := [some (.ref 0), some (.int a0), none, none]) (st' := [.int sp.2.2.2.2.2.1]) (w' := ((cM 0 sp tk sv mf mo mn ma (vb kb 52) (vb tb 26)) ++ (cMo 26 tb tp tf))) (by decide +kernel) rfl trivial ?_
    rcases ite_s hf with ⟨c_1004, hf⟩ | ⟨c_1004, hf⟩
    · refine m_jF M (i := .ifCond .ne 10) 29 (by decide +kernel) rfl (by decide) (fun n => n c_1004) ?_
      refine m_run M (is := [(22, .aload_n 0, 0), (23, .bipush (-5), -5)]) (pc' := 25) (L' := [some (.ref 0), some (.int a0), none, none]) (st' := [.int (-5), .ref 0]) (w' := ((cM 0 sp tk sv mf mo mn ma (vb kb 52) (vb tb 26)) ++ (cMo 26 tb tp tf))) (by decide +kernel) rfl trivial ?_
      obtain ⟨r1005, h_1005, hf⟩ := bnd_s hf
      refine m_cV0 M (rest := []) (w2 := ((cM 0 sp tk sv r1005.2 mo mn ma (vb kb 52) (vb tb 26)) ++ (cMo 26 tb tp tf))) (st2 := [.int r1005.1]) (run_X4_refuse (-5)   sp tk sv mf mo mn ma (vb kb 26) (vb tb 27) h_1005) cv_X4_refuse lk_X4_85 (by decide +kernel) (rhS 52 26) (by decide) ⟨Nat.le_of_ble_eq_true rfl, Nat.le_of_ble_eq_true rfl⟩ (hwS (rvk kb) (rvt tb) (len_Mo _ _ _ _) sp tk sv mf mo mn ma) rfl rfl (Nat.le_of_ble_eq_true rfl) ⟨by decide, by decide⟩ rfl rfl (bdg hB) (hpS (rvk kb) (rvt tb) (len_Mo _ _ _ _) sp tk sv mf mo mn ma sp tk sv r1005.2 mo mn ma) rfl ?_
      obtain rfl := Option.some.inj hf
      exact m_iret K (by decide +kernel) (bdg hB).1 (bdg hB).2 ⟨rfl, rfl⟩
    · refine m_jT M (i := .ifCond .ne 10) 29 (by decide +kernel) rfl (by decide) c_1004 ?_
      refine m_run M (is := [(29, .aload_n 0, 0), (30, .iload_n 1, 0)]) (pc' := 31) (L' := [some (.ref 0), some (.int a0), none, none]) (st' := [.int a0, .ref 0]) (w' := ((cM 0 sp tk sv mf mo mn ma (vb kb 52) (vb tb 26)) ++ (cMo 26 tb tp tf))) (by decide +kernel) rfl trivial ?_
      obtain ⟨r1006, h_1006, hf⟩ := bnd_s hf
      refine m_cT M (rest := []) (w2 := ((cM 0 sp tk sv mf mo mn ma (vb kb 52) (.ref 26)) ++ (cM 26 r1006.1 nTk nSv r1006.2 zI zI zI .null .null))) (st2 := [.ref 26]) (run_X4_anewBy a0   sp tk sv mf mo mn ma kb tb tp tf h_1006) cv_X4_anewBy lk_X4_282 (by decide +kernel) (List.range 53) List.nodup_range ⟨(by rw [List.length_range]; exact (by rw [len_T]; decide)), (by rw [List.length_range]; decide)⟩ (hwId2 (by rw [len_T]; decide)) rfl rfl (Nat.le_of_ble_eq_true rfl) ⟨by decide, by decide⟩ (pot_T _ _ _ _ _ _ _ _ _ _ _ _ _ _) hB (nrT (x := tb) (p := tp) (f := tf) sp tk sv mf mo mn ma (vb kb 52) (vb tb 26) okR_w okR_v) rfl (hpId2 (by rw [len_T]; decide) (by rw [len_T]; rfl)) rfl (fun bc bs hB => ?_)
      refine m_run M (is := [(34, .astore_n 2, 0), (35, .iconst 1, 1), (36, .istore_n 3, 0)]) (pc' := 37) (L' := [some (.ref 0), some (.int a0), some (.ref 26), some (.int 1)]) (st' := []) (w' := ((cM 0 sp tk sv mf mo mn ma (vb kb 52) (.ref 26)) ++ (cM 26 r1006.1 nTk nSv r1006.2 zI zI zI .null .null))) (by decide +kernel) rfl trivial ?_
      refine m_wk M [none, none, some (.ref 26), some (.int 1)] ⟨Or.inl rfl, Or.inl rfl, Or.inr rfl, Or.inr rfl, trivial⟩ ?_
      exact loop_0 true fuel0 1 mf r1006.1 r1006.2 _ _ hB hf

def f_X4_spread (a0 : Int32) (a1 : Int32) (sp : ShT) (mf : AI) (tb : Bool) (tp : ShT) (tf : AI) : Option (Int32 × AI × Bool × ShT × AI) :=
  (f_X4_isLaw a0 sp).bind fun r1001 =>
  if r1001 = 0 then
    (f_X4_refuse (-2) mf).bind fun r1003 =>
    some (r1003.1, r1003.2, tb, tp, tf)
  else
    (f_X4_mayTurns a1).bind fun r1004 =>
    if r1004 = 0 then
      (f_X4_refuse (-2) mf).bind fun r1006 =>
      some (r1006.1, r1006.2, tb, tp, tf)
    else
      if sp.2.2.2.2.2.1 = 0 then
        (f_X4_refuse (-5) mf).bind fun r1008 =>
        some (r1008.1, r1008.2, tb, tp, tf)
      else
        (f_X4_spreadBy a0 a1 sp tb tp tf).bind fun r1009 =>
        some (r1009.1, mf, true, r1009.2.1, r1009.2.2)
set_option maxRecDepth 100000 in
set_option maxHeartbeats 4000000 in
theorem run_X4_spread {l : Launch} {D : va_G} {cT : Nat → ClassId} (a0 : Int32) (a1 : Int32)   (sp : ShT) (tk : TkT) (sv : SvT) (mf : AI) (mo : AI) (mn : AI) (ma : AI) (kb : Bool) (tb : Bool) (tp : ShT) (tf : AI) {r : Int32 × AI × Bool × ShT × AI} (hf : f_X4_spread a0 a1 sp mf tb tp tf = some r) : Runs l D cT yX4_spread cX4_spread 3 (some .int) 5 108 [.ref 0, .int a0, .int a1] ((cM 0 sp tk sv mf mo mn ma (vb kb 52) (vb tb 26)) ++ (cMo 26 tb tp tf)) (EQ (some (.int r.1)) ((cM 0 sp tk sv r.2.1 mo mn ma (vb kb 52) (vb r.2.2.1 26)) ++ (cMo 26 r.2.2.1 r.2.2.2.1 r.2.2.2.2))) := by
  refine runs_ofT O_X4 okO_X4 (by decide +kernel) rfl rfl (Nat.le_of_ble_eq_true rfl) (by rw [len_T]; decide) (pot_T _ _ _ _ _ _ _ _ _ _ _ _ _ _) (fun g Rc Rs hB K => ?_)
  have M := K.b
  show g 0 0 ((cM 0 sp tk sv mf mo mn ma (vb kb 52) (vb tb 26)) ++ (cMo 26 tb tp tf)) 0 [some (.ref 0), some (.int a0), some (.int a1)] []
  rw [f_X4_spread] at hf
  refine m_run M (is := [(0, .aload_n 0, 0), (1, .iload_n 1, 0)]) (pc' := 2) (L' := [some (.ref 0), some (.int a0), some (.int a1)]) (st' := [.int a0, .ref 0]) (w' := ((cM 0 sp tk sv mf mo mn ma (vb kb 52) (vb tb 26)) ++ (cMo 26 tb tp tf))) (by decide +kernel) rfl trivial ?_
  obtain ⟨r1001, h_1001, hf⟩ := bnd_s hf
  refine m_cV0 M (rest := []) (w2 := ((cM 0 sp tk sv mf mo mn ma (vb kb 52) (vb tb 26)) ++ (cMo 26 tb tp tf))) (st2 := [.int r1001]) (run_X4_isLaw a0   sp tk sv mf mo mn ma (vb kb 26) (vb tb 27) h_1001) cv_X4_isLaw lk_X4_96 (by decide +kernel) (rhS 52 26) (by decide) ⟨Nat.le_of_ble_eq_true rfl, Nat.le_of_ble_eq_true rfl⟩ (hwS (rvk kb) (rvt tb) (len_Mo _ _ _ _) sp tk sv mf mo mn ma) rfl rfl (Nat.le_of_ble_eq_true rfl) ⟨by decide, by decide⟩ rfl rfl (bdg hB) (hpS (rvk kb) (rvt tb) (len_Mo _ _ _ _) sp tk sv mf mo mn ma sp tk sv mf mo mn ma) rfl ?_
  rcases ite_s hf with ⟨c_1002, hf⟩ | ⟨c_1002, hf⟩
  · refine m_jT M (i := .ifCond .eq 10) 15 (by decide +kernel) rfl (by decide) c_1002 ?_
    refine m_run M (is := [(15, .aload_n 0, 0), (16, .bipush (-2), -2)]) (pc' := 18) (L' := [some (.ref 0), some (.int a0), some (.int a1)]) (st' := [.int (-2), .ref 0]) (w' := ((cM 0 sp tk sv mf mo mn ma (vb kb 52) (vb tb 26)) ++ (cMo 26 tb tp tf))) (by decide +kernel) rfl trivial ?_
    obtain ⟨r1003, h_1003, hf⟩ := bnd_s hf
    refine m_cV0 M (rest := []) (w2 := ((cM 0 sp tk sv r1003.2 mo mn ma (vb kb 52) (vb tb 26)) ++ (cMo 26 tb tp tf))) (st2 := [.int r1003.1]) (run_X4_refuse (-2)   sp tk sv mf mo mn ma (vb kb 26) (vb tb 27) h_1003) cv_X4_refuse lk_X4_85 (by decide +kernel) (rhS 52 26) (by decide) ⟨Nat.le_of_ble_eq_true rfl, Nat.le_of_ble_eq_true rfl⟩ (hwS (rvk kb) (rvt tb) (len_Mo _ _ _ _) sp tk sv mf mo mn ma) rfl rfl (Nat.le_of_ble_eq_true rfl) ⟨by decide, by decide⟩ rfl rfl (bdg hB) (hpS (rvk kb) (rvt tb) (len_Mo _ _ _ _) sp tk sv mf mo mn ma sp tk sv r1003.2 mo mn ma) rfl ?_
    obtain rfl := Option.some.inj hf
    exact m_iret K (by decide +kernel) (bdg hB).1 (bdg hB).2 ⟨rfl, rfl⟩
  · refine m_jF M (i := .ifCond .eq 10) 15 (by decide +kernel) rfl (by decide) c_1002 ?_
    refine m_run M (is := [(8, .iload_n 2, 0)]) (pc' := 9) (L' := [some (.ref 0), some (.int a0), some (.int a1)]) (st' := [.int a1]) (w' := ((cM 0 sp tk sv mf mo mn ma (vb kb 52) (vb tb 26)) ++ (cMo 26 tb tp tf))) (by decide +kernel) rfl trivial ?_
    obtain ⟨r1004, h_1004, hf⟩ := bnd_s hf
    refine m_cS0 M (rest := []) (w2 := ((cM 0 sp tk sv mf mo mn ma (vb kb 52) (vb tb 26)) ++ (cMo 26 tb tp tf))) (st2 := [.int r1004]) (run_X4_mayTurns a1    h_1004) cs_X4_mayTurns lk_X4_255 (by decide +kernel) [] (by decide) ⟨Nat.le_of_ble_eq_true rfl, Nat.le_of_ble_eq_true rfl⟩ rfl rfl (Nat.le_of_ble_eq_true rfl) ⟨by decide, by decide⟩ rfl rfl (bdg hB) rfl rfl ?_
    rcases ite_s hf with ⟨c_1005, hf⟩ | ⟨c_1005, hf⟩
    · refine m_jF M (i := .ifCond .ne 10) 22 (by decide +kernel) rfl (by decide) (fun n => n c_1005) ?_
      refine m_run M (is := [(15, .aload_n 0, 0), (16, .bipush (-2), -2)]) (pc' := 18) (L' := [some (.ref 0), some (.int a0), some (.int a1)]) (st' := [.int (-2), .ref 0]) (w' := ((cM 0 sp tk sv mf mo mn ma (vb kb 52) (vb tb 26)) ++ (cMo 26 tb tp tf))) (by decide +kernel) rfl trivial ?_
      obtain ⟨r1006, h_1006, hf⟩ := bnd_s hf
      refine m_cV0 M (rest := []) (w2 := ((cM 0 sp tk sv r1006.2 mo mn ma (vb kb 52) (vb tb 26)) ++ (cMo 26 tb tp tf))) (st2 := [.int r1006.1]) (run_X4_refuse (-2)   sp tk sv mf mo mn ma (vb kb 26) (vb tb 27) h_1006) cv_X4_refuse lk_X4_85 (by decide +kernel) (rhS 52 26) (by decide) ⟨Nat.le_of_ble_eq_true rfl, Nat.le_of_ble_eq_true rfl⟩ (hwS (rvk kb) (rvt tb) (len_Mo _ _ _ _) sp tk sv mf mo mn ma) rfl rfl (Nat.le_of_ble_eq_true rfl) ⟨by decide, by decide⟩ rfl rfl (bdg hB) (hpS (rvk kb) (rvt tb) (len_Mo _ _ _ _) sp tk sv mf mo mn ma sp tk sv r1006.2 mo mn ma) rfl ?_
      obtain rfl := Option.some.inj hf
      exact m_iret K (by decide +kernel) (bdg hB).1 (bdg hB).2 ⟨rfl, rfl⟩
    · refine m_jT M (i := .ifCond .ne 10) 22 (by decide +kernel) rfl (by decide) c_1005 ?_
      refine m_run M (is := [(22, .aload_n 0, 0), (23, .getfield 69, 0)]) (pc' := 26) (L' := [some (.ref 0), some (.int a0), some (.int a1)]) (st' := [.int sp.2.2.2.2.2.1]) (w' := ((cM 0 sp tk sv mf mo mn ma (vb kb 52) (vb tb 26)) ++ (cMo 26 tb tp tf))) (by decide +kernel) rfl trivial ?_
      rcases ite_s hf with ⟨c_1007, hf⟩ | ⟨c_1007, hf⟩
      · refine m_jF M (i := .ifCond .ne 12) 38 (by decide +kernel) rfl (by decide) (fun n => n c_1007) ?_
        refine m_run M (is := [(29, .aload_n 0, 0), (30, .bipush (-5), -5)]) (pc' := 32) (L' := [some (.ref 0), some (.int a0), some (.int a1)]) (st' := [.int (-5), .ref 0]) (w' := ((cM 0 sp tk sv mf mo mn ma (vb kb 52) (vb tb 26)) ++ (cMo 26 tb tp tf))) (by decide +kernel) rfl trivial ?_
        obtain ⟨r1008, h_1008, hf⟩ := bnd_s hf
        refine m_cV0 M (rest := []) (w2 := ((cM 0 sp tk sv r1008.2 mo mn ma (vb kb 52) (vb tb 26)) ++ (cMo 26 tb tp tf))) (st2 := [.int r1008.1]) (run_X4_refuse (-5)   sp tk sv mf mo mn ma (vb kb 26) (vb tb 27) h_1008) cv_X4_refuse lk_X4_85 (by decide +kernel) (rhS 52 26) (by decide) ⟨Nat.le_of_ble_eq_true rfl, Nat.le_of_ble_eq_true rfl⟩ (hwS (rvk kb) (rvt tb) (len_Mo _ _ _ _) sp tk sv mf mo mn ma) rfl rfl (Nat.le_of_ble_eq_true rfl) ⟨by decide, by decide⟩ rfl rfl (bdg hB) (hpS (rvk kb) (rvt tb) (len_Mo _ _ _ _) sp tk sv mf mo mn ma sp tk sv r1008.2 mo mn ma) rfl ?_
        refine m_run M (is := [(35, .goto 9, 0)]) (pc' := 44) (L' := [some (.ref 0), some (.int a0), some (.int a1)]) (st' := [.int r1008.1]) (w' := ((cM 0 sp tk sv r1008.2 mo mn ma (vb kb 52) (vb tb 26)) ++ (cMo 26 tb tp tf))) (by decide +kernel) rfl trivial ?_
        obtain rfl := Option.some.inj hf
        exact m_iret K (by decide +kernel) (bdg hB).1 (bdg hB).2 ⟨rfl, rfl⟩
      · refine m_jT M (i := .ifCond .ne 12) 38 (by decide +kernel) rfl (by decide) c_1007 ?_
        refine m_run M (is := [(38, .aload_n 0, 0), (39, .iload_n 1, 0), (40, .iload_n 2, 0)]) (pc' := 41) (L' := [some (.ref 0), some (.int a0), some (.int a1)]) (st' := [.int a1, .int a0, .ref 0]) (w' := ((cM 0 sp tk sv mf mo mn ma (vb kb 52) (vb tb 26)) ++ (cMo 26 tb tp tf))) (by decide +kernel) rfl trivial ?_
        obtain ⟨r1009, h_1009, hf⟩ := bnd_s hf
        refine m_cT M (rest := []) (w2 := ((cM 0 sp tk sv mf mo mn ma (vb kb 52) (.ref 26)) ++ (cM 26 r1009.2.1 nTk nSv r1009.2.2 zI zI zI .null .null))) (st2 := [.int r1009.1]) (run_X4_spreadBy a0 a1   sp tk sv mf mo mn ma kb tb tp tf h_1009) cv_X4_spreadBy lk_X4_288 (by decide +kernel) (List.range 53) List.nodup_range ⟨(by rw [List.length_range]; exact (by rw [len_T]; decide)), (by rw [List.length_range]; decide)⟩ (hwId2 (by rw [len_T]; decide)) rfl rfl (Nat.le_of_ble_eq_true rfl) ⟨by decide, by decide⟩ (pot_T _ _ _ _ _ _ _ _ _ _ _ _ _ _) hB (nrT (x := tb) (p := tp) (f := tf) sp tk sv mf mo mn ma (vb kb 52) (vb tb 26) okR_w okR_v) rfl (hpId2 (by rw [len_T]; decide) (by rw [len_T]; rfl)) rfl (fun bc bs hB => ?_)
        obtain rfl := Option.some.inj hf
        exact m_iret K (by decide +kernel) (bdg hB).1 (bdg hB).2 ⟨rfl, rfl⟩

def f_X4_fairest_L0 (v1 : Int32) (sp : ShT) : Nat → Int32 → Int32 → Int32 → AI → ShT → AI → Option (Int32 × AI × Bool × ShT × AI)
  | 0, _, _, _, _, _, _ => none
  | n_ + 1, v2, v3, v4, mf, tp, tf =>
    if sp.2.2.2.2.2.2.1 ≤ v4 then
      some (v2, mf, true, tp, tf)
    else
      (f_X4_spreadBy v4 v1 sp true tp tf).bind fun r102 =>
      if v3 ≤ r102.1 then
        if v3 ≤ r102.1 then
          f_X4_fairest_L0 v1 sp n_ v2 v3 (v4 + 1) mf r102.2.1 r102.2.2
        else
          f_X4_fairest_L0 v1 sp n_ v2 r102.1 (v4 + 1) mf r102.2.1 r102.2.2
      else
        if v3 ≤ r102.1 then
          f_X4_fairest_L0 v1 sp n_ v4 v3 (v4 + 1) mf r102.2.1 r102.2.2
        else
          f_X4_fairest_L0 v1 sp n_ v4 r102.1 (v4 + 1) mf r102.2.1 r102.2.2
def f_X4_fairest (a0 : Int32) (sp : ShT) (mf : AI) (tb : Bool) (tp : ShT) (tf : AI) : Option (Int32 × AI × Bool × ShT × AI) :=
  (f_X4_mayTurns a0).bind fun r1001 =>
  if r1001 = 0 then
    (f_X4_refuse (-2) mf).bind fun r1003 =>
    some (r1003.1, r1003.2, tb, tp, tf)
  else
    (f_X4_goesOn sp).bind fun r1004 =>
    if r1004 = 0 then
      (f_X4_refuse (-5) mf).bind fun r1006 =>
      some (r1006.1, r1006.2, tb, tp, tf)
    else
      (f_X4_spreadBy 0 a0 sp tb tp tf).bind fun r1007 =>
      f_X4_fairest_L0 a0 sp fuel0 0 r1007.1 1 mf r1007.2.1 r1007.2.2
set_option maxRecDepth 100000 in
set_option maxHeartbeats 4000000 in
theorem run_X4_fairest {l : Launch} {D : va_G} {cT : Nat → ClassId} (a0 : Int32)   (sp : ShT) (tk : TkT) (sv : SvT) (mf : AI) (mo : AI) (mn : AI) (ma : AI) (kb : Bool) (tb : Bool) (tp : ShT) (tf : AI) {r : Int32 × AI × Bool × ShT × AI} (hf : f_X4_fairest a0 sp mf tb tp tf = some r) : Runs l D cT yX4_fairest cX4_fairest 6 (some .int) 5 108 [.ref 0, .int a0] ((cM 0 sp tk sv mf mo mn ma (vb kb 52) (vb tb 26)) ++ (cMo 26 tb tp tf)) (EQ (some (.int r.1)) ((cM 0 sp tk sv r.2.1 mo mn ma (vb kb 52) (vb r.2.2.1 26)) ++ (cMo 26 r.2.2.1 r.2.2.2.1 r.2.2.2.2))) := by
  refine runs_ofT O_X4 okO_X4 (by decide +kernel) rfl rfl (Nat.le_of_ble_eq_true rfl) (by rw [len_T]; decide) (pot_T _ _ _ _ _ _ _ _ _ _ _ _ _ _) (fun g Rc Rs hB K => ?_)
  have M := K.b
  show g 0 0 ((cM 0 sp tk sv mf mo mn ma (vb kb 52) (vb tb 26)) ++ (cMo 26 tb tp tf)) 0 [some (.ref 0), some (.int a0), none, none, none, none] []
  have loop_0 : ∀ (v1 : Int32) (tb : Bool) (n_ : Nat), (∀ (v2 : Int32) (v3 : Int32) (v4 : Int32) (mf : AI) (tp : ShT) (tf : AI) (bc bs : Nat), bc + potM true ≤ Rc ∧ bs + potN true ≤ Rs → f_X4_fairest_L0 v1 sp n_ v2 v3 v4 mf tp tf = some r → g bc bs ((cM 0 sp tk sv mf mo mn ma (vb kb 52) (.ref 26)) ++ (cM 26 tp nTk nSv tf zI zI zI .null .null)) 40 [some (.ref 0), some (.int v1), some (.int v2), some (.int v3), some (.int v4), none] []) := by
    intro v1 tb n_
    induction n_ with
    | zero => intro v2 v3 v4 mf tp tf bc bs hB hf; cases hf
    | succ n_ ih =>
      intro v2 v3 v4 mf tp tf bc bs hB hf
      rw [f_X4_fairest_L0] at hf
      refine m_run M (is := [(40, .iload 4, 0), (42, .aload_n 0, 0), (43, .getfield 76, 0)]) (pc' := 46) (L' := [some (.ref 0), some (.int v1), some (.int v2), some (.int v3), some (.int v4), none]) (st' := [.int sp.2.2.2.2.2.2.1, .int v4]) (w' := ((cM 0 sp tk sv mf mo mn ma (vb kb 52) (.ref 26)) ++ (cM 26 tp nTk nSv tf zI zI zI .null .null))) (by decide +kernel) rfl trivial ?_
      rcases ite_s hf with ⟨c_101, hf⟩ | ⟨c_101, hf⟩
      · refine m_jT M (i := .if_icmp .ge 44) 90 (by decide +kernel) rfl (by decide) c_101 ?_
        refine m_run M (is := [(90, .iload_n 2, 0)]) (pc' := 91) (L' := [some (.ref 0), some (.int v1), some (.int v2), some (.int v3), some (.int v4), none]) (st' := [.int v2]) (w' := ((cM 0 sp tk sv mf mo mn ma (vb kb 52) (.ref 26)) ++ (cM 26 tp nTk nSv tf zI zI zI .null .null))) (by decide +kernel) rfl trivial ?_
        obtain rfl := Option.some.inj hf
        exact m_iret K (by decide +kernel) (bdg hB).1 (bdg hB).2 ⟨rfl, rfl⟩
      · refine m_jF M (i := .if_icmp .ge 44) 90 (by decide +kernel) rfl (by decide) c_101 ?_
        refine m_run M (is := [(49, .aload_n 0, 0), (50, .iload 4, 0), (52, .iload_n 1, 0)]) (pc' := 53) (L' := [some (.ref 0), some (.int v1), some (.int v2), some (.int v3), some (.int v4), none]) (st' := [.int v1, .int v4, .ref 0]) (w' := ((cM 0 sp tk sv mf mo mn ma (vb kb 52) (.ref 26)) ++ (cM 26 tp nTk nSv tf zI zI zI .null .null))) (by decide +kernel) rfl trivial ?_
        obtain ⟨r102, h_102, hf⟩ := bnd_s hf
        refine m_cT M (rest := []) (w2 := ((cM 0 sp tk sv mf mo mn ma (vb kb 52) (.ref 26)) ++ (cM 26 r102.2.1 nTk nSv r102.2.2 zI zI zI .null .null))) (st2 := [.int r102.1]) (run_X4_spreadBy v4 v1   sp tk sv mf mo mn ma kb true tp tf h_102) cv_X4_spreadBy lk_X4_288 (by decide +kernel) (List.range 53) List.nodup_range ⟨(by rw [List.length_range]; exact (Nat.le_of_ble_eq_true rfl)), (by rw [List.length_range]; decide)⟩ (hwId2 (Nat.le_of_ble_eq_true rfl)) rfl rfl (Nat.le_of_ble_eq_true rfl) ⟨by decide, by decide⟩ (pot_T _ _ _ _ _ _ _ _ _ _ _ _ _ _) hB (nrT (x := true) (p := tp) (f := tf) sp tk sv mf mo mn ma (vb kb 52) (.ref 26) okR_w rfl) rfl (hpId2 (Nat.le_of_ble_eq_true rfl) rfl) rfl (fun bc bs hB => ?_)
        refine m_run M (is := [(56, .istore 5, 0), (58, .iload 5, 0), (60, .iload_n 3, 0)]) (pc' := 61) (L' := [some (.ref 0), some (.int v1), some (.int v2), some (.int v3), some (.int v4), some (.int r102.1)]) (st' := [.int v3, .int r102.1]) (w' := ((cM 0 sp tk sv mf mo mn ma (vb kb 52) (.ref 26)) ++ (cM 26 r102.2.1 nTk nSv r102.2.2 zI zI zI .null .null))) (by decide +kernel) rfl trivial ?_
        rcases ite_s hf with ⟨c_103, hf⟩ | ⟨c_103, hf⟩
        · refine m_jT M (i := .if_icmp .ge 8) 69 (by decide +kernel) rfl (by decide) c_103 ?_
          refine m_run M (is := [(69, .iload_n 2, 0), (70, .istore_n 2, 0), (71, .iload 5, 0), (73, .iload_n 3, 0)]) (pc' := 74) (L' := [some (.ref 0), some (.int v1), some (.int v2), some (.int v3), some (.int v4), some (.int r102.1)]) (st' := [.int v3, .int r102.1]) (w' := ((cM 0 sp tk sv mf mo mn ma (vb kb 52) (.ref 26)) ++ (cM 26 r102.2.1 nTk nSv r102.2.2 zI zI zI .null .null))) (by decide +kernel) rfl trivial ?_
          rcases ite_s hf with ⟨c_104, hf⟩ | ⟨c_104, hf⟩
          · refine m_jT M (i := .if_icmp .ge 8) 82 (by decide +kernel) rfl (by decide) c_104 ?_
            refine m_run M (is := [(82, .iload_n 3, 0), (83, .istore_n 3, 0), (84, .iinc 4 1, 1), (87, .goto (-47), 0)]) (pc' := 40) (L' := [some (.ref 0), some (.int v1), some (.int v2), some (.int v3), some (.int (v4 + 1)), some (.int r102.1)]) (st' := []) (w' := ((cM 0 sp tk sv mf mo mn ma (vb kb 52) (.ref 26)) ++ (cM 26 r102.2.1 nTk nSv r102.2.2 zI zI zI .null .null))) (by decide +kernel) rfl trivial ?_
            refine m_wk M [some (.ref 0), some (.int v1), some (.int v2), some (.int v3), some (.int (v4 + 1)), none] ⟨Or.inr rfl, Or.inr rfl, Or.inr rfl, Or.inr rfl, Or.inr rfl, Or.inl rfl, trivial⟩ ?_
            exact ih v2 v3 (v4 + 1) mf r102.2.1 r102.2.2 _ _ hB hf
          · refine m_jF M (i := .if_icmp .ge 8) 82 (by decide +kernel) rfl (by decide) c_104 ?_
            refine m_run M (is := [(77, .iload 5, 0), (79, .goto 4, 0), (83, .istore_n 3, 0), (84, .iinc 4 1, 1), (87, .goto (-47), 0)]) (pc' := 40) (L' := [some (.ref 0), some (.int v1), some (.int v2), some (.int r102.1), some (.int (v4 + 1)), some (.int r102.1)]) (st' := []) (w' := ((cM 0 sp tk sv mf mo mn ma (vb kb 52) (.ref 26)) ++ (cM 26 r102.2.1 nTk nSv r102.2.2 zI zI zI .null .null))) (by decide +kernel) rfl trivial ?_
            refine m_wk M [some (.ref 0), some (.int v1), some (.int v2), some (.int r102.1), some (.int (v4 + 1)), none] ⟨Or.inr rfl, Or.inr rfl, Or.inr rfl, Or.inr rfl, Or.inr rfl, Or.inl rfl, trivial⟩ ?_
            exact ih v2 r102.1 (v4 + 1) mf r102.2.1 r102.2.2 _ _ hB hf
        · refine m_jF M (i := .if_icmp .ge 8) 69 (by decide +kernel) rfl (by decide) c_103 ?_
          refine m_run M (is := [(64, .iload 4, 0), (66, .goto 4, 0), (70, .istore_n 2, 0), (71, .iload 5, 0), (73, .iload_n 3, 0)]) (pc' := 74) (L' := [some (.ref 0), some (.int v1), some (.int v4), some (.int v3), some (.int v4), some (.int r102.1)]) (st' := [.int v3, .int r102.1]) (w' := ((cM 0 sp tk sv mf mo mn ma (vb kb 52) (.ref 26)) ++ (cM 26 r102.2.1 nTk nSv r102.2.2 zI zI zI .null .null))) (by decide +kernel) rfl trivial ?_
          rcases ite_s hf with ⟨c_105, hf⟩ | ⟨c_105, hf⟩
          · refine m_jT M (i := .if_icmp .ge 8) 82 (by decide +kernel) rfl (by decide) c_105 ?_
            refine m_run M (is := [(82, .iload_n 3, 0), (83, .istore_n 3, 0), (84, .iinc 4 1, 1), (87, .goto (-47), 0)]) (pc' := 40) (L' := [some (.ref 0), some (.int v1), some (.int v4), some (.int v3), some (.int (v4 + 1)), some (.int r102.1)]) (st' := []) (w' := ((cM 0 sp tk sv mf mo mn ma (vb kb 52) (.ref 26)) ++ (cM 26 r102.2.1 nTk nSv r102.2.2 zI zI zI .null .null))) (by decide +kernel) rfl trivial ?_
            refine m_wk M [some (.ref 0), some (.int v1), some (.int v4), some (.int v3), some (.int (v4 + 1)), none] ⟨Or.inr rfl, Or.inr rfl, Or.inr rfl, Or.inr rfl, Or.inr rfl, Or.inl rfl, trivial⟩ ?_
            exact ih v4 v3 (v4 + 1) mf r102.2.1 r102.2.2 _ _ hB hf
          · refine m_jF M (i := .if_icmp .ge 8) 82 (by decide +kernel) rfl (by decide) c_105 ?_
            refine m_run M (is := [(77, .iload 5, 0), (79, .goto 4, 0), (83, .istore_n 3, 0), (84, .iinc 4 1, 1), (87, .goto (-47), 0)]) (pc' := 40) (L' := [some (.ref 0), some (.int v1), some (.int v4), some (.int r102.1), some (.int (v4 + 1)), some (.int r102.1)]) (st' := []) (w' := ((cM 0 sp tk sv mf mo mn ma (vb kb 52) (.ref 26)) ++ (cM 26 r102.2.1 nTk nSv r102.2.2 zI zI zI .null .null))) (by decide +kernel) rfl trivial ?_
            refine m_wk M [some (.ref 0), some (.int v1), some (.int v4), some (.int r102.1), some (.int (v4 + 1)), none] ⟨Or.inr rfl, Or.inr rfl, Or.inr rfl, Or.inr rfl, Or.inr rfl, Or.inl rfl, trivial⟩ ?_
            exact ih v4 r102.1 (v4 + 1) mf r102.2.1 r102.2.2 _ _ hB hf
  rw [f_X4_fairest] at hf
  refine m_run M (is := [(0, .iload_n 1, 0)]) (pc' := 1) (L' := [some (.ref 0), some (.int a0), none, none, none, none]) (st' := [.int a0]) (w' := ((cM 0 sp tk sv mf mo mn ma (vb kb 52) (vb tb 26)) ++ (cMo 26 tb tp tf))) (by decide +kernel) rfl trivial ?_
  obtain ⟨r1001, h_1001, hf⟩ := bnd_s hf
  refine m_cS0 M (rest := []) (w2 := ((cM 0 sp tk sv mf mo mn ma (vb kb 52) (vb tb 26)) ++ (cMo 26 tb tp tf))) (st2 := [.int r1001]) (run_X4_mayTurns a0    h_1001) cs_X4_mayTurns lk_X4_255 (by decide +kernel) [] (by decide) ⟨Nat.le_of_ble_eq_true rfl, Nat.le_of_ble_eq_true rfl⟩ rfl rfl (Nat.le_of_ble_eq_true rfl) ⟨by decide, by decide⟩ rfl rfl (bdg hB) rfl rfl ?_
  rcases ite_s hf with ⟨c_1002, hf⟩ | ⟨c_1002, hf⟩
  · refine m_jF M (i := .ifCond .ne 10) 14 (by decide +kernel) rfl (by decide) (fun n => n c_1002) ?_
    refine m_run M (is := [(7, .aload_n 0, 0), (8, .bipush (-2), -2)]) (pc' := 10) (L' := [some (.ref 0), some (.int a0), none, none, none, none]) (st' := [.int (-2), .ref 0]) (w' := ((cM 0 sp tk sv mf mo mn ma (vb kb 52) (vb tb 26)) ++ (cMo 26 tb tp tf))) (by decide +kernel) rfl trivial ?_
    obtain ⟨r1003, h_1003, hf⟩ := bnd_s hf
    refine m_cV0 M (rest := []) (w2 := ((cM 0 sp tk sv r1003.2 mo mn ma (vb kb 52) (vb tb 26)) ++ (cMo 26 tb tp tf))) (st2 := [.int r1003.1]) (run_X4_refuse (-2)   sp tk sv mf mo mn ma (vb kb 26) (vb tb 27) h_1003) cv_X4_refuse lk_X4_85 (by decide +kernel) (rhS 52 26) (by decide) ⟨Nat.le_of_ble_eq_true rfl, Nat.le_of_ble_eq_true rfl⟩ (hwS (rvk kb) (rvt tb) (len_Mo _ _ _ _) sp tk sv mf mo mn ma) rfl rfl (Nat.le_of_ble_eq_true rfl) ⟨by decide, by decide⟩ rfl rfl (bdg hB) (hpS (rvk kb) (rvt tb) (len_Mo _ _ _ _) sp tk sv mf mo mn ma sp tk sv r1003.2 mo mn ma) rfl ?_
    obtain rfl := Option.some.inj hf
    exact m_iret K (by decide +kernel) (bdg hB).1 (bdg hB).2 ⟨rfl, rfl⟩
  · refine m_jT M (i := .ifCond .ne 10) 14 (by decide +kernel) rfl (by decide) c_1002 ?_
    refine m_run M (is := [(14, .aload_n 0, 0)]) (pc' := 15) (L' := [some (.ref 0), some (.int a0), none, none, none, none]) (st' := [.ref 0]) (w' := ((cM 0 sp tk sv mf mo mn ma (vb kb 52) (vb tb 26)) ++ (cMo 26 tb tp tf))) (by decide +kernel) rfl trivial ?_
    obtain ⟨r1004, h_1004, hf⟩ := bnd_s hf
    refine m_cV0 M (rest := []) (w2 := ((cM 0 sp tk sv mf mo mn ma (vb kb 52) (vb tb 26)) ++ (cMo 26 tb tp tf))) (st2 := [.int r1004]) (run_X4_goesOn    sp tk sv mf mo mn ma (vb kb 26) (vb tb 27) h_1004) cv_X4_goesOn lk_X4_184 (by decide +kernel) (rhS 52 26) (by decide) ⟨Nat.le_of_ble_eq_true rfl, Nat.le_of_ble_eq_true rfl⟩ (hwS (rvk kb) (rvt tb) (len_Mo _ _ _ _) sp tk sv mf mo mn ma) rfl rfl (Nat.le_of_ble_eq_true rfl) ⟨by decide, by decide⟩ rfl rfl (bdg hB) (hpS (rvk kb) (rvt tb) (len_Mo _ _ _ _) sp tk sv mf mo mn ma sp tk sv mf mo mn ma) rfl ?_
    rcases ite_s hf with ⟨c_1005, hf⟩ | ⟨c_1005, hf⟩
    · refine m_jF M (i := .ifCond .ne 10) 28 (by decide +kernel) rfl (by decide) (fun n => n c_1005) ?_
      refine m_run M (is := [(21, .aload_n 0, 0), (22, .bipush (-5), -5)]) (pc' := 24) (L' := [some (.ref 0), some (.int a0), none, none, none, none]) (st' := [.int (-5), .ref 0]) (w' := ((cM 0 sp tk sv mf mo mn ma (vb kb 52) (vb tb 26)) ++ (cMo 26 tb tp tf))) (by decide +kernel) rfl trivial ?_
      obtain ⟨r1006, h_1006, hf⟩ := bnd_s hf
      refine m_cV0 M (rest := []) (w2 := ((cM 0 sp tk sv r1006.2 mo mn ma (vb kb 52) (vb tb 26)) ++ (cMo 26 tb tp tf))) (st2 := [.int r1006.1]) (run_X4_refuse (-5)   sp tk sv mf mo mn ma (vb kb 26) (vb tb 27) h_1006) cv_X4_refuse lk_X4_85 (by decide +kernel) (rhS 52 26) (by decide) ⟨Nat.le_of_ble_eq_true rfl, Nat.le_of_ble_eq_true rfl⟩ (hwS (rvk kb) (rvt tb) (len_Mo _ _ _ _) sp tk sv mf mo mn ma) rfl rfl (Nat.le_of_ble_eq_true rfl) ⟨by decide, by decide⟩ rfl rfl (bdg hB) (hpS (rvk kb) (rvt tb) (len_Mo _ _ _ _) sp tk sv mf mo mn ma sp tk sv r1006.2 mo mn ma) rfl ?_
      obtain rfl := Option.some.inj hf
      exact m_iret K (by decide +kernel) (bdg hB).1 (bdg hB).2 ⟨rfl, rfl⟩
    · refine m_jT M (i := .ifCond .ne 10) 28 (by decide +kernel) rfl (by decide) c_1005 ?_
      refine m_run M (is := [(28, .iconst 0, 0), (29, .istore_n 2, 0), (30, .aload_n 0, 0), (31, .iconst 0, 0), (32, .iload_n 1, 0)]) (pc' := 33) (L' := [some (.ref 0), some (.int a0), some (.int 0), none, none, none]) (st' := [.int a0, .int 0, .ref 0]) (w' := ((cM 0 sp tk sv mf mo mn ma (vb kb 52) (vb tb 26)) ++ (cMo 26 tb tp tf))) (by decide +kernel) rfl trivial ?_
      obtain ⟨r1007, h_1007, hf⟩ := bnd_s hf
      refine m_cT M (rest := []) (w2 := ((cM 0 sp tk sv mf mo mn ma (vb kb 52) (.ref 26)) ++ (cM 26 r1007.2.1 nTk nSv r1007.2.2 zI zI zI .null .null))) (st2 := [.int r1007.1]) (run_X4_spreadBy 0 a0   sp tk sv mf mo mn ma kb tb tp tf h_1007) cv_X4_spreadBy lk_X4_288 (by decide +kernel) (List.range 53) List.nodup_range ⟨(by rw [List.length_range]; exact (by rw [len_T]; decide)), (by rw [List.length_range]; decide)⟩ (hwId2 (by rw [len_T]; decide)) rfl rfl (Nat.le_of_ble_eq_true rfl) ⟨by decide, by decide⟩ (pot_T _ _ _ _ _ _ _ _ _ _ _ _ _ _) hB (nrT (x := tb) (p := tp) (f := tf) sp tk sv mf mo mn ma (vb kb 52) (vb tb 26) okR_w okR_v) rfl (hpId2 (by rw [len_T]; decide) (by rw [len_T]; rfl)) rfl (fun bc bs hB => ?_)
      refine m_run M (is := [(36, .istore_n 3, 0), (37, .iconst 1, 1), (38, .istore 4, 0)]) (pc' := 40) (L' := [some (.ref 0), some (.int a0), some (.int 0), some (.int r1007.1), some (.int 1), none]) (st' := []) (w' := ((cM 0 sp tk sv mf mo mn ma (vb kb 52) (.ref 26)) ++ (cM 26 r1007.2.1 nTk nSv r1007.2.2 zI zI zI .null .null))) (by decide +kernel) rfl trivial ?_
      exact loop_0 a0 true fuel0 0 r1007.1 1 mf r1007.2.1 r1007.2.2 _ _ hB hf

def f_X4_judge (a0 : Int32) (a1 : Int32) (sp : ShT) (sv : SvT) (mf : AI) (tb : Bool) (tp : ShT) (tf : AI) : Option (Int32 × AI × Bool × ShT × AI) :=
  (f_X4_noSlate a0 a1 sp sv mf).bind fun r1001 =>
  if r1001.1 = 0 then
    (f_X4_fresh sp tb tp tf).bind fun r1003 =>
    if inB a0 8 then
    (f_X4_wrongIn a1 r1003.1 (sv.2.2.2.2.2 a0.toNatClampNeg)).bind fun r1005 =>
    some (r1005.1, r1001.2, true, r1005.2, r1003.2)
    else none
  else
    some (r1001.1, r1001.2, tb, tp, tf)
set_option maxRecDepth 100000 in
set_option maxHeartbeats 4000000 in
theorem run_X4_judge {l : Launch} {D : va_G} {cT : Nat → ClassId} (a0 : Int32) (a1 : Int32)   (sp : ShT) (tk : TkT) (sv : SvT) (mf : AI) (mo : AI) (mn : AI) (ma : AI) (kb : Bool) (tb : Bool) (tp : ShT) (tf : AI) {r : Int32 × AI × Bool × ShT × AI} (hf : f_X4_judge a0 a1 sp sv mf tb tp tf = some r) : Runs l D cT yX4_judge cX4_judge 4 (some .int) 3 71 [.ref 0, .int a0, .int a1] ((cM 0 sp tk sv mf mo mn ma (vb kb 52) (vb tb 26)) ++ (cMo 26 tb tp tf)) (EQ (some (.int r.1)) ((cM 0 sp tk sv r.2.1 mo mn ma (vb kb 52) (vb r.2.2.1 26)) ++ (cMo 26 r.2.2.1 r.2.2.2.1 r.2.2.2.2))) := by
  refine runs_ofT O_X4 okO_X4 (by decide +kernel) rfl rfl (Nat.le_of_ble_eq_true rfl) (by rw [len_T]; decide) (pot_T _ _ _ _ _ _ _ _ _ _ _ _ _ _) (fun g Rc Rs hB K => ?_)
  have M := K.b
  show g 0 0 ((cM 0 sp tk sv mf mo mn ma (vb kb 52) (vb tb 26)) ++ (cMo 26 tb tp tf)) 0 [some (.ref 0), some (.int a0), some (.int a1), none] []
  rw [f_X4_judge] at hf
  refine m_run M (is := [(0, .aload_n 0, 0), (1, .iload_n 1, 0), (2, .iload_n 2, 0)]) (pc' := 3) (L' := [some (.ref 0), some (.int a0), some (.int a1), none]) (st' := [.int a1, .int a0, .ref 0]) (w' := ((cM 0 sp tk sv mf mo mn ma (vb kb 52) (vb tb 26)) ++ (cMo 26 tb tp tf))) (by decide +kernel) rfl trivial ?_
  obtain ⟨r1001, h_1001, hf⟩ := bnd_s hf
  refine m_cV0 M (rest := []) (w2 := ((cM 0 sp tk sv r1001.2 mo mn ma (vb kb 52) (vb tb 26)) ++ (cMo 26 tb tp tf))) (st2 := [.int r1001.1]) (run_X4_noSlate a0 a1   sp tk sv mf mo mn ma (vb kb 26) (vb tb 27) h_1001) cv_X4_noSlate lk_X4_291 (by decide +kernel) (rhS 52 26) (by decide) ⟨Nat.le_of_ble_eq_true rfl, Nat.le_of_ble_eq_true rfl⟩ (hwS (rvk kb) (rvt tb) (len_Mo _ _ _ _) sp tk sv mf mo mn ma) rfl rfl (Nat.le_of_ble_eq_true rfl) ⟨by decide, by decide⟩ rfl rfl (bdg hB) (hpS (rvk kb) (rvt tb) (len_Mo _ _ _ _) sp tk sv mf mo mn ma sp tk sv r1001.2 mo mn ma) rfl ?_
  refine m_run M (is := [(6, .istore_n 3, 0), (7, .iload_n 3, 0)]) (pc' := 8) (L' := [some (.ref 0), some (.int a0), some (.int a1), some (.int r1001.1)]) (st' := [.int r1001.1]) (w' := ((cM 0 sp tk sv r1001.2 mo mn ma (vb kb 52) (vb tb 26)) ++ (cMo 26 tb tp tf))) (by decide +kernel) rfl trivial ?_
  rcases ite_s hf with ⟨c_1002, hf⟩ | ⟨c_1002, hf⟩
  · refine m_jT M (i := .ifCond .eq 7) 15 (by decide +kernel) rfl (by decide) c_1002 ?_
    refine m_run M (is := [(15, .aload_n 0, 0)]) (pc' := 16) (L' := [some (.ref 0), some (.int a0), some (.int a1), some (.int r1001.1)]) (st' := [.ref 0]) (w' := ((cM 0 sp tk sv r1001.2 mo mn ma (vb kb 52) (vb tb 26)) ++ (cMo 26 tb tp tf))) (by decide +kernel) rfl trivial ?_
    obtain ⟨r1003, h_1003, hf⟩ := bnd_s hf
    refine m_cT M (rest := []) (w2 := ((cM 0 sp tk sv r1001.2 mo mn ma (vb kb 52) (.ref 26)) ++ (cM 26 r1003.1 nTk nSv r1003.2 zI zI zI .null .null))) (st2 := [.ref 26]) (run_X4_fresh    sp tk sv r1001.2 mo mn ma kb tb tp tf h_1003) cv_X4_fresh lk_X4_234 (by decide +kernel) (List.range 53) List.nodup_range ⟨(by rw [List.length_range]; exact (by rw [len_T]; decide)), (by rw [List.length_range]; decide)⟩ (hwId2 (by rw [len_T]; decide)) rfl rfl (Nat.le_of_ble_eq_true rfl) ⟨by decide, by decide⟩ (pot_T _ _ _ _ _ _ _ _ _ _ _ _ _ _) hB (nrT (x := tb) (p := tp) (f := tf) sp tk sv r1001.2 mo mn ma (vb kb 52) (vb tb 26) okR_w okR_v) rfl (hpId2 (by rw [len_T]; decide) (by rw [len_T]; rfl)) rfl (fun bc bs hB => ?_)
    obtain ⟨h_1004, hf⟩ := grd_s hf
    refine m_run M (is := [(19, .aload_n 0, 0), (20, .getfield 21, 0), (23, .iload_n 1, 0)]) (pc' := 24) (L' := [some (.ref 0), some (.int a0), some (.int a1), some (.int r1001.1)]) (st' := [.int a0, .ref 4, .ref 26]) (w' := ((cM 0 sp tk sv r1001.2 mo mn ma (vb kb 52) (.ref 26)) ++ (cM 26 r1003.1 nTk nSv r1003.2 zI zI zI .null .null))) (by decide +kernel) rfl trivial ?_
    refine m_run M (is := [(24, .aaload, 0)]) (pc' := 25) (L' := [some (.ref 0), some (.int a0), some (.int a1), some (.int r1001.1)]) (st' := [.ref (18 + a0.toNatClampNeg), .ref 26]) (w' := ((cM 0 sp tk sv r1001.2 mo mn ma (vb kb 52) (.ref 26)) ++ (cM 26 r1003.1 nTk nSv r1003.2 zI zI zI .null .null))) (by decide +kernel) (s_aald rfl rfl (fM_18 (inB_lt h_1004))) ⟨inB_use h_1004, trivial⟩ ?_
    refine m_run M (is := [(25, .iload_n 2, 0)]) (pc' := 26) (L' := [some (.ref 0), some (.int a0), some (.int a1), some (.int r1001.1)]) (st' := [.int a1, .ref (18 + a0.toNatClampNeg), .ref 26]) (w' := ((cM 0 sp tk sv r1001.2 mo mn ma (vb kb 52) (.ref 26)) ++ (cM 26 r1003.1 nTk nSv r1003.2 zI zI zI .null .null))) (by decide +kernel) rfl trivial ?_
    obtain ⟨r1005, h_1005, hf⟩ := bnd_s hf
    refine m_cV0 M (rest := []) (w2 := ((cM 0 sp tk sv r1001.2 mo mn ma (vb kb 52) (.ref 26)) ++ (cM 26 r1005.2 nTk nSv r1003.2 zI zI zI .null .null))) (st2 := [.int r1005.1]) (run_X4_wrongIn a1   r1003.1 nTk nSv r1003.2 zI zI zI (sv.2.2.2.2.2 a0.toNatClampNeg) h_1005) cv_X4_wrongIn lk_X4_294 (by decide +kernel) (rhW a0.toNatClampNeg) (ndW (inB_lt h_1004)) ⟨Nat.le_of_ble_eq_true rfl, Nat.le_of_ble_eq_true rfl⟩ (hwW (inB_lt h_1004) sp tk sv r1001.2 mo mn ma r1003.1 nTk nSv r1003.2 zI zI zI) rfl rfl (Nat.le_of_ble_eq_true rfl) ⟨by decide, by decide⟩ rfl rfl (bdg hB) (hpW (inB_lt h_1004) sp tk sv r1001.2 mo mn ma r1003.1 nTk nSv r1003.2 zI zI zI r1005.2 nTk nSv r1003.2 zI zI zI) rfl ?_
    obtain rfl := Option.some.inj hf
    exact m_iret K (by decide +kernel) (bdg hB).1 (bdg hB).2 ⟨rfl, rfl⟩
  · refine m_jF M (i := .ifCond .eq 7) 15 (by decide +kernel) rfl (by decide) c_1002 ?_
    refine m_run M (is := [(11, .iload_n 3, 0), (12, .goto 17, 0)]) (pc' := 29) (L' := [some (.ref 0), some (.int a0), some (.int a1), some (.int r1001.1)]) (st' := [.int r1001.1]) (w' := ((cM 0 sp tk sv r1001.2 mo mn ma (vb kb 52) (vb tb 26)) ++ (cMo 26 tb tp tf))) (by decide +kernel) rfl trivial ?_
    obtain rfl := Option.some.inj hf
    exact m_iret K (by decide +kernel) (bdg hB).1 (bdg hB).2 ⟨rfl, rfl⟩

def f_X4_fits_L0 (v1 : Int32) (v2 : Int32) (sp : ShT) (sv : SvT) : Nat → Int32 → Int32 → AI → Bool → ShT → AI → Option (Int32 × AI × Bool × ShT × AI)
  | 0, _, _, _, _, _, _ => none
  | n_ + 1, v4, v5, mf, tb, tp, tf =>
    if sp.2.2.2.2.2.2.1 ≤ v5 then
      some (v4, mf, tb, tp, tf)
    else
      (f_X4_fresh sp tb tp tf).bind fun r102 =>
      if inB v1 8 then
      (f_X4_wrongIn v2 (r102.1.1, r102.1.2.1, r102.1.2.2.1, r102.1.2.2.2.1, r102.1.2.2.2.2.1, r102.1.2.2.2.2.2.1, r102.1.2.2.2.2.2.2.1, v5, r102.1.2.2.2.2.2.2.2.2.1, r102.1.2.2.2.2.2.2.2.2.2) (sv.2.2.2.2.2 v1.toNatClampNeg)).bind fun r104 =>
      if r104.1 = (-1) then
        f_X4_fits_L0 v1 v2 sp sv n_ (v4 ||| (1 <<< (v5 &&& 31))) (v5 + 1) mf true r104.2 r102.2
      else
        f_X4_fits_L0 v1 v2 sp sv n_ (v4 ||| 0) (v5 + 1) mf true r104.2 r102.2
      else none
def f_X4_fits (a0 : Int32) (a1 : Int32) (sp : ShT) (sv : SvT) (mf : AI) (tb : Bool) (tp : ShT) (tf : AI) : Option (Int32 × AI × Bool × ShT × AI) :=
  (f_X4_noSlate a0 a1 sp sv mf).bind fun r1001 =>
  if r1001.1 = 0 then
    f_X4_fits_L0 a0 a1 sp sv fuel0 0 0 r1001.2 tb tp tf
  else
    some (r1001.1, r1001.2, tb, tp, tf)
set_option maxRecDepth 100000 in
set_option maxHeartbeats 4000000 in
theorem run_X4_fits {l : Launch} {D : va_G} {cT : Nat → ClassId} (a0 : Int32) (a1 : Int32)   (sp : ShT) (tk : TkT) (sv : SvT) (mf : AI) (mo : AI) (mn : AI) (ma : AI) (kb : Bool) (tb : Bool) (tp : ShT) (tf : AI) {r : Int32 × AI × Bool × ShT × AI} (hf : f_X4_fits a0 a1 sp sv mf tb tp tf = some r) : Runs l D cT yX4_fits cX4_fits 7 (some .int) 3 71 [.ref 0, .int a0, .int a1] ((cM 0 sp tk sv mf mo mn ma (vb kb 52) (vb tb 26)) ++ (cMo 26 tb tp tf)) (EQ (some (.int r.1)) ((cM 0 sp tk sv r.2.1 mo mn ma (vb kb 52) (vb r.2.2.1 26)) ++ (cMo 26 r.2.2.1 r.2.2.2.1 r.2.2.2.2))) := by
  refine runs_ofT O_X4 okO_X4 (by decide +kernel) rfl rfl (Nat.le_of_ble_eq_true rfl) (by rw [len_T]; decide) (pot_T _ _ _ _ _ _ _ _ _ _ _ _ _ _) (fun g Rc Rs hB K => ?_)
  have M := K.b
  show g 0 0 ((cM 0 sp tk sv mf mo mn ma (vb kb 52) (vb tb 26)) ++ (cMo 26 tb tp tf)) 0 [some (.ref 0), some (.int a0), some (.int a1), none, none, none, none] []
  have loop_0 : ∀ (v1 : Int32) (v2 : Int32) (n_ : Nat), (∀ (v4 : Int32) (v5 : Int32) (mf : AI) (tb : Bool) (tp : ShT) (tf : AI) (bc bs : Nat), bc + potM tb ≤ Rc ∧ bs + potN tb ≤ Rs → f_X4_fits_L0 v1 v2 sp sv n_ v4 v5 mf tb tp tf = some r → g bc bs ((cM 0 sp tk sv mf mo mn ma (vb kb 52) (vb tb 26)) ++ (cMo 26 tb tp tf)) 19 [some (.ref 0), some (.int v1), some (.int v2), none, some (.int v4), some (.int v5), none] []) := by
    intro v1 v2 n_
    induction n_ with
    | zero => intro v4 v5 mf tb tp tf bc bs hB hf; cases hf
    | succ n_ ih =>
      intro v4 v5 mf tb tp tf bc bs hB hf
      rw [f_X4_fits_L0] at hf
      refine m_run M (is := [(19, .iload 5, 0), (21, .aload_n 0, 0), (22, .getfield 76, 0)]) (pc' := 25) (L' := [some (.ref 0), some (.int v1), some (.int v2), none, some (.int v4), some (.int v5), none]) (st' := [.int sp.2.2.2.2.2.2.1, .int v5]) (w' := ((cM 0 sp tk sv mf mo mn ma (vb kb 52) (vb tb 26)) ++ (cMo 26 tb tp tf))) (by decide +kernel) rfl trivial ?_
      rcases ite_s hf with ⟨c_101, hf⟩ | ⟨c_101, hf⟩
      · refine m_jT M (i := .if_icmp .ge 51) 76 (by decide +kernel) rfl (by decide) c_101 ?_
        refine m_run M (is := [(76, .iload 4, 0)]) (pc' := 78) (L' := [some (.ref 0), some (.int v1), some (.int v2), none, some (.int v4), some (.int v5), none]) (st' := [.int v4]) (w' := ((cM 0 sp tk sv mf mo mn ma (vb kb 52) (vb tb 26)) ++ (cMo 26 tb tp tf))) (by decide +kernel) rfl trivial ?_
        obtain rfl := Option.some.inj hf
        exact m_iret K (by decide +kernel) (bdg hB).1 (bdg hB).2 ⟨rfl, rfl⟩
      · refine m_jF M (i := .if_icmp .ge 51) 76 (by decide +kernel) rfl (by decide) c_101 ?_
        refine m_run M (is := [(28, .aload_n 0, 0)]) (pc' := 29) (L' := [some (.ref 0), some (.int v1), some (.int v2), none, some (.int v4), some (.int v5), none]) (st' := [.ref 0]) (w' := ((cM 0 sp tk sv mf mo mn ma (vb kb 52) (vb tb 26)) ++ (cMo 26 tb tp tf))) (by decide +kernel) rfl trivial ?_
        obtain ⟨r102, h_102, hf⟩ := bnd_s hf
        refine m_cT M (rest := []) (w2 := ((cM 0 sp tk sv mf mo mn ma (vb kb 52) (.ref 26)) ++ (cM 26 r102.1 nTk nSv r102.2 zI zI zI .null .null))) (st2 := [.ref 26]) (run_X4_fresh    sp tk sv mf mo mn ma kb tb tp tf h_102) cv_X4_fresh lk_X4_234 (by decide +kernel) (List.range 53) List.nodup_range ⟨(by rw [List.length_range]; exact (by rw [len_T]; decide)), (by rw [List.length_range]; decide)⟩ (hwId2 (by rw [len_T]; decide)) rfl rfl (Nat.le_of_ble_eq_true rfl) ⟨by decide, by decide⟩ (pot_T _ _ _ _ _ _ _ _ _ _ _ _ _ _) hB (nrT (x := tb) (p := tp) (f := tf) sp tk sv mf mo mn ma (vb kb 52) (vb tb 26) okR_w okR_v) rfl (hpId2 (by rw [len_T]; decide) (by rw [len_T]; rfl)) rfl (fun bc bs hB => ?_)
        obtain ⟨h_103, hf⟩ := grd_s hf
        refine m_run M (is := [(32, .astore 6, 0), (34, .aload 6, 0), (36, .iload 5, 0), (38, .putfield 123, 0), (41, .iload 4, 0), (43, .aload 6, 0), (45, .aload_n 0, 0), (46, .getfield 21, 0), (49, .iload_n 1, 0)]) (pc' := 50) (L' := [some (.ref 0), some (.int v1), some (.int v2), none, some (.int v4), some (.int v5), some (.ref 26)]) (st' := [.int v1, .ref 4, .ref 26, .int v4]) (w' := ((cM 0 sp tk sv mf mo mn ma (vb kb 52) (.ref 26)) ++ (cM 26 (r102.1.1, r102.1.2.1, r102.1.2.2.1, r102.1.2.2.2.1, r102.1.2.2.2.2.1, r102.1.2.2.2.2.2.1, r102.1.2.2.2.2.2.2.1, v5, r102.1.2.2.2.2.2.2.2.2.1, r102.1.2.2.2.2.2.2.2.2.2) nTk nSv r102.2 zI zI zI .null .null))) (by decide +kernel) rfl trivial ?_
        refine m_run M (is := [(50, .aaload, 0)]) (pc' := 51) (L' := [some (.ref 0), some (.int v1), some (.int v2), none, some (.int v4), some (.int v5), some (.ref 26)]) (st' := [.ref (18 + v1.toNatClampNeg), .ref 26, .int v4]) (w' := ((cM 0 sp tk sv mf mo mn ma (vb kb 52) (.ref 26)) ++ (cM 26 (r102.1.1, r102.1.2.1, r102.1.2.2.1, r102.1.2.2.2.1, r102.1.2.2.2.2.1, r102.1.2.2.2.2.2.1, r102.1.2.2.2.2.2.2.1, v5, r102.1.2.2.2.2.2.2.2.2.1, r102.1.2.2.2.2.2.2.2.2.2) nTk nSv r102.2 zI zI zI .null .null))) (by decide +kernel) (s_aald rfl rfl (fM_18 (inB_lt h_103))) ⟨inB_use h_103, trivial⟩ ?_
        refine m_run M (is := [(51, .iload_n 2, 0)]) (pc' := 52) (L' := [some (.ref 0), some (.int v1), some (.int v2), none, some (.int v4), some (.int v5), some (.ref 26)]) (st' := [.int v2, .ref (18 + v1.toNatClampNeg), .ref 26, .int v4]) (w' := ((cM 0 sp tk sv mf mo mn ma (vb kb 52) (.ref 26)) ++ (cM 26 (r102.1.1, r102.1.2.1, r102.1.2.2.1, r102.1.2.2.2.1, r102.1.2.2.2.2.1, r102.1.2.2.2.2.2.1, r102.1.2.2.2.2.2.2.1, v5, r102.1.2.2.2.2.2.2.2.2.1, r102.1.2.2.2.2.2.2.2.2.2) nTk nSv r102.2 zI zI zI .null .null))) (by decide +kernel) rfl trivial ?_
        obtain ⟨r104, h_104, hf⟩ := bnd_s hf
        refine m_cV0 M (rest := [.int v4]) (w2 := ((cM 0 sp tk sv mf mo mn ma (vb kb 52) (.ref 26)) ++ (cM 26 r104.2 nTk nSv r102.2 zI zI zI .null .null))) (st2 := [.int r104.1, .int v4]) (run_X4_wrongIn v2   (r102.1.1, r102.1.2.1, r102.1.2.2.1, r102.1.2.2.2.1, r102.1.2.2.2.2.1, r102.1.2.2.2.2.2.1, r102.1.2.2.2.2.2.2.1, v5, r102.1.2.2.2.2.2.2.2.2.1, r102.1.2.2.2.2.2.2.2.2.2) nTk nSv r102.2 zI zI zI (sv.2.2.2.2.2 v1.toNatClampNeg) h_104) cv_X4_wrongIn lk_X4_294 (by decide +kernel) (rhW v1.toNatClampNeg) (ndW (inB_lt h_103)) ⟨Nat.le_of_ble_eq_true rfl, Nat.le_of_ble_eq_true rfl⟩ (hwW (inB_lt h_103) sp tk sv mf mo mn ma (r102.1.1, r102.1.2.1, r102.1.2.2.1, r102.1.2.2.2.1, r102.1.2.2.2.2.1, r102.1.2.2.2.2.2.1, r102.1.2.2.2.2.2.2.1, v5, r102.1.2.2.2.2.2.2.2.2.1, r102.1.2.2.2.2.2.2.2.2.2) nTk nSv r102.2 zI zI zI) rfl rfl (Nat.le_of_ble_eq_true rfl) ⟨by decide, by decide⟩ rfl rfl (bdg hB) (hpW (inB_lt h_103) sp tk sv mf mo mn ma (r102.1.1, r102.1.2.1, r102.1.2.2.1, r102.1.2.2.2.1, r102.1.2.2.2.2.1, r102.1.2.2.2.2.2.1, r102.1.2.2.2.2.2.2.1, v5, r102.1.2.2.2.2.2.2.2.2.1, r102.1.2.2.2.2.2.2.2.2.2) nTk nSv r102.2 zI zI zI r104.2 nTk nSv r102.2 zI zI zI) rfl ?_
        refine m_run M (is := [(55, .iconst (-1), -1)]) (pc' := 56) (L' := [some (.ref 0), some (.int v1), some (.int v2), none, some (.int v4), some (.int v5), some (.ref 26)]) (st' := [.int (-1), .int r104.1, .int v4]) (w' := ((cM 0 sp tk sv mf mo mn ma (vb kb 52) (.ref 26)) ++ (cM 26 r104.2 nTk nSv r102.2 zI zI zI .null .null))) (by decide +kernel) rfl trivial ?_
        rcases ite_s hf with ⟨c_105, hf⟩ | ⟨c_105, hf⟩
        · refine m_jF M (i := .if_icmp .ne 10) 66 (by decide +kernel) rfl (by decide) (fun n => n c_105) ?_
          refine m_run M (is := [(59, .iconst 1, 1), (60, .iload 5, 0), (62, .ishl, 0), (63, .goto 4, 0), (67, .ior, 0), (68, .istore 4, 0), (70, .iinc 5 1, 1), (73, .goto (-54), 0)]) (pc' := 19) (L' := [some (.ref 0), some (.int v1), some (.int v2), none, some (.int (v4 ||| (1 <<< (v5 &&& 31)))), some (.int (v5 + 1)), some (.ref 26)]) (st' := []) (w' := ((cM 0 sp tk sv mf mo mn ma (vb kb 52) (.ref 26)) ++ (cM 26 r104.2 nTk nSv r102.2 zI zI zI .null .null))) (by decide +kernel) rfl trivial ?_
          refine m_wk M [some (.ref 0), some (.int v1), some (.int v2), none, some (.int (v4 ||| (1 <<< (v5 &&& 31)))), some (.int (v5 + 1)), none] ⟨Or.inr rfl, Or.inr rfl, Or.inr rfl, Or.inr rfl, Or.inr rfl, Or.inr rfl, Or.inl rfl, trivial⟩ ?_
          exact ih (v4 ||| (1 <<< (v5 &&& 31))) (v5 + 1) mf true r104.2 r102.2 _ _ hB hf
        · refine m_jT M (i := .if_icmp .ne 10) 66 (by decide +kernel) rfl (by decide) c_105 ?_
          refine m_run M (is := [(66, .iconst 0, 0), (67, .ior, 0), (68, .istore 4, 0), (70, .iinc 5 1, 1), (73, .goto (-54), 0)]) (pc' := 19) (L' := [some (.ref 0), some (.int v1), some (.int v2), none, some (.int (v4 ||| 0)), some (.int (v5 + 1)), some (.ref 26)]) (st' := []) (w' := ((cM 0 sp tk sv mf mo mn ma (vb kb 52) (.ref 26)) ++ (cM 26 r104.2 nTk nSv r102.2 zI zI zI .null .null))) (by decide +kernel) rfl trivial ?_
          refine m_wk M [some (.ref 0), some (.int v1), some (.int v2), none, some (.int (v4 ||| 0)), some (.int (v5 + 1)), none] ⟨Or.inr rfl, Or.inr rfl, Or.inr rfl, Or.inr rfl, Or.inr rfl, Or.inr rfl, Or.inl rfl, trivial⟩ ?_
          exact ih (v4 ||| 0) (v5 + 1) mf true r104.2 r102.2 _ _ hB hf
  rw [f_X4_fits] at hf
  refine m_run M (is := [(0, .aload_n 0, 0), (1, .iload_n 1, 0), (2, .iload_n 2, 0)]) (pc' := 3) (L' := [some (.ref 0), some (.int a0), some (.int a1), none, none, none, none]) (st' := [.int a1, .int a0, .ref 0]) (w' := ((cM 0 sp tk sv mf mo mn ma (vb kb 52) (vb tb 26)) ++ (cMo 26 tb tp tf))) (by decide +kernel) rfl trivial ?_
  obtain ⟨r1001, h_1001, hf⟩ := bnd_s hf
  refine m_cV0 M (rest := []) (w2 := ((cM 0 sp tk sv r1001.2 mo mn ma (vb kb 52) (vb tb 26)) ++ (cMo 26 tb tp tf))) (st2 := [.int r1001.1]) (run_X4_noSlate a0 a1   sp tk sv mf mo mn ma (vb kb 26) (vb tb 27) h_1001) cv_X4_noSlate lk_X4_291 (by decide +kernel) (rhS 52 26) (by decide) ⟨Nat.le_of_ble_eq_true rfl, Nat.le_of_ble_eq_true rfl⟩ (hwS (rvk kb) (rvt tb) (len_Mo _ _ _ _) sp tk sv mf mo mn ma) rfl rfl (Nat.le_of_ble_eq_true rfl) ⟨by decide, by decide⟩ rfl rfl (bdg hB) (hpS (rvk kb) (rvt tb) (len_Mo _ _ _ _) sp tk sv mf mo mn ma sp tk sv r1001.2 mo mn ma) rfl ?_
  refine m_run M (is := [(6, .istore_n 3, 0), (7, .iload_n 3, 0)]) (pc' := 8) (L' := [some (.ref 0), some (.int a0), some (.int a1), some (.int r1001.1), none, none, none]) (st' := [.int r1001.1]) (w' := ((cM 0 sp tk sv r1001.2 mo mn ma (vb kb 52) (vb tb 26)) ++ (cMo 26 tb tp tf))) (by decide +kernel) rfl trivial ?_
  rcases ite_s hf with ⟨c_1002, hf⟩ | ⟨c_1002, hf⟩
  · refine m_jT M (i := .ifCond .eq 5) 13 (by decide +kernel) rfl (by decide) c_1002 ?_
    refine m_run M (is := [(13, .iconst 0, 0), (14, .istore 4, 0), (16, .iconst 0, 0), (17, .istore 5, 0)]) (pc' := 19) (L' := [some (.ref 0), some (.int a0), some (.int a1), some (.int r1001.1), some (.int 0), some (.int 0), none]) (st' := []) (w' := ((cM 0 sp tk sv r1001.2 mo mn ma (vb kb 52) (vb tb 26)) ++ (cMo 26 tb tp tf))) (by decide +kernel) rfl trivial ?_
    refine m_wk M [some (.ref 0), some (.int a0), some (.int a1), none, some (.int 0), some (.int 0), none] ⟨Or.inr rfl, Or.inr rfl, Or.inr rfl, Or.inl rfl, Or.inr rfl, Or.inr rfl, Or.inr rfl, trivial⟩ ?_
    exact loop_0 a0 a1 fuel0 0 0 r1001.2 tb tp tf _ _ hB hf
  · refine m_jF M (i := .ifCond .eq 5) 13 (by decide +kernel) rfl (by decide) c_1002 ?_
    refine m_run M (is := [(11, .iload_n 3, 0)]) (pc' := 12) (L' := [some (.ref 0), some (.int a0), some (.int a1), some (.int r1001.1), none, none, none]) (st' := [.int r1001.1]) (w' := ((cM 0 sp tk sv r1001.2 mo mn ma (vb kb 52) (vb tb 26)) ++ (cMo 26 tb tp tf))) (by decide +kernel) rfl trivial ?_
    obtain rfl := Option.some.inj hf
    exact m_iret K (by decide +kernel) (bdg hB).1 (bdg hB).2 ⟨rfl, rfl⟩

def f_X4_pushed_L0 (v1 : Int32) (v2 : Int32) (sp : ShT) (sv : SvT) : Nat → Nat → Int32 → Int32 → AI → ShT → AI → Option (Int32 × AI × Bool × ShT × AI)
  | 0, _, _, _, _, _, _ => none
  | n_ + 1, lb_, v4, v5, mf, tp, tf =>
    if lb_ = 0 then
      if sp.2.2.2.2.2.1 ≤ v4 then
        some ((-1), mf, true, tp, tf)
      else
        f_X4_pushed_L0 v1 v2 sp sv n_ 1 v4 0 mf tp tf
    else
      if sp.2.2.2.2.2.1 ≤ v5 then
        f_X4_pushed_L0 v1 v2 sp sv n_ 0 (v4 + 1) 0 mf tp tf
      else
        (f_X4_fresh sp true tp tf).bind fun r122 =>
        (f_X4_movesTo v4 v5 r122.1).bind fun r123 =>
        if inB v1 8 then
        (f_X4_wrongIn v2 r123 (sv.2.2.2.2.2 v1.toNatClampNeg)).bind fun r125 =>
        if r125.1 = (-1) then
          some (((100 * v4) + v5), mf, true, r125.2, r122.2)
        else
          f_X4_pushed_L0 v1 v2 sp sv n_ 1 v4 (v5 + 1) mf r125.2 r122.2
        else none
def f_X4_pushed (a0 : Int32) (a1 : Int32) (sp : ShT) (sv : SvT) (mf : AI) (tb : Bool) (tp : ShT) (tf : AI) : Option (Int32 × AI × Bool × ShT × AI) :=
  (f_X4_noSlate a0 a1 sp sv mf).bind fun r1001 =>
  if r1001.1 = 0 then
    (f_X4_fresh sp tb tp tf).bind fun r1003 =>
    if inB a0 8 then
    (f_X4_wrongIn a1 r1003.1 (sv.2.2.2.2.2 a0.toNatClampNeg)).bind fun r1005 =>
    if r1005.1 = (-1) then
      some ((-1), r1001.2, true, r1005.2, r1003.2)
    else
      f_X4_pushed_L0 a0 a1 sp sv fuel0 0 0 0 r1001.2 r1005.2 r1003.2
    else none
  else
    some (r1001.1, r1001.2, tb, tp, tf)
set_option maxRecDepth 100000 in
set_option maxHeartbeats 4000000 in
theorem run_X4_pushed {l : Launch} {D : va_G} {cT : Nat → ClassId} (a0 : Int32) (a1 : Int32)   (sp : ShT) (tk : TkT) (sv : SvT) (mf : AI) (mo : AI) (mn : AI) (ma : AI) (kb : Bool) (tb : Bool) (tp : ShT) (tf : AI) {r : Int32 × AI × Bool × ShT × AI} (hf : f_X4_pushed a0 a1 sp sv mf tb tp tf = some r) : Runs l D cT yX4_pushed cX4_pushed 7 (some .int) 3 71 [.ref 0, .int a0, .int a1] ((cM 0 sp tk sv mf mo mn ma (vb kb 52) (vb tb 26)) ++ (cMo 26 tb tp tf)) (EQ (some (.int r.1)) ((cM 0 sp tk sv r.2.1 mo mn ma (vb kb 52) (vb r.2.2.1 26)) ++ (cMo 26 r.2.2.1 r.2.2.2.1 r.2.2.2.2))) := by
  refine runs_ofT O_X4 okO_X4 (by decide +kernel) rfl rfl (Nat.le_of_ble_eq_true rfl) (by rw [len_T]; decide) (pot_T _ _ _ _ _ _ _ _ _ _ _ _ _ _) (fun g Rc Rs hB K => ?_)
  have M := K.b
  show g 0 0 ((cM 0 sp tk sv mf mo mn ma (vb kb 52) (vb tb 26)) ++ (cMo 26 tb tp tf)) 0 [some (.ref 0), some (.int a0), some (.int a1), none, none, none, none] []
  have loop_0 : ∀ (v1 : Int32) (v2 : Int32) (tb : Bool) (n_ : Nat), (∀ (v4 : Int32) (v5 : Int32) (mf : AI) (tp : ShT) (tf : AI) (bc bs : Nat), bc + potM true ≤ Rc ∧ bs + potN true ≤ Rs → f_X4_pushed_L0 v1 v2 sp sv n_ 0 v4 v5 mf tp tf = some r → g bc bs ((cM 0 sp tk sv mf mo mn ma (vb kb 52) (.ref 26)) ++ (cM 26 tp nTk nSv tf zI zI zI .null .null)) 36 [some (.ref 0), some (.int v1), some (.int v2), none, some (.int v4), none, none] []) ∧ (∀ (v4 : Int32) (v5 : Int32) (mf : AI) (tp : ShT) (tf : AI) (bc bs : Nat), bc + potM true ≤ Rc ∧ bs + potN true ≤ Rs → f_X4_pushed_L0 v1 v2 sp sv n_ 1 v4 v5 mf tp tf = some r → g bc bs ((cM 0 sp tk sv mf mo mn ma (vb kb 52) (.ref 26)) ++ (cM 26 tp nTk nSv tf zI zI zI .null .null)) 48 [some (.ref 0), some (.int v1), some (.int v2), none, some (.int v4), some (.int v5), none] []) := by
    intro v1 v2 tb n_
    induction n_ with
    | zero => exact ⟨fun v4 v5 mf tp tf bc bs hB hf => (by cases hf), fun v4 v5 mf tp tf bc bs hB hf => (by cases hf)⟩
    | succ n_ ih =>
      refine ⟨?_, ?_⟩
      · intro v4 v5 mf tp tf bc bs hB hf
        rw [f_X4_pushed_L0] at hf
        rw [if_pos rfl] at hf
        refine m_run M (is := [(36, .iload 4, 0), (38, .aload_n 0, 0), (39, .getfield 69, 0)]) (pc' := 42) (L' := [some (.ref 0), some (.int v1), some (.int v2), none, some (.int v4), none, none]) (st' := [.int sp.2.2.2.2.2.1, .int v4]) (w' := ((cM 0 sp tk sv mf mo mn ma (vb kb 52) (.ref 26)) ++ (cM 26 tp nTk nSv tf zI zI zI .null .null))) (by decide +kernel) rfl trivial ?_
        rcases ite_s hf with ⟨c_101, hf⟩ | ⟨c_101, hf⟩
        · refine m_jT M (i := .if_icmp .ge 67) 109 (by decide +kernel) rfl (by decide) c_101 ?_
          refine m_run M (is := [(109, .iconst (-1), -1)]) (pc' := 110) (L' := [some (.ref 0), some (.int v1), some (.int v2), none, some (.int v4), none, none]) (st' := [.int (-1)]) (w' := ((cM 0 sp tk sv mf mo mn ma (vb kb 52) (.ref 26)) ++ (cM 26 tp nTk nSv tf zI zI zI .null .null))) (by decide +kernel) rfl trivial ?_
          obtain rfl := Option.some.inj hf
          exact m_iret K (by decide +kernel) (bdg hB).1 (bdg hB).2 ⟨rfl, rfl⟩
        · refine m_jF M (i := .if_icmp .ge 67) 109 (by decide +kernel) rfl (by decide) c_101 ?_
          refine m_run M (is := [(45, .iconst 0, 0), (46, .istore 5, 0)]) (pc' := 48) (L' := [some (.ref 0), some (.int v1), some (.int v2), none, some (.int v4), some (.int 0), none]) (st' := []) (w' := ((cM 0 sp tk sv mf mo mn ma (vb kb 52) (.ref 26)) ++ (cM 26 tp nTk nSv tf zI zI zI .null .null))) (by decide +kernel) rfl trivial ?_
          exact (ih).2 v4 0 mf tp tf _ _ hB hf
      · intro v4 v5 mf tp tf bc bs hB hf
        rw [f_X4_pushed_L0] at hf
        rw [if_neg (by decide)] at hf
        refine m_run M (is := [(48, .iload 5, 0), (50, .aload_n 0, 0), (51, .getfield 69, 0)]) (pc' := 54) (L' := [some (.ref 0), some (.int v1), some (.int v2), none, some (.int v4), some (.int v5), none]) (st' := [.int sp.2.2.2.2.2.1, .int v5]) (w' := ((cM 0 sp tk sv mf mo mn ma (vb kb 52) (.ref 26)) ++ (cM 26 tp nTk nSv tf zI zI zI .null .null))) (by decide +kernel) rfl trivial ?_
        rcases ite_s hf with ⟨c_121, hf⟩ | ⟨c_121, hf⟩
        · refine m_jT M (i := .if_icmp .ge 49) 103 (by decide +kernel) rfl (by decide) c_121 ?_
          refine m_run M (is := [(103, .iinc 4 1, 1), (106, .goto (-70), 0)]) (pc' := 36) (L' := [some (.ref 0), some (.int v1), some (.int v2), none, some (.int (v4 + 1)), some (.int v5), none]) (st' := []) (w' := ((cM 0 sp tk sv mf mo mn ma (vb kb 52) (.ref 26)) ++ (cM 26 tp nTk nSv tf zI zI zI .null .null))) (by decide +kernel) rfl trivial ?_
          refine m_wk M [some (.ref 0), some (.int v1), some (.int v2), none, some (.int (v4 + 1)), none, none] ⟨Or.inr rfl, Or.inr rfl, Or.inr rfl, Or.inr rfl, Or.inr rfl, Or.inl rfl, Or.inr rfl, trivial⟩ ?_
          exact (ih).1 (v4 + 1) 0 mf tp tf _ _ hB hf
        · refine m_jF M (i := .if_icmp .ge 49) 103 (by decide +kernel) rfl (by decide) c_121 ?_
          refine m_run M (is := [(57, .aload_n 0, 0)]) (pc' := 58) (L' := [some (.ref 0), some (.int v1), some (.int v2), none, some (.int v4), some (.int v5), none]) (st' := [.ref 0]) (w' := ((cM 0 sp tk sv mf mo mn ma (vb kb 52) (.ref 26)) ++ (cM 26 tp nTk nSv tf zI zI zI .null .null))) (by decide +kernel) rfl trivial ?_
          obtain ⟨r122, h_122, hf⟩ := bnd_s hf
          refine m_cT M (rest := []) (w2 := ((cM 0 sp tk sv mf mo mn ma (vb kb 52) (.ref 26)) ++ (cM 26 r122.1 nTk nSv r122.2 zI zI zI .null .null))) (st2 := [.ref 26]) (run_X4_fresh    sp tk sv mf mo mn ma kb true tp tf h_122) cv_X4_fresh lk_X4_234 (by decide +kernel) (List.range 53) List.nodup_range ⟨(by rw [List.length_range]; exact (Nat.le_of_ble_eq_true rfl)), (by rw [List.length_range]; decide)⟩ (hwId2 (Nat.le_of_ble_eq_true rfl)) rfl rfl (Nat.le_of_ble_eq_true rfl) ⟨by decide, by decide⟩ (pot_T _ _ _ _ _ _ _ _ _ _ _ _ _ _) hB (nrT (x := true) (p := tp) (f := tf) sp tk sv mf mo mn ma (vb kb 52) (.ref 26) okR_w rfl) rfl (hpId2 (Nat.le_of_ble_eq_true rfl) rfl) rfl (fun bc bs hB => ?_)
          refine m_run M (is := [(61, .astore 6, 0), (63, .aload 6, 0), (65, .iload 4, 0), (67, .iload 5, 0)]) (pc' := 69) (L' := [some (.ref 0), some (.int v1), some (.int v2), none, some (.int v4), some (.int v5), some (.ref 26)]) (st' := [.int v5, .int v4, .ref 26]) (w' := ((cM 0 sp tk sv mf mo mn ma (vb kb 52) (.ref 26)) ++ (cM 26 r122.1 nTk nSv r122.2 zI zI zI .null .null))) (by decide +kernel) rfl trivial ?_
          obtain ⟨r123, h_123, hf⟩ := bnd_s hf
          refine m_cV0 M (rest := []) (w2 := ((cM 0 sp tk sv mf mo mn ma (vb kb 52) (.ref 26)) ++ (cM 26 r123 nTk nSv r122.2 zI zI zI .null .null))) (st2 := []) (run_X4_movesTo v4 v5   r122.1 nTk nSv r122.2 zI zI zI .null .null h_123) cv_X4_movesTo lk_X4_252 (by decide +kernel) rhT (by decide) ⟨Nat.le_of_ble_eq_true rfl, Nat.le_of_ble_eq_true rfl⟩ (hwT sp tk sv mf mo mn ma r122.1 nTk nSv r122.2 zI zI zI) rfl rfl (Nat.le_of_ble_eq_true rfl) ⟨by decide, by decide⟩ rfl rfl (bdg hB) (hpT sp tk sv mf mo mn ma r122.1 nTk nSv r122.2 zI zI zI r123 nTk nSv r122.2 zI zI zI) rfl ?_
          obtain ⟨h_124, hf⟩ := grd_s hf
          refine m_run M (is := [(72, .aload 6, 0), (74, .aload_n 0, 0), (75, .getfield 21, 0), (78, .iload_n 1, 0)]) (pc' := 79) (L' := [some (.ref 0), some (.int v1), some (.int v2), none, some (.int v4), some (.int v5), some (.ref 26)]) (st' := [.int v1, .ref 4, .ref 26]) (w' := ((cM 0 sp tk sv mf mo mn ma (vb kb 52) (.ref 26)) ++ (cM 26 r123 nTk nSv r122.2 zI zI zI .null .null))) (by decide +kernel) rfl trivial ?_
          refine m_run M (is := [(79, .aaload, 0)]) (pc' := 80) (L' := [some (.ref 0), some (.int v1), some (.int v2), none, some (.int v4), some (.int v5), some (.ref 26)]) (st' := [.ref (18 + v1.toNatClampNeg), .ref 26]) (w' := ((cM 0 sp tk sv mf mo mn ma (vb kb 52) (.ref 26)) ++ (cM 26 r123 nTk nSv r122.2 zI zI zI .null .null))) (by decide +kernel) (s_aald rfl rfl (fM_18 (inB_lt h_124))) ⟨inB_use h_124, trivial⟩ ?_
          refine m_run M (is := [(80, .iload_n 2, 0)]) (pc' := 81) (L' := [some (.ref 0), some (.int v1), some (.int v2), none, some (.int v4), some (.int v5), some (.ref 26)]) (st' := [.int v2, .ref (18 + v1.toNatClampNeg), .ref 26]) (w' := ((cM 0 sp tk sv mf mo mn ma (vb kb 52) (.ref 26)) ++ (cM 26 r123 nTk nSv r122.2 zI zI zI .null .null))) (by decide +kernel) rfl trivial ?_
          obtain ⟨r125, h_125, hf⟩ := bnd_s hf
          refine m_cV0 M (rest := []) (w2 := ((cM 0 sp tk sv mf mo mn ma (vb kb 52) (.ref 26)) ++ (cM 26 r125.2 nTk nSv r122.2 zI zI zI .null .null))) (st2 := [.int r125.1]) (run_X4_wrongIn v2   r123 nTk nSv r122.2 zI zI zI (sv.2.2.2.2.2 v1.toNatClampNeg) h_125) cv_X4_wrongIn lk_X4_294 (by decide +kernel) (rhW v1.toNatClampNeg) (ndW (inB_lt h_124)) ⟨Nat.le_of_ble_eq_true rfl, Nat.le_of_ble_eq_true rfl⟩ (hwW (inB_lt h_124) sp tk sv mf mo mn ma r123 nTk nSv r122.2 zI zI zI) rfl rfl (Nat.le_of_ble_eq_true rfl) ⟨by decide, by decide⟩ rfl rfl (bdg hB) (hpW (inB_lt h_124) sp tk sv mf mo mn ma r123 nTk nSv r122.2 zI zI zI r125.2 nTk nSv r122.2 zI zI zI) rfl ?_
          refine m_run M (is := [(84, .iconst (-1), -1)]) (pc' := 85) (L' := [some (.ref 0), some (.int v1), some (.int v2), none, some (.int v4), some (.int v5), some (.ref 26)]) (st' := [.int (-1), .int r125.1]) (w' := ((cM 0 sp tk sv mf mo mn ma (vb kb 52) (.ref 26)) ++ (cM 26 r125.2 nTk nSv r122.2 zI zI zI .null .null))) (by decide +kernel) rfl trivial ?_
          rcases ite_s hf with ⟨c_126, hf⟩ | ⟨c_126, hf⟩
          · refine m_jF M (i := .if_icmp .ne 12) 97 (by decide +kernel) rfl (by decide) (fun n => n c_126) ?_
            refine m_run M (is := [(88, .bipush 100, 100), (90, .iload 4, 0), (92, .imul, 0), (93, .iload 5, 0), (95, .iadd, 0)]) (pc' := 96) (L' := [some (.ref 0), some (.int v1), some (.int v2), none, some (.int v4), some (.int v5), some (.ref 26)]) (st' := [.int ((100 * v4) + v5)]) (w' := ((cM 0 sp tk sv mf mo mn ma (vb kb 52) (.ref 26)) ++ (cM 26 r125.2 nTk nSv r122.2 zI zI zI .null .null))) (by decide +kernel) rfl trivial ?_
            obtain rfl := Option.some.inj hf
            exact m_iret K (by decide +kernel) (bdg hB).1 (bdg hB).2 ⟨rfl, rfl⟩
          · refine m_jT M (i := .if_icmp .ne 12) 97 (by decide +kernel) rfl (by decide) c_126 ?_
            refine m_run M (is := [(97, .iinc 5 1, 1), (100, .goto (-52), 0)]) (pc' := 48) (L' := [some (.ref 0), some (.int v1), some (.int v2), none, some (.int v4), some (.int (v5 + 1)), some (.ref 26)]) (st' := []) (w' := ((cM 0 sp tk sv mf mo mn ma (vb kb 52) (.ref 26)) ++ (cM 26 r125.2 nTk nSv r122.2 zI zI zI .null .null))) (by decide +kernel) rfl trivial ?_
            refine m_wk M [some (.ref 0), some (.int v1), some (.int v2), none, some (.int v4), some (.int (v5 + 1)), none] ⟨Or.inr rfl, Or.inr rfl, Or.inr rfl, Or.inr rfl, Or.inr rfl, Or.inr rfl, Or.inl rfl, trivial⟩ ?_
            exact (ih).2 v4 (v5 + 1) mf r125.2 r122.2 _ _ hB hf
  rw [f_X4_pushed] at hf
  refine m_run M (is := [(0, .aload_n 0, 0), (1, .iload_n 1, 0), (2, .iload_n 2, 0)]) (pc' := 3) (L' := [some (.ref 0), some (.int a0), some (.int a1), none, none, none, none]) (st' := [.int a1, .int a0, .ref 0]) (w' := ((cM 0 sp tk sv mf mo mn ma (vb kb 52) (vb tb 26)) ++ (cMo 26 tb tp tf))) (by decide +kernel) rfl trivial ?_
  obtain ⟨r1001, h_1001, hf⟩ := bnd_s hf
  refine m_cV0 M (rest := []) (w2 := ((cM 0 sp tk sv r1001.2 mo mn ma (vb kb 52) (vb tb 26)) ++ (cMo 26 tb tp tf))) (st2 := [.int r1001.1]) (run_X4_noSlate a0 a1   sp tk sv mf mo mn ma (vb kb 26) (vb tb 27) h_1001) cv_X4_noSlate lk_X4_291 (by decide +kernel) (rhS 52 26) (by decide) ⟨Nat.le_of_ble_eq_true rfl, Nat.le_of_ble_eq_true rfl⟩ (hwS (rvk kb) (rvt tb) (len_Mo _ _ _ _) sp tk sv mf mo mn ma) rfl rfl (Nat.le_of_ble_eq_true rfl) ⟨by decide, by decide⟩ rfl rfl (bdg hB) (hpS (rvk kb) (rvt tb) (len_Mo _ _ _ _) sp tk sv mf mo mn ma sp tk sv r1001.2 mo mn ma) rfl ?_
  refine m_run M (is := [(6, .istore_n 3, 0), (7, .iload_n 3, 0)]) (pc' := 8) (L' := [some (.ref 0), some (.int a0), some (.int a1), some (.int r1001.1), none, none, none]) (st' := [.int r1001.1]) (w' := ((cM 0 sp tk sv r1001.2 mo mn ma (vb kb 52) (vb tb 26)) ++ (cMo 26 tb tp tf))) (by decide +kernel) rfl trivial ?_
  rcases ite_s hf with ⟨c_1002, hf⟩ | ⟨c_1002, hf⟩
  · refine m_jT M (i := .ifCond .eq 5) 13 (by decide +kernel) rfl (by decide) c_1002 ?_
    refine m_run M (is := [(13, .aload_n 0, 0)]) (pc' := 14) (L' := [some (.ref 0), some (.int a0), some (.int a1), some (.int r1001.1), none, none, none]) (st' := [.ref 0]) (w' := ((cM 0 sp tk sv r1001.2 mo mn ma (vb kb 52) (vb tb 26)) ++ (cMo 26 tb tp tf))) (by decide +kernel) rfl trivial ?_
    obtain ⟨r1003, h_1003, hf⟩ := bnd_s hf
    refine m_cT M (rest := []) (w2 := ((cM 0 sp tk sv r1001.2 mo mn ma (vb kb 52) (.ref 26)) ++ (cM 26 r1003.1 nTk nSv r1003.2 zI zI zI .null .null))) (st2 := [.ref 26]) (run_X4_fresh    sp tk sv r1001.2 mo mn ma kb tb tp tf h_1003) cv_X4_fresh lk_X4_234 (by decide +kernel) (List.range 53) List.nodup_range ⟨(by rw [List.length_range]; exact (by rw [len_T]; decide)), (by rw [List.length_range]; decide)⟩ (hwId2 (by rw [len_T]; decide)) rfl rfl (Nat.le_of_ble_eq_true rfl) ⟨by decide, by decide⟩ (pot_T _ _ _ _ _ _ _ _ _ _ _ _ _ _) hB (nrT (x := tb) (p := tp) (f := tf) sp tk sv r1001.2 mo mn ma (vb kb 52) (vb tb 26) okR_w okR_v) rfl (hpId2 (by rw [len_T]; decide) (by rw [len_T]; rfl)) rfl (fun bc bs hB => ?_)
    obtain ⟨h_1004, hf⟩ := grd_s hf
    refine m_run M (is := [(17, .aload_n 0, 0), (18, .getfield 21, 0), (21, .iload_n 1, 0)]) (pc' := 22) (L' := [some (.ref 0), some (.int a0), some (.int a1), some (.int r1001.1), none, none, none]) (st' := [.int a0, .ref 4, .ref 26]) (w' := ((cM 0 sp tk sv r1001.2 mo mn ma (vb kb 52) (.ref 26)) ++ (cM 26 r1003.1 nTk nSv r1003.2 zI zI zI .null .null))) (by decide +kernel) rfl trivial ?_
    refine m_run M (is := [(22, .aaload, 0)]) (pc' := 23) (L' := [some (.ref 0), some (.int a0), some (.int a1), some (.int r1001.1), none, none, none]) (st' := [.ref (18 + a0.toNatClampNeg), .ref 26]) (w' := ((cM 0 sp tk sv r1001.2 mo mn ma (vb kb 52) (.ref 26)) ++ (cM 26 r1003.1 nTk nSv r1003.2 zI zI zI .null .null))) (by decide +kernel) (s_aald rfl rfl (fM_18 (inB_lt h_1004))) ⟨inB_use h_1004, trivial⟩ ?_
    refine m_run M (is := [(23, .iload_n 2, 0)]) (pc' := 24) (L' := [some (.ref 0), some (.int a0), some (.int a1), some (.int r1001.1), none, none, none]) (st' := [.int a1, .ref (18 + a0.toNatClampNeg), .ref 26]) (w' := ((cM 0 sp tk sv r1001.2 mo mn ma (vb kb 52) (.ref 26)) ++ (cM 26 r1003.1 nTk nSv r1003.2 zI zI zI .null .null))) (by decide +kernel) rfl trivial ?_
    obtain ⟨r1005, h_1005, hf⟩ := bnd_s hf
    refine m_cV0 M (rest := []) (w2 := ((cM 0 sp tk sv r1001.2 mo mn ma (vb kb 52) (.ref 26)) ++ (cM 26 r1005.2 nTk nSv r1003.2 zI zI zI .null .null))) (st2 := [.int r1005.1]) (run_X4_wrongIn a1   r1003.1 nTk nSv r1003.2 zI zI zI (sv.2.2.2.2.2 a0.toNatClampNeg) h_1005) cv_X4_wrongIn lk_X4_294 (by decide +kernel) (rhW a0.toNatClampNeg) (ndW (inB_lt h_1004)) ⟨Nat.le_of_ble_eq_true rfl, Nat.le_of_ble_eq_true rfl⟩ (hwW (inB_lt h_1004) sp tk sv r1001.2 mo mn ma r1003.1 nTk nSv r1003.2 zI zI zI) rfl rfl (Nat.le_of_ble_eq_true rfl) ⟨by decide, by decide⟩ rfl rfl (bdg hB) (hpW (inB_lt h_1004) sp tk sv r1001.2 mo mn ma r1003.1 nTk nSv r1003.2 zI zI zI r1005.2 nTk nSv r1003.2 zI zI zI) rfl ?_
    refine m_run M (is := [(27, .iconst (-1), -1)]) (pc' := 28) (L' := [some (.ref 0), some (.int a0), some (.int a1), some (.int r1001.1), none, none, none]) (st' := [.int (-1), .int r1005.1]) (w' := ((cM 0 sp tk sv r1001.2 mo mn ma (vb kb 52) (.ref 26)) ++ (cM 26 r1005.2 nTk nSv r1003.2 zI zI zI .null .null))) (by decide +kernel) rfl trivial ?_
    rcases ite_s hf with ⟨c_1006, hf⟩ | ⟨c_1006, hf⟩
    · refine m_jF M (i := .if_icmp .ne 5) 33 (by decide +kernel) rfl (by decide) (fun n => n c_1006) ?_
      refine m_run M (is := [(31, .iconst (-1), -1)]) (pc' := 32) (L' := [some (.ref 0), some (.int a0), some (.int a1), some (.int r1001.1), none, none, none]) (st' := [.int (-1)]) (w' := ((cM 0 sp tk sv r1001.2 mo mn ma (vb kb 52) (.ref 26)) ++ (cM 26 r1005.2 nTk nSv r1003.2 zI zI zI .null .null))) (by decide +kernel) rfl trivial ?_
      obtain rfl := Option.some.inj hf
      exact m_iret K (by decide +kernel) (bdg hB).1 (bdg hB).2 ⟨rfl, rfl⟩
    · refine m_jT M (i := .if_icmp .ne 5) 33 (by decide +kernel) rfl (by decide) c_1006 ?_
      refine m_run M (is := [(33, .iconst 0, 0), (34, .istore 4, 0)]) (pc' := 36) (L' := [some (.ref 0), some (.int a0), some (.int a1), some (.int r1001.1), some (.int 0), none, none]) (st' := []) (w' := ((cM 0 sp tk sv r1001.2 mo mn ma (vb kb 52) (.ref 26)) ++ (cM 26 r1005.2 nTk nSv r1003.2 zI zI zI .null .null))) (by decide +kernel) rfl trivial ?_
      refine m_wk M [some (.ref 0), some (.int a0), some (.int a1), none, some (.int 0), none, none] ⟨Or.inr rfl, Or.inr rfl, Or.inr rfl, Or.inl rfl, Or.inr rfl, Or.inr rfl, Or.inr rfl, trivial⟩ ?_
      exact (loop_0 a0 a1 true fuel0).1 0 0 r1001.2 r1005.2 r1003.2 _ _ hB hf
  · refine m_jF M (i := .ifCond .eq 5) 13 (by decide +kernel) rfl (by decide) c_1002 ?_
    refine m_run M (is := [(11, .iload_n 3, 0)]) (pc' := 12) (L' := [some (.ref 0), some (.int a0), some (.int a1), some (.int r1001.1), none, none, none]) (st' := [.int r1001.1]) (w' := ((cM 0 sp tk sv r1001.2 mo mn ma (vb kb 52) (vb tb 26)) ++ (cMo 26 tb tp tf))) (by decide +kernel) rfl trivial ?_
    obtain rfl := Option.some.inj hf
    exact m_iret K (by decide +kernel) (bdg hB).1 (bdg hB).2 ⟨rfl, rfl⟩

def f_X4_tail (a0 : Int32) (sp : ShT) (mf : AI) (tb : Bool) (tp : ShT) (tf : AI) : Option (Int32 × AI × Bool × ShT × AI) :=
  (f_X4_mayTurns a0).bind fun r1001 =>
  if r1001 = 0 then
    (f_X4_refuse (-2) mf).bind fun r1003 =>
    some (r1003.1, r1003.2, tb, tp, tf)
  else
    (f_X4_goesOn sp).bind fun r1004 =>
    if r1004 = 0 then
      (f_X4_refuse (-5) mf).bind fun r1006 =>
      some (r1006.1, r1006.2, tb, tp, tf)
    else
      (f_X4_behindOf a0 sp tb tp tf).bind fun r1007 =>
      if inB (sp.2.2.2.2.2.1 - 1) 16 then
      some ((r1007.1.1 (sp.2.2.2.2.2.1 - 1).toNatClampNeg), mf, true, r1007.1, r1007.2)
      else none
set_option maxRecDepth 100000 in
set_option maxHeartbeats 4000000 in
theorem run_X4_tail {l : Launch} {D : va_G} {cT : Nat → ClassId} (a0 : Int32)   (sp : ShT) (tk : TkT) (sv : SvT) (mf : AI) (mo : AI) (mn : AI) (ma : AI) (kb : Bool) (tb : Bool) (tp : ShT) (tf : AI) {r : Int32 × AI × Bool × ShT × AI} (hf : f_X4_tail a0 sp mf tb tp tf = some r) : Runs l D cT yX4_tail cX4_tail 2 (some .int) 4 92 [.ref 0, .int a0] ((cM 0 sp tk sv mf mo mn ma (vb kb 52) (vb tb 26)) ++ (cMo 26 tb tp tf)) (EQ (some (.int r.1)) ((cM 0 sp tk sv r.2.1 mo mn ma (vb kb 52) (vb r.2.2.1 26)) ++ (cMo 26 r.2.2.1 r.2.2.2.1 r.2.2.2.2))) := by
  refine runs_ofT O_X4 okO_X4 (by decide +kernel) rfl rfl (Nat.le_of_ble_eq_true rfl) (by rw [len_T]; decide) (pot_T _ _ _ _ _ _ _ _ _ _ _ _ _ _) (fun g Rc Rs hB K => ?_)
  have M := K.b
  show g 0 0 ((cM 0 sp tk sv mf mo mn ma (vb kb 52) (vb tb 26)) ++ (cMo 26 tb tp tf)) 0 [some (.ref 0), some (.int a0)] []
  rw [f_X4_tail] at hf
  refine m_run M (is := [(0, .iload_n 1, 0)]) (pc' := 1) (L' := [some (.ref 0), some (.int a0)]) (st' := [.int a0]) (w' := ((cM 0 sp tk sv mf mo mn ma (vb kb 52) (vb tb 26)) ++ (cMo 26 tb tp tf))) (by decide +kernel) rfl trivial ?_
  obtain ⟨r1001, h_1001, hf⟩ := bnd_s hf
  refine m_cS0 M (rest := []) (w2 := ((cM 0 sp tk sv mf mo mn ma (vb kb 52) (vb tb 26)) ++ (cMo 26 tb tp tf))) (st2 := [.int r1001]) (run_X4_mayTurns a0    h_1001) cs_X4_mayTurns lk_X4_255 (by decide +kernel) [] (by decide) ⟨Nat.le_of_ble_eq_true rfl, Nat.le_of_ble_eq_true rfl⟩ rfl rfl (Nat.le_of_ble_eq_true rfl) ⟨by decide, by decide⟩ rfl rfl (bdg hB) rfl rfl ?_
  rcases ite_s hf with ⟨c_1002, hf⟩ | ⟨c_1002, hf⟩
  · refine m_jF M (i := .ifCond .ne 10) 14 (by decide +kernel) rfl (by decide) (fun n => n c_1002) ?_
    refine m_run M (is := [(7, .aload_n 0, 0), (8, .bipush (-2), -2)]) (pc' := 10) (L' := [some (.ref 0), some (.int a0)]) (st' := [.int (-2), .ref 0]) (w' := ((cM 0 sp tk sv mf mo mn ma (vb kb 52) (vb tb 26)) ++ (cMo 26 tb tp tf))) (by decide +kernel) rfl trivial ?_
    obtain ⟨r1003, h_1003, hf⟩ := bnd_s hf
    refine m_cV0 M (rest := []) (w2 := ((cM 0 sp tk sv r1003.2 mo mn ma (vb kb 52) (vb tb 26)) ++ (cMo 26 tb tp tf))) (st2 := [.int r1003.1]) (run_X4_refuse (-2)   sp tk sv mf mo mn ma (vb kb 26) (vb tb 27) h_1003) cv_X4_refuse lk_X4_85 (by decide +kernel) (rhS 52 26) (by decide) ⟨Nat.le_of_ble_eq_true rfl, Nat.le_of_ble_eq_true rfl⟩ (hwS (rvk kb) (rvt tb) (len_Mo _ _ _ _) sp tk sv mf mo mn ma) rfl rfl (Nat.le_of_ble_eq_true rfl) ⟨by decide, by decide⟩ rfl rfl (bdg hB) (hpS (rvk kb) (rvt tb) (len_Mo _ _ _ _) sp tk sv mf mo mn ma sp tk sv r1003.2 mo mn ma) rfl ?_
    obtain rfl := Option.some.inj hf
    exact m_iret K (by decide +kernel) (bdg hB).1 (bdg hB).2 ⟨rfl, rfl⟩
  · refine m_jT M (i := .ifCond .ne 10) 14 (by decide +kernel) rfl (by decide) c_1002 ?_
    refine m_run M (is := [(14, .aload_n 0, 0)]) (pc' := 15) (L' := [some (.ref 0), some (.int a0)]) (st' := [.ref 0]) (w' := ((cM 0 sp tk sv mf mo mn ma (vb kb 52) (vb tb 26)) ++ (cMo 26 tb tp tf))) (by decide +kernel) rfl trivial ?_
    obtain ⟨r1004, h_1004, hf⟩ := bnd_s hf
    refine m_cV0 M (rest := []) (w2 := ((cM 0 sp tk sv mf mo mn ma (vb kb 52) (vb tb 26)) ++ (cMo 26 tb tp tf))) (st2 := [.int r1004]) (run_X4_goesOn    sp tk sv mf mo mn ma (vb kb 26) (vb tb 27) h_1004) cv_X4_goesOn lk_X4_184 (by decide +kernel) (rhS 52 26) (by decide) ⟨Nat.le_of_ble_eq_true rfl, Nat.le_of_ble_eq_true rfl⟩ (hwS (rvk kb) (rvt tb) (len_Mo _ _ _ _) sp tk sv mf mo mn ma) rfl rfl (Nat.le_of_ble_eq_true rfl) ⟨by decide, by decide⟩ rfl rfl (bdg hB) (hpS (rvk kb) (rvt tb) (len_Mo _ _ _ _) sp tk sv mf mo mn ma sp tk sv mf mo mn ma) rfl ?_
    rcases ite_s hf with ⟨c_1005, hf⟩ | ⟨c_1005, hf⟩
    · refine m_jT M (i := .ifCond .eq 21) 39 (by decide +kernel) rfl (by decide) c_1005 ?_
      refine m_run M (is := [(39, .aload_n 0, 0), (40, .bipush (-5), -5)]) (pc' := 42) (L' := [some (.ref 0), some (.int a0)]) (st' := [.int (-5), .ref 0]) (w' := ((cM 0 sp tk sv mf mo mn ma (vb kb 52) (vb tb 26)) ++ (cMo 26 tb tp tf))) (by decide +kernel) rfl trivial ?_
      obtain ⟨r1006, h_1006, hf⟩ := bnd_s hf
      refine m_cV0 M (rest := []) (w2 := ((cM 0 sp tk sv r1006.2 mo mn ma (vb kb 52) (vb tb 26)) ++ (cMo 26 tb tp tf))) (st2 := [.int r1006.1]) (run_X4_refuse (-5)   sp tk sv mf mo mn ma (vb kb 26) (vb tb 27) h_1006) cv_X4_refuse lk_X4_85 (by decide +kernel) (rhS 52 26) (by decide) ⟨Nat.le_of_ble_eq_true rfl, Nat.le_of_ble_eq_true rfl⟩ (hwS (rvk kb) (rvt tb) (len_Mo _ _ _ _) sp tk sv mf mo mn ma) rfl rfl (Nat.le_of_ble_eq_true rfl) ⟨by decide, by decide⟩ rfl rfl (bdg hB) (hpS (rvk kb) (rvt tb) (len_Mo _ _ _ _) sp tk sv mf mo mn ma sp tk sv r1006.2 mo mn ma) rfl ?_
      obtain rfl := Option.some.inj hf
      exact m_iret K (by decide +kernel) (bdg hB).1 (bdg hB).2 ⟨rfl, rfl⟩
    · refine m_jF M (i := .ifCond .eq 21) 39 (by decide +kernel) rfl (by decide) c_1005 ?_
      refine m_run M (is := [(21, .aload_n 0, 0), (22, .iload_n 1, 0)]) (pc' := 23) (L' := [some (.ref 0), some (.int a0)]) (st' := [.int a0, .ref 0]) (w' := ((cM 0 sp tk sv mf mo mn ma (vb kb 52) (vb tb 26)) ++ (cMo 26 tb tp tf))) (by decide +kernel) rfl trivial ?_
      obtain ⟨r1007, h_1007, hf⟩ := bnd_s hf
      refine m_cT M (rest := []) (w2 := ((cM 0 sp tk sv mf mo mn ma (vb kb 52) (.ref 26)) ++ (cM 26 r1007.1 nTk nSv r1007.2 zI zI zI .null .null))) (st2 := [.ref 26]) (run_X4_behindOf a0   sp tk sv mf mo mn ma kb tb tp tf h_1007) cv_X4_behindOf lk_X4_258 (by decide +kernel) (List.range 53) List.nodup_range ⟨(by rw [List.length_range]; exact (by rw [len_T]; decide)), (by rw [List.length_range]; decide)⟩ (hwId2 (by rw [len_T]; decide)) rfl rfl (Nat.le_of_ble_eq_true rfl) ⟨by decide, by decide⟩ (pot_T _ _ _ _ _ _ _ _ _ _ _ _ _ _) hB (nrT (x := tb) (p := tp) (f := tf) sp tk sv mf mo mn ma (vb kb 52) (vb tb 26) okR_w okR_v) rfl (hpId2 (by rw [len_T]; decide) (by rw [len_T]; rfl)) rfl (fun bc bs hB => ?_)
      obtain ⟨h_1008, hf⟩ := grd_s hf
      refine m_run M (is := [(26, .getfield 37, 0), (29, .aload_n 0, 0), (30, .getfield 69, 0), (33, .iconst 1, 1), (34, .isub, 0), (35, .iaload, 0), (36, .goto 9, 0)]) (pc' := 45) (L' := [some (.ref 0), some (.int a0)]) (st' := [.int (r1007.1.1 (sp.2.2.2.2.2.1 - 1).toNatClampNeg)]) (w' := ((cM 0 sp tk sv mf mo mn ma (vb kb 52) (.ref 26)) ++ (cM 26 r1007.1 nTk nSv r1007.2 zI zI zI .null .null))) (by decide +kernel) rfl ⟨inB_use h_1008, trivial⟩ ?_
      obtain rfl := Option.some.inj hf
      exact m_iret K (by decide +kernel) (bdg hB).1 (bdg hB).2 ⟨rfl, rfl⟩

def f_X4_after_L0 (v1 : Int32) (v2 : Int32) (sp : ShT) (sv : SvT) : Nat → Int32 → AI → ShT → AI → Option (Int32 × AI × Bool × ShT × AI)
  | 0, _, _, _, _ => none
  | n_ + 1, v5, mf, tp, tf =>
    if v2 ≤ v5 then
      if inB 0 16 then
      some ((tp.1 (0 : Int32).toNatClampNeg), mf, true, tp, tf)
      else none
    else
      if inB v1 8 then
      if inB v5 40 then
      (f_X4_in ((sv.2.2.2.2.2 v1.toNatClampNeg) v5.toNatClampNeg) 0 (((sp.2.2.2.2.2.1 - 2)).toInt64)).bind fun r105 =>
      if r105 = 0 then
        (f_X4_refuse (-5) mf).bind fun r107 =>
        some (r107.1, r107.2, true, tp, tf)
      else
        if inB v1 8 then
        if inB v5 40 then
        (f_X4_lettingAt (((sv.2.2.2.2.2 v1.toNatClampNeg) v5.toNatClampNeg).toInt32) tp).bind fun r110 =>
        f_X4_after_L0 v1 v2 sp sv n_ (v5 + 1) mf r110 tf
        else none
        else none
      else none
      else none
def f_X4_after (a0 : Int32) (a1 : Int32) (sp : ShT) (sv : SvT) (mf : AI) (tb : Bool) (tp : ShT) (tf : AI) : Option (Int32 × AI × Bool × ShT × AI) :=
  (f_X4_noSlate a0 a1 sp sv mf).bind fun r1001 =>
  if r1001.1 = 0 then
    (f_X4_fresh sp tb tp tf).bind fun r1003 =>
    f_X4_after_L0 a0 a1 sp sv fuel0 0 r1001.2 r1003.1 r1003.2
  else
    some (r1001.1, r1001.2, tb, tp, tf)
set_option maxRecDepth 100000 in
set_option maxHeartbeats 4000000 in
theorem run_X4_after {l : Launch} {D : va_G} {cT : Nat → ClassId} (a0 : Int32) (a1 : Int32)   (sp : ShT) (tk : TkT) (sv : SvT) (mf : AI) (mo : AI) (mn : AI) (ma : AI) (kb : Bool) (tb : Bool) (tp : ShT) (tf : AI) {r : Int32 × AI × Bool × ShT × AI} (hf : f_X4_after a0 a1 sp sv mf tb tp tf = some r) : Runs l D cT yX4_after cX4_after 6 (some .int) 3 69 [.ref 0, .int a0, .int a1] ((cM 0 sp tk sv mf mo mn ma (vb kb 52) (vb tb 26)) ++ (cMo 26 tb tp tf)) (EQ (some (.int r.1)) ((cM 0 sp tk sv r.2.1 mo mn ma (vb kb 52) (vb r.2.2.1 26)) ++ (cMo 26 r.2.2.1 r.2.2.2.1 r.2.2.2.2))) := by
  refine runs_ofT O_X4 okO_X4 (by decide +kernel) rfl rfl (Nat.le_of_ble_eq_true rfl) (by rw [len_T]; decide) (pot_T _ _ _ _ _ _ _ _ _ _ _ _ _ _) (fun g Rc Rs hB K => ?_)
  have M := K.b
  show g 0 0 ((cM 0 sp tk sv mf mo mn ma (vb kb 52) (vb tb 26)) ++ (cMo 26 tb tp tf)) 0 [some (.ref 0), some (.int a0), some (.int a1), none, none, none] []
  have loop_0 : ∀ (v1 : Int32) (v2 : Int32) (tb : Bool) (n_ : Nat), (∀ (v5 : Int32) (mf : AI) (tp : ShT) (tf : AI) (bc bs : Nat), bc + potM true ≤ Rc ∧ bs + potN true ≤ Rs → f_X4_after_L0 v1 v2 sp sv n_ v5 mf tp tf = some r → g bc bs ((cM 0 sp tk sv mf mo mn ma (vb kb 52) (.ref 26)) ++ (cM 26 tp nTk nSv tf zI zI zI .null .null)) 22 [some (.ref 0), some (.int v1), some (.int v2), none, some (.ref 26), some (.int v5)] []) := by
    intro v1 v2 tb n_
    induction n_ with
    | zero => intro v5 mf tp tf bc bs hB hf; cases hf
    | succ n_ ih =>
      intro v5 mf tp tf bc bs hB hf
      rw [f_X4_after_L0] at hf
      refine m_run M (is := [(22, .iload 5, 0), (24, .iload_n 2, 0)]) (pc' := 25) (L' := [some (.ref 0), some (.int v1), some (.int v2), none, some (.ref 26), some (.int v5)]) (st' := [.int v2, .int v5]) (w' := ((cM 0 sp tk sv mf mo mn ma (vb kb 52) (.ref 26)) ++ (cM 26 tp nTk nSv tf zI zI zI .null .null))) (by decide +kernel) rfl trivial ?_
      rcases ite_s hf with ⟨c_101, hf⟩ | ⟨c_101, hf⟩
      · refine m_jT M (i := .if_icmp .ge 54) 79 (by decide +kernel) rfl (by decide) c_101 ?_
        obtain ⟨h_102, hf⟩ := grd_s hf
        refine m_run M (is := [(79, .aload 4, 0), (81, .getfield 37, 0), (84, .iconst 0, 0), (85, .iaload, 0)]) (pc' := 86) (L' := [some (.ref 0), some (.int v1), some (.int v2), none, some (.ref 26), some (.int v5)]) (st' := [.int (tp.1 (0 : Int32).toNatClampNeg)]) (w' := ((cM 0 sp tk sv mf mo mn ma (vb kb 52) (.ref 26)) ++ (cM 26 tp nTk nSv tf zI zI zI .null .null))) (by decide +kernel) rfl ⟨inB_use h_102, trivial⟩ ?_
        obtain rfl := Option.some.inj hf
        exact m_iret K (by decide +kernel) (bdg hB).1 (bdg hB).2 ⟨rfl, rfl⟩
      · refine m_jF M (i := .if_icmp .ge 54) 79 (by decide +kernel) rfl (by decide) c_101 ?_
        obtain ⟨h_103, hf⟩ := grd_s hf
        refine m_run M (is := [(28, .aload_n 0, 0), (29, .getfield 21, 0), (32, .iload_n 1, 0)]) (pc' := 33) (L' := [some (.ref 0), some (.int v1), some (.int v2), none, some (.ref 26), some (.int v5)]) (st' := [.int v1, .ref 4]) (w' := ((cM 0 sp tk sv mf mo mn ma (vb kb 52) (.ref 26)) ++ (cM 26 tp nTk nSv tf zI zI zI .null .null))) (by decide +kernel) rfl trivial ?_
        refine m_run M (is := [(33, .aaload, 0)]) (pc' := 34) (L' := [some (.ref 0), some (.int v1), some (.int v2), none, some (.ref 26), some (.int v5)]) (st' := [.ref (18 + v1.toNatClampNeg)]) (w' := ((cM 0 sp tk sv mf mo mn ma (vb kb 52) (.ref 26)) ++ (cM 26 tp nTk nSv tf zI zI zI .null .null))) (by decide +kernel) (s_aald rfl rfl (fM_18 (inB_lt h_103))) ⟨inB_use h_103, trivial⟩ ?_
        obtain ⟨h_104, hf⟩ := grd_s hf
        refine m_run M (is := [(34, .iload 5, 0)]) (pc' := 36) (L' := [some (.ref 0), some (.int v1), some (.int v2), none, some (.ref 26), some (.int v5)]) (st' := [.int v5, .ref (18 + v1.toNatClampNeg)]) (w' := ((cM 0 sp tk sv mf mo mn ma (vb kb 52) (.ref 26)) ++ (cM 26 tp nTk nSv tf zI zI zI .null .null))) (by decide +kernel) rfl trivial ?_
        refine m_run M (is := [(36, .laload, 0)]) (pc' := 37) (L' := [some (.ref 0), some (.int v1), some (.int v2), none, some (.ref 26), some (.int v5)]) (st' := [.long ((sv.2.2.2.2.2 v1.toNatClampNeg) v5.toNatClampNeg)]) (w' := ((cM 0 sp tk sv mf mo mn ma (vb kb 52) (.ref 26)) ++ (cM 26 tp nTk nSv tf zI zI zI .null .null))) (by decide +kernel) (s_lald (wA_app (wM_ro (inB_lt h_103) sp tk sv mf mo mn ma (vb kb 52) (.ref 26)))) ⟨inB_use h_104, trivial⟩ ?_
        refine m_run M (is := [(37, .lconst 0, 0), (38, .aload_n 0, 0), (39, .getfield 69, 0), (42, .iconst 2, 2), (43, .isub, 0), (44, .i2l, 0)]) (pc' := 45) (L' := [some (.ref 0), some (.int v1), some (.int v2), none, some (.ref 26), some (.int v5)]) (st' := [.long (((sp.2.2.2.2.2.1 - 2)).toInt64), .long 0, .long ((sv.2.2.2.2.2 v1.toNatClampNeg) v5.toNatClampNeg)]) (w' := ((cM 0 sp tk sv mf mo mn ma (vb kb 52) (.ref 26)) ++ (cM 26 tp nTk nSv tf zI zI zI .null .null))) (by decide +kernel) rfl trivial ?_
        obtain ⟨r105, h_105, hf⟩ := bnd_s hf
        refine m_cS0 M (rest := []) (w2 := ((cM 0 sp tk sv mf mo mn ma (vb kb 52) (.ref 26)) ++ (cM 26 tp nTk nSv tf zI zI zI .null .null))) (st2 := [.int r105]) (run_X4_in ((sv.2.2.2.2.2 v1.toNatClampNeg) v5.toNatClampNeg) 0 (((sp.2.2.2.2.2.1 - 2)).toInt64)    h_105) cs_X4_in lk_X4_72 (by decide +kernel) [] (by decide) ⟨Nat.le_of_ble_eq_true rfl, Nat.le_of_ble_eq_true rfl⟩ rfl rfl (Nat.le_of_ble_eq_true rfl) ⟨by decide, by decide⟩ rfl rfl (bdg hB) rfl rfl ?_
        rcases ite_s hf with ⟨c_106, hf⟩ | ⟨c_106, hf⟩
        · refine m_jF M (i := .ifCond .ne 10) 58 (by decide +kernel) rfl (by decide) (fun n => n c_106) ?_
          refine m_run M (is := [(51, .aload_n 0, 0), (52, .bipush (-5), -5)]) (pc' := 54) (L' := [some (.ref 0), some (.int v1), some (.int v2), none, some (.ref 26), some (.int v5)]) (st' := [.int (-5), .ref 0]) (w' := ((cM 0 sp tk sv mf mo mn ma (vb kb 52) (.ref 26)) ++ (cM 26 tp nTk nSv tf zI zI zI .null .null))) (by decide +kernel) rfl trivial ?_
          obtain ⟨r107, h_107, hf⟩ := bnd_s hf
          refine m_cV0 M (rest := []) (w2 := ((cM 0 sp tk sv r107.2 mo mn ma (vb kb 52) (.ref 26)) ++ (cM 26 tp nTk nSv tf zI zI zI .null .null))) (st2 := [.int r107.1]) (run_X4_refuse (-5)   sp tk sv mf mo mn ma (vb kb 26) (.ref 27) h_107) cv_X4_refuse lk_X4_85 (by decide +kernel) (rhS 52 26) (by decide) ⟨Nat.le_of_ble_eq_true rfl, Nat.le_of_ble_eq_true rfl⟩ (hwS (rvk kb) rvtr rfl sp tk sv mf mo mn ma) rfl rfl (Nat.le_of_ble_eq_true rfl) ⟨by decide, by decide⟩ rfl rfl (bdg hB) (hpS (rvk kb) rvtr rfl sp tk sv mf mo mn ma sp tk sv r107.2 mo mn ma) rfl ?_
          obtain rfl := Option.some.inj hf
          exact m_iret K (by decide +kernel) (bdg hB).1 (bdg hB).2 ⟨rfl, rfl⟩
        · refine m_jT M (i := .ifCond .ne 10) 58 (by decide +kernel) rfl (by decide) c_106 ?_
          obtain ⟨h_108, hf⟩ := grd_s hf
          refine m_run M (is := [(58, .aload 4, 0), (60, .aload_n 0, 0), (61, .getfield 21, 0), (64, .iload_n 1, 0)]) (pc' := 65) (L' := [some (.ref 0), some (.int v1), some (.int v2), none, some (.ref 26), some (.int v5)]) (st' := [.int v1, .ref 4, .ref 26]) (w' := ((cM 0 sp tk sv mf mo mn ma (vb kb 52) (.ref 26)) ++ (cM 26 tp nTk nSv tf zI zI zI .null .null))) (by decide +kernel) rfl trivial ?_
          refine m_run M (is := [(65, .aaload, 0)]) (pc' := 66) (L' := [some (.ref 0), some (.int v1), some (.int v2), none, some (.ref 26), some (.int v5)]) (st' := [.ref (18 + v1.toNatClampNeg), .ref 26]) (w' := ((cM 0 sp tk sv mf mo mn ma (vb kb 52) (.ref 26)) ++ (cM 26 tp nTk nSv tf zI zI zI .null .null))) (by decide +kernel) (s_aald rfl rfl (fM_18 (inB_lt h_108))) ⟨inB_use h_108, trivial⟩ ?_
          obtain ⟨h_109, hf⟩ := grd_s hf
          refine m_run M (is := [(66, .iload 5, 0)]) (pc' := 68) (L' := [some (.ref 0), some (.int v1), some (.int v2), none, some (.ref 26), some (.int v5)]) (st' := [.int v5, .ref (18 + v1.toNatClampNeg), .ref 26]) (w' := ((cM 0 sp tk sv mf mo mn ma (vb kb 52) (.ref 26)) ++ (cM 26 tp nTk nSv tf zI zI zI .null .null))) (by decide +kernel) rfl trivial ?_
          refine m_run M (is := [(68, .laload, 0)]) (pc' := 69) (L' := [some (.ref 0), some (.int v1), some (.int v2), none, some (.ref 26), some (.int v5)]) (st' := [.long ((sv.2.2.2.2.2 v1.toNatClampNeg) v5.toNatClampNeg), .ref 26]) (w' := ((cM 0 sp tk sv mf mo mn ma (vb kb 52) (.ref 26)) ++ (cM 26 tp nTk nSv tf zI zI zI .null .null))) (by decide +kernel) (s_lald (wA_app (wM_ro (inB_lt h_108) sp tk sv mf mo mn ma (vb kb 52) (.ref 26)))) ⟨inB_use h_109, trivial⟩ ?_
          refine m_run M (is := [(69, .l2i, 0)]) (pc' := 70) (L' := [some (.ref 0), some (.int v1), some (.int v2), none, some (.ref 26), some (.int v5)]) (st' := [.int (((sv.2.2.2.2.2 v1.toNatClampNeg) v5.toNatClampNeg).toInt32), .ref 26]) (w' := ((cM 0 sp tk sv mf mo mn ma (vb kb 52) (.ref 26)) ++ (cM 26 tp nTk nSv tf zI zI zI .null .null))) (by decide +kernel) rfl trivial ?_
          obtain ⟨r110, h_110, hf⟩ := bnd_s hf
          refine m_cV0 M (rest := []) (w2 := ((cM 0 sp tk sv mf mo mn ma (vb kb 52) (.ref 26)) ++ (cM 26 r110 nTk nSv tf zI zI zI .null .null))) (st2 := []) (run_X4_lettingAt (((sv.2.2.2.2.2 v1.toNatClampNeg) v5.toNatClampNeg).toInt32)   tp nTk nSv tf zI zI zI .null .null h_110) cv_X4_lettingAt lk_X4_210 (by decide +kernel) rhT (by decide) ⟨Nat.le_of_ble_eq_true rfl, Nat.le_of_ble_eq_true rfl⟩ (hwT sp tk sv mf mo mn ma tp nTk nSv tf zI zI zI) rfl rfl (Nat.le_of_ble_eq_true rfl) ⟨by decide, by decide⟩ rfl rfl (bdg hB) (hpT sp tk sv mf mo mn ma tp nTk nSv tf zI zI zI r110 nTk nSv tf zI zI zI) rfl ?_
          refine m_run M (is := [(73, .iinc 5 1, 1), (76, .goto (-54), 0)]) (pc' := 22) (L' := [some (.ref 0), some (.int v1), some (.int v2), none, some (.ref 26), some (.int (v5 + 1))]) (st' := []) (w' := ((cM 0 sp tk sv mf mo mn ma (vb kb 52) (.ref 26)) ++ (cM 26 r110 nTk nSv tf zI zI zI .null .null))) (by decide +kernel) rfl trivial ?_
          exact ih (v5 + 1) mf r110 tf _ _ hB hf
  rw [f_X4_after] at hf
  refine m_run M (is := [(0, .aload_n 0, 0), (1, .iload_n 1, 0), (2, .iload_n 2, 0)]) (pc' := 3) (L' := [some (.ref 0), some (.int a0), some (.int a1), none, none, none]) (st' := [.int a1, .int a0, .ref 0]) (w' := ((cM 0 sp tk sv mf mo mn ma (vb kb 52) (vb tb 26)) ++ (cMo 26 tb tp tf))) (by decide +kernel) rfl trivial ?_
  obtain ⟨r1001, h_1001, hf⟩ := bnd_s hf
  refine m_cV0 M (rest := []) (w2 := ((cM 0 sp tk sv r1001.2 mo mn ma (vb kb 52) (vb tb 26)) ++ (cMo 26 tb tp tf))) (st2 := [.int r1001.1]) (run_X4_noSlate a0 a1   sp tk sv mf mo mn ma (vb kb 26) (vb tb 27) h_1001) cv_X4_noSlate lk_X4_291 (by decide +kernel) (rhS 52 26) (by decide) ⟨Nat.le_of_ble_eq_true rfl, Nat.le_of_ble_eq_true rfl⟩ (hwS (rvk kb) (rvt tb) (len_Mo _ _ _ _) sp tk sv mf mo mn ma) rfl rfl (Nat.le_of_ble_eq_true rfl) ⟨by decide, by decide⟩ rfl rfl (bdg hB) (hpS (rvk kb) (rvt tb) (len_Mo _ _ _ _) sp tk sv mf mo mn ma sp tk sv r1001.2 mo mn ma) rfl ?_
  refine m_run M (is := [(6, .istore_n 3, 0), (7, .iload_n 3, 0)]) (pc' := 8) (L' := [some (.ref 0), some (.int a0), some (.int a1), some (.int r1001.1), none, none]) (st' := [.int r1001.1]) (w' := ((cM 0 sp tk sv r1001.2 mo mn ma (vb kb 52) (vb tb 26)) ++ (cMo 26 tb tp tf))) (by decide +kernel) rfl trivial ?_
  rcases ite_s hf with ⟨c_1002, hf⟩ | ⟨c_1002, hf⟩
  · refine m_jT M (i := .ifCond .eq 5) 13 (by decide +kernel) rfl (by decide) c_1002 ?_
    refine m_run M (is := [(13, .aload_n 0, 0)]) (pc' := 14) (L' := [some (.ref 0), some (.int a0), some (.int a1), some (.int r1001.1), none, none]) (st' := [.ref 0]) (w' := ((cM 0 sp tk sv r1001.2 mo mn ma (vb kb 52) (vb tb 26)) ++ (cMo 26 tb tp tf))) (by decide +kernel) rfl trivial ?_
    obtain ⟨r1003, h_1003, hf⟩ := bnd_s hf
    refine m_cT M (rest := []) (w2 := ((cM 0 sp tk sv r1001.2 mo mn ma (vb kb 52) (.ref 26)) ++ (cM 26 r1003.1 nTk nSv r1003.2 zI zI zI .null .null))) (st2 := [.ref 26]) (run_X4_fresh    sp tk sv r1001.2 mo mn ma kb tb tp tf h_1003) cv_X4_fresh lk_X4_234 (by decide +kernel) (List.range 53) List.nodup_range ⟨(by rw [List.length_range]; exact (by rw [len_T]; decide)), (by rw [List.length_range]; decide)⟩ (hwId2 (by rw [len_T]; decide)) rfl rfl (Nat.le_of_ble_eq_true rfl) ⟨by decide, by decide⟩ (pot_T _ _ _ _ _ _ _ _ _ _ _ _ _ _) hB (nrT (x := tb) (p := tp) (f := tf) sp tk sv r1001.2 mo mn ma (vb kb 52) (vb tb 26) okR_w okR_v) rfl (hpId2 (by rw [len_T]; decide) (by rw [len_T]; rfl)) rfl (fun bc bs hB => ?_)
    refine m_run M (is := [(17, .astore 4, 0), (19, .iconst 0, 0), (20, .istore 5, 0)]) (pc' := 22) (L' := [some (.ref 0), some (.int a0), some (.int a1), some (.int r1001.1), some (.ref 26), some (.int 0)]) (st' := []) (w' := ((cM 0 sp tk sv r1001.2 mo mn ma (vb kb 52) (.ref 26)) ++ (cM 26 r1003.1 nTk nSv r1003.2 zI zI zI .null .null))) (by decide +kernel) rfl trivial ?_
    refine m_wk M [some (.ref 0), some (.int a0), some (.int a1), none, some (.ref 26), some (.int 0)] ⟨Or.inr rfl, Or.inr rfl, Or.inr rfl, Or.inl rfl, Or.inr rfl, Or.inr rfl, trivial⟩ ?_
    exact loop_0 a0 a1 true fuel0 0 r1001.2 r1003.1 r1003.2 _ _ hB hf
  · refine m_jF M (i := .ifCond .eq 5) 13 (by decide +kernel) rfl (by decide) c_1002 ?_
    refine m_run M (is := [(11, .iload_n 3, 0)]) (pc' := 12) (L' := [some (.ref 0), some (.int a0), some (.int a1), some (.int r1001.1), none, none]) (st' := [.int r1001.1]) (w' := ((cM 0 sp tk sv r1001.2 mo mn ma (vb kb 52) (vb tb 26)) ++ (cMo 26 tb tp tf))) (by decide +kernel) rfl trivial ?_
    obtain rfl := Option.some.inj hf
    exact m_iret K (by decide +kernel) (bdg hB).1 (bdg hB).2 ⟨rfl, rfl⟩

def f_X4_shop (sp : ShT) (tk : TkT) (mf : AI) (tb : Bool) (tp : ShT) (tf : AI) : Option (Int32 × ShT × TkT × AI × Bool × ShT × AI) :=
  (f_X4_fresh sp tb tp tf).bind fun r1001 =>
  (f_X4_readAll sp tk).bind fun r1002 =>
  if r1002.1 = 0 then
    (f_X4_takeFrom r1002.2.1 r1001.1).bind fun r1004 =>
    (f_X4_refuse (-2) mf).bind fun r1005 =>
    some (((-20) - r1002.2.2.2.2.2.2.2.2.2.1), r1004, (r1002.2.2.1, r1002.2.2.2.1, 0, r1002.2.2.2.2.2.1, r1002.2.2.2.2.2.2.1, r1002.2.2.2.2.2.2.2.1, r1002.2.2.2.2.2.2.2.2.1, r1002.2.2.2.2.2.2.2.2.2.1, r1002.2.2.2.2.2.2.2.2.2.2), r1005.2, true, r1001.1, r1001.2)
  else
    some (r1002.2.2.2.2.2.2.2.2.2.2, r1002.2.1, (r1002.2.2.1, r1002.2.2.2.1, 0, r1002.2.2.2.2.2.1, r1002.2.2.2.2.2.2.1, r1002.2.2.2.2.2.2.2.1, r1002.2.2.2.2.2.2.2.2.1, r1002.2.2.2.2.2.2.2.2.2.1, r1002.2.2.2.2.2.2.2.2.2.2), mf, true, r1001.1, r1001.2)
set_option maxRecDepth 100000 in
set_option maxHeartbeats 4000000 in
theorem run_X4_shop {l : Launch} {D : va_G} {cT : Nat → ClassId}    (sp : ShT) (tk : TkT) (sv : SvT) (mf : AI) (mo : AI) (mn : AI) (ma : AI) (kb : Bool) (tb : Bool) (tp : ShT) (tf : AI) {r : Int32 × ShT × TkT × AI × Bool × ShT × AI} (hf : f_X4_shop sp tk mf tb tp tf = some r) : Runs l D cT yX4_shop cX4_shop 3 (some .int) 7 148 [.ref 0] ((cM 0 sp tk sv mf mo mn ma (vb kb 52) (vb tb 26)) ++ (cMo 26 tb tp tf)) (EQ (some (.int r.1)) ((cM 0 r.2.1 r.2.2.1 sv r.2.2.2.1 mo mn ma (vb kb 52) (vb r.2.2.2.2.1 26)) ++ (cMo 26 r.2.2.2.2.1 r.2.2.2.2.2.1 r.2.2.2.2.2.2))) := by
  refine runs_ofT O_X4 okO_X4 (by decide +kernel) rfl rfl (Nat.le_of_ble_eq_true rfl) (by rw [len_T]; decide) (pot_T _ _ _ _ _ _ _ _ _ _ _ _ _ _) (fun g Rc Rs hB K => ?_)
  have M := K.b
  show g 0 0 ((cM 0 sp tk sv mf mo mn ma (vb kb 52) (vb tb 26)) ++ (cMo 26 tb tp tf)) 0 [some (.ref 0), none, none] []
  rw [f_X4_shop] at hf
  refine m_run M (is := [(0, .aload_n 0, 0)]) (pc' := 1) (L' := [some (.ref 0), none, none]) (st' := [.ref 0]) (w' := ((cM 0 sp tk sv mf mo mn ma (vb kb 52) (vb tb 26)) ++ (cMo 26 tb tp tf))) (by decide +kernel) rfl trivial ?_
  obtain ⟨r1001, h_1001, hf⟩ := bnd_s hf
  refine m_cT M (rest := []) (w2 := ((cM 0 sp tk sv mf mo mn ma (vb kb 52) (.ref 26)) ++ (cM 26 r1001.1 nTk nSv r1001.2 zI zI zI .null .null))) (st2 := [.ref 26]) (run_X4_fresh    sp tk sv mf mo mn ma kb tb tp tf h_1001) cv_X4_fresh lk_X4_234 (by decide +kernel) (List.range 53) List.nodup_range ⟨(by rw [List.length_range]; exact (by rw [len_T]; decide)), (by rw [List.length_range]; decide)⟩ (hwId2 (by rw [len_T]; decide)) rfl rfl (Nat.le_of_ble_eq_true rfl) ⟨by decide, by decide⟩ (pot_T _ _ _ _ _ _ _ _ _ _ _ _ _ _) hB (nrT (x := tb) (p := tp) (f := tf) sp tk sv mf mo mn ma (vb kb 52) (vb tb 26) okR_w okR_v) rfl (hpId2 (by rw [len_T]; decide) (by rw [len_T]; rfl)) rfl (fun bc bs hB => ?_)
  refine m_run M (is := [(4, .astore_n 1, 0), (5, .aload_n 0, 0)]) (pc' := 6) (L' := [some (.ref 0), some (.ref 26), none]) (st' := [.ref 0]) (w' := ((cM 0 sp tk sv mf mo mn ma (vb kb 52) (.ref 26)) ++ (cM 26 r1001.1 nTk nSv r1001.2 zI zI zI .null .null))) (by decide +kernel) rfl trivial ?_
  obtain ⟨r1002, h_1002, hf⟩ := bnd_s hf
  refine m_cV0 M (rest := []) (w2 := ((cM 0 r1002.2.1 r1002.2.2 sv mf mo mn ma (vb kb 52) (.ref 26)) ++ (cM 26 r1001.1 nTk nSv r1001.2 zI zI zI .null .null))) (st2 := [.int r1002.1]) (run_X4_readAll    sp tk sv mf mo mn ma (vb kb 26) (.ref 27) h_1002) cv_X4_readAll lk_X4_238 (by decide +kernel) (rhS 52 26) (by decide) ⟨Nat.le_of_ble_eq_true rfl, Nat.le_of_ble_eq_true rfl⟩ (hwS (rvk kb) rvtr rfl sp tk sv mf mo mn ma) rfl rfl (Nat.le_of_ble_eq_true rfl) ⟨by decide, by decide⟩ rfl rfl (bdg hB) (hpS (rvk kb) rvtr rfl sp tk sv mf mo mn ma r1002.2.1 r1002.2.2 sv mf mo mn ma) rfl ?_
  refine m_run M (is := [(9, .istore_n 2, 0), (10, .aload_n 0, 0), (11, .iconst 0, 0), (12, .putfield 136, 0), (15, .iload_n 2, 0)]) (pc' := 16) (L' := [some (.ref 0), some (.ref 26), some (.int r1002.1)]) (st' := [.int r1002.1]) (w' := ((cM 0 r1002.2.1 (r1002.2.2.1, r1002.2.2.2.1, 0, r1002.2.2.2.2.2.1, r1002.2.2.2.2.2.2.1, r1002.2.2.2.2.2.2.2.1, r1002.2.2.2.2.2.2.2.2.1, r1002.2.2.2.2.2.2.2.2.2.1, r1002.2.2.2.2.2.2.2.2.2.2) sv mf mo mn ma (vb kb 52) (.ref 26)) ++ (cM 26 r1001.1 nTk nSv r1001.2 zI zI zI .null .null))) (by decide +kernel) rfl trivial ?_
  rcases ite_s hf with ⟨c_1003, hf⟩ | ⟨c_1003, hf⟩
  · refine m_jF M (i := .ifCond .ne 23) 39 (by decide +kernel) rfl (by decide) (fun n => n c_1003) ?_
    refine m_run M (is := [(19, .aload_n 0, 0), (20, .aload_n 1, 0)]) (pc' := 21) (L' := [some (.ref 0), some (.ref 26), some (.int r1002.1)]) (st' := [.ref 26, .ref 0]) (w' := ((cM 0 r1002.2.1 (r1002.2.2.1, r1002.2.2.2.1, 0, r1002.2.2.2.2.2.1, r1002.2.2.2.2.2.2.1, r1002.2.2.2.2.2.2.2.1, r1002.2.2.2.2.2.2.2.2.1, r1002.2.2.2.2.2.2.2.2.2.1, r1002.2.2.2.2.2.2.2.2.2.2) sv mf mo mn ma (vb kb 52) (.ref 26)) ++ (cM 26 r1001.1 nTk nSv r1001.2 zI zI zI .null .null))) (by decide +kernel) rfl trivial ?_
    obtain ⟨r1004, h_1004, hf⟩ := bnd_s hf
    refine m_cV0 M (rest := []) (w2 := ((cM 0 r1004 (r1002.2.2.1, r1002.2.2.2.1, 0, r1002.2.2.2.2.2.1, r1002.2.2.2.2.2.2.1, r1002.2.2.2.2.2.2.2.1, r1002.2.2.2.2.2.2.2.2.1, r1002.2.2.2.2.2.2.2.2.2.1, r1002.2.2.2.2.2.2.2.2.2.2) sv mf mo mn ma (vb kb 52) (.ref 26)) ++ (cM 26 r1001.1 nTk nSv r1001.2 zI zI zI .null .null))) (st2 := []) (run_X4_takeFrom    r1002.2.1 (r1002.2.2.1, r1002.2.2.2.1, 0, r1002.2.2.2.2.2.1, r1002.2.2.2.2.2.2.1, r1002.2.2.2.2.2.2.2.1, r1002.2.2.2.2.2.2.2.2.1, r1002.2.2.2.2.2.2.2.2.2.1, r1002.2.2.2.2.2.2.2.2.2.2) sv mf mo mn ma (vb kb 52) (.ref 26) r1001.1 nTk nSv r1001.2 zI zI zI .null .null h_1004) cv_X4_takeFrom lk_X4_230 (by decide +kernel) (List.range 53) List.nodup_range ⟨(by rw [List.length_range]; exact Nat.le_of_ble_eq_true rfl), (by rw [List.length_range]; decide)⟩ (hwId2 (Nat.le_of_ble_eq_true rfl)) rfl rfl (Nat.le_of_ble_eq_true rfl) ⟨by decide, by decide⟩ rfl rfl (bdg hB) (hpId2 (Nat.le_of_ble_eq_true rfl) rfl) rfl ?_
    refine m_run M (is := [(24, .aload_n 0, 0), (25, .bipush (-2), -2)]) (pc' := 27) (L' := [some (.ref 0), some (.ref 26), some (.int r1002.1)]) (st' := [.int (-2), .ref 0]) (w' := ((cM 0 r1004 (r1002.2.2.1, r1002.2.2.2.1, 0, r1002.2.2.2.2.2.1, r1002.2.2.2.2.2.2.1, r1002.2.2.2.2.2.2.2.1, r1002.2.2.2.2.2.2.2.2.1, r1002.2.2.2.2.2.2.2.2.2.1, r1002.2.2.2.2.2.2.2.2.2.2) sv mf mo mn ma (vb kb 52) (.ref 26)) ++ (cM 26 r1001.1 nTk nSv r1001.2 zI zI zI .null .null))) (by decide +kernel) rfl trivial ?_
    obtain ⟨r1005, h_1005, hf⟩ := bnd_s hf
    refine m_cV0 M (rest := []) (w2 := ((cM 0 r1004 (r1002.2.2.1, r1002.2.2.2.1, 0, r1002.2.2.2.2.2.1, r1002.2.2.2.2.2.2.1, r1002.2.2.2.2.2.2.2.1, r1002.2.2.2.2.2.2.2.2.1, r1002.2.2.2.2.2.2.2.2.2.1, r1002.2.2.2.2.2.2.2.2.2.2) sv r1005.2 mo mn ma (vb kb 52) (.ref 26)) ++ (cM 26 r1001.1 nTk nSv r1001.2 zI zI zI .null .null))) (st2 := [.int r1005.1]) (run_X4_refuse (-2)   r1004 (r1002.2.2.1, r1002.2.2.2.1, 0, r1002.2.2.2.2.2.1, r1002.2.2.2.2.2.2.1, r1002.2.2.2.2.2.2.2.1, r1002.2.2.2.2.2.2.2.2.1, r1002.2.2.2.2.2.2.2.2.2.1, r1002.2.2.2.2.2.2.2.2.2.2) sv mf mo mn ma (vb kb 26) (.ref 27) h_1005) cv_X4_refuse lk_X4_85 (by decide +kernel) (rhS 52 26) (by decide) ⟨Nat.le_of_ble_eq_true rfl, Nat.le_of_ble_eq_true rfl⟩ (hwS (rvk kb) rvtr rfl r1004 (r1002.2.2.1, r1002.2.2.2.1, 0, r1002.2.2.2.2.2.1, r1002.2.2.2.2.2.2.1, r1002.2.2.2.2.2.2.2.1, r1002.2.2.2.2.2.2.2.2.1, r1002.2.2.2.2.2.2.2.2.2.1, r1002.2.2.2.2.2.2.2.2.2.2) sv mf mo mn ma) rfl rfl (Nat.le_of_ble_eq_true rfl) ⟨by decide, by decide⟩ rfl rfl (bdg hB) (hpS (rvk kb) rvtr rfl r1004 (r1002.2.2.1, r1002.2.2.2.1, 0, r1002.2.2.2.2.2.1, r1002.2.2.2.2.2.2.1, r1002.2.2.2.2.2.2.2.1, r1002.2.2.2.2.2.2.2.2.1, r1002.2.2.2.2.2.2.2.2.2.1, r1002.2.2.2.2.2.2.2.2.2.2) sv mf mo mn ma r1004 (r1002.2.2.1, r1002.2.2.2.1, 0, r1002.2.2.2.2.2.1, r1002.2.2.2.2.2.2.1, r1002.2.2.2.2.2.2.2.1, r1002.2.2.2.2.2.2.2.2.1, r1002.2.2.2.2.2.2.2.2.2.1, r1002.2.2.2.2.2.2.2.2.2.2) sv r1005.2 mo mn ma) rfl ?_
    refine m_run M (is := [(30, .pop, 0), (31, .bipush (-20), -20), (33, .aload_n 0, 0), (34, .getfield 157, 0), (37, .isub, 0)]) (pc' := 38) (L' := [some (.ref 0), some (.ref 26), some (.int r1002.1)]) (st' := [.int ((-20) - r1002.2.2.2.2.2.2.2.2.2.1)]) (w' := ((cM 0 r1004 (r1002.2.2.1, r1002.2.2.2.1, 0, r1002.2.2.2.2.2.1, r1002.2.2.2.2.2.2.1, r1002.2.2.2.2.2.2.2.1, r1002.2.2.2.2.2.2.2.2.1, r1002.2.2.2.2.2.2.2.2.2.1, r1002.2.2.2.2.2.2.2.2.2.2) sv r1005.2 mo mn ma (vb kb 52) (.ref 26)) ++ (cM 26 r1001.1 nTk nSv r1001.2 zI zI zI .null .null))) (by decide +kernel) rfl trivial ?_
    obtain rfl := Option.some.inj hf
    exact m_iret K (by decide +kernel) (bdg hB).1 (bdg hB).2 ⟨rfl, rfl⟩
  · refine m_jT M (i := .ifCond .ne 23) 39 (by decide +kernel) rfl (by decide) c_1003 ?_
    refine m_run M (is := [(39, .aload_n 0, 0), (40, .getfield 219, 0)]) (pc' := 43) (L' := [some (.ref 0), some (.ref 26), some (.int r1002.1)]) (st' := [.int r1002.2.2.2.2.2.2.2.2.2.2]) (w' := ((cM 0 r1002.2.1 (r1002.2.2.1, r1002.2.2.2.1, 0, r1002.2.2.2.2.2.1, r1002.2.2.2.2.2.2.1, r1002.2.2.2.2.2.2.2.1, r1002.2.2.2.2.2.2.2.2.1, r1002.2.2.2.2.2.2.2.2.2.1, r1002.2.2.2.2.2.2.2.2.2.2) sv mf mo mn ma (vb kb 52) (.ref 26)) ++ (cM 26 r1001.1 nTk nSv r1001.2 zI zI zI .null .null))) (by decide +kernel) rfl trivial ?_
    obtain rfl := Option.some.inj hf
    exact m_iret K (by decide +kernel) (bdg hB).1 (bdg hB).2 ⟨rfl, rfl⟩

def f_X4_image (sp : ShT) (kb : Bool) (kp : ShT) (kf : AI) : Option (Int32 × Bool × ShT × AI) :=
  if kb = true then
    (f_X4_takeFrom kp sp).bind fun r1002 =>
    some (1, true, r1002, kf)
  else
    (f_X4_takeFrom nSh sp).bind fun r1003 =>
    some (1, true, r1003, zI)
set_option maxRecDepth 100000 in
set_option maxHeartbeats 4000000 in
theorem run_X4_image {l : Launch} {D : va_G} {cT : Nat → ClassId}    (sp : ShT) (tk : TkT) (sv : SvT) (mf : AI) (mo : AI) (mn : AI) (ma : AI) (kb : Bool) (tb : Bool) (kp : ShT) (kf : AI) {r : Int32 × Bool × ShT × AI} (hf : f_X4_image sp kb kp kf = some r) : Runs l D cT yX4_image cX4_image 1 (some .int) 2 43 [.ref 0] ((cM 0 sp tk sv mf mo mn ma (vb kb 26) (vb tb 52)) ++ (cMo 26 kb kp kf)) (EQ (some (.int r.1)) ((cM 0 sp tk sv mf mo mn ma (vb r.2.1 26) (vb tb 52)) ++ (cMo 26 r.2.1 r.2.2.1 r.2.2.2))) := by
  refine runs_ofT O_X4 okO_X4 (by decide +kernel) rfl rfl (Nat.le_of_ble_eq_true rfl) (by rw [len_T]; decide) (pot_T _ _ _ _ _ _ _ _ _ _ _ _ _ _) (fun g Rc Rs hB K => ?_)
  have M := K.b
  show g 0 0 ((cM 0 sp tk sv mf mo mn ma (vb kb 26) (vb tb 52)) ++ (cMo 26 kb kp kf)) 0 [some (.ref 0)] []
  rw [f_X4_image] at hf
  refine m_run M (is := [(0, .aload_n 0, 0), (1, .getfield 328, 0)]) (pc' := 4) (L' := [some (.ref 0)]) (st' := [(vb kb 26)]) (w' := ((cM 0 sp tk sv mf mo mn ma (vb kb 26) (vb tb 52)) ++ (cMo 26 kb kp kf))) (by decide +kernel) rfl trivial ?_
  rcases ite_s hf with ⟨c_1001, hg_1001⟩ | ⟨c_1001, hg_1001⟩
  · clear hf
    subst c_1001
    have hf := hg_1001
    refine m_nnR M 18 (off := 14) (by decide +kernel) (by decide) ?_
    refine m_run M (is := [(18, .aload_n 0, 0), (19, .getfield 328, 0), (22, .aload_n 0, 0)]) (pc' := 23) (L' := [some (.ref 0)]) (st' := [.ref 0, .ref 26]) (w' := ((cM 0 sp tk sv mf mo mn ma (.ref 26) (vb tb 52)) ++ (cM 26 kp nTk nSv kf zI zI zI .null .null))) (by decide +kernel) rfl trivial ?_
    obtain ⟨r1002, h_1002, hf⟩ := bnd_s hf
    refine m_cV0 M (rest := []) (w2 := ((cM 0 sp tk sv mf mo mn ma (.ref 26) (vb tb 52)) ++ (cM 26 r1002 nTk nSv kf zI zI zI .null .null))) (st2 := []) (run_X4_takeFrom    kp nTk nSv kf zI zI zI .null .null sp tk sv mf mo mn ma (.ref 0) (vb tb 52) h_1002) cv_X4_takeFrom lk_X4_230 (by decide +kernel) (rhF 52) (by decide) ⟨Nat.le_of_ble_eq_true rfl, Nat.le_of_ble_eq_true rfl⟩ (hwG (rvF tb) sp tk sv mf mo mn ma kp nTk nSv kf zI zI zI) rfl rfl (Nat.le_of_ble_eq_true rfl) ⟨by decide, by decide⟩ rfl rfl (bdg hB) (hpG (rvF tb) sp tk sv mf mo mn ma kp nTk nSv kf zI zI zI sp tk sv mf mo mn ma r1002 nTk nSv kf zI zI zI) rfl ?_
    refine m_run M (is := [(26, .iconst 1, 1)]) (pc' := 27) (L' := [some (.ref 0)]) (st' := [.int 1]) (w' := ((cM 0 sp tk sv mf mo mn ma (.ref 26) (vb tb 52)) ++ (cM 26 r1002 nTk nSv kf zI zI zI .null .null))) (by decide +kernel) rfl trivial ?_
    obtain rfl := Option.some.inj hf
    exact m_iret K (by decide +kernel) (bdg hB).1 (bdg hB).2 ⟨rfl, rfl⟩
  · have c_1001 := bF c_1001
    clear hf
    subst c_1001
    have hf := hg_1001
    refine m_nnN M (off := 14) (by decide +kernel) ?_
    refine m_run M (is := [(7, .aload_n 0, 0)]) (pc' := 8) (L' := [some (.ref 0)]) (st' := [.ref 0]) (w' := ((cM 0 sp tk sv mf mo mn ma .null (vb tb 52)) ++ abM)) (by decide +kernel) rfl trivial ?_
    refine m_new M (k := 26) 4 (by decide) [.null, .null, .null, .null, .null, .null, .null, .int 0, .null, .int 0, .null, .null, .null, .int 0, .null, .null, .int 0, .int 0, .int 0, .null, .null, .int 0, .int 0, .int 0, .int 0, .int 0, .null, .int 0, .null, .null, .null] kl_X4_8 kn_4 ki_4 df_4 (fun _ => rfl) ⟨rfl, nrT (x := false) (p := nSh) (f := zI) sp tk sv mf mo mn ma .null (vb tb 52) rfl okR_w, rfl, rfl⟩ (Nat.le_trans (show 0 + 1 ≤ 0 + potM false by decide) hB.1) (Nat.le_trans (show 0 + clN 4 ≤ 0 + potN false by decide) hB.2) (by decide +kernel) ?_
    show g 1 31 ((cM 0 sp tk sv mf mo mn ma .null (vb tb 52)) ++ (.inr (.inr (4, [.null, .null, .null, .null, .null, .null, .null, .int 0, .null, .int 0, .null, .null, .null, .int 0, .null, .null, .int 0, .int 0, .int 0, .null, .null, .int 0, .int 0, .int 0, .int 0, .int 0, .null, .int 0, .null, .null, .null])) :: abM.tail)) 11 [some (.ref 0)] [.ref 26, .ref 0]
    refine m_run M (is := [(11, .dup, 0)]) (pc' := 12) (L' := [some (.ref 0)]) (st' := [.ref 26, .ref 26, .ref 0]) (w' := ((cM 0 sp tk sv mf mo mn ma .null (vb tb 52)) ++ (.inr (.inr (4, [.null, .null, .null, .null, .null, .null, .null, .int 0, .null, .int 0, .null, .null, .null, .int 0, .null, .null, .int 0, .int 0, .int 0, .null, .null, .int 0, .int 0, .int 0, .int 0, .int 0, .null, .int 0, .null, .null, .null])) :: abM.tail))) (by decide +kernel) rfl trivial ?_
    refine m_cI0 M (rest := [.ref 26, .ref 0]) (w2 := ((cM 0 sp tk sv mf mo mn ma .null (vb tb 52)) ++ (cM 26 nSh nTk nSv zI zI zI zI .null .null))) (bc' := 26) (bs' := 1854) run_X4_init ci_X4_init lk_X4_229 (by decide +kernel) [26, 27, 28, 29, 30, 31, 32, 33, 34, 35, 36, 37, 38, 39, 40, 41, 42, 43, 44, 45, 46, 47, 48, 49, 50, 51] (by decide) ⟨Nat.le_of_ble_eq_true rfl, Nat.le_of_ble_eq_true rfl⟩ rfl rfl (Nat.le_of_ble_eq_true rfl) ⟨by decide, by decide⟩ rfl rfl (show 26 ≤ Rc ∧ 1854 ≤ Rs from ⟨Nat.le_trans (by decide) hB.1, Nat.le_trans (by decide) hB.2⟩) (nrO sp tk sv mf mo mn ma .null (vb tb 52) rfl okR_w) rfl (hpO sp tk sv mf mo mn ma .null (vb tb 52)) ?_
    have hB : 26 + potM true ≤ Rc ∧ 1854 + potN true ≤ Rs := ⟨Nat.le_trans (by decide) hB.1, Nat.le_trans (by decide) hB.2⟩
    refine m_run M (is := [(15, .putfield 328, 0), (18, .aload_n 0, 0), (19, .getfield 328, 0), (22, .aload_n 0, 0)]) (pc' := 23) (L' := [some (.ref 0)]) (st' := [.ref 0, .ref 26]) (w' := ((cM 0 sp tk sv mf mo mn ma (.ref 26) (vb tb 52)) ++ (cM 26 nSh nTk nSv zI zI zI zI .null .null))) (by decide +kernel) rfl trivial ?_
    obtain ⟨r1003, h_1003, hf⟩ := bnd_s hf
    refine m_cV0 M (rest := []) (w2 := ((cM 0 sp tk sv mf mo mn ma (.ref 26) (vb tb 52)) ++ (cM 26 r1003 nTk nSv zI zI zI zI .null .null))) (st2 := []) (run_X4_takeFrom    nSh nTk nSv zI zI zI zI .null .null sp tk sv mf mo mn ma (.ref 0) (vb tb 52) h_1003) cv_X4_takeFrom lk_X4_230 (by decide +kernel) (rhF 52) (by decide) ⟨Nat.le_of_ble_eq_true rfl, Nat.le_of_ble_eq_true rfl⟩ (hwG (rvF tb) sp tk sv mf mo mn ma nSh nTk nSv zI zI zI zI) rfl rfl (Nat.le_of_ble_eq_true rfl) ⟨by decide, by decide⟩ rfl rfl (bdg hB) (hpG (rvF tb) sp tk sv mf mo mn ma nSh nTk nSv zI zI zI zI sp tk sv mf mo mn ma r1003 nTk nSv zI zI zI zI) rfl ?_
    refine m_run M (is := [(26, .iconst 1, 1)]) (pc' := 27) (L' := [some (.ref 0)]) (st' := [.int 1]) (w' := ((cM 0 sp tk sv mf mo mn ma (.ref 26) (vb tb 52)) ++ (cM 26 r1003 nTk nSv zI zI zI zI .null .null))) (by decide +kernel) rfl trivial ?_
    obtain rfl := Option.some.inj hf
    exact m_iret K (by decide +kernel) (bdg hB).1 (bdg hB).2 ⟨rfl, rfl⟩

def f_X4_back_L0 (kp : ShT) : Nat → Int32 → ShT → SvT → AI → Option (Int32 × ShT × SvT × AI × Bool)
  | 0, _, _, _, _ => none
  | n_ + 1, v1, sp, sv, mf =>
    if 8 ≤ v1 then
      some (1, sp, sv, mf, true)
    else
      if inB v1 8 then
      if (sv.1 v1.toNatClampNeg) = 2 then
        if inB v1 8 then
        if (sv.2.2.2.1 v1.toNatClampNeg) < sp.2.2.2.2.2.2.1 then
          f_X4_back_L0 kp n_ (v1 + 1) sp sv mf
        else
          if inB v1 8 then
          f_X4_back_L0 kp n_ (v1 + 1) sp ((upd sv.1 v1.toNatClampNeg 0), sv.2.1, sv.2.2.1, sv.2.2.2.1, sv.2.2.2.2.1, sv.2.2.2.2.2) mf
          else none
        else none
      else
        f_X4_back_L0 kp n_ (v1 + 1) sp sv mf
      else none
def f_X4_back (sp : ShT) (sv : SvT) (mf : AI) (kb : Bool) (kp : ShT) : Option (Int32 × ShT × SvT × AI × Bool) :=
  if kb = true then
    (f_X4_takeFrom sp kp).bind fun r1002 =>
    f_X4_back_L0 kp fuel0 0 r1002 sv mf
  else
    (f_X4_refuse (-5) mf).bind fun r1003 =>
    some (r1003.1, sp, sv, r1003.2, false)
set_option maxRecDepth 100000 in
set_option maxHeartbeats 4000000 in
theorem run_X4_back {l : Launch} {D : va_G} {cT : Nat → ClassId}    (sp : ShT) (tk : TkT) (sv : SvT) (mf : AI) (mo : AI) (mn : AI) (ma : AI) (kb : Bool) (tb : Bool) (kp : ShT) (kf : AI) {r : Int32 × ShT × SvT × AI × Bool} (hf : f_X4_back sp sv mf kb kp = some r) : Runs l D cT yX4_back cX4_back 2 (some .int) 2 43 [.ref 0] ((cM 0 sp tk sv mf mo mn ma (vb kb 26) (vb tb 52)) ++ (cMo 26 kb kp kf)) (EQ (some (.int r.1)) ((cM 0 r.2.1 tk r.2.2.1 r.2.2.2.1 mo mn ma (vb r.2.2.2.2 26) (vb tb 52)) ++ (cMo 26 r.2.2.2.2 kp kf))) := by
  refine runs_ofT O_X4 okO_X4 (by decide +kernel) rfl rfl (Nat.le_of_ble_eq_true rfl) (by rw [len_T]; decide) (pot_T _ _ _ _ _ _ _ _ _ _ _ _ _ _) (fun g Rc Rs hB K => ?_)
  have M := K.b
  show g 0 0 ((cM 0 sp tk sv mf mo mn ma (vb kb 26) (vb tb 52)) ++ (cMo 26 kb kp kf)) 0 [some (.ref 0), none] []
  have loop_0 : ∀ (kb : Bool) (n_ : Nat), (∀ (v1 : Int32) (sp : ShT) (sv : SvT) (mf : AI) (bc bs : Nat), bc + potM true ≤ Rc ∧ bs + potN true ≤ Rs → f_X4_back_L0 kp n_ v1 sp sv mf = some r → g bc bs ((cM 0 sp tk sv mf mo mn ma (.ref 26) (vb tb 52)) ++ (cM 26 kp nTk nSv kf zI zI zI .null .null)) 24 [some (.ref 0), some (.int v1)] []) := by
    intro kb n_
    induction n_ with
    | zero => intro v1 sp sv mf bc bs hB hf; cases hf
    | succ n_ ih =>
      intro v1 sp sv mf bc bs hB hf
      rw [f_X4_back_L0] at hf
      refine m_run M (is := [(24, .iload_n 1, 0), (25, .bipush 8, 8)]) (pc' := 27) (L' := [some (.ref 0), some (.int v1)]) (st' := [.int 8, .int v1]) (w' := ((cM 0 sp tk sv mf mo mn ma (.ref 26) (vb tb 52)) ++ (cM 26 kp nTk nSv kf zI zI zI .null .null))) (by decide +kernel) rfl trivial ?_
      rcases ite_s hf with ⟨c_101, hf⟩ | ⟨c_101, hf⟩
      · refine m_jT M (i := .if_icmp .ge 39) 66 (by decide +kernel) rfl (by decide) c_101 ?_
        refine m_run M (is := [(66, .iconst 1, 1)]) (pc' := 67) (L' := [some (.ref 0), some (.int v1)]) (st' := [.int 1]) (w' := ((cM 0 sp tk sv mf mo mn ma (.ref 26) (vb tb 52)) ++ (cM 26 kp nTk nSv kf zI zI zI .null .null))) (by decide +kernel) rfl trivial ?_
        obtain rfl := Option.some.inj hf
        exact m_iret K (by decide +kernel) (bdg hB).1 (bdg hB).2 ⟨rfl, rfl⟩
      · refine m_jF M (i := .if_icmp .ge 39) 66 (by decide +kernel) rfl (by decide) c_101 ?_
        obtain ⟨h_102, hf⟩ := grd_s hf
        refine m_run M (is := [(30, .aload_n 0, 0), (31, .getfield 7, 0), (34, .iload_n 1, 0), (35, .iaload, 0), (36, .iconst 2, 2)]) (pc' := 37) (L' := [some (.ref 0), some (.int v1)]) (st' := [.int 2, .int (sv.1 v1.toNatClampNeg)]) (w' := ((cM 0 sp tk sv mf mo mn ma (.ref 26) (vb tb 52)) ++ (cM 26 kp nTk nSv kf zI zI zI .null .null))) (by decide +kernel) rfl ⟨inB_use h_102, trivial⟩ ?_
        rcases ite_s hf with ⟨c_103, hf⟩ | ⟨c_103, hf⟩
        · refine m_jF M (i := .if_icmp .ne 23) 60 (by decide +kernel) rfl (by decide) (fun n => n c_103) ?_
          obtain ⟨h_104, hf⟩ := grd_s hf
          refine m_run M (is := [(40, .aload_n 0, 0), (41, .getfield 28, 0), (44, .iload_n 1, 0), (45, .iaload, 0), (46, .aload_n 0, 0), (47, .getfield 76, 0)]) (pc' := 50) (L' := [some (.ref 0), some (.int v1)]) (st' := [.int sp.2.2.2.2.2.2.1, .int (sv.2.2.2.1 v1.toNatClampNeg)]) (w' := ((cM 0 sp tk sv mf mo mn ma (.ref 26) (vb tb 52)) ++ (cM 26 kp nTk nSv kf zI zI zI .null .null))) (by decide +kernel) rfl ⟨inB_use h_104, trivial⟩ ?_
          rcases ite_s hf with ⟨c_105, hf⟩ | ⟨c_105, hf⟩
          · refine m_jT M (i := .if_icmp .lt 10) 60 (by decide +kernel) rfl (by decide) c_105 ?_
            refine m_run M (is := [(60, .iinc 1 1, 1), (63, .goto (-39), 0)]) (pc' := 24) (L' := [some (.ref 0), some (.int (v1 + 1))]) (st' := []) (w' := ((cM 0 sp tk sv mf mo mn ma (.ref 26) (vb tb 52)) ++ (cM 26 kp nTk nSv kf zI zI zI .null .null))) (by decide +kernel) rfl trivial ?_
            exact ih (v1 + 1) sp sv mf _ _ hB hf
          · refine m_jF M (i := .if_icmp .lt 10) 60 (by decide +kernel) rfl (by decide) c_105 ?_
            obtain ⟨h_106, hf⟩ := grd_s hf
            refine m_run M (is := [(53, .aload_n 0, 0), (54, .getfield 7, 0), (57, .iload_n 1, 0), (58, .iconst 0, 0), (59, .iastore, 0), (60, .iinc 1 1, 1), (63, .goto (-39), 0)]) (pc' := 24) (L' := [some (.ref 0), some (.int (v1 + 1))]) (st' := []) (w' := ((cM 0 sp tk ((upd sv.1 v1.toNatClampNeg 0), sv.2.1, sv.2.2.1, sv.2.2.2.1, sv.2.2.2.2.1, sv.2.2.2.2.2) mf mo mn ma (.ref 26) (vb tb 52)) ++ (cM 26 kp nTk nSv kf zI zI zI .null .null))) (by decide +kernel) rfl ⟨inB_use h_106, trivial⟩ ?_
            exact ih (v1 + 1) sp ((upd sv.1 v1.toNatClampNeg 0), sv.2.1, sv.2.2.1, sv.2.2.2.1, sv.2.2.2.2.1, sv.2.2.2.2.2) mf _ _ hB hf
        · refine m_jT M (i := .if_icmp .ne 23) 60 (by decide +kernel) rfl (by decide) c_103 ?_
          refine m_run M (is := [(60, .iinc 1 1, 1), (63, .goto (-39), 0)]) (pc' := 24) (L' := [some (.ref 0), some (.int (v1 + 1))]) (st' := []) (w' := ((cM 0 sp tk sv mf mo mn ma (.ref 26) (vb tb 52)) ++ (cM 26 kp nTk nSv kf zI zI zI .null .null))) (by decide +kernel) rfl trivial ?_
          exact ih (v1 + 1) sp sv mf _ _ hB hf
  rw [f_X4_back] at hf
  refine m_run M (is := [(0, .aload_n 0, 0), (1, .getfield 328, 0)]) (pc' := 4) (L' := [some (.ref 0), none]) (st' := [(vb kb 26)]) (w' := ((cM 0 sp tk sv mf mo mn ma (vb kb 26) (vb tb 52)) ++ (cMo 26 kb kp kf))) (by decide +kernel) rfl trivial ?_
  rcases ite_s hf with ⟨c_1001, hg_1001⟩ | ⟨c_1001, hg_1001⟩
  · clear hf
    subst c_1001
    have hf := hg_1001
    refine m_nnR M 14 (off := 10) (by decide +kernel) (by decide) ?_
    refine m_run M (is := [(14, .aload_n 0, 0), (15, .aload_n 0, 0), (16, .getfield 328, 0)]) (pc' := 19) (L' := [some (.ref 0), none]) (st' := [.ref 26, .ref 0]) (w' := ((cM 0 sp tk sv mf mo mn ma (.ref 26) (vb tb 52)) ++ (cM 26 kp nTk nSv kf zI zI zI .null .null))) (by decide +kernel) rfl trivial ?_
    obtain ⟨r1002, h_1002, hf⟩ := bnd_s hf
    refine m_cV0 M (rest := []) (w2 := ((cM 0 r1002 tk sv mf mo mn ma (.ref 26) (vb tb 52)) ++ (cM 26 kp nTk nSv kf zI zI zI .null .null))) (st2 := []) (run_X4_takeFrom    sp tk sv mf mo mn ma (.ref 26) (vb tb 52) kp nTk nSv kf zI zI zI .null .null h_1002) cv_X4_takeFrom lk_X4_230 (by decide +kernel) (List.range 53) List.nodup_range ⟨(by rw [List.length_range]; exact Nat.le_of_ble_eq_true rfl), (by rw [List.length_range]; decide)⟩ (hwId2 (Nat.le_of_ble_eq_true rfl)) rfl rfl (Nat.le_of_ble_eq_true rfl) ⟨by decide, by decide⟩ rfl rfl (bdg hB) (hpId2 (Nat.le_of_ble_eq_true rfl) rfl) rfl ?_
    refine m_run M (is := [(22, .iconst 0, 0), (23, .istore_n 1, 0)]) (pc' := 24) (L' := [some (.ref 0), some (.int 0)]) (st' := []) (w' := ((cM 0 r1002 tk sv mf mo mn ma (.ref 26) (vb tb 52)) ++ (cM 26 kp nTk nSv kf zI zI zI .null .null))) (by decide +kernel) rfl trivial ?_
    exact loop_0 true fuel0 0 r1002 sv mf _ _ hB hf
  · have c_1001 := bF c_1001
    clear hf
    subst c_1001
    have hf := hg_1001
    refine m_nnN M (off := 10) (by decide +kernel) ?_
    refine m_run M (is := [(7, .aload_n 0, 0), (8, .bipush (-5), -5)]) (pc' := 10) (L' := [some (.ref 0), none]) (st' := [.int (-5), .ref 0]) (w' := ((cM 0 sp tk sv mf mo mn ma .null (vb tb 52)) ++ abM)) (by decide +kernel) rfl trivial ?_
    obtain ⟨r1003, h_1003, hf⟩ := bnd_s hf
    refine m_cV0 M (rest := []) (w2 := ((cM 0 sp tk sv r1003.2 mo mn ma .null (vb tb 52)) ++ abM)) (st2 := [.int r1003.1]) (run_X4_refuse (-5)   sp tk sv mf mo mn ma .null (vb tb 27) h_1003) cv_X4_refuse lk_X4_85 (by decide +kernel) (rhS 26 52) (by decide) ⟨Nat.le_of_ble_eq_true rfl, Nat.le_of_ble_eq_true rfl⟩ (hwS rvkn (rvt tb) rfl sp tk sv mf mo mn ma) rfl rfl (Nat.le_of_ble_eq_true rfl) ⟨by decide, by decide⟩ rfl rfl (bdg hB) (hpS rvkn (rvt tb) rfl sp tk sv mf mo mn ma sp tk sv r1003.2 mo mn ma) rfl ?_
    obtain rfl := Option.some.inj hf
    exact m_iret K (by decide +kernel) (bdg hB).1 (bdg hB).2 ⟨rfl, rfl⟩

