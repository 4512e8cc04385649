/-! ===== written by wip/whole/drive.py ===== -/
set_option maxRecDepth 100000 in
set_option maxHeartbeats 4000000 in
theorem hw_13  (sp : ShT) (tk : TkT) (sv : SvT) (mf : AI) (mo : AI) (mn : AI) (ma : AI) (kv : Value) (tv : Value) (sp2 : ShT) (tk2 : TkT) (sv2 : SvT) (mf2 : AI) (mo2 : AI) (mn2 : AI) (ma2 : AI) (kv2 : Value) (tv2 : Value) : (List.take (List.length (([.inr (.inl (0, 16, .inl sp2.1))] ++ [.inr (.inl (0, 16, .inl sp.1))]) : Wd)) ([35, 9] : List Nat)).map (fun k => (((cM 0 sp tk sv mf mo mn ma kv tv) ++ (cM 26 sp2 tk2 sv2 mf2 mo2 mn2 ma2 kv2 tv2)))[k]?) = (([.inr (.inl (0, 16, .inl sp2.1))] ++ [.inr (.inl (0, 16, .inl sp.1))]) : Wd).map (fun x => some (rS [35, 9] (List.length (((cM 0 sp tk sv mf mo mn ma kv tv) ++ (cM 26 sp2 tk2 sv2 mf2 mo2 mn2 ma2 kv2 tv2)) : Wd)) x)) := rfl
set_option maxRecDepth 100000 in
set_option maxHeartbeats 4000000 in
theorem hp_13  (sp : ShT) (tk : TkT) (sv : SvT) (mf : AI) (mo : AI) (mn : AI) (ma : AI) (kv : Value) (tv : Value) (sp2 : ShT) (tk2 : TkT) (sv2 : SvT) (mf2 : AI) (mo2 : AI) (mn2 : AI) (ma2 : AI) (kv2 : Value) (tv2 : Value) (fa' : AI) (fb' : AI) : putL (List.take (List.length (([.inr (.inl (0, 16, .inl sp2.1))] ++ [.inr (.inl (0, 16, .inl sp.1))]) : Wd)) ([35, 9] : List Nat)) ((([.inr (.inl (0, 16, .inl fa'))] ++ [.inr (.inl (0, 16, .inl fb'))]) : Wd).map (rS [35, 9] (List.length (((cM 0 sp tk sv mf mo mn ma kv tv) ++ (cM 26 sp2 tk2 sv2 mf2 mo2 mn2 ma2 kv2 tv2)) : Wd)))) ((cM 0 sp tk sv mf mo mn ma kv tv) ++ (cM 26 sp2 tk2 sv2 mf2 mo2 mn2 ma2 kv2 tv2)) = ((cM 0 (fb', sp.2.1, sp.2.2.1, sp.2.2.2.1, sp.2.2.2.2.1, sp.2.2.2.2.2.1, sp.2.2.2.2.2.2.1, sp.2.2.2.2.2.2.2.1, sp.2.2.2.2.2.2.2.2.1, sp.2.2.2.2.2.2.2.2.2) tk sv mf mo mn ma kv tv) ++ (cM 26 (fa', sp2.2.1, sp2.2.2.1, sp2.2.2.2.1, sp2.2.2.2.2.1, sp2.2.2.2.2.2.1, sp2.2.2.2.2.2.2.1, sp2.2.2.2.2.2.2.2.1, sp2.2.2.2.2.2.2.2.2.1, sp2.2.2.2.2.2.2.2.2.2) tk2 sv2 mf2 mo2 mn2 ma2 kv2 tv2)) := rfl
set_option maxRecDepth 100000 in
set_option maxHeartbeats 4000000 in
theorem hw_14  (sp : ShT) (tk : TkT) (sv : SvT) (mf : AI) (mo : AI) (mn : AI) (ma : AI) (kv : Value) (tv : Value) (sp2 : ShT) (tk2 : TkT) (sv2 : SvT) (mf2 : AI) (mo2 : AI) (mn2 : AI) (ma2 : AI) (kv2 : Value) (tv2 : Value) : (List.take (List.length (([.inr (.inl (0, 16, .inl sp2.2.1))] ++ [.inr (.inl (0, 16, .inl sp.2.1))]) : Wd)) ([36, 10] : List Nat)).map (fun k => (((cM 0 sp tk sv mf mo mn ma kv tv) ++ (cM 26 sp2 tk2 sv2 mf2 mo2 mn2 ma2 kv2 tv2)))[k]?) = (([.inr (.inl (0, 16, .inl sp2.2.1))] ++ [.inr (.inl (0, 16, .inl sp.2.1))]) : Wd).map (fun x => some (rS [36, 10] (List.length (((cM 0 sp tk sv mf mo mn ma kv tv) ++ (cM 26 sp2 tk2 sv2 mf2 mo2 mn2 ma2 kv2 tv2)) : Wd)) x)) := rfl
set_option maxRecDepth 100000 in
set_option maxHeartbeats 4000000 in
theorem hp_14  (sp : ShT) (tk : TkT) (sv : SvT) (mf : AI) (mo : AI) (mn : AI) (ma : AI) (kv : Value) (tv : Value) (sp2 : ShT) (tk2 : TkT) (sv2 : SvT) (mf2 : AI) (mo2 : AI) (mn2 : AI) (ma2 : AI) (kv2 : Value) (tv2 : Value) (fa' : AI) (fb' : AI) : putL (List.take (List.length (([.inr (.inl (0, 16, .inl sp2.2.1))] ++ [.inr (.inl (0, 16, .inl sp.2.1))]) : Wd)) ([36, 10] : List Nat)) ((([.inr (.inl (0, 16, .inl fa'))] ++ [.inr (.inl (0, 16, .inl fb'))]) : Wd).map (rS [36, 10] (List.length (((cM 0 sp tk sv mf mo mn ma kv tv) ++ (cM 26 sp2 tk2 sv2 mf2 mo2 mn2 ma2 kv2 tv2)) : Wd)))) ((cM 0 sp tk sv mf mo mn ma kv tv) ++ (cM 26 sp2 tk2 sv2 mf2 mo2 mn2 ma2 kv2 tv2)) = ((cM 0 (sp.1, fb', sp.2.2.1, sp.2.2.2.1, sp.2.2.2.2.1, sp.2.2.2.2.2.1, sp.2.2.2.2.2.2.1, sp.2.2.2.2.2.2.2.1, sp.2.2.2.2.2.2.2.2.1, sp.2.2.2.2.2.2.2.2.2) tk sv mf mo mn ma kv tv) ++ (cM 26 (sp2.1, fa', sp2.2.2.1, sp2.2.2.2.1, sp2.2.2.2.2.1, sp2.2.2.2.2.2.1, sp2.2.2.2.2.2.2.1, sp2.2.2.2.2.2.2.2.1, sp2.2.2.2.2.2.2.2.2.1, sp2.2.2.2.2.2.2.2.2.2) tk2 sv2 mf2 mo2 mn2 ma2 kv2 tv2)) := rfl
set_option maxRecDepth 100000 in
set_option maxHeartbeats 4000000 in
theorem hw_15  (sp : ShT) (tk : TkT) (sv : SvT) (mf : AI) (mo : AI) (mn : AI) (ma : AI) (kv : Value) (tv : Value) (sp2 : ShT) (tk2 : TkT) (sv2 : SvT) (mf2 : AI) (mo2 : AI) (mn2 : AI) (ma2 : AI) (kv2 : Value) (tv2 : Value) : (List.take (List.length (([.inr (.inl (0, 16, .inl sp2.2.2.1))] ++ [.inr (.inl (0, 16, .inl sp.2.2.1))]) : Wd)) ([37, 11] : List Nat)).map (fun k => (((cM 0 sp tk sv mf mo mn ma kv tv) ++ (cM 26 sp2 tk2 sv2 mf2 mo2 mn2 ma2 kv2 tv2)))[k]?) = (([.inr (.inl (0, 16, .inl sp2.2.2.1))] ++ [.inr (.inl (0, 16, .inl sp.2.2.1))]) : Wd).map (fun x => some (rS [37, 11] (List.length (((cM 0 sp tk sv mf mo mn ma kv tv) ++ (cM 26 sp2 tk2 sv2 mf2 mo2 mn2 ma2 kv2 tv2)) : Wd)) x)) := rfl
set_option maxRecDepth 100000 in
set_option maxHeartbeats 4000000 in
theorem hp_15  (sp : ShT) (tk : TkT) (sv : SvT) (mf : AI) (mo : AI) (mn : AI) (ma : AI) (kv : Value) (tv : Value) (sp2 : ShT) (tk2 : TkT) (sv2 : SvT) (mf2 : AI) (mo2 : AI) (mn2 : AI) (ma2 : AI) (kv2 : Value) (tv2 : Value) (fa' : AI) (fb' : AI) : putL (List.take (List.length (([.inr (.inl (0, 16, .inl sp2.2.2.1))] ++ [.inr (.inl (0, 16, .inl sp.2.2.1))]) : Wd)) ([37, 11] : List Nat)) ((([.inr (.inl (0, 16, .inl fa'))] ++ [.inr (.inl (0, 16, .inl fb'))]) : Wd).map (rS [37, 11] (List.length (((cM 0 sp tk sv mf mo mn ma kv tv) ++ (cM 26 sp2 tk2 sv2 mf2 mo2 mn2 ma2 kv2 tv2)) : Wd)))) ((cM 0 sp tk sv mf mo mn ma kv tv) ++ (cM 26 sp2 tk2 sv2 mf2 mo2 mn2 ma2 kv2 tv2)) = ((cM 0 (sp.1, sp.2.1, fb', sp.2.2.2.1, sp.2.2.2.2.1, sp.2.2.2.2.2.1, sp.2.2.2.2.2.2.1, sp.2.2.2.2.2.2.2.1, sp.2.2.2.2.2.2.2.2.1, sp.2.2.2.2.2.2.2.2.2) tk sv mf mo mn ma kv tv) ++ (cM 26 (sp2.1, sp2.2.1, fa', sp2.2.2.2.1, sp2.2.2.2.2.1, sp2.2.2.2.2.2.1, sp2.2.2.2.2.2.2.1, sp2.2.2.2.2.2.2.2.1, sp2.2.2.2.2.2.2.2.2.1, sp2.2.2.2.2.2.2.2.2.2) tk2 sv2 mf2 mo2 mn2 ma2 kv2 tv2)) := rfl
set_option maxRecDepth 100000 in
set_option maxHeartbeats 4000000 in
theorem hw_16  (sp : ShT) (tk : TkT) (sv : SvT) (mf : AI) (mo : AI) (mn : AI) (ma : AI) (kv : Value) (tv : Value) (sp2 : ShT) (tk2 : TkT) (sv2 : SvT) (mf2 : AI) (mo2 : AI) (mn2 : AI) (ma2 : AI) (kv2 : Value) (tv2 : Value) : (List.take (List.length (([.inr (.inl (0, 6, .inl sp2.2.2.2.1))] ++ [.inr (.inl (0, 6, .inl sp.2.2.2.1))]) : Wd)) ([38, 12] : List Nat)).map (fun k => (((cM 0 sp tk sv mf mo mn ma kv tv) ++ (cM 26 sp2 tk2 sv2 mf2 mo2 mn2 ma2 kv2 tv2)))[k]?) = (([.inr (.inl (0, 6, .inl sp2.2.2.2.1))] ++ [.inr (.inl (0, 6, .inl sp.2.2.2.1))]) : Wd).map (fun x => some (rS [38, 12] (List.length (((cM 0 sp tk sv mf mo mn ma kv tv) ++ (cM 26 sp2 tk2 sv2 mf2 mo2 mn2 ma2 kv2 tv2)) : Wd)) x)) := rfl
set_option maxRecDepth 100000 in
set_option maxHeartbeats 4000000 in
theorem hp_16  (sp : ShT) (tk : TkT) (sv : SvT) (mf : AI) (mo : AI) (mn : AI) (ma : AI) (kv : Value) (tv : Value) (sp2 : ShT) (tk2 : TkT) (sv2 : SvT) (mf2 : AI) (mo2 : AI) (mn2 : AI) (ma2 : AI) (kv2 : Value) (tv2 : Value) (fa' : AI) (fb' : AI) : putL (List.take (List.length (([.inr (.inl (0, 6, .inl sp2.2.2.2.1))] ++ [.inr (.inl (0, 6, .inl sp.2.2.2.1))]) : Wd)) ([38, 12] : List Nat)) ((([.inr (.inl (0, 6, .inl fa'))] ++ [.inr (.inl (0, 6, .inl fb'))]) : Wd).map (rS [38, 12] (List.length (((cM 0 sp tk sv mf mo mn ma kv tv) ++ (cM 26 sp2 tk2 sv2 mf2 mo2 mn2 ma2 kv2 tv2)) : Wd)))) ((cM 0 sp tk sv mf mo mn ma kv tv) ++ (cM 26 sp2 tk2 sv2 mf2 mo2 mn2 ma2 kv2 tv2)) = ((cM 0 (sp.1, sp.2.1, sp.2.2.1, fb', sp.2.2.2.2.1, sp.2.2.2.2.2.1, sp.2.2.2.2.2.2.1, sp.2.2.2.2.2.2.2.1, sp.2.2.2.2.2.2.2.2.1, sp.2.2.2.2.2.2.2.2.2) tk sv mf mo mn ma kv tv) ++ (cM 26 (sp2.1, sp2.2.1, sp2.2.2.1, fa', sp2.2.2.2.2.1, sp2.2.2.2.2.2.1, sp2.2.2.2.2.2.2.1, sp2.2.2.2.2.2.2.2.1, sp2.2.2.2.2.2.2.2.2.1, sp2.2.2.2.2.2.2.2.2.2) tk2 sv2 mf2 mo2 mn2 ma2 kv2 tv2)) := rfl
set_option maxRecDepth 100000 in
set_option maxHeartbeats 4000000 in
theorem hw_17  (sp : ShT) (tk : TkT) (sv : SvT) (mf : AI) (mo : AI) (mn : AI) (ma : AI) (kv : Value) (tv : Value) (sp2 : ShT) (tk2 : TkT) (sv2 : SvT) (mf2 : AI) (mo2 : AI) (mn2 : AI) (ma2 : AI) (kv2 : Value) (tv2 : Value) : (List.take (List.length (([.inr (.inl (0, 6, .inl sp2.2.2.2.2.1))] ++ [.inr (.inl (0, 6, .inl sp.2.2.2.2.1))]) : Wd)) ([39, 13] : List Nat)).map (fun k => (((cM 0 sp tk sv mf mo mn ma kv tv) ++ (cM 26 sp2 tk2 sv2 mf2 mo2 mn2 ma2 kv2 tv2)))[k]?) = (([.inr (.inl (0, 6, .inl sp2.2.2.2.2.1))] ++ [.inr (.inl (0, 6, .inl sp.2.2.2.2.1))]) : Wd).map (fun x => some (rS [39, 13] (List.length (((cM 0 sp tk sv mf mo mn ma kv tv) ++ (cM 26 sp2 tk2 sv2 mf2 mo2 mn2 ma2 kv2 tv2)) : Wd)) x)) := rfl
set_option maxRecDepth 100000 in
set_option maxHeartbeats 4000000 in
theorem hp_17  (sp : ShT) (tk : TkT) (sv : SvT) (mf : AI) (mo : AI) (mn : AI) (ma : AI) (kv : Value) (tv : Value) (sp2 : ShT) (tk2 : TkT) (sv2 : SvT) (mf2 : AI) (mo2 : AI) (mn2 : AI) (ma2 : AI) (kv2 : Value) (tv2 : Value) (fa' : AI) (fb' : AI) : putL (List.take (List.length (([.inr (.inl (0, 6, .inl sp2.2.2.2.2.1))] ++ [.inr (.inl (0, 6, .inl sp.2.2.2.2.1))]) : Wd)) ([39, 13] : List Nat)) ((([.inr (.inl (0, 6, .inl fa'))] ++ [.inr (.inl (0, 6, .inl fb'))]) : Wd).map (rS [39, 13] (List.length (((cM 0 sp tk sv mf mo mn ma kv tv) ++ (cM 26 sp2 tk2 sv2 mf2 mo2 mn2 ma2 kv2 tv2)) : Wd)))) ((cM 0 sp tk sv mf mo mn ma kv tv) ++ (cM 26 sp2 tk2 sv2 mf2 mo2 mn2 ma2 kv2 tv2)) = ((cM 0 (sp.1, sp.2.1, sp.2.2.1, sp.2.2.2.1, fb', sp.2.2.2.2.2.1, sp.2.2.2.2.2.2.1, sp.2.2.2.2.2.2.2.1, sp.2.2.2.2.2.2.2.2.1, sp.2.2.2.2.2.2.2.2.2) tk sv mf mo mn ma kv tv) ++ (cM 26 (sp2.1, sp2.2.1, sp2.2.2.1, sp2.2.2.2.1, fa', sp2.2.2.2.2.2.1, sp2.2.2.2.2.2.2.1, sp2.2.2.2.2.2.2.2.1, sp2.2.2.2.2.2.2.2.2.1, sp2.2.2.2.2.2.2.2.2.2) tk2 sv2 mf2 mo2 mn2 ma2 kv2 tv2)) := rfl
def f_X4_takeFrom (sp : ShT) (sp2 : ShT) : Option (ShT) :=
  (f_X4_copied 16 sp2.1 sp.1).bind fun r1001 =>
  (f_X4_copied 16 sp2.2.1 sp.2.1).bind fun r1002 =>
  (f_X4_copied 16 sp2.2.2.1 sp.2.2.1).bind fun r1003 =>
  (f_X4_copied 6 sp2.2.2.2.1 sp.2.2.2.1).bind fun r1004 =>
  (f_X4_copied 6 sp2.2.2.2.2.1 sp.2.2.2.2.1).bind fun r1005 =>
  some (r1001, r1002, r1003, r1004, r1005, sp2.2.2.2.2.2.1, sp2.2.2.2.2.2.2.1, sp2.2.2.2.2.2.2.2.1, sp2.2.2.2.2.2.2.2.2.1, sp2.2.2.2.2.2.2.2.2.2)
set_option maxRecDepth 100000 in
set_option maxHeartbeats 4000000 in
theorem run_X4_takeFrom {l : Launch} {D : va_G} {cT : Nat → ClassId}    (sp : ShT) (tk : TkT) (sv : SvT) (mf : AI) (mo : AI) (mn : AI) (ma : AI) (kv : Value) (tv : Value) (sp2 : ShT) (tk2 : TkT) (sv2 : SvT) (mf2 : AI) (mo2 : AI) (mn2 : AI) (ma2 : AI) (kv2 : Value) (tv2 : Value) {r : ShT} (hf : f_X4_takeFrom sp sp2 = some r) : Runs l D cT yX4_takeFrom cX4_takeFrom 2 none 1 22 [.ref 0, .ref 26] ((cM 0 sp tk sv mf mo mn ma kv tv) ++ (cM 26 sp2 tk2 sv2 mf2 mo2 mn2 ma2 kv2 tv2)) (EQ none ((cM 0 r tk sv mf mo mn ma kv tv) ++ (cM 26 sp2 tk2 sv2 mf2 mo2 mn2 ma2 kv2 tv2))) := by
  refine runs_of O_X4 okO_X4 (by decide +kernel) rfl rfl (Nat.le_of_ble_eq_true rfl) (Nat.le_of_ble_eq_true rfl) (fun g K => ?_)
  have M := K.b
  show g 0 0 ((cM 0 sp tk sv mf mo mn ma kv tv) ++ (cM 26 sp2 tk2 sv2 mf2 mo2 mn2 ma2 kv2 tv2)) 0 [some (.ref 0), some (.ref 26)] []
  rw [f_X4_takeFrom] at hf
  refine m_run M (is := [(0, .aload_n 0, 0), (1, .aload_n 1, 0), (2, .getfield 69, 0), (5, .putfield 69, 0), (8, .aload_n 1, 0), (9, .getfield 37, 0), (12, .aload_n 0, 0), (13, .getfield 37, 0)]) (pc' := 16) (L' := [some (.ref 0), some (.ref 26)]) (st' := [.ref 9, .ref 35]) (w' := ((cM 0 (sp.1, sp.2.1, sp.2.2.1, sp.2.2.2.1, sp.2.2.2.2.1, sp2.2.2.2.2.2.1, sp.2.2.2.2.2.2.1, sp.2.2.2.2.2.2.2.1, sp.2.2.2.2.2.2.2.2.1, sp.2.2.2.2.2.2.2.2.2) tk sv mf mo mn ma kv tv) ++ (cM 26 sp2 tk2 sv2 mf2 mo2 mn2 ma2 kv2 tv2))) (by decide +kernel) rfl trivial ?_
  obtain ⟨r1001, h_1001, hf⟩ := bnd_s hf
  refine m_cS0 M (rest := []) (w2 := ((cM 0 (r1001, sp.2.1, sp.2.2.1, sp.2.2.2.1, sp.2.2.2.2.1, sp2.2.2.2.2.2.1, sp.2.2.2.2.2.2.1, sp.2.2.2.2.2.2.2.1, sp.2.2.2.2.2.2.2.2.1, sp.2.2.2.2.2.2.2.2.2) tk sv mf mo mn ma kv tv) ++ (cM 26 sp2 tk2 sv2 mf2 mo2 mn2 ma2 kv2 tv2))) (st2 := []) (run_X4_copied  16  sp2.1 sp.1 h_1001) cs_X4_copied lk_X4_324 (by decide +kernel) [35, 9] (by decide) ⟨Nat.le_of_ble_eq_true rfl, Nat.le_of_ble_eq_true rfl⟩ (hw_13  (sp.1, sp.2.1, sp.2.2.1, sp.2.2.2.1, sp.2.2.2.2.1, sp2.2.2.2.2.2.1, sp.2.2.2.2.2.2.1, sp.2.2.2.2.2.2.2.1, sp.2.2.2.2.2.2.2.2.1, sp.2.2.2.2.2.2.2.2.2) tk sv mf mo mn ma kv tv sp2 tk2 sv2 mf2 mo2 mn2 ma2 kv2 tv2) rfl (Nat.le_of_ble_eq_true rfl) ⟨by decide, by decide⟩ rfl rfl ⟨Nat.zero_le _, Nat.zero_le _⟩ (hp_13  (sp.1, sp.2.1, sp.2.2.1, sp.2.2.2.1, sp.2.2.2.2.1, sp2.2.2.2.2.2.1, sp.2.2.2.2.2.2.1, sp.2.2.2.2.2.2.2.1, sp.2.2.2.2.2.2.2.2.1, sp.2.2.2.2.2.2.2.2.2) tk sv mf mo mn ma kv tv sp2 tk2 sv2 mf2 mo2 mn2 ma2 kv2 tv2 sp2.1 r1001) rfl ?_
  refine m_run M (is := [(19, .aload_n 1, 0), (20, .getfield 40, 0), (23, .aload_n 0, 0), (24, .getfield 40, 0)]) (pc' := 27) (L' := [some (.ref 0), some (.ref 26)]) (st' := [.ref 10, .ref 36]) (w' := ((cM 0 (r1001, sp.2.1, sp.2.2.1, sp.2.2.2.1, sp.2.2.2.2.1, sp2.2.2.2.2.2.1, sp.2.2.2.2.2.2.1, sp.2.2.2.2.2.2.2.1, sp.2.2.2.2.2.2.2.2.1, sp.2.2.2.2.2.2.2.2.2) tk sv mf mo mn ma kv tv) ++ (cM 26 sp2 tk2 sv2 mf2 mo2 mn2 ma2 kv2 tv2))) (by decide +kernel) rfl trivial ?_
  obtain ⟨r1002, h_1002, hf⟩ := bnd_s hf
  refine m_cS0 M (rest := []) (w2 := ((cM 0 (r1001, r1002, sp.2.2.1, sp.2.2.2.1, sp.2.2.2.2.1, sp2.2.2.2.2.2.1, sp.2.2.2.2.2.2.1, sp.2.2.2.2.2.2.2.1, sp.2.2.2.2.2.2.2.2.1, sp.2.2.2.2.2.2.2.2.2) tk sv mf mo mn ma kv tv) ++ (cM 26 sp2 tk2 sv2 mf2 mo2 mn2 ma2 kv2 tv2))) (st2 := []) (run_X4_copied  16  sp2.2.1 sp.2.1 h_1002) cs_X4_copied lk_X4_324 (by decide +kernel) [36, 10] (by decide) ⟨Nat.le_of_ble_eq_true rfl, Nat.le_of_ble_eq_true rfl⟩ (hw_14  (r1001, sp.2.1, sp.2.2.1, sp.2.2.2.1, sp.2.2.2.2.1, sp2.2.2.2.2.2.1, sp.2.2.2.2.2.2.1, sp.2.2.2.2.2.2.2.1, sp.2.2.2.2.2.2.2.2.1, sp.2.2.2.2.2.2.2.2.2) tk sv mf mo mn ma kv tv sp2 tk2 sv2 mf2 mo2 mn2 ma2 kv2 tv2) rfl (Nat.le_of_ble_eq_true rfl) ⟨by decide, by decide⟩ rfl rfl ⟨Nat.zero_le _, Nat.zero_le _⟩ (hp_14  (r1001, sp.2.1, sp.2.2.1, sp.2.2.2.1, sp.2.2.2.2.1, sp2.2.2.2.2.2.1, sp.2.2.2.2.2.2.1, sp.2.2.2.2.2.2.2.1, sp.2.2.2.2.2.2.2.2.1, sp.2.2.2.2.2.2.2.2.2) tk sv mf mo mn ma kv tv sp2 tk2 sv2 mf2 mo2 mn2 ma2 kv2 tv2 sp2.2.1 r1002) rfl ?_
  refine m_run M (is := [(30, .aload_n 1, 0), (31, .getfield 43, 0), (34, .aload_n 0, 0), (35, .getfield 43, 0)]) (pc' := 38) (L' := [some (.ref 0), some (.ref 26)]) (st' := [.ref 11, .ref 37]) (w' := ((cM 0 (r1001, r1002, sp.2.2.1, sp.2.2.2.1, sp.2.2.2.2.1, sp2.2.2.2.2.2.1, sp.2.2.2.2.2.2.1, sp.2.2.2.2.2.2.2.1, sp.2.2.2.2.2.2.2.2.1, sp.2.2.2.2.2.2.2.2.2) tk sv mf mo mn ma kv tv) ++ (cM 26 sp2 tk2 sv2 mf2 mo2 mn2 ma2 kv2 tv2))) (by decide +kernel) rfl trivial ?_
  obtain ⟨r1003, h_1003, hf⟩ := bnd_s hf
  refine m_cS0 M (rest := []) (w2 := ((cM 0 (r1001, r1002, r1003, sp.2.2.2.1, sp.2.2.2.2.1, sp2.2.2.2.2.2.1, sp.2.2.2.2.2.2.1, sp.2.2.2.2.2.2.2.1, sp.2.2.2.2.2.2.2.2.1, sp.2.2.2.2.2.2.2.2.2) tk sv mf mo mn ma kv tv) ++ (cM 26 sp2 tk2 sv2 mf2 mo2 mn2 ma2 kv2 tv2))) (st2 := []) (run_X4_copied  16  sp2.2.2.1 sp.2.2.1 h_1003) cs_X4_copied lk_X4_324 (by decide +kernel) [37, 11] (by decide) ⟨Nat.le_of_ble_eq_true rfl, Nat.le_of_ble_eq_true rfl⟩ (hw_15  (r1001, r1002, sp.2.2.1, sp.2.2.2.1, sp.2.2.2.2.1, sp2.2.2.2.2.2.1, sp.2.2.2.2.2.2.1, sp.2.2.2.2.2.2.2.1, sp.2.2.2.2.2.2.2.2.1, sp.2.2.2.2.2.2.2.2.2) tk sv mf mo mn ma kv tv sp2 tk2 sv2 mf2 mo2 mn2 ma2 kv2 tv2) rfl (Nat.le_of_ble_eq_true rfl) ⟨by decide, by decide⟩ rfl rfl ⟨Nat.zero_le _, Nat.zero_le _⟩ (hp_15  (r1001, r1002, sp.2.2.1, sp.2.2.2.1, sp.2.2.2.2.1, sp2.2.2.2.2.2.1, sp.2.2.2.2.2.2.1, sp.2.2.2.2.2.2.2.1, sp.2.2.2.2.2.2.2.2.1, sp.2.2.2.2.2.2.2.2.2) tk sv mf mo mn ma kv tv sp2 tk2 sv2 mf2 mo2 mn2 ma2 kv2 tv2 sp2.2.2.1 r1003) rfl ?_
  refine m_run M (is := [(41, .aload_n 0, 0), (42, .aload_n 1, 0), (43, .getfield 76, 0), (46, .putfield 76, 0), (49, .aload_n 1, 0), (50, .getfield 46, 0), (53, .aload_n 0, 0), (54, .getfield 46, 0)]) (pc' := 57) (L' := [some (.ref 0), some (.ref 26)]) (st' := [.ref 12, .ref 38]) (w' := ((cM 0 (r1001, r1002, r1003, sp.2.2.2.1, sp.2.2.2.2.1, sp2.2.2.2.2.2.1, sp2.2.2.2.2.2.2.1, sp.2.2.2.2.2.2.2.1, sp.2.2.2.2.2.2.2.2.1, sp.2.2.2.2.2.2.2.2.2) tk sv mf mo mn ma kv tv) ++ (cM 26 sp2 tk2 sv2 mf2 mo2 mn2 ma2 kv2 tv2))) (by decide +kernel) rfl trivial ?_
  obtain ⟨r1004, h_1004, hf⟩ := bnd_s hf
  refine m_cS0 M (rest := []) (w2 := ((cM 0 (r1001, r1002, r1003, r1004, sp.2.2.2.2.1, sp2.2.2.2.2.2.1, sp2.2.2.2.2.2.2.1, sp.2.2.2.2.2.2.2.1, sp.2.2.2.2.2.2.2.2.1, sp.2.2.2.2.2.2.2.2.2) tk sv mf mo mn ma kv tv) ++ (cM 26 sp2 tk2 sv2 mf2 mo2 mn2 ma2 kv2 tv2))) (st2 := []) (run_X4_copied  6  sp2.2.2.2.1 sp.2.2.2.1 h_1004) cs_X4_copied lk_X4_324 (by decide +kernel) [38, 12] (by decide) ⟨Nat.le_of_ble_eq_true rfl, Nat.le_of_ble_eq_true rfl⟩ (hw_16  (r1001, r1002, r1003, sp.2.2.2.1, sp.2.2.2.2.1, sp2.2.2.2.2.2.1, sp2.2.2.2.2.2.2.1, sp.2.2.2.2.2.2.2.1, sp.2.2.2.2.2.2.2.2.1, sp.2.2.2.2.2.2.2.2.2) tk sv mf mo mn ma kv tv sp2 tk2 sv2 mf2 mo2 mn2 ma2 kv2 tv2) rfl (Nat.le_of_ble_eq_true rfl) ⟨by decide, by decide⟩ rfl rfl ⟨Nat.zero_le _, Nat.zero_le _⟩ (hp_16  (r1001, r1002, r1003, sp.2.2.2.1, sp.2.2.2.2.1, sp2.2.2.2.2.2.1, sp2.2.2.2.2.2.2.1, sp.2.2.2.2.2.2.2.1, sp.2.2.2.2.2.2.2.2.1, sp.2.2.2.2.2.2.2.2.2) tk sv mf mo mn ma kv tv sp2 tk2 sv2 mf2 mo2 mn2 ma2 kv2 tv2 sp2.2.2.2.1 r1004) rfl ?_
  refine m_run M (is := [(60, .aload_n 1, 0), (61, .getfield 49, 0), (64, .aload_n 0, 0), (65, .getfield 49, 0)]) (pc' := 68) (L' := [some (.ref 0), some (.ref 26)]) (st' := [.ref 13, .ref 39]) (w' := ((cM 0 (r1001, r1002, r1003, r1004, sp.2.2.2.2.1, sp2.2.2.2.2.2.1, sp2.2.2.2.2.2.2.1, sp.2.2.2.2.2.2.2.1, sp.2.2.2.2.2.2.2.2.1, sp.2.2.2.2.2.2.2.2.2) tk sv mf mo mn ma kv tv) ++ (cM 26 sp2 tk2 sv2 mf2 mo2 mn2 ma2 kv2 tv2))) (by decide +kernel) rfl trivial ?_
  obtain ⟨r1005, h_1005, hf⟩ := bnd_s hf
  refine m_cS0 M (rest := []) (w2 := ((cM 0 (r1001, r1002, r1003, r1004, r1005, sp2.2.2.2.2.2.1, sp2.2.2.2.2.2.2.1, sp.2.2.2.2.2.2.2.1, sp.2.2.2.2.2.2.2.2.1, sp.2.2.2.2.2.2.2.2.2) tk sv mf mo mn ma kv tv) ++ (cM 26 sp2 tk2 sv2 mf2 mo2 mn2 ma2 kv2 tv2))) (st2 := []) (run_X4_copied  6  sp2.2.2.2.2.1 sp.2.2.2.2.1 h_1005) cs_X4_copied lk_X4_324 (by decide +kernel) [39, 13] (by decide) ⟨Nat.le_of_ble_eq_true rfl, Nat.le_of_ble_eq_true rfl⟩ (hw_17  (r1001, r1002, r1003, r1004, sp.2.2.2.2.1, sp2.2.2.2.2.2.1, sp2.2.2.2.2.2.2.1, sp.2.2.2.2.2.2.2.1, sp.2.2.2.2.2.2.2.2.1, sp.2.2.2.2.2.2.2.2.2) tk sv mf mo mn ma kv tv sp2 tk2 sv2 mf2 mo2 mn2 ma2 kv2 tv2) rfl (Nat.le_of_ble_eq_true rfl) ⟨by decide, by decide⟩ rfl rfl ⟨Nat.zero_le _, Nat.zero_le _⟩ (hp_17  (r1001, r1002, r1003, r1004, sp.2.2.2.2.1, sp2.2.2.2.2.2.1, sp2.2.2.2.2.2.2.1, sp.2.2.2.2.2.2.2.1, sp.2.2.2.2.2.2.2.2.1, sp.2.2.2.2.2.2.2.2.2) tk sv mf mo mn ma kv tv sp2 tk2 sv2 mf2 mo2 mn2 ma2 kv2 tv2 sp2.2.2.2.2.1 r1005) rfl ?_
  refine m_run M (is := [(71, .aload_n 0, 0), (72, .aload_n 1, 0), (73, .getfield 123, 0), (76, .putfield 123, 0), (79, .aload_n 0, 0), (80, .aload_n 1, 0), (81, .getfield 246, 0), (84, .putfield 246, 0), (87, .aload_n 0, 0), (88, .aload_n 1, 0), (89, .getfield 52, 0), (92, .putfield 52, 0)]) (pc' := 95) (L' := [some (.ref 0), some (.ref 26)]) (st' := []) (w' := ((cM 0 (r1001, r1002, r1003, r1004, r1005, sp2.2.2.2.2.2.1, sp2.2.2.2.2.2.2.1, sp2.2.2.2.2.2.2.2.1, sp2.2.2.2.2.2.2.2.2.1, sp2.2.2.2.2.2.2.2.2.2) tk sv mf mo mn ma kv tv) ++ (cM 26 sp2 tk2 sv2 mf2 mo2 mn2 ma2 kv2 tv2))) (by decide +kernel) rfl trivial ?_
  obtain rfl := Option.some.inj hf
  exact m_vret K (by decide +kernel) (Nat.zero_le _) (Nat.zero_le _) ⟨rfl, rfl⟩

def f_X4_standsAs_L0 (sp : ShT) (sp2 : ShT) : Nat → Int32 → Option (Int32)
  | 0, _ => none
  | n_ + 1, v2 =>
    if sp.2.2.2.2.2.1 ≤ v2 then
      some 1
    else
      if inB v2 16 then
      if inB v2 16 then
      if (sp.1 v2.toNatClampNeg) = (sp2.1 v2.toNatClampNeg) then
        f_X4_standsAs_L0 sp sp2 n_ (v2 + 1)
      else
        some 0
      else none
      else none
def f_X4_standsAs (sp : ShT) (sp2 : ShT) : Option (Int32) :=
  f_X4_standsAs_L0 sp sp2 fuel0 0
set_option maxRecDepth 100000 in
set_option maxHeartbeats 4000000 in
theorem run_X4_standsAs {l : Launch} {D : va_G} {cT : Nat → ClassId}    (sp : ShT) (tk : TkT) (sv : SvT) (mf : AI) (mo : AI) (mn : AI) (ma : AI) (kv : Value) (tv : Value) (sp2 : ShT) (tk2 : TkT) (sv2 : SvT) (mf2 : AI) (mo2 : AI) (mn2 : AI) (ma2 : AI) {r : Int32} (hf : f_X4_standsAs sp sp2 = some r) : Runs l D cT yX4_standsAs cX4_standsAs 3 (some .boolean) 0 0 [.ref 0, .ref 26] ((cM 0 sp tk sv mf mo mn ma kv tv) ++ (cM 26 sp2 tk2 sv2 mf2 mo2 mn2 ma2 .null .null)) (EQ (some (.int r)) ((cM 0 sp tk sv mf mo mn ma kv tv) ++ (cM 26 sp2 tk2 sv2 mf2 mo2 mn2 ma2 .null .null))) := by
  refine runs_of O_X4 okO_X4 (by decide +kernel) rfl rfl (Nat.le_of_ble_eq_true rfl) (Nat.le_of_ble_eq_true rfl) (fun g K => ?_)
  have M := K.b
  show g 0 0 ((cM 0 sp tk sv mf mo mn ma kv tv) ++ (cM 26 sp2 tk2 sv2 mf2 mo2 mn2 ma2 .null .null)) 0 [some (.ref 0), some (.ref 26), none] []
  have loop_0 : ∀ (n_ : Nat), (∀ (v2 : Int32), f_X4_standsAs_L0 sp sp2 n_ v2 = some r → g 0 0 ((cM 0 sp tk sv mf mo mn ma kv tv) ++ (cM 26 sp2 tk2 sv2 mf2 mo2 mn2 ma2 .null .null)) 2 [some (.ref 0), some (.ref 26), some (.int v2)] []) := by
    intro n_
    induction n_ with
    | zero => intro v2 hf; cases hf
    | succ n_ ih =>
      intro v2 hf
      rw [f_X4_standsAs_L0] at hf
      refine m_run M (is := [(2, .iload_n 2, 0), (3, .aload_n 0, 0), (4, .getfield 69, 0)]) (pc' := 7) (L' := [some (.ref 0), some (.ref 26), some (.int v2)]) (st' := [.int sp.2.2.2.2.2.1, .int v2]) (w' := ((cM 0 sp tk sv mf mo mn ma kv tv) ++ (cM 26 sp2 tk2 sv2 mf2 mo2 mn2 ma2 .null .null))) (by decide +kernel) rfl trivial ?_
      rcases ite_s hf with ⟨c_101, hf⟩ | ⟨c_101, hf⟩
      · refine m_jT M (i := .if_icmp .ge 26) 33 (by decide +kernel) rfl (by decide) c_101 ?_
        refine m_run M (is := [(33, .iconst 1, 1)]) (pc' := 34) (L' := [some (.ref 0), some (.ref 26), some (.int v2)]) (st' := [.int 1]) (w' := ((cM 0 sp tk sv mf mo mn ma kv tv) ++ (cM 26 sp2 tk2 sv2 mf2 mo2 mn2 ma2 .null .null))) (by decide +kernel) rfl trivial ?_
        obtain rfl := Option.some.inj hf
        exact m_zret K (by decide +kernel) (Or.inr rfl) (Nat.zero_le _) (Nat.zero_le _) ⟨rfl, rfl⟩
      · refine m_jF M (i := .if_icmp .ge 26) 33 (by decide +kernel) rfl (by decide) c_101 ?_
        obtain ⟨h_102, hf⟩ := grd_s hf
        obtain ⟨h_103, hf⟩ := grd_s hf
        refine m_run M (is := [(10, .aload_n 0, 0), (11, .getfield 37, 0), (14, .iload_n 2, 0), (15, .iaload, 0), (16, .aload_n 1, 0), (17, .getfield 37, 0), (20, .iload_n 2, 0), (21, .iaload, 0)]) (pc' := 22) (L' := [some (.ref 0), some (.ref 26), some (.int v2)]) (st' := [.int (sp2.1 v2.toNatClampNeg), .int (sp.1 v2.toNatClampNeg)]) (w' := ((cM 0 sp tk sv mf mo mn ma kv tv) ++ (cM 26 sp2 tk2 sv2 mf2 mo2 mn2 ma2 .null .null))) (by decide +kernel) rfl ⟨inB_use h_102, inB_use h_103, trivial⟩ ?_
        rcases ite_s hf with ⟨c_104, hf⟩ | ⟨c_104, hf⟩
        · refine m_jT M (i := .if_icmp .eq 5) 27 (by decide +kernel) rfl (by decide) c_104 ?_
          refine m_run M (is := [(27, .iinc 2 1, 1), (30, .goto (-28), 0)]) (pc' := 2) (L' := [some (.ref 0), some (.ref 26), some (.int (v2 + 1))]) (st' := []) (w' := ((cM 0 sp tk sv mf mo mn ma kv tv) ++ (cM 26 sp2 tk2 sv2 mf2 mo2 mn2 ma2 .null .null))) (by decide +kernel) rfl trivial ?_
          exact ih (v2 + 1) hf
        · refine m_jF M (i := .if_icmp .eq 5) 27 (by decide +kernel) rfl (by decide) c_104 ?_
          refine m_run M (is := [(25, .iconst 0, 0)]) (pc' := 26) (L' := [some (.ref 0), some (.ref 26), some (.int v2)]) (st' := [.int 0]) (w' := ((cM 0 sp tk sv mf mo mn ma kv tv) ++ (cM 26 sp2 tk2 sv2 mf2 mo2 mn2 ma2 .null .null))) (by decide +kernel) rfl trivial ?_
          obtain rfl := Option.some.inj hf
          exact m_zret K (by decide +kernel) (Or.inl rfl) (Nat.zero_le _) (Nat.zero_le _) ⟨rfl, rfl⟩
  rw [f_X4_standsAs] at hf
  refine m_run M (is := [(0, .iconst 0, 0), (1, .istore_n 2, 0)]) (pc' := 2) (L' := [some (.ref 0), some (.ref 26), some (.int 0)]) (st' := []) (w' := ((cM 0 sp tk sv mf mo mn ma kv tv) ++ (cM 26 sp2 tk2 sv2 mf2 mo2 mn2 ma2 .null .null))) (by decide +kernel) rfl trivial ?_
  exact loop_0 fuel0 0 hf

def f_X4_whenIn_L0 (v2 : Int32) (v4 : Int32) : Nat → Int32 → Int32 → ShT → Option (Int32 × ShT)
  | 0, _, _, _ => none
  | n_ + 1, v5, v6, sp2 =>
    if v4 < v6 then
      some ((-1), sp2)
    else
      if inB 0 16 then
      if (sp2.1 (0 : Int32).toNatClampNeg) = v2 then
        if (v5 - 1) = 0 then
          some (v6, sp2)
        else
          (f_X4_turn sp2).bind fun r105 =>
          f_X4_whenIn_L0 v2 v4 n_ (v5 - 1) (v6 + 1) r105
      else
        if (v5 - 0) = 0 then
          some (v6, sp2)
        else
          (f_X4_turn sp2).bind fun r107 =>
          f_X4_whenIn_L0 v2 v4 n_ (v5 - 0) (v6 + 1) r107
      else none
def f_X4_whenIn (a1 : Int32) (a2 : Int32) (a3 : Int32) (sp2 : ShT) : Option (Int32 × ShT) :=
  f_X4_whenIn_L0 a1 a3 fuel0 a2 1 sp2
set_option maxRecDepth 100000 in
set_option maxHeartbeats 4000000 in
theorem run_X4_whenIn {l : Launch} {D : va_G} {cT : Nat → ClassId} (a1 : Int32) (a2 : Int32) (a3 : Int32)   (sp : ShT) (tk : TkT) (sv : SvT) (mf : AI) (mo : AI) (mn : AI) (ma : AI) (kv : Value) (tv : Value) (sp2 : ShT) (tk2 : TkT) (sv2 : SvT) (mf2 : AI) (mo2 : AI) (mn2 : AI) (ma2 : AI) {r : Int32 × ShT} (hf : f_X4_whenIn a1 a2 a3 sp2 = some r) : Runs l D cT yX4_whenIn cX4_whenIn 7 (some .int) 2 48 [.ref 0, .ref 26, .int a1, .int a2, .int a3] ((cM 0 sp tk sv mf mo mn ma kv tv) ++ (cM 26 sp2 tk2 sv2 mf2 mo2 mn2 ma2 .null .null)) (EQ (some (.int r.1)) ((cM 0 sp tk sv mf mo mn ma kv tv) ++ (cM 26 r.2 tk2 sv2 mf2 mo2 mn2 ma2 .null .null))) := by
  refine runs_of O_X4 okO_X4 (by decide +kernel) rfl rfl (Nat.le_of_ble_eq_true rfl) (Nat.le_of_ble_eq_true rfl) (fun g K => ?_)
  have M := K.b
  show g 0 0 ((cM 0 sp tk sv mf mo mn ma kv tv) ++ (cM 26 sp2 tk2 sv2 mf2 mo2 mn2 ma2 .null .null)) 0 [some (.ref 0), some (.ref 26), some (.int a1), some (.int a2), some (.int a3), none, none] []
  have loop_0 : ∀ (v2 : Int32) (v4 : Int32) (n_ : Nat), (∀ (v5 : Int32) (v6 : Int32) (sp2 : ShT), f_X4_whenIn_L0 v2 v4 n_ v5 v6 sp2 = some r → g 0 0 ((cM 0 sp tk sv mf mo mn ma kv tv) ++ (cM 26 sp2 tk2 sv2 mf2 mo2 mn2 ma2 .null .null)) 6 [none, some (.ref 26), some (.int v2), none, some (.int v4), some (.int v5), some (.int v6)] []) := by
    intro v2 v4 n_
    induction n_ with
    | zero => intro v5 v6 sp2 hf; cases hf
    | succ n_ ih =>
      intro v5 v6 sp2 hf
      rw [f_X4_whenIn_L0] at hf
      refine m_run M (is := [(6, .iload 6, 0), (8, .iload 4, 0)]) (pc' := 10) (L' := [none, some (.ref 26), some (.int v2), none, some (.int v4), some (.int v5), some (.int v6)]) (st' := [.int v4, .int v6]) (w' := ((cM 0 sp tk sv mf mo mn ma kv tv) ++ (cM 26 sp2 tk2 sv2 mf2 mo2 mn2 ma2 .null .null))) (by decide +kernel) rfl trivial ?_
      rcases ite_s hf with ⟨c_101, hf⟩ | ⟨c_101, hf⟩
      · refine m_jT M (i := .if_icmp .gt 41) 51 (by decide +kernel) rfl (by decide) c_101 ?_
        refine m_run M (is := [(51, .iconst (-1), -1)]) (pc' := 52) (L' := [none, some (.ref 26), some (.int v2), none, some (.int v4), some (.int v5), some (.int v6)]) (st' := [.int (-1)]) (w' := ((cM 0 sp tk sv mf mo mn ma kv tv) ++ (cM 26 sp2 tk2 sv2 mf2 mo2 mn2 ma2 .null .null))) (by decide +kernel) rfl trivial ?_
        obtain rfl := Option.some.inj hf
        exact m_iret K (by decide +kernel) (Nat.zero_le _) (Nat.zero_le _) ⟨rfl, rfl⟩
      · refine m_jF M (i := .if_icmp .gt 41) 51 (by decide +kernel) rfl (by decide) c_101 ?_
        obtain ⟨h_102, hf⟩ := grd_s hf
        refine m_run M (is := [(13, .iload 5, 0), (15, .aload_n 1, 0), (16, .getfield 37, 0), (19, .iconst 0, 0), (20, .iaload, 0), (21, .iload_n 2, 0)]) (pc' := 22) (L' := [none, some (.ref 26), some (.int v2), none, some (.int v4), some (.int v5), some (.int v6)]) (st' := [.int v2, .int (sp2.1 (0 : Int32).toNatClampNeg), .int v5]) (w' := ((cM 0 sp tk sv mf mo mn ma kv tv) ++ (cM 26 sp2 tk2 sv2 mf2 mo2 mn2 ma2 .null .null))) (by decide +kernel) rfl ⟨inB_use h_102, trivial⟩ ?_
        rcases ite_s hf with ⟨c_103, hf⟩ | ⟨c_103, hf⟩
        · refine m_jF M (i := .if_icmp .ne 7) 29 (by decide +kernel) rfl (by decide) (fun n => n c_103) ?_
          refine m_run M (is := [(25, .iconst 1, 1), (26, .goto 4, 0), (30, .isub, 0), (31, .istore 5, 0), (33, .iload 5, 0)]) (pc' := 35) (L' := [none, some (.ref 26), some (.int v2), none, some (.int v4), some (.int (v5 - 1)), some (.int v6)]) (st' := [.int (v5 - 1)]) (w' := ((cM 0 sp tk sv mf mo mn ma kv tv) ++ (cM 26 sp2 tk2 sv2 mf2 mo2 mn2 ma2 .null .null))) (by decide +kernel) rfl trivial ?_
          rcases ite_s hf with ⟨c_104, hf⟩ | ⟨c_104, hf⟩
          · refine m_jF M (i := .ifCond .ne 6) 41 (by decide +kernel) rfl (by decide) (fun n => n c_104) ?_
            refine m_run M (is := [(38, .iload 6, 0)]) (pc' := 40) (L' := [none, some (.ref 26), some (.int v2), none, some (.int v4), some (.int (v5 - 1)), some (.int v6)]) (st' := [.int v6]) (w' := ((cM 0 sp tk sv mf mo mn ma kv tv) ++ (cM 26 sp2 tk2 sv2 mf2 mo2 mn2 ma2 .null .null))) (by decide +kernel) rfl trivial ?_
            obtain rfl := Option.some.inj hf
            exact m_iret K (by decide +kernel) (Nat.zero_le _) (Nat.zero_le _) ⟨rfl, rfl⟩
          · refine m_jT M (i := .ifCond .ne 6) 41 (by decide +kernel) rfl (by decide) c_104 ?_
            refine m_run M (is := [(41, .aload_n 1, 0)]) (pc' := 42) (L' := [none, some (.ref 26), some (.int v2), none, some (.int v4), some (.int (v5 - 1)), some (.int v6)]) (st' := [.ref 26]) (w' := ((cM 0 sp tk sv mf mo mn ma kv tv) ++ (cM 26 sp2 tk2 sv2 mf2 mo2 mn2 ma2 .null .null))) (by decide +kernel) rfl trivial ?_
            obtain ⟨r105, h_105, hf⟩ := bnd_s hf
            refine m_cV0 M (rest := []) (w2 := ((cM 0 sp tk sv mf mo mn ma kv tv) ++ (cM 26 r105 tk2 sv2 mf2 mo2 mn2 ma2 .null .null))) (st2 := []) (run_X4_turn    sp2 tk2 sv2 mf2 mo2 mn2 ma2 .null .null h_105) cv_X4_turn lk_X4_249 (by decide +kernel) rhT (by decide) ⟨Nat.le_of_ble_eq_true rfl, Nat.le_of_ble_eq_true rfl⟩ (hwT sp tk sv mf mo mn ma sp2 tk2 sv2 mf2 mo2 mn2 ma2) rfl rfl (Nat.le_of_ble_eq_true rfl) ⟨by decide, by decide⟩ rfl rfl ⟨Nat.zero_le _, Nat.zero_le _⟩ (hpT sp tk sv mf mo mn ma sp2 tk2 sv2 mf2 mo2 mn2 ma2 r105 tk2 sv2 mf2 mo2 mn2 ma2) rfl ?_
            refine m_run M (is := [(45, .iinc 6 1, 1), (48, .goto (-42), 0)]) (pc' := 6) (L' := [none, some (.ref 26), some (.int v2), none, some (.int v4), some (.int (v5 - 1)), some (.int (v6 + 1))]) (st' := []) (w' := ((cM 0 sp tk sv mf mo mn ma kv tv) ++ (cM 26 r105 tk2 sv2 mf2 mo2 mn2 ma2 .null .null))) (by decide +kernel) rfl trivial ?_
            exact ih (v5 - 1) (v6 + 1) r105 hf
        · refine m_jT M (i := .if_icmp .ne 7) 29 (by decide +kernel) rfl (by decide) c_103 ?_
          refine m_run M (is := [(29, .iconst 0, 0), (30, .isub, 0), (31, .istore 5, 0), (33, .iload 5, 0)]) (pc' := 35) (L' := [none, some (.ref 26), some (.int v2), none, some (.int v4), some (.int (v5 - 0)), some (.int v6)]) (st' := [.int (v5 - 0)]) (w' := ((cM 0 sp tk sv mf mo mn ma kv tv) ++ (cM 26 sp2 tk2 sv2 mf2 mo2 mn2 ma2 .null .null))) (by decide +kernel) rfl trivial ?_
          rcases ite_s hf with ⟨c_106, hf⟩ | ⟨c_106, hf⟩
          · refine m_jF M (i := .ifCond .ne 6) 41 (by decide +kernel) rfl (by decide) (fun n => n c_106) ?_
            refine m_run M (is := [(38, .iload 6, 0)]) (pc' := 40) (L' := [none, some (.ref 26), some (.int v2), none, some (.int v4), some (.int (v5 - 0)), some (.int v6)]) (st' := [.int v6]) (w' := ((cM 0 sp tk sv mf mo mn ma kv tv) ++ (cM 26 sp2 tk2 sv2 mf2 mo2 mn2 ma2 .null .null))) (by decide +kernel) rfl trivial ?_
            obtain rfl := Option.some.inj hf
            exact m_iret K (by decide +kernel) (Nat.zero_le _) (Nat.zero_le _) ⟨rfl, rfl⟩
          · refine m_jT M (i := .ifCond .ne 6) 41 (by decide +kernel) rfl (by decide) c_106 ?_
            refine m_run M (is := [(41, .aload_n 1, 0)]) (pc' := 42) (L' := [none, some (.ref 26), some (.int v2), none, some (.int v4), some (.int (v5 - 0)), some (.int v6)]) (st' := [.ref 26]) (w' := ((cM 0 sp tk sv mf mo mn ma kv tv) ++ (cM 26 sp2 tk2 sv2 mf2 mo2 mn2 ma2 .null .null))) (by decide +kernel) rfl trivial ?_
            obtain ⟨r107, h_107, hf⟩ := bnd_s hf
            refine m_cV0 M (rest := []) (w2 := ((cM 0 sp tk sv mf mo mn ma kv tv) ++ (cM 26 r107 tk2 sv2 mf2 mo2 mn2 ma2 .null .null))) (st2 := []) (run_X4_turn    sp2 tk2 sv2 mf2 mo2 mn2 ma2 .null .null h_107) cv_X4_turn lk_X4_249 (by decide +kernel) rhT (by decide) ⟨Nat.le_of_ble_eq_true rfl, Nat.le_of_ble_eq_true rfl⟩ (hwT sp tk sv mf mo mn ma sp2 tk2 sv2 mf2 mo2 mn2 ma2) rfl rfl (Nat.le_of_ble_eq_true rfl) ⟨by decide, by decide⟩ rfl rfl ⟨Nat.zero_le _, Nat.zero_le _⟩ (hpT sp tk sv mf mo mn ma sp2 tk2 sv2 mf2 mo2 mn2 ma2 r107 tk2 sv2 mf2 mo2 mn2 ma2) rfl ?_
            refine m_run M (is := [(45, .iinc 6 1, 1), (48, .goto (-42), 0)]) (pc' := 6) (L' := [none, some (.ref 26), some (.int v2), none, some (.int v4), some (.int (v5 - 0)), some (.int (v6 + 1))]) (st' := []) (w' := ((cM 0 sp tk sv mf mo mn ma kv tv) ++ (cM 26 r107 tk2 sv2 mf2 mo2 mn2 ma2 .null .null))) (by decide +kernel) rfl trivial ?_
            exact ih (v5 - 0) (v6 + 1) r107 hf
  rw [f_X4_whenIn] at hf
  refine m_run M (is := [(0, .iload_n 3, 0), (1, .istore 5, 0), (3, .iconst 1, 1), (4, .istore 6, 0)]) (pc' := 6) (L' := [some (.ref 0), some (.ref 26), some (.int a1), some (.int a2), some (.int a3), some (.int a2), some (.int 1)]) (st' := []) (w' := ((cM 0 sp tk sv mf mo mn ma kv tv) ++ (cM 26 sp2 tk2 sv2 mf2 mo2 mn2 ma2 .null .null))) (by decide +kernel) rfl trivial ?_
  refine m_wk M [none, some (.ref 26), some (.int a1), none, some (.int a3), some (.int a2), some (.int 1)] ⟨Or.inl rfl, Or.inr rfl, Or.inr rfl, Or.inl rfl, Or.inr rfl, Or.inr rfl, Or.inr rfl, trivial⟩ ?_
  exact loop_0 a1 a3 fuel0 a2 1 sp2 hf

def f_X4_wrongIn_L0 (v2 : Int32) (fl : AL) : Nat → Int32 → ShT → Option (Int32 × ShT)
  | 0, _, _ => none
  | n_ + 1, v3, sp =>
    if v2 ≤ v3 then
      some ((-1), sp)
    else
      if inB v3 40 then
      if inB 0 16 then
      if (lg_cmp (fl v3.toNatClampNeg) (((sp.1 (0 : Int32).toNatClampNeg)).toInt64)) = 0 then
        (f_X4_turn sp).bind fun r105 =>
        f_X4_wrongIn_L0 v2 fl n_ (v3 + 1) r105
      else
        some (v3, sp)
      else none
      else none
def f_X4_wrongIn (a1 : Int32) (sp : ShT) (fl : AL) : Option (Int32 × ShT) :=
  f_X4_wrongIn_L0 a1 fl fuel0 0 sp
set_option maxRecDepth 100000 in
set_option maxHeartbeats 4000000 in
theorem run_X4_wrongIn {l : Launch} {D : va_G} {cT : Nat → ClassId} (a1 : Int32)   (sp : ShT) (tk : TkT) (sv : SvT) (mf : AI) (mo : AI) (mn : AI) (ma : AI) (fl : AL) {r : Int32 × ShT} (hf : f_X4_wrongIn a1 sp fl = some r) : Runs l D cT yX4_wrongIn cX4_wrongIn 4 (some .int) 2 48 [.ref 0, .ref 26, .int a1] ((cM 0 sp tk sv mf mo mn ma .null .null) ++ [.inr (.inl (1, 40, .inr (.inl fl)))]) (EQ (some (.int r.1)) ((cM 0 r.2 tk sv mf mo mn ma .null .null) ++ [.inr (.inl (1, 40, .inr (.inl fl)))])) := by
  refine runs_of O_X4 okO_X4 (by decide +kernel) rfl rfl (Nat.le_of_ble_eq_true rfl) (Nat.le_of_ble_eq_true rfl) (fun g K => ?_)
  have M := K.b
  show g 0 0 ((cM 0 sp tk sv mf mo mn ma .null .null) ++ [.inr (.inl (1, 40, .inr (.inl fl)))]) 0 [some (.ref 0), some (.ref 26), some (.int a1), none] []
  have loop_0 : ∀ (v2 : Int32) (n_ : Nat), (∀ (v3 : Int32) (sp : ShT), f_X4_wrongIn_L0 v2 fl n_ v3 sp = some r → g 0 0 ((cM 0 sp tk sv mf mo mn ma .null .null) ++ [.inr (.inl (1, 40, .inr (.inl fl)))]) 2 [some (.ref 0), some (.ref 26), some (.int v2), some (.int v3)] []) := by
    intro v2 n_
    induction n_ with
    | zero => intro v3 sp hf; cases hf
    | succ n_ ih =>
      intro v3 sp hf
      rw [f_X4_wrongIn_L0] at hf
      refine m_run M (is := [(2, .iload_n 3, 0), (3, .iload_n 2, 0)]) (pc' := 4) (L' := [some (.ref 0), some (.ref 26), some (.int v2), some (.int v3)]) (st' := [.int v2, .int v3]) (w' := ((cM 0 sp tk sv mf mo mn ma .null .null) ++ [.inr (.inl (1, 40, .inr (.inl fl)))])) (by decide +kernel) rfl trivial ?_
      rcases ite_s hf with ⟨c_101, hf⟩ | ⟨c_101, hf⟩
      · refine m_jT M (i := .if_icmp .ge 29) 33 (by decide +kernel) rfl (by decide) c_101 ?_
        refine m_run M (is := [(33, .iconst (-1), -1)]) (pc' := 34) (L' := [some (.ref 0), some (.ref 26), some (.int v2), some (.int v3)]) (st' := [.int (-1)]) (w' := ((cM 0 sp tk sv mf mo mn ma .null .null) ++ [.inr (.inl (1, 40, .inr (.inl fl)))])) (by decide +kernel) rfl trivial ?_
        obtain rfl := Option.some.inj hf
        exact m_iret K (by decide +kernel) (Nat.zero_le _) (Nat.zero_le _) ⟨rfl, rfl⟩
      · refine m_jF M (i := .if_icmp .ge 29) 33 (by decide +kernel) rfl (by decide) c_101 ?_
        obtain ⟨h_102, hf⟩ := grd_s hf
        obtain ⟨h_103, hf⟩ := grd_s hf
        refine m_run M (is := [(7, .aload_n 1, 0), (8, .iload_n 3, 0), (9, .laload, 0), (10, .aload_n 0, 0), (11, .getfield 37, 0), (14, .iconst 0, 0), (15, .iaload, 0), (16, .i2l, 0), (17, .lcmp, 0)]) (pc' := 18) (L' := [some (.ref 0), some (.ref 26), some (.int v2), some (.int v3)]) (st' := [.int (lg_cmp (fl v3.toNatClampNeg) (((sp.1 (0 : Int32).toNatClampNeg)).toInt64))]) (w' := ((cM 0 sp tk sv mf mo mn ma .null .null) ++ [.inr (.inl (1, 40, .inr (.inl fl)))])) (by decide +kernel) rfl ⟨inB_use h_102, inB_use h_103, trivial⟩ ?_
        rcases ite_s hf with ⟨c_104, hf⟩ | ⟨c_104, hf⟩
        · refine m_jT M (i := .ifCond .eq 5) 23 (by decide +kernel) rfl (by decide) c_104 ?_
          refine m_run M (is := [(23, .aload_n 0, 0)]) (pc' := 24) (L' := [some (.ref 0), some (.ref 26), some (.int v2), some (.int v3)]) (st' := [.ref 0]) (w' := ((cM 0 sp tk sv mf mo mn ma .null .null) ++ [.inr (.inl (1, 40, .inr (.inl fl)))])) (by decide +kernel) rfl trivial ?_
          obtain ⟨r105, h_105, hf⟩ := bnd_s hf
          refine m_cV0 M (rest := []) (w2 := ((cM 0 r105 tk sv mf mo mn ma .null .null) ++ [.inr (.inl (1, 40, .inr (.inl fl)))])) (st2 := []) (run_X4_turn    sp tk sv mf mo mn ma .null .null h_105) cv_X4_turn lk_X4_249 (by decide +kernel) rhZ (by decide) ⟨Nat.le_of_ble_eq_true rfl, Nat.le_of_ble_eq_true rfl⟩ (hwZ sp tk sv mf mo mn ma) rfl rfl (Nat.le_of_ble_eq_true rfl) ⟨by decide, by decide⟩ rfl rfl ⟨Nat.zero_le _, Nat.zero_le _⟩ (hpZ sp tk sv mf mo mn ma r105 tk sv mf mo mn ma) rfl ?_
          refine m_run M (is := [(27, .iinc 3 1, 1), (30, .goto (-28), 0)]) (pc' := 2) (L' := [some (.ref 0), some (.ref 26), some (.int v2), some (.int (v3 + 1))]) (st' := []) (w' := ((cM 0 r105 tk sv mf mo mn ma .null .null) ++ [.inr (.inl (1, 40, .inr (.inl fl)))])) (by decide +kernel) rfl trivial ?_
          exact ih (v3 + 1) r105 hf
        · refine m_jF M (i := .ifCond .eq 5) 23 (by decide +kernel) rfl (by decide) c_104 ?_
          refine m_run M (is := [(21, .iload_n 3, 0)]) (pc' := 22) (L' := [some (.ref 0), some (.ref 26), some (.int v2), some (.int v3)]) (st' := [.int v3]) (w' := ((cM 0 sp tk sv mf mo mn ma .null .null) ++ [.inr (.inl (1, 40, .inr (.inl fl)))])) (by decide +kernel) rfl trivial ?_
          obtain rfl := Option.some.inj hf
          exact m_iret K (by decide +kernel) (Nat.zero_le _) (Nat.zero_le _) ⟨rfl, rfl⟩
  rw [f_X4_wrongIn] at hf
  refine m_run M (is := [(0, .iconst 0, 0), (1, .istore_n 3, 0)]) (pc' := 2) (L' := [some (.ref 0), some (.ref 26), some (.int a1), some (.int 0)]) (st' := []) (w' := ((cM 0 sp tk sv mf mo mn ma .null .null) ++ [.inr (.inl (1, 40, .inr (.inl fl)))])) (by decide +kernel) rfl trivial ?_
  exact loop_0 a1 fuel0 0 sp hf

