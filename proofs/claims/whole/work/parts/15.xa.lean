/-! ===== written by wip/whole/drive.py ===== -/
def f_X3_refuse (a0 : Int32) (rf : AI) : Option (Int32 × AI) :=
  (f_X3_isBetween ((-2) - a0) 0 4).bind fun r1001 =>
  if r1001 = 0 then
    some (a0, rf)
  else
    if inB ((-2) - a0) 5 then
    if inB ((-2) - a0) 5 then
    some (a0, (upd rf ((-2) - a0).toNatClampNeg ((rf ((-2) - a0).toNatClampNeg) + 1)))
    else none
    else none
set_option maxRecDepth 100000 in
set_option maxHeartbeats 4000000 in
theorem run_X3_refuse {l : Launch} {D : va_G} {cT : Nat → ClassId} (a0 : Int32)   (tr : ShT) (kp : ShT) (th : ShT) (ot : ShT) (tp : TpT) (sl : (Nat → SlT)) (pk : AI) (rf : AI) (ik : Int32) {r : Int32 × AI} (hf : f_X3_refuse a0 rf = some r) : Runs l D cT yX3_refuse cX3_refuse 3 (some .int) 1 22 [.ref 0, .int a0] (cX tr kp th ot tp sl pk rf ik) (EQ (some (.int r.1)) (cX tr kp th ot tp sl pk r.2 ik)) := by
  refine runs_of O_X3 okO_X3 (by decide +kernel) rfl rfl (Nat.le_of_ble_eq_true rfl) (Nat.le_of_ble_eq_true rfl) (fun g K => ?_)
  have M := K.b
  show g 0 0 (cX tr kp th ot tp sl pk rf ik) 0 [some (.ref 0), some (.int a0), none] []
  rw [f_X3_refuse] at hf
  refine m_run M (is := [(0, .bipush (-2), -2), (2, .iload_n 1, 0), (3, .isub, 0), (4, .istore_n 2, 0), (5, .iload_n 2, 0), (6, .iconst 0, 0), (7, .iconst 4, 4)]) (pc' := 8) (L' := [some (.ref 0), some (.int a0), some (.int ((-2) - a0))]) (st' := [.int 4, .int 0, .int ((-2) - a0)]) (w' := (cX tr kp th ot tp sl pk rf ik)) (by decide +kernel) rfl trivial ?_
  obtain ⟨r1001, h_1001, hf⟩ := bnd_s hf
  refine m_cS0 M (rest := []) (w2 := (cX tr kp th ot tp sl pk rf ik)) (st2 := [.int r1001]) (run_X3_isBetween ((-2) - a0) 0 4    h_1001) cs_X3_isBetween lk_X3_50 (by decide +kernel) [] (by decide) ⟨Nat.le_of_ble_eq_true rfl, Nat.le_of_ble_eq_true rfl⟩ rfl rfl (Nat.le_of_ble_eq_true rfl) ⟨by decide, by decide⟩ rfl rfl ⟨Nat.zero_le _, Nat.zero_le _⟩ rfl rfl ?_
  rcases ite_s hf with ⟨c_1002, hf⟩ | ⟨c_1002, hf⟩
  · refine m_jT M (i := .ifCond .eq 13) 24 (by decide +kernel) rfl (by decide) c_1002 ?_
    refine m_run M (is := [(24, .iload_n 1, 0)]) (pc' := 25) (L' := [some (.ref 0), some (.int a0), some (.int ((-2) - a0))]) (st' := [.int a0]) (w' := (cX tr kp th ot tp sl pk rf ik)) (by decide +kernel) rfl trivial ?_
    obtain rfl := Option.some.inj hf
    exact m_iret K (by decide +kernel) (Nat.zero_le _) (Nat.zero_le _) ⟨rfl, rfl⟩
  · refine m_jF M (i := .ifCond .eq 13) 24 (by decide +kernel) rfl (by decide) c_1002 ?_
    obtain ⟨h_1003, hf⟩ := grd_s hf
    obtain ⟨h_1004, hf⟩ := grd_s hf
    refine m_run M (is := [(14, .aload_n 0, 0), (15, .getfield 43, 0), (18, .iload_n 2, 0), (19, .dup2, 0), (20, .iaload, 0), (21, .iconst 1, 1), (22, .iadd, 0), (23, .iastore, 0), (24, .iload_n 1, 0)]) (pc' := 25) (L' := [some (.ref 0), some (.int a0), some (.int ((-2) - a0))]) (st' := [.int a0]) (w' := (cX tr kp th ot tp sl pk (upd rf ((-2) - a0).toNatClampNeg ((rf ((-2) - a0).toNatClampNeg) + 1)) ik)) (by decide +kernel) rfl ⟨inB_use h_1003, inB_use h_1004, trivial⟩ ?_
    obtain rfl := Option.some.inj hf
    exact m_iret K (by decide +kernel) (Nat.zero_le _) (Nat.zero_le _) ⟨rfl, rfl⟩

set_option maxRecDepth 100000 in
set_option maxHeartbeats 4000000 in
theorem hw_0  (tr : ShT) (kp : ShT) (th : ShT) (ot : ShT) (tp : TpT) (sl : (Nat → SlT)) (pk : AI) (rf : AI) (ik : Int32) : (List.take (List.length (((cSh 0 th) ++ (cSh 6 tr)) : Wd)) ([13, 14, 15, 16, 17, 18, 1, 2, 3, 4, 5, 6] : List Nat)).map (fun k => ((cX tr kp th ot tp sl pk rf ik))[k]?) = (((cSh 0 th) ++ (cSh 6 tr)) : Wd).map (fun x => some (rS [13, 14, 15, 16, 17, 18, 1, 2, 3, 4, 5, 6] (List.length ((cX tr kp th ot tp sl pk rf ik) : Wd)) x)) := rfl
set_option maxRecDepth 100000 in
set_option maxHeartbeats 4000000 in
theorem hp_0  (tr : ShT) (kp : ShT) (th : ShT) (ot : ShT) (tp : TpT) (sl : (Nat → SlT)) (pk : AI) (rf : AI) (ik : Int32) (s' : ShT) (o' : ShT) : putL (List.take (List.length (((cSh 0 th) ++ (cSh 6 tr)) : Wd)) ([13, 14, 15, 16, 17, 18, 1, 2, 3, 4, 5, 6] : List Nat)) ((((cSh 0 s') ++ (cSh 6 o')) : Wd).map (rS [13, 14, 15, 16, 17, 18, 1, 2, 3, 4, 5, 6] (List.length ((cX tr kp th ot tp sl pk rf ik) : Wd)))) (cX tr kp th ot tp sl pk rf ik) = (cX o' kp s' ot tp sl pk rf ik) := rfl
set_option maxRecDepth 100000 in
set_option maxHeartbeats 4000000 in
theorem hw_1  (tr : ShT) (kp : ShT) (th : ShT) (ot : ShT) (tp : TpT) (sl : (Nat → SlT)) (pk : AI) (rf : AI) (ik : Int32) : (List.take (List.length ((cSh 0 th) : Wd)) ([13, 14, 15, 16, 17, 18] : List Nat)).map (fun k => ((cX tr kp th ot tp sl pk rf ik))[k]?) = ((cSh 0 th) : Wd).map (fun x => some (rS [13, 14, 15, 16, 17, 18] (List.length ((cX tr kp th ot tp sl pk rf ik) : Wd)) x)) := rfl
set_option maxRecDepth 100000 in
set_option maxHeartbeats 4000000 in
theorem hp_1  (tr : ShT) (kp : ShT) (th : ShT) (ot : ShT) (tp : TpT) (sl : (Nat → SlT)) (pk : AI) (rf : AI) (ik : Int32) (s' : ShT) : putL (List.take (List.length ((cSh 0 th) : Wd)) ([13, 14, 15, 16, 17, 18] : List Nat)) (((cSh 0 s') : Wd).map (rS [13, 14, 15, 16, 17, 18] (List.length ((cX tr kp th ot tp sl pk rf ik) : Wd)))) (cX tr kp th ot tp sl pk rf ik) = (cX tr kp s' ot tp sl pk rf ik) := rfl
def f_X3_think (a0 : Int32) (tr : ShT) (th : ShT) : Option (ShT) :=
  (f_X1_become th tr).bind fun r1001 =>
  (f_X1_turnTimes a0 r1001).bind fun r1002 =>
  some r1002
set_option maxRecDepth 100000 in
set_option maxHeartbeats 4000000 in
theorem run_X3_think {l : Launch} {D : va_G} {cT : Nat → ClassId} (a0 : Int32)   (tr : ShT) (kp : ShT) (th : ShT) (ot : ShT) (tp : TpT) (sl : (Nat → SlT)) (pk : AI) (rf : AI) (ik : Int32) {r : ShT} (hf : f_X3_think a0 tr th = some r) : Runs l D cT yX3_think cX3_think 2 none 4 89 [.ref 0, .int a0] (cX tr kp th ot tp sl pk rf ik) (EQ none (cX tr kp r ot tp sl pk rf ik)) := by
  refine runs_of O_X3 okO_X3 (by decide +kernel) rfl rfl (Nat.le_of_ble_eq_true rfl) (Nat.le_of_ble_eq_true rfl) (fun g K => ?_)
  have M := K.b
  show g 0 0 (cX tr kp th ot tp sl pk rf ik) 0 [some (.ref 0), some (.int a0)] []
  rw [f_X3_think] at hf
  refine m_run M (is := [(0, .aload_n 0, 0), (1, .getfield 19, 0), (4, .aload_n 0, 0), (5, .getfield 10, 0)]) (pc' := 8) (L' := [some (.ref 0), some (.int a0)]) (st' := [.ref 1, .ref 13]) (w' := (cX tr kp th ot tp sl pk rf ik)) (by decide +kernel) rfl trivial ?_
  obtain ⟨r1001, h_1001, hf⟩ := bnd_s hf
  refine m_cV0 M (rest := []) (w2 := (cX tr kp r1001 ot tp sl pk rf ik)) (st2 := []) (run_X1_become    th tr h_1001) cv_X1_become lk_X3_161 (by decide +kernel) [13, 14, 15, 16, 17, 18, 1, 2, 3, 4, 5, 6] (by decide) ⟨Nat.le_of_ble_eq_true rfl, Nat.le_of_ble_eq_true rfl⟩ (hw_0  tr kp th ot tp sl pk rf ik) rfl rfl (Nat.le_of_ble_eq_true rfl) ⟨by decide, by decide⟩ rfl rfl ⟨Nat.zero_le _, Nat.zero_le _⟩ (hp_0  tr kp th ot tp sl pk rf ik r1001 tr) rfl ?_
  refine m_run M (is := [(11, .aload_n 0, 0), (12, .getfield 19, 0), (15, .iload_n 1, 0)]) (pc' := 16) (L' := [some (.ref 0), some (.int a0)]) (st' := [.int a0, .ref 13]) (w' := (cX tr kp r1001 ot tp sl pk rf ik)) (by decide +kernel) rfl trivial ?_
  obtain ⟨r1002, h_1002, hf⟩ := bnd_s hf
  refine m_cV0 M (rest := []) (w2 := (cX tr kp r1002 ot tp sl pk rf ik)) (st2 := []) (run_X1_turnTimes a0   r1001 h_1002) cv_X1_turnTimes lk_X3_213 (by decide +kernel) [13, 14, 15, 16, 17, 18] (by decide) ⟨Nat.le_of_ble_eq_true rfl, Nat.le_of_ble_eq_true rfl⟩ (hw_1  tr kp r1001 ot tp sl pk rf ik) rfl rfl (Nat.le_of_ble_eq_true rfl) ⟨by decide, by decide⟩ rfl rfl ⟨Nat.zero_le _, Nat.zero_le _⟩ (hp_1  tr kp r1001 ot tp sl pk rf ik r1002) rfl ?_
  obtain rfl := Option.some.inj hf
  exact m_vret K (by decide +kernel) (Nat.zero_le _) (Nat.zero_le _) ⟨rfl, rfl⟩

def f_X3_thinkBy (a0 : Int32) (tr : ShT) (th : ShT) : Option (ShT) :=
  (f_X1_become th tr).bind fun r1001 =>
  some (r1001.1, r1001.2.1, r1001.2.2.1, r1001.2.2.2.1, r1001.2.2.2.2.1, r1001.2.2.2.2.2.1, r1001.2.2.2.2.2.2.1, a0, r1001.2.2.2.2.2.2.2.2.1, r1001.2.2.2.2.2.2.2.2.2)
set_option maxRecDepth 100000 in
set_option maxHeartbeats 4000000 in
theorem run_X3_thinkBy {l : Launch} {D : va_G} {cT : Nat → ClassId} (a0 : Int32)   (tr : ShT) (kp : ShT) (th : ShT) (ot : ShT) (tp : TpT) (sl : (Nat → SlT)) (pk : AI) (rf : AI) (ik : Int32) {r : ShT} (hf : f_X3_thinkBy a0 tr th = some r) : Runs l D cT yX3_thinkBy cX3_thinkBy 2 none 2 39 [.ref 0, .int a0] (cX tr kp th ot tp sl pk rf ik) (EQ none (cX tr kp r ot tp sl pk rf ik)) := by
  refine runs_of O_X3 okO_X3 (by decide +kernel) rfl rfl (Nat.le_of_ble_eq_true rfl) (Nat.le_of_ble_eq_true rfl) (fun g K => ?_)
  have M := K.b
  show g 0 0 (cX tr kp th ot tp sl pk rf ik) 0 [some (.ref 0), some (.int a0)] []
  rw [f_X3_thinkBy] at hf
  refine m_run M (is := [(0, .aload_n 0, 0), (1, .getfield 19, 0), (4, .aload_n 0, 0), (5, .getfield 10, 0)]) (pc' := 8) (L' := [some (.ref 0), some (.int a0)]) (st' := [.ref 1, .ref 13]) (w' := (cX tr kp th ot tp sl pk rf ik)) (by decide +kernel) rfl trivial ?_
  obtain ⟨r1001, h_1001, hf⟩ := bnd_s hf
  refine m_cV0 M (rest := []) (w2 := (cX tr kp r1001 ot tp sl pk rf ik)) (st2 := []) (run_X1_become    th tr h_1001) cv_X1_become lk_X3_161 (by decide +kernel) [13, 14, 15, 16, 17, 18, 1, 2, 3, 4, 5, 6] (by decide) ⟨Nat.le_of_ble_eq_true rfl, Nat.le_of_ble_eq_true rfl⟩ (hw_0  tr kp th ot tp sl pk rf ik) rfl rfl (Nat.le_of_ble_eq_true rfl) ⟨by decide, by decide⟩ rfl rfl ⟨Nat.zero_le _, Nat.zero_le _⟩ (hp_0  tr kp th ot tp sl pk rf ik r1001 tr) rfl ?_
  refine m_run M (is := [(11, .aload_n 0, 0), (12, .getfield 19, 0), (15, .iload_n 1, 0), (16, .putfield 144, 0)]) (pc' := 19) (L' := [some (.ref 0), some (.int a0)]) (st' := []) (w' := (cX tr kp (r1001.1, r1001.2.1, r1001.2.2.1, r1001.2.2.2.1, r1001.2.2.2.2.1, r1001.2.2.2.2.2.1, r1001.2.2.2.2.2.2.1, a0, r1001.2.2.2.2.2.2.2.2.1, r1001.2.2.2.2.2.2.2.2.2) ot tp sl pk rf ik)) (by decide +kernel) rfl trivial ?_
  obtain rfl := Option.some.inj hf
  exact m_vret K (by decide +kernel) (Nat.zero_le _) (Nat.zero_le _) ⟨rfl, rfl⟩

def f_X3_servedBits_L0 (v1 : Int32) (tr : ShT) : Nat → Int32 → Int32 → ShT → Option (Int32 × ShT)
  | 0, _, _, _ => none
  | n_ + 1, v2, v3, th =>
    if v1 ≤ v3 then
      some (v2, th)
    else
      (f_X1_turn th).bind fun r102 =>
      f_X3_servedBits_L0 v1 tr n_ (v2 ||| (1 <<< (r102.1 &&& 31))) (v3 + 1) r102.2
def f_X3_servedBits (a0 : Int32) (tr : ShT) (th : ShT) : Option (Int32 × ShT) :=
  (f_X1_become th tr).bind fun r1001 =>
  f_X3_servedBits_L0 a0 tr fuel0 0 0 r1001
set_option maxRecDepth 100000 in
set_option maxHeartbeats 4000000 in
theorem run_X3_servedBits {l : Launch} {D : va_G} {cT : Nat → ClassId} (a0 : Int32)   (tr : ShT) (kp : ShT) (th : ShT) (ot : ShT) (tp : TpT) (sl : (Nat → SlT)) (pk : AI) (rf : AI) (ik : Int32) {r : Int32 × ShT} (hf : f_X3_servedBits a0 tr th = some r) : Runs l D cT yX3_servedBits cX3_servedBits 4 (some .int) 3 67 [.ref 0, .int a0] (cX tr kp th ot tp sl pk rf ik) (EQ (some (.int r.1)) (cX tr kp r.2 ot tp sl pk rf ik)) := by
  refine runs_of O_X3 okO_X3 (by decide +kernel) rfl rfl (Nat.le_of_ble_eq_true rfl) (Nat.le_of_ble_eq_true rfl) (fun g K => ?_)
  have M := K.b
  show g 0 0 (cX tr kp th ot tp sl pk rf ik) 0 [some (.ref 0), some (.int a0), none, none] []
  have loop_0 : ∀ (v1 : Int32) (n_ : Nat), (∀ (v2 : Int32) (v3 : Int32) (th : ShT), f_X3_servedBits_L0 v1 tr n_ v2 v3 th = some r → g 0 0 (cX tr kp th ot tp sl pk rf ik) 15 [some (.ref 0), some (.int v1), some (.int v2), some (.int v3)] []) := by
    intro v1 n_
    induction n_ with
    | zero => intro v2 v3 th hf; cases hf
    | succ n_ ih =>
      intro v2 v3 th hf
      rw [f_X3_servedBits_L0] at hf
      refine m_run M (is := [(15, .iload_n 3, 0), (16, .iload_n 1, 0)]) (pc' := 17) (L' := [some (.ref 0), some (.int v1), some (.int v2), some (.int v3)]) (st' := [.int v1, .int v3]) (w' := (cX tr kp th ot tp sl pk rf ik)) (by decide +kernel) rfl trivial ?_
      rcases ite_s hf with ⟨c_101, hf⟩ | ⟨c_101, hf⟩
      · refine m_jT M (i := .if_icmp .ge 21) 38 (by decide +kernel) rfl (by decide) c_101 ?_
        refine m_run M (is := [(38, .iload_n 2, 0)]) (pc' := 39) (L' := [some (.ref 0), some (.int v1), some (.int v2), some (.int v3)]) (st' := [.int v2]) (w' := (cX tr kp th ot tp sl pk rf ik)) (by decide +kernel) rfl trivial ?_
        obtain rfl := Option.some.inj hf
        exact m_iret K (by decide +kernel) (Nat.zero_le _) (Nat.zero_le _) ⟨rfl, rfl⟩
      · refine m_jF M (i := .if_icmp .ge 21) 38 (by decide +kernel) rfl (by decide) c_101 ?_
        refine m_run M (is := [(20, .iload_n 2, 0), (21, .iconst 1, 1), (22, .aload_n 0, 0), (23, .getfield 19, 0)]) (pc' := 26) (L' := [some (.ref 0), some (.int v1), some (.int v2), some (.int v3)]) (st' := [.ref 13, .int 1, .int v2]) (w' := (cX tr kp th ot tp sl pk rf ik)) (by decide +kernel) rfl trivial ?_
        obtain ⟨r102, h_102, hf⟩ := bnd_s hf
        refine m_cV0 M (rest := [.int 1, .int v2]) (w2 := (cX tr kp r102.2 ot tp sl pk rf ik)) (st2 := [.int r102.1, .int 1, .int v2]) (run_X1_turn    th h_102) cv_X1_turn lk_X3_190 (by decide +kernel) [13, 14, 15, 16, 17, 18] (by decide) ⟨Nat.le_of_ble_eq_true rfl, Nat.le_of_ble_eq_true rfl⟩ (hw_1  tr kp th ot tp sl pk rf ik) rfl rfl (Nat.le_of_ble_eq_true rfl) ⟨by decide, by decide⟩ rfl rfl ⟨Nat.zero_le _, Nat.zero_le _⟩ (hp_1  tr kp th ot tp sl pk rf ik r102.2) rfl ?_
        refine m_run M (is := [(29, .ishl, 0), (30, .ior, 0), (31, .istore_n 2, 0), (32, .iinc 3 1, 1), (35, .goto (-20), 0)]) (pc' := 15) (L' := [some (.ref 0), some (.int v1), some (.int (v2 ||| (1 <<< (r102.1 &&& 31)))), some (.int (v3 + 1))]) (st' := []) (w' := (cX tr kp r102.2 ot tp sl pk rf ik)) (by decide +kernel) rfl trivial ?_
        exact ih (v2 ||| (1 <<< (r102.1 &&& 31))) (v3 + 1) r102.2 hf
  rw [f_X3_servedBits] at hf
  refine m_run M (is := [(0, .aload_n 0, 0), (1, .getfield 19, 0), (4, .aload_n 0, 0), (5, .getfield 10, 0)]) (pc' := 8) (L' := [some (.ref 0), some (.int a0), none, none]) (st' := [.ref 1, .ref 13]) (w' := (cX tr kp th ot tp sl pk rf ik)) (by decide +kernel) rfl trivial ?_
  obtain ⟨r1001, h_1001, hf⟩ := bnd_s hf
  refine m_cV0 M (rest := []) (w2 := (cX tr kp r1001 ot tp sl pk rf ik)) (st2 := []) (run_X1_become    th tr h_1001) cv_X1_become lk_X3_161 (by decide +kernel) [13, 14, 15, 16, 17, 18, 1, 2, 3, 4, 5, 6] (by decide) ⟨Nat.le_of_ble_eq_true rfl, Nat.le_of_ble_eq_true rfl⟩ (hw_0  tr kp th ot tp sl pk rf ik) rfl rfl (Nat.le_of_ble_eq_true rfl) ⟨by decide, by decide⟩ rfl rfl ⟨Nat.zero_le _, Nat.zero_le _⟩ (hp_0  tr kp th ot tp sl pk rf ik r1001 tr) rfl ?_
  refine m_run M (is := [(11, .iconst 0, 0), (12, .istore_n 2, 0), (13, .iconst 0, 0), (14, .istore_n 3, 0)]) (pc' := 15) (L' := [some (.ref 0), some (.int a0), some (.int 0), some (.int 0)]) (st' := []) (w' := (cX tr kp r1001 ot tp sl pk rf ik)) (by decide +kernel) rfl trivial ?_
  exact loop_0 a0 fuel0 0 0 r1001 hf

def f_X3_turnOfServing_L0 (v1 : Int32) (v2 : Int32) (v3 : Int32) : Nat → Int32 → Int32 → ShT → Option (Int32 × ShT)
  | 0, _, _, _ => none
  | n_ + 1, v4, v5, th =>
    if v3 < v5 then
      some ((-1), th)
    else
      (f_X1_turn th).bind fun r102 =>
      if r102.1 = v1 then
        if (v4 + 1) = v2 then
          some (v5, r102.2)
        else
          f_X3_turnOfServing_L0 v1 v2 v3 n_ (v4 + 1) (v5 + 1) r102.2
      else
        f_X3_turnOfServing_L0 v1 v2 v3 n_ v4 (v5 + 1) r102.2
def f_X3_turnOfServing (a0 : Int32) (a1 : Int32) (a2 : Int32) (th : ShT) : Option (Int32 × ShT) :=
  f_X3_turnOfServing_L0 a0 a1 a2 fuel0 0 1 th
set_option maxRecDepth 100000 in
set_option maxHeartbeats 4000000 in
theorem run_X3_turnOfServing {l : Launch} {D : va_G} {cT : Nat → ClassId} (a0 : Int32) (a1 : Int32) (a2 : Int32)   (tr : ShT) (kp : ShT) (th : ShT) (ot : ShT) (tp : TpT) (sl : (Nat → SlT)) (pk : AI) (rf : AI) (ik : Int32) {r : Int32 × ShT} (hf : f_X3_turnOfServing a0 a1 a2 th = some r) : Runs l D cT yX3_turnOfServing cX3_turnOfServing 6 (some .int) 3 67 [.ref 0, .int a0, .int a1, .int a2] (cX tr kp th ot tp sl pk rf ik) (EQ (some (.int r.1)) (cX tr kp r.2 ot tp sl pk rf ik)) := by
  refine runs_of O_X3 okO_X3 (by decide +kernel) rfl rfl (Nat.le_of_ble_eq_true rfl) (Nat.le_of_ble_eq_true rfl) (fun g K => ?_)
  have M := K.b
  show g 0 0 (cX tr kp th ot tp sl pk rf ik) 0 [some (.ref 0), some (.int a0), some (.int a1), some (.int a2), none, none] []
  have loop_0 : ∀ (v1 : Int32) (v2 : Int32) (v3 : Int32) (n_ : Nat), (∀ (v4 : Int32) (v5 : Int32) (th : ShT), f_X3_turnOfServing_L0 v1 v2 v3 n_ v4 v5 th = some r → g 0 0 (cX tr kp th ot tp sl pk rf ik) 6 [some (.ref 0), some (.int v1), some (.int v2), some (.int v3), some (.int v4), some (.int v5)] []) := by
    intro v1 v2 v3 n_
    induction n_ with
    | zero => intro v4 v5 th hf; cases hf
    | succ n_ ih =>
      intro v4 v5 th hf
      rw [f_X3_turnOfServing_L0] at hf
      refine m_run M (is := [(6, .iload 5, 0), (8, .iload_n 3, 0)]) (pc' := 9) (L' := [some (.ref 0), some (.int v1), some (.int v2), some (.int v3), some (.int v4), some (.int v5)]) (st' := [.int v3, .int v5]) (w' := (cX tr kp th ot tp sl pk rf ik)) (by decide +kernel) rfl trivial ?_
      rcases ite_s hf with ⟨c_101, hf⟩ | ⟨c_101, hf⟩
      · refine m_jT M (i := .if_icmp .gt 32) 41 (by decide +kernel) rfl (by decide) c_101 ?_
        refine m_run M (is := [(41, .iconst (-1), -1)]) (pc' := 42) (L' := [some (.ref 0), some (.int v1), some (.int v2), some (.int v3), some (.int v4), some (.int v5)]) (st' := [.int (-1)]) (w' := (cX tr kp th ot tp sl pk rf ik)) (by decide +kernel) rfl trivial ?_
        obtain rfl := Option.some.inj hf
        exact m_iret K (by decide +kernel) (Nat.zero_le _) (Nat.zero_le _) ⟨rfl, rfl⟩
      · refine m_jF M (i := .if_icmp .gt 32) 41 (by decide +kernel) rfl (by decide) c_101 ?_
        refine m_run M (is := [(12, .aload_n 0, 0), (13, .getfield 19, 0)]) (pc' := 16) (L' := [some (.ref 0), some (.int v1), some (.int v2), some (.int v3), some (.int v4), some (.int v5)]) (st' := [.ref 13]) (w' := (cX tr kp th ot tp sl pk rf ik)) (by decide +kernel) rfl trivial ?_
        obtain ⟨r102, h_102, hf⟩ := bnd_s hf
        refine m_cV0 M (rest := []) (w2 := (cX tr kp r102.2 ot tp sl pk rf ik)) (st2 := [.int r102.1]) (run_X1_turn    th h_102) cv_X1_turn lk_X3_190 (by decide +kernel) [13, 14, 15, 16, 17, 18] (by decide) ⟨Nat.le_of_ble_eq_true rfl, Nat.le_of_ble_eq_true rfl⟩ (hw_1  tr kp th ot tp sl pk rf ik) rfl rfl (Nat.le_of_ble_eq_true rfl) ⟨by decide, by decide⟩ rfl rfl ⟨Nat.zero_le _, Nat.zero_le _⟩ (hp_1  tr kp th ot tp sl pk rf ik r102.2) rfl ?_
        refine m_run M (is := [(19, .iload_n 1, 0)]) (pc' := 20) (L' := [some (.ref 0), some (.int v1), some (.int v2), some (.int v3), some (.int v4), some (.int v5)]) (st' := [.int v1, .int r102.1]) (w' := (cX tr kp r102.2 ot tp sl pk rf ik)) (by decide +kernel) rfl trivial ?_
        rcases ite_s hf with ⟨c_103, hf⟩ | ⟨c_103, hf⟩
        · refine m_jF M (i := .if_icmp .ne 15) 35 (by decide +kernel) rfl (by decide) (fun n => n c_103) ?_
          refine m_run M (is := [(23, .iinc 4 1, 1), (26, .iload 4, 0), (28, .iload_n 2, 0)]) (pc' := 29) (L' := [some (.ref 0), some (.int v1), some (.int v2), some (.int v3), some (.int (v4 + 1)), some (.int v5)]) (st' := [.int v2, .int (v4 + 1)]) (w' := (cX tr kp r102.2 ot tp sl pk rf ik)) (by decide +kernel) rfl trivial ?_
          rcases ite_s hf with ⟨c_104, hf⟩ | ⟨c_104, hf⟩
          · refine m_jF M (i := .if_icmp .ne 6) 35 (by decide +kernel) rfl (by decide) (fun n => n c_104) ?_
            refine m_run M (is := [(32, .iload 5, 0)]) (pc' := 34) (L' := [some (.ref 0), some (.int v1), some (.int v2), some (.int v3), some (.int (v4 + 1)), some (.int v5)]) (st' := [.int v5]) (w' := (cX tr kp r102.2 ot tp sl pk rf ik)) (by decide +kernel) rfl trivial ?_
            obtain rfl := Option.some.inj hf
            exact m_iret K (by decide +kernel) (Nat.zero_le _) (Nat.zero_le _) ⟨rfl, rfl⟩
          · refine m_jT M (i := .if_icmp .ne 6) 35 (by decide +kernel) rfl (by decide) c_104 ?_
            refine m_run M (is := [(35, .iinc 5 1, 1), (38, .goto (-32), 0)]) (pc' := 6) (L' := [some (.ref 0), some (.int v1), some (.int v2), some (.int v3), some (.int (v4 + 1)), some (.int (v5 + 1))]) (st' := []) (w' := (cX tr kp r102.2 ot tp sl pk rf ik)) (by decide +kernel) rfl trivial ?_
            exact ih (v4 + 1) (v5 + 1) r102.2 hf
        · refine m_jT M (i := .if_icmp .ne 15) 35 (by decide +kernel) rfl (by decide) c_103 ?_
          refine m_run M (is := [(35, .iinc 5 1, 1), (38, .goto (-32), 0)]) (pc' := 6) (L' := [some (.ref 0), some (.int v1), some (.int v2), some (.int v3), some (.int v4), some (.int (v5 + 1))]) (st' := []) (w' := (cX tr kp r102.2 ot tp sl pk rf ik)) (by decide +kernel) rfl trivial ?_
          exact ih v4 (v5 + 1) r102.2 hf
  rw [f_X3_turnOfServing] at hf
  refine m_run M (is := [(0, .iconst 0, 0), (1, .istore 4, 0), (3, .iconst 1, 1), (4, .istore 5, 0)]) (pc' := 6) (L' := [some (.ref 0), some (.int a0), some (.int a1), some (.int a2), some (.int 0), some (.int 1)]) (st' := []) (w' := (cX tr kp th ot tp sl pk rf ik)) (by decide +kernel) rfl trivial ?_
  exact loop_0 a0 a1 a2 fuel0 0 1 th hf

def f_X3_spreadBy (a0 : Int32) (a1 : Int32) (tr : ShT) (th : ShT) : Option (Int32 × ShT) :=
  (f_X3_thinkBy a0 tr th).bind fun r1001 =>
  (f_X1_startAnew r1001).bind fun r1002 =>
  (f_X1_turnTimes a1 r1002).bind fun r1003 =>
  (f_X1_countsApart r1003).bind fun r1004 =>
  some (r1004, r1003)
set_option maxRecDepth 100000 in
set_option maxHeartbeats 4000000 in
theorem run_X3_spreadBy {l : Launch} {D : va_G} {cT : Nat → ClassId} (a0 : Int32) (a1 : Int32)   (tr : ShT) (kp : ShT) (th : ShT) (ot : ShT) (tp : TpT) (sl : (Nat → SlT)) (pk : AI) (rf : AI) (ik : Int32) {r : Int32 × ShT} (hf : f_X3_spreadBy a0 a1 tr th = some r) : Runs l D cT yX3_spreadBy cX3_spreadBy 3 (some .int) 4 89 [.ref 0, .int a0, .int a1] (cX tr kp th ot tp sl pk rf ik) (EQ (some (.int r.1)) (cX tr kp r.2 ot tp sl pk rf ik)) := by
  refine runs_of O_X3 okO_X3 (by decide +kernel) rfl rfl (Nat.le_of_ble_eq_true rfl) (Nat.le_of_ble_eq_true rfl) (fun g K => ?_)
  have M := K.b
  show g 0 0 (cX tr kp th ot tp sl pk rf ik) 0 [some (.ref 0), some (.int a0), some (.int a1)] []
  rw [f_X3_spreadBy] at hf
  refine m_run M (is := [(0, .aload_n 0, 0), (1, .iload_n 1, 0)]) (pc' := 2) (L' := [some (.ref 0), some (.int a0), some (.int a1)]) (st' := [.int a0, .ref 0]) (w' := (cX tr kp th ot tp sl pk rf ik)) (by decide +kernel) rfl trivial ?_
  obtain ⟨r1001, h_1001, hf⟩ := bnd_s hf
  refine m_cV0 M (rest := []) (w2 := (cX tr kp r1001 ot tp sl pk rf ik)) (st2 := []) (run_X3_thinkBy a0   tr kp th ot tp sl pk rf ik h_1001) cv_X3_thinkBy lk_X3_239 (by decide +kernel) (List.range 46) List.nodup_range ⟨(by rw [List.length_range]; exact Nat.le_refl _), Nat.le_of_ble_eq_true rfl⟩ (hwId rfl) rfl rfl (Nat.le_of_ble_eq_true rfl) ⟨by decide, by decide⟩ rfl rfl ⟨Nat.zero_le _, Nat.zero_le _⟩ (hpId rfl rfl) rfl ?_
  refine m_run M (is := [(5, .aload_n 0, 0), (6, .getfield 19, 0)]) (pc' := 9) (L' := [some (.ref 0), some (.int a0), some (.int a1)]) (st' := [.ref 13]) (w' := (cX tr kp r1001 ot tp sl pk rf ik)) (by decide +kernel) rfl trivial ?_
  obtain ⟨r1002, h_1002, hf⟩ := bnd_s hf
  refine m_cV0 M (rest := []) (w2 := (cX tr kp r1002 ot tp sl pk rf ik)) (st2 := []) (run_X1_startAnew    r1001 h_1002) cv_X1_startAnew lk_X3_210 (by decide +kernel) [13, 14, 15, 16, 17, 18] (by decide) ⟨Nat.le_of_ble_eq_true rfl, Nat.le_of_ble_eq_true rfl⟩ (hw_1  tr kp r1001 ot tp sl pk rf ik) rfl rfl (Nat.le_of_ble_eq_true rfl) ⟨by decide, by decide⟩ rfl rfl ⟨Nat.zero_le _, Nat.zero_le _⟩ (hp_1  tr kp r1001 ot tp sl pk rf ik r1002) rfl ?_
  refine m_run M (is := [(12, .aload_n 0, 0), (13, .getfield 19, 0), (16, .iload_n 2, 0)]) (pc' := 17) (L' := [some (.ref 0), some (.int a0), some (.int a1)]) (st' := [.int a1, .ref 13]) (w' := (cX tr kp r1002 ot tp sl pk rf ik)) (by decide +kernel) rfl trivial ?_
  obtain ⟨r1003, h_1003, hf⟩ := bnd_s hf
  refine m_cV0 M (rest := []) (w2 := (cX tr kp r1003 ot tp sl pk rf ik)) (st2 := []) (run_X1_turnTimes a1   r1002 h_1003) cv_X1_turnTimes lk_X3_213 (by decide +kernel) [13, 14, 15, 16, 17, 18] (by decide) ⟨Nat.le_of_ble_eq_true rfl, Nat.le_of_ble_eq_true rfl⟩ (hw_1  tr kp r1002 ot tp sl pk rf ik) rfl rfl (Nat.le_of_ble_eq_true rfl) ⟨by decide, by decide⟩ rfl rfl ⟨Nat.zero_le _, Nat.zero_le _⟩ (hp_1  tr kp r1002 ot tp sl pk rf ik r1003) rfl ?_
  refine m_run M (is := [(20, .aload_n 0, 0), (21, .getfield 19, 0)]) (pc' := 24) (L' := [some (.ref 0), some (.int a0), some (.int a1)]) (st' := [.ref 13]) (w' := (cX tr kp r1003 ot tp sl pk rf ik)) (by decide +kernel) rfl trivial ?_
  obtain ⟨r1004, h_1004, hf⟩ := bnd_s hf
  refine m_cV0 M (rest := []) (w2 := (cX tr kp r1003 ot tp sl pk rf ik)) (st2 := [.int r1004]) (run_X1_countsApart    r1003 h_1004) cv_X1_countsApart lk_X3_248 (by decide +kernel) [13, 14, 15, 16, 17, 18] (by decide) ⟨Nat.le_of_ble_eq_true rfl, Nat.le_of_ble_eq_true rfl⟩ (hw_1  tr kp r1003 ot tp sl pk rf ik) rfl rfl (Nat.le_of_ble_eq_true rfl) ⟨by decide, by decide⟩ rfl rfl ⟨Nat.zero_le _, Nat.zero_le _⟩ (hp_1  tr kp r1003 ot tp sl pk rf ik r1003) rfl ?_
  obtain rfl := Option.some.inj hf
  exact m_iret K (by decide +kernel) (Nat.zero_le _) (Nat.zero_le _) ⟨rfl, rfl⟩

def f_X3_timesAgain_L1 (v1 : Int32) (v2 : Int32) : Nat → Nat → Int32 → Int32 → Int32 → AI → Option (Int32 × AI)
  | 0, _, _, _, _, _ => none
  | n_ + 1, lb_, v3, v4, v5, pk =>
    if lb_ = 0 then
      if 999 < v3 then
        some ((-1), pk)
      else
        f_X3_timesAgain_L1 v1 v2 n_ 1 v3 1 0 pk
    else
      if v1 ≤ v5 then
        if v4 = 0 then
          f_X3_timesAgain_L1 v1 v2 n_ 0 (v3 + 1) 0 0 pk
        else
          some (v3, pk)
      else
        if inB v5 52 then
        (f_X3_shuffled v1 v2 (pk v5.toNatClampNeg)).bind fun r224 =>
        if inB v5 52 then
        if v4 = 0 then
          f_X3_timesAgain_L1 v1 v2 n_ 1 v3 0 (v5 + 1) (upd pk v5.toNatClampNeg r224)
        else
          if inB v5 52 then
          if ((upd pk v5.toNatClampNeg r224) v5.toNatClampNeg) = v5 then
            f_X3_timesAgain_L1 v1 v2 n_ 1 v3 1 (v5 + 1) (upd pk v5.toNatClampNeg r224)
          else
            f_X3_timesAgain_L1 v1 v2 n_ 1 v3 0 (v5 + 1) (upd pk v5.toNatClampNeg r224)
          else none
        else none
        else none
def f_X3_timesAgain_L0 (v1 : Int32) (v2 : Int32) : Nat → Int32 → AI → Option (Int32 × AI)
  | 0, _, _ => none
  | n_ + 1, v3, pk =>
    if v1 ≤ v3 then
      f_X3_timesAgain_L1 v1 v2 fuel0 0 1 0 0 pk
    else
      if inB v3 52 then
      f_X3_timesAgain_L0 v1 v2 n_ (v3 + 1) (upd pk v3.toNatClampNeg v3)
      else none
def f_X3_timesAgain (a0 : Int32) (a1 : Int32) (pk : AI) : Option (Int32 × AI) :=
  f_X3_timesAgain_L0 a0 a1 fuel0 0 pk
set_option maxRecDepth 100000 in
set_option maxHeartbeats 4000000 in
theorem run_X3_timesAgain {l : Launch} {D : va_G} {cT : Nat → ClassId} (a0 : Int32) (a1 : Int32)   (tr : ShT) (kp : ShT) (th : ShT) (ot : ShT) (tp : TpT) (sl : (Nat → SlT)) (pk : AI) (rf : AI) (ik : Int32) {r : Int32 × AI} (hf : f_X3_timesAgain a0 a1 pk = some r) : Runs l D cT yX3_timesAgain cX3_timesAgain 6 (some .int) 1 24 [.ref 0, .int a0, .int a1] (cX tr kp th ot tp sl pk rf ik) (EQ (some (.int r.1)) (cX tr kp th ot tp sl r.2 rf ik)) := by
  refine runs_of O_X3 okO_X3 (by decide +kernel) rfl rfl (Nat.le_of_ble_eq_true rfl) (Nat.le_of_ble_eq_true rfl) (fun g K => ?_)
  have M := K.b
  show g 0 0 (cX tr kp th ot tp sl pk rf ik) 0 [some (.ref 0), some (.int a0), some (.int a1), none, none, none] []
  have loop_1 : ∀ (v1 : Int32) (v2 : Int32) (n_ : Nat), (∀ (v3 : Int32) (v4 : Int32) (v5 : Int32) (pk : AI), f_X3_timesAgain_L1 v1 v2 n_ 0 v3 v4 v5 pk = some r → g 0 0 (cX tr kp th ot tp sl pk rf ik) 22 [some (.ref 0), some (.int v1), some (.int v2), some (.int v3), none, none] []) ∧ (∀ (v3 : Int32) (v4 : Int32) (v5 : Int32) (pk : AI), f_X3_timesAgain_L1 v1 v2 n_ 1 v3 v4 v5 pk = some r → g 0 0 (cX tr kp th ot tp sl pk rf ik) 35 [some (.ref 0), some (.int v1), some (.int v2), some (.int v3), some (.int v4), some (.int v5)] []) := by
    intro v1 v2 n_
    induction n_ with
    | zero => exact ⟨fun v3 v4 v5 pk hf => (by cases hf), fun v3 v4 v5 pk hf => (by cases hf)⟩
    | succ n_ ih =>
      refine ⟨?_, ?_⟩
      · intro v3 v4 v5 pk hf
        rw [f_X3_timesAgain_L1] at hf
        rw [if_pos rfl] at hf
        refine m_run M (is := [(22, .iload_n 3, 0), (23, .sipush 999, 999)]) (pc' := 26) (L' := [some (.ref 0), some (.int v1), some (.int v2), some (.int v3), none, none]) (st' := [.int 999, .int v3]) (w' := (cX tr kp th ot tp sl pk rf ik)) (by decide +kernel) rfl trivial ?_
        rcases ite_s hf with ⟨c_201, hf⟩ | ⟨c_201, hf⟩
        · refine m_jT M (i := .if_icmp .gt 77) 103 (by decide +kernel) rfl (by decide) c_201 ?_
          refine m_run M (is := [(103, .iconst (-1), -1)]) (pc' := 104) (L' := [some (.ref 0), some (.int v1), some (.int v2), some (.int v3), none, none]) (st' := [.int (-1)]) (w' := (cX tr kp th ot tp sl pk rf ik)) (by decide +kernel) rfl trivial ?_
          obtain rfl := Option.some.inj hf
          exact m_iret K (by decide +kernel) (Nat.zero_le _) (Nat.zero_le _) ⟨rfl, rfl⟩
        · refine m_jF M (i := .if_icmp .gt 77) 103 (by decide +kernel) rfl (by decide) c_201 ?_
          refine m_run M (is := [(29, .iconst 1, 1), (30, .istore 4, 0), (32, .iconst 0, 0), (33, .istore 5, 0)]) (pc' := 35) (L' := [some (.ref 0), some (.int v1), some (.int v2), some (.int v3), some (.int 1), some (.int 0)]) (st' := []) (w' := (cX tr kp th ot tp sl pk rf ik)) (by decide +kernel) rfl trivial ?_
          exact (ih).2 v3 1 0 pk hf
      · intro v3 v4 v5 pk hf
        rw [f_X3_timesAgain_L1] at hf
        rw [if_neg (by decide)] at hf
        refine m_run M (is := [(35, .iload 5, 0), (37, .iload_n 1, 0)]) (pc' := 38) (L' := [some (.ref 0), some (.int v1), some (.int v2), some (.int v3), some (.int v4), some (.int v5)]) (st' := [.int v1, .int v5]) (w' := (cX tr kp th ot tp sl pk rf ik)) (by decide +kernel) rfl trivial ?_
        rcases ite_s hf with ⟨c_221, hf⟩ | ⟨c_221, hf⟩
        · refine m_jT M (i := .if_icmp .ge 52) 90 (by decide +kernel) rfl (by decide) c_221 ?_
          refine m_run M (is := [(90, .iload 4, 0)]) (pc' := 92) (L' := [some (.ref 0), some (.int v1), some (.int v2), some (.int v3), some (.int v4), some (.int v5)]) (st' := [.int v4]) (w' := (cX tr kp th ot tp sl pk rf ik)) (by decide +kernel) rfl trivial ?_
          rcases ite_s hf with ⟨c_222, hf⟩ | ⟨c_222, hf⟩
          · refine m_jT M (i := .ifCond .eq 5) 97 (by decide +kernel) rfl (by decide) c_222 ?_
            refine m_run M (is := [(97, .iinc 3 1, 1), (100, .goto (-78), 0)]) (pc' := 22) (L' := [some (.ref 0), some (.int v1), some (.int v2), some (.int (v3 + 1)), some (.int v4), some (.int v5)]) (st' := []) (w' := (cX tr kp th ot tp sl pk rf ik)) (by decide +kernel) rfl trivial ?_
            refine m_wk M [some (.ref 0), some (.int v1), some (.int v2), some (.int (v3 + 1)), none, none] ⟨Or.inr rfl, Or.inr rfl, Or.inr rfl, Or.inr rfl, Or.inl rfl, Or.inl rfl, trivial⟩ ?_
            exact (ih).1 (v3 + 1) 0 0 pk hf
          · refine m_jF M (i := .ifCond .eq 5) 97 (by decide +kernel) rfl (by decide) c_222 ?_
            refine m_run M (is := [(95, .iload_n 3, 0)]) (pc' := 96) (L' := [some (.ref 0), some (.int v1), some (.int v2), some (.int v3), some (.int v4), some (.int v5)]) (st' := [.int v3]) (w' := (cX tr kp th ot tp sl pk rf ik)) (by decide +kernel) rfl trivial ?_
            obtain rfl := Option.some.inj hf
            exact m_iret K (by decide +kernel) (Nat.zero_le _) (Nat.zero_le _) ⟨rfl, rfl⟩
        · refine m_jF M (i := .if_icmp .ge 52) 90 (by decide +kernel) rfl (by decide) c_221 ?_
          obtain ⟨h_223, hf⟩ := grd_s hf
          refine m_run M (is := [(41, .aload_n 0, 0), (42, .getfield 39, 0), (45, .iload 5, 0), (47, .iload_n 1, 0), (48, .iload_n 2, 0), (49, .aload_n 0, 0), (50, .getfield 39, 0), (53, .iload 5, 0), (55, .iaload, 0)]) (pc' := 56) (L' := [some (.ref 0), some (.int v1), some (.int v2), some (.int v3), some (.int v4), some (.int v5)]) (st' := [.int (pk v5.toNatClampNeg), .int v2, .int v1, .int v5, .ref 28]) (w' := (cX tr kp th ot tp sl pk rf ik)) (by decide +kernel) rfl ⟨inB_use h_223, trivial⟩ ?_
          obtain ⟨r224, h_224, hf⟩ := bnd_s hf
          refine m_cS0 M (rest := [.int v5, .ref 28]) (w2 := (cX tr kp th ot tp sl pk rf ik)) (st2 := [.int r224, .int v5, .ref 28]) (run_X3_shuffled v1 v2 (pk v5.toNatClampNeg)    h_224) cs_X3_shuffled lk_X3_313 (by decide +kernel) [] (by decide) ⟨Nat.le_of_ble_eq_true rfl, Nat.le_of_ble_eq_true rfl⟩ rfl rfl (Nat.le_of_ble_eq_true rfl) ⟨by decide, by decide⟩ rfl rfl ⟨Nat.zero_le _, Nat.zero_le _⟩ rfl rfl ?_
          obtain ⟨h_225, hf⟩ := grd_s hf
          refine m_run M (is := [(59, .iastore, 0), (60, .iload 4, 0)]) (pc' := 62) (L' := [some (.ref 0), some (.int v1), some (.int v2), some (.int v3), some (.int v4), some (.int v5)]) (st' := [.int v4]) (w' := (cX tr kp th ot tp sl (upd pk v5.toNatClampNeg r224) rf ik)) (by decide +kernel) rfl ⟨inB_use h_225, trivial⟩ ?_
          rcases ite_s hf with ⟨c_226, hf⟩ | ⟨c_226, hf⟩
          · refine m_jT M (i := .ifCond .eq 19) 81 (by decide +kernel) rfl (by decide) c_226 ?_
            refine m_run M (is := [(81, .iconst 0, 0), (82, .istore 4, 0), (84, .iinc 5 1, 1), (87, .goto (-52), 0)]) (pc' := 35) (L' := [some (.ref 0), some (.int v1), some (.int v2), some (.int v3), some (.int 0), some (.int (v5 + 1))]) (st' := []) (w' := (cX tr kp th ot tp sl (upd pk v5.toNatClampNeg r224) rf ik)) (by decide +kernel) rfl trivial ?_
            exact (ih).2 v3 0 (v5 + 1) (upd pk v5.toNatClampNeg r224) hf
          · refine m_jF M (i := .ifCond .eq 19) 81 (by decide +kernel) rfl (by decide) c_226 ?_
            obtain ⟨h_227, hf⟩ := grd_s hf
            refine m_run M (is := [(65, .aload_n 0, 0), (66, .getfield 39, 0), (69, .iload 5, 0), (71, .iaload, 0), (72, .iload 5, 0)]) (pc' := 74) (L' := [some (.ref 0), some (.int v1), some (.int v2), some (.int v3), some (.int v4), some (.int v5)]) (st' := [.int v5, .int ((upd pk v5.toNatClampNeg r224) v5.toNatClampNeg)]) (w' := (cX tr kp th ot tp sl (upd pk v5.toNatClampNeg r224) rf ik)) (by decide +kernel) rfl ⟨inB_use h_227, trivial⟩ ?_
            rcases ite_s hf with ⟨c_228, hf⟩ | ⟨c_228, hf⟩
            · refine m_jF M (i := .if_icmp .ne 7) 81 (by decide +kernel) rfl (by decide) (fun n => n c_228) ?_
              refine m_run M (is := [(77, .iconst 1, 1), (78, .goto 4, 0), (82, .istore 4, 0), (84, .iinc 5 1, 1), (87, .goto (-52), 0)]) (pc' := 35) (L' := [some (.ref 0), some (.int v1), some (.int v2), some (.int v3), some (.int 1), some (.int (v5 + 1))]) (st' := []) (w' := (cX tr kp th ot tp sl (upd pk v5.toNatClampNeg r224) rf ik)) (by decide +kernel) rfl trivial ?_
              exact (ih).2 v3 1 (v5 + 1) (upd pk v5.toNatClampNeg r224) hf
            · refine m_jT M (i := .if_icmp .ne 7) 81 (by decide +kernel) rfl (by decide) c_228 ?_
              refine m_run M (is := [(81, .iconst 0, 0), (82, .istore 4, 0), (84, .iinc 5 1, 1), (87, .goto (-52), 0)]) (pc' := 35) (L' := [some (.ref 0), some (.int v1), some (.int v2), some (.int v3), some (.int 0), some (.int (v5 + 1))]) (st' := []) (w' := (cX tr kp th ot tp sl (upd pk v5.toNatClampNeg r224) rf ik)) (by decide +kernel) rfl trivial ?_
              exact (ih).2 v3 0 (v5 + 1) (upd pk v5.toNatClampNeg r224) hf
  have loop_0 : ∀ (v1 : Int32) (v2 : Int32) (n_ : Nat), (∀ (v3 : Int32) (pk : AI), f_X3_timesAgain_L0 v1 v2 n_ v3 pk = some r → g 0 0 (cX tr kp th ot tp sl pk rf ik) 2 [some (.ref 0), some (.int v1), some (.int v2), some (.int v3), none, none] []) := by
    intro v1 v2 n_
    induction n_ with
    | zero => intro v3 pk hf; cases hf
    | succ n_ ih =>
      intro v3 pk hf
      rw [f_X3_timesAgain_L0] at hf
      refine m_run M (is := [(2, .iload_n 3, 0), (3, .iload_n 1, 0)]) (pc' := 4) (L' := [some (.ref 0), some (.int v1), some (.int v2), some (.int v3), none, none]) (st' := [.int v1, .int v3]) (w' := (cX tr kp th ot tp sl pk rf ik)) (by decide +kernel) rfl trivial ?_
      rcases ite_s hf with ⟨c_101, hf⟩ | ⟨c_101, hf⟩
      · refine m_jT M (i := .if_icmp .ge 16) 20 (by decide +kernel) rfl (by decide) c_101 ?_
        refine m_run M (is := [(20, .iconst 1, 1), (21, .istore_n 3, 0)]) (pc' := 22) (L' := [some (.ref 0), some (.int v1), some (.int v2), some (.int 1), none, none]) (st' := []) (w' := (cX tr kp th ot tp sl pk rf ik)) (by decide +kernel) rfl trivial ?_
        exact (loop_1 v1 v2 fuel0).1 1 0 0 pk hf
      · refine m_jF M (i := .if_icmp .ge 16) 20 (by decide +kernel) rfl (by decide) c_101 ?_
        obtain ⟨h_102, hf⟩ := grd_s hf
        refine m_run M (is := [(7, .aload_n 0, 0), (8, .getfield 39, 0), (11, .iload_n 3, 0), (12, .iload_n 3, 0), (13, .iastore, 0), (14, .iinc 3 1, 1), (17, .goto (-15), 0)]) (pc' := 2) (L' := [some (.ref 0), some (.int v1), some (.int v2), some (.int (v3 + 1)), none, none]) (st' := []) (w' := (cX tr kp th ot tp sl (upd pk v3.toNatClampNeg v3) rf ik)) (by decide +kernel) rfl ⟨inB_use h_102, trivial⟩ ?_
        exact ih (v3 + 1) (upd pk v3.toNatClampNeg v3) hf
  rw [f_X3_timesAgain] at hf
  refine m_run M (is := [(0, .iconst 0, 0), (1, .istore_n 3, 0)]) (pc' := 2) (L' := [some (.ref 0), some (.int a0), some (.int a1), some (.int 0), none, none]) (st' := []) (w' := (cX tr kp th ot tp sl pk rf ik)) (by decide +kernel) rfl trivial ?_
  exact loop_0 a0 a1 fuel0 0 pk hf

def f_X3_rankOf_L0 (v1 : Int32) (v3 : Int32) (tr : ShT) : Nat → Int32 → Int32 → Option (Int32)
  | 0, _, _ => none
  | n_ + 1, v2, v4 =>
    if tr.2.2.2.2.2.1 ≤ v4 then
      some v2
    else
      if inB v4 16 then
      if v3 < (tr.2.1 v4.toNatClampNeg) then
        f_X3_rankOf_L0 v1 v3 tr n_ (v2 + 1) (v4 + 1)
      else
        if inB v4 16 then
        if (tr.2.1 v4.toNatClampNeg) = v3 then
          if v1 ≤ v4 then
            f_X3_rankOf_L0 v1 v3 tr n_ v2 (v4 + 1)
          else
            f_X3_rankOf_L0 v1 v3 tr n_ (v2 + 1) (v4 + 1)
        else
          f_X3_rankOf_L0 v1 v3 tr n_ v2 (v4 + 1)
        else none
      else none
def f_X3_rankOf (a0 : Int32) (tr : ShT) : Option (Int32) :=
  if inB a0 16 then
  f_X3_rankOf_L0 a0 (tr.2.1 a0.toNatClampNeg) tr fuel0 0 0
  else none
set_option maxRecDepth 100000 in
set_option maxHeartbeats 4000000 in
theorem run_X3_rankOf {l : Launch} {D : va_G} {cT : Nat → ClassId} (a0 : Int32)   (tr : ShT) (kp : ShT) (th : ShT) (ot : ShT) (tp : TpT) (sl : (Nat → SlT)) (pk : AI) (rf : AI) (ik : Int32) {r : Int32} (hf : f_X3_rankOf a0 tr = some r) : Runs l D cT yX3_rankOf cX3_rankOf 5 (some .int) 0 0 [.ref 0, .int a0] (cX tr kp th ot tp sl pk rf ik) (EQ (some (.int r)) (cX tr kp th ot tp sl pk rf ik)) := by
  refine runs_of O_X3 okO_X3 (by decide +kernel) rfl rfl (Nat.le_of_ble_eq_true rfl) (Nat.le_of_ble_eq_true rfl) (fun g K => ?_)
  have M := K.b
  show g 0 0 (cX tr kp th ot tp sl pk rf ik) 0 [some (.ref 0), some (.int a0), none, none, none] []
  have loop_0 : ∀ (v1 : Int32) (v3 : Int32) (n_ : Nat), (∀ (v2 : Int32) (v4 : Int32), f_X3_rankOf_L0 v1 v3 tr n_ v2 v4 = some r → g 0 0 (cX tr kp th ot tp sl pk rf ik) 15 [some (.ref 0), some (.int v1), some (.int v2), some (.int v3), some (.int v4)] []) := by
    intro v1 v3 n_
    induction n_ with
    | zero => intro v2 v4 hf; cases hf
    | succ n_ ih =>
      intro v2 v4 hf
      rw [f_X3_rankOf_L0] at hf
      refine m_run M (is := [(15, .iload 4, 0), (17, .aload_n 0, 0), (18, .getfield 10, 0), (21, .getfield 216, 0)]) (pc' := 24) (L' := [some (.ref 0), some (.int v1), some (.int v2), some (.int v3), some (.int v4)]) (st' := [.int tr.2.2.2.2.2.1, .int v4]) (w' := (cX tr kp th ot tp sl pk rf ik)) (by decide +kernel) rfl trivial ?_
      rcases ite_s hf with ⟨c_101, hf⟩ | ⟨c_101, hf⟩
      · refine m_jT M (i := .if_icmp .ge 46) 70 (by decide +kernel) rfl (by decide) c_101 ?_
        refine m_run M (is := [(70, .iload_n 2, 0)]) (pc' := 71) (L' := [some (.ref 0), some (.int v1), some (.int v2), some (.int v3), some (.int v4)]) (st' := [.int v2]) (w' := (cX tr kp th ot tp sl pk rf ik)) (by decide +kernel) rfl trivial ?_
        obtain rfl := Option.some.inj hf
        exact m_iret K (by decide +kernel) (Nat.zero_le _) (Nat.zero_le _) ⟨rfl, rfl⟩
      · refine m_jF M (i := .if_icmp .ge 46) 70 (by decide +kernel) rfl (by decide) c_101 ?_
        obtain ⟨h_102, hf⟩ := grd_s hf
        refine m_run M (is := [(27, .aload_n 0, 0), (28, .getfield 10, 0), (31, .getfield 150, 0), (34, .iload 4, 0), (36, .iaload, 0), (37, .iload_n 3, 0)]) (pc' := 38) (L' := [some (.ref 0), some (.int v1), some (.int v2), some (.int v3), some (.int v4)]) (st' := [.int v3, .int (tr.2.1 v4.toNatClampNeg)]) (w' := (cX tr kp th ot tp sl pk rf ik)) (by decide +kernel) rfl ⟨inB_use h_102, trivial⟩ ?_
        rcases ite_s hf with ⟨c_103, hf⟩ | ⟨c_103, hf⟩
        · refine m_jT M (i := .if_icmp .gt 23) 61 (by decide +kernel) rfl (by decide) c_103 ?_
          refine m_run M (is := [(61, .iinc 2 1, 1), (64, .iinc 4 1, 1), (67, .goto (-52), 0)]) (pc' := 15) (L' := [some (.ref 0), some (.int v1), some (.int (v2 + 1)), some (.int v3), some (.int (v4 + 1))]) (st' := []) (w' := (cX tr kp th ot tp sl pk rf ik)) (by decide +kernel) rfl trivial ?_
          exact ih (v2 + 1) (v4 + 1) hf
        · refine m_jF M (i := .if_icmp .gt 23) 61 (by decide +kernel) rfl (by decide) c_103 ?_
          obtain ⟨h_104, hf⟩ := grd_s hf
          refine m_run M (is := [(41, .aload_n 0, 0), (42, .getfield 10, 0), (45, .getfield 150, 0), (48, .iload 4, 0), (50, .iaload, 0), (51, .iload_n 3, 0)]) (pc' := 52) (L' := [some (.ref 0), some (.int v1), some (.int v2), some (.int v3), some (.int v4)]) (st' := [.int v3, .int (tr.2.1 v4.toNatClampNeg)]) (w' := (cX tr kp th ot tp sl pk rf ik)) (by decide +kernel) rfl ⟨inB_use h_104, trivial⟩ ?_
          rcases ite_s hf with ⟨c_105, hf⟩ | ⟨c_105, hf⟩
          · refine m_jF M (i := .if_icmp .ne 12) 64 (by decide +kernel) rfl (by decide) (fun n => n c_105) ?_
            refine m_run M (is := [(55, .iload 4, 0), (57, .iload_n 1, 0)]) (pc' := 58) (L' := [some (.ref 0), some (.int v1), some (.int v2), some (.int v3), some (.int v4)]) (st' := [.int v1, .int v4]) (w' := (cX tr kp th ot tp sl pk rf ik)) (by decide +kernel) rfl trivial ?_
            rcases ite_s hf with ⟨c_106, hf⟩ | ⟨c_106, hf⟩
            · refine m_jT M (i := .if_icmp .ge 6) 64 (by decide +kernel) rfl (by decide) c_106 ?_
              refine m_run M (is := [(64, .iinc 4 1, 1), (67, .goto (-52), 0)]) (pc' := 15) (L' := [some (.ref 0), some (.int v1), some (.int v2), some (.int v3), some (.int (v4 + 1))]) (st' := []) (w' := (cX tr kp th ot tp sl pk rf ik)) (by decide +kernel) rfl trivial ?_
              exact ih v2 (v4 + 1) hf
            · refine m_jF M (i := .if_icmp .ge 6) 64 (by decide +kernel) rfl (by decide) c_106 ?_
              refine m_run M (is := [(61, .iinc 2 1, 1), (64, .iinc 4 1, 1), (67, .goto (-52), 0)]) (pc' := 15) (L' := [some (.ref 0), some (.int v1), some (.int (v2 + 1)), some (.int v3), some (.int (v4 + 1))]) (st' := []) (w' := (cX tr kp th ot tp sl pk rf ik)) (by decide +kernel) rfl trivial ?_
              exact ih (v2 + 1) (v4 + 1) hf
          · refine m_jT M (i := .if_icmp .ne 12) 64 (by decide +kernel) rfl (by decide) c_105 ?_
            refine m_run M (is := [(64, .iinc 4 1, 1), (67, .goto (-52), 0)]) (pc' := 15) (L' := [some (.ref 0), some (.int v1), some (.int v2), some (.int v3), some (.int (v4 + 1))]) (st' := []) (w' := (cX tr kp th ot tp sl pk rf ik)) (by decide +kernel) rfl trivial ?_
            exact ih v2 (v4 + 1) hf
  rw [f_X3_rankOf] at hf
  obtain ⟨h_1001, hf⟩ := grd_s hf
  refine m_run M (is := [(0, .iconst 0, 0), (1, .istore_n 2, 0), (2, .aload_n 0, 0), (3, .getfield 10, 0), (6, .getfield 150, 0), (9, .iload_n 1, 0), (10, .iaload, 0), (11, .istore_n 3, 0), (12, .iconst 0, 0), (13, .istore 4, 0)]) (pc' := 15) (L' := [some (.ref 0), some (.int a0), some (.int 0), some (.int (tr.2.1 a0.toNatClampNeg)), some (.int 0)]) (st' := []) (w' := (cX tr kp th ot tp sl pk rf ik)) (by decide +kernel) rfl ⟨inB_use h_1001, trivial⟩ ?_
  exact loop_0 a0 (tr.2.1 a0.toNatClampNeg) fuel0 0 0 hf

set_option maxRecDepth 100000 in
set_option maxHeartbeats 4000000 in
theorem hw_2  {j : Nat} (hj : j < 8) (tr : ShT) (kp : ShT) (th : ShT) (ot : ShT) (tp : TpT) (sl : (Nat → SlT)) (pk : AI) (rf : AI) (ik : Int32) : (List.take (List.length ((cSl 0 (sl j)) : Wd)) ([30 + 2 * j, 31 + 2 * j] : List Nat)).map (fun k => ((cX tr kp th ot tp sl pk rf ik))[k]?) = ((cSl 0 (sl j)) : Wd).map (fun x => some (rS [30 + 2 * j, 31 + 2 * j] (List.length ((cX tr kp th ot tp sl pk rf ik) : Wd)) x)) := by rcases lt8 hj with rfl | rfl | rfl | rfl | rfl | rfl | rfl | rfl <;> rfl
set_option maxRecDepth 100000 in
set_option maxHeartbeats 4000000 in
theorem hp_2  {j : Nat} (hj : j < 8) (tr : ShT) (kp : ShT) (th : ShT) (ot : ShT) (tp : TpT) (sl : (Nat → SlT)) (pk : AI) (rf : AI) (ik : Int32) (u' : SlT) : putL (List.take (List.length ((cSl 0 (sl j)) : Wd)) ([30 + 2 * j, 31 + 2 * j] : List Nat)) (((cSl 0 u') : Wd).map (rS [30 + 2 * j, 31 + 2 * j] (List.length ((cX tr kp th ot tp sl pk rf ik) : Wd)))) (cX tr kp th ot tp sl pk rf ik) = (cX tr kp th ot tp (va_up sl j u') pk rf ik) := by rcases lt8 hj with rfl | rfl | rfl | rfl | rfl | rfl | rfl | rfl <;> rfl
def f_X3_shelvesInUse_L0 (sl : (Nat → SlT)) : Nat → Int32 → Int32 → Option (Int32)
  | 0, _, _ => none
  | n_ + 1, v1, v2 =>
    if 8 ≤ v2 then
      some v1
    else
      if inB v2 8 then
      (f_X0_content (sl v2.toNatClampNeg)).bind fun r103 =>
      if r103 = (-1) then
        f_X3_shelvesInUse_L0 sl n_ v1 (v2 + 1)
      else
        f_X3_shelvesInUse_L0 sl n_ (v1 + 1) (v2 + 1)
      else none
def f_X3_shelvesInUse (sl : (Nat → SlT)) : Option (Int32) :=
  f_X3_shelvesInUse_L0 sl fuel0 0 0
set_option maxRecDepth 100000 in
set_option maxHeartbeats 4000000 in
theorem run_X3_shelvesInUse {l : Launch} {D : va_G} {cT : Nat → ClassId}    (tr : ShT) (kp : ShT) (th : ShT) (ot : ShT) (tp : TpT) (sl : (Nat → SlT)) (pk : AI) (rf : AI) (ik : Int32) {r : Int32} (hf : f_X3_shelvesInUse sl = some r) : Runs l D cT yX3_shelvesInUse cX3_shelvesInUse 3 (some .int) 2 40 [.ref 0] (cX tr kp th ot tp sl pk rf ik) (EQ (some (.int r)) (cX tr kp th ot tp sl pk rf ik)) := by
  refine runs_of O_X3 okO_X3 (by decide +kernel) rfl rfl (Nat.le_of_ble_eq_true rfl) (Nat.le_of_ble_eq_true rfl) (fun g K => ?_)
  have M := K.b
  show g 0 0 (cX tr kp th ot tp sl pk rf ik) 0 [some (.ref 0), none, none] []
  have loop_0 : ∀ (n_ : Nat), (∀ (v1 : Int32) (v2 : Int32), f_X3_shelvesInUse_L0 sl n_ v1 v2 = some r → g 0 0 (cX tr kp th ot tp sl pk rf ik) 4 [some (.ref 0), some (.int v1), some (.int v2)] []) := by
    intro n_
    induction n_ with
    | zero => intro v1 v2 hf; cases hf
    | succ n_ ih =>
      intro v1 v2 hf
      rw [f_X3_shelvesInUse_L0] at hf
      refine m_run M (is := [(4, .iload_n 2, 0), (5, .bipush 8, 8)]) (pc' := 7) (L' := [some (.ref 0), some (.int v1), some (.int v2)]) (st' := [.int 8, .int v2]) (w' := (cX tr kp th ot tp sl pk rf ik)) (by decide +kernel) rfl trivial ?_
      rcases ite_s hf with ⟨c_101, hf⟩ | ⟨c_101, hf⟩
      · refine m_jT M (i := .if_icmp .ge 25) 32 (by decide +kernel) rfl (by decide) c_101 ?_
        refine m_run M (is := [(32, .iload_n 1, 0)]) (pc' := 33) (L' := [some (.ref 0), some (.int v1), some (.int v2)]) (st' := [.int v1]) (w' := (cX tr kp th ot tp sl pk rf ik)) (by decide +kernel) rfl trivial ?_
        obtain rfl := Option.some.inj hf
        exact m_iret K (by decide +kernel) (Nat.zero_le _) (Nat.zero_le _) ⟨rfl, rfl⟩
      · refine m_jF M (i := .if_icmp .ge 25) 32 (by decide +kernel) rfl (by decide) c_101 ?_
        obtain ⟨h_102, hf⟩ := grd_s hf
        refine m_run M (is := [(10, .aload_n 0, 0), (11, .getfield 34, 0), (14, .iload_n 2, 0)]) (pc' := 15) (L' := [some (.ref 0), some (.int v1), some (.int v2)]) (st' := [.int v2, .ref 27]) (w' := (cX tr kp th ot tp sl pk rf ik)) (by decide +kernel) rfl trivial ?_
        refine m_run M (is := [(15, .aaload, 0)]) (pc' := 16) (L' := [some (.ref 0), some (.int v1), some (.int v2)]) (st' := [.ref (30 + 2 * v2.toNatClampNeg)]) (w' := (cX tr kp th ot tp sl pk rf ik)) (by decide +kernel) (s_aald rfl rfl (fX_30 (inB_lt h_102))) ⟨inB_use h_102, trivial⟩ ?_
        obtain ⟨r103, h_103, hf⟩ := bnd_s hf
        refine m_cV0 M (rest := []) (w2 := (cX tr kp th ot tp sl pk rf ik)) (st2 := [.int r103]) (run_X0_content    (sl v2.toNatClampNeg) h_103) cv_X0_content lk_X3_99 (by decide +kernel) [30 + 2 * v2.toNatClampNeg, 31 + 2 * v2.toNatClampNeg] (by simp) ⟨Nat.le_of_ble_eq_true rfl, Nat.le_of_ble_eq_true rfl⟩ (hw_2  (inB_lt h_102) tr kp th ot tp sl pk rf ik) rfl rfl (Nat.le_of_ble_eq_true rfl) ⟨by decide, by decide⟩ rfl rfl ⟨Nat.zero_le _, Nat.zero_le _⟩ (by have z := (hp_2  (inB_lt h_102) tr kp th ot tp sl pk rf ik (sl v2.toNatClampNeg)); first | exact z | (simp only [va_up_id] at z; exact z)) rfl ?_
        refine m_run M (is := [(19, .iconst (-1), -1)]) (pc' := 20) (L' := [some (.ref 0), some (.int v1), some (.int v2)]) (st' := [.int (-1), .int r103]) (w' := (cX tr kp th ot tp sl pk rf ik)) (by decide +kernel) rfl trivial ?_
        rcases ite_s hf with ⟨c_104, hf⟩ | ⟨c_104, hf⟩
        · refine m_jT M (i := .if_icmp .eq 6) 26 (by decide +kernel) rfl (by decide) c_104 ?_
          refine m_run M (is := [(26, .iinc 2 1, 1), (29, .goto (-25), 0)]) (pc' := 4) (L' := [some (.ref 0), some (.int v1), some (.int (v2 + 1))]) (st' := []) (w' := (cX tr kp th ot tp sl pk rf ik)) (by decide +kernel) rfl trivial ?_
          exact ih v1 (v2 + 1) hf
        · refine m_jF M (i := .if_icmp .eq 6) 26 (by decide +kernel) rfl (by decide) c_104 ?_
          refine m_run M (is := [(23, .iinc 1 1, 1), (26, .iinc 2 1, 1), (29, .goto (-25), 0)]) (pc' := 4) (L' := [some (.ref 0), some (.int (v1 + 1)), some (.int (v2 + 1))]) (st' := []) (w' := (cX tr kp th ot tp sl pk rf ik)) (by decide +kernel) rfl trivial ?_
          exact ih (v1 + 1) (v2 + 1) hf
  rw [f_X3_shelvesInUse] at hf
  refine m_run M (is := [(0, .iconst 0, 0), (1, .istore_n 1, 0), (2, .iconst 0, 0), (3, .istore_n 2, 0)]) (pc' := 4) (L' := [some (.ref 0), some (.int 0), some (.int 0)]) (st' := []) (w' := (cX tr kp th ot tp sl pk rf ik)) (by decide +kernel) rfl trivial ?_
  exact loop_0 fuel0 0 0 hf

def f_X3_firstWrong_L0 (v2 : Int32) (j : Nat) (sl : (Nat → SlT)) : Nat → Int32 → ShT → Option (Int32 × ShT)
  | 0, _, _ => none
  | n_ + 1, v3, th =>
    if v2 ≤ v3 then
      some ((-1), th)
    else
      (f_X0_elementAt v3 (sl j)).bind fun r102 =>
      (f_X1_turn th).bind fun r103 =>
      if (lg_cmp r102 ((r103.1).toInt64)) = 0 then
        f_X3_firstWrong_L0 v2 j sl n_ (v3 + 1) r103.2
      else
        some (v3, r103.2)
def f_X3_firstWrong (a1 : Int32) (j : Nat) (th : ShT) (sl : (Nat → SlT)) : Option (Int32 × ShT) :=
  f_X3_firstWrong_L0 a1 j sl fuel0 0 th
set_option maxRecDepth 100000 in
set_option maxHeartbeats 4000000 in
theorem run_X3_firstWrong {l : Launch} {D : va_G} {cT : Nat → ClassId} (a1 : Int32) (j : Nat) (hj : j < 8) (tr : ShT) (kp : ShT) (th : ShT) (ot : ShT) (tp : TpT) (sl : (Nat → SlT)) (pk : AI) (rf : AI) (ik : Int32) {r : Int32 × ShT} (hf : f_X3_firstWrong a1 j th sl = some r) : Runs l D cT yX3_firstWrong cX3_firstWrong 4 (some .int) 3 67 [.ref 0, .ref (30 + 2 * j), .int a1] (cX tr kp th ot tp sl pk rf ik) (EQ (some (.int r.1)) (cX tr kp r.2 ot tp sl pk rf ik)) := by
  refine runs_of O_X3 okO_X3 (by decide +kernel) rfl rfl (Nat.le_of_ble_eq_true rfl) (Nat.le_of_ble_eq_true rfl) (fun g K => ?_)
  have M := K.b
  show g 0 0 (cX tr kp th ot tp sl pk rf ik) 0 [some (.ref 0), some (.ref (30 + 2 * j)), some (.int a1), none] []
  have loop_0 : ∀ (v2 : Int32) (n_ : Nat), (∀ (v3 : Int32) (th : ShT), f_X3_firstWrong_L0 v2 j sl n_ v3 th = some r → g 0 0 (cX tr kp th ot tp sl pk rf ik) 2 [some (.ref 0), some (.ref (30 + 2 * j)), some (.int v2), some (.int v3)] []) := by
    intro v2 n_
    induction n_ with
    | zero => intro v3 th hf; cases hf
    | succ n_ ih =>
      intro v3 th hf
      rw [f_X3_firstWrong_L0] at hf
      refine m_run M (is := [(2, .iload_n 3, 0), (3, .iload_n 2, 0)]) (pc' := 4) (L' := [some (.ref 0), some (.ref (30 + 2 * j)), some (.int v2), some (.int v3)]) (st' := [.int v2, .int v3]) (w' := (cX tr kp th ot tp sl pk rf ik)) (by decide +kernel) rfl trivial ?_
      rcases ite_s hf with ⟨c_101, hf⟩ | ⟨c_101, hf⟩
      · refine m_jT M (i := .if_icmp .ge 28) 32 (by decide +kernel) rfl (by decide) c_101 ?_
        refine m_run M (is := [(32, .iconst (-1), -1)]) (pc' := 33) (L' := [some (.ref 0), some (.ref (30 + 2 * j)), some (.int v2), some (.int v3)]) (st' := [.int (-1)]) (w' := (cX tr kp th ot tp sl pk rf ik)) (by decide +kernel) rfl trivial ?_
        obtain rfl := Option.some.inj hf
        exact m_iret K (by decide +kernel) (Nat.zero_le _) (Nat.zero_le _) ⟨rfl, rfl⟩
      · refine m_jF M (i := .if_icmp .ge 28) 32 (by decide +kernel) rfl (by decide) c_101 ?_
        refine m_run M (is := [(7, .aload_n 1, 0), (8, .iload_n 3, 0)]) (pc' := 9) (L' := [some (.ref 0), some (.ref (30 + 2 * j)), some (.int v2), some (.int v3)]) (st' := [.int v3, .ref (30 + 2 * j)]) (w' := (cX tr kp th ot tp sl pk rf ik)) (by decide +kernel) rfl trivial ?_
        obtain ⟨r102, h_102, hf⟩ := bnd_s hf
        refine m_cV0 M (rest := []) (w2 := (cX tr kp th ot tp sl pk rf ik)) (st2 := [.long r102]) (run_X0_elementAt v3   (sl j) h_102) cv_X0_elementAt lk_X3_95 (by decide +kernel) [30 + 2 * j, 31 + 2 * j] (by simp) ⟨Nat.le_of_ble_eq_true rfl, Nat.le_of_ble_eq_true rfl⟩ (hw_2  hj tr kp th ot tp sl pk rf ik) rfl rfl (Nat.le_of_ble_eq_true rfl) ⟨by decide, by decide⟩ rfl rfl ⟨Nat.zero_le _, Nat.zero_le _⟩ (by have z := (hp_2  hj tr kp th ot tp sl pk rf ik (sl j)); first | exact z | (simp only [va_up_id] at z; exact z)) rfl ?_
        refine m_run M (is := [(12, .aload_n 0, 0), (13, .getfield 19, 0)]) (pc' := 16) (L' := [some (.ref 0), some (.ref (30 + 2 * j)), some (.int v2), some (.int v3)]) (st' := [.ref 13, .long r102]) (w' := (cX tr kp th ot tp sl pk rf ik)) (by decide +kernel) rfl trivial ?_
        obtain ⟨r103, h_103, hf⟩ := bnd_s hf
        refine m_cV0 M (rest := [.long r102]) (w2 := (cX tr kp r103.2 ot tp sl pk rf ik)) (st2 := [.int r103.1, .long r102]) (run_X1_turn    th h_103) cv_X1_turn lk_X3_190 (by decide +kernel) [13, 14, 15, 16, 17, 18] (by decide) ⟨Nat.le_of_ble_eq_true rfl, Nat.le_of_ble_eq_true rfl⟩ (hw_1  tr kp th ot tp sl pk rf ik) rfl rfl (Nat.le_of_ble_eq_true rfl) ⟨by decide, by decide⟩ rfl rfl ⟨Nat.zero_le _, Nat.zero_le _⟩ (hp_1  tr kp th ot tp sl pk rf ik r103.2) rfl ?_
        refine m_run M (is := [(19, .i2l, 0), (20, .lcmp, 0)]) (pc' := 21) (L' := [some (.ref 0), some (.ref (30 + 2 * j)), some (.int v2), some (.int v3)]) (st' := [.int (lg_cmp r102 ((r103.1).toInt64))]) (w' := (cX tr kp r103.2 ot tp sl pk rf ik)) (by decide +kernel) rfl trivial ?_
        rcases ite_s hf with ⟨c_104, hf⟩ | ⟨c_104, hf⟩
        · refine m_jT M (i := .ifCond .eq 5) 26 (by decide +kernel) rfl (by decide) c_104 ?_
          refine m_run M (is := [(26, .iinc 3 1, 1), (29, .goto (-27), 0)]) (pc' := 2) (L' := [some (.ref 0), some (.ref (30 + 2 * j)), some (.int v2), some (.int (v3 + 1))]) (st' := []) (w' := (cX tr kp r103.2 ot tp sl pk rf ik)) (by decide +kernel) rfl trivial ?_
          exact ih (v3 + 1) r103.2 hf
        · refine m_jF M (i := .ifCond .eq 5) 26 (by decide +kernel) rfl (by decide) c_104 ?_
          refine m_run M (is := [(24, .iload_n 3, 0)]) (pc' := 25) (L' := [some (.ref 0), some (.ref (30 + 2 * j)), some (.int v2), some (.int v3)]) (st' := [.int v3]) (w' := (cX tr kp r103.2 ot tp sl pk rf ik)) (by decide +kernel) rfl trivial ?_
          obtain rfl := Option.some.inj hf
          exact m_iret K (by decide +kernel) (Nat.zero_le _) (Nat.zero_le _) ⟨rfl, rfl⟩
  rw [f_X3_firstWrong] at hf
  refine m_run M (is := [(0, .iconst 0, 0), (1, .istore_n 3, 0)]) (pc' := 2) (L' := [some (.ref 0), some (.ref (30 + 2 * j)), some (.int a1), some (.int 0)]) (st' := []) (w' := (cX tr kp th ot tp sl pk rf ik)) (by decide +kernel) rfl trivial ?_
  exact loop_0 a1 fuel0 0 th hf

set_option maxRecDepth 100000 in
set_option maxHeartbeats 4000000 in
theorem hw_3  (tr : ShT) (kp : ShT) (th : ShT) (ot : ShT) (tp : TpT) (sl : (Nat → SlT)) (pk : AI) (rf : AI) (ik : Int32) : (List.take (List.length ((cSh 0 tr) : Wd)) ([1, 2, 3, 4, 5, 6] : List Nat)).map (fun k => ((cX tr kp th ot tp sl pk rf ik))[k]?) = ((cSh 0 tr) : Wd).map (fun x => some (rS [1, 2, 3, 4, 5, 6] (List.length ((cX tr kp th ot tp sl pk rf ik) : Wd)) x)) := rfl
set_option maxRecDepth 100000 in
set_option maxHeartbeats 4000000 in
theorem hp_3  (tr : ShT) (kp : ShT) (th : ShT) (ot : ShT) (tp : TpT) (sl : (Nat → SlT)) (pk : AI) (rf : AI) (ik : Int32) (s' : ShT) : putL (List.take (List.length ((cSh 0 tr) : Wd)) ([1, 2, 3, 4, 5, 6] : List Nat)) (((cSh 0 s') : Wd).map (rS [1, 2, 3, 4, 5, 6] (List.length ((cX tr kp th ot tp sl pk rf ik) : Wd)))) (cX tr kp th ot tp sl pk rf ik) = (cX s' kp th ot tp sl pk rf ik) := rfl
def f_X3_hasAllPeople_L0 (j : Nat) (tr : ShT) (sl : (Nat → SlT)) : Nat → Int32 → Int32 → Option (Int32)
  | 0, _, _ => none
  | n_ + 1, v2, v3 =>
    if tr.2.2.2.2.2.1 ≤ v3 then
      (f_X1_allBits tr).bind fun r102 =>
      if v2 = r102 then
        some 1
      else
        some 0
    else
      (f_X0_elementAt v3 (sl j)).bind fun r104 =>
      if (lg_cmp r104 0) < 0 then
        some 0
      else
        if (lg_cmp r104 ((tr.2.2.2.2.2.1).toInt64)) < 0 then
          f_X3_hasAllPeople_L0 j tr sl n_ (v2 ||| (1 <<< (r104.toInt32 &&& 31))) (v3 + 1)
        else
          some 0
def f_X3_hasAllPeople (j : Nat) (tr : ShT) (sl : (Nat → SlT)) : Option (Int32) :=
  f_X3_hasAllPeople_L0 j tr sl fuel0 0 0
set_option maxRecDepth 100000 in
set_option maxHeartbeats 4000000 in
theorem run_X3_hasAllPeople {l : Launch} {D : va_G} {cT : Nat → ClassId}  (j : Nat) (hj : j < 8) (tr : ShT) (kp : ShT) (th : ShT) (ot : ShT) (tp : TpT) (sl : (Nat → SlT)) (pk : AI) (rf : AI) (ik : Int32) {r : Int32} (hf : f_X3_hasAllPeople j tr sl = some r) : Runs l D cT yX3_hasAllPeople cX3_hasAllPeople 6 (some .boolean) 2 43 [.ref 0, .ref (30 + 2 * j)] (cX tr kp th ot tp sl pk rf ik) (EQ (some (.int r)) (cX tr kp th ot tp sl pk rf ik)) := by
  refine runs_of O_X3 okO_X3 (by decide +kernel) rfl rfl (Nat.le_of_ble_eq_true rfl) (Nat.le_of_ble_eq_true rfl) (fun g K => ?_)
  have M := K.b
  show g 0 0 (cX tr kp th ot tp sl pk rf ik) 0 [some (.ref 0), some (.ref (30 + 2 * j)), none, none, none, none] []
  have loop_0 : ∀ (n_ : Nat), (∀ (v2 : Int32) (v3 : Int32), f_X3_hasAllPeople_L0 j tr sl n_ v2 v3 = some r → g 0 0 (cX tr kp th ot tp sl pk rf ik) 4 [some (.ref 0), some (.ref (30 + 2 * j)), some (.int v2), some (.int v3), none, none] []) := by
    intro n_
    induction n_ with
    | zero => intro v2 v3 hf; cases hf
    | succ n_ ih =>
      intro v2 v3 hf
      rw [f_X3_hasAllPeople_L0] at hf
      refine m_run M (is := [(4, .iload_n 3, 0), (5, .aload_n 0, 0), (6, .getfield 10, 0), (9, .getfield 216, 0)]) (pc' := 12) (L' := [some (.ref 0), some (.ref (30 + 2 * j)), some (.int v2), some (.int v3), none, none]) (st' := [.int tr.2.2.2.2.2.1, .int v3]) (w' := (cX tr kp th ot tp sl pk rf ik)) (by decide +kernel) rfl trivial ?_
      rcases ite_s hf with ⟨c_101, hf⟩ | ⟨c_101, hf⟩
      · refine m_jT M (i := .if_icmp .ge 47) 59 (by decide +kernel) rfl (by decide) c_101 ?_
        refine m_run M (is := [(59, .iload_n 2, 0), (60, .aload_n 0, 0), (61, .getfield 10, 0)]) (pc' := 64) (L' := [some (.ref 0), some (.ref (30 + 2 * j)), some (.int v2), some (.int v3), none, none]) (st' := [.ref 1, .int v2]) (w' := (cX tr kp th ot tp sl pk rf ik)) (by decide +kernel) rfl trivial ?_
        obtain ⟨r102, h_102, hf⟩ := bnd_s hf
        refine m_cV0 M (rest := [.int v2]) (w2 := (cX tr kp th ot tp sl pk rf ik)) (st2 := [.int r102, .int v2]) (run_X1_allBits    tr h_102) cv_X1_allBits lk_X3_201 (by decide +kernel) [1, 2, 3, 4, 5, 6] (by decide) ⟨Nat.le_of_ble_eq_true rfl, Nat.le_of_ble_eq_true rfl⟩ (hw_3  tr kp th ot tp sl pk rf ik) rfl rfl (Nat.le_of_ble_eq_true rfl) ⟨by decide, by decide⟩ rfl rfl ⟨Nat.zero_le _, Nat.zero_le _⟩ (hp_3  tr kp th ot tp sl pk rf ik tr) rfl ?_
        rcases ite_s hf with ⟨c_103, hf⟩ | ⟨c_103, hf⟩
        · refine m_jF M (i := .if_icmp .ne 7) 74 (by decide +kernel) rfl (by decide) (fun n => n c_103) ?_
          refine m_run M (is := [(70, .iconst 1, 1), (71, .goto 4, 0)]) (pc' := 75) (L' := [some (.ref 0), some (.ref (30 + 2 * j)), some (.int v2), some (.int v3), none, none]) (st' := [.int 1]) (w' := (cX tr kp th ot tp sl pk rf ik)) (by decide +kernel) rfl trivial ?_
          obtain rfl := Option.some.inj hf
          exact m_zret K (by decide +kernel) (Or.inr rfl) (Nat.zero_le _) (Nat.zero_le _) ⟨rfl, rfl⟩
        · refine m_jT M (i := .if_icmp .ne 7) 74 (by decide +kernel) rfl (by decide) c_103 ?_
          refine m_run M (is := [(74, .iconst 0, 0)]) (pc' := 75) (L' := [some (.ref 0), some (.ref (30 + 2 * j)), some (.int v2), some (.int v3), none, none]) (st' := [.int 0]) (w' := (cX tr kp th ot tp sl pk rf ik)) (by decide +kernel) rfl trivial ?_
          obtain rfl := Option.some.inj hf
          exact m_zret K (by decide +kernel) (Or.inl rfl) (Nat.zero_le _) (Nat.zero_le _) ⟨rfl, rfl⟩
      · refine m_jF M (i := .if_icmp .ge 47) 59 (by decide +kernel) rfl (by decide) c_101 ?_
        refine m_run M (is := [(15, .aload_n 1, 0), (16, .iload_n 3, 0)]) (pc' := 17) (L' := [some (.ref 0), some (.ref (30 + 2 * j)), some (.int v2), some (.int v3), none, none]) (st' := [.int v3, .ref (30 + 2 * j)]) (w' := (cX tr kp th ot tp sl pk rf ik)) (by decide +kernel) rfl trivial ?_
        obtain ⟨r104, h_104, hf⟩ := bnd_s hf
        refine m_cV0 M (rest := []) (w2 := (cX tr kp th ot tp sl pk rf ik)) (st2 := [.long r104]) (run_X0_elementAt v3   (sl j) h_104) cv_X0_elementAt lk_X3_95 (by decide +kernel) [30 + 2 * j, 31 + 2 * j] (by simp) ⟨Nat.le_of_ble_eq_true rfl, Nat.le_of_ble_eq_true rfl⟩ (hw_2  hj tr kp th ot tp sl pk rf ik) rfl rfl (Nat.le_of_ble_eq_true rfl) ⟨by decide, by decide⟩ rfl rfl ⟨Nat.zero_le _, Nat.zero_le _⟩ (by have z := (hp_2  hj tr kp th ot tp sl pk rf ik (sl j)); first | exact z | (simp only [va_up_id] at z; exact z)) rfl ?_
        refine m_run M (is := [(20, .lstore 4, 0), (22, .lload 4, 0), (24, .lconst 0, 0), (25, .lcmp, 0)]) (pc' := 26) (L' := [some (.ref 0), some (.ref (30 + 2 * j)), some (.int v2), some (.int v3), some (.long r104), none]) (st' := [.int (lg_cmp r104 0)]) (w' := (cX tr kp th ot tp sl pk rf ik)) (by decide +kernel) rfl trivial ?_
        rcases ite_s hf with ⟨c_105, hf⟩ | ⟨c_105, hf⟩
        · refine m_jT M (i := .ifCond .lt 17) 43 (by decide +kernel) rfl (by decide) c_105 ?_
          refine m_run M (is := [(43, .iconst 0, 0)]) (pc' := 44) (L' := [some (.ref 0), some (.ref (30 + 2 * j)), some (.int v2), some (.int v3), some (.long r104), none]) (st' := [.int 0]) (w' := (cX tr kp th ot tp sl pk rf ik)) (by decide +kernel) rfl trivial ?_
          obtain rfl := Option.some.inj hf
          exact m_zret K (by decide +kernel) (Or.inl rfl) (Nat.zero_le _) (Nat.zero_le _) ⟨rfl, rfl⟩
        · refine m_jF M (i := .ifCond .lt 17) 43 (by decide +kernel) rfl (by decide) c_105 ?_
          refine m_run M (is := [(29, .lload 4, 0), (31, .aload_n 0, 0), (32, .getfield 10, 0), (35, .getfield 216, 0), (38, .i2l, 0), (39, .lcmp, 0)]) (pc' := 40) (L' := [some (.ref 0), some (.ref (30 + 2 * j)), some (.int v2), some (.int v3), some (.long r104), none]) (st' := [.int (lg_cmp r104 ((tr.2.2.2.2.2.1).toInt64))]) (w' := (cX tr kp th ot tp sl pk rf ik)) (by decide +kernel) rfl trivial ?_
          rcases ite_s hf with ⟨c_106, hf⟩ | ⟨c_106, hf⟩
          · refine m_jT M (i := .ifCond .lt 5) 45 (by decide +kernel) rfl (by decide) c_106 ?_
            refine m_run M (is := [(45, .iload_n 2, 0), (46, .iconst 1, 1), (47, .lload 4, 0), (49, .l2i, 0), (50, .ishl, 0), (51, .ior, 0), (52, .istore_n 2, 0), (53, .iinc 3 1, 1), (56, .goto (-52), 0)]) (pc' := 4) (L' := [some (.ref 0), some (.ref (30 + 2 * j)), some (.int (v2 ||| (1 <<< (r104.toInt32 &&& 31)))), some (.int (v3 + 1)), some (.long r104), none]) (st' := []) (w' := (cX tr kp th ot tp sl pk rf ik)) (by decide +kernel) rfl trivial ?_
            refine m_wk M [some (.ref 0), some (.ref (30 + 2 * j)), some (.int (v2 ||| (1 <<< (r104.toInt32 &&& 31)))), some (.int (v3 + 1)), none, none] ⟨Or.inr rfl, Or.inr rfl, Or.inr rfl, Or.inr rfl, Or.inl rfl, Or.inr rfl, trivial⟩ ?_
            exact ih (v2 ||| (1 <<< (r104.toInt32 &&& 31))) (v3 + 1) hf
          · refine m_jF M (i := .ifCond .lt 5) 45 (by decide +kernel) rfl (by decide) c_106 ?_
            refine m_run M (is := [(43, .iconst 0, 0)]) (pc' := 44) (L' := [some (.ref 0), some (.ref (30 + 2 * j)), some (.int v2), some (.int v3), some (.long r104), none]) (st' := [.int 0]) (w' := (cX tr kp th ot tp sl pk rf ik)) (by decide +kernel) rfl trivial ?_
            obtain rfl := Option.some.inj hf
            exact m_zret K (by decide +kernel) (Or.inl rfl) (Nat.zero_le _) (Nat.zero_le _) ⟨rfl, rfl⟩
  rw [f_X3_hasAllPeople] at hf
  refine m_run M (is := [(0, .iconst 0, 0), (1, .istore_n 2, 0), (2, .iconst 0, 0), (3, .istore_n 3, 0)]) (pc' := 4) (L' := [some (.ref 0), some (.ref (30 + 2 * j)), some (.int 0), some (.int 0), none, none]) (st' := []) (w' := (cX tr kp th ot tp sl pk rf ik)) (by decide +kernel) rfl trivial ?_
  exact loop_0 fuel0 0 0 hf

def f_X3_firstPush_L0 (v2 : Int32) (j : Nat) (tr : ShT) (sl : (Nat → SlT)) : Nat → Nat → Int32 → Int32 → Int32 → ShT → Option (Int32 × ShT)
  | 0, _, _, _, _, _ => none
  | n_ + 1, lb_, v3, v4, v5, th =>
    if lb_ = 0 then
      if tr.2.2.2.2.2.1 ≤ v3 then
        some ((-1), th)
      else
        (f_X1_placeOf v3 tr).bind fun r102 =>
        f_X3_firstPush_L0 v2 j tr sl n_ 1 v3 r102 0 th
    else
      if tr.2.2.2.2.2.1 ≤ v5 then
        f_X3_firstPush_L0 v2 j tr sl n_ 0 (v3 + 1) 0 0 th
      else
        if v5 = v4 then
          f_X3_firstPush_L0 v2 j tr sl n_ 1 v3 v4 (v5 + 1) th
        else
          (f_X1_become th tr).bind fun r123 =>
          (f_X1_move v3 v5 r123).bind fun r124 =>
          (f_X3_firstWrong v2 j r124 sl).bind fun r125 =>
          if r125.1 = (-1) then
            some (((100 * v3) + v5), r125.2)
          else
            f_X3_firstPush_L0 v2 j tr sl n_ 1 v3 v4 (v5 + 1) r125.2
def f_X3_firstPush (a1 : Int32) (j : Nat) (tr : ShT) (th : ShT) (sl : (Nat → SlT)) : Option (Int32 × ShT) :=
  f_X3_firstPush_L0 a1 j tr sl fuel0 0 0 0 0 th
set_option maxRecDepth 100000 in
set_option maxHeartbeats 4000000 in
theorem run_X3_firstPush {l : Launch} {D : va_G} {cT : Nat → ClassId} (a1 : Int32) (j : Nat) (hj : j < 8) (tr : ShT) (kp : ShT) (th : ShT) (ot : ShT) (tp : TpT) (sl : (Nat → SlT)) (pk : AI) (rf : AI) (ik : Int32) {r : Int32 × ShT} (hf : f_X3_firstPush a1 j tr th sl = some r) : Runs l D cT yX3_firstPush cX3_firstPush 6 (some .int) 4 90 [.ref 0, .ref (30 + 2 * j), .int a1] (cX tr kp th ot tp sl pk rf ik) (EQ (some (.int r.1)) (cX tr kp r.2 ot tp sl pk rf ik)) := by
  refine runs_of O_X3 okO_X3 (by decide +kernel) rfl rfl (Nat.le_of_ble_eq_true rfl) (Nat.le_of_ble_eq_true rfl) (fun g K => ?_)
  have M := K.b
  show g 0 0 (cX tr kp th ot tp sl pk rf ik) 0 [some (.ref 0), some (.ref (30 + 2 * j)), some (.int a1), none, none, none] []
  have loop_0 : ∀ (v2 : Int32) (n_ : Nat), (∀ (v3 : Int32) (v4 : Int32) (v5 : Int32) (th : ShT), f_X3_firstPush_L0 v2 j tr sl n_ 0 v3 v4 v5 th = some r → g 0 0 (cX tr kp th ot tp sl pk rf ik) 2 [some (.ref 0), some (.ref (30 + 2 * j)), some (.int v2), some (.int v3), none, none] []) ∧ (∀ (v3 : Int32) (v4 : Int32) (v5 : Int32) (th : ShT), f_X3_firstPush_L0 v2 j tr sl n_ 1 v3 v4 v5 th = some r → g 0 0 (cX tr kp th ot tp sl pk rf ik) 26 [some (.ref 0), some (.ref (30 + 2 * j)), some (.int v2), some (.int v3), some (.int v4), some (.int v5)] []) := by
    intro v2 n_
    induction n_ with
    | zero => exact ⟨fun v3 v4 v5 th hf => (by cases hf), fun v3 v4 v5 th hf => (by cases hf)⟩
    | succ n_ ih =>
      refine ⟨?_, ?_⟩
      · intro v3 v4 v5 th hf
        rw [f_X3_firstPush_L0] at hf
        rw [if_pos rfl] at hf
        refine m_run M (is := [(2, .iload_n 3, 0), (3, .aload_n 0, 0), (4, .getfield 10, 0), (7, .getfield 216, 0)]) (pc' := 10) (L' := [some (.ref 0), some (.ref (30 + 2 * j)), some (.int v2), some (.int v3), none, none]) (st' := [.int tr.2.2.2.2.2.1, .int v3]) (w' := (cX tr kp th ot tp sl pk rf ik)) (by decide +kernel) rfl trivial ?_
        rcases ite_s hf with ⟨c_101, hf⟩ | ⟨c_101, hf⟩
        · refine m_jT M (i := .if_icmp .ge 86) 96 (by decide +kernel) rfl (by decide) c_101 ?_
          refine m_run M (is := [(96, .iconst (-1), -1)]) (pc' := 97) (L' := [some (.ref 0), some (.ref (30 + 2 * j)), some (.int v2), some (.int v3), none, none]) (st' := [.int (-1)]) (w' := (cX tr kp th ot tp sl pk rf ik)) (by decide +kernel) rfl trivial ?_
          obtain rfl := Option.some.inj hf
          exact m_iret K (by decide +kernel) (Nat.zero_le _) (Nat.zero_le _) ⟨rfl, rfl⟩
        · refine m_jF M (i := .if_icmp .ge 86) 96 (by decide +kernel) rfl (by decide) c_101 ?_
          refine m_run M (is := [(13, .aload_n 0, 0), (14, .getfield 10, 0), (17, .iload_n 3, 0)]) (pc' := 18) (L' := [some (.ref 0), some (.ref (30 + 2 * j)), some (.int v2), some (.int v3), none, none]) (st' := [.int v3, .ref 1]) (w' := (cX tr kp th ot tp sl pk rf ik)) (by decide +kernel) rfl trivial ?_
          obtain ⟨r102, h_102, hf⟩ := bnd_s hf
          refine m_cV0 M (rest := []) (w2 := (cX tr kp th ot tp sl pk rf ik)) (st2 := [.int r102]) (run_X1_placeOf v3   tr h_102) cv_X1_placeOf lk_X3_207 (by decide +kernel) [1, 2, 3, 4, 5, 6] (by decide) ⟨Nat.le_of_ble_eq_true rfl, Nat.le_of_ble_eq_true rfl⟩ (hw_3  tr kp th ot tp sl pk rf ik) rfl rfl (Nat.le_of_ble_eq_true rfl) ⟨by decide, by decide⟩ rfl rfl ⟨Nat.zero_le _, Nat.zero_le _⟩ (hp_3  tr kp th ot tp sl pk rf ik tr) rfl ?_
          refine m_run M (is := [(21, .istore 4, 0), (23, .iconst 0, 0), (24, .istore 5, 0)]) (pc' := 26) (L' := [some (.ref 0), some (.ref (30 + 2 * j)), some (.int v2), some (.int v3), some (.int r102), some (.int 0)]) (st' := []) (w' := (cX tr kp th ot tp sl pk rf ik)) (by decide +kernel) rfl trivial ?_
          exact (ih).2 v3 r102 0 th hf
      · intro v3 v4 v5 th hf
        rw [f_X3_firstPush_L0] at hf
        rw [if_neg (by decide)] at hf
        refine m_run M (is := [(26, .iload 5, 0), (28, .aload_n 0, 0), (29, .getfield 10, 0), (32, .getfield 216, 0)]) (pc' := 35) (L' := [some (.ref 0), some (.ref (30 + 2 * j)), some (.int v2), some (.int v3), some (.int v4), some (.int v5)]) (st' := [.int tr.2.2.2.2.2.1, .int v5]) (w' := (cX tr kp th ot tp sl pk rf ik)) (by decide +kernel) rfl trivial ?_
        rcases ite_s hf with ⟨c_121, hf⟩ | ⟨c_121, hf⟩
        · refine m_jT M (i := .if_icmp .ge 55) 90 (by decide +kernel) rfl (by decide) c_121 ?_
          refine m_run M (is := [(90, .iinc 3 1, 1), (93, .goto (-91), 0)]) (pc' := 2) (L' := [some (.ref 0), some (.ref (30 + 2 * j)), some (.int v2), some (.int (v3 + 1)), some (.int v4), some (.int v5)]) (st' := []) (w' := (cX tr kp th ot tp sl pk rf ik)) (by decide +kernel) rfl trivial ?_
          refine m_wk M [some (.ref 0), some (.ref (30 + 2 * j)), some (.int v2), some (.int (v3 + 1)), none, none] ⟨Or.inr rfl, Or.inr rfl, Or.inr rfl, Or.inr rfl, Or.inl rfl, Or.inl rfl, trivial⟩ ?_
          exact (ih).1 (v3 + 1) 0 0 th hf
        · refine m_jF M (i := .if_icmp .ge 55) 90 (by decide +kernel) rfl (by decide) c_121 ?_
          refine m_run M (is := [(38, .iload 5, 0), (40, .iload 4, 0)]) (pc' := 42) (L' := [some (.ref 0), some (.ref (30 + 2 * j)), some (.int v2), some (.int v3), some (.int v4), some (.int v5)]) (st' := [.int v4, .int v5]) (w' := (cX tr kp th ot tp sl pk rf ik)) (by decide +kernel) rfl trivial ?_
          rcases ite_s hf with ⟨c_122, hf⟩ | ⟨c_122, hf⟩
          · refine m_jT M (i := .if_icmp .eq 42) 84 (by decide +kernel) rfl (by decide) c_122 ?_
            refine m_run M (is := [(84, .iinc 5 1, 1), (87, .goto (-61), 0)]) (pc' := 26) (L' := [some (.ref 0), some (.ref (30 + 2 * j)), some (.int v2), some (.int v3), some (.int v4), some (.int (v5 + 1))]) (st' := []) (w' := (cX tr kp th ot tp sl pk rf ik)) (by decide +kernel) rfl trivial ?_
            exact (ih).2 v3 v4 (v5 + 1) th hf
          · refine m_jF M (i := .if_icmp .eq 42) 84 (by decide +kernel) rfl (by decide) c_122 ?_
            refine m_run M (is := [(45, .aload_n 0, 0), (46, .getfield 19, 0), (49, .aload_n 0, 0), (50, .getfield 10, 0)]) (pc' := 53) (L' := [some (.ref 0), some (.ref (30 + 2 * j)), some (.int v2), some (.int v3), some (.int v4), some (.int v5)]) (st' := [.ref 1, .ref 13]) (w' := (cX tr kp th ot tp sl pk rf ik)) (by decide +kernel) rfl trivial ?_
            obtain ⟨r123, h_123, hf⟩ := bnd_s hf
            refine m_cV0 M (rest := []) (w2 := (cX tr kp r123 ot tp sl pk rf ik)) (st2 := []) (run_X1_become    th tr h_123) cv_X1_become lk_X3_161 (by decide +kernel) [13, 14, 15, 16, 17, 18, 1, 2, 3, 4, 5, 6] (by decide) ⟨Nat.le_of_ble_eq_true rfl, Nat.le_of_ble_eq_true rfl⟩ (hw_0  tr kp th ot tp sl pk rf ik) rfl rfl (Nat.le_of_ble_eq_true rfl) ⟨by decide, by decide⟩ rfl rfl ⟨Nat.zero_le _, Nat.zero_le _⟩ (hp_0  tr kp th ot tp sl pk rf ik r123 tr) rfl ?_
            refine m_run M (is := [(56, .aload_n 0, 0), (57, .getfield 19, 0), (60, .iload_n 3, 0), (61, .iload 5, 0)]) (pc' := 63) (L' := [some (.ref 0), some (.ref (30 + 2 * j)), some (.int v2), some (.int v3), some (.int v4), some (.int v5)]) (st' := [.int v5, .int v3, .ref 13]) (w' := (cX tr kp r123 ot tp sl pk rf ik)) (by decide +kernel) rfl trivial ?_
            obtain ⟨r124, h_124, hf⟩ := bnd_s hf
            refine m_cV0 M (rest := []) (w2 := (cX tr kp r124 ot tp sl pk rf ik)) (st2 := []) (run_X1_move v3 v5   r123 h_124) cv_X1_move lk_X3_245 (by decide +kernel) [13, 14, 15, 16, 17, 18] (by decide) ⟨Nat.le_of_ble_eq_true rfl, Nat.le_of_ble_eq_true rfl⟩ (hw_1  tr kp r123 ot tp sl pk rf ik) rfl rfl (Nat.le_of_ble_eq_true rfl) ⟨by decide, by decide⟩ rfl rfl ⟨Nat.zero_le _, Nat.zero_le _⟩ (hp_1  tr kp r123 ot tp sl pk rf ik r124) rfl ?_
            refine m_run M (is := [(66, .aload_n 0, 0), (67, .aload_n 1, 0), (68, .iload_n 2, 0)]) (pc' := 69) (L' := [some (.ref 0), some (.ref (30 + 2 * j)), some (.int v2), some (.int v3), some (.int v4), some (.int v5)]) (st' := [.int v2, .ref (30 + 2 * j), .ref 0]) (w' := (cX tr kp r124 ot tp sl pk rf ik)) (by decide +kernel) rfl trivial ?_
            obtain ⟨r125, h_125, hf⟩ := bnd_s hf
            refine m_cV0 M (rest := []) (w2 := (cX tr kp r125.2 ot tp sl pk rf ik)) (st2 := [.int r125.1]) (run_X3_firstWrong v2 j hj tr kp r124 ot tp sl pk rf ik h_125) cv_X3_firstWrong lk_X3_257 (by decide +kernel) (List.range 46) List.nodup_range ⟨(by rw [List.length_range]; exact Nat.le_refl _), Nat.le_of_ble_eq_true rfl⟩ (hwId rfl) (congrArg (fun z1 => [.int v2, z1, .ref 0]) (rvX hj).symm) rfl (Nat.le_of_ble_eq_true rfl) ⟨by decide, by decide⟩ rfl rfl ⟨Nat.zero_le _, Nat.zero_le _⟩ (hpId rfl rfl) rfl ?_
            refine m_run M (is := [(72, .iconst (-1), -1)]) (pc' := 73) (L' := [some (.ref 0), some (.ref (30 + 2 * j)), some (.int v2), some (.int v3), some (.int v4), some (.int v5)]) (st' := [.int (-1), .int r125.1]) (w' := (cX tr kp r125.2 ot tp sl pk rf ik)) (by decide +kernel) rfl trivial ?_
            rcases ite_s hf with ⟨c_126, hf⟩ | ⟨c_126, hf⟩
            · refine m_jF M (i := .if_icmp .ne 11) 84 (by decide +kernel) rfl (by decide) (fun n => n c_126) ?_
              refine m_run M (is := [(76, .bipush 100, 100), (78, .iload_n 3, 0), (79, .imul, 0), (80, .iload 5, 0), (82, .iadd, 0)]) (pc' := 83) (L' := [some (.ref 0), some (.ref (30 + 2 * j)), some (.int v2), some (.int v3), some (.int v4), some (.int v5)]) (st' := [.int ((100 * v3) + v5)]) (w' := (cX tr kp r125.2 ot tp sl pk rf ik)) (by decide +kernel) rfl trivial ?_
              obtain rfl := Option.some.inj hf
              exact m_iret K (by decide +kernel) (Nat.zero_le _) (Nat.zero_le _) ⟨rfl, rfl⟩
            · refine m_jT M (i := .if_icmp .ne 11) 84 (by decide +kernel) rfl (by decide) c_126 ?_
              refine m_run M (is := [(84, .iinc 5 1, 1), (87, .goto (-61), 0)]) (pc' := 26) (L' := [some (.ref 0), some (.ref (30 + 2 * j)), some (.int v2), some (.int v3), some (.int v4), some (.int (v5 + 1))]) (st' := []) (w' := (cX tr kp r125.2 ot tp sl pk rf ik)) (by decide +kernel) rfl trivial ?_
              exact (ih).2 v3 v4 (v5 + 1) r125.2 hf
  rw [f_X3_firstPush] at hf
  refine m_run M (is := [(0, .iconst 0, 0), (1, .istore_n 3, 0)]) (pc' := 2) (L' := [some (.ref 0), some (.ref (30 + 2 * j)), some (.int a1), some (.int 0), none, none]) (st' := []) (w' := (cX tr kp th ot tp sl pk rf ik)) (by decide +kernel) rfl trivial ?_
  exact (loop_0 a1 fuel0).1 0 0 0 th hf

def f_X3_refusalOfSlate (a0 : Int32) (a1 : Int32) (tr : ShT) (sl : (Nat → SlT)) : Option (Int32) :=
  (f_X3_isShelf a0).bind fun r1001 =>
  if r1001 = 0 then
    some (-2)
  else
    (f_X3_isBetween a1 0 40).bind fun r1003 =>
    if r1003 = 0 then
      some (-2)
    else
      if inB a0 8 then
      (f_X0_refusalOfRow (sl a0.toNatClampNeg)).bind fun r1006 =>
      if r1006 = 0 then
        if inB a0 8 then
        (f_X0_hasPart 0 a1 (sl a0.toNatClampNeg)).bind fun r1009 =>
        if r1009 = 0 then
          some (-2)
        else
          (f_X1_isStuck tr).bind fun r1011 =>
          if r1011 = 0 then
            some 0
          else
            some (-5)
        else none
      else
        some r1006
      else none
set_option maxRecDepth 100000 in
set_option maxHeartbeats 4000000 in
theorem run_X3_refusalOfSlate {l : Launch} {D : va_G} {cT : Nat → ClassId} (a0 : Int32) (a1 : Int32)   (tr : ShT) (kp : ShT) (th : ShT) (ot : ShT) (tp : TpT) (sl : (Nat → SlT)) (pk : AI) (rf : AI) (ik : Int32) {r : Int32} (hf : f_X3_refusalOfSlate a0 a1 tr sl = some r) : Runs l D cT yX3_refusalOfSlate cX3_refusalOfSlate 4 (some .int) 2 42 [.ref 0, .int a0, .int a1] (cX tr kp th ot tp sl pk rf ik) (EQ (some (.int r)) (cX tr kp th ot tp sl pk rf ik)) := by
  refine runs_of O_X3 okO_X3 (by decide +kernel) rfl rfl (Nat.le_of_ble_eq_true rfl) (Nat.le_of_ble_eq_true rfl) (fun g K => ?_)
  have M := K.b
  show g 0 0 (cX tr kp th ot tp sl pk rf ik) 0 [some (.ref 0), some (.int a0), some (.int a1), none] []
  rw [f_X3_refusalOfSlate] at hf
  refine m_run M (is := [(0, .iload_n 1, 0)]) (pc' := 1) (L' := [some (.ref 0), some (.int a0), some (.int a1), none]) (st' := [.int a0]) (w' := (cX tr kp th ot tp sl pk rf ik)) (by decide +kernel) rfl trivial ?_
  obtain ⟨r1001, h_1001, hf⟩ := bnd_s hf
  refine m_cS0 M (rest := []) (w2 := (cX tr kp th ot tp sl pk rf ik)) (st2 := [.int r1001]) (run_X3_isShelf a0    h_1001) cs_X3_isShelf lk_X3_46 (by decide +kernel) [] (by decide) ⟨Nat.le_of_ble_eq_true rfl, Nat.le_of_ble_eq_true rfl⟩ rfl rfl (Nat.le_of_ble_eq_true rfl) ⟨by decide, by decide⟩ rfl rfl ⟨Nat.zero_le _, Nat.zero_le _⟩ rfl rfl ?_
  rcases ite_s hf with ⟨c_1002, hf⟩ | ⟨c_1002, hf⟩
  · refine m_jT M (i := .ifCond .eq 13) 17 (by decide +kernel) rfl (by decide) c_1002 ?_
    refine m_run M (is := [(17, .bipush (-2), -2)]) (pc' := 19) (L' := [some (.ref 0), some (.int a0), some (.int a1), none]) (st' := [.int (-2)]) (w' := (cX tr kp th ot tp sl pk rf ik)) (by decide +kernel) rfl trivial ?_
    obtain rfl := Option.some.inj hf
    exact m_iret K (by decide +kernel) (Nat.zero_le _) (Nat.zero_le _) ⟨rfl, rfl⟩
  · refine m_jF M (i := .ifCond .eq 13) 17 (by decide +kernel) rfl (by decide) c_1002 ?_
    refine m_run M (is := [(7, .iload_n 2, 0), (8, .iconst 0, 0), (9, .bipush 40, 40)]) (pc' := 11) (L' := [some (.ref 0), some (.int a0), some (.int a1), none]) (st' := [.int 40, .int 0, .int a1]) (w' := (cX tr kp th ot tp sl pk rf ik)) (by decide +kernel) rfl trivial ?_
    obtain ⟨r1003, h_1003, hf⟩ := bnd_s hf
    refine m_cS0 M (rest := []) (w2 := (cX tr kp th ot tp sl pk rf ik)) (st2 := [.int r1003]) (run_X3_isBetween a1 0 40    h_1003) cs_X3_isBetween lk_X3_50 (by decide +kernel) [] (by decide) ⟨Nat.le_of_ble_eq_true rfl, Nat.le_of_ble_eq_true rfl⟩ rfl rfl (Nat.le_of_ble_eq_true rfl) ⟨by decide, by decide⟩ rfl rfl ⟨Nat.zero_le _, Nat.zero_le _⟩ rfl rfl ?_
    rcases ite_s hf with ⟨c_1004, hf⟩ | ⟨c_1004, hf⟩
    · refine m_jF M (i := .ifCond .ne 6) 20 (by decide +kernel) rfl (by decide) (fun n => n c_1004) ?_
      refine m_run M (is := [(17, .bipush (-2), -2)]) (pc' := 19) (L' := [some (.ref 0), some (.int a0), some (.int a1), none]) (st' := [.int (-2)]) (w' := (cX tr kp th ot tp sl pk rf ik)) (by decide +kernel) rfl trivial ?_
      obtain rfl := Option.some.inj hf
      exact m_iret K (by decide +kernel) (Nat.zero_le _) (Nat.zero_le _) ⟨rfl, rfl⟩
    · refine m_jT M (i := .ifCond .ne 6) 20 (by decide +kernel) rfl (by decide) c_1004 ?_
      obtain ⟨h_1005, hf⟩ := grd_s hf
      refine m_run M (is := [(20, .aload_n 0, 0), (21, .getfield 34, 0), (24, .iload_n 1, 0)]) (pc' := 25) (L' := [some (.ref 0), some (.int a0), some (.int a1), none]) (st' := [.int a0, .ref 27]) (w' := (cX tr kp th ot tp sl pk rf ik)) (by decide +kernel) rfl trivial ?_
      refine m_run M (is := [(25, .aaload, 0)]) (pc' := 26) (L' := [some (.ref 0), some (.int a0), some (.int a1), none]) (st' := [.ref (30 + 2 * a0.toNatClampNeg)]) (w' := (cX tr kp th ot tp sl pk rf ik)) (by decide +kernel) (s_aald rfl rfl (fX_30 (inB_lt h_1005))) ⟨inB_use h_1005, trivial⟩ ?_
      obtain ⟨r1006, h_1006, hf⟩ := bnd_s hf
      refine m_cV0 M (rest := []) (w2 := (cX tr kp th ot tp sl pk rf ik)) (st2 := [.int r1006]) (run_X0_refusalOfRow    (sl a0.toNatClampNeg) h_1006) cv_X0_refusalOfRow lk_X3_62 (by decide +kernel) [30 + 2 * a0.toNatClampNeg, 31 + 2 * a0.toNatClampNeg] (by simp) ⟨Nat.le_of_ble_eq_true rfl, Nat.le_of_ble_eq_true rfl⟩ (hw_2  (inB_lt h_1005) tr kp th ot tp sl pk rf ik) rfl rfl (Nat.le_of_ble_eq_true rfl) ⟨by decide, by decide⟩ rfl rfl ⟨Nat.zero_le _, Nat.zero_le _⟩ (by have z := (hp_2  (inB_lt h_1005) tr kp th ot tp sl pk rf ik (sl a0.toNatClampNeg)); first | exact z | (simp only [va_up_id] at z; exact z)) rfl ?_
      refine m_run M (is := [(29, .istore_n 3, 0), (30, .iload_n 3, 0)]) (pc' := 31) (L' := [some (.ref 0), some (.int a0), some (.int a1), some (.int r1006)]) (st' := [.int r1006]) (w' := (cX tr kp th ot tp sl pk rf ik)) (by decide +kernel) rfl trivial ?_
      rcases ite_s hf with ⟨c_1007, hf⟩ | ⟨c_1007, hf⟩
      · refine m_jT M (i := .ifCond .eq 5) 36 (by decide +kernel) rfl (by decide) c_1007 ?_
        obtain ⟨h_1008, hf⟩ := grd_s hf
        refine m_run M (is := [(36, .aload_n 0, 0), (37, .getfield 34, 0), (40, .iload_n 1, 0)]) (pc' := 41) (L' := [some (.ref 0), some (.int a0), some (.int a1), some (.int r1006)]) (st' := [.int a0, .ref 27]) (w' := (cX tr kp th ot tp sl pk rf ik)) (by decide +kernel) rfl trivial ?_
        refine m_run M (is := [(41, .aaload, 0)]) (pc' := 42) (L' := [some (.ref 0), some (.int a0), some (.int a1), some (.int r1006)]) (st' := [.ref (30 + 2 * a0.toNatClampNeg)]) (w' := (cX tr kp th ot tp sl pk rf ik)) (by decide +kernel) (s_aald rfl rfl (fX_30 (inB_lt h_1008))) ⟨inB_use h_1008, trivial⟩ ?_
        refine m_run M (is := [(42, .iconst 0, 0), (43, .iload_n 2, 0)]) (pc' := 44) (L' := [some (.ref 0), some (.int a0), some (.int a1), some (.int r1006)]) (st' := [.int a1, .int 0, .ref (30 + 2 * a0.toNatClampNeg)]) (w' := (cX tr kp th ot tp sl pk rf ik)) (by decide +kernel) rfl trivial ?_
        obtain ⟨r1009, h_1009, hf⟩ := bnd_s hf
        refine m_cV0 M (rest := []) (w2 := (cX tr kp th ot tp sl pk rf ik)) (st2 := [.int r1009]) (run_X0_hasPart 0 a1   (sl a0.toNatClampNeg) h_1009) cv_X0_hasPart lk_X3_66 (by decide +kernel) [30 + 2 * a0.toNatClampNeg, 31 + 2 * a0.toNatClampNeg] (by simp) ⟨Nat.le_of_ble_eq_true rfl, Nat.le_of_ble_eq_true rfl⟩ (hw_2  (inB_lt h_1008) tr kp th ot tp sl pk rf ik) rfl rfl (Nat.le_of_ble_eq_true rfl) ⟨by decide, by decide⟩ rfl rfl ⟨Nat.zero_le _, Nat.zero_le _⟩ (by have z := (hp_2  (inB_lt h_1008) tr kp th ot tp sl pk rf ik (sl a0.toNatClampNeg)); first | exact z | (simp only [va_up_id] at z; exact z)) rfl ?_
        rcases ite_s hf with ⟨c_1010, hf⟩ | ⟨c_1010, hf⟩
        · refine m_jF M (i := .ifCond .ne 6) 53 (by decide +kernel) rfl (by decide) (fun n => n c_1010) ?_
          refine m_run M (is := [(50, .bipush (-2), -2)]) (pc' := 52) (L' := [some (.ref 0), some (.int a0), some (.int a1), some (.int r1006)]) (st' := [.int (-2)]) (w' := (cX tr kp th ot tp sl pk rf ik)) (by decide +kernel) rfl trivial ?_
          obtain rfl := Option.some.inj hf
          exact m_iret K (by decide +kernel) (Nat.zero_le _) (Nat.zero_le _) ⟨rfl, rfl⟩
        · refine m_jT M (i := .ifCond .ne 6) 53 (by decide +kernel) rfl (by decide) c_1010 ?_
          refine m_run M (is := [(53, .aload_n 0, 0), (54, .getfield 10, 0)]) (pc' := 57) (L' := [some (.ref 0), some (.int a0), some (.int a1), some (.int r1006)]) (st' := [.ref 1]) (w' := (cX tr kp th ot tp sl pk rf ik)) (by decide +kernel) rfl trivial ?_
          obtain ⟨r1011, h_1011, hf⟩ := bnd_s hf
          refine m_cV0 M (rest := []) (w2 := (cX tr kp th ot tp sl pk rf ik)) (st2 := [.int r1011]) (run_X1_isStuck    tr h_1011) cv_X1_isStuck lk_X3_187 (by decide +kernel) [1, 2, 3, 4, 5, 6] (by decide) ⟨Nat.le_of_ble_eq_true rfl, Nat.le_of_ble_eq_true rfl⟩ (hw_3  tr kp th ot tp sl pk rf ik) rfl rfl (Nat.le_of_ble_eq_true rfl) ⟨by decide, by decide⟩ rfl rfl ⟨Nat.zero_le _, Nat.zero_le _⟩ (hp_3  tr kp th ot tp sl pk rf ik tr) rfl ?_
          rcases ite_s hf with ⟨c_1012, hf⟩ | ⟨c_1012, hf⟩
          · refine m_jT M (i := .ifCond .eq 8) 68 (by decide +kernel) rfl (by decide) c_1012 ?_
            refine m_run M (is := [(68, .iconst 0, 0)]) (pc' := 69) (L' := [some (.ref 0), some (.int a0), some (.int a1), some (.int r1006)]) (st' := [.int 0]) (w' := (cX tr kp th ot tp sl pk rf ik)) (by decide +kernel) rfl trivial ?_
            obtain rfl := Option.some.inj hf
            exact m_iret K (by decide +kernel) (Nat.zero_le _) (Nat.zero_le _) ⟨rfl, rfl⟩
          · refine m_jF M (i := .ifCond .eq 8) 68 (by decide +kernel) rfl (by decide) c_1012 ?_
            refine m_run M (is := [(63, .bipush (-5), -5), (65, .goto 4, 0)]) (pc' := 69) (L' := [some (.ref 0), some (.int a0), some (.int a1), some (.int r1006)]) (st' := [.int (-5)]) (w' := (cX tr kp th ot tp sl pk rf ik)) (by decide +kernel) rfl trivial ?_
            obtain rfl := Option.some.inj hf
            exact m_iret K (by decide +kernel) (Nat.zero_le _) (Nat.zero_le _) ⟨rfl, rfl⟩
      · refine m_jF M (i := .ifCond .eq 5) 36 (by decide +kernel) rfl (by decide) c_1007 ?_
        refine m_run M (is := [(34, .iload_n 3, 0)]) (pc' := 35) (L' := [some (.ref 0), some (.int a0), some (.int a1), some (.int r1006)]) (st' := [.int r1006]) (w' := (cX tr kp th ot tp sl pk rf ik)) (by decide +kernel) rfl trivial ?_
        obtain rfl := Option.some.inj hf
        exact m_iret K (by decide +kernel) (Nat.zero_le _) (Nat.zero_le _) ⟨rfl, rfl⟩

