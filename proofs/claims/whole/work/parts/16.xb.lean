/-! ===== written by wip/whole/drive.py ===== -/
def f_X0_isOtherRowThan_x (i j : Nat) (sl : (Nat → SlT)) : Option (Int32) :=
  (f_X0_holdsRow (sl i)).bind fun r1001 =>
  if r1001 = 0 then
    some 0
  else
    (f_X0_holdsRow (sl j)).bind fun r1003 =>
    if r1003 = 0 then
      some 0
    else
      if ((sl i).2.1) = ((sl j).2.1) then
        some 0
      else
        some 1
set_option maxRecDepth 100000 in
set_option maxHeartbeats 4000000 in
theorem run_X0_isOtherRowThan_x {l : Launch} {D : va_G} {cT : Nat → ClassId}  (i j : Nat) (hi : i < 8) (hj : j < 8) (tr : ShT) (kp : ShT) (th : ShT) (ot : ShT) (tp : TpT) (sl : (Nat → SlT)) (pk : AI) (rf : AI) (ik : Int32) {r : Int32} (hf : f_X0_isOtherRowThan_x i j sl = some r) : Runs l D cT yX0_isOtherRowThan cX0_isOtherRowThan 2 (some .boolean) 1 20 [.ref (30 + 2 * i), .ref (30 + 2 * j)] (cX tr kp th ot tp sl pk rf ik) (EQ (some (.int r)) (cX tr kp th ot tp sl pk rf ik)) := by
  refine runs_of O_X0 okO_X0 (by decide +kernel) rfl rfl (Nat.le_of_ble_eq_true rfl) (Nat.le_of_ble_eq_true rfl) (fun g K => ?_)
  have M := K.b
  show g 0 0 (cX tr kp th ot tp sl pk rf ik) 0 [some (.ref (30 + 2 * i)), some (.ref (30 + 2 * j))] []
  rw [f_X0_isOtherRowThan_x] at hf
  refine m_run M (is := [(0, .aload_n 0, 0)]) (pc' := 1) (L' := [some (.ref (30 + 2 * i)), some (.ref (30 + 2 * j))]) (st' := [.ref (30 + 2 * i)]) (w' := (cX tr kp th ot tp sl pk rf ik)) (by decide +kernel) rfl trivial ?_
  obtain ⟨r1001, h_1001, hf⟩ := bnd_s hf
  refine m_cV0 M (rest := []) (w2 := (cX tr kp th ot tp sl pk rf ik)) (st2 := [.int r1001]) (run_X0_holdsRow    (sl i) h_1001) cv_X0_holdsRow lk_X0_22 (by decide +kernel) [30 + 2 * i, 31 + 2 * i] (by simp) ⟨Nat.le_of_ble_eq_true rfl, Nat.le_of_ble_eq_true rfl⟩ (hw_2  hi tr kp th ot tp sl pk rf ik) rfl rfl (Nat.le_of_ble_eq_true rfl) ⟨by decide, by decide⟩ rfl rfl ⟨Nat.zero_le _, Nat.zero_le _⟩ (by have z := (hp_2  hi tr kp th ot tp sl pk rf ik (sl i)); first | exact z | (simp only [va_up_id] at z; exact z)) rfl ?_
  rcases ite_s hf with ⟨c_1002, hf⟩ | ⟨c_1002, hf⟩
  · refine m_jT M (i := .ifCond .eq 25) 29 (by decide +kernel) rfl (by decide) c_1002 ?_
    refine m_run M (is := [(29, .iconst 0, 0)]) (pc' := 30) (L' := [some (.ref (30 + 2 * i)), some (.ref (30 + 2 * j))]) (st' := [.int 0]) (w' := (cX tr kp th ot tp sl pk rf ik)) (by decide +kernel) rfl trivial ?_
    obtain rfl := Option.some.inj hf
    exact m_zret K (by decide +kernel) (Or.inl rfl) (Nat.zero_le _) (Nat.zero_le _) ⟨rfl, rfl⟩
  · refine m_jF M (i := .ifCond .eq 25) 29 (by decide +kernel) rfl (by decide) c_1002 ?_
    refine m_run M (is := [(7, .aload_n 1, 0)]) (pc' := 8) (L' := [some (.ref (30 + 2 * i)), some (.ref (30 + 2 * j))]) (st' := [.ref (30 + 2 * j)]) (w' := (cX tr kp th ot tp sl pk rf ik)) (by decide +kernel) rfl trivial ?_
    obtain ⟨r1003, h_1003, hf⟩ := bnd_s hf
    refine m_cV0 M (rest := []) (w2 := (cX tr kp th ot tp sl pk rf ik)) (st2 := [.int r1003]) (run_X0_holdsRow    (sl j) h_1003) cv_X0_holdsRow lk_X0_22 (by decide +kernel) [30 + 2 * j, 31 + 2 * j] (by simp) ⟨Nat.le_of_ble_eq_true rfl, Nat.le_of_ble_eq_true rfl⟩ (hw_2  hj tr kp th ot tp sl pk rf ik) rfl rfl (Nat.le_of_ble_eq_true rfl) ⟨by decide, by decide⟩ rfl rfl ⟨Nat.zero_le _, Nat.zero_le _⟩ (by have z := (hp_2  hj tr kp th ot tp sl pk rf ik (sl j)); first | exact z | (simp only [va_up_id] at z; exact z)) rfl ?_
    rcases ite_s hf with ⟨c_1004, hf⟩ | ⟨c_1004, hf⟩
    · refine m_jT M (i := .ifCond .eq 18) 29 (by decide +kernel) rfl (by decide) c_1004 ?_
      refine m_run M (is := [(29, .iconst 0, 0)]) (pc' := 30) (L' := [some (.ref (30 + 2 * i)), some (.ref (30 + 2 * j))]) (st' := [.int 0]) (w' := (cX tr kp th ot tp sl pk rf ik)) (by decide +kernel) rfl trivial ?_
      obtain rfl := Option.some.inj hf
      exact m_zret K (by decide +kernel) (Or.inl rfl) (Nat.zero_le _) (Nat.zero_le _) ⟨rfl, rfl⟩
    · refine m_jF M (i := .ifCond .eq 18) 29 (by decide +kernel) rfl (by decide) c_1004 ?_
      refine m_run M (is := [(14, .aload_n 0, 0)]) (pc' := 15) (L' := [some (.ref (30 + 2 * i)), some (.ref (30 + 2 * j))]) (st' := [.ref (30 + 2 * i)]) (w' := (cX tr kp th ot tp sl pk rf ik)) (by decide +kernel) rfl trivial ?_
      refine m_run M (is := [(15, .getfield 15, 0)]) (pc' := 18) (L' := [some (.ref (30 + 2 * i)), some (.ref (30 + 2 * j))]) (st' := [.int ((sl i).2.1)]) (w' := (cX tr kp th ot tp sl pk rf ik)) (by decide +kernel) (s_getf (wX_so hi tr kp th ot tp sl pk rf ik) rfl rfl) trivial ?_
      refine m_run M (is := [(18, .aload_n 1, 0)]) (pc' := 19) (L' := [some (.ref (30 + 2 * i)), some (.ref (30 + 2 * j))]) (st' := [.ref (30 + 2 * j), .int ((sl i).2.1)]) (w' := (cX tr kp th ot tp sl pk rf ik)) (by decide +kernel) rfl trivial ?_
      refine m_run M (is := [(19, .getfield 15, 0)]) (pc' := 22) (L' := [some (.ref (30 + 2 * i)), some (.ref (30 + 2 * j))]) (st' := [.int ((sl j).2.1), .int ((sl i).2.1)]) (w' := (cX tr kp th ot tp sl pk rf ik)) (by decide +kernel) (s_getf (wX_so hj tr kp th ot tp sl pk rf ik) rfl rfl) trivial ?_
      rcases ite_s hf with ⟨c_1005, hf⟩ | ⟨c_1005, hf⟩
      · refine m_jT M (i := .if_icmp .eq 7) 29 (by decide +kernel) rfl (by decide) c_1005 ?_
        refine m_run M (is := [(29, .iconst 0, 0)]) (pc' := 30) (L' := [some (.ref (30 + 2 * i)), some (.ref (30 + 2 * j))]) (st' := [.int 0]) (w' := (cX tr kp th ot tp sl pk rf ik)) (by decide +kernel) rfl trivial ?_
        obtain rfl := Option.some.inj hf
        exact m_zret K (by decide +kernel) (Or.inl rfl) (Nat.zero_le _) (Nat.zero_le _) ⟨rfl, rfl⟩
      · refine m_jF M (i := .if_icmp .eq 7) 29 (by decide +kernel) rfl (by decide) c_1005 ?_
        refine m_run M (is := [(25, .iconst 1, 1), (26, .goto 4, 0)]) (pc' := 30) (L' := [some (.ref (30 + 2 * i)), some (.ref (30 + 2 * j))]) (st' := [.int 1]) (w' := (cX tr kp th ot tp sl pk rf ik)) (by decide +kernel) rfl trivial ?_
        obtain rfl := Option.some.inj hf
        exact m_zret K (by decide +kernel) (Or.inr rfl) (Nat.zero_le _) (Nat.zero_le _) ⟨rfl, rfl⟩

def f_X3_row (a0 : Int32) (a1 : Int32) (a2 : Int32) (sl : (Nat → SlT)) (rf : AI) : Option (Int32 × (Nat → SlT) × AI) :=
  (f_X3_isShelf a0).bind fun r1001 =>
  if r1001 = 0 then
    (f_X3_refuse (-2) rf).bind fun r1003 =>
    some (r1003.1, sl, r1003.2)
  else
    (f_X3_isBetween a1 0 4).bind fun r1004 =>
    if r1004 = 0 then
      (f_X3_refuse (-2) rf).bind fun r1006 =>
      some (r1006.1, sl, r1006.2)
    else
      (f_X3_isBetween a2 0 40).bind fun r1007 =>
      if r1007 = 0 then
        (f_X3_refuse (-2) rf).bind fun r1009 =>
        some (r1009.1, sl, r1009.2)
      else
        if inB a0 8 then
        (f_X0_holdRow a1 a2 (sl a0.toNatClampNeg)).bind fun r1011 =>
        some (1, (va_up sl a0.toNatClampNeg r1011), rf)
        else none
set_option maxRecDepth 100000 in
set_option maxHeartbeats 4000000 in
theorem run_X3_row {l : Launch} {D : va_G} {cT : Nat → ClassId} (a0 : Int32) (a1 : Int32) (a2 : Int32)   (tr : ShT) (kp : ShT) (th : ShT) (ot : ShT) (tp : TpT) (sl : (Nat → SlT)) (pk : AI) (rf : AI) (ik : Int32) {r : Int32 × (Nat → SlT) × AI} (hf : f_X3_row a0 a1 a2 sl rf = some r) : Runs l D cT yX3_row cX3_row 4 (some .int) 2 46 [.ref 0, .int a0, .int a1, .int a2] (cX tr kp th ot tp sl pk rf ik) (EQ (some (.int r.1)) (cX tr kp th ot tp r.2.1 pk r.2.2 ik)) := by
  refine runs_of O_X3 okO_X3 (by decide +kernel) rfl rfl (Nat.le_of_ble_eq_true rfl) (Nat.le_of_ble_eq_true rfl) (fun g K => ?_)
  have M := K.b
  show g 0 0 (cX tr kp th ot tp sl pk rf ik) 0 [some (.ref 0), some (.int a0), some (.int a1), some (.int a2)] []
  rw [f_X3_row] at hf
  refine m_run M (is := [(0, .iload_n 1, 0)]) (pc' := 1) (L' := [some (.ref 0), some (.int a0), some (.int a1), some (.int a2)]) (st' := [.int a0]) (w' := (cX tr kp th ot tp sl pk rf ik)) (by decide +kernel) rfl trivial ?_
  obtain ⟨r1001, h_1001, hf⟩ := bnd_s hf
  refine m_cS0 M (rest := []) (w2 := (cX tr kp th ot tp sl pk rf ik)) (st2 := [.int r1001]) (run_X3_isShelf a0    h_1001) cs_X3_isShelf lk_X3_46 (by decide +kernel) [] (by decide) ⟨Nat.le_of_ble_eq_true rfl, Nat.le_of_ble_eq_true rfl⟩ rfl rfl (Nat.le_of_ble_eq_true rfl) ⟨by decide, by decide⟩ rfl rfl ⟨Nat.zero_le _, Nat.zero_le _⟩ rfl rfl ?_
  rcases ite_s hf with ⟨c_1002, hf⟩ | ⟨c_1002, hf⟩
  · refine m_jT M (i := .ifCond .eq 22) 26 (by decide +kernel) rfl (by decide) c_1002 ?_
    refine m_run M (is := [(26, .aload_n 0, 0), (27, .bipush (-2), -2)]) (pc' := 29) (L' := [some (.ref 0), some (.int a0), some (.int a1), some (.int a2)]) (st' := [.int (-2), .ref 0]) (w' := (cX tr kp th ot tp sl pk rf ik)) (by decide +kernel) rfl trivial ?_
    obtain ⟨r1003, h_1003, hf⟩ := bnd_s hf
    refine m_cV0 M (rest := []) (w2 := (cX tr kp th ot tp sl pk r1003.2 ik)) (st2 := [.int r1003.1]) (run_X3_refuse (-2)   tr kp th ot tp sl pk rf ik h_1003) cv_X3_refuse lk_X3_54 (by decide +kernel) (List.range 46) List.nodup_range ⟨(by rw [List.length_range]; exact Nat.le_refl _), Nat.le_of_ble_eq_true rfl⟩ (hwId rfl) rfl rfl (Nat.le_of_ble_eq_true rfl) ⟨by decide, by decide⟩ rfl rfl ⟨Nat.zero_le _, Nat.zero_le _⟩ (hpId rfl rfl) rfl ?_
    obtain rfl := Option.some.inj hf
    exact m_iret K (by decide +kernel) (Nat.zero_le _) (Nat.zero_le _) ⟨rfl, rfl⟩
  · refine m_jF M (i := .ifCond .eq 22) 26 (by decide +kernel) rfl (by decide) c_1002 ?_
    refine m_run M (is := [(7, .iload_n 2, 0), (8, .iconst 0, 0), (9, .iconst 4, 4)]) (pc' := 10) (L' := [some (.ref 0), some (.int a0), some (.int a1), some (.int a2)]) (st' := [.int 4, .int 0, .int a1]) (w' := (cX tr kp th ot tp sl pk rf ik)) (by decide +kernel) rfl trivial ?_
    obtain ⟨r1004, h_1004, hf⟩ := bnd_s hf
    refine m_cS0 M (rest := []) (w2 := (cX tr kp th ot tp sl pk rf ik)) (st2 := [.int r1004]) (run_X3_isBetween a1 0 4    h_1004) cs_X3_isBetween lk_X3_50 (by decide +kernel) [] (by decide) ⟨Nat.le_of_ble_eq_true rfl, Nat.le_of_ble_eq_true rfl⟩ rfl rfl (Nat.le_of_ble_eq_true rfl) ⟨by decide, by decide⟩ rfl rfl ⟨Nat.zero_le _, Nat.zero_le _⟩ rfl rfl ?_
    rcases ite_s hf with ⟨c_1005, hf⟩ | ⟨c_1005, hf⟩
    · refine m_jT M (i := .ifCond .eq 13) 26 (by decide +kernel) rfl (by decide) c_1005 ?_
      refine m_run M (is := [(26, .aload_n 0, 0), (27, .bipush (-2), -2)]) (pc' := 29) (L' := [some (.ref 0), some (.int a0), some (.int a1), some (.int a2)]) (st' := [.int (-2), .ref 0]) (w' := (cX tr kp th ot tp sl pk rf ik)) (by decide +kernel) rfl trivial ?_
      obtain ⟨r1006, h_1006, hf⟩ := bnd_s hf
      refine m_cV0 M (rest := []) (w2 := (cX tr kp th ot tp sl pk r1006.2 ik)) (st2 := [.int r1006.1]) (run_X3_refuse (-2)   tr kp th ot tp sl pk rf ik h_1006) cv_X3_refuse lk_X3_54 (by decide +kernel) (List.range 46) List.nodup_range ⟨(by rw [List.length_range]; exact Nat.le_refl _), Nat.le_of_ble_eq_true rfl⟩ (hwId rfl) rfl rfl (Nat.le_of_ble_eq_true rfl) ⟨by decide, by decide⟩ rfl rfl ⟨Nat.zero_le _, Nat.zero_le _⟩ (hpId rfl rfl) rfl ?_
      obtain rfl := Option.some.inj hf
      exact m_iret K (by decide +kernel) (Nat.zero_le _) (Nat.zero_le _) ⟨rfl, rfl⟩
    · refine m_jF M (i := .ifCond .eq 13) 26 (by decide +kernel) rfl (by decide) c_1005 ?_
      refine m_run M (is := [(16, .iload_n 3, 0), (17, .iconst 0, 0), (18, .bipush 40, 40)]) (pc' := 20) (L' := [some (.ref 0), some (.int a0), some (.int a1), some (.int a2)]) (st' := [.int 40, .int 0, .int a2]) (w' := (cX tr kp th ot tp sl pk rf ik)) (by decide +kernel) rfl trivial ?_
      obtain ⟨r1007, h_1007, hf⟩ := bnd_s hf
      refine m_cS0 M (rest := []) (w2 := (cX tr kp th ot tp sl pk rf ik)) (st2 := [.int r1007]) (run_X3_isBetween a2 0 40    h_1007) cs_X3_isBetween lk_X3_50 (by decide +kernel) [] (by decide) ⟨Nat.le_of_ble_eq_true rfl, Nat.le_of_ble_eq_true rfl⟩ rfl rfl (Nat.le_of_ble_eq_true rfl) ⟨by decide, by decide⟩ rfl rfl ⟨Nat.zero_le _, Nat.zero_le _⟩ rfl rfl ?_
      rcases ite_s hf with ⟨c_1008, hf⟩ | ⟨c_1008, hf⟩
      · refine m_jF M (i := .ifCond .ne 10) 33 (by decide +kernel) rfl (by decide) (fun n => n c_1008) ?_
        refine m_run M (is := [(26, .aload_n 0, 0), (27, .bipush (-2), -2)]) (pc' := 29) (L' := [some (.ref 0), some (.int a0), some (.int a1), some (.int a2)]) (st' := [.int (-2), .ref 0]) (w' := (cX tr kp th ot tp sl pk rf ik)) (by decide +kernel) rfl trivial ?_
        obtain ⟨r1009, h_1009, hf⟩ := bnd_s hf
        refine m_cV0 M (rest := []) (w2 := (cX tr kp th ot tp sl pk r1009.2 ik)) (st2 := [.int r1009.1]) (run_X3_refuse (-2)   tr kp th ot tp sl pk rf ik h_1009) cv_X3_refuse lk_X3_54 (by decide +kernel) (List.range 46) List.nodup_range ⟨(by rw [List.length_range]; exact Nat.le_refl _), Nat.le_of_ble_eq_true rfl⟩ (hwId rfl) rfl rfl (Nat.le_of_ble_eq_true rfl) ⟨by decide, by decide⟩ rfl rfl ⟨Nat.zero_le _, Nat.zero_le _⟩ (hpId rfl rfl) rfl ?_
        obtain rfl := Option.some.inj hf
        exact m_iret K (by decide +kernel) (Nat.zero_le _) (Nat.zero_le _) ⟨rfl, rfl⟩
      · refine m_jT M (i := .ifCond .ne 10) 33 (by decide +kernel) rfl (by decide) c_1008 ?_
        obtain ⟨h_1010, hf⟩ := grd_s hf
        refine m_run M (is := [(33, .aload_n 0, 0), (34, .getfield 34, 0), (37, .iload_n 1, 0)]) (pc' := 38) (L' := [some (.ref 0), some (.int a0), some (.int a1), some (.int a2)]) (st' := [.int a0, .ref 27]) (w' := (cX tr kp th ot tp sl pk rf ik)) (by decide +kernel) rfl trivial ?_
        refine m_run M (is := [(38, .aaload, 0)]) (pc' := 39) (L' := [some (.ref 0), some (.int a0), some (.int a1), some (.int a2)]) (st' := [.ref (30 + 2 * a0.toNatClampNeg)]) (w' := (cX tr kp th ot tp sl pk rf ik)) (by decide +kernel) (s_aald rfl rfl (fX_30 (inB_lt h_1010))) ⟨inB_use h_1010, trivial⟩ ?_
        refine m_run M (is := [(39, .iload_n 2, 0), (40, .iload_n 3, 0)]) (pc' := 41) (L' := [some (.ref 0), some (.int a0), some (.int a1), some (.int a2)]) (st' := [.int a2, .int a1, .ref (30 + 2 * a0.toNatClampNeg)]) (w' := (cX tr kp th ot tp sl pk rf ik)) (by decide +kernel) rfl trivial ?_
        obtain ⟨r1011, h_1011, hf⟩ := bnd_s hf
        refine m_cV0 M (rest := []) (w2 := (cX tr kp th ot tp (va_up sl a0.toNatClampNeg r1011) pk rf ik)) (st2 := []) (run_X0_holdRow a1 a2   (sl a0.toNatClampNeg) h_1011) cv_X0_holdRow lk_X3_58 (by decide +kernel) [30 + 2 * a0.toNatClampNeg, 31 + 2 * a0.toNatClampNeg] (by simp) ⟨Nat.le_of_ble_eq_true rfl, Nat.le_of_ble_eq_true rfl⟩ (hw_2  (inB_lt h_1010) tr kp th ot tp sl pk rf ik) rfl rfl (Nat.le_of_ble_eq_true rfl) ⟨by decide, by decide⟩ rfl rfl ⟨Nat.zero_le _, Nat.zero_le _⟩ (hp_2  (inB_lt h_1010) tr kp th ot tp sl pk rf ik r1011) rfl ?_
        refine m_run M (is := [(44, .iconst 1, 1)]) (pc' := 45) (L' := [some (.ref 0), some (.int a0), some (.int a1), some (.int a2)]) (st' := [.int 1]) (w' := (cX tr kp th ot tp (va_up sl a0.toNatClampNeg r1011) pk rf ik)) (by decide +kernel) rfl trivial ?_
        obtain rfl := Option.some.inj hf
        exact m_iret K (by decide +kernel) (Nat.zero_le _) (Nat.zero_le _) ⟨rfl, rfl⟩

def f_X3_set (a0 : Int32) (a1 : Int32) (a2 : Int64) (sl : (Nat → SlT)) (rf : AI) : Option (Int32 × (Nat → SlT) × AI) :=
  (f_X3_isShelf a0).bind fun r1001 =>
  if r1001 = 0 then
    (f_X3_refuse (-2) rf).bind fun r1003 =>
    some (r1003.1, sl, r1003.2)
  else
    if inB a0 8 then
    (f_X0_refusalOfRow (sl a0.toNatClampNeg)).bind fun r1005 =>
    if r1005 = 0 then
      if inB a0 8 then
      (f_X0_hasPart a1 1 (sl a0.toNatClampNeg)).bind fun r1008 =>
      if r1008 = 0 then
        (f_X3_refuse (-2) rf).bind fun r1010 =>
        some (r1010.1, sl, r1010.2)
      else
        if inB a0 8 then
        (f_X0_put a1 a2 (sl a0.toNatClampNeg)).bind fun r1012 =>
        some (1, (va_up sl a0.toNatClampNeg r1012), rf)
        else none
      else none
    else
      (f_X3_refuse r1005 rf).bind fun r1013 =>
      some (r1013.1, sl, r1013.2)
    else none
set_option maxRecDepth 100000 in
set_option maxHeartbeats 4000000 in
theorem run_X3_set {l : Launch} {D : va_G} {cT : Nat → ClassId} (a0 : Int32) (a1 : Int32) (a2 : Int64)   (tr : ShT) (kp : ShT) (th : ShT) (ot : ShT) (tp : TpT) (sl : (Nat → SlT)) (pk : AI) (rf : AI) (ik : Int32) {r : Int32 × (Nat → SlT) × AI} (hf : f_X3_set a0 a1 a2 sl rf = some r) : Runs l D cT yX3_set cX3_set 6 (some .int) 2 45 [.ref 0, .int a0, .int a1, .long a2] (cX tr kp th ot tp sl pk rf ik) (EQ (some (.int r.1)) (cX tr kp th ot tp r.2.1 pk r.2.2 ik)) := by
  refine runs_of O_X3 okO_X3 (by decide +kernel) rfl rfl (Nat.le_of_ble_eq_true rfl) (Nat.le_of_ble_eq_true rfl) (fun g K => ?_)
  have M := K.b
  show g 0 0 (cX tr kp th ot tp sl pk rf ik) 0 [some (.ref 0), some (.int a0), some (.int a1), some (.long a2), none, none] []
  rw [f_X3_set] at hf
  refine m_run M (is := [(0, .iload_n 1, 0)]) (pc' := 1) (L' := [some (.ref 0), some (.int a0), some (.int a1), some (.long a2), none, none]) (st' := [.int a0]) (w' := (cX tr kp th ot tp sl pk rf ik)) (by decide +kernel) rfl trivial ?_
  obtain ⟨r1001, h_1001, hf⟩ := bnd_s hf
  refine m_cS0 M (rest := []) (w2 := (cX tr kp th ot tp sl pk rf ik)) (st2 := [.int r1001]) (run_X3_isShelf a0    h_1001) cs_X3_isShelf lk_X3_46 (by decide +kernel) [] (by decide) ⟨Nat.le_of_ble_eq_true rfl, Nat.le_of_ble_eq_true rfl⟩ rfl rfl (Nat.le_of_ble_eq_true rfl) ⟨by decide, by decide⟩ rfl rfl ⟨Nat.zero_le _, Nat.zero_le _⟩ rfl rfl ?_
  rcases ite_s hf with ⟨c_1002, hf⟩ | ⟨c_1002, hf⟩
  · refine m_jF M (i := .ifCond .ne 10) 14 (by decide +kernel) rfl (by decide) (fun n => n c_1002) ?_
    refine m_run M (is := [(7, .aload_n 0, 0), (8, .bipush (-2), -2)]) (pc' := 10) (L' := [some (.ref 0), some (.int a0), some (.int a1), some (.long a2), none, none]) (st' := [.int (-2), .ref 0]) (w' := (cX tr kp th ot tp sl pk rf ik)) (by decide +kernel) rfl trivial ?_
    obtain ⟨r1003, h_1003, hf⟩ := bnd_s hf
    refine m_cV0 M (rest := []) (w2 := (cX tr kp th ot tp sl pk r1003.2 ik)) (st2 := [.int r1003.1]) (run_X3_refuse (-2)   tr kp th ot tp sl pk rf ik h_1003) cv_X3_refuse lk_X3_54 (by decide +kernel) (List.range 46) List.nodup_range ⟨(by rw [List.length_range]; exact Nat.le_refl _), Nat.le_of_ble_eq_true rfl⟩ (hwId rfl) rfl rfl (Nat.le_of_ble_eq_true rfl) ⟨by decide, by decide⟩ rfl rfl ⟨Nat.zero_le _, Nat.zero_le _⟩ (hpId rfl rfl) rfl ?_
    obtain rfl := Option.some.inj hf
    exact m_iret K (by decide +kernel) (Nat.zero_le _) (Nat.zero_le _) ⟨rfl, rfl⟩
  · refine m_jT M (i := .ifCond .ne 10) 14 (by decide +kernel) rfl (by decide) c_1002 ?_
    obtain ⟨h_1004, hf⟩ := grd_s hf
    refine m_run M (is := [(14, .aload_n 0, 0), (15, .getfield 34, 0), (18, .iload_n 1, 0)]) (pc' := 19) (L' := [some (.ref 0), some (.int a0), some (.int a1), some (.long a2), none, none]) (st' := [.int a0, .ref 27]) (w' := (cX tr kp th ot tp sl pk rf ik)) (by decide +kernel) rfl trivial ?_
    refine m_run M (is := [(19, .aaload, 0)]) (pc' := 20) (L' := [some (.ref 0), some (.int a0), some (.int a1), some (.long a2), none, none]) (st' := [.ref (30 + 2 * a0.toNatClampNeg)]) (w' := (cX tr kp th ot tp sl pk rf ik)) (by decide +kernel) (s_aald rfl rfl (fX_30 (inB_lt h_1004))) ⟨inB_use h_1004, trivial⟩ ?_
    obtain ⟨r1005, h_1005, hf⟩ := bnd_s hf
    refine m_cV0 M (rest := []) (w2 := (cX tr kp th ot tp sl pk rf ik)) (st2 := [.int r1005]) (run_X0_refusalOfRow    (sl a0.toNatClampNeg) h_1005) cv_X0_refusalOfRow lk_X3_62 (by decide +kernel) [30 + 2 * a0.toNatClampNeg, 31 + 2 * a0.toNatClampNeg] (by simp) ⟨Nat.le_of_ble_eq_true rfl, Nat.le_of_ble_eq_true rfl⟩ (hw_2  (inB_lt h_1004) tr kp th ot tp sl pk rf ik) rfl rfl (Nat.le_of_ble_eq_true rfl) ⟨by decide, by decide⟩ rfl rfl ⟨Nat.zero_le _, Nat.zero_le _⟩ (by have z := (hp_2  (inB_lt h_1004) tr kp th ot tp sl pk rf ik (sl a0.toNatClampNeg)); first | exact z | (simp only [va_up_id] at z; exact z)) rfl ?_
    refine m_run M (is := [(23, .istore 5, 0), (25, .iload 5, 0)]) (pc' := 27) (L' := [some (.ref 0), some (.int a0), some (.int a1), some (.long a2), none, some (.int r1005)]) (st' := [.int r1005]) (w' := (cX tr kp th ot tp sl pk rf ik)) (by decide +kernel) rfl trivial ?_
    rcases ite_s hf with ⟨c_1006, hf⟩ | ⟨c_1006, hf⟩
    · refine m_jT M (i := .ifCond .eq 10) 37 (by decide +kernel) rfl (by decide) c_1006 ?_
      obtain ⟨h_1007, hf⟩ := grd_s hf
      refine m_run M (is := [(37, .aload_n 0, 0), (38, .getfield 34, 0), (41, .iload_n 1, 0)]) (pc' := 42) (L' := [some (.ref 0), some (.int a0), some (.int a1), some (.long a2), none, some (.int r1005)]) (st' := [.int a0, .ref 27]) (w' := (cX tr kp th ot tp sl pk rf ik)) (by decide +kernel) rfl trivial ?_
      refine m_run M (is := [(42, .aaload, 0)]) (pc' := 43) (L' := [some (.ref 0), some (.int a0), some (.int a1), some (.long a2), none, some (.int r1005)]) (st' := [.ref (30 + 2 * a0.toNatClampNeg)]) (w' := (cX tr kp th ot tp sl pk rf ik)) (by decide +kernel) (s_aald rfl rfl (fX_30 (inB_lt h_1007))) ⟨inB_use h_1007, trivial⟩ ?_
      refine m_run M (is := [(43, .iload_n 2, 0), (44, .iconst 1, 1)]) (pc' := 45) (L' := [some (.ref 0), some (.int a0), some (.int a1), some (.long a2), none, some (.int r1005)]) (st' := [.int 1, .int a1, .ref (30 + 2 * a0.toNatClampNeg)]) (w' := (cX tr kp th ot tp sl pk rf ik)) (by decide +kernel) rfl trivial ?_
      obtain ⟨r1008, h_1008, hf⟩ := bnd_s hf
      refine m_cV0 M (rest := []) (w2 := (cX tr kp th ot tp sl pk rf ik)) (st2 := [.int r1008]) (run_X0_hasPart a1 1   (sl a0.toNatClampNeg) h_1008) cv_X0_hasPart lk_X3_66 (by decide +kernel) [30 + 2 * a0.toNatClampNeg, 31 + 2 * a0.toNatClampNeg] (by simp) ⟨Nat.le_of_ble_eq_true rfl, Nat.le_of_ble_eq_true rfl⟩ (hw_2  (inB_lt h_1007) tr kp th ot tp sl pk rf ik) rfl rfl (Nat.le_of_ble_eq_true rfl) ⟨by decide, by decide⟩ rfl rfl ⟨Nat.zero_le _, Nat.zero_le _⟩ (by have z := (hp_2  (inB_lt h_1007) tr kp th ot tp sl pk rf ik (sl a0.toNatClampNeg)); first | exact z | (simp only [va_up_id] at z; exact z)) rfl ?_
      rcases ite_s hf with ⟨c_1009, hf⟩ | ⟨c_1009, hf⟩
      · refine m_jF M (i := .ifCond .ne 10) 58 (by decide +kernel) rfl (by decide) (fun n => n c_1009) ?_
        refine m_run M (is := [(51, .aload_n 0, 0), (52, .bipush (-2), -2)]) (pc' := 54) (L' := [some (.ref 0), some (.int a0), some (.int a1), some (.long a2), none, some (.int r1005)]) (st' := [.int (-2), .ref 0]) (w' := (cX tr kp th ot tp sl pk rf ik)) (by decide +kernel) rfl trivial ?_
        obtain ⟨r1010, h_1010, hf⟩ := bnd_s hf
        refine m_cV0 M (rest := []) (w2 := (cX tr kp th ot tp sl pk r1010.2 ik)) (st2 := [.int r1010.1]) (run_X3_refuse (-2)   tr kp th ot tp sl pk rf ik h_1010) cv_X3_refuse lk_X3_54 (by decide +kernel) (List.range 46) List.nodup_range ⟨(by rw [List.length_range]; exact Nat.le_refl _), Nat.le_of_ble_eq_true rfl⟩ (hwId rfl) rfl rfl (Nat.le_of_ble_eq_true rfl) ⟨by decide, by decide⟩ rfl rfl ⟨Nat.zero_le _, Nat.zero_le _⟩ (hpId rfl rfl) rfl ?_
        obtain rfl := Option.some.inj hf
        exact m_iret K (by decide +kernel) (Nat.zero_le _) (Nat.zero_le _) ⟨rfl, rfl⟩
      · refine m_jT M (i := .ifCond .ne 10) 58 (by decide +kernel) rfl (by decide) c_1009 ?_
        obtain ⟨h_1011, hf⟩ := grd_s hf
        refine m_run M (is := [(58, .aload_n 0, 0), (59, .getfield 34, 0), (62, .iload_n 1, 0)]) (pc' := 63) (L' := [some (.ref 0), some (.int a0), some (.int a1), some (.long a2), none, some (.int r1005)]) (st' := [.int a0, .ref 27]) (w' := (cX tr kp th ot tp sl pk rf ik)) (by decide +kernel) rfl trivial ?_
        refine m_run M (is := [(63, .aaload, 0)]) (pc' := 64) (L' := [some (.ref 0), some (.int a0), some (.int a1), some (.long a2), none, some (.int r1005)]) (st' := [.ref (30 + 2 * a0.toNatClampNeg)]) (w' := (cX tr kp th ot tp sl pk rf ik)) (by decide +kernel) (s_aald rfl rfl (fX_30 (inB_lt h_1011))) ⟨inB_use h_1011, trivial⟩ ?_
        refine m_run M (is := [(64, .iload_n 2, 0), (65, .lload_n 3, 0)]) (pc' := 66) (L' := [some (.ref 0), some (.int a0), some (.int a1), some (.long a2), none, some (.int r1005)]) (st' := [.long a2, .int a1, .ref (30 + 2 * a0.toNatClampNeg)]) (w' := (cX tr kp th ot tp sl pk rf ik)) (by decide +kernel) rfl trivial ?_
        obtain ⟨r1012, h_1012, hf⟩ := bnd_s hf
        refine m_cV0 M (rest := []) (w2 := (cX tr kp th ot tp (va_up sl a0.toNatClampNeg r1012) pk rf ik)) (st2 := []) (run_X0_put a1 a2   (sl a0.toNatClampNeg) h_1012) cv_X0_put lk_X3_70 (by decide +kernel) [30 + 2 * a0.toNatClampNeg, 31 + 2 * a0.toNatClampNeg] (by simp) ⟨Nat.le_of_ble_eq_true rfl, Nat.le_of_ble_eq_true rfl⟩ (hw_2  (inB_lt h_1011) tr kp th ot tp sl pk rf ik) rfl rfl (Nat.le_of_ble_eq_true rfl) ⟨by decide, by decide⟩ rfl rfl ⟨Nat.zero_le _, Nat.zero_le _⟩ (hp_2  (inB_lt h_1011) tr kp th ot tp sl pk rf ik r1012) rfl ?_
        refine m_run M (is := [(69, .iconst 1, 1)]) (pc' := 70) (L' := [some (.ref 0), some (.int a0), some (.int a1), some (.long a2), none, some (.int r1005)]) (st' := [.int 1]) (w' := (cX tr kp th ot tp (va_up sl a0.toNatClampNeg r1012) pk rf ik)) (by decide +kernel) rfl trivial ?_
        obtain rfl := Option.some.inj hf
        exact m_iret K (by decide +kernel) (Nat.zero_le _) (Nat.zero_le _) ⟨rfl, rfl⟩
    · refine m_jF M (i := .ifCond .eq 10) 37 (by decide +kernel) rfl (by decide) c_1006 ?_
      refine m_run M (is := [(30, .aload_n 0, 0), (31, .iload 5, 0)]) (pc' := 33) (L' := [some (.ref 0), some (.int a0), some (.int a1), some (.long a2), none, some (.int r1005)]) (st' := [.int r1005, .ref 0]) (w' := (cX tr kp th ot tp sl pk rf ik)) (by decide +kernel) rfl trivial ?_
      obtain ⟨r1013, h_1013, hf⟩ := bnd_s hf
      refine m_cV0 M (rest := []) (w2 := (cX tr kp th ot tp sl pk r1013.2 ik)) (st2 := [.int r1013.1]) (run_X3_refuse r1005   tr kp th ot tp sl pk rf ik h_1013) cv_X3_refuse lk_X3_54 (by decide +kernel) (List.range 46) List.nodup_range ⟨(by rw [List.length_range]; exact Nat.le_refl _), Nat.le_of_ble_eq_true rfl⟩ (hwId rfl) rfl rfl (Nat.le_of_ble_eq_true rfl) ⟨by decide, by decide⟩ rfl rfl ⟨Nat.zero_le _, Nat.zero_le _⟩ (hpId rfl rfl) rfl ?_
      obtain rfl := Option.some.inj hf
      exact m_iret K (by decide +kernel) (Nat.zero_le _) (Nat.zero_le _) ⟨rfl, rfl⟩

def f_X3_element (a0 : Int32) (a1 : Int32) (sl : (Nat → SlT)) : Option (Int64) :=
  (f_X3_isShelf a0).bind fun r1001 =>
  if r1001 = 0 then
    some 0
  else
    if inB a0 8 then
    (f_X0_elementAt a1 (sl a0.toNatClampNeg)).bind fun r1004 =>
    some r1004
    else none
set_option maxRecDepth 100000 in
set_option maxHeartbeats 4000000 in
theorem run_X3_element {l : Launch} {D : va_G} {cT : Nat → ClassId} (a0 : Int32) (a1 : Int32)   (tr : ShT) (kp : ShT) (th : ShT) (ot : ShT) (tp : TpT) (sl : (Nat → SlT)) (pk : AI) (rf : AI) (ik : Int32) {r : Int64} (hf : f_X3_element a0 a1 sl = some r) : Runs l D cT yX3_element cX3_element 3 (some .long) 2 43 [.ref 0, .int a0, .int a1] (cX tr kp th ot tp sl pk rf ik) (EQ (some (.long r)) (cX tr kp th ot tp sl pk rf ik)) := by
  refine runs_of O_X3 okO_X3 (by decide +kernel) rfl rfl (Nat.le_of_ble_eq_true rfl) (Nat.le_of_ble_eq_true rfl) (fun g K => ?_)
  have M := K.b
  show g 0 0 (cX tr kp th ot tp sl pk rf ik) 0 [some (.ref 0), some (.int a0), some (.int a1)] []
  rw [f_X3_element] at hf
  refine m_run M (is := [(0, .iload_n 1, 0)]) (pc' := 1) (L' := [some (.ref 0), some (.int a0), some (.int a1)]) (st' := [.int a0]) (w' := (cX tr kp th ot tp sl pk rf ik)) (by decide +kernel) rfl trivial ?_
  obtain ⟨r1001, h_1001, hf⟩ := bnd_s hf
  refine m_cS0 M (rest := []) (w2 := (cX tr kp th ot tp sl pk rf ik)) (st2 := [.int r1001]) (run_X3_isShelf a0    h_1001) cs_X3_isShelf lk_X3_46 (by decide +kernel) [] (by decide) ⟨Nat.le_of_ble_eq_true rfl, Nat.le_of_ble_eq_true rfl⟩ rfl rfl (Nat.le_of_ble_eq_true rfl) ⟨by decide, by decide⟩ rfl rfl ⟨Nat.zero_le _, Nat.zero_le _⟩ rfl rfl ?_
  rcases ite_s hf with ⟨c_1002, hf⟩ | ⟨c_1002, hf⟩
  · refine m_jT M (i := .ifCond .eq 16) 20 (by decide +kernel) rfl (by decide) c_1002 ?_
    refine m_run M (is := [(20, .lconst 0, 0)]) (pc' := 21) (L' := [some (.ref 0), some (.int a0), some (.int a1)]) (st' := [.long 0]) (w' := (cX tr kp th ot tp sl pk rf ik)) (by decide +kernel) rfl trivial ?_
    obtain rfl := Option.some.inj hf
    exact m_lret K (by decide +kernel) (Nat.zero_le _) (Nat.zero_le _) ⟨rfl, rfl⟩
  · refine m_jF M (i := .ifCond .eq 16) 20 (by decide +kernel) rfl (by decide) c_1002 ?_
    obtain ⟨h_1003, hf⟩ := grd_s hf
    refine m_run M (is := [(7, .aload_n 0, 0), (8, .getfield 34, 0), (11, .iload_n 1, 0)]) (pc' := 12) (L' := [some (.ref 0), some (.int a0), some (.int a1)]) (st' := [.int a0, .ref 27]) (w' := (cX tr kp th ot tp sl pk rf ik)) (by decide +kernel) rfl trivial ?_
    refine m_run M (is := [(12, .aaload, 0)]) (pc' := 13) (L' := [some (.ref 0), some (.int a0), some (.int a1)]) (st' := [.ref (30 + 2 * a0.toNatClampNeg)]) (w' := (cX tr kp th ot tp sl pk rf ik)) (by decide +kernel) (s_aald rfl rfl (fX_30 (inB_lt h_1003))) ⟨inB_use h_1003, trivial⟩ ?_
    refine m_run M (is := [(13, .iload_n 2, 0)]) (pc' := 14) (L' := [some (.ref 0), some (.int a0), some (.int a1)]) (st' := [.int a1, .ref (30 + 2 * a0.toNatClampNeg)]) (w' := (cX tr kp th ot tp sl pk rf ik)) (by decide +kernel) rfl trivial ?_
    obtain ⟨r1004, h_1004, hf⟩ := bnd_s hf
    refine m_cV0 M (rest := []) (w2 := (cX tr kp th ot tp sl pk rf ik)) (st2 := [.long r1004]) (run_X0_elementAt a1   (sl a0.toNatClampNeg) h_1004) cv_X0_elementAt lk_X3_95 (by decide +kernel) [30 + 2 * a0.toNatClampNeg, 31 + 2 * a0.toNatClampNeg] (by simp) ⟨Nat.le_of_ble_eq_true rfl, Nat.le_of_ble_eq_true rfl⟩ (hw_2  (inB_lt h_1003) tr kp th ot tp sl pk rf ik) rfl rfl (Nat.le_of_ble_eq_true rfl) ⟨by decide, by decide⟩ rfl rfl ⟨Nat.zero_le _, Nat.zero_le _⟩ (by have z := (hp_2  (inB_lt h_1003) tr kp th ot tp sl pk rf ik (sl a0.toNatClampNeg)); first | exact z | (simp only [va_up_id] at z; exact z)) rfl ?_
    refine m_run M (is := [(17, .goto 4, 0)]) (pc' := 21) (L' := [some (.ref 0), some (.int a0), some (.int a1)]) (st' := [.long r1004]) (w' := (cX tr kp th ot tp sl pk rf ik)) (by decide +kernel) rfl trivial ?_
    obtain rfl := Option.some.inj hf
    exact m_lret K (by decide +kernel) (Nat.zero_le _) (Nat.zero_le _) ⟨rfl, rfl⟩

def f_X3_holds (a0 : Int32) (sl : (Nat → SlT)) : Option (Int32) :=
  (f_X3_isShelf a0).bind fun r1001 =>
  if r1001 = 0 then
    some (-1)
  else
    if inB a0 8 then
    (f_X0_content (sl a0.toNatClampNeg)).bind fun r1004 =>
    some r1004
    else none
set_option maxRecDepth 100000 in
set_option maxHeartbeats 4000000 in
theorem run_X3_holds {l : Launch} {D : va_G} {cT : Nat → ClassId} (a0 : Int32)   (tr : ShT) (kp : ShT) (th : ShT) (ot : ShT) (tp : TpT) (sl : (Nat → SlT)) (pk : AI) (rf : AI) (ik : Int32) {r : Int32} (hf : f_X3_holds a0 sl = some r) : Runs l D cT yX3_holds cX3_holds 2 (some .int) 2 42 [.ref 0, .int a0] (cX tr kp th ot tp sl pk rf ik) (EQ (some (.int r)) (cX tr kp th ot tp sl pk rf ik)) := by
  refine runs_of O_X3 okO_X3 (by decide +kernel) rfl rfl (Nat.le_of_ble_eq_true rfl) (Nat.le_of_ble_eq_true rfl) (fun g K => ?_)
  have M := K.b
  show g 0 0 (cX tr kp th ot tp sl pk rf ik) 0 [some (.ref 0), some (.int a0)] []
  rw [f_X3_holds] at hf
  refine m_run M (is := [(0, .iload_n 1, 0)]) (pc' := 1) (L' := [some (.ref 0), some (.int a0)]) (st' := [.int a0]) (w' := (cX tr kp th ot tp sl pk rf ik)) (by decide +kernel) rfl trivial ?_
  obtain ⟨r1001, h_1001, hf⟩ := bnd_s hf
  refine m_cS0 M (rest := []) (w2 := (cX tr kp th ot tp sl pk rf ik)) (st2 := [.int r1001]) (run_X3_isShelf a0    h_1001) cs_X3_isShelf lk_X3_46 (by decide +kernel) [] (by decide) ⟨Nat.le_of_ble_eq_true rfl, Nat.le_of_ble_eq_true rfl⟩ rfl rfl (Nat.le_of_ble_eq_true rfl) ⟨by decide, by decide⟩ rfl rfl ⟨Nat.zero_le _, Nat.zero_le _⟩ rfl rfl ?_
  rcases ite_s hf with ⟨c_1002, hf⟩ | ⟨c_1002, hf⟩
  · refine m_jT M (i := .ifCond .eq 15) 19 (by decide +kernel) rfl (by decide) c_1002 ?_
    refine m_run M (is := [(19, .iconst (-1), -1)]) (pc' := 20) (L' := [some (.ref 0), some (.int a0)]) (st' := [.int (-1)]) (w' := (cX tr kp th ot tp sl pk rf ik)) (by decide +kernel) rfl trivial ?_
    obtain rfl := Option.some.inj hf
    exact m_iret K (by decide +kernel) (Nat.zero_le _) (Nat.zero_le _) ⟨rfl, rfl⟩
  · refine m_jF M (i := .ifCond .eq 15) 19 (by decide +kernel) rfl (by decide) c_1002 ?_
    obtain ⟨h_1003, hf⟩ := grd_s hf
    refine m_run M (is := [(7, .aload_n 0, 0), (8, .getfield 34, 0), (11, .iload_n 1, 0)]) (pc' := 12) (L' := [some (.ref 0), some (.int a0)]) (st' := [.int a0, .ref 27]) (w' := (cX tr kp th ot tp sl pk rf ik)) (by decide +kernel) rfl trivial ?_
    refine m_run M (is := [(12, .aaload, 0)]) (pc' := 13) (L' := [some (.ref 0), some (.int a0)]) (st' := [.ref (30 + 2 * a0.toNatClampNeg)]) (w' := (cX tr kp th ot tp sl pk rf ik)) (by decide +kernel) (s_aald rfl rfl (fX_30 (inB_lt h_1003))) ⟨inB_use h_1003, trivial⟩ ?_
    obtain ⟨r1004, h_1004, hf⟩ := bnd_s hf
    refine m_cV0 M (rest := []) (w2 := (cX tr kp th ot tp sl pk rf ik)) (st2 := [.int r1004]) (run_X0_content    (sl a0.toNatClampNeg) h_1004) cv_X0_content lk_X3_99 (by decide +kernel) [30 + 2 * a0.toNatClampNeg, 31 + 2 * a0.toNatClampNeg] (by simp) ⟨Nat.le_of_ble_eq_true rfl, Nat.le_of_ble_eq_true rfl⟩ (hw_2  (inB_lt h_1003) tr kp th ot tp sl pk rf ik) rfl rfl (Nat.le_of_ble_eq_true rfl) ⟨by decide, by decide⟩ rfl rfl ⟨Nat.zero_le _, Nat.zero_le _⟩ (by have z := (hp_2  (inB_lt h_1003) tr kp th ot tp sl pk rf ik (sl a0.toNatClampNeg)); first | exact z | (simp only [va_up_id] at z; exact z)) rfl ?_
    refine m_run M (is := [(16, .goto 4, 0)]) (pc' := 20) (L' := [some (.ref 0), some (.int a0)]) (st' := [.int r1004]) (w' := (cX tr kp th ot tp sl pk rf ik)) (by decide +kernel) rfl trivial ?_
    obtain rfl := Option.some.inj hf
    exact m_iret K (by decide +kernel) (Nat.zero_le _) (Nat.zero_le _) ⟨rfl, rfl⟩

def f_X3_show (a0 : Int32) (a1 : Int32) (tr : ShT) (sl : (Nat → SlT)) (rf : AI) : Option (Int32 × (Nat → SlT) × AI) :=
  (f_X3_isShelf a0).bind fun r1001 =>
  if r1001 = 0 then
    (f_X3_refuse (-2) rf).bind fun r1003 =>
    some (r1003.1, sl, r1003.2)
  else
    if a1 = (-1) then
      if inB a0 8 then
      (f_X0_holdLaw a1 (sl a0.toNatClampNeg)).bind fun r1006 =>
      some (1, (va_up sl a0.toNatClampNeg r1006), rf)
      else none
    else
      (f_X1_hasLaw a1 tr).bind fun r1007 =>
      if r1007 = 0 then
        (f_X3_refuse (-2) rf).bind fun r1009 =>
        some (r1009.1, sl, r1009.2)
      else
        if inB a0 8 then
        (f_X0_holdLaw a1 (sl a0.toNatClampNeg)).bind fun r1011 =>
        some (1, (va_up sl a0.toNatClampNeg r1011), rf)
        else none
set_option maxRecDepth 100000 in
set_option maxHeartbeats 4000000 in
theorem run_X3_show {l : Launch} {D : va_G} {cT : Nat → ClassId} (a0 : Int32) (a1 : Int32)   (tr : ShT) (kp : ShT) (th : ShT) (ot : ShT) (tp : TpT) (sl : (Nat → SlT)) (pk : AI) (rf : AI) (ik : Int32) {r : Int32 × (Nat → SlT) × AI} (hf : f_X3_show a0 a1 tr sl rf = some r) : Runs l D cT yX3_show cX3_show 3 (some .int) 2 44 [.ref 0, .int a0, .int a1] (cX tr kp th ot tp sl pk rf ik) (EQ (some (.int r.1)) (cX tr kp th ot tp r.2.1 pk r.2.2 ik)) := by
  refine runs_of O_X3 okO_X3 (by decide +kernel) rfl rfl (Nat.le_of_ble_eq_true rfl) (Nat.le_of_ble_eq_true rfl) (fun g K => ?_)
  have M := K.b
  show g 0 0 (cX tr kp th ot tp sl pk rf ik) 0 [some (.ref 0), some (.int a0), some (.int a1)] []
  rw [f_X3_show] at hf
  refine m_run M (is := [(0, .iload_n 1, 0)]) (pc' := 1) (L' := [some (.ref 0), some (.int a0), some (.int a1)]) (st' := [.int a0]) (w' := (cX tr kp th ot tp sl pk rf ik)) (by decide +kernel) rfl trivial ?_
  obtain ⟨r1001, h_1001, hf⟩ := bnd_s hf
  refine m_cS0 M (rest := []) (w2 := (cX tr kp th ot tp sl pk rf ik)) (st2 := [.int r1001]) (run_X3_isShelf a0    h_1001) cs_X3_isShelf lk_X3_46 (by decide +kernel) [] (by decide) ⟨Nat.le_of_ble_eq_true rfl, Nat.le_of_ble_eq_true rfl⟩ rfl rfl (Nat.le_of_ble_eq_true rfl) ⟨by decide, by decide⟩ rfl rfl ⟨Nat.zero_le _, Nat.zero_le _⟩ rfl rfl ?_
  rcases ite_s hf with ⟨c_1002, hf⟩ | ⟨c_1002, hf⟩
  · refine m_jT M (i := .ifCond .eq 19) 23 (by decide +kernel) rfl (by decide) c_1002 ?_
    refine m_run M (is := [(23, .aload_n 0, 0), (24, .bipush (-2), -2)]) (pc' := 26) (L' := [some (.ref 0), some (.int a0), some (.int a1)]) (st' := [.int (-2), .ref 0]) (w' := (cX tr kp th ot tp sl pk rf ik)) (by decide +kernel) rfl trivial ?_
    obtain ⟨r1003, h_1003, hf⟩ := bnd_s hf
    refine m_cV0 M (rest := []) (w2 := (cX tr kp th ot tp sl pk r1003.2 ik)) (st2 := [.int r1003.1]) (run_X3_refuse (-2)   tr kp th ot tp sl pk rf ik h_1003) cv_X3_refuse lk_X3_54 (by decide +kernel) (List.range 46) List.nodup_range ⟨(by rw [List.length_range]; exact Nat.le_refl _), Nat.le_of_ble_eq_true rfl⟩ (hwId rfl) rfl rfl (Nat.le_of_ble_eq_true rfl) ⟨by decide, by decide⟩ rfl rfl ⟨Nat.zero_le _, Nat.zero_le _⟩ (hpId rfl rfl) rfl ?_
    obtain rfl := Option.some.inj hf
    exact m_iret K (by decide +kernel) (Nat.zero_le _) (Nat.zero_le _) ⟨rfl, rfl⟩
  · refine m_jF M (i := .ifCond .eq 19) 23 (by decide +kernel) rfl (by decide) c_1002 ?_
    refine m_run M (is := [(7, .iload_n 2, 0), (8, .iconst (-1), -1)]) (pc' := 9) (L' := [some (.ref 0), some (.int a0), some (.int a1)]) (st' := [.int (-1), .int a1]) (w' := (cX tr kp th ot tp sl pk rf ik)) (by decide +kernel) rfl trivial ?_
    rcases ite_s hf with ⟨c_1004, hf⟩ | ⟨c_1004, hf⟩
    · refine m_jT M (i := .if_icmp .eq 21) 30 (by decide +kernel) rfl (by decide) c_1004 ?_
      obtain ⟨h_1005, hf⟩ := grd_s hf
      refine m_run M (is := [(30, .aload_n 0, 0), (31, .getfield 34, 0), (34, .iload_n 1, 0)]) (pc' := 35) (L' := [some (.ref 0), some (.int a0), some (.int a1)]) (st' := [.int a0, .ref 27]) (w' := (cX tr kp th ot tp sl pk rf ik)) (by decide +kernel) rfl trivial ?_
      refine m_run M (is := [(35, .aaload, 0)]) (pc' := 36) (L' := [some (.ref 0), some (.int a0), some (.int a1)]) (st' := [.ref (30 + 2 * a0.toNatClampNeg)]) (w' := (cX tr kp th ot tp sl pk rf ik)) (by decide +kernel) (s_aald rfl rfl (fX_30 (inB_lt h_1005))) ⟨inB_use h_1005, trivial⟩ ?_
      refine m_run M (is := [(36, .iload_n 2, 0)]) (pc' := 37) (L' := [some (.ref 0), some (.int a0), some (.int a1)]) (st' := [.int a1, .ref (30 + 2 * a0.toNatClampNeg)]) (w' := (cX tr kp th ot tp sl pk rf ik)) (by decide +kernel) rfl trivial ?_
      obtain ⟨r1006, h_1006, hf⟩ := bnd_s hf
      refine m_cV0 M (rest := []) (w2 := (cX tr kp th ot tp (va_up sl a0.toNatClampNeg r1006) pk rf ik)) (st2 := []) (run_X0_holdLaw a1   (sl a0.toNatClampNeg) h_1006) cv_X0_holdLaw lk_X3_105 (by decide +kernel) [30 + 2 * a0.toNatClampNeg, 31 + 2 * a0.toNatClampNeg] (by simp) ⟨Nat.le_of_ble_eq_true rfl, Nat.le_of_ble_eq_true rfl⟩ (hw_2  (inB_lt h_1005) tr kp th ot tp sl pk rf ik) rfl rfl (Nat.le_of_ble_eq_true rfl) ⟨by decide, by decide⟩ rfl rfl ⟨Nat.zero_le _, Nat.zero_le _⟩ (hp_2  (inB_lt h_1005) tr kp th ot tp sl pk rf ik r1006) rfl ?_
      refine m_run M (is := [(40, .iconst 1, 1)]) (pc' := 41) (L' := [some (.ref 0), some (.int a0), some (.int a1)]) (st' := [.int 1]) (w' := (cX tr kp th ot tp (va_up sl a0.toNatClampNeg r1006) pk rf ik)) (by decide +kernel) rfl trivial ?_
      obtain rfl := Option.some.inj hf
      exact m_iret K (by decide +kernel) (Nat.zero_le _) (Nat.zero_le _) ⟨rfl, rfl⟩
    · refine m_jF M (i := .if_icmp .eq 21) 30 (by decide +kernel) rfl (by decide) c_1004 ?_
      refine m_run M (is := [(12, .aload_n 0, 0), (13, .getfield 10, 0), (16, .iload_n 2, 0)]) (pc' := 17) (L' := [some (.ref 0), some (.int a0), some (.int a1)]) (st' := [.int a1, .ref 1]) (w' := (cX tr kp th ot tp sl pk rf ik)) (by decide +kernel) rfl trivial ?_
      obtain ⟨r1007, h_1007, hf⟩ := bnd_s hf
      refine m_cV0 M (rest := []) (w2 := (cX tr kp th ot tp sl pk rf ik)) (st2 := [.int r1007]) (run_X1_hasLaw a1   tr h_1007) cv_X1_hasLaw lk_X3_102 (by decide +kernel) [1, 2, 3, 4, 5, 6] (by decide) ⟨Nat.le_of_ble_eq_true rfl, Nat.le_of_ble_eq_true rfl⟩ (hw_3  tr kp th ot tp sl pk rf ik) rfl rfl (Nat.le_of_ble_eq_true rfl) ⟨by decide, by decide⟩ rfl rfl ⟨Nat.zero_le _, Nat.zero_le _⟩ (hp_3  tr kp th ot tp sl pk rf ik tr) rfl ?_
      rcases ite_s hf with ⟨c_1008, hf⟩ | ⟨c_1008, hf⟩
      · refine m_jF M (i := .ifCond .ne 10) 30 (by decide +kernel) rfl (by decide) (fun n => n c_1008) ?_
        refine m_run M (is := [(23, .aload_n 0, 0), (24, .bipush (-2), -2)]) (pc' := 26) (L' := [some (.ref 0), some (.int a0), some (.int a1)]) (st' := [.int (-2), .ref 0]) (w' := (cX tr kp th ot tp sl pk rf ik)) (by decide +kernel) rfl trivial ?_
        obtain ⟨r1009, h_1009, hf⟩ := bnd_s hf
        refine m_cV0 M (rest := []) (w2 := (cX tr kp th ot tp sl pk r1009.2 ik)) (st2 := [.int r1009.1]) (run_X3_refuse (-2)   tr kp th ot tp sl pk rf ik h_1009) cv_X3_refuse lk_X3_54 (by decide +kernel) (List.range 46) List.nodup_range ⟨(by rw [List.length_range]; exact Nat.le_refl _), Nat.le_of_ble_eq_true rfl⟩ (hwId rfl) rfl rfl (Nat.le_of_ble_eq_true rfl) ⟨by decide, by decide⟩ rfl rfl ⟨Nat.zero_le _, Nat.zero_le _⟩ (hpId rfl rfl) rfl ?_
        obtain rfl := Option.some.inj hf
        exact m_iret K (by decide +kernel) (Nat.zero_le _) (Nat.zero_le _) ⟨rfl, rfl⟩
      · refine m_jT M (i := .ifCond .ne 10) 30 (by decide +kernel) rfl (by decide) c_1008 ?_
        obtain ⟨h_1010, hf⟩ := grd_s hf
        refine m_run M (is := [(30, .aload_n 0, 0), (31, .getfield 34, 0), (34, .iload_n 1, 0)]) (pc' := 35) (L' := [some (.ref 0), some (.int a0), some (.int a1)]) (st' := [.int a0, .ref 27]) (w' := (cX tr kp th ot tp sl pk rf ik)) (by decide +kernel) rfl trivial ?_
        refine m_run M (is := [(35, .aaload, 0)]) (pc' := 36) (L' := [some (.ref 0), some (.int a0), some (.int a1)]) (st' := [.ref (30 + 2 * a0.toNatClampNeg)]) (w' := (cX tr kp th ot tp sl pk rf ik)) (by decide +kernel) (s_aald rfl rfl (fX_30 (inB_lt h_1010))) ⟨inB_use h_1010, trivial⟩ ?_
        refine m_run M (is := [(36, .iload_n 2, 0)]) (pc' := 37) (L' := [some (.ref 0), some (.int a0), some (.int a1)]) (st' := [.int a1, .ref (30 + 2 * a0.toNatClampNeg)]) (w' := (cX tr kp th ot tp sl pk rf ik)) (by decide +kernel) rfl trivial ?_
        obtain ⟨r1011, h_1011, hf⟩ := bnd_s hf
        refine m_cV0 M (rest := []) (w2 := (cX tr kp th ot tp (va_up sl a0.toNatClampNeg r1011) pk rf ik)) (st2 := []) (run_X0_holdLaw a1   (sl a0.toNatClampNeg) h_1011) cv_X0_holdLaw lk_X3_105 (by decide +kernel) [30 + 2 * a0.toNatClampNeg, 31 + 2 * a0.toNatClampNeg] (by simp) ⟨Nat.le_of_ble_eq_true rfl, Nat.le_of_ble_eq_true rfl⟩ (hw_2  (inB_lt h_1010) tr kp th ot tp sl pk rf ik) rfl rfl (Nat.le_of_ble_eq_true rfl) ⟨by decide, by decide⟩ rfl rfl ⟨Nat.zero_le _, Nat.zero_le _⟩ (hp_2  (inB_lt h_1010) tr kp th ot tp sl pk rf ik r1011) rfl ?_
        refine m_run M (is := [(40, .iconst 1, 1)]) (pc' := 41) (L' := [some (.ref 0), some (.int a0), some (.int a1)]) (st' := [.int 1]) (w' := (cX tr kp th ot tp (va_up sl a0.toNatClampNeg r1011) pk rf ik)) (by decide +kernel) rfl trivial ?_
        obtain rfl := Option.some.inj hf
        exact m_iret K (by decide +kernel) (Nat.zero_le _) (Nat.zero_le _) ⟨rfl, rfl⟩

def f_X3_says (a0 : Int32) (a1 : Int32) (tr : ShT) (sl : (Nat → SlT)) (rf : AI) : Option (Int32 × AI) :=
  (f_X3_isShelf a0).bind fun r1001 =>
  if r1001 = 0 then
    (f_X3_refuse (-2) rf).bind fun r1003 =>
    some (r1003.1, r1003.2)
  else
    (f_X3_isKind a1).bind fun r1004 =>
    if r1004 = 0 then
      (f_X3_refuse (-2) rf).bind fun r1006 =>
      some (r1006.1, r1006.2)
    else
      if inB a0 8 then
      (f_X0_holdsRow (sl a0.toNatClampNeg)).bind fun r1008 =>
      if r1008 = 0 then
        (f_X0_holdsLaw (sl a0.toNatClampNeg)).bind fun r1010 =>
        if r1010 = 0 then
          (f_X0_holdsLaw (sl a0.toNatClampNeg)).bind fun r1012 =>
          if r1012 = 0 then
            (f_X3_refuse (-4) rf).bind fun r1014 =>
            some (r1014.1, r1014.2)
          else
            if a1 = 0 then
              (f_X1_amountOf ((sl a0.toNatClampNeg).2.2.1) tr).bind fun r1016 =>
              some (r1016, rf)
            else
              if a1 = 3 then
                (f_X1_lastThen ((sl a0.toNatClampNeg).2.2.1) tr).bind fun r1018 =>
                some (r1018, rf)
              else
                (f_X1_stepsBack ((sl a0.toNatClampNeg).2.2.1) tr).bind fun r1019 =>
                some (r1019, rf)
        else
          (f_X1_kindOf ((sl a0.toNatClampNeg).2.2.1) tr).bind fun r1020 =>
          (f_X3_isUnder r1020 a1).bind fun r1021 =>
          if r1021 = 0 then
            (f_X3_refuse (-3) rf).bind fun r1023 =>
            some (r1023.1, r1023.2)
          else
            (f_X0_holdsLaw (sl a0.toNatClampNeg)).bind fun r1024 =>
            if r1024 = 0 then
              (f_X3_refuse (-4) rf).bind fun r1026 =>
              some (r1026.1, r1026.2)
            else
              if a1 = 0 then
                (f_X1_amountOf ((sl a0.toNatClampNeg).2.2.1) tr).bind fun r1028 =>
                some (r1028, rf)
              else
                if a1 = 3 then
                  (f_X1_lastThen ((sl a0.toNatClampNeg).2.2.1) tr).bind fun r1030 =>
                  some (r1030, rf)
                else
                  (f_X1_stepsBack ((sl a0.toNatClampNeg).2.2.1) tr).bind fun r1031 =>
                  some (r1031, rf)
      else
        (f_X3_refuse (-3) rf).bind fun r1032 =>
        some (r1032.1, r1032.2)
      else none
set_option maxRecDepth 100000 in
set_option maxHeartbeats 4000000 in
theorem run_X3_says {l : Launch} {D : va_G} {cT : Nat → ClassId} (a0 : Int32) (a1 : Int32)   (tr : ShT) (kp : ShT) (th : ShT) (ot : ShT) (tp : TpT) (sl : (Nat → SlT)) (pk : AI) (rf : AI) (ik : Int32) {r : Int32 × AI} (hf : f_X3_says a0 a1 tr sl rf = some r) : Runs l D cT yX3_says cX3_says 4 (some .int) 2 45 [.ref 0, .int a0, .int a1] (cX tr kp th ot tp sl pk rf ik) (EQ (some (.int r.1)) (cX tr kp th ot tp sl pk r.2 ik)) := by
  refine runs_of O_X3 okO_X3 (by decide +kernel) rfl rfl (Nat.le_of_ble_eq_true rfl) (Nat.le_of_ble_eq_true rfl) (fun g K => ?_)
  have M := K.b
  show g 0 0 (cX tr kp th ot tp sl pk rf ik) 0 [some (.ref 0), some (.int a0), some (.int a1), none] []
  rw [f_X3_says] at hf
  refine m_run M (is := [(0, .iload_n 1, 0)]) (pc' := 1) (L' := [some (.ref 0), some (.int a0), some (.int a1), none]) (st' := [.int a0]) (w' := (cX tr kp th ot tp sl pk rf ik)) (by decide +kernel) rfl trivial ?_
  obtain ⟨r1001, h_1001, hf⟩ := bnd_s hf
  refine m_cS0 M (rest := []) (w2 := (cX tr kp th ot tp sl pk rf ik)) (st2 := [.int r1001]) (run_X3_isShelf a0    h_1001) cs_X3_isShelf lk_X3_46 (by decide +kernel) [] (by decide) ⟨Nat.le_of_ble_eq_true rfl, Nat.le_of_ble_eq_true rfl⟩ rfl rfl (Nat.le_of_ble_eq_true rfl) ⟨by decide, by decide⟩ rfl rfl ⟨Nat.zero_le _, Nat.zero_le _⟩ rfl rfl ?_
  rcases ite_s hf with ⟨c_1002, hf⟩ | ⟨c_1002, hf⟩
  · refine m_jT M (i := .ifCond .eq 10) 14 (by decide +kernel) rfl (by decide) c_1002 ?_
    refine m_run M (is := [(14, .aload_n 0, 0), (15, .bipush (-2), -2)]) (pc' := 17) (L' := [some (.ref 0), some (.int a0), some (.int a1), none]) (st' := [.int (-2), .ref 0]) (w' := (cX tr kp th ot tp sl pk rf ik)) (by decide +kernel) rfl trivial ?_
    obtain ⟨r1003, h_1003, hf⟩ := bnd_s hf
    refine m_cV0 M (rest := []) (w2 := (cX tr kp th ot tp sl pk r1003.2 ik)) (st2 := [.int r1003.1]) (run_X3_refuse (-2)   tr kp th ot tp sl pk rf ik h_1003) cv_X3_refuse lk_X3_54 (by decide +kernel) (List.range 46) List.nodup_range ⟨(by rw [List.length_range]; exact Nat.le_refl _), Nat.le_of_ble_eq_true rfl⟩ (hwId rfl) rfl rfl (Nat.le_of_ble_eq_true rfl) ⟨by decide, by decide⟩ rfl rfl ⟨Nat.zero_le _, Nat.zero_le _⟩ (hpId rfl rfl) rfl ?_
    obtain rfl := Option.some.inj hf
    exact m_iret K (by decide +kernel) (Nat.zero_le _) (Nat.zero_le _) ⟨rfl, rfl⟩
  · refine m_jF M (i := .ifCond .eq 10) 14 (by decide +kernel) rfl (by decide) c_1002 ?_
    refine m_run M (is := [(7, .iload_n 2, 0)]) (pc' := 8) (L' := [some (.ref 0), some (.int a0), some (.int a1), none]) (st' := [.int a1]) (w' := (cX tr kp th ot tp sl pk rf ik)) (by decide +kernel) rfl trivial ?_
    obtain ⟨r1004, h_1004, hf⟩ := bnd_s hf
    refine m_cS0 M (rest := []) (w2 := (cX tr kp th ot tp sl pk rf ik)) (st2 := [.int r1004]) (run_X3_isKind a1    h_1004) cs_X3_isKind lk_X3_109 (by decide +kernel) [] (by decide) ⟨Nat.le_of_ble_eq_true rfl, Nat.le_of_ble_eq_true rfl⟩ rfl rfl (Nat.le_of_ble_eq_true rfl) ⟨by decide, by decide⟩ rfl rfl ⟨Nat.zero_le _, Nat.zero_le _⟩ rfl rfl ?_
    rcases ite_s hf with ⟨c_1005, hf⟩ | ⟨c_1005, hf⟩
    · refine m_jF M (i := .ifCond .ne 10) 21 (by decide +kernel) rfl (by decide) (fun n => n c_1005) ?_
      refine m_run M (is := [(14, .aload_n 0, 0), (15, .bipush (-2), -2)]) (pc' := 17) (L' := [some (.ref 0), some (.int a0), some (.int a1), none]) (st' := [.int (-2), .ref 0]) (w' := (cX tr kp th ot tp sl pk rf ik)) (by decide +kernel) rfl trivial ?_
      obtain ⟨r1006, h_1006, hf⟩ := bnd_s hf
      refine m_cV0 M (rest := []) (w2 := (cX tr kp th ot tp sl pk r1006.2 ik)) (st2 := [.int r1006.1]) (run_X3_refuse (-2)   tr kp th ot tp sl pk rf ik h_1006) cv_X3_refuse lk_X3_54 (by decide +kernel) (List.range 46) List.nodup_range ⟨(by rw [List.length_range]; exact Nat.le_refl _), Nat.le_of_ble_eq_true rfl⟩ (hwId rfl) rfl rfl (Nat.le_of_ble_eq_true rfl) ⟨by decide, by decide⟩ rfl rfl ⟨Nat.zero_le _, Nat.zero_le _⟩ (hpId rfl rfl) rfl ?_
      obtain rfl := Option.some.inj hf
      exact m_iret K (by decide +kernel) (Nat.zero_le _) (Nat.zero_le _) ⟨rfl, rfl⟩
    · refine m_jT M (i := .ifCond .ne 10) 21 (by decide +kernel) rfl (by decide) c_1005 ?_
      obtain ⟨h_1007, hf⟩ := grd_s hf
      refine m_run M (is := [(21, .aload_n 0, 0), (22, .getfield 34, 0), (25, .iload_n 1, 0)]) (pc' := 26) (L' := [some (.ref 0), some (.int a0), some (.int a1), none]) (st' := [.int a0, .ref 27]) (w' := (cX tr kp th ot tp sl pk rf ik)) (by decide +kernel) rfl trivial ?_
      refine m_run M (is := [(26, .aaload, 0)]) (pc' := 27) (L' := [some (.ref 0), some (.int a0), some (.int a1), none]) (st' := [.ref (30 + 2 * a0.toNatClampNeg)]) (w' := (cX tr kp th ot tp sl pk rf ik)) (by decide +kernel) (s_aald rfl rfl (fX_30 (inB_lt h_1007))) ⟨inB_use h_1007, trivial⟩ ?_
      refine m_run M (is := [(27, .astore_n 3, 0), (28, .aload_n 3, 0)]) (pc' := 29) (L' := [some (.ref 0), some (.int a0), some (.int a1), some (.ref (30 + 2 * a0.toNatClampNeg))]) (st' := [.ref (30 + 2 * a0.toNatClampNeg)]) (w' := (cX tr kp th ot tp sl pk rf ik)) (by decide +kernel) rfl trivial ?_
      obtain ⟨r1008, h_1008, hf⟩ := bnd_s hf
      refine m_cV0 M (rest := []) (w2 := (cX tr kp th ot tp sl pk rf ik)) (st2 := [.int r1008]) (run_X0_holdsRow    (sl a0.toNatClampNeg) h_1008) cv_X0_holdsRow lk_X3_82 (by decide +kernel) [30 + 2 * a0.toNatClampNeg, 31 + 2 * a0.toNatClampNeg] (by simp) ⟨Nat.le_of_ble_eq_true rfl, Nat.le_of_ble_eq_true rfl⟩ (hw_2  (inB_lt h_1007) tr kp th ot tp sl pk rf ik) rfl rfl (Nat.le_of_ble_eq_true rfl) ⟨by decide, by decide⟩ rfl rfl ⟨Nat.zero_le _, Nat.zero_le _⟩ (by have z := (hp_2  (inB_lt h_1007) tr kp th ot tp sl pk rf ik (sl a0.toNatClampNeg)); first | exact z | (simp only [va_up_id] at z; exact z)) rfl ?_
      rcases ite_s hf with ⟨c_1009, hf⟩ | ⟨c_1009, hf⟩
      · refine m_jF M (i := .ifCond .ne 28) 60 (by decide +kernel) rfl (by decide) (fun n => n c_1009) ?_
        refine m_run M (is := [(35, .aload_n 3, 0)]) (pc' := 36) (L' := [some (.ref 0), some (.int a0), some (.int a1), some (.ref (30 + 2 * a0.toNatClampNeg))]) (st' := [.ref (30 + 2 * a0.toNatClampNeg)]) (w' := (cX tr kp th ot tp sl pk rf ik)) (by decide +kernel) rfl trivial ?_
        obtain ⟨r1010, h_1010, hf⟩ := bnd_s hf
        refine m_cV0 M (rest := []) (w2 := (cX tr kp th ot tp sl pk rf ik)) (st2 := [.int r1010]) (run_X0_holdsLaw    (sl a0.toNatClampNeg) h_1010) cv_X0_holdsLaw lk_X3_74 (by decide +kernel) [30 + 2 * a0.toNatClampNeg, 31 + 2 * a0.toNatClampNeg] (by simp) ⟨Nat.le_of_ble_eq_true rfl, Nat.le_of_ble_eq_true rfl⟩ (hw_2  (inB_lt h_1007) tr kp th ot tp sl pk rf ik) rfl rfl (Nat.le_of_ble_eq_true rfl) ⟨by decide, by decide⟩ rfl rfl ⟨Nat.zero_le _, Nat.zero_le _⟩ (by have z := (hp_2  (inB_lt h_1007) tr kp th ot tp sl pk rf ik (sl a0.toNatClampNeg)); first | exact z | (simp only [va_up_id] at z; exact z)) rfl ?_
        rcases ite_s hf with ⟨c_1011, hf⟩ | ⟨c_1011, hf⟩
        · refine m_jT M (i := .ifCond .eq 28) 67 (by decide +kernel) rfl (by decide) c_1011 ?_
          refine m_run M (is := [(67, .aload_n 3, 0)]) (pc' := 68) (L' := [some (.ref 0), some (.int a0), some (.int a1), some (.ref (30 + 2 * a0.toNatClampNeg))]) (st' := [.ref (30 + 2 * a0.toNatClampNeg)]) (w' := (cX tr kp th ot tp sl pk rf ik)) (by decide +kernel) rfl trivial ?_
          obtain ⟨r1012, h_1012, hf⟩ := bnd_s hf
          refine m_cV0 M (rest := []) (w2 := (cX tr kp th ot tp sl pk rf ik)) (st2 := [.int r1012]) (run_X0_holdsLaw    (sl a0.toNatClampNeg) h_1012) cv_X0_holdsLaw lk_X3_74 (by decide +kernel) [30 + 2 * a0.toNatClampNeg, 31 + 2 * a0.toNatClampNeg] (by simp) ⟨Nat.le_of_ble_eq_true rfl, Nat.le_of_ble_eq_true rfl⟩ (hw_2  (inB_lt h_1007) tr kp th ot tp sl pk rf ik) rfl rfl (Nat.le_of_ble_eq_true rfl) ⟨by decide, by decide⟩ rfl rfl ⟨Nat.zero_le _, Nat.zero_le _⟩ (by have z := (hp_2  (inB_lt h_1007) tr kp th ot tp sl pk rf ik (sl a0.toNatClampNeg)); first | exact z | (simp only [va_up_id] at z; exact z)) rfl ?_
          rcases ite_s hf with ⟨c_1013, hf⟩ | ⟨c_1013, hf⟩
          · refine m_jF M (i := .ifCond .ne 10) 81 (by decide +kernel) rfl (by decide) (fun n => n c_1013) ?_
            refine m_run M (is := [(74, .aload_n 0, 0), (75, .bipush (-4), -4)]) (pc' := 77) (L' := [some (.ref 0), some (.int a0), some (.int a1), some (.ref (30 + 2 * a0.toNatClampNeg))]) (st' := [.int (-4), .ref 0]) (w' := (cX tr kp th ot tp sl pk rf ik)) (by decide +kernel) rfl trivial ?_
            obtain ⟨r1014, h_1014, hf⟩ := bnd_s hf
            refine m_cV0 M (rest := []) (w2 := (cX tr kp th ot tp sl pk r1014.2 ik)) (st2 := [.int r1014.1]) (run_X3_refuse (-4)   tr kp th ot tp sl pk rf ik h_1014) cv_X3_refuse lk_X3_54 (by decide +kernel) (List.range 46) List.nodup_range ⟨(by rw [List.length_range]; exact Nat.le_refl _), Nat.le_of_ble_eq_true rfl⟩ (hwId rfl) rfl rfl (Nat.le_of_ble_eq_true rfl) ⟨by decide, by decide⟩ rfl rfl ⟨Nat.zero_le _, Nat.zero_le _⟩ (hpId rfl rfl) rfl ?_
            obtain rfl := Option.some.inj hf
            exact m_iret K (by decide +kernel) (Nat.zero_le _) (Nat.zero_le _) ⟨rfl, rfl⟩
          · refine m_jT M (i := .ifCond .ne 10) 81 (by decide +kernel) rfl (by decide) c_1013 ?_
            refine m_run M (is := [(81, .iload_n 2, 0)]) (pc' := 82) (L' := [some (.ref 0), some (.int a0), some (.int a1), some (.ref (30 + 2 * a0.toNatClampNeg))]) (st' := [.int a1]) (w' := (cX tr kp th ot tp sl pk rf ik)) (by decide +kernel) rfl trivial ?_
            rcases ite_s hf with ⟨c_1015, hf⟩ | ⟨c_1015, hf⟩
            · refine m_jF M (i := .ifCond .ne 15) 97 (by decide +kernel) rfl (by decide) (fun n => n c_1015) ?_
              refine m_run M (is := [(85, .aload_n 0, 0), (86, .getfield 10, 0), (89, .aload_n 3, 0)]) (pc' := 90) (L' := [some (.ref 0), some (.int a0), some (.int a1), some (.ref (30 + 2 * a0.toNatClampNeg))]) (st' := [.ref (30 + 2 * a0.toNatClampNeg), .ref 1]) (w' := (cX tr kp th ot tp sl pk rf ik)) (by decide +kernel) rfl trivial ?_
              refine m_run M (is := [(90, .getfield 112, 0)]) (pc' := 93) (L' := [some (.ref 0), some (.int a0), some (.int a1), some (.ref (30 + 2 * a0.toNatClampNeg))]) (st' := [.int ((sl a0.toNatClampNeg).2.2.1), .ref 1]) (w' := (cX tr kp th ot tp sl pk rf ik)) (by decide +kernel) (s_getf (wX_so (inB_lt h_1007) tr kp th ot tp sl pk rf ik) rfl rfl) trivial ?_
              obtain ⟨r1016, h_1016, hf⟩ := bnd_s hf
              refine m_cV0 M (rest := []) (w2 := (cX tr kp th ot tp sl pk rf ik)) (st2 := [.int r1016]) (run_X1_amountOf ((sl a0.toNatClampNeg).2.2.1)   tr h_1016) cv_X1_amountOf lk_X3_122 (by decide +kernel) [1, 2, 3, 4, 5, 6] (by decide) ⟨Nat.le_of_ble_eq_true rfl, Nat.le_of_ble_eq_true rfl⟩ (hw_3  tr kp th ot tp sl pk rf ik) rfl rfl (Nat.le_of_ble_eq_true rfl) ⟨by decide, by decide⟩ rfl rfl ⟨Nat.zero_le _, Nat.zero_le _⟩ (hp_3  tr kp th ot tp sl pk rf ik tr) rfl ?_
              obtain rfl := Option.some.inj hf
              exact m_iret K (by decide +kernel) (Nat.zero_le _) (Nat.zero_le _) ⟨rfl, rfl⟩
            · refine m_jT M (i := .ifCond .ne 15) 97 (by decide +kernel) rfl (by decide) c_1015 ?_
              refine m_run M (is := [(97, .iload_n 2, 0), (98, .iconst 3, 3)]) (pc' := 99) (L' := [some (.ref 0), some (.int a0), some (.int a1), some (.ref (30 + 2 * a0.toNatClampNeg))]) (st' := [.int 3, .int a1]) (w' := (cX tr kp th ot tp sl pk rf ik)) (by decide +kernel) rfl trivial ?_
              rcases ite_s hf with ⟨c_1017, hf⟩ | ⟨c_1017, hf⟩
              · refine m_jF M (i := .if_icmp .ne 17) 116 (by decide +kernel) rfl (by decide) (fun n => n c_1017) ?_
                refine m_run M (is := [(102, .aload_n 0, 0), (103, .getfield 10, 0), (106, .aload_n 3, 0)]) (pc' := 107) (L' := [some (.ref 0), some (.int a0), some (.int a1), some (.ref (30 + 2 * a0.toNatClampNeg))]) (st' := [.ref (30 + 2 * a0.toNatClampNeg), .ref 1]) (w' := (cX tr kp th ot tp sl pk rf ik)) (by decide +kernel) rfl trivial ?_
                refine m_run M (is := [(107, .getfield 112, 0)]) (pc' := 110) (L' := [some (.ref 0), some (.int a0), some (.int a1), some (.ref (30 + 2 * a0.toNatClampNeg))]) (st' := [.int ((sl a0.toNatClampNeg).2.2.1), .ref 1]) (w' := (cX tr kp th ot tp sl pk rf ik)) (by decide +kernel) (s_getf (wX_so (inB_lt h_1007) tr kp th ot tp sl pk rf ik) rfl rfl) trivial ?_
                obtain ⟨r1018, h_1018, hf⟩ := bnd_s hf
                refine m_cV0 M (rest := []) (w2 := (cX tr kp th ot tp sl pk rf ik)) (st2 := [.int r1018]) (run_X1_lastThen ((sl a0.toNatClampNeg).2.2.1)   tr h_1018) cv_X1_lastThen lk_X3_125 (by decide +kernel) [1, 2, 3, 4, 5, 6] (by decide) ⟨Nat.le_of_ble_eq_true rfl, Nat.le_of_ble_eq_true rfl⟩ (hw_3  tr kp th ot tp sl pk rf ik) rfl rfl (Nat.le_of_ble_eq_true rfl) ⟨by decide, by decide⟩ rfl rfl ⟨Nat.zero_le _, Nat.zero_le _⟩ (hp_3  tr kp th ot tp sl pk rf ik tr) rfl ?_
                refine m_run M (is := [(113, .goto 14, 0)]) (pc' := 127) (L' := [some (.ref 0), some (.int a0), some (.int a1), some (.ref (30 + 2 * a0.toNatClampNeg))]) (st' := [.int r1018]) (w' := (cX tr kp th ot tp sl pk rf ik)) (by decide +kernel) rfl trivial ?_
                obtain rfl := Option.some.inj hf
                exact m_iret K (by decide +kernel) (Nat.zero_le _) (Nat.zero_le _) ⟨rfl, rfl⟩
              · refine m_jT M (i := .if_icmp .ne 17) 116 (by decide +kernel) rfl (by decide) c_1017 ?_
                refine m_run M (is := [(116, .aload_n 0, 0), (117, .getfield 10, 0), (120, .aload_n 3, 0)]) (pc' := 121) (L' := [some (.ref 0), some (.int a0), some (.int a1), some (.ref (30 + 2 * a0.toNatClampNeg))]) (st' := [.ref (30 + 2 * a0.toNatClampNeg), .ref 1]) (w' := (cX tr kp th ot tp sl pk rf ik)) (by decide +kernel) rfl trivial ?_
                refine m_run M (is := [(121, .getfield 112, 0)]) (pc' := 124) (L' := [some (.ref 0), some (.int a0), some (.int a1), some (.ref (30 + 2 * a0.toNatClampNeg))]) (st' := [.int ((sl a0.toNatClampNeg).2.2.1), .ref 1]) (w' := (cX tr kp th ot tp sl pk rf ik)) (by decide +kernel) (s_getf (wX_so (inB_lt h_1007) tr kp th ot tp sl pk rf ik) rfl rfl) trivial ?_
                obtain ⟨r1019, h_1019, hf⟩ := bnd_s hf
                refine m_cV0 M (rest := []) (w2 := (cX tr kp th ot tp sl pk rf ik)) (st2 := [.int r1019]) (run_X1_stepsBack ((sl a0.toNatClampNeg).2.2.1)   tr h_1019) cv_X1_stepsBack lk_X3_128 (by decide +kernel) [1, 2, 3, 4, 5, 6] (by decide) ⟨Nat.le_of_ble_eq_true rfl, Nat.le_of_ble_eq_true rfl⟩ (hw_3  tr kp th ot tp sl pk rf ik) rfl rfl (Nat.le_of_ble_eq_true rfl) ⟨by decide, by decide⟩ rfl rfl ⟨Nat.zero_le _, Nat.zero_le _⟩ (hp_3  tr kp th ot tp sl pk rf ik tr) rfl ?_
                obtain rfl := Option.some.inj hf
                exact m_iret K (by decide +kernel) (Nat.zero_le _) (Nat.zero_le _) ⟨rfl, rfl⟩
        · refine m_jF M (i := .ifCond .eq 28) 67 (by decide +kernel) rfl (by decide) c_1011 ?_
          refine m_run M (is := [(42, .aload_n 0, 0), (43, .getfield 10, 0), (46, .aload_n 3, 0)]) (pc' := 47) (L' := [some (.ref 0), some (.int a0), some (.int a1), some (.ref (30 + 2 * a0.toNatClampNeg))]) (st' := [.ref (30 + 2 * a0.toNatClampNeg), .ref 1]) (w' := (cX tr kp th ot tp sl pk rf ik)) (by decide +kernel) rfl trivial ?_
          refine m_run M (is := [(47, .getfield 112, 0)]) (pc' := 50) (L' := [some (.ref 0), some (.int a0), some (.int a1), some (.ref (30 + 2 * a0.toNatClampNeg))]) (st' := [.int ((sl a0.toNatClampNeg).2.2.1), .ref 1]) (w' := (cX tr kp th ot tp sl pk rf ik)) (by decide +kernel) (s_getf (wX_so (inB_lt h_1007) tr kp th ot tp sl pk rf ik) rfl rfl) trivial ?_
          obtain ⟨r1020, h_1020, hf⟩ := bnd_s hf
          refine m_cV0 M (rest := []) (w2 := (cX tr kp th ot tp sl pk rf ik)) (st2 := [.int r1020]) (run_X1_kindOf ((sl a0.toNatClampNeg).2.2.1)   tr h_1020) cv_X1_kindOf lk_X3_116 (by decide +kernel) [1, 2, 3, 4, 5, 6] (by decide) ⟨Nat.le_of_ble_eq_true rfl, Nat.le_of_ble_eq_true rfl⟩ (hw_3  tr kp th ot tp sl pk rf ik) rfl rfl (Nat.le_of_ble_eq_true rfl) ⟨by decide, by decide⟩ rfl rfl ⟨Nat.zero_le _, Nat.zero_le _⟩ (hp_3  tr kp th ot tp sl pk rf ik tr) rfl ?_
          refine m_run M (is := [(53, .iload_n 2, 0)]) (pc' := 54) (L' := [some (.ref 0), some (.int a0), some (.int a1), some (.ref (30 + 2 * a0.toNatClampNeg))]) (st' := [.int a1, .int r1020]) (w' := (cX tr kp th ot tp sl pk rf ik)) (by decide +kernel) rfl trivial ?_
          obtain ⟨r1021, h_1021, hf⟩ := bnd_s hf
          refine m_cS0 M (rest := []) (w2 := (cX tr kp th ot tp sl pk rf ik)) (st2 := [.int r1021]) (run_X3_isUnder r1020 a1    h_1021) cs_X3_isUnder lk_X3_119 (by decide +kernel) [] (by decide) ⟨Nat.le_of_ble_eq_true rfl, Nat.le_of_ble_eq_true rfl⟩ rfl rfl (Nat.le_of_ble_eq_true rfl) ⟨by decide, by decide⟩ rfl rfl ⟨Nat.zero_le _, Nat.zero_le _⟩ rfl rfl ?_
          rcases ite_s hf with ⟨c_1022, hf⟩ | ⟨c_1022, hf⟩
          · refine m_jF M (i := .ifCond .ne 10) 67 (by decide +kernel) rfl (by decide) (fun n => n c_1022) ?_
            refine m_run M (is := [(60, .aload_n 0, 0), (61, .bipush (-3), -3)]) (pc' := 63) (L' := [some (.ref 0), some (.int a0), some (.int a1), some (.ref (30 + 2 * a0.toNatClampNeg))]) (st' := [.int (-3), .ref 0]) (w' := (cX tr kp th ot tp sl pk rf ik)) (by decide +kernel) rfl trivial ?_
            obtain ⟨r1023, h_1023, hf⟩ := bnd_s hf
            refine m_cV0 M (rest := []) (w2 := (cX tr kp th ot tp sl pk r1023.2 ik)) (st2 := [.int r1023.1]) (run_X3_refuse (-3)   tr kp th ot tp sl pk rf ik h_1023) cv_X3_refuse lk_X3_54 (by decide +kernel) (List.range 46) List.nodup_range ⟨(by rw [List.length_range]; exact Nat.le_refl _), Nat.le_of_ble_eq_true rfl⟩ (hwId rfl) rfl rfl (Nat.le_of_ble_eq_true rfl) ⟨by decide, by decide⟩ rfl rfl ⟨Nat.zero_le _, Nat.zero_le _⟩ (hpId rfl rfl) rfl ?_
            obtain rfl := Option.some.inj hf
            exact m_iret K (by decide +kernel) (Nat.zero_le _) (Nat.zero_le _) ⟨rfl, rfl⟩
          · refine m_jT M (i := .ifCond .ne 10) 67 (by decide +kernel) rfl (by decide) c_1022 ?_
            refine m_run M (is := [(67, .aload_n 3, 0)]) (pc' := 68) (L' := [some (.ref 0), some (.int a0), some (.int a1), some (.ref (30 + 2 * a0.toNatClampNeg))]) (st' := [.ref (30 + 2 * a0.toNatClampNeg)]) (w' := (cX tr kp th ot tp sl pk rf ik)) (by decide +kernel) rfl trivial ?_
            obtain ⟨r1024, h_1024, hf⟩ := bnd_s hf
            refine m_cV0 M (rest := []) (w2 := (cX tr kp th ot tp sl pk rf ik)) (st2 := [.int r1024]) (run_X0_holdsLaw    (sl a0.toNatClampNeg) h_1024) cv_X0_holdsLaw lk_X3_74 (by decide +kernel) [30 + 2 * a0.toNatClampNeg, 31 + 2 * a0.toNatClampNeg] (by simp) ⟨Nat.le_of_ble_eq_true rfl, Nat.le_of_ble_eq_true rfl⟩ (hw_2  (inB_lt h_1007) tr kp th ot tp sl pk rf ik) rfl rfl (Nat.le_of_ble_eq_true rfl) ⟨by decide, by decide⟩ rfl rfl ⟨Nat.zero_le _, Nat.zero_le _⟩ (by have z := (hp_2  (inB_lt h_1007) tr kp th ot tp sl pk rf ik (sl a0.toNatClampNeg)); first | exact z | (simp only [va_up_id] at z; exact z)) rfl ?_
            rcases ite_s hf with ⟨c_1025, hf⟩ | ⟨c_1025, hf⟩
            · refine m_jF M (i := .ifCond .ne 10) 81 (by decide +kernel) rfl (by decide) (fun n => n c_1025) ?_
              refine m_run M (is := [(74, .aload_n 0, 0), (75, .bipush (-4), -4)]) (pc' := 77) (L' := [some (.ref 0), some (.int a0), some (.int a1), some (.ref (30 + 2 * a0.toNatClampNeg))]) (st' := [.int (-4), .ref 0]) (w' := (cX tr kp th ot tp sl pk rf ik)) (by decide +kernel) rfl trivial ?_
              obtain ⟨r1026, h_1026, hf⟩ := bnd_s hf
              refine m_cV0 M (rest := []) (w2 := (cX tr kp th ot tp sl pk r1026.2 ik)) (st2 := [.int r1026.1]) (run_X3_refuse (-4)   tr kp th ot tp sl pk rf ik h_1026) cv_X3_refuse lk_X3_54 (by decide +kernel) (List.range 46) List.nodup_range ⟨(by rw [List.length_range]; exact Nat.le_refl _), Nat.le_of_ble_eq_true rfl⟩ (hwId rfl) rfl rfl (Nat.le_of_ble_eq_true rfl) ⟨by decide, by decide⟩ rfl rfl ⟨Nat.zero_le _, Nat.zero_le _⟩ (hpId rfl rfl) rfl ?_
              obtain rfl := Option.some.inj hf
              exact m_iret K (by decide +kernel) (Nat.zero_le _) (Nat.zero_le _) ⟨rfl, rfl⟩
            · refine m_jT M (i := .ifCond .ne 10) 81 (by decide +kernel) rfl (by decide) c_1025 ?_
              refine m_run M (is := [(81, .iload_n 2, 0)]) (pc' := 82) (L' := [some (.ref 0), some (.int a0), some (.int a1), some (.ref (30 + 2 * a0.toNatClampNeg))]) (st' := [.int a1]) (w' := (cX tr kp th ot tp sl pk rf ik)) (by decide +kernel) rfl trivial ?_
              rcases ite_s hf with ⟨c_1027, hf⟩ | ⟨c_1027, hf⟩
              · refine m_jF M (i := .ifCond .ne 15) 97 (by decide +kernel) rfl (by decide) (fun n => n c_1027) ?_
                refine m_run M (is := [(85, .aload_n 0, 0), (86, .getfield 10, 0), (89, .aload_n 3, 0)]) (pc' := 90) (L' := [some (.ref 0), some (.int a0), some (.int a1), some (.ref (30 + 2 * a0.toNatClampNeg))]) (st' := [.ref (30 + 2 * a0.toNatClampNeg), .ref 1]) (w' := (cX tr kp th ot tp sl pk rf ik)) (by decide +kernel) rfl trivial ?_
                refine m_run M (is := [(90, .getfield 112, 0)]) (pc' := 93) (L' := [some (.ref 0), some (.int a0), some (.int a1), some (.ref (30 + 2 * a0.toNatClampNeg))]) (st' := [.int ((sl a0.toNatClampNeg).2.2.1), .ref 1]) (w' := (cX tr kp th ot tp sl pk rf ik)) (by decide +kernel) (s_getf (wX_so (inB_lt h_1007) tr kp th ot tp sl pk rf ik) rfl rfl) trivial ?_
                obtain ⟨r1028, h_1028, hf⟩ := bnd_s hf
                refine m_cV0 M (rest := []) (w2 := (cX tr kp th ot tp sl pk rf ik)) (st2 := [.int r1028]) (run_X1_amountOf ((sl a0.toNatClampNeg).2.2.1)   tr h_1028) cv_X1_amountOf lk_X3_122 (by decide +kernel) [1, 2, 3, 4, 5, 6] (by decide) ⟨Nat.le_of_ble_eq_true rfl, Nat.le_of_ble_eq_true rfl⟩ (hw_3  tr kp th ot tp sl pk rf ik) rfl rfl (Nat.le_of_ble_eq_true rfl) ⟨by decide, by decide⟩ rfl rfl ⟨Nat.zero_le _, Nat.zero_le _⟩ (hp_3  tr kp th ot tp sl pk rf ik tr) rfl ?_
                obtain rfl := Option.some.inj hf
                exact m_iret K (by decide +kernel) (Nat.zero_le _) (Nat.zero_le _) ⟨rfl, rfl⟩
              · refine m_jT M (i := .ifCond .ne 15) 97 (by decide +kernel) rfl (by decide) c_1027 ?_
                refine m_run M (is := [(97, .iload_n 2, 0), (98, .iconst 3, 3)]) (pc' := 99) (L' := [some (.ref 0), some (.int a0), some (.int a1), some (.ref (30 + 2 * a0.toNatClampNeg))]) (st' := [.int 3, .int a1]) (w' := (cX tr kp th ot tp sl pk rf ik)) (by decide +kernel) rfl trivial ?_
                rcases ite_s hf with ⟨c_1029, hf⟩ | ⟨c_1029, hf⟩
                · refine m_jF M (i := .if_icmp .ne 17) 116 (by decide +kernel) rfl (by decide) (fun n => n c_1029) ?_
                  refine m_run M (is := [(102, .aload_n 0, 0), (103, .getfield 10, 0), (106, .aload_n 3, 0)]) (pc' := 107) (L' := [some (.ref 0), some (.int a0), some (.int a1), some (.ref (30 + 2 * a0.toNatClampNeg))]) (st' := [.ref (30 + 2 * a0.toNatClampNeg), .ref 1]) (w' := (cX tr kp th ot tp sl pk rf ik)) (by decide +kernel) rfl trivial ?_
                  refine m_run M (is := [(107, .getfield 112, 0)]) (pc' := 110) (L' := [some (.ref 0), some (.int a0), some (.int a1), some (.ref (30 + 2 * a0.toNatClampNeg))]) (st' := [.int ((sl a0.toNatClampNeg).2.2.1), .ref 1]) (w' := (cX tr kp th ot tp sl pk rf ik)) (by decide +kernel) (s_getf (wX_so (inB_lt h_1007) tr kp th ot tp sl pk rf ik) rfl rfl) trivial ?_
                  obtain ⟨r1030, h_1030, hf⟩ := bnd_s hf
                  refine m_cV0 M (rest := []) (w2 := (cX tr kp th ot tp sl pk rf ik)) (st2 := [.int r1030]) (run_X1_lastThen ((sl a0.toNatClampNeg).2.2.1)   tr h_1030) cv_X1_lastThen lk_X3_125 (by decide +kernel) [1, 2, 3, 4, 5, 6] (by decide) ⟨Nat.le_of_ble_eq_true rfl, Nat.le_of_ble_eq_true rfl⟩ (hw_3  tr kp th ot tp sl pk rf ik) rfl rfl (Nat.le_of_ble_eq_true rfl) ⟨by decide, by decide⟩ rfl rfl ⟨Nat.zero_le _, Nat.zero_le _⟩ (hp_3  tr kp th ot tp sl pk rf ik tr) rfl ?_
                  refine m_run M (is := [(113, .goto 14, 0)]) (pc' := 127) (L' := [some (.ref 0), some (.int a0), some (.int a1), some (.ref (30 + 2 * a0.toNatClampNeg))]) (st' := [.int r1030]) (w' := (cX tr kp th ot tp sl pk rf ik)) (by decide +kernel) rfl trivial ?_
                  obtain rfl := Option.some.inj hf
                  exact m_iret K (by decide +kernel) (Nat.zero_le _) (Nat.zero_le _) ⟨rfl, rfl⟩
                · refine m_jT M (i := .if_icmp .ne 17) 116 (by decide +kernel) rfl (by decide) c_1029 ?_
                  refine m_run M (is := [(116, .aload_n 0, 0), (117, .getfield 10, 0), (120, .aload_n 3, 0)]) (pc' := 121) (L' := [some (.ref 0), some (.int a0), some (.int a1), some (.ref (30 + 2 * a0.toNatClampNeg))]) (st' := [.ref (30 + 2 * a0.toNatClampNeg), .ref 1]) (w' := (cX tr kp th ot tp sl pk rf ik)) (by decide +kernel) rfl trivial ?_
                  refine m_run M (is := [(121, .getfield 112, 0)]) (pc' := 124) (L' := [some (.ref 0), some (.int a0), some (.int a1), some (.ref (30 + 2 * a0.toNatClampNeg))]) (st' := [.int ((sl a0.toNatClampNeg).2.2.1), .ref 1]) (w' := (cX tr kp th ot tp sl pk rf ik)) (by decide +kernel) (s_getf (wX_so (inB_lt h_1007) tr kp th ot tp sl pk rf ik) rfl rfl) trivial ?_
                  obtain ⟨r1031, h_1031, hf⟩ := bnd_s hf
                  refine m_cV0 M (rest := []) (w2 := (cX tr kp th ot tp sl pk rf ik)) (st2 := [.int r1031]) (run_X1_stepsBack ((sl a0.toNatClampNeg).2.2.1)   tr h_1031) cv_X1_stepsBack lk_X3_128 (by decide +kernel) [1, 2, 3, 4, 5, 6] (by decide) ⟨Nat.le_of_ble_eq_true rfl, Nat.le_of_ble_eq_true rfl⟩ (hw_3  tr kp th ot tp sl pk rf ik) rfl rfl (Nat.le_of_ble_eq_true rfl) ⟨by decide, by decide⟩ rfl rfl ⟨Nat.zero_le _, Nat.zero_le _⟩ (hp_3  tr kp th ot tp sl pk rf ik tr) rfl ?_
                  obtain rfl := Option.some.inj hf
                  exact m_iret K (by decide +kernel) (Nat.zero_le _) (Nat.zero_le _) ⟨rfl, rfl⟩
      · refine m_jT M (i := .ifCond .ne 28) 60 (by decide +kernel) rfl (by decide) c_1009 ?_
        refine m_run M (is := [(60, .aload_n 0, 0), (61, .bipush (-3), -3)]) (pc' := 63) (L' := [some (.ref 0), some (.int a0), some (.int a1), some (.ref (30 + 2 * a0.toNatClampNeg))]) (st' := [.int (-3), .ref 0]) (w' := (cX tr kp th ot tp sl pk rf ik)) (by decide +kernel) rfl trivial ?_
        obtain ⟨r1032, h_1032, hf⟩ := bnd_s hf
        refine m_cV0 M (rest := []) (w2 := (cX tr kp th ot tp sl pk r1032.2 ik)) (st2 := [.int r1032.1]) (run_X3_refuse (-3)   tr kp th ot tp sl pk rf ik h_1032) cv_X3_refuse lk_X3_54 (by decide +kernel) (List.range 46) List.nodup_range ⟨(by rw [List.length_range]; exact Nat.le_refl _), Nat.le_of_ble_eq_true rfl⟩ (hwId rfl) rfl rfl (Nat.le_of_ble_eq_true rfl) ⟨by decide, by decide⟩ rfl rfl ⟨Nat.zero_le _, Nat.zero_le _⟩ (hpId rfl rfl) rfl ?_
        obtain rfl := Option.some.inj hf
        exact m_iret K (by decide +kernel) (Nat.zero_le _) (Nat.zero_le _) ⟨rfl, rfl⟩

def f_X3_comes (tr : ShT) (rf : AI) : Option (Int32 × ShT × AI) :=
  (f_X1_hasRoom tr).bind fun r1001 =>
  if r1001 = 0 then
    (f_X3_refuse (-6) rf).bind fun r1003 =>
    some (r1003.1, tr, r1003.2)
  else
    (f_X1_add tr).bind fun r1004 =>
    some (r1004.1, r1004.2, rf)
set_option maxRecDepth 100000 in
set_option maxHeartbeats 4000000 in
theorem run_X3_comes {l : Launch} {D : va_G} {cT : Nat → ClassId}    (tr : ShT) (kp : ShT) (th : ShT) (ot : ShT) (tp : TpT) (sl : (Nat → SlT)) (pk : AI) (rf : AI) (ik : Int32) {r : Int32 × ShT × AI} (hf : f_X3_comes tr rf = some r) : Runs l D cT yX3_comes cX3_comes 1 (some .int) 2 44 [.ref 0] (cX tr kp th ot tp sl pk rf ik) (EQ (some (.int r.1)) (cX r.2.1 kp th ot tp sl pk r.2.2 ik)) := by
  refine runs_of O_X3 okO_X3 (by decide +kernel) rfl rfl (Nat.le_of_ble_eq_true rfl) (Nat.le_of_ble_eq_true rfl) (fun g K => ?_)
  have M := K.b
  show g 0 0 (cX tr kp th ot tp sl pk rf ik) 0 [some (.ref 0)] []
  rw [f_X3_comes] at hf
  refine m_run M (is := [(0, .aload_n 0, 0), (1, .getfield 10, 0)]) (pc' := 4) (L' := [some (.ref 0)]) (st' := [.ref 1]) (w' := (cX tr kp th ot tp sl pk rf ik)) (by decide +kernel) rfl trivial ?_
  obtain ⟨r1001, h_1001, hf⟩ := bnd_s hf
  refine m_cV0 M (rest := []) (w2 := (cX tr kp th ot tp sl pk rf ik)) (st2 := [.int r1001]) (run_X1_hasRoom    tr h_1001) cv_X1_hasRoom lk_X3_131 (by decide +kernel) [1, 2, 3, 4, 5, 6] (by decide) ⟨Nat.le_of_ble_eq_true rfl, Nat.le_of_ble_eq_true rfl⟩ (hw_3  tr kp th ot tp sl pk rf ik) rfl rfl (Nat.le_of_ble_eq_true rfl) ⟨by decide, by decide⟩ rfl rfl ⟨Nat.zero_le _, Nat.zero_le _⟩ (hp_3  tr kp th ot tp sl pk rf ik tr) rfl ?_
  rcases ite_s hf with ⟨c_1002, hf⟩ | ⟨c_1002, hf⟩
  · refine m_jT M (i := .ifCond .eq 13) 20 (by decide +kernel) rfl (by decide) c_1002 ?_
    refine m_run M (is := [(20, .aload_n 0, 0), (21, .bipush (-6), -6)]) (pc' := 23) (L' := [some (.ref 0)]) (st' := [.int (-6), .ref 0]) (w' := (cX tr kp th ot tp sl pk rf ik)) (by decide +kernel) rfl trivial ?_
    obtain ⟨r1003, h_1003, hf⟩ := bnd_s hf
    refine m_cV0 M (rest := []) (w2 := (cX tr kp th ot tp sl pk r1003.2 ik)) (st2 := [.int r1003.1]) (run_X3_refuse (-6)   tr kp th ot tp sl pk rf ik h_1003) cv_X3_refuse lk_X3_54 (by decide +kernel) (List.range 46) List.nodup_range ⟨(by rw [List.length_range]; exact Nat.le_refl _), Nat.le_of_ble_eq_true rfl⟩ (hwId rfl) rfl rfl (Nat.le_of_ble_eq_true rfl) ⟨by decide, by decide⟩ rfl rfl ⟨Nat.zero_le _, Nat.zero_le _⟩ (hpId rfl rfl) rfl ?_
    obtain rfl := Option.some.inj hf
    exact m_iret K (by decide +kernel) (Nat.zero_le _) (Nat.zero_le _) ⟨rfl, rfl⟩
  · refine m_jF M (i := .ifCond .eq 13) 20 (by decide +kernel) rfl (by decide) c_1002 ?_
    refine m_run M (is := [(10, .aload_n 0, 0), (11, .getfield 10, 0)]) (pc' := 14) (L' := [some (.ref 0)]) (st' := [.ref 1]) (w' := (cX tr kp th ot tp sl pk rf ik)) (by decide +kernel) rfl trivial ?_
    obtain ⟨r1004, h_1004, hf⟩ := bnd_s hf
    refine m_cV0 M (rest := []) (w2 := (cX r1004.2 kp th ot tp sl pk rf ik)) (st2 := [.int r1004.1]) (run_X1_add    tr h_1004) cv_X1_add lk_X3_134 (by decide +kernel) [1, 2, 3, 4, 5, 6] (by decide) ⟨Nat.le_of_ble_eq_true rfl, Nat.le_of_ble_eq_true rfl⟩ (hw_3  tr kp th ot tp sl pk rf ik) rfl rfl (Nat.le_of_ble_eq_true rfl) ⟨by decide, by decide⟩ rfl rfl ⟨Nat.zero_le _, Nat.zero_le _⟩ (hp_3  tr kp th ot tp sl pk rf ik r1004.2) rfl ?_
    refine m_run M (is := [(17, .goto 9, 0)]) (pc' := 26) (L' := [some (.ref 0)]) (st' := [.int r1004.1]) (w' := (cX r1004.2 kp th ot tp sl pk rf ik)) (by decide +kernel) rfl trivial ?_
    obtain rfl := Option.some.inj hf
    exact m_iret K (by decide +kernel) (Nat.zero_le _) (Nat.zero_le _) ⟨rfl, rfl⟩

def f_X3_law (a0 : Int32) (a1 : Int32) (tr : ShT) (rf : AI) : Option (Int32 × ShT × AI) :=
  (f_X3_isKind a0).bind fun r1001 =>
  if r1001 = 0 then
    (f_X3_refuse (-2) rf).bind fun r1003 =>
    some (r1003.1, tr, r1003.2)
  else
    (f_X3_isBetween a1 0 15).bind fun r1004 =>
    if r1004 = 0 then
      (f_X3_refuse (-2) rf).bind fun r1006 =>
      some (r1006.1, tr, r1006.2)
    else
      (f_X1_hasRoomForLaw tr).bind fun r1007 =>
      if r1007 = 0 then
        (f_X3_refuse (-6) rf).bind fun r1009 =>
        some (r1009.1, tr, r1009.2)
      else
        (f_X1_addLaw a0 a1 tr).bind fun r1010 =>
        some (r1010.1, r1010.2, rf)
set_option maxRecDepth 100000 in
set_option maxHeartbeats 4000000 in
theorem run_X3_law {l : Launch} {D : va_G} {cT : Nat → ClassId} (a0 : Int32) (a1 : Int32)   (tr : ShT) (kp : ShT) (th : ShT) (ot : ShT) (tp : TpT) (sl : (Nat → SlT)) (pk : AI) (rf : AI) (ik : Int32) {r : Int32 × ShT × AI} (hf : f_X3_law a0 a1 tr rf = some r) : Runs l D cT yX3_law cX3_law 3 (some .int) 2 44 [.ref 0, .int a0, .int a1] (cX tr kp th ot tp sl pk rf ik) (EQ (some (.int r.1)) (cX r.2.1 kp th ot tp sl pk r.2.2 ik)) := by
  refine runs_of O_X3 okO_X3 (by decide +kernel) rfl rfl (Nat.le_of_ble_eq_true rfl) (Nat.le_of_ble_eq_true rfl) (fun g K => ?_)
  have M := K.b
  show g 0 0 (cX tr kp th ot tp sl pk rf ik) 0 [some (.ref 0), some (.int a0), some (.int a1)] []
  rw [f_X3_law] at hf
  refine m_run M (is := [(0, .iload_n 1, 0)]) (pc' := 1) (L' := [some (.ref 0), some (.int a0), some (.int a1)]) (st' := [.int a0]) (w' := (cX tr kp th ot tp sl pk rf ik)) (by decide +kernel) rfl trivial ?_
  obtain ⟨r1001, h_1001, hf⟩ := bnd_s hf
  refine m_cS0 M (rest := []) (w2 := (cX tr kp th ot tp sl pk rf ik)) (st2 := [.int r1001]) (run_X3_isKind a0    h_1001) cs_X3_isKind lk_X3_109 (by decide +kernel) [] (by decide) ⟨Nat.le_of_ble_eq_true rfl, Nat.le_of_ble_eq_true rfl⟩ rfl rfl (Nat.le_of_ble_eq_true rfl) ⟨by decide, by decide⟩ rfl rfl ⟨Nat.zero_le _, Nat.zero_le _⟩ rfl rfl ?_
  rcases ite_s hf with ⟨c_1002, hf⟩ | ⟨c_1002, hf⟩
  · refine m_jT M (i := .ifCond .eq 13) 17 (by decide +kernel) rfl (by decide) c_1002 ?_
    refine m_run M (is := [(17, .aload_n 0, 0), (18, .bipush (-2), -2)]) (pc' := 20) (L' := [some (.ref 0), some (.int a0), some (.int a1)]) (st' := [.int (-2), .ref 0]) (w' := (cX tr kp th ot tp sl pk rf ik)) (by decide +kernel) rfl trivial ?_
    obtain ⟨r1003, h_1003, hf⟩ := bnd_s hf
    refine m_cV0 M (rest := []) (w2 := (cX tr kp th ot tp sl pk r1003.2 ik)) (st2 := [.int r1003.1]) (run_X3_refuse (-2)   tr kp th ot tp sl pk rf ik h_1003) cv_X3_refuse lk_X3_54 (by decide +kernel) (List.range 46) List.nodup_range ⟨(by rw [List.length_range]; exact Nat.le_refl _), Nat.le_of_ble_eq_true rfl⟩ (hwId rfl) rfl rfl (Nat.le_of_ble_eq_true rfl) ⟨by decide, by decide⟩ rfl rfl ⟨Nat.zero_le _, Nat.zero_le _⟩ (hpId rfl rfl) rfl ?_
    obtain rfl := Option.some.inj hf
    exact m_iret K (by decide +kernel) (Nat.zero_le _) (Nat.zero_le _) ⟨rfl, rfl⟩
  · refine m_jF M (i := .ifCond .eq 13) 17 (by decide +kernel) rfl (by decide) c_1002 ?_
    refine m_run M (is := [(7, .iload_n 2, 0), (8, .iconst 0, 0), (9, .bipush 15, 15)]) (pc' := 11) (L' := [some (.ref 0), some (.int a0), some (.int a1)]) (st' := [.int 15, .int 0, .int a1]) (w' := (cX tr kp th ot tp sl pk rf ik)) (by decide +kernel) rfl trivial ?_
    obtain ⟨r1004, h_1004, hf⟩ := bnd_s hf
    refine m_cS0 M (rest := []) (w2 := (cX tr kp th ot tp sl pk rf ik)) (st2 := [.int r1004]) (run_X3_isBetween a1 0 15    h_1004) cs_X3_isBetween lk_X3_50 (by decide +kernel) [] (by decide) ⟨Nat.le_of_ble_eq_true rfl, Nat.le_of_ble_eq_true rfl⟩ rfl rfl (Nat.le_of_ble_eq_true rfl) ⟨by decide, by decide⟩ rfl rfl ⟨Nat.zero_le _, Nat.zero_le _⟩ rfl rfl ?_
    rcases ite_s hf with ⟨c_1005, hf⟩ | ⟨c_1005, hf⟩
    · refine m_jF M (i := .ifCond .ne 10) 24 (by decide +kernel) rfl (by decide) (fun n => n c_1005) ?_
      refine m_run M (is := [(17, .aload_n 0, 0), (18, .bipush (-2), -2)]) (pc' := 20) (L' := [some (.ref 0), some (.int a0), some (.int a1)]) (st' := [.int (-2), .ref 0]) (w' := (cX tr kp th ot tp sl pk rf ik)) (by decide +kernel) rfl trivial ?_
      obtain ⟨r1006, h_1006, hf⟩ := bnd_s hf
      refine m_cV0 M (rest := []) (w2 := (cX tr kp th ot tp sl pk r1006.2 ik)) (st2 := [.int r1006.1]) (run_X3_refuse (-2)   tr kp th ot tp sl pk rf ik h_1006) cv_X3_refuse lk_X3_54 (by decide +kernel) (List.range 46) List.nodup_range ⟨(by rw [List.length_range]; exact Nat.le_refl _), Nat.le_of_ble_eq_true rfl⟩ (hwId rfl) rfl rfl (Nat.le_of_ble_eq_true rfl) ⟨by decide, by decide⟩ rfl rfl ⟨Nat.zero_le _, Nat.zero_le _⟩ (hpId rfl rfl) rfl ?_
      obtain rfl := Option.some.inj hf
      exact m_iret K (by decide +kernel) (Nat.zero_le _) (Nat.zero_le _) ⟨rfl, rfl⟩
    · refine m_jT M (i := .ifCond .ne 10) 24 (by decide +kernel) rfl (by decide) c_1005 ?_
      refine m_run M (is := [(24, .aload_n 0, 0), (25, .getfield 10, 0)]) (pc' := 28) (L' := [some (.ref 0), some (.int a0), some (.int a1)]) (st' := [.ref 1]) (w' := (cX tr kp th ot tp sl pk rf ik)) (by decide +kernel) rfl trivial ?_
      obtain ⟨r1007, h_1007, hf⟩ := bnd_s hf
      refine m_cV0 M (rest := []) (w2 := (cX tr kp th ot tp sl pk rf ik)) (st2 := [.int r1007]) (run_X1_hasRoomForLaw    tr h_1007) cv_X1_hasRoomForLaw lk_X3_137 (by decide +kernel) [1, 2, 3, 4, 5, 6] (by decide) ⟨Nat.le_of_ble_eq_true rfl, Nat.le_of_ble_eq_true rfl⟩ (hw_3  tr kp th ot tp sl pk rf ik) rfl rfl (Nat.le_of_ble_eq_true rfl) ⟨by decide, by decide⟩ rfl rfl ⟨Nat.zero_le _, Nat.zero_le _⟩ (hp_3  tr kp th ot tp sl pk rf ik tr) rfl ?_
      rcases ite_s hf with ⟨c_1008, hf⟩ | ⟨c_1008, hf⟩
      · refine m_jT M (i := .ifCond .eq 15) 46 (by decide +kernel) rfl (by decide) c_1008 ?_
        refine m_run M (is := [(46, .aload_n 0, 0), (47, .bipush (-6), -6)]) (pc' := 49) (L' := [some (.ref 0), some (.int a0), some (.int a1)]) (st' := [.int (-6), .ref 0]) (w' := (cX tr kp th ot tp sl pk rf ik)) (by decide +kernel) rfl trivial ?_
        obtain ⟨r1009, h_1009, hf⟩ := bnd_s hf
        refine m_cV0 M (rest := []) (w2 := (cX tr kp th ot tp sl pk r1009.2 ik)) (st2 := [.int r1009.1]) (run_X3_refuse (-6)   tr kp th ot tp sl pk rf ik h_1009) cv_X3_refuse lk_X3_54 (by decide +kernel) (List.range 46) List.nodup_range ⟨(by rw [List.length_range]; exact Nat.le_refl _), Nat.le_of_ble_eq_true rfl⟩ (hwId rfl) rfl rfl (Nat.le_of_ble_eq_true rfl) ⟨by decide, by decide⟩ rfl rfl ⟨Nat.zero_le _, Nat.zero_le _⟩ (hpId rfl rfl) rfl ?_
        obtain rfl := Option.some.inj hf
        exact m_iret K (by decide +kernel) (Nat.zero_le _) (Nat.zero_le _) ⟨rfl, rfl⟩
      · refine m_jF M (i := .ifCond .eq 15) 46 (by decide +kernel) rfl (by decide) c_1008 ?_
        refine m_run M (is := [(34, .aload_n 0, 0), (35, .getfield 10, 0), (38, .iload_n 1, 0), (39, .iload_n 2, 0)]) (pc' := 40) (L' := [some (.ref 0), some (.int a0), some (.int a1)]) (st' := [.int a1, .int a0, .ref 1]) (w' := (cX tr kp th ot tp sl pk rf ik)) (by decide +kernel) rfl trivial ?_
        obtain ⟨r1010, h_1010, hf⟩ := bnd_s hf
        refine m_cV0 M (rest := []) (w2 := (cX r1010.2 kp th ot tp sl pk rf ik)) (st2 := [.int r1010.1]) (run_X1_addLaw a0 a1   tr h_1010) cv_X1_addLaw lk_X3_140 (by decide +kernel) [1, 2, 3, 4, 5, 6] (by decide) ⟨Nat.le_of_ble_eq_true rfl, Nat.le_of_ble_eq_true rfl⟩ (hw_3  tr kp th ot tp sl pk rf ik) rfl rfl (Nat.le_of_ble_eq_true rfl) ⟨by decide, by decide⟩ rfl rfl ⟨Nat.zero_le _, Nat.zero_le _⟩ (hp_3  tr kp th ot tp sl pk rf ik r1010.2) rfl ?_
        refine m_run M (is := [(43, .goto 9, 0)]) (pc' := 52) (L' := [some (.ref 0), some (.int a0), some (.int a1)]) (st' := [.int r1010.1]) (w' := (cX r1010.2 kp th ot tp sl pk rf ik)) (by decide +kernel) rfl trivial ?_
        obtain rfl := Option.some.inj hf
        exact m_iret K (by decide +kernel) (Nat.zero_le _) (Nat.zero_le _) ⟨rfl, rfl⟩

def f_X3_use (a0 : Int32) (tr : ShT) (rf : AI) : Option (Int32 × ShT × AI) :=
  (f_X1_hasLaw a0 tr).bind fun r1001 =>
  if r1001 = 0 then
    (f_X3_refuse (-2) rf).bind fun r1003 =>
    some (r1003.1, tr, r1003.2)
  else
    some (tr.2.2.2.2.2.2.2.1, (tr.1, tr.2.1, tr.2.2.1, tr.2.2.2.1, tr.2.2.2.2.1, tr.2.2.2.2.2.1, tr.2.2.2.2.2.2.1, a0, tr.2.2.2.2.2.2.2.2.1, tr.2.2.2.2.2.2.2.2.2), rf)
set_option maxRecDepth 100000 in
set_option maxHeartbeats 4000000 in
theorem run_X3_use {l : Launch} {D : va_G} {cT : Nat → ClassId} (a0 : Int32)   (tr : ShT) (kp : ShT) (th : ShT) (ot : ShT) (tp : TpT) (sl : (Nat → SlT)) (pk : AI) (rf : AI) (ik : Int32) {r : Int32 × ShT × AI} (hf : f_X3_use a0 tr rf = some r) : Runs l D cT yX3_use cX3_use 3 (some .int) 2 44 [.ref 0, .int a0] (cX tr kp th ot tp sl pk rf ik) (EQ (some (.int r.1)) (cX r.2.1 kp th ot tp sl pk r.2.2 ik)) := by
  refine runs_of O_X3 okO_X3 (by decide +kernel) rfl rfl (Nat.le_of_ble_eq_true rfl) (Nat.le_of_ble_eq_true rfl) (fun g K => ?_)
  have M := K.b
  show g 0 0 (cX tr kp th ot tp sl pk rf ik) 0 [some (.ref 0), some (.int a0), none] []
  rw [f_X3_use] at hf
  refine m_run M (is := [(0, .aload_n 0, 0), (1, .getfield 10, 0), (4, .iload_n 1, 0)]) (pc' := 5) (L' := [some (.ref 0), some (.int a0), none]) (st' := [.int a0, .ref 1]) (w' := (cX tr kp th ot tp sl pk rf ik)) (by decide +kernel) rfl trivial ?_
  obtain ⟨r1001, h_1001, hf⟩ := bnd_s hf
  refine m_cV0 M (rest := []) (w2 := (cX tr kp th ot tp sl pk rf ik)) (st2 := [.int r1001]) (run_X1_hasLaw a0   tr h_1001) cv_X1_hasLaw lk_X3_102 (by decide +kernel) [1, 2, 3, 4, 5, 6] (by decide) ⟨Nat.le_of_ble_eq_true rfl, Nat.le_of_ble_eq_true rfl⟩ (hw_3  tr kp th ot tp sl pk rf ik) rfl rfl (Nat.le_of_ble_eq_true rfl) ⟨by decide, by decide⟩ rfl rfl ⟨Nat.zero_le _, Nat.zero_le _⟩ (hp_3  tr kp th ot tp sl pk rf ik tr) rfl ?_
  rcases ite_s hf with ⟨c_1002, hf⟩ | ⟨c_1002, hf⟩
  · refine m_jF M (i := .ifCond .ne 10) 18 (by decide +kernel) rfl (by decide) (fun n => n c_1002) ?_
    refine m_run M (is := [(11, .aload_n 0, 0), (12, .bipush (-2), -2)]) (pc' := 14) (L' := [some (.ref 0), some (.int a0), none]) (st' := [.int (-2), .ref 0]) (w' := (cX tr kp th ot tp sl pk rf ik)) (by decide +kernel) rfl trivial ?_
    obtain ⟨r1003, h_1003, hf⟩ := bnd_s hf
    refine m_cV0 M (rest := []) (w2 := (cX tr kp th ot tp sl pk r1003.2 ik)) (st2 := [.int r1003.1]) (run_X3_refuse (-2)   tr kp th ot tp sl pk rf ik h_1003) cv_X3_refuse lk_X3_54 (by decide +kernel) (List.range 46) List.nodup_range ⟨(by rw [List.length_range]; exact Nat.le_refl _), Nat.le_of_ble_eq_true rfl⟩ (hwId rfl) rfl rfl (Nat.le_of_ble_eq_true rfl) ⟨by decide, by decide⟩ rfl rfl ⟨Nat.zero_le _, Nat.zero_le _⟩ (hpId rfl rfl) rfl ?_
    obtain rfl := Option.some.inj hf
    exact m_iret K (by decide +kernel) (Nat.zero_le _) (Nat.zero_le _) ⟨rfl, rfl⟩
  · refine m_jT M (i := .ifCond .ne 10) 18 (by decide +kernel) rfl (by decide) c_1002 ?_
    refine m_run M (is := [(18, .aload_n 0, 0), (19, .getfield 10, 0), (22, .getfield 144, 0), (25, .istore_n 2, 0), (26, .aload_n 0, 0), (27, .getfield 10, 0), (30, .iload_n 1, 0), (31, .putfield 144, 0), (34, .iload_n 2, 0)]) (pc' := 35) (L' := [some (.ref 0), some (.int a0), some (.int tr.2.2.2.2.2.2.2.1)]) (st' := [.int tr.2.2.2.2.2.2.2.1]) (w' := (cX (tr.1, tr.2.1, tr.2.2.1, tr.2.2.2.1, tr.2.2.2.2.1, tr.2.2.2.2.2.1, tr.2.2.2.2.2.2.1, a0, tr.2.2.2.2.2.2.2.2.1, tr.2.2.2.2.2.2.2.2.2) kp th ot tp sl pk rf ik)) (by decide +kernel) rfl trivial ?_
    obtain rfl := Option.some.inj hf
    exact m_iret K (by decide +kernel) (Nat.zero_le _) (Nat.zero_le _) ⟨rfl, rfl⟩

def f_X3_tell (a0 : Int32) (a1 : Int32) (a2 : Int32) (tr : ShT) (rf : AI) : Option (Int32 × ShT × AI) :=
  (f_X1_hasPerson a0 tr).bind fun r1001 =>
  if r1001 = 0 then
    (f_X3_refuse (-2) rf).bind fun r1003 =>
    some (r1003.1, tr, r1003.2)
  else
    if a1 = 0 then
      (f_X3_isBetween a2 0 999).bind fun r1005 =>
      if r1005 = 0 then
        if a1 = 1 then
          (f_X3_isBetween a2 1 99).bind fun r1008 =>
          if r1008 = 0 then
            (f_X3_refuse (-2) rf).bind fun r1010 =>
            some (r1010.1, tr, r1010.2)
          else
            if inB a0 16 then
            if inB a0 16 then
            some ((tr.2.2.1 a0.toNatClampNeg), (tr.1, tr.2.1, (upd tr.2.2.1 a0.toNatClampNeg a2), tr.2.2.2.1, tr.2.2.2.2.1, tr.2.2.2.2.2.1, tr.2.2.2.2.2.2.1, tr.2.2.2.2.2.2.2.1, tr.2.2.2.2.2.2.2.2.1, tr.2.2.2.2.2.2.2.2.2), rf)
            else none
            else none
        else
          (f_X3_refuse (-2) rf).bind fun r1013 =>
          some (r1013.1, tr, r1013.2)
      else
        if inB a0 16 then
        if inB a0 16 then
        some ((tr.2.1 a0.toNatClampNeg), (tr.1, (upd tr.2.1 a0.toNatClampNeg a2), tr.2.2.1, tr.2.2.2.1, tr.2.2.2.2.1, tr.2.2.2.2.2.1, tr.2.2.2.2.2.2.1, tr.2.2.2.2.2.2.2.1, tr.2.2.2.2.2.2.2.2.1, tr.2.2.2.2.2.2.2.2.2), rf)
        else none
        else none
    else
      if a1 = 1 then
        (f_X3_isBetween a2 1 99).bind fun r1017 =>
        if r1017 = 0 then
          (f_X3_refuse (-2) rf).bind fun r1019 =>
          some (r1019.1, tr, r1019.2)
        else
          if inB a0 16 then
          if inB a0 16 then
          some ((tr.2.2.1 a0.toNatClampNeg), (tr.1, tr.2.1, (upd tr.2.2.1 a0.toNatClampNeg a2), tr.2.2.2.1, tr.2.2.2.2.1, tr.2.2.2.2.2.1, tr.2.2.2.2.2.2.1, tr.2.2.2.2.2.2.2.1, tr.2.2.2.2.2.2.2.2.1, tr.2.2.2.2.2.2.2.2.2), rf)
          else none
          else none
      else
        (f_X3_refuse (-2) rf).bind fun r1022 =>
        some (r1022.1, tr, r1022.2)
set_option maxRecDepth 100000 in
set_option maxHeartbeats 4000000 in
theorem run_X3_tell {l : Launch} {D : va_G} {cT : Nat → ClassId} (a0 : Int32) (a1 : Int32) (a2 : Int32)   (tr : ShT) (kp : ShT) (th : ShT) (ot : ShT) (tp : TpT) (sl : (Nat → SlT)) (pk : AI) (rf : AI) (ik : Int32) {r : Int32 × ShT × AI} (hf : f_X3_tell a0 a1 a2 tr rf = some r) : Runs l D cT yX3_tell cX3_tell 5 (some .int) 2 44 [.ref 0, .int a0, .int a1, .int a2] (cX tr kp th ot tp sl pk rf ik) (EQ (some (.int r.1)) (cX r.2.1 kp th ot tp sl pk r.2.2 ik)) := by
  refine runs_of O_X3 okO_X3 (by decide +kernel) rfl rfl (Nat.le_of_ble_eq_true rfl) (Nat.le_of_ble_eq_true rfl) (fun g K => ?_)
  have M := K.b
  show g 0 0 (cX tr kp th ot tp sl pk rf ik) 0 [some (.ref 0), some (.int a0), some (.int a1), some (.int a2), none] []
  rw [f_X3_tell] at hf
  refine m_run M (is := [(0, .aload_n 0, 0), (1, .getfield 10, 0), (4, .iload_n 1, 0)]) (pc' := 5) (L' := [some (.ref 0), some (.int a0), some (.int a1), some (.int a2), none]) (st' := [.int a0, .ref 1]) (w' := (cX tr kp th ot tp sl pk rf ik)) (by decide +kernel) rfl trivial ?_
  obtain ⟨r1001, h_1001, hf⟩ := bnd_s hf
  refine m_cV0 M (rest := []) (w2 := (cX tr kp th ot tp sl pk rf ik)) (st2 := [.int r1001]) (run_X1_hasPerson a0   tr h_1001) cv_X1_hasPerson lk_X3_147 (by decide +kernel) [1, 2, 3, 4, 5, 6] (by decide) ⟨Nat.le_of_ble_eq_true rfl, Nat.le_of_ble_eq_true rfl⟩ (hw_3  tr kp th ot tp sl pk rf ik) rfl rfl (Nat.le_of_ble_eq_true rfl) ⟨by decide, by decide⟩ rfl rfl ⟨Nat.zero_le _, Nat.zero_le _⟩ (hp_3  tr kp th ot tp sl pk rf ik tr) rfl ?_
  rcases ite_s hf with ⟨c_1002, hf⟩ | ⟨c_1002, hf⟩
  · refine m_jF M (i := .ifCond .ne 10) 18 (by decide +kernel) rfl (by decide) (fun n => n c_1002) ?_
    refine m_run M (is := [(11, .aload_n 0, 0), (12, .bipush (-2), -2)]) (pc' := 14) (L' := [some (.ref 0), some (.int a0), some (.int a1), some (.int a2), none]) (st' := [.int (-2), .ref 0]) (w' := (cX tr kp th ot tp sl pk rf ik)) (by decide +kernel) rfl trivial ?_
    obtain ⟨r1003, h_1003, hf⟩ := bnd_s hf
    refine m_cV0 M (rest := []) (w2 := (cX tr kp th ot tp sl pk r1003.2 ik)) (st2 := [.int r1003.1]) (run_X3_refuse (-2)   tr kp th ot tp sl pk rf ik h_1003) cv_X3_refuse lk_X3_54 (by decide +kernel) (List.range 46) List.nodup_range ⟨(by rw [List.length_range]; exact Nat.le_refl _), Nat.le_of_ble_eq_true rfl⟩ (hwId rfl) rfl rfl (Nat.le_of_ble_eq_true rfl) ⟨by decide, by decide⟩ rfl rfl ⟨Nat.zero_le _, Nat.zero_le _⟩ (hpId rfl rfl) rfl ?_
    obtain rfl := Option.some.inj hf
    exact m_iret K (by decide +kernel) (Nat.zero_le _) (Nat.zero_le _) ⟨rfl, rfl⟩
  · refine m_jT M (i := .ifCond .ne 10) 18 (by decide +kernel) rfl (by decide) c_1002 ?_
    refine m_run M (is := [(18, .iload_n 2, 0)]) (pc' := 19) (L' := [some (.ref 0), some (.int a0), some (.int a1), some (.int a2), none]) (st' := [.int a1]) (w' := (cX tr kp th ot tp sl pk rf ik)) (by decide +kernel) rfl trivial ?_
    rcases ite_s hf with ⟨c_1004, hf⟩ | ⟨c_1004, hf⟩
    · refine m_jF M (i := .ifCond .ne 38) 57 (by decide +kernel) rfl (by decide) (fun n => n c_1004) ?_
      refine m_run M (is := [(22, .iload_n 3, 0), (23, .iconst 0, 0), (24, .sipush 999, 999)]) (pc' := 27) (L' := [some (.ref 0), some (.int a0), some (.int a1), some (.int a2), none]) (st' := [.int 999, .int 0, .int a2]) (w' := (cX tr kp th ot tp sl pk rf ik)) (by decide +kernel) rfl trivial ?_
      obtain ⟨r1005, h_1005, hf⟩ := bnd_s hf
      refine m_cS0 M (rest := []) (w2 := (cX tr kp th ot tp sl pk rf ik)) (st2 := [.int r1005]) (run_X3_isBetween a2 0 999    h_1005) cs_X3_isBetween lk_X3_50 (by decide +kernel) [] (by decide) ⟨Nat.le_of_ble_eq_true rfl, Nat.le_of_ble_eq_true rfl⟩ rfl rfl (Nat.le_of_ble_eq_true rfl) ⟨by decide, by decide⟩ rfl rfl ⟨Nat.zero_le _, Nat.zero_le _⟩ rfl rfl ?_
      rcases ite_s hf with ⟨c_1006, hf⟩ | ⟨c_1006, hf⟩
      · refine m_jT M (i := .ifCond .eq 27) 57 (by decide +kernel) rfl (by decide) c_1006 ?_
        refine m_run M (is := [(57, .iload_n 2, 0), (58, .iconst 1, 1)]) (pc' := 59) (L' := [some (.ref 0), some (.int a0), some (.int a1), some (.int a2), none]) (st' := [.int 1, .int a1]) (w' := (cX tr kp th ot tp sl pk rf ik)) (by decide +kernel) rfl trivial ?_
        rcases ite_s hf with ⟨c_1007, hf⟩ | ⟨c_1007, hf⟩
        · refine m_jF M (i := .if_icmp .ne 37) 96 (by decide +kernel) rfl (by decide) (fun n => n c_1007) ?_
          refine m_run M (is := [(62, .iload_n 3, 0), (63, .iconst 1, 1), (64, .bipush 99, 99)]) (pc' := 66) (L' := [some (.ref 0), some (.int a0), some (.int a1), some (.int a2), none]) (st' := [.int 99, .int 1, .int a2]) (w' := (cX tr kp th ot tp sl pk rf ik)) (by decide +kernel) rfl trivial ?_
          obtain ⟨r1008, h_1008, hf⟩ := bnd_s hf
          refine m_cS0 M (rest := []) (w2 := (cX tr kp th ot tp sl pk rf ik)) (st2 := [.int r1008]) (run_X3_isBetween a2 1 99    h_1008) cs_X3_isBetween lk_X3_50 (by decide +kernel) [] (by decide) ⟨Nat.le_of_ble_eq_true rfl, Nat.le_of_ble_eq_true rfl⟩ rfl rfl (Nat.le_of_ble_eq_true rfl) ⟨by decide, by decide⟩ rfl rfl ⟨Nat.zero_le _, Nat.zero_le _⟩ rfl rfl ?_
          rcases ite_s hf with ⟨c_1009, hf⟩ | ⟨c_1009, hf⟩
          · refine m_jT M (i := .ifCond .eq 27) 96 (by decide +kernel) rfl (by decide) c_1009 ?_
            refine m_run M (is := [(96, .aload_n 0, 0), (97, .bipush (-2), -2)]) (pc' := 99) (L' := [some (.ref 0), some (.int a0), some (.int a1), some (.int a2), none]) (st' := [.int (-2), .ref 0]) (w' := (cX tr kp th ot tp sl pk rf ik)) (by decide +kernel) rfl trivial ?_
            obtain ⟨r1010, h_1010, hf⟩ := bnd_s hf
            refine m_cV0 M (rest := []) (w2 := (cX tr kp th ot tp sl pk r1010.2 ik)) (st2 := [.int r1010.1]) (run_X3_refuse (-2)   tr kp th ot tp sl pk rf ik h_1010) cv_X3_refuse lk_X3_54 (by decide +kernel) (List.range 46) List.nodup_range ⟨(by rw [List.length_range]; exact Nat.le_refl _), Nat.le_of_ble_eq_true rfl⟩ (hwId rfl) rfl rfl (Nat.le_of_ble_eq_true rfl) ⟨by decide, by decide⟩ rfl rfl ⟨Nat.zero_le _, Nat.zero_le _⟩ (hpId rfl rfl) rfl ?_
            refine m_run M (is := [(102, .istore 4, 0), (104, .iload 4, 0)]) (pc' := 106) (L' := [some (.ref 0), some (.int a0), some (.int a1), some (.int a2), some (.int r1010.1)]) (st' := [.int r1010.1]) (w' := (cX tr kp th ot tp sl pk r1010.2 ik)) (by decide +kernel) rfl trivial ?_
            obtain rfl := Option.some.inj hf
            exact m_iret K (by decide +kernel) (Nat.zero_le _) (Nat.zero_le _) ⟨rfl, rfl⟩
          · refine m_jF M (i := .ifCond .eq 27) 96 (by decide +kernel) rfl (by decide) c_1009 ?_
            obtain ⟨h_1011, hf⟩ := grd_s hf
            obtain ⟨h_1012, hf⟩ := grd_s hf
            refine m_run M (is := [(72, .aload_n 0, 0), (73, .getfield 10, 0), (76, .getfield 153, 0), (79, .iload_n 1, 0), (80, .iaload, 0), (81, .istore 4, 0), (83, .aload_n 0, 0), (84, .getfield 10, 0), (87, .getfield 153, 0), (90, .iload_n 1, 0), (91, .iload_n 3, 0), (92, .iastore, 0), (93, .goto 11, 0), (104, .iload 4, 0)]) (pc' := 106) (L' := [some (.ref 0), some (.int a0), some (.int a1), some (.int a2), some (.int (tr.2.2.1 a0.toNatClampNeg))]) (st' := [.int (tr.2.2.1 a0.toNatClampNeg)]) (w' := (cX (tr.1, tr.2.1, (upd tr.2.2.1 a0.toNatClampNeg a2), tr.2.2.2.1, tr.2.2.2.2.1, tr.2.2.2.2.2.1, tr.2.2.2.2.2.2.1, tr.2.2.2.2.2.2.2.1, tr.2.2.2.2.2.2.2.2.1, tr.2.2.2.2.2.2.2.2.2) kp th ot tp sl pk rf ik)) (by decide +kernel) rfl ⟨inB_use h_1011, inB_use h_1012, trivial⟩ ?_
            obtain rfl := Option.some.inj hf
            exact m_iret K (by decide +kernel) (Nat.zero_le _) (Nat.zero_le _) ⟨rfl, rfl⟩
        · refine m_jT M (i := .if_icmp .ne 37) 96 (by decide +kernel) rfl (by decide) c_1007 ?_
          refine m_run M (is := [(96, .aload_n 0, 0), (97, .bipush (-2), -2)]) (pc' := 99) (L' := [some (.ref 0), some (.int a0), some (.int a1), some (.int a2), none]) (st' := [.int (-2), .ref 0]) (w' := (cX tr kp th ot tp sl pk rf ik)) (by decide +kernel) rfl trivial ?_
          obtain ⟨r1013, h_1013, hf⟩ := bnd_s hf
          refine m_cV0 M (rest := []) (w2 := (cX tr kp th ot tp sl pk r1013.2 ik)) (st2 := [.int r1013.1]) (run_X3_refuse (-2)   tr kp th ot tp sl pk rf ik h_1013) cv_X3_refuse lk_X3_54 (by decide +kernel) (List.range 46) List.nodup_range ⟨(by rw [List.length_range]; exact Nat.le_refl _), Nat.le_of_ble_eq_true rfl⟩ (hwId rfl) rfl rfl (Nat.le_of_ble_eq_true rfl) ⟨by decide, by decide⟩ rfl rfl ⟨Nat.zero_le _, Nat.zero_le _⟩ (hpId rfl rfl) rfl ?_
          refine m_run M (is := [(102, .istore 4, 0), (104, .iload 4, 0)]) (pc' := 106) (L' := [some (.ref 0), some (.int a0), some (.int a1), some (.int a2), some (.int r1013.1)]) (st' := [.int r1013.1]) (w' := (cX tr kp th ot tp sl pk r1013.2 ik)) (by decide +kernel) rfl trivial ?_
          obtain rfl := Option.some.inj hf
          exact m_iret K (by decide +kernel) (Nat.zero_le _) (Nat.zero_le _) ⟨rfl, rfl⟩
      · refine m_jF M (i := .ifCond .eq 27) 57 (by decide +kernel) rfl (by decide) c_1006 ?_
        obtain ⟨h_1014, hf⟩ := grd_s hf
        obtain ⟨h_1015, hf⟩ := grd_s hf
        refine m_run M (is := [(33, .aload_n 0, 0), (34, .getfield 10, 0), (37, .getfield 150, 0), (40, .iload_n 1, 0), (41, .iaload, 0), (42, .istore 4, 0), (44, .aload_n 0, 0), (45, .getfield 10, 0), (48, .getfield 150, 0), (51, .iload_n 1, 0), (52, .iload_n 3, 0), (53, .iastore, 0), (54, .goto 50, 0), (104, .iload 4, 0)]) (pc' := 106) (L' := [some (.ref 0), some (.int a0), some (.int a1), some (.int a2), some (.int (tr.2.1 a0.toNatClampNeg))]) (st' := [.int (tr.2.1 a0.toNatClampNeg)]) (w' := (cX (tr.1, (upd tr.2.1 a0.toNatClampNeg a2), tr.2.2.1, tr.2.2.2.1, tr.2.2.2.2.1, tr.2.2.2.2.2.1, tr.2.2.2.2.2.2.1, tr.2.2.2.2.2.2.2.1, tr.2.2.2.2.2.2.2.2.1, tr.2.2.2.2.2.2.2.2.2) kp th ot tp sl pk rf ik)) (by decide +kernel) rfl ⟨inB_use h_1014, inB_use h_1015, trivial⟩ ?_
        obtain rfl := Option.some.inj hf
        exact m_iret K (by decide +kernel) (Nat.zero_le _) (Nat.zero_le _) ⟨rfl, rfl⟩
    · refine m_jT M (i := .ifCond .ne 38) 57 (by decide +kernel) rfl (by decide) c_1004 ?_
      refine m_run M (is := [(57, .iload_n 2, 0), (58, .iconst 1, 1)]) (pc' := 59) (L' := [some (.ref 0), some (.int a0), some (.int a1), some (.int a2), none]) (st' := [.int 1, .int a1]) (w' := (cX tr kp th ot tp sl pk rf ik)) (by decide +kernel) rfl trivial ?_
      rcases ite_s hf with ⟨c_1016, hf⟩ | ⟨c_1016, hf⟩
      · refine m_jF M (i := .if_icmp .ne 37) 96 (by decide +kernel) rfl (by decide) (fun n => n c_1016) ?_
        refine m_run M (is := [(62, .iload_n 3, 0), (63, .iconst 1, 1), (64, .bipush 99, 99)]) (pc' := 66) (L' := [some (.ref 0), some (.int a0), some (.int a1), some (.int a2), none]) (st' := [.int 99, .int 1, .int a2]) (w' := (cX tr kp th ot tp sl pk rf ik)) (by decide +kernel) rfl trivial ?_
        obtain ⟨r1017, h_1017, hf⟩ := bnd_s hf
        refine m_cS0 M (rest := []) (w2 := (cX tr kp th ot tp sl pk rf ik)) (st2 := [.int r1017]) (run_X3_isBetween a2 1 99    h_1017) cs_X3_isBetween lk_X3_50 (by decide +kernel) [] (by decide) ⟨Nat.le_of_ble_eq_true rfl, Nat.le_of_ble_eq_true rfl⟩ rfl rfl (Nat.le_of_ble_eq_true rfl) ⟨by decide, by decide⟩ rfl rfl ⟨Nat.zero_le _, Nat.zero_le _⟩ rfl rfl ?_
        rcases ite_s hf with ⟨c_1018, hf⟩ | ⟨c_1018, hf⟩
        · refine m_jT M (i := .ifCond .eq 27) 96 (by decide +kernel) rfl (by decide) c_1018 ?_
          refine m_run M (is := [(96, .aload_n 0, 0), (97, .bipush (-2), -2)]) (pc' := 99) (L' := [some (.ref 0), some (.int a0), some (.int a1), some (.int a2), none]) (st' := [.int (-2), .ref 0]) (w' := (cX tr kp th ot tp sl pk rf ik)) (by decide +kernel) rfl trivial ?_
          obtain ⟨r1019, h_1019, hf⟩ := bnd_s hf
          refine m_cV0 M (rest := []) (w2 := (cX tr kp th ot tp sl pk r1019.2 ik)) (st2 := [.int r1019.1]) (run_X3_refuse (-2)   tr kp th ot tp sl pk rf ik h_1019) cv_X3_refuse lk_X3_54 (by decide +kernel) (List.range 46) List.nodup_range ⟨(by rw [List.length_range]; exact Nat.le_refl _), Nat.le_of_ble_eq_true rfl⟩ (hwId rfl) rfl rfl (Nat.le_of_ble_eq_true rfl) ⟨by decide, by decide⟩ rfl rfl ⟨Nat.zero_le _, Nat.zero_le _⟩ (hpId rfl rfl) rfl ?_
          refine m_run M (is := [(102, .istore 4, 0), (104, .iload 4, 0)]) (pc' := 106) (L' := [some (.ref 0), some (.int a0), some (.int a1), some (.int a2), some (.int r1019.1)]) (st' := [.int r1019.1]) (w' := (cX tr kp th ot tp sl pk r1019.2 ik)) (by decide +kernel) rfl trivial ?_
          obtain rfl := Option.some.inj hf
          exact m_iret K (by decide +kernel) (Nat.zero_le _) (Nat.zero_le _) ⟨rfl, rfl⟩
        · refine m_jF M (i := .ifCond .eq 27) 96 (by decide +kernel) rfl (by decide) c_1018 ?_
          obtain ⟨h_1020, hf⟩ := grd_s hf
          obtain ⟨h_1021, hf⟩ := grd_s hf
          refine m_run M (is := [(72, .aload_n 0, 0), (73, .getfield 10, 0), (76, .getfield 153, 0), (79, .iload_n 1, 0), (80, .iaload, 0), (81, .istore 4, 0), (83, .aload_n 0, 0), (84, .getfield 10, 0), (87, .getfield 153, 0), (90, .iload_n 1, 0), (91, .iload_n 3, 0), (92, .iastore, 0), (93, .goto 11, 0), (104, .iload 4, 0)]) (pc' := 106) (L' := [some (.ref 0), some (.int a0), some (.int a1), some (.int a2), some (.int (tr.2.2.1 a0.toNatClampNeg))]) (st' := [.int (tr.2.2.1 a0.toNatClampNeg)]) (w' := (cX (tr.1, tr.2.1, (upd tr.2.2.1 a0.toNatClampNeg a2), tr.2.2.2.1, tr.2.2.2.2.1, tr.2.2.2.2.2.1, tr.2.2.2.2.2.2.1, tr.2.2.2.2.2.2.2.1, tr.2.2.2.2.2.2.2.2.1, tr.2.2.2.2.2.2.2.2.2) kp th ot tp sl pk rf ik)) (by decide +kernel) rfl ⟨inB_use h_1020, inB_use h_1021, trivial⟩ ?_
          obtain rfl := Option.some.inj hf
          exact m_iret K (by decide +kernel) (Nat.zero_le _) (Nat.zero_le _) ⟨rfl, rfl⟩
      · refine m_jT M (i := .if_icmp .ne 37) 96 (by decide +kernel) rfl (by decide) c_1016 ?_
        refine m_run M (is := [(96, .aload_n 0, 0), (97, .bipush (-2), -2)]) (pc' := 99) (L' := [some (.ref 0), some (.int a0), some (.int a1), some (.int a2), none]) (st' := [.int (-2), .ref 0]) (w' := (cX tr kp th ot tp sl pk rf ik)) (by decide +kernel) rfl trivial ?_
        obtain ⟨r1022, h_1022, hf⟩ := bnd_s hf
        refine m_cV0 M (rest := []) (w2 := (cX tr kp th ot tp sl pk r1022.2 ik)) (st2 := [.int r1022.1]) (run_X3_refuse (-2)   tr kp th ot tp sl pk rf ik h_1022) cv_X3_refuse lk_X3_54 (by decide +kernel) (List.range 46) List.nodup_range ⟨(by rw [List.length_range]; exact Nat.le_refl _), Nat.le_of_ble_eq_true rfl⟩ (hwId rfl) rfl rfl (Nat.le_of_ble_eq_true rfl) ⟨by decide, by decide⟩ rfl rfl ⟨Nat.zero_le _, Nat.zero_le _⟩ (hpId rfl rfl) rfl ?_
        refine m_run M (is := [(102, .istore 4, 0), (104, .iload 4, 0)]) (pc' := 106) (L' := [some (.ref 0), some (.int a0), some (.int a1), some (.int a2), some (.int r1022.1)]) (st' := [.int r1022.1]) (w' := (cX tr kp th ot tp sl pk r1022.2 ik)) (by decide +kernel) rfl trivial ?_
        obtain rfl := Option.some.inj hf
        exact m_iret K (by decide +kernel) (Nat.zero_le _) (Nat.zero_le _) ⟨rfl, rfl⟩

set_option maxRecDepth 100000 in
set_option maxHeartbeats 4000000 in
theorem hw_4  (tr : ShT) (kp : ShT) (th : ShT) (ot : ShT) (tp : TpT) (sl : (Nat → SlT)) (pk : AI) (rf : AI) (ik : Int32) : (List.take (List.length ((cTp 0 tp) : Wd)) ([25, 26] : List Nat)).map (fun k => ((cX tr kp th ot tp sl pk rf ik))[k]?) = ((cTp 0 tp) : Wd).map (fun x => some (rS [25, 26] (List.length ((cX tr kp th ot tp sl pk rf ik) : Wd)) x)) := rfl
set_option maxRecDepth 100000 in
set_option maxHeartbeats 4000000 in
theorem hp_4  (tr : ShT) (kp : ShT) (th : ShT) (ot : ShT) (tp : TpT) (sl : (Nat → SlT)) (pk : AI) (rf : AI) (ik : Int32) (t' : TpT) : putL (List.take (List.length ((cTp 0 tp) : Wd)) ([25, 26] : List Nat)) (((cTp 0 t') : Wd).map (rS [25, 26] (List.length ((cX tr kp th ot tp sl pk rf ik) : Wd)))) (cX tr kp th ot tp sl pk rf ik) = (cX tr kp th ot t' sl pk rf ik) := rfl
def f_X3_feed (a0 : Int32) (tp : TpT) (rf : AI) : Option (Int32 × TpT × AI) :=
  (f_X3_isBetween a0 0 255).bind fun r1001 =>
  if r1001 = 0 then
    (f_X3_refuse (-2) rf).bind fun r1003 =>
    some (r1003.1, tp, r1003.2)
  else
    (f_X2_add a0 tp).bind fun r1004 =>
    if r1004.1 = 0 then
      (f_X3_refuse (-6) rf).bind fun r1006 =>
      some (r1006.1, r1004.2, r1006.2)
    else
      some (r1004.2.2.1, r1004.2, rf)
set_option maxRecDepth 100000 in
set_option maxHeartbeats 4000000 in
theorem run_X3_feed {l : Launch} {D : va_G} {cT : Nat → ClassId} (a0 : Int32)   (tr : ShT) (kp : ShT) (th : ShT) (ot : ShT) (tp : TpT) (sl : (Nat → SlT)) (pk : AI) (rf : AI) (ik : Int32) {r : Int32 × TpT × AI} (hf : f_X3_feed a0 tp rf = some r) : Runs l D cT yX3_feed cX3_feed 2 (some .int) 2 44 [.ref 0, .int a0] (cX tr kp th ot tp sl pk rf ik) (EQ (some (.int r.1)) (cX tr kp th ot r.2.1 sl pk r.2.2 ik)) := by
  refine runs_of O_X3 okO_X3 (by decide +kernel) rfl rfl (Nat.le_of_ble_eq_true rfl) (Nat.le_of_ble_eq_true rfl) (fun g K => ?_)
  have M := K.b
  show g 0 0 (cX tr kp th ot tp sl pk rf ik) 0 [some (.ref 0), some (.int a0)] []
  rw [f_X3_feed] at hf
  refine m_run M (is := [(0, .iload_n 1, 0), (1, .iconst 0, 0), (2, .sipush 255, 255)]) (pc' := 5) (L' := [some (.ref 0), some (.int a0)]) (st' := [.int 255, .int 0, .int a0]) (w' := (cX tr kp th ot tp sl pk rf ik)) (by decide +kernel) rfl trivial ?_
  obtain ⟨r1001, h_1001, hf⟩ := bnd_s hf
  refine m_cS0 M (rest := []) (w2 := (cX tr kp th ot tp sl pk rf ik)) (st2 := [.int r1001]) (run_X3_isBetween a0 0 255    h_1001) cs_X3_isBetween lk_X3_50 (by decide +kernel) [] (by decide) ⟨Nat.le_of_ble_eq_true rfl, Nat.le_of_ble_eq_true rfl⟩ rfl rfl (Nat.le_of_ble_eq_true rfl) ⟨by decide, by decide⟩ rfl rfl ⟨Nat.zero_le _, Nat.zero_le _⟩ rfl rfl ?_
  rcases ite_s hf with ⟨c_1002, hf⟩ | ⟨c_1002, hf⟩
  · refine m_jF M (i := .ifCond .ne 10) 18 (by decide +kernel) rfl (by decide) (fun n => n c_1002) ?_
    refine m_run M (is := [(11, .aload_n 0, 0), (12, .bipush (-2), -2)]) (pc' := 14) (L' := [some (.ref 0), some (.int a0)]) (st' := [.int (-2), .ref 0]) (w' := (cX tr kp th ot tp sl pk rf ik)) (by decide +kernel) rfl trivial ?_
    obtain ⟨r1003, h_1003, hf⟩ := bnd_s hf
    refine m_cV0 M (rest := []) (w2 := (cX tr kp th ot tp sl pk r1003.2 ik)) (st2 := [.int r1003.1]) (run_X3_refuse (-2)   tr kp th ot tp sl pk rf ik h_1003) cv_X3_refuse lk_X3_54 (by decide +kernel) (List.range 46) List.nodup_range ⟨(by rw [List.length_range]; exact Nat.le_refl _), Nat.le_of_ble_eq_true rfl⟩ (hwId rfl) rfl rfl (Nat.le_of_ble_eq_true rfl) ⟨by decide, by decide⟩ rfl rfl ⟨Nat.zero_le _, Nat.zero_le _⟩ (hpId rfl rfl) rfl ?_
    obtain rfl := Option.some.inj hf
    exact m_iret K (by decide +kernel) (Nat.zero_le _) (Nat.zero_le _) ⟨rfl, rfl⟩
  · refine m_jT M (i := .ifCond .ne 10) 18 (by decide +kernel) rfl (by decide) c_1002 ?_
    refine m_run M (is := [(18, .aload_n 0, 0), (19, .getfield 28, 0), (22, .iload_n 1, 0)]) (pc' := 23) (L' := [some (.ref 0), some (.int a0)]) (st' := [.int a0, .ref 25]) (w' := (cX tr kp th ot tp sl pk rf ik)) (by decide +kernel) rfl trivial ?_
    obtain ⟨r1004, h_1004, hf⟩ := bnd_s hf
    refine m_cV0 M (rest := []) (w2 := (cX tr kp th ot r1004.2 sl pk rf ik)) (st2 := [.int r1004.1]) (run_X2_add a0   tp h_1004) cv_X2_add lk_X3_156 (by decide +kernel) [25, 26] (by decide) ⟨Nat.le_of_ble_eq_true rfl, Nat.le_of_ble_eq_true rfl⟩ (hw_4  tr kp th ot tp sl pk rf ik) rfl rfl (Nat.le_of_ble_eq_true rfl) ⟨by decide, by decide⟩ rfl rfl ⟨Nat.zero_le _, Nat.zero_le _⟩ (hp_4  tr kp th ot tp sl pk rf ik r1004.2) rfl ?_
    rcases ite_s hf with ⟨c_1005, hf⟩ | ⟨c_1005, hf⟩
    · refine m_jT M (i := .ifCond .eq 13) 39 (by decide +kernel) rfl (by decide) c_1005 ?_
      refine m_run M (is := [(39, .aload_n 0, 0), (40, .bipush (-6), -6)]) (pc' := 42) (L' := [some (.ref 0), some (.int a0)]) (st' := [.int (-6), .ref 0]) (w' := (cX tr kp th ot r1004.2 sl pk rf ik)) (by decide +kernel) rfl trivial ?_
      obtain ⟨r1006, h_1006, hf⟩ := bnd_s hf
      refine m_cV0 M (rest := []) (w2 := (cX tr kp th ot r1004.2 sl pk r1006.2 ik)) (st2 := [.int r1006.1]) (run_X3_refuse (-6)   tr kp th ot r1004.2 sl pk rf ik h_1006) cv_X3_refuse lk_X3_54 (by decide +kernel) (List.range 46) List.nodup_range ⟨(by rw [List.length_range]; exact Nat.le_refl _), Nat.le_of_ble_eq_true rfl⟩ (hwId rfl) rfl rfl (Nat.le_of_ble_eq_true rfl) ⟨by decide, by decide⟩ rfl rfl ⟨Nat.zero_le _, Nat.zero_le _⟩ (hpId rfl rfl) rfl ?_
      obtain rfl := Option.some.inj hf
      exact m_iret K (by decide +kernel) (Nat.zero_le _) (Nat.zero_le _) ⟨rfl, rfl⟩
    · refine m_jF M (i := .ifCond .eq 13) 39 (by decide +kernel) rfl (by decide) c_1005 ?_
      refine m_run M (is := [(29, .aload_n 0, 0), (30, .getfield 28, 0), (33, .getfield 158, 0), (36, .goto 9, 0)]) (pc' := 45) (L' := [some (.ref 0), some (.int a0)]) (st' := [.int r1004.2.2.1]) (w' := (cX tr kp th ot r1004.2 sl pk rf ik)) (by decide +kernel) rfl trivial ?_
      obtain rfl := Option.some.inj hf
      exact m_iret K (by decide +kernel) (Nat.zero_le _) (Nat.zero_le _) ⟨rfl, rfl⟩

def f_X3_wipe (tp : TpT) : Option (Int32 × TpT) :=
  some (tp.2.1, (tp.1, 0, tp.2.2.1, tp.2.2.2))
set_option maxRecDepth 100000 in
set_option maxHeartbeats 4000000 in
theorem run_X3_wipe {l : Launch} {D : va_G} {cT : Nat → ClassId}    (tr : ShT) (kp : ShT) (th : ShT) (ot : ShT) (tp : TpT) (sl : (Nat → SlT)) (pk : AI) (rf : AI) (ik : Int32) {r : Int32 × TpT} (hf : f_X3_wipe tp = some r) : Runs l D cT yX3_wipe cX3_wipe 2 (some .int) 0 0 [.ref 0] (cX tr kp th ot tp sl pk rf ik) (EQ (some (.int r.1)) (cX tr kp th ot r.2 sl pk rf ik)) := by
  refine runs_of O_X3 okO_X3 (by decide +kernel) rfl rfl (Nat.le_of_ble_eq_true rfl) (Nat.le_of_ble_eq_true rfl) (fun g K => ?_)
  have M := K.b
  show g 0 0 (cX tr kp th ot tp sl pk rf ik) 0 [some (.ref 0), none] []
  rw [f_X3_wipe] at hf
  refine m_run M (is := [(0, .aload_n 0, 0), (1, .getfield 28, 0), (4, .getfield 158, 0), (7, .istore_n 1, 0), (8, .aload_n 0, 0), (9, .getfield 28, 0), (12, .iconst 0, 0), (13, .putfield 158, 0), (16, .iload_n 1, 0)]) (pc' := 17) (L' := [some (.ref 0), some (.int tp.2.1)]) (st' := [.int tp.2.1]) (w' := (cX tr kp th ot (tp.1, 0, tp.2.2.1, tp.2.2.2) sl pk rf ik)) (by decide +kernel) rfl trivial ?_
  obtain rfl := Option.some.inj hf
  exact m_iret K (by decide +kernel) (Nat.zero_le _) (Nat.zero_le _) ⟨rfl, rfl⟩

def f_X3_personOf (a0 : Int32) (a1 : Int32) (tr : ShT) (rf : AI) : Option (Int32 × AI) :=
  (f_X1_hasPerson a0 tr).bind fun r1001 =>
  if r1001 = 0 then
    (f_X3_refuse (-2) rf).bind fun r1003 =>
    some (r1003.1, r1003.2)
  else
    (f_X3_isBetween a1 0 2).bind fun r1004 =>
    if r1004 = 0 then
      (f_X3_refuse (-2) rf).bind fun r1006 =>
      some (r1006.1, r1006.2)
    else
      (f_X1_fact a0 a1 tr).bind fun r1007 =>
      some (r1007, rf)
set_option maxRecDepth 100000 in
set_option maxHeartbeats 4000000 in
theorem run_X3_personOf {l : Launch} {D : va_G} {cT : Nat → ClassId} (a0 : Int32) (a1 : Int32)   (tr : ShT) (kp : ShT) (th : ShT) (ot : ShT) (tp : TpT) (sl : (Nat → SlT)) (pk : AI) (rf : AI) (ik : Int32) {r : Int32 × AI} (hf : f_X3_personOf a0 a1 tr rf = some r) : Runs l D cT yX3_personOf cX3_personOf 3 (some .int) 2 44 [.ref 0, .int a0, .int a1] (cX tr kp th ot tp sl pk rf ik) (EQ (some (.int r.1)) (cX tr kp th ot tp sl pk r.2 ik)) := by
  refine runs_of O_X3 okO_X3 (by decide +kernel) rfl rfl (Nat.le_of_ble_eq_true rfl) (Nat.le_of_ble_eq_true rfl) (fun g K => ?_)
  have M := K.b
  show g 0 0 (cX tr kp th ot tp sl pk rf ik) 0 [some (.ref 0), some (.int a0), some (.int a1)] []
  rw [f_X3_personOf] at hf
  refine m_run M (is := [(0, .aload_n 0, 0), (1, .getfield 10, 0), (4, .iload_n 1, 0)]) (pc' := 5) (L' := [some (.ref 0), some (.int a0), some (.int a1)]) (st' := [.int a0, .ref 1]) (w' := (cX tr kp th ot tp sl pk rf ik)) (by decide +kernel) rfl trivial ?_
  obtain ⟨r1001, h_1001, hf⟩ := bnd_s hf
  refine m_cV0 M (rest := []) (w2 := (cX tr kp th ot tp sl pk rf ik)) (st2 := [.int r1001]) (run_X1_hasPerson a0   tr h_1001) cv_X1_hasPerson lk_X3_147 (by decide +kernel) [1, 2, 3, 4, 5, 6] (by decide) ⟨Nat.le_of_ble_eq_true rfl, Nat.le_of_ble_eq_true rfl⟩ (hw_3  tr kp th ot tp sl pk rf ik) rfl rfl (Nat.le_of_ble_eq_true rfl) ⟨by decide, by decide⟩ rfl rfl ⟨Nat.zero_le _, Nat.zero_le _⟩ (hp_3  tr kp th ot tp sl pk rf ik tr) rfl ?_
  rcases ite_s hf with ⟨c_1002, hf⟩ | ⟨c_1002, hf⟩
  · refine m_jT M (i := .ifCond .eq 12) 20 (by decide +kernel) rfl (by decide) c_1002 ?_
    refine m_run M (is := [(20, .aload_n 0, 0), (21, .bipush (-2), -2)]) (pc' := 23) (L' := [some (.ref 0), some (.int a0), some (.int a1)]) (st' := [.int (-2), .ref 0]) (w' := (cX tr kp th ot tp sl pk rf ik)) (by decide +kernel) rfl trivial ?_
    obtain ⟨r1003, h_1003, hf⟩ := bnd_s hf
    refine m_cV0 M (rest := []) (w2 := (cX tr kp th ot tp sl pk r1003.2 ik)) (st2 := [.int r1003.1]) (run_X3_refuse (-2)   tr kp th ot tp sl pk rf ik h_1003) cv_X3_refuse lk_X3_54 (by decide +kernel) (List.range 46) List.nodup_range ⟨(by rw [List.length_range]; exact Nat.le_refl _), Nat.le_of_ble_eq_true rfl⟩ (hwId rfl) rfl rfl (Nat.le_of_ble_eq_true rfl) ⟨by decide, by decide⟩ rfl rfl ⟨Nat.zero_le _, Nat.zero_le _⟩ (hpId rfl rfl) rfl ?_
    obtain rfl := Option.some.inj hf
    exact m_iret K (by decide +kernel) (Nat.zero_le _) (Nat.zero_le _) ⟨rfl, rfl⟩
  · refine m_jF M (i := .ifCond .eq 12) 20 (by decide +kernel) rfl (by decide) c_1002 ?_
    refine m_run M (is := [(11, .iload_n 2, 0), (12, .iconst 0, 0), (13, .iconst 2, 2)]) (pc' := 14) (L' := [some (.ref 0), some (.int a0), some (.int a1)]) (st' := [.int 2, .int 0, .int a1]) (w' := (cX tr kp th ot tp sl pk rf ik)) (by decide +kernel) rfl trivial ?_
    obtain ⟨r1004, h_1004, hf⟩ := bnd_s hf
    refine m_cS0 M (rest := []) (w2 := (cX tr kp th ot tp sl pk rf ik)) (st2 := [.int r1004]) (run_X3_isBetween a1 0 2    h_1004) cs_X3_isBetween lk_X3_50 (by decide +kernel) [] (by decide) ⟨Nat.le_of_ble_eq_true rfl, Nat.le_of_ble_eq_true rfl⟩ rfl rfl (Nat.le_of_ble_eq_true rfl) ⟨by decide, by decide⟩ rfl rfl ⟨Nat.zero_le _, Nat.zero_le _⟩ rfl rfl ?_
    rcases ite_s hf with ⟨c_1005, hf⟩ | ⟨c_1005, hf⟩
    · refine m_jF M (i := .ifCond .ne 10) 27 (by decide +kernel) rfl (by decide) (fun n => n c_1005) ?_
      refine m_run M (is := [(20, .aload_n 0, 0), (21, .bipush (-2), -2)]) (pc' := 23) (L' := [some (.ref 0), some (.int a0), some (.int a1)]) (st' := [.int (-2), .ref 0]) (w' := (cX tr kp th ot tp sl pk rf ik)) (by decide +kernel) rfl trivial ?_
      obtain ⟨r1006, h_1006, hf⟩ := bnd_s hf
      refine m_cV0 M (rest := []) (w2 := (cX tr kp th ot tp sl pk r1006.2 ik)) (st2 := [.int r1006.1]) (run_X3_refuse (-2)   tr kp th ot tp sl pk rf ik h_1006) cv_X3_refuse lk_X3_54 (by decide +kernel) (List.range 46) List.nodup_range ⟨(by rw [List.length_range]; exact Nat.le_refl _), Nat.le_of_ble_eq_true rfl⟩ (hwId rfl) rfl rfl (Nat.le_of_ble_eq_true rfl) ⟨by decide, by decide⟩ rfl rfl ⟨Nat.zero_le _, Nat.zero_le _⟩ (hpId rfl rfl) rfl ?_
      obtain rfl := Option.some.inj hf
      exact m_iret K (by decide +kernel) (Nat.zero_le _) (Nat.zero_le _) ⟨rfl, rfl⟩
    · refine m_jT M (i := .ifCond .ne 10) 27 (by decide +kernel) rfl (by decide) c_1005 ?_
      refine m_run M (is := [(27, .aload_n 0, 0), (28, .getfield 10, 0), (31, .iload_n 1, 0), (32, .iload_n 2, 0)]) (pc' := 33) (L' := [some (.ref 0), some (.int a0), some (.int a1)]) (st' := [.int a1, .int a0, .ref 1]) (w' := (cX tr kp th ot tp sl pk rf ik)) (by decide +kernel) rfl trivial ?_
      obtain ⟨r1007, h_1007, hf⟩ := bnd_s hf
      refine m_cV0 M (rest := []) (w2 := (cX tr kp th ot tp sl pk rf ik)) (st2 := [.int r1007]) (run_X1_fact a0 a1   tr h_1007) cv_X1_fact lk_X3_172 (by decide +kernel) [1, 2, 3, 4, 5, 6] (by decide) ⟨Nat.le_of_ble_eq_true rfl, Nat.le_of_ble_eq_true rfl⟩ (hw_3  tr kp th ot tp sl pk rf ik) rfl rfl (Nat.le_of_ble_eq_true rfl) ⟨by decide, by decide⟩ rfl rfl ⟨Nat.zero_le _, Nat.zero_le _⟩ (hp_3  tr kp th ot tp sl pk rf ik tr) rfl ?_
      obtain rfl := Option.some.inj hf
      exact m_iret K (by decide +kernel) (Nat.zero_le _) (Nat.zero_le _) ⟨rfl, rfl⟩

def f_X3_lawOf (a0 : Int32) (a1 : Int32) (tr : ShT) (rf : AI) : Option (Int32 × AI) :=
  (f_X1_hasLaw a0 tr).bind fun r1001 =>
  if r1001 = 0 then
    (f_X3_refuse (-2) rf).bind fun r1003 =>
    some (r1003.1, r1003.2)
  else
    (f_X3_isBetween a1 0 1).bind fun r1004 =>
    if r1004 = 0 then
      (f_X3_refuse (-2) rf).bind fun r1006 =>
      some (r1006.1, r1006.2)
    else
      if a1 = 0 then
        (f_X1_kindOf a0 tr).bind fun r1008 =>
        some (r1008, rf)
      else
        (f_X1_amountOf a0 tr).bind fun r1009 =>
        some (r1009, rf)
set_option maxRecDepth 100000 in
set_option maxHeartbeats 4000000 in
theorem run_X3_lawOf {l : Launch} {D : va_G} {cT : Nat → ClassId} (a0 : Int32) (a1 : Int32)   (tr : ShT) (kp : ShT) (th : ShT) (ot : ShT) (tp : TpT) (sl : (Nat → SlT)) (pk : AI) (rf : AI) (ik : Int32) {r : Int32 × AI} (hf : f_X3_lawOf a0 a1 tr rf = some r) : Runs l D cT yX3_lawOf cX3_lawOf 3 (some .int) 2 44 [.ref 0, .int a0, .int a1] (cX tr kp th ot tp sl pk rf ik) (EQ (some (.int r.1)) (cX tr kp th ot tp sl pk r.2 ik)) := by
  refine runs_of O_X3 okO_X3 (by decide +kernel) rfl rfl (Nat.le_of_ble_eq_true rfl) (Nat.le_of_ble_eq_true rfl) (fun g K => ?_)
  have M := K.b
  show g 0 0 (cX tr kp th ot tp sl pk rf ik) 0 [some (.ref 0), some (.int a0), some (.int a1)] []
  rw [f_X3_lawOf] at hf
  refine m_run M (is := [(0, .aload_n 0, 0), (1, .getfield 10, 0), (4, .iload_n 1, 0)]) (pc' := 5) (L' := [some (.ref 0), some (.int a0), some (.int a1)]) (st' := [.int a0, .ref 1]) (w' := (cX tr kp th ot tp sl pk rf ik)) (by decide +kernel) rfl trivial ?_
  obtain ⟨r1001, h_1001, hf⟩ := bnd_s hf
  refine m_cV0 M (rest := []) (w2 := (cX tr kp th ot tp sl pk rf ik)) (st2 := [.int r1001]) (run_X1_hasLaw a0   tr h_1001) cv_X1_hasLaw lk_X3_102 (by decide +kernel) [1, 2, 3, 4, 5, 6] (by decide) ⟨Nat.le_of_ble_eq_true rfl, Nat.le_of_ble_eq_true rfl⟩ (hw_3  tr kp th ot tp sl pk rf ik) rfl rfl (Nat.le_of_ble_eq_true rfl) ⟨by decide, by decide⟩ rfl rfl ⟨Nat.zero_le _, Nat.zero_le _⟩ (hp_3  tr kp th ot tp sl pk rf ik tr) rfl ?_
  rcases ite_s hf with ⟨c_1002, hf⟩ | ⟨c_1002, hf⟩
  · refine m_jT M (i := .ifCond .eq 12) 20 (by decide +kernel) rfl (by decide) c_1002 ?_
    refine m_run M (is := [(20, .aload_n 0, 0), (21, .bipush (-2), -2)]) (pc' := 23) (L' := [some (.ref 0), some (.int a0), some (.int a1)]) (st' := [.int (-2), .ref 0]) (w' := (cX tr kp th ot tp sl pk rf ik)) (by decide +kernel) rfl trivial ?_
    obtain ⟨r1003, h_1003, hf⟩ := bnd_s hf
    refine m_cV0 M (rest := []) (w2 := (cX tr kp th ot tp sl pk r1003.2 ik)) (st2 := [.int r1003.1]) (run_X3_refuse (-2)   tr kp th ot tp sl pk rf ik h_1003) cv_X3_refuse lk_X3_54 (by decide +kernel) (List.range 46) List.nodup_range ⟨(by rw [List.length_range]; exact Nat.le_refl _), Nat.le_of_ble_eq_true rfl⟩ (hwId rfl) rfl rfl (Nat.le_of_ble_eq_true rfl) ⟨by decide, by decide⟩ rfl rfl ⟨Nat.zero_le _, Nat.zero_le _⟩ (hpId rfl rfl) rfl ?_
    obtain rfl := Option.some.inj hf
    exact m_iret K (by decide +kernel) (Nat.zero_le _) (Nat.zero_le _) ⟨rfl, rfl⟩
  · refine m_jF M (i := .ifCond .eq 12) 20 (by decide +kernel) rfl (by decide) c_1002 ?_
    refine m_run M (is := [(11, .iload_n 2, 0), (12, .iconst 0, 0), (13, .iconst 1, 1)]) (pc' := 14) (L' := [some (.ref 0), some (.int a0), some (.int a1)]) (st' := [.int 1, .int 0, .int a1]) (w' := (cX tr kp th ot tp sl pk rf ik)) (by decide +kernel) rfl trivial ?_
    obtain ⟨r1004, h_1004, hf⟩ := bnd_s hf
    refine m_cS0 M (rest := []) (w2 := (cX tr kp th ot tp sl pk rf ik)) (st2 := [.int r1004]) (run_X3_isBetween a1 0 1    h_1004) cs_X3_isBetween lk_X3_50 (by decide +kernel) [] (by decide) ⟨Nat.le_of_ble_eq_true rfl, Nat.le_of_ble_eq_true rfl⟩ rfl rfl (Nat.le_of_ble_eq_true rfl) ⟨by decide, by decide⟩ rfl rfl ⟨Nat.zero_le _, Nat.zero_le _⟩ rfl rfl ?_
    rcases ite_s hf with ⟨c_1005, hf⟩ | ⟨c_1005, hf⟩
    · refine m_jF M (i := .ifCond .ne 10) 27 (by decide +kernel) rfl (by decide) (fun n => n c_1005) ?_
      refine m_run M (is := [(20, .aload_n 0, 0), (21, .bipush (-2), -2)]) (pc' := 23) (L' := [some (.ref 0), some (.int a0), some (.int a1)]) (st' := [.int (-2), .ref 0]) (w' := (cX tr kp th ot tp sl pk rf ik)) (by decide +kernel) rfl trivial ?_
      obtain ⟨r1006, h_1006, hf⟩ := bnd_s hf
      refine m_cV0 M (rest := []) (w2 := (cX tr kp th ot tp sl pk r1006.2 ik)) (st2 := [.int r1006.1]) (run_X3_refuse (-2)   tr kp th ot tp sl pk rf ik h_1006) cv_X3_refuse lk_X3_54 (by decide +kernel) (List.range 46) List.nodup_range ⟨(by rw [List.length_range]; exact Nat.le_refl _), Nat.le_of_ble_eq_true rfl⟩ (hwId rfl) rfl rfl (Nat.le_of_ble_eq_true rfl) ⟨by decide, by decide⟩ rfl rfl ⟨Nat.zero_le _, Nat.zero_le _⟩ (hpId rfl rfl) rfl ?_
      obtain rfl := Option.some.inj hf
      exact m_iret K (by decide +kernel) (Nat.zero_le _) (Nat.zero_le _) ⟨rfl, rfl⟩
    · refine m_jT M (i := .ifCond .ne 10) 27 (by decide +kernel) rfl (by decide) c_1005 ?_
      refine m_run M (is := [(27, .iload_n 2, 0)]) (pc' := 28) (L' := [some (.ref 0), some (.int a0), some (.int a1)]) (st' := [.int a1]) (w' := (cX tr kp th ot tp sl pk rf ik)) (by decide +kernel) rfl trivial ?_
      rcases ite_s hf with ⟨c_1007, hf⟩ | ⟨c_1007, hf⟩
      · refine m_jF M (i := .ifCond .ne 14) 42 (by decide +kernel) rfl (by decide) (fun n => n c_1007) ?_
        refine m_run M (is := [(31, .aload_n 0, 0), (32, .getfield 10, 0), (35, .iload_n 1, 0)]) (pc' := 36) (L' := [some (.ref 0), some (.int a0), some (.int a1)]) (st' := [.int a0, .ref 1]) (w' := (cX tr kp th ot tp sl pk rf ik)) (by decide +kernel) rfl trivial ?_
        obtain ⟨r1008, h_1008, hf⟩ := bnd_s hf
        refine m_cV0 M (rest := []) (w2 := (cX tr kp th ot tp sl pk rf ik)) (st2 := [.int r1008]) (run_X1_kindOf a0   tr h_1008) cv_X1_kindOf lk_X3_116 (by decide +kernel) [1, 2, 3, 4, 5, 6] (by decide) ⟨Nat.le_of_ble_eq_true rfl, Nat.le_of_ble_eq_true rfl⟩ (hw_3  tr kp th ot tp sl pk rf ik) rfl rfl (Nat.le_of_ble_eq_true rfl) ⟨by decide, by decide⟩ rfl rfl ⟨Nat.zero_le _, Nat.zero_le _⟩ (hp_3  tr kp th ot tp sl pk rf ik tr) rfl ?_
        refine m_run M (is := [(39, .goto 11, 0)]) (pc' := 50) (L' := [some (.ref 0), some (.int a0), some (.int a1)]) (st' := [.int r1008]) (w' := (cX tr kp th ot tp sl pk rf ik)) (by decide +kernel) rfl trivial ?_
        obtain rfl := Option.some.inj hf
        exact m_iret K (by decide +kernel) (Nat.zero_le _) (Nat.zero_le _) ⟨rfl, rfl⟩
      · refine m_jT M (i := .ifCond .ne 14) 42 (by decide +kernel) rfl (by decide) c_1007 ?_
        refine m_run M (is := [(42, .aload_n 0, 0), (43, .getfield 10, 0), (46, .iload_n 1, 0)]) (pc' := 47) (L' := [some (.ref 0), some (.int a0), some (.int a1)]) (st' := [.int a0, .ref 1]) (w' := (cX tr kp th ot tp sl pk rf ik)) (by decide +kernel) rfl trivial ?_
        obtain ⟨r1009, h_1009, hf⟩ := bnd_s hf
        refine m_cV0 M (rest := []) (w2 := (cX tr kp th ot tp sl pk rf ik)) (st2 := [.int r1009]) (run_X1_amountOf a0   tr h_1009) cv_X1_amountOf lk_X3_122 (by decide +kernel) [1, 2, 3, 4, 5, 6] (by decide) ⟨Nat.le_of_ble_eq_true rfl, Nat.le_of_ble_eq_true rfl⟩ (hw_3  tr kp th ot tp sl pk rf ik) rfl rfl (Nat.le_of_ble_eq_true rfl) ⟨by decide, by decide⟩ rfl rfl ⟨Nat.zero_le _, Nat.zero_le _⟩ (hp_3  tr kp th ot tp sl pk rf ik tr) rfl ?_
        obtain rfl := Option.some.inj hf
        exact m_iret K (by decide +kernel) (Nat.zero_le _) (Nat.zero_le _) ⟨rfl, rfl⟩

def f_X3_at (a0 : Int32) (tr : ShT) (rf : AI) : Option (Int32 × AI) :=
  (f_X1_hasPlace a0 tr).bind fun r1001 =>
  if r1001 = 0 then
    (f_X3_refuse (-2) rf).bind fun r1003 =>
    some (r1003.1, r1003.2)
  else
    (f_X1_who a0 tr).bind fun r1004 =>
    some (r1004, rf)
set_option maxRecDepth 100000 in
set_option maxHeartbeats 4000000 in
theorem run_X3_at {l : Launch} {D : va_G} {cT : Nat → ClassId} (a0 : Int32)   (tr : ShT) (kp : ShT) (th : ShT) (ot : ShT) (tp : TpT) (sl : (Nat → SlT)) (pk : AI) (rf : AI) (ik : Int32) {r : Int32 × AI} (hf : f_X3_at a0 tr rf = some r) : Runs l D cT yX3_at cX3_at 2 (some .int) 2 44 [.ref 0, .int a0] (cX tr kp th ot tp sl pk rf ik) (EQ (some (.int r.1)) (cX tr kp th ot tp sl pk r.2 ik)) := by
  refine runs_of O_X3 okO_X3 (by decide +kernel) rfl rfl (Nat.le_of_ble_eq_true rfl) (Nat.le_of_ble_eq_true rfl) (fun g K => ?_)
  have M := K.b
  show g 0 0 (cX tr kp th ot tp sl pk rf ik) 0 [some (.ref 0), some (.int a0)] []
  rw [f_X3_at] at hf
  refine m_run M (is := [(0, .aload_n 0, 0), (1, .getfield 10, 0), (4, .iload_n 1, 0)]) (pc' := 5) (L' := [some (.ref 0), some (.int a0)]) (st' := [.int a0, .ref 1]) (w' := (cX tr kp th ot tp sl pk rf ik)) (by decide +kernel) rfl trivial ?_
  obtain ⟨r1001, h_1001, hf⟩ := bnd_s hf
  refine m_cV0 M (rest := []) (w2 := (cX tr kp th ot tp sl pk rf ik)) (st2 := [.int r1001]) (run_X1_hasPlace a0   tr h_1001) cv_X1_hasPlace lk_X3_175 (by decide +kernel) [1, 2, 3, 4, 5, 6] (by decide) ⟨Nat.le_of_ble_eq_true rfl, Nat.le_of_ble_eq_true rfl⟩ (hw_3  tr kp th ot tp sl pk rf ik) rfl rfl (Nat.le_of_ble_eq_true rfl) ⟨by decide, by decide⟩ rfl rfl ⟨Nat.zero_le _, Nat.zero_le _⟩ (hp_3  tr kp th ot tp sl pk rf ik tr) rfl ?_
  rcases ite_s hf with ⟨c_1002, hf⟩ | ⟨c_1002, hf⟩
  · refine m_jT M (i := .ifCond .eq 14) 22 (by decide +kernel) rfl (by decide) c_1002 ?_
    refine m_run M (is := [(22, .aload_n 0, 0), (23, .bipush (-2), -2)]) (pc' := 25) (L' := [some (.ref 0), some (.int a0)]) (st' := [.int (-2), .ref 0]) (w' := (cX tr kp th ot tp sl pk rf ik)) (by decide +kernel) rfl trivial ?_
    obtain ⟨r1003, h_1003, hf⟩ := bnd_s hf
    refine m_cV0 M (rest := []) (w2 := (cX tr kp th ot tp sl pk r1003.2 ik)) (st2 := [.int r1003.1]) (run_X3_refuse (-2)   tr kp th ot tp sl pk rf ik h_1003) cv_X3_refuse lk_X3_54 (by decide +kernel) (List.range 46) List.nodup_range ⟨(by rw [List.length_range]; exact Nat.le_refl _), Nat.le_of_ble_eq_true rfl⟩ (hwId rfl) rfl rfl (Nat.le_of_ble_eq_true rfl) ⟨by decide, by decide⟩ rfl rfl ⟨Nat.zero_le _, Nat.zero_le _⟩ (hpId rfl rfl) rfl ?_
    obtain rfl := Option.some.inj hf
    exact m_iret K (by decide +kernel) (Nat.zero_le _) (Nat.zero_le _) ⟨rfl, rfl⟩
  · refine m_jF M (i := .ifCond .eq 14) 22 (by decide +kernel) rfl (by decide) c_1002 ?_
    refine m_run M (is := [(11, .aload_n 0, 0), (12, .getfield 10, 0), (15, .iload_n 1, 0)]) (pc' := 16) (L' := [some (.ref 0), some (.int a0)]) (st' := [.int a0, .ref 1]) (w' := (cX tr kp th ot tp sl pk rf ik)) (by decide +kernel) rfl trivial ?_
    obtain ⟨r1004, h_1004, hf⟩ := bnd_s hf
    refine m_cV0 M (rest := []) (w2 := (cX tr kp th ot tp sl pk rf ik)) (st2 := [.int r1004]) (run_X1_who a0   tr h_1004) cv_X1_who lk_X3_178 (by decide +kernel) [1, 2, 3, 4, 5, 6] (by decide) ⟨Nat.le_of_ble_eq_true rfl, Nat.le_of_ble_eq_true rfl⟩ (hw_3  tr kp th ot tp sl pk rf ik) rfl rfl (Nat.le_of_ble_eq_true rfl) ⟨by decide, by decide⟩ rfl rfl ⟨Nat.zero_le _, Nat.zero_le _⟩ (hp_3  tr kp th ot tp sl pk rf ik tr) rfl ?_
    refine m_run M (is := [(19, .goto 9, 0)]) (pc' := 28) (L' := [some (.ref 0), some (.int a0)]) (st' := [.int r1004]) (w' := (cX tr kp th ot tp sl pk rf ik)) (by decide +kernel) rfl trivial ?_
    obtain rfl := Option.some.inj hf
    exact m_iret K (by decide +kernel) (Nat.zero_le _) (Nat.zero_le _) ⟨rfl, rfl⟩

def f_X3_stands (a0 : Int32) (a1 : Int32) (tr : ShT) (th : ShT) (rf : AI) : Option (Int32 × ShT × AI) :=
  (f_X3_isBetween a0 0 999).bind fun r1001 =>
  if r1001 = 0 then
    (f_X3_refuse (-2) rf).bind fun r1003 =>
    some (r1003.1, th, r1003.2)
  else
    (f_X1_hasPlace a1 tr).bind fun r1004 =>
    if r1004 = 0 then
      (f_X3_refuse (-2) rf).bind fun r1006 =>
      some (r1006.1, th, r1006.2)
    else
      (f_X1_isLawless tr).bind fun r1007 =>
      if r1007 = 0 then
        (f_X3_think a0 tr th).bind fun r1009 =>
        (f_X1_who a1 r1009).bind fun r1010 =>
        some (r1010, r1009, rf)
      else
        (f_X3_refuse (-5) rf).bind fun r1011 =>
        some (r1011.1, th, r1011.2)
set_option maxRecDepth 100000 in
set_option maxHeartbeats 4000000 in
theorem run_X3_stands {l : Launch} {D : va_G} {cT : Nat → ClassId} (a0 : Int32) (a1 : Int32)   (tr : ShT) (kp : ShT) (th : ShT) (ot : ShT) (tp : TpT) (sl : (Nat → SlT)) (pk : AI) (rf : AI) (ik : Int32) {r : Int32 × ShT × AI} (hf : f_X3_stands a0 a1 tr th rf = some r) : Runs l D cT yX3_stands cX3_stands 3 (some .int) 5 110 [.ref 0, .int a0, .int a1] (cX tr kp th ot tp sl pk rf ik) (EQ (some (.int r.1)) (cX tr kp r.2.1 ot tp sl pk r.2.2 ik)) := by
  refine runs_of O_X3 okO_X3 (by decide +kernel) rfl rfl (Nat.le_of_ble_eq_true rfl) (Nat.le_of_ble_eq_true rfl) (fun g K => ?_)
  have M := K.b
  show g 0 0 (cX tr kp th ot tp sl pk rf ik) 0 [some (.ref 0), some (.int a0), some (.int a1)] []
  rw [f_X3_stands] at hf
  refine m_run M (is := [(0, .iload_n 1, 0), (1, .iconst 0, 0), (2, .sipush 999, 999)]) (pc' := 5) (L' := [some (.ref 0), some (.int a0), some (.int a1)]) (st' := [.int 999, .int 0, .int a0]) (w' := (cX tr kp th ot tp sl pk rf ik)) (by decide +kernel) rfl trivial ?_
  obtain ⟨r1001, h_1001, hf⟩ := bnd_s hf
  refine m_cS0 M (rest := []) (w2 := (cX tr kp th ot tp sl pk rf ik)) (st2 := [.int r1001]) (run_X3_isBetween a0 0 999    h_1001) cs_X3_isBetween lk_X3_50 (by decide +kernel) [] (by decide) ⟨Nat.le_of_ble_eq_true rfl, Nat.le_of_ble_eq_true rfl⟩ rfl rfl (Nat.le_of_ble_eq_true rfl) ⟨by decide, by decide⟩ rfl rfl ⟨Nat.zero_le _, Nat.zero_le _⟩ rfl rfl ?_
  rcases ite_s hf with ⟨c_1002, hf⟩ | ⟨c_1002, hf⟩
  · refine m_jT M (i := .ifCond .eq 14) 22 (by decide +kernel) rfl (by decide) c_1002 ?_
    refine m_run M (is := [(22, .aload_n 0, 0), (23, .bipush (-2), -2)]) (pc' := 25) (L' := [some (.ref 0), some (.int a0), some (.int a1)]) (st' := [.int (-2), .ref 0]) (w' := (cX tr kp th ot tp sl pk rf ik)) (by decide +kernel) rfl trivial ?_
    obtain ⟨r1003, h_1003, hf⟩ := bnd_s hf
    refine m_cV0 M (rest := []) (w2 := (cX tr kp th ot tp sl pk r1003.2 ik)) (st2 := [.int r1003.1]) (run_X3_refuse (-2)   tr kp th ot tp sl pk rf ik h_1003) cv_X3_refuse lk_X3_54 (by decide +kernel) (List.range 46) List.nodup_range ⟨(by rw [List.length_range]; exact Nat.le_refl _), Nat.le_of_ble_eq_true rfl⟩ (hwId rfl) rfl rfl (Nat.le_of_ble_eq_true rfl) ⟨by decide, by decide⟩ rfl rfl ⟨Nat.zero_le _, Nat.zero_le _⟩ (hpId rfl rfl) rfl ?_
    obtain rfl := Option.some.inj hf
    exact m_iret K (by decide +kernel) (Nat.zero_le _) (Nat.zero_le _) ⟨rfl, rfl⟩
  · refine m_jF M (i := .ifCond .eq 14) 22 (by decide +kernel) rfl (by decide) c_1002 ?_
    refine m_run M (is := [(11, .aload_n 0, 0), (12, .getfield 10, 0), (15, .iload_n 2, 0)]) (pc' := 16) (L' := [some (.ref 0), some (.int a0), some (.int a1)]) (st' := [.int a1, .ref 1]) (w' := (cX tr kp th ot tp sl pk rf ik)) (by decide +kernel) rfl trivial ?_
    obtain ⟨r1004, h_1004, hf⟩ := bnd_s hf
    refine m_cV0 M (rest := []) (w2 := (cX tr kp th ot tp sl pk rf ik)) (st2 := [.int r1004]) (run_X1_hasPlace a1   tr h_1004) cv_X1_hasPlace lk_X3_175 (by decide +kernel) [1, 2, 3, 4, 5, 6] (by decide) ⟨Nat.le_of_ble_eq_true rfl, Nat.le_of_ble_eq_true rfl⟩ (hw_3  tr kp th ot tp sl pk rf ik) rfl rfl (Nat.le_of_ble_eq_true rfl) ⟨by decide, by decide⟩ rfl rfl ⟨Nat.zero_le _, Nat.zero_le _⟩ (hp_3  tr kp th ot tp sl pk rf ik tr) rfl ?_
    rcases ite_s hf with ⟨c_1005, hf⟩ | ⟨c_1005, hf⟩
    · refine m_jF M (i := .ifCond .ne 10) 29 (by decide +kernel) rfl (by decide) (fun n => n c_1005) ?_
      refine m_run M (is := [(22, .aload_n 0, 0), (23, .bipush (-2), -2)]) (pc' := 25) (L' := [some (.ref 0), some (.int a0), some (.int a1)]) (st' := [.int (-2), .ref 0]) (w' := (cX tr kp th ot tp sl pk rf ik)) (by decide +kernel) rfl trivial ?_
      obtain ⟨r1006, h_1006, hf⟩ := bnd_s hf
      refine m_cV0 M (rest := []) (w2 := (cX tr kp th ot tp sl pk r1006.2 ik)) (st2 := [.int r1006.1]) (run_X3_refuse (-2)   tr kp th ot tp sl pk rf ik h_1006) cv_X3_refuse lk_X3_54 (by decide +kernel) (List.range 46) List.nodup_range ⟨(by rw [List.length_range]; exact Nat.le_refl _), Nat.le_of_ble_eq_true rfl⟩ (hwId rfl) rfl rfl (Nat.le_of_ble_eq_true rfl) ⟨by decide, by decide⟩ rfl rfl ⟨Nat.zero_le _, Nat.zero_le _⟩ (hpId rfl rfl) rfl ?_
      obtain rfl := Option.some.inj hf
      exact m_iret K (by decide +kernel) (Nat.zero_le _) (Nat.zero_le _) ⟨rfl, rfl⟩
    · refine m_jT M (i := .ifCond .ne 10) 29 (by decide +kernel) rfl (by decide) c_1005 ?_
      refine m_run M (is := [(29, .aload_n 0, 0), (30, .getfield 10, 0)]) (pc' := 33) (L' := [some (.ref 0), some (.int a0), some (.int a1)]) (st' := [.ref 1]) (w' := (cX tr kp th ot tp sl pk rf ik)) (by decide +kernel) rfl trivial ?_
      obtain ⟨r1007, h_1007, hf⟩ := bnd_s hf
      refine m_cV0 M (rest := []) (w2 := (cX tr kp th ot tp sl pk rf ik)) (st2 := [.int r1007]) (run_X1_isLawless    tr h_1007) cv_X1_isLawless lk_X3_181 (by decide +kernel) [1, 2, 3, 4, 5, 6] (by decide) ⟨Nat.le_of_ble_eq_true rfl, Nat.le_of_ble_eq_true rfl⟩ (hw_3  tr kp th ot tp sl pk rf ik) rfl rfl (Nat.le_of_ble_eq_true rfl) ⟨by decide, by decide⟩ rfl rfl ⟨Nat.zero_le _, Nat.zero_le _⟩ (hp_3  tr kp th ot tp sl pk rf ik tr) rfl ?_
      rcases ite_s hf with ⟨c_1008, hf⟩ | ⟨c_1008, hf⟩
      · refine m_jT M (i := .ifCond .eq 10) 46 (by decide +kernel) rfl (by decide) c_1008 ?_
        refine m_run M (is := [(46, .aload_n 0, 0), (47, .iload_n 1, 0)]) (pc' := 48) (L' := [some (.ref 0), some (.int a0), some (.int a1)]) (st' := [.int a0, .ref 0]) (w' := (cX tr kp th ot tp sl pk rf ik)) (by decide +kernel) rfl trivial ?_
        obtain ⟨r1009, h_1009, hf⟩ := bnd_s hf
        refine m_cV0 M (rest := []) (w2 := (cX tr kp r1009 ot tp sl pk rf ik)) (st2 := []) (run_X3_think a0   tr kp th ot tp sl pk rf ik h_1009) cv_X3_think lk_X3_184 (by decide +kernel) (List.range 46) List.nodup_range ⟨(by rw [List.length_range]; exact Nat.le_refl _), Nat.le_of_ble_eq_true rfl⟩ (hwId rfl) rfl rfl (Nat.le_of_ble_eq_true rfl) ⟨by decide, by decide⟩ rfl rfl ⟨Nat.zero_le _, Nat.zero_le _⟩ (hpId rfl rfl) rfl ?_
        refine m_run M (is := [(51, .aload_n 0, 0), (52, .getfield 19, 0), (55, .iload_n 2, 0)]) (pc' := 56) (L' := [some (.ref 0), some (.int a0), some (.int a1)]) (st' := [.int a1, .ref 13]) (w' := (cX tr kp r1009 ot tp sl pk rf ik)) (by decide +kernel) rfl trivial ?_
        obtain ⟨r1010, h_1010, hf⟩ := bnd_s hf
        refine m_cV0 M (rest := []) (w2 := (cX tr kp r1009 ot tp sl pk rf ik)) (st2 := [.int r1010]) (run_X1_who a1   r1009 h_1010) cv_X1_who lk_X3_178 (by decide +kernel) [13, 14, 15, 16, 17, 18] (by decide) ⟨Nat.le_of_ble_eq_true rfl, Nat.le_of_ble_eq_true rfl⟩ (hw_1  tr kp r1009 ot tp sl pk rf ik) rfl rfl (Nat.le_of_ble_eq_true rfl) ⟨by decide, by decide⟩ rfl rfl ⟨Nat.zero_le _, Nat.zero_le _⟩ (hp_1  tr kp r1009 ot tp sl pk rf ik r1009) rfl ?_
        obtain rfl := Option.some.inj hf
        exact m_iret K (by decide +kernel) (Nat.zero_le _) (Nat.zero_le _) ⟨rfl, rfl⟩
      · refine m_jF M (i := .ifCond .eq 10) 46 (by decide +kernel) rfl (by decide) c_1008 ?_
        refine m_run M (is := [(39, .aload_n 0, 0), (40, .bipush (-5), -5)]) (pc' := 42) (L' := [some (.ref 0), some (.int a0), some (.int a1)]) (st' := [.int (-5), .ref 0]) (w' := (cX tr kp th ot tp sl pk rf ik)) (by decide +kernel) rfl trivial ?_
        obtain ⟨r1011, h_1011, hf⟩ := bnd_s hf
        refine m_cV0 M (rest := []) (w2 := (cX tr kp th ot tp sl pk r1011.2 ik)) (st2 := [.int r1011.1]) (run_X3_refuse (-5)   tr kp th ot tp sl pk rf ik h_1011) cv_X3_refuse lk_X3_54 (by decide +kernel) (List.range 46) List.nodup_range ⟨(by rw [List.length_range]; exact Nat.le_refl _), Nat.le_of_ble_eq_true rfl⟩ (hwId rfl) rfl rfl (Nat.le_of_ble_eq_true rfl) ⟨by decide, by decide⟩ rfl rfl ⟨Nat.zero_le _, Nat.zero_le _⟩ (hpId rfl rfl) rfl ?_
        obtain rfl := Option.some.inj hf
        exact m_iret K (by decide +kernel) (Nat.zero_le _) (Nat.zero_le _) ⟨rfl, rfl⟩

def f_X3_behind (a0 : Int32) (a1 : Int32) (a2 : Int32) (tr : ShT) (th : ShT) (rf : AI) : Option (Int32 × ShT × AI) :=
  (f_X3_isBetween a0 0 999).bind fun r1001 =>
  if r1001 = 0 then
    (f_X3_refuse (-2) rf).bind fun r1003 =>
    some (r1003.1, th, r1003.2)
  else
    (f_X1_hasPerson a1 tr).bind fun r1004 =>
    if r1004 = 0 then
      (f_X3_refuse (-2) rf).bind fun r1006 =>
      some (r1006.1, th, r1006.2)
    else
      (f_X3_isBetween a2 0 2).bind fun r1007 =>
      if r1007 = 0 then
        (f_X3_refuse (-2) rf).bind fun r1009 =>
        some (r1009.1, th, r1009.2)
      else
        (f_X1_isLawless tr).bind fun r1010 =>
        if r1010 = 0 then
          (f_X3_think a0 tr th).bind fun r1012 =>
          (f_X1_fact a1 a2 r1012).bind fun r1013 =>
          some (r1013, r1012, rf)
        else
          (f_X3_refuse (-5) rf).bind fun r1014 =>
          some (r1014.1, th, r1014.2)
set_option maxRecDepth 100000 in
set_option maxHeartbeats 4000000 in
theorem run_X3_behind {l : Launch} {D : va_G} {cT : Nat → ClassId} (a0 : Int32) (a1 : Int32) (a2 : Int32)   (tr : ShT) (kp : ShT) (th : ShT) (ot : ShT) (tp : TpT) (sl : (Nat → SlT)) (pk : AI) (rf : AI) (ik : Int32) {r : Int32 × ShT × AI} (hf : f_X3_behind a0 a1 a2 tr th rf = some r) : Runs l D cT yX3_behind cX3_behind 4 (some .int) 5 110 [.ref 0, .int a0, .int a1, .int a2] (cX tr kp th ot tp sl pk rf ik) (EQ (some (.int r.1)) (cX tr kp r.2.1 ot tp sl pk r.2.2 ik)) := by
  refine runs_of O_X3 okO_X3 (by decide +kernel) rfl rfl (Nat.le_of_ble_eq_true rfl) (Nat.le_of_ble_eq_true rfl) (fun g K => ?_)
  have M := K.b
  show g 0 0 (cX tr kp th ot tp sl pk rf ik) 0 [some (.ref 0), some (.int a0), some (.int a1), some (.int a2)] []
  rw [f_X3_behind] at hf
  refine m_run M (is := [(0, .iload_n 1, 0), (1, .iconst 0, 0), (2, .sipush 999, 999)]) (pc' := 5) (L' := [some (.ref 0), some (.int a0), some (.int a1), some (.int a2)]) (st' := [.int 999, .int 0, .int a0]) (w' := (cX tr kp th ot tp sl pk rf ik)) (by decide +kernel) rfl trivial ?_
  obtain ⟨r1001, h_1001, hf⟩ := bnd_s hf
  refine m_cS0 M (rest := []) (w2 := (cX tr kp th ot tp sl pk rf ik)) (st2 := [.int r1001]) (run_X3_isBetween a0 0 999    h_1001) cs_X3_isBetween lk_X3_50 (by decide +kernel) [] (by decide) ⟨Nat.le_of_ble_eq_true rfl, Nat.le_of_ble_eq_true rfl⟩ rfl rfl (Nat.le_of_ble_eq_true rfl) ⟨by decide, by decide⟩ rfl rfl ⟨Nat.zero_le _, Nat.zero_le _⟩ rfl rfl ?_
  rcases ite_s hf with ⟨c_1002, hf⟩ | ⟨c_1002, hf⟩
  · refine m_jT M (i := .ifCond .eq 23) 31 (by decide +kernel) rfl (by decide) c_1002 ?_
    refine m_run M (is := [(31, .aload_n 0, 0), (32, .bipush (-2), -2)]) (pc' := 34) (L' := [some (.ref 0), some (.int a0), some (.int a1), some (.int a2)]) (st' := [.int (-2), .ref 0]) (w' := (cX tr kp th ot tp sl pk rf ik)) (by decide +kernel) rfl trivial ?_
    obtain ⟨r1003, h_1003, hf⟩ := bnd_s hf
    refine m_cV0 M (rest := []) (w2 := (cX tr kp th ot tp sl pk r1003.2 ik)) (st2 := [.int r1003.1]) (run_X3_refuse (-2)   tr kp th ot tp sl pk rf ik h_1003) cv_X3_refuse lk_X3_54 (by decide +kernel) (List.range 46) List.nodup_range ⟨(by rw [List.length_range]; exact Nat.le_refl _), Nat.le_of_ble_eq_true rfl⟩ (hwId rfl) rfl rfl (Nat.le_of_ble_eq_true rfl) ⟨by decide, by decide⟩ rfl rfl ⟨Nat.zero_le _, Nat.zero_le _⟩ (hpId rfl rfl) rfl ?_
    obtain rfl := Option.some.inj hf
    exact m_iret K (by decide +kernel) (Nat.zero_le _) (Nat.zero_le _) ⟨rfl, rfl⟩
  · refine m_jF M (i := .ifCond .eq 23) 31 (by decide +kernel) rfl (by decide) c_1002 ?_
    refine m_run M (is := [(11, .aload_n 0, 0), (12, .getfield 10, 0), (15, .iload_n 2, 0)]) (pc' := 16) (L' := [some (.ref 0), some (.int a0), some (.int a1), some (.int a2)]) (st' := [.int a1, .ref 1]) (w' := (cX tr kp th ot tp sl pk rf ik)) (by decide +kernel) rfl trivial ?_
    obtain ⟨r1004, h_1004, hf⟩ := bnd_s hf
    refine m_cV0 M (rest := []) (w2 := (cX tr kp th ot tp sl pk rf ik)) (st2 := [.int r1004]) (run_X1_hasPerson a1   tr h_1004) cv_X1_hasPerson lk_X3_147 (by decide +kernel) [1, 2, 3, 4, 5, 6] (by decide) ⟨Nat.le_of_ble_eq_true rfl, Nat.le_of_ble_eq_true rfl⟩ (hw_3  tr kp th ot tp sl pk rf ik) rfl rfl (Nat.le_of_ble_eq_true rfl) ⟨by decide, by decide⟩ rfl rfl ⟨Nat.zero_le _, Nat.zero_le _⟩ (hp_3  tr kp th ot tp sl pk rf ik tr) rfl ?_
    rcases ite_s hf with ⟨c_1005, hf⟩ | ⟨c_1005, hf⟩
    · refine m_jT M (i := .ifCond .eq 12) 31 (by decide +kernel) rfl (by decide) c_1005 ?_
      refine m_run M (is := [(31, .aload_n 0, 0), (32, .bipush (-2), -2)]) (pc' := 34) (L' := [some (.ref 0), some (.int a0), some (.int a1), some (.int a2)]) (st' := [.int (-2), .ref 0]) (w' := (cX tr kp th ot tp sl pk rf ik)) (by decide +kernel) rfl trivial ?_
      obtain ⟨r1006, h_1006, hf⟩ := bnd_s hf
      refine m_cV0 M (rest := []) (w2 := (cX tr kp th ot tp sl pk r1006.2 ik)) (st2 := [.int r1006.1]) (run_X3_refuse (-2)   tr kp th ot tp sl pk rf ik h_1006) cv_X3_refuse lk_X3_54 (by decide +kernel) (List.range 46) List.nodup_range ⟨(by rw [List.length_range]; exact Nat.le_refl _), Nat.le_of_ble_eq_true rfl⟩ (hwId rfl) rfl rfl (Nat.le_of_ble_eq_true rfl) ⟨by decide, by decide⟩ rfl rfl ⟨Nat.zero_le _, Nat.zero_le _⟩ (hpId rfl rfl) rfl ?_
      obtain rfl := Option.some.inj hf
      exact m_iret K (by decide +kernel) (Nat.zero_le _) (Nat.zero_le _) ⟨rfl, rfl⟩
    · refine m_jF M (i := .ifCond .eq 12) 31 (by decide +kernel) rfl (by decide) c_1005 ?_
      refine m_run M (is := [(22, .iload_n 3, 0), (23, .iconst 0, 0), (24, .iconst 2, 2)]) (pc' := 25) (L' := [some (.ref 0), some (.int a0), some (.int a1), some (.int a2)]) (st' := [.int 2, .int 0, .int a2]) (w' := (cX tr kp th ot tp sl pk rf ik)) (by decide +kernel) rfl trivial ?_
      obtain ⟨r1007, h_1007, hf⟩ := bnd_s hf
      refine m_cS0 M (rest := []) (w2 := (cX tr kp th ot tp sl pk rf ik)) (st2 := [.int r1007]) (run_X3_isBetween a2 0 2    h_1007) cs_X3_isBetween lk_X3_50 (by decide +kernel) [] (by decide) ⟨Nat.le_of_ble_eq_true rfl, Nat.le_of_ble_eq_true rfl⟩ rfl rfl (Nat.le_of_ble_eq_true rfl) ⟨by decide, by decide⟩ rfl rfl ⟨Nat.zero_le _, Nat.zero_le _⟩ rfl rfl ?_
      rcases ite_s hf with ⟨c_1008, hf⟩ | ⟨c_1008, hf⟩
      · refine m_jF M (i := .ifCond .ne 10) 38 (by decide +kernel) rfl (by decide) (fun n => n c_1008) ?_
        refine m_run M (is := [(31, .aload_n 0, 0), (32, .bipush (-2), -2)]) (pc' := 34) (L' := [some (.ref 0), some (.int a0), some (.int a1), some (.int a2)]) (st' := [.int (-2), .ref 0]) (w' := (cX tr kp th ot tp sl pk rf ik)) (by decide +kernel) rfl trivial ?_
        obtain ⟨r1009, h_1009, hf⟩ := bnd_s hf
        refine m_cV0 M (rest := []) (w2 := (cX tr kp th ot tp sl pk r1009.2 ik)) (st2 := [.int r1009.1]) (run_X3_refuse (-2)   tr kp th ot tp sl pk rf ik h_1009) cv_X3_refuse lk_X3_54 (by decide +kernel) (List.range 46) List.nodup_range ⟨(by rw [List.length_range]; exact Nat.le_refl _), Nat.le_of_ble_eq_true rfl⟩ (hwId rfl) rfl rfl (Nat.le_of_ble_eq_true rfl) ⟨by decide, by decide⟩ rfl rfl ⟨Nat.zero_le _, Nat.zero_le _⟩ (hpId rfl rfl) rfl ?_
        obtain rfl := Option.some.inj hf
        exact m_iret K (by decide +kernel) (Nat.zero_le _) (Nat.zero_le _) ⟨rfl, rfl⟩
      · refine m_jT M (i := .ifCond .ne 10) 38 (by decide +kernel) rfl (by decide) c_1008 ?_
        refine m_run M (is := [(38, .aload_n 0, 0), (39, .getfield 10, 0)]) (pc' := 42) (L' := [some (.ref 0), some (.int a0), some (.int a1), some (.int a2)]) (st' := [.ref 1]) (w' := (cX tr kp th ot tp sl pk rf ik)) (by decide +kernel) rfl trivial ?_
        obtain ⟨r1010, h_1010, hf⟩ := bnd_s hf
        refine m_cV0 M (rest := []) (w2 := (cX tr kp th ot tp sl pk rf ik)) (st2 := [.int r1010]) (run_X1_isLawless    tr h_1010) cv_X1_isLawless lk_X3_181 (by decide +kernel) [1, 2, 3, 4, 5, 6] (by decide) ⟨Nat.le_of_ble_eq_true rfl, Nat.le_of_ble_eq_true rfl⟩ (hw_3  tr kp th ot tp sl pk rf ik) rfl rfl (Nat.le_of_ble_eq_true rfl) ⟨by decide, by decide⟩ rfl rfl ⟨Nat.zero_le _, Nat.zero_le _⟩ (hp_3  tr kp th ot tp sl pk rf ik tr) rfl ?_
        rcases ite_s hf with ⟨c_1011, hf⟩ | ⟨c_1011, hf⟩
        · refine m_jT M (i := .ifCond .eq 10) 55 (by decide +kernel) rfl (by decide) c_1011 ?_
          refine m_run M (is := [(55, .aload_n 0, 0), (56, .iload_n 1, 0)]) (pc' := 57) (L' := [some (.ref 0), some (.int a0), some (.int a1), some (.int a2)]) (st' := [.int a0, .ref 0]) (w' := (cX tr kp th ot tp sl pk rf ik)) (by decide +kernel) rfl trivial ?_
          obtain ⟨r1012, h_1012, hf⟩ := bnd_s hf
          refine m_cV0 M (rest := []) (w2 := (cX tr kp r1012 ot tp sl pk rf ik)) (st2 := []) (run_X3_think a0   tr kp th ot tp sl pk rf ik h_1012) cv_X3_think lk_X3_184 (by decide +kernel) (List.range 46) List.nodup_range ⟨(by rw [List.length_range]; exact Nat.le_refl _), Nat.le_of_ble_eq_true rfl⟩ (hwId rfl) rfl rfl (Nat.le_of_ble_eq_true rfl) ⟨by decide, by decide⟩ rfl rfl ⟨Nat.zero_le _, Nat.zero_le _⟩ (hpId rfl rfl) rfl ?_
          refine m_run M (is := [(60, .aload_n 0, 0), (61, .getfield 19, 0), (64, .iload_n 2, 0), (65, .iload_n 3, 0)]) (pc' := 66) (L' := [some (.ref 0), some (.int a0), some (.int a1), some (.int a2)]) (st' := [.int a2, .int a1, .ref 13]) (w' := (cX tr kp r1012 ot tp sl pk rf ik)) (by decide +kernel) rfl trivial ?_
          obtain ⟨r1013, h_1013, hf⟩ := bnd_s hf
          refine m_cV0 M (rest := []) (w2 := (cX tr kp r1012 ot tp sl pk rf ik)) (st2 := [.int r1013]) (run_X1_fact a1 a2   r1012 h_1013) cv_X1_fact lk_X3_172 (by decide +kernel) [13, 14, 15, 16, 17, 18] (by decide) ⟨Nat.le_of_ble_eq_true rfl, Nat.le_of_ble_eq_true rfl⟩ (hw_1  tr kp r1012 ot tp sl pk rf ik) rfl rfl (Nat.le_of_ble_eq_true rfl) ⟨by decide, by decide⟩ rfl rfl ⟨Nat.zero_le _, Nat.zero_le _⟩ (hp_1  tr kp r1012 ot tp sl pk rf ik r1012) rfl ?_
          obtain rfl := Option.some.inj hf
          exact m_iret K (by decide +kernel) (Nat.zero_le _) (Nat.zero_le _) ⟨rfl, rfl⟩
        · refine m_jF M (i := .ifCond .eq 10) 55 (by decide +kernel) rfl (by decide) c_1011 ?_
          refine m_run M (is := [(48, .aload_n 0, 0), (49, .bipush (-5), -5)]) (pc' := 51) (L' := [some (.ref 0), some (.int a0), some (.int a1), some (.int a2)]) (st' := [.int (-5), .ref 0]) (w' := (cX tr kp th ot tp sl pk rf ik)) (by decide +kernel) rfl trivial ?_
          obtain ⟨r1014, h_1014, hf⟩ := bnd_s hf
          refine m_cV0 M (rest := []) (w2 := (cX tr kp th ot tp sl pk r1014.2 ik)) (st2 := [.int r1014.1]) (run_X3_refuse (-5)   tr kp th ot tp sl pk rf ik h_1014) cv_X3_refuse lk_X3_54 (by decide +kernel) (List.range 46) List.nodup_range ⟨(by rw [List.length_range]; exact Nat.le_refl _), Nat.le_of_ble_eq_true rfl⟩ (hwId rfl) rfl rfl (Nat.le_of_ble_eq_true rfl) ⟨by decide, by decide⟩ rfl rfl ⟨Nat.zero_le _, Nat.zero_le _⟩ (hpId rfl rfl) rfl ?_
          obtain rfl := Option.some.inj hf
          exact m_iret K (by decide +kernel) (Nat.zero_le _) (Nat.zero_le _) ⟨rfl, rfl⟩

def f_X3_served (a0 : Int32) (tr : ShT) (th : ShT) (rf : AI) : Option (Int32 × ShT × AI) :=
  (f_X3_isBetween a0 1 999).bind fun r1001 =>
  if r1001 = 0 then
    (f_X3_refuse (-2) rf).bind fun r1003 =>
    some (r1003.1, th, r1003.2)
  else
    (f_X1_isStuck tr).bind fun r1004 =>
    if r1004 = 0 then
      (f_X3_think (a0 - 1) tr th).bind fun r1006 =>
      (f_X1_who 0 r1006).bind fun r1007 =>
      some (r1007, r1006, rf)
    else
      (f_X3_refuse (-5) rf).bind fun r1008 =>
      some (r1008.1, th, r1008.2)
set_option maxRecDepth 100000 in
set_option maxHeartbeats 4000000 in
theorem run_X3_served {l : Launch} {D : va_G} {cT : Nat → ClassId} (a0 : Int32)   (tr : ShT) (kp : ShT) (th : ShT) (ot : ShT) (tp : TpT) (sl : (Nat → SlT)) (pk : AI) (rf : AI) (ik : Int32) {r : Int32 × ShT × AI} (hf : f_X3_served a0 tr th rf = some r) : Runs l D cT yX3_served cX3_served 2 (some .int) 5 110 [.ref 0, .int a0] (cX tr kp th ot tp sl pk rf ik) (EQ (some (.int r.1)) (cX tr kp r.2.1 ot tp sl pk r.2.2 ik)) := by
  refine runs_of O_X3 okO_X3 (by decide +kernel) rfl rfl (Nat.le_of_ble_eq_true rfl) (Nat.le_of_ble_eq_true rfl) (fun g K => ?_)
  have M := K.b
  show g 0 0 (cX tr kp th ot tp sl pk rf ik) 0 [some (.ref 0), some (.int a0)] []
  rw [f_X3_served] at hf
  refine m_run M (is := [(0, .iload_n 1, 0), (1, .iconst 1, 1), (2, .sipush 999, 999)]) (pc' := 5) (L' := [some (.ref 0), some (.int a0)]) (st' := [.int 999, .int 1, .int a0]) (w' := (cX tr kp th ot tp sl pk rf ik)) (by decide +kernel) rfl trivial ?_
  obtain ⟨r1001, h_1001, hf⟩ := bnd_s hf
  refine m_cS0 M (rest := []) (w2 := (cX tr kp th ot tp sl pk rf ik)) (st2 := [.int r1001]) (run_X3_isBetween a0 1 999    h_1001) cs_X3_isBetween lk_X3_50 (by decide +kernel) [] (by decide) ⟨Nat.le_of_ble_eq_true rfl, Nat.le_of_ble_eq_true rfl⟩ rfl rfl (Nat.le_of_ble_eq_true rfl) ⟨by decide, by decide⟩ rfl rfl ⟨Nat.zero_le _, Nat.zero_le _⟩ rfl rfl ?_
  rcases ite_s hf with ⟨c_1002, hf⟩ | ⟨c_1002, hf⟩
  · refine m_jF M (i := .ifCond .ne 10) 18 (by decide +kernel) rfl (by decide) (fun n => n c_1002) ?_
    refine m_run M (is := [(11, .aload_n 0, 0), (12, .bipush (-2), -2)]) (pc' := 14) (L' := [some (.ref 0), some (.int a0)]) (st' := [.int (-2), .ref 0]) (w' := (cX tr kp th ot tp sl pk rf ik)) (by decide +kernel) rfl trivial ?_
    obtain ⟨r1003, h_1003, hf⟩ := bnd_s hf
    refine m_cV0 M (rest := []) (w2 := (cX tr kp th ot tp sl pk r1003.2 ik)) (st2 := [.int r1003.1]) (run_X3_refuse (-2)   tr kp th ot tp sl pk rf ik h_1003) cv_X3_refuse lk_X3_54 (by decide +kernel) (List.range 46) List.nodup_range ⟨(by rw [List.length_range]; exact Nat.le_refl _), Nat.le_of_ble_eq_true rfl⟩ (hwId rfl) rfl rfl (Nat.le_of_ble_eq_true rfl) ⟨by decide, by decide⟩ rfl rfl ⟨Nat.zero_le _, Nat.zero_le _⟩ (hpId rfl rfl) rfl ?_
    obtain rfl := Option.some.inj hf
    exact m_iret K (by decide +kernel) (Nat.zero_le _) (Nat.zero_le _) ⟨rfl, rfl⟩
  · refine m_jT M (i := .ifCond .ne 10) 18 (by decide +kernel) rfl (by decide) c_1002 ?_
    refine m_run M (is := [(18, .aload_n 0, 0), (19, .getfield 10, 0)]) (pc' := 22) (L' := [some (.ref 0), some (.int a0)]) (st' := [.ref 1]) (w' := (cX tr kp th ot tp sl pk rf ik)) (by decide +kernel) rfl trivial ?_
    obtain ⟨r1004, h_1004, hf⟩ := bnd_s hf
    refine m_cV0 M (rest := []) (w2 := (cX tr kp th ot tp sl pk rf ik)) (st2 := [.int r1004]) (run_X1_isStuck    tr h_1004) cv_X1_isStuck lk_X3_187 (by decide +kernel) [1, 2, 3, 4, 5, 6] (by decide) ⟨Nat.le_of_ble_eq_true rfl, Nat.le_of_ble_eq_true rfl⟩ (hw_3  tr kp th ot tp sl pk rf ik) rfl rfl (Nat.le_of_ble_eq_true rfl) ⟨by decide, by decide⟩ rfl rfl ⟨Nat.zero_le _, Nat.zero_le _⟩ (hp_3  tr kp th ot tp sl pk rf ik tr) rfl ?_
    rcases ite_s hf with ⟨c_1005, hf⟩ | ⟨c_1005, hf⟩
    · refine m_jT M (i := .ifCond .eq 10) 35 (by decide +kernel) rfl (by decide) c_1005 ?_
      refine m_run M (is := [(35, .aload_n 0, 0), (36, .iload_n 1, 0), (37, .iconst 1, 1), (38, .isub, 0)]) (pc' := 39) (L' := [some (.ref 0), some (.int a0)]) (st' := [.int (a0 - 1), .ref 0]) (w' := (cX tr kp th ot tp sl pk rf ik)) (by decide +kernel) rfl trivial ?_
      obtain ⟨r1006, h_1006, hf⟩ := bnd_s hf
      refine m_cV0 M (rest := []) (w2 := (cX tr kp r1006 ot tp sl pk rf ik)) (st2 := []) (run_X3_think (a0 - 1)   tr kp th ot tp sl pk rf ik h_1006) cv_X3_think lk_X3_184 (by decide +kernel) (List.range 46) List.nodup_range ⟨(by rw [List.length_range]; exact Nat.le_refl _), Nat.le_of_ble_eq_true rfl⟩ (hwId rfl) rfl rfl (Nat.le_of_ble_eq_true rfl) ⟨by decide, by decide⟩ rfl rfl ⟨Nat.zero_le _, Nat.zero_le _⟩ (hpId rfl rfl) rfl ?_
      refine m_run M (is := [(42, .aload_n 0, 0), (43, .getfield 19, 0), (46, .iconst 0, 0)]) (pc' := 47) (L' := [some (.ref 0), some (.int a0)]) (st' := [.int 0, .ref 13]) (w' := (cX tr kp r1006 ot tp sl pk rf ik)) (by decide +kernel) rfl trivial ?_
      obtain ⟨r1007, h_1007, hf⟩ := bnd_s hf
      refine m_cV0 M (rest := []) (w2 := (cX tr kp r1006 ot tp sl pk rf ik)) (st2 := [.int r1007]) (run_X1_who 0   r1006 h_1007) cv_X1_who lk_X3_178 (by decide +kernel) [13, 14, 15, 16, 17, 18] (by decide) ⟨Nat.le_of_ble_eq_true rfl, Nat.le_of_ble_eq_true rfl⟩ (hw_1  tr kp r1006 ot tp sl pk rf ik) rfl rfl (Nat.le_of_ble_eq_true rfl) ⟨by decide, by decide⟩ rfl rfl ⟨Nat.zero_le _, Nat.zero_le _⟩ (hp_1  tr kp r1006 ot tp sl pk rf ik r1006) rfl ?_
      obtain rfl := Option.some.inj hf
      exact m_iret K (by decide +kernel) (Nat.zero_le _) (Nat.zero_le _) ⟨rfl, rfl⟩
    · refine m_jF M (i := .ifCond .eq 10) 35 (by decide +kernel) rfl (by decide) c_1005 ?_
      refine m_run M (is := [(28, .aload_n 0, 0), (29, .bipush (-5), -5)]) (pc' := 31) (L' := [some (.ref 0), some (.int a0)]) (st' := [.int (-5), .ref 0]) (w' := (cX tr kp th ot tp sl pk rf ik)) (by decide +kernel) rfl trivial ?_
      obtain ⟨r1008, h_1008, hf⟩ := bnd_s hf
      refine m_cV0 M (rest := []) (w2 := (cX tr kp th ot tp sl pk r1008.2 ik)) (st2 := [.int r1008.1]) (run_X3_refuse (-5)   tr kp th ot tp sl pk rf ik h_1008) cv_X3_refuse lk_X3_54 (by decide +kernel) (List.range 46) List.nodup_range ⟨(by rw [List.length_range]; exact Nat.le_refl _), Nat.le_of_ble_eq_true rfl⟩ (hwId rfl) rfl rfl (Nat.le_of_ble_eq_true rfl) ⟨by decide, by decide⟩ rfl rfl ⟨Nat.zero_le _, Nat.zero_le _⟩ (hpId rfl rfl) rfl ?_
      obtain rfl := Option.some.inj hf
      exact m_iret K (by decide +kernel) (Nat.zero_le _) (Nat.zero_le _) ⟨rfl, rfl⟩

def f_X3_round_L0 (tr : ShT) : Nat → Int32 → ShT → AI → Option (Int32 × ShT × AI)
  | 0, _, _, _ => none
  | n_ + 1, v1, th, rf =>
    if 999 < v1 then
      some ((-1), th, rf)
    else
      (f_X1_turn th).bind fun r102 =>
      (f_X1_standsLike r102.2 tr).bind fun r103 =>
      if r103 = 0 then
        f_X3_round_L0 tr n_ (v1 + 1) r102.2 rf
      else
        some (v1, r102.2, rf)
def f_X3_round (tr : ShT) (th : ShT) (rf : AI) : Option (Int32 × ShT × AI) :=
  (f_X1_isStuck tr).bind fun r1001 =>
  if r1001 = 0 then
    (f_X1_become th tr).bind fun r1003 =>
    f_X3_round_L0 tr fuel0 1 r1003 rf
  else
    (f_X3_refuse (-5) rf).bind fun r1004 =>
    some (r1004.1, th, r1004.2)
set_option maxRecDepth 100000 in
set_option maxHeartbeats 4000000 in
theorem run_X3_round {l : Launch} {D : va_G} {cT : Nat → ClassId}    (tr : ShT) (kp : ShT) (th : ShT) (ot : ShT) (tp : TpT) (sl : (Nat → SlT)) (pk : AI) (rf : AI) (ik : Int32) {r : Int32 × ShT × AI} (hf : f_X3_round tr th rf = some r) : Runs l D cT yX3_round cX3_round 2 (some .int) 3 67 [.ref 0] (cX tr kp th ot tp sl pk rf ik) (EQ (some (.int r.1)) (cX tr kp r.2.1 ot tp sl pk r.2.2 ik)) := by
  refine runs_of O_X3 okO_X3 (by decide +kernel) rfl rfl (Nat.le_of_ble_eq_true rfl) (Nat.le_of_ble_eq_true rfl) (fun g K => ?_)
  have M := K.b
  show g 0 0 (cX tr kp th ot tp sl pk rf ik) 0 [some (.ref 0), none] []
  have loop_0 : ∀ (n_ : Nat), (∀ (v1 : Int32) (th : ShT) (rf : AI), f_X3_round_L0 tr n_ v1 th rf = some r → g 0 0 (cX tr kp th ot tp sl pk rf ik) 30 [some (.ref 0), some (.int v1)] []) := by
    intro n_
    induction n_ with
    | zero => intro v1 th rf hf; cases hf
    | succ n_ ih =>
      intro v1 th rf hf
      rw [f_X3_round_L0] at hf
      refine m_run M (is := [(30, .iload_n 1, 0), (31, .sipush 999, 999)]) (pc' := 34) (L' := [some (.ref 0), some (.int v1)]) (st' := [.int 999, .int v1]) (w' := (cX tr kp th ot tp sl pk rf ik)) (by decide +kernel) rfl trivial ?_
      rcases ite_s hf with ⟨c_101, hf⟩ | ⟨c_101, hf⟩
      · refine m_jT M (i := .if_icmp .gt 33) 67 (by decide +kernel) rfl (by decide) c_101 ?_
        refine m_run M (is := [(67, .iconst (-1), -1)]) (pc' := 68) (L' := [some (.ref 0), some (.int v1)]) (st' := [.int (-1)]) (w' := (cX tr kp th ot tp sl pk rf ik)) (by decide +kernel) rfl trivial ?_
        obtain rfl := Option.some.inj hf
        exact m_iret K (by decide +kernel) (Nat.zero_le _) (Nat.zero_le _) ⟨rfl, rfl⟩
      · refine m_jF M (i := .if_icmp .gt 33) 67 (by decide +kernel) rfl (by decide) c_101 ?_
        refine m_run M (is := [(37, .aload_n 0, 0), (38, .getfield 19, 0)]) (pc' := 41) (L' := [some (.ref 0), some (.int v1)]) (st' := [.ref 13]) (w' := (cX tr kp th ot tp sl pk rf ik)) (by decide +kernel) rfl trivial ?_
        obtain ⟨r102, h_102, hf⟩ := bnd_s hf
        refine m_cV0 M (rest := []) (w2 := (cX tr kp r102.2 ot tp sl pk rf ik)) (st2 := [.int r102.1]) (run_X1_turn    th h_102) cv_X1_turn lk_X3_190 (by decide +kernel) [13, 14, 15, 16, 17, 18] (by decide) ⟨Nat.le_of_ble_eq_true rfl, Nat.le_of_ble_eq_true rfl⟩ (hw_1  tr kp th ot tp sl pk rf ik) rfl rfl (Nat.le_of_ble_eq_true rfl) ⟨by decide, by decide⟩ rfl rfl ⟨Nat.zero_le _, Nat.zero_le _⟩ (hp_1  tr kp th ot tp sl pk rf ik r102.2) rfl ?_
        refine m_run M (is := [(44, .pop, 0), (45, .aload_n 0, 0), (46, .getfield 19, 0), (49, .aload_n 0, 0), (50, .getfield 10, 0)]) (pc' := 53) (L' := [some (.ref 0), some (.int v1)]) (st' := [.ref 1, .ref 13]) (w' := (cX tr kp r102.2 ot tp sl pk rf ik)) (by decide +kernel) rfl trivial ?_
        obtain ⟨r103, h_103, hf⟩ := bnd_s hf
        refine m_cV0 M (rest := []) (w2 := (cX tr kp r102.2 ot tp sl pk rf ik)) (st2 := [.int r103]) (run_X1_standsLike    r102.2 tr h_103) cv_X1_standsLike lk_X3_193 (by decide +kernel) [13, 14, 15, 16, 17, 18, 1, 2, 3, 4, 5, 6] (by decide) ⟨Nat.le_of_ble_eq_true rfl, Nat.le_of_ble_eq_true rfl⟩ (hw_0  tr kp r102.2 ot tp sl pk rf ik) rfl rfl (Nat.le_of_ble_eq_true rfl) ⟨by decide, by decide⟩ rfl rfl ⟨Nat.zero_le _, Nat.zero_le _⟩ (hp_0  tr kp r102.2 ot tp sl pk rf ik r102.2 tr) rfl ?_
        rcases ite_s hf with ⟨c_104, hf⟩ | ⟨c_104, hf⟩
        · refine m_jT M (i := .ifCond .eq 5) 61 (by decide +kernel) rfl (by decide) c_104 ?_
          refine m_run M (is := [(61, .iinc 1 1, 1), (64, .goto (-34), 0)]) (pc' := 30) (L' := [some (.ref 0), some (.int (v1 + 1))]) (st' := []) (w' := (cX tr kp r102.2 ot tp sl pk rf ik)) (by decide +kernel) rfl trivial ?_
          exact ih (v1 + 1) r102.2 rf hf
        · refine m_jF M (i := .ifCond .eq 5) 61 (by decide +kernel) rfl (by decide) c_104 ?_
          refine m_run M (is := [(59, .iload_n 1, 0)]) (pc' := 60) (L' := [some (.ref 0), some (.int v1)]) (st' := [.int v1]) (w' := (cX tr kp r102.2 ot tp sl pk rf ik)) (by decide +kernel) rfl trivial ?_
          obtain rfl := Option.some.inj hf
          exact m_iret K (by decide +kernel) (Nat.zero_le _) (Nat.zero_le _) ⟨rfl, rfl⟩
  rw [f_X3_round] at hf
  refine m_run M (is := [(0, .aload_n 0, 0), (1, .getfield 10, 0)]) (pc' := 4) (L' := [some (.ref 0), none]) (st' := [.ref 1]) (w' := (cX tr kp th ot tp sl pk rf ik)) (by decide +kernel) rfl trivial ?_
  obtain ⟨r1001, h_1001, hf⟩ := bnd_s hf
  refine m_cV0 M (rest := []) (w2 := (cX tr kp th ot tp sl pk rf ik)) (st2 := [.int r1001]) (run_X1_isStuck    tr h_1001) cv_X1_isStuck lk_X3_187 (by decide +kernel) [1, 2, 3, 4, 5, 6] (by decide) ⟨Nat.le_of_ble_eq_true rfl, Nat.le_of_ble_eq_true rfl⟩ (hw_3  tr kp th ot tp sl pk rf ik) rfl rfl (Nat.le_of_ble_eq_true rfl) ⟨by decide, by decide⟩ rfl rfl ⟨Nat.zero_le _, Nat.zero_le _⟩ (hp_3  tr kp th ot tp sl pk rf ik tr) rfl ?_
  rcases ite_s hf with ⟨c_1002, hf⟩ | ⟨c_1002, hf⟩
  · refine m_jT M (i := .ifCond .eq 10) 17 (by decide +kernel) rfl (by decide) c_1002 ?_
    refine m_run M (is := [(17, .aload_n 0, 0), (18, .getfield 19, 0), (21, .aload_n 0, 0), (22, .getfield 10, 0)]) (pc' := 25) (L' := [some (.ref 0), none]) (st' := [.ref 1, .ref 13]) (w' := (cX tr kp th ot tp sl pk rf ik)) (by decide +kernel) rfl trivial ?_
    obtain ⟨r1003, h_1003, hf⟩ := bnd_s hf
    refine m_cV0 M (rest := []) (w2 := (cX tr kp r1003 ot tp sl pk rf ik)) (st2 := []) (run_X1_become    th tr h_1003) cv_X1_become lk_X3_161 (by decide +kernel) [13, 14, 15, 16, 17, 18, 1, 2, 3, 4, 5, 6] (by decide) ⟨Nat.le_of_ble_eq_true rfl, Nat.le_of_ble_eq_true rfl⟩ (hw_0  tr kp th ot tp sl pk rf ik) rfl rfl (Nat.le_of_ble_eq_true rfl) ⟨by decide, by decide⟩ rfl rfl ⟨Nat.zero_le _, Nat.zero_le _⟩ (hp_0  tr kp th ot tp sl pk rf ik r1003 tr) rfl ?_
    refine m_run M (is := [(28, .iconst 1, 1), (29, .istore_n 1, 0)]) (pc' := 30) (L' := [some (.ref 0), some (.int 1)]) (st' := []) (w' := (cX tr kp r1003 ot tp sl pk rf ik)) (by decide +kernel) rfl trivial ?_
    exact loop_0 fuel0 1 r1003 rf hf
  · refine m_jF M (i := .ifCond .eq 10) 17 (by decide +kernel) rfl (by decide) c_1002 ?_
    refine m_run M (is := [(10, .aload_n 0, 0), (11, .bipush (-5), -5)]) (pc' := 13) (L' := [some (.ref 0), none]) (st' := [.int (-5), .ref 0]) (w' := (cX tr kp th ot tp sl pk rf ik)) (by decide +kernel) rfl trivial ?_
    obtain ⟨r1004, h_1004, hf⟩ := bnd_s hf
    refine m_cV0 M (rest := []) (w2 := (cX tr kp th ot tp sl pk r1004.2 ik)) (st2 := [.int r1004.1]) (run_X3_refuse (-5)   tr kp th ot tp sl pk rf ik h_1004) cv_X3_refuse lk_X3_54 (by decide +kernel) (List.range 46) List.nodup_range ⟨(by rw [List.length_range]; exact Nat.le_refl _), Nat.le_of_ble_eq_true rfl⟩ (hwId rfl) rfl rfl (Nat.le_of_ble_eq_true rfl) ⟨by decide, by decide⟩ rfl rfl ⟨Nat.zero_le _, Nat.zero_le _⟩ (hpId rfl rfl) rfl ?_
    obtain rfl := Option.some.inj hf
    exact m_iret K (by decide +kernel) (Nat.zero_le _) (Nat.zero_le _) ⟨rfl, rfl⟩

def f_X3_when (a0 : Int32) (a1 : Int32) (tr : ShT) (th : ShT) (rf : AI) : Option (Int32 × ShT × AI) :=
  (f_X1_hasPerson a0 tr).bind fun r1001 =>
  if r1001 = 0 then
    (f_X3_refuse (-2) rf).bind fun r1003 =>
    some (r1003.1, th, r1003.2)
  else
    (f_X3_isBetween a1 1 99).bind fun r1004 =>
    if r1004 = 0 then
      (f_X3_refuse (-2) rf).bind fun r1006 =>
      some (r1006.1, th, r1006.2)
    else
      (f_X1_isLawless tr).bind fun r1007 =>
      if r1007 = 0 then
        (f_X1_become th tr).bind fun r1009 =>
        (f_X3_turnOfServing a0 a1 999 r1009).bind fun r1010 =>
        some (r1010.1, r1010.2, rf)
      else
        (f_X3_refuse (-5) rf).bind fun r1011 =>
        some (r1011.1, th, r1011.2)
set_option maxRecDepth 100000 in
set_option maxHeartbeats 4000000 in
theorem run_X3_when {l : Launch} {D : va_G} {cT : Nat → ClassId} (a0 : Int32) (a1 : Int32)   (tr : ShT) (kp : ShT) (th : ShT) (ot : ShT) (tp : TpT) (sl : (Nat → SlT)) (pk : AI) (rf : AI) (ik : Int32) {r : Int32 × ShT × AI} (hf : f_X3_when a0 a1 tr th rf = some r) : Runs l D cT yX3_when cX3_when 3 (some .int) 4 92 [.ref 0, .int a0, .int a1] (cX tr kp th ot tp sl pk rf ik) (EQ (some (.int r.1)) (cX tr kp r.2.1 ot tp sl pk r.2.2 ik)) := by
  refine runs_of O_X3 okO_X3 (by decide +kernel) rfl rfl (Nat.le_of_ble_eq_true rfl) (Nat.le_of_ble_eq_true rfl) (fun g K => ?_)
  have M := K.b
  show g 0 0 (cX tr kp th ot tp sl pk rf ik) 0 [some (.ref 0), some (.int a0), some (.int a1)] []
  rw [f_X3_when] at hf
  refine m_run M (is := [(0, .aload_n 0, 0), (1, .getfield 10, 0), (4, .iload_n 1, 0)]) (pc' := 5) (L' := [some (.ref 0), some (.int a0), some (.int a1)]) (st' := [.int a0, .ref 1]) (w' := (cX tr kp th ot tp sl pk rf ik)) (by decide +kernel) rfl trivial ?_
  obtain ⟨r1001, h_1001, hf⟩ := bnd_s hf
  refine m_cV0 M (rest := []) (w2 := (cX tr kp th ot tp sl pk rf ik)) (st2 := [.int r1001]) (run_X1_hasPerson a0   tr h_1001) cv_X1_hasPerson lk_X3_147 (by decide +kernel) [1, 2, 3, 4, 5, 6] (by decide) ⟨Nat.le_of_ble_eq_true rfl, Nat.le_of_ble_eq_true rfl⟩ (hw_3  tr kp th ot tp sl pk rf ik) rfl rfl (Nat.le_of_ble_eq_true rfl) ⟨by decide, by decide⟩ rfl rfl ⟨Nat.zero_le _, Nat.zero_le _⟩ (hp_3  tr kp th ot tp sl pk rf ik tr) rfl ?_
  rcases ite_s hf with ⟨c_1002, hf⟩ | ⟨c_1002, hf⟩
  · refine m_jT M (i := .ifCond .eq 13) 21 (by decide +kernel) rfl (by decide) c_1002 ?_
    refine m_run M (is := [(21, .aload_n 0, 0), (22, .bipush (-2), -2)]) (pc' := 24) (L' := [some (.ref 0), some (.int a0), some (.int a1)]) (st' := [.int (-2), .ref 0]) (w' := (cX tr kp th ot tp sl pk rf ik)) (by decide +kernel) rfl trivial ?_
    obtain ⟨r1003, h_1003, hf⟩ := bnd_s hf
    refine m_cV0 M (rest := []) (w2 := (cX tr kp th ot tp sl pk r1003.2 ik)) (st2 := [.int r1003.1]) (run_X3_refuse (-2)   tr kp th ot tp sl pk rf ik h_1003) cv_X3_refuse lk_X3_54 (by decide +kernel) (List.range 46) List.nodup_range ⟨(by rw [List.length_range]; exact Nat.le_refl _), Nat.le_of_ble_eq_true rfl⟩ (hwId rfl) rfl rfl (Nat.le_of_ble_eq_true rfl) ⟨by decide, by decide⟩ rfl rfl ⟨Nat.zero_le _, Nat.zero_le _⟩ (hpId rfl rfl) rfl ?_
    obtain rfl := Option.some.inj hf
    exact m_iret K (by decide +kernel) (Nat.zero_le _) (Nat.zero_le _) ⟨rfl, rfl⟩
  · refine m_jF M (i := .ifCond .eq 13) 21 (by decide +kernel) rfl (by decide) c_1002 ?_
    refine m_run M (is := [(11, .iload_n 2, 0), (12, .iconst 1, 1), (13, .bipush 99, 99)]) (pc' := 15) (L' := [some (.ref 0), some (.int a0), some (.int a1)]) (st' := [.int 99, .int 1, .int a1]) (w' := (cX tr kp th ot tp sl pk rf ik)) (by decide +kernel) rfl trivial ?_
    obtain ⟨r1004, h_1004, hf⟩ := bnd_s hf
    refine m_cS0 M (rest := []) (w2 := (cX tr kp th ot tp sl pk rf ik)) (st2 := [.int r1004]) (run_X3_isBetween a1 1 99    h_1004) cs_X3_isBetween lk_X3_50 (by decide +kernel) [] (by decide) ⟨Nat.le_of_ble_eq_true rfl, Nat.le_of_ble_eq_true rfl⟩ rfl rfl (Nat.le_of_ble_eq_true rfl) ⟨by decide, by decide⟩ rfl rfl ⟨Nat.zero_le _, Nat.zero_le _⟩ rfl rfl ?_
    rcases ite_s hf with ⟨c_1005, hf⟩ | ⟨c_1005, hf⟩
    · refine m_jF M (i := .ifCond .ne 10) 28 (by decide +kernel) rfl (by decide) (fun n => n c_1005) ?_
      refine m_run M (is := [(21, .aload_n 0, 0), (22, .bipush (-2), -2)]) (pc' := 24) (L' := [some (.ref 0), some (.int a0), some (.int a1)]) (st' := [.int (-2), .ref 0]) (w' := (cX tr kp th ot tp sl pk rf ik)) (by decide +kernel) rfl trivial ?_
      obtain ⟨r1006, h_1006, hf⟩ := bnd_s hf
      refine m_cV0 M (rest := []) (w2 := (cX tr kp th ot tp sl pk r1006.2 ik)) (st2 := [.int r1006.1]) (run_X3_refuse (-2)   tr kp th ot tp sl pk rf ik h_1006) cv_X3_refuse lk_X3_54 (by decide +kernel) (List.range 46) List.nodup_range ⟨(by rw [List.length_range]; exact Nat.le_refl _), Nat.le_of_ble_eq_true rfl⟩ (hwId rfl) rfl rfl (Nat.le_of_ble_eq_true rfl) ⟨by decide, by decide⟩ rfl rfl ⟨Nat.zero_le _, Nat.zero_le _⟩ (hpId rfl rfl) rfl ?_
      obtain rfl := Option.some.inj hf
      exact m_iret K (by decide +kernel) (Nat.zero_le _) (Nat.zero_le _) ⟨rfl, rfl⟩
    · refine m_jT M (i := .ifCond .ne 10) 28 (by decide +kernel) rfl (by decide) c_1005 ?_
      refine m_run M (is := [(28, .aload_n 0, 0), (29, .getfield 10, 0)]) (pc' := 32) (L' := [some (.ref 0), some (.int a0), some (.int a1)]) (st' := [.ref 1]) (w' := (cX tr kp th ot tp sl pk rf ik)) (by decide +kernel) rfl trivial ?_
      obtain ⟨r1007, h_1007, hf⟩ := bnd_s hf
      refine m_cV0 M (rest := []) (w2 := (cX tr kp th ot tp sl pk rf ik)) (st2 := [.int r1007]) (run_X1_isLawless    tr h_1007) cv_X1_isLawless lk_X3_181 (by decide +kernel) [1, 2, 3, 4, 5, 6] (by decide) ⟨Nat.le_of_ble_eq_true rfl, Nat.le_of_ble_eq_true rfl⟩ (hw_3  tr kp th ot tp sl pk rf ik) rfl rfl (Nat.le_of_ble_eq_true rfl) ⟨by decide, by decide⟩ rfl rfl ⟨Nat.zero_le _, Nat.zero_le _⟩ (hp_3  tr kp th ot tp sl pk rf ik tr) rfl ?_
      rcases ite_s hf with ⟨c_1008, hf⟩ | ⟨c_1008, hf⟩
      · refine m_jT M (i := .ifCond .eq 10) 45 (by decide +kernel) rfl (by decide) c_1008 ?_
        refine m_run M (is := [(45, .aload_n 0, 0), (46, .getfield 19, 0), (49, .aload_n 0, 0), (50, .getfield 10, 0)]) (pc' := 53) (L' := [some (.ref 0), some (.int a0), some (.int a1)]) (st' := [.ref 1, .ref 13]) (w' := (cX tr kp th ot tp sl pk rf ik)) (by decide +kernel) rfl trivial ?_
        obtain ⟨r1009, h_1009, hf⟩ := bnd_s hf
        refine m_cV0 M (rest := []) (w2 := (cX tr kp r1009 ot tp sl pk rf ik)) (st2 := []) (run_X1_become    th tr h_1009) cv_X1_become lk_X3_161 (by decide +kernel) [13, 14, 15, 16, 17, 18, 1, 2, 3, 4, 5, 6] (by decide) ⟨Nat.le_of_ble_eq_true rfl, Nat.le_of_ble_eq_true rfl⟩ (hw_0  tr kp th ot tp sl pk rf ik) rfl rfl (Nat.le_of_ble_eq_true rfl) ⟨by decide, by decide⟩ rfl rfl ⟨Nat.zero_le _, Nat.zero_le _⟩ (hp_0  tr kp th ot tp sl pk rf ik r1009 tr) rfl ?_
        refine m_run M (is := [(56, .aload_n 0, 0), (57, .iload_n 1, 0), (58, .iload_n 2, 0), (59, .sipush 999, 999)]) (pc' := 62) (L' := [some (.ref 0), some (.int a0), some (.int a1)]) (st' := [.int 999, .int a1, .int a0, .ref 0]) (w' := (cX tr kp r1009 ot tp sl pk rf ik)) (by decide +kernel) rfl trivial ?_
        obtain ⟨r1010, h_1010, hf⟩ := bnd_s hf
        refine m_cV0 M (rest := []) (w2 := (cX tr kp r1010.2 ot tp sl pk rf ik)) (st2 := [.int r1010.1]) (run_X3_turnOfServing a0 a1 999   tr kp r1009 ot tp sl pk rf ik h_1010) cv_X3_turnOfServing lk_X3_197 (by decide +kernel) (List.range 46) List.nodup_range ⟨(by rw [List.length_range]; exact Nat.le_refl _), Nat.le_of_ble_eq_true rfl⟩ (hwId rfl) rfl rfl (Nat.le_of_ble_eq_true rfl) ⟨by decide, by decide⟩ rfl rfl ⟨Nat.zero_le _, Nat.zero_le _⟩ (hpId rfl rfl) rfl ?_
        obtain rfl := Option.some.inj hf
        exact m_iret K (by decide +kernel) (Nat.zero_le _) (Nat.zero_le _) ⟨rfl, rfl⟩
      · refine m_jF M (i := .ifCond .eq 10) 45 (by decide +kernel) rfl (by decide) c_1008 ?_
        refine m_run M (is := [(38, .aload_n 0, 0), (39, .bipush (-5), -5)]) (pc' := 41) (L' := [some (.ref 0), some (.int a0), some (.int a1)]) (st' := [.int (-5), .ref 0]) (w' := (cX tr kp th ot tp sl pk rf ik)) (by decide +kernel) rfl trivial ?_
        obtain ⟨r1011, h_1011, hf⟩ := bnd_s hf
        refine m_cV0 M (rest := []) (w2 := (cX tr kp th ot tp sl pk r1011.2 ik)) (st2 := [.int r1011.1]) (run_X3_refuse (-5)   tr kp th ot tp sl pk rf ik h_1011) cv_X3_refuse lk_X3_54 (by decide +kernel) (List.range 46) List.nodup_range ⟨(by rw [List.length_range]; exact Nat.le_refl _), Nat.le_of_ble_eq_true rfl⟩ (hwId rfl) rfl rfl (Nat.le_of_ble_eq_true rfl) ⟨by decide, by decide⟩ rfl rfl ⟨Nat.zero_le _, Nat.zero_le _⟩ (hpId rfl rfl) rfl ?_
        obtain rfl := Option.some.inj hf
        exact m_iret K (by decide +kernel) (Nat.zero_le _) (Nat.zero_le _) ⟨rfl, rfl⟩

def f_X3_never (tr : ShT) (th : ShT) (rf : AI) : Option (Int32 × ShT × AI) :=
  (f_X1_isStuck tr).bind fun r1001 =>
  if r1001 = 0 then
    (f_X1_allBits tr).bind fun r1003 =>
    (f_X3_servedBits 999 tr th).bind fun r1004 =>
    some ((r1003 &&& (r1004.1 ^^^ (-1))), r1004.2, rf)
  else
    (f_X3_refuse (-5) rf).bind fun r1005 =>
    some (r1005.1, th, r1005.2)
set_option maxRecDepth 100000 in
set_option maxHeartbeats 4000000 in
theorem run_X3_never {l : Launch} {D : va_G} {cT : Nat → ClassId}    (tr : ShT) (kp : ShT) (th : ShT) (ot : ShT) (tp : TpT) (sl : (Nat → SlT)) (pk : AI) (rf : AI) (ik : Int32) {r : Int32 × ShT × AI} (hf : f_X3_never tr th rf = some r) : Runs l D cT yX3_never cX3_never 1 (some .int) 4 90 [.ref 0] (cX tr kp th ot tp sl pk rf ik) (EQ (some (.int r.1)) (cX tr kp r.2.1 ot tp sl pk r.2.2 ik)) := by
  refine runs_of O_X3 okO_X3 (by decide +kernel) rfl rfl (Nat.le_of_ble_eq_true rfl) (Nat.le_of_ble_eq_true rfl) (fun g K => ?_)
  have M := K.b
  show g 0 0 (cX tr kp th ot tp sl pk rf ik) 0 [some (.ref 0)] []
  rw [f_X3_never] at hf
  refine m_run M (is := [(0, .aload_n 0, 0), (1, .getfield 10, 0)]) (pc' := 4) (L' := [some (.ref 0)]) (st' := [.ref 1]) (w' := (cX tr kp th ot tp sl pk rf ik)) (by decide +kernel) rfl trivial ?_
  obtain ⟨r1001, h_1001, hf⟩ := bnd_s hf
  refine m_cV0 M (rest := []) (w2 := (cX tr kp th ot tp sl pk rf ik)) (st2 := [.int r1001]) (run_X1_isStuck    tr h_1001) cv_X1_isStuck lk_X3_187 (by decide +kernel) [1, 2, 3, 4, 5, 6] (by decide) ⟨Nat.le_of_ble_eq_true rfl, Nat.le_of_ble_eq_true rfl⟩ (hw_3  tr kp th ot tp sl pk rf ik) rfl rfl (Nat.le_of_ble_eq_true rfl) ⟨by decide, by decide⟩ rfl rfl ⟨Nat.zero_le _, Nat.zero_le _⟩ (hp_3  tr kp th ot tp sl pk rf ik tr) rfl ?_
  rcases ite_s hf with ⟨c_1002, hf⟩ | ⟨c_1002, hf⟩
  · refine m_jT M (i := .ifCond .eq 10) 17 (by decide +kernel) rfl (by decide) c_1002 ?_
    refine m_run M (is := [(17, .aload_n 0, 0), (18, .getfield 10, 0)]) (pc' := 21) (L' := [some (.ref 0)]) (st' := [.ref 1]) (w' := (cX tr kp th ot tp sl pk rf ik)) (by decide +kernel) rfl trivial ?_
    obtain ⟨r1003, h_1003, hf⟩ := bnd_s hf
    refine m_cV0 M (rest := []) (w2 := (cX tr kp th ot tp sl pk rf ik)) (st2 := [.int r1003]) (run_X1_allBits    tr h_1003) cv_X1_allBits lk_X3_201 (by decide +kernel) [1, 2, 3, 4, 5, 6] (by decide) ⟨Nat.le_of_ble_eq_true rfl, Nat.le_of_ble_eq_true rfl⟩ (hw_3  tr kp th ot tp sl pk rf ik) rfl rfl (Nat.le_of_ble_eq_true rfl) ⟨by decide, by decide⟩ rfl rfl ⟨Nat.zero_le _, Nat.zero_le _⟩ (hp_3  tr kp th ot tp sl pk rf ik tr) rfl ?_
    refine m_run M (is := [(24, .aload_n 0, 0), (25, .sipush 999, 999)]) (pc' := 28) (L' := [some (.ref 0)]) (st' := [.int 999, .ref 0, .int r1003]) (w' := (cX tr kp th ot tp sl pk rf ik)) (by decide +kernel) rfl trivial ?_
    obtain ⟨r1004, h_1004, hf⟩ := bnd_s hf
    refine m_cV0 M (rest := [.int r1003]) (w2 := (cX tr kp r1004.2 ot tp sl pk rf ik)) (st2 := [.int r1004.1, .int r1003]) (run_X3_servedBits 999   tr kp th ot tp sl pk rf ik h_1004) cv_X3_servedBits lk_X3_204 (by decide +kernel) (List.range 46) List.nodup_range ⟨(by rw [List.length_range]; exact Nat.le_refl _), Nat.le_of_ble_eq_true rfl⟩ (hwId rfl) rfl rfl (Nat.le_of_ble_eq_true rfl) ⟨by decide, by decide⟩ rfl rfl ⟨Nat.zero_le _, Nat.zero_le _⟩ (hpId rfl rfl) rfl ?_
    refine m_run M (is := [(31, .iconst (-1), -1), (32, .ixor, 0), (33, .iand, 0)]) (pc' := 34) (L' := [some (.ref 0)]) (st' := [.int (r1003 &&& (r1004.1 ^^^ (-1)))]) (w' := (cX tr kp r1004.2 ot tp sl pk rf ik)) (by decide +kernel) rfl trivial ?_
    obtain rfl := Option.some.inj hf
    exact m_iret K (by decide +kernel) (Nat.zero_le _) (Nat.zero_le _) ⟨rfl, rfl⟩
  · refine m_jF M (i := .ifCond .eq 10) 17 (by decide +kernel) rfl (by decide) c_1002 ?_
    refine m_run M (is := [(10, .aload_n 0, 0), (11, .bipush (-5), -5)]) (pc' := 13) (L' := [some (.ref 0)]) (st' := [.int (-5), .ref 0]) (w' := (cX tr kp th ot tp sl pk rf ik)) (by decide +kernel) rfl trivial ?_
    obtain ⟨r1005, h_1005, hf⟩ := bnd_s hf
    refine m_cV0 M (rest := []) (w2 := (cX tr kp th ot tp sl pk r1005.2 ik)) (st2 := [.int r1005.1]) (run_X3_refuse (-5)   tr kp th ot tp sl pk rf ik h_1005) cv_X3_refuse lk_X3_54 (by decide +kernel) (List.range 46) List.nodup_range ⟨(by rw [List.length_range]; exact Nat.le_refl _), Nat.le_of_ble_eq_true rfl⟩ (hwId rfl) rfl rfl (Nat.le_of_ble_eq_true rfl) ⟨by decide, by decide⟩ rfl rfl ⟨Nat.zero_le _, Nat.zero_le _⟩ (hpId rfl rfl) rfl ?_
    obtain rfl := Option.some.inj hf
    exact m_iret K (by decide +kernel) (Nat.zero_le _) (Nat.zero_le _) ⟨rfl, rfl⟩

def f_X3_stand (a0 : Int32) (tr : ShT) (th : ShT) (rf : AI) : Option (Int32 × ShT × AI) :=
  (f_X3_isBetween a0 1 999).bind fun r1001 =>
  if r1001 = 0 then
    (f_X3_refuse (-2) rf).bind fun r1003 =>
    some (r1003.1, th, r1003.2)
  else
    (f_X1_isStuck tr).bind fun r1004 =>
    if r1004 = 0 then
      (f_X3_think (a0 - 1) tr th).bind fun r1006 =>
      (f_X1_who 0 r1006).bind fun r1007 =>
      (f_X1_placeOf r1007 tr).bind fun r1008 =>
      some (r1008, r1006, rf)
    else
      (f_X3_refuse (-5) rf).bind fun r1009 =>
      some (r1009.1, th, r1009.2)
set_option maxRecDepth 100000 in
set_option maxHeartbeats 4000000 in
theorem run_X3_stand {l : Launch} {D : va_G} {cT : Nat → ClassId} (a0 : Int32)   (tr : ShT) (kp : ShT) (th : ShT) (ot : ShT) (tp : TpT) (sl : (Nat → SlT)) (pk : AI) (rf : AI) (ik : Int32) {r : Int32 × ShT × AI} (hf : f_X3_stand a0 tr th rf = some r) : Runs l D cT yX3_stand cX3_stand 2 (some .int) 5 110 [.ref 0, .int a0] (cX tr kp th ot tp sl pk rf ik) (EQ (some (.int r.1)) (cX tr kp r.2.1 ot tp sl pk r.2.2 ik)) := by
  refine runs_of O_X3 okO_X3 (by decide +kernel) rfl rfl (Nat.le_of_ble_eq_true rfl) (Nat.le_of_ble_eq_true rfl) (fun g K => ?_)
  have M := K.b
  show g 0 0 (cX tr kp th ot tp sl pk rf ik) 0 [some (.ref 0), some (.int a0)] []
  rw [f_X3_stand] at hf
  refine m_run M (is := [(0, .iload_n 1, 0), (1, .iconst 1, 1), (2, .sipush 999, 999)]) (pc' := 5) (L' := [some (.ref 0), some (.int a0)]) (st' := [.int 999, .int 1, .int a0]) (w' := (cX tr kp th ot tp sl pk rf ik)) (by decide +kernel) rfl trivial ?_
  obtain ⟨r1001, h_1001, hf⟩ := bnd_s hf
  refine m_cS0 M (rest := []) (w2 := (cX tr kp th ot tp sl pk rf ik)) (st2 := [.int r1001]) (run_X3_isBetween a0 1 999    h_1001) cs_X3_isBetween lk_X3_50 (by decide +kernel) [] (by decide) ⟨Nat.le_of_ble_eq_true rfl, Nat.le_of_ble_eq_true rfl⟩ rfl rfl (Nat.le_of_ble_eq_true rfl) ⟨by decide, by decide⟩ rfl rfl ⟨Nat.zero_le _, Nat.zero_le _⟩ rfl rfl ?_
  rcases ite_s hf with ⟨c_1002, hf⟩ | ⟨c_1002, hf⟩
  · refine m_jF M (i := .ifCond .ne 10) 18 (by decide +kernel) rfl (by decide) (fun n => n c_1002) ?_
    refine m_run M (is := [(11, .aload_n 0, 0), (12, .bipush (-2), -2)]) (pc' := 14) (L' := [some (.ref 0), some (.int a0)]) (st' := [.int (-2), .ref 0]) (w' := (cX tr kp th ot tp sl pk rf ik)) (by decide +kernel) rfl trivial ?_
    obtain ⟨r1003, h_1003, hf⟩ := bnd_s hf
    refine m_cV0 M (rest := []) (w2 := (cX tr kp th ot tp sl pk r1003.2 ik)) (st2 := [.int r1003.1]) (run_X3_refuse (-2)   tr kp th ot tp sl pk rf ik h_1003) cv_X3_refuse lk_X3_54 (by decide +kernel) (List.range 46) List.nodup_range ⟨(by rw [List.length_range]; exact Nat.le_refl _), Nat.le_of_ble_eq_true rfl⟩ (hwId rfl) rfl rfl (Nat.le_of_ble_eq_true rfl) ⟨by decide, by decide⟩ rfl rfl ⟨Nat.zero_le _, Nat.zero_le _⟩ (hpId rfl rfl) rfl ?_
    obtain rfl := Option.some.inj hf
    exact m_iret K (by decide +kernel) (Nat.zero_le _) (Nat.zero_le _) ⟨rfl, rfl⟩
  · refine m_jT M (i := .ifCond .ne 10) 18 (by decide +kernel) rfl (by decide) c_1002 ?_
    refine m_run M (is := [(18, .aload_n 0, 0), (19, .getfield 10, 0)]) (pc' := 22) (L' := [some (.ref 0), some (.int a0)]) (st' := [.ref 1]) (w' := (cX tr kp th ot tp sl pk rf ik)) (by decide +kernel) rfl trivial ?_
    obtain ⟨r1004, h_1004, hf⟩ := bnd_s hf
    refine m_cV0 M (rest := []) (w2 := (cX tr kp th ot tp sl pk rf ik)) (st2 := [.int r1004]) (run_X1_isStuck    tr h_1004) cv_X1_isStuck lk_X3_187 (by decide +kernel) [1, 2, 3, 4, 5, 6] (by decide) ⟨Nat.le_of_ble_eq_true rfl, Nat.le_of_ble_eq_true rfl⟩ (hw_3  tr kp th ot tp sl pk rf ik) rfl rfl (Nat.le_of_ble_eq_true rfl) ⟨by decide, by decide⟩ rfl rfl ⟨Nat.zero_le _, Nat.zero_le _⟩ (hp_3  tr kp th ot tp sl pk rf ik tr) rfl ?_
    rcases ite_s hf with ⟨c_1005, hf⟩ | ⟨c_1005, hf⟩
    · refine m_jT M (i := .ifCond .eq 10) 35 (by decide +kernel) rfl (by decide) c_1005 ?_
      refine m_run M (is := [(35, .aload_n 0, 0), (36, .iload_n 1, 0), (37, .iconst 1, 1), (38, .isub, 0)]) (pc' := 39) (L' := [some (.ref 0), some (.int a0)]) (st' := [.int (a0 - 1), .ref 0]) (w' := (cX tr kp th ot tp sl pk rf ik)) (by decide +kernel) rfl trivial ?_
      obtain ⟨r1006, h_1006, hf⟩ := bnd_s hf
      refine m_cV0 M (rest := []) (w2 := (cX tr kp r1006 ot tp sl pk rf ik)) (st2 := []) (run_X3_think (a0 - 1)   tr kp th ot tp sl pk rf ik h_1006) cv_X3_think lk_X3_184 (by decide +kernel) (List.range 46) List.nodup_range ⟨(by rw [List.length_range]; exact Nat.le_refl _), Nat.le_of_ble_eq_true rfl⟩ (hwId rfl) rfl rfl (Nat.le_of_ble_eq_true rfl) ⟨by decide, by decide⟩ rfl rfl ⟨Nat.zero_le _, Nat.zero_le _⟩ (hpId rfl rfl) rfl ?_
      refine m_run M (is := [(42, .aload_n 0, 0), (43, .getfield 10, 0), (46, .aload_n 0, 0), (47, .getfield 19, 0), (50, .iconst 0, 0)]) (pc' := 51) (L' := [some (.ref 0), some (.int a0)]) (st' := [.int 0, .ref 13, .ref 1]) (w' := (cX tr kp r1006 ot tp sl pk rf ik)) (by decide +kernel) rfl trivial ?_
      obtain ⟨r1007, h_1007, hf⟩ := bnd_s hf
      refine m_cV0 M (rest := [.ref 1]) (w2 := (cX tr kp r1006 ot tp sl pk rf ik)) (st2 := [.int r1007, .ref 1]) (run_X1_who 0   r1006 h_1007) cv_X1_who lk_X3_178 (by decide +kernel) [13, 14, 15, 16, 17, 18] (by decide) ⟨Nat.le_of_ble_eq_true rfl, Nat.le_of_ble_eq_true rfl⟩ (hw_1  tr kp r1006 ot tp sl pk rf ik) rfl rfl (Nat.le_of_ble_eq_true rfl) ⟨by decide, by decide⟩ rfl rfl ⟨Nat.zero_le _, Nat.zero_le _⟩ (hp_1  tr kp r1006 ot tp sl pk rf ik r1006) rfl ?_
      obtain ⟨r1008, h_1008, hf⟩ := bnd_s hf
      refine m_cV0 M (rest := []) (w2 := (cX tr kp r1006 ot tp sl pk rf ik)) (st2 := [.int r1008]) (run_X1_placeOf r1007   tr h_1008) cv_X1_placeOf lk_X3_207 (by decide +kernel) [1, 2, 3, 4, 5, 6] (by decide) ⟨Nat.le_of_ble_eq_true rfl, Nat.le_of_ble_eq_true rfl⟩ (hw_3  tr kp r1006 ot tp sl pk rf ik) rfl rfl (Nat.le_of_ble_eq_true rfl) ⟨by decide, by decide⟩ rfl rfl ⟨Nat.zero_le _, Nat.zero_le _⟩ (hp_3  tr kp r1006 ot tp sl pk rf ik tr) rfl ?_
      obtain rfl := Option.some.inj hf
      exact m_iret K (by decide +kernel) (Nat.zero_le _) (Nat.zero_le _) ⟨rfl, rfl⟩
    · refine m_jF M (i := .ifCond .eq 10) 35 (by decide +kernel) rfl (by decide) c_1005 ?_
      refine m_run M (is := [(28, .aload_n 0, 0), (29, .bipush (-5), -5)]) (pc' := 31) (L' := [some (.ref 0), some (.int a0)]) (st' := [.int (-5), .ref 0]) (w' := (cX tr kp th ot tp sl pk rf ik)) (by decide +kernel) rfl trivial ?_
      obtain ⟨r1009, h_1009, hf⟩ := bnd_s hf
      refine m_cV0 M (rest := []) (w2 := (cX tr kp th ot tp sl pk r1009.2 ik)) (st2 := [.int r1009.1]) (run_X3_refuse (-5)   tr kp th ot tp sl pk rf ik h_1009) cv_X3_refuse lk_X3_54 (by decide +kernel) (List.range 46) List.nodup_range ⟨(by rw [List.length_range]; exact Nat.le_refl _), Nat.le_of_ble_eq_true rfl⟩ (hwId rfl) rfl rfl (Nat.le_of_ble_eq_true rfl) ⟨by decide, by decide⟩ rfl rfl ⟨Nat.zero_le _, Nat.zero_le _⟩ (hpId rfl rfl) rfl ?_
      obtain rfl := Option.some.inj hf
      exact m_iret K (by decide +kernel) (Nat.zero_le _) (Nat.zero_le _) ⟨rfl, rfl⟩

set_option maxRecDepth 100000 in
set_option maxHeartbeats 4000000 in
theorem hw_5  (tr : ShT) (kp : ShT) (th : ShT) (ot : ShT) (tp : TpT) (sl : (Nat → SlT)) (pk : AI) (rf : AI) (ik : Int32) : (List.take (List.length ([.inr (.inl (0, 16, .inl th.2.1))] : Wd)) ([15] : List Nat)).map (fun k => ((cX tr kp th ot tp sl pk rf ik))[k]?) = ([.inr (.inl (0, 16, .inl th.2.1))] : Wd).map (fun x => some (rS [15] (List.length ((cX tr kp th ot tp sl pk rf ik) : Wd)) x)) := rfl
set_option maxRecDepth 100000 in
set_option maxHeartbeats 4000000 in
theorem hp_5  (tr : ShT) (kp : ShT) (th : ShT) (ot : ShT) (tp : TpT) (sl : (Nat → SlT)) (pk : AI) (rf : AI) (ik : Int32) (f' : AI) : putL (List.take (List.length ([.inr (.inl (0, 16, .inl th.2.1))] : Wd)) ([15] : List Nat)) (([.inr (.inl (0, 16, .inl f'))] : Wd).map (rS [15] (List.length ((cX tr kp th ot tp sl pk rf ik) : Wd)))) (cX tr kp th ot tp sl pk rf ik) = (cX tr kp (th.1, f', th.2.2.1, th.2.2.2.1, th.2.2.2.2.1, th.2.2.2.2.2.1, th.2.2.2.2.2.2.1, th.2.2.2.2.2.2.2.1, th.2.2.2.2.2.2.2.2.1, th.2.2.2.2.2.2.2.2.2) ot tp sl pk rf ik) := rfl
def f_X3_leader (a0 : Int32) (tr : ShT) (th : ShT) (rf : AI) : Option (Int32 × ShT × AI) :=
  (f_X3_isBetween a0 0 999).bind fun r1001 =>
  if r1001 = 0 then
    (f_X3_refuse (-2) rf).bind fun r1003 =>
    some (r1003.1, th, r1003.2)
  else
    (f_X1_isStuck tr).bind fun r1004 =>
    if r1004 = 0 then
      (f_X1_become th tr).bind fun r1006 =>
      (f_X1_startAnew r1006).bind fun r1007 =>
      (f_X1_turnTimes a0 r1007).bind fun r1008 =>
      (f_X3_firstGreatest r1008.2.2.2.2.2.1 16 r1008.2.1).bind fun r1009 =>
      some (r1009, r1008, rf)
    else
      (f_X3_refuse (-5) rf).bind fun r1010 =>
      some (r1010.1, th, r1010.2)
set_option maxRecDepth 100000 in
set_option maxHeartbeats 4000000 in
theorem run_X3_leader {l : Launch} {D : va_G} {cT : Nat → ClassId} (a0 : Int32)   (tr : ShT) (kp : ShT) (th : ShT) (ot : ShT) (tp : TpT) (sl : (Nat → SlT)) (pk : AI) (rf : AI) (ik : Int32) {r : Int32 × ShT × AI} (hf : f_X3_leader a0 tr th rf = some r) : Runs l D cT yX3_leader cX3_leader 2 (some .int) 4 89 [.ref 0, .int a0] (cX tr kp th ot tp sl pk rf ik) (EQ (some (.int r.1)) (cX tr kp r.2.1 ot tp sl pk r.2.2 ik)) := by
  refine runs_of O_X3 okO_X3 (by decide +kernel) rfl rfl (Nat.le_of_ble_eq_true rfl) (Nat.le_of_ble_eq_true rfl) (fun g K => ?_)
  have M := K.b
  show g 0 0 (cX tr kp th ot tp sl pk rf ik) 0 [some (.ref 0), some (.int a0)] []
  rw [f_X3_leader] at hf
  refine m_run M (is := [(0, .iload_n 1, 0), (1, .iconst 0, 0), (2, .sipush 999, 999)]) (pc' := 5) (L' := [some (.ref 0), some (.int a0)]) (st' := [.int 999, .int 0, .int a0]) (w' := (cX tr kp th ot tp sl pk rf ik)) (by decide +kernel) rfl trivial ?_
  obtain ⟨r1001, h_1001, hf⟩ := bnd_s hf
  refine m_cS0 M (rest := []) (w2 := (cX tr kp th ot tp sl pk rf ik)) (st2 := [.int r1001]) (run_X3_isBetween a0 0 999    h_1001) cs_X3_isBetween lk_X3_50 (by decide +kernel) [] (by decide) ⟨Nat.le_of_ble_eq_true rfl, Nat.le_of_ble_eq_true rfl⟩ rfl rfl (Nat.le_of_ble_eq_true rfl) ⟨by decide, by decide⟩ rfl rfl ⟨Nat.zero_le _, Nat.zero_le _⟩ rfl rfl ?_
  rcases ite_s hf with ⟨c_1002, hf⟩ | ⟨c_1002, hf⟩
  · refine m_jF M (i := .ifCond .ne 10) 18 (by decide +kernel) rfl (by decide) (fun n => n c_1002) ?_
    refine m_run M (is := [(11, .aload_n 0, 0), (12, .bipush (-2), -2)]) (pc' := 14) (L' := [some (.ref 0), some (.int a0)]) (st' := [.int (-2), .ref 0]) (w' := (cX tr kp th ot tp sl pk rf ik)) (by decide +kernel) rfl trivial ?_
    obtain ⟨r1003, h_1003, hf⟩ := bnd_s hf
    refine m_cV0 M (rest := []) (w2 := (cX tr kp th ot tp sl pk r1003.2 ik)) (st2 := [.int r1003.1]) (run_X3_refuse (-2)   tr kp th ot tp sl pk rf ik h_1003) cv_X3_refuse lk_X3_54 (by decide +kernel) (List.range 46) List.nodup_range ⟨(by rw [List.length_range]; exact Nat.le_refl _), Nat.le_of_ble_eq_true rfl⟩ (hwId rfl) rfl rfl (Nat.le_of_ble_eq_true rfl) ⟨by decide, by decide⟩ rfl rfl ⟨Nat.zero_le _, Nat.zero_le _⟩ (hpId rfl rfl) rfl ?_
    obtain rfl := Option.some.inj hf
    exact m_iret K (by decide +kernel) (Nat.zero_le _) (Nat.zero_le _) ⟨rfl, rfl⟩
  · refine m_jT M (i := .ifCond .ne 10) 18 (by decide +kernel) rfl (by decide) c_1002 ?_
    refine m_run M (is := [(18, .aload_n 0, 0), (19, .getfield 10, 0)]) (pc' := 22) (L' := [some (.ref 0), some (.int a0)]) (st' := [.ref 1]) (w' := (cX tr kp th ot tp sl pk rf ik)) (by decide +kernel) rfl trivial ?_
    obtain ⟨r1004, h_1004, hf⟩ := bnd_s hf
    refine m_cV0 M (rest := []) (w2 := (cX tr kp th ot tp sl pk rf ik)) (st2 := [.int r1004]) (run_X1_isStuck    tr h_1004) cv_X1_isStuck lk_X3_187 (by decide +kernel) [1, 2, 3, 4, 5, 6] (by decide) ⟨Nat.le_of_ble_eq_true rfl, Nat.le_of_ble_eq_true rfl⟩ (hw_3  tr kp th ot tp sl pk rf ik) rfl rfl (Nat.le_of_ble_eq_true rfl) ⟨by decide, by decide⟩ rfl rfl ⟨Nat.zero_le _, Nat.zero_le _⟩ (hp_3  tr kp th ot tp sl pk rf ik tr) rfl ?_
    rcases ite_s hf with ⟨c_1005, hf⟩ | ⟨c_1005, hf⟩
    · refine m_jT M (i := .ifCond .eq 10) 35 (by decide +kernel) rfl (by decide) c_1005 ?_
      refine m_run M (is := [(35, .aload_n 0, 0), (36, .getfield 19, 0), (39, .aload_n 0, 0), (40, .getfield 10, 0)]) (pc' := 43) (L' := [some (.ref 0), some (.int a0)]) (st' := [.ref 1, .ref 13]) (w' := (cX tr kp th ot tp sl pk rf ik)) (by decide +kernel) rfl trivial ?_
      obtain ⟨r1006, h_1006, hf⟩ := bnd_s hf
      refine m_cV0 M (rest := []) (w2 := (cX tr kp r1006 ot tp sl pk rf ik)) (st2 := []) (run_X1_become    th tr h_1006) cv_X1_become lk_X3_161 (by decide +kernel) [13, 14, 15, 16, 17, 18, 1, 2, 3, 4, 5, 6] (by decide) ⟨Nat.le_of_ble_eq_true rfl, Nat.le_of_ble_eq_true rfl⟩ (hw_0  tr kp th ot tp sl pk rf ik) rfl rfl (Nat.le_of_ble_eq_true rfl) ⟨by decide, by decide⟩ rfl rfl ⟨Nat.zero_le _, Nat.zero_le _⟩ (hp_0  tr kp th ot tp sl pk rf ik r1006 tr) rfl ?_
      refine m_run M (is := [(46, .aload_n 0, 0), (47, .getfield 19, 0)]) (pc' := 50) (L' := [some (.ref 0), some (.int a0)]) (st' := [.ref 13]) (w' := (cX tr kp r1006 ot tp sl pk rf ik)) (by decide +kernel) rfl trivial ?_
      obtain ⟨r1007, h_1007, hf⟩ := bnd_s hf
      refine m_cV0 M (rest := []) (w2 := (cX tr kp r1007 ot tp sl pk rf ik)) (st2 := []) (run_X1_startAnew    r1006 h_1007) cv_X1_startAnew lk_X3_210 (by decide +kernel) [13, 14, 15, 16, 17, 18] (by decide) ⟨Nat.le_of_ble_eq_true rfl, Nat.le_of_ble_eq_true rfl⟩ (hw_1  tr kp r1006 ot tp sl pk rf ik) rfl rfl (Nat.le_of_ble_eq_true rfl) ⟨by decide, by decide⟩ rfl rfl ⟨Nat.zero_le _, Nat.zero_le _⟩ (hp_1  tr kp r1006 ot tp sl pk rf ik r1007) rfl ?_
      refine m_run M (is := [(53, .aload_n 0, 0), (54, .getfield 19, 0), (57, .iload_n 1, 0)]) (pc' := 58) (L' := [some (.ref 0), some (.int a0)]) (st' := [.int a0, .ref 13]) (w' := (cX tr kp r1007 ot tp sl pk rf ik)) (by decide +kernel) rfl trivial ?_
      obtain ⟨r1008, h_1008, hf⟩ := bnd_s hf
      refine m_cV0 M (rest := []) (w2 := (cX tr kp r1008 ot tp sl pk rf ik)) (st2 := []) (run_X1_turnTimes a0   r1007 h_1008) cv_X1_turnTimes lk_X3_213 (by decide +kernel) [13, 14, 15, 16, 17, 18] (by decide) ⟨Nat.le_of_ble_eq_true rfl, Nat.le_of_ble_eq_true rfl⟩ (hw_1  tr kp r1007 ot tp sl pk rf ik) rfl rfl (Nat.le_of_ble_eq_true rfl) ⟨by decide, by decide⟩ rfl rfl ⟨Nat.zero_le _, Nat.zero_le _⟩ (hp_1  tr kp r1007 ot tp sl pk rf ik r1008) rfl ?_
      refine m_run M (is := [(61, .aload_n 0, 0), (62, .getfield 19, 0), (65, .getfield 150, 0), (68, .aload_n 0, 0), (69, .getfield 19, 0), (72, .getfield 216, 0)]) (pc' := 75) (L' := [some (.ref 0), some (.int a0)]) (st' := [.int r1008.2.2.2.2.2.1, .ref 15]) (w' := (cX tr kp r1008 ot tp sl pk rf ik)) (by decide +kernel) rfl trivial ?_
      obtain ⟨r1009, h_1009, hf⟩ := bnd_s hf
      refine m_cS0 M (rest := []) (w2 := (cX tr kp r1008 ot tp sl pk rf ik)) (st2 := [.int r1009]) (run_X3_firstGreatest r1008.2.2.2.2.2.1 16  r1008.2.1 h_1009) cs_X3_firstGreatest lk_X3_219 (by decide +kernel) [15] (by decide) ⟨Nat.le_of_ble_eq_true rfl, Nat.le_of_ble_eq_true rfl⟩ (hw_5  tr kp r1008 ot tp sl pk rf ik) rfl (Nat.le_of_ble_eq_true rfl) ⟨by decide, by decide⟩ rfl rfl ⟨Nat.zero_le _, Nat.zero_le _⟩ (hp_5  tr kp r1008 ot tp sl pk rf ik r1008.2.1) rfl ?_
      obtain rfl := Option.some.inj hf
      exact m_iret K (by decide +kernel) (Nat.zero_le _) (Nat.zero_le _) ⟨rfl, rfl⟩
    · refine m_jF M (i := .ifCond .eq 10) 35 (by decide +kernel) rfl (by decide) c_1005 ?_
      refine m_run M (is := [(28, .aload_n 0, 0), (29, .bipush (-5), -5)]) (pc' := 31) (L' := [some (.ref 0), some (.int a0)]) (st' := [.int (-5), .ref 0]) (w' := (cX tr kp th ot tp sl pk rf ik)) (by decide +kernel) rfl trivial ?_
      obtain ⟨r1010, h_1010, hf⟩ := bnd_s hf
      refine m_cV0 M (rest := []) (w2 := (cX tr kp th ot tp sl pk r1010.2 ik)) (st2 := [.int r1010.1]) (run_X3_refuse (-5)   tr kp th ot tp sl pk rf ik h_1010) cv_X3_refuse lk_X3_54 (by decide +kernel) (List.range 46) List.nodup_range ⟨(by rw [List.length_range]; exact Nat.le_refl _), Nat.le_of_ble_eq_true rfl⟩ (hwId rfl) rfl rfl (Nat.le_of_ble_eq_true rfl) ⟨by decide, by decide⟩ rfl rfl ⟨Nat.zero_le _, Nat.zero_le _⟩ (hpId rfl rfl) rfl ?_
      obtain rfl := Option.some.inj hf
      exact m_iret K (by decide +kernel) (Nat.zero_le _) (Nat.zero_le _) ⟨rfl, rfl⟩

def f_X3_waits_L0 (v1 : Int32) (tr : ShT) : Nat → Int32 → Int32 → Int32 → ShT → AI → Option (Int32 × ShT × AI)
  | 0, _, _, _, _, _ => none
  | n_ + 1, v2, v3, v4, th, rf =>
    if 999 < v4 then
      some (v2, th, rf)
    else
      (f_X1_turn th).bind fun r102 =>
      if r102.1 = v1 then
        (f_J9_max_7cf53 v2 (v4 - v3)).bind fun r104 =>
        f_X3_waits_L0 v1 tr n_ r104 v4 (v4 + 1) r102.2 rf
      else
        f_X3_waits_L0 v1 tr n_ v2 v3 (v4 + 1) r102.2 rf
def f_X3_waits (a0 : Int32) (tr : ShT) (th : ShT) (rf : AI) : Option (Int32 × ShT × AI) :=
  (f_X1_hasPerson a0 tr).bind fun r1001 =>
  if r1001 = 0 then
    (f_X3_refuse (-2) rf).bind fun r1003 =>
    some (r1003.1, th, r1003.2)
  else
    (f_X1_isLawless tr).bind fun r1004 =>
    if r1004 = 0 then
      (f_X1_become th tr).bind fun r1006 =>
      f_X3_waits_L0 a0 tr fuel0 (-1) 0 1 r1006 rf
    else
      (f_X3_refuse (-5) rf).bind fun r1007 =>
      some (r1007.1, th, r1007.2)
set_option maxRecDepth 100000 in
set_option maxHeartbeats 4000000 in
theorem run_X3_waits {l : Launch} {D : va_G} {cT : Nat → ClassId} (a0 : Int32)   (tr : ShT) (kp : ShT) (th : ShT) (ot : ShT) (tp : TpT) (sl : (Nat → SlT)) (pk : AI) (rf : AI) (ik : Int32) {r : Int32 × ShT × AI} (hf : f_X3_waits a0 tr th rf = some r) : Runs l D cT yX3_waits cX3_waits 5 (some .int) 3 67 [.ref 0, .int a0] (cX tr kp th ot tp sl pk rf ik) (EQ (some (.int r.1)) (cX tr kp r.2.1 ot tp sl pk r.2.2 ik)) := by
  refine runs_of O_X3 okO_X3 (by decide +kernel) rfl rfl (Nat.le_of_ble_eq_true rfl) (Nat.le_of_ble_eq_true rfl) (fun g K => ?_)
  have M := K.b
  show g 0 0 (cX tr kp th ot tp sl pk rf ik) 0 [some (.ref 0), some (.int a0), none, none, none] []
  have loop_0 : ∀ (v1 : Int32) (n_ : Nat), (∀ (v2 : Int32) (v3 : Int32) (v4 : Int32) (th : ShT) (rf : AI), f_X3_waits_L0 v1 tr n_ v2 v3 v4 th rf = some r → g 0 0 (cX tr kp th ot tp sl pk rf ik) 53 [some (.ref 0), some (.int v1), some (.int v2), some (.int v3), some (.int v4)] []) := by
    intro v1 n_
    induction n_ with
    | zero => intro v2 v3 v4 th rf hf; cases hf
    | succ n_ ih =>
      intro v2 v3 v4 th rf hf
      rw [f_X3_waits_L0] at hf
      refine m_run M (is := [(53, .iload 4, 0), (55, .sipush 999, 999)]) (pc' := 58) (L' := [some (.ref 0), some (.int v1), some (.int v2), some (.int v3), some (.int v4)]) (st' := [.int 999, .int v4]) (w' := (cX tr kp th ot tp sl pk rf ik)) (by decide +kernel) rfl trivial ?_
      rcases ite_s hf with ⟨c_101, hf⟩ | ⟨c_101, hf⟩
      · refine m_jT M (i := .if_icmp .gt 32) 90 (by decide +kernel) rfl (by decide) c_101 ?_
        refine m_run M (is := [(90, .iload_n 2, 0)]) (pc' := 91) (L' := [some (.ref 0), some (.int v1), some (.int v2), some (.int v3), some (.int v4)]) (st' := [.int v2]) (w' := (cX tr kp th ot tp sl pk rf ik)) (by decide +kernel) rfl trivial ?_
        obtain rfl := Option.some.inj hf
        exact m_iret K (by decide +kernel) (Nat.zero_le _) (Nat.zero_le _) ⟨rfl, rfl⟩
      · refine m_jF M (i := .if_icmp .gt 32) 90 (by decide +kernel) rfl (by decide) c_101 ?_
        refine m_run M (is := [(61, .aload_n 0, 0), (62, .getfield 19, 0)]) (pc' := 65) (L' := [some (.ref 0), some (.int v1), some (.int v2), some (.int v3), some (.int v4)]) (st' := [.ref 13]) (w' := (cX tr kp th ot tp sl pk rf ik)) (by decide +kernel) rfl trivial ?_
        obtain ⟨r102, h_102, hf⟩ := bnd_s hf
        refine m_cV0 M (rest := []) (w2 := (cX tr kp r102.2 ot tp sl pk rf ik)) (st2 := [.int r102.1]) (run_X1_turn    th h_102) cv_X1_turn lk_X3_190 (by decide +kernel) [13, 14, 15, 16, 17, 18] (by decide) ⟨Nat.le_of_ble_eq_true rfl, Nat.le_of_ble_eq_true rfl⟩ (hw_1  tr kp th ot tp sl pk rf ik) rfl rfl (Nat.le_of_ble_eq_true rfl) ⟨by decide, by decide⟩ rfl rfl ⟨Nat.zero_le _, Nat.zero_le _⟩ (hp_1  tr kp th ot tp sl pk rf ik r102.2) rfl ?_
        refine m_run M (is := [(68, .iload_n 1, 0)]) (pc' := 69) (L' := [some (.ref 0), some (.int v1), some (.int v2), some (.int v3), some (.int v4)]) (st' := [.int v1, .int r102.1]) (w' := (cX tr kp r102.2 ot tp sl pk rf ik)) (by decide +kernel) rfl trivial ?_
        rcases ite_s hf with ⟨c_103, hf⟩ | ⟨c_103, hf⟩
        · refine m_jF M (i := .if_icmp .ne 15) 84 (by decide +kernel) rfl (by decide) (fun n => n c_103) ?_
          refine m_run M (is := [(72, .iload_n 2, 0), (73, .iload 4, 0), (75, .iload_n 3, 0), (76, .isub, 0)]) (pc' := 77) (L' := [some (.ref 0), some (.int v1), some (.int v2), some (.int v3), some (.int v4)]) (st' := [.int (v4 - v3), .int v2]) (w' := (cX tr kp r102.2 ot tp sl pk rf ik)) (by decide +kernel) rfl trivial ?_
          obtain ⟨r104, h_104, hf⟩ := bnd_s hf
          refine m_cS0 M (rest := []) (w2 := (cX tr kp r102.2 ot tp sl pk rf ik)) (st2 := [.int r104]) (run_J9_max_7cf53 v2 (v4 - v3)    h_104) cs_J9_max_7cf53 lk_X3_223 (by decide +kernel) [] (by decide) ⟨Nat.le_of_ble_eq_true rfl, Nat.le_of_ble_eq_true rfl⟩ rfl rfl (Nat.le_of_ble_eq_true rfl) ⟨by decide, by decide⟩ rfl rfl ⟨Nat.zero_le _, Nat.zero_le _⟩ rfl rfl ?_
          refine m_run M (is := [(80, .istore_n 2, 0), (81, .iload 4, 0), (83, .istore_n 3, 0), (84, .iinc 4 1, 1), (87, .goto (-34), 0)]) (pc' := 53) (L' := [some (.ref 0), some (.int v1), some (.int r104), some (.int v4), some (.int (v4 + 1))]) (st' := []) (w' := (cX tr kp r102.2 ot tp sl pk rf ik)) (by decide +kernel) rfl trivial ?_
          exact ih r104 v4 (v4 + 1) r102.2 rf hf
        · refine m_jT M (i := .if_icmp .ne 15) 84 (by decide +kernel) rfl (by decide) c_103 ?_
          refine m_run M (is := [(84, .iinc 4 1, 1), (87, .goto (-34), 0)]) (pc' := 53) (L' := [some (.ref 0), some (.int v1), some (.int v2), some (.int v3), some (.int (v4 + 1))]) (st' := []) (w' := (cX tr kp r102.2 ot tp sl pk rf ik)) (by decide +kernel) rfl trivial ?_
          exact ih v2 v3 (v4 + 1) r102.2 rf hf
  rw [f_X3_waits] at hf
  refine m_run M (is := [(0, .aload_n 0, 0), (1, .getfield 10, 0), (4, .iload_n 1, 0)]) (pc' := 5) (L' := [some (.ref 0), some (.int a0), none, none, none]) (st' := [.int a0, .ref 1]) (w' := (cX tr kp th ot tp sl pk rf ik)) (by decide +kernel) rfl trivial ?_
  obtain ⟨r1001, h_1001, hf⟩ := bnd_s hf
  refine m_cV0 M (rest := []) (w2 := (cX tr kp th ot tp sl pk rf ik)) (st2 := [.int r1001]) (run_X1_hasPerson a0   tr h_1001) cv_X1_hasPerson lk_X3_147 (by decide +kernel) [1, 2, 3, 4, 5, 6] (by decide) ⟨Nat.le_of_ble_eq_true rfl, Nat.le_of_ble_eq_true rfl⟩ (hw_3  tr kp th ot tp sl pk rf ik) rfl rfl (Nat.le_of_ble_eq_true rfl) ⟨by decide, by decide⟩ rfl rfl ⟨Nat.zero_le _, Nat.zero_le _⟩ (hp_3  tr kp th ot tp sl pk rf ik tr) rfl ?_
  rcases ite_s hf with ⟨c_1002, hf⟩ | ⟨c_1002, hf⟩
  · refine m_jF M (i := .ifCond .ne 10) 18 (by decide +kernel) rfl (by decide) (fun n => n c_1002) ?_
    refine m_run M (is := [(11, .aload_n 0, 0), (12, .bipush (-2), -2)]) (pc' := 14) (L' := [some (.ref 0), some (.int a0), none, none, none]) (st' := [.int (-2), .ref 0]) (w' := (cX tr kp th ot tp sl pk rf ik)) (by decide +kernel) rfl trivial ?_
    obtain ⟨r1003, h_1003, hf⟩ := bnd_s hf
    refine m_cV0 M (rest := []) (w2 := (cX tr kp th ot tp sl pk r1003.2 ik)) (st2 := [.int r1003.1]) (run_X3_refuse (-2)   tr kp th ot tp sl pk rf ik h_1003) cv_X3_refuse lk_X3_54 (by decide +kernel) (List.range 46) List.nodup_range ⟨(by rw [List.length_range]; exact Nat.le_refl _), Nat.le_of_ble_eq_true rfl⟩ (hwId rfl) rfl rfl (Nat.le_of_ble_eq_true rfl) ⟨by decide, by decide⟩ rfl rfl ⟨Nat.zero_le _, Nat.zero_le _⟩ (hpId rfl rfl) rfl ?_
    obtain rfl := Option.some.inj hf
    exact m_iret K (by decide +kernel) (Nat.zero_le _) (Nat.zero_le _) ⟨rfl, rfl⟩
  · refine m_jT M (i := .ifCond .ne 10) 18 (by decide +kernel) rfl (by decide) c_1002 ?_
    refine m_run M (is := [(18, .aload_n 0, 0), (19, .getfield 10, 0)]) (pc' := 22) (L' := [some (.ref 0), some (.int a0), none, none, none]) (st' := [.ref 1]) (w' := (cX tr kp th ot tp sl pk rf ik)) (by decide +kernel) rfl trivial ?_
    obtain ⟨r1004, h_1004, hf⟩ := bnd_s hf
    refine m_cV0 M (rest := []) (w2 := (cX tr kp th ot tp sl pk rf ik)) (st2 := [.int r1004]) (run_X1_isLawless    tr h_1004) cv_X1_isLawless lk_X3_181 (by decide +kernel) [1, 2, 3, 4, 5, 6] (by decide) ⟨Nat.le_of_ble_eq_true rfl, Nat.le_of_ble_eq_true rfl⟩ (hw_3  tr kp th ot tp sl pk rf ik) rfl rfl (Nat.le_of_ble_eq_true rfl) ⟨by decide, by decide⟩ rfl rfl ⟨Nat.zero_le _, Nat.zero_le _⟩ (hp_3  tr kp th ot tp sl pk rf ik tr) rfl ?_
    rcases ite_s hf with ⟨c_1005, hf⟩ | ⟨c_1005, hf⟩
    · refine m_jT M (i := .ifCond .eq 10) 35 (by decide +kernel) rfl (by decide) c_1005 ?_
      refine m_run M (is := [(35, .aload_n 0, 0), (36, .getfield 19, 0), (39, .aload_n 0, 0), (40, .getfield 10, 0)]) (pc' := 43) (L' := [some (.ref 0), some (.int a0), none, none, none]) (st' := [.ref 1, .ref 13]) (w' := (cX tr kp th ot tp sl pk rf ik)) (by decide +kernel) rfl trivial ?_
      obtain ⟨r1006, h_1006, hf⟩ := bnd_s hf
      refine m_cV0 M (rest := []) (w2 := (cX tr kp r1006 ot tp sl pk rf ik)) (st2 := []) (run_X1_become    th tr h_1006) cv_X1_become lk_X3_161 (by decide +kernel) [13, 14, 15, 16, 17, 18, 1, 2, 3, 4, 5, 6] (by decide) ⟨Nat.le_of_ble_eq_true rfl, Nat.le_of_ble_eq_true rfl⟩ (hw_0  tr kp th ot tp sl pk rf ik) rfl rfl (Nat.le_of_ble_eq_true rfl) ⟨by decide, by decide⟩ rfl rfl ⟨Nat.zero_le _, Nat.zero_le _⟩ (hp_0  tr kp th ot tp sl pk rf ik r1006 tr) rfl ?_
      refine m_run M (is := [(46, .iconst (-1), -1), (47, .istore_n 2, 0), (48, .iconst 0, 0), (49, .istore_n 3, 0), (50, .iconst 1, 1), (51, .istore 4, 0)]) (pc' := 53) (L' := [some (.ref 0), some (.int a0), some (.int (-1)), some (.int 0), some (.int 1)]) (st' := []) (w' := (cX tr kp r1006 ot tp sl pk rf ik)) (by decide +kernel) rfl trivial ?_
      exact loop_0 a0 fuel0 (-1) 0 1 r1006 rf hf
    · refine m_jF M (i := .ifCond .eq 10) 35 (by decide +kernel) rfl (by decide) c_1005 ?_
      refine m_run M (is := [(28, .aload_n 0, 0), (29, .bipush (-5), -5)]) (pc' := 31) (L' := [some (.ref 0), some (.int a0), none, none, none]) (st' := [.int (-5), .ref 0]) (w' := (cX tr kp th ot tp sl pk rf ik)) (by decide +kernel) rfl trivial ?_
      obtain ⟨r1007, h_1007, hf⟩ := bnd_s hf
      refine m_cV0 M (rest := []) (w2 := (cX tr kp th ot tp sl pk r1007.2 ik)) (st2 := [.int r1007.1]) (run_X3_refuse (-5)   tr kp th ot tp sl pk rf ik h_1007) cv_X3_refuse lk_X3_54 (by decide +kernel) (List.range 46) List.nodup_range ⟨(by rw [List.length_range]; exact Nat.le_refl _), Nat.le_of_ble_eq_true rfl⟩ (hwId rfl) rfl rfl (Nat.le_of_ble_eq_true rfl) ⟨by decide, by decide⟩ rfl rfl ⟨Nat.zero_le _, Nat.zero_le _⟩ (hpId rfl rfl) rfl ?_
      obtain rfl := Option.some.inj hf
      exact m_iret K (by decide +kernel) (Nat.zero_le _) (Nat.zero_le _) ⟨rfl, rfl⟩

def f_X3_several (a0 : Int32) (tr : ShT) (th : ShT) (rf : AI) : Option (Int32 × ShT × AI) :=
  (f_X3_isBetween a0 0 999).bind fun r1001 =>
  if r1001 = 0 then
    (f_X3_refuse (-2) rf).bind fun r1003 =>
    some (r1003.1, th, r1003.2)
  else
    (f_X1_isStuck tr).bind fun r1004 =>
    if r1004 = 0 then
      (f_X3_servedBits a0 tr th).bind fun r1006 =>
      (f_J6_bitCount_0f7a4 r1006.1).bind fun r1007 =>
      some (r1007, r1006.2, rf)
    else
      (f_X3_refuse (-5) rf).bind fun r1008 =>
      some (r1008.1, th, r1008.2)
set_option maxRecDepth 100000 in
set_option maxHeartbeats 4000000 in
theorem run_X3_several {l : Launch} {D : va_G} {cT : Nat → ClassId} (a0 : Int32)   (tr : ShT) (kp : ShT) (th : ShT) (ot : ShT) (tp : TpT) (sl : (Nat → SlT)) (pk : AI) (rf : AI) (ik : Int32) {r : Int32 × ShT × AI} (hf : f_X3_several a0 tr th rf = some r) : Runs l D cT yX3_several cX3_several 2 (some .int) 4 90 [.ref 0, .int a0] (cX tr kp th ot tp sl pk rf ik) (EQ (some (.int r.1)) (cX tr kp r.2.1 ot tp sl pk r.2.2 ik)) := by
  refine runs_of O_X3 okO_X3 (by decide +kernel) rfl rfl (Nat.le_of_ble_eq_true rfl) (Nat.le_of_ble_eq_true rfl) (fun g K => ?_)
  have M := K.b
  show g 0 0 (cX tr kp th ot tp sl pk rf ik) 0 [some (.ref 0), some (.int a0)] []
  rw [f_X3_several] at hf
  refine m_run M (is := [(0, .iload_n 1, 0), (1, .iconst 0, 0), (2, .sipush 999, 999)]) (pc' := 5) (L' := [some (.ref 0), some (.int a0)]) (st' := [.int 999, .int 0, .int a0]) (w' := (cX tr kp th ot tp sl pk rf ik)) (by decide +kernel) rfl trivial ?_
  obtain ⟨r1001, h_1001, hf⟩ := bnd_s hf
  refine m_cS0 M (rest := []) (w2 := (cX tr kp th ot tp sl pk rf ik)) (st2 := [.int r1001]) (run_X3_isBetween a0 0 999    h_1001) cs_X3_isBetween lk_X3_50 (by decide +kernel) [] (by decide) ⟨Nat.le_of_ble_eq_true rfl, Nat.le_of_ble_eq_true rfl⟩ rfl rfl (Nat.le_of_ble_eq_true rfl) ⟨by decide, by decide⟩ rfl rfl ⟨Nat.zero_le _, Nat.zero_le _⟩ rfl rfl ?_
  rcases ite_s hf with ⟨c_1002, hf⟩ | ⟨c_1002, hf⟩
  · refine m_jF M (i := .ifCond .ne 10) 18 (by decide +kernel) rfl (by decide) (fun n => n c_1002) ?_
    refine m_run M (is := [(11, .aload_n 0, 0), (12, .bipush (-2), -2)]) (pc' := 14) (L' := [some (.ref 0), some (.int a0)]) (st' := [.int (-2), .ref 0]) (w' := (cX tr kp th ot tp sl pk rf ik)) (by decide +kernel) rfl trivial ?_
    obtain ⟨r1003, h_1003, hf⟩ := bnd_s hf
    refine m_cV0 M (rest := []) (w2 := (cX tr kp th ot tp sl pk r1003.2 ik)) (st2 := [.int r1003.1]) (run_X3_refuse (-2)   tr kp th ot tp sl pk rf ik h_1003) cv_X3_refuse lk_X3_54 (by decide +kernel) (List.range 46) List.nodup_range ⟨(by rw [List.length_range]; exact Nat.le_refl _), Nat.le_of_ble_eq_true rfl⟩ (hwId rfl) rfl rfl (Nat.le_of_ble_eq_true rfl) ⟨by decide, by decide⟩ rfl rfl ⟨Nat.zero_le _, Nat.zero_le _⟩ (hpId rfl rfl) rfl ?_
    obtain rfl := Option.some.inj hf
    exact m_iret K (by decide +kernel) (Nat.zero_le _) (Nat.zero_le _) ⟨rfl, rfl⟩
  · refine m_jT M (i := .ifCond .ne 10) 18 (by decide +kernel) rfl (by decide) c_1002 ?_
    refine m_run M (is := [(18, .aload_n 0, 0), (19, .getfield 10, 0)]) (pc' := 22) (L' := [some (.ref 0), some (.int a0)]) (st' := [.ref 1]) (w' := (cX tr kp th ot tp sl pk rf ik)) (by decide +kernel) rfl trivial ?_
    obtain ⟨r1004, h_1004, hf⟩ := bnd_s hf
    refine m_cV0 M (rest := []) (w2 := (cX tr kp th ot tp sl pk rf ik)) (st2 := [.int r1004]) (run_X1_isStuck    tr h_1004) cv_X1_isStuck lk_X3_187 (by decide +kernel) [1, 2, 3, 4, 5, 6] (by decide) ⟨Nat.le_of_ble_eq_true rfl, Nat.le_of_ble_eq_true rfl⟩ (hw_3  tr kp th ot tp sl pk rf ik) rfl rfl (Nat.le_of_ble_eq_true rfl) ⟨by decide, by decide⟩ rfl rfl ⟨Nat.zero_le _, Nat.zero_le _⟩ (hp_3  tr kp th ot tp sl pk rf ik tr) rfl ?_
    rcases ite_s hf with ⟨c_1005, hf⟩ | ⟨c_1005, hf⟩
    · refine m_jT M (i := .ifCond .eq 10) 35 (by decide +kernel) rfl (by decide) c_1005 ?_
      refine m_run M (is := [(35, .aload_n 0, 0), (36, .iload_n 1, 0)]) (pc' := 37) (L' := [some (.ref 0), some (.int a0)]) (st' := [.int a0, .ref 0]) (w' := (cX tr kp th ot tp sl pk rf ik)) (by decide +kernel) rfl trivial ?_
      obtain ⟨r1006, h_1006, hf⟩ := bnd_s hf
      refine m_cV0 M (rest := []) (w2 := (cX tr kp r1006.2 ot tp sl pk rf ik)) (st2 := [.int r1006.1]) (run_X3_servedBits a0   tr kp th ot tp sl pk rf ik h_1006) cv_X3_servedBits lk_X3_204 (by decide +kernel) (List.range 46) List.nodup_range ⟨(by rw [List.length_range]; exact Nat.le_refl _), Nat.le_of_ble_eq_true rfl⟩ (hwId rfl) rfl rfl (Nat.le_of_ble_eq_true rfl) ⟨by decide, by decide⟩ rfl rfl ⟨Nat.zero_le _, Nat.zero_le _⟩ (hpId rfl rfl) rfl ?_
      obtain ⟨r1007, h_1007, hf⟩ := bnd_s hf
      refine m_cS0 M (rest := []) (w2 := (cX tr kp r1006.2 ot tp sl pk rf ik)) (st2 := [.int r1007]) (run_J6_bitCount_0f7a4 r1006.1    h_1007) cs_J6_bitCount_0f7a4 lk_X3_228 (by decide +kernel) [] (by decide) ⟨Nat.le_of_ble_eq_true rfl, Nat.le_of_ble_eq_true rfl⟩ rfl rfl (Nat.le_of_ble_eq_true rfl) ⟨by decide, by decide⟩ rfl rfl ⟨Nat.zero_le _, Nat.zero_le _⟩ rfl rfl ?_
      obtain rfl := Option.some.inj hf
      exact m_iret K (by decide +kernel) (Nat.zero_le _) (Nat.zero_le _) ⟨rfl, rfl⟩
    · refine m_jF M (i := .ifCond .eq 10) 35 (by decide +kernel) rfl (by decide) c_1005 ?_
      refine m_run M (is := [(28, .aload_n 0, 0), (29, .bipush (-5), -5)]) (pc' := 31) (L' := [some (.ref 0), some (.int a0)]) (st' := [.int (-5), .ref 0]) (w' := (cX tr kp th ot tp sl pk rf ik)) (by decide +kernel) rfl trivial ?_
      obtain ⟨r1008, h_1008, hf⟩ := bnd_s hf
      refine m_cV0 M (rest := []) (w2 := (cX tr kp th ot tp sl pk r1008.2 ik)) (st2 := [.int r1008.1]) (run_X3_refuse (-5)   tr kp th ot tp sl pk rf ik h_1008) cv_X3_refuse lk_X3_54 (by decide +kernel) (List.range 46) List.nodup_range ⟨(by rw [List.length_range]; exact Nat.le_refl _), Nat.le_of_ble_eq_true rfl⟩ (hwId rfl) rfl rfl (Nat.le_of_ble_eq_true rfl) ⟨by decide, by decide⟩ rfl rfl ⟨Nat.zero_le _, Nat.zero_le _⟩ (hpId rfl rfl) rfl ?_
      obtain rfl := Option.some.inj hf
      exact m_iret K (by decide +kernel) (Nat.zero_le _) (Nat.zero_le _) ⟨rfl, rfl⟩

def f_X3_beside_L0 (v1 : Int32) (v2 : Int32) (tr : ShT) : Nat → Int32 → ShT → AI → Option (Int32 × ShT × AI)
  | 0, _, _, _ => none
  | n_ + 1, v3, th, rf =>
    if 999 < v3 then
      some ((-1), th, rf)
    else
      (f_X1_placeOf v1 th).bind fun r102 =>
      (f_X1_placeOf v2 th).bind fun r103 =>
      (f_J9_abs_0f7a4 (r102 - r103)).bind fun r104 =>
      if r104 = 1 then
        some (v3, th, rf)
      else
        (f_X1_turn th).bind fun r106 =>
        f_X3_beside_L0 v1 v2 tr n_ (v3 + 1) r106.2 rf
def f_X3_beside (a0 : Int32) (a1 : Int32) (tr : ShT) (th : ShT) (rf : AI) : Option (Int32 × ShT × AI) :=
  (f_X1_hasPerson a0 tr).bind fun r1001 =>
  if r1001 = 0 then
    (f_X3_refuse (-2) rf).bind fun r1003 =>
    some (r1003.1, th, r1003.2)
  else
    (f_X1_hasPerson a1 tr).bind fun r1004 =>
    if r1004 = 0 then
      (f_X3_refuse (-2) rf).bind fun r1006 =>
      some (r1006.1, th, r1006.2)
    else
      if a0 = a1 then
        (f_X3_refuse (-2) rf).bind fun r1008 =>
        some (r1008.1, th, r1008.2)
      else
        (f_X1_isLawless tr).bind fun r1009 =>
        if r1009 = 0 then
          (f_X1_become th tr).bind fun r1011 =>
          f_X3_beside_L0 a0 a1 tr fuel0 0 r1011 rf
        else
          (f_X3_refuse (-5) rf).bind fun r1012 =>
          some (r1012.1, th, r1012.2)
set_option maxRecDepth 100000 in
set_option maxHeartbeats 4000000 in
theorem run_X3_beside {l : Launch} {D : va_G} {cT : Nat → ClassId} (a0 : Int32) (a1 : Int32)   (tr : ShT) (kp : ShT) (th : ShT) (ot : ShT) (tp : TpT) (sl : (Nat → SlT)) (pk : AI) (rf : AI) (ik : Int32) {r : Int32 × ShT × AI} (hf : f_X3_beside a0 a1 tr th rf = some r) : Runs l D cT yX3_beside cX3_beside 4 (some .int) 3 67 [.ref 0, .int a0, .int a1] (cX tr kp th ot tp sl pk rf ik) (EQ (some (.int r.1)) (cX tr kp r.2.1 ot tp sl pk r.2.2 ik)) := by
  refine runs_of O_X3 okO_X3 (by decide +kernel) rfl rfl (Nat.le_of_ble_eq_true rfl) (Nat.le_of_ble_eq_true rfl) (fun g K => ?_)
  have M := K.b
  show g 0 0 (cX tr kp th ot tp sl pk rf ik) 0 [some (.ref 0), some (.int a0), some (.int a1), none] []
  have loop_0 : ∀ (v1 : Int32) (v2 : Int32) (n_ : Nat), (∀ (v3 : Int32) (th : ShT) (rf : AI), f_X3_beside_L0 v1 v2 tr n_ v3 th rf = some r → g 0 0 (cX tr kp th ot tp sl pk rf ik) 64 [some (.ref 0), some (.int v1), some (.int v2), some (.int v3)] []) := by
    intro v1 v2 n_
    induction n_ with
    | zero => intro v3 th rf hf; cases hf
    | succ n_ ih =>
      intro v3 th rf hf
      rw [f_X3_beside_L0] at hf
      refine m_run M (is := [(64, .iload_n 3, 0), (65, .sipush 999, 999)]) (pc' := 68) (L' := [some (.ref 0), some (.int v1), some (.int v2), some (.int v3)]) (st' := [.int 999, .int v3]) (w' := (cX tr kp th ot tp sl pk rf ik)) (by decide +kernel) rfl trivial ?_
      rcases ite_s hf with ⟨c_101, hf⟩ | ⟨c_101, hf⟩
      · refine m_jT M (i := .if_icmp .gt 43) 111 (by decide +kernel) rfl (by decide) c_101 ?_
        refine m_run M (is := [(111, .iconst (-1), -1)]) (pc' := 112) (L' := [some (.ref 0), some (.int v1), some (.int v2), some (.int v3)]) (st' := [.int (-1)]) (w' := (cX tr kp th ot tp sl pk rf ik)) (by decide +kernel) rfl trivial ?_
        obtain rfl := Option.some.inj hf
        exact m_iret K (by decide +kernel) (Nat.zero_le _) (Nat.zero_le _) ⟨rfl, rfl⟩
      · refine m_jF M (i := .if_icmp .gt 43) 111 (by decide +kernel) rfl (by decide) c_101 ?_
        refine m_run M (is := [(71, .aload_n 0, 0), (72, .getfield 19, 0), (75, .iload_n 1, 0)]) (pc' := 76) (L' := [some (.ref 0), some (.int v1), some (.int v2), some (.int v3)]) (st' := [.int v1, .ref 13]) (w' := (cX tr kp th ot tp sl pk rf ik)) (by decide +kernel) rfl trivial ?_
        obtain ⟨r102, h_102, hf⟩ := bnd_s hf
        refine m_cV0 M (rest := []) (w2 := (cX tr kp th ot tp sl pk rf ik)) (st2 := [.int r102]) (run_X1_placeOf v1   th h_102) cv_X1_placeOf lk_X3_207 (by decide +kernel) [13, 14, 15, 16, 17, 18] (by decide) ⟨Nat.le_of_ble_eq_true rfl, Nat.le_of_ble_eq_true rfl⟩ (hw_1  tr kp th ot tp sl pk rf ik) rfl rfl (Nat.le_of_ble_eq_true rfl) ⟨by decide, by decide⟩ rfl rfl ⟨Nat.zero_le _, Nat.zero_le _⟩ (hp_1  tr kp th ot tp sl pk rf ik th) rfl ?_
        refine m_run M (is := [(79, .aload_n 0, 0), (80, .getfield 19, 0), (83, .iload_n 2, 0)]) (pc' := 84) (L' := [some (.ref 0), some (.int v1), some (.int v2), some (.int v3)]) (st' := [.int v2, .ref 13, .int r102]) (w' := (cX tr kp th ot tp sl pk rf ik)) (by decide +kernel) rfl trivial ?_
        obtain ⟨r103, h_103, hf⟩ := bnd_s hf
        refine m_cV0 M (rest := [.int r102]) (w2 := (cX tr kp th ot tp sl pk rf ik)) (st2 := [.int r103, .int r102]) (run_X1_placeOf v2   th h_103) cv_X1_placeOf lk_X3_207 (by decide +kernel) [13, 14, 15, 16, 17, 18] (by decide) ⟨Nat.le_of_ble_eq_true rfl, Nat.le_of_ble_eq_true rfl⟩ (hw_1  tr kp th ot tp sl pk rf ik) rfl rfl (Nat.le_of_ble_eq_true rfl) ⟨by decide, by decide⟩ rfl rfl ⟨Nat.zero_le _, Nat.zero_le _⟩ (hp_1  tr kp th ot tp sl pk rf ik th) rfl ?_
        refine m_run M (is := [(87, .isub, 0)]) (pc' := 88) (L' := [some (.ref 0), some (.int v1), some (.int v2), some (.int v3)]) (st' := [.int (r102 - r103)]) (w' := (cX tr kp th ot tp sl pk rf ik)) (by decide +kernel) rfl trivial ?_
        obtain ⟨r104, h_104, hf⟩ := bnd_s hf
        refine m_cS0 M (rest := []) (w2 := (cX tr kp th ot tp sl pk rf ik)) (st2 := [.int r104]) (run_J9_abs_0f7a4 (r102 - r103)    h_104) cs_J9_abs_0f7a4 lk_X3_233 (by decide +kernel) [] (by decide) ⟨Nat.le_of_ble_eq_true rfl, Nat.le_of_ble_eq_true rfl⟩ rfl rfl (Nat.le_of_ble_eq_true rfl) ⟨by decide, by decide⟩ rfl rfl ⟨Nat.zero_le _, Nat.zero_le _⟩ rfl rfl ?_
        refine m_run M (is := [(91, .iconst 1, 1)]) (pc' := 92) (L' := [some (.ref 0), some (.int v1), some (.int v2), some (.int v3)]) (st' := [.int 1, .int r104]) (w' := (cX tr kp th ot tp sl pk rf ik)) (by decide +kernel) rfl trivial ?_
        rcases ite_s hf with ⟨c_105, hf⟩ | ⟨c_105, hf⟩
        · refine m_jF M (i := .if_icmp .ne 5) 97 (by decide +kernel) rfl (by decide) (fun n => n c_105) ?_
          refine m_run M (is := [(95, .iload_n 3, 0)]) (pc' := 96) (L' := [some (.ref 0), some (.int v1), some (.int v2), some (.int v3)]) (st' := [.int v3]) (w' := (cX tr kp th ot tp sl pk rf ik)) (by decide +kernel) rfl trivial ?_
          obtain rfl := Option.some.inj hf
          exact m_iret K (by decide +kernel) (Nat.zero_le _) (Nat.zero_le _) ⟨rfl, rfl⟩
        · refine m_jT M (i := .if_icmp .ne 5) 97 (by decide +kernel) rfl (by decide) c_105 ?_
          refine m_run M (is := [(97, .aload_n 0, 0), (98, .getfield 19, 0)]) (pc' := 101) (L' := [some (.ref 0), some (.int v1), some (.int v2), some (.int v3)]) (st' := [.ref 13]) (w' := (cX tr kp th ot tp sl pk rf ik)) (by decide +kernel) rfl trivial ?_
          obtain ⟨r106, h_106, hf⟩ := bnd_s hf
          refine m_cV0 M (rest := []) (w2 := (cX tr kp r106.2 ot tp sl pk rf ik)) (st2 := [.int r106.1]) (run_X1_turn    th h_106) cv_X1_turn lk_X3_190 (by decide +kernel) [13, 14, 15, 16, 17, 18] (by decide) ⟨Nat.le_of_ble_eq_true rfl, Nat.le_of_ble_eq_true rfl⟩ (hw_1  tr kp th ot tp sl pk rf ik) rfl rfl (Nat.le_of_ble_eq_true rfl) ⟨by decide, by decide⟩ rfl rfl ⟨Nat.zero_le _, Nat.zero_le _⟩ (hp_1  tr kp th ot tp sl pk rf ik r106.2) rfl ?_
          refine m_run M (is := [(104, .pop, 0), (105, .iinc 3 1, 1), (108, .goto (-44), 0)]) (pc' := 64) (L' := [some (.ref 0), some (.int v1), some (.int v2), some (.int (v3 + 1))]) (st' := []) (w' := (cX tr kp r106.2 ot tp sl pk rf ik)) (by decide +kernel) rfl trivial ?_
          exact ih (v3 + 1) r106.2 rf hf
  rw [f_X3_beside] at hf
  refine m_run M (is := [(0, .aload_n 0, 0), (1, .getfield 10, 0), (4, .iload_n 1, 0)]) (pc' := 5) (L' := [some (.ref 0), some (.int a0), some (.int a1), none]) (st' := [.int a0, .ref 1]) (w' := (cX tr kp th ot tp sl pk rf ik)) (by decide +kernel) rfl trivial ?_
  obtain ⟨r1001, h_1001, hf⟩ := bnd_s hf
  refine m_cV0 M (rest := []) (w2 := (cX tr kp th ot tp sl pk rf ik)) (st2 := [.int r1001]) (run_X1_hasPerson a0   tr h_1001) cv_X1_hasPerson lk_X3_147 (by decide +kernel) [1, 2, 3, 4, 5, 6] (by decide) ⟨Nat.le_of_ble_eq_true rfl, Nat.le_of_ble_eq_true rfl⟩ (hw_3  tr kp th ot tp sl pk rf ik) rfl rfl (Nat.le_of_ble_eq_true rfl) ⟨by decide, by decide⟩ rfl rfl ⟨Nat.zero_le _, Nat.zero_le _⟩ (hp_3  tr kp th ot tp sl pk rf ik tr) rfl ?_
  rcases ite_s hf with ⟨c_1002, hf⟩ | ⟨c_1002, hf⟩
  · refine m_jT M (i := .ifCond .eq 19) 27 (by decide +kernel) rfl (by decide) c_1002 ?_
    refine m_run M (is := [(27, .aload_n 0, 0), (28, .bipush (-2), -2)]) (pc' := 30) (L' := [some (.ref 0), some (.int a0), some (.int a1), none]) (st' := [.int (-2), .ref 0]) (w' := (cX tr kp th ot tp sl pk rf ik)) (by decide +kernel) rfl trivial ?_
    obtain ⟨r1003, h_1003, hf⟩ := bnd_s hf
    refine m_cV0 M (rest := []) (w2 := (cX tr kp th ot tp sl pk r1003.2 ik)) (st2 := [.int r1003.1]) (run_X3_refuse (-2)   tr kp th ot tp sl pk rf ik h_1003) cv_X3_refuse lk_X3_54 (by decide +kernel) (List.range 46) List.nodup_range ⟨(by rw [List.length_range]; exact Nat.le_refl _), Nat.le_of_ble_eq_true rfl⟩ (hwId rfl) rfl rfl (Nat.le_of_ble_eq_true rfl) ⟨by decide, by decide⟩ rfl rfl ⟨Nat.zero_le _, Nat.zero_le _⟩ (hpId rfl rfl) rfl ?_
    obtain rfl := Option.some.inj hf
    exact m_iret K (by decide +kernel) (Nat.zero_le _) (Nat.zero_le _) ⟨rfl, rfl⟩
  · refine m_jF M (i := .ifCond .eq 19) 27 (by decide +kernel) rfl (by decide) c_1002 ?_
    refine m_run M (is := [(11, .aload_n 0, 0), (12, .getfield 10, 0), (15, .iload_n 2, 0)]) (pc' := 16) (L' := [some (.ref 0), some (.int a0), some (.int a1), none]) (st' := [.int a1, .ref 1]) (w' := (cX tr kp th ot tp sl pk rf ik)) (by decide +kernel) rfl trivial ?_
    obtain ⟨r1004, h_1004, hf⟩ := bnd_s hf
    refine m_cV0 M (rest := []) (w2 := (cX tr kp th ot tp sl pk rf ik)) (st2 := [.int r1004]) (run_X1_hasPerson a1   tr h_1004) cv_X1_hasPerson lk_X3_147 (by decide +kernel) [1, 2, 3, 4, 5, 6] (by decide) ⟨Nat.le_of_ble_eq_true rfl, Nat.le_of_ble_eq_true rfl⟩ (hw_3  tr kp th ot tp sl pk rf ik) rfl rfl (Nat.le_of_ble_eq_true rfl) ⟨by decide, by decide⟩ rfl rfl ⟨Nat.zero_le _, Nat.zero_le _⟩ (hp_3  tr kp th ot tp sl pk rf ik tr) rfl ?_
    rcases ite_s hf with ⟨c_1005, hf⟩ | ⟨c_1005, hf⟩
    · refine m_jT M (i := .ifCond .eq 8) 27 (by decide +kernel) rfl (by decide) c_1005 ?_
      refine m_run M (is := [(27, .aload_n 0, 0), (28, .bipush (-2), -2)]) (pc' := 30) (L' := [some (.ref 0), some (.int a0), some (.int a1), none]) (st' := [.int (-2), .ref 0]) (w' := (cX tr kp th ot tp sl pk rf ik)) (by decide +kernel) rfl trivial ?_
      obtain ⟨r1006, h_1006, hf⟩ := bnd_s hf
      refine m_cV0 M (rest := []) (w2 := (cX tr kp th ot tp sl pk r1006.2 ik)) (st2 := [.int r1006.1]) (run_X3_refuse (-2)   tr kp th ot tp sl pk rf ik h_1006) cv_X3_refuse lk_X3_54 (by decide +kernel) (List.range 46) List.nodup_range ⟨(by rw [List.length_range]; exact Nat.le_refl _), Nat.le_of_ble_eq_true rfl⟩ (hwId rfl) rfl rfl (Nat.le_of_ble_eq_true rfl) ⟨by decide, by decide⟩ rfl rfl ⟨Nat.zero_le _, Nat.zero_le _⟩ (hpId rfl rfl) rfl ?_
      obtain rfl := Option.some.inj hf
      exact m_iret K (by decide +kernel) (Nat.zero_le _) (Nat.zero_le _) ⟨rfl, rfl⟩
    · refine m_jF M (i := .ifCond .eq 8) 27 (by decide +kernel) rfl (by decide) c_1005 ?_
      refine m_run M (is := [(22, .iload_n 1, 0), (23, .iload_n 2, 0)]) (pc' := 24) (L' := [some (.ref 0), some (.int a0), some (.int a1), none]) (st' := [.int a1, .int a0]) (w' := (cX tr kp th ot tp sl pk rf ik)) (by decide +kernel) rfl trivial ?_
      rcases ite_s hf with ⟨c_1007, hf⟩ | ⟨c_1007, hf⟩
      · refine m_jF M (i := .if_icmp .ne 10) 34 (by decide +kernel) rfl (by decide) (fun n => n c_1007) ?_
        refine m_run M (is := [(27, .aload_n 0, 0), (28, .bipush (-2), -2)]) (pc' := 30) (L' := [some (.ref 0), some (.int a0), some (.int a1), none]) (st' := [.int (-2), .ref 0]) (w' := (cX tr kp th ot tp sl pk rf ik)) (by decide +kernel) rfl trivial ?_
        obtain ⟨r1008, h_1008, hf⟩ := bnd_s hf
        refine m_cV0 M (rest := []) (w2 := (cX tr kp th ot tp sl pk r1008.2 ik)) (st2 := [.int r1008.1]) (run_X3_refuse (-2)   tr kp th ot tp sl pk rf ik h_1008) cv_X3_refuse lk_X3_54 (by decide +kernel) (List.range 46) List.nodup_range ⟨(by rw [List.length_range]; exact Nat.le_refl _), Nat.le_of_ble_eq_true rfl⟩ (hwId rfl) rfl rfl (Nat.le_of_ble_eq_true rfl) ⟨by decide, by decide⟩ rfl rfl ⟨Nat.zero_le _, Nat.zero_le _⟩ (hpId rfl rfl) rfl ?_
        obtain rfl := Option.some.inj hf
        exact m_iret K (by decide +kernel) (Nat.zero_le _) (Nat.zero_le _) ⟨rfl, rfl⟩
      · refine m_jT M (i := .if_icmp .ne 10) 34 (by decide +kernel) rfl (by decide) c_1007 ?_
        refine m_run M (is := [(34, .aload_n 0, 0), (35, .getfield 10, 0)]) (pc' := 38) (L' := [some (.ref 0), some (.int a0), some (.int a1), none]) (st' := [.ref 1]) (w' := (cX tr kp th ot tp sl pk rf ik)) (by decide +kernel) rfl trivial ?_
        obtain ⟨r1009, h_1009, hf⟩ := bnd_s hf
        refine m_cV0 M (rest := []) (w2 := (cX tr kp th ot tp sl pk rf ik)) (st2 := [.int r1009]) (run_X1_isLawless    tr h_1009) cv_X1_isLawless lk_X3_181 (by decide +kernel) [1, 2, 3, 4, 5, 6] (by decide) ⟨Nat.le_of_ble_eq_true rfl, Nat.le_of_ble_eq_true rfl⟩ (hw_3  tr kp th ot tp sl pk rf ik) rfl rfl (Nat.le_of_ble_eq_true rfl) ⟨by decide, by decide⟩ rfl rfl ⟨Nat.zero_le _, Nat.zero_le _⟩ (hp_3  tr kp th ot tp sl pk rf ik tr) rfl ?_
        rcases ite_s hf with ⟨c_1010, hf⟩ | ⟨c_1010, hf⟩
        · refine m_jT M (i := .ifCond .eq 10) 51 (by decide +kernel) rfl (by decide) c_1010 ?_
          refine m_run M (is := [(51, .aload_n 0, 0), (52, .getfield 19, 0), (55, .aload_n 0, 0), (56, .getfield 10, 0)]) (pc' := 59) (L' := [some (.ref 0), some (.int a0), some (.int a1), none]) (st' := [.ref 1, .ref 13]) (w' := (cX tr kp th ot tp sl pk rf ik)) (by decide +kernel) rfl trivial ?_
          obtain ⟨r1011, h_1011, hf⟩ := bnd_s hf
          refine m_cV0 M (rest := []) (w2 := (cX tr kp r1011 ot tp sl pk rf ik)) (st2 := []) (run_X1_become    th tr h_1011) cv_X1_become lk_X3_161 (by decide +kernel) [13, 14, 15, 16, 17, 18, 1, 2, 3, 4, 5, 6] (by decide) ⟨Nat.le_of_ble_eq_true rfl, Nat.le_of_ble_eq_true rfl⟩ (hw_0  tr kp th ot tp sl pk rf ik) rfl rfl (Nat.le_of_ble_eq_true rfl) ⟨by decide, by decide⟩ rfl rfl ⟨Nat.zero_le _, Nat.zero_le _⟩ (hp_0  tr kp th ot tp sl pk rf ik r1011 tr) rfl ?_
          refine m_run M (is := [(62, .iconst 0, 0), (63, .istore_n 3, 0)]) (pc' := 64) (L' := [some (.ref 0), some (.int a0), some (.int a1), some (.int 0)]) (st' := []) (w' := (cX tr kp r1011 ot tp sl pk rf ik)) (by decide +kernel) rfl trivial ?_
          exact loop_0 a0 a1 fuel0 0 r1011 rf hf
        · refine m_jF M (i := .ifCond .eq 10) 51 (by decide +kernel) rfl (by decide) c_1010 ?_
          refine m_run M (is := [(44, .aload_n 0, 0), (45, .bipush (-5), -5)]) (pc' := 47) (L' := [some (.ref 0), some (.int a0), some (.int a1), none]) (st' := [.int (-5), .ref 0]) (w' := (cX tr kp th ot tp sl pk rf ik)) (by decide +kernel) rfl trivial ?_
          obtain ⟨r1012, h_1012, hf⟩ := bnd_s hf
          refine m_cV0 M (rest := []) (w2 := (cX tr kp th ot tp sl pk r1012.2 ik)) (st2 := [.int r1012.1]) (run_X3_refuse (-5)   tr kp th ot tp sl pk rf ik h_1012) cv_X3_refuse lk_X3_54 (by decide +kernel) (List.range 46) List.nodup_range ⟨(by rw [List.length_range]; exact Nat.le_refl _), Nat.le_of_ble_eq_true rfl⟩ (hwId rfl) rfl rfl (Nat.le_of_ble_eq_true rfl) ⟨by decide, by decide⟩ rfl rfl ⟨Nat.zero_le _, Nat.zero_le _⟩ (hpId rfl rfl) rfl ?_
          obtain rfl := Option.some.inj hf
          exact m_iret K (by decide +kernel) (Nat.zero_le _) (Nat.zero_le _) ⟨rfl, rfl⟩

set_option maxRecDepth 100000 in
set_option maxHeartbeats 4000000 in
theorem hw_6  (tr : ShT) (kp : ShT) (th : ShT) (ot : ShT) (tp : TpT) (sl : (Nat → SlT)) (pk : AI) (rf : AI) (ik : Int32) : (List.take (List.length (((cSh 0 ot) ++ (cSh 6 tr)) : Wd)) ([19, 20, 21, 22, 23, 24, 1, 2, 3, 4, 5, 6] : List Nat)).map (fun k => ((cX tr kp th ot tp sl pk rf ik))[k]?) = (((cSh 0 ot) ++ (cSh 6 tr)) : Wd).map (fun x => some (rS [19, 20, 21, 22, 23, 24, 1, 2, 3, 4, 5, 6] (List.length ((cX tr kp th ot tp sl pk rf ik) : Wd)) x)) := rfl
set_option maxRecDepth 100000 in
set_option maxHeartbeats 4000000 in
theorem hp_6  (tr : ShT) (kp : ShT) (th : ShT) (ot : ShT) (tp : TpT) (sl : (Nat → SlT)) (pk : AI) (rf : AI) (ik : Int32) (s' : ShT) (o' : ShT) : putL (List.take (List.length (((cSh 0 ot) ++ (cSh 6 tr)) : Wd)) ([19, 20, 21, 22, 23, 24, 1, 2, 3, 4, 5, 6] : List Nat)) ((((cSh 0 s') ++ (cSh 6 o')) : Wd).map (rS [19, 20, 21, 22, 23, 24, 1, 2, 3, 4, 5, 6] (List.length ((cX tr kp th ot tp sl pk rf ik) : Wd)))) (cX tr kp th ot tp sl pk rf ik) = (cX o' kp th s' tp sl pk rf ik) := rfl
set_option maxRecDepth 100000 in
set_option maxHeartbeats 4000000 in
theorem hw_7  (tr : ShT) (kp : ShT) (th : ShT) (ot : ShT) (tp : TpT) (sl : (Nat → SlT)) (pk : AI) (rf : AI) (ik : Int32) : (List.take (List.length ((cSh 0 ot) : Wd)) ([19, 20, 21, 22, 23, 24] : List Nat)).map (fun k => ((cX tr kp th ot tp sl pk rf ik))[k]?) = ((cSh 0 ot) : Wd).map (fun x => some (rS [19, 20, 21, 22, 23, 24] (List.length ((cX tr kp th ot tp sl pk rf ik) : Wd)) x)) := rfl
set_option maxRecDepth 100000 in
set_option maxHeartbeats 4000000 in
theorem hp_7  (tr : ShT) (kp : ShT) (th : ShT) (ot : ShT) (tp : TpT) (sl : (Nat → SlT)) (pk : AI) (rf : AI) (ik : Int32) (s' : ShT) : putL (List.take (List.length ((cSh 0 ot) : Wd)) ([19, 20, 21, 22, 23, 24] : List Nat)) (((cSh 0 s') : Wd).map (rS [19, 20, 21, 22, 23, 24] (List.length ((cX tr kp th ot tp sl pk rf ik) : Wd)))) (cX tr kp th ot tp sl pk rf ik) = (cX tr kp th s' tp sl pk rf ik) := rfl
def f_X3_unlike_L0 (tr : ShT) : Nat → Int32 → ShT → ShT → AI → Option (Int32 × ShT × ShT × AI)
  | 0, _, _, _, _ => none
  | n_ + 1, v3, th, ot, rf =>
    if 999 < v3 then
      some ((-1), th, ot, rf)
    else
      (f_X1_turn th).bind fun r102 =>
      (f_X1_turn ot).bind fun r103 =>
      if r102.1 = r103.1 then
        f_X3_unlike_L0 tr n_ (v3 + 1) r102.2 r103.2 rf
      else
        some (v3, r102.2, r103.2, rf)
def f_X3_unlike (a0 : Int32) (a1 : Int32) (tr : ShT) (th : ShT) (ot : ShT) (rf : AI) : Option (Int32 × ShT × ShT × AI) :=
  (f_X1_hasLaw a0 tr).bind fun r1001 =>
  if r1001 = 0 then
    (f_X3_refuse (-2) rf).bind fun r1003 =>
    some (r1003.1, th, ot, r1003.2)
  else
    (f_X1_hasLaw a1 tr).bind fun r1004 =>
    if r1004 = 0 then
      (f_X3_refuse (-2) rf).bind fun r1006 =>
      some (r1006.1, th, ot, r1006.2)
    else
      (f_X1_isEmpty tr).bind fun r1007 =>
      if r1007 = 0 then
        (f_X3_thinkBy a0 tr th).bind fun r1009 =>
        (f_X1_become ot tr).bind fun r1010 =>
        f_X3_unlike_L0 tr fuel0 1 r1009 (r1010.1, r1010.2.1, r1010.2.2.1, r1010.2.2.2.1, r1010.2.2.2.2.1, r1010.2.2.2.2.2.1, r1010.2.2.2.2.2.2.1, a1, r1010.2.2.2.2.2.2.2.2.1, r1010.2.2.2.2.2.2.2.2.2) rf
      else
        (f_X3_refuse (-5) rf).bind fun r1011 =>
        some (r1011.1, th, ot, r1011.2)
set_option maxRecDepth 100000 in
set_option maxHeartbeats 4000000 in
theorem run_X3_unlike {l : Launch} {D : va_G} {cT : Nat → ClassId} (a0 : Int32) (a1 : Int32)   (tr : ShT) (kp : ShT) (th : ShT) (ot : ShT) (tp : TpT) (sl : (Nat → SlT)) (pk : AI) (rf : AI) (ik : Int32) {r : Int32 × ShT × ShT × AI} (hf : f_X3_unlike a0 a1 tr th ot rf = some r) : Runs l D cT yX3_unlike cX3_unlike 4 (some .int) 3 67 [.ref 0, .int a0, .int a1] (cX tr kp th ot tp sl pk rf ik) (EQ (some (.int r.1)) (cX tr kp r.2.1 r.2.2.1 tp sl pk r.2.2.2 ik)) := by
  refine runs_of O_X3 okO_X3 (by decide +kernel) rfl rfl (Nat.le_of_ble_eq_true rfl) (Nat.le_of_ble_eq_true rfl) (fun g K => ?_)
  have M := K.b
  show g 0 0 (cX tr kp th ot tp sl pk rf ik) 0 [some (.ref 0), some (.int a0), some (.int a1), none] []
  have loop_0 : ∀ (n_ : Nat), (∀ (v3 : Int32) (th : ShT) (ot : ShT) (rf : AI), f_X3_unlike_L0 tr n_ v3 th ot rf = some r → g 0 0 (cX tr kp th ot tp sl pk rf ik) 72 [some (.ref 0), none, none, some (.int v3)] []) := by
    intro n_
    induction n_ with
    | zero => intro v3 th ot rf hf; cases hf
    | succ n_ ih =>
      intro v3 th ot rf hf
      rw [f_X3_unlike_L0] at hf
      refine m_run M (is := [(72, .iload_n 3, 0), (73, .sipush 999, 999)]) (pc' := 76) (L' := [some (.ref 0), none, none, some (.int v3)]) (st' := [.int 999, .int v3]) (w' := (cX tr kp th ot tp sl pk rf ik)) (by decide +kernel) rfl trivial ?_
      rcases ite_s hf with ⟨c_101, hf⟩ | ⟨c_101, hf⟩
      · refine m_jT M (i := .if_icmp .gt 28) 104 (by decide +kernel) rfl (by decide) c_101 ?_
        refine m_run M (is := [(104, .iconst (-1), -1)]) (pc' := 105) (L' := [some (.ref 0), none, none, some (.int v3)]) (st' := [.int (-1)]) (w' := (cX tr kp th ot tp sl pk rf ik)) (by decide +kernel) rfl trivial ?_
        obtain rfl := Option.some.inj hf
        exact m_iret K (by decide +kernel) (Nat.zero_le _) (Nat.zero_le _) ⟨rfl, rfl⟩
      · refine m_jF M (i := .if_icmp .gt 28) 104 (by decide +kernel) rfl (by decide) c_101 ?_
        refine m_run M (is := [(79, .aload_n 0, 0), (80, .getfield 19, 0)]) (pc' := 83) (L' := [some (.ref 0), none, none, some (.int v3)]) (st' := [.ref 13]) (w' := (cX tr kp th ot tp sl pk rf ik)) (by decide +kernel) rfl trivial ?_
        obtain ⟨r102, h_102, hf⟩ := bnd_s hf
        refine m_cV0 M (rest := []) (w2 := (cX tr kp r102.2 ot tp sl pk rf ik)) (st2 := [.int r102.1]) (run_X1_turn    th h_102) cv_X1_turn lk_X3_190 (by decide +kernel) [13, 14, 15, 16, 17, 18] (by decide) ⟨Nat.le_of_ble_eq_true rfl, Nat.le_of_ble_eq_true rfl⟩ (hw_1  tr kp th ot tp sl pk rf ik) rfl rfl (Nat.le_of_ble_eq_true rfl) ⟨by decide, by decide⟩ rfl rfl ⟨Nat.zero_le _, Nat.zero_le _⟩ (hp_1  tr kp th ot tp sl pk rf ik r102.2) rfl ?_
        refine m_run M (is := [(86, .aload_n 0, 0), (87, .getfield 22, 0)]) (pc' := 90) (L' := [some (.ref 0), none, none, some (.int v3)]) (st' := [.ref 19, .int r102.1]) (w' := (cX tr kp r102.2 ot tp sl pk rf ik)) (by decide +kernel) rfl trivial ?_
        obtain ⟨r103, h_103, hf⟩ := bnd_s hf
        refine m_cV0 M (rest := [.int r102.1]) (w2 := (cX tr kp r102.2 r103.2 tp sl pk rf ik)) (st2 := [.int r103.1, .int r102.1]) (run_X1_turn    ot h_103) cv_X1_turn lk_X3_190 (by decide +kernel) [19, 20, 21, 22, 23, 24] (by decide) ⟨Nat.le_of_ble_eq_true rfl, Nat.le_of_ble_eq_true rfl⟩ (hw_7  tr kp r102.2 ot tp sl pk rf ik) rfl rfl (Nat.le_of_ble_eq_true rfl) ⟨by decide, by decide⟩ rfl rfl ⟨Nat.zero_le _, Nat.zero_le _⟩ (hp_7  tr kp r102.2 ot tp sl pk rf ik r103.2) rfl ?_
        rcases ite_s hf with ⟨c_104, hf⟩ | ⟨c_104, hf⟩
        · refine m_jT M (i := .if_icmp .eq 5) 98 (by decide +kernel) rfl (by decide) c_104 ?_
          refine m_run M (is := [(98, .iinc 3 1, 1), (101, .goto (-29), 0)]) (pc' := 72) (L' := [some (.ref 0), none, none, some (.int (v3 + 1))]) (st' := []) (w' := (cX tr kp r102.2 r103.2 tp sl pk rf ik)) (by decide +kernel) rfl trivial ?_
          exact ih (v3 + 1) r102.2 r103.2 rf hf
        · refine m_jF M (i := .if_icmp .eq 5) 98 (by decide +kernel) rfl (by decide) c_104 ?_
          refine m_run M (is := [(96, .iload_n 3, 0)]) (pc' := 97) (L' := [some (.ref 0), none, none, some (.int v3)]) (st' := [.int v3]) (w' := (cX tr kp r102.2 r103.2 tp sl pk rf ik)) (by decide +kernel) rfl trivial ?_
          obtain rfl := Option.some.inj hf
          exact m_iret K (by decide +kernel) (Nat.zero_le _) (Nat.zero_le _) ⟨rfl, rfl⟩
  rw [f_X3_unlike] at hf
  refine m_run M (is := [(0, .aload_n 0, 0), (1, .getfield 10, 0), (4, .iload_n 1, 0)]) (pc' := 5) (L' := [some (.ref 0), some (.int a0), some (.int a1), none]) (st' := [.int a0, .ref 1]) (w' := (cX tr kp th ot tp sl pk rf ik)) (by decide +kernel) rfl trivial ?_
  obtain ⟨r1001, h_1001, hf⟩ := bnd_s hf
  refine m_cV0 M (rest := []) (w2 := (cX tr kp th ot tp sl pk rf ik)) (st2 := [.int r1001]) (run_X1_hasLaw a0   tr h_1001) cv_X1_hasLaw lk_X3_102 (by decide +kernel) [1, 2, 3, 4, 5, 6] (by decide) ⟨Nat.le_of_ble_eq_true rfl, Nat.le_of_ble_eq_true rfl⟩ (hw_3  tr kp th ot tp sl pk rf ik) rfl rfl (Nat.le_of_ble_eq_true rfl) ⟨by decide, by decide⟩ rfl rfl ⟨Nat.zero_le _, Nat.zero_le _⟩ (hp_3  tr kp th ot tp sl pk rf ik tr) rfl ?_
  rcases ite_s hf with ⟨c_1002, hf⟩ | ⟨c_1002, hf⟩
  · refine m_jT M (i := .ifCond .eq 14) 22 (by decide +kernel) rfl (by decide) c_1002 ?_
    refine m_run M (is := [(22, .aload_n 0, 0), (23, .bipush (-2), -2)]) (pc' := 25) (L' := [some (.ref 0), some (.int a0), some (.int a1), none]) (st' := [.int (-2), .ref 0]) (w' := (cX tr kp th ot tp sl pk rf ik)) (by decide +kernel) rfl trivial ?_
    obtain ⟨r1003, h_1003, hf⟩ := bnd_s hf
    refine m_cV0 M (rest := []) (w2 := (cX tr kp th ot tp sl pk r1003.2 ik)) (st2 := [.int r1003.1]) (run_X3_refuse (-2)   tr kp th ot tp sl pk rf ik h_1003) cv_X3_refuse lk_X3_54 (by decide +kernel) (List.range 46) List.nodup_range ⟨(by rw [List.length_range]; exact Nat.le_refl _), Nat.le_of_ble_eq_true rfl⟩ (hwId rfl) rfl rfl (Nat.le_of_ble_eq_true rfl) ⟨by decide, by decide⟩ rfl rfl ⟨Nat.zero_le _, Nat.zero_le _⟩ (hpId rfl rfl) rfl ?_
    obtain rfl := Option.some.inj hf
    exact m_iret K (by decide +kernel) (Nat.zero_le _) (Nat.zero_le _) ⟨rfl, rfl⟩
  · refine m_jF M (i := .ifCond .eq 14) 22 (by decide +kernel) rfl (by decide) c_1002 ?_
    refine m_run M (is := [(11, .aload_n 0, 0), (12, .getfield 10, 0), (15, .iload_n 2, 0)]) (pc' := 16) (L' := [some (.ref 0), some (.int a0), some (.int a1), none]) (st' := [.int a1, .ref 1]) (w' := (cX tr kp th ot tp sl pk rf ik)) (by decide +kernel) rfl trivial ?_
    obtain ⟨r1004, h_1004, hf⟩ := bnd_s hf
    refine m_cV0 M (rest := []) (w2 := (cX tr kp th ot tp sl pk rf ik)) (st2 := [.int r1004]) (run_X1_hasLaw a1   tr h_1004) cv_X1_hasLaw lk_X3_102 (by decide +kernel) [1, 2, 3, 4, 5, 6] (by decide) ⟨Nat.le_of_ble_eq_true rfl, Nat.le_of_ble_eq_true rfl⟩ (hw_3  tr kp th ot tp sl pk rf ik) rfl rfl (Nat.le_of_ble_eq_true rfl) ⟨by decide, by decide⟩ rfl rfl ⟨Nat.zero_le _, Nat.zero_le _⟩ (hp_3  tr kp th ot tp sl pk rf ik tr) rfl ?_
    rcases ite_s hf with ⟨c_1005, hf⟩ | ⟨c_1005, hf⟩
    · refine m_jF M (i := .ifCond .ne 10) 29 (by decide +kernel) rfl (by decide) (fun n => n c_1005) ?_
      refine m_run M (is := [(22, .aload_n 0, 0), (23, .bipush (-2), -2)]) (pc' := 25) (L' := [some (.ref 0), some (.int a0), some (.int a1), none]) (st' := [.int (-2), .ref 0]) (w' := (cX tr kp th ot tp sl pk rf ik)) (by decide +kernel) rfl trivial ?_
      obtain ⟨r1006, h_1006, hf⟩ := bnd_s hf
      refine m_cV0 M (rest := []) (w2 := (cX tr kp th ot tp sl pk r1006.2 ik)) (st2 := [.int r1006.1]) (run_X3_refuse (-2)   tr kp th ot tp sl pk rf ik h_1006) cv_X3_refuse lk_X3_54 (by decide +kernel) (List.range 46) List.nodup_range ⟨(by rw [List.length_range]; exact Nat.le_refl _), Nat.le_of_ble_eq_true rfl⟩ (hwId rfl) rfl rfl (Nat.le_of_ble_eq_true rfl) ⟨by decide, by decide⟩ rfl rfl ⟨Nat.zero_le _, Nat.zero_le _⟩ (hpId rfl rfl) rfl ?_
      obtain rfl := Option.some.inj hf
      exact m_iret K (by decide +kernel) (Nat.zero_le _) (Nat.zero_le _) ⟨rfl, rfl⟩
    · refine m_jT M (i := .ifCond .ne 10) 29 (by decide +kernel) rfl (by decide) c_1005 ?_
      refine m_run M (is := [(29, .aload_n 0, 0), (30, .getfield 10, 0)]) (pc' := 33) (L' := [some (.ref 0), some (.int a0), some (.int a1), none]) (st' := [.ref 1]) (w' := (cX tr kp th ot tp sl pk rf ik)) (by decide +kernel) rfl trivial ?_
      obtain ⟨r1007, h_1007, hf⟩ := bnd_s hf
      refine m_cV0 M (rest := []) (w2 := (cX tr kp th ot tp sl pk rf ik)) (st2 := [.int r1007]) (run_X1_isEmpty    tr h_1007) cv_X1_isEmpty lk_X3_236 (by decide +kernel) [1, 2, 3, 4, 5, 6] (by decide) ⟨Nat.le_of_ble_eq_true rfl, Nat.le_of_ble_eq_true rfl⟩ (hw_3  tr kp th ot tp sl pk rf ik) rfl rfl (Nat.le_of_ble_eq_true rfl) ⟨by decide, by decide⟩ rfl rfl ⟨Nat.zero_le _, Nat.zero_le _⟩ (hp_3  tr kp th ot tp sl pk rf ik tr) rfl ?_
      rcases ite_s hf with ⟨c_1008, hf⟩ | ⟨c_1008, hf⟩
      · refine m_jT M (i := .ifCond .eq 10) 46 (by decide +kernel) rfl (by decide) c_1008 ?_
        refine m_run M (is := [(46, .aload_n 0, 0), (47, .iload_n 1, 0)]) (pc' := 48) (L' := [some (.ref 0), some (.int a0), some (.int a1), none]) (st' := [.int a0, .ref 0]) (w' := (cX tr kp th ot tp sl pk rf ik)) (by decide +kernel) rfl trivial ?_
        obtain ⟨r1009, h_1009, hf⟩ := bnd_s hf
        refine m_cV0 M (rest := []) (w2 := (cX tr kp r1009 ot tp sl pk rf ik)) (st2 := []) (run_X3_thinkBy a0   tr kp th ot tp sl pk rf ik h_1009) cv_X3_thinkBy lk_X3_239 (by decide +kernel) (List.range 46) List.nodup_range ⟨(by rw [List.length_range]; exact Nat.le_refl _), Nat.le_of_ble_eq_true rfl⟩ (hwId rfl) rfl rfl (Nat.le_of_ble_eq_true rfl) ⟨by decide, by decide⟩ rfl rfl ⟨Nat.zero_le _, Nat.zero_le _⟩ (hpId rfl rfl) rfl ?_
        refine m_run M (is := [(51, .aload_n 0, 0), (52, .getfield 22, 0), (55, .aload_n 0, 0), (56, .getfield 10, 0)]) (pc' := 59) (L' := [some (.ref 0), some (.int a0), some (.int a1), none]) (st' := [.ref 1, .ref 19]) (w' := (cX tr kp r1009 ot tp sl pk rf ik)) (by decide +kernel) rfl trivial ?_
        obtain ⟨r1010, h_1010, hf⟩ := bnd_s hf
        refine m_cV0 M (rest := []) (w2 := (cX tr kp r1009 r1010 tp sl pk rf ik)) (st2 := []) (run_X1_become    ot tr h_1010) cv_X1_become lk_X3_161 (by decide +kernel) [19, 20, 21, 22, 23, 24, 1, 2, 3, 4, 5, 6] (by decide) ⟨Nat.le_of_ble_eq_true rfl, Nat.le_of_ble_eq_true rfl⟩ (hw_6  tr kp r1009 ot tp sl pk rf ik) rfl rfl (Nat.le_of_ble_eq_true rfl) ⟨by decide, by decide⟩ rfl rfl ⟨Nat.zero_le _, Nat.zero_le _⟩ (hp_6  tr kp r1009 ot tp sl pk rf ik r1010 tr) rfl ?_
        refine m_run M (is := [(62, .aload_n 0, 0), (63, .getfield 22, 0), (66, .iload_n 2, 0), (67, .putfield 144, 0), (70, .iconst 1, 1), (71, .istore_n 3, 0)]) (pc' := 72) (L' := [some (.ref 0), some (.int a0), some (.int a1), some (.int 1)]) (st' := []) (w' := (cX tr kp r1009 (r1010.1, r1010.2.1, r1010.2.2.1, r1010.2.2.2.1, r1010.2.2.2.2.1, r1010.2.2.2.2.2.1, r1010.2.2.2.2.2.2.1, a1, r1010.2.2.2.2.2.2.2.2.1, r1010.2.2.2.2.2.2.2.2.2) tp sl pk rf ik)) (by decide +kernel) rfl trivial ?_
        refine m_wk M [some (.ref 0), none, none, some (.int 1)] ⟨Or.inr rfl, Or.inl rfl, Or.inl rfl, Or.inr rfl, trivial⟩ ?_
        exact loop_0 fuel0 1 r1009 (r1010.1, r1010.2.1, r1010.2.2.1, r1010.2.2.2.1, r1010.2.2.2.2.1, r1010.2.2.2.2.2.1, r1010.2.2.2.2.2.2.1, a1, r1010.2.2.2.2.2.2.2.2.1, r1010.2.2.2.2.2.2.2.2.2) rf hf
      · refine m_jF M (i := .ifCond .eq 10) 46 (by decide +kernel) rfl (by decide) c_1008 ?_
        refine m_run M (is := [(39, .aload_n 0, 0), (40, .bipush (-5), -5)]) (pc' := 42) (L' := [some (.ref 0), some (.int a0), some (.int a1), none]) (st' := [.int (-5), .ref 0]) (w' := (cX tr kp th ot tp sl pk rf ik)) (by decide +kernel) rfl trivial ?_
        obtain ⟨r1011, h_1011, hf⟩ := bnd_s hf
        refine m_cV0 M (rest := []) (w2 := (cX tr kp th ot tp sl pk r1011.2 ik)) (st2 := [.int r1011.1]) (run_X3_refuse (-5)   tr kp th ot tp sl pk rf ik h_1011) cv_X3_refuse lk_X3_54 (by decide +kernel) (List.range 46) List.nodup_range ⟨(by rw [List.length_range]; exact Nat.le_refl _), Nat.le_of_ble_eq_true rfl⟩ (hwId rfl) rfl rfl (Nat.le_of_ble_eq_true rfl) ⟨by decide, by decide⟩ rfl rfl ⟨Nat.zero_le _, Nat.zero_le _⟩ (hpId rfl rfl) rfl ?_
        obtain rfl := Option.some.inj hf
        exact m_iret K (by decide +kernel) (Nat.zero_le _) (Nat.zero_le _) ⟨rfl, rfl⟩

def f_X3_lawFor_L0 (v1 : Int32) (v2 : Int32) (tr : ShT) : Nat → Int32 → Int32 → Int32 → ShT → AI → Option (Int32 × ShT × AI)
  | 0, _, _, _, _, _ => none
  | n_ + 1, v3, v4, v5, th, rf =>
    if tr.2.2.2.2.2.2.1 ≤ v5 then
      some (v3, th, rf)
    else
      (f_X3_thinkBy v5 tr th).bind fun r102 =>
      (f_X1_turnTimes v2 r102).bind fun r103 =>
      if inB v1 16 then
      if (r103.2.1 v1.toNatClampNeg) ≤ v4 then
        f_X3_lawFor_L0 v1 v2 tr n_ v3 v4 (v5 + 1) r103 rf
      else
        if inB v1 16 then
        f_X3_lawFor_L0 v1 v2 tr n_ v5 (r103.2.1 v1.toNatClampNeg) (v5 + 1) r103 rf
        else none
      else none
def f_X3_lawFor (a0 : Int32) (a1 : Int32) (tr : ShT) (th : ShT) (rf : AI) : Option (Int32 × ShT × AI) :=
  (f_X1_hasPerson a0 tr).bind fun r1001 =>
  if r1001 = 0 then
    (f_X3_refuse (-2) rf).bind fun r1003 =>
    some (r1003.1, th, r1003.2)
  else
    (f_X3_isBetween a1 0 999).bind fun r1004 =>
    if r1004 = 0 then
      (f_X3_refuse (-2) rf).bind fun r1006 =>
      some (r1006.1, th, r1006.2)
    else
      (f_X1_isLawless tr).bind fun r1007 =>
      if r1007 = 0 then
        f_X3_lawFor_L0 a0 a1 tr fuel0 (-1) (-1) 0 th rf
      else
        (f_X3_refuse (-5) rf).bind fun r1009 =>
        some (r1009.1, th, r1009.2)
set_option maxRecDepth 100000 in
set_option maxHeartbeats 4000000 in
theorem run_X3_lawFor {l : Launch} {D : va_G} {cT : Nat → ClassId} (a0 : Int32) (a1 : Int32)   (tr : ShT) (kp : ShT) (th : ShT) (ot : ShT) (tp : TpT) (sl : (Nat → SlT)) (pk : AI) (rf : AI) (ik : Int32) {r : Int32 × ShT × AI} (hf : f_X3_lawFor a0 a1 tr th rf = some r) : Runs l D cT yX3_lawFor cX3_lawFor 6 (some .int) 4 89 [.ref 0, .int a0, .int a1] (cX tr kp th ot tp sl pk rf ik) (EQ (some (.int r.1)) (cX tr kp r.2.1 ot tp sl pk r.2.2 ik)) := by
  refine runs_of O_X3 okO_X3 (by decide +kernel) rfl rfl (Nat.le_of_ble_eq_true rfl) (Nat.le_of_ble_eq_true rfl) (fun g K => ?_)
  have M := K.b
  show g 0 0 (cX tr kp th ot tp sl pk rf ik) 0 [some (.ref 0), some (.int a0), some (.int a1), none, none, none] []
  have loop_0 : ∀ (v1 : Int32) (v2 : Int32) (n_ : Nat), (∀ (v3 : Int32) (v4 : Int32) (v5 : Int32) (th : ShT) (rf : AI), f_X3_lawFor_L0 v1 v2 tr n_ v3 v4 v5 th rf = some r → g 0 0 (cX tr kp th ot tp sl pk rf ik) 54 [some (.ref 0), some (.int v1), some (.int v2), some (.int v3), some (.int v4), some (.int v5)] []) := by
    intro v1 v2 n_
    induction n_ with
    | zero => intro v3 v4 v5 th rf hf; cases hf
    | succ n_ ih =>
      intro v3 v4 v5 th rf hf
      rw [f_X3_lawFor_L0] at hf
      refine m_run M (is := [(54, .iload 5, 0), (56, .aload_n 0, 0), (57, .getfield 10, 0), (60, .getfield 242, 0)]) (pc' := 63) (L' := [some (.ref 0), some (.int v1), some (.int v2), some (.int v3), some (.int v4), some (.int v5)]) (st' := [.int tr.2.2.2.2.2.2.1, .int v5]) (w' := (cX tr kp th ot tp sl pk rf ik)) (by decide +kernel) rfl trivial ?_
      rcases ite_s hf with ⟨c_101, hf⟩ | ⟨c_101, hf⟩
      · refine m_jT M (i := .if_icmp .ge 51) 114 (by decide +kernel) rfl (by decide) c_101 ?_
        refine m_run M (is := [(114, .iload_n 3, 0)]) (pc' := 115) (L' := [some (.ref 0), some (.int v1), some (.int v2), some (.int v3), some (.int v4), some (.int v5)]) (st' := [.int v3]) (w' := (cX tr kp th ot tp sl pk rf ik)) (by decide +kernel) rfl trivial ?_
        obtain rfl := Option.some.inj hf
        exact m_iret K (by decide +kernel) (Nat.zero_le _) (Nat.zero_le _) ⟨rfl, rfl⟩
      · refine m_jF M (i := .if_icmp .ge 51) 114 (by decide +kernel) rfl (by decide) c_101 ?_
        refine m_run M (is := [(66, .aload_n 0, 0), (67, .iload 5, 0)]) (pc' := 69) (L' := [some (.ref 0), some (.int v1), some (.int v2), some (.int v3), some (.int v4), some (.int v5)]) (st' := [.int v5, .ref 0]) (w' := (cX tr kp th ot tp sl pk rf ik)) (by decide +kernel) rfl trivial ?_
        obtain ⟨r102, h_102, hf⟩ := bnd_s hf
        refine m_cV0 M (rest := []) (w2 := (cX tr kp r102 ot tp sl pk rf ik)) (st2 := []) (run_X3_thinkBy v5   tr kp th ot tp sl pk rf ik h_102) cv_X3_thinkBy lk_X3_239 (by decide +kernel) (List.range 46) List.nodup_range ⟨(by rw [List.length_range]; exact Nat.le_refl _), Nat.le_of_ble_eq_true rfl⟩ (hwId rfl) rfl rfl (Nat.le_of_ble_eq_true rfl) ⟨by decide, by decide⟩ rfl rfl ⟨Nat.zero_le _, Nat.zero_le _⟩ (hpId rfl rfl) rfl ?_
        refine m_run M (is := [(72, .aload_n 0, 0), (73, .getfield 19, 0), (76, .iload_n 2, 0)]) (pc' := 77) (L' := [some (.ref 0), some (.int v1), some (.int v2), some (.int v3), some (.int v4), some (.int v5)]) (st' := [.int v2, .ref 13]) (w' := (cX tr kp r102 ot tp sl pk rf ik)) (by decide +kernel) rfl trivial ?_
        obtain ⟨r103, h_103, hf⟩ := bnd_s hf
        refine m_cV0 M (rest := []) (w2 := (cX tr kp r103 ot tp sl pk rf ik)) (st2 := []) (run_X1_turnTimes v2   r102 h_103) cv_X1_turnTimes lk_X3_213 (by decide +kernel) [13, 14, 15, 16, 17, 18] (by decide) ⟨Nat.le_of_ble_eq_true rfl, Nat.le_of_ble_eq_true rfl⟩ (hw_1  tr kp r102 ot tp sl pk rf ik) rfl rfl (Nat.le_of_ble_eq_true rfl) ⟨by decide, by decide⟩ rfl rfl ⟨Nat.zero_le _, Nat.zero_le _⟩ (hp_1  tr kp r102 ot tp sl pk rf ik r103) rfl ?_
        obtain ⟨h_104, hf⟩ := grd_s hf
        refine m_run M (is := [(80, .aload_n 0, 0), (81, .getfield 19, 0), (84, .getfield 150, 0), (87, .iload_n 1, 0), (88, .iaload, 0), (89, .iload 4, 0)]) (pc' := 91) (L' := [some (.ref 0), some (.int v1), some (.int v2), some (.int v3), some (.int v4), some (.int v5)]) (st' := [.int v4, .int (r103.2.1 v1.toNatClampNeg)]) (w' := (cX tr kp r103 ot tp sl pk rf ik)) (by decide +kernel) rfl ⟨inB_use h_104, trivial⟩ ?_
        rcases ite_s hf with ⟨c_105, hf⟩ | ⟨c_105, hf⟩
        · refine m_jT M (i := .if_icmp .le 17) 108 (by decide +kernel) rfl (by decide) c_105 ?_
          refine m_run M (is := [(108, .iinc 5 1, 1), (111, .goto (-57), 0)]) (pc' := 54) (L' := [some (.ref 0), some (.int v1), some (.int v2), some (.int v3), some (.int v4), some (.int (v5 + 1))]) (st' := []) (w' := (cX tr kp r103 ot tp sl pk rf ik)) (by decide +kernel) rfl trivial ?_
          exact ih v3 v4 (v5 + 1) r103 rf hf
        · refine m_jF M (i := .if_icmp .le 17) 108 (by decide +kernel) rfl (by decide) c_105 ?_
          obtain ⟨h_106, hf⟩ := grd_s hf
          refine m_run M (is := [(94, .aload_n 0, 0), (95, .getfield 19, 0), (98, .getfield 150, 0), (101, .iload_n 1, 0), (102, .iaload, 0), (103, .istore 4, 0), (105, .iload 5, 0), (107, .istore_n 3, 0), (108, .iinc 5 1, 1), (111, .goto (-57), 0)]) (pc' := 54) (L' := [some (.ref 0), some (.int v1), some (.int v2), some (.int v5), some (.int (r103.2.1 v1.toNatClampNeg)), some (.int (v5 + 1))]) (st' := []) (w' := (cX tr kp r103 ot tp sl pk rf ik)) (by decide +kernel) rfl ⟨inB_use h_106, trivial⟩ ?_
          exact ih v5 (r103.2.1 v1.toNatClampNeg) (v5 + 1) r103 rf hf
  rw [f_X3_lawFor] at hf
  refine m_run M (is := [(0, .aload_n 0, 0), (1, .getfield 10, 0), (4, .iload_n 1, 0)]) (pc' := 5) (L' := [some (.ref 0), some (.int a0), some (.int a1), none, none, none]) (st' := [.int a0, .ref 1]) (w' := (cX tr kp th ot tp sl pk rf ik)) (by decide +kernel) rfl trivial ?_
  obtain ⟨r1001, h_1001, hf⟩ := bnd_s hf
  refine m_cV0 M (rest := []) (w2 := (cX tr kp th ot tp sl pk rf ik)) (st2 := [.int r1001]) (run_X1_hasPerson a0   tr h_1001) cv_X1_hasPerson lk_X3_147 (by decide +kernel) [1, 2, 3, 4, 5, 6] (by decide) ⟨Nat.le_of_ble_eq_true rfl, Nat.le_of_ble_eq_true rfl⟩ (hw_3  tr kp th ot tp sl pk rf ik) rfl rfl (Nat.le_of_ble_eq_true rfl) ⟨by decide, by decide⟩ rfl rfl ⟨Nat.zero_le _, Nat.zero_le _⟩ (hp_3  tr kp th ot tp sl pk rf ik tr) rfl ?_
  rcases ite_s hf with ⟨c_1002, hf⟩ | ⟨c_1002, hf⟩
  · refine m_jT M (i := .ifCond .eq 14) 22 (by decide +kernel) rfl (by decide) c_1002 ?_
    refine m_run M (is := [(22, .aload_n 0, 0), (23, .bipush (-2), -2)]) (pc' := 25) (L' := [some (.ref 0), some (.int a0), some (.int a1), none, none, none]) (st' := [.int (-2), .ref 0]) (w' := (cX tr kp th ot tp sl pk rf ik)) (by decide +kernel) rfl trivial ?_
    obtain ⟨r1003, h_1003, hf⟩ := bnd_s hf
    refine m_cV0 M (rest := []) (w2 := (cX tr kp th ot tp sl pk r1003.2 ik)) (st2 := [.int r1003.1]) (run_X3_refuse (-2)   tr kp th ot tp sl pk rf ik h_1003) cv_X3_refuse lk_X3_54 (by decide +kernel) (List.range 46) List.nodup_range ⟨(by rw [List.length_range]; exact Nat.le_refl _), Nat.le_of_ble_eq_true rfl⟩ (hwId rfl) rfl rfl (Nat.le_of_ble_eq_true rfl) ⟨by decide, by decide⟩ rfl rfl ⟨Nat.zero_le _, Nat.zero_le _⟩ (hpId rfl rfl) rfl ?_
    obtain rfl := Option.some.inj hf
    exact m_iret K (by decide +kernel) (Nat.zero_le _) (Nat.zero_le _) ⟨rfl, rfl⟩
  · refine m_jF M (i := .ifCond .eq 14) 22 (by decide +kernel) rfl (by decide) c_1002 ?_
    refine m_run M (is := [(11, .iload_n 2, 0), (12, .iconst 0, 0), (13, .sipush 999, 999)]) (pc' := 16) (L' := [some (.ref 0), some (.int a0), some (.int a1), none, none, none]) (st' := [.int 999, .int 0, .int a1]) (w' := (cX tr kp th ot tp sl pk rf ik)) (by decide +kernel) rfl trivial ?_
    obtain ⟨r1004, h_1004, hf⟩ := bnd_s hf
    refine m_cS0 M (rest := []) (w2 := (cX tr kp th ot tp sl pk rf ik)) (st2 := [.int r1004]) (run_X3_isBetween a1 0 999    h_1004) cs_X3_isBetween lk_X3_50 (by decide +kernel) [] (by decide) ⟨Nat.le_of_ble_eq_true rfl, Nat.le_of_ble_eq_true rfl⟩ rfl rfl (Nat.le_of_ble_eq_true rfl) ⟨by decide, by decide⟩ rfl rfl ⟨Nat.zero_le _, Nat.zero_le _⟩ rfl rfl ?_
    rcases ite_s hf with ⟨c_1005, hf⟩ | ⟨c_1005, hf⟩
    · refine m_jF M (i := .ifCond .ne 10) 29 (by decide +kernel) rfl (by decide) (fun n => n c_1005) ?_
      refine m_run M (is := [(22, .aload_n 0, 0), (23, .bipush (-2), -2)]) (pc' := 25) (L' := [some (.ref 0), some (.int a0), some (.int a1), none, none, none]) (st' := [.int (-2), .ref 0]) (w' := (cX tr kp th ot tp sl pk rf ik)) (by decide +kernel) rfl trivial ?_
      obtain ⟨r1006, h_1006, hf⟩ := bnd_s hf
      refine m_cV0 M (rest := []) (w2 := (cX tr kp th ot tp sl pk r1006.2 ik)) (st2 := [.int r1006.1]) (run_X3_refuse (-2)   tr kp th ot tp sl pk rf ik h_1006) cv_X3_refuse lk_X3_54 (by decide +kernel) (List.range 46) List.nodup_range ⟨(by rw [List.length_range]; exact Nat.le_refl _), Nat.le_of_ble_eq_true rfl⟩ (hwId rfl) rfl rfl (Nat.le_of_ble_eq_true rfl) ⟨by decide, by decide⟩ rfl rfl ⟨Nat.zero_le _, Nat.zero_le _⟩ (hpId rfl rfl) rfl ?_
      obtain rfl := Option.some.inj hf
      exact m_iret K (by decide +kernel) (Nat.zero_le _) (Nat.zero_le _) ⟨rfl, rfl⟩
    · refine m_jT M (i := .ifCond .ne 10) 29 (by decide +kernel) rfl (by decide) c_1005 ?_
      refine m_run M (is := [(29, .aload_n 0, 0), (30, .getfield 10, 0)]) (pc' := 33) (L' := [some (.ref 0), some (.int a0), some (.int a1), none, none, none]) (st' := [.ref 1]) (w' := (cX tr kp th ot tp sl pk rf ik)) (by decide +kernel) rfl trivial ?_
      obtain ⟨r1007, h_1007, hf⟩ := bnd_s hf
      refine m_cV0 M (rest := []) (w2 := (cX tr kp th ot tp sl pk rf ik)) (st2 := [.int r1007]) (run_X1_isLawless    tr h_1007) cv_X1_isLawless lk_X3_181 (by decide +kernel) [1, 2, 3, 4, 5, 6] (by decide) ⟨Nat.le_of_ble_eq_true rfl, Nat.le_of_ble_eq_true rfl⟩ (hw_3  tr kp th ot tp sl pk rf ik) rfl rfl (Nat.le_of_ble_eq_true rfl) ⟨by decide, by decide⟩ rfl rfl ⟨Nat.zero_le _, Nat.zero_le _⟩ (hp_3  tr kp th ot tp sl pk rf ik tr) rfl ?_
      rcases ite_s hf with ⟨c_1008, hf⟩ | ⟨c_1008, hf⟩
      · refine m_jT M (i := .ifCond .eq 10) 46 (by decide +kernel) rfl (by decide) c_1008 ?_
        refine m_run M (is := [(46, .iconst (-1), -1), (47, .istore_n 3, 0), (48, .iconst (-1), -1), (49, .istore 4, 0), (51, .iconst 0, 0), (52, .istore 5, 0)]) (pc' := 54) (L' := [some (.ref 0), some (.int a0), some (.int a1), some (.int (-1)), some (.int (-1)), some (.int 0)]) (st' := []) (w' := (cX tr kp th ot tp sl pk rf ik)) (by decide +kernel) rfl trivial ?_
        exact loop_0 a0 a1 fuel0 (-1) (-1) 0 th rf hf
      · refine m_jF M (i := .ifCond .eq 10) 46 (by decide +kernel) rfl (by decide) c_1008 ?_
        refine m_run M (is := [(39, .aload_n 0, 0), (40, .bipush (-5), -5)]) (pc' := 42) (L' := [some (.ref 0), some (.int a0), some (.int a1), none, none, none]) (st' := [.int (-5), .ref 0]) (w' := (cX tr kp th ot tp sl pk rf ik)) (by decide +kernel) rfl trivial ?_
        obtain ⟨r1009, h_1009, hf⟩ := bnd_s hf
        refine m_cV0 M (rest := []) (w2 := (cX tr kp th ot tp sl pk r1009.2 ik)) (st2 := [.int r1009.1]) (run_X3_refuse (-5)   tr kp th ot tp sl pk rf ik h_1009) cv_X3_refuse lk_X3_54 (by decide +kernel) (List.range 46) List.nodup_range ⟨(by rw [List.length_range]; exact Nat.le_refl _), Nat.le_of_ble_eq_true rfl⟩ (hwId rfl) rfl rfl (Nat.le_of_ble_eq_true rfl) ⟨by decide, by decide⟩ rfl rfl ⟨Nat.zero_le _, Nat.zero_le _⟩ (hpId rfl rfl) rfl ?_
        obtain rfl := Option.some.inj hf
        exact m_iret K (by decide +kernel) (Nat.zero_le _) (Nat.zero_le _) ⟨rfl, rfl⟩

def f_X3_newcomer (tr : ShT) (th : ShT) (rf : AI) : Option (Int32 × ShT × AI) :=
  (f_X1_isLawless tr).bind fun r1001 =>
  if r1001 = 0 then
    (f_X1_hasRoom tr).bind fun r1003 =>
    if r1003 = 0 then
      (f_X3_refuse (-6) rf).bind fun r1005 =>
      some (r1005.1, th, r1005.2)
    else
      (f_X1_become th tr).bind fun r1006 =>
      (f_X1_add r1006).bind fun r1007 =>
      (f_X3_turnOfServing r1007.1 1 999 r1007.2).bind fun r1008 =>
      some (r1008.1, r1008.2, rf)
  else
    (f_X3_refuse (-5) rf).bind fun r1009 =>
    some (r1009.1, th, r1009.2)
set_option maxRecDepth 100000 in
set_option maxHeartbeats 4000000 in
theorem run_X3_newcomer {l : Launch} {D : va_G} {cT : Nat → ClassId}    (tr : ShT) (kp : ShT) (th : ShT) (ot : ShT) (tp : TpT) (sl : (Nat → SlT)) (pk : AI) (rf : AI) (ik : Int32) {r : Int32 × ShT × AI} (hf : f_X3_newcomer tr th rf = some r) : Runs l D cT yX3_newcomer cX3_newcomer 1 (some .int) 4 92 [.ref 0] (cX tr kp th ot tp sl pk rf ik) (EQ (some (.int r.1)) (cX tr kp r.2.1 ot tp sl pk r.2.2 ik)) := by
  refine runs_of O_X3 okO_X3 (by decide +kernel) rfl rfl (Nat.le_of_ble_eq_true rfl) (Nat.le_of_ble_eq_true rfl) (fun g K => ?_)
  have M := K.b
  show g 0 0 (cX tr kp th ot tp sl pk rf ik) 0 [some (.ref 0)] []
  rw [f_X3_newcomer] at hf
  refine m_run M (is := [(0, .aload_n 0, 0), (1, .getfield 10, 0)]) (pc' := 4) (L' := [some (.ref 0)]) (st' := [.ref 1]) (w' := (cX tr kp th ot tp sl pk rf ik)) (by decide +kernel) rfl trivial ?_
  obtain ⟨r1001, h_1001, hf⟩ := bnd_s hf
  refine m_cV0 M (rest := []) (w2 := (cX tr kp th ot tp sl pk rf ik)) (st2 := [.int r1001]) (run_X1_isLawless    tr h_1001) cv_X1_isLawless lk_X3_181 (by decide +kernel) [1, 2, 3, 4, 5, 6] (by decide) ⟨Nat.le_of_ble_eq_true rfl, Nat.le_of_ble_eq_true rfl⟩ (hw_3  tr kp th ot tp sl pk rf ik) rfl rfl (Nat.le_of_ble_eq_true rfl) ⟨by decide, by decide⟩ rfl rfl ⟨Nat.zero_le _, Nat.zero_le _⟩ (hp_3  tr kp th ot tp sl pk rf ik tr) rfl ?_
  rcases ite_s hf with ⟨c_1002, hf⟩ | ⟨c_1002, hf⟩
  · refine m_jT M (i := .ifCond .eq 10) 17 (by decide +kernel) rfl (by decide) c_1002 ?_
    refine m_run M (is := [(17, .aload_n 0, 0), (18, .getfield 10, 0)]) (pc' := 21) (L' := [some (.ref 0)]) (st' := [.ref 1]) (w' := (cX tr kp th ot tp sl pk rf ik)) (by decide +kernel) rfl trivial ?_
    obtain ⟨r1003, h_1003, hf⟩ := bnd_s hf
    refine m_cV0 M (rest := []) (w2 := (cX tr kp th ot tp sl pk rf ik)) (st2 := [.int r1003]) (run_X1_hasRoom    tr h_1003) cv_X1_hasRoom lk_X3_131 (by decide +kernel) [1, 2, 3, 4, 5, 6] (by decide) ⟨Nat.le_of_ble_eq_true rfl, Nat.le_of_ble_eq_true rfl⟩ (hw_3  tr kp th ot tp sl pk rf ik) rfl rfl (Nat.le_of_ble_eq_true rfl) ⟨by decide, by decide⟩ rfl rfl ⟨Nat.zero_le _, Nat.zero_le _⟩ (hp_3  tr kp th ot tp sl pk rf ik tr) rfl ?_
    rcases ite_s hf with ⟨c_1004, hf⟩ | ⟨c_1004, hf⟩
    · refine m_jF M (i := .ifCond .ne 10) 34 (by decide +kernel) rfl (by decide) (fun n => n c_1004) ?_
      refine m_run M (is := [(27, .aload_n 0, 0), (28, .bipush (-6), -6)]) (pc' := 30) (L' := [some (.ref 0)]) (st' := [.int (-6), .ref 0]) (w' := (cX tr kp th ot tp sl pk rf ik)) (by decide +kernel) rfl trivial ?_
      obtain ⟨r1005, h_1005, hf⟩ := bnd_s hf
      refine m_cV0 M (rest := []) (w2 := (cX tr kp th ot tp sl pk r1005.2 ik)) (st2 := [.int r1005.1]) (run_X3_refuse (-6)   tr kp th ot tp sl pk rf ik h_1005) cv_X3_refuse lk_X3_54 (by decide +kernel) (List.range 46) List.nodup_range ⟨(by rw [List.length_range]; exact Nat.le_refl _), Nat.le_of_ble_eq_true rfl⟩ (hwId rfl) rfl rfl (Nat.le_of_ble_eq_true rfl) ⟨by decide, by decide⟩ rfl rfl ⟨Nat.zero_le _, Nat.zero_le _⟩ (hpId rfl rfl) rfl ?_
      obtain rfl := Option.some.inj hf
      exact m_iret K (by decide +kernel) (Nat.zero_le _) (Nat.zero_le _) ⟨rfl, rfl⟩
    · refine m_jT M (i := .ifCond .ne 10) 34 (by decide +kernel) rfl (by decide) c_1004 ?_
      refine m_run M (is := [(34, .aload_n 0, 0), (35, .getfield 19, 0), (38, .aload_n 0, 0), (39, .getfield 10, 0)]) (pc' := 42) (L' := [some (.ref 0)]) (st' := [.ref 1, .ref 13]) (w' := (cX tr kp th ot tp sl pk rf ik)) (by decide +kernel) rfl trivial ?_
      obtain ⟨r1006, h_1006, hf⟩ := bnd_s hf
      refine m_cV0 M (rest := []) (w2 := (cX tr kp r1006 ot tp sl pk rf ik)) (st2 := []) (run_X1_become    th tr h_1006) cv_X1_become lk_X3_161 (by decide +kernel) [13, 14, 15, 16, 17, 18, 1, 2, 3, 4, 5, 6] (by decide) ⟨Nat.le_of_ble_eq_true rfl, Nat.le_of_ble_eq_true rfl⟩ (hw_0  tr kp th ot tp sl pk rf ik) rfl rfl (Nat.le_of_ble_eq_true rfl) ⟨by decide, by decide⟩ rfl rfl ⟨Nat.zero_le _, Nat.zero_le _⟩ (hp_0  tr kp th ot tp sl pk rf ik r1006 tr) rfl ?_
      refine m_run M (is := [(45, .aload_n 0, 0), (46, .aload_n 0, 0), (47, .getfield 19, 0)]) (pc' := 50) (L' := [some (.ref 0)]) (st' := [.ref 13, .ref 0]) (w' := (cX tr kp r1006 ot tp sl pk rf ik)) (by decide +kernel) rfl trivial ?_
      obtain ⟨r1007, h_1007, hf⟩ := bnd_s hf
      refine m_cV0 M (rest := [.ref 0]) (w2 := (cX tr kp r1007.2 ot tp sl pk rf ik)) (st2 := [.int r1007.1, .ref 0]) (run_X1_add    r1006 h_1007) cv_X1_add lk_X3_134 (by decide +kernel) [13, 14, 15, 16, 17, 18] (by decide) ⟨Nat.le_of_ble_eq_true rfl, Nat.le_of_ble_eq_true rfl⟩ (hw_1  tr kp r1006 ot tp sl pk rf ik) rfl rfl (Nat.le_of_ble_eq_true rfl) ⟨by decide, by decide⟩ rfl rfl ⟨Nat.zero_le _, Nat.zero_le _⟩ (hp_1  tr kp r1006 ot tp sl pk rf ik r1007.2) rfl ?_
      refine m_run M (is := [(53, .iconst 1, 1), (54, .sipush 999, 999)]) (pc' := 57) (L' := [some (.ref 0)]) (st' := [.int 999, .int 1, .int r1007.1, .ref 0]) (w' := (cX tr kp r1007.2 ot tp sl pk rf ik)) (by decide +kernel) rfl trivial ?_
      obtain ⟨r1008, h_1008, hf⟩ := bnd_s hf
      refine m_cV0 M (rest := []) (w2 := (cX tr kp r1008.2 ot tp sl pk rf ik)) (st2 := [.int r1008.1]) (run_X3_turnOfServing r1007.1 1 999   tr kp r1007.2 ot tp sl pk rf ik h_1008) cv_X3_turnOfServing lk_X3_197 (by decide +kernel) (List.range 46) List.nodup_range ⟨(by rw [List.length_range]; exact Nat.le_refl _), Nat.le_of_ble_eq_true rfl⟩ (hwId rfl) rfl rfl (Nat.le_of_ble_eq_true rfl) ⟨by decide, by decide⟩ rfl rfl ⟨Nat.zero_le _, Nat.zero_le _⟩ (hpId rfl rfl) rfl ?_
      obtain rfl := Option.some.inj hf
      exact m_iret K (by decide +kernel) (Nat.zero_le _) (Nat.zero_le _) ⟨rfl, rfl⟩
  · refine m_jF M (i := .ifCond .eq 10) 17 (by decide +kernel) rfl (by decide) c_1002 ?_
    refine m_run M (is := [(10, .aload_n 0, 0), (11, .bipush (-5), -5)]) (pc' := 13) (L' := [some (.ref 0)]) (st' := [.int (-5), .ref 0]) (w' := (cX tr kp th ot tp sl pk rf ik)) (by decide +kernel) rfl trivial ?_
    obtain ⟨r1009, h_1009, hf⟩ := bnd_s hf
    refine m_cV0 M (rest := []) (w2 := (cX tr kp th ot tp sl pk r1009.2 ik)) (st2 := [.int r1009.1]) (run_X3_refuse (-5)   tr kp th ot tp sl pk rf ik h_1009) cv_X3_refuse lk_X3_54 (by decide +kernel) (List.range 46) List.nodup_range ⟨(by rw [List.length_range]; exact Nat.le_refl _), Nat.le_of_ble_eq_true rfl⟩ (hwId rfl) rfl rfl (Nat.le_of_ble_eq_true rfl) ⟨by decide, by decide⟩ rfl rfl ⟨Nat.zero_le _, Nat.zero_le _⟩ (hpId rfl rfl) rfl ?_
    obtain rfl := Option.some.inj hf
    exact m_iret K (by decide +kernel) (Nat.zero_le _) (Nat.zero_le _) ⟨rfl, rfl⟩

def f_X3_forward_L0 (v1 : Int32) (v2 : Int32) (v3 : Int32) (v4 : Int32) (tr : ShT) : Nat → Int32 → ShT → AI → Option (Int32 × ShT × AI)
  | 0, _, _, _ => none
  | n_ + 1, v5, th, rf =>
    if v4 < v5 then
      some ((-1), th, rf)
    else
      (f_X1_become th tr).bind fun r102 =>
      (f_X1_move v1 (v4 - v5) r102).bind fun r103 =>
      (f_X3_turnOfServing v1 v2 v3 r103).bind fun r104 =>
      if r104.1 = (-1) then
        f_X3_forward_L0 v1 v2 v3 v4 tr n_ (v5 + 1) r104.2 rf
      else
        some (v5, r104.2, rf)
def f_X3_forward (a0 : Int32) (a1 : Int32) (a2 : Int32) (tr : ShT) (th : ShT) (rf : AI) : Option (Int32 × ShT × AI) :=
  (f_X1_hasPerson a0 tr).bind fun r1001 =>
  if r1001 = 0 then
    (f_X3_refuse (-2) rf).bind fun r1003 =>
    some (r1003.1, th, r1003.2)
  else
    (f_X3_isBetween a1 1 99).bind fun r1004 =>
    if r1004 = 0 then
      (f_X3_refuse (-2) rf).bind fun r1006 =>
      some (r1006.1, th, r1006.2)
    else
      (f_X3_isBetween a2 0 999).bind fun r1007 =>
      if r1007 = 0 then
        (f_X3_refuse (-2) rf).bind fun r1009 =>
        some (r1009.1, th, r1009.2)
      else
        (f_X1_isLawless tr).bind fun r1010 =>
        if r1010 = 0 then
          (f_X1_placeOf a0 tr).bind fun r1012 =>
          f_X3_forward_L0 a0 a1 a2 r1012 tr fuel0 0 th rf
        else
          (f_X3_refuse (-5) rf).bind fun r1013 =>
          some (r1013.1, th, r1013.2)
set_option maxRecDepth 100000 in
set_option maxHeartbeats 4000000 in
theorem run_X3_forward {l : Launch} {D : va_G} {cT : Nat → ClassId} (a0 : Int32) (a1 : Int32) (a2 : Int32)   (tr : ShT) (kp : ShT) (th : ShT) (ot : ShT) (tp : TpT) (sl : (Nat → SlT)) (pk : AI) (rf : AI) (ik : Int32) {r : Int32 × ShT × AI} (hf : f_X3_forward a0 a1 a2 tr th rf = some r) : Runs l D cT yX3_forward cX3_forward 6 (some .int) 4 92 [.ref 0, .int a0, .int a1, .int a2] (cX tr kp th ot tp sl pk rf ik) (EQ (some (.int r.1)) (cX tr kp r.2.1 ot tp sl pk r.2.2 ik)) := by
  refine runs_of O_X3 okO_X3 (by decide +kernel) rfl rfl (Nat.le_of_ble_eq_true rfl) (Nat.le_of_ble_eq_true rfl) (fun g K => ?_)
  have M := K.b
  show g 0 0 (cX tr kp th ot tp sl pk rf ik) 0 [some (.ref 0), some (.int a0), some (.int a1), some (.int a2), none, none] []
  have loop_0 : ∀ (v1 : Int32) (v2 : Int32) (v3 : Int32) (v4 : Int32) (n_ : Nat), (∀ (v5 : Int32) (th : ShT) (rf : AI), f_X3_forward_L0 v1 v2 v3 v4 tr n_ v5 th rf = some r → g 0 0 (cX tr kp th ot tp sl pk rf ik) 69 [some (.ref 0), some (.int v1), some (.int v2), some (.int v3), some (.int v4), some (.int v5)] []) := by
    intro v1 v2 v3 v4 n_
    induction n_ with
    | zero => intro v5 th rf hf; cases hf
    | succ n_ ih =>
      intro v5 th rf hf
      rw [f_X3_forward_L0] at hf
      refine m_run M (is := [(69, .iload 5, 0), (71, .iload 4, 0)]) (pc' := 73) (L' := [some (.ref 0), some (.int v1), some (.int v2), some (.int v3), some (.int v4), some (.int v5)]) (st' := [.int v4, .int v5]) (w' := (cX tr kp th ot tp sl pk rf ik)) (by decide +kernel) rfl trivial ?_
      rcases ite_s hf with ⟨c_101, hf⟩ | ⟨c_101, hf⟩
      · refine m_jT M (i := .if_icmp .gt 47) 120 (by decide +kernel) rfl (by decide) c_101 ?_
        refine m_run M (is := [(120, .iconst (-1), -1)]) (pc' := 121) (L' := [some (.ref 0), some (.int v1), some (.int v2), some (.int v3), some (.int v4), some (.int v5)]) (st' := [.int (-1)]) (w' := (cX tr kp th ot tp sl pk rf ik)) (by decide +kernel) rfl trivial ?_
        obtain rfl := Option.some.inj hf
        exact m_iret K (by decide +kernel) (Nat.zero_le _) (Nat.zero_le _) ⟨rfl, rfl⟩
      · refine m_jF M (i := .if_icmp .gt 47) 120 (by decide +kernel) rfl (by decide) c_101 ?_
        refine m_run M (is := [(76, .aload_n 0, 0), (77, .getfield 19, 0), (80, .aload_n 0, 0), (81, .getfield 10, 0)]) (pc' := 84) (L' := [some (.ref 0), some (.int v1), some (.int v2), some (.int v3), some (.int v4), some (.int v5)]) (st' := [.ref 1, .ref 13]) (w' := (cX tr kp th ot tp sl pk rf ik)) (by decide +kernel) rfl trivial ?_
        obtain ⟨r102, h_102, hf⟩ := bnd_s hf
        refine m_cV0 M (rest := []) (w2 := (cX tr kp r102 ot tp sl pk rf ik)) (st2 := []) (run_X1_become    th tr h_102) cv_X1_become lk_X3_161 (by decide +kernel) [13, 14, 15, 16, 17, 18, 1, 2, 3, 4, 5, 6] (by decide) ⟨Nat.le_of_ble_eq_true rfl, Nat.le_of_ble_eq_true rfl⟩ (hw_0  tr kp th ot tp sl pk rf ik) rfl rfl (Nat.le_of_ble_eq_true rfl) ⟨by decide, by decide⟩ rfl rfl ⟨Nat.zero_le _, Nat.zero_le _⟩ (hp_0  tr kp th ot tp sl pk rf ik r102 tr) rfl ?_
        refine m_run M (is := [(87, .aload_n 0, 0), (88, .getfield 19, 0), (91, .iload_n 1, 0), (92, .iload 4, 0), (94, .iload 5, 0), (96, .isub, 0)]) (pc' := 97) (L' := [some (.ref 0), some (.int v1), some (.int v2), some (.int v3), some (.int v4), some (.int v5)]) (st' := [.int (v4 - v5), .int v1, .ref 13]) (w' := (cX tr kp r102 ot tp sl pk rf ik)) (by decide +kernel) rfl trivial ?_
        obtain ⟨r103, h_103, hf⟩ := bnd_s hf
        refine m_cV0 M (rest := []) (w2 := (cX tr kp r103 ot tp sl pk rf ik)) (st2 := []) (run_X1_move v1 (v4 - v5)   r102 h_103) cv_X1_move lk_X3_245 (by decide +kernel) [13, 14, 15, 16, 17, 18] (by decide) ⟨Nat.le_of_ble_eq_true rfl, Nat.le_of_ble_eq_true rfl⟩ (hw_1  tr kp r102 ot tp sl pk rf ik) rfl rfl (Nat.le_of_ble_eq_true rfl) ⟨by decide, by decide⟩ rfl rfl ⟨Nat.zero_le _, Nat.zero_le _⟩ (hp_1  tr kp r102 ot tp sl pk rf ik r103) rfl ?_
        refine m_run M (is := [(100, .aload_n 0, 0), (101, .iload_n 1, 0), (102, .iload_n 2, 0), (103, .iload_n 3, 0)]) (pc' := 104) (L' := [some (.ref 0), some (.int v1), some (.int v2), some (.int v3), some (.int v4), some (.int v5)]) (st' := [.int v3, .int v2, .int v1, .ref 0]) (w' := (cX tr kp r103 ot tp sl pk rf ik)) (by decide +kernel) rfl trivial ?_
        obtain ⟨r104, h_104, hf⟩ := bnd_s hf
        refine m_cV0 M (rest := []) (w2 := (cX tr kp r104.2 ot tp sl pk rf ik)) (st2 := [.int r104.1]) (run_X3_turnOfServing v1 v2 v3   tr kp r103 ot tp sl pk rf ik h_104) cv_X3_turnOfServing lk_X3_197 (by decide +kernel) (List.range 46) List.nodup_range ⟨(by rw [List.length_range]; exact Nat.le_refl _), Nat.le_of_ble_eq_true rfl⟩ (hwId rfl) rfl rfl (Nat.le_of_ble_eq_true rfl) ⟨by decide, by decide⟩ rfl rfl ⟨Nat.zero_le _, Nat.zero_le _⟩ (hpId rfl rfl) rfl ?_
        refine m_run M (is := [(107, .iconst (-1), -1)]) (pc' := 108) (L' := [some (.ref 0), some (.int v1), some (.int v2), some (.int v3), some (.int v4), some (.int v5)]) (st' := [.int (-1), .int r104.1]) (w' := (cX tr kp r104.2 ot tp sl pk rf ik)) (by decide +kernel) rfl trivial ?_
        rcases ite_s hf with ⟨c_105, hf⟩ | ⟨c_105, hf⟩
        · refine m_jT M (i := .if_icmp .eq 6) 114 (by decide +kernel) rfl (by decide) c_105 ?_
          refine m_run M (is := [(114, .iinc 5 1, 1), (117, .goto (-48), 0)]) (pc' := 69) (L' := [some (.ref 0), some (.int v1), some (.int v2), some (.int v3), some (.int v4), some (.int (v5 + 1))]) (st' := []) (w' := (cX tr kp r104.2 ot tp sl pk rf ik)) (by decide +kernel) rfl trivial ?_
          exact ih (v5 + 1) r104.2 rf hf
        · refine m_jF M (i := .if_icmp .eq 6) 114 (by decide +kernel) rfl (by decide) c_105 ?_
          refine m_run M (is := [(111, .iload 5, 0)]) (pc' := 113) (L' := [some (.ref 0), some (.int v1), some (.int v2), some (.int v3), some (.int v4), some (.int v5)]) (st' := [.int v5]) (w' := (cX tr kp r104.2 ot tp sl pk rf ik)) (by decide +kernel) rfl trivial ?_
          obtain rfl := Option.some.inj hf
          exact m_iret K (by decide +kernel) (Nat.zero_le _) (Nat.zero_le _) ⟨rfl, rfl⟩
  rw [f_X3_forward] at hf
  refine m_run M (is := [(0, .aload_n 0, 0), (1, .getfield 10, 0), (4, .iload_n 1, 0)]) (pc' := 5) (L' := [some (.ref 0), some (.int a0), some (.int a1), some (.int a2), none, none]) (st' := [.int a0, .ref 1]) (w' := (cX tr kp th ot tp sl pk rf ik)) (by decide +kernel) rfl trivial ?_
  obtain ⟨r1001, h_1001, hf⟩ := bnd_s hf
  refine m_cV0 M (rest := []) (w2 := (cX tr kp th ot tp sl pk rf ik)) (st2 := [.int r1001]) (run_X1_hasPerson a0   tr h_1001) cv_X1_hasPerson lk_X3_147 (by decide +kernel) [1, 2, 3, 4, 5, 6] (by decide) ⟨Nat.le_of_ble_eq_true rfl, Nat.le_of_ble_eq_true rfl⟩ (hw_3  tr kp th ot tp sl pk rf ik) rfl rfl (Nat.le_of_ble_eq_true rfl) ⟨by decide, by decide⟩ rfl rfl ⟨Nat.zero_le _, Nat.zero_le _⟩ (hp_3  tr kp th ot tp sl pk rf ik tr) rfl ?_
  rcases ite_s hf with ⟨c_1002, hf⟩ | ⟨c_1002, hf⟩
  · refine m_jT M (i := .ifCond .eq 24) 32 (by decide +kernel) rfl (by decide) c_1002 ?_
    refine m_run M (is := [(32, .aload_n 0, 0), (33, .bipush (-2), -2)]) (pc' := 35) (L' := [some (.ref 0), some (.int a0), some (.int a1), some (.int a2), none, none]) (st' := [.int (-2), .ref 0]) (w' := (cX tr kp th ot tp sl pk rf ik)) (by decide +kernel) rfl trivial ?_
    obtain ⟨r1003, h_1003, hf⟩ := bnd_s hf
    refine m_cV0 M (rest := []) (w2 := (cX tr kp th ot tp sl pk r1003.2 ik)) (st2 := [.int r1003.1]) (run_X3_refuse (-2)   tr kp th ot tp sl pk rf ik h_1003) cv_X3_refuse lk_X3_54 (by decide +kernel) (List.range 46) List.nodup_range ⟨(by rw [List.length_range]; exact Nat.le_refl _), Nat.le_of_ble_eq_true rfl⟩ (hwId rfl) rfl rfl (Nat.le_of_ble_eq_true rfl) ⟨by decide, by decide⟩ rfl rfl ⟨Nat.zero_le _, Nat.zero_le _⟩ (hpId rfl rfl) rfl ?_
    obtain rfl := Option.some.inj hf
    exact m_iret K (by decide +kernel) (Nat.zero_le _) (Nat.zero_le _) ⟨rfl, rfl⟩
  · refine m_jF M (i := .ifCond .eq 24) 32 (by decide +kernel) rfl (by decide) c_1002 ?_
    refine m_run M (is := [(11, .iload_n 2, 0), (12, .iconst 1, 1), (13, .bipush 99, 99)]) (pc' := 15) (L' := [some (.ref 0), some (.int a0), some (.int a1), some (.int a2), none, none]) (st' := [.int 99, .int 1, .int a1]) (w' := (cX tr kp th ot tp sl pk rf ik)) (by decide +kernel) rfl trivial ?_
    obtain ⟨r1004, h_1004, hf⟩ := bnd_s hf
    refine m_cS0 M (rest := []) (w2 := (cX tr kp th ot tp sl pk rf ik)) (st2 := [.int r1004]) (run_X3_isBetween a1 1 99    h_1004) cs_X3_isBetween lk_X3_50 (by decide +kernel) [] (by decide) ⟨Nat.le_of_ble_eq_true rfl, Nat.le_of_ble_eq_true rfl⟩ rfl rfl (Nat.le_of_ble_eq_true rfl) ⟨by decide, by decide⟩ rfl rfl ⟨Nat.zero_le _, Nat.zero_le _⟩ rfl rfl ?_
    rcases ite_s hf with ⟨c_1005, hf⟩ | ⟨c_1005, hf⟩
    · refine m_jT M (i := .ifCond .eq 14) 32 (by decide +kernel) rfl (by decide) c_1005 ?_
      refine m_run M (is := [(32, .aload_n 0, 0), (33, .bipush (-2), -2)]) (pc' := 35) (L' := [some (.ref 0), some (.int a0), some (.int a1), some (.int a2), none, none]) (st' := [.int (-2), .ref 0]) (w' := (cX tr kp th ot tp sl pk rf ik)) (by decide +kernel) rfl trivial ?_
      obtain ⟨r1006, h_1006, hf⟩ := bnd_s hf
      refine m_cV0 M (rest := []) (w2 := (cX tr kp th ot tp sl pk r1006.2 ik)) (st2 := [.int r1006.1]) (run_X3_refuse (-2)   tr kp th ot tp sl pk rf ik h_1006) cv_X3_refuse lk_X3_54 (by decide +kernel) (List.range 46) List.nodup_range ⟨(by rw [List.length_range]; exact Nat.le_refl _), Nat.le_of_ble_eq_true rfl⟩ (hwId rfl) rfl rfl (Nat.le_of_ble_eq_true rfl) ⟨by decide, by decide⟩ rfl rfl ⟨Nat.zero_le _, Nat.zero_le _⟩ (hpId rfl rfl) rfl ?_
      obtain rfl := Option.some.inj hf
      exact m_iret K (by decide +kernel) (Nat.zero_le _) (Nat.zero_le _) ⟨rfl, rfl⟩
    · refine m_jF M (i := .ifCond .eq 14) 32 (by decide +kernel) rfl (by decide) c_1005 ?_
      refine m_run M (is := [(21, .iload_n 3, 0), (22, .iconst 0, 0), (23, .sipush 999, 999)]) (pc' := 26) (L' := [some (.ref 0), some (.int a0), some (.int a1), some (.int a2), none, none]) (st' := [.int 999, .int 0, .int a2]) (w' := (cX tr kp th ot tp sl pk rf ik)) (by decide +kernel) rfl trivial ?_
      obtain ⟨r1007, h_1007, hf⟩ := bnd_s hf
      refine m_cS0 M (rest := []) (w2 := (cX tr kp th ot tp sl pk rf ik)) (st2 := [.int r1007]) (run_X3_isBetween a2 0 999    h_1007) cs_X3_isBetween lk_X3_50 (by decide +kernel) [] (by decide) ⟨Nat.le_of_ble_eq_true rfl, Nat.le_of_ble_eq_true rfl⟩ rfl rfl (Nat.le_of_ble_eq_true rfl) ⟨by decide, by decide⟩ rfl rfl ⟨Nat.zero_le _, Nat.zero_le _⟩ rfl rfl ?_
      rcases ite_s hf with ⟨c_1008, hf⟩ | ⟨c_1008, hf⟩
      · refine m_jF M (i := .ifCond .ne 10) 39 (by decide +kernel) rfl (by decide) (fun n => n c_1008) ?_
        refine m_run M (is := [(32, .aload_n 0, 0), (33, .bipush (-2), -2)]) (pc' := 35) (L' := [some (.ref 0), some (.int a0), some (.int a1), some (.int a2), none, none]) (st' := [.int (-2), .ref 0]) (w' := (cX tr kp th ot tp sl pk rf ik)) (by decide +kernel) rfl trivial ?_
        obtain ⟨r1009, h_1009, hf⟩ := bnd_s hf
        refine m_cV0 M (rest := []) (w2 := (cX tr kp th ot tp sl pk r1009.2 ik)) (st2 := [.int r1009.1]) (run_X3_refuse (-2)   tr kp th ot tp sl pk rf ik h_1009) cv_X3_refuse lk_X3_54 (by decide +kernel) (List.range 46) List.nodup_range ⟨(by rw [List.length_range]; exact Nat.le_refl _), Nat.le_of_ble_eq_true rfl⟩ (hwId rfl) rfl rfl (Nat.le_of_ble_eq_true rfl) ⟨by decide, by decide⟩ rfl rfl ⟨Nat.zero_le _, Nat.zero_le _⟩ (hpId rfl rfl) rfl ?_
        obtain rfl := Option.some.inj hf
        exact m_iret K (by decide +kernel) (Nat.zero_le _) (Nat.zero_le _) ⟨rfl, rfl⟩
      · refine m_jT M (i := .ifCond .ne 10) 39 (by decide +kernel) rfl (by decide) c_1008 ?_
        refine m_run M (is := [(39, .aload_n 0, 0), (40, .getfield 10, 0)]) (pc' := 43) (L' := [some (.ref 0), some (.int a0), some (.int a1), some (.int a2), none, none]) (st' := [.ref 1]) (w' := (cX tr kp th ot tp sl pk rf ik)) (by decide +kernel) rfl trivial ?_
        obtain ⟨r1010, h_1010, hf⟩ := bnd_s hf
        refine m_cV0 M (rest := []) (w2 := (cX tr kp th ot tp sl pk rf ik)) (st2 := [.int r1010]) (run_X1_isLawless    tr h_1010) cv_X1_isLawless lk_X3_181 (by decide +kernel) [1, 2, 3, 4, 5, 6] (by decide) ⟨Nat.le_of_ble_eq_true rfl, Nat.le_of_ble_eq_true rfl⟩ (hw_3  tr kp th ot tp sl pk rf ik) rfl rfl (Nat.le_of_ble_eq_true rfl) ⟨by decide, by decide⟩ rfl rfl ⟨Nat.zero_le _, Nat.zero_le _⟩ (hp_3  tr kp th ot tp sl pk rf ik tr) rfl ?_
        rcases ite_s hf with ⟨c_1011, hf⟩ | ⟨c_1011, hf⟩
        · refine m_jT M (i := .ifCond .eq 10) 56 (by decide +kernel) rfl (by decide) c_1011 ?_
          refine m_run M (is := [(56, .aload_n 0, 0), (57, .getfield 10, 0), (60, .iload_n 1, 0)]) (pc' := 61) (L' := [some (.ref 0), some (.int a0), some (.int a1), some (.int a2), none, none]) (st' := [.int a0, .ref 1]) (w' := (cX tr kp th ot tp sl pk rf ik)) (by decide +kernel) rfl trivial ?_
          obtain ⟨r1012, h_1012, hf⟩ := bnd_s hf
          refine m_cV0 M (rest := []) (w2 := (cX tr kp th ot tp sl pk rf ik)) (st2 := [.int r1012]) (run_X1_placeOf a0   tr h_1012) cv_X1_placeOf lk_X3_207 (by decide +kernel) [1, 2, 3, 4, 5, 6] (by decide) ⟨Nat.le_of_ble_eq_true rfl, Nat.le_of_ble_eq_true rfl⟩ (hw_3  tr kp th ot tp sl pk rf ik) rfl rfl (Nat.le_of_ble_eq_true rfl) ⟨by decide, by decide⟩ rfl rfl ⟨Nat.zero_le _, Nat.zero_le _⟩ (hp_3  tr kp th ot tp sl pk rf ik tr) rfl ?_
          refine m_run M (is := [(64, .istore 4, 0), (66, .iconst 0, 0), (67, .istore 5, 0)]) (pc' := 69) (L' := [some (.ref 0), some (.int a0), some (.int a1), some (.int a2), some (.int r1012), some (.int 0)]) (st' := []) (w' := (cX tr kp th ot tp sl pk rf ik)) (by decide +kernel) rfl trivial ?_
          exact loop_0 a0 a1 a2 r1012 fuel0 0 th rf hf
        · refine m_jF M (i := .ifCond .eq 10) 56 (by decide +kernel) rfl (by decide) c_1011 ?_
          refine m_run M (is := [(49, .aload_n 0, 0), (50, .bipush (-5), -5)]) (pc' := 52) (L' := [some (.ref 0), some (.int a0), some (.int a1), some (.int a2), none, none]) (st' := [.int (-5), .ref 0]) (w' := (cX tr kp th ot tp sl pk rf ik)) (by decide +kernel) rfl trivial ?_
          obtain ⟨r1013, h_1013, hf⟩ := bnd_s hf
          refine m_cV0 M (rest := []) (w2 := (cX tr kp th ot tp sl pk r1013.2 ik)) (st2 := [.int r1013.1]) (run_X3_refuse (-5)   tr kp th ot tp sl pk rf ik h_1013) cv_X3_refuse lk_X3_54 (by decide +kernel) (List.range 46) List.nodup_range ⟨(by rw [List.length_range]; exact Nat.le_refl _), Nat.le_of_ble_eq_true rfl⟩ (hwId rfl) rfl rfl (Nat.le_of_ble_eq_true rfl) ⟨by decide, by decide⟩ rfl rfl ⟨Nat.zero_le _, Nat.zero_le _⟩ (hpId rfl rfl) rfl ?_
          obtain rfl := Option.some.inj hf
          exact m_iret K (by decide +kernel) (Nat.zero_le _) (Nat.zero_le _) ⟨rfl, rfl⟩

def f_X3_level_L0 (tr : ShT) : Nat → Int32 → ShT → AI → Option (Int32 × ShT × AI)
  | 0, _, _, _ => none
  | n_ + 1, v2, th, rf =>
    if 999 < v2 then
      some ((-1), th, rf)
    else
      (f_X1_turn th).bind fun r102 =>
      (f_X1_countsApart r102.2).bind fun r103 =>
      if r103 = 0 then
        some (v2, r102.2, rf)
      else
        f_X3_level_L0 tr n_ (v2 + 1) r102.2 rf
def f_X3_level (a0 : Int32) (tr : ShT) (th : ShT) (rf : AI) : Option (Int32 × ShT × AI) :=
  (f_X1_hasLaw a0 tr).bind fun r1001 =>
  if r1001 = 0 then
    (f_X3_refuse (-2) rf).bind fun r1003 =>
    some (r1003.1, th, r1003.2)
  else
    (f_X1_isEmpty tr).bind fun r1004 =>
    if r1004 = 0 then
      (f_X3_thinkBy a0 tr th).bind fun r1006 =>
      (f_X1_startAnew r1006).bind fun r1007 =>
      f_X3_level_L0 tr fuel0 1 r1007 rf
    else
      (f_X3_refuse (-5) rf).bind fun r1008 =>
      some (r1008.1, th, r1008.2)
set_option maxRecDepth 100000 in
set_option maxHeartbeats 4000000 in
theorem run_X3_level {l : Launch} {D : va_G} {cT : Nat → ClassId} (a0 : Int32)   (tr : ShT) (kp : ShT) (th : ShT) (ot : ShT) (tp : TpT) (sl : (Nat → SlT)) (pk : AI) (rf : AI) (ik : Int32) {r : Int32 × ShT × AI} (hf : f_X3_level a0 tr th rf = some r) : Runs l D cT yX3_level cX3_level 3 (some .int) 3 67 [.ref 0, .int a0] (cX tr kp th ot tp sl pk rf ik) (EQ (some (.int r.1)) (cX tr kp r.2.1 ot tp sl pk r.2.2 ik)) := by
  refine runs_of O_X3 okO_X3 (by decide +kernel) rfl rfl (Nat.le_of_ble_eq_true rfl) (Nat.le_of_ble_eq_true rfl) (fun g K => ?_)
  have M := K.b
  show g 0 0 (cX tr kp th ot tp sl pk rf ik) 0 [some (.ref 0), some (.int a0), none] []
  have loop_0 : ∀ (n_ : Nat), (∀ (v2 : Int32) (th : ShT) (rf : AI), f_X3_level_L0 tr n_ v2 th rf = some r → g 0 0 (cX tr kp th ot tp sl pk rf ik) 49 [some (.ref 0), none, some (.int v2)] []) := by
    intro n_
    induction n_ with
    | zero => intro v2 th rf hf; cases hf
    | succ n_ ih =>
      intro v2 th rf hf
      rw [f_X3_level_L0] at hf
      refine m_run M (is := [(49, .iload_n 2, 0), (50, .sipush 999, 999)]) (pc' := 53) (L' := [some (.ref 0), none, some (.int v2)]) (st' := [.int 999, .int v2]) (w' := (cX tr kp th ot tp sl pk rf ik)) (by decide +kernel) rfl trivial ?_
      rcases ite_s hf with ⟨c_101, hf⟩ | ⟨c_101, hf⟩
      · refine m_jT M (i := .if_icmp .gt 29) 82 (by decide +kernel) rfl (by decide) c_101 ?_
        refine m_run M (is := [(82, .iconst (-1), -1)]) (pc' := 83) (L' := [some (.ref 0), none, some (.int v2)]) (st' := [.int (-1)]) (w' := (cX tr kp th ot tp sl pk rf ik)) (by decide +kernel) rfl trivial ?_
        obtain rfl := Option.some.inj hf
        exact m_iret K (by decide +kernel) (Nat.zero_le _) (Nat.zero_le _) ⟨rfl, rfl⟩
      · refine m_jF M (i := .if_icmp .gt 29) 82 (by decide +kernel) rfl (by decide) c_101 ?_
        refine m_run M (is := [(56, .aload_n 0, 0), (57, .getfield 19, 0)]) (pc' := 60) (L' := [some (.ref 0), none, some (.int v2)]) (st' := [.ref 13]) (w' := (cX tr kp th ot tp sl pk rf ik)) (by decide +kernel) rfl trivial ?_
        obtain ⟨r102, h_102, hf⟩ := bnd_s hf
        refine m_cV0 M (rest := []) (w2 := (cX tr kp r102.2 ot tp sl pk rf ik)) (st2 := [.int r102.1]) (run_X1_turn    th h_102) cv_X1_turn lk_X3_190 (by decide +kernel) [13, 14, 15, 16, 17, 18] (by decide) ⟨Nat.le_of_ble_eq_true rfl, Nat.le_of_ble_eq_true rfl⟩ (hw_1  tr kp th ot tp sl pk rf ik) rfl rfl (Nat.le_of_ble_eq_true rfl) ⟨by decide, by decide⟩ rfl rfl ⟨Nat.zero_le _, Nat.zero_le _⟩ (hp_1  tr kp th ot tp sl pk rf ik r102.2) rfl ?_
        refine m_run M (is := [(63, .pop, 0), (64, .aload_n 0, 0), (65, .getfield 19, 0)]) (pc' := 68) (L' := [some (.ref 0), none, some (.int v2)]) (st' := [.ref 13]) (w' := (cX tr kp r102.2 ot tp sl pk rf ik)) (by decide +kernel) rfl trivial ?_
        obtain ⟨r103, h_103, hf⟩ := bnd_s hf
        refine m_cV0 M (rest := []) (w2 := (cX tr kp r102.2 ot tp sl pk rf ik)) (st2 := [.int r103]) (run_X1_countsApart    r102.2 h_103) cv_X1_countsApart lk_X3_248 (by decide +kernel) [13, 14, 15, 16, 17, 18] (by decide) ⟨Nat.le_of_ble_eq_true rfl, Nat.le_of_ble_eq_true rfl⟩ (hw_1  tr kp r102.2 ot tp sl pk rf ik) rfl rfl (Nat.le_of_ble_eq_true rfl) ⟨by decide, by decide⟩ rfl rfl ⟨Nat.zero_le _, Nat.zero_le _⟩ (hp_1  tr kp r102.2 ot tp sl pk rf ik r102.2) rfl ?_
        rcases ite_s hf with ⟨c_104, hf⟩ | ⟨c_104, hf⟩
        · refine m_jF M (i := .ifCond .ne 5) 76 (by decide +kernel) rfl (by decide) (fun n => n c_104) ?_
          refine m_run M (is := [(74, .iload_n 2, 0)]) (pc' := 75) (L' := [some (.ref 0), none, some (.int v2)]) (st' := [.int v2]) (w' := (cX tr kp r102.2 ot tp sl pk rf ik)) (by decide +kernel) rfl trivial ?_
          obtain rfl := Option.some.inj hf
          exact m_iret K (by decide +kernel) (Nat.zero_le _) (Nat.zero_le _) ⟨rfl, rfl⟩
        · refine m_jT M (i := .ifCond .ne 5) 76 (by decide +kernel) rfl (by decide) c_104 ?_
          refine m_run M (is := [(76, .iinc 2 1, 1), (79, .goto (-30), 0)]) (pc' := 49) (L' := [some (.ref 0), none, some (.int (v2 + 1))]) (st' := []) (w' := (cX tr kp r102.2 ot tp sl pk rf ik)) (by decide +kernel) rfl trivial ?_
          exact ih (v2 + 1) r102.2 rf hf
  rw [f_X3_level] at hf
  refine m_run M (is := [(0, .aload_n 0, 0), (1, .getfield 10, 0), (4, .iload_n 1, 0)]) (pc' := 5) (L' := [some (.ref 0), some (.int a0), none]) (st' := [.int a0, .ref 1]) (w' := (cX tr kp th ot tp sl pk rf ik)) (by decide +kernel) rfl trivial ?_
  obtain ⟨r1001, h_1001, hf⟩ := bnd_s hf
  refine m_cV0 M (rest := []) (w2 := (cX tr kp th ot tp sl pk rf ik)) (st2 := [.int r1001]) (run_X1_hasLaw a0   tr h_1001) cv_X1_hasLaw lk_X3_102 (by decide +kernel) [1, 2, 3, 4, 5, 6] (by decide) ⟨Nat.le_of_ble_eq_true rfl, Nat.le_of_ble_eq_true rfl⟩ (hw_3  tr kp th ot tp sl pk rf ik) rfl rfl (Nat.le_of_ble_eq_true rfl) ⟨by decide, by decide⟩ rfl rfl ⟨Nat.zero_le _, Nat.zero_le _⟩ (hp_3  tr kp th ot tp sl pk rf ik tr) rfl ?_
  rcases ite_s hf with ⟨c_1002, hf⟩ | ⟨c_1002, hf⟩
  · refine m_jF M (i := .ifCond .ne 10) 18 (by decide +kernel) rfl (by decide) (fun n => n c_1002) ?_
    refine m_run M (is := [(11, .aload_n 0, 0), (12, .bipush (-2), -2)]) (pc' := 14) (L' := [some (.ref 0), some (.int a0), none]) (st' := [.int (-2), .ref 0]) (w' := (cX tr kp th ot tp sl pk rf ik)) (by decide +kernel) rfl trivial ?_
    obtain ⟨r1003, h_1003, hf⟩ := bnd_s hf
    refine m_cV0 M (rest := []) (w2 := (cX tr kp th ot tp sl pk r1003.2 ik)) (st2 := [.int r1003.1]) (run_X3_refuse (-2)   tr kp th ot tp sl pk rf ik h_1003) cv_X3_refuse lk_X3_54 (by decide +kernel) (List.range 46) List.nodup_range ⟨(by rw [List.length_range]; exact Nat.le_refl _), Nat.le_of_ble_eq_true rfl⟩ (hwId rfl) rfl rfl (Nat.le_of_ble_eq_true rfl) ⟨by decide, by decide⟩ rfl rfl ⟨Nat.zero_le _, Nat.zero_le _⟩ (hpId rfl rfl) rfl ?_
    obtain rfl := Option.some.inj hf
    exact m_iret K (by decide +kernel) (Nat.zero_le _) (Nat.zero_le _) ⟨rfl, rfl⟩
  · refine m_jT M (i := .ifCond .ne 10) 18 (by decide +kernel) rfl (by decide) c_1002 ?_
    refine m_run M (is := [(18, .aload_n 0, 0), (19, .getfield 10, 0)]) (pc' := 22) (L' := [some (.ref 0), some (.int a0), none]) (st' := [.ref 1]) (w' := (cX tr kp th ot tp sl pk rf ik)) (by decide +kernel) rfl trivial ?_
    obtain ⟨r1004, h_1004, hf⟩ := bnd_s hf
    refine m_cV0 M (rest := []) (w2 := (cX tr kp th ot tp sl pk rf ik)) (st2 := [.int r1004]) (run_X1_isEmpty    tr h_1004) cv_X1_isEmpty lk_X3_236 (by decide +kernel) [1, 2, 3, 4, 5, 6] (by decide) ⟨Nat.le_of_ble_eq_true rfl, Nat.le_of_ble_eq_true rfl⟩ (hw_3  tr kp th ot tp sl pk rf ik) rfl rfl (Nat.le_of_ble_eq_true rfl) ⟨by decide, by decide⟩ rfl rfl ⟨Nat.zero_le _, Nat.zero_le _⟩ (hp_3  tr kp th ot tp sl pk rf ik tr) rfl ?_
    rcases ite_s hf with ⟨c_1005, hf⟩ | ⟨c_1005, hf⟩
    · refine m_jT M (i := .ifCond .eq 10) 35 (by decide +kernel) rfl (by decide) c_1005 ?_
      refine m_run M (is := [(35, .aload_n 0, 0), (36, .iload_n 1, 0)]) (pc' := 37) (L' := [some (.ref 0), some (.int a0), none]) (st' := [.int a0, .ref 0]) (w' := (cX tr kp th ot tp sl pk rf ik)) (by decide +kernel) rfl trivial ?_
      obtain ⟨r1006, h_1006, hf⟩ := bnd_s hf
      refine m_cV0 M (rest := []) (w2 := (cX tr kp r1006 ot tp sl pk rf ik)) (st2 := []) (run_X3_thinkBy a0   tr kp th ot tp sl pk rf ik h_1006) cv_X3_thinkBy lk_X3_239 (by decide +kernel) (List.range 46) List.nodup_range ⟨(by rw [List.length_range]; exact Nat.le_refl _), Nat.le_of_ble_eq_true rfl⟩ (hwId rfl) rfl rfl (Nat.le_of_ble_eq_true rfl) ⟨by decide, by decide⟩ rfl rfl ⟨Nat.zero_le _, Nat.zero_le _⟩ (hpId rfl rfl) rfl ?_
      refine m_run M (is := [(40, .aload_n 0, 0), (41, .getfield 19, 0)]) (pc' := 44) (L' := [some (.ref 0), some (.int a0), none]) (st' := [.ref 13]) (w' := (cX tr kp r1006 ot tp sl pk rf ik)) (by decide +kernel) rfl trivial ?_
      obtain ⟨r1007, h_1007, hf⟩ := bnd_s hf
      refine m_cV0 M (rest := []) (w2 := (cX tr kp r1007 ot tp sl pk rf ik)) (st2 := []) (run_X1_startAnew    r1006 h_1007) cv_X1_startAnew lk_X3_210 (by decide +kernel) [13, 14, 15, 16, 17, 18] (by decide) ⟨Nat.le_of_ble_eq_true rfl, Nat.le_of_ble_eq_true rfl⟩ (hw_1  tr kp r1006 ot tp sl pk rf ik) rfl rfl (Nat.le_of_ble_eq_true rfl) ⟨by decide, by decide⟩ rfl rfl ⟨Nat.zero_le _, Nat.zero_le _⟩ (hp_1  tr kp r1006 ot tp sl pk rf ik r1007) rfl ?_
      refine m_run M (is := [(47, .iconst 1, 1), (48, .istore_n 2, 0)]) (pc' := 49) (L' := [some (.ref 0), some (.int a0), some (.int 1)]) (st' := []) (w' := (cX tr kp r1007 ot tp sl pk rf ik)) (by decide +kernel) rfl trivial ?_
      refine m_wk M [some (.ref 0), none, some (.int 1)] ⟨Or.inr rfl, Or.inl rfl, Or.inr rfl, trivial⟩ ?_
      exact loop_0 fuel0 1 r1007 rf hf
    · refine m_jF M (i := .ifCond .eq 10) 35 (by decide +kernel) rfl (by decide) c_1005 ?_
      refine m_run M (is := [(28, .aload_n 0, 0), (29, .bipush (-5), -5)]) (pc' := 31) (L' := [some (.ref 0), some (.int a0), none]) (st' := [.int (-5), .ref 0]) (w' := (cX tr kp th ot tp sl pk rf ik)) (by decide +kernel) rfl trivial ?_
      obtain ⟨r1008, h_1008, hf⟩ := bnd_s hf
      refine m_cV0 M (rest := []) (w2 := (cX tr kp th ot tp sl pk r1008.2 ik)) (st2 := [.int r1008.1]) (run_X3_refuse (-5)   tr kp th ot tp sl pk rf ik h_1008) cv_X3_refuse lk_X3_54 (by decide +kernel) (List.range 46) List.nodup_range ⟨(by rw [List.length_range]; exact Nat.le_refl _), Nat.le_of_ble_eq_true rfl⟩ (hwId rfl) rfl rfl (Nat.le_of_ble_eq_true rfl) ⟨by decide, by decide⟩ rfl rfl ⟨Nat.zero_le _, Nat.zero_le _⟩ (hpId rfl rfl) rfl ?_
      obtain rfl := Option.some.inj hf
      exact m_iret K (by decide +kernel) (Nat.zero_le _) (Nat.zero_le _) ⟨rfl, rfl⟩

def f_X3_spread (a0 : Int32) (a1 : Int32) (tr : ShT) (th : ShT) (rf : AI) : Option (Int32 × ShT × AI) :=
  (f_X1_hasLaw a0 tr).bind fun r1001 =>
  if r1001 = 0 then
    (f_X3_refuse (-2) rf).bind fun r1003 =>
    some (r1003.1, th, r1003.2)
  else
    (f_X3_isBetween a1 0 999).bind fun r1004 =>
    if r1004 = 0 then
      (f_X3_refuse (-2) rf).bind fun r1006 =>
      some (r1006.1, th, r1006.2)
    else
      (f_X1_isEmpty tr).bind fun r1007 =>
      if r1007 = 0 then
        (f_X3_spreadBy a0 a1 tr th).bind fun r1009 =>
        some (r1009.1, r1009.2, rf)
      else
        (f_X3_refuse (-5) rf).bind fun r1010 =>
        some (r1010.1, th, r1010.2)
set_option maxRecDepth 100000 in
set_option maxHeartbeats 4000000 in
theorem run_X3_spread {l : Launch} {D : va_G} {cT : Nat → ClassId} (a0 : Int32) (a1 : Int32)   (tr : ShT) (kp : ShT) (th : ShT) (ot : ShT) (tp : TpT) (sl : (Nat → SlT)) (pk : AI) (rf : AI) (ik : Int32) {r : Int32 × ShT × AI} (hf : f_X3_spread a0 a1 tr th rf = some r) : Runs l D cT yX3_spread cX3_spread 3 (some .int) 5 111 [.ref 0, .int a0, .int a1] (cX tr kp th ot tp sl pk rf ik) (EQ (some (.int r.1)) (cX tr kp r.2.1 ot tp sl pk r.2.2 ik)) := by
  refine runs_of O_X3 okO_X3 (by decide +kernel) rfl rfl (Nat.le_of_ble_eq_true rfl) (Nat.le_of_ble_eq_true rfl) (fun g K => ?_)
  have M := K.b
  show g 0 0 (cX tr kp th ot tp sl pk rf ik) 0 [some (.ref 0), some (.int a0), some (.int a1)] []
  rw [f_X3_spread] at hf
  refine m_run M (is := [(0, .aload_n 0, 0), (1, .getfield 10, 0), (4, .iload_n 1, 0)]) (pc' := 5) (L' := [some (.ref 0), some (.int a0), some (.int a1)]) (st' := [.int a0, .ref 1]) (w' := (cX tr kp th ot tp sl pk rf ik)) (by decide +kernel) rfl trivial ?_
  obtain ⟨r1001, h_1001, hf⟩ := bnd_s hf
  refine m_cV0 M (rest := []) (w2 := (cX tr kp th ot tp sl pk rf ik)) (st2 := [.int r1001]) (run_X1_hasLaw a0   tr h_1001) cv_X1_hasLaw lk_X3_102 (by decide +kernel) [1, 2, 3, 4, 5, 6] (by decide) ⟨Nat.le_of_ble_eq_true rfl, Nat.le_of_ble_eq_true rfl⟩ (hw_3  tr kp th ot tp sl pk rf ik) rfl rfl (Nat.le_of_ble_eq_true rfl) ⟨by decide, by decide⟩ rfl rfl ⟨Nat.zero_le _, Nat.zero_le _⟩ (hp_3  tr kp th ot tp sl pk rf ik tr) rfl ?_
  rcases ite_s hf with ⟨c_1002, hf⟩ | ⟨c_1002, hf⟩
  · refine m_jT M (i := .ifCond .eq 14) 22 (by decide +kernel) rfl (by decide) c_1002 ?_
    refine m_run M (is := [(22, .aload_n 0, 0), (23, .bipush (-2), -2)]) (pc' := 25) (L' := [some (.ref 0), some (.int a0), some (.int a1)]) (st' := [.int (-2), .ref 0]) (w' := (cX tr kp th ot tp sl pk rf ik)) (by decide +kernel) rfl trivial ?_
    obtain ⟨r1003, h_1003, hf⟩ := bnd_s hf
    refine m_cV0 M (rest := []) (w2 := (cX tr kp th ot tp sl pk r1003.2 ik)) (st2 := [.int r1003.1]) (run_X3_refuse (-2)   tr kp th ot tp sl pk rf ik h_1003) cv_X3_refuse lk_X3_54 (by decide +kernel) (List.range 46) List.nodup_range ⟨(by rw [List.length_range]; exact Nat.le_refl _), Nat.le_of_ble_eq_true rfl⟩ (hwId rfl) rfl rfl (Nat.le_of_ble_eq_true rfl) ⟨by decide, by decide⟩ rfl rfl ⟨Nat.zero_le _, Nat.zero_le _⟩ (hpId rfl rfl) rfl ?_
    obtain rfl := Option.some.inj hf
    exact m_iret K (by decide +kernel) (Nat.zero_le _) (Nat.zero_le _) ⟨rfl, rfl⟩
  · refine m_jF M (i := .ifCond .eq 14) 22 (by decide +kernel) rfl (by decide) c_1002 ?_
    refine m_run M (is := [(11, .iload_n 2, 0), (12, .iconst 0, 0), (13, .sipush 999, 999)]) (pc' := 16) (L' := [some (.ref 0), some (.int a0), some (.int a1)]) (st' := [.int 999, .int 0, .int a1]) (w' := (cX tr kp th ot tp sl pk rf ik)) (by decide +kernel) rfl trivial ?_
    obtain ⟨r1004, h_1004, hf⟩ := bnd_s hf
    refine m_cS0 M (rest := []) (w2 := (cX tr kp th ot tp sl pk rf ik)) (st2 := [.int r1004]) (run_X3_isBetween a1 0 999    h_1004) cs_X3_isBetween lk_X3_50 (by decide +kernel) [] (by decide) ⟨Nat.le_of_ble_eq_true rfl, Nat.le_of_ble_eq_true rfl⟩ rfl rfl (Nat.le_of_ble_eq_true rfl) ⟨by decide, by decide⟩ rfl rfl ⟨Nat.zero_le _, Nat.zero_le _⟩ rfl rfl ?_
    rcases ite_s hf with ⟨c_1005, hf⟩ | ⟨c_1005, hf⟩
    · refine m_jF M (i := .ifCond .ne 10) 29 (by decide +kernel) rfl (by decide) (fun n => n c_1005) ?_
      refine m_run M (is := [(22, .aload_n 0, 0), (23, .bipush (-2), -2)]) (pc' := 25) (L' := [some (.ref 0), some (.int a0), some (.int a1)]) (st' := [.int (-2), .ref 0]) (w' := (cX tr kp th ot tp sl pk rf ik)) (by decide +kernel) rfl trivial ?_
      obtain ⟨r1006, h_1006, hf⟩ := bnd_s hf
      refine m_cV0 M (rest := []) (w2 := (cX tr kp th ot tp sl pk r1006.2 ik)) (st2 := [.int r1006.1]) (run_X3_refuse (-2)   tr kp th ot tp sl pk rf ik h_1006) cv_X3_refuse lk_X3_54 (by decide +kernel) (List.range 46) List.nodup_range ⟨(by rw [List.length_range]; exact Nat.le_refl _), Nat.le_of_ble_eq_true rfl⟩ (hwId rfl) rfl rfl (Nat.le_of_ble_eq_true rfl) ⟨by decide, by decide⟩ rfl rfl ⟨Nat.zero_le _, Nat.zero_le _⟩ (hpId rfl rfl) rfl ?_
      obtain rfl := Option.some.inj hf
      exact m_iret K (by decide +kernel) (Nat.zero_le _) (Nat.zero_le _) ⟨rfl, rfl⟩
    · refine m_jT M (i := .ifCond .ne 10) 29 (by decide +kernel) rfl (by decide) c_1005 ?_
      refine m_run M (is := [(29, .aload_n 0, 0), (30, .getfield 10, 0)]) (pc' := 33) (L' := [some (.ref 0), some (.int a0), some (.int a1)]) (st' := [.ref 1]) (w' := (cX tr kp th ot tp sl pk rf ik)) (by decide +kernel) rfl trivial ?_
      obtain ⟨r1007, h_1007, hf⟩ := bnd_s hf
      refine m_cV0 M (rest := []) (w2 := (cX tr kp th ot tp sl pk rf ik)) (st2 := [.int r1007]) (run_X1_isEmpty    tr h_1007) cv_X1_isEmpty lk_X3_236 (by decide +kernel) [1, 2, 3, 4, 5, 6] (by decide) ⟨Nat.le_of_ble_eq_true rfl, Nat.le_of_ble_eq_true rfl⟩ (hw_3  tr kp th ot tp sl pk rf ik) rfl rfl (Nat.le_of_ble_eq_true rfl) ⟨by decide, by decide⟩ rfl rfl ⟨Nat.zero_le _, Nat.zero_le _⟩ (hp_3  tr kp th ot tp sl pk rf ik tr) rfl ?_
      rcases ite_s hf with ⟨c_1008, hf⟩ | ⟨c_1008, hf⟩
      · refine m_jT M (i := .ifCond .eq 12) 48 (by decide +kernel) rfl (by decide) c_1008 ?_
        refine m_run M (is := [(48, .aload_n 0, 0), (49, .iload_n 1, 0), (50, .iload_n 2, 0)]) (pc' := 51) (L' := [some (.ref 0), some (.int a0), some (.int a1)]) (st' := [.int a1, .int a0, .ref 0]) (w' := (cX tr kp th ot tp sl pk rf ik)) (by decide +kernel) rfl trivial ?_
        obtain ⟨r1009, h_1009, hf⟩ := bnd_s hf
        refine m_cV0 M (rest := []) (w2 := (cX tr kp r1009.2 ot tp sl pk rf ik)) (st2 := [.int r1009.1]) (run_X3_spreadBy a0 a1   tr kp th ot tp sl pk rf ik h_1009) cv_X3_spreadBy lk_X3_251 (by decide +kernel) (List.range 46) List.nodup_range ⟨(by rw [List.length_range]; exact Nat.le_refl _), Nat.le_of_ble_eq_true rfl⟩ (hwId rfl) rfl rfl (Nat.le_of_ble_eq_true rfl) ⟨by decide, by decide⟩ rfl rfl ⟨Nat.zero_le _, Nat.zero_le _⟩ (hpId rfl rfl) rfl ?_
        obtain rfl := Option.some.inj hf
        exact m_iret K (by decide +kernel) (Nat.zero_le _) (Nat.zero_le _) ⟨rfl, rfl⟩
      · refine m_jF M (i := .ifCond .eq 12) 48 (by decide +kernel) rfl (by decide) c_1008 ?_
        refine m_run M (is := [(39, .aload_n 0, 0), (40, .bipush (-5), -5)]) (pc' := 42) (L' := [some (.ref 0), some (.int a0), some (.int a1)]) (st' := [.int (-5), .ref 0]) (w' := (cX tr kp th ot tp sl pk rf ik)) (by decide +kernel) rfl trivial ?_
        obtain ⟨r1010, h_1010, hf⟩ := bnd_s hf
        refine m_cV0 M (rest := []) (w2 := (cX tr kp th ot tp sl pk r1010.2 ik)) (st2 := [.int r1010.1]) (run_X3_refuse (-5)   tr kp th ot tp sl pk rf ik h_1010) cv_X3_refuse lk_X3_54 (by decide +kernel) (List.range 46) List.nodup_range ⟨(by rw [List.length_range]; exact Nat.le_refl _), Nat.le_of_ble_eq_true rfl⟩ (hwId rfl) rfl rfl (Nat.le_of_ble_eq_true rfl) ⟨by decide, by decide⟩ rfl rfl ⟨Nat.zero_le _, Nat.zero_le _⟩ (hpId rfl rfl) rfl ?_
        refine m_run M (is := [(45, .goto 9, 0)]) (pc' := 54) (L' := [some (.ref 0), some (.int a0), some (.int a1)]) (st' := [.int r1010.1]) (w' := (cX tr kp th ot tp sl pk r1010.2 ik)) (by decide +kernel) rfl trivial ?_
        obtain rfl := Option.some.inj hf
        exact m_iret K (by decide +kernel) (Nat.zero_le _) (Nat.zero_le _) ⟨rfl, rfl⟩

def f_X3_fairest_L0 (v1 : Int32) (tr : ShT) : Nat → Int32 → Int32 → Int32 → ShT → AI → Option (Int32 × ShT × AI)
  | 0, _, _, _, _, _ => none
  | n_ + 1, v2, v3, v4, th, rf =>
    if tr.2.2.2.2.2.2.1 ≤ v4 then
      some (v2, th, rf)
    else
      (f_X3_spreadBy v4 v1 tr th).bind fun r102 =>
      if v3 ≤ r102.1 then
        f_X3_fairest_L0 v1 tr n_ v2 v3 (v4 + 1) r102.2 rf
      else
        f_X3_fairest_L0 v1 tr n_ v4 r102.1 (v4 + 1) r102.2 rf
def f_X3_fairest (a0 : Int32) (tr : ShT) (th : ShT) (rf : AI) : Option (Int32 × ShT × AI) :=
  (f_X3_isBetween a0 0 999).bind fun r1001 =>
  if r1001 = 0 then
    (f_X3_refuse (-2) rf).bind fun r1003 =>
    some (r1003.1, th, r1003.2)
  else
    (f_X1_isStuck tr).bind fun r1004 =>
    if r1004 = 0 then
      (f_X3_spreadBy 0 a0 tr th).bind fun r1006 =>
      f_X3_fairest_L0 a0 tr fuel0 0 r1006.1 1 r1006.2 rf
    else
      (f_X3_refuse (-5) rf).bind fun r1007 =>
      some (r1007.1, th, r1007.2)
set_option maxRecDepth 100000 in
set_option maxHeartbeats 4000000 in
theorem run_X3_fairest {l : Launch} {D : va_G} {cT : Nat → ClassId} (a0 : Int32)   (tr : ShT) (kp : ShT) (th : ShT) (ot : ShT) (tp : TpT) (sl : (Nat → SlT)) (pk : AI) (rf : AI) (ik : Int32) {r : Int32 × ShT × AI} (hf : f_X3_fairest a0 tr th rf = some r) : Runs l D cT yX3_fairest cX3_fairest 6 (some .int) 5 111 [.ref 0, .int a0] (cX tr kp th ot tp sl pk rf ik) (EQ (some (.int r.1)) (cX tr kp r.2.1 ot tp sl pk r.2.2 ik)) := by
  refine runs_of O_X3 okO_X3 (by decide +kernel) rfl rfl (Nat.le_of_ble_eq_true rfl) (Nat.le_of_ble_eq_true rfl) (fun g K => ?_)
  have M := K.b
  show g 0 0 (cX tr kp th ot tp sl pk rf ik) 0 [some (.ref 0), some (.int a0), none, none, none, none] []
  have loop_0 : ∀ (v1 : Int32) (n_ : Nat), (∀ (v2 : Int32) (v3 : Int32) (v4 : Int32) (th : ShT) (rf : AI), f_X3_fairest_L0 v1 tr n_ v2 v3 v4 th rf = some r → g 0 0 (cX tr kp th ot tp sl pk rf ik) 47 [some (.ref 0), some (.int v1), some (.int v2), some (.int v3), some (.int v4), none] []) := by
    intro v1 n_
    induction n_ with
    | zero => intro v2 v3 v4 th rf hf; cases hf
    | succ n_ ih =>
      intro v2 v3 v4 th rf hf
      rw [f_X3_fairest_L0] at hf
      refine m_run M (is := [(47, .iload 4, 0), (49, .aload_n 0, 0), (50, .getfield 10, 0), (53, .getfield 242, 0)]) (pc' := 56) (L' := [some (.ref 0), some (.int v1), some (.int v2), some (.int v3), some (.int v4), none]) (st' := [.int tr.2.2.2.2.2.2.1, .int v4]) (w' := (cX tr kp th ot tp sl pk rf ik)) (by decide +kernel) rfl trivial ?_
      rcases ite_s hf with ⟨c_101, hf⟩ | ⟨c_101, hf⟩
      · refine m_jT M (i := .if_icmp .ge 30) 86 (by decide +kernel) rfl (by decide) c_101 ?_
        refine m_run M (is := [(86, .iload_n 2, 0)]) (pc' := 87) (L' := [some (.ref 0), some (.int v1), some (.int v2), some (.int v3), some (.int v4), none]) (st' := [.int v2]) (w' := (cX tr kp th ot tp sl pk rf ik)) (by decide +kernel) rfl trivial ?_
        obtain rfl := Option.some.inj hf
        exact m_iret K (by decide +kernel) (Nat.zero_le _) (Nat.zero_le _) ⟨rfl, rfl⟩
      · refine m_jF M (i := .if_icmp .ge 30) 86 (by decide +kernel) rfl (by decide) c_101 ?_
        refine m_run M (is := [(59, .aload_n 0, 0), (60, .iload 4, 0), (62, .iload_n 1, 0)]) (pc' := 63) (L' := [some (.ref 0), some (.int v1), some (.int v2), some (.int v3), some (.int v4), none]) (st' := [.int v1, .int v4, .ref 0]) (w' := (cX tr kp th ot tp sl pk rf ik)) (by decide +kernel) rfl trivial ?_
        obtain ⟨r102, h_102, hf⟩ := bnd_s hf
        refine m_cV0 M (rest := []) (w2 := (cX tr kp r102.2 ot tp sl pk rf ik)) (st2 := [.int r102.1]) (run_X3_spreadBy v4 v1   tr kp th ot tp sl pk rf ik h_102) cv_X3_spreadBy lk_X3_251 (by decide +kernel) (List.range 46) List.nodup_range ⟨(by rw [List.length_range]; exact Nat.le_refl _), Nat.le_of_ble_eq_true rfl⟩ (hwId rfl) rfl rfl (Nat.le_of_ble_eq_true rfl) ⟨by decide, by decide⟩ rfl rfl ⟨Nat.zero_le _, Nat.zero_le _⟩ (hpId rfl rfl) rfl ?_
        refine m_run M (is := [(66, .istore 5, 0), (68, .iload 5, 0), (70, .iload_n 3, 0)]) (pc' := 71) (L' := [some (.ref 0), some (.int v1), some (.int v2), some (.int v3), some (.int v4), some (.int r102.1)]) (st' := [.int v3, .int r102.1]) (w' := (cX tr kp r102.2 ot tp sl pk rf ik)) (by decide +kernel) rfl trivial ?_
        rcases ite_s hf with ⟨c_103, hf⟩ | ⟨c_103, hf⟩
        · refine m_jT M (i := .if_icmp .ge 9) 80 (by decide +kernel) rfl (by decide) c_103 ?_
          refine m_run M (is := [(80, .iinc 4 1, 1), (83, .goto (-36), 0)]) (pc' := 47) (L' := [some (.ref 0), some (.int v1), some (.int v2), some (.int v3), some (.int (v4 + 1)), some (.int r102.1)]) (st' := []) (w' := (cX tr kp r102.2 ot tp sl pk rf ik)) (by decide +kernel) rfl trivial ?_
          refine m_wk M [some (.ref 0), some (.int v1), some (.int v2), some (.int v3), some (.int (v4 + 1)), none] ⟨Or.inr rfl, Or.inr rfl, Or.inr rfl, Or.inr rfl, Or.inr rfl, Or.inl rfl, trivial⟩ ?_
          exact ih v2 v3 (v4 + 1) r102.2 rf hf
        · refine m_jF M (i := .if_icmp .ge 9) 80 (by decide +kernel) rfl (by decide) c_103 ?_
          refine m_run M (is := [(74, .iload 5, 0), (76, .istore_n 3, 0), (77, .iload 4, 0), (79, .istore_n 2, 0), (80, .iinc 4 1, 1), (83, .goto (-36), 0)]) (pc' := 47) (L' := [some (.ref 0), some (.int v1), some (.int v4), some (.int r102.1), some (.int (v4 + 1)), some (.int r102.1)]) (st' := []) (w' := (cX tr kp r102.2 ot tp sl pk rf ik)) (by decide +kernel) rfl trivial ?_
          refine m_wk M [some (.ref 0), some (.int v1), some (.int v4), some (.int r102.1), some (.int (v4 + 1)), none] ⟨Or.inr rfl, Or.inr rfl, Or.inr rfl, Or.inr rfl, Or.inr rfl, Or.inl rfl, trivial⟩ ?_
          exact ih v4 r102.1 (v4 + 1) r102.2 rf hf
  rw [f_X3_fairest] at hf
  refine m_run M (is := [(0, .iload_n 1, 0), (1, .iconst 0, 0), (2, .sipush 999, 999)]) (pc' := 5) (L' := [some (.ref 0), some (.int a0), none, none, none, none]) (st' := [.int 999, .int 0, .int a0]) (w' := (cX tr kp th ot tp sl pk rf ik)) (by decide +kernel) rfl trivial ?_
  obtain ⟨r1001, h_1001, hf⟩ := bnd_s hf
  refine m_cS0 M (rest := []) (w2 := (cX tr kp th ot tp sl pk rf ik)) (st2 := [.int r1001]) (run_X3_isBetween a0 0 999    h_1001) cs_X3_isBetween lk_X3_50 (by decide +kernel) [] (by decide) ⟨Nat.le_of_ble_eq_true rfl, Nat.le_of_ble_eq_true rfl⟩ rfl rfl (Nat.le_of_ble_eq_true rfl) ⟨by decide, by decide⟩ rfl rfl ⟨Nat.zero_le _, Nat.zero_le _⟩ rfl rfl ?_
  rcases ite_s hf with ⟨c_1002, hf⟩ | ⟨c_1002, hf⟩
  · refine m_jF M (i := .ifCond .ne 10) 18 (by decide +kernel) rfl (by decide) (fun n => n c_1002) ?_
    refine m_run M (is := [(11, .aload_n 0, 0), (12, .bipush (-2), -2)]) (pc' := 14) (L' := [some (.ref 0), some (.int a0), none, none, none, none]) (st' := [.int (-2), .ref 0]) (w' := (cX tr kp th ot tp sl pk rf ik)) (by decide +kernel) rfl trivial ?_
    obtain ⟨r1003, h_1003, hf⟩ := bnd_s hf
    refine m_cV0 M (rest := []) (w2 := (cX tr kp th ot tp sl pk r1003.2 ik)) (st2 := [.int r1003.1]) (run_X3_refuse (-2)   tr kp th ot tp sl pk rf ik h_1003) cv_X3_refuse lk_X3_54 (by decide +kernel) (List.range 46) List.nodup_range ⟨(by rw [List.length_range]; exact Nat.le_refl _), Nat.le_of_ble_eq_true rfl⟩ (hwId rfl) rfl rfl (Nat.le_of_ble_eq_true rfl) ⟨by decide, by decide⟩ rfl rfl ⟨Nat.zero_le _, Nat.zero_le _⟩ (hpId rfl rfl) rfl ?_
    obtain rfl := Option.some.inj hf
    exact m_iret K (by decide +kernel) (Nat.zero_le _) (Nat.zero_le _) ⟨rfl, rfl⟩
  · refine m_jT M (i := .ifCond .ne 10) 18 (by decide +kernel) rfl (by decide) c_1002 ?_
    refine m_run M (is := [(18, .aload_n 0, 0), (19, .getfield 10, 0)]) (pc' := 22) (L' := [some (.ref 0), some (.int a0), none, none, none, none]) (st' := [.ref 1]) (w' := (cX tr kp th ot tp sl pk rf ik)) (by decide +kernel) rfl trivial ?_
    obtain ⟨r1004, h_1004, hf⟩ := bnd_s hf
    refine m_cV0 M (rest := []) (w2 := (cX tr kp th ot tp sl pk rf ik)) (st2 := [.int r1004]) (run_X1_isStuck    tr h_1004) cv_X1_isStuck lk_X3_187 (by decide +kernel) [1, 2, 3, 4, 5, 6] (by decide) ⟨Nat.le_of_ble_eq_true rfl, Nat.le_of_ble_eq_true rfl⟩ (hw_3  tr kp th ot tp sl pk rf ik) rfl rfl (Nat.le_of_ble_eq_true rfl) ⟨by decide, by decide⟩ rfl rfl ⟨Nat.zero_le _, Nat.zero_le _⟩ (hp_3  tr kp th ot tp sl pk rf ik tr) rfl ?_
    rcases ite_s hf with ⟨c_1005, hf⟩ | ⟨c_1005, hf⟩
    · refine m_jT M (i := .ifCond .eq 10) 35 (by decide +kernel) rfl (by decide) c_1005 ?_
      refine m_run M (is := [(35, .iconst 0, 0), (36, .istore_n 2, 0), (37, .aload_n 0, 0), (38, .iconst 0, 0), (39, .iload_n 1, 0)]) (pc' := 40) (L' := [some (.ref 0), some (.int a0), some (.int 0), none, none, none]) (st' := [.int a0, .int 0, .ref 0]) (w' := (cX tr kp th ot tp sl pk rf ik)) (by decide +kernel) rfl trivial ?_
      obtain ⟨r1006, h_1006, hf⟩ := bnd_s hf
      refine m_cV0 M (rest := []) (w2 := (cX tr kp r1006.2 ot tp sl pk rf ik)) (st2 := [.int r1006.1]) (run_X3_spreadBy 0 a0   tr kp th ot tp sl pk rf ik h_1006) cv_X3_spreadBy lk_X3_251 (by decide +kernel) (List.range 46) List.nodup_range ⟨(by rw [List.length_range]; exact Nat.le_refl _), Nat.le_of_ble_eq_true rfl⟩ (hwId rfl) rfl rfl (Nat.le_of_ble_eq_true rfl) ⟨by decide, by decide⟩ rfl rfl ⟨Nat.zero_le _, Nat.zero_le _⟩ (hpId rfl rfl) rfl ?_
      refine m_run M (is := [(43, .istore_n 3, 0), (44, .iconst 1, 1), (45, .istore 4, 0)]) (pc' := 47) (L' := [some (.ref 0), some (.int a0), some (.int 0), some (.int r1006.1), some (.int 1), none]) (st' := []) (w' := (cX tr kp r1006.2 ot tp sl pk rf ik)) (by decide +kernel) rfl trivial ?_
      exact loop_0 a0 fuel0 0 r1006.1 1 r1006.2 rf hf
    · refine m_jF M (i := .ifCond .eq 10) 35 (by decide +kernel) rfl (by decide) c_1005 ?_
      refine m_run M (is := [(28, .aload_n 0, 0), (29, .bipush (-5), -5)]) (pc' := 31) (L' := [some (.ref 0), some (.int a0), none, none, none, none]) (st' := [.int (-5), .ref 0]) (w' := (cX tr kp th ot tp sl pk rf ik)) (by decide +kernel) rfl trivial ?_
      obtain ⟨r1007, h_1007, hf⟩ := bnd_s hf
      refine m_cV0 M (rest := []) (w2 := (cX tr kp th ot tp sl pk r1007.2 ik)) (st2 := [.int r1007.1]) (run_X3_refuse (-5)   tr kp th ot tp sl pk rf ik h_1007) cv_X3_refuse lk_X3_54 (by decide +kernel) (List.range 46) List.nodup_range ⟨(by rw [List.length_range]; exact Nat.le_refl _), Nat.le_of_ble_eq_true rfl⟩ (hwId rfl) rfl rfl (Nat.le_of_ble_eq_true rfl) ⟨by decide, by decide⟩ rfl rfl ⟨Nat.zero_le _, Nat.zero_le _⟩ (hpId rfl rfl) rfl ?_
      obtain rfl := Option.some.inj hf
      exact m_iret K (by decide +kernel) (Nat.zero_le _) (Nat.zero_le _) ⟨rfl, rfl⟩

def f_X3_judge (a0 : Int32) (a1 : Int32) (tr : ShT) (th : ShT) (sl : (Nat → SlT)) (rf : AI) : Option (Int32 × ShT × AI) :=
  (f_X3_refusalOfSlate a0 a1 tr sl).bind fun r1001 =>
  if r1001 = 0 then
    (f_X1_become th tr).bind fun r1003 =>
    if inB a0 8 then
    (f_X3_firstWrong a1 a0.toNatClampNeg r1003 sl).bind fun r1005 =>
    some (r1005.1, r1005.2, rf)
    else none
  else
    (f_X3_refuse r1001 rf).bind fun r1006 =>
    some (r1006.1, th, r1006.2)
set_option maxRecDepth 100000 in
set_option maxHeartbeats 4000000 in
theorem run_X3_judge {l : Launch} {D : va_G} {cT : Nat → ClassId} (a0 : Int32) (a1 : Int32)   (tr : ShT) (kp : ShT) (th : ShT) (ot : ShT) (tp : TpT) (sl : (Nat → SlT)) (pk : AI) (rf : AI) (ik : Int32) {r : Int32 × ShT × AI} (hf : f_X3_judge a0 a1 tr th sl rf = some r) : Runs l D cT yX3_judge cX3_judge 4 (some .int) 4 90 [.ref 0, .int a0, .int a1] (cX tr kp th ot tp sl pk rf ik) (EQ (some (.int r.1)) (cX tr kp r.2.1 ot tp sl pk r.2.2 ik)) := by
  refine runs_of O_X3 okO_X3 (by decide +kernel) rfl rfl (Nat.le_of_ble_eq_true rfl) (Nat.le_of_ble_eq_true rfl) (fun g K => ?_)
  have M := K.b
  show g 0 0 (cX tr kp th ot tp sl pk rf ik) 0 [some (.ref 0), some (.int a0), some (.int a1), none] []
  rw [f_X3_judge] at hf
  refine m_run M (is := [(0, .aload_n 0, 0), (1, .iload_n 1, 0), (2, .iload_n 2, 0)]) (pc' := 3) (L' := [some (.ref 0), some (.int a0), some (.int a1), none]) (st' := [.int a1, .int a0, .ref 0]) (w' := (cX tr kp th ot tp sl pk rf ik)) (by decide +kernel) rfl trivial ?_
  obtain ⟨r1001, h_1001, hf⟩ := bnd_s hf
  refine m_cV0 M (rest := []) (w2 := (cX tr kp th ot tp sl pk rf ik)) (st2 := [.int r1001]) (run_X3_refusalOfSlate a0 a1   tr kp th ot tp sl pk rf ik h_1001) cv_X3_refusalOfSlate lk_X3_254 (by decide +kernel) (List.range 46) List.nodup_range ⟨(by rw [List.length_range]; exact Nat.le_refl _), Nat.le_of_ble_eq_true rfl⟩ (hwId rfl) rfl rfl (Nat.le_of_ble_eq_true rfl) ⟨by decide, by decide⟩ rfl rfl ⟨Nat.zero_le _, Nat.zero_le _⟩ (hpId rfl rfl) rfl ?_
  refine m_run M (is := [(6, .istore_n 3, 0), (7, .iload_n 3, 0)]) (pc' := 8) (L' := [some (.ref 0), some (.int a0), some (.int a1), some (.int r1001)]) (st' := [.int r1001]) (w' := (cX tr kp th ot tp sl pk rf ik)) (by decide +kernel) rfl trivial ?_
  rcases ite_s hf with ⟨c_1002, hf⟩ | ⟨c_1002, hf⟩
  · refine m_jT M (i := .ifCond .eq 9) 17 (by decide +kernel) rfl (by decide) c_1002 ?_
    refine m_run M (is := [(17, .aload_n 0, 0), (18, .getfield 19, 0), (21, .aload_n 0, 0), (22, .getfield 10, 0)]) (pc' := 25) (L' := [some (.ref 0), some (.int a0), some (.int a1), some (.int r1001)]) (st' := [.ref 1, .ref 13]) (w' := (cX tr kp th ot tp sl pk rf ik)) (by decide +kernel) rfl trivial ?_
    obtain ⟨r1003, h_1003, hf⟩ := bnd_s hf
    refine m_cV0 M (rest := []) (w2 := (cX tr kp r1003 ot tp sl pk rf ik)) (st2 := []) (run_X1_become    th tr h_1003) cv_X1_become lk_X3_161 (by decide +kernel) [13, 14, 15, 16, 17, 18, 1, 2, 3, 4, 5, 6] (by decide) ⟨Nat.le_of_ble_eq_true rfl, Nat.le_of_ble_eq_true rfl⟩ (hw_0  tr kp th ot tp sl pk rf ik) rfl rfl (Nat.le_of_ble_eq_true rfl) ⟨by decide, by decide⟩ rfl rfl ⟨Nat.zero_le _, Nat.zero_le _⟩ (hp_0  tr kp th ot tp sl pk rf ik r1003 tr) rfl ?_
    obtain ⟨h_1004, hf⟩ := grd_s hf
    refine m_run M (is := [(28, .aload_n 0, 0), (29, .aload_n 0, 0), (30, .getfield 34, 0), (33, .iload_n 1, 0)]) (pc' := 34) (L' := [some (.ref 0), some (.int a0), some (.int a1), some (.int r1001)]) (st' := [.int a0, .ref 27, .ref 0]) (w' := (cX tr kp r1003 ot tp sl pk rf ik)) (by decide +kernel) rfl trivial ?_
    refine m_run M (is := [(34, .aaload, 0)]) (pc' := 35) (L' := [some (.ref 0), some (.int a0), some (.int a1), some (.int r1001)]) (st' := [.ref (30 + 2 * a0.toNatClampNeg), .ref 0]) (w' := (cX tr kp r1003 ot tp sl pk rf ik)) (by decide +kernel) (s_aald rfl rfl (fX_30 (inB_lt h_1004))) ⟨inB_use h_1004, trivial⟩ ?_
    refine m_run M (is := [(35, .iload_n 2, 0)]) (pc' := 36) (L' := [some (.ref 0), some (.int a0), some (.int a1), some (.int r1001)]) (st' := [.int a1, .ref (30 + 2 * a0.toNatClampNeg), .ref 0]) (w' := (cX tr kp r1003 ot tp sl pk rf ik)) (by decide +kernel) rfl trivial ?_
    obtain ⟨r1005, h_1005, hf⟩ := bnd_s hf
    refine m_cV0 M (rest := []) (w2 := (cX tr kp r1005.2 ot tp sl pk rf ik)) (st2 := [.int r1005.1]) (run_X3_firstWrong a1 a0.toNatClampNeg (inB_lt h_1004) tr kp r1003 ot tp sl pk rf ik h_1005) cv_X3_firstWrong lk_X3_257 (by decide +kernel) (List.range 46) List.nodup_range ⟨(by rw [List.length_range]; exact Nat.le_refl _), Nat.le_of_ble_eq_true rfl⟩ (hwId rfl) (congrArg (fun z1 => [.int a1, z1, .ref 0]) (rvX (inB_lt h_1004)).symm) rfl (Nat.le_of_ble_eq_true rfl) ⟨by decide, by decide⟩ rfl rfl ⟨Nat.zero_le _, Nat.zero_le _⟩ (hpId rfl rfl) rfl ?_
    obtain rfl := Option.some.inj hf
    exact m_iret K (by decide +kernel) (Nat.zero_le _) (Nat.zero_le _) ⟨rfl, rfl⟩
  · refine m_jF M (i := .ifCond .eq 9) 17 (by decide +kernel) rfl (by decide) c_1002 ?_
    refine m_run M (is := [(11, .aload_n 0, 0), (12, .iload_n 3, 0)]) (pc' := 13) (L' := [some (.ref 0), some (.int a0), some (.int a1), some (.int r1001)]) (st' := [.int r1001, .ref 0]) (w' := (cX tr kp th ot tp sl pk rf ik)) (by decide +kernel) rfl trivial ?_
    obtain ⟨r1006, h_1006, hf⟩ := bnd_s hf
    refine m_cV0 M (rest := []) (w2 := (cX tr kp th ot tp sl pk r1006.2 ik)) (st2 := [.int r1006.1]) (run_X3_refuse r1001   tr kp th ot tp sl pk rf ik h_1006) cv_X3_refuse lk_X3_54 (by decide +kernel) (List.range 46) List.nodup_range ⟨(by rw [List.length_range]; exact Nat.le_refl _), Nat.le_of_ble_eq_true rfl⟩ (hwId rfl) rfl rfl (Nat.le_of_ble_eq_true rfl) ⟨by decide, by decide⟩ rfl rfl ⟨Nat.zero_le _, Nat.zero_le _⟩ (hpId rfl rfl) rfl ?_
    obtain rfl := Option.some.inj hf
    exact m_iret K (by decide +kernel) (Nat.zero_le _) (Nat.zero_le _) ⟨rfl, rfl⟩

def f_X3_fits_L0 (v1 : Int32) (v2 : Int32) (tr : ShT) (sl : (Nat → SlT)) : Nat → Int32 → Int32 → ShT → AI → Option (Int32 × ShT × AI)
  | 0, _, _, _, _ => none
  | n_ + 1, v4, v5, th, rf =>
    if tr.2.2.2.2.2.2.1 ≤ v5 then
      some (v4, th, rf)
    else
      (f_X3_thinkBy v5 tr th).bind fun r102 =>
      if inB v1 8 then
      (f_X3_firstWrong v2 v1.toNatClampNeg r102 sl).bind fun r104 =>
      if r104.1 = (-1) then
        f_X3_fits_L0 v1 v2 tr sl n_ (v4 ||| (1 <<< (v5 &&& 31))) (v5 + 1) r104.2 rf
      else
        f_X3_fits_L0 v1 v2 tr sl n_ v4 (v5 + 1) r104.2 rf
      else none
def f_X3_fits (a0 : Int32) (a1 : Int32) (tr : ShT) (th : ShT) (sl : (Nat → SlT)) (rf : AI) : Option (Int32 × ShT × AI) :=
  (f_X3_refusalOfSlate a0 a1 tr sl).bind fun r1001 =>
  if r1001 = 0 then
    f_X3_fits_L0 a0 a1 tr sl fuel0 0 0 th rf
  else
    (f_X3_refuse r1001 rf).bind fun r1003 =>
    some (r1003.1, th, r1003.2)
set_option maxRecDepth 100000 in
set_option maxHeartbeats 4000000 in
theorem run_X3_fits {l : Launch} {D : va_G} {cT : Nat → ClassId} (a0 : Int32) (a1 : Int32)   (tr : ShT) (kp : ShT) (th : ShT) (ot : ShT) (tp : TpT) (sl : (Nat → SlT)) (pk : AI) (rf : AI) (ik : Int32) {r : Int32 × ShT × AI} (hf : f_X3_fits a0 a1 tr th sl rf = some r) : Runs l D cT yX3_fits cX3_fits 6 (some .int) 4 90 [.ref 0, .int a0, .int a1] (cX tr kp th ot tp sl pk rf ik) (EQ (some (.int r.1)) (cX tr kp r.2.1 ot tp sl pk r.2.2 ik)) := by
  refine runs_of O_X3 okO_X3 (by decide +kernel) rfl rfl (Nat.le_of_ble_eq_true rfl) (Nat.le_of_ble_eq_true rfl) (fun g K => ?_)
  have M := K.b
  show g 0 0 (cX tr kp th ot tp sl pk rf ik) 0 [some (.ref 0), some (.int a0), some (.int a1), none, none, none] []
  have loop_0 : ∀ (v1 : Int32) (v2 : Int32) (n_ : Nat), (∀ (v4 : Int32) (v5 : Int32) (th : ShT) (rf : AI), f_X3_fits_L0 v1 v2 tr sl n_ v4 v5 th rf = some r → g 0 0 (cX tr kp th ot tp sl pk rf ik) 23 [some (.ref 0), some (.int v1), some (.int v2), none, some (.int v4), some (.int v5)] []) := by
    intro v1 v2 n_
    induction n_ with
    | zero => intro v4 v5 th rf hf; cases hf
    | succ n_ ih =>
      intro v4 v5 th rf hf
      rw [f_X3_fits_L0] at hf
      refine m_run M (is := [(23, .iload 5, 0), (25, .aload_n 0, 0), (26, .getfield 10, 0), (29, .getfield 242, 0)]) (pc' := 32) (L' := [some (.ref 0), some (.int v1), some (.int v2), none, some (.int v4), some (.int v5)]) (st' := [.int tr.2.2.2.2.2.2.1, .int v5]) (w' := (cX tr kp th ot tp sl pk rf ik)) (by decide +kernel) rfl trivial ?_
      rcases ite_s hf with ⟨c_101, hf⟩ | ⟨c_101, hf⟩
      · refine m_jT M (i := .if_icmp .ge 39) 71 (by decide +kernel) rfl (by decide) c_101 ?_
        refine m_run M (is := [(71, .iload 4, 0)]) (pc' := 73) (L' := [some (.ref 0), some (.int v1), some (.int v2), none, some (.int v4), some (.int v5)]) (st' := [.int v4]) (w' := (cX tr kp th ot tp sl pk rf ik)) (by decide +kernel) rfl trivial ?_
        obtain rfl := Option.some.inj hf
        exact m_iret K (by decide +kernel) (Nat.zero_le _) (Nat.zero_le _) ⟨rfl, rfl⟩
      · refine m_jF M (i := .if_icmp .ge 39) 71 (by decide +kernel) rfl (by decide) c_101 ?_
        refine m_run M (is := [(35, .aload_n 0, 0), (36, .iload 5, 0)]) (pc' := 38) (L' := [some (.ref 0), some (.int v1), some (.int v2), none, some (.int v4), some (.int v5)]) (st' := [.int v5, .ref 0]) (w' := (cX tr kp th ot tp sl pk rf ik)) (by decide +kernel) rfl trivial ?_
        obtain ⟨r102, h_102, hf⟩ := bnd_s hf
        refine m_cV0 M (rest := []) (w2 := (cX tr kp r102 ot tp sl pk rf ik)) (st2 := []) (run_X3_thinkBy v5   tr kp th ot tp sl pk rf ik h_102) cv_X3_thinkBy lk_X3_239 (by decide +kernel) (List.range 46) List.nodup_range ⟨(by rw [List.length_range]; exact Nat.le_refl _), Nat.le_of_ble_eq_true rfl⟩ (hwId rfl) rfl rfl (Nat.le_of_ble_eq_true rfl) ⟨by decide, by decide⟩ rfl rfl ⟨Nat.zero_le _, Nat.zero_le _⟩ (hpId rfl rfl) rfl ?_
        obtain ⟨h_103, hf⟩ := grd_s hf
        refine m_run M (is := [(41, .aload_n 0, 0), (42, .aload_n 0, 0), (43, .getfield 34, 0), (46, .iload_n 1, 0)]) (pc' := 47) (L' := [some (.ref 0), some (.int v1), some (.int v2), none, some (.int v4), some (.int v5)]) (st' := [.int v1, .ref 27, .ref 0]) (w' := (cX tr kp r102 ot tp sl pk rf ik)) (by decide +kernel) rfl trivial ?_
        refine m_run M (is := [(47, .aaload, 0)]) (pc' := 48) (L' := [some (.ref 0), some (.int v1), some (.int v2), none, some (.int v4), some (.int v5)]) (st' := [.ref (30 + 2 * v1.toNatClampNeg), .ref 0]) (w' := (cX tr kp r102 ot tp sl pk rf ik)) (by decide +kernel) (s_aald rfl rfl (fX_30 (inB_lt h_103))) ⟨inB_use h_103, trivial⟩ ?_
        refine m_run M (is := [(48, .iload_n 2, 0)]) (pc' := 49) (L' := [some (.ref 0), some (.int v1), some (.int v2), none, some (.int v4), some (.int v5)]) (st' := [.int v2, .ref (30 + 2 * v1.toNatClampNeg), .ref 0]) (w' := (cX tr kp r102 ot tp sl pk rf ik)) (by decide +kernel) rfl trivial ?_
        obtain ⟨r104, h_104, hf⟩ := bnd_s hf
        refine m_cV0 M (rest := []) (w2 := (cX tr kp r104.2 ot tp sl pk rf ik)) (st2 := [.int r104.1]) (run_X3_firstWrong v2 v1.toNatClampNeg (inB_lt h_103) tr kp r102 ot tp sl pk rf ik h_104) cv_X3_firstWrong lk_X3_257 (by decide +kernel) (List.range 46) List.nodup_range ⟨(by rw [List.length_range]; exact Nat.le_refl _), Nat.le_of_ble_eq_true rfl⟩ (hwId rfl) (congrArg (fun z1 => [.int v2, z1, .ref 0]) (rvX (inB_lt h_103)).symm) rfl (Nat.le_of_ble_eq_true rfl) ⟨by decide, by decide⟩ rfl rfl ⟨Nat.zero_le _, Nat.zero_le _⟩ (hpId rfl rfl) rfl ?_
        refine m_run M (is := [(52, .iconst (-1), -1)]) (pc' := 53) (L' := [some (.ref 0), some (.int v1), some (.int v2), none, some (.int v4), some (.int v5)]) (st' := [.int (-1), .int r104.1]) (w' := (cX tr kp r104.2 ot tp sl pk rf ik)) (by decide +kernel) rfl trivial ?_
        rcases ite_s hf with ⟨c_105, hf⟩ | ⟨c_105, hf⟩
        · refine m_jF M (i := .if_icmp .ne 12) 65 (by decide +kernel) rfl (by decide) (fun n => n c_105) ?_
          refine m_run M (is := [(56, .iload 4, 0), (58, .iconst 1, 1), (59, .iload 5, 0), (61, .ishl, 0), (62, .ior, 0), (63, .istore 4, 0), (65, .iinc 5 1, 1), (68, .goto (-45), 0)]) (pc' := 23) (L' := [some (.ref 0), some (.int v1), some (.int v2), none, some (.int (v4 ||| (1 <<< (v5 &&& 31)))), some (.int (v5 + 1))]) (st' := []) (w' := (cX tr kp r104.2 ot tp sl pk rf ik)) (by decide +kernel) rfl trivial ?_
          exact ih (v4 ||| (1 <<< (v5 &&& 31))) (v5 + 1) r104.2 rf hf
        · refine m_jT M (i := .if_icmp .ne 12) 65 (by decide +kernel) rfl (by decide) c_105 ?_
          refine m_run M (is := [(65, .iinc 5 1, 1), (68, .goto (-45), 0)]) (pc' := 23) (L' := [some (.ref 0), some (.int v1), some (.int v2), none, some (.int v4), some (.int (v5 + 1))]) (st' := []) (w' := (cX tr kp r104.2 ot tp sl pk rf ik)) (by decide +kernel) rfl trivial ?_
          exact ih v4 (v5 + 1) r104.2 rf hf
  rw [f_X3_fits] at hf
  refine m_run M (is := [(0, .aload_n 0, 0), (1, .iload_n 1, 0), (2, .iload_n 2, 0)]) (pc' := 3) (L' := [some (.ref 0), some (.int a0), some (.int a1), none, none, none]) (st' := [.int a1, .int a0, .ref 0]) (w' := (cX tr kp th ot tp sl pk rf ik)) (by decide +kernel) rfl trivial ?_
  obtain ⟨r1001, h_1001, hf⟩ := bnd_s hf
  refine m_cV0 M (rest := []) (w2 := (cX tr kp th ot tp sl pk rf ik)) (st2 := [.int r1001]) (run_X3_refusalOfSlate a0 a1   tr kp th ot tp sl pk rf ik h_1001) cv_X3_refusalOfSlate lk_X3_254 (by decide +kernel) (List.range 46) List.nodup_range ⟨(by rw [List.length_range]; exact Nat.le_refl _), Nat.le_of_ble_eq_true rfl⟩ (hwId rfl) rfl rfl (Nat.le_of_ble_eq_true rfl) ⟨by decide, by decide⟩ rfl rfl ⟨Nat.zero_le _, Nat.zero_le _⟩ (hpId rfl rfl) rfl ?_
  refine m_run M (is := [(6, .istore_n 3, 0), (7, .iload_n 3, 0)]) (pc' := 8) (L' := [some (.ref 0), some (.int a0), some (.int a1), some (.int r1001), none, none]) (st' := [.int r1001]) (w' := (cX tr kp th ot tp sl pk rf ik)) (by decide +kernel) rfl trivial ?_
  rcases ite_s hf with ⟨c_1002, hf⟩ | ⟨c_1002, hf⟩
  · refine m_jT M (i := .ifCond .eq 9) 17 (by decide +kernel) rfl (by decide) c_1002 ?_
    refine m_run M (is := [(17, .iconst 0, 0), (18, .istore 4, 0), (20, .iconst 0, 0), (21, .istore 5, 0)]) (pc' := 23) (L' := [some (.ref 0), some (.int a0), some (.int a1), some (.int r1001), some (.int 0), some (.int 0)]) (st' := []) (w' := (cX tr kp th ot tp sl pk rf ik)) (by decide +kernel) rfl trivial ?_
    refine m_wk M [some (.ref 0), some (.int a0), some (.int a1), none, some (.int 0), some (.int 0)] ⟨Or.inr rfl, Or.inr rfl, Or.inr rfl, Or.inl rfl, Or.inr rfl, Or.inr rfl, trivial⟩ ?_
    exact loop_0 a0 a1 fuel0 0 0 th rf hf
  · refine m_jF M (i := .ifCond .eq 9) 17 (by decide +kernel) rfl (by decide) c_1002 ?_
    refine m_run M (is := [(11, .aload_n 0, 0), (12, .iload_n 3, 0)]) (pc' := 13) (L' := [some (.ref 0), some (.int a0), some (.int a1), some (.int r1001), none, none]) (st' := [.int r1001, .ref 0]) (w' := (cX tr kp th ot tp sl pk rf ik)) (by decide +kernel) rfl trivial ?_
    obtain ⟨r1003, h_1003, hf⟩ := bnd_s hf
    refine m_cV0 M (rest := []) (w2 := (cX tr kp th ot tp sl pk r1003.2 ik)) (st2 := [.int r1003.1]) (run_X3_refuse r1001   tr kp th ot tp sl pk rf ik h_1003) cv_X3_refuse lk_X3_54 (by decide +kernel) (List.range 46) List.nodup_range ⟨(by rw [List.length_range]; exact Nat.le_refl _), Nat.le_of_ble_eq_true rfl⟩ (hwId rfl) rfl rfl (Nat.le_of_ble_eq_true rfl) ⟨by decide, by decide⟩ rfl rfl ⟨Nat.zero_le _, Nat.zero_le _⟩ (hpId rfl rfl) rfl ?_
    obtain rfl := Option.some.inj hf
    exact m_iret K (by decide +kernel) (Nat.zero_le _) (Nat.zero_le _) ⟨rfl, rfl⟩

def f_X3_pushed (a0 : Int32) (a1 : Int32) (tr : ShT) (th : ShT) (sl : (Nat → SlT)) (rf : AI) : Option (Int32 × ShT × AI) :=
  (f_X3_refusalOfSlate a0 a1 tr sl).bind fun r1001 =>
  if r1001 = 0 then
    (f_X1_become th tr).bind fun r1003 =>
    if inB a0 8 then
    (f_X3_firstWrong a1 a0.toNatClampNeg r1003 sl).bind fun r1005 =>
    if r1005.1 = (-1) then
      some ((-1), r1005.2, rf)
    else
      if inB a0 8 then
      (f_X3_firstPush a1 a0.toNatClampNeg tr r1005.2 sl).bind fun r1008 =>
      some (r1008.1, r1008.2, rf)
      else none
    else none
  else
    (f_X3_refuse r1001 rf).bind fun r1009 =>
    some (r1009.1, th, r1009.2)
set_option maxRecDepth 100000 in
set_option maxHeartbeats 4000000 in
theorem run_X3_pushed {l : Launch} {D : va_G} {cT : Nat → ClassId} (a0 : Int32) (a1 : Int32)   (tr : ShT) (kp : ShT) (th : ShT) (ot : ShT) (tp : TpT) (sl : (Nat → SlT)) (pk : AI) (rf : AI) (ik : Int32) {r : Int32 × ShT × AI} (hf : f_X3_pushed a0 a1 tr th sl rf = some r) : Runs l D cT yX3_pushed cX3_pushed 4 (some .int) 5 115 [.ref 0, .int a0, .int a1] (cX tr kp th ot tp sl pk rf ik) (EQ (some (.int r.1)) (cX tr kp r.2.1 ot tp sl pk r.2.2 ik)) := by
  refine runs_of O_X3 okO_X3 (by decide +kernel) rfl rfl (Nat.le_of_ble_eq_true rfl) (Nat.le_of_ble_eq_true rfl) (fun g K => ?_)
  have M := K.b
  show g 0 0 (cX tr kp th ot tp sl pk rf ik) 0 [some (.ref 0), some (.int a0), some (.int a1), none] []
  rw [f_X3_pushed] at hf
  refine m_run M (is := [(0, .aload_n 0, 0), (1, .iload_n 1, 0), (2, .iload_n 2, 0)]) (pc' := 3) (L' := [some (.ref 0), some (.int a0), some (.int a1), none]) (st' := [.int a1, .int a0, .ref 0]) (w' := (cX tr kp th ot tp sl pk rf ik)) (by decide +kernel) rfl trivial ?_
  obtain ⟨r1001, h_1001, hf⟩ := bnd_s hf
  refine m_cV0 M (rest := []) (w2 := (cX tr kp th ot tp sl pk rf ik)) (st2 := [.int r1001]) (run_X3_refusalOfSlate a0 a1   tr kp th ot tp sl pk rf ik h_1001) cv_X3_refusalOfSlate lk_X3_254 (by decide +kernel) (List.range 46) List.nodup_range ⟨(by rw [List.length_range]; exact Nat.le_refl _), Nat.le_of_ble_eq_true rfl⟩ (hwId rfl) rfl rfl (Nat.le_of_ble_eq_true rfl) ⟨by decide, by decide⟩ rfl rfl ⟨Nat.zero_le _, Nat.zero_le _⟩ (hpId rfl rfl) rfl ?_
  refine m_run M (is := [(6, .istore_n 3, 0), (7, .iload_n 3, 0)]) (pc' := 8) (L' := [some (.ref 0), some (.int a0), some (.int a1), some (.int r1001)]) (st' := [.int r1001]) (w' := (cX tr kp th ot tp sl pk rf ik)) (by decide +kernel) rfl trivial ?_
  rcases ite_s hf with ⟨c_1002, hf⟩ | ⟨c_1002, hf⟩
  · refine m_jT M (i := .ifCond .eq 9) 17 (by decide +kernel) rfl (by decide) c_1002 ?_
    refine m_run M (is := [(17, .aload_n 0, 0), (18, .getfield 19, 0), (21, .aload_n 0, 0), (22, .getfield 10, 0)]) (pc' := 25) (L' := [some (.ref 0), some (.int a0), some (.int a1), some (.int r1001)]) (st' := [.ref 1, .ref 13]) (w' := (cX tr kp th ot tp sl pk rf ik)) (by decide +kernel) rfl trivial ?_
    obtain ⟨r1003, h_1003, hf⟩ := bnd_s hf
    refine m_cV0 M (rest := []) (w2 := (cX tr kp r1003 ot tp sl pk rf ik)) (st2 := []) (run_X1_become    th tr h_1003) cv_X1_become lk_X3_161 (by decide +kernel) [13, 14, 15, 16, 17, 18, 1, 2, 3, 4, 5, 6] (by decide) ⟨Nat.le_of_ble_eq_true rfl, Nat.le_of_ble_eq_true rfl⟩ (hw_0  tr kp th ot tp sl pk rf ik) rfl rfl (Nat.le_of_ble_eq_true rfl) ⟨by decide, by decide⟩ rfl rfl ⟨Nat.zero_le _, Nat.zero_le _⟩ (hp_0  tr kp th ot tp sl pk rf ik r1003 tr) rfl ?_
    obtain ⟨h_1004, hf⟩ := grd_s hf
    refine m_run M (is := [(28, .aload_n 0, 0), (29, .aload_n 0, 0), (30, .getfield 34, 0), (33, .iload_n 1, 0)]) (pc' := 34) (L' := [some (.ref 0), some (.int a0), some (.int a1), some (.int r1001)]) (st' := [.int a0, .ref 27, .ref 0]) (w' := (cX tr kp r1003 ot tp sl pk rf ik)) (by decide +kernel) rfl trivial ?_
    refine m_run M (is := [(34, .aaload, 0)]) (pc' := 35) (L' := [some (.ref 0), some (.int a0), some (.int a1), some (.int r1001)]) (st' := [.ref (30 + 2 * a0.toNatClampNeg), .ref 0]) (w' := (cX tr kp r1003 ot tp sl pk rf ik)) (by decide +kernel) (s_aald rfl rfl (fX_30 (inB_lt h_1004))) ⟨inB_use h_1004, trivial⟩ ?_
    refine m_run M (is := [(35, .iload_n 2, 0)]) (pc' := 36) (L' := [some (.ref 0), some (.int a0), some (.int a1), some (.int r1001)]) (st' := [.int a1, .ref (30 + 2 * a0.toNatClampNeg), .ref 0]) (w' := (cX tr kp r1003 ot tp sl pk rf ik)) (by decide +kernel) rfl trivial ?_
    obtain ⟨r1005, h_1005, hf⟩ := bnd_s hf
    refine m_cV0 M (rest := []) (w2 := (cX tr kp r1005.2 ot tp sl pk rf ik)) (st2 := [.int r1005.1]) (run_X3_firstWrong a1 a0.toNatClampNeg (inB_lt h_1004) tr kp r1003 ot tp sl pk rf ik h_1005) cv_X3_firstWrong lk_X3_257 (by decide +kernel) (List.range 46) List.nodup_range ⟨(by rw [List.length_range]; exact Nat.le_refl _), Nat.le_of_ble_eq_true rfl⟩ (hwId rfl) (congrArg (fun z1 => [.int a1, z1, .ref 0]) (rvX (inB_lt h_1004)).symm) rfl (Nat.le_of_ble_eq_true rfl) ⟨by decide, by decide⟩ rfl rfl ⟨Nat.zero_le _, Nat.zero_le _⟩ (hpId rfl rfl) rfl ?_
    refine m_run M (is := [(39, .iconst (-1), -1)]) (pc' := 40) (L' := [some (.ref 0), some (.int a0), some (.int a1), some (.int r1001)]) (st' := [.int (-1), .int r1005.1]) (w' := (cX tr kp r1005.2 ot tp sl pk rf ik)) (by decide +kernel) rfl trivial ?_
    rcases ite_s hf with ⟨c_1006, hf⟩ | ⟨c_1006, hf⟩
    · refine m_jF M (i := .if_icmp .ne 7) 47 (by decide +kernel) rfl (by decide) (fun n => n c_1006) ?_
      refine m_run M (is := [(43, .iconst (-1), -1), (44, .goto 14, 0)]) (pc' := 58) (L' := [some (.ref 0), some (.int a0), some (.int a1), some (.int r1001)]) (st' := [.int (-1)]) (w' := (cX tr kp r1005.2 ot tp sl pk rf ik)) (by decide +kernel) rfl trivial ?_
      obtain rfl := Option.some.inj hf
      exact m_iret K (by decide +kernel) (Nat.zero_le _) (Nat.zero_le _) ⟨rfl, rfl⟩
    · refine m_jT M (i := .if_icmp .ne 7) 47 (by decide +kernel) rfl (by decide) c_1006 ?_
      obtain ⟨h_1007, hf⟩ := grd_s hf
      refine m_run M (is := [(47, .aload_n 0, 0), (48, .aload_n 0, 0), (49, .getfield 34, 0), (52, .iload_n 1, 0)]) (pc' := 53) (L' := [some (.ref 0), some (.int a0), some (.int a1), some (.int r1001)]) (st' := [.int a0, .ref 27, .ref 0]) (w' := (cX tr kp r1005.2 ot tp sl pk rf ik)) (by decide +kernel) rfl trivial ?_
      refine m_run M (is := [(53, .aaload, 0)]) (pc' := 54) (L' := [some (.ref 0), some (.int a0), some (.int a1), some (.int r1001)]) (st' := [.ref (30 + 2 * a0.toNatClampNeg), .ref 0]) (w' := (cX tr kp r1005.2 ot tp sl pk rf ik)) (by decide +kernel) (s_aald rfl rfl (fX_30 (inB_lt h_1007))) ⟨inB_use h_1007, trivial⟩ ?_
      refine m_run M (is := [(54, .iload_n 2, 0)]) (pc' := 55) (L' := [some (.ref 0), some (.int a0), some (.int a1), some (.int r1001)]) (st' := [.int a1, .ref (30 + 2 * a0.toNatClampNeg), .ref 0]) (w' := (cX tr kp r1005.2 ot tp sl pk rf ik)) (by decide +kernel) rfl trivial ?_
      obtain ⟨r1008, h_1008, hf⟩ := bnd_s hf
      refine m_cV0 M (rest := []) (w2 := (cX tr kp r1008.2 ot tp sl pk rf ik)) (st2 := [.int r1008.1]) (run_X3_firstPush a1 a0.toNatClampNeg (inB_lt h_1007) tr kp r1005.2 ot tp sl pk rf ik h_1008) cv_X3_firstPush lk_X3_261 (by decide +kernel) (List.range 46) List.nodup_range ⟨(by rw [List.length_range]; exact Nat.le_refl _), Nat.le_of_ble_eq_true rfl⟩ (hwId rfl) (congrArg (fun z1 => [.int a1, z1, .ref 0]) (rvX (inB_lt h_1007)).symm) rfl (Nat.le_of_ble_eq_true rfl) ⟨by decide, by decide⟩ rfl rfl ⟨Nat.zero_le _, Nat.zero_le _⟩ (hpId rfl rfl) rfl ?_
      obtain rfl := Option.some.inj hf
      exact m_iret K (by decide +kernel) (Nat.zero_le _) (Nat.zero_le _) ⟨rfl, rfl⟩
  · refine m_jF M (i := .ifCond .eq 9) 17 (by decide +kernel) rfl (by decide) c_1002 ?_
    refine m_run M (is := [(11, .aload_n 0, 0), (12, .iload_n 3, 0)]) (pc' := 13) (L' := [some (.ref 0), some (.int a0), some (.int a1), some (.int r1001)]) (st' := [.int r1001, .ref 0]) (w' := (cX tr kp th ot tp sl pk rf ik)) (by decide +kernel) rfl trivial ?_
    obtain ⟨r1009, h_1009, hf⟩ := bnd_s hf
    refine m_cV0 M (rest := []) (w2 := (cX tr kp th ot tp sl pk r1009.2 ik)) (st2 := [.int r1009.1]) (run_X3_refuse r1001   tr kp th ot tp sl pk rf ik h_1009) cv_X3_refuse lk_X3_54 (by decide +kernel) (List.range 46) List.nodup_range ⟨(by rw [List.length_range]; exact Nat.le_refl _), Nat.le_of_ble_eq_true rfl⟩ (hwId rfl) rfl rfl (Nat.le_of_ble_eq_true rfl) ⟨by decide, by decide⟩ rfl rfl ⟨Nat.zero_le _, Nat.zero_le _⟩ (hpId rfl rfl) rfl ?_
    obtain rfl := Option.some.inj hf
    exact m_iret K (by decide +kernel) (Nat.zero_le _) (Nat.zero_le _) ⟨rfl, rfl⟩

def f_X3_again (a0 : Int32) (a1 : Int32) (pk : AI) (rf : AI) : Option (Int32 × AI × AI) :=
  (f_X3_isPack a0).bind fun r1001 =>
  if r1001 = 0 then
    (f_X3_refuse (-2) rf).bind fun r1003 =>
    some (r1003.1, pk, r1003.2)
  else
    (f_X3_timesAgain a0 a1 pk).bind fun r1004 =>
    some (r1004.1, r1004.2, rf)
set_option maxRecDepth 100000 in
set_option maxHeartbeats 4000000 in
theorem run_X3_again {l : Launch} {D : va_G} {cT : Nat → ClassId} (a0 : Int32) (a1 : Int32)   (tr : ShT) (kp : ShT) (th : ShT) (ot : ShT) (tp : TpT) (sl : (Nat → SlT)) (pk : AI) (rf : AI) (ik : Int32) {r : Int32 × AI × AI} (hf : f_X3_again a0 a1 pk rf = some r) : Runs l D cT yX3_again cX3_again 3 (some .int) 2 49 [.ref 0, .int a0, .int a1] (cX tr kp th ot tp sl pk rf ik) (EQ (some (.int r.1)) (cX tr kp th ot tp sl r.2.1 r.2.2 ik)) := by
  refine runs_of O_X3 okO_X3 (by decide +kernel) rfl rfl (Nat.le_of_ble_eq_true rfl) (Nat.le_of_ble_eq_true rfl) (fun g K => ?_)
  have M := K.b
  show g 0 0 (cX tr kp th ot tp sl pk rf ik) 0 [some (.ref 0), some (.int a0), some (.int a1)] []
  rw [f_X3_again] at hf
  refine m_run M (is := [(0, .iload_n 1, 0)]) (pc' := 1) (L' := [some (.ref 0), some (.int a0), some (.int a1)]) (st' := [.int a0]) (w' := (cX tr kp th ot tp sl pk rf ik)) (by decide +kernel) rfl trivial ?_
  obtain ⟨r1001, h_1001, hf⟩ := bnd_s hf
  refine m_cS0 M (rest := []) (w2 := (cX tr kp th ot tp sl pk rf ik)) (st2 := [.int r1001]) (run_X3_isPack a0    h_1001) cs_X3_isPack lk_X3_264 (by decide +kernel) [] (by decide) ⟨Nat.le_of_ble_eq_true rfl, Nat.le_of_ble_eq_true rfl⟩ rfl rfl (Nat.le_of_ble_eq_true rfl) ⟨by decide, by decide⟩ rfl rfl ⟨Nat.zero_le _, Nat.zero_le _⟩ rfl rfl ?_
  rcases ite_s hf with ⟨c_1002, hf⟩ | ⟨c_1002, hf⟩
  · refine m_jT M (i := .ifCond .eq 12) 16 (by decide +kernel) rfl (by decide) c_1002 ?_
    refine m_run M (is := [(16, .aload_n 0, 0), (17, .bipush (-2), -2)]) (pc' := 19) (L' := [some (.ref 0), some (.int a0), some (.int a1)]) (st' := [.int (-2), .ref 0]) (w' := (cX tr kp th ot tp sl pk rf ik)) (by decide +kernel) rfl trivial ?_
    obtain ⟨r1003, h_1003, hf⟩ := bnd_s hf
    refine m_cV0 M (rest := []) (w2 := (cX tr kp th ot tp sl pk r1003.2 ik)) (st2 := [.int r1003.1]) (run_X3_refuse (-2)   tr kp th ot tp sl pk rf ik h_1003) cv_X3_refuse lk_X3_54 (by decide +kernel) (List.range 46) List.nodup_range ⟨(by rw [List.length_range]; exact Nat.le_refl _), Nat.le_of_ble_eq_true rfl⟩ (hwId rfl) rfl rfl (Nat.le_of_ble_eq_true rfl) ⟨by decide, by decide⟩ rfl rfl ⟨Nat.zero_le _, Nat.zero_le _⟩ (hpId rfl rfl) rfl ?_
    obtain rfl := Option.some.inj hf
    exact m_iret K (by decide +kernel) (Nat.zero_le _) (Nat.zero_le _) ⟨rfl, rfl⟩
  · refine m_jF M (i := .ifCond .eq 12) 16 (by decide +kernel) rfl (by decide) c_1002 ?_
    refine m_run M (is := [(7, .aload_n 0, 0), (8, .iload_n 1, 0), (9, .iload_n 2, 0)]) (pc' := 10) (L' := [some (.ref 0), some (.int a0), some (.int a1)]) (st' := [.int a1, .int a0, .ref 0]) (w' := (cX tr kp th ot tp sl pk rf ik)) (by decide +kernel) rfl trivial ?_
    obtain ⟨r1004, h_1004, hf⟩ := bnd_s hf
    refine m_cV0 M (rest := []) (w2 := (cX tr kp th ot tp sl r1004.2 rf ik)) (st2 := [.int r1004.1]) (run_X3_timesAgain a0 a1   tr kp th ot tp sl pk rf ik h_1004) cv_X3_timesAgain lk_X3_267 (by decide +kernel) (List.range 46) List.nodup_range ⟨(by rw [List.length_range]; exact Nat.le_refl _), Nat.le_of_ble_eq_true rfl⟩ (hwId rfl) rfl rfl (Nat.le_of_ble_eq_true rfl) ⟨by decide, by decide⟩ rfl rfl ⟨Nat.zero_le _, Nat.zero_le _⟩ (hpId rfl rfl) rfl ?_
    refine m_run M (is := [(13, .goto 9, 0)]) (pc' := 22) (L' := [some (.ref 0), some (.int a0), some (.int a1)]) (st' := [.int r1004.1]) (w' := (cX tr kp th ot tp sl r1004.2 rf ik)) (by decide +kernel) rfl trivial ?_
    obtain rfl := Option.some.inj hf
    exact m_iret K (by decide +kernel) (Nat.zero_le _) (Nat.zero_le _) ⟨rfl, rfl⟩

def f_X3_lies (a0 : Int32) (a1 : Int32) (a2 : Int32) (a3 : Int32) (rf : AI) : Option (Int32 × AI) :=
  (f_X3_isPack a0).bind fun r1001 =>
  if r1001 = 0 then
    (f_X3_refuse (-2) rf).bind fun r1003 =>
    some (r1003.1, r1003.2)
  else
    (f_X3_isBetween a2 0 (a0 - 1)).bind fun r1004 =>
    if r1004 = 0 then
      (f_X3_refuse (-2) rf).bind fun r1006 =>
      some (r1006.1, r1006.2)
    else
      (f_X3_isBetween a3 0 999).bind fun r1007 =>
      if r1007 = 0 then
        (f_X3_refuse (-2) rf).bind fun r1009 =>
        some (r1009.1, r1009.2)
      else
        (f_X3_shuffledTimes a0 a1 a2 a3).bind fun r1010 =>
        some (r1010, rf)
set_option maxRecDepth 100000 in
set_option maxHeartbeats 4000000 in
theorem run_X3_lies {l : Launch} {D : va_G} {cT : Nat → ClassId} (a0 : Int32) (a1 : Int32) (a2 : Int32) (a3 : Int32)   (tr : ShT) (kp : ShT) (th : ShT) (ot : ShT) (tp : TpT) (sl : (Nat → SlT)) (pk : AI) (rf : AI) (ik : Int32) {r : Int32 × AI} (hf : f_X3_lies a0 a1 a2 a3 rf = some r) : Runs l D cT yX3_lies cX3_lies 5 (some .int) 2 49 [.ref 0, .int a0, .int a1, .int a2, .int a3] (cX tr kp th ot tp sl pk rf ik) (EQ (some (.int r.1)) (cX tr kp th ot tp sl pk r.2 ik)) := by
  refine runs_of O_X3 okO_X3 (by decide +kernel) rfl rfl (Nat.le_of_ble_eq_true rfl) (Nat.le_of_ble_eq_true rfl) (fun g K => ?_)
  have M := K.b
  show g 0 0 (cX tr kp th ot tp sl pk rf ik) 0 [some (.ref 0), some (.int a0), some (.int a1), some (.int a2), some (.int a3)] []
  rw [f_X3_lies] at hf
  refine m_run M (is := [(0, .iload_n 1, 0)]) (pc' := 1) (L' := [some (.ref 0), some (.int a0), some (.int a1), some (.int a2), some (.int a3)]) (st' := [.int a0]) (w' := (cX tr kp th ot tp sl pk rf ik)) (by decide +kernel) rfl trivial ?_
  obtain ⟨r1001, h_1001, hf⟩ := bnd_s hf
  refine m_cS0 M (rest := []) (w2 := (cX tr kp th ot tp sl pk rf ik)) (st2 := [.int r1001]) (run_X3_isPack a0    h_1001) cs_X3_isPack lk_X3_264 (by decide +kernel) [] (by decide) ⟨Nat.le_of_ble_eq_true rfl, Nat.le_of_ble_eq_true rfl⟩ rfl rfl (Nat.le_of_ble_eq_true rfl) ⟨by decide, by decide⟩ rfl rfl ⟨Nat.zero_le _, Nat.zero_le _⟩ rfl rfl ?_
  rcases ite_s hf with ⟨c_1002, hf⟩ | ⟨c_1002, hf⟩
  · refine m_jT M (i := .ifCond .eq 26) 30 (by decide +kernel) rfl (by decide) c_1002 ?_
    refine m_run M (is := [(30, .aload_n 0, 0), (31, .bipush (-2), -2)]) (pc' := 33) (L' := [some (.ref 0), some (.int a0), some (.int a1), some (.int a2), some (.int a3)]) (st' := [.int (-2), .ref 0]) (w' := (cX tr kp th ot tp sl pk rf ik)) (by decide +kernel) rfl trivial ?_
    obtain ⟨r1003, h_1003, hf⟩ := bnd_s hf
    refine m_cV0 M (rest := []) (w2 := (cX tr kp th ot tp sl pk r1003.2 ik)) (st2 := [.int r1003.1]) (run_X3_refuse (-2)   tr kp th ot tp sl pk rf ik h_1003) cv_X3_refuse lk_X3_54 (by decide +kernel) (List.range 46) List.nodup_range ⟨(by rw [List.length_range]; exact Nat.le_refl _), Nat.le_of_ble_eq_true rfl⟩ (hwId rfl) rfl rfl (Nat.le_of_ble_eq_true rfl) ⟨by decide, by decide⟩ rfl rfl ⟨Nat.zero_le _, Nat.zero_le _⟩ (hpId rfl rfl) rfl ?_
    obtain rfl := Option.some.inj hf
    exact m_iret K (by decide +kernel) (Nat.zero_le _) (Nat.zero_le _) ⟨rfl, rfl⟩
  · refine m_jF M (i := .ifCond .eq 26) 30 (by decide +kernel) rfl (by decide) c_1002 ?_
    refine m_run M (is := [(7, .iload_n 3, 0), (8, .iconst 0, 0), (9, .iload_n 1, 0), (10, .iconst 1, 1), (11, .isub, 0)]) (pc' := 12) (L' := [some (.ref 0), some (.int a0), some (.int a1), some (.int a2), some (.int a3)]) (st' := [.int (a0 - 1), .int 0, .int a2]) (w' := (cX tr kp th ot tp sl pk rf ik)) (by decide +kernel) rfl trivial ?_
    obtain ⟨r1004, h_1004, hf⟩ := bnd_s hf
    refine m_cS0 M (rest := []) (w2 := (cX tr kp th ot tp sl pk rf ik)) (st2 := [.int r1004]) (run_X3_isBetween a2 0 (a0 - 1)    h_1004) cs_X3_isBetween lk_X3_50 (by decide +kernel) [] (by decide) ⟨Nat.le_of_ble_eq_true rfl, Nat.le_of_ble_eq_true rfl⟩ rfl rfl (Nat.le_of_ble_eq_true rfl) ⟨by decide, by decide⟩ rfl rfl ⟨Nat.zero_le _, Nat.zero_le _⟩ rfl rfl ?_
    rcases ite_s hf with ⟨c_1005, hf⟩ | ⟨c_1005, hf⟩
    · refine m_jT M (i := .ifCond .eq 15) 30 (by decide +kernel) rfl (by decide) c_1005 ?_
      refine m_run M (is := [(30, .aload_n 0, 0), (31, .bipush (-2), -2)]) (pc' := 33) (L' := [some (.ref 0), some (.int a0), some (.int a1), some (.int a2), some (.int a3)]) (st' := [.int (-2), .ref 0]) (w' := (cX tr kp th ot tp sl pk rf ik)) (by decide +kernel) rfl trivial ?_
      obtain ⟨r1006, h_1006, hf⟩ := bnd_s hf
      refine m_cV0 M (rest := []) (w2 := (cX tr kp th ot tp sl pk r1006.2 ik)) (st2 := [.int r1006.1]) (run_X3_refuse (-2)   tr kp th ot tp sl pk rf ik h_1006) cv_X3_refuse lk_X3_54 (by decide +kernel) (List.range 46) List.nodup_range ⟨(by rw [List.length_range]; exact Nat.le_refl _), Nat.le_of_ble_eq_true rfl⟩ (hwId rfl) rfl rfl (Nat.le_of_ble_eq_true rfl) ⟨by decide, by decide⟩ rfl rfl ⟨Nat.zero_le _, Nat.zero_le _⟩ (hpId rfl rfl) rfl ?_
      obtain rfl := Option.some.inj hf
      exact m_iret K (by decide +kernel) (Nat.zero_le _) (Nat.zero_le _) ⟨rfl, rfl⟩
    · refine m_jF M (i := .ifCond .eq 15) 30 (by decide +kernel) rfl (by decide) c_1005 ?_
      refine m_run M (is := [(18, .iload 4, 0), (20, .iconst 0, 0), (21, .sipush 999, 999)]) (pc' := 24) (L' := [some (.ref 0), some (.int a0), some (.int a1), some (.int a2), some (.int a3)]) (st' := [.int 999, .int 0, .int a3]) (w' := (cX tr kp th ot tp sl pk rf ik)) (by decide +kernel) rfl trivial ?_
      obtain ⟨r1007, h_1007, hf⟩ := bnd_s hf
      refine m_cS0 M (rest := []) (w2 := (cX tr kp th ot tp sl pk rf ik)) (st2 := [.int r1007]) (run_X3_isBetween a3 0 999    h_1007) cs_X3_isBetween lk_X3_50 (by decide +kernel) [] (by decide) ⟨Nat.le_of_ble_eq_true rfl, Nat.le_of_ble_eq_true rfl⟩ rfl rfl (Nat.le_of_ble_eq_true rfl) ⟨by decide, by decide⟩ rfl rfl ⟨Nat.zero_le _, Nat.zero_le _⟩ rfl rfl ?_
      rcases ite_s hf with ⟨c_1008, hf⟩ | ⟨c_1008, hf⟩
      · refine m_jF M (i := .ifCond .ne 10) 37 (by decide +kernel) rfl (by decide) (fun n => n c_1008) ?_
        refine m_run M (is := [(30, .aload_n 0, 0), (31, .bipush (-2), -2)]) (pc' := 33) (L' := [some (.ref 0), some (.int a0), some (.int a1), some (.int a2), some (.int a3)]) (st' := [.int (-2), .ref 0]) (w' := (cX tr kp th ot tp sl pk rf ik)) (by decide +kernel) rfl trivial ?_
        obtain ⟨r1009, h_1009, hf⟩ := bnd_s hf
        refine m_cV0 M (rest := []) (w2 := (cX tr kp th ot tp sl pk r1009.2 ik)) (st2 := [.int r1009.1]) (run_X3_refuse (-2)   tr kp th ot tp sl pk rf ik h_1009) cv_X3_refuse lk_X3_54 (by decide +kernel) (List.range 46) List.nodup_range ⟨(by rw [List.length_range]; exact Nat.le_refl _), Nat.le_of_ble_eq_true rfl⟩ (hwId rfl) rfl rfl (Nat.le_of_ble_eq_true rfl) ⟨by decide, by decide⟩ rfl rfl ⟨Nat.zero_le _, Nat.zero_le _⟩ (hpId rfl rfl) rfl ?_
        obtain rfl := Option.some.inj hf
        exact m_iret K (by decide +kernel) (Nat.zero_le _) (Nat.zero_le _) ⟨rfl, rfl⟩
      · refine m_jT M (i := .ifCond .ne 10) 37 (by decide +kernel) rfl (by decide) c_1008 ?_
        refine m_run M (is := [(37, .iload_n 1, 0), (38, .iload_n 2, 0), (39, .iload_n 3, 0), (40, .iload 4, 0)]) (pc' := 42) (L' := [some (.ref 0), some (.int a0), some (.int a1), some (.int a2), some (.int a3)]) (st' := [.int a3, .int a2, .int a1, .int a0]) (w' := (cX tr kp th ot tp sl pk rf ik)) (by decide +kernel) rfl trivial ?_
        obtain ⟨r1010, h_1010, hf⟩ := bnd_s hf
        refine m_cS0 M (rest := []) (w2 := (cX tr kp th ot tp sl pk rf ik)) (st2 := [.int r1010]) (run_X3_shuffledTimes a0 a1 a2 a3    h_1010) cs_X3_shuffledTimes lk_X3_271 (by decide +kernel) [] (by decide) ⟨Nat.le_of_ble_eq_true rfl, Nat.le_of_ble_eq_true rfl⟩ rfl rfl (Nat.le_of_ble_eq_true rfl) ⟨by decide, by decide⟩ rfl rfl ⟨Nat.zero_le _, Nat.zero_le _⟩ rfl rfl ?_
        obtain rfl := Option.some.inj hf
        exact m_iret K (by decide +kernel) (Nat.zero_le _) (Nat.zero_le _) ⟨rfl, rfl⟩

def f_X3_stay_L0 (v1 : Int32) (v2 : Int32) (v4 : Int32) : Nat → Int32 → Int32 → AI → AI → Option (Int32 × AI × AI)
  | 0, _, _, _, _ => none
  | n_ + 1, v5, v6, pk, rf =>
    if v1 ≤ v6 then
      some (v5, pk, rf)
    else
      (f_X3_shuffledTimes v1 v2 v6 v4).bind fun r102 =>
      if r102 = v6 then
        f_X3_stay_L0 v1 v2 v4 n_ (v5 + 1) (v6 + 1) pk rf
      else
        f_X3_stay_L0 v1 v2 v4 n_ v5 (v6 + 1) pk rf
def f_X3_stay (a0 : Int32) (a1 : Int32) (a2 : Int32) (pk : AI) (rf : AI) : Option (Int32 × AI × AI) :=
  (f_X3_isPack a0).bind fun r1001 =>
  if r1001 = 0 then
    (f_X3_refuse (-2) rf).bind fun r1003 =>
    some (r1003.1, pk, r1003.2)
  else
    (f_X3_isBetween a2 0 999).bind fun r1004 =>
    if r1004 = 0 then
      (f_X3_refuse (-2) rf).bind fun r1006 =>
      some (r1006.1, pk, r1006.2)
    else
      (f_X3_timesAgain a0 a1 pk).bind fun r1007 =>
      (f_J9_max_7cf53 1 r1007.1).bind fun r1008 =>
      if ¬ r1008 = 0 then
      f_X3_stay_L0 a0 a1 (a2 - a2 / r1008 * r1008) fuel0 0 0 r1007.2 rf
      else none
set_option maxRecDepth 100000 in
set_option maxHeartbeats 4000000 in
theorem run_X3_stay {l : Launch} {D : va_G} {cT : Nat → ClassId} (a0 : Int32) (a1 : Int32) (a2 : Int32)   (tr : ShT) (kp : ShT) (th : ShT) (ot : ShT) (tp : TpT) (sl : (Nat → SlT)) (pk : AI) (rf : AI) (ik : Int32) {r : Int32 × AI × AI} (hf : f_X3_stay a0 a1 a2 pk rf = some r) : Runs l D cT yX3_stay cX3_stay 7 (some .int) 2 49 [.ref 0, .int a0, .int a1, .int a2] (cX tr kp th ot tp sl pk rf ik) (EQ (some (.int r.1)) (cX tr kp th ot tp sl r.2.1 r.2.2 ik)) := by
  refine runs_of O_X3 okO_X3 (by decide +kernel) rfl rfl (Nat.le_of_ble_eq_true rfl) (Nat.le_of_ble_eq_true rfl) (fun g K => ?_)
  have M := K.b
  show g 0 0 (cX tr kp th ot tp sl pk rf ik) 0 [some (.ref 0), some (.int a0), some (.int a1), some (.int a2), none, none, none] []
  have loop_0 : ∀ (v1 : Int32) (v2 : Int32) (v4 : Int32) (n_ : Nat), (∀ (v5 : Int32) (v6 : Int32) (pk : AI) (rf : AI), f_X3_stay_L0 v1 v2 v4 n_ v5 v6 pk rf = some r → g 0 0 (cX tr kp th ot tp sl pk rf ik) 45 [none, some (.int v1), some (.int v2), none, some (.int v4), some (.int v5), some (.int v6)] []) := by
    intro v1 v2 v4 n_
    induction n_ with
    | zero => intro v5 v6 pk rf hf; cases hf
    | succ n_ ih =>
      intro v5 v6 pk rf hf
      rw [f_X3_stay_L0] at hf
      refine m_run M (is := [(45, .iload 6, 0), (47, .iload_n 1, 0)]) (pc' := 48) (L' := [none, some (.int v1), some (.int v2), none, some (.int v4), some (.int v5), some (.int v6)]) (st' := [.int v1, .int v6]) (w' := (cX tr kp th ot tp sl pk rf ik)) (by decide +kernel) rfl trivial ?_
      rcases ite_s hf with ⟨c_101, hf⟩ | ⟨c_101, hf⟩
      · refine m_jT M (i := .if_icmp .ge 26) 74 (by decide +kernel) rfl (by decide) c_101 ?_
        refine m_run M (is := [(74, .iload 5, 0)]) (pc' := 76) (L' := [none, some (.int v1), some (.int v2), none, some (.int v4), some (.int v5), some (.int v6)]) (st' := [.int v5]) (w' := (cX tr kp th ot tp sl pk rf ik)) (by decide +kernel) rfl trivial ?_
        obtain rfl := Option.some.inj hf
        exact m_iret K (by decide +kernel) (Nat.zero_le _) (Nat.zero_le _) ⟨rfl, rfl⟩
      · refine m_jF M (i := .if_icmp .ge 26) 74 (by decide +kernel) rfl (by decide) c_101 ?_
        refine m_run M (is := [(51, .iload_n 1, 0), (52, .iload_n 2, 0), (53, .iload 6, 0), (55, .iload 4, 0)]) (pc' := 57) (L' := [none, some (.int v1), some (.int v2), none, some (.int v4), some (.int v5), some (.int v6)]) (st' := [.int v4, .int v6, .int v2, .int v1]) (w' := (cX tr kp th ot tp sl pk rf ik)) (by decide +kernel) rfl trivial ?_
        obtain ⟨r102, h_102, hf⟩ := bnd_s hf
        refine m_cS0 M (rest := []) (w2 := (cX tr kp th ot tp sl pk rf ik)) (st2 := [.int r102]) (run_X3_shuffledTimes v1 v2 v6 v4    h_102) cs_X3_shuffledTimes lk_X3_271 (by decide +kernel) [] (by decide) ⟨Nat.le_of_ble_eq_true rfl, Nat.le_of_ble_eq_true rfl⟩ rfl rfl (Nat.le_of_ble_eq_true rfl) ⟨by decide, by decide⟩ rfl rfl ⟨Nat.zero_le _, Nat.zero_le _⟩ rfl rfl ?_
        refine m_run M (is := [(60, .iload 6, 0)]) (pc' := 62) (L' := [none, some (.int v1), some (.int v2), none, some (.int v4), some (.int v5), some (.int v6)]) (st' := [.int v6, .int r102]) (w' := (cX tr kp th ot tp sl pk rf ik)) (by decide +kernel) rfl trivial ?_
        rcases ite_s hf with ⟨c_103, hf⟩ | ⟨c_103, hf⟩
        · refine m_jF M (i := .if_icmp .ne 6) 68 (by decide +kernel) rfl (by decide) (fun n => n c_103) ?_
          refine m_run M (is := [(65, .iinc 5 1, 1), (68, .iinc 6 1, 1), (71, .goto (-26), 0)]) (pc' := 45) (L' := [none, some (.int v1), some (.int v2), none, some (.int v4), some (.int (v5 + 1)), some (.int (v6 + 1))]) (st' := []) (w' := (cX tr kp th ot tp sl pk rf ik)) (by decide +kernel) rfl trivial ?_
          exact ih (v5 + 1) (v6 + 1) pk rf hf
        · refine m_jT M (i := .if_icmp .ne 6) 68 (by decide +kernel) rfl (by decide) c_103 ?_
          refine m_run M (is := [(68, .iinc 6 1, 1), (71, .goto (-26), 0)]) (pc' := 45) (L' := [none, some (.int v1), some (.int v2), none, some (.int v4), some (.int v5), some (.int (v6 + 1))]) (st' := []) (w' := (cX tr kp th ot tp sl pk rf ik)) (by decide +kernel) rfl trivial ?_
          exact ih v5 (v6 + 1) pk rf hf
  rw [f_X3_stay] at hf
  refine m_run M (is := [(0, .iload_n 1, 0)]) (pc' := 1) (L' := [some (.ref 0), some (.int a0), some (.int a1), some (.int a2), none, none, none]) (st' := [.int a0]) (w' := (cX tr kp th ot tp sl pk rf ik)) (by decide +kernel) rfl trivial ?_
  obtain ⟨r1001, h_1001, hf⟩ := bnd_s hf
  refine m_cS0 M (rest := []) (w2 := (cX tr kp th ot tp sl pk rf ik)) (st2 := [.int r1001]) (run_X3_isPack a0    h_1001) cs_X3_isPack lk_X3_264 (by decide +kernel) [] (by decide) ⟨Nat.le_of_ble_eq_true rfl, Nat.le_of_ble_eq_true rfl⟩ rfl rfl (Nat.le_of_ble_eq_true rfl) ⟨by decide, by decide⟩ rfl rfl ⟨Nat.zero_le _, Nat.zero_le _⟩ rfl rfl ?_
  rcases ite_s hf with ⟨c_1002, hf⟩ | ⟨c_1002, hf⟩
  · refine m_jT M (i := .ifCond .eq 14) 18 (by decide +kernel) rfl (by decide) c_1002 ?_
    refine m_run M (is := [(18, .aload_n 0, 0), (19, .bipush (-2), -2)]) (pc' := 21) (L' := [some (.ref 0), some (.int a0), some (.int a1), some (.int a2), none, none, none]) (st' := [.int (-2), .ref 0]) (w' := (cX tr kp th ot tp sl pk rf ik)) (by decide +kernel) rfl trivial ?_
    obtain ⟨r1003, h_1003, hf⟩ := bnd_s hf
    refine m_cV0 M (rest := []) (w2 := (cX tr kp th ot tp sl pk r1003.2 ik)) (st2 := [.int r1003.1]) (run_X3_refuse (-2)   tr kp th ot tp sl pk rf ik h_1003) cv_X3_refuse lk_X3_54 (by decide +kernel) (List.range 46) List.nodup_range ⟨(by rw [List.length_range]; exact Nat.le_refl _), Nat.le_of_ble_eq_true rfl⟩ (hwId rfl) rfl rfl (Nat.le_of_ble_eq_true rfl) ⟨by decide, by decide⟩ rfl rfl ⟨Nat.zero_le _, Nat.zero_le _⟩ (hpId rfl rfl) rfl ?_
    obtain rfl := Option.some.inj hf
    exact m_iret K (by decide +kernel) (Nat.zero_le _) (Nat.zero_le _) ⟨rfl, rfl⟩
  · refine m_jF M (i := .ifCond .eq 14) 18 (by decide +kernel) rfl (by decide) c_1002 ?_
    refine m_run M (is := [(7, .iload_n 3, 0), (8, .iconst 0, 0), (9, .sipush 999, 999)]) (pc' := 12) (L' := [some (.ref 0), some (.int a0), some (.int a1), some (.int a2), none, none, none]) (st' := [.int 999, .int 0, .int a2]) (w' := (cX tr kp th ot tp sl pk rf ik)) (by decide +kernel) rfl trivial ?_
    obtain ⟨r1004, h_1004, hf⟩ := bnd_s hf
    refine m_cS0 M (rest := []) (w2 := (cX tr kp th ot tp sl pk rf ik)) (st2 := [.int r1004]) (run_X3_isBetween a2 0 999    h_1004) cs_X3_isBetween lk_X3_50 (by decide +kernel) [] (by decide) ⟨Nat.le_of_ble_eq_true rfl, Nat.le_of_ble_eq_true rfl⟩ rfl rfl (Nat.le_of_ble_eq_true rfl) ⟨by decide, by decide⟩ rfl rfl ⟨Nat.zero_le _, Nat.zero_le _⟩ rfl rfl ?_
    rcases ite_s hf with ⟨c_1005, hf⟩ | ⟨c_1005, hf⟩
    · refine m_jF M (i := .ifCond .ne 10) 25 (by decide +kernel) rfl (by decide) (fun n => n c_1005) ?_
      refine m_run M (is := [(18, .aload_n 0, 0), (19, .bipush (-2), -2)]) (pc' := 21) (L' := [some (.ref 0), some (.int a0), some (.int a1), some (.int a2), none, none, none]) (st' := [.int (-2), .ref 0]) (w' := (cX tr kp th ot tp sl pk rf ik)) (by decide +kernel) rfl trivial ?_
      obtain ⟨r1006, h_1006, hf⟩ := bnd_s hf
      refine m_cV0 M (rest := []) (w2 := (cX tr kp th ot tp sl pk r1006.2 ik)) (st2 := [.int r1006.1]) (run_X3_refuse (-2)   tr kp th ot tp sl pk rf ik h_1006) cv_X3_refuse lk_X3_54 (by decide +kernel) (List.range 46) List.nodup_range ⟨(by rw [List.length_range]; exact Nat.le_refl _), Nat.le_of_ble_eq_true rfl⟩ (hwId rfl) rfl rfl (Nat.le_of_ble_eq_true rfl) ⟨by decide, by decide⟩ rfl rfl ⟨Nat.zero_le _, Nat.zero_le _⟩ (hpId rfl rfl) rfl ?_
      obtain rfl := Option.some.inj hf
      exact m_iret K (by decide +kernel) (Nat.zero_le _) (Nat.zero_le _) ⟨rfl, rfl⟩
    · refine m_jT M (i := .ifCond .ne 10) 25 (by decide +kernel) rfl (by decide) c_1005 ?_
      refine m_run M (is := [(25, .iload_n 3, 0), (26, .iconst 1, 1), (27, .aload_n 0, 0), (28, .iload_n 1, 0), (29, .iload_n 2, 0)]) (pc' := 30) (L' := [some (.ref 0), some (.int a0), some (.int a1), some (.int a2), none, none, none]) (st' := [.int a1, .int a0, .ref 0, .int 1, .int a2]) (w' := (cX tr kp th ot tp sl pk rf ik)) (by decide +kernel) rfl trivial ?_
      obtain ⟨r1007, h_1007, hf⟩ := bnd_s hf
      refine m_cV0 M (rest := [.int 1, .int a2]) (w2 := (cX tr kp th ot tp sl r1007.2 rf ik)) (st2 := [.int r1007.1, .int 1, .int a2]) (run_X3_timesAgain a0 a1   tr kp th ot tp sl pk rf ik h_1007) cv_X3_timesAgain lk_X3_267 (by decide +kernel) (List.range 46) List.nodup_range ⟨(by rw [List.length_range]; exact Nat.le_refl _), Nat.le_of_ble_eq_true rfl⟩ (hwId rfl) rfl rfl (Nat.le_of_ble_eq_true rfl) ⟨by decide, by decide⟩ rfl rfl ⟨Nat.zero_le _, Nat.zero_le _⟩ (hpId rfl rfl) rfl ?_
      obtain ⟨r1008, h_1008, hf⟩ := bnd_s hf
      refine m_cS0 M (rest := [.int a2]) (w2 := (cX tr kp th ot tp sl r1007.2 rf ik)) (st2 := [.int r1008, .int a2]) (run_J9_max_7cf53 1 r1007.1    h_1008) cs_J9_max_7cf53 lk_X3_223 (by decide +kernel) [] (by decide) ⟨Nat.le_of_ble_eq_true rfl, Nat.le_of_ble_eq_true rfl⟩ rfl rfl (Nat.le_of_ble_eq_true rfl) ⟨by decide, by decide⟩ rfl rfl ⟨Nat.zero_le _, Nat.zero_le _⟩ rfl rfl ?_
      obtain ⟨h_1009, hf⟩ := grd_s hf
      refine m_run M (is := [(36, .irem, 0), (37, .istore 4, 0), (39, .iconst 0, 0), (40, .istore 5, 0), (42, .iconst 0, 0), (43, .istore 6, 0)]) (pc' := 45) (L' := [some (.ref 0), some (.int a0), some (.int a1), some (.int a2), some (.int (a2 - a2 / r1008 * r1008)), some (.int 0), some (.int 0)]) (st' := []) (w' := (cX tr kp th ot tp sl r1007.2 rf ik)) (by decide +kernel) rfl ⟨h_1009, trivial⟩ ?_
      refine m_wk M [none, some (.int a0), some (.int a1), none, some (.int (a2 - a2 / r1008 * r1008)), some (.int 0), some (.int 0)] ⟨Or.inl rfl, Or.inr rfl, Or.inr rfl, Or.inl rfl, Or.inr rfl, Or.inr rfl, Or.inr rfl, trivial⟩ ?_
      exact loop_0 a0 a1 (a2 - a2 / r1008 * r1008) fuel0 0 0 r1007.2 rf hf

def f_X3_rounds_L0 (v1 : Int32) (v2 : Int32) : Nat → Int32 → Int32 → AI → Option (Int32 × AI)
  | 0, _, _, _ => none
  | n_ + 1, v3, v4, rf =>
    if v1 ≤ v4 then
      some (v3, rf)
    else
      (f_X3_isLeastOfItsRound v1 v2 v4).bind fun r102 =>
      if r102 = 0 then
        f_X3_rounds_L0 v1 v2 n_ v3 (v4 + 1) rf
      else
        f_X3_rounds_L0 v1 v2 n_ (v3 + 1) (v4 + 1) rf
def f_X3_rounds (a0 : Int32) (a1 : Int32) (rf : AI) : Option (Int32 × AI) :=
  (f_X3_isPack a0).bind fun r1001 =>
  if r1001 = 0 then
    (f_X3_refuse (-2) rf).bind fun r1003 =>
    some (r1003.1, r1003.2)
  else
    f_X3_rounds_L0 a0 a1 fuel0 0 0 rf
set_option maxRecDepth 100000 in
set_option maxHeartbeats 4000000 in
theorem run_X3_rounds {l : Launch} {D : va_G} {cT : Nat → ClassId} (a0 : Int32) (a1 : Int32)   (tr : ShT) (kp : ShT) (th : ShT) (ot : ShT) (tp : TpT) (sl : (Nat → SlT)) (pk : AI) (rf : AI) (ik : Int32) {r : Int32 × AI} (hf : f_X3_rounds a0 a1 rf = some r) : Runs l D cT yX3_rounds cX3_rounds 5 (some .int) 2 48 [.ref 0, .int a0, .int a1] (cX tr kp th ot tp sl pk rf ik) (EQ (some (.int r.1)) (cX tr kp th ot tp sl pk r.2 ik)) := by
  refine runs_of O_X3 okO_X3 (by decide +kernel) rfl rfl (Nat.le_of_ble_eq_true rfl) (Nat.le_of_ble_eq_true rfl) (fun g K => ?_)
  have M := K.b
  show g 0 0 (cX tr kp th ot tp sl pk rf ik) 0 [some (.ref 0), some (.int a0), some (.int a1), none, none] []
  have loop_0 : ∀ (v1 : Int32) (v2 : Int32) (n_ : Nat), (∀ (v3 : Int32) (v4 : Int32) (rf : AI), f_X3_rounds_L0 v1 v2 n_ v3 v4 rf = some r → g 0 0 (cX tr kp th ot tp sl pk rf ik) 19 [none, some (.int v1), some (.int v2), some (.int v3), some (.int v4)] []) := by
    intro v1 v2 n_
    induction n_ with
    | zero => intro v3 v4 rf hf; cases hf
    | succ n_ ih =>
      intro v3 v4 rf hf
      rw [f_X3_rounds_L0] at hf
      refine m_run M (is := [(19, .iload 4, 0), (21, .iload_n 1, 0)]) (pc' := 22) (L' := [none, some (.int v1), some (.int v2), some (.int v3), some (.int v4)]) (st' := [.int v1, .int v4]) (w' := (cX tr kp th ot tp sl pk rf ik)) (by decide +kernel) rfl trivial ?_
      rcases ite_s hf with ⟨c_101, hf⟩ | ⟨c_101, hf⟩
      · refine m_jT M (i := .if_icmp .ge 22) 44 (by decide +kernel) rfl (by decide) c_101 ?_
        refine m_run M (is := [(44, .iload_n 3, 0)]) (pc' := 45) (L' := [none, some (.int v1), some (.int v2), some (.int v3), some (.int v4)]) (st' := [.int v3]) (w' := (cX tr kp th ot tp sl pk rf ik)) (by decide +kernel) rfl trivial ?_
        obtain rfl := Option.some.inj hf
        exact m_iret K (by decide +kernel) (Nat.zero_le _) (Nat.zero_le _) ⟨rfl, rfl⟩
      · refine m_jF M (i := .if_icmp .ge 22) 44 (by decide +kernel) rfl (by decide) c_101 ?_
        refine m_run M (is := [(25, .iload_n 1, 0), (26, .iload_n 2, 0), (27, .iload 4, 0)]) (pc' := 29) (L' := [none, some (.int v1), some (.int v2), some (.int v3), some (.int v4)]) (st' := [.int v4, .int v2, .int v1]) (w' := (cX tr kp th ot tp sl pk rf ik)) (by decide +kernel) rfl trivial ?_
        obtain ⟨r102, h_102, hf⟩ := bnd_s hf
        refine m_cS0 M (rest := []) (w2 := (cX tr kp th ot tp sl pk rf ik)) (st2 := [.int r102]) (run_X3_isLeastOfItsRound v1 v2 v4    h_102) cs_X3_isLeastOfItsRound lk_X3_275 (by decide +kernel) [] (by decide) ⟨Nat.le_of_ble_eq_true rfl, Nat.le_of_ble_eq_true rfl⟩ rfl rfl (Nat.le_of_ble_eq_true rfl) ⟨by decide, by decide⟩ rfl rfl ⟨Nat.zero_le _, Nat.zero_le _⟩ rfl rfl ?_
        rcases ite_s hf with ⟨c_103, hf⟩ | ⟨c_103, hf⟩
        · refine m_jT M (i := .ifCond .eq 6) 38 (by decide +kernel) rfl (by decide) c_103 ?_
          refine m_run M (is := [(38, .iinc 4 1, 1), (41, .goto (-22), 0)]) (pc' := 19) (L' := [none, some (.int v1), some (.int v2), some (.int v3), some (.int (v4 + 1))]) (st' := []) (w' := (cX tr kp th ot tp sl pk rf ik)) (by decide +kernel) rfl trivial ?_
          exact ih v3 (v4 + 1) rf hf
        · refine m_jF M (i := .ifCond .eq 6) 38 (by decide +kernel) rfl (by decide) c_103 ?_
          refine m_run M (is := [(35, .iinc 3 1, 1), (38, .iinc 4 1, 1), (41, .goto (-22), 0)]) (pc' := 19) (L' := [none, some (.int v1), some (.int v2), some (.int (v3 + 1)), some (.int (v4 + 1))]) (st' := []) (w' := (cX tr kp th ot tp sl pk rf ik)) (by decide +kernel) rfl trivial ?_
          exact ih (v3 + 1) (v4 + 1) rf hf
  rw [f_X3_rounds] at hf
  refine m_run M (is := [(0, .iload_n 1, 0)]) (pc' := 1) (L' := [some (.ref 0), some (.int a0), some (.int a1), none, none]) (st' := [.int a0]) (w' := (cX tr kp th ot tp sl pk rf ik)) (by decide +kernel) rfl trivial ?_
  obtain ⟨r1001, h_1001, hf⟩ := bnd_s hf
  refine m_cS0 M (rest := []) (w2 := (cX tr kp th ot tp sl pk rf ik)) (st2 := [.int r1001]) (run_X3_isPack a0    h_1001) cs_X3_isPack lk_X3_264 (by decide +kernel) [] (by decide) ⟨Nat.le_of_ble_eq_true rfl, Nat.le_of_ble_eq_true rfl⟩ rfl rfl (Nat.le_of_ble_eq_true rfl) ⟨by decide, by decide⟩ rfl rfl ⟨Nat.zero_le _, Nat.zero_le _⟩ rfl rfl ?_
  rcases ite_s hf with ⟨c_1002, hf⟩ | ⟨c_1002, hf⟩
  · refine m_jF M (i := .ifCond .ne 10) 14 (by decide +kernel) rfl (by decide) (fun n => n c_1002) ?_
    refine m_run M (is := [(7, .aload_n 0, 0), (8, .bipush (-2), -2)]) (pc' := 10) (L' := [some (.ref 0), some (.int a0), some (.int a1), none, none]) (st' := [.int (-2), .ref 0]) (w' := (cX tr kp th ot tp sl pk rf ik)) (by decide +kernel) rfl trivial ?_
    obtain ⟨r1003, h_1003, hf⟩ := bnd_s hf
    refine m_cV0 M (rest := []) (w2 := (cX tr kp th ot tp sl pk r1003.2 ik)) (st2 := [.int r1003.1]) (run_X3_refuse (-2)   tr kp th ot tp sl pk rf ik h_1003) cv_X3_refuse lk_X3_54 (by decide +kernel) (List.range 46) List.nodup_range ⟨(by rw [List.length_range]; exact Nat.le_refl _), Nat.le_of_ble_eq_true rfl⟩ (hwId rfl) rfl rfl (Nat.le_of_ble_eq_true rfl) ⟨by decide, by decide⟩ rfl rfl ⟨Nat.zero_le _, Nat.zero_le _⟩ (hpId rfl rfl) rfl ?_
    obtain rfl := Option.some.inj hf
    exact m_iret K (by decide +kernel) (Nat.zero_le _) (Nat.zero_le _) ⟨rfl, rfl⟩
  · refine m_jT M (i := .ifCond .ne 10) 14 (by decide +kernel) rfl (by decide) c_1002 ?_
    refine m_run M (is := [(14, .iconst 0, 0), (15, .istore_n 3, 0), (16, .iconst 0, 0), (17, .istore 4, 0)]) (pc' := 19) (L' := [some (.ref 0), some (.int a0), some (.int a1), some (.int 0), some (.int 0)]) (st' := []) (w' := (cX tr kp th ot tp sl pk rf ik)) (by decide +kernel) rfl trivial ?_
    refine m_wk M [none, some (.int a0), some (.int a1), some (.int 0), some (.int 0)] ⟨Or.inl rfl, Or.inr rfl, Or.inr rfl, Or.inr rfl, Or.inr rfl, trivial⟩ ?_
    exact loop_0 a0 a1 fuel0 0 0 rf hf

def f_X3_tail (a0 : Int32) (tr : ShT) (th : ShT) (rf : AI) : Option (Int32 × ShT × AI) :=
  (f_X3_isBetween a0 0 999).bind fun r1001 =>
  if r1001 = 0 then
    (f_X3_refuse (-2) rf).bind fun r1003 =>
    some (r1003.1, th, r1003.2)
  else
    (f_X1_isStuck tr).bind fun r1004 =>
    if r1004 = 0 then
      (f_X3_think a0 tr th).bind fun r1006 =>
      (f_X1_who (r1006.2.2.2.2.2.1 - 1) r1006).bind fun r1007 =>
      some (r1007, r1006, rf)
    else
      (f_X3_refuse (-5) rf).bind fun r1008 =>
      some (r1008.1, th, r1008.2)
set_option maxRecDepth 100000 in
set_option maxHeartbeats 4000000 in
theorem run_X3_tail {l : Launch} {D : va_G} {cT : Nat → ClassId} (a0 : Int32)   (tr : ShT) (kp : ShT) (th : ShT) (ot : ShT) (tp : TpT) (sl : (Nat → SlT)) (pk : AI) (rf : AI) (ik : Int32) {r : Int32 × ShT × AI} (hf : f_X3_tail a0 tr th rf = some r) : Runs l D cT yX3_tail cX3_tail 2 (some .int) 5 110 [.ref 0, .int a0] (cX tr kp th ot tp sl pk rf ik) (EQ (some (.int r.1)) (cX tr kp r.2.1 ot tp sl pk r.2.2 ik)) := by
  refine runs_of O_X3 okO_X3 (by decide +kernel) rfl rfl (Nat.le_of_ble_eq_true rfl) (Nat.le_of_ble_eq_true rfl) (fun g K => ?_)
  have M := K.b
  show g 0 0 (cX tr kp th ot tp sl pk rf ik) 0 [some (.ref 0), some (.int a0)] []
  rw [f_X3_tail] at hf
  refine m_run M (is := [(0, .iload_n 1, 0), (1, .iconst 0, 0), (2, .sipush 999, 999)]) (pc' := 5) (L' := [some (.ref 0), some (.int a0)]) (st' := [.int 999, .int 0, .int a0]) (w' := (cX tr kp th ot tp sl pk rf ik)) (by decide +kernel) rfl trivial ?_
  obtain ⟨r1001, h_1001, hf⟩ := bnd_s hf
  refine m_cS0 M (rest := []) (w2 := (cX tr kp th ot tp sl pk rf ik)) (st2 := [.int r1001]) (run_X3_isBetween a0 0 999    h_1001) cs_X3_isBetween lk_X3_50 (by decide +kernel) [] (by decide) ⟨Nat.le_of_ble_eq_true rfl, Nat.le_of_ble_eq_true rfl⟩ rfl rfl (Nat.le_of_ble_eq_true rfl) ⟨by decide, by decide⟩ rfl rfl ⟨Nat.zero_le _, Nat.zero_le _⟩ rfl rfl ?_
  rcases ite_s hf with ⟨c_1002, hf⟩ | ⟨c_1002, hf⟩
  · refine m_jF M (i := .ifCond .ne 10) 18 (by decide +kernel) rfl (by decide) (fun n => n c_1002) ?_
    refine m_run M (is := [(11, .aload_n 0, 0), (12, .bipush (-2), -2)]) (pc' := 14) (L' := [some (.ref 0), some (.int a0)]) (st' := [.int (-2), .ref 0]) (w' := (cX tr kp th ot tp sl pk rf ik)) (by decide +kernel) rfl trivial ?_
    obtain ⟨r1003, h_1003, hf⟩ := bnd_s hf
    refine m_cV0 M (rest := []) (w2 := (cX tr kp th ot tp sl pk r1003.2 ik)) (st2 := [.int r1003.1]) (run_X3_refuse (-2)   tr kp th ot tp sl pk rf ik h_1003) cv_X3_refuse lk_X3_54 (by decide +kernel) (List.range 46) List.nodup_range ⟨(by rw [List.length_range]; exact Nat.le_refl _), Nat.le_of_ble_eq_true rfl⟩ (hwId rfl) rfl rfl (Nat.le_of_ble_eq_true rfl) ⟨by decide, by decide⟩ rfl rfl ⟨Nat.zero_le _, Nat.zero_le _⟩ (hpId rfl rfl) rfl ?_
    obtain rfl := Option.some.inj hf
    exact m_iret K (by decide +kernel) (Nat.zero_le _) (Nat.zero_le _) ⟨rfl, rfl⟩
  · refine m_jT M (i := .ifCond .ne 10) 18 (by decide +kernel) rfl (by decide) c_1002 ?_
    refine m_run M (is := [(18, .aload_n 0, 0), (19, .getfield 10, 0)]) (pc' := 22) (L' := [some (.ref 0), some (.int a0)]) (st' := [.ref 1]) (w' := (cX tr kp th ot tp sl pk rf ik)) (by decide +kernel) rfl trivial ?_
    obtain ⟨r1004, h_1004, hf⟩ := bnd_s hf
    refine m_cV0 M (rest := []) (w2 := (cX tr kp th ot tp sl pk rf ik)) (st2 := [.int r1004]) (run_X1_isStuck    tr h_1004) cv_X1_isStuck lk_X3_187 (by decide +kernel) [1, 2, 3, 4, 5, 6] (by decide) ⟨Nat.le_of_ble_eq_true rfl, Nat.le_of_ble_eq_true rfl⟩ (hw_3  tr kp th ot tp sl pk rf ik) rfl rfl (Nat.le_of_ble_eq_true rfl) ⟨by decide, by decide⟩ rfl rfl ⟨Nat.zero_le _, Nat.zero_le _⟩ (hp_3  tr kp th ot tp sl pk rf ik tr) rfl ?_
    rcases ite_s hf with ⟨c_1005, hf⟩ | ⟨c_1005, hf⟩
    · refine m_jT M (i := .ifCond .eq 10) 35 (by decide +kernel) rfl (by decide) c_1005 ?_
      refine m_run M (is := [(35, .aload_n 0, 0), (36, .iload_n 1, 0)]) (pc' := 37) (L' := [some (.ref 0), some (.int a0)]) (st' := [.int a0, .ref 0]) (w' := (cX tr kp th ot tp sl pk rf ik)) (by decide +kernel) rfl trivial ?_
      obtain ⟨r1006, h_1006, hf⟩ := bnd_s hf
      refine m_cV0 M (rest := []) (w2 := (cX tr kp r1006 ot tp sl pk rf ik)) (st2 := []) (run_X3_think a0   tr kp th ot tp sl pk rf ik h_1006) cv_X3_think lk_X3_184 (by decide +kernel) (List.range 46) List.nodup_range ⟨(by rw [List.length_range]; exact Nat.le_refl _), Nat.le_of_ble_eq_true rfl⟩ (hwId rfl) rfl rfl (Nat.le_of_ble_eq_true rfl) ⟨by decide, by decide⟩ rfl rfl ⟨Nat.zero_le _, Nat.zero_le _⟩ (hpId rfl rfl) rfl ?_
      refine m_run M (is := [(40, .aload_n 0, 0), (41, .getfield 19, 0), (44, .aload_n 0, 0), (45, .getfield 19, 0), (48, .getfield 216, 0), (51, .iconst 1, 1), (52, .isub, 0)]) (pc' := 53) (L' := [some (.ref 0), some (.int a0)]) (st' := [.int (r1006.2.2.2.2.2.1 - 1), .ref 13]) (w' := (cX tr kp r1006 ot tp sl pk rf ik)) (by decide +kernel) rfl trivial ?_
      obtain ⟨r1007, h_1007, hf⟩ := bnd_s hf
      refine m_cV0 M (rest := []) (w2 := (cX tr kp r1006 ot tp sl pk rf ik)) (st2 := [.int r1007]) (run_X1_who (r1006.2.2.2.2.2.1 - 1)   r1006 h_1007) cv_X1_who lk_X3_178 (by decide +kernel) [13, 14, 15, 16, 17, 18] (by decide) ⟨Nat.le_of_ble_eq_true rfl, Nat.le_of_ble_eq_true rfl⟩ (hw_1  tr kp r1006 ot tp sl pk rf ik) rfl rfl (Nat.le_of_ble_eq_true rfl) ⟨by decide, by decide⟩ rfl rfl ⟨Nat.zero_le _, Nat.zero_le _⟩ (hp_1  tr kp r1006 ot tp sl pk rf ik r1006) rfl ?_
      obtain rfl := Option.some.inj hf
      exact m_iret K (by decide +kernel) (Nat.zero_le _) (Nat.zero_le _) ⟨rfl, rfl⟩
    · refine m_jF M (i := .ifCond .eq 10) 35 (by decide +kernel) rfl (by decide) c_1005 ?_
      refine m_run M (is := [(28, .aload_n 0, 0), (29, .bipush (-5), -5)]) (pc' := 31) (L' := [some (.ref 0), some (.int a0)]) (st' := [.int (-5), .ref 0]) (w' := (cX tr kp th ot tp sl pk rf ik)) (by decide +kernel) rfl trivial ?_
      obtain ⟨r1008, h_1008, hf⟩ := bnd_s hf
      refine m_cV0 M (rest := []) (w2 := (cX tr kp th ot tp sl pk r1008.2 ik)) (st2 := [.int r1008.1]) (run_X3_refuse (-5)   tr kp th ot tp sl pk rf ik h_1008) cv_X3_refuse lk_X3_54 (by decide +kernel) (List.range 46) List.nodup_range ⟨(by rw [List.length_range]; exact Nat.le_refl _), Nat.le_of_ble_eq_true rfl⟩ (hwId rfl) rfl rfl (Nat.le_of_ble_eq_true rfl) ⟨by decide, by decide⟩ rfl rfl ⟨Nat.zero_le _, Nat.zero_le _⟩ (hpId rfl rfl) rfl ?_
      obtain rfl := Option.some.inj hf
      exact m_iret K (by decide +kernel) (Nat.zero_le _) (Nat.zero_le _) ⟨rfl, rfl⟩

def f_X3_brings (a0 : Int32) (a1 : Int32) (a2 : Int32) (rf : AI) : Option (Int32 × AI) :=
  (f_X3_isPack a0).bind fun r1001 =>
  if r1001 = 0 then
    (f_X3_refuse (-2) rf).bind fun r1003 =>
    some (r1003.1, r1003.2)
  else
    (f_X3_isBetween a1 0 (a0 - 1)).bind fun r1004 =>
    if r1004 = 0 then
      (f_X3_refuse (-2) rf).bind fun r1006 =>
      some (r1006.1, r1006.2)
    else
      if (-1) ≤ a2 then
        (f_X3_digitsInTwos a1).bind fun r1008 =>
        if a2 = (-1) then
          some (r1008, rf)
        else
          if r1008 ≤ a2 then
            (f_X3_refuse (-5) rf).bind fun r1011 =>
            some (r1011.1, r1011.2)
          else
            some (((a1 >>> (((r1008 - 1) - a2) &&& 31)) &&& 1), rf)
      else
        (f_X3_refuse (-2) rf).bind fun r1012 =>
        some (r1012.1, r1012.2)
set_option maxRecDepth 100000 in
set_option maxHeartbeats 4000000 in
theorem run_X3_brings {l : Launch} {D : va_G} {cT : Nat → ClassId} (a0 : Int32) (a1 : Int32) (a2 : Int32)   (tr : ShT) (kp : ShT) (th : ShT) (ot : ShT) (tp : TpT) (sl : (Nat → SlT)) (pk : AI) (rf : AI) (ik : Int32) {r : Int32 × AI} (hf : f_X3_brings a0 a1 a2 rf = some r) : Runs l D cT yX3_brings cX3_brings 5 (some .int) 2 44 [.ref 0, .int a0, .int a1, .int a2] (cX tr kp th ot tp sl pk rf ik) (EQ (some (.int r.1)) (cX tr kp th ot tp sl pk r.2 ik)) := by
  refine runs_of O_X3 okO_X3 (by decide +kernel) rfl rfl (Nat.le_of_ble_eq_true rfl) (Nat.le_of_ble_eq_true rfl) (fun g K => ?_)
  have M := K.b
  show g 0 0 (cX tr kp th ot tp sl pk rf ik) 0 [some (.ref 0), some (.int a0), some (.int a1), some (.int a2), none] []
  rw [f_X3_brings] at hf
  refine m_run M (is := [(0, .iload_n 1, 0)]) (pc' := 1) (L' := [some (.ref 0), some (.int a0), some (.int a1), some (.int a2), none]) (st' := [.int a0]) (w' := (cX tr kp th ot tp sl pk rf ik)) (by decide +kernel) rfl trivial ?_
  obtain ⟨r1001, h_1001, hf⟩ := bnd_s hf
  refine m_cS0 M (rest := []) (w2 := (cX tr kp th ot tp sl pk rf ik)) (st2 := [.int r1001]) (run_X3_isPack a0    h_1001) cs_X3_isPack lk_X3_264 (by decide +kernel) [] (by decide) ⟨Nat.le_of_ble_eq_true rfl, Nat.le_of_ble_eq_true rfl⟩ rfl rfl (Nat.le_of_ble_eq_true rfl) ⟨by decide, by decide⟩ rfl rfl ⟨Nat.zero_le _, Nat.zero_le _⟩ rfl rfl ?_
  rcases ite_s hf with ⟨c_1002, hf⟩ | ⟨c_1002, hf⟩
  · refine m_jT M (i := .ifCond .eq 19) 23 (by decide +kernel) rfl (by decide) c_1002 ?_
    refine m_run M (is := [(23, .aload_n 0, 0), (24, .bipush (-2), -2)]) (pc' := 26) (L' := [some (.ref 0), some (.int a0), some (.int a1), some (.int a2), none]) (st' := [.int (-2), .ref 0]) (w' := (cX tr kp th ot tp sl pk rf ik)) (by decide +kernel) rfl trivial ?_
    obtain ⟨r1003, h_1003, hf⟩ := bnd_s hf
    refine m_cV0 M (rest := []) (w2 := (cX tr kp th ot tp sl pk r1003.2 ik)) (st2 := [.int r1003.1]) (run_X3_refuse (-2)   tr kp th ot tp sl pk rf ik h_1003) cv_X3_refuse lk_X3_54 (by decide +kernel) (List.range 46) List.nodup_range ⟨(by rw [List.length_range]; exact Nat.le_refl _), Nat.le_of_ble_eq_true rfl⟩ (hwId rfl) rfl rfl (Nat.le_of_ble_eq_true rfl) ⟨by decide, by decide⟩ rfl rfl ⟨Nat.zero_le _, Nat.zero_le _⟩ (hpId rfl rfl) rfl ?_
    obtain rfl := Option.some.inj hf
    exact m_iret K (by decide +kernel) (Nat.zero_le _) (Nat.zero_le _) ⟨rfl, rfl⟩
  · refine m_jF M (i := .ifCond .eq 19) 23 (by decide +kernel) rfl (by decide) c_1002 ?_
    refine m_run M (is := [(7, .iload_n 2, 0), (8, .iconst 0, 0), (9, .iload_n 1, 0), (10, .iconst 1, 1), (11, .isub, 0)]) (pc' := 12) (L' := [some (.ref 0), some (.int a0), some (.int a1), some (.int a2), none]) (st' := [.int (a0 - 1), .int 0, .int a1]) (w' := (cX tr kp th ot tp sl pk rf ik)) (by decide +kernel) rfl trivial ?_
    obtain ⟨r1004, h_1004, hf⟩ := bnd_s hf
    refine m_cS0 M (rest := []) (w2 := (cX tr kp th ot tp sl pk rf ik)) (st2 := [.int r1004]) (run_X3_isBetween a1 0 (a0 - 1)    h_1004) cs_X3_isBetween lk_X3_50 (by decide +kernel) [] (by decide) ⟨Nat.le_of_ble_eq_true rfl, Nat.le_of_ble_eq_true rfl⟩ rfl rfl (Nat.le_of_ble_eq_true rfl) ⟨by decide, by decide⟩ rfl rfl ⟨Nat.zero_le _, Nat.zero_le _⟩ rfl rfl ?_
    rcases ite_s hf with ⟨c_1005, hf⟩ | ⟨c_1005, hf⟩
    · refine m_jT M (i := .ifCond .eq 8) 23 (by decide +kernel) rfl (by decide) c_1005 ?_
      refine m_run M (is := [(23, .aload_n 0, 0), (24, .bipush (-2), -2)]) (pc' := 26) (L' := [some (.ref 0), some (.int a0), some (.int a1), some (.int a2), none]) (st' := [.int (-2), .ref 0]) (w' := (cX tr kp th ot tp sl pk rf ik)) (by decide +kernel) rfl trivial ?_
      obtain ⟨r1006, h_1006, hf⟩ := bnd_s hf
      refine m_cV0 M (rest := []) (w2 := (cX tr kp th ot tp sl pk r1006.2 ik)) (st2 := [.int r1006.1]) (run_X3_refuse (-2)   tr kp th ot tp sl pk rf ik h_1006) cv_X3_refuse lk_X3_54 (by decide +kernel) (List.range 46) List.nodup_range ⟨(by rw [List.length_range]; exact Nat.le_refl _), Nat.le_of_ble_eq_true rfl⟩ (hwId rfl) rfl rfl (Nat.le_of_ble_eq_true rfl) ⟨by decide, by decide⟩ rfl rfl ⟨Nat.zero_le _, Nat.zero_le _⟩ (hpId rfl rfl) rfl ?_
      obtain rfl := Option.some.inj hf
      exact m_iret K (by decide +kernel) (Nat.zero_le _) (Nat.zero_le _) ⟨rfl, rfl⟩
    · refine m_jF M (i := .ifCond .eq 8) 23 (by decide +kernel) rfl (by decide) c_1005 ?_
      refine m_run M (is := [(18, .iload_n 3, 0), (19, .iconst (-1), -1)]) (pc' := 20) (L' := [some (.ref 0), some (.int a0), some (.int a1), some (.int a2), none]) (st' := [.int (-1), .int a2]) (w' := (cX tr kp th ot tp sl pk rf ik)) (by decide +kernel) rfl trivial ?_
      rcases ite_s hf with ⟨c_1007, hf⟩ | ⟨c_1007, hf⟩
      · refine m_jT M (i := .if_icmp .ge 10) 30 (by decide +kernel) rfl (by decide) c_1007 ?_
        refine m_run M (is := [(30, .iload_n 2, 0)]) (pc' := 31) (L' := [some (.ref 0), some (.int a0), some (.int a1), some (.int a2), none]) (st' := [.int a1]) (w' := (cX tr kp th ot tp sl pk rf ik)) (by decide +kernel) rfl trivial ?_
        obtain ⟨r1008, h_1008, hf⟩ := bnd_s hf
        refine m_cS0 M (rest := []) (w2 := (cX tr kp th ot tp sl pk rf ik)) (st2 := [.int r1008]) (run_X3_digitsInTwos a1    h_1008) cs_X3_digitsInTwos lk_X3_279 (by decide +kernel) [] (by decide) ⟨Nat.le_of_ble_eq_true rfl, Nat.le_of_ble_eq_true rfl⟩ rfl rfl (Nat.le_of_ble_eq_true rfl) ⟨by decide, by decide⟩ rfl rfl ⟨Nat.zero_le _, Nat.zero_le _⟩ rfl rfl ?_
        refine m_run M (is := [(34, .istore 4, 0), (36, .iload_n 3, 0), (37, .iconst (-1), -1)]) (pc' := 38) (L' := [some (.ref 0), some (.int a0), some (.int a1), some (.int a2), some (.int r1008)]) (st' := [.int (-1), .int a2]) (w' := (cX tr kp th ot tp sl pk rf ik)) (by decide +kernel) rfl trivial ?_
        rcases ite_s hf with ⟨c_1009, hf⟩ | ⟨c_1009, hf⟩
        · refine m_jF M (i := .if_icmp .ne 6) 44 (by decide +kernel) rfl (by decide) (fun n => n c_1009) ?_
          refine m_run M (is := [(41, .iload 4, 0)]) (pc' := 43) (L' := [some (.ref 0), some (.int a0), some (.int a1), some (.int a2), some (.int r1008)]) (st' := [.int r1008]) (w' := (cX tr kp th ot tp sl pk rf ik)) (by decide +kernel) rfl trivial ?_
          obtain rfl := Option.some.inj hf
          exact m_iret K (by decide +kernel) (Nat.zero_le _) (Nat.zero_le _) ⟨rfl, rfl⟩
        · refine m_jT M (i := .if_icmp .ne 6) 44 (by decide +kernel) rfl (by decide) c_1009 ?_
          refine m_run M (is := [(44, .iload_n 3, 0), (45, .iload 4, 0)]) (pc' := 47) (L' := [some (.ref 0), some (.int a0), some (.int a1), some (.int a2), some (.int r1008)]) (st' := [.int r1008, .int a2]) (w' := (cX tr kp th ot tp sl pk rf ik)) (by decide +kernel) rfl trivial ?_
          rcases ite_s hf with ⟨c_1010, hf⟩ | ⟨c_1010, hf⟩
          · refine m_jT M (i := .if_icmp .ge 16) 63 (by decide +kernel) rfl (by decide) c_1010 ?_
            refine m_run M (is := [(63, .aload_n 0, 0), (64, .bipush (-5), -5)]) (pc' := 66) (L' := [some (.ref 0), some (.int a0), some (.int a1), some (.int a2), some (.int r1008)]) (st' := [.int (-5), .ref 0]) (w' := (cX tr kp th ot tp sl pk rf ik)) (by decide +kernel) rfl trivial ?_
            obtain ⟨r1011, h_1011, hf⟩ := bnd_s hf
            refine m_cV0 M (rest := []) (w2 := (cX tr kp th ot tp sl pk r1011.2 ik)) (st2 := [.int r1011.1]) (run_X3_refuse (-5)   tr kp th ot tp sl pk rf ik h_1011) cv_X3_refuse lk_X3_54 (by decide +kernel) (List.range 46) List.nodup_range ⟨(by rw [List.length_range]; exact Nat.le_refl _), Nat.le_of_ble_eq_true rfl⟩ (hwId rfl) rfl rfl (Nat.le_of_ble_eq_true rfl) ⟨by decide, by decide⟩ rfl rfl ⟨Nat.zero_le _, Nat.zero_le _⟩ (hpId rfl rfl) rfl ?_
            obtain rfl := Option.some.inj hf
            exact m_iret K (by decide +kernel) (Nat.zero_le _) (Nat.zero_le _) ⟨rfl, rfl⟩
          · refine m_jF M (i := .if_icmp .ge 16) 63 (by decide +kernel) rfl (by decide) c_1010 ?_
            refine m_run M (is := [(50, .iload_n 2, 0), (51, .iload 4, 0), (53, .iconst 1, 1), (54, .isub, 0), (55, .iload_n 3, 0), (56, .isub, 0), (57, .ishr, 0), (58, .iconst 1, 1), (59, .iand, 0), (60, .goto 9, 0)]) (pc' := 69) (L' := [some (.ref 0), some (.int a0), some (.int a1), some (.int a2), some (.int r1008)]) (st' := [.int ((a1 >>> (((r1008 - 1) - a2) &&& 31)) &&& 1)]) (w' := (cX tr kp th ot tp sl pk rf ik)) (by decide +kernel) rfl trivial ?_
            obtain rfl := Option.some.inj hf
            exact m_iret K (by decide +kernel) (Nat.zero_le _) (Nat.zero_le _) ⟨rfl, rfl⟩
      · refine m_jF M (i := .if_icmp .ge 10) 30 (by decide +kernel) rfl (by decide) c_1007 ?_
        refine m_run M (is := [(23, .aload_n 0, 0), (24, .bipush (-2), -2)]) (pc' := 26) (L' := [some (.ref 0), some (.int a0), some (.int a1), some (.int a2), none]) (st' := [.int (-2), .ref 0]) (w' := (cX tr kp th ot tp sl pk rf ik)) (by decide +kernel) rfl trivial ?_
        obtain ⟨r1012, h_1012, hf⟩ := bnd_s hf
        refine m_cV0 M (rest := []) (w2 := (cX tr kp th ot tp sl pk r1012.2 ik)) (st2 := [.int r1012.1]) (run_X3_refuse (-2)   tr kp th ot tp sl pk rf ik h_1012) cv_X3_refuse lk_X3_54 (by decide +kernel) (List.range 46) List.nodup_range ⟨(by rw [List.length_range]; exact Nat.le_refl _), Nat.le_of_ble_eq_true rfl⟩ (hwId rfl) rfl rfl (Nat.le_of_ble_eq_true rfl) ⟨by decide, by decide⟩ rfl rfl ⟨Nat.zero_le _, Nat.zero_le _⟩ (hpId rfl rfl) rfl ?_
        obtain rfl := Option.some.inj hf
        exact m_iret K (by decide +kernel) (Nat.zero_le _) (Nat.zero_le _) ⟨rfl, rfl⟩

def f_X3_after_L0 (v1 : Int32) (v2 : Int32) (tr : ShT) (sl : (Nat → SlT)) : Nat → Int32 → ShT → AI → Option (Int32 × ShT × AI)
  | 0, _, _, _ => none
  | n_ + 1, v4, th, rf =>
    if v2 ≤ v4 then
      (f_X1_who 0 th).bind fun r102 =>
      some (r102, th, rf)
    else
      if inB v1 8 then
      (f_X0_elementAt v4 (sl v1.toNatClampNeg)).bind fun r104 =>
      if (lg_cmp r104 0) < 0 then
        (f_X3_refuse (-5) rf).bind fun r106 =>
        some (r106.1, th, r106.2)
      else
        if (lg_cmp r104 (((th.2.2.2.2.2.1 - 1)).toInt64)) < 0 then
          (f_X1_letBefore r104.toInt32 th).bind fun r108 =>
          f_X3_after_L0 v1 v2 tr sl n_ (v4 + 1) r108.2 rf
        else
          (f_X3_refuse (-5) rf).bind fun r109 =>
          some (r109.1, th, r109.2)
      else none
def f_X3_after (a0 : Int32) (a1 : Int32) (tr : ShT) (th : ShT) (sl : (Nat → SlT)) (rf : AI) : Option (Int32 × ShT × AI) :=
  (f_X3_refusalOfSlate a0 a1 tr sl).bind fun r1001 =>
  if r1001 = 0 then
    (f_X1_become th tr).bind fun r1003 =>
    f_X3_after_L0 a0 a1 tr sl fuel0 0 r1003 rf
  else
    (f_X3_refuse r1001 rf).bind fun r1004 =>
    some (r1004.1, th, r1004.2)
set_option maxRecDepth 100000 in
set_option maxHeartbeats 4000000 in
theorem run_X3_after {l : Launch} {D : va_G} {cT : Nat → ClassId} (a0 : Int32) (a1 : Int32)   (tr : ShT) (kp : ShT) (th : ShT) (ot : ShT) (tp : TpT) (sl : (Nat → SlT)) (pk : AI) (rf : AI) (ik : Int32) {r : Int32 × ShT × AI} (hf : f_X3_after a0 a1 tr th sl rf = some r) : Runs l D cT yX3_after cX3_after 7 (some .int) 3 65 [.ref 0, .int a0, .int a1] (cX tr kp th ot tp sl pk rf ik) (EQ (some (.int r.1)) (cX tr kp r.2.1 ot tp sl pk r.2.2 ik)) := by
  refine runs_of O_X3 okO_X3 (by decide +kernel) rfl rfl (Nat.le_of_ble_eq_true rfl) (Nat.le_of_ble_eq_true rfl) (fun g K => ?_)
  have M := K.b
  show g 0 0 (cX tr kp th ot tp sl pk rf ik) 0 [some (.ref 0), some (.int a0), some (.int a1), none, none, none, none] []
  have loop_0 : ∀ (v1 : Int32) (v2 : Int32) (n_ : Nat), (∀ (v4 : Int32) (th : ShT) (rf : AI), f_X3_after_L0 v1 v2 tr sl n_ v4 th rf = some r → g 0 0 (cX tr kp th ot tp sl pk rf ik) 31 [some (.ref 0), some (.int v1), some (.int v2), none, some (.int v4), none, none] []) := by
    intro v1 v2 n_
    induction n_ with
    | zero => intro v4 th rf hf; cases hf
    | succ n_ ih =>
      intro v4 th rf hf
      rw [f_X3_after_L0] at hf
      refine m_run M (is := [(31, .iload 4, 0), (33, .iload_n 2, 0)]) (pc' := 34) (L' := [some (.ref 0), some (.int v1), some (.int v2), none, some (.int v4), none, none]) (st' := [.int v2, .int v4]) (w' := (cX tr kp th ot tp sl pk rf ik)) (by decide +kernel) rfl trivial ?_
      rcases ite_s hf with ⟨c_101, hf⟩ | ⟨c_101, hf⟩
      · refine m_jT M (i := .if_icmp .ge 63) 97 (by decide +kernel) rfl (by decide) c_101 ?_
        refine m_run M (is := [(97, .aload_n 0, 0), (98, .getfield 19, 0), (101, .iconst 0, 0)]) (pc' := 102) (L' := [some (.ref 0), some (.int v1), some (.int v2), none, some (.int v4), none, none]) (st' := [.int 0, .ref 13]) (w' := (cX tr kp th ot tp sl pk rf ik)) (by decide +kernel) rfl trivial ?_
        obtain ⟨r102, h_102, hf⟩ := bnd_s hf
        refine m_cV0 M (rest := []) (w2 := (cX tr kp th ot tp sl pk rf ik)) (st2 := [.int r102]) (run_X1_who 0   th h_102) cv_X1_who lk_X3_178 (by decide +kernel) [13, 14, 15, 16, 17, 18] (by decide) ⟨Nat.le_of_ble_eq_true rfl, Nat.le_of_ble_eq_true rfl⟩ (hw_1  tr kp th ot tp sl pk rf ik) rfl rfl (Nat.le_of_ble_eq_true rfl) ⟨by decide, by decide⟩ rfl rfl ⟨Nat.zero_le _, Nat.zero_le _⟩ (hp_1  tr kp th ot tp sl pk rf ik th) rfl ?_
        obtain rfl := Option.some.inj hf
        exact m_iret K (by decide +kernel) (Nat.zero_le _) (Nat.zero_le _) ⟨rfl, rfl⟩
      · refine m_jF M (i := .if_icmp .ge 63) 97 (by decide +kernel) rfl (by decide) c_101 ?_
        obtain ⟨h_103, hf⟩ := grd_s hf
        refine m_run M (is := [(37, .aload_n 0, 0), (38, .getfield 34, 0), (41, .iload_n 1, 0)]) (pc' := 42) (L' := [some (.ref 0), some (.int v1), some (.int v2), none, some (.int v4), none, none]) (st' := [.int v1, .ref 27]) (w' := (cX tr kp th ot tp sl pk rf ik)) (by decide +kernel) rfl trivial ?_
        refine m_run M (is := [(42, .aaload, 0)]) (pc' := 43) (L' := [some (.ref 0), some (.int v1), some (.int v2), none, some (.int v4), none, none]) (st' := [.ref (30 + 2 * v1.toNatClampNeg)]) (w' := (cX tr kp th ot tp sl pk rf ik)) (by decide +kernel) (s_aald rfl rfl (fX_30 (inB_lt h_103))) ⟨inB_use h_103, trivial⟩ ?_
        refine m_run M (is := [(43, .iload 4, 0)]) (pc' := 45) (L' := [some (.ref 0), some (.int v1), some (.int v2), none, some (.int v4), none, none]) (st' := [.int v4, .ref (30 + 2 * v1.toNatClampNeg)]) (w' := (cX tr kp th ot tp sl pk rf ik)) (by decide +kernel) rfl trivial ?_
        obtain ⟨r104, h_104, hf⟩ := bnd_s hf
        refine m_cV0 M (rest := []) (w2 := (cX tr kp th ot tp sl pk rf ik)) (st2 := [.long r104]) (run_X0_elementAt v4   (sl v1.toNatClampNeg) h_104) cv_X0_elementAt lk_X3_95 (by decide +kernel) [30 + 2 * v1.toNatClampNeg, 31 + 2 * v1.toNatClampNeg] (by simp) ⟨Nat.le_of_ble_eq_true rfl, Nat.le_of_ble_eq_true rfl⟩ (hw_2  (inB_lt h_103) tr kp th ot tp sl pk rf ik) rfl rfl (Nat.le_of_ble_eq_true rfl) ⟨by decide, by decide⟩ rfl rfl ⟨Nat.zero_le _, Nat.zero_le _⟩ (by have z := (hp_2  (inB_lt h_103) tr kp th ot tp sl pk rf ik (sl v1.toNatClampNeg)); first | exact z | (simp only [va_up_id] at z; exact z)) rfl ?_
        refine m_run M (is := [(48, .lstore 5, 0), (50, .lload 5, 0), (52, .lconst 0, 0), (53, .lcmp, 0)]) (pc' := 54) (L' := [some (.ref 0), some (.int v1), some (.int v2), none, some (.int v4), some (.long r104), none]) (st' := [.int (lg_cmp r104 0)]) (w' := (cX tr kp th ot tp sl pk rf ik)) (by decide +kernel) rfl trivial ?_
        rcases ite_s hf with ⟨c_105, hf⟩ | ⟨c_105, hf⟩
        · refine m_jT M (i := .ifCond .lt 19) 73 (by decide +kernel) rfl (by decide) c_105 ?_
          refine m_run M (is := [(73, .aload_n 0, 0), (74, .bipush (-5), -5)]) (pc' := 76) (L' := [some (.ref 0), some (.int v1), some (.int v2), none, some (.int v4), some (.long r104), none]) (st' := [.int (-5), .ref 0]) (w' := (cX tr kp th ot tp sl pk rf ik)) (by decide +kernel) rfl trivial ?_
          obtain ⟨r106, h_106, hf⟩ := bnd_s hf
          refine m_cV0 M (rest := []) (w2 := (cX tr kp th ot tp sl pk r106.2 ik)) (st2 := [.int r106.1]) (run_X3_refuse (-5)   tr kp th ot tp sl pk rf ik h_106) cv_X3_refuse lk_X3_54 (by decide +kernel) (List.range 46) List.nodup_range ⟨(by rw [List.length_range]; exact Nat.le_refl _), Nat.le_of_ble_eq_true rfl⟩ (hwId rfl) rfl rfl (Nat.le_of_ble_eq_true rfl) ⟨by decide, by decide⟩ rfl rfl ⟨Nat.zero_le _, Nat.zero_le _⟩ (hpId rfl rfl) rfl ?_
          obtain rfl := Option.some.inj hf
          exact m_iret K (by decide +kernel) (Nat.zero_le _) (Nat.zero_le _) ⟨rfl, rfl⟩
        · refine m_jF M (i := .ifCond .lt 19) 73 (by decide +kernel) rfl (by decide) c_105 ?_
          refine m_run M (is := [(57, .lload 5, 0), (59, .aload_n 0, 0), (60, .getfield 19, 0), (63, .getfield 216, 0), (66, .iconst 1, 1), (67, .isub, 0), (68, .i2l, 0), (69, .lcmp, 0)]) (pc' := 70) (L' := [some (.ref 0), some (.int v1), some (.int v2), none, some (.int v4), some (.long r104), none]) (st' := [.int (lg_cmp r104 (((th.2.2.2.2.2.1 - 1)).toInt64))]) (w' := (cX tr kp th ot tp sl pk rf ik)) (by decide +kernel) rfl trivial ?_
          rcases ite_s hf with ⟨c_107, hf⟩ | ⟨c_107, hf⟩
          · refine m_jT M (i := .ifCond .lt 10) 80 (by decide +kernel) rfl (by decide) c_107 ?_
            refine m_run M (is := [(80, .aload_n 0, 0), (81, .getfield 19, 0), (84, .lload 5, 0), (86, .l2i, 0)]) (pc' := 87) (L' := [some (.ref 0), some (.int v1), some (.int v2), none, some (.int v4), some (.long r104), none]) (st' := [.int r104.toInt32, .ref 13]) (w' := (cX tr kp th ot tp sl pk rf ik)) (by decide +kernel) rfl trivial ?_
            obtain ⟨r108, h_108, hf⟩ := bnd_s hf
            refine m_cV0 M (rest := []) (w2 := (cX tr kp r108.2 ot tp sl pk rf ik)) (st2 := [.int r108.1]) (run_X1_letBefore r104.toInt32   th h_108) cv_X1_letBefore lk_X3_282 (by decide +kernel) [13, 14, 15, 16, 17, 18] (by decide) ⟨Nat.le_of_ble_eq_true rfl, Nat.le_of_ble_eq_true rfl⟩ (hw_1  tr kp th ot tp sl pk rf ik) rfl rfl (Nat.le_of_ble_eq_true rfl) ⟨by decide, by decide⟩ rfl rfl ⟨Nat.zero_le _, Nat.zero_le _⟩ (hp_1  tr kp th ot tp sl pk rf ik r108.2) rfl ?_
            refine m_run M (is := [(90, .pop, 0), (91, .iinc 4 1, 1), (94, .goto (-63), 0)]) (pc' := 31) (L' := [some (.ref 0), some (.int v1), some (.int v2), none, some (.int (v4 + 1)), some (.long r104), none]) (st' := []) (w' := (cX tr kp r108.2 ot tp sl pk rf ik)) (by decide +kernel) rfl trivial ?_
            refine m_wk M [some (.ref 0), some (.int v1), some (.int v2), none, some (.int (v4 + 1)), none, none] ⟨Or.inr rfl, Or.inr rfl, Or.inr rfl, Or.inr rfl, Or.inr rfl, Or.inl rfl, Or.inr rfl, trivial⟩ ?_
            exact ih (v4 + 1) r108.2 rf hf
          · refine m_jF M (i := .ifCond .lt 10) 80 (by decide +kernel) rfl (by decide) c_107 ?_
            refine m_run M (is := [(73, .aload_n 0, 0), (74, .bipush (-5), -5)]) (pc' := 76) (L' := [some (.ref 0), some (.int v1), some (.int v2), none, some (.int v4), some (.long r104), none]) (st' := [.int (-5), .ref 0]) (w' := (cX tr kp th ot tp sl pk rf ik)) (by decide +kernel) rfl trivial ?_
            obtain ⟨r109, h_109, hf⟩ := bnd_s hf
            refine m_cV0 M (rest := []) (w2 := (cX tr kp th ot tp sl pk r109.2 ik)) (st2 := [.int r109.1]) (run_X3_refuse (-5)   tr kp th ot tp sl pk rf ik h_109) cv_X3_refuse lk_X3_54 (by decide +kernel) (List.range 46) List.nodup_range ⟨(by rw [List.length_range]; exact Nat.le_refl _), Nat.le_of_ble_eq_true rfl⟩ (hwId rfl) rfl rfl (Nat.le_of_ble_eq_true rfl) ⟨by decide, by decide⟩ rfl rfl ⟨Nat.zero_le _, Nat.zero_le _⟩ (hpId rfl rfl) rfl ?_
            obtain rfl := Option.some.inj hf
            exact m_iret K (by decide +kernel) (Nat.zero_le _) (Nat.zero_le _) ⟨rfl, rfl⟩
  rw [f_X3_after] at hf
  refine m_run M (is := [(0, .aload_n 0, 0), (1, .iload_n 1, 0), (2, .iload_n 2, 0)]) (pc' := 3) (L' := [some (.ref 0), some (.int a0), some (.int a1), none, none, none, none]) (st' := [.int a1, .int a0, .ref 0]) (w' := (cX tr kp th ot tp sl pk rf ik)) (by decide +kernel) rfl trivial ?_
  obtain ⟨r1001, h_1001, hf⟩ := bnd_s hf
  refine m_cV0 M (rest := []) (w2 := (cX tr kp th ot tp sl pk rf ik)) (st2 := [.int r1001]) (run_X3_refusalOfSlate a0 a1   tr kp th ot tp sl pk rf ik h_1001) cv_X3_refusalOfSlate lk_X3_254 (by decide +kernel) (List.range 46) List.nodup_range ⟨(by rw [List.length_range]; exact Nat.le_refl _), Nat.le_of_ble_eq_true rfl⟩ (hwId rfl) rfl rfl (Nat.le_of_ble_eq_true rfl) ⟨by decide, by decide⟩ rfl rfl ⟨Nat.zero_le _, Nat.zero_le _⟩ (hpId rfl rfl) rfl ?_
  refine m_run M (is := [(6, .istore_n 3, 0), (7, .iload_n 3, 0)]) (pc' := 8) (L' := [some (.ref 0), some (.int a0), some (.int a1), some (.int r1001), none, none, none]) (st' := [.int r1001]) (w' := (cX tr kp th ot tp sl pk rf ik)) (by decide +kernel) rfl trivial ?_
  rcases ite_s hf with ⟨c_1002, hf⟩ | ⟨c_1002, hf⟩
  · refine m_jT M (i := .ifCond .eq 9) 17 (by decide +kernel) rfl (by decide) c_1002 ?_
    refine m_run M (is := [(17, .aload_n 0, 0), (18, .getfield 19, 0), (21, .aload_n 0, 0), (22, .getfield 10, 0)]) (pc' := 25) (L' := [some (.ref 0), some (.int a0), some (.int a1), some (.int r1001), none, none, none]) (st' := [.ref 1, .ref 13]) (w' := (cX tr kp th ot tp sl pk rf ik)) (by decide +kernel) rfl trivial ?_
    obtain ⟨r1003, h_1003, hf⟩ := bnd_s hf
    refine m_cV0 M (rest := []) (w2 := (cX tr kp r1003 ot tp sl pk rf ik)) (st2 := []) (run_X1_become    th tr h_1003) cv_X1_become lk_X3_161 (by decide +kernel) [13, 14, 15, 16, 17, 18, 1, 2, 3, 4, 5, 6] (by decide) ⟨Nat.le_of_ble_eq_true rfl, Nat.le_of_ble_eq_true rfl⟩ (hw_0  tr kp th ot tp sl pk rf ik) rfl rfl (Nat.le_of_ble_eq_true rfl) ⟨by decide, by decide⟩ rfl rfl ⟨Nat.zero_le _, Nat.zero_le _⟩ (hp_0  tr kp th ot tp sl pk rf ik r1003 tr) rfl ?_
    refine m_run M (is := [(28, .iconst 0, 0), (29, .istore 4, 0)]) (pc' := 31) (L' := [some (.ref 0), some (.int a0), some (.int a1), some (.int r1001), some (.int 0), none, none]) (st' := []) (w' := (cX tr kp r1003 ot tp sl pk rf ik)) (by decide +kernel) rfl trivial ?_
    refine m_wk M [some (.ref 0), some (.int a0), some (.int a1), none, some (.int 0), none, none] ⟨Or.inr rfl, Or.inr rfl, Or.inr rfl, Or.inl rfl, Or.inr rfl, Or.inr rfl, Or.inr rfl, trivial⟩ ?_
    exact loop_0 a0 a1 fuel0 0 r1003 rf hf
  · refine m_jF M (i := .ifCond .eq 9) 17 (by decide +kernel) rfl (by decide) c_1002 ?_
    refine m_run M (is := [(11, .aload_n 0, 0), (12, .iload_n 3, 0)]) (pc' := 13) (L' := [some (.ref 0), some (.int a0), some (.int a1), some (.int r1001), none, none, none]) (st' := [.int r1001, .ref 0]) (w' := (cX tr kp th ot tp sl pk rf ik)) (by decide +kernel) rfl trivial ?_
    obtain ⟨r1004, h_1004, hf⟩ := bnd_s hf
    refine m_cV0 M (rest := []) (w2 := (cX tr kp th ot tp sl pk r1004.2 ik)) (st2 := [.int r1004.1]) (run_X3_refuse r1001   tr kp th ot tp sl pk rf ik h_1004) cv_X3_refuse lk_X3_54 (by decide +kernel) (List.range 46) List.nodup_range ⟨(by rw [List.length_range]; exact Nat.le_refl _), Nat.le_of_ble_eq_true rfl⟩ (hwId rfl) rfl rfl (Nat.le_of_ble_eq_true rfl) ⟨by decide, by decide⟩ rfl rfl ⟨Nat.zero_le _, Nat.zero_le _⟩ (hpId rfl rfl) rfl ?_
    obtain rfl := Option.some.inj hf
    exact m_iret K (by decide +kernel) (Nat.zero_le _) (Nat.zero_le _) ⟨rfl, rfl⟩

def f_X3_fewest_L0 (v1 : Int32) (tr : ShT) (sl : (Nat → SlT)) : Nat → Int32 → Int32 → ShT → AI → Option (Int32 × ShT × AI)
  | 0, _, _, _, _ => none
  | n_ + 1, v3, v4, th, rf =>
    if th.2.2.2.2.2.1 ≤ v4 then
      some (v3, th, rf)
    else
      if inB v1 8 then
      (f_X0_elementAt v4 (sl v1.toNatClampNeg)).bind fun r103 =>
      (f_X1_placeOf r103.toInt32 th).bind fun r104 =>
      (f_X1_move r103.toInt32 v4 th).bind fun r105 =>
      f_X3_fewest_L0 v1 tr sl n_ (v3 + (r104 - v4)) (v4 + 1) r105 rf
      else none
def f_X3_fewest (a0 : Int32) (tr : ShT) (th : ShT) (sl : (Nat → SlT)) (rf : AI) : Option (Int32 × ShT × AI) :=
  (f_X3_refusalOfSlate a0 tr.2.2.2.2.2.1 tr sl).bind fun r1001 =>
  if r1001 = 0 then
    if inB a0 8 then
    (f_X3_hasAllPeople a0.toNatClampNeg tr sl).bind fun r1004 =>
    if r1004 = 0 then
      (f_X3_refuse (-5) rf).bind fun r1006 =>
      some (r1006.1, th, r1006.2)
    else
      (f_X1_become th tr).bind fun r1007 =>
      f_X3_fewest_L0 a0 tr sl fuel0 0 0 r1007 rf
    else none
  else
    (f_X3_refuse r1001 rf).bind fun r1008 =>
    some (r1008.1, th, r1008.2)
set_option maxRecDepth 100000 in
set_option maxHeartbeats 4000000 in
theorem run_X3_fewest {l : Launch} {D : va_G} {cT : Nat → ClassId} (a0 : Int32)   (tr : ShT) (kp : ShT) (th : ShT) (ot : ShT) (tp : TpT) (sl : (Nat → SlT)) (pk : AI) (rf : AI) (ik : Int32) {r : Int32 × ShT × AI} (hf : f_X3_fewest a0 tr th sl rf = some r) : Runs l D cT yX3_fewest cX3_fewest 6 (some .int) 3 68 [.ref 0, .int a0] (cX tr kp th ot tp sl pk rf ik) (EQ (some (.int r.1)) (cX tr kp r.2.1 ot tp sl pk r.2.2 ik)) := by
  refine runs_of O_X3 okO_X3 (by decide +kernel) rfl rfl (Nat.le_of_ble_eq_true rfl) (Nat.le_of_ble_eq_true rfl) (fun g K => ?_)
  have M := K.b
  show g 0 0 (cX tr kp th ot tp sl pk rf ik) 0 [some (.ref 0), some (.int a0), none, none, none, none] []
  have loop_0 : ∀ (v1 : Int32) (n_ : Nat), (∀ (v3 : Int32) (v4 : Int32) (th : ShT) (rf : AI), f_X3_fewest_L0 v1 tr sl n_ v3 v4 th rf = some r → g 0 0 (cX tr kp th ot tp sl pk rf ik) 59 [some (.ref 0), some (.int v1), none, some (.int v3), some (.int v4), none] []) := by
    intro v1 n_
    induction n_ with
    | zero => intro v3 v4 th rf hf; cases hf
    | succ n_ ih =>
      intro v3 v4 th rf hf
      rw [f_X3_fewest_L0] at hf
      refine m_run M (is := [(59, .iload 4, 0), (61, .aload_n 0, 0), (62, .getfield 19, 0), (65, .getfield 216, 0)]) (pc' := 68) (L' := [some (.ref 0), some (.int v1), none, some (.int v3), some (.int v4), none]) (st' := [.int th.2.2.2.2.2.1, .int v4]) (w' := (cX tr kp th ot tp sl pk rf ik)) (by decide +kernel) rfl trivial ?_
      rcases ite_s hf with ⟨c_101, hf⟩ | ⟨c_101, hf⟩
      · refine m_jT M (i := .if_icmp .ge 49) 117 (by decide +kernel) rfl (by decide) c_101 ?_
        refine m_run M (is := [(117, .iload_n 3, 0)]) (pc' := 118) (L' := [some (.ref 0), some (.int v1), none, some (.int v3), some (.int v4), none]) (st' := [.int v3]) (w' := (cX tr kp th ot tp sl pk rf ik)) (by decide +kernel) rfl trivial ?_
        obtain rfl := Option.some.inj hf
        exact m_iret K (by decide +kernel) (Nat.zero_le _) (Nat.zero_le _) ⟨rfl, rfl⟩
      · refine m_jF M (i := .if_icmp .ge 49) 117 (by decide +kernel) rfl (by decide) c_101 ?_
        obtain ⟨h_102, hf⟩ := grd_s hf
        refine m_run M (is := [(71, .aload_n 0, 0), (72, .getfield 34, 0), (75, .iload_n 1, 0)]) (pc' := 76) (L' := [some (.ref 0), some (.int v1), none, some (.int v3), some (.int v4), none]) (st' := [.int v1, .ref 27]) (w' := (cX tr kp th ot tp sl pk rf ik)) (by decide +kernel) rfl trivial ?_
        refine m_run M (is := [(76, .aaload, 0)]) (pc' := 77) (L' := [some (.ref 0), some (.int v1), none, some (.int v3), some (.int v4), none]) (st' := [.ref (30 + 2 * v1.toNatClampNeg)]) (w' := (cX tr kp th ot tp sl pk rf ik)) (by decide +kernel) (s_aald rfl rfl (fX_30 (inB_lt h_102))) ⟨inB_use h_102, trivial⟩ ?_
        refine m_run M (is := [(77, .iload 4, 0)]) (pc' := 79) (L' := [some (.ref 0), some (.int v1), none, some (.int v3), some (.int v4), none]) (st' := [.int v4, .ref (30 + 2 * v1.toNatClampNeg)]) (w' := (cX tr kp th ot tp sl pk rf ik)) (by decide +kernel) rfl trivial ?_
        obtain ⟨r103, h_103, hf⟩ := bnd_s hf
        refine m_cV0 M (rest := []) (w2 := (cX tr kp th ot tp sl pk rf ik)) (st2 := [.long r103]) (run_X0_elementAt v4   (sl v1.toNatClampNeg) h_103) cv_X0_elementAt lk_X3_95 (by decide +kernel) [30 + 2 * v1.toNatClampNeg, 31 + 2 * v1.toNatClampNeg] (by simp) ⟨Nat.le_of_ble_eq_true rfl, Nat.le_of_ble_eq_true rfl⟩ (hw_2  (inB_lt h_102) tr kp th ot tp sl pk rf ik) rfl rfl (Nat.le_of_ble_eq_true rfl) ⟨by decide, by decide⟩ rfl rfl ⟨Nat.zero_le _, Nat.zero_le _⟩ (by have z := (hp_2  (inB_lt h_102) tr kp th ot tp sl pk rf ik (sl v1.toNatClampNeg)); first | exact z | (simp only [va_up_id] at z; exact z)) rfl ?_
        refine m_run M (is := [(82, .l2i, 0), (83, .istore 5, 0), (85, .iload_n 3, 0), (86, .aload_n 0, 0), (87, .getfield 19, 0), (90, .iload 5, 0)]) (pc' := 92) (L' := [some (.ref 0), some (.int v1), none, some (.int v3), some (.int v4), some (.int r103.toInt32)]) (st' := [.int r103.toInt32, .ref 13, .int v3]) (w' := (cX tr kp th ot tp sl pk rf ik)) (by decide +kernel) rfl trivial ?_
        obtain ⟨r104, h_104, hf⟩ := bnd_s hf
        refine m_cV0 M (rest := [.int v3]) (w2 := (cX tr kp th ot tp sl pk rf ik)) (st2 := [.int r104, .int v3]) (run_X1_placeOf r103.toInt32   th h_104) cv_X1_placeOf lk_X3_207 (by decide +kernel) [13, 14, 15, 16, 17, 18] (by decide) ⟨Nat.le_of_ble_eq_true rfl, Nat.le_of_ble_eq_true rfl⟩ (hw_1  tr kp th ot tp sl pk rf ik) rfl rfl (Nat.le_of_ble_eq_true rfl) ⟨by decide, by decide⟩ rfl rfl ⟨Nat.zero_le _, Nat.zero_le _⟩ (hp_1  tr kp th ot tp sl pk rf ik th) rfl ?_
        refine m_run M (is := [(95, .iload 4, 0), (97, .isub, 0), (98, .iadd, 0), (99, .istore_n 3, 0), (100, .aload_n 0, 0), (101, .getfield 19, 0), (104, .iload 5, 0), (106, .iload 4, 0)]) (pc' := 108) (L' := [some (.ref 0), some (.int v1), none, some (.int (v3 + (r104 - v4))), some (.int v4), some (.int r103.toInt32)]) (st' := [.int v4, .int r103.toInt32, .ref 13]) (w' := (cX tr kp th ot tp sl pk rf ik)) (by decide +kernel) rfl trivial ?_
        obtain ⟨r105, h_105, hf⟩ := bnd_s hf
        refine m_cV0 M (rest := []) (w2 := (cX tr kp r105 ot tp sl pk rf ik)) (st2 := []) (run_X1_move r103.toInt32 v4   th h_105) cv_X1_move lk_X3_245 (by decide +kernel) [13, 14, 15, 16, 17, 18] (by decide) ⟨Nat.le_of_ble_eq_true rfl, Nat.le_of_ble_eq_true rfl⟩ (hw_1  tr kp th ot tp sl pk rf ik) rfl rfl (Nat.le_of_ble_eq_true rfl) ⟨by decide, by decide⟩ rfl rfl ⟨Nat.zero_le _, Nat.zero_le _⟩ (hp_1  tr kp th ot tp sl pk rf ik r105) rfl ?_
        refine m_run M (is := [(111, .iinc 4 1, 1), (114, .goto (-55), 0)]) (pc' := 59) (L' := [some (.ref 0), some (.int v1), none, some (.int (v3 + (r104 - v4))), some (.int (v4 + 1)), some (.int r103.toInt32)]) (st' := []) (w' := (cX tr kp r105 ot tp sl pk rf ik)) (by decide +kernel) rfl trivial ?_
        refine m_wk M [some (.ref 0), some (.int v1), none, some (.int (v3 + (r104 - v4))), some (.int (v4 + 1)), none] ⟨Or.inr rfl, Or.inr rfl, Or.inr rfl, Or.inr rfl, Or.inr rfl, Or.inl rfl, trivial⟩ ?_
        exact ih (v3 + (r104 - v4)) (v4 + 1) r105 rf hf
  rw [f_X3_fewest] at hf
  refine m_run M (is := [(0, .aload_n 0, 0), (1, .iload_n 1, 0), (2, .aload_n 0, 0), (3, .getfield 10, 0), (6, .getfield 216, 0)]) (pc' := 9) (L' := [some (.ref 0), some (.int a0), none, none, none, none]) (st' := [.int tr.2.2.2.2.2.1, .int a0, .ref 0]) (w' := (cX tr kp th ot tp sl pk rf ik)) (by decide +kernel) rfl trivial ?_
  obtain ⟨r1001, h_1001, hf⟩ := bnd_s hf
  refine m_cV0 M (rest := []) (w2 := (cX tr kp th ot tp sl pk rf ik)) (st2 := [.int r1001]) (run_X3_refusalOfSlate a0 tr.2.2.2.2.2.1   tr kp th ot tp sl pk rf ik h_1001) cv_X3_refusalOfSlate lk_X3_254 (by decide +kernel) (List.range 46) List.nodup_range ⟨(by rw [List.length_range]; exact Nat.le_refl _), Nat.le_of_ble_eq_true rfl⟩ (hwId rfl) rfl rfl (Nat.le_of_ble_eq_true rfl) ⟨by decide, by decide⟩ rfl rfl ⟨Nat.zero_le _, Nat.zero_le _⟩ (hpId rfl rfl) rfl ?_
  refine m_run M (is := [(12, .istore_n 2, 0), (13, .iload_n 2, 0)]) (pc' := 14) (L' := [some (.ref 0), some (.int a0), some (.int r1001), none, none, none]) (st' := [.int r1001]) (w' := (cX tr kp th ot tp sl pk rf ik)) (by decide +kernel) rfl trivial ?_
  rcases ite_s hf with ⟨c_1002, hf⟩ | ⟨c_1002, hf⟩
  · refine m_jT M (i := .ifCond .eq 9) 23 (by decide +kernel) rfl (by decide) c_1002 ?_
    obtain ⟨h_1003, hf⟩ := grd_s hf
    refine m_run M (is := [(23, .aload_n 0, 0), (24, .aload_n 0, 0), (25, .getfield 34, 0), (28, .iload_n 1, 0)]) (pc' := 29) (L' := [some (.ref 0), some (.int a0), some (.int r1001), none, none, none]) (st' := [.int a0, .ref 27, .ref 0]) (w' := (cX tr kp th ot tp sl pk rf ik)) (by decide +kernel) rfl trivial ?_
    refine m_run M (is := [(29, .aaload, 0)]) (pc' := 30) (L' := [some (.ref 0), some (.int a0), some (.int r1001), none, none, none]) (st' := [.ref (30 + 2 * a0.toNatClampNeg), .ref 0]) (w' := (cX tr kp th ot tp sl pk rf ik)) (by decide +kernel) (s_aald rfl rfl (fX_30 (inB_lt h_1003))) ⟨inB_use h_1003, trivial⟩ ?_
    obtain ⟨r1004, h_1004, hf⟩ := bnd_s hf
    refine m_cV0 M (rest := []) (w2 := (cX tr kp th ot tp sl pk rf ik)) (st2 := [.int r1004]) (run_X3_hasAllPeople  a0.toNatClampNeg (inB_lt h_1003) tr kp th ot tp sl pk rf ik h_1004) cv_X3_hasAllPeople lk_X3_285 (by decide +kernel) (List.range 46) List.nodup_range ⟨(by rw [List.length_range]; exact Nat.le_refl _), Nat.le_of_ble_eq_true rfl⟩ (hwId rfl) (congrArg (fun z1 => [z1, .ref 0]) (rvX (inB_lt h_1003)).symm) rfl (Nat.le_of_ble_eq_true rfl) ⟨by decide, by decide⟩ rfl rfl ⟨Nat.zero_le _, Nat.zero_le _⟩ (hpId rfl rfl) rfl ?_
    rcases ite_s hf with ⟨c_1005, hf⟩ | ⟨c_1005, hf⟩
    · refine m_jF M (i := .ifCond .ne 10) 43 (by decide +kernel) rfl (by decide) (fun n => n c_1005) ?_
      refine m_run M (is := [(36, .aload_n 0, 0), (37, .bipush (-5), -5)]) (pc' := 39) (L' := [some (.ref 0), some (.int a0), some (.int r1001), none, none, none]) (st' := [.int (-5), .ref 0]) (w' := (cX tr kp th ot tp sl pk rf ik)) (by decide +kernel) rfl trivial ?_
      obtain ⟨r1006, h_1006, hf⟩ := bnd_s hf
      refine m_cV0 M (rest := []) (w2 := (cX tr kp th ot tp sl pk r1006.2 ik)) (st2 := [.int r1006.1]) (run_X3_refuse (-5)   tr kp th ot tp sl pk rf ik h_1006) cv_X3_refuse lk_X3_54 (by decide +kernel) (List.range 46) List.nodup_range ⟨(by rw [List.length_range]; exact Nat.le_refl _), Nat.le_of_ble_eq_true rfl⟩ (hwId rfl) rfl rfl (Nat.le_of_ble_eq_true rfl) ⟨by decide, by decide⟩ rfl rfl ⟨Nat.zero_le _, Nat.zero_le _⟩ (hpId rfl rfl) rfl ?_
      obtain rfl := Option.some.inj hf
      exact m_iret K (by decide +kernel) (Nat.zero_le _) (Nat.zero_le _) ⟨rfl, rfl⟩
    · refine m_jT M (i := .ifCond .ne 10) 43 (by decide +kernel) rfl (by decide) c_1005 ?_
      refine m_run M (is := [(43, .aload_n 0, 0), (44, .getfield 19, 0), (47, .aload_n 0, 0), (48, .getfield 10, 0)]) (pc' := 51) (L' := [some (.ref 0), some (.int a0), some (.int r1001), none, none, none]) (st' := [.ref 1, .ref 13]) (w' := (cX tr kp th ot tp sl pk rf ik)) (by decide +kernel) rfl trivial ?_
      obtain ⟨r1007, h_1007, hf⟩ := bnd_s hf
      refine m_cV0 M (rest := []) (w2 := (cX tr kp r1007 ot tp sl pk rf ik)) (st2 := []) (run_X1_become    th tr h_1007) cv_X1_become lk_X3_161 (by decide +kernel) [13, 14, 15, 16, 17, 18, 1, 2, 3, 4, 5, 6] (by decide) ⟨Nat.le_of_ble_eq_true rfl, Nat.le_of_ble_eq_true rfl⟩ (hw_0  tr kp th ot tp sl pk rf ik) rfl rfl (Nat.le_of_ble_eq_true rfl) ⟨by decide, by decide⟩ rfl rfl ⟨Nat.zero_le _, Nat.zero_le _⟩ (hp_0  tr kp th ot tp sl pk rf ik r1007 tr) rfl ?_
      refine m_run M (is := [(54, .iconst 0, 0), (55, .istore_n 3, 0), (56, .iconst 0, 0), (57, .istore 4, 0)]) (pc' := 59) (L' := [some (.ref 0), some (.int a0), some (.int r1001), some (.int 0), some (.int 0), none]) (st' := []) (w' := (cX tr kp r1007 ot tp sl pk rf ik)) (by decide +kernel) rfl trivial ?_
      refine m_wk M [some (.ref 0), some (.int a0), none, some (.int 0), some (.int 0), none] ⟨Or.inr rfl, Or.inr rfl, Or.inl rfl, Or.inr rfl, Or.inr rfl, Or.inr rfl, trivial⟩ ?_
      exact loop_0 a0 fuel0 0 0 r1007 rf hf
  · refine m_jF M (i := .ifCond .eq 9) 23 (by decide +kernel) rfl (by decide) c_1002 ?_
    refine m_run M (is := [(17, .aload_n 0, 0), (18, .iload_n 2, 0)]) (pc' := 19) (L' := [some (.ref 0), some (.int a0), some (.int r1001), none, none, none]) (st' := [.int r1001, .ref 0]) (w' := (cX tr kp th ot tp sl pk rf ik)) (by decide +kernel) rfl trivial ?_
    obtain ⟨r1008, h_1008, hf⟩ := bnd_s hf
    refine m_cV0 M (rest := []) (w2 := (cX tr kp th ot tp sl pk r1008.2 ik)) (st2 := [.int r1008.1]) (run_X3_refuse r1001   tr kp th ot tp sl pk rf ik h_1008) cv_X3_refuse lk_X3_54 (by decide +kernel) (List.range 46) List.nodup_range ⟨(by rw [List.length_range]; exact Nat.le_refl _), Nat.le_of_ble_eq_true rfl⟩ (hwId rfl) rfl rfl (Nat.le_of_ble_eq_true rfl) ⟨by decide, by decide⟩ rfl rfl ⟨Nat.zero_le _, Nat.zero_le _⟩ (hpId rfl rfl) rfl ?_
    obtain rfl := Option.some.inj hf
    exact m_iret K (by decide +kernel) (Nat.zero_le _) (Nat.zero_le _) ⟨rfl, rfl⟩

def f_X3_unserved_L0 (tr : ShT) : Nat → Int32 → Int32 → Option (Int32)
  | 0, _, _ => none
  | n_ + 1, v1, v2 =>
    if tr.2.2.2.2.2.1 ≤ v2 then
      some v1
    else
      if inB v2 16 then
      if (tr.2.1 v2.toNatClampNeg) = 0 then
        f_X3_unserved_L0 tr n_ (v1 ||| (1 <<< (v2 &&& 31))) (v2 + 1)
      else
        f_X3_unserved_L0 tr n_ v1 (v2 + 1)
      else none
def f_X3_unserved (tr : ShT) : Option (Int32) :=
  f_X3_unserved_L0 tr fuel0 0 0
set_option maxRecDepth 100000 in
set_option maxHeartbeats 4000000 in
theorem run_X3_unserved {l : Launch} {D : va_G} {cT : Nat → ClassId}    (tr : ShT) (kp : ShT) (th : ShT) (ot : ShT) (tp : TpT) (sl : (Nat → SlT)) (pk : AI) (rf : AI) (ik : Int32) {r : Int32} (hf : f_X3_unserved tr = some r) : Runs l D cT yX3_unserved cX3_unserved 3 (some .int) 0 0 [.ref 0] (cX tr kp th ot tp sl pk rf ik) (EQ (some (.int r)) (cX tr kp th ot tp sl pk rf ik)) := by
  refine runs_of O_X3 okO_X3 (by decide +kernel) rfl rfl (Nat.le_of_ble_eq_true rfl) (Nat.le_of_ble_eq_true rfl) (fun g K => ?_)
  have M := K.b
  show g 0 0 (cX tr kp th ot tp sl pk rf ik) 0 [some (.ref 0), none, none] []
  have loop_0 : ∀ (n_ : Nat), (∀ (v1 : Int32) (v2 : Int32), f_X3_unserved_L0 tr n_ v1 v2 = some r → g 0 0 (cX tr kp th ot tp sl pk rf ik) 4 [some (.ref 0), some (.int v1), some (.int v2)] []) := by
    intro n_
    induction n_ with
    | zero => intro v1 v2 hf; cases hf
    | succ n_ ih =>
      intro v1 v2 hf
      rw [f_X3_unserved_L0] at hf
      refine m_run M (is := [(4, .iload_n 2, 0), (5, .aload_n 0, 0), (6, .getfield 10, 0), (9, .getfield 216, 0)]) (pc' := 12) (L' := [some (.ref 0), some (.int v1), some (.int v2)]) (st' := [.int tr.2.2.2.2.2.1, .int v2]) (w' := (cX tr kp th ot tp sl pk rf ik)) (by decide +kernel) rfl trivial ?_
      rcases ite_s hf with ⟨c_101, hf⟩ | ⟨c_101, hf⟩
      · refine m_jT M (i := .if_icmp .ge 27) 39 (by decide +kernel) rfl (by decide) c_101 ?_
        refine m_run M (is := [(39, .iload_n 1, 0)]) (pc' := 40) (L' := [some (.ref 0), some (.int v1), some (.int v2)]) (st' := [.int v1]) (w' := (cX tr kp th ot tp sl pk rf ik)) (by decide +kernel) rfl trivial ?_
        obtain rfl := Option.some.inj hf
        exact m_iret K (by decide +kernel) (Nat.zero_le _) (Nat.zero_le _) ⟨rfl, rfl⟩
      · refine m_jF M (i := .if_icmp .ge 27) 39 (by decide +kernel) rfl (by decide) c_101 ?_
        obtain ⟨h_102, hf⟩ := grd_s hf
        refine m_run M (is := [(15, .aload_n 0, 0), (16, .getfield 10, 0), (19, .getfield 150, 0), (22, .iload_n 2, 0), (23, .iaload, 0)]) (pc' := 24) (L' := [some (.ref 0), some (.int v1), some (.int v2)]) (st' := [.int (tr.2.1 v2.toNatClampNeg)]) (w' := (cX tr kp th ot tp sl pk rf ik)) (by decide +kernel) rfl ⟨inB_use h_102, trivial⟩ ?_
        rcases ite_s hf with ⟨c_103, hf⟩ | ⟨c_103, hf⟩
        · refine m_jF M (i := .ifCond .ne 9) 33 (by decide +kernel) rfl (by decide) (fun n => n c_103) ?_
          refine m_run M (is := [(27, .iload_n 1, 0), (28, .iconst 1, 1), (29, .iload_n 2, 0), (30, .ishl, 0), (31, .ior, 0), (32, .istore_n 1, 0), (33, .iinc 2 1, 1), (36, .goto (-32), 0)]) (pc' := 4) (L' := [some (.ref 0), some (.int (v1 ||| (1 <<< (v2 &&& 31)))), some (.int (v2 + 1))]) (st' := []) (w' := (cX tr kp th ot tp sl pk rf ik)) (by decide +kernel) rfl trivial ?_
          exact ih (v1 ||| (1 <<< (v2 &&& 31))) (v2 + 1) hf
        · refine m_jT M (i := .ifCond .ne 9) 33 (by decide +kernel) rfl (by decide) c_103 ?_
          refine m_run M (is := [(33, .iinc 2 1, 1), (36, .goto (-32), 0)]) (pc' := 4) (L' := [some (.ref 0), some (.int v1), some (.int (v2 + 1))]) (st' := []) (w' := (cX tr kp th ot tp sl pk rf ik)) (by decide +kernel) rfl trivial ?_
          exact ih v1 (v2 + 1) hf
  rw [f_X3_unserved] at hf
  refine m_run M (is := [(0, .iconst 0, 0), (1, .istore_n 1, 0), (2, .iconst 0, 0), (3, .istore_n 2, 0)]) (pc' := 4) (L' := [some (.ref 0), some (.int 0), some (.int 0)]) (st' := []) (w' := (cX tr kp th ot tp sl pk rf ik)) (by decide +kernel) rfl trivial ?_
  exact loop_0 fuel0 0 0 hf

set_option maxRecDepth 100000 in
set_option maxHeartbeats 4000000 in
theorem hw_8  (tr : ShT) (kp : ShT) (th : ShT) (ot : ShT) (tp : TpT) (sl : (Nat → SlT)) (pk : AI) (rf : AI) (ik : Int32) : (List.take (List.length ([.inr (.inl (0, 16, .inl tr.2.2.1))] : Wd)) ([4] : List Nat)).map (fun k => ((cX tr kp th ot tp sl pk rf ik))[k]?) = ([.inr (.inl (0, 16, .inl tr.2.2.1))] : Wd).map (fun x => some (rS [4] (List.length ((cX tr kp th ot tp sl pk rf ik) : Wd)) x)) := rfl
set_option maxRecDepth 100000 in
set_option maxHeartbeats 4000000 in
theorem hp_8  (tr : ShT) (kp : ShT) (th : ShT) (ot : ShT) (tp : TpT) (sl : (Nat → SlT)) (pk : AI) (rf : AI) (ik : Int32) (f' : AI) : putL (List.take (List.length ([.inr (.inl (0, 16, .inl tr.2.2.1))] : Wd)) ([4] : List Nat)) (([.inr (.inl (0, 16, .inl f'))] : Wd).map (rS [4] (List.length ((cX tr kp th ot tp sl pk rf ik) : Wd)))) (cX tr kp th ot tp sl pk rf ik) = (cX (tr.1, tr.2.1, f', tr.2.2.2.1, tr.2.2.2.2.1, tr.2.2.2.2.2.1, tr.2.2.2.2.2.2.1, tr.2.2.2.2.2.2.2.1, tr.2.2.2.2.2.2.2.2.1, tr.2.2.2.2.2.2.2.2.2) kp th ot tp sl pk rf ik) := rfl
def f_X3_longest (tr : ShT) (rf : AI) : Option (Int32 × AI) :=
  (f_X1_isEmpty tr).bind fun r1001 =>
  if r1001 = 0 then
    (f_X3_firstGreatest tr.2.2.2.2.2.1 16 tr.2.2.1).bind fun r1003 =>
    some (r1003, rf)
  else
    (f_X3_refuse (-5) rf).bind fun r1004 =>
    some (r1004.1, r1004.2)
set_option maxRecDepth 100000 in
set_option maxHeartbeats 4000000 in
theorem run_X3_longest {l : Launch} {D : va_G} {cT : Nat → ClassId}    (tr : ShT) (kp : ShT) (th : ShT) (ot : ShT) (tp : TpT) (sl : (Nat → SlT)) (pk : AI) (rf : AI) (ik : Int32) {r : Int32 × AI} (hf : f_X3_longest tr rf = some r) : Runs l D cT yX3_longest cX3_longest 1 (some .int) 2 44 [.ref 0] (cX tr kp th ot tp sl pk rf ik) (EQ (some (.int r.1)) (cX tr kp th ot tp sl pk r.2 ik)) := by
  refine runs_of O_X3 okO_X3 (by decide +kernel) rfl rfl (Nat.le_of_ble_eq_true rfl) (Nat.le_of_ble_eq_true rfl) (fun g K => ?_)
  have M := K.b
  show g 0 0 (cX tr kp th ot tp sl pk rf ik) 0 [some (.ref 0)] []
  rw [f_X3_longest] at hf
  refine m_run M (is := [(0, .aload_n 0, 0), (1, .getfield 10, 0)]) (pc' := 4) (L' := [some (.ref 0)]) (st' := [.ref 1]) (w' := (cX tr kp th ot tp sl pk rf ik)) (by decide +kernel) rfl trivial ?_
  obtain ⟨r1001, h_1001, hf⟩ := bnd_s hf
  refine m_cV0 M (rest := []) (w2 := (cX tr kp th ot tp sl pk rf ik)) (st2 := [.int r1001]) (run_X1_isEmpty    tr h_1001) cv_X1_isEmpty lk_X3_236 (by decide +kernel) [1, 2, 3, 4, 5, 6] (by decide) ⟨Nat.le_of_ble_eq_true rfl, Nat.le_of_ble_eq_true rfl⟩ (hw_3  tr kp th ot tp sl pk rf ik) rfl rfl (Nat.le_of_ble_eq_true rfl) ⟨by decide, by decide⟩ rfl rfl ⟨Nat.zero_le _, Nat.zero_le _⟩ (hp_3  tr kp th ot tp sl pk rf ik tr) rfl ?_
  rcases ite_s hf with ⟨c_1002, hf⟩ | ⟨c_1002, hf⟩
  · refine m_jT M (i := .ifCond .eq 12) 19 (by decide +kernel) rfl (by decide) c_1002 ?_
    refine m_run M (is := [(19, .aload_n 0, 0), (20, .getfield 10, 0), (23, .getfield 153, 0), (26, .aload_n 0, 0), (27, .getfield 10, 0), (30, .getfield 216, 0)]) (pc' := 33) (L' := [some (.ref 0)]) (st' := [.int tr.2.2.2.2.2.1, .ref 4]) (w' := (cX tr kp th ot tp sl pk rf ik)) (by decide +kernel) rfl trivial ?_
    obtain ⟨r1003, h_1003, hf⟩ := bnd_s hf
    refine m_cS0 M (rest := []) (w2 := (cX tr kp th ot tp sl pk rf ik)) (st2 := [.int r1003]) (run_X3_firstGreatest tr.2.2.2.2.2.1 16  tr.2.2.1 h_1003) cs_X3_firstGreatest lk_X3_219 (by decide +kernel) [4] (by decide) ⟨Nat.le_of_ble_eq_true rfl, Nat.le_of_ble_eq_true rfl⟩ (hw_8  tr kp th ot tp sl pk rf ik) rfl (Nat.le_of_ble_eq_true rfl) ⟨by decide, by decide⟩ rfl rfl ⟨Nat.zero_le _, Nat.zero_le _⟩ (hp_8  tr kp th ot tp sl pk rf ik tr.2.2.1) rfl ?_
    obtain rfl := Option.some.inj hf
    exact m_iret K (by decide +kernel) (Nat.zero_le _) (Nat.zero_le _) ⟨rfl, rfl⟩
  · refine m_jF M (i := .ifCond .eq 12) 19 (by decide +kernel) rfl (by decide) c_1002 ?_
    refine m_run M (is := [(10, .aload_n 0, 0), (11, .bipush (-5), -5)]) (pc' := 13) (L' := [some (.ref 0)]) (st' := [.int (-5), .ref 0]) (w' := (cX tr kp th ot tp sl pk rf ik)) (by decide +kernel) rfl trivial ?_
    obtain ⟨r1004, h_1004, hf⟩ := bnd_s hf
    refine m_cV0 M (rest := []) (w2 := (cX tr kp th ot tp sl pk r1004.2 ik)) (st2 := [.int r1004.1]) (run_X3_refuse (-5)   tr kp th ot tp sl pk rf ik h_1004) cv_X3_refuse lk_X3_54 (by decide +kernel) (List.range 46) List.nodup_range ⟨(by rw [List.length_range]; exact Nat.le_refl _), Nat.le_of_ble_eq_true rfl⟩ (hwId rfl) rfl rfl (Nat.le_of_ble_eq_true rfl) ⟨by decide, by decide⟩ rfl rfl ⟨Nat.zero_le _, Nat.zero_le _⟩ (hpId rfl rfl) rfl ?_
    refine m_run M (is := [(16, .goto 20, 0)]) (pc' := 36) (L' := [some (.ref 0)]) (st' := [.int r1004.1]) (w' := (cX tr kp th ot tp sl pk r1004.2 ik)) (by decide +kernel) rfl trivial ?_
    obtain rfl := Option.some.inj hf
    exact m_iret K (by decide +kernel) (Nat.zero_le _) (Nat.zero_le _) ⟨rfl, rfl⟩

def f_X3_ranked_L0 (v1 : Int32) (tr : ShT) : Nat → Int32 → AI → Option (Int32 × AI)
  | 0, _, _ => none
  | n_ + 1, v2, rf =>
    if tr.2.2.2.2.2.1 ≤ v2 then
      some ((-1), rf)
    else
      (f_X3_rankOf v2 tr).bind fun r102 =>
      if r102 = v1 then
        some (v2, rf)
      else
        f_X3_ranked_L0 v1 tr n_ (v2 + 1) rf
def f_X3_ranked (a0 : Int32) (tr : ShT) (rf : AI) : Option (Int32 × AI) :=
  (f_X1_hasPerson a0 tr).bind fun r1001 =>
  if r1001 = 0 then
    (f_X3_refuse (-2) rf).bind fun r1003 =>
    some (r1003.1, r1003.2)
  else
    f_X3_ranked_L0 a0 tr fuel0 0 rf
set_option maxRecDepth 100000 in
set_option maxHeartbeats 4000000 in
theorem run_X3_ranked {l : Launch} {D : va_G} {cT : Nat → ClassId} (a0 : Int32)   (tr : ShT) (kp : ShT) (th : ShT) (ot : ShT) (tp : TpT) (sl : (Nat → SlT)) (pk : AI) (rf : AI) (ik : Int32) {r : Int32 × AI} (hf : f_X3_ranked a0 tr rf = some r) : Runs l D cT yX3_ranked cX3_ranked 3 (some .int) 2 44 [.ref 0, .int a0] (cX tr kp th ot tp sl pk rf ik) (EQ (some (.int r.1)) (cX tr kp th ot tp sl pk r.2 ik)) := by
  refine runs_of O_X3 okO_X3 (by decide +kernel) rfl rfl (Nat.le_of_ble_eq_true rfl) (Nat.le_of_ble_eq_true rfl) (fun g K => ?_)
  have M := K.b
  show g 0 0 (cX tr kp th ot tp sl pk rf ik) 0 [some (.ref 0), some (.int a0), none] []
  have loop_0 : ∀ (v1 : Int32) (n_ : Nat), (∀ (v2 : Int32) (rf : AI), f_X3_ranked_L0 v1 tr n_ v2 rf = some r → g 0 0 (cX tr kp th ot tp sl pk rf ik) 20 [some (.ref 0), some (.int v1), some (.int v2)] []) := by
    intro v1 n_
    induction n_ with
    | zero => intro v2 rf hf; cases hf
    | succ n_ ih =>
      intro v2 rf hf
      rw [f_X3_ranked_L0] at hf
      refine m_run M (is := [(20, .iload_n 2, 0), (21, .aload_n 0, 0), (22, .getfield 10, 0), (25, .getfield 216, 0)]) (pc' := 28) (L' := [some (.ref 0), some (.int v1), some (.int v2)]) (st' := [.int tr.2.2.2.2.2.1, .int v2]) (w' := (cX tr kp th ot tp sl pk rf ik)) (by decide +kernel) rfl trivial ?_
      rcases ite_s hf with ⟨c_101, hf⟩ | ⟨c_101, hf⟩
      · refine m_jT M (i := .if_icmp .ge 20) 48 (by decide +kernel) rfl (by decide) c_101 ?_
        refine m_run M (is := [(48, .iconst (-1), -1)]) (pc' := 49) (L' := [some (.ref 0), some (.int v1), some (.int v2)]) (st' := [.int (-1)]) (w' := (cX tr kp th ot tp sl pk rf ik)) (by decide +kernel) rfl trivial ?_
        obtain rfl := Option.some.inj hf
        exact m_iret K (by decide +kernel) (Nat.zero_le _) (Nat.zero_le _) ⟨rfl, rfl⟩
      · refine m_jF M (i := .if_icmp .ge 20) 48 (by decide +kernel) rfl (by decide) c_101 ?_
        refine m_run M (is := [(31, .aload_n 0, 0), (32, .iload_n 2, 0)]) (pc' := 33) (L' := [some (.ref 0), some (.int v1), some (.int v2)]) (st' := [.int v2, .ref 0]) (w' := (cX tr kp th ot tp sl pk rf ik)) (by decide +kernel) rfl trivial ?_
        obtain ⟨r102, h_102, hf⟩ := bnd_s hf
        refine m_cV0 M (rest := []) (w2 := (cX tr kp th ot tp sl pk rf ik)) (st2 := [.int r102]) (run_X3_rankOf v2   tr kp th ot tp sl pk rf ik h_102) cv_X3_rankOf lk_X3_288 (by decide +kernel) (List.range 46) List.nodup_range ⟨(by rw [List.length_range]; exact Nat.le_refl _), Nat.le_of_ble_eq_true rfl⟩ (hwId rfl) rfl rfl (Nat.le_of_ble_eq_true rfl) ⟨by decide, by decide⟩ rfl rfl ⟨Nat.zero_le _, Nat.zero_le _⟩ (hpId rfl rfl) rfl ?_
        refine m_run M (is := [(36, .iload_n 1, 0)]) (pc' := 37) (L' := [some (.ref 0), some (.int v1), some (.int v2)]) (st' := [.int v1, .int r102]) (w' := (cX tr kp th ot tp sl pk rf ik)) (by decide +kernel) rfl trivial ?_
        rcases ite_s hf with ⟨c_103, hf⟩ | ⟨c_103, hf⟩
        · refine m_jF M (i := .if_icmp .ne 5) 42 (by decide +kernel) rfl (by decide) (fun n => n c_103) ?_
          refine m_run M (is := [(40, .iload_n 2, 0)]) (pc' := 41) (L' := [some (.ref 0), some (.int v1), some (.int v2)]) (st' := [.int v2]) (w' := (cX tr kp th ot tp sl pk rf ik)) (by decide +kernel) rfl trivial ?_
          obtain rfl := Option.some.inj hf
          exact m_iret K (by decide +kernel) (Nat.zero_le _) (Nat.zero_le _) ⟨rfl, rfl⟩
        · refine m_jT M (i := .if_icmp .ne 5) 42 (by decide +kernel) rfl (by decide) c_103 ?_
          refine m_run M (is := [(42, .iinc 2 1, 1), (45, .goto (-25), 0)]) (pc' := 20) (L' := [some (.ref 0), some (.int v1), some (.int (v2 + 1))]) (st' := []) (w' := (cX tr kp th ot tp sl pk rf ik)) (by decide +kernel) rfl trivial ?_
          exact ih (v2 + 1) rf hf
  rw [f_X3_ranked] at hf
  refine m_run M (is := [(0, .aload_n 0, 0), (1, .getfield 10, 0), (4, .iload_n 1, 0)]) (pc' := 5) (L' := [some (.ref 0), some (.int a0), none]) (st' := [.int a0, .ref 1]) (w' := (cX tr kp th ot tp sl pk rf ik)) (by decide +kernel) rfl trivial ?_
  obtain ⟨r1001, h_1001, hf⟩ := bnd_s hf
  refine m_cV0 M (rest := []) (w2 := (cX tr kp th ot tp sl pk rf ik)) (st2 := [.int r1001]) (run_X1_hasPerson a0   tr h_1001) cv_X1_hasPerson lk_X3_147 (by decide +kernel) [1, 2, 3, 4, 5, 6] (by decide) ⟨Nat.le_of_ble_eq_true rfl, Nat.le_of_ble_eq_true rfl⟩ (hw_3  tr kp th ot tp sl pk rf ik) rfl rfl (Nat.le_of_ble_eq_true rfl) ⟨by decide, by decide⟩ rfl rfl ⟨Nat.zero_le _, Nat.zero_le _⟩ (hp_3  tr kp th ot tp sl pk rf ik tr) rfl ?_
  rcases ite_s hf with ⟨c_1002, hf⟩ | ⟨c_1002, hf⟩
  · refine m_jF M (i := .ifCond .ne 10) 18 (by decide +kernel) rfl (by decide) (fun n => n c_1002) ?_
    refine m_run M (is := [(11, .aload_n 0, 0), (12, .bipush (-2), -2)]) (pc' := 14) (L' := [some (.ref 0), some (.int a0), none]) (st' := [.int (-2), .ref 0]) (w' := (cX tr kp th ot tp sl pk rf ik)) (by decide +kernel) rfl trivial ?_
    obtain ⟨r1003, h_1003, hf⟩ := bnd_s hf
    refine m_cV0 M (rest := []) (w2 := (cX tr kp th ot tp sl pk r1003.2 ik)) (st2 := [.int r1003.1]) (run_X3_refuse (-2)   tr kp th ot tp sl pk rf ik h_1003) cv_X3_refuse lk_X3_54 (by decide +kernel) (List.range 46) List.nodup_range ⟨(by rw [List.length_range]; exact Nat.le_refl _), Nat.le_of_ble_eq_true rfl⟩ (hwId rfl) rfl rfl (Nat.le_of_ble_eq_true rfl) ⟨by decide, by decide⟩ rfl rfl ⟨Nat.zero_le _, Nat.zero_le _⟩ (hpId rfl rfl) rfl ?_
    obtain rfl := Option.some.inj hf
    exact m_iret K (by decide +kernel) (Nat.zero_le _) (Nat.zero_le _) ⟨rfl, rfl⟩
  · refine m_jT M (i := .ifCond .ne 10) 18 (by decide +kernel) rfl (by decide) c_1002 ?_
    refine m_run M (is := [(18, .iconst 0, 0), (19, .istore_n 2, 0)]) (pc' := 20) (L' := [some (.ref 0), some (.int a0), some (.int 0)]) (st' := []) (w' := (cX tr kp th ot tp sl pk rf ik)) (by decide +kernel) rfl trivial ?_
    exact loop_0 a0 fuel0 0 rf hf

def f_X3_serve (a0 : Int32) (tr : ShT) (rf : AI) : Option (Int32 × ShT × AI) :=
  (f_X3_isBetween a0 1 99).bind fun r1001 =>
  if r1001 = 0 then
    (f_X3_refuse (-2) rf).bind fun r1003 =>
    some (r1003.1, tr, r1003.2)
  else
    (f_X1_isStuck tr).bind fun r1004 =>
    if r1004 = 0 then
      (f_X1_turnTimes a0 tr).bind fun r1006 =>
      (f_X1_who 0 r1006).bind fun r1007 =>
      some (r1007, r1006, rf)
    else
      (f_X3_refuse (-5) rf).bind fun r1008 =>
      some (r1008.1, tr, r1008.2)
set_option maxRecDepth 100000 in
set_option maxHeartbeats 4000000 in
theorem run_X3_serve {l : Launch} {D : va_G} {cT : Nat → ClassId} (a0 : Int32)   (tr : ShT) (kp : ShT) (th : ShT) (ot : ShT) (tp : TpT) (sl : (Nat → SlT)) (pk : AI) (rf : AI) (ik : Int32) {r : Int32 × ShT × AI} (hf : f_X3_serve a0 tr rf = some r) : Runs l D cT yX3_serve cX3_serve 2 (some .int) 4 89 [.ref 0, .int a0] (cX tr kp th ot tp sl pk rf ik) (EQ (some (.int r.1)) (cX r.2.1 kp th ot tp sl pk r.2.2 ik)) := by
  refine runs_of O_X3 okO_X3 (by decide +kernel) rfl rfl (Nat.le_of_ble_eq_true rfl) (Nat.le_of_ble_eq_true rfl) (fun g K => ?_)
  have M := K.b
  show g 0 0 (cX tr kp th ot tp sl pk rf ik) 0 [some (.ref 0), some (.int a0)] []
  rw [f_X3_serve] at hf
  refine m_run M (is := [(0, .iload_n 1, 0), (1, .iconst 1, 1), (2, .bipush 99, 99)]) (pc' := 4) (L' := [some (.ref 0), some (.int a0)]) (st' := [.int 99, .int 1, .int a0]) (w' := (cX tr kp th ot tp sl pk rf ik)) (by decide +kernel) rfl trivial ?_
  obtain ⟨r1001, h_1001, hf⟩ := bnd_s hf
  refine m_cS0 M (rest := []) (w2 := (cX tr kp th ot tp sl pk rf ik)) (st2 := [.int r1001]) (run_X3_isBetween a0 1 99    h_1001) cs_X3_isBetween lk_X3_50 (by decide +kernel) [] (by decide) ⟨Nat.le_of_ble_eq_true rfl, Nat.le_of_ble_eq_true rfl⟩ rfl rfl (Nat.le_of_ble_eq_true rfl) ⟨by decide, by decide⟩ rfl rfl ⟨Nat.zero_le _, Nat.zero_le _⟩ rfl rfl ?_
  rcases ite_s hf with ⟨c_1002, hf⟩ | ⟨c_1002, hf⟩
  · refine m_jF M (i := .ifCond .ne 10) 17 (by decide +kernel) rfl (by decide) (fun n => n c_1002) ?_
    refine m_run M (is := [(10, .aload_n 0, 0), (11, .bipush (-2), -2)]) (pc' := 13) (L' := [some (.ref 0), some (.int a0)]) (st' := [.int (-2), .ref 0]) (w' := (cX tr kp th ot tp sl pk rf ik)) (by decide +kernel) rfl trivial ?_
    obtain ⟨r1003, h_1003, hf⟩ := bnd_s hf
    refine m_cV0 M (rest := []) (w2 := (cX tr kp th ot tp sl pk r1003.2 ik)) (st2 := [.int r1003.1]) (run_X3_refuse (-2)   tr kp th ot tp sl pk rf ik h_1003) cv_X3_refuse lk_X3_54 (by decide +kernel) (List.range 46) List.nodup_range ⟨(by rw [List.length_range]; exact Nat.le_refl _), Nat.le_of_ble_eq_true rfl⟩ (hwId rfl) rfl rfl (Nat.le_of_ble_eq_true rfl) ⟨by decide, by decide⟩ rfl rfl ⟨Nat.zero_le _, Nat.zero_le _⟩ (hpId rfl rfl) rfl ?_
    obtain rfl := Option.some.inj hf
    exact m_iret K (by decide +kernel) (Nat.zero_le _) (Nat.zero_le _) ⟨rfl, rfl⟩
  · refine m_jT M (i := .ifCond .ne 10) 17 (by decide +kernel) rfl (by decide) c_1002 ?_
    refine m_run M (is := [(17, .aload_n 0, 0), (18, .getfield 10, 0)]) (pc' := 21) (L' := [some (.ref 0), some (.int a0)]) (st' := [.ref 1]) (w' := (cX tr kp th ot tp sl pk rf ik)) (by decide +kernel) rfl trivial ?_
    obtain ⟨r1004, h_1004, hf⟩ := bnd_s hf
    refine m_cV0 M (rest := []) (w2 := (cX tr kp th ot tp sl pk rf ik)) (st2 := [.int r1004]) (run_X1_isStuck    tr h_1004) cv_X1_isStuck lk_X3_187 (by decide +kernel) [1, 2, 3, 4, 5, 6] (by decide) ⟨Nat.le_of_ble_eq_true rfl, Nat.le_of_ble_eq_true rfl⟩ (hw_3  tr kp th ot tp sl pk rf ik) rfl rfl (Nat.le_of_ble_eq_true rfl) ⟨by decide, by decide⟩ rfl rfl ⟨Nat.zero_le _, Nat.zero_le _⟩ (hp_3  tr kp th ot tp sl pk rf ik tr) rfl ?_
    rcases ite_s hf with ⟨c_1005, hf⟩ | ⟨c_1005, hf⟩
    · refine m_jT M (i := .ifCond .eq 10) 34 (by decide +kernel) rfl (by decide) c_1005 ?_
      refine m_run M (is := [(34, .aload_n 0, 0), (35, .getfield 10, 0), (38, .iload_n 1, 0)]) (pc' := 39) (L' := [some (.ref 0), some (.int a0)]) (st' := [.int a0, .ref 1]) (w' := (cX tr kp th ot tp sl pk rf ik)) (by decide +kernel) rfl trivial ?_
      obtain ⟨r1006, h_1006, hf⟩ := bnd_s hf
      refine m_cV0 M (rest := []) (w2 := (cX r1006 kp th ot tp sl pk rf ik)) (st2 := []) (run_X1_turnTimes a0   tr h_1006) cv_X1_turnTimes lk_X3_213 (by decide +kernel) [1, 2, 3, 4, 5, 6] (by decide) ⟨Nat.le_of_ble_eq_true rfl, Nat.le_of_ble_eq_true rfl⟩ (hw_3  tr kp th ot tp sl pk rf ik) rfl rfl (Nat.le_of_ble_eq_true rfl) ⟨by decide, by decide⟩ rfl rfl ⟨Nat.zero_le _, Nat.zero_le _⟩ (hp_3  tr kp th ot tp sl pk rf ik r1006) rfl ?_
      refine m_run M (is := [(42, .aload_n 0, 0), (43, .getfield 10, 0), (46, .iconst 0, 0)]) (pc' := 47) (L' := [some (.ref 0), some (.int a0)]) (st' := [.int 0, .ref 1]) (w' := (cX r1006 kp th ot tp sl pk rf ik)) (by decide +kernel) rfl trivial ?_
      obtain ⟨r1007, h_1007, hf⟩ := bnd_s hf
      refine m_cV0 M (rest := []) (w2 := (cX r1006 kp th ot tp sl pk rf ik)) (st2 := [.int r1007]) (run_X1_who 0   r1006 h_1007) cv_X1_who lk_X3_178 (by decide +kernel) [1, 2, 3, 4, 5, 6] (by decide) ⟨Nat.le_of_ble_eq_true rfl, Nat.le_of_ble_eq_true rfl⟩ (hw_3  r1006 kp th ot tp sl pk rf ik) rfl rfl (Nat.le_of_ble_eq_true rfl) ⟨by decide, by decide⟩ rfl rfl ⟨Nat.zero_le _, Nat.zero_le _⟩ (hp_3  r1006 kp th ot tp sl pk rf ik r1006) rfl ?_
      obtain rfl := Option.some.inj hf
      exact m_iret K (by decide +kernel) (Nat.zero_le _) (Nat.zero_le _) ⟨rfl, rfl⟩
    · refine m_jF M (i := .ifCond .eq 10) 34 (by decide +kernel) rfl (by decide) c_1005 ?_
      refine m_run M (is := [(27, .aload_n 0, 0), (28, .bipush (-5), -5)]) (pc' := 30) (L' := [some (.ref 0), some (.int a0)]) (st' := [.int (-5), .ref 0]) (w' := (cX tr kp th ot tp sl pk rf ik)) (by decide +kernel) rfl trivial ?_
      obtain ⟨r1008, h_1008, hf⟩ := bnd_s hf
      refine m_cV0 M (rest := []) (w2 := (cX tr kp th ot tp sl pk r1008.2 ik)) (st2 := [.int r1008.1]) (run_X3_refuse (-5)   tr kp th ot tp sl pk rf ik h_1008) cv_X3_refuse lk_X3_54 (by decide +kernel) (List.range 46) List.nodup_range ⟨(by rw [List.length_range]; exact Nat.le_refl _), Nat.le_of_ble_eq_true rfl⟩ (hwId rfl) rfl rfl (Nat.le_of_ble_eq_true rfl) ⟨by decide, by decide⟩ rfl rfl ⟨Nat.zero_le _, Nat.zero_le _⟩ (hpId rfl rfl) rfl ?_
      obtain rfl := Option.some.inj hf
      exact m_iret K (by decide +kernel) (Nat.zero_le _) (Nat.zero_le _) ⟨rfl, rfl⟩

def f_X3_lets (a0 : Int32) (tr : ShT) (rf : AI) : Option (Int32 × ShT × AI) :=
  (f_X1_hasPlace a0 tr).bind fun r1001 =>
  if r1001 = 0 then
    (f_X3_refuse (-2) rf).bind fun r1003 =>
    some (r1003.1, tr, r1003.2)
  else
    (f_X1_hasPlace (a0 + 1) tr).bind fun r1004 =>
    if r1004 = 0 then
      (f_X3_refuse (-5) rf).bind fun r1006 =>
      some (r1006.1, tr, r1006.2)
    else
      (f_X1_letBefore a0 tr).bind fun r1007 =>
      some (r1007.1, r1007.2, rf)
set_option maxRecDepth 100000 in
set_option maxHeartbeats 4000000 in
theorem run_X3_lets {l : Launch} {D : va_G} {cT : Nat → ClassId} (a0 : Int32)   (tr : ShT) (kp : ShT) (th : ShT) (ot : ShT) (tp : TpT) (sl : (Nat → SlT)) (pk : AI) (rf : AI) (ik : Int32) {r : Int32 × ShT × AI} (hf : f_X3_lets a0 tr rf = some r) : Runs l D cT yX3_lets cX3_lets 2 (some .int) 2 44 [.ref 0, .int a0] (cX tr kp th ot tp sl pk rf ik) (EQ (some (.int r.1)) (cX r.2.1 kp th ot tp sl pk r.2.2 ik)) := by
  refine runs_of O_X3 okO_X3 (by decide +kernel) rfl rfl (Nat.le_of_ble_eq_true rfl) (Nat.le_of_ble_eq_true rfl) (fun g K => ?_)
  have M := K.b
  show g 0 0 (cX tr kp th ot tp sl pk rf ik) 0 [some (.ref 0), some (.int a0)] []
  rw [f_X3_lets] at hf
  refine m_run M (is := [(0, .aload_n 0, 0), (1, .getfield 10, 0), (4, .iload_n 1, 0)]) (pc' := 5) (L' := [some (.ref 0), some (.int a0)]) (st' := [.int a0, .ref 1]) (w' := (cX tr kp th ot tp sl pk rf ik)) (by decide +kernel) rfl trivial ?_
  obtain ⟨r1001, h_1001, hf⟩ := bnd_s hf
  refine m_cV0 M (rest := []) (w2 := (cX tr kp th ot tp sl pk rf ik)) (st2 := [.int r1001]) (run_X1_hasPlace a0   tr h_1001) cv_X1_hasPlace lk_X3_175 (by decide +kernel) [1, 2, 3, 4, 5, 6] (by decide) ⟨Nat.le_of_ble_eq_true rfl, Nat.le_of_ble_eq_true rfl⟩ (hw_3  tr kp th ot tp sl pk rf ik) rfl rfl (Nat.le_of_ble_eq_true rfl) ⟨by decide, by decide⟩ rfl rfl ⟨Nat.zero_le _, Nat.zero_le _⟩ (hp_3  tr kp th ot tp sl pk rf ik tr) rfl ?_
  rcases ite_s hf with ⟨c_1002, hf⟩ | ⟨c_1002, hf⟩
  · refine m_jF M (i := .ifCond .ne 10) 18 (by decide +kernel) rfl (by decide) (fun n => n c_1002) ?_
    refine m_run M (is := [(11, .aload_n 0, 0), (12, .bipush (-2), -2)]) (pc' := 14) (L' := [some (.ref 0), some (.int a0)]) (st' := [.int (-2), .ref 0]) (w' := (cX tr kp th ot tp sl pk rf ik)) (by decide +kernel) rfl trivial ?_
    obtain ⟨r1003, h_1003, hf⟩ := bnd_s hf
    refine m_cV0 M (rest := []) (w2 := (cX tr kp th ot tp sl pk r1003.2 ik)) (st2 := [.int r1003.1]) (run_X3_refuse (-2)   tr kp th ot tp sl pk rf ik h_1003) cv_X3_refuse lk_X3_54 (by decide +kernel) (List.range 46) List.nodup_range ⟨(by rw [List.length_range]; exact Nat.le_refl _), Nat.le_of_ble_eq_true rfl⟩ (hwId rfl) rfl rfl (Nat.le_of_ble_eq_true rfl) ⟨by decide, by decide⟩ rfl rfl ⟨Nat.zero_le _, Nat.zero_le _⟩ (hpId rfl rfl) rfl ?_
    obtain rfl := Option.some.inj hf
    exact m_iret K (by decide +kernel) (Nat.zero_le _) (Nat.zero_le _) ⟨rfl, rfl⟩
  · refine m_jT M (i := .ifCond .ne 10) 18 (by decide +kernel) rfl (by decide) c_1002 ?_
    refine m_run M (is := [(18, .aload_n 0, 0), (19, .getfield 10, 0), (22, .iload_n 1, 0), (23, .iconst 1, 1), (24, .iadd, 0)]) (pc' := 25) (L' := [some (.ref 0), some (.int a0)]) (st' := [.int (a0 + 1), .ref 1]) (w' := (cX tr kp th ot tp sl pk rf ik)) (by decide +kernel) rfl trivial ?_
    obtain ⟨r1004, h_1004, hf⟩ := bnd_s hf
    refine m_cV0 M (rest := []) (w2 := (cX tr kp th ot tp sl pk rf ik)) (st2 := [.int r1004]) (run_X1_hasPlace (a0 + 1)   tr h_1004) cv_X1_hasPlace lk_X3_175 (by decide +kernel) [1, 2, 3, 4, 5, 6] (by decide) ⟨Nat.le_of_ble_eq_true rfl, Nat.le_of_ble_eq_true rfl⟩ (hw_3  tr kp th ot tp sl pk rf ik) rfl rfl (Nat.le_of_ble_eq_true rfl) ⟨by decide, by decide⟩ rfl rfl ⟨Nat.zero_le _, Nat.zero_le _⟩ (hp_3  tr kp th ot tp sl pk rf ik tr) rfl ?_
    rcases ite_s hf with ⟨c_1005, hf⟩ | ⟨c_1005, hf⟩
    · refine m_jT M (i := .ifCond .eq 14) 42 (by decide +kernel) rfl (by decide) c_1005 ?_
      refine m_run M (is := [(42, .aload_n 0, 0), (43, .bipush (-5), -5)]) (pc' := 45) (L' := [some (.ref 0), some (.int a0)]) (st' := [.int (-5), .ref 0]) (w' := (cX tr kp th ot tp sl pk rf ik)) (by decide +kernel) rfl trivial ?_
      obtain ⟨r1006, h_1006, hf⟩ := bnd_s hf
      refine m_cV0 M (rest := []) (w2 := (cX tr kp th ot tp sl pk r1006.2 ik)) (st2 := [.int r1006.1]) (run_X3_refuse (-5)   tr kp th ot tp sl pk rf ik h_1006) cv_X3_refuse lk_X3_54 (by decide +kernel) (List.range 46) List.nodup_range ⟨(by rw [List.length_range]; exact Nat.le_refl _), Nat.le_of_ble_eq_true rfl⟩ (hwId rfl) rfl rfl (Nat.le_of_ble_eq_true rfl) ⟨by decide, by decide⟩ rfl rfl ⟨Nat.zero_le _, Nat.zero_le _⟩ (hpId rfl rfl) rfl ?_
      obtain rfl := Option.some.inj hf
      exact m_iret K (by decide +kernel) (Nat.zero_le _) (Nat.zero_le _) ⟨rfl, rfl⟩
    · refine m_jF M (i := .ifCond .eq 14) 42 (by decide +kernel) rfl (by decide) c_1005 ?_
      refine m_run M (is := [(31, .aload_n 0, 0), (32, .getfield 10, 0), (35, .iload_n 1, 0)]) (pc' := 36) (L' := [some (.ref 0), some (.int a0)]) (st' := [.int a0, .ref 1]) (w' := (cX tr kp th ot tp sl pk rf ik)) (by decide +kernel) rfl trivial ?_
      obtain ⟨r1007, h_1007, hf⟩ := bnd_s hf
      refine m_cV0 M (rest := []) (w2 := (cX r1007.2 kp th ot tp sl pk rf ik)) (st2 := [.int r1007.1]) (run_X1_letBefore a0   tr h_1007) cv_X1_letBefore lk_X3_282 (by decide +kernel) [1, 2, 3, 4, 5, 6] (by decide) ⟨Nat.le_of_ble_eq_true rfl, Nat.le_of_ble_eq_true rfl⟩ (hw_3  tr kp th ot tp sl pk rf ik) rfl rfl (Nat.le_of_ble_eq_true rfl) ⟨by decide, by decide⟩ rfl rfl ⟨Nat.zero_le _, Nat.zero_le _⟩ (hp_3  tr kp th ot tp sl pk rf ik r1007.2) rfl ?_
      refine m_run M (is := [(39, .goto 9, 0)]) (pc' := 48) (L' := [some (.ref 0), some (.int a0)]) (st' := [.int r1007.1]) (w' := (cX r1007.2 kp th ot tp sl pk rf ik)) (by decide +kernel) rfl trivial ?_
      obtain rfl := Option.some.inj hf
      exact m_iret K (by decide +kernel) (Nat.zero_le _) (Nat.zero_le _) ⟨rfl, rfl⟩

def f_X3_moves (a0 : Int32) (a1 : Int32) (tr : ShT) (rf : AI) : Option (Int32 × ShT × AI) :=
  (f_X1_hasPerson a0 tr).bind fun r1001 =>
  if r1001 = 0 then
    (f_X3_refuse (-2) rf).bind fun r1003 =>
    some (r1003.1, tr, r1003.2)
  else
    (f_X1_hasPlace a1 tr).bind fun r1004 =>
    if r1004 = 0 then
      (f_X3_refuse (-2) rf).bind fun r1006 =>
      some (r1006.1, tr, r1006.2)
    else
      (f_X1_placeOf a0 tr).bind fun r1007 =>
      (f_X1_move a0 a1 tr).bind fun r1008 =>
      some (r1007, r1008, rf)
set_option maxRecDepth 100000 in
set_option maxHeartbeats 4000000 in
theorem run_X3_moves {l : Launch} {D : va_G} {cT : Nat → ClassId} (a0 : Int32) (a1 : Int32)   (tr : ShT) (kp : ShT) (th : ShT) (ot : ShT) (tp : TpT) (sl : (Nat → SlT)) (pk : AI) (rf : AI) (ik : Int32) {r : Int32 × ShT × AI} (hf : f_X3_moves a0 a1 tr rf = some r) : Runs l D cT yX3_moves cX3_moves 4 (some .int) 2 45 [.ref 0, .int a0, .int a1] (cX tr kp th ot tp sl pk rf ik) (EQ (some (.int r.1)) (cX r.2.1 kp th ot tp sl pk r.2.2 ik)) := by
  refine runs_of O_X3 okO_X3 (by decide +kernel) rfl rfl (Nat.le_of_ble_eq_true rfl) (Nat.le_of_ble_eq_true rfl) (fun g K => ?_)
  have M := K.b
  show g 0 0 (cX tr kp th ot tp sl pk rf ik) 0 [some (.ref 0), some (.int a0), some (.int a1), none] []
  rw [f_X3_moves] at hf
  refine m_run M (is := [(0, .aload_n 0, 0), (1, .getfield 10, 0), (4, .iload_n 1, 0)]) (pc' := 5) (L' := [some (.ref 0), some (.int a0), some (.int a1), none]) (st' := [.int a0, .ref 1]) (w' := (cX tr kp th ot tp sl pk rf ik)) (by decide +kernel) rfl trivial ?_
  obtain ⟨r1001, h_1001, hf⟩ := bnd_s hf
  refine m_cV0 M (rest := []) (w2 := (cX tr kp th ot tp sl pk rf ik)) (st2 := [.int r1001]) (run_X1_hasPerson a0   tr h_1001) cv_X1_hasPerson lk_X3_147 (by decide +kernel) [1, 2, 3, 4, 5, 6] (by decide) ⟨Nat.le_of_ble_eq_true rfl, Nat.le_of_ble_eq_true rfl⟩ (hw_3  tr kp th ot tp sl pk rf ik) rfl rfl (Nat.le_of_ble_eq_true rfl) ⟨by decide, by decide⟩ rfl rfl ⟨Nat.zero_le _, Nat.zero_le _⟩ (hp_3  tr kp th ot tp sl pk rf ik tr) rfl ?_
  rcases ite_s hf with ⟨c_1002, hf⟩ | ⟨c_1002, hf⟩
  · refine m_jT M (i := .ifCond .eq 14) 22 (by decide +kernel) rfl (by decide) c_1002 ?_
    refine m_run M (is := [(22, .aload_n 0, 0), (23, .bipush (-2), -2)]) (pc' := 25) (L' := [some (.ref 0), some (.int a0), some (.int a1), none]) (st' := [.int (-2), .ref 0]) (w' := (cX tr kp th ot tp sl pk rf ik)) (by decide +kernel) rfl trivial ?_
    obtain ⟨r1003, h_1003, hf⟩ := bnd_s hf
    refine m_cV0 M (rest := []) (w2 := (cX tr kp th ot tp sl pk r1003.2 ik)) (st2 := [.int r1003.1]) (run_X3_refuse (-2)   tr kp th ot tp sl pk rf ik h_1003) cv_X3_refuse lk_X3_54 (by decide +kernel) (List.range 46) List.nodup_range ⟨(by rw [List.length_range]; exact Nat.le_refl _), Nat.le_of_ble_eq_true rfl⟩ (hwId rfl) rfl rfl (Nat.le_of_ble_eq_true rfl) ⟨by decide, by decide⟩ rfl rfl ⟨Nat.zero_le _, Nat.zero_le _⟩ (hpId rfl rfl) rfl ?_
    obtain rfl := Option.some.inj hf
    exact m_iret K (by decide +kernel) (Nat.zero_le _) (Nat.zero_le _) ⟨rfl, rfl⟩
  · refine m_jF M (i := .ifCond .eq 14) 22 (by decide +kernel) rfl (by decide) c_1002 ?_
    refine m_run M (is := [(11, .aload_n 0, 0), (12, .getfield 10, 0), (15, .iload_n 2, 0)]) (pc' := 16) (L' := [some (.ref 0), some (.int a0), some (.int a1), none]) (st' := [.int a1, .ref 1]) (w' := (cX tr kp th ot tp sl pk rf ik)) (by decide +kernel) rfl trivial ?_
    obtain ⟨r1004, h_1004, hf⟩ := bnd_s hf
    refine m_cV0 M (rest := []) (w2 := (cX tr kp th ot tp sl pk rf ik)) (st2 := [.int r1004]) (run_X1_hasPlace a1   tr h_1004) cv_X1_hasPlace lk_X3_175 (by decide +kernel) [1, 2, 3, 4, 5, 6] (by decide) ⟨Nat.le_of_ble_eq_true rfl, Nat.le_of_ble_eq_true rfl⟩ (hw_3  tr kp th ot tp sl pk rf ik) rfl rfl (Nat.le_of_ble_eq_true rfl) ⟨by decide, by decide⟩ rfl rfl ⟨Nat.zero_le _, Nat.zero_le _⟩ (hp_3  tr kp th ot tp sl pk rf ik tr) rfl ?_
    rcases ite_s hf with ⟨c_1005, hf⟩ | ⟨c_1005, hf⟩
    · refine m_jF M (i := .ifCond .ne 10) 29 (by decide +kernel) rfl (by decide) (fun n => n c_1005) ?_
      refine m_run M (is := [(22, .aload_n 0, 0), (23, .bipush (-2), -2)]) (pc' := 25) (L' := [some (.ref 0), some (.int a0), some (.int a1), none]) (st' := [.int (-2), .ref 0]) (w' := (cX tr kp th ot tp sl pk rf ik)) (by decide +kernel) rfl trivial ?_
      obtain ⟨r1006, h_1006, hf⟩ := bnd_s hf
      refine m_cV0 M (rest := []) (w2 := (cX tr kp th ot tp sl pk r1006.2 ik)) (st2 := [.int r1006.1]) (run_X3_refuse (-2)   tr kp th ot tp sl pk rf ik h_1006) cv_X3_refuse lk_X3_54 (by decide +kernel) (List.range 46) List.nodup_range ⟨(by rw [List.length_range]; exact Nat.le_refl _), Nat.le_of_ble_eq_true rfl⟩ (hwId rfl) rfl rfl (Nat.le_of_ble_eq_true rfl) ⟨by decide, by decide⟩ rfl rfl ⟨Nat.zero_le _, Nat.zero_le _⟩ (hpId rfl rfl) rfl ?_
      obtain rfl := Option.some.inj hf
      exact m_iret K (by decide +kernel) (Nat.zero_le _) (Nat.zero_le _) ⟨rfl, rfl⟩
    · refine m_jT M (i := .ifCond .ne 10) 29 (by decide +kernel) rfl (by decide) c_1005 ?_
      refine m_run M (is := [(29, .aload_n 0, 0), (30, .getfield 10, 0), (33, .iload_n 1, 0)]) (pc' := 34) (L' := [some (.ref 0), some (.int a0), some (.int a1), none]) (st' := [.int a0, .ref 1]) (w' := (cX tr kp th ot tp sl pk rf ik)) (by decide +kernel) rfl trivial ?_
      obtain ⟨r1007, h_1007, hf⟩ := bnd_s hf
      refine m_cV0 M (rest := []) (w2 := (cX tr kp th ot tp sl pk rf ik)) (st2 := [.int r1007]) (run_X1_placeOf a0   tr h_1007) cv_X1_placeOf lk_X3_207 (by decide +kernel) [1, 2, 3, 4, 5, 6] (by decide) ⟨Nat.le_of_ble_eq_true rfl, Nat.le_of_ble_eq_true rfl⟩ (hw_3  tr kp th ot tp sl pk rf ik) rfl rfl (Nat.le_of_ble_eq_true rfl) ⟨by decide, by decide⟩ rfl rfl ⟨Nat.zero_le _, Nat.zero_le _⟩ (hp_3  tr kp th ot tp sl pk rf ik tr) rfl ?_
      refine m_run M (is := [(37, .istore_n 3, 0), (38, .aload_n 0, 0), (39, .getfield 10, 0), (42, .iload_n 1, 0), (43, .iload_n 2, 0)]) (pc' := 44) (L' := [some (.ref 0), some (.int a0), some (.int a1), some (.int r1007)]) (st' := [.int a1, .int a0, .ref 1]) (w' := (cX tr kp th ot tp sl pk rf ik)) (by decide +kernel) rfl trivial ?_
      obtain ⟨r1008, h_1008, hf⟩ := bnd_s hf
      refine m_cV0 M (rest := []) (w2 := (cX r1008 kp th ot tp sl pk rf ik)) (st2 := []) (run_X1_move a0 a1   tr h_1008) cv_X1_move lk_X3_245 (by decide +kernel) [1, 2, 3, 4, 5, 6] (by decide) ⟨Nat.le_of_ble_eq_true rfl, Nat.le_of_ble_eq_true rfl⟩ (hw_3  tr kp th ot tp sl pk rf ik) rfl rfl (Nat.le_of_ble_eq_true rfl) ⟨by decide, by decide⟩ rfl rfl ⟨Nat.zero_le _, Nat.zero_le _⟩ (hp_3  tr kp th ot tp sl pk rf ik r1008) rfl ?_
      refine m_run M (is := [(47, .iload_n 3, 0)]) (pc' := 48) (L' := [some (.ref 0), some (.int a0), some (.int a1), some (.int r1007)]) (st' := [.int r1007]) (w' := (cX r1008 kp th ot tp sl pk rf ik)) (by decide +kernel) rfl trivial ?_
      obtain rfl := Option.some.inj hf
      exact m_iret K (by decide +kernel) (Nat.zero_le _) (Nat.zero_le _) ⟨rfl, rfl⟩

def f_X3_leaves (tr : ShT) (rf : AI) : Option (Int32 × ShT × AI) :=
  (f_X1_isEmpty tr).bind fun r1001 =>
  if r1001 = 0 then
    (f_X1_removeLast tr).bind fun r1003 =>
    some (r1003.2.2.2.2.2.1, r1003, rf)
  else
    (f_X3_refuse (-5) rf).bind fun r1004 =>
    some (r1004.1, tr, r1004.2)
set_option maxRecDepth 100000 in
set_option maxHeartbeats 4000000 in
theorem run_X3_leaves {l : Launch} {D : va_G} {cT : Nat → ClassId}    (tr : ShT) (kp : ShT) (th : ShT) (ot : ShT) (tp : TpT) (sl : (Nat → SlT)) (pk : AI) (rf : AI) (ik : Int32) {r : Int32 × ShT × AI} (hf : f_X3_leaves tr rf = some r) : Runs l D cT yX3_leaves cX3_leaves 1 (some .int) 3 65 [.ref 0] (cX tr kp th ot tp sl pk rf ik) (EQ (some (.int r.1)) (cX r.2.1 kp th ot tp sl pk r.2.2 ik)) := by
  refine runs_of O_X3 okO_X3 (by decide +kernel) rfl rfl (Nat.le_of_ble_eq_true rfl) (Nat.le_of_ble_eq_true rfl) (fun g K => ?_)
  have M := K.b
  show g 0 0 (cX tr kp th ot tp sl pk rf ik) 0 [some (.ref 0)] []
  rw [f_X3_leaves] at hf
  refine m_run M (is := [(0, .aload_n 0, 0), (1, .getfield 10, 0)]) (pc' := 4) (L' := [some (.ref 0)]) (st' := [.ref 1]) (w' := (cX tr kp th ot tp sl pk rf ik)) (by decide +kernel) rfl trivial ?_
  obtain ⟨r1001, h_1001, hf⟩ := bnd_s hf
  refine m_cV0 M (rest := []) (w2 := (cX tr kp th ot tp sl pk rf ik)) (st2 := [.int r1001]) (run_X1_isEmpty    tr h_1001) cv_X1_isEmpty lk_X3_236 (by decide +kernel) [1, 2, 3, 4, 5, 6] (by decide) ⟨Nat.le_of_ble_eq_true rfl, Nat.le_of_ble_eq_true rfl⟩ (hw_3  tr kp th ot tp sl pk rf ik) rfl rfl (Nat.le_of_ble_eq_true rfl) ⟨by decide, by decide⟩ rfl rfl ⟨Nat.zero_le _, Nat.zero_le _⟩ (hp_3  tr kp th ot tp sl pk rf ik tr) rfl ?_
  rcases ite_s hf with ⟨c_1002, hf⟩ | ⟨c_1002, hf⟩
  · refine m_jT M (i := .ifCond .eq 10) 17 (by decide +kernel) rfl (by decide) c_1002 ?_
    refine m_run M (is := [(17, .aload_n 0, 0), (18, .getfield 10, 0)]) (pc' := 21) (L' := [some (.ref 0)]) (st' := [.ref 1]) (w' := (cX tr kp th ot tp sl pk rf ik)) (by decide +kernel) rfl trivial ?_
    obtain ⟨r1003, h_1003, hf⟩ := bnd_s hf
    refine m_cV0 M (rest := []) (w2 := (cX r1003 kp th ot tp sl pk rf ik)) (st2 := []) (run_X1_removeLast    tr h_1003) cv_X1_removeLast lk_X3_291 (by decide +kernel) [1, 2, 3, 4, 5, 6] (by decide) ⟨Nat.le_of_ble_eq_true rfl, Nat.le_of_ble_eq_true rfl⟩ (hw_3  tr kp th ot tp sl pk rf ik) rfl rfl (Nat.le_of_ble_eq_true rfl) ⟨by decide, by decide⟩ rfl rfl ⟨Nat.zero_le _, Nat.zero_le _⟩ (hp_3  tr kp th ot tp sl pk rf ik r1003) rfl ?_
    refine m_run M (is := [(24, .aload_n 0, 0), (25, .getfield 10, 0), (28, .getfield 216, 0)]) (pc' := 31) (L' := [some (.ref 0)]) (st' := [.int r1003.2.2.2.2.2.1]) (w' := (cX r1003 kp th ot tp sl pk rf ik)) (by decide +kernel) rfl trivial ?_
    obtain rfl := Option.some.inj hf
    exact m_iret K (by decide +kernel) (Nat.zero_le _) (Nat.zero_le _) ⟨rfl, rfl⟩
  · refine m_jF M (i := .ifCond .eq 10) 17 (by decide +kernel) rfl (by decide) c_1002 ?_
    refine m_run M (is := [(10, .aload_n 0, 0), (11, .bipush (-5), -5)]) (pc' := 13) (L' := [some (.ref 0)]) (st' := [.int (-5), .ref 0]) (w' := (cX tr kp th ot tp sl pk rf ik)) (by decide +kernel) rfl trivial ?_
    obtain ⟨r1004, h_1004, hf⟩ := bnd_s hf
    refine m_cV0 M (rest := []) (w2 := (cX tr kp th ot tp sl pk r1004.2 ik)) (st2 := [.int r1004.1]) (run_X3_refuse (-5)   tr kp th ot tp sl pk rf ik h_1004) cv_X3_refuse lk_X3_54 (by decide +kernel) (List.range 46) List.nodup_range ⟨(by rw [List.length_range]; exact Nat.le_refl _), Nat.le_of_ble_eq_true rfl⟩ (hwId rfl) rfl rfl (Nat.le_of_ble_eq_true rfl) ⟨by decide, by decide⟩ rfl rfl ⟨Nat.zero_le _, Nat.zero_le _⟩ (hpId rfl rfl) rfl ?_
    obtain rfl := Option.some.inj hf
    exact m_iret K (by decide +kernel) (Nat.zero_le _) (Nat.zero_le _) ⟨rfl, rfl⟩

def f_X3_day_L0 (v1 : Int32) : Nat → Int32 → Int32 → ShT → AI → Option (Int32 × ShT × AI)
  | 0, _, _, _, _ => none
  | n_ + 1, v2, v3, tr, rf =>
    if v1 ≤ v3 then
      some (v2, tr, rf)
    else
      (f_X1_draw 5 tr).bind fun r102 =>
      if r102.1 = 0 then
        if r102.2.2.2.2.2.2.1 ≤ 1 then
          (f_X1_turn r102.2).bind fun r105 =>
          f_X3_day_L0 v1 n_ v2 (v3 + 1) r105.2 rf
        else
          (f_X1_draw (r102.2.2.2.2.2.2.1 - 1) r102.2).bind fun r106 =>
          (f_X1_letBefore r106.1 r106.2).bind fun r107 =>
          (f_X1_turn r107.2).bind fun r108 =>
          f_X3_day_L0 v1 n_ (v2 + 1) (v3 + 1) r108.2 rf
      else
        (f_X1_turn r102.2).bind fun r109 =>
        f_X3_day_L0 v1 n_ v2 (v3 + 1) r109.2 rf
def f_X3_day (a0 : Int32) (tr : ShT) (rf : AI) : Option (Int32 × ShT × AI) :=
  (f_X3_isBetween a0 1 99).bind fun r1001 =>
  if r1001 = 0 then
    (f_X3_refuse (-2) rf).bind fun r1003 =>
    some (r1003.1, tr, r1003.2)
  else
    (f_X1_isStuck tr).bind fun r1004 =>
    if r1004 = 0 then
      f_X3_day_L0 a0 fuel0 0 0 tr rf
    else
      (f_X3_refuse (-5) rf).bind fun r1006 =>
      some (r1006.1, tr, r1006.2)
set_option maxRecDepth 100000 in
set_option maxHeartbeats 4000000 in
theorem run_X3_day {l : Launch} {D : va_G} {cT : Nat → ClassId} (a0 : Int32)   (tr : ShT) (kp : ShT) (th : ShT) (ot : ShT) (tp : TpT) (sl : (Nat → SlT)) (pk : AI) (rf : AI) (ik : Int32) {r : Int32 × ShT × AI} (hf : f_X3_day a0 tr rf = some r) : Runs l D cT yX3_day cX3_day 4 (some .int) 3 67 [.ref 0, .int a0] (cX tr kp th ot tp sl pk rf ik) (EQ (some (.int r.1)) (cX r.2.1 kp th ot tp sl pk r.2.2 ik)) := by
  refine runs_of O_X3 okO_X3 (by decide +kernel) rfl rfl (Nat.le_of_ble_eq_true rfl) (Nat.le_of_ble_eq_true rfl) (fun g K => ?_)
  have M := K.b
  show g 0 0 (cX tr kp th ot tp sl pk rf ik) 0 [some (.ref 0), some (.int a0), none, none] []
  have loop_0 : ∀ (v1 : Int32) (n_ : Nat), (∀ (v2 : Int32) (v3 : Int32) (tr : ShT) (rf : AI), f_X3_day_L0 v1 n_ v2 v3 tr rf = some r → g 0 0 (cX tr kp th ot tp sl pk rf ik) 38 [some (.ref 0), some (.int v1), some (.int v2), some (.int v3)] []) := by
    intro v1 n_
    induction n_ with
    | zero => intro v2 v3 tr rf hf; cases hf
    | succ n_ ih =>
      intro v2 v3 tr rf hf
      rw [f_X3_day_L0] at hf
      refine m_run M (is := [(38, .iload_n 3, 0), (39, .iload_n 1, 0)]) (pc' := 40) (L' := [some (.ref 0), some (.int v1), some (.int v2), some (.int v3)]) (st' := [.int v1, .int v3]) (w' := (cX tr kp th ot tp sl pk rf ik)) (by decide +kernel) rfl trivial ?_
      rcases ite_s hf with ⟨c_101, hf⟩ | ⟨c_101, hf⟩
      · refine m_jT M (i := .if_icmp .ge 66) 106 (by decide +kernel) rfl (by decide) c_101 ?_
        refine m_run M (is := [(106, .iload_n 2, 0)]) (pc' := 107) (L' := [some (.ref 0), some (.int v1), some (.int v2), some (.int v3)]) (st' := [.int v2]) (w' := (cX tr kp th ot tp sl pk rf ik)) (by decide +kernel) rfl trivial ?_
        obtain rfl := Option.some.inj hf
        exact m_iret K (by decide +kernel) (Nat.zero_le _) (Nat.zero_le _) ⟨rfl, rfl⟩
      · refine m_jF M (i := .if_icmp .ge 66) 106 (by decide +kernel) rfl (by decide) c_101 ?_
        refine m_run M (is := [(43, .aload_n 0, 0), (44, .getfield 10, 0), (47, .iconst 5, 5)]) (pc' := 48) (L' := [some (.ref 0), some (.int v1), some (.int v2), some (.int v3)]) (st' := [.int 5, .ref 1]) (w' := (cX tr kp th ot tp sl pk rf ik)) (by decide +kernel) rfl trivial ?_
        obtain ⟨r102, h_102, hf⟩ := bnd_s hf
        refine m_cV0 M (rest := []) (w2 := (cX r102.2 kp th ot tp sl pk rf ik)) (st2 := [.int r102.1]) (run_X1_draw 5   tr h_102) cv_X1_draw lk_X3_294 (by decide +kernel) [1, 2, 3, 4, 5, 6] (by decide) ⟨Nat.le_of_ble_eq_true rfl, Nat.le_of_ble_eq_true rfl⟩ (hw_3  tr kp th ot tp sl pk rf ik) rfl rfl (Nat.le_of_ble_eq_true rfl) ⟨by decide, by decide⟩ rfl rfl ⟨Nat.zero_le _, Nat.zero_le _⟩ (hp_3  tr kp th ot tp sl pk rf ik r102.2) rfl ?_
        rcases ite_s hf with ⟨c_103, hf⟩ | ⟨c_103, hf⟩
        · refine m_jF M (i := .ifCond .ne 41) 92 (by decide +kernel) rfl (by decide) (fun n => n c_103) ?_
          refine m_run M (is := [(54, .aload_n 0, 0), (55, .getfield 10, 0), (58, .getfield 216, 0), (61, .iconst 1, 1)]) (pc' := 62) (L' := [some (.ref 0), some (.int v1), some (.int v2), some (.int v3)]) (st' := [.int 1, .int r102.2.2.2.2.2.2.1]) (w' := (cX r102.2 kp th ot tp sl pk rf ik)) (by decide +kernel) rfl trivial ?_
          rcases ite_s hf with ⟨c_104, hf⟩ | ⟨c_104, hf⟩
          · refine m_jT M (i := .if_icmp .le 30) 92 (by decide +kernel) rfl (by decide) c_104 ?_
            refine m_run M (is := [(92, .aload_n 0, 0), (93, .getfield 10, 0)]) (pc' := 96) (L' := [some (.ref 0), some (.int v1), some (.int v2), some (.int v3)]) (st' := [.ref 1]) (w' := (cX r102.2 kp th ot tp sl pk rf ik)) (by decide +kernel) rfl trivial ?_
            obtain ⟨r105, h_105, hf⟩ := bnd_s hf
            refine m_cV0 M (rest := []) (w2 := (cX r105.2 kp th ot tp sl pk rf ik)) (st2 := [.int r105.1]) (run_X1_turn    r102.2 h_105) cv_X1_turn lk_X3_190 (by decide +kernel) [1, 2, 3, 4, 5, 6] (by decide) ⟨Nat.le_of_ble_eq_true rfl, Nat.le_of_ble_eq_true rfl⟩ (hw_3  r102.2 kp th ot tp sl pk rf ik) rfl rfl (Nat.le_of_ble_eq_true rfl) ⟨by decide, by decide⟩ rfl rfl ⟨Nat.zero_le _, Nat.zero_le _⟩ (hp_3  r102.2 kp th ot tp sl pk rf ik r105.2) rfl ?_
            refine m_run M (is := [(99, .pop, 0), (100, .iinc 3 1, 1), (103, .goto (-65), 0)]) (pc' := 38) (L' := [some (.ref 0), some (.int v1), some (.int v2), some (.int (v3 + 1))]) (st' := []) (w' := (cX r105.2 kp th ot tp sl pk rf ik)) (by decide +kernel) rfl trivial ?_
            exact ih v2 (v3 + 1) r105.2 rf hf
          · refine m_jF M (i := .if_icmp .le 30) 92 (by decide +kernel) rfl (by decide) c_104 ?_
            refine m_run M (is := [(65, .aload_n 0, 0), (66, .getfield 10, 0), (69, .aload_n 0, 0), (70, .getfield 10, 0), (73, .aload_n 0, 0), (74, .getfield 10, 0), (77, .getfield 216, 0), (80, .iconst 1, 1), (81, .isub, 0)]) (pc' := 82) (L' := [some (.ref 0), some (.int v1), some (.int v2), some (.int v3)]) (st' := [.int (r102.2.2.2.2.2.2.1 - 1), .ref 1, .ref 1]) (w' := (cX r102.2 kp th ot tp sl pk rf ik)) (by decide +kernel) rfl trivial ?_
            obtain ⟨r106, h_106, hf⟩ := bnd_s hf
            refine m_cV0 M (rest := [.ref 1]) (w2 := (cX r106.2 kp th ot tp sl pk rf ik)) (st2 := [.int r106.1, .ref 1]) (run_X1_draw (r102.2.2.2.2.2.2.1 - 1)   r102.2 h_106) cv_X1_draw lk_X3_294 (by decide +kernel) [1, 2, 3, 4, 5, 6] (by decide) ⟨Nat.le_of_ble_eq_true rfl, Nat.le_of_ble_eq_true rfl⟩ (hw_3  r102.2 kp th ot tp sl pk rf ik) rfl rfl (Nat.le_of_ble_eq_true rfl) ⟨by decide, by decide⟩ rfl rfl ⟨Nat.zero_le _, Nat.zero_le _⟩ (hp_3  r102.2 kp th ot tp sl pk rf ik r106.2) rfl ?_
            obtain ⟨r107, h_107, hf⟩ := bnd_s hf
            refine m_cV0 M (rest := []) (w2 := (cX r107.2 kp th ot tp sl pk rf ik)) (st2 := [.int r107.1]) (run_X1_letBefore r106.1   r106.2 h_107) cv_X1_letBefore lk_X3_282 (by decide +kernel) [1, 2, 3, 4, 5, 6] (by decide) ⟨Nat.le_of_ble_eq_true rfl, Nat.le_of_ble_eq_true rfl⟩ (hw_3  r106.2 kp th ot tp sl pk rf ik) rfl rfl (Nat.le_of_ble_eq_true rfl) ⟨by decide, by decide⟩ rfl rfl ⟨Nat.zero_le _, Nat.zero_le _⟩ (hp_3  r106.2 kp th ot tp sl pk rf ik r107.2) rfl ?_
            refine m_run M (is := [(88, .pop, 0), (89, .iinc 2 1, 1), (92, .aload_n 0, 0), (93, .getfield 10, 0)]) (pc' := 96) (L' := [some (.ref 0), some (.int v1), some (.int (v2 + 1)), some (.int v3)]) (st' := [.ref 1]) (w' := (cX r107.2 kp th ot tp sl pk rf ik)) (by decide +kernel) rfl trivial ?_
            obtain ⟨r108, h_108, hf⟩ := bnd_s hf
            refine m_cV0 M (rest := []) (w2 := (cX r108.2 kp th ot tp sl pk rf ik)) (st2 := [.int r108.1]) (run_X1_turn    r107.2 h_108) cv_X1_turn lk_X3_190 (by decide +kernel) [1, 2, 3, 4, 5, 6] (by decide) ⟨Nat.le_of_ble_eq_true rfl, Nat.le_of_ble_eq_true rfl⟩ (hw_3  r107.2 kp th ot tp sl pk rf ik) rfl rfl (Nat.le_of_ble_eq_true rfl) ⟨by decide, by decide⟩ rfl rfl ⟨Nat.zero_le _, Nat.zero_le _⟩ (hp_3  r107.2 kp th ot tp sl pk rf ik r108.2) rfl ?_
            refine m_run M (is := [(99, .pop, 0), (100, .iinc 3 1, 1), (103, .goto (-65), 0)]) (pc' := 38) (L' := [some (.ref 0), some (.int v1), some (.int (v2 + 1)), some (.int (v3 + 1))]) (st' := []) (w' := (cX r108.2 kp th ot tp sl pk rf ik)) (by decide +kernel) rfl trivial ?_
            exact ih (v2 + 1) (v3 + 1) r108.2 rf hf
        · refine m_jT M (i := .ifCond .ne 41) 92 (by decide +kernel) rfl (by decide) c_103 ?_
          refine m_run M (is := [(92, .aload_n 0, 0), (93, .getfield 10, 0)]) (pc' := 96) (L' := [some (.ref 0), some (.int v1), some (.int v2), some (.int v3)]) (st' := [.ref 1]) (w' := (cX r102.2 kp th ot tp sl pk rf ik)) (by decide +kernel) rfl trivial ?_
          obtain ⟨r109, h_109, hf⟩ := bnd_s hf
          refine m_cV0 M (rest := []) (w2 := (cX r109.2 kp th ot tp sl pk rf ik)) (st2 := [.int r109.1]) (run_X1_turn    r102.2 h_109) cv_X1_turn lk_X3_190 (by decide +kernel) [1, 2, 3, 4, 5, 6] (by decide) ⟨Nat.le_of_ble_eq_true rfl, Nat.le_of_ble_eq_true rfl⟩ (hw_3  r102.2 kp th ot tp sl pk rf ik) rfl rfl (Nat.le_of_ble_eq_true rfl) ⟨by decide, by decide⟩ rfl rfl ⟨Nat.zero_le _, Nat.zero_le _⟩ (hp_3  r102.2 kp th ot tp sl pk rf ik r109.2) rfl ?_
          refine m_run M (is := [(99, .pop, 0), (100, .iinc 3 1, 1), (103, .goto (-65), 0)]) (pc' := 38) (L' := [some (.ref 0), some (.int v1), some (.int v2), some (.int (v3 + 1))]) (st' := []) (w' := (cX r109.2 kp th ot tp sl pk rf ik)) (by decide +kernel) rfl trivial ?_
          exact ih v2 (v3 + 1) r109.2 rf hf
  rw [f_X3_day] at hf
  refine m_run M (is := [(0, .iload_n 1, 0), (1, .iconst 1, 1), (2, .bipush 99, 99)]) (pc' := 4) (L' := [some (.ref 0), some (.int a0), none, none]) (st' := [.int 99, .int 1, .int a0]) (w' := (cX tr kp th ot tp sl pk rf ik)) (by decide +kernel) rfl trivial ?_
  obtain ⟨r1001, h_1001, hf⟩ := bnd_s hf
  refine m_cS0 M (rest := []) (w2 := (cX tr kp th ot tp sl pk rf ik)) (st2 := [.int r1001]) (run_X3_isBetween a0 1 99    h_1001) cs_X3_isBetween lk_X3_50 (by decide +kernel) [] (by decide) ⟨Nat.le_of_ble_eq_true rfl, Nat.le_of_ble_eq_true rfl⟩ rfl rfl (Nat.le_of_ble_eq_true rfl) ⟨by decide, by decide⟩ rfl rfl ⟨Nat.zero_le _, Nat.zero_le _⟩ rfl rfl ?_
  rcases ite_s hf with ⟨c_1002, hf⟩ | ⟨c_1002, hf⟩
  · refine m_jF M (i := .ifCond .ne 10) 17 (by decide +kernel) rfl (by decide) (fun n => n c_1002) ?_
    refine m_run M (is := [(10, .aload_n 0, 0), (11, .bipush (-2), -2)]) (pc' := 13) (L' := [some (.ref 0), some (.int a0), none, none]) (st' := [.int (-2), .ref 0]) (w' := (cX tr kp th ot tp sl pk rf ik)) (by decide +kernel) rfl trivial ?_
    obtain ⟨r1003, h_1003, hf⟩ := bnd_s hf
    refine m_cV0 M (rest := []) (w2 := (cX tr kp th ot tp sl pk r1003.2 ik)) (st2 := [.int r1003.1]) (run_X3_refuse (-2)   tr kp th ot tp sl pk rf ik h_1003) cv_X3_refuse lk_X3_54 (by decide +kernel) (List.range 46) List.nodup_range ⟨(by rw [List.length_range]; exact Nat.le_refl _), Nat.le_of_ble_eq_true rfl⟩ (hwId rfl) rfl rfl (Nat.le_of_ble_eq_true rfl) ⟨by decide, by decide⟩ rfl rfl ⟨Nat.zero_le _, Nat.zero_le _⟩ (hpId rfl rfl) rfl ?_
    obtain rfl := Option.some.inj hf
    exact m_iret K (by decide +kernel) (Nat.zero_le _) (Nat.zero_le _) ⟨rfl, rfl⟩
  · refine m_jT M (i := .ifCond .ne 10) 17 (by decide +kernel) rfl (by decide) c_1002 ?_
    refine m_run M (is := [(17, .aload_n 0, 0), (18, .getfield 10, 0)]) (pc' := 21) (L' := [some (.ref 0), some (.int a0), none, none]) (st' := [.ref 1]) (w' := (cX tr kp th ot tp sl pk rf ik)) (by decide +kernel) rfl trivial ?_
    obtain ⟨r1004, h_1004, hf⟩ := bnd_s hf
    refine m_cV0 M (rest := []) (w2 := (cX tr kp th ot tp sl pk rf ik)) (st2 := [.int r1004]) (run_X1_isStuck    tr h_1004) cv_X1_isStuck lk_X3_187 (by decide +kernel) [1, 2, 3, 4, 5, 6] (by decide) ⟨Nat.le_of_ble_eq_true rfl, Nat.le_of_ble_eq_true rfl⟩ (hw_3  tr kp th ot tp sl pk rf ik) rfl rfl (Nat.le_of_ble_eq_true rfl) ⟨by decide, by decide⟩ rfl rfl ⟨Nat.zero_le _, Nat.zero_le _⟩ (hp_3  tr kp th ot tp sl pk rf ik tr) rfl ?_
    rcases ite_s hf with ⟨c_1005, hf⟩ | ⟨c_1005, hf⟩
    · refine m_jT M (i := .ifCond .eq 10) 34 (by decide +kernel) rfl (by decide) c_1005 ?_
      refine m_run M (is := [(34, .iconst 0, 0), (35, .istore_n 2, 0), (36, .iconst 0, 0), (37, .istore_n 3, 0)]) (pc' := 38) (L' := [some (.ref 0), some (.int a0), some (.int 0), some (.int 0)]) (st' := []) (w' := (cX tr kp th ot tp sl pk rf ik)) (by decide +kernel) rfl trivial ?_
      exact loop_0 a0 fuel0 0 0 tr rf hf
    · refine m_jF M (i := .ifCond .eq 10) 34 (by decide +kernel) rfl (by decide) c_1005 ?_
      refine m_run M (is := [(27, .aload_n 0, 0), (28, .bipush (-5), -5)]) (pc' := 30) (L' := [some (.ref 0), some (.int a0), none, none]) (st' := [.int (-5), .ref 0]) (w' := (cX tr kp th ot tp sl pk rf ik)) (by decide +kernel) rfl trivial ?_
      obtain ⟨r1006, h_1006, hf⟩ := bnd_s hf
      refine m_cV0 M (rest := []) (w2 := (cX tr kp th ot tp sl pk r1006.2 ik)) (st2 := [.int r1006.1]) (run_X3_refuse (-5)   tr kp th ot tp sl pk rf ik h_1006) cv_X3_refuse lk_X3_54 (by decide +kernel) (List.range 46) List.nodup_range ⟨(by rw [List.length_range]; exact Nat.le_refl _), Nat.le_of_ble_eq_true rfl⟩ (hwId rfl) rfl rfl (Nat.le_of_ble_eq_true rfl) ⟨by decide, by decide⟩ rfl rfl ⟨Nat.zero_le _, Nat.zero_le _⟩ (hpId rfl rfl) rfl ?_
      obtain rfl := Option.some.inj hf
      exact m_iret K (by decide +kernel) (Nat.zero_le _) (Nat.zero_le _) ⟨rfl, rfl⟩

def f_X3_anew (tr : ShT) : Option (Int32 × ShT) :=
  (f_X1_startAnew tr).bind fun r1001 =>
  some (tr.2.2.2.2.2.2.2.2.1, r1001)
set_option maxRecDepth 100000 in
set_option maxHeartbeats 4000000 in
theorem run_X3_anew {l : Launch} {D : va_G} {cT : Nat → ClassId}    (tr : ShT) (kp : ShT) (th : ShT) (ot : ShT) (tp : TpT) (sl : (Nat → SlT)) (pk : AI) (rf : AI) (ik : Int32) {r : Int32 × ShT} (hf : f_X3_anew tr = some r) : Runs l D cT yX3_anew cX3_anew 2 (some .int) 2 43 [.ref 0] (cX tr kp th ot tp sl pk rf ik) (EQ (some (.int r.1)) (cX r.2 kp th ot tp sl pk rf ik)) := by
  refine runs_of O_X3 okO_X3 (by decide +kernel) rfl rfl (Nat.le_of_ble_eq_true rfl) (Nat.le_of_ble_eq_true rfl) (fun g K => ?_)
  have M := K.b
  show g 0 0 (cX tr kp th ot tp sl pk rf ik) 0 [some (.ref 0), none] []
  rw [f_X3_anew] at hf
  refine m_run M (is := [(0, .aload_n 0, 0), (1, .getfield 10, 0), (4, .getfield 297, 0), (7, .istore_n 1, 0), (8, .aload_n 0, 0), (9, .getfield 10, 0)]) (pc' := 12) (L' := [some (.ref 0), some (.int tr.2.2.2.2.2.2.2.2.1)]) (st' := [.ref 1]) (w' := (cX tr kp th ot tp sl pk rf ik)) (by decide +kernel) rfl trivial ?_
  obtain ⟨r1001, h_1001, hf⟩ := bnd_s hf
  refine m_cV0 M (rest := []) (w2 := (cX r1001 kp th ot tp sl pk rf ik)) (st2 := []) (run_X1_startAnew    tr h_1001) cv_X1_startAnew lk_X3_210 (by decide +kernel) [1, 2, 3, 4, 5, 6] (by decide) ⟨Nat.le_of_ble_eq_true rfl, Nat.le_of_ble_eq_true rfl⟩ (hw_3  tr kp th ot tp sl pk rf ik) rfl rfl (Nat.le_of_ble_eq_true rfl) ⟨by decide, by decide⟩ rfl rfl ⟨Nat.zero_le _, Nat.zero_le _⟩ (hp_3  tr kp th ot tp sl pk rf ik r1001) rfl ?_
  refine m_run M (is := [(15, .iload_n 1, 0)]) (pc' := 16) (L' := [some (.ref 0), some (.int tr.2.2.2.2.2.2.2.2.1)]) (st' := [.int tr.2.2.2.2.2.2.2.2.1]) (w' := (cX r1001 kp th ot tp sl pk rf ik)) (by decide +kernel) rfl trivial ?_
  obtain rfl := Option.some.inj hf
  exact m_iret K (by decide +kernel) (Nat.zero_le _) (Nat.zero_le _) ⟨rfl, rfl⟩

def f_X3_seed (a0 : Int32) (tr : ShT) : Option (Int32 × ShT) :=
  some (tr.2.2.2.2.2.2.2.2.2, (tr.1, tr.2.1, tr.2.2.1, tr.2.2.2.1, tr.2.2.2.2.1, tr.2.2.2.2.2.1, tr.2.2.2.2.2.2.1, tr.2.2.2.2.2.2.2.1, tr.2.2.2.2.2.2.2.2.1, a0))
set_option maxRecDepth 100000 in
set_option maxHeartbeats 4000000 in
theorem run_X3_seed {l : Launch} {D : va_G} {cT : Nat → ClassId} (a0 : Int32)   (tr : ShT) (kp : ShT) (th : ShT) (ot : ShT) (tp : TpT) (sl : (Nat → SlT)) (pk : AI) (rf : AI) (ik : Int32) {r : Int32 × ShT} (hf : f_X3_seed a0 tr = some r) : Runs l D cT yX3_seed cX3_seed 3 (some .int) 0 0 [.ref 0, .int a0] (cX tr kp th ot tp sl pk rf ik) (EQ (some (.int r.1)) (cX r.2 kp th ot tp sl pk rf ik)) := by
  refine runs_of O_X3 okO_X3 (by decide +kernel) rfl rfl (Nat.le_of_ble_eq_true rfl) (Nat.le_of_ble_eq_true rfl) (fun g K => ?_)
  have M := K.b
  show g 0 0 (cX tr kp th ot tp sl pk rf ik) 0 [some (.ref 0), some (.int a0), none] []
  rw [f_X3_seed] at hf
  refine m_run M (is := [(0, .aload_n 0, 0), (1, .getfield 10, 0), (4, .getfield 300, 0), (7, .istore_n 2, 0), (8, .aload_n 0, 0), (9, .getfield 10, 0), (12, .iload_n 1, 0), (13, .putfield 300, 0), (16, .iload_n 2, 0)]) (pc' := 17) (L' := [some (.ref 0), some (.int a0), some (.int tr.2.2.2.2.2.2.2.2.2)]) (st' := [.int tr.2.2.2.2.2.2.2.2.2]) (w' := (cX (tr.1, tr.2.1, tr.2.2.1, tr.2.2.2.1, tr.2.2.2.2.1, tr.2.2.2.2.2.1, tr.2.2.2.2.2.2.1, tr.2.2.2.2.2.2.2.1, tr.2.2.2.2.2.2.2.2.1, a0) kp th ot tp sl pk rf ik)) (by decide +kernel) rfl trivial ?_
  obtain rfl := Option.some.inj hf
  exact m_iret K (by decide +kernel) (Nat.zero_le _) (Nat.zero_le _) ⟨rfl, rfl⟩

set_option maxRecDepth 100000 in
set_option maxHeartbeats 4000000 in
theorem hw_9  (tr : ShT) (kp : ShT) (th : ShT) (ot : ShT) (tp : TpT) (sl : (Nat → SlT)) (pk : AI) (rf : AI) (ik : Int32) : (List.take (List.length (((cSh 0 kp) ++ (cSh 6 tr)) : Wd)) ([7, 8, 9, 10, 11, 12, 1, 2, 3, 4, 5, 6] : List Nat)).map (fun k => ((cX tr kp th ot tp sl pk rf ik))[k]?) = (((cSh 0 kp) ++ (cSh 6 tr)) : Wd).map (fun x => some (rS [7, 8, 9, 10, 11, 12, 1, 2, 3, 4, 5, 6] (List.length ((cX tr kp th ot tp sl pk rf ik) : Wd)) x)) := rfl
set_option maxRecDepth 100000 in
set_option maxHeartbeats 4000000 in
theorem hp_9  (tr : ShT) (kp : ShT) (th : ShT) (ot : ShT) (tp : TpT) (sl : (Nat → SlT)) (pk : AI) (rf : AI) (ik : Int32) (s' : ShT) (o' : ShT) : putL (List.take (List.length (((cSh 0 kp) ++ (cSh 6 tr)) : Wd)) ([7, 8, 9, 10, 11, 12, 1, 2, 3, 4, 5, 6] : List Nat)) ((((cSh 0 s') ++ (cSh 6 o')) : Wd).map (rS [7, 8, 9, 10, 11, 12, 1, 2, 3, 4, 5, 6] (List.length ((cX tr kp th ot tp sl pk rf ik) : Wd)))) (cX tr kp th ot tp sl pk rf ik) = (cX o' s' th ot tp sl pk rf ik) := rfl
def f_X3_image (tr : ShT) (kp : ShT) (ik : Int32) : Option (Int32 × ShT × Int32) :=
  (f_X1_become kp tr).bind fun r1001 =>
  some (1, r1001, 1)
set_option maxRecDepth 100000 in
set_option maxHeartbeats 4000000 in
theorem run_X3_image {l : Launch} {D : va_G} {cT : Nat → ClassId}    (tr : ShT) (kp : ShT) (th : ShT) (ot : ShT) (tp : TpT) (sl : (Nat → SlT)) (pk : AI) (rf : AI) (ik : Int32) {r : Int32 × ShT × Int32} (hf : f_X3_image tr kp ik = some r) : Runs l D cT yX3_image cX3_image 1 (some .int) 2 39 [.ref 0] (cX tr kp th ot tp sl pk rf ik) (EQ (some (.int r.1)) (cX tr r.2.1 th ot tp sl pk rf r.2.2)) := by
  refine runs_of O_X3 okO_X3 (by decide +kernel) rfl rfl (Nat.le_of_ble_eq_true rfl) (Nat.le_of_ble_eq_true rfl) (fun g K => ?_)
  have M := K.b
  show g 0 0 (cX tr kp th ot tp sl pk rf ik) 0 [some (.ref 0)] []
  rw [f_X3_image] at hf
  refine m_run M (is := [(0, .aload_n 0, 0), (1, .getfield 16, 0), (4, .aload_n 0, 0), (5, .getfield 10, 0)]) (pc' := 8) (L' := [some (.ref 0)]) (st' := [.ref 1, .ref 7]) (w' := (cX tr kp th ot tp sl pk rf ik)) (by decide +kernel) rfl trivial ?_
  obtain ⟨r1001, h_1001, hf⟩ := bnd_s hf
  refine m_cV0 M (rest := []) (w2 := (cX tr r1001 th ot tp sl pk rf ik)) (st2 := []) (run_X1_become    kp tr h_1001) cv_X1_become lk_X3_161 (by decide +kernel) [7, 8, 9, 10, 11, 12, 1, 2, 3, 4, 5, 6] (by decide) ⟨Nat.le_of_ble_eq_true rfl, Nat.le_of_ble_eq_true rfl⟩ (hw_9  tr kp th ot tp sl pk rf ik) rfl rfl (Nat.le_of_ble_eq_true rfl) ⟨by decide, by decide⟩ rfl rfl ⟨Nat.zero_le _, Nat.zero_le _⟩ (hp_9  tr kp th ot tp sl pk rf ik r1001 tr) rfl ?_
  refine m_run M (is := [(11, .aload_n 0, 0), (12, .iconst 1, 1), (13, .putfield 303, 0), (16, .iconst 1, 1)]) (pc' := 17) (L' := [some (.ref 0)]) (st' := [.int 1]) (w' := (cX tr r1001 th ot tp sl pk rf 1)) (by decide +kernel) rfl trivial ?_
  obtain rfl := Option.some.inj hf
  exact m_iret K (by decide +kernel) (Nat.zero_le _) (Nat.zero_le _) ⟨rfl, rfl⟩

set_option maxRecDepth 100000 in
set_option maxHeartbeats 4000000 in
theorem hw_10  (tr : ShT) (kp : ShT) (th : ShT) (ot : ShT) (tp : TpT) (sl : (Nat → SlT)) (pk : AI) (rf : AI) (ik : Int32) : (List.take (List.length (((cSh 0 tr) ++ (cSh 6 kp)) : Wd)) ([1, 2, 3, 4, 5, 6, 7, 8, 9, 10, 11, 12] : List Nat)).map (fun k => ((cX tr kp th ot tp sl pk rf ik))[k]?) = (((cSh 0 tr) ++ (cSh 6 kp)) : Wd).map (fun x => some (rS [1, 2, 3, 4, 5, 6, 7, 8, 9, 10, 11, 12] (List.length ((cX tr kp th ot tp sl pk rf ik) : Wd)) x)) := rfl
set_option maxRecDepth 100000 in
set_option maxHeartbeats 4000000 in
theorem hp_10  (tr : ShT) (kp : ShT) (th : ShT) (ot : ShT) (tp : TpT) (sl : (Nat → SlT)) (pk : AI) (rf : AI) (ik : Int32) (s' : ShT) (o' : ShT) : putL (List.take (List.length (((cSh 0 tr) ++ (cSh 6 kp)) : Wd)) ([1, 2, 3, 4, 5, 6, 7, 8, 9, 10, 11, 12] : List Nat)) ((((cSh 0 s') ++ (cSh 6 o')) : Wd).map (rS [1, 2, 3, 4, 5, 6, 7, 8, 9, 10, 11, 12] (List.length ((cX tr kp th ot tp sl pk rf ik) : Wd)))) (cX tr kp th ot tp sl pk rf ik) = (cX s' o' th ot tp sl pk rf ik) := rfl
def f_X3_back_L0 (kp : ShT) (ik : Int32) : Nat → Int32 → ShT → (Nat → SlT) → AI → Option (Int32 × ShT × (Nat → SlT) × AI)
  | 0, _, _, _, _ => none
  | n_ + 1, v1, tr, sl, rf =>
    if 8 ≤ v1 then
      some (1, tr, sl, rf)
    else
      if inB v1 8 then
      (f_X0_holdsLaw (sl v1.toNatClampNeg)).bind fun r103 =>
      if r103 = 0 then
        f_X3_back_L0 kp ik n_ (v1 + 1) tr sl rf
      else
        if inB v1 8 then
        (f_X1_hasLaw ((sl v1.toNatClampNeg).2.2.1) tr).bind fun r106 =>
        if r106 = 0 then
          if inB v1 8 then
          (f_X0_holdLaw (-1) (sl v1.toNatClampNeg)).bind fun r109 =>
          f_X3_back_L0 kp ik n_ (v1 + 1) tr (va_up sl v1.toNatClampNeg r109) rf
          else none
        else
          f_X3_back_L0 kp ik n_ (v1 + 1) tr sl rf
        else none
      else none
def f_X3_back (tr : ShT) (kp : ShT) (sl : (Nat → SlT)) (rf : AI) (ik : Int32) : Option (Int32 × ShT × (Nat → SlT) × AI) :=
  if ik = 0 then
    (f_X3_refuse (-5) rf).bind fun r1002 =>
    some (r1002.1, tr, sl, r1002.2)
  else
    (f_X1_become tr kp).bind fun r1003 =>
    f_X3_back_L0 kp ik fuel0 0 r1003 sl rf
set_option maxRecDepth 100000 in
set_option maxHeartbeats 4000000 in
theorem run_X3_back {l : Launch} {D : va_G} {cT : Nat → ClassId}    (tr : ShT) (kp : ShT) (th : ShT) (ot : ShT) (tp : TpT) (sl : (Nat → SlT)) (pk : AI) (rf : AI) (ik : Int32) {r : Int32 × ShT × (Nat → SlT) × AI} (hf : f_X3_back tr kp sl rf ik = some r) : Runs l D cT yX3_back cX3_back 2 (some .int) 2 44 [.ref 0] (cX tr kp th ot tp sl pk rf ik) (EQ (some (.int r.1)) (cX r.2.1 kp th ot tp r.2.2.1 pk r.2.2.2 ik)) := by
  refine runs_of O_X3 okO_X3 (by decide +kernel) rfl rfl (Nat.le_of_ble_eq_true rfl) (Nat.le_of_ble_eq_true rfl) (fun g K => ?_)
  have M := K.b
  show g 0 0 (cX tr kp th ot tp sl pk rf ik) 0 [some (.ref 0), none] []
  have loop_0 : ∀ (n_ : Nat), (∀ (v1 : Int32) (tr : ShT) (sl : (Nat → SlT)) (rf : AI), f_X3_back_L0 kp ik n_ v1 tr sl rf = some r → g 0 0 (cX tr kp th ot tp sl pk rf ik) 27 [some (.ref 0), some (.int v1)] []) := by
    intro n_
    induction n_ with
    | zero => intro v1 tr sl rf hf; cases hf
    | succ n_ ih =>
      intro v1 tr sl rf hf
      rw [f_X3_back_L0] at hf
      refine m_run M (is := [(27, .iload_n 1, 0), (28, .bipush 8, 8)]) (pc' := 30) (L' := [some (.ref 0), some (.int v1)]) (st' := [.int 8, .int v1]) (w' := (cX tr kp th ot tp sl pk rf ik)) (by decide +kernel) rfl trivial ?_
      rcases ite_s hf with ⟨c_101, hf⟩ | ⟨c_101, hf⟩
      · refine m_jT M (i := .if_icmp .ge 50) 80 (by decide +kernel) rfl (by decide) c_101 ?_
        refine m_run M (is := [(80, .iconst 1, 1)]) (pc' := 81) (L' := [some (.ref 0), some (.int v1)]) (st' := [.int 1]) (w' := (cX tr kp th ot tp sl pk rf ik)) (by decide +kernel) rfl trivial ?_
        obtain rfl := Option.some.inj hf
        exact m_iret K (by decide +kernel) (Nat.zero_le _) (Nat.zero_le _) ⟨rfl, rfl⟩
      · refine m_jF M (i := .if_icmp .ge 50) 80 (by decide +kernel) rfl (by decide) c_101 ?_
        obtain ⟨h_102, hf⟩ := grd_s hf
        refine m_run M (is := [(33, .aload_n 0, 0), (34, .getfield 34, 0), (37, .iload_n 1, 0)]) (pc' := 38) (L' := [some (.ref 0), some (.int v1)]) (st' := [.int v1, .ref 27]) (w' := (cX tr kp th ot tp sl pk rf ik)) (by decide +kernel) rfl trivial ?_
        refine m_run M (is := [(38, .aaload, 0)]) (pc' := 39) (L' := [some (.ref 0), some (.int v1)]) (st' := [.ref (30 + 2 * v1.toNatClampNeg)]) (w' := (cX tr kp th ot tp sl pk rf ik)) (by decide +kernel) (s_aald rfl rfl (fX_30 (inB_lt h_102))) ⟨inB_use h_102, trivial⟩ ?_
        obtain ⟨r103, h_103, hf⟩ := bnd_s hf
        refine m_cV0 M (rest := []) (w2 := (cX tr kp th ot tp sl pk rf ik)) (st2 := [.int r103]) (run_X0_holdsLaw    (sl v1.toNatClampNeg) h_103) cv_X0_holdsLaw lk_X3_74 (by decide +kernel) [30 + 2 * v1.toNatClampNeg, 31 + 2 * v1.toNatClampNeg] (by simp) ⟨Nat.le_of_ble_eq_true rfl, Nat.le_of_ble_eq_true rfl⟩ (hw_2  (inB_lt h_102) tr kp th ot tp sl pk rf ik) rfl rfl (Nat.le_of_ble_eq_true rfl) ⟨by decide, by decide⟩ rfl rfl ⟨Nat.zero_le _, Nat.zero_le _⟩ (by have z := (hp_2  (inB_lt h_102) tr kp th ot tp sl pk rf ik (sl v1.toNatClampNeg)); first | exact z | (simp only [va_up_id] at z; exact z)) rfl ?_
        rcases ite_s hf with ⟨c_104, hf⟩ | ⟨c_104, hf⟩
        · refine m_jT M (i := .ifCond .eq 32) 74 (by decide +kernel) rfl (by decide) c_104 ?_
          refine m_run M (is := [(74, .iinc 1 1, 1), (77, .goto (-50), 0)]) (pc' := 27) (L' := [some (.ref 0), some (.int (v1 + 1))]) (st' := []) (w' := (cX tr kp th ot tp sl pk rf ik)) (by decide +kernel) rfl trivial ?_
          exact ih (v1 + 1) tr sl rf hf
        · refine m_jF M (i := .ifCond .eq 32) 74 (by decide +kernel) rfl (by decide) c_104 ?_
          obtain ⟨h_105, hf⟩ := grd_s hf
          refine m_run M (is := [(45, .aload_n 0, 0), (46, .getfield 10, 0), (49, .aload_n 0, 0), (50, .getfield 34, 0), (53, .iload_n 1, 0)]) (pc' := 54) (L' := [some (.ref 0), some (.int v1)]) (st' := [.int v1, .ref 27, .ref 1]) (w' := (cX tr kp th ot tp sl pk rf ik)) (by decide +kernel) rfl trivial ?_
          refine m_run M (is := [(54, .aaload, 0)]) (pc' := 55) (L' := [some (.ref 0), some (.int v1)]) (st' := [.ref (30 + 2 * v1.toNatClampNeg), .ref 1]) (w' := (cX tr kp th ot tp sl pk rf ik)) (by decide +kernel) (s_aald rfl rfl (fX_30 (inB_lt h_105))) ⟨inB_use h_105, trivial⟩ ?_
          refine m_run M (is := [(55, .getfield 112, 0)]) (pc' := 58) (L' := [some (.ref 0), some (.int v1)]) (st' := [.int ((sl v1.toNatClampNeg).2.2.1), .ref 1]) (w' := (cX tr kp th ot tp sl pk rf ik)) (by decide +kernel) (s_getf (wX_so (inB_lt h_105) tr kp th ot tp sl pk rf ik) rfl rfl) trivial ?_
          obtain ⟨r106, h_106, hf⟩ := bnd_s hf
          refine m_cV0 M (rest := []) (w2 := (cX tr kp th ot tp sl pk rf ik)) (st2 := [.int r106]) (run_X1_hasLaw ((sl v1.toNatClampNeg).2.2.1)   tr h_106) cv_X1_hasLaw lk_X3_102 (by decide +kernel) [1, 2, 3, 4, 5, 6] (by decide) ⟨Nat.le_of_ble_eq_true rfl, Nat.le_of_ble_eq_true rfl⟩ (hw_3  tr kp th ot tp sl pk rf ik) rfl rfl (Nat.le_of_ble_eq_true rfl) ⟨by decide, by decide⟩ rfl rfl ⟨Nat.zero_le _, Nat.zero_le _⟩ (hp_3  tr kp th ot tp sl pk rf ik tr) rfl ?_
          rcases ite_s hf with ⟨c_107, hf⟩ | ⟨c_107, hf⟩
          · refine m_jF M (i := .ifCond .ne 13) 74 (by decide +kernel) rfl (by decide) (fun n => n c_107) ?_
            obtain ⟨h_108, hf⟩ := grd_s hf
            refine m_run M (is := [(64, .aload_n 0, 0), (65, .getfield 34, 0), (68, .iload_n 1, 0)]) (pc' := 69) (L' := [some (.ref 0), some (.int v1)]) (st' := [.int v1, .ref 27]) (w' := (cX tr kp th ot tp sl pk rf ik)) (by decide +kernel) rfl trivial ?_
            refine m_run M (is := [(69, .aaload, 0)]) (pc' := 70) (L' := [some (.ref 0), some (.int v1)]) (st' := [.ref (30 + 2 * v1.toNatClampNeg)]) (w' := (cX tr kp th ot tp sl pk rf ik)) (by decide +kernel) (s_aald rfl rfl (fX_30 (inB_lt h_108))) ⟨inB_use h_108, trivial⟩ ?_
            refine m_run M (is := [(70, .iconst (-1), -1)]) (pc' := 71) (L' := [some (.ref 0), some (.int v1)]) (st' := [.int (-1), .ref (30 + 2 * v1.toNatClampNeg)]) (w' := (cX tr kp th ot tp sl pk rf ik)) (by decide +kernel) rfl trivial ?_
            obtain ⟨r109, h_109, hf⟩ := bnd_s hf
            refine m_cV0 M (rest := []) (w2 := (cX tr kp th ot tp (va_up sl v1.toNatClampNeg r109) pk rf ik)) (st2 := []) (run_X0_holdLaw (-1)   (sl v1.toNatClampNeg) h_109) cv_X0_holdLaw lk_X3_105 (by decide +kernel) [30 + 2 * v1.toNatClampNeg, 31 + 2 * v1.toNatClampNeg] (by simp) ⟨Nat.le_of_ble_eq_true rfl, Nat.le_of_ble_eq_true rfl⟩ (hw_2  (inB_lt h_108) tr kp th ot tp sl pk rf ik) rfl rfl (Nat.le_of_ble_eq_true rfl) ⟨by decide, by decide⟩ rfl rfl ⟨Nat.zero_le _, Nat.zero_le _⟩ (hp_2  (inB_lt h_108) tr kp th ot tp sl pk rf ik r109) rfl ?_
            refine m_run M (is := [(74, .iinc 1 1, 1), (77, .goto (-50), 0)]) (pc' := 27) (L' := [some (.ref 0), some (.int (v1 + 1))]) (st' := []) (w' := (cX tr kp th ot tp (va_up sl v1.toNatClampNeg r109) pk rf ik)) (by decide +kernel) rfl trivial ?_
            exact ih (v1 + 1) tr (va_up sl v1.toNatClampNeg r109) rf hf
          · refine m_jT M (i := .ifCond .ne 13) 74 (by decide +kernel) rfl (by decide) c_107 ?_
            refine m_run M (is := [(74, .iinc 1 1, 1), (77, .goto (-50), 0)]) (pc' := 27) (L' := [some (.ref 0), some (.int (v1 + 1))]) (st' := []) (w' := (cX tr kp th ot tp sl pk rf ik)) (by decide +kernel) rfl trivial ?_
            exact ih (v1 + 1) tr sl rf hf
  rw [f_X3_back] at hf
  refine m_run M (is := [(0, .aload_n 0, 0), (1, .getfield 303, 0)]) (pc' := 4) (L' := [some (.ref 0), none]) (st' := [.int ik]) (w' := (cX tr kp th ot tp sl pk rf ik)) (by decide +kernel) rfl trivial ?_
  rcases ite_s hf with ⟨c_1001, hf⟩ | ⟨c_1001, hf⟩
  · refine m_jF M (i := .ifCond .ne 10) 14 (by decide +kernel) rfl (by decide) (fun n => n c_1001) ?_
    refine m_run M (is := [(7, .aload_n 0, 0), (8, .bipush (-5), -5)]) (pc' := 10) (L' := [some (.ref 0), none]) (st' := [.int (-5), .ref 0]) (w' := (cX tr kp th ot tp sl pk rf ik)) (by decide +kernel) rfl trivial ?_
    obtain ⟨r1002, h_1002, hf⟩ := bnd_s hf
    refine m_cV0 M (rest := []) (w2 := (cX tr kp th ot tp sl pk r1002.2 ik)) (st2 := [.int r1002.1]) (run_X3_refuse (-5)   tr kp th ot tp sl pk rf ik h_1002) cv_X3_refuse lk_X3_54 (by decide +kernel) (List.range 46) List.nodup_range ⟨(by rw [List.length_range]; exact Nat.le_refl _), Nat.le_of_ble_eq_true rfl⟩ (hwId rfl) rfl rfl (Nat.le_of_ble_eq_true rfl) ⟨by decide, by decide⟩ rfl rfl ⟨Nat.zero_le _, Nat.zero_le _⟩ (hpId rfl rfl) rfl ?_
    obtain rfl := Option.some.inj hf
    exact m_iret K (by decide +kernel) (Nat.zero_le _) (Nat.zero_le _) ⟨rfl, rfl⟩
  · refine m_jT M (i := .ifCond .ne 10) 14 (by decide +kernel) rfl (by decide) c_1001 ?_
    refine m_run M (is := [(14, .aload_n 0, 0), (15, .getfield 10, 0), (18, .aload_n 0, 0), (19, .getfield 16, 0)]) (pc' := 22) (L' := [some (.ref 0), none]) (st' := [.ref 7, .ref 1]) (w' := (cX tr kp th ot tp sl pk rf ik)) (by decide +kernel) rfl trivial ?_
    obtain ⟨r1003, h_1003, hf⟩ := bnd_s hf
    refine m_cV0 M (rest := []) (w2 := (cX r1003 kp th ot tp sl pk rf ik)) (st2 := []) (run_X1_become    tr kp h_1003) cv_X1_become lk_X3_161 (by decide +kernel) [1, 2, 3, 4, 5, 6, 7, 8, 9, 10, 11, 12] (by decide) ⟨Nat.le_of_ble_eq_true rfl, Nat.le_of_ble_eq_true rfl⟩ (hw_10  tr kp th ot tp sl pk rf ik) rfl rfl (Nat.le_of_ble_eq_true rfl) ⟨by decide, by decide⟩ rfl rfl ⟨Nat.zero_le _, Nat.zero_le _⟩ (hp_10  tr kp th ot tp sl pk rf ik r1003 kp) rfl ?_
    refine m_run M (is := [(25, .iconst 0, 0), (26, .istore_n 1, 0)]) (pc' := 27) (L' := [some (.ref 0), some (.int 0)]) (st' := []) (w' := (cX r1003 kp th ot tp sl pk rf ik)) (by decide +kernel) rfl trivial ?_
    exact loop_0 fuel0 0 r1003 sl rf hf

def f_X3_status (a0 : Int32) (tr : ShT) (tp : TpT) (sl : (Nat → SlT)) (rf : AI) : Option (Int32) :=
  if a0 = 0 then
    some tr.2.2.2.2.2.1
  else
    if a0 = 1 then
      some tr.2.2.2.2.2.2.1
    else
      if a0 = 2 then
        some tr.2.2.2.2.2.2.2.1
      else
        if a0 = 3 then
          some tr.2.2.2.2.2.2.2.2.1
        else
          if a0 = 4 then
            (f_X1_allCounts tr).bind fun r1006 =>
            some r1006
          else
            if a0 = 5 then
              (f_X1_isEmpty tr).bind fun r1008 =>
              if r1008 = 0 then
                (f_X3_firstGreatest tr.2.2.2.2.2.1 16 tr.2.2.1).bind fun r1010 =>
                if inB r1010 16 then
                some (tr.2.2.1 r1010.toNatClampNeg)
                else none
              else
                some 0
            else
              if a0 = 6 then
                some tp.2.1
              else
                if a0 = 7 then
                  some tr.2.2.2.2.2.2.2.2.2
                else
                  if a0 = 8 then
                    (f_X3_shelvesInUse sl).bind fun r1015 =>
                    some r1015
                  else
                    (f_X3_isBetween a0 12 16).bind fun r1016 =>
                    if r1016 = 0 then
                      some (-1)
                    else
                      if inB (a0 - 12) 5 then
                      some (rf (a0 - 12).toNatClampNeg)
                      else none
set_option maxRecDepth 100000 in
set_option maxHeartbeats 4000000 in
theorem run_X3_status {l : Launch} {D : va_G} {cT : Nat → ClassId} (a0 : Int32)   (tr : ShT) (kp : ShT) (th : ShT) (ot : ShT) (tp : TpT) (sl : (Nat → SlT)) (pk : AI) (rf : AI) (ik : Int32) {r : Int32} (hf : f_X3_status a0 tr tp sl rf = some r) : Runs l D cT yX3_status cX3_status 2 (some .int) 3 62 [.ref 0, .int a0] (cX tr kp th ot tp sl pk rf ik) (EQ (some (.int r)) (cX tr kp th ot tp sl pk rf ik)) := by
  refine runs_of O_X3 okO_X3 (by decide +kernel) rfl rfl (Nat.le_of_ble_eq_true rfl) (Nat.le_of_ble_eq_true rfl) (fun g K => ?_)
  have M := K.b
  show g 0 0 (cX tr kp th ot tp sl pk rf ik) 0 [some (.ref 0), some (.int a0)] []
  rw [f_X3_status] at hf
  refine m_run M (is := [(0, .iload_n 1, 0)]) (pc' := 1) (L' := [some (.ref 0), some (.int a0)]) (st' := [.int a0]) (w' := (cX tr kp th ot tp sl pk rf ik)) (by decide +kernel) rfl trivial ?_
  rcases ite_s hf with ⟨c_1001, hf⟩ | ⟨c_1001, hf⟩
  · refine m_tsI M (dflt := 152) (t0 := 0) (t1 := 8) (offs := #[51, 59, 67, 75, 83, 91, 131, 139, 147]) (len := 51) (tgt := 52) 0 (by decide +kernel) (by rw [c_1001]; rfl) (by decide) rfl (by decide) ?_
    refine m_run M (is := [(52, .aload_n 0, 0), (53, .getfield 10, 0), (56, .getfield 216, 0)]) (pc' := 59) (L' := [some (.ref 0), some (.int a0)]) (st' := [.int tr.2.2.2.2.2.1]) (w' := (cX tr kp th ot tp sl pk rf ik)) (by decide +kernel) rfl trivial ?_
    obtain rfl := Option.some.inj hf
    exact m_iret K (by decide +kernel) (Nat.zero_le _) (Nat.zero_le _) ⟨rfl, rfl⟩
  · rcases ite_s hf with ⟨c_1002, hf⟩ | ⟨c_1002, hf⟩
    · refine m_tsI M (dflt := 152) (t0 := 0) (t1 := 8) (offs := #[51, 59, 67, 75, 83, 91, 131, 139, 147]) (len := 51) (tgt := 60) 1 (by decide +kernel) (by rw [c_1002]; rfl) (by decide) rfl (by decide) ?_
      refine m_run M (is := [(60, .aload_n 0, 0), (61, .getfield 10, 0), (64, .getfield 242, 0)]) (pc' := 67) (L' := [some (.ref 0), some (.int a0)]) (st' := [.int tr.2.2.2.2.2.2.1]) (w' := (cX tr kp th ot tp sl pk rf ik)) (by decide +kernel) rfl trivial ?_
      obtain rfl := Option.some.inj hf
      exact m_iret K (by decide +kernel) (Nat.zero_le _) (Nat.zero_le _) ⟨rfl, rfl⟩
    · rcases ite_s hf with ⟨c_1003, hf⟩ | ⟨c_1003, hf⟩
      · refine m_tsI M (dflt := 152) (t0 := 0) (t1 := 8) (offs := #[51, 59, 67, 75, 83, 91, 131, 139, 147]) (len := 51) (tgt := 68) 2 (by decide +kernel) (by rw [c_1003]; rfl) (by decide) rfl (by decide) ?_
        refine m_run M (is := [(68, .aload_n 0, 0), (69, .getfield 10, 0), (72, .getfield 144, 0)]) (pc' := 75) (L' := [some (.ref 0), some (.int a0)]) (st' := [.int tr.2.2.2.2.2.2.2.1]) (w' := (cX tr kp th ot tp sl pk rf ik)) (by decide +kernel) rfl trivial ?_
        obtain rfl := Option.some.inj hf
        exact m_iret K (by decide +kernel) (Nat.zero_le _) (Nat.zero_le _) ⟨rfl, rfl⟩
      · rcases ite_s hf with ⟨c_1004, hf⟩ | ⟨c_1004, hf⟩
        · refine m_tsI M (dflt := 152) (t0 := 0) (t1 := 8) (offs := #[51, 59, 67, 75, 83, 91, 131, 139, 147]) (len := 51) (tgt := 76) 3 (by decide +kernel) (by rw [c_1004]; rfl) (by decide) rfl (by decide) ?_
          refine m_run M (is := [(76, .aload_n 0, 0), (77, .getfield 10, 0), (80, .getfield 297, 0)]) (pc' := 83) (L' := [some (.ref 0), some (.int a0)]) (st' := [.int tr.2.2.2.2.2.2.2.2.1]) (w' := (cX tr kp th ot tp sl pk rf ik)) (by decide +kernel) rfl trivial ?_
          obtain rfl := Option.some.inj hf
          exact m_iret K (by decide +kernel) (Nat.zero_le _) (Nat.zero_le _) ⟨rfl, rfl⟩
        · rcases ite_s hf with ⟨c_1005, hf⟩ | ⟨c_1005, hf⟩
          · refine m_tsI M (dflt := 152) (t0 := 0) (t1 := 8) (offs := #[51, 59, 67, 75, 83, 91, 131, 139, 147]) (len := 51) (tgt := 84) 4 (by decide +kernel) (by rw [c_1005]; rfl) (by decide) rfl (by decide) ?_
            refine m_run M (is := [(84, .aload_n 0, 0), (85, .getfield 10, 0)]) (pc' := 88) (L' := [some (.ref 0), some (.int a0)]) (st' := [.ref 1]) (w' := (cX tr kp th ot tp sl pk rf ik)) (by decide +kernel) rfl trivial ?_
            obtain ⟨r1006, h_1006, hf⟩ := bnd_s hf
            refine m_cV0 M (rest := []) (w2 := (cX tr kp th ot tp sl pk rf ik)) (st2 := [.int r1006]) (run_X1_allCounts    tr h_1006) cv_X1_allCounts lk_X3_307 (by decide +kernel) [1, 2, 3, 4, 5, 6] (by decide) ⟨Nat.le_of_ble_eq_true rfl, Nat.le_of_ble_eq_true rfl⟩ (hw_3  tr kp th ot tp sl pk rf ik) rfl rfl (Nat.le_of_ble_eq_true rfl) ⟨by decide, by decide⟩ rfl rfl ⟨Nat.zero_le _, Nat.zero_le _⟩ (hp_3  tr kp th ot tp sl pk rf ik tr) rfl ?_
            obtain rfl := Option.some.inj hf
            exact m_iret K (by decide +kernel) (Nat.zero_le _) (Nat.zero_le _) ⟨rfl, rfl⟩
          · rcases ite_s hf with ⟨c_1007, hf⟩ | ⟨c_1007, hf⟩
            · refine m_tsI M (dflt := 152) (t0 := 0) (t1 := 8) (offs := #[51, 59, 67, 75, 83, 91, 131, 139, 147]) (len := 51) (tgt := 92) 5 (by decide +kernel) (by rw [c_1007]; rfl) (by decide) rfl (by decide) ?_
              refine m_run M (is := [(92, .aload_n 0, 0), (93, .getfield 10, 0)]) (pc' := 96) (L' := [some (.ref 0), some (.int a0)]) (st' := [.ref 1]) (w' := (cX tr kp th ot tp sl pk rf ik)) (by decide +kernel) rfl trivial ?_
              obtain ⟨r1008, h_1008, hf⟩ := bnd_s hf
              refine m_cV0 M (rest := []) (w2 := (cX tr kp th ot tp sl pk rf ik)) (st2 := [.int r1008]) (run_X1_isEmpty    tr h_1008) cv_X1_isEmpty lk_X3_236 (by decide +kernel) [1, 2, 3, 4, 5, 6] (by decide) ⟨Nat.le_of_ble_eq_true rfl, Nat.le_of_ble_eq_true rfl⟩ (hw_3  tr kp th ot tp sl pk rf ik) rfl rfl (Nat.le_of_ble_eq_true rfl) ⟨by decide, by decide⟩ rfl rfl ⟨Nat.zero_le _, Nat.zero_le _⟩ (hp_3  tr kp th ot tp sl pk rf ik tr) rfl ?_
              rcases ite_s hf with ⟨c_1009, hf⟩ | ⟨c_1009, hf⟩
              · refine m_jT M (i := .ifCond .eq 7) 106 (by decide +kernel) rfl (by decide) c_1009 ?_
                refine m_run M (is := [(106, .aload_n 0, 0), (107, .getfield 10, 0), (110, .getfield 153, 0), (113, .aload_n 0, 0), (114, .getfield 10, 0), (117, .getfield 153, 0), (120, .aload_n 0, 0), (121, .getfield 10, 0), (124, .getfield 216, 0)]) (pc' := 127) (L' := [some (.ref 0), some (.int a0)]) (st' := [.int tr.2.2.2.2.2.1, .ref 4, .ref 4]) (w' := (cX tr kp th ot tp sl pk rf ik)) (by decide +kernel) rfl trivial ?_
                obtain ⟨r1010, h_1010, hf⟩ := bnd_s hf
                refine m_cS0 M (rest := [.ref 4]) (w2 := (cX tr kp th ot tp sl pk rf ik)) (st2 := [.int r1010, .ref 4]) (run_X3_firstGreatest tr.2.2.2.2.2.1 16  tr.2.2.1 h_1010) cs_X3_firstGreatest lk_X3_219 (by decide +kernel) [4] (by decide) ⟨Nat.le_of_ble_eq_true rfl, Nat.le_of_ble_eq_true rfl⟩ (hw_8  tr kp th ot tp sl pk rf ik) rfl (Nat.le_of_ble_eq_true rfl) ⟨by decide, by decide⟩ rfl rfl ⟨Nat.zero_le _, Nat.zero_le _⟩ (hp_8  tr kp th ot tp sl pk rf ik tr.2.2.1) rfl ?_
                obtain ⟨h_1011, hf⟩ := grd_s hf
                refine m_run M (is := [(130, .iaload, 0)]) (pc' := 131) (L' := [some (.ref 0), some (.int a0)]) (st' := [.int (tr.2.2.1 r1010.toNatClampNeg)]) (w' := (cX tr kp th ot tp sl pk rf ik)) (by decide +kernel) rfl ⟨inB_use h_1011, trivial⟩ ?_
                obtain rfl := Option.some.inj hf
                exact m_iret K (by decide +kernel) (Nat.zero_le _) (Nat.zero_le _) ⟨rfl, rfl⟩
              · refine m_jF M (i := .ifCond .eq 7) 106 (by decide +kernel) rfl (by decide) c_1009 ?_
                refine m_run M (is := [(102, .iconst 0, 0), (103, .goto 28, 0)]) (pc' := 131) (L' := [some (.ref 0), some (.int a0)]) (st' := [.int 0]) (w' := (cX tr kp th ot tp sl pk rf ik)) (by decide +kernel) rfl trivial ?_
                obtain rfl := Option.some.inj hf
                exact m_iret K (by decide +kernel) (Nat.zero_le _) (Nat.zero_le _) ⟨rfl, rfl⟩
            · rcases ite_s hf with ⟨c_1012, hf⟩ | ⟨c_1012, hf⟩
              · refine m_tsI M (dflt := 152) (t0 := 0) (t1 := 8) (offs := #[51, 59, 67, 75, 83, 91, 131, 139, 147]) (len := 51) (tgt := 132) 6 (by decide +kernel) (by rw [c_1012]; rfl) (by decide) rfl (by decide) ?_
                refine m_run M (is := [(132, .aload_n 0, 0), (133, .getfield 28, 0), (136, .getfield 158, 0)]) (pc' := 139) (L' := [some (.ref 0), some (.int a0)]) (st' := [.int tp.2.1]) (w' := (cX tr kp th ot tp sl pk rf ik)) (by decide +kernel) rfl trivial ?_
                obtain rfl := Option.some.inj hf
                exact m_iret K (by decide +kernel) (Nat.zero_le _) (Nat.zero_le _) ⟨rfl, rfl⟩
              · rcases ite_s hf with ⟨c_1013, hf⟩ | ⟨c_1013, hf⟩
                · refine m_tsI M (dflt := 152) (t0 := 0) (t1 := 8) (offs := #[51, 59, 67, 75, 83, 91, 131, 139, 147]) (len := 51) (tgt := 140) 7 (by decide +kernel) (by rw [c_1013]; rfl) (by decide) rfl (by decide) ?_
                  refine m_run M (is := [(140, .aload_n 0, 0), (141, .getfield 10, 0), (144, .getfield 300, 0)]) (pc' := 147) (L' := [some (.ref 0), some (.int a0)]) (st' := [.int tr.2.2.2.2.2.2.2.2.2]) (w' := (cX tr kp th ot tp sl pk rf ik)) (by decide +kernel) rfl trivial ?_
                  obtain rfl := Option.some.inj hf
                  exact m_iret K (by decide +kernel) (Nat.zero_le _) (Nat.zero_le _) ⟨rfl, rfl⟩
                · rcases ite_s hf with ⟨c_1014, hf⟩ | ⟨c_1014, hf⟩
                  · refine m_tsI M (dflt := 152) (t0 := 0) (t1 := 8) (offs := #[51, 59, 67, 75, 83, 91, 131, 139, 147]) (len := 51) (tgt := 148) 8 (by decide +kernel) (by rw [c_1014]; rfl) (by decide) rfl (by decide) ?_
                    refine m_run M (is := [(148, .aload_n 0, 0)]) (pc' := 149) (L' := [some (.ref 0), some (.int a0)]) (st' := [.ref 0]) (w' := (cX tr kp th ot tp sl pk rf ik)) (by decide +kernel) rfl trivial ?_
                    obtain ⟨r1015, h_1015, hf⟩ := bnd_s hf
                    refine m_cV0 M (rest := []) (w2 := (cX tr kp th ot tp sl pk rf ik)) (st2 := [.int r1015]) (run_X3_shelvesInUse    tr kp th ot tp sl pk rf ik h_1015) cv_X3_shelvesInUse lk_X3_310 (by decide +kernel) (List.range 46) List.nodup_range ⟨(by rw [List.length_range]; exact Nat.le_refl _), Nat.le_of_ble_eq_true rfl⟩ (hwId rfl) rfl rfl (Nat.le_of_ble_eq_true rfl) ⟨by decide, by decide⟩ rfl rfl ⟨Nat.zero_le _, Nat.zero_le _⟩ (hpId rfl rfl) rfl ?_
                    obtain rfl := Option.some.inj hf
                    exact m_iret K (by decide +kernel) (Nat.zero_le _) (Nat.zero_le _) ⟨rfl, rfl⟩
                  · refine m_tsO M (dflt := 152) (t0 := 0) (t1 := 8) (offs := #[51, 59, 67, 75, 83, 91, 131, 139, 147]) (len := 51) (tgt := 153) (by decide +kernel) (ts_out9 c_1001 c_1002 c_1003 c_1004 c_1005 c_1007 c_1012 c_1013 c_1014) (by decide) ?_
                    refine m_run M (is := [(153, .iload_n 1, 0), (154, .bipush 12, 12), (156, .bipush 16, 16)]) (pc' := 158) (L' := [some (.ref 0), some (.int a0)]) (st' := [.int 16, .int 12, .int a0]) (w' := (cX tr kp th ot tp sl pk rf ik)) (by decide +kernel) rfl trivial ?_
                    obtain ⟨r1016, h_1016, hf⟩ := bnd_s hf
                    refine m_cS0 M (rest := []) (w2 := (cX tr kp th ot tp sl pk rf ik)) (st2 := [.int r1016]) (run_X3_isBetween a0 12 16    h_1016) cs_X3_isBetween lk_X3_50 (by decide +kernel) [] (by decide) ⟨Nat.le_of_ble_eq_true rfl, Nat.le_of_ble_eq_true rfl⟩ rfl rfl (Nat.le_of_ble_eq_true rfl) ⟨by decide, by decide⟩ rfl rfl ⟨Nat.zero_le _, Nat.zero_le _⟩ rfl rfl ?_
                    rcases ite_s hf with ⟨c_1017, hf⟩ | ⟨c_1017, hf⟩
                    · refine m_jT M (i := .ifCond .eq 15) 176 (by decide +kernel) rfl (by decide) c_1017 ?_
                      refine m_run M (is := [(176, .iconst (-1), -1)]) (pc' := 177) (L' := [some (.ref 0), some (.int a0)]) (st' := [.int (-1)]) (w' := (cX tr kp th ot tp sl pk rf ik)) (by decide +kernel) rfl trivial ?_
                      obtain rfl := Option.some.inj hf
                      exact m_iret K (by decide +kernel) (Nat.zero_le _) (Nat.zero_le _) ⟨rfl, rfl⟩
                    · refine m_jF M (i := .ifCond .eq 15) 176 (by decide +kernel) rfl (by decide) c_1017 ?_
                      obtain ⟨h_1018, hf⟩ := grd_s hf
                      refine m_run M (is := [(164, .aload_n 0, 0), (165, .getfield 43, 0), (168, .iload_n 1, 0), (169, .bipush 12, 12), (171, .isub, 0), (172, .iaload, 0), (173, .goto 4, 0)]) (pc' := 177) (L' := [some (.ref 0), some (.int a0)]) (st' := [.int (rf (a0 - 12).toNatClampNeg)]) (w' := (cX tr kp th ot tp sl pk rf ik)) (by decide +kernel) rfl ⟨inB_use h_1018, trivial⟩ ?_
                      obtain rfl := Option.some.inj hf
                      exact m_iret K (by decide +kernel) (Nat.zero_le _) (Nat.zero_le _) ⟨rfl, rfl⟩

def f_X3_copy (a0 : Int32) (a1 : Int32) (a2 : Int32) (a3 : Int32) (a4 : Int32) (sl : (Nat → SlT)) (rf : AI) : Option (Int32 × (Nat → SlT) × AI) :=
  (f_X3_isShelf a0).bind fun r1001 =>
  if r1001 = 0 then
    (f_X3_refuse (-2) rf).bind fun r1003 =>
    some (r1003.1, sl, r1003.2)
  else
    (f_X3_isShelf a1).bind fun r1004 =>
    if r1004 = 0 then
      (f_X3_refuse (-2) rf).bind fun r1006 =>
      some (r1006.1, sl, r1006.2)
    else
      if inB a0 8 then
      if inB a1 8 then
      (f_X0_holdsLaw (sl a0.toNatClampNeg)).bind fun r1009 =>
      if r1009 = 0 then
        (f_X0_holdsLaw (sl a1.toNatClampNeg)).bind fun r1011 =>
        if r1011 = 0 then
          (f_X0_isOtherRowThan_x a0.toNatClampNeg a1.toNatClampNeg sl).bind fun r1013 =>
          if r1013 = 0 then
            (f_X0_holdsRow (sl a0.toNatClampNeg)).bind fun r1015 =>
            if r1015 = 0 then
              (f_X3_refuse (-4) rf).bind fun r1017 =>
              some (r1017.1, sl, r1017.2)
            else
              (f_X0_holdsRow (sl a1.toNatClampNeg)).bind fun r1018 =>
              if r1018 = 0 then
                (f_X3_refuse (-4) rf).bind fun r1020 =>
                some (r1020.1, sl, r1020.2)
              else
                (f_X0_hasPart a2 a4 (sl a0.toNatClampNeg)).bind fun r1021 =>
                if r1021 = 0 then
                  (f_X3_refuse (-2) rf).bind fun r1023 =>
                  some (r1023.1, sl, r1023.2)
                else
                  (f_X0_hasPart a3 a4 (sl a1.toNatClampNeg)).bind fun r1024 =>
                  if r1024 = 0 then
                    (f_X3_refuse (-2) rf).bind fun r1026 =>
                    some (r1026.1, sl, r1026.2)
                  else
                    if cpB a2 a3 a4 40 40 then
                    some (a4, (va_up sl a1.toNatClampNeg ((va_cpy ((sl a0.toNatClampNeg).1) ((sl a1.toNatClampNeg).1) a2.toNatClampNeg a3.toNatClampNeg a4.toNatClampNeg), (sl a1.toNatClampNeg).2.1, (sl a1.toNatClampNeg).2.2.1, (sl a1.toNatClampNeg).2.2.2)), rf)
                    else none
          else
            (f_X3_refuse (-3) rf).bind fun r1028 =>
            some (r1028.1, sl, r1028.2)
        else
          (f_X3_refuse (-3) rf).bind fun r1029 =>
          some (r1029.1, sl, r1029.2)
      else
        (f_X3_refuse (-3) rf).bind fun r1030 =>
        some (r1030.1, sl, r1030.2)
      else none
      else none
set_option maxRecDepth 100000 in
set_option maxHeartbeats 4000000 in
theorem run_X3_copy {l : Launch} {D : va_G} {cT : Nat → ClassId} (a0 : Int32) (a1 : Int32) (a2 : Int32) (a3 : Int32) (a4 : Int32)   (tr : ShT) (kp : ShT) (th : ShT) (ot : ShT) (tp : TpT) (sl : (Nat → SlT)) (pk : AI) (rf : AI) (ik : Int32) {r : Int32 × (Nat → SlT) × AI} (hf : f_X3_copy a0 a1 a2 a3 a4 sl rf = some r) : Runs l D cT yX3_copy cX3_copy 8 (some .int) 2 44 [.ref 0, .int a0, .int a1, .int a2, .int a3, .int a4] (cX tr kp th ot tp sl pk rf ik) (EQ (some (.int r.1)) (cX tr kp th ot tp r.2.1 pk r.2.2 ik)) := by
  refine runs_of O_X3 okO_X3 (by decide +kernel) rfl rfl (Nat.le_of_ble_eq_true rfl) (Nat.le_of_ble_eq_true rfl) (fun g K => ?_)
  have M := K.b
  show g 0 0 (cX tr kp th ot tp sl pk rf ik) 0 [some (.ref 0), some (.int a0), some (.int a1), some (.int a2), some (.int a3), some (.int a4), none, none] []
  rw [f_X3_copy] at hf
  refine m_run M (is := [(0, .iload_n 1, 0)]) (pc' := 1) (L' := [some (.ref 0), some (.int a0), some (.int a1), some (.int a2), some (.int a3), some (.int a4), none, none]) (st' := [.int a0]) (w' := (cX tr kp th ot tp sl pk rf ik)) (by decide +kernel) rfl trivial ?_
  obtain ⟨r1001, h_1001, hf⟩ := bnd_s hf
  refine m_cS0 M (rest := []) (w2 := (cX tr kp th ot tp sl pk rf ik)) (st2 := [.int r1001]) (run_X3_isShelf a0    h_1001) cs_X3_isShelf lk_X3_46 (by decide +kernel) [] (by decide) ⟨Nat.le_of_ble_eq_true rfl, Nat.le_of_ble_eq_true rfl⟩ rfl rfl (Nat.le_of_ble_eq_true rfl) ⟨by decide, by decide⟩ rfl rfl ⟨Nat.zero_le _, Nat.zero_le _⟩ rfl rfl ?_
  rcases ite_s hf with ⟨c_1002, hf⟩ | ⟨c_1002, hf⟩
  · refine m_jT M (i := .ifCond .eq 10) 14 (by decide +kernel) rfl (by decide) c_1002 ?_
    refine m_run M (is := [(14, .aload_n 0, 0), (15, .bipush (-2), -2)]) (pc' := 17) (L' := [some (.ref 0), some (.int a0), some (.int a1), some (.int a2), some (.int a3), some (.int a4), none, none]) (st' := [.int (-2), .ref 0]) (w' := (cX tr kp th ot tp sl pk rf ik)) (by decide +kernel) rfl trivial ?_
    obtain ⟨r1003, h_1003, hf⟩ := bnd_s hf
    refine m_cV0 M (rest := []) (w2 := (cX tr kp th ot tp sl pk r1003.2 ik)) (st2 := [.int r1003.1]) (run_X3_refuse (-2)   tr kp th ot tp sl pk rf ik h_1003) cv_X3_refuse lk_X3_54 (by decide +kernel) (List.range 46) List.nodup_range ⟨(by rw [List.length_range]; exact Nat.le_refl _), Nat.le_of_ble_eq_true rfl⟩ (hwId rfl) rfl rfl (Nat.le_of_ble_eq_true rfl) ⟨by decide, by decide⟩ rfl rfl ⟨Nat.zero_le _, Nat.zero_le _⟩ (hpId rfl rfl) rfl ?_
    obtain rfl := Option.some.inj hf
    exact m_iret K (by decide +kernel) (Nat.zero_le _) (Nat.zero_le _) ⟨rfl, rfl⟩
  · refine m_jF M (i := .ifCond .eq 10) 14 (by decide +kernel) rfl (by decide) c_1002 ?_
    refine m_run M (is := [(7, .iload_n 2, 0)]) (pc' := 8) (L' := [some (.ref 0), some (.int a0), some (.int a1), some (.int a2), some (.int a3), some (.int a4), none, none]) (st' := [.int a1]) (w' := (cX tr kp th ot tp sl pk rf ik)) (by decide +kernel) rfl trivial ?_
    obtain ⟨r1004, h_1004, hf⟩ := bnd_s hf
    refine m_cS0 M (rest := []) (w2 := (cX tr kp th ot tp sl pk rf ik)) (st2 := [.int r1004]) (run_X3_isShelf a1    h_1004) cs_X3_isShelf lk_X3_46 (by decide +kernel) [] (by decide) ⟨Nat.le_of_ble_eq_true rfl, Nat.le_of_ble_eq_true rfl⟩ rfl rfl (Nat.le_of_ble_eq_true rfl) ⟨by decide, by decide⟩ rfl rfl ⟨Nat.zero_le _, Nat.zero_le _⟩ rfl rfl ?_
    rcases ite_s hf with ⟨c_1005, hf⟩ | ⟨c_1005, hf⟩
    · refine m_jF M (i := .ifCond .ne 10) 21 (by decide +kernel) rfl (by decide) (fun n => n c_1005) ?_
      refine m_run M (is := [(14, .aload_n 0, 0), (15, .bipush (-2), -2)]) (pc' := 17) (L' := [some (.ref 0), some (.int a0), some (.int a1), some (.int a2), some (.int a3), some (.int a4), none, none]) (st' := [.int (-2), .ref 0]) (w' := (cX tr kp th ot tp sl pk rf ik)) (by decide +kernel) rfl trivial ?_
      obtain ⟨r1006, h_1006, hf⟩ := bnd_s hf
      refine m_cV0 M (rest := []) (w2 := (cX tr kp th ot tp sl pk r1006.2 ik)) (st2 := [.int r1006.1]) (run_X3_refuse (-2)   tr kp th ot tp sl pk rf ik h_1006) cv_X3_refuse lk_X3_54 (by decide +kernel) (List.range 46) List.nodup_range ⟨(by rw [List.length_range]; exact Nat.le_refl _), Nat.le_of_ble_eq_true rfl⟩ (hwId rfl) rfl rfl (Nat.le_of_ble_eq_true rfl) ⟨by decide, by decide⟩ rfl rfl ⟨Nat.zero_le _, Nat.zero_le _⟩ (hpId rfl rfl) rfl ?_
      obtain rfl := Option.some.inj hf
      exact m_iret K (by decide +kernel) (Nat.zero_le _) (Nat.zero_le _) ⟨rfl, rfl⟩
    · refine m_jT M (i := .ifCond .ne 10) 21 (by decide +kernel) rfl (by decide) c_1005 ?_
      obtain ⟨h_1007, hf⟩ := grd_s hf
      refine m_run M (is := [(21, .aload_n 0, 0), (22, .getfield 34, 0), (25, .iload_n 1, 0)]) (pc' := 26) (L' := [some (.ref 0), some (.int a0), some (.int a1), some (.int a2), some (.int a3), some (.int a4), none, none]) (st' := [.int a0, .ref 27]) (w' := (cX tr kp th ot tp sl pk rf ik)) (by decide +kernel) rfl trivial ?_
      refine m_run M (is := [(26, .aaload, 0)]) (pc' := 27) (L' := [some (.ref 0), some (.int a0), some (.int a1), some (.int a2), some (.int a3), some (.int a4), none, none]) (st' := [.ref (30 + 2 * a0.toNatClampNeg)]) (w' := (cX tr kp th ot tp sl pk rf ik)) (by decide +kernel) (s_aald rfl rfl (fX_30 (inB_lt h_1007))) ⟨inB_use h_1007, trivial⟩ ?_
      obtain ⟨h_1008, hf⟩ := grd_s hf
      refine m_run M (is := [(27, .astore 6, 0), (29, .aload_n 0, 0), (30, .getfield 34, 0), (33, .iload_n 2, 0)]) (pc' := 34) (L' := [some (.ref 0), some (.int a0), some (.int a1), some (.int a2), some (.int a3), some (.int a4), some (.ref (30 + 2 * a0.toNatClampNeg)), none]) (st' := [.int a1, .ref 27]) (w' := (cX tr kp th ot tp sl pk rf ik)) (by decide +kernel) rfl trivial ?_
      refine m_run M (is := [(34, .aaload, 0)]) (pc' := 35) (L' := [some (.ref 0), some (.int a0), some (.int a1), some (.int a2), some (.int a3), some (.int a4), some (.ref (30 + 2 * a0.toNatClampNeg)), none]) (st' := [.ref (30 + 2 * a1.toNatClampNeg)]) (w' := (cX tr kp th ot tp sl pk rf ik)) (by decide +kernel) (s_aald rfl rfl (fX_30 (inB_lt h_1008))) ⟨inB_use h_1008, trivial⟩ ?_
      refine m_run M (is := [(35, .astore 7, 0), (37, .aload 6, 0)]) (pc' := 39) (L' := [some (.ref 0), some (.int a0), some (.int a1), some (.int a2), some (.int a3), some (.int a4), some (.ref (30 + 2 * a0.toNatClampNeg)), some (.ref (30 + 2 * a1.toNatClampNeg))]) (st' := [.ref (30 + 2 * a0.toNatClampNeg)]) (w' := (cX tr kp th ot tp sl pk rf ik)) (by decide +kernel) rfl trivial ?_
      obtain ⟨r1009, h_1009, hf⟩ := bnd_s hf
      refine m_cV0 M (rest := []) (w2 := (cX tr kp th ot tp sl pk rf ik)) (st2 := [.int r1009]) (run_X0_holdsLaw    (sl a0.toNatClampNeg) h_1009) cv_X0_holdsLaw lk_X3_74 (by decide +kernel) [30 + 2 * a0.toNatClampNeg, 31 + 2 * a0.toNatClampNeg] (by simp) ⟨Nat.le_of_ble_eq_true rfl, Nat.le_of_ble_eq_true rfl⟩ (hw_2  (inB_lt h_1007) tr kp th ot tp sl pk rf ik) rfl rfl (Nat.le_of_ble_eq_true rfl) ⟨by decide, by decide⟩ rfl rfl ⟨Nat.zero_le _, Nat.zero_le _⟩ (by have z := (hp_2  (inB_lt h_1007) tr kp th ot tp sl pk rf ik (sl a0.toNatClampNeg)); first | exact z | (simp only [va_up_id] at z; exact z)) rfl ?_
      rcases ite_s hf with ⟨c_1010, hf⟩ | ⟨c_1010, hf⟩
      · refine m_jF M (i := .ifCond .ne 21) 63 (by decide +kernel) rfl (by decide) (fun n => n c_1010) ?_
        refine m_run M (is := [(45, .aload 7, 0)]) (pc' := 47) (L' := [some (.ref 0), some (.int a0), some (.int a1), some (.int a2), some (.int a3), some (.int a4), some (.ref (30 + 2 * a0.toNatClampNeg)), some (.ref (30 + 2 * a1.toNatClampNeg))]) (st' := [.ref (30 + 2 * a1.toNatClampNeg)]) (w' := (cX tr kp th ot tp sl pk rf ik)) (by decide +kernel) rfl trivial ?_
        obtain ⟨r1011, h_1011, hf⟩ := bnd_s hf
        refine m_cV0 M (rest := []) (w2 := (cX tr kp th ot tp sl pk rf ik)) (st2 := [.int r1011]) (run_X0_holdsLaw    (sl a1.toNatClampNeg) h_1011) cv_X0_holdsLaw lk_X3_74 (by decide +kernel) [30 + 2 * a1.toNatClampNeg, 31 + 2 * a1.toNatClampNeg] (by simp) ⟨Nat.le_of_ble_eq_true rfl, Nat.le_of_ble_eq_true rfl⟩ (hw_2  (inB_lt h_1008) tr kp th ot tp sl pk rf ik) rfl rfl (Nat.le_of_ble_eq_true rfl) ⟨by decide, by decide⟩ rfl rfl ⟨Nat.zero_le _, Nat.zero_le _⟩ (by have z := (hp_2  (inB_lt h_1008) tr kp th ot tp sl pk rf ik (sl a1.toNatClampNeg)); first | exact z | (simp only [va_up_id] at z; exact z)) rfl ?_
        rcases ite_s hf with ⟨c_1012, hf⟩ | ⟨c_1012, hf⟩
        · refine m_jF M (i := .ifCond .ne 13) 63 (by decide +kernel) rfl (by decide) (fun n => n c_1012) ?_
          refine m_run M (is := [(53, .aload 6, 0), (55, .aload 7, 0)]) (pc' := 57) (L' := [some (.ref 0), some (.int a0), some (.int a1), some (.int a2), some (.int a3), some (.int a4), some (.ref (30 + 2 * a0.toNatClampNeg)), some (.ref (30 + 2 * a1.toNatClampNeg))]) (st' := [.ref (30 + 2 * a1.toNatClampNeg), .ref (30 + 2 * a0.toNatClampNeg)]) (w' := (cX tr kp th ot tp sl pk rf ik)) (by decide +kernel) rfl trivial ?_
          obtain ⟨r1013, h_1013, hf⟩ := bnd_s hf
          refine m_cVk0 M (rest := []) (w2 := (cX tr kp th ot tp sl pk rf ik)) (st2 := [.int r1013]) (run_X0_isOtherRowThan_x  a0.toNatClampNeg a1.toNatClampNeg (inB_lt h_1007) (inB_lt h_1008) tr kp th ot tp sl pk rf ik h_1013) cv_X0_isOtherRowThan lk_X3_78 (by decide +kernel) (List.range 46) List.nodup_range ⟨(by rw [List.length_range]; exact Nat.le_refl _), Nat.le_of_ble_eq_true rfl⟩ (hwId rfl) (two_eq (rvX (inB_lt h_1007)) (rvX (inB_lt h_1008))) (wA_iff.mp (wX_so (inB_lt h_1007) tr kp th ot tp sl pk rf ik)) (Nat.le_of_ble_eq_true rfl) ⟨by decide, by decide⟩ rfl rfl ⟨Nat.zero_le _, Nat.zero_le _⟩ (hpId rfl rfl) rfl ?_
          rcases ite_s hf with ⟨c_1014, hf⟩ | ⟨c_1014, hf⟩
          · refine m_jT M (i := .ifCond .eq 10) 70 (by decide +kernel) rfl (by decide) c_1014 ?_
            refine m_run M (is := [(70, .aload 6, 0)]) (pc' := 72) (L' := [some (.ref 0), some (.int a0), some (.int a1), some (.int a2), some (.int a3), some (.int a4), some (.ref (30 + 2 * a0.toNatClampNeg)), some (.ref (30 + 2 * a1.toNatClampNeg))]) (st' := [.ref (30 + 2 * a0.toNatClampNeg)]) (w' := (cX tr kp th ot tp sl pk rf ik)) (by decide +kernel) rfl trivial ?_
            obtain ⟨r1015, h_1015, hf⟩ := bnd_s hf
            refine m_cV0 M (rest := []) (w2 := (cX tr kp th ot tp sl pk rf ik)) (st2 := [.int r1015]) (run_X0_holdsRow    (sl a0.toNatClampNeg) h_1015) cv_X0_holdsRow lk_X3_82 (by decide +kernel) [30 + 2 * a0.toNatClampNeg, 31 + 2 * a0.toNatClampNeg] (by simp) ⟨Nat.le_of_ble_eq_true rfl, Nat.le_of_ble_eq_true rfl⟩ (hw_2  (inB_lt h_1007) tr kp th ot tp sl pk rf ik) rfl rfl (Nat.le_of_ble_eq_true rfl) ⟨by decide, by decide⟩ rfl rfl ⟨Nat.zero_le _, Nat.zero_le _⟩ (by have z := (hp_2  (inB_lt h_1007) tr kp th ot tp sl pk rf ik (sl a0.toNatClampNeg)); first | exact z | (simp only [va_up_id] at z; exact z)) rfl ?_
            rcases ite_s hf with ⟨c_1016, hf⟩ | ⟨c_1016, hf⟩
            · refine m_jT M (i := .ifCond .eq 11) 86 (by decide +kernel) rfl (by decide) c_1016 ?_
              refine m_run M (is := [(86, .aload_n 0, 0), (87, .bipush (-4), -4)]) (pc' := 89) (L' := [some (.ref 0), some (.int a0), some (.int a1), some (.int a2), some (.int a3), some (.int a4), some (.ref (30 + 2 * a0.toNatClampNeg)), some (.ref (30 + 2 * a1.toNatClampNeg))]) (st' := [.int (-4), .ref 0]) (w' := (cX tr kp th ot tp sl pk rf ik)) (by decide +kernel) rfl trivial ?_
              obtain ⟨r1017, h_1017, hf⟩ := bnd_s hf
              refine m_cV0 M (rest := []) (w2 := (cX tr kp th ot tp sl pk r1017.2 ik)) (st2 := [.int r1017.1]) (run_X3_refuse (-4)   tr kp th ot tp sl pk rf ik h_1017) cv_X3_refuse lk_X3_54 (by decide +kernel) (List.range 46) List.nodup_range ⟨(by rw [List.length_range]; exact Nat.le_refl _), Nat.le_of_ble_eq_true rfl⟩ (hwId rfl) rfl rfl (Nat.le_of_ble_eq_true rfl) ⟨by decide, by decide⟩ rfl rfl ⟨Nat.zero_le _, Nat.zero_le _⟩ (hpId rfl rfl) rfl ?_
              obtain rfl := Option.some.inj hf
              exact m_iret K (by decide +kernel) (Nat.zero_le _) (Nat.zero_le _) ⟨rfl, rfl⟩
            · refine m_jF M (i := .ifCond .eq 11) 86 (by decide +kernel) rfl (by decide) c_1016 ?_
              refine m_run M (is := [(78, .aload 7, 0)]) (pc' := 80) (L' := [some (.ref 0), some (.int a0), some (.int a1), some (.int a2), some (.int a3), some (.int a4), some (.ref (30 + 2 * a0.toNatClampNeg)), some (.ref (30 + 2 * a1.toNatClampNeg))]) (st' := [.ref (30 + 2 * a1.toNatClampNeg)]) (w' := (cX tr kp th ot tp sl pk rf ik)) (by decide +kernel) rfl trivial ?_
              obtain ⟨r1018, h_1018, hf⟩ := bnd_s hf
              refine m_cV0 M (rest := []) (w2 := (cX tr kp th ot tp sl pk rf ik)) (st2 := [.int r1018]) (run_X0_holdsRow    (sl a1.toNatClampNeg) h_1018) cv_X0_holdsRow lk_X3_82 (by decide +kernel) [30 + 2 * a1.toNatClampNeg, 31 + 2 * a1.toNatClampNeg] (by simp) ⟨Nat.le_of_ble_eq_true rfl, Nat.le_of_ble_eq_true rfl⟩ (hw_2  (inB_lt h_1008) tr kp th ot tp sl pk rf ik) rfl rfl (Nat.le_of_ble_eq_true rfl) ⟨by decide, by decide⟩ rfl rfl ⟨Nat.zero_le _, Nat.zero_le _⟩ (by have z := (hp_2  (inB_lt h_1008) tr kp th ot tp sl pk rf ik (sl a1.toNatClampNeg)); first | exact z | (simp only [va_up_id] at z; exact z)) rfl ?_
              rcases ite_s hf with ⟨c_1019, hf⟩ | ⟨c_1019, hf⟩
              · refine m_jF M (i := .ifCond .ne 10) 93 (by decide +kernel) rfl (by decide) (fun n => n c_1019) ?_
                refine m_run M (is := [(86, .aload_n 0, 0), (87, .bipush (-4), -4)]) (pc' := 89) (L' := [some (.ref 0), some (.int a0), some (.int a1), some (.int a2), some (.int a3), some (.int a4), some (.ref (30 + 2 * a0.toNatClampNeg)), some (.ref (30 + 2 * a1.toNatClampNeg))]) (st' := [.int (-4), .ref 0]) (w' := (cX tr kp th ot tp sl pk rf ik)) (by decide +kernel) rfl trivial ?_
                obtain ⟨r1020, h_1020, hf⟩ := bnd_s hf
                refine m_cV0 M (rest := []) (w2 := (cX tr kp th ot tp sl pk r1020.2 ik)) (st2 := [.int r1020.1]) (run_X3_refuse (-4)   tr kp th ot tp sl pk rf ik h_1020) cv_X3_refuse lk_X3_54 (by decide +kernel) (List.range 46) List.nodup_range ⟨(by rw [List.length_range]; exact Nat.le_refl _), Nat.le_of_ble_eq_true rfl⟩ (hwId rfl) rfl rfl (Nat.le_of_ble_eq_true rfl) ⟨by decide, by decide⟩ rfl rfl ⟨Nat.zero_le _, Nat.zero_le _⟩ (hpId rfl rfl) rfl ?_
                obtain rfl := Option.some.inj hf
                exact m_iret K (by decide +kernel) (Nat.zero_le _) (Nat.zero_le _) ⟨rfl, rfl⟩
              · refine m_jT M (i := .ifCond .ne 10) 93 (by decide +kernel) rfl (by decide) c_1019 ?_
                refine m_run M (is := [(93, .aload 6, 0), (95, .iload_n 3, 0), (96, .iload 5, 0)]) (pc' := 98) (L' := [some (.ref 0), some (.int a0), some (.int a1), some (.int a2), some (.int a3), some (.int a4), some (.ref (30 + 2 * a0.toNatClampNeg)), some (.ref (30 + 2 * a1.toNatClampNeg))]) (st' := [.int a4, .int a2, .ref (30 + 2 * a0.toNatClampNeg)]) (w' := (cX tr kp th ot tp sl pk rf ik)) (by decide +kernel) rfl trivial ?_
                obtain ⟨r1021, h_1021, hf⟩ := bnd_s hf
                refine m_cV0 M (rest := []) (w2 := (cX tr kp th ot tp sl pk rf ik)) (st2 := [.int r1021]) (run_X0_hasPart a2 a4   (sl a0.toNatClampNeg) h_1021) cv_X0_hasPart lk_X3_66 (by decide +kernel) [30 + 2 * a0.toNatClampNeg, 31 + 2 * a0.toNatClampNeg] (by simp) ⟨Nat.le_of_ble_eq_true rfl, Nat.le_of_ble_eq_true rfl⟩ (hw_2  (inB_lt h_1007) tr kp th ot tp sl pk rf ik) rfl rfl (Nat.le_of_ble_eq_true rfl) ⟨by decide, by decide⟩ rfl rfl ⟨Nat.zero_le _, Nat.zero_le _⟩ (by have z := (hp_2  (inB_lt h_1007) tr kp th ot tp sl pk rf ik (sl a0.toNatClampNeg)); first | exact z | (simp only [va_up_id] at z; exact z)) rfl ?_
                rcases ite_s hf with ⟨c_1022, hf⟩ | ⟨c_1022, hf⟩
                · refine m_jT M (i := .ifCond .eq 15) 116 (by decide +kernel) rfl (by decide) c_1022 ?_
                  refine m_run M (is := [(116, .aload_n 0, 0), (117, .bipush (-2), -2)]) (pc' := 119) (L' := [some (.ref 0), some (.int a0), some (.int a1), some (.int a2), some (.int a3), some (.int a4), some (.ref (30 + 2 * a0.toNatClampNeg)), some (.ref (30 + 2 * a1.toNatClampNeg))]) (st' := [.int (-2), .ref 0]) (w' := (cX tr kp th ot tp sl pk rf ik)) (by decide +kernel) rfl trivial ?_
                  obtain ⟨r1023, h_1023, hf⟩ := bnd_s hf
                  refine m_cV0 M (rest := []) (w2 := (cX tr kp th ot tp sl pk r1023.2 ik)) (st2 := [.int r1023.1]) (run_X3_refuse (-2)   tr kp th ot tp sl pk rf ik h_1023) cv_X3_refuse lk_X3_54 (by decide +kernel) (List.range 46) List.nodup_range ⟨(by rw [List.length_range]; exact Nat.le_refl _), Nat.le_of_ble_eq_true rfl⟩ (hwId rfl) rfl rfl (Nat.le_of_ble_eq_true rfl) ⟨by decide, by decide⟩ rfl rfl ⟨Nat.zero_le _, Nat.zero_le _⟩ (hpId rfl rfl) rfl ?_
                  obtain rfl := Option.some.inj hf
                  exact m_iret K (by decide +kernel) (Nat.zero_le _) (Nat.zero_le _) ⟨rfl, rfl⟩
                · refine m_jF M (i := .ifCond .eq 15) 116 (by decide +kernel) rfl (by decide) c_1022 ?_
                  refine m_run M (is := [(104, .aload 7, 0), (106, .iload 4, 0), (108, .iload 5, 0)]) (pc' := 110) (L' := [some (.ref 0), some (.int a0), some (.int a1), some (.int a2), some (.int a3), some (.int a4), some (.ref (30 + 2 * a0.toNatClampNeg)), some (.ref (30 + 2 * a1.toNatClampNeg))]) (st' := [.int a4, .int a3, .ref (30 + 2 * a1.toNatClampNeg)]) (w' := (cX tr kp th ot tp sl pk rf ik)) (by decide +kernel) rfl trivial ?_
                  obtain ⟨r1024, h_1024, hf⟩ := bnd_s hf
                  refine m_cV0 M (rest := []) (w2 := (cX tr kp th ot tp sl pk rf ik)) (st2 := [.int r1024]) (run_X0_hasPart a3 a4   (sl a1.toNatClampNeg) h_1024) cv_X0_hasPart lk_X3_66 (by decide +kernel) [30 + 2 * a1.toNatClampNeg, 31 + 2 * a1.toNatClampNeg] (by simp) ⟨Nat.le_of_ble_eq_true rfl, Nat.le_of_ble_eq_true rfl⟩ (hw_2  (inB_lt h_1008) tr kp th ot tp sl pk rf ik) rfl rfl (Nat.le_of_ble_eq_true rfl) ⟨by decide, by decide⟩ rfl rfl ⟨Nat.zero_le _, Nat.zero_le _⟩ (by have z := (hp_2  (inB_lt h_1008) tr kp th ot tp sl pk rf ik (sl a1.toNatClampNeg)); first | exact z | (simp only [va_up_id] at z; exact z)) rfl ?_
                  rcases ite_s hf with ⟨c_1025, hf⟩ | ⟨c_1025, hf⟩
                  · refine m_jF M (i := .ifCond .ne 10) 123 (by decide +kernel) rfl (by decide) (fun n => n c_1025) ?_
                    refine m_run M (is := [(116, .aload_n 0, 0), (117, .bipush (-2), -2)]) (pc' := 119) (L' := [some (.ref 0), some (.int a0), some (.int a1), some (.int a2), some (.int a3), some (.int a4), some (.ref (30 + 2 * a0.toNatClampNeg)), some (.ref (30 + 2 * a1.toNatClampNeg))]) (st' := [.int (-2), .ref 0]) (w' := (cX tr kp th ot tp sl pk rf ik)) (by decide +kernel) rfl trivial ?_
                    obtain ⟨r1026, h_1026, hf⟩ := bnd_s hf
                    refine m_cV0 M (rest := []) (w2 := (cX tr kp th ot tp sl pk r1026.2 ik)) (st2 := [.int r1026.1]) (run_X3_refuse (-2)   tr kp th ot tp sl pk rf ik h_1026) cv_X3_refuse lk_X3_54 (by decide +kernel) (List.range 46) List.nodup_range ⟨(by rw [List.length_range]; exact Nat.le_refl _), Nat.le_of_ble_eq_true rfl⟩ (hwId rfl) rfl rfl (Nat.le_of_ble_eq_true rfl) ⟨by decide, by decide⟩ rfl rfl ⟨Nat.zero_le _, Nat.zero_le _⟩ (hpId rfl rfl) rfl ?_
                    obtain rfl := Option.some.inj hf
                    exact m_iret K (by decide +kernel) (Nat.zero_le _) (Nat.zero_le _) ⟨rfl, rfl⟩
                  · refine m_jT M (i := .ifCond .ne 10) 123 (by decide +kernel) rfl (by decide) c_1025 ?_
                    refine m_run M (is := [(123, .aload 6, 0)]) (pc' := 125) (L' := [some (.ref 0), some (.int a0), some (.int a1), some (.int a2), some (.int a3), some (.int a4), some (.ref (30 + 2 * a0.toNatClampNeg)), some (.ref (30 + 2 * a1.toNatClampNeg))]) (st' := [.ref (30 + 2 * a0.toNatClampNeg)]) (w' := (cX tr kp th ot tp sl pk rf ik)) (by decide +kernel) rfl trivial ?_
                    refine m_run M (is := [(125, .getfield 85, 0)]) (pc' := 128) (L' := [some (.ref 0), some (.int a0), some (.int a1), some (.int a2), some (.int a3), some (.int a4), some (.ref (30 + 2 * a0.toNatClampNeg)), some (.ref (30 + 2 * a1.toNatClampNeg))]) (st' := [.ref (31 + 2 * a0.toNatClampNeg)]) (w' := (cX tr kp th ot tp sl pk rf ik)) (by decide +kernel) (s_getf (wX_so (inB_lt h_1007) tr kp th ot tp sl pk rf ik) rfl rfl) trivial ?_
                    refine m_run M (is := [(128, .iload_n 3, 0), (129, .aload 7, 0)]) (pc' := 131) (L' := [some (.ref 0), some (.int a0), some (.int a1), some (.int a2), some (.int a3), some (.int a4), some (.ref (30 + 2 * a0.toNatClampNeg)), some (.ref (30 + 2 * a1.toNatClampNeg))]) (st' := [.ref (30 + 2 * a1.toNatClampNeg), .int a2, .ref (31 + 2 * a0.toNatClampNeg)]) (w' := (cX tr kp th ot tp sl pk rf ik)) (by decide +kernel) rfl trivial ?_
                    refine m_run M (is := [(131, .getfield 85, 0)]) (pc' := 134) (L' := [some (.ref 0), some (.int a0), some (.int a1), some (.int a2), some (.int a3), some (.int a4), some (.ref (30 + 2 * a0.toNatClampNeg)), some (.ref (30 + 2 * a1.toNatClampNeg))]) (st' := [.ref (31 + 2 * a1.toNatClampNeg), .int a2, .ref (31 + 2 * a0.toNatClampNeg)]) (w' := (cX tr kp th ot tp sl pk rf ik)) (by decide +kernel) (s_getf (wX_so (inB_lt h_1008) tr kp th ot tp sl pk rf ik) rfl rfl) trivial ?_
                    refine m_run M (is := [(134, .iload 4, 0), (136, .iload 5, 0)]) (pc' := 138) (L' := [some (.ref 0), some (.int a0), some (.int a1), some (.int a2), some (.int a3), some (.int a4), some (.ref (30 + 2 * a0.toNatClampNeg)), some (.ref (30 + 2 * a1.toNatClampNeg))]) (st' := [.int a4, .int a3, .ref (31 + 2 * a1.toNatClampNeg), .int a2, .ref (31 + 2 * a0.toNatClampNeg)]) (w' := (cX tr kp th ot tp sl pk rf ik)) (by decide +kernel) rfl trivial ?_
                    obtain ⟨h_1027, hf⟩ := grd_s hf
                    refine m_cpL M (w2 := (cX tr kp th ot tp (va_up sl a1.toNatClampNeg ((va_cpy ((sl a0.toNatClampNeg).1) ((sl a1.toNatClampNeg).1) a2.toNatClampNeg a3.toNatClampNeg a4.toNatClampNeg), (sl a1.toNatClampNeg).2.1, (sl a1.toNatClampNeg).2.2.1, (sl a1.toNatClampNeg).2.2.2)) pk rf ik)) cp_X3_89 (wX_sa (inB_lt h_1007) tr kp th ot tp sl pk rf ik) (wX_sa (inB_lt h_1008) tr kp th ot tp sl pk rf ik) h_1027 (by decide) (Nat.le_of_ble_eq_true rfl) (by decide +kernel) (wX_st (inB_lt h_1008) tr kp th ot tp sl pk rf ik _) ?_
                    refine m_run M (is := [(141, .iload 5, 0)]) (pc' := 143) (L' := [some (.ref 0), some (.int a0), some (.int a1), some (.int a2), some (.int a3), some (.int a4), some (.ref (30 + 2 * a0.toNatClampNeg)), some (.ref (30 + 2 * a1.toNatClampNeg))]) (st' := [.int a4]) (w' := (cX tr kp th ot tp (va_up sl a1.toNatClampNeg ((va_cpy ((sl a0.toNatClampNeg).1) ((sl a1.toNatClampNeg).1) a2.toNatClampNeg a3.toNatClampNeg a4.toNatClampNeg), (sl a1.toNatClampNeg).2.1, (sl a1.toNatClampNeg).2.2.1, (sl a1.toNatClampNeg).2.2.2)) pk rf ik)) (by decide +kernel) rfl trivial ?_
                    obtain rfl := Option.some.inj hf
                    exact m_iret K (by decide +kernel) (Nat.zero_le _) (Nat.zero_le _) ⟨rfl, rfl⟩
          · refine m_jF M (i := .ifCond .eq 10) 70 (by decide +kernel) rfl (by decide) c_1014 ?_
            refine m_run M (is := [(63, .aload_n 0, 0), (64, .bipush (-3), -3)]) (pc' := 66) (L' := [some (.ref 0), some (.int a0), some (.int a1), some (.int a2), some (.int a3), some (.int a4), some (.ref (30 + 2 * a0.toNatClampNeg)), some (.ref (30 + 2 * a1.toNatClampNeg))]) (st' := [.int (-3), .ref 0]) (w' := (cX tr kp th ot tp sl pk rf ik)) (by decide +kernel) rfl trivial ?_
            obtain ⟨r1028, h_1028, hf⟩ := bnd_s hf
            refine m_cV0 M (rest := []) (w2 := (cX tr kp th ot tp sl pk r1028.2 ik)) (st2 := [.int r1028.1]) (run_X3_refuse (-3)   tr kp th ot tp sl pk rf ik h_1028) cv_X3_refuse lk_X3_54 (by decide +kernel) (List.range 46) List.nodup_range ⟨(by rw [List.length_range]; exact Nat.le_refl _), Nat.le_of_ble_eq_true rfl⟩ (hwId rfl) rfl rfl (Nat.le_of_ble_eq_true rfl) ⟨by decide, by decide⟩ rfl rfl ⟨Nat.zero_le _, Nat.zero_le _⟩ (hpId rfl rfl) rfl ?_
            obtain rfl := Option.some.inj hf
            exact m_iret K (by decide +kernel) (Nat.zero_le _) (Nat.zero_le _) ⟨rfl, rfl⟩
        · refine m_jT M (i := .ifCond .ne 13) 63 (by decide +kernel) rfl (by decide) c_1012 ?_
          refine m_run M (is := [(63, .aload_n 0, 0), (64, .bipush (-3), -3)]) (pc' := 66) (L' := [some (.ref 0), some (.int a0), some (.int a1), some (.int a2), some (.int a3), some (.int a4), some (.ref (30 + 2 * a0.toNatClampNeg)), some (.ref (30 + 2 * a1.toNatClampNeg))]) (st' := [.int (-3), .ref 0]) (w' := (cX tr kp th ot tp sl pk rf ik)) (by decide +kernel) rfl trivial ?_
          obtain ⟨r1029, h_1029, hf⟩ := bnd_s hf
          refine m_cV0 M (rest := []) (w2 := (cX tr kp th ot tp sl pk r1029.2 ik)) (st2 := [.int r1029.1]) (run_X3_refuse (-3)   tr kp th ot tp sl pk rf ik h_1029) cv_X3_refuse lk_X3_54 (by decide +kernel) (List.range 46) List.nodup_range ⟨(by rw [List.length_range]; exact Nat.le_refl _), Nat.le_of_ble_eq_true rfl⟩ (hwId rfl) rfl rfl (Nat.le_of_ble_eq_true rfl) ⟨by decide, by decide⟩ rfl rfl ⟨Nat.zero_le _, Nat.zero_le _⟩ (hpId rfl rfl) rfl ?_
          obtain rfl := Option.some.inj hf
          exact m_iret K (by decide +kernel) (Nat.zero_le _) (Nat.zero_le _) ⟨rfl, rfl⟩
      · refine m_jT M (i := .ifCond .ne 21) 63 (by decide +kernel) rfl (by decide) c_1010 ?_
        refine m_run M (is := [(63, .aload_n 0, 0), (64, .bipush (-3), -3)]) (pc' := 66) (L' := [some (.ref 0), some (.int a0), some (.int a1), some (.int a2), some (.int a3), some (.int a4), some (.ref (30 + 2 * a0.toNatClampNeg)), some (.ref (30 + 2 * a1.toNatClampNeg))]) (st' := [.int (-3), .ref 0]) (w' := (cX tr kp th ot tp sl pk rf ik)) (by decide +kernel) rfl trivial ?_
        obtain ⟨r1030, h_1030, hf⟩ := bnd_s hf
        refine m_cV0 M (rest := []) (w2 := (cX tr kp th ot tp sl pk r1030.2 ik)) (st2 := [.int r1030.1]) (run_X3_refuse (-3)   tr kp th ot tp sl pk rf ik h_1030) cv_X3_refuse lk_X3_54 (by decide +kernel) (List.range 46) List.nodup_range ⟨(by rw [List.length_range]; exact Nat.le_refl _), Nat.le_of_ble_eq_true rfl⟩ (hwId rfl) rfl rfl (Nat.le_of_ble_eq_true rfl) ⟨by decide, by decide⟩ rfl rfl ⟨Nat.zero_le _, Nat.zero_le _⟩ (hpId rfl rfl) rfl ?_
        obtain rfl := Option.some.inj hf
        exact m_iret K (by decide +kernel) (Nat.zero_le _) (Nat.zero_le _) ⟨rfl, rfl⟩

set_option maxRecDepth 100000 in
set_option maxHeartbeats 4000000 in
theorem hw_11  (tr : ShT) (kp : ShT) (th : ShT) (ot : ShT) (tp : TpT) (sl : (Nat → SlT)) (pk : AI) (rf : AI) (ik : Int32) : (List.take (List.length (((cTp 0 tp) ++ (cSh 2 th)) : Wd)) ([25, 26, 13, 14, 15, 16, 17, 18] : List Nat)).map (fun k => ((cX tr kp th ot tp sl pk rf ik))[k]?) = (((cTp 0 tp) ++ (cSh 2 th)) : Wd).map (fun x => some (rS [25, 26, 13, 14, 15, 16, 17, 18] (List.length ((cX tr kp th ot tp sl pk rf ik) : Wd)) x)) := rfl
set_option maxRecDepth 100000 in
set_option maxHeartbeats 4000000 in
theorem hp_11  (tr : ShT) (kp : ShT) (th : ShT) (ot : ShT) (tp : TpT) (sl : (Nat → SlT)) (pk : AI) (rf : AI) (ik : Int32) (t' : TpT) (s' : ShT) : putL (List.take (List.length (((cTp 0 tp) ++ (cSh 2 th)) : Wd)) ([25, 26, 13, 14, 15, 16, 17, 18] : List Nat)) ((((cTp 0 t') ++ (cSh 2 s')) : Wd).map (rS [25, 26, 13, 14, 15, 16, 17, 18] (List.length ((cX tr kp th ot tp sl pk rf ik) : Wd)))) (cX tr kp th ot tp sl pk rf ik) = (cX tr kp s' ot t' sl pk rf ik) := rfl
set_option maxRecDepth 100000 in
set_option maxHeartbeats 4000000 in
theorem hw_12  (tr : ShT) (kp : ShT) (th : ShT) (ot : ShT) (tp : TpT) (sl : (Nat → SlT)) (pk : AI) (rf : AI) (ik : Int32) : (List.take (List.length (((cSh 0 tr) ++ (cSh 6 th)) : Wd)) ([1, 2, 3, 4, 5, 6, 13, 14, 15, 16, 17, 18] : List Nat)).map (fun k => ((cX tr kp th ot tp sl pk rf ik))[k]?) = (((cSh 0 tr) ++ (cSh 6 th)) : Wd).map (fun x => some (rS [1, 2, 3, 4, 5, 6, 13, 14, 15, 16, 17, 18] (List.length ((cX tr kp th ot tp sl pk rf ik) : Wd)) x)) := rfl
set_option maxRecDepth 100000 in
set_option maxHeartbeats 4000000 in
theorem hp_12  (tr : ShT) (kp : ShT) (th : ShT) (ot : ShT) (tp : TpT) (sl : (Nat → SlT)) (pk : AI) (rf : AI) (ik : Int32) (s' : ShT) (o' : ShT) : putL (List.take (List.length (((cSh 0 tr) ++ (cSh 6 th)) : Wd)) ([1, 2, 3, 4, 5, 6, 13, 14, 15, 16, 17, 18] : List Nat)) ((((cSh 0 s') ++ (cSh 6 o')) : Wd).map (rS [1, 2, 3, 4, 5, 6, 13, 14, 15, 16, 17, 18] (List.length ((cX tr kp th ot tp sl pk rf ik) : Wd)))) (cX tr kp th ot tp sl pk rf ik) = (cX s' kp o' ot tp sl pk rf ik) := rfl
def f_X3_shop (tr : ShT) (th : ShT) (tp : TpT) (rf : AI) : Option (Int32 × ShT × ShT × TpT × AI) :=
  (f_X1_become th tr).bind fun r1001 =>
  (f_X2_readInto tp r1001).bind fun r1002 =>
  if r1002.1 = (-1) then
    (f_X3_refuse (-2) rf).bind fun r1004 =>
    some (((-20) - r1002.2.1.2.2.1), tr, r1002.2.2, (r1002.2.1.1, 0, r1002.2.1.2.2.1, r1002.2.1.2.2.2), r1004.2)
  else
    (f_X1_become tr r1002.2.2).bind fun r1005 =>
    some (r1002.1, r1005, r1002.2.2, (r1002.2.1.1, 0, r1002.2.1.2.2.1, r1002.2.1.2.2.2), rf)
set_option maxRecDepth 100000 in
set_option maxHeartbeats 4000000 in
theorem run_X3_shop {l : Launch} {D : va_G} {cT : Nat → ClassId}    (tr : ShT) (kp : ShT) (th : ShT) (ot : ShT) (tp : TpT) (sl : (Nat → SlT)) (pk : AI) (rf : AI) (ik : Int32) {r : Int32 × ShT × ShT × TpT × AI} (hf : f_X3_shop tr th tp rf = some r) : Runs l D cT yX3_shop cX3_shop 2 (some .int) 7 150 [.ref 0] (cX tr kp th ot tp sl pk rf ik) (EQ (some (.int r.1)) (cX r.2.1 kp r.2.2.1 ot r.2.2.2.1 sl pk r.2.2.2.2 ik)) := by
  refine runs_of O_X3 okO_X3 (by decide +kernel) rfl rfl (Nat.le_of_ble_eq_true rfl) (Nat.le_of_ble_eq_true rfl) (fun g K => ?_)
  have M := K.b
  show g 0 0 (cX tr kp th ot tp sl pk rf ik) 0 [some (.ref 0), none] []
  rw [f_X3_shop] at hf
  refine m_run M (is := [(0, .aload_n 0, 0), (1, .getfield 19, 0), (4, .aload_n 0, 0), (5, .getfield 10, 0)]) (pc' := 8) (L' := [some (.ref 0), none]) (st' := [.ref 1, .ref 13]) (w' := (cX tr kp th ot tp sl pk rf ik)) (by decide +kernel) rfl trivial ?_
  obtain ⟨r1001, h_1001, hf⟩ := bnd_s hf
  refine m_cV0 M (rest := []) (w2 := (cX tr kp r1001 ot tp sl pk rf ik)) (st2 := []) (run_X1_become    th tr h_1001) cv_X1_become lk_X3_161 (by decide +kernel) [13, 14, 15, 16, 17, 18, 1, 2, 3, 4, 5, 6] (by decide) ⟨Nat.le_of_ble_eq_true rfl, Nat.le_of_ble_eq_true rfl⟩ (hw_0  tr kp th ot tp sl pk rf ik) rfl rfl (Nat.le_of_ble_eq_true rfl) ⟨by decide, by decide⟩ rfl rfl ⟨Nat.zero_le _, Nat.zero_le _⟩ (hp_0  tr kp th ot tp sl pk rf ik r1001 tr) rfl ?_
  refine m_run M (is := [(11, .aload_n 0, 0), (12, .getfield 28, 0), (15, .aload_n 0, 0), (16, .getfield 19, 0)]) (pc' := 19) (L' := [some (.ref 0), none]) (st' := [.ref 13, .ref 25]) (w' := (cX tr kp r1001 ot tp sl pk rf ik)) (by decide +kernel) rfl trivial ?_
  obtain ⟨r1002, h_1002, hf⟩ := bnd_s hf
  refine m_cV0 M (rest := []) (w2 := (cX tr kp r1002.2.2 ot r1002.2.1 sl pk rf ik)) (st2 := [.int r1002.1]) (run_X2_readInto    tp r1001 h_1002) cv_X2_readInto lk_X3_165 (by decide +kernel) [25, 26, 13, 14, 15, 16, 17, 18] (by decide) ⟨Nat.le_of_ble_eq_true rfl, Nat.le_of_ble_eq_true rfl⟩ (hw_11  tr kp r1001 ot tp sl pk rf ik) rfl rfl (Nat.le_of_ble_eq_true rfl) ⟨by decide, by decide⟩ rfl rfl ⟨Nat.zero_le _, Nat.zero_le _⟩ (hp_11  tr kp r1001 ot tp sl pk rf ik r1002.2.1 r1002.2.2) rfl ?_
  refine m_run M (is := [(22, .istore_n 1, 0), (23, .aload_n 0, 0), (24, .getfield 28, 0), (27, .iconst 0, 0), (28, .putfield 158, 0), (31, .iload_n 1, 0), (32, .iconst (-1), -1)]) (pc' := 33) (L' := [some (.ref 0), some (.int r1002.1)]) (st' := [.int (-1), .int r1002.1]) (w' := (cX tr kp r1002.2.2 ot (r1002.2.1.1, 0, r1002.2.1.2.2.1, r1002.2.1.2.2.2) sl pk rf ik)) (by decide +kernel) rfl trivial ?_
  rcases ite_s hf with ⟨c_1003, hf⟩ | ⟨c_1003, hf⟩
  · refine m_jF M (i := .if_icmp .ne 21) 54 (by decide +kernel) rfl (by decide) (fun n => n c_1003) ?_
    refine m_run M (is := [(36, .aload_n 0, 0), (37, .bipush (-2), -2)]) (pc' := 39) (L' := [some (.ref 0), some (.int r1002.1)]) (st' := [.int (-2), .ref 0]) (w' := (cX tr kp r1002.2.2 ot (r1002.2.1.1, 0, r1002.2.1.2.2.1, r1002.2.1.2.2.2) sl pk rf ik)) (by decide +kernel) rfl trivial ?_
    obtain ⟨r1004, h_1004, hf⟩ := bnd_s hf
    refine m_cV0 M (rest := []) (w2 := (cX tr kp r1002.2.2 ot (r1002.2.1.1, 0, r1002.2.1.2.2.1, r1002.2.1.2.2.2) sl pk r1004.2 ik)) (st2 := [.int r1004.1]) (run_X3_refuse (-2)   tr kp r1002.2.2 ot (r1002.2.1.1, 0, r1002.2.1.2.2.1, r1002.2.1.2.2.2) sl pk rf ik h_1004) cv_X3_refuse lk_X3_54 (by decide +kernel) (List.range 46) List.nodup_range ⟨(by rw [List.length_range]; exact Nat.le_refl _), Nat.le_of_ble_eq_true rfl⟩ (hwId rfl) rfl rfl (Nat.le_of_ble_eq_true rfl) ⟨by decide, by decide⟩ rfl rfl ⟨Nat.zero_le _, Nat.zero_le _⟩ (hpId rfl rfl) rfl ?_
    refine m_run M (is := [(42, .pop, 0), (43, .bipush (-20), -20), (45, .aload_n 0, 0), (46, .getfield 28, 0), (49, .getfield 169, 0), (52, .isub, 0)]) (pc' := 53) (L' := [some (.ref 0), some (.int r1002.1)]) (st' := [.int ((-20) - r1002.2.1.2.2.1)]) (w' := (cX tr kp r1002.2.2 ot (r1002.2.1.1, 0, r1002.2.1.2.2.1, r1002.2.1.2.2.2) sl pk r1004.2 ik)) (by decide +kernel) rfl trivial ?_
    obtain rfl := Option.some.inj hf
    exact m_iret K (by decide +kernel) (Nat.zero_le _) (Nat.zero_le _) ⟨rfl, rfl⟩
  · refine m_jT M (i := .if_icmp .ne 21) 54 (by decide +kernel) rfl (by decide) c_1003 ?_
    refine m_run M (is := [(54, .aload_n 0, 0), (55, .getfield 10, 0), (58, .aload_n 0, 0), (59, .getfield 19, 0)]) (pc' := 62) (L' := [some (.ref 0), some (.int r1002.1)]) (st' := [.ref 13, .ref 1]) (w' := (cX tr kp r1002.2.2 ot (r1002.2.1.1, 0, r1002.2.1.2.2.1, r1002.2.1.2.2.2) sl pk rf ik)) (by decide +kernel) rfl trivial ?_
    obtain ⟨r1005, h_1005, hf⟩ := bnd_s hf
    refine m_cV0 M (rest := []) (w2 := (cX r1005 kp r1002.2.2 ot (r1002.2.1.1, 0, r1002.2.1.2.2.1, r1002.2.1.2.2.2) sl pk rf ik)) (st2 := []) (run_X1_become    tr r1002.2.2 h_1005) cv_X1_become lk_X3_161 (by decide +kernel) [1, 2, 3, 4, 5, 6, 13, 14, 15, 16, 17, 18] (by decide) ⟨Nat.le_of_ble_eq_true rfl, Nat.le_of_ble_eq_true rfl⟩ (hw_12  tr kp r1002.2.2 ot (r1002.2.1.1, 0, r1002.2.1.2.2.1, r1002.2.1.2.2.2) sl pk rf ik) rfl rfl (Nat.le_of_ble_eq_true rfl) ⟨by decide, by decide⟩ rfl rfl ⟨Nat.zero_le _, Nat.zero_le _⟩ (hp_12  tr kp r1002.2.2 ot (r1002.2.1.1, 0, r1002.2.1.2.2.1, r1002.2.1.2.2.2) sl pk rf ik r1005 r1002.2.2) rfl ?_
    refine m_run M (is := [(65, .iload_n 1, 0)]) (pc' := 66) (L' := [some (.ref 0), some (.int r1002.1)]) (st' := [.int r1002.1]) (w' := (cX r1005 kp r1002.2.2 ot (r1002.2.1.1, 0, r1002.2.1.2.2.1, r1002.2.1.2.2.2) sl pk rf ik)) (by decide +kernel) rfl trivial ?_
    obtain rfl := Option.some.inj hf
    exact m_iret K (by decide +kernel) (Nat.zero_le _) (Nat.zero_le _) ⟨rfl, rfl⟩

