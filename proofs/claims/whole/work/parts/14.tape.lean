/-! ===== written by wip/whole/drive.py ===== -/
def f_X2_isLetter (a0 : Int32) : Option (Int32) :=
  if a0 < 97 then
    some 0
  else
    if 122 < a0 then
      some 0
    else
      some 1
set_option maxRecDepth 100000 in
set_option maxHeartbeats 4000000 in
theorem run_X2_isLetter {l : Launch} {D : va_G} {cT : Nat → ClassId} (a0 : Int32)    {r : Int32} (hf : f_X2_isLetter a0 = some r) : Runs l D cT yX2_isLetter cX2_isLetter 1 (some .boolean) 0 0 [.int a0] [] (EQ (some (.int r)) []) := by
  refine runs_of O_X2 okO_X2 (by decide +kernel) rfl rfl (Nat.le_of_ble_eq_true rfl) (Nat.le_of_ble_eq_true rfl) (fun g K => ?_)
  have M := K.b
  show g 0 0 [] 0 [some (.int a0)] []
  rw [f_X2_isLetter] at hf
  refine m_run M (is := [(0, .iload_n 0, 0), (1, .bipush 97, 97)]) (pc' := 3) (L' := [some (.int a0)]) (st' := [.int 97, .int a0]) (w' := []) (by decide +kernel) rfl trivial ?_
  rcases ite_s hf with ⟨c_1001, hf⟩ | ⟨c_1001, hf⟩
  · refine m_jT M (i := .if_icmp .lt 13) 16 (by decide +kernel) rfl (by decide) c_1001 ?_
    refine m_run M (is := [(16, .iconst 0, 0)]) (pc' := 17) (L' := [some (.int a0)]) (st' := [.int 0]) (w' := []) (by decide +kernel) rfl trivial ?_
    obtain rfl := Option.some.inj hf
    exact m_zret K (by decide +kernel) (Or.inl rfl) (Nat.zero_le _) (Nat.zero_le _) ⟨rfl, rfl⟩
  · refine m_jF M (i := .if_icmp .lt 13) 16 (by decide +kernel) rfl (by decide) c_1001 ?_
    refine m_run M (is := [(6, .iload_n 0, 0), (7, .bipush 122, 122)]) (pc' := 9) (L' := [some (.int a0)]) (st' := [.int 122, .int a0]) (w' := []) (by decide +kernel) rfl trivial ?_
    rcases ite_s hf with ⟨c_1002, hf⟩ | ⟨c_1002, hf⟩
    · refine m_jT M (i := .if_icmp .gt 7) 16 (by decide +kernel) rfl (by decide) c_1002 ?_
      refine m_run M (is := [(16, .iconst 0, 0)]) (pc' := 17) (L' := [some (.int a0)]) (st' := [.int 0]) (w' := []) (by decide +kernel) rfl trivial ?_
      obtain rfl := Option.some.inj hf
      exact m_zret K (by decide +kernel) (Or.inl rfl) (Nat.zero_le _) (Nat.zero_le _) ⟨rfl, rfl⟩
    · refine m_jF M (i := .if_icmp .gt 7) 16 (by decide +kernel) rfl (by decide) c_1002 ?_
      refine m_run M (is := [(12, .iconst 1, 1), (13, .goto 4, 0)]) (pc' := 17) (L' := [some (.int a0)]) (st' := [.int 1]) (w' := []) (by decide +kernel) rfl trivial ?_
      obtain rfl := Option.some.inj hf
      exact m_zret K (by decide +kernel) (Or.inr rfl) (Nat.zero_le _) (Nat.zero_le _) ⟨rfl, rfl⟩

def f_X2_isDigit (a0 : Int32) : Option (Int32) :=
  if a0 < 48 then
    some 0
  else
    if 57 < a0 then
      some 0
    else
      some 1
set_option maxRecDepth 100000 in
set_option maxHeartbeats 4000000 in
theorem run_X2_isDigit {l : Launch} {D : va_G} {cT : Nat → ClassId} (a0 : Int32)    {r : Int32} (hf : f_X2_isDigit a0 = some r) : Runs l D cT yX2_isDigit cX2_isDigit 1 (some .boolean) 0 0 [.int a0] [] (EQ (some (.int r)) []) := by
  refine runs_of O_X2 okO_X2 (by decide +kernel) rfl rfl (Nat.le_of_ble_eq_true rfl) (Nat.le_of_ble_eq_true rfl) (fun g K => ?_)
  have M := K.b
  show g 0 0 [] 0 [some (.int a0)] []
  rw [f_X2_isDigit] at hf
  refine m_run M (is := [(0, .iload_n 0, 0), (1, .bipush 48, 48)]) (pc' := 3) (L' := [some (.int a0)]) (st' := [.int 48, .int a0]) (w' := []) (by decide +kernel) rfl trivial ?_
  rcases ite_s hf with ⟨c_1001, hf⟩ | ⟨c_1001, hf⟩
  · refine m_jT M (i := .if_icmp .lt 13) 16 (by decide +kernel) rfl (by decide) c_1001 ?_
    refine m_run M (is := [(16, .iconst 0, 0)]) (pc' := 17) (L' := [some (.int a0)]) (st' := [.int 0]) (w' := []) (by decide +kernel) rfl trivial ?_
    obtain rfl := Option.some.inj hf
    exact m_zret K (by decide +kernel) (Or.inl rfl) (Nat.zero_le _) (Nat.zero_le _) ⟨rfl, rfl⟩
  · refine m_jF M (i := .if_icmp .lt 13) 16 (by decide +kernel) rfl (by decide) c_1001 ?_
    refine m_run M (is := [(6, .iload_n 0, 0), (7, .bipush 57, 57)]) (pc' := 9) (L' := [some (.int a0)]) (st' := [.int 57, .int a0]) (w' := []) (by decide +kernel) rfl trivial ?_
    rcases ite_s hf with ⟨c_1002, hf⟩ | ⟨c_1002, hf⟩
    · refine m_jT M (i := .if_icmp .gt 7) 16 (by decide +kernel) rfl (by decide) c_1002 ?_
      refine m_run M (is := [(16, .iconst 0, 0)]) (pc' := 17) (L' := [some (.int a0)]) (st' := [.int 0]) (w' := []) (by decide +kernel) rfl trivial ?_
      obtain rfl := Option.some.inj hf
      exact m_zret K (by decide +kernel) (Or.inl rfl) (Nat.zero_le _) (Nat.zero_le _) ⟨rfl, rfl⟩
    · refine m_jF M (i := .if_icmp .gt 7) 16 (by decide +kernel) rfl (by decide) c_1002 ?_
      refine m_run M (is := [(12, .iconst 1, 1), (13, .goto 4, 0)]) (pc' := 17) (L' := [some (.int a0)]) (st' := [.int 1]) (w' := []) (by decide +kernel) rfl trivial ?_
      obtain rfl := Option.some.inj hf
      exact m_zret K (by decide +kernel) (Or.inr rfl) (Nat.zero_le _) (Nat.zero_le _) ⟨rfl, rfl⟩

def f_X2_add (a0 : Int32) (t : TpT) : Option (Int32 × TpT) :=
  if t.2.1 < 250 then
    if inB t.2.1 250 then
    some (1, ((upd t.1 t.2.1.toNatClampNeg a0), (t.2.1 + 1), t.2.2.1, t.2.2.2))
    else none
  else
    some (0, t)
set_option maxRecDepth 100000 in
set_option maxHeartbeats 4000000 in
theorem run_X2_add {l : Launch} {D : va_G} {cT : Nat → ClassId} (a0 : Int32)   (t : TpT) {r : Int32 × TpT} (hf : f_X2_add a0 t = some r) : Runs l D cT yX2_add cX2_add 2 (some .boolean) 0 0 [.ref 0, .int a0] (cTp 0 t) (EQ (some (.int r.1)) (cTp 0 r.2)) := by
  refine runs_of O_X2 okO_X2 (by decide +kernel) rfl rfl (Nat.le_of_ble_eq_true rfl) (Nat.le_of_ble_eq_true rfl) (fun g K => ?_)
  have M := K.b
  show g 0 0 (cTp 0 t) 0 [some (.ref 0), some (.int a0)] []
  rw [f_X2_add] at hf
  refine m_run M (is := [(0, .aload_n 0, 0), (1, .getfield 15, 0), (4, .sipush 250, 250)]) (pc' := 7) (L' := [some (.ref 0), some (.int a0)]) (st' := [.int 250, .int t.2.1]) (w' := (cTp 0 t)) (by decide +kernel) rfl trivial ?_
  rcases ite_s hf with ⟨c_1001, hf⟩ | ⟨c_1001, hf⟩
  · refine m_jT M (i := .if_icmp .lt 5) 12 (by decide +kernel) rfl (by decide) c_1001 ?_
    obtain ⟨h_1002, hf⟩ := grd_s hf
    refine m_run M (is := [(12, .aload_n 0, 0), (13, .getfield 9, 0), (16, .aload_n 0, 0), (17, .getfield 15, 0), (20, .iload_n 1, 0), (21, .iastore, 0), (22, .aload_n 0, 0), (23, .dup, 0), (24, .getfield 15, 0), (27, .iconst 1, 1), (28, .iadd, 0), (29, .putfield 15, 0), (32, .iconst 1, 1)]) (pc' := 33) (L' := [some (.ref 0), some (.int a0)]) (st' := [.int 1]) (w' := (cTp 0 ((upd t.1 t.2.1.toNatClampNeg a0), (t.2.1 + 1), t.2.2.1, t.2.2.2))) (by decide +kernel) rfl ⟨inB_use h_1002, trivial⟩ ?_
    obtain rfl := Option.some.inj hf
    exact m_zret K (by decide +kernel) (Or.inr rfl) (Nat.zero_le _) (Nat.zero_le _) ⟨rfl, rfl⟩
  · refine m_jF M (i := .if_icmp .lt 5) 12 (by decide +kernel) rfl (by decide) c_1001 ?_
    refine m_run M (is := [(10, .iconst 0, 0)]) (pc' := 11) (L' := [some (.ref 0), some (.int a0)]) (st' := [.int 0]) (w' := (cTp 0 t)) (by decide +kernel) rfl trivial ?_
    obtain rfl := Option.some.inj hf
    exact m_zret K (by decide +kernel) (Or.inl rfl) (Nat.zero_le _) (Nat.zero_le _) ⟨rfl, rfl⟩

def f_X2_goOn_L1  : Nat → TpT → Option (TpT)
  | 0, _ => none
  | n_ + 1, t =>
    if t.2.1 ≤ t.2.2.2 then
      some t
    else
      if inB t.2.2.2 250 then
      (f_X2_isLetter (t.1 t.2.2.2.toNatClampNeg)).bind fun r203 =>
      if r203 = 0 then
        some t
      else
        f_X2_goOn_L1 n_ (t.1, t.2.1, t.2.2.1, (t.2.2.2 + 1))
      else none
def f_X2_goOn_L2  : Nat → TpT → Option (TpT)
  | 0, _ => none
  | n_ + 1, t =>
    if t.2.1 ≤ t.2.2.2 then
      some t
    else
      if inB t.2.2.2 250 then
      (f_X2_isDigit (t.1 t.2.2.2.toNatClampNeg)).bind fun r303 =>
      if r303 = 0 then
        some t
      else
        f_X2_goOn_L2 n_ (t.1, t.2.1, t.2.2.1, (t.2.2.2 + 1))
      else none
def f_X2_goOn_L0  : Nat → TpT → Option (TpT)
  | 0, _ => none
  | n_ + 1, t =>
    if t.2.1 ≤ t.2.2.1 then
      (f_J9_min_7cf53 (t.2.2.1 + 1) t.2.1).bind fun r102 =>
      if t.2.1 ≤ t.2.2.1 then
        if t.2.1 ≤ t.2.2.1 then
          some (t.1, t.2.1, t.2.2.1, r102)
        else
          if inB t.2.2.1 250 then
          (f_X2_isDigit (t.1 t.2.2.1.toNatClampNeg)).bind fun r106 =>
          if r106 = 0 then
            some (t.1, t.2.1, t.2.2.1, r102)
          else
            f_X2_goOn_L2 fuel0 (t.1, t.2.1, t.2.2.1, r102)
          else none
      else
        if inB t.2.2.1 250 then
        (f_X2_isLetter (t.1 t.2.2.1.toNatClampNeg)).bind fun r109 =>
        if r109 = 0 then
          if t.2.1 ≤ t.2.2.1 then
            some (t.1, t.2.1, t.2.2.1, r102)
          else
            if inB t.2.2.1 250 then
            (f_X2_isDigit (t.1 t.2.2.1.toNatClampNeg)).bind fun r113 =>
            if r113 = 0 then
              some (t.1, t.2.1, t.2.2.1, r102)
            else
              f_X2_goOn_L2 fuel0 (t.1, t.2.1, t.2.2.1, r102)
            else none
        else
          f_X2_goOn_L1 fuel0 (t.1, t.2.1, t.2.2.1, r102)
        else none
    else
      if inB t.2.2.1 250 then
      if (t.1 t.2.2.1.toNatClampNeg) = 32 then
        f_X2_goOn_L0 n_ (t.1, t.2.1, (t.2.2.1 + 1), t.2.2.2)
      else
        (f_J9_min_7cf53 (t.2.2.1 + 1) t.2.1).bind fun r117 =>
        if t.2.1 ≤ t.2.2.1 then
          if t.2.1 ≤ t.2.2.1 then
            some (t.1, t.2.1, t.2.2.1, r117)
          else
            if inB t.2.2.1 250 then
            (f_X2_isDigit (t.1 t.2.2.1.toNatClampNeg)).bind fun r121 =>
            if r121 = 0 then
              some (t.1, t.2.1, t.2.2.1, r117)
            else
              f_X2_goOn_L2 fuel0 (t.1, t.2.1, t.2.2.1, r117)
            else none
        else
          if inB t.2.2.1 250 then
          (f_X2_isLetter (t.1 t.2.2.1.toNatClampNeg)).bind fun r124 =>
          if r124 = 0 then
            if t.2.1 ≤ t.2.2.1 then
              some (t.1, t.2.1, t.2.2.1, r117)
            else
              if inB t.2.2.1 250 then
              (f_X2_isDigit (t.1 t.2.2.1.toNatClampNeg)).bind fun r128 =>
              if r128 = 0 then
                some (t.1, t.2.1, t.2.2.1, r117)
              else
                f_X2_goOn_L2 fuel0 (t.1, t.2.1, t.2.2.1, r117)
              else none
          else
            f_X2_goOn_L1 fuel0 (t.1, t.2.1, t.2.2.1, r117)
          else none
      else none
def f_X2_goOn (t : TpT) : Option (TpT) :=
  f_X2_goOn_L0 fuel0 (t.1, t.2.1, t.2.2.2, t.2.2.2)
set_option maxRecDepth 100000 in
set_option maxHeartbeats 4000000 in
theorem run_X2_goOn {l : Launch} {D : va_G} {cT : Nat → ClassId}    (t : TpT) {r : TpT} (hf : f_X2_goOn t = some r) : Runs l D cT yX2_goOn cX2_goOn 1 none 1 21 [.ref 0] (cTp 0 t) (EQ none (cTp 0 r)) := by
  refine runs_of O_X2 okO_X2 (by decide +kernel) rfl rfl (Nat.le_of_ble_eq_true rfl) (Nat.le_of_ble_eq_true rfl) (fun g K => ?_)
  have M := K.b
  show g 0 0 (cTp 0 t) 0 [some (.ref 0)] []
  have loop_1 : ∀ (n_ : Nat), (∀ (t : TpT), f_X2_goOn_L1  n_ t = some r → g 0 0 (cTp 0 t) 89 [some (.ref 0)] []) := by
    intro n_
    induction n_ with
    | zero => intro t hf; cases hf
    | succ n_ ih =>
      intro t hf
      rw [f_X2_goOn_L1] at hf
      refine m_run M (is := [(89, .aload_n 0, 0), (90, .getfield 19, 0), (93, .aload_n 0, 0), (94, .getfield 15, 0)]) (pc' := 97) (L' := [some (.ref 0)]) (st' := [.int t.2.1, .int t.2.2.2]) (w' := (cTp 0 t)) (by decide +kernel) rfl trivial ?_
      rcases ite_s hf with ⟨c_201, hf⟩ | ⟨c_201, hf⟩
      · refine m_jT M (i := .if_icmp .ge 96) 193 (by decide +kernel) rfl (by decide) c_201 ?_
        obtain rfl := Option.some.inj hf
        exact m_vret K (by decide +kernel) (Nat.zero_le _) (Nat.zero_le _) ⟨rfl, rfl⟩
      · refine m_jF M (i := .if_icmp .ge 96) 193 (by decide +kernel) rfl (by decide) c_201 ?_
        obtain ⟨h_202, hf⟩ := grd_s hf
        refine m_run M (is := [(100, .aload_n 0, 0), (101, .getfield 9, 0), (104, .aload_n 0, 0), (105, .getfield 19, 0), (108, .iaload, 0)]) (pc' := 109) (L' := [some (.ref 0)]) (st' := [.int (t.1 t.2.2.2.toNatClampNeg)]) (w' := (cTp 0 t)) (by decide +kernel) rfl ⟨inB_use h_202, trivial⟩ ?_
        obtain ⟨r203, h_203, hf⟩ := bnd_s hf
        refine m_cS0 M (rest := []) (w2 := (cTp 0 t)) (st2 := [.int r203]) (run_X2_isLetter (t.1 t.2.2.2.toNatClampNeg)    h_203) cs_X2_isLetter lk_X2_121 (by decide +kernel) [] (by decide) ⟨Nat.le_of_ble_eq_true rfl, Nat.le_of_ble_eq_true rfl⟩ rfl rfl (Nat.le_of_ble_eq_true rfl) ⟨by decide, by decide⟩ rfl rfl ⟨Nat.zero_le _, Nat.zero_le _⟩ rfl rfl ?_
        rcases ite_s hf with ⟨c_204, hf⟩ | ⟨c_204, hf⟩
        · refine m_jT M (i := .ifCond .eq 81) 193 (by decide +kernel) rfl (by decide) c_204 ?_
          obtain rfl := Option.some.inj hf
          exact m_vret K (by decide +kernel) (Nat.zero_le _) (Nat.zero_le _) ⟨rfl, rfl⟩
        · refine m_jF M (i := .ifCond .eq 81) 193 (by decide +kernel) rfl (by decide) c_204 ?_
          refine m_run M (is := [(115, .aload_n 0, 0), (116, .dup, 0), (117, .getfield 19, 0), (120, .iconst 1, 1), (121, .iadd, 0), (122, .putfield 19, 0), (125, .goto (-36), 0)]) (pc' := 89) (L' := [some (.ref 0)]) (st' := []) (w' := (cTp 0 (t.1, t.2.1, t.2.2.1, (t.2.2.2 + 1)))) (by decide +kernel) rfl trivial ?_
          exact ih (t.1, t.2.1, t.2.2.1, (t.2.2.2 + 1)) hf
  have loop_2 : ∀ (n_ : Nat), (∀ (t : TpT), f_X2_goOn_L2  n_ t = some r → g 0 0 (cTp 0 t) 154 [some (.ref 0)] []) := by
    intro n_
    induction n_ with
    | zero => intro t hf; cases hf
    | succ n_ ih =>
      intro t hf
      rw [f_X2_goOn_L2] at hf
      refine m_run M (is := [(154, .aload_n 0, 0), (155, .getfield 19, 0), (158, .aload_n 0, 0), (159, .getfield 15, 0)]) (pc' := 162) (L' := [some (.ref 0)]) (st' := [.int t.2.1, .int t.2.2.2]) (w' := (cTp 0 t)) (by decide +kernel) rfl trivial ?_
      rcases ite_s hf with ⟨c_301, hf⟩ | ⟨c_301, hf⟩
      · refine m_jT M (i := .if_icmp .ge 31) 193 (by decide +kernel) rfl (by decide) c_301 ?_
        obtain rfl := Option.some.inj hf
        exact m_vret K (by decide +kernel) (Nat.zero_le _) (Nat.zero_le _) ⟨rfl, rfl⟩
      · refine m_jF M (i := .if_icmp .ge 31) 193 (by decide +kernel) rfl (by decide) c_301 ?_
        obtain ⟨h_302, hf⟩ := grd_s hf
        refine m_run M (is := [(165, .aload_n 0, 0), (166, .getfield 9, 0), (169, .aload_n 0, 0), (170, .getfield 19, 0), (173, .iaload, 0)]) (pc' := 174) (L' := [some (.ref 0)]) (st' := [.int (t.1 t.2.2.2.toNatClampNeg)]) (w' := (cTp 0 t)) (by decide +kernel) rfl ⟨inB_use h_302, trivial⟩ ?_
        obtain ⟨r303, h_303, hf⟩ := bnd_s hf
        refine m_cS0 M (rest := []) (w2 := (cTp 0 t)) (st2 := [.int r303]) (run_X2_isDigit (t.1 t.2.2.2.toNatClampNeg)    h_303) cs_X2_isDigit lk_X2_124 (by decide +kernel) [] (by decide) ⟨Nat.le_of_ble_eq_true rfl, Nat.le_of_ble_eq_true rfl⟩ rfl rfl (Nat.le_of_ble_eq_true rfl) ⟨by decide, by decide⟩ rfl rfl ⟨Nat.zero_le _, Nat.zero_le _⟩ rfl rfl ?_
        rcases ite_s hf with ⟨c_304, hf⟩ | ⟨c_304, hf⟩
        · refine m_jT M (i := .ifCond .eq 16) 193 (by decide +kernel) rfl (by decide) c_304 ?_
          obtain rfl := Option.some.inj hf
          exact m_vret K (by decide +kernel) (Nat.zero_le _) (Nat.zero_le _) ⟨rfl, rfl⟩
        · refine m_jF M (i := .ifCond .eq 16) 193 (by decide +kernel) rfl (by decide) c_304 ?_
          refine m_run M (is := [(180, .aload_n 0, 0), (181, .dup, 0), (182, .getfield 19, 0), (185, .iconst 1, 1), (186, .iadd, 0), (187, .putfield 19, 0), (190, .goto (-36), 0)]) (pc' := 154) (L' := [some (.ref 0)]) (st' := []) (w' := (cTp 0 (t.1, t.2.1, t.2.2.1, (t.2.2.2 + 1)))) (by decide +kernel) rfl trivial ?_
          exact ih (t.1, t.2.1, t.2.2.1, (t.2.2.2 + 1)) hf
  have loop_0 : ∀ (n_ : Nat), (∀ (t : TpT), f_X2_goOn_L0  n_ t = some r → g 0 0 (cTp 0 t) 8 [some (.ref 0)] []) := by
    intro n_
    induction n_ with
    | zero => intro t hf; cases hf
    | succ n_ ih =>
      intro t hf
      rw [f_X2_goOn_L0] at hf
      refine m_run M (is := [(8, .aload_n 0, 0), (9, .getfield 29, 0), (12, .aload_n 0, 0), (13, .getfield 15, 0)]) (pc' := 16) (L' := [some (.ref 0)]) (st' := [.int t.2.1, .int t.2.2.1]) (w' := (cTp 0 t)) (by decide +kernel) rfl trivial ?_
      rcases ite_s hf with ⟨c_101, hf⟩ | ⟨c_101, hf⟩
      · refine m_jT M (i := .if_icmp .ge 30) 46 (by decide +kernel) rfl (by decide) c_101 ?_
        refine m_run M (is := [(46, .aload_n 0, 0), (47, .aload_n 0, 0), (48, .getfield 29, 0), (51, .iconst 1, 1), (52, .iadd, 0), (53, .aload_n 0, 0), (54, .getfield 15, 0)]) (pc' := 57) (L' := [some (.ref 0)]) (st' := [.int t.2.1, .int (t.2.2.1 + 1), .ref 0]) (w' := (cTp 0 t)) (by decide +kernel) rfl trivial ?_
        obtain ⟨r102, h_102, hf⟩ := bnd_s hf
        refine m_cS0 M (rest := [.ref 0]) (w2 := (cTp 0 t)) (st2 := [.int r102, .ref 0]) (run_J9_min_7cf53 (t.2.2.1 + 1) t.2.1    h_102) cs_J9_min_7cf53 lk_X2_116 (by decide +kernel) [] (by decide) ⟨Nat.le_of_ble_eq_true rfl, Nat.le_of_ble_eq_true rfl⟩ rfl rfl (Nat.le_of_ble_eq_true rfl) ⟨by decide, by decide⟩ rfl rfl ⟨Nat.zero_le _, Nat.zero_le _⟩ rfl rfl ?_
        refine m_run M (is := [(60, .putfield 19, 0), (63, .aload_n 0, 0), (64, .getfield 29, 0), (67, .aload_n 0, 0), (68, .getfield 15, 0)]) (pc' := 71) (L' := [some (.ref 0)]) (st' := [.int t.2.1, .int t.2.2.1]) (w' := (cTp 0 (t.1, t.2.1, t.2.2.1, r102))) (by decide +kernel) rfl trivial ?_
        rcases ite_s hf with ⟨c_103, hf⟩ | ⟨c_103, hf⟩
        · refine m_jT M (i := .if_icmp .ge 57) 128 (by decide +kernel) rfl (by decide) c_103 ?_
          refine m_run M (is := [(128, .aload_n 0, 0), (129, .getfield 29, 0), (132, .aload_n 0, 0), (133, .getfield 15, 0)]) (pc' := 136) (L' := [some (.ref 0)]) (st' := [.int t.2.1, .int t.2.2.1]) (w' := (cTp 0 (t.1, t.2.1, t.2.2.1, r102))) (by decide +kernel) rfl trivial ?_
          rcases ite_s hf with ⟨c_104, hf⟩ | ⟨c_104, hf⟩
          · refine m_jT M (i := .if_icmp .ge 57) 193 (by decide +kernel) rfl (by decide) c_104 ?_
            obtain rfl := Option.some.inj hf
            exact m_vret K (by decide +kernel) (Nat.zero_le _) (Nat.zero_le _) ⟨rfl, rfl⟩
          · refine m_jF M (i := .if_icmp .ge 57) 193 (by decide +kernel) rfl (by decide) c_104 ?_
            obtain ⟨h_105, hf⟩ := grd_s hf
            refine m_run M (is := [(139, .aload_n 0, 0), (140, .getfield 9, 0), (143, .aload_n 0, 0), (144, .getfield 29, 0), (147, .iaload, 0)]) (pc' := 148) (L' := [some (.ref 0)]) (st' := [.int (t.1 t.2.2.1.toNatClampNeg)]) (w' := (cTp 0 (t.1, t.2.1, t.2.2.1, r102))) (by decide +kernel) rfl ⟨inB_use h_105, trivial⟩ ?_
            obtain ⟨r106, h_106, hf⟩ := bnd_s hf
            refine m_cS0 M (rest := []) (w2 := (cTp 0 (t.1, t.2.1, t.2.2.1, r102))) (st2 := [.int r106]) (run_X2_isDigit (t.1 t.2.2.1.toNatClampNeg)    h_106) cs_X2_isDigit lk_X2_124 (by decide +kernel) [] (by decide) ⟨Nat.le_of_ble_eq_true rfl, Nat.le_of_ble_eq_true rfl⟩ rfl rfl (Nat.le_of_ble_eq_true rfl) ⟨by decide, by decide⟩ rfl rfl ⟨Nat.zero_le _, Nat.zero_le _⟩ rfl rfl ?_
            rcases ite_s hf with ⟨c_107, hf⟩ | ⟨c_107, hf⟩
            · refine m_jT M (i := .ifCond .eq 42) 193 (by decide +kernel) rfl (by decide) c_107 ?_
              obtain rfl := Option.some.inj hf
              exact m_vret K (by decide +kernel) (Nat.zero_le _) (Nat.zero_le _) ⟨rfl, rfl⟩
            · refine m_jF M (i := .ifCond .eq 42) 193 (by decide +kernel) rfl (by decide) c_107 ?_
              exact loop_2 fuel0 (t.1, t.2.1, t.2.2.1, r102) hf
        · refine m_jF M (i := .if_icmp .ge 57) 128 (by decide +kernel) rfl (by decide) c_103 ?_
          obtain ⟨h_108, hf⟩ := grd_s hf
          refine m_run M (is := [(74, .aload_n 0, 0), (75, .getfield 9, 0), (78, .aload_n 0, 0), (79, .getfield 29, 0), (82, .iaload, 0)]) (pc' := 83) (L' := [some (.ref 0)]) (st' := [.int (t.1 t.2.2.1.toNatClampNeg)]) (w' := (cTp 0 (t.1, t.2.1, t.2.2.1, r102))) (by decide +kernel) rfl ⟨inB_use h_108, trivial⟩ ?_
          obtain ⟨r109, h_109, hf⟩ := bnd_s hf
          refine m_cS0 M (rest := []) (w2 := (cTp 0 (t.1, t.2.1, t.2.2.1, r102))) (st2 := [.int r109]) (run_X2_isLetter (t.1 t.2.2.1.toNatClampNeg)    h_109) cs_X2_isLetter lk_X2_121 (by decide +kernel) [] (by decide) ⟨Nat.le_of_ble_eq_true rfl, Nat.le_of_ble_eq_true rfl⟩ rfl rfl (Nat.le_of_ble_eq_true rfl) ⟨by decide, by decide⟩ rfl rfl ⟨Nat.zero_le _, Nat.zero_le _⟩ rfl rfl ?_
          rcases ite_s hf with ⟨c_110, hf⟩ | ⟨c_110, hf⟩
          · refine m_jT M (i := .ifCond .eq 42) 128 (by decide +kernel) rfl (by decide) c_110 ?_
            refine m_run M (is := [(128, .aload_n 0, 0), (129, .getfield 29, 0), (132, .aload_n 0, 0), (133, .getfield 15, 0)]) (pc' := 136) (L' := [some (.ref 0)]) (st' := [.int t.2.1, .int t.2.2.1]) (w' := (cTp 0 (t.1, t.2.1, t.2.2.1, r102))) (by decide +kernel) rfl trivial ?_
            rcases ite_s hf with ⟨c_111, hf⟩ | ⟨c_111, hf⟩
            · refine m_jT M (i := .if_icmp .ge 57) 193 (by decide +kernel) rfl (by decide) c_111 ?_
              obtain rfl := Option.some.inj hf
              exact m_vret K (by decide +kernel) (Nat.zero_le _) (Nat.zero_le _) ⟨rfl, rfl⟩
            · refine m_jF M (i := .if_icmp .ge 57) 193 (by decide +kernel) rfl (by decide) c_111 ?_
              obtain ⟨h_112, hf⟩ := grd_s hf
              refine m_run M (is := [(139, .aload_n 0, 0), (140, .getfield 9, 0), (143, .aload_n 0, 0), (144, .getfield 29, 0), (147, .iaload, 0)]) (pc' := 148) (L' := [some (.ref 0)]) (st' := [.int (t.1 t.2.2.1.toNatClampNeg)]) (w' := (cTp 0 (t.1, t.2.1, t.2.2.1, r102))) (by decide +kernel) rfl ⟨inB_use h_112, trivial⟩ ?_
              obtain ⟨r113, h_113, hf⟩ := bnd_s hf
              refine m_cS0 M (rest := []) (w2 := (cTp 0 (t.1, t.2.1, t.2.2.1, r102))) (st2 := [.int r113]) (run_X2_isDigit (t.1 t.2.2.1.toNatClampNeg)    h_113) cs_X2_isDigit lk_X2_124 (by decide +kernel) [] (by decide) ⟨Nat.le_of_ble_eq_true rfl, Nat.le_of_ble_eq_true rfl⟩ rfl rfl (Nat.le_of_ble_eq_true rfl) ⟨by decide, by decide⟩ rfl rfl ⟨Nat.zero_le _, Nat.zero_le _⟩ rfl rfl ?_
              rcases ite_s hf with ⟨c_114, hf⟩ | ⟨c_114, hf⟩
              · refine m_jT M (i := .ifCond .eq 42) 193 (by decide +kernel) rfl (by decide) c_114 ?_
                obtain rfl := Option.some.inj hf
                exact m_vret K (by decide +kernel) (Nat.zero_le _) (Nat.zero_le _) ⟨rfl, rfl⟩
              · refine m_jF M (i := .ifCond .eq 42) 193 (by decide +kernel) rfl (by decide) c_114 ?_
                exact loop_2 fuel0 (t.1, t.2.1, t.2.2.1, r102) hf
          · refine m_jF M (i := .ifCond .eq 42) 128 (by decide +kernel) rfl (by decide) c_110 ?_
            exact loop_1 fuel0 (t.1, t.2.1, t.2.2.1, r102) hf
      · refine m_jF M (i := .if_icmp .ge 30) 46 (by decide +kernel) rfl (by decide) c_101 ?_
        obtain ⟨h_115, hf⟩ := grd_s hf
        refine m_run M (is := [(19, .aload_n 0, 0), (20, .getfield 9, 0), (23, .aload_n 0, 0), (24, .getfield 29, 0), (27, .iaload, 0), (28, .bipush 32, 32)]) (pc' := 30) (L' := [some (.ref 0)]) (st' := [.int 32, .int (t.1 t.2.2.1.toNatClampNeg)]) (w' := (cTp 0 t)) (by decide +kernel) rfl ⟨inB_use h_115, trivial⟩ ?_
        rcases ite_s hf with ⟨c_116, hf⟩ | ⟨c_116, hf⟩
        · refine m_jF M (i := .if_icmp .ne 16) 46 (by decide +kernel) rfl (by decide) (fun n => n c_116) ?_
          refine m_run M (is := [(33, .aload_n 0, 0), (34, .dup, 0), (35, .getfield 29, 0), (38, .iconst 1, 1), (39, .iadd, 0), (40, .putfield 29, 0), (43, .goto (-35), 0)]) (pc' := 8) (L' := [some (.ref 0)]) (st' := []) (w' := (cTp 0 (t.1, t.2.1, (t.2.2.1 + 1), t.2.2.2))) (by decide +kernel) rfl trivial ?_
          exact ih (t.1, t.2.1, (t.2.2.1 + 1), t.2.2.2) hf
        · refine m_jT M (i := .if_icmp .ne 16) 46 (by decide +kernel) rfl (by decide) c_116 ?_
          refine m_run M (is := [(46, .aload_n 0, 0), (47, .aload_n 0, 0), (48, .getfield 29, 0), (51, .iconst 1, 1), (52, .iadd, 0), (53, .aload_n 0, 0), (54, .getfield 15, 0)]) (pc' := 57) (L' := [some (.ref 0)]) (st' := [.int t.2.1, .int (t.2.2.1 + 1), .ref 0]) (w' := (cTp 0 t)) (by decide +kernel) rfl trivial ?_
          obtain ⟨r117, h_117, hf⟩ := bnd_s hf
          refine m_cS0 M (rest := [.ref 0]) (w2 := (cTp 0 t)) (st2 := [.int r117, .ref 0]) (run_J9_min_7cf53 (t.2.2.1 + 1) t.2.1    h_117) cs_J9_min_7cf53 lk_X2_116 (by decide +kernel) [] (by decide) ⟨Nat.le_of_ble_eq_true rfl, Nat.le_of_ble_eq_true rfl⟩ rfl rfl (Nat.le_of_ble_eq_true rfl) ⟨by decide, by decide⟩ rfl rfl ⟨Nat.zero_le _, Nat.zero_le _⟩ rfl rfl ?_
          refine m_run M (is := [(60, .putfield 19, 0), (63, .aload_n 0, 0), (64, .getfield 29, 0), (67, .aload_n 0, 0), (68, .getfield 15, 0)]) (pc' := 71) (L' := [some (.ref 0)]) (st' := [.int t.2.1, .int t.2.2.1]) (w' := (cTp 0 (t.1, t.2.1, t.2.2.1, r117))) (by decide +kernel) rfl trivial ?_
          rcases ite_s hf with ⟨c_118, hf⟩ | ⟨c_118, hf⟩
          · refine m_jT M (i := .if_icmp .ge 57) 128 (by decide +kernel) rfl (by decide) c_118 ?_
            refine m_run M (is := [(128, .aload_n 0, 0), (129, .getfield 29, 0), (132, .aload_n 0, 0), (133, .getfield 15, 0)]) (pc' := 136) (L' := [some (.ref 0)]) (st' := [.int t.2.1, .int t.2.2.1]) (w' := (cTp 0 (t.1, t.2.1, t.2.2.1, r117))) (by decide +kernel) rfl trivial ?_
            rcases ite_s hf with ⟨c_119, hf⟩ | ⟨c_119, hf⟩
            · refine m_jT M (i := .if_icmp .ge 57) 193 (by decide +kernel) rfl (by decide) c_119 ?_
              obtain rfl := Option.some.inj hf
              exact m_vret K (by decide +kernel) (Nat.zero_le _) (Nat.zero_le _) ⟨rfl, rfl⟩
            · refine m_jF M (i := .if_icmp .ge 57) 193 (by decide +kernel) rfl (by decide) c_119 ?_
              obtain ⟨h_120, hf⟩ := grd_s hf
              refine m_run M (is := [(139, .aload_n 0, 0), (140, .getfield 9, 0), (143, .aload_n 0, 0), (144, .getfield 29, 0), (147, .iaload, 0)]) (pc' := 148) (L' := [some (.ref 0)]) (st' := [.int (t.1 t.2.2.1.toNatClampNeg)]) (w' := (cTp 0 (t.1, t.2.1, t.2.2.1, r117))) (by decide +kernel) rfl ⟨inB_use h_120, trivial⟩ ?_
              obtain ⟨r121, h_121, hf⟩ := bnd_s hf
              refine m_cS0 M (rest := []) (w2 := (cTp 0 (t.1, t.2.1, t.2.2.1, r117))) (st2 := [.int r121]) (run_X2_isDigit (t.1 t.2.2.1.toNatClampNeg)    h_121) cs_X2_isDigit lk_X2_124 (by decide +kernel) [] (by decide) ⟨Nat.le_of_ble_eq_true rfl, Nat.le_of_ble_eq_true rfl⟩ rfl rfl (Nat.le_of_ble_eq_true rfl) ⟨by decide, by decide⟩ rfl rfl ⟨Nat.zero_le _, Nat.zero_le _⟩ rfl rfl ?_
              rcases ite_s hf with ⟨c_122, hf⟩ | ⟨c_122, hf⟩
              · refine m_jT M (i := .ifCond .eq 42) 193 (by decide +kernel) rfl (by decide) c_122 ?_
                obtain rfl := Option.some.inj hf
                exact m_vret K (by decide +kernel) (Nat.zero_le _) (Nat.zero_le _) ⟨rfl, rfl⟩
              · refine m_jF M (i := .ifCond .eq 42) 193 (by decide +kernel) rfl (by decide) c_122 ?_
                exact loop_2 fuel0 (t.1, t.2.1, t.2.2.1, r117) hf
          · refine m_jF M (i := .if_icmp .ge 57) 128 (by decide +kernel) rfl (by decide) c_118 ?_
            obtain ⟨h_123, hf⟩ := grd_s hf
            refine m_run M (is := [(74, .aload_n 0, 0), (75, .getfield 9, 0), (78, .aload_n 0, 0), (79, .getfield 29, 0), (82, .iaload, 0)]) (pc' := 83) (L' := [some (.ref 0)]) (st' := [.int (t.1 t.2.2.1.toNatClampNeg)]) (w' := (cTp 0 (t.1, t.2.1, t.2.2.1, r117))) (by decide +kernel) rfl ⟨inB_use h_123, trivial⟩ ?_
            obtain ⟨r124, h_124, hf⟩ := bnd_s hf
            refine m_cS0 M (rest := []) (w2 := (cTp 0 (t.1, t.2.1, t.2.2.1, r117))) (st2 := [.int r124]) (run_X2_isLetter (t.1 t.2.2.1.toNatClampNeg)    h_124) cs_X2_isLetter lk_X2_121 (by decide +kernel) [] (by decide) ⟨Nat.le_of_ble_eq_true rfl, Nat.le_of_ble_eq_true rfl⟩ rfl rfl (Nat.le_of_ble_eq_true rfl) ⟨by decide, by decide⟩ rfl rfl ⟨Nat.zero_le _, Nat.zero_le _⟩ rfl rfl ?_
            rcases ite_s hf with ⟨c_125, hf⟩ | ⟨c_125, hf⟩
            · refine m_jT M (i := .ifCond .eq 42) 128 (by decide +kernel) rfl (by decide) c_125 ?_
              refine m_run M (is := [(128, .aload_n 0, 0), (129, .getfield 29, 0), (132, .aload_n 0, 0), (133, .getfield 15, 0)]) (pc' := 136) (L' := [some (.ref 0)]) (st' := [.int t.2.1, .int t.2.2.1]) (w' := (cTp 0 (t.1, t.2.1, t.2.2.1, r117))) (by decide +kernel) rfl trivial ?_
              rcases ite_s hf with ⟨c_126, hf⟩ | ⟨c_126, hf⟩
              · refine m_jT M (i := .if_icmp .ge 57) 193 (by decide +kernel) rfl (by decide) c_126 ?_
                obtain rfl := Option.some.inj hf
                exact m_vret K (by decide +kernel) (Nat.zero_le _) (Nat.zero_le _) ⟨rfl, rfl⟩
              · refine m_jF M (i := .if_icmp .ge 57) 193 (by decide +kernel) rfl (by decide) c_126 ?_
                obtain ⟨h_127, hf⟩ := grd_s hf
                refine m_run M (is := [(139, .aload_n 0, 0), (140, .getfield 9, 0), (143, .aload_n 0, 0), (144, .getfield 29, 0), (147, .iaload, 0)]) (pc' := 148) (L' := [some (.ref 0)]) (st' := [.int (t.1 t.2.2.1.toNatClampNeg)]) (w' := (cTp 0 (t.1, t.2.1, t.2.2.1, r117))) (by decide +kernel) rfl ⟨inB_use h_127, trivial⟩ ?_
                obtain ⟨r128, h_128, hf⟩ := bnd_s hf
                refine m_cS0 M (rest := []) (w2 := (cTp 0 (t.1, t.2.1, t.2.2.1, r117))) (st2 := [.int r128]) (run_X2_isDigit (t.1 t.2.2.1.toNatClampNeg)    h_128) cs_X2_isDigit lk_X2_124 (by decide +kernel) [] (by decide) ⟨Nat.le_of_ble_eq_true rfl, Nat.le_of_ble_eq_true rfl⟩ rfl rfl (Nat.le_of_ble_eq_true rfl) ⟨by decide, by decide⟩ rfl rfl ⟨Nat.zero_le _, Nat.zero_le _⟩ rfl rfl ?_
                rcases ite_s hf with ⟨c_129, hf⟩ | ⟨c_129, hf⟩
                · refine m_jT M (i := .ifCond .eq 42) 193 (by decide +kernel) rfl (by decide) c_129 ?_
                  obtain rfl := Option.some.inj hf
                  exact m_vret K (by decide +kernel) (Nat.zero_le _) (Nat.zero_le _) ⟨rfl, rfl⟩
                · refine m_jF M (i := .ifCond .eq 42) 193 (by decide +kernel) rfl (by decide) c_129 ?_
                  exact loop_2 fuel0 (t.1, t.2.1, t.2.2.1, r117) hf
            · refine m_jF M (i := .ifCond .eq 42) 128 (by decide +kernel) rfl (by decide) c_125 ?_
              exact loop_1 fuel0 (t.1, t.2.1, t.2.2.1, r117) hf
  rw [f_X2_goOn] at hf
  refine m_run M (is := [(0, .aload_n 0, 0), (1, .aload_n 0, 0), (2, .getfield 19, 0), (5, .putfield 29, 0)]) (pc' := 8) (L' := [some (.ref 0)]) (st' := []) (w' := (cTp 0 (t.1, t.2.1, t.2.2.2, t.2.2.2))) (by decide +kernel) rfl trivial ?_
  exact loop_0 fuel0 (t.1, t.2.1, t.2.2.2, t.2.2.2) hf

def f_X2_numberInHand_L0 (t : TpT) : Nat → Int32 → Int32 → Option (Int32)
  | 0, _, _ => none
  | n_ + 1, v1, v2 =>
    if t.2.2.2 ≤ v2 then
      some v1
    else
      if inB v2 250 then
      f_X2_numberInHand_L0 t n_ (((10 * v1) + (t.1 v2.toNatClampNeg)) - 48) (v2 + 1)
      else none
def f_X2_numberInHand (t : TpT) : Option (Int32) :=
  if t.2.1 ≤ t.2.2.1 then
    some (-1)
  else
    if inB t.2.2.1 250 then
    (f_X2_isDigit (t.1 t.2.2.1.toNatClampNeg)).bind fun r1003 =>
    if r1003 = 0 then
      some (-1)
    else
      if (t.2.2.2 - t.2.2.1) ≤ 3 then
        f_X2_numberInHand_L0 t fuel0 0 t.2.2.1
      else
        some (-1)
    else none
set_option maxRecDepth 100000 in
set_option maxHeartbeats 4000000 in
theorem run_X2_numberInHand {l : Launch} {D : va_G} {cT : Nat → ClassId}    (t : TpT) {r : Int32} (hf : f_X2_numberInHand t = some r) : Runs l D cT yX2_numberInHand cX2_numberInHand 3 (some .int) 1 20 [.ref 0] (cTp 0 t) (EQ (some (.int r)) (cTp 0 t)) := by
  refine runs_of O_X2 okO_X2 (by decide +kernel) rfl rfl (Nat.le_of_ble_eq_true rfl) (Nat.le_of_ble_eq_true rfl) (fun g K => ?_)
  have M := K.b
  show g 0 0 (cTp 0 t) 0 [some (.ref 0), none, none] []
  have loop_0 : ∀ (n_ : Nat), (∀ (v1 : Int32) (v2 : Int32), f_X2_numberInHand_L0 t n_ v1 v2 = some r → g 0 0 (cTp 0 t) 48 [some (.ref 0), some (.int v1), some (.int v2)] []) := by
    intro n_
    induction n_ with
    | zero => intro v1 v2 hf; cases hf
    | succ n_ ih =>
      intro v1 v2 hf
      rw [f_X2_numberInHand_L0] at hf
      refine m_run M (is := [(48, .iload_n 2, 0), (49, .aload_n 0, 0), (50, .getfield 19, 0)]) (pc' := 53) (L' := [some (.ref 0), some (.int v1), some (.int v2)]) (st' := [.int t.2.2.2, .int v2]) (w' := (cTp 0 t)) (by decide +kernel) rfl trivial ?_
      rcases ite_s hf with ⟨c_101, hf⟩ | ⟨c_101, hf⟩
      · refine m_jT M (i := .if_icmp .ge 24) 77 (by decide +kernel) rfl (by decide) c_101 ?_
        refine m_run M (is := [(77, .iload_n 1, 0)]) (pc' := 78) (L' := [some (.ref 0), some (.int v1), some (.int v2)]) (st' := [.int v1]) (w' := (cTp 0 t)) (by decide +kernel) rfl trivial ?_
        obtain rfl := Option.some.inj hf
        exact m_iret K (by decide +kernel) (Nat.zero_le _) (Nat.zero_le _) ⟨rfl, rfl⟩
      · refine m_jF M (i := .if_icmp .ge 24) 77 (by decide +kernel) rfl (by decide) c_101 ?_
        obtain ⟨h_102, hf⟩ := grd_s hf
        refine m_run M (is := [(56, .bipush 10, 10), (58, .iload_n 1, 0), (59, .imul, 0), (60, .aload_n 0, 0), (61, .getfield 9, 0), (64, .iload_n 2, 0), (65, .iaload, 0), (66, .iadd, 0), (67, .bipush 48, 48), (69, .isub, 0), (70, .istore_n 1, 0), (71, .iinc 2 1, 1), (74, .goto (-26), 0)]) (pc' := 48) (L' := [some (.ref 0), some (.int (((10 * v1) + (t.1 v2.toNatClampNeg)) - 48)), some (.int (v2 + 1))]) (st' := []) (w' := (cTp 0 t)) (by decide +kernel) rfl ⟨inB_use h_102, trivial⟩ ?_
        exact ih (((10 * v1) + (t.1 v2.toNatClampNeg)) - 48) (v2 + 1) hf
  rw [f_X2_numberInHand] at hf
  refine m_run M (is := [(0, .aload_n 0, 0), (1, .getfield 29, 0), (4, .aload_n 0, 0), (5, .getfield 15, 0)]) (pc' := 8) (L' := [some (.ref 0), none, none]) (st' := [.int t.2.1, .int t.2.2.1]) (w' := (cTp 0 t)) (by decide +kernel) rfl trivial ?_
  rcases ite_s hf with ⟨c_1001, hf⟩ | ⟨c_1001, hf⟩
  · refine m_jT M (i := .if_icmp .ge 31) 39 (by decide +kernel) rfl (by decide) c_1001 ?_
    refine m_run M (is := [(39, .iconst (-1), -1)]) (pc' := 40) (L' := [some (.ref 0), none, none]) (st' := [.int (-1)]) (w' := (cTp 0 t)) (by decide +kernel) rfl trivial ?_
    obtain rfl := Option.some.inj hf
    exact m_iret K (by decide +kernel) (Nat.zero_le _) (Nat.zero_le _) ⟨rfl, rfl⟩
  · refine m_jF M (i := .if_icmp .ge 31) 39 (by decide +kernel) rfl (by decide) c_1001 ?_
    obtain ⟨h_1002, hf⟩ := grd_s hf
    refine m_run M (is := [(11, .aload_n 0, 0), (12, .getfield 9, 0), (15, .aload_n 0, 0), (16, .getfield 29, 0), (19, .iaload, 0)]) (pc' := 20) (L' := [some (.ref 0), none, none]) (st' := [.int (t.1 t.2.2.1.toNatClampNeg)]) (w' := (cTp 0 t)) (by decide +kernel) rfl ⟨inB_use h_1002, trivial⟩ ?_
    obtain ⟨r1003, h_1003, hf⟩ := bnd_s hf
    refine m_cS0 M (rest := []) (w2 := (cTp 0 t)) (st2 := [.int r1003]) (run_X2_isDigit (t.1 t.2.2.1.toNatClampNeg)    h_1003) cs_X2_isDigit lk_X2_124 (by decide +kernel) [] (by decide) ⟨Nat.le_of_ble_eq_true rfl, Nat.le_of_ble_eq_true rfl⟩ rfl rfl (Nat.le_of_ble_eq_true rfl) ⟨by decide, by decide⟩ rfl rfl ⟨Nat.zero_le _, Nat.zero_le _⟩ rfl rfl ?_
    rcases ite_s hf with ⟨c_1004, hf⟩ | ⟨c_1004, hf⟩
    · refine m_jT M (i := .ifCond .eq 16) 39 (by decide +kernel) rfl (by decide) c_1004 ?_
      refine m_run M (is := [(39, .iconst (-1), -1)]) (pc' := 40) (L' := [some (.ref 0), none, none]) (st' := [.int (-1)]) (w' := (cTp 0 t)) (by decide +kernel) rfl trivial ?_
      obtain rfl := Option.some.inj hf
      exact m_iret K (by decide +kernel) (Nat.zero_le _) (Nat.zero_le _) ⟨rfl, rfl⟩
    · refine m_jF M (i := .ifCond .eq 16) 39 (by decide +kernel) rfl (by decide) c_1004 ?_
      refine m_run M (is := [(26, .aload_n 0, 0), (27, .getfield 19, 0), (30, .aload_n 0, 0), (31, .getfield 29, 0), (34, .isub, 0), (35, .iconst 3, 3)]) (pc' := 36) (L' := [some (.ref 0), none, none]) (st' := [.int 3, .int (t.2.2.2 - t.2.2.1)]) (w' := (cTp 0 t)) (by decide +kernel) rfl trivial ?_
      rcases ite_s hf with ⟨c_1005, hf⟩ | ⟨c_1005, hf⟩
      · refine m_jT M (i := .if_icmp .le 5) 41 (by decide +kernel) rfl (by decide) c_1005 ?_
        refine m_run M (is := [(41, .iconst 0, 0), (42, .istore_n 1, 0), (43, .aload_n 0, 0), (44, .getfield 29, 0), (47, .istore_n 2, 0)]) (pc' := 48) (L' := [some (.ref 0), some (.int 0), some (.int t.2.2.1)]) (st' := []) (w' := (cTp 0 t)) (by decide +kernel) rfl trivial ?_
        exact loop_0 fuel0 0 t.2.2.1 hf
      · refine m_jF M (i := .if_icmp .le 5) 41 (by decide +kernel) rfl (by decide) c_1005 ?_
        refine m_run M (is := [(39, .iconst (-1), -1)]) (pc' := 40) (L' := [some (.ref 0), none, none]) (st' := [.int (-1)]) (w' := (cTp 0 t)) (by decide +kernel) rfl trivial ?_
        obtain rfl := Option.some.inj hf
        exact m_iret K (by decide +kernel) (Nat.zero_le _) (Nat.zero_le _) ⟨rfl, rfl⟩

def f_X2_number (a0 : Int32) (a1 : Int32) (t : TpT) : Option (Int32 × TpT) :=
  (f_X2_goOn t).bind fun r1001 =>
  (f_X2_numberInHand r1001).bind fun r1002 =>
  if r1002 < a0 then
    some ((-1), r1001)
  else
    if a1 < r1002 then
      some ((-1), r1001)
    else
      some (r1002, r1001)
set_option maxRecDepth 100000 in
set_option maxHeartbeats 4000000 in
theorem run_X2_number {l : Launch} {D : va_G} {cT : Nat → ClassId} (a0 : Int32) (a1 : Int32)   (t : TpT) {r : Int32 × TpT} (hf : f_X2_number a0 a1 t = some r) : Runs l D cT yX2_number cX2_number 4 (some .int) 2 42 [.ref 0, .int a0, .int a1] (cTp 0 t) (EQ (some (.int r.1)) (cTp 0 r.2)) := by
  refine runs_of O_X2 okO_X2 (by decide +kernel) rfl rfl (Nat.le_of_ble_eq_true rfl) (Nat.le_of_ble_eq_true rfl) (fun g K => ?_)
  have M := K.b
  show g 0 0 (cTp 0 t) 0 [some (.ref 0), some (.int a0), some (.int a1), none] []
  rw [f_X2_number] at hf
  refine m_run M (is := [(0, .aload_n 0, 0)]) (pc' := 1) (L' := [some (.ref 0), some (.int a0), some (.int a1), none]) (st' := [.ref 0]) (w' := (cTp 0 t)) (by decide +kernel) rfl trivial ?_
  obtain ⟨r1001, h_1001, hf⟩ := bnd_s hf
  refine m_cV0 M (rest := []) (w2 := (cTp 0 r1001)) (st2 := []) (run_X2_goOn    t h_1001) cv_X2_goOn lk_X2_22 (by decide +kernel) [0, 1] (by decide) ⟨Nat.le_of_ble_eq_true rfl, Nat.le_of_ble_eq_true rfl⟩ rfl rfl rfl (Nat.le_of_ble_eq_true rfl) ⟨by decide, by decide⟩ rfl rfl ⟨Nat.zero_le _, Nat.zero_le _⟩ rfl rfl ?_
  refine m_run M (is := [(4, .aload_n 0, 0)]) (pc' := 5) (L' := [some (.ref 0), some (.int a0), some (.int a1), none]) (st' := [.ref 0]) (w' := (cTp 0 r1001)) (by decide +kernel) rfl trivial ?_
  obtain ⟨r1002, h_1002, hf⟩ := bnd_s hf
  refine m_cV0 M (rest := []) (w2 := (cTp 0 r1001)) (st2 := [.int r1002]) (run_X2_numberInHand    r1001 h_1002) cv_X2_numberInHand lk_X2_136 (by decide +kernel) [0, 1] (by decide) ⟨Nat.le_of_ble_eq_true rfl, Nat.le_of_ble_eq_true rfl⟩ rfl rfl rfl (Nat.le_of_ble_eq_true rfl) ⟨by decide, by decide⟩ rfl rfl ⟨Nat.zero_le _, Nat.zero_le _⟩ rfl rfl ?_
  refine m_run M (is := [(8, .istore_n 3, 0), (9, .iload_n 3, 0), (10, .iload_n 1, 0)]) (pc' := 11) (L' := [some (.ref 0), some (.int a0), some (.int a1), some (.int r1002)]) (st' := [.int a0, .int r1002]) (w' := (cTp 0 r1001)) (by decide +kernel) rfl trivial ?_
  rcases ite_s hf with ⟨c_1003, hf⟩ | ⟨c_1003, hf⟩
  · refine m_jT M (i := .if_icmp .lt 12) 23 (by decide +kernel) rfl (by decide) c_1003 ?_
    refine m_run M (is := [(23, .iconst (-1), -1)]) (pc' := 24) (L' := [some (.ref 0), some (.int a0), some (.int a1), some (.int r1002)]) (st' := [.int (-1)]) (w' := (cTp 0 r1001)) (by decide +kernel) rfl trivial ?_
    obtain rfl := Option.some.inj hf
    exact m_iret K (by decide +kernel) (Nat.zero_le _) (Nat.zero_le _) ⟨rfl, rfl⟩
  · refine m_jF M (i := .if_icmp .lt 12) 23 (by decide +kernel) rfl (by decide) c_1003 ?_
    refine m_run M (is := [(14, .iload_n 3, 0), (15, .iload_n 2, 0)]) (pc' := 16) (L' := [some (.ref 0), some (.int a0), some (.int a1), some (.int r1002)]) (st' := [.int a1, .int r1002]) (w' := (cTp 0 r1001)) (by decide +kernel) rfl trivial ?_
    rcases ite_s hf with ⟨c_1004, hf⟩ | ⟨c_1004, hf⟩
    · refine m_jT M (i := .if_icmp .gt 7) 23 (by decide +kernel) rfl (by decide) c_1004 ?_
      refine m_run M (is := [(23, .iconst (-1), -1)]) (pc' := 24) (L' := [some (.ref 0), some (.int a0), some (.int a1), some (.int r1002)]) (st' := [.int (-1)]) (w' := (cTp 0 r1001)) (by decide +kernel) rfl trivial ?_
      obtain rfl := Option.some.inj hf
      exact m_iret K (by decide +kernel) (Nat.zero_le _) (Nat.zero_le _) ⟨rfl, rfl⟩
    · refine m_jF M (i := .if_icmp .gt 7) 23 (by decide +kernel) rfl (by decide) c_1004 ?_
      refine m_run M (is := [(19, .iload_n 3, 0), (20, .goto 4, 0)]) (pc' := 24) (L' := [some (.ref 0), some (.int a0), some (.int a1), some (.int r1002)]) (st' := [.int r1002]) (w' := (cTp 0 r1001)) (by decide +kernel) rfl trivial ?_
      obtain rfl := Option.some.inj hf
      exact m_iret K (by decide +kernel) (Nat.zero_le _) (Nat.zero_le _) ⟨rfl, rfl⟩

def f_X2_isWord_L0 (i : Nat) (t : TpT) : Nat → Int32 → Option (Int32)
  | 0, _ => none
  | n_ + 1, v2 =>
    if (Int32.ofNat (lnS i)) ≤ v2 then
      some 1
    else
      if t.2.1 ≤ (t.2.2.1 + v2) then
        some 1
      else
        if inB (t.2.2.1 + v2) 250 then
        if inB v2 (lnS i) then
        if (t.1 (t.2.2.1 + v2).toNatClampNeg) = (chS i v2) then
          f_X2_isWord_L0 i t n_ (v2 + 1)
        else
          some 0
        else none
        else none
def f_X2_isWord (i : Nat) (t : TpT) : Option (Int32) :=
  if (t.2.2.2 - t.2.2.1) = (Int32.ofNat (lnS i)) then
    f_X2_isWord_L0 i t fuel0 0
  else
    some 0
set_option maxRecDepth 100000 in
set_option maxHeartbeats 4000000 in
theorem run_X2_isWord {l : Launch} {D : va_G} {cT : Nat → ClassId}  (i : Nat) (hi : i < 14) (t : TpT) {r : Int32} (hf : f_X2_isWord i t = some r) : Runs l D cT yX2_isWord cX2_isWord 3 (some .boolean) 4 85 [.ref 0, .ref (1000 + i)] (cTp 0 t) (EQ (some (.int r)) (cTp 0 t)) := by
  refine runs_of O_X2 okO_X2 (by decide +kernel) rfl rfl (Nat.le_of_ble_eq_true rfl) (Nat.le_of_ble_eq_true rfl) (fun g K => ?_)
  have M := K.b
  show g 0 0 (cTp 0 t) 0 [some (.ref 0), some (.ref (1000 + i)), none] []
  have loop_0 : ∀ (n_ : Nat), (∀ (v2 : Int32), f_X2_isWord_L0 i t n_ v2 = some r → g 0 0 (cTp 0 t) 20 [some (.ref 0), some (.ref (1000 + i)), some (.int v2)] []) := by
    intro n_
    induction n_ with
    | zero => intro v2 hf; cases hf
    | succ n_ ih =>
      intro v2 hf
      rw [f_X2_isWord_L0] at hf
      refine m_run M (is := [(20, .iload_n 2, 0), (21, .aload_n 1, 0)]) (pc' := 22) (L' := [some (.ref 0), some (.ref (1000 + i)), some (.int v2)]) (st' := [.ref (1000 + i), .int v2]) (w' := (cTp 0 t)) (by decide +kernel) rfl trivial ?_
      refine m_cW (xs := []) (rest := [.int v2]) M (run_length hi) hi cw_length wl_len2 (by decide +kernel) (Nat.le_of_ble_eq_true rfl) (Nat.le_of_ble_eq_true rfl) ⟨by decide, by decide⟩ ⟨Nat.zero_le _, Nat.zero_le _⟩ rfl ?_
      rcases ite_s hf with ⟨c_101, hf⟩ | ⟨c_101, hf⟩
      · refine m_jT M (i := .if_icmp .ge 43) 68 (by decide +kernel) rfl (by decide) c_101 ?_
        refine m_run M (is := [(68, .iconst 1, 1)]) (pc' := 69) (L' := [some (.ref 0), some (.ref (1000 + i)), some (.int v2)]) (st' := [.int 1]) (w' := (cTp 0 t)) (by decide +kernel) rfl trivial ?_
        obtain rfl := Option.some.inj hf
        exact m_zret K (by decide +kernel) (Or.inr rfl) (Nat.zero_le _) (Nat.zero_le _) ⟨rfl, rfl⟩
      · refine m_jF M (i := .if_icmp .ge 43) 68 (by decide +kernel) rfl (by decide) c_101 ?_
        refine m_run M (is := [(28, .aload_n 0, 0), (29, .getfield 29, 0), (32, .iload_n 2, 0), (33, .iadd, 0), (34, .aload_n 0, 0), (35, .getfield 15, 0)]) (pc' := 38) (L' := [some (.ref 0), some (.ref (1000 + i)), some (.int v2)]) (st' := [.int t.2.1, .int (t.2.2.1 + v2)]) (w' := (cTp 0 t)) (by decide +kernel) rfl trivial ?_
        rcases ite_s hf with ⟨c_102, hf⟩ | ⟨c_102, hf⟩
        · refine m_jT M (i := .if_icmp .ge 30) 68 (by decide +kernel) rfl (by decide) c_102 ?_
          refine m_run M (is := [(68, .iconst 1, 1)]) (pc' := 69) (L' := [some (.ref 0), some (.ref (1000 + i)), some (.int v2)]) (st' := [.int 1]) (w' := (cTp 0 t)) (by decide +kernel) rfl trivial ?_
          obtain rfl := Option.some.inj hf
          exact m_zret K (by decide +kernel) (Or.inr rfl) (Nat.zero_le _) (Nat.zero_le _) ⟨rfl, rfl⟩
        · refine m_jF M (i := .if_icmp .ge 30) 68 (by decide +kernel) rfl (by decide) c_102 ?_
          obtain ⟨h_103, hf⟩ := grd_s hf
          refine m_run M (is := [(41, .aload_n 0, 0), (42, .getfield 9, 0), (45, .aload_n 0, 0), (46, .getfield 29, 0), (49, .iload_n 2, 0), (50, .iadd, 0), (51, .iaload, 0), (52, .aload_n 1, 0), (53, .iload_n 2, 0)]) (pc' := 54) (L' := [some (.ref 0), some (.ref (1000 + i)), some (.int v2)]) (st' := [.int v2, .ref (1000 + i), .int (t.1 (t.2.2.1 + v2).toNatClampNeg)]) (w' := (cTp 0 t)) (by decide +kernel) rfl ⟨inB_use h_103, trivial⟩ ?_
          obtain ⟨h_104, hf⟩ := grd_s hf
          refine m_cW (xs := [v2]) (rest := [.int (t.1 (t.2.2.1 + v2).toNatClampNeg)]) M (run_charAt hi (fun c => inB_use h_104 (Or.inl c)) (in_lt hi (inB_use h_104)) (inB_use h_104)) hi cw_charAt wl_ch2 (by decide +kernel) (Nat.le_of_ble_eq_true rfl) (Nat.le_of_ble_eq_true rfl) ⟨by decide, by decide⟩ ⟨Nat.zero_le _, Nat.zero_le _⟩ rfl ?_
          rcases ite_s hf with ⟨c_105, hf⟩ | ⟨c_105, hf⟩
          · refine m_jT M (i := .if_icmp .eq 5) 62 (by decide +kernel) rfl (by decide) c_105 ?_
            refine m_run M (is := [(62, .iinc 2 1, 1), (65, .goto (-45), 0)]) (pc' := 20) (L' := [some (.ref 0), some (.ref (1000 + i)), some (.int (v2 + 1))]) (st' := []) (w' := (cTp 0 t)) (by decide +kernel) rfl trivial ?_
            exact ih (v2 + 1) hf
          · refine m_jF M (i := .if_icmp .eq 5) 62 (by decide +kernel) rfl (by decide) c_105 ?_
            refine m_run M (is := [(60, .iconst 0, 0)]) (pc' := 61) (L' := [some (.ref 0), some (.ref (1000 + i)), some (.int v2)]) (st' := [.int 0]) (w' := (cTp 0 t)) (by decide +kernel) rfl trivial ?_
            obtain rfl := Option.some.inj hf
            exact m_zret K (by decide +kernel) (Or.inl rfl) (Nat.zero_le _) (Nat.zero_le _) ⟨rfl, rfl⟩
  rw [f_X2_isWord] at hf
  refine m_run M (is := [(0, .aload_n 0, 0), (1, .getfield 19, 0), (4, .aload_n 0, 0), (5, .getfield 29, 0), (8, .isub, 0), (9, .aload_n 1, 0)]) (pc' := 10) (L' := [some (.ref 0), some (.ref (1000 + i)), none]) (st' := [.ref (1000 + i), .int (t.2.2.2 - t.2.2.1)]) (w' := (cTp 0 t)) (by decide +kernel) rfl trivial ?_
  refine m_cW (xs := []) (rest := [.int (t.2.2.2 - t.2.2.1)]) M (run_length hi) hi cw_length wl_len2 (by decide +kernel) (Nat.le_of_ble_eq_true rfl) (Nat.le_of_ble_eq_true rfl) ⟨by decide, by decide⟩ ⟨Nat.zero_le _, Nat.zero_le _⟩ rfl ?_
  rcases ite_s hf with ⟨c_1001, hf⟩ | ⟨c_1001, hf⟩
  · refine m_jT M (i := .if_icmp .eq 5) 18 (by decide +kernel) rfl (by decide) c_1001 ?_
    refine m_run M (is := [(18, .iconst 0, 0), (19, .istore_n 2, 0)]) (pc' := 20) (L' := [some (.ref 0), some (.ref (1000 + i)), some (.int 0)]) (st' := []) (w' := (cTp 0 t)) (by decide +kernel) rfl trivial ?_
    exact loop_0 fuel0 0 hf
  · refine m_jF M (i := .if_icmp .eq 5) 18 (by decide +kernel) rfl (by decide) c_1001 ?_
    refine m_run M (is := [(16, .iconst 0, 0)]) (pc' := 17) (L' := [some (.ref 0), some (.ref (1000 + i)), none]) (st' := [.int 0]) (w' := (cTp 0 t)) (by decide +kernel) rfl trivial ?_
    obtain rfl := Option.some.inj hf
    exact m_zret K (by decide +kernel) (Or.inl rfl) (Nat.zero_le _) (Nat.zero_le _) ⟨rfl, rfl⟩

def f_X2_readPeople_L0 (v2 : Int32) : Nat → Int32 → TpT → ShT → Option (Int32 × TpT × ShT)
  | 0, _, _, _ => none
  | n_ + 1, v3, t, s =>
    if v2 ≤ v3 then
      if v2 = (-1) then
        some (0, t, s)
      else
        some (1, t, s)
    else
      (f_X1_add s).bind fun r103 =>
      f_X2_readPeople_L0 v2 n_ (v3 + 1) t r103.2
def f_X2_readPeople (t : TpT) (s : ShT) : Option (Int32 × TpT × ShT) :=
  (f_X2_number 1 (16 - s.2.2.2.2.2.1) t).bind fun r1001 =>
  f_X2_readPeople_L0 r1001.1 fuel0 0 r1001.2 s
set_option maxRecDepth 100000 in
set_option maxHeartbeats 4000000 in
theorem run_X2_readPeople {l : Launch} {D : va_G} {cT : Nat → ClassId}    (t : TpT) (s : ShT) {r : Int32 × TpT × ShT} (hf : f_X2_readPeople t s = some r) : Runs l D cT yX2_readPeople cX2_readPeople 4 (some .boolean) 3 65 [.ref 0, .ref 2] ((cTp 0 t) ++ (cSh 2 s)) (EQ (some (.int r.1)) ((cTp 0 r.2.1) ++ (cSh 2 r.2.2))) := by
  refine runs_of O_X2 okO_X2 (by decide +kernel) rfl rfl (Nat.le_of_ble_eq_true rfl) (Nat.le_of_ble_eq_true rfl) (fun g K => ?_)
  have M := K.b
  show g 0 0 ((cTp 0 t) ++ (cSh 2 s)) 0 [some (.ref 0), some (.ref 2), none, none] []
  have loop_0 : ∀ (v2 : Int32) (n_ : Nat), (∀ (v3 : Int32) (t : TpT) (s : ShT), f_X2_readPeople_L0 v2 n_ v3 t s = some r → g 0 0 ((cTp 0 t) ++ (cSh 2 s)) 15 [none, some (.ref 2), some (.int v2), some (.int v3)] []) := by
    intro v2 n_
    induction n_ with
    | zero => intro v3 t s hf; cases hf
    | succ n_ ih =>
      intro v3 t s hf
      rw [f_X2_readPeople_L0] at hf
      refine m_run M (is := [(15, .iload_n 3, 0), (16, .iload_n 2, 0)]) (pc' := 17) (L' := [none, some (.ref 2), some (.int v2), some (.int v3)]) (st' := [.int v2, .int v3]) (w' := ((cTp 0 t) ++ (cSh 2 s))) (by decide +kernel) rfl trivial ?_
      rcases ite_s hf with ⟨c_101, hf⟩ | ⟨c_101, hf⟩
      · refine m_jT M (i := .if_icmp .ge 14) 31 (by decide +kernel) rfl (by decide) c_101 ?_
        refine m_run M (is := [(31, .iload_n 2, 0), (32, .iconst (-1), -1)]) (pc' := 33) (L' := [none, some (.ref 2), some (.int v2), some (.int v3)]) (st' := [.int (-1), .int v2]) (w' := ((cTp 0 t) ++ (cSh 2 s))) (by decide +kernel) rfl trivial ?_
        rcases ite_s hf with ⟨c_102, hf⟩ | ⟨c_102, hf⟩
        · refine m_jT M (i := .if_icmp .eq 7) 40 (by decide +kernel) rfl (by decide) c_102 ?_
          refine m_run M (is := [(40, .iconst 0, 0)]) (pc' := 41) (L' := [none, some (.ref 2), some (.int v2), some (.int v3)]) (st' := [.int 0]) (w' := ((cTp 0 t) ++ (cSh 2 s))) (by decide +kernel) rfl trivial ?_
          obtain rfl := Option.some.inj hf
          exact m_zret K (by decide +kernel) (Or.inl rfl) (Nat.zero_le _) (Nat.zero_le _) ⟨rfl, rfl⟩
        · refine m_jF M (i := .if_icmp .eq 7) 40 (by decide +kernel) rfl (by decide) c_102 ?_
          refine m_run M (is := [(36, .iconst 1, 1), (37, .goto 4, 0)]) (pc' := 41) (L' := [none, some (.ref 2), some (.int v2), some (.int v3)]) (st' := [.int 1]) (w' := ((cTp 0 t) ++ (cSh 2 s))) (by decide +kernel) rfl trivial ?_
          obtain rfl := Option.some.inj hf
          exact m_zret K (by decide +kernel) (Or.inr rfl) (Nat.zero_le _) (Nat.zero_le _) ⟨rfl, rfl⟩
      · refine m_jF M (i := .if_icmp .ge 14) 31 (by decide +kernel) rfl (by decide) c_101 ?_
        refine m_run M (is := [(20, .aload_n 1, 0)]) (pc' := 21) (L' := [none, some (.ref 2), some (.int v2), some (.int v3)]) (st' := [.ref 2]) (w' := ((cTp 0 t) ++ (cSh 2 s))) (by decide +kernel) rfl trivial ?_
        obtain ⟨r103, h_103, hf⟩ := bnd_s hf
        refine m_cV0 M (rest := []) (w2 := ((cTp 0 t) ++ (cSh 2 r103.2))) (st2 := [.int r103.1]) (run_X1_add    s h_103) cv_X1_add lk_X2_83 (by decide +kernel) [2, 3, 4, 5, 6, 7] (by decide) ⟨Nat.le_of_ble_eq_true rfl, Nat.le_of_ble_eq_true rfl⟩ rfl rfl rfl (Nat.le_of_ble_eq_true rfl) ⟨by decide, by decide⟩ rfl rfl ⟨Nat.zero_le _, Nat.zero_le _⟩ rfl rfl ?_
        refine m_run M (is := [(24, .pop, 0), (25, .iinc 3 1, 1), (28, .goto (-13), 0)]) (pc' := 15) (L' := [none, some (.ref 2), some (.int v2), some (.int (v3 + 1))]) (st' := []) (w' := ((cTp 0 t) ++ (cSh 2 r103.2))) (by decide +kernel) rfl trivial ?_
        exact ih (v3 + 1) t r103.2 hf
  rw [f_X2_readPeople] at hf
  refine m_run M (is := [(0, .aload_n 0, 0), (1, .iconst 1, 1), (2, .bipush 16, 16), (4, .aload_n 1, 0), (5, .getfield 77, 0), (8, .isub, 0)]) (pc' := 9) (L' := [some (.ref 0), some (.ref 2), none, none]) (st' := [.int (16 - s.2.2.2.2.2.1), .int 1, .ref 0]) (w' := ((cTp 0 t) ++ (cSh 2 s))) (by decide +kernel) rfl trivial ?_
  obtain ⟨r1001, h_1001, hf⟩ := bnd_s hf
  refine m_cV0 M (rest := []) (w2 := ((cTp 0 r1001.2) ++ (cSh 2 s))) (st2 := [.int r1001.1]) (run_X2_number 1 (16 - s.2.2.2.2.2.1)   t h_1001) cv_X2_number lk_X2_79 (by decide +kernel) [0, 1] (by decide) ⟨Nat.le_of_ble_eq_true rfl, Nat.le_of_ble_eq_true rfl⟩ rfl rfl rfl (Nat.le_of_ble_eq_true rfl) ⟨by decide, by decide⟩ rfl rfl ⟨Nat.zero_le _, Nat.zero_le _⟩ rfl rfl ?_
  refine m_run M (is := [(12, .istore_n 2, 0), (13, .iconst 0, 0), (14, .istore_n 3, 0)]) (pc' := 15) (L' := [some (.ref 0), some (.ref 2), some (.int r1001.1), some (.int 0)]) (st' := []) (w' := ((cTp 0 r1001.2) ++ (cSh 2 s))) (by decide +kernel) rfl trivial ?_
  refine m_wk M [none, some (.ref 2), some (.int r1001.1), some (.int 0)] ⟨Or.inl rfl, Or.inr rfl, Or.inr rfl, Or.inr rfl, trivial⟩ ?_
  exact loop_0 r1001.1 fuel0 0 r1001.2 s hf

def f_X2_readLaw (t : TpT) (s : ShT) : Option (Int32 × TpT × ShT) :=
  (f_X2_number 0 5 t).bind fun r1001 =>
  if r1001.1 = (-1) then
    some (0, r1001.2, s)
  else
    (f_X2_number 0 15 r1001.2).bind fun r1003 =>
    if r1003.1 = (-1) then
      some (0, r1003.2, s)
    else
      (f_X1_addLaw r1001.1 r1003.1 s).bind fun r1005 =>
      if r1005.1 = (-1) then
        some (0, r1003.2, r1005.2)
      else
        some (1, r1003.2, r1005.2)
set_option maxRecDepth 100000 in
set_option maxHeartbeats 4000000 in
theorem run_X2_readLaw {l : Launch} {D : va_G} {cT : Nat → ClassId}    (t : TpT) (s : ShT) {r : Int32 × TpT × ShT} (hf : f_X2_readLaw t s = some r) : Runs l D cT yX2_readLaw cX2_readLaw 4 (some .boolean) 3 65 [.ref 0, .ref 2] ((cTp 0 t) ++ (cSh 2 s)) (EQ (some (.int r.1)) ((cTp 0 r.2.1) ++ (cSh 2 r.2.2))) := by
  refine runs_of O_X2 okO_X2 (by decide +kernel) rfl rfl (Nat.le_of_ble_eq_true rfl) (Nat.le_of_ble_eq_true rfl) (fun g K => ?_)
  have M := K.b
  show g 0 0 ((cTp 0 t) ++ (cSh 2 s)) 0 [some (.ref 0), some (.ref 2), none, none] []
  rw [f_X2_readLaw] at hf
  refine m_run M (is := [(0, .aload_n 0, 0), (1, .iconst 0, 0), (2, .iconst 5, 5)]) (pc' := 3) (L' := [some (.ref 0), some (.ref 2), none, none]) (st' := [.int 5, .int 0, .ref 0]) (w' := ((cTp 0 t) ++ (cSh 2 s))) (by decide +kernel) rfl trivial ?_
  obtain ⟨r1001, h_1001, hf⟩ := bnd_s hf
  refine m_cV0 M (rest := []) (w2 := ((cTp 0 r1001.2) ++ (cSh 2 s))) (st2 := [.int r1001.1]) (run_X2_number 0 5   t h_1001) cv_X2_number lk_X2_79 (by decide +kernel) [0, 1] (by decide) ⟨Nat.le_of_ble_eq_true rfl, Nat.le_of_ble_eq_true rfl⟩ rfl rfl rfl (Nat.le_of_ble_eq_true rfl) ⟨by decide, by decide⟩ rfl rfl ⟨Nat.zero_le _, Nat.zero_le _⟩ rfl rfl ?_
  refine m_run M (is := [(6, .istore_n 2, 0), (7, .iload_n 2, 0), (8, .iconst (-1), -1)]) (pc' := 9) (L' := [some (.ref 0), some (.ref 2), some (.int r1001.1), none]) (st' := [.int (-1), .int r1001.1]) (w' := ((cTp 0 r1001.2) ++ (cSh 2 s))) (by decide +kernel) rfl trivial ?_
  rcases ite_s hf with ⟨c_1002, hf⟩ | ⟨c_1002, hf⟩
  · refine m_jF M (i := .if_icmp .ne 5) 14 (by decide +kernel) rfl (by decide) (fun n => n c_1002) ?_
    refine m_run M (is := [(12, .iconst 0, 0)]) (pc' := 13) (L' := [some (.ref 0), some (.ref 2), some (.int r1001.1), none]) (st' := [.int 0]) (w' := ((cTp 0 r1001.2) ++ (cSh 2 s))) (by decide +kernel) rfl trivial ?_
    obtain rfl := Option.some.inj hf
    exact m_zret K (by decide +kernel) (Or.inl rfl) (Nat.zero_le _) (Nat.zero_le _) ⟨rfl, rfl⟩
  · refine m_jT M (i := .if_icmp .ne 5) 14 (by decide +kernel) rfl (by decide) c_1002 ?_
    refine m_run M (is := [(14, .aload_n 0, 0), (15, .iconst 0, 0), (16, .bipush 15, 15)]) (pc' := 18) (L' := [some (.ref 0), some (.ref 2), some (.int r1001.1), none]) (st' := [.int 15, .int 0, .ref 0]) (w' := ((cTp 0 r1001.2) ++ (cSh 2 s))) (by decide +kernel) rfl trivial ?_
    obtain ⟨r1003, h_1003, hf⟩ := bnd_s hf
    refine m_cV0 M (rest := []) (w2 := ((cTp 0 r1003.2) ++ (cSh 2 s))) (st2 := [.int r1003.1]) (run_X2_number 0 15   r1001.2 h_1003) cv_X2_number lk_X2_79 (by decide +kernel) [0, 1] (by decide) ⟨Nat.le_of_ble_eq_true rfl, Nat.le_of_ble_eq_true rfl⟩ rfl rfl rfl (Nat.le_of_ble_eq_true rfl) ⟨by decide, by decide⟩ rfl rfl ⟨Nat.zero_le _, Nat.zero_le _⟩ rfl rfl ?_
    refine m_run M (is := [(21, .istore_n 3, 0), (22, .iload_n 3, 0), (23, .iconst (-1), -1)]) (pc' := 24) (L' := [some (.ref 0), some (.ref 2), some (.int r1001.1), some (.int r1003.1)]) (st' := [.int (-1), .int r1003.1]) (w' := ((cTp 0 r1003.2) ++ (cSh 2 s))) (by decide +kernel) rfl trivial ?_
    rcases ite_s hf with ⟨c_1004, hf⟩ | ⟨c_1004, hf⟩
    · refine m_jT M (i := .if_icmp .eq 17) 41 (by decide +kernel) rfl (by decide) c_1004 ?_
      refine m_run M (is := [(41, .iconst 0, 0)]) (pc' := 42) (L' := [some (.ref 0), some (.ref 2), some (.int r1001.1), some (.int r1003.1)]) (st' := [.int 0]) (w' := ((cTp 0 r1003.2) ++ (cSh 2 s))) (by decide +kernel) rfl trivial ?_
      obtain rfl := Option.some.inj hf
      exact m_zret K (by decide +kernel) (Or.inl rfl) (Nat.zero_le _) (Nat.zero_le _) ⟨rfl, rfl⟩
    · refine m_jF M (i := .if_icmp .eq 17) 41 (by decide +kernel) rfl (by decide) c_1004 ?_
      refine m_run M (is := [(27, .aload_n 1, 0), (28, .iload_n 2, 0), (29, .iload_n 3, 0)]) (pc' := 30) (L' := [some (.ref 0), some (.ref 2), some (.int r1001.1), some (.int r1003.1)]) (st' := [.int r1003.1, .int r1001.1, .ref 2]) (w' := ((cTp 0 r1003.2) ++ (cSh 2 s))) (by decide +kernel) rfl trivial ?_
      obtain ⟨r1005, h_1005, hf⟩ := bnd_s hf
      refine m_cV0 M (rest := []) (w2 := ((cTp 0 r1003.2) ++ (cSh 2 r1005.2))) (st2 := [.int r1005.1]) (run_X1_addLaw r1001.1 r1003.1   s h_1005) cv_X1_addLaw lk_X2_87 (by decide +kernel) [2, 3, 4, 5, 6, 7] (by decide) ⟨Nat.le_of_ble_eq_true rfl, Nat.le_of_ble_eq_true rfl⟩ rfl rfl rfl (Nat.le_of_ble_eq_true rfl) ⟨by decide, by decide⟩ rfl rfl ⟨Nat.zero_le _, Nat.zero_le _⟩ rfl rfl ?_
      refine m_run M (is := [(33, .iconst (-1), -1)]) (pc' := 34) (L' := [some (.ref 0), some (.ref 2), some (.int r1001.1), some (.int r1003.1)]) (st' := [.int (-1), .int r1005.1]) (w' := ((cTp 0 r1003.2) ++ (cSh 2 r1005.2))) (by decide +kernel) rfl trivial ?_
      rcases ite_s hf with ⟨c_1006, hf⟩ | ⟨c_1006, hf⟩
      · refine m_jT M (i := .if_icmp .eq 7) 41 (by decide +kernel) rfl (by decide) c_1006 ?_
        refine m_run M (is := [(41, .iconst 0, 0)]) (pc' := 42) (L' := [some (.ref 0), some (.ref 2), some (.int r1001.1), some (.int r1003.1)]) (st' := [.int 0]) (w' := ((cTp 0 r1003.2) ++ (cSh 2 r1005.2))) (by decide +kernel) rfl trivial ?_
        obtain rfl := Option.some.inj hf
        exact m_zret K (by decide +kernel) (Or.inl rfl) (Nat.zero_le _) (Nat.zero_le _) ⟨rfl, rfl⟩
      · refine m_jF M (i := .if_icmp .eq 7) 41 (by decide +kernel) rfl (by decide) c_1006 ?_
        refine m_run M (is := [(37, .iconst 1, 1), (38, .goto 4, 0)]) (pc' := 42) (L' := [some (.ref 0), some (.ref 2), some (.int r1001.1), some (.int r1003.1)]) (st' := [.int 1]) (w' := ((cTp 0 r1003.2) ++ (cSh 2 r1005.2))) (by decide +kernel) rfl trivial ?_
        obtain rfl := Option.some.inj hf
        exact m_zret K (by decide +kernel) (Or.inr rfl) (Nat.zero_le _) (Nat.zero_le _) ⟨rfl, rfl⟩

def f_X2_readUse (t : TpT) (s : ShT) : Option (Int32 × TpT × ShT) :=
  (f_X2_number 0 (s.2.2.2.2.2.2.1 - 1) t).bind fun r1001 =>
  if r1001.1 = (-1) then
    some (0, r1001.2, s)
  else
    some (1, r1001.2, (s.1, s.2.1, s.2.2.1, s.2.2.2.1, s.2.2.2.2.1, s.2.2.2.2.2.1, s.2.2.2.2.2.2.1, r1001.1, s.2.2.2.2.2.2.2.2.1, s.2.2.2.2.2.2.2.2.2))
set_option maxRecDepth 100000 in
set_option maxHeartbeats 4000000 in
theorem run_X2_readUse {l : Launch} {D : va_G} {cT : Nat → ClassId}    (t : TpT) (s : ShT) {r : Int32 × TpT × ShT} (hf : f_X2_readUse t s = some r) : Runs l D cT yX2_readUse cX2_readUse 3 (some .boolean) 3 65 [.ref 0, .ref 2] ((cTp 0 t) ++ (cSh 2 s)) (EQ (some (.int r.1)) ((cTp 0 r.2.1) ++ (cSh 2 r.2.2))) := by
  refine runs_of O_X2 okO_X2 (by decide +kernel) rfl rfl (Nat.le_of_ble_eq_true rfl) (Nat.le_of_ble_eq_true rfl) (fun g K => ?_)
  have M := K.b
  show g 0 0 ((cTp 0 t) ++ (cSh 2 s)) 0 [some (.ref 0), some (.ref 2), none] []
  rw [f_X2_readUse] at hf
  refine m_run M (is := [(0, .aload_n 0, 0), (1, .iconst 0, 0), (2, .aload_n 1, 0), (3, .getfield 90, 0), (6, .iconst 1, 1), (7, .isub, 0)]) (pc' := 8) (L' := [some (.ref 0), some (.ref 2), none]) (st' := [.int (s.2.2.2.2.2.2.1 - 1), .int 0, .ref 0]) (w' := ((cTp 0 t) ++ (cSh 2 s))) (by decide +kernel) rfl trivial ?_
  obtain ⟨r1001, h_1001, hf⟩ := bnd_s hf
  refine m_cV0 M (rest := []) (w2 := ((cTp 0 r1001.2) ++ (cSh 2 s))) (st2 := [.int r1001.1]) (run_X2_number 0 (s.2.2.2.2.2.2.1 - 1)   t h_1001) cv_X2_number lk_X2_79 (by decide +kernel) [0, 1] (by decide) ⟨Nat.le_of_ble_eq_true rfl, Nat.le_of_ble_eq_true rfl⟩ rfl rfl rfl (Nat.le_of_ble_eq_true rfl) ⟨by decide, by decide⟩ rfl rfl ⟨Nat.zero_le _, Nat.zero_le _⟩ rfl rfl ?_
  refine m_run M (is := [(11, .istore_n 2, 0), (12, .iload_n 2, 0), (13, .iconst (-1), -1)]) (pc' := 14) (L' := [some (.ref 0), some (.ref 2), some (.int r1001.1)]) (st' := [.int (-1), .int r1001.1]) (w' := ((cTp 0 r1001.2) ++ (cSh 2 s))) (by decide +kernel) rfl trivial ?_
  rcases ite_s hf with ⟨c_1002, hf⟩ | ⟨c_1002, hf⟩
  · refine m_jF M (i := .if_icmp .ne 5) 19 (by decide +kernel) rfl (by decide) (fun n => n c_1002) ?_
    refine m_run M (is := [(17, .iconst 0, 0)]) (pc' := 18) (L' := [some (.ref 0), some (.ref 2), some (.int r1001.1)]) (st' := [.int 0]) (w' := ((cTp 0 r1001.2) ++ (cSh 2 s))) (by decide +kernel) rfl trivial ?_
    obtain rfl := Option.some.inj hf
    exact m_zret K (by decide +kernel) (Or.inl rfl) (Nat.zero_le _) (Nat.zero_le _) ⟨rfl, rfl⟩
  · refine m_jT M (i := .if_icmp .ne 5) 19 (by decide +kernel) rfl (by decide) c_1002 ?_
    refine m_run M (is := [(19, .aload_n 1, 0), (20, .iload_n 2, 0), (21, .putfield 93, 0), (24, .iconst 1, 1)]) (pc' := 25) (L' := [some (.ref 0), some (.ref 2), some (.int r1001.1)]) (st' := [.int 1]) (w' := ((cTp 0 r1001.2) ++ (cSh 2 (s.1, s.2.1, s.2.2.1, s.2.2.2.1, s.2.2.2.2.1, s.2.2.2.2.2.1, s.2.2.2.2.2.2.1, r1001.1, s.2.2.2.2.2.2.2.2.1, s.2.2.2.2.2.2.2.2.2)))) (by decide +kernel) rfl trivial ?_
    obtain rfl := Option.some.inj hf
    exact m_zret K (by decide +kernel) (Or.inr rfl) (Nat.zero_le _) (Nat.zero_le _) ⟨rfl, rfl⟩

def f_X2_readServe_L0 (v2 : Int32) : Nat → Int32 → TpT → ShT → Option (Int32 × TpT × ShT)
  | 0, _, _, _ => none
  | n_ + 1, v3, t, s =>
    if v2 ≤ v3 then
      if v2 = (-1) then
        some (0, t, s)
      else
        some (1, t, s)
    else
      (f_X1_turn s).bind fun r103 =>
      f_X2_readServe_L0 v2 n_ (v3 + 1) t r103.2
def f_X2_readServe (t : TpT) (s : ShT) : Option (Int32 × TpT × ShT) :=
  (f_X1_isStuck s).bind fun r1001 =>
  if r1001 = 0 then
    (f_X2_number 1 99 t).bind fun r1003 =>
    f_X2_readServe_L0 r1003.1 fuel0 0 r1003.2 s
  else
    (f_X2_number 1 0 t).bind fun r1004 =>
    f_X2_readServe_L0 r1004.1 fuel0 0 r1004.2 s
set_option maxRecDepth 100000 in
set_option maxHeartbeats 4000000 in
theorem run_X2_readServe {l : Launch} {D : va_G} {cT : Nat → ClassId}    (t : TpT) (s : ShT) {r : Int32 × TpT × ShT} (hf : f_X2_readServe t s = some r) : Runs l D cT yX2_readServe cX2_readServe 4 (some .boolean) 3 67 [.ref 0, .ref 2] ((cTp 0 t) ++ (cSh 2 s)) (EQ (some (.int r.1)) ((cTp 0 r.2.1) ++ (cSh 2 r.2.2))) := by
  refine runs_of O_X2 okO_X2 (by decide +kernel) rfl rfl (Nat.le_of_ble_eq_true rfl) (Nat.le_of_ble_eq_true rfl) (fun g K => ?_)
  have M := K.b
  show g 0 0 ((cTp 0 t) ++ (cSh 2 s)) 0 [some (.ref 0), some (.ref 2), none, none] []
  have loop_0 : ∀ (v2 : Int32) (n_ : Nat), (∀ (v3 : Int32) (t : TpT) (s : ShT), f_X2_readServe_L0 v2 n_ v3 t s = some r → g 0 0 ((cTp 0 t) ++ (cSh 2 s)) 21 [none, some (.ref 2), some (.int v2), some (.int v3)] []) := by
    intro v2 n_
    induction n_ with
    | zero => intro v3 t s hf; cases hf
    | succ n_ ih =>
      intro v3 t s hf
      rw [f_X2_readServe_L0] at hf
      refine m_run M (is := [(21, .iload_n 3, 0), (22, .iload_n 2, 0)]) (pc' := 23) (L' := [none, some (.ref 2), some (.int v2), some (.int v3)]) (st' := [.int v2, .int v3]) (w' := ((cTp 0 t) ++ (cSh 2 s))) (by decide +kernel) rfl trivial ?_
      rcases ite_s hf with ⟨c_101, hf⟩ | ⟨c_101, hf⟩
      · refine m_jT M (i := .if_icmp .ge 14) 37 (by decide +kernel) rfl (by decide) c_101 ?_
        refine m_run M (is := [(37, .iload_n 2, 0), (38, .iconst (-1), -1)]) (pc' := 39) (L' := [none, some (.ref 2), some (.int v2), some (.int v3)]) (st' := [.int (-1), .int v2]) (w' := ((cTp 0 t) ++ (cSh 2 s))) (by decide +kernel) rfl trivial ?_
        rcases ite_s hf with ⟨c_102, hf⟩ | ⟨c_102, hf⟩
        · refine m_jT M (i := .if_icmp .eq 7) 46 (by decide +kernel) rfl (by decide) c_102 ?_
          refine m_run M (is := [(46, .iconst 0, 0)]) (pc' := 47) (L' := [none, some (.ref 2), some (.int v2), some (.int v3)]) (st' := [.int 0]) (w' := ((cTp 0 t) ++ (cSh 2 s))) (by decide +kernel) rfl trivial ?_
          obtain rfl := Option.some.inj hf
          exact m_zret K (by decide +kernel) (Or.inl rfl) (Nat.zero_le _) (Nat.zero_le _) ⟨rfl, rfl⟩
        · refine m_jF M (i := .if_icmp .eq 7) 46 (by decide +kernel) rfl (by decide) c_102 ?_
          refine m_run M (is := [(42, .iconst 1, 1), (43, .goto 4, 0)]) (pc' := 47) (L' := [none, some (.ref 2), some (.int v2), some (.int v3)]) (st' := [.int 1]) (w' := ((cTp 0 t) ++ (cSh 2 s))) (by decide +kernel) rfl trivial ?_
          obtain rfl := Option.some.inj hf
          exact m_zret K (by decide +kernel) (Or.inr rfl) (Nat.zero_le _) (Nat.zero_le _) ⟨rfl, rfl⟩
      · refine m_jF M (i := .if_icmp .ge 14) 37 (by decide +kernel) rfl (by decide) c_101 ?_
        refine m_run M (is := [(26, .aload_n 1, 0)]) (pc' := 27) (L' := [none, some (.ref 2), some (.int v2), some (.int v3)]) (st' := [.ref 2]) (w' := ((cTp 0 t) ++ (cSh 2 s))) (by decide +kernel) rfl trivial ?_
        obtain ⟨r103, h_103, hf⟩ := bnd_s hf
        refine m_cV0 M (rest := []) (w2 := ((cTp 0 t) ++ (cSh 2 r103.2))) (st2 := [.int r103.1]) (run_X1_turn    s h_103) cv_X1_turn lk_X2_99 (by decide +kernel) [2, 3, 4, 5, 6, 7] (by decide) ⟨Nat.le_of_ble_eq_true rfl, Nat.le_of_ble_eq_true rfl⟩ rfl rfl rfl (Nat.le_of_ble_eq_true rfl) ⟨by decide, by decide⟩ rfl rfl ⟨Nat.zero_le _, Nat.zero_le _⟩ rfl rfl ?_
        refine m_run M (is := [(30, .pop, 0), (31, .iinc 3 1, 1), (34, .goto (-13), 0)]) (pc' := 21) (L' := [none, some (.ref 2), some (.int v2), some (.int (v3 + 1))]) (st' := []) (w' := ((cTp 0 t) ++ (cSh 2 r103.2))) (by decide +kernel) rfl trivial ?_
        exact ih (v3 + 1) t r103.2 hf
  rw [f_X2_readServe] at hf
  refine m_run M (is := [(0, .aload_n 0, 0), (1, .iconst 1, 1), (2, .aload_n 1, 0)]) (pc' := 3) (L' := [some (.ref 0), some (.ref 2), none, none]) (st' := [.ref 2, .int 1, .ref 0]) (w' := ((cTp 0 t) ++ (cSh 2 s))) (by decide +kernel) rfl trivial ?_
  obtain ⟨r1001, h_1001, hf⟩ := bnd_s hf
  refine m_cV0 M (rest := [.int 1, .ref 0]) (w2 := ((cTp 0 t) ++ (cSh 2 s))) (st2 := [.int r1001, .int 1, .ref 0]) (run_X1_isStuck    s h_1001) cv_X1_isStuck lk_X2_96 (by decide +kernel) [2, 3, 4, 5, 6, 7] (by decide) ⟨Nat.le_of_ble_eq_true rfl, Nat.le_of_ble_eq_true rfl⟩ rfl rfl rfl (Nat.le_of_ble_eq_true rfl) ⟨by decide, by decide⟩ rfl rfl ⟨Nat.zero_le _, Nat.zero_le _⟩ rfl rfl ?_
  rcases ite_s hf with ⟨c_1002, hf⟩ | ⟨c_1002, hf⟩
  · refine m_jT M (i := .ifCond .eq 7) 13 (by decide +kernel) rfl (by decide) c_1002 ?_
    refine m_run M (is := [(13, .bipush 99, 99)]) (pc' := 15) (L' := [some (.ref 0), some (.ref 2), none, none]) (st' := [.int 99, .int 1, .ref 0]) (w' := ((cTp 0 t) ++ (cSh 2 s))) (by decide +kernel) rfl trivial ?_
    obtain ⟨r1003, h_1003, hf⟩ := bnd_s hf
    refine m_cV0 M (rest := []) (w2 := ((cTp 0 r1003.2) ++ (cSh 2 s))) (st2 := [.int r1003.1]) (run_X2_number 1 99   t h_1003) cv_X2_number lk_X2_79 (by decide +kernel) [0, 1] (by decide) ⟨Nat.le_of_ble_eq_true rfl, Nat.le_of_ble_eq_true rfl⟩ rfl rfl rfl (Nat.le_of_ble_eq_true rfl) ⟨by decide, by decide⟩ rfl rfl ⟨Nat.zero_le _, Nat.zero_le _⟩ rfl rfl ?_
    refine m_run M (is := [(18, .istore_n 2, 0), (19, .iconst 0, 0), (20, .istore_n 3, 0)]) (pc' := 21) (L' := [some (.ref 0), some (.ref 2), some (.int r1003.1), some (.int 0)]) (st' := []) (w' := ((cTp 0 r1003.2) ++ (cSh 2 s))) (by decide +kernel) rfl trivial ?_
    refine m_wk M [none, some (.ref 2), some (.int r1003.1), some (.int 0)] ⟨Or.inl rfl, Or.inr rfl, Or.inr rfl, Or.inr rfl, trivial⟩ ?_
    exact loop_0 r1003.1 fuel0 0 r1003.2 s hf
  · refine m_jF M (i := .ifCond .eq 7) 13 (by decide +kernel) rfl (by decide) c_1002 ?_
    refine m_run M (is := [(9, .iconst 0, 0), (10, .goto 5, 0)]) (pc' := 15) (L' := [some (.ref 0), some (.ref 2), none, none]) (st' := [.int 0, .int 1, .ref 0]) (w' := ((cTp 0 t) ++ (cSh 2 s))) (by decide +kernel) rfl trivial ?_
    obtain ⟨r1004, h_1004, hf⟩ := bnd_s hf
    refine m_cV0 M (rest := []) (w2 := ((cTp 0 r1004.2) ++ (cSh 2 s))) (st2 := [.int r1004.1]) (run_X2_number 1 0   t h_1004) cv_X2_number lk_X2_79 (by decide +kernel) [0, 1] (by decide) ⟨Nat.le_of_ble_eq_true rfl, Nat.le_of_ble_eq_true rfl⟩ rfl rfl rfl (Nat.le_of_ble_eq_true rfl) ⟨by decide, by decide⟩ rfl rfl ⟨Nat.zero_le _, Nat.zero_le _⟩ rfl rfl ?_
    refine m_run M (is := [(18, .istore_n 2, 0), (19, .iconst 0, 0), (20, .istore_n 3, 0)]) (pc' := 21) (L' := [some (.ref 0), some (.ref 2), some (.int r1004.1), some (.int 0)]) (st' := []) (w' := ((cTp 0 r1004.2) ++ (cSh 2 s))) (by decide +kernel) rfl trivial ?_
    refine m_wk M [none, some (.ref 2), some (.int r1004.1), some (.int 0)] ⟨Or.inl rfl, Or.inr rfl, Or.inr rfl, Or.inr rfl, trivial⟩ ?_
    exact loop_0 r1004.1 fuel0 0 r1004.2 s hf

def f_X2_readLet (t : TpT) (s : ShT) : Option (Int32 × TpT × ShT) :=
  (f_X2_number 0 (s.2.2.2.2.2.1 - 2) t).bind fun r1001 =>
  if r1001.1 = (-1) then
    some (0, r1001.2, s)
  else
    (f_X1_letBefore r1001.1 s).bind fun r1003 =>
    if r1003.1 = (-1) then
      some (0, r1001.2, r1003.2)
    else
      some (1, r1001.2, r1003.2)
set_option maxRecDepth 100000 in
set_option maxHeartbeats 4000000 in
theorem run_X2_readLet {l : Launch} {D : va_G} {cT : Nat → ClassId}    (t : TpT) (s : ShT) {r : Int32 × TpT × ShT} (hf : f_X2_readLet t s = some r) : Runs l D cT yX2_readLet cX2_readLet 3 (some .boolean) 3 65 [.ref 0, .ref 2] ((cTp 0 t) ++ (cSh 2 s)) (EQ (some (.int r.1)) ((cTp 0 r.2.1) ++ (cSh 2 r.2.2))) := by
  refine runs_of O_X2 okO_X2 (by decide +kernel) rfl rfl (Nat.le_of_ble_eq_true rfl) (Nat.le_of_ble_eq_true rfl) (fun g K => ?_)
  have M := K.b
  show g 0 0 ((cTp 0 t) ++ (cSh 2 s)) 0 [some (.ref 0), some (.ref 2), none] []
  rw [f_X2_readLet] at hf
  refine m_run M (is := [(0, .aload_n 0, 0), (1, .iconst 0, 0), (2, .aload_n 1, 0), (3, .getfield 77, 0), (6, .iconst 2, 2), (7, .isub, 0)]) (pc' := 8) (L' := [some (.ref 0), some (.ref 2), none]) (st' := [.int (s.2.2.2.2.2.1 - 2), .int 0, .ref 0]) (w' := ((cTp 0 t) ++ (cSh 2 s))) (by decide +kernel) rfl trivial ?_
  obtain ⟨r1001, h_1001, hf⟩ := bnd_s hf
  refine m_cV0 M (rest := []) (w2 := ((cTp 0 r1001.2) ++ (cSh 2 s))) (st2 := [.int r1001.1]) (run_X2_number 0 (s.2.2.2.2.2.1 - 2)   t h_1001) cv_X2_number lk_X2_79 (by decide +kernel) [0, 1] (by decide) ⟨Nat.le_of_ble_eq_true rfl, Nat.le_of_ble_eq_true rfl⟩ rfl rfl rfl (Nat.le_of_ble_eq_true rfl) ⟨by decide, by decide⟩ rfl rfl ⟨Nat.zero_le _, Nat.zero_le _⟩ rfl rfl ?_
  refine m_run M (is := [(11, .istore_n 2, 0), (12, .iload_n 2, 0), (13, .iconst (-1), -1)]) (pc' := 14) (L' := [some (.ref 0), some (.ref 2), some (.int r1001.1)]) (st' := [.int (-1), .int r1001.1]) (w' := ((cTp 0 r1001.2) ++ (cSh 2 s))) (by decide +kernel) rfl trivial ?_
  rcases ite_s hf with ⟨c_1002, hf⟩ | ⟨c_1002, hf⟩
  · refine m_jT M (i := .if_icmp .eq 16) 30 (by decide +kernel) rfl (by decide) c_1002 ?_
    refine m_run M (is := [(30, .iconst 0, 0)]) (pc' := 31) (L' := [some (.ref 0), some (.ref 2), some (.int r1001.1)]) (st' := [.int 0]) (w' := ((cTp 0 r1001.2) ++ (cSh 2 s))) (by decide +kernel) rfl trivial ?_
    obtain rfl := Option.some.inj hf
    exact m_zret K (by decide +kernel) (Or.inl rfl) (Nat.zero_le _) (Nat.zero_le _) ⟨rfl, rfl⟩
  · refine m_jF M (i := .if_icmp .eq 16) 30 (by decide +kernel) rfl (by decide) c_1002 ?_
    refine m_run M (is := [(17, .aload_n 1, 0), (18, .iload_n 2, 0)]) (pc' := 19) (L' := [some (.ref 0), some (.ref 2), some (.int r1001.1)]) (st' := [.int r1001.1, .ref 2]) (w' := ((cTp 0 r1001.2) ++ (cSh 2 s))) (by decide +kernel) rfl trivial ?_
    obtain ⟨r1003, h_1003, hf⟩ := bnd_s hf
    refine m_cV0 M (rest := []) (w2 := ((cTp 0 r1001.2) ++ (cSh 2 r1003.2))) (st2 := [.int r1003.1]) (run_X1_letBefore r1001.1   s h_1003) cv_X1_letBefore lk_X2_102 (by decide +kernel) [2, 3, 4, 5, 6, 7] (by decide) ⟨Nat.le_of_ble_eq_true rfl, Nat.le_of_ble_eq_true rfl⟩ rfl rfl rfl (Nat.le_of_ble_eq_true rfl) ⟨by decide, by decide⟩ rfl rfl ⟨Nat.zero_le _, Nat.zero_le _⟩ rfl rfl ?_
    refine m_run M (is := [(22, .iconst (-1), -1)]) (pc' := 23) (L' := [some (.ref 0), some (.ref 2), some (.int r1001.1)]) (st' := [.int (-1), .int r1003.1]) (w' := ((cTp 0 r1001.2) ++ (cSh 2 r1003.2))) (by decide +kernel) rfl trivial ?_
    rcases ite_s hf with ⟨c_1004, hf⟩ | ⟨c_1004, hf⟩
    · refine m_jT M (i := .if_icmp .eq 7) 30 (by decide +kernel) rfl (by decide) c_1004 ?_
      refine m_run M (is := [(30, .iconst 0, 0)]) (pc' := 31) (L' := [some (.ref 0), some (.ref 2), some (.int r1001.1)]) (st' := [.int 0]) (w' := ((cTp 0 r1001.2) ++ (cSh 2 r1003.2))) (by decide +kernel) rfl trivial ?_
      obtain rfl := Option.some.inj hf
      exact m_zret K (by decide +kernel) (Or.inl rfl) (Nat.zero_le _) (Nat.zero_le _) ⟨rfl, rfl⟩
    · refine m_jF M (i := .if_icmp .eq 7) 30 (by decide +kernel) rfl (by decide) c_1004 ?_
      refine m_run M (is := [(26, .iconst 1, 1), (27, .goto 4, 0)]) (pc' := 31) (L' := [some (.ref 0), some (.ref 2), some (.int r1001.1)]) (st' := [.int 1]) (w' := ((cTp 0 r1001.2) ++ (cSh 2 r1003.2))) (by decide +kernel) rfl trivial ?_
      obtain rfl := Option.some.inj hf
      exact m_zret K (by decide +kernel) (Or.inr rfl) (Nat.zero_le _) (Nat.zero_le _) ⟨rfl, rfl⟩

def f_X2_readLeave (t : TpT) (s : ShT) : Option (Int32 × TpT × ShT) :=
  (f_X2_number (s.2.2.2.2.2.1 - 1) (s.2.2.2.2.2.1 - 1) t).bind fun r1001 =>
  if r1001.1 = (-1) then
    some (0, r1001.2, s)
  else
    (f_X1_removeLast s).bind fun r1003 =>
    some (1, r1001.2, r1003)
set_option maxRecDepth 100000 in
set_option maxHeartbeats 4000000 in
theorem run_X2_readLeave {l : Launch} {D : va_G} {cT : Nat → ClassId}    (t : TpT) (s : ShT) {r : Int32 × TpT × ShT} (hf : f_X2_readLeave t s = some r) : Runs l D cT yX2_readLeave cX2_readLeave 3 (some .boolean) 3 65 [.ref 0, .ref 2] ((cTp 0 t) ++ (cSh 2 s)) (EQ (some (.int r.1)) ((cTp 0 r.2.1) ++ (cSh 2 r.2.2))) := by
  refine runs_of O_X2 okO_X2 (by decide +kernel) rfl rfl (Nat.le_of_ble_eq_true rfl) (Nat.le_of_ble_eq_true rfl) (fun g K => ?_)
  have M := K.b
  show g 0 0 ((cTp 0 t) ++ (cSh 2 s)) 0 [some (.ref 0), some (.ref 2), none] []
  rw [f_X2_readLeave] at hf
  refine m_run M (is := [(0, .aload_n 0, 0), (1, .aload_n 1, 0), (2, .getfield 77, 0), (5, .iconst 1, 1), (6, .isub, 0), (7, .aload_n 1, 0), (8, .getfield 77, 0), (11, .iconst 1, 1), (12, .isub, 0)]) (pc' := 13) (L' := [some (.ref 0), some (.ref 2), none]) (st' := [.int (s.2.2.2.2.2.1 - 1), .int (s.2.2.2.2.2.1 - 1), .ref 0]) (w' := ((cTp 0 t) ++ (cSh 2 s))) (by decide +kernel) rfl trivial ?_
  obtain ⟨r1001, h_1001, hf⟩ := bnd_s hf
  refine m_cV0 M (rest := []) (w2 := ((cTp 0 r1001.2) ++ (cSh 2 s))) (st2 := [.int r1001.1]) (run_X2_number (s.2.2.2.2.2.1 - 1) (s.2.2.2.2.2.1 - 1)   t h_1001) cv_X2_number lk_X2_79 (by decide +kernel) [0, 1] (by decide) ⟨Nat.le_of_ble_eq_true rfl, Nat.le_of_ble_eq_true rfl⟩ rfl rfl rfl (Nat.le_of_ble_eq_true rfl) ⟨by decide, by decide⟩ rfl rfl ⟨Nat.zero_le _, Nat.zero_le _⟩ rfl rfl ?_
  refine m_run M (is := [(16, .istore_n 2, 0), (17, .iload_n 2, 0), (18, .iconst (-1), -1)]) (pc' := 19) (L' := [some (.ref 0), some (.ref 2), some (.int r1001.1)]) (st' := [.int (-1), .int r1001.1]) (w' := ((cTp 0 r1001.2) ++ (cSh 2 s))) (by decide +kernel) rfl trivial ?_
  rcases ite_s hf with ⟨c_1002, hf⟩ | ⟨c_1002, hf⟩
  · refine m_jF M (i := .if_icmp .ne 5) 24 (by decide +kernel) rfl (by decide) (fun n => n c_1002) ?_
    refine m_run M (is := [(22, .iconst 0, 0)]) (pc' := 23) (L' := [some (.ref 0), some (.ref 2), some (.int r1001.1)]) (st' := [.int 0]) (w' := ((cTp 0 r1001.2) ++ (cSh 2 s))) (by decide +kernel) rfl trivial ?_
    obtain rfl := Option.some.inj hf
    exact m_zret K (by decide +kernel) (Or.inl rfl) (Nat.zero_le _) (Nat.zero_le _) ⟨rfl, rfl⟩
  · refine m_jT M (i := .if_icmp .ne 5) 24 (by decide +kernel) rfl (by decide) c_1002 ?_
    refine m_run M (is := [(24, .aload_n 1, 0)]) (pc' := 25) (L' := [some (.ref 0), some (.ref 2), some (.int r1001.1)]) (st' := [.ref 2]) (w' := ((cTp 0 r1001.2) ++ (cSh 2 s))) (by decide +kernel) rfl trivial ?_
    obtain ⟨r1003, h_1003, hf⟩ := bnd_s hf
    refine m_cV0 M (rest := []) (w2 := ((cTp 0 r1001.2) ++ (cSh 2 r1003))) (st2 := []) (run_X1_removeLast    s h_1003) cv_X1_removeLast lk_X2_106 (by decide +kernel) [2, 3, 4, 5, 6, 7] (by decide) ⟨Nat.le_of_ble_eq_true rfl, Nat.le_of_ble_eq_true rfl⟩ rfl rfl rfl (Nat.le_of_ble_eq_true rfl) ⟨by decide, by decide⟩ rfl rfl ⟨Nat.zero_le _, Nat.zero_le _⟩ rfl rfl ?_
    refine m_run M (is := [(28, .iconst 1, 1)]) (pc' := 29) (L' := [some (.ref 0), some (.ref 2), some (.int r1001.1)]) (st' := [.int 1]) (w' := ((cTp 0 r1001.2) ++ (cSh 2 r1003))) (by decide +kernel) rfl trivial ?_
    obtain rfl := Option.some.inj hf
    exact m_zret K (by decide +kernel) (Or.inr rfl) (Nat.zero_le _) (Nat.zero_le _) ⟨rfl, rfl⟩

def f_X2_readCount (t : TpT) (s : ShT) : Option (Int32 × TpT × ShT) :=
  (f_X2_number 0 (s.2.2.2.2.2.1 - 1) t).bind fun r1001 =>
  if r1001.1 = (-1) then
    some (0, r1001.2, s)
  else
    (f_X2_number 0 999 r1001.2).bind fun r1003 =>
    if r1003.1 = (-1) then
      some (0, r1003.2, s)
    else
      (f_X1_hasPerson r1001.1 s).bind fun r1005 =>
      if r1005 = 0 then
        some (0, r1003.2, s)
      else
        if inB r1001.1 16 then
        some (1, r1003.2, (s.1, (upd s.2.1 r1001.1.toNatClampNeg r1003.1), s.2.2.1, s.2.2.2.1, s.2.2.2.2.1, s.2.2.2.2.2.1, s.2.2.2.2.2.2.1, s.2.2.2.2.2.2.2.1, s.2.2.2.2.2.2.2.2.1, s.2.2.2.2.2.2.2.2.2))
        else none
set_option maxRecDepth 100000 in
set_option maxHeartbeats 4000000 in
theorem run_X2_readCount {l : Launch} {D : va_G} {cT : Nat → ClassId}    (t : TpT) (s : ShT) {r : Int32 × TpT × ShT} (hf : f_X2_readCount t s = some r) : Runs l D cT yX2_readCount cX2_readCount 4 (some .boolean) 3 65 [.ref 0, .ref 2] ((cTp 0 t) ++ (cSh 2 s)) (EQ (some (.int r.1)) ((cTp 0 r.2.1) ++ (cSh 2 r.2.2))) := by
  refine runs_of O_X2 okO_X2 (by decide +kernel) rfl rfl (Nat.le_of_ble_eq_true rfl) (Nat.le_of_ble_eq_true rfl) (fun g K => ?_)
  have M := K.b
  show g 0 0 ((cTp 0 t) ++ (cSh 2 s)) 0 [some (.ref 0), some (.ref 2), none, none] []
  rw [f_X2_readCount] at hf
  refine m_run M (is := [(0, .aload_n 0, 0), (1, .iconst 0, 0), (2, .aload_n 1, 0), (3, .getfield 77, 0), (6, .iconst 1, 1), (7, .isub, 0)]) (pc' := 8) (L' := [some (.ref 0), some (.ref 2), none, none]) (st' := [.int (s.2.2.2.2.2.1 - 1), .int 0, .ref 0]) (w' := ((cTp 0 t) ++ (cSh 2 s))) (by decide +kernel) rfl trivial ?_
  obtain ⟨r1001, h_1001, hf⟩ := bnd_s hf
  refine m_cV0 M (rest := []) (w2 := ((cTp 0 r1001.2) ++ (cSh 2 s))) (st2 := [.int r1001.1]) (run_X2_number 0 (s.2.2.2.2.2.1 - 1)   t h_1001) cv_X2_number lk_X2_79 (by decide +kernel) [0, 1] (by decide) ⟨Nat.le_of_ble_eq_true rfl, Nat.le_of_ble_eq_true rfl⟩ rfl rfl rfl (Nat.le_of_ble_eq_true rfl) ⟨by decide, by decide⟩ rfl rfl ⟨Nat.zero_le _, Nat.zero_le _⟩ rfl rfl ?_
  refine m_run M (is := [(11, .istore_n 2, 0), (12, .iload_n 2, 0), (13, .iconst (-1), -1)]) (pc' := 14) (L' := [some (.ref 0), some (.ref 2), some (.int r1001.1), none]) (st' := [.int (-1), .int r1001.1]) (w' := ((cTp 0 r1001.2) ++ (cSh 2 s))) (by decide +kernel) rfl trivial ?_
  rcases ite_s hf with ⟨c_1002, hf⟩ | ⟨c_1002, hf⟩
  · refine m_jF M (i := .if_icmp .ne 5) 19 (by decide +kernel) rfl (by decide) (fun n => n c_1002) ?_
    refine m_run M (is := [(17, .iconst 0, 0)]) (pc' := 18) (L' := [some (.ref 0), some (.ref 2), some (.int r1001.1), none]) (st' := [.int 0]) (w' := ((cTp 0 r1001.2) ++ (cSh 2 s))) (by decide +kernel) rfl trivial ?_
    obtain rfl := Option.some.inj hf
    exact m_zret K (by decide +kernel) (Or.inl rfl) (Nat.zero_le _) (Nat.zero_le _) ⟨rfl, rfl⟩
  · refine m_jT M (i := .if_icmp .ne 5) 19 (by decide +kernel) rfl (by decide) c_1002 ?_
    refine m_run M (is := [(19, .aload_n 0, 0), (20, .iconst 0, 0), (21, .sipush 999, 999)]) (pc' := 24) (L' := [some (.ref 0), some (.ref 2), some (.int r1001.1), none]) (st' := [.int 999, .int 0, .ref 0]) (w' := ((cTp 0 r1001.2) ++ (cSh 2 s))) (by decide +kernel) rfl trivial ?_
    obtain ⟨r1003, h_1003, hf⟩ := bnd_s hf
    refine m_cV0 M (rest := []) (w2 := ((cTp 0 r1003.2) ++ (cSh 2 s))) (st2 := [.int r1003.1]) (run_X2_number 0 999   r1001.2 h_1003) cv_X2_number lk_X2_79 (by decide +kernel) [0, 1] (by decide) ⟨Nat.le_of_ble_eq_true rfl, Nat.le_of_ble_eq_true rfl⟩ rfl rfl rfl (Nat.le_of_ble_eq_true rfl) ⟨by decide, by decide⟩ rfl rfl ⟨Nat.zero_le _, Nat.zero_le _⟩ rfl rfl ?_
    refine m_run M (is := [(27, .istore_n 3, 0), (28, .iload_n 3, 0), (29, .iconst (-1), -1)]) (pc' := 30) (L' := [some (.ref 0), some (.ref 2), some (.int r1001.1), some (.int r1003.1)]) (st' := [.int (-1), .int r1003.1]) (w' := ((cTp 0 r1003.2) ++ (cSh 2 s))) (by decide +kernel) rfl trivial ?_
    rcases ite_s hf with ⟨c_1004, hf⟩ | ⟨c_1004, hf⟩
    · refine m_jT M (i := .if_icmp .eq 11) 41 (by decide +kernel) rfl (by decide) c_1004 ?_
      refine m_run M (is := [(41, .iconst 0, 0)]) (pc' := 42) (L' := [some (.ref 0), some (.ref 2), some (.int r1001.1), some (.int r1003.1)]) (st' := [.int 0]) (w' := ((cTp 0 r1003.2) ++ (cSh 2 s))) (by decide +kernel) rfl trivial ?_
      obtain rfl := Option.some.inj hf
      exact m_zret K (by decide +kernel) (Or.inl rfl) (Nat.zero_le _) (Nat.zero_le _) ⟨rfl, rfl⟩
    · refine m_jF M (i := .if_icmp .eq 11) 41 (by decide +kernel) rfl (by decide) c_1004 ?_
      refine m_run M (is := [(33, .aload_n 1, 0), (34, .iload_n 2, 0)]) (pc' := 35) (L' := [some (.ref 0), some (.ref 2), some (.int r1001.1), some (.int r1003.1)]) (st' := [.int r1001.1, .ref 2]) (w' := ((cTp 0 r1003.2) ++ (cSh 2 s))) (by decide +kernel) rfl trivial ?_
      obtain ⟨r1005, h_1005, hf⟩ := bnd_s hf
      refine m_cV0 M (rest := []) (w2 := ((cTp 0 r1003.2) ++ (cSh 2 s))) (st2 := [.int r1005]) (run_X1_hasPerson r1001.1   s h_1005) cv_X1_hasPerson lk_X2_109 (by decide +kernel) [2, 3, 4, 5, 6, 7] (by decide) ⟨Nat.le_of_ble_eq_true rfl, Nat.le_of_ble_eq_true rfl⟩ rfl rfl rfl (Nat.le_of_ble_eq_true rfl) ⟨by decide, by decide⟩ rfl rfl ⟨Nat.zero_le _, Nat.zero_le _⟩ rfl rfl ?_
      rcases ite_s hf with ⟨c_1006, hf⟩ | ⟨c_1006, hf⟩
      · refine m_jF M (i := .ifCond .ne 5) 43 (by decide +kernel) rfl (by decide) (fun n => n c_1006) ?_
        refine m_run M (is := [(41, .iconst 0, 0)]) (pc' := 42) (L' := [some (.ref 0), some (.ref 2), some (.int r1001.1), some (.int r1003.1)]) (st' := [.int 0]) (w' := ((cTp 0 r1003.2) ++ (cSh 2 s))) (by decide +kernel) rfl trivial ?_
        obtain rfl := Option.some.inj hf
        exact m_zret K (by decide +kernel) (Or.inl rfl) (Nat.zero_le _) (Nat.zero_le _) ⟨rfl, rfl⟩
      · refine m_jT M (i := .ifCond .ne 5) 43 (by decide +kernel) rfl (by decide) c_1006 ?_
        obtain ⟨h_1007, hf⟩ := grd_s hf
        refine m_run M (is := [(43, .aload_n 1, 0), (44, .getfield 113, 0), (47, .iload_n 2, 0), (48, .iload_n 3, 0), (49, .iastore, 0), (50, .iconst 1, 1)]) (pc' := 51) (L' := [some (.ref 0), some (.ref 2), some (.int r1001.1), some (.int r1003.1)]) (st' := [.int 1]) (w' := ((cTp 0 r1003.2) ++ (cSh 2 (s.1, (upd s.2.1 r1001.1.toNatClampNeg r1003.1), s.2.2.1, s.2.2.2.1, s.2.2.2.2.1, s.2.2.2.2.2.1, s.2.2.2.2.2.2.1, s.2.2.2.2.2.2.2.1, s.2.2.2.2.2.2.2.2.1, s.2.2.2.2.2.2.2.2.2)))) (by decide +kernel) rfl ⟨inB_use h_1007, trivial⟩ ?_
        obtain rfl := Option.some.inj hf
        exact m_zret K (by decide +kernel) (Or.inr rfl) (Nat.zero_le _) (Nat.zero_le _) ⟨rfl, rfl⟩

def f_X2_readStatement (t : TpT) (s : ShT) : Option (Int32 × TpT × ShT) :=
  (f_X2_isWord 0 t).bind fun r1001 =>
  if r1001 = 0 then
    (f_X2_isWord 1 t).bind fun r1003 =>
    if r1003 = 0 then
      (f_X2_isWord 2 t).bind fun r1005 =>
      if r1005 = 0 then
        (f_X2_isWord 3 t).bind fun r1007 =>
        if r1007 = 0 then
          (f_X2_isWord 4 t).bind fun r1009 =>
          if r1009 = 0 then
            (f_X2_isWord 5 t).bind fun r1011 =>
            if r1011 = 0 then
              (f_X2_isWord 6 t).bind fun r1013 =>
              if r1013 = 0 then
                some (0, t, s)
              else
                (f_X2_readCount t s).bind fun r1015 =>
                if r1015.1 = 0 then
                  some (0, r1015.2.1, r1015.2.2)
                else
                  some (1, r1015.2.1, r1015.2.2)
            else
              (f_X2_readLeave t s).bind fun r1017 =>
              if z01 r1017.1 then
              some (r1017.1, r1017.2.1, r1017.2.2)
              else none
          else
            (f_X2_readLet t s).bind fun r1019 =>
            if z01 r1019.1 then
            some (r1019.1, r1019.2.1, r1019.2.2)
            else none
        else
          (f_X2_readServe t s).bind fun r1021 =>
          if z01 r1021.1 then
          some (r1021.1, r1021.2.1, r1021.2.2)
          else none
      else
        (f_X2_readUse t s).bind fun r1023 =>
        if z01 r1023.1 then
        some (r1023.1, r1023.2.1, r1023.2.2)
        else none
    else
      (f_X1_hasRoomForLaw s).bind fun r1025 =>
      if r1025 = 0 then
        some (0, t, s)
      else
        (f_X2_readLaw t s).bind fun r1027 =>
        if r1027.1 = 0 then
          some (0, r1027.2.1, r1027.2.2)
        else
          some (1, r1027.2.1, r1027.2.2)
  else
    (f_X2_readPeople t s).bind fun r1029 =>
    if z01 r1029.1 then
    some (r1029.1, r1029.2.1, r1029.2.2)
    else none
set_option maxRecDepth 100000 in
set_option maxHeartbeats 4000000 in
theorem run_X2_readStatement {l : Launch} {D : va_G} {cT : Nat → ClassId}    (t : TpT) (s : ShT) {r : Int32 × TpT × ShT} (hf : f_X2_readStatement t s = some r) : Runs l D cT yX2_readStatement cX2_readStatement 2 (some .boolean) 5 107 [.ref 0, .ref 2] ((cTp 0 t) ++ (cSh 2 s)) (EQ (some (.int r.1)) ((cTp 0 r.2.1) ++ (cSh 2 r.2.2))) := by
  refine runs_of O_X2 okO_X2 (by decide +kernel) rfl rfl (Nat.le_of_ble_eq_true rfl) (Nat.le_of_ble_eq_true rfl) (fun g K => ?_)
  have M := K.b
  show g 0 0 ((cTp 0 t) ++ (cSh 2 s)) 0 [some (.ref 0), some (.ref 2)] []
  rw [f_X2_readStatement] at hf
  refine m_run M (is := [(0, .aload_n 0, 0)]) (pc' := 1) (L' := [some (.ref 0), some (.ref 2)]) (st' := [.ref 0]) (w' := ((cTp 0 t) ++ (cSh 2 s))) (by decide +kernel) rfl trivial ?_
  refine m_ldcS M 0 (by decide) rfl rfl (by decide +kernel) ?_
  obtain ⟨r1001, h_1001, hf⟩ := bnd_s hf
  refine m_cV0 M (rest := []) (w2 := ((cTp 0 t) ++ (cSh 2 s))) (st2 := [.int r1001]) (run_X2_isWord  0 (by decide) t h_1001) cv_X2_isWord lk_X2_34 (by decide +kernel) [0, 1] (by decide) ⟨Nat.le_of_ble_eq_true rfl, Nat.le_of_ble_eq_true rfl⟩ rfl rfl rfl (Nat.le_of_ble_eq_true rfl) ⟨by decide, by decide⟩ rfl rfl ⟨Nat.zero_le _, Nat.zero_le _⟩ rfl rfl ?_
  rcases ite_s hf with ⟨c_1002, hf⟩ | ⟨c_1002, hf⟩
  · refine m_jT M (i := .ifCond .eq 9) 15 (by decide +kernel) rfl (by decide) c_1002 ?_
    refine m_run M (is := [(15, .aload_n 0, 0)]) (pc' := 16) (L' := [some (.ref 0), some (.ref 2)]) (st' := [.ref 0]) (w' := ((cTp 0 t) ++ (cSh 2 s))) (by decide +kernel) rfl trivial ?_
    refine m_ldcS M 1 (by decide) rfl rfl (by decide +kernel) ?_
    obtain ⟨r1003, h_1003, hf⟩ := bnd_s hf
    refine m_cV0 M (rest := []) (w2 := ((cTp 0 t) ++ (cSh 2 s))) (st2 := [.int r1003]) (run_X2_isWord  1 (by decide) t h_1003) cv_X2_isWord lk_X2_34 (by decide +kernel) [0, 1] (by decide) ⟨Nat.le_of_ble_eq_true rfl, Nat.le_of_ble_eq_true rfl⟩ rfl rfl rfl (Nat.le_of_ble_eq_true rfl) ⟨by decide, by decide⟩ rfl rfl ⟨Nat.zero_le _, Nat.zero_le _⟩ rfl rfl ?_
    rcases ite_s hf with ⟨c_1004, hf⟩ | ⟨c_1004, hf⟩
    · refine m_jT M (i := .ifCond .eq 24) 45 (by decide +kernel) rfl (by decide) c_1004 ?_
      refine m_run M (is := [(45, .aload_n 0, 0)]) (pc' := 46) (L' := [some (.ref 0), some (.ref 2)]) (st' := [.ref 0]) (w' := ((cTp 0 t) ++ (cSh 2 s))) (by decide +kernel) rfl trivial ?_
      refine m_ldcS M 2 (by decide) rfl rfl (by decide +kernel) ?_
      obtain ⟨r1005, h_1005, hf⟩ := bnd_s hf
      refine m_cV0 M (rest := []) (w2 := ((cTp 0 t) ++ (cSh 2 s))) (st2 := [.int r1005]) (run_X2_isWord  2 (by decide) t h_1005) cv_X2_isWord lk_X2_34 (by decide +kernel) [0, 1] (by decide) ⟨Nat.le_of_ble_eq_true rfl, Nat.le_of_ble_eq_true rfl⟩ rfl rfl rfl (Nat.le_of_ble_eq_true rfl) ⟨by decide, by decide⟩ rfl rfl ⟨Nat.zero_le _, Nat.zero_le _⟩ rfl rfl ?_
      rcases ite_s hf with ⟨c_1006, hf⟩ | ⟨c_1006, hf⟩
      · refine m_jT M (i := .ifCond .eq 9) 60 (by decide +kernel) rfl (by decide) c_1006 ?_
        refine m_run M (is := [(60, .aload_n 0, 0)]) (pc' := 61) (L' := [some (.ref 0), some (.ref 2)]) (st' := [.ref 0]) (w' := ((cTp 0 t) ++ (cSh 2 s))) (by decide +kernel) rfl trivial ?_
        refine m_ldcS M 3 (by decide) rfl rfl (by decide +kernel) ?_
        obtain ⟨r1007, h_1007, hf⟩ := bnd_s hf
        refine m_cV0 M (rest := []) (w2 := ((cTp 0 t) ++ (cSh 2 s))) (st2 := [.int r1007]) (run_X2_isWord  3 (by decide) t h_1007) cv_X2_isWord lk_X2_34 (by decide +kernel) [0, 1] (by decide) ⟨Nat.le_of_ble_eq_true rfl, Nat.le_of_ble_eq_true rfl⟩ rfl rfl rfl (Nat.le_of_ble_eq_true rfl) ⟨by decide, by decide⟩ rfl rfl ⟨Nat.zero_le _, Nat.zero_le _⟩ rfl rfl ?_
        rcases ite_s hf with ⟨c_1008, hf⟩ | ⟨c_1008, hf⟩
        · refine m_jT M (i := .ifCond .eq 9) 75 (by decide +kernel) rfl (by decide) c_1008 ?_
          refine m_run M (is := [(75, .aload_n 0, 0)]) (pc' := 76) (L' := [some (.ref 0), some (.ref 2)]) (st' := [.ref 0]) (w' := ((cTp 0 t) ++ (cSh 2 s))) (by decide +kernel) rfl trivial ?_
          refine m_ldcS M 4 (by decide) rfl rfl (by decide +kernel) ?_
          obtain ⟨r1009, h_1009, hf⟩ := bnd_s hf
          refine m_cV0 M (rest := []) (w2 := ((cTp 0 t) ++ (cSh 2 s))) (st2 := [.int r1009]) (run_X2_isWord  4 (by decide) t h_1009) cv_X2_isWord lk_X2_34 (by decide +kernel) [0, 1] (by decide) ⟨Nat.le_of_ble_eq_true rfl, Nat.le_of_ble_eq_true rfl⟩ rfl rfl rfl (Nat.le_of_ble_eq_true rfl) ⟨by decide, by decide⟩ rfl rfl ⟨Nat.zero_le _, Nat.zero_le _⟩ rfl rfl ?_
          rcases ite_s hf with ⟨c_1010, hf⟩ | ⟨c_1010, hf⟩
          · refine m_jT M (i := .ifCond .eq 9) 90 (by decide +kernel) rfl (by decide) c_1010 ?_
            refine m_run M (is := [(90, .aload_n 0, 0)]) (pc' := 91) (L' := [some (.ref 0), some (.ref 2)]) (st' := [.ref 0]) (w' := ((cTp 0 t) ++ (cSh 2 s))) (by decide +kernel) rfl trivial ?_
            refine m_ldcS M 5 (by decide) rfl rfl (by decide +kernel) ?_
            obtain ⟨r1011, h_1011, hf⟩ := bnd_s hf
            refine m_cV0 M (rest := []) (w2 := ((cTp 0 t) ++ (cSh 2 s))) (st2 := [.int r1011]) (run_X2_isWord  5 (by decide) t h_1011) cv_X2_isWord lk_X2_34 (by decide +kernel) [0, 1] (by decide) ⟨Nat.le_of_ble_eq_true rfl, Nat.le_of_ble_eq_true rfl⟩ rfl rfl rfl (Nat.le_of_ble_eq_true rfl) ⟨by decide, by decide⟩ rfl rfl ⟨Nat.zero_le _, Nat.zero_le _⟩ rfl rfl ?_
            rcases ite_s hf with ⟨c_1012, hf⟩ | ⟨c_1012, hf⟩
            · refine m_jT M (i := .ifCond .eq 9) 105 (by decide +kernel) rfl (by decide) c_1012 ?_
              refine m_run M (is := [(105, .aload_n 0, 0)]) (pc' := 106) (L' := [some (.ref 0), some (.ref 2)]) (st' := [.ref 0]) (w' := ((cTp 0 t) ++ (cSh 2 s))) (by decide +kernel) rfl trivial ?_
              refine m_ldcS M 6 (by decide) rfl rfl (by decide +kernel) ?_
              obtain ⟨r1013, h_1013, hf⟩ := bnd_s hf
              refine m_cV0 M (rest := []) (w2 := ((cTp 0 t) ++ (cSh 2 s))) (st2 := [.int r1013]) (run_X2_isWord  6 (by decide) t h_1013) cv_X2_isWord lk_X2_34 (by decide +kernel) [0, 1] (by decide) ⟨Nat.le_of_ble_eq_true rfl, Nat.le_of_ble_eq_true rfl⟩ rfl rfl rfl (Nat.le_of_ble_eq_true rfl) ⟨by decide, by decide⟩ rfl rfl ⟨Nat.zero_le _, Nat.zero_le _⟩ rfl rfl ?_
              rcases ite_s hf with ⟨c_1014, hf⟩ | ⟨c_1014, hf⟩
              · refine m_jT M (i := .ifCond .eq 15) 126 (by decide +kernel) rfl (by decide) c_1014 ?_
                refine m_run M (is := [(126, .iconst 0, 0)]) (pc' := 127) (L' := [some (.ref 0), some (.ref 2)]) (st' := [.int 0]) (w' := ((cTp 0 t) ++ (cSh 2 s))) (by decide +kernel) rfl trivial ?_
                obtain rfl := Option.some.inj hf
                exact m_zret K (by decide +kernel) (Or.inl rfl) (Nat.zero_le _) (Nat.zero_le _) ⟨rfl, rfl⟩
              · refine m_jF M (i := .ifCond .eq 15) 126 (by decide +kernel) rfl (by decide) c_1014 ?_
                refine m_run M (is := [(114, .aload_n 0, 0), (115, .aload_n 1, 0)]) (pc' := 116) (L' := [some (.ref 0), some (.ref 2)]) (st' := [.ref 2, .ref 0]) (w' := ((cTp 0 t) ++ (cSh 2 s))) (by decide +kernel) rfl trivial ?_
                obtain ⟨r1015, h_1015, hf⟩ := bnd_s hf
                refine m_cV0 M (rest := []) (w2 := ((cTp 0 r1015.2.1) ++ (cSh 2 r1015.2.2))) (st2 := [.int r1015.1]) (run_X2_readCount    t s h_1015) cv_X2_readCount lk_X2_74 (by decide +kernel) [0, 1, 2, 3, 4, 5, 6, 7] (by decide) ⟨Nat.le_of_ble_eq_true rfl, Nat.le_of_ble_eq_true rfl⟩ rfl rfl rfl (Nat.le_of_ble_eq_true rfl) ⟨by decide, by decide⟩ rfl rfl ⟨Nat.zero_le _, Nat.zero_le _⟩ rfl rfl ?_
                rcases ite_s hf with ⟨c_1016, hf⟩ | ⟨c_1016, hf⟩
                · refine m_jT M (i := .ifCond .eq 7) 126 (by decide +kernel) rfl (by decide) c_1016 ?_
                  refine m_run M (is := [(126, .iconst 0, 0)]) (pc' := 127) (L' := [some (.ref 0), some (.ref 2)]) (st' := [.int 0]) (w' := ((cTp 0 r1015.2.1) ++ (cSh 2 r1015.2.2))) (by decide +kernel) rfl trivial ?_
                  obtain rfl := Option.some.inj hf
                  exact m_zret K (by decide +kernel) (Or.inl rfl) (Nat.zero_le _) (Nat.zero_le _) ⟨rfl, rfl⟩
                · refine m_jF M (i := .ifCond .eq 7) 126 (by decide +kernel) rfl (by decide) c_1016 ?_
                  refine m_run M (is := [(122, .iconst 1, 1), (123, .goto 4, 0)]) (pc' := 127) (L' := [some (.ref 0), some (.ref 2)]) (st' := [.int 1]) (w' := ((cTp 0 r1015.2.1) ++ (cSh 2 r1015.2.2))) (by decide +kernel) rfl trivial ?_
                  obtain rfl := Option.some.inj hf
                  exact m_zret K (by decide +kernel) (Or.inr rfl) (Nat.zero_le _) (Nat.zero_le _) ⟨rfl, rfl⟩
            · refine m_jF M (i := .ifCond .eq 9) 105 (by decide +kernel) rfl (by decide) c_1012 ?_
              refine m_run M (is := [(99, .aload_n 0, 0), (100, .aload_n 1, 0)]) (pc' := 101) (L' := [some (.ref 0), some (.ref 2)]) (st' := [.ref 2, .ref 0]) (w' := ((cTp 0 t) ++ (cSh 2 s))) (by decide +kernel) rfl trivial ?_
              obtain ⟨r1017, h_1017, hf⟩ := bnd_s hf
              refine m_cV0 M (rest := []) (w2 := ((cTp 0 r1017.2.1) ++ (cSh 2 r1017.2.2))) (st2 := [.int r1017.1]) (run_X2_readLeave    t s h_1017) cv_X2_readLeave lk_X2_69 (by decide +kernel) [0, 1, 2, 3, 4, 5, 6, 7] (by decide) ⟨Nat.le_of_ble_eq_true rfl, Nat.le_of_ble_eq_true rfl⟩ rfl rfl rfl (Nat.le_of_ble_eq_true rfl) ⟨by decide, by decide⟩ rfl rfl ⟨Nat.zero_le _, Nat.zero_le _⟩ rfl rfl ?_
              obtain ⟨h_1018, hf⟩ := grd_s hf
              obtain rfl := Option.some.inj hf
              exact m_zret K (by decide +kernel) (z01_use h_1018) (Nat.zero_le _) (Nat.zero_le _) ⟨rfl, rfl⟩
          · refine m_jF M (i := .ifCond .eq 9) 90 (by decide +kernel) rfl (by decide) c_1010 ?_
            refine m_run M (is := [(84, .aload_n 0, 0), (85, .aload_n 1, 0)]) (pc' := 86) (L' := [some (.ref 0), some (.ref 2)]) (st' := [.ref 2, .ref 0]) (w' := ((cTp 0 t) ++ (cSh 2 s))) (by decide +kernel) rfl trivial ?_
            obtain ⟨r1019, h_1019, hf⟩ := bnd_s hf
            refine m_cV0 M (rest := []) (w2 := ((cTp 0 r1019.2.1) ++ (cSh 2 r1019.2.2))) (st2 := [.int r1019.1]) (run_X2_readLet    t s h_1019) cv_X2_readLet lk_X2_64 (by decide +kernel) [0, 1, 2, 3, 4, 5, 6, 7] (by decide) ⟨Nat.le_of_ble_eq_true rfl, Nat.le_of_ble_eq_true rfl⟩ rfl rfl rfl (Nat.le_of_ble_eq_true rfl) ⟨by decide, by decide⟩ rfl rfl ⟨Nat.zero_le _, Nat.zero_le _⟩ rfl rfl ?_
            obtain ⟨h_1020, hf⟩ := grd_s hf
            obtain rfl := Option.some.inj hf
            exact m_zret K (by decide +kernel) (z01_use h_1020) (Nat.zero_le _) (Nat.zero_le _) ⟨rfl, rfl⟩
        · refine m_jF M (i := .ifCond .eq 9) 75 (by decide +kernel) rfl (by decide) c_1008 ?_
          refine m_run M (is := [(69, .aload_n 0, 0), (70, .aload_n 1, 0)]) (pc' := 71) (L' := [some (.ref 0), some (.ref 2)]) (st' := [.ref 2, .ref 0]) (w' := ((cTp 0 t) ++ (cSh 2 s))) (by decide +kernel) rfl trivial ?_
          obtain ⟨r1021, h_1021, hf⟩ := bnd_s hf
          refine m_cV0 M (rest := []) (w2 := ((cTp 0 r1021.2.1) ++ (cSh 2 r1021.2.2))) (st2 := [.int r1021.1]) (run_X2_readServe    t s h_1021) cv_X2_readServe lk_X2_59 (by decide +kernel) [0, 1, 2, 3, 4, 5, 6, 7] (by decide) ⟨Nat.le_of_ble_eq_true rfl, Nat.le_of_ble_eq_true rfl⟩ rfl rfl rfl (Nat.le_of_ble_eq_true rfl) ⟨by decide, by decide⟩ rfl rfl ⟨Nat.zero_le _, Nat.zero_le _⟩ rfl rfl ?_
          obtain ⟨h_1022, hf⟩ := grd_s hf
          obtain rfl := Option.some.inj hf
          exact m_zret K (by decide +kernel) (z01_use h_1022) (Nat.zero_le _) (Nat.zero_le _) ⟨rfl, rfl⟩
      · refine m_jF M (i := .ifCond .eq 9) 60 (by decide +kernel) rfl (by decide) c_1006 ?_
        refine m_run M (is := [(54, .aload_n 0, 0), (55, .aload_n 1, 0)]) (pc' := 56) (L' := [some (.ref 0), some (.ref 2)]) (st' := [.ref 2, .ref 0]) (w' := ((cTp 0 t) ++ (cSh 2 s))) (by decide +kernel) rfl trivial ?_
        obtain ⟨r1023, h_1023, hf⟩ := bnd_s hf
        refine m_cV0 M (rest := []) (w2 := ((cTp 0 r1023.2.1) ++ (cSh 2 r1023.2.2))) (st2 := [.int r1023.1]) (run_X2_readUse    t s h_1023) cv_X2_readUse lk_X2_54 (by decide +kernel) [0, 1, 2, 3, 4, 5, 6, 7] (by decide) ⟨Nat.le_of_ble_eq_true rfl, Nat.le_of_ble_eq_true rfl⟩ rfl rfl rfl (Nat.le_of_ble_eq_true rfl) ⟨by decide, by decide⟩ rfl rfl ⟨Nat.zero_le _, Nat.zero_le _⟩ rfl rfl ?_
        obtain ⟨h_1024, hf⟩ := grd_s hf
        obtain rfl := Option.some.inj hf
        exact m_zret K (by decide +kernel) (z01_use h_1024) (Nat.zero_le _) (Nat.zero_le _) ⟨rfl, rfl⟩
    · refine m_jF M (i := .ifCond .eq 24) 45 (by decide +kernel) rfl (by decide) c_1004 ?_
      refine m_run M (is := [(24, .aload_n 1, 0)]) (pc' := 25) (L' := [some (.ref 0), some (.ref 2)]) (st' := [.ref 2]) (w' := ((cTp 0 t) ++ (cSh 2 s))) (by decide +kernel) rfl trivial ?_
      obtain ⟨r1025, h_1025, hf⟩ := bnd_s hf
      refine m_cV0 M (rest := []) (w2 := ((cTp 0 t) ++ (cSh 2 s))) (st2 := [.int r1025]) (run_X1_hasRoomForLaw    s h_1025) cv_X1_hasRoomForLaw lk_X2_43 (by decide +kernel) [2, 3, 4, 5, 6, 7] (by decide) ⟨Nat.le_of_ble_eq_true rfl, Nat.le_of_ble_eq_true rfl⟩ rfl rfl rfl (Nat.le_of_ble_eq_true rfl) ⟨by decide, by decide⟩ rfl rfl ⟨Nat.zero_le _, Nat.zero_le _⟩ rfl rfl ?_
      rcases ite_s hf with ⟨c_1026, hf⟩ | ⟨c_1026, hf⟩
      · refine m_jT M (i := .ifCond .eq 15) 43 (by decide +kernel) rfl (by decide) c_1026 ?_
        refine m_run M (is := [(43, .iconst 0, 0)]) (pc' := 44) (L' := [some (.ref 0), some (.ref 2)]) (st' := [.int 0]) (w' := ((cTp 0 t) ++ (cSh 2 s))) (by decide +kernel) rfl trivial ?_
        obtain rfl := Option.some.inj hf
        exact m_zret K (by decide +kernel) (Or.inl rfl) (Nat.zero_le _) (Nat.zero_le _) ⟨rfl, rfl⟩
      · refine m_jF M (i := .ifCond .eq 15) 43 (by decide +kernel) rfl (by decide) c_1026 ?_
        refine m_run M (is := [(31, .aload_n 0, 0), (32, .aload_n 1, 0)]) (pc' := 33) (L' := [some (.ref 0), some (.ref 2)]) (st' := [.ref 2, .ref 0]) (w' := ((cTp 0 t) ++ (cSh 2 s))) (by decide +kernel) rfl trivial ?_
        obtain ⟨r1027, h_1027, hf⟩ := bnd_s hf
        refine m_cV0 M (rest := []) (w2 := ((cTp 0 r1027.2.1) ++ (cSh 2 r1027.2.2))) (st2 := [.int r1027.1]) (run_X2_readLaw    t s h_1027) cv_X2_readLaw lk_X2_49 (by decide +kernel) [0, 1, 2, 3, 4, 5, 6, 7] (by decide) ⟨Nat.le_of_ble_eq_true rfl, Nat.le_of_ble_eq_true rfl⟩ rfl rfl rfl (Nat.le_of_ble_eq_true rfl) ⟨by decide, by decide⟩ rfl rfl ⟨Nat.zero_le _, Nat.zero_le _⟩ rfl rfl ?_
        rcases ite_s hf with ⟨c_1028, hf⟩ | ⟨c_1028, hf⟩
        · refine m_jT M (i := .ifCond .eq 7) 43 (by decide +kernel) rfl (by decide) c_1028 ?_
          refine m_run M (is := [(43, .iconst 0, 0)]) (pc' := 44) (L' := [some (.ref 0), some (.ref 2)]) (st' := [.int 0]) (w' := ((cTp 0 r1027.2.1) ++ (cSh 2 r1027.2.2))) (by decide +kernel) rfl trivial ?_
          obtain rfl := Option.some.inj hf
          exact m_zret K (by decide +kernel) (Or.inl rfl) (Nat.zero_le _) (Nat.zero_le _) ⟨rfl, rfl⟩
        · refine m_jF M (i := .ifCond .eq 7) 43 (by decide +kernel) rfl (by decide) c_1028 ?_
          refine m_run M (is := [(39, .iconst 1, 1), (40, .goto 4, 0)]) (pc' := 44) (L' := [some (.ref 0), some (.ref 2)]) (st' := [.int 1]) (w' := ((cTp 0 r1027.2.1) ++ (cSh 2 r1027.2.2))) (by decide +kernel) rfl trivial ?_
          obtain rfl := Option.some.inj hf
          exact m_zret K (by decide +kernel) (Or.inr rfl) (Nat.zero_le _) (Nat.zero_le _) ⟨rfl, rfl⟩
  · refine m_jF M (i := .ifCond .eq 9) 15 (by decide +kernel) rfl (by decide) c_1002 ?_
    refine m_run M (is := [(9, .aload_n 0, 0), (10, .aload_n 1, 0)]) (pc' := 11) (L' := [some (.ref 0), some (.ref 2)]) (st' := [.ref 2, .ref 0]) (w' := ((cTp 0 t) ++ (cSh 2 s))) (by decide +kernel) rfl trivial ?_
    obtain ⟨r1029, h_1029, hf⟩ := bnd_s hf
    refine m_cV0 M (rest := []) (w2 := ((cTp 0 r1029.2.1) ++ (cSh 2 r1029.2.2))) (st2 := [.int r1029.1]) (run_X2_readPeople    t s h_1029) cv_X2_readPeople lk_X2_38 (by decide +kernel) [0, 1, 2, 3, 4, 5, 6, 7] (by decide) ⟨Nat.le_of_ble_eq_true rfl, Nat.le_of_ble_eq_true rfl⟩ rfl rfl rfl (Nat.le_of_ble_eq_true rfl) ⟨by decide, by decide⟩ rfl rfl ⟨Nat.zero_le _, Nat.zero_le _⟩ rfl rfl ?_
    obtain ⟨h_1030, hf⟩ := grd_s hf
    obtain rfl := Option.some.inj hf
    exact m_zret K (by decide +kernel) (z01_use h_1030) (Nat.zero_le _) (Nat.zero_le _) ⟨rfl, rfl⟩

def f_X2_readInto_L0  : Nat → Int32 → TpT → ShT → Option (Int32 × TpT × ShT)
  | 0, _, _, _ => none
  | n_ + 1, v2, t, s =>
    if 250 < v2 then
      some ((-1), t, s)
    else
      (f_X2_goOn t).bind fun r102 =>
      (f_X2_readStatement r102 s).bind fun r103 =>
      if r103.1 = 0 then
        some ((-1), r103.2.1, r103.2.2)
      else
        (f_X2_goOn r103.2.1).bind fun r105 =>
        if r105.2.2.1 < r105.2.1 then
          if inB r105.2.2.1 250 then
          if (r105.1 r105.2.2.1.toNatClampNeg) = 59 then
            f_X2_readInto_L0 n_ (v2 + 1) r105 r103.2.2
          else
            some ((-1), r105, r103.2.2)
          else none
        else
          some (v2, r105, r103.2.2)
def f_X2_readInto (t : TpT) (s : ShT) : Option (Int32 × TpT × ShT) :=
  f_X2_readInto_L0 fuel0 1 (t.1, t.2.1, t.2.2.1, 0) s
set_option maxRecDepth 100000 in
set_option maxHeartbeats 4000000 in
theorem run_X2_readInto {l : Launch} {D : va_G} {cT : Nat → ClassId}    (t : TpT) (s : ShT) {r : Int32 × TpT × ShT} (hf : f_X2_readInto t s = some r) : Runs l D cT yX2_readInto cX2_readInto 3 (some .int) 6 128 [.ref 0, .ref 2] ((cTp 0 t) ++ (cSh 2 s)) (EQ (some (.int r.1)) ((cTp 0 r.2.1) ++ (cSh 2 r.2.2))) := by
  refine runs_of O_X2 okO_X2 (by decide +kernel) rfl rfl (Nat.le_of_ble_eq_true rfl) (Nat.le_of_ble_eq_true rfl) (fun g K => ?_)
  have M := K.b
  show g 0 0 ((cTp 0 t) ++ (cSh 2 s)) 0 [some (.ref 0), some (.ref 2), none] []
  have loop_0 : ∀ (n_ : Nat), (∀ (v2 : Int32) (t : TpT) (s : ShT), f_X2_readInto_L0  n_ v2 t s = some r → g 0 0 ((cTp 0 t) ++ (cSh 2 s)) 7 [some (.ref 0), some (.ref 2), some (.int v2)] []) := by
    intro n_
    induction n_ with
    | zero => intro v2 t s hf; cases hf
    | succ n_ ih =>
      intro v2 t s hf
      rw [f_X2_readInto_L0] at hf
      refine m_run M (is := [(7, .iload_n 2, 0), (8, .sipush 250, 250)]) (pc' := 11) (L' := [some (.ref 0), some (.ref 2), some (.int v2)]) (st' := [.int 250, .int v2]) (w' := ((cTp 0 t) ++ (cSh 2 s))) (by decide +kernel) rfl trivial ?_
      rcases ite_s hf with ⟨c_101, hf⟩ | ⟨c_101, hf⟩
      · refine m_jT M (i := .if_icmp .gt 56) 67 (by decide +kernel) rfl (by decide) c_101 ?_
        refine m_run M (is := [(67, .iconst (-1), -1)]) (pc' := 68) (L' := [some (.ref 0), some (.ref 2), some (.int v2)]) (st' := [.int (-1)]) (w' := ((cTp 0 t) ++ (cSh 2 s))) (by decide +kernel) rfl trivial ?_
        obtain rfl := Option.some.inj hf
        exact m_iret K (by decide +kernel) (Nat.zero_le _) (Nat.zero_le _) ⟨rfl, rfl⟩
      · refine m_jF M (i := .if_icmp .gt 56) 67 (by decide +kernel) rfl (by decide) c_101 ?_
        refine m_run M (is := [(14, .aload_n 0, 0)]) (pc' := 15) (L' := [some (.ref 0), some (.ref 2), some (.int v2)]) (st' := [.ref 0]) (w' := ((cTp 0 t) ++ (cSh 2 s))) (by decide +kernel) rfl trivial ?_
        obtain ⟨r102, h_102, hf⟩ := bnd_s hf
        refine m_cV0 M (rest := []) (w2 := ((cTp 0 r102) ++ (cSh 2 s))) (st2 := []) (run_X2_goOn    t h_102) cv_X2_goOn lk_X2_22 (by decide +kernel) [0, 1] (by decide) ⟨Nat.le_of_ble_eq_true rfl, Nat.le_of_ble_eq_true rfl⟩ rfl rfl rfl (Nat.le_of_ble_eq_true rfl) ⟨by decide, by decide⟩ rfl rfl ⟨Nat.zero_le _, Nat.zero_le _⟩ rfl rfl ?_
        refine m_run M (is := [(18, .aload_n 0, 0), (19, .aload_n 1, 0)]) (pc' := 20) (L' := [some (.ref 0), some (.ref 2), some (.int v2)]) (st' := [.ref 2, .ref 0]) (w' := ((cTp 0 r102) ++ (cSh 2 s))) (by decide +kernel) rfl trivial ?_
        obtain ⟨r103, h_103, hf⟩ := bnd_s hf
        refine m_cV0 M (rest := []) (w2 := ((cTp 0 r103.2.1) ++ (cSh 2 r103.2.2))) (st2 := [.int r103.1]) (run_X2_readStatement    r102 s h_103) cv_X2_readStatement lk_X2_25 (by decide +kernel) [0, 1, 2, 3, 4, 5, 6, 7] (by decide) ⟨Nat.le_of_ble_eq_true rfl, Nat.le_of_ble_eq_true rfl⟩ rfl rfl rfl (Nat.le_of_ble_eq_true rfl) ⟨by decide, by decide⟩ rfl rfl ⟨Nat.zero_le _, Nat.zero_le _⟩ rfl rfl ?_
        rcases ite_s hf with ⟨c_104, hf⟩ | ⟨c_104, hf⟩
        · refine m_jF M (i := .ifCond .ne 5) 28 (by decide +kernel) rfl (by decide) (fun n => n c_104) ?_
          refine m_run M (is := [(26, .iconst (-1), -1)]) (pc' := 27) (L' := [some (.ref 0), some (.ref 2), some (.int v2)]) (st' := [.int (-1)]) (w' := ((cTp 0 r103.2.1) ++ (cSh 2 r103.2.2))) (by decide +kernel) rfl trivial ?_
          obtain rfl := Option.some.inj hf
          exact m_iret K (by decide +kernel) (Nat.zero_le _) (Nat.zero_le _) ⟨rfl, rfl⟩
        · refine m_jT M (i := .ifCond .ne 5) 28 (by decide +kernel) rfl (by decide) c_104 ?_
          refine m_run M (is := [(28, .aload_n 0, 0)]) (pc' := 29) (L' := [some (.ref 0), some (.ref 2), some (.int v2)]) (st' := [.ref 0]) (w' := ((cTp 0 r103.2.1) ++ (cSh 2 r103.2.2))) (by decide +kernel) rfl trivial ?_
          obtain ⟨r105, h_105, hf⟩ := bnd_s hf
          refine m_cV0 M (rest := []) (w2 := ((cTp 0 r105) ++ (cSh 2 r103.2.2))) (st2 := []) (run_X2_goOn    r103.2.1 h_105) cv_X2_goOn lk_X2_22 (by decide +kernel) [0, 1] (by decide) ⟨Nat.le_of_ble_eq_true rfl, Nat.le_of_ble_eq_true rfl⟩ rfl rfl rfl (Nat.le_of_ble_eq_true rfl) ⟨by decide, by decide⟩ rfl rfl ⟨Nat.zero_le _, Nat.zero_le _⟩ rfl rfl ?_
          refine m_run M (is := [(32, .aload_n 0, 0), (33, .getfield 29, 0), (36, .aload_n 0, 0), (37, .getfield 15, 0)]) (pc' := 40) (L' := [some (.ref 0), some (.ref 2), some (.int v2)]) (st' := [.int r105.2.1, .int r105.2.2.1]) (w' := ((cTp 0 r105) ++ (cSh 2 r103.2.2))) (by decide +kernel) rfl trivial ?_
          rcases ite_s hf with ⟨c_106, hf⟩ | ⟨c_106, hf⟩
          · refine m_jT M (i := .if_icmp .lt 5) 45 (by decide +kernel) rfl (by decide) c_106 ?_
            obtain ⟨h_107, hf⟩ := grd_s hf
            refine m_run M (is := [(45, .aload_n 0, 0), (46, .getfield 9, 0), (49, .aload_n 0, 0), (50, .getfield 29, 0), (53, .iaload, 0), (54, .bipush 59, 59)]) (pc' := 56) (L' := [some (.ref 0), some (.ref 2), some (.int v2)]) (st' := [.int 59, .int (r105.1 r105.2.2.1.toNatClampNeg)]) (w' := ((cTp 0 r105) ++ (cSh 2 r103.2.2))) (by decide +kernel) rfl ⟨inB_use h_107, trivial⟩ ?_
            rcases ite_s hf with ⟨c_108, hf⟩ | ⟨c_108, hf⟩
            · refine m_jT M (i := .if_icmp .eq 5) 61 (by decide +kernel) rfl (by decide) c_108 ?_
              refine m_run M (is := [(61, .iinc 2 1, 1), (64, .goto (-57), 0)]) (pc' := 7) (L' := [some (.ref 0), some (.ref 2), some (.int (v2 + 1))]) (st' := []) (w' := ((cTp 0 r105) ++ (cSh 2 r103.2.2))) (by decide +kernel) rfl trivial ?_
              exact ih (v2 + 1) r105 r103.2.2 hf
            · refine m_jF M (i := .if_icmp .eq 5) 61 (by decide +kernel) rfl (by decide) c_108 ?_
              refine m_run M (is := [(59, .iconst (-1), -1)]) (pc' := 60) (L' := [some (.ref 0), some (.ref 2), some (.int v2)]) (st' := [.int (-1)]) (w' := ((cTp 0 r105) ++ (cSh 2 r103.2.2))) (by decide +kernel) rfl trivial ?_
              obtain rfl := Option.some.inj hf
              exact m_iret K (by decide +kernel) (Nat.zero_le _) (Nat.zero_le _) ⟨rfl, rfl⟩
          · refine m_jF M (i := .if_icmp .lt 5) 45 (by decide +kernel) rfl (by decide) c_106 ?_
            refine m_run M (is := [(43, .iload_n 2, 0)]) (pc' := 44) (L' := [some (.ref 0), some (.ref 2), some (.int v2)]) (st' := [.int v2]) (w' := ((cTp 0 r105) ++ (cSh 2 r103.2.2))) (by decide +kernel) rfl trivial ?_
            obtain rfl := Option.some.inj hf
            exact m_iret K (by decide +kernel) (Nat.zero_le _) (Nat.zero_le _) ⟨rfl, rfl⟩
  rw [f_X2_readInto] at hf
  refine m_run M (is := [(0, .aload_n 0, 0), (1, .iconst 0, 0), (2, .putfield 19, 0), (5, .iconst 1, 1), (6, .istore_n 2, 0)]) (pc' := 7) (L' := [some (.ref 0), some (.ref 2), some (.int 1)]) (st' := []) (w' := ((cTp 0 (t.1, t.2.1, t.2.2.1, 0)) ++ (cSh 2 s))) (by decide +kernel) rfl trivial ?_
  exact loop_0 fuel0 1 (t.1, t.2.1, t.2.2.1, 0) s hf

def f_X0_holdsRow (u : SlT) : Option (Int32) :=
  if u.2.1 = (-1) then
    some 0
  else
    some 1
set_option maxRecDepth 100000 in
set_option maxHeartbeats 4000000 in
theorem run_X0_holdsRow {l : Launch} {D : va_G} {cT : Nat → ClassId}    (u : SlT) {r : Int32} (hf : f_X0_holdsRow u = some r) : Runs l D cT yX0_holdsRow cX0_holdsRow 1 (some .boolean) 0 0 [.ref 0] (cSl 0 u) (EQ (some (.int r)) (cSl 0 u)) := by
  refine runs_of O_X0 okO_X0 (by decide +kernel) rfl rfl (Nat.le_of_ble_eq_true rfl) (Nat.le_of_ble_eq_true rfl) (fun g K => ?_)
  have M := K.b
  show g 0 0 (cSl 0 u) 0 [some (.ref 0)] []
  rw [f_X0_holdsRow] at hf
  refine m_run M (is := [(0, .aload_n 0, 0), (1, .getfield 15, 0), (4, .iconst (-1), -1)]) (pc' := 5) (L' := [some (.ref 0)]) (st' := [.int (-1), .int u.2.1]) (w' := (cSl 0 u)) (by decide +kernel) rfl trivial ?_
  rcases ite_s hf with ⟨c_1001, hf⟩ | ⟨c_1001, hf⟩
  · refine m_jT M (i := .if_icmp .eq 7) 12 (by decide +kernel) rfl (by decide) c_1001 ?_
    refine m_run M (is := [(12, .iconst 0, 0)]) (pc' := 13) (L' := [some (.ref 0)]) (st' := [.int 0]) (w' := (cSl 0 u)) (by decide +kernel) rfl trivial ?_
    obtain rfl := Option.some.inj hf
    exact m_zret K (by decide +kernel) (Or.inl rfl) (Nat.zero_le _) (Nat.zero_le _) ⟨rfl, rfl⟩
  · refine m_jF M (i := .if_icmp .eq 7) 12 (by decide +kernel) rfl (by decide) c_1001 ?_
    refine m_run M (is := [(8, .iconst 1, 1), (9, .goto 4, 0)]) (pc' := 13) (L' := [some (.ref 0)]) (st' := [.int 1]) (w' := (cSl 0 u)) (by decide +kernel) rfl trivial ?_
    obtain rfl := Option.some.inj hf
    exact m_zret K (by decide +kernel) (Or.inr rfl) (Nat.zero_le _) (Nat.zero_le _) ⟨rfl, rfl⟩

def f_X0_holdsLaw (u : SlT) : Option (Int32) :=
  if u.2.2.1 = (-1) then
    some 0
  else
    some 1
set_option maxRecDepth 100000 in
set_option maxHeartbeats 4000000 in
theorem run_X0_holdsLaw {l : Launch} {D : va_G} {cT : Nat → ClassId}    (u : SlT) {r : Int32} (hf : f_X0_holdsLaw u = some r) : Runs l D cT yX0_holdsLaw cX0_holdsLaw 1 (some .boolean) 0 0 [.ref 0] (cSl 0 u) (EQ (some (.int r)) (cSl 0 u)) := by
  refine runs_of O_X0 okO_X0 (by decide +kernel) rfl rfl (Nat.le_of_ble_eq_true rfl) (Nat.le_of_ble_eq_true rfl) (fun g K => ?_)
  have M := K.b
  show g 0 0 (cSl 0 u) 0 [some (.ref 0)] []
  rw [f_X0_holdsLaw] at hf
  refine m_run M (is := [(0, .aload_n 0, 0), (1, .getfield 19, 0), (4, .iconst (-1), -1)]) (pc' := 5) (L' := [some (.ref 0)]) (st' := [.int (-1), .int u.2.2.1]) (w' := (cSl 0 u)) (by decide +kernel) rfl trivial ?_
  rcases ite_s hf with ⟨c_1001, hf⟩ | ⟨c_1001, hf⟩
  · refine m_jT M (i := .if_icmp .eq 7) 12 (by decide +kernel) rfl (by decide) c_1001 ?_
    refine m_run M (is := [(12, .iconst 0, 0)]) (pc' := 13) (L' := [some (.ref 0)]) (st' := [.int 0]) (w' := (cSl 0 u)) (by decide +kernel) rfl trivial ?_
    obtain rfl := Option.some.inj hf
    exact m_zret K (by decide +kernel) (Or.inl rfl) (Nat.zero_le _) (Nat.zero_le _) ⟨rfl, rfl⟩
  · refine m_jF M (i := .if_icmp .eq 7) 12 (by decide +kernel) rfl (by decide) c_1001 ?_
    refine m_run M (is := [(8, .iconst 1, 1), (9, .goto 4, 0)]) (pc' := 13) (L' := [some (.ref 0)]) (st' := [.int 1]) (w' := (cSl 0 u)) (by decide +kernel) rfl trivial ?_
    obtain rfl := Option.some.inj hf
    exact m_zret K (by decide +kernel) (Or.inr rfl) (Nat.zero_le _) (Nat.zero_le _) ⟨rfl, rfl⟩

def f_X0_refusalOfRow (u : SlT) : Option (Int32) :=
  (f_X0_holdsLaw u).bind fun r1001 =>
  if r1001 = 0 then
    (f_X0_holdsRow u).bind fun r1003 =>
    if r1003 = 0 then
      some (-4)
    else
      some 0
  else
    some (-3)
set_option maxRecDepth 100000 in
set_option maxHeartbeats 4000000 in
theorem run_X0_refusalOfRow {l : Launch} {D : va_G} {cT : Nat → ClassId}    (u : SlT) {r : Int32} (hf : f_X0_refusalOfRow u = some r) : Runs l D cT yX0_refusalOfRow cX0_refusalOfRow 1 (some .int) 1 20 [.ref 0] (cSl 0 u) (EQ (some (.int r)) (cSl 0 u)) := by
  refine runs_of O_X0 okO_X0 (by decide +kernel) rfl rfl (Nat.le_of_ble_eq_true rfl) (Nat.le_of_ble_eq_true rfl) (fun g K => ?_)
  have M := K.b
  show g 0 0 (cSl 0 u) 0 [some (.ref 0)] []
  rw [f_X0_refusalOfRow] at hf
  refine m_run M (is := [(0, .aload_n 0, 0)]) (pc' := 1) (L' := [some (.ref 0)]) (st' := [.ref 0]) (w' := (cSl 0 u)) (by decide +kernel) rfl trivial ?_
  obtain ⟨r1001, h_1001, hf⟩ := bnd_s hf
  refine m_cV0 M (rest := []) (w2 := (cSl 0 u)) (st2 := [.int r1001]) (run_X0_holdsLaw    u h_1001) cv_X0_holdsLaw lk_X0_26 (by decide +kernel) [0, 1] (by decide) ⟨Nat.le_of_ble_eq_true rfl, Nat.le_of_ble_eq_true rfl⟩ rfl rfl rfl (Nat.le_of_ble_eq_true rfl) ⟨by decide, by decide⟩ rfl rfl ⟨Nat.zero_le _, Nat.zero_le _⟩ rfl rfl ?_
  rcases ite_s hf with ⟨c_1002, hf⟩ | ⟨c_1002, hf⟩
  · refine m_jT M (i := .ifCond .eq 6) 10 (by decide +kernel) rfl (by decide) c_1002 ?_
    refine m_run M (is := [(10, .aload_n 0, 0)]) (pc' := 11) (L' := [some (.ref 0)]) (st' := [.ref 0]) (w' := (cSl 0 u)) (by decide +kernel) rfl trivial ?_
    obtain ⟨r1003, h_1003, hf⟩ := bnd_s hf
    refine m_cV0 M (rest := []) (w2 := (cSl 0 u)) (st2 := [.int r1003]) (run_X0_holdsRow    u h_1003) cv_X0_holdsRow lk_X0_22 (by decide +kernel) [0, 1] (by decide) ⟨Nat.le_of_ble_eq_true rfl, Nat.le_of_ble_eq_true rfl⟩ rfl rfl rfl (Nat.le_of_ble_eq_true rfl) ⟨by decide, by decide⟩ rfl rfl ⟨Nat.zero_le _, Nat.zero_le _⟩ rfl rfl ?_
    rcases ite_s hf with ⟨c_1004, hf⟩ | ⟨c_1004, hf⟩
    · refine m_jT M (i := .ifCond .eq 7) 21 (by decide +kernel) rfl (by decide) c_1004 ?_
      refine m_run M (is := [(21, .bipush (-4), -4)]) (pc' := 23) (L' := [some (.ref 0)]) (st' := [.int (-4)]) (w' := (cSl 0 u)) (by decide +kernel) rfl trivial ?_
      obtain rfl := Option.some.inj hf
      exact m_iret K (by decide +kernel) (Nat.zero_le _) (Nat.zero_le _) ⟨rfl, rfl⟩
    · refine m_jF M (i := .ifCond .eq 7) 21 (by decide +kernel) rfl (by decide) c_1004 ?_
      refine m_run M (is := [(17, .iconst 0, 0), (18, .goto 5, 0)]) (pc' := 23) (L' := [some (.ref 0)]) (st' := [.int 0]) (w' := (cSl 0 u)) (by decide +kernel) rfl trivial ?_
      obtain rfl := Option.some.inj hf
      exact m_iret K (by decide +kernel) (Nat.zero_le _) (Nat.zero_le _) ⟨rfl, rfl⟩
  · refine m_jF M (i := .ifCond .eq 6) 10 (by decide +kernel) rfl (by decide) c_1002 ?_
    refine m_run M (is := [(7, .bipush (-3), -3)]) (pc' := 9) (L' := [some (.ref 0)]) (st' := [.int (-3)]) (w' := (cSl 0 u)) (by decide +kernel) rfl trivial ?_
    obtain rfl := Option.some.inj hf
    exact m_iret K (by decide +kernel) (Nat.zero_le _) (Nat.zero_le _) ⟨rfl, rfl⟩

def f_X0_content (u : SlT) : Option (Int32) :=
  (f_X0_holdsLaw u).bind fun r1001 =>
  if r1001 = 0 then
    some u.2.1
  else
    some (10 + u.2.2.1)
set_option maxRecDepth 100000 in
set_option maxHeartbeats 4000000 in
theorem run_X0_content {l : Launch} {D : va_G} {cT : Nat → ClassId}    (u : SlT) {r : Int32} (hf : f_X0_content u = some r) : Runs l D cT yX0_content cX0_content 1 (some .int) 1 20 [.ref 0] (cSl 0 u) (EQ (some (.int r)) (cSl 0 u)) := by
  refine runs_of O_X0 okO_X0 (by decide +kernel) rfl rfl (Nat.le_of_ble_eq_true rfl) (Nat.le_of_ble_eq_true rfl) (fun g K => ?_)
  have M := K.b
  show g 0 0 (cSl 0 u) 0 [some (.ref 0)] []
  rw [f_X0_content] at hf
  refine m_run M (is := [(0, .aload_n 0, 0)]) (pc' := 1) (L' := [some (.ref 0)]) (st' := [.ref 0]) (w' := (cSl 0 u)) (by decide +kernel) rfl trivial ?_
  obtain ⟨r1001, h_1001, hf⟩ := bnd_s hf
  refine m_cV0 M (rest := []) (w2 := (cSl 0 u)) (st2 := [.int r1001]) (run_X0_holdsLaw    u h_1001) cv_X0_holdsLaw lk_X0_26 (by decide +kernel) [0, 1] (by decide) ⟨Nat.le_of_ble_eq_true rfl, Nat.le_of_ble_eq_true rfl⟩ rfl rfl rfl (Nat.le_of_ble_eq_true rfl) ⟨by decide, by decide⟩ rfl rfl ⟨Nat.zero_le _, Nat.zero_le _⟩ rfl rfl ?_
  rcases ite_s hf with ⟨c_1002, hf⟩ | ⟨c_1002, hf⟩
  · refine m_jT M (i := .ifCond .eq 13) 17 (by decide +kernel) rfl (by decide) c_1002 ?_
    refine m_run M (is := [(17, .aload_n 0, 0), (18, .getfield 15, 0)]) (pc' := 21) (L' := [some (.ref 0)]) (st' := [.int u.2.1]) (w' := (cSl 0 u)) (by decide +kernel) rfl trivial ?_
    obtain rfl := Option.some.inj hf
    exact m_iret K (by decide +kernel) (Nat.zero_le _) (Nat.zero_le _) ⟨rfl, rfl⟩
  · refine m_jF M (i := .ifCond .eq 13) 17 (by decide +kernel) rfl (by decide) c_1002 ?_
    refine m_run M (is := [(7, .bipush 10, 10), (9, .aload_n 0, 0), (10, .getfield 19, 0), (13, .iadd, 0), (14, .goto 7, 0)]) (pc' := 21) (L' := [some (.ref 0)]) (st' := [.int (10 + u.2.2.1)]) (w' := (cSl 0 u)) (by decide +kernel) rfl trivial ?_
    obtain rfl := Option.some.inj hf
    exact m_iret K (by decide +kernel) (Nat.zero_le _) (Nat.zero_le _) ⟨rfl, rfl⟩

def f_X0_holdRow (a0 : Int32) (a1 : Int32) (u : SlT) : Option (SlT) :=
  (f_J7_fill_d0a16 0 40 u.1).bind fun r1001 =>
  some (r1001, a0, (-1), a1)
set_option maxRecDepth 100000 in
set_option maxHeartbeats 4000000 in
theorem run_X0_holdRow {l : Launch} {D : va_G} {cT : Nat → ClassId} (a0 : Int32) (a1 : Int32)   (u : SlT) {r : SlT} (hf : f_X0_holdRow a0 a1 u = some r) : Runs l D cT yX0_holdRow cX0_holdRow 3 none 1 24 [.ref 0, .int a0, .int a1] (cSl 0 u) (EQ none (cSl 0 r)) := by
  refine runs_of O_X0 okO_X0 (by decide +kernel) rfl rfl (Nat.le_of_ble_eq_true rfl) (Nat.le_of_ble_eq_true rfl) (fun g K => ?_)
  have M := K.b
  show g 0 0 (cSl 0 u) 0 [some (.ref 0), some (.int a0), some (.int a1)] []
  rw [f_X0_holdRow] at hf
  refine m_run M (is := [(0, .aload_n 0, 0), (1, .iconst (-1), -1), (2, .putfield 19, 0), (5, .aload_n 0, 0), (6, .iload_n 1, 0), (7, .putfield 15, 0), (10, .aload_n 0, 0), (11, .iload_n 2, 0), (12, .putfield 29, 0), (15, .aload_n 0, 0), (16, .getfield 9, 0), (19, .lconst 0, 0)]) (pc' := 20) (L' := [some (.ref 0), some (.int a0), some (.int a1)]) (st' := [.long 0, .ref 1]) (w' := (cSl 0 (u.1, a0, (-1), a1))) (by decide +kernel) rfl trivial ?_
  obtain ⟨r1001, h_1001, hf⟩ := bnd_s hf
  refine m_cS0 M (rest := []) (w2 := (cSl 0 (r1001, a0, (-1), a1))) (st2 := []) (run_J7_fill_d0a16 0 40  u.1 h_1001) cs_J7_fill_d0a16 lk_X0_32 (by decide +kernel) [1] (by decide) ⟨Nat.le_of_ble_eq_true rfl, Nat.le_of_ble_eq_true rfl⟩ rfl rfl (Nat.le_of_ble_eq_true rfl) ⟨by decide, by decide⟩ rfl rfl ⟨Nat.zero_le _, Nat.zero_le _⟩ rfl rfl ?_
  obtain rfl := Option.some.inj hf
  exact m_vret K (by decide +kernel) (Nat.zero_le _) (Nat.zero_le _) ⟨rfl, rfl⟩

def f_X0_holdLaw (a0 : Int32) (u : SlT) : Option (SlT) :=
  some (u.1, (-1), a0, 0)
set_option maxRecDepth 100000 in
set_option maxHeartbeats 4000000 in
theorem run_X0_holdLaw {l : Launch} {D : va_G} {cT : Nat → ClassId} (a0 : Int32)   (u : SlT) {r : SlT} (hf : f_X0_holdLaw a0 u = some r) : Runs l D cT yX0_holdLaw cX0_holdLaw 2 none 0 0 [.ref 0, .int a0] (cSl 0 u) (EQ none (cSl 0 r)) := by
  refine runs_of O_X0 okO_X0 (by decide +kernel) rfl rfl (Nat.le_of_ble_eq_true rfl) (Nat.le_of_ble_eq_true rfl) (fun g K => ?_)
  have M := K.b
  show g 0 0 (cSl 0 u) 0 [some (.ref 0), some (.int a0)] []
  rw [f_X0_holdLaw] at hf
  refine m_run M (is := [(0, .aload_n 0, 0), (1, .iload_n 1, 0), (2, .putfield 19, 0), (5, .aload_n 0, 0), (6, .iconst (-1), -1), (7, .putfield 15, 0), (10, .aload_n 0, 0), (11, .iconst 0, 0), (12, .putfield 29, 0)]) (pc' := 15) (L' := [some (.ref 0), some (.int a0)]) (st' := []) (w' := (cSl 0 (u.1, (-1), a0, 0))) (by decide +kernel) rfl trivial ?_
  obtain rfl := Option.some.inj hf
  exact m_vret K (by decide +kernel) (Nat.zero_le _) (Nat.zero_le _) ⟨rfl, rfl⟩

def f_X0_hasPart (a0 : Int32) (a1 : Int32) (u : SlT) : Option (Int32) :=
  if a0 < 0 then
    some 0
  else
    if a1 < 0 then
      some 0
    else
      if u.2.2.2 < a1 then
        some 0
      else
        if (u.2.2.2 - a1) < a0 then
          some 0
        else
          some 1
set_option maxRecDepth 100000 in
set_option maxHeartbeats 4000000 in
theorem run_X0_hasPart {l : Launch} {D : va_G} {cT : Nat → ClassId} (a0 : Int32) (a1 : Int32)   (u : SlT) {r : Int32} (hf : f_X0_hasPart a0 a1 u = some r) : Runs l D cT yX0_hasPart cX0_hasPart 3 (some .boolean) 0 0 [.ref 0, .int a0, .int a1] (cSl 0 u) (EQ (some (.int r)) (cSl 0 u)) := by
  refine runs_of O_X0 okO_X0 (by decide +kernel) rfl rfl (Nat.le_of_ble_eq_true rfl) (Nat.le_of_ble_eq_true rfl) (fun g K => ?_)
  have M := K.b
  show g 0 0 (cSl 0 u) 0 [some (.ref 0), some (.int a0), some (.int a1)] []
  rw [f_X0_hasPart] at hf
  refine m_run M (is := [(0, .iload_n 1, 0)]) (pc' := 1) (L' := [some (.ref 0), some (.int a0), some (.int a1)]) (st' := [.int a0]) (w' := (cSl 0 u)) (by decide +kernel) rfl trivial ?_
  rcases ite_s hf with ⟨c_1001, hf⟩ | ⟨c_1001, hf⟩
  · refine m_jT M (i := .ifCond .lt 29) 30 (by decide +kernel) rfl (by decide) c_1001 ?_
    refine m_run M (is := [(30, .iconst 0, 0)]) (pc' := 31) (L' := [some (.ref 0), some (.int a0), some (.int a1)]) (st' := [.int 0]) (w' := (cSl 0 u)) (by decide +kernel) rfl trivial ?_
    obtain rfl := Option.some.inj hf
    exact m_zret K (by decide +kernel) (Or.inl rfl) (Nat.zero_le _) (Nat.zero_le _) ⟨rfl, rfl⟩
  · refine m_jF M (i := .ifCond .lt 29) 30 (by decide +kernel) rfl (by decide) c_1001 ?_
    refine m_run M (is := [(4, .iload_n 2, 0)]) (pc' := 5) (L' := [some (.ref 0), some (.int a0), some (.int a1)]) (st' := [.int a1]) (w' := (cSl 0 u)) (by decide +kernel) rfl trivial ?_
    rcases ite_s hf with ⟨c_1002, hf⟩ | ⟨c_1002, hf⟩
    · refine m_jT M (i := .ifCond .lt 25) 30 (by decide +kernel) rfl (by decide) c_1002 ?_
      refine m_run M (is := [(30, .iconst 0, 0)]) (pc' := 31) (L' := [some (.ref 0), some (.int a0), some (.int a1)]) (st' := [.int 0]) (w' := (cSl 0 u)) (by decide +kernel) rfl trivial ?_
      obtain rfl := Option.some.inj hf
      exact m_zret K (by decide +kernel) (Or.inl rfl) (Nat.zero_le _) (Nat.zero_le _) ⟨rfl, rfl⟩
    · refine m_jF M (i := .ifCond .lt 25) 30 (by decide +kernel) rfl (by decide) c_1002 ?_
      refine m_run M (is := [(8, .iload_n 2, 0), (9, .aload_n 0, 0), (10, .getfield 29, 0)]) (pc' := 13) (L' := [some (.ref 0), some (.int a0), some (.int a1)]) (st' := [.int u.2.2.2, .int a1]) (w' := (cSl 0 u)) (by decide +kernel) rfl trivial ?_
      rcases ite_s hf with ⟨c_1003, hf⟩ | ⟨c_1003, hf⟩
      · refine m_jT M (i := .if_icmp .gt 17) 30 (by decide +kernel) rfl (by decide) c_1003 ?_
        refine m_run M (is := [(30, .iconst 0, 0)]) (pc' := 31) (L' := [some (.ref 0), some (.int a0), some (.int a1)]) (st' := [.int 0]) (w' := (cSl 0 u)) (by decide +kernel) rfl trivial ?_
        obtain rfl := Option.some.inj hf
        exact m_zret K (by decide +kernel) (Or.inl rfl) (Nat.zero_le _) (Nat.zero_le _) ⟨rfl, rfl⟩
      · refine m_jF M (i := .if_icmp .gt 17) 30 (by decide +kernel) rfl (by decide) c_1003 ?_
        refine m_run M (is := [(16, .iload_n 1, 0), (17, .aload_n 0, 0), (18, .getfield 29, 0), (21, .iload_n 2, 0), (22, .isub, 0)]) (pc' := 23) (L' := [some (.ref 0), some (.int a0), some (.int a1)]) (st' := [.int (u.2.2.2 - a1), .int a0]) (w' := (cSl 0 u)) (by decide +kernel) rfl trivial ?_
        rcases ite_s hf with ⟨c_1004, hf⟩ | ⟨c_1004, hf⟩
        · refine m_jT M (i := .if_icmp .gt 7) 30 (by decide +kernel) rfl (by decide) c_1004 ?_
          refine m_run M (is := [(30, .iconst 0, 0)]) (pc' := 31) (L' := [some (.ref 0), some (.int a0), some (.int a1)]) (st' := [.int 0]) (w' := (cSl 0 u)) (by decide +kernel) rfl trivial ?_
          obtain rfl := Option.some.inj hf
          exact m_zret K (by decide +kernel) (Or.inl rfl) (Nat.zero_le _) (Nat.zero_le _) ⟨rfl, rfl⟩
        · refine m_jF M (i := .if_icmp .gt 7) 30 (by decide +kernel) rfl (by decide) c_1004 ?_
          refine m_run M (is := [(26, .iconst 1, 1), (27, .goto 4, 0)]) (pc' := 31) (L' := [some (.ref 0), some (.int a0), some (.int a1)]) (st' := [.int 1]) (w' := (cSl 0 u)) (by decide +kernel) rfl trivial ?_
          obtain rfl := Option.some.inj hf
          exact m_zret K (by decide +kernel) (Or.inr rfl) (Nat.zero_le _) (Nat.zero_le _) ⟨rfl, rfl⟩

def f_X0_elementAt (a0 : Int32) (u : SlT) : Option (Int64) :=
  (f_X0_hasPart a0 1 u).bind fun r1001 =>
  if r1001 = 0 then
    some 0
  else
    if inB a0 40 then
    some (u.1 a0.toNatClampNeg)
    else none
set_option maxRecDepth 100000 in
set_option maxHeartbeats 4000000 in
theorem run_X0_elementAt {l : Launch} {D : va_G} {cT : Nat → ClassId} (a0 : Int32)   (u : SlT) {r : Int64} (hf : f_X0_elementAt a0 u = some r) : Runs l D cT yX0_elementAt cX0_elementAt 2 (some .long) 1 22 [.ref 0, .int a0] (cSl 0 u) (EQ (some (.long r)) (cSl 0 u)) := by
  refine runs_of O_X0 okO_X0 (by decide +kernel) rfl rfl (Nat.le_of_ble_eq_true rfl) (Nat.le_of_ble_eq_true rfl) (fun g K => ?_)
  have M := K.b
  show g 0 0 (cSl 0 u) 0 [some (.ref 0), some (.int a0)] []
  rw [f_X0_elementAt] at hf
  refine m_run M (is := [(0, .aload_n 0, 0), (1, .iload_n 1, 0), (2, .iconst 1, 1)]) (pc' := 3) (L' := [some (.ref 0), some (.int a0)]) (st' := [.int 1, .int a0, .ref 0]) (w' := (cSl 0 u)) (by decide +kernel) rfl trivial ?_
  obtain ⟨r1001, h_1001, hf⟩ := bnd_s hf
  refine m_cV0 M (rest := []) (w2 := (cSl 0 u)) (st2 := [.int r1001]) (run_X0_hasPart a0 1   u h_1001) cv_X0_hasPart lk_X0_38 (by decide +kernel) [0, 1] (by decide) ⟨Nat.le_of_ble_eq_true rfl, Nat.le_of_ble_eq_true rfl⟩ rfl rfl rfl (Nat.le_of_ble_eq_true rfl) ⟨by decide, by decide⟩ rfl rfl ⟨Nat.zero_le _, Nat.zero_le _⟩ rfl rfl ?_
  rcases ite_s hf with ⟨c_1002, hf⟩ | ⟨c_1002, hf⟩
  · refine m_jT M (i := .ifCond .eq 12) 18 (by decide +kernel) rfl (by decide) c_1002 ?_
    refine m_run M (is := [(18, .lconst 0, 0)]) (pc' := 19) (L' := [some (.ref 0), some (.int a0)]) (st' := [.long 0]) (w' := (cSl 0 u)) (by decide +kernel) rfl trivial ?_
    obtain rfl := Option.some.inj hf
    exact m_lret K (by decide +kernel) (Nat.zero_le _) (Nat.zero_le _) ⟨rfl, rfl⟩
  · refine m_jF M (i := .ifCond .eq 12) 18 (by decide +kernel) rfl (by decide) c_1002 ?_
    obtain ⟨h_1003, hf⟩ := grd_s hf
    refine m_run M (is := [(9, .aload_n 0, 0), (10, .getfield 9, 0), (13, .iload_n 1, 0), (14, .laload, 0), (15, .goto 4, 0)]) (pc' := 19) (L' := [some (.ref 0), some (.int a0)]) (st' := [.long (u.1 a0.toNatClampNeg)]) (w' := (cSl 0 u)) (by decide +kernel) rfl ⟨inB_use h_1003, trivial⟩ ?_
    obtain rfl := Option.some.inj hf
    exact m_lret K (by decide +kernel) (Nat.zero_le _) (Nat.zero_le _) ⟨rfl, rfl⟩

def f_X0_cut (a0 : Int64) (u : SlT) : Option (Int64) :=
  if u.2.1 = 0 then
    some ((a0.toInt32.toInt8.toInt32).toInt64)
  else
    if u.2.1 = 1 then
      some ((a0.toInt32.toInt16.toInt32).toInt64)
    else
      if u.2.1 = 2 then
        some ((a0.toInt32).toInt64)
      else
        if u.2.1 = 3 then
          some a0
        else
          if u.2.1 = 4 then
            if (lg_cmp a0 0) = 0 then
              some 0
            else
              some 1
          else
            some a0
set_option maxRecDepth 100000 in
set_option maxHeartbeats 4000000 in
theorem run_X0_cut {l : Launch} {D : va_G} {cT : Nat → ClassId} (a0 : Int64)   (u : SlT) {r : Int64} (hf : f_X0_cut a0 u = some r) : Runs l D cT yX0_cut cX0_cut 3 (some .long) 0 0 [.ref 0, .long a0] (cSl 0 u) (EQ (some (.long r)) (cSl 0 u)) := by
  refine runs_of O_X0 okO_X0 (by decide +kernel) rfl rfl (Nat.le_of_ble_eq_true rfl) (Nat.le_of_ble_eq_true rfl) (fun g K => ?_)
  have M := K.b
  show g 0 0 (cSl 0 u) 0 [some (.ref 0), some (.long a0), none] []
  rw [f_X0_cut] at hf
  refine m_run M (is := [(0, .aload_n 0, 0), (1, .getfield 15, 0)]) (pc' := 4) (L' := [some (.ref 0), some (.long a0), none]) (st' := [.int u.2.1]) (w' := (cSl 0 u)) (by decide +kernel) rfl trivial ?_
  rcases ite_s hf with ⟨c_1001, hf⟩ | ⟨c_1001, hf⟩
  · refine m_tsI M (dflt := 62) (t0 := 0) (t1 := 4) (offs := #[36, 41, 46, 62, 50]) (len := 36) (tgt := 40) 0 (by decide +kernel) (by rw [c_1001]; rfl) (by decide) rfl (by decide) ?_
    refine m_run M (is := [(40, .lload_n 1, 0), (41, .l2i, 0), (42, .i2b, 0), (43, .i2l, 0)]) (pc' := 44) (L' := [some (.ref 0), some (.long a0), none]) (st' := [.long ((a0.toInt32.toInt8.toInt32).toInt64)]) (w' := (cSl 0 u)) (by decide +kernel) rfl trivial ?_
    obtain rfl := Option.some.inj hf
    exact m_lret K (by decide +kernel) (Nat.zero_le _) (Nat.zero_le _) ⟨rfl, rfl⟩
  · rcases ite_s hf with ⟨c_1002, hf⟩ | ⟨c_1002, hf⟩
    · refine m_tsI M (dflt := 62) (t0 := 0) (t1 := 4) (offs := #[36, 41, 46, 62, 50]) (len := 36) (tgt := 45) 1 (by decide +kernel) (by rw [c_1002]; rfl) (by decide) rfl (by decide) ?_
      refine m_run M (is := [(45, .lload_n 1, 0), (46, .l2i, 0), (47, .i2s, 0), (48, .i2l, 0)]) (pc' := 49) (L' := [some (.ref 0), some (.long a0), none]) (st' := [.long ((a0.toInt32.toInt16.toInt32).toInt64)]) (w' := (cSl 0 u)) (by decide +kernel) rfl trivial ?_
      obtain rfl := Option.some.inj hf
      exact m_lret K (by decide +kernel) (Nat.zero_le _) (Nat.zero_le _) ⟨rfl, rfl⟩
    · rcases ite_s hf with ⟨c_1003, hf⟩ | ⟨c_1003, hf⟩
      · refine m_tsI M (dflt := 62) (t0 := 0) (t1 := 4) (offs := #[36, 41, 46, 62, 50]) (len := 36) (tgt := 50) 2 (by decide +kernel) (by rw [c_1003]; rfl) (by decide) rfl (by decide) ?_
        refine m_run M (is := [(50, .lload_n 1, 0), (51, .l2i, 0), (52, .i2l, 0)]) (pc' := 53) (L' := [some (.ref 0), some (.long a0), none]) (st' := [.long ((a0.toInt32).toInt64)]) (w' := (cSl 0 u)) (by decide +kernel) rfl trivial ?_
        obtain rfl := Option.some.inj hf
        exact m_lret K (by decide +kernel) (Nat.zero_le _) (Nat.zero_le _) ⟨rfl, rfl⟩
      · rcases ite_s hf with ⟨c_1004, hf⟩ | ⟨c_1004, hf⟩
        · refine m_tsI M (dflt := 62) (t0 := 0) (t1 := 4) (offs := #[36, 41, 46, 62, 50]) (len := 36) (tgt := 66) 3 (by decide +kernel) (by rw [c_1004]; rfl) (by decide) rfl (by decide) ?_
          refine m_run M (is := [(66, .lload_n 1, 0)]) (pc' := 67) (L' := [some (.ref 0), some (.long a0), none]) (st' := [.long a0]) (w' := (cSl 0 u)) (by decide +kernel) rfl trivial ?_
          obtain rfl := Option.some.inj hf
          exact m_lret K (by decide +kernel) (Nat.zero_le _) (Nat.zero_le _) ⟨rfl, rfl⟩
        · rcases ite_s hf with ⟨c_1005, hf⟩ | ⟨c_1005, hf⟩
          · refine m_tsI M (dflt := 62) (t0 := 0) (t1 := 4) (offs := #[36, 41, 46, 62, 50]) (len := 36) (tgt := 54) 4 (by decide +kernel) (by rw [c_1005]; rfl) (by decide) rfl (by decide) ?_
            refine m_run M (is := [(54, .lload_n 1, 0), (55, .lconst 0, 0), (56, .lcmp, 0)]) (pc' := 57) (L' := [some (.ref 0), some (.long a0), none]) (st' := [.int (lg_cmp a0 0)]) (w' := (cSl 0 u)) (by decide +kernel) rfl trivial ?_
            rcases ite_s hf with ⟨c_1006, hf⟩ | ⟨c_1006, hf⟩
            · refine m_jT M (i := .ifCond .eq 7) 64 (by decide +kernel) rfl (by decide) c_1006 ?_
              refine m_run M (is := [(64, .lconst 0, 0)]) (pc' := 65) (L' := [some (.ref 0), some (.long a0), none]) (st' := [.long 0]) (w' := (cSl 0 u)) (by decide +kernel) rfl trivial ?_
              obtain rfl := Option.some.inj hf
              exact m_lret K (by decide +kernel) (Nat.zero_le _) (Nat.zero_le _) ⟨rfl, rfl⟩
            · refine m_jF M (i := .ifCond .eq 7) 64 (by decide +kernel) rfl (by decide) c_1006 ?_
              refine m_run M (is := [(60, .lconst 1, 0), (61, .goto 4, 0)]) (pc' := 65) (L' := [some (.ref 0), some (.long a0), none]) (st' := [.long 1]) (w' := (cSl 0 u)) (by decide +kernel) rfl trivial ?_
              obtain rfl := Option.some.inj hf
              exact m_lret K (by decide +kernel) (Nat.zero_le _) (Nat.zero_le _) ⟨rfl, rfl⟩
          · refine m_tsO M (dflt := 62) (t0 := 0) (t1 := 4) (offs := #[36, 41, 46, 62, 50]) (len := 36) (tgt := 66) (by decide +kernel) (ts_out5 c_1001 c_1002 c_1003 c_1004 c_1005) (by decide) ?_
            refine m_run M (is := [(66, .lload_n 1, 0)]) (pc' := 67) (L' := [some (.ref 0), some (.long a0), none]) (st' := [.long a0]) (w' := (cSl 0 u)) (by decide +kernel) rfl trivial ?_
            obtain rfl := Option.some.inj hf
            exact m_lret K (by decide +kernel) (Nat.zero_le _) (Nat.zero_le _) ⟨rfl, rfl⟩

def f_X0_put (a0 : Int32) (a1 : Int64) (u : SlT) : Option (SlT) :=
  (f_X0_hasPart a0 1 u).bind fun r1001 =>
  if r1001 = 0 then
    some u
  else
    (f_X0_cut a1 u).bind fun r1003 =>
    if inB a0 40 then
    some ((vp_updL u.1 a0.toNatClampNeg r1003), u.2.1, u.2.2.1, u.2.2.2)
    else none
set_option maxRecDepth 100000 in
set_option maxHeartbeats 4000000 in
theorem run_X0_put {l : Launch} {D : va_G} {cT : Nat → ClassId} (a0 : Int32) (a1 : Int64)   (u : SlT) {r : SlT} (hf : f_X0_put a0 a1 u = some r) : Runs l D cT yX0_put cX0_put 4 none 1 22 [.ref 0, .int a0, .long a1] (cSl 0 u) (EQ none (cSl 0 r)) := by
  refine runs_of O_X0 okO_X0 (by decide +kernel) rfl rfl (Nat.le_of_ble_eq_true rfl) (Nat.le_of_ble_eq_true rfl) (fun g K => ?_)
  have M := K.b
  show g 0 0 (cSl 0 u) 0 [some (.ref 0), some (.int a0), some (.long a1), none] []
  rw [f_X0_put] at hf
  refine m_run M (is := [(0, .aload_n 0, 0), (1, .iload_n 1, 0), (2, .iconst 1, 1)]) (pc' := 3) (L' := [some (.ref 0), some (.int a0), some (.long a1), none]) (st' := [.int 1, .int a0, .ref 0]) (w' := (cSl 0 u)) (by decide +kernel) rfl trivial ?_
  obtain ⟨r1001, h_1001, hf⟩ := bnd_s hf
  refine m_cV0 M (rest := []) (w2 := (cSl 0 u)) (st2 := [.int r1001]) (run_X0_hasPart a0 1   u h_1001) cv_X0_hasPart lk_X0_38 (by decide +kernel) [0, 1] (by decide) ⟨Nat.le_of_ble_eq_true rfl, Nat.le_of_ble_eq_true rfl⟩ rfl rfl rfl (Nat.le_of_ble_eq_true rfl) ⟨by decide, by decide⟩ rfl rfl ⟨Nat.zero_le _, Nat.zero_le _⟩ rfl rfl ?_
  rcases ite_s hf with ⟨c_1002, hf⟩ | ⟨c_1002, hf⟩
  · refine m_jT M (i := .ifCond .eq 14) 20 (by decide +kernel) rfl (by decide) c_1002 ?_
    obtain rfl := Option.some.inj hf
    exact m_vret K (by decide +kernel) (Nat.zero_le _) (Nat.zero_le _) ⟨rfl, rfl⟩
  · refine m_jF M (i := .ifCond .eq 14) 20 (by decide +kernel) rfl (by decide) c_1002 ?_
    refine m_run M (is := [(9, .aload_n 0, 0), (10, .getfield 9, 0), (13, .iload_n 1, 0), (14, .aload_n 0, 0), (15, .lload_n 2, 0)]) (pc' := 16) (L' := [some (.ref 0), some (.int a0), some (.long a1), none]) (st' := [.long a1, .ref 0, .int a0, .ref 1]) (w' := (cSl 0 u)) (by decide +kernel) rfl trivial ?_
    obtain ⟨r1003, h_1003, hf⟩ := bnd_s hf
    refine m_cV0 M (rest := [.int a0, .ref 1]) (w2 := (cSl 0 u)) (st2 := [.long r1003, .int a0, .ref 1]) (run_X0_cut a1   u h_1003) cv_X0_cut lk_X0_42 (by decide +kernel) [0, 1] (by decide) ⟨Nat.le_of_ble_eq_true rfl, Nat.le_of_ble_eq_true rfl⟩ rfl rfl rfl (Nat.le_of_ble_eq_true rfl) ⟨by decide, by decide⟩ rfl rfl ⟨Nat.zero_le _, Nat.zero_le _⟩ rfl rfl ?_
    obtain ⟨h_1004, hf⟩ := grd_s hf
    refine m_run M (is := [(19, .lastore, 0)]) (pc' := 20) (L' := [some (.ref 0), some (.int a0), some (.long a1), none]) (st' := []) (w' := (cSl 0 ((vp_updL u.1 a0.toNatClampNeg r1003), u.2.1, u.2.2.1, u.2.2.2))) (by decide +kernel) rfl ⟨inB_use h_1004, trivial⟩ ?_
    obtain rfl := Option.some.inj hf
    exact m_vret K (by decide +kernel) (Nat.zero_le _) (Nat.zero_le _) ⟨rfl, rfl⟩

def f_X0_isOtherRowThan (u : SlT) (u2 : SlT) : Option (Int32) :=
  (f_X0_holdsRow u).bind fun r1001 =>
  if r1001 = 0 then
    some 0
  else
    (f_X0_holdsRow u2).bind fun r1003 =>
    if r1003 = 0 then
      some 0
    else
      if u.2.1 = u2.2.1 then
        some 0
      else
        some 1
set_option maxRecDepth 100000 in
set_option maxHeartbeats 4000000 in
theorem run_X0_isOtherRowThan {l : Launch} {D : va_G} {cT : Nat → ClassId}    (u : SlT) (u2 : SlT) {r : Int32} (hf : f_X0_isOtherRowThan u u2 = some r) : Runs l D cT yX0_isOtherRowThan cX0_isOtherRowThan 2 (some .boolean) 1 20 [.ref 0, .ref 2] ((cSl 0 u) ++ (cSl 2 u2)) (EQ (some (.int r)) ((cSl 0 u) ++ (cSl 2 u2))) := by
  refine runs_of O_X0 okO_X0 (by decide +kernel) rfl rfl (Nat.le_of_ble_eq_true rfl) (Nat.le_of_ble_eq_true rfl) (fun g K => ?_)
  have M := K.b
  show g 0 0 ((cSl 0 u) ++ (cSl 2 u2)) 0 [some (.ref 0), some (.ref 2)] []
  rw [f_X0_isOtherRowThan] at hf
  refine m_run M (is := [(0, .aload_n 0, 0)]) (pc' := 1) (L' := [some (.ref 0), some (.ref 2)]) (st' := [.ref 0]) (w' := ((cSl 0 u) ++ (cSl 2 u2))) (by decide +kernel) rfl trivial ?_
  obtain ⟨r1001, h_1001, hf⟩ := bnd_s hf
  refine m_cV0 M (rest := []) (w2 := ((cSl 0 u) ++ (cSl 2 u2))) (st2 := [.int r1001]) (run_X0_holdsRow    u h_1001) cv_X0_holdsRow lk_X0_22 (by decide +kernel) [0, 1] (by decide) ⟨Nat.le_of_ble_eq_true rfl, Nat.le_of_ble_eq_true rfl⟩ rfl rfl rfl (Nat.le_of_ble_eq_true rfl) ⟨by decide, by decide⟩ rfl rfl ⟨Nat.zero_le _, Nat.zero_le _⟩ rfl rfl ?_
  rcases ite_s hf with ⟨c_1002, hf⟩ | ⟨c_1002, hf⟩
  · refine m_jT M (i := .ifCond .eq 25) 29 (by decide +kernel) rfl (by decide) c_1002 ?_
    refine m_run M (is := [(29, .iconst 0, 0)]) (pc' := 30) (L' := [some (.ref 0), some (.ref 2)]) (st' := [.int 0]) (w' := ((cSl 0 u) ++ (cSl 2 u2))) (by decide +kernel) rfl trivial ?_
    obtain rfl := Option.some.inj hf
    exact m_zret K (by decide +kernel) (Or.inl rfl) (Nat.zero_le _) (Nat.zero_le _) ⟨rfl, rfl⟩
  · refine m_jF M (i := .ifCond .eq 25) 29 (by decide +kernel) rfl (by decide) c_1002 ?_
    refine m_run M (is := [(7, .aload_n 1, 0)]) (pc' := 8) (L' := [some (.ref 0), some (.ref 2)]) (st' := [.ref 2]) (w' := ((cSl 0 u) ++ (cSl 2 u2))) (by decide +kernel) rfl trivial ?_
    obtain ⟨r1003, h_1003, hf⟩ := bnd_s hf
    refine m_cV0 M (rest := []) (w2 := ((cSl 0 u) ++ (cSl 2 u2))) (st2 := [.int r1003]) (run_X0_holdsRow    u2 h_1003) cv_X0_holdsRow lk_X0_22 (by decide +kernel) [2, 3] (by decide) ⟨Nat.le_of_ble_eq_true rfl, Nat.le_of_ble_eq_true rfl⟩ rfl rfl rfl (Nat.le_of_ble_eq_true rfl) ⟨by decide, by decide⟩ rfl rfl ⟨Nat.zero_le _, Nat.zero_le _⟩ rfl rfl ?_
    rcases ite_s hf with ⟨c_1004, hf⟩ | ⟨c_1004, hf⟩
    · refine m_jT M (i := .ifCond .eq 18) 29 (by decide +kernel) rfl (by decide) c_1004 ?_
      refine m_run M (is := [(29, .iconst 0, 0)]) (pc' := 30) (L' := [some (.ref 0), some (.ref 2)]) (st' := [.int 0]) (w' := ((cSl 0 u) ++ (cSl 2 u2))) (by decide +kernel) rfl trivial ?_
      obtain rfl := Option.some.inj hf
      exact m_zret K (by decide +kernel) (Or.inl rfl) (Nat.zero_le _) (Nat.zero_le _) ⟨rfl, rfl⟩
    · refine m_jF M (i := .ifCond .eq 18) 29 (by decide +kernel) rfl (by decide) c_1004 ?_
      refine m_run M (is := [(14, .aload_n 0, 0), (15, .getfield 15, 0), (18, .aload_n 1, 0), (19, .getfield 15, 0)]) (pc' := 22) (L' := [some (.ref 0), some (.ref 2)]) (st' := [.int u2.2.1, .int u.2.1]) (w' := ((cSl 0 u) ++ (cSl 2 u2))) (by decide +kernel) rfl trivial ?_
      rcases ite_s hf with ⟨c_1005, hf⟩ | ⟨c_1005, hf⟩
      · refine m_jT M (i := .if_icmp .eq 7) 29 (by decide +kernel) rfl (by decide) c_1005 ?_
        refine m_run M (is := [(29, .iconst 0, 0)]) (pc' := 30) (L' := [some (.ref 0), some (.ref 2)]) (st' := [.int 0]) (w' := ((cSl 0 u) ++ (cSl 2 u2))) (by decide +kernel) rfl trivial ?_
        obtain rfl := Option.some.inj hf
        exact m_zret K (by decide +kernel) (Or.inl rfl) (Nat.zero_le _) (Nat.zero_le _) ⟨rfl, rfl⟩
      · refine m_jF M (i := .if_icmp .eq 7) 29 (by decide +kernel) rfl (by decide) c_1005 ?_
        refine m_run M (is := [(25, .iconst 1, 1), (26, .goto 4, 0)]) (pc' := 30) (L' := [some (.ref 0), some (.ref 2)]) (st' := [.int 1]) (w' := ((cSl 0 u) ++ (cSl 2 u2))) (by decide +kernel) rfl trivial ?_
        obtain rfl := Option.some.inj hf
        exact m_zret K (by decide +kernel) (Or.inr rfl) (Nat.zero_le _) (Nat.zero_le _) ⟨rfl, rfl⟩

def f_X3_isShelf (a0 : Int32) : Option (Int32) :=
  (f_X3_isBetween a0 0 7).bind fun r1001 =>
  if z01 r1001 then
  some r1001
  else none
set_option maxRecDepth 100000 in
set_option maxHeartbeats 4000000 in
theorem run_X3_isShelf {l : Launch} {D : va_G} {cT : Nat → ClassId} (a0 : Int32)    {r : Int32} (hf : f_X3_isShelf a0 = some r) : Runs l D cT yX3_isShelf cX3_isShelf 1 (some .boolean) 1 22 [.int a0] [] (EQ (some (.int r)) []) := by
  refine runs_of O_X3 okO_X3 (by decide +kernel) rfl rfl (Nat.le_of_ble_eq_true rfl) (Nat.le_of_ble_eq_true rfl) (fun g K => ?_)
  have M := K.b
  show g 0 0 [] 0 [some (.int a0)] []
  rw [f_X3_isShelf] at hf
  refine m_run M (is := [(0, .iload_n 0, 0), (1, .iconst 0, 0), (2, .bipush 7, 7)]) (pc' := 4) (L' := [some (.int a0)]) (st' := [.int 7, .int 0, .int a0]) (w' := []) (by decide +kernel) rfl trivial ?_
  obtain ⟨r1001, h_1001, hf⟩ := bnd_s hf
  refine m_cS0 M (rest := []) (w2 := []) (st2 := [.int r1001]) (run_X3_isBetween a0 0 7    h_1001) cs_X3_isBetween lk_X3_50 (by decide +kernel) [] (by decide) ⟨Nat.le_of_ble_eq_true rfl, Nat.le_of_ble_eq_true rfl⟩ rfl rfl (Nat.le_of_ble_eq_true rfl) ⟨by decide, by decide⟩ rfl rfl ⟨Nat.zero_le _, Nat.zero_le _⟩ rfl rfl ?_
  obtain ⟨h_1002, hf⟩ := grd_s hf
  obtain rfl := Option.some.inj hf
  exact m_zret K (by decide +kernel) (z01_use h_1002) (Nat.zero_le _) (Nat.zero_le _) ⟨rfl, rfl⟩

def f_X3_isKind (a0 : Int32) : Option (Int32) :=
  (f_X3_isBetween a0 0 5).bind fun r1001 =>
  if z01 r1001 then
  some r1001
  else none
set_option maxRecDepth 100000 in
set_option maxHeartbeats 4000000 in
theorem run_X3_isKind {l : Launch} {D : va_G} {cT : Nat → ClassId} (a0 : Int32)    {r : Int32} (hf : f_X3_isKind a0 = some r) : Runs l D cT yX3_isKind cX3_isKind 1 (some .boolean) 1 22 [.int a0] [] (EQ (some (.int r)) []) := by
  refine runs_of O_X3 okO_X3 (by decide +kernel) rfl rfl (Nat.le_of_ble_eq_true rfl) (Nat.le_of_ble_eq_true rfl) (fun g K => ?_)
  have M := K.b
  show g 0 0 [] 0 [some (.int a0)] []
  rw [f_X3_isKind] at hf
  refine m_run M (is := [(0, .iload_n 0, 0), (1, .iconst 0, 0), (2, .iconst 5, 5)]) (pc' := 3) (L' := [some (.int a0)]) (st' := [.int 5, .int 0, .int a0]) (w' := []) (by decide +kernel) rfl trivial ?_
  obtain ⟨r1001, h_1001, hf⟩ := bnd_s hf
  refine m_cS0 M (rest := []) (w2 := []) (st2 := [.int r1001]) (run_X3_isBetween a0 0 5    h_1001) cs_X3_isBetween lk_X3_50 (by decide +kernel) [] (by decide) ⟨Nat.le_of_ble_eq_true rfl, Nat.le_of_ble_eq_true rfl⟩ rfl rfl (Nat.le_of_ble_eq_true rfl) ⟨by decide, by decide⟩ rfl rfl ⟨Nat.zero_le _, Nat.zero_le _⟩ rfl rfl ?_
  obtain ⟨h_1002, hf⟩ := grd_s hf
  obtain rfl := Option.some.inj hf
  exact m_zret K (by decide +kernel) (z01_use h_1002) (Nat.zero_le _) (Nat.zero_le _) ⟨rfl, rfl⟩

def f_X3_isPack (a0 : Int32) : Option (Int32) :=
  (f_X3_isBetween a0 2 52).bind fun r1001 =>
  if z01 r1001 then
  some r1001
  else none
set_option maxRecDepth 100000 in
set_option maxHeartbeats 4000000 in
theorem run_X3_isPack {l : Launch} {D : va_G} {cT : Nat → ClassId} (a0 : Int32)    {r : Int32} (hf : f_X3_isPack a0 = some r) : Runs l D cT yX3_isPack cX3_isPack 1 (some .boolean) 1 22 [.int a0] [] (EQ (some (.int r)) []) := by
  refine runs_of O_X3 okO_X3 (by decide +kernel) rfl rfl (Nat.le_of_ble_eq_true rfl) (Nat.le_of_ble_eq_true rfl) (fun g K => ?_)
  have M := K.b
  show g 0 0 [] 0 [some (.int a0)] []
  rw [f_X3_isPack] at hf
  refine m_run M (is := [(0, .iload_n 0, 0), (1, .iconst 2, 2), (2, .bipush 52, 52)]) (pc' := 4) (L' := [some (.int a0)]) (st' := [.int 52, .int 2, .int a0]) (w' := []) (by decide +kernel) rfl trivial ?_
  obtain ⟨r1001, h_1001, hf⟩ := bnd_s hf
  refine m_cS0 M (rest := []) (w2 := []) (st2 := [.int r1001]) (run_X3_isBetween a0 2 52    h_1001) cs_X3_isBetween lk_X3_50 (by decide +kernel) [] (by decide) ⟨Nat.le_of_ble_eq_true rfl, Nat.le_of_ble_eq_true rfl⟩ rfl rfl (Nat.le_of_ble_eq_true rfl) ⟨by decide, by decide⟩ rfl rfl ⟨Nat.zero_le _, Nat.zero_le _⟩ rfl rfl ?_
  obtain ⟨h_1002, hf⟩ := grd_s hf
  obtain rfl := Option.some.inj hf
  exact m_zret K (by decide +kernel) (z01_use h_1002) (Nat.zero_le _) (Nat.zero_le _) ⟨rfl, rfl⟩

def f_X3_shuffled (a0 : Int32) (a1 : Int32) (a2 : Int32) : Option (Int32) :=
  if a1 = 0 then
    if ¬ (2 : Int32) = 0 then
    if a1 = 0 then
      if ((a0 + 1) / 2) ≤ a2 then
        some (((2 * (a2 - ((a0 + 1) / 2))) + 1) - 0)
      else
        some ((2 * a2) + 0)
    else
      if ((a0 + 1) / 2) ≤ a2 then
        some (((2 * (a2 - ((a0 + 1) / 2))) + 1) - 1)
      else
        some ((2 * a2) + 1)
    else none
  else
    if ¬ (2 : Int32) = 0 then
    if a1 = 0 then
      if (a0 / 2) ≤ a2 then
        some (((2 * (a2 - (a0 / 2))) + 1) - 0)
      else
        some ((2 * a2) + 0)
    else
      if (a0 / 2) ≤ a2 then
        some (((2 * (a2 - (a0 / 2))) + 1) - 1)
      else
        some ((2 * a2) + 1)
    else none
set_option maxRecDepth 100000 in
set_option maxHeartbeats 4000000 in
theorem run_X3_shuffled {l : Launch} {D : va_G} {cT : Nat → ClassId} (a0 : Int32) (a1 : Int32) (a2 : Int32)    {r : Int32} (hf : f_X3_shuffled a0 a1 a2 = some r) : Runs l D cT yX3_shuffled cX3_shuffled 5 (some .int) 0 0 [.int a0, .int a1, .int a2] [] (EQ (some (.int r)) []) := by
  refine runs_of O_X3 okO_X3 (by decide +kernel) rfl rfl (Nat.le_of_ble_eq_true rfl) (Nat.le_of_ble_eq_true rfl) (fun g K => ?_)
  have M := K.b
  show g 0 0 [] 0 [some (.int a0), some (.int a1), some (.int a2), none, none] []
  rw [f_X3_shuffled] at hf
  refine m_run M (is := [(0, .iload_n 1, 0)]) (pc' := 1) (L' := [some (.int a0), some (.int a1), some (.int a2), none, none]) (st' := [.int a1]) (w' := []) (by decide +kernel) rfl trivial ?_
  rcases ite_s hf with ⟨c_1001, hf⟩ | ⟨c_1001, hf⟩
  · refine m_jT M (i := .ifCond .eq 9) 10 (by decide +kernel) rfl (by decide) c_1001 ?_
    obtain ⟨h_1002, hf⟩ := grd_s hf
    refine m_run M (is := [(10, .iload_n 0, 0), (11, .iconst 1, 1), (12, .iadd, 0), (13, .iconst 2, 2), (14, .idiv, 0), (15, .istore_n 3, 0), (16, .iload_n 1, 0)]) (pc' := 17) (L' := [some (.int a0), some (.int a1), some (.int a2), some (.int ((a0 + 1) / 2)), none]) (st' := [.int a1]) (w' := []) (by decide +kernel) rfl ⟨h_1002, trivial⟩ ?_
    rcases ite_s hf with ⟨c_1003, hf⟩ | ⟨c_1003, hf⟩
    · refine m_jT M (i := .ifCond .eq 7) 24 (by decide +kernel) rfl (by decide) c_1003 ?_
      refine m_run M (is := [(24, .iconst 0, 0), (25, .istore 4, 0), (27, .iload_n 2, 0), (28, .iload_n 3, 0)]) (pc' := 29) (L' := [some (.int a0), some (.int a1), some (.int a2), some (.int ((a0 + 1) / 2)), some (.int 0)]) (st' := [.int ((a0 + 1) / 2), .int a2]) (w' := []) (by decide +kernel) rfl trivial ?_
      rcases ite_s hf with ⟨c_1004, hf⟩ | ⟨c_1004, hf⟩
      · refine m_jT M (i := .if_icmp .ge 12) 41 (by decide +kernel) rfl (by decide) c_1004 ?_
        refine m_run M (is := [(41, .iconst 2, 2), (42, .iload_n 2, 0), (43, .iload_n 3, 0), (44, .isub, 0), (45, .imul, 0), (46, .iconst 1, 1), (47, .iadd, 0), (48, .iload 4, 0), (50, .isub, 0)]) (pc' := 51) (L' := [some (.int a0), some (.int a1), some (.int a2), some (.int ((a0 + 1) / 2)), some (.int 0)]) (st' := [.int (((2 * (a2 - ((a0 + 1) / 2))) + 1) - 0)]) (w' := []) (by decide +kernel) rfl trivial ?_
        obtain rfl := Option.some.inj hf
        exact m_iret K (by decide +kernel) (Nat.zero_le _) (Nat.zero_le _) ⟨rfl, rfl⟩
      · refine m_jF M (i := .if_icmp .ge 12) 41 (by decide +kernel) rfl (by decide) c_1004 ?_
        refine m_run M (is := [(32, .iconst 2, 2), (33, .iload_n 2, 0), (34, .imul, 0), (35, .iload 4, 0), (37, .iadd, 0), (38, .goto 13, 0)]) (pc' := 51) (L' := [some (.int a0), some (.int a1), some (.int a2), some (.int ((a0 + 1) / 2)), some (.int 0)]) (st' := [.int ((2 * a2) + 0)]) (w' := []) (by decide +kernel) rfl trivial ?_
        obtain rfl := Option.some.inj hf
        exact m_iret K (by decide +kernel) (Nat.zero_le _) (Nat.zero_le _) ⟨rfl, rfl⟩
    · refine m_jF M (i := .ifCond .eq 7) 24 (by decide +kernel) rfl (by decide) c_1003 ?_
      refine m_run M (is := [(20, .iconst 1, 1), (21, .goto 4, 0), (25, .istore 4, 0), (27, .iload_n 2, 0), (28, .iload_n 3, 0)]) (pc' := 29) (L' := [some (.int a0), some (.int a1), some (.int a2), some (.int ((a0 + 1) / 2)), some (.int 1)]) (st' := [.int ((a0 + 1) / 2), .int a2]) (w' := []) (by decide +kernel) rfl trivial ?_
      rcases ite_s hf with ⟨c_1005, hf⟩ | ⟨c_1005, hf⟩
      · refine m_jT M (i := .if_icmp .ge 12) 41 (by decide +kernel) rfl (by decide) c_1005 ?_
        refine m_run M (is := [(41, .iconst 2, 2), (42, .iload_n 2, 0), (43, .iload_n 3, 0), (44, .isub, 0), (45, .imul, 0), (46, .iconst 1, 1), (47, .iadd, 0), (48, .iload 4, 0), (50, .isub, 0)]) (pc' := 51) (L' := [some (.int a0), some (.int a1), some (.int a2), some (.int ((a0 + 1) / 2)), some (.int 1)]) (st' := [.int (((2 * (a2 - ((a0 + 1) / 2))) + 1) - 1)]) (w' := []) (by decide +kernel) rfl trivial ?_
        obtain rfl := Option.some.inj hf
        exact m_iret K (by decide +kernel) (Nat.zero_le _) (Nat.zero_le _) ⟨rfl, rfl⟩
      · refine m_jF M (i := .if_icmp .ge 12) 41 (by decide +kernel) rfl (by decide) c_1005 ?_
        refine m_run M (is := [(32, .iconst 2, 2), (33, .iload_n 2, 0), (34, .imul, 0), (35, .iload 4, 0), (37, .iadd, 0), (38, .goto 13, 0)]) (pc' := 51) (L' := [some (.int a0), some (.int a1), some (.int a2), some (.int ((a0 + 1) / 2)), some (.int 1)]) (st' := [.int ((2 * a2) + 1)]) (w' := []) (by decide +kernel) rfl trivial ?_
        obtain rfl := Option.some.inj hf
        exact m_iret K (by decide +kernel) (Nat.zero_le _) (Nat.zero_le _) ⟨rfl, rfl⟩
  · refine m_jF M (i := .ifCond .eq 9) 10 (by decide +kernel) rfl (by decide) c_1001 ?_
    obtain ⟨h_1006, hf⟩ := grd_s hf
    refine m_run M (is := [(4, .iload_n 0, 0), (5, .iconst 2, 2), (6, .idiv, 0), (7, .goto 8, 0), (15, .istore_n 3, 0), (16, .iload_n 1, 0)]) (pc' := 17) (L' := [some (.int a0), some (.int a1), some (.int a2), some (.int (a0 / 2)), none]) (st' := [.int a1]) (w' := []) (by decide +kernel) rfl ⟨h_1006, trivial⟩ ?_
    rcases ite_s hf with ⟨c_1007, hf⟩ | ⟨c_1007, hf⟩
    · refine m_jT M (i := .ifCond .eq 7) 24 (by decide +kernel) rfl (by decide) c_1007 ?_
      refine m_run M (is := [(24, .iconst 0, 0), (25, .istore 4, 0), (27, .iload_n 2, 0), (28, .iload_n 3, 0)]) (pc' := 29) (L' := [some (.int a0), some (.int a1), some (.int a2), some (.int (a0 / 2)), some (.int 0)]) (st' := [.int (a0 / 2), .int a2]) (w' := []) (by decide +kernel) rfl trivial ?_
      rcases ite_s hf with ⟨c_1008, hf⟩ | ⟨c_1008, hf⟩
      · refine m_jT M (i := .if_icmp .ge 12) 41 (by decide +kernel) rfl (by decide) c_1008 ?_
        refine m_run M (is := [(41, .iconst 2, 2), (42, .iload_n 2, 0), (43, .iload_n 3, 0), (44, .isub, 0), (45, .imul, 0), (46, .iconst 1, 1), (47, .iadd, 0), (48, .iload 4, 0), (50, .isub, 0)]) (pc' := 51) (L' := [some (.int a0), some (.int a1), some (.int a2), some (.int (a0 / 2)), some (.int 0)]) (st' := [.int (((2 * (a2 - (a0 / 2))) + 1) - 0)]) (w' := []) (by decide +kernel) rfl trivial ?_
        obtain rfl := Option.some.inj hf
        exact m_iret K (by decide +kernel) (Nat.zero_le _) (Nat.zero_le _) ⟨rfl, rfl⟩
      · refine m_jF M (i := .if_icmp .ge 12) 41 (by decide +kernel) rfl (by decide) c_1008 ?_
        refine m_run M (is := [(32, .iconst 2, 2), (33, .iload_n 2, 0), (34, .imul, 0), (35, .iload 4, 0), (37, .iadd, 0), (38, .goto 13, 0)]) (pc' := 51) (L' := [some (.int a0), some (.int a1), some (.int a2), some (.int (a0 / 2)), some (.int 0)]) (st' := [.int ((2 * a2) + 0)]) (w' := []) (by decide +kernel) rfl trivial ?_
        obtain rfl := Option.some.inj hf
        exact m_iret K (by decide +kernel) (Nat.zero_le _) (Nat.zero_le _) ⟨rfl, rfl⟩
    · refine m_jF M (i := .ifCond .eq 7) 24 (by decide +kernel) rfl (by decide) c_1007 ?_
      refine m_run M (is := [(20, .iconst 1, 1), (21, .goto 4, 0), (25, .istore 4, 0), (27, .iload_n 2, 0), (28, .iload_n 3, 0)]) (pc' := 29) (L' := [some (.int a0), some (.int a1), some (.int a2), some (.int (a0 / 2)), some (.int 1)]) (st' := [.int (a0 / 2), .int a2]) (w' := []) (by decide +kernel) rfl trivial ?_
      rcases ite_s hf with ⟨c_1009, hf⟩ | ⟨c_1009, hf⟩
      · refine m_jT M (i := .if_icmp .ge 12) 41 (by decide +kernel) rfl (by decide) c_1009 ?_
        refine m_run M (is := [(41, .iconst 2, 2), (42, .iload_n 2, 0), (43, .iload_n 3, 0), (44, .isub, 0), (45, .imul, 0), (46, .iconst 1, 1), (47, .iadd, 0), (48, .iload 4, 0), (50, .isub, 0)]) (pc' := 51) (L' := [some (.int a0), some (.int a1), some (.int a2), some (.int (a0 / 2)), some (.int 1)]) (st' := [.int (((2 * (a2 - (a0 / 2))) + 1) - 1)]) (w' := []) (by decide +kernel) rfl trivial ?_
        obtain rfl := Option.some.inj hf
        exact m_iret K (by decide +kernel) (Nat.zero_le _) (Nat.zero_le _) ⟨rfl, rfl⟩
      · refine m_jF M (i := .if_icmp .ge 12) 41 (by decide +kernel) rfl (by decide) c_1009 ?_
        refine m_run M (is := [(32, .iconst 2, 2), (33, .iload_n 2, 0), (34, .imul, 0), (35, .iload 4, 0), (37, .iadd, 0), (38, .goto 13, 0)]) (pc' := 51) (L' := [some (.int a0), some (.int a1), some (.int a2), some (.int (a0 / 2)), some (.int 1)]) (st' := [.int ((2 * a2) + 1)]) (w' := []) (by decide +kernel) rfl trivial ?_
        obtain rfl := Option.some.inj hf
        exact m_iret K (by decide +kernel) (Nat.zero_le _) (Nat.zero_le _) ⟨rfl, rfl⟩

def f_X3_shuffledTimes_L0 (v0 : Int32) (v1 : Int32) (v3 : Int32) : Nat → Int32 → Int32 → Option (Int32)
  | 0, _, _ => none
  | n_ + 1, v4, v5 =>
    if v3 ≤ v5 then
      some v4
    else
      (f_X3_shuffled v0 v1 v4).bind fun r102 =>
      f_X3_shuffledTimes_L0 v0 v1 v3 n_ r102 (v5 + 1)
def f_X3_shuffledTimes (a0 : Int32) (a1 : Int32) (a2 : Int32) (a3 : Int32) : Option (Int32) :=
  f_X3_shuffledTimes_L0 a0 a1 a3 fuel0 a2 0
set_option maxRecDepth 100000 in
set_option maxHeartbeats 4000000 in
theorem run_X3_shuffledTimes {l : Launch} {D : va_G} {cT : Nat → ClassId} (a0 : Int32) (a1 : Int32) (a2 : Int32) (a3 : Int32)    {r : Int32} (hf : f_X3_shuffledTimes a0 a1 a2 a3 = some r) : Runs l D cT yX3_shuffledTimes cX3_shuffledTimes 6 (some .int) 1 24 [.int a0, .int a1, .int a2, .int a3] [] (EQ (some (.int r)) []) := by
  refine runs_of O_X3 okO_X3 (by decide +kernel) rfl rfl (Nat.le_of_ble_eq_true rfl) (Nat.le_of_ble_eq_true rfl) (fun g K => ?_)
  have M := K.b
  show g 0 0 [] 0 [some (.int a0), some (.int a1), some (.int a2), some (.int a3), none, none] []
  have loop_0 : ∀ (v0 : Int32) (v1 : Int32) (v3 : Int32) (n_ : Nat), (∀ (v4 : Int32) (v5 : Int32), f_X3_shuffledTimes_L0 v0 v1 v3 n_ v4 v5 = some r → g 0 0 [] 6 [some (.int v0), some (.int v1), none, some (.int v3), some (.int v4), some (.int v5)] []) := by
    intro v0 v1 v3 n_
    induction n_ with
    | zero => intro v4 v5 hf; cases hf
    | succ n_ ih =>
      intro v4 v5 hf
      rw [f_X3_shuffledTimes_L0] at hf
      refine m_run M (is := [(6, .iload 5, 0), (8, .iload_n 3, 0)]) (pc' := 9) (L' := [some (.int v0), some (.int v1), none, some (.int v3), some (.int v4), some (.int v5)]) (st' := [.int v3, .int v5]) (w' := []) (by decide +kernel) rfl trivial ?_
      rcases ite_s hf with ⟨c_101, hf⟩ | ⟨c_101, hf⟩
      · refine m_jT M (i := .if_icmp .ge 18) 27 (by decide +kernel) rfl (by decide) c_101 ?_
        refine m_run M (is := [(27, .iload 4, 0)]) (pc' := 29) (L' := [some (.int v0), some (.int v1), none, some (.int v3), some (.int v4), some (.int v5)]) (st' := [.int v4]) (w' := []) (by decide +kernel) rfl trivial ?_
        obtain rfl := Option.some.inj hf
        exact m_iret K (by decide +kernel) (Nat.zero_le _) (Nat.zero_le _) ⟨rfl, rfl⟩
      · refine m_jF M (i := .if_icmp .ge 18) 27 (by decide +kernel) rfl (by decide) c_101 ?_
        refine m_run M (is := [(12, .iload_n 0, 0), (13, .iload_n 1, 0), (14, .iload 4, 0)]) (pc' := 16) (L' := [some (.int v0), some (.int v1), none, some (.int v3), some (.int v4), some (.int v5)]) (st' := [.int v4, .int v1, .int v0]) (w' := []) (by decide +kernel) rfl trivial ?_
        obtain ⟨r102, h_102, hf⟩ := bnd_s hf
        refine m_cS0 M (rest := []) (w2 := []) (st2 := [.int r102]) (run_X3_shuffled v0 v1 v4    h_102) cs_X3_shuffled lk_X3_313 (by decide +kernel) [] (by decide) ⟨Nat.le_of_ble_eq_true rfl, Nat.le_of_ble_eq_true rfl⟩ rfl rfl (Nat.le_of_ble_eq_true rfl) ⟨by decide, by decide⟩ rfl rfl ⟨Nat.zero_le _, Nat.zero_le _⟩ rfl rfl ?_
        refine m_run M (is := [(19, .istore 4, 0), (21, .iinc 5 1, 1), (24, .goto (-18), 0)]) (pc' := 6) (L' := [some (.int v0), some (.int v1), none, some (.int v3), some (.int r102), some (.int (v5 + 1))]) (st' := []) (w' := []) (by decide +kernel) rfl trivial ?_
        exact ih r102 (v5 + 1) hf
  rw [f_X3_shuffledTimes] at hf
  refine m_run M (is := [(0, .iload_n 2, 0), (1, .istore 4, 0), (3, .iconst 0, 0), (4, .istore 5, 0)]) (pc' := 6) (L' := [some (.int a0), some (.int a1), some (.int a2), some (.int a3), some (.int a2), some (.int 0)]) (st' := []) (w' := []) (by decide +kernel) rfl trivial ?_
  refine m_wk M [some (.int a0), some (.int a1), none, some (.int a3), some (.int a2), some (.int 0)] ⟨Or.inr rfl, Or.inr rfl, Or.inl rfl, Or.inr rfl, Or.inr rfl, Or.inr rfl, trivial⟩ ?_
  exact loop_0 a0 a1 a3 fuel0 a2 0 hf

def f_X3_digitsInTwos_L0  : Nat → Int32 → Int32 → Option (Int32)
  | 0, _, _ => none
  | n_ + 1, v1, v2 =>
    if v2 ≤ 0 then
      some v1
    else
      if ¬ (2 : Int32) = 0 then
      f_X3_digitsInTwos_L0 n_ (v1 + 1) (v2 / 2)
      else none
def f_X3_digitsInTwos (a0 : Int32) : Option (Int32) :=
  f_X3_digitsInTwos_L0 fuel0 0 a0
set_option maxRecDepth 100000 in
set_option maxHeartbeats 4000000 in
theorem run_X3_digitsInTwos {l : Launch} {D : va_G} {cT : Nat → ClassId} (a0 : Int32)    {r : Int32} (hf : f_X3_digitsInTwos a0 = some r) : Runs l D cT yX3_digitsInTwos cX3_digitsInTwos 3 (some .int) 0 0 [.int a0] [] (EQ (some (.int r)) []) := by
  refine runs_of O_X3 okO_X3 (by decide +kernel) rfl rfl (Nat.le_of_ble_eq_true rfl) (Nat.le_of_ble_eq_true rfl) (fun g K => ?_)
  have M := K.b
  show g 0 0 [] 0 [some (.int a0), none, none] []
  have loop_0 : ∀ (n_ : Nat), (∀ (v1 : Int32) (v2 : Int32), f_X3_digitsInTwos_L0  n_ v1 v2 = some r → g 0 0 [] 4 [none, some (.int v1), some (.int v2)] []) := by
    intro n_
    induction n_ with
    | zero => intro v1 v2 hf; cases hf
    | succ n_ ih =>
      intro v1 v2 hf
      rw [f_X3_digitsInTwos_L0] at hf
      refine m_run M (is := [(4, .iload_n 2, 0)]) (pc' := 5) (L' := [none, some (.int v1), some (.int v2)]) (st' := [.int v2]) (w' := []) (by decide +kernel) rfl trivial ?_
      rcases ite_s hf with ⟨c_101, hf⟩ | ⟨c_101, hf⟩
      · refine m_jT M (i := .ifCond .le 13) 18 (by decide +kernel) rfl (by decide) c_101 ?_
        refine m_run M (is := [(18, .iload_n 1, 0)]) (pc' := 19) (L' := [none, some (.int v1), some (.int v2)]) (st' := [.int v1]) (w' := []) (by decide +kernel) rfl trivial ?_
        obtain rfl := Option.some.inj hf
        exact m_iret K (by decide +kernel) (Nat.zero_le _) (Nat.zero_le _) ⟨rfl, rfl⟩
      · refine m_jF M (i := .ifCond .le 13) 18 (by decide +kernel) rfl (by decide) c_101 ?_
        obtain ⟨h_102, hf⟩ := grd_s hf
        refine m_run M (is := [(8, .iinc 1 1, 1), (11, .iload_n 2, 0), (12, .iconst 2, 2), (13, .idiv, 0), (14, .istore_n 2, 0), (15, .goto (-11), 0)]) (pc' := 4) (L' := [none, some (.int (v1 + 1)), some (.int (v2 / 2))]) (st' := []) (w' := []) (by decide +kernel) rfl ⟨h_102, trivial⟩ ?_
        exact ih (v1 + 1) (v2 / 2) hf
  rw [f_X3_digitsInTwos] at hf
  refine m_run M (is := [(0, .iconst 0, 0), (1, .istore_n 1, 0), (2, .iload_n 0, 0), (3, .istore_n 2, 0)]) (pc' := 4) (L' := [some (.int a0), some (.int 0), some (.int a0)]) (st' := []) (w' := []) (by decide +kernel) rfl trivial ?_
  refine m_wk M [none, some (.int 0), some (.int a0)] ⟨Or.inl rfl, Or.inr rfl, Or.inr rfl, trivial⟩ ?_
  exact loop_0 fuel0 0 a0 hf

def f_X3_isLeastOfItsRound_L0 (v0 : Int32) (v1 : Int32) (v2 : Int32) : Nat → Int32 → Int32 → Option (Int32)
  | 0, _, _ => none
  | n_ + 1, v3, v4 =>
    if v0 ≤ v4 then
      some 1
    else
      if v3 = v2 then
        some 1
      else
        if v2 ≤ v3 then
          (f_X3_shuffled v0 v1 v3).bind fun r104 =>
          f_X3_isLeastOfItsRound_L0 v0 v1 v2 n_ r104 (v4 + 1)
        else
          some 0
def f_X3_isLeastOfItsRound (a0 : Int32) (a1 : Int32) (a2 : Int32) : Option (Int32) :=
  (f_X3_shuffled a0 a1 a2).bind fun r1001 =>
  f_X3_isLeastOfItsRound_L0 a0 a1 a2 fuel0 r1001 1
set_option maxRecDepth 100000 in
set_option maxHeartbeats 4000000 in
theorem run_X3_isLeastOfItsRound {l : Launch} {D : va_G} {cT : Nat → ClassId} (a0 : Int32) (a1 : Int32) (a2 : Int32)    {r : Int32} (hf : f_X3_isLeastOfItsRound a0 a1 a2 = some r) : Runs l D cT yX3_isLeastOfItsRound cX3_isLeastOfItsRound 5 (some .boolean) 1 24 [.int a0, .int a1, .int a2] [] (EQ (some (.int r)) []) := by
  refine runs_of O_X3 okO_X3 (by decide +kernel) rfl rfl (Nat.le_of_ble_eq_true rfl) (Nat.le_of_ble_eq_true rfl) (fun g K => ?_)
  have M := K.b
  show g 0 0 [] 0 [some (.int a0), some (.int a1), some (.int a2), none, none] []
  have loop_0 : ∀ (v0 : Int32) (v1 : Int32) (v2 : Int32) (n_ : Nat), (∀ (v3 : Int32) (v4 : Int32), f_X3_isLeastOfItsRound_L0 v0 v1 v2 n_ v3 v4 = some r → g 0 0 [] 10 [some (.int v0), some (.int v1), some (.int v2), some (.int v3), some (.int v4)] []) := by
    intro v0 v1 v2 n_
    induction n_ with
    | zero => intro v3 v4 hf; cases hf
    | succ n_ ih =>
      intro v3 v4 hf
      rw [f_X3_isLeastOfItsRound_L0] at hf
      refine m_run M (is := [(10, .iload 4, 0), (12, .iload_n 0, 0)]) (pc' := 13) (L' := [some (.int v0), some (.int v1), some (.int v2), some (.int v3), some (.int v4)]) (st' := [.int v0, .int v4]) (w' := []) (by decide +kernel) rfl trivial ?_
      rcases ite_s hf with ⟨c_101, hf⟩ | ⟨c_101, hf⟩
      · refine m_jT M (i := .if_icmp .ge 28) 41 (by decide +kernel) rfl (by decide) c_101 ?_
        refine m_run M (is := [(41, .iconst 1, 1)]) (pc' := 42) (L' := [some (.int v0), some (.int v1), some (.int v2), some (.int v3), some (.int v4)]) (st' := [.int 1]) (w' := []) (by decide +kernel) rfl trivial ?_
        obtain rfl := Option.some.inj hf
        exact m_zret K (by decide +kernel) (Or.inr rfl) (Nat.zero_le _) (Nat.zero_le _) ⟨rfl, rfl⟩
      · refine m_jF M (i := .if_icmp .ge 28) 41 (by decide +kernel) rfl (by decide) c_101 ?_
        refine m_run M (is := [(16, .iload_n 3, 0), (17, .iload_n 2, 0)]) (pc' := 18) (L' := [some (.int v0), some (.int v1), some (.int v2), some (.int v3), some (.int v4)]) (st' := [.int v2, .int v3]) (w' := []) (by decide +kernel) rfl trivial ?_
        rcases ite_s hf with ⟨c_102, hf⟩ | ⟨c_102, hf⟩
        · refine m_jT M (i := .if_icmp .eq 23) 41 (by decide +kernel) rfl (by decide) c_102 ?_
          refine m_run M (is := [(41, .iconst 1, 1)]) (pc' := 42) (L' := [some (.int v0), some (.int v1), some (.int v2), some (.int v3), some (.int v4)]) (st' := [.int 1]) (w' := []) (by decide +kernel) rfl trivial ?_
          obtain rfl := Option.some.inj hf
          exact m_zret K (by decide +kernel) (Or.inr rfl) (Nat.zero_le _) (Nat.zero_le _) ⟨rfl, rfl⟩
        · refine m_jF M (i := .if_icmp .eq 23) 41 (by decide +kernel) rfl (by decide) c_102 ?_
          refine m_run M (is := [(21, .iload_n 3, 0), (22, .iload_n 2, 0)]) (pc' := 23) (L' := [some (.int v0), some (.int v1), some (.int v2), some (.int v3), some (.int v4)]) (st' := [.int v2, .int v3]) (w' := []) (by decide +kernel) rfl trivial ?_
          rcases ite_s hf with ⟨c_103, hf⟩ | ⟨c_103, hf⟩
          · refine m_jT M (i := .if_icmp .ge 5) 28 (by decide +kernel) rfl (by decide) c_103 ?_
            refine m_run M (is := [(28, .iload_n 0, 0), (29, .iload_n 1, 0), (30, .iload_n 3, 0)]) (pc' := 31) (L' := [some (.int v0), some (.int v1), some (.int v2), some (.int v3), some (.int v4)]) (st' := [.int v3, .int v1, .int v0]) (w' := []) (by decide +kernel) rfl trivial ?_
            obtain ⟨r104, h_104, hf⟩ := bnd_s hf
            refine m_cS0 M (rest := []) (w2 := []) (st2 := [.int r104]) (run_X3_shuffled v0 v1 v3    h_104) cs_X3_shuffled lk_X3_313 (by decide +kernel) [] (by decide) ⟨Nat.le_of_ble_eq_true rfl, Nat.le_of_ble_eq_true rfl⟩ rfl rfl (Nat.le_of_ble_eq_true rfl) ⟨by decide, by decide⟩ rfl rfl ⟨Nat.zero_le _, Nat.zero_le _⟩ rfl rfl ?_
            refine m_run M (is := [(34, .istore_n 3, 0), (35, .iinc 4 1, 1), (38, .goto (-28), 0)]) (pc' := 10) (L' := [some (.int v0), some (.int v1), some (.int v2), some (.int r104), some (.int (v4 + 1))]) (st' := []) (w' := []) (by decide +kernel) rfl trivial ?_
            exact ih r104 (v4 + 1) hf
          · refine m_jF M (i := .if_icmp .ge 5) 28 (by decide +kernel) rfl (by decide) c_103 ?_
            refine m_run M (is := [(26, .iconst 0, 0)]) (pc' := 27) (L' := [some (.int v0), some (.int v1), some (.int v2), some (.int v3), some (.int v4)]) (st' := [.int 0]) (w' := []) (by decide +kernel) rfl trivial ?_
            obtain rfl := Option.some.inj hf
            exact m_zret K (by decide +kernel) (Or.inl rfl) (Nat.zero_le _) (Nat.zero_le _) ⟨rfl, rfl⟩
  rw [f_X3_isLeastOfItsRound] at hf
  refine m_run M (is := [(0, .iload_n 0, 0), (1, .iload_n 1, 0), (2, .iload_n 2, 0)]) (pc' := 3) (L' := [some (.int a0), some (.int a1), some (.int a2), none, none]) (st' := [.int a2, .int a1, .int a0]) (w' := []) (by decide +kernel) rfl trivial ?_
  obtain ⟨r1001, h_1001, hf⟩ := bnd_s hf
  refine m_cS0 M (rest := []) (w2 := []) (st2 := [.int r1001]) (run_X3_shuffled a0 a1 a2    h_1001) cs_X3_shuffled lk_X3_313 (by decide +kernel) [] (by decide) ⟨Nat.le_of_ble_eq_true rfl, Nat.le_of_ble_eq_true rfl⟩ rfl rfl (Nat.le_of_ble_eq_true rfl) ⟨by decide, by decide⟩ rfl rfl ⟨Nat.zero_le _, Nat.zero_le _⟩ rfl rfl ?_
  refine m_run M (is := [(6, .istore_n 3, 0), (7, .iconst 1, 1), (8, .istore 4, 0)]) (pc' := 10) (L' := [some (.int a0), some (.int a1), some (.int a2), some (.int r1001), some (.int 1)]) (st' := []) (w' := []) (by decide +kernel) rfl trivial ?_
  exact loop_0 a0 a1 a2 fuel0 r1001 1 hf

def f_X3_firstGreatest_L0 (v1 : Int32) (N : Nat) (f : AI) : Nat → Int32 → Int32 → Option (Int32)
  | 0, _, _ => none
  | n_ + 1, v2, v3 =>
    if v1 ≤ v3 then
      some v2
    else
      if inB v3 N then
      if inB v2 N then
      if (f v3.toNatClampNeg) ≤ (f v2.toNatClampNeg) then
        f_X3_firstGreatest_L0 v1 N f n_ v2 (v3 + 1)
      else
        f_X3_firstGreatest_L0 v1 N f n_ v3 (v3 + 1)
      else none
      else none
def f_X3_firstGreatest (a1 : Int32) (N : Nat) (f : AI) : Option (Int32) :=
  f_X3_firstGreatest_L0 a1 N f fuel0 0 1
set_option maxRecDepth 100000 in
set_option maxHeartbeats 4000000 in
theorem run_X3_firstGreatest {l : Launch} {D : va_G} {cT : Nat → ClassId} (a1 : Int32) (N : Nat)  (f : AI) {r : Int32} (hf : f_X3_firstGreatest a1 N f = some r) : Runs l D cT yX3_firstGreatest cX3_firstGreatest 4 (some .int) 0 0 [.ref 0, .int a1] [.inr (.inl (0, N, .inl f))] (EQ (some (.int r)) [.inr (.inl (0, N, .inl f))]) := by
  refine runs_of O_X3 okO_X3 (by decide +kernel) rfl rfl (Nat.le_of_ble_eq_true rfl) (Nat.le_of_ble_eq_true rfl) (fun g K => ?_)
  have M := K.b
  show g 0 0 [.inr (.inl (0, N, .inl f))] 0 [some (.ref 0), some (.int a1), none, none] []
  have loop_0 : ∀ (v1 : Int32) (n_ : Nat), (∀ (v2 : Int32) (v3 : Int32), f_X3_firstGreatest_L0 v1 N f n_ v2 v3 = some r → g 0 0 [.inr (.inl (0, N, .inl f))] 4 [some (.ref 0), some (.int v1), some (.int v2), some (.int v3)] []) := by
    intro v1 n_
    induction n_ with
    | zero => intro v2 v3 hf; cases hf
    | succ n_ ih =>
      intro v2 v3 hf
      rw [f_X3_firstGreatest_L0] at hf
      refine m_run M (is := [(4, .iload_n 3, 0), (5, .iload_n 1, 0)]) (pc' := 6) (L' := [some (.ref 0), some (.int v1), some (.int v2), some (.int v3)]) (st' := [.int v1, .int v3]) (w' := [.inr (.inl (0, N, .inl f))]) (by decide +kernel) rfl trivial ?_
      rcases ite_s hf with ⟨c_101, hf⟩ | ⟨c_101, hf⟩
      · refine m_jT M (i := .if_icmp .ge 20) 26 (by decide +kernel) rfl (by decide) c_101 ?_
        refine m_run M (is := [(26, .iload_n 2, 0)]) (pc' := 27) (L' := [some (.ref 0), some (.int v1), some (.int v2), some (.int v3)]) (st' := [.int v2]) (w' := [.inr (.inl (0, N, .inl f))]) (by decide +kernel) rfl trivial ?_
        obtain rfl := Option.some.inj hf
        exact m_iret K (by decide +kernel) (Nat.zero_le _) (Nat.zero_le _) ⟨rfl, rfl⟩
      · refine m_jF M (i := .if_icmp .ge 20) 26 (by decide +kernel) rfl (by decide) c_101 ?_
        obtain ⟨h_102, hf⟩ := grd_s hf
        obtain ⟨h_103, hf⟩ := grd_s hf
        refine m_run M (is := [(9, .aload_n 0, 0), (10, .iload_n 3, 0), (11, .iaload, 0), (12, .aload_n 0, 0), (13, .iload_n 2, 0), (14, .iaload, 0)]) (pc' := 15) (L' := [some (.ref 0), some (.int v1), some (.int v2), some (.int v3)]) (st' := [.int (f v2.toNatClampNeg), .int (f v3.toNatClampNeg)]) (w' := [.inr (.inl (0, N, .inl f))]) (by decide +kernel) rfl ⟨inB_use h_102, inB_use h_103, trivial⟩ ?_
        rcases ite_s hf with ⟨c_104, hf⟩ | ⟨c_104, hf⟩
        · refine m_jT M (i := .if_icmp .le 5) 20 (by decide +kernel) rfl (by decide) c_104 ?_
          refine m_run M (is := [(20, .iinc 3 1, 1), (23, .goto (-19), 0)]) (pc' := 4) (L' := [some (.ref 0), some (.int v1), some (.int v2), some (.int (v3 + 1))]) (st' := []) (w' := [.inr (.inl (0, N, .inl f))]) (by decide +kernel) rfl trivial ?_
          exact ih v2 (v3 + 1) hf
        · refine m_jF M (i := .if_icmp .le 5) 20 (by decide +kernel) rfl (by decide) c_104 ?_
          refine m_run M (is := [(18, .iload_n 3, 0), (19, .istore_n 2, 0), (20, .iinc 3 1, 1), (23, .goto (-19), 0)]) (pc' := 4) (L' := [some (.ref 0), some (.int v1), some (.int v3), some (.int (v3 + 1))]) (st' := []) (w' := [.inr (.inl (0, N, .inl f))]) (by decide +kernel) rfl trivial ?_
          exact ih v3 (v3 + 1) hf
  rw [f_X3_firstGreatest] at hf
  refine m_run M (is := [(0, .iconst 0, 0), (1, .istore_n 2, 0), (2, .iconst 1, 1), (3, .istore_n 3, 0)]) (pc' := 4) (L' := [some (.ref 0), some (.int a1), some (.int 0), some (.int 1)]) (st' := []) (w' := [.inr (.inl (0, N, .inl f))]) (by decide +kernel) rfl trivial ?_
  exact loop_0 a1 fuel0 0 1 hf

