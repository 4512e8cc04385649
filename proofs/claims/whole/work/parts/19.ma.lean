/-! ===== written by wip/whole/drive.py ===== -/
def f_X4_in (a0 : Int64) (a1 : Int64) (a2 : Int64) : Option (Int32) :=
  if (lg_cmp a0 a1) < 0 then
    some 0
  else
    if 0 < (lg_cmp a0 a2) then
      some 0
    else
      some 1
set_option maxRecDepth 100000 in
set_option maxHeartbeats 4000000 in
theorem run_X4_in {l : Launch} {D : va_G} {cT : Nat → ClassId} (a0 : Int64) (a1 : Int64) (a2 : Int64)    {r : Int32} (hf : f_X4_in a0 a1 a2 = some r) : Runs l D cT yX4_in cX4_in 6 (some .boolean) 0 0 [.long a0, .long a1, .long a2] [] (EQ (some (.int r)) []) := by
  refine runs_of O_X4 okO_X4 (by decide +kernel) rfl rfl (Nat.le_of_ble_eq_true rfl) (Nat.le_of_ble_eq_true rfl) (fun g K => ?_)
  have M := K.b
  show g 0 0 [] 0 [some (.long a0), none, some (.long a1), none, some (.long a2), none] []
  rw [f_X4_in] at hf
  refine m_run M (is := [(0, .lload_n 0, 0), (1, .lload_n 2, 0), (2, .lcmp, 0)]) (pc' := 3) (L' := [some (.long a0), none, some (.long a1), none, some (.long a2), none]) (st' := [.int (lg_cmp a0 a1)]) (w' := []) (by decide +kernel) rfl trivial ?_
  rcases ite_s hf with ⟨c_1001, hf⟩ | ⟨c_1001, hf⟩
  · refine m_jT M (i := .ifCond .lt 14) 17 (by decide +kernel) rfl (by decide) c_1001 ?_
    refine m_run M (is := [(17, .iconst 0, 0)]) (pc' := 18) (L' := [some (.long a0), none, some (.long a1), none, some (.long a2), none]) (st' := [.int 0]) (w' := []) (by decide +kernel) rfl trivial ?_
    obtain rfl := Option.some.inj hf
    exact m_zret K (by decide +kernel) (Or.inl rfl) (Nat.zero_le _) (Nat.zero_le _) ⟨rfl, rfl⟩
  · refine m_jF M (i := .ifCond .lt 14) 17 (by decide +kernel) rfl (by decide) c_1001 ?_
    refine m_run M (is := [(6, .lload_n 0, 0), (7, .lload 4, 0), (9, .lcmp, 0)]) (pc' := 10) (L' := [some (.long a0), none, some (.long a1), none, some (.long a2), none]) (st' := [.int (lg_cmp a0 a2)]) (w' := []) (by decide +kernel) rfl trivial ?_
    rcases ite_s hf with ⟨c_1002, hf⟩ | ⟨c_1002, hf⟩
    · refine m_jT M (i := .ifCond .gt 7) 17 (by decide +kernel) rfl (by decide) c_1002 ?_
      refine m_run M (is := [(17, .iconst 0, 0)]) (pc' := 18) (L' := [some (.long a0), none, some (.long a1), none, some (.long a2), none]) (st' := [.int 0]) (w' := []) (by decide +kernel) rfl trivial ?_
      obtain rfl := Option.some.inj hf
      exact m_zret K (by decide +kernel) (Or.inl rfl) (Nat.zero_le _) (Nat.zero_le _) ⟨rfl, rfl⟩
    · refine m_jF M (i := .ifCond .gt 7) 17 (by decide +kernel) rfl (by decide) c_1002 ?_
      refine m_run M (is := [(13, .iconst 1, 1), (14, .goto 4, 0)]) (pc' := 18) (L' := [some (.long a0), none, some (.long a1), none, some (.long a2), none]) (st' := [.int 1]) (w' := []) (by decide +kernel) rfl trivial ?_
      obtain rfl := Option.some.inj hf
      exact m_zret K (by decide +kernel) (Or.inr rfl) (Nat.zero_le _) (Nat.zero_le _) ⟨rfl, rfl⟩

def f_X4_has (a0 : Int32) (a1 : Int32) : Option (Int32) :=
  if ((a0 >>> (a1 &&& 31)) &&& 1) = 0 then
    some 0
  else
    some 1
set_option maxRecDepth 100000 in
set_option maxHeartbeats 4000000 in
theorem run_X4_has {l : Launch} {D : va_G} {cT : Nat → ClassId} (a0 : Int32) (a1 : Int32)    {r : Int32} (hf : f_X4_has a0 a1 = some r) : Runs l D cT yX4_has cX4_has 2 (some .boolean) 0 0 [.int a0, .int a1] [] (EQ (some (.int r)) []) := by
  refine runs_of O_X4 okO_X4 (by decide +kernel) rfl rfl (Nat.le_of_ble_eq_true rfl) (Nat.le_of_ble_eq_true rfl) (fun g K => ?_)
  have M := K.b
  show g 0 0 [] 0 [some (.int a0), some (.int a1)] []
  rw [f_X4_has] at hf
  refine m_run M (is := [(0, .iload_n 0, 0), (1, .iload_n 1, 0), (2, .ishr, 0), (3, .iconst 1, 1), (4, .iand, 0)]) (pc' := 5) (L' := [some (.int a0), some (.int a1)]) (st' := [.int ((a0 >>> (a1 &&& 31)) &&& 1)]) (w' := []) (by decide +kernel) rfl trivial ?_
  rcases ite_s hf with ⟨c_1001, hf⟩ | ⟨c_1001, hf⟩
  · refine m_jT M (i := .ifCond .eq 7) 12 (by decide +kernel) rfl (by decide) c_1001 ?_
    refine m_run M (is := [(12, .iconst 0, 0)]) (pc' := 13) (L' := [some (.int a0), some (.int a1)]) (st' := [.int 0]) (w' := []) (by decide +kernel) rfl trivial ?_
    obtain rfl := Option.some.inj hf
    exact m_zret K (by decide +kernel) (Or.inl rfl) (Nat.zero_le _) (Nat.zero_le _) ⟨rfl, rfl⟩
  · refine m_jF M (i := .ifCond .eq 7) 12 (by decide +kernel) rfl (by decide) c_1001 ?_
    refine m_run M (is := [(8, .iconst 1, 1), (9, .goto 4, 0)]) (pc' := 13) (L' := [some (.int a0), some (.int a1)]) (st' := [.int 1]) (w' := []) (by decide +kernel) rfl trivial ?_
    obtain rfl := Option.some.inj hf
    exact m_zret K (by decide +kernel) (Or.inr rfl) (Nat.zero_le _) (Nat.zero_le _) ⟨rfl, rfl⟩

def f_X4_fit (a0 : Int32) (a1 : Int64) : Option (Int64) :=
  if a0 = 0 then
    some ((a1.toInt32.toInt8.toInt32).toInt64)
  else
    if a0 = 1 then
      some ((a1.toInt32.toInt16.toInt32).toInt64)
    else
      if a0 = 2 then
        some ((a1.toInt32).toInt64)
      else
        if a0 = 3 then
          some a1
        else
          if (lg_cmp a1 0) = 0 then
            some 0
          else
            some 1
set_option maxRecDepth 100000 in
set_option maxHeartbeats 4000000 in
theorem run_X4_fit {l : Launch} {D : va_G} {cT : Nat → ClassId} (a0 : Int32) (a1 : Int64)    {r : Int64} (hf : f_X4_fit a0 a1 = some r) : Runs l D cT yX4_fit cX4_fit 3 (some .long) 0 0 [.int a0, .long a1] [] (EQ (some (.long r)) []) := by
  refine runs_of O_X4 okO_X4 (by decide +kernel) rfl rfl (Nat.le_of_ble_eq_true rfl) (Nat.le_of_ble_eq_true rfl) (fun g K => ?_)
  have M := K.b
  show g 0 0 [] 0 [some (.int a0), some (.long a1), none] []
  rw [f_X4_fit] at hf
  refine m_run M (is := [(0, .iload_n 0, 0)]) (pc' := 1) (L' := [some (.int a0), some (.long a1), none]) (st' := [.int a0]) (w' := []) (by decide +kernel) rfl trivial ?_
  rcases ite_s hf with ⟨c_1001, hf⟩ | ⟨c_1001, hf⟩
  · refine m_tsI M (dflt := 47) (t0 := 0) (t1 := 3) (offs := #[31, 36, 41, 45]) (len := 31) (tgt := 32) 0 (by decide +kernel) (by rw [c_1001]; rfl) (by decide) rfl (by decide) ?_
    refine m_run M (is := [(32, .lload_n 1, 0), (33, .l2i, 0), (34, .i2b, 0), (35, .i2l, 0)]) (pc' := 36) (L' := [some (.int a0), some (.long a1), none]) (st' := [.long ((a1.toInt32.toInt8.toInt32).toInt64)]) (w' := []) (by decide +kernel) rfl trivial ?_
    obtain rfl := Option.some.inj hf
    exact m_lret K (by decide +kernel) (Nat.zero_le _) (Nat.zero_le _) ⟨rfl, rfl⟩
  · rcases ite_s hf with ⟨c_1002, hf⟩ | ⟨c_1002, hf⟩
    · refine m_tsI M (dflt := 47) (t0 := 0) (t1 := 3) (offs := #[31, 36, 41, 45]) (len := 31) (tgt := 37) 1 (by decide +kernel) (by rw [c_1002]; rfl) (by decide) rfl (by decide) ?_
      refine m_run M (is := [(37, .lload_n 1, 0), (38, .l2i, 0), (39, .i2s, 0), (40, .i2l, 0)]) (pc' := 41) (L' := [some (.int a0), some (.long a1), none]) (st' := [.long ((a1.toInt32.toInt16.toInt32).toInt64)]) (w' := []) (by decide +kernel) rfl trivial ?_
      obtain rfl := Option.some.inj hf
      exact m_lret K (by decide +kernel) (Nat.zero_le _) (Nat.zero_le _) ⟨rfl, rfl⟩
    · rcases ite_s hf with ⟨c_1003, hf⟩ | ⟨c_1003, hf⟩
      · refine m_tsI M (dflt := 47) (t0 := 0) (t1 := 3) (offs := #[31, 36, 41, 45]) (len := 31) (tgt := 42) 2 (by decide +kernel) (by rw [c_1003]; rfl) (by decide) rfl (by decide) ?_
        refine m_run M (is := [(42, .lload_n 1, 0), (43, .l2i, 0), (44, .i2l, 0)]) (pc' := 45) (L' := [some (.int a0), some (.long a1), none]) (st' := [.long ((a1.toInt32).toInt64)]) (w' := []) (by decide +kernel) rfl trivial ?_
        obtain rfl := Option.some.inj hf
        exact m_lret K (by decide +kernel) (Nat.zero_le _) (Nat.zero_le _) ⟨rfl, rfl⟩
      · rcases ite_s hf with ⟨c_1004, hf⟩ | ⟨c_1004, hf⟩
        · refine m_tsI M (dflt := 47) (t0 := 0) (t1 := 3) (offs := #[31, 36, 41, 45]) (len := 31) (tgt := 46) 3 (by decide +kernel) (by rw [c_1004]; rfl) (by decide) rfl (by decide) ?_
          refine m_run M (is := [(46, .lload_n 1, 0)]) (pc' := 47) (L' := [some (.int a0), some (.long a1), none]) (st' := [.long a1]) (w' := []) (by decide +kernel) rfl trivial ?_
          obtain rfl := Option.some.inj hf
          exact m_lret K (by decide +kernel) (Nat.zero_le _) (Nat.zero_le _) ⟨rfl, rfl⟩
        · refine m_tsO M (dflt := 47) (t0 := 0) (t1 := 3) (offs := #[31, 36, 41, 45]) (len := 31) (tgt := 48) (by decide +kernel) (ts_out4 c_1001 c_1002 c_1003 c_1004) (by decide) ?_
          refine m_run M (is := [(48, .lload_n 1, 0), (49, .lconst 0, 0), (50, .lcmp, 0)]) (pc' := 51) (L' := [some (.int a0), some (.long a1), none]) (st' := [.int (lg_cmp a1 0)]) (w' := []) (by decide +kernel) rfl trivial ?_
          rcases ite_s hf with ⟨c_1005, hf⟩ | ⟨c_1005, hf⟩
          · refine m_jT M (i := .ifCond .eq 7) 58 (by decide +kernel) rfl (by decide) c_1005 ?_
            refine m_run M (is := [(58, .lconst 0, 0)]) (pc' := 59) (L' := [some (.int a0), some (.long a1), none]) (st' := [.long 0]) (w' := []) (by decide +kernel) rfl trivial ?_
            obtain rfl := Option.some.inj hf
            exact m_lret K (by decide +kernel) (Nat.zero_le _) (Nat.zero_le _) ⟨rfl, rfl⟩
          · refine m_jF M (i := .ifCond .eq 7) 58 (by decide +kernel) rfl (by decide) c_1005 ?_
            refine m_run M (is := [(54, .lconst 1, 0), (55, .goto 4, 0)]) (pc' := 59) (L' := [some (.int a0), some (.long a1), none]) (st' := [.long 1]) (w' := []) (by decide +kernel) rfl trivial ?_
            obtain rfl := Option.some.inj hf
            exact m_lret K (by decide +kernel) (Nat.zero_le _) (Nat.zero_le _) ⟨rfl, rfl⟩

def f_X4_isUnder (a0 : Int32) (a1 : Int32) : Option (Int32) :=
  if a1 = 0 then
    some 1
  else
    if a0 = a1 then
      some 1
    else
      if a1 = 1 then
        if a0 = 3 then
          some 1
        else
          if a1 = 2 then
            if a0 = 4 then
              some 1
            else
              some 0
          else
            some 0
      else
        if a1 = 2 then
          if a0 = 4 then
            some 1
          else
            some 0
        else
          some 0
set_option maxRecDepth 100000 in
set_option maxHeartbeats 4000000 in
theorem run_X4_isUnder {l : Launch} {D : va_G} {cT : Nat → ClassId} (a0 : Int32) (a1 : Int32)    {r : Int32} (hf : f_X4_isUnder a0 a1 = some r) : Runs l D cT yX4_isUnder cX4_isUnder 2 (some .boolean) 0 0 [.int a0, .int a1] [] (EQ (some (.int r)) []) := by
  refine runs_of O_X4 okO_X4 (by decide +kernel) rfl rfl (Nat.le_of_ble_eq_true rfl) (Nat.le_of_ble_eq_true rfl) (fun g K => ?_)
  have M := K.b
  show g 0 0 [] 0 [some (.int a0), some (.int a1)] []
  rw [f_X4_isUnder] at hf
  refine m_run M (is := [(0, .iload_n 1, 0)]) (pc' := 1) (L' := [some (.int a0), some (.int a1)]) (st' := [.int a1]) (w' := []) (by decide +kernel) rfl trivial ?_
  rcases ite_s hf with ⟨c_1001, hf⟩ | ⟨c_1001, hf⟩
  · refine m_jT M (i := .ifCond .eq 28) 29 (by decide +kernel) rfl (by decide) c_1001 ?_
    refine m_run M (is := [(29, .iconst 1, 1), (30, .goto 4, 0)]) (pc' := 34) (L' := [some (.int a0), some (.int a1)]) (st' := [.int 1]) (w' := []) (by decide +kernel) rfl trivial ?_
    obtain rfl := Option.some.inj hf
    exact m_zret K (by decide +kernel) (Or.inr rfl) (Nat.zero_le _) (Nat.zero_le _) ⟨rfl, rfl⟩
  · refine m_jF M (i := .ifCond .eq 28) 29 (by decide +kernel) rfl (by decide) c_1001 ?_
    refine m_run M (is := [(4, .iload_n 0, 0), (5, .iload_n 1, 0)]) (pc' := 6) (L' := [some (.int a0), some (.int a1)]) (st' := [.int a1, .int a0]) (w' := []) (by decide +kernel) rfl trivial ?_
    rcases ite_s hf with ⟨c_1002, hf⟩ | ⟨c_1002, hf⟩
    · refine m_jT M (i := .if_icmp .eq 23) 29 (by decide +kernel) rfl (by decide) c_1002 ?_
      refine m_run M (is := [(29, .iconst 1, 1), (30, .goto 4, 0)]) (pc' := 34) (L' := [some (.int a0), some (.int a1)]) (st' := [.int 1]) (w' := []) (by decide +kernel) rfl trivial ?_
      obtain rfl := Option.some.inj hf
      exact m_zret K (by decide +kernel) (Or.inr rfl) (Nat.zero_le _) (Nat.zero_le _) ⟨rfl, rfl⟩
    · refine m_jF M (i := .if_icmp .eq 23) 29 (by decide +kernel) rfl (by decide) c_1002 ?_
      refine m_run M (is := [(9, .iload_n 1, 0), (10, .iconst 1, 1)]) (pc' := 11) (L' := [some (.int a0), some (.int a1)]) (st' := [.int 1, .int a1]) (w' := []) (by decide +kernel) rfl trivial ?_
      rcases ite_s hf with ⟨c_1003, hf⟩ | ⟨c_1003, hf⟩
      · refine m_jF M (i := .if_icmp .ne 8) 19 (by decide +kernel) rfl (by decide) (fun n => n c_1003) ?_
        refine m_run M (is := [(14, .iload_n 0, 0), (15, .iconst 3, 3)]) (pc' := 16) (L' := [some (.int a0), some (.int a1)]) (st' := [.int 3, .int a0]) (w' := []) (by decide +kernel) rfl trivial ?_
        rcases ite_s hf with ⟨c_1004, hf⟩ | ⟨c_1004, hf⟩
        · refine m_jT M (i := .if_icmp .eq 13) 29 (by decide +kernel) rfl (by decide) c_1004 ?_
          refine m_run M (is := [(29, .iconst 1, 1), (30, .goto 4, 0)]) (pc' := 34) (L' := [some (.int a0), some (.int a1)]) (st' := [.int 1]) (w' := []) (by decide +kernel) rfl trivial ?_
          obtain rfl := Option.some.inj hf
          exact m_zret K (by decide +kernel) (Or.inr rfl) (Nat.zero_le _) (Nat.zero_le _) ⟨rfl, rfl⟩
        · refine m_jF M (i := .if_icmp .eq 13) 29 (by decide +kernel) rfl (by decide) c_1004 ?_
          refine m_run M (is := [(19, .iload_n 1, 0), (20, .iconst 2, 2)]) (pc' := 21) (L' := [some (.int a0), some (.int a1)]) (st' := [.int 2, .int a1]) (w' := []) (by decide +kernel) rfl trivial ?_
          rcases ite_s hf with ⟨c_1005, hf⟩ | ⟨c_1005, hf⟩
          · refine m_jF M (i := .if_icmp .ne 12) 33 (by decide +kernel) rfl (by decide) (fun n => n c_1005) ?_
            refine m_run M (is := [(24, .iload_n 0, 0), (25, .iconst 4, 4)]) (pc' := 26) (L' := [some (.int a0), some (.int a1)]) (st' := [.int 4, .int a0]) (w' := []) (by decide +kernel) rfl trivial ?_
            rcases ite_s hf with ⟨c_1006, hf⟩ | ⟨c_1006, hf⟩
            · refine m_jF M (i := .if_icmp .ne 7) 33 (by decide +kernel) rfl (by decide) (fun n => n c_1006) ?_
              refine m_run M (is := [(29, .iconst 1, 1), (30, .goto 4, 0)]) (pc' := 34) (L' := [some (.int a0), some (.int a1)]) (st' := [.int 1]) (w' := []) (by decide +kernel) rfl trivial ?_
              obtain rfl := Option.some.inj hf
              exact m_zret K (by decide +kernel) (Or.inr rfl) (Nat.zero_le _) (Nat.zero_le _) ⟨rfl, rfl⟩
            · refine m_jT M (i := .if_icmp .ne 7) 33 (by decide +kernel) rfl (by decide) c_1006 ?_
              refine m_run M (is := [(33, .iconst 0, 0)]) (pc' := 34) (L' := [some (.int a0), some (.int a1)]) (st' := [.int 0]) (w' := []) (by decide +kernel) rfl trivial ?_
              obtain rfl := Option.some.inj hf
              exact m_zret K (by decide +kernel) (Or.inl rfl) (Nat.zero_le _) (Nat.zero_le _) ⟨rfl, rfl⟩
          · refine m_jT M (i := .if_icmp .ne 12) 33 (by decide +kernel) rfl (by decide) c_1005 ?_
            refine m_run M (is := [(33, .iconst 0, 0)]) (pc' := 34) (L' := [some (.int a0), some (.int a1)]) (st' := [.int 0]) (w' := []) (by decide +kernel) rfl trivial ?_
            obtain rfl := Option.some.inj hf
            exact m_zret K (by decide +kernel) (Or.inl rfl) (Nat.zero_le _) (Nat.zero_le _) ⟨rfl, rfl⟩
      · refine m_jT M (i := .if_icmp .ne 8) 19 (by decide +kernel) rfl (by decide) c_1003 ?_
        refine m_run M (is := [(19, .iload_n 1, 0), (20, .iconst 2, 2)]) (pc' := 21) (L' := [some (.int a0), some (.int a1)]) (st' := [.int 2, .int a1]) (w' := []) (by decide +kernel) rfl trivial ?_
        rcases ite_s hf with ⟨c_1007, hf⟩ | ⟨c_1007, hf⟩
        · refine m_jF M (i := .if_icmp .ne 12) 33 (by decide +kernel) rfl (by decide) (fun n => n c_1007) ?_
          refine m_run M (is := [(24, .iload_n 0, 0), (25, .iconst 4, 4)]) (pc' := 26) (L' := [some (.int a0), some (.int a1)]) (st' := [.int 4, .int a0]) (w' := []) (by decide +kernel) rfl trivial ?_
          rcases ite_s hf with ⟨c_1008, hf⟩ | ⟨c_1008, hf⟩
          · refine m_jF M (i := .if_icmp .ne 7) 33 (by decide +kernel) rfl (by decide) (fun n => n c_1008) ?_
            refine m_run M (is := [(29, .iconst 1, 1), (30, .goto 4, 0)]) (pc' := 34) (L' := [some (.int a0), some (.int a1)]) (st' := [.int 1]) (w' := []) (by decide +kernel) rfl trivial ?_
            obtain rfl := Option.some.inj hf
            exact m_zret K (by decide +kernel) (Or.inr rfl) (Nat.zero_le _) (Nat.zero_le _) ⟨rfl, rfl⟩
          · refine m_jT M (i := .if_icmp .ne 7) 33 (by decide +kernel) rfl (by decide) c_1008 ?_
            refine m_run M (is := [(33, .iconst 0, 0)]) (pc' := 34) (L' := [some (.int a0), some (.int a1)]) (st' := [.int 0]) (w' := []) (by decide +kernel) rfl trivial ?_
            obtain rfl := Option.some.inj hf
            exact m_zret K (by decide +kernel) (Or.inl rfl) (Nat.zero_le _) (Nat.zero_le _) ⟨rfl, rfl⟩
        · refine m_jT M (i := .if_icmp .ne 12) 33 (by decide +kernel) rfl (by decide) c_1007 ?_
          refine m_run M (is := [(33, .iconst 0, 0)]) (pc' := 34) (L' := [some (.int a0), some (.int a1)]) (st' := [.int 0]) (w' := []) (by decide +kernel) rfl trivial ?_
          obtain rfl := Option.some.inj hf
          exact m_zret K (by decide +kernel) (Or.inl rfl) (Nat.zero_le _) (Nat.zero_le _) ⟨rfl, rfl⟩

def f_X4_isLetter (a0 : Int32) : Option (Int32) :=
  if a0 < 97 then
    some 0
  else
    if 122 < a0 then
      some 0
    else
      some 1
set_option maxRecDepth 100000 in
set_option maxHeartbeats 4000000 in
theorem run_X4_isLetter {l : Launch} {D : va_G} {cT : Nat → ClassId} (a0 : Int32)    {r : Int32} (hf : f_X4_isLetter a0 = some r) : Runs l D cT yX4_isLetter cX4_isLetter 1 (some .boolean) 0 0 [.int a0] [] (EQ (some (.int r)) []) := by
  refine runs_of O_X4 okO_X4 (by decide +kernel) rfl rfl (Nat.le_of_ble_eq_true rfl) (Nat.le_of_ble_eq_true rfl) (fun g K => ?_)
  have M := K.b
  show g 0 0 [] 0 [some (.int a0)] []
  rw [f_X4_isLetter] at hf
  refine m_run M (is := [(0, .iload_n 0, 0), (1, .bipush 97, 97)]) (pc' := 3) (L' := [some (.int a0)]) (st' := [.int 97, .int a0]) (w' := []) (by decide +kernel) rfl trivial ?_
  rcases ite_s hf with ⟨c_1001, hf⟩ | ⟨c_1001, hf⟩
  · refine m_jT M (i := .if_icmp .lt 13) 16 (by decide +kernel) rfl (by decide) c_1001 ?_
    refine m_run M (is := [(16, .iconst 0, 0)]) (pc' := 17) (L' := [some (.int a0)]) (st' := [.int 0]) (w' := []) (by decide +kernel) rfl trivial ?_
    obtain rfl := Option.some.inj hf
    exact m_zret K (by decide +kernel) (Or.inl rfl) (Nat.zero_le _) (Nat.zero_le _) ⟨rfl, rfl⟩
  · refine m_jF M (i := .if_icmp .lt 13) 16 (by decide +kernel) rfl (by decide) c_1001 ?_
    refine m_run M (is := [(6, .iload_n 0, 0), (7, .bipush 122, 122)]) (pc' := 9) (L' := [some (.int a0)]) (st' := [.int 122, .int a0]) (w' := []) (by decide +kernel) rfl trivial ?_
    rcases ite_s hf with ⟨c_1002, hf⟩ | ⟨c_1002, hf⟩
    · refine m_jT M (i := .if_icmp .gt 7) 16 (by decide +kernel) rfl (by decide) c_1002 ?_
      refine m_run M (is := [(16, .iconst 0, 0)]) (pc' := 17) (L' := [some (.int a0)]) (st' := [.int 0]) (w' := []) (by decide +kernel) rfl trivial ?_
      obtain rfl := Option.some.inj hf
      exact m_zret K (by decide +kernel) (Or.inl rfl) (Nat.zero_le _) (Nat.zero_le _) ⟨rfl, rfl⟩
    · refine m_jF M (i := .if_icmp .gt 7) 16 (by decide +kernel) rfl (by decide) c_1002 ?_
      refine m_run M (is := [(12, .iconst 1, 1), (13, .goto 4, 0)]) (pc' := 17) (L' := [some (.int a0)]) (st' := [.int 1]) (w' := []) (by decide +kernel) rfl trivial ?_
      obtain rfl := Option.some.inj hf
      exact m_zret K (by decide +kernel) (Or.inr rfl) (Nat.zero_le _) (Nat.zero_le _) ⟨rfl, rfl⟩

def f_X4_isDigit (a0 : Int32) : Option (Int32) :=
  if a0 < 48 then
    some 0
  else
    if 57 < a0 then
      some 0
    else
      some 1
set_option maxRecDepth 100000 in
set_option maxHeartbeats 4000000 in
theorem run_X4_isDigit {l : Launch} {D : va_G} {cT : Nat → ClassId} (a0 : Int32)    {r : Int32} (hf : f_X4_isDigit a0 = some r) : Runs l D cT yX4_isDigit cX4_isDigit 1 (some .boolean) 0 0 [.int a0] [] (EQ (some (.int r)) []) := by
  refine runs_of O_X4 okO_X4 (by decide +kernel) rfl rfl (Nat.le_of_ble_eq_true rfl) (Nat.le_of_ble_eq_true rfl) (fun g K => ?_)
  have M := K.b
  show g 0 0 [] 0 [some (.int a0)] []
  rw [f_X4_isDigit] at hf
  refine m_run M (is := [(0, .iload_n 0, 0), (1, .bipush 48, 48)]) (pc' := 3) (L' := [some (.int a0)]) (st' := [.int 48, .int a0]) (w' := []) (by decide +kernel) rfl trivial ?_
  rcases ite_s hf with ⟨c_1001, hf⟩ | ⟨c_1001, hf⟩
  · refine m_jT M (i := .if_icmp .lt 13) 16 (by decide +kernel) rfl (by decide) c_1001 ?_
    refine m_run M (is := [(16, .iconst 0, 0)]) (pc' := 17) (L' := [some (.int a0)]) (st' := [.int 0]) (w' := []) (by decide +kernel) rfl trivial ?_
    obtain rfl := Option.some.inj hf
    exact m_zret K (by decide +kernel) (Or.inl rfl) (Nat.zero_le _) (Nat.zero_le _) ⟨rfl, rfl⟩
  · refine m_jF M (i := .if_icmp .lt 13) 16 (by decide +kernel) rfl (by decide) c_1001 ?_
    refine m_run M (is := [(6, .iload_n 0, 0), (7, .bipush 57, 57)]) (pc' := 9) (L' := [some (.int a0)]) (st' := [.int 57, .int a0]) (w' := []) (by decide +kernel) rfl trivial ?_
    rcases ite_s hf with ⟨c_1002, hf⟩ | ⟨c_1002, hf⟩
    · refine m_jT M (i := .if_icmp .gt 7) 16 (by decide +kernel) rfl (by decide) c_1002 ?_
      refine m_run M (is := [(16, .iconst 0, 0)]) (pc' := 17) (L' := [some (.int a0)]) (st' := [.int 0]) (w' := []) (by decide +kernel) rfl trivial ?_
      obtain rfl := Option.some.inj hf
      exact m_zret K (by decide +kernel) (Or.inl rfl) (Nat.zero_le _) (Nat.zero_le _) ⟨rfl, rfl⟩
    · refine m_jF M (i := .if_icmp .gt 7) 16 (by decide +kernel) rfl (by decide) c_1002 ?_
      refine m_run M (is := [(12, .iconst 1, 1), (13, .goto 4, 0)]) (pc' := 17) (L' := [some (.int a0)]) (st' := [.int 1]) (w' := []) (by decide +kernel) rfl trivial ?_
      obtain rfl := Option.some.inj hf
      exact m_zret K (by decide +kernel) (Or.inr rfl) (Nat.zero_le _) (Nat.zero_le _) ⟨rfl, rfl⟩

def f_X4_mayTurns (a0 : Int32) : Option (Int32) :=
  (f_X4_in ((a0).toInt64) 0 999).bind fun r1001 =>
  if z01 r1001 then
  some r1001
  else none
set_option maxRecDepth 100000 in
set_option maxHeartbeats 4000000 in
theorem run_X4_mayTurns {l : Launch} {D : va_G} {cT : Nat → ClassId} (a0 : Int32)    {r : Int32} (hf : f_X4_mayTurns a0 = some r) : Runs l D cT yX4_mayTurns cX4_mayTurns 1 (some .boolean) 1 25 [.int a0] [] (EQ (some (.int r)) []) := by
  refine runs_of O_X4 okO_X4 (by decide +kernel) rfl rfl (Nat.le_of_ble_eq_true rfl) (Nat.le_of_ble_eq_true rfl) (fun g K => ?_)
  have M := K.b
  show g 0 0 [] 0 [some (.int a0)] []
  rw [f_X4_mayTurns] at hf
  refine m_run M (is := [(0, .iload_n 0, 0), (1, .i2l, 0), (2, .lconst 0, 0), (3, .ldc2_w 126, 0)]) (pc' := 6) (L' := [some (.int a0)]) (st' := [.long 999, .long 0, .long ((a0).toInt64)]) (w' := []) (by decide +kernel) rfl trivial ?_
  obtain ⟨r1001, h_1001, hf⟩ := bnd_s hf
  refine m_cS0 M (rest := []) (w2 := []) (st2 := [.int r1001]) (run_X4_in ((a0).toInt64) 0 999    h_1001) cs_X4_in lk_X4_72 (by decide +kernel) [] (by decide) ⟨Nat.le_of_ble_eq_true rfl, Nat.le_of_ble_eq_true rfl⟩ rfl rfl (Nat.le_of_ble_eq_true rfl) ⟨by decide, by decide⟩ rfl rfl ⟨Nat.zero_le _, Nat.zero_le _⟩ rfl rfl ?_
  obtain ⟨h_1002, hf⟩ := grd_s hf
  obtain rfl := Option.some.inj hf
  exact m_zret K (by decide +kernel) (z01_use h_1002) (Nat.zero_le _) (Nat.zero_le _) ⟨rfl, rfl⟩

def f_X4_comesTo (a0 : Int32) (a1 : Int32) (a2 : Int32) : Option (Int32) :=
  if a1 = 0 then
    if ¬ (2 : Int32) = 0 then
    if a1 = 0 then
      if ((a0 + 1) / 2) ≤ a2 then
        some (((2 * (a2 - ((a0 + 1) / 2))) + 1) - 0)
      else
        some ((2 * a2) + 0)
    else
      if ((a0 + 1) / 2) ≤ a2 then
        some (((2 * (a2 - ((a0 + 1) / 2))) + 1) - 1)
      else
        some ((2 * a2) + 1)
    else none
  else
    if ¬ (2 : Int32) = 0 then
    if a1 = 0 then
      if (a0 / 2) ≤ a2 then
        some (((2 * (a2 - (a0 / 2))) + 1) - 0)
      else
        some ((2 * a2) + 0)
    else
      if (a0 / 2) ≤ a2 then
        some (((2 * (a2 - (a0 / 2))) + 1) - 1)
      else
        some ((2 * a2) + 1)
    else none
set_option maxRecDepth 100000 in
set_option maxHeartbeats 4000000 in
theorem run_X4_comesTo {l : Launch} {D : va_G} {cT : Nat → ClassId} (a0 : Int32) (a1 : Int32) (a2 : Int32)    {r : Int32} (hf : f_X4_comesTo a0 a1 a2 = some r) : Runs l D cT yX4_comesTo cX4_comesTo 5 (some .int) 0 0 [.int a0, .int a1, .int a2] [] (EQ (some (.int r)) []) := by
  refine runs_of O_X4 okO_X4 (by decide +kernel) rfl rfl (Nat.le_of_ble_eq_true rfl) (Nat.le_of_ble_eq_true rfl) (fun g K => ?_)
  have M := K.b
  show g 0 0 [] 0 [some (.int a0), some (.int a1), some (.int a2), none, none] []
  rw [f_X4_comesTo] at hf
  refine m_run M (is := [(0, .iload_n 1, 0)]) (pc' := 1) (L' := [some (.int a0), some (.int a1), some (.int a2), none, none]) (st' := [.int a1]) (w' := []) (by decide +kernel) rfl trivial ?_
  rcases ite_s hf with ⟨c_1001, hf⟩ | ⟨c_1001, hf⟩
  · refine m_jT M (i := .ifCond .eq 9) 10 (by decide +kernel) rfl (by decide) c_1001 ?_
    obtain ⟨h_1002, hf⟩ := grd_s hf
    refine m_run M (is := [(10, .iload_n 0, 0), (11, .iconst 1, 1), (12, .iadd, 0), (13, .iconst 2, 2), (14, .idiv, 0), (15, .istore_n 3, 0), (16, .iload_n 1, 0)]) (pc' := 17) (L' := [some (.int a0), some (.int a1), some (.int a2), some (.int ((a0 + 1) / 2)), none]) (st' := [.int a1]) (w' := []) (by decide +kernel) rfl ⟨h_1002, trivial⟩ ?_
    rcases ite_s hf with ⟨c_1003, hf⟩ | ⟨c_1003, hf⟩
    · refine m_jT M (i := .ifCond .eq 7) 24 (by decide +kernel) rfl (by decide) c_1003 ?_
      refine m_run M (is := [(24, .iconst 0, 0), (25, .istore 4, 0), (27, .iload_n 2, 0), (28, .iload_n 3, 0)]) (pc' := 29) (L' := [some (.int a0), some (.int a1), some (.int a2), some (.int ((a0 + 1) / 2)), some (.int 0)]) (st' := [.int ((a0 + 1) / 2), .int a2]) (w' := []) (by decide +kernel) rfl trivial ?_
      rcases ite_s hf with ⟨c_1004, hf⟩ | ⟨c_1004, hf⟩
      · refine m_jT M (i := .if_icmp .ge 12) 41 (by decide +kernel) rfl (by decide) c_1004 ?_
        refine m_run M (is := [(41, .iconst 2, 2), (42, .iload_n 2, 0), (43, .iload_n 3, 0), (44, .isub, 0), (45, .imul, 0), (46, .iconst 1, 1), (47, .iadd, 0), (48, .iload 4, 0), (50, .isub, 0)]) (pc' := 51) (L' := [some (.int a0), some (.int a1), some (.int a2), some (.int ((a0 + 1) / 2)), some (.int 0)]) (st' := [.int (((2 * (a2 - ((a0 + 1) / 2))) + 1) - 0)]) (w' := []) (by decide +kernel) rfl trivial ?_
        obtain rfl := Option.some.inj hf
        exact m_iret K (by decide +kernel) (Nat.zero_le _) (Nat.zero_le _) ⟨rfl, rfl⟩
      · refine m_jF M (i := .if_icmp .ge 12) 41 (by decide +kernel) rfl (by decide) c_1004 ?_
        refine m_run M (is := [(32, .iconst 2, 2), (33, .iload_n 2, 0), (34, .imul, 0), (35, .iload 4, 0), (37, .iadd, 0), (38, .goto 13, 0)]) (pc' := 51) (L' := [some (.int a0), some (.int a1), some (.int a2), some (.int ((a0 + 1) / 2)), some (.int 0)]) (st' := [.int ((2 * a2) + 0)]) (w' := []) (by decide +kernel) rfl trivial ?_
        obtain rfl := Option.some.inj hf
        exact m_iret K (by decide +kernel) (Nat.zero_le _) (Nat.zero_le _) ⟨rfl, rfl⟩
    · refine m_jF M (i := .ifCond .eq 7) 24 (by decide +kernel) rfl (by decide) c_1003 ?_
      refine m_run M (is := [(20, .iconst 1, 1), (21, .goto 4, 0), (25, .istore 4, 0), (27, .iload_n 2, 0), (28, .iload_n 3, 0)]) (pc' := 29) (L' := [some (.int a0), some (.int a1), some (.int a2), some (.int ((a0 + 1) / 2)), some (.int 1)]) (st' := [.int ((a0 + 1) / 2), .int a2]) (w' := []) (by decide +kernel) rfl trivial ?_
      rcases ite_s hf with ⟨c_1005, hf⟩ | ⟨c_1005, hf⟩
      · refine m_jT M (i := .if_icmp .ge 12) 41 (by decide +kernel) rfl (by decide) c_1005 ?_
        refine m_run M (is := [(41, .iconst 2, 2), (42, .iload_n 2, 0), (43, .iload_n 3, 0), (44, .isub, 0), (45, .imul, 0), (46, .iconst 1, 1), (47, .iadd, 0), (48, .iload 4, 0), (50, .isub, 0)]) (pc' := 51) (L' := [some (.int a0), some (.int a1), some (.int a2), some (.int ((a0 + 1) / 2)), some (.int 1)]) (st' := [.int (((2 * (a2 - ((a0 + 1) / 2))) + 1) - 1)]) (w' := []) (by decide +kernel) rfl trivial ?_
        obtain rfl := Option.some.inj hf
        exact m_iret K (by decide +kernel) (Nat.zero_le _) (Nat.zero_le _) ⟨rfl, rfl⟩
      · refine m_jF M (i := .if_icmp .ge 12) 41 (by decide +kernel) rfl (by decide) c_1005 ?_
        refine m_run M (is := [(32, .iconst 2, 2), (33, .iload_n 2, 0), (34, .imul, 0), (35, .iload 4, 0), (37, .iadd, 0), (38, .goto 13, 0)]) (pc' := 51) (L' := [some (.int a0), some (.int a1), some (.int a2), some (.int ((a0 + 1) / 2)), some (.int 1)]) (st' := [.int ((2 * a2) + 1)]) (w' := []) (by decide +kernel) rfl trivial ?_
        obtain rfl := Option.some.inj hf
        exact m_iret K (by decide +kernel) (Nat.zero_le _) (Nat.zero_le _) ⟨rfl, rfl⟩
  · refine m_jF M (i := .ifCond .eq 9) 10 (by decide +kernel) rfl (by decide) c_1001 ?_
    obtain ⟨h_1006, hf⟩ := grd_s hf
    refine m_run M (is := [(4, .iload_n 0, 0), (5, .iconst 2, 2), (6, .idiv, 0), (7, .goto 8, 0), (15, .istore_n 3, 0), (16, .iload_n 1, 0)]) (pc' := 17) (L' := [some (.int a0), some (.int a1), some (.int a2), some (.int (a0 / 2)), none]) (st' := [.int a1]) (w' := []) (by decide +kernel) rfl ⟨h_1006, trivial⟩ ?_
    rcases ite_s hf with ⟨c_1007, hf⟩ | ⟨c_1007, hf⟩
    · refine m_jT M (i := .ifCond .eq 7) 24 (by decide +kernel) rfl (by decide) c_1007 ?_
      refine m_run M (is := [(24, .iconst 0, 0), (25, .istore 4, 0), (27, .iload_n 2, 0), (28, .iload_n 3, 0)]) (pc' := 29) (L' := [some (.int a0), some (.int a1), some (.int a2), some (.int (a0 / 2)), some (.int 0)]) (st' := [.int (a0 / 2), .int a2]) (w' := []) (by decide +kernel) rfl trivial ?_
      rcases ite_s hf with ⟨c_1008, hf⟩ | ⟨c_1008, hf⟩
      · refine m_jT M (i := .if_icmp .ge 12) 41 (by decide +kernel) rfl (by decide) c_1008 ?_
        refine m_run M (is := [(41, .iconst 2, 2), (42, .iload_n 2, 0), (43, .iload_n 3, 0), (44, .isub, 0), (45, .imul, 0), (46, .iconst 1, 1), (47, .iadd, 0), (48, .iload 4, 0), (50, .isub, 0)]) (pc' := 51) (L' := [some (.int a0), some (.int a1), some (.int a2), some (.int (a0 / 2)), some (.int 0)]) (st' := [.int (((2 * (a2 - (a0 / 2))) + 1) - 0)]) (w' := []) (by decide +kernel) rfl trivial ?_
        obtain rfl := Option.some.inj hf
        exact m_iret K (by decide +kernel) (Nat.zero_le _) (Nat.zero_le _) ⟨rfl, rfl⟩
      · refine m_jF M (i := .if_icmp .ge 12) 41 (by decide +kernel) rfl (by decide) c_1008 ?_
        refine m_run M (is := [(32, .iconst 2, 2), (33, .iload_n 2, 0), (34, .imul, 0), (35, .iload 4, 0), (37, .iadd, 0), (38, .goto 13, 0)]) (pc' := 51) (L' := [some (.int a0), some (.int a1), some (.int a2), some (.int (a0 / 2)), some (.int 0)]) (st' := [.int ((2 * a2) + 0)]) (w' := []) (by decide +kernel) rfl trivial ?_
        obtain rfl := Option.some.inj hf
        exact m_iret K (by decide +kernel) (Nat.zero_le _) (Nat.zero_le _) ⟨rfl, rfl⟩
    · refine m_jF M (i := .ifCond .eq 7) 24 (by decide +kernel) rfl (by decide) c_1007 ?_
      refine m_run M (is := [(20, .iconst 1, 1), (21, .goto 4, 0), (25, .istore 4, 0), (27, .iload_n 2, 0), (28, .iload_n 3, 0)]) (pc' := 29) (L' := [some (.int a0), some (.int a1), some (.int a2), some (.int (a0 / 2)), some (.int 1)]) (st' := [.int (a0 / 2), .int a2]) (w' := []) (by decide +kernel) rfl trivial ?_
      rcases ite_s hf with ⟨c_1009, hf⟩ | ⟨c_1009, hf⟩
      · refine m_jT M (i := .if_icmp .ge 12) 41 (by decide +kernel) rfl (by decide) c_1009 ?_
        refine m_run M (is := [(41, .iconst 2, 2), (42, .iload_n 2, 0), (43, .iload_n 3, 0), (44, .isub, 0), (45, .imul, 0), (46, .iconst 1, 1), (47, .iadd, 0), (48, .iload 4, 0), (50, .isub, 0)]) (pc' := 51) (L' := [some (.int a0), some (.int a1), some (.int a2), some (.int (a0 / 2)), some (.int 1)]) (st' := [.int (((2 * (a2 - (a0 / 2))) + 1) - 1)]) (w' := []) (by decide +kernel) rfl trivial ?_
        obtain rfl := Option.some.inj hf
        exact m_iret K (by decide +kernel) (Nat.zero_le _) (Nat.zero_le _) ⟨rfl, rfl⟩
      · refine m_jF M (i := .if_icmp .ge 12) 41 (by decide +kernel) rfl (by decide) c_1009 ?_
        refine m_run M (is := [(32, .iconst 2, 2), (33, .iload_n 2, 0), (34, .imul, 0), (35, .iload 4, 0), (37, .iadd, 0), (38, .goto 13, 0)]) (pc' := 51) (L' := [some (.int a0), some (.int a1), some (.int a2), some (.int (a0 / 2)), some (.int 1)]) (st' := [.int ((2 * a2) + 1)]) (w' := []) (by decide +kernel) rfl trivial ?_
        obtain rfl := Option.some.inj hf
        exact m_iret K (by decide +kernel) (Nat.zero_le _) (Nat.zero_le _) ⟨rfl, rfl⟩

def f_X4_liesAt_L0 (v0 : Int32) (v1 : Int32) (v3 : Int32) : Nat → Int32 → Int32 → Option (Int32)
  | 0, _, _ => none
  | n_ + 1, v4, v5 =>
    if v3 ≤ v5 then
      some v4
    else
      (f_X4_comesTo v0 v1 v4).bind fun r102 =>
      f_X4_liesAt_L0 v0 v1 v3 n_ r102 (v5 + 1)
def f_X4_liesAt (a0 : Int32) (a1 : Int32) (a2 : Int32) (a3 : Int32) : Option (Int32) :=
  f_X4_liesAt_L0 a0 a1 a3 fuel0 a2 0
set_option maxRecDepth 100000 in
set_option maxHeartbeats 4000000 in
theorem run_X4_liesAt {l : Launch} {D : va_G} {cT : Nat → ClassId} (a0 : Int32) (a1 : Int32) (a2 : Int32) (a3 : Int32)    {r : Int32} (hf : f_X4_liesAt a0 a1 a2 a3 = some r) : Runs l D cT yX4_liesAt cX4_liesAt 6 (some .int) 1 24 [.int a0, .int a1, .int a2, .int a3] [] (EQ (some (.int r)) []) := by
  refine runs_of O_X4 okO_X4 (by decide +kernel) rfl rfl (Nat.le_of_ble_eq_true rfl) (Nat.le_of_ble_eq_true rfl) (fun g K => ?_)
  have M := K.b
  show g 0 0 [] 0 [some (.int a0), some (.int a1), some (.int a2), some (.int a3), none, none] []
  have loop_0 : ∀ (v0 : Int32) (v1 : Int32) (v3 : Int32) (n_ : Nat), (∀ (v4 : Int32) (v5 : Int32), f_X4_liesAt_L0 v0 v1 v3 n_ v4 v5 = some r → g 0 0 [] 6 [some (.int v0), some (.int v1), none, some (.int v3), some (.int v4), some (.int v5)] []) := by
    intro v0 v1 v3 n_
    induction n_ with
    | zero => intro v4 v5 hf; cases hf
    | succ n_ ih =>
      intro v4 v5 hf
      rw [f_X4_liesAt_L0] at hf
      refine m_run M (is := [(6, .iload 5, 0), (8, .iload_n 3, 0)]) (pc' := 9) (L' := [some (.int v0), some (.int v1), none, some (.int v3), some (.int v4), some (.int v5)]) (st' := [.int v3, .int v5]) (w' := []) (by decide +kernel) rfl trivial ?_
      rcases ite_s hf with ⟨c_101, hf⟩ | ⟨c_101, hf⟩
      · refine m_jT M (i := .if_icmp .ge 18) 27 (by decide +kernel) rfl (by decide) c_101 ?_
        refine m_run M (is := [(27, .iload 4, 0)]) (pc' := 29) (L' := [some (.int v0), some (.int v1), none, some (.int v3), some (.int v4), some (.int v5)]) (st' := [.int v4]) (w' := []) (by decide +kernel) rfl trivial ?_
        obtain rfl := Option.some.inj hf
        exact m_iret K (by decide +kernel) (Nat.zero_le _) (Nat.zero_le _) ⟨rfl, rfl⟩
      · refine m_jF M (i := .if_icmp .ge 18) 27 (by decide +kernel) rfl (by decide) c_101 ?_
        refine m_run M (is := [(12, .iload_n 0, 0), (13, .iload_n 1, 0), (14, .iload 4, 0)]) (pc' := 16) (L' := [some (.int v0), some (.int v1), none, some (.int v3), some (.int v4), some (.int v5)]) (st' := [.int v4, .int v1, .int v0]) (w' := []) (by decide +kernel) rfl trivial ?_
        obtain ⟨r102, h_102, hf⟩ := bnd_s hf
        refine m_cS0 M (rest := []) (w2 := []) (st2 := [.int r102]) (run_X4_comesTo v0 v1 v4    h_102) cs_X4_comesTo lk_X4_298 (by decide +kernel) [] (by decide) ⟨Nat.le_of_ble_eq_true rfl, Nat.le_of_ble_eq_true rfl⟩ rfl rfl (Nat.le_of_ble_eq_true rfl) ⟨by decide, by decide⟩ rfl rfl ⟨Nat.zero_le _, Nat.zero_le _⟩ rfl rfl ?_
        refine m_run M (is := [(19, .istore 4, 0), (21, .iinc 5 1, 1), (24, .goto (-18), 0)]) (pc' := 6) (L' := [some (.int v0), some (.int v1), none, some (.int v3), some (.int r102), some (.int (v5 + 1))]) (st' := []) (w' := []) (by decide +kernel) rfl trivial ?_
        exact ih r102 (v5 + 1) hf
  rw [f_X4_liesAt] at hf
  refine m_run M (is := [(0, .iload_n 2, 0), (1, .istore 4, 0), (3, .iconst 0, 0), (4, .istore 5, 0)]) (pc' := 6) (L' := [some (.int a0), some (.int a1), some (.int a2), some (.int a3), some (.int a2), some (.int 0)]) (st' := []) (w' := []) (by decide +kernel) rfl trivial ?_
  refine m_wk M [some (.int a0), some (.int a1), none, some (.int a3), some (.int a2), some (.int 0)] ⟨Or.inr rfl, Or.inr rfl, Or.inl rfl, Or.inr rfl, Or.inr rfl, Or.inr rfl, trivial⟩ ?_
  exact loop_0 a0 a1 a3 fuel0 a2 0 hf

def f_X4_stayOf_L0 (v0 : Int32) (v1 : Int32) (v2 : Int32) : Nat → Int32 → Int32 → Option (Int32)
  | 0, _, _ => none
  | n_ + 1, v3, v4 =>
    if v0 ≤ v4 then
      some v3
    else
      (f_X4_liesAt v0 v1 v4 v2).bind fun r102 =>
      if r102 = v4 then
        f_X4_stayOf_L0 v0 v1 v2 n_ (v3 + 1) (v4 + 1)
      else
        f_X4_stayOf_L0 v0 v1 v2 n_ (v3 + 0) (v4 + 1)
def f_X4_stayOf (a0 : Int32) (a1 : Int32) (a2 : Int32) : Option (Int32) :=
  f_X4_stayOf_L0 a0 a1 a2 fuel0 0 0
set_option maxRecDepth 100000 in
set_option maxHeartbeats 4000000 in
theorem run_X4_stayOf {l : Launch} {D : va_G} {cT : Nat → ClassId} (a0 : Int32) (a1 : Int32) (a2 : Int32)    {r : Int32} (hf : f_X4_stayOf a0 a1 a2 = some r) : Runs l D cT yX4_stayOf cX4_stayOf 5 (some .int) 2 49 [.int a0, .int a1, .int a2] [] (EQ (some (.int r)) []) := by
  refine runs_of O_X4 okO_X4 (by decide +kernel) rfl rfl (Nat.le_of_ble_eq_true rfl) (Nat.le_of_ble_eq_true rfl) (fun g K => ?_)
  have M := K.b
  show g 0 0 [] 0 [some (.int a0), some (.int a1), some (.int a2), none, none] []
  have loop_0 : ∀ (v0 : Int32) (v1 : Int32) (v2 : Int32) (n_ : Nat), (∀ (v3 : Int32) (v4 : Int32), f_X4_stayOf_L0 v0 v1 v2 n_ v3 v4 = some r → g 0 0 [] 5 [some (.int v0), some (.int v1), some (.int v2), some (.int v3), some (.int v4)] []) := by
    intro v0 v1 v2 n_
    induction n_ with
    | zero => intro v3 v4 hf; cases hf
    | succ n_ ih =>
      intro v3 v4 hf
      rw [f_X4_stayOf_L0] at hf
      refine m_run M (is := [(5, .iload 4, 0), (7, .iload_n 0, 0)]) (pc' := 8) (L' := [some (.int v0), some (.int v1), some (.int v2), some (.int v3), some (.int v4)]) (st' := [.int v0, .int v4]) (w' := []) (by decide +kernel) rfl trivial ?_
      rcases ite_s hf with ⟨c_101, hf⟩ | ⟨c_101, hf⟩
      · refine m_jT M (i := .if_icmp .ge 30) 38 (by decide +kernel) rfl (by decide) c_101 ?_
        refine m_run M (is := [(38, .iload_n 3, 0)]) (pc' := 39) (L' := [some (.int v0), some (.int v1), some (.int v2), some (.int v3), some (.int v4)]) (st' := [.int v3]) (w' := []) (by decide +kernel) rfl trivial ?_
        obtain rfl := Option.some.inj hf
        exact m_iret K (by decide +kernel) (Nat.zero_le _) (Nat.zero_le _) ⟨rfl, rfl⟩
      · refine m_jF M (i := .if_icmp .ge 30) 38 (by decide +kernel) rfl (by decide) c_101 ?_
        refine m_run M (is := [(11, .iload_n 3, 0), (12, .iload_n 0, 0), (13, .iload_n 1, 0), (14, .iload 4, 0), (16, .iload_n 2, 0)]) (pc' := 17) (L' := [some (.int v0), some (.int v1), some (.int v2), some (.int v3), some (.int v4)]) (st' := [.int v2, .int v4, .int v1, .int v0, .int v3]) (w' := []) (by decide +kernel) rfl trivial ?_
        obtain ⟨r102, h_102, hf⟩ := bnd_s hf
        refine m_cS0 M (rest := [.int v3]) (w2 := []) (st2 := [.int r102, .int v3]) (run_X4_liesAt v0 v1 v4 v2    h_102) cs_X4_liesAt lk_X4_302 (by decide +kernel) [] (by decide) ⟨Nat.le_of_ble_eq_true rfl, Nat.le_of_ble_eq_true rfl⟩ rfl rfl (Nat.le_of_ble_eq_true rfl) ⟨by decide, by decide⟩ rfl rfl ⟨Nat.zero_le _, Nat.zero_le _⟩ rfl rfl ?_
        refine m_run M (is := [(20, .iload 4, 0)]) (pc' := 22) (L' := [some (.int v0), some (.int v1), some (.int v2), some (.int v3), some (.int v4)]) (st' := [.int v4, .int r102, .int v3]) (w' := []) (by decide +kernel) rfl trivial ?_
        rcases ite_s hf with ⟨c_103, hf⟩ | ⟨c_103, hf⟩
        · refine m_jF M (i := .if_icmp .ne 7) 29 (by decide +kernel) rfl (by decide) (fun n => n c_103) ?_
          refine m_run M (is := [(25, .iconst 1, 1), (26, .goto 4, 0), (30, .iadd, 0), (31, .istore_n 3, 0), (32, .iinc 4 1, 1), (35, .goto (-30), 0)]) (pc' := 5) (L' := [some (.int v0), some (.int v1), some (.int v2), some (.int (v3 + 1)), some (.int (v4 + 1))]) (st' := []) (w' := []) (by decide +kernel) rfl trivial ?_
          exact ih (v3 + 1) (v4 + 1) hf
        · refine m_jT M (i := .if_icmp .ne 7) 29 (by decide +kernel) rfl (by decide) c_103 ?_
          refine m_run M (is := [(29, .iconst 0, 0), (30, .iadd, 0), (31, .istore_n 3, 0), (32, .iinc 4 1, 1), (35, .goto (-30), 0)]) (pc' := 5) (L' := [some (.int v0), some (.int v1), some (.int v2), some (.int (v3 + 0)), some (.int (v4 + 1))]) (st' := []) (w' := []) (by decide +kernel) rfl trivial ?_
          exact ih (v3 + 0) (v4 + 1) hf
  rw [f_X4_stayOf] at hf
  refine m_run M (is := [(0, .iconst 0, 0), (1, .istore_n 3, 0), (2, .iconst 0, 0), (3, .istore 4, 0)]) (pc' := 5) (L' := [some (.int a0), some (.int a1), some (.int a2), some (.int 0), some (.int 0)]) (st' := []) (w' := []) (by decide +kernel) rfl trivial ?_
  exact loop_0 a0 a1 a2 fuel0 0 0 hf

def f_X4_copied_L0 (N : Nat) (fa : AI) : Nat → Int32 → AI → Option (AI)
  | 0, _, _ => none
  | n_ + 1, v2, fb =>
    if (Int32.ofNat N) ≤ v2 then
      some fb
    else
      if inB v2 N then
      if inB v2 N then
      f_X4_copied_L0 N fa n_ (v2 + 1) (upd fb v2.toNatClampNeg (fa v2.toNatClampNeg))
      else none
      else none
def f_X4_copied (N : Nat) (fa : AI) (fb : AI) : Option (AI) :=
  f_X4_copied_L0 N fa fuel0 0 fb
set_option maxRecDepth 100000 in
set_option maxHeartbeats 4000000 in
theorem run_X4_copied {l : Launch} {D : va_G} {cT : Nat → ClassId}  (N : Nat)  (fa : AI) (fb : AI) {r : AI} (hf : f_X4_copied N fa fb = some r) : Runs l D cT yX4_copied cX4_copied 3 none 0 0 [.ref 0, .ref 1] ([.inr (.inl (0, N, .inl fa))] ++ [.inr (.inl (0, N, .inl fb))]) (EQ none ([.inr (.inl (0, N, .inl fa))] ++ [.inr (.inl (0, N, .inl r))])) := by
  refine runs_of O_X4 okO_X4 (by decide +kernel) rfl rfl (Nat.le_of_ble_eq_true rfl) (Nat.le_of_ble_eq_true rfl) (fun g K => ?_)
  have M := K.b
  show g 0 0 ([.inr (.inl (0, N, .inl fa))] ++ [.inr (.inl (0, N, .inl fb))]) 0 [some (.ref 0), some (.ref 1), none] []
  have loop_0 : ∀ (n_ : Nat), (∀ (v2 : Int32) (fb : AI), f_X4_copied_L0 N fa n_ v2 fb = some r → g 0 0 ([.inr (.inl (0, N, .inl fa))] ++ [.inr (.inl (0, N, .inl fb))]) 2 [some (.ref 0), some (.ref 1), some (.int v2)] []) := by
    intro n_
    induction n_ with
    | zero => intro v2 fb hf; cases hf
    | succ n_ ih =>
      intro v2 fb hf
      rw [f_X4_copied_L0] at hf
      refine m_run M (is := [(2, .iload_n 2, 0), (3, .aload_n 0, 0), (4, .arraylength, 0)]) (pc' := 5) (L' := [some (.ref 0), some (.ref 1), some (.int v2)]) (st' := [.int (Int32.ofNat N), .int v2]) (w' := ([.inr (.inl (0, N, .inl fa))] ++ [.inr (.inl (0, N, .inl fb))])) (by decide +kernel) rfl trivial ?_
      rcases ite_s hf with ⟨c_101, hf⟩ | ⟨c_101, hf⟩
      · refine m_jT M (i := .if_icmp .ge 15) 20 (by decide +kernel) rfl (by decide) c_101 ?_
        obtain rfl := Option.some.inj hf
        exact m_vret K (by decide +kernel) (Nat.zero_le _) (Nat.zero_le _) ⟨rfl, rfl⟩
      · refine m_jF M (i := .if_icmp .ge 15) 20 (by decide +kernel) rfl (by decide) c_101 ?_
        obtain ⟨h_102, hf⟩ := grd_s hf
        obtain ⟨h_103, hf⟩ := grd_s hf
        refine m_run M (is := [(8, .aload_n 1, 0), (9, .iload_n 2, 0), (10, .aload_n 0, 0), (11, .iload_n 2, 0), (12, .iaload, 0), (13, .iastore, 0), (14, .iinc 2 1, 1), (17, .goto (-15), 0)]) (pc' := 2) (L' := [some (.ref 0), some (.ref 1), some (.int (v2 + 1))]) (st' := []) (w' := ([.inr (.inl (0, N, .inl fa))] ++ [.inr (.inl (0, N, .inl (upd fb v2.toNatClampNeg (fa v2.toNatClampNeg))))])) (by decide +kernel) rfl ⟨inB_use h_102, inB_use h_103, trivial⟩ ?_
        exact ih (v2 + 1) (upd fb v2.toNatClampNeg (fa v2.toNatClampNeg)) hf
  rw [f_X4_copied] at hf
  refine m_run M (is := [(0, .iconst 0, 0), (1, .istore_n 2, 0)]) (pc' := 2) (L' := [some (.ref 0), some (.ref 1), some (.int 0)]) (st' := []) (w' := ([.inr (.inl (0, N, .inl fa))] ++ [.inr (.inl (0, N, .inl fb))])) (by decide +kernel) rfl trivial ?_
  exact loop_0 fuel0 0 fb hf

def f_X4_refuse (a0 : Int32) (mf : AI) : Option (Int32 × AI) :=
  if inB (-a0) 8 then
  if inB (-a0) 8 then
  some (a0, (upd mf (-a0).toNatClampNeg ((mf (-a0).toNatClampNeg) + 1)))
  else none
  else none
set_option maxRecDepth 100000 in
set_option maxHeartbeats 4000000 in
theorem run_X4_refuse {l : Launch} {D : va_G} {cT : Nat → ClassId} (a0 : Int32)   (sp : ShT) (tk : TkT) (sv : SvT) (mf : AI) (mo : AI) (mn : AI) (ma : AI) (kv : Value) (tv : Value) {r : Int32 × AI} (hf : f_X4_refuse a0 mf = some r) : Runs l D cT yX4_refuse cX4_refuse 2 (some .int) 0 0 [.ref 0, .int a0] (cM 0 sp tk sv mf mo mn ma kv tv) (EQ (some (.int r.1)) (cM 0 sp tk sv r.2 mo mn ma kv tv)) := by
  refine runs_of O_X4 okO_X4 (by decide +kernel) rfl rfl (Nat.le_of_ble_eq_true rfl) (Nat.le_of_ble_eq_true rfl) (fun g K => ?_)
  have M := K.b
  show g 0 0 (cM 0 sp tk sv mf mo mn ma kv tv) 0 [some (.ref 0), some (.int a0)] []
  rw [f_X4_refuse] at hf
  obtain ⟨h_1001, hf⟩ := grd_s hf
  obtain ⟨h_1002, hf⟩ := grd_s hf
  refine m_run M (is := [(0, .aload_n 0, 0), (1, .getfield 34, 0), (4, .iload_n 1, 0), (5, .ineg, 0), (6, .dup2, 0), (7, .iaload, 0), (8, .iconst 1, 1), (9, .iadd, 0), (10, .iastore, 0), (11, .iload_n 1, 0)]) (pc' := 12) (L' := [some (.ref 0), some (.int a0)]) (st' := [.int a0]) (w' := (cM 0 sp tk sv (upd mf (-a0).toNatClampNeg ((mf (-a0).toNatClampNeg) + 1)) mo mn ma kv tv)) (by decide +kernel) rfl ⟨inB_use h_1001, inB_use h_1002, trivial⟩ ?_
  obtain rfl := Option.some.inj hf
  exact m_iret K (by decide +kernel) (Nat.zero_le _) (Nat.zero_le _) ⟨rfl, rfl⟩

def f_X4_isPerson (a0 : Int64) (sp : ShT) : Option (Int32) :=
  (f_X4_in a0 0 (((sp.2.2.2.2.2.1 - 1)).toInt64)).bind fun r1001 =>
  if z01 r1001 then
  some r1001
  else none
set_option maxRecDepth 100000 in
set_option maxHeartbeats 4000000 in
theorem run_X4_isPerson {l : Launch} {D : va_G} {cT : Nat → ClassId} (a0 : Int64)   (sp : ShT) (tk : TkT) (sv : SvT) (mf : AI) (mo : AI) (mn : AI) (ma : AI) (kv : Value) (tv : Value) {r : Int32} (hf : f_X4_isPerson a0 sp = some r) : Runs l D cT yX4_isPerson cX4_isPerson 3 (some .boolean) 1 25 [.ref 0, .long a0] (cM 0 sp tk sv mf mo mn ma kv tv) (EQ (some (.int r)) (cM 0 sp tk sv mf mo mn ma kv tv)) := by
  refine runs_of O_X4 okO_X4 (by decide +kernel) rfl rfl (Nat.le_of_ble_eq_true rfl) (Nat.le_of_ble_eq_true rfl) (fun g K => ?_)
  have M := K.b
  show g 0 0 (cM 0 sp tk sv mf mo mn ma kv tv) 0 [some (.ref 0), some (.long a0), none] []
  rw [f_X4_isPerson] at hf
  refine m_run M (is := [(0, .lload_n 1, 0), (1, .lconst 0, 0), (2, .aload_n 0, 0), (3, .getfield 69, 0), (6, .iconst 1, 1), (7, .isub, 0), (8, .i2l, 0)]) (pc' := 9) (L' := [some (.ref 0), some (.long a0), none]) (st' := [.long (((sp.2.2.2.2.2.1 - 1)).toInt64), .long 0, .long a0]) (w' := (cM 0 sp tk sv mf mo mn ma kv tv)) (by decide +kernel) rfl trivial ?_
  obtain ⟨r1001, h_1001, hf⟩ := bnd_s hf
  refine m_cS0 M (rest := []) (w2 := (cM 0 sp tk sv mf mo mn ma kv tv)) (st2 := [.int r1001]) (run_X4_in a0 0 (((sp.2.2.2.2.2.1 - 1)).toInt64)    h_1001) cs_X4_in lk_X4_72 (by decide +kernel) [] (by decide) ⟨Nat.le_of_ble_eq_true rfl, Nat.le_of_ble_eq_true rfl⟩ rfl rfl (Nat.le_of_ble_eq_true rfl) ⟨by decide, by decide⟩ rfl rfl ⟨Nat.zero_le _, Nat.zero_le _⟩ rfl rfl ?_
  obtain ⟨h_1002, hf⟩ := grd_s hf
  obtain rfl := Option.some.inj hf
  exact m_zret K (by decide +kernel) (z01_use h_1002) (Nat.zero_le _) (Nat.zero_le _) ⟨rfl, rfl⟩

def f_X4_isLaw (a0 : Int32) (sp : ShT) : Option (Int32) :=
  (f_X4_in ((a0).toInt64) 0 (((sp.2.2.2.2.2.2.1 - 1)).toInt64)).bind fun r1001 =>
  if z01 r1001 then
  some r1001
  else none
set_option maxRecDepth 100000 in
set_option maxHeartbeats 4000000 in
theorem run_X4_isLaw {l : Launch} {D : va_G} {cT : Nat → ClassId} (a0 : Int32)   (sp : ShT) (tk : TkT) (sv : SvT) (mf : AI) (mo : AI) (mn : AI) (ma : AI) (kv : Value) (tv : Value) {r : Int32} (hf : f_X4_isLaw a0 sp = some r) : Runs l D cT yX4_isLaw cX4_isLaw 2 (some .boolean) 1 25 [.ref 0, .int a0] (cM 0 sp tk sv mf mo mn ma kv tv) (EQ (some (.int r)) (cM 0 sp tk sv mf mo mn ma kv tv)) := by
  refine runs_of O_X4 okO_X4 (by decide +kernel) rfl rfl (Nat.le_of_ble_eq_true rfl) (Nat.le_of_ble_eq_true rfl) (fun g K => ?_)
  have M := K.b
  show g 0 0 (cM 0 sp tk sv mf mo mn ma kv tv) 0 [some (.ref 0), some (.int a0)] []
  rw [f_X4_isLaw] at hf
  refine m_run M (is := [(0, .iload_n 1, 0), (1, .i2l, 0), (2, .lconst 0, 0), (3, .aload_n 0, 0), (4, .getfield 76, 0), (7, .iconst 1, 1), (8, .isub, 0), (9, .i2l, 0)]) (pc' := 10) (L' := [some (.ref 0), some (.int a0)]) (st' := [.long (((sp.2.2.2.2.2.2.1 - 1)).toInt64), .long 0, .long ((a0).toInt64)]) (w' := (cM 0 sp tk sv mf mo mn ma kv tv)) (by decide +kernel) rfl trivial ?_
  obtain ⟨r1001, h_1001, hf⟩ := bnd_s hf
  refine m_cS0 M (rest := []) (w2 := (cM 0 sp tk sv mf mo mn ma kv tv)) (st2 := [.int r1001]) (run_X4_in ((a0).toInt64) 0 (((sp.2.2.2.2.2.2.1 - 1)).toInt64)    h_1001) cs_X4_in lk_X4_72 (by decide +kernel) [] (by decide) ⟨Nat.le_of_ble_eq_true rfl, Nat.le_of_ble_eq_true rfl⟩ rfl rfl (Nat.le_of_ble_eq_true rfl) ⟨by decide, by decide⟩ rfl rfl ⟨Nat.zero_le _, Nat.zero_le _⟩ rfl rfl ?_
  obtain ⟨h_1002, hf⟩ := grd_s hf
  obtain rfl := Option.some.inj hf
  exact m_zret K (by decide +kernel) (z01_use h_1002) (Nat.zero_le _) (Nat.zero_le _) ⟨rfl, rfl⟩

def f_X4_goesOn (sp : ShT) : Option (Int32) :=
  if sp.2.2.2.2.2.1 ≤ 0 then
    some 0
  else
    if sp.2.2.2.2.2.2.1 ≤ 0 then
      some 0
    else
      some 1
set_option maxRecDepth 100000 in
set_option maxHeartbeats 4000000 in
theorem run_X4_goesOn {l : Launch} {D : va_G} {cT : Nat → ClassId}    (sp : ShT) (tk : TkT) (sv : SvT) (mf : AI) (mo : AI) (mn : AI) (ma : AI) (kv : Value) (tv : Value) {r : Int32} (hf : f_X4_goesOn sp = some r) : Runs l D cT yX4_goesOn cX4_goesOn 1 (some .boolean) 0 0 [.ref 0] (cM 0 sp tk sv mf mo mn ma kv tv) (EQ (some (.int r)) (cM 0 sp tk sv mf mo mn ma kv tv)) := by
  refine runs_of O_X4 okO_X4 (by decide +kernel) rfl rfl (Nat.le_of_ble_eq_true rfl) (Nat.le_of_ble_eq_true rfl) (fun g K => ?_)
  have M := K.b
  show g 0 0 (cM 0 sp tk sv mf mo mn ma kv tv) 0 [some (.ref 0)] []
  rw [f_X4_goesOn] at hf
  refine m_run M (is := [(0, .aload_n 0, 0), (1, .getfield 69, 0)]) (pc' := 4) (L' := [some (.ref 0)]) (st' := [.int sp.2.2.2.2.2.1]) (w' := (cM 0 sp tk sv mf mo mn ma kv tv)) (by decide +kernel) rfl trivial ?_
  rcases ite_s hf with ⟨c_1001, hf⟩ | ⟨c_1001, hf⟩
  · refine m_jT M (i := .ifCond .le 14) 18 (by decide +kernel) rfl (by decide) c_1001 ?_
    refine m_run M (is := [(18, .iconst 0, 0)]) (pc' := 19) (L' := [some (.ref 0)]) (st' := [.int 0]) (w' := (cM 0 sp tk sv mf mo mn ma kv tv)) (by decide +kernel) rfl trivial ?_
    obtain rfl := Option.some.inj hf
    exact m_zret K (by decide +kernel) (Or.inl rfl) (Nat.zero_le _) (Nat.zero_le _) ⟨rfl, rfl⟩
  · refine m_jF M (i := .ifCond .le 14) 18 (by decide +kernel) rfl (by decide) c_1001 ?_
    refine m_run M (is := [(7, .aload_n 0, 0), (8, .getfield 76, 0)]) (pc' := 11) (L' := [some (.ref 0)]) (st' := [.int sp.2.2.2.2.2.2.1]) (w' := (cM 0 sp tk sv mf mo mn ma kv tv)) (by decide +kernel) rfl trivial ?_
    rcases ite_s hf with ⟨c_1002, hf⟩ | ⟨c_1002, hf⟩
    · refine m_jT M (i := .ifCond .le 7) 18 (by decide +kernel) rfl (by decide) c_1002 ?_
      refine m_run M (is := [(18, .iconst 0, 0)]) (pc' := 19) (L' := [some (.ref 0)]) (st' := [.int 0]) (w' := (cM 0 sp tk sv mf mo mn ma kv tv)) (by decide +kernel) rfl trivial ?_
      obtain rfl := Option.some.inj hf
      exact m_zret K (by decide +kernel) (Or.inl rfl) (Nat.zero_le _) (Nat.zero_le _) ⟨rfl, rfl⟩
    · refine m_jF M (i := .ifCond .le 7) 18 (by decide +kernel) rfl (by decide) c_1002 ?_
      refine m_run M (is := [(14, .iconst 1, 1), (15, .goto 4, 0)]) (pc' := 19) (L' := [some (.ref 0)]) (st' := [.int 1]) (w' := (cM 0 sp tk sv mf mo mn ma kv tv)) (by decide +kernel) rfl trivial ?_
      obtain rfl := Option.some.inj hf
      exact m_zret K (by decide +kernel) (Or.inr rfl) (Nat.zero_le _) (Nat.zero_le _) ⟨rfl, rfl⟩

def f_X4_row_L0 (v1 : Int32) : Nat → Int32 → SvT → AI → Option (Int32 × SvT × AI)
  | 0, _, _, _ => none
  | n_ + 1, v4, sv, mf =>
    if 40 ≤ v4 then
      some (1, sv, mf)
    else
      if inB v1 8 then
      if inB v4 40 then
      f_X4_row_L0 v1 n_ (v4 + 1) (sv.1, sv.2.1, sv.2.2.1, sv.2.2.2.1, sv.2.2.2.2.1, (va_up sv.2.2.2.2.2 v1.toNatClampNeg (vp_updL (sv.2.2.2.2.2 v1.toNatClampNeg) v4.toNatClampNeg 0))) mf
      else none
      else none
def f_X4_row (a0 : Int32) (a1 : Int32) (a2 : Int32) (sv : SvT) (mf : AI) : Option (Int32 × SvT × AI) :=
  (f_X4_in ((a0).toInt64) 0 7).bind fun r1001 =>
  if r1001 = 0 then
    (f_X4_refuse (-2) mf).bind fun r1003 =>
    some (r1003.1, sv, r1003.2)
  else
    (f_X4_in ((a1).toInt64) 0 4).bind fun r1004 =>
    if r1004 = 0 then
      (f_X4_refuse (-2) mf).bind fun r1006 =>
      some (r1006.1, sv, r1006.2)
    else
      (f_X4_in ((a2).toInt64) 0 40).bind fun r1007 =>
      if r1007 = 0 then
        (f_X4_refuse (-2) mf).bind fun r1009 =>
        some (r1009.1, sv, r1009.2)
      else
        if inB a0 8 then
        if inB a0 8 then
        if inB a0 8 then
        f_X4_row_L0 a0 fuel0 0 ((upd sv.1 a0.toNatClampNeg 1), (upd sv.2.1 a0.toNatClampNeg a1), (upd sv.2.2.1 a0.toNatClampNeg a2), sv.2.2.2.1, sv.2.2.2.2.1, sv.2.2.2.2.2) mf
        else none
        else none
        else none
set_option maxRecDepth 100000 in
set_option maxHeartbeats 4000000 in
theorem run_X4_row {l : Launch} {D : va_G} {cT : Nat → ClassId} (a0 : Int32) (a1 : Int32) (a2 : Int32)   (sp : ShT) (tk : TkT) (sv : SvT) (mf : AI) (mo : AI) (mn : AI) (ma : AI) (kv : Value) (tv : Value) {r : Int32 × SvT × AI} (hf : f_X4_row a0 a1 a2 sv mf = some r) : Runs l D cT yX4_row cX4_row 5 (some .int) 1 25 [.ref 0, .int a0, .int a1, .int a2] (cM 0 sp tk sv mf mo mn ma kv tv) (EQ (some (.int r.1)) (cM 0 sp tk r.2.1 r.2.2 mo mn ma kv tv)) := by
  refine runs_of O_X4 okO_X4 (by decide +kernel) rfl rfl (Nat.le_of_ble_eq_true rfl) (Nat.le_of_ble_eq_true rfl) (fun g K => ?_)
  have M := K.b
  show g 0 0 (cM 0 sp tk sv mf mo mn ma kv tv) 0 [some (.ref 0), some (.int a0), some (.int a1), some (.int a2), none] []
  have loop_0 : ∀ (v1 : Int32) (n_ : Nat), (∀ (v4 : Int32) (sv : SvT) (mf : AI), f_X4_row_L0 v1 n_ v4 sv mf = some r → g 0 0 (cM 0 sp tk sv mf mo mn ma kv tv) 67 [some (.ref 0), some (.int v1), none, none, some (.int v4)] []) := by
    intro v1 n_
    induction n_ with
    | zero => intro v4 sv mf hf; cases hf
    | succ n_ ih =>
      intro v4 sv mf hf
      rw [f_X4_row_L0] at hf
      refine m_run M (is := [(67, .iload 4, 0), (69, .bipush 40, 40)]) (pc' := 71) (L' := [some (.ref 0), some (.int v1), none, none, some (.int v4)]) (st' := [.int 40, .int v4]) (w' := (cM 0 sp tk sv mf mo mn ma kv tv)) (by decide +kernel) rfl trivial ?_
      rcases ite_s hf with ⟨c_101, hf⟩ | ⟨c_101, hf⟩
      · refine m_jT M (i := .if_icmp .ge 19) 90 (by decide +kernel) rfl (by decide) c_101 ?_
        refine m_run M (is := [(90, .iconst 1, 1)]) (pc' := 91) (L' := [some (.ref 0), some (.int v1), none, none, some (.int v4)]) (st' := [.int 1]) (w' := (cM 0 sp tk sv mf mo mn ma kv tv)) (by decide +kernel) rfl trivial ?_
        obtain rfl := Option.some.inj hf
        exact m_iret K (by decide +kernel) (Nat.zero_le _) (Nat.zero_le _) ⟨rfl, rfl⟩
      · refine m_jF M (i := .if_icmp .ge 19) 90 (by decide +kernel) rfl (by decide) c_101 ?_
        obtain ⟨h_102, hf⟩ := grd_s hf
        refine m_run M (is := [(74, .aload_n 0, 0), (75, .getfield 21, 0), (78, .iload_n 1, 0)]) (pc' := 79) (L' := [some (.ref 0), some (.int v1), none, none, some (.int v4)]) (st' := [.int v1, .ref 4]) (w' := (cM 0 sp tk sv mf mo mn ma kv tv)) (by decide +kernel) rfl trivial ?_
        refine m_run M (is := [(79, .aaload, 0)]) (pc' := 80) (L' := [some (.ref 0), some (.int v1), none, none, some (.int v4)]) (st' := [.ref (18 + v1.toNatClampNeg)]) (w' := (cM 0 sp tk sv mf mo mn ma kv tv)) (by decide +kernel) (s_aald rfl rfl (fM_18 (inB_lt h_102))) ⟨inB_use h_102, trivial⟩ ?_
        obtain ⟨h_103, hf⟩ := grd_s hf
        refine m_run M (is := [(80, .iload 4, 0), (82, .lconst 0, 0)]) (pc' := 83) (L' := [some (.ref 0), some (.int v1), none, none, some (.int v4)]) (st' := [.long 0, .int v4, .ref (18 + v1.toNatClampNeg)]) (w' := (cM 0 sp tk sv mf mo mn ma kv tv)) (by decide +kernel) rfl trivial ?_
        refine m_run M (is := [(83, .lastore, 0)]) (pc' := 84) (L' := [some (.ref 0), some (.int v1), none, none, some (.int v4)]) (st' := []) (w' := (cM 0 sp tk (sv.1, sv.2.1, sv.2.2.1, sv.2.2.2.1, sv.2.2.2.2.1, (va_up sv.2.2.2.2.2 v1.toNatClampNeg (vp_updL (sv.2.2.2.2.2 v1.toNatClampNeg) v4.toNatClampNeg 0))) mf mo mn ma kv tv)) (by decide +kernel) (s_last (wM_ro (inB_lt h_102) sp tk sv mf mo mn ma kv tv) (wM_st (inB_lt h_102) sp tk sv mf mo mn ma kv tv _)) ⟨inB_use h_103, trivial⟩ ?_
        refine m_run M (is := [(84, .iinc 4 1, 1), (87, .goto (-20), 0)]) (pc' := 67) (L' := [some (.ref 0), some (.int v1), none, none, some (.int (v4 + 1))]) (st' := []) (w' := (cM 0 sp tk (sv.1, sv.2.1, sv.2.2.1, sv.2.2.2.1, sv.2.2.2.2.1, (va_up sv.2.2.2.2.2 v1.toNatClampNeg (vp_updL (sv.2.2.2.2.2 v1.toNatClampNeg) v4.toNatClampNeg 0))) mf mo mn ma kv tv)) (by decide +kernel) rfl trivial ?_
        exact ih (v4 + 1) (sv.1, sv.2.1, sv.2.2.1, sv.2.2.2.1, sv.2.2.2.2.1, (va_up sv.2.2.2.2.2 v1.toNatClampNeg (vp_updL (sv.2.2.2.2.2 v1.toNatClampNeg) v4.toNatClampNeg 0))) mf hf
  rw [f_X4_row] at hf
  refine m_run M (is := [(0, .iload_n 1, 0), (1, .i2l, 0), (2, .lconst 0, 0), (3, .ldc2_w 79, 0)]) (pc' := 6) (L' := [some (.ref 0), some (.int a0), some (.int a1), some (.int a2), none]) (st' := [.long 7, .long 0, .long ((a0).toInt64)]) (w' := (cM 0 sp tk sv mf mo mn ma kv tv)) (by decide +kernel) rfl trivial ?_
  obtain ⟨r1001, h_1001, hf⟩ := bnd_s hf
  refine m_cS0 M (rest := []) (w2 := (cM 0 sp tk sv mf mo mn ma kv tv)) (st2 := [.int r1001]) (run_X4_in ((a0).toInt64) 0 7    h_1001) cs_X4_in lk_X4_72 (by decide +kernel) [] (by decide) ⟨Nat.le_of_ble_eq_true rfl, Nat.le_of_ble_eq_true rfl⟩ rfl rfl (Nat.le_of_ble_eq_true rfl) ⟨by decide, by decide⟩ rfl rfl ⟨Nat.zero_le _, Nat.zero_le _⟩ rfl rfl ?_
  rcases ite_s hf with ⟨c_1002, hf⟩ | ⟨c_1002, hf⟩
  · refine m_jT M (i := .ifCond .eq 27) 36 (by decide +kernel) rfl (by decide) c_1002 ?_
    refine m_run M (is := [(36, .aload_n 0, 0), (37, .bipush (-2), -2)]) (pc' := 39) (L' := [some (.ref 0), some (.int a0), some (.int a1), some (.int a2), none]) (st' := [.int (-2), .ref 0]) (w' := (cM 0 sp tk sv mf mo mn ma kv tv)) (by decide +kernel) rfl trivial ?_
    obtain ⟨r1003, h_1003, hf⟩ := bnd_s hf
    refine m_cV0 M (rest := []) (w2 := (cM 0 sp tk sv r1003.2 mo mn ma kv tv)) (st2 := [.int r1003.1]) (run_X4_refuse (-2)   sp tk sv mf mo mn ma kv tv h_1003) cv_X4_refuse lk_X4_85 (by decide +kernel) (List.range 26) List.nodup_range ⟨(by rw [List.length_range]; exact Nat.le_refl _), Nat.le_of_ble_eq_true rfl⟩ (hwId rfl) rfl rfl (Nat.le_of_ble_eq_true rfl) ⟨by decide, by decide⟩ rfl rfl ⟨Nat.zero_le _, Nat.zero_le _⟩ (hpId rfl rfl) rfl ?_
    obtain rfl := Option.some.inj hf
    exact m_iret K (by decide +kernel) (Nat.zero_le _) (Nat.zero_le _) ⟨rfl, rfl⟩
  · refine m_jF M (i := .ifCond .eq 27) 36 (by decide +kernel) rfl (by decide) c_1002 ?_
    refine m_run M (is := [(12, .iload_n 2, 0), (13, .i2l, 0), (14, .lconst 0, 0), (15, .ldc2_w 81, 0)]) (pc' := 18) (L' := [some (.ref 0), some (.int a0), some (.int a1), some (.int a2), none]) (st' := [.long 4, .long 0, .long ((a1).toInt64)]) (w' := (cM 0 sp tk sv mf mo mn ma kv tv)) (by decide +kernel) rfl trivial ?_
    obtain ⟨r1004, h_1004, hf⟩ := bnd_s hf
    refine m_cS0 M (rest := []) (w2 := (cM 0 sp tk sv mf mo mn ma kv tv)) (st2 := [.int r1004]) (run_X4_in ((a1).toInt64) 0 4    h_1004) cs_X4_in lk_X4_72 (by decide +kernel) [] (by decide) ⟨Nat.le_of_ble_eq_true rfl, Nat.le_of_ble_eq_true rfl⟩ rfl rfl (Nat.le_of_ble_eq_true rfl) ⟨by decide, by decide⟩ rfl rfl ⟨Nat.zero_le _, Nat.zero_le _⟩ rfl rfl ?_
    rcases ite_s hf with ⟨c_1005, hf⟩ | ⟨c_1005, hf⟩
    · refine m_jT M (i := .ifCond .eq 15) 36 (by decide +kernel) rfl (by decide) c_1005 ?_
      refine m_run M (is := [(36, .aload_n 0, 0), (37, .bipush (-2), -2)]) (pc' := 39) (L' := [some (.ref 0), some (.int a0), some (.int a1), some (.int a2), none]) (st' := [.int (-2), .ref 0]) (w' := (cM 0 sp tk sv mf mo mn ma kv tv)) (by decide +kernel) rfl trivial ?_
      obtain ⟨r1006, h_1006, hf⟩ := bnd_s hf
      refine m_cV0 M (rest := []) (w2 := (cM 0 sp tk sv r1006.2 mo mn ma kv tv)) (st2 := [.int r1006.1]) (run_X4_refuse (-2)   sp tk sv mf mo mn ma kv tv h_1006) cv_X4_refuse lk_X4_85 (by decide +kernel) (List.range 26) List.nodup_range ⟨(by rw [List.length_range]; exact Nat.le_refl _), Nat.le_of_ble_eq_true rfl⟩ (hwId rfl) rfl rfl (Nat.le_of_ble_eq_true rfl) ⟨by decide, by decide⟩ rfl rfl ⟨Nat.zero_le _, Nat.zero_le _⟩ (hpId rfl rfl) rfl ?_
      obtain rfl := Option.some.inj hf
      exact m_iret K (by decide +kernel) (Nat.zero_le _) (Nat.zero_le _) ⟨rfl, rfl⟩
    · refine m_jF M (i := .ifCond .eq 15) 36 (by decide +kernel) rfl (by decide) c_1005 ?_
      refine m_run M (is := [(24, .iload_n 3, 0), (25, .i2l, 0), (26, .lconst 0, 0), (27, .ldc2_w 83, 0)]) (pc' := 30) (L' := [some (.ref 0), some (.int a0), some (.int a1), some (.int a2), none]) (st' := [.long 40, .long 0, .long ((a2).toInt64)]) (w' := (cM 0 sp tk sv mf mo mn ma kv tv)) (by decide +kernel) rfl trivial ?_
      obtain ⟨r1007, h_1007, hf⟩ := bnd_s hf
      refine m_cS0 M (rest := []) (w2 := (cM 0 sp tk sv mf mo mn ma kv tv)) (st2 := [.int r1007]) (run_X4_in ((a2).toInt64) 0 40    h_1007) cs_X4_in lk_X4_72 (by decide +kernel) [] (by decide) ⟨Nat.le_of_ble_eq_true rfl, Nat.le_of_ble_eq_true rfl⟩ rfl rfl (Nat.le_of_ble_eq_true rfl) ⟨by decide, by decide⟩ rfl rfl ⟨Nat.zero_le _, Nat.zero_le _⟩ rfl rfl ?_
      rcases ite_s hf with ⟨c_1008, hf⟩ | ⟨c_1008, hf⟩
      · refine m_jF M (i := .ifCond .ne 10) 43 (by decide +kernel) rfl (by decide) (fun n => n c_1008) ?_
        refine m_run M (is := [(36, .aload_n 0, 0), (37, .bipush (-2), -2)]) (pc' := 39) (L' := [some (.ref 0), some (.int a0), some (.int a1), some (.int a2), none]) (st' := [.int (-2), .ref 0]) (w' := (cM 0 sp tk sv mf mo mn ma kv tv)) (by decide +kernel) rfl trivial ?_
        obtain ⟨r1009, h_1009, hf⟩ := bnd_s hf
        refine m_cV0 M (rest := []) (w2 := (cM 0 sp tk sv r1009.2 mo mn ma kv tv)) (st2 := [.int r1009.1]) (run_X4_refuse (-2)   sp tk sv mf mo mn ma kv tv h_1009) cv_X4_refuse lk_X4_85 (by decide +kernel) (List.range 26) List.nodup_range ⟨(by rw [List.length_range]; exact Nat.le_refl _), Nat.le_of_ble_eq_true rfl⟩ (hwId rfl) rfl rfl (Nat.le_of_ble_eq_true rfl) ⟨by decide, by decide⟩ rfl rfl ⟨Nat.zero_le _, Nat.zero_le _⟩ (hpId rfl rfl) rfl ?_
        obtain rfl := Option.some.inj hf
        exact m_iret K (by decide +kernel) (Nat.zero_le _) (Nat.zero_le _) ⟨rfl, rfl⟩
      · refine m_jT M (i := .ifCond .ne 10) 43 (by decide +kernel) rfl (by decide) c_1008 ?_
        obtain ⟨h_1010, hf⟩ := grd_s hf
        obtain ⟨h_1011, hf⟩ := grd_s hf
        obtain ⟨h_1012, hf⟩ := grd_s hf
        refine m_run M (is := [(43, .aload_n 0, 0), (44, .getfield 7, 0), (47, .iload_n 1, 0), (48, .iconst 1, 1), (49, .iastore, 0), (50, .aload_n 0, 0), (51, .getfield 13, 0), (54, .iload_n 1, 0), (55, .iload_n 2, 0), (56, .iastore, 0), (57, .aload_n 0, 0), (58, .getfield 16, 0), (61, .iload_n 1, 0), (62, .iload_n 3, 0), (63, .iastore, 0), (64, .iconst 0, 0), (65, .istore 4, 0)]) (pc' := 67) (L' := [some (.ref 0), some (.int a0), some (.int a1), some (.int a2), some (.int 0)]) (st' := []) (w' := (cM 0 sp tk ((upd sv.1 a0.toNatClampNeg 1), (upd sv.2.1 a0.toNatClampNeg a1), (upd sv.2.2.1 a0.toNatClampNeg a2), sv.2.2.2.1, sv.2.2.2.2.1, sv.2.2.2.2.2) mf mo mn ma kv tv)) (by decide +kernel) rfl ⟨inB_use h_1010, inB_use h_1011, inB_use h_1012, trivial⟩ ?_
        refine m_wk M [some (.ref 0), some (.int a0), none, none, some (.int 0)] ⟨Or.inr rfl, Or.inr rfl, Or.inl rfl, Or.inl rfl, Or.inr rfl, trivial⟩ ?_
        exact loop_0 a0 fuel0 0 ((upd sv.1 a0.toNatClampNeg 1), (upd sv.2.1 a0.toNatClampNeg a1), (upd sv.2.2.1 a0.toNatClampNeg a2), sv.2.2.2.1, sv.2.2.2.2.1, sv.2.2.2.2.2) mf hf

def f_X4_noRow (a0 : Int32) (sv : SvT) (mf : AI) : Option (Int32 × AI) :=
  (f_X4_in ((a0).toInt64) 0 7).bind fun r1001 =>
  if r1001 = 0 then
    (f_X4_refuse (-2) mf).bind fun r1003 =>
    some (r1003.1, r1003.2)
  else
    if inB a0 8 then
    if (sv.1 a0.toNatClampNeg) = 2 then
      (f_X4_refuse (-3) mf).bind fun r1006 =>
      some (r1006.1, r1006.2)
    else
      if inB a0 8 then
      if (sv.1 a0.toNatClampNeg) = 0 then
        (f_X4_refuse (-4) mf).bind fun r1009 =>
        some (r1009.1, r1009.2)
      else
        some (0, mf)
      else none
    else none
set_option maxRecDepth 100000 in
set_option maxHeartbeats 4000000 in
theorem run_X4_noRow {l : Launch} {D : va_G} {cT : Nat → ClassId} (a0 : Int32)   (sp : ShT) (tk : TkT) (sv : SvT) (mf : AI) (mo : AI) (mn : AI) (ma : AI) (kv : Value) (tv : Value) {r : Int32 × AI} (hf : f_X4_noRow a0 sv mf = some r) : Runs l D cT yX4_noRow cX4_noRow 2 (some .int) 1 25 [.ref 0, .int a0] (cM 0 sp tk sv mf mo mn ma kv tv) (EQ (some (.int r.1)) (cM 0 sp tk sv r.2 mo mn ma kv tv)) := by
  refine runs_of O_X4 okO_X4 (by decide +kernel) rfl rfl (Nat.le_of_ble_eq_true rfl) (Nat.le_of_ble_eq_true rfl) (fun g K => ?_)
  have M := K.b
  show g 0 0 (cM 0 sp tk sv mf mo mn ma kv tv) 0 [some (.ref 0), some (.int a0)] []
  rw [f_X4_noRow] at hf
  refine m_run M (is := [(0, .iload_n 1, 0), (1, .i2l, 0), (2, .lconst 0, 0), (3, .ldc2_w 79, 0)]) (pc' := 6) (L' := [some (.ref 0), some (.int a0)]) (st' := [.long 7, .long 0, .long ((a0).toInt64)]) (w' := (cM 0 sp tk sv mf mo mn ma kv tv)) (by decide +kernel) rfl trivial ?_
  obtain ⟨r1001, h_1001, hf⟩ := bnd_s hf
  refine m_cS0 M (rest := []) (w2 := (cM 0 sp tk sv mf mo mn ma kv tv)) (st2 := [.int r1001]) (run_X4_in ((a0).toInt64) 0 7    h_1001) cs_X4_in lk_X4_72 (by decide +kernel) [] (by decide) ⟨Nat.le_of_ble_eq_true rfl, Nat.le_of_ble_eq_true rfl⟩ rfl rfl (Nat.le_of_ble_eq_true rfl) ⟨by decide, by decide⟩ rfl rfl ⟨Nat.zero_le _, Nat.zero_le _⟩ rfl rfl ?_
  rcases ite_s hf with ⟨c_1002, hf⟩ | ⟨c_1002, hf⟩
  · refine m_jF M (i := .ifCond .ne 10) 19 (by decide +kernel) rfl (by decide) (fun n => n c_1002) ?_
    refine m_run M (is := [(12, .aload_n 0, 0), (13, .bipush (-2), -2)]) (pc' := 15) (L' := [some (.ref 0), some (.int a0)]) (st' := [.int (-2), .ref 0]) (w' := (cM 0 sp tk sv mf mo mn ma kv tv)) (by decide +kernel) rfl trivial ?_
    obtain ⟨r1003, h_1003, hf⟩ := bnd_s hf
    refine m_cV0 M (rest := []) (w2 := (cM 0 sp tk sv r1003.2 mo mn ma kv tv)) (st2 := [.int r1003.1]) (run_X4_refuse (-2)   sp tk sv mf mo mn ma kv tv h_1003) cv_X4_refuse lk_X4_85 (by decide +kernel) (List.range 26) List.nodup_range ⟨(by rw [List.length_range]; exact Nat.le_refl _), Nat.le_of_ble_eq_true rfl⟩ (hwId rfl) rfl rfl (Nat.le_of_ble_eq_true rfl) ⟨by decide, by decide⟩ rfl rfl ⟨Nat.zero_le _, Nat.zero_le _⟩ (hpId rfl rfl) rfl ?_
    obtain rfl := Option.some.inj hf
    exact m_iret K (by decide +kernel) (Nat.zero_le _) (Nat.zero_le _) ⟨rfl, rfl⟩
  · refine m_jT M (i := .ifCond .ne 10) 19 (by decide +kernel) rfl (by decide) c_1002 ?_
    obtain ⟨h_1004, hf⟩ := grd_s hf
    refine m_run M (is := [(19, .aload_n 0, 0), (20, .getfield 7, 0), (23, .iload_n 1, 0), (24, .iaload, 0), (25, .iconst 2, 2)]) (pc' := 26) (L' := [some (.ref 0), some (.int a0)]) (st' := [.int 2, .int (sv.1 a0.toNatClampNeg)]) (w' := (cM 0 sp tk sv mf mo mn ma kv tv)) (by decide +kernel) rfl ⟨inB_use h_1004, trivial⟩ ?_
    rcases ite_s hf with ⟨c_1005, hf⟩ | ⟨c_1005, hf⟩
    · refine m_jF M (i := .if_icmp .ne 10) 36 (by decide +kernel) rfl (by decide) (fun n => n c_1005) ?_
      refine m_run M (is := [(29, .aload_n 0, 0), (30, .bipush (-3), -3)]) (pc' := 32) (L' := [some (.ref 0), some (.int a0)]) (st' := [.int (-3), .ref 0]) (w' := (cM 0 sp tk sv mf mo mn ma kv tv)) (by decide +kernel) rfl trivial ?_
      obtain ⟨r1006, h_1006, hf⟩ := bnd_s hf
      refine m_cV0 M (rest := []) (w2 := (cM 0 sp tk sv r1006.2 mo mn ma kv tv)) (st2 := [.int r1006.1]) (run_X4_refuse (-3)   sp tk sv mf mo mn ma kv tv h_1006) cv_X4_refuse lk_X4_85 (by decide +kernel) (List.range 26) List.nodup_range ⟨(by rw [List.length_range]; exact Nat.le_refl _), Nat.le_of_ble_eq_true rfl⟩ (hwId rfl) rfl rfl (Nat.le_of_ble_eq_true rfl) ⟨by decide, by decide⟩ rfl rfl ⟨Nat.zero_le _, Nat.zero_le _⟩ (hpId rfl rfl) rfl ?_
      obtain rfl := Option.some.inj hf
      exact m_iret K (by decide +kernel) (Nat.zero_le _) (Nat.zero_le _) ⟨rfl, rfl⟩
    · refine m_jT M (i := .if_icmp .ne 10) 36 (by decide +kernel) rfl (by decide) c_1005 ?_
      obtain ⟨h_1007, hf⟩ := grd_s hf
      refine m_run M (is := [(36, .aload_n 0, 0), (37, .getfield 7, 0), (40, .iload_n 1, 0), (41, .iaload, 0)]) (pc' := 42) (L' := [some (.ref 0), some (.int a0)]) (st' := [.int (sv.1 a0.toNatClampNeg)]) (w' := (cM 0 sp tk sv mf mo mn ma kv tv)) (by decide +kernel) rfl ⟨inB_use h_1007, trivial⟩ ?_
      rcases ite_s hf with ⟨c_1008, hf⟩ | ⟨c_1008, hf⟩
      · refine m_jF M (i := .ifCond .ne 12) 54 (by decide +kernel) rfl (by decide) (fun n => n c_1008) ?_
        refine m_run M (is := [(45, .aload_n 0, 0), (46, .bipush (-4), -4)]) (pc' := 48) (L' := [some (.ref 0), some (.int a0)]) (st' := [.int (-4), .ref 0]) (w' := (cM 0 sp tk sv mf mo mn ma kv tv)) (by decide +kernel) rfl trivial ?_
        obtain ⟨r1009, h_1009, hf⟩ := bnd_s hf
        refine m_cV0 M (rest := []) (w2 := (cM 0 sp tk sv r1009.2 mo mn ma kv tv)) (st2 := [.int r1009.1]) (run_X4_refuse (-4)   sp tk sv mf mo mn ma kv tv h_1009) cv_X4_refuse lk_X4_85 (by decide +kernel) (List.range 26) List.nodup_range ⟨(by rw [List.length_range]; exact Nat.le_refl _), Nat.le_of_ble_eq_true rfl⟩ (hwId rfl) rfl rfl (Nat.le_of_ble_eq_true rfl) ⟨by decide, by decide⟩ rfl rfl ⟨Nat.zero_le _, Nat.zero_le _⟩ (hpId rfl rfl) rfl ?_
        refine m_run M (is := [(51, .goto 4, 0)]) (pc' := 55) (L' := [some (.ref 0), some (.int a0)]) (st' := [.int r1009.1]) (w' := (cM 0 sp tk sv r1009.2 mo mn ma kv tv)) (by decide +kernel) rfl trivial ?_
        obtain rfl := Option.some.inj hf
        exact m_iret K (by decide +kernel) (Nat.zero_le _) (Nat.zero_le _) ⟨rfl, rfl⟩
      · refine m_jT M (i := .ifCond .ne 12) 54 (by decide +kernel) rfl (by decide) c_1008 ?_
        refine m_run M (is := [(54, .iconst 0, 0)]) (pc' := 55) (L' := [some (.ref 0), some (.int a0)]) (st' := [.int 0]) (w' := (cM 0 sp tk sv mf mo mn ma kv tv)) (by decide +kernel) rfl trivial ?_
        obtain rfl := Option.some.inj hf
        exact m_iret K (by decide +kernel) (Nat.zero_le _) (Nat.zero_le _) ⟨rfl, rfl⟩

def f_X4_set (a0 : Int32) (a1 : Int32) (a2 : Int64) (sv : SvT) (mf : AI) : Option (Int32 × SvT × AI) :=
  (f_X4_noRow a0 sv mf).bind fun r1001 =>
  if r1001.1 = 0 then
    if inB a0 8 then
    (f_X4_in ((a1).toInt64) 0 ((((sv.2.2.1 a0.toNatClampNeg) - 1)).toInt64)).bind fun r1004 =>
    if r1004 = 0 then
      (f_X4_refuse (-2) r1001.2).bind fun r1006 =>
      some (r1006.1, sv, r1006.2)
    else
      if inB a0 8 then
      if inB a0 8 then
      (f_X4_fit (sv.2.1 a0.toNatClampNeg) a2).bind fun r1009 =>
      if inB a1 40 then
      some (1, (sv.1, sv.2.1, sv.2.2.1, sv.2.2.2.1, sv.2.2.2.2.1, (va_up sv.2.2.2.2.2 a0.toNatClampNeg (vp_updL (sv.2.2.2.2.2 a0.toNatClampNeg) a1.toNatClampNeg r1009))), r1001.2)
      else none
      else none
      else none
    else none
  else
    some (r1001.1, sv, r1001.2)
set_option maxRecDepth 100000 in
set_option maxHeartbeats 4000000 in
theorem run_X4_set {l : Launch} {D : va_G} {cT : Nat → ClassId} (a0 : Int32) (a1 : Int32) (a2 : Int64)   (sp : ShT) (tk : TkT) (sv : SvT) (mf : AI) (mo : AI) (mn : AI) (ma : AI) (kv : Value) (tv : Value) {r : Int32 × SvT × AI} (hf : f_X4_set a0 a1 a2 sv mf = some r) : Runs l D cT yX4_set cX4_set 6 (some .int) 2 46 [.ref 0, .int a0, .int a1, .long a2] (cM 0 sp tk sv mf mo mn ma kv tv) (EQ (some (.int r.1)) (cM 0 sp tk r.2.1 r.2.2 mo mn ma kv tv)) := by
  refine runs_of O_X4 okO_X4 (by decide +kernel) rfl rfl (Nat.le_of_ble_eq_true rfl) (Nat.le_of_ble_eq_true rfl) (fun g K => ?_)
  have M := K.b
  show g 0 0 (cM 0 sp tk sv mf mo mn ma kv tv) 0 [some (.ref 0), some (.int a0), some (.int a1), some (.long a2), none, none] []
  rw [f_X4_set] at hf
  refine m_run M (is := [(0, .aload_n 0, 0), (1, .iload_n 1, 0)]) (pc' := 2) (L' := [some (.ref 0), some (.int a0), some (.int a1), some (.long a2), none, none]) (st' := [.int a0, .ref 0]) (w' := (cM 0 sp tk sv mf mo mn ma kv tv)) (by decide +kernel) rfl trivial ?_
  obtain ⟨r1001, h_1001, hf⟩ := bnd_s hf
  refine m_cV0 M (rest := []) (w2 := (cM 0 sp tk sv r1001.2 mo mn ma kv tv)) (st2 := [.int r1001.1]) (run_X4_noRow a0   sp tk sv mf mo mn ma kv tv h_1001) cv_X4_noRow lk_X4_89 (by decide +kernel) (List.range 26) List.nodup_range ⟨(by rw [List.length_range]; exact Nat.le_refl _), Nat.le_of_ble_eq_true rfl⟩ (hwId rfl) rfl rfl (Nat.le_of_ble_eq_true rfl) ⟨by decide, by decide⟩ rfl rfl ⟨Nat.zero_le _, Nat.zero_le _⟩ (hpId rfl rfl) rfl ?_
  refine m_run M (is := [(5, .istore 5, 0), (7, .iload 5, 0)]) (pc' := 9) (L' := [some (.ref 0), some (.int a0), some (.int a1), some (.long a2), none, some (.int r1001.1)]) (st' := [.int r1001.1]) (w' := (cM 0 sp tk sv r1001.2 mo mn ma kv tv)) (by decide +kernel) rfl trivial ?_
  rcases ite_s hf with ⟨c_1002, hf⟩ | ⟨c_1002, hf⟩
  · refine m_jT M (i := .ifCond .eq 6) 15 (by decide +kernel) rfl (by decide) c_1002 ?_
    obtain ⟨h_1003, hf⟩ := grd_s hf
    refine m_run M (is := [(15, .iload_n 2, 0), (16, .i2l, 0), (17, .lconst 0, 0), (18, .aload_n 0, 0), (19, .getfield 16, 0), (22, .iload_n 1, 0), (23, .iaload, 0), (24, .iconst 1, 1), (25, .isub, 0), (26, .i2l, 0)]) (pc' := 27) (L' := [some (.ref 0), some (.int a0), some (.int a1), some (.long a2), none, some (.int r1001.1)]) (st' := [.long ((((sv.2.2.1 a0.toNatClampNeg) - 1)).toInt64), .long 0, .long ((a1).toInt64)]) (w' := (cM 0 sp tk sv r1001.2 mo mn ma kv tv)) (by decide +kernel) rfl ⟨inB_use h_1003, trivial⟩ ?_
    obtain ⟨r1004, h_1004, hf⟩ := bnd_s hf
    refine m_cS0 M (rest := []) (w2 := (cM 0 sp tk sv r1001.2 mo mn ma kv tv)) (st2 := [.int r1004]) (run_X4_in ((a1).toInt64) 0 ((((sv.2.2.1 a0.toNatClampNeg) - 1)).toInt64)    h_1004) cs_X4_in lk_X4_72 (by decide +kernel) [] (by decide) ⟨Nat.le_of_ble_eq_true rfl, Nat.le_of_ble_eq_true rfl⟩ rfl rfl (Nat.le_of_ble_eq_true rfl) ⟨by decide, by decide⟩ rfl rfl ⟨Nat.zero_le _, Nat.zero_le _⟩ rfl rfl ?_
    rcases ite_s hf with ⟨c_1005, hf⟩ | ⟨c_1005, hf⟩
    · refine m_jF M (i := .ifCond .ne 10) 40 (by decide +kernel) rfl (by decide) (fun n => n c_1005) ?_
      refine m_run M (is := [(33, .aload_n 0, 0), (34, .bipush (-2), -2)]) (pc' := 36) (L' := [some (.ref 0), some (.int a0), some (.int a1), some (.long a2), none, some (.int r1001.1)]) (st' := [.int (-2), .ref 0]) (w' := (cM 0 sp tk sv r1001.2 mo mn ma kv tv)) (by decide +kernel) rfl trivial ?_
      obtain ⟨r1006, h_1006, hf⟩ := bnd_s hf
      refine m_cV0 M (rest := []) (w2 := (cM 0 sp tk sv r1006.2 mo mn ma kv tv)) (st2 := [.int r1006.1]) (run_X4_refuse (-2)   sp tk sv r1001.2 mo mn ma kv tv h_1006) cv_X4_refuse lk_X4_85 (by decide +kernel) (List.range 26) List.nodup_range ⟨(by rw [List.length_range]; exact Nat.le_refl _), Nat.le_of_ble_eq_true rfl⟩ (hwId rfl) rfl rfl (Nat.le_of_ble_eq_true rfl) ⟨by decide, by decide⟩ rfl rfl ⟨Nat.zero_le _, Nat.zero_le _⟩ (hpId rfl rfl) rfl ?_
      obtain rfl := Option.some.inj hf
      exact m_iret K (by decide +kernel) (Nat.zero_le _) (Nat.zero_le _) ⟨rfl, rfl⟩
    · refine m_jT M (i := .ifCond .ne 10) 40 (by decide +kernel) rfl (by decide) c_1005 ?_
      obtain ⟨h_1007, hf⟩ := grd_s hf
      refine m_run M (is := [(40, .aload_n 0, 0), (41, .getfield 21, 0), (44, .iload_n 1, 0)]) (pc' := 45) (L' := [some (.ref 0), some (.int a0), some (.int a1), some (.long a2), none, some (.int r1001.1)]) (st' := [.int a0, .ref 4]) (w' := (cM 0 sp tk sv r1001.2 mo mn ma kv tv)) (by decide +kernel) rfl trivial ?_
      refine m_run M (is := [(45, .aaload, 0)]) (pc' := 46) (L' := [some (.ref 0), some (.int a0), some (.int a1), some (.long a2), none, some (.int r1001.1)]) (st' := [.ref (18 + a0.toNatClampNeg)]) (w' := (cM 0 sp tk sv r1001.2 mo mn ma kv tv)) (by decide +kernel) (s_aald rfl rfl (fM_18 (inB_lt h_1007))) ⟨inB_use h_1007, trivial⟩ ?_
      obtain ⟨h_1008, hf⟩ := grd_s hf
      refine m_run M (is := [(46, .iload_n 2, 0), (47, .aload_n 0, 0), (48, .getfield 13, 0), (51, .iload_n 1, 0), (52, .iaload, 0), (53, .lload_n 3, 0)]) (pc' := 54) (L' := [some (.ref 0), some (.int a0), some (.int a1), some (.long a2), none, some (.int r1001.1)]) (st' := [.long a2, .int (sv.2.1 a0.toNatClampNeg), .int a1, .ref (18 + a0.toNatClampNeg)]) (w' := (cM 0 sp tk sv r1001.2 mo mn ma kv tv)) (by decide +kernel) rfl ⟨inB_use h_1008, trivial⟩ ?_
      obtain ⟨r1009, h_1009, hf⟩ := bnd_s hf
      refine m_cS0 M (rest := [.int a1, .ref (18 + a0.toNatClampNeg)]) (w2 := (cM 0 sp tk sv r1001.2 mo mn ma kv tv)) (st2 := [.long r1009, .int a1, .ref (18 + a0.toNatClampNeg)]) (run_X4_fit (sv.2.1 a0.toNatClampNeg) a2    h_1009) cs_X4_fit lk_X4_92 (by decide +kernel) [] (by decide) ⟨Nat.le_of_ble_eq_true rfl, Nat.le_of_ble_eq_true rfl⟩ rfl rfl (Nat.le_of_ble_eq_true rfl) ⟨by decide, by decide⟩ rfl rfl ⟨Nat.zero_le _, Nat.zero_le _⟩ rfl rfl ?_
      obtain ⟨h_1010, hf⟩ := grd_s hf
      refine m_run M (is := [(57, .lastore, 0)]) (pc' := 58) (L' := [some (.ref 0), some (.int a0), some (.int a1), some (.long a2), none, some (.int r1001.1)]) (st' := []) (w' := (cM 0 sp tk (sv.1, sv.2.1, sv.2.2.1, sv.2.2.2.1, sv.2.2.2.2.1, (va_up sv.2.2.2.2.2 a0.toNatClampNeg (vp_updL (sv.2.2.2.2.2 a0.toNatClampNeg) a1.toNatClampNeg r1009))) r1001.2 mo mn ma kv tv)) (by decide +kernel) (s_last (wM_ro (inB_lt h_1007) sp tk sv r1001.2 mo mn ma kv tv) (wM_st (inB_lt h_1007) sp tk sv r1001.2 mo mn ma kv tv _)) ⟨inB_use h_1010, trivial⟩ ?_
      refine m_run M (is := [(58, .iconst 1, 1)]) (pc' := 59) (L' := [some (.ref 0), some (.int a0), some (.int a1), some (.long a2), none, some (.int r1001.1)]) (st' := [.int 1]) (w' := (cM 0 sp tk (sv.1, sv.2.1, sv.2.2.1, sv.2.2.2.1, sv.2.2.2.2.1, (va_up sv.2.2.2.2.2 a0.toNatClampNeg (vp_updL (sv.2.2.2.2.2 a0.toNatClampNeg) a1.toNatClampNeg r1009))) r1001.2 mo mn ma kv tv)) (by decide +kernel) rfl trivial ?_
      obtain rfl := Option.some.inj hf
      exact m_iret K (by decide +kernel) (Nat.zero_le _) (Nat.zero_le _) ⟨rfl, rfl⟩
  · refine m_jF M (i := .ifCond .eq 6) 15 (by decide +kernel) rfl (by decide) c_1002 ?_
    refine m_run M (is := [(12, .iload 5, 0)]) (pc' := 14) (L' := [some (.ref 0), some (.int a0), some (.int a1), some (.long a2), none, some (.int r1001.1)]) (st' := [.int r1001.1]) (w' := (cM 0 sp tk sv r1001.2 mo mn ma kv tv)) (by decide +kernel) rfl trivial ?_
    obtain rfl := Option.some.inj hf
    exact m_iret K (by decide +kernel) (Nat.zero_le _) (Nat.zero_le _) ⟨rfl, rfl⟩

def f_X4_copy_L1 (v2 : Int32) (v4 : Int32) (v5 : Int32) : Nat → Int32 → SvT → AI → Option (Int32 × SvT × AI)
  | 0, _, _, _ => none
  | n_ + 1, v6, sv, mf =>
    if v5 ≤ v6 then
      some (v5, sv, mf)
    else
      if inB v2 8 then
      if inB v6 40 then
      if inB (v4 + v6) 40 then
      f_X4_copy_L1 v2 v4 v5 n_ (v6 + 1) (sv.1, sv.2.1, sv.2.2.1, sv.2.2.2.1, sv.2.2.2.2.1, (va_up sv.2.2.2.2.2 v2.toNatClampNeg (vp_updL (sv.2.2.2.2.2 v2.toNatClampNeg) (v4 + v6).toNatClampNeg (sv.2.2.2.2.1 v6.toNatClampNeg)))) mf
      else none
      else none
      else none
def f_X4_copy_L0 (v1 : Int32) (v2 : Int32) (v3 : Int32) (v4 : Int32) (v5 : Int32) : Nat → Int32 → SvT → AI → Option (Int32 × SvT × AI)
  | 0, _, _, _ => none
  | n_ + 1, v6, sv, mf =>
    if v5 ≤ v6 then
      f_X4_copy_L1 v2 v4 v5 fuel0 0 sv mf
    else
      if inB v1 8 then
      if inB (v3 + v6) 40 then
      if inB v6 40 then
      f_X4_copy_L0 v1 v2 v3 v4 v5 n_ (v6 + 1) (sv.1, sv.2.1, sv.2.2.1, sv.2.2.2.1, (vp_updL sv.2.2.2.2.1 v6.toNatClampNeg ((sv.2.2.2.2.2 v1.toNatClampNeg) (v3 + v6).toNatClampNeg)), sv.2.2.2.2.2) mf
      else none
      else none
      else none
def f_X4_copy (a0 : Int32) (a1 : Int32) (a2 : Int32) (a3 : Int32) (a4 : Int32) (sv : SvT) (mf : AI) : Option (Int32 × SvT × AI) :=
  (f_X4_in ((a0).toInt64) 0 7).bind fun r1001 =>
  if r1001 = 0 then
    (f_X4_refuse (-2) mf).bind fun r1003 =>
    some (r1003.1, sv, r1003.2)
  else
    (f_X4_in ((a1).toInt64) 0 7).bind fun r1004 =>
    if r1004 = 0 then
      (f_X4_refuse (-2) mf).bind fun r1006 =>
      some (r1006.1, sv, r1006.2)
    else
      if inB a0 8 then
      if (sv.1 a0.toNatClampNeg) = 2 then
        (f_X4_refuse (-3) mf).bind fun r1009 =>
        some (r1009.1, sv, r1009.2)
      else
        if inB a1 8 then
        if (sv.1 a1.toNatClampNeg) = 2 then
          (f_X4_refuse (-3) mf).bind fun r1012 =>
          some (r1012.1, sv, r1012.2)
        else
          if inB a0 8 then
          if (sv.1 a0.toNatClampNeg) = 1 then
            if inB a1 8 then
            if (sv.1 a1.toNatClampNeg) = 1 then
              if inB a0 8 then
              if inB a1 8 then
              if (sv.2.1 a0.toNatClampNeg) = (sv.2.1 a1.toNatClampNeg) then
                if inB a0 8 then
                if (sv.1 a0.toNatClampNeg) = 0 then
                  (f_X4_refuse (-4) mf).bind fun r1022 =>
                  some (r1022.1, sv, r1022.2)
                else
                  if inB a1 8 then
                  if (sv.1 a1.toNatClampNeg) = 0 then
                    (f_X4_refuse (-4) mf).bind fun r1025 =>
                    some (r1025.1, sv, r1025.2)
                  else
                    if a4 < 0 then
                      (f_X4_refuse (-2) mf).bind fun r1027 =>
                      some (r1027.1, sv, r1027.2)
                    else
                      if a2 < 0 then
                        (f_X4_refuse (-2) mf).bind fun r1029 =>
                        some (r1029.1, sv, r1029.2)
                      else
                        if a3 < 0 then
                          (f_X4_refuse (-2) mf).bind fun r1031 =>
                          some (r1031.1, sv, r1031.2)
                        else
                          if inB a0 8 then
                          if (sv.2.2.1 a0.toNatClampNeg) < a4 then
                            (f_X4_refuse (-2) mf).bind fun r1034 =>
                            some (r1034.1, sv, r1034.2)
                          else
                            if inB a1 8 then
                            if (sv.2.2.1 a1.toNatClampNeg) < a4 then
                              (f_X4_refuse (-2) mf).bind fun r1037 =>
                              some (r1037.1, sv, r1037.2)
                            else
                              if inB a0 8 then
                              if ((sv.2.2.1 a0.toNatClampNeg) - a4) < a2 then
                                (f_X4_refuse (-2) mf).bind fun r1040 =>
                                some (r1040.1, sv, r1040.2)
                              else
                                if inB a1 8 then
                                if a3 ≤ ((sv.2.2.1 a1.toNatClampNeg) - a4) then
                                  f_X4_copy_L0 a0 a1 a2 a3 a4 fuel0 0 sv mf
                                else
                                  (f_X4_refuse (-2) mf).bind fun r1043 =>
                                  some (r1043.1, sv, r1043.2)
                                else none
                              else none
                            else none
                          else none
                  else none
                else none
              else
                (f_X4_refuse (-3) mf).bind fun r1044 =>
                some (r1044.1, sv, r1044.2)
              else none
              else none
            else
              if inB a0 8 then
              if (sv.1 a0.toNatClampNeg) = 0 then
                (f_X4_refuse (-4) mf).bind fun r1047 =>
                some (r1047.1, sv, r1047.2)
              else
                if inB a1 8 then
                if (sv.1 a1.toNatClampNeg) = 0 then
                  (f_X4_refuse (-4) mf).bind fun r1050 =>
                  some (r1050.1, sv, r1050.2)
                else
                  if a4 < 0 then
                    (f_X4_refuse (-2) mf).bind fun r1052 =>
                    some (r1052.1, sv, r1052.2)
                  else
                    if a2 < 0 then
                      (f_X4_refuse (-2) mf).bind fun r1054 =>
                      some (r1054.1, sv, r1054.2)
                    else
                      if a3 < 0 then
                        (f_X4_refuse (-2) mf).bind fun r1056 =>
                        some (r1056.1, sv, r1056.2)
                      else
                        if inB a0 8 then
                        if (sv.2.2.1 a0.toNatClampNeg) < a4 then
                          (f_X4_refuse (-2) mf).bind fun r1059 =>
                          some (r1059.1, sv, r1059.2)
                        else
                          if inB a1 8 then
                          if (sv.2.2.1 a1.toNatClampNeg) < a4 then
                            (f_X4_refuse (-2) mf).bind fun r1062 =>
                            some (r1062.1, sv, r1062.2)
                          else
                            if inB a0 8 then
                            if ((sv.2.2.1 a0.toNatClampNeg) - a4) < a2 then
                              (f_X4_refuse (-2) mf).bind fun r1065 =>
                              some (r1065.1, sv, r1065.2)
                            else
                              if inB a1 8 then
                              if a3 ≤ ((sv.2.2.1 a1.toNatClampNeg) - a4) then
                                f_X4_copy_L0 a0 a1 a2 a3 a4 fuel0 0 sv mf
                              else
                                (f_X4_refuse (-2) mf).bind fun r1068 =>
                                some (r1068.1, sv, r1068.2)
                              else none
                            else none
                          else none
                        else none
                else none
              else none
            else none
          else
            if inB a0 8 then
            if (sv.1 a0.toNatClampNeg) = 0 then
              (f_X4_refuse (-4) mf).bind fun r1071 =>
              some (r1071.1, sv, r1071.2)
            else
              if inB a1 8 then
              if (sv.1 a1.toNatClampNeg) = 0 then
                (f_X4_refuse (-4) mf).bind fun r1074 =>
                some (r1074.1, sv, r1074.2)
              else
                if a4 < 0 then
                  (f_X4_refuse (-2) mf).bind fun r1076 =>
                  some (r1076.1, sv, r1076.2)
                else
                  if a2 < 0 then
                    (f_X4_refuse (-2) mf).bind fun r1078 =>
                    some (r1078.1, sv, r1078.2)
                  else
                    if a3 < 0 then
                      (f_X4_refuse (-2) mf).bind fun r1080 =>
                      some (r1080.1, sv, r1080.2)
                    else
                      if inB a0 8 then
                      if (sv.2.2.1 a0.toNatClampNeg) < a4 then
                        (f_X4_refuse (-2) mf).bind fun r1083 =>
                        some (r1083.1, sv, r1083.2)
                      else
                        if inB a1 8 then
                        if (sv.2.2.1 a1.toNatClampNeg) < a4 then
                          (f_X4_refuse (-2) mf).bind fun r1086 =>
                          some (r1086.1, sv, r1086.2)
                        else
                          if inB a0 8 then
                          if ((sv.2.2.1 a0.toNatClampNeg) - a4) < a2 then
                            (f_X4_refuse (-2) mf).bind fun r1089 =>
                            some (r1089.1, sv, r1089.2)
                          else
                            if inB a1 8 then
                            if a3 ≤ ((sv.2.2.1 a1.toNatClampNeg) - a4) then
                              f_X4_copy_L0 a0 a1 a2 a3 a4 fuel0 0 sv mf
                            else
                              (f_X4_refuse (-2) mf).bind fun r1092 =>
                              some (r1092.1, sv, r1092.2)
                            else none
                          else none
                        else none
                      else none
              else none
            else none
          else none
        else none
      else none
set_option maxRecDepth 100000 in
set_option maxHeartbeats 4000000 in
theorem run_X4_copy {l : Launch} {D : va_G} {cT : Nat → ClassId} (a0 : Int32) (a1 : Int32) (a2 : Int32) (a3 : Int32) (a4 : Int32)   (sp : ShT) (tk : TkT) (sv : SvT) (mf : AI) (mo : AI) (mn : AI) (ma : AI) (kv : Value) (tv : Value) {r : Int32 × SvT × AI} (hf : f_X4_copy a0 a1 a2 a3 a4 sv mf = some r) : Runs l D cT yX4_copy cX4_copy 7 (some .int) 1 25 [.ref 0, .int a0, .int a1, .int a2, .int a3, .int a4] (cM 0 sp tk sv mf mo mn ma kv tv) (EQ (some (.int r.1)) (cM 0 sp tk r.2.1 r.2.2 mo mn ma kv tv)) := by
  refine runs_of O_X4 okO_X4 (by decide +kernel) rfl rfl (Nat.le_of_ble_eq_true rfl) (Nat.le_of_ble_eq_true rfl) (fun g K => ?_)
  have M := K.b
  show g 0 0 (cM 0 sp tk sv mf mo mn ma kv tv) 0 [some (.ref 0), some (.int a0), some (.int a1), some (.int a2), some (.int a3), some (.int a4), none] []
  have loop_1 : ∀ (v2 : Int32) (v4 : Int32) (v5 : Int32) (n_ : Nat), (∀ (v6 : Int32) (sv : SvT) (mf : AI), f_X4_copy_L1 v2 v4 v5 n_ v6 sv mf = some r → g 0 0 (cM 0 sp tk sv mf mo mn ma kv tv) 225 [some (.ref 0), none, some (.int v2), none, some (.int v4), some (.int v5), some (.int v6)] []) := by
    intro v2 v4 v5 n_
    induction n_ with
    | zero => intro v6 sv mf hf; cases hf
    | succ n_ ih =>
      intro v6 sv mf hf
      rw [f_X4_copy_L1] at hf
      refine m_run M (is := [(225, .iload 6, 0), (227, .iload 5, 0)]) (pc' := 229) (L' := [some (.ref 0), none, some (.int v2), none, some (.int v4), some (.int v5), some (.int v6)]) (st' := [.int v5, .int v6]) (w' := (cM 0 sp tk sv mf mo mn ma kv tv)) (by decide +kernel) rfl trivial ?_
      rcases ite_s hf with ⟨c_201, hf⟩ | ⟨c_201, hf⟩
      · refine m_jT M (i := .if_icmp .ge 28) 257 (by decide +kernel) rfl (by decide) c_201 ?_
        refine m_run M (is := [(257, .iload 5, 0)]) (pc' := 259) (L' := [some (.ref 0), none, some (.int v2), none, some (.int v4), some (.int v5), some (.int v6)]) (st' := [.int v5]) (w' := (cM 0 sp tk sv mf mo mn ma kv tv)) (by decide +kernel) rfl trivial ?_
        obtain rfl := Option.some.inj hf
        exact m_iret K (by decide +kernel) (Nat.zero_le _) (Nat.zero_le _) ⟨rfl, rfl⟩
      · refine m_jF M (i := .if_icmp .ge 28) 257 (by decide +kernel) rfl (by decide) c_201 ?_
        obtain ⟨h_202, hf⟩ := grd_s hf
        refine m_run M (is := [(232, .aload_n 0, 0), (233, .getfield 21, 0), (236, .iload_n 2, 0)]) (pc' := 237) (L' := [some (.ref 0), none, some (.int v2), none, some (.int v4), some (.int v5), some (.int v6)]) (st' := [.int v2, .ref 4]) (w' := (cM 0 sp tk sv mf mo mn ma kv tv)) (by decide +kernel) rfl trivial ?_
        refine m_run M (is := [(237, .aaload, 0)]) (pc' := 238) (L' := [some (.ref 0), none, some (.int v2), none, some (.int v4), some (.int v5), some (.int v6)]) (st' := [.ref (18 + v2.toNatClampNeg)]) (w' := (cM 0 sp tk sv mf mo mn ma kv tv)) (by decide +kernel) (s_aald rfl rfl (fM_18 (inB_lt h_202))) ⟨inB_use h_202, trivial⟩ ?_
        obtain ⟨h_203, hf⟩ := grd_s hf
        obtain ⟨h_204, hf⟩ := grd_s hf
        refine m_run M (is := [(238, .iload 4, 0), (240, .iload 6, 0), (242, .iadd, 0), (243, .aload_n 0, 0), (244, .getfield 24, 0), (247, .iload 6, 0), (249, .laload, 0)]) (pc' := 250) (L' := [some (.ref 0), none, some (.int v2), none, some (.int v4), some (.int v5), some (.int v6)]) (st' := [.long (sv.2.2.2.2.1 v6.toNatClampNeg), .int (v4 + v6), .ref (18 + v2.toNatClampNeg)]) (w' := (cM 0 sp tk sv mf mo mn ma kv tv)) (by decide +kernel) rfl ⟨inB_use h_203, trivial⟩ ?_
        refine m_run M (is := [(250, .lastore, 0)]) (pc' := 251) (L' := [some (.ref 0), none, some (.int v2), none, some (.int v4), some (.int v5), some (.int v6)]) (st' := []) (w' := (cM 0 sp tk (sv.1, sv.2.1, sv.2.2.1, sv.2.2.2.1, sv.2.2.2.2.1, (va_up sv.2.2.2.2.2 v2.toNatClampNeg (vp_updL (sv.2.2.2.2.2 v2.toNatClampNeg) (v4 + v6).toNatClampNeg (sv.2.2.2.2.1 v6.toNatClampNeg)))) mf mo mn ma kv tv)) (by decide +kernel) (s_last (wM_ro (inB_lt h_202) sp tk sv mf mo mn ma kv tv) (wM_st (inB_lt h_202) sp tk sv mf mo mn ma kv tv _)) ⟨inB_use h_204, trivial⟩ ?_
        refine m_run M (is := [(251, .iinc 6 1, 1), (254, .goto (-29), 0)]) (pc' := 225) (L' := [some (.ref 0), none, some (.int v2), none, some (.int v4), some (.int v5), some (.int (v6 + 1))]) (st' := []) (w' := (cM 0 sp tk (sv.1, sv.2.1, sv.2.2.1, sv.2.2.2.1, sv.2.2.2.2.1, (va_up sv.2.2.2.2.2 v2.toNatClampNeg (vp_updL (sv.2.2.2.2.2 v2.toNatClampNeg) (v4 + v6).toNatClampNeg (sv.2.2.2.2.1 v6.toNatClampNeg)))) mf mo mn ma kv tv)) (by decide +kernel) rfl trivial ?_
        exact ih (v6 + 1) (sv.1, sv.2.1, sv.2.2.1, sv.2.2.2.1, sv.2.2.2.2.1, (va_up sv.2.2.2.2.2 v2.toNatClampNeg (vp_updL (sv.2.2.2.2.2 v2.toNatClampNeg) (v4 + v6).toNatClampNeg (sv.2.2.2.2.1 v6.toNatClampNeg)))) mf hf
  have loop_0 : ∀ (v1 : Int32) (v2 : Int32) (v3 : Int32) (v4 : Int32) (v5 : Int32) (n_ : Nat), (∀ (v6 : Int32) (sv : SvT) (mf : AI), f_X4_copy_L0 v1 v2 v3 v4 v5 n_ v6 sv mf = some r → g 0 0 (cM 0 sp tk sv mf mo mn ma kv tv) 191 [some (.ref 0), some (.int v1), some (.int v2), some (.int v3), some (.int v4), some (.int v5), some (.int v6)] []) := by
    intro v1 v2 v3 v4 v5 n_
    induction n_ with
    | zero => intro v6 sv mf hf; cases hf
    | succ n_ ih =>
      intro v6 sv mf hf
      rw [f_X4_copy_L0] at hf
      refine m_run M (is := [(191, .iload 6, 0), (193, .iload 5, 0)]) (pc' := 195) (L' := [some (.ref 0), some (.int v1), some (.int v2), some (.int v3), some (.int v4), some (.int v5), some (.int v6)]) (st' := [.int v5, .int v6]) (w' := (cM 0 sp tk sv mf mo mn ma kv tv)) (by decide +kernel) rfl trivial ?_
      rcases ite_s hf with ⟨c_101, hf⟩ | ⟨c_101, hf⟩
      · refine m_jT M (i := .if_icmp .ge 27) 222 (by decide +kernel) rfl (by decide) c_101 ?_
        refine m_run M (is := [(222, .iconst 0, 0), (223, .istore 6, 0)]) (pc' := 225) (L' := [some (.ref 0), some (.int v1), some (.int v2), some (.int v3), some (.int v4), some (.int v5), some (.int 0)]) (st' := []) (w' := (cM 0 sp tk sv mf mo mn ma kv tv)) (by decide +kernel) rfl trivial ?_
        refine m_wk M [some (.ref 0), none, some (.int v2), none, some (.int v4), some (.int v5), some (.int 0)] ⟨Or.inr rfl, Or.inl rfl, Or.inr rfl, Or.inl rfl, Or.inr rfl, Or.inr rfl, Or.inr rfl, trivial⟩ ?_
        exact loop_1 v2 v4 v5 fuel0 0 sv mf hf
      · refine m_jF M (i := .if_icmp .ge 27) 222 (by decide +kernel) rfl (by decide) c_101 ?_
        obtain ⟨h_102, hf⟩ := grd_s hf
        refine m_run M (is := [(198, .aload_n 0, 0), (199, .getfield 24, 0), (202, .iload 6, 0), (204, .aload_n 0, 0), (205, .getfield 21, 0), (208, .iload_n 1, 0)]) (pc' := 209) (L' := [some (.ref 0), some (.int v1), some (.int v2), some (.int v3), some (.int v4), some (.int v5), some (.int v6)]) (st' := [.int v1, .ref 4, .int v6, .ref 5]) (w' := (cM 0 sp tk sv mf mo mn ma kv tv)) (by decide +kernel) rfl trivial ?_
        refine m_run M (is := [(209, .aaload, 0)]) (pc' := 210) (L' := [some (.ref 0), some (.int v1), some (.int v2), some (.int v3), some (.int v4), some (.int v5), some (.int v6)]) (st' := [.ref (18 + v1.toNatClampNeg), .int v6, .ref 5]) (w' := (cM 0 sp tk sv mf mo mn ma kv tv)) (by decide +kernel) (s_aald rfl rfl (fM_18 (inB_lt h_102))) ⟨inB_use h_102, trivial⟩ ?_
        obtain ⟨h_103, hf⟩ := grd_s hf
        refine m_run M (is := [(210, .iload_n 3, 0), (211, .iload 6, 0), (213, .iadd, 0)]) (pc' := 214) (L' := [some (.ref 0), some (.int v1), some (.int v2), some (.int v3), some (.int v4), some (.int v5), some (.int v6)]) (st' := [.int (v3 + v6), .ref (18 + v1.toNatClampNeg), .int v6, .ref 5]) (w' := (cM 0 sp tk sv mf mo mn ma kv tv)) (by decide +kernel) rfl trivial ?_
        refine m_run M (is := [(214, .laload, 0)]) (pc' := 215) (L' := [some (.ref 0), some (.int v1), some (.int v2), some (.int v3), some (.int v4), some (.int v5), some (.int v6)]) (st' := [.long ((sv.2.2.2.2.2 v1.toNatClampNeg) (v3 + v6).toNatClampNeg), .int v6, .ref 5]) (w' := (cM 0 sp tk sv mf mo mn ma kv tv)) (by decide +kernel) (s_lald (wM_ro (inB_lt h_102) sp tk sv mf mo mn ma kv tv)) ⟨inB_use h_103, trivial⟩ ?_
        obtain ⟨h_104, hf⟩ := grd_s hf
        refine m_run M (is := [(215, .lastore, 0), (216, .iinc 6 1, 1), (219, .goto (-28), 0)]) (pc' := 191) (L' := [some (.ref 0), some (.int v1), some (.int v2), some (.int v3), some (.int v4), some (.int v5), some (.int (v6 + 1))]) (st' := []) (w' := (cM 0 sp tk (sv.1, sv.2.1, sv.2.2.1, sv.2.2.2.1, (vp_updL sv.2.2.2.2.1 v6.toNatClampNeg ((sv.2.2.2.2.2 v1.toNatClampNeg) (v3 + v6).toNatClampNeg)), sv.2.2.2.2.2) mf mo mn ma kv tv)) (by decide +kernel) rfl ⟨inB_use h_104, trivial⟩ ?_
        exact ih (v6 + 1) (sv.1, sv.2.1, sv.2.2.1, sv.2.2.2.1, (vp_updL sv.2.2.2.2.1 v6.toNatClampNeg ((sv.2.2.2.2.2 v1.toNatClampNeg) (v3 + v6).toNatClampNeg)), sv.2.2.2.2.2) mf hf
  rw [f_X4_copy] at hf
  refine m_run M (is := [(0, .iload_n 1, 0), (1, .i2l, 0), (2, .lconst 0, 0), (3, .ldc2_w 79, 0)]) (pc' := 6) (L' := [some (.ref 0), some (.int a0), some (.int a1), some (.int a2), some (.int a3), some (.int a4), none]) (st' := [.long 7, .long 0, .long ((a0).toInt64)]) (w' := (cM 0 sp tk sv mf mo mn ma kv tv)) (by decide +kernel) rfl trivial ?_
  obtain ⟨r1001, h_1001, hf⟩ := bnd_s hf
  refine m_cS0 M (rest := []) (w2 := (cM 0 sp tk sv mf mo mn ma kv tv)) (st2 := [.int r1001]) (run_X4_in ((a0).toInt64) 0 7    h_1001) cs_X4_in lk_X4_72 (by decide +kernel) [] (by decide) ⟨Nat.le_of_ble_eq_true rfl, Nat.le_of_ble_eq_true rfl⟩ rfl rfl (Nat.le_of_ble_eq_true rfl) ⟨by decide, by decide⟩ rfl rfl ⟨Nat.zero_le _, Nat.zero_le _⟩ rfl rfl ?_
  rcases ite_s hf with ⟨c_1002, hf⟩ | ⟨c_1002, hf⟩
  · refine m_jT M (i := .ifCond .eq 15) 24 (by decide +kernel) rfl (by decide) c_1002 ?_
    refine m_run M (is := [(24, .aload_n 0, 0), (25, .bipush (-2), -2)]) (pc' := 27) (L' := [some (.ref 0), some (.int a0), some (.int a1), some (.int a2), some (.int a3), some (.int a4), none]) (st' := [.int (-2), .ref 0]) (w' := (cM 0 sp tk sv mf mo mn ma kv tv)) (by decide +kernel) rfl trivial ?_
    obtain ⟨r1003, h_1003, hf⟩ := bnd_s hf
    refine m_cV0 M (rest := []) (w2 := (cM 0 sp tk sv r1003.2 mo mn ma kv tv)) (st2 := [.int r1003.1]) (run_X4_refuse (-2)   sp tk sv mf mo mn ma kv tv h_1003) cv_X4_refuse lk_X4_85 (by decide +kernel) (List.range 26) List.nodup_range ⟨(by rw [List.length_range]; exact Nat.le_refl _), Nat.le_of_ble_eq_true rfl⟩ (hwId rfl) rfl rfl (Nat.le_of_ble_eq_true rfl) ⟨by decide, by decide⟩ rfl rfl ⟨Nat.zero_le _, Nat.zero_le _⟩ (hpId rfl rfl) rfl ?_
    obtain rfl := Option.some.inj hf
    exact m_iret K (by decide +kernel) (Nat.zero_le _) (Nat.zero_le _) ⟨rfl, rfl⟩
  · refine m_jF M (i := .ifCond .eq 15) 24 (by decide +kernel) rfl (by decide) c_1002 ?_
    refine m_run M (is := [(12, .iload_n 2, 0), (13, .i2l, 0), (14, .lconst 0, 0), (15, .ldc2_w 79, 0)]) (pc' := 18) (L' := [some (.ref 0), some (.int a0), some (.int a1), some (.int a2), some (.int a3), some (.int a4), none]) (st' := [.long 7, .long 0, .long ((a1).toInt64)]) (w' := (cM 0 sp tk sv mf mo mn ma kv tv)) (by decide +kernel) rfl trivial ?_
    obtain ⟨r1004, h_1004, hf⟩ := bnd_s hf
    refine m_cS0 M (rest := []) (w2 := (cM 0 sp tk sv mf mo mn ma kv tv)) (st2 := [.int r1004]) (run_X4_in ((a1).toInt64) 0 7    h_1004) cs_X4_in lk_X4_72 (by decide +kernel) [] (by decide) ⟨Nat.le_of_ble_eq_true rfl, Nat.le_of_ble_eq_true rfl⟩ rfl rfl (Nat.le_of_ble_eq_true rfl) ⟨by decide, by decide⟩ rfl rfl ⟨Nat.zero_le _, Nat.zero_le _⟩ rfl rfl ?_
    rcases ite_s hf with ⟨c_1005, hf⟩ | ⟨c_1005, hf⟩
    · refine m_jF M (i := .ifCond .ne 10) 31 (by decide +kernel) rfl (by decide) (fun n => n c_1005) ?_
      refine m_run M (is := [(24, .aload_n 0, 0), (25, .bipush (-2), -2)]) (pc' := 27) (L' := [some (.ref 0), some (.int a0), some (.int a1), some (.int a2), some (.int a3), some (.int a4), none]) (st' := [.int (-2), .ref 0]) (w' := (cM 0 sp tk sv mf mo mn ma kv tv)) (by decide +kernel) rfl trivial ?_
      obtain ⟨r1006, h_1006, hf⟩ := bnd_s hf
      refine m_cV0 M (rest := []) (w2 := (cM 0 sp tk sv r1006.2 mo mn ma kv tv)) (st2 := [.int r1006.1]) (run_X4_refuse (-2)   sp tk sv mf mo mn ma kv tv h_1006) cv_X4_refuse lk_X4_85 (by decide +kernel) (List.range 26) List.nodup_range ⟨(by rw [List.length_range]; exact Nat.le_refl _), Nat.le_of_ble_eq_true rfl⟩ (hwId rfl) rfl rfl (Nat.le_of_ble_eq_true rfl) ⟨by decide, by decide⟩ rfl rfl ⟨Nat.zero_le _, Nat.zero_le _⟩ (hpId rfl rfl) rfl ?_
      obtain rfl := Option.some.inj hf
      exact m_iret K (by decide +kernel) (Nat.zero_le _) (Nat.zero_le _) ⟨rfl, rfl⟩
    · refine m_jT M (i := .ifCond .ne 10) 31 (by decide +kernel) rfl (by decide) c_1005 ?_
      obtain ⟨h_1007, hf⟩ := grd_s hf
      refine m_run M (is := [(31, .aload_n 0, 0), (32, .getfield 7, 0), (35, .iload_n 1, 0), (36, .iaload, 0), (37, .iconst 2, 2)]) (pc' := 38) (L' := [some (.ref 0), some (.int a0), some (.int a1), some (.int a2), some (.int a3), some (.int a4), none]) (st' := [.int 2, .int (sv.1 a0.toNatClampNeg)]) (w' := (cM 0 sp tk sv mf mo mn ma kv tv)) (by decide +kernel) rfl ⟨inB_use h_1007, trivial⟩ ?_
      rcases ite_s hf with ⟨c_1008, hf⟩ | ⟨c_1008, hf⟩
      · refine m_jT M (i := .if_icmp .eq 48) 86 (by decide +kernel) rfl (by decide) c_1008 ?_
        refine m_run M (is := [(86, .aload_n 0, 0), (87, .bipush (-3), -3)]) (pc' := 89) (L' := [some (.ref 0), some (.int a0), some (.int a1), some (.int a2), some (.int a3), some (.int a4), none]) (st' := [.int (-3), .ref 0]) (w' := (cM 0 sp tk sv mf mo mn ma kv tv)) (by decide +kernel) rfl trivial ?_
        obtain ⟨r1009, h_1009, hf⟩ := bnd_s hf
        refine m_cV0 M (rest := []) (w2 := (cM 0 sp tk sv r1009.2 mo mn ma kv tv)) (st2 := [.int r1009.1]) (run_X4_refuse (-3)   sp tk sv mf mo mn ma kv tv h_1009) cv_X4_refuse lk_X4_85 (by decide +kernel) (List.range 26) List.nodup_range ⟨(by rw [List.length_range]; exact Nat.le_refl _), Nat.le_of_ble_eq_true rfl⟩ (hwId rfl) rfl rfl (Nat.le_of_ble_eq_true rfl) ⟨by decide, by decide⟩ rfl rfl ⟨Nat.zero_le _, Nat.zero_le _⟩ (hpId rfl rfl) rfl ?_
        obtain rfl := Option.some.inj hf
        exact m_iret K (by decide +kernel) (Nat.zero_le _) (Nat.zero_le _) ⟨rfl, rfl⟩
      · refine m_jF M (i := .if_icmp .eq 48) 86 (by decide +kernel) rfl (by decide) c_1008 ?_
        obtain ⟨h_1010, hf⟩ := grd_s hf
        refine m_run M (is := [(41, .aload_n 0, 0), (42, .getfield 7, 0), (45, .iload_n 2, 0), (46, .iaload, 0), (47, .iconst 2, 2)]) (pc' := 48) (L' := [some (.ref 0), some (.int a0), some (.int a1), some (.int a2), some (.int a3), some (.int a4), none]) (st' := [.int 2, .int (sv.1 a1.toNatClampNeg)]) (w' := (cM 0 sp tk sv mf mo mn ma kv tv)) (by decide +kernel) rfl ⟨inB_use h_1010, trivial⟩ ?_
        rcases ite_s hf with ⟨c_1011, hf⟩ | ⟨c_1011, hf⟩
        · refine m_jT M (i := .if_icmp .eq 38) 86 (by decide +kernel) rfl (by decide) c_1011 ?_
          refine m_run M (is := [(86, .aload_n 0, 0), (87, .bipush (-3), -3)]) (pc' := 89) (L' := [some (.ref 0), some (.int a0), some (.int a1), some (.int a2), some (.int a3), some (.int a4), none]) (st' := [.int (-3), .ref 0]) (w' := (cM 0 sp tk sv mf mo mn ma kv tv)) (by decide +kernel) rfl trivial ?_
          obtain ⟨r1012, h_1012, hf⟩ := bnd_s hf
          refine m_cV0 M (rest := []) (w2 := (cM 0 sp tk sv r1012.2 mo mn ma kv tv)) (st2 := [.int r1012.1]) (run_X4_refuse (-3)   sp tk sv mf mo mn ma kv tv h_1012) cv_X4_refuse lk_X4_85 (by decide +kernel) (List.range 26) List.nodup_range ⟨(by rw [List.length_range]; exact Nat.le_refl _), Nat.le_of_ble_eq_true rfl⟩ (hwId rfl) rfl rfl (Nat.le_of_ble_eq_true rfl) ⟨by decide, by decide⟩ rfl rfl ⟨Nat.zero_le _, Nat.zero_le _⟩ (hpId rfl rfl) rfl ?_
          obtain rfl := Option.some.inj hf
          exact m_iret K (by decide +kernel) (Nat.zero_le _) (Nat.zero_le _) ⟨rfl, rfl⟩
        · refine m_jF M (i := .if_icmp .eq 38) 86 (by decide +kernel) rfl (by decide) c_1011 ?_
          obtain ⟨h_1013, hf⟩ := grd_s hf
          refine m_run M (is := [(51, .aload_n 0, 0), (52, .getfield 7, 0), (55, .iload_n 1, 0), (56, .iaload, 0), (57, .iconst 1, 1)]) (pc' := 58) (L' := [some (.ref 0), some (.int a0), some (.int a1), some (.int a2), some (.int a3), some (.int a4), none]) (st' := [.int 1, .int (sv.1 a0.toNatClampNeg)]) (w' := (cM 0 sp tk sv mf mo mn ma kv tv)) (by decide +kernel) rfl ⟨inB_use h_1013, trivial⟩ ?_
          rcases ite_s hf with ⟨c_1014, hf⟩ | ⟨c_1014, hf⟩
          · refine m_jF M (i := .if_icmp .ne 35) 93 (by decide +kernel) rfl (by decide) (fun n => n c_1014) ?_
            obtain ⟨h_1015, hf⟩ := grd_s hf
            refine m_run M (is := [(61, .aload_n 0, 0), (62, .getfield 7, 0), (65, .iload_n 2, 0), (66, .iaload, 0), (67, .iconst 1, 1)]) (pc' := 68) (L' := [some (.ref 0), some (.int a0), some (.int a1), some (.int a2), some (.int a3), some (.int a4), none]) (st' := [.int 1, .int (sv.1 a1.toNatClampNeg)]) (w' := (cM 0 sp tk sv mf mo mn ma kv tv)) (by decide +kernel) rfl ⟨inB_use h_1015, trivial⟩ ?_
            rcases ite_s hf with ⟨c_1016, hf⟩ | ⟨c_1016, hf⟩
            · refine m_jF M (i := .if_icmp .ne 25) 93 (by decide +kernel) rfl (by decide) (fun n => n c_1016) ?_
              obtain ⟨h_1017, hf⟩ := grd_s hf
              obtain ⟨h_1018, hf⟩ := grd_s hf
              refine m_run M (is := [(71, .aload_n 0, 0), (72, .getfield 13, 0), (75, .iload_n 1, 0), (76, .iaload, 0), (77, .aload_n 0, 0), (78, .getfield 13, 0), (81, .iload_n 2, 0), (82, .iaload, 0)]) (pc' := 83) (L' := [some (.ref 0), some (.int a0), some (.int a1), some (.int a2), some (.int a3), some (.int a4), none]) (st' := [.int (sv.2.1 a1.toNatClampNeg), .int (sv.2.1 a0.toNatClampNeg)]) (w' := (cM 0 sp tk sv mf mo mn ma kv tv)) (by decide +kernel) rfl ⟨inB_use h_1017, inB_use h_1018, trivial⟩ ?_
              rcases ite_s hf with ⟨c_1019, hf⟩ | ⟨c_1019, hf⟩
              · refine m_jT M (i := .if_icmp .eq 10) 93 (by decide +kernel) rfl (by decide) c_1019 ?_
                obtain ⟨h_1020, hf⟩ := grd_s hf
                refine m_run M (is := [(93, .aload_n 0, 0), (94, .getfield 7, 0), (97, .iload_n 1, 0), (98, .iaload, 0)]) (pc' := 99) (L' := [some (.ref 0), some (.int a0), some (.int a1), some (.int a2), some (.int a3), some (.int a4), none]) (st' := [.int (sv.1 a0.toNatClampNeg)]) (w' := (cM 0 sp tk sv mf mo mn ma kv tv)) (by decide +kernel) rfl ⟨inB_use h_1020, trivial⟩ ?_
                rcases ite_s hf with ⟨c_1021, hf⟩ | ⟨c_1021, hf⟩
                · refine m_jT M (i := .ifCond .eq 12) 111 (by decide +kernel) rfl (by decide) c_1021 ?_
                  refine m_run M (is := [(111, .aload_n 0, 0), (112, .bipush (-4), -4)]) (pc' := 114) (L' := [some (.ref 0), some (.int a0), some (.int a1), some (.int a2), some (.int a3), some (.int a4), none]) (st' := [.int (-4), .ref 0]) (w' := (cM 0 sp tk sv mf mo mn ma kv tv)) (by decide +kernel) rfl trivial ?_
                  obtain ⟨r1022, h_1022, hf⟩ := bnd_s hf
                  refine m_cV0 M (rest := []) (w2 := (cM 0 sp tk sv r1022.2 mo mn ma kv tv)) (st2 := [.int r1022.1]) (run_X4_refuse (-4)   sp tk sv mf mo mn ma kv tv h_1022) cv_X4_refuse lk_X4_85 (by decide +kernel) (List.range 26) List.nodup_range ⟨(by rw [List.length_range]; exact Nat.le_refl _), Nat.le_of_ble_eq_true rfl⟩ (hwId rfl) rfl rfl (Nat.le_of_ble_eq_true rfl) ⟨by decide, by decide⟩ rfl rfl ⟨Nat.zero_le _, Nat.zero_le _⟩ (hpId rfl rfl) rfl ?_
                  obtain rfl := Option.some.inj hf
                  exact m_iret K (by decide +kernel) (Nat.zero_le _) (Nat.zero_le _) ⟨rfl, rfl⟩
                · refine m_jF M (i := .ifCond .eq 12) 111 (by decide +kernel) rfl (by decide) c_1021 ?_
                  obtain ⟨h_1023, hf⟩ := grd_s hf
                  refine m_run M (is := [(102, .aload_n 0, 0), (103, .getfield 7, 0), (106, .iload_n 2, 0), (107, .iaload, 0)]) (pc' := 108) (L' := [some (.ref 0), some (.int a0), some (.int a1), some (.int a2), some (.int a3), some (.int a4), none]) (st' := [.int (sv.1 a1.toNatClampNeg)]) (w' := (cM 0 sp tk sv mf mo mn ma kv tv)) (by decide +kernel) rfl ⟨inB_use h_1023, trivial⟩ ?_
                  rcases ite_s hf with ⟨c_1024, hf⟩ | ⟨c_1024, hf⟩
                  · refine m_jF M (i := .ifCond .ne 10) 118 (by decide +kernel) rfl (by decide) (fun n => n c_1024) ?_
                    refine m_run M (is := [(111, .aload_n 0, 0), (112, .bipush (-4), -4)]) (pc' := 114) (L' := [some (.ref 0), some (.int a0), some (.int a1), some (.int a2), some (.int a3), some (.int a4), none]) (st' := [.int (-4), .ref 0]) (w' := (cM 0 sp tk sv mf mo mn ma kv tv)) (by decide +kernel) rfl trivial ?_
                    obtain ⟨r1025, h_1025, hf⟩ := bnd_s hf
                    refine m_cV0 M (rest := []) (w2 := (cM 0 sp tk sv r1025.2 mo mn ma kv tv)) (st2 := [.int r1025.1]) (run_X4_refuse (-4)   sp tk sv mf mo mn ma kv tv h_1025) cv_X4_refuse lk_X4_85 (by decide +kernel) (List.range 26) List.nodup_range ⟨(by rw [List.length_range]; exact Nat.le_refl _), Nat.le_of_ble_eq_true rfl⟩ (hwId rfl) rfl rfl (Nat.le_of_ble_eq_true rfl) ⟨by decide, by decide⟩ rfl rfl ⟨Nat.zero_le _, Nat.zero_le _⟩ (hpId rfl rfl) rfl ?_
                    obtain rfl := Option.some.inj hf
                    exact m_iret K (by decide +kernel) (Nat.zero_le _) (Nat.zero_le _) ⟨rfl, rfl⟩
                  · refine m_jT M (i := .ifCond .ne 10) 118 (by decide +kernel) rfl (by decide) c_1024 ?_
                    refine m_run M (is := [(118, .iload 5, 0)]) (pc' := 120) (L' := [some (.ref 0), some (.int a0), some (.int a1), some (.int a2), some (.int a3), some (.int a4), none]) (st' := [.int a4]) (w' := (cM 0 sp tk sv mf mo mn ma kv tv)) (by decide +kernel) rfl trivial ?_
                    rcases ite_s hf with ⟨c_1026, hf⟩ | ⟨c_1026, hf⟩
                    · refine m_jT M (i := .ifCond .lt 61) 181 (by decide +kernel) rfl (by decide) c_1026 ?_
                      refine m_run M (is := [(181, .aload_n 0, 0), (182, .bipush (-2), -2)]) (pc' := 184) (L' := [some (.ref 0), some (.int a0), some (.int a1), some (.int a2), some (.int a3), some (.int a4), none]) (st' := [.int (-2), .ref 0]) (w' := (cM 0 sp tk sv mf mo mn ma kv tv)) (by decide +kernel) rfl trivial ?_
                      obtain ⟨r1027, h_1027, hf⟩ := bnd_s hf
                      refine m_cV0 M (rest := []) (w2 := (cM 0 sp tk sv r1027.2 mo mn ma kv tv)) (st2 := [.int r1027.1]) (run_X4_refuse (-2)   sp tk sv mf mo mn ma kv tv h_1027) cv_X4_refuse lk_X4_85 (by decide +kernel) (List.range 26) List.nodup_range ⟨(by rw [List.length_range]; exact Nat.le_refl _), Nat.le_of_ble_eq_true rfl⟩ (hwId rfl) rfl rfl (Nat.le_of_ble_eq_true rfl) ⟨by decide, by decide⟩ rfl rfl ⟨Nat.zero_le _, Nat.zero_le _⟩ (hpId rfl rfl) rfl ?_
                      obtain rfl := Option.some.inj hf
                      exact m_iret K (by decide +kernel) (Nat.zero_le _) (Nat.zero_le _) ⟨rfl, rfl⟩
                    · refine m_jF M (i := .ifCond .lt 61) 181 (by decide +kernel) rfl (by decide) c_1026 ?_
                      refine m_run M (is := [(123, .iload_n 3, 0)]) (pc' := 124) (L' := [some (.ref 0), some (.int a0), some (.int a1), some (.int a2), some (.int a3), some (.int a4), none]) (st' := [.int a2]) (w' := (cM 0 sp tk sv mf mo mn ma kv tv)) (by decide +kernel) rfl trivial ?_
                      rcases ite_s hf with ⟨c_1028, hf⟩ | ⟨c_1028, hf⟩
                      · refine m_jT M (i := .ifCond .lt 57) 181 (by decide +kernel) rfl (by decide) c_1028 ?_
                        refine m_run M (is := [(181, .aload_n 0, 0), (182, .bipush (-2), -2)]) (pc' := 184) (L' := [some (.ref 0), some (.int a0), some (.int a1), some (.int a2), some (.int a3), some (.int a4), none]) (st' := [.int (-2), .ref 0]) (w' := (cM 0 sp tk sv mf mo mn ma kv tv)) (by decide +kernel) rfl trivial ?_
                        obtain ⟨r1029, h_1029, hf⟩ := bnd_s hf
                        refine m_cV0 M (rest := []) (w2 := (cM 0 sp tk sv r1029.2 mo mn ma kv tv)) (st2 := [.int r1029.1]) (run_X4_refuse (-2)   sp tk sv mf mo mn ma kv tv h_1029) cv_X4_refuse lk_X4_85 (by decide +kernel) (List.range 26) List.nodup_range ⟨(by rw [List.length_range]; exact Nat.le_refl _), Nat.le_of_ble_eq_true rfl⟩ (hwId rfl) rfl rfl (Nat.le_of_ble_eq_true rfl) ⟨by decide, by decide⟩ rfl rfl ⟨Nat.zero_le _, Nat.zero_le _⟩ (hpId rfl rfl) rfl ?_
                        obtain rfl := Option.some.inj hf
                        exact m_iret K (by decide +kernel) (Nat.zero_le _) (Nat.zero_le _) ⟨rfl, rfl⟩
                      · refine m_jF M (i := .ifCond .lt 57) 181 (by decide +kernel) rfl (by decide) c_1028 ?_
                        refine m_run M (is := [(127, .iload 4, 0)]) (pc' := 129) (L' := [some (.ref 0), some (.int a0), some (.int a1), some (.int a2), some (.int a3), some (.int a4), none]) (st' := [.int a3]) (w' := (cM 0 sp tk sv mf mo mn ma kv tv)) (by decide +kernel) rfl trivial ?_
                        rcases ite_s hf with ⟨c_1030, hf⟩ | ⟨c_1030, hf⟩
                        · refine m_jT M (i := .ifCond .lt 52) 181 (by decide +kernel) rfl (by decide) c_1030 ?_
                          refine m_run M (is := [(181, .aload_n 0, 0), (182, .bipush (-2), -2)]) (pc' := 184) (L' := [some (.ref 0), some (.int a0), some (.int a1), some (.int a2), some (.int a3), some (.int a4), none]) (st' := [.int (-2), .ref 0]) (w' := (cM 0 sp tk sv mf mo mn ma kv tv)) (by decide +kernel) rfl trivial ?_
                          obtain ⟨r1031, h_1031, hf⟩ := bnd_s hf
                          refine m_cV0 M (rest := []) (w2 := (cM 0 sp tk sv r1031.2 mo mn ma kv tv)) (st2 := [.int r1031.1]) (run_X4_refuse (-2)   sp tk sv mf mo mn ma kv tv h_1031) cv_X4_refuse lk_X4_85 (by decide +kernel) (List.range 26) List.nodup_range ⟨(by rw [List.length_range]; exact Nat.le_refl _), Nat.le_of_ble_eq_true rfl⟩ (hwId rfl) rfl rfl (Nat.le_of_ble_eq_true rfl) ⟨by decide, by decide⟩ rfl rfl ⟨Nat.zero_le _, Nat.zero_le _⟩ (hpId rfl rfl) rfl ?_
                          obtain rfl := Option.some.inj hf
                          exact m_iret K (by decide +kernel) (Nat.zero_le _) (Nat.zero_le _) ⟨rfl, rfl⟩
                        · refine m_jF M (i := .ifCond .lt 52) 181 (by decide +kernel) rfl (by decide) c_1030 ?_
                          obtain ⟨h_1032, hf⟩ := grd_s hf
                          refine m_run M (is := [(132, .iload 5, 0), (134, .aload_n 0, 0), (135, .getfield 16, 0), (138, .iload_n 1, 0), (139, .iaload, 0)]) (pc' := 140) (L' := [some (.ref 0), some (.int a0), some (.int a1), some (.int a2), some (.int a3), some (.int a4), none]) (st' := [.int (sv.2.2.1 a0.toNatClampNeg), .int a4]) (w' := (cM 0 sp tk sv mf mo mn ma kv tv)) (by decide +kernel) rfl ⟨inB_use h_1032, trivial⟩ ?_
                          rcases ite_s hf with ⟨c_1033, hf⟩ | ⟨c_1033, hf⟩
                          · refine m_jT M (i := .if_icmp .gt 41) 181 (by decide +kernel) rfl (by decide) c_1033 ?_
                            refine m_run M (is := [(181, .aload_n 0, 0), (182, .bipush (-2), -2)]) (pc' := 184) (L' := [some (.ref 0), some (.int a0), some (.int a1), some (.int a2), some (.int a3), some (.int a4), none]) (st' := [.int (-2), .ref 0]) (w' := (cM 0 sp tk sv mf mo mn ma kv tv)) (by decide +kernel) rfl trivial ?_
                            obtain ⟨r1034, h_1034, hf⟩ := bnd_s hf
                            refine m_cV0 M (rest := []) (w2 := (cM 0 sp tk sv r1034.2 mo mn ma kv tv)) (st2 := [.int r1034.1]) (run_X4_refuse (-2)   sp tk sv mf mo mn ma kv tv h_1034) cv_X4_refuse lk_X4_85 (by decide +kernel) (List.range 26) List.nodup_range ⟨(by rw [List.length_range]; exact Nat.le_refl _), Nat.le_of_ble_eq_true rfl⟩ (hwId rfl) rfl rfl (Nat.le_of_ble_eq_true rfl) ⟨by decide, by decide⟩ rfl rfl ⟨Nat.zero_le _, Nat.zero_le _⟩ (hpId rfl rfl) rfl ?_
                            obtain rfl := Option.some.inj hf
                            exact m_iret K (by decide +kernel) (Nat.zero_le _) (Nat.zero_le _) ⟨rfl, rfl⟩
                          · refine m_jF M (i := .if_icmp .gt 41) 181 (by decide +kernel) rfl (by decide) c_1033 ?_
                            obtain ⟨h_1035, hf⟩ := grd_s hf
                            refine m_run M (is := [(143, .iload 5, 0), (145, .aload_n 0, 0), (146, .getfield 16, 0), (149, .iload_n 2, 0), (150, .iaload, 0)]) (pc' := 151) (L' := [some (.ref 0), some (.int a0), some (.int a1), some (.int a2), some (.int a3), some (.int a4), none]) (st' := [.int (sv.2.2.1 a1.toNatClampNeg), .int a4]) (w' := (cM 0 sp tk sv mf mo mn ma kv tv)) (by decide +kernel) rfl ⟨inB_use h_1035, trivial⟩ ?_
                            rcases ite_s hf with ⟨c_1036, hf⟩ | ⟨c_1036, hf⟩
                            · refine m_jT M (i := .if_icmp .gt 30) 181 (by decide +kernel) rfl (by decide) c_1036 ?_
                              refine m_run M (is := [(181, .aload_n 0, 0), (182, .bipush (-2), -2)]) (pc' := 184) (L' := [some (.ref 0), some (.int a0), some (.int a1), some (.int a2), some (.int a3), some (.int a4), none]) (st' := [.int (-2), .ref 0]) (w' := (cM 0 sp tk sv mf mo mn ma kv tv)) (by decide +kernel) rfl trivial ?_
                              obtain ⟨r1037, h_1037, hf⟩ := bnd_s hf
                              refine m_cV0 M (rest := []) (w2 := (cM 0 sp tk sv r1037.2 mo mn ma kv tv)) (st2 := [.int r1037.1]) (run_X4_refuse (-2)   sp tk sv mf mo mn ma kv tv h_1037) cv_X4_refuse lk_X4_85 (by decide +kernel) (List.range 26) List.nodup_range ⟨(by rw [List.length_range]; exact Nat.le_refl _), Nat.le_of_ble_eq_true rfl⟩ (hwId rfl) rfl rfl (Nat.le_of_ble_eq_true rfl) ⟨by decide, by decide⟩ rfl rfl ⟨Nat.zero_le _, Nat.zero_le _⟩ (hpId rfl rfl) rfl ?_
                              obtain rfl := Option.some.inj hf
                              exact m_iret K (by decide +kernel) (Nat.zero_le _) (Nat.zero_le _) ⟨rfl, rfl⟩
                            · refine m_jF M (i := .if_icmp .gt 30) 181 (by decide +kernel) rfl (by decide) c_1036 ?_
                              obtain ⟨h_1038, hf⟩ := grd_s hf
                              refine m_run M (is := [(154, .iload_n 3, 0), (155, .aload_n 0, 0), (156, .getfield 16, 0), (159, .iload_n 1, 0), (160, .iaload, 0), (161, .iload 5, 0), (163, .isub, 0)]) (pc' := 164) (L' := [some (.ref 0), some (.int a0), some (.int a1), some (.int a2), some (.int a3), some (.int a4), none]) (st' := [.int ((sv.2.2.1 a0.toNatClampNeg) - a4), .int a2]) (w' := (cM 0 sp tk sv mf mo mn ma kv tv)) (by decide +kernel) rfl ⟨inB_use h_1038, trivial⟩ ?_
                              rcases ite_s hf with ⟨c_1039, hf⟩ | ⟨c_1039, hf⟩
                              · refine m_jT M (i := .if_icmp .gt 17) 181 (by decide +kernel) rfl (by decide) c_1039 ?_
                                refine m_run M (is := [(181, .aload_n 0, 0), (182, .bipush (-2), -2)]) (pc' := 184) (L' := [some (.ref 0), some (.int a0), some (.int a1), some (.int a2), some (.int a3), some (.int a4), none]) (st' := [.int (-2), .ref 0]) (w' := (cM 0 sp tk sv mf mo mn ma kv tv)) (by decide +kernel) rfl trivial ?_
                                obtain ⟨r1040, h_1040, hf⟩ := bnd_s hf
                                refine m_cV0 M (rest := []) (w2 := (cM 0 sp tk sv r1040.2 mo mn ma kv tv)) (st2 := [.int r1040.1]) (run_X4_refuse (-2)   sp tk sv mf mo mn ma kv tv h_1040) cv_X4_refuse lk_X4_85 (by decide +kernel) (List.range 26) List.nodup_range ⟨(by rw [List.length_range]; exact Nat.le_refl _), Nat.le_of_ble_eq_true rfl⟩ (hwId rfl) rfl rfl (Nat.le_of_ble_eq_true rfl) ⟨by decide, by decide⟩ rfl rfl ⟨Nat.zero_le _, Nat.zero_le _⟩ (hpId rfl rfl) rfl ?_
                                obtain rfl := Option.some.inj hf
                                exact m_iret K (by decide +kernel) (Nat.zero_le _) (Nat.zero_le _) ⟨rfl, rfl⟩
                              · refine m_jF M (i := .if_icmp .gt 17) 181 (by decide +kernel) rfl (by decide) c_1039 ?_
                                obtain ⟨h_1041, hf⟩ := grd_s hf
                                refine m_run M (is := [(167, .iload 4, 0), (169, .aload_n 0, 0), (170, .getfield 16, 0), (173, .iload_n 2, 0), (174, .iaload, 0), (175, .iload 5, 0), (177, .isub, 0)]) (pc' := 178) (L' := [some (.ref 0), some (.int a0), some (.int a1), some (.int a2), some (.int a3), some (.int a4), none]) (st' := [.int ((sv.2.2.1 a1.toNatClampNeg) - a4), .int a3]) (w' := (cM 0 sp tk sv mf mo mn ma kv tv)) (by decide +kernel) rfl ⟨inB_use h_1041, trivial⟩ ?_
                                rcases ite_s hf with ⟨c_1042, hf⟩ | ⟨c_1042, hf⟩
                                · refine m_jT M (i := .if_icmp .le 10) 188 (by decide +kernel) rfl (by decide) c_1042 ?_
                                  refine m_run M (is := [(188, .iconst 0, 0), (189, .istore 6, 0)]) (pc' := 191) (L' := [some (.ref 0), some (.int a0), some (.int a1), some (.int a2), some (.int a3), some (.int a4), some (.int 0)]) (st' := []) (w' := (cM 0 sp tk sv mf mo mn ma kv tv)) (by decide +kernel) rfl trivial ?_
                                  exact loop_0 a0 a1 a2 a3 a4 fuel0 0 sv mf hf
                                · refine m_jF M (i := .if_icmp .le 10) 188 (by decide +kernel) rfl (by decide) c_1042 ?_
                                  refine m_run M (is := [(181, .aload_n 0, 0), (182, .bipush (-2), -2)]) (pc' := 184) (L' := [some (.ref 0), some (.int a0), some (.int a1), some (.int a2), some (.int a3), some (.int a4), none]) (st' := [.int (-2), .ref 0]) (w' := (cM 0 sp tk sv mf mo mn ma kv tv)) (by decide +kernel) rfl trivial ?_
                                  obtain ⟨r1043, h_1043, hf⟩ := bnd_s hf
                                  refine m_cV0 M (rest := []) (w2 := (cM 0 sp tk sv r1043.2 mo mn ma kv tv)) (st2 := [.int r1043.1]) (run_X4_refuse (-2)   sp tk sv mf mo mn ma kv tv h_1043) cv_X4_refuse lk_X4_85 (by decide +kernel) (List.range 26) List.nodup_range ⟨(by rw [List.length_range]; exact Nat.le_refl _), Nat.le_of_ble_eq_true rfl⟩ (hwId rfl) rfl rfl (Nat.le_of_ble_eq_true rfl) ⟨by decide, by decide⟩ rfl rfl ⟨Nat.zero_le _, Nat.zero_le _⟩ (hpId rfl rfl) rfl ?_
                                  obtain rfl := Option.some.inj hf
                                  exact m_iret K (by decide +kernel) (Nat.zero_le _) (Nat.zero_le _) ⟨rfl, rfl⟩
              · refine m_jF M (i := .if_icmp .eq 10) 93 (by decide +kernel) rfl (by decide) c_1019 ?_
                refine m_run M (is := [(86, .aload_n 0, 0), (87, .bipush (-3), -3)]) (pc' := 89) (L' := [some (.ref 0), some (.int a0), some (.int a1), some (.int a2), some (.int a3), some (.int a4), none]) (st' := [.int (-3), .ref 0]) (w' := (cM 0 sp tk sv mf mo mn ma kv tv)) (by decide +kernel) rfl trivial ?_
                obtain ⟨r1044, h_1044, hf⟩ := bnd_s hf
                refine m_cV0 M (rest := []) (w2 := (cM 0 sp tk sv r1044.2 mo mn ma kv tv)) (st2 := [.int r1044.1]) (run_X4_refuse (-3)   sp tk sv mf mo mn ma kv tv h_1044) cv_X4_refuse lk_X4_85 (by decide +kernel) (List.range 26) List.nodup_range ⟨(by rw [List.length_range]; exact Nat.le_refl _), Nat.le_of_ble_eq_true rfl⟩ (hwId rfl) rfl rfl (Nat.le_of_ble_eq_true rfl) ⟨by decide, by decide⟩ rfl rfl ⟨Nat.zero_le _, Nat.zero_le _⟩ (hpId rfl rfl) rfl ?_
                obtain rfl := Option.some.inj hf
                exact m_iret K (by decide +kernel) (Nat.zero_le _) (Nat.zero_le _) ⟨rfl, rfl⟩
            · refine m_jT M (i := .if_icmp .ne 25) 93 (by decide +kernel) rfl (by decide) c_1016 ?_
              obtain ⟨h_1045, hf⟩ := grd_s hf
              refine m_run M (is := [(93, .aload_n 0, 0), (94, .getfield 7, 0), (97, .iload_n 1, 0), (98, .iaload, 0)]) (pc' := 99) (L' := [some (.ref 0), some (.int a0), some (.int a1), some (.int a2), some (.int a3), some (.int a4), none]) (st' := [.int (sv.1 a0.toNatClampNeg)]) (w' := (cM 0 sp tk sv mf mo mn ma kv tv)) (by decide +kernel) rfl ⟨inB_use h_1045, trivial⟩ ?_
              rcases ite_s hf with ⟨c_1046, hf⟩ | ⟨c_1046, hf⟩
              · refine m_jT M (i := .ifCond .eq 12) 111 (by decide +kernel) rfl (by decide) c_1046 ?_
                refine m_run M (is := [(111, .aload_n 0, 0), (112, .bipush (-4), -4)]) (pc' := 114) (L' := [some (.ref 0), some (.int a0), some (.int a1), some (.int a2), some (.int a3), some (.int a4), none]) (st' := [.int (-4), .ref 0]) (w' := (cM 0 sp tk sv mf mo mn ma kv tv)) (by decide +kernel) rfl trivial ?_
                obtain ⟨r1047, h_1047, hf⟩ := bnd_s hf
                refine m_cV0 M (rest := []) (w2 := (cM 0 sp tk sv r1047.2 mo mn ma kv tv)) (st2 := [.int r1047.1]) (run_X4_refuse (-4)   sp tk sv mf mo mn ma kv tv h_1047) cv_X4_refuse lk_X4_85 (by decide +kernel) (List.range 26) List.nodup_range ⟨(by rw [List.length_range]; exact Nat.le_refl _), Nat.le_of_ble_eq_true rfl⟩ (hwId rfl) rfl rfl (Nat.le_of_ble_eq_true rfl) ⟨by decide, by decide⟩ rfl rfl ⟨Nat.zero_le _, Nat.zero_le _⟩ (hpId rfl rfl) rfl ?_
                obtain rfl := Option.some.inj hf
                exact m_iret K (by decide +kernel) (Nat.zero_le _) (Nat.zero_le _) ⟨rfl, rfl⟩
              · refine m_jF M (i := .ifCond .eq 12) 111 (by decide +kernel) rfl (by decide) c_1046 ?_
                obtain ⟨h_1048, hf⟩ := grd_s hf
                refine m_run M (is := [(102, .aload_n 0, 0), (103, .getfield 7, 0), (106, .iload_n 2, 0), (107, .iaload, 0)]) (pc' := 108) (L' := [some (.ref 0), some (.int a0), some (.int a1), some (.int a2), some (.int a3), some (.int a4), none]) (st' := [.int (sv.1 a1.toNatClampNeg)]) (w' := (cM 0 sp tk sv mf mo mn ma kv tv)) (by decide +kernel) rfl ⟨inB_use h_1048, trivial⟩ ?_
                rcases ite_s hf with ⟨c_1049, hf⟩ | ⟨c_1049, hf⟩
                · refine m_jF M (i := .ifCond .ne 10) 118 (by decide +kernel) rfl (by decide) (fun n => n c_1049) ?_
                  refine m_run M (is := [(111, .aload_n 0, 0), (112, .bipush (-4), -4)]) (pc' := 114) (L' := [some (.ref 0), some (.int a0), some (.int a1), some (.int a2), some (.int a3), some (.int a4), none]) (st' := [.int (-4), .ref 0]) (w' := (cM 0 sp tk sv mf mo mn ma kv tv)) (by decide +kernel) rfl trivial ?_
                  obtain ⟨r1050, h_1050, hf⟩ := bnd_s hf
                  refine m_cV0 M (rest := []) (w2 := (cM 0 sp tk sv r1050.2 mo mn ma kv tv)) (st2 := [.int r1050.1]) (run_X4_refuse (-4)   sp tk sv mf mo mn ma kv tv h_1050) cv_X4_refuse lk_X4_85 (by decide +kernel) (List.range 26) List.nodup_range ⟨(by rw [List.length_range]; exact Nat.le_refl _), Nat.le_of_ble_eq_true rfl⟩ (hwId rfl) rfl rfl (Nat.le_of_ble_eq_true rfl) ⟨by decide, by decide⟩ rfl rfl ⟨Nat.zero_le _, Nat.zero_le _⟩ (hpId rfl rfl) rfl ?_
                  obtain rfl := Option.some.inj hf
                  exact m_iret K (by decide +kernel) (Nat.zero_le _) (Nat.zero_le _) ⟨rfl, rfl⟩
                · refine m_jT M (i := .ifCond .ne 10) 118 (by decide +kernel) rfl (by decide) c_1049 ?_
                  refine m_run M (is := [(118, .iload 5, 0)]) (pc' := 120) (L' := [some (.ref 0), some (.int a0), some (.int a1), some (.int a2), some (.int a3), some (.int a4), none]) (st' := [.int a4]) (w' := (cM 0 sp tk sv mf mo mn ma kv tv)) (by decide +kernel) rfl trivial ?_
                  rcases ite_s hf with ⟨c_1051, hf⟩ | ⟨c_1051, hf⟩
                  · refine m_jT M (i := .ifCond .lt 61) 181 (by decide +kernel) rfl (by decide) c_1051 ?_
                    refine m_run M (is := [(181, .aload_n 0, 0), (182, .bipush (-2), -2)]) (pc' := 184) (L' := [some (.ref 0), some (.int a0), some (.int a1), some (.int a2), some (.int a3), some (.int a4), none]) (st' := [.int (-2), .ref 0]) (w' := (cM 0 sp tk sv mf mo mn ma kv tv)) (by decide +kernel) rfl trivial ?_
                    obtain ⟨r1052, h_1052, hf⟩ := bnd_s hf
                    refine m_cV0 M (rest := []) (w2 := (cM 0 sp tk sv r1052.2 mo mn ma kv tv)) (st2 := [.int r1052.1]) (run_X4_refuse (-2)   sp tk sv mf mo mn ma kv tv h_1052) cv_X4_refuse lk_X4_85 (by decide +kernel) (List.range 26) List.nodup_range ⟨(by rw [List.length_range]; exact Nat.le_refl _), Nat.le_of_ble_eq_true rfl⟩ (hwId rfl) rfl rfl (Nat.le_of_ble_eq_true rfl) ⟨by decide, by decide⟩ rfl rfl ⟨Nat.zero_le _, Nat.zero_le _⟩ (hpId rfl rfl) rfl ?_
                    obtain rfl := Option.some.inj hf
                    exact m_iret K (by decide +kernel) (Nat.zero_le _) (Nat.zero_le _) ⟨rfl, rfl⟩
                  · refine m_jF M (i := .ifCond .lt 61) 181 (by decide +kernel) rfl (by decide) c_1051 ?_
                    refine m_run M (is := [(123, .iload_n 3, 0)]) (pc' := 124) (L' := [some (.ref 0), some (.int a0), some (.int a1), some (.int a2), some (.int a3), some (.int a4), none]) (st' := [.int a2]) (w' := (cM 0 sp tk sv mf mo mn ma kv tv)) (by decide +kernel) rfl trivial ?_
                    rcases ite_s hf with ⟨c_1053, hf⟩ | ⟨c_1053, hf⟩
                    · refine m_jT M (i := .ifCond .lt 57) 181 (by decide +kernel) rfl (by decide) c_1053 ?_
                      refine m_run M (is := [(181, .aload_n 0, 0), (182, .bipush (-2), -2)]) (pc' := 184) (L' := [some (.ref 0), some (.int a0), some (.int a1), some (.int a2), some (.int a3), some (.int a4), none]) (st' := [.int (-2), .ref 0]) (w' := (cM 0 sp tk sv mf mo mn ma kv tv)) (by decide +kernel) rfl trivial ?_
                      obtain ⟨r1054, h_1054, hf⟩ := bnd_s hf
                      refine m_cV0 M (rest := []) (w2 := (cM 0 sp tk sv r1054.2 mo mn ma kv tv)) (st2 := [.int r1054.1]) (run_X4_refuse (-2)   sp tk sv mf mo mn ma kv tv h_1054) cv_X4_refuse lk_X4_85 (by decide +kernel) (List.range 26) List.nodup_range ⟨(by rw [List.length_range]; exact Nat.le_refl _), Nat.le_of_ble_eq_true rfl⟩ (hwId rfl) rfl rfl (Nat.le_of_ble_eq_true rfl) ⟨by decide, by decide⟩ rfl rfl ⟨Nat.zero_le _, Nat.zero_le _⟩ (hpId rfl rfl) rfl ?_
                      obtain rfl := Option.some.inj hf
                      exact m_iret K (by decide +kernel) (Nat.zero_le _) (Nat.zero_le _) ⟨rfl, rfl⟩
                    · refine m_jF M (i := .ifCond .lt 57) 181 (by decide +kernel) rfl (by decide) c_1053 ?_
                      refine m_run M (is := [(127, .iload 4, 0)]) (pc' := 129) (L' := [some (.ref 0), some (.int a0), some (.int a1), some (.int a2), some (.int a3), some (.int a4), none]) (st' := [.int a3]) (w' := (cM 0 sp tk sv mf mo mn ma kv tv)) (by decide +kernel) rfl trivial ?_
                      rcases ite_s hf with ⟨c_1055, hf⟩ | ⟨c_1055, hf⟩
                      · refine m_jT M (i := .ifCond .lt 52) 181 (by decide +kernel) rfl (by decide) c_1055 ?_
                        refine m_run M (is := [(181, .aload_n 0, 0), (182, .bipush (-2), -2)]) (pc' := 184) (L' := [some (.ref 0), some (.int a0), some (.int a1), some (.int a2), some (.int a3), some (.int a4), none]) (st' := [.int (-2), .ref 0]) (w' := (cM 0 sp tk sv mf mo mn ma kv tv)) (by decide +kernel) rfl trivial ?_
                        obtain ⟨r1056, h_1056, hf⟩ := bnd_s hf
                        refine m_cV0 M (rest := []) (w2 := (cM 0 sp tk sv r1056.2 mo mn ma kv tv)) (st2 := [.int r1056.1]) (run_X4_refuse (-2)   sp tk sv mf mo mn ma kv tv h_1056) cv_X4_refuse lk_X4_85 (by decide +kernel) (List.range 26) List.nodup_range ⟨(by rw [List.length_range]; exact Nat.le_refl _), Nat.le_of_ble_eq_true rfl⟩ (hwId rfl) rfl rfl (Nat.le_of_ble_eq_true rfl) ⟨by decide, by decide⟩ rfl rfl ⟨Nat.zero_le _, Nat.zero_le _⟩ (hpId rfl rfl) rfl ?_
                        obtain rfl := Option.some.inj hf
                        exact m_iret K (by decide +kernel) (Nat.zero_le _) (Nat.zero_le _) ⟨rfl, rfl⟩
                      · refine m_jF M (i := .ifCond .lt 52) 181 (by decide +kernel) rfl (by decide) c_1055 ?_
                        obtain ⟨h_1057, hf⟩ := grd_s hf
                        refine m_run M (is := [(132, .iload 5, 0), (134, .aload_n 0, 0), (135, .getfield 16, 0), (138, .iload_n 1, 0), (139, .iaload, 0)]) (pc' := 140) (L' := [some (.ref 0), some (.int a0), some (.int a1), some (.int a2), some (.int a3), some (.int a4), none]) (st' := [.int (sv.2.2.1 a0.toNatClampNeg), .int a4]) (w' := (cM 0 sp tk sv mf mo mn ma kv tv)) (by decide +kernel) rfl ⟨inB_use h_1057, trivial⟩ ?_
                        rcases ite_s hf with ⟨c_1058, hf⟩ | ⟨c_1058, hf⟩
                        · refine m_jT M (i := .if_icmp .gt 41) 181 (by decide +kernel) rfl (by decide) c_1058 ?_
                          refine m_run M (is := [(181, .aload_n 0, 0), (182, .bipush (-2), -2)]) (pc' := 184) (L' := [some (.ref 0), some (.int a0), some (.int a1), some (.int a2), some (.int a3), some (.int a4), none]) (st' := [.int (-2), .ref 0]) (w' := (cM 0 sp tk sv mf mo mn ma kv tv)) (by decide +kernel) rfl trivial ?_
                          obtain ⟨r1059, h_1059, hf⟩ := bnd_s hf
                          refine m_cV0 M (rest := []) (w2 := (cM 0 sp tk sv r1059.2 mo mn ma kv tv)) (st2 := [.int r1059.1]) (run_X4_refuse (-2)   sp tk sv mf mo mn ma kv tv h_1059) cv_X4_refuse lk_X4_85 (by decide +kernel) (List.range 26) List.nodup_range ⟨(by rw [List.length_range]; exact Nat.le_refl _), Nat.le_of_ble_eq_true rfl⟩ (hwId rfl) rfl rfl (Nat.le_of_ble_eq_true rfl) ⟨by decide, by decide⟩ rfl rfl ⟨Nat.zero_le _, Nat.zero_le _⟩ (hpId rfl rfl) rfl ?_
                          obtain rfl := Option.some.inj hf
                          exact m_iret K (by decide +kernel) (Nat.zero_le _) (Nat.zero_le _) ⟨rfl, rfl⟩
                        · refine m_jF M (i := .if_icmp .gt 41) 181 (by decide +kernel) rfl (by decide) c_1058 ?_
                          obtain ⟨h_1060, hf⟩ := grd_s hf
                          refine m_run M (is := [(143, .iload 5, 0), (145, .aload_n 0, 0), (146, .getfield 16, 0), (149, .iload_n 2, 0), (150, .iaload, 0)]) (pc' := 151) (L' := [some (.ref 0), some (.int a0), some (.int a1), some (.int a2), some (.int a3), some (.int a4), none]) (st' := [.int (sv.2.2.1 a1.toNatClampNeg), .int a4]) (w' := (cM 0 sp tk sv mf mo mn ma kv tv)) (by decide +kernel) rfl ⟨inB_use h_1060, trivial⟩ ?_
                          rcases ite_s hf with ⟨c_1061, hf⟩ | ⟨c_1061, hf⟩
                          · refine m_jT M (i := .if_icmp .gt 30) 181 (by decide +kernel) rfl (by decide) c_1061 ?_
                            refine m_run M (is := [(181, .aload_n 0, 0), (182, .bipush (-2), -2)]) (pc' := 184) (L' := [some (.ref 0), some (.int a0), some (.int a1), some (.int a2), some (.int a3), some (.int a4), none]) (st' := [.int (-2), .ref 0]) (w' := (cM 0 sp tk sv mf mo mn ma kv tv)) (by decide +kernel) rfl trivial ?_
                            obtain ⟨r1062, h_1062, hf⟩ := bnd_s hf
                            refine m_cV0 M (rest := []) (w2 := (cM 0 sp tk sv r1062.2 mo mn ma kv tv)) (st2 := [.int r1062.1]) (run_X4_refuse (-2)   sp tk sv mf mo mn ma kv tv h_1062) cv_X4_refuse lk_X4_85 (by decide +kernel) (List.range 26) List.nodup_range ⟨(by rw [List.length_range]; exact Nat.le_refl _), Nat.le_of_ble_eq_true rfl⟩ (hwId rfl) rfl rfl (Nat.le_of_ble_eq_true rfl) ⟨by decide, by decide⟩ rfl rfl ⟨Nat.zero_le _, Nat.zero_le _⟩ (hpId rfl rfl) rfl ?_
                            obtain rfl := Option.some.inj hf
                            exact m_iret K (by decide +kernel) (Nat.zero_le _) (Nat.zero_le _) ⟨rfl, rfl⟩
                          · refine m_jF M (i := .if_icmp .gt 30) 181 (by decide +kernel) rfl (by decide) c_1061 ?_
                            obtain ⟨h_1063, hf⟩ := grd_s hf
                            refine m_run M (is := [(154, .iload_n 3, 0), (155, .aload_n 0, 0), (156, .getfield 16, 0), (159, .iload_n 1, 0), (160, .iaload, 0), (161, .iload 5, 0), (163, .isub, 0)]) (pc' := 164) (L' := [some (.ref 0), some (.int a0), some (.int a1), some (.int a2), some (.int a3), some (.int a4), none]) (st' := [.int ((sv.2.2.1 a0.toNatClampNeg) - a4), .int a2]) (w' := (cM 0 sp tk sv mf mo mn ma kv tv)) (by decide +kernel) rfl ⟨inB_use h_1063, trivial⟩ ?_
                            rcases ite_s hf with ⟨c_1064, hf⟩ | ⟨c_1064, hf⟩
                            · refine m_jT M (i := .if_icmp .gt 17) 181 (by decide +kernel) rfl (by decide) c_1064 ?_
                              refine m_run M (is := [(181, .aload_n 0, 0), (182, .bipush (-2), -2)]) (pc' := 184) (L' := [some (.ref 0), some (.int a0), some (.int a1), some (.int a2), some (.int a3), some (.int a4), none]) (st' := [.int (-2), .ref 0]) (w' := (cM 0 sp tk sv mf mo mn ma kv tv)) (by decide +kernel) rfl trivial ?_
                              obtain ⟨r1065, h_1065, hf⟩ := bnd_s hf
                              refine m_cV0 M (rest := []) (w2 := (cM 0 sp tk sv r1065.2 mo mn ma kv tv)) (st2 := [.int r1065.1]) (run_X4_refuse (-2)   sp tk sv mf mo mn ma kv tv h_1065) cv_X4_refuse lk_X4_85 (by decide +kernel) (List.range 26) List.nodup_range ⟨(by rw [List.length_range]; exact Nat.le_refl _), Nat.le_of_ble_eq_true rfl⟩ (hwId rfl) rfl rfl (Nat.le_of_ble_eq_true rfl) ⟨by decide, by decide⟩ rfl rfl ⟨Nat.zero_le _, Nat.zero_le _⟩ (hpId rfl rfl) rfl ?_
                              obtain rfl := Option.some.inj hf
                              exact m_iret K (by decide +kernel) (Nat.zero_le _) (Nat.zero_le _) ⟨rfl, rfl⟩
                            · refine m_jF M (i := .if_icmp .gt 17) 181 (by decide +kernel) rfl (by decide) c_1064 ?_
                              obtain ⟨h_1066, hf⟩ := grd_s hf
                              refine m_run M (is := [(167, .iload 4, 0), (169, .aload_n 0, 0), (170, .getfield 16, 0), (173, .iload_n 2, 0), (174, .iaload, 0), (175, .iload 5, 0), (177, .isub, 0)]) (pc' := 178) (L' := [some (.ref 0), some (.int a0), some (.int a1), some (.int a2), some (.int a3), some (.int a4), none]) (st' := [.int ((sv.2.2.1 a1.toNatClampNeg) - a4), .int a3]) (w' := (cM 0 sp tk sv mf mo mn ma kv tv)) (by decide +kernel) rfl ⟨inB_use h_1066, trivial⟩ ?_
                              rcases ite_s hf with ⟨c_1067, hf⟩ | ⟨c_1067, hf⟩
                              · refine m_jT M (i := .if_icmp .le 10) 188 (by decide +kernel) rfl (by decide) c_1067 ?_
                                refine m_run M (is := [(188, .iconst 0, 0), (189, .istore 6, 0)]) (pc' := 191) (L' := [some (.ref 0), some (.int a0), some (.int a1), some (.int a2), some (.int a3), some (.int a4), some (.int 0)]) (st' := []) (w' := (cM 0 sp tk sv mf mo mn ma kv tv)) (by decide +kernel) rfl trivial ?_
                                exact loop_0 a0 a1 a2 a3 a4 fuel0 0 sv mf hf
                              · refine m_jF M (i := .if_icmp .le 10) 188 (by decide +kernel) rfl (by decide) c_1067 ?_
                                refine m_run M (is := [(181, .aload_n 0, 0), (182, .bipush (-2), -2)]) (pc' := 184) (L' := [some (.ref 0), some (.int a0), some (.int a1), some (.int a2), some (.int a3), some (.int a4), none]) (st' := [.int (-2), .ref 0]) (w' := (cM 0 sp tk sv mf mo mn ma kv tv)) (by decide +kernel) rfl trivial ?_
                                obtain ⟨r1068, h_1068, hf⟩ := bnd_s hf
                                refine m_cV0 M (rest := []) (w2 := (cM 0 sp tk sv r1068.2 mo mn ma kv tv)) (st2 := [.int r1068.1]) (run_X4_refuse (-2)   sp tk sv mf mo mn ma kv tv h_1068) cv_X4_refuse lk_X4_85 (by decide +kernel) (List.range 26) List.nodup_range ⟨(by rw [List.length_range]; exact Nat.le_refl _), Nat.le_of_ble_eq_true rfl⟩ (hwId rfl) rfl rfl (Nat.le_of_ble_eq_true rfl) ⟨by decide, by decide⟩ rfl rfl ⟨Nat.zero_le _, Nat.zero_le _⟩ (hpId rfl rfl) rfl ?_
                                obtain rfl := Option.some.inj hf
                                exact m_iret K (by decide +kernel) (Nat.zero_le _) (Nat.zero_le _) ⟨rfl, rfl⟩
          · refine m_jT M (i := .if_icmp .ne 35) 93 (by decide +kernel) rfl (by decide) c_1014 ?_
            obtain ⟨h_1069, hf⟩ := grd_s hf
            refine m_run M (is := [(93, .aload_n 0, 0), (94, .getfield 7, 0), (97, .iload_n 1, 0), (98, .iaload, 0)]) (pc' := 99) (L' := [some (.ref 0), some (.int a0), some (.int a1), some (.int a2), some (.int a3), some (.int a4), none]) (st' := [.int (sv.1 a0.toNatClampNeg)]) (w' := (cM 0 sp tk sv mf mo mn ma kv tv)) (by decide +kernel) rfl ⟨inB_use h_1069, trivial⟩ ?_
            rcases ite_s hf with ⟨c_1070, hf⟩ | ⟨c_1070, hf⟩
            · refine m_jT M (i := .ifCond .eq 12) 111 (by decide +kernel) rfl (by decide) c_1070 ?_
              refine m_run M (is := [(111, .aload_n 0, 0), (112, .bipush (-4), -4)]) (pc' := 114) (L' := [some (.ref 0), some (.int a0), some (.int a1), some (.int a2), some (.int a3), some (.int a4), none]) (st' := [.int (-4), .ref 0]) (w' := (cM 0 sp tk sv mf mo mn ma kv tv)) (by decide +kernel) rfl trivial ?_
              obtain ⟨r1071, h_1071, hf⟩ := bnd_s hf
              refine m_cV0 M (rest := []) (w2 := (cM 0 sp tk sv r1071.2 mo mn ma kv tv)) (st2 := [.int r1071.1]) (run_X4_refuse (-4)   sp tk sv mf mo mn ma kv tv h_1071) cv_X4_refuse lk_X4_85 (by decide +kernel) (List.range 26) List.nodup_range ⟨(by rw [List.length_range]; exact Nat.le_refl _), Nat.le_of_ble_eq_true rfl⟩ (hwId rfl) rfl rfl (Nat.le_of_ble_eq_true rfl) ⟨by decide, by decide⟩ rfl rfl ⟨Nat.zero_le _, Nat.zero_le _⟩ (hpId rfl rfl) rfl ?_
              obtain rfl := Option.some.inj hf
              exact m_iret K (by decide +kernel) (Nat.zero_le _) (Nat.zero_le _) ⟨rfl, rfl⟩
            · refine m_jF M (i := .ifCond .eq 12) 111 (by decide +kernel) rfl (by decide) c_1070 ?_
              obtain ⟨h_1072, hf⟩ := grd_s hf
              refine m_run M (is := [(102, .aload_n 0, 0), (103, .getfield 7, 0), (106, .iload_n 2, 0), (107, .iaload, 0)]) (pc' := 108) (L' := [some (.ref 0), some (.int a0), some (.int a1), some (.int a2), some (.int a3), some (.int a4), none]) (st' := [.int (sv.1 a1.toNatClampNeg)]) (w' := (cM 0 sp tk sv mf mo mn ma kv tv)) (by decide +kernel) rfl ⟨inB_use h_1072, trivial⟩ ?_
              rcases ite_s hf with ⟨c_1073, hf⟩ | ⟨c_1073, hf⟩
              · refine m_jF M (i := .ifCond .ne 10) 118 (by decide +kernel) rfl (by decide) (fun n => n c_1073) ?_
                refine m_run M (is := [(111, .aload_n 0, 0), (112, .bipush (-4), -4)]) (pc' := 114) (L' := [some (.ref 0), some (.int a0), some (.int a1), some (.int a2), some (.int a3), some (.int a4), none]) (st' := [.int (-4), .ref 0]) (w' := (cM 0 sp tk sv mf mo mn ma kv tv)) (by decide +kernel) rfl trivial ?_
                obtain ⟨r1074, h_1074, hf⟩ := bnd_s hf
                refine m_cV0 M (rest := []) (w2 := (cM 0 sp tk sv r1074.2 mo mn ma kv tv)) (st2 := [.int r1074.1]) (run_X4_refuse (-4)   sp tk sv mf mo mn ma kv tv h_1074) cv_X4_refuse lk_X4_85 (by decide +kernel) (List.range 26) List.nodup_range ⟨(by rw [List.length_range]; exact Nat.le_refl _), Nat.le_of_ble_eq_true rfl⟩ (hwId rfl) rfl rfl (Nat.le_of_ble_eq_true rfl) ⟨by decide, by decide⟩ rfl rfl ⟨Nat.zero_le _, Nat.zero_le _⟩ (hpId rfl rfl) rfl ?_
                obtain rfl := Option.some.inj hf
                exact m_iret K (by decide +kernel) (Nat.zero_le _) (Nat.zero_le _) ⟨rfl, rfl⟩
              · refine m_jT M (i := .ifCond .ne 10) 118 (by decide +kernel) rfl (by decide) c_1073 ?_
                refine m_run M (is := [(118, .iload 5, 0)]) (pc' := 120) (L' := [some (.ref 0), some (.int a0), some (.int a1), some (.int a2), some (.int a3), some (.int a4), none]) (st' := [.int a4]) (w' := (cM 0 sp tk sv mf mo mn ma kv tv)) (by decide +kernel) rfl trivial ?_
                rcases ite_s hf with ⟨c_1075, hf⟩ | ⟨c_1075, hf⟩
                · refine m_jT M (i := .ifCond .lt 61) 181 (by decide +kernel) rfl (by decide) c_1075 ?_
                  refine m_run M (is := [(181, .aload_n 0, 0), (182, .bipush (-2), -2)]) (pc' := 184) (L' := [some (.ref 0), some (.int a0), some (.int a1), some (.int a2), some (.int a3), some (.int a4), none]) (st' := [.int (-2), .ref 0]) (w' := (cM 0 sp tk sv mf mo mn ma kv tv)) (by decide +kernel) rfl trivial ?_
                  obtain ⟨r1076, h_1076, hf⟩ := bnd_s hf
                  refine m_cV0 M (rest := []) (w2 := (cM 0 sp tk sv r1076.2 mo mn ma kv tv)) (st2 := [.int r1076.1]) (run_X4_refuse (-2)   sp tk sv mf mo mn ma kv tv h_1076) cv_X4_refuse lk_X4_85 (by decide +kernel) (List.range 26) List.nodup_range ⟨(by rw [List.length_range]; exact Nat.le_refl _), Nat.le_of_ble_eq_true rfl⟩ (hwId rfl) rfl rfl (Nat.le_of_ble_eq_true rfl) ⟨by decide, by decide⟩ rfl rfl ⟨Nat.zero_le _, Nat.zero_le _⟩ (hpId rfl rfl) rfl ?_
                  obtain rfl := Option.some.inj hf
                  exact m_iret K (by decide +kernel) (Nat.zero_le _) (Nat.zero_le _) ⟨rfl, rfl⟩
                · refine m_jF M (i := .ifCond .lt 61) 181 (by decide +kernel) rfl (by decide) c_1075 ?_
                  refine m_run M (is := [(123, .iload_n 3, 0)]) (pc' := 124) (L' := [some (.ref 0), some (.int a0), some (.int a1), some (.int a2), some (.int a3), some (.int a4), none]) (st' := [.int a2]) (w' := (cM 0 sp tk sv mf mo mn ma kv tv)) (by decide +kernel) rfl trivial ?_
                  rcases ite_s hf with ⟨c_1077, hf⟩ | ⟨c_1077, hf⟩
                  · refine m_jT M (i := .ifCond .lt 57) 181 (by decide +kernel) rfl (by decide) c_1077 ?_
                    refine m_run M (is := [(181, .aload_n 0, 0), (182, .bipush (-2), -2)]) (pc' := 184) (L' := [some (.ref 0), some (.int a0), some (.int a1), some (.int a2), some (.int a3), some (.int a4), none]) (st' := [.int (-2), .ref 0]) (w' := (cM 0 sp tk sv mf mo mn ma kv tv)) (by decide +kernel) rfl trivial ?_
                    obtain ⟨r1078, h_1078, hf⟩ := bnd_s hf
                    refine m_cV0 M (rest := []) (w2 := (cM 0 sp tk sv r1078.2 mo mn ma kv tv)) (st2 := [.int r1078.1]) (run_X4_refuse (-2)   sp tk sv mf mo mn ma kv tv h_1078) cv_X4_refuse lk_X4_85 (by decide +kernel) (List.range 26) List.nodup_range ⟨(by rw [List.length_range]; exact Nat.le_refl _), Nat.le_of_ble_eq_true rfl⟩ (hwId rfl) rfl rfl (Nat.le_of_ble_eq_true rfl) ⟨by decide, by decide⟩ rfl rfl ⟨Nat.zero_le _, Nat.zero_le _⟩ (hpId rfl rfl) rfl ?_
                    obtain rfl := Option.some.inj hf
                    exact m_iret K (by decide +kernel) (Nat.zero_le _) (Nat.zero_le _) ⟨rfl, rfl⟩
                  · refine m_jF M (i := .ifCond .lt 57) 181 (by decide +kernel) rfl (by decide) c_1077 ?_
                    refine m_run M (is := [(127, .iload 4, 0)]) (pc' := 129) (L' := [some (.ref 0), some (.int a0), some (.int a1), some (.int a2), some (.int a3), some (.int a4), none]) (st' := [.int a3]) (w' := (cM 0 sp tk sv mf mo mn ma kv tv)) (by decide +kernel) rfl trivial ?_
                    rcases ite_s hf with ⟨c_1079, hf⟩ | ⟨c_1079, hf⟩
                    · refine m_jT M (i := .ifCond .lt 52) 181 (by decide +kernel) rfl (by decide) c_1079 ?_
                      refine m_run M (is := [(181, .aload_n 0, 0), (182, .bipush (-2), -2)]) (pc' := 184) (L' := [some (.ref 0), some (.int a0), some (.int a1), some (.int a2), some (.int a3), some (.int a4), none]) (st' := [.int (-2), .ref 0]) (w' := (cM 0 sp tk sv mf mo mn ma kv tv)) (by decide +kernel) rfl trivial ?_
                      obtain ⟨r1080, h_1080, hf⟩ := bnd_s hf
                      refine m_cV0 M (rest := []) (w2 := (cM 0 sp tk sv r1080.2 mo mn ma kv tv)) (st2 := [.int r1080.1]) (run_X4_refuse (-2)   sp tk sv mf mo mn ma kv tv h_1080) cv_X4_refuse lk_X4_85 (by decide +kernel) (List.range 26) List.nodup_range ⟨(by rw [List.length_range]; exact Nat.le_refl _), Nat.le_of_ble_eq_true rfl⟩ (hwId rfl) rfl rfl (Nat.le_of_ble_eq_true rfl) ⟨by decide, by decide⟩ rfl rfl ⟨Nat.zero_le _, Nat.zero_le _⟩ (hpId rfl rfl) rfl ?_
                      obtain rfl := Option.some.inj hf
                      exact m_iret K (by decide +kernel) (Nat.zero_le _) (Nat.zero_le _) ⟨rfl, rfl⟩
                    · refine m_jF M (i := .ifCond .lt 52) 181 (by decide +kernel) rfl (by decide) c_1079 ?_
                      obtain ⟨h_1081, hf⟩ := grd_s hf
                      refine m_run M (is := [(132, .iload 5, 0), (134, .aload_n 0, 0), (135, .getfield 16, 0), (138, .iload_n 1, 0), (139, .iaload, 0)]) (pc' := 140) (L' := [some (.ref 0), some (.int a0), some (.int a1), some (.int a2), some (.int a3), some (.int a4), none]) (st' := [.int (sv.2.2.1 a0.toNatClampNeg), .int a4]) (w' := (cM 0 sp tk sv mf mo mn ma kv tv)) (by decide +kernel) rfl ⟨inB_use h_1081, trivial⟩ ?_
                      rcases ite_s hf with ⟨c_1082, hf⟩ | ⟨c_1082, hf⟩
                      · refine m_jT M (i := .if_icmp .gt 41) 181 (by decide +kernel) rfl (by decide) c_1082 ?_
                        refine m_run M (is := [(181, .aload_n 0, 0), (182, .bipush (-2), -2)]) (pc' := 184) (L' := [some (.ref 0), some (.int a0), some (.int a1), some (.int a2), some (.int a3), some (.int a4), none]) (st' := [.int (-2), .ref 0]) (w' := (cM 0 sp tk sv mf mo mn ma kv tv)) (by decide +kernel) rfl trivial ?_
                        obtain ⟨r1083, h_1083, hf⟩ := bnd_s hf
                        refine m_cV0 M (rest := []) (w2 := (cM 0 sp tk sv r1083.2 mo mn ma kv tv)) (st2 := [.int r1083.1]) (run_X4_refuse (-2)   sp tk sv mf mo mn ma kv tv h_1083) cv_X4_refuse lk_X4_85 (by decide +kernel) (List.range 26) List.nodup_range ⟨(by rw [List.length_range]; exact Nat.le_refl _), Nat.le_of_ble_eq_true rfl⟩ (hwId rfl) rfl rfl (Nat.le_of_ble_eq_true rfl) ⟨by decide, by decide⟩ rfl rfl ⟨Nat.zero_le _, Nat.zero_le _⟩ (hpId rfl rfl) rfl ?_
                        obtain rfl := Option.some.inj hf
                        exact m_iret K (by decide +kernel) (Nat.zero_le _) (Nat.zero_le _) ⟨rfl, rfl⟩
                      · refine m_jF M (i := .if_icmp .gt 41) 181 (by decide +kernel) rfl (by decide) c_1082 ?_
                        obtain ⟨h_1084, hf⟩ := grd_s hf
                        refine m_run M (is := [(143, .iload 5, 0), (145, .aload_n 0, 0), (146, .getfield 16, 0), (149, .iload_n 2, 0), (150, .iaload, 0)]) (pc' := 151) (L' := [some (.ref 0), some (.int a0), some (.int a1), some (.int a2), some (.int a3), some (.int a4), none]) (st' := [.int (sv.2.2.1 a1.toNatClampNeg), .int a4]) (w' := (cM 0 sp tk sv mf mo mn ma kv tv)) (by decide +kernel) rfl ⟨inB_use h_1084, trivial⟩ ?_
                        rcases ite_s hf with ⟨c_1085, hf⟩ | ⟨c_1085, hf⟩
                        · refine m_jT M (i := .if_icmp .gt 30) 181 (by decide +kernel) rfl (by decide) c_1085 ?_
                          refine m_run M (is := [(181, .aload_n 0, 0), (182, .bipush (-2), -2)]) (pc' := 184) (L' := [some (.ref 0), some (.int a0), some (.int a1), some (.int a2), some (.int a3), some (.int a4), none]) (st' := [.int (-2), .ref 0]) (w' := (cM 0 sp tk sv mf mo mn ma kv tv)) (by decide +kernel) rfl trivial ?_
                          obtain ⟨r1086, h_1086, hf⟩ := bnd_s hf
                          refine m_cV0 M (rest := []) (w2 := (cM 0 sp tk sv r1086.2 mo mn ma kv tv)) (st2 := [.int r1086.1]) (run_X4_refuse (-2)   sp tk sv mf mo mn ma kv tv h_1086) cv_X4_refuse lk_X4_85 (by decide +kernel) (List.range 26) List.nodup_range ⟨(by rw [List.length_range]; exact Nat.le_refl _), Nat.le_of_ble_eq_true rfl⟩ (hwId rfl) rfl rfl (Nat.le_of_ble_eq_true rfl) ⟨by decide, by decide⟩ rfl rfl ⟨Nat.zero_le _, Nat.zero_le _⟩ (hpId rfl rfl) rfl ?_
                          obtain rfl := Option.some.inj hf
                          exact m_iret K (by decide +kernel) (Nat.zero_le _) (Nat.zero_le _) ⟨rfl, rfl⟩
                        · refine m_jF M (i := .if_icmp .gt 30) 181 (by decide +kernel) rfl (by decide) c_1085 ?_
                          obtain ⟨h_1087, hf⟩ := grd_s hf
                          refine m_run M (is := [(154, .iload_n 3, 0), (155, .aload_n 0, 0), (156, .getfield 16, 0), (159, .iload_n 1, 0), (160, .iaload, 0), (161, .iload 5, 0), (163, .isub, 0)]) (pc' := 164) (L' := [some (.ref 0), some (.int a0), some (.int a1), some (.int a2), some (.int a3), some (.int a4), none]) (st' := [.int ((sv.2.2.1 a0.toNatClampNeg) - a4), .int a2]) (w' := (cM 0 sp tk sv mf mo mn ma kv tv)) (by decide +kernel) rfl ⟨inB_use h_1087, trivial⟩ ?_
                          rcases ite_s hf with ⟨c_1088, hf⟩ | ⟨c_1088, hf⟩
                          · refine m_jT M (i := .if_icmp .gt 17) 181 (by decide +kernel) rfl (by decide) c_1088 ?_
                            refine m_run M (is := [(181, .aload_n 0, 0), (182, .bipush (-2), -2)]) (pc' := 184) (L' := [some (.ref 0), some (.int a0), some (.int a1), some (.int a2), some (.int a3), some (.int a4), none]) (st' := [.int (-2), .ref 0]) (w' := (cM 0 sp tk sv mf mo mn ma kv tv)) (by decide +kernel) rfl trivial ?_
                            obtain ⟨r1089, h_1089, hf⟩ := bnd_s hf
                            refine m_cV0 M (rest := []) (w2 := (cM 0 sp tk sv r1089.2 mo mn ma kv tv)) (st2 := [.int r1089.1]) (run_X4_refuse (-2)   sp tk sv mf mo mn ma kv tv h_1089) cv_X4_refuse lk_X4_85 (by decide +kernel) (List.range 26) List.nodup_range ⟨(by rw [List.length_range]; exact Nat.le_refl _), Nat.le_of_ble_eq_true rfl⟩ (hwId rfl) rfl rfl (Nat.le_of_ble_eq_true rfl) ⟨by decide, by decide⟩ rfl rfl ⟨Nat.zero_le _, Nat.zero_le _⟩ (hpId rfl rfl) rfl ?_
                            obtain rfl := Option.some.inj hf
                            exact m_iret K (by decide +kernel) (Nat.zero_le _) (Nat.zero_le _) ⟨rfl, rfl⟩
                          · refine m_jF M (i := .if_icmp .gt 17) 181 (by decide +kernel) rfl (by decide) c_1088 ?_
                            obtain ⟨h_1090, hf⟩ := grd_s hf
                            refine m_run M (is := [(167, .iload 4, 0), (169, .aload_n 0, 0), (170, .getfield 16, 0), (173, .iload_n 2, 0), (174, .iaload, 0), (175, .iload 5, 0), (177, .isub, 0)]) (pc' := 178) (L' := [some (.ref 0), some (.int a0), some (.int a1), some (.int a2), some (.int a3), some (.int a4), none]) (st' := [.int ((sv.2.2.1 a1.toNatClampNeg) - a4), .int a3]) (w' := (cM 0 sp tk sv mf mo mn ma kv tv)) (by decide +kernel) rfl ⟨inB_use h_1090, trivial⟩ ?_
                            rcases ite_s hf with ⟨c_1091, hf⟩ | ⟨c_1091, hf⟩
                            · refine m_jT M (i := .if_icmp .le 10) 188 (by decide +kernel) rfl (by decide) c_1091 ?_
                              refine m_run M (is := [(188, .iconst 0, 0), (189, .istore 6, 0)]) (pc' := 191) (L' := [some (.ref 0), some (.int a0), some (.int a1), some (.int a2), some (.int a3), some (.int a4), some (.int 0)]) (st' := []) (w' := (cM 0 sp tk sv mf mo mn ma kv tv)) (by decide +kernel) rfl trivial ?_
                              exact loop_0 a0 a1 a2 a3 a4 fuel0 0 sv mf hf
                            · refine m_jF M (i := .if_icmp .le 10) 188 (by decide +kernel) rfl (by decide) c_1091 ?_
                              refine m_run M (is := [(181, .aload_n 0, 0), (182, .bipush (-2), -2)]) (pc' := 184) (L' := [some (.ref 0), some (.int a0), some (.int a1), some (.int a2), some (.int a3), some (.int a4), none]) (st' := [.int (-2), .ref 0]) (w' := (cM 0 sp tk sv mf mo mn ma kv tv)) (by decide +kernel) rfl trivial ?_
                              obtain ⟨r1092, h_1092, hf⟩ := bnd_s hf
                              refine m_cV0 M (rest := []) (w2 := (cM 0 sp tk sv r1092.2 mo mn ma kv tv)) (st2 := [.int r1092.1]) (run_X4_refuse (-2)   sp tk sv mf mo mn ma kv tv h_1092) cv_X4_refuse lk_X4_85 (by decide +kernel) (List.range 26) List.nodup_range ⟨(by rw [List.length_range]; exact Nat.le_refl _), Nat.le_of_ble_eq_true rfl⟩ (hwId rfl) rfl rfl (Nat.le_of_ble_eq_true rfl) ⟨by decide, by decide⟩ rfl rfl ⟨Nat.zero_le _, Nat.zero_le _⟩ (hpId rfl rfl) rfl ?_
                              obtain rfl := Option.some.inj hf
                              exact m_iret K (by decide +kernel) (Nat.zero_le _) (Nat.zero_le _) ⟨rfl, rfl⟩

def f_X4_element (a0 : Int32) (a1 : Int32) (sv : SvT) : Option (Int64) :=
  (f_X4_in ((a0).toInt64) 0 7).bind fun r1001 =>
  if r1001 = 0 then
    some 0
  else
    if inB a0 8 then
    if (sv.1 a0.toNatClampNeg) = 1 then
      if inB a0 8 then
      (f_X4_in ((a1).toInt64) 0 ((((sv.2.2.1 a0.toNatClampNeg) - 1)).toInt64)).bind fun r1006 =>
      if r1006 = 0 then
        some 0
      else
        if inB a0 8 then
        if inB a1 40 then
        some ((sv.2.2.2.2.2 a0.toNatClampNeg) a1.toNatClampNeg)
        else none
        else none
      else none
    else
      some 0
    else none
set_option maxRecDepth 100000 in
set_option maxHeartbeats 4000000 in
theorem run_X4_element {l : Launch} {D : va_G} {cT : Nat → ClassId} (a0 : Int32) (a1 : Int32)   (sp : ShT) (tk : TkT) (sv : SvT) (mf : AI) (mo : AI) (mn : AI) (ma : AI) (kv : Value) (tv : Value) {r : Int64} (hf : f_X4_element a0 a1 sv = some r) : Runs l D cT yX4_element cX4_element 3 (some .long) 1 25 [.ref 0, .int a0, .int a1] (cM 0 sp tk sv mf mo mn ma kv tv) (EQ (some (.long r)) (cM 0 sp tk sv mf mo mn ma kv tv)) := by
  refine runs_of O_X4 okO_X4 (by decide +kernel) rfl rfl (Nat.le_of_ble_eq_true rfl) (Nat.le_of_ble_eq_true rfl) (fun g K => ?_)
  have M := K.b
  show g 0 0 (cM 0 sp tk sv mf mo mn ma kv tv) 0 [some (.ref 0), some (.int a0), some (.int a1)] []
  rw [f_X4_element] at hf
  refine m_run M (is := [(0, .iload_n 1, 0), (1, .i2l, 0), (2, .lconst 0, 0), (3, .ldc2_w 79, 0)]) (pc' := 6) (L' := [some (.ref 0), some (.int a0), some (.int a1)]) (st' := [.long 7, .long 0, .long ((a0).toInt64)]) (w' := (cM 0 sp tk sv mf mo mn ma kv tv)) (by decide +kernel) rfl trivial ?_
  obtain ⟨r1001, h_1001, hf⟩ := bnd_s hf
  refine m_cS0 M (rest := []) (w2 := (cM 0 sp tk sv mf mo mn ma kv tv)) (st2 := [.int r1001]) (run_X4_in ((a0).toInt64) 0 7    h_1001) cs_X4_in lk_X4_72 (by decide +kernel) [] (by decide) ⟨Nat.le_of_ble_eq_true rfl, Nat.le_of_ble_eq_true rfl⟩ rfl rfl (Nat.le_of_ble_eq_true rfl) ⟨by decide, by decide⟩ rfl rfl ⟨Nat.zero_le _, Nat.zero_le _⟩ rfl rfl ?_
  rcases ite_s hf with ⟨c_1002, hf⟩ | ⟨c_1002, hf⟩
  · refine m_jT M (i := .ifCond .eq 42) 51 (by decide +kernel) rfl (by decide) c_1002 ?_
    refine m_run M (is := [(51, .lconst 0, 0)]) (pc' := 52) (L' := [some (.ref 0), some (.int a0), some (.int a1)]) (st' := [.long 0]) (w' := (cM 0 sp tk sv mf mo mn ma kv tv)) (by decide +kernel) rfl trivial ?_
    obtain rfl := Option.some.inj hf
    exact m_lret K (by decide +kernel) (Nat.zero_le _) (Nat.zero_le _) ⟨rfl, rfl⟩
  · refine m_jF M (i := .ifCond .eq 42) 51 (by decide +kernel) rfl (by decide) c_1002 ?_
    obtain ⟨h_1003, hf⟩ := grd_s hf
    refine m_run M (is := [(12, .aload_n 0, 0), (13, .getfield 7, 0), (16, .iload_n 1, 0), (17, .iaload, 0), (18, .iconst 1, 1)]) (pc' := 19) (L' := [some (.ref 0), some (.int a0), some (.int a1)]) (st' := [.int 1, .int (sv.1 a0.toNatClampNeg)]) (w' := (cM 0 sp tk sv mf mo mn ma kv tv)) (by decide +kernel) rfl ⟨inB_use h_1003, trivial⟩ ?_
    rcases ite_s hf with ⟨c_1004, hf⟩ | ⟨c_1004, hf⟩
    · refine m_jF M (i := .if_icmp .ne 32) 51 (by decide +kernel) rfl (by decide) (fun n => n c_1004) ?_
      obtain ⟨h_1005, hf⟩ := grd_s hf
      refine m_run M (is := [(22, .iload_n 2, 0), (23, .i2l, 0), (24, .lconst 0, 0), (25, .aload_n 0, 0), (26, .getfield 16, 0), (29, .iload_n 1, 0), (30, .iaload, 0), (31, .iconst 1, 1), (32, .isub, 0), (33, .i2l, 0)]) (pc' := 34) (L' := [some (.ref 0), some (.int a0), some (.int a1)]) (st' := [.long ((((sv.2.2.1 a0.toNatClampNeg) - 1)).toInt64), .long 0, .long ((a1).toInt64)]) (w' := (cM 0 sp tk sv mf mo mn ma kv tv)) (by decide +kernel) rfl ⟨inB_use h_1005, trivial⟩ ?_
      obtain ⟨r1006, h_1006, hf⟩ := bnd_s hf
      refine m_cS0 M (rest := []) (w2 := (cM 0 sp tk sv mf mo mn ma kv tv)) (st2 := [.int r1006]) (run_X4_in ((a1).toInt64) 0 ((((sv.2.2.1 a0.toNatClampNeg) - 1)).toInt64)    h_1006) cs_X4_in lk_X4_72 (by decide +kernel) [] (by decide) ⟨Nat.le_of_ble_eq_true rfl, Nat.le_of_ble_eq_true rfl⟩ rfl rfl (Nat.le_of_ble_eq_true rfl) ⟨by decide, by decide⟩ rfl rfl ⟨Nat.zero_le _, Nat.zero_le _⟩ rfl rfl ?_
      rcases ite_s hf with ⟨c_1007, hf⟩ | ⟨c_1007, hf⟩
      · refine m_jT M (i := .ifCond .eq 14) 51 (by decide +kernel) rfl (by decide) c_1007 ?_
        refine m_run M (is := [(51, .lconst 0, 0)]) (pc' := 52) (L' := [some (.ref 0), some (.int a0), some (.int a1)]) (st' := [.long 0]) (w' := (cM 0 sp tk sv mf mo mn ma kv tv)) (by decide +kernel) rfl trivial ?_
        obtain rfl := Option.some.inj hf
        exact m_lret K (by decide +kernel) (Nat.zero_le _) (Nat.zero_le _) ⟨rfl, rfl⟩
      · refine m_jF M (i := .ifCond .eq 14) 51 (by decide +kernel) rfl (by decide) c_1007 ?_
        obtain ⟨h_1008, hf⟩ := grd_s hf
        refine m_run M (is := [(40, .aload_n 0, 0), (41, .getfield 21, 0), (44, .iload_n 1, 0)]) (pc' := 45) (L' := [some (.ref 0), some (.int a0), some (.int a1)]) (st' := [.int a0, .ref 4]) (w' := (cM 0 sp tk sv mf mo mn ma kv tv)) (by decide +kernel) rfl trivial ?_
        refine m_run M (is := [(45, .aaload, 0)]) (pc' := 46) (L' := [some (.ref 0), some (.int a0), some (.int a1)]) (st' := [.ref (18 + a0.toNatClampNeg)]) (w' := (cM 0 sp tk sv mf mo mn ma kv tv)) (by decide +kernel) (s_aald rfl rfl (fM_18 (inB_lt h_1008))) ⟨inB_use h_1008, trivial⟩ ?_
        obtain ⟨h_1009, hf⟩ := grd_s hf
        refine m_run M (is := [(46, .iload_n 2, 0)]) (pc' := 47) (L' := [some (.ref 0), some (.int a0), some (.int a1)]) (st' := [.int a1, .ref (18 + a0.toNatClampNeg)]) (w' := (cM 0 sp tk sv mf mo mn ma kv tv)) (by decide +kernel) rfl trivial ?_
        refine m_run M (is := [(47, .laload, 0)]) (pc' := 48) (L' := [some (.ref 0), some (.int a0), some (.int a1)]) (st' := [.long ((sv.2.2.2.2.2 a0.toNatClampNeg) a1.toNatClampNeg)]) (w' := (cM 0 sp tk sv mf mo mn ma kv tv)) (by decide +kernel) (s_lald (wM_ro (inB_lt h_1008) sp tk sv mf mo mn ma kv tv)) ⟨inB_use h_1009, trivial⟩ ?_
        refine m_run M (is := [(48, .goto 4, 0)]) (pc' := 52) (L' := [some (.ref 0), some (.int a0), some (.int a1)]) (st' := [.long ((sv.2.2.2.2.2 a0.toNatClampNeg) a1.toNatClampNeg)]) (w' := (cM 0 sp tk sv mf mo mn ma kv tv)) (by decide +kernel) rfl trivial ?_
        obtain rfl := Option.some.inj hf
        exact m_lret K (by decide +kernel) (Nat.zero_le _) (Nat.zero_le _) ⟨rfl, rfl⟩
    · refine m_jT M (i := .if_icmp .ne 32) 51 (by decide +kernel) rfl (by decide) c_1004 ?_
      refine m_run M (is := [(51, .lconst 0, 0)]) (pc' := 52) (L' := [some (.ref 0), some (.int a0), some (.int a1)]) (st' := [.long 0]) (w' := (cM 0 sp tk sv mf mo mn ma kv tv)) (by decide +kernel) rfl trivial ?_
      obtain rfl := Option.some.inj hf
      exact m_lret K (by decide +kernel) (Nat.zero_le _) (Nat.zero_le _) ⟨rfl, rfl⟩

def f_X4_holds (a0 : Int32) (sv : SvT) : Option (Int32) :=
  (f_X4_in ((a0).toInt64) 0 7).bind fun r1001 =>
  if r1001 = 0 then
    some (-1)
  else
    if inB a0 8 then
    if (sv.1 a0.toNatClampNeg) = 0 then
      some (-1)
    else
      if inB a0 8 then
      if (sv.1 a0.toNatClampNeg) = 1 then
        if inB a0 8 then
        some (sv.2.1 a0.toNatClampNeg)
        else none
      else
        if inB a0 8 then
        some (10 + (sv.2.2.2.1 a0.toNatClampNeg))
        else none
      else none
    else none
set_option maxRecDepth 100000 in
set_option maxHeartbeats 4000000 in
theorem run_X4_holds {l : Launch} {D : va_G} {cT : Nat → ClassId} (a0 : Int32)   (sp : ShT) (tk : TkT) (sv : SvT) (mf : AI) (mo : AI) (mn : AI) (ma : AI) (kv : Value) (tv : Value) {r : Int32} (hf : f_X4_holds a0 sv = some r) : Runs l D cT yX4_holds cX4_holds 2 (some .int) 1 25 [.ref 0, .int a0] (cM 0 sp tk sv mf mo mn ma kv tv) (EQ (some (.int r)) (cM 0 sp tk sv mf mo mn ma kv tv)) := by
  refine runs_of O_X4 okO_X4 (by decide +kernel) rfl rfl (Nat.le_of_ble_eq_true rfl) (Nat.le_of_ble_eq_true rfl) (fun g K => ?_)
  have M := K.b
  show g 0 0 (cM 0 sp tk sv mf mo mn ma kv tv) 0 [some (.ref 0), some (.int a0)] []
  rw [f_X4_holds] at hf
  refine m_run M (is := [(0, .iload_n 1, 0), (1, .i2l, 0), (2, .lconst 0, 0), (3, .ldc2_w 79, 0)]) (pc' := 6) (L' := [some (.ref 0), some (.int a0)]) (st' := [.long 7, .long 0, .long ((a0).toInt64)]) (w' := (cM 0 sp tk sv mf mo mn ma kv tv)) (by decide +kernel) rfl trivial ?_
  obtain ⟨r1001, h_1001, hf⟩ := bnd_s hf
  refine m_cS0 M (rest := []) (w2 := (cM 0 sp tk sv mf mo mn ma kv tv)) (st2 := [.int r1001]) (run_X4_in ((a0).toInt64) 0 7    h_1001) cs_X4_in lk_X4_72 (by decide +kernel) [] (by decide) ⟨Nat.le_of_ble_eq_true rfl, Nat.le_of_ble_eq_true rfl⟩ rfl rfl (Nat.le_of_ble_eq_true rfl) ⟨by decide, by decide⟩ rfl rfl ⟨Nat.zero_le _, Nat.zero_le _⟩ rfl rfl ?_
  rcases ite_s hf with ⟨c_1002, hf⟩ | ⟨c_1002, hf⟩
  · refine m_jT M (i := .ifCond .eq 12) 21 (by decide +kernel) rfl (by decide) c_1002 ?_
    refine m_run M (is := [(21, .iconst (-1), -1)]) (pc' := 22) (L' := [some (.ref 0), some (.int a0)]) (st' := [.int (-1)]) (w' := (cM 0 sp tk sv mf mo mn ma kv tv)) (by decide +kernel) rfl trivial ?_
    obtain rfl := Option.some.inj hf
    exact m_iret K (by decide +kernel) (Nat.zero_le _) (Nat.zero_le _) ⟨rfl, rfl⟩
  · refine m_jF M (i := .ifCond .eq 12) 21 (by decide +kernel) rfl (by decide) c_1002 ?_
    obtain ⟨h_1003, hf⟩ := grd_s hf
    refine m_run M (is := [(12, .aload_n 0, 0), (13, .getfield 7, 0), (16, .iload_n 1, 0), (17, .iaload, 0)]) (pc' := 18) (L' := [some (.ref 0), some (.int a0)]) (st' := [.int (sv.1 a0.toNatClampNeg)]) (w' := (cM 0 sp tk sv mf mo mn ma kv tv)) (by decide +kernel) rfl ⟨inB_use h_1003, trivial⟩ ?_
    rcases ite_s hf with ⟨c_1004, hf⟩ | ⟨c_1004, hf⟩
    · refine m_jF M (i := .ifCond .ne 5) 23 (by decide +kernel) rfl (by decide) (fun n => n c_1004) ?_
      refine m_run M (is := [(21, .iconst (-1), -1)]) (pc' := 22) (L' := [some (.ref 0), some (.int a0)]) (st' := [.int (-1)]) (w' := (cM 0 sp tk sv mf mo mn ma kv tv)) (by decide +kernel) rfl trivial ?_
      obtain rfl := Option.some.inj hf
      exact m_iret K (by decide +kernel) (Nat.zero_le _) (Nat.zero_le _) ⟨rfl, rfl⟩
    · refine m_jT M (i := .ifCond .ne 5) 23 (by decide +kernel) rfl (by decide) c_1004 ?_
      obtain ⟨h_1005, hf⟩ := grd_s hf
      refine m_run M (is := [(23, .aload_n 0, 0), (24, .getfield 7, 0), (27, .iload_n 1, 0), (28, .iaload, 0), (29, .iconst 1, 1)]) (pc' := 30) (L' := [some (.ref 0), some (.int a0)]) (st' := [.int 1, .int (sv.1 a0.toNatClampNeg)]) (w' := (cM 0 sp tk sv mf mo mn ma kv tv)) (by decide +kernel) rfl ⟨inB_use h_1005, trivial⟩ ?_
      rcases ite_s hf with ⟨c_1006, hf⟩ | ⟨c_1006, hf⟩
      · refine m_jF M (i := .if_icmp .ne 12) 42 (by decide +kernel) rfl (by decide) (fun n => n c_1006) ?_
        obtain ⟨h_1007, hf⟩ := grd_s hf
        refine m_run M (is := [(33, .aload_n 0, 0), (34, .getfield 13, 0), (37, .iload_n 1, 0), (38, .iaload, 0), (39, .goto 12, 0)]) (pc' := 51) (L' := [some (.ref 0), some (.int a0)]) (st' := [.int (sv.2.1 a0.toNatClampNeg)]) (w' := (cM 0 sp tk sv mf mo mn ma kv tv)) (by decide +kernel) rfl ⟨inB_use h_1007, trivial⟩ ?_
        obtain rfl := Option.some.inj hf
        exact m_iret K (by decide +kernel) (Nat.zero_le _) (Nat.zero_le _) ⟨rfl, rfl⟩
      · refine m_jT M (i := .if_icmp .ne 12) 42 (by decide +kernel) rfl (by decide) c_1006 ?_
        obtain ⟨h_1008, hf⟩ := grd_s hf
        refine m_run M (is := [(42, .bipush 10, 10), (44, .aload_n 0, 0), (45, .getfield 28, 0), (48, .iload_n 1, 0), (49, .iaload, 0), (50, .iadd, 0)]) (pc' := 51) (L' := [some (.ref 0), some (.int a0)]) (st' := [.int (10 + (sv.2.2.2.1 a0.toNatClampNeg))]) (w' := (cM 0 sp tk sv mf mo mn ma kv tv)) (by decide +kernel) rfl ⟨inB_use h_1008, trivial⟩ ?_
        obtain rfl := Option.some.inj hf
        exact m_iret K (by decide +kernel) (Nat.zero_le _) (Nat.zero_le _) ⟨rfl, rfl⟩

def f_X4_show (a0 : Int32) (a1 : Int32) (sp : ShT) (sv : SvT) (mf : AI) : Option (Int32 × SvT × AI) :=
  (f_X4_in ((a0).toInt64) 0 7).bind fun r1001 =>
  if r1001 = 0 then
    (f_X4_refuse (-2) mf).bind fun r1003 =>
    some (r1003.1, sv, r1003.2)
  else
    if a1 = (-1) then
      if a1 = (-1) then
        if inB a0 8 then
        if inB a0 8 then
        some (1, ((upd sv.1 a0.toNatClampNeg 0), sv.2.1, sv.2.2.1, (upd sv.2.2.2.1 a0.toNatClampNeg a1), sv.2.2.2.2.1, sv.2.2.2.2.2), mf)
        else none
        else none
      else
        if inB a0 8 then
        if inB a0 8 then
        some (1, ((upd sv.1 a0.toNatClampNeg 2), sv.2.1, sv.2.2.1, (upd sv.2.2.2.1 a0.toNatClampNeg a1), sv.2.2.2.2.1, sv.2.2.2.2.2), mf)
        else none
        else none
    else
      (f_X4_isLaw a1 sp).bind fun r1010 =>
      if r1010 = 0 then
        (f_X4_refuse (-2) mf).bind fun r1012 =>
        some (r1012.1, sv, r1012.2)
      else
        if a1 = (-1) then
          if inB a0 8 then
          if inB a0 8 then
          some (1, ((upd sv.1 a0.toNatClampNeg 0), sv.2.1, sv.2.2.1, (upd sv.2.2.2.1 a0.toNatClampNeg a1), sv.2.2.2.2.1, sv.2.2.2.2.2), mf)
          else none
          else none
        else
          if inB a0 8 then
          if inB a0 8 then
          some (1, ((upd sv.1 a0.toNatClampNeg 2), sv.2.1, sv.2.2.1, (upd sv.2.2.2.1 a0.toNatClampNeg a1), sv.2.2.2.2.1, sv.2.2.2.2.2), mf)
          else none
          else none
set_option maxRecDepth 100000 in
set_option maxHeartbeats 4000000 in
theorem run_X4_show {l : Launch} {D : va_G} {cT : Nat → ClassId} (a0 : Int32) (a1 : Int32)   (sp : ShT) (tk : TkT) (sv : SvT) (mf : AI) (mo : AI) (mn : AI) (ma : AI) (kv : Value) (tv : Value) {r : Int32 × SvT × AI} (hf : f_X4_show a0 a1 sp sv mf = some r) : Runs l D cT yX4_show cX4_show 3 (some .int) 2 46 [.ref 0, .int a0, .int a1] (cM 0 sp tk sv mf mo mn ma kv tv) (EQ (some (.int r.1)) (cM 0 sp tk r.2.1 r.2.2 mo mn ma kv tv)) := by
  refine runs_of O_X4 okO_X4 (by decide +kernel) rfl rfl (Nat.le_of_ble_eq_true rfl) (Nat.le_of_ble_eq_true rfl) (fun g K => ?_)
  have M := K.b
  show g 0 0 (cM 0 sp tk sv mf mo mn ma kv tv) 0 [some (.ref 0), some (.int a0), some (.int a1)] []
  rw [f_X4_show] at hf
  refine m_run M (is := [(0, .iload_n 1, 0), (1, .i2l, 0), (2, .lconst 0, 0), (3, .ldc2_w 79, 0)]) (pc' := 6) (L' := [some (.ref 0), some (.int a0), some (.int a1)]) (st' := [.long 7, .long 0, .long ((a0).toInt64)]) (w' := (cM 0 sp tk sv mf mo mn ma kv tv)) (by decide +kernel) rfl trivial ?_
  obtain ⟨r1001, h_1001, hf⟩ := bnd_s hf
  refine m_cS0 M (rest := []) (w2 := (cM 0 sp tk sv mf mo mn ma kv tv)) (st2 := [.int r1001]) (run_X4_in ((a0).toInt64) 0 7    h_1001) cs_X4_in lk_X4_72 (by decide +kernel) [] (by decide) ⟨Nat.le_of_ble_eq_true rfl, Nat.le_of_ble_eq_true rfl⟩ rfl rfl (Nat.le_of_ble_eq_true rfl) ⟨by decide, by decide⟩ rfl rfl ⟨Nat.zero_le _, Nat.zero_le _⟩ rfl rfl ?_
  rcases ite_s hf with ⟨c_1002, hf⟩ | ⟨c_1002, hf⟩
  · refine m_jT M (i := .ifCond .eq 16) 25 (by decide +kernel) rfl (by decide) c_1002 ?_
    refine m_run M (is := [(25, .aload_n 0, 0), (26, .bipush (-2), -2)]) (pc' := 28) (L' := [some (.ref 0), some (.int a0), some (.int a1)]) (st' := [.int (-2), .ref 0]) (w' := (cM 0 sp tk sv mf mo mn ma kv tv)) (by decide +kernel) rfl trivial ?_
    obtain ⟨r1003, h_1003, hf⟩ := bnd_s hf
    refine m_cV0 M (rest := []) (w2 := (cM 0 sp tk sv r1003.2 mo mn ma kv tv)) (st2 := [.int r1003.1]) (run_X4_refuse (-2)   sp tk sv mf mo mn ma kv tv h_1003) cv_X4_refuse lk_X4_85 (by decide +kernel) (List.range 26) List.nodup_range ⟨(by rw [List.length_range]; exact Nat.le_refl _), Nat.le_of_ble_eq_true rfl⟩ (hwId rfl) rfl rfl (Nat.le_of_ble_eq_true rfl) ⟨by decide, by decide⟩ rfl rfl ⟨Nat.zero_le _, Nat.zero_le _⟩ (hpId rfl rfl) rfl ?_
    obtain rfl := Option.some.inj hf
    exact m_iret K (by decide +kernel) (Nat.zero_le _) (Nat.zero_le _) ⟨rfl, rfl⟩
  · refine m_jF M (i := .ifCond .eq 16) 25 (by decide +kernel) rfl (by decide) c_1002 ?_
    refine m_run M (is := [(12, .iload_n 2, 0), (13, .iconst (-1), -1)]) (pc' := 14) (L' := [some (.ref 0), some (.int a0), some (.int a1)]) (st' := [.int (-1), .int a1]) (w' := (cM 0 sp tk sv mf mo mn ma kv tv)) (by decide +kernel) rfl trivial ?_
    rcases ite_s hf with ⟨c_1004, hf⟩ | ⟨c_1004, hf⟩
    · refine m_jT M (i := .if_icmp .eq 18) 32 (by decide +kernel) rfl (by decide) c_1004 ?_
      refine m_run M (is := [(32, .aload_n 0, 0), (33, .getfield 7, 0), (36, .iload_n 1, 0), (37, .iload_n 2, 0), (38, .iconst (-1), -1)]) (pc' := 39) (L' := [some (.ref 0), some (.int a0), some (.int a1)]) (st' := [.int (-1), .int a1, .int a0, .ref 1]) (w' := (cM 0 sp tk sv mf mo mn ma kv tv)) (by decide +kernel) rfl trivial ?_
      rcases ite_s hf with ⟨c_1005, hf⟩ | ⟨c_1005, hf⟩
      · refine m_jF M (i := .if_icmp .ne 7) 46 (by decide +kernel) rfl (by decide) (fun n => n c_1005) ?_
        obtain ⟨h_1006, hf⟩ := grd_s hf
        obtain ⟨h_1007, hf⟩ := grd_s hf
        refine m_run M (is := [(42, .iconst 0, 0), (43, .goto 4, 0), (47, .iastore, 0), (48, .aload_n 0, 0), (49, .getfield 28, 0), (52, .iload_n 1, 0), (53, .iload_n 2, 0), (54, .iastore, 0), (55, .iconst 1, 1)]) (pc' := 56) (L' := [some (.ref 0), some (.int a0), some (.int a1)]) (st' := [.int 1]) (w' := (cM 0 sp tk ((upd sv.1 a0.toNatClampNeg 0), sv.2.1, sv.2.2.1, (upd sv.2.2.2.1 a0.toNatClampNeg a1), sv.2.2.2.2.1, sv.2.2.2.2.2) mf mo mn ma kv tv)) (by decide +kernel) rfl ⟨inB_use h_1006, inB_use h_1007, trivial⟩ ?_
        obtain rfl := Option.some.inj hf
        exact m_iret K (by decide +kernel) (Nat.zero_le _) (Nat.zero_le _) ⟨rfl, rfl⟩
      · refine m_jT M (i := .if_icmp .ne 7) 46 (by decide +kernel) rfl (by decide) c_1005 ?_
        obtain ⟨h_1008, hf⟩ := grd_s hf
        obtain ⟨h_1009, hf⟩ := grd_s hf
        refine m_run M (is := [(46, .iconst 2, 2), (47, .iastore, 0), (48, .aload_n 0, 0), (49, .getfield 28, 0), (52, .iload_n 1, 0), (53, .iload_n 2, 0), (54, .iastore, 0), (55, .iconst 1, 1)]) (pc' := 56) (L' := [some (.ref 0), some (.int a0), some (.int a1)]) (st' := [.int 1]) (w' := (cM 0 sp tk ((upd sv.1 a0.toNatClampNeg 2), sv.2.1, sv.2.2.1, (upd sv.2.2.2.1 a0.toNatClampNeg a1), sv.2.2.2.2.1, sv.2.2.2.2.2) mf mo mn ma kv tv)) (by decide +kernel) rfl ⟨inB_use h_1008, inB_use h_1009, trivial⟩ ?_
        obtain rfl := Option.some.inj hf
        exact m_iret K (by decide +kernel) (Nat.zero_le _) (Nat.zero_le _) ⟨rfl, rfl⟩
    · refine m_jF M (i := .if_icmp .eq 18) 32 (by decide +kernel) rfl (by decide) c_1004 ?_
      refine m_run M (is := [(17, .aload_n 0, 0), (18, .iload_n 2, 0)]) (pc' := 19) (L' := [some (.ref 0), some (.int a0), some (.int a1)]) (st' := [.int a1, .ref 0]) (w' := (cM 0 sp tk sv mf mo mn ma kv tv)) (by decide +kernel) rfl trivial ?_
      obtain ⟨r1010, h_1010, hf⟩ := bnd_s hf
      refine m_cV0 M (rest := []) (w2 := (cM 0 sp tk sv mf mo mn ma kv tv)) (st2 := [.int r1010]) (run_X4_isLaw a1   sp tk sv mf mo mn ma kv tv h_1010) cv_X4_isLaw lk_X4_96 (by decide +kernel) (List.range 26) List.nodup_range ⟨(by rw [List.length_range]; exact Nat.le_refl _), Nat.le_of_ble_eq_true rfl⟩ (hwId rfl) rfl rfl (Nat.le_of_ble_eq_true rfl) ⟨by decide, by decide⟩ rfl rfl ⟨Nat.zero_le _, Nat.zero_le _⟩ (hpId rfl rfl) rfl ?_
      rcases ite_s hf with ⟨c_1011, hf⟩ | ⟨c_1011, hf⟩
      · refine m_jF M (i := .ifCond .ne 10) 32 (by decide +kernel) rfl (by decide) (fun n => n c_1011) ?_
        refine m_run M (is := [(25, .aload_n 0, 0), (26, .bipush (-2), -2)]) (pc' := 28) (L' := [some (.ref 0), some (.int a0), some (.int a1)]) (st' := [.int (-2), .ref 0]) (w' := (cM 0 sp tk sv mf mo mn ma kv tv)) (by decide +kernel) rfl trivial ?_
        obtain ⟨r1012, h_1012, hf⟩ := bnd_s hf
        refine m_cV0 M (rest := []) (w2 := (cM 0 sp tk sv r1012.2 mo mn ma kv tv)) (st2 := [.int r1012.1]) (run_X4_refuse (-2)   sp tk sv mf mo mn ma kv tv h_1012) cv_X4_refuse lk_X4_85 (by decide +kernel) (List.range 26) List.nodup_range ⟨(by rw [List.length_range]; exact Nat.le_refl _), Nat.le_of_ble_eq_true rfl⟩ (hwId rfl) rfl rfl (Nat.le_of_ble_eq_true rfl) ⟨by decide, by decide⟩ rfl rfl ⟨Nat.zero_le _, Nat.zero_le _⟩ (hpId rfl rfl) rfl ?_
        obtain rfl := Option.some.inj hf
        exact m_iret K (by decide +kernel) (Nat.zero_le _) (Nat.zero_le _) ⟨rfl, rfl⟩
      · refine m_jT M (i := .ifCond .ne 10) 32 (by decide +kernel) rfl (by decide) c_1011 ?_
        refine m_run M (is := [(32, .aload_n 0, 0), (33, .getfield 7, 0), (36, .iload_n 1, 0), (37, .iload_n 2, 0), (38, .iconst (-1), -1)]) (pc' := 39) (L' := [some (.ref 0), some (.int a0), some (.int a1)]) (st' := [.int (-1), .int a1, .int a0, .ref 1]) (w' := (cM 0 sp tk sv mf mo mn ma kv tv)) (by decide +kernel) rfl trivial ?_
        rcases ite_s hf with ⟨c_1013, hf⟩ | ⟨c_1013, hf⟩
        · refine m_jF M (i := .if_icmp .ne 7) 46 (by decide +kernel) rfl (by decide) (fun n => n c_1013) ?_
          obtain ⟨h_1014, hf⟩ := grd_s hf
          obtain ⟨h_1015, hf⟩ := grd_s hf
          refine m_run M (is := [(42, .iconst 0, 0), (43, .goto 4, 0), (47, .iastore, 0), (48, .aload_n 0, 0), (49, .getfield 28, 0), (52, .iload_n 1, 0), (53, .iload_n 2, 0), (54, .iastore, 0), (55, .iconst 1, 1)]) (pc' := 56) (L' := [some (.ref 0), some (.int a0), some (.int a1)]) (st' := [.int 1]) (w' := (cM 0 sp tk ((upd sv.1 a0.toNatClampNeg 0), sv.2.1, sv.2.2.1, (upd sv.2.2.2.1 a0.toNatClampNeg a1), sv.2.2.2.2.1, sv.2.2.2.2.2) mf mo mn ma kv tv)) (by decide +kernel) rfl ⟨inB_use h_1014, inB_use h_1015, trivial⟩ ?_
          obtain rfl := Option.some.inj hf
          exact m_iret K (by decide +kernel) (Nat.zero_le _) (Nat.zero_le _) ⟨rfl, rfl⟩
        · refine m_jT M (i := .if_icmp .ne 7) 46 (by decide +kernel) rfl (by decide) c_1013 ?_
          obtain ⟨h_1016, hf⟩ := grd_s hf
          obtain ⟨h_1017, hf⟩ := grd_s hf
          refine m_run M (is := [(46, .iconst 2, 2), (47, .iastore, 0), (48, .aload_n 0, 0), (49, .getfield 28, 0), (52, .iload_n 1, 0), (53, .iload_n 2, 0), (54, .iastore, 0), (55, .iconst 1, 1)]) (pc' := 56) (L' := [some (.ref 0), some (.int a0), some (.int a1)]) (st' := [.int 1]) (w' := (cM 0 sp tk ((upd sv.1 a0.toNatClampNeg 2), sv.2.1, sv.2.2.1, (upd sv.2.2.2.1 a0.toNatClampNeg a1), sv.2.2.2.2.1, sv.2.2.2.2.2) mf mo mn ma kv tv)) (by decide +kernel) rfl ⟨inB_use h_1016, inB_use h_1017, trivial⟩ ?_
          obtain rfl := Option.some.inj hf
          exact m_iret K (by decide +kernel) (Nat.zero_le _) (Nat.zero_le _) ⟨rfl, rfl⟩

def f_X4_backBy (a0 : Int32) (a1 : Int32) (a2 : Int32) (sp : ShT) : Option (Int32) :=
  if inB a0 6 then
  if (sp.2.2.2.1 a0.toNatClampNeg) = 1 then
    if inB a1 16 then
    if (sp.2.2.2.2.2.1 - 1) ≤ (sp.2.2.1 a1.toNatClampNeg) then
      some (sp.2.2.2.2.2.1 - 1)
    else
      some (sp.2.2.1 a1.toNatClampNeg)
    else none
  else
    if (sp.2.2.2.1 a0.toNatClampNeg) = 2 then
      if (sp.2.2.2.2.2.1 - 1) ≤ a2 then
        some (sp.2.2.2.2.2.1 - 1)
      else
        some a2
    else
      if (sp.2.2.2.1 a0.toNatClampNeg) = 3 then
        if inB a1 16 then
        if (sp.2.2.2.2.2.1 - 1) ≤ (sp.2.2.1 a1.toNatClampNeg) then
          some (sp.2.2.2.2.2.1 - 1)
        else
          some (sp.2.2.1 a1.toNatClampNeg)
        else none
      else
        if (sp.2.2.2.1 a0.toNatClampNeg) = 4 then
          if inB a0 6 then
          if (sp.2.2.2.2.2.1 - 1) ≤ (a2 + (sp.2.2.2.2.1 a0.toNatClampNeg)) then
            some (sp.2.2.2.2.2.1 - 1)
          else
            some (a2 + (sp.2.2.2.2.1 a0.toNatClampNeg))
          else none
        else
          if (sp.2.2.2.1 a0.toNatClampNeg) = 5 then
            if (sp.2.2.2.2.2.1 - 1) ≤ (sp.2.2.2.2.2.1 - 1) then
              some (sp.2.2.2.2.2.1 - 1)
            else
              some (sp.2.2.2.2.2.1 - 1)
          else
            if inB a0 6 then
            if (sp.2.2.2.2.2.1 - 1) ≤ (sp.2.2.2.2.1 a0.toNatClampNeg) then
              some (sp.2.2.2.2.2.1 - 1)
            else
              some (sp.2.2.2.2.1 a0.toNatClampNeg)
            else none
  else none
set_option maxRecDepth 100000 in
set_option maxHeartbeats 4000000 in
theorem run_X4_backBy {l : Launch} {D : va_G} {cT : Nat → ClassId} (a0 : Int32) (a1 : Int32) (a2 : Int32)   (sp : ShT) (tk : TkT) (sv : SvT) (mf : AI) (mo : AI) (mn : AI) (ma : AI) (kv : Value) (tv : Value) {r : Int32} (hf : f_X4_backBy a0 a1 a2 sp = some r) : Runs l D cT yX4_backBy cX4_backBy 6 (some .int) 0 0 [.ref 0, .int a0, .int a1, .int a2] (cM 0 sp tk sv mf mo mn ma kv tv) (EQ (some (.int r)) (cM 0 sp tk sv mf mo mn ma kv tv)) := by
  refine runs_of O_X4 okO_X4 (by decide +kernel) rfl rfl (Nat.le_of_ble_eq_true rfl) (Nat.le_of_ble_eq_true rfl) (fun g K => ?_)
  have M := K.b
  show g 0 0 (cM 0 sp tk sv mf mo mn ma kv tv) 0 [some (.ref 0), some (.int a0), some (.int a1), some (.int a2), none, none] []
  rw [f_X4_backBy] at hf
  obtain ⟨h_1001, hf⟩ := grd_s hf
  refine m_run M (is := [(0, .aload_n 0, 0), (1, .getfield 69, 0), (4, .iconst 1, 1), (5, .isub, 0), (6, .istore 4, 0), (8, .aload_n 0, 0), (9, .getfield 46, 0), (12, .iload_n 1, 0), (13, .iaload, 0)]) (pc' := 14) (L' := [some (.ref 0), some (.int a0), some (.int a1), some (.int a2), some (.int (sp.2.2.2.2.2.1 - 1)), none]) (st' := [.int (sp.2.2.2.1 a0.toNatClampNeg)]) (w' := (cM 0 sp tk sv mf mo mn ma kv tv)) (by decide +kernel) rfl ⟨inB_use h_1001, trivial⟩ ?_
  rcases ite_s hf with ⟨c_1002, hf⟩ | ⟨c_1002, hf⟩
  · refine m_tsI M (dflt := 71) (t0 := 1) (t1 := 5) (offs := #[34, 45, 34, 51, 64]) (len := 34) (tgt := 48) 0 (by decide +kernel) (by rw [c_1002]; rfl) (by decide) rfl (by decide) ?_
    obtain ⟨h_1003, hf⟩ := grd_s hf
    refine m_run M (is := [(48, .aload_n 0, 0), (49, .getfield 43, 0), (52, .iload_n 2, 0), (53, .iaload, 0), (54, .istore 5, 0), (56, .goto 37, 0), (93, .iload 5, 0), (95, .iload 4, 0)]) (pc' := 97) (L' := [some (.ref 0), some (.int a0), some (.int a1), some (.int a2), some (.int (sp.2.2.2.2.2.1 - 1)), some (.int (sp.2.2.1 a1.toNatClampNeg))]) (st' := [.int (sp.2.2.2.2.2.1 - 1), .int (sp.2.2.1 a1.toNatClampNeg)]) (w' := (cM 0 sp tk sv mf mo mn ma kv tv)) (by decide +kernel) rfl ⟨inB_use h_1003, trivial⟩ ?_
    rcases ite_s hf with ⟨c_1004, hf⟩ | ⟨c_1004, hf⟩
    · refine m_jT M (i := .if_icmp .ge 8) 105 (by decide +kernel) rfl (by decide) c_1004 ?_
      refine m_run M (is := [(105, .iload 4, 0)]) (pc' := 107) (L' := [some (.ref 0), some (.int a0), some (.int a1), some (.int a2), some (.int (sp.2.2.2.2.2.1 - 1)), some (.int (sp.2.2.1 a1.toNatClampNeg))]) (st' := [.int (sp.2.2.2.2.2.1 - 1)]) (w' := (cM 0 sp tk sv mf mo mn ma kv tv)) (by decide +kernel) rfl trivial ?_
      obtain rfl := Option.some.inj hf
      exact m_iret K (by decide +kernel) (Nat.zero_le _) (Nat.zero_le _) ⟨rfl, rfl⟩
    · refine m_jF M (i := .if_icmp .ge 8) 105 (by decide +kernel) rfl (by decide) c_1004 ?_
      refine m_run M (is := [(100, .iload 5, 0), (102, .goto 5, 0)]) (pc' := 107) (L' := [some (.ref 0), some (.int a0), some (.int a1), some (.int a2), some (.int (sp.2.2.2.2.2.1 - 1)), some (.int (sp.2.2.1 a1.toNatClampNeg))]) (st' := [.int (sp.2.2.1 a1.toNatClampNeg)]) (w' := (cM 0 sp tk sv mf mo mn ma kv tv)) (by decide +kernel) rfl trivial ?_
      obtain rfl := Option.some.inj hf
      exact m_iret K (by decide +kernel) (Nat.zero_le _) (Nat.zero_le _) ⟨rfl, rfl⟩
  · rcases ite_s hf with ⟨c_1005, hf⟩ | ⟨c_1005, hf⟩
    · refine m_tsI M (dflt := 71) (t0 := 1) (t1 := 5) (offs := #[34, 45, 34, 51, 64]) (len := 34) (tgt := 59) 1 (by decide +kernel) (by rw [c_1005]; rfl) (by decide) rfl (by decide) ?_
      refine m_run M (is := [(59, .iload_n 3, 0), (60, .istore 5, 0), (62, .goto 31, 0), (93, .iload 5, 0), (95, .iload 4, 0)]) (pc' := 97) (L' := [some (.ref 0), some (.int a0), some (.int a1), some (.int a2), some (.int (sp.2.2.2.2.2.1 - 1)), some (.int a2)]) (st' := [.int (sp.2.2.2.2.2.1 - 1), .int a2]) (w' := (cM 0 sp tk sv mf mo mn ma kv tv)) (by decide +kernel) rfl trivial ?_
      rcases ite_s hf with ⟨c_1006, hf⟩ | ⟨c_1006, hf⟩
      · refine m_jT M (i := .if_icmp .ge 8) 105 (by decide +kernel) rfl (by decide) c_1006 ?_
        refine m_run M (is := [(105, .iload 4, 0)]) (pc' := 107) (L' := [some (.ref 0), some (.int a0), some (.int a1), some (.int a2), some (.int (sp.2.2.2.2.2.1 - 1)), some (.int a2)]) (st' := [.int (sp.2.2.2.2.2.1 - 1)]) (w' := (cM 0 sp tk sv mf mo mn ma kv tv)) (by decide +kernel) rfl trivial ?_
        obtain rfl := Option.some.inj hf
        exact m_iret K (by decide +kernel) (Nat.zero_le _) (Nat.zero_le _) ⟨rfl, rfl⟩
      · refine m_jF M (i := .if_icmp .ge 8) 105 (by decide +kernel) rfl (by decide) c_1006 ?_
        refine m_run M (is := [(100, .iload 5, 0), (102, .goto 5, 0)]) (pc' := 107) (L' := [some (.ref 0), some (.int a0), some (.int a1), some (.int a2), some (.int (sp.2.2.2.2.2.1 - 1)), some (.int a2)]) (st' := [.int a2]) (w' := (cM 0 sp tk sv mf mo mn ma kv tv)) (by decide +kernel) rfl trivial ?_
        obtain rfl := Option.some.inj hf
        exact m_iret K (by decide +kernel) (Nat.zero_le _) (Nat.zero_le _) ⟨rfl, rfl⟩
    · rcases ite_s hf with ⟨c_1007, hf⟩ | ⟨c_1007, hf⟩
      · refine m_tsI M (dflt := 71) (t0 := 1) (t1 := 5) (offs := #[34, 45, 34, 51, 64]) (len := 34) (tgt := 48) 2 (by decide +kernel) (by rw [c_1007]; rfl) (by decide) rfl (by decide) ?_
        obtain ⟨h_1008, hf⟩ := grd_s hf
        refine m_run M (is := [(48, .aload_n 0, 0), (49, .getfield 43, 0), (52, .iload_n 2, 0), (53, .iaload, 0), (54, .istore 5, 0), (56, .goto 37, 0), (93, .iload 5, 0), (95, .iload 4, 0)]) (pc' := 97) (L' := [some (.ref 0), some (.int a0), some (.int a1), some (.int a2), some (.int (sp.2.2.2.2.2.1 - 1)), some (.int (sp.2.2.1 a1.toNatClampNeg))]) (st' := [.int (sp.2.2.2.2.2.1 - 1), .int (sp.2.2.1 a1.toNatClampNeg)]) (w' := (cM 0 sp tk sv mf mo mn ma kv tv)) (by decide +kernel) rfl ⟨inB_use h_1008, trivial⟩ ?_
        rcases ite_s hf with ⟨c_1009, hf⟩ | ⟨c_1009, hf⟩
        · refine m_jT M (i := .if_icmp .ge 8) 105 (by decide +kernel) rfl (by decide) c_1009 ?_
          refine m_run M (is := [(105, .iload 4, 0)]) (pc' := 107) (L' := [some (.ref 0), some (.int a0), some (.int a1), some (.int a2), some (.int (sp.2.2.2.2.2.1 - 1)), some (.int (sp.2.2.1 a1.toNatClampNeg))]) (st' := [.int (sp.2.2.2.2.2.1 - 1)]) (w' := (cM 0 sp tk sv mf mo mn ma kv tv)) (by decide +kernel) rfl trivial ?_
          obtain rfl := Option.some.inj hf
          exact m_iret K (by decide +kernel) (Nat.zero_le _) (Nat.zero_le _) ⟨rfl, rfl⟩
        · refine m_jF M (i := .if_icmp .ge 8) 105 (by decide +kernel) rfl (by decide) c_1009 ?_
          refine m_run M (is := [(100, .iload 5, 0), (102, .goto 5, 0)]) (pc' := 107) (L' := [some (.ref 0), some (.int a0), some (.int a1), some (.int a2), some (.int (sp.2.2.2.2.2.1 - 1)), some (.int (sp.2.2.1 a1.toNatClampNeg))]) (st' := [.int (sp.2.2.1 a1.toNatClampNeg)]) (w' := (cM 0 sp tk sv mf mo mn ma kv tv)) (by decide +kernel) rfl trivial ?_
          obtain rfl := Option.some.inj hf
          exact m_iret K (by decide +kernel) (Nat.zero_le _) (Nat.zero_le _) ⟨rfl, rfl⟩
      · rcases ite_s hf with ⟨c_1010, hf⟩ | ⟨c_1010, hf⟩
        · refine m_tsI M (dflt := 71) (t0 := 1) (t1 := 5) (offs := #[34, 45, 34, 51, 64]) (len := 34) (tgt := 65) 3 (by decide +kernel) (by rw [c_1010]; rfl) (by decide) rfl (by decide) ?_
          obtain ⟨h_1011, hf⟩ := grd_s hf
          refine m_run M (is := [(65, .iload_n 3, 0), (66, .aload_n 0, 0), (67, .getfield 49, 0), (70, .iload_n 1, 0), (71, .iaload, 0), (72, .iadd, 0), (73, .istore 5, 0), (75, .goto 18, 0), (93, .iload 5, 0), (95, .iload 4, 0)]) (pc' := 97) (L' := [some (.ref 0), some (.int a0), some (.int a1), some (.int a2), some (.int (sp.2.2.2.2.2.1 - 1)), some (.int (a2 + (sp.2.2.2.2.1 a0.toNatClampNeg)))]) (st' := [.int (sp.2.2.2.2.2.1 - 1), .int (a2 + (sp.2.2.2.2.1 a0.toNatClampNeg))]) (w' := (cM 0 sp tk sv mf mo mn ma kv tv)) (by decide +kernel) rfl ⟨inB_use h_1011, trivial⟩ ?_
          rcases ite_s hf with ⟨c_1012, hf⟩ | ⟨c_1012, hf⟩
          · refine m_jT M (i := .if_icmp .ge 8) 105 (by decide +kernel) rfl (by decide) c_1012 ?_
            refine m_run M (is := [(105, .iload 4, 0)]) (pc' := 107) (L' := [some (.ref 0), some (.int a0), some (.int a1), some (.int a2), some (.int (sp.2.2.2.2.2.1 - 1)), some (.int (a2 + (sp.2.2.2.2.1 a0.toNatClampNeg)))]) (st' := [.int (sp.2.2.2.2.2.1 - 1)]) (w' := (cM 0 sp tk sv mf mo mn ma kv tv)) (by decide +kernel) rfl trivial ?_
            obtain rfl := Option.some.inj hf
            exact m_iret K (by decide +kernel) (Nat.zero_le _) (Nat.zero_le _) ⟨rfl, rfl⟩
          · refine m_jF M (i := .if_icmp .ge 8) 105 (by decide +kernel) rfl (by decide) c_1012 ?_
            refine m_run M (is := [(100, .iload 5, 0), (102, .goto 5, 0)]) (pc' := 107) (L' := [some (.ref 0), some (.int a0), some (.int a1), some (.int a2), some (.int (sp.2.2.2.2.2.1 - 1)), some (.int (a2 + (sp.2.2.2.2.1 a0.toNatClampNeg)))]) (st' := [.int (a2 + (sp.2.2.2.2.1 a0.toNatClampNeg))]) (w' := (cM 0 sp tk sv mf mo mn ma kv tv)) (by decide +kernel) rfl trivial ?_
            obtain rfl := Option.some.inj hf
            exact m_iret K (by decide +kernel) (Nat.zero_le _) (Nat.zero_le _) ⟨rfl, rfl⟩
        · rcases ite_s hf with ⟨c_1013, hf⟩ | ⟨c_1013, hf⟩
          · refine m_tsI M (dflt := 71) (t0 := 1) (t1 := 5) (offs := #[34, 45, 34, 51, 64]) (len := 34) (tgt := 78) 4 (by decide +kernel) (by rw [c_1013]; rfl) (by decide) rfl (by decide) ?_
            refine m_run M (is := [(78, .iload 4, 0), (80, .istore 5, 0), (82, .goto 11, 0), (93, .iload 5, 0), (95, .iload 4, 0)]) (pc' := 97) (L' := [some (.ref 0), some (.int a0), some (.int a1), some (.int a2), some (.int (sp.2.2.2.2.2.1 - 1)), some (.int (sp.2.2.2.2.2.1 - 1))]) (st' := [.int (sp.2.2.2.2.2.1 - 1), .int (sp.2.2.2.2.2.1 - 1)]) (w' := (cM 0 sp tk sv mf mo mn ma kv tv)) (by decide +kernel) rfl trivial ?_
            rcases ite_s hf with ⟨c_1014, hf⟩ | ⟨c_1014, hf⟩
            · refine m_jT M (i := .if_icmp .ge 8) 105 (by decide +kernel) rfl (by decide) c_1014 ?_
              refine m_run M (is := [(105, .iload 4, 0)]) (pc' := 107) (L' := [some (.ref 0), some (.int a0), some (.int a1), some (.int a2), some (.int (sp.2.2.2.2.2.1 - 1)), some (.int (sp.2.2.2.2.2.1 - 1))]) (st' := [.int (sp.2.2.2.2.2.1 - 1)]) (w' := (cM 0 sp tk sv mf mo mn ma kv tv)) (by decide +kernel) rfl trivial ?_
              obtain rfl := Option.some.inj hf
              exact m_iret K (by decide +kernel) (Nat.zero_le _) (Nat.zero_le _) ⟨rfl, rfl⟩
            · refine m_jF M (i := .if_icmp .ge 8) 105 (by decide +kernel) rfl (by decide) c_1014 ?_
              refine m_run M (is := [(100, .iload 5, 0), (102, .goto 5, 0)]) (pc' := 107) (L' := [some (.ref 0), some (.int a0), some (.int a1), some (.int a2), some (.int (sp.2.2.2.2.2.1 - 1)), some (.int (sp.2.2.2.2.2.1 - 1))]) (st' := [.int (sp.2.2.2.2.2.1 - 1)]) (w' := (cM 0 sp tk sv mf mo mn ma kv tv)) (by decide +kernel) rfl trivial ?_
              obtain rfl := Option.some.inj hf
              exact m_iret K (by decide +kernel) (Nat.zero_le _) (Nat.zero_le _) ⟨rfl, rfl⟩
          · refine m_tsO M (dflt := 71) (t0 := 1) (t1 := 5) (offs := #[34, 45, 34, 51, 64]) (len := 34) (tgt := 85) (by decide +kernel) (ts_one5 c_1002 c_1005 c_1007 c_1010 c_1013) (by decide) ?_
            obtain ⟨h_1015, hf⟩ := grd_s hf
            refine m_run M (is := [(85, .aload_n 0, 0), (86, .getfield 49, 0), (89, .iload_n 1, 0), (90, .iaload, 0), (91, .istore 5, 0), (93, .iload 5, 0), (95, .iload 4, 0)]) (pc' := 97) (L' := [some (.ref 0), some (.int a0), some (.int a1), some (.int a2), some (.int (sp.2.2.2.2.2.1 - 1)), some (.int (sp.2.2.2.2.1 a0.toNatClampNeg))]) (st' := [.int (sp.2.2.2.2.2.1 - 1), .int (sp.2.2.2.2.1 a0.toNatClampNeg)]) (w' := (cM 0 sp tk sv mf mo mn ma kv tv)) (by decide +kernel) rfl ⟨inB_use h_1015, trivial⟩ ?_
            rcases ite_s hf with ⟨c_1016, hf⟩ | ⟨c_1016, hf⟩
            · refine m_jT M (i := .if_icmp .ge 8) 105 (by decide +kernel) rfl (by decide) c_1016 ?_
              refine m_run M (is := [(105, .iload 4, 0)]) (pc' := 107) (L' := [some (.ref 0), some (.int a0), some (.int a1), some (.int a2), some (.int (sp.2.2.2.2.2.1 - 1)), some (.int (sp.2.2.2.2.1 a0.toNatClampNeg))]) (st' := [.int (sp.2.2.2.2.2.1 - 1)]) (w' := (cM 0 sp tk sv mf mo mn ma kv tv)) (by decide +kernel) rfl trivial ?_
              obtain rfl := Option.some.inj hf
              exact m_iret K (by decide +kernel) (Nat.zero_le _) (Nat.zero_le _) ⟨rfl, rfl⟩
            · refine m_jF M (i := .if_icmp .ge 8) 105 (by decide +kernel) rfl (by decide) c_1016 ?_
              refine m_run M (is := [(100, .iload 5, 0), (102, .goto 5, 0)]) (pc' := 107) (L' := [some (.ref 0), some (.int a0), some (.int a1), some (.int a2), some (.int (sp.2.2.2.2.2.1 - 1)), some (.int (sp.2.2.2.2.1 a0.toNatClampNeg))]) (st' := [.int (sp.2.2.2.2.1 a0.toNatClampNeg)]) (w' := (cM 0 sp tk sv mf mo mn ma kv tv)) (by decide +kernel) rfl trivial ?_
              obtain rfl := Option.some.inj hf
              exact m_iret K (by decide +kernel) (Nat.zero_le _) (Nat.zero_le _) ⟨rfl, rfl⟩

def f_X4_lastBy (a0 : Int32) (a1 : Int32) (sp : ShT) : Option (Int32) :=
  if inB a0 6 then
  if (sp.2.2.2.1 a0.toNatClampNeg) = 3 then
    if inB a1 16 then
    if (sp.2.2.1 a1.toNatClampNeg) < (sp.2.2.2.2.2.1 - 1) then
      if inB a0 6 then
      if (sp.2.2.2.1 a0.toNatClampNeg) = 3 then
        if inB a1 16 then
        if 99 ≤ (2 * (sp.2.2.1 a1.toNatClampNeg)) then
          some 99
        else
          some (2 * (sp.2.2.1 a1.toNatClampNeg))
        else none
      else
        if inB a0 6 then
        if (sp.2.2.2.1 a0.toNatClampNeg) = 1 then
          if inB a1 16 then
          if 99 ≤ (2 * (sp.2.2.1 a1.toNatClampNeg)) then
            some 99
          else
            some (2 * (sp.2.2.1 a1.toNatClampNeg))
          else none
        else
          if inB a1 16 then
          if 99 ≤ (sp.2.2.1 a1.toNatClampNeg) then
            some 99
          else
            some (sp.2.2.1 a1.toNatClampNeg)
          else none
        else none
      else none
    else
      some 1
    else none
  else
    if inB a0 6 then
    if (sp.2.2.2.1 a0.toNatClampNeg) = 3 then
      if inB a1 16 then
      if 99 ≤ (2 * (sp.2.2.1 a1.toNatClampNeg)) then
        some 99
      else
        some (2 * (sp.2.2.1 a1.toNatClampNeg))
      else none
    else
      if inB a0 6 then
      if (sp.2.2.2.1 a0.toNatClampNeg) = 1 then
        if inB a1 16 then
        if 99 ≤ (2 * (sp.2.2.1 a1.toNatClampNeg)) then
          some 99
        else
          some (2 * (sp.2.2.1 a1.toNatClampNeg))
        else none
      else
        if inB a1 16 then
        if 99 ≤ (sp.2.2.1 a1.toNatClampNeg) then
          some 99
        else
          some (sp.2.2.1 a1.toNatClampNeg)
        else none
      else none
    else none
  else none
set_option maxRecDepth 100000 in
set_option maxHeartbeats 4000000 in
theorem run_X4_lastBy {l : Launch} {D : va_G} {cT : Nat → ClassId} (a0 : Int32) (a1 : Int32)   (sp : ShT) (tk : TkT) (sv : SvT) (mf : AI) (mo : AI) (mn : AI) (ma : AI) (kv : Value) (tv : Value) {r : Int32} (hf : f_X4_lastBy a0 a1 sp = some r) : Runs l D cT yX4_lastBy cX4_lastBy 5 (some .int) 0 0 [.ref 0, .int a0, .int a1] (cM 0 sp tk sv mf mo mn ma kv tv) (EQ (some (.int r)) (cM 0 sp tk sv mf mo mn ma kv tv)) := by
  refine runs_of O_X4 okO_X4 (by decide +kernel) rfl rfl (Nat.le_of_ble_eq_true rfl) (Nat.le_of_ble_eq_true rfl) (fun g K => ?_)
  have M := K.b
  show g 0 0 (cM 0 sp tk sv mf mo mn ma kv tv) 0 [some (.ref 0), some (.int a0), some (.int a1), none, none] []
  rw [f_X4_lastBy] at hf
  obtain ⟨h_1001, hf⟩ := grd_s hf
  refine m_run M (is := [(0, .aload_n 0, 0), (1, .getfield 46, 0), (4, .iload_n 1, 0), (5, .iaload, 0), (6, .iconst 3, 3)]) (pc' := 7) (L' := [some (.ref 0), some (.int a0), some (.int a1), none, none]) (st' := [.int 3, .int (sp.2.2.2.1 a0.toNatClampNeg)]) (w' := (cM 0 sp tk sv mf mo mn ma kv tv)) (by decide +kernel) rfl ⟨inB_use h_1001, trivial⟩ ?_
  rcases ite_s hf with ⟨c_1002, hf⟩ | ⟨c_1002, hf⟩
  · refine m_jF M (i := .if_icmp .ne 20) 27 (by decide +kernel) rfl (by decide) (fun n => n c_1002) ?_
    obtain ⟨h_1003, hf⟩ := grd_s hf
    refine m_run M (is := [(10, .aload_n 0, 0), (11, .getfield 43, 0), (14, .iload_n 2, 0), (15, .iaload, 0), (16, .aload_n 0, 0), (17, .getfield 69, 0), (20, .iconst 1, 1), (21, .isub, 0)]) (pc' := 22) (L' := [some (.ref 0), some (.int a0), some (.int a1), none, none]) (st' := [.int (sp.2.2.2.2.2.1 - 1), .int (sp.2.2.1 a1.toNatClampNeg)]) (w' := (cM 0 sp tk sv mf mo mn ma kv tv)) (by decide +kernel) rfl ⟨inB_use h_1003, trivial⟩ ?_
    rcases ite_s hf with ⟨c_1004, hf⟩ | ⟨c_1004, hf⟩
    · refine m_jT M (i := .if_icmp .lt 5) 27 (by decide +kernel) rfl (by decide) c_1004 ?_
      obtain ⟨h_1005, hf⟩ := grd_s hf
      refine m_run M (is := [(27, .aload_n 0, 0), (28, .getfield 46, 0), (31, .iload_n 1, 0), (32, .iaload, 0), (33, .iconst 3, 3)]) (pc' := 34) (L' := [some (.ref 0), some (.int a0), some (.int a1), none, none]) (st' := [.int 3, .int (sp.2.2.2.1 a0.toNatClampNeg)]) (w' := (cM 0 sp tk sv mf mo mn ma kv tv)) (by decide +kernel) rfl ⟨inB_use h_1005, trivial⟩ ?_
      rcases ite_s hf with ⟨c_1006, hf⟩ | ⟨c_1006, hf⟩
      · refine m_jT M (i := .if_icmp .eq 13) 47 (by decide +kernel) rfl (by decide) c_1006 ?_
        refine m_run M (is := [(47, .iconst 1, 1), (48, .goto 4, 0), (52, .istore_n 3, 0), (53, .iload_n 3, 0)]) (pc' := 54) (L' := [some (.ref 0), some (.int a0), some (.int a1), some (.int 1), none]) (st' := [.int 1]) (w' := (cM 0 sp tk sv mf mo mn ma kv tv)) (by decide +kernel) rfl trivial ?_
        refine m_jF M (i := .ifCond .eq 14) 68 (by decide +kernel) rfl (by decide) (by decide) ?_
        obtain ⟨h_1008, hf⟩ := grd_s hf
        refine m_run M (is := [(57, .iconst 2, 2), (58, .aload_n 0, 0), (59, .getfield 43, 0), (62, .iload_n 2, 0), (63, .iaload, 0), (64, .imul, 0), (65, .goto 9, 0), (74, .istore 4, 0), (76, .iload 4, 0), (78, .bipush 99, 99)]) (pc' := 80) (L' := [some (.ref 0), some (.int a0), some (.int a1), some (.int 1), some (.int (2 * (sp.2.2.1 a1.toNatClampNeg)))]) (st' := [.int 99, .int (2 * (sp.2.2.1 a1.toNatClampNeg))]) (w' := (cM 0 sp tk sv mf mo mn ma kv tv)) (by decide +kernel) rfl ⟨inB_use h_1008, trivial⟩ ?_
        rcases ite_s hf with ⟨c_1009, hf⟩ | ⟨c_1009, hf⟩
        · refine m_jT M (i := .if_icmp .ge 8) 88 (by decide +kernel) rfl (by decide) c_1009 ?_
          refine m_run M (is := [(88, .bipush 99, 99)]) (pc' := 90) (L' := [some (.ref 0), some (.int a0), some (.int a1), some (.int 1), some (.int (2 * (sp.2.2.1 a1.toNatClampNeg)))]) (st' := [.int 99]) (w' := (cM 0 sp tk sv mf mo mn ma kv tv)) (by decide +kernel) rfl trivial ?_
          obtain rfl := Option.some.inj hf
          exact m_iret K (by decide +kernel) (Nat.zero_le _) (Nat.zero_le _) ⟨rfl, rfl⟩
        · refine m_jF M (i := .if_icmp .ge 8) 88 (by decide +kernel) rfl (by decide) c_1009 ?_
          refine m_run M (is := [(83, .iload 4, 0), (85, .goto 5, 0)]) (pc' := 90) (L' := [some (.ref 0), some (.int a0), some (.int a1), some (.int 1), some (.int (2 * (sp.2.2.1 a1.toNatClampNeg)))]) (st' := [.int (2 * (sp.2.2.1 a1.toNatClampNeg))]) (w' := (cM 0 sp tk sv mf mo mn ma kv tv)) (by decide +kernel) rfl trivial ?_
          obtain rfl := Option.some.inj hf
          exact m_iret K (by decide +kernel) (Nat.zero_le _) (Nat.zero_le _) ⟨rfl, rfl⟩
      · refine m_jF M (i := .if_icmp .eq 13) 47 (by decide +kernel) rfl (by decide) c_1006 ?_
        obtain ⟨h_1010, hf⟩ := grd_s hf
        refine m_run M (is := [(37, .aload_n 0, 0), (38, .getfield 46, 0), (41, .iload_n 1, 0), (42, .iaload, 0), (43, .iconst 1, 1)]) (pc' := 44) (L' := [some (.ref 0), some (.int a0), some (.int a1), none, none]) (st' := [.int 1, .int (sp.2.2.2.1 a0.toNatClampNeg)]) (w' := (cM 0 sp tk sv mf mo mn ma kv tv)) (by decide +kernel) rfl ⟨inB_use h_1010, trivial⟩ ?_
        rcases ite_s hf with ⟨c_1011, hf⟩ | ⟨c_1011, hf⟩
        · refine m_jF M (i := .if_icmp .ne 7) 51 (by decide +kernel) rfl (by decide) (fun n => n c_1011) ?_
          refine m_run M (is := [(47, .iconst 1, 1), (48, .goto 4, 0), (52, .istore_n 3, 0), (53, .iload_n 3, 0)]) (pc' := 54) (L' := [some (.ref 0), some (.int a0), some (.int a1), some (.int 1), none]) (st' := [.int 1]) (w' := (cM 0 sp tk sv mf mo mn ma kv tv)) (by decide +kernel) rfl trivial ?_
          refine m_jF M (i := .ifCond .eq 14) 68 (by decide +kernel) rfl (by decide) (by decide) ?_
          obtain ⟨h_1013, hf⟩ := grd_s hf
          refine m_run M (is := [(57, .iconst 2, 2), (58, .aload_n 0, 0), (59, .getfield 43, 0), (62, .iload_n 2, 0), (63, .iaload, 0), (64, .imul, 0), (65, .goto 9, 0), (74, .istore 4, 0), (76, .iload 4, 0), (78, .bipush 99, 99)]) (pc' := 80) (L' := [some (.ref 0), some (.int a0), some (.int a1), some (.int 1), some (.int (2 * (sp.2.2.1 a1.toNatClampNeg)))]) (st' := [.int 99, .int (2 * (sp.2.2.1 a1.toNatClampNeg))]) (w' := (cM 0 sp tk sv mf mo mn ma kv tv)) (by decide +kernel) rfl ⟨inB_use h_1013, trivial⟩ ?_
          rcases ite_s hf with ⟨c_1014, hf⟩ | ⟨c_1014, hf⟩
          · refine m_jT M (i := .if_icmp .ge 8) 88 (by decide +kernel) rfl (by decide) c_1014 ?_
            refine m_run M (is := [(88, .bipush 99, 99)]) (pc' := 90) (L' := [some (.ref 0), some (.int a0), some (.int a1), some (.int 1), some (.int (2 * (sp.2.2.1 a1.toNatClampNeg)))]) (st' := [.int 99]) (w' := (cM 0 sp tk sv mf mo mn ma kv tv)) (by decide +kernel) rfl trivial ?_
            obtain rfl := Option.some.inj hf
            exact m_iret K (by decide +kernel) (Nat.zero_le _) (Nat.zero_le _) ⟨rfl, rfl⟩
          · refine m_jF M (i := .if_icmp .ge 8) 88 (by decide +kernel) rfl (by decide) c_1014 ?_
            refine m_run M (is := [(83, .iload 4, 0), (85, .goto 5, 0)]) (pc' := 90) (L' := [some (.ref 0), some (.int a0), some (.int a1), some (.int 1), some (.int (2 * (sp.2.2.1 a1.toNatClampNeg)))]) (st' := [.int (2 * (sp.2.2.1 a1.toNatClampNeg))]) (w' := (cM 0 sp tk sv mf mo mn ma kv tv)) (by decide +kernel) rfl trivial ?_
            obtain rfl := Option.some.inj hf
            exact m_iret K (by decide +kernel) (Nat.zero_le _) (Nat.zero_le _) ⟨rfl, rfl⟩
        · refine m_jT M (i := .if_icmp .ne 7) 51 (by decide +kernel) rfl (by decide) c_1011 ?_
          refine m_run M (is := [(51, .iconst 0, 0), (52, .istore_n 3, 0), (53, .iload_n 3, 0)]) (pc' := 54) (L' := [some (.ref 0), some (.int a0), some (.int a1), some (.int 0), none]) (st' := [.int 0]) (w' := (cM 0 sp tk sv mf mo mn ma kv tv)) (by decide +kernel) rfl trivial ?_
          refine m_jT M (i := .ifCond .eq 14) 68 (by decide +kernel) rfl (by decide) (by decide) ?_
          obtain ⟨h_1016, hf⟩ := grd_s hf
          refine m_run M (is := [(68, .aload_n 0, 0), (69, .getfield 43, 0), (72, .iload_n 2, 0), (73, .iaload, 0), (74, .istore 4, 0), (76, .iload 4, 0), (78, .bipush 99, 99)]) (pc' := 80) (L' := [some (.ref 0), some (.int a0), some (.int a1), some (.int 0), some (.int (sp.2.2.1 a1.toNatClampNeg))]) (st' := [.int 99, .int (sp.2.2.1 a1.toNatClampNeg)]) (w' := (cM 0 sp tk sv mf mo mn ma kv tv)) (by decide +kernel) rfl ⟨inB_use h_1016, trivial⟩ ?_
          rcases ite_s hf with ⟨c_1017, hf⟩ | ⟨c_1017, hf⟩
          · refine m_jT M (i := .if_icmp .ge 8) 88 (by decide +kernel) rfl (by decide) c_1017 ?_
            refine m_run M (is := [(88, .bipush 99, 99)]) (pc' := 90) (L' := [some (.ref 0), some (.int a0), some (.int a1), some (.int 0), some (.int (sp.2.2.1 a1.toNatClampNeg))]) (st' := [.int 99]) (w' := (cM 0 sp tk sv mf mo mn ma kv tv)) (by decide +kernel) rfl trivial ?_
            obtain rfl := Option.some.inj hf
            exact m_iret K (by decide +kernel) (Nat.zero_le _) (Nat.zero_le _) ⟨rfl, rfl⟩
          · refine m_jF M (i := .if_icmp .ge 8) 88 (by decide +kernel) rfl (by decide) c_1017 ?_
            refine m_run M (is := [(83, .iload 4, 0), (85, .goto 5, 0)]) (pc' := 90) (L' := [some (.ref 0), some (.int a0), some (.int a1), some (.int 0), some (.int (sp.2.2.1 a1.toNatClampNeg))]) (st' := [.int (sp.2.2.1 a1.toNatClampNeg)]) (w' := (cM 0 sp tk sv mf mo mn ma kv tv)) (by decide +kernel) rfl trivial ?_
            obtain rfl := Option.some.inj hf
            exact m_iret K (by decide +kernel) (Nat.zero_le _) (Nat.zero_le _) ⟨rfl, rfl⟩
    · refine m_jF M (i := .if_icmp .lt 5) 27 (by decide +kernel) rfl (by decide) c_1004 ?_
      refine m_run M (is := [(25, .iconst 1, 1)]) (pc' := 26) (L' := [some (.ref 0), some (.int a0), some (.int a1), none, none]) (st' := [.int 1]) (w' := (cM 0 sp tk sv mf mo mn ma kv tv)) (by decide +kernel) rfl trivial ?_
      obtain rfl := Option.some.inj hf
      exact m_iret K (by decide +kernel) (Nat.zero_le _) (Nat.zero_le _) ⟨rfl, rfl⟩
  · refine m_jT M (i := .if_icmp .ne 20) 27 (by decide +kernel) rfl (by decide) c_1002 ?_
    obtain ⟨h_1018, hf⟩ := grd_s hf
    refine m_run M (is := [(27, .aload_n 0, 0), (28, .getfield 46, 0), (31, .iload_n 1, 0), (32, .iaload, 0), (33, .iconst 3, 3)]) (pc' := 34) (L' := [some (.ref 0), some (.int a0), some (.int a1), none, none]) (st' := [.int 3, .int (sp.2.2.2.1 a0.toNatClampNeg)]) (w' := (cM 0 sp tk sv mf mo mn ma kv tv)) (by decide +kernel) rfl ⟨inB_use h_1018, trivial⟩ ?_
    rcases ite_s hf with ⟨c_1019, hf⟩ | ⟨c_1019, hf⟩
    · refine m_jT M (i := .if_icmp .eq 13) 47 (by decide +kernel) rfl (by decide) c_1019 ?_
      refine m_run M (is := [(47, .iconst 1, 1), (48, .goto 4, 0), (52, .istore_n 3, 0), (53, .iload_n 3, 0)]) (pc' := 54) (L' := [some (.ref 0), some (.int a0), some (.int a1), some (.int 1), none]) (st' := [.int 1]) (w' := (cM 0 sp tk sv mf mo mn ma kv tv)) (by decide +kernel) rfl trivial ?_
      refine m_jF M (i := .ifCond .eq 14) 68 (by decide +kernel) rfl (by decide) (by decide) ?_
      obtain ⟨h_1021, hf⟩ := grd_s hf
      refine m_run M (is := [(57, .iconst 2, 2), (58, .aload_n 0, 0), (59, .getfield 43, 0), (62, .iload_n 2, 0), (63, .iaload, 0), (64, .imul, 0), (65, .goto 9, 0), (74, .istore 4, 0), (76, .iload 4, 0), (78, .bipush 99, 99)]) (pc' := 80) (L' := [some (.ref 0), some (.int a0), some (.int a1), some (.int 1), some (.int (2 * (sp.2.2.1 a1.toNatClampNeg)))]) (st' := [.int 99, .int (2 * (sp.2.2.1 a1.toNatClampNeg))]) (w' := (cM 0 sp tk sv mf mo mn ma kv tv)) (by decide +kernel) rfl ⟨inB_use h_1021, trivial⟩ ?_
      rcases ite_s hf with ⟨c_1022, hf⟩ | ⟨c_1022, hf⟩
      · refine m_jT M (i := .if_icmp .ge 8) 88 (by decide +kernel) rfl (by decide) c_1022 ?_
        refine m_run M (is := [(88, .bipush 99, 99)]) (pc' := 90) (L' := [some (.ref 0), some (.int a0), some (.int a1), some (.int 1), some (.int (2 * (sp.2.2.1 a1.toNatClampNeg)))]) (st' := [.int 99]) (w' := (cM 0 sp tk sv mf mo mn ma kv tv)) (by decide +kernel) rfl trivial ?_
        obtain rfl := Option.some.inj hf
        exact m_iret K (by decide +kernel) (Nat.zero_le _) (Nat.zero_le _) ⟨rfl, rfl⟩
      · refine m_jF M (i := .if_icmp .ge 8) 88 (by decide +kernel) rfl (by decide) c_1022 ?_
        refine m_run M (is := [(83, .iload 4, 0), (85, .goto 5, 0)]) (pc' := 90) (L' := [some (.ref 0), some (.int a0), some (.int a1), some (.int 1), some (.int (2 * (sp.2.2.1 a1.toNatClampNeg)))]) (st' := [.int (2 * (sp.2.2.1 a1.toNatClampNeg))]) (w' := (cM 0 sp tk sv mf mo mn ma kv tv)) (by decide +kernel) rfl trivial ?_
        obtain rfl := Option.some.inj hf
        exact m_iret K (by decide +kernel) (Nat.zero_le _) (Nat.zero_le _) ⟨rfl, rfl⟩
    · refine m_jF M (i := .if_icmp .eq 13) 47 (by decide +kernel) rfl (by decide) c_1019 ?_
      obtain ⟨h_1023, hf⟩ := grd_s hf
      refine m_run M (is := [(37, .aload_n 0, 0), (38, .getfield 46, 0), (41, .iload_n 1, 0), (42, .iaload, 0), (43, .iconst 1, 1)]) (pc' := 44) (L' := [some (.ref 0), some (.int a0), some (.int a1), none, none]) (st' := [.int 1, .int (sp.2.2.2.1 a0.toNatClampNeg)]) (w' := (cM 0 sp tk sv mf mo mn ma kv tv)) (by decide +kernel) rfl ⟨inB_use h_1023, trivial⟩ ?_
      rcases ite_s hf with ⟨c_1024, hf⟩ | ⟨c_1024, hf⟩
      · refine m_jF M (i := .if_icmp .ne 7) 51 (by decide +kernel) rfl (by decide) (fun n => n c_1024) ?_
        refine m_run M (is := [(47, .iconst 1, 1), (48, .goto 4, 0), (52, .istore_n 3, 0), (53, .iload_n 3, 0)]) (pc' := 54) (L' := [some (.ref 0), some (.int a0), some (.int a1), some (.int 1), none]) (st' := [.int 1]) (w' := (cM 0 sp tk sv mf mo mn ma kv tv)) (by decide +kernel) rfl trivial ?_
        refine m_jF M (i := .ifCond .eq 14) 68 (by decide +kernel) rfl (by decide) (by decide) ?_
        obtain ⟨h_1026, hf⟩ := grd_s hf
        refine m_run M (is := [(57, .iconst 2, 2), (58, .aload_n 0, 0), (59, .getfield 43, 0), (62, .iload_n 2, 0), (63, .iaload, 0), (64, .imul, 0), (65, .goto 9, 0), (74, .istore 4, 0), (76, .iload 4, 0), (78, .bipush 99, 99)]) (pc' := 80) (L' := [some (.ref 0), some (.int a0), some (.int a1), some (.int 1), some (.int (2 * (sp.2.2.1 a1.toNatClampNeg)))]) (st' := [.int 99, .int (2 * (sp.2.2.1 a1.toNatClampNeg))]) (w' := (cM 0 sp tk sv mf mo mn ma kv tv)) (by decide +kernel) rfl ⟨inB_use h_1026, trivial⟩ ?_
        rcases ite_s hf with ⟨c_1027, hf⟩ | ⟨c_1027, hf⟩
        · refine m_jT M (i := .if_icmp .ge 8) 88 (by decide +kernel) rfl (by decide) c_1027 ?_
          refine m_run M (is := [(88, .bipush 99, 99)]) (pc' := 90) (L' := [some (.ref 0), some (.int a0), some (.int a1), some (.int 1), some (.int (2 * (sp.2.2.1 a1.toNatClampNeg)))]) (st' := [.int 99]) (w' := (cM 0 sp tk sv mf mo mn ma kv tv)) (by decide +kernel) rfl trivial ?_
          obtain rfl := Option.some.inj hf
          exact m_iret K (by decide +kernel) (Nat.zero_le _) (Nat.zero_le _) ⟨rfl, rfl⟩
        · refine m_jF M (i := .if_icmp .ge 8) 88 (by decide +kernel) rfl (by decide) c_1027 ?_
          refine m_run M (is := [(83, .iload 4, 0), (85, .goto 5, 0)]) (pc' := 90) (L' := [some (.ref 0), some (.int a0), some (.int a1), some (.int 1), some (.int (2 * (sp.2.2.1 a1.toNatClampNeg)))]) (st' := [.int (2 * (sp.2.2.1 a1.toNatClampNeg))]) (w' := (cM 0 sp tk sv mf mo mn ma kv tv)) (by decide +kernel) rfl trivial ?_
          obtain rfl := Option.some.inj hf
          exact m_iret K (by decide +kernel) (Nat.zero_le _) (Nat.zero_le _) ⟨rfl, rfl⟩
      · refine m_jT M (i := .if_icmp .ne 7) 51 (by decide +kernel) rfl (by decide) c_1024 ?_
        refine m_run M (is := [(51, .iconst 0, 0), (52, .istore_n 3, 0), (53, .iload_n 3, 0)]) (pc' := 54) (L' := [some (.ref 0), some (.int a0), some (.int a1), some (.int 0), none]) (st' := [.int 0]) (w' := (cM 0 sp tk sv mf mo mn ma kv tv)) (by decide +kernel) rfl trivial ?_
        refine m_jT M (i := .ifCond .eq 14) 68 (by decide +kernel) rfl (by decide) (by decide) ?_
        obtain ⟨h_1029, hf⟩ := grd_s hf
        refine m_run M (is := [(68, .aload_n 0, 0), (69, .getfield 43, 0), (72, .iload_n 2, 0), (73, .iaload, 0), (74, .istore 4, 0), (76, .iload 4, 0), (78, .bipush 99, 99)]) (pc' := 80) (L' := [some (.ref 0), some (.int a0), some (.int a1), some (.int 0), some (.int (sp.2.2.1 a1.toNatClampNeg))]) (st' := [.int 99, .int (sp.2.2.1 a1.toNatClampNeg)]) (w' := (cM 0 sp tk sv mf mo mn ma kv tv)) (by decide +kernel) rfl ⟨inB_use h_1029, trivial⟩ ?_
        rcases ite_s hf with ⟨c_1030, hf⟩ | ⟨c_1030, hf⟩
        · refine m_jT M (i := .if_icmp .ge 8) 88 (by decide +kernel) rfl (by decide) c_1030 ?_
          refine m_run M (is := [(88, .bipush 99, 99)]) (pc' := 90) (L' := [some (.ref 0), some (.int a0), some (.int a1), some (.int 0), some (.int (sp.2.2.1 a1.toNatClampNeg))]) (st' := [.int 99]) (w' := (cM 0 sp tk sv mf mo mn ma kv tv)) (by decide +kernel) rfl trivial ?_
          obtain rfl := Option.some.inj hf
          exact m_iret K (by decide +kernel) (Nat.zero_le _) (Nat.zero_le _) ⟨rfl, rfl⟩
        · refine m_jF M (i := .if_icmp .ge 8) 88 (by decide +kernel) rfl (by decide) c_1030 ?_
          refine m_run M (is := [(83, .iload 4, 0), (85, .goto 5, 0)]) (pc' := 90) (L' := [some (.ref 0), some (.int a0), some (.int a1), some (.int 0), some (.int (sp.2.2.1 a1.toNatClampNeg))]) (st' := [.int (sp.2.2.1 a1.toNatClampNeg)]) (w' := (cM 0 sp tk sv mf mo mn ma kv tv)) (by decide +kernel) rfl trivial ?_
          obtain rfl := Option.some.inj hf
          exact m_iret K (by decide +kernel) (Nat.zero_le _) (Nat.zero_le _) ⟨rfl, rfl⟩

def f_X4_says (a0 : Int32) (a1 : Int32) (sp : ShT) (sv : SvT) (mf : AI) : Option (Int32 × AI) :=
  (f_X4_in ((a0).toInt64) 0 7).bind fun r1001 =>
  if r1001 = 0 then
    (f_X4_refuse (-2) mf).bind fun r1003 =>
    some (r1003.1, r1003.2)
  else
    (f_X4_in ((a1).toInt64) 0 5).bind fun r1004 =>
    if r1004 = 0 then
      (f_X4_refuse (-2) mf).bind fun r1006 =>
      some (r1006.1, r1006.2)
    else
      if inB a0 8 then
      if (sv.1 a0.toNatClampNeg) = 1 then
        (f_X4_refuse (-3) mf).bind fun r1009 =>
        some (r1009.1, r1009.2)
      else
        if inB a0 8 then
        if (sv.1 a0.toNatClampNeg) = 2 then
          if inB a0 8 then
          if inB (sv.2.2.2.1 a0.toNatClampNeg) 6 then
          (f_X4_isUnder (sp.2.2.2.1 (sv.2.2.2.1 a0.toNatClampNeg).toNatClampNeg) a1).bind fun r1014 =>
          if r1014 = 0 then
            (f_X4_refuse (-3) mf).bind fun r1016 =>
            some (r1016.1, r1016.2)
          else
            if inB a0 8 then
            if (sv.1 a0.toNatClampNeg) = 0 then
              (f_X4_refuse (-4) mf).bind fun r1019 =>
              some (r1019.1, r1019.2)
            else
              if inB a0 8 then
              if a1 = 0 then
                if inB (sv.2.2.2.1 a0.toNatClampNeg) 6 then
                some ((sp.2.2.2.2.1 (sv.2.2.2.1 a0.toNatClampNeg).toNatClampNeg), mf)
                else none
              else
                if sp.2.2.2.2.2.1 = 0 then
                  some ((-1), mf)
                else
                  if inB 0 16 then
                  if a1 = 3 then
                    (f_X4_lastBy (sv.2.2.2.1 a0.toNatClampNeg) (sp.1 (0 : Int32).toNatClampNeg) sp).bind fun r1026 =>
                    some (r1026, mf)
                  else
                    if inB (sp.1 (0 : Int32).toNatClampNeg) 16 then
                    (f_X4_backBy (sv.2.2.2.1 a0.toNatClampNeg) (sp.1 (0 : Int32).toNatClampNeg) ((sp.2.1 (sp.1 (0 : Int32).toNatClampNeg).toNatClampNeg) + 1) sp).bind fun r1028 =>
                    some (r1028, mf)
                    else none
                  else none
              else none
            else none
          else none
          else none
        else
          if inB a0 8 then
          if (sv.1 a0.toNatClampNeg) = 0 then
            (f_X4_refuse (-4) mf).bind fun r1031 =>
            some (r1031.1, r1031.2)
          else
            if inB a0 8 then
            if a1 = 0 then
              if inB (sv.2.2.2.1 a0.toNatClampNeg) 6 then
              some ((sp.2.2.2.2.1 (sv.2.2.2.1 a0.toNatClampNeg).toNatClampNeg), mf)
              else none
            else
              if sp.2.2.2.2.2.1 = 0 then
                some ((-1), mf)
              else
                if inB 0 16 then
                if a1 = 3 then
                  (f_X4_lastBy (sv.2.2.2.1 a0.toNatClampNeg) (sp.1 (0 : Int32).toNatClampNeg) sp).bind fun r1038 =>
                  some (r1038, mf)
                else
                  if inB (sp.1 (0 : Int32).toNatClampNeg) 16 then
                  (f_X4_backBy (sv.2.2.2.1 a0.toNatClampNeg) (sp.1 (0 : Int32).toNatClampNeg) ((sp.2.1 (sp.1 (0 : Int32).toNatClampNeg).toNatClampNeg) + 1) sp).bind fun r1040 =>
                  some (r1040, mf)
                  else none
                else none
            else none
          else none
        else none
      else none
set_option maxRecDepth 100000 in
set_option maxHeartbeats 4000000 in
theorem run_X4_says {l : Launch} {D : va_G} {cT : Nat → ClassId} (a0 : Int32) (a1 : Int32)   (sp : ShT) (tk : TkT) (sv : SvT) (mf : AI) (mo : AI) (mn : AI) (ma : AI) (kv : Value) (tv : Value) {r : Int32 × AI} (hf : f_X4_says a0 a1 sp sv mf = some r) : Runs l D cT yX4_says cX4_says 5 (some .int) 1 25 [.ref 0, .int a0, .int a1] (cM 0 sp tk sv mf mo mn ma kv tv) (EQ (some (.int r.1)) (cM 0 sp tk sv r.2 mo mn ma kv tv)) := by
  refine runs_of O_X4 okO_X4 (by decide +kernel) rfl rfl (Nat.le_of_ble_eq_true rfl) (Nat.le_of_ble_eq_true rfl) (fun g K => ?_)
  have M := K.b
  show g 0 0 (cM 0 sp tk sv mf mo mn ma kv tv) 0 [some (.ref 0), some (.int a0), some (.int a1), none, none] []
  rw [f_X4_says] at hf
  refine m_run M (is := [(0, .iload_n 1, 0), (1, .i2l, 0), (2, .lconst 0, 0), (3, .ldc2_w 79, 0)]) (pc' := 6) (L' := [some (.ref 0), some (.int a0), some (.int a1), none, none]) (st' := [.long 7, .long 0, .long ((a0).toInt64)]) (w' := (cM 0 sp tk sv mf mo mn ma kv tv)) (by decide +kernel) rfl trivial ?_
  obtain ⟨r1001, h_1001, hf⟩ := bnd_s hf
  refine m_cS0 M (rest := []) (w2 := (cM 0 sp tk sv mf mo mn ma kv tv)) (st2 := [.int r1001]) (run_X4_in ((a0).toInt64) 0 7    h_1001) cs_X4_in lk_X4_72 (by decide +kernel) [] (by decide) ⟨Nat.le_of_ble_eq_true rfl, Nat.le_of_ble_eq_true rfl⟩ rfl rfl (Nat.le_of_ble_eq_true rfl) ⟨by decide, by decide⟩ rfl rfl ⟨Nat.zero_le _, Nat.zero_le _⟩ rfl rfl ?_
  rcases ite_s hf with ⟨c_1002, hf⟩ | ⟨c_1002, hf⟩
  · refine m_jT M (i := .ifCond .eq 15) 24 (by decide +kernel) rfl (by decide) c_1002 ?_
    refine m_run M (is := [(24, .aload_n 0, 0), (25, .bipush (-2), -2)]) (pc' := 27) (L' := [some (.ref 0), some (.int a0), some (.int a1), none, none]) (st' := [.int (-2), .ref 0]) (w' := (cM 0 sp tk sv mf mo mn ma kv tv)) (by decide +kernel) rfl trivial ?_
    obtain ⟨r1003, h_1003, hf⟩ := bnd_s hf
    refine m_cV0 M (rest := []) (w2 := (cM 0 sp tk sv r1003.2 mo mn ma kv tv)) (st2 := [.int r1003.1]) (run_X4_refuse (-2)   sp tk sv mf mo mn ma kv tv h_1003) cv_X4_refuse lk_X4_85 (by decide +kernel) (List.range 26) List.nodup_range ⟨(by rw [List.length_range]; exact Nat.le_refl _), Nat.le_of_ble_eq_true rfl⟩ (hwId rfl) rfl rfl (Nat.le_of_ble_eq_true rfl) ⟨by decide, by decide⟩ rfl rfl ⟨Nat.zero_le _, Nat.zero_le _⟩ (hpId rfl rfl) rfl ?_
    obtain rfl := Option.some.inj hf
    exact m_iret K (by decide +kernel) (Nat.zero_le _) (Nat.zero_le _) ⟨rfl, rfl⟩
  · refine m_jF M (i := .ifCond .eq 15) 24 (by decide +kernel) rfl (by decide) c_1002 ?_
    refine m_run M (is := [(12, .iload_n 2, 0), (13, .i2l, 0), (14, .lconst 0, 0), (15, .ldc2_w 100, 0)]) (pc' := 18) (L' := [some (.ref 0), some (.int a0), some (.int a1), none, none]) (st' := [.long 5, .long 0, .long ((a1).toInt64)]) (w' := (cM 0 sp tk sv mf mo mn ma kv tv)) (by decide +kernel) rfl trivial ?_
    obtain ⟨r1004, h_1004, hf⟩ := bnd_s hf
    refine m_cS0 M (rest := []) (w2 := (cM 0 sp tk sv mf mo mn ma kv tv)) (st2 := [.int r1004]) (run_X4_in ((a1).toInt64) 0 5    h_1004) cs_X4_in lk_X4_72 (by decide +kernel) [] (by decide) ⟨Nat.le_of_ble_eq_true rfl, Nat.le_of_ble_eq_true rfl⟩ rfl rfl (Nat.le_of_ble_eq_true rfl) ⟨by decide, by decide⟩ rfl rfl ⟨Nat.zero_le _, Nat.zero_le _⟩ rfl rfl ?_
    rcases ite_s hf with ⟨c_1005, hf⟩ | ⟨c_1005, hf⟩
    · refine m_jF M (i := .ifCond .ne 10) 31 (by decide +kernel) rfl (by decide) (fun n => n c_1005) ?_
      refine m_run M (is := [(24, .aload_n 0, 0), (25, .bipush (-2), -2)]) (pc' := 27) (L' := [some (.ref 0), some (.int a0), some (.int a1), none, none]) (st' := [.int (-2), .ref 0]) (w' := (cM 0 sp tk sv mf mo mn ma kv tv)) (by decide +kernel) rfl trivial ?_
      obtain ⟨r1006, h_1006, hf⟩ := bnd_s hf
      refine m_cV0 M (rest := []) (w2 := (cM 0 sp tk sv r1006.2 mo mn ma kv tv)) (st2 := [.int r1006.1]) (run_X4_refuse (-2)   sp tk sv mf mo mn ma kv tv h_1006) cv_X4_refuse lk_X4_85 (by decide +kernel) (List.range 26) List.nodup_range ⟨(by rw [List.length_range]; exact Nat.le_refl _), Nat.le_of_ble_eq_true rfl⟩ (hwId rfl) rfl rfl (Nat.le_of_ble_eq_true rfl) ⟨by decide, by decide⟩ rfl rfl ⟨Nat.zero_le _, Nat.zero_le _⟩ (hpId rfl rfl) rfl ?_
      obtain rfl := Option.some.inj hf
      exact m_iret K (by decide +kernel) (Nat.zero_le _) (Nat.zero_le _) ⟨rfl, rfl⟩
    · refine m_jT M (i := .ifCond .ne 10) 31 (by decide +kernel) rfl (by decide) c_1005 ?_
      obtain ⟨h_1007, hf⟩ := grd_s hf
      refine m_run M (is := [(31, .aload_n 0, 0), (32, .getfield 7, 0), (35, .iload_n 1, 0), (36, .iaload, 0), (37, .iconst 1, 1)]) (pc' := 38) (L' := [some (.ref 0), some (.int a0), some (.int a1), none, none]) (st' := [.int 1, .int (sv.1 a0.toNatClampNeg)]) (w' := (cM 0 sp tk sv mf mo mn ma kv tv)) (by decide +kernel) rfl ⟨inB_use h_1007, trivial⟩ ?_
      rcases ite_s hf with ⟨c_1008, hf⟩ | ⟨c_1008, hf⟩
      · refine m_jT M (i := .if_icmp .eq 31) 69 (by decide +kernel) rfl (by decide) c_1008 ?_
        refine m_run M (is := [(69, .aload_n 0, 0), (70, .bipush (-3), -3)]) (pc' := 72) (L' := [some (.ref 0), some (.int a0), some (.int a1), none, none]) (st' := [.int (-3), .ref 0]) (w' := (cM 0 sp tk sv mf mo mn ma kv tv)) (by decide +kernel) rfl trivial ?_
        obtain ⟨r1009, h_1009, hf⟩ := bnd_s hf
        refine m_cV0 M (rest := []) (w2 := (cM 0 sp tk sv r1009.2 mo mn ma kv tv)) (st2 := [.int r1009.1]) (run_X4_refuse (-3)   sp tk sv mf mo mn ma kv tv h_1009) cv_X4_refuse lk_X4_85 (by decide +kernel) (List.range 26) List.nodup_range ⟨(by rw [List.length_range]; exact Nat.le_refl _), Nat.le_of_ble_eq_true rfl⟩ (hwId rfl) rfl rfl (Nat.le_of_ble_eq_true rfl) ⟨by decide, by decide⟩ rfl rfl ⟨Nat.zero_le _, Nat.zero_le _⟩ (hpId rfl rfl) rfl ?_
        obtain rfl := Option.some.inj hf
        exact m_iret K (by decide +kernel) (Nat.zero_le _) (Nat.zero_le _) ⟨rfl, rfl⟩
      · refine m_jF M (i := .if_icmp .eq 31) 69 (by decide +kernel) rfl (by decide) c_1008 ?_
        obtain ⟨h_1010, hf⟩ := grd_s hf
        refine m_run M (is := [(41, .aload_n 0, 0), (42, .getfield 7, 0), (45, .iload_n 1, 0), (46, .iaload, 0), (47, .iconst 2, 2)]) (pc' := 48) (L' := [some (.ref 0), some (.int a0), some (.int a1), none, none]) (st' := [.int 2, .int (sv.1 a0.toNatClampNeg)]) (w' := (cM 0 sp tk sv mf mo mn ma kv tv)) (by decide +kernel) rfl ⟨inB_use h_1010, trivial⟩ ?_
        rcases ite_s hf with ⟨c_1011, hf⟩ | ⟨c_1011, hf⟩
        · refine m_jF M (i := .if_icmp .ne 28) 76 (by decide +kernel) rfl (by decide) (fun n => n c_1011) ?_
          obtain ⟨h_1012, hf⟩ := grd_s hf
          obtain ⟨h_1013, hf⟩ := grd_s hf
          refine m_run M (is := [(51, .aload_n 0, 0), (52, .getfield 46, 0), (55, .aload_n 0, 0), (56, .getfield 28, 0), (59, .iload_n 1, 0), (60, .iaload, 0), (61, .iaload, 0), (62, .iload_n 2, 0)]) (pc' := 63) (L' := [some (.ref 0), some (.int a0), some (.int a1), none, none]) (st' := [.int a1, .int (sp.2.2.2.1 (sv.2.2.2.1 a0.toNatClampNeg).toNatClampNeg)]) (w' := (cM 0 sp tk sv mf mo mn ma kv tv)) (by decide +kernel) rfl ⟨inB_use h_1012, inB_use h_1013, trivial⟩ ?_
          obtain ⟨r1014, h_1014, hf⟩ := bnd_s hf
          refine m_cS0 M (rest := []) (w2 := (cM 0 sp tk sv mf mo mn ma kv tv)) (st2 := [.int r1014]) (run_X4_isUnder (sp.2.2.2.1 (sv.2.2.2.1 a0.toNatClampNeg).toNatClampNeg) a1    h_1014) cs_X4_isUnder lk_X4_102 (by decide +kernel) [] (by decide) ⟨Nat.le_of_ble_eq_true rfl, Nat.le_of_ble_eq_true rfl⟩ rfl rfl (Nat.le_of_ble_eq_true rfl) ⟨by decide, by decide⟩ rfl rfl ⟨Nat.zero_le _, Nat.zero_le _⟩ rfl rfl ?_
          rcases ite_s hf with ⟨c_1015, hf⟩ | ⟨c_1015, hf⟩
          · refine m_jF M (i := .ifCond .ne 10) 76 (by decide +kernel) rfl (by decide) (fun n => n c_1015) ?_
            refine m_run M (is := [(69, .aload_n 0, 0), (70, .bipush (-3), -3)]) (pc' := 72) (L' := [some (.ref 0), some (.int a0), some (.int a1), none, none]) (st' := [.int (-3), .ref 0]) (w' := (cM 0 sp tk sv mf mo mn ma kv tv)) (by decide +kernel) rfl trivial ?_
            obtain ⟨r1016, h_1016, hf⟩ := bnd_s hf
            refine m_cV0 M (rest := []) (w2 := (cM 0 sp tk sv r1016.2 mo mn ma kv tv)) (st2 := [.int r1016.1]) (run_X4_refuse (-3)   sp tk sv mf mo mn ma kv tv h_1016) cv_X4_refuse lk_X4_85 (by decide +kernel) (List.range 26) List.nodup_range ⟨(by rw [List.length_range]; exact Nat.le_refl _), Nat.le_of_ble_eq_true rfl⟩ (hwId rfl) rfl rfl (Nat.le_of_ble_eq_true rfl) ⟨by decide, by decide⟩ rfl rfl ⟨Nat.zero_le _, Nat.zero_le _⟩ (hpId rfl rfl) rfl ?_
            obtain rfl := Option.some.inj hf
            exact m_iret K (by decide +kernel) (Nat.zero_le _) (Nat.zero_le _) ⟨rfl, rfl⟩
          · refine m_jT M (i := .ifCond .ne 10) 76 (by decide +kernel) rfl (by decide) c_1015 ?_
            obtain ⟨h_1017, hf⟩ := grd_s hf
            refine m_run M (is := [(76, .aload_n 0, 0), (77, .getfield 7, 0), (80, .iload_n 1, 0), (81, .iaload, 0)]) (pc' := 82) (L' := [some (.ref 0), some (.int a0), some (.int a1), none, none]) (st' := [.int (sv.1 a0.toNatClampNeg)]) (w' := (cM 0 sp tk sv mf mo mn ma kv tv)) (by decide +kernel) rfl ⟨inB_use h_1017, trivial⟩ ?_
            rcases ite_s hf with ⟨c_1018, hf⟩ | ⟨c_1018, hf⟩
            · refine m_jF M (i := .ifCond .ne 10) 92 (by decide +kernel) rfl (by decide) (fun n => n c_1018) ?_
              refine m_run M (is := [(85, .aload_n 0, 0), (86, .bipush (-4), -4)]) (pc' := 88) (L' := [some (.ref 0), some (.int a0), some (.int a1), none, none]) (st' := [.int (-4), .ref 0]) (w' := (cM 0 sp tk sv mf mo mn ma kv tv)) (by decide +kernel) rfl trivial ?_
              obtain ⟨r1019, h_1019, hf⟩ := bnd_s hf
              refine m_cV0 M (rest := []) (w2 := (cM 0 sp tk sv r1019.2 mo mn ma kv tv)) (st2 := [.int r1019.1]) (run_X4_refuse (-4)   sp tk sv mf mo mn ma kv tv h_1019) cv_X4_refuse lk_X4_85 (by decide +kernel) (List.range 26) List.nodup_range ⟨(by rw [List.length_range]; exact Nat.le_refl _), Nat.le_of_ble_eq_true rfl⟩ (hwId rfl) rfl rfl (Nat.le_of_ble_eq_true rfl) ⟨by decide, by decide⟩ rfl rfl ⟨Nat.zero_le _, Nat.zero_le _⟩ (hpId rfl rfl) rfl ?_
              obtain rfl := Option.some.inj hf
              exact m_iret K (by decide +kernel) (Nat.zero_le _) (Nat.zero_le _) ⟨rfl, rfl⟩
            · refine m_jT M (i := .ifCond .ne 10) 92 (by decide +kernel) rfl (by decide) c_1018 ?_
              obtain ⟨h_1020, hf⟩ := grd_s hf
              refine m_run M (is := [(92, .aload_n 0, 0), (93, .getfield 28, 0), (96, .iload_n 1, 0), (97, .iaload, 0), (98, .istore_n 3, 0), (99, .iload_n 2, 0)]) (pc' := 100) (L' := [some (.ref 0), some (.int a0), some (.int a1), some (.int (sv.2.2.2.1 a0.toNatClampNeg)), none]) (st' := [.int a1]) (w' := (cM 0 sp tk sv mf mo mn ma kv tv)) (by decide +kernel) rfl ⟨inB_use h_1020, trivial⟩ ?_
              rcases ite_s hf with ⟨c_1021, hf⟩ | ⟨c_1021, hf⟩
              · refine m_jF M (i := .ifCond .ne 10) 110 (by decide +kernel) rfl (by decide) (fun n => n c_1021) ?_
                obtain ⟨h_1022, hf⟩ := grd_s hf
                refine m_run M (is := [(103, .aload_n 0, 0), (104, .getfield 49, 0), (107, .iload_n 3, 0), (108, .iaload, 0)]) (pc' := 109) (L' := [some (.ref 0), some (.int a0), some (.int a1), some (.int (sv.2.2.2.1 a0.toNatClampNeg)), none]) (st' := [.int (sp.2.2.2.2.1 (sv.2.2.2.1 a0.toNatClampNeg).toNatClampNeg)]) (w' := (cM 0 sp tk sv mf mo mn ma kv tv)) (by decide +kernel) rfl ⟨inB_use h_1022, trivial⟩ ?_
                obtain rfl := Option.some.inj hf
                exact m_iret K (by decide +kernel) (Nat.zero_le _) (Nat.zero_le _) ⟨rfl, rfl⟩
              · refine m_jT M (i := .ifCond .ne 10) 110 (by decide +kernel) rfl (by decide) c_1021 ?_
                refine m_run M (is := [(110, .aload_n 0, 0), (111, .getfield 69, 0)]) (pc' := 114) (L' := [some (.ref 0), some (.int a0), some (.int a1), some (.int (sv.2.2.2.1 a0.toNatClampNeg)), none]) (st' := [.int sp.2.2.2.2.2.1]) (w' := (cM 0 sp tk sv mf mo mn ma kv tv)) (by decide +kernel) rfl trivial ?_
                rcases ite_s hf with ⟨c_1023, hf⟩ | ⟨c_1023, hf⟩
                · refine m_jF M (i := .ifCond .ne 5) 119 (by decide +kernel) rfl (by decide) (fun n => n c_1023) ?_
                  refine m_run M (is := [(117, .iconst (-1), -1)]) (pc' := 118) (L' := [some (.ref 0), some (.int a0), some (.int a1), some (.int (sv.2.2.2.1 a0.toNatClampNeg)), none]) (st' := [.int (-1)]) (w' := (cM 0 sp tk sv mf mo mn ma kv tv)) (by decide +kernel) rfl trivial ?_
                  obtain rfl := Option.some.inj hf
                  exact m_iret K (by decide +kernel) (Nat.zero_le _) (Nat.zero_le _) ⟨rfl, rfl⟩
                · refine m_jT M (i := .ifCond .ne 5) 119 (by decide +kernel) rfl (by decide) c_1023 ?_
                  obtain ⟨h_1024, hf⟩ := grd_s hf
                  refine m_run M (is := [(119, .aload_n 0, 0), (120, .getfield 37, 0), (123, .iconst 0, 0), (124, .iaload, 0), (125, .istore 4, 0), (127, .iload_n 2, 0), (128, .iconst 3, 3)]) (pc' := 129) (L' := [some (.ref 0), some (.int a0), some (.int a1), some (.int (sv.2.2.2.1 a0.toNatClampNeg)), some (.int (sp.1 (0 : Int32).toNatClampNeg))]) (st' := [.int 3, .int a1]) (w' := (cM 0 sp tk sv mf mo mn ma kv tv)) (by decide +kernel) rfl ⟨inB_use h_1024, trivial⟩ ?_
                  rcases ite_s hf with ⟨c_1025, hf⟩ | ⟨c_1025, hf⟩
                  · refine m_jF M (i := .if_icmp .ne 13) 142 (by decide +kernel) rfl (by decide) (fun n => n c_1025) ?_
                    refine m_run M (is := [(132, .aload_n 0, 0), (133, .iload_n 3, 0), (134, .iload 4, 0)]) (pc' := 136) (L' := [some (.ref 0), some (.int a0), some (.int a1), some (.int (sv.2.2.2.1 a0.toNatClampNeg)), some (.int (sp.1 (0 : Int32).toNatClampNeg))]) (st' := [.int (sp.1 (0 : Int32).toNatClampNeg), .int (sv.2.2.2.1 a0.toNatClampNeg), .ref 0]) (w' := (cM 0 sp tk sv mf mo mn ma kv tv)) (by decide +kernel) rfl trivial ?_
                    obtain ⟨r1026, h_1026, hf⟩ := bnd_s hf
                    refine m_cV0 M (rest := []) (w2 := (cM 0 sp tk sv mf mo mn ma kv tv)) (st2 := [.int r1026]) (run_X4_lastBy (sv.2.2.2.1 a0.toNatClampNeg) (sp.1 (0 : Int32).toNatClampNeg)   sp tk sv mf mo mn ma kv tv h_1026) cv_X4_lastBy lk_X4_106 (by decide +kernel) (List.range 26) List.nodup_range ⟨(by rw [List.length_range]; exact Nat.le_refl _), Nat.le_of_ble_eq_true rfl⟩ (hwId rfl) rfl rfl (Nat.le_of_ble_eq_true rfl) ⟨by decide, by decide⟩ rfl rfl ⟨Nat.zero_le _, Nat.zero_le _⟩ (hpId rfl rfl) rfl ?_
                    refine m_run M (is := [(139, .goto 19, 0)]) (pc' := 158) (L' := [some (.ref 0), some (.int a0), some (.int a1), some (.int (sv.2.2.2.1 a0.toNatClampNeg)), some (.int (sp.1 (0 : Int32).toNatClampNeg))]) (st' := [.int r1026]) (w' := (cM 0 sp tk sv mf mo mn ma kv tv)) (by decide +kernel) rfl trivial ?_
                    obtain rfl := Option.some.inj hf
                    exact m_iret K (by decide +kernel) (Nat.zero_le _) (Nat.zero_le _) ⟨rfl, rfl⟩
                  · refine m_jT M (i := .if_icmp .ne 13) 142 (by decide +kernel) rfl (by decide) c_1025 ?_
                    obtain ⟨h_1027, hf⟩ := grd_s hf
                    refine m_run M (is := [(142, .aload_n 0, 0), (143, .iload_n 3, 0), (144, .iload 4, 0), (146, .aload_n 0, 0), (147, .getfield 40, 0), (150, .iload 4, 0), (152, .iaload, 0), (153, .iconst 1, 1), (154, .iadd, 0)]) (pc' := 155) (L' := [some (.ref 0), some (.int a0), some (.int a1), some (.int (sv.2.2.2.1 a0.toNatClampNeg)), some (.int (sp.1 (0 : Int32).toNatClampNeg))]) (st' := [.int ((sp.2.1 (sp.1 (0 : Int32).toNatClampNeg).toNatClampNeg) + 1), .int (sp.1 (0 : Int32).toNatClampNeg), .int (sv.2.2.2.1 a0.toNatClampNeg), .ref 0]) (w' := (cM 0 sp tk sv mf mo mn ma kv tv)) (by decide +kernel) rfl ⟨inB_use h_1027, trivial⟩ ?_
                    obtain ⟨r1028, h_1028, hf⟩ := bnd_s hf
                    refine m_cV0 M (rest := []) (w2 := (cM 0 sp tk sv mf mo mn ma kv tv)) (st2 := [.int r1028]) (run_X4_backBy (sv.2.2.2.1 a0.toNatClampNeg) (sp.1 (0 : Int32).toNatClampNeg) ((sp.2.1 (sp.1 (0 : Int32).toNatClampNeg).toNatClampNeg) + 1)   sp tk sv mf mo mn ma kv tv h_1028) cv_X4_backBy lk_X4_110 (by decide +kernel) (List.range 26) List.nodup_range ⟨(by rw [List.length_range]; exact Nat.le_refl _), Nat.le_of_ble_eq_true rfl⟩ (hwId rfl) rfl rfl (Nat.le_of_ble_eq_true rfl) ⟨by decide, by decide⟩ rfl rfl ⟨Nat.zero_le _, Nat.zero_le _⟩ (hpId rfl rfl) rfl ?_
                    obtain rfl := Option.some.inj hf
                    exact m_iret K (by decide +kernel) (Nat.zero_le _) (Nat.zero_le _) ⟨rfl, rfl⟩
        · refine m_jT M (i := .if_icmp .ne 28) 76 (by decide +kernel) rfl (by decide) c_1011 ?_
          obtain ⟨h_1029, hf⟩ := grd_s hf
          refine m_run M (is := [(76, .aload_n 0, 0), (77, .getfield 7, 0), (80, .iload_n 1, 0), (81, .iaload, 0)]) (pc' := 82) (L' := [some (.ref 0), some (.int a0), some (.int a1), none, none]) (st' := [.int (sv.1 a0.toNatClampNeg)]) (w' := (cM 0 sp tk sv mf mo mn ma kv tv)) (by decide +kernel) rfl ⟨inB_use h_1029, trivial⟩ ?_
          rcases ite_s hf with ⟨c_1030, hf⟩ | ⟨c_1030, hf⟩
          · refine m_jF M (i := .ifCond .ne 10) 92 (by decide +kernel) rfl (by decide) (fun n => n c_1030) ?_
            refine m_run M (is := [(85, .aload_n 0, 0), (86, .bipush (-4), -4)]) (pc' := 88) (L' := [some (.ref 0), some (.int a0), some (.int a1), none, none]) (st' := [.int (-4), .ref 0]) (w' := (cM 0 sp tk sv mf mo mn ma kv tv)) (by decide +kernel) rfl trivial ?_
            obtain ⟨r1031, h_1031, hf⟩ := bnd_s hf
            refine m_cV0 M (rest := []) (w2 := (cM 0 sp tk sv r1031.2 mo mn ma kv tv)) (st2 := [.int r1031.1]) (run_X4_refuse (-4)   sp tk sv mf mo mn ma kv tv h_1031) cv_X4_refuse lk_X4_85 (by decide +kernel) (List.range 26) List.nodup_range ⟨(by rw [List.length_range]; exact Nat.le_refl _), Nat.le_of_ble_eq_true rfl⟩ (hwId rfl) rfl rfl (Nat.le_of_ble_eq_true rfl) ⟨by decide, by decide⟩ rfl rfl ⟨Nat.zero_le _, Nat.zero_le _⟩ (hpId rfl rfl) rfl ?_
            obtain rfl := Option.some.inj hf
            exact m_iret K (by decide +kernel) (Nat.zero_le _) (Nat.zero_le _) ⟨rfl, rfl⟩
          · refine m_jT M (i := .ifCond .ne 10) 92 (by decide +kernel) rfl (by decide) c_1030 ?_
            obtain ⟨h_1032, hf⟩ := grd_s hf
            refine m_run M (is := [(92, .aload_n 0, 0), (93, .getfield 28, 0), (96, .iload_n 1, 0), (97, .iaload, 0), (98, .istore_n 3, 0), (99, .iload_n 2, 0)]) (pc' := 100) (L' := [some (.ref 0), some (.int a0), some (.int a1), some (.int (sv.2.2.2.1 a0.toNatClampNeg)), none]) (st' := [.int a1]) (w' := (cM 0 sp tk sv mf mo mn ma kv tv)) (by decide +kernel) rfl ⟨inB_use h_1032, trivial⟩ ?_
            rcases ite_s hf with ⟨c_1033, hf⟩ | ⟨c_1033, hf⟩
            · refine m_jF M (i := .ifCond .ne 10) 110 (by decide +kernel) rfl (by decide) (fun n => n c_1033) ?_
              obtain ⟨h_1034, hf⟩ := grd_s hf
              refine m_run M (is := [(103, .aload_n 0, 0), (104, .getfield 49, 0), (107, .iload_n 3, 0), (108, .iaload, 0)]) (pc' := 109) (L' := [some (.ref 0), some (.int a0), some (.int a1), some (.int (sv.2.2.2.1 a0.toNatClampNeg)), none]) (st' := [.int (sp.2.2.2.2.1 (sv.2.2.2.1 a0.toNatClampNeg).toNatClampNeg)]) (w' := (cM 0 sp tk sv mf mo mn ma kv tv)) (by decide +kernel) rfl ⟨inB_use h_1034, trivial⟩ ?_
              obtain rfl := Option.some.inj hf
              exact m_iret K (by decide +kernel) (Nat.zero_le _) (Nat.zero_le _) ⟨rfl, rfl⟩
            · refine m_jT M (i := .ifCond .ne 10) 110 (by decide +kernel) rfl (by decide) c_1033 ?_
              refine m_run M (is := [(110, .aload_n 0, 0), (111, .getfield 69, 0)]) (pc' := 114) (L' := [some (.ref 0), some (.int a0), some (.int a1), some (.int (sv.2.2.2.1 a0.toNatClampNeg)), none]) (st' := [.int sp.2.2.2.2.2.1]) (w' := (cM 0 sp tk sv mf mo mn ma kv tv)) (by decide +kernel) rfl trivial ?_
              rcases ite_s hf with ⟨c_1035, hf⟩ | ⟨c_1035, hf⟩
              · refine m_jF M (i := .ifCond .ne 5) 119 (by decide +kernel) rfl (by decide) (fun n => n c_1035) ?_
                refine m_run M (is := [(117, .iconst (-1), -1)]) (pc' := 118) (L' := [some (.ref 0), some (.int a0), some (.int a1), some (.int (sv.2.2.2.1 a0.toNatClampNeg)), none]) (st' := [.int (-1)]) (w' := (cM 0 sp tk sv mf mo mn ma kv tv)) (by decide +kernel) rfl trivial ?_
                obtain rfl := Option.some.inj hf
                exact m_iret K (by decide +kernel) (Nat.zero_le _) (Nat.zero_le _) ⟨rfl, rfl⟩
              · refine m_jT M (i := .ifCond .ne 5) 119 (by decide +kernel) rfl (by decide) c_1035 ?_
                obtain ⟨h_1036, hf⟩ := grd_s hf
                refine m_run M (is := [(119, .aload_n 0, 0), (120, .getfield 37, 0), (123, .iconst 0, 0), (124, .iaload, 0), (125, .istore 4, 0), (127, .iload_n 2, 0), (128, .iconst 3, 3)]) (pc' := 129) (L' := [some (.ref 0), some (.int a0), some (.int a1), some (.int (sv.2.2.2.1 a0.toNatClampNeg)), some (.int (sp.1 (0 : Int32).toNatClampNeg))]) (st' := [.int 3, .int a1]) (w' := (cM 0 sp tk sv mf mo mn ma kv tv)) (by decide +kernel) rfl ⟨inB_use h_1036, trivial⟩ ?_
                rcases ite_s hf with ⟨c_1037, hf⟩ | ⟨c_1037, hf⟩
                · refine m_jF M (i := .if_icmp .ne 13) 142 (by decide +kernel) rfl (by decide) (fun n => n c_1037) ?_
                  refine m_run M (is := [(132, .aload_n 0, 0), (133, .iload_n 3, 0), (134, .iload 4, 0)]) (pc' := 136) (L' := [some (.ref 0), some (.int a0), some (.int a1), some (.int (sv.2.2.2.1 a0.toNatClampNeg)), some (.int (sp.1 (0 : Int32).toNatClampNeg))]) (st' := [.int (sp.1 (0 : Int32).toNatClampNeg), .int (sv.2.2.2.1 a0.toNatClampNeg), .ref 0]) (w' := (cM 0 sp tk sv mf mo mn ma kv tv)) (by decide +kernel) rfl trivial ?_
                  obtain ⟨r1038, h_1038, hf⟩ := bnd_s hf
                  refine m_cV0 M (rest := []) (w2 := (cM 0 sp tk sv mf mo mn ma kv tv)) (st2 := [.int r1038]) (run_X4_lastBy (sv.2.2.2.1 a0.toNatClampNeg) (sp.1 (0 : Int32).toNatClampNeg)   sp tk sv mf mo mn ma kv tv h_1038) cv_X4_lastBy lk_X4_106 (by decide +kernel) (List.range 26) List.nodup_range ⟨(by rw [List.length_range]; exact Nat.le_refl _), Nat.le_of_ble_eq_true rfl⟩ (hwId rfl) rfl rfl (Nat.le_of_ble_eq_true rfl) ⟨by decide, by decide⟩ rfl rfl ⟨Nat.zero_le _, Nat.zero_le _⟩ (hpId rfl rfl) rfl ?_
                  refine m_run M (is := [(139, .goto 19, 0)]) (pc' := 158) (L' := [some (.ref 0), some (.int a0), some (.int a1), some (.int (sv.2.2.2.1 a0.toNatClampNeg)), some (.int (sp.1 (0 : Int32).toNatClampNeg))]) (st' := [.int r1038]) (w' := (cM 0 sp tk sv mf mo mn ma kv tv)) (by decide +kernel) rfl trivial ?_
                  obtain rfl := Option.some.inj hf
                  exact m_iret K (by decide +kernel) (Nat.zero_le _) (Nat.zero_le _) ⟨rfl, rfl⟩
                · refine m_jT M (i := .if_icmp .ne 13) 142 (by decide +kernel) rfl (by decide) c_1037 ?_
                  obtain ⟨h_1039, hf⟩ := grd_s hf
                  refine m_run M (is := [(142, .aload_n 0, 0), (143, .iload_n 3, 0), (144, .iload 4, 0), (146, .aload_n 0, 0), (147, .getfield 40, 0), (150, .iload 4, 0), (152, .iaload, 0), (153, .iconst 1, 1), (154, .iadd, 0)]) (pc' := 155) (L' := [some (.ref 0), some (.int a0), some (.int a1), some (.int (sv.2.2.2.1 a0.toNatClampNeg)), some (.int (sp.1 (0 : Int32).toNatClampNeg))]) (st' := [.int ((sp.2.1 (sp.1 (0 : Int32).toNatClampNeg).toNatClampNeg) + 1), .int (sp.1 (0 : Int32).toNatClampNeg), .int (sv.2.2.2.1 a0.toNatClampNeg), .ref 0]) (w' := (cM 0 sp tk sv mf mo mn ma kv tv)) (by decide +kernel) rfl ⟨inB_use h_1039, trivial⟩ ?_
                  obtain ⟨r1040, h_1040, hf⟩ := bnd_s hf
                  refine m_cV0 M (rest := []) (w2 := (cM 0 sp tk sv mf mo mn ma kv tv)) (st2 := [.int r1040]) (run_X4_backBy (sv.2.2.2.1 a0.toNatClampNeg) (sp.1 (0 : Int32).toNatClampNeg) ((sp.2.1 (sp.1 (0 : Int32).toNatClampNeg).toNatClampNeg) + 1)   sp tk sv mf mo mn ma kv tv h_1040) cv_X4_backBy lk_X4_110 (by decide +kernel) (List.range 26) List.nodup_range ⟨(by rw [List.length_range]; exact Nat.le_refl _), Nat.le_of_ble_eq_true rfl⟩ (hwId rfl) rfl rfl (Nat.le_of_ble_eq_true rfl) ⟨by decide, by decide⟩ rfl rfl ⟨Nat.zero_le _, Nat.zero_le _⟩ (hpId rfl rfl) rfl ?_
                  obtain rfl := Option.some.inj hf
                  exact m_iret K (by decide +kernel) (Nat.zero_le _) (Nat.zero_le _) ⟨rfl, rfl⟩

def f_X4_addPerson (sp : ShT) : Option (ShT) :=
  if inB sp.2.2.2.2.2.1 16 then
  if inB sp.2.2.2.2.2.1 16 then
  if inB sp.2.2.2.2.2.1 16 then
  some ((upd sp.1 sp.2.2.2.2.2.1.toNatClampNeg sp.2.2.2.2.2.1), (upd sp.2.1 sp.2.2.2.2.2.1.toNatClampNeg 0), (upd sp.2.2.1 sp.2.2.2.2.2.1.toNatClampNeg 1), sp.2.2.2.1, sp.2.2.2.2.1, (sp.2.2.2.2.2.1 + 1), sp.2.2.2.2.2.2.1, sp.2.2.2.2.2.2.2.1, sp.2.2.2.2.2.2.2.2.1, sp.2.2.2.2.2.2.2.2.2)
  else none
  else none
  else none
set_option maxRecDepth 100000 in
set_option maxHeartbeats 4000000 in
theorem run_X4_addPerson {l : Launch} {D : va_G} {cT : Nat → ClassId}    (sp : ShT) (tk : TkT) (sv : SvT) (mf : AI) (mo : AI) (mn : AI) (ma : AI) (kv : Value) (tv : Value) {r : ShT} (hf : f_X4_addPerson sp = some r) : Runs l D cT yX4_addPerson cX4_addPerson 1 none 0 0 [.ref 0] (cM 0 sp tk sv mf mo mn ma kv tv) (EQ none (cM 0 r tk sv mf mo mn ma kv tv)) := by
  refine runs_of O_X4 okO_X4 (by decide +kernel) rfl rfl (Nat.le_of_ble_eq_true rfl) (Nat.le_of_ble_eq_true rfl) (fun g K => ?_)
  have M := K.b
  show g 0 0 (cM 0 sp tk sv mf mo mn ma kv tv) 0 [some (.ref 0)] []
  rw [f_X4_addPerson] at hf
  obtain ⟨h_1001, hf⟩ := grd_s hf
  obtain ⟨h_1002, hf⟩ := grd_s hf
  obtain ⟨h_1003, hf⟩ := grd_s hf
  refine m_run M (is := [(0, .aload_n 0, 0), (1, .getfield 37, 0), (4, .aload_n 0, 0), (5, .getfield 69, 0), (8, .aload_n 0, 0), (9, .getfield 69, 0), (12, .iastore, 0), (13, .aload_n 0, 0), (14, .getfield 40, 0), (17, .aload_n 0, 0), (18, .getfield 69, 0), (21, .iconst 0, 0), (22, .iastore, 0), (23, .aload_n 0, 0), (24, .getfield 43, 0), (27, .aload_n 0, 0), (28, .getfield 69, 0), (31, .iconst 1, 1), (32, .iastore, 0), (33, .aload_n 0, 0), (34, .dup, 0), (35, .getfield 69, 0), (38, .iconst 1, 1), (39, .iadd, 0), (40, .putfield 69, 0)]) (pc' := 43) (L' := [some (.ref 0)]) (st' := []) (w' := (cM 0 ((upd sp.1 sp.2.2.2.2.2.1.toNatClampNeg sp.2.2.2.2.2.1), (upd sp.2.1 sp.2.2.2.2.2.1.toNatClampNeg 0), (upd sp.2.2.1 sp.2.2.2.2.2.1.toNatClampNeg 1), sp.2.2.2.1, sp.2.2.2.2.1, (sp.2.2.2.2.2.1 + 1), sp.2.2.2.2.2.2.1, sp.2.2.2.2.2.2.2.1, sp.2.2.2.2.2.2.2.2.1, sp.2.2.2.2.2.2.2.2.2) tk sv mf mo mn ma kv tv)) (by decide +kernel) rfl ⟨inB_use h_1001, inB_use h_1002, inB_use h_1003, trivial⟩ ?_
  obtain rfl := Option.some.inj hf
  exact m_vret K (by decide +kernel) (Nat.zero_le _) (Nat.zero_le _) ⟨rfl, rfl⟩

def f_X4_comes (sp : ShT) (mf : AI) : Option (Int32 × ShT × AI) :=
  if sp.2.2.2.2.2.1 = 16 then
    (f_X4_refuse (-6) mf).bind fun r1002 =>
    some (r1002.1, sp, r1002.2)
  else
    (f_X4_addPerson sp).bind fun r1003 =>
    some ((r1003.2.2.2.2.2.1 - 1), r1003, mf)
set_option maxRecDepth 100000 in
set_option maxHeartbeats 4000000 in
theorem run_X4_comes {l : Launch} {D : va_G} {cT : Nat → ClassId}    (sp : ShT) (tk : TkT) (sv : SvT) (mf : AI) (mo : AI) (mn : AI) (ma : AI) (kv : Value) (tv : Value) {r : Int32 × ShT × AI} (hf : f_X4_comes sp mf = some r) : Runs l D cT yX4_comes cX4_comes 1 (some .int) 1 21 [.ref 0] (cM 0 sp tk sv mf mo mn ma kv tv) (EQ (some (.int r.1)) (cM 0 r.2.1 tk sv r.2.2 mo mn ma kv tv)) := by
  refine runs_of O_X4 okO_X4 (by decide +kernel) rfl rfl (Nat.le_of_ble_eq_true rfl) (Nat.le_of_ble_eq_true rfl) (fun g K => ?_)
  have M := K.b
  show g 0 0 (cM 0 sp tk sv mf mo mn ma kv tv) 0 [some (.ref 0)] []
  rw [f_X4_comes] at hf
  refine m_run M (is := [(0, .aload_n 0, 0), (1, .getfield 69, 0), (4, .bipush 16, 16)]) (pc' := 6) (L' := [some (.ref 0)]) (st' := [.int 16, .int sp.2.2.2.2.2.1]) (w' := (cM 0 sp tk sv mf mo mn ma kv tv)) (by decide +kernel) rfl trivial ?_
  rcases ite_s hf with ⟨c_1001, hf⟩ | ⟨c_1001, hf⟩
  · refine m_jF M (i := .if_icmp .ne 10) 16 (by decide +kernel) rfl (by decide) (fun n => n c_1001) ?_
    refine m_run M (is := [(9, .aload_n 0, 0), (10, .bipush (-6), -6)]) (pc' := 12) (L' := [some (.ref 0)]) (st' := [.int (-6), .ref 0]) (w' := (cM 0 sp tk sv mf mo mn ma kv tv)) (by decide +kernel) rfl trivial ?_
    obtain ⟨r1002, h_1002, hf⟩ := bnd_s hf
    refine m_cV0 M (rest := []) (w2 := (cM 0 sp tk sv r1002.2 mo mn ma kv tv)) (st2 := [.int r1002.1]) (run_X4_refuse (-6)   sp tk sv mf mo mn ma kv tv h_1002) cv_X4_refuse lk_X4_85 (by decide +kernel) (List.range 26) List.nodup_range ⟨(by rw [List.length_range]; exact Nat.le_refl _), Nat.le_of_ble_eq_true rfl⟩ (hwId rfl) rfl rfl (Nat.le_of_ble_eq_true rfl) ⟨by decide, by decide⟩ rfl rfl ⟨Nat.zero_le _, Nat.zero_le _⟩ (hpId rfl rfl) rfl ?_
    obtain rfl := Option.some.inj hf
    exact m_iret K (by decide +kernel) (Nat.zero_le _) (Nat.zero_le _) ⟨rfl, rfl⟩
  · refine m_jT M (i := .if_icmp .ne 10) 16 (by decide +kernel) rfl (by decide) c_1001 ?_
    refine m_run M (is := [(16, .aload_n 0, 0)]) (pc' := 17) (L' := [some (.ref 0)]) (st' := [.ref 0]) (w' := (cM 0 sp tk sv mf mo mn ma kv tv)) (by decide +kernel) rfl trivial ?_
    obtain ⟨r1003, h_1003, hf⟩ := bnd_s hf
    refine m_cV0 M (rest := []) (w2 := (cM 0 r1003 tk sv mf mo mn ma kv tv)) (st2 := []) (run_X4_addPerson    sp tk sv mf mo mn ma kv tv h_1003) cv_X4_addPerson lk_X4_114 (by decide +kernel) (List.range 26) List.nodup_range ⟨(by rw [List.length_range]; exact Nat.le_refl _), Nat.le_of_ble_eq_true rfl⟩ (hwId rfl) rfl rfl (Nat.le_of_ble_eq_true rfl) ⟨by decide, by decide⟩ rfl rfl ⟨Nat.zero_le _, Nat.zero_le _⟩ (hpId rfl rfl) rfl ?_
    refine m_run M (is := [(20, .aload_n 0, 0), (21, .getfield 69, 0), (24, .iconst 1, 1), (25, .isub, 0)]) (pc' := 26) (L' := [some (.ref 0)]) (st' := [.int (r1003.2.2.2.2.2.1 - 1)]) (w' := (cM 0 r1003 tk sv mf mo mn ma kv tv)) (by decide +kernel) rfl trivial ?_
    obtain rfl := Option.some.inj hf
    exact m_iret K (by decide +kernel) (Nat.zero_le _) (Nat.zero_le _) ⟨rfl, rfl⟩

def f_X4_addLaw (a0 : Int32) (a1 : Int32) (sp : ShT) : Option (ShT) :=
  if inB sp.2.2.2.2.2.2.1 6 then
  if inB sp.2.2.2.2.2.2.1 6 then
  some (sp.1, sp.2.1, sp.2.2.1, (upd sp.2.2.2.1 sp.2.2.2.2.2.2.1.toNatClampNeg a0), (upd sp.2.2.2.2.1 sp.2.2.2.2.2.2.1.toNatClampNeg a1), sp.2.2.2.2.2.1, (sp.2.2.2.2.2.2.1 + 1), sp.2.2.2.2.2.2.2.1, sp.2.2.2.2.2.2.2.2.1, sp.2.2.2.2.2.2.2.2.2)
  else none
  else none
set_option maxRecDepth 100000 in
set_option maxHeartbeats 4000000 in
theorem run_X4_addLaw {l : Launch} {D : va_G} {cT : Nat → ClassId} (a0 : Int32) (a1 : Int32)   (sp : ShT) (tk : TkT) (sv : SvT) (mf : AI) (mo : AI) (mn : AI) (ma : AI) (kv : Value) (tv : Value) {r : ShT} (hf : f_X4_addLaw a0 a1 sp = some r) : Runs l D cT yX4_addLaw cX4_addLaw 3 none 0 0 [.ref 0, .int a0, .int a1] (cM 0 sp tk sv mf mo mn ma kv tv) (EQ none (cM 0 r tk sv mf mo mn ma kv tv)) := by
  refine runs_of O_X4 okO_X4 (by decide +kernel) rfl rfl (Nat.le_of_ble_eq_true rfl) (Nat.le_of_ble_eq_true rfl) (fun g K => ?_)
  have M := K.b
  show g 0 0 (cM 0 sp tk sv mf mo mn ma kv tv) 0 [some (.ref 0), some (.int a0), some (.int a1)] []
  rw [f_X4_addLaw] at hf
  obtain ⟨h_1001, hf⟩ := grd_s hf
  obtain ⟨h_1002, hf⟩ := grd_s hf
  refine m_run M (is := [(0, .aload_n 0, 0), (1, .getfield 46, 0), (4, .aload_n 0, 0), (5, .getfield 76, 0), (8, .iload_n 1, 0), (9, .iastore, 0), (10, .aload_n 0, 0), (11, .getfield 49, 0), (14, .aload_n 0, 0), (15, .getfield 76, 0), (18, .iload_n 2, 0), (19, .iastore, 0), (20, .aload_n 0, 0), (21, .dup, 0), (22, .getfield 76, 0), (25, .iconst 1, 1), (26, .iadd, 0), (27, .putfield 76, 0)]) (pc' := 30) (L' := [some (.ref 0), some (.int a0), some (.int a1)]) (st' := []) (w' := (cM 0 (sp.1, sp.2.1, sp.2.2.1, (upd sp.2.2.2.1 sp.2.2.2.2.2.2.1.toNatClampNeg a0), (upd sp.2.2.2.2.1 sp.2.2.2.2.2.2.1.toNatClampNeg a1), sp.2.2.2.2.2.1, (sp.2.2.2.2.2.2.1 + 1), sp.2.2.2.2.2.2.2.1, sp.2.2.2.2.2.2.2.2.1, sp.2.2.2.2.2.2.2.2.2) tk sv mf mo mn ma kv tv)) (by decide +kernel) rfl ⟨inB_use h_1001, inB_use h_1002, trivial⟩ ?_
  obtain rfl := Option.some.inj hf
  exact m_vret K (by decide +kernel) (Nat.zero_le _) (Nat.zero_le _) ⟨rfl, rfl⟩

def f_X4_law (a0 : Int32) (a1 : Int32) (sp : ShT) (mf : AI) : Option (Int32 × ShT × AI) :=
  (f_X4_in ((a0).toInt64) 0 5).bind fun r1001 =>
  if r1001 = 0 then
    (f_X4_refuse (-2) mf).bind fun r1003 =>
    some (r1003.1, sp, r1003.2)
  else
    (f_X4_in ((a1).toInt64) 0 15).bind fun r1004 =>
    if r1004 = 0 then
      (f_X4_refuse (-2) mf).bind fun r1006 =>
      some (r1006.1, sp, r1006.2)
    else
      if sp.2.2.2.2.2.2.1 = 6 then
        (f_X4_refuse (-6) mf).bind fun r1008 =>
        some (r1008.1, sp, r1008.2)
      else
        (f_X4_addLaw a0 a1 sp).bind fun r1009 =>
        some ((r1009.2.2.2.2.2.2.1 - 1), r1009, mf)
set_option maxRecDepth 100000 in
set_option maxHeartbeats 4000000 in
theorem run_X4_law {l : Launch} {D : va_G} {cT : Nat → ClassId} (a0 : Int32) (a1 : Int32)   (sp : ShT) (tk : TkT) (sv : SvT) (mf : AI) (mo : AI) (mn : AI) (ma : AI) (kv : Value) (tv : Value) {r : Int32 × ShT × AI} (hf : f_X4_law a0 a1 sp mf = some r) : Runs l D cT yX4_law cX4_law 3 (some .int) 1 25 [.ref 0, .int a0, .int a1] (cM 0 sp tk sv mf mo mn ma kv tv) (EQ (some (.int r.1)) (cM 0 r.2.1 tk sv r.2.2 mo mn ma kv tv)) := by
  refine runs_of O_X4 okO_X4 (by decide +kernel) rfl rfl (Nat.le_of_ble_eq_true rfl) (Nat.le_of_ble_eq_true rfl) (fun g K => ?_)
  have M := K.b
  show g 0 0 (cM 0 sp tk sv mf mo mn ma kv tv) 0 [some (.ref 0), some (.int a0), some (.int a1)] []
  rw [f_X4_law] at hf
  refine m_run M (is := [(0, .iload_n 1, 0), (1, .i2l, 0), (2, .lconst 0, 0), (3, .ldc2_w 100, 0)]) (pc' := 6) (L' := [some (.ref 0), some (.int a0), some (.int a1)]) (st' := [.long 5, .long 0, .long ((a0).toInt64)]) (w' := (cM 0 sp tk sv mf mo mn ma kv tv)) (by decide +kernel) rfl trivial ?_
  obtain ⟨r1001, h_1001, hf⟩ := bnd_s hf
  refine m_cS0 M (rest := []) (w2 := (cM 0 sp tk sv mf mo mn ma kv tv)) (st2 := [.int r1001]) (run_X4_in ((a0).toInt64) 0 5    h_1001) cs_X4_in lk_X4_72 (by decide +kernel) [] (by decide) ⟨Nat.le_of_ble_eq_true rfl, Nat.le_of_ble_eq_true rfl⟩ rfl rfl (Nat.le_of_ble_eq_true rfl) ⟨by decide, by decide⟩ rfl rfl ⟨Nat.zero_le _, Nat.zero_le _⟩ rfl rfl ?_
  rcases ite_s hf with ⟨c_1002, hf⟩ | ⟨c_1002, hf⟩
  · refine m_jT M (i := .ifCond .eq 15) 24 (by decide +kernel) rfl (by decide) c_1002 ?_
    refine m_run M (is := [(24, .aload_n 0, 0), (25, .bipush (-2), -2)]) (pc' := 27) (L' := [some (.ref 0), some (.int a0), some (.int a1)]) (st' := [.int (-2), .ref 0]) (w' := (cM 0 sp tk sv mf mo mn ma kv tv)) (by decide +kernel) rfl trivial ?_
    obtain ⟨r1003, h_1003, hf⟩ := bnd_s hf
    refine m_cV0 M (rest := []) (w2 := (cM 0 sp tk sv r1003.2 mo mn ma kv tv)) (st2 := [.int r1003.1]) (run_X4_refuse (-2)   sp tk sv mf mo mn ma kv tv h_1003) cv_X4_refuse lk_X4_85 (by decide +kernel) (List.range 26) List.nodup_range ⟨(by rw [List.length_range]; exact Nat.le_refl _), Nat.le_of_ble_eq_true rfl⟩ (hwId rfl) rfl rfl (Nat.le_of_ble_eq_true rfl) ⟨by decide, by decide⟩ rfl rfl ⟨Nat.zero_le _, Nat.zero_le _⟩ (hpId rfl rfl) rfl ?_
    obtain rfl := Option.some.inj hf
    exact m_iret K (by decide +kernel) (Nat.zero_le _) (Nat.zero_le _) ⟨rfl, rfl⟩
  · refine m_jF M (i := .ifCond .eq 15) 24 (by decide +kernel) rfl (by decide) c_1002 ?_
    refine m_run M (is := [(12, .iload_n 2, 0), (13, .i2l, 0), (14, .lconst 0, 0), (15, .ldc2_w 117, 0)]) (pc' := 18) (L' := [some (.ref 0), some (.int a0), some (.int a1)]) (st' := [.long 15, .long 0, .long ((a1).toInt64)]) (w' := (cM 0 sp tk sv mf mo mn ma kv tv)) (by decide +kernel) rfl trivial ?_
    obtain ⟨r1004, h_1004, hf⟩ := bnd_s hf
    refine m_cS0 M (rest := []) (w2 := (cM 0 sp tk sv mf mo mn ma kv tv)) (st2 := [.int r1004]) (run_X4_in ((a1).toInt64) 0 15    h_1004) cs_X4_in lk_X4_72 (by decide +kernel) [] (by decide) ⟨Nat.le_of_ble_eq_true rfl, Nat.le_of_ble_eq_true rfl⟩ rfl rfl (Nat.le_of_ble_eq_true rfl) ⟨by decide, by decide⟩ rfl rfl ⟨Nat.zero_le _, Nat.zero_le _⟩ rfl rfl ?_
    rcases ite_s hf with ⟨c_1005, hf⟩ | ⟨c_1005, hf⟩
    · refine m_jF M (i := .ifCond .ne 10) 31 (by decide +kernel) rfl (by decide) (fun n => n c_1005) ?_
      refine m_run M (is := [(24, .aload_n 0, 0), (25, .bipush (-2), -2)]) (pc' := 27) (L' := [some (.ref 0), some (.int a0), some (.int a1)]) (st' := [.int (-2), .ref 0]) (w' := (cM 0 sp tk sv mf mo mn ma kv tv)) (by decide +kernel) rfl trivial ?_
      obtain ⟨r1006, h_1006, hf⟩ := bnd_s hf
      refine m_cV0 M (rest := []) (w2 := (cM 0 sp tk sv r1006.2 mo mn ma kv tv)) (st2 := [.int r1006.1]) (run_X4_refuse (-2)   sp tk sv mf mo mn ma kv tv h_1006) cv_X4_refuse lk_X4_85 (by decide +kernel) (List.range 26) List.nodup_range ⟨(by rw [List.length_range]; exact Nat.le_refl _), Nat.le_of_ble_eq_true rfl⟩ (hwId rfl) rfl rfl (Nat.le_of_ble_eq_true rfl) ⟨by decide, by decide⟩ rfl rfl ⟨Nat.zero_le _, Nat.zero_le _⟩ (hpId rfl rfl) rfl ?_
      obtain rfl := Option.some.inj hf
      exact m_iret K (by decide +kernel) (Nat.zero_le _) (Nat.zero_le _) ⟨rfl, rfl⟩
    · refine m_jT M (i := .ifCond .ne 10) 31 (by decide +kernel) rfl (by decide) c_1005 ?_
      refine m_run M (is := [(31, .aload_n 0, 0), (32, .getfield 76, 0), (35, .bipush 6, 6)]) (pc' := 37) (L' := [some (.ref 0), some (.int a0), some (.int a1)]) (st' := [.int 6, .int sp.2.2.2.2.2.2.1]) (w' := (cM 0 sp tk sv mf mo mn ma kv tv)) (by decide +kernel) rfl trivial ?_
      rcases ite_s hf with ⟨c_1007, hf⟩ | ⟨c_1007, hf⟩
      · refine m_jF M (i := .if_icmp .ne 10) 47 (by decide +kernel) rfl (by decide) (fun n => n c_1007) ?_
        refine m_run M (is := [(40, .aload_n 0, 0), (41, .bipush (-6), -6)]) (pc' := 43) (L' := [some (.ref 0), some (.int a0), some (.int a1)]) (st' := [.int (-6), .ref 0]) (w' := (cM 0 sp tk sv mf mo mn ma kv tv)) (by decide +kernel) rfl trivial ?_
        obtain ⟨r1008, h_1008, hf⟩ := bnd_s hf
        refine m_cV0 M (rest := []) (w2 := (cM 0 sp tk sv r1008.2 mo mn ma kv tv)) (st2 := [.int r1008.1]) (run_X4_refuse (-6)   sp tk sv mf mo mn ma kv tv h_1008) cv_X4_refuse lk_X4_85 (by decide +kernel) (List.range 26) List.nodup_range ⟨(by rw [List.length_range]; exact Nat.le_refl _), Nat.le_of_ble_eq_true rfl⟩ (hwId rfl) rfl rfl (Nat.le_of_ble_eq_true rfl) ⟨by decide, by decide⟩ rfl rfl ⟨Nat.zero_le _, Nat.zero_le _⟩ (hpId rfl rfl) rfl ?_
        obtain rfl := Option.some.inj hf
        exact m_iret K (by decide +kernel) (Nat.zero_le _) (Nat.zero_le _) ⟨rfl, rfl⟩
      · refine m_jT M (i := .if_icmp .ne 10) 47 (by decide +kernel) rfl (by decide) c_1007 ?_
        refine m_run M (is := [(47, .aload_n 0, 0), (48, .iload_n 1, 0), (49, .iload_n 2, 0)]) (pc' := 50) (L' := [some (.ref 0), some (.int a0), some (.int a1)]) (st' := [.int a1, .int a0, .ref 0]) (w' := (cM 0 sp tk sv mf mo mn ma kv tv)) (by decide +kernel) rfl trivial ?_
        obtain ⟨r1009, h_1009, hf⟩ := bnd_s hf
        refine m_cV0 M (rest := []) (w2 := (cM 0 r1009 tk sv mf mo mn ma kv tv)) (st2 := []) (run_X4_addLaw a0 a1   sp tk sv mf mo mn ma kv tv h_1009) cv_X4_addLaw lk_X4_119 (by decide +kernel) (List.range 26) List.nodup_range ⟨(by rw [List.length_range]; exact Nat.le_refl _), Nat.le_of_ble_eq_true rfl⟩ (hwId rfl) rfl rfl (Nat.le_of_ble_eq_true rfl) ⟨by decide, by decide⟩ rfl rfl ⟨Nat.zero_le _, Nat.zero_le _⟩ (hpId rfl rfl) rfl ?_
        refine m_run M (is := [(53, .aload_n 0, 0), (54, .getfield 76, 0), (57, .iconst 1, 1), (58, .isub, 0)]) (pc' := 59) (L' := [some (.ref 0), some (.int a0), some (.int a1)]) (st' := [.int (r1009.2.2.2.2.2.2.1 - 1)]) (w' := (cM 0 r1009 tk sv mf mo mn ma kv tv)) (by decide +kernel) rfl trivial ?_
        obtain rfl := Option.some.inj hf
        exact m_iret K (by decide +kernel) (Nat.zero_le _) (Nat.zero_le _) ⟨rfl, rfl⟩

def f_X4_use (a0 : Int32) (sp : ShT) (mf : AI) : Option (Int32 × ShT × AI) :=
  (f_X4_isLaw a0 sp).bind fun r1001 =>
  if r1001 = 0 then
    (f_X4_refuse (-2) mf).bind fun r1003 =>
    some (r1003.1, sp, r1003.2)
  else
    some (sp.2.2.2.2.2.2.2.1, (sp.1, sp.2.1, sp.2.2.1, sp.2.2.2.1, sp.2.2.2.2.1, sp.2.2.2.2.2.1, sp.2.2.2.2.2.2.1, a0, sp.2.2.2.2.2.2.2.2.1, sp.2.2.2.2.2.2.2.2.2), mf)
set_option maxRecDepth 100000 in
set_option maxHeartbeats 4000000 in
theorem run_X4_use {l : Launch} {D : va_G} {cT : Nat → ClassId} (a0 : Int32)   (sp : ShT) (tk : TkT) (sv : SvT) (mf : AI) (mo : AI) (mn : AI) (ma : AI) (kv : Value) (tv : Value) {r : Int32 × ShT × AI} (hf : f_X4_use a0 sp mf = some r) : Runs l D cT yX4_use cX4_use 3 (some .int) 2 46 [.ref 0, .int a0] (cM 0 sp tk sv mf mo mn ma kv tv) (EQ (some (.int r.1)) (cM 0 r.2.1 tk sv r.2.2 mo mn ma kv tv)) := by
  refine runs_of O_X4 okO_X4 (by decide +kernel) rfl rfl (Nat.le_of_ble_eq_true rfl) (Nat.le_of_ble_eq_true rfl) (fun g K => ?_)
  have M := K.b
  show g 0 0 (cM 0 sp tk sv mf mo mn ma kv tv) 0 [some (.ref 0), some (.int a0), none] []
  rw [f_X4_use] at hf
  refine m_run M (is := [(0, .aload_n 0, 0), (1, .iload_n 1, 0)]) (pc' := 2) (L' := [some (.ref 0), some (.int a0), none]) (st' := [.int a0, .ref 0]) (w' := (cM 0 sp tk sv mf mo mn ma kv tv)) (by decide +kernel) rfl trivial ?_
  obtain ⟨r1001, h_1001, hf⟩ := bnd_s hf
  refine m_cV0 M (rest := []) (w2 := (cM 0 sp tk sv mf mo mn ma kv tv)) (st2 := [.int r1001]) (run_X4_isLaw a0   sp tk sv mf mo mn ma kv tv h_1001) cv_X4_isLaw lk_X4_96 (by decide +kernel) (List.range 26) List.nodup_range ⟨(by rw [List.length_range]; exact Nat.le_refl _), Nat.le_of_ble_eq_true rfl⟩ (hwId rfl) rfl rfl (Nat.le_of_ble_eq_true rfl) ⟨by decide, by decide⟩ rfl rfl ⟨Nat.zero_le _, Nat.zero_le _⟩ (hpId rfl rfl) rfl ?_
  rcases ite_s hf with ⟨c_1002, hf⟩ | ⟨c_1002, hf⟩
  · refine m_jF M (i := .ifCond .ne 10) 15 (by decide +kernel) rfl (by decide) (fun n => n c_1002) ?_
    refine m_run M (is := [(8, .aload_n 0, 0), (9, .bipush (-2), -2)]) (pc' := 11) (L' := [some (.ref 0), some (.int a0), none]) (st' := [.int (-2), .ref 0]) (w' := (cM 0 sp tk sv mf mo mn ma kv tv)) (by decide +kernel) rfl trivial ?_
    obtain ⟨r1003, h_1003, hf⟩ := bnd_s hf
    refine m_cV0 M (rest := []) (w2 := (cM 0 sp tk sv r1003.2 mo mn ma kv tv)) (st2 := [.int r1003.1]) (run_X4_refuse (-2)   sp tk sv mf mo mn ma kv tv h_1003) cv_X4_refuse lk_X4_85 (by decide +kernel) (List.range 26) List.nodup_range ⟨(by rw [List.length_range]; exact Nat.le_refl _), Nat.le_of_ble_eq_true rfl⟩ (hwId rfl) rfl rfl (Nat.le_of_ble_eq_true rfl) ⟨by decide, by decide⟩ rfl rfl ⟨Nat.zero_le _, Nat.zero_le _⟩ (hpId rfl rfl) rfl ?_
    obtain rfl := Option.some.inj hf
    exact m_iret K (by decide +kernel) (Nat.zero_le _) (Nat.zero_le _) ⟨rfl, rfl⟩
  · refine m_jT M (i := .ifCond .ne 10) 15 (by decide +kernel) rfl (by decide) c_1002 ?_
    refine m_run M (is := [(15, .aload_n 0, 0), (16, .getfield 123, 0), (19, .istore_n 2, 0), (20, .aload_n 0, 0), (21, .iload_n 1, 0), (22, .putfield 123, 0), (25, .iload_n 2, 0)]) (pc' := 26) (L' := [some (.ref 0), some (.int a0), some (.int sp.2.2.2.2.2.2.2.1)]) (st' := [.int sp.2.2.2.2.2.2.2.1]) (w' := (cM 0 (sp.1, sp.2.1, sp.2.2.1, sp.2.2.2.1, sp.2.2.2.2.1, sp.2.2.2.2.2.1, sp.2.2.2.2.2.2.1, a0, sp.2.2.2.2.2.2.2.2.1, sp.2.2.2.2.2.2.2.2.2) tk sv mf mo mn ma kv tv)) (by decide +kernel) rfl trivial ?_
    obtain rfl := Option.some.inj hf
    exact m_iret K (by decide +kernel) (Nat.zero_le _) (Nat.zero_le _) ⟨rfl, rfl⟩

def f_X4_tell (a0 : Int32) (a1 : Int32) (a2 : Int32) (sp : ShT) (mf : AI) : Option (Int32 × ShT × AI) :=
  if a1 = 0 then
    (f_X4_in ((a2).toInt64) 0 999).bind fun r1002 =>
    (f_X4_isPerson ((a0).toInt64) sp).bind fun r1003 =>
    if r1003 = 0 then
      (f_X4_refuse (-2) mf).bind fun r1005 =>
      some (r1005.1, sp, r1005.2)
    else
      if r1002 = 0 then
        (f_X4_refuse (-2) mf).bind fun r1007 =>
        some (r1007.1, sp, r1007.2)
      else
        if a1 = 0 then
          if inB a0 16 then
          if inB a0 16 then
          some ((sp.2.1 a0.toNatClampNeg), (sp.1, (upd sp.2.1 a0.toNatClampNeg a2), sp.2.2.1, sp.2.2.2.1, sp.2.2.2.2.1, sp.2.2.2.2.2.1, sp.2.2.2.2.2.2.1, sp.2.2.2.2.2.2.2.1, sp.2.2.2.2.2.2.2.2.1, sp.2.2.2.2.2.2.2.2.2), mf)
          else none
          else none
        else
          if inB a0 16 then
          if inB a0 16 then
          some ((sp.2.2.1 a0.toNatClampNeg), (sp.1, sp.2.1, (upd sp.2.2.1 a0.toNatClampNeg a2), sp.2.2.2.1, sp.2.2.2.2.1, sp.2.2.2.2.2.1, sp.2.2.2.2.2.2.1, sp.2.2.2.2.2.2.2.1, sp.2.2.2.2.2.2.2.2.1, sp.2.2.2.2.2.2.2.2.2), mf)
          else none
          else none
  else
    if a1 = 1 then
      (f_X4_in ((a2).toInt64) 1 99).bind fun r1014 =>
      if r1014 = 0 then
        (f_X4_isPerson ((a0).toInt64) sp).bind fun r1016 =>
        if r1016 = 0 then
          (f_X4_refuse (-2) mf).bind fun r1018 =>
          some (r1018.1, sp, r1018.2)
        else
          (f_X4_refuse (-2) mf).bind fun r1020 =>
          some (r1020.1, sp, r1020.2)
      else
        (f_X4_isPerson ((a0).toInt64) sp).bind fun r1021 =>
        if r1021 = 0 then
          (f_X4_refuse (-2) mf).bind fun r1023 =>
          some (r1023.1, sp, r1023.2)
        else
          if a1 = 0 then
            if inB a0 16 then
            if inB a0 16 then
            some ((sp.2.1 a0.toNatClampNeg), (sp.1, (upd sp.2.1 a0.toNatClampNeg a2), sp.2.2.1, sp.2.2.2.1, sp.2.2.2.2.1, sp.2.2.2.2.2.1, sp.2.2.2.2.2.2.1, sp.2.2.2.2.2.2.2.1, sp.2.2.2.2.2.2.2.2.1, sp.2.2.2.2.2.2.2.2.2), mf)
            else none
            else none
          else
            if inB a0 16 then
            if inB a0 16 then
            some ((sp.2.2.1 a0.toNatClampNeg), (sp.1, sp.2.1, (upd sp.2.2.1 a0.toNatClampNeg a2), sp.2.2.2.1, sp.2.2.2.2.1, sp.2.2.2.2.2.1, sp.2.2.2.2.2.2.1, sp.2.2.2.2.2.2.2.1, sp.2.2.2.2.2.2.2.2.1, sp.2.2.2.2.2.2.2.2.2), mf)
            else none
            else none
    else
      (f_X4_isPerson ((a0).toInt64) sp).bind fun r1030 =>
      if r1030 = 0 then
        (f_X4_refuse (-2) mf).bind fun r1032 =>
        some (r1032.1, sp, r1032.2)
      else
        (f_X4_refuse (-2) mf).bind fun r1034 =>
        some (r1034.1, sp, r1034.2)
set_option maxRecDepth 100000 in
set_option maxHeartbeats 4000000 in
theorem run_X4_tell {l : Launch} {D : va_G} {cT : Nat → ClassId} (a0 : Int32) (a1 : Int32) (a2 : Int32)   (sp : ShT) (tk : TkT) (sv : SvT) (mf : AI) (mo : AI) (mn : AI) (ma : AI) (kv : Value) (tv : Value) {r : Int32 × ShT × AI} (hf : f_X4_tell a0 a1 a2 sp mf = some r) : Runs l D cT yX4_tell cX4_tell 7 (some .int) 2 47 [.ref 0, .int a0, .int a1, .int a2] (cM 0 sp tk sv mf mo mn ma kv tv) (EQ (some (.int r.1)) (cM 0 r.2.1 tk sv r.2.2 mo mn ma kv tv)) := by
  refine runs_of O_X4 okO_X4 (by decide +kernel) rfl rfl (Nat.le_of_ble_eq_true rfl) (Nat.le_of_ble_eq_true rfl) (fun g K => ?_)
  have M := K.b
  show g 0 0 (cM 0 sp tk sv mf mo mn ma kv tv) 0 [some (.ref 0), some (.int a0), some (.int a1), some (.int a2), none, none, none] []
  rw [f_X4_tell] at hf
  refine m_run M (is := [(0, .iload_n 2, 0)]) (pc' := 1) (L' := [some (.ref 0), some (.int a0), some (.int a1), some (.int a2), none, none, none]) (st' := [.int a1]) (w' := (cM 0 sp tk sv mf mo mn ma kv tv)) (by decide +kernel) rfl trivial ?_
  rcases ite_s hf with ⟨c_1001, hf⟩ | ⟨c_1001, hf⟩
  · refine m_jF M (i := .ifCond .ne 15) 16 (by decide +kernel) rfl (by decide) (fun n => n c_1001) ?_
    refine m_run M (is := [(4, .iload_n 3, 0), (5, .i2l, 0), (6, .lconst 0, 0), (7, .ldc2_w 126, 0)]) (pc' := 10) (L' := [some (.ref 0), some (.int a0), some (.int a1), some (.int a2), none, none, none]) (st' := [.long 999, .long 0, .long ((a2).toInt64)]) (w' := (cM 0 sp tk sv mf mo mn ma kv tv)) (by decide +kernel) rfl trivial ?_
    obtain ⟨r1002, h_1002, hf⟩ := bnd_s hf
    refine m_cS0 M (rest := []) (w2 := (cM 0 sp tk sv mf mo mn ma kv tv)) (st2 := [.int r1002]) (run_X4_in ((a2).toInt64) 0 999    h_1002) cs_X4_in lk_X4_72 (by decide +kernel) [] (by decide) ⟨Nat.le_of_ble_eq_true rfl, Nat.le_of_ble_eq_true rfl⟩ rfl rfl (Nat.le_of_ble_eq_true rfl) ⟨by decide, by decide⟩ rfl rfl ⟨Nat.zero_le _, Nat.zero_le _⟩ rfl rfl ?_
    refine m_run M (is := [(13, .goto 25, 0), (38, .istore 4, 0), (40, .aload_n 0, 0), (41, .iload_n 1, 0), (42, .i2l, 0)]) (pc' := 43) (L' := [some (.ref 0), some (.int a0), some (.int a1), some (.int a2), some (.int r1002), none, none]) (st' := [.long ((a0).toInt64), .ref 0]) (w' := (cM 0 sp tk sv mf mo mn ma kv tv)) (by decide +kernel) rfl trivial ?_
    obtain ⟨r1003, h_1003, hf⟩ := bnd_s hf
    refine m_cV0 M (rest := []) (w2 := (cM 0 sp tk sv mf mo mn ma kv tv)) (st2 := [.int r1003]) (run_X4_isPerson ((a0).toInt64)   sp tk sv mf mo mn ma kv tv h_1003) cv_X4_isPerson lk_X4_130 (by decide +kernel) (List.range 26) List.nodup_range ⟨(by rw [List.length_range]; exact Nat.le_refl _), Nat.le_of_ble_eq_true rfl⟩ (hwId rfl) rfl rfl (Nat.le_of_ble_eq_true rfl) ⟨by decide, by decide⟩ rfl rfl ⟨Nat.zero_le _, Nat.zero_le _⟩ (hpId rfl rfl) rfl ?_
    rcases ite_s hf with ⟨c_1004, hf⟩ | ⟨c_1004, hf⟩
    · refine m_jT M (i := .ifCond .eq 8) 54 (by decide +kernel) rfl (by decide) c_1004 ?_
      refine m_run M (is := [(54, .aload_n 0, 0), (55, .bipush (-2), -2)]) (pc' := 57) (L' := [some (.ref 0), some (.int a0), some (.int a1), some (.int a2), some (.int r1002), none, none]) (st' := [.int (-2), .ref 0]) (w' := (cM 0 sp tk sv mf mo mn ma kv tv)) (by decide +kernel) rfl trivial ?_
      obtain ⟨r1005, h_1005, hf⟩ := bnd_s hf
      refine m_cV0 M (rest := []) (w2 := (cM 0 sp tk sv r1005.2 mo mn ma kv tv)) (st2 := [.int r1005.1]) (run_X4_refuse (-2)   sp tk sv mf mo mn ma kv tv h_1005) cv_X4_refuse lk_X4_85 (by decide +kernel) (List.range 26) List.nodup_range ⟨(by rw [List.length_range]; exact Nat.le_refl _), Nat.le_of_ble_eq_true rfl⟩ (hwId rfl) rfl rfl (Nat.le_of_ble_eq_true rfl) ⟨by decide, by decide⟩ rfl rfl ⟨Nat.zero_le _, Nat.zero_le _⟩ (hpId rfl rfl) rfl ?_
      obtain rfl := Option.some.inj hf
      exact m_iret K (by decide +kernel) (Nat.zero_le _) (Nat.zero_le _) ⟨rfl, rfl⟩
    · refine m_jF M (i := .ifCond .eq 8) 54 (by decide +kernel) rfl (by decide) c_1004 ?_
      refine m_run M (is := [(49, .iload 4, 0)]) (pc' := 51) (L' := [some (.ref 0), some (.int a0), some (.int a1), some (.int a2), some (.int r1002), none, none]) (st' := [.int r1002]) (w' := (cM 0 sp tk sv mf mo mn ma kv tv)) (by decide +kernel) rfl trivial ?_
      rcases ite_s hf with ⟨c_1006, hf⟩ | ⟨c_1006, hf⟩
      · refine m_jF M (i := .ifCond .ne 10) 61 (by decide +kernel) rfl (by decide) (fun n => n c_1006) ?_
        refine m_run M (is := [(54, .aload_n 0, 0), (55, .bipush (-2), -2)]) (pc' := 57) (L' := [some (.ref 0), some (.int a0), some (.int a1), some (.int a2), some (.int r1002), none, none]) (st' := [.int (-2), .ref 0]) (w' := (cM 0 sp tk sv mf mo mn ma kv tv)) (by decide +kernel) rfl trivial ?_
        obtain ⟨r1007, h_1007, hf⟩ := bnd_s hf
        refine m_cV0 M (rest := []) (w2 := (cM 0 sp tk sv r1007.2 mo mn ma kv tv)) (st2 := [.int r1007.1]) (run_X4_refuse (-2)   sp tk sv mf mo mn ma kv tv h_1007) cv_X4_refuse lk_X4_85 (by decide +kernel) (List.range 26) List.nodup_range ⟨(by rw [List.length_range]; exact Nat.le_refl _), Nat.le_of_ble_eq_true rfl⟩ (hwId rfl) rfl rfl (Nat.le_of_ble_eq_true rfl) ⟨by decide, by decide⟩ rfl rfl ⟨Nat.zero_le _, Nat.zero_le _⟩ (hpId rfl rfl) rfl ?_
        obtain rfl := Option.some.inj hf
        exact m_iret K (by decide +kernel) (Nat.zero_le _) (Nat.zero_le _) ⟨rfl, rfl⟩
      · refine m_jT M (i := .ifCond .ne 10) 61 (by decide +kernel) rfl (by decide) c_1006 ?_
        refine m_run M (is := [(61, .iload_n 2, 0)]) (pc' := 62) (L' := [some (.ref 0), some (.int a0), some (.int a1), some (.int a2), some (.int r1002), none, none]) (st' := [.int a1]) (w' := (cM 0 sp tk sv mf mo mn ma kv tv)) (by decide +kernel) rfl trivial ?_
        rcases ite_s hf with ⟨c_1008, hf⟩ | ⟨c_1008, hf⟩
        · refine m_jF M (i := .ifCond .ne 10) 72 (by decide +kernel) rfl (by decide) (fun n => n c_1008) ?_
          obtain ⟨h_1009, hf⟩ := grd_s hf
          obtain ⟨h_1010, hf⟩ := grd_s hf
          refine m_run M (is := [(65, .aload_n 0, 0), (66, .getfield 40, 0), (69, .goto 7, 0), (76, .astore 5, 0), (78, .aload 5, 0), (80, .iload_n 1, 0), (81, .iaload, 0), (82, .istore 6, 0), (84, .aload 5, 0), (86, .iload_n 1, 0), (87, .iload_n 3, 0), (88, .iastore, 0), (89, .iload 6, 0)]) (pc' := 91) (L' := [some (.ref 0), some (.int a0), some (.int a1), some (.int a2), some (.int r1002), some (.ref 10), some (.int (sp.2.1 a0.toNatClampNeg))]) (st' := [.int (sp.2.1 a0.toNatClampNeg)]) (w' := (cM 0 (sp.1, (upd sp.2.1 a0.toNatClampNeg a2), sp.2.2.1, sp.2.2.2.1, sp.2.2.2.2.1, sp.2.2.2.2.2.1, sp.2.2.2.2.2.2.1, sp.2.2.2.2.2.2.2.1, sp.2.2.2.2.2.2.2.2.1, sp.2.2.2.2.2.2.2.2.2) tk sv mf mo mn ma kv tv)) (by decide +kernel) rfl ⟨inB_use h_1009, inB_use h_1010, trivial⟩ ?_
          obtain rfl := Option.some.inj hf
          exact m_iret K (by decide +kernel) (Nat.zero_le _) (Nat.zero_le _) ⟨rfl, rfl⟩
        · refine m_jT M (i := .ifCond .ne 10) 72 (by decide +kernel) rfl (by decide) c_1008 ?_
          obtain ⟨h_1011, hf⟩ := grd_s hf
          obtain ⟨h_1012, hf⟩ := grd_s hf
          refine m_run M (is := [(72, .aload_n 0, 0), (73, .getfield 43, 0), (76, .astore 5, 0), (78, .aload 5, 0), (80, .iload_n 1, 0), (81, .iaload, 0), (82, .istore 6, 0), (84, .aload 5, 0), (86, .iload_n 1, 0), (87, .iload_n 3, 0), (88, .iastore, 0), (89, .iload 6, 0)]) (pc' := 91) (L' := [some (.ref 0), some (.int a0), some (.int a1), some (.int a2), some (.int r1002), some (.ref 11), some (.int (sp.2.2.1 a0.toNatClampNeg))]) (st' := [.int (sp.2.2.1 a0.toNatClampNeg)]) (w' := (cM 0 (sp.1, sp.2.1, (upd sp.2.2.1 a0.toNatClampNeg a2), sp.2.2.2.1, sp.2.2.2.2.1, sp.2.2.2.2.2.1, sp.2.2.2.2.2.2.1, sp.2.2.2.2.2.2.2.1, sp.2.2.2.2.2.2.2.2.1, sp.2.2.2.2.2.2.2.2.2) tk sv mf mo mn ma kv tv)) (by decide +kernel) rfl ⟨inB_use h_1011, inB_use h_1012, trivial⟩ ?_
          obtain rfl := Option.some.inj hf
          exact m_iret K (by decide +kernel) (Nat.zero_le _) (Nat.zero_le _) ⟨rfl, rfl⟩
  · refine m_jT M (i := .ifCond .ne 15) 16 (by decide +kernel) rfl (by decide) c_1001 ?_
    refine m_run M (is := [(16, .iload_n 2, 0), (17, .iconst 1, 1)]) (pc' := 18) (L' := [some (.ref 0), some (.int a0), some (.int a1), some (.int a2), none, none, none]) (st' := [.int 1, .int a1]) (w' := (cM 0 sp tk sv mf mo mn ma kv tv)) (by decide +kernel) rfl trivial ?_
    rcases ite_s hf with ⟨c_1013, hf⟩ | ⟨c_1013, hf⟩
    · refine m_jF M (i := .if_icmp .ne 19) 37 (by decide +kernel) rfl (by decide) (fun n => n c_1013) ?_
      refine m_run M (is := [(21, .iload_n 3, 0), (22, .i2l, 0), (23, .lconst 1, 0), (24, .ldc2_w 128, 0)]) (pc' := 27) (L' := [some (.ref 0), some (.int a0), some (.int a1), some (.int a2), none, none, none]) (st' := [.long 99, .long 1, .long ((a2).toInt64)]) (w' := (cM 0 sp tk sv mf mo mn ma kv tv)) (by decide +kernel) rfl trivial ?_
      obtain ⟨r1014, h_1014, hf⟩ := bnd_s hf
      refine m_cS0 M (rest := []) (w2 := (cM 0 sp tk sv mf mo mn ma kv tv)) (st2 := [.int r1014]) (run_X4_in ((a2).toInt64) 1 99    h_1014) cs_X4_in lk_X4_72 (by decide +kernel) [] (by decide) ⟨Nat.le_of_ble_eq_true rfl, Nat.le_of_ble_eq_true rfl⟩ rfl rfl (Nat.le_of_ble_eq_true rfl) ⟨by decide, by decide⟩ rfl rfl ⟨Nat.zero_le _, Nat.zero_le _⟩ rfl rfl ?_
      rcases ite_s hf with ⟨c_1015, hf⟩ | ⟨c_1015, hf⟩
      · refine m_jT M (i := .ifCond .eq 7) 37 (by decide +kernel) rfl (by decide) c_1015 ?_
        refine m_run M (is := [(37, .iconst 0, 0), (38, .istore 4, 0), (40, .aload_n 0, 0), (41, .iload_n 1, 0), (42, .i2l, 0)]) (pc' := 43) (L' := [some (.ref 0), some (.int a0), some (.int a1), some (.int a2), some (.int 0), none, none]) (st' := [.long ((a0).toInt64), .ref 0]) (w' := (cM 0 sp tk sv mf mo mn ma kv tv)) (by decide +kernel) rfl trivial ?_
        obtain ⟨r1016, h_1016, hf⟩ := bnd_s hf
        refine m_cV0 M (rest := []) (w2 := (cM 0 sp tk sv mf mo mn ma kv tv)) (st2 := [.int r1016]) (run_X4_isPerson ((a0).toInt64)   sp tk sv mf mo mn ma kv tv h_1016) cv_X4_isPerson lk_X4_130 (by decide +kernel) (List.range 26) List.nodup_range ⟨(by rw [List.length_range]; exact Nat.le_refl _), Nat.le_of_ble_eq_true rfl⟩ (hwId rfl) rfl rfl (Nat.le_of_ble_eq_true rfl) ⟨by decide, by decide⟩ rfl rfl ⟨Nat.zero_le _, Nat.zero_le _⟩ (hpId rfl rfl) rfl ?_
        rcases ite_s hf with ⟨c_1017, hf⟩ | ⟨c_1017, hf⟩
        · refine m_jT M (i := .ifCond .eq 8) 54 (by decide +kernel) rfl (by decide) c_1017 ?_
          refine m_run M (is := [(54, .aload_n 0, 0), (55, .bipush (-2), -2)]) (pc' := 57) (L' := [some (.ref 0), some (.int a0), some (.int a1), some (.int a2), some (.int 0), none, none]) (st' := [.int (-2), .ref 0]) (w' := (cM 0 sp tk sv mf mo mn ma kv tv)) (by decide +kernel) rfl trivial ?_
          obtain ⟨r1018, h_1018, hf⟩ := bnd_s hf
          refine m_cV0 M (rest := []) (w2 := (cM 0 sp tk sv r1018.2 mo mn ma kv tv)) (st2 := [.int r1018.1]) (run_X4_refuse (-2)   sp tk sv mf mo mn ma kv tv h_1018) cv_X4_refuse lk_X4_85 (by decide +kernel) (List.range 26) List.nodup_range ⟨(by rw [List.length_range]; exact Nat.le_refl _), Nat.le_of_ble_eq_true rfl⟩ (hwId rfl) rfl rfl (Nat.le_of_ble_eq_true rfl) ⟨by decide, by decide⟩ rfl rfl ⟨Nat.zero_le _, Nat.zero_le _⟩ (hpId rfl rfl) rfl ?_
          obtain rfl := Option.some.inj hf
          exact m_iret K (by decide +kernel) (Nat.zero_le _) (Nat.zero_le _) ⟨rfl, rfl⟩
        · refine m_jF M (i := .ifCond .eq 8) 54 (by decide +kernel) rfl (by decide) c_1017 ?_
          refine m_run M (is := [(49, .iload 4, 0)]) (pc' := 51) (L' := [some (.ref 0), some (.int a0), some (.int a1), some (.int a2), some (.int 0), none, none]) (st' := [.int 0]) (w' := (cM 0 sp tk sv mf mo mn ma kv tv)) (by decide +kernel) rfl trivial ?_
          refine m_jF M (i := .ifCond .ne 10) 61 (by decide +kernel) rfl (by decide) (by decide) ?_
          refine m_run M (is := [(54, .aload_n 0, 0), (55, .bipush (-2), -2)]) (pc' := 57) (L' := [some (.ref 0), some (.int a0), some (.int a1), some (.int a2), some (.int 0), none, none]) (st' := [.int (-2), .ref 0]) (w' := (cM 0 sp tk sv mf mo mn ma kv tv)) (by decide +kernel) rfl trivial ?_
          obtain ⟨r1020, h_1020, hf⟩ := bnd_s hf
          refine m_cV0 M (rest := []) (w2 := (cM 0 sp tk sv r1020.2 mo mn ma kv tv)) (st2 := [.int r1020.1]) (run_X4_refuse (-2)   sp tk sv mf mo mn ma kv tv h_1020) cv_X4_refuse lk_X4_85 (by decide +kernel) (List.range 26) List.nodup_range ⟨(by rw [List.length_range]; exact Nat.le_refl _), Nat.le_of_ble_eq_true rfl⟩ (hwId rfl) rfl rfl (Nat.le_of_ble_eq_true rfl) ⟨by decide, by decide⟩ rfl rfl ⟨Nat.zero_le _, Nat.zero_le _⟩ (hpId rfl rfl) rfl ?_
          obtain rfl := Option.some.inj hf
          exact m_iret K (by decide +kernel) (Nat.zero_le _) (Nat.zero_le _) ⟨rfl, rfl⟩
      · refine m_jF M (i := .ifCond .eq 7) 37 (by decide +kernel) rfl (by decide) c_1015 ?_
        refine m_run M (is := [(33, .iconst 1, 1), (34, .goto 4, 0), (38, .istore 4, 0), (40, .aload_n 0, 0), (41, .iload_n 1, 0), (42, .i2l, 0)]) (pc' := 43) (L' := [some (.ref 0), some (.int a0), some (.int a1), some (.int a2), some (.int 1), none, none]) (st' := [.long ((a0).toInt64), .ref 0]) (w' := (cM 0 sp tk sv mf mo mn ma kv tv)) (by decide +kernel) rfl trivial ?_
        obtain ⟨r1021, h_1021, hf⟩ := bnd_s hf
        refine m_cV0 M (rest := []) (w2 := (cM 0 sp tk sv mf mo mn ma kv tv)) (st2 := [.int r1021]) (run_X4_isPerson ((a0).toInt64)   sp tk sv mf mo mn ma kv tv h_1021) cv_X4_isPerson lk_X4_130 (by decide +kernel) (List.range 26) List.nodup_range ⟨(by rw [List.length_range]; exact Nat.le_refl _), Nat.le_of_ble_eq_true rfl⟩ (hwId rfl) rfl rfl (Nat.le_of_ble_eq_true rfl) ⟨by decide, by decide⟩ rfl rfl ⟨Nat.zero_le _, Nat.zero_le _⟩ (hpId rfl rfl) rfl ?_
        rcases ite_s hf with ⟨c_1022, hf⟩ | ⟨c_1022, hf⟩
        · refine m_jT M (i := .ifCond .eq 8) 54 (by decide +kernel) rfl (by decide) c_1022 ?_
          refine m_run M (is := [(54, .aload_n 0, 0), (55, .bipush (-2), -2)]) (pc' := 57) (L' := [some (.ref 0), some (.int a0), some (.int a1), some (.int a2), some (.int 1), none, none]) (st' := [.int (-2), .ref 0]) (w' := (cM 0 sp tk sv mf mo mn ma kv tv)) (by decide +kernel) rfl trivial ?_
          obtain ⟨r1023, h_1023, hf⟩ := bnd_s hf
          refine m_cV0 M (rest := []) (w2 := (cM 0 sp tk sv r1023.2 mo mn ma kv tv)) (st2 := [.int r1023.1]) (run_X4_refuse (-2)   sp tk sv mf mo mn ma kv tv h_1023) cv_X4_refuse lk_X4_85 (by decide +kernel) (List.range 26) List.nodup_range ⟨(by rw [List.length_range]; exact Nat.le_refl _), Nat.le_of_ble_eq_true rfl⟩ (hwId rfl) rfl rfl (Nat.le_of_ble_eq_true rfl) ⟨by decide, by decide⟩ rfl rfl ⟨Nat.zero_le _, Nat.zero_le _⟩ (hpId rfl rfl) rfl ?_
          obtain rfl := Option.some.inj hf
          exact m_iret K (by decide +kernel) (Nat.zero_le _) (Nat.zero_le _) ⟨rfl, rfl⟩
        · refine m_jF M (i := .ifCond .eq 8) 54 (by decide +kernel) rfl (by decide) c_1022 ?_
          refine m_run M (is := [(49, .iload 4, 0)]) (pc' := 51) (L' := [some (.ref 0), some (.int a0), some (.int a1), some (.int a2), some (.int 1), none, none]) (st' := [.int 1]) (w' := (cM 0 sp tk sv mf mo mn ma kv tv)) (by decide +kernel) rfl trivial ?_
          refine m_jT M (i := .ifCond .ne 10) 61 (by decide +kernel) rfl (by decide) (by decide) ?_
          refine m_run M (is := [(61, .iload_n 2, 0)]) (pc' := 62) (L' := [some (.ref 0), some (.int a0), some (.int a1), some (.int a2), some (.int 1), none, none]) (st' := [.int a1]) (w' := (cM 0 sp tk sv mf mo mn ma kv tv)) (by decide +kernel) rfl trivial ?_
          rcases ite_s hf with ⟨c_1025, hf⟩ | ⟨c_1025, hf⟩
          · refine m_jF M (i := .ifCond .ne 10) 72 (by decide +kernel) rfl (by decide) (fun n => n c_1025) ?_
            obtain ⟨h_1026, hf⟩ := grd_s hf
            obtain ⟨h_1027, hf⟩ := grd_s hf
            refine m_run M (is := [(65, .aload_n 0, 0), (66, .getfield 40, 0), (69, .goto 7, 0), (76, .astore 5, 0), (78, .aload 5, 0), (80, .iload_n 1, 0), (81, .iaload, 0), (82, .istore 6, 0), (84, .aload 5, 0), (86, .iload_n 1, 0), (87, .iload_n 3, 0), (88, .iastore, 0), (89, .iload 6, 0)]) (pc' := 91) (L' := [some (.ref 0), some (.int a0), some (.int a1), some (.int a2), some (.int 1), some (.ref 10), some (.int (sp.2.1 a0.toNatClampNeg))]) (st' := [.int (sp.2.1 a0.toNatClampNeg)]) (w' := (cM 0 (sp.1, (upd sp.2.1 a0.toNatClampNeg a2), sp.2.2.1, sp.2.2.2.1, sp.2.2.2.2.1, sp.2.2.2.2.2.1, sp.2.2.2.2.2.2.1, sp.2.2.2.2.2.2.2.1, sp.2.2.2.2.2.2.2.2.1, sp.2.2.2.2.2.2.2.2.2) tk sv mf mo mn ma kv tv)) (by decide +kernel) rfl ⟨inB_use h_1026, inB_use h_1027, trivial⟩ ?_
            obtain rfl := Option.some.inj hf
            exact m_iret K (by decide +kernel) (Nat.zero_le _) (Nat.zero_le _) ⟨rfl, rfl⟩
          · refine m_jT M (i := .ifCond .ne 10) 72 (by decide +kernel) rfl (by decide) c_1025 ?_
            obtain ⟨h_1028, hf⟩ := grd_s hf
            obtain ⟨h_1029, hf⟩ := grd_s hf
            refine m_run M (is := [(72, .aload_n 0, 0), (73, .getfield 43, 0), (76, .astore 5, 0), (78, .aload 5, 0), (80, .iload_n 1, 0), (81, .iaload, 0), (82, .istore 6, 0), (84, .aload 5, 0), (86, .iload_n 1, 0), (87, .iload_n 3, 0), (88, .iastore, 0), (89, .iload 6, 0)]) (pc' := 91) (L' := [some (.ref 0), some (.int a0), some (.int a1), some (.int a2), some (.int 1), some (.ref 11), some (.int (sp.2.2.1 a0.toNatClampNeg))]) (st' := [.int (sp.2.2.1 a0.toNatClampNeg)]) (w' := (cM 0 (sp.1, sp.2.1, (upd sp.2.2.1 a0.toNatClampNeg a2), sp.2.2.2.1, sp.2.2.2.2.1, sp.2.2.2.2.2.1, sp.2.2.2.2.2.2.1, sp.2.2.2.2.2.2.2.1, sp.2.2.2.2.2.2.2.2.1, sp.2.2.2.2.2.2.2.2.2) tk sv mf mo mn ma kv tv)) (by decide +kernel) rfl ⟨inB_use h_1028, inB_use h_1029, trivial⟩ ?_
            obtain rfl := Option.some.inj hf
            exact m_iret K (by decide +kernel) (Nat.zero_le _) (Nat.zero_le _) ⟨rfl, rfl⟩
    · refine m_jT M (i := .if_icmp .ne 19) 37 (by decide +kernel) rfl (by decide) c_1013 ?_
      refine m_run M (is := [(37, .iconst 0, 0), (38, .istore 4, 0), (40, .aload_n 0, 0), (41, .iload_n 1, 0), (42, .i2l, 0)]) (pc' := 43) (L' := [some (.ref 0), some (.int a0), some (.int a1), some (.int a2), some (.int 0), none, none]) (st' := [.long ((a0).toInt64), .ref 0]) (w' := (cM 0 sp tk sv mf mo mn ma kv tv)) (by decide +kernel) rfl trivial ?_
      obtain ⟨r1030, h_1030, hf⟩ := bnd_s hf
      refine m_cV0 M (rest := []) (w2 := (cM 0 sp tk sv mf mo mn ma kv tv)) (st2 := [.int r1030]) (run_X4_isPerson ((a0).toInt64)   sp tk sv mf mo mn ma kv tv h_1030) cv_X4_isPerson lk_X4_130 (by decide +kernel) (List.range 26) List.nodup_range ⟨(by rw [List.length_range]; exact Nat.le_refl _), Nat.le_of_ble_eq_true rfl⟩ (hwId rfl) rfl rfl (Nat.le_of_ble_eq_true rfl) ⟨by decide, by decide⟩ rfl rfl ⟨Nat.zero_le _, Nat.zero_le _⟩ (hpId rfl rfl) rfl ?_
      rcases ite_s hf with ⟨c_1031, hf⟩ | ⟨c_1031, hf⟩
      · refine m_jT M (i := .ifCond .eq 8) 54 (by decide +kernel) rfl (by decide) c_1031 ?_
        refine m_run M (is := [(54, .aload_n 0, 0), (55, .bipush (-2), -2)]) (pc' := 57) (L' := [some (.ref 0), some (.int a0), some (.int a1), some (.int a2), some (.int 0), none, none]) (st' := [.int (-2), .ref 0]) (w' := (cM 0 sp tk sv mf mo mn ma kv tv)) (by decide +kernel) rfl trivial ?_
        obtain ⟨r1032, h_1032, hf⟩ := bnd_s hf
        refine m_cV0 M (rest := []) (w2 := (cM 0 sp tk sv r1032.2 mo mn ma kv tv)) (st2 := [.int r1032.1]) (run_X4_refuse (-2)   sp tk sv mf mo mn ma kv tv h_1032) cv_X4_refuse lk_X4_85 (by decide +kernel) (List.range 26) List.nodup_range ⟨(by rw [List.length_range]; exact Nat.le_refl _), Nat.le_of_ble_eq_true rfl⟩ (hwId rfl) rfl rfl (Nat.le_of_ble_eq_true rfl) ⟨by decide, by decide⟩ rfl rfl ⟨Nat.zero_le _, Nat.zero_le _⟩ (hpId rfl rfl) rfl ?_
        obtain rfl := Option.some.inj hf
        exact m_iret K (by decide +kernel) (Nat.zero_le _) (Nat.zero_le _) ⟨rfl, rfl⟩
      · refine m_jF M (i := .ifCond .eq 8) 54 (by decide +kernel) rfl (by decide) c_1031 ?_
        refine m_run M (is := [(49, .iload 4, 0)]) (pc' := 51) (L' := [some (.ref 0), some (.int a0), some (.int a1), some (.int a2), some (.int 0), none, none]) (st' := [.int 0]) (w' := (cM 0 sp tk sv mf mo mn ma kv tv)) (by decide +kernel) rfl trivial ?_
        refine m_jF M (i := .ifCond .ne 10) 61 (by decide +kernel) rfl (by decide) (by decide) ?_
        refine m_run M (is := [(54, .aload_n 0, 0), (55, .bipush (-2), -2)]) (pc' := 57) (L' := [some (.ref 0), some (.int a0), some (.int a1), some (.int a2), some (.int 0), none, none]) (st' := [.int (-2), .ref 0]) (w' := (cM 0 sp tk sv mf mo mn ma kv tv)) (by decide +kernel) rfl trivial ?_
        obtain ⟨r1034, h_1034, hf⟩ := bnd_s hf
        refine m_cV0 M (rest := []) (w2 := (cM 0 sp tk sv r1034.2 mo mn ma kv tv)) (st2 := [.int r1034.1]) (run_X4_refuse (-2)   sp tk sv mf mo mn ma kv tv h_1034) cv_X4_refuse lk_X4_85 (by decide +kernel) (List.range 26) List.nodup_range ⟨(by rw [List.length_range]; exact Nat.le_refl _), Nat.le_of_ble_eq_true rfl⟩ (hwId rfl) rfl rfl (Nat.le_of_ble_eq_true rfl) ⟨by decide, by decide⟩ rfl rfl ⟨Nat.zero_le _, Nat.zero_le _⟩ (hpId rfl rfl) rfl ?_
        obtain rfl := Option.some.inj hf
        exact m_iret K (by decide +kernel) (Nat.zero_le _) (Nat.zero_le _) ⟨rfl, rfl⟩

def f_X4_feed (a0 : Int32) (tk : TkT) (mf : AI) : Option (Int32 × TkT × AI) :=
  (f_X4_in ((a0).toInt64) 0 255).bind fun r1001 =>
  if r1001 = 0 then
    (f_X4_refuse (-2) mf).bind fun r1003 =>
    some (r1003.1, tk, r1003.2)
  else
    if tk.2.2.1 = 250 then
      (f_X4_refuse (-6) mf).bind fun r1005 =>
      some (r1005.1, tk, r1005.2)
    else
      if inB tk.2.2.1 250 then
      some ((tk.2.2.1 + 1), ((upd tk.1 tk.2.2.1.toNatClampNeg a0), tk.2.1, (tk.2.2.1 + 1), tk.2.2.2.1, tk.2.2.2.2.1, tk.2.2.2.2.2.1, tk.2.2.2.2.2.2.1, tk.2.2.2.2.2.2.2.1, tk.2.2.2.2.2.2.2.2), mf)
      else none
set_option maxRecDepth 100000 in
set_option maxHeartbeats 4000000 in
theorem run_X4_feed {l : Launch} {D : va_G} {cT : Nat → ClassId} (a0 : Int32)   (sp : ShT) (tk : TkT) (sv : SvT) (mf : AI) (mo : AI) (mn : AI) (ma : AI) (kv : Value) (tv : Value) {r : Int32 × TkT × AI} (hf : f_X4_feed a0 tk mf = some r) : Runs l D cT yX4_feed cX4_feed 2 (some .int) 1 25 [.ref 0, .int a0] (cM 0 sp tk sv mf mo mn ma kv tv) (EQ (some (.int r.1)) (cM 0 sp r.2.1 sv r.2.2 mo mn ma kv tv)) := by
  refine runs_of O_X4 okO_X4 (by decide +kernel) rfl rfl (Nat.le_of_ble_eq_true rfl) (Nat.le_of_ble_eq_true rfl) (fun g K => ?_)
  have M := K.b
  show g 0 0 (cM 0 sp tk sv mf mo mn ma kv tv) 0 [some (.ref 0), some (.int a0)] []
  rw [f_X4_feed] at hf
  refine m_run M (is := [(0, .iload_n 1, 0), (1, .i2l, 0), (2, .lconst 0, 0), (3, .ldc2_w 134, 0)]) (pc' := 6) (L' := [some (.ref 0), some (.int a0)]) (st' := [.long 255, .long 0, .long ((a0).toInt64)]) (w' := (cM 0 sp tk sv mf mo mn ma kv tv)) (by decide +kernel) rfl trivial ?_
  obtain ⟨r1001, h_1001, hf⟩ := bnd_s hf
  refine m_cS0 M (rest := []) (w2 := (cM 0 sp tk sv mf mo mn ma kv tv)) (st2 := [.int r1001]) (run_X4_in ((a0).toInt64) 0 255    h_1001) cs_X4_in lk_X4_72 (by decide +kernel) [] (by decide) ⟨Nat.le_of_ble_eq_true rfl, Nat.le_of_ble_eq_true rfl⟩ rfl rfl (Nat.le_of_ble_eq_true rfl) ⟨by decide, by decide⟩ rfl rfl ⟨Nat.zero_le _, Nat.zero_le _⟩ rfl rfl ?_
  rcases ite_s hf with ⟨c_1002, hf⟩ | ⟨c_1002, hf⟩
  · refine m_jF M (i := .ifCond .ne 10) 19 (by decide +kernel) rfl (by decide) (fun n => n c_1002) ?_
    refine m_run M (is := [(12, .aload_n 0, 0), (13, .bipush (-2), -2)]) (pc' := 15) (L' := [some (.ref 0), some (.int a0)]) (st' := [.int (-2), .ref 0]) (w' := (cM 0 sp tk sv mf mo mn ma kv tv)) (by decide +kernel) rfl trivial ?_
    obtain ⟨r1003, h_1003, hf⟩ := bnd_s hf
    refine m_cV0 M (rest := []) (w2 := (cM 0 sp tk sv r1003.2 mo mn ma kv tv)) (st2 := [.int r1003.1]) (run_X4_refuse (-2)   sp tk sv mf mo mn ma kv tv h_1003) cv_X4_refuse lk_X4_85 (by decide +kernel) (List.range 26) List.nodup_range ⟨(by rw [List.length_range]; exact Nat.le_refl _), Nat.le_of_ble_eq_true rfl⟩ (hwId rfl) rfl rfl (Nat.le_of_ble_eq_true rfl) ⟨by decide, by decide⟩ rfl rfl ⟨Nat.zero_le _, Nat.zero_le _⟩ (hpId rfl rfl) rfl ?_
    obtain rfl := Option.some.inj hf
    exact m_iret K (by decide +kernel) (Nat.zero_le _) (Nat.zero_le _) ⟨rfl, rfl⟩
  · refine m_jT M (i := .ifCond .ne 10) 19 (by decide +kernel) rfl (by decide) c_1002 ?_
    refine m_run M (is := [(19, .aload_n 0, 0), (20, .getfield 136, 0), (23, .sipush 250, 250)]) (pc' := 26) (L' := [some (.ref 0), some (.int a0)]) (st' := [.int 250, .int tk.2.2.1]) (w' := (cM 0 sp tk sv mf mo mn ma kv tv)) (by decide +kernel) rfl trivial ?_
    rcases ite_s hf with ⟨c_1004, hf⟩ | ⟨c_1004, hf⟩
    · refine m_jF M (i := .if_icmp .ne 10) 36 (by decide +kernel) rfl (by decide) (fun n => n c_1004) ?_
      refine m_run M (is := [(29, .aload_n 0, 0), (30, .bipush (-6), -6)]) (pc' := 32) (L' := [some (.ref 0), some (.int a0)]) (st' := [.int (-6), .ref 0]) (w' := (cM 0 sp tk sv mf mo mn ma kv tv)) (by decide +kernel) rfl trivial ?_
      obtain ⟨r1005, h_1005, hf⟩ := bnd_s hf
      refine m_cV0 M (rest := []) (w2 := (cM 0 sp tk sv r1005.2 mo mn ma kv tv)) (st2 := [.int r1005.1]) (run_X4_refuse (-6)   sp tk sv mf mo mn ma kv tv h_1005) cv_X4_refuse lk_X4_85 (by decide +kernel) (List.range 26) List.nodup_range ⟨(by rw [List.length_range]; exact Nat.le_refl _), Nat.le_of_ble_eq_true rfl⟩ (hwId rfl) rfl rfl (Nat.le_of_ble_eq_true rfl) ⟨by decide, by decide⟩ rfl rfl ⟨Nat.zero_le _, Nat.zero_le _⟩ (hpId rfl rfl) rfl ?_
      obtain rfl := Option.some.inj hf
      exact m_iret K (by decide +kernel) (Nat.zero_le _) (Nat.zero_le _) ⟨rfl, rfl⟩
    · refine m_jT M (i := .if_icmp .ne 10) 36 (by decide +kernel) rfl (by decide) c_1004 ?_
      obtain ⟨h_1006, hf⟩ := grd_s hf
      refine m_run M (is := [(36, .aload_n 0, 0), (37, .getfield 31, 0), (40, .aload_n 0, 0), (41, .dup, 0), (42, .getfield 136, 0), (45, .dup_x1, 0), (46, .iconst 1, 1), (47, .iadd, 0), (48, .putfield 136, 0), (51, .iload_n 1, 0), (52, .iastore, 0), (53, .aload_n 0, 0), (54, .getfield 136, 0)]) (pc' := 57) (L' := [some (.ref 0), some (.int a0)]) (st' := [.int (tk.2.2.1 + 1)]) (w' := (cM 0 sp ((upd tk.1 tk.2.2.1.toNatClampNeg a0), tk.2.1, (tk.2.2.1 + 1), tk.2.2.2.1, tk.2.2.2.2.1, tk.2.2.2.2.2.1, tk.2.2.2.2.2.2.1, tk.2.2.2.2.2.2.2.1, tk.2.2.2.2.2.2.2.2) sv mf mo mn ma kv tv)) (by decide +kernel) rfl ⟨inB_use h_1006, trivial⟩ ?_
      obtain rfl := Option.some.inj hf
      exact m_iret K (by decide +kernel) (Nat.zero_le _) (Nat.zero_le _) ⟨rfl, rfl⟩

def f_X4_wipe (tk : TkT) : Option (Int32 × TkT) :=
  some (tk.2.2.1, (tk.1, tk.2.1, 0, tk.2.2.2.1, tk.2.2.2.2.1, tk.2.2.2.2.2.1, tk.2.2.2.2.2.2.1, tk.2.2.2.2.2.2.2.1, tk.2.2.2.2.2.2.2.2))
set_option maxRecDepth 100000 in
set_option maxHeartbeats 4000000 in
theorem run_X4_wipe {l : Launch} {D : va_G} {cT : Nat → ClassId}    (sp : ShT) (tk : TkT) (sv : SvT) (mf : AI) (mo : AI) (mn : AI) (ma : AI) (kv : Value) (tv : Value) {r : Int32 × TkT} (hf : f_X4_wipe tk = some r) : Runs l D cT yX4_wipe cX4_wipe 2 (some .int) 0 0 [.ref 0] (cM 0 sp tk sv mf mo mn ma kv tv) (EQ (some (.int r.1)) (cM 0 sp r.2 sv mf mo mn ma kv tv)) := by
  refine runs_of O_X4 okO_X4 (by decide +kernel) rfl rfl (Nat.le_of_ble_eq_true rfl) (Nat.le_of_ble_eq_true rfl) (fun g K => ?_)
  have M := K.b
  show g 0 0 (cM 0 sp tk sv mf mo mn ma kv tv) 0 [some (.ref 0), none] []
  rw [f_X4_wipe] at hf
  refine m_run M (is := [(0, .aload_n 0, 0), (1, .getfield 136, 0), (4, .istore_n 1, 0), (5, .aload_n 0, 0), (6, .iconst 0, 0), (7, .putfield 136, 0), (10, .iload_n 1, 0)]) (pc' := 11) (L' := [some (.ref 0), some (.int tk.2.2.1)]) (st' := [.int tk.2.2.1]) (w' := (cM 0 sp (tk.1, tk.2.1, 0, tk.2.2.2.1, tk.2.2.2.2.1, tk.2.2.2.2.2.1, tk.2.2.2.2.2.2.1, tk.2.2.2.2.2.2.2.1, tk.2.2.2.2.2.2.2.2) sv mf mo mn ma kv tv)) (by decide +kernel) rfl trivial ?_
  obtain rfl := Option.some.inj hf
  exact m_iret K (by decide +kernel) (Nat.zero_le _) (Nat.zero_le _) ⟨rfl, rfl⟩

def f_X4_look_L1  : Nat → TkT → Option (TkT)
  | 0, _ => none
  | n_ + 1, tk =>
    if tk.2.2.1 ≤ tk.2.2.2.1 then
      some tk
    else
      if inB tk.2.2.2.1 250 then
      (f_X4_isLetter (tk.1 tk.2.2.2.1.toNatClampNeg)).bind fun r203 =>
      if r203 = 0 then
        some tk
      else
        f_X4_look_L1 n_ (tk.1, tk.2.1, tk.2.2.1, (tk.2.2.2.1 + 1), tk.2.2.2.2.1, tk.2.2.2.2.2.1, tk.2.2.2.2.2.2.1, tk.2.2.2.2.2.2.2.1, tk.2.2.2.2.2.2.2.2)
      else none
def f_X4_look_L2  : Nat → TkT → Option (TkT)
  | 0, _ => none
  | n_ + 1, tk =>
    if tk.2.2.1 ≤ tk.2.2.2.1 then
      some tk
    else
      if inB tk.2.2.2.1 250 then
      (f_X4_isDigit (tk.1 tk.2.2.2.1.toNatClampNeg)).bind fun r303 =>
      if r303 = 0 then
        some tk
      else
        if 3 ≤ (tk.2.2.2.1 - tk.2.2.2.2.2.1) then
          f_X4_look_L2 n_ (tk.1, tk.2.1, tk.2.2.1, (tk.2.2.2.1 + 1), tk.2.2.2.2.1, tk.2.2.2.2.2.1, 10000, tk.2.2.2.2.2.2.2.1, tk.2.2.2.2.2.2.2.2)
        else
          if inB tk.2.2.2.1 250 then
          f_X4_look_L2 n_ (tk.1, tk.2.1, tk.2.2.1, (tk.2.2.2.1 + 1), tk.2.2.2.2.1, tk.2.2.2.2.2.1, (((tk.2.2.2.2.2.2.1 * 10) + (tk.1 tk.2.2.2.1.toNatClampNeg)) - 48), tk.2.2.2.2.2.2.2.1, tk.2.2.2.2.2.2.2.2)
          else none
      else none
def f_X4_look_L0  : Nat → TkT → Option (TkT)
  | 0, _ => none
  | n_ + 1, tk =>
    if tk.2.2.1 ≤ tk.2.2.2.1 then
      if tk.2.2.2.1 = tk.2.2.1 then
        some (tk.1, tk.2.1, tk.2.2.1, tk.2.2.2.1, 0, tk.2.2.2.1, 0, tk.2.2.2.2.2.2.2.1, tk.2.2.2.2.2.2.2.2)
      else
        if inB tk.2.2.2.1 250 then
        (f_X4_isLetter (tk.1 tk.2.2.2.1.toNatClampNeg)).bind fun r104 =>
        if r104 = 0 then
          if inB tk.2.2.2.1 250 then
          (f_X4_isDigit (tk.1 tk.2.2.2.1.toNatClampNeg)).bind fun r107 =>
          if r107 = 0 then
            if inB tk.2.2.2.1 250 then
            if (tk.1 tk.2.2.2.1.toNatClampNeg) = 59 then
              some (tk.1, tk.2.1, tk.2.2.1, (tk.2.2.2.1 + 1), 3, tk.2.2.2.1, 0, tk.2.2.2.2.2.2.2.1, tk.2.2.2.2.2.2.2.2)
            else
              some (tk.1, tk.2.1, tk.2.2.1, (tk.2.2.2.1 + 1), 4, tk.2.2.2.1, 0, tk.2.2.2.2.2.2.2.1, tk.2.2.2.2.2.2.2.2)
            else none
          else
            f_X4_look_L2 fuel0 (tk.1, tk.2.1, tk.2.2.1, tk.2.2.2.1, 2, tk.2.2.2.1, 0, tk.2.2.2.2.2.2.2.1, tk.2.2.2.2.2.2.2.2)
          else none
        else
          f_X4_look_L1 fuel0 (tk.1, tk.2.1, tk.2.2.1, tk.2.2.2.1, 1, tk.2.2.2.1, 0, tk.2.2.2.2.2.2.2.1, tk.2.2.2.2.2.2.2.2)
        else none
    else
      if inB tk.2.2.2.1 250 then
      if (tk.1 tk.2.2.2.1.toNatClampNeg) = 32 then
        f_X4_look_L0 n_ (tk.1, tk.2.1, tk.2.2.1, (tk.2.2.2.1 + 1), tk.2.2.2.2.1, tk.2.2.2.2.2.1, tk.2.2.2.2.2.2.1, tk.2.2.2.2.2.2.2.1, tk.2.2.2.2.2.2.2.2)
      else
        if tk.2.2.2.1 = tk.2.2.1 then
          some (tk.1, tk.2.1, tk.2.2.1, tk.2.2.2.1, 0, tk.2.2.2.1, 0, tk.2.2.2.2.2.2.2.1, tk.2.2.2.2.2.2.2.2)
        else
          if inB tk.2.2.2.1 250 then
          (f_X4_isLetter (tk.1 tk.2.2.2.1.toNatClampNeg)).bind fun r115 =>
          if r115 = 0 then
            if inB tk.2.2.2.1 250 then
            (f_X4_isDigit (tk.1 tk.2.2.2.1.toNatClampNeg)).bind fun r118 =>
            if r118 = 0 then
              if inB tk.2.2.2.1 250 then
              if (tk.1 tk.2.2.2.1.toNatClampNeg) = 59 then
                some (tk.1, tk.2.1, tk.2.2.1, (tk.2.2.2.1 + 1), 3, tk.2.2.2.1, 0, tk.2.2.2.2.2.2.2.1, tk.2.2.2.2.2.2.2.2)
              else
                some (tk.1, tk.2.1, tk.2.2.1, (tk.2.2.2.1 + 1), 4, tk.2.2.2.1, 0, tk.2.2.2.2.2.2.2.1, tk.2.2.2.2.2.2.2.2)
              else none
            else
              f_X4_look_L2 fuel0 (tk.1, tk.2.1, tk.2.2.1, tk.2.2.2.1, 2, tk.2.2.2.1, 0, tk.2.2.2.2.2.2.2.1, tk.2.2.2.2.2.2.2.2)
            else none
          else
            f_X4_look_L1 fuel0 (tk.1, tk.2.1, tk.2.2.1, tk.2.2.2.1, 1, tk.2.2.2.1, 0, tk.2.2.2.2.2.2.2.1, tk.2.2.2.2.2.2.2.2)
          else none
      else none
def f_X4_look (tk : TkT) : Option (TkT) :=
  f_X4_look_L0 fuel0 tk
set_option maxRecDepth 100000 in
set_option maxHeartbeats 4000000 in
theorem run_X4_look {l : Launch} {D : va_G} {cT : Nat → ClassId}    (sp : ShT) (tk : TkT) (sv : SvT) (mf : AI) (mo : AI) (mn : AI) (ma : AI) (kv : Value) (tv : Value) {r : TkT} (hf : f_X4_look tk = some r) : Runs l D cT yX4_look cX4_look 1 none 1 20 [.ref 0] (cM 0 sp tk sv mf mo mn ma kv tv) (EQ none (cM 0 sp r sv mf mo mn ma kv tv)) := by
  refine runs_of O_X4 okO_X4 (by decide +kernel) rfl rfl (Nat.le_of_ble_eq_true rfl) (Nat.le_of_ble_eq_true rfl) (fun g K => ?_)
  have M := K.b
  show g 0 0 (cM 0 sp tk sv mf mo mn ma kv tv) 0 [some (.ref 0)] []
  have loop_1 : ∀ (n_ : Nat), (∀ (tk : TkT), f_X4_look_L1  n_ tk = some r → g 0 0 (cM 0 sp tk sv mf mo mn ma kv tv) 90 [some (.ref 0)] []) := by
    intro n_
    induction n_ with
    | zero => intro tk hf; cases hf
    | succ n_ ih =>
      intro tk hf
      rw [f_X4_look_L1] at hf
      refine m_run M (is := [(90, .aload_n 0, 0), (91, .getfield 139, 0), (94, .aload_n 0, 0), (95, .getfield 136, 0)]) (pc' := 98) (L' := [some (.ref 0)]) (st' := [.int tk.2.2.1, .int tk.2.2.2.1]) (w' := (cM 0 sp tk sv mf mo mn ma kv tv)) (by decide +kernel) rfl trivial ?_
      rcases ite_s hf with ⟨c_201, hf⟩ | ⟨c_201, hf⟩
      · refine m_jT M (i := .if_icmp .ge 166) 264 (by decide +kernel) rfl (by decide) c_201 ?_
        obtain rfl := Option.some.inj hf
        exact m_vret K (by decide +kernel) (Nat.zero_le _) (Nat.zero_le _) ⟨rfl, rfl⟩
      · refine m_jF M (i := .if_icmp .ge 166) 264 (by decide +kernel) rfl (by decide) c_201 ?_
        obtain ⟨h_202, hf⟩ := grd_s hf
        refine m_run M (is := [(101, .aload_n 0, 0), (102, .getfield 31, 0), (105, .aload_n 0, 0), (106, .getfield 139, 0), (109, .iaload, 0)]) (pc' := 110) (L' := [some (.ref 0)]) (st' := [.int (tk.1 tk.2.2.2.1.toNatClampNeg)]) (w' := (cM 0 sp tk sv mf mo mn ma kv tv)) (by decide +kernel) rfl ⟨inB_use h_202, trivial⟩ ?_
        obtain ⟨r203, h_203, hf⟩ := bnd_s hf
        refine m_cS0 M (rest := []) (w2 := (cM 0 sp tk sv mf mo mn ma kv tv)) (st2 := [.int r203]) (run_X4_isLetter (tk.1 tk.2.2.2.1.toNatClampNeg)    h_203) cs_X4_isLetter lk_X4_151 (by decide +kernel) [] (by decide) ⟨Nat.le_of_ble_eq_true rfl, Nat.le_of_ble_eq_true rfl⟩ rfl rfl (Nat.le_of_ble_eq_true rfl) ⟨by decide, by decide⟩ rfl rfl ⟨Nat.zero_le _, Nat.zero_le _⟩ rfl rfl ?_
        rcases ite_s hf with ⟨c_204, hf⟩ | ⟨c_204, hf⟩
        · refine m_jT M (i := .ifCond .eq 151) 264 (by decide +kernel) rfl (by decide) c_204 ?_
          obtain rfl := Option.some.inj hf
          exact m_vret K (by decide +kernel) (Nat.zero_le _) (Nat.zero_le _) ⟨rfl, rfl⟩
        · refine m_jF M (i := .ifCond .eq 151) 264 (by decide +kernel) rfl (by decide) c_204 ?_
          refine m_run M (is := [(116, .aload_n 0, 0), (117, .dup, 0), (118, .getfield 139, 0), (121, .iconst 1, 1), (122, .iadd, 0), (123, .putfield 139, 0), (126, .goto (-36), 0)]) (pc' := 90) (L' := [some (.ref 0)]) (st' := []) (w' := (cM 0 sp (tk.1, tk.2.1, tk.2.2.1, (tk.2.2.2.1 + 1), tk.2.2.2.2.1, tk.2.2.2.2.2.1, tk.2.2.2.2.2.2.1, tk.2.2.2.2.2.2.2.1, tk.2.2.2.2.2.2.2.2) sv mf mo mn ma kv tv)) (by decide +kernel) rfl trivial ?_
          exact ih (tk.1, tk.2.1, tk.2.2.1, (tk.2.2.2.1 + 1), tk.2.2.2.2.1, tk.2.2.2.2.2.1, tk.2.2.2.2.2.2.1, tk.2.2.2.2.2.2.2.1, tk.2.2.2.2.2.2.2.2) hf
  have loop_2 : ∀ (n_ : Nat), (∀ (tk : TkT), f_X4_look_L2  n_ tk = some r → g 0 0 (cM 0 sp tk sv mf mo mn ma kv tv) 149 [some (.ref 0)] []) := by
    intro n_
    induction n_ with
    | zero => intro tk hf; cases hf
    | succ n_ ih =>
      intro tk hf
      rw [f_X4_look_L2] at hf
      refine m_run M (is := [(149, .aload_n 0, 0), (150, .getfield 139, 0), (153, .aload_n 0, 0), (154, .getfield 136, 0)]) (pc' := 157) (L' := [some (.ref 0)]) (st' := [.int tk.2.2.1, .int tk.2.2.2.1]) (w' := (cM 0 sp tk sv mf mo mn ma kv tv)) (by decide +kernel) rfl trivial ?_
      rcases ite_s hf with ⟨c_301, hf⟩ | ⟨c_301, hf⟩
      · refine m_jT M (i := .if_icmp .ge 107) 264 (by decide +kernel) rfl (by decide) c_301 ?_
        obtain rfl := Option.some.inj hf
        exact m_vret K (by decide +kernel) (Nat.zero_le _) (Nat.zero_le _) ⟨rfl, rfl⟩
      · refine m_jF M (i := .if_icmp .ge 107) 264 (by decide +kernel) rfl (by decide) c_301 ?_
        obtain ⟨h_302, hf⟩ := grd_s hf
        refine m_run M (is := [(160, .aload_n 0, 0), (161, .getfield 31, 0), (164, .aload_n 0, 0), (165, .getfield 139, 0), (168, .iaload, 0)]) (pc' := 169) (L' := [some (.ref 0)]) (st' := [.int (tk.1 tk.2.2.2.1.toNatClampNeg)]) (w' := (cM 0 sp tk sv mf mo mn ma kv tv)) (by decide +kernel) rfl ⟨inB_use h_302, trivial⟩ ?_
        obtain ⟨r303, h_303, hf⟩ := bnd_s hf
        refine m_cS0 M (rest := []) (w2 := (cM 0 sp tk sv mf mo mn ma kv tv)) (st2 := [.int r303]) (run_X4_isDigit (tk.1 tk.2.2.2.1.toNatClampNeg)    h_303) cs_X4_isDigit lk_X4_154 (by decide +kernel) [] (by decide) ⟨Nat.le_of_ble_eq_true rfl, Nat.le_of_ble_eq_true rfl⟩ rfl rfl (Nat.le_of_ble_eq_true rfl) ⟨by decide, by decide⟩ rfl rfl ⟨Nat.zero_le _, Nat.zero_le _⟩ rfl rfl ?_
        rcases ite_s hf with ⟨c_304, hf⟩ | ⟨c_304, hf⟩
        · refine m_jT M (i := .ifCond .eq 92) 264 (by decide +kernel) rfl (by decide) c_304 ?_
          obtain rfl := Option.some.inj hf
          exact m_vret K (by decide +kernel) (Nat.zero_le _) (Nat.zero_le _) ⟨rfl, rfl⟩
        · refine m_jF M (i := .ifCond .eq 92) 264 (by decide +kernel) rfl (by decide) c_304 ?_
          refine m_run M (is := [(175, .aload_n 0, 0), (176, .aload_n 0, 0), (177, .getfield 139, 0), (180, .aload_n 0, 0), (181, .getfield 142, 0), (184, .isub, 0), (185, .iconst 3, 3)]) (pc' := 186) (L' := [some (.ref 0)]) (st' := [.int 3, .int (tk.2.2.2.1 - tk.2.2.2.2.2.1), .ref 0]) (w' := (cM 0 sp tk sv mf mo mn ma kv tv)) (by decide +kernel) rfl trivial ?_
          rcases ite_s hf with ⟨c_305, hf⟩ | ⟨c_305, hf⟩
          · refine m_jT M (i := .if_icmp .ge 26) 212 (by decide +kernel) rfl (by decide) c_305 ?_
            refine m_run M (is := [(212, .sipush 10000, 10000), (215, .putfield 145, 0), (218, .aload_n 0, 0), (219, .dup, 0), (220, .getfield 139, 0), (223, .iconst 1, 1), (224, .iadd, 0), (225, .putfield 139, 0), (228, .goto (-79), 0)]) (pc' := 149) (L' := [some (.ref 0)]) (st' := []) (w' := (cM 0 sp (tk.1, tk.2.1, tk.2.2.1, (tk.2.2.2.1 + 1), tk.2.2.2.2.1, tk.2.2.2.2.2.1, 10000, tk.2.2.2.2.2.2.2.1, tk.2.2.2.2.2.2.2.2) sv mf mo mn ma kv tv)) (by decide +kernel) rfl trivial ?_
            exact ih (tk.1, tk.2.1, tk.2.2.1, (tk.2.2.2.1 + 1), tk.2.2.2.2.1, tk.2.2.2.2.2.1, 10000, tk.2.2.2.2.2.2.2.1, tk.2.2.2.2.2.2.2.2) hf
          · refine m_jF M (i := .if_icmp .ge 26) 212 (by decide +kernel) rfl (by decide) c_305 ?_
            obtain ⟨h_306, hf⟩ := grd_s hf
            refine m_run M (is := [(189, .aload_n 0, 0), (190, .getfield 145, 0), (193, .bipush 10, 10), (195, .imul, 0), (196, .aload_n 0, 0), (197, .getfield 31, 0), (200, .aload_n 0, 0), (201, .getfield 139, 0), (204, .iaload, 0), (205, .iadd, 0), (206, .bipush 48, 48), (208, .isub, 0), (209, .goto 6, 0), (215, .putfield 145, 0), (218, .aload_n 0, 0), (219, .dup, 0), (220, .getfield 139, 0), (223, .iconst 1, 1), (224, .iadd, 0), (225, .putfield 139, 0), (228, .goto (-79), 0)]) (pc' := 149) (L' := [some (.ref 0)]) (st' := []) (w' := (cM 0 sp (tk.1, tk.2.1, tk.2.2.1, (tk.2.2.2.1 + 1), tk.2.2.2.2.1, tk.2.2.2.2.2.1, (((tk.2.2.2.2.2.2.1 * 10) + (tk.1 tk.2.2.2.1.toNatClampNeg)) - 48), tk.2.2.2.2.2.2.2.1, tk.2.2.2.2.2.2.2.2) sv mf mo mn ma kv tv)) (by decide +kernel) rfl ⟨inB_use h_306, trivial⟩ ?_
            exact ih (tk.1, tk.2.1, tk.2.2.1, (tk.2.2.2.1 + 1), tk.2.2.2.2.1, tk.2.2.2.2.2.1, (((tk.2.2.2.2.2.2.1 * 10) + (tk.1 tk.2.2.2.1.toNatClampNeg)) - 48), tk.2.2.2.2.2.2.2.1, tk.2.2.2.2.2.2.2.2) hf
  have loop_0 : ∀ (n_ : Nat), (∀ (tk : TkT), f_X4_look_L0  n_ tk = some r → g 0 0 (cM 0 sp tk sv mf mo mn ma kv tv) 0 [some (.ref 0)] []) := by
    intro n_
    induction n_ with
    | zero => intro tk hf; cases hf
    | succ n_ ih =>
      intro tk hf
      rw [f_X4_look_L0] at hf
      refine m_run M (is := [(0, .aload_n 0, 0), (1, .getfield 139, 0), (4, .aload_n 0, 0), (5, .getfield 136, 0)]) (pc' := 8) (L' := [some (.ref 0)]) (st' := [.int tk.2.2.1, .int tk.2.2.2.1]) (w' := (cM 0 sp tk sv mf mo mn ma kv tv)) (by decide +kernel) rfl trivial ?_
      rcases ite_s hf with ⟨c_101, hf⟩ | ⟨c_101, hf⟩
      · refine m_jT M (i := .if_icmp .ge 30) 38 (by decide +kernel) rfl (by decide) c_101 ?_
        refine m_run M (is := [(38, .aload_n 0, 0), (39, .aload_n 0, 0), (40, .getfield 139, 0), (43, .putfield 142, 0), (46, .aload_n 0, 0), (47, .iconst 0, 0), (48, .putfield 145, 0), (51, .aload_n 0, 0), (52, .getfield 139, 0), (55, .aload_n 0, 0), (56, .getfield 136, 0)]) (pc' := 59) (L' := [some (.ref 0)]) (st' := [.int tk.2.2.1, .int tk.2.2.2.1]) (w' := (cM 0 sp (tk.1, tk.2.1, tk.2.2.1, tk.2.2.2.1, tk.2.2.2.2.1, tk.2.2.2.1, 0, tk.2.2.2.2.2.2.2.1, tk.2.2.2.2.2.2.2.2) sv mf mo mn ma kv tv)) (by decide +kernel) rfl trivial ?_
        rcases ite_s hf with ⟨c_102, hf⟩ | ⟨c_102, hf⟩
        · refine m_jF M (i := .if_icmp .ne 11) 70 (by decide +kernel) rfl (by decide) (fun n => n c_102) ?_
          refine m_run M (is := [(62, .aload_n 0, 0), (63, .iconst 0, 0), (64, .putfield 148, 0), (67, .goto 197, 0)]) (pc' := 264) (L' := [some (.ref 0)]) (st' := []) (w' := (cM 0 sp (tk.1, tk.2.1, tk.2.2.1, tk.2.2.2.1, 0, tk.2.2.2.1, 0, tk.2.2.2.2.2.2.2.1, tk.2.2.2.2.2.2.2.2) sv mf mo mn ma kv tv)) (by decide +kernel) rfl trivial ?_
          obtain rfl := Option.some.inj hf
          exact m_vret K (by decide +kernel) (Nat.zero_le _) (Nat.zero_le _) ⟨rfl, rfl⟩
        · refine m_jT M (i := .if_icmp .ne 11) 70 (by decide +kernel) rfl (by decide) c_102 ?_
          obtain ⟨h_103, hf⟩ := grd_s hf
          refine m_run M (is := [(70, .aload_n 0, 0), (71, .getfield 31, 0), (74, .aload_n 0, 0), (75, .getfield 139, 0), (78, .iaload, 0)]) (pc' := 79) (L' := [some (.ref 0)]) (st' := [.int (tk.1 tk.2.2.2.1.toNatClampNeg)]) (w' := (cM 0 sp (tk.1, tk.2.1, tk.2.2.1, tk.2.2.2.1, tk.2.2.2.2.1, tk.2.2.2.1, 0, tk.2.2.2.2.2.2.2.1, tk.2.2.2.2.2.2.2.2) sv mf mo mn ma kv tv)) (by decide +kernel) rfl ⟨inB_use h_103, trivial⟩ ?_
          obtain ⟨r104, h_104, hf⟩ := bnd_s hf
          refine m_cS0 M (rest := []) (w2 := (cM 0 sp (tk.1, tk.2.1, tk.2.2.1, tk.2.2.2.1, tk.2.2.2.2.1, tk.2.2.2.1, 0, tk.2.2.2.2.2.2.2.1, tk.2.2.2.2.2.2.2.2) sv mf mo mn ma kv tv)) (st2 := [.int r104]) (run_X4_isLetter (tk.1 tk.2.2.2.1.toNatClampNeg)    h_104) cs_X4_isLetter lk_X4_151 (by decide +kernel) [] (by decide) ⟨Nat.le_of_ble_eq_true rfl, Nat.le_of_ble_eq_true rfl⟩ rfl rfl (Nat.le_of_ble_eq_true rfl) ⟨by decide, by decide⟩ rfl rfl ⟨Nat.zero_le _, Nat.zero_le _⟩ rfl rfl ?_
          rcases ite_s hf with ⟨c_105, hf⟩ | ⟨c_105, hf⟩
          · refine m_jT M (i := .ifCond .eq 47) 129 (by decide +kernel) rfl (by decide) c_105 ?_
            obtain ⟨h_106, hf⟩ := grd_s hf
            refine m_run M (is := [(129, .aload_n 0, 0), (130, .getfield 31, 0), (133, .aload_n 0, 0), (134, .getfield 139, 0), (137, .iaload, 0)]) (pc' := 138) (L' := [some (.ref 0)]) (st' := [.int (tk.1 tk.2.2.2.1.toNatClampNeg)]) (w' := (cM 0 sp (tk.1, tk.2.1, tk.2.2.1, tk.2.2.2.1, tk.2.2.2.2.1, tk.2.2.2.1, 0, tk.2.2.2.2.2.2.2.1, tk.2.2.2.2.2.2.2.2) sv mf mo mn ma kv tv)) (by decide +kernel) rfl ⟨inB_use h_106, trivial⟩ ?_
            obtain ⟨r107, h_107, hf⟩ := bnd_s hf
            refine m_cS0 M (rest := []) (w2 := (cM 0 sp (tk.1, tk.2.1, tk.2.2.1, tk.2.2.2.1, tk.2.2.2.2.1, tk.2.2.2.1, 0, tk.2.2.2.2.2.2.2.1, tk.2.2.2.2.2.2.2.2) sv mf mo mn ma kv tv)) (st2 := [.int r107]) (run_X4_isDigit (tk.1 tk.2.2.2.1.toNatClampNeg)    h_107) cs_X4_isDigit lk_X4_154 (by decide +kernel) [] (by decide) ⟨Nat.le_of_ble_eq_true rfl, Nat.le_of_ble_eq_true rfl⟩ rfl rfl (Nat.le_of_ble_eq_true rfl) ⟨by decide, by decide⟩ rfl rfl ⟨Nat.zero_le _, Nat.zero_le _⟩ rfl rfl ?_
            rcases ite_s hf with ⟨c_108, hf⟩ | ⟨c_108, hf⟩
            · refine m_jT M (i := .ifCond .eq 90) 231 (by decide +kernel) rfl (by decide) c_108 ?_
              obtain ⟨h_109, hf⟩ := grd_s hf
              refine m_run M (is := [(231, .aload_n 0, 0), (232, .aload_n 0, 0), (233, .getfield 31, 0), (236, .aload_n 0, 0), (237, .getfield 139, 0), (240, .iaload, 0), (241, .bipush 59, 59)]) (pc' := 243) (L' := [some (.ref 0)]) (st' := [.int 59, .int (tk.1 tk.2.2.2.1.toNatClampNeg), .ref 0]) (w' := (cM 0 sp (tk.1, tk.2.1, tk.2.2.1, tk.2.2.2.1, tk.2.2.2.2.1, tk.2.2.2.1, 0, tk.2.2.2.2.2.2.2.1, tk.2.2.2.2.2.2.2.2) sv mf mo mn ma kv tv)) (by decide +kernel) rfl ⟨inB_use h_109, trivial⟩ ?_
              rcases ite_s hf with ⟨c_110, hf⟩ | ⟨c_110, hf⟩
              · refine m_jF M (i := .if_icmp .ne 7) 250 (by decide +kernel) rfl (by decide) (fun n => n c_110) ?_
                refine m_run M (is := [(246, .iconst 3, 3), (247, .goto 4, 0), (251, .putfield 148, 0), (254, .aload_n 0, 0), (255, .dup, 0), (256, .getfield 139, 0), (259, .iconst 1, 1), (260, .iadd, 0), (261, .putfield 139, 0)]) (pc' := 264) (L' := [some (.ref 0)]) (st' := []) (w' := (cM 0 sp (tk.1, tk.2.1, tk.2.2.1, (tk.2.2.2.1 + 1), 3, tk.2.2.2.1, 0, tk.2.2.2.2.2.2.2.1, tk.2.2.2.2.2.2.2.2) sv mf mo mn ma kv tv)) (by decide +kernel) rfl trivial ?_
                obtain rfl := Option.some.inj hf
                exact m_vret K (by decide +kernel) (Nat.zero_le _) (Nat.zero_le _) ⟨rfl, rfl⟩
              · refine m_jT M (i := .if_icmp .ne 7) 250 (by decide +kernel) rfl (by decide) c_110 ?_
                refine m_run M (is := [(250, .iconst 4, 4), (251, .putfield 148, 0), (254, .aload_n 0, 0), (255, .dup, 0), (256, .getfield 139, 0), (259, .iconst 1, 1), (260, .iadd, 0), (261, .putfield 139, 0)]) (pc' := 264) (L' := [some (.ref 0)]) (st' := []) (w' := (cM 0 sp (tk.1, tk.2.1, tk.2.2.1, (tk.2.2.2.1 + 1), 4, tk.2.2.2.1, 0, tk.2.2.2.2.2.2.2.1, tk.2.2.2.2.2.2.2.2) sv mf mo mn ma kv tv)) (by decide +kernel) rfl trivial ?_
                obtain rfl := Option.some.inj hf
                exact m_vret K (by decide +kernel) (Nat.zero_le _) (Nat.zero_le _) ⟨rfl, rfl⟩
            · refine m_jF M (i := .ifCond .eq 90) 231 (by decide +kernel) rfl (by decide) c_108 ?_
              refine m_run M (is := [(144, .aload_n 0, 0), (145, .iconst 2, 2), (146, .putfield 148, 0)]) (pc' := 149) (L' := [some (.ref 0)]) (st' := []) (w' := (cM 0 sp (tk.1, tk.2.1, tk.2.2.1, tk.2.2.2.1, 2, tk.2.2.2.1, 0, tk.2.2.2.2.2.2.2.1, tk.2.2.2.2.2.2.2.2) sv mf mo mn ma kv tv)) (by decide +kernel) rfl trivial ?_
              exact loop_2 fuel0 (tk.1, tk.2.1, tk.2.2.1, tk.2.2.2.1, 2, tk.2.2.2.1, 0, tk.2.2.2.2.2.2.2.1, tk.2.2.2.2.2.2.2.2) hf
          · refine m_jF M (i := .ifCond .eq 47) 129 (by decide +kernel) rfl (by decide) c_105 ?_
            refine m_run M (is := [(85, .aload_n 0, 0), (86, .iconst 1, 1), (87, .putfield 148, 0)]) (pc' := 90) (L' := [some (.ref 0)]) (st' := []) (w' := (cM 0 sp (tk.1, tk.2.1, tk.2.2.1, tk.2.2.2.1, 1, tk.2.2.2.1, 0, tk.2.2.2.2.2.2.2.1, tk.2.2.2.2.2.2.2.2) sv mf mo mn ma kv tv)) (by decide +kernel) rfl trivial ?_
            exact loop_1 fuel0 (tk.1, tk.2.1, tk.2.2.1, tk.2.2.2.1, 1, tk.2.2.2.1, 0, tk.2.2.2.2.2.2.2.1, tk.2.2.2.2.2.2.2.2) hf
      · refine m_jF M (i := .if_icmp .ge 30) 38 (by decide +kernel) rfl (by decide) c_101 ?_
        obtain ⟨h_111, hf⟩ := grd_s hf
        refine m_run M (is := [(11, .aload_n 0, 0), (12, .getfield 31, 0), (15, .aload_n 0, 0), (16, .getfield 139, 0), (19, .iaload, 0), (20, .bipush 32, 32)]) (pc' := 22) (L' := [some (.ref 0)]) (st' := [.int 32, .int (tk.1 tk.2.2.2.1.toNatClampNeg)]) (w' := (cM 0 sp tk sv mf mo mn ma kv tv)) (by decide +kernel) rfl ⟨inB_use h_111, trivial⟩ ?_
        rcases ite_s hf with ⟨c_112, hf⟩ | ⟨c_112, hf⟩
        · refine m_jF M (i := .if_icmp .ne 16) 38 (by decide +kernel) rfl (by decide) (fun n => n c_112) ?_
          refine m_run M (is := [(25, .aload_n 0, 0), (26, .dup, 0), (27, .getfield 139, 0), (30, .iconst 1, 1), (31, .iadd, 0), (32, .putfield 139, 0), (35, .goto (-35), 0)]) (pc' := 0) (L' := [some (.ref 0)]) (st' := []) (w' := (cM 0 sp (tk.1, tk.2.1, tk.2.2.1, (tk.2.2.2.1 + 1), tk.2.2.2.2.1, tk.2.2.2.2.2.1, tk.2.2.2.2.2.2.1, tk.2.2.2.2.2.2.2.1, tk.2.2.2.2.2.2.2.2) sv mf mo mn ma kv tv)) (by decide +kernel) rfl trivial ?_
          exact ih (tk.1, tk.2.1, tk.2.2.1, (tk.2.2.2.1 + 1), tk.2.2.2.2.1, tk.2.2.2.2.2.1, tk.2.2.2.2.2.2.1, tk.2.2.2.2.2.2.2.1, tk.2.2.2.2.2.2.2.2) hf
        · refine m_jT M (i := .if_icmp .ne 16) 38 (by decide +kernel) rfl (by decide) c_112 ?_
          refine m_run M (is := [(38, .aload_n 0, 0), (39, .aload_n 0, 0), (40, .getfield 139, 0), (43, .putfield 142, 0), (46, .aload_n 0, 0), (47, .iconst 0, 0), (48, .putfield 145, 0), (51, .aload_n 0, 0), (52, .getfield 139, 0), (55, .aload_n 0, 0), (56, .getfield 136, 0)]) (pc' := 59) (L' := [some (.ref 0)]) (st' := [.int tk.2.2.1, .int tk.2.2.2.1]) (w' := (cM 0 sp (tk.1, tk.2.1, tk.2.2.1, tk.2.2.2.1, tk.2.2.2.2.1, tk.2.2.2.1, 0, tk.2.2.2.2.2.2.2.1, tk.2.2.2.2.2.2.2.2) sv mf mo mn ma kv tv)) (by decide +kernel) rfl trivial ?_
          rcases ite_s hf with ⟨c_113, hf⟩ | ⟨c_113, hf⟩
          · refine m_jF M (i := .if_icmp .ne 11) 70 (by decide +kernel) rfl (by decide) (fun n => n c_113) ?_
            refine m_run M (is := [(62, .aload_n 0, 0), (63, .iconst 0, 0), (64, .putfield 148, 0), (67, .goto 197, 0)]) (pc' := 264) (L' := [some (.ref 0)]) (st' := []) (w' := (cM 0 sp (tk.1, tk.2.1, tk.2.2.1, tk.2.2.2.1, 0, tk.2.2.2.1, 0, tk.2.2.2.2.2.2.2.1, tk.2.2.2.2.2.2.2.2) sv mf mo mn ma kv tv)) (by decide +kernel) rfl trivial ?_
            obtain rfl := Option.some.inj hf
            exact m_vret K (by decide +kernel) (Nat.zero_le _) (Nat.zero_le _) ⟨rfl, rfl⟩
          · refine m_jT M (i := .if_icmp .ne 11) 70 (by decide +kernel) rfl (by decide) c_113 ?_
            obtain ⟨h_114, hf⟩ := grd_s hf
            refine m_run M (is := [(70, .aload_n 0, 0), (71, .getfield 31, 0), (74, .aload_n 0, 0), (75, .getfield 139, 0), (78, .iaload, 0)]) (pc' := 79) (L' := [some (.ref 0)]) (st' := [.int (tk.1 tk.2.2.2.1.toNatClampNeg)]) (w' := (cM 0 sp (tk.1, tk.2.1, tk.2.2.1, tk.2.2.2.1, tk.2.2.2.2.1, tk.2.2.2.1, 0, tk.2.2.2.2.2.2.2.1, tk.2.2.2.2.2.2.2.2) sv mf mo mn ma kv tv)) (by decide +kernel) rfl ⟨inB_use h_114, trivial⟩ ?_
            obtain ⟨r115, h_115, hf⟩ := bnd_s hf
            refine m_cS0 M (rest := []) (w2 := (cM 0 sp (tk.1, tk.2.1, tk.2.2.1, tk.2.2.2.1, tk.2.2.2.2.1, tk.2.2.2.1, 0, tk.2.2.2.2.2.2.2.1, tk.2.2.2.2.2.2.2.2) sv mf mo mn ma kv tv)) (st2 := [.int r115]) (run_X4_isLetter (tk.1 tk.2.2.2.1.toNatClampNeg)    h_115) cs_X4_isLetter lk_X4_151 (by decide +kernel) [] (by decide) ⟨Nat.le_of_ble_eq_true rfl, Nat.le_of_ble_eq_true rfl⟩ rfl rfl (Nat.le_of_ble_eq_true rfl) ⟨by decide, by decide⟩ rfl rfl ⟨Nat.zero_le _, Nat.zero_le _⟩ rfl rfl ?_
            rcases ite_s hf with ⟨c_116, hf⟩ | ⟨c_116, hf⟩
            · refine m_jT M (i := .ifCond .eq 47) 129 (by decide +kernel) rfl (by decide) c_116 ?_
              obtain ⟨h_117, hf⟩ := grd_s hf
              refine m_run M (is := [(129, .aload_n 0, 0), (130, .getfield 31, 0), (133, .aload_n 0, 0), (134, .getfield 139, 0), (137, .iaload, 0)]) (pc' := 138) (L' := [some (.ref 0)]) (st' := [.int (tk.1 tk.2.2.2.1.toNatClampNeg)]) (w' := (cM 0 sp (tk.1, tk.2.1, tk.2.2.1, tk.2.2.2.1, tk.2.2.2.2.1, tk.2.2.2.1, 0, tk.2.2.2.2.2.2.2.1, tk.2.2.2.2.2.2.2.2) sv mf mo mn ma kv tv)) (by decide +kernel) rfl ⟨inB_use h_117, trivial⟩ ?_
              obtain ⟨r118, h_118, hf⟩ := bnd_s hf
              refine m_cS0 M (rest := []) (w2 := (cM 0 sp (tk.1, tk.2.1, tk.2.2.1, tk.2.2.2.1, tk.2.2.2.2.1, tk.2.2.2.1, 0, tk.2.2.2.2.2.2.2.1, tk.2.2.2.2.2.2.2.2) sv mf mo mn ma kv tv)) (st2 := [.int r118]) (run_X4_isDigit (tk.1 tk.2.2.2.1.toNatClampNeg)    h_118) cs_X4_isDigit lk_X4_154 (by decide +kernel) [] (by decide) ⟨Nat.le_of_ble_eq_true rfl, Nat.le_of_ble_eq_true rfl⟩ rfl rfl (Nat.le_of_ble_eq_true rfl) ⟨by decide, by decide⟩ rfl rfl ⟨Nat.zero_le _, Nat.zero_le _⟩ rfl rfl ?_
              rcases ite_s hf with ⟨c_119, hf⟩ | ⟨c_119, hf⟩
              · refine m_jT M (i := .ifCond .eq 90) 231 (by decide +kernel) rfl (by decide) c_119 ?_
                obtain ⟨h_120, hf⟩ := grd_s hf
                refine m_run M (is := [(231, .aload_n 0, 0), (232, .aload_n 0, 0), (233, .getfield 31, 0), (236, .aload_n 0, 0), (237, .getfield 139, 0), (240, .iaload, 0), (241, .bipush 59, 59)]) (pc' := 243) (L' := [some (.ref 0)]) (st' := [.int 59, .int (tk.1 tk.2.2.2.1.toNatClampNeg), .ref 0]) (w' := (cM 0 sp (tk.1, tk.2.1, tk.2.2.1, tk.2.2.2.1, tk.2.2.2.2.1, tk.2.2.2.1, 0, tk.2.2.2.2.2.2.2.1, tk.2.2.2.2.2.2.2.2) sv mf mo mn ma kv tv)) (by decide +kernel) rfl ⟨inB_use h_120, trivial⟩ ?_
                rcases ite_s hf with ⟨c_121, hf⟩ | ⟨c_121, hf⟩
                · refine m_jF M (i := .if_icmp .ne 7) 250 (by decide +kernel) rfl (by decide) (fun n => n c_121) ?_
                  refine m_run M (is := [(246, .iconst 3, 3), (247, .goto 4, 0), (251, .putfield 148, 0), (254, .aload_n 0, 0), (255, .dup, 0), (256, .getfield 139, 0), (259, .iconst 1, 1), (260, .iadd, 0), (261, .putfield 139, 0)]) (pc' := 264) (L' := [some (.ref 0)]) (st' := []) (w' := (cM 0 sp (tk.1, tk.2.1, tk.2.2.1, (tk.2.2.2.1 + 1), 3, tk.2.2.2.1, 0, tk.2.2.2.2.2.2.2.1, tk.2.2.2.2.2.2.2.2) sv mf mo mn ma kv tv)) (by decide +kernel) rfl trivial ?_
                  obtain rfl := Option.some.inj hf
                  exact m_vret K (by decide +kernel) (Nat.zero_le _) (Nat.zero_le _) ⟨rfl, rfl⟩
                · refine m_jT M (i := .if_icmp .ne 7) 250 (by decide +kernel) rfl (by decide) c_121 ?_
                  refine m_run M (is := [(250, .iconst 4, 4), (251, .putfield 148, 0), (254, .aload_n 0, 0), (255, .dup, 0), (256, .getfield 139, 0), (259, .iconst 1, 1), (260, .iadd, 0), (261, .putfield 139, 0)]) (pc' := 264) (L' := [some (.ref 0)]) (st' := []) (w' := (cM 0 sp (tk.1, tk.2.1, tk.2.2.1, (tk.2.2.2.1 + 1), 4, tk.2.2.2.1, 0, tk.2.2.2.2.2.2.2.1, tk.2.2.2.2.2.2.2.2) sv mf mo mn ma kv tv)) (by decide +kernel) rfl trivial ?_
                  obtain rfl := Option.some.inj hf
                  exact m_vret K (by decide +kernel) (Nat.zero_le _) (Nat.zero_le _) ⟨rfl, rfl⟩
              · refine m_jF M (i := .ifCond .eq 90) 231 (by decide +kernel) rfl (by decide) c_119 ?_
                refine m_run M (is := [(144, .aload_n 0, 0), (145, .iconst 2, 2), (146, .putfield 148, 0)]) (pc' := 149) (L' := [some (.ref 0)]) (st' := []) (w' := (cM 0 sp (tk.1, tk.2.1, tk.2.2.1, tk.2.2.2.1, 2, tk.2.2.2.1, 0, tk.2.2.2.2.2.2.2.1, tk.2.2.2.2.2.2.2.2) sv mf mo mn ma kv tv)) (by decide +kernel) rfl trivial ?_
                exact loop_2 fuel0 (tk.1, tk.2.1, tk.2.2.1, tk.2.2.2.1, 2, tk.2.2.2.1, 0, tk.2.2.2.2.2.2.2.1, tk.2.2.2.2.2.2.2.2) hf
            · refine m_jF M (i := .ifCond .eq 47) 129 (by decide +kernel) rfl (by decide) c_116 ?_
              refine m_run M (is := [(85, .aload_n 0, 0), (86, .iconst 1, 1), (87, .putfield 148, 0)]) (pc' := 90) (L' := [some (.ref 0)]) (st' := []) (w' := (cM 0 sp (tk.1, tk.2.1, tk.2.2.1, tk.2.2.2.1, 1, tk.2.2.2.1, 0, tk.2.2.2.2.2.2.2.1, tk.2.2.2.2.2.2.2.2) sv mf mo mn ma kv tv)) (by decide +kernel) rfl trivial ?_
              exact loop_1 fuel0 (tk.1, tk.2.1, tk.2.2.1, tk.2.2.2.1, 1, tk.2.2.2.1, 0, tk.2.2.2.2.2.2.2.1, tk.2.2.2.2.2.2.2.2) hf
  rw [f_X4_look] at hf
  exact loop_0 fuel0 tk hf

def f_X4_wrong (tk : TkT) : Option (Int32 × TkT) :=
  some (0, (tk.1, tk.2.1, tk.2.2.1, tk.2.2.2.1, tk.2.2.2.2.1, tk.2.2.2.2.2.1, tk.2.2.2.2.2.2.1, tk.2.2.2.2.2.1, tk.2.2.2.2.2.2.2.2))
set_option maxRecDepth 100000 in
set_option maxHeartbeats 4000000 in
theorem run_X4_wrong {l : Launch} {D : va_G} {cT : Nat → ClassId}    (sp : ShT) (tk : TkT) (sv : SvT) (mf : AI) (mo : AI) (mn : AI) (ma : AI) (kv : Value) (tv : Value) {r : Int32 × TkT} (hf : f_X4_wrong tk = some r) : Runs l D cT yX4_wrong cX4_wrong 1 (some .boolean) 0 0 [.ref 0] (cM 0 sp tk sv mf mo mn ma kv tv) (EQ (some (.int r.1)) (cM 0 sp r.2 sv mf mo mn ma kv tv)) := by
  refine runs_of O_X4 okO_X4 (by decide +kernel) rfl rfl (Nat.le_of_ble_eq_true rfl) (Nat.le_of_ble_eq_true rfl) (fun g K => ?_)
  have M := K.b
  show g 0 0 (cM 0 sp tk sv mf mo mn ma kv tv) 0 [some (.ref 0)] []
  rw [f_X4_wrong] at hf
  refine m_run M (is := [(0, .aload_n 0, 0), (1, .aload_n 0, 0), (2, .getfield 142, 0), (5, .putfield 157, 0), (8, .iconst 0, 0)]) (pc' := 9) (L' := [some (.ref 0)]) (st' := [.int 0]) (w' := (cM 0 sp (tk.1, tk.2.1, tk.2.2.1, tk.2.2.2.1, tk.2.2.2.2.1, tk.2.2.2.2.2.1, tk.2.2.2.2.2.2.1, tk.2.2.2.2.2.1, tk.2.2.2.2.2.2.2.2) sv mf mo mn ma kv tv)) (by decide +kernel) rfl trivial ?_
  obtain rfl := Option.some.inj hf
  exact m_zret K (by decide +kernel) (Or.inl rfl) (Nat.zero_le _) (Nat.zero_le _) ⟨rfl, rfl⟩

def f_X4_isWord_L0 (i : Nat) (tk : TkT) : Nat → Int32 → Option (Int32)
  | 0, _ => none
  | n_ + 1, v2 =>
    if (Int32.ofNat (lnS i)) ≤ v2 then
      some 1
    else
      if inB (tk.2.2.2.2.2.1 + v2) 250 then
      if inB v2 (lnS i) then
      if (tk.1 (tk.2.2.2.2.2.1 + v2).toNatClampNeg) = (chS i v2) then
        f_X4_isWord_L0 i tk n_ (v2 + 1)
      else
        some 0
      else none
      else none
def f_X4_isWord (i : Nat) (tk : TkT) : Option (Int32) :=
  if tk.2.2.2.2.1 = 1 then
    if (tk.2.2.2.1 - tk.2.2.2.2.2.1) = (Int32.ofNat (lnS i)) then
      f_X4_isWord_L0 i tk fuel0 0
    else
      some 0
  else
    some 0
set_option maxRecDepth 100000 in
set_option maxHeartbeats 4000000 in
theorem run_X4_isWord {l : Launch} {D : va_G} {cT : Nat → ClassId}  (i : Nat) (hi : i < 14) (sp : ShT) (tk : TkT) (sv : SvT) (mf : AI) (mo : AI) (mn : AI) (ma : AI) (kv : Value) (tv : Value) {r : Int32} (hf : f_X4_isWord i tk = some r) : Runs l D cT yX4_isWord cX4_isWord 3 (some .boolean) 4 85 [.ref 0, .ref (1000 + i)] (cM 0 sp tk sv mf mo mn ma kv tv) (EQ (some (.int r)) (cM 0 sp tk sv mf mo mn ma kv tv)) := by
  refine runs_of O_X4 okO_X4 (by decide +kernel) rfl rfl (Nat.le_of_ble_eq_true rfl) (Nat.le_of_ble_eq_true rfl) (fun g K => ?_)
  have M := K.b
  show g 0 0 (cM 0 sp tk sv mf mo mn ma kv tv) 0 [some (.ref 0), some (.ref (1000 + i)), none] []
  have loop_0 : ∀ (n_ : Nat), (∀ (v2 : Int32), f_X4_isWord_L0 i tk n_ v2 = some r → g 0 0 (cM 0 sp tk sv mf mo mn ma kv tv) 28 [some (.ref 0), some (.ref (1000 + i)), some (.int v2)] []) := by
    intro n_
    induction n_ with
    | zero => intro v2 hf; cases hf
    | succ n_ ih =>
      intro v2 hf
      rw [f_X4_isWord_L0] at hf
      refine m_run M (is := [(28, .iload_n 2, 0), (29, .aload_n 1, 0)]) (pc' := 30) (L' := [some (.ref 0), some (.ref (1000 + i)), some (.int v2)]) (st' := [.ref (1000 + i), .int v2]) (w' := (cM 0 sp tk sv mf mo mn ma kv tv)) (by decide +kernel) rfl trivial ?_
      refine m_cW (xs := []) (rest := [.int v2]) M (run_length hi) hi cw_length wl_len4 (by decide +kernel) (Nat.le_of_ble_eq_true rfl) (Nat.le_of_ble_eq_true rfl) ⟨by decide, by decide⟩ ⟨Nat.zero_le _, Nat.zero_le _⟩ rfl ?_
      rcases ite_s hf with ⟨c_101, hf⟩ | ⟨c_101, hf⟩
      · refine m_jT M (i := .if_icmp .ge 30) 63 (by decide +kernel) rfl (by decide) c_101 ?_
        refine m_run M (is := [(63, .iconst 1, 1)]) (pc' := 64) (L' := [some (.ref 0), some (.ref (1000 + i)), some (.int v2)]) (st' := [.int 1]) (w' := (cM 0 sp tk sv mf mo mn ma kv tv)) (by decide +kernel) rfl trivial ?_
        obtain rfl := Option.some.inj hf
        exact m_zret K (by decide +kernel) (Or.inr rfl) (Nat.zero_le _) (Nat.zero_le _) ⟨rfl, rfl⟩
      · refine m_jF M (i := .if_icmp .ge 30) 63 (by decide +kernel) rfl (by decide) c_101 ?_
        obtain ⟨h_102, hf⟩ := grd_s hf
        refine m_run M (is := [(36, .aload_n 0, 0), (37, .getfield 31, 0), (40, .aload_n 0, 0), (41, .getfield 142, 0), (44, .iload_n 2, 0), (45, .iadd, 0), (46, .iaload, 0), (47, .aload_n 1, 0), (48, .iload_n 2, 0)]) (pc' := 49) (L' := [some (.ref 0), some (.ref (1000 + i)), some (.int v2)]) (st' := [.int v2, .ref (1000 + i), .int (tk.1 (tk.2.2.2.2.2.1 + v2).toNatClampNeg)]) (w' := (cM 0 sp tk sv mf mo mn ma kv tv)) (by decide +kernel) rfl ⟨inB_use h_102, trivial⟩ ?_
        obtain ⟨h_103, hf⟩ := grd_s hf
        refine m_cW (xs := [v2]) (rest := [.int (tk.1 (tk.2.2.2.2.2.1 + v2).toNatClampNeg)]) M (run_charAt hi (fun c => inB_use h_103 (Or.inl c)) (in_lt hi (inB_use h_103)) (inB_use h_103)) hi cw_charAt wl_ch4 (by decide +kernel) (Nat.le_of_ble_eq_true rfl) (Nat.le_of_ble_eq_true rfl) ⟨by decide, by decide⟩ ⟨Nat.zero_le _, Nat.zero_le _⟩ rfl ?_
        rcases ite_s hf with ⟨c_104, hf⟩ | ⟨c_104, hf⟩
        · refine m_jT M (i := .if_icmp .eq 5) 57 (by decide +kernel) rfl (by decide) c_104 ?_
          refine m_run M (is := [(57, .iinc 2 1, 1), (60, .goto (-32), 0)]) (pc' := 28) (L' := [some (.ref 0), some (.ref (1000 + i)), some (.int (v2 + 1))]) (st' := []) (w' := (cM 0 sp tk sv mf mo mn ma kv tv)) (by decide +kernel) rfl trivial ?_
          exact ih (v2 + 1) hf
        · refine m_jF M (i := .if_icmp .eq 5) 57 (by decide +kernel) rfl (by decide) c_104 ?_
          refine m_run M (is := [(55, .iconst 0, 0)]) (pc' := 56) (L' := [some (.ref 0), some (.ref (1000 + i)), some (.int v2)]) (st' := [.int 0]) (w' := (cM 0 sp tk sv mf mo mn ma kv tv)) (by decide +kernel) rfl trivial ?_
          obtain rfl := Option.some.inj hf
          exact m_zret K (by decide +kernel) (Or.inl rfl) (Nat.zero_le _) (Nat.zero_le _) ⟨rfl, rfl⟩
  rw [f_X4_isWord] at hf
  refine m_run M (is := [(0, .aload_n 0, 0), (1, .getfield 148, 0), (4, .iconst 1, 1)]) (pc' := 5) (L' := [some (.ref 0), some (.ref (1000 + i)), none]) (st' := [.int 1, .int tk.2.2.2.2.1]) (w' := (cM 0 sp tk sv mf mo mn ma kv tv)) (by decide +kernel) rfl trivial ?_
  rcases ite_s hf with ⟨c_1001, hf⟩ | ⟨c_1001, hf⟩
  · refine m_jF M (i := .if_icmp .ne 19) 24 (by decide +kernel) rfl (by decide) (fun n => n c_1001) ?_
    refine m_run M (is := [(8, .aload_n 0, 0), (9, .getfield 139, 0), (12, .aload_n 0, 0), (13, .getfield 142, 0), (16, .isub, 0), (17, .aload_n 1, 0)]) (pc' := 18) (L' := [some (.ref 0), some (.ref (1000 + i)), none]) (st' := [.ref (1000 + i), .int (tk.2.2.2.1 - tk.2.2.2.2.2.1)]) (w' := (cM 0 sp tk sv mf mo mn ma kv tv)) (by decide +kernel) rfl trivial ?_
    refine m_cW (xs := []) (rest := [.int (tk.2.2.2.1 - tk.2.2.2.2.2.1)]) M (run_length hi) hi cw_length wl_len4 (by decide +kernel) (Nat.le_of_ble_eq_true rfl) (Nat.le_of_ble_eq_true rfl) ⟨by decide, by decide⟩ ⟨Nat.zero_le _, Nat.zero_le _⟩ rfl ?_
    rcases ite_s hf with ⟨c_1002, hf⟩ | ⟨c_1002, hf⟩
    · refine m_jT M (i := .if_icmp .eq 5) 26 (by decide +kernel) rfl (by decide) c_1002 ?_
      refine m_run M (is := [(26, .iconst 0, 0), (27, .istore_n 2, 0)]) (pc' := 28) (L' := [some (.ref 0), some (.ref (1000 + i)), some (.int 0)]) (st' := []) (w' := (cM 0 sp tk sv mf mo mn ma kv tv)) (by decide +kernel) rfl trivial ?_
      exact loop_0 fuel0 0 hf
    · refine m_jF M (i := .if_icmp .eq 5) 26 (by decide +kernel) rfl (by decide) c_1002 ?_
      refine m_run M (is := [(24, .iconst 0, 0)]) (pc' := 25) (L' := [some (.ref 0), some (.ref (1000 + i)), none]) (st' := [.int 0]) (w' := (cM 0 sp tk sv mf mo mn ma kv tv)) (by decide +kernel) rfl trivial ?_
      obtain rfl := Option.some.inj hf
      exact m_zret K (by decide +kernel) (Or.inl rfl) (Nat.zero_le _) (Nat.zero_le _) ⟨rfl, rfl⟩
  · refine m_jT M (i := .if_icmp .ne 19) 24 (by decide +kernel) rfl (by decide) c_1001 ?_
    refine m_run M (is := [(24, .iconst 0, 0)]) (pc' := 25) (L' := [some (.ref 0), some (.ref (1000 + i)), none]) (st' := [.int 0]) (w' := (cM 0 sp tk sv mf mo mn ma kv tv)) (by decide +kernel) rfl trivial ?_
    obtain rfl := Option.some.inj hf
    exact m_zret K (by decide +kernel) (Or.inl rfl) (Nat.zero_le _) (Nat.zero_le _) ⟨rfl, rfl⟩

