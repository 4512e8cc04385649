/-! ===== written by wip/whole/drive.py ===== -/
def f_J9_abs_0f7a4 (a0 : Int32) : Option (Int32) :=
  if 0 ≤ a0 then
    some a0
  else
    some (-a0)
set_option maxRecDepth 100000 in
set_option maxHeartbeats 4000000 in
theorem run_J9_abs_0f7a4 {l : Launch} {D : va_G} {cT : Nat → ClassId} (a0 : Int32)    {r : Int32} (hf : f_J9_abs_0f7a4 a0 = some r) : Runs l D cT yJ9_abs_0f7a4 cJ9_abs_0f7a4 1 (some .int) 0 0 [.int a0] [] (EQ (some (.int r)) []) := by
  refine runs_of O_J9 okO_J9 (by decide +kernel) rfl rfl (Nat.le_of_ble_eq_true rfl) (Nat.le_of_ble_eq_true rfl) (fun g K => ?_)
  have M := K.b
  show g 0 0 [] 0 [some (.int a0)] []
  rw [f_J9_abs_0f7a4] at hf
  refine m_run M (is := [(0, .iload_n 0, 0)]) (pc' := 1) (L' := [some (.int a0)]) (st' := [.int a0]) (w' := []) (by decide +kernel) rfl trivial ?_
  rcases ite_s hf with ⟨c_1001, hf⟩ | ⟨c_1001, hf⟩
  · refine m_jT M (i := .ifCond .ge 8) 9 (by decide +kernel) rfl (by decide) c_1001 ?_
    refine m_run M (is := [(9, .iload_n 0, 0)]) (pc' := 10) (L' := [some (.int a0)]) (st' := [.int a0]) (w' := []) (by decide +kernel) rfl trivial ?_
    obtain rfl := Option.some.inj hf
    exact m_iret K (by decide +kernel) (Nat.zero_le _) (Nat.zero_le _) ⟨rfl, rfl⟩
  · refine m_jF M (i := .ifCond .ge 8) 9 (by decide +kernel) rfl (by decide) c_1001 ?_
    refine m_run M (is := [(4, .iload_n 0, 0), (5, .ineg, 0), (6, .goto 4, 0)]) (pc' := 10) (L' := [some (.int a0)]) (st' := [.int (-a0)]) (w' := []) (by decide +kernel) rfl trivial ?_
    obtain rfl := Option.some.inj hf
    exact m_iret K (by decide +kernel) (Nat.zero_le _) (Nat.zero_le _) ⟨rfl, rfl⟩

def f_J9_max_7cf53 (a0 : Int32) (a1 : Int32) : Option (Int32) :=
  if a0 < a1 then
    some a1
  else
    some a0
set_option maxRecDepth 100000 in
set_option maxHeartbeats 4000000 in
theorem run_J9_max_7cf53 {l : Launch} {D : va_G} {cT : Nat → ClassId} (a0 : Int32) (a1 : Int32)    {r : Int32} (hf : f_J9_max_7cf53 a0 a1 = some r) : Runs l D cT yJ9_max_7cf53 cJ9_max_7cf53 2 (some .int) 0 0 [.int a0, .int a1] [] (EQ (some (.int r)) []) := by
  refine runs_of O_J9 okO_J9 (by decide +kernel) rfl rfl (Nat.le_of_ble_eq_true rfl) (Nat.le_of_ble_eq_true rfl) (fun g K => ?_)
  have M := K.b
  show g 0 0 [] 0 [some (.int a0), some (.int a1)] []
  rw [f_J9_max_7cf53] at hf
  refine m_run M (is := [(0, .iload_n 0, 0), (1, .iload_n 1, 0)]) (pc' := 2) (L' := [some (.int a0), some (.int a1)]) (st' := [.int a1, .int a0]) (w' := []) (by decide +kernel) rfl trivial ?_
  rcases ite_s hf with ⟨c_1001, hf⟩ | ⟨c_1001, hf⟩
  · refine m_jT M (i := .if_icmp .lt 7) 9 (by decide +kernel) rfl (by decide) c_1001 ?_
    refine m_run M (is := [(9, .iload_n 1, 0)]) (pc' := 10) (L' := [some (.int a0), some (.int a1)]) (st' := [.int a1]) (w' := []) (by decide +kernel) rfl trivial ?_
    obtain rfl := Option.some.inj hf
    exact m_iret K (by decide +kernel) (Nat.zero_le _) (Nat.zero_le _) ⟨rfl, rfl⟩
  · refine m_jF M (i := .if_icmp .lt 7) 9 (by decide +kernel) rfl (by decide) c_1001 ?_
    refine m_run M (is := [(5, .iload_n 0, 0), (6, .goto 4, 0)]) (pc' := 10) (L' := [some (.int a0), some (.int a1)]) (st' := [.int a0]) (w' := []) (by decide +kernel) rfl trivial ?_
    obtain rfl := Option.some.inj hf
    exact m_iret K (by decide +kernel) (Nat.zero_le _) (Nat.zero_le _) ⟨rfl, rfl⟩

def f_J9_min_7cf53 (a0 : Int32) (a1 : Int32) : Option (Int32) :=
  if a1 < a0 then
    some a1
  else
    some a0
set_option maxRecDepth 100000 in
set_option maxHeartbeats 4000000 in
theorem run_J9_min_7cf53 {l : Launch} {D : va_G} {cT : Nat → ClassId} (a0 : Int32) (a1 : Int32)    {r : Int32} (hf : f_J9_min_7cf53 a0 a1 = some r) : Runs l D cT yJ9_min_7cf53 cJ9_min_7cf53 2 (some .int) 0 0 [.int a0, .int a1] [] (EQ (some (.int r)) []) := by
  refine runs_of O_J9 okO_J9 (by decide +kernel) rfl rfl (Nat.le_of_ble_eq_true rfl) (Nat.le_of_ble_eq_true rfl) (fun g K => ?_)
  have M := K.b
  show g 0 0 [] 0 [some (.int a0), some (.int a1)] []
  rw [f_J9_min_7cf53] at hf
  refine m_run M (is := [(0, .iload_n 0, 0), (1, .iload_n 1, 0)]) (pc' := 2) (L' := [some (.int a0), some (.int a1)]) (st' := [.int a1, .int a0]) (w' := []) (by decide +kernel) rfl trivial ?_
  rcases ite_s hf with ⟨c_1001, hf⟩ | ⟨c_1001, hf⟩
  · refine m_jT M (i := .if_icmp .gt 7) 9 (by decide +kernel) rfl (by decide) c_1001 ?_
    refine m_run M (is := [(9, .iload_n 1, 0)]) (pc' := 10) (L' := [some (.int a0), some (.int a1)]) (st' := [.int a1]) (w' := []) (by decide +kernel) rfl trivial ?_
    obtain rfl := Option.some.inj hf
    exact m_iret K (by decide +kernel) (Nat.zero_le _) (Nat.zero_le _) ⟨rfl, rfl⟩
  · refine m_jF M (i := .if_icmp .gt 7) 9 (by decide +kernel) rfl (by decide) c_1001 ?_
    refine m_run M (is := [(5, .iload_n 0, 0), (6, .goto 4, 0)]) (pc' := 10) (L' := [some (.int a0), some (.int a1)]) (st' := [.int a0]) (w' := []) (by decide +kernel) rfl trivial ?_
    obtain rfl := Option.some.inj hf
    exact m_iret K (by decide +kernel) (Nat.zero_le _) (Nat.zero_le _) ⟨rfl, rfl⟩

def f_J6_bitCount_0f7a4 (a0 : Int32) : Option (Int32) :=
  some ((((((((a0 - (((a0.toUInt32 >>> ((1 : Int32).toUInt32 &&& Int32.toUInt32 31)).toInt32) &&& 1431655765)) &&& 858993459) + ((((a0 - (((a0.toUInt32 >>> ((1 : Int32).toUInt32 &&& Int32.toUInt32 31)).toInt32) &&& 1431655765)).toUInt32 >>> ((2 : Int32).toUInt32 &&& Int32.toUInt32 31)).toInt32) &&& 858993459)) + (((((a0 - (((a0.toUInt32 >>> ((1 : Int32).toUInt32 &&& Int32.toUInt32 31)).toInt32) &&& 1431655765)) &&& 858993459) + ((((a0 - (((a0.toUInt32 >>> ((1 : Int32).toUInt32 &&& Int32.toUInt32 31)).toInt32) &&& 1431655765)).toUInt32 >>> ((2 : Int32).toUInt32 &&& Int32.toUInt32 31)).toInt32) &&& 858993459)).toUInt32 >>> ((4 : Int32).toUInt32 &&& Int32.toUInt32 31)).toInt32)) &&& 252645135) + (((((((a0 - (((a0.toUInt32 >>> ((1 : Int32).toUInt32 &&& Int32.toUInt32 31)).toInt32) &&& 1431655765)) &&& 858993459) + ((((a0 - (((a0.toUInt32 >>> ((1 : Int32).toUInt32 &&& Int32.toUInt32 31)).toInt32) &&& 1431655765)).toUInt32 >>> ((2 : Int32).toUInt32 &&& Int32.toUInt32 31)).toInt32) &&& 858993459)) + (((((a0 - (((a0.toUInt32 >>> ((1 : Int32).toUInt32 &&& Int32.toUInt32 31)).toInt32) &&& 1431655765)) &&& 858993459) + ((((a0 - (((a0.toUInt32 >>> ((1 : Int32).toUInt32 &&& Int32.toUInt32 31)).toInt32) &&& 1431655765)).toUInt32 >>> ((2 : Int32).toUInt32 &&& Int32.toUInt32 31)).toInt32) &&& 858993459)).toUInt32 >>> ((4 : Int32).toUInt32 &&& Int32.toUInt32 31)).toInt32)) &&& 252645135).toUInt32 >>> ((8 : Int32).toUInt32 &&& Int32.toUInt32 31)).toInt32)) + ((((((((a0 - (((a0.toUInt32 >>> ((1 : Int32).toUInt32 &&& Int32.toUInt32 31)).toInt32) &&& 1431655765)) &&& 858993459) + ((((a0 - (((a0.toUInt32 >>> ((1 : Int32).toUInt32 &&& Int32.toUInt32 31)).toInt32) &&& 1431655765)).toUInt32 >>> ((2 : Int32).toUInt32 &&& Int32.toUInt32 31)).toInt32) &&& 858993459)) + (((((a0 - (((a0.toUInt32 >>> ((1 : Int32).toUInt32 &&& Int32.toUInt32 31)).toInt32) &&& 1431655765)) &&& 858993459) + ((((a0 - (((a0.toUInt32 >>> ((1 : Int32).toUInt32 &&& Int32.toUInt32 31)).toInt32) &&& 1431655765)).toUInt32 >>> ((2 : Int32).toUInt32 &&& Int32.toUInt32 31)).toInt32) &&& 858993459)).toUInt32 >>> ((4 : Int32).toUInt32 &&& Int32.toUInt32 31)).toInt32)) &&& 252645135) + (((((((a0 - (((a0.toUInt32 >>> ((1 : Int32).toUInt32 &&& Int32.toUInt32 31)).toInt32) &&& 1431655765)) &&& 858993459) + ((((a0 - (((a0.toUInt32 >>> ((1 : Int32).toUInt32 &&& Int32.toUInt32 31)).toInt32) &&& 1431655765)).toUInt32 >>> ((2 : Int32).toUInt32 &&& Int32.toUInt32 31)).toInt32) &&& 858993459)) + (((((a0 - (((a0.toUInt32 >>> ((1 : Int32).toUInt32 &&& Int32.toUInt32 31)).toInt32) &&& 1431655765)) &&& 858993459) + ((((a0 - (((a0.toUInt32 >>> ((1 : Int32).toUInt32 &&& Int32.toUInt32 31)).toInt32) &&& 1431655765)).toUInt32 >>> ((2 : Int32).toUInt32 &&& Int32.toUInt32 31)).toInt32) &&& 858993459)).toUInt32 >>> ((4 : Int32).toUInt32 &&& Int32.toUInt32 31)).toInt32)) &&& 252645135).toUInt32 >>> ((8 : Int32).toUInt32 &&& Int32.toUInt32 31)).toInt32)).toUInt32 >>> ((16 : Int32).toUInt32 &&& Int32.toUInt32 31)).toInt32)) &&& 63)
set_option maxRecDepth 100000 in
set_option maxHeartbeats 4000000 in
theorem run_J6_bitCount_0f7a4 {l : Launch} {D : va_G} {cT : Nat → ClassId} (a0 : Int32)    {r : Int32} (hf : f_J6_bitCount_0f7a4 a0 = some r) : Runs l D cT yJ6_bitCount_0f7a4 cJ6_bitCount_0f7a4 1 (some .int) 0 0 [.int a0] [] (EQ (some (.int r)) []) := by
  refine runs_of O_J6 okO_J6 (by decide +kernel) rfl rfl (Nat.le_of_ble_eq_true rfl) (Nat.le_of_ble_eq_true rfl) (fun g K => ?_)
  have M := K.b
  show g 0 0 [] 0 [some (.int a0)] []
  rw [f_J6_bitCount_0f7a4] at hf
  refine m_run M (is := [(0, .iload_n 0, 0), (1, .iload_n 0, 0), (2, .iconst 1, 1), (3, .iushr, 0), (4, .ldc_w 265, 0), (7, .iand, 0), (8, .isub, 0), (9, .istore_n 0, 0), (10, .iload_n 0, 0), (11, .ldc_w 266, 0), (14, .iand, 0), (15, .iload_n 0, 0), (16, .iconst 2, 2), (17, .iushr, 0), (18, .ldc_w 266, 0), (21, .iand, 0), (22, .iadd, 0), (23, .istore_n 0, 0), (24, .iload_n 0, 0), (25, .iload_n 0, 0), (26, .iconst 4, 4), (27, .iushr, 0), (28, .iadd, 0), (29, .ldc_w 267, 0), (32, .iand, 0), (33, .istore_n 0, 0), (34, .iload_n 0, 0), (35, .iload_n 0, 0), (36, .bipush 8, 8), (38, .iushr, 0), (39, .iadd, 0), (40, .istore_n 0, 0), (41, .iload_n 0, 0), (42, .iload_n 0, 0), (43, .bipush 16, 16), (45, .iushr, 0), (46, .iadd, 0), (47, .istore_n 0, 0), (48, .iload_n 0, 0), (49, .bipush 63, 63), (51, .iand, 0)]) (pc' := 52) (L' := [some (.int (((((((a0 - (((a0.toUInt32 >>> ((1 : Int32).toUInt32 &&& Int32.toUInt32 31)).toInt32) &&& 1431655765)) &&& 858993459) + ((((a0 - (((a0.toUInt32 >>> ((1 : Int32).toUInt32 &&& Int32.toUInt32 31)).toInt32) &&& 1431655765)).toUInt32 >>> ((2 : Int32).toUInt32 &&& Int32.toUInt32 31)).toInt32) &&& 858993459)) + (((((a0 - (((a0.toUInt32 >>> ((1 : Int32).toUInt32 &&& Int32.toUInt32 31)).toInt32) &&& 1431655765)) &&& 858993459) + ((((a0 - (((a0.toUInt32 >>> ((1 : Int32).toUInt32 &&& Int32.toUInt32 31)).toInt32) &&& 1431655765)).toUInt32 >>> ((2 : Int32).toUInt32 &&& Int32.toUInt32 31)).toInt32) &&& 858993459)).toUInt32 >>> ((4 : Int32).toUInt32 &&& Int32.toUInt32 31)).toInt32)) &&& 252645135) + (((((((a0 - (((a0.toUInt32 >>> ((1 : Int32).toUInt32 &&& Int32.toUInt32 31)).toInt32) &&& 1431655765)) &&& 858993459) + ((((a0 - (((a0.toUInt32 >>> ((1 : Int32).toUInt32 &&& Int32.toUInt32 31)).toInt32) &&& 1431655765)).toUInt32 >>> ((2 : Int32).toUInt32 &&& Int32.toUInt32 31)).toInt32) &&& 858993459)) + (((((a0 - (((a0.toUInt32 >>> ((1 : Int32).toUInt32 &&& Int32.toUInt32 31)).toInt32) &&& 1431655765)) &&& 858993459) + ((((a0 - (((a0.toUInt32 >>> ((1 : Int32).toUInt32 &&& Int32.toUInt32 31)).toInt32) &&& 1431655765)).toUInt32 >>> ((2 : Int32).toUInt32 &&& Int32.toUInt32 31)).toInt32) &&& 858993459)).toUInt32 >>> ((4 : Int32).toUInt32 &&& Int32.toUInt32 31)).toInt32)) &&& 252645135).toUInt32 >>> ((8 : Int32).toUInt32 &&& Int32.toUInt32 31)).toInt32)) + ((((((((a0 - (((a0.toUInt32 >>> ((1 : Int32).toUInt32 &&& Int32.toUInt32 31)).toInt32) &&& 1431655765)) &&& 858993459) + ((((a0 - (((a0.toUInt32 >>> ((1 : Int32).toUInt32 &&& Int32.toUInt32 31)).toInt32) &&& 1431655765)).toUInt32 >>> ((2 : Int32).toUInt32 &&& Int32.toUInt32 31)).toInt32) &&& 858993459)) + (((((a0 - (((a0.toUInt32 >>> ((1 : Int32).toUInt32 &&& Int32.toUInt32 31)).toInt32) &&& 1431655765)) &&& 858993459) + ((((a0 - (((a0.toUInt32 >>> ((1 : Int32).toUInt32 &&& Int32.toUInt32 31)).toInt32) &&& 1431655765)).toUInt32 >>> ((2 : Int32).toUInt32 &&& Int32.toUInt32 31)).toInt32) &&& 858993459)).toUInt32 >>> ((4 : Int32).toUInt32 &&& Int32.toUInt32 31)).toInt32)) &&& 252645135) + (((((((a0 - (((a0.toUInt32 >>> ((1 : Int32).toUInt32 &&& Int32.toUInt32 31)).toInt32) &&& 1431655765)) &&& 858993459) + ((((a0 - (((a0.toUInt32 >>> ((1 : Int32).toUInt32 &&& Int32.toUInt32 31)).toInt32) &&& 1431655765)).toUInt32 >>> ((2 : Int32).toUInt32 &&& Int32.toUInt32 31)).toInt32) &&& 858993459)) + (((((a0 - (((a0.toUInt32 >>> ((1 : Int32).toUInt32 &&& Int32.toUInt32 31)).toInt32) &&& 1431655765)) &&& 858993459) + ((((a0 - (((a0.toUInt32 >>> ((1 : Int32).toUInt32 &&& Int32.toUInt32 31)).toInt32) &&& 1431655765)).toUInt32 >>> ((2 : Int32).toUInt32 &&& Int32.toUInt32 31)).toInt32) &&& 858993459)).toUInt32 >>> ((4 : Int32).toUInt32 &&& Int32.toUInt32 31)).toInt32)) &&& 252645135).toUInt32 >>> ((8 : Int32).toUInt32 &&& Int32.toUInt32 31)).toInt32)).toUInt32 >>> ((16 : Int32).toUInt32 &&& Int32.toUInt32 31)).toInt32)))]) (st' := [.int ((((((((a0 - (((a0.toUInt32 >>> ((1 : Int32).toUInt32 &&& Int32.toUInt32 31)).toInt32) &&& 1431655765)) &&& 858993459) + ((((a0 - (((a0.toUInt32 >>> ((1 : Int32).toUInt32 &&& Int32.toUInt32 31)).toInt32) &&& 1431655765)).toUInt32 >>> ((2 : Int32).toUInt32 &&& Int32.toUInt32 31)).toInt32) &&& 858993459)) + (((((a0 - (((a0.toUInt32 >>> ((1 : Int32).toUInt32 &&& Int32.toUInt32 31)).toInt32) &&& 1431655765)) &&& 858993459) + ((((a0 - (((a0.toUInt32 >>> ((1 : Int32).toUInt32 &&& Int32.toUInt32 31)).toInt32) &&& 1431655765)).toUInt32 >>> ((2 : Int32).toUInt32 &&& Int32.toUInt32 31)).toInt32) &&& 858993459)).toUInt32 >>> ((4 : Int32).toUInt32 &&& Int32.toUInt32 31)).toInt32)) &&& 252645135) + (((((((a0 - (((a0.toUInt32 >>> ((1 : Int32).toUInt32 &&& Int32.toUInt32 31)).toInt32) &&& 1431655765)) &&& 858993459) + ((((a0 - (((a0.toUInt32 >>> ((1 : Int32).toUInt32 &&& Int32.toUInt32 31)).toInt32) &&& 1431655765)).toUInt32 >>> ((2 : Int32).toUInt32 &&& Int32.toUInt32 31)).toInt32) &&& 858993459)) + (((((a0 - (((a0.toUInt32 >>> ((1 : Int32).toUInt32 &&& Int32.toUInt32 31)).toInt32) &&& 1431655765)) &&& 858993459) + ((((a0 - (((a0.toUInt32 >>> ((1 : Int32).toUInt32 &&& Int32.toUInt32 31)).toInt32) &&& 1431655765)).toUInt32 >>> ((2 : Int32).toUInt32 &&& Int32.toUInt32 31)).toInt32) &&& 858993459)).toUInt32 >>> ((4 : Int32).toUInt32 &&& Int32.toUInt32 31)).toInt32)) &&& 252645135).toUInt32 >>> ((8 : Int32).toUInt32 &&& Int32.toUInt32 31)).toInt32)) + ((((((((a0 - (((a0.toUInt32 >>> ((1 : Int32).toUInt32 &&& Int32.toUInt32 31)).toInt32) &&& 1431655765)) &&& 858993459) + ((((a0 - (((a0.toUInt32 >>> ((1 : Int32).toUInt32 &&& Int32.toUInt32 31)).toInt32) &&& 1431655765)).toUInt32 >>> ((2 : Int32).toUInt32 &&& Int32.toUInt32 31)).toInt32) &&& 858993459)) + (((((a0 - (((a0.toUInt32 >>> ((1 : Int32).toUInt32 &&& Int32.toUInt32 31)).toInt32) &&& 1431655765)) &&& 858993459) + ((((a0 - (((a0.toUInt32 >>> ((1 : Int32).toUInt32 &&& Int32.toUInt32 31)).toInt32) &&& 1431655765)).toUInt32 >>> ((2 : Int32).toUInt32 &&& Int32.toUInt32 31)).toInt32) &&& 858993459)).toUInt32 >>> ((4 : Int32).toUInt32 &&& Int32.toUInt32 31)).toInt32)) &&& 252645135) + (((((((a0 - (((a0.toUInt32 >>> ((1 : Int32).toUInt32 &&& Int32.toUInt32 31)).toInt32) &&& 1431655765)) &&& 858993459) + ((((a0 - (((a0.toUInt32 >>> ((1 : Int32).toUInt32 &&& Int32.toUInt32 31)).toInt32) &&& 1431655765)).toUInt32 >>> ((2 : Int32).toUInt32 &&& Int32.toUInt32 31)).toInt32) &&& 858993459)) + (((((a0 - (((a0.toUInt32 >>> ((1 : Int32).toUInt32 &&& Int32.toUInt32 31)).toInt32) &&& 1431655765)) &&& 858993459) + ((((a0 - (((a0.toUInt32 >>> ((1 : Int32).toUInt32 &&& Int32.toUInt32 31)).toInt32) &&& 1431655765)).toUInt32 >>> ((2 : Int32).toUInt32 &&& Int32.toUInt32 31)).toInt32) &&& 858993459)).toUInt32 >>> ((4 : Int32).toUInt32 &&& Int32.toUInt32 31)).toInt32)) &&& 252645135).toUInt32 >>> ((8 : Int32).toUInt32 &&& Int32.toUInt32 31)).toInt32)).toUInt32 >>> ((16 : Int32).toUInt32 &&& Int32.toUInt32 31)).toInt32)) &&& 63)]) (w' := []) (by decide +kernel) rfl trivial ?_
  obtain rfl := Option.some.inj hf
  exact m_iret K (by decide +kernel) (Nat.zero_le _) (Nat.zero_le _) ⟨rfl, rfl⟩

def f_J7_fill_53178_L0 (v1 : Int32) (v3 : Int32) (N : Nat) : Nat → Int32 → AI → Option (AI)
  | 0, _, _ => none
  | n_ + 1, v2, f =>
    if v3 ≤ v2 then
      some f
    else
      if inB v2 N then
      f_J7_fill_53178_L0 v1 v3 N n_ (v2 + 1) (upd f v2.toNatClampNeg v1)
      else none
def f_J7_fill_53178 (a1 : Int32) (N : Nat) (f : AI) : Option (AI) :=
  f_J7_fill_53178_L0 a1 (Int32.ofNat N) N fuel0 0 f
set_option maxRecDepth 100000 in
set_option maxHeartbeats 4000000 in
theorem run_J7_fill_53178 {l : Launch} {D : va_G} {cT : Nat → ClassId} (a1 : Int32) (N : Nat)  (f : AI) {r : AI} (hf : f_J7_fill_53178 a1 N f = some r) : Runs l D cT yJ7_fill_53178 cJ7_fill_53178 4 none 0 0 [.ref 0, .int a1] [.inr (.inl (0, N, .inl f))] (EQ none [.inr (.inl (0, N, .inl r))]) := by
  refine runs_of O_J7 okO_J7 (by decide +kernel) rfl rfl (Nat.le_of_ble_eq_true rfl) (Nat.le_of_ble_eq_true rfl) (fun g K => ?_)
  have M := K.b
  show g 0 0 [.inr (.inl (0, N, .inl f))] 0 [some (.ref 0), some (.int a1), none, none] []
  have loop_0 : ∀ (v1 : Int32) (v3 : Int32) (n_ : Nat), (∀ (v2 : Int32) (f : AI), f_J7_fill_53178_L0 v1 v3 N n_ v2 f = some r → g 0 0 [.inr (.inl (0, N, .inl f))] 5 [some (.ref 0), some (.int v1), some (.int v2), some (.int v3)] []) := by
    intro v1 v3 n_
    induction n_ with
    | zero => intro v2 f hf; cases hf
    | succ n_ ih =>
      intro v2 f hf
      rw [f_J7_fill_53178_L0] at hf
      refine m_run M (is := [(5, .iload_n 2, 0), (6, .iload_n 3, 0)]) (pc' := 7) (L' := [some (.ref 0), some (.int v1), some (.int v2), some (.int v3)]) (st' := [.int v3, .int v2]) (w' := [.inr (.inl (0, N, .inl f))]) (by decide +kernel) rfl trivial ?_
      rcases ite_s hf with ⟨c_101, hf⟩ | ⟨c_101, hf⟩
      · refine m_jT M (i := .if_icmp .ge 13) 20 (by decide +kernel) rfl (by decide) c_101 ?_
        obtain rfl := Option.some.inj hf
        exact m_vret K (by decide +kernel) (Nat.zero_le _) (Nat.zero_le _) ⟨rfl, rfl⟩
      · refine m_jF M (i := .if_icmp .ge 13) 20 (by decide +kernel) rfl (by decide) c_101 ?_
        obtain ⟨h_102, hf⟩ := grd_s hf
        refine m_run M (is := [(10, .aload_n 0, 0), (11, .iload_n 2, 0), (12, .iload_n 1, 0), (13, .iastore, 0), (14, .iinc 2 1, 1), (17, .goto (-12), 0)]) (pc' := 5) (L' := [some (.ref 0), some (.int v1), some (.int (v2 + 1)), some (.int v3)]) (st' := []) (w' := [.inr (.inl (0, N, .inl (upd f v2.toNatClampNeg v1)))]) (by decide +kernel) rfl ⟨inB_use h_102, trivial⟩ ?_
        exact ih (v2 + 1) (upd f v2.toNatClampNeg v1) hf
  rw [f_J7_fill_53178] at hf
  refine m_run M (is := [(0, .iconst 0, 0), (1, .istore_n 2, 0), (2, .aload_n 0, 0), (3, .arraylength, 0), (4, .istore_n 3, 0)]) (pc' := 5) (L' := [some (.ref 0), some (.int a1), some (.int 0), some (.int (Int32.ofNat N))]) (st' := []) (w' := [.inr (.inl (0, N, .inl f))]) (by decide +kernel) rfl trivial ?_
  exact loop_0 a1 (Int32.ofNat N) fuel0 0 f hf

def f_J7_fill_d0a16_L0 (v1 : Int64) (v4 : Int32) (N : Nat) : Nat → Int32 → AL → Option (AL)
  | 0, _, _ => none
  | n_ + 1, v3, f =>
    if v4 ≤ v3 then
      some f
    else
      if inB v3 N then
      f_J7_fill_d0a16_L0 v1 v4 N n_ (v3 + 1) (vp_updL f v3.toNatClampNeg v1)
      else none
def f_J7_fill_d0a16 (a1 : Int64) (N : Nat) (f : AL) : Option (AL) :=
  f_J7_fill_d0a16_L0 a1 (Int32.ofNat N) N fuel0 0 f
set_option maxRecDepth 100000 in
set_option maxHeartbeats 4000000 in
theorem run_J7_fill_d0a16 {l : Launch} {D : va_G} {cT : Nat → ClassId} (a1 : Int64) (N : Nat)  (f : AL) {r : AL} (hf : f_J7_fill_d0a16 a1 N f = some r) : Runs l D cT yJ7_fill_d0a16 cJ7_fill_d0a16 5 none 0 0 [.ref 0, .long a1] [.inr (.inl (1, N, .inr (.inl f)))] (EQ none [.inr (.inl (1, N, .inr (.inl r)))]) := by
  refine runs_of O_J7 okO_J7 (by decide +kernel) rfl rfl (Nat.le_of_ble_eq_true rfl) (Nat.le_of_ble_eq_true rfl) (fun g K => ?_)
  have M := K.b
  show g 0 0 [.inr (.inl (1, N, .inr (.inl f)))] 0 [some (.ref 0), some (.long a1), none, none, none] []
  have loop_0 : ∀ (v1 : Int64) (v4 : Int32) (n_ : Nat), (∀ (v3 : Int32) (f : AL), f_J7_fill_d0a16_L0 v1 v4 N n_ v3 f = some r → g 0 0 [.inr (.inl (1, N, .inr (.inl f)))] 6 [some (.ref 0), some (.long v1), none, some (.int v3), some (.int v4)] []) := by
    intro v1 v4 n_
    induction n_ with
    | zero => intro v3 f hf; cases hf
    | succ n_ ih =>
      intro v3 f hf
      rw [f_J7_fill_d0a16_L0] at hf
      refine m_run M (is := [(6, .iload_n 3, 0), (7, .iload 4, 0)]) (pc' := 9) (L' := [some (.ref 0), some (.long v1), none, some (.int v3), some (.int v4)]) (st' := [.int v4, .int v3]) (w' := [.inr (.inl (1, N, .inr (.inl f)))]) (by decide +kernel) rfl trivial ?_
      rcases ite_s hf with ⟨c_101, hf⟩ | ⟨c_101, hf⟩
      · refine m_jT M (i := .if_icmp .ge 13) 22 (by decide +kernel) rfl (by decide) c_101 ?_
        obtain rfl := Option.some.inj hf
        exact m_vret K (by decide +kernel) (Nat.zero_le _) (Nat.zero_le _) ⟨rfl, rfl⟩
      · refine m_jF M (i := .if_icmp .ge 13) 22 (by decide +kernel) rfl (by decide) c_101 ?_
        obtain ⟨h_102, hf⟩ := grd_s hf
        refine m_run M (is := [(12, .aload_n 0, 0), (13, .iload_n 3, 0), (14, .lload_n 1, 0), (15, .lastore, 0), (16, .iinc 3 1, 1), (19, .goto (-13), 0)]) (pc' := 6) (L' := [some (.ref 0), some (.long v1), none, some (.int (v3 + 1)), some (.int v4)]) (st' := []) (w' := [.inr (.inl (1, N, .inr (.inl (vp_updL f v3.toNatClampNeg v1))))]) (by decide +kernel) rfl ⟨inB_use h_102, trivial⟩ ?_
        exact ih (v3 + 1) (vp_updL f v3.toNatClampNeg v1) hf
  rw [f_J7_fill_d0a16] at hf
  refine m_run M (is := [(0, .iconst 0, 0), (1, .istore_n 3, 0), (2, .aload_n 0, 0), (3, .arraylength, 0), (4, .istore 4, 0)]) (pc' := 6) (L' := [some (.ref 0), some (.long a1), none, some (.int 0), some (.int (Int32.ofNat N))]) (st' := []) (w' := [.inr (.inl (1, N, .inr (.inl f)))]) (by decide +kernel) rfl trivial ?_
  exact loop_0 a1 (Int32.ofNat N) fuel0 0 f hf

def f_X3_isBetween (a0 : Int32) (a1 : Int32) (a2 : Int32) : Option (Int32) :=
  if a0 < a1 then
    some 0
  else
    if a2 < a0 then
      some 0
    else
      some 1
set_option maxRecDepth 100000 in
set_option maxHeartbeats 4000000 in
theorem run_X3_isBetween {l : Launch} {D : va_G} {cT : Nat → ClassId} (a0 : Int32) (a1 : Int32) (a2 : Int32)    {r : Int32} (hf : f_X3_isBetween a0 a1 a2 = some r) : Runs l D cT yX3_isBetween cX3_isBetween 3 (some .boolean) 0 0 [.int a0, .int a1, .int a2] [] (EQ (some (.int r)) []) := by
  refine runs_of O_X3 okO_X3 (by decide +kernel) rfl rfl (Nat.le_of_ble_eq_true rfl) (Nat.le_of_ble_eq_true rfl) (fun g K => ?_)
  have M := K.b
  show g 0 0 [] 0 [some (.int a0), some (.int a1), some (.int a2)] []
  rw [f_X3_isBetween] at hf
  refine m_run M (is := [(0, .iload_n 0, 0), (1, .iload_n 1, 0)]) (pc' := 2) (L' := [some (.int a0), some (.int a1), some (.int a2)]) (st' := [.int a1, .int a0]) (w' := []) (by decide +kernel) rfl trivial ?_
  rcases ite_s hf with ⟨c_1001, hf⟩ | ⟨c_1001, hf⟩
  · refine m_jT M (i := .if_icmp .lt 12) 14 (by decide +kernel) rfl (by decide) c_1001 ?_
    refine m_run M (is := [(14, .iconst 0, 0)]) (pc' := 15) (L' := [some (.int a0), some (.int a1), some (.int a2)]) (st' := [.int 0]) (w' := []) (by decide +kernel) rfl trivial ?_
    obtain rfl := Option.some.inj hf
    exact m_zret K (by decide +kernel) (Or.inl rfl) (Nat.zero_le _) (Nat.zero_le _) ⟨rfl, rfl⟩
  · refine m_jF M (i := .if_icmp .lt 12) 14 (by decide +kernel) rfl (by decide) c_1001 ?_
    refine m_run M (is := [(5, .iload_n 0, 0), (6, .iload_n 2, 0)]) (pc' := 7) (L' := [some (.int a0), some (.int a1), some (.int a2)]) (st' := [.int a2, .int a0]) (w' := []) (by decide +kernel) rfl trivial ?_
    rcases ite_s hf with ⟨c_1002, hf⟩ | ⟨c_1002, hf⟩
    · refine m_jT M (i := .if_icmp .gt 7) 14 (by decide +kernel) rfl (by decide) c_1002 ?_
      refine m_run M (is := [(14, .iconst 0, 0)]) (pc' := 15) (L' := [some (.int a0), some (.int a1), some (.int a2)]) (st' := [.int 0]) (w' := []) (by decide +kernel) rfl trivial ?_
      obtain rfl := Option.some.inj hf
      exact m_zret K (by decide +kernel) (Or.inl rfl) (Nat.zero_le _) (Nat.zero_le _) ⟨rfl, rfl⟩
    · refine m_jF M (i := .if_icmp .gt 7) 14 (by decide +kernel) rfl (by decide) c_1002 ?_
      refine m_run M (is := [(10, .iconst 1, 1), (11, .goto 4, 0)]) (pc' := 15) (L' := [some (.int a0), some (.int a1), some (.int a2)]) (st' := [.int 1]) (w' := []) (by decide +kernel) rfl trivial ?_
      obtain rfl := Option.some.inj hf
      exact m_zret K (by decide +kernel) (Or.inr rfl) (Nat.zero_le _) (Nat.zero_le _) ⟨rfl, rfl⟩

def f_X3_isUnder (a0 : Int32) (a1 : Int32) : Option (Int32) :=
  if a0 = a1 then
    some 1
  else
    if a1 = 0 then
      some 1
    else
      if a0 = 3 then
        if a1 = 1 then
          some 1
        else
          if a0 = 4 then
            if a1 = 2 then
              some 1
            else
              some 0
          else
            some 0
      else
        if a0 = 4 then
          if a1 = 2 then
            some 1
          else
            some 0
        else
          some 0
set_option maxRecDepth 100000 in
set_option maxHeartbeats 4000000 in
theorem run_X3_isUnder {l : Launch} {D : va_G} {cT : Nat → ClassId} (a0 : Int32) (a1 : Int32)    {r : Int32} (hf : f_X3_isUnder a0 a1 = some r) : Runs l D cT yX3_isUnder cX3_isUnder 2 (some .boolean) 0 0 [.int a0, .int a1] [] (EQ (some (.int r)) []) := by
  refine runs_of O_X3 okO_X3 (by decide +kernel) rfl rfl (Nat.le_of_ble_eq_true rfl) (Nat.le_of_ble_eq_true rfl) (fun g K => ?_)
  have M := K.b
  show g 0 0 [] 0 [some (.int a0), some (.int a1)] []
  rw [f_X3_isUnder] at hf
  refine m_run M (is := [(0, .iload_n 0, 0), (1, .iload_n 1, 0)]) (pc' := 2) (L' := [some (.int a0), some (.int a1)]) (st' := [.int a1, .int a0]) (w' := []) (by decide +kernel) rfl trivial ?_
  rcases ite_s hf with ⟨c_1001, hf⟩ | ⟨c_1001, hf⟩
  · refine m_jT M (i := .if_icmp .eq 27) 29 (by decide +kernel) rfl (by decide) c_1001 ?_
    refine m_run M (is := [(29, .iconst 1, 1), (30, .goto 4, 0)]) (pc' := 34) (L' := [some (.int a0), some (.int a1)]) (st' := [.int 1]) (w' := []) (by decide +kernel) rfl trivial ?_
    obtain rfl := Option.some.inj hf
    exact m_zret K (by decide +kernel) (Or.inr rfl) (Nat.zero_le _) (Nat.zero_le _) ⟨rfl, rfl⟩
  · refine m_jF M (i := .if_icmp .eq 27) 29 (by decide +kernel) rfl (by decide) c_1001 ?_
    refine m_run M (is := [(5, .iload_n 1, 0)]) (pc' := 6) (L' := [some (.int a0), some (.int a1)]) (st' := [.int a1]) (w' := []) (by decide +kernel) rfl trivial ?_
    rcases ite_s hf with ⟨c_1002, hf⟩ | ⟨c_1002, hf⟩
    · refine m_jT M (i := .ifCond .eq 23) 29 (by decide +kernel) rfl (by decide) c_1002 ?_
      refine m_run M (is := [(29, .iconst 1, 1), (30, .goto 4, 0)]) (pc' := 34) (L' := [some (.int a0), some (.int a1)]) (st' := [.int 1]) (w' := []) (by decide +kernel) rfl trivial ?_
      obtain rfl := Option.some.inj hf
      exact m_zret K (by decide +kernel) (Or.inr rfl) (Nat.zero_le _) (Nat.zero_le _) ⟨rfl, rfl⟩
    · refine m_jF M (i := .ifCond .eq 23) 29 (by decide +kernel) rfl (by decide) c_1002 ?_
      refine m_run M (is := [(9, .iload_n 0, 0), (10, .iconst 3, 3)]) (pc' := 11) (L' := [some (.int a0), some (.int a1)]) (st' := [.int 3, .int a0]) (w' := []) (by decide +kernel) rfl trivial ?_
      rcases ite_s hf with ⟨c_1003, hf⟩ | ⟨c_1003, hf⟩
      · refine m_jF M (i := .if_icmp .ne 8) 19 (by decide +kernel) rfl (by decide) (fun n => n c_1003) ?_
        refine m_run M (is := [(14, .iload_n 1, 0), (15, .iconst 1, 1)]) (pc' := 16) (L' := [some (.int a0), some (.int a1)]) (st' := [.int 1, .int a1]) (w' := []) (by decide +kernel) rfl trivial ?_
        rcases ite_s hf with ⟨c_1004, hf⟩ | ⟨c_1004, hf⟩
        · refine m_jT M (i := .if_icmp .eq 13) 29 (by decide +kernel) rfl (by decide) c_1004 ?_
          refine m_run M (is := [(29, .iconst 1, 1), (30, .goto 4, 0)]) (pc' := 34) (L' := [some (.int a0), some (.int a1)]) (st' := [.int 1]) (w' := []) (by decide +kernel) rfl trivial ?_
          obtain rfl := Option.some.inj hf
          exact m_zret K (by decide +kernel) (Or.inr rfl) (Nat.zero_le _) (Nat.zero_le _) ⟨rfl, rfl⟩
        · refine m_jF M (i := .if_icmp .eq 13) 29 (by decide +kernel) rfl (by decide) c_1004 ?_
          refine m_run M (is := [(19, .iload_n 0, 0), (20, .iconst 4, 4)]) (pc' := 21) (L' := [some (.int a0), some (.int a1)]) (st' := [.int 4, .int a0]) (w' := []) (by decide +kernel) rfl trivial ?_
          rcases ite_s hf with ⟨c_1005, hf⟩ | ⟨c_1005, hf⟩
          · refine m_jF M (i := .if_icmp .ne 12) 33 (by decide +kernel) rfl (by decide) (fun n => n c_1005) ?_
            refine m_run M (is := [(24, .iload_n 1, 0), (25, .iconst 2, 2)]) (pc' := 26) (L' := [some (.int a0), some (.int a1)]) (st' := [.int 2, .int a1]) (w' := []) (by decide +kernel) rfl trivial ?_
            rcases ite_s hf with ⟨c_1006, hf⟩ | ⟨c_1006, hf⟩
            · refine m_jF M (i := .if_icmp .ne 7) 33 (by decide +kernel) rfl (by decide) (fun n => n c_1006) ?_
              refine m_run M (is := [(29, .iconst 1, 1), (30, .goto 4, 0)]) (pc' := 34) (L' := [some (.int a0), some (.int a1)]) (st' := [.int 1]) (w' := []) (by decide +kernel) rfl trivial ?_
              obtain rfl := Option.some.inj hf
              exact m_zret K (by decide +kernel) (Or.inr rfl) (Nat.zero_le _) (Nat.zero_le _) ⟨rfl, rfl⟩
            · refine m_jT M (i := .if_icmp .ne 7) 33 (by decide +kernel) rfl (by decide) c_1006 ?_
              refine m_run M (is := [(33, .iconst 0, 0)]) (pc' := 34) (L' := [some (.int a0), some (.int a1)]) (st' := [.int 0]) (w' := []) (by decide +kernel) rfl trivial ?_
              obtain rfl := Option.some.inj hf
              exact m_zret K (by decide +kernel) (Or.inl rfl) (Nat.zero_le _) (Nat.zero_le _) ⟨rfl, rfl⟩
          · refine m_jT M (i := .if_icmp .ne 12) 33 (by decide +kernel) rfl (by decide) c_1005 ?_
            refine m_run M (is := [(33, .iconst 0, 0)]) (pc' := 34) (L' := [some (.int a0), some (.int a1)]) (st' := [.int 0]) (w' := []) (by decide +kernel) rfl trivial ?_
            obtain rfl := Option.some.inj hf
            exact m_zret K (by decide +kernel) (Or.inl rfl) (Nat.zero_le _) (Nat.zero_le _) ⟨rfl, rfl⟩
      · refine m_jT M (i := .if_icmp .ne 8) 19 (by decide +kernel) rfl (by decide) c_1003 ?_
        refine m_run M (is := [(19, .iload_n 0, 0), (20, .iconst 4, 4)]) (pc' := 21) (L' := [some (.int a0), some (.int a1)]) (st' := [.int 4, .int a0]) (w' := []) (by decide +kernel) rfl trivial ?_
        rcases ite_s hf with ⟨c_1007, hf⟩ | ⟨c_1007, hf⟩
        · refine m_jF M (i := .if_icmp .ne 12) 33 (by decide +kernel) rfl (by decide) (fun n => n c_1007) ?_
          refine m_run M (is := [(24, .iload_n 1, 0), (25, .iconst 2, 2)]) (pc' := 26) (L' := [some (.int a0), some (.int a1)]) (st' := [.int 2, .int a1]) (w' := []) (by decide +kernel) rfl trivial ?_
          rcases ite_s hf with ⟨c_1008, hf⟩ | ⟨c_1008, hf⟩
          · refine m_jF M (i := .if_icmp .ne 7) 33 (by decide +kernel) rfl (by decide) (fun n => n c_1008) ?_
            refine m_run M (is := [(29, .iconst 1, 1), (30, .goto 4, 0)]) (pc' := 34) (L' := [some (.int a0), some (.int a1)]) (st' := [.int 1]) (w' := []) (by decide +kernel) rfl trivial ?_
            obtain rfl := Option.some.inj hf
            exact m_zret K (by decide +kernel) (Or.inr rfl) (Nat.zero_le _) (Nat.zero_le _) ⟨rfl, rfl⟩
          · refine m_jT M (i := .if_icmp .ne 7) 33 (by decide +kernel) rfl (by decide) c_1008 ?_
            refine m_run M (is := [(33, .iconst 0, 0)]) (pc' := 34) (L' := [some (.int a0), some (.int a1)]) (st' := [.int 0]) (w' := []) (by decide +kernel) rfl trivial ?_
            obtain rfl := Option.some.inj hf
            exact m_zret K (by decide +kernel) (Or.inl rfl) (Nat.zero_le _) (Nat.zero_le _) ⟨rfl, rfl⟩
        · refine m_jT M (i := .if_icmp .ne 12) 33 (by decide +kernel) rfl (by decide) c_1007 ?_
          refine m_run M (is := [(33, .iconst 0, 0)]) (pc' := 34) (L' := [some (.int a0), some (.int a1)]) (st' := [.int 0]) (w' := []) (by decide +kernel) rfl trivial ?_
          obtain rfl := Option.some.inj hf
          exact m_zret K (by decide +kernel) (Or.inl rfl) (Nat.zero_le _) (Nat.zero_le _) ⟨rfl, rfl⟩

def f_X1_isEmpty (s : ShT) : Option (Int32) :=
  if 1 ≤ s.2.2.2.2.2.1 then
    some 0
  else
    some 1
set_option maxRecDepth 100000 in
set_option maxHeartbeats 4000000 in
theorem run_X1_isEmpty {l : Launch} {D : va_G} {cT : Nat → ClassId}    (s : ShT) {r : Int32} (hf : f_X1_isEmpty s = some r) : Runs l D cT yX1_isEmpty cX1_isEmpty 1 (some .boolean) 0 0 [.ref 0] (cSh 0 s) (EQ (some (.int r)) (cSh 0 s)) := by
  refine runs_of O_X1 okO_X1 (by decide +kernel) rfl rfl (Nat.le_of_ble_eq_true rfl) (Nat.le_of_ble_eq_true rfl) (fun g K => ?_)
  have M := K.b
  show g 0 0 (cSh 0 s) 0 [some (.ref 0)] []
  rw [f_X1_isEmpty] at hf
  refine m_run M (is := [(0, .aload_n 0, 0), (1, .getfield 31, 0), (4, .iconst 1, 1)]) (pc' := 5) (L' := [some (.ref 0)]) (st' := [.int 1, .int s.2.2.2.2.2.1]) (w' := (cSh 0 s)) (by decide +kernel) rfl trivial ?_
  rcases ite_s hf with ⟨c_1001, hf⟩ | ⟨c_1001, hf⟩
  · refine m_jT M (i := .if_icmp .ge 7) 12 (by decide +kernel) rfl (by decide) c_1001 ?_
    refine m_run M (is := [(12, .iconst 0, 0)]) (pc' := 13) (L' := [some (.ref 0)]) (st' := [.int 0]) (w' := (cSh 0 s)) (by decide +kernel) rfl trivial ?_
    obtain rfl := Option.some.inj hf
    exact m_zret K (by decide +kernel) (Or.inl rfl) (Nat.zero_le _) (Nat.zero_le _) ⟨rfl, rfl⟩
  · refine m_jF M (i := .if_icmp .ge 7) 12 (by decide +kernel) rfl (by decide) c_1001 ?_
    refine m_run M (is := [(8, .iconst 1, 1), (9, .goto 4, 0)]) (pc' := 13) (L' := [some (.ref 0)]) (st' := [.int 1]) (w' := (cSh 0 s)) (by decide +kernel) rfl trivial ?_
    obtain rfl := Option.some.inj hf
    exact m_zret K (by decide +kernel) (Or.inr rfl) (Nat.zero_le _) (Nat.zero_le _) ⟨rfl, rfl⟩

def f_X1_isLawless (s : ShT) : Option (Int32) :=
  if 1 ≤ s.2.2.2.2.2.2.1 then
    some 0
  else
    some 1
set_option maxRecDepth 100000 in
set_option maxHeartbeats 4000000 in
theorem run_X1_isLawless {l : Launch} {D : va_G} {cT : Nat → ClassId}    (s : ShT) {r : Int32} (hf : f_X1_isLawless s = some r) : Runs l D cT yX1_isLawless cX1_isLawless 1 (some .boolean) 0 0 [.ref 0] (cSh 0 s) (EQ (some (.int r)) (cSh 0 s)) := by
  refine runs_of O_X1 okO_X1 (by decide +kernel) rfl rfl (Nat.le_of_ble_eq_true rfl) (Nat.le_of_ble_eq_true rfl) (fun g K => ?_)
  have M := K.b
  show g 0 0 (cSh 0 s) 0 [some (.ref 0)] []
  rw [f_X1_isLawless] at hf
  refine m_run M (is := [(0, .aload_n 0, 0), (1, .getfield 34, 0), (4, .iconst 1, 1)]) (pc' := 5) (L' := [some (.ref 0)]) (st' := [.int 1, .int s.2.2.2.2.2.2.1]) (w' := (cSh 0 s)) (by decide +kernel) rfl trivial ?_
  rcases ite_s hf with ⟨c_1001, hf⟩ | ⟨c_1001, hf⟩
  · refine m_jT M (i := .if_icmp .ge 7) 12 (by decide +kernel) rfl (by decide) c_1001 ?_
    refine m_run M (is := [(12, .iconst 0, 0)]) (pc' := 13) (L' := [some (.ref 0)]) (st' := [.int 0]) (w' := (cSh 0 s)) (by decide +kernel) rfl trivial ?_
    obtain rfl := Option.some.inj hf
    exact m_zret K (by decide +kernel) (Or.inl rfl) (Nat.zero_le _) (Nat.zero_le _) ⟨rfl, rfl⟩
  · refine m_jF M (i := .if_icmp .ge 7) 12 (by decide +kernel) rfl (by decide) c_1001 ?_
    refine m_run M (is := [(8, .iconst 1, 1), (9, .goto 4, 0)]) (pc' := 13) (L' := [some (.ref 0)]) (st' := [.int 1]) (w' := (cSh 0 s)) (by decide +kernel) rfl trivial ?_
    obtain rfl := Option.some.inj hf
    exact m_zret K (by decide +kernel) (Or.inr rfl) (Nat.zero_le _) (Nat.zero_le _) ⟨rfl, rfl⟩

def f_X1_isStuck (s : ShT) : Option (Int32) :=
  (f_X1_isEmpty s).bind fun r1001 =>
  if r1001 = 0 then
    (f_X1_isLawless s).bind fun r1003 =>
    if r1003 = 0 then
      some 0
    else
      some 1
  else
    some 1
set_option maxRecDepth 100000 in
set_option maxHeartbeats 4000000 in
theorem run_X1_isStuck {l : Launch} {D : va_G} {cT : Nat → ClassId}    (s : ShT) {r : Int32} (hf : f_X1_isStuck s = some r) : Runs l D cT yX1_isStuck cX1_isStuck 1 (some .boolean) 1 20 [.ref 0] (cSh 0 s) (EQ (some (.int r)) (cSh 0 s)) := by
  refine runs_of O_X1 okO_X1 (by decide +kernel) rfl rfl (Nat.le_of_ble_eq_true rfl) (Nat.le_of_ble_eq_true rfl) (fun g K => ?_)
  have M := K.b
  show g 0 0 (cSh 0 s) 0 [some (.ref 0)] []
  rw [f_X1_isStuck] at hf
  refine m_run M (is := [(0, .aload_n 0, 0)]) (pc' := 1) (L' := [some (.ref 0)]) (st' := [.ref 0]) (w' := (cSh 0 s)) (by decide +kernel) rfl trivial ?_
  obtain ⟨r1001, h_1001, hf⟩ := bnd_s hf
  refine m_cV0 M (rest := []) (w2 := (cSh 0 s)) (st2 := [.int r1001]) (run_X1_isEmpty    s h_1001) cv_X1_isEmpty lk_X1_49 (by decide +kernel) [0, 1, 2, 3, 4, 5] (by decide) ⟨Nat.le_of_ble_eq_true rfl, Nat.le_of_ble_eq_true rfl⟩ rfl rfl rfl (Nat.le_of_ble_eq_true rfl) ⟨by decide, by decide⟩ rfl rfl ⟨Nat.zero_le _, Nat.zero_le _⟩ rfl rfl ?_
  rcases ite_s hf with ⟨c_1002, hf⟩ | ⟨c_1002, hf⟩
  · refine m_jF M (i := .ifCond .ne 10) 14 (by decide +kernel) rfl (by decide) (fun n => n c_1002) ?_
    refine m_run M (is := [(7, .aload_n 0, 0)]) (pc' := 8) (L' := [some (.ref 0)]) (st' := [.ref 0]) (w' := (cSh 0 s)) (by decide +kernel) rfl trivial ?_
    obtain ⟨r1003, h_1003, hf⟩ := bnd_s hf
    refine m_cV0 M (rest := []) (w2 := (cSh 0 s)) (st2 := [.int r1003]) (run_X1_isLawless    s h_1003) cv_X1_isLawless lk_X1_53 (by decide +kernel) [0, 1, 2, 3, 4, 5] (by decide) ⟨Nat.le_of_ble_eq_true rfl, Nat.le_of_ble_eq_true rfl⟩ rfl rfl rfl (Nat.le_of_ble_eq_true rfl) ⟨by decide, by decide⟩ rfl rfl ⟨Nat.zero_le _, Nat.zero_le _⟩ rfl rfl ?_
    rcases ite_s hf with ⟨c_1004, hf⟩ | ⟨c_1004, hf⟩
    · refine m_jT M (i := .ifCond .eq 7) 18 (by decide +kernel) rfl (by decide) c_1004 ?_
      refine m_run M (is := [(18, .iconst 0, 0)]) (pc' := 19) (L' := [some (.ref 0)]) (st' := [.int 0]) (w' := (cSh 0 s)) (by decide +kernel) rfl trivial ?_
      obtain rfl := Option.some.inj hf
      exact m_zret K (by decide +kernel) (Or.inl rfl) (Nat.zero_le _) (Nat.zero_le _) ⟨rfl, rfl⟩
    · refine m_jF M (i := .ifCond .eq 7) 18 (by decide +kernel) rfl (by decide) c_1004 ?_
      refine m_run M (is := [(14, .iconst 1, 1), (15, .goto 4, 0)]) (pc' := 19) (L' := [some (.ref 0)]) (st' := [.int 1]) (w' := (cSh 0 s)) (by decide +kernel) rfl trivial ?_
      obtain rfl := Option.some.inj hf
      exact m_zret K (by decide +kernel) (Or.inr rfl) (Nat.zero_le _) (Nat.zero_le _) ⟨rfl, rfl⟩
  · refine m_jT M (i := .ifCond .ne 10) 14 (by decide +kernel) rfl (by decide) c_1002 ?_
    refine m_run M (is := [(14, .iconst 1, 1), (15, .goto 4, 0)]) (pc' := 19) (L' := [some (.ref 0)]) (st' := [.int 1]) (w' := (cSh 0 s)) (by decide +kernel) rfl trivial ?_
    obtain rfl := Option.some.inj hf
    exact m_zret K (by decide +kernel) (Or.inr rfl) (Nat.zero_le _) (Nat.zero_le _) ⟨rfl, rfl⟩

def f_X1_hasRoom (s : ShT) : Option (Int32) :=
  if 16 ≤ s.2.2.2.2.2.1 then
    some 0
  else
    some 1
set_option maxRecDepth 100000 in
set_option maxHeartbeats 4000000 in
theorem run_X1_hasRoom {l : Launch} {D : va_G} {cT : Nat → ClassId}    (s : ShT) {r : Int32} (hf : f_X1_hasRoom s = some r) : Runs l D cT yX1_hasRoom cX1_hasRoom 1 (some .boolean) 0 0 [.ref 0] (cSh 0 s) (EQ (some (.int r)) (cSh 0 s)) := by
  refine runs_of O_X1 okO_X1 (by decide +kernel) rfl rfl (Nat.le_of_ble_eq_true rfl) (Nat.le_of_ble_eq_true rfl) (fun g K => ?_)
  have M := K.b
  show g 0 0 (cSh 0 s) 0 [some (.ref 0)] []
  rw [f_X1_hasRoom] at hf
  refine m_run M (is := [(0, .aload_n 0, 0), (1, .getfield 31, 0), (4, .bipush 16, 16)]) (pc' := 6) (L' := [some (.ref 0)]) (st' := [.int 16, .int s.2.2.2.2.2.1]) (w' := (cSh 0 s)) (by decide +kernel) rfl trivial ?_
  rcases ite_s hf with ⟨c_1001, hf⟩ | ⟨c_1001, hf⟩
  · refine m_jT M (i := .if_icmp .ge 7) 13 (by decide +kernel) rfl (by decide) c_1001 ?_
    refine m_run M (is := [(13, .iconst 0, 0)]) (pc' := 14) (L' := [some (.ref 0)]) (st' := [.int 0]) (w' := (cSh 0 s)) (by decide +kernel) rfl trivial ?_
    obtain rfl := Option.some.inj hf
    exact m_zret K (by decide +kernel) (Or.inl rfl) (Nat.zero_le _) (Nat.zero_le _) ⟨rfl, rfl⟩
  · refine m_jF M (i := .if_icmp .ge 7) 13 (by decide +kernel) rfl (by decide) c_1001 ?_
    refine m_run M (is := [(9, .iconst 1, 1), (10, .goto 4, 0)]) (pc' := 14) (L' := [some (.ref 0)]) (st' := [.int 1]) (w' := (cSh 0 s)) (by decide +kernel) rfl trivial ?_
    obtain rfl := Option.some.inj hf
    exact m_zret K (by decide +kernel) (Or.inr rfl) (Nat.zero_le _) (Nat.zero_le _) ⟨rfl, rfl⟩

def f_X1_hasRoomForLaw (s : ShT) : Option (Int32) :=
  if 6 ≤ s.2.2.2.2.2.2.1 then
    some 0
  else
    some 1
set_option maxRecDepth 100000 in
set_option maxHeartbeats 4000000 in
theorem run_X1_hasRoomForLaw {l : Launch} {D : va_G} {cT : Nat → ClassId}    (s : ShT) {r : Int32} (hf : f_X1_hasRoomForLaw s = some r) : Runs l D cT yX1_hasRoomForLaw cX1_hasRoomForLaw 1 (some .boolean) 0 0 [.ref 0] (cSh 0 s) (EQ (some (.int r)) (cSh 0 s)) := by
  refine runs_of O_X1 okO_X1 (by decide +kernel) rfl rfl (Nat.le_of_ble_eq_true rfl) (Nat.le_of_ble_eq_true rfl) (fun g K => ?_)
  have M := K.b
  show g 0 0 (cSh 0 s) 0 [some (.ref 0)] []
  rw [f_X1_hasRoomForLaw] at hf
  refine m_run M (is := [(0, .aload_n 0, 0), (1, .getfield 34, 0), (4, .bipush 6, 6)]) (pc' := 6) (L' := [some (.ref 0)]) (st' := [.int 6, .int s.2.2.2.2.2.2.1]) (w' := (cSh 0 s)) (by decide +kernel) rfl trivial ?_
  rcases ite_s hf with ⟨c_1001, hf⟩ | ⟨c_1001, hf⟩
  · refine m_jT M (i := .if_icmp .ge 7) 13 (by decide +kernel) rfl (by decide) c_1001 ?_
    refine m_run M (is := [(13, .iconst 0, 0)]) (pc' := 14) (L' := [some (.ref 0)]) (st' := [.int 0]) (w' := (cSh 0 s)) (by decide +kernel) rfl trivial ?_
    obtain rfl := Option.some.inj hf
    exact m_zret K (by decide +kernel) (Or.inl rfl) (Nat.zero_le _) (Nat.zero_le _) ⟨rfl, rfl⟩
  · refine m_jF M (i := .if_icmp .ge 7) 13 (by decide +kernel) rfl (by decide) c_1001 ?_
    refine m_run M (is := [(9, .iconst 1, 1), (10, .goto 4, 0)]) (pc' := 14) (L' := [some (.ref 0)]) (st' := [.int 1]) (w' := (cSh 0 s)) (by decide +kernel) rfl trivial ?_
    obtain rfl := Option.some.inj hf
    exact m_zret K (by decide +kernel) (Or.inr rfl) (Nat.zero_le _) (Nat.zero_le _) ⟨rfl, rfl⟩

def f_X1_hasPerson (a0 : Int32) (s : ShT) : Option (Int32) :=
  if a0 < 0 then
    some 0
  else
    if s.2.2.2.2.2.1 ≤ a0 then
      some 0
    else
      some 1
set_option maxRecDepth 100000 in
set_option maxHeartbeats 4000000 in
theorem run_X1_hasPerson {l : Launch} {D : va_G} {cT : Nat → ClassId} (a0 : Int32)   (s : ShT) {r : Int32} (hf : f_X1_hasPerson a0 s = some r) : Runs l D cT yX1_hasPerson cX1_hasPerson 2 (some .boolean) 0 0 [.ref 0, .int a0] (cSh 0 s) (EQ (some (.int r)) (cSh 0 s)) := by
  refine runs_of O_X1 okO_X1 (by decide +kernel) rfl rfl (Nat.le_of_ble_eq_true rfl) (Nat.le_of_ble_eq_true rfl) (fun g K => ?_)
  have M := K.b
  show g 0 0 (cSh 0 s) 0 [some (.ref 0), some (.int a0)] []
  rw [f_X1_hasPerson] at hf
  refine m_run M (is := [(0, .iload_n 1, 0)]) (pc' := 1) (L' := [some (.ref 0), some (.int a0)]) (st' := [.int a0]) (w' := (cSh 0 s)) (by decide +kernel) rfl trivial ?_
  rcases ite_s hf with ⟨c_1001, hf⟩ | ⟨c_1001, hf⟩
  · refine m_jT M (i := .ifCond .lt 15) 16 (by decide +kernel) rfl (by decide) c_1001 ?_
    refine m_run M (is := [(16, .iconst 0, 0)]) (pc' := 17) (L' := [some (.ref 0), some (.int a0)]) (st' := [.int 0]) (w' := (cSh 0 s)) (by decide +kernel) rfl trivial ?_
    obtain rfl := Option.some.inj hf
    exact m_zret K (by decide +kernel) (Or.inl rfl) (Nat.zero_le _) (Nat.zero_le _) ⟨rfl, rfl⟩
  · refine m_jF M (i := .ifCond .lt 15) 16 (by decide +kernel) rfl (by decide) c_1001 ?_
    refine m_run M (is := [(4, .iload_n 1, 0), (5, .aload_n 0, 0), (6, .getfield 31, 0)]) (pc' := 9) (L' := [some (.ref 0), some (.int a0)]) (st' := [.int s.2.2.2.2.2.1, .int a0]) (w' := (cSh 0 s)) (by decide +kernel) rfl trivial ?_
    rcases ite_s hf with ⟨c_1002, hf⟩ | ⟨c_1002, hf⟩
    · refine m_jT M (i := .if_icmp .ge 7) 16 (by decide +kernel) rfl (by decide) c_1002 ?_
      refine m_run M (is := [(16, .iconst 0, 0)]) (pc' := 17) (L' := [some (.ref 0), some (.int a0)]) (st' := [.int 0]) (w' := (cSh 0 s)) (by decide +kernel) rfl trivial ?_
      obtain rfl := Option.some.inj hf
      exact m_zret K (by decide +kernel) (Or.inl rfl) (Nat.zero_le _) (Nat.zero_le _) ⟨rfl, rfl⟩
    · refine m_jF M (i := .if_icmp .ge 7) 16 (by decide +kernel) rfl (by decide) c_1002 ?_
      refine m_run M (is := [(12, .iconst 1, 1), (13, .goto 4, 0)]) (pc' := 17) (L' := [some (.ref 0), some (.int a0)]) (st' := [.int 1]) (w' := (cSh 0 s)) (by decide +kernel) rfl trivial ?_
      obtain rfl := Option.some.inj hf
      exact m_zret K (by decide +kernel) (Or.inr rfl) (Nat.zero_le _) (Nat.zero_le _) ⟨rfl, rfl⟩

def f_X1_hasPlace (a0 : Int32) (s : ShT) : Option (Int32) :=
  if a0 < 0 then
    some 0
  else
    if s.2.2.2.2.2.1 ≤ a0 then
      some 0
    else
      some 1
set_option maxRecDepth 100000 in
set_option maxHeartbeats 4000000 in
theorem run_X1_hasPlace {l : Launch} {D : va_G} {cT : Nat → ClassId} (a0 : Int32)   (s : ShT) {r : Int32} (hf : f_X1_hasPlace a0 s = some r) : Runs l D cT yX1_hasPlace cX1_hasPlace 2 (some .boolean) 0 0 [.ref 0, .int a0] (cSh 0 s) (EQ (some (.int r)) (cSh 0 s)) := by
  refine runs_of O_X1 okO_X1 (by decide +kernel) rfl rfl (Nat.le_of_ble_eq_true rfl) (Nat.le_of_ble_eq_true rfl) (fun g K => ?_)
  have M := K.b
  show g 0 0 (cSh 0 s) 0 [some (.ref 0), some (.int a0)] []
  rw [f_X1_hasPlace] at hf
  refine m_run M (is := [(0, .iload_n 1, 0)]) (pc' := 1) (L' := [some (.ref 0), some (.int a0)]) (st' := [.int a0]) (w' := (cSh 0 s)) (by decide +kernel) rfl trivial ?_
  rcases ite_s hf with ⟨c_1001, hf⟩ | ⟨c_1001, hf⟩
  · refine m_jT M (i := .ifCond .lt 15) 16 (by decide +kernel) rfl (by decide) c_1001 ?_
    refine m_run M (is := [(16, .iconst 0, 0)]) (pc' := 17) (L' := [some (.ref 0), some (.int a0)]) (st' := [.int 0]) (w' := (cSh 0 s)) (by decide +kernel) rfl trivial ?_
    obtain rfl := Option.some.inj hf
    exact m_zret K (by decide +kernel) (Or.inl rfl) (Nat.zero_le _) (Nat.zero_le _) ⟨rfl, rfl⟩
  · refine m_jF M (i := .ifCond .lt 15) 16 (by decide +kernel) rfl (by decide) c_1001 ?_
    refine m_run M (is := [(4, .iload_n 1, 0), (5, .aload_n 0, 0), (6, .getfield 31, 0)]) (pc' := 9) (L' := [some (.ref 0), some (.int a0)]) (st' := [.int s.2.2.2.2.2.1, .int a0]) (w' := (cSh 0 s)) (by decide +kernel) rfl trivial ?_
    rcases ite_s hf with ⟨c_1002, hf⟩ | ⟨c_1002, hf⟩
    · refine m_jT M (i := .if_icmp .ge 7) 16 (by decide +kernel) rfl (by decide) c_1002 ?_
      refine m_run M (is := [(16, .iconst 0, 0)]) (pc' := 17) (L' := [some (.ref 0), some (.int a0)]) (st' := [.int 0]) (w' := (cSh 0 s)) (by decide +kernel) rfl trivial ?_
      obtain rfl := Option.some.inj hf
      exact m_zret K (by decide +kernel) (Or.inl rfl) (Nat.zero_le _) (Nat.zero_le _) ⟨rfl, rfl⟩
    · refine m_jF M (i := .if_icmp .ge 7) 16 (by decide +kernel) rfl (by decide) c_1002 ?_
      refine m_run M (is := [(12, .iconst 1, 1), (13, .goto 4, 0)]) (pc' := 17) (L' := [some (.ref 0), some (.int a0)]) (st' := [.int 1]) (w' := (cSh 0 s)) (by decide +kernel) rfl trivial ?_
      obtain rfl := Option.some.inj hf
      exact m_zret K (by decide +kernel) (Or.inr rfl) (Nat.zero_le _) (Nat.zero_le _) ⟨rfl, rfl⟩

def f_X1_hasLaw (a0 : Int32) (s : ShT) : Option (Int32) :=
  if a0 < 0 then
    some 0
  else
    if s.2.2.2.2.2.2.1 ≤ a0 then
      some 0
    else
      some 1
set_option maxRecDepth 100000 in
set_option maxHeartbeats 4000000 in
theorem run_X1_hasLaw {l : Launch} {D : va_G} {cT : Nat → ClassId} (a0 : Int32)   (s : ShT) {r : Int32} (hf : f_X1_hasLaw a0 s = some r) : Runs l D cT yX1_hasLaw cX1_hasLaw 2 (some .boolean) 0 0 [.ref 0, .int a0] (cSh 0 s) (EQ (some (.int r)) (cSh 0 s)) := by
  refine runs_of O_X1 okO_X1 (by decide +kernel) rfl rfl (Nat.le_of_ble_eq_true rfl) (Nat.le_of_ble_eq_true rfl) (fun g K => ?_)
  have M := K.b
  show g 0 0 (cSh 0 s) 0 [some (.ref 0), some (.int a0)] []
  rw [f_X1_hasLaw] at hf
  refine m_run M (is := [(0, .iload_n 1, 0)]) (pc' := 1) (L' := [some (.ref 0), some (.int a0)]) (st' := [.int a0]) (w' := (cSh 0 s)) (by decide +kernel) rfl trivial ?_
  rcases ite_s hf with ⟨c_1001, hf⟩ | ⟨c_1001, hf⟩
  · refine m_jT M (i := .ifCond .lt 15) 16 (by decide +kernel) rfl (by decide) c_1001 ?_
    refine m_run M (is := [(16, .iconst 0, 0)]) (pc' := 17) (L' := [some (.ref 0), some (.int a0)]) (st' := [.int 0]) (w' := (cSh 0 s)) (by decide +kernel) rfl trivial ?_
    obtain rfl := Option.some.inj hf
    exact m_zret K (by decide +kernel) (Or.inl rfl) (Nat.zero_le _) (Nat.zero_le _) ⟨rfl, rfl⟩
  · refine m_jF M (i := .ifCond .lt 15) 16 (by decide +kernel) rfl (by decide) c_1001 ?_
    refine m_run M (is := [(4, .iload_n 1, 0), (5, .aload_n 0, 0), (6, .getfield 34, 0)]) (pc' := 9) (L' := [some (.ref 0), some (.int a0)]) (st' := [.int s.2.2.2.2.2.2.1, .int a0]) (w' := (cSh 0 s)) (by decide +kernel) rfl trivial ?_
    rcases ite_s hf with ⟨c_1002, hf⟩ | ⟨c_1002, hf⟩
    · refine m_jT M (i := .if_icmp .ge 7) 16 (by decide +kernel) rfl (by decide) c_1002 ?_
      refine m_run M (is := [(16, .iconst 0, 0)]) (pc' := 17) (L' := [some (.ref 0), some (.int a0)]) (st' := [.int 0]) (w' := (cSh 0 s)) (by decide +kernel) rfl trivial ?_
      obtain rfl := Option.some.inj hf
      exact m_zret K (by decide +kernel) (Or.inl rfl) (Nat.zero_le _) (Nat.zero_le _) ⟨rfl, rfl⟩
    · refine m_jF M (i := .if_icmp .ge 7) 16 (by decide +kernel) rfl (by decide) c_1002 ?_
      refine m_run M (is := [(12, .iconst 1, 1), (13, .goto 4, 0)]) (pc' := 17) (L' := [some (.ref 0), some (.int a0)]) (st' := [.int 1]) (w' := (cSh 0 s)) (by decide +kernel) rfl trivial ?_
      obtain rfl := Option.some.inj hf
      exact m_zret K (by decide +kernel) (Or.inr rfl) (Nat.zero_le _) (Nat.zero_le _) ⟨rfl, rfl⟩

def f_X1_who (a0 : Int32) (s : ShT) : Option (Int32) :=
  (f_X1_hasPlace a0 s).bind fun r1001 =>
  if r1001 = 0 then
    some (-1)
  else
    if inB a0 16 then
    some (s.1 a0.toNatClampNeg)
    else none
set_option maxRecDepth 100000 in
set_option maxHeartbeats 4000000 in
theorem run_X1_who {l : Launch} {D : va_G} {cT : Nat → ClassId} (a0 : Int32)   (s : ShT) {r : Int32} (hf : f_X1_who a0 s = some r) : Runs l D cT yX1_who cX1_who 2 (some .int) 1 21 [.ref 0, .int a0] (cSh 0 s) (EQ (some (.int r)) (cSh 0 s)) := by
  refine runs_of O_X1 okO_X1 (by decide +kernel) rfl rfl (Nat.le_of_ble_eq_true rfl) (Nat.le_of_ble_eq_true rfl) (fun g K => ?_)
  have M := K.b
  show g 0 0 (cSh 0 s) 0 [some (.ref 0), some (.int a0)] []
  rw [f_X1_who] at hf
  refine m_run M (is := [(0, .aload_n 0, 0), (1, .iload_n 1, 0)]) (pc' := 2) (L' := [some (.ref 0), some (.int a0)]) (st' := [.int a0, .ref 0]) (w' := (cSh 0 s)) (by decide +kernel) rfl trivial ?_
  obtain ⟨r1001, h_1001, hf⟩ := bnd_s hf
  refine m_cV0 M (rest := []) (w2 := (cSh 0 s)) (st2 := [.int r1001]) (run_X1_hasPlace a0   s h_1001) cv_X1_hasPlace lk_X1_56 (by decide +kernel) [0, 1, 2, 3, 4, 5] (by decide) ⟨Nat.le_of_ble_eq_true rfl, Nat.le_of_ble_eq_true rfl⟩ rfl rfl rfl (Nat.le_of_ble_eq_true rfl) ⟨by decide, by decide⟩ rfl rfl ⟨Nat.zero_le _, Nat.zero_le _⟩ rfl rfl ?_
  rcases ite_s hf with ⟨c_1002, hf⟩ | ⟨c_1002, hf⟩
  · refine m_jT M (i := .ifCond .eq 12) 17 (by decide +kernel) rfl (by decide) c_1002 ?_
    refine m_run M (is := [(17, .iconst (-1), -1)]) (pc' := 18) (L' := [some (.ref 0), some (.int a0)]) (st' := [.int (-1)]) (w' := (cSh 0 s)) (by decide +kernel) rfl trivial ?_
    obtain rfl := Option.some.inj hf
    exact m_iret K (by decide +kernel) (Nat.zero_le _) (Nat.zero_le _) ⟨rfl, rfl⟩
  · refine m_jF M (i := .ifCond .eq 12) 17 (by decide +kernel) rfl (by decide) c_1002 ?_
    obtain ⟨h_1003, hf⟩ := grd_s hf
    refine m_run M (is := [(8, .aload_n 0, 0), (9, .getfield 9, 0), (12, .iload_n 1, 0), (13, .iaload, 0), (14, .goto 4, 0)]) (pc' := 18) (L' := [some (.ref 0), some (.int a0)]) (st' := [.int (s.1 a0.toNatClampNeg)]) (w' := (cSh 0 s)) (by decide +kernel) rfl ⟨inB_use h_1003, trivial⟩ ?_
    obtain rfl := Option.some.inj hf
    exact m_iret K (by decide +kernel) (Nat.zero_le _) (Nat.zero_le _) ⟨rfl, rfl⟩

def f_X1_placeOf_L0 (v1 : Int32) (s : ShT) : Nat → Int32 → Option (Int32)
  | 0, _ => none
  | n_ + 1, v2 =>
    if s.2.2.2.2.2.1 ≤ v2 then
      some (-1)
    else
      if inB v2 16 then
      if (s.1 v2.toNatClampNeg) = v1 then
        some v2
      else
        f_X1_placeOf_L0 v1 s n_ (v2 + 1)
      else none
def f_X1_placeOf (a0 : Int32) (s : ShT) : Option (Int32) :=
  f_X1_placeOf_L0 a0 s fuel0 0
set_option maxRecDepth 100000 in
set_option maxHeartbeats 4000000 in
theorem run_X1_placeOf {l : Launch} {D : va_G} {cT : Nat → ClassId} (a0 : Int32)   (s : ShT) {r : Int32} (hf : f_X1_placeOf a0 s = some r) : Runs l D cT yX1_placeOf cX1_placeOf 3 (some .int) 0 0 [.ref 0, .int a0] (cSh 0 s) (EQ (some (.int r)) (cSh 0 s)) := by
  refine runs_of O_X1 okO_X1 (by decide +kernel) rfl rfl (Nat.le_of_ble_eq_true rfl) (Nat.le_of_ble_eq_true rfl) (fun g K => ?_)
  have M := K.b
  show g 0 0 (cSh 0 s) 0 [some (.ref 0), some (.int a0), none] []
  have loop_0 : ∀ (v1 : Int32) (n_ : Nat), (∀ (v2 : Int32), f_X1_placeOf_L0 v1 s n_ v2 = some r → g 0 0 (cSh 0 s) 2 [some (.ref 0), some (.int v1), some (.int v2)] []) := by
    intro v1 n_
    induction n_ with
    | zero => intro v2 hf; cases hf
    | succ n_ ih =>
      intro v2 hf
      rw [f_X1_placeOf_L0] at hf
      refine m_run M (is := [(2, .iload_n 2, 0), (3, .aload_n 0, 0), (4, .getfield 31, 0)]) (pc' := 7) (L' := [some (.ref 0), some (.int v1), some (.int v2)]) (st' := [.int s.2.2.2.2.2.1, .int v2]) (w' := (cSh 0 s)) (by decide +kernel) rfl trivial ?_
      rcases ite_s hf with ⟨c_101, hf⟩ | ⟨c_101, hf⟩
      · refine m_jT M (i := .if_icmp .ge 21) 28 (by decide +kernel) rfl (by decide) c_101 ?_
        refine m_run M (is := [(28, .iconst (-1), -1)]) (pc' := 29) (L' := [some (.ref 0), some (.int v1), some (.int v2)]) (st' := [.int (-1)]) (w' := (cSh 0 s)) (by decide +kernel) rfl trivial ?_
        obtain rfl := Option.some.inj hf
        exact m_iret K (by decide +kernel) (Nat.zero_le _) (Nat.zero_le _) ⟨rfl, rfl⟩
      · refine m_jF M (i := .if_icmp .ge 21) 28 (by decide +kernel) rfl (by decide) c_101 ?_
        obtain ⟨h_102, hf⟩ := grd_s hf
        refine m_run M (is := [(10, .aload_n 0, 0), (11, .getfield 9, 0), (14, .iload_n 2, 0), (15, .iaload, 0), (16, .iload_n 1, 0)]) (pc' := 17) (L' := [some (.ref 0), some (.int v1), some (.int v2)]) (st' := [.int v1, .int (s.1 v2.toNatClampNeg)]) (w' := (cSh 0 s)) (by decide +kernel) rfl ⟨inB_use h_102, trivial⟩ ?_
        rcases ite_s hf with ⟨c_103, hf⟩ | ⟨c_103, hf⟩
        · refine m_jF M (i := .if_icmp .ne 5) 22 (by decide +kernel) rfl (by decide) (fun n => n c_103) ?_
          refine m_run M (is := [(20, .iload_n 2, 0)]) (pc' := 21) (L' := [some (.ref 0), some (.int v1), some (.int v2)]) (st' := [.int v2]) (w' := (cSh 0 s)) (by decide +kernel) rfl trivial ?_
          obtain rfl := Option.some.inj hf
          exact m_iret K (by decide +kernel) (Nat.zero_le _) (Nat.zero_le _) ⟨rfl, rfl⟩
        · refine m_jT M (i := .if_icmp .ne 5) 22 (by decide +kernel) rfl (by decide) c_103 ?_
          refine m_run M (is := [(22, .iinc 2 1, 1), (25, .goto (-23), 0)]) (pc' := 2) (L' := [some (.ref 0), some (.int v1), some (.int (v2 + 1))]) (st' := []) (w' := (cSh 0 s)) (by decide +kernel) rfl trivial ?_
          exact ih (v2 + 1) hf
  rw [f_X1_placeOf] at hf
  refine m_run M (is := [(0, .iconst 0, 0), (1, .istore_n 2, 0)]) (pc' := 2) (L' := [some (.ref 0), some (.int a0), some (.int 0)]) (st' := []) (w' := (cSh 0 s)) (by decide +kernel) rfl trivial ?_
  exact loop_0 a0 fuel0 0 hf

def f_X1_fact (a0 : Int32) (a1 : Int32) (s : ShT) : Option (Int32) :=
  (f_X1_hasPerson a0 s).bind fun r1001 =>
  if r1001 = 0 then
    some (-1)
  else
    if a1 = 0 then
      (f_X1_placeOf a0 s).bind fun r1004 =>
      some r1004
    else
      if a1 = 1 then
        if inB a0 16 then
        some (s.2.1 a0.toNatClampNeg)
        else none
      else
        if inB a0 16 then
        some (s.2.2.1 a0.toNatClampNeg)
        else none
set_option maxRecDepth 100000 in
set_option maxHeartbeats 4000000 in
theorem run_X1_fact {l : Launch} {D : va_G} {cT : Nat → ClassId} (a0 : Int32) (a1 : Int32)   (s : ShT) {r : Int32} (hf : f_X1_fact a0 a1 s = some r) : Runs l D cT yX1_fact cX1_fact 3 (some .int) 1 22 [.ref 0, .int a0, .int a1] (cSh 0 s) (EQ (some (.int r)) (cSh 0 s)) := by
  refine runs_of O_X1 okO_X1 (by decide +kernel) rfl rfl (Nat.le_of_ble_eq_true rfl) (Nat.le_of_ble_eq_true rfl) (fun g K => ?_)
  have M := K.b
  show g 0 0 (cSh 0 s) 0 [some (.ref 0), some (.int a0), some (.int a1)] []
  rw [f_X1_fact] at hf
  refine m_run M (is := [(0, .aload_n 0, 0), (1, .iload_n 1, 0)]) (pc' := 2) (L' := [some (.ref 0), some (.int a0), some (.int a1)]) (st' := [.int a0, .ref 0]) (w' := (cSh 0 s)) (by decide +kernel) rfl trivial ?_
  obtain ⟨r1001, h_1001, hf⟩ := bnd_s hf
  refine m_cV0 M (rest := []) (w2 := (cSh 0 s)) (st2 := [.int r1001]) (run_X1_hasPerson a0   s h_1001) cv_X1_hasPerson lk_X1_60 (by decide +kernel) [0, 1, 2, 3, 4, 5] (by decide) ⟨Nat.le_of_ble_eq_true rfl, Nat.le_of_ble_eq_true rfl⟩ rfl rfl rfl (Nat.le_of_ble_eq_true rfl) ⟨by decide, by decide⟩ rfl rfl ⟨Nat.zero_le _, Nat.zero_le _⟩ rfl rfl ?_
  rcases ite_s hf with ⟨c_1002, hf⟩ | ⟨c_1002, hf⟩
  · refine m_jF M (i := .ifCond .ne 5) 10 (by decide +kernel) rfl (by decide) (fun n => n c_1002) ?_
    refine m_run M (is := [(8, .iconst (-1), -1)]) (pc' := 9) (L' := [some (.ref 0), some (.int a0), some (.int a1)]) (st' := [.int (-1)]) (w' := (cSh 0 s)) (by decide +kernel) rfl trivial ?_
    obtain rfl := Option.some.inj hf
    exact m_iret K (by decide +kernel) (Nat.zero_le _) (Nat.zero_le _) ⟨rfl, rfl⟩
  · refine m_jT M (i := .ifCond .ne 5) 10 (by decide +kernel) rfl (by decide) c_1002 ?_
    refine m_run M (is := [(10, .iload_n 2, 0)]) (pc' := 11) (L' := [some (.ref 0), some (.int a0), some (.int a1)]) (st' := [.int a1]) (w' := (cSh 0 s)) (by decide +kernel) rfl trivial ?_
    rcases ite_s hf with ⟨c_1003, hf⟩ | ⟨c_1003, hf⟩
    · refine m_jF M (i := .ifCond .ne 9) 20 (by decide +kernel) rfl (by decide) (fun n => n c_1003) ?_
      refine m_run M (is := [(14, .aload_n 0, 0), (15, .iload_n 1, 0)]) (pc' := 16) (L' := [some (.ref 0), some (.int a0), some (.int a1)]) (st' := [.int a0, .ref 0]) (w' := (cSh 0 s)) (by decide +kernel) rfl trivial ?_
      obtain ⟨r1004, h_1004, hf⟩ := bnd_s hf
      refine m_cV0 M (rest := []) (w2 := (cSh 0 s)) (st2 := [.int r1004]) (run_X1_placeOf a0   s h_1004) cv_X1_placeOf lk_X1_63 (by decide +kernel) [0, 1, 2, 3, 4, 5] (by decide) ⟨Nat.le_of_ble_eq_true rfl, Nat.le_of_ble_eq_true rfl⟩ rfl rfl rfl (Nat.le_of_ble_eq_true rfl) ⟨by decide, by decide⟩ rfl rfl ⟨Nat.zero_le _, Nat.zero_le _⟩ rfl rfl ?_
      obtain rfl := Option.some.inj hf
      exact m_iret K (by decide +kernel) (Nat.zero_le _) (Nat.zero_le _) ⟨rfl, rfl⟩
    · refine m_jT M (i := .ifCond .ne 9) 20 (by decide +kernel) rfl (by decide) c_1003 ?_
      refine m_run M (is := [(20, .iload_n 2, 0), (21, .iconst 1, 1)]) (pc' := 22) (L' := [some (.ref 0), some (.int a0), some (.int a1)]) (st' := [.int 1, .int a1]) (w' := (cSh 0 s)) (by decide +kernel) rfl trivial ?_
      rcases ite_s hf with ⟨c_1005, hf⟩ | ⟨c_1005, hf⟩
      · refine m_jF M (i := .if_icmp .ne 12) 34 (by decide +kernel) rfl (by decide) (fun n => n c_1005) ?_
        obtain ⟨h_1006, hf⟩ := grd_s hf
        refine m_run M (is := [(25, .aload_n 0, 0), (26, .getfield 15, 0), (29, .iload_n 1, 0), (30, .iaload, 0), (31, .goto 9, 0)]) (pc' := 40) (L' := [some (.ref 0), some (.int a0), some (.int a1)]) (st' := [.int (s.2.1 a0.toNatClampNeg)]) (w' := (cSh 0 s)) (by decide +kernel) rfl ⟨inB_use h_1006, trivial⟩ ?_
        obtain rfl := Option.some.inj hf
        exact m_iret K (by decide +kernel) (Nat.zero_le _) (Nat.zero_le _) ⟨rfl, rfl⟩
      · refine m_jT M (i := .if_icmp .ne 12) 34 (by decide +kernel) rfl (by decide) c_1005 ?_
        obtain ⟨h_1007, hf⟩ := grd_s hf
        refine m_run M (is := [(34, .aload_n 0, 0), (35, .getfield 18, 0), (38, .iload_n 1, 0), (39, .iaload, 0)]) (pc' := 40) (L' := [some (.ref 0), some (.int a0), some (.int a1)]) (st' := [.int (s.2.2.1 a0.toNatClampNeg)]) (w' := (cSh 0 s)) (by decide +kernel) rfl ⟨inB_use h_1007, trivial⟩ ?_
        obtain rfl := Option.some.inj hf
        exact m_iret K (by decide +kernel) (Nat.zero_le _) (Nat.zero_le _) ⟨rfl, rfl⟩

def f_X1_kindOf (a0 : Int32) (s : ShT) : Option (Int32) :=
  (f_X1_hasLaw a0 s).bind fun r1001 =>
  if r1001 = 0 then
    some (-1)
  else
    if inB a0 6 then
    some (s.2.2.2.1 a0.toNatClampNeg)
    else none
set_option maxRecDepth 100000 in
set_option maxHeartbeats 4000000 in
theorem run_X1_kindOf {l : Launch} {D : va_G} {cT : Nat → ClassId} (a0 : Int32)   (s : ShT) {r : Int32} (hf : f_X1_kindOf a0 s = some r) : Runs l D cT yX1_kindOf cX1_kindOf 2 (some .int) 1 21 [.ref 0, .int a0] (cSh 0 s) (EQ (some (.int r)) (cSh 0 s)) := by
  refine runs_of O_X1 okO_X1 (by decide +kernel) rfl rfl (Nat.le_of_ble_eq_true rfl) (Nat.le_of_ble_eq_true rfl) (fun g K => ?_)
  have M := K.b
  show g 0 0 (cSh 0 s) 0 [some (.ref 0), some (.int a0)] []
  rw [f_X1_kindOf] at hf
  refine m_run M (is := [(0, .aload_n 0, 0), (1, .iload_n 1, 0)]) (pc' := 2) (L' := [some (.ref 0), some (.int a0)]) (st' := [.int a0, .ref 0]) (w' := (cSh 0 s)) (by decide +kernel) rfl trivial ?_
  obtain ⟨r1001, h_1001, hf⟩ := bnd_s hf
  refine m_cV0 M (rest := []) (w2 := (cSh 0 s)) (st2 := [.int r1001]) (run_X1_hasLaw a0   s h_1001) cv_X1_hasLaw lk_X1_67 (by decide +kernel) [0, 1, 2, 3, 4, 5] (by decide) ⟨Nat.le_of_ble_eq_true rfl, Nat.le_of_ble_eq_true rfl⟩ rfl rfl rfl (Nat.le_of_ble_eq_true rfl) ⟨by decide, by decide⟩ rfl rfl ⟨Nat.zero_le _, Nat.zero_le _⟩ rfl rfl ?_
  rcases ite_s hf with ⟨c_1002, hf⟩ | ⟨c_1002, hf⟩
  · refine m_jT M (i := .ifCond .eq 12) 17 (by decide +kernel) rfl (by decide) c_1002 ?_
    refine m_run M (is := [(17, .iconst (-1), -1)]) (pc' := 18) (L' := [some (.ref 0), some (.int a0)]) (st' := [.int (-1)]) (w' := (cSh 0 s)) (by decide +kernel) rfl trivial ?_
    obtain rfl := Option.some.inj hf
    exact m_iret K (by decide +kernel) (Nat.zero_le _) (Nat.zero_le _) ⟨rfl, rfl⟩
  · refine m_jF M (i := .ifCond .eq 12) 17 (by decide +kernel) rfl (by decide) c_1002 ?_
    obtain ⟨h_1003, hf⟩ := grd_s hf
    refine m_run M (is := [(8, .aload_n 0, 0), (9, .getfield 21, 0), (12, .iload_n 1, 0), (13, .iaload, 0), (14, .goto 4, 0)]) (pc' := 18) (L' := [some (.ref 0), some (.int a0)]) (st' := [.int (s.2.2.2.1 a0.toNatClampNeg)]) (w' := (cSh 0 s)) (by decide +kernel) rfl ⟨inB_use h_1003, trivial⟩ ?_
    obtain rfl := Option.some.inj hf
    exact m_iret K (by decide +kernel) (Nat.zero_le _) (Nat.zero_le _) ⟨rfl, rfl⟩

def f_X1_amountOf (a0 : Int32) (s : ShT) : Option (Int32) :=
  (f_X1_hasLaw a0 s).bind fun r1001 =>
  if r1001 = 0 then
    some (-1)
  else
    if inB a0 6 then
    some (s.2.2.2.2.1 a0.toNatClampNeg)
    else none
set_option maxRecDepth 100000 in
set_option maxHeartbeats 4000000 in
theorem run_X1_amountOf {l : Launch} {D : va_G} {cT : Nat → ClassId} (a0 : Int32)   (s : ShT) {r : Int32} (hf : f_X1_amountOf a0 s = some r) : Runs l D cT yX1_amountOf cX1_amountOf 2 (some .int) 1 21 [.ref 0, .int a0] (cSh 0 s) (EQ (some (.int r)) (cSh 0 s)) := by
  refine runs_of O_X1 okO_X1 (by decide +kernel) rfl rfl (Nat.le_of_ble_eq_true rfl) (Nat.le_of_ble_eq_true rfl) (fun g K => ?_)
  have M := K.b
  show g 0 0 (cSh 0 s) 0 [some (.ref 0), some (.int a0)] []
  rw [f_X1_amountOf] at hf
  refine m_run M (is := [(0, .aload_n 0, 0), (1, .iload_n 1, 0)]) (pc' := 2) (L' := [some (.ref 0), some (.int a0)]) (st' := [.int a0, .ref 0]) (w' := (cSh 0 s)) (by decide +kernel) rfl trivial ?_
  obtain ⟨r1001, h_1001, hf⟩ := bnd_s hf
  refine m_cV0 M (rest := []) (w2 := (cSh 0 s)) (st2 := [.int r1001]) (run_X1_hasLaw a0   s h_1001) cv_X1_hasLaw lk_X1_67 (by decide +kernel) [0, 1, 2, 3, 4, 5] (by decide) ⟨Nat.le_of_ble_eq_true rfl, Nat.le_of_ble_eq_true rfl⟩ rfl rfl rfl (Nat.le_of_ble_eq_true rfl) ⟨by decide, by decide⟩ rfl rfl ⟨Nat.zero_le _, Nat.zero_le _⟩ rfl rfl ?_
  rcases ite_s hf with ⟨c_1002, hf⟩ | ⟨c_1002, hf⟩
  · refine m_jT M (i := .ifCond .eq 12) 17 (by decide +kernel) rfl (by decide) c_1002 ?_
    refine m_run M (is := [(17, .iconst (-1), -1)]) (pc' := 18) (L' := [some (.ref 0), some (.int a0)]) (st' := [.int (-1)]) (w' := (cSh 0 s)) (by decide +kernel) rfl trivial ?_
    obtain rfl := Option.some.inj hf
    exact m_iret K (by decide +kernel) (Nat.zero_le _) (Nat.zero_le _) ⟨rfl, rfl⟩
  · refine m_jF M (i := .ifCond .eq 12) 17 (by decide +kernel) rfl (by decide) c_1002 ?_
    obtain ⟨h_1003, hf⟩ := grd_s hf
    refine m_run M (is := [(8, .aload_n 0, 0), (9, .getfield 24, 0), (12, .iload_n 1, 0), (13, .iaload, 0), (14, .goto 4, 0)]) (pc' := 18) (L' := [some (.ref 0), some (.int a0)]) (st' := [.int (s.2.2.2.2.1 a0.toNatClampNeg)]) (w' := (cSh 0 s)) (by decide +kernel) rfl ⟨inB_use h_1003, trivial⟩ ?_
    obtain rfl := Option.some.inj hf
    exact m_iret K (by decide +kernel) (Nat.zero_le _) (Nat.zero_le _) ⟨rfl, rfl⟩

def f_X1_allBits (s : ShT) : Option (Int32) :=
  some ((1 <<< (s.2.2.2.2.2.1 &&& 31)) - 1)
set_option maxRecDepth 100000 in
set_option maxHeartbeats 4000000 in
theorem run_X1_allBits {l : Launch} {D : va_G} {cT : Nat → ClassId}    (s : ShT) {r : Int32} (hf : f_X1_allBits s = some r) : Runs l D cT yX1_allBits cX1_allBits 1 (some .int) 0 0 [.ref 0] (cSh 0 s) (EQ (some (.int r)) (cSh 0 s)) := by
  refine runs_of O_X1 okO_X1 (by decide +kernel) rfl rfl (Nat.le_of_ble_eq_true rfl) (Nat.le_of_ble_eq_true rfl) (fun g K => ?_)
  have M := K.b
  show g 0 0 (cSh 0 s) 0 [some (.ref 0)] []
  rw [f_X1_allBits] at hf
  refine m_run M (is := [(0, .iconst 1, 1), (1, .aload_n 0, 0), (2, .getfield 31, 0), (5, .ishl, 0), (6, .iconst 1, 1), (7, .isub, 0)]) (pc' := 8) (L' := [some (.ref 0)]) (st' := [.int ((1 <<< (s.2.2.2.2.2.1 &&& 31)) - 1)]) (w' := (cSh 0 s)) (by decide +kernel) rfl trivial ?_
  obtain rfl := Option.some.inj hf
  exact m_iret K (by decide +kernel) (Nat.zero_le _) (Nat.zero_le _) ⟨rfl, rfl⟩

def f_X1_allCounts_L0 (s : ShT) : Nat → Int32 → Int32 → Option (Int32)
  | 0, _, _ => none
  | n_ + 1, v1, v2 =>
    if s.2.2.2.2.2.1 ≤ v2 then
      some v1
    else
      if inB v2 16 then
      f_X1_allCounts_L0 s n_ (v1 + (s.2.1 v2.toNatClampNeg)) (v2 + 1)
      else none
def f_X1_allCounts (s : ShT) : Option (Int32) :=
  f_X1_allCounts_L0 s fuel0 0 0
set_option maxRecDepth 100000 in
set_option maxHeartbeats 4000000 in
theorem run_X1_allCounts {l : Launch} {D : va_G} {cT : Nat → ClassId}    (s : ShT) {r : Int32} (hf : f_X1_allCounts s = some r) : Runs l D cT yX1_allCounts cX1_allCounts 3 (some .int) 0 0 [.ref 0] (cSh 0 s) (EQ (some (.int r)) (cSh 0 s)) := by
  refine runs_of O_X1 okO_X1 (by decide +kernel) rfl rfl (Nat.le_of_ble_eq_true rfl) (Nat.le_of_ble_eq_true rfl) (fun g K => ?_)
  have M := K.b
  show g 0 0 (cSh 0 s) 0 [some (.ref 0), none, none] []
  have loop_0 : ∀ (n_ : Nat), (∀ (v1 : Int32) (v2 : Int32), f_X1_allCounts_L0 s n_ v1 v2 = some r → g 0 0 (cSh 0 s) 4 [some (.ref 0), some (.int v1), some (.int v2)] []) := by
    intro n_
    induction n_ with
    | zero => intro v1 v2 hf; cases hf
    | succ n_ ih =>
      intro v1 v2 hf
      rw [f_X1_allCounts_L0] at hf
      refine m_run M (is := [(4, .iload_n 2, 0), (5, .aload_n 0, 0), (6, .getfield 31, 0)]) (pc' := 9) (L' := [some (.ref 0), some (.int v1), some (.int v2)]) (st' := [.int s.2.2.2.2.2.1, .int v2]) (w' := (cSh 0 s)) (by decide +kernel) rfl trivial ?_
      rcases ite_s hf with ⟨c_101, hf⟩ | ⟨c_101, hf⟩
      · refine m_jT M (i := .if_icmp .ge 18) 27 (by decide +kernel) rfl (by decide) c_101 ?_
        refine m_run M (is := [(27, .iload_n 1, 0)]) (pc' := 28) (L' := [some (.ref 0), some (.int v1), some (.int v2)]) (st' := [.int v1]) (w' := (cSh 0 s)) (by decide +kernel) rfl trivial ?_
        obtain rfl := Option.some.inj hf
        exact m_iret K (by decide +kernel) (Nat.zero_le _) (Nat.zero_le _) ⟨rfl, rfl⟩
      · refine m_jF M (i := .if_icmp .ge 18) 27 (by decide +kernel) rfl (by decide) c_101 ?_
        obtain ⟨h_102, hf⟩ := grd_s hf
        refine m_run M (is := [(12, .iload_n 1, 0), (13, .aload_n 0, 0), (14, .getfield 15, 0), (17, .iload_n 2, 0), (18, .iaload, 0), (19, .iadd, 0), (20, .istore_n 1, 0), (21, .iinc 2 1, 1), (24, .goto (-20), 0)]) (pc' := 4) (L' := [some (.ref 0), some (.int (v1 + (s.2.1 v2.toNatClampNeg))), some (.int (v2 + 1))]) (st' := []) (w' := (cSh 0 s)) (by decide +kernel) rfl ⟨inB_use h_102, trivial⟩ ?_
        exact ih (v1 + (s.2.1 v2.toNatClampNeg)) (v2 + 1) hf
  rw [f_X1_allCounts] at hf
  refine m_run M (is := [(0, .iconst 0, 0), (1, .istore_n 1, 0), (2, .iconst 0, 0), (3, .istore_n 2, 0)]) (pc' := 4) (L' := [some (.ref 0), some (.int 0), some (.int 0)]) (st' := []) (w' := (cSh 0 s)) (by decide +kernel) rfl trivial ?_
  exact loop_0 fuel0 0 0 hf

def f_X1_countsApart_L0 (s : ShT) : Nat → Int32 → Int32 → Int32 → Option (Int32)
  | 0, _, _, _ => none
  | n_ + 1, v1, v2, v3 =>
    if s.2.2.2.2.2.1 ≤ v3 then
      some (v2 - v1)
    else
      if inB v3 16 then
      (f_J9_min_7cf53 v1 (s.2.1 v3.toNatClampNeg)).bind fun r103 =>
      if inB v3 16 then
      (f_J9_max_7cf53 v2 (s.2.1 v3.toNatClampNeg)).bind fun r105 =>
      f_X1_countsApart_L0 s n_ r103 r105 (v3 + 1)
      else none
      else none
def f_X1_countsApart (s : ShT) : Option (Int32) :=
  if inB 0 16 then
  if inB 0 16 then
  f_X1_countsApart_L0 s fuel0 (s.2.1 (0 : Int32).toNatClampNeg) (s.2.1 (0 : Int32).toNatClampNeg) 1
  else none
  else none
set_option maxRecDepth 100000 in
set_option maxHeartbeats 4000000 in
theorem run_X1_countsApart {l : Launch} {D : va_G} {cT : Nat → ClassId}    (s : ShT) {r : Int32} (hf : f_X1_countsApart s = some r) : Runs l D cT yX1_countsApart cX1_countsApart 4 (some .int) 1 21 [.ref 0] (cSh 0 s) (EQ (some (.int r)) (cSh 0 s)) := by
  refine runs_of O_X1 okO_X1 (by decide +kernel) rfl rfl (Nat.le_of_ble_eq_true rfl) (Nat.le_of_ble_eq_true rfl) (fun g K => ?_)
  have M := K.b
  show g 0 0 (cSh 0 s) 0 [some (.ref 0), none, none, none] []
  have loop_0 : ∀ (n_ : Nat), (∀ (v1 : Int32) (v2 : Int32) (v3 : Int32), f_X1_countsApart_L0 s n_ v1 v2 v3 = some r → g 0 0 (cSh 0 s) 16 [some (.ref 0), some (.int v1), some (.int v2), some (.int v3)] []) := by
    intro n_
    induction n_ with
    | zero => intro v1 v2 v3 hf; cases hf
    | succ n_ ih =>
      intro v1 v2 v3 hf
      rw [f_X1_countsApart_L0] at hf
      refine m_run M (is := [(16, .iload_n 3, 0), (17, .aload_n 0, 0), (18, .getfield 31, 0)]) (pc' := 21) (L' := [some (.ref 0), some (.int v1), some (.int v2), some (.int v3)]) (st' := [.int s.2.2.2.2.2.1, .int v3]) (w' := (cSh 0 s)) (by decide +kernel) rfl trivial ?_
      rcases ite_s hf with ⟨c_101, hf⟩ | ⟨c_101, hf⟩
      · refine m_jT M (i := .if_icmp .ge 31) 52 (by decide +kernel) rfl (by decide) c_101 ?_
        refine m_run M (is := [(52, .iload_n 2, 0), (53, .iload_n 1, 0), (54, .isub, 0)]) (pc' := 55) (L' := [some (.ref 0), some (.int v1), some (.int v2), some (.int v3)]) (st' := [.int (v2 - v1)]) (w' := (cSh 0 s)) (by decide +kernel) rfl trivial ?_
        obtain rfl := Option.some.inj hf
        exact m_iret K (by decide +kernel) (Nat.zero_le _) (Nat.zero_le _) ⟨rfl, rfl⟩
      · refine m_jF M (i := .if_icmp .ge 31) 52 (by decide +kernel) rfl (by decide) c_101 ?_
        obtain ⟨h_102, hf⟩ := grd_s hf
        refine m_run M (is := [(24, .iload_n 1, 0), (25, .aload_n 0, 0), (26, .getfield 15, 0), (29, .iload_n 3, 0), (30, .iaload, 0)]) (pc' := 31) (L' := [some (.ref 0), some (.int v1), some (.int v2), some (.int v3)]) (st' := [.int (s.2.1 v3.toNatClampNeg), .int v1]) (w' := (cSh 0 s)) (by decide +kernel) rfl ⟨inB_use h_102, trivial⟩ ?_
        obtain ⟨r103, h_103, hf⟩ := bnd_s hf
        refine m_cS0 M (rest := []) (w2 := (cSh 0 s)) (st2 := [.int r103]) (run_J9_min_7cf53 v1 (s.2.1 v3.toNatClampNeg)    h_103) cs_J9_min_7cf53 lk_X1_70 (by decide +kernel) [] (by decide) ⟨Nat.le_of_ble_eq_true rfl, Nat.le_of_ble_eq_true rfl⟩ rfl rfl (Nat.le_of_ble_eq_true rfl) ⟨by decide, by decide⟩ rfl rfl ⟨Nat.zero_le _, Nat.zero_le _⟩ rfl rfl ?_
        obtain ⟨h_104, hf⟩ := grd_s hf
        refine m_run M (is := [(34, .istore_n 1, 0), (35, .iload_n 2, 0), (36, .aload_n 0, 0), (37, .getfield 15, 0), (40, .iload_n 3, 0), (41, .iaload, 0)]) (pc' := 42) (L' := [some (.ref 0), some (.int r103), some (.int v2), some (.int v3)]) (st' := [.int (s.2.1 v3.toNatClampNeg), .int v2]) (w' := (cSh 0 s)) (by decide +kernel) rfl ⟨inB_use h_104, trivial⟩ ?_
        obtain ⟨r105, h_105, hf⟩ := bnd_s hf
        refine m_cS0 M (rest := []) (w2 := (cSh 0 s)) (st2 := [.int r105]) (run_J9_max_7cf53 v2 (s.2.1 v3.toNatClampNeg)    h_105) cs_J9_max_7cf53 lk_X1_76 (by decide +kernel) [] (by decide) ⟨Nat.le_of_ble_eq_true rfl, Nat.le_of_ble_eq_true rfl⟩ rfl rfl (Nat.le_of_ble_eq_true rfl) ⟨by decide, by decide⟩ rfl rfl ⟨Nat.zero_le _, Nat.zero_le _⟩ rfl rfl ?_
        refine m_run M (is := [(45, .istore_n 2, 0), (46, .iinc 3 1, 1), (49, .goto (-33), 0)]) (pc' := 16) (L' := [some (.ref 0), some (.int r103), some (.int r105), some (.int (v3 + 1))]) (st' := []) (w' := (cSh 0 s)) (by decide +kernel) rfl trivial ?_
        exact ih r103 r105 (v3 + 1) hf
  rw [f_X1_countsApart] at hf
  obtain ⟨h_1001, hf⟩ := grd_s hf
  obtain ⟨h_1002, hf⟩ := grd_s hf
  refine m_run M (is := [(0, .aload_n 0, 0), (1, .getfield 15, 0), (4, .iconst 0, 0), (5, .iaload, 0), (6, .istore_n 1, 0), (7, .aload_n 0, 0), (8, .getfield 15, 0), (11, .iconst 0, 0), (12, .iaload, 0), (13, .istore_n 2, 0), (14, .iconst 1, 1), (15, .istore_n 3, 0)]) (pc' := 16) (L' := [some (.ref 0), some (.int (s.2.1 (0 : Int32).toNatClampNeg)), some (.int (s.2.1 (0 : Int32).toNatClampNeg)), some (.int 1)]) (st' := []) (w' := (cSh 0 s)) (by decide +kernel) rfl ⟨inB_use h_1001, inB_use h_1002, trivial⟩ ?_
  exact loop_0 fuel0 (s.2.1 (0 : Int32).toNatClampNeg) (s.2.1 (0 : Int32).toNatClampNeg) 1 hf

def f_X1_add (s : ShT) : Option (Int32 × ShT) :=
  (f_X1_hasRoom s).bind fun r1001 =>
  if r1001 = 0 then
    some ((-1), s)
  else
    if inB s.2.2.2.2.2.1 16 then
    if inB s.2.2.2.2.2.1 16 then
    if inB s.2.2.2.2.2.1 16 then
    some (s.2.2.2.2.2.1, ((upd s.1 s.2.2.2.2.2.1.toNatClampNeg s.2.2.2.2.2.1), (upd s.2.1 s.2.2.2.2.2.1.toNatClampNeg 0), (upd s.2.2.1 s.2.2.2.2.2.1.toNatClampNeg 1), s.2.2.2.1, s.2.2.2.2.1, (s.2.2.2.2.2.1 + 1), s.2.2.2.2.2.2.1, s.2.2.2.2.2.2.2.1, s.2.2.2.2.2.2.2.2.1, s.2.2.2.2.2.2.2.2.2))
    else none
    else none
    else none
set_option maxRecDepth 100000 in
set_option maxHeartbeats 4000000 in
theorem run_X1_add {l : Launch} {D : va_G} {cT : Nat → ClassId}    (s : ShT) {r : Int32 × ShT} (hf : f_X1_add s = some r) : Runs l D cT yX1_add cX1_add 2 (some .int) 1 20 [.ref 0] (cSh 0 s) (EQ (some (.int r.1)) (cSh 0 r.2)) := by
  refine runs_of O_X1 okO_X1 (by decide +kernel) rfl rfl (Nat.le_of_ble_eq_true rfl) (Nat.le_of_ble_eq_true rfl) (fun g K => ?_)
  have M := K.b
  show g 0 0 (cSh 0 s) 0 [some (.ref 0), none] []
  rw [f_X1_add] at hf
  refine m_run M (is := [(0, .aload_n 0, 0)]) (pc' := 1) (L' := [some (.ref 0), none]) (st' := [.ref 0]) (w' := (cSh 0 s)) (by decide +kernel) rfl trivial ?_
  obtain ⟨r1001, h_1001, hf⟩ := bnd_s hf
  refine m_cV0 M (rest := []) (w2 := (cSh 0 s)) (st2 := [.int r1001]) (run_X1_hasRoom    s h_1001) cv_X1_hasRoom lk_X1_79 (by decide +kernel) [0, 1, 2, 3, 4, 5] (by decide) ⟨Nat.le_of_ble_eq_true rfl, Nat.le_of_ble_eq_true rfl⟩ rfl rfl rfl (Nat.le_of_ble_eq_true rfl) ⟨by decide, by decide⟩ rfl rfl ⟨Nat.zero_le _, Nat.zero_le _⟩ rfl rfl ?_
  rcases ite_s hf with ⟨c_1002, hf⟩ | ⟨c_1002, hf⟩
  · refine m_jF M (i := .ifCond .ne 5) 9 (by decide +kernel) rfl (by decide) (fun n => n c_1002) ?_
    refine m_run M (is := [(7, .iconst (-1), -1)]) (pc' := 8) (L' := [some (.ref 0), none]) (st' := [.int (-1)]) (w' := (cSh 0 s)) (by decide +kernel) rfl trivial ?_
    obtain rfl := Option.some.inj hf
    exact m_iret K (by decide +kernel) (Nat.zero_le _) (Nat.zero_le _) ⟨rfl, rfl⟩
  · refine m_jT M (i := .ifCond .ne 5) 9 (by decide +kernel) rfl (by decide) c_1002 ?_
    obtain ⟨h_1003, hf⟩ := grd_s hf
    obtain ⟨h_1004, hf⟩ := grd_s hf
    obtain ⟨h_1005, hf⟩ := grd_s hf
    refine m_run M (is := [(9, .aload_n 0, 0), (10, .getfield 31, 0), (13, .istore_n 1, 0), (14, .aload_n 0, 0), (15, .dup, 0), (16, .getfield 31, 0), (19, .iconst 1, 1), (20, .iadd, 0), (21, .putfield 31, 0), (24, .aload_n 0, 0), (25, .getfield 9, 0), (28, .iload_n 1, 0), (29, .iload_n 1, 0), (30, .iastore, 0), (31, .aload_n 0, 0), (32, .getfield 15, 0), (35, .iload_n 1, 0), (36, .iconst 0, 0), (37, .iastore, 0), (38, .aload_n 0, 0), (39, .getfield 18, 0), (42, .iload_n 1, 0), (43, .iconst 1, 1), (44, .iastore, 0), (45, .iload_n 1, 0)]) (pc' := 46) (L' := [some (.ref 0), some (.int s.2.2.2.2.2.1)]) (st' := [.int s.2.2.2.2.2.1]) (w' := (cSh 0 ((upd s.1 s.2.2.2.2.2.1.toNatClampNeg s.2.2.2.2.2.1), (upd s.2.1 s.2.2.2.2.2.1.toNatClampNeg 0), (upd s.2.2.1 s.2.2.2.2.2.1.toNatClampNeg 1), s.2.2.2.1, s.2.2.2.2.1, (s.2.2.2.2.2.1 + 1), s.2.2.2.2.2.2.1, s.2.2.2.2.2.2.2.1, s.2.2.2.2.2.2.2.2.1, s.2.2.2.2.2.2.2.2.2))) (by decide +kernel) rfl ⟨inB_use h_1003, inB_use h_1004, inB_use h_1005, trivial⟩ ?_
    obtain rfl := Option.some.inj hf
    exact m_iret K (by decide +kernel) (Nat.zero_le _) (Nat.zero_le _) ⟨rfl, rfl⟩

def f_X1_addLaw (a0 : Int32) (a1 : Int32) (s : ShT) : Option (Int32 × ShT) :=
  (f_X1_hasRoomForLaw s).bind fun r1001 =>
  if r1001 = 0 then
    some ((-1), s)
  else
    if inB s.2.2.2.2.2.2.1 6 then
    if inB s.2.2.2.2.2.2.1 6 then
    some (s.2.2.2.2.2.2.1, (s.1, s.2.1, s.2.2.1, (upd s.2.2.2.1 s.2.2.2.2.2.2.1.toNatClampNeg a0), (upd s.2.2.2.2.1 s.2.2.2.2.2.2.1.toNatClampNeg a1), s.2.2.2.2.2.1, (s.2.2.2.2.2.2.1 + 1), s.2.2.2.2.2.2.2.1, s.2.2.2.2.2.2.2.2.1, s.2.2.2.2.2.2.2.2.2))
    else none
    else none
set_option maxRecDepth 100000 in
set_option maxHeartbeats 4000000 in
theorem run_X1_addLaw {l : Launch} {D : va_G} {cT : Nat → ClassId} (a0 : Int32) (a1 : Int32)   (s : ShT) {r : Int32 × ShT} (hf : f_X1_addLaw a0 a1 s = some r) : Runs l D cT yX1_addLaw cX1_addLaw 4 (some .int) 1 20 [.ref 0, .int a0, .int a1] (cSh 0 s) (EQ (some (.int r.1)) (cSh 0 r.2)) := by
  refine runs_of O_X1 okO_X1 (by decide +kernel) rfl rfl (Nat.le_of_ble_eq_true rfl) (Nat.le_of_ble_eq_true rfl) (fun g K => ?_)
  have M := K.b
  show g 0 0 (cSh 0 s) 0 [some (.ref 0), some (.int a0), some (.int a1), none] []
  rw [f_X1_addLaw] at hf
  refine m_run M (is := [(0, .aload_n 0, 0)]) (pc' := 1) (L' := [some (.ref 0), some (.int a0), some (.int a1), none]) (st' := [.ref 0]) (w' := (cSh 0 s)) (by decide +kernel) rfl trivial ?_
  obtain ⟨r1001, h_1001, hf⟩ := bnd_s hf
  refine m_cV0 M (rest := []) (w2 := (cSh 0 s)) (st2 := [.int r1001]) (run_X1_hasRoomForLaw    s h_1001) cv_X1_hasRoomForLaw lk_X1_86 (by decide +kernel) [0, 1, 2, 3, 4, 5] (by decide) ⟨Nat.le_of_ble_eq_true rfl, Nat.le_of_ble_eq_true rfl⟩ rfl rfl rfl (Nat.le_of_ble_eq_true rfl) ⟨by decide, by decide⟩ rfl rfl ⟨Nat.zero_le _, Nat.zero_le _⟩ rfl rfl ?_
  rcases ite_s hf with ⟨c_1002, hf⟩ | ⟨c_1002, hf⟩
  · refine m_jF M (i := .ifCond .ne 5) 9 (by decide +kernel) rfl (by decide) (fun n => n c_1002) ?_
    refine m_run M (is := [(7, .iconst (-1), -1)]) (pc' := 8) (L' := [some (.ref 0), some (.int a0), some (.int a1), none]) (st' := [.int (-1)]) (w' := (cSh 0 s)) (by decide +kernel) rfl trivial ?_
    obtain rfl := Option.some.inj hf
    exact m_iret K (by decide +kernel) (Nat.zero_le _) (Nat.zero_le _) ⟨rfl, rfl⟩
  · refine m_jT M (i := .ifCond .ne 5) 9 (by decide +kernel) rfl (by decide) c_1002 ?_
    obtain ⟨h_1003, hf⟩ := grd_s hf
    obtain ⟨h_1004, hf⟩ := grd_s hf
    refine m_run M (is := [(9, .aload_n 0, 0), (10, .getfield 34, 0), (13, .istore_n 3, 0), (14, .aload_n 0, 0), (15, .dup, 0), (16, .getfield 34, 0), (19, .iconst 1, 1), (20, .iadd, 0), (21, .putfield 34, 0), (24, .aload_n 0, 0), (25, .getfield 21, 0), (28, .iload_n 3, 0), (29, .iload_n 1, 0), (30, .iastore, 0), (31, .aload_n 0, 0), (32, .getfield 24, 0), (35, .iload_n 3, 0), (36, .iload_n 2, 0), (37, .iastore, 0), (38, .iload_n 3, 0)]) (pc' := 39) (L' := [some (.ref 0), some (.int a0), some (.int a1), some (.int s.2.2.2.2.2.2.1)]) (st' := [.int s.2.2.2.2.2.2.1]) (w' := (cSh 0 (s.1, s.2.1, s.2.2.1, (upd s.2.2.2.1 s.2.2.2.2.2.2.1.toNatClampNeg a0), (upd s.2.2.2.2.1 s.2.2.2.2.2.2.1.toNatClampNeg a1), s.2.2.2.2.2.1, (s.2.2.2.2.2.2.1 + 1), s.2.2.2.2.2.2.2.1, s.2.2.2.2.2.2.2.2.1, s.2.2.2.2.2.2.2.2.2))) (by decide +kernel) rfl ⟨inB_use h_1003, inB_use h_1004, trivial⟩ ?_
    obtain rfl := Option.some.inj hf
    exact m_iret K (by decide +kernel) (Nat.zero_le _) (Nat.zero_le _) ⟨rfl, rfl⟩

def f_X1_letBefore (a0 : Int32) (s : ShT) : Option (Int32 × ShT) :=
  (f_X1_hasPlace a0 s).bind fun r1001 =>
  if r1001 = 0 then
    some ((-1), s)
  else
    (f_X1_hasPlace (a0 + 1) s).bind fun r1003 =>
    if r1003 = 0 then
      some ((-1), s)
    else
      if inB (a0 + 1) 16 then
      if inB a0 16 then
      if inB (a0 + 1) 16 then
      if inB a0 16 then
      some ((s.1 (a0 + 1).toNatClampNeg), ((upd (upd s.1 (a0 + 1).toNatClampNeg (s.1 a0.toNatClampNeg)) a0.toNatClampNeg (s.1 (a0 + 1).toNatClampNeg)), s.2.1, s.2.2.1, s.2.2.2.1, s.2.2.2.2.1, s.2.2.2.2.2.1, s.2.2.2.2.2.2.1, s.2.2.2.2.2.2.2.1, s.2.2.2.2.2.2.2.2.1, s.2.2.2.2.2.2.2.2.2))
      else none
      else none
      else none
      else none
set_option maxRecDepth 100000 in
set_option maxHeartbeats 4000000 in
theorem run_X1_letBefore {l : Launch} {D : va_G} {cT : Nat → ClassId} (a0 : Int32)   (s : ShT) {r : Int32 × ShT} (hf : f_X1_letBefore a0 s = some r) : Runs l D cT yX1_letBefore cX1_letBefore 3 (some .int) 1 21 [.ref 0, .int a0] (cSh 0 s) (EQ (some (.int r.1)) (cSh 0 r.2)) := by
  refine runs_of O_X1 okO_X1 (by decide +kernel) rfl rfl (Nat.le_of_ble_eq_true rfl) (Nat.le_of_ble_eq_true rfl) (fun g K => ?_)
  have M := K.b
  show g 0 0 (cSh 0 s) 0 [some (.ref 0), some (.int a0), none] []
  rw [f_X1_letBefore] at hf
  refine m_run M (is := [(0, .aload_n 0, 0), (1, .iload_n 1, 0)]) (pc' := 2) (L' := [some (.ref 0), some (.int a0), none]) (st' := [.int a0, .ref 0]) (w' := (cSh 0 s)) (by decide +kernel) rfl trivial ?_
  obtain ⟨r1001, h_1001, hf⟩ := bnd_s hf
  refine m_cV0 M (rest := []) (w2 := (cSh 0 s)) (st2 := [.int r1001]) (run_X1_hasPlace a0   s h_1001) cv_X1_hasPlace lk_X1_56 (by decide +kernel) [0, 1, 2, 3, 4, 5] (by decide) ⟨Nat.le_of_ble_eq_true rfl, Nat.le_of_ble_eq_true rfl⟩ rfl rfl rfl (Nat.le_of_ble_eq_true rfl) ⟨by decide, by decide⟩ rfl rfl ⟨Nat.zero_le _, Nat.zero_le _⟩ rfl rfl ?_
  rcases ite_s hf with ⟨c_1002, hf⟩ | ⟨c_1002, hf⟩
  · refine m_jT M (i := .ifCond .eq 13) 18 (by decide +kernel) rfl (by decide) c_1002 ?_
    refine m_run M (is := [(18, .iconst (-1), -1)]) (pc' := 19) (L' := [some (.ref 0), some (.int a0), none]) (st' := [.int (-1)]) (w' := (cSh 0 s)) (by decide +kernel) rfl trivial ?_
    obtain rfl := Option.some.inj hf
    exact m_iret K (by decide +kernel) (Nat.zero_le _) (Nat.zero_le _) ⟨rfl, rfl⟩
  · refine m_jF M (i := .ifCond .eq 13) 18 (by decide +kernel) rfl (by decide) c_1002 ?_
    refine m_run M (is := [(8, .aload_n 0, 0), (9, .iload_n 1, 0), (10, .iconst 1, 1), (11, .iadd, 0)]) (pc' := 12) (L' := [some (.ref 0), some (.int a0), none]) (st' := [.int (a0 + 1), .ref 0]) (w' := (cSh 0 s)) (by decide +kernel) rfl trivial ?_
    obtain ⟨r1003, h_1003, hf⟩ := bnd_s hf
    refine m_cV0 M (rest := []) (w2 := (cSh 0 s)) (st2 := [.int r1003]) (run_X1_hasPlace (a0 + 1)   s h_1003) cv_X1_hasPlace lk_X1_56 (by decide +kernel) [0, 1, 2, 3, 4, 5] (by decide) ⟨Nat.le_of_ble_eq_true rfl, Nat.le_of_ble_eq_true rfl⟩ rfl rfl rfl (Nat.le_of_ble_eq_true rfl) ⟨by decide, by decide⟩ rfl rfl ⟨Nat.zero_le _, Nat.zero_le _⟩ rfl rfl ?_
    rcases ite_s hf with ⟨c_1004, hf⟩ | ⟨c_1004, hf⟩
    · refine m_jF M (i := .ifCond .ne 5) 20 (by decide +kernel) rfl (by decide) (fun n => n c_1004) ?_
      refine m_run M (is := [(18, .iconst (-1), -1)]) (pc' := 19) (L' := [some (.ref 0), some (.int a0), none]) (st' := [.int (-1)]) (w' := (cSh 0 s)) (by decide +kernel) rfl trivial ?_
      obtain rfl := Option.some.inj hf
      exact m_iret K (by decide +kernel) (Nat.zero_le _) (Nat.zero_le _) ⟨rfl, rfl⟩
    · refine m_jT M (i := .ifCond .ne 5) 20 (by decide +kernel) rfl (by decide) c_1004 ?_
      obtain ⟨h_1005, hf⟩ := grd_s hf
      obtain ⟨h_1006, hf⟩ := grd_s hf
      obtain ⟨h_1007, hf⟩ := grd_s hf
      obtain ⟨h_1008, hf⟩ := grd_s hf
      refine m_run M (is := [(20, .aload_n 0, 0), (21, .getfield 9, 0), (24, .iload_n 1, 0), (25, .iconst 1, 1), (26, .iadd, 0), (27, .iaload, 0), (28, .istore_n 2, 0), (29, .aload_n 0, 0), (30, .getfield 9, 0), (33, .iload_n 1, 0), (34, .iconst 1, 1), (35, .iadd, 0), (36, .aload_n 0, 0), (37, .getfield 9, 0), (40, .iload_n 1, 0), (41, .iaload, 0), (42, .iastore, 0), (43, .aload_n 0, 0), (44, .getfield 9, 0), (47, .iload_n 1, 0), (48, .iload_n 2, 0), (49, .iastore, 0), (50, .iload_n 2, 0)]) (pc' := 51) (L' := [some (.ref 0), some (.int a0), some (.int (s.1 (a0 + 1).toNatClampNeg))]) (st' := [.int (s.1 (a0 + 1).toNatClampNeg)]) (w' := (cSh 0 ((upd (upd s.1 (a0 + 1).toNatClampNeg (s.1 a0.toNatClampNeg)) a0.toNatClampNeg (s.1 (a0 + 1).toNatClampNeg)), s.2.1, s.2.2.1, s.2.2.2.1, s.2.2.2.2.1, s.2.2.2.2.2.1, s.2.2.2.2.2.2.1, s.2.2.2.2.2.2.2.1, s.2.2.2.2.2.2.2.2.1, s.2.2.2.2.2.2.2.2.2))) (by decide +kernel) rfl ⟨inB_use h_1005, inB_use h_1006, inB_use h_1007, inB_use h_1008, trivial⟩ ?_
      obtain rfl := Option.some.inj hf
      exact m_iret K (by decide +kernel) (Nat.zero_le _) (Nat.zero_le _) ⟨rfl, rfl⟩

def f_X1_move (a0 : Int32) (a1 : Int32) (s : ShT) : Option (ShT) :=
  (f_X1_placeOf a0 s).bind fun r1001 =>
  if r1001 = (-1) then
    some s
  else
    (f_X1_hasPlace a1 s).bind fun r1003 =>
    if r1003 = 0 then
      some s
    else
      if a1 ≤ r1001 then
        if cpB a1 (a1 + 1) (r1001 - a1) 16 16 then
        if inB a1 16 then
        some ((upd (va_cpy s.1 s.1 a1.toNatClampNeg (a1 + 1).toNatClampNeg (r1001 - a1).toNatClampNeg) a1.toNatClampNeg a0), s.2.1, s.2.2.1, s.2.2.2.1, s.2.2.2.2.1, s.2.2.2.2.2.1, s.2.2.2.2.2.2.1, s.2.2.2.2.2.2.2.1, s.2.2.2.2.2.2.2.2.1, s.2.2.2.2.2.2.2.2.2)
        else none
        else none
      else
        if cpB (r1001 + 1) r1001 (a1 - r1001) 16 16 then
        if inB a1 16 then
        some ((upd (va_cpy s.1 s.1 (r1001 + 1).toNatClampNeg r1001.toNatClampNeg (a1 - r1001).toNatClampNeg) a1.toNatClampNeg a0), s.2.1, s.2.2.1, s.2.2.2.1, s.2.2.2.2.1, s.2.2.2.2.2.1, s.2.2.2.2.2.2.1, s.2.2.2.2.2.2.2.1, s.2.2.2.2.2.2.2.2.1, s.2.2.2.2.2.2.2.2.2)
        else none
        else none
set_option maxRecDepth 100000 in
set_option maxHeartbeats 4000000 in
theorem run_X1_move {l : Launch} {D : va_G} {cT : Nat → ClassId} (a0 : Int32) (a1 : Int32)   (s : ShT) {r : ShT} (hf : f_X1_move a0 a1 s = some r) : Runs l D cT yX1_move cX1_move 4 none 1 22 [.ref 0, .int a0, .int a1] (cSh 0 s) (EQ none (cSh 0 r)) := by
  refine runs_of O_X1 okO_X1 (by decide +kernel) rfl rfl (Nat.le_of_ble_eq_true rfl) (Nat.le_of_ble_eq_true rfl) (fun g K => ?_)
  have M := K.b
  show g 0 0 (cSh 0 s) 0 [some (.ref 0), some (.int a0), some (.int a1), none] []
  rw [f_X1_move] at hf
  refine m_run M (is := [(0, .aload_n 0, 0), (1, .iload_n 1, 0)]) (pc' := 2) (L' := [some (.ref 0), some (.int a0), some (.int a1), none]) (st' := [.int a0, .ref 0]) (w' := (cSh 0 s)) (by decide +kernel) rfl trivial ?_
  obtain ⟨r1001, h_1001, hf⟩ := bnd_s hf
  refine m_cV0 M (rest := []) (w2 := (cSh 0 s)) (st2 := [.int r1001]) (run_X1_placeOf a0   s h_1001) cv_X1_placeOf lk_X1_63 (by decide +kernel) [0, 1, 2, 3, 4, 5] (by decide) ⟨Nat.le_of_ble_eq_true rfl, Nat.le_of_ble_eq_true rfl⟩ rfl rfl rfl (Nat.le_of_ble_eq_true rfl) ⟨by decide, by decide⟩ rfl rfl ⟨Nat.zero_le _, Nat.zero_le _⟩ rfl rfl ?_
  refine m_run M (is := [(5, .istore_n 3, 0), (6, .iload_n 3, 0), (7, .iconst (-1), -1)]) (pc' := 8) (L' := [some (.ref 0), some (.int a0), some (.int a1), some (.int r1001)]) (st' := [.int (-1), .int r1001]) (w' := (cSh 0 s)) (by decide +kernel) rfl trivial ?_
  rcases ite_s hf with ⟨c_1002, hf⟩ | ⟨c_1002, hf⟩
  · refine m_jT M (i := .if_icmp .eq 11) 19 (by decide +kernel) rfl (by decide) c_1002 ?_
    obtain rfl := Option.some.inj hf
    exact m_vret K (by decide +kernel) (Nat.zero_le _) (Nat.zero_le _) ⟨rfl, rfl⟩
  · refine m_jF M (i := .if_icmp .eq 11) 19 (by decide +kernel) rfl (by decide) c_1002 ?_
    refine m_run M (is := [(11, .aload_n 0, 0), (12, .iload_n 2, 0)]) (pc' := 13) (L' := [some (.ref 0), some (.int a0), some (.int a1), some (.int r1001)]) (st' := [.int a1, .ref 0]) (w' := (cSh 0 s)) (by decide +kernel) rfl trivial ?_
    obtain ⟨r1003, h_1003, hf⟩ := bnd_s hf
    refine m_cV0 M (rest := []) (w2 := (cSh 0 s)) (st2 := [.int r1003]) (run_X1_hasPlace a1   s h_1003) cv_X1_hasPlace lk_X1_56 (by decide +kernel) [0, 1, 2, 3, 4, 5] (by decide) ⟨Nat.le_of_ble_eq_true rfl, Nat.le_of_ble_eq_true rfl⟩ rfl rfl rfl (Nat.le_of_ble_eq_true rfl) ⟨by decide, by decide⟩ rfl rfl ⟨Nat.zero_le _, Nat.zero_le _⟩ rfl rfl ?_
    rcases ite_s hf with ⟨c_1004, hf⟩ | ⟨c_1004, hf⟩
    · refine m_jF M (i := .ifCond .ne 4) 20 (by decide +kernel) rfl (by decide) (fun n => n c_1004) ?_
      obtain rfl := Option.some.inj hf
      exact m_vret K (by decide +kernel) (Nat.zero_le _) (Nat.zero_le _) ⟨rfl, rfl⟩
    · refine m_jT M (i := .ifCond .ne 4) 20 (by decide +kernel) rfl (by decide) c_1004 ?_
      refine m_run M (is := [(20, .iload_n 3, 0), (21, .iload_n 2, 0)]) (pc' := 22) (L' := [some (.ref 0), some (.int a0), some (.int a1), some (.int r1001)]) (st' := [.int a1, .int r1001]) (w' := (cSh 0 s)) (by decide +kernel) rfl trivial ?_
      rcases ite_s hf with ⟨c_1005, hf⟩ | ⟨c_1005, hf⟩
      · refine m_jT M (i := .if_icmp .ge 24) 46 (by decide +kernel) rfl (by decide) c_1005 ?_
        refine m_run M (is := [(46, .aload_n 0, 0), (47, .getfield 9, 0), (50, .iload_n 2, 0), (51, .aload_n 0, 0), (52, .getfield 9, 0), (55, .iload_n 2, 0), (56, .iconst 1, 1), (57, .iadd, 0), (58, .iload_n 3, 0), (59, .iload_n 2, 0), (60, .isub, 0)]) (pc' := 61) (L' := [some (.ref 0), some (.int a0), some (.int a1), some (.int r1001)]) (st' := [.int (r1001 - a1), .int (a1 + 1), .ref 1, .int a1, .ref 1]) (w' := (cSh 0 s)) (by decide +kernel) rfl trivial ?_
        obtain ⟨h_1006, hf⟩ := grd_s hf
        refine m_cpI M (w2 := (cSh 0 ((va_cpy s.1 s.1 a1.toNatClampNeg (a1 + 1).toNatClampNeg (r1001 - a1).toNatClampNeg), s.2.1, s.2.2.1, s.2.2.2.1, s.2.2.2.2.1, s.2.2.2.2.2.1, s.2.2.2.2.2.2.1, s.2.2.2.2.2.2.2.1, s.2.2.2.2.2.2.2.2.1, s.2.2.2.2.2.2.2.2.2))) cp_X1_43 rfl rfl h_1006 (by decide) (Nat.le_of_ble_eq_true rfl) (by decide +kernel) rfl ?_
        obtain ⟨h_1007, hf⟩ := grd_s hf
        refine m_run M (is := [(64, .aload_n 0, 0), (65, .getfield 9, 0), (68, .iload_n 2, 0), (69, .iload_n 1, 0), (70, .iastore, 0)]) (pc' := 71) (L' := [some (.ref 0), some (.int a0), some (.int a1), some (.int r1001)]) (st' := []) (w' := (cSh 0 ((upd (va_cpy s.1 s.1 a1.toNatClampNeg (a1 + 1).toNatClampNeg (r1001 - a1).toNatClampNeg) a1.toNatClampNeg a0), s.2.1, s.2.2.1, s.2.2.2.1, s.2.2.2.2.1, s.2.2.2.2.2.1, s.2.2.2.2.2.2.1, s.2.2.2.2.2.2.2.1, s.2.2.2.2.2.2.2.2.1, s.2.2.2.2.2.2.2.2.2))) (by decide +kernel) rfl ⟨inB_use h_1007, trivial⟩ ?_
        obtain rfl := Option.some.inj hf
        exact m_vret K (by decide +kernel) (Nat.zero_le _) (Nat.zero_le _) ⟨rfl, rfl⟩
      · refine m_jF M (i := .if_icmp .ge 24) 46 (by decide +kernel) rfl (by decide) c_1005 ?_
        refine m_run M (is := [(25, .aload_n 0, 0), (26, .getfield 9, 0), (29, .iload_n 3, 0), (30, .iconst 1, 1), (31, .iadd, 0), (32, .aload_n 0, 0), (33, .getfield 9, 0), (36, .iload_n 3, 0), (37, .iload_n 2, 0), (38, .iload_n 3, 0), (39, .isub, 0)]) (pc' := 40) (L' := [some (.ref 0), some (.int a0), some (.int a1), some (.int r1001)]) (st' := [.int (a1 - r1001), .int r1001, .ref 1, .int (r1001 + 1), .ref 1]) (w' := (cSh 0 s)) (by decide +kernel) rfl trivial ?_
        obtain ⟨h_1008, hf⟩ := grd_s hf
        refine m_cpI M (w2 := (cSh 0 ((va_cpy s.1 s.1 (r1001 + 1).toNatClampNeg r1001.toNatClampNeg (a1 - r1001).toNatClampNeg), s.2.1, s.2.2.1, s.2.2.2.1, s.2.2.2.2.1, s.2.2.2.2.2.1, s.2.2.2.2.2.2.1, s.2.2.2.2.2.2.2.1, s.2.2.2.2.2.2.2.2.1, s.2.2.2.2.2.2.2.2.2))) cp_X1_43 rfl rfl h_1008 (by decide) (Nat.le_of_ble_eq_true rfl) (by decide +kernel) rfl ?_
        obtain ⟨h_1009, hf⟩ := grd_s hf
        refine m_run M (is := [(43, .goto 21, 0), (64, .aload_n 0, 0), (65, .getfield 9, 0), (68, .iload_n 2, 0), (69, .iload_n 1, 0), (70, .iastore, 0)]) (pc' := 71) (L' := [some (.ref 0), some (.int a0), some (.int a1), some (.int r1001)]) (st' := []) (w' := (cSh 0 ((upd (va_cpy s.1 s.1 (r1001 + 1).toNatClampNeg r1001.toNatClampNeg (a1 - r1001).toNatClampNeg) a1.toNatClampNeg a0), s.2.1, s.2.2.1, s.2.2.2.1, s.2.2.2.2.1, s.2.2.2.2.2.1, s.2.2.2.2.2.2.1, s.2.2.2.2.2.2.2.1, s.2.2.2.2.2.2.2.2.1, s.2.2.2.2.2.2.2.2.2))) (by decide +kernel) rfl ⟨inB_use h_1009, trivial⟩ ?_
        obtain rfl := Option.some.inj hf
        exact m_vret K (by decide +kernel) (Nat.zero_le _) (Nat.zero_le _) ⟨rfl, rfl⟩

def f_X1_removeLast (s : ShT) : Option (ShT) :=
  (f_X1_isEmpty s).bind fun r1001 =>
  if r1001 = 0 then
    (f_X1_move (s.2.2.2.2.2.1 - 1) (s.2.2.2.2.2.1 - 1) s).bind fun r1003 =>
    some (r1003.1, r1003.2.1, r1003.2.2.1, r1003.2.2.2.1, r1003.2.2.2.2.1, (r1003.2.2.2.2.2.1 - 1), r1003.2.2.2.2.2.2.1, r1003.2.2.2.2.2.2.2.1, r1003.2.2.2.2.2.2.2.2.1, r1003.2.2.2.2.2.2.2.2.2)
  else
    some s
set_option maxRecDepth 100000 in
set_option maxHeartbeats 4000000 in
theorem run_X1_removeLast {l : Launch} {D : va_G} {cT : Nat → ClassId}    (s : ShT) {r : ShT} (hf : f_X1_removeLast s = some r) : Runs l D cT yX1_removeLast cX1_removeLast 1 none 2 45 [.ref 0] (cSh 0 s) (EQ none (cSh 0 r)) := by
  refine runs_of O_X1 okO_X1 (by decide +kernel) rfl rfl (Nat.le_of_ble_eq_true rfl) (Nat.le_of_ble_eq_true rfl) (fun g K => ?_)
  have M := K.b
  show g 0 0 (cSh 0 s) 0 [some (.ref 0)] []
  rw [f_X1_removeLast] at hf
  refine m_run M (is := [(0, .aload_n 0, 0)]) (pc' := 1) (L' := [some (.ref 0)]) (st' := [.ref 0]) (w' := (cSh 0 s)) (by decide +kernel) rfl trivial ?_
  obtain ⟨r1001, h_1001, hf⟩ := bnd_s hf
  refine m_cV0 M (rest := []) (w2 := (cSh 0 s)) (st2 := [.int r1001]) (run_X1_isEmpty    s h_1001) cv_X1_isEmpty lk_X1_49 (by decide +kernel) [0, 1, 2, 3, 4, 5] (by decide) ⟨Nat.le_of_ble_eq_true rfl, Nat.le_of_ble_eq_true rfl⟩ rfl rfl rfl (Nat.le_of_ble_eq_true rfl) ⟨by decide, by decide⟩ rfl rfl ⟨Nat.zero_le _, Nat.zero_le _⟩ rfl rfl ?_
  rcases ite_s hf with ⟨c_1002, hf⟩ | ⟨c_1002, hf⟩
  · refine m_jF M (i := .ifCond .ne 29) 33 (by decide +kernel) rfl (by decide) (fun n => n c_1002) ?_
    refine m_run M (is := [(7, .aload_n 0, 0), (8, .aload_n 0, 0), (9, .getfield 31, 0), (12, .iconst 1, 1), (13, .isub, 0), (14, .aload_n 0, 0), (15, .getfield 31, 0), (18, .iconst 1, 1), (19, .isub, 0)]) (pc' := 20) (L' := [some (.ref 0)]) (st' := [.int (s.2.2.2.2.2.1 - 1), .int (s.2.2.2.2.2.1 - 1), .ref 0]) (w' := (cSh 0 s)) (by decide +kernel) rfl trivial ?_
    obtain ⟨r1003, h_1003, hf⟩ := bnd_s hf
    refine m_cV0 M (rest := []) (w2 := (cSh 0 r1003)) (st2 := []) (run_X1_move (s.2.2.2.2.2.1 - 1) (s.2.2.2.2.2.1 - 1)   s h_1003) cv_X1_move lk_X1_82 (by decide +kernel) [0, 1, 2, 3, 4, 5] (by decide) ⟨Nat.le_of_ble_eq_true rfl, Nat.le_of_ble_eq_true rfl⟩ rfl rfl rfl (Nat.le_of_ble_eq_true rfl) ⟨by decide, by decide⟩ rfl rfl ⟨Nat.zero_le _, Nat.zero_le _⟩ rfl rfl ?_
    refine m_run M (is := [(23, .aload_n 0, 0), (24, .dup, 0), (25, .getfield 31, 0), (28, .iconst 1, 1), (29, .isub, 0), (30, .putfield 31, 0)]) (pc' := 33) (L' := [some (.ref 0)]) (st' := []) (w' := (cSh 0 (r1003.1, r1003.2.1, r1003.2.2.1, r1003.2.2.2.1, r1003.2.2.2.2.1, (r1003.2.2.2.2.2.1 - 1), r1003.2.2.2.2.2.2.1, r1003.2.2.2.2.2.2.2.1, r1003.2.2.2.2.2.2.2.2.1, r1003.2.2.2.2.2.2.2.2.2))) (by decide +kernel) rfl trivial ?_
    obtain rfl := Option.some.inj hf
    exact m_vret K (by decide +kernel) (Nat.zero_le _) (Nat.zero_le _) ⟨rfl, rfl⟩
  · refine m_jT M (i := .ifCond .ne 29) 33 (by decide +kernel) rfl (by decide) c_1002 ?_
    obtain rfl := Option.some.inj hf
    exact m_vret K (by decide +kernel) (Nat.zero_le _) (Nat.zero_le _) ⟨rfl, rfl⟩

def f_X1_startAnew (s : ShT) : Option (ShT) :=
  (f_J7_fill_53178 0 16 s.2.1).bind fun r1001 =>
  (f_J7_fill_53178 1 16 s.2.2.1).bind fun r1002 =>
  some (s.1, r1001, r1002, s.2.2.2.1, s.2.2.2.2.1, s.2.2.2.2.2.1, s.2.2.2.2.2.2.1, s.2.2.2.2.2.2.2.1, 0, s.2.2.2.2.2.2.2.2.2)
set_option maxRecDepth 100000 in
set_option maxHeartbeats 4000000 in
theorem run_X1_startAnew {l : Launch} {D : va_G} {cT : Nat → ClassId}    (s : ShT) {r : ShT} (hf : f_X1_startAnew s = some r) : Runs l D cT yX1_startAnew cX1_startAnew 1 none 1 23 [.ref 0] (cSh 0 s) (EQ none (cSh 0 r)) := by
  refine runs_of O_X1 okO_X1 (by decide +kernel) rfl rfl (Nat.le_of_ble_eq_true rfl) (Nat.le_of_ble_eq_true rfl) (fun g K => ?_)
  have M := K.b
  show g 0 0 (cSh 0 s) 0 [some (.ref 0)] []
  rw [f_X1_startAnew] at hf
  refine m_run M (is := [(0, .aload_n 0, 0), (1, .getfield 15, 0), (4, .iconst 0, 0)]) (pc' := 5) (L' := [some (.ref 0)]) (st' := [.int 0, .ref 2]) (w' := (cSh 0 s)) (by decide +kernel) rfl trivial ?_
  obtain ⟨r1001, h_1001, hf⟩ := bnd_s hf
  refine m_cS0 M (rest := []) (w2 := (cSh 0 (s.1, r1001, s.2.2.1, s.2.2.2.1, s.2.2.2.2.1, s.2.2.2.2.2.1, s.2.2.2.2.2.2.1, s.2.2.2.2.2.2.2.1, s.2.2.2.2.2.2.2.2.1, s.2.2.2.2.2.2.2.2.2))) (st2 := []) (run_J7_fill_53178 0 16  s.2.1 h_1001) cs_J7_fill_53178 lk_X1_89 (by decide +kernel) [2] (by decide) ⟨Nat.le_of_ble_eq_true rfl, Nat.le_of_ble_eq_true rfl⟩ rfl rfl (Nat.le_of_ble_eq_true rfl) ⟨by decide, by decide⟩ rfl rfl ⟨Nat.zero_le _, Nat.zero_le _⟩ rfl rfl ?_
  refine m_run M (is := [(8, .aload_n 0, 0), (9, .getfield 18, 0), (12, .iconst 1, 1)]) (pc' := 13) (L' := [some (.ref 0)]) (st' := [.int 1, .ref 3]) (w' := (cSh 0 (s.1, r1001, s.2.2.1, s.2.2.2.1, s.2.2.2.2.1, s.2.2.2.2.2.1, s.2.2.2.2.2.2.1, s.2.2.2.2.2.2.2.1, s.2.2.2.2.2.2.2.2.1, s.2.2.2.2.2.2.2.2.2))) (by decide +kernel) rfl trivial ?_
  obtain ⟨r1002, h_1002, hf⟩ := bnd_s hf
  refine m_cS0 M (rest := []) (w2 := (cSh 0 (s.1, r1001, r1002, s.2.2.2.1, s.2.2.2.2.1, s.2.2.2.2.2.1, s.2.2.2.2.2.2.1, s.2.2.2.2.2.2.2.1, s.2.2.2.2.2.2.2.2.1, s.2.2.2.2.2.2.2.2.2))) (st2 := []) (run_J7_fill_53178 1 16  s.2.2.1 h_1002) cs_J7_fill_53178 lk_X1_89 (by decide +kernel) [3] (by decide) ⟨Nat.le_of_ble_eq_true rfl, Nat.le_of_ble_eq_true rfl⟩ rfl rfl (Nat.le_of_ble_eq_true rfl) ⟨by decide, by decide⟩ rfl rfl ⟨Nat.zero_le _, Nat.zero_le _⟩ rfl rfl ?_
  refine m_run M (is := [(16, .aload_n 0, 0), (17, .iconst 0, 0), (18, .putfield 40, 0)]) (pc' := 21) (L' := [some (.ref 0)]) (st' := []) (w' := (cSh 0 (s.1, r1001, r1002, s.2.2.2.1, s.2.2.2.2.1, s.2.2.2.2.2.1, s.2.2.2.2.2.2.1, s.2.2.2.2.2.2.2.1, 0, s.2.2.2.2.2.2.2.2.2))) (by decide +kernel) rfl trivial ?_
  obtain rfl := Option.some.inj hf
  exact m_vret K (by decide +kernel) (Nat.zero_le _) (Nat.zero_le _) ⟨rfl, rfl⟩

def f_X1_stepsWanted (a0 : Int32) (a1 : Int32) (s : ShT) : Option (Int32) :=
  if inB a0 16 then
  if inB a1 6 then
  if (s.2.2.2.1 a1.toNatClampNeg) = 1 then
    if inB a0 16 then
    some (s.2.2.1 a0.toNatClampNeg)
    else none
  else
    if (s.2.2.2.1 a1.toNatClampNeg) = 2 then
      some ((s.2.1 a0.toNatClampNeg) + 1)
    else
      if (s.2.2.2.1 a1.toNatClampNeg) = 3 then
        if inB a0 16 then
        some (s.2.2.1 a0.toNatClampNeg)
        else none
      else
        if (s.2.2.2.1 a1.toNatClampNeg) = 4 then
          if inB a1 6 then
          some (((s.2.1 a0.toNatClampNeg) + 1) + (s.2.2.2.2.1 a1.toNatClampNeg))
          else none
        else
          if (s.2.2.2.1 a1.toNatClampNeg) = 5 then
            some (s.2.2.2.2.2.1 - 1)
          else
            if inB a1 6 then
            some (s.2.2.2.2.1 a1.toNatClampNeg)
            else none
  else none
  else none
set_option maxRecDepth 100000 in
set_option maxHeartbeats 4000000 in
theorem run_X1_stepsWanted {l : Launch} {D : va_G} {cT : Nat → ClassId} (a0 : Int32) (a1 : Int32)   (s : ShT) {r : Int32} (hf : f_X1_stepsWanted a0 a1 s = some r) : Runs l D cT yX1_stepsWanted cX1_stepsWanted 4 (some .int) 0 0 [.ref 0, .int a0, .int a1] (cSh 0 s) (EQ (some (.int r)) (cSh 0 s)) := by
  refine runs_of O_X1 okO_X1 (by decide +kernel) rfl rfl (Nat.le_of_ble_eq_true rfl) (Nat.le_of_ble_eq_true rfl) (fun g K => ?_)
  have M := K.b
  show g 0 0 (cSh 0 s) 0 [some (.ref 0), some (.int a0), some (.int a1), none] []
  rw [f_X1_stepsWanted] at hf
  obtain ⟨h_1001, hf⟩ := grd_s hf
  obtain ⟨h_1002, hf⟩ := grd_s hf
  refine m_run M (is := [(0, .aload_n 0, 0), (1, .getfield 15, 0), (4, .iload_n 1, 0), (5, .iaload, 0), (6, .iconst 1, 1), (7, .iadd, 0), (8, .istore_n 3, 0), (9, .aload_n 0, 0), (10, .getfield 21, 0), (13, .iload_n 2, 0), (14, .iaload, 0)]) (pc' := 15) (L' := [some (.ref 0), some (.int a0), some (.int a1), some (.int ((s.2.1 a0.toNatClampNeg) + 1))]) (st' := [.int (s.2.2.2.1 a1.toNatClampNeg)]) (w' := (cSh 0 s)) (by decide +kernel) rfl ⟨inB_use h_1001, inB_use h_1002, trivial⟩ ?_
  rcases ite_s hf with ⟨c_1003, hf⟩ | ⟨c_1003, hf⟩
  · refine m_tsI M (dflt := 58) (t0 := 1) (t1 := 5) (offs := #[33, 40, 33, 42, 51]) (len := 33) (tgt := 48) 0 (by decide +kernel) (by rw [c_1003]; rfl) (by decide) rfl (by decide) ?_
    obtain ⟨h_1004, hf⟩ := grd_s hf
    refine m_run M (is := [(48, .aload_n 0, 0), (49, .getfield 18, 0), (52, .iload_n 1, 0), (53, .iaload, 0)]) (pc' := 54) (L' := [some (.ref 0), some (.int a0), some (.int a1), some (.int ((s.2.1 a0.toNatClampNeg) + 1))]) (st' := [.int (s.2.2.1 a0.toNatClampNeg)]) (w' := (cSh 0 s)) (by decide +kernel) rfl ⟨inB_use h_1004, trivial⟩ ?_
    obtain rfl := Option.some.inj hf
    exact m_iret K (by decide +kernel) (Nat.zero_le _) (Nat.zero_le _) ⟨rfl, rfl⟩
  · rcases ite_s hf with ⟨c_1005, hf⟩ | ⟨c_1005, hf⟩
    · refine m_tsI M (dflt := 58) (t0 := 1) (t1 := 5) (offs := #[33, 40, 33, 42, 51]) (len := 33) (tgt := 55) 1 (by decide +kernel) (by rw [c_1005]; rfl) (by decide) rfl (by decide) ?_
      refine m_run M (is := [(55, .iload_n 3, 0)]) (pc' := 56) (L' := [some (.ref 0), some (.int a0), some (.int a1), some (.int ((s.2.1 a0.toNatClampNeg) + 1))]) (st' := [.int ((s.2.1 a0.toNatClampNeg) + 1)]) (w' := (cSh 0 s)) (by decide +kernel) rfl trivial ?_
      obtain rfl := Option.some.inj hf
      exact m_iret K (by decide +kernel) (Nat.zero_le _) (Nat.zero_le _) ⟨rfl, rfl⟩
    · rcases ite_s hf with ⟨c_1006, hf⟩ | ⟨c_1006, hf⟩
      · refine m_tsI M (dflt := 58) (t0 := 1) (t1 := 5) (offs := #[33, 40, 33, 42, 51]) (len := 33) (tgt := 48) 2 (by decide +kernel) (by rw [c_1006]; rfl) (by decide) rfl (by decide) ?_
        obtain ⟨h_1007, hf⟩ := grd_s hf
        refine m_run M (is := [(48, .aload_n 0, 0), (49, .getfield 18, 0), (52, .iload_n 1, 0), (53, .iaload, 0)]) (pc' := 54) (L' := [some (.ref 0), some (.int a0), some (.int a1), some (.int ((s.2.1 a0.toNatClampNeg) + 1))]) (st' := [.int (s.2.2.1 a0.toNatClampNeg)]) (w' := (cSh 0 s)) (by decide +kernel) rfl ⟨inB_use h_1007, trivial⟩ ?_
        obtain rfl := Option.some.inj hf
        exact m_iret K (by decide +kernel) (Nat.zero_le _) (Nat.zero_le _) ⟨rfl, rfl⟩
      · rcases ite_s hf with ⟨c_1008, hf⟩ | ⟨c_1008, hf⟩
        · refine m_tsI M (dflt := 58) (t0 := 1) (t1 := 5) (offs := #[33, 40, 33, 42, 51]) (len := 33) (tgt := 57) 3 (by decide +kernel) (by rw [c_1008]; rfl) (by decide) rfl (by decide) ?_
          obtain ⟨h_1009, hf⟩ := grd_s hf
          refine m_run M (is := [(57, .iload_n 3, 0), (58, .aload_n 0, 0), (59, .getfield 24, 0), (62, .iload_n 2, 0), (63, .iaload, 0), (64, .iadd, 0)]) (pc' := 65) (L' := [some (.ref 0), some (.int a0), some (.int a1), some (.int ((s.2.1 a0.toNatClampNeg) + 1))]) (st' := [.int (((s.2.1 a0.toNatClampNeg) + 1) + (s.2.2.2.2.1 a1.toNatClampNeg))]) (w' := (cSh 0 s)) (by decide +kernel) rfl ⟨inB_use h_1009, trivial⟩ ?_
          obtain rfl := Option.some.inj hf
          exact m_iret K (by decide +kernel) (Nat.zero_le _) (Nat.zero_le _) ⟨rfl, rfl⟩
        · rcases ite_s hf with ⟨c_1010, hf⟩ | ⟨c_1010, hf⟩
          · refine m_tsI M (dflt := 58) (t0 := 1) (t1 := 5) (offs := #[33, 40, 33, 42, 51]) (len := 33) (tgt := 66) 4 (by decide +kernel) (by rw [c_1010]; rfl) (by decide) rfl (by decide) ?_
            refine m_run M (is := [(66, .aload_n 0, 0), (67, .getfield 31, 0), (70, .iconst 1, 1), (71, .isub, 0)]) (pc' := 72) (L' := [some (.ref 0), some (.int a0), some (.int a1), some (.int ((s.2.1 a0.toNatClampNeg) + 1))]) (st' := [.int (s.2.2.2.2.2.1 - 1)]) (w' := (cSh 0 s)) (by decide +kernel) rfl trivial ?_
            obtain rfl := Option.some.inj hf
            exact m_iret K (by decide +kernel) (Nat.zero_le _) (Nat.zero_le _) ⟨rfl, rfl⟩
          · refine m_tsO M (dflt := 58) (t0 := 1) (t1 := 5) (offs := #[33, 40, 33, 42, 51]) (len := 33) (tgt := 73) (by decide +kernel) (ts_one5 c_1003 c_1005 c_1006 c_1008 c_1010) (by decide) ?_
            obtain ⟨h_1011, hf⟩ := grd_s hf
            refine m_run M (is := [(73, .aload_n 0, 0), (74, .getfield 24, 0), (77, .iload_n 2, 0), (78, .iaload, 0)]) (pc' := 79) (L' := [some (.ref 0), some (.int a0), some (.int a1), some (.int ((s.2.1 a0.toNatClampNeg) + 1))]) (st' := [.int (s.2.2.2.2.1 a1.toNatClampNeg)]) (w' := (cSh 0 s)) (by decide +kernel) rfl ⟨inB_use h_1011, trivial⟩ ?_
            obtain rfl := Option.some.inj hf
            exact m_iret K (by decide +kernel) (Nat.zero_le _) (Nat.zero_le _) ⟨rfl, rfl⟩

def f_X1_stepsBack (a0 : Int32) (s : ShT) : Option (Int32) :=
  if inB 0 16 then
  (f_X1_hasPerson (s.1 (0 : Int32).toNatClampNeg) s).bind fun r1002 =>
  if r1002 = 0 then
    some (-1)
  else
    (f_X1_hasLaw a0 s).bind fun r1004 =>
    if r1004 = 0 then
      some (-1)
    else
      (f_X1_stepsWanted (s.1 (0 : Int32).toNatClampNeg) a0 s).bind fun r1006 =>
      (f_J9_min_7cf53 r1006 (s.2.2.2.2.2.1 - 1)).bind fun r1007 =>
      (f_J9_max_7cf53 0 r1007).bind fun r1008 =>
      some r1008
  else none
set_option maxRecDepth 100000 in
set_option maxHeartbeats 4000000 in
theorem run_X1_stepsBack {l : Launch} {D : va_G} {cT : Nat → ClassId} (a0 : Int32)   (s : ShT) {r : Int32} (hf : f_X1_stepsBack a0 s = some r) : Runs l D cT yX1_stepsBack cX1_stepsBack 3 (some .int) 1 23 [.ref 0, .int a0] (cSh 0 s) (EQ (some (.int r)) (cSh 0 s)) := by
  refine runs_of O_X1 okO_X1 (by decide +kernel) rfl rfl (Nat.le_of_ble_eq_true rfl) (Nat.le_of_ble_eq_true rfl) (fun g K => ?_)
  have M := K.b
  show g 0 0 (cSh 0 s) 0 [some (.ref 0), some (.int a0), none] []
  rw [f_X1_stepsBack] at hf
  obtain ⟨h_1001, hf⟩ := grd_s hf
  refine m_run M (is := [(0, .aload_n 0, 0), (1, .getfield 9, 0), (4, .iconst 0, 0), (5, .iaload, 0), (6, .istore_n 2, 0), (7, .aload_n 0, 0), (8, .iload_n 2, 0)]) (pc' := 9) (L' := [some (.ref 0), some (.int a0), some (.int (s.1 (0 : Int32).toNatClampNeg))]) (st' := [.int (s.1 (0 : Int32).toNatClampNeg), .ref 0]) (w' := (cSh 0 s)) (by decide +kernel) rfl ⟨inB_use h_1001, trivial⟩ ?_
  obtain ⟨r1002, h_1002, hf⟩ := bnd_s hf
  refine m_cV0 M (rest := []) (w2 := (cSh 0 s)) (st2 := [.int r1002]) (run_X1_hasPerson (s.1 (0 : Int32).toNatClampNeg)   s h_1002) cv_X1_hasPerson lk_X1_60 (by decide +kernel) [0, 1, 2, 3, 4, 5] (by decide) ⟨Nat.le_of_ble_eq_true rfl, Nat.le_of_ble_eq_true rfl⟩ rfl rfl rfl (Nat.le_of_ble_eq_true rfl) ⟨by decide, by decide⟩ rfl rfl ⟨Nat.zero_le _, Nat.zero_le _⟩ rfl rfl ?_
  rcases ite_s hf with ⟨c_1003, hf⟩ | ⟨c_1003, hf⟩
  · refine m_jT M (i := .ifCond .eq 11) 23 (by decide +kernel) rfl (by decide) c_1003 ?_
    refine m_run M (is := [(23, .iconst (-1), -1)]) (pc' := 24) (L' := [some (.ref 0), some (.int a0), some (.int (s.1 (0 : Int32).toNatClampNeg))]) (st' := [.int (-1)]) (w' := (cSh 0 s)) (by decide +kernel) rfl trivial ?_
    obtain rfl := Option.some.inj hf
    exact m_iret K (by decide +kernel) (Nat.zero_le _) (Nat.zero_le _) ⟨rfl, rfl⟩
  · refine m_jF M (i := .ifCond .eq 11) 23 (by decide +kernel) rfl (by decide) c_1003 ?_
    refine m_run M (is := [(15, .aload_n 0, 0), (16, .iload_n 1, 0)]) (pc' := 17) (L' := [some (.ref 0), some (.int a0), some (.int (s.1 (0 : Int32).toNatClampNeg))]) (st' := [.int a0, .ref 0]) (w' := (cSh 0 s)) (by decide +kernel) rfl trivial ?_
    obtain ⟨r1004, h_1004, hf⟩ := bnd_s hf
    refine m_cV0 M (rest := []) (w2 := (cSh 0 s)) (st2 := [.int r1004]) (run_X1_hasLaw a0   s h_1004) cv_X1_hasLaw lk_X1_67 (by decide +kernel) [0, 1, 2, 3, 4, 5] (by decide) ⟨Nat.le_of_ble_eq_true rfl, Nat.le_of_ble_eq_true rfl⟩ rfl rfl rfl (Nat.le_of_ble_eq_true rfl) ⟨by decide, by decide⟩ rfl rfl ⟨Nat.zero_le _, Nat.zero_le _⟩ rfl rfl ?_
    rcases ite_s hf with ⟨c_1005, hf⟩ | ⟨c_1005, hf⟩
    · refine m_jF M (i := .ifCond .ne 5) 25 (by decide +kernel) rfl (by decide) (fun n => n c_1005) ?_
      refine m_run M (is := [(23, .iconst (-1), -1)]) (pc' := 24) (L' := [some (.ref 0), some (.int a0), some (.int (s.1 (0 : Int32).toNatClampNeg))]) (st' := [.int (-1)]) (w' := (cSh 0 s)) (by decide +kernel) rfl trivial ?_
      obtain rfl := Option.some.inj hf
      exact m_iret K (by decide +kernel) (Nat.zero_le _) (Nat.zero_le _) ⟨rfl, rfl⟩
    · refine m_jT M (i := .ifCond .ne 5) 25 (by decide +kernel) rfl (by decide) c_1005 ?_
      refine m_run M (is := [(25, .iconst 0, 0), (26, .aload_n 0, 0), (27, .iload_n 2, 0), (28, .iload_n 1, 0)]) (pc' := 29) (L' := [some (.ref 0), some (.int a0), some (.int (s.1 (0 : Int32).toNatClampNeg))]) (st' := [.int a0, .int (s.1 (0 : Int32).toNatClampNeg), .ref 0, .int 0]) (w' := (cSh 0 s)) (by decide +kernel) rfl trivial ?_
      obtain ⟨r1006, h_1006, hf⟩ := bnd_s hf
      refine m_cV0 M (rest := [.int 0]) (w2 := (cSh 0 s)) (st2 := [.int r1006, .int 0]) (run_X1_stepsWanted (s.1 (0 : Int32).toNatClampNeg) a0   s h_1006) cv_X1_stepsWanted lk_X1_95 (by decide +kernel) [0, 1, 2, 3, 4, 5] (by decide) ⟨Nat.le_of_ble_eq_true rfl, Nat.le_of_ble_eq_true rfl⟩ rfl rfl rfl (Nat.le_of_ble_eq_true rfl) ⟨by decide, by decide⟩ rfl rfl ⟨Nat.zero_le _, Nat.zero_le _⟩ rfl rfl ?_
      refine m_run M (is := [(32, .aload_n 0, 0), (33, .getfield 31, 0), (36, .iconst 1, 1), (37, .isub, 0)]) (pc' := 38) (L' := [some (.ref 0), some (.int a0), some (.int (s.1 (0 : Int32).toNatClampNeg))]) (st' := [.int (s.2.2.2.2.2.1 - 1), .int r1006, .int 0]) (w' := (cSh 0 s)) (by decide +kernel) rfl trivial ?_
      obtain ⟨r1007, h_1007, hf⟩ := bnd_s hf
      refine m_cS0 M (rest := [.int 0]) (w2 := (cSh 0 s)) (st2 := [.int r1007, .int 0]) (run_J9_min_7cf53 r1006 (s.2.2.2.2.2.1 - 1)    h_1007) cs_J9_min_7cf53 lk_X1_70 (by decide +kernel) [] (by decide) ⟨Nat.le_of_ble_eq_true rfl, Nat.le_of_ble_eq_true rfl⟩ rfl rfl (Nat.le_of_ble_eq_true rfl) ⟨by decide, by decide⟩ rfl rfl ⟨Nat.zero_le _, Nat.zero_le _⟩ rfl rfl ?_
      obtain ⟨r1008, h_1008, hf⟩ := bnd_s hf
      refine m_cS0 M (rest := []) (w2 := (cSh 0 s)) (st2 := [.int r1008]) (run_J9_max_7cf53 0 r1007    h_1008) cs_J9_max_7cf53 lk_X1_76 (by decide +kernel) [] (by decide) ⟨Nat.le_of_ble_eq_true rfl, Nat.le_of_ble_eq_true rfl⟩ rfl rfl (Nat.le_of_ble_eq_true rfl) ⟨by decide, by decide⟩ rfl rfl ⟨Nat.zero_le _, Nat.zero_le _⟩ rfl rfl ?_
      obtain rfl := Option.some.inj hf
      exact m_iret K (by decide +kernel) (Nat.zero_le _) (Nat.zero_le _) ⟨rfl, rfl⟩

def f_X1_lastThen (a0 : Int32) (s : ShT) : Option (Int32) :=
  if inB 0 16 then
  (f_X1_hasPerson (s.1 (0 : Int32).toNatClampNeg) s).bind fun r1002 =>
  if r1002 = 0 then
    some (-1)
  else
    (f_X1_hasLaw a0 s).bind fun r1004 =>
    if r1004 = 0 then
      some (-1)
    else
      if inB (s.1 (0 : Int32).toNatClampNeg) 16 then
      if inB a0 6 then
      (f_X3_isUnder (s.2.2.2.1 a0.toNatClampNeg) 1).bind fun r1008 =>
      if r1008 = 0 then
        some (s.2.2.1 (s.1 (0 : Int32).toNatClampNeg).toNatClampNeg)
      else
        if inB a0 6 then
        if (s.2.2.2.1 a0.toNatClampNeg) = 3 then
          if (s.2.2.1 (s.1 (0 : Int32).toNatClampNeg).toNatClampNeg) < (s.2.2.2.2.2.1 - 1) then
            (f_J9_min_7cf53 (2 * (s.2.2.1 (s.1 (0 : Int32).toNatClampNeg).toNatClampNeg)) 99).bind fun r1013 =>
            some r1013
          else
            some 1
        else
          (f_J9_min_7cf53 (2 * (s.2.2.1 (s.1 (0 : Int32).toNatClampNeg).toNatClampNeg)) 99).bind fun r1014 =>
          some r1014
        else none
      else none
      else none
  else none
set_option maxRecDepth 100000 in
set_option maxHeartbeats 4000000 in
theorem run_X1_lastThen {l : Launch} {D : va_G} {cT : Nat → ClassId} (a0 : Int32)   (s : ShT) {r : Int32} (hf : f_X1_lastThen a0 s = some r) : Runs l D cT yX1_lastThen cX1_lastThen 4 (some .int) 1 21 [.ref 0, .int a0] (cSh 0 s) (EQ (some (.int r)) (cSh 0 s)) := by
  refine runs_of O_X1 okO_X1 (by decide +kernel) rfl rfl (Nat.le_of_ble_eq_true rfl) (Nat.le_of_ble_eq_true rfl) (fun g K => ?_)
  have M := K.b
  show g 0 0 (cSh 0 s) 0 [some (.ref 0), some (.int a0), none, none] []
  rw [f_X1_lastThen] at hf
  obtain ⟨h_1001, hf⟩ := grd_s hf
  refine m_run M (is := [(0, .aload_n 0, 0), (1, .getfield 9, 0), (4, .iconst 0, 0), (5, .iaload, 0), (6, .istore_n 2, 0), (7, .aload_n 0, 0), (8, .iload_n 2, 0)]) (pc' := 9) (L' := [some (.ref 0), some (.int a0), some (.int (s.1 (0 : Int32).toNatClampNeg)), none]) (st' := [.int (s.1 (0 : Int32).toNatClampNeg), .ref 0]) (w' := (cSh 0 s)) (by decide +kernel) rfl ⟨inB_use h_1001, trivial⟩ ?_
  obtain ⟨r1002, h_1002, hf⟩ := bnd_s hf
  refine m_cV0 M (rest := []) (w2 := (cSh 0 s)) (st2 := [.int r1002]) (run_X1_hasPerson (s.1 (0 : Int32).toNatClampNeg)   s h_1002) cv_X1_hasPerson lk_X1_60 (by decide +kernel) [0, 1, 2, 3, 4, 5] (by decide) ⟨Nat.le_of_ble_eq_true rfl, Nat.le_of_ble_eq_true rfl⟩ rfl rfl rfl (Nat.le_of_ble_eq_true rfl) ⟨by decide, by decide⟩ rfl rfl ⟨Nat.zero_le _, Nat.zero_le _⟩ rfl rfl ?_
  rcases ite_s hf with ⟨c_1003, hf⟩ | ⟨c_1003, hf⟩
  · refine m_jT M (i := .ifCond .eq 11) 23 (by decide +kernel) rfl (by decide) c_1003 ?_
    refine m_run M (is := [(23, .iconst (-1), -1)]) (pc' := 24) (L' := [some (.ref 0), some (.int a0), some (.int (s.1 (0 : Int32).toNatClampNeg)), none]) (st' := [.int (-1)]) (w' := (cSh 0 s)) (by decide +kernel) rfl trivial ?_
    obtain rfl := Option.some.inj hf
    exact m_iret K (by decide +kernel) (Nat.zero_le _) (Nat.zero_le _) ⟨rfl, rfl⟩
  · refine m_jF M (i := .ifCond .eq 11) 23 (by decide +kernel) rfl (by decide) c_1003 ?_
    refine m_run M (is := [(15, .aload_n 0, 0), (16, .iload_n 1, 0)]) (pc' := 17) (L' := [some (.ref 0), some (.int a0), some (.int (s.1 (0 : Int32).toNatClampNeg)), none]) (st' := [.int a0, .ref 0]) (w' := (cSh 0 s)) (by decide +kernel) rfl trivial ?_
    obtain ⟨r1004, h_1004, hf⟩ := bnd_s hf
    refine m_cV0 M (rest := []) (w2 := (cSh 0 s)) (st2 := [.int r1004]) (run_X1_hasLaw a0   s h_1004) cv_X1_hasLaw lk_X1_67 (by decide +kernel) [0, 1, 2, 3, 4, 5] (by decide) ⟨Nat.le_of_ble_eq_true rfl, Nat.le_of_ble_eq_true rfl⟩ rfl rfl rfl (Nat.le_of_ble_eq_true rfl) ⟨by decide, by decide⟩ rfl rfl ⟨Nat.zero_le _, Nat.zero_le _⟩ rfl rfl ?_
    rcases ite_s hf with ⟨c_1005, hf⟩ | ⟨c_1005, hf⟩
    · refine m_jF M (i := .ifCond .ne 5) 25 (by decide +kernel) rfl (by decide) (fun n => n c_1005) ?_
      refine m_run M (is := [(23, .iconst (-1), -1)]) (pc' := 24) (L' := [some (.ref 0), some (.int a0), some (.int (s.1 (0 : Int32).toNatClampNeg)), none]) (st' := [.int (-1)]) (w' := (cSh 0 s)) (by decide +kernel) rfl trivial ?_
      obtain rfl := Option.some.inj hf
      exact m_iret K (by decide +kernel) (Nat.zero_le _) (Nat.zero_le _) ⟨rfl, rfl⟩
    · refine m_jT M (i := .ifCond .ne 5) 25 (by decide +kernel) rfl (by decide) c_1005 ?_
      obtain ⟨h_1006, hf⟩ := grd_s hf
      obtain ⟨h_1007, hf⟩ := grd_s hf
      refine m_run M (is := [(25, .aload_n 0, 0), (26, .getfield 18, 0), (29, .iload_n 2, 0), (30, .iaload, 0), (31, .istore_n 3, 0), (32, .aload_n 0, 0), (33, .getfield 21, 0), (36, .iload_n 1, 0), (37, .iaload, 0), (38, .iconst 1, 1)]) (pc' := 39) (L' := [some (.ref 0), some (.int a0), some (.int (s.1 (0 : Int32).toNatClampNeg)), some (.int (s.2.2.1 (s.1 (0 : Int32).toNatClampNeg).toNatClampNeg))]) (st' := [.int 1, .int (s.2.2.2.1 a0.toNatClampNeg)]) (w' := (cSh 0 s)) (by decide +kernel) rfl ⟨inB_use h_1006, inB_use h_1007, trivial⟩ ?_
      obtain ⟨r1008, h_1008, hf⟩ := bnd_s hf
      refine m_cS0 M (rest := []) (w2 := (cSh 0 s)) (st2 := [.int r1008]) (run_X3_isUnder (s.2.2.2.1 a0.toNatClampNeg) 1    h_1008) cs_X3_isUnder lk_X1_98 (by decide +kernel) [] (by decide) ⟨Nat.le_of_ble_eq_true rfl, Nat.le_of_ble_eq_true rfl⟩ rfl rfl (Nat.le_of_ble_eq_true rfl) ⟨by decide, by decide⟩ rfl rfl ⟨Nat.zero_le _, Nat.zero_le _⟩ rfl rfl ?_
      rcases ite_s hf with ⟨c_1009, hf⟩ | ⟨c_1009, hf⟩
      · refine m_jF M (i := .ifCond .ne 5) 47 (by decide +kernel) rfl (by decide) (fun n => n c_1009) ?_
        refine m_run M (is := [(45, .iload_n 3, 0)]) (pc' := 46) (L' := [some (.ref 0), some (.int a0), some (.int (s.1 (0 : Int32).toNatClampNeg)), some (.int (s.2.2.1 (s.1 (0 : Int32).toNatClampNeg).toNatClampNeg))]) (st' := [.int (s.2.2.1 (s.1 (0 : Int32).toNatClampNeg).toNatClampNeg)]) (w' := (cSh 0 s)) (by decide +kernel) rfl trivial ?_
        obtain rfl := Option.some.inj hf
        exact m_iret K (by decide +kernel) (Nat.zero_le _) (Nat.zero_le _) ⟨rfl, rfl⟩
      · refine m_jT M (i := .ifCond .ne 5) 47 (by decide +kernel) rfl (by decide) c_1009 ?_
        obtain ⟨h_1010, hf⟩ := grd_s hf
        refine m_run M (is := [(47, .aload_n 0, 0), (48, .getfield 21, 0), (51, .iload_n 1, 0), (52, .iaload, 0), (53, .iconst 3, 3)]) (pc' := 54) (L' := [some (.ref 0), some (.int a0), some (.int (s.1 (0 : Int32).toNatClampNeg)), some (.int (s.2.2.1 (s.1 (0 : Int32).toNatClampNeg).toNatClampNeg))]) (st' := [.int 3, .int (s.2.2.2.1 a0.toNatClampNeg)]) (w' := (cSh 0 s)) (by decide +kernel) rfl ⟨inB_use h_1010, trivial⟩ ?_
        rcases ite_s hf with ⟨c_1011, hf⟩ | ⟨c_1011, hf⟩
        · refine m_jF M (i := .if_icmp .ne 15) 69 (by decide +kernel) rfl (by decide) (fun n => n c_1011) ?_
          refine m_run M (is := [(57, .iload_n 3, 0), (58, .aload_n 0, 0), (59, .getfield 31, 0), (62, .iconst 1, 1), (63, .isub, 0)]) (pc' := 64) (L' := [some (.ref 0), some (.int a0), some (.int (s.1 (0 : Int32).toNatClampNeg)), some (.int (s.2.2.1 (s.1 (0 : Int32).toNatClampNeg).toNatClampNeg))]) (st' := [.int (s.2.2.2.2.2.1 - 1), .int (s.2.2.1 (s.1 (0 : Int32).toNatClampNeg).toNatClampNeg)]) (w' := (cSh 0 s)) (by decide +kernel) rfl trivial ?_
          rcases ite_s hf with ⟨c_1012, hf⟩ | ⟨c_1012, hf⟩
          · refine m_jT M (i := .if_icmp .lt 5) 69 (by decide +kernel) rfl (by decide) c_1012 ?_
            refine m_run M (is := [(69, .iconst 2, 2), (70, .iload_n 3, 0), (71, .imul, 0), (72, .bipush 99, 99)]) (pc' := 74) (L' := [some (.ref 0), some (.int a0), some (.int (s.1 (0 : Int32).toNatClampNeg)), some (.int (s.2.2.1 (s.1 (0 : Int32).toNatClampNeg).toNatClampNeg))]) (st' := [.int 99, .int (2 * (s.2.2.1 (s.1 (0 : Int32).toNatClampNeg).toNatClampNeg))]) (w' := (cSh 0 s)) (by decide +kernel) rfl trivial ?_
            obtain ⟨r1013, h_1013, hf⟩ := bnd_s hf
            refine m_cS0 M (rest := []) (w2 := (cSh 0 s)) (st2 := [.int r1013]) (run_J9_min_7cf53 (2 * (s.2.2.1 (s.1 (0 : Int32).toNatClampNeg).toNatClampNeg)) 99    h_1013) cs_J9_min_7cf53 lk_X1_70 (by decide +kernel) [] (by decide) ⟨Nat.le_of_ble_eq_true rfl, Nat.le_of_ble_eq_true rfl⟩ rfl rfl (Nat.le_of_ble_eq_true rfl) ⟨by decide, by decide⟩ rfl rfl ⟨Nat.zero_le _, Nat.zero_le _⟩ rfl rfl ?_
            obtain rfl := Option.some.inj hf
            exact m_iret K (by decide +kernel) (Nat.zero_le _) (Nat.zero_le _) ⟨rfl, rfl⟩
          · refine m_jF M (i := .if_icmp .lt 5) 69 (by decide +kernel) rfl (by decide) c_1012 ?_
            refine m_run M (is := [(67, .iconst 1, 1)]) (pc' := 68) (L' := [some (.ref 0), some (.int a0), some (.int (s.1 (0 : Int32).toNatClampNeg)), some (.int (s.2.2.1 (s.1 (0 : Int32).toNatClampNeg).toNatClampNeg))]) (st' := [.int 1]) (w' := (cSh 0 s)) (by decide +kernel) rfl trivial ?_
            obtain rfl := Option.some.inj hf
            exact m_iret K (by decide +kernel) (Nat.zero_le _) (Nat.zero_le _) ⟨rfl, rfl⟩
        · refine m_jT M (i := .if_icmp .ne 15) 69 (by decide +kernel) rfl (by decide) c_1011 ?_
          refine m_run M (is := [(69, .iconst 2, 2), (70, .iload_n 3, 0), (71, .imul, 0), (72, .bipush 99, 99)]) (pc' := 74) (L' := [some (.ref 0), some (.int a0), some (.int (s.1 (0 : Int32).toNatClampNeg)), some (.int (s.2.2.1 (s.1 (0 : Int32).toNatClampNeg).toNatClampNeg))]) (st' := [.int 99, .int (2 * (s.2.2.1 (s.1 (0 : Int32).toNatClampNeg).toNatClampNeg))]) (w' := (cSh 0 s)) (by decide +kernel) rfl trivial ?_
          obtain ⟨r1014, h_1014, hf⟩ := bnd_s hf
          refine m_cS0 M (rest := []) (w2 := (cSh 0 s)) (st2 := [.int r1014]) (run_J9_min_7cf53 (2 * (s.2.2.1 (s.1 (0 : Int32).toNatClampNeg).toNatClampNeg)) 99    h_1014) cs_J9_min_7cf53 lk_X1_70 (by decide +kernel) [] (by decide) ⟨Nat.le_of_ble_eq_true rfl, Nat.le_of_ble_eq_true rfl⟩ rfl rfl (Nat.le_of_ble_eq_true rfl) ⟨by decide, by decide⟩ rfl rfl ⟨Nat.zero_le _, Nat.zero_le _⟩ rfl rfl ?_
          obtain rfl := Option.some.inj hf
          exact m_iret K (by decide +kernel) (Nat.zero_le _) (Nat.zero_le _) ⟨rfl, rfl⟩

def f_X1_turn (s : ShT) : Option (Int32 × ShT) :=
  (f_X1_stepsBack s.2.2.2.2.2.2.2.1 s).bind fun r1001 =>
  if r1001 = (-1) then
    some ((-1), s)
  else
    if inB 0 16 then
    (f_X1_lastThen s.2.2.2.2.2.2.2.1 s).bind fun r1004 =>
    if inB (s.1 (0 : Int32).toNatClampNeg) 16 then
    if inB (s.1 (0 : Int32).toNatClampNeg) 16 then
    if inB (s.1 (0 : Int32).toNatClampNeg) 16 then
    if cpB 1 0 r1001 16 16 then
    if inB r1001 16 then
    some ((s.1 (0 : Int32).toNatClampNeg), ((upd (va_cpy s.1 s.1 (1 : Int32).toNatClampNeg (0 : Int32).toNatClampNeg r1001.toNatClampNeg) r1001.toNatClampNeg (s.1 (0 : Int32).toNatClampNeg)), (upd s.2.1 (s.1 (0 : Int32).toNatClampNeg).toNatClampNeg ((s.2.1 (s.1 (0 : Int32).toNatClampNeg).toNatClampNeg) + 1)), (upd s.2.2.1 (s.1 (0 : Int32).toNatClampNeg).toNatClampNeg r1004), s.2.2.2.1, s.2.2.2.2.1, s.2.2.2.2.2.1, s.2.2.2.2.2.2.1, s.2.2.2.2.2.2.2.1, (s.2.2.2.2.2.2.2.2.1 + 1), s.2.2.2.2.2.2.2.2.2))
    else none
    else none
    else none
    else none
    else none
    else none
set_option maxRecDepth 100000 in
set_option maxHeartbeats 4000000 in
theorem run_X1_turn {l : Launch} {D : va_G} {cT : Nat → ClassId}    (s : ShT) {r : Int32 × ShT} (hf : f_X1_turn s = some r) : Runs l D cT yX1_turn cX1_turn 3 (some .int) 2 45 [.ref 0] (cSh 0 s) (EQ (some (.int r.1)) (cSh 0 r.2)) := by
  refine runs_of O_X1 okO_X1 (by decide +kernel) rfl rfl (Nat.le_of_ble_eq_true rfl) (Nat.le_of_ble_eq_true rfl) (fun g K => ?_)
  have M := K.b
  show g 0 0 (cSh 0 s) 0 [some (.ref 0), none, none] []
  rw [f_X1_turn] at hf
  refine m_run M (is := [(0, .aload_n 0, 0), (1, .aload_n 0, 0), (2, .getfield 37, 0)]) (pc' := 5) (L' := [some (.ref 0), none, none]) (st' := [.int s.2.2.2.2.2.2.2.1, .ref 0]) (w' := (cSh 0 s)) (by decide +kernel) rfl trivial ?_
  obtain ⟨r1001, h_1001, hf⟩ := bnd_s hf
  refine m_cV0 M (rest := []) (w2 := (cSh 0 s)) (st2 := [.int r1001]) (run_X1_stepsBack s.2.2.2.2.2.2.2.1   s h_1001) cv_X1_stepsBack lk_X1_102 (by decide +kernel) [0, 1, 2, 3, 4, 5] (by decide) ⟨Nat.le_of_ble_eq_true rfl, Nat.le_of_ble_eq_true rfl⟩ rfl rfl rfl (Nat.le_of_ble_eq_true rfl) ⟨by decide, by decide⟩ rfl rfl ⟨Nat.zero_le _, Nat.zero_le _⟩ rfl rfl ?_
  refine m_run M (is := [(8, .istore_n 1, 0), (9, .iload_n 1, 0), (10, .iconst (-1), -1)]) (pc' := 11) (L' := [some (.ref 0), some (.int r1001), none]) (st' := [.int (-1), .int r1001]) (w' := (cSh 0 s)) (by decide +kernel) rfl trivial ?_
  rcases ite_s hf with ⟨c_1002, hf⟩ | ⟨c_1002, hf⟩
  · refine m_jF M (i := .if_icmp .ne 5) 16 (by decide +kernel) rfl (by decide) (fun n => n c_1002) ?_
    refine m_run M (is := [(14, .iconst (-1), -1)]) (pc' := 15) (L' := [some (.ref 0), some (.int r1001), none]) (st' := [.int (-1)]) (w' := (cSh 0 s)) (by decide +kernel) rfl trivial ?_
    obtain rfl := Option.some.inj hf
    exact m_iret K (by decide +kernel) (Nat.zero_le _) (Nat.zero_le _) ⟨rfl, rfl⟩
  · refine m_jT M (i := .if_icmp .ne 5) 16 (by decide +kernel) rfl (by decide) c_1002 ?_
    obtain ⟨h_1003, hf⟩ := grd_s hf
    refine m_run M (is := [(16, .aload_n 0, 0), (17, .getfield 9, 0), (20, .iconst 0, 0), (21, .iaload, 0), (22, .istore_n 2, 0), (23, .aload_n 0, 0), (24, .getfield 18, 0), (27, .iload_n 2, 0), (28, .aload_n 0, 0), (29, .aload_n 0, 0), (30, .getfield 37, 0)]) (pc' := 33) (L' := [some (.ref 0), some (.int r1001), some (.int (s.1 (0 : Int32).toNatClampNeg))]) (st' := [.int s.2.2.2.2.2.2.2.1, .ref 0, .int (s.1 (0 : Int32).toNatClampNeg), .ref 3]) (w' := (cSh 0 s)) (by decide +kernel) rfl ⟨inB_use h_1003, trivial⟩ ?_
    obtain ⟨r1004, h_1004, hf⟩ := bnd_s hf
    refine m_cV0 M (rest := [.int (s.1 (0 : Int32).toNatClampNeg), .ref 3]) (w2 := (cSh 0 s)) (st2 := [.int r1004, .int (s.1 (0 : Int32).toNatClampNeg), .ref 3]) (run_X1_lastThen s.2.2.2.2.2.2.2.1   s h_1004) cv_X1_lastThen lk_X1_105 (by decide +kernel) [0, 1, 2, 3, 4, 5] (by decide) ⟨Nat.le_of_ble_eq_true rfl, Nat.le_of_ble_eq_true rfl⟩ rfl rfl rfl (Nat.le_of_ble_eq_true rfl) ⟨by decide, by decide⟩ rfl rfl ⟨Nat.zero_le _, Nat.zero_le _⟩ rfl rfl ?_
    obtain ⟨h_1005, hf⟩ := grd_s hf
    obtain ⟨h_1006, hf⟩ := grd_s hf
    obtain ⟨h_1007, hf⟩ := grd_s hf
    refine m_run M (is := [(36, .iastore, 0), (37, .aload_n 0, 0), (38, .getfield 15, 0), (41, .iload_n 2, 0), (42, .dup2, 0), (43, .iaload, 0), (44, .iconst 1, 1), (45, .iadd, 0), (46, .iastore, 0), (47, .aload_n 0, 0), (48, .dup, 0), (49, .getfield 40, 0), (52, .iconst 1, 1), (53, .iadd, 0), (54, .putfield 40, 0), (57, .aload_n 0, 0), (58, .getfield 9, 0), (61, .iconst 1, 1), (62, .aload_n 0, 0), (63, .getfield 9, 0), (66, .iconst 0, 0), (67, .iload_n 1, 0)]) (pc' := 68) (L' := [some (.ref 0), some (.int r1001), some (.int (s.1 (0 : Int32).toNatClampNeg))]) (st' := [.int r1001, .int 0, .ref 1, .int 1, .ref 1]) (w' := (cSh 0 (s.1, (upd s.2.1 (s.1 (0 : Int32).toNatClampNeg).toNatClampNeg ((s.2.1 (s.1 (0 : Int32).toNatClampNeg).toNatClampNeg) + 1)), (upd s.2.2.1 (s.1 (0 : Int32).toNatClampNeg).toNatClampNeg r1004), s.2.2.2.1, s.2.2.2.2.1, s.2.2.2.2.2.1, s.2.2.2.2.2.2.1, s.2.2.2.2.2.2.2.1, (s.2.2.2.2.2.2.2.2.1 + 1), s.2.2.2.2.2.2.2.2.2))) (by decide +kernel) rfl ⟨inB_use h_1005, inB_use h_1006, inB_use h_1007, trivial⟩ ?_
    obtain ⟨h_1008, hf⟩ := grd_s hf
    refine m_cpI M (w2 := (cSh 0 ((va_cpy s.1 s.1 (1 : Int32).toNatClampNeg (0 : Int32).toNatClampNeg r1001.toNatClampNeg), (upd s.2.1 (s.1 (0 : Int32).toNatClampNeg).toNatClampNeg ((s.2.1 (s.1 (0 : Int32).toNatClampNeg).toNatClampNeg) + 1)), (upd s.2.2.1 (s.1 (0 : Int32).toNatClampNeg).toNatClampNeg r1004), s.2.2.2.1, s.2.2.2.2.1, s.2.2.2.2.2.1, s.2.2.2.2.2.2.1, s.2.2.2.2.2.2.2.1, (s.2.2.2.2.2.2.2.2.1 + 1), s.2.2.2.2.2.2.2.2.2))) cp_X1_43 rfl rfl h_1008 (by decide) (Nat.le_of_ble_eq_true rfl) (by decide +kernel) rfl ?_
    obtain ⟨h_1009, hf⟩ := grd_s hf
    refine m_run M (is := [(71, .aload_n 0, 0), (72, .getfield 9, 0), (75, .iload_n 1, 0), (76, .iload_n 2, 0), (77, .iastore, 0), (78, .iload_n 2, 0)]) (pc' := 79) (L' := [some (.ref 0), some (.int r1001), some (.int (s.1 (0 : Int32).toNatClampNeg))]) (st' := [.int (s.1 (0 : Int32).toNatClampNeg)]) (w' := (cSh 0 ((upd (va_cpy s.1 s.1 (1 : Int32).toNatClampNeg (0 : Int32).toNatClampNeg r1001.toNatClampNeg) r1001.toNatClampNeg (s.1 (0 : Int32).toNatClampNeg)), (upd s.2.1 (s.1 (0 : Int32).toNatClampNeg).toNatClampNeg ((s.2.1 (s.1 (0 : Int32).toNatClampNeg).toNatClampNeg) + 1)), (upd s.2.2.1 (s.1 (0 : Int32).toNatClampNeg).toNatClampNeg r1004), s.2.2.2.1, s.2.2.2.2.1, s.2.2.2.2.2.1, s.2.2.2.2.2.2.1, s.2.2.2.2.2.2.2.1, (s.2.2.2.2.2.2.2.2.1 + 1), s.2.2.2.2.2.2.2.2.2))) (by decide +kernel) rfl ⟨inB_use h_1009, trivial⟩ ?_
    obtain rfl := Option.some.inj hf
    exact m_iret K (by decide +kernel) (Nat.zero_le _) (Nat.zero_le _) ⟨rfl, rfl⟩

def f_X1_turnTimes_L0 (v1 : Int32) : Nat → Int32 → ShT → Option (ShT)
  | 0, _, _ => none
  | n_ + 1, v2, s =>
    if v1 ≤ v2 then
      some s
    else
      (f_X1_turn s).bind fun r102 =>
      f_X1_turnTimes_L0 v1 n_ (v2 + 1) r102.2
def f_X1_turnTimes (a0 : Int32) (s : ShT) : Option (ShT) :=
  f_X1_turnTimes_L0 a0 fuel0 0 s
set_option maxRecDepth 100000 in
set_option maxHeartbeats 4000000 in
theorem run_X1_turnTimes {l : Launch} {D : va_G} {cT : Nat → ClassId} (a0 : Int32)   (s : ShT) {r : ShT} (hf : f_X1_turnTimes a0 s = some r) : Runs l D cT yX1_turnTimes cX1_turnTimes 3 none 3 67 [.ref 0, .int a0] (cSh 0 s) (EQ none (cSh 0 r)) := by
  refine runs_of O_X1 okO_X1 (by decide +kernel) rfl rfl (Nat.le_of_ble_eq_true rfl) (Nat.le_of_ble_eq_true rfl) (fun g K => ?_)
  have M := K.b
  show g 0 0 (cSh 0 s) 0 [some (.ref 0), some (.int a0), none] []
  have loop_0 : ∀ (v1 : Int32) (n_ : Nat), (∀ (v2 : Int32) (s : ShT), f_X1_turnTimes_L0 v1 n_ v2 s = some r → g 0 0 (cSh 0 s) 2 [some (.ref 0), some (.int v1), some (.int v2)] []) := by
    intro v1 n_
    induction n_ with
    | zero => intro v2 s hf; cases hf
    | succ n_ ih =>
      intro v2 s hf
      rw [f_X1_turnTimes_L0] at hf
      refine m_run M (is := [(2, .iload_n 2, 0), (3, .iload_n 1, 0)]) (pc' := 4) (L' := [some (.ref 0), some (.int v1), some (.int v2)]) (st' := [.int v1, .int v2]) (w' := (cSh 0 s)) (by decide +kernel) rfl trivial ?_
      rcases ite_s hf with ⟨c_101, hf⟩ | ⟨c_101, hf⟩
      · refine m_jT M (i := .if_icmp .ge 14) 18 (by decide +kernel) rfl (by decide) c_101 ?_
        obtain rfl := Option.some.inj hf
        exact m_vret K (by decide +kernel) (Nat.zero_le _) (Nat.zero_le _) ⟨rfl, rfl⟩
      · refine m_jF M (i := .if_icmp .ge 14) 18 (by decide +kernel) rfl (by decide) c_101 ?_
        refine m_run M (is := [(7, .aload_n 0, 0)]) (pc' := 8) (L' := [some (.ref 0), some (.int v1), some (.int v2)]) (st' := [.ref 0]) (w' := (cSh 0 s)) (by decide +kernel) rfl trivial ?_
        obtain ⟨r102, h_102, hf⟩ := bnd_s hf
        refine m_cV0 M (rest := []) (w2 := (cSh 0 r102.2)) (st2 := [.int r102.1]) (run_X1_turn    s h_102) cv_X1_turn lk_X1_108 (by decide +kernel) [0, 1, 2, 3, 4, 5] (by decide) ⟨Nat.le_of_ble_eq_true rfl, Nat.le_of_ble_eq_true rfl⟩ rfl rfl rfl (Nat.le_of_ble_eq_true rfl) ⟨by decide, by decide⟩ rfl rfl ⟨Nat.zero_le _, Nat.zero_le _⟩ rfl rfl ?_
        refine m_run M (is := [(11, .pop, 0), (12, .iinc 2 1, 1), (15, .goto (-13), 0)]) (pc' := 2) (L' := [some (.ref 0), some (.int v1), some (.int (v2 + 1))]) (st' := []) (w' := (cSh 0 r102.2)) (by decide +kernel) rfl trivial ?_
        exact ih (v2 + 1) r102.2 hf
  rw [f_X1_turnTimes] at hf
  refine m_run M (is := [(0, .iconst 0, 0), (1, .istore_n 2, 0)]) (pc' := 2) (L' := [some (.ref 0), some (.int a0), some (.int 0)]) (st' := []) (w' := (cSh 0 s)) (by decide +kernel) rfl trivial ?_
  exact loop_0 a0 fuel0 0 s hf

def f_X1_draw (a0 : Int32) (s : ShT) : Option (Int32 × ShT) :=
  (some ((s.2.2.2.2.2.2.2.2.2 * 1103515245) + 12345)).bind fun e1001 =>
  if a0 ≤ 0 then
    some (0, (s.1, s.2.1, s.2.2.1, s.2.2.2.1, s.2.2.2.2.1, s.2.2.2.2.2.1, s.2.2.2.2.2.2.1, s.2.2.2.2.2.2.2.1, s.2.2.2.2.2.2.2.2.1, e1001))
  else
    if ¬ a0 = 0 then
    some ((((e1001.toUInt32 >>> ((16 : Int32).toUInt32 &&& Int32.toUInt32 31)).toInt32) - ((e1001.toUInt32 >>> ((16 : Int32).toUInt32 &&& Int32.toUInt32 31)).toInt32) / a0 * a0), (s.1, s.2.1, s.2.2.1, s.2.2.2.1, s.2.2.2.2.1, s.2.2.2.2.2.1, s.2.2.2.2.2.2.1, s.2.2.2.2.2.2.2.1, s.2.2.2.2.2.2.2.2.1, e1001))
    else none
set_option maxRecDepth 100000 in
set_option maxHeartbeats 4000000 in
theorem run_X1_draw {l : Launch} {D : va_G} {cT : Nat → ClassId} (a0 : Int32)   (s : ShT) {r : Int32 × ShT} (hf : f_X1_draw a0 s = some r) : Runs l D cT yX1_draw cX1_draw 2 (some .int) 0 0 [.ref 0, .int a0] (cSh 0 s) (EQ (some (.int r.1)) (cSh 0 r.2)) := by
  refine runs_of O_X1 okO_X1 (by decide +kernel) rfl rfl (Nat.le_of_ble_eq_true rfl) (Nat.le_of_ble_eq_true rfl) (fun g K => ?_)
  have M := K.b
  show g 0 0 (cSh 0 s) 0 [some (.ref 0), some (.int a0)] []
  rw [f_X1_draw] at hf
  refine m_run M (is := [(0, .aload_n 0, 0), (1, .aload_n 0, 0), (2, .getfield 27, 0), (5, .ldc 112, 0), (7, .imul, 0), (8, .sipush 12345, 12345), (11, .iadd, 0)]) (pc' := 12) (L' := [some (.ref 0), some (.int a0)]) (st' := [.int ((s.2.2.2.2.2.2.2.2.2 * 1103515245) + 12345), .ref 0]) (w' := (cSh 0 s)) (by decide +kernel) rfl trivial ?_
  obtain ⟨e1001, h_1001, hf⟩ := bnd_s hf
  rw [Option.some.inj h_1001]
  refine m_run M (is := [(12, .putfield 27, 0), (15, .iload_n 1, 0)]) (pc' := 16) (L' := [some (.ref 0), some (.int a0)]) (st' := [.int a0]) (w' := (cSh 0 (s.1, s.2.1, s.2.2.1, s.2.2.2.1, s.2.2.2.2.1, s.2.2.2.2.2.1, s.2.2.2.2.2.2.1, s.2.2.2.2.2.2.2.1, s.2.2.2.2.2.2.2.2.1, e1001))) (by decide +kernel) rfl trivial ?_
  rcases ite_s hf with ⟨c_1002, hf⟩ | ⟨c_1002, hf⟩
  · refine m_jT M (i := .ifCond .le 15) 31 (by decide +kernel) rfl (by decide) c_1002 ?_
    refine m_run M (is := [(31, .iconst 0, 0)]) (pc' := 32) (L' := [some (.ref 0), some (.int a0)]) (st' := [.int 0]) (w' := (cSh 0 (s.1, s.2.1, s.2.2.1, s.2.2.2.1, s.2.2.2.2.1, s.2.2.2.2.2.1, s.2.2.2.2.2.2.1, s.2.2.2.2.2.2.2.1, s.2.2.2.2.2.2.2.2.1, e1001))) (by decide +kernel) rfl trivial ?_
    obtain rfl := Option.some.inj hf
    exact m_iret K (by decide +kernel) (Nat.zero_le _) (Nat.zero_le _) ⟨rfl, rfl⟩
  · refine m_jF M (i := .ifCond .le 15) 31 (by decide +kernel) rfl (by decide) c_1002 ?_
    obtain ⟨h_1003, hf⟩ := grd_s hf
    refine m_run M (is := [(19, .aload_n 0, 0), (20, .getfield 27, 0), (23, .bipush 16, 16), (25, .iushr, 0), (26, .iload_n 1, 0), (27, .irem, 0), (28, .goto 4, 0)]) (pc' := 32) (L' := [some (.ref 0), some (.int a0)]) (st' := [.int (((e1001.toUInt32 >>> ((16 : Int32).toUInt32 &&& Int32.toUInt32 31)).toInt32) - ((e1001.toUInt32 >>> ((16 : Int32).toUInt32 &&& Int32.toUInt32 31)).toInt32) / a0 * a0)]) (w' := (cSh 0 (s.1, s.2.1, s.2.2.1, s.2.2.2.1, s.2.2.2.2.1, s.2.2.2.2.2.1, s.2.2.2.2.2.2.1, s.2.2.2.2.2.2.2.1, s.2.2.2.2.2.2.2.2.1, e1001))) (by decide +kernel) rfl ⟨h_1003, trivial⟩ ?_
    obtain rfl := Option.some.inj hf
    exact m_iret K (by decide +kernel) (Nat.zero_le _) (Nat.zero_le _) ⟨rfl, rfl⟩

def f_X1_become (s : ShT) (o : ShT) : Option (ShT) :=
  if cpB 0 0 16 16 16 then
  if cpB 0 0 16 16 16 then
  if cpB 0 0 16 16 16 then
  if cpB 0 0 6 6 6 then
  if cpB 0 0 6 6 6 then
  some ((va_cpy o.1 s.1 (0 : Int32).toNatClampNeg (0 : Int32).toNatClampNeg (16 : Int32).toNatClampNeg), (va_cpy o.2.1 s.2.1 (0 : Int32).toNatClampNeg (0 : Int32).toNatClampNeg (16 : Int32).toNatClampNeg), (va_cpy o.2.2.1 s.2.2.1 (0 : Int32).toNatClampNeg (0 : Int32).toNatClampNeg (16 : Int32).toNatClampNeg), (va_cpy o.2.2.2.1 s.2.2.2.1 (0 : Int32).toNatClampNeg (0 : Int32).toNatClampNeg (6 : Int32).toNatClampNeg), (va_cpy o.2.2.2.2.1 s.2.2.2.2.1 (0 : Int32).toNatClampNeg (0 : Int32).toNatClampNeg (6 : Int32).toNatClampNeg), o.2.2.2.2.2.1, o.2.2.2.2.2.2.1, o.2.2.2.2.2.2.2.1, o.2.2.2.2.2.2.2.2.1, o.2.2.2.2.2.2.2.2.2)
  else none
  else none
  else none
  else none
  else none
set_option maxRecDepth 100000 in
set_option maxHeartbeats 4000000 in
theorem run_X1_become {l : Launch} {D : va_G} {cT : Nat → ClassId}    (s : ShT) (o : ShT) {r : ShT} (hf : f_X1_become s o = some r) : Runs l D cT yX1_become cX1_become 2 none 1 18 [.ref 0, .ref 6] ((cSh 0 s) ++ (cSh 6 o)) (EQ none ((cSh 0 r) ++ (cSh 6 o))) := by
  refine runs_of O_X1 okO_X1 (by decide +kernel) rfl rfl (Nat.le_of_ble_eq_true rfl) (Nat.le_of_ble_eq_true rfl) (fun g K => ?_)
  have M := K.b
  show g 0 0 ((cSh 0 s) ++ (cSh 6 o)) 0 [some (.ref 0), some (.ref 6)] []
  rw [f_X1_become] at hf
  refine m_run M (is := [(0, .aload_n 0, 0), (1, .aload_n 1, 0), (2, .getfield 31, 0), (5, .putfield 31, 0), (8, .aload_n 0, 0), (9, .aload_n 1, 0), (10, .getfield 34, 0), (13, .putfield 34, 0), (16, .aload_n 0, 0), (17, .aload_n 1, 0), (18, .getfield 37, 0), (21, .putfield 37, 0), (24, .aload_n 0, 0), (25, .aload_n 1, 0), (26, .getfield 40, 0), (29, .putfield 40, 0), (32, .aload_n 0, 0), (33, .aload_n 1, 0), (34, .getfield 27, 0), (37, .putfield 27, 0), (40, .aload_n 1, 0), (41, .getfield 9, 0), (44, .iconst 0, 0), (45, .aload_n 0, 0), (46, .getfield 9, 0), (49, .iconst 0, 0), (50, .bipush 16, 16)]) (pc' := 52) (L' := [some (.ref 0), some (.ref 6)]) (st' := [.int 16, .int 0, .ref 1, .int 0, .ref 7]) (w' := ((cSh 0 (s.1, s.2.1, s.2.2.1, s.2.2.2.1, s.2.2.2.2.1, o.2.2.2.2.2.1, o.2.2.2.2.2.2.1, o.2.2.2.2.2.2.2.1, o.2.2.2.2.2.2.2.2.1, o.2.2.2.2.2.2.2.2.2)) ++ (cSh 6 o))) (by decide +kernel) rfl trivial ?_
  obtain ⟨h_1001, hf⟩ := grd_s hf
  refine m_cpI M (w2 := ((cSh 0 ((va_cpy o.1 s.1 (0 : Int32).toNatClampNeg (0 : Int32).toNatClampNeg (16 : Int32).toNatClampNeg), s.2.1, s.2.2.1, s.2.2.2.1, s.2.2.2.2.1, o.2.2.2.2.2.1, o.2.2.2.2.2.2.1, o.2.2.2.2.2.2.2.1, o.2.2.2.2.2.2.2.2.1, o.2.2.2.2.2.2.2.2.2)) ++ (cSh 6 o))) cp_X1_43 rfl rfl h_1001 (by decide) (Nat.le_of_ble_eq_true rfl) (by decide +kernel) rfl ?_
  refine m_run M (is := [(55, .aload_n 1, 0), (56, .getfield 15, 0), (59, .iconst 0, 0), (60, .aload_n 0, 0), (61, .getfield 15, 0), (64, .iconst 0, 0), (65, .bipush 16, 16)]) (pc' := 67) (L' := [some (.ref 0), some (.ref 6)]) (st' := [.int 16, .int 0, .ref 2, .int 0, .ref 8]) (w' := ((cSh 0 ((va_cpy o.1 s.1 (0 : Int32).toNatClampNeg (0 : Int32).toNatClampNeg (16 : Int32).toNatClampNeg), s.2.1, s.2.2.1, s.2.2.2.1, s.2.2.2.2.1, o.2.2.2.2.2.1, o.2.2.2.2.2.2.1, o.2.2.2.2.2.2.2.1, o.2.2.2.2.2.2.2.2.1, o.2.2.2.2.2.2.2.2.2)) ++ (cSh 6 o))) (by decide +kernel) rfl trivial ?_
  obtain ⟨h_1002, hf⟩ := grd_s hf
  refine m_cpI M (w2 := ((cSh 0 ((va_cpy o.1 s.1 (0 : Int32).toNatClampNeg (0 : Int32).toNatClampNeg (16 : Int32).toNatClampNeg), (va_cpy o.2.1 s.2.1 (0 : Int32).toNatClampNeg (0 : Int32).toNatClampNeg (16 : Int32).toNatClampNeg), s.2.2.1, s.2.2.2.1, s.2.2.2.2.1, o.2.2.2.2.2.1, o.2.2.2.2.2.2.1, o.2.2.2.2.2.2.2.1, o.2.2.2.2.2.2.2.2.1, o.2.2.2.2.2.2.2.2.2)) ++ (cSh 6 o))) cp_X1_43 rfl rfl h_1002 (by decide) (Nat.le_of_ble_eq_true rfl) (by decide +kernel) rfl ?_
  refine m_run M (is := [(70, .aload_n 1, 0), (71, .getfield 18, 0), (74, .iconst 0, 0), (75, .aload_n 0, 0), (76, .getfield 18, 0), (79, .iconst 0, 0), (80, .bipush 16, 16)]) (pc' := 82) (L' := [some (.ref 0), some (.ref 6)]) (st' := [.int 16, .int 0, .ref 3, .int 0, .ref 9]) (w' := ((cSh 0 ((va_cpy o.1 s.1 (0 : Int32).toNatClampNeg (0 : Int32).toNatClampNeg (16 : Int32).toNatClampNeg), (va_cpy o.2.1 s.2.1 (0 : Int32).toNatClampNeg (0 : Int32).toNatClampNeg (16 : Int32).toNatClampNeg), s.2.2.1, s.2.2.2.1, s.2.2.2.2.1, o.2.2.2.2.2.1, o.2.2.2.2.2.2.1, o.2.2.2.2.2.2.2.1, o.2.2.2.2.2.2.2.2.1, o.2.2.2.2.2.2.2.2.2)) ++ (cSh 6 o))) (by decide +kernel) rfl trivial ?_
  obtain ⟨h_1003, hf⟩ := grd_s hf
  refine m_cpI M (w2 := ((cSh 0 ((va_cpy o.1 s.1 (0 : Int32).toNatClampNeg (0 : Int32).toNatClampNeg (16 : Int32).toNatClampNeg), (va_cpy o.2.1 s.2.1 (0 : Int32).toNatClampNeg (0 : Int32).toNatClampNeg (16 : Int32).toNatClampNeg), (va_cpy o.2.2.1 s.2.2.1 (0 : Int32).toNatClampNeg (0 : Int32).toNatClampNeg (16 : Int32).toNatClampNeg), s.2.2.2.1, s.2.2.2.2.1, o.2.2.2.2.2.1, o.2.2.2.2.2.2.1, o.2.2.2.2.2.2.2.1, o.2.2.2.2.2.2.2.2.1, o.2.2.2.2.2.2.2.2.2)) ++ (cSh 6 o))) cp_X1_43 rfl rfl h_1003 (by decide) (Nat.le_of_ble_eq_true rfl) (by decide +kernel) rfl ?_
  refine m_run M (is := [(85, .aload_n 1, 0), (86, .getfield 21, 0), (89, .iconst 0, 0), (90, .aload_n 0, 0), (91, .getfield 21, 0), (94, .iconst 0, 0), (95, .bipush 6, 6)]) (pc' := 97) (L' := [some (.ref 0), some (.ref 6)]) (st' := [.int 6, .int 0, .ref 4, .int 0, .ref 10]) (w' := ((cSh 0 ((va_cpy o.1 s.1 (0 : Int32).toNatClampNeg (0 : Int32).toNatClampNeg (16 : Int32).toNatClampNeg), (va_cpy o.2.1 s.2.1 (0 : Int32).toNatClampNeg (0 : Int32).toNatClampNeg (16 : Int32).toNatClampNeg), (va_cpy o.2.2.1 s.2.2.1 (0 : Int32).toNatClampNeg (0 : Int32).toNatClampNeg (16 : Int32).toNatClampNeg), s.2.2.2.1, s.2.2.2.2.1, o.2.2.2.2.2.1, o.2.2.2.2.2.2.1, o.2.2.2.2.2.2.2.1, o.2.2.2.2.2.2.2.2.1, o.2.2.2.2.2.2.2.2.2)) ++ (cSh 6 o))) (by decide +kernel) rfl trivial ?_
  obtain ⟨h_1004, hf⟩ := grd_s hf
  refine m_cpI M (w2 := ((cSh 0 ((va_cpy o.1 s.1 (0 : Int32).toNatClampNeg (0 : Int32).toNatClampNeg (16 : Int32).toNatClampNeg), (va_cpy o.2.1 s.2.1 (0 : Int32).toNatClampNeg (0 : Int32).toNatClampNeg (16 : Int32).toNatClampNeg), (va_cpy o.2.2.1 s.2.2.1 (0 : Int32).toNatClampNeg (0 : Int32).toNatClampNeg (16 : Int32).toNatClampNeg), (va_cpy o.2.2.2.1 s.2.2.2.1 (0 : Int32).toNatClampNeg (0 : Int32).toNatClampNeg (6 : Int32).toNatClampNeg), s.2.2.2.2.1, o.2.2.2.2.2.1, o.2.2.2.2.2.2.1, o.2.2.2.2.2.2.2.1, o.2.2.2.2.2.2.2.2.1, o.2.2.2.2.2.2.2.2.2)) ++ (cSh 6 o))) cp_X1_43 rfl rfl h_1004 (by decide) (Nat.le_of_ble_eq_true rfl) (by decide +kernel) rfl ?_
  refine m_run M (is := [(100, .aload_n 1, 0), (101, .getfield 24, 0), (104, .iconst 0, 0), (105, .aload_n 0, 0), (106, .getfield 24, 0), (109, .iconst 0, 0), (110, .bipush 6, 6)]) (pc' := 112) (L' := [some (.ref 0), some (.ref 6)]) (st' := [.int 6, .int 0, .ref 5, .int 0, .ref 11]) (w' := ((cSh 0 ((va_cpy o.1 s.1 (0 : Int32).toNatClampNeg (0 : Int32).toNatClampNeg (16 : Int32).toNatClampNeg), (va_cpy o.2.1 s.2.1 (0 : Int32).toNatClampNeg (0 : Int32).toNatClampNeg (16 : Int32).toNatClampNeg), (va_cpy o.2.2.1 s.2.2.1 (0 : Int32).toNatClampNeg (0 : Int32).toNatClampNeg (16 : Int32).toNatClampNeg), (va_cpy o.2.2.2.1 s.2.2.2.1 (0 : Int32).toNatClampNeg (0 : Int32).toNatClampNeg (6 : Int32).toNatClampNeg), s.2.2.2.2.1, o.2.2.2.2.2.1, o.2.2.2.2.2.2.1, o.2.2.2.2.2.2.2.1, o.2.2.2.2.2.2.2.2.1, o.2.2.2.2.2.2.2.2.2)) ++ (cSh 6 o))) (by decide +kernel) rfl trivial ?_
  obtain ⟨h_1005, hf⟩ := grd_s hf
  refine m_cpI M (w2 := ((cSh 0 ((va_cpy o.1 s.1 (0 : Int32).toNatClampNeg (0 : Int32).toNatClampNeg (16 : Int32).toNatClampNeg), (va_cpy o.2.1 s.2.1 (0 : Int32).toNatClampNeg (0 : Int32).toNatClampNeg (16 : Int32).toNatClampNeg), (va_cpy o.2.2.1 s.2.2.1 (0 : Int32).toNatClampNeg (0 : Int32).toNatClampNeg (16 : Int32).toNatClampNeg), (va_cpy o.2.2.2.1 s.2.2.2.1 (0 : Int32).toNatClampNeg (0 : Int32).toNatClampNeg (6 : Int32).toNatClampNeg), (va_cpy o.2.2.2.2.1 s.2.2.2.2.1 (0 : Int32).toNatClampNeg (0 : Int32).toNatClampNeg (6 : Int32).toNatClampNeg), o.2.2.2.2.2.1, o.2.2.2.2.2.2.1, o.2.2.2.2.2.2.2.1, o.2.2.2.2.2.2.2.2.1, o.2.2.2.2.2.2.2.2.2)) ++ (cSh 6 o))) cp_X1_43 rfl rfl h_1005 (by decide) (Nat.le_of_ble_eq_true rfl) (by decide +kernel) rfl ?_
  obtain rfl := Option.some.inj hf
  exact m_vret K (by decide +kernel) (Nat.zero_le _) (Nat.zero_le _) ⟨rfl, rfl⟩

def f_X1_standsLike_L0 (s : ShT) (o : ShT) : Nat → Int32 → Option (Int32)
  | 0, _ => none
  | n_ + 1, v2 =>
    if s.2.2.2.2.2.1 ≤ v2 then
      some 1
    else
      if inB v2 16 then
      if inB v2 16 then
      if (s.1 v2.toNatClampNeg) = (o.1 v2.toNatClampNeg) then
        f_X1_standsLike_L0 s o n_ (v2 + 1)
      else
        some 0
      else none
      else none
def f_X1_standsLike (s : ShT) (o : ShT) : Option (Int32) :=
  f_X1_standsLike_L0 s o fuel0 0
set_option maxRecDepth 100000 in
set_option maxHeartbeats 4000000 in
theorem run_X1_standsLike {l : Launch} {D : va_G} {cT : Nat → ClassId}    (s : ShT) (o : ShT) {r : Int32} (hf : f_X1_standsLike s o = some r) : Runs l D cT yX1_standsLike cX1_standsLike 3 (some .boolean) 0 0 [.ref 0, .ref 6] ((cSh 0 s) ++ (cSh 6 o)) (EQ (some (.int r)) ((cSh 0 s) ++ (cSh 6 o))) := by
  refine runs_of O_X1 okO_X1 (by decide +kernel) rfl rfl (Nat.le_of_ble_eq_true rfl) (Nat.le_of_ble_eq_true rfl) (fun g K => ?_)
  have M := K.b
  show g 0 0 ((cSh 0 s) ++ (cSh 6 o)) 0 [some (.ref 0), some (.ref 6), none] []
  have loop_0 : ∀ (n_ : Nat), (∀ (v2 : Int32), f_X1_standsLike_L0 s o n_ v2 = some r → g 0 0 ((cSh 0 s) ++ (cSh 6 o)) 2 [some (.ref 0), some (.ref 6), some (.int v2)] []) := by
    intro n_
    induction n_ with
    | zero => intro v2 hf; cases hf
    | succ n_ ih =>
      intro v2 hf
      rw [f_X1_standsLike_L0] at hf
      refine m_run M (is := [(2, .iload_n 2, 0), (3, .aload_n 0, 0), (4, .getfield 31, 0)]) (pc' := 7) (L' := [some (.ref 0), some (.ref 6), some (.int v2)]) (st' := [.int s.2.2.2.2.2.1, .int v2]) (w' := ((cSh 0 s) ++ (cSh 6 o))) (by decide +kernel) rfl trivial ?_
      rcases ite_s hf with ⟨c_101, hf⟩ | ⟨c_101, hf⟩
      · refine m_jT M (i := .if_icmp .ge 26) 33 (by decide +kernel) rfl (by decide) c_101 ?_
        refine m_run M (is := [(33, .iconst 1, 1)]) (pc' := 34) (L' := [some (.ref 0), some (.ref 6), some (.int v2)]) (st' := [.int 1]) (w' := ((cSh 0 s) ++ (cSh 6 o))) (by decide +kernel) rfl trivial ?_
        obtain rfl := Option.some.inj hf
        exact m_zret K (by decide +kernel) (Or.inr rfl) (Nat.zero_le _) (Nat.zero_le _) ⟨rfl, rfl⟩
      · refine m_jF M (i := .if_icmp .ge 26) 33 (by decide +kernel) rfl (by decide) c_101 ?_
        obtain ⟨h_102, hf⟩ := grd_s hf
        obtain ⟨h_103, hf⟩ := grd_s hf
        refine m_run M (is := [(10, .aload_n 0, 0), (11, .getfield 9, 0), (14, .iload_n 2, 0), (15, .iaload, 0), (16, .aload_n 1, 0), (17, .getfield 9, 0), (20, .iload_n 2, 0), (21, .iaload, 0)]) (pc' := 22) (L' := [some (.ref 0), some (.ref 6), some (.int v2)]) (st' := [.int (o.1 v2.toNatClampNeg), .int (s.1 v2.toNatClampNeg)]) (w' := ((cSh 0 s) ++ (cSh 6 o))) (by decide +kernel) rfl ⟨inB_use h_102, inB_use h_103, trivial⟩ ?_
        rcases ite_s hf with ⟨c_104, hf⟩ | ⟨c_104, hf⟩
        · refine m_jT M (i := .if_icmp .eq 5) 27 (by decide +kernel) rfl (by decide) c_104 ?_
          refine m_run M (is := [(27, .iinc 2 1, 1), (30, .goto (-28), 0)]) (pc' := 2) (L' := [some (.ref 0), some (.ref 6), some (.int (v2 + 1))]) (st' := []) (w' := ((cSh 0 s) ++ (cSh 6 o))) (by decide +kernel) rfl trivial ?_
          exact ih (v2 + 1) hf
        · refine m_jF M (i := .if_icmp .eq 5) 27 (by decide +kernel) rfl (by decide) c_104 ?_
          refine m_run M (is := [(25, .iconst 0, 0)]) (pc' := 26) (L' := [some (.ref 0), some (.ref 6), some (.int v2)]) (st' := [.int 0]) (w' := ((cSh 0 s) ++ (cSh 6 o))) (by decide +kernel) rfl trivial ?_
          obtain rfl := Option.some.inj hf
          exact m_zret K (by decide +kernel) (Or.inl rfl) (Nat.zero_le _) (Nat.zero_le _) ⟨rfl, rfl⟩
  rw [f_X1_standsLike] at hf
  refine m_run M (is := [(0, .iconst 0, 0), (1, .istore_n 2, 0)]) (pc' := 2) (L' := [some (.ref 0), some (.ref 6), some (.int 0)]) (st' := []) (w' := ((cSh 0 s) ++ (cSh 6 o))) (by decide +kernel) rfl trivial ?_
  exact loop_0 fuel0 0 hf

