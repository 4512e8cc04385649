/-! ===== the law from its first instruction ===== -/
def abX : Wd := [.inl 9, .inl 10, .inl 16, .inl 16, .inl 16, .inl 6, .inl 6, .inl 10, .inl 16, .inl 16, .inl 16, .inl 6, .inl 6, .inl 10, .inl 16, .inl 16, .inl 16, .inl 6, .inl 6, .inl 10, .inl 16, .inl 16, .inl 16, .inl 6, .inl 6, .inl 4, .inl 250, .inl 8, .inl 52, .inl 5, .inl 4, .inl 40, .inl 4, .inl 40, .inl 4, .inl 40, .inl 4, .inl 40, .inl 4, .inl 40, .inl 4, .inl 40, .inl 4, .inl 40, .inl 4, .inl 40]
def fsX : List Value := [.null, .null, .null, .null, .null, .null, .null, .null, .int 0]
def fsM : List Value := [.null, .null, .null, .null, .null, .null, .null, .int 0, .null, .int 0, .null, .null, .null, .int 0, .null, .null, .int 0, .int 0, .int 0, .null, .null, .int 0, .int 0, .int 0, .int 0, .int 0, .null, .int 0, .null, .null, .null]
def rest3 : Wd := abM ++ (abM ++ abM)
def W0 : Wd := abX ++ rest3
def W1 : Wd := (.inr (.inr (3, fsX)) :: abX.tail) ++ rest3
def W2 : Wd := cX nSh nSh nSh nSh nTp (fun _ => nSl) zI zI 0 ++ rest3
def W3 : Wd := cX nSh nSh nSh nSh nTp (fun _ => nSl) zI zI 0 ++ ((.inr (.inr (4, fsM)) :: abM.tail) ++ (abM ++ abM))
def W4 : Wd := lW nSh nSh nSh nSh nTp (fun _ => nSl) zI zI 0 nSh nTk nSv zI zI zI zI false false nSh zI nSh zI
theorem nrW0 : NRW W0 := NRW.of0 (by decide +kernel)
theorem nrW1 : NRW W1 := NRW.of0 (by decide +kernel)
theorem nrW2 : NRW W2 := NRW.of 27 (by decide +kernel) rfl (rq_x8 rfl rfl rfl rfl rfl rfl rfl rfl)
theorem nrW3 : NRW W3 := NRW.of 27 (by decide +kernel) rfl (rq_x8 rfl rfl rfl rfl rfl rfl rfl rfl)
theorem INV0 : INV 0 nSh nSh nSh nSh nTp (fun _ => nSl) zI zI 0 nSh nTk nSv zI zI zI zI false false nSh zI nSh zI := by
  refine ⟨0, 0, ?_, fun j _ => Or.inl ⟨rfl, rfl, rfl, rfl⟩, fun _ _ => rfl, TR.z rfl rfl, rfl, fun h => (by cases h)⟩
  refine ⟨fun _ => 0, fun _ => 0, fun _ => 0, fun _ => 0, fun _ => 0, 0, 0, 1, ?_, ?_, ?_⟩
  · exact ⟨rfl, rfl, rfl, rfl, rfl, fun j hj => by omega, fun j hj => by omega⟩
  · exact ⟨rfl, rfl, rfl, rfl, rfl, fun j hj => by omega, fun j hj => by omega⟩
  · exact ⟨by omega, by omega, fun j hj => by omega, fun i j hi _ _ => by omega, fun x hx => by omega, fun j hj => by omega, Or.inr rfl, by omega⟩
def vX1 : Wd := .inr (.inr (3, [.null, .null, .null, .null, .null, .null, .null, .null, .int 0])) :: abX.tail
def vM1 : Wd := .inr (.inr (4, [.null, .null, .null, .null, .null, .null, .null, .int 0, .null, .int 0, .null, .null, .null, .int 0, .null, .null, .int 0, .int 0, .int 0, .null, .null, .int 0, .int 0, .int 0, .int 0, .int 0, .null, .int 0, .null, .null, .null])) :: abM.tail
def rhM : List Nat := [46, 47, 48, 49, 50, 51, 52, 53, 54, 55, 56, 57, 58, 59, 60, 61, 62, 63, 64, 65, 66, 67, 68, 69, 70, 71]
set_option maxRecDepth 100000 in
set_option maxHeartbeats 1000000 in
theorem hpS1 : putL (List.take (List.length vX1) (List.range 124)) ((cX nSh nSh nSh nSh nTp (fun _ => nSl) zI zI 0).map (rS (List.range 124) (List.length W1))) W1 = W2 :=
  hp_of (W := W1) (u := []) (v := vX1) (v' := (cX nSh nSh nSh nSh nTp (fun _ => nSl) zI zI 0)) (t := rest3) rfl rfl rfl rg124 (mpX _)
set_option maxRecDepth 100000 in
set_option maxHeartbeats 1000000 in
theorem mpM1 : (cM 0 nSh nTk nSv zI zI zI zI .null .null).map (rS rhM 124) = cM 46 nSh nTk nSv zI zI zI zI .null .null := cg rfl (cg rfl (cg rfl (cg rfl (cg (rS_rfC _ _ _ _ _) rfl))))
set_option maxRecDepth 100000 in
set_option maxHeartbeats 1000000 in
theorem hpS2 : putL (List.take (List.length vM1) rhM) ((cM 0 nSh nTk nSv zI zI zI zI .null .null).map (rS rhM (List.length W3))) W3 = W4 :=
  hp_of (W := W3) (u := cX nSh nSh nSh nSh nTp (fun _ => nSl) zI zI 0) (v := vM1) (v' := cM 46 nSh nTk nSv zI zI zI zI .null .null) (t := abM ++ abM) rfl rfl rfl rfl mpM1
set_option maxRecDepth 100000 in
set_option maxHeartbeats 4000000 in
theorem startL {l : Launch} {D : va_G} {cT : Nat → ClassId} {b Ln : Nat} {xs : Nat → Int32} {g : GT} (M : ML l D cT b Ln xs g) (hLn : Ln ≤ 3072) : g 0 0 W0 0 [some (.ref 900), none, none, none] [] := by
  have M0 := M.mb
  refine m_new M0 (k := 0) 3 (by decide) [.null, .null, .null, .null, .null, .null, .null, .null, .int 0] kl_L_7 kn_3 ki_3 df_3 (fun _ => rfl) ⟨rfl, nrW0, rfl, rfl⟩ (Nat.le_of_ble_eq_true rfl) (Nat.le_of_ble_eq_true rfl) (by decide +kernel) ?_
  show g 1 9 W1 3 [some (.ref 900), none, none, none] [.ref 0]
  refine m_run M0 (is := [(3, .dup, 0)]) (pc' := 4) (L' := [some (.ref 900), none, none, none]) (st' := [.ref 0, .ref 0]) (w' := W1) (by decide +kernel) rfl trivial ?_
  refine m_cI0 M0 (rest := [.ref 0]) (w2 := W2) (bc' := 46) (bs' := 960) run_X3_init ci_X3_init lk_L_9 (by decide +kernel) (List.range 124) List.nodup_range ⟨(by rw [List.length_range]; exact Nat.le_of_ble_eq_true rfl), (by rw [List.length_range]; decide)⟩ rfl rfl (Nat.le_of_ble_eq_true rfl) ⟨by decide, by decide⟩ rfl rfl ⟨Nat.le_of_ble_eq_true rfl, Nat.le_of_ble_eq_true rfl⟩ nrW1 rfl hpS1 ?_
  refine m_run M0 (is := [(7, .astore_n 1, 0)]) (pc' := 8) (L' := [some (.ref 900), some (.ref 0), none, none]) (st' := []) (w' := W2) (by decide +kernel) rfl trivial ?_
  refine m_new M0 (k := 46) 4 (by decide) [.null, .null, .null, .null, .null, .null, .null, .int 0, .null, .int 0, .null, .null, .null, .int 0, .null, .null, .int 0, .int 0, .int 0, .null, .null, .int 0, .int 0, .int 0, .int 0, .int 0, .null, .int 0, .null, .null, .null] kl_L_10 kn_4 ki_4 df_4 (fun _ => rfl) ⟨rfl, nrW2, rfl, rfl⟩ (Nat.le_of_ble_eq_true rfl) (Nat.le_of_ble_eq_true rfl) (by decide +kernel) ?_
  show g 47 991 W3 11 [some (.ref 900), some (.ref 0), none, none] [.ref 46]
  refine m_run M0 (is := [(11, .dup, 0)]) (pc' := 12) (L' := [some (.ref 900), some (.ref 0), none, none]) (st' := [.ref 46, .ref 46]) (w' := W3) (by decide +kernel) rfl trivial ?_
  refine m_cI0 M0 (rest := [.ref 46]) (w2 := W4) (bc' := 72) (bs' := 2814) run_X4_init ci_X4_init lk_L_12 (by decide +kernel) [46, 47, 48, 49, 50, 51, 52, 53, 54, 55, 56, 57, 58, 59, 60, 61, 62, 63, 64, 65, 66, 67, 68, 69, 70, 71] (by decide) ⟨Nat.le_of_ble_eq_true rfl, Nat.le_of_ble_eq_true rfl⟩ rfl rfl (Nat.le_of_ble_eq_true rfl) ⟨by decide, by decide⟩ rfl rfl ⟨Nat.le_of_ble_eq_true rfl, Nat.le_of_ble_eq_true rfl⟩ nrW3 rfl hpS2 ?_
  refine m_run M0 (is := [(15, .astore_n 2, 0), (16, .iconst 0, 0), (17, .istore_n 3, 0)]) (pc' := 18) (L' := [some (.ref 900), some (.ref 0), some (.ref 46), some (.int (kI (6 * 0)))]) (st' := []) (w' := W4) (by decide +kernel) rfl trivial ?_
  exact loopL M hLn 512 0 72 2814 nSh nSh nSh nSh nTp (fun _ => nSl) zI zI 0 nSh nTk nSv zI zI zI zI false false nSh zI nSh zI rfl (Nat.le_of_ble_eq_true rfl) (Nat.le_of_ble_eq_true rfl) INV0
