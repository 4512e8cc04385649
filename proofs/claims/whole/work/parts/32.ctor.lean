/-! ===== the constructors; written by wip/whole/ctor.py ===== -/
theorem oi_inst : Cond.instanceMethod Lib.objectInit ∈ gw := mI (t_1 20 rfl) rfl
theorem oi_code : Cond.code Lib.objectInit ⟨#[0xb1]⟩ 1 none ∈ gw := mI (t_1 21 rfl) rfl
theorem oi_X0 : Cond.methodLink O_X0.1 3 Lib.objectInit ∈ gw := mI (t_1 98 rfl) rfl
theorem oi_X1 : Cond.methodLink O_X1.1 3 Lib.objectInit ∈ gw := mI (t_1 27 rfl) rfl
theorem oi_X2 : Cond.methodLink O_X2.1 3 Lib.objectInit ∈ gw := mI (t_1 76 rfl) rfl
theorem oi_X3 : Cond.methodLink O_X3.1 1 Lib.objectInit ∈ gw := mI (t_1 19 rfl) rfl
theorem oi_X4 : Cond.methodLink O_X4.1 1 Lib.objectInit ∈ gw := mI (t_4 80 rfl) rfl
theorem ac_int : Cond.arrayClass .int ∈ gw := mI (t_1 70 rfl) rfl
theorem ac_long : Cond.arrayClass .long ∈ gw := mI (t_1 114 rfl) rfl
theorem ac_boolean : Cond.arrayClass .boolean ∈ gw := mI (t_4 177 rfl) rfl
theorem kl_L_7 : Cond.classLink O_L.1 7 (clR 3) ∈ gw := mI (t_1 14 rfl) rfl
theorem kl_X3_7 : Cond.classLink O_X3.1 7 (clR 1) ∈ gw := mI (t_1 22 rfl) rfl
theorem kl_X3_25 : Cond.classLink O_X3.1 25 (clR 2) ∈ gw := mI (t_1 71 rfl) rfl
theorem kl_X3_32 : Cond.classLink O_X3.1 32 (clR 0) ∈ gw := mI (t_1 92 rfl) rfl
theorem kl_L_10 : Cond.classLink O_L.1 10 (clR 4) ∈ gw := mI (t_4 75 rfl) rfl
theorem kl_X4_8 : Cond.classLink O_X4.1 8 (clR 4) ∈ gw := mI (t_5 47 rfl) rfl
theorem kl_X4_19 : Cond.classLink O_X4.1 19 "[[J" ∈ gw := mI (t_4 81 rfl) rfl
theorem kn_0 : Cond.instantiable (clR 0) (clN 0) ∈ gw := mI (t_1 94 rfl) rfl
theorem ki_0 : Cond.initialized (clR 0) ∈ gw := mI (t_1 4 rfl) rfl
theorem kn_1 : Cond.instantiable (clR 1) (clN 1) ∈ gw := mI (t_1 23 rfl) rfl
theorem ki_1 : Cond.initialized (clR 1) ∈ gw := mI (t_1 2 rfl) rfl
theorem kn_2 : Cond.instantiable (clR 2) (clN 2) ∈ gw := mI (t_1 72 rfl) rfl
theorem ki_2 : Cond.initialized (clR 2) ∈ gw := mI (t_1 3 rfl) rfl
theorem kn_3 : Cond.instantiable (clR 3) (clN 3) ∈ gw := mI (t_1 15 rfl) rfl
theorem ki_3 : Cond.initialized (clR 3) ∈ gw := mI (t_1 1 rfl) rfl
theorem kn_4 : Cond.instantiable (clR 4) (clN 4) ∈ gw := mI (t_4 76 rfl) rfl
theorem ki_4 : Cond.initialized (clR 4) ∈ gw := mI (t_1 5 rfl) rfl
theorem df_0 : ∀ j, j < clN 0 → defaultValue (tyF 0 j) = vp_V [.null, .int 0, .int 0, .int 0] j
  | 0, _ => rfl
  | 1, _ => rfl
  | 2, _ => rfl
  | 3, _ => rfl
  | n + 4, h => absurd h (by show ¬ n + 4 < 4; omega)
theorem df_1 : ∀ j, j < clN 1 → defaultValue (tyF 1 j) = vp_V [.null, .null, .null, .null, .null, .int 0, .int 0, .int 0, .int 0, .int 0] j
  | 0, _ => rfl
  | 1, _ => rfl
  | 2, _ => rfl
  | 3, _ => rfl
  | 4, _ => rfl
  | 5, _ => rfl
  | 6, _ => rfl
  | 7, _ => rfl
  | 8, _ => rfl
  | 9, _ => rfl
  | n + 10, h => absurd h (by show ¬ n + 10 < 10; omega)
theorem df_2 : ∀ j, j < clN 2 → defaultValue (tyF 2 j) = vp_V [.null, .int 0, .int 0, .int 0] j
  | 0, _ => rfl
  | 1, _ => rfl
  | 2, _ => rfl
  | 3, _ => rfl
  | n + 4, h => absurd h (by show ¬ n + 4 < 4; omega)
theorem df_3 : ∀ j, j < clN 3 → defaultValue (tyF 3 j) = vp_V [.null, .null, .null, .null, .null, .null, .null, .null, .int 0] j
  | 0, _ => rfl
  | 1, _ => rfl
  | 2, _ => rfl
  | 3, _ => rfl
  | 4, _ => rfl
  | 5, _ => rfl
  | 6, _ => rfl
  | 7, _ => rfl
  | 8, _ => rfl
  | n + 9, h => absurd h (by show ¬ n + 9 < 9; omega)
theorem df_4 : ∀ j, j < clN 4 → defaultValue (tyF 4 j) = vp_V [.null, .null, .null, .null, .null, .null, .null, .int 0, .null, .int 0, .null, .null, .null, .int 0, .null, .null, .int 0, .int 0, .int 0, .null, .null, .int 0, .int 0, .int 0, .int 0, .int 0, .null, .int 0, .null, .null, .null] j
  | 0, _ => rfl
  | 1, _ => rfl
  | 2, _ => rfl
  | 3, _ => rfl
  | 4, _ => rfl
  | 5, _ => rfl
  | 6, _ => rfl
  | 7, _ => rfl
  | 8, _ => rfl
  | 9, _ => rfl
  | 10, _ => rfl
  | 11, _ => rfl
  | 12, _ => rfl
  | 13, _ => rfl
  | 14, _ => rfl
  | 15, _ => rfl
  | 16, _ => rfl
  | 17, _ => rfl
  | 18, _ => rfl
  | 19, _ => rfl
  | 20, _ => rfl
  | 21, _ => rfl
  | 22, _ => rfl
  | 23, _ => rfl
  | 24, _ => rfl
  | 25, _ => rfl
  | 26, _ => rfl
  | 27, _ => rfl
  | 28, _ => rfl
  | 29, _ => rfl
  | 30, _ => rfl
  | n + 31, h => absurd h (by show ¬ n + 31 < 31; omega)
def zI : AI := fun _ => 0
def zL : AL := fun _ => 0
theorem NRL.nil {w : Wd} : NRL w [] := trivial
theorem NRL.ab {w r : Wd} {n : Nat} (h : NRL w r) : NRL w (.inl n :: r) := h
theorem NRL.pr {w r : Wd} {e : va_E} (h1 : NRE w e) (h : NRL w r) : NRL w (.inr e :: r) := ⟨h1, h⟩
theorem nre_o {w : Wd} {ci : Nat} {fs : List Value} (h : fs.all (okP w) = true) : NRE w (.inr (ci, fs)) := h
theorem nre_i {w : Wd} {t n : Nat} {f : Nat → Int32} : NRE w (.inl (t, n, .inl f)) := trivial
theorem nre_l {w : Wd} {t n : Nat} {f : Nat → Int64} : NRE w (.inl (t, n, .inr (.inl f))) := trivial
def nrB (w : Wd) (k0 : Nat) : Bool := (List.range w.length).all (fun k => Nat.beq k k0 || (match w[k]? with
  | some (.inr (.inr (_, fs))) => fs.all (okP w)
  | some (.inr (.inl (_, _, .inr (.inr (.inr (.inr _)))))) => false
  | _ => true))
theorem nrB_use {w : Wd} {k0 k : Nat} {e : va_E} (h : nrB w k0 = true) (hk : k ≠ k0) (he : wA w k = some e) : NRE w e := by
  have h1 := List.all_eq_true.mp h k (List.mem_range.mpr (wA_lt he))
  have h2 : Nat.beq k k0 = false := by
    cases hb : Nat.beq k k0 with
    | false => rfl
    | true => exact absurd (Nat.eq_of_beq_eq_true hb) hk
  rw [h2, Bool.false_or, wA_iff.mp he] at h1
  rcases e with ⟨t, n, f | f | f | f | f⟩ | ⟨ci, fs⟩
  · exact trivial
  · exact trivial
  · exact trivial
  · exact trivial
  · cases h1
  · exact h1
def rqP (w : Wd) (f : Nat → Option Nat) : Prop := ∀ i j, f i = some j → prs w j = true
theorem rq_n {w : Wd} : rqP w (fun _ => none) := fun _ _ h => by cases h
theorem rq_u {w : Wd} {f : Nat → Option Nat} {k v : Nat} (h : rqP w f) (hv : prs w v = true) : rqP w (va_up f k (some v)) := by
  intro i j hj
  unfold va_up at hj
  split at hj
  · cases hj; exact hv
  · exact h i j hj
theorem rq_l8 {w : Wd} (h0 : prs w 18 = true) (h1 : prs w 19 = true) (h2 : prs w 20 = true) (h3 : prs w 21 = true) (h4 : prs w 22 = true) (h5 : prs w 23 = true) (h6 : prs w 24 = true) (h7 : prs w 25 = true) : rqP w (fun i => ([18, 19, 20, 21, 22, 23, 24, 25] : List Nat)[i]?) := by
  intro i j h
  have hm := List.mem_of_getElem? h
  simp only [List.mem_cons, List.not_mem_nil, or_false] at hm
  rcases hm with rfl | rfl | rfl | rfl | rfl | rfl | rfl | rfl <;> assumption
theorem NRW.of0 {w : Wd} (h : nrB w 1000000 = true) (hl : w.length ≤ 1000 := by exact Nat.le_of_ble_eq_true rfl) : NRW w := fun k e he => nrB_use h (by have := wA_lt he; omega) he
theorem NRW.of {w : Wd} (k0 : Nat) {t n : Nat} {f : Nat → Option Nat} (h : nrB w k0 = true) (hk : wA w k0 = some (.inl (t, n, .inr (.inr (.inr (.inr f)))))) (hf : rqP w f) : NRW w := by
  intro k e he
  by_cases hkk : k = k0
  · subst hkk
    rw [hk] at he
    cases he
    exact hf
  · exact nrB_use h hkk he
theorem nre_q {w : Wd} {t n : Nat} {f : Nat → Option Nat} (h : rqP w f) : NRE w (.inl (t, n, .inr (.inr (.inr (.inr f))))) := h
section CI0
variable {l : Launch} {D : va_G} {cT : Nat → ClassId} {O : Own} {code : ByteArray} {nL fr lo Rc Rs : Nat} {g : GT} {bc bs : Nat}
variable {y : MethodName} {ycode : ByteArray} {ynL yfr ylo : Nat} {As : List Value} {wc wc' : Wd}
variable {pc ix : Nat} {L : List (Option Value)} {rest st : List Value} {w w2 : Wd}
theorem m_cI0 {bc' bs' : Nat} (M : MB l D cT O code nL fr lo Rc Rs g) (K : Runs l D cT y ycode ynL none yfr ylo (.ref 0 :: As) wc (EQ none wc')) (hy : CI y ycode ynL As.length) (hl : Cond.methodLink O.1 ix y ∈ gw ∨ Cond.methodLinkNest O.1 ix y "BackByTwice" ∈ nw) (hd : decode code pc = .ok (.invokespecial ix, 3))
    (ρ : List Nat) (hnd : ρ.Nodup) (hle : wc.length ≤ ρ.length ∧ ρ.length ≤ 1000) (hw : (ρ.take wc.length).map (fun k => w[k]?) = wc.map (fun x => some (rS ρ w.length x))) (hst : st = ((.ref 0 :: As).map (rV ρ w.length)).reverse ++ rest) (hcat : (rest.map fun v => v.category).sum ≤ 8) (hroom : yfr + 1 ≤ fr ∧ 8 + (ynL + 11) + ylo ≤ lo) (hc : bc + potC wc = bc') (hs : bs + potS wc = bs') (hbud : bc' ≤ Rc ∧ bs' ≤ Rs)
    (hNR : NRW w) (hrf : rfB w L rest = true) (hw2 : putL (ρ.take wc.length) (wc'.map (rS ρ w.length)) w = w2) (kk : g bc' bs' w2 (pc + 3) L rest) : g bc bs w pc L st :=
  m_cI M K hy hl hd ρ hnd hle hw hst hcat hroom (by rw [hc, hs]; exact hbud) (Or.inr ⟨hNR, hrf⟩) (fun a b hab _ => by obtain ⟨rfl, rfl⟩ := hab; rw [hc, hs, hw2]; exact kk)
end CI0
def nSh : ShT := (zI, zI, zI, zI, zI, 0, 0, 0, 0, 1)
def nTp : TpT := (zI, 0, 0, 0)
def nSl : SlT := (zL, -1, -1, 0)
theorem rfX_eq : va_up (va_up (va_up (va_up (va_up (va_up (va_up (va_up (fun _ => none) 0 (some 30)) 1 (some 32)) 2 (some 34)) 3 (some 36)) 4 (some 38)) 5 (some 40)) 6 (some 42)) 7 (some 44) = (fun i => ([30, 32, 34, 36, 38, 40, 42, 44] : List Nat)[i]?) := by
  funext i
  rcases Nat.lt_or_ge i 8 with h | h
  · rcases lt8 h with rfl | rfl | rfl | rfl | rfl | rfl | rfl | rfl <;> rfl
  · rw [List.getElem?_eq_none (by simpa using h)]
    simp only [va_up]
    rw [if_neg (by omega), if_neg (by omega), if_neg (by omega), if_neg (by omega), if_neg (by omega), if_neg (by omega), if_neg (by omega), if_neg (by omega)]
def nTk : TkT := (zI, zI, 0, 0, 0, 0, 0, 0, 0)
def nSv : SvT := (zI, zI, zI, zI, zL, fun _ => zL)
set_option maxRecDepth 100000 in
set_option maxHeartbeats 400000 in
theorem run_X1_init {l : Launch} {D : va_G} {cT : Nat → ClassId} : Runs l D cT yX1_init cX1_init 1 none 1 12 [.ref 0] [.inr (.inr (1, [.null, .null, .null, .null, .null, .int 0, .int 0, .int 0, .int 0, .int 0])), .inl 16, .inl 16, .inl 16, .inl 6, .inl 6] (EQ none (cSh 0 nSh)) := by
  refine runs_ofI O_X1 okO_X1 (by decide +kernel) rfl rfl rfl (Nat.le_of_ble_eq_true rfl) (Nat.le_of_ble_eq_true rfl) (fun g K I => ?_)
  have M := K.b
  show g 0 0 [.inr (.inr (1, [.null, .null, .null, .null, .null, .int 0, .int 0, .int 0, .int 0, .int 0])), .inl 16, .inl 16, .inl 16, .inl 6, .inl 6] 0 [some (.ref 0)] []
  refine m_run M (is := [(0, .aload_n 0, 0)]) (pc' := 1) (L' := [some (.ref 0)]) (st' := [.ref 0]) (w' := [.inr (.inr (1, [.null, .null, .null, .null, .null, .int 0, .int 0, .int 0, .int 0, .int 0])), .inl 16, .inl 16, .inl 16, .inl 6, .inl 6]) (by decide +kernel) rfl trivial ?_
  refine m_oin M oi_X1 oi_inst oi_code (by decide) (Nat.le_of_ble_eq_true rfl) (by decide +kernel) ?_
  refine m_run M (is := [(4, .aload_n 0, 0), (5, .bipush 16, 16)]) (pc' := 7) (L' := [some (.ref 0)]) (st' := [.int 16, .ref 0]) (w' := [.inr (.inr (1, [.null, .null, .null, .null, .null, .int 0, .int 0, .int 0, .int 0, .int 0])), .inl 16, .inl 16, .inl 16, .inl 6, .inl 6]) (by decide +kernel) rfl trivial ?_
  refine m_newa M (atype := .int) (ty := .int) (N := 16) (k := 1) 0 (16, .inl zI) rfl rfl ac_int (fun _ => rfl) (fun _ => rfl) (by decide) rfl (by decide) ⟨rfl, (NRW.of0 (by decide +kernel)), rfl, rfl⟩ (Nat.le_of_ble_eq_true rfl) (Nat.le_of_ble_eq_true rfl) (by decide +kernel) ?_
  show g 1 16 [.inr (.inr (1, [.null, .null, .null, .null, .null, .int 0, .int 0, .int 0, .int 0, .int 0])), .inr (.inl (0, 16, .inl zI)), .inl 16, .inl 16, .inl 6, .inl 6] 9 [some (.ref 0)] [.ref 1, .ref 0]
  refine m_putF I 9 0 (ci := 1) (j := 0) rfl rfl (Nat.le_of_ble_eq_true rfl) rfl rfl rfl rfl (by decide +kernel) ?_
  show g 1 16 [.inr (.inr (1, [.ref 1, .null, .null, .null, .null, .int 0, .int 0, .int 0, .int 0, .int 0])), .inr (.inl (0, 16, .inl zI)), .inl 16, .inl 16, .inl 6, .inl 6] 12 [some (.ref 0)] []
  refine m_run M (is := [(12, .aload_n 0, 0), (13, .bipush 16, 16)]) (pc' := 15) (L' := [some (.ref 0)]) (st' := [.int 16, .ref 0]) (w' := [.inr (.inr (1, [.ref 1, .null, .null, .null, .null, .int 0, .int 0, .int 0, .int 0, .int 0])), .inr (.inl (0, 16, .inl zI)), .inl 16, .inl 16, .inl 6, .inl 6]) (by decide +kernel) rfl trivial ?_
  refine m_newa M (atype := .int) (ty := .int) (N := 16) (k := 2) 0 (16, .inl zI) rfl rfl ac_int (fun _ => rfl) (fun _ => rfl) (by decide) rfl (by decide) ⟨rfl, (NRW.of0 (by decide +kernel)), rfl, rfl⟩ (Nat.le_of_ble_eq_true rfl) (Nat.le_of_ble_eq_true rfl) (by decide +kernel) ?_
  show g 2 32 [.inr (.inr (1, [.ref 1, .null, .null, .null, .null, .int 0, .int 0, .int 0, .int 0, .int 0])), .inr (.inl (0, 16, .inl zI)), .inr (.inl (0, 16, .inl zI)), .inl 16, .inl 6, .inl 6] 17 [some (.ref 0)] [.ref 2, .ref 0]
  refine m_putF I 15 0 (ci := 1) (j := 1) rfl rfl (Nat.le_of_ble_eq_true rfl) rfl rfl rfl rfl (by decide +kernel) ?_
  show g 2 32 [.inr (.inr (1, [.ref 1, .ref 2, .null, .null, .null, .int 0, .int 0, .int 0, .int 0, .int 0])), .inr (.inl (0, 16, .inl zI)), .inr (.inl (0, 16, .inl zI)), .inl 16, .inl 6, .inl 6] 20 [some (.ref 0)] []
  refine m_run M (is := [(20, .aload_n 0, 0), (21, .bipush 16, 16)]) (pc' := 23) (L' := [some (.ref 0)]) (st' := [.int 16, .ref 0]) (w' := [.inr (.inr (1, [.ref 1, .ref 2, .null, .null, .null, .int 0, .int 0, .int 0, .int 0, .int 0])), .inr (.inl (0, 16, .inl zI)), .inr (.inl (0, 16, .inl zI)), .inl 16, .inl 6, .inl 6]) (by decide +kernel) rfl trivial ?_
  refine m_newa M (atype := .int) (ty := .int) (N := 16) (k := 3) 0 (16, .inl zI) rfl rfl ac_int (fun _ => rfl) (fun _ => rfl) (by decide) rfl (by decide) ⟨rfl, (NRW.of0 (by decide +kernel)), rfl, rfl⟩ (Nat.le_of_ble_eq_true rfl) (Nat.le_of_ble_eq_true rfl) (by decide +kernel) ?_
  show g 3 48 [.inr (.inr (1, [.ref 1, .ref 2, .null, .null, .null, .int 0, .int 0, .int 0, .int 0, .int 0])), .inr (.inl (0, 16, .inl zI)), .inr (.inl (0, 16, .inl zI)), .inr (.inl (0, 16, .inl zI)), .inl 6, .inl 6] 25 [some (.ref 0)] [.ref 3, .ref 0]
  refine m_putF I 18 0 (ci := 1) (j := 2) rfl rfl (Nat.le_of_ble_eq_true rfl) rfl rfl rfl rfl (by decide +kernel) ?_
  show g 3 48 [.inr (.inr (1, [.ref 1, .ref 2, .ref 3, .null, .null, .int 0, .int 0, .int 0, .int 0, .int 0])), .inr (.inl (0, 16, .inl zI)), .inr (.inl (0, 16, .inl zI)), .inr (.inl (0, 16, .inl zI)), .inl 6, .inl 6] 28 [some (.ref 0)] []
  refine m_run M (is := [(28, .aload_n 0, 0), (29, .bipush 6, 6)]) (pc' := 31) (L' := [some (.ref 0)]) (st' := [.int 6, .ref 0]) (w' := [.inr (.inr (1, [.ref 1, .ref 2, .ref 3, .null, .null, .int 0, .int 0, .int 0, .int 0, .int 0])), .inr (.inl (0, 16, .inl zI)), .inr (.inl (0, 16, .inl zI)), .inr (.inl (0, 16, .inl zI)), .inl 6, .inl 6]) (by decide +kernel) rfl trivial ?_
  refine m_newa M (atype := .int) (ty := .int) (N := 6) (k := 4) 0 (6, .inl zI) rfl rfl ac_int (fun _ => rfl) (fun _ => rfl) (by decide) rfl (by decide) ⟨rfl, (NRW.of0 (by decide +kernel)), rfl, rfl⟩ (Nat.le_of_ble_eq_true rfl) (Nat.le_of_ble_eq_true rfl) (by decide +kernel) ?_
  show g 4 54 [.inr (.inr (1, [.ref 1, .ref 2, .ref 3, .null, .null, .int 0, .int 0, .int 0, .int 0, .int 0])), .inr (.inl (0, 16, .inl zI)), .inr (.inl (0, 16, .inl zI)), .inr (.inl (0, 16, .inl zI)), .inr (.inl (0, 6, .inl zI)), .inl 6] 33 [some (.ref 0)] [.ref 4, .ref 0]
  refine m_putF I 21 0 (ci := 1) (j := 3) rfl rfl (Nat.le_of_ble_eq_true rfl) rfl rfl rfl rfl (by decide +kernel) ?_
  show g 4 54 [.inr (.inr (1, [.ref 1, .ref 2, .ref 3, .ref 4, .null, .int 0, .int 0, .int 0, .int 0, .int 0])), .inr (.inl (0, 16, .inl zI)), .inr (.inl (0, 16, .inl zI)), .inr (.inl (0, 16, .inl zI)), .inr (.inl (0, 6, .inl zI)), .inl 6] 36 [some (.ref 0)] []
  refine m_run M (is := [(36, .aload_n 0, 0), (37, .bipush 6, 6)]) (pc' := 39) (L' := [some (.ref 0)]) (st' := [.int 6, .ref 0]) (w' := [.inr (.inr (1, [.ref 1, .ref 2, .ref 3, .ref 4, .null, .int 0, .int 0, .int 0, .int 0, .int 0])), .inr (.inl (0, 16, .inl zI)), .inr (.inl (0, 16, .inl zI)), .inr (.inl (0, 16, .inl zI)), .inr (.inl (0, 6, .inl zI)), .inl 6]) (by decide +kernel) rfl trivial ?_
  refine m_newa M (atype := .int) (ty := .int) (N := 6) (k := 5) 0 (6, .inl zI) rfl rfl ac_int (fun _ => rfl) (fun _ => rfl) (by decide) rfl (by decide) ⟨rfl, (NRW.of0 (by decide +kernel)), rfl, rfl⟩ (Nat.le_of_ble_eq_true rfl) (Nat.le_of_ble_eq_true rfl) (by decide +kernel) ?_
  show g 5 60 [.inr (.inr (1, [.ref 1, .ref 2, .ref 3, .ref 4, .null, .int 0, .int 0, .int 0, .int 0, .int 0])), .inr (.inl (0, 16, .inl zI)), .inr (.inl (0, 16, .inl zI)), .inr (.inl (0, 16, .inl zI)), .inr (.inl (0, 6, .inl zI)), .inr (.inl (0, 6, .inl zI))] 41 [some (.ref 0)] [.ref 5, .ref 0]
  refine m_putF I 24 0 (ci := 1) (j := 4) rfl rfl (Nat.le_of_ble_eq_true rfl) rfl rfl rfl rfl (by decide +kernel) ?_
  show g 5 60 [.inr (.inr (1, [.ref 1, .ref 2, .ref 3, .ref 4, .ref 5, .int 0, .int 0, .int 0, .int 0, .int 0])), .inr (.inl (0, 16, .inl zI)), .inr (.inl (0, 16, .inl zI)), .inr (.inl (0, 16, .inl zI)), .inr (.inl (0, 6, .inl zI)), .inr (.inl (0, 6, .inl zI))] 44 [some (.ref 0)] []
  refine m_run M (is := [(44, .aload_n 0, 0), (45, .iconst 1, 1), (46, .putfield 27, 0)]) (pc' := 49) (L' := [some (.ref 0)]) (st' := []) (w' := [.inr (.inr (1, [.ref 1, .ref 2, .ref 3, .ref 4, .ref 5, .int 0, .int 0, .int 0, .int 0, .int 1])), .inr (.inl (0, 16, .inl zI)), .inr (.inl (0, 16, .inl zI)), .inr (.inl (0, 16, .inl zI)), .inr (.inl (0, 6, .inl zI)), .inr (.inl (0, 6, .inl zI))]) (by decide +kernel) rfl trivial ?_
  exact m_vret K (by decide +kernel) (Nat.le_of_ble_eq_true rfl) (Nat.le_of_ble_eq_true rfl) ⟨rfl, rfl⟩
set_option maxRecDepth 100000 in
set_option maxHeartbeats 400000 in
theorem run_X2_init {l : Launch} {D : va_G} {cT : Nat → ClassId} : Runs l D cT yX2_init cX2_init 1 none 1 12 [.ref 0] [.inr (.inr (2, [.null, .int 0, .int 0, .int 0])), .inl 250] (EQ none (cTp 0 nTp)) := by
  refine runs_ofI O_X2 okO_X2 (by decide +kernel) rfl rfl rfl (Nat.le_of_ble_eq_true rfl) (Nat.le_of_ble_eq_true rfl) (fun g K I => ?_)
  have M := K.b
  show g 0 0 [.inr (.inr (2, [.null, .int 0, .int 0, .int 0])), .inl 250] 0 [some (.ref 0)] []
  refine m_run M (is := [(0, .aload_n 0, 0)]) (pc' := 1) (L' := [some (.ref 0)]) (st' := [.ref 0]) (w' := [.inr (.inr (2, [.null, .int 0, .int 0, .int 0])), .inl 250]) (by decide +kernel) rfl trivial ?_
  refine m_oin M oi_X2 oi_inst oi_code (by decide) (Nat.le_of_ble_eq_true rfl) (by decide +kernel) ?_
  refine m_run M (is := [(4, .aload_n 0, 0), (5, .sipush 250, 250)]) (pc' := 8) (L' := [some (.ref 0)]) (st' := [.int 250, .ref 0]) (w' := [.inr (.inr (2, [.null, .int 0, .int 0, .int 0])), .inl 250]) (by decide +kernel) rfl trivial ?_
  refine m_newa M (atype := .int) (ty := .int) (N := 250) (k := 1) 0 (250, .inl zI) rfl rfl ac_int (fun _ => rfl) (fun _ => rfl) (by decide) rfl (by decide) ⟨rfl, (NRW.of0 (by decide +kernel)), rfl, rfl⟩ (Nat.le_of_ble_eq_true rfl) (Nat.le_of_ble_eq_true rfl) (by decide +kernel) ?_
  show g 1 250 [.inr (.inr (2, [.null, .int 0, .int 0, .int 0])), .inr (.inl (0, 250, .inl zI))] 10 [some (.ref 0)] [.ref 1, .ref 0]
  refine m_putF I 9 0 (ci := 2) (j := 0) rfl rfl (Nat.le_of_ble_eq_true rfl) rfl rfl rfl rfl (by decide +kernel) ?_
  show g 1 250 [.inr (.inr (2, [.ref 1, .int 0, .int 0, .int 0])), .inr (.inl (0, 250, .inl zI))] 13 [some (.ref 0)] []
  exact m_vret K (by decide +kernel) (Nat.le_of_ble_eq_true rfl) (Nat.le_of_ble_eq_true rfl) ⟨rfl, rfl⟩
set_option maxRecDepth 100000 in
set_option maxHeartbeats 400000 in
theorem run_X0_init {l : Launch} {D : va_G} {cT : Nat → ClassId} : Runs l D cT yX0_init cX0_init 1 none 1 12 [.ref 0] [.inr (.inr (0, [.null, .int 0, .int 0, .int 0])), .inl 40] (EQ none (cSl 0 nSl)) := by
  refine runs_ofI O_X0 okO_X0 (by decide +kernel) rfl rfl rfl (Nat.le_of_ble_eq_true rfl) (Nat.le_of_ble_eq_true rfl) (fun g K I => ?_)
  have M := K.b
  show g 0 0 [.inr (.inr (0, [.null, .int 0, .int 0, .int 0])), .inl 40] 0 [some (.ref 0)] []
  refine m_run M (is := [(0, .aload_n 0, 0)]) (pc' := 1) (L' := [some (.ref 0)]) (st' := [.ref 0]) (w' := [.inr (.inr (0, [.null, .int 0, .int 0, .int 0])), .inl 40]) (by decide +kernel) rfl trivial ?_
  refine m_oin M oi_X0 oi_inst oi_code (by decide) (Nat.le_of_ble_eq_true rfl) (by decide +kernel) ?_
  refine m_run M (is := [(4, .aload_n 0, 0), (5, .bipush 40, 40)]) (pc' := 7) (L' := [some (.ref 0)]) (st' := [.int 40, .ref 0]) (w' := [.inr (.inr (0, [.null, .int 0, .int 0, .int 0])), .inl 40]) (by decide +kernel) rfl trivial ?_
  refine m_newa M (atype := .long) (ty := .long) (N := 40) (k := 1) 1 (40, .inr (.inl zL)) rfl rfl ac_long (fun _ => rfl) (fun _ => rfl) (by decide) rfl (by decide) ⟨rfl, (NRW.of0 (by decide +kernel)), rfl, rfl⟩ (Nat.le_of_ble_eq_true rfl) (Nat.le_of_ble_eq_true rfl) (by decide +kernel) ?_
  show g 1 40 [.inr (.inr (0, [.null, .int 0, .int 0, .int 0])), .inr (.inl (1, 40, .inr (.inl zL)))] 9 [some (.ref 0)] [.ref 1, .ref 0]
  refine m_putF I 9 0 (ci := 0) (j := 0) rfl rfl (Nat.le_of_ble_eq_true rfl) rfl rfl rfl rfl (by decide +kernel) ?_
  show g 1 40 [.inr (.inr (0, [.ref 1, .int 0, .int 0, .int 0])), .inr (.inl (1, 40, .inr (.inl zL)))] 12 [some (.ref 0)] []
  refine m_run M (is := [(12, .aload_n 0, 0), (13, .iconst (-1), (-1)), (14, .putfield 15, 0), (17, .aload_n 0, 0), (18, .iconst (-1), (-1)), (19, .putfield 19, 0)]) (pc' := 22) (L' := [some (.ref 0)]) (st' := []) (w' := [.inr (.inr (0, [.ref 1, .int (-1), .int (-1), .int 0])), .inr (.inl (1, 40, .inr (.inl zL)))]) (by decide +kernel) rfl trivial ?_
  exact m_vret K (by decide +kernel) (Nat.le_of_ble_eq_true rfl) (Nat.le_of_ble_eq_true rfl) ⟨rfl, rfl⟩
