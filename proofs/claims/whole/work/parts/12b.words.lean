/-! ===== the words: strings read letter by letter; written by wip/whole/words.py ===== -/
def O_J0 : Own := (RJ0, [], [], [])
theorem okO_J0 : okO O_J0 = true := by decide +kernel
def O_J1 : Own := (RJ1, [], [], [])
theorem okO_J1 : okO O_J1 = true := by decide +kernel
def O_J3 : Own := (RJ3, [], [], [])
theorem okO_J3 : okO O_J3 = true := by decide +kernel
def CW (y : MethodName) (code : ByteArray) (nL : Nat) (ret : Option FieldType) (n : Nat) : Prop := y.cls = RJ0 ∧ okY y n = true ∧ Cond.instanceMethod y ∈ gw ∧ Cond.selects RJ0 y y ∈ gw ∧ Cond.initialized RJ0 ∈ gw ∧ Cond.code y code nL ret ∈ gw
theorem cw_length : CW yJ0_length_8abf5 cJ0_length_8abf5 1 (some .int) 0 := ⟨rfl, by decide +kernel, mI (t_2 117 rfl) rfl, mI (t_2 118 rfl) rfl, mI (t_1 9 rfl) rfl, mI (t_2 119 rfl) rfl⟩
theorem cw_charAt : CW yJ0_charAt_5068e cJ0_charAt_5068e 2 (some .char) 1 := ⟨rfl, by decide +kernel, mI (t_2 127 rfl) rfl, mI (t_2 128 rfl) rfl, mI (t_1 9 rfl) rfl, mI (t_2 129 rfl) rfl⟩
theorem cw_coder : CW yJ0_coder_7d493 cJ0_coder_7d493 1 (some .byte) 0 := ⟨rfl, by decide +kernel, mI (t_2 121 rfl) rfl, mI (t_2 122 rfl) rfl, mI (t_1 9 rfl) rfl, mI (t_2 123 rfl) rfl⟩
theorem cw_isLatin1 : CW yJ0_isLatin1_aae02 cJ0_isLatin1_aae02 1 (some .boolean) 0 := ⟨rfl, by decide +kernel, mI (t_2 131 rfl) rfl, mI (t_2 132 rfl) rfl, mI (t_1 9 rfl) rfl, mI (t_2 133 rfl) rfl⟩
theorem cs_checkIndex : CS yJ0_checkIndex_df160 cJ0_checkIndex_df160 2 none 2 := ⟨by decide +kernel, mI (t_2 138 rfl) rfl, mI (t_1 9 rfl) rfl, mI (t_2 139 rfl) rfl⟩
theorem cs_l1 : CS yJ1_charAt_3b067 cJ1_charAt_3b067 2 (some .char) 2 := ⟨by decide +kernel, mI (t_2 135 rfl) rfl, mI (t_1 10 rfl) rfl, mI (t_2 136 rfl) rfl⟩
theorem cs_pc : CS yJ3_checkIndex_8e157 cJ3_checkIndex_8e157 3 (some .int) 3 := ⟨by decide +kernel, mI (t_2 143 rfl) rfl, mI (t_1 11 rfl) rfl, mI (t_2 144 rfl) rfl⟩
theorem wl_coder : Cond.methodLink O_J0.1 335 yJ0_coder_7d493 ∈ gw := mI (t_2 120 rfl) rfl
theorem wl_latin : Cond.methodLink O_J0.1 492 yJ0_isLatin1_aae02 ∈ gw := mI (t_2 130 rfl) rfl
theorem wl_l1 : Cond.methodLink O_J0.1 495 yJ1_charAt_3b067 ∈ gw := mI (t_2 134 rfl) rfl
theorem wl_ck : Cond.methodLink O_J1.1 9 yJ0_checkIndex_df160 ∈ gw := mI (t_2 137 rfl) rfl
theorem wl_pc : Cond.methodLink O_J0.1 1059 yJ3_checkIndex_8e157 ∈ gw := mI (t_2 142 rfl) rfl
theorem wl_len2 : Cond.methodLink O_X2.1 127 yJ0_length_8abf5 ∈ gw := mI (t_2 116 rfl) rfl
theorem wl_ch2 : Cond.methodLink O_X2.1 132 yJ0_charAt_5068e ∈ gw := mI (t_2 126 rfl) rfl
theorem wl_len4 : Cond.methodLink O_X4.1 160 yJ0_length_8abf5 ∈ gw := mI (t_5 79 rfl) rfl
theorem wl_ch4 : Cond.methodLink O_X4.1 166 yJ0_charAt_5068e ∈ gw := mI (t_5 80 rfl) rfl
theorem fl_val : Cond.fieldLink O_J0.1 9 RJ0 "value" "[B" ∈ gw := mI (t_6 153 rfl) rfl
theorem fl_cod : Cond.fieldLink O_J0.1 15 RJ0 "coder" "B" ∈ gw := mI (t_6 154 rfl) rfl
theorem fl_cmp : Cond.fieldLink O_J0.1 38 RJ0 "COMPACT_STRINGS" "Z" ∈ gw := mI (t_2 124 rfl) rfl
theorem fl_fmt : Cond.fieldLink O_J0.1 1053 "jdk/internal/util/Preconditions" "SIOOBE_FORMATTER" "Ljava/util/function/BiFunction;" ∈ gw := mI (t_2 140 rfl) rfl
section WRD
variable {l : Launch} {D : va_G} {cT : Nat → ClassId} {O : Own} {code : ByteArray} {nL fr lo Rc Rs : Nat} {g : GT} {bc bs : Nat} {ret : Option FieldType} {E : Option Value → Wd → Prop}
variable {pc ix i : Nat} {L : List (Option Value)} {rest st : List Value} {w : Wd}
theorem zq_of {q0 q : Nat → Nat} {w0 w : Wd} (hZ : Zq cT q0) (hl : w0.length ≤ 1000) (h : Ext q0 w0 q w) (j : Nat) : q (1000 + j) = cT (100 + j) := by
  rw [h.1 (1000 + j) (Or.inr (by omega)), hZ j]
theorem m_nret {ty : FieldType} (M : MR l D cT O code nL fr lo Rc Rs g (some ty) E) {x : Int32} (hn : narrow ty (.int x) = .int x) (hd : decode code pc = .ok (.ireturn, 1)) (hc : bc ≤ Rc) (hs : bs ≤ Rs) (h : E (some (.int x)) w) : g bc bs w pc L [.int x] := by
  obtain ⟨p, e, R, s, m, args, below, meth, c, q0, w0, sz, Q, ⟨hx, hb, hml, hown, hts, hK, hlk, hsz⟩, h2, h3, h4, h5, h6, hxs, rfl, hr, rfl⟩ := M
  subst h5; subst h6; subst hsz
  intro q H locs ls cells slots a1 a2 a3 a4 a5 a6 a7
  refine W.widen (k := R.cells) (n := R.slots) (by omega) (by omega) ?_
  exact W.zret hx hb hr hn (fun t ht hW => ⟨⟨some (.int x), q, w, rfl, h, a1, by rw [ht]; exact a2, a3⟩, a4.F ht⟩) a4.2.2 hd hlk
theorem m_ldcS (M : MB l D cT O code nL fr lo Rc Rs g) (i : Nat) (hi : i < 14) (ho : owS i = O.1) (hix : ixS i = ix) (hd : decode code pc = .ok (.ldc ix, 2)) (k : g bc bs w (pc + 2) L (.ref (1000 + i) :: st)) : g bc bs w pc L st := by
  obtain ⟨p, e, R, s, m, args, below, meth, c, q0, w0, sz, Q, ⟨hx, hb, hml, hown, hts, hK, hlk, hsz⟩, h2, h3, h4, h5, h6, hxs, rfl⟩ := M
  intro q H locs ls cells slots a1 a2 a3 a4 a5 a6 a7
  have h9 := (hxs.1.1 i hi).2
  rw [ho, hix] at h9
  refine va_ldcS hx hb hown h9 hd ?_
  have := k q H locs ls cells slots a1 a2 a3 a4 a5 a6 a7
  rw [List.map_cons, show tV q (.ref (1000 + i)) = .ref (q (1000 + i)) from rfl, zq_of hxs.2.1 hxs.2.2 a1 i] at this
  exact this
theorem m_sval (M : MB l D cT O code nL fr lo Rc Rs g) (hi : i < 14) (hl : Cond.fieldLink O.1 ix RJ0 "value" "[B" ∈ gw) (hd : decode code pc = .ok (.getfield ix, 3)) (k : g bc bs w (pc + 3) L (.ref (1100 + i) :: st)) : g bc bs w pc L (.ref (1000 + i) :: st) := by
  obtain ⟨p, e, R, s, m, args, below, meth, c, q0, w0, sz, Q, ⟨hx, hb, hml, hown, hts, hK, hlk, hsz⟩, h2, h3, h4, h5, h6, hxs, rfl⟩ := M
  intro q H locs ls cells slots a1 a2 a3 a4 a5 a6 a7
  rw [List.map_cons, show tV q (.ref (1000 + i)) = .ref (q (1000 + i)) from rfl, zq_of hxs.2.1 hxs.2.2 a1 i]
  refine vk_getf hx hb (hxs.1.1 i hi).1.2.2.1 a4 hown (hts _ hl) (fun _ h => h) hd ?_
  have := k q H locs ls cells slots a1 a2 a3 a4 a5 a6 a7
  rw [List.map_cons, show tV q (.ref (1100 + i)) = .ref (q (1100 + i)) from rfl, show 1100 + i = 1000 + (100 + i) by omega, zq_of hxs.2.1 hxs.2.2 a1 (100 + i), show 100 + (100 + i) = 200 + i by omega] at this
  exact this
theorem m_scod (M : MB l D cT O code nL fr lo Rc Rs g) (hi : i < 14) (hl : Cond.fieldLink O.1 ix RJ0 "coder" "B" ∈ gw) (hd : decode code pc = .ok (.getfield ix, 3)) (k : g bc bs w (pc + 3) L (.int 0 :: st)) : g bc bs w pc L (.ref (1000 + i) :: st) := by
  obtain ⟨p, e, R, s, m, args, below, meth, c, q0, w0, sz, Q, ⟨hx, hb, hml, hown, hts, hK, hlk, hsz⟩, h2, h3, h4, h5, h6, hxs, rfl⟩ := M
  intro q H locs ls cells slots a1 a2 a3 a4 a5 a6 a7
  rw [List.map_cons, show tV q (.ref (1000 + i)) = .ref (q (1000 + i)) from rfl, zq_of hxs.2.1 hxs.2.2 a1 i]
  exact vk_getf hx hb (hxs.1.1 i hi).1.2.1 a4 hown (hts _ hl) (fun _ h => h) hd (k q H locs ls cells slots a1 a2 a3 a4 a5 a6 a7)
theorem m_sarl (M : MB l D cT O code nL fr lo Rc Rs g) (hi : i < 14) (hd : decode code pc = .ok (.arraylength, 1)) (k : g bc bs w (pc + 1) L (.int (Int32.ofNat (lnS i)) :: st)) : g bc bs w pc L (.ref (1100 + i) :: st) := by
  obtain ⟨p, e, R, s, m, args, below, meth, c, q0, w0, sz, Q, ⟨hx, hb, hml, hown, hts, hK, hlk, hsz⟩, h2, h3, h4, h5, h6, hxs, rfl⟩ := M
  intro q H locs ls cells slots a1 a2 a3 a4 a5 a6 a7
  rw [List.map_cons, show tV q (.ref (1100 + i)) = .ref (q (1100 + i)) from rfl, show 1100 + i = 1000 + (100 + i) by omega, zq_of hxs.2.1 hxs.2.2 a1 (100 + i), show 100 + (100 + i) = 200 + i by omega]
  exact va_tlen hx hb (hxs.1.1 i hi).1.2.2.2 a4 rfl hd (k q H locs ls cells slots a1 a2 a3 a4 a5 a6 a7)
theorem m_sbal (M : MB l D cT O code nL fr lo Rc Rs g) (hi : i < 14) {a : Int32} (ha : vp_in a (lnS i)) (hd : decode code pc = .ok (.baload, 1)) (k : g bc bs w (pc + 1) L (.int ((byS i).getD a.toNatClampNeg 0) :: st)) : g bc bs w pc L (.int a :: .ref (1100 + i) :: st) := by
  obtain ⟨p, e, R, s, m, args, below, meth, c, q0, w0, sz, Q, ⟨hx, hb, hml, hown, hts, hK, hlk, hsz⟩, h2, h3, h4, h5, h6, hxs, rfl⟩ := M
  intro q H locs ls cells slots a1 a2 a3 a4 a5 a6 a7
  rw [List.map_cons, List.map_cons, show tV q (.ref (1100 + i)) = .ref (q (1100 + i)) from rfl, show 1100 + i = 1000 + (100 + i) by omega, zq_of hxs.2.1 hxs.2.2 a1 (100 + i), show 100 + (100 + i) = 200 + i by omega]
  exact va_tb hx hb (hxs.1.1 i hi).1.2.2.2 a4 ha rfl hd (k q H locs ls cells slots a1 a2 a3 a4 a5 a6 a7)
theorem m_gstC (M : MB l D cT O code nL fr lo Rc Rs g) (hl : Cond.fieldLink O.1 ix RJ0 "COMPACT_STRINGS" "Z" ∈ gw) (hd : decode code pc = .ok (.getstatic ix, 3)) (k : g bc bs w (pc + 3) L (.int 1 :: st)) : g bc bs w pc L st := by
  obtain ⟨p, e, R, s, m, args, below, meth, c, q0, w0, sz, Q, ⟨hx, hb, hml, hown, hts, hK, hlk, hsz⟩, h2, h3, h4, h5, h6, hxs, rfl⟩ := M
  intro q H locs ls cells slots a1 a2 a3 a4 a5 a6 a7
  exact va_gets hx hb hxs.1.2.1 a4 hown (hts _ hl) (fun _ h => h) hd (k q H locs ls cells slots a1 a2 a3 a4 a5 a6 a7)
theorem m_gstF (M : MB l D cT O code nL fr lo Rc Rs g) (hl : Cond.fieldLink O.1 ix "jdk/internal/util/Preconditions" "SIOOBE_FORMATTER" "Ljava/util/function/BiFunction;" ∈ gw) (hd : decode code pc = .ok (.getstatic ix, 3)) (k : g bc bs w (pc + 3) L (.ref 1300 :: st)) (k2 : g bc bs w (pc + 3) L (.null :: st)) : g bc bs w pc L st := by
  obtain ⟨p, e, R, s, m, args, below, meth, c, q0, w0, sz, Q, ⟨hx, hb, hml, hown, hts, hK, hlk, hsz⟩, h2, h3, h4, h5, h6, hxs, rfl⟩ := M
  intro q H locs ls cells slots a1 a2 a3 a4 a5 a6 a7
  rcases hxs.1.2.2 with z | z
  rotate_left
  · exact va_gets hx hb z a4 hown (hts _ hl) (fun _ h => h) hd (k2 q H locs ls cells slots a1 a2 a3 a4 a5 a6 a7)
  refine va_gets hx hb z a4 hown (hts _ hl) (fun _ h => h) hd ?_
  have := k q H locs ls cells slots a1 a2 a3 a4 a5 a6 a7
  rw [List.map_cons, show tV q (.ref 1300) = .ref (q (1000 + 300)) from rfl, zq_of hxs.2.1 hxs.2.2 a1 300] at this
  exact this
theorem m_i2c (M : MB l D cT O code nL fr lo Rc Rs g) {x v : Int32} (hd : decode code pc = .ok (.i2c, 1)) (hv : (x.toUInt32 % 65536).toInt32 = v) (k : g bc bs w (pc + 1) L (.int v :: st)) : g bc bs w pc L (.int x :: st) := by
  obtain ⟨p, e, R, s, m, args, below, meth, c, q0, w0, sz, Q, ⟨hx, hb, hml, hown, hts, hK, hlk, hsz⟩, h2, h3, h4, h5, h6, hxs, rfl⟩ := M
  intro q H locs ls cells slots a1 a2 a3 a4 a5 a6 a7
  exact lv_i2c hx hb hd hv (k q H locs ls cells slots a1 a2 a3 a4 a5 a6 a7)
theorem rn0 (k : Nat) : rn [] 0 k = k := by
  unfold rn
  show (if k < 0 then 0 + k else k) = k
  rw [if_neg (Nat.not_lt_zero k)]
/-- a call on a word -/
theorem m_cW {y : MethodName} {ycode : ByteArray} {ynL yfr ylo : Nat} {yret : Option FieldType} {xs : List Int32} {x : Int32} (M : MB l D cT O code nL fr lo Rc Rs g) (K : Runs l D cT y ycode ynL yret yfr ylo (.ref (1000 + i) :: xs.map .int) [] (EQ (some (.int x)) [])) (hi : i < 14) (hy : CW y ycode ynL yret xs.length) (hl : Cond.methodLink O.1 ix y ∈ gw) (hd : decode code pc = .ok (.invokevirtual ix, 3)) (hwl : w.length ≤ 1000) (hcat : (rest.map fun v => v.category).sum ≤ 8) (hroom : yfr + 1 ≤ fr ∧ 8 + (ynL + 11) + ylo ≤ lo) (hbud : bc ≤ Rc ∧ bs ≤ Rs) (hst : st = (xs.map Value.int).reverse ++ .ref (1000 + i) :: rest) (kk : g bc bs w (pc + 3) L (.int x :: rest)) : g bc bs w pc L st := by
  obtain ⟨p, e, R, s, m, args, below, meth, c, q0, w0, sz, Q, X, hO, h3, h4, h5, h6, hxs, rfl⟩ := M
  obtain ⟨hx, hb, hml, hown, hts, hK, hlk, hsz⟩ := id X
  obtain ⟨hyc, hyk, y1, y2, y3, y4⟩ := hy
  have hi1 : ∀ (B : Nat), (xs.map Value.int).map (rV [] B) = xs.map Value.int := fun B => by rw [List.map_map]; exact List.map_congr_left (fun _ _ => rfl)
  have hi2 : ∀ (f : Nat → Nat), (xs.map Value.int).map (tV f) = xs.map Value.int := fun f => by rw [List.map_map]; exact List.map_congr_left (fun _ _ => rfl)
  have hrn : rn [] w.length (1000 + i) = 1000 + i := by
    unfold rn
    rw [List.getD_eq_getElem?_getD]
    exact if_neg (by omega)
  refine gg_call X K [] List.nodup_nil ⟨Nat.le_refl _, Nat.zero_le _⟩ hxs rfl (by rw [hst, List.map_cons, hi1, List.reverse_cons, List.append_assoc, show rV [] w.length (.ref (1000 + i)) = .ref (rn [] w.length (1000 + i)) from rfl, hrn]; rfl) ?_ (Or.inl rfl) (fun a b hab _ => by obtain ⟨rfl, rfl⟩ := hab; exact kk)
  intro q H locs cells slots ls hP hL hc hs hZc hvs hPc
  have hrv : ∃ cell : Cell, H[q (rn [] w.length (1000 + i))]? = some cell ∧ cell.vm.isStatics = false ∧ s.vm.findClass RJ0 = some cell.cls := by
    have e0 : q (rn [] w.length (1000 + i)) = cT (100 + i) := hZc i
    rw [e0]
    obtain ⟨cell, g1, g2, g3, -⟩ := (hxs.1.1 i hi).1.1.kept hvs.2.1
    exact ⟨cell, g1, g2, g3⟩
  have hS : CallFix p m c code nL s args gw O.1 := ⟨hx, hb, hml, hown, hts⟩
  have hp : PreV s H RJ0 (q (rn [] w.length (1000 + i))) (va_Pc ((Value.ref (1000 + i) :: xs.map .int).map (tV (fun j => q (rn [] w.length j)))) (PcB D cT (fun j => q (rn [] w.length j)) [] H.size)) ((xs.map Value.int).map (tV (fun j => q (rn [] w.length j)))) := ⟨blindP, hrv, hPc⟩
  have e1 : st.map (tV q) = ((xs.map Value.int).map (tV (fun j => q (rn [] w.length j)))).reverse ++ .ref (q (rn [] w.length (1000 + i))) :: rest.map (tV q) := by
    rw [hst, hi2, List.map_append, List.map_reverse, hi2, hrn]
    rfl
  rw [e1]
  have cw := cwV (R := R) (own := O.1) (index := ix) (C := RJ0) (rm := { frames := yfr, cells := potC [], slots := potS [], locals := ylo }) (mc := potC []) (ms := potS []) xs.length hts (gwG (ws := wsV O.1 ix RJ0 y (wsG y ycode ynL yret)) (fun w hw => by
    rcases List.mem_append.mp hw with h | h
    · simp only [List.mem_cons, List.not_mem_nil, or_false] at h
      rcases h with rfl | rfl | rfl | rfl <;> assumption
    · exact wsG_gw y4 w h)) rfl rfl rfl ⟨hyc, okY_use hyk⟩ (by rw [h3, h4]; exact hroom)
  exact va_runV hS (K _ _ hZc) cw hp rfl (by rw [List.length_map, List.length_map]) hL.1.1 rfl (lv_room (by rw [cats]; exact hcat)) hd (by rw [h5, h6]; exact ⟨by simpa [potC] using (by omega : bc ≤ Rc) |> fun h => (by show cells + 0 ≤ Rc; omega), (by show slots + 0 ≤ Rs; omega)⟩)
end WRD

theorem lt14 {i : Nat} (h : i < 14) : i = 0 ∨ i = 1 ∨ i = 2 ∨ i = 3 ∨ i = 4 ∨ i = 5 ∨ i = 6 ∨ i = 7 ∨ i = 8 ∨ i = 9 ∨ i = 10 ∨ i = 11 ∨ i = 12 ∨ i = 13 := by omega
theorem ln_all : ∀ k, k < 14 → lnS k < 2147483648 := by decide +kernel
theorem in_lt {i : Nat} {a : Int32} (hi : i < 14) (h : vp_in a (lnS i)) : a < Int32.ofNat (lnS i) := by
  have h1 : ¬ a < 0 := fun c => h (Or.inl c)
  have h2 : ¬ lnS i ≤ a.toNatClampNeg := fun c => h (Or.inr c)
  have h3 := ln_all i hi
  rw [Int32.lt_iff_toInt_lt, Int32.toInt_ofNat_of_lt h3]
  have h0 : (0 : Int) ≤ a.toInt := by simpa using Int32.le_iff_toInt_le.mp (Int32.not_lt.mp h1)
  have : ((a.toInt.toNat : Nat) : Int) = a.toInt := by omega
  have h4 : a.toNatClampNeg = a.toInt.toNat := rfl
  omega
def chS (i : Nat) (a : Int32) : Int32 := (byS i).getD a.toNatClampNeg 0
theorem by_all : ∀ k, k < 14 → ∀ b ∈ (0 : Int32) :: byS k, ((b &&& 255).toUInt32 % 65536).toInt32 = b := by decide +kernel
theorem chS_mem (i : Nat) (a : Int32) : chS i a ∈ (0 : Int32) :: byS i := by
  unfold chS
  rw [List.getD_eq_getElem?_getD]
  cases h : (byS i)[a.toNatClampNeg]? with
  | none => exact List.mem_cons_self
  | some x => exact List.mem_cons_of_mem _ (List.mem_of_getElem? h)
theorem chS_c {i : Nat} (hi : i < 14) (a : Int32) : ((chS i a &&& 255).toUInt32 % 65536).toInt32 = chS i a := by_all i hi _ (chS_mem i a)
theorem by_n : ∀ k, k < 14 → ∀ b ∈ (0 : Int32) :: byS k, (b.toUInt32 % 65536).toInt32 = b := by decide +kernel
theorem chS_n {i : Nat} (hi : i < 14) (a : Int32) : narrow .char (.int (chS i a)) = .int (chS i a) := congrArg Value.int (by_n i hi _ (chS_mem i a))

theorem run_coder {l : Launch} {D : va_G} {cT : Nat → ClassId} {i : Nat} (hi : i < 14) : Runs l D cT yJ0_coder_7d493 cJ0_coder_7d493 1 (some .byte) 0 0 [.ref (1000 + i)] [] (EQ (some (.int 0)) []) := by
  refine runs_of O_J0 okO_J0 (by decide +kernel) rfl rfl (Nat.le_of_ble_eq_true rfl) (Nat.le_of_ble_eq_true rfl) (fun g K => ?_)
  have M := K.b
  show g 0 0 [] 0 [some (.ref (1000 + i))] []
  refine m_gstC M fl_cmp (by decide +kernel) ?_
  refine m_jF M (i := .ifCond .eq 10) 13 (by decide +kernel) rfl (by decide) (by decide) ?_
  refine m_run M (is := [(6, .aload_n 0, 0)]) (pc' := 7) (L' := [some (.ref (1000 + i))]) (st' := [.ref (1000 + i)]) (w' := []) (by decide +kernel) rfl trivial ?_
  refine m_scod M hi fl_cod (by decide +kernel) ?_
  refine m_run M (is := [(10, .goto 4, 0)]) (pc' := 14) (L' := [some (.ref (1000 + i))]) (st' := [.int 0]) (w' := []) (by decide +kernel) rfl trivial ?_
  exact m_nret K rfl (by decide +kernel) (Nat.zero_le _) (Nat.zero_le _) ⟨rfl, rfl⟩
theorem run_isLatin1 {l : Launch} {D : va_G} {cT : Nat → ClassId} {i : Nat} (hi : i < 14) : Runs l D cT yJ0_isLatin1_aae02 cJ0_isLatin1_aae02 1 (some .boolean) 0 0 [.ref (1000 + i)] [] (EQ (some (.int 1)) []) := by
  refine runs_of O_J0 okO_J0 (by decide +kernel) rfl rfl (Nat.le_of_ble_eq_true rfl) (Nat.le_of_ble_eq_true rfl) (fun g K => ?_)
  have M := K.b
  show g 0 0 [] 0 [some (.ref (1000 + i))] []
  refine m_gstC M fl_cmp (by decide +kernel) ?_
  refine m_jF M (i := .ifCond .eq 14) 17 (by decide +kernel) rfl (by decide) (by decide) ?_
  refine m_run M (is := [(6, .aload_n 0, 0)]) (pc' := 7) (L' := [some (.ref (1000 + i))]) (st' := [.ref (1000 + i)]) (w' := []) (by decide +kernel) rfl trivial ?_
  refine m_scod M hi fl_cod (by decide +kernel) ?_
  refine m_jF M (i := .ifCond .ne 7) 17 (by decide +kernel) rfl (by decide) (by decide) ?_
  refine m_run M (is := [(13, .iconst 1, 1), (14, .goto 4, 0)]) (pc' := 18) (L' := [some (.ref (1000 + i))]) (st' := [.int 1]) (w' := []) (by decide +kernel) rfl trivial ?_
  exact m_zret K (by decide +kernel) (Or.inr rfl) (Nat.zero_le _) (Nat.zero_le _) ⟨rfl, rfl⟩
theorem run_length {l : Launch} {D : va_G} {cT : Nat → ClassId} {i : Nat} (hi : i < 14) : Runs l D cT yJ0_length_8abf5 cJ0_length_8abf5 1 (some .int) 1 20 [.ref (1000 + i)] [] (EQ (some (.int (Int32.ofNat (lnS i)))) []) := by
  refine runs_of O_J0 okO_J0 (by decide +kernel) rfl rfl (Nat.le_of_ble_eq_true rfl) (Nat.le_of_ble_eq_true rfl) (fun g K => ?_)
  have M := K.b
  show g 0 0 [] 0 [some (.ref (1000 + i))] []
  refine m_run M (is := [(0, .aload_n 0, 0)]) (pc' := 1) (L' := [some (.ref (1000 + i))]) (st' := [.ref (1000 + i)]) (w' := []) (by decide +kernel) rfl trivial ?_
  refine m_sval M hi fl_val (by decide +kernel) ?_
  refine m_sarl M hi (by decide +kernel) ?_
  refine m_run M (is := [(5, .aload_n 0, 0)]) (pc' := 6) (L' := [some (.ref (1000 + i))]) (st' := [.ref (1000 + i), .int (Int32.ofNat (lnS i))]) (w' := []) (by decide +kernel) rfl trivial ?_
  refine m_cW (xs := []) (rest := [.int (Int32.ofNat (lnS i))]) M (run_coder hi) hi cw_coder wl_coder (by decide +kernel) (Nat.zero_le _) (Nat.le_of_ble_eq_true rfl) ⟨by decide, by decide⟩ ⟨Nat.zero_le _, Nat.zero_le _⟩ rfl ?_
  refine m_run M (is := [(9, .ishr, 0)]) (pc' := 10) (L' := [some (.ref (1000 + i))]) (st' := [.int (Int32.ofNat (lnS i))]) (w' := []) (by decide +kernel) (by rcases lt14 hi with rfl | rfl | rfl | rfl | rfl | rfl | rfl | rfl | rfl | rfl | rfl | rfl | rfl | rfl <;> rfl) trivial ?_
  exact m_iret K (by decide +kernel) (Nat.zero_le _) (Nat.zero_le _) ⟨rfl, rfl⟩
theorem run_pck {l : Launch} {D : va_G} {cT : Nat → ClassId} {a b : Int32} (h0 : ¬ a < 0) (h1 : a < b) : Runs l D cT yJ3_checkIndex_8e157 cJ3_checkIndex_8e157 3 (some .int) 0 0 [.int a, .int b, .ref 1300] [] (EQ (some (.int a)) []) := by
  refine runs_of O_J3 okO_J3 (by decide +kernel) rfl rfl (Nat.le_of_ble_eq_true rfl) (Nat.le_of_ble_eq_true rfl) (fun g K => ?_)
  have M := K.b
  show g 0 0 [] 0 [some (.int a), some (.int b), some (.ref 1300)] []
  refine m_run M (is := [(0, .iload_n 0, 0)]) (pc' := 1) (L' := [some (.int a), some (.int b), some (.ref 1300)]) (st' := [.int a]) (w' := []) (by decide +kernel) rfl trivial ?_
  refine m_jF M (i := .ifCond .lt 8) 9 (by decide +kernel) rfl (by decide) h0 ?_
  refine m_run M (is := [(4, .iload_n 0, 0), (5, .iload_n 1, 0)]) (pc' := 6) (L' := [some (.int a), some (.int b), some (.ref 1300)]) (st' := [.int b, .int a]) (w' := []) (by decide +kernel) rfl trivial ?_
  refine m_jT M (i := .if_icmp .lt 10) 16 (by decide +kernel) rfl (by decide) h1 ?_
  refine m_run M (is := [(16, .iload_n 0, 0)]) (pc' := 17) (L' := [some (.int a), some (.int b), some (.ref 1300)]) (st' := [.int a]) (w' := []) (by decide +kernel) rfl trivial ?_
  exact m_iret K (by decide +kernel) (Nat.zero_le _) (Nat.zero_le _) ⟨rfl, rfl⟩
theorem run_pckN {l : Launch} {D : va_G} {cT : Nat → ClassId} {a b : Int32} (h0 : ¬ a < 0) (h1 : a < b) : Runs l D cT yJ3_checkIndex_8e157 cJ3_checkIndex_8e157 3 (some .int) 0 0 [.int a, .int b, .null] [] (EQ (some (.int a)) []) := by
  refine runs_of O_J3 okO_J3 (by decide +kernel) rfl rfl (Nat.le_of_ble_eq_true rfl) (Nat.le_of_ble_eq_true rfl) (fun g K => ?_)
  have M := K.b
  show g 0 0 [] 0 [some (.int a), some (.int b), some (.null)] []
  refine m_run M (is := [(0, .iload_n 0, 0)]) (pc' := 1) (L' := [some (.int a), some (.int b), some (.null)]) (st' := [.int a]) (w' := []) (by decide +kernel) rfl trivial ?_
  refine m_jF M (i := .ifCond .lt 8) 9 (by decide +kernel) rfl (by decide) h0 ?_
  refine m_run M (is := [(4, .iload_n 0, 0), (5, .iload_n 1, 0)]) (pc' := 6) (L' := [some (.int a), some (.int b), some (.null)]) (st' := [.int b, .int a]) (w' := []) (by decide +kernel) rfl trivial ?_
  refine m_jT M (i := .if_icmp .lt 10) 16 (by decide +kernel) rfl (by decide) h1 ?_
  refine m_run M (is := [(16, .iload_n 0, 0)]) (pc' := 17) (L' := [some (.int a), some (.int b), some (.null)]) (st' := [.int a]) (w' := []) (by decide +kernel) rfl trivial ?_
  exact m_iret K (by decide +kernel) (Nat.zero_le _) (Nat.zero_le _) ⟨rfl, rfl⟩
theorem run_sck {l : Launch} {D : va_G} {cT : Nat → ClassId} {a b : Int32} (h0 : ¬ a < 0) (h1 : a < b) : Runs l D cT yJ0_checkIndex_df160 cJ0_checkIndex_df160 2 none 1 22 [.int a, .int b] [] (EQ none []) := by
  refine runs_of O_J0 okO_J0 (by decide +kernel) rfl rfl (Nat.le_of_ble_eq_true rfl) (Nat.le_of_ble_eq_true rfl) (fun g K => ?_)
  have M := K.b
  show g 0 0 [] 0 [some (.int a), some (.int b)] []
  refine m_run M (is := [(0, .iload_n 0, 0), (1, .iload_n 1, 0)]) (pc' := 2) (L' := [some (.int a), some (.int b)]) (st' := [.int b, .int a]) (w' := []) (by decide +kernel) rfl trivial ?_
  refine m_gstF M fl_fmt (by decide +kernel) ?_ ?_
  · refine m_cS0 M (rest := []) (w2 := []) (st2 := [.int a]) (run_pck h0 h1) cs_pc (Or.inl wl_pc) (by decide +kernel) [] List.nodup_nil ⟨Nat.le_refl _, Nat.zero_le _⟩ rfl rfl (Nat.le_of_ble_eq_true rfl) ⟨by decide, by decide⟩ rfl rfl ⟨Nat.zero_le _, Nat.zero_le _⟩ rfl rfl ?_
    refine m_run M (is := [(8, .pop, 0)]) (pc' := 9) (L' := [some (.int a), some (.int b)]) (st' := []) (w' := []) (by decide +kernel) rfl trivial ?_
    exact m_vret K (by decide +kernel) (Nat.zero_le _) (Nat.zero_le _) ⟨rfl, rfl⟩
  · refine m_cS0 M (rest := []) (w2 := []) (st2 := [.int a]) (run_pckN h0 h1) cs_pc (Or.inl wl_pc) (by decide +kernel) [] List.nodup_nil ⟨Nat.le_refl _, Nat.zero_le _⟩ rfl rfl (Nat.le_of_ble_eq_true rfl) ⟨by decide, by decide⟩ rfl rfl ⟨Nat.zero_le _, Nat.zero_le _⟩ rfl rfl ?_
    refine m_run M (is := [(8, .pop, 0)]) (pc' := 9) (L' := [some (.int a), some (.int b)]) (st' := []) (w' := []) (by decide +kernel) rfl trivial ?_
    exact m_vret K (by decide +kernel) (Nat.zero_le _) (Nat.zero_le _) ⟨rfl, rfl⟩
theorem run_l1 {l : Launch} {D : va_G} {cT : Nat → ClassId} {i : Nat} (hi : i < 14) {a : Int32} (h0 : ¬ a < 0) (h1 : a < Int32.ofNat (lnS i)) (h2 : vp_in a (lnS i)) : Runs l D cT yJ1_charAt_3b067 cJ1_charAt_3b067 2 (some .char) 2 43 [.ref (1100 + i), .int a] [] (EQ (some (.int (chS i a))) []) := by
  refine runs_of O_J1 okO_J1 (by decide +kernel) rfl rfl (Nat.le_of_ble_eq_true rfl) (Nat.le_of_ble_eq_true rfl) (fun g K => ?_)
  have M := K.b
  show g 0 0 [] 0 [some (.ref (1100 + i)), some (.int a)] []
  refine m_run M (is := [(0, .iload_n 1, 0), (1, .aload_n 0, 0)]) (pc' := 2) (L' := [some (.ref (1100 + i)), some (.int a)]) (st' := [.ref (1100 + i), .int a]) (w' := []) (by decide +kernel) rfl trivial ?_
  refine m_sarl M hi (by decide +kernel) ?_
  refine m_cS0 M (rest := []) (w2 := []) (st2 := []) (run_sck h0 h1) cs_checkIndex (Or.inl wl_ck) (by decide +kernel) [] List.nodup_nil ⟨Nat.le_refl _, Nat.zero_le _⟩ rfl rfl (Nat.le_of_ble_eq_true rfl) ⟨by decide, by decide⟩ rfl rfl ⟨Nat.zero_le _, Nat.zero_le _⟩ rfl rfl ?_
  refine m_run M (is := [(6, .aload_n 0, 0), (7, .iload_n 1, 0)]) (pc' := 8) (L' := [some (.ref (1100 + i)), some (.int a)]) (st' := [.int a, .ref (1100 + i)]) (w' := []) (by decide +kernel) rfl trivial ?_
  refine m_sbal M hi h2 (by decide +kernel) ?_
  refine m_run M (is := [(9, .sipush 255, 255), (12, .iand, 0)]) (pc' := 13) (L' := [some (.ref (1100 + i)), some (.int a)]) (st' := [.int (chS i a &&& 255)]) (w' := []) (by decide +kernel) rfl trivial ?_
  refine m_i2c M (by decide +kernel) (chS_c hi a) ?_
  exact m_nret K (chS_n hi a) (by decide +kernel) (Nat.zero_le _) (Nat.zero_le _) ⟨rfl, rfl⟩
theorem run_charAt {l : Launch} {D : va_G} {cT : Nat → ClassId} {i : Nat} (hi : i < 14) {a : Int32} (h0 : ¬ a < 0) (h1 : a < Int32.ofNat (lnS i)) (h2 : vp_in a (lnS i)) : Runs l D cT yJ0_charAt_5068e cJ0_charAt_5068e 2 (some .char) 3 64 [.ref (1000 + i), .int a] [] (EQ (some (.int (chS i a))) []) := by
  refine runs_of O_J0 okO_J0 (by decide +kernel) rfl rfl (Nat.le_of_ble_eq_true rfl) (Nat.le_of_ble_eq_true rfl) (fun g K => ?_)
  have M := K.b
  show g 0 0 [] 0 [some (.ref (1000 + i)), some (.int a)] []
  refine m_run M (is := [(0, .aload_n 0, 0)]) (pc' := 1) (L' := [some (.ref (1000 + i)), some (.int a)]) (st' := [.ref (1000 + i)]) (w' := []) (by decide +kernel) rfl trivial ?_
  refine m_cW (xs := []) (rest := []) M (run_isLatin1 hi) hi cw_isLatin1 wl_latin (by decide +kernel) (Nat.zero_le _) (Nat.le_of_ble_eq_true rfl) ⟨by decide, by decide⟩ ⟨Nat.zero_le _, Nat.zero_le _⟩ rfl ?_
  refine m_jF M (i := .ifCond .eq 12) 16 (by decide +kernel) rfl (by decide) (by decide) ?_
  refine m_run M (is := [(7, .aload_n 0, 0)]) (pc' := 8) (L' := [some (.ref (1000 + i)), some (.int a)]) (st' := [.ref (1000 + i)]) (w' := []) (by decide +kernel) rfl trivial ?_
  refine m_sval M hi fl_val (by decide +kernel) ?_
  refine m_run M (is := [(11, .iload_n 1, 0)]) (pc' := 12) (L' := [some (.ref (1000 + i)), some (.int a)]) (st' := [.int a, .ref (1100 + i)]) (w' := []) (by decide +kernel) rfl trivial ?_
  refine m_cS0 M (rest := []) (w2 := []) (st2 := [.int (chS i a)]) (run_l1 hi h0 h1 h2) cs_l1 (Or.inl wl_l1) (by decide +kernel) [] List.nodup_nil ⟨Nat.le_refl _, Nat.zero_le _⟩ rfl (by show _ = [Value.int a, .ref (rn [] 0 (1100 + i))]; rw [rn0]) (Nat.le_of_ble_eq_true rfl) ⟨by decide, by decide⟩ rfl rfl ⟨Nat.zero_le _, Nat.zero_le _⟩ rfl rfl ?_
  exact m_nret K (chS_n hi a) (by decide +kernel) (Nat.zero_le _) (Nat.zero_le _) ⟨rfl, rfl⟩
/-! a call on an object of any name -/
theorem rcv_k {D : va_G} {cT : Nat → ClassId} {s : State} {q : Nat → Nat} {w wc : Wd} {H : Heap} {ρ : List Nat} {ci k0 : Nat} {fs : List Value} (hci : ci < 5) (hle : wc.length ≤ ρ.length) (hw : (ρ.take wc.length).map (fun k => w[k]?) = wc.map (fun x => some (rS ρ w.length x))) (h0 : wc[k0]? = some (.inr (.inr (ci, fs)))) (hP : RP D cT q w H) (hK : KK D cT s) : ∃ cellB : Cell, H[q (rn ρ w.length k0)]? = some cellB ∧ cellB.vm.isStatics = false ∧ s.vm.findClass (clR ci) = some cellB.cls := by
  have hl : k0 < wc.length := (List.getElem?_eq_some_iff.mp h0).1
  have hk : ρ[k0]? = some ρ[k0] := List.getElem?_eq_getElem (by omega)
  have h9 := congrArg (fun z => z[k0]?) hw
  simp only [List.getElem?_map, List.getElem?_take, if_pos hl, hk, h0, Option.map_some, Option.some.injEq] at h9
  have hr : rn ρ w.length k0 = ρ[k0] := by unfold rn; rw [List.getD_eq_getElem?_getD, hk]; rfl
  have h2 := hP ρ[k0] _ (wA_iff.mpr h9)
  rw [hr]
  exact va_recv (ws := [(q ρ[k0], tE cT q (rE ρ w.length (.inr (ci, fs))))]) (q0 := 0) hK.1 (fun k x hx => by
    have hz : k < 1 := (List.getElem?_eq_some_iff.mp hx).1
    rw [show k = 0 by omega] at hx
    cases hx
    exact h2) (cl_get hci) rfl
section MCK
variable {l : Launch} {D : va_G} {cT : Nat → ClassId} {O : Own} {code : ByteArray} {nL fr lo Rc Rs : Nat} {g : GT} {bc bs : Nat}
variable {y : MethodName} {ycode : ByteArray} {ynL yfr ylo : Nat} {yret : Option FieldType} {As : List Value} {wc : Wd} {E : Option Value → Wd → Prop}
variable {pc ix : Nat} {L : List (Option Value)} {rest st : List Value} {w : Wd}
theorem m_cVk {k0 : Nat} (M : MB l D cT O code nL fr lo Rc Rs g) (K : Runs l D cT y ycode ynL yret yfr ylo (.ref k0 :: As) wc E) {ci : Nat} {fs : List Value} (hy : CV y ycode ynL yret As.length ci) (hl : Cond.methodLink O.1 ix y ∈ gw ∨ Cond.methodLinkNest O.1 ix y "BackByTwice" ∈ nw) (hd : decode code pc = .ok (.invokevirtual ix, 3))
    (ρ : List Nat) (hnd : ρ.Nodup) (hle : wc.length ≤ ρ.length ∧ ρ.length ≤ 1000) (hw : (ρ.take wc.length).map (fun k => w[k]?) = wc.map (fun x => some (rS ρ w.length x))) (hst : st = ((.ref k0 :: As).map (rV ρ w.length)).reverse ++ rest) (h0 : wc[k0]? = some (.inr (.inr (ci, fs)))) (hcat : (rest.map fun v => v.category).sum ≤ 8) (hroom : yfr + 1 ≤ fr ∧ 8 + (ynL + 11) + ylo ≤ lo) (hbud : bc + potC wc ≤ Rc ∧ bs + potS wc ≤ Rs)
    (hR : potC wc = 0 ∨ (NRW w ∧ rfB w L rest = true))
    (kk : ∀ (r : Option Value) (wc' : Wd), E r wc' → wc'.length = wc.length → g (bc + potC wc) (bs + potS wc) (putL (ρ.take wc.length) (wc'.map (rS ρ w.length)) w) (pc + 3) L ((r.map (rV ρ w.length)).toList ++ rest)) : g bc bs w pc L st := by
  obtain ⟨p, e, R, s, m, args, below, meth, c, q0, w0, sz, Q, X, hO, h3, h4, h5, h6, hxs, rfl⟩ := M
  obtain ⟨hx, hb, hml, hown, hts, hK, hlk, hsz⟩ := id X
  obtain ⟨hyc, hci, hyk, y1, y2, y3, y4⟩ := hy
  refine gg_call X K ρ hnd hle hxs hw hst ?_ hR kk
  intro q H locs cells slots ls hP hL hc hs hZc hvs hPc
  have hrv := rcv_k hci hle.1 hw h0 hP hK
  have hS : CallFix p m c code nL s args gw O.1 := ⟨hx, hb, hml, hown, hts⟩
  have hp : PreV s H (clR ci) (q (rn ρ w.length k0)) (va_Pc ((Value.ref k0 :: As).map (tV (fun i => q (rn ρ w.length i)))) (PcB D cT (fun i => q (rn ρ w.length i)) wc H.size)) (As.map (tV (fun i => q (rn ρ w.length i)))) := ⟨blindP, hrv, hPc⟩
  have e1 : st.map (tV q) = (As.map (tV (fun i => q (rn ρ w.length i)))).reverse ++ .ref (q (rn ρ w.length k0)) :: rest.map (tV q) := by
    rw [stk_eq hst]
    simp [tV]
  rw [e1]
  rcases hl with hl | hl
  · have cw := cwV (R := R) (own := O.1) (index := ix) (C := clR ci) (rm := { frames := yfr, cells := potC wc, slots := potS wc, locals := ylo }) (mc := potC wc) (ms := potS wc) As.length hts (gwG (ws := wsV O.1 ix (clR ci) y (wsG y ycode ynL yret)) (fun w hw => by
      rcases List.mem_append.mp hw with h | h
      · simp only [List.mem_cons, List.not_mem_nil, or_false] at h
        rcases h with rfl | rfl | rfl | rfl <;> assumption
      · exact wsG_gw y4 w h)) rfl rfl rfl ⟨hyc, okY_use hyk⟩ (by rw [h3, h4]; exact hroom)
    exact va_runV hS (K _ _ hZc) cw hp rfl (by rw [List.length_map]) hL.1.1 rfl (lv_room (by rw [cats]; exact hcat)) hd (by rw [h5, h6]; exact ⟨by omega, by omega⟩)
  · have cw := va_cnB (R := R) (own := O.1) (host := "BackByTwice") (index := ix) (ws := wsG y ycode ynL yret) (rm := { frames := yfr, cells := potC wc, slots := potS wc, locals := ylo }) (mc := potC wc) (ms := potS wc) As.length hts (gwG (wsG_gw y4)) rfl rfl rfl (hK.2.1 _ hl) (by rw [hyc]; exact hts _ y3) (okY_use hyk) (by rw [h3, h4]; exact hroom)
    exact va_runVN hS (K _ _ hZc) ⟨cw, hts _ y1, hts _ y2⟩ hp rfl (by rw [List.length_map]) hL.1.1 rfl (lv_room (by rw [cats]; exact hcat)) hd (by rw [h5, h6]; exact ⟨by omega, by omega⟩)
theorem m_cVk0 {k0 : Nat} {r : Option Value} {wc' w2 : Wd} {st2 : List Value} (M : MB l D cT O code nL fr lo Rc Rs g) (K : Runs l D cT y ycode ynL yret yfr ylo (.ref k0 :: As) wc (EQ r wc')) {ci : Nat} {fs : List Value} (hy : CV y ycode ynL yret As.length ci) (hl : Cond.methodLink O.1 ix y ∈ gw ∨ Cond.methodLinkNest O.1 ix y "BackByTwice" ∈ nw) (hd : decode code pc = .ok (.invokevirtual ix, 3))
    (ρ : List Nat) (hnd : ρ.Nodup) (hle : wc.length ≤ ρ.length ∧ ρ.length ≤ 1000) (hw : (ρ.take wc.length).map (fun k => w[k]?) = wc.map (fun x => some (rS ρ w.length x))) (hst : st = ((.ref k0 :: As).map (rV ρ w.length)).reverse ++ rest) (h0 : wc[k0]? = some (.inr (.inr (ci, fs)))) (hcat : (rest.map fun v => v.category).sum ≤ 8) (hroom : yfr + 1 ≤ fr ∧ 8 + (ynL + 11) + ylo ≤ lo) (hp0 : potC wc = 0) (hp1 : potS wc = 0) (hbud : bc ≤ Rc ∧ bs ≤ Rs)
    (hw2 : putL (ρ.take wc.length) (wc'.map (rS ρ w.length)) w = w2) (hst2 : (r.map (rV ρ w.length)).toList ++ rest = st2) (kk : g bc bs w2 (pc + 3) L st2) : g bc bs w pc L st :=
  m_cVk M K hy hl hd ρ hnd hle hw hst h0 hcat hroom (by rw [hp0, hp1]; exact hbud) (Or.inl hp0) (fun a b hab _ => by obtain ⟨rfl, rfl⟩ := hab; rw [hp0, hp1, hw2, hst2]; exact kk)
end MCK

