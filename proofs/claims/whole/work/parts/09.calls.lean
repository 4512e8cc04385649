/-! ===== calls of the five kinds ===== -/
def EQ (r : Option Value) (w : Wd) : Option Value → Wd → Prop := fun a b => a = r ∧ b = w
def okY (y : MethodName) (n : Nat) : Bool := decide (y.cls ≠ "java/lang/invoke/MethodHandle") && (decide (y.cls ≠ "java/lang/invoke/VarHandle") && decide ((parseMethodDescriptor y.desc).map (fun d => d.parameters.length) = some n))
theorem okY_use {y : MethodName} {n : Nat} (h : okY y n = true) : y.cls ≠ "java/lang/invoke/MethodHandle" ∧ y.cls ≠ "java/lang/invoke/VarHandle" ∧ (parseMethodDescriptor y.desc).map (fun d => d.parameters.length) = some n := by
  simp only [okY, Bool.and_eq_true, decide_eq_true_eq] at h
  exact h
/-- what the tables say of an instance method that is called -/
def CV (y : MethodName) (code : ByteArray) (nL : Nat) (ret : Option FieldType) (n ci : Nat) : Prop := y.cls = clR ci ∧ ci < 5 ∧ okY y n = true ∧ Cond.instanceMethod y ∈ gw ∧ Cond.selects (clR ci) y y ∈ gw ∧ Cond.initialized (clR ci) ∈ gw ∧ Cond.code y code nL ret ∈ gw
def CS (y : MethodName) (code : ByteArray) (nL : Nat) (ret : Option FieldType) (n : Nat) : Prop := okY y n = true ∧ Cond.static y ∈ gw ∧ Cond.initialized y.cls ∈ gw ∧ Cond.code y code nL ret ∈ gw
def CI (y : MethodName) (code : ByteArray) (nL : Nat) (n : Nat) : Prop := y.name = "<init>" ∧ okY y n = true ∧ Cond.instanceMethod y ∈ gw ∧ Cond.initialized y.cls ∈ gw ∧ Cond.code y code nL none ∈ gw
theorem lw_t {w : Cond} (h : w ∈ tables_1) : w ∈ lw_tbl := List.mem_append_right _ h
theorem t_1 {w : Cond} (i : Nat) (h : tables_1_1[i]? = some w) : w ∈ lw_tbl := lw_t (List.mem_append_left _ (List.mem_of_getElem? h))
theorem t_2 {w : Cond} (i : Nat) (h : tables_1_2[i]? = some w) : w ∈ lw_tbl := lw_t (List.mem_append_right _ (List.mem_append_left _ (List.mem_of_getElem? h)))
theorem t_3 {w : Cond} (i : Nat) (h : tables_1_3[i]? = some w) : w ∈ lw_tbl := lw_t (List.mem_append_right _ (List.mem_append_right _ (List.mem_append_left _ (List.mem_of_getElem? h))))
theorem t_4 {w : Cond} (i : Nat) (h : tables_1_4[i]? = some w) : w ∈ lw_tbl := lw_t (List.mem_append_right _ (List.mem_append_right _ (List.mem_append_right _ (List.mem_append_left _ (List.mem_of_getElem? h)))))
theorem t_5 {w : Cond} (i : Nat) (h : tables_1_5[i]? = some w) : w ∈ lw_tbl := lw_t (List.mem_append_right _ (List.mem_append_right _ (List.mem_append_right _ (List.mem_append_right _ (List.mem_append_left _ (List.mem_of_getElem? h))))))
theorem t_6 {w : Cond} (i : Nat) (h : tables_1_6[i]? = some w) : w ∈ lw_tbl := lw_t (List.mem_append_right _ (List.mem_append_right _ (List.mem_append_right _ (List.mem_append_right _ (List.mem_append_right _ (List.mem_of_getElem? h))))))
theorem t_s {q : MethodName × Nat} (h : q ∈ lw_privs) : Cond.selects q.1.cls q.1 q.1 ∈ lw_tbl := List.mem_append_left _ (List.mem_map.mpr ⟨q, h, rfl⟩)
theorem s_1 {q : MethodName × Nat} (i : Nat) (h : lw_privs_1[i]? = some q) : Cond.selects q.1.cls q.1 q.1 ∈ lw_tbl := t_s (List.mem_append_left _ (List.mem_of_getElem? h))
theorem s_2 {q : MethodName × Nat} (i : Nat) (h : lw_privs_2[i]? = some q) : Cond.selects q.1.cls q.1 q.1 ∈ lw_tbl := t_s (List.mem_append_right _ (List.mem_append_left _ (List.mem_of_getElem? h)))
theorem s_3 {q : MethodName × Nat} (i : Nat) (h : lw_privs_3[i]? = some q) : Cond.selects q.1.cls q.1 q.1 ∈ lw_tbl := t_s (List.mem_append_right _ (List.mem_append_right _ (List.mem_append_left _ (List.mem_of_getElem? h))))
theorem s_4 {q : MethodName × Nat} (i : Nat) (h : lw_privs_4[i]? = some q) : Cond.selects q.1.cls q.1 q.1 ∈ lw_tbl := t_s (List.mem_append_right _ (List.mem_append_right _ (List.mem_append_right _ (List.mem_append_left _ (List.mem_of_getElem? h)))))
theorem s_5 {q : MethodName × Nat} (i : Nat) (h : lw_privs_5[i]? = some q) : Cond.selects q.1.cls q.1 q.1 ∈ lw_tbl := t_s (List.mem_append_right _ (List.mem_append_right _ (List.mem_append_right _ (List.mem_append_right _ (List.mem_append_left _ (List.mem_of_getElem? h))))))
theorem s_6 {q : MethodName × Nat} (i : Nat) (h : lw_privs_6[i]? = some q) : Cond.selects q.1.cls q.1 q.1 ∈ lw_tbl := t_s (List.mem_append_right _ (List.mem_append_right _ (List.mem_append_right _ (List.mem_append_right _ (List.mem_append_right _ (List.mem_append_left _ (List.mem_of_getElem? h)))))))
theorem s_7 {q : MethodName × Nat} (i : Nat) (h : lw_privs_7[i]? = some q) : Cond.selects q.1.cls q.1 q.1 ∈ lw_tbl := t_s (List.mem_append_right _ (List.mem_append_right _ (List.mem_append_right _ (List.mem_append_right _ (List.mem_append_right _ (List.mem_append_right _ (List.mem_of_getElem? h)))))))
theorem mI {w : Cond} (h : w ∈ lw_tbl) (hg : goodWord w = true) : w ∈ gw := List.mem_filter.mpr ⟨h, hg⟩
theorem mN {w : Cond} (h : w ∈ lw_tbl) (hg : nw_is w = true) : w ∈ nw := List.mem_filter.mpr ⟨h, hg⟩
theorem gwG {ws : List Cond} (h : ∀ w ∈ ws, w ∈ gw) : GoodIn gw ws := fun w hw => ⟨h w hw, good_of_word (List.mem_filter.mp (h w hw)).2⟩
theorem wsG_gw {y : MethodName} {code : ByteArray} {nL : Nat} {ret : Option FieldType} (h : Cond.code y code nL ret ∈ gw) : ∀ w ∈ wsG y code nL ret, w ∈ gw := by
  intro w hw
  rcases List.mem_cons.mp hw with rfl | hw
  · exact h
  · exact hw
/-- the callee's own object at name 0 -/
theorem rcv_of {D : va_G} {cT : Nat → ClassId} {s : State} {q : Nat → Nat} {w wc : Wd} {H : Heap} {ρ : List Nat} {ci : Nat} {fs : List Value} (hci : ci < 5) (hle : wc.length ≤ ρ.length) (hw : (ρ.take wc.length).map (fun k => w[k]?) = wc.map (fun x => some (rS ρ w.length x))) (h0 : wc[0]? = some (.inr (.inr (ci, fs)))) (hP : RP D cT q w H) (hK : KK D cT s) : ∃ cellB : Cell, H[q (rn ρ w.length 0)]? = some cellB ∧ cellB.vm.isStatics = false ∧ s.vm.findClass (clR ci) = some cellB.cls := by
  have hl : 0 < wc.length := (List.getElem?_eq_some_iff.mp h0).1
  have hk : ρ[0]? = some ρ[0] := List.getElem?_eq_getElem (by omega)
  have h9 := congrArg (fun z => z[0]?) hw
  simp only [List.getElem?_map, List.getElem?_take, if_pos hl, hk, h0, Option.map_some, Option.some.injEq] at h9
  have hr : rn ρ w.length 0 = ρ[0] := by unfold rn; rw [List.getD_eq_getElem?_getD, hk]; rfl
  have h2 := hP ρ[0] _ (wA_iff.mpr h9)
  rw [hr]
  exact va_recv (ws := [(q ρ[0], tE cT q (rE ρ w.length (.inr (ci, fs))))]) (q0 := 0) hK.1 (fun k x hx => by
    have hz : k < 1 := (List.getElem?_eq_some_iff.mp hx).1
    rw [show k = 0 by omega] at hx
    cases hx
    exact h2) (cl_get hci) rfl
theorem cats (q : Nat → Nat) (r : List Value) : ((r.map (tV q)).map fun v => v.category).sum = (r.map fun v => v.category).sum := by
  rw [List.map_map]
  congr 1
  apply List.map_congr_left
  intro v _
  exact tV_cat q v
theorem stk_eq {q : Nat → Nat} {ρ : List Nat} {B : Nat} {As rest st : List Value} (h : st = (As.map (rV ρ B)).reverse ++ rest) : st.map (tV q) = (As.map (tV (fun i => q (rn ρ B i)))).reverse ++ rest.map (tV q) := by
  rw [h, List.map_append, List.map_reverse, List.map_map]
  congr 2
  apply List.map_congr_left
  intro v _
  exact tV_tV q _ v
def rfB (w : Wd) (L : List (Option Value)) (rest : List Value) : Bool := (L.all (fun o => match o with | some (.ref j) => prs w j | _ => true) && rest.all (fun v => match v with | .ref j => prs w j | _ => true))
section MCL
variable {l : Launch} {D : va_G} {cT : Nat → ClassId} {O : Own} {code : ByteArray} {nL fr lo Rc Rs : Nat} {g : GT} {bc bs : Nat}
variable {y : MethodName} {ycode : ByteArray} {ynL yfr ylo : Nat} {yret : Option FieldType} {As : List Value} {wc : Wd} {E : Option Value → Wd → Prop}
variable {pc ix : Nat} {L : List (Option Value)} {rest st : List Value} {w : Wd}
theorem m_cV (M : MB l D cT O code nL fr lo Rc Rs g) (K : Runs l D cT y ycode ynL yret yfr ylo (.ref 0 :: As) wc E) {ci : Nat} {fs : List Value} (hy : CV y ycode ynL yret As.length ci) (hl : Cond.methodLink O.1 ix y ∈ gw ∨ Cond.methodLinkNest O.1 ix y "BackByTwice" ∈ nw) (hd : decode code pc = .ok (.invokevirtual ix, 3))
    (ρ : List Nat) (hnd : ρ.Nodup) (hle : wc.length ≤ ρ.length ∧ ρ.length ≤ 1000) (hw : (ρ.take wc.length).map (fun k => w[k]?) = wc.map (fun x => some (rS ρ w.length x))) (hst : st = ((.ref 0 :: As).map (rV ρ w.length)).reverse ++ rest) (h0 : wc[0]? = some (.inr (.inr (ci, fs)))) (hcat : (rest.map fun v => v.category).sum ≤ 8) (hroom : yfr + 1 ≤ fr ∧ 8 + (ynL + 11) + ylo ≤ lo) (hbud : bc + potC wc ≤ Rc ∧ bs + potS wc ≤ Rs)
    (hR : potC wc = 0 ∨ (NRW w ∧ rfB w L rest = true))
    (kk : ∀ (r : Option Value) (wc' : Wd), E r wc' → wc'.length = wc.length → g (bc + potC wc) (bs + potS wc) (putL (ρ.take wc.length) (wc'.map (rS ρ w.length)) w) (pc + 3) L ((r.map (rV ρ w.length)).toList ++ rest)) : g bc bs w pc L st := by
  obtain ⟨p, e, R, s, m, args, below, meth, c, q0, w0, sz, Q, X, hO, h3, h4, h5, h6, hxs, rfl⟩ := M
  obtain ⟨hx, hb, hml, hown, hts, hK, hlk, hsz⟩ := id X
  obtain ⟨hyc, hci, hyk, y1, y2, y3, y4⟩ := hy
  refine gg_call X K ρ hnd hle hxs hw hst ?_ hR kk
  intro q H locs cells slots ls hP hL hc hs hZc hvs hPc
  have hrv := rcv_of hci hle.1 hw h0 hP hK
  have hS : CallFix p m c code nL s args gw O.1 := ⟨hx, hb, hml, hown, hts⟩
  have hp : PreV s H (clR ci) (q (rn ρ w.length 0)) (va_Pc ((Value.ref 0 :: As).map (tV (fun i => q (rn ρ w.length i)))) (PcB D cT (fun i => q (rn ρ w.length i)) wc H.size)) (As.map (tV (fun i => q (rn ρ w.length i)))) := ⟨blindP, hrv, hPc⟩
  have e1 : st.map (tV q) = (As.map (tV (fun i => q (rn ρ w.length i)))).reverse ++ .ref (q (rn ρ w.length 0)) :: rest.map (tV q) := by
    rw [stk_eq hst]
    simp [tV]
  rw [e1]
  rcases hl with hl | hl
  · have cw := cwV (R := R) (own := O.1) (index := ix) (C := clR ci) (rm := { frames := yfr, cells := potC wc, slots := potS wc, locals := ylo }) (mc := potC wc) (ms := potS wc) As.length hts (gwG (ws := wsV O.1 ix (clR ci) y (wsG y ycode ynL yret)) (fun w hw => by
      rcases List.mem_append.mp hw with h | h
      · simp only [List.mem_cons, List.not_mem_nil, or_false] at h
        rcases h with rfl | rfl | rfl | rfl <;> assumption
      · exact wsG_gw y4 w h)) rfl rfl rfl ⟨hyc, okY_use hyk⟩ (by rw [h3, h4]; exact hroom)
    exact va_runV hS (K _ _ hZc) cw hp rfl (by rw [List.length_map]) hL.1.1 rfl (lv_room (by rw [cats]; exact hcat)) hd (by rw [h5, h6]; exact ⟨by omega, by omega⟩)
  · have cw := va_cnB (R := R) (own := O.1) (host := "BackByTwice") (index := ix) (ws := wsG y ycode ynL yret) (rm := { frames := yfr, cells := potC wc, slots := potS wc, locals := ylo }) (mc := potC wc) (ms := potS wc) As.length hts (gwG (wsG_gw y4)) rfl rfl rfl (hK.2.1 _ hl) (by rw [hyc]; exact hts _ y3) (okY_use hyk) (by rw [h3, h4]; exact hroom)
    exact va_runVN hS (K _ _ hZc) ⟨cw, hts _ y1, hts _ y2⟩ hp rfl (by rw [List.length_map]) hL.1.1 rfl (lv_room (by rw [cats]; exact hcat)) hd (by rw [h5, h6]; exact ⟨by omega, by omega⟩)
theorem m_cS (M : MB l D cT O code nL fr lo Rc Rs g) (K : Runs l D cT y ycode ynL yret yfr ylo As wc E) (hy : CS y ycode ynL yret As.length) (hl : Cond.methodLink O.1 ix y ∈ gw ∨ Cond.methodLinkNest O.1 ix y "BackByTwice" ∈ nw) (hd : decode code pc = .ok (.invokestatic ix, 3))
    (ρ : List Nat) (hnd : ρ.Nodup) (hle : wc.length ≤ ρ.length ∧ ρ.length ≤ 1000) (hw : (ρ.take wc.length).map (fun k => w[k]?) = wc.map (fun x => some (rS ρ w.length x))) (hst : st = (As.map (rV ρ w.length)).reverse ++ rest) (hcat : (rest.map fun v => v.category).sum ≤ 8) (hroom : yfr + 1 ≤ fr ∧ 8 + (ynL + 11) + ylo ≤ lo) (hbud : bc + potC wc ≤ Rc ∧ bs + potS wc ≤ Rs)
    (hR : potC wc = 0 ∨ (NRW w ∧ rfB w L rest = true))
    (kk : ∀ (r : Option Value) (wc' : Wd), E r wc' → wc'.length = wc.length → g (bc + potC wc) (bs + potS wc) (putL (ρ.take wc.length) (wc'.map (rS ρ w.length)) w) (pc + 3) L ((r.map (rV ρ w.length)).toList ++ rest)) : g bc bs w pc L st := by
  obtain ⟨p, e, R, s, m, args, below, meth, c, q0, w0, sz, Q, X, hO, h3, h4, h5, h6, hxs, rfl⟩ := M
  obtain ⟨hx, hb, hml, hown, hts, hK, hlk, hsz⟩ := id X
  obtain ⟨hyk, y2, y3, y4⟩ := hy
  refine gg_call X K ρ hnd hle hxs hw hst ?_ hR kk
  intro q H locs cells slots ls hP hL hc hs hZc hvs hPc
  have hS : CallFix p m c code nL s args gw O.1 := ⟨hx, hb, hml, hown, hts⟩
  have hp : PreS s H (va_Pc (As.map (tV (fun i => q (rn ρ w.length i)))) (PcB D cT (fun i => q (rn ρ w.length i)) wc H.size)) (As.map (tV (fun i => q (rn ρ w.length i)))) := ⟨blindP, hPc⟩
  rw [stk_eq hst]
  rcases hl with hl | hl
  · have cw := va_cwS (R := R) (own := O.1) (index := ix) (rm := { frames := yfr, cells := potC wc, slots := potS wc, locals := ylo }) (mc := potC wc) (ms := potS wc) As.length hts (gwG (ws := va_wsS O.1 ix y (wsG y ycode ynL yret)) (fun w hw => by
      rcases List.mem_append.mp hw with h | h
      · simp only [List.mem_cons, List.not_mem_nil, or_false] at h
        rcases h with rfl | rfl | rfl <;> assumption
      · exact wsG_gw y4 w h)) rfl rfl rfl (okY_use hyk) (by rw [h3, h4]; exact hroom)
    exact va_runS hS (K _ _ hZc) cw hp rfl (by rw [List.length_map]) hL.1.1 rfl (lv_room (by rw [cats]; exact hcat)) hd (by rw [h5, h6]; exact ⟨by omega, by omega⟩)
  · have cw := va_cnB (R := R) (own := O.1) (host := "BackByTwice") (index := ix) (ws := wsG y ycode ynL yret) (rm := { frames := yfr, cells := potC wc, slots := potS wc, locals := ylo }) (mc := potC wc) (ms := potS wc) As.length hts (gwG (wsG_gw y4)) rfl rfl rfl (hK.2.1 _ hl) (hts _ y3) (okY_use hyk) (by rw [h3, h4]; exact hroom)
    exact va_runSN hS (K _ _ hZc) ⟨cw, hts _ y2, trivial⟩ hp rfl (by rw [List.length_map]) hL.1.1 rfl (lv_room (by rw [cats]; exact hcat)) hd (by rw [h5, h6]; exact ⟨by omega, by omega⟩)
theorem m_cI (M : MB l D cT O code nL fr lo Rc Rs g) (K : Runs l D cT y ycode ynL none yfr ylo (.ref 0 :: As) wc E) (hy : CI y ycode ynL As.length) (hl : Cond.methodLink O.1 ix y ∈ gw ∨ Cond.methodLinkNest O.1 ix y "BackByTwice" ∈ nw) (hd : decode code pc = .ok (.invokespecial ix, 3))
    (ρ : List Nat) (hnd : ρ.Nodup) (hle : wc.length ≤ ρ.length ∧ ρ.length ≤ 1000) (hw : (ρ.take wc.length).map (fun k => w[k]?) = wc.map (fun x => some (rS ρ w.length x))) (hst : st = ((.ref 0 :: As).map (rV ρ w.length)).reverse ++ rest) (hcat : (rest.map fun v => v.category).sum ≤ 8) (hroom : yfr + 1 ≤ fr ∧ 8 + (ynL + 11) + ylo ≤ lo) (hbud : bc + potC wc ≤ Rc ∧ bs + potS wc ≤ Rs)
    (hR : potC wc = 0 ∨ (NRW w ∧ rfB w L rest = true))
    (kk : ∀ (r : Option Value) (wc' : Wd), E r wc' → wc'.length = wc.length → g (bc + potC wc) (bs + potS wc) (putL (ρ.take wc.length) (wc'.map (rS ρ w.length)) w) (pc + 3) L ((r.map (rV ρ w.length)).toList ++ rest)) : g bc bs w pc L st := by
  obtain ⟨p, e, R, s, m, args, below, meth, c, q0, w0, sz, Q, X, hO, h3, h4, h5, h6, hxs, rfl⟩ := M
  obtain ⟨hx, hb, hml, hown, hts, hK, hlk, hsz⟩ := id X
  obtain ⟨hyn, hyk, y2, y3, y4⟩ := hy
  refine gg_call X K ρ hnd hle hxs hw hst ?_ hR kk
  intro q H locs cells slots ls hP hL hc hs hZc hvs hPc
  have hS : CallFix p m c code nL s args gw O.1 := ⟨hx, hb, hml, hown, hts⟩
  have hp : PreS s H (va_Pc ((Value.ref 0 :: As).map (tV (fun i => q (rn ρ w.length i)))) (PcB D cT (fun i => q (rn ρ w.length i)) wc H.size)) (.ref (q (rn ρ w.length 0)) :: As.map (tV (fun i => q (rn ρ w.length i)))) := ⟨blindP, hPc⟩
  have e1 : st.map (tV q) = (As.map (tV (fun i => q (rn ρ w.length i)))).reverse ++ .ref (q (rn ρ w.length 0)) :: rest.map (tV q) := by
    rw [stk_eq hst]
    simp [tV]
  rw [e1]
  rcases hl with hl | hl
  · have cw := cwI (R := R) (own := O.1) (index := ix) (ws := wsG y ycode ynL none) (rm := { frames := yfr, cells := potC wc, slots := potS wc, locals := ylo }) (mc := potC wc) (ms := potS wc) As.length hts (gwG (wsG_gw y4)) rfl rfl rfl (hts _ y3) (hts _ hl) (hts _ y2) hyn (okY_use hyk) (by rw [h3, h4]; exact hroom)
    exact va_runI hS (K _ _ hZc) cw hp rfl (by rw [List.length_map]) hL.1.1 rfl (lv_room (by rw [cats]; exact hcat)) hd (by rw [h5, h6]; exact ⟨by omega, by omega⟩)
  · have cw := va_cnB (R := R) (own := O.1) (host := "BackByTwice") (index := ix) (ws := wsG y ycode ynL none) (rm := { frames := yfr, cells := potC wc, slots := potS wc, locals := ylo }) (mc := potC wc) (ms := potS wc) As.length hts (gwG (wsG_gw y4)) rfl rfl rfl (hK.2.1 _ hl) (hts _ y3) (okY_use hyk) (by rw [h3, h4]; exact hroom)
    exact va_runIN hS (K _ _ hZc) ⟨cw, hyn, hts _ y2⟩ hp rfl (by rw [List.length_map]) hL.1.1 rfl (lv_room (by rw [cats]; exact hcat)) hd (by rw [h5, h6]; exact ⟨by omega, by omega⟩)
/-! .. where the answer is told and nothing is made -/
theorem m_cV0 {r : Option Value} {wc' w2 : Wd} {st2 : List Value} (M : MB l D cT O code nL fr lo Rc Rs g) (K : Runs l D cT y ycode ynL yret yfr ylo (.ref 0 :: As) wc (EQ r wc')) {ci : Nat} {fs : List Value} (hy : CV y ycode ynL yret As.length ci) (hl : Cond.methodLink O.1 ix y ∈ gw ∨ Cond.methodLinkNest O.1 ix y "BackByTwice" ∈ nw) (hd : decode code pc = .ok (.invokevirtual ix, 3))
    (ρ : List Nat) (hnd : ρ.Nodup) (hle : wc.length ≤ ρ.length ∧ ρ.length ≤ 1000) (hw : (ρ.take wc.length).map (fun k => w[k]?) = wc.map (fun x => some (rS ρ w.length x))) (hst : st = ((.ref 0 :: As).map (rV ρ w.length)).reverse ++ rest) (h0 : wc[0]? = some (.inr (.inr (ci, fs)))) (hcat : (rest.map fun v => v.category).sum ≤ 8) (hroom : yfr + 1 ≤ fr ∧ 8 + (ynL + 11) + ylo ≤ lo) (hp0 : potC wc = 0) (hp1 : potS wc = 0) (hbud : bc ≤ Rc ∧ bs ≤ Rs)
    (hw2 : putL (ρ.take wc.length) (wc'.map (rS ρ w.length)) w = w2) (hst2 : (r.map (rV ρ w.length)).toList ++ rest = st2) (kk : g bc bs w2 (pc + 3) L st2) : g bc bs w pc L st :=
  m_cV M K hy hl hd ρ hnd hle hw hst h0 hcat hroom (by rw [hp0, hp1]; exact hbud) (Or.inl hp0) (fun a b hab _ => by obtain ⟨rfl, rfl⟩ := hab; rw [hp0, hp1, hw2, hst2]; exact kk)
theorem m_cS0 {r : Option Value} {wc' w2 : Wd} {st2 : List Value} (M : MB l D cT O code nL fr lo Rc Rs g) (K : Runs l D cT y ycode ynL yret yfr ylo As wc (EQ r wc')) (hy : CS y ycode ynL yret As.length) (hl : Cond.methodLink O.1 ix y ∈ gw ∨ Cond.methodLinkNest O.1 ix y "BackByTwice" ∈ nw) (hd : decode code pc = .ok (.invokestatic ix, 3))
    (ρ : List Nat) (hnd : ρ.Nodup) (hle : wc.length ≤ ρ.length ∧ ρ.length ≤ 1000) (hw : (ρ.take wc.length).map (fun k => w[k]?) = wc.map (fun x => some (rS ρ w.length x))) (hst : st = (As.map (rV ρ w.length)).reverse ++ rest) (hcat : (rest.map fun v => v.category).sum ≤ 8) (hroom : yfr + 1 ≤ fr ∧ 8 + (ynL + 11) + ylo ≤ lo) (hp0 : potC wc = 0) (hp1 : potS wc = 0) (hbud : bc ≤ Rc ∧ bs ≤ Rs)
    (hw2 : putL (ρ.take wc.length) (wc'.map (rS ρ w.length)) w = w2) (hst2 : (r.map (rV ρ w.length)).toList ++ rest = st2) (kk : g bc bs w2 (pc + 3) L st2) : g bc bs w pc L st :=
  m_cS M K hy hl hd ρ hnd hle hw hst hcat hroom (by rw [hp0, hp1]; exact hbud) (Or.inl hp0) (fun a b hab _ => by obtain ⟨rfl, rfl⟩ := hab; rw [hp0, hp1, hw2, hst2]; exact kk)
end MCL
