/-! ===== the model and its second object ===== -/
def abM : Wd := [.inl 31, .inl 8, .inl 8, .inl 8, .inl 8, .inl 40, .inl 8, .inl 250, .inl 8, .inl 16, .inl 16, .inl 16, .inl 6, .inl 6, .inl 2, .inl 999, .inl 52, .inl 52, .inl 40, .inl 40, .inl 40, .inl 40, .inl 40, .inl 40, .inl 40, .inl 40]
set_option maxRecDepth 100000 in
set_option maxHeartbeats 200000 in
theorem nrA (sp : ShT) (tk : TkT) (sv : SvT) (mf mo mn ma : AI) (kb : Bool) : NRW (cM 0 sp tk sv mf mo mn ma (vb kb 52) .null ++ abM) := NRL.W (NRL.pr (nre_o (by cases kb <;> rfl)) (NRL.pr nre_i (NRL.pr nre_i (NRL.pr nre_i (NRL.pr (nre_q (rq_l8 rfl rfl rfl rfl rfl rfl rfl rfl)) (NRL.pr nre_l (NRL.pr nre_i (NRL.pr nre_i (NRL.pr nre_i (NRL.pr nre_i (NRL.pr nre_i (NRL.pr nre_i (NRL.pr nre_i (NRL.pr nre_i (NRL.pr nre_i (NRL.pr nre_i (NRL.pr nre_i (NRL.pr nre_i (NRL.pr nre_l (NRL.pr nre_l (NRL.pr nre_l (NRL.pr nre_l (NRL.pr nre_l (NRL.pr nre_l (NRL.pr nre_l (NRL.pr nre_l (NRL.ab (NRL.ab (NRL.ab (NRL.ab (NRL.ab (NRL.ab (NRL.ab (NRL.ab (NRL.ab (NRL.ab (NRL.ab (NRL.ab (NRL.ab (NRL.ab (NRL.ab (NRL.ab (NRL.ab (NRL.ab (NRL.ab (NRL.ab (NRL.ab (NRL.ab (NRL.ab (NRL.ab (NRL.ab (NRL.ab NRL.nil))))))))))))))))))))))))))))))))))))))))))))))))))))
set_option maxRecDepth 100000 in
set_option maxHeartbeats 200000 in
theorem nrO (sp : ShT) (tk : TkT) (sv : SvT) (mf mo mn ma : AI) (kb : Bool) : NRW (cM 0 sp tk sv mf mo mn ma (vb kb 52) .null ++ (.inr (.inr (4, [.null, .null, .null, .null, .null, .null, .null, .int 0, .null, .int 0, .null, .null, .null, .int 0, .null, .null, .int 0, .int 0, .int 0, .null, .null, .int 0, .int 0, .int 0, .int 0, .int 0, .null, .int 0, .null, .null, .null])) :: abM.tail)) := NRL.W (NRL.pr (nre_o (by cases kb <;> rfl)) (NRL.pr nre_i (NRL.pr nre_i (NRL.pr nre_i (NRL.pr (nre_q (rq_l8 rfl rfl rfl rfl rfl rfl rfl rfl)) (NRL.pr nre_l (NRL.pr nre_i (NRL.pr nre_i (NRL.pr nre_i (NRL.pr nre_i (NRL.pr nre_i (NRL.pr nre_i (NRL.pr nre_i (NRL.pr nre_i (NRL.pr nre_i (NRL.pr nre_i (NRL.pr nre_i (NRL.pr nre_i (NRL.pr nre_l (NRL.pr nre_l (NRL.pr nre_l (NRL.pr nre_l (NRL.pr nre_l (NRL.pr nre_l (NRL.pr nre_l (NRL.pr nre_l (NRL.pr (nre_o rfl) (NRL.ab (NRL.ab (NRL.ab (NRL.ab (NRL.ab (NRL.ab (NRL.ab (NRL.ab (NRL.ab (NRL.ab (NRL.ab (NRL.ab (NRL.ab (NRL.ab (NRL.ab (NRL.ab (NRL.ab (NRL.ab (NRL.ab (NRL.ab (NRL.ab (NRL.ab (NRL.ab (NRL.ab (NRL.ab NRL.nil))))))))))))))))))))))))))))))))))))))))))))))))))))
theorem putL_blk {u v xs t : Wd} (h : xs.length = v.length) : putL (List.range' u.length xs.length) xs (u ++ (v ++ t)) = u ++ (xs ++ t) := by
  apply List.ext_getElem?
  intro i
  by_cases h1 : i < u.length
  · rw [putL_out _ _ _ i (by rw [List.mem_range'_1]; omega), List.getElem?_append_left h1, List.getElem?_append_left h1]
  · by_cases h2 : i < u.length + xs.length
    · rw [putL_in _ _ _ (i - u.length) i List.nodup_range' (by rw [List.getElem?_range' (by omega)]; congr 1; omega) (by simp; omega) (by omega), List.getElem?_append_right (by omega), List.getElem?_append_left (by omega)]
    · rw [putL_out _ _ _ i (by rw [List.mem_range'_1]; omega), List.getElem?_append_right (by omega), List.getElem?_append_right (by omega), List.getElem?_append_right (by omega), List.getElem?_append_right (by omega), h]
theorem putL_end {u v xs : Wd} (h : xs.length = v.length) : putL (List.range' u.length xs.length) xs (u ++ v) = u ++ xs := by
  have := putL_blk (u := u) (v := v) (xs := xs) (t := []) h
  simpa using this
set_option maxRecDepth 100000 in
set_option maxHeartbeats 200000 in
theorem mpO : (cM 0 nSh nTk nSv zI zI zI zI .null .null).map (rS [26, 27, 28, 29, 30, 31, 32, 33, 34, 35, 36, 37, 38, 39, 40, 41, 42, 43, 44, 45, 46, 47, 48, 49, 50, 51] 52) = cM 26 nSh nTk nSv zI zI zI zI .null .null := cg rfl (cg rfl (cg rfl (cg rfl (cg (rS_rfC _ _ _ _ _) rfl))))
set_option maxRecDepth 100000 in
set_option maxHeartbeats 200000 in
theorem hpO (sp : ShT) (tk : TkT) (sv : SvT) (mf mo mn ma : AI) (kb : Bool) : putL (List.take 26 [26, 27, 28, 29, 30, 31, 32, 33, 34, 35, 36, 37, 38, 39, 40, 41, 42, 43, 44, 45, 46, 47, 48, 49, 50, 51]) ((cM 0 nSh nTk nSv zI zI zI zI .null .null).map (rS [26, 27, 28, 29, 30, 31, 32, 33, 34, 35, 36, 37, 38, 39, 40, 41, 42, 43, 44, 45, 46, 47, 48, 49, 50, 51] 52)) (cM 0 sp tk sv mf mo mn ma (vb kb 52) .null ++ (.inr (.inr (4, [.null, .null, .null, .null, .null, .null, .null, .int 0, .null, .int 0, .null, .null, .null, .int 0, .null, .null, .int 0, .int 0, .int 0, .null, .null, .int 0, .int 0, .int 0, .int 0, .int 0, .null, .int 0, .null, .null, .null])) :: abM.tail)) = cM 0 sp tk sv mf mo mn ma (vb kb 52) .null ++ cM 26 nSh nTk nSv zI zI zI zI .null .null := by
  rw [mpO]
  have h := putL_end (u := cM 0 sp tk sv mf mo mn ma (vb kb 52) .null) (v := .inr (.inr (4, [.null, .null, .null, .null, .null, .null, .null, .int 0, .null, .int 0, .null, .null, .null, .int 0, .null, .null, .int 0, .int 0, .int 0, .null, .null, .int 0, .int 0, .int 0, .int 0, .int 0, .null, .int 0, .null, .null, .null])) :: abM.tail) (xs := cM 26 nSh nTk nSv zI zI zI zI .null .null) rfl
  have e1 : List.range' (cM 0 sp tk sv mf mo mn ma (vb kb 52) .null).length (cM 26 nSh nTk nSv zI zI zI zI .null .null).length = List.take 26 [26, 27, 28, 29, 30, 31, 32, 33, 34, 35, 36, 37, 38, 39, 40, 41, 42, 43, 44, 45, 46, 47, 48, 49, 50, 51] := rfl
  rw [e1] at h
  exact h
theorem wA_app {w v : Wd} {k : Nat} {e : va_E} (h : wA w k = some e) : wA (w ++ v) k = some e := by
  have hl := wA_lt h
  rw [wA_iff] at h ⊢
  rw [List.getElem?_append_left hl]
  exact h
theorem rn_id2 {n m : Nat} (h : n ≤ m) (j : Nat) : rn (List.range m) n j = j := by
  unfold rn
  rw [List.getD_eq_getElem?_getD]
  by_cases hj : j < m
  · rw [List.getElem?_range hj]; rfl
  · rw [List.getElem?_eq_none (by rw [List.length_range]; omega), if_neg (by omega)]; rfl
theorem rS_id2 {n m : Nat} (h : n ≤ m) (x : Nat ⊕ va_E) : rS (List.range m) n x = x := by
  cases x with
  | inl a => rfl
  | inr e => exact congrArg Sum.inr (tE_id (rn_id2 h) e)
theorem hwId2 {w : Wd} {m : Nat} (h : w.length ≤ m) : (List.take w.length (List.range m)).map (fun k => w[k]?) = w.map (fun x => some (rS (List.range m) w.length x)) := by
  apply List.ext_getElem?
  intro i
  rw [List.getElem?_map, List.getElem?_map, List.getElem?_take]
  by_cases hi : i < w.length
  · rw [if_pos hi, List.getElem?_range (by omega), List.getElem?_eq_getElem hi]
    simp only [Option.map_some, rS_id2 h, Option.some.injEq]
    exact List.getElem?_eq_getElem hi
  · rw [if_neg hi, List.getElem?_eq_none (by omega)]; rfl
theorem hpId2 {w0 w w' : Wd} {m : Nat} (h : w.length ≤ m) (h' : w'.length = w.length) (h0 : w0.length = w.length := by exact rfl) : putL (List.take w0.length (List.range m)) (w'.map (rS (List.range m) w.length)) w = w' := by
  rw [h0]
  apply List.ext_getElem?
  intro i
  by_cases hi : i < w.length
  · rw [putL_in _ _ _ i i (List.Nodup.sublist (List.take_sublist _ _) List.nodup_range) (by rw [List.getElem?_take, if_pos hi, List.getElem?_range (by omega)]) hi (by rw [List.length_map]; omega), List.getElem?_map]
    cases w'[i]? with
    | none => rfl
    | some x => simp [rS_id2 h]
  · rw [List.getElem?_eq_none (by rw [putL_len]; omega), List.getElem?_eq_none (by omega)]
section CVA
variable {l : Launch} {D : va_G} {cT : Nat → ClassId} {O : Own} {code : ByteArray} {nL fr lo Rc Rs : Nat} {g : GT} {bc bs : Nat}
variable {y : MethodName} {ycode : ByteArray} {ynL yfr ylo : Nat} {yret : Option FieldType} {As : List Value} {wc wc' : Wd}
variable {pc ix : Nat} {L : List (Option Value)} {rest st st2 : List Value} {w w2 : Wd}
theorem m_cVa {bc' bs' : Nat} {r : Option Value} (M : MB l D cT O code nL fr lo Rc Rs g) (K : Runs l D cT y ycode ynL yret yfr ylo (.ref 0 :: As) wc (EQ r wc')) {ci : Nat} {fs : List Value} (hy : CV y ycode ynL yret As.length ci) (hl : Cond.methodLink O.1 ix y ∈ gw ∨ Cond.methodLinkNest O.1 ix y "BackByTwice" ∈ nw) (hd : decode code pc = .ok (.invokevirtual ix, 3))
    (ρ : List Nat) (hnd : ρ.Nodup) (hle : wc.length ≤ ρ.length ∧ ρ.length ≤ 1000) (hw : (ρ.take wc.length).map (fun k => w[k]?) = wc.map (fun x => some (rS ρ w.length x))) (hst : st = ((.ref 0 :: As).map (rV ρ w.length)).reverse ++ rest) (h0 : wc[0]? = some (.inr (.inr (ci, fs)))) (hcat : (rest.map fun v => v.category).sum ≤ 8) (hroom : yfr + 1 ≤ fr ∧ 8 + (ynL + 11) + ylo ≤ lo) (hc : bc + potC wc = bc') (hs : bs + potS wc = bs') (hbud : bc' ≤ Rc ∧ bs' ≤ Rs)
    (hNR : NRW w) (hrf : rfB w L rest = true) (hw2 : putL (ρ.take wc.length) (wc'.map (rS ρ w.length)) w = w2) (hst2 : (r.map (rV ρ w.length)).toList ++ rest = st2) (kk : g bc' bs' w2 (pc + 3) L st2) : g bc bs w pc L st :=
  m_cV M K hy hl hd ρ hnd hle hw hst h0 hcat hroom (by rw [hc, hs]; exact hbud) (Or.inr ⟨hNR, hrf⟩) (fun a b hab _ => by obtain ⟨rfl, rfl⟩ := hab; rw [hc, hs, hw2, hst2]; exact kk)
end CVA
