/-! ===== the model and its second object ===== -/
def abM : Wd := [.inl 31, .inl 8, .inl 8, .inl 8, .inl 8, .inl 40, .inl 8, .inl 250, .inl 8, .inl 16, .inl 16, .inl 16, .inl 6, .inl 6, .inl 2, .inl 999, .inl 52, .inl 52, .inl 40, .inl 40, .inl 40, .inl 40, .inl 40, .inl 40, .inl 40, .inl 40]
theorem rq_m8 {w : Wd} (h0 : prs w 44 = true) (h1 : prs w 45 = true) (h2 : prs w 46 = true) (h3 : prs w 47 = true) (h4 : prs w 48 = true) (h5 : prs w 49 = true) (h6 : prs w 50 = true) (h7 : prs w 51 = true) : rqP w (fun i => ([44, 45, 46, 47, 48, 49, 50, 51] : List Nat)[i]?) := by
  intro i j h
  have hm := List.mem_of_getElem? h
  simp only [List.mem_cons, List.not_mem_nil, or_false] at hm
  rcases hm with rfl | rfl | rfl | rfl | rfl | rfl | rfl | rfl <;> assumption
/-- the second object: there, or not yet -/
def cMo (b : Nat) (x : Bool) (p : ShT) (f : AI) : Wd := match x with
  | true => cM b p nTk nSv f zI zI zI .null .null
  | false => abM
def potM (x : Bool) : Nat := match x with
  | true => 0
  | false => 26
def potN (x : Bool) : Nat := match x with
  | true => 0
  | false => 1854
def okR (x : Bool) (v : Value) : Bool := match v with
  | .null => true
  | .ref k => (x && Nat.beq k 26) || Nat.beq k 52
  | _ => false
theorem okR_w {x b : Bool} : okR x (vb b 52) = true := by
  cases b <;> cases x <;> rfl
theorem okR_v {x : Bool} : okR x (vb x 26) = true := by
  cases x <;> rfl
theorem okR_c0 {v : Value} (h : okR false v = true) : v = .null ∨ v = .ref 52 := by
  cases v with
  | null => exact Or.inl rfl
  | ref k => exact Or.inr (congrArg Value.ref (Nat.eq_of_beq_eq_true h))
  | _ => cases h
theorem okR_c1 {v : Value} (h : okR true v = true) : v = .null ∨ v = .ref 26 ∨ v = .ref 52 := by
  cases v with
  | null => exact Or.inl rfl
  | ref k =>
    rcases Bool.or_eq_true _ _ |>.mp h with h | h
    · exact Or.inr (Or.inl (congrArg Value.ref (Nat.eq_of_beq_eq_true h)))
    · exact Or.inr (Or.inr (congrArg Value.ref (Nat.eq_of_beq_eq_true h)))
  | _ => cases h
set_option maxRecDepth 100000 in
set_option maxHeartbeats 200000 in
theorem nrT {x : Bool} {p : ShT} {f : AI} (sp : ShT) (tk : TkT) (sv : SvT) (mf mo mn ma : AI) (kv tv : Value) (hk : okR x kv = true) (ht : okR x tv = true) : NRW (cM 0 sp tk sv mf mo mn ma kv tv ++ cMo 26 x p f) := by
  cases x with
  | false => exact NRL.W (NRL.pr (nre_o (by rcases okR_c0 hk with rfl | rfl <;> rcases okR_c0 ht with rfl | rfl <;> rfl)) (NRL.pr nre_i (NRL.pr nre_i (NRL.pr nre_i (NRL.pr (nre_q (rq_l8 rfl rfl rfl rfl rfl rfl rfl rfl)) (NRL.pr nre_l (NRL.pr nre_i (NRL.pr nre_i (NRL.pr nre_i (NRL.pr nre_i (NRL.pr nre_i (NRL.pr nre_i (NRL.pr nre_i (NRL.pr nre_i (NRL.pr nre_i (NRL.pr nre_i (NRL.pr nre_i (NRL.pr nre_i (NRL.pr nre_l (NRL.pr nre_l (NRL.pr nre_l (NRL.pr nre_l (NRL.pr nre_l (NRL.pr nre_l (NRL.pr nre_l (NRL.pr nre_l (NRL.ab (NRL.ab (NRL.ab (NRL.ab (NRL.ab (NRL.ab (NRL.ab (NRL.ab (NRL.ab (NRL.ab (NRL.ab (NRL.ab (NRL.ab (NRL.ab (NRL.ab (NRL.ab (NRL.ab (NRL.ab (NRL.ab (NRL.ab (NRL.ab (NRL.ab (NRL.ab (NRL.ab (NRL.ab (NRL.ab NRL.nil))))))))))))))))))))))))))))))))))))))))))))))))))))
  | true => exact NRL.W (NRL.pr (nre_o (by rcases okR_c1 hk with rfl | rfl | rfl <;> rcases okR_c1 ht with rfl | rfl | rfl <;> rfl)) (NRL.pr nre_i (NRL.pr nre_i (NRL.pr nre_i (NRL.pr (nre_q (rq_l8 rfl rfl rfl rfl rfl rfl rfl rfl)) (NRL.pr nre_l (NRL.pr nre_i (NRL.pr nre_i (NRL.pr nre_i (NRL.pr nre_i (NRL.pr nre_i (NRL.pr nre_i (NRL.pr nre_i (NRL.pr nre_i (NRL.pr nre_i (NRL.pr nre_i (NRL.pr nre_i (NRL.pr nre_i (NRL.pr nre_l (NRL.pr nre_l (NRL.pr nre_l (NRL.pr nre_l (NRL.pr nre_l (NRL.pr nre_l (NRL.pr nre_l (NRL.pr nre_l (NRL.pr (nre_o rfl) (NRL.pr nre_i (NRL.pr nre_i (NRL.pr nre_i (NRL.pr (nre_q (rq_m8 rfl rfl rfl rfl rfl rfl rfl rfl)) (NRL.pr nre_l (NRL.pr nre_i (NRL.pr nre_i (NRL.pr nre_i (NRL.pr nre_i (NRL.pr nre_i (NRL.pr nre_i (NRL.pr nre_i (NRL.pr nre_i (NRL.pr nre_i (NRL.pr nre_i (NRL.pr nre_i (NRL.pr nre_i (NRL.pr nre_l (NRL.pr nre_l (NRL.pr nre_l (NRL.pr nre_l (NRL.pr nre_l (NRL.pr nre_l (NRL.pr nre_l (NRL.pr nre_l NRL.nil))))))))))))))))))))))))))))))))))))))))))))))))))))
set_option maxRecDepth 100000 in
set_option maxHeartbeats 200000 in
theorem nrO (sp : ShT) (tk : TkT) (sv : SvT) (mf mo mn ma : AI) (kv tv : Value) (hk : okR false kv = true) (ht : okR false tv = true) : NRW (cM 0 sp tk sv mf mo mn ma kv tv ++ (.inr (.inr (4, [.null, .null, .null, .null, .null, .null, .null, .int 0, .null, .int 0, .null, .null, .null, .int 0, .null, .null, .int 0, .int 0, .int 0, .null, .null, .int 0, .int 0, .int 0, .int 0, .int 0, .null, .int 0, .null, .null, .null])) :: abM.tail)) := NRL.W (NRL.pr (nre_o (by rcases okR_c0 hk with rfl | rfl <;> rcases okR_c0 ht with rfl | rfl <;> rfl)) (NRL.pr nre_i (NRL.pr nre_i (NRL.pr nre_i (NRL.pr (nre_q (rq_l8 rfl rfl rfl rfl rfl rfl rfl rfl)) (NRL.pr nre_l (NRL.pr nre_i (NRL.pr nre_i (NRL.pr nre_i (NRL.pr nre_i (NRL.pr nre_i (NRL.pr nre_i (NRL.pr nre_i (NRL.pr nre_i (NRL.pr nre_i (NRL.pr nre_i (NRL.pr nre_i (NRL.pr nre_i (NRL.pr nre_l (NRL.pr nre_l (NRL.pr nre_l (NRL.pr nre_l (NRL.pr nre_l (NRL.pr nre_l (NRL.pr nre_l (NRL.pr nre_l (NRL.pr (nre_o rfl) (NRL.ab (NRL.ab (NRL.ab (NRL.ab (NRL.ab (NRL.ab (NRL.ab (NRL.ab (NRL.ab (NRL.ab (NRL.ab (NRL.ab (NRL.ab (NRL.ab (NRL.ab (NRL.ab (NRL.ab (NRL.ab (NRL.ab (NRL.ab (NRL.ab (NRL.ab (NRL.ab (NRL.ab (NRL.ab NRL.nil))))))))))))))))))))))))))))))))))))))))))))))))))))
theorem putL_blk {u v xs t : Wd} (h : xs.length = v.length) : putL (List.range' u.length xs.length) xs (u ++ (v ++ t)) = u ++ (xs ++ t) := by
  apply List.ext_getElem?
  intro i
  by_cases h1 : i < u.length
  · rw [putL_out _ _ _ i (by rw [List.mem_range'_1]; omega), List.getElem?_append_left h1, List.getElem?_append_left h1]
  · by_cases h2 : i < u.length + xs.length
    · rw [putL_in _ _ _ (i - u.length) i List.nodup_range' (by rw [List.getElem?_range' (by omega)]; congr 1; omega) (by simp; omega) (by omega), List.getElem?_append_right (by omega), List.getElem?_append_left (by omega)]
    · rw [putL_out _ _ _ i (by rw [List.mem_range'_1]; omega), List.getElem?_append_right (by omega), List.getElem?_append_right (by omega), List.getElem?_append_right (by omega), List.getElem?_append_right (by omega), h]
theorem putL_end {u v xs : Wd} (h : xs.length = v.length) : putL (List.range' u.length xs.length) xs (u ++ v) = u ++ xs := by
  have := putL_blk (u := u) (v := v) (xs := xs) (t := []) h
  simpa using this
theorem pot_T (b c : Nat) (s : ShT) (k : TkT) (v : SvT) (mf mo mn ma : AI) (kv tv : Value) (x : Bool) (p : ShT) (f : AI) : potC (cM b s k v mf mo mn ma kv tv ++ cMo c x p f) = potM x ∧ potS (cM b s k v mf mo mn ma kv tv ++ cMo c x p f) = potN x := by
  cases x <;> exact ⟨rfl, rfl⟩
theorem len_T (b c : Nat) (s : ShT) (k : TkT) (v : SvT) (mf mo mn ma : AI) (kv tv : Value) (x : Bool) (p : ShT) (f : AI) : (cM b s k v mf mo mn ma kv tv ++ cMo c x p f).length = 52 := by
  cases x <;> rfl
theorem len_Mo (c : Nat) (x : Bool) (p : ShT) (f : AI) : (cMo c x p f).length = 26 := by
  cases x <;> rfl
theorem bdg {a b m n R S : Nat} (h : a + m ≤ R ∧ b + n ≤ S) : a ≤ R ∧ b ≤ S := ⟨Nat.le_trans (Nat.le_add_right _ _) h.1, Nat.le_trans (Nat.le_add_right _ _) h.2⟩
theorem bF {b : Bool} (h : ¬ b = true) : b = false := by
  cases b
  · rfl
  · exact absurd rfl h
/-! how a callee's world sits in these -/
theorem rg_map {u v t : Wd} : (List.range' u.length v.length).map (fun k => (u ++ (v ++ t))[k]?) = v.map some := by
  apply List.ext_getElem?
  intro i
  rw [List.getElem?_map, List.getElem?_map]
  by_cases hi : i < v.length
  · have h1 : (List.range' u.length v.length)[i]? = some (u.length + i) := by
      rw [List.getElem?_range' hi]
      congr 1
      omega
    rw [h1, Option.map_some, List.getElem?_append_right (Nat.le_add_right _ _), Nat.add_sub_cancel_left, List.getElem?_append_left hi, List.getElem?_eq_getElem hi]
    rfl
  · rw [List.getElem?_eq_none (by rw [List.length_range']; omega), List.getElem?_eq_none (by omega)]
    rfl
theorem hw_of {W wc u v t : Wd} {ρ : List Nat} {B : Nat} (hB : W.length = B) (hW : W = u ++ (v ++ t)) (hr : ρ.take wc.length = List.range' u.length v.length) (hm : wc.map (rS ρ B) = v) : (ρ.take wc.length).map (fun k => W[k]?) = wc.map (fun x => some (rS ρ W.length x)) := by
  have e : wc.map (fun x => some (rS ρ W.length x)) = v.map some := by rw [hB, ← hm, List.map_map]; rfl
  rw [e, hr, hW]
  exact rg_map
theorem hp_of {W wc wc' u v v' t : Wd} {ρ : List Nat} {B : Nat} (hB : W.length = B) (hW : W = u ++ (v ++ t)) (hl : v'.length = v.length) (hr : ρ.take wc.length = List.range' u.length v'.length) (hm : wc'.map (rS ρ B) = v') : putL (ρ.take wc.length) (wc'.map (rS ρ W.length)) W = u ++ (v' ++ t) := by
  rw [hB, hm, hr, hW]
  exact putL_blk hl
theorem putL_app : ∀ (a b : List Nat) (x y : List (Nat ⊕ va_E)) (w : Wd), a.length = x.length → putL (a ++ b) (x ++ y) w = putL b y (putL a x w)
  | [], _, [], _, _, _ => by simp [putL]
  | k :: a, b, z :: x, y, w, h => by
    show putL (a ++ b) (x ++ y) (w.set k z) = putL b y (putL a x (w.set k z))
    exact putL_app a b x y _ (by simpa using h)
  | [], _, _ :: _, _, _, h => by simp at h
  | _ :: _, _, [], _, _, h => by simp at h
def rhS (x y : Nat) : List Nat := [0, 1, 2, 3, 4, 5, 6, 7, 8, 9, 10, 11, 12, 13, 14, 15, 16, 17, 18, 19, 20, 21, 22, 23, 24, 25, x, y]
def rhT : List Nat := [26, 27, 28, 29, 30, 31, 32, 33, 34, 35, 36, 37, 38, 39, 40, 41, 42, 43, 44, 45, 46, 47, 48, 49, 50, 51]
def rhF (x : Nat) : List Nat := [26, 27, 28, 29, 30, 31, 32, 33, 34, 35, 36, 37, 38, 39, 40, 41, 42, 43, 44, 45, 46, 47, 48, 49, 50, 51, 0, 1, 2, 3, 4, 5, 6, 7, 8, 9, 10, 11, 12, 13, 14, 15, 16, 17, 18, 19, 20, 21, 22, 23, 24, 25, x]
def rhW (j : Nat) : List Nat := [26, 27, 28, 29, 30, 31, 32, 33, 34, 35, 36, 37, 38, 39, 40, 41, 42, 43, 44, 45, 46, 47, 48, 49, 50, 51, 18 + j]
theorem rvk {x y : Nat} (b : Bool) : rV (rhS x y) 52 (vb b 26) = vb b x := by cases b <;> rfl
theorem rvkr {x y : Nat} : rV (rhS x y) 52 (.ref 26) = .ref x := rfl
theorem rvtr {x y : Nat} : rV (rhS x y) 52 (.ref 27) = .ref y := rfl
theorem rvkn {x y : Nat} : rV (rhS x y) 52 .null = .null := rfl
theorem rvtn {x y : Nat} : rV (rhS x y) 52 .null = .null := rfl
theorem rvFr {x : Nat} : rV (rhF x) 52 (.ref 52) = .ref x := rfl
theorem rvFn {x : Nat} : rV (rhF x) 52 .null = .null := rfl
theorem rvt {x y : Nat} (b : Bool) : rV (rhS x y) 52 (vb b 27) = vb b y := by cases b <;> rfl
set_option maxRecDepth 100000 in
set_option maxHeartbeats 200000 in
theorem mpS {x y : Nat} {kc tc kw tw : Value} (hk : rV (rhS x y) 52 kc = kw) (ht : rV (rhS x y) 52 tc = tw) (sp : ShT) (tk : TkT) (sv : SvT) (mf mo mn ma : AI) : (cM 0 sp tk sv mf mo mn ma kc tc).map (rS (rhS x y) 52) = cM 0 sp tk sv mf mo mn ma kw tw := by
  subst hk
  subst ht
  exact (cg rfl (cg rfl (cg rfl (cg rfl (cg (rS_rfC _ _ _ _ _) rfl)))))
set_option maxRecDepth 100000 in
set_option maxHeartbeats 200000 in
theorem mpT (sp : ShT) (tk : TkT) (sv : SvT) (mf mo mn ma : AI) (kv tv : Value) : (cM 0 sp tk sv mf mo mn ma kv tv).map (rS rhT 52) = cM 26 sp tk sv mf mo mn ma (rV rhT 52 kv) (rV rhT 52 tv) := (cg rfl (cg rfl (cg rfl (cg rfl (cg (rS_rfC _ _ _ _ _) rfl)))))
set_option maxRecDepth 100000 in
set_option maxHeartbeats 200000 in
theorem mpF0 {x : Nat} (sp : ShT) (tk : TkT) (sv : SvT) (mf mo mn ma : AI) : (cM 0 sp tk sv mf mo mn ma .null .null).map (rS (rhF x) 52) = cM 26 sp tk sv mf mo mn ma .null .null := (cg rfl (cg rfl (cg rfl (cg rfl (cg (rS_rfC _ _ _ _ _) rfl)))))
set_option maxRecDepth 100000 in
set_option maxHeartbeats 200000 in
theorem mpF1 {x : Nat} {kc kw : Value} (hk : rV (rhF x) 52 kc = kw) (sp : ShT) (tk : TkT) (sv : SvT) (mf mo mn ma : AI) : (cM 26 sp tk sv mf mo mn ma kc (.ref 0)).map (rS (rhF x) 52) = cM 0 sp tk sv mf mo mn ma kw (.ref 26) := by
  subst hk
  exact (cg rfl (cg rfl (cg rfl (cg rfl (cg (rS_rfC _ _ _ _ _) rfl)))))
theorem ndW {j : Nat} (hj : j < 8) : (rhW j).Nodup := by
  rcases lt8 hj with rfl | rfl | rfl | rfl | rfl | rfl | rfl | rfl <;> decide
set_option maxRecDepth 100000 in
set_option maxHeartbeats 200000 in
theorem mpG1 {x : Nat} {kc kw : Value} (hk : rV (rhF x) 52 kc = kw) (sp : ShT) (tk : TkT) (sv : SvT) (mf mo mn ma : AI) : (cM 26 sp tk sv mf mo mn ma (.ref 0) kc).map (rS (rhF x) 52) = cM 0 sp tk sv mf mo mn ma (.ref 26) kw := by
  subst hk
  exact (cg rfl (cg rfl (cg rfl (cg rfl (cg (rS_rfC _ _ _ _ _) rfl)))))
set_option maxRecDepth 100000 in
set_option maxHeartbeats 200000 in
theorem mpW {j : Nat} (sp : ShT) (tk : TkT) (sv : SvT) (mf mo mn ma : AI) : (cM 0 sp tk sv mf mo mn ma .null .null).map (rS (rhW j) 52) = cM 26 sp tk sv mf mo mn ma .null .null := (cg rfl (cg rfl (cg rfl (cg rfl (cg (rS_rfC _ _ _ _ _) rfl)))))
theorem rvF {x : Nat} (b : Bool) : rV (rhF x) 52 (vb b 52) = vb b x := by cases b <;> rfl
theorem hwS {x y : Nat} {kc tc kw tw : Value} {t : Wd} (hk : rV (rhS x y) 52 kc = kw) (ht : rV (rhS x y) 52 tc = tw) (hl : t.length = 26) (sp : ShT) (tk : TkT) (sv : SvT) (mf mo mn ma : AI) : (List.take (List.length (cM 0 sp tk sv mf mo mn ma kc tc)) (rhS x y)).map (fun k => (cM 0 sp tk sv mf mo mn ma kw tw ++ t)[k]?) = (cM 0 sp tk sv mf mo mn ma kc tc).map (fun z => some (rS (rhS x y) (List.length (cM 0 sp tk sv mf mo mn ma kw tw ++ t)) z)) := by
  have e : (List.length (cM 0 sp tk sv mf mo mn ma kw tw ++ t)) = 52 := by rw [List.length_append, hl]; rfl
  exact hw_of (u := []) (v := cM 0 sp tk sv mf mo mn ma kw tw) (t := t) e rfl rfl (mpS hk ht sp tk sv mf mo mn ma)
theorem hpS {x y : Nat} {kc tc kw tw : Value} {t : Wd} (hk : rV (rhS x y) 52 kc = kw) (ht : rV (rhS x y) 52 tc = tw) (hl : t.length = 26) (sp : ShT) (tk : TkT) (sv : SvT) (mf mo mn ma : AI) (sp' : ShT) (tk' : TkT) (sv' : SvT) (mf' mo' mn' ma' : AI) : putL (List.take (List.length (cM 0 sp tk sv mf mo mn ma kc tc)) (rhS x y)) ((cM 0 sp' tk' sv' mf' mo' mn' ma' kc tc).map (rS (rhS x y) (List.length (cM 0 sp tk sv mf mo mn ma kw tw ++ t)))) (cM 0 sp tk sv mf mo mn ma kw tw ++ t) = cM 0 sp' tk' sv' mf' mo' mn' ma' kw tw ++ t := by
  have e : (List.length (cM 0 sp tk sv mf mo mn ma kw tw ++ t)) = 52 := by rw [List.length_append, hl]; rfl
  exact hp_of (u := []) (v := cM 0 sp tk sv mf mo mn ma kw tw) (v' := cM 0 sp' tk' sv' mf' mo' mn' ma' kw tw) (t := t) e rfl rfl rfl (mpS hk ht sp' tk' sv' mf' mo' mn' ma')
theorem hwT {kv tv : Value} (sp : ShT) (tk : TkT) (sv : SvT) (mf mo mn ma : AI) (sp2 : ShT) (tk2 : TkT) (sv2 : SvT) (mf2 mo2 mn2 ma2 : AI) : (List.take (List.length (cM 0 sp2 tk2 sv2 mf2 mo2 mn2 ma2 .null .null)) rhT).map (fun k => (cM 0 sp tk sv mf mo mn ma kv tv ++ cM 26 sp2 tk2 sv2 mf2 mo2 mn2 ma2 .null .null)[k]?) = (cM 0 sp2 tk2 sv2 mf2 mo2 mn2 ma2 .null .null).map (fun z => some (rS rhT (List.length (cM 0 sp tk sv mf mo mn ma kv tv ++ cM 26 sp2 tk2 sv2 mf2 mo2 mn2 ma2 .null .null)) z)) :=
  hw_of (u := cM 0 sp tk sv mf mo mn ma kv tv) (v := cM 26 sp2 tk2 sv2 mf2 mo2 mn2 ma2 .null .null) (t := []) rfl (by rw [List.append_nil]) rfl (mpT sp2 tk2 sv2 mf2 mo2 mn2 ma2 .null .null)
theorem hpT {kv tv : Value} (sp : ShT) (tk : TkT) (sv : SvT) (mf mo mn ma : AI) (sp2 : ShT) (tk2 : TkT) (sv2 : SvT) (mf2 mo2 mn2 ma2 : AI) (sp2' : ShT) (tk2' : TkT) (sv2' : SvT) (mf2' mo2' mn2' ma2' : AI) : putL (List.take (List.length (cM 0 sp2 tk2 sv2 mf2 mo2 mn2 ma2 .null .null)) rhT) ((cM 0 sp2' tk2' sv2' mf2' mo2' mn2' ma2' .null .null).map (rS rhT (List.length (cM 0 sp tk sv mf mo mn ma kv tv ++ cM 26 sp2 tk2 sv2 mf2 mo2 mn2 ma2 .null .null)))) (cM 0 sp tk sv mf mo mn ma kv tv ++ cM 26 sp2 tk2 sv2 mf2 mo2 mn2 ma2 .null .null) = cM 0 sp tk sv mf mo mn ma kv tv ++ cM 26 sp2' tk2' sv2' mf2' mo2' mn2' ma2' .null .null := by
  have h := hp_of (W := (cM 0 sp tk sv mf mo mn ma kv tv ++ cM 26 sp2 tk2 sv2 mf2 mo2 mn2 ma2 .null .null)) (wc := cM 0 sp2 tk2 sv2 mf2 mo2 mn2 ma2 .null .null) (u := cM 0 sp tk sv mf mo mn ma kv tv) (v := cM 26 sp2 tk2 sv2 mf2 mo2 mn2 ma2 .null .null) (v' := cM 26 sp2' tk2' sv2' mf2' mo2' mn2' ma2' .null .null) (t := []) rfl (by rw [List.append_nil]) rfl rfl (mpT sp2' tk2' sv2' mf2' mo2' mn2' ma2' .null .null)
  rw [List.append_nil] at h
  exact h
def rhZ : List Nat := [0, 1, 2, 3, 4, 5, 6, 7, 8, 9, 10, 11, 12, 13, 14, 15, 16, 17, 18, 19, 20, 21, 22, 23, 24, 25]
set_option maxRecDepth 100000 in
set_option maxHeartbeats 200000 in
theorem mpZ (sp : ShT) (tk : TkT) (sv : SvT) (mf mo mn ma : AI) : (cM 0 sp tk sv mf mo mn ma .null .null).map (rS rhZ 27) = cM 0 sp tk sv mf mo mn ma .null .null := (cg rfl (cg rfl (cg rfl (cg rfl (cg (rS_rfC _ _ _ _ _) rfl)))))
theorem hwZ {x : Nat ⊕ va_E} (sp : ShT) (tk : TkT) (sv : SvT) (mf mo mn ma : AI) : (List.take (List.length (cM 0 sp tk sv mf mo mn ma .null .null)) rhZ).map (fun k => (cM 0 sp tk sv mf mo mn ma .null .null ++ [x])[k]?) = (cM 0 sp tk sv mf mo mn ma .null .null).map (fun z => some (rS rhZ (List.length (cM 0 sp tk sv mf mo mn ma .null .null ++ [x])) z)) :=
  hw_of (u := []) (v := cM 0 sp tk sv mf mo mn ma .null .null) (t := [x]) rfl rfl rfl (mpZ sp tk sv mf mo mn ma)
theorem hpZ {x : Nat ⊕ va_E} (sp : ShT) (tk : TkT) (sv : SvT) (mf mo mn ma : AI) (sp' : ShT) (tk' : TkT) (sv' : SvT) (mf' mo' mn' ma' : AI) : putL (List.take (List.length (cM 0 sp tk sv mf mo mn ma .null .null)) rhZ) ((cM 0 sp' tk' sv' mf' mo' mn' ma' .null .null).map (rS rhZ (List.length (cM 0 sp tk sv mf mo mn ma .null .null ++ [x])))) (cM 0 sp tk sv mf mo mn ma .null .null ++ [x]) = cM 0 sp' tk' sv' mf' mo' mn' ma' .null .null ++ [x] :=
  hp_of (W := (cM 0 sp tk sv mf mo mn ma .null .null ++ [x])) (u := []) (v := cM 0 sp tk sv mf mo mn ma .null .null) (v' := cM 0 sp' tk' sv' mf' mo' mn' ma' .null .null) (t := [x]) rfl rfl rfl rfl (mpZ sp' tk' sv' mf' mo' mn' ma')
theorem hwW {kv tv : Value} {j : Nat} (hj : j < 8) (sp : ShT) (tk : TkT) (sv : SvT) (mf mo mn ma : AI) (sp2 : ShT) (tk2 : TkT) (sv2 : SvT) (mf2 mo2 mn2 ma2 : AI) : (List.take (List.length ((cM 0 sp2 tk2 sv2 mf2 mo2 mn2 ma2 .null .null) ++ [.inr (.inl (1, 40, .inr (.inl (sv.2.2.2.2.2 j))))])) (rhW j)).map (fun k => (cM 0 sp tk sv mf mo mn ma kv tv ++ cM 26 sp2 tk2 sv2 mf2 mo2 mn2 ma2 .null .null)[k]?) = ((cM 0 sp2 tk2 sv2 mf2 mo2 mn2 ma2 .null .null) ++ [.inr (.inl (1, 40, .inr (.inl (sv.2.2.2.2.2 j))))] : Wd).map (fun z => some (rS (rhW j) (List.length (cM 0 sp tk sv mf mo mn ma kv tv ++ cM 26 sp2 tk2 sv2 mf2 mo2 mn2 ma2 .null .null)) z)) := by
  have h : (rhT).map (fun k => (cM 0 sp tk sv mf mo mn ma kv tv ++ cM 26 sp2 tk2 sv2 mf2 mo2 mn2 ma2 .null .null)[k]?) = (cM 0 sp2 tk2 sv2 mf2 mo2 mn2 ma2 .null .null).map (fun z => some (rS (rhW j) 52 z)) := hw_of (ρ := rhW j) (W := (cM 0 sp tk sv mf mo mn ma kv tv ++ cM 26 sp2 tk2 sv2 mf2 mo2 mn2 ma2 .null .null)) (wc := cM 0 sp2 tk2 sv2 mf2 mo2 mn2 ma2 .null .null) (u := cM 0 sp tk sv mf mo mn ma kv tv) (v := cM 26 sp2 tk2 sv2 mf2 mo2 mn2 ma2 .null .null) (t := []) rfl (by rw [List.append_nil]) rfl (mpW (j := j) sp2 tk2 sv2 mf2 mo2 mn2 ma2)
  have h2 : (cM 0 sp tk sv mf mo mn ma kv tv ++ cM 26 sp2 tk2 sv2 mf2 mo2 mn2 ma2 .null .null)[18 + j]? = some (.inr (.inl (1, 40, .inr (.inl (sv.2.2.2.2.2 j))))) := by
    have := wA_iff.mp (wM_ro hj sp tk sv mf mo mn ma kv tv)
    rw [List.getElem?_append_left (by show 18 + j < 26; omega)]
    exact this
  show (rhT ++ [18 + j]).map (fun k => (cM 0 sp tk sv mf mo mn ma kv tv ++ cM 26 sp2 tk2 sv2 mf2 mo2 mn2 ma2 .null .null)[k]?) = ((cM 0 sp2 tk2 sv2 mf2 mo2 mn2 ma2 .null .null) ++ [.inr (.inl (1, 40, .inr (.inl (sv.2.2.2.2.2 j))))] : Wd).map (fun z => some (rS (rhW j) 52 z))
  rw [List.map_append, List.map_append, h]
  show _ ++ [(cM 0 sp tk sv mf mo mn ma kv tv ++ cM 26 sp2 tk2 sv2 mf2 mo2 mn2 ma2 .null .null)[18 + j]?] = _
  rw [h2]
  rfl
theorem hpW {kv tv : Value} {j : Nat} (hj : j < 8) (sp : ShT) (tk : TkT) (sv : SvT) (mf mo mn ma : AI) (sp2 : ShT) (tk2 : TkT) (sv2 : SvT) (mf2 mo2 mn2 ma2 : AI) (sp2' : ShT) (tk2' : TkT) (sv2' : SvT) (mf2' mo2' mn2' ma2' : AI) : putL (List.take (List.length ((cM 0 sp2 tk2 sv2 mf2 mo2 mn2 ma2 .null .null) ++ [.inr (.inl (1, 40, .inr (.inl (sv.2.2.2.2.2 j))))])) (rhW j)) (((cM 0 sp2' tk2' sv2' mf2' mo2' mn2' ma2' .null .null) ++ [.inr (.inl (1, 40, .inr (.inl (sv.2.2.2.2.2 j))))] : Wd).map (rS (rhW j) (List.length (cM 0 sp tk sv mf mo mn ma kv tv ++ cM 26 sp2 tk2 sv2 mf2 mo2 mn2 ma2 .null .null)))) (cM 0 sp tk sv mf mo mn ma kv tv ++ cM 26 sp2 tk2 sv2 mf2 mo2 mn2 ma2 .null .null) = cM 0 sp tk sv mf mo mn ma kv tv ++ cM 26 sp2' tk2' sv2' mf2' mo2' mn2' ma2' .null .null := by
  have h : putL rhT ((cM 0 sp2' tk2' sv2' mf2' mo2' mn2' ma2' .null .null).map (rS (rhW j) 52)) (cM 0 sp tk sv mf mo mn ma kv tv ++ cM 26 sp2 tk2 sv2 mf2 mo2 mn2 ma2 .null .null) = cM 0 sp tk sv mf mo mn ma kv tv ++ cM 26 sp2' tk2' sv2' mf2' mo2' mn2' ma2' .null .null := by
    have h := hp_of (ρ := rhW j) (W := (cM 0 sp tk sv mf mo mn ma kv tv ++ cM 26 sp2 tk2 sv2 mf2 mo2 mn2 ma2 .null .null)) (wc := cM 0 sp2 tk2 sv2 mf2 mo2 mn2 ma2 .null .null) (u := cM 0 sp tk sv mf mo mn ma kv tv) (v := cM 26 sp2 tk2 sv2 mf2 mo2 mn2 ma2 .null .null) (v' := cM 26 sp2' tk2' sv2' mf2' mo2' mn2' ma2' .null .null) (t := []) rfl (by rw [List.append_nil]) rfl rfl (mpW (j := j) sp2' tk2' sv2' mf2' mo2' mn2' ma2')
    rw [List.append_nil] at h
    exact h
  have e1 : List.take (List.length ((cM 0 sp2 tk2 sv2 mf2 mo2 mn2 ma2 .null .null) ++ [.inr (.inl (1, 40, .inr (.inl (sv.2.2.2.2.2 j))))] : Wd)) (rhW j) = rhT ++ [18 + j] := rfl
  have e2 : List.length (cM 0 sp tk sv mf mo mn ma kv tv ++ cM 26 sp2 tk2 sv2 mf2 mo2 mn2 ma2 .null .null) = 52 := rfl
  rw [e1, e2, List.map_append, putL_app _ _ _ _ _ rfl, h]
  show (cM 0 sp tk sv mf mo mn ma kv tv ++ cM 26 sp2' tk2' sv2' mf2' mo2' mn2' ma2' .null .null).set (18 + j) (.inr (.inl (1, 40, .inr (.inl (sv.2.2.2.2.2 j))))) = _
  have h2 := wM_st hj sp tk sv mf mo mn ma kv tv (sv.2.2.2.2.2 j)
  rw [List.set_append_left _ _ (by show 18 + j < 26; omega), h2, va_up_id]
theorem hwF {x : Nat} {kc kw : Value} (hk : rV (rhF x) 52 kc = kw) (sp : ShT) (tk : TkT) (sv : SvT) (mf mo mn ma : AI) (sp2 : ShT) (tk2 : TkT) (sv2 : SvT) (mf2 mo2 mn2 ma2 : AI) : (List.take (List.length ((cM 0 sp2 tk2 sv2 mf2 mo2 mn2 ma2 .null .null) ++ (cM 26 sp tk sv mf mo mn ma kc (.ref 0)))) (rhF x)).map (fun k => (cM 0 sp tk sv mf mo mn ma kw (.ref 26) ++ cM 26 sp2 tk2 sv2 mf2 mo2 mn2 ma2 .null .null)[k]?) = ((cM 0 sp2 tk2 sv2 mf2 mo2 mn2 ma2 .null .null) ++ (cM 26 sp tk sv mf mo mn ma kc (.ref 0)) : Wd).map (fun z => some (rS (rhF x) (List.length (cM 0 sp tk sv mf mo mn ma kw (.ref 26) ++ cM 26 sp2 tk2 sv2 mf2 mo2 mn2 ma2 .null .null)) z)) := by
  have h0 : rhT.map (fun k => (cM 0 sp tk sv mf mo mn ma kw (.ref 26) ++ cM 26 sp2 tk2 sv2 mf2 mo2 mn2 ma2 .null .null)[k]?) = (cM 0 sp2 tk2 sv2 mf2 mo2 mn2 ma2 .null .null).map (fun z => some (rS (rhF x) 52 z)) := hw_of (ρ := rhF x) (W := (cM 0 sp tk sv mf mo mn ma kw (.ref 26) ++ cM 26 sp2 tk2 sv2 mf2 mo2 mn2 ma2 .null .null)) (wc := cM 0 sp2 tk2 sv2 mf2 mo2 mn2 ma2 .null .null) (u := cM 0 sp tk sv mf mo mn ma kw (.ref 26)) (v := cM 26 sp2 tk2 sv2 mf2 mo2 mn2 ma2 .null .null) (t := []) rfl (by rw [List.append_nil]) rfl (mpF0 (x := x) sp2 tk2 sv2 mf2 mo2 mn2 ma2)
  have h1 : (List.range' 0 26).map (fun k => (cM 0 sp tk sv mf mo mn ma kw (.ref 26) ++ cM 26 sp2 tk2 sv2 mf2 mo2 mn2 ma2 .null .null)[k]?) = (cM 26 sp tk sv mf mo mn ma kc (.ref 0)).map (fun z => some (rS (rhF x) 52 z)) := by
    have e : (cM 26 sp tk sv mf mo mn ma kc (.ref 0)).map (fun z => some (rS (rhF x) 52 z)) = (cM 0 sp tk sv mf mo mn ma kw (.ref 26)).map some := by
      rw [← mpF1 (x := x) hk sp tk sv mf mo mn ma, List.map_map]; rfl
    rw [e]
    exact rg_map (u := []) (v := cM 0 sp tk sv mf mo mn ma kw (.ref 26)) (t := cM 26 sp2 tk2 sv2 mf2 mo2 mn2 ma2 .null .null)
  show (rhT ++ List.range' 0 26).map (fun k => (cM 0 sp tk sv mf mo mn ma kw (.ref 26) ++ cM 26 sp2 tk2 sv2 mf2 mo2 mn2 ma2 .null .null)[k]?) = ((cM 0 sp2 tk2 sv2 mf2 mo2 mn2 ma2 .null .null) ++ (cM 26 sp tk sv mf mo mn ma kc (.ref 0)) : Wd).map (fun z => some (rS (rhF x) 52 z))
  rw [List.map_append, List.map_append, h0, h1]
theorem hpF {x : Nat} {kc kw : Value} (hk : rV (rhF x) 52 kc = kw)  (sp : ShT) (tk : TkT) (sv : SvT) (mf mo mn ma : AI) (sp2 : ShT) (tk2 : TkT) (sv2 : SvT) (mf2 mo2 mn2 ma2 : AI) (sp' : ShT) (tk' : TkT) (sv' : SvT) (mf' mo' mn' ma' : AI) (sp2' : ShT) (tk2' : TkT) (sv2' : SvT) (mf2' mo2' mn2' ma2' : AI) : putL (List.take (List.length ((cM 0 sp2 tk2 sv2 mf2 mo2 mn2 ma2 .null .null) ++ (cM 26 sp tk sv mf mo mn ma kc (.ref 0)))) (rhF x)) (((cM 0 sp2' tk2' sv2' mf2' mo2' mn2' ma2' .null .null) ++ (cM 26 sp' tk' sv' mf' mo' mn' ma' kc (.ref 0)) : Wd).map (rS (rhF x) (List.length (cM 0 sp tk sv mf mo mn ma kw (.ref 26) ++ cM 26 sp2 tk2 sv2 mf2 mo2 mn2 ma2 .null .null)))) (cM 0 sp tk sv mf mo mn ma kw (.ref 26) ++ cM 26 sp2 tk2 sv2 mf2 mo2 mn2 ma2 .null .null) = cM 0 sp' tk' sv' mf' mo' mn' ma' kw (.ref 26) ++ cM 26 sp2' tk2' sv2' mf2' mo2' mn2' ma2' .null .null := by
  have h0 : putL rhT ((cM 0 sp2' tk2' sv2' mf2' mo2' mn2' ma2' .null .null).map (rS (rhF x) 52)) (cM 0 sp tk sv mf mo mn ma kw (.ref 26) ++ cM 26 sp2 tk2 sv2 mf2 mo2 mn2 ma2 .null .null) = cM 0 sp tk sv mf mo mn ma kw (.ref 26) ++ cM 26 sp2' tk2' sv2' mf2' mo2' mn2' ma2' .null .null := by
    have h := hp_of (ρ := rhF x) (W := (cM 0 sp tk sv mf mo mn ma kw (.ref 26) ++ cM 26 sp2 tk2 sv2 mf2 mo2 mn2 ma2 .null .null)) (wc := cM 0 sp2 tk2 sv2 mf2 mo2 mn2 ma2 .null .null) (u := cM 0 sp tk sv mf mo mn ma kw (.ref 26)) (v := cM 26 sp2 tk2 sv2 mf2 mo2 mn2 ma2 .null .null) (v' := cM 26 sp2' tk2' sv2' mf2' mo2' mn2' ma2' .null .null) (t := []) rfl (by rw [List.append_nil]) rfl rfl (mpF0 (x := x) sp2' tk2' sv2' mf2' mo2' mn2' ma2')
    rw [List.append_nil] at h
    exact h
  show putL (rhT ++ List.range' 0 26) (((cM 0 sp2' tk2' sv2' mf2' mo2' mn2' ma2' .null .null) ++ (cM 26 sp' tk' sv' mf' mo' mn' ma' kc (.ref 0)) : Wd).map (rS (rhF x) 52)) (cM 0 sp tk sv mf mo mn ma kw (.ref 26) ++ cM 26 sp2 tk2 sv2 mf2 mo2 mn2 ma2 .null .null) = _
  rw [List.map_append, putL_app _ _ _ _ _ rfl, h0, mpF1 hk sp' tk' sv' mf' mo' mn' ma']
  exact putL_blk (u := []) (v := cM 0 sp tk sv mf mo mn ma kw (.ref 26)) (xs := cM 0 sp' tk' sv' mf' mo' mn' ma' kw (.ref 26)) rfl
set_option maxRecDepth 100000 in
set_option maxHeartbeats 200000 in
theorem mpO : (cM 0 nSh nTk nSv zI zI zI zI .null .null).map (rS [26, 27, 28, 29, 30, 31, 32, 33, 34, 35, 36, 37, 38, 39, 40, 41, 42, 43, 44, 45, 46, 47, 48, 49, 50, 51] 52) = cM 26 nSh nTk nSv zI zI zI zI .null .null := cg rfl (cg rfl (cg rfl (cg rfl (cg (rS_rfC _ _ _ _ _) rfl))))
set_option maxRecDepth 100000 in
set_option maxHeartbeats 200000 in
theorem hpO (sp : ShT) (tk : TkT) (sv : SvT) (mf mo mn ma : AI) (kv tv : Value) : putL (List.take 26 [26, 27, 28, 29, 30, 31, 32, 33, 34, 35, 36, 37, 38, 39, 40, 41, 42, 43, 44, 45, 46, 47, 48, 49, 50, 51]) ((cM 0 nSh nTk nSv zI zI zI zI .null .null).map (rS [26, 27, 28, 29, 30, 31, 32, 33, 34, 35, 36, 37, 38, 39, 40, 41, 42, 43, 44, 45, 46, 47, 48, 49, 50, 51] 52)) (cM 0 sp tk sv mf mo mn ma kv tv ++ (.inr (.inr (4, [.null, .null, .null, .null, .null, .null, .null, .int 0, .null, .int 0, .null, .null, .null, .int 0, .null, .null, .int 0, .int 0, .int 0, .null, .null, .int 0, .int 0, .int 0, .int 0, .int 0, .null, .int 0, .null, .null, .null])) :: abM.tail)) = cM 0 sp tk sv mf mo mn ma kv tv ++ cM 26 nSh nTk nSv zI zI zI zI .null .null := by
  rw [mpO]
  have h := putL_end (u := cM 0 sp tk sv mf mo mn ma kv tv) (v := .inr (.inr (4, [.null, .null, .null, .null, .null, .null, .null, .int 0, .null, .int 0, .null, .null, .null, .int 0, .null, .null, .int 0, .int 0, .int 0, .null, .null, .int 0, .int 0, .int 0, .int 0, .int 0, .null, .int 0, .null, .null, .null])) :: abM.tail) (xs := cM 26 nSh nTk nSv zI zI zI zI .null .null) rfl
  have e1 : List.range' (cM 0 sp tk sv mf mo mn ma kv tv).length (cM 26 nSh nTk nSv zI zI zI zI .null .null).length = List.take 26 [26, 27, 28, 29, 30, 31, 32, 33, 34, 35, 36, 37, 38, 39, 40, 41, 42, 43, 44, 45, 46, 47, 48, 49, 50, 51] := rfl
  rw [e1] at h
  exact h
theorem wA_app {w v : Wd} {k : Nat} {e : va_E} (h : wA w k = some e) : wA (w ++ v) k = some e := by
  have hl := wA_lt h
  rw [wA_iff] at h ⊢
  rw [List.getElem?_append_left hl]
  exact h
theorem rn_id2 {n m : Nat} (h : n ≤ m) (j : Nat) : rn (List.range m) n j = j := by
  unfold rn
  rw [List.getD_eq_getElem?_getD]
  by_cases hj : j < m
  · rw [List.getElem?_range hj]; rfl
  · rw [List.getElem?_eq_none (by rw [List.length_range]; omega), if_neg (by omega)]; rfl
theorem rS_id2 {n m : Nat} (h : n ≤ m) (x : Nat ⊕ va_E) : rS (List.range m) n x = x := by
  cases x with
  | inl a => rfl
  | inr e => exact congrArg Sum.inr (tE_id (rn_id2 h) e)
theorem hwId2 {w : Wd} {m : Nat} (h : w.length ≤ m) : (List.take w.length (List.range m)).map (fun k => w[k]?) = w.map (fun x => some (rS (List.range m) w.length x)) := by
  apply List.ext_getElem?
  intro i
  rw [List.getElem?_map, List.getElem?_map, List.getElem?_take]
  by_cases hi : i < w.length
  · rw [if_pos hi, List.getElem?_range (by omega), List.getElem?_eq_getElem hi]
    simp only [Option.map_some, rS_id2 h, Option.some.injEq]
    exact List.getElem?_eq_getElem hi
  · rw [if_neg hi, List.getElem?_eq_none (by omega)]; rfl
theorem hpId2 {w0 w w' : Wd} {m : Nat} (h : w.length ≤ m) (h' : w'.length = w.length) (h0 : w0.length = w.length := by exact rfl) : putL (List.take w0.length (List.range m)) (w'.map (rS (List.range m) w.length)) w = w' := by
  rw [h0]
  apply List.ext_getElem?
  intro i
  by_cases hi : i < w.length
  · rw [putL_in _ _ _ i i (List.Nodup.sublist (List.take_sublist _ _) List.nodup_range) (by rw [List.getElem?_take, if_pos hi, List.getElem?_range (by omega)]) hi (by rw [List.length_map]; omega), List.getElem?_map]
    cases w'[i]? with
    | none => rfl
    | some x => simp [rS_id2 h]
  · rw [List.getElem?_eq_none (by rw [putL_len]; omega), List.getElem?_eq_none (by omega)]
section CVA
variable {l : Launch} {D : va_G} {cT : Nat → ClassId} {O : Own} {code : ByteArray} {nL fr lo Rc Rs : Nat} {g : GT} {bc bs : Nat}
variable {y : MethodName} {ycode : ByteArray} {ynL yfr ylo : Nat} {yret : Option FieldType} {As : List Value} {wc wc' : Wd}
variable {pc ix : Nat} {L : List (Option Value)} {rest st st2 : List Value} {w w2 : Wd}
theorem m_cVa {bc' bs' : Nat} {r : Option Value} (M : MB l D cT O code nL fr lo Rc Rs g) (K : Runs l D cT y ycode ynL yret yfr ylo (.ref 0 :: As) wc (EQ r wc')) {ci : Nat} {fs : List Value} (hy : CV y ycode ynL yret As.length ci) (hl : Cond.methodLink O.1 ix y ∈ gw ∨ Cond.methodLinkNest O.1 ix y "BackByTwice" ∈ nw) (hd : decode code pc = .ok (.invokevirtual ix, 3))
    (ρ : List Nat) (hnd : ρ.Nodup) (hle : wc.length ≤ ρ.length ∧ ρ.length ≤ 1000) (hw : (ρ.take wc.length).map (fun k => w[k]?) = wc.map (fun x => some (rS ρ w.length x))) (hst : st = ((.ref 0 :: As).map (rV ρ w.length)).reverse ++ rest) (h0 : wc[0]? = some (.inr (.inr (ci, fs)))) (hcat : (rest.map fun v => v.category).sum ≤ 8) (hroom : yfr + 1 ≤ fr ∧ 8 + (ynL + 11) + ylo ≤ lo) (hc : bc + potC wc = bc') (hs : bs + potS wc = bs') (hbud : bc' ≤ Rc ∧ bs' ≤ Rs)
    (hNR : NRW w) (hrf : rfB w L rest = true) (hw2 : putL (ρ.take wc.length) (wc'.map (rS ρ w.length)) w = w2) (hst2 : (r.map (rV ρ w.length)).toList ++ rest = st2) (kk : g bc' bs' w2 (pc + 3) L st2) : g bc bs w pc L st :=
  m_cV M K hy hl hd ρ hnd hle hw hst h0 hcat hroom (by rw [hc, hs]; exact hbud) (Or.inr ⟨hNR, hrf⟩) (fun a b hab _ => by obtain ⟨rfl, rfl⟩ := hab; rw [hc, hs, hw2, hst2]; exact kk)
theorem m_cT {r : Option Value} (M : MB l D cT O code nL fr lo Rc Rs g) (K : Runs l D cT y ycode ynL yret yfr ylo (.ref 0 :: As) wc (EQ r wc')) {ci : Nat} {fs : List Value} (hy : CV y ycode ynL yret As.length ci) (hl : Cond.methodLink O.1 ix y ∈ gw ∨ Cond.methodLinkNest O.1 ix y "BackByTwice" ∈ nw) (hd : decode code pc = .ok (.invokevirtual ix, 3))
    (ρ : List Nat) (hnd : ρ.Nodup) (hle : wc.length ≤ ρ.length ∧ ρ.length ≤ 1000) (hw : (ρ.take wc.length).map (fun k => w[k]?) = wc.map (fun x => some (rS ρ w.length x))) (hst : st = ((.ref 0 :: As).map (rV ρ w.length)).reverse ++ rest) (h0 : wc[0]? = some (.inr (.inr (ci, fs)))) (hcat : (rest.map fun v => v.category).sum ≤ 8) (hroom : yfr + 1 ≤ fr ∧ 8 + (ynL + 11) + ylo ≤ lo)
    {m n : Nat} (hpot : potC wc = m ∧ potS wc = n) (hB : bc + m ≤ Rc ∧ bs + n ≤ Rs) (hNR : NRW w) (hrf : rfB w L rest = true) (hw2 : putL (ρ.take wc.length) (wc'.map (rS ρ w.length)) w = w2) (hst2 : (r.map (rV ρ w.length)).toList ++ rest = st2) (kk : ∀ bc bs : Nat, bc + potM true ≤ Rc ∧ bs + potN true ≤ Rs → g bc bs w2 (pc + 3) L st2) : g bc bs w pc L st :=
  m_cV M K hy hl hd ρ hnd hle hw hst h0 hcat hroom (by rw [hpot.1, hpot.2]; exact hB) (Or.inr ⟨hNR, hrf⟩) (fun a b hab _ => by obtain ⟨rfl, rfl⟩ := hab; rw [hpot.1, hpot.2, hw2, hst2]; exact kk _ _ hB)
end CVA
theorem runs_ofT {l : Launch} {D : va_G} {cT : Nat → ClassId} (O : Own) {y : MethodName} {code : ByteArray} {nL : Nat} {ret : Option FieldType} {fr lo : Nat} {As : List Value} {w : Wd} {E : Option Value → Wd → Prop} (hO : okO O = true) (hy : plainFor y = true) (hyc : y.cls = O.1) (hA : As.all okArg = true) (hn : (entL As).length ≤ nL) (hwl : w.length ≤ 1000) {m n : Nat} (hpot : potC w = m ∧ potS w = n)
    (body : ∀ (g : GT) (Rc Rs : Nat), 0 + m ≤ Rc ∧ 0 + n ≤ Rs → MR l D cT O code nL fr lo Rc Rs g ret E → g 0 0 w 0 (ent nL As) []) : Runs l D cT y code nL ret fr lo As w E :=
  runs_of O hO hy hyc hA hn hwl (fun g K => body g _ _ ⟨by rw [hpot.1]; omega, by rw [hpot.2]; omega⟩ K)
theorem hwG {x : Nat} {kc kw : Value} (hk : rV (rhF x) 52 kc = kw) (sp : ShT) (tk : TkT) (sv : SvT) (mf mo mn ma : AI) (sp2 : ShT) (tk2 : TkT) (sv2 : SvT) (mf2 mo2 mn2 ma2 : AI) : (List.take (List.length ((cM 0 sp2 tk2 sv2 mf2 mo2 mn2 ma2 .null .null) ++ (cM 26 sp tk sv mf mo mn ma (.ref 0) kc))) (rhF x)).map (fun k => (cM 0 sp tk sv mf mo mn ma (.ref 26) kw ++ cM 26 sp2 tk2 sv2 mf2 mo2 mn2 ma2 .null .null)[k]?) = ((cM 0 sp2 tk2 sv2 mf2 mo2 mn2 ma2 .null .null) ++ (cM 26 sp tk sv mf mo mn ma (.ref 0) kc) : Wd).map (fun z => some (rS (rhF x) (List.length (cM 0 sp tk sv mf mo mn ma (.ref 26) kw ++ cM 26 sp2 tk2 sv2 mf2 mo2 mn2 ma2 .null .null)) z)) := by
  have h0 : rhT.map (fun k => (cM 0 sp tk sv mf mo mn ma (.ref 26) kw ++ cM 26 sp2 tk2 sv2 mf2 mo2 mn2 ma2 .null .null)[k]?) = (cM 0 sp2 tk2 sv2 mf2 mo2 mn2 ma2 .null .null).map (fun z => some (rS (rhF x) 52 z)) := hw_of (ρ := rhF x) (W := (cM 0 sp tk sv mf mo mn ma (.ref 26) kw ++ cM 26 sp2 tk2 sv2 mf2 mo2 mn2 ma2 .null .null)) (wc := cM 0 sp2 tk2 sv2 mf2 mo2 mn2 ma2 .null .null) (u := cM 0 sp tk sv mf mo mn ma (.ref 26) kw) (v := cM 26 sp2 tk2 sv2 mf2 mo2 mn2 ma2 .null .null) (t := []) rfl (by rw [List.append_nil]) rfl (mpF0 (x := x) sp2 tk2 sv2 mf2 mo2 mn2 ma2)
  have h1 : (List.range' 0 26).map (fun k => (cM 0 sp tk sv mf mo mn ma (.ref 26) kw ++ cM 26 sp2 tk2 sv2 mf2 mo2 mn2 ma2 .null .null)[k]?) = (cM 26 sp tk sv mf mo mn ma (.ref 0) kc).map (fun z => some (rS (rhF x) 52 z)) := by
    have e : (cM 26 sp tk sv mf mo mn ma (.ref 0) kc).map (fun z => some (rS (rhF x) 52 z)) = (cM 0 sp tk sv mf mo mn ma (.ref 26) kw).map some := by
      rw [← mpG1 (x := x) hk sp tk sv mf mo mn ma, List.map_map]; rfl
    rw [e]
    exact rg_map (u := []) (v := cM 0 sp tk sv mf mo mn ma (.ref 26) kw) (t := cM 26 sp2 tk2 sv2 mf2 mo2 mn2 ma2 .null .null)
  show (rhT ++ List.range' 0 26).map (fun k => (cM 0 sp tk sv mf mo mn ma (.ref 26) kw ++ cM 26 sp2 tk2 sv2 mf2 mo2 mn2 ma2 .null .null)[k]?) = ((cM 0 sp2 tk2 sv2 mf2 mo2 mn2 ma2 .null .null) ++ (cM 26 sp tk sv mf mo mn ma (.ref 0) kc) : Wd).map (fun z => some (rS (rhF x) 52 z))
  rw [List.map_append, List.map_append, h0, h1]
theorem hpG {x : Nat} {kc kw : Value} (hk : rV (rhF x) 52 kc = kw)  (sp : ShT) (tk : TkT) (sv : SvT) (mf mo mn ma : AI) (sp2 : ShT) (tk2 : TkT) (sv2 : SvT) (mf2 mo2 mn2 ma2 : AI) (sp' : ShT) (tk' : TkT) (sv' : SvT) (mf' mo' mn' ma' : AI) (sp2' : ShT) (tk2' : TkT) (sv2' : SvT) (mf2' mo2' mn2' ma2' : AI) : putL (List.take (List.length ((cM 0 sp2 tk2 sv2 mf2 mo2 mn2 ma2 .null .null) ++ (cM 26 sp tk sv mf mo mn ma (.ref 0) kc))) (rhF x)) (((cM 0 sp2' tk2' sv2' mf2' mo2' mn2' ma2' .null .null) ++ (cM 26 sp' tk' sv' mf' mo' mn' ma' (.ref 0) kc) : Wd).map (rS (rhF x) (List.length (cM 0 sp tk sv mf mo mn ma (.ref 26) kw ++ cM 26 sp2 tk2 sv2 mf2 mo2 mn2 ma2 .null .null)))) (cM 0 sp tk sv mf mo mn ma (.ref 26) kw ++ cM 26 sp2 tk2 sv2 mf2 mo2 mn2 ma2 .null .null) = cM 0 sp' tk' sv' mf' mo' mn' ma' (.ref 26) kw ++ cM 26 sp2' tk2' sv2' mf2' mo2' mn2' ma2' .null .null := by
  have h0 : putL rhT ((cM 0 sp2' tk2' sv2' mf2' mo2' mn2' ma2' .null .null).map (rS (rhF x) 52)) (cM 0 sp tk sv mf mo mn ma (.ref 26) kw ++ cM 26 sp2 tk2 sv2 mf2 mo2 mn2 ma2 .null .null) = cM 0 sp tk sv mf mo mn ma (.ref 26) kw ++ cM 26 sp2' tk2' sv2' mf2' mo2' mn2' ma2' .null .null := by
    have h := hp_of (ρ := rhF x) (W := (cM 0 sp tk sv mf mo mn ma (.ref 26) kw ++ cM 26 sp2 tk2 sv2 mf2 mo2 mn2 ma2 .null .null)) (wc := cM 0 sp2 tk2 sv2 mf2 mo2 mn2 ma2 .null .null) (u := cM 0 sp tk sv mf mo mn ma (.ref 26) kw) (v := cM 26 sp2 tk2 sv2 mf2 mo2 mn2 ma2 .null .null) (v' := cM 26 sp2' tk2' sv2' mf2' mo2' mn2' ma2' .null .null) (t := []) rfl (by rw [List.append_nil]) rfl rfl (mpF0 (x := x) sp2' tk2' sv2' mf2' mo2' mn2' ma2')
    rw [List.append_nil] at h
    exact h
  show putL (rhT ++ List.range' 0 26) (((cM 0 sp2' tk2' sv2' mf2' mo2' mn2' ma2' .null .null) ++ (cM 26 sp' tk' sv' mf' mo' mn' ma' (.ref 0) kc) : Wd).map (rS (rhF x) 52)) (cM 0 sp tk sv mf mo mn ma (.ref 26) kw ++ cM 26 sp2 tk2 sv2 mf2 mo2 mn2 ma2 .null .null) = _
  rw [List.map_append, putL_app _ _ _ _ _ rfl, h0, mpG1 hk sp' tk' sv' mf' mo' mn' ma']
  exact putL_blk (u := []) (v := cM 0 sp tk sv mf mo mn ma (.ref 26) kw) (xs := cM 0 sp' tk' sv' mf' mo' mn' ma' (.ref 26) kw) rfl
