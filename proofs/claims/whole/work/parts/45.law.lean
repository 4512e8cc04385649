/-! ===== the law: out of the skeleton, then its own machine ===== -/
/-! THE CLAIM OUT OF ONE WALK OF THE LAW'S BODY. Your part is whole_start (and what it stands on); all else here is the same for every law, but numbers. -/
def R_law : String := "BackByTwiceLaw"
def lw_P (b : Addr) (xs : List Int32) (args : Array Value) (s : State) : Prop := args = #[.ref b] ∧ s.IntsAt b xs ∧ xs.length ≤ 3072 ∧ (Jvm.Cond.and given_1 narrow_1).before args s = true
def lw_Q (_ : Array Value) (s : State) (o : Outcome) (t : State) : Prop := o = .returned (some (.int 1)) ∧ Framed s o t [] 600000 7302250
def lw_Z (below : List Frame) (a : Array Value) (s : State) : State → Prop := fun t => ∃ o, t.status = .running ∧ Ended t below o ∧ lw_Q a s o t
/-- the law's own end, with 1 on the stack, nothing written that was there before, its room as the claim has it -/
theorem lw_ret {p : Program} {l : Launch} {e : Env} {s : State} {m : MethodId} {below : List Frame} {meth : Method} {c : Code} {b : Nat} (hx : p.tables.exec = Jvm.exec) (hb : c.code = code) (hr : meth.sig.returnType = ret) (hlocks : meth.locks = false) {pc : Nat} {H : Heap} {ls : Array Slot} (hdg : decode code pc = .ok (.ireturn, 1)) : W p l e room_1 s m #[Value.ref b] below meth c H [] 600000 7302250 (lw_Z below #[Value.ref b] s) (F0 m pc ls [.int 1]) := by
  intro T hT X
  obtain ⟨fs, hret, hrun, hended, hW, hframe⟩ := X.leave (v := some (.int 1)) (hlocks := hlocks) (fun h => by rw [hr] at h; cases h)
  have hmeth' : T.vm.method? m = some meth := X.method'
  refine ⟨T.setFrames fs, ?_, .returned (some (.int 1)), hrun, hended, rfl, ⟨_, rfl⟩, hW, hframe⟩
  jvm_step X.here [X.here.top, hx, hb, hdg, hmeth', hr, ret, narrow_b1]
  (try refine ⟨rfl, ?_⟩); (try refine ⟨rfl, ?_⟩)
  first | (intro acts; rw [hret _ acts rfl rfl rfl]) | rw [hret _ _ rfl rfl rfl]
  exact Steps.refl _
/-- what holds at the law's entry: the machine, the code, the tables' words (any of lw_tbl by 'hts w (by decide +kernel)'), the script of L ints xs at the cell b, what the Statement gives of the start (any of its parts by flat_of_before) -/
def lw_At (p : Program) (s : State) (m : MethodId) (meth : Method) (c : Code) (b L : Nat) (xs : Nat → Int32) : Prop :=
  p.tables.exec = Jvm.exec ∧ c.code = code ∧ meth.sig.returnType = ret ∧ c.maxLocals = 4 ∧ s.vm.findClass R_law = some m.cls ∧ (∀ w ∈ lw_tbl, w.before #[Value.ref b] s = true) ∧ va_X b L xs s s.heap ∧ b < s.heap.size ∧ meth.locks = false ∧ (Jvm.Cond.and given_1 narrow_1).before #[Value.ref b] s = true
def ML (l : Launch) (D : va_G) (cT : Nat → ClassId) (b Ln : Nat) (xs : Nat → Int32) (g : GT) : Prop :=
  ∃ (p : Program) (e : Env) (s : State) (m : MethodId) (below : List Frame) (meth : Method) (c : Code) (q0 : Nat → Nat) (w0 : Wd),
    FX p s m #[Value.ref b] meth c D cT 4 s.heap.size O_L.1 code ∧ (SS cT (AF q0 w0 s.heap.size) s s.heap ∧ Zq cT q0 ∧ w0.length ≤ 1000) ∧ (g = fun bc bs w pc L st => GG p l e room_1 s m #[Value.ref b] below meth c D cT 4 q0 w0 s.heap.size (lw_Z below #[Value.ref b] s) bc bs w pc L st) ∧ va_X b Ln xs s s.heap ∧ b < s.heap.size ∧ (∀ k, wA w0 k = none) ∧ w0.length ≤ 900 ∧ q0 900 = b ∧ meth.sig.returnType = ret
section LAWM
variable {l : Launch} {D : va_G} {cT : Nat → ClassId} {b Ln : Nat} {xs : Nat → Int32} {g : GT} {pc bc bs : Nat} {L : List (Option Value)} {rest : List Value} {w : Wd}
theorem ML.mb (M : ML l D cT b Ln xs g) : MB l D cT O_L code 4 11 388 600000 7302250 g := by
  obtain ⟨p, e, s, m, below, meth, c, q0, w0, h1, h2, h3, -⟩ := M
  exact ⟨p, e, room_1, s, m, _, below, meth, c, q0, w0, _, _, h1, okO_L, rfl, rfl, rfl, rfl, h2, h3⟩
theorem AF_no {q0 : Nat → Nat} {w0 : Wd} {sz a : Nat} (h : ∀ k, wA w0 k = none) (ha : a < sz) : ¬ AF q0 w0 sz a := by
  rintro (⟨k, e, h1, -⟩ | h1)
  · rw [h k] at h1; cases h1
  · omega
theorem m_sld (M : ML l D cT b Ln xs g) {i v : Int32} (hin : inB i Ln = true) (hv : xs i.toNatClampNeg = v) (hd : decode code pc = .ok (.iaload, 1)) (kk : g bc bs w (pc + 1) L (.int v :: rest)) : g bc bs w pc L (.int i :: .ref 900 :: rest) := by
  obtain ⟨p, en, s, m, below, meth, c, q0, w0, ⟨hx, hb, hml, hown, hts, hK, hlk, hsz⟩, hS, rfl, hX, hbl, hno, hl, hq, hr⟩ := M
  subst hv
  intro q H locs ls cells slots a1 a2 a3 a4 a5 a6 a7
  have hqb : q 900 = b := (a1.1 900 (Or.inr hl)).trans hq
  show W p l en room_1 s m _ below meth c H locs cells slots _ (F0 m pc ls (.int i :: .ref (q 900) :: rest.map (tV q)))
  rw [hqb]
  exact va_sld hx hb hX hbl (AF_no hno hbl) a4 (inB_use hin) hd (kk q H locs ls cells slots a1 a2 a3 a4 a5 a6 a7)
theorem m_slen (M : ML l D cT b Ln xs g) (hd : decode code pc = .ok (.arraylength, 1)) (kk : g bc bs w (pc + 1) L (.int (Int32.ofNat Ln) :: rest)) : g bc bs w pc L (.ref 900 :: rest) := by
  obtain ⟨p, en, s, m, below, meth, c, q0, w0, ⟨hx, hb, hml, hown, hts, hK, hlk, hsz⟩, hS, rfl, hX, hbl, hno, hl, hq, hr⟩ := M
  intro q H locs ls cells slots a1 a2 a3 a4 a5 a6 a7
  have hqb : q 900 = b := (a1.1 900 (Or.inr hl)).trans hq
  show W p l en room_1 s m _ below meth c H locs cells slots _ (F0 m pc ls (.ref (q 900) :: rest.map (tV q)))
  rw [hqb]
  exact va_slen hx hb hX hbl (AF_no hno hbl) a4 hd (kk q H locs ls cells slots a1 a2 a3 a4 a5 a6 a7)
theorem m_lend (M : ML l D cT b Ln xs g) (hd : decode code pc = .ok (.ireturn, 1)) (hc : bc ≤ 600000) (hs : bs ≤ 7302250) : g bc bs w pc L [.int 1] := by
  obtain ⟨p, en, s, m, below, meth, c, q0, w0, ⟨hx, hb, hml, hown, hts, hK, hlk, hsz⟩, hS, rfl, hX, hbl, hno, hl, hq, hr⟩ := M
  intro q H locs ls cells slots a1 a2 a3 a4 a5 a6 a7
  refine va_forget (fun x hx9 => ?_) (W.widen (k := 600000) (n := 7302250) (by omega) (by omega) ?_)
  · rcases a4.2.2 x hx9 with ⟨k, e9, h9, -⟩ | h9
    · rw [hno k] at h9; cases h9
    · exact h9
  · exact lw_ret hx hb hr hlk hd
end LAWM
theorem lg_self (x : Int64) : lg_cmp x x = 0 := by
  unfold lg_cmp
  rw [if_neg (fun h => Int64.lt_irrefl h), if_pos rfl]
def lW (tr : ShT) (kp : ShT) (th : ShT) (ot : ShT) (tp : TpT) (sl : (Nat → SlT)) (pk : AI) (rf : AI) (ik : Int32) (sp : ShT) (tk : TkT) (sv : SvT) (mf : AI) (mo : AI) (mn : AI) (ma : AI) (kb : Bool) (tb : Bool) (tpm : ShT) (tfm : AI) (kpm : ShT) (kfm : AI) : Wd := cX tr kp th ot tp sl pk rf ik ++ (cM 46 sp tk sv mf mo mn ma (vb kb 98) (vb tb 72) ++ (cMo 72 tb tpm tfm ++ cMo 98 kb kpm kfm))
theorem len_L (tr : ShT) (kp : ShT) (th : ShT) (ot : ShT) (tp : TpT) (sl : (Nat → SlT)) (pk : AI) (rf : AI) (ik : Int32) (sp : ShT) (tk : TkT) (sv : SvT) (mf : AI) (mo : AI) (mn : AI) (ma : AI) (kb : Bool) (tb : Bool) (tpm : ShT) (tfm : AI) (kpm : ShT) (kfm : AI) : (lW tr kp th ot tp sl pk rf ik sp tk sv mf mo mn ma kb tb tpm tfm kpm kfm).length = 124 := by
  cases kb <;> cases tb <;> rfl
theorem rg124 : (List.range 124).take 46 = List.range' 0 46 := by decide +kernel
theorem mpX (w : Wd) : w.map (rS (List.range 124) 124) = w := (List.map_congr_left (fun z _ => rS_id 124 z)).trans (List.map_id' w)
set_option maxRecDepth 100000 in
set_option maxHeartbeats 1000000 in
theorem hwX (tr : ShT) (kp : ShT) (th : ShT) (ot : ShT) (tp : TpT) (sl : (Nat → SlT)) (pk : AI) (rf : AI) (ik : Int32) (sp : ShT) (tk : TkT) (sv : SvT) (mf : AI) (mo : AI) (mn : AI) (ma : AI) (kb : Bool) (tb : Bool) (tpm : ShT) (tfm : AI) (kpm : ShT) (kfm : AI) : (List.take (List.length (cX tr kp th ot tp sl pk rf ik)) (List.range 124)).map (fun k => (lW tr kp th ot tp sl pk rf ik sp tk sv mf mo mn ma kb tb tpm tfm kpm kfm)[k]?) = (cX tr kp th ot tp sl pk rf ik).map (fun z => some (rS (List.range 124) (List.length (lW tr kp th ot tp sl pk rf ik sp tk sv mf mo mn ma kb tb tpm tfm kpm kfm)) z)) :=
  hw_of (u := []) (v := (cX tr kp th ot tp sl pk rf ik)) (t := (cM 46 sp tk sv mf mo mn ma (vb kb 98) (vb tb 72) ++ (cMo 72 tb tpm tfm ++ cMo 98 kb kpm kfm))) (len_L tr kp th ot tp sl pk rf ik sp tk sv mf mo mn ma kb tb tpm tfm kpm kfm) rfl rg124 (mpX _)
set_option maxRecDepth 100000 in
set_option maxHeartbeats 1000000 in
theorem hpX (tr : ShT) (kp : ShT) (th : ShT) (ot : ShT) (tp : TpT) (sl : (Nat → SlT)) (pk : AI) (rf : AI) (ik : Int32) (sp : ShT) (tk : TkT) (sv : SvT) (mf : AI) (mo : AI) (mn : AI) (ma : AI) (kb : Bool) (tb : Bool) (tpm : ShT) (tfm : AI) (kpm : ShT) (kfm : AI) (tr' : ShT) (kp' : ShT) (th' : ShT) (ot' : ShT) (tp' : TpT) (sl' : (Nat → SlT)) (pk' : AI) (rf' : AI) (ik' : Int32) : putL (List.take (List.length (cX tr kp th ot tp sl pk rf ik)) (List.range 124)) ((cX tr' kp' th' ot' tp' sl' pk' rf' ik').map (rS (List.range 124) (List.length (lW tr kp th ot tp sl pk rf ik sp tk sv mf mo mn ma kb tb tpm tfm kpm kfm)))) (lW tr kp th ot tp sl pk rf ik sp tk sv mf mo mn ma kb tb tpm tfm kpm kfm) = (lW tr' kp' th' ot' tp' sl' pk' rf' ik' sp tk sv mf mo mn ma kb tb tpm tfm kpm kfm) :=
  hp_of (W := (lW tr kp th ot tp sl pk rf ik sp tk sv mf mo mn ma kb tb tpm tfm kpm kfm)) (u := []) (v := (cX tr kp th ot tp sl pk rf ik)) (v' := (cX tr' kp' th' ot' tp' sl' pk' rf' ik')) (t := (cM 46 sp tk sv mf mo mn ma (vb kb 98) (vb tb 72) ++ (cMo 72 tb tpm tfm ++ cMo 98 kb kpm kfm))) (len_L tr kp th ot tp sl pk rf ik sp tk sv mf mo mn ma kb tb tpm tfm kpm kfm) rfl rfl rg124 (mpX _)
def rhL1 : List Nat := [46, 47, 48, 49, 50, 51, 52, 53, 54, 55, 56, 57, 58, 59, 60, 61, 62, 63, 64, 65, 66, 67, 68, 69, 70, 71, 98, 72]
def rhLT : List Nat := [46, 47, 48, 49, 50, 51, 52, 53, 54, 55, 56, 57, 58, 59, 60, 61, 62, 63, 64, 65, 66, 67, 68, 69, 70, 71, 72, 73, 74, 75, 76, 77, 78, 79, 80, 81, 82, 83, 84, 85, 86, 87, 88, 89, 90, 91, 92, 93, 94, 95, 96, 97, 98]
def rhLK : List Nat := [46, 47, 48, 49, 50, 51, 52, 53, 54, 55, 56, 57, 58, 59, 60, 61, 62, 63, 64, 65, 66, 67, 68, 69, 70, 71, 98, 99, 100, 101, 102, 103, 104, 105, 106, 107, 108, 109, 110, 111, 112, 113, 114, 115, 116, 117, 118, 119, 120, 121, 122, 123, 72]
theorem rv1k (b : Bool) : rV rhL1 124 (vb b 26) = vb b 98 := by cases b <;> rfl
theorem rv1t (b : Bool) : rV rhL1 124 (vb b 27) = vb b 72 := by cases b <;> rfl
set_option maxRecDepth 100000 in
set_option maxHeartbeats 1000000 in
theorem mpL1 (kb tb : Bool) (sp : ShT) (tk : TkT) (sv : SvT) (mf : AI) (mo : AI) (mn : AI) (ma : AI) : (cM 0 sp tk sv mf mo mn ma (vb kb 26) (vb tb 27)).map (rS rhL1 124) = cM 46 sp tk sv mf mo mn ma (vb kb 98) (vb tb 72) := by
  rw [← rv1k kb, ← rv1t tb]
  exact (cg rfl (cg rfl (cg rfl (cg rfl (cg (rS_rfC _ _ _ _ _) rfl)))))
theorem rvTk (b : Bool) : rV rhLT 124 (vb b 52) = vb b 98 := by cases b <;> rfl
theorem rvTt (b : Bool) : rV rhLT 124 (vb b 26) = vb b 72 := by cases b <;> rfl
set_option maxRecDepth 100000 in
set_option maxHeartbeats 1000000 in
theorem mpLT (kb tb : Bool) (sp : ShT) (tk : TkT) (sv : SvT) (mf : AI) (mo : AI) (mn : AI) (ma : AI) : (cM 0 sp tk sv mf mo mn ma (vb kb 52) (vb tb 26)).map (rS rhLT 124) = cM 46 sp tk sv mf mo mn ma (vb kb 98) (vb tb 72) := by
  rw [← rvTk kb, ← rvTt tb]
  exact (cg rfl (cg rfl (cg rfl (cg rfl (cg (rS_rfC _ _ _ _ _) rfl)))))
theorem rvKk (b : Bool) : rV rhLK 124 (vb b 26) = vb b 98 := by cases b <;> rfl
theorem rvKt (b : Bool) : rV rhLK 124 (vb b 52) = vb b 72 := by cases b <;> rfl
set_option maxRecDepth 100000 in
set_option maxHeartbeats 1000000 in
theorem mpLK (kb tb : Bool) (sp : ShT) (tk : TkT) (sv : SvT) (mf : AI) (mo : AI) (mn : AI) (ma : AI) : (cM 0 sp tk sv mf mo mn ma (vb kb 26) (vb tb 52)).map (rS rhLK 124) = cM 46 sp tk sv mf mo mn ma (vb kb 98) (vb tb 72) := by
  rw [← rvKk kb, ← rvKt tb]
  exact (cg rfl (cg rfl (cg rfl (cg rfl (cg (rS_rfC _ _ _ _ _) rfl)))))
set_option maxRecDepth 100000 in
set_option maxHeartbeats 1000000 in
theorem moT (x : Bool) (p : ShT) (f : AI) : (cMo 26 x p f).map (rS rhLT 124) = cMo 72 x p f := by
  cases x
  · rfl
  · exact (cg rfl (cg rfl (cg rfl (cg rfl (cg (rS_rfC _ _ _ _ _) rfl)))))
set_option maxRecDepth 100000 in
set_option maxHeartbeats 1000000 in
theorem moK (x : Bool) (p : ShT) (f : AI) : (cMo 26 x p f).map (rS rhLK 124) = cMo 98 x p f := by
  cases x
  · rfl
  · exact (cg rfl (cg rfl (cg rfl (cg rfl (cg (rS_rfC _ _ _ _ _) rfl)))))
set_option maxRecDepth 100000 in
set_option maxHeartbeats 1000000 in
theorem hwL1 (tr : ShT) (kp : ShT) (th : ShT) (ot : ShT) (tp : TpT) (sl : (Nat → SlT)) (pk : AI) (rf : AI) (ik : Int32) (sp : ShT) (tk : TkT) (sv : SvT) (mf : AI) (mo : AI) (mn : AI) (ma : AI) (kb : Bool) (tb : Bool) (tpm : ShT) (tfm : AI) (kpm : ShT) (kfm : AI) : (List.take (List.length (cM 0 sp tk sv mf mo mn ma (vb kb 26) (vb tb 27))) rhL1).map (fun k => (lW tr kp th ot tp sl pk rf ik sp tk sv mf mo mn ma kb tb tpm tfm kpm kfm)[k]?) = (cM 0 sp tk sv mf mo mn ma (vb kb 26) (vb tb 27)).map (fun z => some (rS rhL1 (List.length (lW tr kp th ot tp sl pk rf ik sp tk sv mf mo mn ma kb tb tpm tfm kpm kfm)) z)) :=
  hw_of (u := (cX tr kp th ot tp sl pk rf ik)) (v := (cM 46 sp tk sv mf mo mn ma (vb kb 98) (vb tb 72))) (t := (cMo 72 tb tpm tfm ++ cMo 98 kb kpm kfm)) (len_L tr kp th ot tp sl pk rf ik sp tk sv mf mo mn ma kb tb tpm tfm kpm kfm) rfl rfl (mpL1 kb tb sp tk sv mf mo mn ma)
set_option maxRecDepth 100000 in
set_option maxHeartbeats 1000000 in
theorem hpL1 (tr : ShT) (kp : ShT) (th : ShT) (ot : ShT) (tp : TpT) (sl : (Nat → SlT)) (pk : AI) (rf : AI) (ik : Int32) (sp : ShT) (tk : TkT) (sv : SvT) (mf : AI) (mo : AI) (mn : AI) (ma : AI) (kb : Bool) (tb : Bool) (tpm : ShT) (tfm : AI) (kpm : ShT) (kfm : AI) (sp' : ShT) (tk' : TkT) (sv' : SvT) (mf' : AI) (mo' : AI) (mn' : AI) (ma' : AI) : putL (List.take (List.length (cM 0 sp tk sv mf mo mn ma (vb kb 26) (vb tb 27))) rhL1) ((cM 0 sp' tk' sv' mf' mo' mn' ma' (vb kb 26) (vb tb 27)).map (rS rhL1 (List.length (lW tr kp th ot tp sl pk rf ik sp tk sv mf mo mn ma kb tb tpm tfm kpm kfm)))) (lW tr kp th ot tp sl pk rf ik sp tk sv mf mo mn ma kb tb tpm tfm kpm kfm) = (lW tr kp th ot tp sl pk rf ik sp' tk' sv' mf' mo' mn' ma' kb tb tpm tfm kpm kfm) :=
  hp_of (W := (lW tr kp th ot tp sl pk rf ik sp tk sv mf mo mn ma kb tb tpm tfm kpm kfm)) (u := (cX tr kp th ot tp sl pk rf ik)) (v := (cM 46 sp tk sv mf mo mn ma (vb kb 98) (vb tb 72))) (v' := (cM 46 sp' tk' sv' mf' mo' mn' ma' (vb kb 98) (vb tb 72))) (t := (cMo 72 tb tpm tfm ++ cMo 98 kb kpm kfm)) (len_L tr kp th ot tp sl pk rf ik sp tk sv mf mo mn ma kb tb tpm tfm kpm kfm) rfl rfl rfl (mpL1 kb tb sp' tk' sv' mf' mo' mn' ma')
set_option maxRecDepth 100000 in
set_option maxHeartbeats 1000000 in
theorem hwLT (tr : ShT) (kp : ShT) (th : ShT) (ot : ShT) (tp : TpT) (sl : (Nat → SlT)) (pk : AI) (rf : AI) (ik : Int32) (sp : ShT) (tk : TkT) (sv : SvT) (mf : AI) (mo : AI) (mn : AI) (ma : AI) (kb : Bool) (tb : Bool) (tpm : ShT) (tfm : AI) (kpm : ShT) (kfm : AI) : (List.take (List.length ((cM 0 sp tk sv mf mo mn ma (vb kb 52) (vb tb 26)) ++ (cMo 26 tb tpm tfm))) rhLT).map (fun k => (lW tr kp th ot tp sl pk rf ik sp tk sv mf mo mn ma kb tb tpm tfm kpm kfm)[k]?) = ((cM 0 sp tk sv mf mo mn ma (vb kb 52) (vb tb 26)) ++ (cMo 26 tb tpm tfm)).map (fun z => some (rS rhLT (List.length (lW tr kp th ot tp sl pk rf ik sp tk sv mf mo mn ma kb tb tpm tfm kpm kfm)) z)) :=
  hw_of (u := (cX tr kp th ot tp sl pk rf ik)) (v := (cM 46 sp tk sv mf mo mn ma (vb kb 98) (vb tb 72) ++ cMo 72 tb tpm tfm)) (t := cMo 98 kb kpm kfm) (len_L tr kp th ot tp sl pk rf ik sp tk sv mf mo mn ma kb tb tpm tfm kpm kfm) (by unfold lW; rw [List.append_assoc]) (by rw [len_T, len_T]; rfl) (by rw [List.map_append, mpLT, moT])
set_option maxRecDepth 100000 in
set_option maxHeartbeats 1000000 in
theorem hpLT (tr : ShT) (kp : ShT) (th : ShT) (ot : ShT) (tp : TpT) (sl : (Nat → SlT)) (pk : AI) (rf : AI) (ik : Int32) (sp : ShT) (tk : TkT) (sv : SvT) (mf : AI) (mo : AI) (mn : AI) (ma : AI) (kb : Bool) (tb : Bool) (tpm : ShT) (tfm : AI) (kpm : ShT) (kfm : AI) (sp' : ShT) (tk' : TkT) (sv' : SvT) (mf' : AI) (mo' : AI) (mn' : AI) (ma' : AI) (tb' : Bool) (tpm' : ShT) (tfm' : AI) : putL (List.take (List.length ((cM 0 sp tk sv mf mo mn ma (vb kb 52) (vb tb 26)) ++ (cMo 26 tb tpm tfm))) rhLT) (((cM 0 sp' tk' sv' mf' mo' mn' ma' (vb kb 52) (vb tb' 26)) ++ (cMo 26 tb' tpm' tfm')).map (rS rhLT (List.length (lW tr kp th ot tp sl pk rf ik sp tk sv mf mo mn ma kb tb tpm tfm kpm kfm)))) (lW tr kp th ot tp sl pk rf ik sp tk sv mf mo mn ma kb tb tpm tfm kpm kfm) = (lW tr kp th ot tp sl pk rf ik sp' tk' sv' mf' mo' mn' ma' kb tb' tpm' tfm' kpm kfm) := by
  have h := hp_of (W := (lW tr kp th ot tp sl pk rf ik sp tk sv mf mo mn ma kb tb tpm tfm kpm kfm)) (wc := ((cM 0 sp tk sv mf mo mn ma (vb kb 52) (vb tb 26)) ++ (cMo 26 tb tpm tfm))) (u := (cX tr kp th ot tp sl pk rf ik)) (v := (cM 46 sp tk sv mf mo mn ma (vb kb 98) (vb tb 72) ++ cMo 72 tb tpm tfm)) (v' := (cM 46 sp' tk' sv' mf' mo' mn' ma' (vb kb 98) (vb tb' 72) ++ cMo 72 tb' tpm' tfm')) (t := cMo 98 kb kpm kfm) (len_L tr kp th ot tp sl pk rf ik sp tk sv mf mo mn ma kb tb tpm tfm kpm kfm) (by unfold lW; rw [List.append_assoc]) (by rw [len_T, len_T]) (by rw [len_T, len_T]; rfl) (show ((cM 0 sp' tk' sv' mf' mo' mn' ma' (vb kb 52) (vb tb' 26)) ++ (cMo 26 tb' tpm' tfm')).map (rS rhLT 124) = _ by rw [List.map_append, mpLT, moT])
  rw [h]
  unfold lW
  rw [List.append_assoc]
theorem rgK : rhLK.take 52 = List.range' 46 26 ++ List.range' 98 26 := by decide +kernel
set_option maxRecDepth 100000 in
set_option maxHeartbeats 1000000 in
theorem hwLK (tr : ShT) (kp : ShT) (th : ShT) (ot : ShT) (tp : TpT) (sl : (Nat → SlT)) (pk : AI) (rf : AI) (ik : Int32) (sp : ShT) (tk : TkT) (sv : SvT) (mf : AI) (mo : AI) (mn : AI) (ma : AI) (kb : Bool) (tb : Bool) (tpm : ShT) (tfm : AI) (kpm : ShT) (kfm : AI) : (List.take (List.length ((cM 0 sp tk sv mf mo mn ma (vb kb 26) (vb tb 52)) ++ (cMo 26 kb kpm kfm))) rhLK).map (fun k => (lW tr kp th ot tp sl pk rf ik sp tk sv mf mo mn ma kb tb tpm tfm kpm kfm)[k]?) = ((cM 0 sp tk sv mf mo mn ma (vb kb 26) (vb tb 52)) ++ (cMo 26 kb kpm kfm)).map (fun z => some (rS rhLK (List.length (lW tr kp th ot tp sl pk rf ik sp tk sv mf mo mn ma kb tb tpm tfm kpm kfm)) z)) := by
  have h0 : (List.range' 46 26).map (fun k => (lW tr kp th ot tp sl pk rf ik sp tk sv mf mo mn ma kb tb tpm tfm kpm kfm)[k]?) = (cM 46 sp tk sv mf mo mn ma (vb kb 98) (vb tb 72)).map some := rg_map (u := (cX tr kp th ot tp sl pk rf ik)) (v := (cM 46 sp tk sv mf mo mn ma (vb kb 98) (vb tb 72))) (t := (cMo 72 tb tpm tfm ++ cMo 98 kb kpm kfm))
  have hu : ((cX tr kp th ot tp sl pk rf ik) ++ (cM 46 sp tk sv mf mo mn ma (vb kb 98) (vb tb 72) ++ cMo 72 tb tpm tfm)).length = 98 := by cases tb <;> rfl
  have hv : (cMo 98 kb kpm kfm).length = 26 := len_Mo _ _ _ _
  have h1 : (List.range' 98 26).map (fun k => (lW tr kp th ot tp sl pk rf ik sp tk sv mf mo mn ma kb tb tpm tfm kpm kfm)[k]?) = (cMo 98 kb kpm kfm).map some := by
    have h := rg_map (u := ((cX tr kp th ot tp sl pk rf ik) ++ (cM 46 sp tk sv mf mo mn ma (vb kb 98) (vb tb 72) ++ cMo 72 tb tpm tfm))) (v := cMo 98 kb kpm kfm) (t := [])
    rw [hu, hv] at h
    have e : (lW tr kp th ot tp sl pk rf ik sp tk sv mf mo mn ma kb tb tpm tfm kpm kfm) = ((cX tr kp th ot tp sl pk rf ik) ++ (cM 46 sp tk sv mf mo mn ma (vb kb 98) (vb tb 72) ++ cMo 72 tb tpm tfm)) ++ (cMo 98 kb kpm kfm ++ []) := by
      unfold lW
      rw [List.append_nil, List.append_assoc, List.append_assoc]
    rw [e]
    exact h
  rw [len_T, len_L, rgK, List.map_append, h0, h1, ← List.map_append, ← mpLK, ← moK, ← List.map_append, List.map_map]
  rfl
set_option maxRecDepth 100000 in
set_option maxHeartbeats 1000000 in
theorem hpLK (tr : ShT) (kp : ShT) (th : ShT) (ot : ShT) (tp : TpT) (sl : (Nat → SlT)) (pk : AI) (rf : AI) (ik : Int32) (sp : ShT) (tk : TkT) (sv : SvT) (mf : AI) (mo : AI) (mn : AI) (ma : AI) (kb : Bool) (tb : Bool) (tpm : ShT) (tfm : AI) (kpm : ShT) (kfm : AI) (sp' : ShT) (tk' : TkT) (sv' : SvT) (mf' : AI) (mo' : AI) (mn' : AI) (ma' : AI) (kb' : Bool) (kpm' : ShT) (kfm' : AI) : putL (List.take (List.length ((cM 0 sp tk sv mf mo mn ma (vb kb 26) (vb tb 52)) ++ (cMo 26 kb kpm kfm))) rhLK) (((cM 0 sp' tk' sv' mf' mo' mn' ma' (vb kb' 26) (vb tb 52)) ++ (cMo 26 kb' kpm' kfm')).map (rS rhLK (List.length (lW tr kp th ot tp sl pk rf ik sp tk sv mf mo mn ma kb tb tpm tfm kpm kfm)))) (lW tr kp th ot tp sl pk rf ik sp tk sv mf mo mn ma kb tb tpm tfm kpm kfm) = (lW tr kp th ot tp sl pk rf ik sp' tk' sv' mf' mo' mn' ma' kb' tb tpm tfm kpm' kfm') := by
  have hu : ((cX tr kp th ot tp sl pk rf ik) ++ (cM 46 sp' tk' sv' mf' mo' mn' ma' (vb kb' 98) (vb tb 72) ++ cMo 72 tb tpm tfm)).length = 98 := by cases tb <;> rfl
  rw [len_T, len_L, rgK, List.map_append, mpLK, moK, putL_app _ _ _ _ _ rfl]
  have h0 : putL (List.range' 46 26) (cM 46 sp' tk' sv' mf' mo' mn' ma' (vb kb' 98) (vb tb 72)) (lW tr kp th ot tp sl pk rf ik sp tk sv mf mo mn ma kb tb tpm tfm kpm kfm) = (cX tr kp th ot tp sl pk rf ik) ++ ((cM 46 sp' tk' sv' mf' mo' mn' ma' (vb kb' 98) (vb tb 72)) ++ (cMo 72 tb tpm tfm ++ cMo 98 kb kpm kfm)) := putL_blk (u := (cX tr kp th ot tp sl pk rf ik)) (v := (cM 46 sp tk sv mf mo mn ma (vb kb 98) (vb tb 72))) (xs := (cM 46 sp' tk' sv' mf' mo' mn' ma' (vb kb' 98) (vb tb 72))) (t := (cMo 72 tb tpm tfm ++ cMo 98 kb kpm kfm)) rfl
  rw [h0]
  have h := putL_blk (u := ((cX tr kp th ot tp sl pk rf ik) ++ (cM 46 sp' tk' sv' mf' mo' mn' ma' (vb kb' 98) (vb tb 72) ++ cMo 72 tb tpm tfm))) (v := cMo 98 kb kpm kfm) (xs := cMo 98 kb' kpm' kfm') (t := []) (by rw [len_Mo, len_Mo])
  rw [hu, len_Mo, List.append_nil, List.append_nil, List.append_assoc, List.append_assoc, List.append_assoc, List.append_assoc] at h
  rw [h]
  rfl
theorem NRL.app {w a b : Wd} (ha : NRL w a) (hb : NRL w b) : NRL w (a ++ b) := by
  induction a with
  | nil => exact hb
  | cons x a ih =>
    cases x with
    | inl n => exact ih ha
    | inr e => exact ⟨ha.1, ih ha.2⟩
theorem rq_x8 {w : Wd} (h0 : prs w 30 = true) (h1 : prs w 32 = true) (h2 : prs w 34 = true) (h3 : prs w 36 = true) (h4 : prs w 38 = true) (h5 : prs w 40 = true) (h6 : prs w 42 = true) (h7 : prs w 44 = true) : rqP w (fun i => ([30, 32, 34, 36, 38, 40, 42, 44] : List Nat)[i]?) := by
  intro i j h
  have hm := List.mem_of_getElem? h
  simp only [List.mem_cons, List.not_mem_nil, or_false] at hm
  rcases hm with rfl | rfl | rfl | rfl | rfl | rfl | rfl | rfl <;> assumption
theorem rq_46 {w : Wd} (h0 : prs w 64 = true) (h1 : prs w 65 = true) (h2 : prs w 66 = true) (h3 : prs w 67 = true) (h4 : prs w 68 = true) (h5 : prs w 69 = true) (h6 : prs w 70 = true) (h7 : prs w 71 = true) : rqP w (fun i => ([64, 65, 66, 67, 68, 69, 70, 71] : List Nat)[i]?) := by
  intro i j h
  have hm := List.mem_of_getElem? h
  simp only [List.mem_cons, List.not_mem_nil, or_false] at hm
  rcases hm with rfl | rfl | rfl | rfl | rfl | rfl | rfl | rfl <;> assumption
theorem rq_72 {w : Wd} (h0 : prs w 90 = true) (h1 : prs w 91 = true) (h2 : prs w 92 = true) (h3 : prs w 93 = true) (h4 : prs w 94 = true) (h5 : prs w 95 = true) (h6 : prs w 96 = true) (h7 : prs w 97 = true) : rqP w (fun i => ([90, 91, 92, 93, 94, 95, 96, 97] : List Nat)[i]?) := by
  intro i j h
  have hm := List.mem_of_getElem? h
  simp only [List.mem_cons, List.not_mem_nil, or_false] at hm
  rcases hm with rfl | rfl | rfl | rfl | rfl | rfl | rfl | rfl <;> assumption
theorem rq_98 {w : Wd} (h0 : prs w 116 = true) (h1 : prs w 117 = true) (h2 : prs w 118 = true) (h3 : prs w 119 = true) (h4 : prs w 120 = true) (h5 : prs w 121 = true) (h6 : prs w 122 = true) (h7 : prs w 123 = true) : rqP w (fun i => ([116, 117, 118, 119, 120, 121, 122, 123] : List Nat)[i]?) := by
  intro i j h
  have hm := List.mem_of_getElem? h
  simp only [List.mem_cons, List.not_mem_nil, or_false] at hm
  rcases hm with rfl | rfl | rfl | rfl | rfl | rfl | rfl | rfl <;> assumption
set_option maxRecDepth 100000 in
set_option maxHeartbeats 4000000 in
theorem nrLX (tr : ShT) (kp : ShT) (th : ShT) (ot : ShT) (tp : TpT) (sl : (Nat → SlT)) (pk : AI) (rf : AI) (ik : Int32) (sp : ShT) (tk : TkT) (sv : SvT) (mf : AI) (mo : AI) (mn : AI) (ma : AI) (kb : Bool) (tb : Bool) (tpm : ShT) (tfm : AI) (kpm : ShT) (kfm : AI) : NRL (lW tr kp th ot tp sl pk rf ik sp tk sv mf mo mn ma kb tb tpm tfm kpm kfm) (cX tr kp th ot tp sl pk rf ik) := (NRL.pr (nre_o rfl) (NRL.pr (nre_o rfl) (NRL.pr nre_i (NRL.pr nre_i (NRL.pr nre_i (NRL.pr nre_i (NRL.pr nre_i (NRL.pr (nre_o rfl) (NRL.pr nre_i (NRL.pr nre_i (NRL.pr nre_i (NRL.pr nre_i (NRL.pr nre_i (NRL.pr (nre_o rfl) (NRL.pr nre_i (NRL.pr nre_i (NRL.pr nre_i (NRL.pr nre_i (NRL.pr nre_i (NRL.pr (nre_o rfl) (NRL.pr nre_i (NRL.pr nre_i (NRL.pr nre_i (NRL.pr nre_i (NRL.pr nre_i (NRL.pr (nre_o rfl) (NRL.pr nre_i (NRL.pr (nre_q (rq_x8 rfl rfl rfl rfl rfl rfl rfl rfl)) (NRL.pr nre_i (NRL.pr nre_i (NRL.pr (nre_o rfl) (NRL.pr nre_l (NRL.pr (nre_o rfl) (NRL.pr nre_l (NRL.pr (nre_o rfl) (NRL.pr nre_l (NRL.pr (nre_o rfl) (NRL.pr nre_l (NRL.pr (nre_o rfl) (NRL.pr nre_l (NRL.pr (nre_o rfl) (NRL.pr nre_l (NRL.pr (nre_o rfl) (NRL.pr nre_l (NRL.pr (nre_o rfl) (NRL.pr nre_l NRL.nil))))))))))))))))))))))))))))))))))))))))))))))
set_option maxRecDepth 100000 in
set_option maxHeartbeats 4000000 in
theorem nrL_tt (tr : ShT) (kp : ShT) (th : ShT) (ot : ShT) (tp : TpT) (sl : (Nat → SlT)) (pk : AI) (rf : AI) (ik : Int32) (sp : ShT) (tk : TkT) (sv : SvT) (mf : AI) (mo : AI) (mn : AI) (ma : AI) (tpm : ShT) (tfm : AI) (kpm : ShT) (kfm : AI) : NRW (lW tr kp th ot tp sl pk rf ik sp tk sv mf mo mn ma true true tpm tfm kpm kfm) := NRL.W (NRL.app (nrLX tr kp th ot tp sl pk rf ik sp tk sv mf mo mn ma true true tpm tfm kpm kfm) (NRL.app (NRL.pr (nre_o rfl) (NRL.pr nre_i (NRL.pr nre_i (NRL.pr nre_i (NRL.pr (nre_q (rq_46 rfl rfl rfl rfl rfl rfl rfl rfl)) (NRL.pr nre_l (NRL.pr nre_i (NRL.pr nre_i (NRL.pr nre_i (NRL.pr nre_i (NRL.pr nre_i (NRL.pr nre_i (NRL.pr nre_i (NRL.pr nre_i (NRL.pr nre_i (NRL.pr nre_i (NRL.pr nre_i (NRL.pr nre_i (NRL.pr nre_l (NRL.pr nre_l (NRL.pr nre_l (NRL.pr nre_l (NRL.pr nre_l (NRL.pr nre_l (NRL.pr nre_l (NRL.pr nre_l NRL.nil)))))))))))))))))))))))))) (NRL.app (NRL.pr (nre_o rfl) (NRL.pr nre_i (NRL.pr nre_i (NRL.pr nre_i (NRL.pr (nre_q (rq_72 rfl rfl rfl rfl rfl rfl rfl rfl)) (NRL.pr nre_l (NRL.pr nre_i (NRL.pr nre_i (NRL.pr nre_i (NRL.pr nre_i (NRL.pr nre_i (NRL.pr nre_i (NRL.pr nre_i (NRL.pr nre_i (NRL.pr nre_i (NRL.pr nre_i (NRL.pr nre_i (NRL.pr nre_i (NRL.pr nre_l (NRL.pr nre_l (NRL.pr nre_l (NRL.pr nre_l (NRL.pr nre_l (NRL.pr nre_l (NRL.pr nre_l (NRL.pr nre_l NRL.nil)))))))))))))))))))))))))) (NRL.pr (nre_o rfl) (NRL.pr nre_i (NRL.pr nre_i (NRL.pr nre_i (NRL.pr (nre_q (rq_98 rfl rfl rfl rfl rfl rfl rfl rfl)) (NRL.pr nre_l (NRL.pr nre_i (NRL.pr nre_i (NRL.pr nre_i (NRL.pr nre_i (NRL.pr nre_i (NRL.pr nre_i (NRL.pr nre_i (NRL.pr nre_i (NRL.pr nre_i (NRL.pr nre_i (NRL.pr nre_i (NRL.pr nre_i (NRL.pr nre_l (NRL.pr nre_l (NRL.pr nre_l (NRL.pr nre_l (NRL.pr nre_l (NRL.pr nre_l (NRL.pr nre_l (NRL.pr nre_l NRL.nil)))))))))))))))))))))))))))))
set_option maxRecDepth 100000 in
set_option maxHeartbeats 4000000 in
theorem nrL_tf (tr : ShT) (kp : ShT) (th : ShT) (ot : ShT) (tp : TpT) (sl : (Nat → SlT)) (pk : AI) (rf : AI) (ik : Int32) (sp : ShT) (tk : TkT) (sv : SvT) (mf : AI) (mo : AI) (mn : AI) (ma : AI) (tpm : ShT) (tfm : AI) (kpm : ShT) (kfm : AI) : NRW (lW tr kp th ot tp sl pk rf ik sp tk sv mf mo mn ma true false tpm tfm kpm kfm) := NRL.W (NRL.app (nrLX tr kp th ot tp sl pk rf ik sp tk sv mf mo mn ma true false tpm tfm kpm kfm) (NRL.app (NRL.pr (nre_o rfl) (NRL.pr nre_i (NRL.pr nre_i (NRL.pr nre_i (NRL.pr (nre_q (rq_46 rfl rfl rfl rfl rfl rfl rfl rfl)) (NRL.pr nre_l (NRL.pr nre_i (NRL.pr nre_i (NRL.pr nre_i (NRL.pr nre_i (NRL.pr nre_i (NRL.pr nre_i (NRL.pr nre_i (NRL.pr nre_i (NRL.pr nre_i (NRL.pr nre_i (NRL.pr nre_i (NRL.pr nre_i (NRL.pr nre_l (NRL.pr nre_l (NRL.pr nre_l (NRL.pr nre_l (NRL.pr nre_l (NRL.pr nre_l (NRL.pr nre_l (NRL.pr nre_l NRL.nil)))))))))))))))))))))))))) (NRL.app (NRL.ab (NRL.ab (NRL.ab (NRL.ab (NRL.ab (NRL.ab (NRL.ab (NRL.ab (NRL.ab (NRL.ab (NRL.ab (NRL.ab (NRL.ab (NRL.ab (NRL.ab (NRL.ab (NRL.ab (NRL.ab (NRL.ab (NRL.ab (NRL.ab (NRL.ab (NRL.ab (NRL.ab (NRL.ab (NRL.ab NRL.nil)))))))))))))))))))))))))) (NRL.pr (nre_o rfl) (NRL.pr nre_i (NRL.pr nre_i (NRL.pr nre_i (NRL.pr (nre_q (rq_98 rfl rfl rfl rfl rfl rfl rfl rfl)) (NRL.pr nre_l (NRL.pr nre_i (NRL.pr nre_i (NRL.pr nre_i (NRL.pr nre_i (NRL.pr nre_i (NRL.pr nre_i (NRL.pr nre_i (NRL.pr nre_i (NRL.pr nre_i (NRL.pr nre_i (NRL.pr nre_i (NRL.pr nre_i (NRL.pr nre_l (NRL.pr nre_l (NRL.pr nre_l (NRL.pr nre_l (NRL.pr nre_l (NRL.pr nre_l (NRL.pr nre_l (NRL.pr nre_l NRL.nil)))))))))))))))))))))))))))))
set_option maxRecDepth 100000 in
set_option maxHeartbeats 4000000 in
theorem nrL_ft (tr : ShT) (kp : ShT) (th : ShT) (ot : ShT) (tp : TpT) (sl : (Nat → SlT)) (pk : AI) (rf : AI) (ik : Int32) (sp : ShT) (tk : TkT) (sv : SvT) (mf : AI) (mo : AI) (mn : AI) (ma : AI) (tpm : ShT) (tfm : AI) (kpm : ShT) (kfm : AI) : NRW (lW tr kp th ot tp sl pk rf ik sp tk sv mf mo mn ma false true tpm tfm kpm kfm) := NRL.W (NRL.app (nrLX tr kp th ot tp sl pk rf ik sp tk sv mf mo mn ma false true tpm tfm kpm kfm) (NRL.app (NRL.pr (nre_o rfl) (NRL.pr nre_i (NRL.pr nre_i (NRL.pr nre_i (NRL.pr (nre_q (rq_46 rfl rfl rfl rfl rfl rfl rfl rfl)) (NRL.pr nre_l (NRL.pr nre_i (NRL.pr nre_i (NRL.pr nre_i (NRL.pr nre_i (NRL.pr nre_i (NRL.pr nre_i (NRL.pr nre_i (NRL.pr nre_i (NRL.pr nre_i (NRL.pr nre_i (NRL.pr nre_i (NRL.pr nre_i (NRL.pr nre_l (NRL.pr nre_l (NRL.pr nre_l (NRL.pr nre_l (NRL.pr nre_l (NRL.pr nre_l (NRL.pr nre_l (NRL.pr nre_l NRL.nil)))))))))))))))))))))))))) (NRL.app (NRL.pr (nre_o rfl) (NRL.pr nre_i (NRL.pr nre_i (NRL.pr nre_i (NRL.pr (nre_q (rq_72 rfl rfl rfl rfl rfl rfl rfl rfl)) (NRL.pr nre_l (NRL.pr nre_i (NRL.pr nre_i (NRL.pr nre_i (NRL.pr nre_i (NRL.pr nre_i (NRL.pr nre_i (NRL.pr nre_i (NRL.pr nre_i (NRL.pr nre_i (NRL.pr nre_i (NRL.pr nre_i (NRL.pr nre_i (NRL.pr nre_l (NRL.pr nre_l (NRL.pr nre_l (NRL.pr nre_l (NRL.pr nre_l (NRL.pr nre_l (NRL.pr nre_l (NRL.pr nre_l NRL.nil)))))))))))))))))))))))))) (NRL.ab (NRL.ab (NRL.ab (NRL.ab (NRL.ab (NRL.ab (NRL.ab (NRL.ab (NRL.ab (NRL.ab (NRL.ab (NRL.ab (NRL.ab (NRL.ab (NRL.ab (NRL.ab (NRL.ab (NRL.ab (NRL.ab (NRL.ab (NRL.ab (NRL.ab (NRL.ab (NRL.ab (NRL.ab (NRL.ab NRL.nil)))))))))))))))))))))))))))))
set_option maxRecDepth 100000 in
set_option maxHeartbeats 4000000 in
theorem nrL_ff (tr : ShT) (kp : ShT) (th : ShT) (ot : ShT) (tp : TpT) (sl : (Nat → SlT)) (pk : AI) (rf : AI) (ik : Int32) (sp : ShT) (tk : TkT) (sv : SvT) (mf : AI) (mo : AI) (mn : AI) (ma : AI) (tpm : ShT) (tfm : AI) (kpm : ShT) (kfm : AI) : NRW (lW tr kp th ot tp sl pk rf ik sp tk sv mf mo mn ma false false tpm tfm kpm kfm) := NRL.W (NRL.app (nrLX tr kp th ot tp sl pk rf ik sp tk sv mf mo mn ma false false tpm tfm kpm kfm) (NRL.app (NRL.pr (nre_o rfl) (NRL.pr nre_i (NRL.pr nre_i (NRL.pr nre_i (NRL.pr (nre_q (rq_46 rfl rfl rfl rfl rfl rfl rfl rfl)) (NRL.pr nre_l (NRL.pr nre_i (NRL.pr nre_i (NRL.pr nre_i (NRL.pr nre_i (NRL.pr nre_i (NRL.pr nre_i (NRL.pr nre_i (NRL.pr nre_i (NRL.pr nre_i (NRL.pr nre_i (NRL.pr nre_i (NRL.pr nre_i (NRL.pr nre_l (NRL.pr nre_l (NRL.pr nre_l (NRL.pr nre_l (NRL.pr nre_l (NRL.pr nre_l (NRL.pr nre_l (NRL.pr nre_l NRL.nil)))))))))))))))))))))))))) (NRL.app (NRL.ab (NRL.ab (NRL.ab (NRL.ab (NRL.ab (NRL.ab (NRL.ab (NRL.ab (NRL.ab (NRL.ab (NRL.ab (NRL.ab (NRL.ab (NRL.ab (NRL.ab (NRL.ab (NRL.ab (NRL.ab (NRL.ab (NRL.ab (NRL.ab (NRL.ab (NRL.ab (NRL.ab (NRL.ab (NRL.ab NRL.nil)))))))))))))))))))))))))) (NRL.ab (NRL.ab (NRL.ab (NRL.ab (NRL.ab (NRL.ab (NRL.ab (NRL.ab (NRL.ab (NRL.ab (NRL.ab (NRL.ab (NRL.ab (NRL.ab (NRL.ab (NRL.ab (NRL.ab (NRL.ab (NRL.ab (NRL.ab (NRL.ab (NRL.ab (NRL.ab (NRL.ab (NRL.ab (NRL.ab NRL.nil)))))))))))))))))))))))))))))
theorem nrL (tr : ShT) (kp : ShT) (th : ShT) (ot : ShT) (tp : TpT) (sl : (Nat → SlT)) (pk : AI) (rf : AI) (ik : Int32) (sp : ShT) (tk : TkT) (sv : SvT) (mf : AI) (mo : AI) (mn : AI) (ma : AI) (kb : Bool) (tb : Bool) (tpm : ShT) (tfm : AI) (kpm : ShT) (kfm : AI) : NRW (lW tr kp th ot tp sl pk rf ik sp tk sv mf mo mn ma kb tb tpm tfm kpm kfm) := by
  cases kb <;> cases tb
  · exact nrL_ff tr kp th ot tp sl pk rf ik sp tk sv mf mo mn ma tpm tfm kpm kfm
  · exact nrL_ft tr kp th ot tp sl pk rf ik sp tk sv mf mo mn ma tpm tfm kpm kfm
  · exact nrL_tf tr kp th ot tp sl pk rf ik sp tk sv mf mo mn ma tpm tfm kpm kfm
  · exact nrL_tt tr kp th ot tp sl pk rf ik sp tk sv mf mo mn ma tpm tfm kpm kfm
set_option maxRecDepth 100000 in
set_option maxHeartbeats 1000000 in
theorem rfLi (tr : ShT) (kp : ShT) (th : ShT) (ot : ShT) (tp : TpT) (sl : (Nat → SlT)) (pk : AI) (rf : AI) (ik : Int32) (sp : ShT) (tk : TkT) (sv : SvT) (mf : AI) (mo : AI) (mn : AI) (ma : AI) (kb : Bool) (tb : Bool) (tpm : ShT) (tfm : AI) (kpm : ShT) (kfm : AI) (i : Int32) (r : Int32) : rfB (lW tr kp th ot tp sl pk rf ik sp tk sv mf mo mn ma kb tb tpm tfm kpm kfm) [some (.ref 900), some (.ref 0), some (.ref 46), some (.int i)] [(.int r)] = true := by
  cases kb <;> cases tb <;> rfl
set_option maxRecDepth 100000 in
set_option maxHeartbeats 1000000 in
theorem rfLl (tr : ShT) (kp : ShT) (th : ShT) (ot : ShT) (tp : TpT) (sl : (Nat → SlT)) (pk : AI) (rf : AI) (ik : Int32) (sp : ShT) (tk : TkT) (sv : SvT) (mf : AI) (mo : AI) (mn : AI) (ma : AI) (kb : Bool) (tb : Bool) (tpm : ShT) (tfm : AI) (kpm : ShT) (kfm : AI) (i : Int32) (r : Int64) : rfB (lW tr kp th ot tp sl pk rf ik sp tk sv mf mo mn ma kb tb tpm tfm kpm kfm) [some (.ref 900), some (.ref 0), some (.ref 46), some (.int i)] [(.long r)] = true := by
  cases kb <;> cases tb <;> rfl
section LAWC
variable {l : Launch} {D : va_G} {cT : Nat → ClassId} {O : Own} {code : ByteArray} {nL fr lo Rc Rs : Nat} {g : GT} {bc bs : Nat}
variable {y : MethodName} {ycode : ByteArray} {ynL yfr ylo : Nat} {yret : Option FieldType} {As : List Value} {wc wc' : Wd}
variable {pc ix : Nat} {L : List (Option Value)} {rest st st2 : List Value} {w w2 : Wd}
theorem m_cL {r : Option Value} (M : MB l D cT O code nL fr lo Rc Rs g) (K : Runs l D cT y ycode ynL yret yfr ylo (.ref 0 :: As) wc (EQ r wc')) {ci : Nat} {fs : List Value} (hy : CV y ycode ynL yret As.length ci) (hl : Cond.methodLink O.1 ix y ∈ gw ∨ Cond.methodLinkNest O.1 ix y "BackByTwice" ∈ nw) (hd : decode code pc = .ok (.invokevirtual ix, 3))
    (ρ : List Nat) (hnd : ρ.Nodup) (hle : wc.length ≤ ρ.length ∧ ρ.length ≤ 1000) (hw : (ρ.take wc.length).map (fun k => w[k]?) = wc.map (fun x => some (rS ρ w.length x))) (hst : st = ((.ref 0 :: As).map (rV ρ w.length)).reverse ++ rest) (h0 : wc[0]? = some (.inr (.inr (ci, fs)))) (hcat : (rest.map fun v => v.category).sum ≤ 8) (hroom : yfr + 1 ≤ fr ∧ 8 + (ynL + 11) + ylo ≤ lo)
    {m n : Nat} (hpot : potC wc = m ∧ potS wc = n) (hmn : m ≤ 26 ∧ n ≤ 1854) (hB : bc + 26 ≤ Rc ∧ bs + 1854 ≤ Rs) (hNR : NRW w) (hrf : rfB w L rest = true) (hw2 : putL (ρ.take wc.length) (wc'.map (rS ρ w.length)) w = w2) (hst2 : (r.map (rV ρ w.length)).toList ++ rest = st2) (kk : g (bc + 26) (bs + 1854) w2 (pc + 3) L st2) : g bc bs w pc L st :=
  m_cV M K hy hl hd ρ hnd hle hw hst h0 hcat hroom (by rw [hpot.1, hpot.2]; omega) (Or.inr ⟨hNR, hrf⟩) (fun a b hab _ => by obtain ⟨rfl, rfl⟩ := hab; rw [hpot.1, hpot.2, hw2, hst2]; exact m_widen M (by omega) (by omega) kk)
end LAWC
theorem pot26 (x : Bool) : potM x ≤ 26 ∧ potN x ≤ 1854 := by
  cases x <;> decide
