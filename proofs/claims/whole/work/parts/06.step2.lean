section SND2
variable {p : Program} {l : Launch} {e : Env} {R : Room} {s : State} {m : MethodId} {args : Array Value} {below : List Frame} {meth : Method} {c : Code}
variable {D : va_G} {cT : Nat → ClassId} {nL : Nat} {q0 : Nat → Nat} {w0 : Wd} {sz : Nat} {Q : State → Prop} {bc bs : Nat}
theorem gg_st1 {pc pc' i : Nat} {L : List (Option Value)} {st' : List Value} {w : Wd} {v : Value} (st : List Value) (hi : i < L.length) (ho : okS L i = true)
    (hW : ∀ (q : Nat → Nat) {H : Heap} {locs : List Loc} {cells slots : Nat} {ls : Array Slot}, LQ nL q L ls → i < nL → (∀ ls', lv_has ls' nL ((i, tV q v) :: (lvl q 0 L).filter (fun x => !(x.1 == i) && !(x.1 + 1 == i && x.2.category == 2))) → W p l e R s m args below meth c H locs cells slots Q (F0 m pc' ls' (st'.map (tV q)))) → W p l e R s m args below meth c H locs cells slots Q (F0 m pc ls (st.map (tV q))))
    (k : GG p l e R s m args below meth c D cT nL q0 w0 sz Q bc bs w pc' (stO L i v) st') : GG p l e R s m args below meth c D cT nL q0 w0 sz Q bc bs w pc L st := by
  intro q H locs ls cells slots h1 h2 h3 h4 h5 h6 h7
  exact hW q h5 (by have := h5.2; omega) (fun ls' h => k q H locs ls' cells slots h1 h2 h3 h4 (LQ.one h5.2 hi ho h) h6 h7)
theorem gg_st2 {pc pc' i : Nat} {L : List (Option Value)} {st' : List Value} {w : Wd} {v : Value} (st : List Value) (hi : i + 1 < L.length) (ho : okS L i = true)
    (hW : ∀ (q : Nat → Nat) {H : Heap} {locs : List Loc} {cells slots : Nat} {ls : Array Slot}, LQ nL q L ls → i + 1 < nL → (∀ ls', lv_has ls' nL ((i, tV q v) :: (lvl q 0 L).filter (fun x => !(x.1 == i) && (!(x.1 == i + 1) && !(x.1 + 1 == i && x.2.category == 2)))) → W p l e R s m args below meth c H locs cells slots Q (F0 m pc' ls' (st'.map (tV q)))) → W p l e R s m args below meth c H locs cells slots Q (F0 m pc ls (st.map (tV q))))
    (k : GG p l e R s m args below meth c D cT nL q0 w0 sz Q bc bs w pc' (stT L i v) st') : GG p l e R s m args below meth c D cT nL q0 w0 sz Q bc bs w pc L st := by
  intro q H locs ls cells slots h1 h2 h3 h4 h5 h6 h7
  exact hW q h5 (by have := h5.2; omega) (fun ls' h => k q H locs ls' cells slots h1 h2 h3 h4 (LQ.two h5.2 hi ho h) h6 h7)
theorem LQ.pos {q : Nat → Nat} {L : List (Option Value)} {ls : Array Slot} {i : Nat} {v : Value} (h : LQ nL q L ls) (hi : L[i]? = some (some v)) : ∃ j : Nat, (lvl q 0 L)[j]? = some (i, tV q v) :=
  List.getElem?_of_mem ((lvl_mem L 0 _).mpr ⟨i, v, hi, by rw [Nat.zero_add]⟩)
/-- one write into a cell -/
theorem gg_wr {pc pc' k : Nat} {L : List (Option Value)} {st st' : List Value} {w : Wd} {e0 e1 : va_E} (hs0 : sz = s.heap.size) (h0 : wA w k = some e0)
    (hW : ∀ (q : Nat → Nat) {H : Heap} {locs : List Loc} {cells slots : Nat} {ls : Array Slot} (j : Nat), (cn cT q w)[j]? = some (q k, tE cT q e0) → va_P D vwCl (cn cT q w) H → va_D (AF q0 w0 sz) (cn cT q w) → va_S (AF q0 w0 sz) s.heap H locs →
      (∀ (H1 : Heap) (locs1 : List Loc), va_P D vwCl ((cn cT q w).set j (q k, tE cT q e1)) H1 → va_S (AF q0 w0 sz) s.heap H1 locs1 → W p l e R s m args below meth c H1 locs1 cells slots Q (F0 m pc' ls (st'.map (tV q)))) → W p l e R s m args below meth c H locs cells slots Q (F0 m pc ls (st.map (tV q))))
    (kk : GG p l e R s m args below meth c D cT nL q0 w0 sz Q bc bs (w.set k (.inr e1)) pc' L st') : GG p l e R s m args below meth c D cT nL q0 w0 sz Q bc bs w pc L st := by
  intro q H locs ls cells slots h1 h2 h3 h4 h5 h6 h7
  obtain ⟨j, hj⟩ := cn_get (cT := cT) (q := q) h0
  exact hW q j hj h2.P h3.D h4 (fun H1 locs1 hP1 hS1 => kk q H1 locs1 ls cells slots (h1.set h0 e1) (RP.back h3 h0 hj hP1) (h3.set h0 e1) hS1 h5 h6 h7)
theorem gg_step {O : Own} {code : ByteArray} (hO : okO O = true) (X : FX p s m args meth c D cT nL sz O.1 code) {i : Instr} {v : Int32} {pc pc' : Nat} {L L' : List (Option Value)} {st st' : List Value} {w w' : Wd} {P : Option Prop} (hd : decode code pc = .ok (i, ilen i)) (hs : aS O i v (pc, L, st, w) = some (P, pc', L', st', w')) (hP : ∀ a, P = some a → a)
    (k : GG p l e R s m args below meth c D cT nL q0 w0 sz Q bc bs w' pc' L' st') : GG p l e R s m args below meth c D cT nL q0 w0 sz Q bc bs w pc L st := by
  obtain ⟨hx, hb, hml, hown, hts, hK, hlk, hsz⟩ := X
  cases i
  case iconst n => obtain ⟨h1, rfl, rfl, rfl, rfl, rfl⟩ := iv_c hs; exact gg_stk (st' := .int v :: st) (fun q _ _ _ _ _ _ _ kk => lv_iconst hx hb hd h1 kk) k
  case bipush n => obtain ⟨h1, rfl, rfl, rfl, rfl, rfl⟩ := iv_c hs; exact gg_stk (st' := .int v :: st) (fun q _ _ _ _ _ _ _ kk => lv_bipush hx hb hd h1 kk) k
  case sipush n => obtain ⟨h1, rfl, rfl, rfl, rfl, rfl⟩ := iv_c hs; exact gg_stk (st' := .int v :: st) (fun q _ _ _ _ _ _ _ kk => lv_sipush hx hb hd h1 kk) k
  case lconst n => exact gg_push (code := code) hs (fun _ => rfl) (fun k => lv_lconst hx hb hd (l01_ok n) k) k
  case iload_n n => obtain ⟨x, h1, rfl, rfl, rfl, rfl, rfl⟩ := iv_ldi hs; exact gg_stk (fun q _ _ _ _ _ _ hL kk => lv_iload_n hx hb hd rfl (hL.get h1) kk) k
  case iload n => obtain ⟨x, h1, rfl, rfl, rfl, rfl, rfl⟩ := iv_ldi hs; exact gg_stk (fun q _ _ _ _ _ _ hL kk => lv_iload hx hb hd (hL.get h1) kk) k
  case lload_n n => obtain ⟨x, h1, rfl, rfl, rfl, rfl, rfl⟩ := iv_ldl hs; exact gg_stk (fun q _ _ _ _ _ _ hL kk => lv_lload_n hx hb hd rfl (hL.get h1) kk) k
  case lload n => obtain ⟨x, h1, rfl, rfl, rfl, rfl, rfl⟩ := iv_ldl hs; exact gg_stk (fun q _ _ _ _ _ _ hL kk => lv_lload hx hb hd (hL.get h1) kk) k
  case aload_n n => obtain ⟨x, h1, rfl, rfl, rfl, rfl, rfl⟩ := iv_lda hs; exact gg_stk (fun q _ _ _ _ _ _ hL kk => lv_aload_n hx hb hd rfl (hL.get h1) kk) k
  case aload n => obtain ⟨x, h1, rfl, rfl, rfl, rfl, rfl⟩ := iv_lda hs; exact gg_stk (fun q _ _ _ _ _ _ hL kk => lv_aload hx hb hd (hL.get h1) kk) k
  case istore_n n => obtain ⟨x, rfl, h1, h2, rfl, rfl, rfl, rfl⟩ := iv_sti hs; exact gg_st1 (v := .int x) (st' := st') _ h1 h2 (fun q _ _ _ _ _ hL hn kk => lv_istore_n hx hb hd rfl hL.1 hn rfl kk) k
  case istore n => obtain ⟨x, rfl, h1, h2, rfl, rfl, rfl, rfl⟩ := iv_sti hs; exact gg_st1 (v := .int x) (st' := st') _ h1 h2 (fun q _ _ _ _ _ hL hn kk => lv_istore hx hb hd hL.1 hn rfl kk) k
  case lstore_n n => obtain ⟨x, rfl, h1, h2, rfl, rfl, rfl, rfl⟩ := iv_stl hs; exact gg_st2 (v := .long x) (st' := st') _ h1 h2 (fun q _ _ _ _ _ hL hn kk => lv_lstore_n hx hb hd rfl hL.1 hn rfl kk) k
  case lstore n => obtain ⟨x, rfl, h1, h2, rfl, rfl, rfl, rfl⟩ := iv_stl hs; exact gg_st2 (v := .long x) (st' := st') _ h1 h2 (fun q _ _ _ _ _ hL hn kk => lv_lstore hx hb hd hL.1 hn rfl kk) k
  case astore_n n => obtain ⟨x, rfl, h1, h2, rfl, rfl, rfl, rfl⟩ := iv_sta hs; exact gg_st1 (v := .ref x) (st' := st') _ h1 h2 (fun q _ _ _ _ _ hL hn kk => lv_astore_n hx hb hd rfl hL.1 hn rfl kk) k
  case astore n => obtain ⟨x, rfl, h1, h2, rfl, rfl, rfl, rfl⟩ := iv_sta hs; exact gg_st1 (v := .ref x) (st' := st') _ h1 h2 (fun q _ _ _ _ _ hL hn kk => lv_astore hx hb hd hL.1 hn rfl kk) k
  case iinc n z =>
    obtain ⟨x, hz, h0, h1, h2, rfl, rfl, rfl, rfl, rfl⟩ := iv_inc hs
    refine gg_st1 _ h1 h2 (fun q _ _ _ _ _ hL hn kk => ?_) k
    obtain ⟨j, hj⟩ := hL.pos h0
    exact lv_iinc hx hb hd hL.1 hj (by rw [hz]) hn rfl kk
  case iadd => obtain ⟨x, y, r, rfl, rfl, rfl, rfl, rfl, rfl⟩ := iv_bin hs; exact gg_stk (fun q _ _ _ _ _ _ _ kk => lv_iadd hx hb hd kk) k
  case isub => obtain ⟨x, y, r, rfl, rfl, rfl, rfl, rfl, rfl⟩ := iv_bin hs; exact gg_stk (fun q _ _ _ _ _ _ _ kk => lv_isub hx hb hd kk) k
  case imul => obtain ⟨x, y, r, rfl, rfl, rfl, rfl, rfl, rfl⟩ := iv_bin hs; exact gg_stk (fun q _ _ _ _ _ _ _ kk => lv_imul hx hb hd kk) k
  case iand => obtain ⟨x, y, r, rfl, rfl, rfl, rfl, rfl, rfl⟩ := iv_bin hs; exact gg_stk (fun q _ _ _ _ _ _ _ kk => lv_iand hx hb hd kk) k
  case ior => obtain ⟨x, y, r, rfl, rfl, rfl, rfl, rfl, rfl⟩ := iv_bin hs; exact gg_stk (fun q _ _ _ _ _ _ _ kk => lv_ior hx hb hd kk) k
  case ixor => obtain ⟨x, y, r, rfl, rfl, rfl, rfl, rfl, rfl⟩ := iv_bin hs; exact gg_stk (fun q _ _ _ _ _ _ _ kk => lv_ixor hx hb hd kk) k
  case ishl => obtain ⟨x, y, r, rfl, rfl, rfl, rfl, rfl, rfl⟩ := iv_bin hs; exact gg_stk (fun q _ _ _ _ _ _ _ kk => lv_ishl hx hb hd kk) k
  case ishr => obtain ⟨x, y, r, rfl, rfl, rfl, rfl, rfl, rfl⟩ := iv_bin hs; exact gg_stk (fun q _ _ _ _ _ _ _ kk => lv_ishr hx hb hd kk) k
  case iushr => obtain ⟨x, y, r, rfl, rfl, rfl, rfl, rfl, rfl⟩ := iv_bin hs; exact gg_stk (fun q _ _ _ _ _ _ _ kk => lv_iushr hx hb hd rfl kk) k
  case idiv => obtain ⟨x, y, r, rfl, rfl, rfl, rfl, rfl, rfl⟩ := iv_bin0 hs; exact gg_stk (fun q _ _ _ _ _ _ _ kk => lv_idiv hx hb hd (hP _ rfl) kk) k
  case irem => obtain ⟨x, y, r, rfl, rfl, rfl, rfl, rfl, rfl⟩ := iv_bin0 hs; exact gg_stk (fun q _ _ _ _ _ _ _ kk => lv_irem hx hb hd (hP _ rfl) kk) k
  case ineg => obtain ⟨x, r, rfl, rfl, rfl, rfl, rfl, rfl⟩ := iv_un hs; exact gg_stk (fun q _ _ _ _ _ _ _ kk => lv_ineg hx hb hd kk) k
  case i2b => obtain ⟨x, r, rfl, rfl, rfl, rfl, rfl, rfl⟩ := iv_un hs; exact gg_stk (fun q _ _ _ _ _ _ _ kk => lv_i2b hx hb hd rfl kk) k
  case i2s => obtain ⟨x, r, rfl, rfl, rfl, rfl, rfl, rfl⟩ := iv_un hs; exact gg_stk (fun q _ _ _ _ _ _ _ kk => lv_i2s hx hb hd rfl kk) k
  case land => obtain ⟨x, y, r, rfl, rfl, rfl, rfl, rfl, rfl⟩ := iv_binl hs; exact gg_stk (fun q _ _ _ _ _ _ _ kk => lv_land hx hb hd kk) k
  case lor => obtain ⟨x, y, r, rfl, rfl, rfl, rfl, rfl, rfl⟩ := iv_binl hs; exact gg_stk (fun q _ _ _ _ _ _ _ kk => lv_lor hx hb hd kk) k
  case lcmp => obtain ⟨x, y, r, rfl, rfl, rfl, rfl, rfl, rfl⟩ := iv_lcmp hs; exact gg_stk (fun q _ _ _ _ _ _ _ kk => W.lcmp hx hb hd kk) k
  case lshl => obtain ⟨x, y, r, rfl, rfl, rfl, rfl, rfl, rfl⟩ := iv_lshl hs; exact gg_stk (fun q _ _ _ _ _ _ _ kk => lv_lshl hx hb hd rfl kk) k
  case i2l => obtain ⟨x, r, rfl, rfl, rfl, rfl, rfl, rfl⟩ := iv_i2l hs; exact gg_stk (fun q _ _ _ _ _ _ _ kk => lv_i2l hx hb hd rfl kk) k
  case l2i => obtain ⟨x, r, rfl, rfl, rfl, rfl, rfl, rfl⟩ := iv_l2i hs; exact gg_stk (fun q _ _ _ _ _ _ _ kk => lv_l2i hx hb hd rfl kk) k
  case dup => obtain ⟨v, r, rfl, h1, rfl, rfl, rfl, rfl, rfl⟩ := iv_dup hs; exact gg_stk (fun q _ _ _ _ _ _ _ kk => lv_dup hx hb hd (by rw [tV_cat]; exact h1) kk) k
  case pop => obtain ⟨v, rfl, h1, rfl, rfl, rfl, rfl⟩ := iv_pop hs; exact gg_stk (fun q _ _ _ _ _ _ _ kk => lv_pop hx hb hd (by rw [tV_cat]; exact h1) kk) k
  case dup_x1 => obtain ⟨a, b, r, rfl, h1, h2, rfl, rfl, rfl, rfl, rfl⟩ := iv_dup_x1 hs; exact gg_stk (fun q _ _ _ _ _ _ _ kk => lv_dup_x1 hx hb hd (by rw [tV_cat]; exact h1) (by rw [tV_cat]; exact h2) kk) k
  case dup2 => obtain ⟨a, b, r, rfl, h1, h2, rfl, rfl, rfl, rfl, rfl⟩ := iv_dup2 hs; exact gg_stk (fun q _ _ _ _ _ _ _ kk => lv_dup2_11 hx hb hd (by rw [tV_cat]; exact h1) (by rw [tV_cat]; exact h2) kk) k
  case goto off => obtain ⟨rfl, h1, h2, rfl, rfl, rfl⟩ := iv_goto hs; exact gg_stk (fun q _ _ _ _ _ _ _ kk => lv_goto hx hb hd h1 kk) k
  case getfield ix =>
    obtain ⟨kk, r, nest, ci, j, fs, v, rfl, hl, hw, hv, rfl, rfl, rfl, rfl, rfl⟩ := iv_getf hs
    obtain ⟨o1, o2, o3⟩ := okO_f hO (lkp_mem hl)
    refine gg_stk (fun q _ _ _ _ _ hP' _ k9 => ?_) k
    obtain ⟨j0, hj0⟩ := cn_get (cT := cT) (q := q) hw
    cases nest with
    | false => exact va_get hx hb hts (cl_gw o1) hown hK.1 hP'.P j0 hj0 (cl_get o1) j o2 (hts _ (List.mem_filter.mpr ⟨o3, rfl⟩)) (fun _ h => h) (by rw [List.getElem?_map, hv]; rfl) hd k9
    | true => exact va_getN hx hb hts (cl_gw o1) hown hK.1 hP'.P j0 hj0 (cl_get o1) j o2 (nw_use rfl (hK.2.1 _ (List.mem_filter.mpr ⟨o3, rfl⟩))) (fun _ h => h) (by rw [List.getElem?_map, hv]; rfl) hd k9
  case putfield ix =>
    obtain ⟨kk, nest, ci, j, fs, v, rfl, hl, hw, hv, ho, hf, rfl, rfl, rfl, rfl⟩ := iv_putf hs
    obtain ⟨o1, o2, o3⟩ := okO_f hO (lkp_mem hl)
    refine gg_wr hsz hw (fun q _ _ _ _ _ j0 hj0 hP' hD' hS' k9 => ?_) k
    have e1 : tE cT q (.inr (ci, fs.set j v)) = .inr (ci, (fs.map (tV q)).set j (tV q v)) := by simp [tE, List.map_set]
    cases nest with
    | false => exact va_put hx hb hts (cl_gw o1) (tyF ci) (cl_ty o1) (cl_nm o1) hown hK.1 hP' hD' hS' j0 hj0 (cl_get o1) j o2 (hts _ (List.mem_filter.mpr ⟨o3, rfl⟩)) (fun _ h => h) hf (cl_ty o1 j o2) (okV_ok ho q).1 (okV_ok ho q).2 (by rw [List.length_map]; exact hv) hd (fun H1 locs1 a b c => k9 H1 locs1 (by rw [e1]; exact a) c)
    | true => exact va_putN hx hb hts (cl_gw o1) (tyF ci) (cl_ty o1) (cl_nm o1) hown hK.1 hP' hD' hS' j0 hj0 (cl_get o1) j o2 (nw_use rfl (hK.2.1 _ (List.mem_filter.mpr ⟨o3, rfl⟩))) (fun _ h => h) hf (cl_ty o1 j o2) (okV_ok ho q).1 (okV_ok ho q).2 (by rw [List.length_map]; exact hv) hd (fun H1 locs1 a b c => k9 H1 locs1 (by rw [e1]; exact a) c)
  case iaload =>
    obtain ⟨i, k0, r, n, f, rfl, hw, rfl, rfl, rfl, rfl, rfl⟩ := iv_iald hs
    refine gg_stk (fun q _ _ _ _ _ hP' _ k9 => ?_) k
    obtain ⟨j0, hj0⟩ := cn_get (cT := cT) (q := q) hw
    exact va_iald hx hb hK.1 hP'.P j0 0 hj0 rfl (hP _ rfl) hd k9
  case baload =>
    obtain ⟨i, k0, r, n, f, rfl, hw, rfl, rfl, rfl, rfl, rfl⟩ := iv_zald hs
    refine gg_stk (fun q _ _ _ _ _ hP' _ k9 => ?_) k
    obtain ⟨j0, hj0⟩ := cn_get (cT := cT) (q := q) hw
    exact va_zald hx hb hK.1 hP'.P j0 2 hj0 rfl (hP _ rfl) hd k9
  case laload =>
    obtain ⟨i, k0, r, n, f, rfl, hw, rfl, rfl, rfl, rfl, rfl⟩ := iv_lald hs
    refine gg_stk (fun q _ _ _ _ _ hP' _ k9 => ?_) k
    obtain ⟨j0, hj0⟩ := cn_get (cT := cT) (q := q) hw
    exact va_lald hx hb hK.1 hP'.P j0 1 hj0 rfl (hP _ rfl) hd k9
  case aaload =>
    obtain ⟨i, k0, r, t, n, f, b, rfl, hw, ht, hf, rfl, rfl, rfl, rfl, rfl⟩ := iv_aald hs
    refine gg_stk (fun q _ _ _ _ _ hP' _ k9 => ?_) k
    obtain ⟨j0, hj0⟩ := cn_get (cT := cT) (q := q) hw
    have hin := hP _ rfl
    have hlt : i.toNatClampNeg < n := Nat.not_le.mp fun q => hin (Or.inr q)
    have hv : va_rf ((fun j => (f j).map q) i.toNatClampNeg) = tV q (.ref b) := by simp [hf, va_rf, tV]
    rcases ht with rfl | rfl
    · refine W.aald (v := tV q (.ref b)) (ty := .object RX0) hx hb (hP'.P j0 _ hj0) ((hK.1.2 3 _ rfl).1 n (fun j => va_rf ((f j).map q))) rfl (fun q => by cases q) (by show ¬ (i < 0 ∨ (arrV _ _ _).slots.size ≤ _); rw [arrV_size]; exact hin) (by show (arrV _ n _).slots[_]? = _; rw [arrV_read _ _ hlt, ← hv]) rfl rfl hd k9
    · refine W.aald (v := tV q (.ref b)) (ty := .array .long) hx hb (hP'.P j0 _ hj0) ((hK.1.2 4 _ rfl).1 n (fun j => va_rf ((f j).map q))) rfl (fun q => by cases q) (by show ¬ (i < 0 ∨ (arrV _ _ _).slots.size ≤ _); rw [arrV_size]; exact hin) (by show (arrV _ n _).slots[_]? = _; rw [arrV_read _ _ hlt, ← hv]) rfl rfl hd k9
  case iastore =>
    obtain ⟨x, i, k0, n, f, rfl, hw, rfl, rfl, rfl, rfl⟩ := iv_iast hs
    exact gg_wr (e1 := .inl (0, n, .inl (upd f i.toNatClampNeg x))) hsz hw (fun q _ _ _ _ _ j0 hj0 hP' hD' hS' k9 => va_iast hx hb hK.1 hP' hD' hS' j0 0 hj0 rfl (hP _ rfl) hd (fun H1 locs1 a b c => k9 H1 locs1 a c)) k
  case bastore =>
    obtain ⟨x, i, k0, n, f, rfl, hw, rfl, rfl, rfl, rfl⟩ := iv_zast hs
    exact gg_wr (e1 := .inl (2, n, .inl (upd f i.toNatClampNeg (vp_nar .boolean x)))) hsz hw (fun q _ _ _ _ _ j0 hj0 hP' hD' hS' k9 => va_zast hx hb hK.1 hP' hD' hS' j0 2 hj0 rfl (hP _ rfl) hd (fun H1 locs1 a b c => k9 H1 locs1 a c)) k
  case lastore =>
    obtain ⟨x, i, k0, n, f, rfl, hw, rfl, rfl, rfl, rfl⟩ := iv_last hs
    exact gg_wr (e1 := .inl (1, n, .inr (.inl (vp_updL f i.toNatClampNeg x)))) hsz hw (fun q _ _ _ _ _ j0 hj0 hP' hD' hS' k9 => va_last hx hb hK.1 hP' hD' hS' j0 1 hj0 rfl (hP _ rfl) hd (fun H1 locs1 a b c => k9 H1 locs1 a c)) k
  case arraylength =>
    obtain ⟨k0, r, t, n, f, rfl, hw, ht, rfl, rfl, rfl, rfl, rfl⟩ := iv_alen hs
    refine gg_stk (fun q _ _ _ _ _ hP' _ k9 => ?_) k
    obtain ⟨j0, hj0⟩ := cn_get (cT := cT) (q := q) hw
    obtain ⟨ty, hty⟩ := tys_get (cT := cT) ht
    exact va_alen hx hb hK.1 hP'.P j0 t hj0 hty (by obtain f | f | f | f | f := f <;> rfl) hd k9
  case ldc ix =>
    dsimp only [aS, h_ldc] at hs
    split at hs
    next v hv => cases hs; exact gg_stk (st' := .int v :: st) (fun q _ _ _ _ _ _ _ kk => lv_ldc hx hb hown (hts _ (okO_c hO (lkp_mem hv))) hd kk) k
    next => cases hs
  case ldc_w ix =>
    dsimp only [aS, h_ldc] at hs
    split at hs
    next v hv => cases hs; exact gg_stk (st' := .int v :: st) (fun q _ _ _ _ _ _ _ kk => lv_ldcw hx hb hown (hts _ (okO_c hO (lkp_mem hv))) hd kk) k
    next => cases hs
  case ldc2_w ix =>
    dsimp only [aS, h_ldc2] at hs
    split at hs
    next v hv => cases hs; exact gg_stk (st' := .long v :: st) (fun q _ _ _ _ _ _ _ kk => lv_ldc2 hx hb hown (hts _ (okO_l hO (lkp_mem hv))) hd kk) k
    next => cases hs
  all_goals (exact absurd hs (by simp [aS]))
end SND2
