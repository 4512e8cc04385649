section
-- ===== PART A: goes FIRST, ahead of the names: the tables' words, and 'selects' of the private methods out of them =====
/-- a private method of a class that the tables say can be made, by its rows of tables_1 -/
def lw_okq (q : MethodName × Nat) : Prop := (q.1.cls ≠ "java/lang/invoke/MethodHandle" ∧ q.1.cls ≠ "java/lang/invoke/VarHandle") ∧ Cond.instantiable q.1.cls q.2 ∈ tables_1 ∧ Cond.privateMethod q.1 ∈ tables_1 ∧ Cond.instanceMethod q.1 ∈ tables_1
theorem lw_p0 : lw_okq (⟨"BackByTwice", "refuse", "(I)I"⟩, 9) := ⟨⟨by decide +kernel, by decide +kernel⟩, List.mem_of_getElem? (i := 15) (by decide +kernel), List.mem_of_getElem? (i := 154) (by decide +kernel), List.mem_of_getElem? (i := 155) (by decide +kernel)⟩
theorem lw_p1 : lw_okq (⟨"BackByTwice$Shelf", "holdRow", "(II)V"⟩, 4) := ⟨⟨by decide +kernel, by decide +kernel⟩, List.mem_of_getElem? (i := 94) (by decide +kernel), List.mem_of_getElem? (i := 158) (by decide +kernel), List.mem_of_getElem? (i := 159) (by decide +kernel)⟩
theorem lw_p2 : lw_okq (⟨"BackByTwice$Shelf", "refusalOfRow", "()I"⟩, 4) := ⟨⟨by decide +kernel, by decide +kernel⟩, List.mem_of_getElem? (i := 94) (by decide +kernel), List.mem_of_getElem? (i := 169) (by decide +kernel), List.mem_of_getElem? (i := 170) (by decide +kernel)⟩
theorem lw_p3 : lw_okq (⟨"BackByTwice$Shelf", "holdsLaw", "()Z"⟩, 4) := ⟨⟨by decide +kernel, by decide +kernel⟩, List.mem_of_getElem? (i := 94) (by decide +kernel), List.mem_of_getElem? (i := 173) (by decide +kernel), List.mem_of_getElem? (i := 174) (by decide +kernel)⟩
theorem lw_p4 : lw_okq (⟨"BackByTwice$Shelf", "holdsRow", "()Z"⟩, 4) := ⟨⟨by decide +kernel, by decide +kernel⟩, List.mem_of_getElem? (i := 94) (by decide +kernel), List.mem_of_getElem? (i := 177) (by decide +kernel), List.mem_of_getElem? (i := 178) (by decide +kernel)⟩
theorem lw_p5 : lw_okq (⟨"BackByTwice$Shelf", "hasPart", "(II)Z"⟩, 4) := ⟨⟨by decide +kernel, by decide +kernel⟩, List.mem_of_getElem? (i := 94) (by decide +kernel), List.mem_of_getElem? (i := 181) (by decide +kernel), List.mem_of_getElem? (i := 182) (by decide +kernel)⟩
theorem lw_p6 : lw_okq (⟨"BackByTwice$Shelf", "put", "(IJ)V"⟩, 4) := ⟨⟨by decide +kernel, by decide +kernel⟩, List.mem_of_getElem? (i := 94) (by decide +kernel), List.mem_of_getElem? (i := 185) (by decide +kernel), List.mem_of_getElem? (i := 186) (by decide +kernel)⟩
theorem lw_p7 : lw_okq (⟨"BackByTwice$Shelf", "cut", "(J)J"⟩, 4) := ⟨⟨by decide +kernel, by decide +kernel⟩, List.mem_of_getElem? (i := 94) (by decide +kernel), List.mem_of_getElem? (i := 190) (by decide +kernel), List.mem_of_getElem? (i := 191) (by decide +kernel)⟩
theorem lw_p8 : lw_okq (⟨"BackByTwice$Shelf", "isOtherRowThan", "(LBackByTwice$Shelf;)Z"⟩, 4) := ⟨⟨by decide +kernel, by decide +kernel⟩, List.mem_of_getElem? (i := 94) (by decide +kernel), List.mem_of_getElem? (i := 199) (by decide +kernel), List.mem_of_getElem? (i := 200) (by decide +kernel)⟩
theorem lw_p9 : lw_okq (⟨"BackByTwice$Shelf", "elementAt", "(I)J"⟩, 4) := ⟨⟨by decide +kernel, by decide +kernel⟩, List.mem_of_getElem? (i := 94) (by decide +kernel), List.mem_of_getElem? (i := 211) (by decide +kernel), List.mem_of_getElem? (i := 212) (by decide +kernel)⟩
theorem lw_p10 : lw_okq (⟨"BackByTwice$Shelf", "content", "()I"⟩, 4) := ⟨⟨by decide +kernel, by decide +kernel⟩, List.mem_of_getElem? (i := 94) (by decide +kernel), List.mem_of_getElem? (i := 219) (by decide +kernel), List.mem_of_getElem? (i := 220) (by decide +kernel)⟩
theorem lw_p11 : lw_okq (⟨"BackByTwice$Shop", "hasLaw", "(I)Z"⟩, 10) := ⟨⟨by decide +kernel, by decide +kernel⟩, List.mem_of_getElem? (i := 23) (by decide +kernel), List.mem_of_getElem? (i := 227) (by decide +kernel), List.mem_of_getElem? (i := 228) (by decide +kernel)⟩
theorem lw_p12 : lw_okq (⟨"BackByTwice$Shelf", "holdLaw", "(I)V"⟩, 4) := ⟨⟨by decide +kernel, by decide +kernel⟩, List.mem_of_getElem? (i := 94) (by decide +kernel), List.mem_of_getElem? (i := 231) (by decide +kernel), List.mem_of_getElem? (i := 232) (by decide +kernel)⟩
theorem lw_p13 : lw_okq (⟨"BackByTwice$Shop", "kindOf", "(I)I"⟩, 10) := ⟨⟨by decide +kernel, by decide +kernel⟩, List.mem_of_getElem? (i := 23) (by decide +kernel), List.mem_of_getElem? (i := 242) (by decide +kernel), List.mem_of_getElem? (i := 243) (by decide +kernel)⟩
theorem lw_p14 : lw_okq (⟨"BackByTwice$Shop", "amountOf", "(I)I"⟩, 10) := ⟨⟨by decide +kernel, by decide +kernel⟩, List.mem_of_getElem? (i := 23) (by decide +kernel), List.mem_of_getElem? (i := 250) (by decide +kernel), List.mem_of_getElem? (i := 251) (by decide +kernel)⟩
theorem lw_p15 : lw_okq (⟨"BackByTwice$Shop", "lastThen", "(I)I"⟩, 10) := ⟨⟨by decide +kernel, by decide +kernel⟩, List.mem_of_getElem? (i := 23) (by decide +kernel), List.mem_of_getElem? (i := 254) (by decide +kernel), List.mem_of_getElem? (i := 255) (by decide +kernel)⟩
def lw_privs_1 : List (MethodName × Nat) := [(⟨"BackByTwice", "refuse", "(I)I"⟩, 9), (⟨"BackByTwice$Shelf", "holdRow", "(II)V"⟩, 4), (⟨"BackByTwice$Shelf", "refusalOfRow", "()I"⟩, 4), (⟨"BackByTwice$Shelf", "holdsLaw", "()Z"⟩, 4), (⟨"BackByTwice$Shelf", "holdsRow", "()Z"⟩, 4), (⟨"BackByTwice$Shelf", "hasPart", "(II)Z"⟩, 4), (⟨"BackByTwice$Shelf", "put", "(IJ)V"⟩, 4), (⟨"BackByTwice$Shelf", "cut", "(J)J"⟩, 4), (⟨"BackByTwice$Shelf", "isOtherRowThan", "(LBackByTwice$Shelf;)Z"⟩, 4), (⟨"BackByTwice$Shelf", "elementAt", "(I)J"⟩, 4), (⟨"BackByTwice$Shelf", "content", "()I"⟩, 4), (⟨"BackByTwice$Shop", "hasLaw", "(I)Z"⟩, 10), (⟨"BackByTwice$Shelf", "holdLaw", "(I)V"⟩, 4), (⟨"BackByTwice$Shop", "kindOf", "(I)I"⟩, 10), (⟨"BackByTwice$Shop", "amountOf", "(I)I"⟩, 10), (⟨"BackByTwice$Shop", "lastThen", "(I)I"⟩, 10)]
theorem lw_r1 : ∀ q ∈ lw_privs_1, lw_okq q := List.forall_mem_cons.mpr ⟨lw_p0, List.forall_mem_cons.mpr ⟨lw_p1, List.forall_mem_cons.mpr ⟨lw_p2, List.forall_mem_cons.mpr ⟨lw_p3, List.forall_mem_cons.mpr ⟨lw_p4, List.forall_mem_cons.mpr ⟨lw_p5, List.forall_mem_cons.mpr ⟨lw_p6, List.forall_mem_cons.mpr ⟨lw_p7, List.forall_mem_cons.mpr ⟨lw_p8, List.forall_mem_cons.mpr ⟨lw_p9, List.forall_mem_cons.mpr ⟨lw_p10, List.forall_mem_cons.mpr ⟨lw_p11, List.forall_mem_cons.mpr ⟨lw_p12, List.forall_mem_cons.mpr ⟨lw_p13, List.forall_mem_cons.mpr ⟨lw_p14, List.forall_mem_cons.mpr ⟨lw_p15, fun _ h => absurd h List.not_mem_nil⟩⟩⟩⟩⟩⟩⟩⟩⟩⟩⟩⟩⟩⟩⟩⟩
theorem lw_p16 : lw_okq (⟨"BackByTwice$Shop", "hasPerson", "(I)Z"⟩, 10) := ⟨⟨by decide +kernel, by decide +kernel⟩, List.mem_of_getElem? (i := 23) (by decide +kernel), List.mem_of_getElem? (i := 258) (by decide +kernel), List.mem_of_getElem? (i := 259) (by decide +kernel)⟩
theorem lw_p17 : lw_okq (⟨"BackByTwice$Shop", "stepsBack", "(I)I"⟩, 10) := ⟨⟨by decide +kernel, by decide +kernel⟩, List.mem_of_getElem? (i := 23) (by decide +kernel), List.mem_of_getElem? (i := 266) (by decide +kernel), List.mem_of_getElem? (i := 267) (by decide +kernel)⟩
theorem lw_p18 : lw_okq (⟨"BackByTwice$Shop", "stepsWanted", "(II)I"⟩, 10) := ⟨⟨by decide +kernel, by decide +kernel⟩, List.mem_of_getElem? (i := 23) (by decide +kernel), List.mem_of_getElem? (i := 270) (by decide +kernel), List.mem_of_getElem? (i := 271) (by decide +kernel)⟩
theorem lw_p19 : lw_okq (⟨"BackByTwice$Shop", "hasRoom", "()Z"⟩, 10) := ⟨⟨by decide +kernel, by decide +kernel⟩, List.mem_of_getElem? (i := 23) (by decide +kernel), List.mem_of_getElem? (i := 281) (by decide +kernel), List.mem_of_getElem? (i := 282) (by decide +kernel)⟩
theorem lw_p20 : lw_okq (⟨"BackByTwice$Shop", "add", "()I"⟩, 10) := ⟨⟨by decide +kernel, by decide +kernel⟩, List.mem_of_getElem? (i := 23) (by decide +kernel), List.mem_of_getElem? (i := 285) (by decide +kernel), List.mem_of_getElem? (i := 286) (by decide +kernel)⟩
theorem lw_p21 : lw_okq (⟨"BackByTwice$Shop", "hasRoomForLaw", "()Z"⟩, 10) := ⟨⟨by decide +kernel, by decide +kernel⟩, List.mem_of_getElem? (i := 23) (by decide +kernel), List.mem_of_getElem? (i := 294) (by decide +kernel), List.mem_of_getElem? (i := 295) (by decide +kernel)⟩
theorem lw_p22 : lw_okq (⟨"BackByTwice$Shop", "addLaw", "(II)I"⟩, 10) := ⟨⟨by decide +kernel, by decide +kernel⟩, List.mem_of_getElem? (i := 23) (by decide +kernel), List.mem_of_getElem? (i := 298) (by decide +kernel), List.mem_of_getElem? (i := 299) (by decide +kernel)⟩
theorem lw_p23 : lw_okq (⟨"BackByTwice$Tape", "add", "(I)Z"⟩, 4) := ⟨⟨by decide +kernel, by decide +kernel⟩, List.mem_of_getElem? (i := 72) (by decide +kernel), List.mem_of_getElem? (i := 316) (by decide +kernel), List.mem_of_getElem? (i := 317) (by decide +kernel)⟩
theorem lw_p24 : lw_okq (⟨"BackByTwice$Shop", "become", "(LBackByTwice$Shop;)V"⟩, 10) := ⟨⟨by decide +kernel, by decide +kernel⟩, List.mem_of_getElem? (i := 23) (by decide +kernel), List.mem_of_getElem? (i := 328) (by decide +kernel), List.mem_of_getElem? (i := 329) (by decide +kernel)⟩
theorem lw_p25 : lw_okq (⟨"BackByTwice$Tape", "readInto", "(LBackByTwice$Shop;)I"⟩, 4) := ⟨⟨by decide +kernel, by decide +kernel⟩, List.mem_of_getElem? (i := 72) (by decide +kernel), List.mem_of_getElem? (i := 333) (by decide +kernel), List.mem_of_getElem? (i := 334) (by decide +kernel)⟩
theorem lw_p26 : lw_okq (⟨"BackByTwice$Tape", "goOn", "()V"⟩, 4) := ⟨⟨by decide +kernel, by decide +kernel⟩, List.mem_of_getElem? (i := 72) (by decide +kernel), List.mem_of_getElem? (i := 337) (by decide +kernel), List.mem_of_getElem? (i := 338) (by decide +kernel)⟩
theorem lw_p27 : lw_okq (⟨"BackByTwice$Tape", "readStatement", "(LBackByTwice$Shop;)Z"⟩, 4) := ⟨⟨by decide +kernel, by decide +kernel⟩, List.mem_of_getElem? (i := 72) (by decide +kernel), List.mem_of_getElem? (i := 348) (by decide +kernel), List.mem_of_getElem? (i := 349) (by decide +kernel)⟩
theorem lw_p28 : lw_okq (⟨"BackByTwice$Tape", "isWord", "(Ljava/lang/String;)Z"⟩, 4) := ⟨⟨by decide +kernel, by decide +kernel⟩, List.mem_of_getElem? (i := 72) (by decide +kernel), List.mem_of_getElem? (i := 353) (by decide +kernel), List.mem_of_getElem? (i := 354) (by decide +kernel)⟩
theorem lw_p29 : lw_okq (⟨"BackByTwice$Tape", "readPeople", "(LBackByTwice$Shop;)Z"⟩, 4) := ⟨⟨by decide +kernel, by decide +kernel⟩, List.mem_of_getElem? (i := 72) (by decide +kernel), List.mem_of_getElem? (i := 405) (by decide +kernel), List.mem_of_getElem? (i := 406) (by decide +kernel)⟩
theorem lw_p30 : lw_okq (⟨"BackByTwice$Tape", "number", "(II)I"⟩, 4) := ⟨⟨by decide +kernel, by decide +kernel⟩, List.mem_of_getElem? (i := 72) (by decide +kernel), List.mem_of_getElem? (i := 409) (by decide +kernel), List.mem_of_getElem? (i := 410) (by decide +kernel)⟩
theorem lw_p31 : lw_okq (⟨"BackByTwice$Tape", "numberInHand", "()I"⟩, 4) := ⟨⟨by decide +kernel, by decide +kernel⟩, List.mem_of_getElem? (i := 72) (by decide +kernel), List.mem_of_getElem? (i := 413) (by decide +kernel), List.mem_of_getElem? (i := 414) (by decide +kernel)⟩
def lw_privs_2 : List (MethodName × Nat) := [(⟨"BackByTwice$Shop", "hasPerson", "(I)Z"⟩, 10), (⟨"BackByTwice$Shop", "stepsBack", "(I)I"⟩, 10), (⟨"BackByTwice$Shop", "stepsWanted", "(II)I"⟩, 10), (⟨"BackByTwice$Shop", "hasRoom", "()Z"⟩, 10), (⟨"BackByTwice$Shop", "add", "()I"⟩, 10), (⟨"BackByTwice$Shop", "hasRoomForLaw", "()Z"⟩, 10), (⟨"BackByTwice$Shop", "addLaw", "(II)I"⟩, 10), (⟨"BackByTwice$Tape", "add", "(I)Z"⟩, 4), (⟨"BackByTwice$Shop", "become", "(LBackByTwice$Shop;)V"⟩, 10), (⟨"BackByTwice$Tape", "readInto", "(LBackByTwice$Shop;)I"⟩, 4), (⟨"BackByTwice$Tape", "goOn", "()V"⟩, 4), (⟨"BackByTwice$Tape", "readStatement", "(LBackByTwice$Shop;)Z"⟩, 4), (⟨"BackByTwice$Tape", "isWord", "(Ljava/lang/String;)Z"⟩, 4), (⟨"BackByTwice$Tape", "readPeople", "(LBackByTwice$Shop;)Z"⟩, 4), (⟨"BackByTwice$Tape", "number", "(II)I"⟩, 4), (⟨"BackByTwice$Tape", "numberInHand", "()I"⟩, 4)]
theorem lw_r2 : ∀ q ∈ lw_privs_2, lw_okq q := List.forall_mem_cons.mpr ⟨lw_p16, List.forall_mem_cons.mpr ⟨lw_p17, List.forall_mem_cons.mpr ⟨lw_p18, List.forall_mem_cons.mpr ⟨lw_p19, List.forall_mem_cons.mpr ⟨lw_p20, List.forall_mem_cons.mpr ⟨lw_p21, List.forall_mem_cons.mpr ⟨lw_p22, List.forall_mem_cons.mpr ⟨lw_p23, List.forall_mem_cons.mpr ⟨lw_p24, List.forall_mem_cons.mpr ⟨lw_p25, List.forall_mem_cons.mpr ⟨lw_p26, List.forall_mem_cons.mpr ⟨lw_p27, List.forall_mem_cons.mpr ⟨lw_p28, List.forall_mem_cons.mpr ⟨lw_p29, List.forall_mem_cons.mpr ⟨lw_p30, List.forall_mem_cons.mpr ⟨lw_p31, fun _ h => absurd h List.not_mem_nil⟩⟩⟩⟩⟩⟩⟩⟩⟩⟩⟩⟩⟩⟩⟩⟩
theorem lw_p32 : lw_okq (⟨"BackByTwice$Tape", "readLaw", "(LBackByTwice$Shop;)Z"⟩, 4) := ⟨⟨by decide +kernel, by decide +kernel⟩, List.mem_of_getElem? (i := 72) (by decide +kernel), List.mem_of_getElem? (i := 420) (by decide +kernel), List.mem_of_getElem? (i := 421) (by decide +kernel)⟩
theorem lw_p33 : lw_okq (⟨"BackByTwice$Tape", "readUse", "(LBackByTwice$Shop;)Z"⟩, 4) := ⟨⟨by decide +kernel, by decide +kernel⟩, List.mem_of_getElem? (i := 72) (by decide +kernel), List.mem_of_getElem? (i := 426) (by decide +kernel), List.mem_of_getElem? (i := 427) (by decide +kernel)⟩
theorem lw_p34 : lw_okq (⟨"BackByTwice$Tape", "readServe", "(LBackByTwice$Shop;)Z"⟩, 4) := ⟨⟨by decide +kernel, by decide +kernel⟩, List.mem_of_getElem? (i := 72) (by decide +kernel), List.mem_of_getElem? (i := 431) (by decide +kernel), List.mem_of_getElem? (i := 432) (by decide +kernel)⟩
theorem lw_p35 : lw_okq (⟨"BackByTwice$Shop", "isStuck", "()Z"⟩, 10) := ⟨⟨by decide +kernel, by decide +kernel⟩, List.mem_of_getElem? (i := 23) (by decide +kernel), List.mem_of_getElem? (i := 435) (by decide +kernel), List.mem_of_getElem? (i := 436) (by decide +kernel)⟩
theorem lw_p36 : lw_okq (⟨"BackByTwice$Shop", "isEmpty", "()Z"⟩, 10) := ⟨⟨by decide +kernel, by decide +kernel⟩, List.mem_of_getElem? (i := 23) (by decide +kernel), List.mem_of_getElem? (i := 439) (by decide +kernel), List.mem_of_getElem? (i := 440) (by decide +kernel)⟩
theorem lw_p37 : lw_okq (⟨"BackByTwice$Shop", "isLawless", "()Z"⟩, 10) := ⟨⟨by decide +kernel, by decide +kernel⟩, List.mem_of_getElem? (i := 23) (by decide +kernel), List.mem_of_getElem? (i := 443) (by decide +kernel), List.mem_of_getElem? (i := 444) (by decide +kernel)⟩
theorem lw_p38 : lw_okq (⟨"BackByTwice$Shop", "turn", "()I"⟩, 10) := ⟨⟨by decide +kernel, by decide +kernel⟩, List.mem_of_getElem? (i := 23) (by decide +kernel), List.mem_of_getElem? (i := 447) (by decide +kernel), List.mem_of_getElem? (i := 448) (by decide +kernel)⟩
theorem lw_p39 : lw_okq (⟨"BackByTwice$Tape", "readLet", "(LBackByTwice$Shop;)Z"⟩, 4) := ⟨⟨by decide +kernel, by decide +kernel⟩, List.mem_of_getElem? (i := 72) (by decide +kernel), List.mem_of_getElem? (i := 454) (by decide +kernel), List.mem_of_getElem? (i := 455) (by decide +kernel)⟩
theorem lw_p40 : lw_okq (⟨"BackByTwice$Shop", "letBefore", "(I)I"⟩, 10) := ⟨⟨by decide +kernel, by decide +kernel⟩, List.mem_of_getElem? (i := 23) (by decide +kernel), List.mem_of_getElem? (i := 458) (by decide +kernel), List.mem_of_getElem? (i := 459) (by decide +kernel)⟩
theorem lw_p41 : lw_okq (⟨"BackByTwice$Shop", "hasPlace", "(I)Z"⟩, 10) := ⟨⟨by decide +kernel, by decide +kernel⟩, List.mem_of_getElem? (i := 23) (by decide +kernel), List.mem_of_getElem? (i := 462) (by decide +kernel), List.mem_of_getElem? (i := 463) (by decide +kernel)⟩
theorem lw_p42 : lw_okq (⟨"BackByTwice$Tape", "readLeave", "(LBackByTwice$Shop;)Z"⟩, 4) := ⟨⟨by decide +kernel, by decide +kernel⟩, List.mem_of_getElem? (i := 72) (by decide +kernel), List.mem_of_getElem? (i := 467) (by decide +kernel), List.mem_of_getElem? (i := 468) (by decide +kernel)⟩
theorem lw_p43 : lw_okq (⟨"BackByTwice$Shop", "removeLast", "()V"⟩, 10) := ⟨⟨by decide +kernel, by decide +kernel⟩, List.mem_of_getElem? (i := 23) (by decide +kernel), List.mem_of_getElem? (i := 471) (by decide +kernel), List.mem_of_getElem? (i := 472) (by decide +kernel)⟩
theorem lw_p44 : lw_okq (⟨"BackByTwice$Shop", "move", "(II)V"⟩, 10) := ⟨⟨by decide +kernel, by decide +kernel⟩, List.mem_of_getElem? (i := 23) (by decide +kernel), List.mem_of_getElem? (i := 475) (by decide +kernel), List.mem_of_getElem? (i := 476) (by decide +kernel)⟩
theorem lw_p45 : lw_okq (⟨"BackByTwice$Shop", "placeOf", "(I)I"⟩, 10) := ⟨⟨by decide +kernel, by decide +kernel⟩, List.mem_of_getElem? (i := 23) (by decide +kernel), List.mem_of_getElem? (i := 479) (by decide +kernel), List.mem_of_getElem? (i := 480) (by decide +kernel)⟩
theorem lw_p46 : lw_okq (⟨"BackByTwice$Tape", "readCount", "(LBackByTwice$Shop;)Z"⟩, 4) := ⟨⟨by decide +kernel, by decide +kernel⟩, List.mem_of_getElem? (i := 72) (by decide +kernel), List.mem_of_getElem? (i := 484) (by decide +kernel), List.mem_of_getElem? (i := 485) (by decide +kernel)⟩
theorem lw_p47 : lw_okq (⟨"BackByTwice$Shop", "fact", "(II)I"⟩, 10) := ⟨⟨by decide +kernel, by decide +kernel⟩, List.mem_of_getElem? (i := 23) (by decide +kernel), List.mem_of_getElem? (i := 494) (by decide +kernel), List.mem_of_getElem? (i := 495) (by decide +kernel)⟩
def lw_privs_3 : List (MethodName × Nat) := [(⟨"BackByTwice$Tape", "readLaw", "(LBackByTwice$Shop;)Z"⟩, 4), (⟨"BackByTwice$Tape", "readUse", "(LBackByTwice$Shop;)Z"⟩, 4), (⟨"BackByTwice$Tape", "readServe", "(LBackByTwice$Shop;)Z"⟩, 4), (⟨"BackByTwice$Shop", "isStuck", "()Z"⟩, 10), (⟨"BackByTwice$Shop", "isEmpty", "()Z"⟩, 10), (⟨"BackByTwice$Shop", "isLawless", "()Z"⟩, 10), (⟨"BackByTwice$Shop", "turn", "()I"⟩, 10), (⟨"BackByTwice$Tape", "readLet", "(LBackByTwice$Shop;)Z"⟩, 4), (⟨"BackByTwice$Shop", "letBefore", "(I)I"⟩, 10), (⟨"BackByTwice$Shop", "hasPlace", "(I)Z"⟩, 10), (⟨"BackByTwice$Tape", "readLeave", "(LBackByTwice$Shop;)Z"⟩, 4), (⟨"BackByTwice$Shop", "removeLast", "()V"⟩, 10), (⟨"BackByTwice$Shop", "move", "(II)V"⟩, 10), (⟨"BackByTwice$Shop", "placeOf", "(I)I"⟩, 10), (⟨"BackByTwice$Tape", "readCount", "(LBackByTwice$Shop;)Z"⟩, 4), (⟨"BackByTwice$Shop", "fact", "(II)I"⟩, 10)]
theorem lw_r3 : ∀ q ∈ lw_privs_3, lw_okq q := List.forall_mem_cons.mpr ⟨lw_p32, List.forall_mem_cons.mpr ⟨lw_p33, List.forall_mem_cons.mpr ⟨lw_p34, List.forall_mem_cons.mpr ⟨lw_p35, List.forall_mem_cons.mpr ⟨lw_p36, List.forall_mem_cons.mpr ⟨lw_p37, List.forall_mem_cons.mpr ⟨lw_p38, List.forall_mem_cons.mpr ⟨lw_p39, List.forall_mem_cons.mpr ⟨lw_p40, List.forall_mem_cons.mpr ⟨lw_p41, List.forall_mem_cons.mpr ⟨lw_p42, List.forall_mem_cons.mpr ⟨lw_p43, List.forall_mem_cons.mpr ⟨lw_p44, List.forall_mem_cons.mpr ⟨lw_p45, List.forall_mem_cons.mpr ⟨lw_p46, List.forall_mem_cons.mpr ⟨lw_p47, fun _ h => absurd h List.not_mem_nil⟩⟩⟩⟩⟩⟩⟩⟩⟩⟩⟩⟩⟩⟩⟩⟩
theorem lw_p48 : lw_okq (⟨"BackByTwice$Shop", "who", "(I)I"⟩, 10) := ⟨⟨by decide +kernel, by decide +kernel⟩, List.mem_of_getElem? (i := 23) (by decide +kernel), List.mem_of_getElem? (i := 507) (by decide +kernel), List.mem_of_getElem? (i := 508) (by decide +kernel)⟩
theorem lw_p49 : lw_okq (⟨"BackByTwice", "think", "(I)V"⟩, 9) := ⟨⟨by decide +kernel, by decide +kernel⟩, List.mem_of_getElem? (i := 15) (by decide +kernel), List.mem_of_getElem? (i := 516) (by decide +kernel), List.mem_of_getElem? (i := 517) (by decide +kernel)⟩
theorem lw_p50 : lw_okq (⟨"BackByTwice$Shop", "turnTimes", "(I)V"⟩, 10) := ⟨⟨by decide +kernel, by decide +kernel⟩, List.mem_of_getElem? (i := 23) (by decide +kernel), List.mem_of_getElem? (i := 520) (by decide +kernel), List.mem_of_getElem? (i := 521) (by decide +kernel)⟩
theorem lw_p51 : lw_okq (⟨"BackByTwice$Shop", "standsLike", "(LBackByTwice$Shop;)Z"⟩, 10) := ⟨⟨by decide +kernel, by decide +kernel⟩, List.mem_of_getElem? (i := 23) (by decide +kernel), List.mem_of_getElem? (i := 539) (by decide +kernel), List.mem_of_getElem? (i := 540) (by decide +kernel)⟩
theorem lw_p52 : lw_okq (⟨"BackByTwice", "turnOfServing", "(III)I"⟩, 9) := ⟨⟨by decide +kernel, by decide +kernel⟩, List.mem_of_getElem? (i := 15) (by decide +kernel), List.mem_of_getElem? (i := 547) (by decide +kernel), List.mem_of_getElem? (i := 548) (by decide +kernel)⟩
theorem lw_p53 : lw_okq (⟨"BackByTwice$Shop", "allBits", "()I"⟩, 10) := ⟨⟨by decide +kernel, by decide +kernel⟩, List.mem_of_getElem? (i := 23) (by decide +kernel), List.mem_of_getElem? (i := 555) (by decide +kernel), List.mem_of_getElem? (i := 556) (by decide +kernel)⟩
theorem lw_p54 : lw_okq (⟨"BackByTwice", "servedBits", "(I)I"⟩, 9) := ⟨⟨by decide +kernel, by decide +kernel⟩, List.mem_of_getElem? (i := 15) (by decide +kernel), List.mem_of_getElem? (i := 559) (by decide +kernel), List.mem_of_getElem? (i := 560) (by decide +kernel)⟩
theorem lw_p55 : lw_okq (⟨"BackByTwice$Shop", "startAnew", "()V"⟩, 10) := ⟨⟨by decide +kernel, by decide +kernel⟩, List.mem_of_getElem? (i := 23) (by decide +kernel), List.mem_of_getElem? (i := 572) (by decide +kernel), List.mem_of_getElem? (i := 573) (by decide +kernel)⟩
theorem lw_p56 : lw_okq (⟨"BackByTwice", "thinkBy", "(I)V"⟩, 9) := ⟨⟨by decide +kernel, by decide +kernel⟩, List.mem_of_getElem? (i := 15) (by decide +kernel), List.mem_of_getElem? (i := 609) (by decide +kernel), List.mem_of_getElem? (i := 610) (by decide +kernel)⟩
theorem lw_p57 : lw_okq (⟨"BackByTwice$Shop", "countsApart", "()I"⟩, 10) := ⟨⟨by decide +kernel, by decide +kernel⟩, List.mem_of_getElem? (i := 23) (by decide +kernel), List.mem_of_getElem? (i := 630) (by decide +kernel), List.mem_of_getElem? (i := 631) (by decide +kernel)⟩
theorem lw_p58 : lw_okq (⟨"BackByTwice", "spreadBy", "(II)I"⟩, 9) := ⟨⟨by decide +kernel, by decide +kernel⟩, List.mem_of_getElem? (i := 15) (by decide +kernel), List.mem_of_getElem? (i := 638) (by decide +kernel), List.mem_of_getElem? (i := 639) (by decide +kernel)⟩
theorem lw_p59 : lw_okq (⟨"BackByTwice", "refusalOfSlate", "(II)I"⟩, 9) := ⟨⟨by decide +kernel, by decide +kernel⟩, List.mem_of_getElem? (i := 15) (by decide +kernel), List.mem_of_getElem? (i := 650) (by decide +kernel), List.mem_of_getElem? (i := 651) (by decide +kernel)⟩
theorem lw_p60 : lw_okq (⟨"BackByTwice", "firstWrong", "(LBackByTwice$Shelf;I)I"⟩, 9) := ⟨⟨by decide +kernel, by decide +kernel⟩, List.mem_of_getElem? (i := 15) (by decide +kernel), List.mem_of_getElem? (i := 654) (by decide +kernel), List.mem_of_getElem? (i := 655) (by decide +kernel)⟩
theorem lw_p61 : lw_okq (⟨"BackByTwice", "firstPush", "(LBackByTwice$Shelf;I)I"⟩, 9) := ⟨⟨by decide +kernel, by decide +kernel⟩, List.mem_of_getElem? (i := 15) (by decide +kernel), List.mem_of_getElem? (i := 666) (by decide +kernel), List.mem_of_getElem? (i := 667) (by decide +kernel)⟩
theorem lw_p62 : lw_okq (⟨"BackByTwice", "timesAgain", "(IZ)I"⟩, 9) := ⟨⟨by decide +kernel, by decide +kernel⟩, List.mem_of_getElem? (i := 15) (by decide +kernel), List.mem_of_getElem? (i := 677) (by decide +kernel), List.mem_of_getElem? (i := 678) (by decide +kernel)⟩
theorem lw_p63 : lw_okq (⟨"BackByTwice", "hasAllPeople", "(LBackByTwice$Shelf;)Z"⟩, 9) := ⟨⟨by decide +kernel, by decide +kernel⟩, List.mem_of_getElem? (i := 15) (by decide +kernel), List.mem_of_getElem? (i := 722) (by decide +kernel), List.mem_of_getElem? (i := 723) (by decide +kernel)⟩
def lw_privs_4 : List (MethodName × Nat) := [(⟨"BackByTwice$Shop", "who", "(I)I"⟩, 10), (⟨"BackByTwice", "think", "(I)V"⟩, 9), (⟨"BackByTwice$Shop", "turnTimes", "(I)V"⟩, 10), (⟨"BackByTwice$Shop", "standsLike", "(LBackByTwice$Shop;)Z"⟩, 10), (⟨"BackByTwice", "turnOfServing", "(III)I"⟩, 9), (⟨"BackByTwice$Shop", "allBits", "()I"⟩, 10), (⟨"BackByTwice", "servedBits", "(I)I"⟩, 9), (⟨"BackByTwice$Shop", "startAnew", "()V"⟩, 10), (⟨"BackByTwice", "thinkBy", "(I)V"⟩, 9), (⟨"BackByTwice$Shop", "countsApart", "()I"⟩, 10), (⟨"BackByTwice", "spreadBy", "(II)I"⟩, 9), (⟨"BackByTwice", "refusalOfSlate", "(II)I"⟩, 9), (⟨"BackByTwice", "firstWrong", "(LBackByTwice$Shelf;I)I"⟩, 9), (⟨"BackByTwice", "firstPush", "(LBackByTwice$Shelf;I)I"⟩, 9), (⟨"BackByTwice", "timesAgain", "(IZ)I"⟩, 9), (⟨"BackByTwice", "hasAllPeople", "(LBackByTwice$Shelf;)Z"⟩, 9)]
theorem lw_r4 : ∀ q ∈ lw_privs_4, lw_okq q := List.forall_mem_cons.mpr ⟨lw_p48, List.forall_mem_cons.mpr ⟨lw_p49, List.forall_mem_cons.mpr ⟨lw_p50, List.forall_mem_cons.mpr ⟨lw_p51, List.forall_mem_cons.mpr ⟨lw_p52, List.forall_mem_cons.mpr ⟨lw_p53, List.forall_mem_cons.mpr ⟨lw_p54, List.forall_mem_cons.mpr ⟨lw_p55, List.forall_mem_cons.mpr ⟨lw_p56, List.forall_mem_cons.mpr ⟨lw_p57, List.forall_mem_cons.mpr ⟨lw_p58, List.forall_mem_cons.mpr ⟨lw_p59, List.forall_mem_cons.mpr ⟨lw_p60, List.forall_mem_cons.mpr ⟨lw_p61, List.forall_mem_cons.mpr ⟨lw_p62, List.forall_mem_cons.mpr ⟨lw_p63, fun _ h => absurd h List.not_mem_nil⟩⟩⟩⟩⟩⟩⟩⟩⟩⟩⟩⟩⟩⟩⟩⟩
theorem lw_p64 : lw_okq (⟨"BackByTwice", "rankOf", "(I)I"⟩, 9) := ⟨⟨by decide +kernel, by decide +kernel⟩, List.mem_of_getElem? (i := 15) (by decide +kernel), List.mem_of_getElem? (i := 738) (by decide +kernel), List.mem_of_getElem? (i := 739) (by decide +kernel)⟩
theorem lw_p65 : lw_okq (⟨"BackByTwice$Shop", "draw", "(I)I"⟩, 10) := ⟨⟨by decide +kernel, by decide +kernel⟩, List.mem_of_getElem? (i := 23) (by decide +kernel), List.mem_of_getElem? (i := 763) (by decide +kernel), List.mem_of_getElem? (i := 764) (by decide +kernel)⟩
theorem lw_p66 : lw_okq (⟨"BackByTwice$Shop", "allCounts", "()I"⟩, 10) := ⟨⟨by decide +kernel, by decide +kernel⟩, List.mem_of_getElem? (i := 23) (by decide +kernel), List.mem_of_getElem? (i := 788) (by decide +kernel), List.mem_of_getElem? (i := 789) (by decide +kernel)⟩
theorem lw_p67 : lw_okq (⟨"BackByTwice", "shelvesInUse", "()I"⟩, 9) := ⟨⟨by decide +kernel, by decide +kernel⟩, List.mem_of_getElem? (i := 15) (by decide +kernel), List.mem_of_getElem? (i := 792) (by decide +kernel), List.mem_of_getElem? (i := 793) (by decide +kernel)⟩
theorem lw_p68 : lw_okq (⟨"BackByTwiceModel", "refuse", "(I)I"⟩, 31) := ⟨⟨by decide +kernel, by decide +kernel⟩, List.mem_of_getElem? (i := 796) (by decide +kernel), List.mem_of_getElem? (i := 909) (by decide +kernel), List.mem_of_getElem? (i := 910) (by decide +kernel)⟩
theorem lw_p69 : lw_okq (⟨"BackByTwiceModel", "noRow", "(I)I"⟩, 31) := ⟨⟨by decide +kernel, by decide +kernel⟩, List.mem_of_getElem? (i := 796) (by decide +kernel), List.mem_of_getElem? (i := 917) (by decide +kernel), List.mem_of_getElem? (i := 918) (by decide +kernel)⟩
theorem lw_p70 : lw_okq (⟨"BackByTwiceModel", "isLaw", "(I)Z"⟩, 31) := ⟨⟨by decide +kernel, by decide +kernel⟩, List.mem_of_getElem? (i := 796) (by decide +kernel), List.mem_of_getElem? (i := 940) (by decide +kernel), List.mem_of_getElem? (i := 941) (by decide +kernel)⟩
theorem lw_p71 : lw_okq (⟨"BackByTwiceModel", "lastBy", "(II)I"⟩, 31) := ⟨⟨by decide +kernel, by decide +kernel⟩, List.mem_of_getElem? (i := 796) (by decide +kernel), List.mem_of_getElem? (i := 952) (by decide +kernel), List.mem_of_getElem? (i := 953) (by decide +kernel)⟩
theorem lw_p72 : lw_okq (⟨"BackByTwiceModel", "backBy", "(III)I"⟩, 31) := ⟨⟨by decide +kernel, by decide +kernel⟩, List.mem_of_getElem? (i := 796) (by decide +kernel), List.mem_of_getElem? (i := 956) (by decide +kernel), List.mem_of_getElem? (i := 957) (by decide +kernel)⟩
theorem lw_p73 : lw_okq (⟨"BackByTwiceModel", "addPerson", "()V"⟩, 31) := ⟨⟨by decide +kernel, by decide +kernel⟩, List.mem_of_getElem? (i := 796) (by decide +kernel), List.mem_of_getElem? (i := 964) (by decide +kernel), List.mem_of_getElem? (i := 965) (by decide +kernel)⟩
theorem lw_p74 : lw_okq (⟨"BackByTwiceModel", "addLaw", "(II)V"⟩, 31) := ⟨⟨by decide +kernel, by decide +kernel⟩, List.mem_of_getElem? (i := 796) (by decide +kernel), List.mem_of_getElem? (i := 973) (by decide +kernel), List.mem_of_getElem? (i := 974) (by decide +kernel)⟩
theorem lw_p75 : lw_okq (⟨"BackByTwiceModel", "isPerson", "(J)Z"⟩, 31) := ⟨⟨by decide +kernel, by decide +kernel⟩, List.mem_of_getElem? (i := 796) (by decide +kernel), List.mem_of_getElem? (i := 987) (by decide +kernel), List.mem_of_getElem? (i := 988) (by decide +kernel)⟩
theorem lw_p76 : lw_okq (⟨"BackByTwiceModel", "fresh", "()LBackByTwiceModel;"⟩, 31) := ⟨⟨by decide +kernel, by decide +kernel⟩, List.mem_of_getElem? (i := 796) (by decide +kernel), List.mem_of_getElem? (i := 1004) (by decide +kernel), List.mem_of_getElem? (i := 1005) (by decide +kernel)⟩
theorem lw_p77 : lw_okq (⟨"BackByTwiceModel", "takeFrom", "(LBackByTwiceModel;)V"⟩, 31) := ⟨⟨by decide +kernel, by decide +kernel⟩, List.mem_of_getElem? (i := 796) (by decide +kernel), List.mem_of_getElem? (i := 1010) (by decide +kernel), List.mem_of_getElem? (i := 1011) (by decide +kernel)⟩
theorem lw_p78 : lw_okq (⟨"BackByTwiceModel", "readAll", "()Z"⟩, 31) := ⟨⟨by decide +kernel, by decide +kernel⟩, List.mem_of_getElem? (i := 796) (by decide +kernel), List.mem_of_getElem? (i := 1017) (by decide +kernel), List.mem_of_getElem? (i := 1018) (by decide +kernel)⟩
theorem lw_p79 : lw_okq (⟨"BackByTwiceModel", "look", "()V"⟩, 31) := ⟨⟨by decide +kernel, by decide +kernel⟩, List.mem_of_getElem? (i := 796) (by decide +kernel), List.mem_of_getElem? (i := 1021) (by decide +kernel), List.mem_of_getElem? (i := 1022) (by decide +kernel)⟩
def lw_privs_5 : List (MethodName × Nat) := [(⟨"BackByTwice", "rankOf", "(I)I"⟩, 9), (⟨"BackByTwice$Shop", "draw", "(I)I"⟩, 10), (⟨"BackByTwice$Shop", "allCounts", "()I"⟩, 10), (⟨"BackByTwice", "shelvesInUse", "()I"⟩, 9), (⟨"BackByTwiceModel", "refuse", "(I)I"⟩, 31), (⟨"BackByTwiceModel", "noRow", "(I)I"⟩, 31), (⟨"BackByTwiceModel", "isLaw", "(I)Z"⟩, 31), (⟨"BackByTwiceModel", "lastBy", "(II)I"⟩, 31), (⟨"BackByTwiceModel", "backBy", "(III)I"⟩, 31), (⟨"BackByTwiceModel", "addPerson", "()V"⟩, 31), (⟨"BackByTwiceModel", "addLaw", "(II)V"⟩, 31), (⟨"BackByTwiceModel", "isPerson", "(J)Z"⟩, 31), (⟨"BackByTwiceModel", "fresh", "()LBackByTwiceModel;"⟩, 31), (⟨"BackByTwiceModel", "takeFrom", "(LBackByTwiceModel;)V"⟩, 31), (⟨"BackByTwiceModel", "readAll", "()Z"⟩, 31), (⟨"BackByTwiceModel", "look", "()V"⟩, 31)]
theorem lw_r5 : ∀ q ∈ lw_privs_5, lw_okq q := List.forall_mem_cons.mpr ⟨lw_p64, List.forall_mem_cons.mpr ⟨lw_p65, List.forall_mem_cons.mpr ⟨lw_p66, List.forall_mem_cons.mpr ⟨lw_p67, List.forall_mem_cons.mpr ⟨lw_p68, List.forall_mem_cons.mpr ⟨lw_p69, List.forall_mem_cons.mpr ⟨lw_p70, List.forall_mem_cons.mpr ⟨lw_p71, List.forall_mem_cons.mpr ⟨lw_p72, List.forall_mem_cons.mpr ⟨lw_p73, List.forall_mem_cons.mpr ⟨lw_p74, List.forall_mem_cons.mpr ⟨lw_p75, List.forall_mem_cons.mpr ⟨lw_p76, List.forall_mem_cons.mpr ⟨lw_p77, List.forall_mem_cons.mpr ⟨lw_p78, List.forall_mem_cons.mpr ⟨lw_p79, fun _ h => absurd h List.not_mem_nil⟩⟩⟩⟩⟩⟩⟩⟩⟩⟩⟩⟩⟩⟩⟩⟩
theorem lw_p80 : lw_okq (⟨"BackByTwiceModel", "statement", "()Z"⟩, 31) := ⟨⟨by decide +kernel, by decide +kernel⟩, List.mem_of_getElem? (i := 796) (by decide +kernel), List.mem_of_getElem? (i := 1031) (by decide +kernel), List.mem_of_getElem? (i := 1032) (by decide +kernel)⟩
theorem lw_p81 : lw_okq (⟨"BackByTwiceModel", "isWord", "(Ljava/lang/String;)Z"⟩, 31) := ⟨⟨by decide +kernel, by decide +kernel⟩, List.mem_of_getElem? (i := 796) (by decide +kernel), List.mem_of_getElem? (i := 1036) (by decide +kernel), List.mem_of_getElem? (i := 1037) (by decide +kernel)⟩
theorem lw_p82 : lw_okq (⟨"BackByTwiceModel", "peopleTold", "()Z"⟩, 31) := ⟨⟨by decide +kernel, by decide +kernel⟩, List.mem_of_getElem? (i := 796) (by decide +kernel), List.mem_of_getElem? (i := 1042) (by decide +kernel), List.mem_of_getElem? (i := 1043) (by decide +kernel)⟩
theorem lw_p83 : lw_okq (⟨"BackByTwiceModel", "tells", "(II)Z"⟩, 31) := ⟨⟨by decide +kernel, by decide +kernel⟩, List.mem_of_getElem? (i := 796) (by decide +kernel), List.mem_of_getElem? (i := 1046) (by decide +kernel), List.mem_of_getElem? (i := 1047) (by decide +kernel)⟩
theorem lw_p84 : lw_okq (⟨"BackByTwiceModel", "number", "(III)Z"⟩, 31) := ⟨⟨by decide +kernel, by decide +kernel⟩, List.mem_of_getElem? (i := 796) (by decide +kernel), List.mem_of_getElem? (i := 1050) (by decide +kernel), List.mem_of_getElem? (i := 1051) (by decide +kernel)⟩
theorem lw_p85 : lw_okq (⟨"BackByTwiceModel", "wrong", "()Z"⟩, 31) := ⟨⟨by decide +kernel, by decide +kernel⟩, List.mem_of_getElem? (i := 796) (by decide +kernel), List.mem_of_getElem? (i := 1054) (by decide +kernel), List.mem_of_getElem? (i := 1055) (by decide +kernel)⟩
theorem lw_p86 : lw_okq (⟨"BackByTwiceModel", "serveTold", "()Z"⟩, 31) := ⟨⟨by decide +kernel, by decide +kernel⟩, List.mem_of_getElem? (i := 796) (by decide +kernel), List.mem_of_getElem? (i := 1061) (by decide +kernel), List.mem_of_getElem? (i := 1062) (by decide +kernel)⟩
theorem lw_p87 : lw_okq (⟨"BackByTwiceModel", "goesOn", "()Z"⟩, 31) := ⟨⟨by decide +kernel, by decide +kernel⟩, List.mem_of_getElem? (i := 796) (by decide +kernel), List.mem_of_getElem? (i := 1065) (by decide +kernel), List.mem_of_getElem? (i := 1066) (by decide +kernel)⟩
theorem lw_p88 : lw_okq (⟨"BackByTwiceModel", "goes", "(I)V"⟩, 31) := ⟨⟨by decide +kernel, by decide +kernel⟩, List.mem_of_getElem? (i := 796) (by decide +kernel), List.mem_of_getElem? (i := 1069) (by decide +kernel), List.mem_of_getElem? (i := 1070) (by decide +kernel)⟩
theorem lw_p89 : lw_okq (⟨"BackByTwiceModel", "turn", "()V"⟩, 31) := ⟨⟨by decide +kernel, by decide +kernel⟩, List.mem_of_getElem? (i := 796) (by decide +kernel), List.mem_of_getElem? (i := 1073) (by decide +kernel), List.mem_of_getElem? (i := 1074) (by decide +kernel)⟩
theorem lw_p90 : lw_okq (⟨"BackByTwiceModel", "lettingAt", "(I)V"⟩, 31) := ⟨⟨by decide +kernel, by decide +kernel⟩, List.mem_of_getElem? (i := 796) (by decide +kernel), List.mem_of_getElem? (i := 1078) (by decide +kernel), List.mem_of_getElem? (i := 1079) (by decide +kernel)⟩
theorem lw_p91 : lw_okq (⟨"BackByTwiceModel", "lastLeaves", "()V"⟩, 31) := ⟨⟨by decide +kernel, by decide +kernel⟩, List.mem_of_getElem? (i := 796) (by decide +kernel), List.mem_of_getElem? (i := 1083) (by decide +kernel), List.mem_of_getElem? (i := 1084) (by decide +kernel)⟩
theorem lw_p92 : lw_okq (⟨"BackByTwiceModel", "movesTo", "(II)V"⟩, 31) := ⟨⟨by decide +kernel, by decide +kernel⟩, List.mem_of_getElem? (i := 796) (by decide +kernel), List.mem_of_getElem? (i := 1087) (by decide +kernel), List.mem_of_getElem? (i := 1088) (by decide +kernel)⟩
theorem lw_p93 : lw_okq (⟨"BackByTwiceModel", "placeOf", "(I)I"⟩, 31) := ⟨⟨by decide +kernel, by decide +kernel⟩, List.mem_of_getElem? (i := 796) (by decide +kernel), List.mem_of_getElem? (i := 1091) (by decide +kernel), List.mem_of_getElem? (i := 1092) (by decide +kernel)⟩
theorem lw_p94 : lw_okq (⟨"BackByTwiceModel", "behindOf", "(I)LBackByTwiceModel;"⟩, 31) := ⟨⟨by decide +kernel, by decide +kernel⟩, List.mem_of_getElem? (i := 796) (by decide +kernel), List.mem_of_getElem? (i := 1116) (by decide +kernel), List.mem_of_getElem? (i := 1117) (by decide +kernel)⟩
theorem lw_p95 : lw_okq (⟨"BackByTwiceModel", "standsAs", "(LBackByTwiceModel;)Z"⟩, 31) := ⟨⟨by decide +kernel, by decide +kernel⟩, List.mem_of_getElem? (i := 796) (by decide +kernel), List.mem_of_getElem? (i := 1133) (by decide +kernel), List.mem_of_getElem? (i := 1134) (by decide +kernel)⟩
def lw_privs_6 : List (MethodName × Nat) := [(⟨"BackByTwiceModel", "statement", "()Z"⟩, 31), (⟨"BackByTwiceModel", "isWord", "(Ljava/lang/String;)Z"⟩, 31), (⟨"BackByTwiceModel", "peopleTold", "()Z"⟩, 31), (⟨"BackByTwiceModel", "tells", "(II)Z"⟩, 31), (⟨"BackByTwiceModel", "number", "(III)Z"⟩, 31), (⟨"BackByTwiceModel", "wrong", "()Z"⟩, 31), (⟨"BackByTwiceModel", "serveTold", "()Z"⟩, 31), (⟨"BackByTwiceModel", "goesOn", "()Z"⟩, 31), (⟨"BackByTwiceModel", "goes", "(I)V"⟩, 31), (⟨"BackByTwiceModel", "turn", "()V"⟩, 31), (⟨"BackByTwiceModel", "lettingAt", "(I)V"⟩, 31), (⟨"BackByTwiceModel", "lastLeaves", "()V"⟩, 31), (⟨"BackByTwiceModel", "movesTo", "(II)V"⟩, 31), (⟨"BackByTwiceModel", "placeOf", "(I)I"⟩, 31), (⟨"BackByTwiceModel", "behindOf", "(I)LBackByTwiceModel;"⟩, 31), (⟨"BackByTwiceModel", "standsAs", "(LBackByTwiceModel;)Z"⟩, 31)]
theorem lw_r6 : ∀ q ∈ lw_privs_6, lw_okq q := List.forall_mem_cons.mpr ⟨lw_p80, List.forall_mem_cons.mpr ⟨lw_p81, List.forall_mem_cons.mpr ⟨lw_p82, List.forall_mem_cons.mpr ⟨lw_p83, List.forall_mem_cons.mpr ⟨lw_p84, List.forall_mem_cons.mpr ⟨lw_p85, List.forall_mem_cons.mpr ⟨lw_p86, List.forall_mem_cons.mpr ⟨lw_p87, List.forall_mem_cons.mpr ⟨lw_p88, List.forall_mem_cons.mpr ⟨lw_p89, List.forall_mem_cons.mpr ⟨lw_p90, List.forall_mem_cons.mpr ⟨lw_p91, List.forall_mem_cons.mpr ⟨lw_p92, List.forall_mem_cons.mpr ⟨lw_p93, List.forall_mem_cons.mpr ⟨lw_p94, List.forall_mem_cons.mpr ⟨lw_p95, fun _ h => absurd h List.not_mem_nil⟩⟩⟩⟩⟩⟩⟩⟩⟩⟩⟩⟩⟩⟩⟩⟩
theorem lw_p96 : lw_okq (⟨"BackByTwiceModel", "whenIn", "(LBackByTwiceModel;III)I"⟩, 31) := ⟨⟨by decide +kernel, by decide +kernel⟩, List.mem_of_getElem? (i := 796) (by decide +kernel), List.mem_of_getElem? (i := 1141) (by decide +kernel), List.mem_of_getElem? (i := 1142) (by decide +kernel)⟩
theorem lw_p97 : lw_okq (⟨"BackByTwiceModel", "servedIn", "(I)I"⟩, 31) := ⟨⟨by decide +kernel, by decide +kernel⟩, List.mem_of_getElem? (i := 796) (by decide +kernel), List.mem_of_getElem? (i := 1149) (by decide +kernel), List.mem_of_getElem? (i := 1150) (by decide +kernel)⟩
theorem lw_p98 : lw_okq (⟨"BackByTwiceModel", "beginsAnew", "()V"⟩, 31) := ⟨⟨by decide +kernel, by decide +kernel⟩, List.mem_of_getElem? (i := 796) (by decide +kernel), List.mem_of_getElem? (i := 1165) (by decide +kernel), List.mem_of_getElem? (i := 1166) (by decide +kernel)⟩
theorem lw_p99 : lw_okq (⟨"BackByTwiceModel", "mostCounts", "()I"⟩, 31) := ⟨⟨by decide +kernel, by decide +kernel⟩, List.mem_of_getElem? (i := 796) (by decide +kernel), List.mem_of_getElem? (i := 1169) (by decide +kernel), List.mem_of_getElem? (i := 1170) (by decide +kernel)⟩
theorem lw_p100 : lw_okq (⟨"BackByTwiceModel", "anewBy", "(I)LBackByTwiceModel;"⟩, 31) := ⟨⟨by decide +kernel, by decide +kernel⟩, List.mem_of_getElem? (i := 796) (by decide +kernel), List.mem_of_getElem? (i := 1201) (by decide +kernel), List.mem_of_getElem? (i := 1202) (by decide +kernel)⟩
theorem lw_p101 : lw_okq (⟨"BackByTwiceModel", "spreadNow", "()I"⟩, 31) := ⟨⟨by decide +kernel, by decide +kernel⟩, List.mem_of_getElem? (i := 796) (by decide +kernel), List.mem_of_getElem? (i := 1205) (by decide +kernel), List.mem_of_getElem? (i := 1206) (by decide +kernel)⟩
theorem lw_p102 : lw_okq (⟨"BackByTwiceModel", "spreadBy", "(II)I"⟩, 31) := ⟨⟨by decide +kernel, by decide +kernel⟩, List.mem_of_getElem? (i := 796) (by decide +kernel), List.mem_of_getElem? (i := 1213) (by decide +kernel), List.mem_of_getElem? (i := 1214) (by decide +kernel)⟩
theorem lw_p103 : lw_okq (⟨"BackByTwiceModel", "noSlate", "(II)I"⟩, 31) := ⟨⟨by decide +kernel, by decide +kernel⟩, List.mem_of_getElem? (i := 796) (by decide +kernel), List.mem_of_getElem? (i := 1225) (by decide +kernel), List.mem_of_getElem? (i := 1226) (by decide +kernel)⟩
theorem lw_p104 : lw_okq (⟨"BackByTwiceModel", "wrongIn", "([JI)I"⟩, 31) := ⟨⟨by decide +kernel, by decide +kernel⟩, List.mem_of_getElem? (i := 796) (by decide +kernel), List.mem_of_getElem? (i := 1229) (by decide +kernel), List.mem_of_getElem? (i := 1230) (by decide +kernel)⟩
theorem lw_p105 : lw_okq (⟨"BackByTwiceModel", "findAway", "(II)V"⟩, 31) := ⟨⟨by decide +kernel, by decide +kernel⟩, List.mem_of_getElem? (i := 796) (by decide +kernel), List.mem_of_getElem? (i := 1275) (by decide +kernel), List.mem_of_getElem? (i := 1276) (by decide +kernel)⟩
theorem lw_p106 : lw_okq (⟨"BackByTwiceModel", "longestOf", "()I"⟩, 31) := ⟨⟨by decide +kernel, by decide +kernel⟩, List.mem_of_getElem? (i := 796) (by decide +kernel), List.mem_of_getElem? (i := 1295) (by decide +kernel), List.mem_of_getElem? (i := 1296) (by decide +kernel)⟩
theorem lw_p107 : lw_okq (⟨"BackByTwiceModel", "below", "(I)I"⟩, 31) := ⟨⟨by decide +kernel, by decide +kernel⟩, List.mem_of_getElem? (i := 796) (by decide +kernel), List.mem_of_getElem? (i := 1326) (by decide +kernel), List.mem_of_getElem? (i := 1327) (by decide +kernel)⟩
def lw_privs_7 : List (MethodName × Nat) := [(⟨"BackByTwiceModel", "whenIn", "(LBackByTwiceModel;III)I"⟩, 31), (⟨"BackByTwiceModel", "servedIn", "(I)I"⟩, 31), (⟨"BackByTwiceModel", "beginsAnew", "()V"⟩, 31), (⟨"BackByTwiceModel", "mostCounts", "()I"⟩, 31), (⟨"BackByTwiceModel", "anewBy", "(I)LBackByTwiceModel;"⟩, 31), (⟨"BackByTwiceModel", "spreadNow", "()I"⟩, 31), (⟨"BackByTwiceModel", "spreadBy", "(II)I"⟩, 31), (⟨"BackByTwiceModel", "noSlate", "(II)I"⟩, 31), (⟨"BackByTwiceModel", "wrongIn", "([JI)I"⟩, 31), (⟨"BackByTwiceModel", "findAway", "(II)V"⟩, 31), (⟨"BackByTwiceModel", "longestOf", "()I"⟩, 31), (⟨"BackByTwiceModel", "below", "(I)I"⟩, 31)]
theorem lw_r7 : ∀ q ∈ lw_privs_7, lw_okq q := List.forall_mem_cons.mpr ⟨lw_p96, List.forall_mem_cons.mpr ⟨lw_p97, List.forall_mem_cons.mpr ⟨lw_p98, List.forall_mem_cons.mpr ⟨lw_p99, List.forall_mem_cons.mpr ⟨lw_p100, List.forall_mem_cons.mpr ⟨lw_p101, List.forall_mem_cons.mpr ⟨lw_p102, List.forall_mem_cons.mpr ⟨lw_p103, List.forall_mem_cons.mpr ⟨lw_p104, List.forall_mem_cons.mpr ⟨lw_p105, List.forall_mem_cons.mpr ⟨lw_p106, List.forall_mem_cons.mpr ⟨lw_p107, fun _ h => absurd h List.not_mem_nil⟩⟩⟩⟩⟩⟩⟩⟩⟩⟩⟩⟩
def lw_privs : List (MethodName × Nat) := lw_privs_1 ++ (lw_privs_2 ++ (lw_privs_3 ++ (lw_privs_4 ++ (lw_privs_5 ++ (lw_privs_6 ++ (lw_privs_7))))))
def lw_tbl : List Cond := k2_sels lw_privs ++ tables_1
theorem lw_privs_ok : ∀ q ∈ lw_privs, lw_okq q := by
  show ∀ q ∈ lw_privs_1 ++ (lw_privs_2 ++ (lw_privs_3 ++ (lw_privs_4 ++ (lw_privs_5 ++ (lw_privs_6 ++ (lw_privs_7)))))), lw_okq q
  exact List.forall_mem_append.mpr ⟨lw_r1, List.forall_mem_append.mpr ⟨lw_r2, List.forall_mem_append.mpr ⟨lw_r3, List.forall_mem_append.mpr ⟨lw_r4, List.forall_mem_append.mpr ⟨lw_r5, List.forall_mem_append.mpr ⟨lw_r6, lw_r7⟩⟩⟩⟩⟩⟩
-- ===== end of PART A; then your names; then what follows =====
end
section
def RX0 : String := "BackByTwice$Shelf"
def TX0 : u_T := fun k => match k with
  | 0 => ("BackByTwice$Shelf", "elements", "[J", true)
  | 1 => ("BackByTwice$Shelf", "sort", "I", false)
  | 2 => ("BackByTwice$Shelf", "law", "I", false)
  | _ => ("BackByTwice$Shelf", "size", "I", false)
def tyX0 : Nat → FieldType := fun k => match k with
  | 0 => .array .long
  | 1 => .int
  | 2 => .int
  | _ => .int
abbrev wsX00 : List Cond := u_ws RX0 TX0 4
theorem nmX0 : ∀ a, a < 4 → ∀ b, b < 4 → a ≠ b → (TX0 a).2.1 ≠ (TX0 b).2.1 := by decide +kernel
theorem tyX0_ok : ∀ k, k < 4 → parseFieldDescriptor (TX0 k).2.2.1 = some (tyX0 k) := by decide +kernel
abbrev cX0_init : ByteArray := prog_2_method_1_code
def yX0_init : MethodName := ⟨RX0, "<init>", "()V"⟩
abbrev cX0_holdsRow : ByteArray := prog_2_method_2_code
def yX0_holdsRow : MethodName := ⟨RX0, "holdsRow", "()Z"⟩
abbrev cX0_holdsLaw : ByteArray := prog_2_method_3_code
def yX0_holdsLaw : MethodName := ⟨RX0, "holdsLaw", "()Z"⟩
abbrev cX0_isOtherRowThan : ByteArray := prog_2_method_4_code
def yX0_isOtherRowThan : MethodName := ⟨RX0, "isOtherRowThan", "(LBackByTwice$Shelf;)Z"⟩
abbrev cX0_refusalOfRow : ByteArray := prog_2_method_5_code
def yX0_refusalOfRow : MethodName := ⟨RX0, "refusalOfRow", "()I"⟩
abbrev cX0_content : ByteArray := prog_2_method_6_code
def yX0_content : MethodName := ⟨RX0, "content", "()I"⟩
abbrev cX0_holdRow : ByteArray := prog_2_method_7_code
def yX0_holdRow : MethodName := ⟨RX0, "holdRow", "(II)V"⟩
abbrev cX0_holdLaw : ByteArray := prog_2_method_8_code
def yX0_holdLaw : MethodName := ⟨RX0, "holdLaw", "(I)V"⟩
abbrev cX0_hasPart : ByteArray := prog_2_method_9_code
def yX0_hasPart : MethodName := ⟨RX0, "hasPart", "(II)Z"⟩
abbrev cX0_elementAt : ByteArray := prog_2_method_10_code
def yX0_elementAt : MethodName := ⟨RX0, "elementAt", "(I)J"⟩
abbrev cX0_put : ByteArray := prog_2_method_11_code
def yX0_put : MethodName := ⟨RX0, "put", "(IJ)V"⟩
abbrev cX0_cut : ByteArray := prog_2_method_12_code
def yX0_cut : MethodName := ⟨RX0, "cut", "(J)J"⟩
def RX1 : String := "BackByTwice$Shop"
def TX1 : u_T := fun k => match k with
  | 0 => ("BackByTwice$Shop", "line", "[I", true)
  | 1 => ("BackByTwice$Shop", "counts", "[I", true)
  | 2 => ("BackByTwice$Shop", "lasts", "[I", true)
  | 3 => ("BackByTwice$Shop", "kinds", "[I", true)
  | 4 => ("BackByTwice$Shop", "amounts", "[I", true)
  | 5 => ("BackByTwice$Shop", "people", "I", false)
  | 6 => ("BackByTwice$Shop", "laws", "I", false)
  | 7 => ("BackByTwice$Shop", "force", "I", false)
  | 8 => ("BackByTwice$Shop", "turns", "I", false)
  | _ => ("BackByTwice$Shop", "seed", "I", false)
def tyX1 : Nat → FieldType := fun k => match k with
  | 0 => .array .int
  | 1 => .array .int
  | 2 => .array .int
  | 3 => .array .int
  | 4 => .array .int
  | 5 => .int
  | 6 => .int
  | 7 => .int
  | 8 => .int
  | _ => .int
abbrev wsX10 : List Cond := u_ws RX1 TX1 10
theorem nmX1 : ∀ a, a < 10 → ∀ b, b < 10 → a ≠ b → (TX1 a).2.1 ≠ (TX1 b).2.1 := by decide +kernel
theorem tyX1_ok : ∀ k, k < 10 → parseFieldDescriptor (TX1 k).2.2.1 = some (tyX1 k) := by decide +kernel
abbrev cX1_init : ByteArray := prog_3_method_1_code
def yX1_init : MethodName := ⟨RX1, "<init>", "()V"⟩
abbrev cX1_become : ByteArray := prog_3_method_2_code
def yX1_become : MethodName := ⟨RX1, "become", "(LBackByTwice$Shop;)V"⟩
abbrev cX1_isEmpty : ByteArray := prog_3_method_3_code
def yX1_isEmpty : MethodName := ⟨RX1, "isEmpty", "()Z"⟩
abbrev cX1_isLawless : ByteArray := prog_3_method_4_code
def yX1_isLawless : MethodName := ⟨RX1, "isLawless", "()Z"⟩
abbrev cX1_isStuck : ByteArray := prog_3_method_5_code
def yX1_isStuck : MethodName := ⟨RX1, "isStuck", "()Z"⟩
abbrev cX1_hasRoom : ByteArray := prog_3_method_6_code
def yX1_hasRoom : MethodName := ⟨RX1, "hasRoom", "()Z"⟩
abbrev cX1_hasRoomForLaw : ByteArray := prog_3_method_7_code
def yX1_hasRoomForLaw : MethodName := ⟨RX1, "hasRoomForLaw", "()Z"⟩
abbrev cX1_hasPerson : ByteArray := prog_3_method_8_code
def yX1_hasPerson : MethodName := ⟨RX1, "hasPerson", "(I)Z"⟩
abbrev cX1_hasPlace : ByteArray := prog_3_method_9_code
def yX1_hasPlace : MethodName := ⟨RX1, "hasPlace", "(I)Z"⟩
abbrev cX1_hasLaw : ByteArray := prog_3_method_10_code
def yX1_hasLaw : MethodName := ⟨RX1, "hasLaw", "(I)Z"⟩
abbrev cX1_who : ByteArray := prog_3_method_11_code
def yX1_who : MethodName := ⟨RX1, "who", "(I)I"⟩
abbrev cX1_placeOf : ByteArray := prog_3_method_12_code
def yX1_placeOf : MethodName := ⟨RX1, "placeOf", "(I)I"⟩
abbrev cX1_fact : ByteArray := prog_3_method_13_code
def yX1_fact : MethodName := ⟨RX1, "fact", "(II)I"⟩
abbrev cX1_kindOf : ByteArray := prog_3_method_14_code
def yX1_kindOf : MethodName := ⟨RX1, "kindOf", "(I)I"⟩
abbrev cX1_amountOf : ByteArray := prog_3_method_15_code
def yX1_amountOf : MethodName := ⟨RX1, "amountOf", "(I)I"⟩
abbrev cX1_allBits : ByteArray := prog_3_method_16_code
def yX1_allBits : MethodName := ⟨RX1, "allBits", "()I"⟩
abbrev cX1_allCounts : ByteArray := prog_3_method_17_code
def yX1_allCounts : MethodName := ⟨RX1, "allCounts", "()I"⟩
abbrev cX1_countsApart : ByteArray := prog_3_method_18_code
def yX1_countsApart : MethodName := ⟨RX1, "countsApart", "()I"⟩
abbrev cX1_standsLike : ByteArray := prog_3_method_19_code
def yX1_standsLike : MethodName := ⟨RX1, "standsLike", "(LBackByTwice$Shop;)Z"⟩
abbrev cX1_add : ByteArray := prog_3_method_20_code
def yX1_add : MethodName := ⟨RX1, "add", "()I"⟩
abbrev cX1_removeLast : ByteArray := prog_3_method_21_code
def yX1_removeLast : MethodName := ⟨RX1, "removeLast", "()V"⟩
abbrev cX1_addLaw : ByteArray := prog_3_method_22_code
def yX1_addLaw : MethodName := ⟨RX1, "addLaw", "(II)I"⟩
abbrev cX1_letBefore : ByteArray := prog_3_method_23_code
def yX1_letBefore : MethodName := ⟨RX1, "letBefore", "(I)I"⟩
abbrev cX1_move : ByteArray := prog_3_method_24_code
def yX1_move : MethodName := ⟨RX1, "move", "(II)V"⟩
abbrev cX1_startAnew : ByteArray := prog_3_method_25_code
def yX1_startAnew : MethodName := ⟨RX1, "startAnew", "()V"⟩
abbrev cX1_stepsBack : ByteArray := prog_3_method_26_code
def yX1_stepsBack : MethodName := ⟨RX1, "stepsBack", "(I)I"⟩
abbrev cX1_stepsWanted : ByteArray := prog_3_method_27_code
def yX1_stepsWanted : MethodName := ⟨RX1, "stepsWanted", "(II)I"⟩
abbrev cX1_lastThen : ByteArray := prog_3_method_28_code
def yX1_lastThen : MethodName := ⟨RX1, "lastThen", "(I)I"⟩
abbrev cX1_turn : ByteArray := prog_3_method_29_code
def yX1_turn : MethodName := ⟨RX1, "turn", "()I"⟩
abbrev cX1_turnTimes : ByteArray := prog_3_method_30_code
def yX1_turnTimes : MethodName := ⟨RX1, "turnTimes", "(I)V"⟩
abbrev cX1_draw : ByteArray := prog_3_method_31_code
def yX1_draw : MethodName := ⟨RX1, "draw", "(I)I"⟩
def RX2 : String := "BackByTwice$Tape"
def TX2 : u_T := fun k => match k with
  | 0 => ("BackByTwice$Tape", "bytes", "[I", true)
  | 1 => ("BackByTwice$Tape", "size", "I", false)
  | 2 => ("BackByTwice$Tape", "start", "I", false)
  | _ => ("BackByTwice$Tape", "end", "I", false)
def tyX2 : Nat → FieldType := fun k => match k with
  | 0 => .array .int
  | 1 => .int
  | 2 => .int
  | _ => .int
abbrev wsX20 : List Cond := u_ws RX2 TX2 4
theorem nmX2 : ∀ a, a < 4 → ∀ b, b < 4 → a ≠ b → (TX2 a).2.1 ≠ (TX2 b).2.1 := by decide +kernel
theorem tyX2_ok : ∀ k, k < 4 → parseFieldDescriptor (TX2 k).2.2.1 = some (tyX2 k) := by decide +kernel
abbrev cX2_init : ByteArray := prog_4_method_1_code
def yX2_init : MethodName := ⟨RX2, "<init>", "()V"⟩
abbrev cX2_add : ByteArray := prog_4_method_2_code
def yX2_add : MethodName := ⟨RX2, "add", "(I)Z"⟩
abbrev cX2_readInto : ByteArray := prog_4_method_3_code
def yX2_readInto : MethodName := ⟨RX2, "readInto", "(LBackByTwice$Shop;)I"⟩
abbrev cX2_readStatement : ByteArray := prog_4_method_4_code
def yX2_readStatement : MethodName := ⟨RX2, "readStatement", "(LBackByTwice$Shop;)Z"⟩
abbrev cX2_readPeople : ByteArray := prog_4_method_5_code
def yX2_readPeople : MethodName := ⟨RX2, "readPeople", "(LBackByTwice$Shop;)Z"⟩
abbrev cX2_readLaw : ByteArray := prog_4_method_6_code
def yX2_readLaw : MethodName := ⟨RX2, "readLaw", "(LBackByTwice$Shop;)Z"⟩
abbrev cX2_readUse : ByteArray := prog_4_method_7_code
def yX2_readUse : MethodName := ⟨RX2, "readUse", "(LBackByTwice$Shop;)Z"⟩
abbrev cX2_readServe : ByteArray := prog_4_method_8_code
def yX2_readServe : MethodName := ⟨RX2, "readServe", "(LBackByTwice$Shop;)Z"⟩
abbrev cX2_readLet : ByteArray := prog_4_method_9_code
def yX2_readLet : MethodName := ⟨RX2, "readLet", "(LBackByTwice$Shop;)Z"⟩
abbrev cX2_readLeave : ByteArray := prog_4_method_10_code
def yX2_readLeave : MethodName := ⟨RX2, "readLeave", "(LBackByTwice$Shop;)Z"⟩
abbrev cX2_readCount : ByteArray := prog_4_method_11_code
def yX2_readCount : MethodName := ⟨RX2, "readCount", "(LBackByTwice$Shop;)Z"⟩
abbrev cX2_goOn : ByteArray := prog_4_method_12_code
def yX2_goOn : MethodName := ⟨RX2, "goOn", "()V"⟩
abbrev cX2_isLetter : ByteArray := prog_4_method_13_code
def yX2_isLetter : MethodName := ⟨RX2, "isLetter", "(I)Z"⟩
abbrev cX2_isDigit : ByteArray := prog_4_method_14_code
def yX2_isDigit : MethodName := ⟨RX2, "isDigit", "(I)Z"⟩
abbrev cX2_isWord : ByteArray := prog_4_method_15_code
def yX2_isWord : MethodName := ⟨RX2, "isWord", "(Ljava/lang/String;)Z"⟩
abbrev cX2_number : ByteArray := prog_4_method_16_code
def yX2_number : MethodName := ⟨RX2, "number", "(II)I"⟩
abbrev cX2_numberInHand : ByteArray := prog_4_method_17_code
def yX2_numberInHand : MethodName := ⟨RX2, "numberInHand", "()I"⟩
def RX3 : String := "BackByTwice"
def TX3 : u_T := fun k => match k with
  | 0 => ("BackByTwice", "truth", "LBackByTwice$Shop;", true)
  | 1 => ("BackByTwice", "kept", "LBackByTwice$Shop;", true)
  | 2 => ("BackByTwice", "thought", "LBackByTwice$Shop;", true)
  | 3 => ("BackByTwice", "otherThought", "LBackByTwice$Shop;", true)
  | 4 => ("BackByTwice", "tape", "LBackByTwice$Tape;", true)
  | 5 => ("BackByTwice", "shelves", "[LBackByTwice$Shelf;", true)
  | 6 => ("BackByTwice", "pack", "[I", true)
  | 7 => ("BackByTwice", "refusals", "[I", true)
  | _ => ("BackByTwice", "isKept", "Z", false)
def tyX3 : Nat → FieldType := fun k => match k with
  | 0 => .object "BackByTwice$Shop"
  | 1 => .object "BackByTwice$Shop"
  | 2 => .object "BackByTwice$Shop"
  | 3 => .object "BackByTwice$Shop"
  | 4 => .object "BackByTwice$Tape"
  | 5 => .array (.object "BackByTwice$Shelf")
  | 6 => .array .int
  | 7 => .array .int
  | _ => .boolean
abbrev wsX30 : List Cond := u_ws RX3 TX3 9
theorem nmX3 : ∀ a, a < 9 → ∀ b, b < 9 → a ≠ b → (TX3 a).2.1 ≠ (TX3 b).2.1 := by decide +kernel
theorem tyX3_ok : ∀ k, k < 9 → parseFieldDescriptor (TX3 k).2.2.1 = some (tyX3 k) := by decide +kernel
abbrev cX3_init : ByteArray := prog_1_method_1_code
def yX3_init : MethodName := ⟨RX3, "<init>", "()V"⟩
abbrev cX3_row : ByteArray := prog_1_method_2_code
def yX3_row : MethodName := ⟨RX3, "row", "(III)I"⟩
abbrev cX3_set : ByteArray := prog_1_method_3_code
def yX3_set : MethodName := ⟨RX3, "set", "(IIJ)I"⟩
abbrev cX3_copy : ByteArray := prog_1_method_4_code
def yX3_copy : MethodName := ⟨RX3, "copy", "(IIIII)I"⟩
abbrev cX3_element : ByteArray := prog_1_method_5_code
def yX3_element : MethodName := ⟨RX3, "element", "(II)J"⟩
abbrev cX3_holds : ByteArray := prog_1_method_6_code
def yX3_holds : MethodName := ⟨RX3, "holds", "(I)I"⟩
abbrev cX3_show : ByteArray := prog_1_method_7_code
def yX3_show : MethodName := ⟨RX3, "show", "(II)I"⟩
abbrev cX3_says : ByteArray := prog_1_method_8_code
def yX3_says : MethodName := ⟨RX3, "says", "(II)I"⟩
abbrev cX3_comes : ByteArray := prog_1_method_9_code
def yX3_comes : MethodName := ⟨RX3, "comes", "()I"⟩
abbrev cX3_law : ByteArray := prog_1_method_10_code
def yX3_law : MethodName := ⟨RX3, "law", "(II)I"⟩
abbrev cX3_use : ByteArray := prog_1_method_11_code
def yX3_use : MethodName := ⟨RX3, "use", "(I)I"⟩
abbrev cX3_tell : ByteArray := prog_1_method_12_code
def yX3_tell : MethodName := ⟨RX3, "tell", "(III)I"⟩
abbrev cX3_feed : ByteArray := prog_1_method_13_code
def yX3_feed : MethodName := ⟨RX3, "feed", "(I)I"⟩
abbrev cX3_wipe : ByteArray := prog_1_method_14_code
def yX3_wipe : MethodName := ⟨RX3, "wipe", "()I"⟩
abbrev cX3_shop : ByteArray := prog_1_method_15_code
def yX3_shop : MethodName := ⟨RX3, "shop", "()I"⟩
abbrev cX3_personOf : ByteArray := prog_1_method_16_code
def yX3_personOf : MethodName := ⟨RX3, "personOf", "(II)I"⟩
abbrev cX3_lawOf : ByteArray := prog_1_method_17_code
def yX3_lawOf : MethodName := ⟨RX3, "lawOf", "(II)I"⟩
abbrev cX3_at : ByteArray := prog_1_method_18_code
def yX3_at : MethodName := ⟨RX3, "at", "(I)I"⟩
abbrev cX3_stands : ByteArray := prog_1_method_19_code
def yX3_stands : MethodName := ⟨RX3, "stands", "(II)I"⟩
abbrev cX3_behind : ByteArray := prog_1_method_20_code
def yX3_behind : MethodName := ⟨RX3, "behind", "(III)I"⟩
abbrev cX3_served : ByteArray := prog_1_method_21_code
def yX3_served : MethodName := ⟨RX3, "served", "(I)I"⟩
abbrev cX3_round : ByteArray := prog_1_method_22_code
def yX3_round : MethodName := ⟨RX3, "round", "()I"⟩
abbrev cX3_when : ByteArray := prog_1_method_23_code
def yX3_when : MethodName := ⟨RX3, "when", "(II)I"⟩
abbrev cX3_never : ByteArray := prog_1_method_24_code
def yX3_never : MethodName := ⟨RX3, "never", "()I"⟩
abbrev cX3_stand : ByteArray := prog_1_method_25_code
def yX3_stand : MethodName := ⟨RX3, "stand", "(I)I"⟩
abbrev cX3_leader : ByteArray := prog_1_method_26_code
def yX3_leader : MethodName := ⟨RX3, "leader", "(I)I"⟩
abbrev cX3_waits : ByteArray := prog_1_method_27_code
def yX3_waits : MethodName := ⟨RX3, "waits", "(I)I"⟩
abbrev cX3_several : ByteArray := prog_1_method_28_code
def yX3_several : MethodName := ⟨RX3, "several", "(I)I"⟩
abbrev cX3_beside : ByteArray := prog_1_method_29_code
def yX3_beside : MethodName := ⟨RX3, "beside", "(II)I"⟩
abbrev cX3_unlike : ByteArray := prog_1_method_30_code
def yX3_unlike : MethodName := ⟨RX3, "unlike", "(II)I"⟩
abbrev cX3_lawFor : ByteArray := prog_1_method_31_code
def yX3_lawFor : MethodName := ⟨RX3, "lawFor", "(II)I"⟩
abbrev cX3_newcomer : ByteArray := prog_1_method_32_code
def yX3_newcomer : MethodName := ⟨RX3, "newcomer", "()I"⟩
abbrev cX3_forward : ByteArray := prog_1_method_33_code
def yX3_forward : MethodName := ⟨RX3, "forward", "(III)I"⟩
abbrev cX3_level : ByteArray := prog_1_method_34_code
def yX3_level : MethodName := ⟨RX3, "level", "(I)I"⟩
abbrev cX3_spread : ByteArray := prog_1_method_35_code
def yX3_spread : MethodName := ⟨RX3, "spread", "(II)I"⟩
abbrev cX3_fairest : ByteArray := prog_1_method_36_code
def yX3_fairest : MethodName := ⟨RX3, "fairest", "(I)I"⟩
abbrev cX3_judge : ByteArray := prog_1_method_37_code
def yX3_judge : MethodName := ⟨RX3, "judge", "(II)I"⟩
abbrev cX3_fits : ByteArray := prog_1_method_38_code
def yX3_fits : MethodName := ⟨RX3, "fits", "(II)I"⟩
abbrev cX3_pushed : ByteArray := prog_1_method_39_code
def yX3_pushed : MethodName := ⟨RX3, "pushed", "(II)I"⟩
abbrev cX3_again : ByteArray := prog_1_method_40_code
def yX3_again : MethodName := ⟨RX3, "again", "(IZ)I"⟩
abbrev cX3_lies : ByteArray := prog_1_method_41_code
def yX3_lies : MethodName := ⟨RX3, "lies", "(IZII)I"⟩
abbrev cX3_stay : ByteArray := prog_1_method_42_code
def yX3_stay : MethodName := ⟨RX3, "stay", "(IZI)I"⟩
abbrev cX3_rounds : ByteArray := prog_1_method_43_code
def yX3_rounds : MethodName := ⟨RX3, "rounds", "(IZ)I"⟩
abbrev cX3_tail : ByteArray := prog_1_method_44_code
def yX3_tail : MethodName := ⟨RX3, "tail", "(I)I"⟩
abbrev cX3_brings : ByteArray := prog_1_method_45_code
def yX3_brings : MethodName := ⟨RX3, "brings", "(III)I"⟩
abbrev cX3_after : ByteArray := prog_1_method_46_code
def yX3_after : MethodName := ⟨RX3, "after", "(II)I"⟩
abbrev cX3_fewest : ByteArray := prog_1_method_47_code
def yX3_fewest : MethodName := ⟨RX3, "fewest", "(I)I"⟩
abbrev cX3_unserved : ByteArray := prog_1_method_48_code
def yX3_unserved : MethodName := ⟨RX3, "unserved", "()I"⟩
abbrev cX3_longest : ByteArray := prog_1_method_49_code
def yX3_longest : MethodName := ⟨RX3, "longest", "()I"⟩
abbrev cX3_ranked : ByteArray := prog_1_method_50_code
def yX3_ranked : MethodName := ⟨RX3, "ranked", "(I)I"⟩
abbrev cX3_serve : ByteArray := prog_1_method_51_code
def yX3_serve : MethodName := ⟨RX3, "serve", "(I)I"⟩
abbrev cX3_lets : ByteArray := prog_1_method_52_code
def yX3_lets : MethodName := ⟨RX3, "lets", "(I)I"⟩
abbrev cX3_moves : ByteArray := prog_1_method_53_code
def yX3_moves : MethodName := ⟨RX3, "moves", "(II)I"⟩
abbrev cX3_leaves : ByteArray := prog_1_method_54_code
def yX3_leaves : MethodName := ⟨RX3, "leaves", "()I"⟩
abbrev cX3_day : ByteArray := prog_1_method_55_code
def yX3_day : MethodName := ⟨RX3, "day", "(I)I"⟩
abbrev cX3_anew : ByteArray := prog_1_method_56_code
def yX3_anew : MethodName := ⟨RX3, "anew", "()I"⟩
abbrev cX3_seed : ByteArray := prog_1_method_57_code
def yX3_seed : MethodName := ⟨RX3, "seed", "(I)I"⟩
abbrev cX3_image : ByteArray := prog_1_method_58_code
def yX3_image : MethodName := ⟨RX3, "image", "()I"⟩
abbrev cX3_back : ByteArray := prog_1_method_59_code
def yX3_back : MethodName := ⟨RX3, "back", "()I"⟩
abbrev cX3_status : ByteArray := prog_1_method_60_code
def yX3_status : MethodName := ⟨RX3, "status", "(I)I"⟩
abbrev cX3_isBetween : ByteArray := prog_1_method_61_code
def yX3_isBetween : MethodName := ⟨RX3, "isBetween", "(III)Z"⟩
abbrev cX3_isShelf : ByteArray := prog_1_method_62_code
def yX3_isShelf : MethodName := ⟨RX3, "isShelf", "(I)Z"⟩
abbrev cX3_isKind : ByteArray := prog_1_method_63_code
def yX3_isKind : MethodName := ⟨RX3, "isKind", "(I)Z"⟩
abbrev cX3_isPack : ByteArray := prog_1_method_64_code
def yX3_isPack : MethodName := ⟨RX3, "isPack", "(I)Z"⟩
abbrev cX3_isUnder : ByteArray := prog_1_method_65_code
def yX3_isUnder : MethodName := ⟨RX3, "isUnder", "(II)Z"⟩
abbrev cX3_refuse : ByteArray := prog_1_method_66_code
def yX3_refuse : MethodName := ⟨RX3, "refuse", "(I)I"⟩
abbrev cX3_refusalOfSlate : ByteArray := prog_1_method_67_code
def yX3_refusalOfSlate : MethodName := ⟨RX3, "refusalOfSlate", "(II)I"⟩
abbrev cX3_think : ByteArray := prog_1_method_68_code
def yX3_think : MethodName := ⟨RX3, "think", "(I)V"⟩
abbrev cX3_thinkBy : ByteArray := prog_1_method_69_code
def yX3_thinkBy : MethodName := ⟨RX3, "thinkBy", "(I)V"⟩
abbrev cX3_servedBits : ByteArray := prog_1_method_70_code
def yX3_servedBits : MethodName := ⟨RX3, "servedBits", "(I)I"⟩
abbrev cX3_turnOfServing : ByteArray := prog_1_method_71_code
def yX3_turnOfServing : MethodName := ⟨RX3, "turnOfServing", "(III)I"⟩
abbrev cX3_spreadBy : ByteArray := prog_1_method_72_code
def yX3_spreadBy : MethodName := ⟨RX3, "spreadBy", "(II)I"⟩
abbrev cX3_firstWrong : ByteArray := prog_1_method_73_code
def yX3_firstWrong : MethodName := ⟨RX3, "firstWrong", "(LBackByTwice$Shelf;I)I"⟩
abbrev cX3_firstPush : ByteArray := prog_1_method_74_code
def yX3_firstPush : MethodName := ⟨RX3, "firstPush", "(LBackByTwice$Shelf;I)I"⟩
abbrev cX3_hasAllPeople : ByteArray := prog_1_method_75_code
def yX3_hasAllPeople : MethodName := ⟨RX3, "hasAllPeople", "(LBackByTwice$Shelf;)Z"⟩
abbrev cX3_rankOf : ByteArray := prog_1_method_76_code
def yX3_rankOf : MethodName := ⟨RX3, "rankOf", "(I)I"⟩
abbrev cX3_shelvesInUse : ByteArray := prog_1_method_77_code
def yX3_shelvesInUse : MethodName := ⟨RX3, "shelvesInUse", "()I"⟩
abbrev cX3_firstGreatest : ByteArray := prog_1_method_78_code
def yX3_firstGreatest : MethodName := ⟨RX3, "firstGreatest", "([II)I"⟩
abbrev cX3_shuffled : ByteArray := prog_1_method_79_code
def yX3_shuffled : MethodName := ⟨RX3, "shuffled", "(IZI)I"⟩
abbrev cX3_shuffledTimes : ByteArray := prog_1_method_80_code
def yX3_shuffledTimes : MethodName := ⟨RX3, "shuffledTimes", "(IZII)I"⟩
abbrev cX3_digitsInTwos : ByteArray := prog_1_method_81_code
def yX3_digitsInTwos : MethodName := ⟨RX3, "digitsInTwos", "(I)I"⟩
abbrev cX3_timesAgain : ByteArray := prog_1_method_82_code
def yX3_timesAgain : MethodName := ⟨RX3, "timesAgain", "(IZ)I"⟩
abbrev cX3_isLeastOfItsRound : ByteArray := prog_1_method_83_code
def yX3_isLeastOfItsRound : MethodName := ⟨RX3, "isLeastOfItsRound", "(IZI)Z"⟩
def RX4 : String := "BackByTwiceModel"
def TX4 : u_T := fun k => match k with
  | 0 => ("BackByTwiceModel", "shelf", "[I", true)
  | 1 => ("BackByTwiceModel", "rowSort", "[I", true)
  | 2 => ("BackByTwiceModel", "rowSize", "[I", true)
  | 3 => ("BackByTwiceModel", "rows", "[[J", true)
  | 4 => ("BackByTwiceModel", "moved", "[J", true)
  | 5 => ("BackByTwiceModel", "shown", "[I", true)
  | 6 => ("BackByTwiceModel", "tape", "[I", true)
  | 7 => ("BackByTwiceModel", "tapeSize", "I", false)
  | 8 => ("BackByTwiceModel", "refused", "[I", true)
  | 9 => ("BackByTwiceModel", "people", "I", false)
  | 10 => ("BackByTwiceModel", "stands", "[I", true)
  | 11 => ("BackByTwiceModel", "count", "[I", true)
  | 12 => ("BackByTwiceModel", "last", "[I", true)
  | 13 => ("BackByTwiceModel", "laws", "I", false)
  | 14 => ("BackByTwiceModel", "kind", "[I", true)
  | 15 => ("BackByTwiceModel", "by", "[I", true)
  | 16 => ("BackByTwiceModel", "force", "I", false)
  | 17 => ("BackByTwiceModel", "turns", "I", false)
  | 18 => ("BackByTwiceModel", "seed", "I", false)
  | 19 => ("BackByTwiceModel", "kept", "LBackByTwiceModel;", false)
  | 20 => ("BackByTwiceModel", "tried", "LBackByTwiceModel;", false)
  | 21 => ("BackByTwiceModel", "here", "I", false)
  | 22 => ("BackByTwiceModel", "token", "I", false)
  | 23 => ("BackByTwiceModel", "from", "I", false)
  | 24 => ("BackByTwiceModel", "figures", "I", false)
  | 25 => ("BackByTwiceModel", "fault", "I", false)
  | 26 => ("BackByTwiceModel", "told", "[I", true)
  | 27 => ("BackByTwiceModel", "statements", "I", false)
  | 28 => ("BackByTwiceModel", "order", "[I", true)
  | 29 => ("BackByTwiceModel", "seen", "[Z", true)
  | _ => ("BackByTwiceModel", "away", "[I", true)
def tyX4 : Nat → FieldType := fun k => match k with
  | 0 => .array .int
  | 1 => .array .int
  | 2 => .array .int
  | 3 => .array (.array .long)
  | 4 => .array .long
  | 5 => .array .int
  | 6 => .array .int
  | 7 => .int
  | 8 => .array .int
  | 9 => .int
  | 10 => .array .int
  | 11 => .array .int
  | 12 => .array .int
  | 13 => .int
  | 14 => .array .int
  | 15 => .array .int
  | 16 => .int
  | 17 => .int
  | 18 => .int
  | 19 => .object "BackByTwiceModel"
  | 20 => .object "BackByTwiceModel"
  | 21 => .int
  | 22 => .int
  | 23 => .int
  | 24 => .int
  | 25 => .int
  | 26 => .array .int
  | 27 => .int
  | 28 => .array .int
  | 29 => .array .boolean
  | _ => .array .int
abbrev wsX40 : List Cond := u_ws RX4 TX4 31
theorem nmX4 : ∀ a, a < 31 → ∀ b, b < 31 → a ≠ b → (TX4 a).2.1 ≠ (TX4 b).2.1 := by decide +kernel
theorem tyX4_ok : ∀ k, k < 31 → parseFieldDescriptor (TX4 k).2.2.1 = some (tyX4 k) := by decide +kernel
abbrev cX4_init : ByteArray := prog_6_method_1_code
def yX4_init : MethodName := ⟨RX4, "<init>", "()V"⟩
abbrev cX4_refuse : ByteArray := prog_6_method_2_code
def yX4_refuse : MethodName := ⟨RX4, "refuse", "(I)I"⟩
abbrev cX4_in : ByteArray := prog_6_method_3_code
def yX4_in : MethodName := ⟨RX4, "in", "(JJJ)Z"⟩
abbrev cX4_isPerson : ByteArray := prog_6_method_4_code
def yX4_isPerson : MethodName := ⟨RX4, "isPerson", "(J)Z"⟩
abbrev cX4_isLaw : ByteArray := prog_6_method_5_code
def yX4_isLaw : MethodName := ⟨RX4, "isLaw", "(I)Z"⟩
abbrev cX4_goesOn : ByteArray := prog_6_method_6_code
def yX4_goesOn : MethodName := ⟨RX4, "goesOn", "()Z"⟩
abbrev cX4_has : ByteArray := prog_6_method_7_code
def yX4_has : MethodName := ⟨RX4, "has", "(II)Z"⟩
abbrev cX4_row : ByteArray := prog_6_method_8_code
def yX4_row : MethodName := ⟨RX4, "row", "(III)I"⟩
abbrev cX4_fit : ByteArray := prog_6_method_9_code
def yX4_fit : MethodName := ⟨RX4, "fit", "(IJ)J"⟩
abbrev cX4_noRow : ByteArray := prog_6_method_10_code
def yX4_noRow : MethodName := ⟨RX4, "noRow", "(I)I"⟩
abbrev cX4_set : ByteArray := prog_6_method_11_code
def yX4_set : MethodName := ⟨RX4, "set", "(IIJ)I"⟩
abbrev cX4_copy : ByteArray := prog_6_method_12_code
def yX4_copy : MethodName := ⟨RX4, "copy", "(IIIII)I"⟩
abbrev cX4_element : ByteArray := prog_6_method_13_code
def yX4_element : MethodName := ⟨RX4, "element", "(II)J"⟩
abbrev cX4_holds : ByteArray := prog_6_method_14_code
def yX4_holds : MethodName := ⟨RX4, "holds", "(I)I"⟩
abbrev cX4_show : ByteArray := prog_6_method_15_code
def yX4_show : MethodName := ⟨RX4, "show", "(II)I"⟩
abbrev cX4_isUnder : ByteArray := prog_6_method_16_code
def yX4_isUnder : MethodName := ⟨RX4, "isUnder", "(II)Z"⟩
abbrev cX4_says : ByteArray := prog_6_method_17_code
def yX4_says : MethodName := ⟨RX4, "says", "(II)I"⟩
abbrev cX4_addPerson : ByteArray := prog_6_method_18_code
def yX4_addPerson : MethodName := ⟨RX4, "addPerson", "()V"⟩
abbrev cX4_comes : ByteArray := prog_6_method_19_code
def yX4_comes : MethodName := ⟨RX4, "comes", "()I"⟩
abbrev cX4_addLaw : ByteArray := prog_6_method_20_code
def yX4_addLaw : MethodName := ⟨RX4, "addLaw", "(II)V"⟩
abbrev cX4_law : ByteArray := prog_6_method_21_code
def yX4_law : MethodName := ⟨RX4, "law", "(II)I"⟩
abbrev cX4_use : ByteArray := prog_6_method_22_code
def yX4_use : MethodName := ⟨RX4, "use", "(I)I"⟩
abbrev cX4_tell : ByteArray := prog_6_method_23_code
def yX4_tell : MethodName := ⟨RX4, "tell", "(III)I"⟩
abbrev cX4_feed : ByteArray := prog_6_method_24_code
def yX4_feed : MethodName := ⟨RX4, "feed", "(I)I"⟩
abbrev cX4_wipe : ByteArray := prog_6_method_25_code
def yX4_wipe : MethodName := ⟨RX4, "wipe", "()I"⟩
abbrev cX4_isLetter : ByteArray := prog_6_method_26_code
def yX4_isLetter : MethodName := ⟨RX4, "isLetter", "(I)Z"⟩
abbrev cX4_isDigit : ByteArray := prog_6_method_27_code
def yX4_isDigit : MethodName := ⟨RX4, "isDigit", "(I)Z"⟩
abbrev cX4_look : ByteArray := prog_6_method_28_code
def yX4_look : MethodName := ⟨RX4, "look", "()V"⟩
abbrev cX4_wrong : ByteArray := prog_6_method_29_code
def yX4_wrong : MethodName := ⟨RX4, "wrong", "()Z"⟩
abbrev cX4_isWord : ByteArray := prog_6_method_30_code
def yX4_isWord : MethodName := ⟨RX4, "isWord", "(Ljava/lang/String;)Z"⟩
abbrev cX4_number : ByteArray := prog_6_method_31_code
def yX4_number : MethodName := ⟨RX4, "number", "(III)Z"⟩
abbrev cX4_tells : ByteArray := prog_6_method_32_code
def yX4_tells : MethodName := ⟨RX4, "tells", "(II)Z"⟩
abbrev cX4_peopleTold : ByteArray := prog_6_method_33_code
def yX4_peopleTold : MethodName := ⟨RX4, "peopleTold", "()Z"⟩
abbrev cX4_serveTold : ByteArray := prog_6_method_34_code
def yX4_serveTold : MethodName := ⟨RX4, "serveTold", "()Z"⟩
abbrev cX4_statement : ByteArray := prog_6_method_35_code
def yX4_statement : MethodName := ⟨RX4, "statement", "()Z"⟩
abbrev cX4_readAll : ByteArray := prog_6_method_36_code
def yX4_readAll : MethodName := ⟨RX4, "readAll", "()Z"⟩
abbrev cX4_fresh : ByteArray := prog_6_method_37_code
def yX4_fresh : MethodName := ⟨RX4, "fresh", "()LBackByTwiceModel;"⟩
abbrev cX4_shop : ByteArray := prog_6_method_38_code
def yX4_shop : MethodName := ⟨RX4, "shop", "()I"⟩
abbrev cX4_placeOf : ByteArray := prog_6_method_39_code
def yX4_placeOf : MethodName := ⟨RX4, "placeOf", "(I)I"⟩
abbrev cX4_personOf : ByteArray := prog_6_method_40_code
def yX4_personOf : MethodName := ⟨RX4, "personOf", "(II)I"⟩
abbrev cX4_lawOf : ByteArray := prog_6_method_41_code
def yX4_lawOf : MethodName := ⟨RX4, "lawOf", "(II)I"⟩
abbrev cX4_at : ByteArray := prog_6_method_42_code
def yX4_at : MethodName := ⟨RX4, "at", "(I)I"⟩
abbrev cX4_backBy : ByteArray := prog_6_method_43_code
def yX4_backBy : MethodName := ⟨RX4, "backBy", "(III)I"⟩
abbrev cX4_lastBy : ByteArray := prog_6_method_44_code
def yX4_lastBy : MethodName := ⟨RX4, "lastBy", "(II)I"⟩
abbrev cX4_turn : ByteArray := prog_6_method_45_code
def yX4_turn : MethodName := ⟨RX4, "turn", "()V"⟩
abbrev cX4_goes : ByteArray := prog_6_method_46_code
def yX4_goes : MethodName := ⟨RX4, "goes", "(I)V"⟩
abbrev cX4_lettingAt : ByteArray := prog_6_method_47_code
def yX4_lettingAt : MethodName := ⟨RX4, "lettingAt", "(I)V"⟩
abbrev cX4_movesTo : ByteArray := prog_6_method_48_code
def yX4_movesTo : MethodName := ⟨RX4, "movesTo", "(II)V"⟩
abbrev cX4_lastLeaves : ByteArray := prog_6_method_49_code
def yX4_lastLeaves : MethodName := ⟨RX4, "lastLeaves", "()V"⟩
abbrev cX4_beginsAnew : ByteArray := prog_6_method_50_code
def yX4_beginsAnew : MethodName := ⟨RX4, "beginsAnew", "()V"⟩
abbrev cX4_behindOf : ByteArray := prog_6_method_51_code
def yX4_behindOf : MethodName := ⟨RX4, "behindOf", "(I)LBackByTwiceModel;"⟩
abbrev cX4_mayTurns : ByteArray := prog_6_method_52_code
def yX4_mayTurns : MethodName := ⟨RX4, "mayTurns", "(I)Z"⟩
abbrev cX4_stands : ByteArray := prog_6_method_53_code
def yX4_stands : MethodName := ⟨RX4, "stands", "(II)I"⟩
abbrev cX4_behind : ByteArray := prog_6_method_54_code
def yX4_behind : MethodName := ⟨RX4, "behind", "(III)I"⟩
abbrev cX4_served : ByteArray := prog_6_method_55_code
def yX4_served : MethodName := ⟨RX4, "served", "(I)I"⟩
abbrev cX4_standsAs : ByteArray := prog_6_method_56_code
def yX4_standsAs : MethodName := ⟨RX4, "standsAs", "(LBackByTwiceModel;)Z"⟩
abbrev cX4_round : ByteArray := prog_6_method_57_code
def yX4_round : MethodName := ⟨RX4, "round", "()I"⟩
abbrev cX4_whenIn : ByteArray := prog_6_method_58_code
def yX4_whenIn : MethodName := ⟨RX4, "whenIn", "(LBackByTwiceModel;III)I"⟩
abbrev cX4_when : ByteArray := prog_6_method_59_code
def yX4_when : MethodName := ⟨RX4, "when", "(II)I"⟩
abbrev cX4_servedIn : ByteArray := prog_6_method_60_code
def yX4_servedIn : MethodName := ⟨RX4, "servedIn", "(I)I"⟩
abbrev cX4_never : ByteArray := prog_6_method_61_code
def yX4_never : MethodName := ⟨RX4, "never", "()I"⟩
abbrev cX4_several : ByteArray := prog_6_method_62_code
def yX4_several : MethodName := ⟨RX4, "several", "(I)I"⟩
abbrev cX4_stand : ByteArray := prog_6_method_63_code
def yX4_stand : MethodName := ⟨RX4, "stand", "(I)I"⟩
abbrev cX4_mostCounts : ByteArray := prog_6_method_64_code
def yX4_mostCounts : MethodName := ⟨RX4, "mostCounts", "()I"⟩
abbrev cX4_leader : ByteArray := prog_6_method_65_code
def yX4_leader : MethodName := ⟨RX4, "leader", "(I)I"⟩
abbrev cX4_waits : ByteArray := prog_6_method_66_code
def yX4_waits : MethodName := ⟨RX4, "waits", "(I)I"⟩
abbrev cX4_beside : ByteArray := prog_6_method_67_code
def yX4_beside : MethodName := ⟨RX4, "beside", "(II)I"⟩
abbrev cX4_unlike : ByteArray := prog_6_method_68_code
def yX4_unlike : MethodName := ⟨RX4, "unlike", "(II)I"⟩
abbrev cX4_lawFor : ByteArray := prog_6_method_69_code
def yX4_lawFor : MethodName := ⟨RX4, "lawFor", "(II)I"⟩
abbrev cX4_newcomer : ByteArray := prog_6_method_70_code
def yX4_newcomer : MethodName := ⟨RX4, "newcomer", "()I"⟩
abbrev cX4_forward : ByteArray := prog_6_method_71_code
def yX4_forward : MethodName := ⟨RX4, "forward", "(III)I"⟩
abbrev cX4_spreadNow : ByteArray := prog_6_method_72_code
def yX4_spreadNow : MethodName := ⟨RX4, "spreadNow", "()I"⟩
abbrev cX4_anewBy : ByteArray := prog_6_method_73_code
def yX4_anewBy : MethodName := ⟨RX4, "anewBy", "(I)LBackByTwiceModel;"⟩
abbrev cX4_level : ByteArray := prog_6_method_74_code
def yX4_level : MethodName := ⟨RX4, "level", "(I)I"⟩
abbrev cX4_spreadBy : ByteArray := prog_6_method_75_code
def yX4_spreadBy : MethodName := ⟨RX4, "spreadBy", "(II)I"⟩
abbrev cX4_spread : ByteArray := prog_6_method_76_code
def yX4_spread : MethodName := ⟨RX4, "spread", "(II)I"⟩
abbrev cX4_fairest : ByteArray := prog_6_method_77_code
def yX4_fairest : MethodName := ⟨RX4, "fairest", "(I)I"⟩
abbrev cX4_noSlate : ByteArray := prog_6_method_78_code
def yX4_noSlate : MethodName := ⟨RX4, "noSlate", "(II)I"⟩
abbrev cX4_wrongIn : ByteArray := prog_6_method_79_code
def yX4_wrongIn : MethodName := ⟨RX4, "wrongIn", "([JI)I"⟩
abbrev cX4_judge : ByteArray := prog_6_method_80_code
def yX4_judge : MethodName := ⟨RX4, "judge", "(II)I"⟩
abbrev cX4_fits : ByteArray := prog_6_method_81_code
def yX4_fits : MethodName := ⟨RX4, "fits", "(II)I"⟩
abbrev cX4_pushed : ByteArray := prog_6_method_82_code
def yX4_pushed : MethodName := ⟨RX4, "pushed", "(II)I"⟩
abbrev cX4_comesTo : ByteArray := prog_6_method_83_code
def yX4_comesTo : MethodName := ⟨RX4, "comesTo", "(IZI)I"⟩
abbrev cX4_liesAt : ByteArray := prog_6_method_84_code
def yX4_liesAt : MethodName := ⟨RX4, "liesAt", "(IZII)I"⟩
abbrev cX4_stayOf : ByteArray := prog_6_method_85_code
def yX4_stayOf : MethodName := ⟨RX4, "stayOf", "(IZI)I"⟩
abbrev cX4_again : ByteArray := prog_6_method_86_code
def yX4_again : MethodName := ⟨RX4, "again", "(IZ)I"⟩
abbrev cX4_lies : ByteArray := prog_6_method_87_code
def yX4_lies : MethodName := ⟨RX4, "lies", "(IZII)I"⟩
abbrev cX4_stay : ByteArray := prog_6_method_88_code
def yX4_stay : MethodName := ⟨RX4, "stay", "(IZI)I"⟩
abbrev cX4_rounds : ByteArray := prog_6_method_89_code
def yX4_rounds : MethodName := ⟨RX4, "rounds", "(IZ)I"⟩
abbrev cX4_tail : ByteArray := prog_6_method_90_code
def yX4_tail : MethodName := ⟨RX4, "tail", "(I)I"⟩
abbrev cX4_findAway : ByteArray := prog_6_method_91_code
def yX4_findAway : MethodName := ⟨RX4, "findAway", "(II)V"⟩
abbrev cX4_brings : ByteArray := prog_6_method_92_code
def yX4_brings : MethodName := ⟨RX4, "brings", "(III)I"⟩
abbrev cX4_after : ByteArray := prog_6_method_93_code
def yX4_after : MethodName := ⟨RX4, "after", "(II)I"⟩
abbrev cX4_fewest : ByteArray := prog_6_method_94_code
def yX4_fewest : MethodName := ⟨RX4, "fewest", "(I)I"⟩
abbrev cX4_unserved : ByteArray := prog_6_method_95_code
def yX4_unserved : MethodName := ⟨RX4, "unserved", "()I"⟩
abbrev cX4_longestOf : ByteArray := prog_6_method_96_code
def yX4_longestOf : MethodName := ⟨RX4, "longestOf", "()I"⟩
abbrev cX4_longest : ByteArray := prog_6_method_97_code
def yX4_longest : MethodName := ⟨RX4, "longest", "()I"⟩
abbrev cX4_ranked : ByteArray := prog_6_method_98_code
def yX4_ranked : MethodName := ⟨RX4, "ranked", "(I)I"⟩
abbrev cX4_serve : ByteArray := prog_6_method_99_code
def yX4_serve : MethodName := ⟨RX4, "serve", "(I)I"⟩
abbrev cX4_lets : ByteArray := prog_6_method_100_code
def yX4_lets : MethodName := ⟨RX4, "lets", "(I)I"⟩
abbrev cX4_moves : ByteArray := prog_6_method_101_code
def yX4_moves : MethodName := ⟨RX4, "moves", "(II)I"⟩
abbrev cX4_leaves : ByteArray := prog_6_method_102_code
def yX4_leaves : MethodName := ⟨RX4, "leaves", "()I"⟩
abbrev cX4_below : ByteArray := prog_6_method_103_code
def yX4_below : MethodName := ⟨RX4, "below", "(I)I"⟩
abbrev cX4_day : ByteArray := prog_6_method_104_code
def yX4_day : MethodName := ⟨RX4, "day", "(I)I"⟩
abbrev cX4_anew : ByteArray := prog_6_method_105_code
def yX4_anew : MethodName := ⟨RX4, "anew", "()I"⟩
abbrev cX4_seed : ByteArray := prog_6_method_106_code
def yX4_seed : MethodName := ⟨RX4, "seed", "(I)I"⟩
abbrev cX4_copied : ByteArray := prog_6_method_107_code
def yX4_copied : MethodName := ⟨RX4, "copied", "([I[I)V"⟩
abbrev cX4_takeFrom : ByteArray := prog_6_method_108_code
def yX4_takeFrom : MethodName := ⟨RX4, "takeFrom", "(LBackByTwiceModel;)V"⟩
abbrev cX4_image : ByteArray := prog_6_method_109_code
def yX4_image : MethodName := ⟨RX4, "image", "()I"⟩
abbrev cX4_back : ByteArray := prog_6_method_110_code
def yX4_back : MethodName := ⟨RX4, "back", "()I"⟩
abbrev cX4_status : ByteArray := prog_6_method_111_code
def yX4_status : MethodName := ⟨RX4, "status", "(I)I"⟩
def RJ6 : String := "java/lang/Integer"
abbrev cJ6_bitCount_0f7a4 : ByteArray := prog_7_method_49_code
def yJ6_bitCount_0f7a4 : MethodName := ⟨RJ6, "bitCount", "(I)I"⟩
def RJ9 : String := "java/lang/Math"
abbrev cJ9_abs_0f7a4 : ByteArray := prog_8_method_59_code
def yJ9_abs_0f7a4 : MethodName := ⟨RJ9, "abs", "(I)I"⟩
abbrev cJ9_max_7cf53 : ByteArray := prog_8_method_65_code
def yJ9_max_7cf53 : MethodName := ⟨RJ9, "max", "(II)I"⟩
abbrev cJ9_min_7cf53 : ByteArray := prog_8_method_69_code
def yJ9_min_7cf53 : MethodName := ⟨RJ9, "min", "(II)I"⟩
def RJ0 : String := "java/lang/String"
abbrev cJ0_length_8abf5 : ByteArray := prog_9_method_54_code
def yJ0_length_8abf5 : MethodName := ⟨RJ0, "length", "()I"⟩
abbrev cJ0_charAt_5068e : ByteArray := prog_9_method_56_code
def yJ0_charAt_5068e : MethodName := ⟨RJ0, "charAt", "(I)C"⟩
abbrev cJ0_coder_7d493 : ByteArray := prog_9_method_152_code
def yJ0_coder_7d493 : MethodName := ⟨RJ0, "coder", "()B"⟩
abbrev cJ0_isLatin1_aae02 : ByteArray := prog_9_method_154_code
def yJ0_isLatin1_aae02 : MethodName := ⟨RJ0, "isLatin1", "()Z"⟩
abbrev cJ0_checkIndex_df160 : ByteArray := prog_9_method_155_code
def yJ0_checkIndex_df160 : MethodName := ⟨RJ0, "checkIndex", "(II)V"⟩
def RJ1 : String := "java/lang/StringLatin1"
abbrev cJ1_charAt_3b067 : ByteArray := prog_10_method_2_code
def yJ1_charAt_3b067 : MethodName := ⟨RJ1, "charAt", "([BI)C"⟩
def RJ2 : String := "java/lang/StringUTF16"
abbrev cJ2_getChar_3b067 : ByteArray := prog_11_method_5_code
def yJ2_getChar_3b067 : MethodName := ⟨RJ2, "getChar", "([BI)C"⟩
abbrev cJ2_length_9d52b : ByteArray := prog_11_method_6_code
def yJ2_length_9d52b : MethodName := ⟨RJ2, "length", "([B)I"⟩
abbrev cJ2_charAt_3b067 : ByteArray := prog_11_method_83_code
def yJ2_charAt_3b067 : MethodName := ⟨RJ2, "charAt", "([BI)C"⟩
abbrev cJ2_checkIndex_2214a : ByteArray := prog_11_method_91_code
def yJ2_checkIndex_2214a : MethodName := ⟨RJ2, "checkIndex", "(I[B)V"⟩
def RJ10 : String := "java/lang/System"
def RJ7 : String := "java/util/Arrays"
abbrev cJ7_fill_d0a16 : ByteArray := prog_13_method_101_code
def yJ7_fill_d0a16 : MethodName := ⟨RJ7, "fill", "([JJ)V"⟩
abbrev cJ7_fill_53178 : ByteArray := prog_13_method_103_code
def yJ7_fill_53178 : MethodName := ⟨RJ7, "fill", "([II)V"⟩
def RJ3 : String := "jdk/internal/util/Preconditions"
abbrev cJ3_checkIndex_8e157 : ByteArray := prog_14_method_11_code
def yJ3_checkIndex_8e157 : MethodName := ⟨RJ3, "checkIndex", "(IILjava/util/function/BiFunction;)I"⟩
def RL : String := "BackByTwiceLaw"
abbrev cL_law : ByteArray := code
abbrev vwCl : List vw_C := [(RX0, TX0, 4), (RX1, TX1, 10), (RX2, TX2, 4), (RX3, TX3, 9), (RX4, TX4, 31)]
end
section
/-! ===== the abstract machine: cells by names ===== -/
def gw : List Cond := lw_tbl.filter goodWord
def nw_is : Cond → Bool
  | .methodLinkNest _ _ _ _ => true
  | .fieldLinkNest _ _ _ _ _ _ => true
  | _ => false
def nw : List Cond := lw_tbl.filter nw_is
abbrev Wd : Type := List (Nat ⊕ va_E)
def wA (w : Wd) (k : Nat) : Option va_E := match w[k]? with
  | some (.inr e) => some e
  | _ => none
def tV (q : Nat → Nat) : Value → Value
  | .ref k => .ref (q k)
  | v => v
def tA (q : Nat → Nat) (a : vp_A) : vp_A := match a with
  | (n, .inr (.inr (.inr (.inr f)))) => (n, .inr (.inr (.inr (.inr (fun j => (f j).map q)))))
  | a => a
def tE (cT : Nat → ClassId) (q : Nat → Nat) : va_E → va_E
  | .inl (t, a) => .inl (cT t, tA q a)
  | .inr (ci, fs) => .inr (ci, fs.map (tV q))
def potC : Wd → Nat
  | [] => 0
  | .inl _ :: r => potC r + 1
  | .inr _ :: r => potC r
def potS : Wd → Nat
  | [] => 0
  | .inl n :: r => potS r + n
  | .inr _ :: r => potS r
def RP (D : va_G) (cT : Nat → ClassId) (q : Nat → Nat) (w : Wd) (H : Heap) : Prop := ∀ k e, wA w k = some e → va_at D vwCl (q k, tE cT q e) H
def DP (A : Nat → Prop) (q : Nat → Nat) (w : Wd) : Prop := (∀ i j e f, wA w i = some e → wA w j = some f → q i = q j → i = j) ∧ ∀ k e, wA w k = some e → A (q k)
def AF (q : Nat → Nat) (w : Wd) (sz : Nat) : Nat → Prop := fun a => (∃ k e, wA w k = some e ∧ q k = a) ∨ sz ≤ a
def Ext (q : Nat → Nat) (w : Wd) (q' : Nat → Nat) (w' : Wd) : Prop := (∀ k, ((∃ e, wA w k = some e) ∨ w.length ≤ k) → q' k = q k) ∧ (∀ k e, wA w k = some e → ∃ e', wA w' k = some e') ∧ w'.length = w.length
theorem Ext.rf {q : Nat → Nat} {w : Wd} : Ext q w q w := ⟨fun _ _ => rfl, fun k e h => ⟨e, h⟩, rfl⟩
theorem Ext.tr {q0 q1 q2 : Nat → Nat} {w0 w1 w2 : Wd} (h1 : Ext q0 w0 q1 w1) (h2 : Ext q1 w1 q2 w2) : Ext q0 w0 q2 w2 := by
  refine ⟨fun k h => ?_, fun k e h => ?_, h2.2.2.trans h1.2.2⟩
  · rw [← h1.1 k h]
    refine h2.1 k ?_
    rcases h with ⟨e, h⟩ | h
    · exact Or.inl (h1.2.1 k e h)
    · exact Or.inr (by rw [h1.2.2]; exact h)
  · obtain ⟨e1, b⟩ := h1.2.1 k e h
    exact h2.2.1 k e1 b
/-- the cells that are there, as the kit lists them -/
def cn (cT : Nat → ClassId) (q : Nat → Nat) (w : Wd) : va_W := (List.range w.length).filterMap (fun k => (wA w k).map (fun e => (q k, tE cT q e)))
theorem wA_lt {w : Wd} {k : Nat} {e : va_E} (h : wA w k = some e) : k < w.length := by
  unfold wA at h
  rcases Nat.lt_or_ge k w.length with h1 | h1
  · exact h1
  · rw [List.getElem?_eq_none h1] at h; cases h
theorem cn_mem {cT : Nat → ClassId} {q : Nat → Nat} {w : Wd} {x : Nat × va_E} : x ∈ cn cT q w ↔ ∃ k e, wA w k = some e ∧ x = (q k, tE cT q e) := by
  unfold cn
  rw [List.mem_filterMap]
  constructor
  · rintro ⟨k, -, h⟩
    cases he : wA w k with
    | none => rw [he] at h; cases h
    | some e => rw [he] at h; exact ⟨k, e, he, (Option.some.inj h).symm⟩
  · rintro ⟨k, e, h, rfl⟩
    exact ⟨k, List.mem_range.mpr (wA_lt h), by rw [h]; rfl⟩
theorem cn_get {cT : Nat → ClassId} {q : Nat → Nat} {w : Wd} {k : Nat} {e : va_E} (h : wA w k = some e) : ∃ j : Nat, (cn cT q w)[j]? = some (q k, tE cT q e) :=
  List.getElem?_of_mem (cn_mem.mpr ⟨k, e, h, rfl⟩)
theorem RP.P {D : va_G} {cT : Nat → ClassId} {q : Nat → Nat} {w : Wd} {H : Heap} (h : RP D cT q w H) : va_P D vwCl (cn cT q w) H := by
  intro i x hx
  obtain ⟨k, e, he, rfl⟩ := cn_mem.mp (List.mem_of_getElem? hx)
  exact h k e he
theorem pw_inj {α : Type} : ∀ (l : List (Nat × α)), l.Pairwise (fun a b => a.1 ≠ b.1) → ∀ (i j : Nat) (p q : Nat × α), l[i]? = some p → l[j]? = some q → p.1 = q.1 → i = j
  | [], _, i, j, p, q, h, _, _ => by simp at h
  | a :: l, hp, i, j, p, q, hi, hj, e => by
    rw [List.pairwise_cons] at hp
    cases i with
    | zero =>
      cases j with
      | zero => rfl
      | succ j =>
        simp at hi hj
        subst hi
        exact absurd e (hp.1 q (List.mem_of_getElem? hj))
    | succ i =>
      cases j with
      | zero =>
        simp at hi hj
        subst hj
        exact absurd e.symm (hp.1 p (List.mem_of_getElem? hi))
      | succ j =>
        simp at hi hj
        rw [pw_inj l hp.2 i j p q hi hj e]
theorem DP.D {A : Nat → Prop} {cT : Nat → ClassId} {q : Nat → Nat} {w : Wd} (h : DP A q w) : va_D A (cn cT q w) := by
  refine ⟨fun i j x y hi hj hxy => pw_inj _ ?_ i j x y hi hj hxy, fun i x hx => ?_⟩
  · unfold cn
    rw [List.pairwise_filterMap]
    refine List.Pairwise.imp ?_ List.nodup_range
    intro a b hab x hx y hy hq
    cases ha : wA w a with
    | none => rw [ha] at hx; cases hx
    | some e =>
      cases hb : wA w b with
      | none => rw [hb] at hy; cases hy
      | some f =>
        rw [ha] at hx; rw [hb] at hy
        cases hx; cases hy
        exact hab (h.1 a b e f ha hb hq)
  · obtain ⟨k, e, he, rfl⟩ := cn_mem.mp (List.mem_of_getElem? hx)
    exact h.2 k e he
theorem wA_set {w : Wd} {k : Nat} (h : k < w.length) (e : va_E) (i : Nat) : wA (w.set k (.inr e)) i = if i = k then some e else wA w i := by
  unfold wA
  by_cases hi : i = k
  · subst hi
    rw [List.getElem?_set_self h, if_pos rfl]
  · rw [List.getElem?_set_ne (Ne.symm hi), if_neg hi]
theorem DP.set {A : Nat → Prop} {q : Nat → Nat} {w : Wd} {k : Nat} {e0 : va_E} (h : DP A q w) (h0 : wA w k = some e0) (e : va_E) : DP A q (w.set k (.inr e)) := by
  have key : ∀ i x, wA (w.set k (.inr e)) i = some x → ∃ y, wA w i = some y := by
    intro i x hx
    rw [wA_set (wA_lt h0)] at hx
    by_cases hi : i = k
    · subst hi; exact ⟨_, h0⟩
    · rw [if_neg hi] at hx; exact ⟨_, hx⟩
  refine ⟨fun i j x y hi hj => ?_, fun i x hi => ?_⟩
  · obtain ⟨x0, h1⟩ := key i x hi
    obtain ⟨y0, h2⟩ := key j y hj
    exact h.1 i j x0 y0 h1 h2
  · obtain ⟨x0, h1⟩ := key i x hi
    exact h.2 i x0 h1
theorem Ext.set {q0 q : Nat → Nat} {w0 w : Wd} {k : Nat} {e0 : va_E} (h : Ext q0 w0 q w) (h0 : wA w k = some e0) (e : va_E) : Ext q0 w0 q (w.set k (.inr e)) := by
  refine ⟨h.1, fun i x hx => ?_, by rw [List.length_set]; exact h.2.2⟩
  obtain ⟨e1, b⟩ := h.2.1 i x hx
  rw [wA_set (wA_lt h0)]
  by_cases hi : i = k
  · rw [if_pos hi]; exact ⟨_, rfl⟩
  · rw [if_neg hi]; exact ⟨_, b⟩
/-- back from the kit's list behind one write -/
theorem RP.back {A : Nat → Prop} {D : va_G} {cT : Nat → ClassId} {q : Nat → Nat} {w : Wd} {H : Heap} {k j : Nat} {e0 e : va_E} (hD : DP A q w) (h0 : wA w k = some e0) (hj : (cn cT q w)[j]? = some (q k, tE cT q e0)) (hP : va_P D vwCl ((cn cT q w).set j (q k, tE cT q e)) H) : RP D cT q (w.set k (.inr e)) H := by
  intro i x hx
  rw [wA_set (wA_lt h0)] at hx
  have hl := (List.getElem?_eq_some_iff.mp hj).1
  by_cases hi : i = k
  · rw [if_pos hi] at hx
    cases hx
    subst hi
    exact hP j _ (List.getElem?_set_self hl)
  · rw [if_neg hi] at hx
    obtain ⟨j2, h2⟩ := cn_get (cT := cT) (q := q) hx
    have hne : j ≠ j2 := by
      intro z
      subst z
      rw [hj] at h2
      have e1 : q k = q i := congrArg Prod.fst (Option.some.inj h2)
      exact hi (hD.1 i k x e0 hx h0 e1.symm)
    exact hP j2 _ (by rw [List.getElem?_set_ne hne]; exact h2)
/-! the locals -/
def lvl (q : Nat → Nat) : Nat → List (Option Value) → List (Nat × Value)
  | _, [] => []
  | i, none :: L => lvl q (i + 1) L
  | i, some v :: L => (i, tV q v) :: lvl q (i + 1) L
theorem lvl_mem {q : Nat → Nat} : ∀ (L : List (Option Value)) (i : Nat) (x : Nat × Value), x ∈ lvl q i L ↔ ∃ k v, L[k]? = some (some v) ∧ x = (i + k, tV q v)
  | [], i, x => by simp [lvl]
  | none :: L, i, x => by
    rw [lvl, lvl_mem L]
    constructor
    · rintro ⟨k, v, h, rfl⟩
      exact ⟨k + 1, v, by simpa using h, by rw [show i + 1 + k = i + (k + 1) by omega]⟩
    · rintro ⟨k, v, h, rfl⟩
      cases k with
      | zero => simp at h
      | succ k => exact ⟨k, v, by simpa using h, by rw [show i + (k + 1) = i + 1 + k by omega]⟩
  | some w :: L, i, x => by
    rw [lvl, List.mem_cons, lvl_mem L]
    constructor
    · rintro (rfl | ⟨k, v, h, rfl⟩)
      · exact ⟨0, w, rfl, rfl⟩
      · exact ⟨k + 1, v, by simpa using h, by rw [show i + 1 + k = i + (k + 1) by omega]⟩
    · rintro ⟨k, v, h, rfl⟩
      cases k with
      | zero => simp at h; subst h; exact Or.inl rfl
      | succ k => exact Or.inr ⟨k, v, by simpa using h, by rw [show i + (k + 1) = i + 1 + k by omega]⟩
def LQ (nL : Nat) (q : Nat → Nat) (L : List (Option Value)) (ls : Array Slot) : Prop := lv_has ls nL (lvl q 0 L) ∧ L.length = nL
theorem LQ.get {nL : Nat} {q : Nat → Nat} {L : List (Option Value)} {ls : Array Slot} (h : LQ nL q L ls) {i : Nat} {v : Value} (hi : L[i]? = some (some v)) : ls[i]? = some (.val (tV q v)) :=
  h.1.2.2 (i, tV q v) ((lvl_mem L 0 _).mpr ⟨i, v, hi, by rw [Nat.zero_add]⟩)
theorem tV_cat (q : Nat → Nat) (v : Value) : (tV q v).category = v.category := by cases v <;> rfl
/-- no long begins just ahead of place i -/
def okS (L : List (Option Value)) : Nat → Bool
  | 0 => true
  | i + 1 => match L[i]? with
    | some (some v) => v.category == 1
    | _ => true
def stO (L : List (Option Value)) (i : Nat) (v : Value) : List (Option Value) := L.set i (some v)
def stT (L : List (Option Value)) (i : Nat) (v : Value) : List (Option Value) := (L.set i (some v)).set (i + 1) none
theorem okS_use {L : List (Option Value)} {i j : Nat} {v : Value} (h : okS L i = true) (hj : j + 1 = i) (hv : L[j]? = some (some v)) : ¬ v.category = 2 := by
  subst hj
  simp only [okS, hv, beq_iff_eq] at h
  omega
theorem LQ.one {nL : Nat} {q : Nat → Nat} {L : List (Option Value)} {ls' : Array Slot} {i : Nat} {v : Value} (hl : L.length = nL) (hi : i < L.length) (ho : okS L i = true)
    (h : lv_has ls' nL ((i, tV q v) :: (lvl q 0 L).filter (fun x => !(x.1 == i) && !(x.1 + 1 == i && x.2.category == 2)))) : LQ nL q (stO L i v) ls' := by
  refine ⟨⟨h.1, h.2.1, fun x hx => h.2.2 x ?_⟩, by simp [stO, hl]⟩
  obtain ⟨k, u, hk, rfl⟩ := (lvl_mem _ _ _).mp hx
  rw [Nat.zero_add] at *
  unfold stO at hk
  by_cases hki : i = k
  · subst hki
    rw [List.getElem?_set_self hi] at hk
    cases hk
    exact List.mem_cons_self
  · rw [List.getElem?_set_ne hki] at hk
    refine List.mem_cons_of_mem _ (List.mem_filter.mpr ⟨(lvl_mem _ _ _).mpr ⟨k, u, hk, by rw [Nat.zero_add]⟩, ?_⟩)
    by_cases h1 : k + 1 = i
    · have := okS_use ho h1 hk
      simp [Ne.symm hki, tV_cat, this]
    · simp [Ne.symm hki, h1]
theorem LQ.two {nL : Nat} {q : Nat → Nat} {L : List (Option Value)} {ls' : Array Slot} {i : Nat} {v : Value} (hl : L.length = nL) (hi : i + 1 < L.length) (ho : okS L i = true)
    (h : lv_has ls' nL ((i, tV q v) :: (lvl q 0 L).filter (fun x => !(x.1 == i) && (!(x.1 == i + 1) && !(x.1 + 1 == i && x.2.category == 2))))) : LQ nL q (stT L i v) ls' := by
  refine ⟨⟨h.1, h.2.1, fun x hx => h.2.2 x ?_⟩, by simp [stT, hl]⟩
  obtain ⟨k, u, hk, rfl⟩ := (lvl_mem _ _ _).mp hx
  rw [Nat.zero_add] at *
  unfold stT at hk
  by_cases hk2 : i + 1 = k
  · subst hk2
    rw [List.getElem?_set_self (by simpa using hi)] at hk
    cases hk
  · rw [List.getElem?_set_ne hk2] at hk
    by_cases hki : i = k
    · subst hki
      rw [List.getElem?_set_self (by omega)] at hk
      cases hk
      exact List.mem_cons_self
    · rw [List.getElem?_set_ne hki] at hk
      refine List.mem_cons_of_mem _ (List.mem_filter.mpr ⟨(lvl_mem _ _ _).mpr ⟨k, u, hk, by rw [Nat.zero_add]⟩, ?_⟩)
      by_cases h1 : k + 1 = i
      · have := okS_use ho h1 hk
        simp [Ne.symm hki, Ne.symm hk2, tV_cat, this]
      · simp [Ne.symm hki, Ne.symm hk2, h1]
end
section
/-! ===== one step of the abstract machine ===== -/
abbrev Cfg : Type := Nat × List (Option Value) × List Value × Wd
abbrev Res : Type := Option (Option Prop × Cfg)
/-- what a class's own pool says: fields (entry, of a nest mate, kind of object, place), ints, longs -/
abbrev Own : Type := String × List (Nat × Bool × Nat × Nat) × List (Nat × Int32) × List (Nat × Int64)
def lkp {α : Type} : List (Nat × α) → Nat → Option α
  | [], _ => none
  | (a, x) :: r, k => if Nat.beq a k = true then some x else lkp r k
theorem lkp_mem {α : Type} {k : Nat} {x : α} : ∀ {l : List (Nat × α)}, lkp l k = some x → (k, x) ∈ l
  | [], h => by cases h
  | (a, y) :: r, h => by
    unfold lkp at h
    split at h
    next hb => cases h; rw [Nat.eq_of_beq_eq_true hb]; exact List.mem_cons_self
    next => exact List.mem_cons_of_mem _ (lkp_mem h)
def h_push (n : Nat) (v : Value) : Cfg → Res
  | (pc, L, st, w) => some (none, (pc + n, L, v :: st, w))
def h_c (n : Nat) (x v : Int32) : Cfg → Res
  | (pc, L, st, w) => if decide (x = v) = true then some (none, (pc + n, L, .int v :: st, w)) else none
def l01 (n : Fin 2) : Int64 := if Nat.beq n.val 0 = true then 0 else 1
def h_ldi (n i : Nat) : Cfg → Res
  | (pc, L, st, w) => match L[i]? with
    | some (some (.int x)) => some (none, (pc + n, L, .int x :: st, w))
    | _ => none
def h_ldl (n i : Nat) : Cfg → Res
  | (pc, L, st, w) => match L[i]? with
    | some (some (.long x)) => some (none, (pc + n, L, .long x :: st, w))
    | _ => none
def h_lda (n i : Nat) : Cfg → Res
  | (pc, L, st, w) => match L[i]? with
    | some (some (.ref x)) => some (none, (pc + n, L, .ref x :: st, w))
    | _ => none
def h_sti (n i : Nat) : Cfg → Res
  | (pc, L, .int x :: st, w) => if (Nat.blt i L.length && okS L i) = true then some (none, (pc + n, stO L i (.int x), st, w)) else none
  | _ => none
def h_sta (n i : Nat) : Cfg → Res
  | (pc, L, .ref x :: st, w) => if (Nat.blt i L.length && okS L i) = true then some (none, (pc + n, stO L i (.ref x), st, w)) else none
  | _ => none
def h_stl (n i : Nat) : Cfg → Res
  | (pc, L, .long x :: st, w) => if (Nat.blt (i + 1) L.length && okS L i) = true then some (none, (pc + n, stT L i (.long x), st, w)) else none
  | _ => none
def h_inc (i : Nat) (x v : Int32) : Cfg → Res
  | (pc, L, st, w) => if decide (x = v) = true then (match L[i]? with
    | some (some (.int y)) => if (Nat.blt i L.length && okS L i) = true then some (none, (pc + 3, stO L i (.int (y + v)), st, w)) else none
    | _ => none) else none
def h_bin (f : Int32 → Int32 → Int32) : Cfg → Res
  | (pc, L, .int y :: .int x :: st, w) => some (none, (pc + 1, L, .int (f x y) :: st, w))
  | _ => none
def h_bin0 (f : Int32 → Int32 → Int32) : Cfg → Res
  | (pc, L, .int y :: .int x :: st, w) => some (some (¬ y = 0), (pc + 1, L, .int (f x y) :: st, w))
  | _ => none
def h_un (f : Int32 → Int32) : Cfg → Res
  | (pc, L, .int x :: st, w) => some (none, (pc + 1, L, .int (f x) :: st, w))
  | _ => none
def h_binl (f : Int64 → Int64 → Int64) : Cfg → Res
  | (pc, L, .long y :: .long x :: st, w) => some (none, (pc + 1, L, .long (f x y) :: st, w))
  | _ => none
def h_lcmp : Cfg → Res
  | (pc, L, .long y :: .long x :: st, w) => some (none, (pc + 1, L, .int (lg_cmp x y) :: st, w))
  | _ => none
def h_lshl : Cfg → Res
  | (pc, L, .int y :: .long x :: st, w) => some (none, (pc + 1, L, .long (x <<< (y.toInt64 &&& 63)) :: st, w))
  | _ => none
def h_i2l : Cfg → Res
  | (pc, L, .int x :: st, w) => some (none, (pc + 1, L, .long x.toInt64 :: st, w))
  | _ => none
def h_l2i : Cfg → Res
  | (pc, L, .long x :: st, w) => some (none, (pc + 1, L, .int x.toInt32 :: st, w))
  | _ => none
def h_dup : Cfg → Res
  | (pc, L, v :: st, w) => if Nat.beq v.category 1 = true then some (none, (pc + 1, L, v :: v :: st, w)) else none
  | _ => none
def h_pop : Cfg → Res
  | (pc, L, v :: st, w) => if Nat.beq v.category 1 = true then some (none, (pc + 1, L, st, w)) else none
  | _ => none
def h_dup_x1 : Cfg → Res
  | (pc, L, a :: b :: st, w) => if (Nat.beq a.category 1 && Nat.beq b.category 1) = true then some (none, (pc + 1, L, a :: b :: a :: st, w)) else none
  | _ => none
def h_dup2 : Cfg → Res
  | (pc, L, a :: b :: st, w) => if (Nat.beq a.category 1 && Nat.beq b.category 1) = true then some (none, (pc + 1, L, a :: b :: a :: b :: st, w)) else none
  | _ => none
def h_goto (off : Int) : Cfg → Res
  | (pc, L, st, w) => if decide ((pc : Int) + off = ((((pc : Int) + off).toNat : Nat) : Int)) = true then some (none, (((pc : Int) + off).toNat, L, st, w)) else none
def h_getf (O : Own) (ix : Nat) : Cfg → Res
  | (pc, L, .ref k :: st, w) => match lkp O.2.1 ix with
    | some (_, ci, j) => match wA w k with
      | some (.inr (cj, fs)) => if Nat.beq cj ci = true then (match fs[j]? with
        | some v => some (none, (pc + 3, L, v :: st, w))
        | none => none) else none
      | _ => none
    | none => none
  | _ => none
/-- a value that a field of this type holds as it is -/
def okV (ty : FieldType) (v : Value) : Bool := match ty, v with
  | .int, .int _ => true
  | .boolean, .int x => decide (x = 1) || decide (x = 0)
  | .object _, .ref _ => true
  | .array _, .ref _ => true
  | _, _ => false
def tyF (ci j : Nat) : FieldType := match ci with
  | 0 => tyX0 j
  | 1 => tyX1 j
  | 2 => tyX2 j
  | 3 => tyX3 j
  | _ => tyX4 j
def clT (ci : Nat) : u_T := match ci with
  | 0 => TX0
  | 1 => TX1
  | 2 => TX2
  | 3 => TX3
  | _ => TX4
def h_putf (O : Own) (ix : Nat) : Cfg → Res
  | (pc, L, v :: .ref k :: st, w) => match lkp O.2.1 ix with
    | some (_, ci, j) => match wA w k with
      | some (.inr (cj, fs)) => if (Nat.beq cj ci && (Nat.blt j fs.length && (okV (tyF ci j) v && !(clT ci j).2.2.2))) = true then some (none, (pc + 3, L, st, w.set k (.inr (.inr (cj, fs.set j v))))) else none
      | _ => none
    | none => none
  | _ => none
def h_iald : Cfg → Res
  | (pc, L, .int i :: .ref k :: st, w) => match wA w k with
    | some (.inl (0, n, .inl f)) => some (some (vp_in i n), (pc + 1, L, .int (f i.toNatClampNeg) :: st, w))
    | _ => none
  | _ => none
def h_zald : Cfg → Res
  | (pc, L, .int i :: .ref k :: st, w) => match wA w k with
    | some (.inl (2, n, .inl f)) => some (some (vp_in i n), (pc + 1, L, .int (f i.toNatClampNeg) :: st, w))
    | _ => none
  | _ => none
def h_lald : Cfg → Res
  | (pc, L, .int i :: .ref k :: st, w) => match wA w k with
    | some (.inl (1, n, .inr (.inl f))) => some (some (vp_in i n), (pc + 1, L, .long (f i.toNatClampNeg) :: st, w))
    | _ => none
  | _ => none
def h_aald : Cfg → Res
  | (pc, L, .int i :: .ref k :: st, w) => match wA w k with
    | some (.inl (t, n, .inr (.inr (.inr (.inr f))))) => if (Nat.beq t 3 || Nat.beq t 4) = true then (match f i.toNatClampNeg with
      | some b => some (some (vp_in i n), (pc + 1, L, .ref b :: st, w))
      | none => none) else none
    | _ => none
  | _ => none
def h_iast : Cfg → Res
  | (pc, L, .int x :: .int i :: .ref k :: st, w) => match wA w k with
    | some (.inl (0, n, .inl f)) => some (some (vp_in i n), (pc + 1, L, st, w.set k (.inr (.inl (0, n, .inl (upd f i.toNatClampNeg x))))))
    | _ => none
  | _ => none
def h_zast : Cfg → Res
  | (pc, L, .int x :: .int i :: .ref k :: st, w) => match wA w k with
    | some (.inl (2, n, .inl f)) => some (some (vp_in i n), (pc + 1, L, st, w.set k (.inr (.inl (2, n, .inl (upd f i.toNatClampNeg (vp_nar .boolean x)))))))
    | _ => none
  | _ => none
def h_last : Cfg → Res
  | (pc, L, .long x :: .int i :: .ref k :: st, w) => match wA w k with
    | some (.inl (1, n, .inr (.inl f))) => some (some (vp_in i n), (pc + 1, L, st, w.set k (.inr (.inl (1, n, .inr (.inl (vp_updL f i.toNatClampNeg x)))))))
    | _ => none
  | _ => none
def h_alen : Cfg → Res
  | (pc, L, .ref k :: st, w) => match wA w k with
    | some (.inl (t, n, _)) => if Nat.blt t 5 = true then some (none, (pc + 1, L, .int (Int32.ofNat n) :: st, w)) else none
    | _ => none
  | _ => none
def h_ldc (O : Own) (n ix : Nat) : Cfg → Res
  | (pc, L, st, w) => match lkp O.2.2.1 ix with
    | some v => some (none, (pc + n, L, .int v :: st, w))
    | none => none
def h_ldc2 (O : Own) (ix : Nat) : Cfg → Res
  | (pc, L, st, w) => match lkp O.2.2.2 ix with
    | some v => some (none, (pc + 3, L, .long v :: st, w))
    | none => none
def ilen : Instr → Nat
  | .iload _ => 2
  | .lload _ => 2
  | .aload _ => 2
  | .istore _ => 2
  | .lstore _ => 2
  | .astore _ => 2
  | .bipush _ => 2
  | .ldc _ => 2
  | .ldc_w _ => 3
  | .ldc2_w _ => 3
  | .sipush _ => 3
  | .iinc _ _ => 3
  | .getfield _ => 3
  | .putfield _ => 3
  | .goto _ => 3
  | .ifCond _ _ => 3
  | .if_icmp _ _ => 3
  | .ifnull _ => 3
  | .ifnonnull _ => 3
  | .invokevirtual _ => 3
  | .invokestatic _ => 3
  | .invokespecial _ => 3
  | .new _ => 3
  | .newarray _ => 2
  | .anewarray _ => 3
  | .multianewarray _ _ => 4
  | _ => 1
def aS (O : Own) (i : Instr) (v : Int32) : Cfg → Res := match i with
  | .iconst n => h_c 1 (Int32.ofInt n) v
  | .bipush n => h_c 2 (Int8.ofInt n).toInt32 v
  | .sipush n => h_c 3 (Int16.ofInt n).toInt32 v
  | .lconst n => h_push 1 (.long (l01 n))
  | .iload_n k => h_ldi 1 k
  | .iload k => h_ldi 2 k
  | .lload_n k => h_ldl 1 k
  | .lload k => h_ldl 2 k
  | .aload_n k => h_lda 1 k
  | .aload k => h_lda 2 k
  | .istore_n k => h_sti 1 k
  | .istore k => h_sti 2 k
  | .lstore_n k => h_stl 1 k
  | .lstore k => h_stl 2 k
  | .astore_n k => h_sta 1 k
  | .astore k => h_sta 2 k
  | .iinc k n => h_inc k (Int32.ofInt n) v
  | .iadd => h_bin (fun x y => x + y)
  | .isub => h_bin (fun x y => x - y)
  | .imul => h_bin (fun x y => x * y)
  | .iand => h_bin (fun x y => x &&& y)
  | .ior => h_bin (fun x y => x ||| y)
  | .ixor => h_bin (fun x y => x ^^^ y)
  | .ishl => h_bin (fun x y => x <<< (y &&& 31))
  | .ishr => h_bin (fun x y => x >>> (y &&& 31))
  | .iushr => h_bin (fun x y => (x.toUInt32 >>> (y.toUInt32 &&& Int32.toUInt32 31)).toInt32)
  | .idiv => h_bin0 (fun x y => x / y)
  | .irem => h_bin0 (fun x y => x - x / y * y)
  | .ineg => h_un (fun x => -x)
  | .i2b => h_un (fun x => x.toInt8.toInt32)
  | .i2s => h_un (fun x => x.toInt16.toInt32)
  | .land => h_binl (fun x y => x &&& y)
  | .lor => h_binl (fun x y => x ||| y)
  | .lcmp => h_lcmp
  | .lshl => h_lshl
  | .i2l => h_i2l
  | .l2i => h_l2i
  | .dup => h_dup
  | .pop => h_pop
  | .dup_x1 => h_dup_x1
  | .dup2 => h_dup2
  | .goto off => h_goto off
  | .getfield ix => h_getf O ix
  | .putfield ix => h_putf O ix
  | .iaload => h_iald
  | .baload => h_zald
  | .laload => h_lald
  | .aaload => h_aald
  | .iastore => h_iast
  | .bastore => h_zast
  | .lastore => h_last
  | .arraylength => h_alen
  | .ldc ix => h_ldc O 2 ix
  | .ldc_w ix => h_ldc O 3 ix
  | .ldc2_w ix => h_ldc2 O ix
  | _ => fun _ => none
def decs (code : ByteArray) (is : List (Nat × Instr × Int32)) : Bool := is.all (fun x => decide (decode code x.1 = .ok (x.2.1, ilen x.2.1)))
def aR (O : Own) : List (Nat × Instr × Int32) → Cfg → Option (Prop × Cfg)
  | [], c => some (True, c)
  | (a, i, v) :: r, c => if Nat.beq c.1 a = true then (match aS O i v c with
    | none => none
    | some (none, c') => aR O r c'
    | some (some p, c') => match aR O r c' with
      | none => none
      | some (P, c'') => some (p ∧ P, c'')) else none
/-- a conditional jump: the condition, how far, the stack behind it -/
def b_un (f : Int32 → Prop) (off : Int) : List Value → Option (Prop × Int × List Value)
  | .int x :: r => some (f x, off, r)
  | _ => none
def b_bin (f : Int32 → Int32 → Prop) (off : Int) : List Value → Option (Prop × Int × List Value)
  | .int y :: .int x :: r => some (f x y, off, r)
  | _ => none
def aB (i : Instr) : List Value → Option (Prop × Int × List Value) := match i with
  | .ifCond cd off => match cd with
    | .eq => b_un (fun x => x = 0) off
    | .ne => b_un (fun x => ¬ x = 0) off
    | .lt => b_un (fun x => x < 0) off
    | .ge => b_un (fun x => 0 ≤ x) off
    | .gt => b_un (fun x => 0 < x) off
    | .le => b_un (fun x => x ≤ 0) off
  | .if_icmp cd off => match cd with
    | .eq => b_bin (fun x y => x = y) off
    | .ne => b_bin (fun x y => ¬ x = y) off
    | .lt => b_bin (fun x y => x < y) off
    | .ge => b_bin (fun x y => y ≤ x) off
    | .gt => b_bin (fun x y => y < x) off
    | .le => b_bin (fun x y => x ≤ y) off
  | _ => fun _ => none
/-! ===== what the classes' pools say ===== -/
def clR (ci : Nat) : String := match ci with
  | 0 => RX0
  | 1 => RX1
  | 2 => RX2
  | 3 => RX3
  | _ => RX4
def clN (ci : Nat) : Nat := match ci with
  | 0 => 4
  | 1 => 10
  | 2 => 4
  | 3 => 9
  | _ => 31
theorem lt5 {ci : Nat} (h : ci < 5) : ci = 0 ∨ ci = 1 ∨ ci = 2 ∨ ci = 3 ∨ ci = 4 := by omega
theorem cl_get {ci : Nat} (h : ci < 5) : vwCl[ci]? = some (clR ci, clT ci, clN ci) := by
  rcases lt5 h with rfl | rfl | rfl | rfl | rfl <;> rfl
theorem cl_ty {ci : Nat} (h : ci < 5) : ∀ k, k < clN ci → parseFieldDescriptor (clT ci k).2.2.1 = some (tyF ci k) := by
  rcases lt5 h with rfl | rfl | rfl | rfl | rfl
  · exact tyX0_ok
  · exact tyX1_ok
  · exact tyX2_ok
  · exact tyX3_ok
  · exact tyX4_ok
theorem cl_nm {ci : Nat} (h : ci < 5) : ∀ a, a < clN ci → ∀ b, b < clN ci → a ≠ b → (clT ci a).2.1 ≠ (clT ci b).2.1 := by
  rcases lt5 h with rfl | rfl | rfl | rfl | rfl
  · exact nmX0
  · exact nmX1
  · exact nmX2
  · exact nmX3
  · exact nmX4
theorem gw_0 : ∀ w ∈ u_ws RX0 TX0 4, w ∈ gw := by decide +kernel
theorem gw_1 : ∀ w ∈ u_ws RX1 TX1 10, w ∈ gw := by decide +kernel
theorem gw_2 : ∀ w ∈ u_ws RX2 TX2 4, w ∈ gw := by decide +kernel
theorem gw_3 : ∀ w ∈ u_ws RX3 TX3 9, w ∈ gw := by decide +kernel
theorem gw_4 : ∀ w ∈ u_ws RX4 TX4 31, w ∈ gw := by decide +kernel
theorem cl_gw {ci : Nat} (h : ci < 5) : ∀ w ∈ u_ws (clR ci) (clT ci) (clN ci), w ∈ gw := by
  rcases lt5 h with rfl | rfl | rfl | rfl | rfl
  · exact gw_0
  · exact gw_1
  · exact gw_2
  · exact gw_3
  · exact gw_4
def fldW (own : String) (x : Nat × Bool × Nat × Nat) : Cond := if x.2.1 = true then .fieldLinkNest own x.1 (clT x.2.2.1 x.2.2.2).1 (clT x.2.2.1 x.2.2.2).2.1 (clT x.2.2.1 x.2.2.2).2.2.1 "BackByTwice" else .fieldLink own x.1 (clT x.2.2.1 x.2.2.2).1 (clT x.2.2.1 x.2.2.2).2.1 (clT x.2.2.1 x.2.2.2).2.2.1
def okO (O : Own) : Bool := O.2.1.all (fun x => decide (x.2.2.1 < 5) && (decide (x.2.2.2 < clN x.2.2.1) && decide (fldW O.1 x ∈ lw_tbl))) && (O.2.2.1.all (fun x => decide (Cond.constant O.1 x.1 x.2 ∈ gw)) && O.2.2.2.all (fun x => decide (Cond.constantLong O.1 x.1 x.2 ∈ gw)))
theorem okO_f {O : Own} (h : okO O = true) {x : Nat × Bool × Nat × Nat} (hx : x ∈ O.2.1) : x.2.2.1 < 5 ∧ x.2.2.2 < clN x.2.2.1 ∧ fldW O.1 x ∈ lw_tbl := by
  simp only [okO, Bool.and_eq_true, List.all_eq_true, decide_eq_true_eq] at h
  exact ⟨(h.1 x hx).1, (h.1 x hx).2.1, (h.1 x hx).2.2⟩
theorem okO_c {O : Own} (h : okO O = true) {x : Nat × Int32} (hx : x ∈ O.2.2.1) : Cond.constant O.1 x.1 x.2 ∈ gw := by
  simp only [okO, Bool.and_eq_true, List.all_eq_true, decide_eq_true_eq] at h
  exact h.2.1 x hx
theorem okO_l {O : Own} (h : okO O = true) {x : Nat × Int64} (hx : x ∈ O.2.2.2) : Cond.constantLong O.1 x.1 x.2 ∈ gw := by
  simp only [okO, Bool.and_eq_true, List.all_eq_true, decide_eq_true_eq] at h
  exact h.2.2 x hx
def tysOf (cT : Nat → ClassId) : List (ClassId × FieldType) := [(cT 0, .int), (cT 1, .long), (cT 2, .boolean), (cT 3, .object RX0), (cT 4, .array .long)]
def KK (D : va_G) (cT : Nat → ClassId) (U : State) : Prop := va_K D vwCl (tysOf cT) U ∧ ∀ w ∈ nw, va_Nw w U
theorem nw_warm {w : Cond} (hw : nw_is w = true) {s U : State} (hW : s.WarmedH U.vm) (h : va_Nw w s) : va_Nw w U := by
  cases w <;> first | (cases hw; done) | exact va_Nw.warmM hW h | exact va_Nw.warmF hW h
theorem nw_same {w : Cond} (hw : nw_is w = true) {u U : State} (e : u.vm = U.vm) (h : va_Nw w u) : va_Nw w U := by
  cases w <;> first | (cases hw; done) | exact va_Nw.same rfl e h
theorem nw_use {w : Cond} (hw : nw_is w = true) {A : Array Value} {U : State} (h : va_Nw w U) : w.before A U = true := by
  cases w <;> first | (cases hw; done) | exact va_Nw.use rfl h
theorem KK.warm {D : va_G} {cT : Nat → ClassId} {s U : State} (hW : s.WarmedH U.vm) (h : KK D cT s) : KK D cT U := ⟨va_K.moved hW.alike h.1, fun w hw => nw_warm (List.mem_filter.mp hw).2 hW (h.2 w hw)⟩
theorem KK.same {D : va_G} {cT : Nat → ClassId} {u U : State} (e : u.vm = U.vm) (h : KK D cT u) : KK D cT U := ⟨va_K.moved (by rw [e]; exact Vm.Alike.refl U.vm) h.1, fun w hw => nw_same (List.mem_filter.mp hw).2 e (h.2 w hw)⟩
theorem okV_ok {ty : FieldType} {v : Value} (h : okV ty v = true) (q : Nat → Nat) : narrow ty (tV q v) = tV q v ∧ fits ty (tV q v) = true := by
  unfold okV at h
  split at h
  · exact ⟨rfl, rfl⟩
  · rcases (by simpa using h : _ ∨ _) with rfl | rfl <;> exact ⟨rfl, rfl⟩
  · exact ⟨rfl, rfl⟩
  · exact ⟨rfl, rfl⟩
  · cases h
end
section
/-! ===== soundness of the abstract machine ===== -/
section SND
variable {p : Program} {l : Launch} {e : Env} {R : Room} {s : State} {m : MethodId} {args : Array Value} {below : List Frame} {meth : Method} {c : Code}
variable {D : va_G} {cT : Nat → ClassId} {nL : Nat} {q0 : Nat → Nat} {w0 : Wd} {sz : Nat} {Q : State → Prop} {bc bs : Nat}
def GG (p : Program) (l : Launch) (e : Env) (R : Room) (s : State) (m : MethodId) (args : Array Value) (below : List Frame) (meth : Method) (c : Code) (D : va_G) (cT : Nat → ClassId) (nL : Nat) (q0 : Nat → Nat) (w0 : Wd) (sz : Nat) (Q : State → Prop) (bc bs : Nat) (w : Wd) (pc : Nat) (L : List (Option Value)) (st : List Value) : Prop :=
  ∀ (q : Nat → Nat) (H : Heap) (locs : List Loc) (ls : Array Slot) (cells slots : Nat), Ext q0 w0 q w → RP D cT q w H → DP (AF q0 w0 sz) q w → va_S (AF q0 w0 sz) s.heap H locs → LQ nL q L ls → cells ≤ bc → slots ≤ bs → W p l e R s m args below meth c H locs cells slots Q (F0 m pc ls (st.map (tV q)))
/-- what holds of a frame all along -/
def FX (p : Program) (s : State) (m : MethodId) (args : Array Value) (meth : Method) (c : Code) (D : va_G) (cT : Nat → ClassId) (nL : Nat) (sz : Nat) (own : String) (code : ByteArray) : Prop :=
  p.tables.exec = Jvm.exec ∧ c.code = code ∧ c.maxLocals = nL ∧ s.vm.findClass own = some m.cls ∧ (∀ w ∈ gw, w.before args s = true) ∧ KK D cT s ∧ meth.locks = false ∧ sz = s.heap.size
theorem gg_push {code : ByteArray} {n : Nat} {v : Value} {pc : Nat} {L : List (Option Value)} {st : List Value} {w w' : Wd} {P : Option Prop} {pc' : Nat} {L' : List (Option Value)} {st' : List Value}
    (hs : h_push n v (pc, L, st, w) = some (P, pc', L', st', w')) (hv : ∀ q, tV q v = v)
    (hW : ∀ {H : Heap} {locs : List Loc} {cells slots : Nat} {ls : Array Slot} {rest : List Value}, W p l e R s m args below meth c H locs cells slots Q (F0 m (pc + n) ls (v :: rest)) → W p l e R s m args below meth c H locs cells slots Q (F0 m pc ls rest))
    (k : GG p l e R s m args below meth c D cT nL q0 w0 sz Q bc bs w' pc' L' st') : GG p l e R s m args below meth c D cT nL q0 w0 sz Q bc bs w pc L st := by
  cases hs
  intro q H locs ls cells slots h1 h2 h3 h4 h5 h6 h7
  refine hW ?_
  have := k q H locs ls cells slots h1 h2 h3 h4 h5 h6 h7
  rwa [List.map_cons, hv q] at this
/-- a step that neither writes the heap nor the locals: the stack alone changes -/
theorem gg_stk {pc pc' : Nat} {L : List (Option Value)} {st st' : List Value} {w : Wd}
    (hW : ∀ (q : Nat → Nat) {H : Heap} {locs : List Loc} {cells slots : Nat} {ls : Array Slot}, RP D cT q w H → LQ nL q L ls → W p l e R s m args below meth c H locs cells slots Q (F0 m pc' ls (st'.map (tV q))) → W p l e R s m args below meth c H locs cells slots Q (F0 m pc ls (st.map (tV q))))
    (k : GG p l e R s m args below meth c D cT nL q0 w0 sz Q bc bs w pc' L st') : GG p l e R s m args below meth c D cT nL q0 w0 sz Q bc bs w pc L st := by
  intro q H locs ls cells slots h1 h2 h3 h4 h5 h6 h7
  exact hW q h2 h5 (k q H locs ls cells slots h1 h2 h3 h4 h5 h6 h7)
theorem iv_ldi {n i pc pc' : Nat} {L L' : List (Option Value)} {st st' : List Value} {w w' : Wd} {P : Option Prop} (h : h_ldi n i (pc, L, st, w) = some (P, pc', L', st', w')) : ∃ x, L[i]? = some (some (.int x)) ∧ P = none ∧ pc' = pc + n ∧ L' = L ∧ st' = .int x :: st ∧ w' = w := by
  dsimp only [h_ldi] at h
  split at h
  next x hx => cases h; exact ⟨x, hx, rfl, rfl, rfl, rfl, rfl⟩
  next => cases h
theorem iv_ldl {n i pc pc' : Nat} {L L' : List (Option Value)} {st st' : List Value} {w w' : Wd} {P : Option Prop} (h : h_ldl n i (pc, L, st, w) = some (P, pc', L', st', w')) : ∃ x, L[i]? = some (some (.long x)) ∧ P = none ∧ pc' = pc + n ∧ L' = L ∧ st' = .long x :: st ∧ w' = w := by
  dsimp only [h_ldl] at h
  split at h
  next x hx => cases h; exact ⟨x, hx, rfl, rfl, rfl, rfl, rfl⟩
  next => cases h
theorem iv_lda {n i pc pc' : Nat} {L L' : List (Option Value)} {st st' : List Value} {w w' : Wd} {P : Option Prop} (h : h_lda n i (pc, L, st, w) = some (P, pc', L', st', w')) : ∃ x, L[i]? = some (some (.ref x)) ∧ P = none ∧ pc' = pc + n ∧ L' = L ∧ st' = .ref x :: st ∧ w' = w := by
  dsimp only [h_lda] at h
  split at h
  next x hx => cases h; exact ⟨x, hx, rfl, rfl, rfl, rfl, rfl⟩
  next => cases h
theorem blt_and {a b : Nat} {c : Bool} (h : (Nat.blt a b && c) = true) : a < b ∧ c = true := by
  rw [Bool.and_eq_true] at h
  exact ⟨by simpa using h.1, h.2⟩
theorem iv_sti {n i pc pc' : Nat} {L L' : List (Option Value)} {st st' : List Value} {w w' : Wd} {P : Option Prop} (h : h_sti n i (pc, L, st, w) = some (P, pc', L', st', w')) : ∃ x, st = .int x :: st' ∧ i < L.length ∧ okS L i = true ∧ P = none ∧ pc' = pc + n ∧ L' = stO L i (.int x) ∧ w' = w := by
  unfold h_sti at h
  split at h
  next hx =>
    cases hx
    split at h
    next hb => cases h; exact ⟨_, rfl, (blt_and hb).1, (blt_and hb).2, rfl, rfl, rfl, rfl⟩
    next => cases h
  next => cases h
theorem iv_sta {n i pc pc' : Nat} {L L' : List (Option Value)} {st st' : List Value} {w w' : Wd} {P : Option Prop} (h : h_sta n i (pc, L, st, w) = some (P, pc', L', st', w')) : ∃ x, st = .ref x :: st' ∧ i < L.length ∧ okS L i = true ∧ P = none ∧ pc' = pc + n ∧ L' = stO L i (.ref x) ∧ w' = w := by
  unfold h_sta at h
  split at h
  next hx =>
    cases hx
    split at h
    next hb => cases h; exact ⟨_, rfl, (blt_and hb).1, (blt_and hb).2, rfl, rfl, rfl, rfl⟩
    next => cases h
  next => cases h
theorem iv_stl {n i pc pc' : Nat} {L L' : List (Option Value)} {st st' : List Value} {w w' : Wd} {P : Option Prop} (h : h_stl n i (pc, L, st, w) = some (P, pc', L', st', w')) : ∃ x, st = .long x :: st' ∧ i + 1 < L.length ∧ okS L i = true ∧ P = none ∧ pc' = pc + n ∧ L' = stT L i (.long x) ∧ w' = w := by
  unfold h_stl at h
  split at h
  next hx =>
    cases hx
    split at h
    next hb => cases h; exact ⟨_, rfl, (blt_and hb).1, (blt_and hb).2, rfl, rfl, rfl, rfl⟩
    next => cases h
  next => cases h
theorem iv_inc {i pc pc' : Nat} {u v : Int32} {L L' : List (Option Value)} {st st' : List Value} {w w' : Wd} {P : Option Prop} (h : h_inc i u v (pc, L, st, w) = some (P, pc', L', st', w')) : ∃ x, u = v ∧ L[i]? = some (some (.int x)) ∧ i < L.length ∧ okS L i = true ∧ P = none ∧ pc' = pc + 3 ∧ L' = stO L i (.int (x + v)) ∧ st' = st ∧ w' = w := by
  dsimp only [h_inc] at h
  split at h
  next hd =>
    split at h
    next x hx =>
      split at h
      next hb => cases h; exact ⟨x, of_decide_eq_true hd, hx, (blt_and hb).1, (blt_and hb).2, rfl, rfl, rfl, rfl, rfl⟩
      next => cases h
    next => cases h
  next => cases h
theorem iv_c {n pc pc' : Nat} {u v : Int32} {L L' : List (Option Value)} {st st' : List Value} {w w' : Wd} {P : Option Prop} (h : h_c n u v (pc, L, st, w) = some (P, pc', L', st', w')) : u = v ∧ P = none ∧ pc' = pc + n ∧ L' = L ∧ st' = .int v :: st ∧ w' = w := by
  dsimp only [h_c] at h
  split at h
  next hd => cases h; exact ⟨of_decide_eq_true hd, rfl, rfl, rfl, rfl, rfl⟩
  next => cases h
theorem l01_ok (n : Fin 2) : Int64.ofNat (n : Nat) = l01 n := by
  match n with
  | ⟨0, _⟩ => rfl
  | ⟨1, _⟩ => rfl
theorem iv_bin {f : Int32 → Int32 → Int32} {pc pc' : Nat} {L L' : List (Option Value)} {st st' : List Value} {w w' : Wd} {P : Option Prop} (h : h_bin f (pc, L, st, w) = some (P, pc', L', st', w')) : ∃ x y r, st = .int y :: .int x :: r ∧ P = none ∧ pc' = pc + 1 ∧ L' = L ∧ st' = .int (f x y) :: r ∧ w' = w := by
  unfold h_bin at h
  split at h
  next hx => cases hx; cases h; exact ⟨_, _, _, rfl, rfl, rfl, rfl, rfl, rfl⟩
  next => cases h
theorem iv_bin0 {f : Int32 → Int32 → Int32} {pc pc' : Nat} {L L' : List (Option Value)} {st st' : List Value} {w w' : Wd} {P : Option Prop} (h : h_bin0 f (pc, L, st, w) = some (P, pc', L', st', w')) : ∃ x y r, st = .int y :: .int x :: r ∧ P = some (¬ y = 0) ∧ pc' = pc + 1 ∧ L' = L ∧ st' = .int (f x y) :: r ∧ w' = w := by
  unfold h_bin0 at h
  split at h
  next hx => cases hx; cases h; exact ⟨_, _, _, rfl, rfl, rfl, rfl, rfl, rfl⟩
  next => cases h
theorem iv_un {f : Int32 → Int32} {pc pc' : Nat} {L L' : List (Option Value)} {st st' : List Value} {w w' : Wd} {P : Option Prop} (h : h_un f (pc, L, st, w) = some (P, pc', L', st', w')) : ∃ x r, st = .int x :: r ∧ P = none ∧ pc' = pc + 1 ∧ L' = L ∧ st' = .int (f x) :: r ∧ w' = w := by
  unfold h_un at h
  split at h
  next hx => cases hx; cases h; exact ⟨_, _, rfl, rfl, rfl, rfl, rfl, rfl⟩
  next => cases h
theorem iv_binl {f : Int64 → Int64 → Int64} {pc pc' : Nat} {L L' : List (Option Value)} {st st' : List Value} {w w' : Wd} {P : Option Prop} (h : h_binl f (pc, L, st, w) = some (P, pc', L', st', w')) : ∃ x y r, st = .long y :: .long x :: r ∧ P = none ∧ pc' = pc + 1 ∧ L' = L ∧ st' = .long (f x y) :: r ∧ w' = w := by
  unfold h_binl at h
  split at h
  next hx => cases hx; cases h; exact ⟨_, _, _, rfl, rfl, rfl, rfl, rfl, rfl⟩
  next => cases h
theorem iv_lcmp {pc pc' : Nat} {L L' : List (Option Value)} {st st' : List Value} {w w' : Wd} {P : Option Prop} (h : h_lcmp (pc, L, st, w) = some (P, pc', L', st', w')) : ∃ x y r, st = .long y :: .long x :: r ∧ P = none ∧ pc' = pc + 1 ∧ L' = L ∧ st' = .int (lg_cmp x y) :: r ∧ w' = w := by
  unfold h_lcmp at h
  split at h
  next hx => cases hx; cases h; exact ⟨_, _, _, rfl, rfl, rfl, rfl, rfl, rfl⟩
  next => cases h
theorem iv_lshl {pc pc' : Nat} {L L' : List (Option Value)} {st st' : List Value} {w w' : Wd} {P : Option Prop} (h : h_lshl (pc, L, st, w) = some (P, pc', L', st', w')) : ∃ x y r, st = .int y :: .long x :: r ∧ P = none ∧ pc' = pc + 1 ∧ L' = L ∧ st' = .long (x <<< (y.toInt64 &&& 63)) :: r ∧ w' = w := by
  unfold h_lshl at h
  split at h
  next hx => cases hx; cases h; exact ⟨_, _, _, rfl, rfl, rfl, rfl, rfl, rfl⟩
  next => cases h
theorem iv_i2l {pc pc' : Nat} {L L' : List (Option Value)} {st st' : List Value} {w w' : Wd} {P : Option Prop} (h : h_i2l (pc, L, st, w) = some (P, pc', L', st', w')) : ∃ x r, st = .int x :: r ∧ P = none ∧ pc' = pc + 1 ∧ L' = L ∧ st' = .long x.toInt64 :: r ∧ w' = w := by
  unfold h_i2l at h
  split at h
  next hx => cases hx; cases h; exact ⟨_, _, rfl, rfl, rfl, rfl, rfl, rfl⟩
  next => cases h
theorem iv_l2i {pc pc' : Nat} {L L' : List (Option Value)} {st st' : List Value} {w w' : Wd} {P : Option Prop} (h : h_l2i (pc, L, st, w) = some (P, pc', L', st', w')) : ∃ x r, st = .long x :: r ∧ P = none ∧ pc' = pc + 1 ∧ L' = L ∧ st' = .int x.toInt32 :: r ∧ w' = w := by
  unfold h_l2i at h
  split at h
  next hx => cases hx; cases h; exact ⟨_, _, rfl, rfl, rfl, rfl, rfl, rfl⟩
  next => cases h
theorem iv_dup {pc pc' : Nat} {L L' : List (Option Value)} {st st' : List Value} {w w' : Wd} {P : Option Prop} (h : h_dup (pc, L, st, w) = some (P, pc', L', st', w')) : ∃ v r, st = v :: r ∧ v.category = 1 ∧ P = none ∧ pc' = pc + 1 ∧ L' = L ∧ st' = v :: v :: r ∧ w' = w := by
  unfold h_dup at h
  split at h
  next hx =>
    cases hx
    split at h
    next hb => cases h; exact ⟨_, _, rfl, Nat.eq_of_beq_eq_true hb, rfl, rfl, rfl, rfl, rfl⟩
    next => cases h
  next => cases h
theorem iv_pop {pc pc' : Nat} {L L' : List (Option Value)} {st st' : List Value} {w w' : Wd} {P : Option Prop} (h : h_pop (pc, L, st, w) = some (P, pc', L', st', w')) : ∃ v, st = v :: st' ∧ v.category = 1 ∧ P = none ∧ pc' = pc + 1 ∧ L' = L ∧ w' = w := by
  unfold h_pop at h
  split at h
  next hx =>
    cases hx
    split at h
    next hb => cases h; exact ⟨_, rfl, Nat.eq_of_beq_eq_true hb, rfl, rfl, rfl, rfl⟩
    next => cases h
  next => cases h
theorem iv_dup_x1 {pc pc' : Nat} {L L' : List (Option Value)} {st st' : List Value} {w w' : Wd} {P : Option Prop} (h : h_dup_x1 (pc, L, st, w) = some (P, pc', L', st', w')) : ∃ a b r, st = a :: b :: r ∧ a.category = 1 ∧ b.category = 1 ∧ P = none ∧ pc' = pc + 1 ∧ L' = L ∧ st' = a :: b :: a :: r ∧ w' = w := by
  unfold h_dup_x1 at h
  split at h
  next hx =>
    cases hx
    split at h
    next hb => rw [Bool.and_eq_true] at hb; cases h; exact ⟨_, _, _, rfl, Nat.eq_of_beq_eq_true hb.1, Nat.eq_of_beq_eq_true hb.2, rfl, rfl, rfl, rfl, rfl⟩
    next => cases h
  next => cases h
theorem iv_dup2 {pc pc' : Nat} {L L' : List (Option Value)} {st st' : List Value} {w w' : Wd} {P : Option Prop} (h : h_dup2 (pc, L, st, w) = some (P, pc', L', st', w')) : ∃ a b r, st = a :: b :: r ∧ a.category = 1 ∧ b.category = 1 ∧ P = none ∧ pc' = pc + 1 ∧ L' = L ∧ st' = a :: b :: a :: b :: r ∧ w' = w := by
  unfold h_dup2 at h
  split at h
  next hx =>
    cases hx
    split at h
    next hb => rw [Bool.and_eq_true] at hb; cases h; exact ⟨_, _, _, rfl, Nat.eq_of_beq_eq_true hb.1, Nat.eq_of_beq_eq_true hb.2, rfl, rfl, rfl, rfl, rfl⟩
    next => cases h
  next => cases h
theorem iv_goto {off : Int} {pc pc' : Nat} {L L' : List (Option Value)} {st st' : List Value} {w w' : Wd} {P : Option Prop} (h : h_goto off (pc, L, st, w) = some (P, pc', L', st', w')) : P = none ∧ (pc : Int) + off = (pc' : Int) ∧ pc' = ((pc : Int) + off).toNat ∧ L' = L ∧ st' = st ∧ w' = w := by
  dsimp only [h_goto] at h
  split at h
  next hb => cases h; exact ⟨rfl, of_decide_eq_true hb, rfl, rfl, rfl, rfl⟩
  next => cases h
theorem iv_getf {O : Own} {ix pc pc' : Nat} {L L' : List (Option Value)} {st st' : List Value} {w w' : Wd} {P : Option Prop} (h : h_getf O ix (pc, L, st, w) = some (P, pc', L', st', w')) : ∃ k r nest ci j fs v, st = .ref k :: r ∧ lkp O.2.1 ix = some (nest, ci, j) ∧ wA w k = some (.inr (ci, fs)) ∧ fs[j]? = some v ∧ P = none ∧ pc' = pc + 3 ∧ L' = L ∧ st' = v :: r ∧ w' = w := by
  unfold h_getf at h
  split at h
  next hx =>
    cases hx
    split at h
    next nest ci j hl =>
      split at h
      next cj fs hw =>
        split at h
        next hb =>
          split at h
          next v hv =>
            cases h
            have e := Nat.eq_of_beq_eq_true hb
            subst e
            exact ⟨_, _, nest, _, j, fs, v, rfl, hl, hw, hv, rfl, rfl, rfl, rfl, rfl⟩
          next => cases h
        next => cases h
      next => cases h
    next => cases h
  next => cases h
theorem iv_putf {O : Own} {ix pc pc' : Nat} {L L' : List (Option Value)} {st st' : List Value} {w w' : Wd} {P : Option Prop} (h : h_putf O ix (pc, L, st, w) = some (P, pc', L', st', w')) : ∃ k nest ci j fs v, st = v :: .ref k :: st' ∧ lkp O.2.1 ix = some (nest, ci, j) ∧ wA w k = some (.inr (ci, fs)) ∧ j < fs.length ∧ okV (tyF ci j) v = true ∧ (clT ci j).2.2.2 = false ∧ P = none ∧ pc' = pc + 3 ∧ L' = L ∧ w' = w.set k (.inr (.inr (ci, fs.set j v))) := by
  unfold h_putf at h
  split at h
  next hx =>
    cases hx
    split at h
    next nest ci j hl =>
      split at h
      next cj fs hw =>
        split at h
        next hb =>
          cases h
          simp only [Bool.and_eq_true, Bool.not_eq_true'] at hb
          have e := Nat.eq_of_beq_eq_true hb.1
          subst e
          exact ⟨_, nest, _, j, fs, _, rfl, hl, hw, by simpa using hb.2.1, hb.2.2.1, hb.2.2.2, rfl, rfl, rfl, rfl⟩
        next => cases h
      next => cases h
    next => cases h
  next => cases h
theorem iv_iald {pc pc' : Nat} {L L' : List (Option Value)} {st st' : List Value} {w w' : Wd} {P : Option Prop} (h : h_iald (pc, L, st, w) = some (P, pc', L', st', w')) : ∃ i k r n f, st = .int i :: .ref k :: r ∧ wA w k = some (.inl (0, n, .inl f)) ∧ P = some (vp_in i n) ∧ pc' = pc + 1 ∧ L' = L ∧ st' = .int (f i.toNatClampNeg) :: r ∧ w' = w := by
  unfold h_iald at h
  split at h
  next hx =>
    cases hx
    split at h
    next n f hw => cases h; exact ⟨_, _, _, n, f, rfl, hw, rfl, rfl, rfl, rfl, rfl⟩
    next => cases h
  next => cases h
theorem iv_zald {pc pc' : Nat} {L L' : List (Option Value)} {st st' : List Value} {w w' : Wd} {P : Option Prop} (h : h_zald (pc, L, st, w) = some (P, pc', L', st', w')) : ∃ i k r n f, st = .int i :: .ref k :: r ∧ wA w k = some (.inl (2, n, .inl f)) ∧ P = some (vp_in i n) ∧ pc' = pc + 1 ∧ L' = L ∧ st' = .int (f i.toNatClampNeg) :: r ∧ w' = w := by
  unfold h_zald at h
  split at h
  next hx =>
    cases hx
    split at h
    next n f hw => cases h; exact ⟨_, _, _, n, f, rfl, hw, rfl, rfl, rfl, rfl, rfl⟩
    next => cases h
  next => cases h
theorem iv_lald {pc pc' : Nat} {L L' : List (Option Value)} {st st' : List Value} {w w' : Wd} {P : Option Prop} (h : h_lald (pc, L, st, w) = some (P, pc', L', st', w')) : ∃ i k r n f, st = .int i :: .ref k :: r ∧ wA w k = some (.inl (1, n, .inr (.inl f))) ∧ P = some (vp_in i n) ∧ pc' = pc + 1 ∧ L' = L ∧ st' = .long (f i.toNatClampNeg) :: r ∧ w' = w := by
  unfold h_lald at h
  split at h
  next hx =>
    cases hx
    split at h
    next n f hw => cases h; exact ⟨_, _, _, n, f, rfl, hw, rfl, rfl, rfl, rfl, rfl⟩
    next => cases h
  next => cases h
theorem iv_aald {pc pc' : Nat} {L L' : List (Option Value)} {st st' : List Value} {w w' : Wd} {P : Option Prop} (h : h_aald (pc, L, st, w) = some (P, pc', L', st', w')) : ∃ i k r t n f b, st = .int i :: .ref k :: r ∧ wA w k = some (.inl (t, n, .inr (.inr (.inr (.inr f))))) ∧ (t = 3 ∨ t = 4) ∧ f i.toNatClampNeg = some b ∧ P = some (vp_in i n) ∧ pc' = pc + 1 ∧ L' = L ∧ st' = .ref b :: r ∧ w' = w := by
  unfold h_aald at h
  split at h
  next hx =>
    cases hx
    split at h
    next t n f hw =>
      split at h
      next hb =>
        split at h
        next b hf =>
          cases h
          rw [Bool.or_eq_true] at hb
          exact ⟨_, _, _, t, n, f, b, rfl, hw, hb.imp Nat.eq_of_beq_eq_true Nat.eq_of_beq_eq_true, hf, rfl, rfl, rfl, rfl, rfl⟩
        next => cases h
      next => cases h
    next => cases h
  next => cases h
theorem iv_iast {pc pc' : Nat} {L L' : List (Option Value)} {st st' : List Value} {w w' : Wd} {P : Option Prop} (h : h_iast (pc, L, st, w) = some (P, pc', L', st', w')) : ∃ x i k n f, st = .int x :: .int i :: .ref k :: st' ∧ wA w k = some (.inl (0, n, .inl f)) ∧ P = some (vp_in i n) ∧ pc' = pc + 1 ∧ L' = L ∧ w' = w.set k (.inr (.inl (0, n, .inl (upd f i.toNatClampNeg x)))) := by
  unfold h_iast at h
  split at h
  next hx =>
    cases hx
    split at h
    next n f hw => cases h; exact ⟨_, _, _, n, f, rfl, hw, rfl, rfl, rfl, rfl⟩
    next => cases h
  next => cases h
theorem iv_zast {pc pc' : Nat} {L L' : List (Option Value)} {st st' : List Value} {w w' : Wd} {P : Option Prop} (h : h_zast (pc, L, st, w) = some (P, pc', L', st', w')) : ∃ x i k n f, st = .int x :: .int i :: .ref k :: st' ∧ wA w k = some (.inl (2, n, .inl f)) ∧ P = some (vp_in i n) ∧ pc' = pc + 1 ∧ L' = L ∧ w' = w.set k (.inr (.inl (2, n, .inl (upd f i.toNatClampNeg (vp_nar .boolean x))))) := by
  unfold h_zast at h
  split at h
  next hx =>
    cases hx
    split at h
    next n f hw => cases h; exact ⟨_, _, _, n, f, rfl, hw, rfl, rfl, rfl, rfl⟩
    next => cases h
  next => cases h
theorem iv_last {pc pc' : Nat} {L L' : List (Option Value)} {st st' : List Value} {w w' : Wd} {P : Option Prop} (h : h_last (pc, L, st, w) = some (P, pc', L', st', w')) : ∃ x i k n f, st = .long x :: .int i :: .ref k :: st' ∧ wA w k = some (.inl (1, n, .inr (.inl f))) ∧ P = some (vp_in i n) ∧ pc' = pc + 1 ∧ L' = L ∧ w' = w.set k (.inr (.inl (1, n, .inr (.inl (vp_updL f i.toNatClampNeg x))))) := by
  unfold h_last at h
  split at h
  next hx =>
    cases hx
    split at h
    next n f hw => cases h; exact ⟨_, _, _, n, f, rfl, hw, rfl, rfl, rfl, rfl⟩
    next => cases h
  next => cases h
theorem iv_alen {pc pc' : Nat} {L L' : List (Option Value)} {st st' : List Value} {w w' : Wd} {P : Option Prop} (h : h_alen (pc, L, st, w) = some (P, pc', L', st', w')) : ∃ k r t n f, st = .ref k :: r ∧ wA w k = some (.inl (t, n, f)) ∧ t < 5 ∧ P = none ∧ pc' = pc + 1 ∧ L' = L ∧ st' = .int (Int32.ofNat n) :: r ∧ w' = w := by
  unfold h_alen at h
  split at h
  next hx =>
    cases hx
    split at h
    next t n f hw =>
      split at h
      next hb => cases h; exact ⟨_, _, t, n, f, rfl, hw, by simpa using hb, rfl, rfl, rfl, rfl, rfl⟩
      next => cases h
    next => cases h
  next => cases h
theorem tys_get {cT : Nat → ClassId} {t : Nat} (h : t < 5) : ∃ ty, (tysOf cT)[t]? = some (cT t, ty) := by
  rcases lt5 h with rfl | rfl | rfl | rfl | rfl <;> exact ⟨_, rfl⟩
theorem DP.ok {A : Nat → Prop} {q : Nat → Nat} {w : Wd} (h : DP A q w) : va_D A (cn cT q w) := h.D
end SND
end
section
section SND2
variable {p : Program} {l : Launch} {e : Env} {R : Room} {s : State} {m : MethodId} {args : Array Value} {below : List Frame} {meth : Method} {c : Code}
variable {D : va_G} {cT : Nat → ClassId} {nL : Nat} {q0 : Nat → Nat} {w0 : Wd} {sz : Nat} {Q : State → Prop} {bc bs : Nat}
theorem gg_st1 {pc pc' i : Nat} {L : List (Option Value)} {st' : List Value} {w : Wd} {v : Value} (st : List Value) (hi : i < L.length) (ho : okS L i = true)
    (hW : ∀ (q : Nat → Nat) {H : Heap} {locs : List Loc} {cells slots : Nat} {ls : Array Slot}, LQ nL q L ls → i < nL → (∀ ls', lv_has ls' nL ((i, tV q v) :: (lvl q 0 L).filter (fun x => !(x.1 == i) && !(x.1 + 1 == i && x.2.category == 2))) → W p l e R s m args below meth c H locs cells slots Q (F0 m pc' ls' (st'.map (tV q)))) → W p l e R s m args below meth c H locs cells slots Q (F0 m pc ls (st.map (tV q))))
    (k : GG p l e R s m args below meth c D cT nL q0 w0 sz Q bc bs w pc' (stO L i v) st') : GG p l e R s m args below meth c D cT nL q0 w0 sz Q bc bs w pc L st := by
  intro q H locs ls cells slots h1 h2 h3 h4 h5 h6 h7
  exact hW q h5 (by have := h5.2; omega) (fun ls' h => k q H locs ls' cells slots h1 h2 h3 h4 (LQ.one h5.2 hi ho h) h6 h7)
theorem gg_st2 {pc pc' i : Nat} {L : List (Option Value)} {st' : List Value} {w : Wd} {v : Value} (st : List Value) (hi : i + 1 < L.length) (ho : okS L i = true)
    (hW : ∀ (q : Nat → Nat) {H : Heap} {locs : List Loc} {cells slots : Nat} {ls : Array Slot}, LQ nL q L ls → i + 1 < nL → (∀ ls', lv_has ls' nL ((i, tV q v) :: (lvl q 0 L).filter (fun x => !(x.1 == i) && (!(x.1 == i + 1) && !(x.1 + 1 == i && x.2.category == 2)))) → W p l e R s m args below meth c H locs cells slots Q (F0 m pc' ls' (st'.map (tV q)))) → W p l e R s m args below meth c H locs cells slots Q (F0 m pc ls (st.map (tV q))))
    (k : GG p l e R s m args below meth c D cT nL q0 w0 sz Q bc bs w pc' (stT L i v) st') : GG p l e R s m args below meth c D cT nL q0 w0 sz Q bc bs w pc L st := by
  intro q H locs ls cells slots h1 h2 h3 h4 h5 h6 h7
  exact hW q h5 (by have := h5.2; omega) (fun ls' h => k q H locs ls' cells slots h1 h2 h3 h4 (LQ.two h5.2 hi ho h) h6 h7)
theorem LQ.pos {q : Nat → Nat} {L : List (Option Value)} {ls : Array Slot} {i : Nat} {v : Value} (h : LQ nL q L ls) (hi : L[i]? = some (some v)) : ∃ j : Nat, (lvl q 0 L)[j]? = some (i, tV q v) :=
  List.getElem?_of_mem ((lvl_mem L 0 _).mpr ⟨i, v, hi, by rw [Nat.zero_add]⟩)
/-- one write into a cell -/
theorem gg_wr {pc pc' k : Nat} {L : List (Option Value)} {st st' : List Value} {w : Wd} {e0 e1 : va_E} (hs0 : sz = s.heap.size) (h0 : wA w k = some e0)
    (hW : ∀ (q : Nat → Nat) {H : Heap} {locs : List Loc} {cells slots : Nat} {ls : Array Slot} (j : Nat), (cn cT q w)[j]? = some (q k, tE cT q e0) → va_P D vwCl (cn cT q w) H → va_D (AF q0 w0 sz) (cn cT q w) → va_S (AF q0 w0 sz) s.heap H locs →
      (∀ (H1 : Heap) (locs1 : List Loc), va_P D vwCl ((cn cT q w).set j (q k, tE cT q e1)) H1 → va_S (AF q0 w0 sz) s.heap H1 locs1 → W p l e R s m args below meth c H1 locs1 cells slots Q (F0 m pc' ls (st'.map (tV q)))) → W p l e R s m args below meth c H locs cells slots Q (F0 m pc ls (st.map (tV q))))
    (kk : GG p l e R s m args below meth c D cT nL q0 w0 sz Q bc bs (w.set k (.inr e1)) pc' L st') : GG p l e R s m args below meth c D cT nL q0 w0 sz Q bc bs w pc L st := by
  intro q H locs ls cells slots h1 h2 h3 h4 h5 h6 h7
  obtain ⟨j, hj⟩ := cn_get (cT := cT) (q := q) h0
  exact hW q j hj h2.P h3.D h4 (fun H1 locs1 hP1 hS1 => kk q H1 locs1 ls cells slots (h1.set h0 e1) (RP.back h3 h0 hj hP1) (h3.set h0 e1) hS1 h5 h6 h7)
theorem gg_step {O : Own} {code : ByteArray} (hO : okO O = true) (X : FX p s m args meth c D cT nL sz O.1 code) {i : Instr} {v : Int32} {pc pc' : Nat} {L L' : List (Option Value)} {st st' : List Value} {w w' : Wd} {P : Option Prop} (hd : decode code pc = .ok (i, ilen i)) (hs : aS O i v (pc, L, st, w) = some (P, pc', L', st', w')) (hP : ∀ a, P = some a → a)
    (k : GG p l e R s m args below meth c D cT nL q0 w0 sz Q bc bs w' pc' L' st') : GG p l e R s m args below meth c D cT nL q0 w0 sz Q bc bs w pc L st := by
  obtain ⟨hx, hb, hml, hown, hts, hK, hlk, hsz⟩ := X
  cases i
  case iconst n => obtain ⟨h1, rfl, rfl, rfl, rfl, rfl⟩ := iv_c hs; exact gg_stk (st' := .int v :: st) (fun q _ _ _ _ _ _ _ kk => lv_iconst hx hb hd h1 kk) k
  case bipush n => obtain ⟨h1, rfl, rfl, rfl, rfl, rfl⟩ := iv_c hs; exact gg_stk (st' := .int v :: st) (fun q _ _ _ _ _ _ _ kk => lv_bipush hx hb hd h1 kk) k
  case sipush n => obtain ⟨h1, rfl, rfl, rfl, rfl, rfl⟩ := iv_c hs; exact gg_stk (st' := .int v :: st) (fun q _ _ _ _ _ _ _ kk => lv_sipush hx hb hd h1 kk) k
  case lconst n => exact gg_push (code := code) hs (fun _ => rfl) (fun k => lv_lconst hx hb hd (l01_ok n) k) k
  case iload_n n => obtain ⟨x, h1, rfl, rfl, rfl, rfl, rfl⟩ := iv_ldi hs; exact gg_stk (fun q _ _ _ _ _ _ hL kk => lv_iload_n hx hb hd rfl (hL.get h1) kk) k
  case iload n => obtain ⟨x, h1, rfl, rfl, rfl, rfl, rfl⟩ := iv_ldi hs; exact gg_stk (fun q _ _ _ _ _ _ hL kk => lv_iload hx hb hd (hL.get h1) kk) k
  case lload_n n => obtain ⟨x, h1, rfl, rfl, rfl, rfl, rfl⟩ := iv_ldl hs; exact gg_stk (fun q _ _ _ _ _ _ hL kk => lv_lload_n hx hb hd rfl (hL.get h1) kk) k
  case lload n => obtain ⟨x, h1, rfl, rfl, rfl, rfl, rfl⟩ := iv_ldl hs; exact gg_stk (fun q _ _ _ _ _ _ hL kk => lv_lload hx hb hd (hL.get h1) kk) k
  case aload_n n => obtain ⟨x, h1, rfl, rfl, rfl, rfl, rfl⟩ := iv_lda hs; exact gg_stk (fun q _ _ _ _ _ _ hL kk => lv_aload_n hx hb hd rfl (hL.get h1) kk) k
  case aload n => obtain ⟨x, h1, rfl, rfl, rfl, rfl, rfl⟩ := iv_lda hs; exact gg_stk (fun q _ _ _ _ _ _ hL kk => lv_aload hx hb hd (hL.get h1) kk) k
  case istore_n n => obtain ⟨x, rfl, h1, h2, rfl, rfl, rfl, rfl⟩ := iv_sti hs; exact gg_st1 (v := .int x) (st' := st') _ h1 h2 (fun q _ _ _ _ _ hL hn kk => lv_istore_n hx hb hd rfl hL.1 hn rfl kk) k
  case istore n => obtain ⟨x, rfl, h1, h2, rfl, rfl, rfl, rfl⟩ := iv_sti hs; exact gg_st1 (v := .int x) (st' := st') _ h1 h2 (fun q _ _ _ _ _ hL hn kk => lv_istore hx hb hd hL.1 hn rfl kk) k
  case lstore_n n => obtain ⟨x, rfl, h1, h2, rfl, rfl, rfl, rfl⟩ := iv_stl hs; exact gg_st2 (v := .long x) (st' := st') _ h1 h2 (fun q _ _ _ _ _ hL hn kk => lv_lstore_n hx hb hd rfl hL.1 hn rfl kk) k
  case lstore n => obtain ⟨x, rfl, h1, h2, rfl, rfl, rfl, rfl⟩ := iv_stl hs; exact gg_st2 (v := .long x) (st' := st') _ h1 h2 (fun q _ _ _ _ _ hL hn kk => lv_lstore hx hb hd hL.1 hn rfl kk) k
  case astore_n n => obtain ⟨x, rfl, h1, h2, rfl, rfl, rfl, rfl⟩ := iv_sta hs; exact gg_st1 (v := .ref x) (st' := st') _ h1 h2 (fun q _ _ _ _ _ hL hn kk => lv_astore_n hx hb hd rfl hL.1 hn rfl kk) k
  case astore n => obtain ⟨x, rfl, h1, h2, rfl, rfl, rfl, rfl⟩ := iv_sta hs; exact gg_st1 (v := .ref x) (st' := st') _ h1 h2 (fun q _ _ _ _ _ hL hn kk => lv_astore hx hb hd hL.1 hn rfl kk) k
  case iinc n z =>
    obtain ⟨x, hz, h0, h1, h2, rfl, rfl, rfl, rfl, rfl⟩ := iv_inc hs
    refine gg_st1 _ h1 h2 (fun q _ _ _ _ _ hL hn kk => ?_) k
    obtain ⟨j, hj⟩ := hL.pos h0
    exact lv_iinc hx hb hd hL.1 hj (by rw [hz]) hn rfl kk
  case iadd => obtain ⟨x, y, r, rfl, rfl, rfl, rfl, rfl, rfl⟩ := iv_bin hs; exact gg_stk (fun q _ _ _ _ _ _ _ kk => lv_iadd hx hb hd kk) k
  case isub => obtain ⟨x, y, r, rfl, rfl, rfl, rfl, rfl, rfl⟩ := iv_bin hs; exact gg_stk (fun q _ _ _ _ _ _ _ kk => lv_isub hx hb hd kk) k
  case imul => obtain ⟨x, y, r, rfl, rfl, rfl, rfl, rfl, rfl⟩ := iv_bin hs; exact gg_stk (fun q _ _ _ _ _ _ _ kk => lv_imul hx hb hd kk) k
  case iand => obtain ⟨x, y, r, rfl, rfl, rfl, rfl, rfl, rfl⟩ := iv_bin hs; exact gg_stk (fun q _ _ _ _ _ _ _ kk => lv_iand hx hb hd kk) k
  case ior => obtain ⟨x, y, r, rfl, rfl, rfl, rfl, rfl, rfl⟩ := iv_bin hs; exact gg_stk (fun q _ _ _ _ _ _ _ kk => lv_ior hx hb hd kk) k
  case ixor => obtain ⟨x, y, r, rfl, rfl, rfl, rfl, rfl, rfl⟩ := iv_bin hs; exact gg_stk (fun q _ _ _ _ _ _ _ kk => lv_ixor hx hb hd kk) k
  case ishl => obtain ⟨x, y, r, rfl, rfl, rfl, rfl, rfl, rfl⟩ := iv_bin hs; exact gg_stk (fun q _ _ _ _ _ _ _ kk => lv_ishl hx hb hd kk) k
  case ishr => obtain ⟨x, y, r, rfl, rfl, rfl, rfl, rfl, rfl⟩ := iv_bin hs; exact gg_stk (fun q _ _ _ _ _ _ _ kk => lv_ishr hx hb hd kk) k
  case iushr => obtain ⟨x, y, r, rfl, rfl, rfl, rfl, rfl, rfl⟩ := iv_bin hs; exact gg_stk (fun q _ _ _ _ _ _ _ kk => lv_iushr hx hb hd rfl kk) k
  case idiv => obtain ⟨x, y, r, rfl, rfl, rfl, rfl, rfl, rfl⟩ := iv_bin0 hs; exact gg_stk (fun q _ _ _ _ _ _ _ kk => lv_idiv hx hb hd (hP _ rfl) kk) k
  case irem => obtain ⟨x, y, r, rfl, rfl, rfl, rfl, rfl, rfl⟩ := iv_bin0 hs; exact gg_stk (fun q _ _ _ _ _ _ _ kk => lv_irem hx hb hd (hP _ rfl) kk) k
  case ineg => obtain ⟨x, r, rfl, rfl, rfl, rfl, rfl, rfl⟩ := iv_un hs; exact gg_stk (fun q _ _ _ _ _ _ _ kk => lv_ineg hx hb hd kk) k
  case i2b => obtain ⟨x, r, rfl, rfl, rfl, rfl, rfl, rfl⟩ := iv_un hs; exact gg_stk (fun q _ _ _ _ _ _ _ kk => lv_i2b hx hb hd rfl kk) k
  case i2s => obtain ⟨x, r, rfl, rfl, rfl, rfl, rfl, rfl⟩ := iv_un hs; exact gg_stk (fun q _ _ _ _ _ _ _ kk => lv_i2s hx hb hd rfl kk) k
  case land => obtain ⟨x, y, r, rfl, rfl, rfl, rfl, rfl, rfl⟩ := iv_binl hs; exact gg_stk (fun q _ _ _ _ _ _ _ kk => lv_land hx hb hd kk) k
  case lor => obtain ⟨x, y, r, rfl, rfl, rfl, rfl, rfl, rfl⟩ := iv_binl hs; exact gg_stk (fun q _ _ _ _ _ _ _ kk => lv_lor hx hb hd kk) k
  case lcmp => obtain ⟨x, y, r, rfl, rfl, rfl, rfl, rfl, rfl⟩ := iv_lcmp hs; exact gg_stk (fun q _ _ _ _ _ _ _ kk => W.lcmp hx hb hd kk) k
  case lshl => obtain ⟨x, y, r, rfl, rfl, rfl, rfl, rfl, rfl⟩ := iv_lshl hs; exact gg_stk (fun q _ _ _ _ _ _ _ kk => lv_lshl hx hb hd rfl kk) k
  case i2l => obtain ⟨x, r, rfl, rfl, rfl, rfl, rfl, rfl⟩ := iv_i2l hs; exact gg_stk (fun q _ _ _ _ _ _ _ kk => lv_i2l hx hb hd rfl kk) k
  case l2i => obtain ⟨x, r, rfl, rfl, rfl, rfl, rfl, rfl⟩ := iv_l2i hs; exact gg_stk (fun q _ _ _ _ _ _ _ kk => lv_l2i hx hb hd rfl kk) k
  case dup => obtain ⟨v, r, rfl, h1, rfl, rfl, rfl, rfl, rfl⟩ := iv_dup hs; exact gg_stk (fun q _ _ _ _ _ _ _ kk => lv_dup hx hb hd (by rw [tV_cat]; exact h1) kk) k
  case pop => obtain ⟨v, rfl, h1, rfl, rfl, rfl, rfl⟩ := iv_pop hs; exact gg_stk (fun q _ _ _ _ _ _ _ kk => lv_pop hx hb hd (by rw [tV_cat]; exact h1) kk) k
  case dup_x1 => obtain ⟨a, b, r, rfl, h1, h2, rfl, rfl, rfl, rfl, rfl⟩ := iv_dup_x1 hs; exact gg_stk (fun q _ _ _ _ _ _ _ kk => lv_dup_x1 hx hb hd (by rw [tV_cat]; exact h1) (by rw [tV_cat]; exact h2) kk) k
  case dup2 => obtain ⟨a, b, r, rfl, h1, h2, rfl, rfl, rfl, rfl, rfl⟩ := iv_dup2 hs; exact gg_stk (fun q _ _ _ _ _ _ _ kk => lv_dup2_11 hx hb hd (by rw [tV_cat]; exact h1) (by rw [tV_cat]; exact h2) kk) k
  case goto off => obtain ⟨rfl, h1, h2, rfl, rfl, rfl⟩ := iv_goto hs; exact gg_stk (fun q _ _ _ _ _ _ _ kk => lv_goto hx hb hd h1 kk) k
  case getfield ix =>
    obtain ⟨kk, r, nest, ci, j, fs, v, rfl, hl, hw, hv, rfl, rfl, rfl, rfl, rfl⟩ := iv_getf hs
    obtain ⟨o1, o2, o3⟩ := okO_f hO (lkp_mem hl)
    refine gg_stk (fun q _ _ _ _ _ hP' _ k9 => ?_) k
    obtain ⟨j0, hj0⟩ := cn_get (cT := cT) (q := q) hw
    cases nest with
    | false => exact va_get hx hb hts (cl_gw o1) hown hK.1 hP'.P j0 hj0 (cl_get o1) j o2 (hts _ (List.mem_filter.mpr ⟨o3, rfl⟩)) (fun _ h => h) (by rw [List.getElem?_map, hv]; rfl) hd k9
    | true => exact va_getN hx hb hts (cl_gw o1) hown hK.1 hP'.P j0 hj0 (cl_get o1) j o2 (nw_use rfl (hK.2 _ (List.mem_filter.mpr ⟨o3, rfl⟩))) (fun _ h => h) (by rw [List.getElem?_map, hv]; rfl) hd k9
  case putfield ix =>
    obtain ⟨kk, nest, ci, j, fs, v, rfl, hl, hw, hv, ho, hf, rfl, rfl, rfl, rfl⟩ := iv_putf hs
    obtain ⟨o1, o2, o3⟩ := okO_f hO (lkp_mem hl)
    refine gg_wr hsz hw (fun q _ _ _ _ _ j0 hj0 hP' hD' hS' k9 => ?_) k
    have e1 : tE cT q (.inr (ci, fs.set j v)) = .inr (ci, (fs.map (tV q)).set j (tV q v)) := by simp [tE, List.map_set]
    cases nest with
    | false => exact va_put hx hb hts (cl_gw o1) (tyF ci) (cl_ty o1) (cl_nm o1) hown hK.1 hP' hD' hS' j0 hj0 (cl_get o1) j o2 (hts _ (List.mem_filter.mpr ⟨o3, rfl⟩)) (fun _ h => h) hf (cl_ty o1 j o2) (okV_ok ho q).1 (okV_ok ho q).2 (by rw [List.length_map]; exact hv) hd (fun H1 locs1 a b c => k9 H1 locs1 (by rw [e1]; exact a) c)
    | true => exact va_putN hx hb hts (cl_gw o1) (tyF ci) (cl_ty o1) (cl_nm o1) hown hK.1 hP' hD' hS' j0 hj0 (cl_get o1) j o2 (nw_use rfl (hK.2 _ (List.mem_filter.mpr ⟨o3, rfl⟩))) (fun _ h => h) hf (cl_ty o1 j o2) (okV_ok ho q).1 (okV_ok ho q).2 (by rw [List.length_map]; exact hv) hd (fun H1 locs1 a b c => k9 H1 locs1 (by rw [e1]; exact a) c)
  case iaload =>
    obtain ⟨i, k0, r, n, f, rfl, hw, rfl, rfl, rfl, rfl, rfl⟩ := iv_iald hs
    refine gg_stk (fun q _ _ _ _ _ hP' _ k9 => ?_) k
    obtain ⟨j0, hj0⟩ := cn_get (cT := cT) (q := q) hw
    exact va_iald hx hb hK.1 hP'.P j0 0 hj0 rfl (hP _ rfl) hd k9
  case baload =>
    obtain ⟨i, k0, r, n, f, rfl, hw, rfl, rfl, rfl, rfl, rfl⟩ := iv_zald hs
    refine gg_stk (fun q _ _ _ _ _ hP' _ k9 => ?_) k
    obtain ⟨j0, hj0⟩ := cn_get (cT := cT) (q := q) hw
    exact va_zald hx hb hK.1 hP'.P j0 2 hj0 rfl (hP _ rfl) hd k9
  case laload =>
    obtain ⟨i, k0, r, n, f, rfl, hw, rfl, rfl, rfl, rfl, rfl⟩ := iv_lald hs
    refine gg_stk (fun q _ _ _ _ _ hP' _ k9 => ?_) k
    obtain ⟨j0, hj0⟩ := cn_get (cT := cT) (q := q) hw
    exact va_lald hx hb hK.1 hP'.P j0 1 hj0 rfl (hP _ rfl) hd k9
  case aaload =>
    obtain ⟨i, k0, r, t, n, f, b, rfl, hw, ht, hf, rfl, rfl, rfl, rfl, rfl⟩ := iv_aald hs
    refine gg_stk (fun q _ _ _ _ _ hP' _ k9 => ?_) k
    obtain ⟨j0, hj0⟩ := cn_get (cT := cT) (q := q) hw
    have hin := hP _ rfl
    have hlt : i.toNatClampNeg < n := Nat.not_le.mp fun q => hin (Or.inr q)
    have hv : va_rf ((fun j => (f j).map q) i.toNatClampNeg) = tV q (.ref b) := by simp [hf, va_rf, tV]
    rcases ht with rfl | rfl
    · refine W.aald (v := tV q (.ref b)) (ty := .object RX0) hx hb (hP'.P j0 _ hj0) ((hK.1.2 3 _ rfl).1 n (fun j => va_rf ((f j).map q))) rfl (fun q => by cases q) (by show ¬ (i < 0 ∨ (arrV _ _ _).slots.size ≤ _); rw [arrV_size]; exact hin) (by show (arrV _ n _).slots[_]? = _; rw [arrV_read _ _ hlt, ← hv]) rfl rfl hd k9
    · refine W.aald (v := tV q (.ref b)) (ty := .array .long) hx hb (hP'.P j0 _ hj0) ((hK.1.2 4 _ rfl).1 n (fun j => va_rf ((f j).map q))) rfl (fun q => by cases q) (by show ¬ (i < 0 ∨ (arrV _ _ _).slots.size ≤ _); rw [arrV_size]; exact hin) (by show (arrV _ n _).slots[_]? = _; rw [arrV_read _ _ hlt, ← hv]) rfl rfl hd k9
  case iastore =>
    obtain ⟨x, i, k0, n, f, rfl, hw, rfl, rfl, rfl, rfl⟩ := iv_iast hs
    exact gg_wr (e1 := .inl (0, n, .inl (upd f i.toNatClampNeg x))) hsz hw (fun q _ _ _ _ _ j0 hj0 hP' hD' hS' k9 => va_iast hx hb hK.1 hP' hD' hS' j0 0 hj0 rfl (hP _ rfl) hd (fun H1 locs1 a b c => k9 H1 locs1 a c)) k
  case bastore =>
    obtain ⟨x, i, k0, n, f, rfl, hw, rfl, rfl, rfl, rfl⟩ := iv_zast hs
    exact gg_wr (e1 := .inl (2, n, .inl (upd f i.toNatClampNeg (vp_nar .boolean x)))) hsz hw (fun q _ _ _ _ _ j0 hj0 hP' hD' hS' k9 => va_zast hx hb hK.1 hP' hD' hS' j0 2 hj0 rfl (hP _ rfl) hd (fun H1 locs1 a b c => k9 H1 locs1 a c)) k
  case lastore =>
    obtain ⟨x, i, k0, n, f, rfl, hw, rfl, rfl, rfl, rfl⟩ := iv_last hs
    exact gg_wr (e1 := .inl (1, n, .inr (.inl (vp_updL f i.toNatClampNeg x)))) hsz hw (fun q _ _ _ _ _ j0 hj0 hP' hD' hS' k9 => va_last hx hb hK.1 hP' hD' hS' j0 1 hj0 rfl (hP _ rfl) hd (fun H1 locs1 a b c => k9 H1 locs1 a c)) k
  case arraylength =>
    obtain ⟨k0, r, t, n, f, rfl, hw, ht, rfl, rfl, rfl, rfl, rfl⟩ := iv_alen hs
    refine gg_stk (fun q _ _ _ _ _ hP' _ k9 => ?_) k
    obtain ⟨j0, hj0⟩ := cn_get (cT := cT) (q := q) hw
    obtain ⟨ty, hty⟩ := tys_get (cT := cT) ht
    exact va_alen hx hb hK.1 hP'.P j0 t hj0 hty (by obtain f | f | f | f | f := f <;> rfl) hd k9
  case ldc ix =>
    dsimp only [aS, h_ldc] at hs
    split at hs
    next v hv => cases hs; exact gg_stk (st' := .int v :: st) (fun q _ _ _ _ _ _ _ kk => lv_ldc hx hb hown (hts _ (okO_c hO (lkp_mem hv))) hd kk) k
    next => cases hs
  case ldc_w ix =>
    dsimp only [aS, h_ldc] at hs
    split at hs
    next v hv => cases hs; exact gg_stk (st' := .int v :: st) (fun q _ _ _ _ _ _ _ kk => lv_ldcw hx hb hown (hts _ (okO_c hO (lkp_mem hv))) hd kk) k
    next => cases hs
  case ldc2_w ix =>
    dsimp only [aS, h_ldc2] at hs
    split at hs
    next v hv => cases hs; exact gg_stk (st' := .long v :: st) (fun q _ _ _ _ _ _ _ kk => lv_ldc2 hx hb hown (hts _ (okO_l hO (lkp_mem hv))) hd kk) k
    next => cases hs
  all_goals (exact absurd hs (by simp [aS]))
end SND2
end
section
/-! ===== calls: a callee's names among the caller's ===== -/
def rn (ρ : List Nat) (B j : Nat) : Nat := ρ.getD j (B + j)
def rV (ρ : List Nat) (B : Nat) : Value → Value := tV (rn ρ B)
def rE (ρ : List Nat) (B : Nat) : va_E → va_E := tE (fun t => t) (rn ρ B)
def rS (ρ : List Nat) (B : Nat) : Nat ⊕ va_E → Nat ⊕ va_E
  | .inl n => .inl n
  | .inr e => .inr (rE ρ B e)
def putL : List Nat → List (Nat ⊕ va_E) → Wd → Wd
  | k :: ks, x :: xs, w => putL ks xs (w.set k x)
  | _, _, w => w
theorem tV_tV (q r : Nat → Nat) (v : Value) : tV q (tV r v) = tV (fun j => q (r j)) v := by cases v <;> rfl
theorem tA_tA (q r : Nat → Nat) (a : vp_A) : tA q (tA r a) = tA (fun j => q (r j)) a := by
  obtain ⟨n, f | f | f | f | f⟩ := a
  · rfl
  · rfl
  · rfl
  · rfl
  · show (n, _) = (n, _)
    congr 5
    funext j
    simp [Option.map_map, Function.comp_def]
theorem tE_rE (cT : Nat → ClassId) (q : Nat → Nat) (ρ : List Nat) (B : Nat) (e : va_E) : tE cT q (rE ρ B e) = tE cT (fun j => q (rn ρ B j)) e := by
  obtain ⟨t, a⟩ | ⟨ci, fs⟩ := e
  · show Sum.inl (cT t, tA q (tA (rn ρ B) a)) = Sum.inl (cT t, tA _ a)
    rw [tA_tA]
  · show Sum.inr (ci, (fs.map (tV (rn ρ B))).map (tV q)) = Sum.inr (ci, fs.map _)
    rw [List.map_map]
    congr 2
    apply List.map_congr_left
    intro v _
    exact tV_tV q _ v
theorem tV_eq {q r : Nat → Nat} (h : ∀ j, q j = r j) (v : Value) : tV q v = tV r v := by
  have : q = r := funext h
  rw [this]
theorem tE_eq {cT : Nat → ClassId} {q r : Nat → Nat} (h : ∀ j, q j = r j) (e : va_E) : tE cT q e = tE cT r e := by
  have : q = r := funext h
  rw [this]
theorem wA_none {w : Wd} {k n : Nat} (h : w[k]? = some (.inl n)) : wA w k = none := by unfold wA; rw [h]
theorem wA_iff {w : Wd} {k : Nat} {e : va_E} : wA w k = some e ↔ w[k]? = some (.inr e) := by
  unfold wA
  constructor
  · intro h
    split at h
    next x hx => cases h; exact hx
    next => cases h
  · intro h; rw [h]
theorem putL_len : ∀ (ks : List Nat) (xs : List (Nat ⊕ va_E)) (w : Wd), (putL ks xs w).length = w.length
  | [], _, w => by unfold putL; rfl
  | k :: ks, [], w => by unfold putL; rfl
  | k :: ks, x :: xs, w => by rw [putL, putL_len ks xs, List.length_set]
theorem putL_out : ∀ (ks : List Nat) (xs : List (Nat ⊕ va_E)) (w : Wd) (k : Nat), k ∉ ks → (putL ks xs w)[k]? = w[k]?
  | [], _, w, k, _ => by unfold putL; rfl
  | a :: ks, [], w, k, _ => by unfold putL; rfl
  | a :: ks, x :: xs, w, k, h => by
    rw [List.mem_cons, not_or] at h
    rw [putL, putL_out ks xs _ k h.2, List.getElem?_set_ne (Ne.symm h.1)]
theorem putL_in : ∀ (ks : List Nat) (xs : List (Nat ⊕ va_E)) (w : Wd) (i k : Nat), ks.Nodup → ks[i]? = some k → k < w.length → i < xs.length → (putL ks xs w)[k]? = xs[i]?
  | [], _, _, i, k, _, h, _, _ => by simp at h
  | a :: ks, [], w, i, k, _, _, _, h => by simp at h
  | a :: ks, x :: xs, w, i, k, hn, hi, hk, hx => by
    rw [List.nodup_cons] at hn
    rw [putL]
    cases i with
    | zero =>
      simp at hi
      subst hi
      rw [putL_out ks xs _ a hn.1, List.getElem?_set_self hk]
      rfl
    | succ i =>
      simp at hi hx
      rw [putL_in ks xs _ i k hn.2 hi (by rw [List.length_set]; exact hk) (by omega)]
      simp
theorem nodup_inj : ∀ (ks : List Nat), ks.Nodup → ∀ (i j a : Nat), ks[i]? = some a → ks[j]? = some a → i = j
  | [], _, i, _, a, h, _ => by simp at h
  | b :: ks, hn, i, j, a, h1, h2 => by
    rw [List.nodup_cons] at hn
    cases i with
    | zero =>
      cases j with
      | zero => rfl
      | succ j =>
        simp at h1 h2
        subst h1
        exact absurd (List.mem_of_getElem? h2) hn.1
    | succ i =>
      cases j with
      | zero =>
        simp at h1 h2
        subst h2
        exact absurd (List.mem_of_getElem? h1) hn.1
      | succ j =>
        simp at h1 h2
        rw [nodup_inj ks hn.2 i j a h1 h2]
/-! ===== the contract of a method ===== -/
def QcOf (E : Option Value → Wd → Prop) (D : va_G) (cT : Nat → ClassId) (q : Nat → Nat) (w : Wd) (sz : Nat) : Array Value → State → Outcome → State → Prop := fun _ st oc t =>
  (∃ (r : Option Value) (q' : Nat → Nat) (w' : Wd), oc = .returned (r.map (tV q')) ∧ E r w' ∧ Ext q w q' w' ∧ RP D cT q' w' t.heap ∧ DP (AF q w sz) q' w') ∧ va_F (AF q w sz) st t
def wsG (y : MethodName) (code : ByteArray) (nL : Nat) (ret : Option FieldType) : List Cond := .code y code nL ret :: gw
def PcB (D : va_G) (cT : Nat → ClassId) (q : Nat → Nat) (w : Wd) (sz : Nat) : State → Prop := fun U => U.heap.size = sz ∧ RP D cT q w U.heap ∧ DP (fun _ => True) q w ∧ KK D cT U
def Runs (l : Launch) (D : va_G) (cT : Nat → ClassId) (y : MethodName) (code : ByteArray) (nL : Nat) (ret : Option FieldType) (fr lo : Nat) (As : List Value) (w : Wd) (E : Option Value → Wd → Prop) : Prop :=
  ∀ (q : Nat → Nat) (sz : Nat), Met l y (wsG y code nL ret) { frames := fr, cells := potC w, slots := potS w, locals := lo } (va_Pc (As.map (tV q)) (PcB D cT q w sz)) (QcOf E D cT q w sz) (potC w) (potS w) (AF q w sz)
theorem blindP {D : va_G} {cT : Nat → ClassId} {q : Nat → Nat} {w : Wd} {sz : Nat} {av : List Value} : FrameBlind (va_Pc av (PcB D cT q w sz)) := by
  intro a U g mk h
  obtain ⟨h0, h1, h2, h3, h4⟩ := h
  exact ⟨h0, h1, h2, h3, KK.same (u := U) (U := U.calling g mk a) rfl h4⟩
section CLL
variable {p : Program} {l : Launch} {e : Env} {R : Room} {s : State} {m : MethodId} {args : Array Value} {below : List Frame} {meth : Method} {c : Code}
variable {D : va_G} {cT : Nat → ClassId} {nL : Nat} {q0 : Nat → Nat} {w0 : Wd} {sz : Nat} {Q : State → Prop} {bc bs : Nat}
theorem gg_run {O : Own} {code : ByteArray} (hO : okO O = true) (X : FX p s m args meth c D cT nL sz O.1 code) : ∀ {is : List (Nat × Instr × Int32)} {pc : Nat} {L : List (Option Value)} {st : List Value} {w : Wd} {P : Prop} {pc' : Nat} {L' : List (Option Value)} {st' : List Value} {w' : Wd}, decs code is = true → aR O is (pc, L, st, w) = some (P, pc', L', st', w') → P →
    GG p l e R s m args below meth c D cT nL q0 w0 sz Q bc bs w' pc' L' st' → GG p l e R s m args below meth c D cT nL q0 w0 sz Q bc bs w pc L st
  | [], pc, L, st, w, P, pc', L', st', w', _, hr, _, k => by cases hr; exact k
  | (a, i, v) :: is, pc, L, st, w, P, pc', L', st', w', hd, hr, hP, k => by
    simp only [decs, List.all_cons, Bool.and_eq_true, decide_eq_true_eq] at hd
    dsimp only [aR] at hr
    split at hr
    next hb =>
      have e1 : pc = a := Nat.eq_of_beq_eq_true hb
      subst e1
      split at hr
      next => cases hr
      next c' h1 =>
        obtain ⟨p1, L1, st1, w1⟩ := c'
        exact gg_step hO X hd.1 h1 (fun a h => by cases h) (gg_run hO X hd.2 hr hP k)
      next p0 c' h1 =>
        obtain ⟨p1, L1, st1, w1⟩ := c'
        split at hr
        next => cases hr
        next P0 c2 h2 =>
          cases hr
          exact gg_step hO X hd.1 h1 (fun a h => by cases h; exact hP.1) (gg_run hO X hd.2 h2 hP.2 k)
    next => cases hr
theorem iv_bu {f : Int32 → Prop} {off off' : Int} {st st' : List Value} {C : Prop} (h : b_un f off st = some (C, off', st')) : ∃ x, st = .int x :: st' ∧ C = f x ∧ off' = off := by
  unfold b_un at h
  split at h
  next => cases h; exact ⟨_, rfl, rfl, rfl⟩
  next => cases h
theorem iv_bb {f : Int32 → Int32 → Prop} {off off' : Int} {st st' : List Value} {C : Prop} (h : b_bin f off st = some (C, off', st')) : ∃ x y, st = .int y :: .int x :: st' ∧ C = f x y ∧ off' = off := by
  unfold b_bin at h
  split at h
  next => cases h; exact ⟨_, _, rfl, rfl, rfl⟩
  next => cases h
theorem gg_br2 {pc tgt : Nat} {L : List (Option Value)} {st st' : List Value} {w : Wd} {C C' : Prop}
    (hW : ∀ (q : Nat → Nat) {H : Heap} {locs : List Loc} {cells slots : Nat} {ls : Array Slot}, (C → W p l e R s m args below meth c H locs cells slots Q (F0 m tgt ls (st'.map (tV q)))) → (C' → W p l e R s m args below meth c H locs cells slots Q (F0 m (pc + 3) ls (st'.map (tV q)))) → W p l e R s m args below meth c H locs cells slots Q (F0 m pc ls (st.map (tV q))))
    (kt : C → GG p l e R s m args below meth c D cT nL q0 w0 sz Q bc bs w tgt L st') (kf : C' → GG p l e R s m args below meth c D cT nL q0 w0 sz Q bc bs w (pc + 3) L st') : GG p l e R s m args below meth c D cT nL q0 w0 sz Q bc bs w pc L st := by
  intro q H locs ls cells slots h1 h2 h3 h4 h5 h6 h7
  exact hW q (fun h => kt h q H locs ls cells slots h1 h2 h3 h4 h5 h6 h7) (fun h => kf h q H locs ls cells slots h1 h2 h3 h4 h5 h6 h7)
/-- a conditional jump -/
theorem gg_br {own : String} {code : ByteArray} (X : FX p s m args meth c D cT nL sz own code) {i : Instr} {pc tgt : Nat} {off : Int} {L : List (Option Value)} {st st' : List Value} {w : Wd} {C : Prop} (hd : decode code pc = .ok (i, 3)) (hs : aB i st = some (C, off, st')) (ht : (pc : Int) + off = (tgt : Int))
    (kt : C → GG p l e R s m args below meth c D cT nL q0 w0 sz Q bc bs w tgt L st') (kf : ¬ C → GG p l e R s m args below meth c D cT nL q0 w0 sz Q bc bs w (pc + 3) L st') : GG p l e R s m args below meth c D cT nL q0 w0 sz Q bc bs w pc L st := by
  obtain ⟨hx, hb, hml, hown, hts, hK, hlk, hsz⟩ := X
  cases i
  case ifCond cd o =>
    cases cd <;> obtain ⟨x, rfl, rfl, rfl⟩ := iv_bu hs
    · exact gg_br2 (fun q _ _ _ _ _ a b => lv_if_eq hx hb hd ht a b) kt kf
    · exact gg_br2 (fun q _ _ _ _ _ a b => lv_if_ne hx hb hd ht a (fun z => b (fun y => y z))) kt kf
    · exact gg_br2 (fun q _ _ _ _ _ a b => lv_if_lt hx hb hd ht a b) kt kf
    · exact gg_br2 (fun q _ _ _ _ _ a b => lv_if_ge hx hb hd ht a b) kt kf
    · exact gg_br2 (fun q _ _ _ _ _ a b => lv_if_gt hx hb hd ht a b) kt kf
    · exact gg_br2 (fun q _ _ _ _ _ a b => lv_if_le hx hb hd ht a b) kt kf
  case if_icmp cd o =>
    cases cd <;> obtain ⟨x, y, rfl, rfl, rfl⟩ := iv_bb hs
    · exact gg_br2 (fun q _ _ _ _ _ a b => lv_icmp_eq hx hb hd ht a b) kt kf
    · exact gg_br2 (fun q _ _ _ _ _ a b => lv_icmp_ne hx hb hd ht a (fun z => b (fun y => y z))) kt kf
    · exact gg_br2 (fun q _ _ _ _ _ a b => lv_icmp_lt hx hb hd ht a b) kt kf
    · exact gg_br2 (fun q _ _ _ _ _ a b => lv_icmp_ge hx hb hd ht a b) kt kf
    · exact gg_br2 (fun q _ _ _ _ _ a b => lv_icmp_gt hx hb hd ht a b) kt kf
    · exact gg_br2 (fun q _ _ _ _ _ a b => lv_icmp_le hx hb hd ht a b) kt kf
  all_goals (exact absurd hs (by simp [aB]))
theorem gg_tsI {own : String} {code : ByteArray} (X : FX p s m args meth c D cT nL sz own code) {dflt lo hi : Int} {offs : Array Int} {len pc tgt k : Nat} {off : Int} {L : List (Option Value)} {st : List Value} {w : Wd} {x : Int32} (hd : decode code pc = .ok (.tableswitch dflt lo hi offs, len)) (hx1 : x.toInt = lo + k) (hk : lo + k ≤ hi) (ho : offs[k]? = some off) (ht : (pc : Int) + off = (tgt : Int))
    (kk : GG p l e R s m args below meth c D cT nL q0 w0 sz Q bc bs w tgt L st) : GG p l e R s m args below meth c D cT nL q0 w0 sz Q bc bs w pc L (.int x :: st) := by
  obtain ⟨hx, hb, hml, hown, hts, hK, hlk, hsz⟩ := X
  exact gg_stk (fun q _ _ _ _ _ _ _ k9 => lv_tableIn hx hb hd (by omega) (by omega) (by rw [hx1, show (lo + (k : Int) - lo).toNat = k by omega]; exact ho) ht k9) kk
theorem gg_tsO {own : String} {code : ByteArray} (X : FX p s m args meth c D cT nL sz own code) {dflt lo hi : Int} {offs : Array Int} {len pc tgt : Nat} {L : List (Option Value)} {st : List Value} {w : Wd} {x : Int32} (hd : decode code pc = .ok (.tableswitch dflt lo hi offs, len)) (hx1 : x.toInt < lo ∨ hi < x.toInt) (ht : (pc : Int) + dflt = (tgt : Int))
    (kk : GG p l e R s m args below meth c D cT nL q0 w0 sz Q bc bs w tgt L st) : GG p l e R s m args below meth c D cT nL q0 w0 sz Q bc bs w pc L (.int x :: st) := by
  obtain ⟨hx, hb, hml, hown, hts, hK, hlk, hsz⟩ := X
  exact gg_stk (fun q _ _ _ _ _ _ _ k9 => lv_tableOut hx hb hd hx1 ht k9) kk
/-- the core of a call -/
theorem gg_call {code : ByteArray} {own : String} (X : FX p s m args meth c D cT nL sz own code) {y : MethodName} {ycode : ByteArray} {ynL fr lo : Nat} {yret : Option FieldType} {As : List Value} {wc : Wd} {E : Option Value → Wd → Prop} (K : Runs l D cT y ycode ynL yret fr lo As wc E)
    {pc : Nat} {L : List (Option Value)} {rest st : List Value} {w : Wd} (ρ : List Nat) (hnd : ρ.Nodup) (hle : wc.length ≤ ρ.length) (hw : (ρ.take wc.length).map (fun k => w[k]?) = wc.map (fun x => some (rS ρ w.length x))) (hst : st = (As.map (rV ρ w.length)).reverse ++ rest)
    (hrun : ∀ (q : Nat → Nat) (H : Heap) (locs : List Loc) (cells slots : Nat) (ls : Array Slot), RP D cT q w H → LQ nL q L ls → cells ≤ bc → slots ≤ bs → (∀ U : State, U.heap = H → s.WarmedH U.vm → va_Pc (As.map (tV (fun i => q (rn ρ w.length i)))) (PcB D cT (fun i => q (rn ρ w.length i)) wc H.size) ((As.map (tV (fun i => q (rn ρ w.length i)))).toArray) U) →
      va_Run p l e R s m args below meth c H locs cells slots (potC wc) (potS wc) (F0 m pc ls (st.map (tV q))) (rest.map (tV q)) (QcOf E D cT (fun i => q (rn ρ w.length i)) wc H.size ((As.map (tV (fun i => q (rn ρ w.length i)))).toArray)) (AF (fun i => q (rn ρ w.length i)) wc H.size))
    (hR : potC wc = 0 ∨ ((∀ k, k < w.length → k ∈ ρ.take wc.length) ∧ (L.all (fun o => match o with | some (.ref j) => (wA w j).isSome | _ => true) && rest.all (fun v => match v with | .ref j => (wA w j).isSome | _ => true)) = true))
    (kk : ∀ (r : Option Value) (wc' : Wd), E r wc' → wc'.length = wc.length → GG p l e R s m args below meth c D cT nL q0 w0 sz Q (bc + potC wc) (bs + potS wc) (putL (ρ.take wc.length) (wc'.map (rS ρ w.length)) w) (pc + 3) L ((r.map (rV ρ w.length)).toList ++ rest)) : GG p l e R s m args below meth c D cT nL q0 w0 sz Q bc bs w pc L st := by
  obtain ⟨hx, hb, hml, hown, hts, hK, hlk, hsz⟩ := X
  intro q H locs ls cells slots h1 h2 h3 h4 h5 h6 h7 T hT XT
  generalize hB : w.length = B at *
  generalize hqc : (fun i => q (rn ρ B i)) = qc at *
  have hqc' : ∀ i, qc i = q (rn ρ B i) := fun i => by rw [← hqc]
  have hrn : ∀ i k, ρ[i]? = some k → rn ρ B i = k := fun i k h => by unfold rn; rw [List.getD_eq_getElem?_getD, h]; rfl
  have hidx : ∀ i, i < wc.length → ∃ k, ρ[i]? = some k := fun i hi => ⟨_, List.getElem?_eq_getElem (by omega)⟩
  have hget : ∀ (i : Nat) (x : Nat ⊕ va_E), wc[i]? = some x → ∃ k, ρ[i]? = some k ∧ w[k]? = some (rS ρ B x) := by
    intro i x hi
    have hl : i < wc.length := (List.getElem?_eq_some_iff.mp hi).1
    obtain ⟨k, hk⟩ := hidx i hl
    have h9 := congrArg (fun z => z[i]?) hw
    simp only [List.getElem?_map, List.getElem?_take, if_pos hl, hk, hi, Option.map_some, Option.some.injEq] at h9
    exact ⟨k, hk, h9⟩
  have hcell : ∀ i e, wA wc i = some e → ∃ k, ρ[i]? = some k ∧ wA w k = some (rE ρ B e) := by
    intro i e he
    obtain ⟨k, hk, hwk⟩ := hget i _ (wA_iff.mp he)
    exact ⟨k, hk, wA_iff.mpr hwk⟩
  have hRPc : RP D cT qc wc H := by
    intro i e he
    obtain ⟨k, hk, hwk⟩ := hcell i e he
    have h9 := h2 k _ hwk
    rw [tE_rE, hqc] at h9
    rw [hqc' i, hrn i k hk]
    exact h9
  have hDPc : DP (fun _ => True) qc wc := by
    refine ⟨fun i j a b ha hb' hab => ?_, fun _ _ _ => trivial⟩
    obtain ⟨k, hk, hwk⟩ := hcell i a ha
    obtain ⟨k2, hk2, hwk2⟩ := hcell j b hb'
    rw [hqc' i, hqc' j, hrn i k hk, hrn j k2 hk2] at hab
    have := h3.1 k k2 _ _ hwk hwk2 hab
    subst this
    exact nodup_inj ρ hnd i j k hk hk2
  obtain ⟨v, st₀, t, T', Lc, e0, X', hL, e1, e2, ⟨⟨r, q'c, w'c, hv, hE, hX, hRP, hDP⟩, hz, hkf⟩, stp⟩ := hrun q H locs cells slots ls h2 h5 h6 h7 (fun U hU hW => by rw [hqc]; exact ⟨rfl, by rw [hU], by rw [hU]; exact hRPc, hDPc, KK.warm hW hK⟩) T hT XT
  rw [hqc] at hX hDP hkf hL
  rw [e0] at hz hkf
  have hv' : v = r.map (tV q'c) := Outcome.returned.inj hv
  have hAA : ∀ a, AF qc wc H.size a → AF q0 w0 sz a := by
    rintro a (⟨i, e, he, rfl⟩ | h)
    · obtain ⟨k, hk, hwk⟩ := hcell i e he
      rw [hqc' i, hrn i k hk]
      exact h3.2 k _ hwk
    · exact Or.inr (by rw [hsz]; exact Nat.le_trans h4.1 h)
  -- the new names
  have hex : ∃ q' : Nat → Nat, (∀ i k, i < wc.length → ρ[i]? = some k → q' k = q'c i) ∧ (∀ k, (¬ ∃ i, i < wc.length ∧ ρ[i]? = some k) → q' k = q k) := by
    refine ⟨fun k => by classical exact if h : ∃ i, i < wc.length ∧ ρ[i]? = some k then q'c (Classical.choose h) else q k, fun i k hi hk => ?_, fun k h => ?_⟩
    · have h : ∃ i, i < wc.length ∧ ρ[i]? = some k := ⟨i, hi, hk⟩
      have h9 := Classical.choose_spec h
      show (if h : ∃ i, i < wc.length ∧ ρ[i]? = some k then q'c (Classical.choose h) else q k) = _
      rw [dif_pos h, nodup_inj ρ hnd _ i k h9.2 hk]
    · show (if h : ∃ i, i < wc.length ∧ ρ[i]? = some k then q'c (Classical.choose h) else q k) = _
      rw [dif_neg h]
  obtain ⟨q', f1, f2⟩ := hex
  have hlt : ∀ i k, i < wc.length → ρ[i]? = some k → k < w.length := by
    intro i k hi hk
    obtain ⟨k2, hk2, h9⟩ := hget i _ (List.getElem?_eq_getElem hi)
    rw [hk] at hk2
    cases hk2
    exact (List.getElem?_eq_some_iff.mp h9).1
  have f3 : ∀ j, q' (rn ρ B j) = q'c j := by
    intro j
    by_cases hj : j < wc.length
    · obtain ⟨k, hk⟩ := hidx j hj
      rw [hrn j k hk]
      exact f1 j k hj hk
    · rw [hX.1 j (Or.inr (by omega)), hqc' j]
      refine f2 _ ?_
      rintro ⟨i, hi, hk⟩
      by_cases hj2 : j < ρ.length
      · rw [hrn j _ (List.getElem?_eq_getElem hj2)] at hk
        have := nodup_inj ρ hnd i j _ hk (List.getElem?_eq_getElem hj2)
        omega
      · have h9 : rn ρ B j = B + j := by unfold rn; rw [List.getD_eq_getElem?_getD, List.getElem?_eq_none (by omega)]; rfl
        rw [h9] at hk
        have := hlt i _ hi hk
        omega
  have f4 : ∀ k e, wA w k = some e → q' k = q k := by
    intro k e he
    by_cases hk : ∃ i, i < wc.length ∧ ρ[i]? = some k
    · obtain ⟨i, hi, hk⟩ := hk
      rw [f1 i k hi hk]
      obtain ⟨k2, hk2, h9⟩ := hget i _ (List.getElem?_eq_getElem hi)
      rw [hk] at hk2
      cases hk2
      rw [wA_iff] at he
      rw [he] at h9
      have h10 : ∃ e', wA wc i = some e' := by
        cases hx9 : wc[i] with
        | inl n => rw [hx9] at h9; cases h9
        | inr e' => exact ⟨e', wA_iff.mpr (by rw [List.getElem?_eq_getElem hi, hx9])⟩
      rw [hX.1 i (Or.inl h10), hqc' i, hrn i k hk]
    · exact f2 k hk
  have f5 : potC wc = 0 → q' = q := by
    intro h0
    funext k
    by_cases hk : ∃ i, i < wc.length ∧ ρ[i]? = some k
    · obtain ⟨i, hi, hk⟩ := hk
      rw [f1 i k hi hk]
      have h10 : ∃ e', wA wc i = some e' := by
        have : ∀ (u : Wd) (i : Nat), potC u = 0 → i < u.length → ∃ e', wA u i = some e' := by
          intro u
          induction u with
          | nil => intro i _ h; simp at h
          | cons a u ih =>
            intro i h hi
            cases a with
            | inl n => simp [potC] at h
            | inr e =>
              cases i with
              | zero => exact ⟨e, rfl⟩
              | succ i =>
                obtain ⟨e', h9⟩ := ih i (by simpa [potC] using h) (by simpa using hi)
                exact ⟨e', by rw [wA_iff] at h9 ⊢; simpa using h9⟩
        exact this wc i h0 hi
      rw [hX.1 i (Or.inl h10), hqc' i, hrn i k hk]
    · exact f2 k hk
  have hksn : (ρ.take wc.length).Nodup := List.Nodup.sublist (List.take_sublist _ _) hnd
  have hksg : ∀ i k, i < wc.length → ρ[i]? = some k → (ρ.take wc.length)[i]? = some k := fun i k hi hk => by rw [List.getElem?_take, if_pos hi, hk]
  have hksm : ∀ k, k ∈ ρ.take wc.length ↔ ∃ i, i < wc.length ∧ ρ[i]? = some k := by
    intro k
    constructor
    · intro h
      obtain ⟨i, hi⟩ := List.getElem?_of_mem h
      rw [List.getElem?_take] at hi
      split at hi
      next h9 => exact ⟨i, h9, hi⟩
      next => cases hi
    · rintro ⟨i, hi, hk⟩
      exact List.mem_of_getElem? (hksg i k hi hk)
  obtain ⟨w', hw'⟩ : ∃ w', putL (ρ.take wc.length) (w'c.map (rS ρ B)) w = w' := ⟨_, rfl⟩
  have win : ∀ i k, i < wc.length → ρ[i]? = some k → w'[k]? = (w'c[i]?).map (rS ρ B) := by
    intro i k hi hk
    rw [← hw', putL_in _ _ _ i k hksn (hksg i k hi hk) (hlt i k hi hk) (by rw [List.length_map, hX.2.2]; exact hi), List.getElem?_map]
  have wout : ∀ k, (¬ ∃ i, i < wc.length ∧ ρ[i]? = some k) → w'[k]? = w[k]? := by
    intro k hk
    rw [← hw', putL_out _ _ _ k (fun h => hk ((hksm k).mp h))]
  have wain : ∀ i k e, i < wc.length → ρ[i]? = some k → wA w' k = some e → ∃ e', wA w'c i = some e' ∧ e = rE ρ B e' := by
    intro i k e hi hk he
    rw [wA_iff, win i k hi hk] at he
    cases hx9 : w'c[i]? with
    | none => rw [hx9] at he; cases he
    | some x =>
      rw [hx9] at he
      cases x with
      | inl n => cases he
      | inr e' =>
        cases he
        exact ⟨e', wA_iff.mpr hx9, rfl⟩
  have waout : ∀ k, (¬ ∃ i, i < wc.length ∧ ρ[i]? = some k) → wA w' k = wA w k := by
    intro k hk
    unfold wA
    rw [wout k hk]
  have hclt : ∀ k e, wA w k = some e → q k < H.size := fun k e he => (h2 k e he).lt
  have hAFn : ∀ k e, (¬ ∃ i, i < wc.length ∧ ρ[i]? = some k) → wA w k = some e → ¬ AF qc wc H.size (q k) := by
    rintro k e hk he (⟨i, e', he', hq9⟩ | h)
    · obtain ⟨k2, hk2, hwk2⟩ := hcell i e' he'
      rw [hqc' i, hrn i k2 hk2] at hq9
      have := h3.1 k2 k _ _ hwk2 he hq9
      subst this
      exact hk ⟨i, wA_lt he', hk2⟩
    · have := hclt k e he
      omega
  have htE : ∀ k e, (¬ ∃ i, i < wc.length ∧ ρ[i]? = some k) → wA w k = some e → tE cT q' e = tE cT q e := by
    intro k e hk he
    rcases hR with h0 | ⟨h0, -⟩
    · rw [f5 h0]
    · exact absurd ((hksm k).mp (h0 k (by rw [← hB]; exact wA_lt he))) hk
  have hvals : (∀ v, some v ∈ L → tV q' v = tV q v) ∧ ∀ v ∈ rest, tV q' v = tV q v := by
    rcases hR with h0 | ⟨-, h0⟩
    · rw [f5 h0]
      exact ⟨fun _ _ => rfl, fun _ _ => rfl⟩
    · rw [Bool.and_eq_true, List.all_eq_true, List.all_eq_true] at h0
      refine ⟨fun v hv => ?_, fun v hv => ?_⟩
      · have h9 := h0.1 _ hv
        cases v with
        | ref j =>
          obtain ⟨e, he⟩ := Option.isSome_iff_exists.mp h9
          show Value.ref (q' j) = Value.ref (q j)
          rw [f4 j e he]
        | _ => rfl
      · have h9 := h0.2 _ hv
        cases v with
        | ref j =>
          obtain ⟨e, he⟩ := Option.isSome_iff_exists.mp h9
          show Value.ref (q' j) = Value.ref (q j)
          rw [f4 j e he]
        | _ => rfl
  have hlv : ∀ (L : List (Option Value)) (i : Nat), (∀ v, some v ∈ L → tV q' v = tV q v) → lvl q' i L = lvl q i L := by
    intro L
    induction L with
    | nil => intro i _; rfl
    | cons a L ih =>
      intro i h
      cases a with
      | none => exact ih (i + 1) (fun v hv => h v (List.mem_cons_of_mem _ hv))
      | some v =>
        show (i, tV q' v) :: _ = (i, tV q v) :: _
        rw [h v List.mem_cons_self, ih (i + 1) (fun v hv => h v (List.mem_cons_of_mem _ hv))]
  have hstk : v.toList ++ rest.map (tV q) = (((r.map (rV ρ B)).toList ++ rest)).map (tV q') := by
    rw [List.map_append, hv']
    congr 1
    · cases r with
      | none => rfl
      | some u =>
        show [tV q'c u] = [tV q' (tV (rn ρ B) u)]
        rw [tV_tV, tV_eq (fun j => f3 j)]
    · exact List.map_congr_left (fun u hu => (hvals.2 u hu).symm)
  have hExt : Ext q w q' w' := by
    refine ⟨fun k hk => ?_, fun k e he => ?_, by rw [← hw', putL_len]⟩
    · rcases hk with ⟨e, he⟩ | hk
      · exact f4 k e he
      · refine f2 k ?_
        rintro ⟨i, hi, hk2⟩
        have := hlt i k hi hk2
        omega
    · by_cases hk : ∃ i, i < wc.length ∧ ρ[i]? = some k
      · obtain ⟨i, hi, hk⟩ := hk
        obtain ⟨k2, hk2, h9⟩ := hget i _ (List.getElem?_eq_getElem hi)
        rw [hk] at hk2
        cases hk2
        rw [wA_iff] at he
        rw [he] at h9
        cases hx9 : wc[i] with
        | inl n => rw [hx9] at h9; cases h9
        | inr e' =>
          obtain ⟨e2, he2⟩ := hX.2.1 i e' (wA_iff.mpr (by rw [List.getElem?_eq_getElem hi, hx9]))
          exact ⟨rE ρ B e2, wA_iff.mpr (by rw [win i k hi hk, wA_iff.mp he2]; rfl)⟩
      · exact ⟨e, by rw [waout k hk]; exact he⟩
  have hRP' : RP D cT q' w' t.heap := by
    intro k e he
    by_cases hk : ∃ i, i < wc.length ∧ ρ[i]? = some k
    · obtain ⟨i, hi, hk⟩ := hk
      obtain ⟨e', he', rfl⟩ := wain i k e hi hk he
      rw [tE_rE, tE_eq f3, f1 i k hi hk]
      exact hRP i e' he'
    · rw [waout k hk] at he
      rw [htE k e hk he, f4 k e he]
      exact (h2 k e he).kept (hkf (q k) (hclt k e he) (hAFn k e hk he))
  have hDP' : DP (AF q0 w0 sz) q' w' := by
    have hsrc : ∀ i e', wA w'c i = some e' → ∀ k2 e2, (¬ ∃ i, i < wc.length ∧ ρ[i]? = some k2) → wA w k2 = some e2 → q'c i ≠ q k2 := by
      intro i e' he' k2 e2 hk2 he2 hq9
      exact hAFn k2 e2 hk2 he2 (hq9 ▸ hDP.2 i e' he')
    refine ⟨fun i j a b ha hb' hab => ?_, fun k e he => ?_⟩
    · by_cases hi : ∃ i', i' < wc.length ∧ ρ[i']? = some i <;> by_cases hj : ∃ j', j' < wc.length ∧ ρ[j']? = some j
      · obtain ⟨i', hi', hi⟩ := hi
        obtain ⟨j', hj', hj⟩ := hj
        obtain ⟨a', ha', -⟩ := wain i' i a hi' hi ha
        obtain ⟨b', hb9, -⟩ := wain j' j b hj' hj hb'
        rw [f1 i' i hi' hi, f1 j' j hj' hj] at hab
        have := hDP.1 i' j' a' b' ha' hb9 hab
        subst this
        rw [hi] at hj
        exact Option.some.inj hj
      · obtain ⟨i', hi', hi⟩ := hi
        obtain ⟨a', ha', -⟩ := wain i' i a hi' hi ha
        rw [waout j hj] at hb'
        rw [f1 i' i hi' hi, f4 j b hb'] at hab
        exact absurd hab (hsrc i' a' ha' j b hj hb')
      · obtain ⟨j', hj', hj⟩ := hj
        obtain ⟨b', hb9, -⟩ := wain j' j b hj' hj hb'
        rw [waout i hi] at ha
        rw [f1 j' j hj' hj, f4 i a ha] at hab
        exact absurd hab.symm (hsrc j' b' hb9 i a hi ha)
      · rw [waout i hi] at ha
        rw [waout j hj] at hb'
        rw [f4 i a ha, f4 j b hb'] at hab
        exact h3.1 i j a b ha hb' hab
    · by_cases hk : ∃ i, i < wc.length ∧ ρ[i]? = some k
      · obtain ⟨i, hi, hk⟩ := hk
        obtain ⟨e', he', -⟩ := wain i k e hi hk he
        rw [f1 i k hi hk]
        exact hAA _ (hDP.2 i e' he')
      · rw [waout k hk] at he
        rw [f4 k e he]
        exact h3.2 k e he
  have kk9 := kk r w'c hE hX.2.2
  rw [hw'] at kk9
  obtain ⟨t2, a1, b1⟩ := kk9 q' t.heap (locs ++ Lc) ls (cells + potC wc) (slots + potS wc) (h1.tr hExt) hRP' hDP'
    ⟨Nat.le_trans h4.1 hz, fun a g1 g2 => by rw [hkf a (Nat.lt_of_lt_of_le g1 h4.1) (fun z => g2 (hAA a z))]; exact h4.2.1 a g1 g2, fun x hx => by
      rcases List.mem_append.mp hx with h | h
      · exact h4.2.2 x h
      · exact hAA _ (hL x h)⟩
    ⟨by rw [hlv L 0 hvals.1]; exact h5.1, h5.2⟩ (by omega) (by omega) T' e1 X'
  refine ⟨t2, stp t2 ?_, b1⟩
  rw [← hstk] at a1
  exact a1
end CLL
end
section
/-! ===== the machine as one relation; its rules ===== -/
abbrev GT : Type := Nat → Nat → Wd → Nat → List (Option Value) → List Value → Prop
def MB (l : Launch) (D : va_G) (cT : Nat → ClassId) (O : Own) (code : ByteArray) (nL fr lo Rc Rs : Nat) (g : GT) : Prop :=
  ∃ (p : Program) (e : Env) (R : Room) (s : State) (m : MethodId) (args : Array Value) (below : List Frame) (meth : Method) (c : Code) (q0 : Nat → Nat) (w0 : Wd) (sz : Nat) (Q : State → Prop),
    FX p s m args meth c D cT nL sz O.1 code ∧ okO O = true ∧ R.frames = fr ∧ R.locals = lo ∧ R.cells = Rc ∧ R.slots = Rs ∧ g = fun bc bs w pc L st => GG p l e R s m args below meth c D cT nL q0 w0 sz Q bc bs w pc L st
def MR (l : Launch) (D : va_G) (cT : Nat → ClassId) (O : Own) (code : ByteArray) (nL fr lo Rc Rs : Nat) (g : GT) (ret : Option FieldType) (E : Option Value → Wd → Prop) : Prop :=
  ∃ (p : Program) (e : Env) (R : Room) (s : State) (m : MethodId) (args : Array Value) (below : List Frame) (meth : Method) (c : Code) (q0 : Nat → Nat) (w0 : Wd) (sz : Nat) (Q : State → Prop),
    FX p s m args meth c D cT nL sz O.1 code ∧ okO O = true ∧ R.frames = fr ∧ R.locals = lo ∧ R.cells = Rc ∧ R.slots = Rs ∧ (g = fun bc bs w pc L st => GG p l e R s m args below meth c D cT nL q0 w0 sz Q bc bs w pc L st) ∧ meth.sig.returnType = ret ∧ Q = MQ below (QcOf E D cT q0 w0 sz) args s Rc Rs (AF q0 w0 sz)
section MRL
variable {l : Launch} {D : va_G} {cT : Nat → ClassId} {O : Own} {code : ByteArray} {nL fr lo Rc Rs : Nat} {g : GT} {ret : Option FieldType} {E : Option Value → Wd → Prop} {bc bs : Nat}
theorem MR.b (M : MR l D cT O code nL fr lo Rc Rs g ret E) : MB l D cT O code nL fr lo Rc Rs g := by
  obtain ⟨p, e, R, s, m, args, below, meth, c, q0, w0, sz, Q, h1, h2, h3, h4, h5, h6, h7, -⟩ := M
  exact ⟨p, e, R, s, m, args, below, meth, c, q0, w0, sz, Q, h1, h2, h3, h4, h5, h6, h7⟩
theorem m_run (M : MB l D cT O code nL fr lo Rc Rs g) {is : List (Nat × Instr × Int32)} {pc : Nat} {L : List (Option Value)} {st : List Value} {w : Wd} {P : Prop} {pc' : Nat} {L' : List (Option Value)} {st' : List Value} {w' : Wd} (hd : decs code is = true) (hr : aR O is (pc, L, st, w) = some (P, pc', L', st', w')) (hP : P) (k : g bc bs w' pc' L' st') : g bc bs w pc L st := by
  obtain ⟨p, e, R, s, m, args, below, meth, c, q0, w0, sz, Q, h1, h2, h3, h4, h5, h6, rfl⟩ := M
  exact gg_run h2 h1 hd hr hP k
theorem m_br (M : MB l D cT O code nL fr lo Rc Rs g) {i : Instr} {pc tgt : Nat} {off : Int} {L : List (Option Value)} {st st' : List Value} {w : Wd} {C : Prop} (hd : decode code pc = .ok (i, 3)) (hs : aB i st = some (C, off, st')) (ht : (pc : Int) + off = (tgt : Int))
    (kt : C → g bc bs w tgt L st') (kf : ¬ C → g bc bs w (pc + 3) L st') : g bc bs w pc L st := by
  obtain ⟨p, e, R, s, m, args, below, meth, c, q0, w0, sz, Q, h1, h2, h3, h4, h5, h6, rfl⟩ := M
  exact gg_br h1 hd hs ht kt kf
theorem m_tsI (M : MB l D cT O code nL fr lo Rc Rs g) {dflt t0 t1 : Int} {offs : Array Int} {len pc tgt : Nat} (k : Nat) {off : Int} {L : List (Option Value)} {st : List Value} {w : Wd} {x : Int32} (hd : decode code pc = .ok (.tableswitch dflt t0 t1 offs, len)) (hx1 : x.toInt = t0 + k) (hk : t0 + k ≤ t1) (ho : offs[k]? = some off) (ht : (pc : Int) + off = (tgt : Int))
    (kk : g bc bs w tgt L st) : g bc bs w pc L (.int x :: st) := by
  obtain ⟨p, e, R, s, m, args, below, meth, c, q0, w0, sz, Q, h1, h2, h3, h4, h5, h6, rfl⟩ := M
  exact gg_tsI h1 hd hx1 hk ho ht kk
theorem m_tsO (M : MB l D cT O code nL fr lo Rc Rs g) {dflt t0 t1 : Int} {offs : Array Int} {len pc tgt : Nat} {L : List (Option Value)} {st : List Value} {w : Wd} {x : Int32} (hd : decode code pc = .ok (.tableswitch dflt t0 t1 offs, len)) (hx1 : x.toInt < t0 ∨ t1 < x.toInt) (ht : (pc : Int) + dflt = (tgt : Int))
    (kk : g bc bs w tgt L st) : g bc bs w pc L (.int x :: st) := by
  obtain ⟨p, e, R, s, m, args, below, meth, c, q0, w0, sz, Q, h1, h2, h3, h4, h5, h6, rfl⟩ := M
  exact gg_tsO h1 hd hx1 ht kk
theorem m_widen (M : MB l D cT O code nL fr lo Rc Rs g) {bc' bs' pc : Nat} {L : List (Option Value)} {st : List Value} {w : Wd} (h1 : bc ≤ bc') (h2 : bs ≤ bs') (k : g bc' bs' w pc L st) : g bc bs w pc L st := by
  obtain ⟨p, e, R, s, m, args, below, meth, c, q0, w0, sz, Q, -, -, -, -, -, -, rfl⟩ := M
  exact fun q H locs ls cells slots a1 a2 a3 a4 a5 a6 a7 => k q H locs ls cells slots a1 a2 a3 a4 a5 (by omega) (by omega)
/-! ends -/
theorem m_iret (M : MR l D cT O code nL fr lo Rc Rs g (some .int) E) {pc : Nat} {L : List (Option Value)} {w : Wd} {x : Int32} (hd : decode code pc = .ok (.ireturn, 1)) (hc : bc ≤ Rc) (hs : bs ≤ Rs) (h : E (some (.int x)) w) : g bc bs w pc L [.int x] := by
  obtain ⟨p, e, R, s, m, args, below, meth, c, q0, w0, sz, Q, ⟨hx, hb, hml, hown, hts, hK, hlk, hsz⟩, h2, h3, h4, h5, h6, rfl, hr, rfl⟩ := M
  subst h5; subst h6; subst hsz
  intro q H locs ls cells slots a1 a2 a3 a4 a5 a6 a7
  refine W.widen (k := R.cells) (n := R.slots) (by omega) (by omega) ?_
  exact W.iret hx hb hr (fun t ht hW => ⟨⟨some (.int x), q, w, rfl, h, a1, by rw [ht]; exact a2, a3⟩, a4.F ht⟩) a4.2.2 hd hlk
theorem m_zret (M : MR l D cT O code nL fr lo Rc Rs g (some .boolean) E) {pc : Nat} {L : List (Option Value)} {w : Wd} {x : Int32} (hd : decode code pc = .ok (.ireturn, 1)) (hz : x = 0 ∨ x = 1) (hc : bc ≤ Rc) (hs : bs ≤ Rs) (h : E (some (.int x)) w) : g bc bs w pc L [.int x] := by
  obtain ⟨p, e, R, s, m, args, below, meth, c, q0, w0, sz, Q, ⟨hx, hb, hml, hown, hts, hK, hlk, hsz⟩, h2, h3, h4, h5, h6, rfl, hr, rfl⟩ := M
  subst h5; subst h6; subst hsz
  intro q H locs ls cells slots a1 a2 a3 a4 a5 a6 a7
  refine W.widen (k := R.cells) (n := R.slots) (by omega) (by omega) ?_
  exact W.zret hx hb hr (by rcases hz with rfl | rfl <;> rfl) (fun t ht hW => ⟨⟨some (.int x), q, w, rfl, h, a1, by rw [ht]; exact a2, a3⟩, a4.F ht⟩) a4.2.2 hd hlk
theorem m_lret (M : MR l D cT O code nL fr lo Rc Rs g (some .long) E) {pc : Nat} {L : List (Option Value)} {w : Wd} {x : Int64} (hd : decode code pc = .ok (.lreturn, 1)) (hc : bc ≤ Rc) (hs : bs ≤ Rs) (h : E (some (.long x)) w) : g bc bs w pc L [.long x] := by
  obtain ⟨p, e, R, s, m, args, below, meth, c, q0, w0, sz, Q, ⟨hx, hb, hml, hown, hts, hK, hlk, hsz⟩, h2, h3, h4, h5, h6, rfl, hr, rfl⟩ := M
  subst h5; subst h6; subst hsz
  intro q H locs ls cells slots a1 a2 a3 a4 a5 a6 a7
  refine W.widen (k := R.cells) (n := R.slots) (by omega) (by omega) ?_
  exact W.lret hx hb hr (fun t ht hW => ⟨⟨some (.long x), q, w, rfl, h, a1, by rw [ht]; exact a2, a3⟩, a4.F ht⟩) a4.2.2 hd hlk
theorem m_vret (M : MR l D cT O code nL fr lo Rc Rs g none E) {pc : Nat} {L : List (Option Value)} {w : Wd} (hd : decode code pc = .ok (.return_, 1)) (hc : bc ≤ Rc) (hs : bs ≤ Rs) (h : E none w) : g bc bs w pc L [] := by
  obtain ⟨p, e, R, s, m, args, below, meth, c, q0, w0, sz, Q, ⟨hx, hb, hml, hown, hts, hK, hlk, hsz⟩, h2, h3, h4, h5, h6, rfl, hr, rfl⟩ := M
  subst h5; subst h6; subst hsz
  intro q H locs ls cells slots a1 a2 a3 a4 a5 a6 a7
  refine W.widen (k := R.cells) (n := R.slots) (by omega) (by omega) ?_
  exact W.vret hx hb hr (fun t ht hW => ⟨⟨none, q, w, rfl, h, a1, by rw [ht]; exact a2, a3⟩, a4.F ht⟩) a4.2.2 hd hlk
theorem m_aret {ty : FieldType} (M : MR l D cT O code nL fr lo Rc Rs g (some ty) E) (hty : (∃ n, ty = FieldType.object n) ∨ ∃ t : FieldType, ty = FieldType.array t) {pc : Nat} {L : List (Option Value)} {w : Wd} {k : Nat} (hd : decode code pc = .ok (.areturn, 1)) (hc : bc ≤ Rc) (hs : bs ≤ Rs) (h : E (some (.ref k)) w) : g bc bs w pc L [.ref k] := by
  obtain ⟨p, e, R, s, m, args, below, meth, c, q0, w0, sz, Q, ⟨hx, hb, hml, hown, hts, hK, hlk, hsz⟩, h2, h3, h4, h5, h6, rfl, hr, rfl⟩ := M
  subst h5; subst h6; subst hsz
  intro q H locs ls cells slots a1 a2 a3 a4 a5 a6 a7
  refine W.widen (k := R.cells) (n := R.slots) (by omega) (by omega) ?_
  exact W.aret (Qc := QcOf E D cT q0 w0 s.heap.size) hx hb hr hty (v := .ref (q k)) (Or.inr ⟨_, rfl⟩) (fun t ht hW => ⟨⟨some (.ref k), q, w, rfl, h, a1, by rw [ht]; exact a2, a3⟩, a4.F ht⟩) a4.2.2 hd hlk
end MRL
/-! ===== from a walk to the contract ===== -/
def entL : List Value → List (Option Value)
  | [] => []
  | .long x :: r => some (.long x) :: none :: entL r
  | v :: r => some v :: entL r
def ent (n : Nat) (As : List Value) : List (Option Value) := entL As ++ List.replicate (n - (entL As).length) none
def okArg : Value → Bool
  | .int _ => true
  | .long _ => true
  | .ref _ => true
  | .null => true
  | _ => false
theorem entL_len : ∀ As : List Value, As.all okArg = true → (lg_sl As).length = (entL As).length
  | [], _ => rfl
  | v :: r, h => by
    rw [List.all_cons, Bool.and_eq_true] at h
    have ih := entL_len r h.2
    cases v with
    | int x => show (lg_sl r).length + 1 = (entL r).length + 1; rw [ih]
    | ref x => show (lg_sl r).length + 1 = (entL r).length + 1; rw [ih]
    | null => show (lg_sl r).length + 1 = (entL r).length + 1; rw [ih]
    | long x => show (lg_sl r).length + 1 + 1 = (entL r).length + 1 + 1; rw [ih]
    | _ => exact nomatch h.1
theorem entL_mem (q : Nat → Nat) : ∀ (As : List Value) (i : Nat), As.all okArg = true → ∀ x ∈ lvl q i (entL As), x ∈ lv_args i (As.map (tV q))
  | [], i, _, x, hx => by cases hx
  | v :: r, i, h, x, hx => by
    rw [List.all_cons, Bool.and_eq_true] at h
    cases v with
    | int z =>
      rcases List.mem_cons.mp (show x ∈ (i, tV q (.int z)) :: lvl q (i + 1) (entL r) from hx) with h1 | h1
      · subst h1; exact List.mem_cons_self
      · exact List.mem_cons_of_mem _ (entL_mem q r (i + 1) h.2 x h1)
    | ref z =>
      rcases List.mem_cons.mp (show x ∈ (i, tV q (.ref z)) :: lvl q (i + 1) (entL r) from hx) with h1 | h1
      · subst h1; exact List.mem_cons_self
      · exact List.mem_cons_of_mem _ (entL_mem q r (i + 1) h.2 x h1)
    | null =>
      rcases List.mem_cons.mp (show x ∈ (i, tV q .null) :: lvl q (i + 1) (entL r) from hx) with h1 | h1
      · subst h1; exact List.mem_cons_self
      · exact List.mem_cons_of_mem _ (entL_mem q r (i + 1) h.2 x h1)
    | long z =>
      rcases List.mem_cons.mp (show x ∈ (i, tV q (.long z)) :: lvl q (i + 2) (entL r) from hx) with h1 | h1
      · subst h1; exact List.mem_cons_self
      · exact List.mem_cons_of_mem _ (entL_mem q r (i + 2) h.2 x h1)
    | _ => exact nomatch h.1
theorem lvl_rep (q : Nat → Nat) : ∀ (L : List (Option Value)) (i n : Nat), lvl q i (L ++ List.replicate n none) = lvl q i L
  | [], i, n => by
    induction n generalizing i with
    | zero => rfl
    | succ n ih => exact ih (i + 1)
  | none :: L, i, n => lvl_rep q L (i + 1) n
  | some v :: L, i, n => by
    exact congrArg ((i, tV q v) :: ·) (lvl_rep q L (i + 1) n)
theorem okArg_t (q : Nat → Nat) (As : List Value) (h : As.all okArg = true) : (As.map (tV q)).all okArg = true := by
  rw [List.all_map]
  rw [List.all_eq_true] at h ⊢
  intro v hv
  have := h v hv
  cases v <;> first | rfl | exact this
theorem entL_t (q : Nat → Nat) : ∀ As : List Value, (entL (As.map (tV q))).length = (entL As).length
  | [] => rfl
  | v :: r => by
    have ih := entL_t q r
    cases v <;> simp [entL, tV, ih]
theorem LQ.ofArgs {q : Nat → Nat} {As : List Value} {n : Nat} (h : As.all okArg = true) (hn : (entL As).length ≤ n) : LQ n q (ent n As) ((lg_sl (As.map (tV q)) ++ List.replicate (n - (lg_sl (As.map (tV q))).length) Slot.unset).toArray) := by
  have e : (lg_sl (As.map (tV q))).length = (entL As).length := by rw [entL_len _ (okArg_t q As h), entL_t]
  have h1 := lv_entry (As.map (tV q)) (n := n) (by rw [e]; exact hn)
  refine ⟨⟨h1.1, h1.2.1, fun x hx => h1.2.2 x ?_⟩, by unfold ent; rw [List.length_append, List.length_replicate]; omega⟩
  unfold ent at hx
  rw [lvl_rep] at hx
  exact entL_mem q As 0 h x hx
theorem runs_of {l : Launch} {D : va_G} {cT : Nat → ClassId} (O : Own) {y : MethodName} {code : ByteArray} {nL : Nat} {ret : Option FieldType} {fr lo : Nat} {As : List Value} {w : Wd} {E : Option Value → Wd → Prop} (hO : okO O = true) (hy : plainFor y = true) (hyc : y.cls = O.1) (hA : As.all okArg = true) (hn : (entL As).length ≤ nL)
    (body : ∀ g : GT, MR l D cT O code nL fr lo (potC w) (potS w) g ret E → g 0 0 w 0 (ent nL As) []) : Runs l D cT y code nL ret fr lo As w E := by
  intro q sz
  refine va_MetF (cc := code) (maxL := nL) (ret := ret) (ws' := gw) hy rfl ?_
  intro p e s m args below meth c s₁ B hml hv
  obtain ⟨rfl, hsz, hP, hD0, hK⟩ := hv
  have hts := atoms_spec (ws := wsG y code nL ret) B.pre
  have hown : s.vm.findClass O.1 = some m.cls := hyc ▸ findClass_of_methodNamed B.named
  have hFX : FX p s m (As.map (tV q)).toArray meth c D cT nL sz O.1 code := ⟨B.exec, B.bytes, hml, hown, fun w hw => hts w (List.mem_cons_of_mem _ hw), hK, B.notSynchronized, hsz.symm⟩
  have K := body _ ⟨p, e, (headSpec (wsG y code nL ret) { frames := fr, cells := potC w, slots := potS w, locals := lo }).room, s, m, (As.map (tV q)).toArray, below, meth, c, q, w, sz, _, hFX, hO, rfl, rfl, rfl, rfl, rfl, B.returns, rfl⟩
  rw [lg_entry_eq]
  refine K q s.heap [] _ 0 0 Ext.rf hP ⟨hD0.1, fun k e9 h9 => Or.inl ⟨k, e9, h9, rfl⟩⟩ va_S.rf (LQ.ofArgs hA hn) (Nat.le_refl _) (Nat.le_refl _)
end
section
/-! ===== calls of the five kinds ===== -/
def EQ (r : Option Value) (w : Wd) : Option Value → Wd → Prop := fun a b => a = r ∧ b = w
def okY (y : MethodName) (n : Nat) : Bool := decide (y.cls ≠ "java/lang/invoke/MethodHandle") && (decide (y.cls ≠ "java/lang/invoke/VarHandle") && decide ((parseMethodDescriptor y.desc).map (fun d => d.parameters.length) = some n))
theorem okY_use {y : MethodName} {n : Nat} (h : okY y n = true) : y.cls ≠ "java/lang/invoke/MethodHandle" ∧ y.cls ≠ "java/lang/invoke/VarHandle" ∧ (parseMethodDescriptor y.desc).map (fun d => d.parameters.length) = some n := by
  simp only [okY, Bool.and_eq_true, decide_eq_true_eq] at h
  exact h
/-- what the tables say of an instance method that is called -/
def CV (y : MethodName) (code : ByteArray) (nL : Nat) (ret : Option FieldType) (n ci : Nat) : Prop := y.cls = clR ci ∧ ci < 5 ∧ okY y n = true ∧ Cond.instanceMethod y ∈ gw ∧ Cond.selects (clR ci) y y ∈ gw ∧ Cond.initialized (clR ci) ∈ gw ∧ Cond.code y code nL ret ∈ gw
def CS (y : MethodName) (code : ByteArray) (nL : Nat) (ret : Option FieldType) (n : Nat) : Prop := okY y n = true ∧ Cond.static y ∈ gw ∧ Cond.initialized y.cls ∈ gw ∧ Cond.code y code nL ret ∈ gw
def CI (y : MethodName) (code : ByteArray) (nL : Nat) (n : Nat) : Prop := y.name = "<init>" ∧ okY y n = true ∧ Cond.instanceMethod y ∈ gw ∧ Cond.initialized y.cls ∈ gw ∧ Cond.code y code nL none ∈ gw
theorem lw_t {w : Cond} (h : w ∈ tables_1) : w ∈ lw_tbl := List.mem_append_right _ h
theorem t_1 {w : Cond} (i : Nat) (h : tables_1_1[i]? = some w) : w ∈ lw_tbl := lw_t (List.mem_append_left _ (List.mem_of_getElem? h))
theorem t_2 {w : Cond} (i : Nat) (h : tables_1_2[i]? = some w) : w ∈ lw_tbl := lw_t (List.mem_append_right _ (List.mem_append_left _ (List.mem_of_getElem? h)))
theorem t_3 {w : Cond} (i : Nat) (h : tables_1_3[i]? = some w) : w ∈ lw_tbl := lw_t (List.mem_append_right _ (List.mem_append_right _ (List.mem_append_left _ (List.mem_of_getElem? h))))
theorem t_4 {w : Cond} (i : Nat) (h : tables_1_4[i]? = some w) : w ∈ lw_tbl := lw_t (List.mem_append_right _ (List.mem_append_right _ (List.mem_append_right _ (List.mem_append_left _ (List.mem_of_getElem? h)))))
theorem t_5 {w : Cond} (i : Nat) (h : tables_1_5[i]? = some w) : w ∈ lw_tbl := lw_t (List.mem_append_right _ (List.mem_append_right _ (List.mem_append_right _ (List.mem_append_right _ (List.mem_append_left _ (List.mem_of_getElem? h))))))
theorem t_6 {w : Cond} (i : Nat) (h : tables_1_6[i]? = some w) : w ∈ lw_tbl := lw_t (List.mem_append_right _ (List.mem_append_right _ (List.mem_append_right _ (List.mem_append_right _ (List.mem_append_right _ (List.mem_of_getElem? h))))))
theorem t_s {q : MethodName × Nat} (h : q ∈ lw_privs) : Cond.selects q.1.cls q.1 q.1 ∈ lw_tbl := List.mem_append_left _ (List.mem_map.mpr ⟨q, h, rfl⟩)
theorem s_1 {q : MethodName × Nat} (i : Nat) (h : lw_privs_1[i]? = some q) : Cond.selects q.1.cls q.1 q.1 ∈ lw_tbl := t_s (List.mem_append_left _ (List.mem_of_getElem? h))
theorem s_2 {q : MethodName × Nat} (i : Nat) (h : lw_privs_2[i]? = some q) : Cond.selects q.1.cls q.1 q.1 ∈ lw_tbl := t_s (List.mem_append_right _ (List.mem_append_left _ (List.mem_of_getElem? h)))
theorem s_3 {q : MethodName × Nat} (i : Nat) (h : lw_privs_3[i]? = some q) : Cond.selects q.1.cls q.1 q.1 ∈ lw_tbl := t_s (List.mem_append_right _ (List.mem_append_right _ (List.mem_append_left _ (List.mem_of_getElem? h))))
theorem s_4 {q : MethodName × Nat} (i : Nat) (h : lw_privs_4[i]? = some q) : Cond.selects q.1.cls q.1 q.1 ∈ lw_tbl := t_s (List.mem_append_right _ (List.mem_append_right _ (List.mem_append_right _ (List.mem_append_left _ (List.mem_of_getElem? h)))))
theorem s_5 {q : MethodName × Nat} (i : Nat) (h : lw_privs_5[i]? = some q) : Cond.selects q.1.cls q.1 q.1 ∈ lw_tbl := t_s (List.mem_append_right _ (List.mem_append_right _ (List.mem_append_right _ (List.mem_append_right _ (List.mem_append_left _ (List.mem_of_getElem? h))))))
theorem s_6 {q : MethodName × Nat} (i : Nat) (h : lw_privs_6[i]? = some q) : Cond.selects q.1.cls q.1 q.1 ∈ lw_tbl := t_s (List.mem_append_right _ (List.mem_append_right _ (List.mem_append_right _ (List.mem_append_right _ (List.mem_append_right _ (List.mem_append_left _ (List.mem_of_getElem? h)))))))
theorem s_7 {q : MethodName × Nat} (i : Nat) (h : lw_privs_7[i]? = some q) : Cond.selects q.1.cls q.1 q.1 ∈ lw_tbl := t_s (List.mem_append_right _ (List.mem_append_right _ (List.mem_append_right _ (List.mem_append_right _ (List.mem_append_right _ (List.mem_append_right _ (List.mem_of_getElem? h)))))))
theorem mI {w : Cond} (h : w ∈ lw_tbl) (hg : goodWord w = true) : w ∈ gw := List.mem_filter.mpr ⟨h, hg⟩
theorem mN {w : Cond} (h : w ∈ lw_tbl) (hg : nw_is w = true) : w ∈ nw := List.mem_filter.mpr ⟨h, hg⟩
theorem gwG {ws : List Cond} (h : ∀ w ∈ ws, w ∈ gw) : GoodIn gw ws := fun w hw => ⟨h w hw, good_of_word (List.mem_filter.mp (h w hw)).2⟩
theorem wsG_gw {y : MethodName} {code : ByteArray} {nL : Nat} {ret : Option FieldType} (h : Cond.code y code nL ret ∈ gw) : ∀ w ∈ wsG y code nL ret, w ∈ gw := by
  intro w hw
  rcases List.mem_cons.mp hw with rfl | hw
  · exact h
  · exact hw
/-- the callee's own object at name 0 -/
theorem rcv_of {D : va_G} {cT : Nat → ClassId} {s : State} {q : Nat → Nat} {w wc : Wd} {H : Heap} {ρ : List Nat} {ci : Nat} {fs : List Value} (hci : ci < 5) (hle : wc.length ≤ ρ.length) (hw : (ρ.take wc.length).map (fun k => w[k]?) = wc.map (fun x => some (rS ρ w.length x))) (h0 : wc[0]? = some (.inr (.inr (ci, fs)))) (hP : RP D cT q w H) (hK : KK D cT s) : ∃ cellB : Cell, H[q (rn ρ w.length 0)]? = some cellB ∧ cellB.vm.isStatics = false ∧ s.vm.findClass (clR ci) = some cellB.cls := by
  have hl : 0 < wc.length := (List.getElem?_eq_some_iff.mp h0).1
  have hk : ρ[0]? = some ρ[0] := List.getElem?_eq_getElem (by omega)
  have h9 := congrArg (fun z => z[0]?) hw
  simp only [List.getElem?_map, List.getElem?_take, if_pos hl, hk, h0, Option.map_some, Option.some.injEq] at h9
  have hr : rn ρ w.length 0 = ρ[0] := by unfold rn; rw [List.getD_eq_getElem?_getD, hk]; rfl
  have h2 := hP ρ[0] _ (wA_iff.mpr h9)
  rw [hr]
  exact va_recv (ws := [(q ρ[0], tE cT q (rE ρ w.length (.inr (ci, fs))))]) (q0 := 0) hK.1 (fun k x hx => by
    have hz : k < 1 := (List.getElem?_eq_some_iff.mp hx).1
    rw [show k = 0 by omega] at hx
    cases hx
    exact h2) (cl_get hci) rfl
theorem cats (q : Nat → Nat) (r : List Value) : ((r.map (tV q)).map fun v => v.category).sum = (r.map fun v => v.category).sum := by
  rw [List.map_map]
  congr 1
  apply List.map_congr_left
  intro v _
  exact tV_cat q v
theorem stk_eq {q : Nat → Nat} {ρ : List Nat} {B : Nat} {As rest st : List Value} (h : st = (As.map (rV ρ B)).reverse ++ rest) : st.map (tV q) = (As.map (tV (fun i => q (rn ρ B i)))).reverse ++ rest.map (tV q) := by
  rw [h, List.map_append, List.map_reverse, List.map_map]
  congr 2
  apply List.map_congr_left
  intro v _
  exact tV_tV q _ v
def rfB (w : Wd) (L : List (Option Value)) (rest : List Value) : Bool := (L.all (fun o => match o with | some (.ref j) => (wA w j).isSome | _ => true) && rest.all (fun v => match v with | .ref j => (wA w j).isSome | _ => true))
section MCL
variable {l : Launch} {D : va_G} {cT : Nat → ClassId} {O : Own} {code : ByteArray} {nL fr lo Rc Rs : Nat} {g : GT} {bc bs : Nat}
variable {y : MethodName} {ycode : ByteArray} {ynL yfr ylo : Nat} {yret : Option FieldType} {As : List Value} {wc : Wd} {E : Option Value → Wd → Prop}
variable {pc ix : Nat} {L : List (Option Value)} {rest st : List Value} {w : Wd}
theorem m_cV (M : MB l D cT O code nL fr lo Rc Rs g) (K : Runs l D cT y ycode ynL yret yfr ylo (.ref 0 :: As) wc E) {ci : Nat} {fs : List Value} (hy : CV y ycode ynL yret As.length ci) (hl : Cond.methodLink O.1 ix y ∈ gw ∨ Cond.methodLinkNest O.1 ix y "BackByTwice" ∈ nw) (hd : decode code pc = .ok (.invokevirtual ix, 3))
    (ρ : List Nat) (hnd : ρ.Nodup) (hle : wc.length ≤ ρ.length) (hw : (ρ.take wc.length).map (fun k => w[k]?) = wc.map (fun x => some (rS ρ w.length x))) (hst : st = ((.ref 0 :: As).map (rV ρ w.length)).reverse ++ rest) (h0 : wc[0]? = some (.inr (.inr (ci, fs)))) (hcat : (rest.map fun v => v.category).sum ≤ 8) (hroom : yfr + 1 ≤ fr ∧ 8 + (ynL + 11) + ylo ≤ lo) (hbud : bc + potC wc ≤ Rc ∧ bs + potS wc ≤ Rs)
    (hR : potC wc = 0 ∨ ((∀ k, k < w.length → k ∈ ρ.take wc.length) ∧ rfB w L rest = true))
    (kk : ∀ (r : Option Value) (wc' : Wd), E r wc' → wc'.length = wc.length → g (bc + potC wc) (bs + potS wc) (putL (ρ.take wc.length) (wc'.map (rS ρ w.length)) w) (pc + 3) L ((r.map (rV ρ w.length)).toList ++ rest)) : g bc bs w pc L st := by
  obtain ⟨p, e, R, s, m, args, below, meth, c, q0, w0, sz, Q, X, hO, h3, h4, h5, h6, rfl⟩ := M
  obtain ⟨hx, hb, hml, hown, hts, hK, hlk, hsz⟩ := id X
  obtain ⟨hyc, hci, hyk, y1, y2, y3, y4⟩ := hy
  refine gg_call X K ρ hnd hle hw hst ?_ hR kk
  intro q H locs cells slots ls hP hL hc hs hPc
  have hrv := rcv_of hci hle hw h0 hP hK
  have hS : CallFix p m c code nL s args gw O.1 := ⟨hx, hb, hml, hown, hts⟩
  have hp : PreV s H (clR ci) (q (rn ρ w.length 0)) (va_Pc ((Value.ref 0 :: As).map (tV (fun i => q (rn ρ w.length i)))) (PcB D cT (fun i => q (rn ρ w.length i)) wc H.size)) (As.map (tV (fun i => q (rn ρ w.length i)))) := ⟨blindP, hrv, hPc⟩
  have e1 : st.map (tV q) = (As.map (tV (fun i => q (rn ρ w.length i)))).reverse ++ .ref (q (rn ρ w.length 0)) :: rest.map (tV q) := by
    rw [stk_eq hst]
    simp [tV]
  rw [e1]
  rcases hl with hl | hl
  · have cw := cwV (R := R) (own := O.1) (index := ix) (C := clR ci) (rm := { frames := yfr, cells := potC wc, slots := potS wc, locals := ylo }) (mc := potC wc) (ms := potS wc) As.length hts (gwG (ws := wsV O.1 ix (clR ci) y (wsG y ycode ynL yret)) (fun w hw => by
      rcases List.mem_append.mp hw with h | h
      · simp only [List.mem_cons, List.not_mem_nil, or_false] at h
        rcases h with rfl | rfl | rfl | rfl <;> assumption
      · exact wsG_gw y4 w h)) rfl rfl rfl ⟨hyc, okY_use hyk⟩ (by rw [h3, h4]; exact hroom)
    exact va_runV hS (K _ _) cw hp rfl (by rw [List.length_map]) hL.1.1 rfl (lv_room (by rw [cats]; exact hcat)) hd (by rw [h5, h6]; exact ⟨by omega, by omega⟩)
  · have cw := va_cnB (R := R) (own := O.1) (host := "BackByTwice") (index := ix) (ws := wsG y ycode ynL yret) (rm := { frames := yfr, cells := potC wc, slots := potS wc, locals := ylo }) (mc := potC wc) (ms := potS wc) As.length hts (gwG (wsG_gw y4)) rfl rfl rfl (hK.2 _ hl) (by rw [hyc]; exact hts _ y3) (okY_use hyk) (by rw [h3, h4]; exact hroom)
    exact va_runVN hS (K _ _) ⟨cw, hts _ y1, hts _ y2⟩ hp rfl (by rw [List.length_map]) hL.1.1 rfl (lv_room (by rw [cats]; exact hcat)) hd (by rw [h5, h6]; exact ⟨by omega, by omega⟩)
theorem m_cS (M : MB l D cT O code nL fr lo Rc Rs g) (K : Runs l D cT y ycode ynL yret yfr ylo As wc E) (hy : CS y ycode ynL yret As.length) (hl : Cond.methodLink O.1 ix y ∈ gw ∨ Cond.methodLinkNest O.1 ix y "BackByTwice" ∈ nw) (hd : decode code pc = .ok (.invokestatic ix, 3))
    (ρ : List Nat) (hnd : ρ.Nodup) (hle : wc.length ≤ ρ.length) (hw : (ρ.take wc.length).map (fun k => w[k]?) = wc.map (fun x => some (rS ρ w.length x))) (hst : st = (As.map (rV ρ w.length)).reverse ++ rest) (hcat : (rest.map fun v => v.category).sum ≤ 8) (hroom : yfr + 1 ≤ fr ∧ 8 + (ynL + 11) + ylo ≤ lo) (hbud : bc + potC wc ≤ Rc ∧ bs + potS wc ≤ Rs)
    (hR : potC wc = 0 ∨ ((∀ k, k < w.length → k ∈ ρ.take wc.length) ∧ rfB w L rest = true))
    (kk : ∀ (r : Option Value) (wc' : Wd), E r wc' → wc'.length = wc.length → g (bc + potC wc) (bs + potS wc) (putL (ρ.take wc.length) (wc'.map (rS ρ w.length)) w) (pc + 3) L ((r.map (rV ρ w.length)).toList ++ rest)) : g bc bs w pc L st := by
  obtain ⟨p, e, R, s, m, args, below, meth, c, q0, w0, sz, Q, X, hO, h3, h4, h5, h6, rfl⟩ := M
  obtain ⟨hx, hb, hml, hown, hts, hK, hlk, hsz⟩ := id X
  obtain ⟨hyk, y2, y3, y4⟩ := hy
  refine gg_call X K ρ hnd hle hw hst ?_ hR kk
  intro q H locs cells slots ls hP hL hc hs hPc
  have hS : CallFix p m c code nL s args gw O.1 := ⟨hx, hb, hml, hown, hts⟩
  have hp : PreS s H (va_Pc (As.map (tV (fun i => q (rn ρ w.length i)))) (PcB D cT (fun i => q (rn ρ w.length i)) wc H.size)) (As.map (tV (fun i => q (rn ρ w.length i)))) := ⟨blindP, hPc⟩
  rw [stk_eq hst]
  rcases hl with hl | hl
  · have cw := va_cwS (R := R) (own := O.1) (index := ix) (rm := { frames := yfr, cells := potC wc, slots := potS wc, locals := ylo }) (mc := potC wc) (ms := potS wc) As.length hts (gwG (ws := va_wsS O.1 ix y (wsG y ycode ynL yret)) (fun w hw => by
      rcases List.mem_append.mp hw with h | h
      · simp only [List.mem_cons, List.not_mem_nil, or_false] at h
        rcases h with rfl | rfl | rfl <;> assumption
      · exact wsG_gw y4 w h)) rfl rfl rfl (okY_use hyk) (by rw [h3, h4]; exact hroom)
    exact va_runS hS (K _ _) cw hp rfl (by rw [List.length_map]) hL.1.1 rfl (lv_room (by rw [cats]; exact hcat)) hd (by rw [h5, h6]; exact ⟨by omega, by omega⟩)
  · have cw := va_cnB (R := R) (own := O.1) (host := "BackByTwice") (index := ix) (ws := wsG y ycode ynL yret) (rm := { frames := yfr, cells := potC wc, slots := potS wc, locals := ylo }) (mc := potC wc) (ms := potS wc) As.length hts (gwG (wsG_gw y4)) rfl rfl rfl (hK.2 _ hl) (hts _ y3) (okY_use hyk) (by rw [h3, h4]; exact hroom)
    exact va_runSN hS (K _ _) ⟨cw, hts _ y2, trivial⟩ hp rfl (by rw [List.length_map]) hL.1.1 rfl (lv_room (by rw [cats]; exact hcat)) hd (by rw [h5, h6]; exact ⟨by omega, by omega⟩)
theorem m_cI (M : MB l D cT O code nL fr lo Rc Rs g) (K : Runs l D cT y ycode ynL none yfr ylo (.ref 0 :: As) wc E) (hy : CI y ycode ynL As.length) (hl : Cond.methodLink O.1 ix y ∈ gw ∨ Cond.methodLinkNest O.1 ix y "BackByTwice" ∈ nw) (hd : decode code pc = .ok (.invokespecial ix, 3))
    (ρ : List Nat) (hnd : ρ.Nodup) (hle : wc.length ≤ ρ.length) (hw : (ρ.take wc.length).map (fun k => w[k]?) = wc.map (fun x => some (rS ρ w.length x))) (hst : st = ((.ref 0 :: As).map (rV ρ w.length)).reverse ++ rest) (hcat : (rest.map fun v => v.category).sum ≤ 8) (hroom : yfr + 1 ≤ fr ∧ 8 + (ynL + 11) + ylo ≤ lo) (hbud : bc + potC wc ≤ Rc ∧ bs + potS wc ≤ Rs)
    (hR : potC wc = 0 ∨ ((∀ k, k < w.length → k ∈ ρ.take wc.length) ∧ rfB w L rest = true))
    (kk : ∀ (r : Option Value) (wc' : Wd), E r wc' → wc'.length = wc.length → g (bc + potC wc) (bs + potS wc) (putL (ρ.take wc.length) (wc'.map (rS ρ w.length)) w) (pc + 3) L ((r.map (rV ρ w.length)).toList ++ rest)) : g bc bs w pc L st := by
  obtain ⟨p, e, R, s, m, args, below, meth, c, q0, w0, sz, Q, X, hO, h3, h4, h5, h6, rfl⟩ := M
  obtain ⟨hx, hb, hml, hown, hts, hK, hlk, hsz⟩ := id X
  obtain ⟨hyn, hyk, y2, y3, y4⟩ := hy
  refine gg_call X K ρ hnd hle hw hst ?_ hR kk
  intro q H locs cells slots ls hP hL hc hs hPc
  have hS : CallFix p m c code nL s args gw O.1 := ⟨hx, hb, hml, hown, hts⟩
  have hp : PreS s H (va_Pc ((Value.ref 0 :: As).map (tV (fun i => q (rn ρ w.length i)))) (PcB D cT (fun i => q (rn ρ w.length i)) wc H.size)) (.ref (q (rn ρ w.length 0)) :: As.map (tV (fun i => q (rn ρ w.length i)))) := ⟨blindP, hPc⟩
  have e1 : st.map (tV q) = (As.map (tV (fun i => q (rn ρ w.length i)))).reverse ++ .ref (q (rn ρ w.length 0)) :: rest.map (tV q) := by
    rw [stk_eq hst]
    simp [tV]
  rw [e1]
  rcases hl with hl | hl
  · have cw := cwI (R := R) (own := O.1) (index := ix) (ws := wsG y ycode ynL none) (rm := { frames := yfr, cells := potC wc, slots := potS wc, locals := ylo }) (mc := potC wc) (ms := potS wc) As.length hts (gwG (wsG_gw y4)) rfl rfl rfl (hts _ y3) (hts _ hl) (hts _ y2) hyn (okY_use hyk) (by rw [h3, h4]; exact hroom)
    exact va_runI hS (K _ _) cw hp rfl (by rw [List.length_map]) hL.1.1 rfl (lv_room (by rw [cats]; exact hcat)) hd (by rw [h5, h6]; exact ⟨by omega, by omega⟩)
  · have cw := va_cnB (R := R) (own := O.1) (host := "BackByTwice") (index := ix) (ws := wsG y ycode ynL none) (rm := { frames := yfr, cells := potC wc, slots := potS wc, locals := ylo }) (mc := potC wc) (ms := potS wc) As.length hts (gwG (wsG_gw y4)) rfl rfl rfl (hK.2 _ hl) (hts _ y3) (okY_use hyk) (by rw [h3, h4]; exact hroom)
    exact va_runIN hS (K _ _) ⟨cw, hyn, hts _ y2⟩ hp rfl (by rw [List.length_map]) hL.1.1 rfl (lv_room (by rw [cats]; exact hcat)) hd (by rw [h5, h6]; exact ⟨by omega, by omega⟩)
/-! .. where the answer is told and nothing is made -/
theorem m_cV0 {r : Option Value} {wc' w2 : Wd} {st2 : List Value} (M : MB l D cT O code nL fr lo Rc Rs g) (K : Runs l D cT y ycode ynL yret yfr ylo (.ref 0 :: As) wc (EQ r wc')) {ci : Nat} {fs : List Value} (hy : CV y ycode ynL yret As.length ci) (hl : Cond.methodLink O.1 ix y ∈ gw ∨ Cond.methodLinkNest O.1 ix y "BackByTwice" ∈ nw) (hd : decode code pc = .ok (.invokevirtual ix, 3))
    (ρ : List Nat) (hnd : ρ.Nodup) (hle : wc.length ≤ ρ.length) (hw : (ρ.take wc.length).map (fun k => w[k]?) = wc.map (fun x => some (rS ρ w.length x))) (hst : st = ((.ref 0 :: As).map (rV ρ w.length)).reverse ++ rest) (h0 : wc[0]? = some (.inr (.inr (ci, fs)))) (hcat : (rest.map fun v => v.category).sum ≤ 8) (hroom : yfr + 1 ≤ fr ∧ 8 + (ynL + 11) + ylo ≤ lo) (hp0 : potC wc = 0) (hp1 : potS wc = 0) (hbud : bc ≤ Rc ∧ bs ≤ Rs)
    (hw2 : putL (ρ.take wc.length) (wc'.map (rS ρ w.length)) w = w2) (hst2 : (r.map (rV ρ w.length)).toList ++ rest = st2) (kk : g bc bs w2 (pc + 3) L st2) : g bc bs w pc L st :=
  m_cV M K hy hl hd ρ hnd hle hw hst h0 hcat hroom (by rw [hp0, hp1]; exact hbud) (Or.inl hp0) (fun a b hab _ => by obtain ⟨rfl, rfl⟩ := hab; rw [hp0, hp1, hw2, hst2]; exact kk)
theorem m_cS0 {r : Option Value} {wc' w2 : Wd} {st2 : List Value} (M : MB l D cT O code nL fr lo Rc Rs g) (K : Runs l D cT y ycode ynL yret yfr ylo As wc (EQ r wc')) (hy : CS y ycode ynL yret As.length) (hl : Cond.methodLink O.1 ix y ∈ gw ∨ Cond.methodLinkNest O.1 ix y "BackByTwice" ∈ nw) (hd : decode code pc = .ok (.invokestatic ix, 3))
    (ρ : List Nat) (hnd : ρ.Nodup) (hle : wc.length ≤ ρ.length) (hw : (ρ.take wc.length).map (fun k => w[k]?) = wc.map (fun x => some (rS ρ w.length x))) (hst : st = (As.map (rV ρ w.length)).reverse ++ rest) (hcat : (rest.map fun v => v.category).sum ≤ 8) (hroom : yfr + 1 ≤ fr ∧ 8 + (ynL + 11) + ylo ≤ lo) (hp0 : potC wc = 0) (hp1 : potS wc = 0) (hbud : bc ≤ Rc ∧ bs ≤ Rs)
    (hw2 : putL (ρ.take wc.length) (wc'.map (rS ρ w.length)) w = w2) (hst2 : (r.map (rV ρ w.length)).toList ++ rest = st2) (kk : g bc bs w2 (pc + 3) L st2) : g bc bs w pc L st :=
  m_cS M K hy hl hd ρ hnd hle hw hst hcat hroom (by rw [hp0, hp1]; exact hbud) (Or.inl hp0) (fun a b hab _ => by obtain ⟨rfl, rfl⟩ := hab; rw [hp0, hp1, hw2, hst2]; exact kk)
end MCL
end
section
/-! ===== rows that the program's proofs use ===== -/
def inB (i : Int32) (n : Nat) : Bool := decide (0 ≤ i.toInt) && decide (i.toInt < n)
theorem inB_use {i : Int32} {n : Nat} (h : inB i n = true) : vp_in i n := by
  simp only [inB, Bool.and_eq_true, decide_eq_true_eq] at h
  exact vp_in_iff.mpr h
def z01 (x : Int32) : Bool := decide (x = 0) || decide (x = 1)
theorem z01_use {x : Int32} (h : z01 x = true) : x = 0 ∨ x = 1 := by
  simp only [z01, Bool.or_eq_true, decide_eq_true_eq] at h
  exact h
theorem ite_s {α : Type} {c : Prop} [Decidable c] {a b : Option α} {r : α} (h : (if c then a else b) = some r) : (c ∧ a = some r) ∨ (¬ c ∧ b = some r) := by
  by_cases hc : c
  · rw [if_pos hc] at h; exact Or.inl ⟨hc, h⟩
  · rw [if_neg hc] at h; exact Or.inr ⟨hc, h⟩
theorem grd_s {α : Type} {c : Prop} [Decidable c] {a : Option α} {r : α} (h : (if c then a else none) = some r) : c ∧ a = some r := by
  rcases ite_s h with h | ⟨-, h⟩
  · exact h
  · cases h
theorem bnd_s {α β : Type} {a : Option α} {f : α → Option β} {r : β} (h : a.bind f = some r) : ∃ x, a = some x ∧ f x = some r := Option.bind_eq_some_iff.mp h
def wkL : List (Option Value) → List (Option Value) → Prop
  | [], [] => True
  | a :: l, b :: l' => (b = none ∨ b = a) ∧ wkL l l'
  | _, _ => False
theorem wkL_len : ∀ {L L' : List (Option Value)}, wkL L L' → L'.length = L.length
  | [], [], _ => rfl
  | _ :: l, _ :: l', h => by rw [List.length_cons, List.length_cons, wkL_len h.2]
theorem wkL_get : ∀ {L L' : List (Option Value)}, wkL L L' → ∀ (k : Nat) (v : Value), L'[k]? = some (some v) → L[k]? = some (some v)
  | [], [], _, k, v, h => by simp at h
  | a :: l, b :: l', h, k, v, hk => by
    cases k with
    | zero =>
      simp at hk
      rcases h.1 with h1 | h1
      · rw [h1] at hk; cases hk
      · rw [h1] at hk; simp [hk]
    | succ k =>
      simp at hk ⊢
      exact wkL_get h.2 k v hk
section MMR
variable {l : Launch} {D : va_G} {cT : Nat → ClassId} {O : Own} {code : ByteArray} {nL fr lo Rc Rs : Nat} {g : GT} {bc bs : Nat}
theorem m_jT (M : MB l D cT O code nL fr lo Rc Rs g) {i : Instr} {pc : Nat} (tgt : Nat) {off : Int} {L : List (Option Value)} {st st' : List Value} {w : Wd} {C : Prop} (hd : decode code pc = .ok (i, 3)) (hs : aB i st = some (C, off, st')) (ht : (pc : Int) + off = (tgt : Int)) (h : C) (k : g bc bs w tgt L st') : g bc bs w pc L st :=
  m_br M hd hs ht (fun _ => k) (fun n => absurd h n)
theorem m_jF (M : MB l D cT O code nL fr lo Rc Rs g) {i : Instr} {pc : Nat} (tgt : Nat) {off : Int} {L : List (Option Value)} {st st' : List Value} {w : Wd} {C : Prop} (hd : decode code pc = .ok (i, 3)) (hs : aB i st = some (C, off, st')) (ht : (pc : Int) + off = (tgt : Int)) (h : ¬ C) (k : g bc bs w (pc + 3) L st') : g bc bs w pc L st :=
  m_br M hd hs ht (fun n => absurd n h) (fun _ => k)
theorem m_wk (M : MB l D cT O code nL fr lo Rc Rs g) {pc : Nat} {L : List (Option Value)} (L' : List (Option Value)) {st : List Value} {w : Wd} (h : wkL L L') (k : g bc bs w pc L' st) : g bc bs w pc L st := by
  obtain ⟨p, e, R, s, m, args, below, meth, c, q0, w0, sz, Q, h1, h2, h3, h4, h5, h6, rfl⟩ := M
  intro q H locs ls cells slots a1 a2 a3 a4 a5 a6 a7
  refine k q H locs ls cells slots a1 a2 a3 a4 ⟨⟨a5.1.1, a5.1.2.1, fun x hx => a5.1.2.2 x ?_⟩, (wkL_len h).trans a5.2⟩ a6 a7
  obtain ⟨k9, v, hk, rfl⟩ := (lvl_mem _ _ _).mp hx
  exact (lvl_mem _ _ _).mpr ⟨k9, v, wkL_get h k9 v hk, rfl⟩
theorem nn32 {z : Int32} (hz : ¬ z < 0) : z.toInt = (z.toNatClampNeg : Int) := by
  have hz0 : (0 : Int) ≤ z.toInt := by
    have := Int32.not_lt.mp hz
    simpa using Int32.le_iff_toInt_le.mp this
  show z.toInt = ((z.toInt.toNat : Nat) : Int)
  omega
/-- the places that System.arraycopy asks for -/
def cpB (sp dp n : Int32) (n0 n1 : Nat) : Bool := decide (0 ≤ sp.toInt) && (decide (0 ≤ dp.toInt) && (decide (0 ≤ n.toInt) && (decide (sp.toInt + n.toInt ≤ n0) && decide (dp.toInt + n.toInt ≤ n1))))
theorem cpB_use {sp dp n : Int32} {n0 n1 : Nat} (h : cpB sp dp n n0 n1 = true) : ¬ sp < 0 ∧ ¬ dp < 0 ∧ ¬ n < 0 ∧ sp.toNatClampNeg + n.toNatClampNeg ≤ n0 ∧ dp.toNatClampNeg + n.toNatClampNeg ≤ n1 := by
  simp only [cpB, Bool.and_eq_true, decide_eq_true_eq] at h
  obtain ⟨a, b, c, d, e⟩ := h
  have n0 : ∀ z : Int32, 0 ≤ z.toInt → ¬ z < 0 := fun z hz q => by
    have := Int32.lt_iff_toInt_lt.mp q
    rw [Int32.toInt_zero] at this
    omega
  have h1 := nn32 (n0 sp a)
  have h2 := nn32 (n0 dp b)
  have h3 := nn32 (n0 n c)
  exact ⟨n0 _ a, n0 _ b, n0 _ c, by omega, by omega⟩
def cpW (own : String) (ix : Nat) : Prop := Cond.methodLink own ix arraycopyName ∈ gw ∧ Cond.native arraycopyName ∈ gw ∧ Cond.static arraycopyName ∈ gw ∧ Cond.initialized "java/lang/System" ∈ gw
theorem m_cpI (M : MB l D cT O code nL fr lo Rc Rs g) {ix pc a b n0 n1 : Nat} {f h : Nat → Int32} {sp dp n : Int32} {L : List (Option Value)} {rest : List Value} {w w2 : Wd} (hw : cpW O.1 ix) (ha : wA w a = some (.inl (0, n0, .inl f))) (hb' : wA w b = some (.inl (0, n1, .inl h))) (hB : cpB sp dp n n0 n1 = true) (hfr : 1 ≤ fr) (hlo : (rest.map fun v => v.category).sum + (nativeFrameWords "java/lang/System" "arraycopy" 5 + 11) ≤ lo) (hd : decode code pc = .ok (.invokestatic ix, 3))
    (hw2 : w.set b (.inr (.inl (0, n1, .inl (va_cpy f h sp.toNatClampNeg dp.toNatClampNeg n.toNatClampNeg)))) = w2) (k : g bc bs w2 (pc + 3) L rest) : g bc bs w pc L (.int n :: .int dp :: .ref b :: .int sp :: .ref a :: rest) := by
  obtain ⟨p, e, R, s, m, args, below, meth, c, q0, w0, sz, Q, ⟨hx, hb, hml, hown, hts, hK, hlk, hsz⟩, h2, h3, h4, h5, h6, rfl⟩ := M
  obtain ⟨l1, l2, l3, l4⟩ := hw
  obtain ⟨c1, c2, c3, c4, c5⟩ := cpB_use hB
  subst hw2
  intro q H locs ls cells slots a1 a2 a3 a4 a5 a6 a7
  obtain ⟨j0, hj0⟩ := cn_get (cT := cT) (q := q) ha
  obtain ⟨j1, hj1⟩ := cn_get (cT := cT) (q := q) hb'
  exact va_copyi hx hb (hml.trans a5.1.1.symm) hown (hts _ l1) (hts _ l2) (hts _ l3) (hts _ l4) hK.1 a2.P a3.D a4 j0 j1 0 0 hj0 hj1 rfl rfl rfl c1 c2 c3 c4 c5 (fun _ _ => rfl) (by rw [h3]; exact hfr) (by rw [h4, cats]; exact hlo) hd (fun H1 locs1 b1 _ b3 => k q H1 locs1 ls cells slots (a1.set hb' _) (RP.back (e := .inl (0, n1, .inl (va_cpy f h sp.toNatClampNeg dp.toNatClampNeg n.toNatClampNeg))) a3 hb' hj1 b1) (a3.set hb' _) b3 a5 a6 a7)
theorem m_cpL (M : MB l D cT O code nL fr lo Rc Rs g) {ix pc a b n0 n1 : Nat} {f h : Nat → Int64} {sp dp n : Int32} {L : List (Option Value)} {rest : List Value} {w w2 : Wd} (hw : cpW O.1 ix) (ha : wA w a = some (.inl (1, n0, .inr (.inl f)))) (hb' : wA w b = some (.inl (1, n1, .inr (.inl h)))) (hB : cpB sp dp n n0 n1 = true) (hfr : 1 ≤ fr) (hlo : (rest.map fun v => v.category).sum + (nativeFrameWords "java/lang/System" "arraycopy" 5 + 11) ≤ lo) (hd : decode code pc = .ok (.invokestatic ix, 3))
    (hw2 : w.set b (.inr (.inl (1, n1, .inr (.inl (va_cpy f h sp.toNatClampNeg dp.toNatClampNeg n.toNatClampNeg))))) = w2) (k : g bc bs w2 (pc + 3) L rest) : g bc bs w pc L (.int n :: .int dp :: .ref b :: .int sp :: .ref a :: rest) := by
  obtain ⟨p, e, R, s, m, args, below, meth, c, q0, w0, sz, Q, ⟨hx, hb, hml, hown, hts, hK, hlk, hsz⟩, h2, h3, h4, h5, h6, rfl⟩ := M
  obtain ⟨l1, l2, l3, l4⟩ := hw
  obtain ⟨c1, c2, c3, c4, c5⟩ := cpB_use hB
  subst hw2
  intro q H locs ls cells slots a1 a2 a3 a4 a5 a6 a7
  obtain ⟨j0, hj0⟩ := cn_get (cT := cT) (q := q) ha
  obtain ⟨j1, hj1⟩ := cn_get (cT := cT) (q := q) hb'
  exact va_copyl hx hb (hml.trans a5.1.1.symm) hown (hts _ l1) (hts _ l2) (hts _ l3) (hts _ l4) hK.1 a2.P a3.D a4 j0 j1 1 1 hj0 hj1 rfl rfl rfl c1 c2 c3 c4 c5 (fun _ _ => rfl) (by rw [h3]; exact hfr) (by rw [h4, cats]; exact hlo) hd (fun H1 locs1 b1 _ b3 => k q H1 locs1 ls cells slots (a1.set hb' _) (RP.back (e := .inl (1, n1, .inr (.inl (va_cpy f h sp.toNatClampNeg dp.toNatClampNeg n.toNatClampNeg)))) a3 hb' hj1 b1) (a3.set hb' _) b3 a5 a6 a7)
/-! a reference, and none -/
theorem m_nnR (M : MB l D cT O code nL fr lo Rc Rs g) {pc a : Nat} (tgt : Nat) {off : Int} {L : List (Option Value)} {rest : List Value} {w : Wd} (hd : decode code pc = .ok (.ifnonnull off, 3)) (ht : (pc : Int) + off = (tgt : Int)) (k : g bc bs w tgt L rest) : g bc bs w pc L (.ref a :: rest) := by
  obtain ⟨p, e, R, s, m, args, below, meth, c, q0, w0, sz, Q, ⟨hx, hb, hml, hown, hts, hK, hlk, hsz⟩, h2, h3, h4, h5, h6, rfl⟩ := M
  exact gg_stk (fun q _ _ _ _ _ _ _ kk => lv_ifnonnull hx hb hd ht kk) k
theorem m_nnN (M : MB l D cT O code nL fr lo Rc Rs g) {pc : Nat} {off : Int} {L : List (Option Value)} {rest : List Value} {w : Wd} (hd : decode code pc = .ok (.ifnonnull off, 3)) (k : g bc bs w (pc + 3) L rest) : g bc bs w pc L (.null :: rest) := by
  obtain ⟨p, e, R, s, m, args, below, meth, c, q0, w0, sz, Q, ⟨hx, hb, hml, hown, hts, hK, hlk, hsz⟩, h2, h3, h4, h5, h6, rfl⟩ := M
  exact gg_stk (fun q _ _ _ _ _ _ _ kk => lv_ifnonnullN hx hb hd kk) k
end MMR
end
section
/-! ===== written by wip/whole/gen.py: the classes' pools, methods and links ===== -/
def O_X0 : Own := (RX0, [(9, false, 0, 0), (15, false, 0, 1), (19, false, 0, 2), (29, false, 0, 3)], [], [])
theorem okO_X0 : okO O_X0 = true := by decide +kernel
def O_X1 : Own := (RX1, [(9, false, 1, 0), (15, false, 1, 1), (18, false, 1, 2), (21, false, 1, 3), (24, false, 1, 4), (27, false, 1, 9), (31, false, 1, 5), (34, false, 1, 6), (37, false, 1, 7), (40, false, 1, 8)], [(112, 1103515245)], [])
theorem okO_X1 : okO O_X1 = true := by decide +kernel
def O_X2 : Own := (RX2, [(9, false, 2, 0), (15, false, 2, 1), (19, false, 2, 3), (29, false, 2, 2), (77, true, 1, 5), (90, true, 1, 6), (93, true, 1, 7), (113, true, 1, 1)], [], [])
theorem okO_X2 : okO O_X2 = true := by decide +kernel
def O_X3 : Own := (RX3, [(10, false, 3, 0), (16, false, 3, 1), (19, false, 3, 2), (22, false, 3, 3), (28, false, 3, 4), (34, false, 3, 5), (39, false, 3, 6), (43, false, 3, 7), (85, true, 0, 0), (112, true, 0, 2), (144, true, 1, 7), (150, true, 1, 1), (153, true, 1, 2), (158, true, 2, 1), (169, true, 2, 2), (216, true, 1, 5), (242, true, 1, 6), (297, true, 1, 8), (300, true, 1, 9), (303, false, 3, 8)], [], [])
theorem okO_X3 : okO O_X3 = true := by decide +kernel
def O_X4 : Own := (RX4, [(7, false, 4, 0), (13, false, 4, 1), (16, false, 4, 2), (21, false, 4, 3), (24, false, 4, 4), (28, false, 4, 5), (31, false, 4, 6), (34, false, 4, 8), (37, false, 4, 10), (40, false, 4, 11), (43, false, 4, 12), (46, false, 4, 14), (49, false, 4, 15), (52, false, 4, 18), (56, false, 4, 26), (59, false, 4, 28), (62, false, 4, 29), (66, false, 4, 30), (69, false, 4, 9), (76, false, 4, 13), (123, false, 4, 16), (136, false, 4, 7), (139, false, 4, 21), (142, false, 4, 23), (145, false, 4, 24), (148, false, 4, 22), (157, false, 4, 25), (219, false, 4, 27), (225, false, 4, 20), (246, false, 4, 17), (328, false, 4, 19)], [(320, 1103515245)], [(79, 7), (81, 4), (83, 40), (100, 5), (117, 15), (126, 999), (128, 99), (134, 255), (241, 2), (306, 52), (331, 12), (333, 16)])
theorem okO_X4 : okO O_X4 = true := by decide +kernel
def O_L : Own := (RL, [], [], [(18, 4294967295)])
theorem okO_L : okO O_L = true := by decide +kernel
def O_J7 : Own := (RJ7, [], [], [])
theorem okO_J7 : okO O_J7 = true := by decide +kernel
def O_J9 : Own := (RJ9, [], [], [])
theorem okO_J9 : okO O_J9 = true := by decide +kernel
def O_J6 : Own := (RJ6, [], [(265, 1431655765), (266, 858993459), (267, 252645135)], [])
theorem okO_J6 : okO O_J6 = true := by decide +kernel
theorem cs_J6_bitCount_0f7a4 : CS yJ6_bitCount_0f7a4 cJ6_bitCount_0f7a4 1 (some .int) 1 := ⟨by decide +kernel, mI (t_3 111 rfl) rfl, mI (t_1 13 rfl) rfl, mI (t_3 112 rfl) rfl⟩
theorem cs_J7_fill_53178 : CS yJ7_fill_53178 cJ7_fill_53178 4 none 2 := ⟨by decide +kernel, mI (t_3 96 rfl) rfl, mI (t_1 6 rfl) rfl, mI (t_3 97 rfl) rfl⟩
theorem cs_J7_fill_d0a16 : CS yJ7_fill_d0a16 cJ7_fill_d0a16 5 none 2 := ⟨by decide +kernel, mI (t_1 162 rfl) rfl, mI (t_1 6 rfl) rfl, mI (t_1 163 rfl) rfl⟩
theorem cs_J9_abs_0f7a4 : CS yJ9_abs_0f7a4 cJ9_abs_0f7a4 1 (some .int) 1 := ⟨by decide +kernel, mI (t_3 121 rfl) rfl, mI (t_1 8 rfl) rfl, mI (t_3 122 rfl) rfl⟩
theorem cs_J9_max_7cf53 : CS yJ9_max_7cf53 cJ9_max_7cf53 2 (some .int) 2 := ⟨by decide +kernel, mI (t_2 34 rfl) rfl, mI (t_1 8 rfl) rfl, mI (t_2 35 rfl) rfl⟩
theorem cs_J9_min_7cf53 : CS yJ9_min_7cf53 cJ9_min_7cf53 2 (some .int) 2 := ⟨by decide +kernel, mI (t_2 23 rfl) rfl, mI (t_1 8 rfl) rfl, mI (t_2 24 rfl) rfl⟩
theorem cv_X0_content : CV yX0_content cX0_content 1 (some .int) 0 0 := ⟨rfl, by decide, by decide +kernel, mI (t_1 220 rfl) rfl, mI (s_1 (q := (yX0_content, 4)) 10 rfl) rfl, mI (t_1 4 rfl) rfl, mI (t_1 221 rfl) rfl⟩
theorem cv_X0_cut : CV yX0_cut cX0_cut 3 (some .long) 1 0 := ⟨rfl, by decide, by decide +kernel, mI (t_1 191 rfl) rfl, mI (s_1 (q := (yX0_cut, 4)) 7 rfl) rfl, mI (t_1 4 rfl) rfl, mI (t_1 192 rfl) rfl⟩
theorem cv_X0_elementAt : CV yX0_elementAt cX0_elementAt 2 (some .long) 1 0 := ⟨rfl, by decide, by decide +kernel, mI (t_1 212 rfl) rfl, mI (s_1 (q := (yX0_elementAt, 4)) 9 rfl) rfl, mI (t_1 4 rfl) rfl, mI (t_1 213 rfl) rfl⟩
theorem cv_X0_hasPart : CV yX0_hasPart cX0_hasPart 3 (some .boolean) 2 0 := ⟨rfl, by decide, by decide +kernel, mI (t_1 182 rfl) rfl, mI (s_1 (q := (yX0_hasPart, 4)) 5 rfl) rfl, mI (t_1 4 rfl) rfl, mI (t_1 183 rfl) rfl⟩
theorem cv_X0_holdLaw : CV yX0_holdLaw cX0_holdLaw 2 none 1 0 := ⟨rfl, by decide, by decide +kernel, mI (t_1 232 rfl) rfl, mI (s_1 (q := (yX0_holdLaw, 4)) 12 rfl) rfl, mI (t_1 4 rfl) rfl, mI (t_1 233 rfl) rfl⟩
theorem cv_X0_holdRow : CV yX0_holdRow cX0_holdRow 3 none 2 0 := ⟨rfl, by decide, by decide +kernel, mI (t_1 159 rfl) rfl, mI (s_1 (q := (yX0_holdRow, 4)) 1 rfl) rfl, mI (t_1 4 rfl) rfl, mI (t_1 160 rfl) rfl⟩
theorem cv_X0_holdsLaw : CV yX0_holdsLaw cX0_holdsLaw 1 (some .boolean) 0 0 := ⟨rfl, by decide, by decide +kernel, mI (t_1 174 rfl) rfl, mI (s_1 (q := (yX0_holdsLaw, 4)) 3 rfl) rfl, mI (t_1 4 rfl) rfl, mI (t_1 175 rfl) rfl⟩
theorem cv_X0_holdsRow : CV yX0_holdsRow cX0_holdsRow 1 (some .boolean) 0 0 := ⟨rfl, by decide, by decide +kernel, mI (t_1 178 rfl) rfl, mI (s_1 (q := (yX0_holdsRow, 4)) 4 rfl) rfl, mI (t_1 4 rfl) rfl, mI (t_1 179 rfl) rfl⟩
theorem ci_X0_init : CI yX0_init cX0_init 1 0 := ⟨rfl, by decide +kernel, mI (t_1 96 rfl) rfl, mI (t_1 4 rfl) rfl, mI (t_1 97 rfl) rfl⟩
theorem cv_X0_isOtherRowThan : CV yX0_isOtherRowThan cX0_isOtherRowThan 2 (some .boolean) 1 0 := ⟨rfl, by decide, by decide +kernel, mI (t_1 200 rfl) rfl, mI (s_1 (q := (yX0_isOtherRowThan, 4)) 8 rfl) rfl, mI (t_1 4 rfl) rfl, mI (t_1 201 rfl) rfl⟩
theorem cv_X0_put : CV yX0_put cX0_put 4 none 2 0 := ⟨rfl, by decide, by decide +kernel, mI (t_1 186 rfl) rfl, mI (s_1 (q := (yX0_put, 4)) 6 rfl) rfl, mI (t_1 4 rfl) rfl, mI (t_1 187 rfl) rfl⟩
theorem cv_X0_refusalOfRow : CV yX0_refusalOfRow cX0_refusalOfRow 1 (some .int) 0 0 := ⟨rfl, by decide, by decide +kernel, mI (t_1 170 rfl) rfl, mI (s_1 (q := (yX0_refusalOfRow, 4)) 2 rfl) rfl, mI (t_1 4 rfl) rfl, mI (t_1 171 rfl) rfl⟩
theorem cv_X1_add : CV yX1_add cX1_add 2 (some .int) 0 1 := ⟨rfl, by decide, by decide +kernel, mI (t_2 46 rfl) rfl, mI (s_2 (q := (yX1_add, 10)) 4 rfl) rfl, mI (t_1 2 rfl) rfl, mI (t_2 47 rfl) rfl⟩
theorem cv_X1_addLaw : CV yX1_addLaw cX1_addLaw 4 (some .int) 2 1 := ⟨rfl, by decide, by decide +kernel, mI (t_2 59 rfl) rfl, mI (s_2 (q := (yX1_addLaw, 10)) 6 rfl) rfl, mI (t_1 2 rfl) rfl, mI (t_2 60 rfl) rfl⟩
theorem cv_X1_allBits : CV yX1_allBits cX1_allBits 1 (some .int) 0 1 := ⟨rfl, by decide, by decide +kernel, mI (t_3 76 rfl) rfl, mI (s_4 (q := (yX1_allBits, 10)) 5 rfl) rfl, mI (t_1 2 rfl) rfl, mI (t_3 77 rfl) rfl⟩
theorem cv_X1_allCounts : CV yX1_allCounts cX1_allCounts 3 (some .int) 0 1 := ⟨rfl, by decide, by decide +kernel, mI (t_4 69 rfl) rfl, mI (s_5 (q := (yX1_allCounts, 10)) 2 rfl) rfl, mI (t_1 2 rfl) rfl, mI (t_4 70 rfl) rfl⟩
theorem cv_X1_amountOf : CV yX1_amountOf cX1_amountOf 2 (some .int) 1 1 := ⟨rfl, by decide, by decide +kernel, mI (t_2 11 rfl) rfl, mI (s_1 (q := (yX1_amountOf, 10)) 14 rfl) rfl, mI (t_1 2 rfl) rfl, mI (t_2 12 rfl) rfl⟩
theorem cv_X1_become : CV yX1_become cX1_become 2 none 1 1 := ⟨rfl, by decide, by decide +kernel, mI (t_2 89 rfl) rfl, mI (s_2 (q := (yX1_become, 10)) 8 rfl) rfl, mI (t_1 2 rfl) rfl, mI (t_2 90 rfl) rfl⟩
theorem cv_X1_countsApart : CV yX1_countsApart cX1_countsApart 4 (some .int) 0 1 := ⟨rfl, by decide, by decide +kernel, mI (t_3 151 rfl) rfl, mI (s_4 (q := (yX1_countsApart, 10)) 9 rfl) rfl, mI (t_1 2 rfl) rfl, mI (t_3 152 rfl) rfl⟩
theorem cv_X1_draw : CV yX1_draw cX1_draw 2 (some .int) 1 1 := ⟨rfl, by decide, by decide +kernel, mI (t_4 44 rfl) rfl, mI (s_5 (q := (yX1_draw, 10)) 1 rfl) rfl, mI (t_1 2 rfl) rfl, mI (t_4 45 rfl) rfl⟩
theorem cv_X1_fact : CV yX1_fact cX1_fact 3 (some .int) 2 1 := ⟨rfl, by decide, by decide +kernel, mI (t_3 15 rfl) rfl, mI (s_3 (q := (yX1_fact, 10)) 15 rfl) rfl, mI (t_1 2 rfl) rfl, mI (t_3 16 rfl) rfl⟩
theorem cv_X1_hasLaw : CV yX1_hasLaw cX1_hasLaw 2 (some .boolean) 1 1 := ⟨rfl, by decide, by decide +kernel, mI (t_1 228 rfl) rfl, mI (s_1 (q := (yX1_hasLaw, 10)) 11 rfl) rfl, mI (t_1 2 rfl) rfl, mI (t_1 229 rfl) rfl⟩
theorem cv_X1_hasPerson : CV yX1_hasPerson cX1_hasPerson 2 (some .boolean) 1 1 := ⟨rfl, by decide, by decide +kernel, mI (t_2 19 rfl) rfl, mI (s_2 (q := (yX1_hasPerson, 10)) 0 rfl) rfl, mI (t_1 2 rfl) rfl, mI (t_2 20 rfl) rfl⟩
theorem cv_X1_hasPlace : CV yX1_hasPlace cX1_hasPlace 2 (some .boolean) 1 1 := ⟨rfl, by decide, by decide +kernel, mI (t_2 223 rfl) rfl, mI (s_3 (q := (yX1_hasPlace, 10)) 9 rfl) rfl, mI (t_1 2 rfl) rfl, mI (t_2 224 rfl) rfl⟩
theorem cv_X1_hasRoom : CV yX1_hasRoom cX1_hasRoom 1 (some .boolean) 0 1 := ⟨rfl, by decide, by decide +kernel, mI (t_2 42 rfl) rfl, mI (s_2 (q := (yX1_hasRoom, 10)) 3 rfl) rfl, mI (t_1 2 rfl) rfl, mI (t_2 43 rfl) rfl⟩
theorem cv_X1_hasRoomForLaw : CV yX1_hasRoomForLaw cX1_hasRoomForLaw 1 (some .boolean) 0 1 := ⟨rfl, by decide, by decide +kernel, mI (t_2 55 rfl) rfl, mI (s_2 (q := (yX1_hasRoomForLaw, 10)) 5 rfl) rfl, mI (t_1 2 rfl) rfl, mI (t_2 56 rfl) rfl⟩
theorem ci_X1_init : CI yX1_init cX1_init 1 0 := ⟨rfl, by decide +kernel, mI (t_1 25 rfl) rfl, mI (t_1 2 rfl) rfl, mI (t_1 26 rfl) rfl⟩
theorem cv_X1_isEmpty : CV yX1_isEmpty cX1_isEmpty 1 (some .boolean) 0 1 := ⟨rfl, by decide, by decide +kernel, mI (t_2 200 rfl) rfl, mI (s_3 (q := (yX1_isEmpty, 10)) 4 rfl) rfl, mI (t_1 2 rfl) rfl, mI (t_2 201 rfl) rfl⟩
theorem cv_X1_isLawless : CV yX1_isLawless cX1_isLawless 1 (some .boolean) 0 1 := ⟨rfl, by decide, by decide +kernel, mI (t_2 204 rfl) rfl, mI (s_3 (q := (yX1_isLawless, 10)) 5 rfl) rfl, mI (t_1 2 rfl) rfl, mI (t_2 205 rfl) rfl⟩
theorem cv_X1_isStuck : CV yX1_isStuck cX1_isStuck 1 (some .boolean) 0 1 := ⟨rfl, by decide, by decide +kernel, mI (t_2 196 rfl) rfl, mI (s_3 (q := (yX1_isStuck, 10)) 3 rfl) rfl, mI (t_1 2 rfl) rfl, mI (t_2 197 rfl) rfl⟩
theorem cv_X1_kindOf : CV yX1_kindOf cX1_kindOf 2 (some .int) 1 1 := ⟨rfl, by decide, by decide +kernel, mI (t_2 3 rfl) rfl, mI (s_1 (q := (yX1_kindOf, 10)) 13 rfl) rfl, mI (t_1 2 rfl) rfl, mI (t_2 4 rfl) rfl⟩
theorem cv_X1_lastThen : CV yX1_lastThen cX1_lastThen 4 (some .int) 1 1 := ⟨rfl, by decide, by decide +kernel, mI (t_2 15 rfl) rfl, mI (s_1 (q := (yX1_lastThen, 10)) 15 rfl) rfl, mI (t_1 2 rfl) rfl, mI (t_2 16 rfl) rfl⟩
theorem cv_X1_letBefore : CV yX1_letBefore cX1_letBefore 3 (some .int) 1 1 := ⟨rfl, by decide, by decide +kernel, mI (t_2 219 rfl) rfl, mI (s_3 (q := (yX1_letBefore, 10)) 8 rfl) rfl, mI (t_1 2 rfl) rfl, mI (t_2 220 rfl) rfl⟩
theorem cv_X1_move : CV yX1_move cX1_move 4 none 2 1 := ⟨rfl, by decide, by decide +kernel, mI (t_2 236 rfl) rfl, mI (s_3 (q := (yX1_move, 10)) 12 rfl) rfl, mI (t_1 2 rfl) rfl, mI (t_2 237 rfl) rfl⟩
theorem cv_X1_placeOf : CV yX1_placeOf cX1_placeOf 3 (some .int) 1 1 := ⟨rfl, by decide, by decide +kernel, mI (t_3 0 rfl) rfl, mI (s_3 (q := (yX1_placeOf, 10)) 13 rfl) rfl, mI (t_1 2 rfl) rfl, mI (t_3 1 rfl) rfl⟩
theorem cv_X1_removeLast : CV yX1_removeLast cX1_removeLast 1 none 0 1 := ⟨rfl, by decide, by decide +kernel, mI (t_2 232 rfl) rfl, mI (s_3 (q := (yX1_removeLast, 10)) 11 rfl) rfl, mI (t_1 2 rfl) rfl, mI (t_2 233 rfl) rfl⟩
theorem cv_X1_standsLike : CV yX1_standsLike cX1_standsLike 3 (some .boolean) 1 1 := ⟨rfl, by decide, by decide +kernel, mI (t_3 60 rfl) rfl, mI (s_4 (q := (yX1_standsLike, 10)) 3 rfl) rfl, mI (t_1 2 rfl) rfl, mI (t_3 61 rfl) rfl⟩
theorem cv_X1_startAnew : CV yX1_startAnew cX1_startAnew 1 none 0 1 := ⟨rfl, by decide, by decide +kernel, mI (t_3 93 rfl) rfl, mI (s_4 (q := (yX1_startAnew, 10)) 7 rfl) rfl, mI (t_1 2 rfl) rfl, mI (t_3 94 rfl) rfl⟩
theorem cv_X1_stepsBack : CV yX1_stepsBack cX1_stepsBack 3 (some .int) 1 1 := ⟨rfl, by decide, by decide +kernel, mI (t_2 27 rfl) rfl, mI (s_2 (q := (yX1_stepsBack, 10)) 1 rfl) rfl, mI (t_1 2 rfl) rfl, mI (t_2 28 rfl) rfl⟩
theorem cv_X1_stepsWanted : CV yX1_stepsWanted cX1_stepsWanted 4 (some .int) 2 1 := ⟨rfl, by decide, by decide +kernel, mI (t_2 31 rfl) rfl, mI (s_2 (q := (yX1_stepsWanted, 10)) 2 rfl) rfl, mI (t_1 2 rfl) rfl, mI (t_2 32 rfl) rfl⟩
theorem cv_X1_turn : CV yX1_turn cX1_turn 3 (some .int) 0 1 := ⟨rfl, by decide, by decide +kernel, mI (t_2 208 rfl) rfl, mI (s_3 (q := (yX1_turn, 10)) 6 rfl) rfl, mI (t_1 2 rfl) rfl, mI (t_2 209 rfl) rfl⟩
theorem cv_X1_turnTimes : CV yX1_turnTimes cX1_turnTimes 3 none 1 1 := ⟨rfl, by decide, by decide +kernel, mI (t_3 41 rfl) rfl, mI (s_4 (q := (yX1_turnTimes, 10)) 2 rfl) rfl, mI (t_1 2 rfl) rfl, mI (t_3 42 rfl) rfl⟩
theorem cv_X1_who : CV yX1_who cX1_who 2 (some .int) 1 1 := ⟨rfl, by decide, by decide +kernel, mI (t_3 28 rfl) rfl, mI (s_4 (q := (yX1_who, 10)) 0 rfl) rfl, mI (t_1 2 rfl) rfl, mI (t_3 29 rfl) rfl⟩
theorem cv_X2_add : CV yX2_add cX2_add 2 (some .boolean) 1 2 := ⟨rfl, by decide, by decide +kernel, mI (t_2 77 rfl) rfl, mI (s_2 (q := (yX2_add, 4)) 7 rfl) rfl, mI (t_1 3 rfl) rfl, mI (t_2 78 rfl) rfl⟩
theorem cv_X2_goOn : CV yX2_goOn cX2_goOn 1 none 0 2 := ⟨rfl, by decide, by decide +kernel, mI (t_2 98 rfl) rfl, mI (s_2 (q := (yX2_goOn, 4)) 10 rfl) rfl, mI (t_1 3 rfl) rfl, mI (t_2 99 rfl) rfl⟩
theorem ci_X2_init : CI yX2_init cX2_init 1 0 := ⟨rfl, by decide +kernel, mI (t_1 74 rfl) rfl, mI (t_1 3 rfl) rfl, mI (t_1 75 rfl) rfl⟩
theorem cs_X2_isDigit : CS yX2_isDigit cX2_isDigit 1 (some .boolean) 1 := ⟨by decide +kernel, mI (t_2 105 rfl) rfl, mI (t_1 3 rfl) rfl, mI (t_2 106 rfl) rfl⟩
theorem cs_X2_isLetter : CS yX2_isLetter cX2_isLetter 1 (some .boolean) 1 := ⟨by decide +kernel, mI (t_2 102 rfl) rfl, mI (t_1 3 rfl) rfl, mI (t_2 103 rfl) rfl⟩
theorem cv_X2_isWord : CV yX2_isWord cX2_isWord 3 (some .boolean) 1 2 := ⟨rfl, by decide, by decide +kernel, mI (t_2 114 rfl) rfl, mI (s_2 (q := (yX2_isWord, 4)) 12 rfl) rfl, mI (t_1 3 rfl) rfl, mI (t_2 115 rfl) rfl⟩
theorem cv_X2_number : CV yX2_number cX2_number 4 (some .int) 2 2 := ⟨rfl, by decide, by decide +kernel, mI (t_2 170 rfl) rfl, mI (s_2 (q := (yX2_number, 4)) 14 rfl) rfl, mI (t_1 3 rfl) rfl, mI (t_2 171 rfl) rfl⟩
theorem cv_X2_numberInHand : CV yX2_numberInHand cX2_numberInHand 3 (some .int) 0 2 := ⟨rfl, by decide, by decide +kernel, mI (t_2 174 rfl) rfl, mI (s_2 (q := (yX2_numberInHand, 4)) 15 rfl) rfl, mI (t_1 3 rfl) rfl, mI (t_2 175 rfl) rfl⟩
theorem cv_X2_readCount : CV yX2_readCount cX2_readCount 4 (some .boolean) 1 2 := ⟨rfl, by decide, by decide +kernel, mI (t_3 5 rfl) rfl, mI (s_3 (q := (yX2_readCount, 4)) 14 rfl) rfl, mI (t_1 3 rfl) rfl, mI (t_3 6 rfl) rfl⟩
theorem cv_X2_readInto : CV yX2_readInto cX2_readInto 3 (some .int) 1 2 := ⟨rfl, by decide, by decide +kernel, mI (t_2 94 rfl) rfl, mI (s_2 (q := (yX2_readInto, 4)) 9 rfl) rfl, mI (t_1 3 rfl) rfl, mI (t_2 95 rfl) rfl⟩
theorem cv_X2_readLaw : CV yX2_readLaw cX2_readLaw 4 (some .boolean) 1 2 := ⟨rfl, by decide, by decide +kernel, mI (t_2 181 rfl) rfl, mI (s_3 (q := (yX2_readLaw, 4)) 0 rfl) rfl, mI (t_1 3 rfl) rfl, mI (t_2 182 rfl) rfl⟩
theorem cv_X2_readLeave : CV yX2_readLeave cX2_readLeave 3 (some .boolean) 1 2 := ⟨rfl, by decide, by decide +kernel, mI (t_2 228 rfl) rfl, mI (s_3 (q := (yX2_readLeave, 4)) 10 rfl) rfl, mI (t_1 3 rfl) rfl, mI (t_2 229 rfl) rfl⟩
theorem cv_X2_readLet : CV yX2_readLet cX2_readLet 3 (some .boolean) 1 2 := ⟨rfl, by decide, by decide +kernel, mI (t_2 215 rfl) rfl, mI (s_3 (q := (yX2_readLet, 4)) 7 rfl) rfl, mI (t_1 3 rfl) rfl, mI (t_2 216 rfl) rfl⟩
theorem cv_X2_readPeople : CV yX2_readPeople cX2_readPeople 4 (some .boolean) 1 2 := ⟨rfl, by decide, by decide +kernel, mI (t_2 166 rfl) rfl, mI (s_2 (q := (yX2_readPeople, 4)) 13 rfl) rfl, mI (t_1 3 rfl) rfl, mI (t_2 167 rfl) rfl⟩
theorem cv_X2_readServe : CV yX2_readServe cX2_readServe 4 (some .boolean) 1 2 := ⟨rfl, by decide, by decide +kernel, mI (t_2 192 rfl) rfl, mI (s_3 (q := (yX2_readServe, 4)) 2 rfl) rfl, mI (t_1 3 rfl) rfl, mI (t_2 193 rfl) rfl⟩
theorem cv_X2_readStatement : CV yX2_readStatement cX2_readStatement 2 (some .boolean) 1 2 := ⟨rfl, by decide, by decide +kernel, mI (t_2 109 rfl) rfl, mI (s_2 (q := (yX2_readStatement, 4)) 11 rfl) rfl, mI (t_1 3 rfl) rfl, mI (t_2 110 rfl) rfl⟩
theorem cv_X2_readUse : CV yX2_readUse cX2_readUse 3 (some .boolean) 1 2 := ⟨rfl, by decide, by decide +kernel, mI (t_2 187 rfl) rfl, mI (s_3 (q := (yX2_readUse, 4)) 1 rfl) rfl, mI (t_1 3 rfl) rfl, mI (t_2 188 rfl) rfl⟩
theorem cv_X3_after : CV yX3_after cX3_after 7 (some .int) 2 3 := ⟨rfl, by decide, by decide +kernel, mI (t_3 233 rfl) rfl, mI (t_3 234 rfl) rfl, mI (t_1 1 rfl) rfl, mI (t_3 235 rfl) rfl⟩
theorem cv_X3_again : CV yX3_again cX3_again 3 (some .int) 2 3 := ⟨rfl, by decide, by decide +kernel, mI (t_3 190 rfl) rfl, mI (t_3 191 rfl) rfl, mI (t_1 1 rfl) rfl, mI (t_3 192 rfl) rfl⟩
theorem cv_X3_anew : CV yX3_anew cX3_anew 2 (some .int) 0 3 := ⟨rfl, by decide, by decide +kernel, mI (t_4 48 rfl) rfl, mI (t_4 49 rfl) rfl, mI (t_1 1 rfl) rfl, mI (t_4 50 rfl) rfl⟩
theorem cv_X3_at : CV yX3_at cX3_at 2 (some .int) 1 3 := ⟨rfl, by decide, by decide +kernel, mI (t_3 22 rfl) rfl, mI (t_3 23 rfl) rfl, mI (t_1 1 rfl) rfl, mI (t_3 24 rfl) rfl⟩
theorem cv_X3_back : CV yX3_back cX3_back 2 (some .int) 0 3 := ⟨rfl, by decide, by decide +kernel, mI (t_4 60 rfl) rfl, mI (t_4 61 rfl) rfl, mI (t_1 1 rfl) rfl, mI (t_4 62 rfl) rfl⟩
theorem cv_X3_behind : CV yX3_behind cX3_behind 4 (some .int) 3 3 := ⟨rfl, by decide, by decide +kernel, mI (t_3 45 rfl) rfl, mI (t_3 46 rfl) rfl, mI (t_1 1 rfl) rfl, mI (t_3 47 rfl) rfl⟩
theorem cv_X3_beside : CV yX3_beside cX3_beside 4 (some .int) 2 3 := ⟨rfl, by decide, by decide +kernel, mI (t_3 117 rfl) rfl, mI (t_3 118 rfl) rfl, mI (t_1 1 rfl) rfl, mI (t_3 119 rfl) rfl⟩
theorem cv_X3_brings : CV yX3_brings cX3_brings 5 (some .int) 3 3 := ⟨rfl, by decide, by decide +kernel, mI (t_3 226 rfl) rfl, mI (t_3 227 rfl) rfl, mI (t_1 1 rfl) rfl, mI (t_3 228 rfl) rfl⟩
theorem cv_X3_comes : CV yX3_comes cX3_comes 1 (some .int) 0 3 := ⟨rfl, by decide, by decide +kernel, mI (t_2 37 rfl) rfl, mI (t_2 38 rfl) rfl, mI (t_1 1 rfl) rfl, mI (t_2 39 rfl) rfl⟩
theorem cv_X3_copy : CV yX3_copy cX3_copy 8 (some .int) 5 3 := ⟨rfl, by decide, by decide +kernel, mI (t_1 194 rfl) rfl, mI (t_1 195 rfl) rfl, mI (t_1 1 rfl) rfl, mI (t_1 196 rfl) rfl⟩
theorem cv_X3_day : CV yX3_day cX3_day 4 (some .int) 1 3 := ⟨rfl, by decide, by decide +kernel, mI (t_4 39 rfl) rfl, mI (t_4 40 rfl) rfl, mI (t_1 1 rfl) rfl, mI (t_4 41 rfl) rfl⟩
theorem cs_X3_digitsInTwos : CS yX3_digitsInTwos cX3_digitsInTwos 3 (some .int) 1 := ⟨by decide +kernel, mI (t_3 230 rfl) rfl, mI (t_1 1 rfl) rfl, mI (t_3 231 rfl) rfl⟩
theorem cv_X3_element : CV yX3_element cX3_element 3 (some .long) 2 3 := ⟨rfl, by decide, by decide +kernel, mI (t_1 207 rfl) rfl, mI (t_1 208 rfl) rfl, mI (t_1 1 rfl) rfl, mI (t_1 209 rfl) rfl⟩
theorem cv_X3_fairest : CV yX3_fairest cX3_fairest 6 (some .int) 1 3 := ⟨rfl, by decide, by decide +kernel, mI (t_3 162 rfl) rfl, mI (t_3 163 rfl) rfl, mI (t_1 1 rfl) rfl, mI (t_3 164 rfl) rfl⟩
theorem cv_X3_feed : CV yX3_feed cX3_feed 2 (some .int) 1 3 := ⟨rfl, by decide, by decide +kernel, mI (t_2 72 rfl) rfl, mI (t_2 73 rfl) rfl, mI (t_1 1 rfl) rfl, mI (t_2 74 rfl) rfl⟩
theorem cv_X3_fewest : CV yX3_fewest cX3_fewest 6 (some .int) 1 3 := ⟨rfl, by decide, by decide +kernel, mI (t_3 238 rfl) rfl, mI (t_3 239 rfl) rfl, mI (t_1 1 rfl) rfl, mI (t_4 0 rfl) rfl⟩
theorem cs_X3_firstGreatest : CS yX3_firstGreatest cX3_firstGreatest 4 (some .int) 2 := ⟨by decide +kernel, mI (t_3 99 rfl) rfl, mI (t_1 1 rfl) rfl, mI (t_3 100 rfl) rfl⟩
theorem cv_X3_firstPush : CV yX3_firstPush cX3_firstPush 6 (some .int) 2 3 := ⟨rfl, by decide, by decide +kernel, mI (t_3 187 rfl) rfl, mI (s_4 (q := (yX3_firstPush, 9)) 13 rfl) rfl, mI (t_1 1 rfl) rfl, mI (t_3 188 rfl) rfl⟩
theorem cv_X3_firstWrong : CV yX3_firstWrong cX3_firstWrong 4 (some .int) 2 3 := ⟨rfl, by decide, by decide +kernel, mI (t_3 175 rfl) rfl, mI (s_4 (q := (yX3_firstWrong, 9)) 12 rfl) rfl, mI (t_1 1 rfl) rfl, mI (t_3 176 rfl) rfl⟩
theorem cv_X3_fits : CV yX3_fits cX3_fits 6 (some .int) 2 3 := ⟨rfl, by decide, by decide +kernel, mI (t_3 178 rfl) rfl, mI (t_3 179 rfl) rfl, mI (t_1 1 rfl) rfl, mI (t_3 180 rfl) rfl⟩
theorem cv_X3_forward : CV yX3_forward cX3_forward 6 (some .int) 3 3 := ⟨rfl, by decide, by decide +kernel, mI (t_3 141 rfl) rfl, mI (t_3 142 rfl) rfl, mI (t_1 1 rfl) rfl, mI (t_3 143 rfl) rfl⟩
theorem cv_X3_hasAllPeople : CV yX3_hasAllPeople cX3_hasAllPeople 6 (some .boolean) 1 3 := ⟨rfl, by decide, by decide +kernel, mI (t_4 3 rfl) rfl, mI (s_4 (q := (yX3_hasAllPeople, 9)) 15 rfl) rfl, mI (t_1 1 rfl) rfl, mI (t_4 4 rfl) rfl⟩
theorem cv_X3_holds : CV yX3_holds cX3_holds 2 (some .int) 1 3 := ⟨rfl, by decide, by decide +kernel, mI (t_1 215 rfl) rfl, mI (t_1 216 rfl) rfl, mI (t_1 1 rfl) rfl, mI (t_1 217 rfl) rfl⟩
theorem cv_X3_image : CV yX3_image cX3_image 1 (some .int) 0 3 := ⟨rfl, by decide, by decide +kernel, mI (t_4 56 rfl) rfl, mI (t_4 57 rfl) rfl, mI (t_1 1 rfl) rfl, mI (t_4 58 rfl) rfl⟩
theorem ci_X3_init : CI yX3_init cX3_init 2 0 := ⟨rfl, by decide +kernel, mI (t_1 17 rfl) rfl, mI (t_1 1 rfl) rfl, mI (t_1 18 rfl) rfl⟩
theorem cs_X3_isBetween : CS yX3_isBetween cX3_isBetween 3 (some .boolean) 3 := ⟨by decide +kernel, mI (t_1 151 rfl) rfl, mI (t_1 1 rfl) rfl, mI (t_1 152 rfl) rfl⟩
theorem cs_X3_isKind : CS yX3_isKind cX3_isKind 1 (some .boolean) 1 := ⟨by decide +kernel, mI (t_1 239 rfl) rfl, mI (t_1 1 rfl) rfl, mI (t_2 0 rfl) rfl⟩
theorem cs_X3_isLeastOfItsRound : CS yX3_isLeastOfItsRound cX3_isLeastOfItsRound 5 (some .boolean) 3 := ⟨by decide +kernel, mI (t_3 219 rfl) rfl, mI (t_1 1 rfl) rfl, mI (t_3 220 rfl) rfl⟩
theorem cs_X3_isPack : CS yX3_isPack cX3_isPack 1 (some .boolean) 1 := ⟨by decide +kernel, mI (t_3 194 rfl) rfl, mI (t_1 1 rfl) rfl, mI (t_3 195 rfl) rfl⟩
theorem cs_X3_isShelf : CS yX3_isShelf cX3_isShelf 1 (some .boolean) 1 := ⟨by decide +kernel, mI (t_1 148 rfl) rfl, mI (t_1 1 rfl) rfl, mI (t_1 149 rfl) rfl⟩
theorem cs_X3_isUnder : CS yX3_isUnder cX3_isUnder 2 (some .boolean) 2 := ⟨by decide +kernel, mI (t_2 7 rfl) rfl, mI (t_1 1 rfl) rfl, mI (t_2 8 rfl) rfl⟩
theorem cv_X3_judge : CV yX3_judge cX3_judge 4 (some .int) 2 3 := ⟨rfl, by decide, by decide +kernel, mI (t_3 166 rfl) rfl, mI (t_3 167 rfl) rfl, mI (t_1 1 rfl) rfl, mI (t_3 168 rfl) rfl⟩
theorem cv_X3_law : CV yX3_law cX3_law 3 (some .int) 2 3 := ⟨rfl, by decide, by decide +kernel, mI (t_2 50 rfl) rfl, mI (t_2 51 rfl) rfl, mI (t_1 1 rfl) rfl, mI (t_2 52 rfl) rfl⟩
theorem cv_X3_lawFor : CV yX3_lawFor cX3_lawFor 6 (some .int) 2 3 := ⟨rfl, by decide, by decide +kernel, mI (t_3 133 rfl) rfl, mI (t_3 134 rfl) rfl, mI (t_1 1 rfl) rfl, mI (t_3 135 rfl) rfl⟩
theorem cv_X3_lawOf : CV yX3_lawOf cX3_lawOf 3 (some .int) 2 3 := ⟨rfl, by decide, by decide +kernel, mI (t_3 18 rfl) rfl, mI (t_3 19 rfl) rfl, mI (t_1 1 rfl) rfl, mI (t_3 20 rfl) rfl⟩
theorem cv_X3_leader : CV yX3_leader cX3_leader 2 (some .int) 1 3 := ⟨rfl, by decide, by decide +kernel, mI (t_3 88 rfl) rfl, mI (t_3 89 rfl) rfl, mI (t_1 1 rfl) rfl, mI (t_3 90 rfl) rfl⟩
theorem cv_X3_leaves : CV yX3_leaves cX3_leaves 1 (some .int) 0 3 := ⟨rfl, by decide, by decide +kernel, mI (t_4 34 rfl) rfl, mI (t_4 35 rfl) rfl, mI (t_1 1 rfl) rfl, mI (t_4 36 rfl) rfl⟩
theorem cv_X3_lets : CV yX3_lets cX3_lets 2 (some .int) 1 3 := ⟨rfl, by decide, by decide +kernel, mI (t_4 26 rfl) rfl, mI (t_4 27 rfl) rfl, mI (t_1 1 rfl) rfl, mI (t_4 28 rfl) rfl⟩
theorem cv_X3_level : CV yX3_level cX3_level 3 (some .int) 1 3 := ⟨rfl, by decide, by decide +kernel, mI (t_3 146 rfl) rfl, mI (t_3 147 rfl) rfl, mI (t_1 1 rfl) rfl, mI (t_3 148 rfl) rfl⟩
theorem cv_X3_lies : CV yX3_lies cX3_lies 5 (some .int) 4 3 := ⟨rfl, by decide, by decide +kernel, mI (t_3 204 rfl) rfl, mI (t_3 205 rfl) rfl, mI (t_1 1 rfl) rfl, mI (t_3 206 rfl) rfl⟩
theorem cv_X3_longest : CV yX3_longest cX3_longest 1 (some .int) 0 3 := ⟨rfl, by decide, by decide +kernel, mI (t_4 10 rfl) rfl, mI (t_4 11 rfl) rfl, mI (t_1 1 rfl) rfl, mI (t_4 12 rfl) rfl⟩
theorem cv_X3_moves : CV yX3_moves cX3_moves 4 (some .int) 2 3 := ⟨rfl, by decide, by decide +kernel, mI (t_4 30 rfl) rfl, mI (t_4 31 rfl) rfl, mI (t_1 1 rfl) rfl, mI (t_4 32 rfl) rfl⟩
theorem cv_X3_never : CV yX3_never cX3_never 1 (some .int) 0 3 := ⟨rfl, by decide, by decide +kernel, mI (t_3 71 rfl) rfl, mI (t_3 72 rfl) rfl, mI (t_1 1 rfl) rfl, mI (t_3 73 rfl) rfl⟩
theorem cv_X3_newcomer : CV yX3_newcomer cX3_newcomer 1 (some .int) 0 3 := ⟨rfl, by decide, by decide +kernel, mI (t_3 137 rfl) rfl, mI (t_3 138 rfl) rfl, mI (t_1 1 rfl) rfl, mI (t_3 139 rfl) rfl⟩
theorem cv_X3_personOf : CV yX3_personOf cX3_personOf 3 (some .int) 2 3 := ⟨rfl, by decide, by decide +kernel, mI (t_3 10 rfl) rfl, mI (t_3 11 rfl) rfl, mI (t_1 1 rfl) rfl, mI (t_3 12 rfl) rfl⟩
theorem cv_X3_pushed : CV yX3_pushed cX3_pushed 4 (some .int) 2 3 := ⟨rfl, by decide, by decide +kernel, mI (t_3 182 rfl) rfl, mI (t_3 183 rfl) rfl, mI (t_1 1 rfl) rfl, mI (t_3 184 rfl) rfl⟩
theorem cv_X3_rankOf : CV yX3_rankOf cX3_rankOf 5 (some .int) 1 3 := ⟨rfl, by decide, by decide +kernel, mI (t_4 19 rfl) rfl, mI (s_5 (q := (yX3_rankOf, 9)) 0 rfl) rfl, mI (t_1 1 rfl) rfl, mI (t_4 20 rfl) rfl⟩
theorem cv_X3_ranked : CV yX3_ranked cX3_ranked 3 (some .int) 1 3 := ⟨rfl, by decide, by decide +kernel, mI (t_4 14 rfl) rfl, mI (t_4 15 rfl) rfl, mI (t_1 1 rfl) rfl, mI (t_4 16 rfl) rfl⟩
theorem cv_X3_refusalOfSlate : CV yX3_refusalOfSlate cX3_refusalOfSlate 4 (some .int) 2 3 := ⟨rfl, by decide, by decide +kernel, mI (t_3 171 rfl) rfl, mI (s_4 (q := (yX3_refusalOfSlate, 9)) 11 rfl) rfl, mI (t_1 1 rfl) rfl, mI (t_3 172 rfl) rfl⟩
theorem cv_X3_refuse : CV yX3_refuse cX3_refuse 3 (some .int) 1 3 := ⟨rfl, by decide, by decide +kernel, mI (t_1 155 rfl) rfl, mI (s_1 (q := (yX3_refuse, 9)) 0 rfl) rfl, mI (t_1 1 rfl) rfl, mI (t_1 156 rfl) rfl⟩
theorem cv_X3_round : CV yX3_round cX3_round 2 (some .int) 0 3 := ⟨rfl, by decide, by decide +kernel, mI (t_3 54 rfl) rfl, mI (t_3 55 rfl) rfl, mI (t_1 1 rfl) rfl, mI (t_3 56 rfl) rfl⟩
theorem cv_X3_rounds : CV yX3_rounds cX3_rounds 5 (some .int) 2 3 := ⟨rfl, by decide, by decide +kernel, mI (t_3 215 rfl) rfl, mI (t_3 216 rfl) rfl, mI (t_1 1 rfl) rfl, mI (t_3 217 rfl) rfl⟩
theorem cv_X3_row : CV yX3_row cX3_row 4 (some .int) 3 3 := ⟨rfl, by decide, by decide +kernel, mI (t_1 144 rfl) rfl, mI (t_1 145 rfl) rfl, mI (t_1 1 rfl) rfl, mI (t_1 146 rfl) rfl⟩
theorem cv_X3_says : CV yX3_says cX3_says 4 (some .int) 2 3 := ⟨rfl, by decide, by decide +kernel, mI (t_1 235 rfl) rfl, mI (t_1 236 rfl) rfl, mI (t_1 1 rfl) rfl, mI (t_1 237 rfl) rfl⟩
theorem cv_X3_seed : CV yX3_seed cX3_seed 3 (some .int) 1 3 := ⟨rfl, by decide, by decide +kernel, mI (t_4 52 rfl) rfl, mI (t_4 53 rfl) rfl, mI (t_1 1 rfl) rfl, mI (t_4 54 rfl) rfl⟩
theorem cv_X3_serve : CV yX3_serve cX3_serve 2 (some .int) 1 3 := ⟨rfl, by decide, by decide +kernel, mI (t_4 22 rfl) rfl, mI (t_4 23 rfl) rfl, mI (t_1 1 rfl) rfl, mI (t_4 24 rfl) rfl⟩
theorem cv_X3_served : CV yX3_served cX3_served 2 (some .int) 1 3 := ⟨rfl, by decide, by decide +kernel, mI (t_3 49 rfl) rfl, mI (t_3 50 rfl) rfl, mI (t_1 1 rfl) rfl, mI (t_3 51 rfl) rfl⟩
theorem cv_X3_servedBits : CV yX3_servedBits cX3_servedBits 4 (some .int) 1 3 := ⟨rfl, by decide, by decide +kernel, mI (t_3 80 rfl) rfl, mI (s_4 (q := (yX3_servedBits, 9)) 6 rfl) rfl, mI (t_1 1 rfl) rfl, mI (t_3 81 rfl) rfl⟩
theorem cv_X3_set : CV yX3_set cX3_set 6 (some .int) 3 3 := ⟨rfl, by decide, by decide +kernel, mI (t_1 165 rfl) rfl, mI (t_1 166 rfl) rfl, mI (t_1 1 rfl) rfl, mI (t_1 167 rfl) rfl⟩
theorem cv_X3_several : CV yX3_several cX3_several 2 (some .int) 1 3 := ⟨rfl, by decide, by decide +kernel, mI (t_3 107 rfl) rfl, mI (t_3 108 rfl) rfl, mI (t_1 1 rfl) rfl, mI (t_3 109 rfl) rfl⟩
theorem cv_X3_shelvesInUse : CV yX3_shelvesInUse cX3_shelvesInUse 3 (some .int) 0 3 := ⟨rfl, by decide, by decide +kernel, mI (t_4 73 rfl) rfl, mI (s_5 (q := (yX3_shelvesInUse, 9)) 3 rfl) rfl, mI (t_1 1 rfl) rfl, mI (t_4 74 rfl) rfl⟩
theorem cv_X3_shop : CV yX3_shop cX3_shop 2 (some .int) 0 3 := ⟨rfl, by decide, by decide +kernel, mI (t_2 84 rfl) rfl, mI (t_2 85 rfl) rfl, mI (t_1 1 rfl) rfl, mI (t_2 86 rfl) rfl⟩
theorem cv_X3_show : CV yX3_show cX3_show 3 (some .int) 2 3 := ⟨rfl, by decide, by decide +kernel, mI (t_1 223 rfl) rfl, mI (t_1 224 rfl) rfl, mI (t_1 1 rfl) rfl, mI (t_1 225 rfl) rfl⟩
theorem cs_X3_shuffled : CS yX3_shuffled cX3_shuffled 5 (some .int) 3 := ⟨by decide +kernel, mI (t_3 201 rfl) rfl, mI (t_1 1 rfl) rfl, mI (t_3 202 rfl) rfl⟩
theorem cs_X3_shuffledTimes : CS yX3_shuffledTimes cX3_shuffledTimes 6 (some .int) 4 := ⟨by decide +kernel, mI (t_3 208 rfl) rfl, mI (t_1 1 rfl) rfl, mI (t_3 209 rfl) rfl⟩
theorem cv_X3_spread : CV yX3_spread cX3_spread 3 (some .int) 2 3 := ⟨rfl, by decide, by decide +kernel, mI (t_3 154 rfl) rfl, mI (t_3 155 rfl) rfl, mI (t_1 1 rfl) rfl, mI (t_3 156 rfl) rfl⟩
theorem cv_X3_spreadBy : CV yX3_spreadBy cX3_spreadBy 3 (some .int) 2 3 := ⟨rfl, by decide, by decide +kernel, mI (t_3 159 rfl) rfl, mI (s_4 (q := (yX3_spreadBy, 9)) 10 rfl) rfl, mI (t_1 1 rfl) rfl, mI (t_3 160 rfl) rfl⟩
theorem cv_X3_stand : CV yX3_stand cX3_stand 2 (some .int) 1 3 := ⟨rfl, by decide, by decide +kernel, mI (t_3 83 rfl) rfl, mI (t_3 84 rfl) rfl, mI (t_1 1 rfl) rfl, mI (t_3 85 rfl) rfl⟩
theorem cv_X3_stands : CV yX3_stands cX3_stands 3 (some .int) 2 3 := ⟨rfl, by decide, by decide +kernel, mI (t_3 31 rfl) rfl, mI (t_3 32 rfl) rfl, mI (t_1 1 rfl) rfl, mI (t_3 33 rfl) rfl⟩
theorem cv_X3_status : CV yX3_status cX3_status 2 (some .int) 1 3 := ⟨rfl, by decide, by decide +kernel, mI (t_4 64 rfl) rfl, mI (t_4 65 rfl) rfl, mI (t_1 1 rfl) rfl, mI (t_4 66 rfl) rfl⟩
theorem cv_X3_stay : CV yX3_stay cX3_stay 7 (some .int) 3 3 := ⟨rfl, by decide, by decide +kernel, mI (t_3 211 rfl) rfl, mI (t_3 212 rfl) rfl, mI (t_1 1 rfl) rfl, mI (t_3 213 rfl) rfl⟩
theorem cv_X3_tail : CV yX3_tail cX3_tail 2 (some .int) 1 3 := ⟨rfl, by decide, by decide +kernel, mI (t_3 222 rfl) rfl, mI (t_3 223 rfl) rfl, mI (t_1 1 rfl) rfl, mI (t_3 224 rfl) rfl⟩
theorem cv_X3_tell : CV yX3_tell cX3_tell 5 (some .int) 3 3 := ⟨rfl, by decide, by decide +kernel, mI (t_2 67 rfl) rfl, mI (t_2 68 rfl) rfl, mI (t_1 1 rfl) rfl, mI (t_2 69 rfl) rfl⟩
theorem cv_X3_think : CV yX3_think cX3_think 2 none 1 3 := ⟨rfl, by decide, by decide +kernel, mI (t_3 37 rfl) rfl, mI (s_4 (q := (yX3_think, 9)) 1 rfl) rfl, mI (t_1 1 rfl) rfl, mI (t_3 38 rfl) rfl⟩
theorem cv_X3_thinkBy : CV yX3_thinkBy cX3_thinkBy 2 none 1 3 := ⟨rfl, by decide, by decide +kernel, mI (t_3 130 rfl) rfl, mI (s_4 (q := (yX3_thinkBy, 9)) 8 rfl) rfl, mI (t_1 1 rfl) rfl, mI (t_3 131 rfl) rfl⟩
theorem cv_X3_timesAgain : CV yX3_timesAgain cX3_timesAgain 6 (some .int) 2 3 := ⟨rfl, by decide, by decide +kernel, mI (t_3 198 rfl) rfl, mI (s_4 (q := (yX3_timesAgain, 9)) 14 rfl) rfl, mI (t_1 1 rfl) rfl, mI (t_3 199 rfl) rfl⟩
theorem cv_X3_turnOfServing : CV yX3_turnOfServing cX3_turnOfServing 6 (some .int) 3 3 := ⟨rfl, by decide, by decide +kernel, mI (t_3 68 rfl) rfl, mI (s_4 (q := (yX3_turnOfServing, 9)) 4 rfl) rfl, mI (t_1 1 rfl) rfl, mI (t_3 69 rfl) rfl⟩
theorem cv_X3_unlike : CV yX3_unlike cX3_unlike 4 (some .int) 2 3 := ⟨rfl, by decide, by decide +kernel, mI (t_3 124 rfl) rfl, mI (t_3 125 rfl) rfl, mI (t_1 1 rfl) rfl, mI (t_3 126 rfl) rfl⟩
theorem cv_X3_unserved : CV yX3_unserved cX3_unserved 3 (some .int) 0 3 := ⟨rfl, by decide, by decide +kernel, mI (t_4 6 rfl) rfl, mI (t_4 7 rfl) rfl, mI (t_1 1 rfl) rfl, mI (t_4 8 rfl) rfl⟩
theorem cv_X3_use : CV yX3_use cX3_use 3 (some .int) 1 3 := ⟨rfl, by decide, by decide +kernel, mI (t_2 63 rfl) rfl, mI (t_2 64 rfl) rfl, mI (t_1 1 rfl) rfl, mI (t_2 65 rfl) rfl⟩
theorem cv_X3_waits : CV yX3_waits cX3_waits 5 (some .int) 1 3 := ⟨rfl, by decide, by decide +kernel, mI (t_3 102 rfl) rfl, mI (t_3 103 rfl) rfl, mI (t_1 1 rfl) rfl, mI (t_3 104 rfl) rfl⟩
theorem cv_X3_when : CV yX3_when cX3_when 3 (some .int) 2 3 := ⟨rfl, by decide, by decide +kernel, mI (t_3 63 rfl) rfl, mI (t_3 64 rfl) rfl, mI (t_1 1 rfl) rfl, mI (t_3 65 rfl) rfl⟩
theorem cv_X3_wipe : CV yX3_wipe cX3_wipe 2 (some .int) 0 3 := ⟨rfl, by decide, by decide +kernel, mI (t_2 80 rfl) rfl, mI (t_2 81 rfl) rfl, mI (t_1 1 rfl) rfl, mI (t_2 82 rfl) rfl⟩
theorem cv_X4_addLaw : CV yX4_addLaw cX4_addLaw 3 none 2 4 := ⟨rfl, by decide, by decide +kernel, mI (t_5 14 rfl) rfl, mI (s_5 (q := (yX4_addLaw, 31)) 10 rfl) rfl, mI (t_1 5 rfl) rfl, mI (t_5 15 rfl) rfl⟩
theorem cv_X4_addPerson : CV yX4_addPerson cX4_addPerson 1 none 0 4 := ⟨rfl, by decide, by decide +kernel, mI (t_5 5 rfl) rfl, mI (s_5 (q := (yX4_addPerson, 31)) 9 rfl) rfl, mI (t_1 5 rfl) rfl, mI (t_5 6 rfl) rfl⟩
theorem cv_X4_after : CV yX4_after cX4_after 6 (some .int) 2 4 := ⟨rfl, by decide, by decide +kernel, mI (t_6 79 rfl) rfl, mI (t_6 80 rfl) rfl, mI (t_1 5 rfl) rfl, mI (t_6 81 rfl) rfl⟩
theorem cv_X4_again : CV yX4_again cX4_again 4 (some .int) 2 4 := ⟨rfl, by decide, by decide +kernel, mI (t_6 41 rfl) rfl, mI (t_6 42 rfl) rfl, mI (t_1 5 rfl) rfl, mI (t_6 43 rfl) rfl⟩
theorem cv_X4_anew : CV yX4_anew cX4_anew 2 (some .int) 0 4 := ⟨rfl, by decide, by decide +kernel, mI (t_6 131 rfl) rfl, mI (t_6 132 rfl) rfl, mI (t_1 5 rfl) rfl, mI (t_6 133 rfl) rfl⟩
theorem cv_X4_anewBy : CV yX4_anewBy cX4_anewBy 3 (some (.object "BackByTwiceModel")) 1 4 := ⟨rfl, by decide, by decide +kernel, mI (t_6 2 rfl) rfl, mI (s_7 (q := (yX4_anewBy, 31)) 4 rfl) rfl, mI (t_1 5 rfl) rfl, mI (t_6 3 rfl) rfl⟩
theorem cv_X4_at : CV yX4_at cX4_at 2 (some .int) 1 4 := ⟨rfl, by decide, by decide +kernel, mI (t_5 145 rfl) rfl, mI (t_5 146 rfl) rfl, mI (t_1 5 rfl) rfl, mI (t_5 147 rfl) rfl⟩
theorem cv_X4_back : CV yX4_back cX4_back 2 (some .int) 0 4 := ⟨rfl, by decide, by decide +kernel, mI (t_6 143 rfl) rfl, mI (t_6 144 rfl) rfl, mI (t_1 5 rfl) rfl, mI (t_6 145 rfl) rfl⟩
theorem cv_X4_backBy : CV yX4_backBy cX4_backBy 6 (some .int) 3 4 := ⟨rfl, by decide, by decide +kernel, mI (t_4 237 rfl) rfl, mI (s_5 (q := (yX4_backBy, 31)) 8 rfl) rfl, mI (t_1 5 rfl) rfl, mI (t_4 238 rfl) rfl⟩
theorem cv_X4_beginsAnew : CV yX4_beginsAnew cX4_beginsAnew 2 none 0 4 := ⟨rfl, by decide, by decide +kernel, mI (t_5 206 rfl) rfl, mI (s_7 (q := (yX4_beginsAnew, 31)) 2 rfl) rfl, mI (t_1 5 rfl) rfl, mI (t_5 207 rfl) rfl⟩
theorem cv_X4_behind : CV yX4_behind cX4_behind 4 (some .int) 3 4 := ⟨rfl, by decide, by decide +kernel, mI (t_5 160 rfl) rfl, mI (t_5 161 rfl) rfl, mI (t_1 5 rfl) rfl, mI (t_5 162 rfl) rfl⟩
theorem cv_X4_behindOf : CV yX4_behindOf cX4_behindOf 3 (some (.object "BackByTwiceModel")) 1 4 := ⟨rfl, by decide, by decide +kernel, mI (t_5 157 rfl) rfl, mI (s_6 (q := (yX4_behindOf, 31)) 14 rfl) rfl, mI (t_1 5 rfl) rfl, mI (t_5 158 rfl) rfl⟩
theorem cv_X4_below : CV yX4_below cX4_below 2 (some .int) 1 4 := ⟨rfl, by decide, by decide +kernel, mI (t_6 127 rfl) rfl, mI (s_7 (q := (yX4_below, 31)) 11 rfl) rfl, mI (t_1 5 rfl) rfl, mI (t_6 128 rfl) rfl⟩
theorem cv_X4_beside : CV yX4_beside cX4_beside 6 (some .int) 2 4 := ⟨rfl, by decide, by decide +kernel, mI (t_5 217 rfl) rfl, mI (t_5 218 rfl) rfl, mI (t_1 5 rfl) rfl, mI (t_5 219 rfl) rfl⟩
theorem cv_X4_brings : CV yX4_brings cX4_brings 8 (some .int) 3 4 := ⟨rfl, by decide, by decide +kernel, mI (t_6 71 rfl) rfl, mI (t_6 72 rfl) rfl, mI (t_1 5 rfl) rfl, mI (t_6 73 rfl) rfl⟩
theorem cv_X4_comes : CV yX4_comes cX4_comes 1 (some .int) 0 4 := ⟨rfl, by decide, by decide +kernel, mI (t_5 0 rfl) rfl, mI (t_5 1 rfl) rfl, mI (t_1 5 rfl) rfl, mI (t_5 2 rfl) rfl⟩
theorem cs_X4_comesTo : CS yX4_comesTo cX4_comesTo 5 (some .int) 3 := ⟨by decide +kernel, mI (t_6 52 rfl) rfl, mI (t_1 5 rfl) rfl, mI (t_6 53 rfl) rfl⟩
theorem cs_X4_copied : CS yX4_copied cX4_copied 3 none 2 := ⟨by decide +kernel, mI (t_5 54 rfl) rfl, mI (t_1 5 rfl) rfl, mI (t_5 55 rfl) rfl⟩
theorem cv_X4_copy : CV yX4_copy cX4_copy 7 (some .int) 5 4 := ⟨rfl, by decide, by decide +kernel, mI (t_4 204 rfl) rfl, mI (t_4 205 rfl) rfl, mI (t_1 5 rfl) rfl, mI (t_4 206 rfl) rfl⟩
theorem cv_X4_day : CV yX4_day cX4_day 5 (some .int) 1 4 := ⟨rfl, by decide, by decide +kernel, mI (t_6 122 rfl) rfl, mI (t_6 123 rfl) rfl, mI (t_1 5 rfl) rfl, mI (t_6 124 rfl) rfl⟩
theorem cv_X4_element : CV yX4_element cX4_element 3 (some .long) 2 4 := ⟨rfl, by decide, by decide +kernel, mI (t_4 208 rfl) rfl, mI (t_4 209 rfl) rfl, mI (t_1 5 rfl) rfl, mI (t_4 210 rfl) rfl⟩
theorem cv_X4_fairest : CV yX4_fairest cX4_fairest 6 (some .int) 1 4 := ⟨rfl, by decide, by decide +kernel, mI (t_6 17 rfl) rfl, mI (t_6 18 rfl) rfl, mI (t_1 5 rfl) rfl, mI (t_6 19 rfl) rfl⟩
theorem cv_X4_feed : CV yX4_feed cX4_feed 2 (some .int) 1 4 := ⟨rfl, by decide, by decide +kernel, mI (t_5 31 rfl) rfl, mI (t_5 32 rfl) rfl, mI (t_1 5 rfl) rfl, mI (t_5 33 rfl) rfl⟩
theorem cv_X4_fewest : CV yX4_fewest cX4_fewest 7 (some .int) 1 4 := ⟨rfl, by decide, by decide +kernel, mI (t_6 83 rfl) rfl, mI (t_6 84 rfl) rfl, mI (t_1 5 rfl) rfl, mI (t_6 85 rfl) rfl⟩
theorem cv_X4_findAway : CV yX4_findAway cX4_findAway 8 none 2 4 := ⟨rfl, by decide, by decide +kernel, mI (t_6 76 rfl) rfl, mI (s_7 (q := (yX4_findAway, 31)) 9 rfl) rfl, mI (t_1 5 rfl) rfl, mI (t_6 77 rfl) rfl⟩
theorem cs_X4_fit : CS yX4_fit cX4_fit 3 (some .long) 2 := ⟨by decide +kernel, mI (t_4 201 rfl) rfl, mI (t_1 5 rfl) rfl, mI (t_4 202 rfl) rfl⟩
theorem cv_X4_fits : CV yX4_fits cX4_fits 7 (some .int) 2 4 := ⟨rfl, by decide, by decide +kernel, mI (t_6 33 rfl) rfl, mI (t_6 34 rfl) rfl, mI (t_1 5 rfl) rfl, mI (t_6 35 rfl) rfl⟩
theorem cv_X4_forward : CV yX4_forward cX4_forward 7 (some .int) 3 4 := ⟨rfl, by decide, by decide +kernel, mI (t_5 233 rfl) rfl, mI (t_5 234 rfl) rfl, mI (t_1 5 rfl) rfl, mI (t_5 235 rfl) rfl⟩
theorem cv_X4_fresh : CV yX4_fresh cX4_fresh 1 (some (.object "BackByTwiceModel")) 0 4 := ⟨rfl, by decide, by decide +kernel, mI (t_5 45 rfl) rfl, mI (s_5 (q := (yX4_fresh, 31)) 12 rfl) rfl, mI (t_1 5 rfl) rfl, mI (t_5 46 rfl) rfl⟩
theorem cv_X4_goes : CV yX4_goes cX4_goes 3 none 1 4 := ⟨rfl, by decide, by decide +kernel, mI (t_5 110 rfl) rfl, mI (s_6 (q := (yX4_goes, 31)) 8 rfl) rfl, mI (t_1 5 rfl) rfl, mI (t_5 111 rfl) rfl⟩
theorem cv_X4_goesOn : CV yX4_goesOn cX4_goesOn 1 (some .boolean) 0 4 := ⟨rfl, by decide, by decide +kernel, mI (t_5 106 rfl) rfl, mI (s_6 (q := (yX4_goesOn, 31)) 7 rfl) rfl, mI (t_1 5 rfl) rfl, mI (t_5 107 rfl) rfl⟩
theorem cs_X4_has : CS yX4_has cX4_has 2 (some .boolean) 2 := ⟨by decide +kernel, mI (t_6 103 rfl) rfl, mI (t_1 5 rfl) rfl, mI (t_6 104 rfl) rfl⟩
theorem cv_X4_holds : CV yX4_holds cX4_holds 2 (some .int) 1 4 := ⟨rfl, by decide, by decide +kernel, mI (t_4 212 rfl) rfl, mI (t_4 213 rfl) rfl, mI (t_1 5 rfl) rfl, mI (t_4 214 rfl) rfl⟩
theorem cv_X4_image : CV yX4_image cX4_image 1 (some .int) 0 4 := ⟨rfl, by decide, by decide +kernel, mI (t_6 139 rfl) rfl, mI (t_6 140 rfl) rfl, mI (t_1 5 rfl) rfl, mI (t_6 141 rfl) rfl⟩
theorem cs_X4_in : CS yX4_in cX4_in 6 (some .boolean) 3 := ⟨by decide +kernel, mI (t_4 184 rfl) rfl, mI (t_1 5 rfl) rfl, mI (t_4 185 rfl) rfl⟩
theorem ci_X4_init : CI yX4_init cX4_init 1 0 := ⟨rfl, by decide +kernel, mI (t_4 78 rfl) rfl, mI (t_1 5 rfl) rfl, mI (t_4 79 rfl) rfl⟩
theorem cs_X4_isDigit : CS yX4_isDigit cX4_isDigit 1 (some .boolean) 1 := ⟨by decide +kernel, mI (t_5 68 rfl) rfl, mI (t_1 5 rfl) rfl, mI (t_5 69 rfl) rfl⟩
theorem cv_X4_isLaw : CV yX4_isLaw cX4_isLaw 2 (some .boolean) 1 4 := ⟨rfl, by decide, by decide +kernel, mI (t_4 221 rfl) rfl, mI (s_5 (q := (yX4_isLaw, 31)) 6 rfl) rfl, mI (t_1 5 rfl) rfl, mI (t_4 222 rfl) rfl⟩
theorem cs_X4_isLetter : CS yX4_isLetter cX4_isLetter 1 (some .boolean) 1 := ⟨by decide +kernel, mI (t_5 65 rfl) rfl, mI (t_1 5 rfl) rfl, mI (t_5 66 rfl) rfl⟩
theorem cv_X4_isPerson : CV yX4_isPerson cX4_isPerson 3 (some .boolean) 1 4 := ⟨rfl, by decide, by decide +kernel, mI (t_5 28 rfl) rfl, mI (s_5 (q := (yX4_isPerson, 31)) 11 rfl) rfl, mI (t_1 5 rfl) rfl, mI (t_5 29 rfl) rfl⟩
theorem cs_X4_isUnder : CS yX4_isUnder cX4_isUnder 2 (some .boolean) 2 := ⟨by decide +kernel, mI (t_4 229 rfl) rfl, mI (t_1 5 rfl) rfl, mI (t_4 230 rfl) rfl⟩
theorem cv_X4_isWord : CV yX4_isWord cX4_isWord 3 (some .boolean) 1 4 := ⟨rfl, by decide, by decide +kernel, mI (t_5 77 rfl) rfl, mI (s_6 (q := (yX4_isWord, 31)) 1 rfl) rfl, mI (t_1 5 rfl) rfl, mI (t_5 78 rfl) rfl⟩
theorem cv_X4_judge : CV yX4_judge cX4_judge 4 (some .int) 2 4 := ⟨rfl, by decide, by decide +kernel, mI (t_6 21 rfl) rfl, mI (t_6 22 rfl) rfl, mI (t_1 5 rfl) rfl, mI (t_6 23 rfl) rfl⟩
theorem cv_X4_lastBy : CV yX4_lastBy cX4_lastBy 5 (some .int) 2 4 := ⟨rfl, by decide, by decide +kernel, mI (t_4 233 rfl) rfl, mI (s_5 (q := (yX4_lastBy, 31)) 7 rfl) rfl, mI (t_1 5 rfl) rfl, mI (t_4 234 rfl) rfl⟩
theorem cv_X4_lastLeaves : CV yX4_lastLeaves cX4_lastLeaves 1 none 0 4 := ⟨rfl, by decide, by decide +kernel, mI (t_5 124 rfl) rfl, mI (s_6 (q := (yX4_lastLeaves, 31)) 11 rfl) rfl, mI (t_1 5 rfl) rfl, mI (t_5 125 rfl) rfl⟩
theorem cv_X4_law : CV yX4_law cX4_law 3 (some .int) 2 4 := ⟨rfl, by decide, by decide +kernel, mI (t_5 8 rfl) rfl, mI (t_5 9 rfl) rfl, mI (t_1 5 rfl) rfl, mI (t_5 10 rfl) rfl⟩
theorem cv_X4_lawFor : CV yX4_lawFor cX4_lawFor 7 (some .int) 2 4 := ⟨rfl, by decide, by decide +kernel, mI (t_5 225 rfl) rfl, mI (t_5 226 rfl) rfl, mI (t_1 5 rfl) rfl, mI (t_5 227 rfl) rfl⟩
theorem cv_X4_lawOf : CV yX4_lawOf cX4_lawOf 3 (some .int) 2 4 := ⟨rfl, by decide, by decide +kernel, mI (t_5 141 rfl) rfl, mI (t_5 142 rfl) rfl, mI (t_1 5 rfl) rfl, mI (t_5 143 rfl) rfl⟩
theorem cv_X4_leader : CV yX4_leader cX4_leader 3 (some .int) 1 4 := ⟨rfl, by decide, by decide +kernel, mI (t_5 201 rfl) rfl, mI (t_5 202 rfl) rfl, mI (t_1 5 rfl) rfl, mI (t_5 203 rfl) rfl⟩
theorem cv_X4_leaves : CV yX4_leaves cX4_leaves 1 (some .int) 0 4 := ⟨rfl, by decide, by decide +kernel, mI (t_6 118 rfl) rfl, mI (t_6 119 rfl) rfl, mI (t_1 5 rfl) rfl, mI (t_6 120 rfl) rfl⟩
theorem cv_X4_lets : CV yX4_lets cX4_lets 2 (some .int) 1 4 := ⟨rfl, by decide, by decide +kernel, mI (t_6 110 rfl) rfl, mI (t_6 111 rfl) rfl, mI (t_1 5 rfl) rfl, mI (t_6 112 rfl) rfl⟩
theorem cv_X4_lettingAt : CV yX4_lettingAt cX4_lettingAt 3 none 1 4 := ⟨rfl, by decide, by decide +kernel, mI (t_5 119 rfl) rfl, mI (s_6 (q := (yX4_lettingAt, 31)) 10 rfl) rfl, mI (t_1 5 rfl) rfl, mI (t_5 120 rfl) rfl⟩
theorem cv_X4_level : CV yX4_level cX4_level 4 (some .int) 1 4 := ⟨rfl, by decide, by decide +kernel, mI (t_5 237 rfl) rfl, mI (t_5 238 rfl) rfl, mI (t_1 5 rfl) rfl, mI (t_5 239 rfl) rfl⟩
theorem cv_X4_lies : CV yX4_lies cX4_lies 5 (some .int) 4 4 := ⟨rfl, by decide, by decide +kernel, mI (t_6 55 rfl) rfl, mI (t_6 56 rfl) rfl, mI (t_1 5 rfl) rfl, mI (t_6 57 rfl) rfl⟩
theorem cs_X4_liesAt : CS yX4_liesAt cX4_liesAt 6 (some .int) 4 := ⟨by decide +kernel, mI (t_6 49 rfl) rfl, mI (t_1 5 rfl) rfl, mI (t_6 50 rfl) rfl⟩
theorem cv_X4_longest : CV yX4_longest cX4_longest 1 (some .int) 0 4 := ⟨rfl, by decide, by decide +kernel, mI (t_6 91 rfl) rfl, mI (t_6 92 rfl) rfl, mI (t_1 5 rfl) rfl, mI (t_6 93 rfl) rfl⟩
theorem cv_X4_longestOf : CV yX4_longestOf cX4_longestOf 3 (some .int) 0 4 := ⟨rfl, by decide, by decide +kernel, mI (t_6 96 rfl) rfl, mI (s_7 (q := (yX4_longestOf, 31)) 10 rfl) rfl, mI (t_1 5 rfl) rfl, mI (t_6 97 rfl) rfl⟩
theorem cv_X4_look : CV yX4_look cX4_look 1 none 0 4 := ⟨rfl, by decide, by decide +kernel, mI (t_5 62 rfl) rfl, mI (s_5 (q := (yX4_look, 31)) 15 rfl) rfl, mI (t_1 5 rfl) rfl, mI (t_5 63 rfl) rfl⟩
theorem cs_X4_mayTurns : CS yX4_mayTurns cX4_mayTurns 1 (some .boolean) 1 := ⟨by decide +kernel, mI (t_5 153 rfl) rfl, mI (t_1 5 rfl) rfl, mI (t_5 154 rfl) rfl⟩
theorem cv_X4_mostCounts : CV yX4_mostCounts cX4_mostCounts 3 (some .int) 0 4 := ⟨rfl, by decide, by decide +kernel, mI (t_5 210 rfl) rfl, mI (s_7 (q := (yX4_mostCounts, 31)) 3 rfl) rfl, mI (t_1 5 rfl) rfl, mI (t_5 211 rfl) rfl⟩
theorem cv_X4_moves : CV yX4_moves cX4_moves 4 (some .int) 2 4 := ⟨rfl, by decide, by decide +kernel, mI (t_6 114 rfl) rfl, mI (t_6 115 rfl) rfl, mI (t_1 5 rfl) rfl, mI (t_6 116 rfl) rfl⟩
theorem cv_X4_movesTo : CV yX4_movesTo cX4_movesTo 4 none 2 4 := ⟨rfl, by decide, by decide +kernel, mI (t_5 128 rfl) rfl, mI (s_6 (q := (yX4_movesTo, 31)) 12 rfl) rfl, mI (t_1 5 rfl) rfl, mI (t_5 129 rfl) rfl⟩
theorem cv_X4_never : CV yX4_never cX4_never 1 (some .int) 0 4 := ⟨rfl, by decide, by decide +kernel, mI (t_5 185 rfl) rfl, mI (t_5 186 rfl) rfl, mI (t_1 5 rfl) rfl, mI (t_5 187 rfl) rfl⟩
theorem cv_X4_newcomer : CV yX4_newcomer cX4_newcomer 2 (some .int) 0 4 := ⟨rfl, by decide, by decide +kernel, mI (t_5 229 rfl) rfl, mI (t_5 230 rfl) rfl, mI (t_1 5 rfl) rfl, mI (t_5 231 rfl) rfl⟩
theorem cv_X4_noRow : CV yX4_noRow cX4_noRow 2 (some .int) 1 4 := ⟨rfl, by decide, by decide +kernel, mI (t_4 198 rfl) rfl, mI (s_5 (q := (yX4_noRow, 31)) 5 rfl) rfl, mI (t_1 5 rfl) rfl, mI (t_4 199 rfl) rfl⟩
theorem cv_X4_noSlate : CV yX4_noSlate cX4_noSlate 4 (some .int) 2 4 := ⟨rfl, by decide, by decide +kernel, mI (t_6 26 rfl) rfl, mI (s_7 (q := (yX4_noSlate, 31)) 7 rfl) rfl, mI (t_1 5 rfl) rfl, mI (t_6 27 rfl) rfl⟩
theorem cv_X4_number : CV yX4_number cX4_number 4 (some .boolean) 3 4 := ⟨rfl, by decide, by decide +kernel, mI (t_5 91 rfl) rfl, mI (s_6 (q := (yX4_number, 31)) 4 rfl) rfl, mI (t_1 5 rfl) rfl, mI (t_5 92 rfl) rfl⟩
theorem cv_X4_peopleTold : CV yX4_peopleTold cX4_peopleTold 2 (some .boolean) 0 4 := ⟨rfl, by decide, by decide +kernel, mI (t_5 83 rfl) rfl, mI (s_6 (q := (yX4_peopleTold, 31)) 2 rfl) rfl, mI (t_1 5 rfl) rfl, mI (t_5 84 rfl) rfl⟩
theorem cv_X4_personOf : CV yX4_personOf cX4_personOf 3 (some .int) 2 4 := ⟨rfl, by decide, by decide +kernel, mI (t_5 136 rfl) rfl, mI (t_5 137 rfl) rfl, mI (t_1 5 rfl) rfl, mI (t_5 138 rfl) rfl⟩
theorem cv_X4_placeOf : CV yX4_placeOf cX4_placeOf 3 (some .int) 1 4 := ⟨rfl, by decide, by decide +kernel, mI (t_5 132 rfl) rfl, mI (s_6 (q := (yX4_placeOf, 31)) 13 rfl) rfl, mI (t_1 5 rfl) rfl, mI (t_5 133 rfl) rfl⟩
theorem cv_X4_pushed : CV yX4_pushed cX4_pushed 7 (some .int) 2 4 := ⟨rfl, by decide, by decide +kernel, mI (t_6 37 rfl) rfl, mI (t_6 38 rfl) rfl, mI (t_1 5 rfl) rfl, mI (t_6 39 rfl) rfl⟩
theorem cv_X4_ranked : CV yX4_ranked cX4_ranked 6 (some .int) 1 4 := ⟨rfl, by decide, by decide +kernel, mI (t_6 99 rfl) rfl, mI (t_6 100 rfl) rfl, mI (t_1 5 rfl) rfl, mI (t_6 101 rfl) rfl⟩
theorem cv_X4_readAll : CV yX4_readAll cX4_readAll 1 (some .boolean) 0 4 := ⟨rfl, by decide, by decide +kernel, mI (t_5 58 rfl) rfl, mI (s_5 (q := (yX4_readAll, 31)) 14 rfl) rfl, mI (t_1 5 rfl) rfl, mI (t_5 59 rfl) rfl⟩
theorem cv_X4_refuse : CV yX4_refuse cX4_refuse 2 (some .int) 1 4 := ⟨rfl, by decide, by decide +kernel, mI (t_4 190 rfl) rfl, mI (s_5 (q := (yX4_refuse, 31)) 4 rfl) rfl, mI (t_1 5 rfl) rfl, mI (t_4 191 rfl) rfl⟩
theorem cv_X4_round : CV yX4_round cX4_round 3 (some .int) 0 4 := ⟨rfl, by decide, by decide +kernel, mI (t_5 169 rfl) rfl, mI (t_5 170 rfl) rfl, mI (t_1 5 rfl) rfl, mI (t_5 171 rfl) rfl⟩
theorem cv_X4_rounds : CV yX4_rounds cX4_rounds 6 (some .int) 2 4 := ⟨rfl, by decide, by decide +kernel, mI (t_6 63 rfl) rfl, mI (t_6 64 rfl) rfl, mI (t_1 5 rfl) rfl, mI (t_6 65 rfl) rfl⟩
theorem cv_X4_row : CV yX4_row cX4_row 5 (some .int) 3 4 := ⟨rfl, by decide, by decide +kernel, mI (t_4 179 rfl) rfl, mI (t_4 180 rfl) rfl, mI (t_1 5 rfl) rfl, mI (t_4 181 rfl) rfl⟩
theorem cv_X4_says : CV yX4_says cX4_says 5 (some .int) 2 4 := ⟨rfl, by decide, by decide +kernel, mI (t_4 224 rfl) rfl, mI (t_4 225 rfl) rfl, mI (t_1 5 rfl) rfl, mI (t_4 226 rfl) rfl⟩
theorem cv_X4_seed : CV yX4_seed cX4_seed 3 (some .int) 1 4 := ⟨rfl, by decide, by decide +kernel, mI (t_6 135 rfl) rfl, mI (t_6 136 rfl) rfl, mI (t_1 5 rfl) rfl, mI (t_6 137 rfl) rfl⟩
theorem cv_X4_serve : CV yX4_serve cX4_serve 2 (some .int) 1 4 := ⟨rfl, by decide, by decide +kernel, mI (t_6 106 rfl) rfl, mI (t_6 107 rfl) rfl, mI (t_1 5 rfl) rfl, mI (t_6 108 rfl) rfl⟩
theorem cv_X4_serveTold : CV yX4_serveTold cX4_serveTold 1 (some .boolean) 0 4 := ⟨rfl, by decide, by decide +kernel, mI (t_5 102 rfl) rfl, mI (s_6 (q := (yX4_serveTold, 31)) 6 rfl) rfl, mI (t_1 5 rfl) rfl, mI (t_5 103 rfl) rfl⟩
theorem cv_X4_served : CV yX4_served cX4_served 2 (some .int) 1 4 := ⟨rfl, by decide, by decide +kernel, mI (t_5 165 rfl) rfl, mI (t_5 166 rfl) rfl, mI (t_1 5 rfl) rfl, mI (t_5 167 rfl) rfl⟩
theorem cv_X4_servedIn : CV yX4_servedIn cX4_servedIn 5 (some .int) 1 4 := ⟨rfl, by decide, by decide +kernel, mI (t_5 190 rfl) rfl, mI (s_7 (q := (yX4_servedIn, 31)) 1 rfl) rfl, mI (t_1 5 rfl) rfl, mI (t_5 191 rfl) rfl⟩
theorem cv_X4_set : CV yX4_set cX4_set 6 (some .int) 3 4 := ⟨rfl, by decide, by decide +kernel, mI (t_4 193 rfl) rfl, mI (t_4 194 rfl) rfl, mI (t_1 5 rfl) rfl, mI (t_4 195 rfl) rfl⟩
theorem cv_X4_several : CV yX4_several cX4_several 4 (some .int) 1 4 := ⟨rfl, by decide, by decide +kernel, mI (t_5 193 rfl) rfl, mI (t_5 194 rfl) rfl, mI (t_1 5 rfl) rfl, mI (t_5 195 rfl) rfl⟩
theorem cv_X4_shop : CV yX4_shop cX4_shop 3 (some .int) 0 4 := ⟨rfl, by decide, by decide +kernel, mI (t_5 40 rfl) rfl, mI (t_5 41 rfl) rfl, mI (t_1 5 rfl) rfl, mI (t_5 42 rfl) rfl⟩
theorem cv_X4_show : CV yX4_show cX4_show 3 (some .int) 2 4 := ⟨rfl, by decide, by decide +kernel, mI (t_4 216 rfl) rfl, mI (t_4 217 rfl) rfl, mI (t_1 5 rfl) rfl, mI (t_4 218 rfl) rfl⟩
theorem cv_X4_spread : CV yX4_spread cX4_spread 3 (some .int) 2 4 := ⟨rfl, by decide, by decide +kernel, mI (t_6 9 rfl) rfl, mI (t_6 10 rfl) rfl, mI (t_1 5 rfl) rfl, mI (t_6 11 rfl) rfl⟩
theorem cv_X4_spreadBy : CV yX4_spreadBy cX4_spreadBy 4 (some .int) 2 4 := ⟨rfl, by decide, by decide +kernel, mI (t_6 14 rfl) rfl, mI (s_7 (q := (yX4_spreadBy, 31)) 6 rfl) rfl, mI (t_1 5 rfl) rfl, mI (t_6 15 rfl) rfl⟩
theorem cv_X4_spreadNow : CV yX4_spreadNow cX4_spreadNow 4 (some .int) 0 4 := ⟨rfl, by decide, by decide +kernel, mI (t_6 6 rfl) rfl, mI (s_7 (q := (yX4_spreadNow, 31)) 5 rfl) rfl, mI (t_1 5 rfl) rfl, mI (t_6 7 rfl) rfl⟩
theorem cv_X4_stand : CV yX4_stand cX4_stand 2 (some .int) 1 4 := ⟨rfl, by decide, by decide +kernel, mI (t_5 197 rfl) rfl, mI (t_5 198 rfl) rfl, mI (t_1 5 rfl) rfl, mI (t_5 199 rfl) rfl⟩
theorem cv_X4_stands : CV yX4_stands cX4_stands 3 (some .int) 2 4 := ⟨rfl, by decide, by decide +kernel, mI (t_5 149 rfl) rfl, mI (t_5 150 rfl) rfl, mI (t_1 5 rfl) rfl, mI (t_5 151 rfl) rfl⟩
theorem cv_X4_standsAs : CV yX4_standsAs cX4_standsAs 3 (some .boolean) 1 4 := ⟨rfl, by decide, by decide +kernel, mI (t_5 174 rfl) rfl, mI (s_6 (q := (yX4_standsAs, 31)) 15 rfl) rfl, mI (t_1 5 rfl) rfl, mI (t_5 175 rfl) rfl⟩
theorem cv_X4_statement : CV yX4_statement cX4_statement 2 (some .boolean) 0 4 := ⟨rfl, by decide, by decide +kernel, mI (t_5 72 rfl) rfl, mI (s_6 (q := (yX4_statement, 31)) 0 rfl) rfl, mI (t_1 5 rfl) rfl, mI (t_5 73 rfl) rfl⟩
theorem cv_X4_status : CV yX4_status cX4_status 4 (some .int) 1 4 := ⟨rfl, by decide, by decide +kernel, mI (t_6 147 rfl) rfl, mI (t_6 148 rfl) rfl, mI (t_1 5 rfl) rfl, mI (t_6 149 rfl) rfl⟩
theorem cv_X4_stay : CV yX4_stay cX4_stay 4 (some .int) 3 4 := ⟨rfl, by decide, by decide +kernel, mI (t_6 59 rfl) rfl, mI (t_6 60 rfl) rfl, mI (t_1 5 rfl) rfl, mI (t_6 61 rfl) rfl⟩
theorem cs_X4_stayOf : CS yX4_stayOf cX4_stayOf 5 (some .int) 3 := ⟨by decide +kernel, mI (t_6 46 rfl) rfl, mI (t_1 5 rfl) rfl, mI (t_6 47 rfl) rfl⟩
theorem cv_X4_tail : CV yX4_tail cX4_tail 2 (some .int) 1 4 := ⟨rfl, by decide, by decide +kernel, mI (t_6 67 rfl) rfl, mI (t_6 68 rfl) rfl, mI (t_1 5 rfl) rfl, mI (t_6 69 rfl) rfl⟩
theorem cv_X4_takeFrom : CV yX4_takeFrom cX4_takeFrom 2 none 1 4 := ⟨rfl, by decide, by decide +kernel, mI (t_5 51 rfl) rfl, mI (s_5 (q := (yX4_takeFrom, 31)) 13 rfl) rfl, mI (t_1 5 rfl) rfl, mI (t_5 52 rfl) rfl⟩
theorem cv_X4_tell : CV yX4_tell cX4_tell 7 (some .int) 3 4 := ⟨rfl, by decide, by decide +kernel, mI (t_5 21 rfl) rfl, mI (t_5 22 rfl) rfl, mI (t_1 5 rfl) rfl, mI (t_5 23 rfl) rfl⟩
theorem cv_X4_tells : CV yX4_tells cX4_tells 3 (some .boolean) 2 4 := ⟨rfl, by decide, by decide +kernel, mI (t_5 87 rfl) rfl, mI (s_6 (q := (yX4_tells, 31)) 3 rfl) rfl, mI (t_1 5 rfl) rfl, mI (t_5 88 rfl) rfl⟩
theorem cv_X4_turn : CV yX4_turn cX4_turn 4 none 0 4 := ⟨rfl, by decide, by decide +kernel, mI (t_5 114 rfl) rfl, mI (s_6 (q := (yX4_turn, 31)) 9 rfl) rfl, mI (t_1 5 rfl) rfl, mI (t_5 115 rfl) rfl⟩
theorem cv_X4_unlike : CV yX4_unlike cX4_unlike 5 (some .int) 2 4 := ⟨rfl, by decide, by decide +kernel, mI (t_5 221 rfl) rfl, mI (t_5 222 rfl) rfl, mI (t_1 5 rfl) rfl, mI (t_5 223 rfl) rfl⟩
theorem cv_X4_unserved : CV yX4_unserved cX4_unserved 3 (some .int) 0 4 := ⟨rfl, by decide, by decide +kernel, mI (t_6 87 rfl) rfl, mI (t_6 88 rfl) rfl, mI (t_1 5 rfl) rfl, mI (t_6 89 rfl) rfl⟩
theorem cv_X4_use : CV yX4_use cX4_use 3 (some .int) 1 4 := ⟨rfl, by decide, by decide +kernel, mI (t_5 17 rfl) rfl, mI (t_5 18 rfl) rfl, mI (t_1 5 rfl) rfl, mI (t_5 19 rfl) rfl⟩
theorem cv_X4_waits : CV yX4_waits cX4_waits 6 (some .int) 1 4 := ⟨rfl, by decide, by decide +kernel, mI (t_5 213 rfl) rfl, mI (t_5 214 rfl) rfl, mI (t_1 5 rfl) rfl, mI (t_5 215 rfl) rfl⟩
theorem cv_X4_when : CV yX4_when cX4_when 3 (some .int) 2 4 := ⟨rfl, by decide, by decide +kernel, mI (t_5 177 rfl) rfl, mI (t_5 178 rfl) rfl, mI (t_1 5 rfl) rfl, mI (t_5 179 rfl) rfl⟩
theorem cv_X4_whenIn : CV yX4_whenIn cX4_whenIn 7 (some .int) 4 4 := ⟨rfl, by decide, by decide +kernel, mI (t_5 182 rfl) rfl, mI (s_7 (q := (yX4_whenIn, 31)) 0 rfl) rfl, mI (t_1 5 rfl) rfl, mI (t_5 183 rfl) rfl⟩
theorem cv_X4_wipe : CV yX4_wipe cX4_wipe 2 (some .int) 0 4 := ⟨rfl, by decide, by decide +kernel, mI (t_5 36 rfl) rfl, mI (t_5 37 rfl) rfl, mI (t_1 5 rfl) rfl, mI (t_5 38 rfl) rfl⟩
theorem cv_X4_wrong : CV yX4_wrong cX4_wrong 1 (some .boolean) 0 4 := ⟨rfl, by decide, by decide +kernel, mI (t_5 95 rfl) rfl, mI (s_6 (q := (yX4_wrong, 31)) 5 rfl) rfl, mI (t_1 5 rfl) rfl, mI (t_5 96 rfl) rfl⟩
theorem cv_X4_wrongIn : CV yX4_wrongIn cX4_wrongIn 4 (some .int) 2 4 := ⟨rfl, by decide, by decide +kernel, mI (t_6 30 rfl) rfl, mI (s_7 (q := (yX4_wrongIn, 31)) 8 rfl) rfl, mI (t_1 5 rfl) rfl, mI (t_6 31 rfl) rfl⟩
theorem lk_X3_9 : Cond.methodLink O_X3.1 9 yX1_init ∈ gw ∨ Cond.methodLinkNest O_X3.1 9 yX1_init "BackByTwice" ∈ nw := Or.inr (mN (t_1 24 rfl) rfl)
theorem lk_X3_27 : Cond.methodLink O_X3.1 27 yX2_init ∈ gw ∨ Cond.methodLinkNest O_X3.1 27 yX2_init "BackByTwice" ∈ nw := Or.inr (mN (t_1 73 rfl) rfl)
theorem lk_X3_38 : Cond.methodLink O_X3.1 38 yX0_init ∈ gw ∨ Cond.methodLinkNest O_X3.1 38 yX0_init "BackByTwice" ∈ nw := Or.inr (mN (t_1 95 rfl) rfl)
theorem lk_X3_46 : Cond.methodLink O_X3.1 46 yX3_isShelf ∈ gw ∨ Cond.methodLinkNest O_X3.1 46 yX3_isShelf "BackByTwice" ∈ nw := Or.inl (mI (t_1 147 rfl) rfl)
theorem lk_X3_50 : Cond.methodLink O_X3.1 50 yX3_isBetween ∈ gw ∨ Cond.methodLinkNest O_X3.1 50 yX3_isBetween "BackByTwice" ∈ nw := Or.inl (mI (t_1 150 rfl) rfl)
theorem lk_X3_54 : Cond.methodLink O_X3.1 54 yX3_refuse ∈ gw ∨ Cond.methodLinkNest O_X3.1 54 yX3_refuse "BackByTwice" ∈ nw := Or.inl (mI (t_1 153 rfl) rfl)
theorem lk_X3_58 : Cond.methodLink O_X3.1 58 yX0_holdRow ∈ gw ∨ Cond.methodLinkNest O_X3.1 58 yX0_holdRow "BackByTwice" ∈ nw := Or.inr (mN (t_1 157 rfl) rfl)
theorem lk_X3_62 : Cond.methodLink O_X3.1 62 yX0_refusalOfRow ∈ gw ∨ Cond.methodLinkNest O_X3.1 62 yX0_refusalOfRow "BackByTwice" ∈ nw := Or.inr (mN (t_1 168 rfl) rfl)
theorem lk_X3_66 : Cond.methodLink O_X3.1 66 yX0_hasPart ∈ gw ∨ Cond.methodLinkNest O_X3.1 66 yX0_hasPart "BackByTwice" ∈ nw := Or.inr (mN (t_1 180 rfl) rfl)
theorem lk_X3_70 : Cond.methodLink O_X3.1 70 yX0_put ∈ gw ∨ Cond.methodLinkNest O_X3.1 70 yX0_put "BackByTwice" ∈ nw := Or.inr (mN (t_1 184 rfl) rfl)
theorem lk_X3_74 : Cond.methodLink O_X3.1 74 yX0_holdsLaw ∈ gw ∨ Cond.methodLinkNest O_X3.1 74 yX0_holdsLaw "BackByTwice" ∈ nw := Or.inr (mN (t_1 197 rfl) rfl)
theorem lk_X3_78 : Cond.methodLink O_X3.1 78 yX0_isOtherRowThan ∈ gw ∨ Cond.methodLinkNest O_X3.1 78 yX0_isOtherRowThan "BackByTwice" ∈ nw := Or.inr (mN (t_1 198 rfl) rfl)
theorem lk_X3_82 : Cond.methodLink O_X3.1 82 yX0_holdsRow ∈ gw ∨ Cond.methodLinkNest O_X3.1 82 yX0_holdsRow "BackByTwice" ∈ nw := Or.inr (mN (t_1 202 rfl) rfl)
theorem lk_X3_95 : Cond.methodLink O_X3.1 95 yX0_elementAt ∈ gw ∨ Cond.methodLinkNest O_X3.1 95 yX0_elementAt "BackByTwice" ∈ nw := Or.inr (mN (t_1 210 rfl) rfl)
theorem lk_X3_99 : Cond.methodLink O_X3.1 99 yX0_content ∈ gw ∨ Cond.methodLinkNest O_X3.1 99 yX0_content "BackByTwice" ∈ nw := Or.inr (mN (t_1 218 rfl) rfl)
theorem lk_X3_102 : Cond.methodLink O_X3.1 102 yX1_hasLaw ∈ gw ∨ Cond.methodLinkNest O_X3.1 102 yX1_hasLaw "BackByTwice" ∈ nw := Or.inr (mN (t_1 226 rfl) rfl)
theorem lk_X3_105 : Cond.methodLink O_X3.1 105 yX0_holdLaw ∈ gw ∨ Cond.methodLinkNest O_X3.1 105 yX0_holdLaw "BackByTwice" ∈ nw := Or.inr (mN (t_1 230 rfl) rfl)
theorem lk_X3_109 : Cond.methodLink O_X3.1 109 yX3_isKind ∈ gw ∨ Cond.methodLinkNest O_X3.1 109 yX3_isKind "BackByTwice" ∈ nw := Or.inl (mI (t_1 238 rfl) rfl)
theorem lk_X3_116 : Cond.methodLink O_X3.1 116 yX1_kindOf ∈ gw ∨ Cond.methodLinkNest O_X3.1 116 yX1_kindOf "BackByTwice" ∈ nw := Or.inr (mN (t_2 1 rfl) rfl)
theorem lk_X3_119 : Cond.methodLink O_X3.1 119 yX3_isUnder ∈ gw ∨ Cond.methodLinkNest O_X3.1 119 yX3_isUnder "BackByTwice" ∈ nw := Or.inl (mI (t_2 6 rfl) rfl)
theorem lk_X3_122 : Cond.methodLink O_X3.1 122 yX1_amountOf ∈ gw ∨ Cond.methodLinkNest O_X3.1 122 yX1_amountOf "BackByTwice" ∈ nw := Or.inr (mN (t_2 9 rfl) rfl)
theorem lk_X3_125 : Cond.methodLink O_X3.1 125 yX1_lastThen ∈ gw ∨ Cond.methodLinkNest O_X3.1 125 yX1_lastThen "BackByTwice" ∈ nw := Or.inr (mN (t_2 13 rfl) rfl)
theorem lk_X3_128 : Cond.methodLink O_X3.1 128 yX1_stepsBack ∈ gw ∨ Cond.methodLinkNest O_X3.1 128 yX1_stepsBack "BackByTwice" ∈ nw := Or.inr (mN (t_2 25 rfl) rfl)
theorem lk_X3_131 : Cond.methodLink O_X3.1 131 yX1_hasRoom ∈ gw ∨ Cond.methodLinkNest O_X3.1 131 yX1_hasRoom "BackByTwice" ∈ nw := Or.inr (mN (t_2 40 rfl) rfl)
theorem lk_X3_134 : Cond.methodLink O_X3.1 134 yX1_add ∈ gw ∨ Cond.methodLinkNest O_X3.1 134 yX1_add "BackByTwice" ∈ nw := Or.inr (mN (t_2 44 rfl) rfl)
theorem lk_X3_137 : Cond.methodLink O_X3.1 137 yX1_hasRoomForLaw ∈ gw ∨ Cond.methodLinkNest O_X3.1 137 yX1_hasRoomForLaw "BackByTwice" ∈ nw := Or.inr (mN (t_2 53 rfl) rfl)
theorem lk_X3_140 : Cond.methodLink O_X3.1 140 yX1_addLaw ∈ gw ∨ Cond.methodLinkNest O_X3.1 140 yX1_addLaw "BackByTwice" ∈ nw := Or.inr (mN (t_2 57 rfl) rfl)
theorem lk_X3_147 : Cond.methodLink O_X3.1 147 yX1_hasPerson ∈ gw ∨ Cond.methodLinkNest O_X3.1 147 yX1_hasPerson "BackByTwice" ∈ nw := Or.inr (mN (t_2 70 rfl) rfl)
theorem lk_X3_156 : Cond.methodLink O_X3.1 156 yX2_add ∈ gw ∨ Cond.methodLinkNest O_X3.1 156 yX2_add "BackByTwice" ∈ nw := Or.inr (mN (t_2 75 rfl) rfl)
theorem lk_X3_161 : Cond.methodLink O_X3.1 161 yX1_become ∈ gw ∨ Cond.methodLinkNest O_X3.1 161 yX1_become "BackByTwice" ∈ nw := Or.inr (mN (t_2 87 rfl) rfl)
theorem lk_X3_165 : Cond.methodLink O_X3.1 165 yX2_readInto ∈ gw ∨ Cond.methodLinkNest O_X3.1 165 yX2_readInto "BackByTwice" ∈ nw := Or.inr (mN (t_2 92 rfl) rfl)
theorem lk_X3_172 : Cond.methodLink O_X3.1 172 yX1_fact ∈ gw ∨ Cond.methodLinkNest O_X3.1 172 yX1_fact "BackByTwice" ∈ nw := Or.inr (mN (t_3 13 rfl) rfl)
theorem lk_X3_175 : Cond.methodLink O_X3.1 175 yX1_hasPlace ∈ gw ∨ Cond.methodLinkNest O_X3.1 175 yX1_hasPlace "BackByTwice" ∈ nw := Or.inr (mN (t_3 25 rfl) rfl)
theorem lk_X3_178 : Cond.methodLink O_X3.1 178 yX1_who ∈ gw ∨ Cond.methodLinkNest O_X3.1 178 yX1_who "BackByTwice" ∈ nw := Or.inr (mN (t_3 26 rfl) rfl)
theorem lk_X3_181 : Cond.methodLink O_X3.1 181 yX1_isLawless ∈ gw ∨ Cond.methodLinkNest O_X3.1 181 yX1_isLawless "BackByTwice" ∈ nw := Or.inr (mN (t_3 34 rfl) rfl)
theorem lk_X3_184 : Cond.methodLink O_X3.1 184 yX3_think ∈ gw ∨ Cond.methodLinkNest O_X3.1 184 yX3_think "BackByTwice" ∈ nw := Or.inl (mI (t_3 35 rfl) rfl)
theorem lk_X3_187 : Cond.methodLink O_X3.1 187 yX1_isStuck ∈ gw ∨ Cond.methodLinkNest O_X3.1 187 yX1_isStuck "BackByTwice" ∈ nw := Or.inr (mN (t_3 52 rfl) rfl)
theorem lk_X3_190 : Cond.methodLink O_X3.1 190 yX1_turn ∈ gw ∨ Cond.methodLinkNest O_X3.1 190 yX1_turn "BackByTwice" ∈ nw := Or.inr (mN (t_3 57 rfl) rfl)
theorem lk_X3_193 : Cond.methodLink O_X3.1 193 yX1_standsLike ∈ gw ∨ Cond.methodLinkNest O_X3.1 193 yX1_standsLike "BackByTwice" ∈ nw := Or.inr (mN (t_3 58 rfl) rfl)
theorem lk_X3_197 : Cond.methodLink O_X3.1 197 yX3_turnOfServing ∈ gw ∨ Cond.methodLinkNest O_X3.1 197 yX3_turnOfServing "BackByTwice" ∈ nw := Or.inl (mI (t_3 66 rfl) rfl)
theorem lk_X3_201 : Cond.methodLink O_X3.1 201 yX1_allBits ∈ gw ∨ Cond.methodLinkNest O_X3.1 201 yX1_allBits "BackByTwice" ∈ nw := Or.inr (mN (t_3 74 rfl) rfl)
theorem lk_X3_204 : Cond.methodLink O_X3.1 204 yX3_servedBits ∈ gw ∨ Cond.methodLinkNest O_X3.1 204 yX3_servedBits "BackByTwice" ∈ nw := Or.inl (mI (t_3 78 rfl) rfl)
theorem lk_X3_207 : Cond.methodLink O_X3.1 207 yX1_placeOf ∈ gw ∨ Cond.methodLinkNest O_X3.1 207 yX1_placeOf "BackByTwice" ∈ nw := Or.inr (mN (t_3 86 rfl) rfl)
theorem lk_X3_210 : Cond.methodLink O_X3.1 210 yX1_startAnew ∈ gw ∨ Cond.methodLinkNest O_X3.1 210 yX1_startAnew "BackByTwice" ∈ nw := Or.inr (mN (t_3 91 rfl) rfl)
theorem lk_X3_213 : Cond.methodLink O_X3.1 213 yX1_turnTimes ∈ gw ∨ Cond.methodLinkNest O_X3.1 213 yX1_turnTimes "BackByTwice" ∈ nw := Or.inr (mN (t_3 39 rfl) rfl)
theorem lk_X3_219 : Cond.methodLink O_X3.1 219 yX3_firstGreatest ∈ gw ∨ Cond.methodLinkNest O_X3.1 219 yX3_firstGreatest "BackByTwice" ∈ nw := Or.inl (mI (t_3 98 rfl) rfl)
theorem lk_X3_223 : Cond.methodLink O_X3.1 223 yJ9_max_7cf53 ∈ gw ∨ Cond.methodLinkNest O_X3.1 223 yJ9_max_7cf53 "BackByTwice" ∈ nw := Or.inl (mI (t_3 105 rfl) rfl)
theorem lk_X3_228 : Cond.methodLink O_X3.1 228 yJ6_bitCount_0f7a4 ∈ gw ∨ Cond.methodLinkNest O_X3.1 228 yJ6_bitCount_0f7a4 "BackByTwice" ∈ nw := Or.inl (mI (t_3 110 rfl) rfl)
theorem lk_X3_233 : Cond.methodLink O_X3.1 233 yJ9_abs_0f7a4 ∈ gw ∨ Cond.methodLinkNest O_X3.1 233 yJ9_abs_0f7a4 "BackByTwice" ∈ nw := Or.inl (mI (t_3 120 rfl) rfl)
theorem lk_X3_236 : Cond.methodLink O_X3.1 236 yX1_isEmpty ∈ gw ∨ Cond.methodLinkNest O_X3.1 236 yX1_isEmpty "BackByTwice" ∈ nw := Or.inr (mN (t_3 127 rfl) rfl)
theorem lk_X3_239 : Cond.methodLink O_X3.1 239 yX3_thinkBy ∈ gw ∨ Cond.methodLinkNest O_X3.1 239 yX3_thinkBy "BackByTwice" ∈ nw := Or.inl (mI (t_3 128 rfl) rfl)
theorem lk_X3_245 : Cond.methodLink O_X3.1 245 yX1_move ∈ gw ∨ Cond.methodLinkNest O_X3.1 245 yX1_move "BackByTwice" ∈ nw := Or.inr (mN (t_3 144 rfl) rfl)
theorem lk_X3_248 : Cond.methodLink O_X3.1 248 yX1_countsApart ∈ gw ∨ Cond.methodLinkNest O_X3.1 248 yX1_countsApart "BackByTwice" ∈ nw := Or.inr (mN (t_3 149 rfl) rfl)
theorem lk_X3_251 : Cond.methodLink O_X3.1 251 yX3_spreadBy ∈ gw ∨ Cond.methodLinkNest O_X3.1 251 yX3_spreadBy "BackByTwice" ∈ nw := Or.inl (mI (t_3 157 rfl) rfl)
theorem lk_X3_254 : Cond.methodLink O_X3.1 254 yX3_refusalOfSlate ∈ gw ∨ Cond.methodLinkNest O_X3.1 254 yX3_refusalOfSlate "BackByTwice" ∈ nw := Or.inl (mI (t_3 169 rfl) rfl)
theorem lk_X3_257 : Cond.methodLink O_X3.1 257 yX3_firstWrong ∈ gw ∨ Cond.methodLinkNest O_X3.1 257 yX3_firstWrong "BackByTwice" ∈ nw := Or.inl (mI (t_3 173 rfl) rfl)
theorem lk_X3_261 : Cond.methodLink O_X3.1 261 yX3_firstPush ∈ gw ∨ Cond.methodLinkNest O_X3.1 261 yX3_firstPush "BackByTwice" ∈ nw := Or.inl (mI (t_3 185 rfl) rfl)
theorem lk_X3_264 : Cond.methodLink O_X3.1 264 yX3_isPack ∈ gw ∨ Cond.methodLinkNest O_X3.1 264 yX3_isPack "BackByTwice" ∈ nw := Or.inl (mI (t_3 193 rfl) rfl)
theorem lk_X3_267 : Cond.methodLink O_X3.1 267 yX3_timesAgain ∈ gw ∨ Cond.methodLinkNest O_X3.1 267 yX3_timesAgain "BackByTwice" ∈ nw := Or.inl (mI (t_3 196 rfl) rfl)
theorem lk_X3_271 : Cond.methodLink O_X3.1 271 yX3_shuffledTimes ∈ gw ∨ Cond.methodLinkNest O_X3.1 271 yX3_shuffledTimes "BackByTwice" ∈ nw := Or.inl (mI (t_3 207 rfl) rfl)
theorem lk_X3_275 : Cond.methodLink O_X3.1 275 yX3_isLeastOfItsRound ∈ gw ∨ Cond.methodLinkNest O_X3.1 275 yX3_isLeastOfItsRound "BackByTwice" ∈ nw := Or.inl (mI (t_3 218 rfl) rfl)
theorem lk_X3_279 : Cond.methodLink O_X3.1 279 yX3_digitsInTwos ∈ gw ∨ Cond.methodLinkNest O_X3.1 279 yX3_digitsInTwos "BackByTwice" ∈ nw := Or.inl (mI (t_3 229 rfl) rfl)
theorem lk_X3_282 : Cond.methodLink O_X3.1 282 yX1_letBefore ∈ gw ∨ Cond.methodLinkNest O_X3.1 282 yX1_letBefore "BackByTwice" ∈ nw := Or.inr (mN (t_3 236 rfl) rfl)
theorem lk_X3_285 : Cond.methodLink O_X3.1 285 yX3_hasAllPeople ∈ gw ∨ Cond.methodLinkNest O_X3.1 285 yX3_hasAllPeople "BackByTwice" ∈ nw := Or.inl (mI (t_4 1 rfl) rfl)
theorem lk_X3_288 : Cond.methodLink O_X3.1 288 yX3_rankOf ∈ gw ∨ Cond.methodLinkNest O_X3.1 288 yX3_rankOf "BackByTwice" ∈ nw := Or.inl (mI (t_4 17 rfl) rfl)
theorem lk_X3_291 : Cond.methodLink O_X3.1 291 yX1_removeLast ∈ gw ∨ Cond.methodLinkNest O_X3.1 291 yX1_removeLast "BackByTwice" ∈ nw := Or.inr (mN (t_4 37 rfl) rfl)
theorem lk_X3_294 : Cond.methodLink O_X3.1 294 yX1_draw ∈ gw ∨ Cond.methodLinkNest O_X3.1 294 yX1_draw "BackByTwice" ∈ nw := Or.inr (mN (t_4 42 rfl) rfl)
theorem lk_X3_307 : Cond.methodLink O_X3.1 307 yX1_allCounts ∈ gw ∨ Cond.methodLinkNest O_X3.1 307 yX1_allCounts "BackByTwice" ∈ nw := Or.inr (mN (t_4 67 rfl) rfl)
theorem lk_X3_310 : Cond.methodLink O_X3.1 310 yX3_shelvesInUse ∈ gw ∨ Cond.methodLinkNest O_X3.1 310 yX3_shelvesInUse "BackByTwice" ∈ nw := Or.inl (mI (t_4 71 rfl) rfl)
theorem lk_X3_313 : Cond.methodLink O_X3.1 313 yX3_shuffled ∈ gw ∨ Cond.methodLinkNest O_X3.1 313 yX3_shuffled "BackByTwice" ∈ nw := Or.inl (mI (t_3 200 rfl) rfl)
theorem lk_X0_22 : Cond.methodLink O_X0.1 22 yX0_holdsRow ∈ gw ∨ Cond.methodLinkNest O_X0.1 22 yX0_holdsRow "BackByTwice" ∈ nw := Or.inl (mI (t_1 176 rfl) rfl)
theorem lk_X0_26 : Cond.methodLink O_X0.1 26 yX0_holdsLaw ∈ gw ∨ Cond.methodLinkNest O_X0.1 26 yX0_holdsLaw "BackByTwice" ∈ nw := Or.inl (mI (t_1 172 rfl) rfl)
theorem lk_X0_32 : Cond.methodLink O_X0.1 32 yJ7_fill_d0a16 ∈ gw ∨ Cond.methodLinkNest O_X0.1 32 yJ7_fill_d0a16 "BackByTwice" ∈ nw := Or.inl (mI (t_1 161 rfl) rfl)
theorem lk_X0_38 : Cond.methodLink O_X0.1 38 yX0_hasPart ∈ gw ∨ Cond.methodLinkNest O_X0.1 38 yX0_hasPart "BackByTwice" ∈ nw := Or.inl (mI (t_1 188 rfl) rfl)
theorem lk_X0_42 : Cond.methodLink O_X0.1 42 yX0_cut ∈ gw ∨ Cond.methodLinkNest O_X0.1 42 yX0_cut "BackByTwice" ∈ nw := Or.inl (mI (t_1 189 rfl) rfl)
theorem lk_X1_49 : Cond.methodLink O_X1.1 49 yX1_isEmpty ∈ gw ∨ Cond.methodLinkNest O_X1.1 49 yX1_isEmpty "BackByTwice" ∈ nw := Or.inl (mI (t_2 198 rfl) rfl)
theorem lk_X1_53 : Cond.methodLink O_X1.1 53 yX1_isLawless ∈ gw ∨ Cond.methodLinkNest O_X1.1 53 yX1_isLawless "BackByTwice" ∈ nw := Or.inl (mI (t_2 202 rfl) rfl)
theorem lk_X1_56 : Cond.methodLink O_X1.1 56 yX1_hasPlace ∈ gw ∨ Cond.methodLinkNest O_X1.1 56 yX1_hasPlace "BackByTwice" ∈ nw := Or.inl (mI (t_2 221 rfl) rfl)
theorem lk_X1_60 : Cond.methodLink O_X1.1 60 yX1_hasPerson ∈ gw ∨ Cond.methodLinkNest O_X1.1 60 yX1_hasPerson "BackByTwice" ∈ nw := Or.inl (mI (t_2 17 rfl) rfl)
theorem lk_X1_63 : Cond.methodLink O_X1.1 63 yX1_placeOf ∈ gw ∨ Cond.methodLinkNest O_X1.1 63 yX1_placeOf "BackByTwice" ∈ nw := Or.inl (mI (t_2 238 rfl) rfl)
theorem lk_X1_67 : Cond.methodLink O_X1.1 67 yX1_hasLaw ∈ gw ∨ Cond.methodLinkNest O_X1.1 67 yX1_hasLaw "BackByTwice" ∈ nw := Or.inl (mI (t_2 5 rfl) rfl)
theorem lk_X1_70 : Cond.methodLink O_X1.1 70 yJ9_min_7cf53 ∈ gw ∨ Cond.methodLinkNest O_X1.1 70 yJ9_min_7cf53 "BackByTwice" ∈ nw := Or.inl (mI (t_2 22 rfl) rfl)
theorem lk_X1_76 : Cond.methodLink O_X1.1 76 yJ9_max_7cf53 ∈ gw ∨ Cond.methodLinkNest O_X1.1 76 yJ9_max_7cf53 "BackByTwice" ∈ nw := Or.inl (mI (t_2 33 rfl) rfl)
theorem lk_X1_79 : Cond.methodLink O_X1.1 79 yX1_hasRoom ∈ gw ∨ Cond.methodLinkNest O_X1.1 79 yX1_hasRoom "BackByTwice" ∈ nw := Or.inl (mI (t_2 48 rfl) rfl)
theorem lk_X1_82 : Cond.methodLink O_X1.1 82 yX1_move ∈ gw ∨ Cond.methodLinkNest O_X1.1 82 yX1_move "BackByTwice" ∈ nw := Or.inl (mI (t_2 234 rfl) rfl)
theorem lk_X1_86 : Cond.methodLink O_X1.1 86 yX1_hasRoomForLaw ∈ gw ∨ Cond.methodLinkNest O_X1.1 86 yX1_hasRoomForLaw "BackByTwice" ∈ nw := Or.inl (mI (t_2 61 rfl) rfl)
theorem lk_X1_89 : Cond.methodLink O_X1.1 89 yJ7_fill_53178 ∈ gw ∨ Cond.methodLinkNest O_X1.1 89 yJ7_fill_53178 "BackByTwice" ∈ nw := Or.inl (mI (t_3 95 rfl) rfl)
theorem lk_X1_95 : Cond.methodLink O_X1.1 95 yX1_stepsWanted ∈ gw ∨ Cond.methodLinkNest O_X1.1 95 yX1_stepsWanted "BackByTwice" ∈ nw := Or.inl (mI (t_2 29 rfl) rfl)
theorem lk_X1_98 : Cond.methodLink O_X1.1 98 yX3_isUnder ∈ gw ∨ Cond.methodLinkNest O_X1.1 98 yX3_isUnder "BackByTwice" ∈ nw := Or.inr (mN (t_2 21 rfl) rfl)
theorem lk_X1_102 : Cond.methodLink O_X1.1 102 yX1_stepsBack ∈ gw ∨ Cond.methodLinkNest O_X1.1 102 yX1_stepsBack "BackByTwice" ∈ nw := Or.inl (mI (t_2 210 rfl) rfl)
theorem lk_X1_105 : Cond.methodLink O_X1.1 105 yX1_lastThen ∈ gw ∨ Cond.methodLinkNest O_X1.1 105 yX1_lastThen "BackByTwice" ∈ nw := Or.inl (mI (t_2 211 rfl) rfl)
theorem lk_X1_108 : Cond.methodLink O_X1.1 108 yX1_turn ∈ gw ∨ Cond.methodLinkNest O_X1.1 108 yX1_turn "BackByTwice" ∈ nw := Or.inl (mI (t_3 43 rfl) rfl)
theorem lk_X2_22 : Cond.methodLink O_X2.1 22 yX2_goOn ∈ gw ∨ Cond.methodLinkNest O_X2.1 22 yX2_goOn "BackByTwice" ∈ nw := Or.inl (mI (t_2 96 rfl) rfl)
theorem lk_X2_25 : Cond.methodLink O_X2.1 25 yX2_readStatement ∈ gw ∨ Cond.methodLinkNest O_X2.1 25 yX2_readStatement "BackByTwice" ∈ nw := Or.inl (mI (t_2 107 rfl) rfl)
theorem lk_X2_34 : Cond.methodLink O_X2.1 34 yX2_isWord ∈ gw ∨ Cond.methodLinkNest O_X2.1 34 yX2_isWord "BackByTwice" ∈ nw := Or.inl (mI (t_2 112 rfl) rfl)
theorem lk_X2_38 : Cond.methodLink O_X2.1 38 yX2_readPeople ∈ gw ∨ Cond.methodLinkNest O_X2.1 38 yX2_readPeople "BackByTwice" ∈ nw := Or.inl (mI (t_2 164 rfl) rfl)
theorem lk_X2_43 : Cond.methodLink O_X2.1 43 yX1_hasRoomForLaw ∈ gw ∨ Cond.methodLinkNest O_X2.1 43 yX1_hasRoomForLaw "BackByTwice" ∈ nw := Or.inr (mN (t_2 178 rfl) rfl)
theorem lk_X2_49 : Cond.methodLink O_X2.1 49 yX2_readLaw ∈ gw ∨ Cond.methodLinkNest O_X2.1 49 yX2_readLaw "BackByTwice" ∈ nw := Or.inl (mI (t_2 179 rfl) rfl)
theorem lk_X2_54 : Cond.methodLink O_X2.1 54 yX2_readUse ∈ gw ∨ Cond.methodLinkNest O_X2.1 54 yX2_readUse "BackByTwice" ∈ nw := Or.inl (mI (t_2 185 rfl) rfl)
theorem lk_X2_59 : Cond.methodLink O_X2.1 59 yX2_readServe ∈ gw ∨ Cond.methodLinkNest O_X2.1 59 yX2_readServe "BackByTwice" ∈ nw := Or.inl (mI (t_2 190 rfl) rfl)
theorem lk_X2_64 : Cond.methodLink O_X2.1 64 yX2_readLet ∈ gw ∨ Cond.methodLinkNest O_X2.1 64 yX2_readLet "BackByTwice" ∈ nw := Or.inl (mI (t_2 213 rfl) rfl)
theorem lk_X2_69 : Cond.methodLink O_X2.1 69 yX2_readLeave ∈ gw ∨ Cond.methodLinkNest O_X2.1 69 yX2_readLeave "BackByTwice" ∈ nw := Or.inl (mI (t_2 226 rfl) rfl)
theorem lk_X2_74 : Cond.methodLink O_X2.1 74 yX2_readCount ∈ gw ∨ Cond.methodLinkNest O_X2.1 74 yX2_readCount "BackByTwice" ∈ nw := Or.inl (mI (t_3 3 rfl) rfl)
theorem lk_X2_79 : Cond.methodLink O_X2.1 79 yX2_number ∈ gw ∨ Cond.methodLinkNest O_X2.1 79 yX2_number "BackByTwice" ∈ nw := Or.inl (mI (t_2 168 rfl) rfl)
theorem lk_X2_83 : Cond.methodLink O_X2.1 83 yX1_add ∈ gw ∨ Cond.methodLinkNest O_X2.1 83 yX1_add "BackByTwice" ∈ nw := Or.inr (mN (t_2 176 rfl) rfl)
theorem lk_X2_87 : Cond.methodLink O_X2.1 87 yX1_addLaw ∈ gw ∨ Cond.methodLinkNest O_X2.1 87 yX1_addLaw "BackByTwice" ∈ nw := Or.inr (mN (t_2 183 rfl) rfl)
theorem lk_X2_96 : Cond.methodLink O_X2.1 96 yX1_isStuck ∈ gw ∨ Cond.methodLinkNest O_X2.1 96 yX1_isStuck "BackByTwice" ∈ nw := Or.inr (mN (t_2 194 rfl) rfl)
theorem lk_X2_99 : Cond.methodLink O_X2.1 99 yX1_turn ∈ gw ∨ Cond.methodLinkNest O_X2.1 99 yX1_turn "BackByTwice" ∈ nw := Or.inr (mN (t_2 206 rfl) rfl)
theorem lk_X2_102 : Cond.methodLink O_X2.1 102 yX1_letBefore ∈ gw ∨ Cond.methodLinkNest O_X2.1 102 yX1_letBefore "BackByTwice" ∈ nw := Or.inr (mN (t_2 217 rfl) rfl)
theorem lk_X2_106 : Cond.methodLink O_X2.1 106 yX1_removeLast ∈ gw ∨ Cond.methodLinkNest O_X2.1 106 yX1_removeLast "BackByTwice" ∈ nw := Or.inr (mN (t_2 230 rfl) rfl)
theorem lk_X2_109 : Cond.methodLink O_X2.1 109 yX1_hasPerson ∈ gw ∨ Cond.methodLinkNest O_X2.1 109 yX1_hasPerson "BackByTwice" ∈ nw := Or.inr (mN (t_3 7 rfl) rfl)
theorem lk_X2_116 : Cond.methodLink O_X2.1 116 yJ9_min_7cf53 ∈ gw ∨ Cond.methodLinkNest O_X2.1 116 yJ9_min_7cf53 "BackByTwice" ∈ nw := Or.inl (mI (t_2 100 rfl) rfl)
theorem lk_X2_121 : Cond.methodLink O_X2.1 121 yX2_isLetter ∈ gw ∨ Cond.methodLinkNest O_X2.1 121 yX2_isLetter "BackByTwice" ∈ nw := Or.inl (mI (t_2 101 rfl) rfl)
theorem lk_X2_124 : Cond.methodLink O_X2.1 124 yX2_isDigit ∈ gw ∨ Cond.methodLinkNest O_X2.1 124 yX2_isDigit "BackByTwice" ∈ nw := Or.inl (mI (t_2 104 rfl) rfl)
theorem lk_X2_127 : Cond.methodLink O_X2.1 127 yJ0_length_8abf5 ∈ gw ∨ Cond.methodLinkNest O_X2.1 127 yJ0_length_8abf5 "BackByTwice" ∈ nw := Or.inl (mI (t_2 116 rfl) rfl)
theorem lk_X2_132 : Cond.methodLink O_X2.1 132 yJ0_charAt_5068e ∈ gw ∨ Cond.methodLinkNest O_X2.1 132 yJ0_charAt_5068e "BackByTwice" ∈ nw := Or.inl (mI (t_2 126 rfl) rfl)
theorem lk_X2_136 : Cond.methodLink O_X2.1 136 yX2_numberInHand ∈ gw ∨ Cond.methodLinkNest O_X2.1 136 yX2_numberInHand "BackByTwice" ∈ nw := Or.inl (mI (t_2 172 rfl) rfl)
theorem lk_L_9 : Cond.methodLink O_L.1 9 yX3_init ∈ gw ∨ Cond.methodLinkNest O_L.1 9 yX3_init "BackByTwice" ∈ nw := Or.inl (mI (t_1 16 rfl) rfl)
theorem lk_L_12 : Cond.methodLink O_L.1 12 yX4_init ∈ gw ∨ Cond.methodLinkNest O_L.1 12 yX4_init "BackByTwice" ∈ nw := Or.inl (mI (t_4 77 rfl) rfl)
theorem lk_L_13 : Cond.methodLink O_L.1 13 yX3_row ∈ gw ∨ Cond.methodLinkNest O_L.1 13 yX3_row "BackByTwice" ∈ nw := Or.inl (mI (t_1 143 rfl) rfl)
theorem lk_L_17 : Cond.methodLink O_L.1 17 yX4_row ∈ gw ∨ Cond.methodLinkNest O_L.1 17 yX4_row "BackByTwice" ∈ nw := Or.inl (mI (t_4 178 rfl) rfl)
theorem lk_L_20 : Cond.methodLink O_L.1 20 yX3_set ∈ gw ∨ Cond.methodLinkNest O_L.1 20 yX3_set "BackByTwice" ∈ nw := Or.inl (mI (t_1 164 rfl) rfl)
theorem lk_L_24 : Cond.methodLink O_L.1 24 yX4_set ∈ gw ∨ Cond.methodLinkNest O_L.1 24 yX4_set "BackByTwice" ∈ nw := Or.inl (mI (t_4 192 rfl) rfl)
theorem lk_L_25 : Cond.methodLink O_L.1 25 yX3_copy ∈ gw ∨ Cond.methodLinkNest O_L.1 25 yX3_copy "BackByTwice" ∈ nw := Or.inl (mI (t_1 193 rfl) rfl)
theorem lk_L_29 : Cond.methodLink O_L.1 29 yX4_copy ∈ gw ∨ Cond.methodLinkNest O_L.1 29 yX4_copy "BackByTwice" ∈ nw := Or.inl (mI (t_4 203 rfl) rfl)
theorem lk_L_30 : Cond.methodLink O_L.1 30 yX3_element ∈ gw ∨ Cond.methodLinkNest O_L.1 30 yX3_element "BackByTwice" ∈ nw := Or.inl (mI (t_1 206 rfl) rfl)
theorem lk_L_34 : Cond.methodLink O_L.1 34 yX4_element ∈ gw ∨ Cond.methodLinkNest O_L.1 34 yX4_element "BackByTwice" ∈ nw := Or.inl (mI (t_4 207 rfl) rfl)
theorem lk_L_35 : Cond.methodLink O_L.1 35 yX3_holds ∈ gw ∨ Cond.methodLinkNest O_L.1 35 yX3_holds "BackByTwice" ∈ nw := Or.inl (mI (t_1 214 rfl) rfl)
theorem lk_L_39 : Cond.methodLink O_L.1 39 yX4_holds ∈ gw ∨ Cond.methodLinkNest O_L.1 39 yX4_holds "BackByTwice" ∈ nw := Or.inl (mI (t_4 211 rfl) rfl)
theorem lk_L_40 : Cond.methodLink O_L.1 40 yX3_show ∈ gw ∨ Cond.methodLinkNest O_L.1 40 yX3_show "BackByTwice" ∈ nw := Or.inl (mI (t_1 222 rfl) rfl)
theorem lk_L_44 : Cond.methodLink O_L.1 44 yX4_show ∈ gw ∨ Cond.methodLinkNest O_L.1 44 yX4_show "BackByTwice" ∈ nw := Or.inl (mI (t_4 215 rfl) rfl)
theorem lk_L_45 : Cond.methodLink O_L.1 45 yX3_says ∈ gw ∨ Cond.methodLinkNest O_L.1 45 yX3_says "BackByTwice" ∈ nw := Or.inl (mI (t_1 234 rfl) rfl)
theorem lk_L_48 : Cond.methodLink O_L.1 48 yX4_says ∈ gw ∨ Cond.methodLinkNest O_L.1 48 yX4_says "BackByTwice" ∈ nw := Or.inl (mI (t_4 223 rfl) rfl)
theorem lk_L_49 : Cond.methodLink O_L.1 49 yX3_comes ∈ gw ∨ Cond.methodLinkNest O_L.1 49 yX3_comes "BackByTwice" ∈ nw := Or.inl (mI (t_2 36 rfl) rfl)
theorem lk_L_53 : Cond.methodLink O_L.1 53 yX4_comes ∈ gw ∨ Cond.methodLinkNest O_L.1 53 yX4_comes "BackByTwice" ∈ nw := Or.inl (mI (t_4 239 rfl) rfl)
theorem lk_L_54 : Cond.methodLink O_L.1 54 yX3_law ∈ gw ∨ Cond.methodLinkNest O_L.1 54 yX3_law "BackByTwice" ∈ nw := Or.inl (mI (t_2 49 rfl) rfl)
theorem lk_L_57 : Cond.methodLink O_L.1 57 yX4_law ∈ gw ∨ Cond.methodLinkNest O_L.1 57 yX4_law "BackByTwice" ∈ nw := Or.inl (mI (t_5 7 rfl) rfl)
theorem lk_L_58 : Cond.methodLink O_L.1 58 yX3_use ∈ gw ∨ Cond.methodLinkNest O_L.1 58 yX3_use "BackByTwice" ∈ nw := Or.inl (mI (t_2 62 rfl) rfl)
theorem lk_L_61 : Cond.methodLink O_L.1 61 yX4_use ∈ gw ∨ Cond.methodLinkNest O_L.1 61 yX4_use "BackByTwice" ∈ nw := Or.inl (mI (t_5 16 rfl) rfl)
theorem lk_L_62 : Cond.methodLink O_L.1 62 yX3_tell ∈ gw ∨ Cond.methodLinkNest O_L.1 62 yX3_tell "BackByTwice" ∈ nw := Or.inl (mI (t_2 66 rfl) rfl)
theorem lk_L_65 : Cond.methodLink O_L.1 65 yX4_tell ∈ gw ∨ Cond.methodLinkNest O_L.1 65 yX4_tell "BackByTwice" ∈ nw := Or.inl (mI (t_5 20 rfl) rfl)
theorem lk_L_66 : Cond.methodLink O_L.1 66 yX3_feed ∈ gw ∨ Cond.methodLinkNest O_L.1 66 yX3_feed "BackByTwice" ∈ nw := Or.inl (mI (t_2 71 rfl) rfl)
theorem lk_L_69 : Cond.methodLink O_L.1 69 yX4_feed ∈ gw ∨ Cond.methodLinkNest O_L.1 69 yX4_feed "BackByTwice" ∈ nw := Or.inl (mI (t_5 30 rfl) rfl)
theorem lk_L_70 : Cond.methodLink O_L.1 70 yX3_wipe ∈ gw ∨ Cond.methodLinkNest O_L.1 70 yX3_wipe "BackByTwice" ∈ nw := Or.inl (mI (t_2 79 rfl) rfl)
theorem lk_L_73 : Cond.methodLink O_L.1 73 yX4_wipe ∈ gw ∨ Cond.methodLinkNest O_L.1 73 yX4_wipe "BackByTwice" ∈ nw := Or.inl (mI (t_5 35 rfl) rfl)
theorem lk_L_74 : Cond.methodLink O_L.1 74 yX3_shop ∈ gw ∨ Cond.methodLinkNest O_L.1 74 yX3_shop "BackByTwice" ∈ nw := Or.inl (mI (t_2 83 rfl) rfl)
theorem lk_L_77 : Cond.methodLink O_L.1 77 yX4_shop ∈ gw ∨ Cond.methodLinkNest O_L.1 77 yX4_shop "BackByTwice" ∈ nw := Or.inl (mI (t_5 39 rfl) rfl)
theorem lk_L_78 : Cond.methodLink O_L.1 78 yX3_personOf ∈ gw ∨ Cond.methodLinkNest O_L.1 78 yX3_personOf "BackByTwice" ∈ nw := Or.inl (mI (t_3 9 rfl) rfl)
theorem lk_L_81 : Cond.methodLink O_L.1 81 yX4_personOf ∈ gw ∨ Cond.methodLinkNest O_L.1 81 yX4_personOf "BackByTwice" ∈ nw := Or.inl (mI (t_5 135 rfl) rfl)
theorem lk_L_82 : Cond.methodLink O_L.1 82 yX3_lawOf ∈ gw ∨ Cond.methodLinkNest O_L.1 82 yX3_lawOf "BackByTwice" ∈ nw := Or.inl (mI (t_3 17 rfl) rfl)
theorem lk_L_85 : Cond.methodLink O_L.1 85 yX4_lawOf ∈ gw ∨ Cond.methodLinkNest O_L.1 85 yX4_lawOf "BackByTwice" ∈ nw := Or.inl (mI (t_5 140 rfl) rfl)
theorem lk_L_86 : Cond.methodLink O_L.1 86 yX3_at ∈ gw ∨ Cond.methodLinkNest O_L.1 86 yX3_at "BackByTwice" ∈ nw := Or.inl (mI (t_3 21 rfl) rfl)
theorem lk_L_89 : Cond.methodLink O_L.1 89 yX4_at ∈ gw ∨ Cond.methodLinkNest O_L.1 89 yX4_at "BackByTwice" ∈ nw := Or.inl (mI (t_5 144 rfl) rfl)
theorem lk_L_90 : Cond.methodLink O_L.1 90 yX3_stands ∈ gw ∨ Cond.methodLinkNest O_L.1 90 yX3_stands "BackByTwice" ∈ nw := Or.inl (mI (t_3 30 rfl) rfl)
theorem lk_L_93 : Cond.methodLink O_L.1 93 yX4_stands ∈ gw ∨ Cond.methodLinkNest O_L.1 93 yX4_stands "BackByTwice" ∈ nw := Or.inl (mI (t_5 148 rfl) rfl)
theorem lk_L_94 : Cond.methodLink O_L.1 94 yX3_behind ∈ gw ∨ Cond.methodLinkNest O_L.1 94 yX3_behind "BackByTwice" ∈ nw := Or.inl (mI (t_3 44 rfl) rfl)
theorem lk_L_97 : Cond.methodLink O_L.1 97 yX4_behind ∈ gw ∨ Cond.methodLinkNest O_L.1 97 yX4_behind "BackByTwice" ∈ nw := Or.inl (mI (t_5 159 rfl) rfl)
theorem lk_L_98 : Cond.methodLink O_L.1 98 yX3_served ∈ gw ∨ Cond.methodLinkNest O_L.1 98 yX3_served "BackByTwice" ∈ nw := Or.inl (mI (t_3 48 rfl) rfl)
theorem lk_L_101 : Cond.methodLink O_L.1 101 yX4_served ∈ gw ∨ Cond.methodLinkNest O_L.1 101 yX4_served "BackByTwice" ∈ nw := Or.inl (mI (t_5 164 rfl) rfl)
theorem lk_L_102 : Cond.methodLink O_L.1 102 yX3_round ∈ gw ∨ Cond.methodLinkNest O_L.1 102 yX3_round "BackByTwice" ∈ nw := Or.inl (mI (t_3 53 rfl) rfl)
theorem lk_L_105 : Cond.methodLink O_L.1 105 yX4_round ∈ gw ∨ Cond.methodLinkNest O_L.1 105 yX4_round "BackByTwice" ∈ nw := Or.inl (mI (t_5 168 rfl) rfl)
theorem lk_L_106 : Cond.methodLink O_L.1 106 yX3_when ∈ gw ∨ Cond.methodLinkNest O_L.1 106 yX3_when "BackByTwice" ∈ nw := Or.inl (mI (t_3 62 rfl) rfl)
theorem lk_L_109 : Cond.methodLink O_L.1 109 yX4_when ∈ gw ∨ Cond.methodLinkNest O_L.1 109 yX4_when "BackByTwice" ∈ nw := Or.inl (mI (t_5 176 rfl) rfl)
theorem lk_L_110 : Cond.methodLink O_L.1 110 yX3_never ∈ gw ∨ Cond.methodLinkNest O_L.1 110 yX3_never "BackByTwice" ∈ nw := Or.inl (mI (t_3 70 rfl) rfl)
theorem lk_L_113 : Cond.methodLink O_L.1 113 yX4_never ∈ gw ∨ Cond.methodLinkNest O_L.1 113 yX4_never "BackByTwice" ∈ nw := Or.inl (mI (t_5 184 rfl) rfl)
theorem lk_L_114 : Cond.methodLink O_L.1 114 yX3_stand ∈ gw ∨ Cond.methodLinkNest O_L.1 114 yX3_stand "BackByTwice" ∈ nw := Or.inl (mI (t_3 82 rfl) rfl)
theorem lk_L_117 : Cond.methodLink O_L.1 117 yX4_stand ∈ gw ∨ Cond.methodLinkNest O_L.1 117 yX4_stand "BackByTwice" ∈ nw := Or.inl (mI (t_5 196 rfl) rfl)
theorem lk_L_118 : Cond.methodLink O_L.1 118 yX3_leader ∈ gw ∨ Cond.methodLinkNest O_L.1 118 yX3_leader "BackByTwice" ∈ nw := Or.inl (mI (t_3 87 rfl) rfl)
theorem lk_L_121 : Cond.methodLink O_L.1 121 yX4_leader ∈ gw ∨ Cond.methodLinkNest O_L.1 121 yX4_leader "BackByTwice" ∈ nw := Or.inl (mI (t_5 200 rfl) rfl)
theorem lk_L_122 : Cond.methodLink O_L.1 122 yX3_waits ∈ gw ∨ Cond.methodLinkNest O_L.1 122 yX3_waits "BackByTwice" ∈ nw := Or.inl (mI (t_3 101 rfl) rfl)
theorem lk_L_125 : Cond.methodLink O_L.1 125 yX4_waits ∈ gw ∨ Cond.methodLinkNest O_L.1 125 yX4_waits "BackByTwice" ∈ nw := Or.inl (mI (t_5 212 rfl) rfl)
theorem lk_L_126 : Cond.methodLink O_L.1 126 yX3_several ∈ gw ∨ Cond.methodLinkNest O_L.1 126 yX3_several "BackByTwice" ∈ nw := Or.inl (mI (t_3 106 rfl) rfl)
theorem lk_L_129 : Cond.methodLink O_L.1 129 yX4_several ∈ gw ∨ Cond.methodLinkNest O_L.1 129 yX4_several "BackByTwice" ∈ nw := Or.inl (mI (t_5 192 rfl) rfl)
theorem lk_L_130 : Cond.methodLink O_L.1 130 yX3_beside ∈ gw ∨ Cond.methodLinkNest O_L.1 130 yX3_beside "BackByTwice" ∈ nw := Or.inl (mI (t_3 116 rfl) rfl)
theorem lk_L_133 : Cond.methodLink O_L.1 133 yX4_beside ∈ gw ∨ Cond.methodLinkNest O_L.1 133 yX4_beside "BackByTwice" ∈ nw := Or.inl (mI (t_5 216 rfl) rfl)
theorem lk_L_134 : Cond.methodLink O_L.1 134 yX3_unlike ∈ gw ∨ Cond.methodLinkNest O_L.1 134 yX3_unlike "BackByTwice" ∈ nw := Or.inl (mI (t_3 123 rfl) rfl)
theorem lk_L_137 : Cond.methodLink O_L.1 137 yX4_unlike ∈ gw ∨ Cond.methodLinkNest O_L.1 137 yX4_unlike "BackByTwice" ∈ nw := Or.inl (mI (t_5 220 rfl) rfl)
theorem lk_L_138 : Cond.methodLink O_L.1 138 yX3_lawFor ∈ gw ∨ Cond.methodLinkNest O_L.1 138 yX3_lawFor "BackByTwice" ∈ nw := Or.inl (mI (t_3 132 rfl) rfl)
theorem lk_L_141 : Cond.methodLink O_L.1 141 yX4_lawFor ∈ gw ∨ Cond.methodLinkNest O_L.1 141 yX4_lawFor "BackByTwice" ∈ nw := Or.inl (mI (t_5 224 rfl) rfl)
theorem lk_L_142 : Cond.methodLink O_L.1 142 yX3_newcomer ∈ gw ∨ Cond.methodLinkNest O_L.1 142 yX3_newcomer "BackByTwice" ∈ nw := Or.inl (mI (t_3 136 rfl) rfl)
theorem lk_L_145 : Cond.methodLink O_L.1 145 yX4_newcomer ∈ gw ∨ Cond.methodLinkNest O_L.1 145 yX4_newcomer "BackByTwice" ∈ nw := Or.inl (mI (t_5 228 rfl) rfl)
theorem lk_L_146 : Cond.methodLink O_L.1 146 yX3_forward ∈ gw ∨ Cond.methodLinkNest O_L.1 146 yX3_forward "BackByTwice" ∈ nw := Or.inl (mI (t_3 140 rfl) rfl)
theorem lk_L_149 : Cond.methodLink O_L.1 149 yX4_forward ∈ gw ∨ Cond.methodLinkNest O_L.1 149 yX4_forward "BackByTwice" ∈ nw := Or.inl (mI (t_5 232 rfl) rfl)
theorem lk_L_150 : Cond.methodLink O_L.1 150 yX3_level ∈ gw ∨ Cond.methodLinkNest O_L.1 150 yX3_level "BackByTwice" ∈ nw := Or.inl (mI (t_3 145 rfl) rfl)
theorem lk_L_153 : Cond.methodLink O_L.1 153 yX4_level ∈ gw ∨ Cond.methodLinkNest O_L.1 153 yX4_level "BackByTwice" ∈ nw := Or.inl (mI (t_5 236 rfl) rfl)
theorem lk_L_154 : Cond.methodLink O_L.1 154 yX3_spread ∈ gw ∨ Cond.methodLinkNest O_L.1 154 yX3_spread "BackByTwice" ∈ nw := Or.inl (mI (t_3 153 rfl) rfl)
theorem lk_L_157 : Cond.methodLink O_L.1 157 yX4_spread ∈ gw ∨ Cond.methodLinkNest O_L.1 157 yX4_spread "BackByTwice" ∈ nw := Or.inl (mI (t_6 8 rfl) rfl)
theorem lk_L_158 : Cond.methodLink O_L.1 158 yX3_fairest ∈ gw ∨ Cond.methodLinkNest O_L.1 158 yX3_fairest "BackByTwice" ∈ nw := Or.inl (mI (t_3 161 rfl) rfl)
theorem lk_L_161 : Cond.methodLink O_L.1 161 yX4_fairest ∈ gw ∨ Cond.methodLinkNest O_L.1 161 yX4_fairest "BackByTwice" ∈ nw := Or.inl (mI (t_6 16 rfl) rfl)
theorem lk_L_162 : Cond.methodLink O_L.1 162 yX3_judge ∈ gw ∨ Cond.methodLinkNest O_L.1 162 yX3_judge "BackByTwice" ∈ nw := Or.inl (mI (t_3 165 rfl) rfl)
theorem lk_L_165 : Cond.methodLink O_L.1 165 yX4_judge ∈ gw ∨ Cond.methodLinkNest O_L.1 165 yX4_judge "BackByTwice" ∈ nw := Or.inl (mI (t_6 20 rfl) rfl)
theorem lk_L_166 : Cond.methodLink O_L.1 166 yX3_fits ∈ gw ∨ Cond.methodLinkNest O_L.1 166 yX3_fits "BackByTwice" ∈ nw := Or.inl (mI (t_3 177 rfl) rfl)
theorem lk_L_169 : Cond.methodLink O_L.1 169 yX4_fits ∈ gw ∨ Cond.methodLinkNest O_L.1 169 yX4_fits "BackByTwice" ∈ nw := Or.inl (mI (t_6 32 rfl) rfl)
theorem lk_L_170 : Cond.methodLink O_L.1 170 yX3_pushed ∈ gw ∨ Cond.methodLinkNest O_L.1 170 yX3_pushed "BackByTwice" ∈ nw := Or.inl (mI (t_3 181 rfl) rfl)
theorem lk_L_173 : Cond.methodLink O_L.1 173 yX4_pushed ∈ gw ∨ Cond.methodLinkNest O_L.1 173 yX4_pushed "BackByTwice" ∈ nw := Or.inl (mI (t_6 36 rfl) rfl)
theorem lk_L_174 : Cond.methodLink O_L.1 174 yX3_again ∈ gw ∨ Cond.methodLinkNest O_L.1 174 yX3_again "BackByTwice" ∈ nw := Or.inl (mI (t_3 189 rfl) rfl)
theorem lk_L_178 : Cond.methodLink O_L.1 178 yX4_again ∈ gw ∨ Cond.methodLinkNest O_L.1 178 yX4_again "BackByTwice" ∈ nw := Or.inl (mI (t_6 40 rfl) rfl)
theorem lk_L_179 : Cond.methodLink O_L.1 179 yX3_lies ∈ gw ∨ Cond.methodLinkNest O_L.1 179 yX3_lies "BackByTwice" ∈ nw := Or.inl (mI (t_3 203 rfl) rfl)
theorem lk_L_183 : Cond.methodLink O_L.1 183 yX4_lies ∈ gw ∨ Cond.methodLinkNest O_L.1 183 yX4_lies "BackByTwice" ∈ nw := Or.inl (mI (t_6 54 rfl) rfl)
theorem lk_L_184 : Cond.methodLink O_L.1 184 yX3_stay ∈ gw ∨ Cond.methodLinkNest O_L.1 184 yX3_stay "BackByTwice" ∈ nw := Or.inl (mI (t_3 210 rfl) rfl)
theorem lk_L_188 : Cond.methodLink O_L.1 188 yX4_stay ∈ gw ∨ Cond.methodLinkNest O_L.1 188 yX4_stay "BackByTwice" ∈ nw := Or.inl (mI (t_6 58 rfl) rfl)
theorem lk_L_189 : Cond.methodLink O_L.1 189 yX3_rounds ∈ gw ∨ Cond.methodLinkNest O_L.1 189 yX3_rounds "BackByTwice" ∈ nw := Or.inl (mI (t_3 214 rfl) rfl)
theorem lk_L_192 : Cond.methodLink O_L.1 192 yX4_rounds ∈ gw ∨ Cond.methodLinkNest O_L.1 192 yX4_rounds "BackByTwice" ∈ nw := Or.inl (mI (t_6 62 rfl) rfl)
theorem lk_L_193 : Cond.methodLink O_L.1 193 yX3_tail ∈ gw ∨ Cond.methodLinkNest O_L.1 193 yX3_tail "BackByTwice" ∈ nw := Or.inl (mI (t_3 221 rfl) rfl)
theorem lk_L_196 : Cond.methodLink O_L.1 196 yX4_tail ∈ gw ∨ Cond.methodLinkNest O_L.1 196 yX4_tail "BackByTwice" ∈ nw := Or.inl (mI (t_6 66 rfl) rfl)
theorem lk_L_197 : Cond.methodLink O_L.1 197 yX3_brings ∈ gw ∨ Cond.methodLinkNest O_L.1 197 yX3_brings "BackByTwice" ∈ nw := Or.inl (mI (t_3 225 rfl) rfl)
theorem lk_L_200 : Cond.methodLink O_L.1 200 yX4_brings ∈ gw ∨ Cond.methodLinkNest O_L.1 200 yX4_brings "BackByTwice" ∈ nw := Or.inl (mI (t_6 70 rfl) rfl)
theorem lk_L_201 : Cond.methodLink O_L.1 201 yX3_after ∈ gw ∨ Cond.methodLinkNest O_L.1 201 yX3_after "BackByTwice" ∈ nw := Or.inl (mI (t_3 232 rfl) rfl)
theorem lk_L_204 : Cond.methodLink O_L.1 204 yX4_after ∈ gw ∨ Cond.methodLinkNest O_L.1 204 yX4_after "BackByTwice" ∈ nw := Or.inl (mI (t_6 78 rfl) rfl)
theorem lk_L_205 : Cond.methodLink O_L.1 205 yX3_fewest ∈ gw ∨ Cond.methodLinkNest O_L.1 205 yX3_fewest "BackByTwice" ∈ nw := Or.inl (mI (t_3 237 rfl) rfl)
theorem lk_L_208 : Cond.methodLink O_L.1 208 yX4_fewest ∈ gw ∨ Cond.methodLinkNest O_L.1 208 yX4_fewest "BackByTwice" ∈ nw := Or.inl (mI (t_6 82 rfl) rfl)
theorem lk_L_209 : Cond.methodLink O_L.1 209 yX3_unserved ∈ gw ∨ Cond.methodLinkNest O_L.1 209 yX3_unserved "BackByTwice" ∈ nw := Or.inl (mI (t_4 5 rfl) rfl)
theorem lk_L_212 : Cond.methodLink O_L.1 212 yX4_unserved ∈ gw ∨ Cond.methodLinkNest O_L.1 212 yX4_unserved "BackByTwice" ∈ nw := Or.inl (mI (t_6 86 rfl) rfl)
theorem lk_L_213 : Cond.methodLink O_L.1 213 yX3_longest ∈ gw ∨ Cond.methodLinkNest O_L.1 213 yX3_longest "BackByTwice" ∈ nw := Or.inl (mI (t_4 9 rfl) rfl)
theorem lk_L_216 : Cond.methodLink O_L.1 216 yX4_longest ∈ gw ∨ Cond.methodLinkNest O_L.1 216 yX4_longest "BackByTwice" ∈ nw := Or.inl (mI (t_6 90 rfl) rfl)
theorem lk_L_217 : Cond.methodLink O_L.1 217 yX3_ranked ∈ gw ∨ Cond.methodLinkNest O_L.1 217 yX3_ranked "BackByTwice" ∈ nw := Or.inl (mI (t_4 13 rfl) rfl)
theorem lk_L_220 : Cond.methodLink O_L.1 220 yX4_ranked ∈ gw ∨ Cond.methodLinkNest O_L.1 220 yX4_ranked "BackByTwice" ∈ nw := Or.inl (mI (t_6 98 rfl) rfl)
theorem lk_L_221 : Cond.methodLink O_L.1 221 yX3_serve ∈ gw ∨ Cond.methodLinkNest O_L.1 221 yX3_serve "BackByTwice" ∈ nw := Or.inl (mI (t_4 21 rfl) rfl)
theorem lk_L_224 : Cond.methodLink O_L.1 224 yX4_serve ∈ gw ∨ Cond.methodLinkNest O_L.1 224 yX4_serve "BackByTwice" ∈ nw := Or.inl (mI (t_6 105 rfl) rfl)
theorem lk_L_225 : Cond.methodLink O_L.1 225 yX3_lets ∈ gw ∨ Cond.methodLinkNest O_L.1 225 yX3_lets "BackByTwice" ∈ nw := Or.inl (mI (t_4 25 rfl) rfl)
theorem lk_L_228 : Cond.methodLink O_L.1 228 yX4_lets ∈ gw ∨ Cond.methodLinkNest O_L.1 228 yX4_lets "BackByTwice" ∈ nw := Or.inl (mI (t_6 109 rfl) rfl)
theorem lk_L_229 : Cond.methodLink O_L.1 229 yX3_moves ∈ gw ∨ Cond.methodLinkNest O_L.1 229 yX3_moves "BackByTwice" ∈ nw := Or.inl (mI (t_4 29 rfl) rfl)
theorem lk_L_232 : Cond.methodLink O_L.1 232 yX4_moves ∈ gw ∨ Cond.methodLinkNest O_L.1 232 yX4_moves "BackByTwice" ∈ nw := Or.inl (mI (t_6 113 rfl) rfl)
theorem lk_L_233 : Cond.methodLink O_L.1 233 yX3_leaves ∈ gw ∨ Cond.methodLinkNest O_L.1 233 yX3_leaves "BackByTwice" ∈ nw := Or.inl (mI (t_4 33 rfl) rfl)
theorem lk_L_236 : Cond.methodLink O_L.1 236 yX4_leaves ∈ gw ∨ Cond.methodLinkNest O_L.1 236 yX4_leaves "BackByTwice" ∈ nw := Or.inl (mI (t_6 117 rfl) rfl)
theorem lk_L_237 : Cond.methodLink O_L.1 237 yX3_day ∈ gw ∨ Cond.methodLinkNest O_L.1 237 yX3_day "BackByTwice" ∈ nw := Or.inl (mI (t_4 38 rfl) rfl)
theorem lk_L_240 : Cond.methodLink O_L.1 240 yX4_day ∈ gw ∨ Cond.methodLinkNest O_L.1 240 yX4_day "BackByTwice" ∈ nw := Or.inl (mI (t_6 121 rfl) rfl)
theorem lk_L_241 : Cond.methodLink O_L.1 241 yX3_anew ∈ gw ∨ Cond.methodLinkNest O_L.1 241 yX3_anew "BackByTwice" ∈ nw := Or.inl (mI (t_4 47 rfl) rfl)
theorem lk_L_244 : Cond.methodLink O_L.1 244 yX4_anew ∈ gw ∨ Cond.methodLinkNest O_L.1 244 yX4_anew "BackByTwice" ∈ nw := Or.inl (mI (t_6 130 rfl) rfl)
theorem lk_L_245 : Cond.methodLink O_L.1 245 yX3_seed ∈ gw ∨ Cond.methodLinkNest O_L.1 245 yX3_seed "BackByTwice" ∈ nw := Or.inl (mI (t_4 51 rfl) rfl)
theorem lk_L_248 : Cond.methodLink O_L.1 248 yX4_seed ∈ gw ∨ Cond.methodLinkNest O_L.1 248 yX4_seed "BackByTwice" ∈ nw := Or.inl (mI (t_6 134 rfl) rfl)
theorem lk_L_249 : Cond.methodLink O_L.1 249 yX3_image ∈ gw ∨ Cond.methodLinkNest O_L.1 249 yX3_image "BackByTwice" ∈ nw := Or.inl (mI (t_4 55 rfl) rfl)
theorem lk_L_252 : Cond.methodLink O_L.1 252 yX4_image ∈ gw ∨ Cond.methodLinkNest O_L.1 252 yX4_image "BackByTwice" ∈ nw := Or.inl (mI (t_6 138 rfl) rfl)
theorem lk_L_253 : Cond.methodLink O_L.1 253 yX3_back ∈ gw ∨ Cond.methodLinkNest O_L.1 253 yX3_back "BackByTwice" ∈ nw := Or.inl (mI (t_4 59 rfl) rfl)
theorem lk_L_256 : Cond.methodLink O_L.1 256 yX4_back ∈ gw ∨ Cond.methodLinkNest O_L.1 256 yX4_back "BackByTwice" ∈ nw := Or.inl (mI (t_6 142 rfl) rfl)
theorem lk_L_257 : Cond.methodLink O_L.1 257 yX3_status ∈ gw ∨ Cond.methodLinkNest O_L.1 257 yX3_status "BackByTwice" ∈ nw := Or.inl (mI (t_4 63 rfl) rfl)
theorem lk_L_260 : Cond.methodLink O_L.1 260 yX4_status ∈ gw ∨ Cond.methodLinkNest O_L.1 260 yX4_status "BackByTwice" ∈ nw := Or.inl (mI (t_6 146 rfl) rfl)
theorem lk_X4_72 : Cond.methodLink O_X4.1 72 yX4_in ∈ gw ∨ Cond.methodLinkNest O_X4.1 72 yX4_in "BackByTwice" ∈ nw := Or.inl (mI (t_4 183 rfl) rfl)
theorem lk_X4_85 : Cond.methodLink O_X4.1 85 yX4_refuse ∈ gw ∨ Cond.methodLinkNest O_X4.1 85 yX4_refuse "BackByTwice" ∈ nw := Or.inl (mI (t_4 188 rfl) rfl)
theorem lk_X4_89 : Cond.methodLink O_X4.1 89 yX4_noRow ∈ gw ∨ Cond.methodLinkNest O_X4.1 89 yX4_noRow "BackByTwice" ∈ nw := Or.inl (mI (t_4 196 rfl) rfl)
theorem lk_X4_92 : Cond.methodLink O_X4.1 92 yX4_fit ∈ gw ∨ Cond.methodLinkNest O_X4.1 92 yX4_fit "BackByTwice" ∈ nw := Or.inl (mI (t_4 200 rfl) rfl)
theorem lk_X4_96 : Cond.methodLink O_X4.1 96 yX4_isLaw ∈ gw ∨ Cond.methodLinkNest O_X4.1 96 yX4_isLaw "BackByTwice" ∈ nw := Or.inl (mI (t_4 219 rfl) rfl)
theorem lk_X4_102 : Cond.methodLink O_X4.1 102 yX4_isUnder ∈ gw ∨ Cond.methodLinkNest O_X4.1 102 yX4_isUnder "BackByTwice" ∈ nw := Or.inl (mI (t_4 228 rfl) rfl)
theorem lk_X4_106 : Cond.methodLink O_X4.1 106 yX4_lastBy ∈ gw ∨ Cond.methodLinkNest O_X4.1 106 yX4_lastBy "BackByTwice" ∈ nw := Or.inl (mI (t_4 231 rfl) rfl)
theorem lk_X4_110 : Cond.methodLink O_X4.1 110 yX4_backBy ∈ gw ∨ Cond.methodLinkNest O_X4.1 110 yX4_backBy "BackByTwice" ∈ nw := Or.inl (mI (t_4 235 rfl) rfl)
theorem lk_X4_114 : Cond.methodLink O_X4.1 114 yX4_addPerson ∈ gw ∨ Cond.methodLinkNest O_X4.1 114 yX4_addPerson "BackByTwice" ∈ nw := Or.inl (mI (t_5 3 rfl) rfl)
theorem lk_X4_119 : Cond.methodLink O_X4.1 119 yX4_addLaw ∈ gw ∨ Cond.methodLinkNest O_X4.1 119 yX4_addLaw "BackByTwice" ∈ nw := Or.inl (mI (t_5 12 rfl) rfl)
theorem lk_X4_130 : Cond.methodLink O_X4.1 130 yX4_isPerson ∈ gw ∨ Cond.methodLinkNest O_X4.1 130 yX4_isPerson "BackByTwice" ∈ nw := Or.inl (mI (t_5 26 rfl) rfl)
theorem lk_X4_151 : Cond.methodLink O_X4.1 151 yX4_isLetter ∈ gw ∨ Cond.methodLinkNest O_X4.1 151 yX4_isLetter "BackByTwice" ∈ nw := Or.inl (mI (t_5 64 rfl) rfl)
theorem lk_X4_154 : Cond.methodLink O_X4.1 154 yX4_isDigit ∈ gw ∨ Cond.methodLinkNest O_X4.1 154 yX4_isDigit "BackByTwice" ∈ nw := Or.inl (mI (t_5 67 rfl) rfl)
theorem lk_X4_160 : Cond.methodLink O_X4.1 160 yJ0_length_8abf5 ∈ gw ∨ Cond.methodLinkNest O_X4.1 160 yJ0_length_8abf5 "BackByTwice" ∈ nw := Or.inl (mI (t_5 79 rfl) rfl)
theorem lk_X4_166 : Cond.methodLink O_X4.1 166 yJ0_charAt_5068e ∈ gw ∨ Cond.methodLinkNest O_X4.1 166 yJ0_charAt_5068e "BackByTwice" ∈ nw := Or.inl (mI (t_5 80 rfl) rfl)
theorem lk_X4_170 : Cond.methodLink O_X4.1 170 yX4_wrong ∈ gw ∨ Cond.methodLinkNest O_X4.1 170 yX4_wrong "BackByTwice" ∈ nw := Or.inl (mI (t_5 93 rfl) rfl)
theorem lk_X4_174 : Cond.methodLink O_X4.1 174 yX4_look ∈ gw ∨ Cond.methodLinkNest O_X4.1 174 yX4_look "BackByTwice" ∈ nw := Or.inl (mI (t_5 60 rfl) rfl)
theorem lk_X4_177 : Cond.methodLink O_X4.1 177 yX4_number ∈ gw ∨ Cond.methodLinkNest O_X4.1 177 yX4_number "BackByTwice" ∈ nw := Or.inl (mI (t_5 89 rfl) rfl)
theorem lk_X4_181 : Cond.methodLink O_X4.1 181 yX4_tells ∈ gw ∨ Cond.methodLinkNest O_X4.1 181 yX4_tells "BackByTwice" ∈ nw := Or.inl (mI (t_5 85 rfl) rfl)
theorem lk_X4_184 : Cond.methodLink O_X4.1 184 yX4_goesOn ∈ gw ∨ Cond.methodLinkNest O_X4.1 184 yX4_goesOn "BackByTwice" ∈ nw := Or.inl (mI (t_5 104 rfl) rfl)
theorem lk_X4_187 : Cond.methodLink O_X4.1 187 yX4_goes ∈ gw ∨ Cond.methodLinkNest O_X4.1 187 yX4_goes "BackByTwice" ∈ nw := Or.inl (mI (t_5 108 rfl) rfl)
theorem lk_X4_192 : Cond.methodLink O_X4.1 192 yX4_isWord ∈ gw ∨ Cond.methodLinkNest O_X4.1 192 yX4_isWord "BackByTwice" ∈ nw := Or.inl (mI (t_5 75 rfl) rfl)
theorem lk_X4_196 : Cond.methodLink O_X4.1 196 yX4_peopleTold ∈ gw ∨ Cond.methodLinkNest O_X4.1 196 yX4_peopleTold "BackByTwice" ∈ nw := Or.inl (mI (t_5 81 rfl) rfl)
theorem lk_X4_205 : Cond.methodLink O_X4.1 205 yX4_serveTold ∈ gw ∨ Cond.methodLinkNest O_X4.1 205 yX4_serveTold "BackByTwice" ∈ nw := Or.inl (mI (t_5 100 rfl) rfl)
theorem lk_X4_210 : Cond.methodLink O_X4.1 210 yX4_lettingAt ∈ gw ∨ Cond.methodLinkNest O_X4.1 210 yX4_lettingAt "BackByTwice" ∈ nw := Or.inl (mI (t_5 117 rfl) rfl)
theorem lk_X4_215 : Cond.methodLink O_X4.1 215 yX4_lastLeaves ∈ gw ∨ Cond.methodLinkNest O_X4.1 215 yX4_lastLeaves "BackByTwice" ∈ nw := Or.inl (mI (t_5 122 rfl) rfl)
theorem lk_X4_222 : Cond.methodLink O_X4.1 222 yX4_statement ∈ gw ∨ Cond.methodLinkNest O_X4.1 222 yX4_statement "BackByTwice" ∈ nw := Or.inl (mI (t_5 70 rfl) rfl)
theorem lk_X4_229 : Cond.methodLink O_X4.1 229 yX4_init ∈ gw ∨ Cond.methodLinkNest O_X4.1 229 yX4_init "BackByTwice" ∈ nw := Or.inl (mI (t_5 48 rfl) rfl)
theorem lk_X4_230 : Cond.methodLink O_X4.1 230 yX4_takeFrom ∈ gw ∨ Cond.methodLinkNest O_X4.1 230 yX4_takeFrom "BackByTwice" ∈ nw := Or.inl (mI (t_5 49 rfl) rfl)
theorem lk_X4_234 : Cond.methodLink O_X4.1 234 yX4_fresh ∈ gw ∨ Cond.methodLinkNest O_X4.1 234 yX4_fresh "BackByTwice" ∈ nw := Or.inl (mI (t_5 43 rfl) rfl)
theorem lk_X4_238 : Cond.methodLink O_X4.1 238 yX4_readAll ∈ gw ∨ Cond.methodLinkNest O_X4.1 238 yX4_readAll "BackByTwice" ∈ nw := Or.inl (mI (t_5 56 rfl) rfl)
theorem lk_X4_243 : Cond.methodLink O_X4.1 243 yX4_placeOf ∈ gw ∨ Cond.methodLinkNest O_X4.1 243 yX4_placeOf "BackByTwice" ∈ nw := Or.inl (mI (t_5 130 rfl) rfl)
theorem lk_X4_249 : Cond.methodLink O_X4.1 249 yX4_turn ∈ gw ∨ Cond.methodLinkNest O_X4.1 249 yX4_turn "BackByTwice" ∈ nw := Or.inl (mI (t_5 112 rfl) rfl)
theorem lk_X4_252 : Cond.methodLink O_X4.1 252 yX4_movesTo ∈ gw ∨ Cond.methodLinkNest O_X4.1 252 yX4_movesTo "BackByTwice" ∈ nw := Or.inl (mI (t_5 126 rfl) rfl)
theorem lk_X4_255 : Cond.methodLink O_X4.1 255 yX4_mayTurns ∈ gw ∨ Cond.methodLinkNest O_X4.1 255 yX4_mayTurns "BackByTwice" ∈ nw := Or.inl (mI (t_5 152 rfl) rfl)
theorem lk_X4_258 : Cond.methodLink O_X4.1 258 yX4_behindOf ∈ gw ∨ Cond.methodLinkNest O_X4.1 258 yX4_behindOf "BackByTwice" ∈ nw := Or.inl (mI (t_5 155 rfl) rfl)
theorem lk_X4_262 : Cond.methodLink O_X4.1 262 yX4_personOf ∈ gw ∨ Cond.methodLinkNest O_X4.1 262 yX4_personOf "BackByTwice" ∈ nw := Or.inl (mI (t_5 163 rfl) rfl)
theorem lk_X4_265 : Cond.methodLink O_X4.1 265 yX4_standsAs ∈ gw ∨ Cond.methodLinkNest O_X4.1 265 yX4_standsAs "BackByTwice" ∈ nw := Or.inl (mI (t_5 172 rfl) rfl)
theorem lk_X4_269 : Cond.methodLink O_X4.1 269 yX4_whenIn ∈ gw ∨ Cond.methodLinkNest O_X4.1 269 yX4_whenIn "BackByTwice" ∈ nw := Or.inl (mI (t_5 180 rfl) rfl)
theorem lk_X4_273 : Cond.methodLink O_X4.1 273 yX4_servedIn ∈ gw ∨ Cond.methodLinkNest O_X4.1 273 yX4_servedIn "BackByTwice" ∈ nw := Or.inl (mI (t_5 188 rfl) rfl)
theorem lk_X4_276 : Cond.methodLink O_X4.1 276 yX4_beginsAnew ∈ gw ∨ Cond.methodLinkNest O_X4.1 276 yX4_beginsAnew "BackByTwice" ∈ nw := Or.inl (mI (t_5 204 rfl) rfl)
theorem lk_X4_279 : Cond.methodLink O_X4.1 279 yX4_mostCounts ∈ gw ∨ Cond.methodLinkNest O_X4.1 279 yX4_mostCounts "BackByTwice" ∈ nw := Or.inl (mI (t_5 208 rfl) rfl)
theorem lk_X4_282 : Cond.methodLink O_X4.1 282 yX4_anewBy ∈ gw ∨ Cond.methodLinkNest O_X4.1 282 yX4_anewBy "BackByTwice" ∈ nw := Or.inl (mI (t_6 0 rfl) rfl)
theorem lk_X4_285 : Cond.methodLink O_X4.1 285 yX4_spreadNow ∈ gw ∨ Cond.methodLinkNest O_X4.1 285 yX4_spreadNow "BackByTwice" ∈ nw := Or.inl (mI (t_6 4 rfl) rfl)
theorem lk_X4_288 : Cond.methodLink O_X4.1 288 yX4_spreadBy ∈ gw ∨ Cond.methodLinkNest O_X4.1 288 yX4_spreadBy "BackByTwice" ∈ nw := Or.inl (mI (t_6 12 rfl) rfl)
theorem lk_X4_291 : Cond.methodLink O_X4.1 291 yX4_noSlate ∈ gw ∨ Cond.methodLinkNest O_X4.1 291 yX4_noSlate "BackByTwice" ∈ nw := Or.inl (mI (t_6 24 rfl) rfl)
theorem lk_X4_294 : Cond.methodLink O_X4.1 294 yX4_wrongIn ∈ gw ∨ Cond.methodLinkNest O_X4.1 294 yX4_wrongIn "BackByTwice" ∈ nw := Or.inl (mI (t_6 28 rfl) rfl)
theorem lk_X4_298 : Cond.methodLink O_X4.1 298 yX4_comesTo ∈ gw ∨ Cond.methodLinkNest O_X4.1 298 yX4_comesTo "BackByTwice" ∈ nw := Or.inl (mI (t_6 51 rfl) rfl)
theorem lk_X4_302 : Cond.methodLink O_X4.1 302 yX4_liesAt ∈ gw ∨ Cond.methodLinkNest O_X4.1 302 yX4_liesAt "BackByTwice" ∈ nw := Or.inl (mI (t_6 48 rfl) rfl)
theorem lk_X4_308 : Cond.methodLink O_X4.1 308 yX4_stayOf ∈ gw ∨ Cond.methodLinkNest O_X4.1 308 yX4_stayOf "BackByTwice" ∈ nw := Or.inl (mI (t_6 45 rfl) rfl)
theorem lk_X4_311 : Cond.methodLink O_X4.1 311 yX4_findAway ∈ gw ∨ Cond.methodLinkNest O_X4.1 311 yX4_findAway "BackByTwice" ∈ nw := Or.inl (mI (t_6 74 rfl) rfl)
theorem lk_X4_314 : Cond.methodLink O_X4.1 314 yX4_longestOf ∈ gw ∨ Cond.methodLinkNest O_X4.1 314 yX4_longestOf "BackByTwice" ∈ nw := Or.inl (mI (t_6 94 rfl) rfl)
theorem lk_X4_317 : Cond.methodLink O_X4.1 317 yX4_has ∈ gw ∨ Cond.methodLinkNest O_X4.1 317 yX4_has "BackByTwice" ∈ nw := Or.inl (mI (t_6 102 rfl) rfl)
theorem lk_X4_321 : Cond.methodLink O_X4.1 321 yX4_below ∈ gw ∨ Cond.methodLinkNest O_X4.1 321 yX4_below "BackByTwice" ∈ nw := Or.inl (mI (t_6 125 rfl) rfl)
theorem lk_X4_324 : Cond.methodLink O_X4.1 324 yX4_copied ∈ gw ∨ Cond.methodLinkNest O_X4.1 324 yX4_copied "BackByTwice" ∈ nw := Or.inl (mI (t_5 53 rfl) rfl)
theorem cp_X3_89 : cpW O_X3.1 89 := ⟨mI (t_1 203 rfl) rfl, mI (t_1 205 rfl) rfl, mI (t_1 204 rfl) rfl, mI (t_1 7 rfl) rfl⟩
theorem cp_X1_43 : cpW O_X1.1 43 := ⟨mI (t_2 91 rfl) rfl, mI (t_1 205 rfl) rfl, mI (t_1 204 rfl) rfl, mI (t_1 7 rfl) rfl⟩
end
section
/-! ===== what the states are ===== -/
abbrev AI : Type := Nat → Int32
abbrev AL : Type := Nat → Int64
/-- line, counts, lasts, kinds, amounts, people, laws, force, turns, seed -/
abbrev ShT : Type := AI × AI × AI × AI × AI × Int32 × Int32 × Int32 × Int32 × Int32
/-- bytes, size, start, end -/
abbrev TpT : Type := AI × Int32 × Int32 × Int32
/-- elements, sort, law, size -/
abbrev SlT : Type := AL × Int32 × Int32 × Int32
def cSh (b : Nat) (s : ShT) : Wd := [.inr (.inr (1, [.ref (b + 1), .ref (b + 2), .ref (b + 3), .ref (b + 4), .ref (b + 5), .int s.2.2.2.2.2.1, .int s.2.2.2.2.2.2.1, .int s.2.2.2.2.2.2.2.1, .int s.2.2.2.2.2.2.2.2.1, .int s.2.2.2.2.2.2.2.2.2])), .inr (.inl (0, 16, .inl s.1)), .inr (.inl (0, 16, .inl s.2.1)), .inr (.inl (0, 16, .inl s.2.2.1)), .inr (.inl (0, 6, .inl s.2.2.2.1)), .inr (.inl (0, 6, .inl s.2.2.2.2.1))]
def cTp (b : Nat) (s : TpT) : Wd := [.inr (.inr (2, [.ref (b + 1), .int s.2.1, .int s.2.2.1, .int s.2.2.2])), .inr (.inl (0, 250, .inl s.1))]
def cSl (b : Nat) (s : SlT) : Wd := [.inr (.inr (0, [.ref (b + 1), .int s.2.1, .int s.2.2.1, .int s.2.2.2])), .inr (.inl (1, 40, .inr (.inl s.1)))]
def fuel0 : Nat := 5000
theorem ts_out1 {x : Int32} (h0 : ¬ x = 0) : x.toInt < 0 ∨ 0 < x.toInt := by
  have g0 := lv_neT h0 (show (0 : Int32).toInt = 0 from rfl)
  omega
theorem ts_one1 {x : Int32} (h0 : ¬ x = 1) : x.toInt < 1 ∨ 1 < x.toInt := by
  have g0 := lv_neT h0 (show (1 : Int32).toInt = 1 from rfl)
  omega
theorem ts_out2 {x : Int32} (h0 : ¬ x = 0) (h1 : ¬ x = 1) : x.toInt < 0 ∨ 1 < x.toInt := by
  have g0 := lv_neT h0 (show (0 : Int32).toInt = 0 from rfl)
  have g1 := lv_neT h1 (show (1 : Int32).toInt = 1 from rfl)
  omega
theorem ts_one2 {x : Int32} (h0 : ¬ x = 1) (h1 : ¬ x = 2) : x.toInt < 1 ∨ 2 < x.toInt := by
  have g0 := lv_neT h0 (show (1 : Int32).toInt = 1 from rfl)
  have g1 := lv_neT h1 (show (2 : Int32).toInt = 2 from rfl)
  omega
theorem ts_out3 {x : Int32} (h0 : ¬ x = 0) (h1 : ¬ x = 1) (h2 : ¬ x = 2) : x.toInt < 0 ∨ 2 < x.toInt := by
  have g0 := lv_neT h0 (show (0 : Int32).toInt = 0 from rfl)
  have g1 := lv_neT h1 (show (1 : Int32).toInt = 1 from rfl)
  have g2 := lv_neT h2 (show (2 : Int32).toInt = 2 from rfl)
  omega
theorem ts_one3 {x : Int32} (h0 : ¬ x = 1) (h1 : ¬ x = 2) (h2 : ¬ x = 3) : x.toInt < 1 ∨ 3 < x.toInt := by
  have g0 := lv_neT h0 (show (1 : Int32).toInt = 1 from rfl)
  have g1 := lv_neT h1 (show (2 : Int32).toInt = 2 from rfl)
  have g2 := lv_neT h2 (show (3 : Int32).toInt = 3 from rfl)
  omega
theorem ts_out4 {x : Int32} (h0 : ¬ x = 0) (h1 : ¬ x = 1) (h2 : ¬ x = 2) (h3 : ¬ x = 3) : x.toInt < 0 ∨ 3 < x.toInt := by
  have g0 := lv_neT h0 (show (0 : Int32).toInt = 0 from rfl)
  have g1 := lv_neT h1 (show (1 : Int32).toInt = 1 from rfl)
  have g2 := lv_neT h2 (show (2 : Int32).toInt = 2 from rfl)
  have g3 := lv_neT h3 (show (3 : Int32).toInt = 3 from rfl)
  omega
theorem ts_one4 {x : Int32} (h0 : ¬ x = 1) (h1 : ¬ x = 2) (h2 : ¬ x = 3) (h3 : ¬ x = 4) : x.toInt < 1 ∨ 4 < x.toInt := by
  have g0 := lv_neT h0 (show (1 : Int32).toInt = 1 from rfl)
  have g1 := lv_neT h1 (show (2 : Int32).toInt = 2 from rfl)
  have g2 := lv_neT h2 (show (3 : Int32).toInt = 3 from rfl)
  have g3 := lv_neT h3 (show (4 : Int32).toInt = 4 from rfl)
  omega
theorem ts_out5 {x : Int32} (h0 : ¬ x = 0) (h1 : ¬ x = 1) (h2 : ¬ x = 2) (h3 : ¬ x = 3) (h4 : ¬ x = 4) : x.toInt < 0 ∨ 4 < x.toInt := by
  have g0 := lv_neT h0 (show (0 : Int32).toInt = 0 from rfl)
  have g1 := lv_neT h1 (show (1 : Int32).toInt = 1 from rfl)
  have g2 := lv_neT h2 (show (2 : Int32).toInt = 2 from rfl)
  have g3 := lv_neT h3 (show (3 : Int32).toInt = 3 from rfl)
  have g4 := lv_neT h4 (show (4 : Int32).toInt = 4 from rfl)
  omega
theorem ts_one5 {x : Int32} (h0 : ¬ x = 1) (h1 : ¬ x = 2) (h2 : ¬ x = 3) (h3 : ¬ x = 4) (h4 : ¬ x = 5) : x.toInt < 1 ∨ 5 < x.toInt := by
  have g0 := lv_neT h0 (show (1 : Int32).toInt = 1 from rfl)
  have g1 := lv_neT h1 (show (2 : Int32).toInt = 2 from rfl)
  have g2 := lv_neT h2 (show (3 : Int32).toInt = 3 from rfl)
  have g3 := lv_neT h3 (show (4 : Int32).toInt = 4 from rfl)
  have g4 := lv_neT h4 (show (5 : Int32).toInt = 5 from rfl)
  omega
theorem ts_out6 {x : Int32} (h0 : ¬ x = 0) (h1 : ¬ x = 1) (h2 : ¬ x = 2) (h3 : ¬ x = 3) (h4 : ¬ x = 4) (h5 : ¬ x = 5) : x.toInt < 0 ∨ 5 < x.toInt := by
  have g0 := lv_neT h0 (show (0 : Int32).toInt = 0 from rfl)
  have g1 := lv_neT h1 (show (1 : Int32).toInt = 1 from rfl)
  have g2 := lv_neT h2 (show (2 : Int32).toInt = 2 from rfl)
  have g3 := lv_neT h3 (show (3 : Int32).toInt = 3 from rfl)
  have g4 := lv_neT h4 (show (4 : Int32).toInt = 4 from rfl)
  have g5 := lv_neT h5 (show (5 : Int32).toInt = 5 from rfl)
  omega
theorem ts_one6 {x : Int32} (h0 : ¬ x = 1) (h1 : ¬ x = 2) (h2 : ¬ x = 3) (h3 : ¬ x = 4) (h4 : ¬ x = 5) (h5 : ¬ x = 6) : x.toInt < 1 ∨ 6 < x.toInt := by
  have g0 := lv_neT h0 (show (1 : Int32).toInt = 1 from rfl)
  have g1 := lv_neT h1 (show (2 : Int32).toInt = 2 from rfl)
  have g2 := lv_neT h2 (show (3 : Int32).toInt = 3 from rfl)
  have g3 := lv_neT h3 (show (4 : Int32).toInt = 4 from rfl)
  have g4 := lv_neT h4 (show (5 : Int32).toInt = 5 from rfl)
  have g5 := lv_neT h5 (show (6 : Int32).toInt = 6 from rfl)
  omega
theorem ts_out7 {x : Int32} (h0 : ¬ x = 0) (h1 : ¬ x = 1) (h2 : ¬ x = 2) (h3 : ¬ x = 3) (h4 : ¬ x = 4) (h5 : ¬ x = 5) (h6 : ¬ x = 6) : x.toInt < 0 ∨ 6 < x.toInt := by
  have g0 := lv_neT h0 (show (0 : Int32).toInt = 0 from rfl)
  have g1 := lv_neT h1 (show (1 : Int32).toInt = 1 from rfl)
  have g2 := lv_neT h2 (show (2 : Int32).toInt = 2 from rfl)
  have g3 := lv_neT h3 (show (3 : Int32).toInt = 3 from rfl)
  have g4 := lv_neT h4 (show (4 : Int32).toInt = 4 from rfl)
  have g5 := lv_neT h5 (show (5 : Int32).toInt = 5 from rfl)
  have g6 := lv_neT h6 (show (6 : Int32).toInt = 6 from rfl)
  omega
theorem ts_one7 {x : Int32} (h0 : ¬ x = 1) (h1 : ¬ x = 2) (h2 : ¬ x = 3) (h3 : ¬ x = 4) (h4 : ¬ x = 5) (h5 : ¬ x = 6) (h6 : ¬ x = 7) : x.toInt < 1 ∨ 7 < x.toInt := by
  have g0 := lv_neT h0 (show (1 : Int32).toInt = 1 from rfl)
  have g1 := lv_neT h1 (show (2 : Int32).toInt = 2 from rfl)
  have g2 := lv_neT h2 (show (3 : Int32).toInt = 3 from rfl)
  have g3 := lv_neT h3 (show (4 : Int32).toInt = 4 from rfl)
  have g4 := lv_neT h4 (show (5 : Int32).toInt = 5 from rfl)
  have g5 := lv_neT h5 (show (6 : Int32).toInt = 6 from rfl)
  have g6 := lv_neT h6 (show (7 : Int32).toInt = 7 from rfl)
  omega
theorem ts_out8 {x : Int32} (h0 : ¬ x = 0) (h1 : ¬ x = 1) (h2 : ¬ x = 2) (h3 : ¬ x = 3) (h4 : ¬ x = 4) (h5 : ¬ x = 5) (h6 : ¬ x = 6) (h7 : ¬ x = 7) : x.toInt < 0 ∨ 7 < x.toInt := by
  have g0 := lv_neT h0 (show (0 : Int32).toInt = 0 from rfl)
  have g1 := lv_neT h1 (show (1 : Int32).toInt = 1 from rfl)
  have g2 := lv_neT h2 (show (2 : Int32).toInt = 2 from rfl)
  have g3 := lv_neT h3 (show (3 : Int32).toInt = 3 from rfl)
  have g4 := lv_neT h4 (show (4 : Int32).toInt = 4 from rfl)
  have g5 := lv_neT h5 (show (5 : Int32).toInt = 5 from rfl)
  have g6 := lv_neT h6 (show (6 : Int32).toInt = 6 from rfl)
  have g7 := lv_neT h7 (show (7 : Int32).toInt = 7 from rfl)
  omega
theorem ts_one8 {x : Int32} (h0 : ¬ x = 1) (h1 : ¬ x = 2) (h2 : ¬ x = 3) (h3 : ¬ x = 4) (h4 : ¬ x = 5) (h5 : ¬ x = 6) (h6 : ¬ x = 7) (h7 : ¬ x = 8) : x.toInt < 1 ∨ 8 < x.toInt := by
  have g0 := lv_neT h0 (show (1 : Int32).toInt = 1 from rfl)
  have g1 := lv_neT h1 (show (2 : Int32).toInt = 2 from rfl)
  have g2 := lv_neT h2 (show (3 : Int32).toInt = 3 from rfl)
  have g3 := lv_neT h3 (show (4 : Int32).toInt = 4 from rfl)
  have g4 := lv_neT h4 (show (5 : Int32).toInt = 5 from rfl)
  have g5 := lv_neT h5 (show (6 : Int32).toInt = 6 from rfl)
  have g6 := lv_neT h6 (show (7 : Int32).toInt = 7 from rfl)
  have g7 := lv_neT h7 (show (8 : Int32).toInt = 8 from rfl)
  omega
theorem ts_out9 {x : Int32} (h0 : ¬ x = 0) (h1 : ¬ x = 1) (h2 : ¬ x = 2) (h3 : ¬ x = 3) (h4 : ¬ x = 4) (h5 : ¬ x = 5) (h6 : ¬ x = 6) (h7 : ¬ x = 7) (h8 : ¬ x = 8) : x.toInt < 0 ∨ 8 < x.toInt := by
  have g0 := lv_neT h0 (show (0 : Int32).toInt = 0 from rfl)
  have g1 := lv_neT h1 (show (1 : Int32).toInt = 1 from rfl)
  have g2 := lv_neT h2 (show (2 : Int32).toInt = 2 from rfl)
  have g3 := lv_neT h3 (show (3 : Int32).toInt = 3 from rfl)
  have g4 := lv_neT h4 (show (4 : Int32).toInt = 4 from rfl)
  have g5 := lv_neT h5 (show (5 : Int32).toInt = 5 from rfl)
  have g6 := lv_neT h6 (show (6 : Int32).toInt = 6 from rfl)
  have g7 := lv_neT h7 (show (7 : Int32).toInt = 7 from rfl)
  have g8 := lv_neT h8 (show (8 : Int32).toInt = 8 from rfl)
  omega
theorem ts_one9 {x : Int32} (h0 : ¬ x = 1) (h1 : ¬ x = 2) (h2 : ¬ x = 3) (h3 : ¬ x = 4) (h4 : ¬ x = 5) (h5 : ¬ x = 6) (h6 : ¬ x = 7) (h7 : ¬ x = 8) (h8 : ¬ x = 9) : x.toInt < 1 ∨ 9 < x.toInt := by
  have g0 := lv_neT h0 (show (1 : Int32).toInt = 1 from rfl)
  have g1 := lv_neT h1 (show (2 : Int32).toInt = 2 from rfl)
  have g2 := lv_neT h2 (show (3 : Int32).toInt = 3 from rfl)
  have g3 := lv_neT h3 (show (4 : Int32).toInt = 4 from rfl)
  have g4 := lv_neT h4 (show (5 : Int32).toInt = 5 from rfl)
  have g5 := lv_neT h5 (show (6 : Int32).toInt = 6 from rfl)
  have g6 := lv_neT h6 (show (7 : Int32).toInt = 7 from rfl)
  have g7 := lv_neT h7 (show (8 : Int32).toInt = 8 from rfl)
  have g8 := lv_neT h8 (show (9 : Int32).toInt = 9 from rfl)
  omega
end
section
/-! ===== written by wip/whole/drive.py ===== -/
def f_J9_abs_0f7a4 (a0 : Int32) : Option (Int32) :=
  if 0 ≤ a0 then
    some a0
  else
    some (-a0)
set_option maxRecDepth 100000 in
set_option maxHeartbeats 4000000 in
theorem run_J9_abs_0f7a4 {l : Launch} {D : va_G} {cT : Nat → ClassId} (a0 : Int32)   {r : Int32} (hf : f_J9_abs_0f7a4 a0 = some r) : Runs l D cT yJ9_abs_0f7a4 cJ9_abs_0f7a4 1 (some .int) 0 0 [.int a0] [] (EQ (some (.int r)) []) := by
  refine runs_of O_J9 okO_J9 (by decide +kernel) rfl rfl (Nat.le_of_ble_eq_true rfl) (fun g K => ?_)
  have M := K.b
  show g 0 0 [] 0 [some (.int a0)] []
  rw [f_J9_abs_0f7a4] at hf
  refine m_run M (is := [(0, .iload_n 0, 0)]) (pc' := 1) (L' := [some (.int a0)]) (st' := [.int a0]) (w' := []) (by decide +kernel) rfl trivial ?_
  rcases ite_s hf with ⟨c_1001, hf⟩ | ⟨c_1001, hf⟩
  · refine m_jT M (i := .ifCond .ge 8) 9 (by decide +kernel) rfl (by decide) c_1001 ?_
    refine m_run M (is := [(9, .iload_n 0, 0)]) (pc' := 10) (L' := [some (.int a0)]) (st' := [.int a0]) (w' := []) (by decide +kernel) rfl trivial ?_
    obtain rfl := Option.some.inj hf
    exact m_iret K (by decide +kernel) (Nat.zero_le _) (Nat.zero_le _) ⟨rfl, rfl⟩
  · refine m_jF M (i := .ifCond .ge 8) 9 (by decide +kernel) rfl (by decide) c_1001 ?_
    refine m_run M (is := [(4, .iload_n 0, 0), (5, .ineg, 0), (6, .goto 4, 0)]) (pc' := 10) (L' := [some (.int a0)]) (st' := [.int (-a0)]) (w' := []) (by decide +kernel) rfl trivial ?_
    obtain rfl := Option.some.inj hf
    exact m_iret K (by decide +kernel) (Nat.zero_le _) (Nat.zero_le _) ⟨rfl, rfl⟩

def f_J9_max_7cf53 (a0 : Int32) (a1 : Int32) : Option (Int32) :=
  if a0 < a1 then
    some a1
  else
    some a0
set_option maxRecDepth 100000 in
set_option maxHeartbeats 4000000 in
theorem run_J9_max_7cf53 {l : Launch} {D : va_G} {cT : Nat → ClassId} (a0 : Int32) (a1 : Int32)   {r : Int32} (hf : f_J9_max_7cf53 a0 a1 = some r) : Runs l D cT yJ9_max_7cf53 cJ9_max_7cf53 2 (some .int) 0 0 [.int a0, .int a1] [] (EQ (some (.int r)) []) := by
  refine runs_of O_J9 okO_J9 (by decide +kernel) rfl rfl (Nat.le_of_ble_eq_true rfl) (fun g K => ?_)
  have M := K.b
  show g 0 0 [] 0 [some (.int a0), some (.int a1)] []
  rw [f_J9_max_7cf53] at hf
  refine m_run M (is := [(0, .iload_n 0, 0), (1, .iload_n 1, 0)]) (pc' := 2) (L' := [some (.int a0), some (.int a1)]) (st' := [.int a1, .int a0]) (w' := []) (by decide +kernel) rfl trivial ?_
  rcases ite_s hf with ⟨c_1001, hf⟩ | ⟨c_1001, hf⟩
  · refine m_jT M (i := .if_icmp .lt 7) 9 (by decide +kernel) rfl (by decide) c_1001 ?_
    refine m_run M (is := [(9, .iload_n 1, 0)]) (pc' := 10) (L' := [some (.int a0), some (.int a1)]) (st' := [.int a1]) (w' := []) (by decide +kernel) rfl trivial ?_
    obtain rfl := Option.some.inj hf
    exact m_iret K (by decide +kernel) (Nat.zero_le _) (Nat.zero_le _) ⟨rfl, rfl⟩
  · refine m_jF M (i := .if_icmp .lt 7) 9 (by decide +kernel) rfl (by decide) c_1001 ?_
    refine m_run M (is := [(5, .iload_n 0, 0), (6, .goto 4, 0)]) (pc' := 10) (L' := [some (.int a0), some (.int a1)]) (st' := [.int a0]) (w' := []) (by decide +kernel) rfl trivial ?_
    obtain rfl := Option.some.inj hf
    exact m_iret K (by decide +kernel) (Nat.zero_le _) (Nat.zero_le _) ⟨rfl, rfl⟩

def f_J9_min_7cf53 (a0 : Int32) (a1 : Int32) : Option (Int32) :=
  if a1 < a0 then
    some a1
  else
    some a0
set_option maxRecDepth 100000 in
set_option maxHeartbeats 4000000 in
theorem run_J9_min_7cf53 {l : Launch} {D : va_G} {cT : Nat → ClassId} (a0 : Int32) (a1 : Int32)   {r : Int32} (hf : f_J9_min_7cf53 a0 a1 = some r) : Runs l D cT yJ9_min_7cf53 cJ9_min_7cf53 2 (some .int) 0 0 [.int a0, .int a1] [] (EQ (some (.int r)) []) := by
  refine runs_of O_J9 okO_J9 (by decide +kernel) rfl rfl (Nat.le_of_ble_eq_true rfl) (fun g K => ?_)
  have M := K.b
  show g 0 0 [] 0 [some (.int a0), some (.int a1)] []
  rw [f_J9_min_7cf53] at hf
  refine m_run M (is := [(0, .iload_n 0, 0), (1, .iload_n 1, 0)]) (pc' := 2) (L' := [some (.int a0), some (.int a1)]) (st' := [.int a1, .int a0]) (w' := []) (by decide +kernel) rfl trivial ?_
  rcases ite_s hf with ⟨c_1001, hf⟩ | ⟨c_1001, hf⟩
  · refine m_jT M (i := .if_icmp .gt 7) 9 (by decide +kernel) rfl (by decide) c_1001 ?_
    refine m_run M (is := [(9, .iload_n 1, 0)]) (pc' := 10) (L' := [some (.int a0), some (.int a1)]) (st' := [.int a1]) (w' := []) (by decide +kernel) rfl trivial ?_
    obtain rfl := Option.some.inj hf
    exact m_iret K (by decide +kernel) (Nat.zero_le _) (Nat.zero_le _) ⟨rfl, rfl⟩
  · refine m_jF M (i := .if_icmp .gt 7) 9 (by decide +kernel) rfl (by decide) c_1001 ?_
    refine m_run M (is := [(5, .iload_n 0, 0), (6, .goto 4, 0)]) (pc' := 10) (L' := [some (.int a0), some (.int a1)]) (st' := [.int a0]) (w' := []) (by decide +kernel) rfl trivial ?_
    obtain rfl := Option.some.inj hf
    exact m_iret K (by decide +kernel) (Nat.zero_le _) (Nat.zero_le _) ⟨rfl, rfl⟩

def f_J6_bitCount_0f7a4 (a0 : Int32) : Option (Int32) :=
  some ((((((((a0 - (((a0.toUInt32 >>> ((1 : Int32).toUInt32 &&& Int32.toUInt32 31)).toInt32) &&& 1431655765)) &&& 858993459) + ((((a0 - (((a0.toUInt32 >>> ((1 : Int32).toUInt32 &&& Int32.toUInt32 31)).toInt32) &&& 1431655765)).toUInt32 >>> ((2 : Int32).toUInt32 &&& Int32.toUInt32 31)).toInt32) &&& 858993459)) + (((((a0 - (((a0.toUInt32 >>> ((1 : Int32).toUInt32 &&& Int32.toUInt32 31)).toInt32) &&& 1431655765)) &&& 858993459) + ((((a0 - (((a0.toUInt32 >>> ((1 : Int32).toUInt32 &&& Int32.toUInt32 31)).toInt32) &&& 1431655765)).toUInt32 >>> ((2 : Int32).toUInt32 &&& Int32.toUInt32 31)).toInt32) &&& 858993459)).toUInt32 >>> ((4 : Int32).toUInt32 &&& Int32.toUInt32 31)).toInt32)) &&& 252645135) + (((((((a0 - (((a0.toUInt32 >>> ((1 : Int32).toUInt32 &&& Int32.toUInt32 31)).toInt32) &&& 1431655765)) &&& 858993459) + ((((a0 - (((a0.toUInt32 >>> ((1 : Int32).toUInt32 &&& Int32.toUInt32 31)).toInt32) &&& 1431655765)).toUInt32 >>> ((2 : Int32).toUInt32 &&& Int32.toUInt32 31)).toInt32) &&& 858993459)) + (((((a0 - (((a0.toUInt32 >>> ((1 : Int32).toUInt32 &&& Int32.toUInt32 31)).toInt32) &&& 1431655765)) &&& 858993459) + ((((a0 - (((a0.toUInt32 >>> ((1 : Int32).toUInt32 &&& Int32.toUInt32 31)).toInt32) &&& 1431655765)).toUInt32 >>> ((2 : Int32).toUInt32 &&& Int32.toUInt32 31)).toInt32) &&& 858993459)).toUInt32 >>> ((4 : Int32).toUInt32 &&& Int32.toUInt32 31)).toInt32)) &&& 252645135).toUInt32 >>> ((8 : Int32).toUInt32 &&& Int32.toUInt32 31)).toInt32)) + ((((((((a0 - (((a0.toUInt32 >>> ((1 : Int32).toUInt32 &&& Int32.toUInt32 31)).toInt32) &&& 1431655765)) &&& 858993459) + ((((a0 - (((a0.toUInt32 >>> ((1 : Int32).toUInt32 &&& Int32.toUInt32 31)).toInt32) &&& 1431655765)).toUInt32 >>> ((2 : Int32).toUInt32 &&& Int32.toUInt32 31)).toInt32) &&& 858993459)) + (((((a0 - (((a0.toUInt32 >>> ((1 : Int32).toUInt32 &&& Int32.toUInt32 31)).toInt32) &&& 1431655765)) &&& 858993459) + ((((a0 - (((a0.toUInt32 >>> ((1 : Int32).toUInt32 &&& Int32.toUInt32 31)).toInt32) &&& 1431655765)).toUInt32 >>> ((2 : Int32).toUInt32 &&& Int32.toUInt32 31)).toInt32) &&& 858993459)).toUInt32 >>> ((4 : Int32).toUInt32 &&& Int32.toUInt32 31)).toInt32)) &&& 252645135) + (((((((a0 - (((a0.toUInt32 >>> ((1 : Int32).toUInt32 &&& Int32.toUInt32 31)).toInt32) &&& 1431655765)) &&& 858993459) + ((((a0 - (((a0.toUInt32 >>> ((1 : Int32).toUInt32 &&& Int32.toUInt32 31)).toInt32) &&& 1431655765)).toUInt32 >>> ((2 : Int32).toUInt32 &&& Int32.toUInt32 31)).toInt32) &&& 858993459)) + (((((a0 - (((a0.toUInt32 >>> ((1 : Int32).toUInt32 &&& Int32.toUInt32 31)).toInt32) &&& 1431655765)) &&& 858993459) + ((((a0 - (((a0.toUInt32 >>> ((1 : Int32).toUInt32 &&& Int32.toUInt32 31)).toInt32) &&& 1431655765)).toUInt32 >>> ((2 : Int32).toUInt32 &&& Int32.toUInt32 31)).toInt32) &&& 858993459)).toUInt32 >>> ((4 : Int32).toUInt32 &&& Int32.toUInt32 31)).toInt32)) &&& 252645135).toUInt32 >>> ((8 : Int32).toUInt32 &&& Int32.toUInt32 31)).toInt32)).toUInt32 >>> ((16 : Int32).toUInt32 &&& Int32.toUInt32 31)).toInt32)) &&& 63)
set_option maxRecDepth 100000 in
set_option maxHeartbeats 4000000 in
theorem run_J6_bitCount_0f7a4 {l : Launch} {D : va_G} {cT : Nat → ClassId} (a0 : Int32)   {r : Int32} (hf : f_J6_bitCount_0f7a4 a0 = some r) : Runs l D cT yJ6_bitCount_0f7a4 cJ6_bitCount_0f7a4 1 (some .int) 0 0 [.int a0] [] (EQ (some (.int r)) []) := by
  refine runs_of O_J6 okO_J6 (by decide +kernel) rfl rfl (Nat.le_of_ble_eq_true rfl) (fun g K => ?_)
  have M := K.b
  show g 0 0 [] 0 [some (.int a0)] []
  rw [f_J6_bitCount_0f7a4] at hf
  refine m_run M (is := [(0, .iload_n 0, 0), (1, .iload_n 0, 0), (2, .iconst 1, 1), (3, .iushr, 0), (4, .ldc_w 265, 0), (7, .iand, 0), (8, .isub, 0), (9, .istore_n 0, 0), (10, .iload_n 0, 0), (11, .ldc_w 266, 0), (14, .iand, 0), (15, .iload_n 0, 0), (16, .iconst 2, 2), (17, .iushr, 0), (18, .ldc_w 266, 0), (21, .iand, 0), (22, .iadd, 0), (23, .istore_n 0, 0), (24, .iload_n 0, 0), (25, .iload_n 0, 0), (26, .iconst 4, 4), (27, .iushr, 0), (28, .iadd, 0), (29, .ldc_w 267, 0), (32, .iand, 0), (33, .istore_n 0, 0), (34, .iload_n 0, 0), (35, .iload_n 0, 0), (36, .bipush 8, 8), (38, .iushr, 0), (39, .iadd, 0), (40, .istore_n 0, 0), (41, .iload_n 0, 0), (42, .iload_n 0, 0), (43, .bipush 16, 16), (45, .iushr, 0), (46, .iadd, 0), (47, .istore_n 0, 0), (48, .iload_n 0, 0), (49, .bipush 63, 63), (51, .iand, 0)]) (pc' := 52) (L' := [some (.int (((((((a0 - (((a0.toUInt32 >>> ((1 : Int32).toUInt32 &&& Int32.toUInt32 31)).toInt32) &&& 1431655765)) &&& 858993459) + ((((a0 - (((a0.toUInt32 >>> ((1 : Int32).toUInt32 &&& Int32.toUInt32 31)).toInt32) &&& 1431655765)).toUInt32 >>> ((2 : Int32).toUInt32 &&& Int32.toUInt32 31)).toInt32) &&& 858993459)) + (((((a0 - (((a0.toUInt32 >>> ((1 : Int32).toUInt32 &&& Int32.toUInt32 31)).toInt32) &&& 1431655765)) &&& 858993459) + ((((a0 - (((a0.toUInt32 >>> ((1 : Int32).toUInt32 &&& Int32.toUInt32 31)).toInt32) &&& 1431655765)).toUInt32 >>> ((2 : Int32).toUInt32 &&& Int32.toUInt32 31)).toInt32) &&& 858993459)).toUInt32 >>> ((4 : Int32).toUInt32 &&& Int32.toUInt32 31)).toInt32)) &&& 252645135) + (((((((a0 - (((a0.toUInt32 >>> ((1 : Int32).toUInt32 &&& Int32.toUInt32 31)).toInt32) &&& 1431655765)) &&& 858993459) + ((((a0 - (((a0.toUInt32 >>> ((1 : Int32).toUInt32 &&& Int32.toUInt32 31)).toInt32) &&& 1431655765)).toUInt32 >>> ((2 : Int32).toUInt32 &&& Int32.toUInt32 31)).toInt32) &&& 858993459)) + (((((a0 - (((a0.toUInt32 >>> ((1 : Int32).toUInt32 &&& Int32.toUInt32 31)).toInt32) &&& 1431655765)) &&& 858993459) + ((((a0 - (((a0.toUInt32 >>> ((1 : Int32).toUInt32 &&& Int32.toUInt32 31)).toInt32) &&& 1431655765)).toUInt32 >>> ((2 : Int32).toUInt32 &&& Int32.toUInt32 31)).toInt32) &&& 858993459)).toUInt32 >>> ((4 : Int32).toUInt32 &&& Int32.toUInt32 31)).toInt32)) &&& 252645135).toUInt32 >>> ((8 : Int32).toUInt32 &&& Int32.toUInt32 31)).toInt32)) + ((((((((a0 - (((a0.toUInt32 >>> ((1 : Int32).toUInt32 &&& Int32.toUInt32 31)).toInt32) &&& 1431655765)) &&& 858993459) + ((((a0 - (((a0.toUInt32 >>> ((1 : Int32).toUInt32 &&& Int32.toUInt32 31)).toInt32) &&& 1431655765)).toUInt32 >>> ((2 : Int32).toUInt32 &&& Int32.toUInt32 31)).toInt32) &&& 858993459)) + (((((a0 - (((a0.toUInt32 >>> ((1 : Int32).toUInt32 &&& Int32.toUInt32 31)).toInt32) &&& 1431655765)) &&& 858993459) + ((((a0 - (((a0.toUInt32 >>> ((1 : Int32).toUInt32 &&& Int32.toUInt32 31)).toInt32) &&& 1431655765)).toUInt32 >>> ((2 : Int32).toUInt32 &&& Int32.toUInt32 31)).toInt32) &&& 858993459)).toUInt32 >>> ((4 : Int32).toUInt32 &&& Int32.toUInt32 31)).toInt32)) &&& 252645135) + (((((((a0 - (((a0.toUInt32 >>> ((1 : Int32).toUInt32 &&& Int32.toUInt32 31)).toInt32) &&& 1431655765)) &&& 858993459) + ((((a0 - (((a0.toUInt32 >>> ((1 : Int32).toUInt32 &&& Int32.toUInt32 31)).toInt32) &&& 1431655765)).toUInt32 >>> ((2 : Int32).toUInt32 &&& Int32.toUInt32 31)).toInt32) &&& 858993459)) + (((((a0 - (((a0.toUInt32 >>> ((1 : Int32).toUInt32 &&& Int32.toUInt32 31)).toInt32) &&& 1431655765)) &&& 858993459) + ((((a0 - (((a0.toUInt32 >>> ((1 : Int32).toUInt32 &&& Int32.toUInt32 31)).toInt32) &&& 1431655765)).toUInt32 >>> ((2 : Int32).toUInt32 &&& Int32.toUInt32 31)).toInt32) &&& 858993459)).toUInt32 >>> ((4 : Int32).toUInt32 &&& Int32.toUInt32 31)).toInt32)) &&& 252645135).toUInt32 >>> ((8 : Int32).toUInt32 &&& Int32.toUInt32 31)).toInt32)).toUInt32 >>> ((16 : Int32).toUInt32 &&& Int32.toUInt32 31)).toInt32)))]) (st' := [.int ((((((((a0 - (((a0.toUInt32 >>> ((1 : Int32).toUInt32 &&& Int32.toUInt32 31)).toInt32) &&& 1431655765)) &&& 858993459) + ((((a0 - (((a0.toUInt32 >>> ((1 : Int32).toUInt32 &&& Int32.toUInt32 31)).toInt32) &&& 1431655765)).toUInt32 >>> ((2 : Int32).toUInt32 &&& Int32.toUInt32 31)).toInt32) &&& 858993459)) + (((((a0 - (((a0.toUInt32 >>> ((1 : Int32).toUInt32 &&& Int32.toUInt32 31)).toInt32) &&& 1431655765)) &&& 858993459) + ((((a0 - (((a0.toUInt32 >>> ((1 : Int32).toUInt32 &&& Int32.toUInt32 31)).toInt32) &&& 1431655765)).toUInt32 >>> ((2 : Int32).toUInt32 &&& Int32.toUInt32 31)).toInt32) &&& 858993459)).toUInt32 >>> ((4 : Int32).toUInt32 &&& Int32.toUInt32 31)).toInt32)) &&& 252645135) + (((((((a0 - (((a0.toUInt32 >>> ((1 : Int32).toUInt32 &&& Int32.toUInt32 31)).toInt32) &&& 1431655765)) &&& 858993459) + ((((a0 - (((a0.toUInt32 >>> ((1 : Int32).toUInt32 &&& Int32.toUInt32 31)).toInt32) &&& 1431655765)).toUInt32 >>> ((2 : Int32).toUInt32 &&& Int32.toUInt32 31)).toInt32) &&& 858993459)) + (((((a0 - (((a0.toUInt32 >>> ((1 : Int32).toUInt32 &&& Int32.toUInt32 31)).toInt32) &&& 1431655765)) &&& 858993459) + ((((a0 - (((a0.toUInt32 >>> ((1 : Int32).toUInt32 &&& Int32.toUInt32 31)).toInt32) &&& 1431655765)).toUInt32 >>> ((2 : Int32).toUInt32 &&& Int32.toUInt32 31)).toInt32) &&& 858993459)).toUInt32 >>> ((4 : Int32).toUInt32 &&& Int32.toUInt32 31)).toInt32)) &&& 252645135).toUInt32 >>> ((8 : Int32).toUInt32 &&& Int32.toUInt32 31)).toInt32)) + ((((((((a0 - (((a0.toUInt32 >>> ((1 : Int32).toUInt32 &&& Int32.toUInt32 31)).toInt32) &&& 1431655765)) &&& 858993459) + ((((a0 - (((a0.toUInt32 >>> ((1 : Int32).toUInt32 &&& Int32.toUInt32 31)).toInt32) &&& 1431655765)).toUInt32 >>> ((2 : Int32).toUInt32 &&& Int32.toUInt32 31)).toInt32) &&& 858993459)) + (((((a0 - (((a0.toUInt32 >>> ((1 : Int32).toUInt32 &&& Int32.toUInt32 31)).toInt32) &&& 1431655765)) &&& 858993459) + ((((a0 - (((a0.toUInt32 >>> ((1 : Int32).toUInt32 &&& Int32.toUInt32 31)).toInt32) &&& 1431655765)).toUInt32 >>> ((2 : Int32).toUInt32 &&& Int32.toUInt32 31)).toInt32) &&& 858993459)).toUInt32 >>> ((4 : Int32).toUInt32 &&& Int32.toUInt32 31)).toInt32)) &&& 252645135) + (((((((a0 - (((a0.toUInt32 >>> ((1 : Int32).toUInt32 &&& Int32.toUInt32 31)).toInt32) &&& 1431655765)) &&& 858993459) + ((((a0 - (((a0.toUInt32 >>> ((1 : Int32).toUInt32 &&& Int32.toUInt32 31)).toInt32) &&& 1431655765)).toUInt32 >>> ((2 : Int32).toUInt32 &&& Int32.toUInt32 31)).toInt32) &&& 858993459)) + (((((a0 - (((a0.toUInt32 >>> ((1 : Int32).toUInt32 &&& Int32.toUInt32 31)).toInt32) &&& 1431655765)) &&& 858993459) + ((((a0 - (((a0.toUInt32 >>> ((1 : Int32).toUInt32 &&& Int32.toUInt32 31)).toInt32) &&& 1431655765)).toUInt32 >>> ((2 : Int32).toUInt32 &&& Int32.toUInt32 31)).toInt32) &&& 858993459)).toUInt32 >>> ((4 : Int32).toUInt32 &&& Int32.toUInt32 31)).toInt32)) &&& 252645135).toUInt32 >>> ((8 : Int32).toUInt32 &&& Int32.toUInt32 31)).toInt32)).toUInt32 >>> ((16 : Int32).toUInt32 &&& Int32.toUInt32 31)).toInt32)) &&& 63)]) (w' := []) (by decide +kernel) rfl trivial ?_
  obtain rfl := Option.some.inj hf
  exact m_iret K (by decide +kernel) (Nat.zero_le _) (Nat.zero_le _) ⟨rfl, rfl⟩

def f_J7_fill_53178_L0 (v1 : Int32) (v3 : Int32) (N : Nat) : Nat → Int32 → AI → Option (AI)
  | 0, _, _ => none
  | n_ + 1, v2, f =>
    if v3 ≤ v2 then
      some f
    else
      if inB v2 N then
      f_J7_fill_53178_L0 v1 v3 N n_ (v2 + 1) (upd f v2.toNatClampNeg v1)
      else none
def f_J7_fill_53178 (a1 : Int32) (N : Nat) (f : AI) : Option (AI) :=
  f_J7_fill_53178_L0 a1 (Int32.ofNat N) N fuel0 0 f
set_option maxRecDepth 100000 in
set_option maxHeartbeats 4000000 in
theorem run_J7_fill_53178 {l : Launch} {D : va_G} {cT : Nat → ClassId} (a1 : Int32) (N : Nat) (f : AI) {r : AI} (hf : f_J7_fill_53178 a1 N f = some r) : Runs l D cT yJ7_fill_53178 cJ7_fill_53178 4 none 0 0 [.ref 0, .int a1] [.inr (.inl (0, N, .inl f))] (EQ none [.inr (.inl (0, N, .inl r))]) := by
  refine runs_of O_J7 okO_J7 (by decide +kernel) rfl rfl (Nat.le_of_ble_eq_true rfl) (fun g K => ?_)
  have M := K.b
  show g 0 0 [.inr (.inl (0, N, .inl f))] 0 [some (.ref 0), some (.int a1), none, none] []
  have loop_0 : ∀ (v1 : Int32) (v3 : Int32) (n_ : Nat), (∀ (v2 : Int32) (f : AI), f_J7_fill_53178_L0 v1 v3 N n_ v2 f = some r → g 0 0 [.inr (.inl (0, N, .inl f))] 5 [some (.ref 0), some (.int v1), some (.int v2), some (.int v3)] []) := by
    intro v1 v3 n_
    induction n_ with
    | zero => intro v2 f hf; cases hf
    | succ n_ ih =>
      intro v2 f hf
      rw [f_J7_fill_53178_L0] at hf
      refine m_run M (is := [(5, .iload_n 2, 0), (6, .iload_n 3, 0)]) (pc' := 7) (L' := [some (.ref 0), some (.int v1), some (.int v2), some (.int v3)]) (st' := [.int v3, .int v2]) (w' := [.inr (.inl (0, N, .inl f))]) (by decide +kernel) rfl trivial ?_
      rcases ite_s hf with ⟨c_101, hf⟩ | ⟨c_101, hf⟩
      · refine m_jT M (i := .if_icmp .ge 13) 20 (by decide +kernel) rfl (by decide) c_101 ?_
        obtain rfl := Option.some.inj hf
        exact m_vret K (by decide +kernel) (Nat.zero_le _) (Nat.zero_le _) ⟨rfl, rfl⟩
      · refine m_jF M (i := .if_icmp .ge 13) 20 (by decide +kernel) rfl (by decide) c_101 ?_
        obtain ⟨h_102, hf⟩ := grd_s hf
        refine m_run M (is := [(10, .aload_n 0, 0), (11, .iload_n 2, 0), (12, .iload_n 1, 0), (13, .iastore, 0), (14, .iinc 2 1, 1), (17, .goto (-12), 0)]) (pc' := 5) (L' := [some (.ref 0), some (.int v1), some (.int (v2 + 1)), some (.int v3)]) (st' := []) (w' := [.inr (.inl (0, N, .inl (upd f v2.toNatClampNeg v1)))]) (by decide +kernel) rfl ⟨inB_use h_102, trivial⟩ ?_
        exact ih (v2 + 1) (upd f v2.toNatClampNeg v1) hf
  rw [f_J7_fill_53178] at hf
  refine m_run M (is := [(0, .iconst 0, 0), (1, .istore_n 2, 0), (2, .aload_n 0, 0), (3, .arraylength, 0), (4, .istore_n 3, 0)]) (pc' := 5) (L' := [some (.ref 0), some (.int a1), some (.int 0), some (.int (Int32.ofNat N))]) (st' := []) (w' := [.inr (.inl (0, N, .inl f))]) (by decide +kernel) rfl trivial ?_
  exact loop_0 a1 (Int32.ofNat N) fuel0 0 f hf

def f_J7_fill_d0a16_L0 (v1 : Int64) (v4 : Int32) (N : Nat) : Nat → Int32 → AL → Option (AL)
  | 0, _, _ => none
  | n_ + 1, v3, f =>
    if v4 ≤ v3 then
      some f
    else
      if inB v3 N then
      f_J7_fill_d0a16_L0 v1 v4 N n_ (v3 + 1) (vp_updL f v3.toNatClampNeg v1)
      else none
def f_J7_fill_d0a16 (a1 : Int64) (N : Nat) (f : AL) : Option (AL) :=
  f_J7_fill_d0a16_L0 a1 (Int32.ofNat N) N fuel0 0 f
set_option maxRecDepth 100000 in
set_option maxHeartbeats 4000000 in
theorem run_J7_fill_d0a16 {l : Launch} {D : va_G} {cT : Nat → ClassId} (a1 : Int64) (N : Nat) (f : AL) {r : AL} (hf : f_J7_fill_d0a16 a1 N f = some r) : Runs l D cT yJ7_fill_d0a16 cJ7_fill_d0a16 5 none 0 0 [.ref 0, .long a1] [.inr (.inl (1, N, .inr (.inl f)))] (EQ none [.inr (.inl (1, N, .inr (.inl r)))]) := by
  refine runs_of O_J7 okO_J7 (by decide +kernel) rfl rfl (Nat.le_of_ble_eq_true rfl) (fun g K => ?_)
  have M := K.b
  show g 0 0 [.inr (.inl (1, N, .inr (.inl f)))] 0 [some (.ref 0), some (.long a1), none, none, none] []
  have loop_0 : ∀ (v1 : Int64) (v4 : Int32) (n_ : Nat), (∀ (v3 : Int32) (f : AL), f_J7_fill_d0a16_L0 v1 v4 N n_ v3 f = some r → g 0 0 [.inr (.inl (1, N, .inr (.inl f)))] 6 [some (.ref 0), some (.long v1), none, some (.int v3), some (.int v4)] []) := by
    intro v1 v4 n_
    induction n_ with
    | zero => intro v3 f hf; cases hf
    | succ n_ ih =>
      intro v3 f hf
      rw [f_J7_fill_d0a16_L0] at hf
      refine m_run M (is := [(6, .iload_n 3, 0), (7, .iload 4, 0)]) (pc' := 9) (L' := [some (.ref 0), some (.long v1), none, some (.int v3), some (.int v4)]) (st' := [.int v4, .int v3]) (w' := [.inr (.inl (1, N, .inr (.inl f)))]) (by decide +kernel) rfl trivial ?_
      rcases ite_s hf with ⟨c_101, hf⟩ | ⟨c_101, hf⟩
      · refine m_jT M (i := .if_icmp .ge 13) 22 (by decide +kernel) rfl (by decide) c_101 ?_
        obtain rfl := Option.some.inj hf
        exact m_vret K (by decide +kernel) (Nat.zero_le _) (Nat.zero_le _) ⟨rfl, rfl⟩
      · refine m_jF M (i := .if_icmp .ge 13) 22 (by decide +kernel) rfl (by decide) c_101 ?_
        obtain ⟨h_102, hf⟩ := grd_s hf
        refine m_run M (is := [(12, .aload_n 0, 0), (13, .iload_n 3, 0), (14, .lload_n 1, 0), (15, .lastore, 0), (16, .iinc 3 1, 1), (19, .goto (-13), 0)]) (pc' := 6) (L' := [some (.ref 0), some (.long v1), none, some (.int (v3 + 1)), some (.int v4)]) (st' := []) (w' := [.inr (.inl (1, N, .inr (.inl (vp_updL f v3.toNatClampNeg v1))))]) (by decide +kernel) rfl ⟨inB_use h_102, trivial⟩ ?_
        exact ih (v3 + 1) (vp_updL f v3.toNatClampNeg v1) hf
  rw [f_J7_fill_d0a16] at hf
  refine m_run M (is := [(0, .iconst 0, 0), (1, .istore_n 3, 0), (2, .aload_n 0, 0), (3, .arraylength, 0), (4, .istore 4, 0)]) (pc' := 6) (L' := [some (.ref 0), some (.long a1), none, some (.int 0), some (.int (Int32.ofNat N))]) (st' := []) (w' := [.inr (.inl (1, N, .inr (.inl f)))]) (by decide +kernel) rfl trivial ?_
  exact loop_0 a1 (Int32.ofNat N) fuel0 0 f hf

def f_X3_isBetween (a0 : Int32) (a1 : Int32) (a2 : Int32) : Option (Int32) :=
  if a0 < a1 then
    some 0
  else
    if a2 < a0 then
      some 0
    else
      some 1
set_option maxRecDepth 100000 in
set_option maxHeartbeats 4000000 in
theorem run_X3_isBetween {l : Launch} {D : va_G} {cT : Nat → ClassId} (a0 : Int32) (a1 : Int32) (a2 : Int32)   {r : Int32} (hf : f_X3_isBetween a0 a1 a2 = some r) : Runs l D cT yX3_isBetween cX3_isBetween 3 (some .boolean) 0 0 [.int a0, .int a1, .int a2] [] (EQ (some (.int r)) []) := by
  refine runs_of O_X3 okO_X3 (by decide +kernel) rfl rfl (Nat.le_of_ble_eq_true rfl) (fun g K => ?_)
  have M := K.b
  show g 0 0 [] 0 [some (.int a0), some (.int a1), some (.int a2)] []
  rw [f_X3_isBetween] at hf
  refine m_run M (is := [(0, .iload_n 0, 0), (1, .iload_n 1, 0)]) (pc' := 2) (L' := [some (.int a0), some (.int a1), some (.int a2)]) (st' := [.int a1, .int a0]) (w' := []) (by decide +kernel) rfl trivial ?_
  rcases ite_s hf with ⟨c_1001, hf⟩ | ⟨c_1001, hf⟩
  · refine m_jT M (i := .if_icmp .lt 12) 14 (by decide +kernel) rfl (by decide) c_1001 ?_
    refine m_run M (is := [(14, .iconst 0, 0)]) (pc' := 15) (L' := [some (.int a0), some (.int a1), some (.int a2)]) (st' := [.int 0]) (w' := []) (by decide +kernel) rfl trivial ?_
    obtain rfl := Option.some.inj hf
    exact m_zret K (by decide +kernel) (Or.inl rfl) (Nat.zero_le _) (Nat.zero_le _) ⟨rfl, rfl⟩
  · refine m_jF M (i := .if_icmp .lt 12) 14 (by decide +kernel) rfl (by decide) c_1001 ?_
    refine m_run M (is := [(5, .iload_n 0, 0), (6, .iload_n 2, 0)]) (pc' := 7) (L' := [some (.int a0), some (.int a1), some (.int a2)]) (st' := [.int a2, .int a0]) (w' := []) (by decide +kernel) rfl trivial ?_
    rcases ite_s hf with ⟨c_1002, hf⟩ | ⟨c_1002, hf⟩
    · refine m_jT M (i := .if_icmp .gt 7) 14 (by decide +kernel) rfl (by decide) c_1002 ?_
      refine m_run M (is := [(14, .iconst 0, 0)]) (pc' := 15) (L' := [some (.int a0), some (.int a1), some (.int a2)]) (st' := [.int 0]) (w' := []) (by decide +kernel) rfl trivial ?_
      obtain rfl := Option.some.inj hf
      exact m_zret K (by decide +kernel) (Or.inl rfl) (Nat.zero_le _) (Nat.zero_le _) ⟨rfl, rfl⟩
    · refine m_jF M (i := .if_icmp .gt 7) 14 (by decide +kernel) rfl (by decide) c_1002 ?_
      refine m_run M (is := [(10, .iconst 1, 1), (11, .goto 4, 0)]) (pc' := 15) (L' := [some (.int a0), some (.int a1), some (.int a2)]) (st' := [.int 1]) (w' := []) (by decide +kernel) rfl trivial ?_
      obtain rfl := Option.some.inj hf
      exact m_zret K (by decide +kernel) (Or.inr rfl) (Nat.zero_le _) (Nat.zero_le _) ⟨rfl, rfl⟩

def f_X3_isUnder (a0 : Int32) (a1 : Int32) : Option (Int32) :=
  if a0 = a1 then
    some 1
  else
    if a1 = 0 then
      some 1
    else
      if a0 = 3 then
        if a1 = 1 then
          some 1
        else
          if a0 = 4 then
            if a1 = 2 then
              some 1
            else
              some 0
          else
            some 0
      else
        if a0 = 4 then
          if a1 = 2 then
            some 1
          else
            some 0
        else
          some 0
set_option maxRecDepth 100000 in
set_option maxHeartbeats 4000000 in
theorem run_X3_isUnder {l : Launch} {D : va_G} {cT : Nat → ClassId} (a0 : Int32) (a1 : Int32)   {r : Int32} (hf : f_X3_isUnder a0 a1 = some r) : Runs l D cT yX3_isUnder cX3_isUnder 2 (some .boolean) 0 0 [.int a0, .int a1] [] (EQ (some (.int r)) []) := by
  refine runs_of O_X3 okO_X3 (by decide +kernel) rfl rfl (Nat.le_of_ble_eq_true rfl) (fun g K => ?_)
  have M := K.b
  show g 0 0 [] 0 [some (.int a0), some (.int a1)] []
  rw [f_X3_isUnder] at hf
  refine m_run M (is := [(0, .iload_n 0, 0), (1, .iload_n 1, 0)]) (pc' := 2) (L' := [some (.int a0), some (.int a1)]) (st' := [.int a1, .int a0]) (w' := []) (by decide +kernel) rfl trivial ?_
  rcases ite_s hf with ⟨c_1001, hf⟩ | ⟨c_1001, hf⟩
  · refine m_jT M (i := .if_icmp .eq 27) 29 (by decide +kernel) rfl (by decide) c_1001 ?_
    refine m_run M (is := [(29, .iconst 1, 1), (30, .goto 4, 0)]) (pc' := 34) (L' := [some (.int a0), some (.int a1)]) (st' := [.int 1]) (w' := []) (by decide +kernel) rfl trivial ?_
    obtain rfl := Option.some.inj hf
    exact m_zret K (by decide +kernel) (Or.inr rfl) (Nat.zero_le _) (Nat.zero_le _) ⟨rfl, rfl⟩
  · refine m_jF M (i := .if_icmp .eq 27) 29 (by decide +kernel) rfl (by decide) c_1001 ?_
    refine m_run M (is := [(5, .iload_n 1, 0)]) (pc' := 6) (L' := [some (.int a0), some (.int a1)]) (st' := [.int a1]) (w' := []) (by decide +kernel) rfl trivial ?_
    rcases ite_s hf with ⟨c_1002, hf⟩ | ⟨c_1002, hf⟩
    · refine m_jT M (i := .ifCond .eq 23) 29 (by decide +kernel) rfl (by decide) c_1002 ?_
      refine m_run M (is := [(29, .iconst 1, 1), (30, .goto 4, 0)]) (pc' := 34) (L' := [some (.int a0), some (.int a1)]) (st' := [.int 1]) (w' := []) (by decide +kernel) rfl trivial ?_
      obtain rfl := Option.some.inj hf
      exact m_zret K (by decide +kernel) (Or.inr rfl) (Nat.zero_le _) (Nat.zero_le _) ⟨rfl, rfl⟩
    · refine m_jF M (i := .ifCond .eq 23) 29 (by decide +kernel) rfl (by decide) c_1002 ?_
      refine m_run M (is := [(9, .iload_n 0, 0), (10, .iconst 3, 3)]) (pc' := 11) (L' := [some (.int a0), some (.int a1)]) (st' := [.int 3, .int a0]) (w' := []) (by decide +kernel) rfl trivial ?_
      rcases ite_s hf with ⟨c_1003, hf⟩ | ⟨c_1003, hf⟩
      · refine m_jF M (i := .if_icmp .ne 8) 19 (by decide +kernel) rfl (by decide) (fun n => n c_1003) ?_
        refine m_run M (is := [(14, .iload_n 1, 0), (15, .iconst 1, 1)]) (pc' := 16) (L' := [some (.int a0), some (.int a1)]) (st' := [.int 1, .int a1]) (w' := []) (by decide +kernel) rfl trivial ?_
        rcases ite_s hf with ⟨c_1004, hf⟩ | ⟨c_1004, hf⟩
        · refine m_jT M (i := .if_icmp .eq 13) 29 (by decide +kernel) rfl (by decide) c_1004 ?_
          refine m_run M (is := [(29, .iconst 1, 1), (30, .goto 4, 0)]) (pc' := 34) (L' := [some (.int a0), some (.int a1)]) (st' := [.int 1]) (w' := []) (by decide +kernel) rfl trivial ?_
          obtain rfl := Option.some.inj hf
          exact m_zret K (by decide +kernel) (Or.inr rfl) (Nat.zero_le _) (Nat.zero_le _) ⟨rfl, rfl⟩
        · refine m_jF M (i := .if_icmp .eq 13) 29 (by decide +kernel) rfl (by decide) c_1004 ?_
          refine m_run M (is := [(19, .iload_n 0, 0), (20, .iconst 4, 4)]) (pc' := 21) (L' := [some (.int a0), some (.int a1)]) (st' := [.int 4, .int a0]) (w' := []) (by decide +kernel) rfl trivial ?_
          rcases ite_s hf with ⟨c_1005, hf⟩ | ⟨c_1005, hf⟩
          · refine m_jF M (i := .if_icmp .ne 12) 33 (by decide +kernel) rfl (by decide) (fun n => n c_1005) ?_
            refine m_run M (is := [(24, .iload_n 1, 0), (25, .iconst 2, 2)]) (pc' := 26) (L' := [some (.int a0), some (.int a1)]) (st' := [.int 2, .int a1]) (w' := []) (by decide +kernel) rfl trivial ?_
            rcases ite_s hf with ⟨c_1006, hf⟩ | ⟨c_1006, hf⟩
            · refine m_jF M (i := .if_icmp .ne 7) 33 (by decide +kernel) rfl (by decide) (fun n => n c_1006) ?_
              refine m_run M (is := [(29, .iconst 1, 1), (30, .goto 4, 0)]) (pc' := 34) (L' := [some (.int a0), some (.int a1)]) (st' := [.int 1]) (w' := []) (by decide +kernel) rfl trivial ?_
              obtain rfl := Option.some.inj hf
              exact m_zret K (by decide +kernel) (Or.inr rfl) (Nat.zero_le _) (Nat.zero_le _) ⟨rfl, rfl⟩
            · refine m_jT M (i := .if_icmp .ne 7) 33 (by decide +kernel) rfl (by decide) c_1006 ?_
              refine m_run M (is := [(33, .iconst 0, 0)]) (pc' := 34) (L' := [some (.int a0), some (.int a1)]) (st' := [.int 0]) (w' := []) (by decide +kernel) rfl trivial ?_
              obtain rfl := Option.some.inj hf
              exact m_zret K (by decide +kernel) (Or.inl rfl) (Nat.zero_le _) (Nat.zero_le _) ⟨rfl, rfl⟩
          · refine m_jT M (i := .if_icmp .ne 12) 33 (by decide +kernel) rfl (by decide) c_1005 ?_
            refine m_run M (is := [(33, .iconst 0, 0)]) (pc' := 34) (L' := [some (.int a0), some (.int a1)]) (st' := [.int 0]) (w' := []) (by decide +kernel) rfl trivial ?_
            obtain rfl := Option.some.inj hf
            exact m_zret K (by decide +kernel) (Or.inl rfl) (Nat.zero_le _) (Nat.zero_le _) ⟨rfl, rfl⟩
      · refine m_jT M (i := .if_icmp .ne 8) 19 (by decide +kernel) rfl (by decide) c_1003 ?_
        refine m_run M (is := [(19, .iload_n 0, 0), (20, .iconst 4, 4)]) (pc' := 21) (L' := [some (.int a0), some (.int a1)]) (st' := [.int 4, .int a0]) (w' := []) (by decide +kernel) rfl trivial ?_
        rcases ite_s hf with ⟨c_1007, hf⟩ | ⟨c_1007, hf⟩
        · refine m_jF M (i := .if_icmp .ne 12) 33 (by decide +kernel) rfl (by decide) (fun n => n c_1007) ?_
          refine m_run M (is := [(24, .iload_n 1, 0), (25, .iconst 2, 2)]) (pc' := 26) (L' := [some (.int a0), some (.int a1)]) (st' := [.int 2, .int a1]) (w' := []) (by decide +kernel) rfl trivial ?_
          rcases ite_s hf with ⟨c_1008, hf⟩ | ⟨c_1008, hf⟩
          · refine m_jF M (i := .if_icmp .ne 7) 33 (by decide +kernel) rfl (by decide) (fun n => n c_1008) ?_
            refine m_run M (is := [(29, .iconst 1, 1), (30, .goto 4, 0)]) (pc' := 34) (L' := [some (.int a0), some (.int a1)]) (st' := [.int 1]) (w' := []) (by decide +kernel) rfl trivial ?_
            obtain rfl := Option.some.inj hf
            exact m_zret K (by decide +kernel) (Or.inr rfl) (Nat.zero_le _) (Nat.zero_le _) ⟨rfl, rfl⟩
          · refine m_jT M (i := .if_icmp .ne 7) 33 (by decide +kernel) rfl (by decide) c_1008 ?_
            refine m_run M (is := [(33, .iconst 0, 0)]) (pc' := 34) (L' := [some (.int a0), some (.int a1)]) (st' := [.int 0]) (w' := []) (by decide +kernel) rfl trivial ?_
            obtain rfl := Option.some.inj hf
            exact m_zret K (by decide +kernel) (Or.inl rfl) (Nat.zero_le _) (Nat.zero_le _) ⟨rfl, rfl⟩
        · refine m_jT M (i := .if_icmp .ne 12) 33 (by decide +kernel) rfl (by decide) c_1007 ?_
          refine m_run M (is := [(33, .iconst 0, 0)]) (pc' := 34) (L' := [some (.int a0), some (.int a1)]) (st' := [.int 0]) (w' := []) (by decide +kernel) rfl trivial ?_
          obtain rfl := Option.some.inj hf
          exact m_zret K (by decide +kernel) (Or.inl rfl) (Nat.zero_le _) (Nat.zero_le _) ⟨rfl, rfl⟩

def f_X1_isEmpty (s : ShT) : Option (Int32) :=
  if 1 ≤ s.2.2.2.2.2.1 then
    some 0
  else
    some 1
set_option maxRecDepth 100000 in
set_option maxHeartbeats 4000000 in
theorem run_X1_isEmpty {l : Launch} {D : va_G} {cT : Nat → ClassId}   (s : ShT) {r : Int32} (hf : f_X1_isEmpty s = some r) : Runs l D cT yX1_isEmpty cX1_isEmpty 1 (some .boolean) 0 0 [.ref 0] (cSh 0 s) (EQ (some (.int r)) (cSh 0 s)) := by
  refine runs_of O_X1 okO_X1 (by decide +kernel) rfl rfl (Nat.le_of_ble_eq_true rfl) (fun g K => ?_)
  have M := K.b
  show g 0 0 (cSh 0 s) 0 [some (.ref 0)] []
  rw [f_X1_isEmpty] at hf
  refine m_run M (is := [(0, .aload_n 0, 0), (1, .getfield 31, 0), (4, .iconst 1, 1)]) (pc' := 5) (L' := [some (.ref 0)]) (st' := [.int 1, .int s.2.2.2.2.2.1]) (w' := (cSh 0 s)) (by decide +kernel) rfl trivial ?_
  rcases ite_s hf with ⟨c_1001, hf⟩ | ⟨c_1001, hf⟩
  · refine m_jT M (i := .if_icmp .ge 7) 12 (by decide +kernel) rfl (by decide) c_1001 ?_
    refine m_run M (is := [(12, .iconst 0, 0)]) (pc' := 13) (L' := [some (.ref 0)]) (st' := [.int 0]) (w' := (cSh 0 s)) (by decide +kernel) rfl trivial ?_
    obtain rfl := Option.some.inj hf
    exact m_zret K (by decide +kernel) (Or.inl rfl) (Nat.zero_le _) (Nat.zero_le _) ⟨rfl, rfl⟩
  · refine m_jF M (i := .if_icmp .ge 7) 12 (by decide +kernel) rfl (by decide) c_1001 ?_
    refine m_run M (is := [(8, .iconst 1, 1), (9, .goto 4, 0)]) (pc' := 13) (L' := [some (.ref 0)]) (st' := [.int 1]) (w' := (cSh 0 s)) (by decide +kernel) rfl trivial ?_
    obtain rfl := Option.some.inj hf
    exact m_zret K (by decide +kernel) (Or.inr rfl) (Nat.zero_le _) (Nat.zero_le _) ⟨rfl, rfl⟩

def f_X1_isLawless (s : ShT) : Option (Int32) :=
  if 1 ≤ s.2.2.2.2.2.2.1 then
    some 0
  else
    some 1
set_option maxRecDepth 100000 in
set_option maxHeartbeats 4000000 in
theorem run_X1_isLawless {l : Launch} {D : va_G} {cT : Nat → ClassId}   (s : ShT) {r : Int32} (hf : f_X1_isLawless s = some r) : Runs l D cT yX1_isLawless cX1_isLawless 1 (some .boolean) 0 0 [.ref 0] (cSh 0 s) (EQ (some (.int r)) (cSh 0 s)) := by
  refine runs_of O_X1 okO_X1 (by decide +kernel) rfl rfl (Nat.le_of_ble_eq_true rfl) (fun g K => ?_)
  have M := K.b
  show g 0 0 (cSh 0 s) 0 [some (.ref 0)] []
  rw [f_X1_isLawless] at hf
  refine m_run M (is := [(0, .aload_n 0, 0), (1, .getfield 34, 0), (4, .iconst 1, 1)]) (pc' := 5) (L' := [some (.ref 0)]) (st' := [.int 1, .int s.2.2.2.2.2.2.1]) (w' := (cSh 0 s)) (by decide +kernel) rfl trivial ?_
  rcases ite_s hf with ⟨c_1001, hf⟩ | ⟨c_1001, hf⟩
  · refine m_jT M (i := .if_icmp .ge 7) 12 (by decide +kernel) rfl (by decide) c_1001 ?_
    refine m_run M (is := [(12, .iconst 0, 0)]) (pc' := 13) (L' := [some (.ref 0)]) (st' := [.int 0]) (w' := (cSh 0 s)) (by decide +kernel) rfl trivial ?_
    obtain rfl := Option.some.inj hf
    exact m_zret K (by decide +kernel) (Or.inl rfl) (Nat.zero_le _) (Nat.zero_le _) ⟨rfl, rfl⟩
  · refine m_jF M (i := .if_icmp .ge 7) 12 (by decide +kernel) rfl (by decide) c_1001 ?_
    refine m_run M (is := [(8, .iconst 1, 1), (9, .goto 4, 0)]) (pc' := 13) (L' := [some (.ref 0)]) (st' := [.int 1]) (w' := (cSh 0 s)) (by decide +kernel) rfl trivial ?_
    obtain rfl := Option.some.inj hf
    exact m_zret K (by decide +kernel) (Or.inr rfl) (Nat.zero_le _) (Nat.zero_le _) ⟨rfl, rfl⟩

def f_X1_isStuck (s : ShT) : Option (Int32) :=
  (f_X1_isEmpty s).bind fun r1001 =>
  if r1001 = 0 then
    (f_X1_isLawless s).bind fun r1003 =>
    if r1003 = 0 then
      some 0
    else
      some 1
  else
    some 1
set_option maxRecDepth 100000 in
set_option maxHeartbeats 4000000 in
theorem run_X1_isStuck {l : Launch} {D : va_G} {cT : Nat → ClassId}   (s : ShT) {r : Int32} (hf : f_X1_isStuck s = some r) : Runs l D cT yX1_isStuck cX1_isStuck 1 (some .boolean) 1 20 [.ref 0] (cSh 0 s) (EQ (some (.int r)) (cSh 0 s)) := by
  refine runs_of O_X1 okO_X1 (by decide +kernel) rfl rfl (Nat.le_of_ble_eq_true rfl) (fun g K => ?_)
  have M := K.b
  show g 0 0 (cSh 0 s) 0 [some (.ref 0)] []
  rw [f_X1_isStuck] at hf
  refine m_run M (is := [(0, .aload_n 0, 0)]) (pc' := 1) (L' := [some (.ref 0)]) (st' := [.ref 0]) (w' := (cSh 0 s)) (by decide +kernel) rfl trivial ?_
  obtain ⟨r1001, h_1001, hf⟩ := bnd_s hf
  refine m_cV0 M (rest := []) (w2 := (cSh 0 s)) (st2 := [.int r1001]) (run_X1_isEmpty   s h_1001) cv_X1_isEmpty lk_X1_49 (by decide +kernel) [0, 1, 2, 3, 4, 5] (by decide) (Nat.le_of_ble_eq_true rfl) rfl rfl rfl (Nat.le_of_ble_eq_true rfl) ⟨by decide, by decide⟩ rfl rfl ⟨Nat.zero_le _, Nat.zero_le _⟩ rfl rfl ?_
  rcases ite_s hf with ⟨c_1002, hf⟩ | ⟨c_1002, hf⟩
  · refine m_jF M (i := .ifCond .ne 10) 14 (by decide +kernel) rfl (by decide) (fun n => n c_1002) ?_
    refine m_run M (is := [(7, .aload_n 0, 0)]) (pc' := 8) (L' := [some (.ref 0)]) (st' := [.ref 0]) (w' := (cSh 0 s)) (by decide +kernel) rfl trivial ?_
    obtain ⟨r1003, h_1003, hf⟩ := bnd_s hf
    refine m_cV0 M (rest := []) (w2 := (cSh 0 s)) (st2 := [.int r1003]) (run_X1_isLawless   s h_1003) cv_X1_isLawless lk_X1_53 (by decide +kernel) [0, 1, 2, 3, 4, 5] (by decide) (Nat.le_of_ble_eq_true rfl) rfl rfl rfl (Nat.le_of_ble_eq_true rfl) ⟨by decide, by decide⟩ rfl rfl ⟨Nat.zero_le _, Nat.zero_le _⟩ rfl rfl ?_
    rcases ite_s hf with ⟨c_1004, hf⟩ | ⟨c_1004, hf⟩
    · refine m_jT M (i := .ifCond .eq 7) 18 (by decide +kernel) rfl (by decide) c_1004 ?_
      refine m_run M (is := [(18, .iconst 0, 0)]) (pc' := 19) (L' := [some (.ref 0)]) (st' := [.int 0]) (w' := (cSh 0 s)) (by decide +kernel) rfl trivial ?_
      obtain rfl := Option.some.inj hf
      exact m_zret K (by decide +kernel) (Or.inl rfl) (Nat.zero_le _) (Nat.zero_le _) ⟨rfl, rfl⟩
    · refine m_jF M (i := .ifCond .eq 7) 18 (by decide +kernel) rfl (by decide) c_1004 ?_
      refine m_run M (is := [(14, .iconst 1, 1), (15, .goto 4, 0)]) (pc' := 19) (L' := [some (.ref 0)]) (st' := [.int 1]) (w' := (cSh 0 s)) (by decide +kernel) rfl trivial ?_
      obtain rfl := Option.some.inj hf
      exact m_zret K (by decide +kernel) (Or.inr rfl) (Nat.zero_le _) (Nat.zero_le _) ⟨rfl, rfl⟩
  · refine m_jT M (i := .ifCond .ne 10) 14 (by decide +kernel) rfl (by decide) c_1002 ?_
    refine m_run M (is := [(14, .iconst 1, 1), (15, .goto 4, 0)]) (pc' := 19) (L' := [some (.ref 0)]) (st' := [.int 1]) (w' := (cSh 0 s)) (by decide +kernel) rfl trivial ?_
    obtain rfl := Option.some.inj hf
    exact m_zret K (by decide +kernel) (Or.inr rfl) (Nat.zero_le _) (Nat.zero_le _) ⟨rfl, rfl⟩

def f_X1_hasRoom (s : ShT) : Option (Int32) :=
  if 16 ≤ s.2.2.2.2.2.1 then
    some 0
  else
    some 1
set_option maxRecDepth 100000 in
set_option maxHeartbeats 4000000 in
theorem run_X1_hasRoom {l : Launch} {D : va_G} {cT : Nat → ClassId}   (s : ShT) {r : Int32} (hf : f_X1_hasRoom s = some r) : Runs l D cT yX1_hasRoom cX1_hasRoom 1 (some .boolean) 0 0 [.ref 0] (cSh 0 s) (EQ (some (.int r)) (cSh 0 s)) := by
  refine runs_of O_X1 okO_X1 (by decide +kernel) rfl rfl (Nat.le_of_ble_eq_true rfl) (fun g K => ?_)
  have M := K.b
  show g 0 0 (cSh 0 s) 0 [some (.ref 0)] []
  rw [f_X1_hasRoom] at hf
  refine m_run M (is := [(0, .aload_n 0, 0), (1, .getfield 31, 0), (4, .bipush 16, 16)]) (pc' := 6) (L' := [some (.ref 0)]) (st' := [.int 16, .int s.2.2.2.2.2.1]) (w' := (cSh 0 s)) (by decide +kernel) rfl trivial ?_
  rcases ite_s hf with ⟨c_1001, hf⟩ | ⟨c_1001, hf⟩
  · refine m_jT M (i := .if_icmp .ge 7) 13 (by decide +kernel) rfl (by decide) c_1001 ?_
    refine m_run M (is := [(13, .iconst 0, 0)]) (pc' := 14) (L' := [some (.ref 0)]) (st' := [.int 0]) (w' := (cSh 0 s)) (by decide +kernel) rfl trivial ?_
    obtain rfl := Option.some.inj hf
    exact m_zret K (by decide +kernel) (Or.inl rfl) (Nat.zero_le _) (Nat.zero_le _) ⟨rfl, rfl⟩
  · refine m_jF M (i := .if_icmp .ge 7) 13 (by decide +kernel) rfl (by decide) c_1001 ?_
    refine m_run M (is := [(9, .iconst 1, 1), (10, .goto 4, 0)]) (pc' := 14) (L' := [some (.ref 0)]) (st' := [.int 1]) (w' := (cSh 0 s)) (by decide +kernel) rfl trivial ?_
    obtain rfl := Option.some.inj hf
    exact m_zret K (by decide +kernel) (Or.inr rfl) (Nat.zero_le _) (Nat.zero_le _) ⟨rfl, rfl⟩

def f_X1_hasRoomForLaw (s : ShT) : Option (Int32) :=
  if 6 ≤ s.2.2.2.2.2.2.1 then
    some 0
  else
    some 1
set_option maxRecDepth 100000 in
set_option maxHeartbeats 4000000 in
theorem run_X1_hasRoomForLaw {l : Launch} {D : va_G} {cT : Nat → ClassId}   (s : ShT) {r : Int32} (hf : f_X1_hasRoomForLaw s = some r) : Runs l D cT yX1_hasRoomForLaw cX1_hasRoomForLaw 1 (some .boolean) 0 0 [.ref 0] (cSh 0 s) (EQ (some (.int r)) (cSh 0 s)) := by
  refine runs_of O_X1 okO_X1 (by decide +kernel) rfl rfl (Nat.le_of_ble_eq_true rfl) (fun g K => ?_)
  have M := K.b
  show g 0 0 (cSh 0 s) 0 [some (.ref 0)] []
  rw [f_X1_hasRoomForLaw] at hf
  refine m_run M (is := [(0, .aload_n 0, 0), (1, .getfield 34, 0), (4, .bipush 6, 6)]) (pc' := 6) (L' := [some (.ref 0)]) (st' := [.int 6, .int s.2.2.2.2.2.2.1]) (w' := (cSh 0 s)) (by decide +kernel) rfl trivial ?_
  rcases ite_s hf with ⟨c_1001, hf⟩ | ⟨c_1001, hf⟩
  · refine m_jT M (i := .if_icmp .ge 7) 13 (by decide +kernel) rfl (by decide) c_1001 ?_
    refine m_run M (is := [(13, .iconst 0, 0)]) (pc' := 14) (L' := [some (.ref 0)]) (st' := [.int 0]) (w' := (cSh 0 s)) (by decide +kernel) rfl trivial ?_
    obtain rfl := Option.some.inj hf
    exact m_zret K (by decide +kernel) (Or.inl rfl) (Nat.zero_le _) (Nat.zero_le _) ⟨rfl, rfl⟩
  · refine m_jF M (i := .if_icmp .ge 7) 13 (by decide +kernel) rfl (by decide) c_1001 ?_
    refine m_run M (is := [(9, .iconst 1, 1), (10, .goto 4, 0)]) (pc' := 14) (L' := [some (.ref 0)]) (st' := [.int 1]) (w' := (cSh 0 s)) (by decide +kernel) rfl trivial ?_
    obtain rfl := Option.some.inj hf
    exact m_zret K (by decide +kernel) (Or.inr rfl) (Nat.zero_le _) (Nat.zero_le _) ⟨rfl, rfl⟩

def f_X1_hasPerson (a0 : Int32) (s : ShT) : Option (Int32) :=
  if a0 < 0 then
    some 0
  else
    if s.2.2.2.2.2.1 ≤ a0 then
      some 0
    else
      some 1
set_option maxRecDepth 100000 in
set_option maxHeartbeats 4000000 in
theorem run_X1_hasPerson {l : Launch} {D : va_G} {cT : Nat → ClassId} (a0 : Int32)  (s : ShT) {r : Int32} (hf : f_X1_hasPerson a0 s = some r) : Runs l D cT yX1_hasPerson cX1_hasPerson 2 (some .boolean) 0 0 [.ref 0, .int a0] (cSh 0 s) (EQ (some (.int r)) (cSh 0 s)) := by
  refine runs_of O_X1 okO_X1 (by decide +kernel) rfl rfl (Nat.le_of_ble_eq_true rfl) (fun g K => ?_)
  have M := K.b
  show g 0 0 (cSh 0 s) 0 [some (.ref 0), some (.int a0)] []
  rw [f_X1_hasPerson] at hf
  refine m_run M (is := [(0, .iload_n 1, 0)]) (pc' := 1) (L' := [some (.ref 0), some (.int a0)]) (st' := [.int a0]) (w' := (cSh 0 s)) (by decide +kernel) rfl trivial ?_
  rcases ite_s hf with ⟨c_1001, hf⟩ | ⟨c_1001, hf⟩
  · refine m_jT M (i := .ifCond .lt 15) 16 (by decide +kernel) rfl (by decide) c_1001 ?_
    refine m_run M (is := [(16, .iconst 0, 0)]) (pc' := 17) (L' := [some (.ref 0), some (.int a0)]) (st' := [.int 0]) (w' := (cSh 0 s)) (by decide +kernel) rfl trivial ?_
    obtain rfl := Option.some.inj hf
    exact m_zret K (by decide +kernel) (Or.inl rfl) (Nat.zero_le _) (Nat.zero_le _) ⟨rfl, rfl⟩
  · refine m_jF M (i := .ifCond .lt 15) 16 (by decide +kernel) rfl (by decide) c_1001 ?_
    refine m_run M (is := [(4, .iload_n 1, 0), (5, .aload_n 0, 0), (6, .getfield 31, 0)]) (pc' := 9) (L' := [some (.ref 0), some (.int a0)]) (st' := [.int s.2.2.2.2.2.1, .int a0]) (w' := (cSh 0 s)) (by decide +kernel) rfl trivial ?_
    rcases ite_s hf with ⟨c_1002, hf⟩ | ⟨c_1002, hf⟩
    · refine m_jT M (i := .if_icmp .ge 7) 16 (by decide +kernel) rfl (by decide) c_1002 ?_
      refine m_run M (is := [(16, .iconst 0, 0)]) (pc' := 17) (L' := [some (.ref 0), some (.int a0)]) (st' := [.int 0]) (w' := (cSh 0 s)) (by decide +kernel) rfl trivial ?_
      obtain rfl := Option.some.inj hf
      exact m_zret K (by decide +kernel) (Or.inl rfl) (Nat.zero_le _) (Nat.zero_le _) ⟨rfl, rfl⟩
    · refine m_jF M (i := .if_icmp .ge 7) 16 (by decide +kernel) rfl (by decide) c_1002 ?_
      refine m_run M (is := [(12, .iconst 1, 1), (13, .goto 4, 0)]) (pc' := 17) (L' := [some (.ref 0), some (.int a0)]) (st' := [.int 1]) (w' := (cSh 0 s)) (by decide +kernel) rfl trivial ?_
      obtain rfl := Option.some.inj hf
      exact m_zret K (by decide +kernel) (Or.inr rfl) (Nat.zero_le _) (Nat.zero_le _) ⟨rfl, rfl⟩

def f_X1_hasPlace (a0 : Int32) (s : ShT) : Option (Int32) :=
  if a0 < 0 then
    some 0
  else
    if s.2.2.2.2.2.1 ≤ a0 then
      some 0
    else
      some 1
set_option maxRecDepth 100000 in
set_option maxHeartbeats 4000000 in
theorem run_X1_hasPlace {l : Launch} {D : va_G} {cT : Nat → ClassId} (a0 : Int32)  (s : ShT) {r : Int32} (hf : f_X1_hasPlace a0 s = some r) : Runs l D cT yX1_hasPlace cX1_hasPlace 2 (some .boolean) 0 0 [.ref 0, .int a0] (cSh 0 s) (EQ (some (.int r)) (cSh 0 s)) := by
  refine runs_of O_X1 okO_X1 (by decide +kernel) rfl rfl (Nat.le_of_ble_eq_true rfl) (fun g K => ?_)
  have M := K.b
  show g 0 0 (cSh 0 s) 0 [some (.ref 0), some (.int a0)] []
  rw [f_X1_hasPlace] at hf
  refine m_run M (is := [(0, .iload_n 1, 0)]) (pc' := 1) (L' := [some (.ref 0), some (.int a0)]) (st' := [.int a0]) (w' := (cSh 0 s)) (by decide +kernel) rfl trivial ?_
  rcases ite_s hf with ⟨c_1001, hf⟩ | ⟨c_1001, hf⟩
  · refine m_jT M (i := .ifCond .lt 15) 16 (by decide +kernel) rfl (by decide) c_1001 ?_
    refine m_run M (is := [(16, .iconst 0, 0)]) (pc' := 17) (L' := [some (.ref 0), some (.int a0)]) (st' := [.int 0]) (w' := (cSh 0 s)) (by decide +kernel) rfl trivial ?_
    obtain rfl := Option.some.inj hf
    exact m_zret K (by decide +kernel) (Or.inl rfl) (Nat.zero_le _) (Nat.zero_le _) ⟨rfl, rfl⟩
  · refine m_jF M (i := .ifCond .lt 15) 16 (by decide +kernel) rfl (by decide) c_1001 ?_
    refine m_run M (is := [(4, .iload_n 1, 0), (5, .aload_n 0, 0), (6, .getfield 31, 0)]) (pc' := 9) (L' := [some (.ref 0), some (.int a0)]) (st' := [.int s.2.2.2.2.2.1, .int a0]) (w' := (cSh 0 s)) (by decide +kernel) rfl trivial ?_
    rcases ite_s hf with ⟨c_1002, hf⟩ | ⟨c_1002, hf⟩
    · refine m_jT M (i := .if_icmp .ge 7) 16 (by decide +kernel) rfl (by decide) c_1002 ?_
      refine m_run M (is := [(16, .iconst 0, 0)]) (pc' := 17) (L' := [some (.ref 0), some (.int a0)]) (st' := [.int 0]) (w' := (cSh 0 s)) (by decide +kernel) rfl trivial ?_
      obtain rfl := Option.some.inj hf
      exact m_zret K (by decide +kernel) (Or.inl rfl) (Nat.zero_le _) (Nat.zero_le _) ⟨rfl, rfl⟩
    · refine m_jF M (i := .if_icmp .ge 7) 16 (by decide +kernel) rfl (by decide) c_1002 ?_
      refine m_run M (is := [(12, .iconst 1, 1), (13, .goto 4, 0)]) (pc' := 17) (L' := [some (.ref 0), some (.int a0)]) (st' := [.int 1]) (w' := (cSh 0 s)) (by decide +kernel) rfl trivial ?_
      obtain rfl := Option.some.inj hf
      exact m_zret K (by decide +kernel) (Or.inr rfl) (Nat.zero_le _) (Nat.zero_le _) ⟨rfl, rfl⟩

def f_X1_hasLaw (a0 : Int32) (s : ShT) : Option (Int32) :=
  if a0 < 0 then
    some 0
  else
    if s.2.2.2.2.2.2.1 ≤ a0 then
      some 0
    else
      some 1
set_option maxRecDepth 100000 in
set_option maxHeartbeats 4000000 in
theorem run_X1_hasLaw {l : Launch} {D : va_G} {cT : Nat → ClassId} (a0 : Int32)  (s : ShT) {r : Int32} (hf : f_X1_hasLaw a0 s = some r) : Runs l D cT yX1_hasLaw cX1_hasLaw 2 (some .boolean) 0 0 [.ref 0, .int a0] (cSh 0 s) (EQ (some (.int r)) (cSh 0 s)) := by
  refine runs_of O_X1 okO_X1 (by decide +kernel) rfl rfl (Nat.le_of_ble_eq_true rfl) (fun g K => ?_)
  have M := K.b
  show g 0 0 (cSh 0 s) 0 [some (.ref 0), some (.int a0)] []
  rw [f_X1_hasLaw] at hf
  refine m_run M (is := [(0, .iload_n 1, 0)]) (pc' := 1) (L' := [some (.ref 0), some (.int a0)]) (st' := [.int a0]) (w' := (cSh 0 s)) (by decide +kernel) rfl trivial ?_
  rcases ite_s hf with ⟨c_1001, hf⟩ | ⟨c_1001, hf⟩
  · refine m_jT M (i := .ifCond .lt 15) 16 (by decide +kernel) rfl (by decide) c_1001 ?_
    refine m_run M (is := [(16, .iconst 0, 0)]) (pc' := 17) (L' := [some (.ref 0), some (.int a0)]) (st' := [.int 0]) (w' := (cSh 0 s)) (by decide +kernel) rfl trivial ?_
    obtain rfl := Option.some.inj hf
    exact m_zret K (by decide +kernel) (Or.inl rfl) (Nat.zero_le _) (Nat.zero_le _) ⟨rfl, rfl⟩
  · refine m_jF M (i := .ifCond .lt 15) 16 (by decide +kernel) rfl (by decide) c_1001 ?_
    refine m_run M (is := [(4, .iload_n 1, 0), (5, .aload_n 0, 0), (6, .getfield 34, 0)]) (pc' := 9) (L' := [some (.ref 0), some (.int a0)]) (st' := [.int s.2.2.2.2.2.2.1, .int a0]) (w' := (cSh 0 s)) (by decide +kernel) rfl trivial ?_
    rcases ite_s hf with ⟨c_1002, hf⟩ | ⟨c_1002, hf⟩
    · refine m_jT M (i := .if_icmp .ge 7) 16 (by decide +kernel) rfl (by decide) c_1002 ?_
      refine m_run M (is := [(16, .iconst 0, 0)]) (pc' := 17) (L' := [some (.ref 0), some (.int a0)]) (st' := [.int 0]) (w' := (cSh 0 s)) (by decide +kernel) rfl trivial ?_
      obtain rfl := Option.some.inj hf
      exact m_zret K (by decide +kernel) (Or.inl rfl) (Nat.zero_le _) (Nat.zero_le _) ⟨rfl, rfl⟩
    · refine m_jF M (i := .if_icmp .ge 7) 16 (by decide +kernel) rfl (by decide) c_1002 ?_
      refine m_run M (is := [(12, .iconst 1, 1), (13, .goto 4, 0)]) (pc' := 17) (L' := [some (.ref 0), some (.int a0)]) (st' := [.int 1]) (w' := (cSh 0 s)) (by decide +kernel) rfl trivial ?_
      obtain rfl := Option.some.inj hf
      exact m_zret K (by decide +kernel) (Or.inr rfl) (Nat.zero_le _) (Nat.zero_le _) ⟨rfl, rfl⟩

def f_X1_who (a0 : Int32) (s : ShT) : Option (Int32) :=
  (f_X1_hasPlace a0 s).bind fun r1001 =>
  if r1001 = 0 then
    some (-1)
  else
    if inB a0 16 then
    some (s.1 a0.toNatClampNeg)
    else none
set_option maxRecDepth 100000 in
set_option maxHeartbeats 4000000 in
theorem run_X1_who {l : Launch} {D : va_G} {cT : Nat → ClassId} (a0 : Int32)  (s : ShT) {r : Int32} (hf : f_X1_who a0 s = some r) : Runs l D cT yX1_who cX1_who 2 (some .int) 1 21 [.ref 0, .int a0] (cSh 0 s) (EQ (some (.int r)) (cSh 0 s)) := by
  refine runs_of O_X1 okO_X1 (by decide +kernel) rfl rfl (Nat.le_of_ble_eq_true rfl) (fun g K => ?_)
  have M := K.b
  show g 0 0 (cSh 0 s) 0 [some (.ref 0), some (.int a0)] []
  rw [f_X1_who] at hf
  refine m_run M (is := [(0, .aload_n 0, 0), (1, .iload_n 1, 0)]) (pc' := 2) (L' := [some (.ref 0), some (.int a0)]) (st' := [.int a0, .ref 0]) (w' := (cSh 0 s)) (by decide +kernel) rfl trivial ?_
  obtain ⟨r1001, h_1001, hf⟩ := bnd_s hf
  refine m_cV0 M (rest := []) (w2 := (cSh 0 s)) (st2 := [.int r1001]) (run_X1_hasPlace a0  s h_1001) cv_X1_hasPlace lk_X1_56 (by decide +kernel) [0, 1, 2, 3, 4, 5] (by decide) (Nat.le_of_ble_eq_true rfl) rfl rfl rfl (Nat.le_of_ble_eq_true rfl) ⟨by decide, by decide⟩ rfl rfl ⟨Nat.zero_le _, Nat.zero_le _⟩ rfl rfl ?_
  rcases ite_s hf with ⟨c_1002, hf⟩ | ⟨c_1002, hf⟩
  · refine m_jT M (i := .ifCond .eq 12) 17 (by decide +kernel) rfl (by decide) c_1002 ?_
    refine m_run M (is := [(17, .iconst (-1), -1)]) (pc' := 18) (L' := [some (.ref 0), some (.int a0)]) (st' := [.int (-1)]) (w' := (cSh 0 s)) (by decide +kernel) rfl trivial ?_
    obtain rfl := Option.some.inj hf
    exact m_iret K (by decide +kernel) (Nat.zero_le _) (Nat.zero_le _) ⟨rfl, rfl⟩
  · refine m_jF M (i := .ifCond .eq 12) 17 (by decide +kernel) rfl (by decide) c_1002 ?_
    obtain ⟨h_1003, hf⟩ := grd_s hf
    refine m_run M (is := [(8, .aload_n 0, 0), (9, .getfield 9, 0), (12, .iload_n 1, 0), (13, .iaload, 0), (14, .goto 4, 0)]) (pc' := 18) (L' := [some (.ref 0), some (.int a0)]) (st' := [.int (s.1 a0.toNatClampNeg)]) (w' := (cSh 0 s)) (by decide +kernel) rfl ⟨inB_use h_1003, trivial⟩ ?_
    obtain rfl := Option.some.inj hf
    exact m_iret K (by decide +kernel) (Nat.zero_le _) (Nat.zero_le _) ⟨rfl, rfl⟩

def f_X1_placeOf_L0 (v1 : Int32) (s : ShT) : Nat → Int32 → Option (Int32)
  | 0, _ => none
  | n_ + 1, v2 =>
    if s.2.2.2.2.2.1 ≤ v2 then
      some (-1)
    else
      if inB v2 16 then
      if (s.1 v2.toNatClampNeg) = v1 then
        some v2
      else
        f_X1_placeOf_L0 v1 s n_ (v2 + 1)
      else none
def f_X1_placeOf (a0 : Int32) (s : ShT) : Option (Int32) :=
  f_X1_placeOf_L0 a0 s fuel0 0
set_option maxRecDepth 100000 in
set_option maxHeartbeats 4000000 in
theorem run_X1_placeOf {l : Launch} {D : va_G} {cT : Nat → ClassId} (a0 : Int32)  (s : ShT) {r : Int32} (hf : f_X1_placeOf a0 s = some r) : Runs l D cT yX1_placeOf cX1_placeOf 3 (some .int) 0 0 [.ref 0, .int a0] (cSh 0 s) (EQ (some (.int r)) (cSh 0 s)) := by
  refine runs_of O_X1 okO_X1 (by decide +kernel) rfl rfl (Nat.le_of_ble_eq_true rfl) (fun g K => ?_)
  have M := K.b
  show g 0 0 (cSh 0 s) 0 [some (.ref 0), some (.int a0), none] []
  have loop_0 : ∀ (v1 : Int32) (n_ : Nat), (∀ (v2 : Int32), f_X1_placeOf_L0 v1 s n_ v2 = some r → g 0 0 (cSh 0 s) 2 [some (.ref 0), some (.int v1), some (.int v2)] []) := by
    intro v1 n_
    induction n_ with
    | zero => intro v2 hf; cases hf
    | succ n_ ih =>
      intro v2 hf
      rw [f_X1_placeOf_L0] at hf
      refine m_run M (is := [(2, .iload_n 2, 0), (3, .aload_n 0, 0), (4, .getfield 31, 0)]) (pc' := 7) (L' := [some (.ref 0), some (.int v1), some (.int v2)]) (st' := [.int s.2.2.2.2.2.1, .int v2]) (w' := (cSh 0 s)) (by decide +kernel) rfl trivial ?_
      rcases ite_s hf with ⟨c_101, hf⟩ | ⟨c_101, hf⟩
      · refine m_jT M (i := .if_icmp .ge 21) 28 (by decide +kernel) rfl (by decide) c_101 ?_
        refine m_run M (is := [(28, .iconst (-1), -1)]) (pc' := 29) (L' := [some (.ref 0), some (.int v1), some (.int v2)]) (st' := [.int (-1)]) (w' := (cSh 0 s)) (by decide +kernel) rfl trivial ?_
        obtain rfl := Option.some.inj hf
        exact m_iret K (by decide +kernel) (Nat.zero_le _) (Nat.zero_le _) ⟨rfl, rfl⟩
      · refine m_jF M (i := .if_icmp .ge 21) 28 (by decide +kernel) rfl (by decide) c_101 ?_
        obtain ⟨h_102, hf⟩ := grd_s hf
        refine m_run M (is := [(10, .aload_n 0, 0), (11, .getfield 9, 0), (14, .iload_n 2, 0), (15, .iaload, 0), (16, .iload_n 1, 0)]) (pc' := 17) (L' := [some (.ref 0), some (.int v1), some (.int v2)]) (st' := [.int v1, .int (s.1 v2.toNatClampNeg)]) (w' := (cSh 0 s)) (by decide +kernel) rfl ⟨inB_use h_102, trivial⟩ ?_
        rcases ite_s hf with ⟨c_103, hf⟩ | ⟨c_103, hf⟩
        · refine m_jF M (i := .if_icmp .ne 5) 22 (by decide +kernel) rfl (by decide) (fun n => n c_103) ?_
          refine m_run M (is := [(20, .iload_n 2, 0)]) (pc' := 21) (L' := [some (.ref 0), some (.int v1), some (.int v2)]) (st' := [.int v2]) (w' := (cSh 0 s)) (by decide +kernel) rfl trivial ?_
          obtain rfl := Option.some.inj hf
          exact m_iret K (by decide +kernel) (Nat.zero_le _) (Nat.zero_le _) ⟨rfl, rfl⟩
        · refine m_jT M (i := .if_icmp .ne 5) 22 (by decide +kernel) rfl (by decide) c_103 ?_
          refine m_run M (is := [(22, .iinc 2 1, 1), (25, .goto (-23), 0)]) (pc' := 2) (L' := [some (.ref 0), some (.int v1), some (.int (v2 + 1))]) (st' := []) (w' := (cSh 0 s)) (by decide +kernel) rfl trivial ?_
          exact ih (v2 + 1) hf
  rw [f_X1_placeOf] at hf
  refine m_run M (is := [(0, .iconst 0, 0), (1, .istore_n 2, 0)]) (pc' := 2) (L' := [some (.ref 0), some (.int a0), some (.int 0)]) (st' := []) (w' := (cSh 0 s)) (by decide +kernel) rfl trivial ?_
  exact loop_0 a0 fuel0 0 hf

def f_X1_fact (a0 : Int32) (a1 : Int32) (s : ShT) : Option (Int32) :=
  (f_X1_hasPerson a0 s).bind fun r1001 =>
  if r1001 = 0 then
    some (-1)
  else
    if a1 = 0 then
      (f_X1_placeOf a0 s).bind fun r1004 =>
      some r1004
    else
      if a1 = 1 then
        if inB a0 16 then
        some (s.2.1 a0.toNatClampNeg)
        else none
      else
        if inB a0 16 then
        some (s.2.2.1 a0.toNatClampNeg)
        else none
set_option maxRecDepth 100000 in
set_option maxHeartbeats 4000000 in
theorem run_X1_fact {l : Launch} {D : va_G} {cT : Nat → ClassId} (a0 : Int32) (a1 : Int32)  (s : ShT) {r : Int32} (hf : f_X1_fact a0 a1 s = some r) : Runs l D cT yX1_fact cX1_fact 3 (some .int) 1 22 [.ref 0, .int a0, .int a1] (cSh 0 s) (EQ (some (.int r)) (cSh 0 s)) := by
  refine runs_of O_X1 okO_X1 (by decide +kernel) rfl rfl (Nat.le_of_ble_eq_true rfl) (fun g K => ?_)
  have M := K.b
  show g 0 0 (cSh 0 s) 0 [some (.ref 0), some (.int a0), some (.int a1)] []
  rw [f_X1_fact] at hf
  refine m_run M (is := [(0, .aload_n 0, 0), (1, .iload_n 1, 0)]) (pc' := 2) (L' := [some (.ref 0), some (.int a0), some (.int a1)]) (st' := [.int a0, .ref 0]) (w' := (cSh 0 s)) (by decide +kernel) rfl trivial ?_
  obtain ⟨r1001, h_1001, hf⟩ := bnd_s hf
  refine m_cV0 M (rest := []) (w2 := (cSh 0 s)) (st2 := [.int r1001]) (run_X1_hasPerson a0  s h_1001) cv_X1_hasPerson lk_X1_60 (by decide +kernel) [0, 1, 2, 3, 4, 5] (by decide) (Nat.le_of_ble_eq_true rfl) rfl rfl rfl (Nat.le_of_ble_eq_true rfl) ⟨by decide, by decide⟩ rfl rfl ⟨Nat.zero_le _, Nat.zero_le _⟩ rfl rfl ?_
  rcases ite_s hf with ⟨c_1002, hf⟩ | ⟨c_1002, hf⟩
  · refine m_jF M (i := .ifCond .ne 5) 10 (by decide +kernel) rfl (by decide) (fun n => n c_1002) ?_
    refine m_run M (is := [(8, .iconst (-1), -1)]) (pc' := 9) (L' := [some (.ref 0), some (.int a0), some (.int a1)]) (st' := [.int (-1)]) (w' := (cSh 0 s)) (by decide +kernel) rfl trivial ?_
    obtain rfl := Option.some.inj hf
    exact m_iret K (by decide +kernel) (Nat.zero_le _) (Nat.zero_le _) ⟨rfl, rfl⟩
  · refine m_jT M (i := .ifCond .ne 5) 10 (by decide +kernel) rfl (by decide) c_1002 ?_
    refine m_run M (is := [(10, .iload_n 2, 0)]) (pc' := 11) (L' := [some (.ref 0), some (.int a0), some (.int a1)]) (st' := [.int a1]) (w' := (cSh 0 s)) (by decide +kernel) rfl trivial ?_
    rcases ite_s hf with ⟨c_1003, hf⟩ | ⟨c_1003, hf⟩
    · refine m_jF M (i := .ifCond .ne 9) 20 (by decide +kernel) rfl (by decide) (fun n => n c_1003) ?_
      refine m_run M (is := [(14, .aload_n 0, 0), (15, .iload_n 1, 0)]) (pc' := 16) (L' := [some (.ref 0), some (.int a0), some (.int a1)]) (st' := [.int a0, .ref 0]) (w' := (cSh 0 s)) (by decide +kernel) rfl trivial ?_
      obtain ⟨r1004, h_1004, hf⟩ := bnd_s hf
      refine m_cV0 M (rest := []) (w2 := (cSh 0 s)) (st2 := [.int r1004]) (run_X1_placeOf a0  s h_1004) cv_X1_placeOf lk_X1_63 (by decide +kernel) [0, 1, 2, 3, 4, 5] (by decide) (Nat.le_of_ble_eq_true rfl) rfl rfl rfl (Nat.le_of_ble_eq_true rfl) ⟨by decide, by decide⟩ rfl rfl ⟨Nat.zero_le _, Nat.zero_le _⟩ rfl rfl ?_
      obtain rfl := Option.some.inj hf
      exact m_iret K (by decide +kernel) (Nat.zero_le _) (Nat.zero_le _) ⟨rfl, rfl⟩
    · refine m_jT M (i := .ifCond .ne 9) 20 (by decide +kernel) rfl (by decide) c_1003 ?_
      refine m_run M (is := [(20, .iload_n 2, 0), (21, .iconst 1, 1)]) (pc' := 22) (L' := [some (.ref 0), some (.int a0), some (.int a1)]) (st' := [.int 1, .int a1]) (w' := (cSh 0 s)) (by decide +kernel) rfl trivial ?_
      rcases ite_s hf with ⟨c_1005, hf⟩ | ⟨c_1005, hf⟩
      · refine m_jF M (i := .if_icmp .ne 12) 34 (by decide +kernel) rfl (by decide) (fun n => n c_1005) ?_
        obtain ⟨h_1006, hf⟩ := grd_s hf
        refine m_run M (is := [(25, .aload_n 0, 0), (26, .getfield 15, 0), (29, .iload_n 1, 0), (30, .iaload, 0), (31, .goto 9, 0)]) (pc' := 40) (L' := [some (.ref 0), some (.int a0), some (.int a1)]) (st' := [.int (s.2.1 a0.toNatClampNeg)]) (w' := (cSh 0 s)) (by decide +kernel) rfl ⟨inB_use h_1006, trivial⟩ ?_
        obtain rfl := Option.some.inj hf
        exact m_iret K (by decide +kernel) (Nat.zero_le _) (Nat.zero_le _) ⟨rfl, rfl⟩
      · refine m_jT M (i := .if_icmp .ne 12) 34 (by decide +kernel) rfl (by decide) c_1005 ?_
        obtain ⟨h_1007, hf⟩ := grd_s hf
        refine m_run M (is := [(34, .aload_n 0, 0), (35, .getfield 18, 0), (38, .iload_n 1, 0), (39, .iaload, 0)]) (pc' := 40) (L' := [some (.ref 0), some (.int a0), some (.int a1)]) (st' := [.int (s.2.2.1 a0.toNatClampNeg)]) (w' := (cSh 0 s)) (by decide +kernel) rfl ⟨inB_use h_1007, trivial⟩ ?_
        obtain rfl := Option.some.inj hf
        exact m_iret K (by decide +kernel) (Nat.zero_le _) (Nat.zero_le _) ⟨rfl, rfl⟩

def f_X1_kindOf (a0 : Int32) (s : ShT) : Option (Int32) :=
  (f_X1_hasLaw a0 s).bind fun r1001 =>
  if r1001 = 0 then
    some (-1)
  else
    if inB a0 6 then
    some (s.2.2.2.1 a0.toNatClampNeg)
    else none
set_option maxRecDepth 100000 in
set_option maxHeartbeats 4000000 in
theorem run_X1_kindOf {l : Launch} {D : va_G} {cT : Nat → ClassId} (a0 : Int32)  (s : ShT) {r : Int32} (hf : f_X1_kindOf a0 s = some r) : Runs l D cT yX1_kindOf cX1_kindOf 2 (some .int) 1 21 [.ref 0, .int a0] (cSh 0 s) (EQ (some (.int r)) (cSh 0 s)) := by
  refine runs_of O_X1 okO_X1 (by decide +kernel) rfl rfl (Nat.le_of_ble_eq_true rfl) (fun g K => ?_)
  have M := K.b
  show g 0 0 (cSh 0 s) 0 [some (.ref 0), some (.int a0)] []
  rw [f_X1_kindOf] at hf
  refine m_run M (is := [(0, .aload_n 0, 0), (1, .iload_n 1, 0)]) (pc' := 2) (L' := [some (.ref 0), some (.int a0)]) (st' := [.int a0, .ref 0]) (w' := (cSh 0 s)) (by decide +kernel) rfl trivial ?_
  obtain ⟨r1001, h_1001, hf⟩ := bnd_s hf
  refine m_cV0 M (rest := []) (w2 := (cSh 0 s)) (st2 := [.int r1001]) (run_X1_hasLaw a0  s h_1001) cv_X1_hasLaw lk_X1_67 (by decide +kernel) [0, 1, 2, 3, 4, 5] (by decide) (Nat.le_of_ble_eq_true rfl) rfl rfl rfl (Nat.le_of_ble_eq_true rfl) ⟨by decide, by decide⟩ rfl rfl ⟨Nat.zero_le _, Nat.zero_le _⟩ rfl rfl ?_
  rcases ite_s hf with ⟨c_1002, hf⟩ | ⟨c_1002, hf⟩
  · refine m_jT M (i := .ifCond .eq 12) 17 (by decide +kernel) rfl (by decide) c_1002 ?_
    refine m_run M (is := [(17, .iconst (-1), -1)]) (pc' := 18) (L' := [some (.ref 0), some (.int a0)]) (st' := [.int (-1)]) (w' := (cSh 0 s)) (by decide +kernel) rfl trivial ?_
    obtain rfl := Option.some.inj hf
    exact m_iret K (by decide +kernel) (Nat.zero_le _) (Nat.zero_le _) ⟨rfl, rfl⟩
  · refine m_jF M (i := .ifCond .eq 12) 17 (by decide +kernel) rfl (by decide) c_1002 ?_
    obtain ⟨h_1003, hf⟩ := grd_s hf
    refine m_run M (is := [(8, .aload_n 0, 0), (9, .getfield 21, 0), (12, .iload_n 1, 0), (13, .iaload, 0), (14, .goto 4, 0)]) (pc' := 18) (L' := [some (.ref 0), some (.int a0)]) (st' := [.int (s.2.2.2.1 a0.toNatClampNeg)]) (w' := (cSh 0 s)) (by decide +kernel) rfl ⟨inB_use h_1003, trivial⟩ ?_
    obtain rfl := Option.some.inj hf
    exact m_iret K (by decide +kernel) (Nat.zero_le _) (Nat.zero_le _) ⟨rfl, rfl⟩

def f_X1_amountOf (a0 : Int32) (s : ShT) : Option (Int32) :=
  (f_X1_hasLaw a0 s).bind fun r1001 =>
  if r1001 = 0 then
    some (-1)
  else
    if inB a0 6 then
    some (s.2.2.2.2.1 a0.toNatClampNeg)
    else none
set_option maxRecDepth 100000 in
set_option maxHeartbeats 4000000 in
theorem run_X1_amountOf {l : Launch} {D : va_G} {cT : Nat → ClassId} (a0 : Int32)  (s : ShT) {r : Int32} (hf : f_X1_amountOf a0 s = some r) : Runs l D cT yX1_amountOf cX1_amountOf 2 (some .int) 1 21 [.ref 0, .int a0] (cSh 0 s) (EQ (some (.int r)) (cSh 0 s)) := by
  refine runs_of O_X1 okO_X1 (by decide +kernel) rfl rfl (Nat.le_of_ble_eq_true rfl) (fun g K => ?_)
  have M := K.b
  show g 0 0 (cSh 0 s) 0 [some (.ref 0), some (.int a0)] []
  rw [f_X1_amountOf] at hf
  refine m_run M (is := [(0, .aload_n 0, 0), (1, .iload_n 1, 0)]) (pc' := 2) (L' := [some (.ref 0), some (.int a0)]) (st' := [.int a0, .ref 0]) (w' := (cSh 0 s)) (by decide +kernel) rfl trivial ?_
  obtain ⟨r1001, h_1001, hf⟩ := bnd_s hf
  refine m_cV0 M (rest := []) (w2 := (cSh 0 s)) (st2 := [.int r1001]) (run_X1_hasLaw a0  s h_1001) cv_X1_hasLaw lk_X1_67 (by decide +kernel) [0, 1, 2, 3, 4, 5] (by decide) (Nat.le_of_ble_eq_true rfl) rfl rfl rfl (Nat.le_of_ble_eq_true rfl) ⟨by decide, by decide⟩ rfl rfl ⟨Nat.zero_le _, Nat.zero_le _⟩ rfl rfl ?_
  rcases ite_s hf with ⟨c_1002, hf⟩ | ⟨c_1002, hf⟩
  · refine m_jT M (i := .ifCond .eq 12) 17 (by decide +kernel) rfl (by decide) c_1002 ?_
    refine m_run M (is := [(17, .iconst (-1), -1)]) (pc' := 18) (L' := [some (.ref 0), some (.int a0)]) (st' := [.int (-1)]) (w' := (cSh 0 s)) (by decide +kernel) rfl trivial ?_
    obtain rfl := Option.some.inj hf
    exact m_iret K (by decide +kernel) (Nat.zero_le _) (Nat.zero_le _) ⟨rfl, rfl⟩
  · refine m_jF M (i := .ifCond .eq 12) 17 (by decide +kernel) rfl (by decide) c_1002 ?_
    obtain ⟨h_1003, hf⟩ := grd_s hf
    refine m_run M (is := [(8, .aload_n 0, 0), (9, .getfield 24, 0), (12, .iload_n 1, 0), (13, .iaload, 0), (14, .goto 4, 0)]) (pc' := 18) (L' := [some (.ref 0), some (.int a0)]) (st' := [.int (s.2.2.2.2.1 a0.toNatClampNeg)]) (w' := (cSh 0 s)) (by decide +kernel) rfl ⟨inB_use h_1003, trivial⟩ ?_
    obtain rfl := Option.some.inj hf
    exact m_iret K (by decide +kernel) (Nat.zero_le _) (Nat.zero_le _) ⟨rfl, rfl⟩

def f_X1_allBits (s : ShT) : Option (Int32) :=
  some ((1 <<< (s.2.2.2.2.2.1 &&& 31)) - 1)
set_option maxRecDepth 100000 in
set_option maxHeartbeats 4000000 in
theorem run_X1_allBits {l : Launch} {D : va_G} {cT : Nat → ClassId}   (s : ShT) {r : Int32} (hf : f_X1_allBits s = some r) : Runs l D cT yX1_allBits cX1_allBits 1 (some .int) 0 0 [.ref 0] (cSh 0 s) (EQ (some (.int r)) (cSh 0 s)) := by
  refine runs_of O_X1 okO_X1 (by decide +kernel) rfl rfl (Nat.le_of_ble_eq_true rfl) (fun g K => ?_)
  have M := K.b
  show g 0 0 (cSh 0 s) 0 [some (.ref 0)] []
  rw [f_X1_allBits] at hf
  refine m_run M (is := [(0, .iconst 1, 1), (1, .aload_n 0, 0), (2, .getfield 31, 0), (5, .ishl, 0), (6, .iconst 1, 1), (7, .isub, 0)]) (pc' := 8) (L' := [some (.ref 0)]) (st' := [.int ((1 <<< (s.2.2.2.2.2.1 &&& 31)) - 1)]) (w' := (cSh 0 s)) (by decide +kernel) rfl trivial ?_
  obtain rfl := Option.some.inj hf
  exact m_iret K (by decide +kernel) (Nat.zero_le _) (Nat.zero_le _) ⟨rfl, rfl⟩

def f_X1_allCounts_L0 (s : ShT) : Nat → Int32 → Int32 → Option (Int32)
  | 0, _, _ => none
  | n_ + 1, v1, v2 =>
    if s.2.2.2.2.2.1 ≤ v2 then
      some v1
    else
      if inB v2 16 then
      f_X1_allCounts_L0 s n_ (v1 + (s.2.1 v2.toNatClampNeg)) (v2 + 1)
      else none
def f_X1_allCounts (s : ShT) : Option (Int32) :=
  f_X1_allCounts_L0 s fuel0 0 0
set_option maxRecDepth 100000 in
set_option maxHeartbeats 4000000 in
theorem run_X1_allCounts {l : Launch} {D : va_G} {cT : Nat → ClassId}   (s : ShT) {r : Int32} (hf : f_X1_allCounts s = some r) : Runs l D cT yX1_allCounts cX1_allCounts 3 (some .int) 0 0 [.ref 0] (cSh 0 s) (EQ (some (.int r)) (cSh 0 s)) := by
  refine runs_of O_X1 okO_X1 (by decide +kernel) rfl rfl (Nat.le_of_ble_eq_true rfl) (fun g K => ?_)
  have M := K.b
  show g 0 0 (cSh 0 s) 0 [some (.ref 0), none, none] []
  have loop_0 : ∀ (n_ : Nat), (∀ (v1 : Int32) (v2 : Int32), f_X1_allCounts_L0 s n_ v1 v2 = some r → g 0 0 (cSh 0 s) 4 [some (.ref 0), some (.int v1), some (.int v2)] []) := by
    intro n_
    induction n_ with
    | zero => intro v1 v2 hf; cases hf
    | succ n_ ih =>
      intro v1 v2 hf
      rw [f_X1_allCounts_L0] at hf
      refine m_run M (is := [(4, .iload_n 2, 0), (5, .aload_n 0, 0), (6, .getfield 31, 0)]) (pc' := 9) (L' := [some (.ref 0), some (.int v1), some (.int v2)]) (st' := [.int s.2.2.2.2.2.1, .int v2]) (w' := (cSh 0 s)) (by decide +kernel) rfl trivial ?_
      rcases ite_s hf with ⟨c_101, hf⟩ | ⟨c_101, hf⟩
      · refine m_jT M (i := .if_icmp .ge 18) 27 (by decide +kernel) rfl (by decide) c_101 ?_
        refine m_run M (is := [(27, .iload_n 1, 0)]) (pc' := 28) (L' := [some (.ref 0), some (.int v1), some (.int v2)]) (st' := [.int v1]) (w' := (cSh 0 s)) (by decide +kernel) rfl trivial ?_
        obtain rfl := Option.some.inj hf
        exact m_iret K (by decide +kernel) (Nat.zero_le _) (Nat.zero_le _) ⟨rfl, rfl⟩
      · refine m_jF M (i := .if_icmp .ge 18) 27 (by decide +kernel) rfl (by decide) c_101 ?_
        obtain ⟨h_102, hf⟩ := grd_s hf
        refine m_run M (is := [(12, .iload_n 1, 0), (13, .aload_n 0, 0), (14, .getfield 15, 0), (17, .iload_n 2, 0), (18, .iaload, 0), (19, .iadd, 0), (20, .istore_n 1, 0), (21, .iinc 2 1, 1), (24, .goto (-20), 0)]) (pc' := 4) (L' := [some (.ref 0), some (.int (v1 + (s.2.1 v2.toNatClampNeg))), some (.int (v2 + 1))]) (st' := []) (w' := (cSh 0 s)) (by decide +kernel) rfl ⟨inB_use h_102, trivial⟩ ?_
        exact ih (v1 + (s.2.1 v2.toNatClampNeg)) (v2 + 1) hf
  rw [f_X1_allCounts] at hf
  refine m_run M (is := [(0, .iconst 0, 0), (1, .istore_n 1, 0), (2, .iconst 0, 0), (3, .istore_n 2, 0)]) (pc' := 4) (L' := [some (.ref 0), some (.int 0), some (.int 0)]) (st' := []) (w' := (cSh 0 s)) (by decide +kernel) rfl trivial ?_
  exact loop_0 fuel0 0 0 hf

def f_X1_countsApart_L0 (s : ShT) : Nat → Int32 → Int32 → Int32 → Option (Int32)
  | 0, _, _, _ => none
  | n_ + 1, v1, v2, v3 =>
    if s.2.2.2.2.2.1 ≤ v3 then
      some (v2 - v1)
    else
      if inB v3 16 then
      (f_J9_min_7cf53 v1 (s.2.1 v3.toNatClampNeg)).bind fun r103 =>
      if inB v3 16 then
      (f_J9_max_7cf53 v2 (s.2.1 v3.toNatClampNeg)).bind fun r105 =>
      f_X1_countsApart_L0 s n_ r103 r105 (v3 + 1)
      else none
      else none
def f_X1_countsApart (s : ShT) : Option (Int32) :=
  if inB 0 16 then
  if inB 0 16 then
  f_X1_countsApart_L0 s fuel0 (s.2.1 (0 : Int32).toNatClampNeg) (s.2.1 (0 : Int32).toNatClampNeg) 1
  else none
  else none
set_option maxRecDepth 100000 in
set_option maxHeartbeats 4000000 in
theorem run_X1_countsApart {l : Launch} {D : va_G} {cT : Nat → ClassId}   (s : ShT) {r : Int32} (hf : f_X1_countsApart s = some r) : Runs l D cT yX1_countsApart cX1_countsApart 4 (some .int) 1 21 [.ref 0] (cSh 0 s) (EQ (some (.int r)) (cSh 0 s)) := by
  refine runs_of O_X1 okO_X1 (by decide +kernel) rfl rfl (Nat.le_of_ble_eq_true rfl) (fun g K => ?_)
  have M := K.b
  show g 0 0 (cSh 0 s) 0 [some (.ref 0), none, none, none] []
  have loop_0 : ∀ (n_ : Nat), (∀ (v1 : Int32) (v2 : Int32) (v3 : Int32), f_X1_countsApart_L0 s n_ v1 v2 v3 = some r → g 0 0 (cSh 0 s) 16 [some (.ref 0), some (.int v1), some (.int v2), some (.int v3)] []) := by
    intro n_
    induction n_ with
    | zero => intro v1 v2 v3 hf; cases hf
    | succ n_ ih =>
      intro v1 v2 v3 hf
      rw [f_X1_countsApart_L0] at hf
      refine m_run M (is := [(16, .iload_n 3, 0), (17, .aload_n 0, 0), (18, .getfield 31, 0)]) (pc' := 21) (L' := [some (.ref 0), some (.int v1), some (.int v2), some (.int v3)]) (st' := [.int s.2.2.2.2.2.1, .int v3]) (w' := (cSh 0 s)) (by decide +kernel) rfl trivial ?_
      rcases ite_s hf with ⟨c_101, hf⟩ | ⟨c_101, hf⟩
      · refine m_jT M (i := .if_icmp .ge 31) 52 (by decide +kernel) rfl (by decide) c_101 ?_
        refine m_run M (is := [(52, .iload_n 2, 0), (53, .iload_n 1, 0), (54, .isub, 0)]) (pc' := 55) (L' := [some (.ref 0), some (.int v1), some (.int v2), some (.int v3)]) (st' := [.int (v2 - v1)]) (w' := (cSh 0 s)) (by decide +kernel) rfl trivial ?_
        obtain rfl := Option.some.inj hf
        exact m_iret K (by decide +kernel) (Nat.zero_le _) (Nat.zero_le _) ⟨rfl, rfl⟩
      · refine m_jF M (i := .if_icmp .ge 31) 52 (by decide +kernel) rfl (by decide) c_101 ?_
        obtain ⟨h_102, hf⟩ := grd_s hf
        refine m_run M (is := [(24, .iload_n 1, 0), (25, .aload_n 0, 0), (26, .getfield 15, 0), (29, .iload_n 3, 0), (30, .iaload, 0)]) (pc' := 31) (L' := [some (.ref 0), some (.int v1), some (.int v2), some (.int v3)]) (st' := [.int (s.2.1 v3.toNatClampNeg), .int v1]) (w' := (cSh 0 s)) (by decide +kernel) rfl ⟨inB_use h_102, trivial⟩ ?_
        obtain ⟨r103, h_103, hf⟩ := bnd_s hf
        refine m_cS0 M (rest := []) (w2 := (cSh 0 s)) (st2 := [.int r103]) (run_J9_min_7cf53 v1 (s.2.1 v3.toNatClampNeg)   h_103) cs_J9_min_7cf53 lk_X1_70 (by decide +kernel) [] (by decide) (Nat.le_of_ble_eq_true rfl) rfl rfl (Nat.le_of_ble_eq_true rfl) ⟨by decide, by decide⟩ rfl rfl ⟨Nat.zero_le _, Nat.zero_le _⟩ rfl rfl ?_
        obtain ⟨h_104, hf⟩ := grd_s hf
        refine m_run M (is := [(34, .istore_n 1, 0), (35, .iload_n 2, 0), (36, .aload_n 0, 0), (37, .getfield 15, 0), (40, .iload_n 3, 0), (41, .iaload, 0)]) (pc' := 42) (L' := [some (.ref 0), some (.int r103), some (.int v2), some (.int v3)]) (st' := [.int (s.2.1 v3.toNatClampNeg), .int v2]) (w' := (cSh 0 s)) (by decide +kernel) rfl ⟨inB_use h_104, trivial⟩ ?_
        obtain ⟨r105, h_105, hf⟩ := bnd_s hf
        refine m_cS0 M (rest := []) (w2 := (cSh 0 s)) (st2 := [.int r105]) (run_J9_max_7cf53 v2 (s.2.1 v3.toNatClampNeg)   h_105) cs_J9_max_7cf53 lk_X1_76 (by decide +kernel) [] (by decide) (Nat.le_of_ble_eq_true rfl) rfl rfl (Nat.le_of_ble_eq_true rfl) ⟨by decide, by decide⟩ rfl rfl ⟨Nat.zero_le _, Nat.zero_le _⟩ rfl rfl ?_
        refine m_run M (is := [(45, .istore_n 2, 0), (46, .iinc 3 1, 1), (49, .goto (-33), 0)]) (pc' := 16) (L' := [some (.ref 0), some (.int r103), some (.int r105), some (.int (v3 + 1))]) (st' := []) (w' := (cSh 0 s)) (by decide +kernel) rfl trivial ?_
        exact ih r103 r105 (v3 + 1) hf
  rw [f_X1_countsApart] at hf
  obtain ⟨h_1001, hf⟩ := grd_s hf
  obtain ⟨h_1002, hf⟩ := grd_s hf
  refine m_run M (is := [(0, .aload_n 0, 0), (1, .getfield 15, 0), (4, .iconst 0, 0), (5, .iaload, 0), (6, .istore_n 1, 0), (7, .aload_n 0, 0), (8, .getfield 15, 0), (11, .iconst 0, 0), (12, .iaload, 0), (13, .istore_n 2, 0), (14, .iconst 1, 1), (15, .istore_n 3, 0)]) (pc' := 16) (L' := [some (.ref 0), some (.int (s.2.1 (0 : Int32).toNatClampNeg)), some (.int (s.2.1 (0 : Int32).toNatClampNeg)), some (.int 1)]) (st' := []) (w' := (cSh 0 s)) (by decide +kernel) rfl ⟨inB_use h_1001, inB_use h_1002, trivial⟩ ?_
  exact loop_0 fuel0 (s.2.1 (0 : Int32).toNatClampNeg) (s.2.1 (0 : Int32).toNatClampNeg) 1 hf

def f_X1_add (s : ShT) : Option (Int32 × ShT) :=
  (f_X1_hasRoom s).bind fun r1001 =>
  if r1001 = 0 then
    some ((-1), s)
  else
    if inB s.2.2.2.2.2.1 16 then
    if inB s.2.2.2.2.2.1 16 then
    if inB s.2.2.2.2.2.1 16 then
    some (s.2.2.2.2.2.1, ((upd s.1 s.2.2.2.2.2.1.toNatClampNeg s.2.2.2.2.2.1), (upd s.2.1 s.2.2.2.2.2.1.toNatClampNeg 0), (upd s.2.2.1 s.2.2.2.2.2.1.toNatClampNeg 1), s.2.2.2.1, s.2.2.2.2.1, (s.2.2.2.2.2.1 + 1), s.2.2.2.2.2.2.1, s.2.2.2.2.2.2.2.1, s.2.2.2.2.2.2.2.2.1, s.2.2.2.2.2.2.2.2.2))
    else none
    else none
    else none
set_option maxRecDepth 100000 in
set_option maxHeartbeats 4000000 in
theorem run_X1_add {l : Launch} {D : va_G} {cT : Nat → ClassId}   (s : ShT) {r : Int32 × ShT} (hf : f_X1_add s = some r) : Runs l D cT yX1_add cX1_add 2 (some .int) 1 20 [.ref 0] (cSh 0 s) (EQ (some (.int r.1)) (cSh 0 r.2)) := by
  refine runs_of O_X1 okO_X1 (by decide +kernel) rfl rfl (Nat.le_of_ble_eq_true rfl) (fun g K => ?_)
  have M := K.b
  show g 0 0 (cSh 0 s) 0 [some (.ref 0), none] []
  rw [f_X1_add] at hf
  refine m_run M (is := [(0, .aload_n 0, 0)]) (pc' := 1) (L' := [some (.ref 0), none]) (st' := [.ref 0]) (w' := (cSh 0 s)) (by decide +kernel) rfl trivial ?_
  obtain ⟨r1001, h_1001, hf⟩ := bnd_s hf
  refine m_cV0 M (rest := []) (w2 := (cSh 0 s)) (st2 := [.int r1001]) (run_X1_hasRoom   s h_1001) cv_X1_hasRoom lk_X1_79 (by decide +kernel) [0, 1, 2, 3, 4, 5] (by decide) (Nat.le_of_ble_eq_true rfl) rfl rfl rfl (Nat.le_of_ble_eq_true rfl) ⟨by decide, by decide⟩ rfl rfl ⟨Nat.zero_le _, Nat.zero_le _⟩ rfl rfl ?_
  rcases ite_s hf with ⟨c_1002, hf⟩ | ⟨c_1002, hf⟩
  · refine m_jF M (i := .ifCond .ne 5) 9 (by decide +kernel) rfl (by decide) (fun n => n c_1002) ?_
    refine m_run M (is := [(7, .iconst (-1), -1)]) (pc' := 8) (L' := [some (.ref 0), none]) (st' := [.int (-1)]) (w' := (cSh 0 s)) (by decide +kernel) rfl trivial ?_
    obtain rfl := Option.some.inj hf
    exact m_iret K (by decide +kernel) (Nat.zero_le _) (Nat.zero_le _) ⟨rfl, rfl⟩
  · refine m_jT M (i := .ifCond .ne 5) 9 (by decide +kernel) rfl (by decide) c_1002 ?_
    obtain ⟨h_1003, hf⟩ := grd_s hf
    obtain ⟨h_1004, hf⟩ := grd_s hf
    obtain ⟨h_1005, hf⟩ := grd_s hf
    refine m_run M (is := [(9, .aload_n 0, 0), (10, .getfield 31, 0), (13, .istore_n 1, 0), (14, .aload_n 0, 0), (15, .dup, 0), (16, .getfield 31, 0), (19, .iconst 1, 1), (20, .iadd, 0), (21, .putfield 31, 0), (24, .aload_n 0, 0), (25, .getfield 9, 0), (28, .iload_n 1, 0), (29, .iload_n 1, 0), (30, .iastore, 0), (31, .aload_n 0, 0), (32, .getfield 15, 0), (35, .iload_n 1, 0), (36, .iconst 0, 0), (37, .iastore, 0), (38, .aload_n 0, 0), (39, .getfield 18, 0), (42, .iload_n 1, 0), (43, .iconst 1, 1), (44, .iastore, 0), (45, .iload_n 1, 0)]) (pc' := 46) (L' := [some (.ref 0), some (.int s.2.2.2.2.2.1)]) (st' := [.int s.2.2.2.2.2.1]) (w' := (cSh 0 ((upd s.1 s.2.2.2.2.2.1.toNatClampNeg s.2.2.2.2.2.1), (upd s.2.1 s.2.2.2.2.2.1.toNatClampNeg 0), (upd s.2.2.1 s.2.2.2.2.2.1.toNatClampNeg 1), s.2.2.2.1, s.2.2.2.2.1, (s.2.2.2.2.2.1 + 1), s.2.2.2.2.2.2.1, s.2.2.2.2.2.2.2.1, s.2.2.2.2.2.2.2.2.1, s.2.2.2.2.2.2.2.2.2))) (by decide +kernel) rfl ⟨inB_use h_1003, inB_use h_1004, inB_use h_1005, trivial⟩ ?_
    obtain rfl := Option.some.inj hf
    exact m_iret K (by decide +kernel) (Nat.zero_le _) (Nat.zero_le _) ⟨rfl, rfl⟩

def f_X1_addLaw (a0 : Int32) (a1 : Int32) (s : ShT) : Option (Int32 × ShT) :=
  (f_X1_hasRoomForLaw s).bind fun r1001 =>
  if r1001 = 0 then
    some ((-1), s)
  else
    if inB s.2.2.2.2.2.2.1 6 then
    if inB s.2.2.2.2.2.2.1 6 then
    some (s.2.2.2.2.2.2.1, (s.1, s.2.1, s.2.2.1, (upd s.2.2.2.1 s.2.2.2.2.2.2.1.toNatClampNeg a0), (upd s.2.2.2.2.1 s.2.2.2.2.2.2.1.toNatClampNeg a1), s.2.2.2.2.2.1, (s.2.2.2.2.2.2.1 + 1), s.2.2.2.2.2.2.2.1, s.2.2.2.2.2.2.2.2.1, s.2.2.2.2.2.2.2.2.2))
    else none
    else none
set_option maxRecDepth 100000 in
set_option maxHeartbeats 4000000 in
theorem run_X1_addLaw {l : Launch} {D : va_G} {cT : Nat → ClassId} (a0 : Int32) (a1 : Int32)  (s : ShT) {r : Int32 × ShT} (hf : f_X1_addLaw a0 a1 s = some r) : Runs l D cT yX1_addLaw cX1_addLaw 4 (some .int) 1 20 [.ref 0, .int a0, .int a1] (cSh 0 s) (EQ (some (.int r.1)) (cSh 0 r.2)) := by
  refine runs_of O_X1 okO_X1 (by decide +kernel) rfl rfl (Nat.le_of_ble_eq_true rfl) (fun g K => ?_)
  have M := K.b
  show g 0 0 (cSh 0 s) 0 [some (.ref 0), some (.int a0), some (.int a1), none] []
  rw [f_X1_addLaw] at hf
  refine m_run M (is := [(0, .aload_n 0, 0)]) (pc' := 1) (L' := [some (.ref 0), some (.int a0), some (.int a1), none]) (st' := [.ref 0]) (w' := (cSh 0 s)) (by decide +kernel) rfl trivial ?_
  obtain ⟨r1001, h_1001, hf⟩ := bnd_s hf
  refine m_cV0 M (rest := []) (w2 := (cSh 0 s)) (st2 := [.int r1001]) (run_X1_hasRoomForLaw   s h_1001) cv_X1_hasRoomForLaw lk_X1_86 (by decide +kernel) [0, 1, 2, 3, 4, 5] (by decide) (Nat.le_of_ble_eq_true rfl) rfl rfl rfl (Nat.le_of_ble_eq_true rfl) ⟨by decide, by decide⟩ rfl rfl ⟨Nat.zero_le _, Nat.zero_le _⟩ rfl rfl ?_
  rcases ite_s hf with ⟨c_1002, hf⟩ | ⟨c_1002, hf⟩
  · refine m_jF M (i := .ifCond .ne 5) 9 (by decide +kernel) rfl (by decide) (fun n => n c_1002) ?_
    refine m_run M (is := [(7, .iconst (-1), -1)]) (pc' := 8) (L' := [some (.ref 0), some (.int a0), some (.int a1), none]) (st' := [.int (-1)]) (w' := (cSh 0 s)) (by decide +kernel) rfl trivial ?_
    obtain rfl := Option.some.inj hf
    exact m_iret K (by decide +kernel) (Nat.zero_le _) (Nat.zero_le _) ⟨rfl, rfl⟩
  · refine m_jT M (i := .ifCond .ne 5) 9 (by decide +kernel) rfl (by decide) c_1002 ?_
    obtain ⟨h_1003, hf⟩ := grd_s hf
    obtain ⟨h_1004, hf⟩ := grd_s hf
    refine m_run M (is := [(9, .aload_n 0, 0), (10, .getfield 34, 0), (13, .istore_n 3, 0), (14, .aload_n 0, 0), (15, .dup, 0), (16, .getfield 34, 0), (19, .iconst 1, 1), (20, .iadd, 0), (21, .putfield 34, 0), (24, .aload_n 0, 0), (25, .getfield 21, 0), (28, .iload_n 3, 0), (29, .iload_n 1, 0), (30, .iastore, 0), (31, .aload_n 0, 0), (32, .getfield 24, 0), (35, .iload_n 3, 0), (36, .iload_n 2, 0), (37, .iastore, 0), (38, .iload_n 3, 0)]) (pc' := 39) (L' := [some (.ref 0), some (.int a0), some (.int a1), some (.int s.2.2.2.2.2.2.1)]) (st' := [.int s.2.2.2.2.2.2.1]) (w' := (cSh 0 (s.1, s.2.1, s.2.2.1, (upd s.2.2.2.1 s.2.2.2.2.2.2.1.toNatClampNeg a0), (upd s.2.2.2.2.1 s.2.2.2.2.2.2.1.toNatClampNeg a1), s.2.2.2.2.2.1, (s.2.2.2.2.2.2.1 + 1), s.2.2.2.2.2.2.2.1, s.2.2.2.2.2.2.2.2.1, s.2.2.2.2.2.2.2.2.2))) (by decide +kernel) rfl ⟨inB_use h_1003, inB_use h_1004, trivial⟩ ?_
    obtain rfl := Option.some.inj hf
    exact m_iret K (by decide +kernel) (Nat.zero_le _) (Nat.zero_le _) ⟨rfl, rfl⟩

def f_X1_letBefore (a0 : Int32) (s : ShT) : Option (Int32 × ShT) :=
  (f_X1_hasPlace a0 s).bind fun r1001 =>
  if r1001 = 0 then
    some ((-1), s)
  else
    (f_X1_hasPlace (a0 + 1) s).bind fun r1003 =>
    if r1003 = 0 then
      some ((-1), s)
    else
      if inB (a0 + 1) 16 then
      if inB a0 16 then
      if inB (a0 + 1) 16 then
      if inB a0 16 then
      some ((s.1 (a0 + 1).toNatClampNeg), ((upd (upd s.1 (a0 + 1).toNatClampNeg (s.1 a0.toNatClampNeg)) a0.toNatClampNeg (s.1 (a0 + 1).toNatClampNeg)), s.2.1, s.2.2.1, s.2.2.2.1, s.2.2.2.2.1, s.2.2.2.2.2.1, s.2.2.2.2.2.2.1, s.2.2.2.2.2.2.2.1, s.2.2.2.2.2.2.2.2.1, s.2.2.2.2.2.2.2.2.2))
      else none
      else none
      else none
      else none
set_option maxRecDepth 100000 in
set_option maxHeartbeats 4000000 in
theorem run_X1_letBefore {l : Launch} {D : va_G} {cT : Nat → ClassId} (a0 : Int32)  (s : ShT) {r : Int32 × ShT} (hf : f_X1_letBefore a0 s = some r) : Runs l D cT yX1_letBefore cX1_letBefore 3 (some .int) 1 21 [.ref 0, .int a0] (cSh 0 s) (EQ (some (.int r.1)) (cSh 0 r.2)) := by
  refine runs_of O_X1 okO_X1 (by decide +kernel) rfl rfl (Nat.le_of_ble_eq_true rfl) (fun g K => ?_)
  have M := K.b
  show g 0 0 (cSh 0 s) 0 [some (.ref 0), some (.int a0), none] []
  rw [f_X1_letBefore] at hf
  refine m_run M (is := [(0, .aload_n 0, 0), (1, .iload_n 1, 0)]) (pc' := 2) (L' := [some (.ref 0), some (.int a0), none]) (st' := [.int a0, .ref 0]) (w' := (cSh 0 s)) (by decide +kernel) rfl trivial ?_
  obtain ⟨r1001, h_1001, hf⟩ := bnd_s hf
  refine m_cV0 M (rest := []) (w2 := (cSh 0 s)) (st2 := [.int r1001]) (run_X1_hasPlace a0  s h_1001) cv_X1_hasPlace lk_X1_56 (by decide +kernel) [0, 1, 2, 3, 4, 5] (by decide) (Nat.le_of_ble_eq_true rfl) rfl rfl rfl (Nat.le_of_ble_eq_true rfl) ⟨by decide, by decide⟩ rfl rfl ⟨Nat.zero_le _, Nat.zero_le _⟩ rfl rfl ?_
  rcases ite_s hf with ⟨c_1002, hf⟩ | ⟨c_1002, hf⟩
  · refine m_jT M (i := .ifCond .eq 13) 18 (by decide +kernel) rfl (by decide) c_1002 ?_
    refine m_run M (is := [(18, .iconst (-1), -1)]) (pc' := 19) (L' := [some (.ref 0), some (.int a0), none]) (st' := [.int (-1)]) (w' := (cSh 0 s)) (by decide +kernel) rfl trivial ?_
    obtain rfl := Option.some.inj hf
    exact m_iret K (by decide +kernel) (Nat.zero_le _) (Nat.zero_le _) ⟨rfl, rfl⟩
  · refine m_jF M (i := .ifCond .eq 13) 18 (by decide +kernel) rfl (by decide) c_1002 ?_
    refine m_run M (is := [(8, .aload_n 0, 0), (9, .iload_n 1, 0), (10, .iconst 1, 1), (11, .iadd, 0)]) (pc' := 12) (L' := [some (.ref 0), some (.int a0), none]) (st' := [.int (a0 + 1), .ref 0]) (w' := (cSh 0 s)) (by decide +kernel) rfl trivial ?_
    obtain ⟨r1003, h_1003, hf⟩ := bnd_s hf
    refine m_cV0 M (rest := []) (w2 := (cSh 0 s)) (st2 := [.int r1003]) (run_X1_hasPlace (a0 + 1)  s h_1003) cv_X1_hasPlace lk_X1_56 (by decide +kernel) [0, 1, 2, 3, 4, 5] (by decide) (Nat.le_of_ble_eq_true rfl) rfl rfl rfl (Nat.le_of_ble_eq_true rfl) ⟨by decide, by decide⟩ rfl rfl ⟨Nat.zero_le _, Nat.zero_le _⟩ rfl rfl ?_
    rcases ite_s hf with ⟨c_1004, hf⟩ | ⟨c_1004, hf⟩
    · refine m_jF M (i := .ifCond .ne 5) 20 (by decide +kernel) rfl (by decide) (fun n => n c_1004) ?_
      refine m_run M (is := [(18, .iconst (-1), -1)]) (pc' := 19) (L' := [some (.ref 0), some (.int a0), none]) (st' := [.int (-1)]) (w' := (cSh 0 s)) (by decide +kernel) rfl trivial ?_
      obtain rfl := Option.some.inj hf
      exact m_iret K (by decide +kernel) (Nat.zero_le _) (Nat.zero_le _) ⟨rfl, rfl⟩
    · refine m_jT M (i := .ifCond .ne 5) 20 (by decide +kernel) rfl (by decide) c_1004 ?_
      obtain ⟨h_1005, hf⟩ := grd_s hf
      obtain ⟨h_1006, hf⟩ := grd_s hf
      obtain ⟨h_1007, hf⟩ := grd_s hf
      obtain ⟨h_1008, hf⟩ := grd_s hf
      refine m_run M (is := [(20, .aload_n 0, 0), (21, .getfield 9, 0), (24, .iload_n 1, 0), (25, .iconst 1, 1), (26, .iadd, 0), (27, .iaload, 0), (28, .istore_n 2, 0), (29, .aload_n 0, 0), (30, .getfield 9, 0), (33, .iload_n 1, 0), (34, .iconst 1, 1), (35, .iadd, 0), (36, .aload_n 0, 0), (37, .getfield 9, 0), (40, .iload_n 1, 0), (41, .iaload, 0), (42, .iastore, 0), (43, .aload_n 0, 0), (44, .getfield 9, 0), (47, .iload_n 1, 0), (48, .iload_n 2, 0), (49, .iastore, 0), (50, .iload_n 2, 0)]) (pc' := 51) (L' := [some (.ref 0), some (.int a0), some (.int (s.1 (a0 + 1).toNatClampNeg))]) (st' := [.int (s.1 (a0 + 1).toNatClampNeg)]) (w' := (cSh 0 ((upd (upd s.1 (a0 + 1).toNatClampNeg (s.1 a0.toNatClampNeg)) a0.toNatClampNeg (s.1 (a0 + 1).toNatClampNeg)), s.2.1, s.2.2.1, s.2.2.2.1, s.2.2.2.2.1, s.2.2.2.2.2.1, s.2.2.2.2.2.2.1, s.2.2.2.2.2.2.2.1, s.2.2.2.2.2.2.2.2.1, s.2.2.2.2.2.2.2.2.2))) (by decide +kernel) rfl ⟨inB_use h_1005, inB_use h_1006, inB_use h_1007, inB_use h_1008, trivial⟩ ?_
      obtain rfl := Option.some.inj hf
      exact m_iret K (by decide +kernel) (Nat.zero_le _) (Nat.zero_le _) ⟨rfl, rfl⟩

def f_X1_move (a0 : Int32) (a1 : Int32) (s : ShT) : Option (ShT) :=
  (f_X1_placeOf a0 s).bind fun r1001 =>
  if r1001 = (-1) then
    some s
  else
    (f_X1_hasPlace a1 s).bind fun r1003 =>
    if r1003 = 0 then
      some s
    else
      if a1 ≤ r1001 then
        if cpB a1 (a1 + 1) (r1001 - a1) 16 16 then
        if inB a1 16 then
        some ((upd (va_cpy s.1 s.1 a1.toNatClampNeg (a1 + 1).toNatClampNeg (r1001 - a1).toNatClampNeg) a1.toNatClampNeg a0), s.2.1, s.2.2.1, s.2.2.2.1, s.2.2.2.2.1, s.2.2.2.2.2.1, s.2.2.2.2.2.2.1, s.2.2.2.2.2.2.2.1, s.2.2.2.2.2.2.2.2.1, s.2.2.2.2.2.2.2.2.2)
        else none
        else none
      else
        if cpB (r1001 + 1) r1001 (a1 - r1001) 16 16 then
        if inB a1 16 then
        some ((upd (va_cpy s.1 s.1 (r1001 + 1).toNatClampNeg r1001.toNatClampNeg (a1 - r1001).toNatClampNeg) a1.toNatClampNeg a0), s.2.1, s.2.2.1, s.2.2.2.1, s.2.2.2.2.1, s.2.2.2.2.2.1, s.2.2.2.2.2.2.1, s.2.2.2.2.2.2.2.1, s.2.2.2.2.2.2.2.2.1, s.2.2.2.2.2.2.2.2.2)
        else none
        else none
set_option maxRecDepth 100000 in
set_option maxHeartbeats 4000000 in
theorem run_X1_move {l : Launch} {D : va_G} {cT : Nat → ClassId} (a0 : Int32) (a1 : Int32)  (s : ShT) {r : ShT} (hf : f_X1_move a0 a1 s = some r) : Runs l D cT yX1_move cX1_move 4 none 1 22 [.ref 0, .int a0, .int a1] (cSh 0 s) (EQ none (cSh 0 r)) := by
  refine runs_of O_X1 okO_X1 (by decide +kernel) rfl rfl (Nat.le_of_ble_eq_true rfl) (fun g K => ?_)
  have M := K.b
  show g 0 0 (cSh 0 s) 0 [some (.ref 0), some (.int a0), some (.int a1), none] []
  rw [f_X1_move] at hf
  refine m_run M (is := [(0, .aload_n 0, 0), (1, .iload_n 1, 0)]) (pc' := 2) (L' := [some (.ref 0), some (.int a0), some (.int a1), none]) (st' := [.int a0, .ref 0]) (w' := (cSh 0 s)) (by decide +kernel) rfl trivial ?_
  obtain ⟨r1001, h_1001, hf⟩ := bnd_s hf
  refine m_cV0 M (rest := []) (w2 := (cSh 0 s)) (st2 := [.int r1001]) (run_X1_placeOf a0  s h_1001) cv_X1_placeOf lk_X1_63 (by decide +kernel) [0, 1, 2, 3, 4, 5] (by decide) (Nat.le_of_ble_eq_true rfl) rfl rfl rfl (Nat.le_of_ble_eq_true rfl) ⟨by decide, by decide⟩ rfl rfl ⟨Nat.zero_le _, Nat.zero_le _⟩ rfl rfl ?_
  refine m_run M (is := [(5, .istore_n 3, 0), (6, .iload_n 3, 0), (7, .iconst (-1), -1)]) (pc' := 8) (L' := [some (.ref 0), some (.int a0), some (.int a1), some (.int r1001)]) (st' := [.int (-1), .int r1001]) (w' := (cSh 0 s)) (by decide +kernel) rfl trivial ?_
  rcases ite_s hf with ⟨c_1002, hf⟩ | ⟨c_1002, hf⟩
  · refine m_jT M (i := .if_icmp .eq 11) 19 (by decide +kernel) rfl (by decide) c_1002 ?_
    obtain rfl := Option.some.inj hf
    exact m_vret K (by decide +kernel) (Nat.zero_le _) (Nat.zero_le _) ⟨rfl, rfl⟩
  · refine m_jF M (i := .if_icmp .eq 11) 19 (by decide +kernel) rfl (by decide) c_1002 ?_
    refine m_run M (is := [(11, .aload_n 0, 0), (12, .iload_n 2, 0)]) (pc' := 13) (L' := [some (.ref 0), some (.int a0), some (.int a1), some (.int r1001)]) (st' := [.int a1, .ref 0]) (w' := (cSh 0 s)) (by decide +kernel) rfl trivial ?_
    obtain ⟨r1003, h_1003, hf⟩ := bnd_s hf
    refine m_cV0 M (rest := []) (w2 := (cSh 0 s)) (st2 := [.int r1003]) (run_X1_hasPlace a1  s h_1003) cv_X1_hasPlace lk_X1_56 (by decide +kernel) [0, 1, 2, 3, 4, 5] (by decide) (Nat.le_of_ble_eq_true rfl) rfl rfl rfl (Nat.le_of_ble_eq_true rfl) ⟨by decide, by decide⟩ rfl rfl ⟨Nat.zero_le _, Nat.zero_le _⟩ rfl rfl ?_
    rcases ite_s hf with ⟨c_1004, hf⟩ | ⟨c_1004, hf⟩
    · refine m_jF M (i := .ifCond .ne 4) 20 (by decide +kernel) rfl (by decide) (fun n => n c_1004) ?_
      obtain rfl := Option.some.inj hf
      exact m_vret K (by decide +kernel) (Nat.zero_le _) (Nat.zero_le _) ⟨rfl, rfl⟩
    · refine m_jT M (i := .ifCond .ne 4) 20 (by decide +kernel) rfl (by decide) c_1004 ?_
      refine m_run M (is := [(20, .iload_n 3, 0), (21, .iload_n 2, 0)]) (pc' := 22) (L' := [some (.ref 0), some (.int a0), some (.int a1), some (.int r1001)]) (st' := [.int a1, .int r1001]) (w' := (cSh 0 s)) (by decide +kernel) rfl trivial ?_
      rcases ite_s hf with ⟨c_1005, hf⟩ | ⟨c_1005, hf⟩
      · refine m_jT M (i := .if_icmp .ge 24) 46 (by decide +kernel) rfl (by decide) c_1005 ?_
        refine m_run M (is := [(46, .aload_n 0, 0), (47, .getfield 9, 0), (50, .iload_n 2, 0), (51, .aload_n 0, 0), (52, .getfield 9, 0), (55, .iload_n 2, 0), (56, .iconst 1, 1), (57, .iadd, 0), (58, .iload_n 3, 0), (59, .iload_n 2, 0), (60, .isub, 0)]) (pc' := 61) (L' := [some (.ref 0), some (.int a0), some (.int a1), some (.int r1001)]) (st' := [.int (r1001 - a1), .int (a1 + 1), .ref 1, .int a1, .ref 1]) (w' := (cSh 0 s)) (by decide +kernel) rfl trivial ?_
        obtain ⟨h_1006, hf⟩ := grd_s hf
        refine m_cpI M (w2 := (cSh 0 ((va_cpy s.1 s.1 a1.toNatClampNeg (a1 + 1).toNatClampNeg (r1001 - a1).toNatClampNeg), s.2.1, s.2.2.1, s.2.2.2.1, s.2.2.2.2.1, s.2.2.2.2.2.1, s.2.2.2.2.2.2.1, s.2.2.2.2.2.2.2.1, s.2.2.2.2.2.2.2.2.1, s.2.2.2.2.2.2.2.2.2))) cp_X1_43 rfl rfl h_1006 (by decide) (Nat.le_of_ble_eq_true rfl) (by decide +kernel) rfl ?_
        obtain ⟨h_1007, hf⟩ := grd_s hf
        refine m_run M (is := [(64, .aload_n 0, 0), (65, .getfield 9, 0), (68, .iload_n 2, 0), (69, .iload_n 1, 0), (70, .iastore, 0)]) (pc' := 71) (L' := [some (.ref 0), some (.int a0), some (.int a1), some (.int r1001)]) (st' := []) (w' := (cSh 0 ((upd (va_cpy s.1 s.1 a1.toNatClampNeg (a1 + 1).toNatClampNeg (r1001 - a1).toNatClampNeg) a1.toNatClampNeg a0), s.2.1, s.2.2.1, s.2.2.2.1, s.2.2.2.2.1, s.2.2.2.2.2.1, s.2.2.2.2.2.2.1, s.2.2.2.2.2.2.2.1, s.2.2.2.2.2.2.2.2.1, s.2.2.2.2.2.2.2.2.2))) (by decide +kernel) rfl ⟨inB_use h_1007, trivial⟩ ?_
        obtain rfl := Option.some.inj hf
        exact m_vret K (by decide +kernel) (Nat.zero_le _) (Nat.zero_le _) ⟨rfl, rfl⟩
      · refine m_jF M (i := .if_icmp .ge 24) 46 (by decide +kernel) rfl (by decide) c_1005 ?_
        refine m_run M (is := [(25, .aload_n 0, 0), (26, .getfield 9, 0), (29, .iload_n 3, 0), (30, .iconst 1, 1), (31, .iadd, 0), (32, .aload_n 0, 0), (33, .getfield 9, 0), (36, .iload_n 3, 0), (37, .iload_n 2, 0), (38, .iload_n 3, 0), (39, .isub, 0)]) (pc' := 40) (L' := [some (.ref 0), some (.int a0), some (.int a1), some (.int r1001)]) (st' := [.int (a1 - r1001), .int r1001, .ref 1, .int (r1001 + 1), .ref 1]) (w' := (cSh 0 s)) (by decide +kernel) rfl trivial ?_
        obtain ⟨h_1008, hf⟩ := grd_s hf
        refine m_cpI M (w2 := (cSh 0 ((va_cpy s.1 s.1 (r1001 + 1).toNatClampNeg r1001.toNatClampNeg (a1 - r1001).toNatClampNeg), s.2.1, s.2.2.1, s.2.2.2.1, s.2.2.2.2.1, s.2.2.2.2.2.1, s.2.2.2.2.2.2.1, s.2.2.2.2.2.2.2.1, s.2.2.2.2.2.2.2.2.1, s.2.2.2.2.2.2.2.2.2))) cp_X1_43 rfl rfl h_1008 (by decide) (Nat.le_of_ble_eq_true rfl) (by decide +kernel) rfl ?_
        obtain ⟨h_1009, hf⟩ := grd_s hf
        refine m_run M (is := [(43, .goto 21, 0), (64, .aload_n 0, 0), (65, .getfield 9, 0), (68, .iload_n 2, 0), (69, .iload_n 1, 0), (70, .iastore, 0)]) (pc' := 71) (L' := [some (.ref 0), some (.int a0), some (.int a1), some (.int r1001)]) (st' := []) (w' := (cSh 0 ((upd (va_cpy s.1 s.1 (r1001 + 1).toNatClampNeg r1001.toNatClampNeg (a1 - r1001).toNatClampNeg) a1.toNatClampNeg a0), s.2.1, s.2.2.1, s.2.2.2.1, s.2.2.2.2.1, s.2.2.2.2.2.1, s.2.2.2.2.2.2.1, s.2.2.2.2.2.2.2.1, s.2.2.2.2.2.2.2.2.1, s.2.2.2.2.2.2.2.2.2))) (by decide +kernel) rfl ⟨inB_use h_1009, trivial⟩ ?_
        obtain rfl := Option.some.inj hf
        exact m_vret K (by decide +kernel) (Nat.zero_le _) (Nat.zero_le _) ⟨rfl, rfl⟩

def f_X1_removeLast (s : ShT) : Option (ShT) :=
  (f_X1_isEmpty s).bind fun r1001 =>
  if r1001 = 0 then
    (f_X1_move (s.2.2.2.2.2.1 - 1) (s.2.2.2.2.2.1 - 1) s).bind fun r1003 =>
    some (r1003.1, r1003.2.1, r1003.2.2.1, r1003.2.2.2.1, r1003.2.2.2.2.1, (r1003.2.2.2.2.2.1 - 1), r1003.2.2.2.2.2.2.1, r1003.2.2.2.2.2.2.2.1, r1003.2.2.2.2.2.2.2.2.1, r1003.2.2.2.2.2.2.2.2.2)
  else
    some s
set_option maxRecDepth 100000 in
set_option maxHeartbeats 4000000 in
theorem run_X1_removeLast {l : Launch} {D : va_G} {cT : Nat → ClassId}   (s : ShT) {r : ShT} (hf : f_X1_removeLast s = some r) : Runs l D cT yX1_removeLast cX1_removeLast 1 none 2 45 [.ref 0] (cSh 0 s) (EQ none (cSh 0 r)) := by
  refine runs_of O_X1 okO_X1 (by decide +kernel) rfl rfl (Nat.le_of_ble_eq_true rfl) (fun g K => ?_)
  have M := K.b
  show g 0 0 (cSh 0 s) 0 [some (.ref 0)] []
  rw [f_X1_removeLast] at hf
  refine m_run M (is := [(0, .aload_n 0, 0)]) (pc' := 1) (L' := [some (.ref 0)]) (st' := [.ref 0]) (w' := (cSh 0 s)) (by decide +kernel) rfl trivial ?_
  obtain ⟨r1001, h_1001, hf⟩ := bnd_s hf
  refine m_cV0 M (rest := []) (w2 := (cSh 0 s)) (st2 := [.int r1001]) (run_X1_isEmpty   s h_1001) cv_X1_isEmpty lk_X1_49 (by decide +kernel) [0, 1, 2, 3, 4, 5] (by decide) (Nat.le_of_ble_eq_true rfl) rfl rfl rfl (Nat.le_of_ble_eq_true rfl) ⟨by decide, by decide⟩ rfl rfl ⟨Nat.zero_le _, Nat.zero_le _⟩ rfl rfl ?_
  rcases ite_s hf with ⟨c_1002, hf⟩ | ⟨c_1002, hf⟩
  · refine m_jF M (i := .ifCond .ne 29) 33 (by decide +kernel) rfl (by decide) (fun n => n c_1002) ?_
    refine m_run M (is := [(7, .aload_n 0, 0), (8, .aload_n 0, 0), (9, .getfield 31, 0), (12, .iconst 1, 1), (13, .isub, 0), (14, .aload_n 0, 0), (15, .getfield 31, 0), (18, .iconst 1, 1), (19, .isub, 0)]) (pc' := 20) (L' := [some (.ref 0)]) (st' := [.int (s.2.2.2.2.2.1 - 1), .int (s.2.2.2.2.2.1 - 1), .ref 0]) (w' := (cSh 0 s)) (by decide +kernel) rfl trivial ?_
    obtain ⟨r1003, h_1003, hf⟩ := bnd_s hf
    refine m_cV0 M (rest := []) (w2 := (cSh 0 r1003)) (st2 := []) (run_X1_move (s.2.2.2.2.2.1 - 1) (s.2.2.2.2.2.1 - 1)  s h_1003) cv_X1_move lk_X1_82 (by decide +kernel) [0, 1, 2, 3, 4, 5] (by decide) (Nat.le_of_ble_eq_true rfl) rfl rfl rfl (Nat.le_of_ble_eq_true rfl) ⟨by decide, by decide⟩ rfl rfl ⟨Nat.zero_le _, Nat.zero_le _⟩ rfl rfl ?_
    refine m_run M (is := [(23, .aload_n 0, 0), (24, .dup, 0), (25, .getfield 31, 0), (28, .iconst 1, 1), (29, .isub, 0), (30, .putfield 31, 0)]) (pc' := 33) (L' := [some (.ref 0)]) (st' := []) (w' := (cSh 0 (r1003.1, r1003.2.1, r1003.2.2.1, r1003.2.2.2.1, r1003.2.2.2.2.1, (r1003.2.2.2.2.2.1 - 1), r1003.2.2.2.2.2.2.1, r1003.2.2.2.2.2.2.2.1, r1003.2.2.2.2.2.2.2.2.1, r1003.2.2.2.2.2.2.2.2.2))) (by decide +kernel) rfl trivial ?_
    obtain rfl := Option.some.inj hf
    exact m_vret K (by decide +kernel) (Nat.zero_le _) (Nat.zero_le _) ⟨rfl, rfl⟩
  · refine m_jT M (i := .ifCond .ne 29) 33 (by decide +kernel) rfl (by decide) c_1002 ?_
    obtain rfl := Option.some.inj hf
    exact m_vret K (by decide +kernel) (Nat.zero_le _) (Nat.zero_le _) ⟨rfl, rfl⟩

def f_X1_startAnew (s : ShT) : Option (ShT) :=
  (f_J7_fill_53178 0 16 s.2.1).bind fun r1001 =>
  (f_J7_fill_53178 1 16 s.2.2.1).bind fun r1002 =>
  some (s.1, r1001, r1002, s.2.2.2.1, s.2.2.2.2.1, s.2.2.2.2.2.1, s.2.2.2.2.2.2.1, s.2.2.2.2.2.2.2.1, 0, s.2.2.2.2.2.2.2.2.2)
set_option maxRecDepth 100000 in
set_option maxHeartbeats 4000000 in
theorem run_X1_startAnew {l : Launch} {D : va_G} {cT : Nat → ClassId}   (s : ShT) {r : ShT} (hf : f_X1_startAnew s = some r) : Runs l D cT yX1_startAnew cX1_startAnew 1 none 1 23 [.ref 0] (cSh 0 s) (EQ none (cSh 0 r)) := by
  refine runs_of O_X1 okO_X1 (by decide +kernel) rfl rfl (Nat.le_of_ble_eq_true rfl) (fun g K => ?_)
  have M := K.b
  show g 0 0 (cSh 0 s) 0 [some (.ref 0)] []
  rw [f_X1_startAnew] at hf
  refine m_run M (is := [(0, .aload_n 0, 0), (1, .getfield 15, 0), (4, .iconst 0, 0)]) (pc' := 5) (L' := [some (.ref 0)]) (st' := [.int 0, .ref 2]) (w' := (cSh 0 s)) (by decide +kernel) rfl trivial ?_
  obtain ⟨r1001, h_1001, hf⟩ := bnd_s hf
  refine m_cS0 M (rest := []) (w2 := (cSh 0 (s.1, r1001, s.2.2.1, s.2.2.2.1, s.2.2.2.2.1, s.2.2.2.2.2.1, s.2.2.2.2.2.2.1, s.2.2.2.2.2.2.2.1, s.2.2.2.2.2.2.2.2.1, s.2.2.2.2.2.2.2.2.2))) (st2 := []) (run_J7_fill_53178 0 16 s.2.1 h_1001) cs_J7_fill_53178 lk_X1_89 (by decide +kernel) [2] (by decide) (Nat.le_of_ble_eq_true rfl) rfl rfl (Nat.le_of_ble_eq_true rfl) ⟨by decide, by decide⟩ rfl rfl ⟨Nat.zero_le _, Nat.zero_le _⟩ rfl rfl ?_
  refine m_run M (is := [(8, .aload_n 0, 0), (9, .getfield 18, 0), (12, .iconst 1, 1)]) (pc' := 13) (L' := [some (.ref 0)]) (st' := [.int 1, .ref 3]) (w' := (cSh 0 (s.1, r1001, s.2.2.1, s.2.2.2.1, s.2.2.2.2.1, s.2.2.2.2.2.1, s.2.2.2.2.2.2.1, s.2.2.2.2.2.2.2.1, s.2.2.2.2.2.2.2.2.1, s.2.2.2.2.2.2.2.2.2))) (by decide +kernel) rfl trivial ?_
  obtain ⟨r1002, h_1002, hf⟩ := bnd_s hf
  refine m_cS0 M (rest := []) (w2 := (cSh 0 (s.1, r1001, r1002, s.2.2.2.1, s.2.2.2.2.1, s.2.2.2.2.2.1, s.2.2.2.2.2.2.1, s.2.2.2.2.2.2.2.1, s.2.2.2.2.2.2.2.2.1, s.2.2.2.2.2.2.2.2.2))) (st2 := []) (run_J7_fill_53178 1 16 s.2.2.1 h_1002) cs_J7_fill_53178 lk_X1_89 (by decide +kernel) [3] (by decide) (Nat.le_of_ble_eq_true rfl) rfl rfl (Nat.le_of_ble_eq_true rfl) ⟨by decide, by decide⟩ rfl rfl ⟨Nat.zero_le _, Nat.zero_le _⟩ rfl rfl ?_
  refine m_run M (is := [(16, .aload_n 0, 0), (17, .iconst 0, 0), (18, .putfield 40, 0)]) (pc' := 21) (L' := [some (.ref 0)]) (st' := []) (w' := (cSh 0 (s.1, r1001, r1002, s.2.2.2.1, s.2.2.2.2.1, s.2.2.2.2.2.1, s.2.2.2.2.2.2.1, s.2.2.2.2.2.2.2.1, 0, s.2.2.2.2.2.2.2.2.2))) (by decide +kernel) rfl trivial ?_
  obtain rfl := Option.some.inj hf
  exact m_vret K (by decide +kernel) (Nat.zero_le _) (Nat.zero_le _) ⟨rfl, rfl⟩

def f_X1_stepsWanted (a0 : Int32) (a1 : Int32) (s : ShT) : Option (Int32) :=
  if inB a0 16 then
  if inB a1 6 then
  if (s.2.2.2.1 a1.toNatClampNeg) = 1 then
    if inB a0 16 then
    some (s.2.2.1 a0.toNatClampNeg)
    else none
  else
    if (s.2.2.2.1 a1.toNatClampNeg) = 2 then
      some ((s.2.1 a0.toNatClampNeg) + 1)
    else
      if (s.2.2.2.1 a1.toNatClampNeg) = 3 then
        if inB a0 16 then
        some (s.2.2.1 a0.toNatClampNeg)
        else none
      else
        if (s.2.2.2.1 a1.toNatClampNeg) = 4 then
          if inB a1 6 then
          some (((s.2.1 a0.toNatClampNeg) + 1) + (s.2.2.2.2.1 a1.toNatClampNeg))
          else none
        else
          if (s.2.2.2.1 a1.toNatClampNeg) = 5 then
            some (s.2.2.2.2.2.1 - 1)
          else
            if inB a1 6 then
            some (s.2.2.2.2.1 a1.toNatClampNeg)
            else none
  else none
  else none
set_option maxRecDepth 100000 in
set_option maxHeartbeats 4000000 in
theorem run_X1_stepsWanted {l : Launch} {D : va_G} {cT : Nat → ClassId} (a0 : Int32) (a1 : Int32)  (s : ShT) {r : Int32} (hf : f_X1_stepsWanted a0 a1 s = some r) : Runs l D cT yX1_stepsWanted cX1_stepsWanted 4 (some .int) 0 0 [.ref 0, .int a0, .int a1] (cSh 0 s) (EQ (some (.int r)) (cSh 0 s)) := by
  refine runs_of O_X1 okO_X1 (by decide +kernel) rfl rfl (Nat.le_of_ble_eq_true rfl) (fun g K => ?_)
  have M := K.b
  show g 0 0 (cSh 0 s) 0 [some (.ref 0), some (.int a0), some (.int a1), none] []
  rw [f_X1_stepsWanted] at hf
  obtain ⟨h_1001, hf⟩ := grd_s hf
  obtain ⟨h_1002, hf⟩ := grd_s hf
  refine m_run M (is := [(0, .aload_n 0, 0), (1, .getfield 15, 0), (4, .iload_n 1, 0), (5, .iaload, 0), (6, .iconst 1, 1), (7, .iadd, 0), (8, .istore_n 3, 0), (9, .aload_n 0, 0), (10, .getfield 21, 0), (13, .iload_n 2, 0), (14, .iaload, 0)]) (pc' := 15) (L' := [some (.ref 0), some (.int a0), some (.int a1), some (.int ((s.2.1 a0.toNatClampNeg) + 1))]) (st' := [.int (s.2.2.2.1 a1.toNatClampNeg)]) (w' := (cSh 0 s)) (by decide +kernel) rfl ⟨inB_use h_1001, inB_use h_1002, trivial⟩ ?_
  rcases ite_s hf with ⟨c_1003, hf⟩ | ⟨c_1003, hf⟩
  · refine m_tsI M (dflt := 58) (t0 := 1) (t1 := 5) (offs := #[33, 40, 33, 42, 51]) (len := 33) (tgt := 48) 0 (by decide +kernel) (by rw [c_1003]; rfl) (by decide) rfl (by decide) ?_
    obtain ⟨h_1004, hf⟩ := grd_s hf
    refine m_run M (is := [(48, .aload_n 0, 0), (49, .getfield 18, 0), (52, .iload_n 1, 0), (53, .iaload, 0)]) (pc' := 54) (L' := [some (.ref 0), some (.int a0), some (.int a1), some (.int ((s.2.1 a0.toNatClampNeg) + 1))]) (st' := [.int (s.2.2.1 a0.toNatClampNeg)]) (w' := (cSh 0 s)) (by decide +kernel) rfl ⟨inB_use h_1004, trivial⟩ ?_
    obtain rfl := Option.some.inj hf
    exact m_iret K (by decide +kernel) (Nat.zero_le _) (Nat.zero_le _) ⟨rfl, rfl⟩
  · rcases ite_s hf with ⟨c_1005, hf⟩ | ⟨c_1005, hf⟩
    · refine m_tsI M (dflt := 58) (t0 := 1) (t1 := 5) (offs := #[33, 40, 33, 42, 51]) (len := 33) (tgt := 55) 1 (by decide +kernel) (by rw [c_1005]; rfl) (by decide) rfl (by decide) ?_
      refine m_run M (is := [(55, .iload_n 3, 0)]) (pc' := 56) (L' := [some (.ref 0), some (.int a0), some (.int a1), some (.int ((s.2.1 a0.toNatClampNeg) + 1))]) (st' := [.int ((s.2.1 a0.toNatClampNeg) + 1)]) (w' := (cSh 0 s)) (by decide +kernel) rfl trivial ?_
      obtain rfl := Option.some.inj hf
      exact m_iret K (by decide +kernel) (Nat.zero_le _) (Nat.zero_le _) ⟨rfl, rfl⟩
    · rcases ite_s hf with ⟨c_1006, hf⟩ | ⟨c_1006, hf⟩
      · refine m_tsI M (dflt := 58) (t0 := 1) (t1 := 5) (offs := #[33, 40, 33, 42, 51]) (len := 33) (tgt := 48) 2 (by decide +kernel) (by rw [c_1006]; rfl) (by decide) rfl (by decide) ?_
        obtain ⟨h_1007, hf⟩ := grd_s hf
        refine m_run M (is := [(48, .aload_n 0, 0), (49, .getfield 18, 0), (52, .iload_n 1, 0), (53, .iaload, 0)]) (pc' := 54) (L' := [some (.ref 0), some (.int a0), some (.int a1), some (.int ((s.2.1 a0.toNatClampNeg) + 1))]) (st' := [.int (s.2.2.1 a0.toNatClampNeg)]) (w' := (cSh 0 s)) (by decide +kernel) rfl ⟨inB_use h_1007, trivial⟩ ?_
        obtain rfl := Option.some.inj hf
        exact m_iret K (by decide +kernel) (Nat.zero_le _) (Nat.zero_le _) ⟨rfl, rfl⟩
      · rcases ite_s hf with ⟨c_1008, hf⟩ | ⟨c_1008, hf⟩
        · refine m_tsI M (dflt := 58) (t0 := 1) (t1 := 5) (offs := #[33, 40, 33, 42, 51]) (len := 33) (tgt := 57) 3 (by decide +kernel) (by rw [c_1008]; rfl) (by decide) rfl (by decide) ?_
          obtain ⟨h_1009, hf⟩ := grd_s hf
          refine m_run M (is := [(57, .iload_n 3, 0), (58, .aload_n 0, 0), (59, .getfield 24, 0), (62, .iload_n 2, 0), (63, .iaload, 0), (64, .iadd, 0)]) (pc' := 65) (L' := [some (.ref 0), some (.int a0), some (.int a1), some (.int ((s.2.1 a0.toNatClampNeg) + 1))]) (st' := [.int (((s.2.1 a0.toNatClampNeg) + 1) + (s.2.2.2.2.1 a1.toNatClampNeg))]) (w' := (cSh 0 s)) (by decide +kernel) rfl ⟨inB_use h_1009, trivial⟩ ?_
          obtain rfl := Option.some.inj hf
          exact m_iret K (by decide +kernel) (Nat.zero_le _) (Nat.zero_le _) ⟨rfl, rfl⟩
        · rcases ite_s hf with ⟨c_1010, hf⟩ | ⟨c_1010, hf⟩
          · refine m_tsI M (dflt := 58) (t0 := 1) (t1 := 5) (offs := #[33, 40, 33, 42, 51]) (len := 33) (tgt := 66) 4 (by decide +kernel) (by rw [c_1010]; rfl) (by decide) rfl (by decide) ?_
            refine m_run M (is := [(66, .aload_n 0, 0), (67, .getfield 31, 0), (70, .iconst 1, 1), (71, .isub, 0)]) (pc' := 72) (L' := [some (.ref 0), some (.int a0), some (.int a1), some (.int ((s.2.1 a0.toNatClampNeg) + 1))]) (st' := [.int (s.2.2.2.2.2.1 - 1)]) (w' := (cSh 0 s)) (by decide +kernel) rfl trivial ?_
            obtain rfl := Option.some.inj hf
            exact m_iret K (by decide +kernel) (Nat.zero_le _) (Nat.zero_le _) ⟨rfl, rfl⟩
          · refine m_tsO M (dflt := 58) (t0 := 1) (t1 := 5) (offs := #[33, 40, 33, 42, 51]) (len := 33) (tgt := 73) (by decide +kernel) (ts_one5 c_1003 c_1005 c_1006 c_1008 c_1010) (by decide) ?_
            obtain ⟨h_1011, hf⟩ := grd_s hf
            refine m_run M (is := [(73, .aload_n 0, 0), (74, .getfield 24, 0), (77, .iload_n 2, 0), (78, .iaload, 0)]) (pc' := 79) (L' := [some (.ref 0), some (.int a0), some (.int a1), some (.int ((s.2.1 a0.toNatClampNeg) + 1))]) (st' := [.int (s.2.2.2.2.1 a1.toNatClampNeg)]) (w' := (cSh 0 s)) (by decide +kernel) rfl ⟨inB_use h_1011, trivial⟩ ?_
            obtain rfl := Option.some.inj hf
            exact m_iret K (by decide +kernel) (Nat.zero_le _) (Nat.zero_le _) ⟨rfl, rfl⟩

def f_X1_stepsBack (a0 : Int32) (s : ShT) : Option (Int32) :=
  if inB 0 16 then
  (f_X1_hasPerson (s.1 (0 : Int32).toNatClampNeg) s).bind fun r1002 =>
  if r1002 = 0 then
    some (-1)
  else
    (f_X1_hasLaw a0 s).bind fun r1004 =>
    if r1004 = 0 then
      some (-1)
    else
      (f_X1_stepsWanted (s.1 (0 : Int32).toNatClampNeg) a0 s).bind fun r1006 =>
      (f_J9_min_7cf53 r1006 (s.2.2.2.2.2.1 - 1)).bind fun r1007 =>
      (f_J9_max_7cf53 0 r1007).bind fun r1008 =>
      some r1008
  else none
set_option maxRecDepth 100000 in
set_option maxHeartbeats 4000000 in
theorem run_X1_stepsBack {l : Launch} {D : va_G} {cT : Nat → ClassId} (a0 : Int32)  (s : ShT) {r : Int32} (hf : f_X1_stepsBack a0 s = some r) : Runs l D cT yX1_stepsBack cX1_stepsBack 3 (some .int) 1 23 [.ref 0, .int a0] (cSh 0 s) (EQ (some (.int r)) (cSh 0 s)) := by
  refine runs_of O_X1 okO_X1 (by decide +kernel) rfl rfl (Nat.le_of_ble_eq_true rfl) (fun g K => ?_)
  have M := K.b
  show g 0 0 (cSh 0 s) 0 [some (.ref 0), some (.int a0), none] []
  rw [f_X1_stepsBack] at hf
  obtain ⟨h_1001, hf⟩ := grd_s hf
  refine m_run M (is := [(0, .aload_n 0, 0), (1, .getfield 9, 0), (4, .iconst 0, 0), (5, .iaload, 0), (6, .istore_n 2, 0), (7, .aload_n 0, 0), (8, .iload_n 2, 0)]) (pc' := 9) (L' := [some (.ref 0), some (.int a0), some (.int (s.1 (0 : Int32).toNatClampNeg))]) (st' := [.int (s.1 (0 : Int32).toNatClampNeg), .ref 0]) (w' := (cSh 0 s)) (by decide +kernel) rfl ⟨inB_use h_1001, trivial⟩ ?_
  obtain ⟨r1002, h_1002, hf⟩ := bnd_s hf
  refine m_cV0 M (rest := []) (w2 := (cSh 0 s)) (st2 := [.int r1002]) (run_X1_hasPerson (s.1 (0 : Int32).toNatClampNeg)  s h_1002) cv_X1_hasPerson lk_X1_60 (by decide +kernel) [0, 1, 2, 3, 4, 5] (by decide) (Nat.le_of_ble_eq_true rfl) rfl rfl rfl (Nat.le_of_ble_eq_true rfl) ⟨by decide, by decide⟩ rfl rfl ⟨Nat.zero_le _, Nat.zero_le _⟩ rfl rfl ?_
  rcases ite_s hf with ⟨c_1003, hf⟩ | ⟨c_1003, hf⟩
  · refine m_jT M (i := .ifCond .eq 11) 23 (by decide +kernel) rfl (by decide) c_1003 ?_
    refine m_run M (is := [(23, .iconst (-1), -1)]) (pc' := 24) (L' := [some (.ref 0), some (.int a0), some (.int (s.1 (0 : Int32).toNatClampNeg))]) (st' := [.int (-1)]) (w' := (cSh 0 s)) (by decide +kernel) rfl trivial ?_
    obtain rfl := Option.some.inj hf
    exact m_iret K (by decide +kernel) (Nat.zero_le _) (Nat.zero_le _) ⟨rfl, rfl⟩
  · refine m_jF M (i := .ifCond .eq 11) 23 (by decide +kernel) rfl (by decide) c_1003 ?_
    refine m_run M (is := [(15, .aload_n 0, 0), (16, .iload_n 1, 0)]) (pc' := 17) (L' := [some (.ref 0), some (.int a0), some (.int (s.1 (0 : Int32).toNatClampNeg))]) (st' := [.int a0, .ref 0]) (w' := (cSh 0 s)) (by decide +kernel) rfl trivial ?_
    obtain ⟨r1004, h_1004, hf⟩ := bnd_s hf
    refine m_cV0 M (rest := []) (w2 := (cSh 0 s)) (st2 := [.int r1004]) (run_X1_hasLaw a0  s h_1004) cv_X1_hasLaw lk_X1_67 (by decide +kernel) [0, 1, 2, 3, 4, 5] (by decide) (Nat.le_of_ble_eq_true rfl) rfl rfl rfl (Nat.le_of_ble_eq_true rfl) ⟨by decide, by decide⟩ rfl rfl ⟨Nat.zero_le _, Nat.zero_le _⟩ rfl rfl ?_
    rcases ite_s hf with ⟨c_1005, hf⟩ | ⟨c_1005, hf⟩
    · refine m_jF M (i := .ifCond .ne 5) 25 (by decide +kernel) rfl (by decide) (fun n => n c_1005) ?_
      refine m_run M (is := [(23, .iconst (-1), -1)]) (pc' := 24) (L' := [some (.ref 0), some (.int a0), some (.int (s.1 (0 : Int32).toNatClampNeg))]) (st' := [.int (-1)]) (w' := (cSh 0 s)) (by decide +kernel) rfl trivial ?_
      obtain rfl := Option.some.inj hf
      exact m_iret K (by decide +kernel) (Nat.zero_le _) (Nat.zero_le _) ⟨rfl, rfl⟩
    · refine m_jT M (i := .ifCond .ne 5) 25 (by decide +kernel) rfl (by decide) c_1005 ?_
      refine m_run M (is := [(25, .iconst 0, 0), (26, .aload_n 0, 0), (27, .iload_n 2, 0), (28, .iload_n 1, 0)]) (pc' := 29) (L' := [some (.ref 0), some (.int a0), some (.int (s.1 (0 : Int32).toNatClampNeg))]) (st' := [.int a0, .int (s.1 (0 : Int32).toNatClampNeg), .ref 0, .int 0]) (w' := (cSh 0 s)) (by decide +kernel) rfl trivial ?_
      obtain ⟨r1006, h_1006, hf⟩ := bnd_s hf
      refine m_cV0 M (rest := [.int 0]) (w2 := (cSh 0 s)) (st2 := [.int r1006, .int 0]) (run_X1_stepsWanted (s.1 (0 : Int32).toNatClampNeg) a0  s h_1006) cv_X1_stepsWanted lk_X1_95 (by decide +kernel) [0, 1, 2, 3, 4, 5] (by decide) (Nat.le_of_ble_eq_true rfl) rfl rfl rfl (Nat.le_of_ble_eq_true rfl) ⟨by decide, by decide⟩ rfl rfl ⟨Nat.zero_le _, Nat.zero_le _⟩ rfl rfl ?_
      refine m_run M (is := [(32, .aload_n 0, 0), (33, .getfield 31, 0), (36, .iconst 1, 1), (37, .isub, 0)]) (pc' := 38) (L' := [some (.ref 0), some (.int a0), some (.int (s.1 (0 : Int32).toNatClampNeg))]) (st' := [.int (s.2.2.2.2.2.1 - 1), .int r1006, .int 0]) (w' := (cSh 0 s)) (by decide +kernel) rfl trivial ?_
      obtain ⟨r1007, h_1007, hf⟩ := bnd_s hf
      refine m_cS0 M (rest := [.int 0]) (w2 := (cSh 0 s)) (st2 := [.int r1007, .int 0]) (run_J9_min_7cf53 r1006 (s.2.2.2.2.2.1 - 1)   h_1007) cs_J9_min_7cf53 lk_X1_70 (by decide +kernel) [] (by decide) (Nat.le_of_ble_eq_true rfl) rfl rfl (Nat.le_of_ble_eq_true rfl) ⟨by decide, by decide⟩ rfl rfl ⟨Nat.zero_le _, Nat.zero_le _⟩ rfl rfl ?_
      obtain ⟨r1008, h_1008, hf⟩ := bnd_s hf
      refine m_cS0 M (rest := []) (w2 := (cSh 0 s)) (st2 := [.int r1008]) (run_J9_max_7cf53 0 r1007   h_1008) cs_J9_max_7cf53 lk_X1_76 (by decide +kernel) [] (by decide) (Nat.le_of_ble_eq_true rfl) rfl rfl (Nat.le_of_ble_eq_true rfl) ⟨by decide, by decide⟩ rfl rfl ⟨Nat.zero_le _, Nat.zero_le _⟩ rfl rfl ?_
      obtain rfl := Option.some.inj hf
      exact m_iret K (by decide +kernel) (Nat.zero_le _) (Nat.zero_le _) ⟨rfl, rfl⟩

def f_X1_lastThen (a0 : Int32) (s : ShT) : Option (Int32) :=
  if inB 0 16 then
  (f_X1_hasPerson (s.1 (0 : Int32).toNatClampNeg) s).bind fun r1002 =>
  if r1002 = 0 then
    some (-1)
  else
    (f_X1_hasLaw a0 s).bind fun r1004 =>
    if r1004 = 0 then
      some (-1)
    else
      if inB (s.1 (0 : Int32).toNatClampNeg) 16 then
      if inB a0 6 then
      (f_X3_isUnder (s.2.2.2.1 a0.toNatClampNeg) 1).bind fun r1008 =>
      if r1008 = 0 then
        some (s.2.2.1 (s.1 (0 : Int32).toNatClampNeg).toNatClampNeg)
      else
        if inB a0 6 then
        if (s.2.2.2.1 a0.toNatClampNeg) = 3 then
          if (s.2.2.1 (s.1 (0 : Int32).toNatClampNeg).toNatClampNeg) < (s.2.2.2.2.2.1 - 1) then
            (f_J9_min_7cf53 (2 * (s.2.2.1 (s.1 (0 : Int32).toNatClampNeg).toNatClampNeg)) 99).bind fun r1013 =>
            some r1013
          else
            some 1
        else
          (f_J9_min_7cf53 (2 * (s.2.2.1 (s.1 (0 : Int32).toNatClampNeg).toNatClampNeg)) 99).bind fun r1014 =>
          some r1014
        else none
      else none
      else none
  else none
set_option maxRecDepth 100000 in
set_option maxHeartbeats 4000000 in
theorem run_X1_lastThen {l : Launch} {D : va_G} {cT : Nat → ClassId} (a0 : Int32)  (s : ShT) {r : Int32} (hf : f_X1_lastThen a0 s = some r) : Runs l D cT yX1_lastThen cX1_lastThen 4 (some .int) 1 21 [.ref 0, .int a0] (cSh 0 s) (EQ (some (.int r)) (cSh 0 s)) := by
  refine runs_of O_X1 okO_X1 (by decide +kernel) rfl rfl (Nat.le_of_ble_eq_true rfl) (fun g K => ?_)
  have M := K.b
  show g 0 0 (cSh 0 s) 0 [some (.ref 0), some (.int a0), none, none] []
  rw [f_X1_lastThen] at hf
  obtain ⟨h_1001, hf⟩ := grd_s hf
  refine m_run M (is := [(0, .aload_n 0, 0), (1, .getfield 9, 0), (4, .iconst 0, 0), (5, .iaload, 0), (6, .istore_n 2, 0), (7, .aload_n 0, 0), (8, .iload_n 2, 0)]) (pc' := 9) (L' := [some (.ref 0), some (.int a0), some (.int (s.1 (0 : Int32).toNatClampNeg)), none]) (st' := [.int (s.1 (0 : Int32).toNatClampNeg), .ref 0]) (w' := (cSh 0 s)) (by decide +kernel) rfl ⟨inB_use h_1001, trivial⟩ ?_
  obtain ⟨r1002, h_1002, hf⟩ := bnd_s hf
  refine m_cV0 M (rest := []) (w2 := (cSh 0 s)) (st2 := [.int r1002]) (run_X1_hasPerson (s.1 (0 : Int32).toNatClampNeg)  s h_1002) cv_X1_hasPerson lk_X1_60 (by decide +kernel) [0, 1, 2, 3, 4, 5] (by decide) (Nat.le_of_ble_eq_true rfl) rfl rfl rfl (Nat.le_of_ble_eq_true rfl) ⟨by decide, by decide⟩ rfl rfl ⟨Nat.zero_le _, Nat.zero_le _⟩ rfl rfl ?_
  rcases ite_s hf with ⟨c_1003, hf⟩ | ⟨c_1003, hf⟩
  · refine m_jT M (i := .ifCond .eq 11) 23 (by decide +kernel) rfl (by decide) c_1003 ?_
    refine m_run M (is := [(23, .iconst (-1), -1)]) (pc' := 24) (L' := [some (.ref 0), some (.int a0), some (.int (s.1 (0 : Int32).toNatClampNeg)), none]) (st' := [.int (-1)]) (w' := (cSh 0 s)) (by decide +kernel) rfl trivial ?_
    obtain rfl := Option.some.inj hf
    exact m_iret K (by decide +kernel) (Nat.zero_le _) (Nat.zero_le _) ⟨rfl, rfl⟩
  · refine m_jF M (i := .ifCond .eq 11) 23 (by decide +kernel) rfl (by decide) c_1003 ?_
    refine m_run M (is := [(15, .aload_n 0, 0), (16, .iload_n 1, 0)]) (pc' := 17) (L' := [some (.ref 0), some (.int a0), some (.int (s.1 (0 : Int32).toNatClampNeg)), none]) (st' := [.int a0, .ref 0]) (w' := (cSh 0 s)) (by decide +kernel) rfl trivial ?_
    obtain ⟨r1004, h_1004, hf⟩ := bnd_s hf
    refine m_cV0 M (rest := []) (w2 := (cSh 0 s)) (st2 := [.int r1004]) (run_X1_hasLaw a0  s h_1004) cv_X1_hasLaw lk_X1_67 (by decide +kernel) [0, 1, 2, 3, 4, 5] (by decide) (Nat.le_of_ble_eq_true rfl) rfl rfl rfl (Nat.le_of_ble_eq_true rfl) ⟨by decide, by decide⟩ rfl rfl ⟨Nat.zero_le _, Nat.zero_le _⟩ rfl rfl ?_
    rcases ite_s hf with ⟨c_1005, hf⟩ | ⟨c_1005, hf⟩
    · refine m_jF M (i := .ifCond .ne 5) 25 (by decide +kernel) rfl (by decide) (fun n => n c_1005) ?_
      refine m_run M (is := [(23, .iconst (-1), -1)]) (pc' := 24) (L' := [some (.ref 0), some (.int a0), some (.int (s.1 (0 : Int32).toNatClampNeg)), none]) (st' := [.int (-1)]) (w' := (cSh 0 s)) (by decide +kernel) rfl trivial ?_
      obtain rfl := Option.some.inj hf
      exact m_iret K (by decide +kernel) (Nat.zero_le _) (Nat.zero_le _) ⟨rfl, rfl⟩
    · refine m_jT M (i := .ifCond .ne 5) 25 (by decide +kernel) rfl (by decide) c_1005 ?_
      obtain ⟨h_1006, hf⟩ := grd_s hf
      obtain ⟨h_1007, hf⟩ := grd_s hf
      refine m_run M (is := [(25, .aload_n 0, 0), (26, .getfield 18, 0), (29, .iload_n 2, 0), (30, .iaload, 0), (31, .istore_n 3, 0), (32, .aload_n 0, 0), (33, .getfield 21, 0), (36, .iload_n 1, 0), (37, .iaload, 0), (38, .iconst 1, 1)]) (pc' := 39) (L' := [some (.ref 0), some (.int a0), some (.int (s.1 (0 : Int32).toNatClampNeg)), some (.int (s.2.2.1 (s.1 (0 : Int32).toNatClampNeg).toNatClampNeg))]) (st' := [.int 1, .int (s.2.2.2.1 a0.toNatClampNeg)]) (w' := (cSh 0 s)) (by decide +kernel) rfl ⟨inB_use h_1006, inB_use h_1007, trivial⟩ ?_
      obtain ⟨r1008, h_1008, hf⟩ := bnd_s hf
      refine m_cS0 M (rest := []) (w2 := (cSh 0 s)) (st2 := [.int r1008]) (run_X3_isUnder (s.2.2.2.1 a0.toNatClampNeg) 1   h_1008) cs_X3_isUnder lk_X1_98 (by decide +kernel) [] (by decide) (Nat.le_of_ble_eq_true rfl) rfl rfl (Nat.le_of_ble_eq_true rfl) ⟨by decide, by decide⟩ rfl rfl ⟨Nat.zero_le _, Nat.zero_le _⟩ rfl rfl ?_
      rcases ite_s hf with ⟨c_1009, hf⟩ | ⟨c_1009, hf⟩
      · refine m_jF M (i := .ifCond .ne 5) 47 (by decide +kernel) rfl (by decide) (fun n => n c_1009) ?_
        refine m_run M (is := [(45, .iload_n 3, 0)]) (pc' := 46) (L' := [some (.ref 0), some (.int a0), some (.int (s.1 (0 : Int32).toNatClampNeg)), some (.int (s.2.2.1 (s.1 (0 : Int32).toNatClampNeg).toNatClampNeg))]) (st' := [.int (s.2.2.1 (s.1 (0 : Int32).toNatClampNeg).toNatClampNeg)]) (w' := (cSh 0 s)) (by decide +kernel) rfl trivial ?_
        obtain rfl := Option.some.inj hf
        exact m_iret K (by decide +kernel) (Nat.zero_le _) (Nat.zero_le _) ⟨rfl, rfl⟩
      · refine m_jT M (i := .ifCond .ne 5) 47 (by decide +kernel) rfl (by decide) c_1009 ?_
        obtain ⟨h_1010, hf⟩ := grd_s hf
        refine m_run M (is := [(47, .aload_n 0, 0), (48, .getfield 21, 0), (51, .iload_n 1, 0), (52, .iaload, 0), (53, .iconst 3, 3)]) (pc' := 54) (L' := [some (.ref 0), some (.int a0), some (.int (s.1 (0 : Int32).toNatClampNeg)), some (.int (s.2.2.1 (s.1 (0 : Int32).toNatClampNeg).toNatClampNeg))]) (st' := [.int 3, .int (s.2.2.2.1 a0.toNatClampNeg)]) (w' := (cSh 0 s)) (by decide +kernel) rfl ⟨inB_use h_1010, trivial⟩ ?_
        rcases ite_s hf with ⟨c_1011, hf⟩ | ⟨c_1011, hf⟩
        · refine m_jF M (i := .if_icmp .ne 15) 69 (by decide +kernel) rfl (by decide) (fun n => n c_1011) ?_
          refine m_run M (is := [(57, .iload_n 3, 0), (58, .aload_n 0, 0), (59, .getfield 31, 0), (62, .iconst 1, 1), (63, .isub, 0)]) (pc' := 64) (L' := [some (.ref 0), some (.int a0), some (.int (s.1 (0 : Int32).toNatClampNeg)), some (.int (s.2.2.1 (s.1 (0 : Int32).toNatClampNeg).toNatClampNeg))]) (st' := [.int (s.2.2.2.2.2.1 - 1), .int (s.2.2.1 (s.1 (0 : Int32).toNatClampNeg).toNatClampNeg)]) (w' := (cSh 0 s)) (by decide +kernel) rfl trivial ?_
          rcases ite_s hf with ⟨c_1012, hf⟩ | ⟨c_1012, hf⟩
          · refine m_jT M (i := .if_icmp .lt 5) 69 (by decide +kernel) rfl (by decide) c_1012 ?_
            refine m_run M (is := [(69, .iconst 2, 2), (70, .iload_n 3, 0), (71, .imul, 0), (72, .bipush 99, 99)]) (pc' := 74) (L' := [some (.ref 0), some (.int a0), some (.int (s.1 (0 : Int32).toNatClampNeg)), some (.int (s.2.2.1 (s.1 (0 : Int32).toNatClampNeg).toNatClampNeg))]) (st' := [.int 99, .int (2 * (s.2.2.1 (s.1 (0 : Int32).toNatClampNeg).toNatClampNeg))]) (w' := (cSh 0 s)) (by decide +kernel) rfl trivial ?_
            obtain ⟨r1013, h_1013, hf⟩ := bnd_s hf
            refine m_cS0 M (rest := []) (w2 := (cSh 0 s)) (st2 := [.int r1013]) (run_J9_min_7cf53 (2 * (s.2.2.1 (s.1 (0 : Int32).toNatClampNeg).toNatClampNeg)) 99   h_1013) cs_J9_min_7cf53 lk_X1_70 (by decide +kernel) [] (by decide) (Nat.le_of_ble_eq_true rfl) rfl rfl (Nat.le_of_ble_eq_true rfl) ⟨by decide, by decide⟩ rfl rfl ⟨Nat.zero_le _, Nat.zero_le _⟩ rfl rfl ?_
            obtain rfl := Option.some.inj hf
            exact m_iret K (by decide +kernel) (Nat.zero_le _) (Nat.zero_le _) ⟨rfl, rfl⟩
          · refine m_jF M (i := .if_icmp .lt 5) 69 (by decide +kernel) rfl (by decide) c_1012 ?_
            refine m_run M (is := [(67, .iconst 1, 1)]) (pc' := 68) (L' := [some (.ref 0), some (.int a0), some (.int (s.1 (0 : Int32).toNatClampNeg)), some (.int (s.2.2.1 (s.1 (0 : Int32).toNatClampNeg).toNatClampNeg))]) (st' := [.int 1]) (w' := (cSh 0 s)) (by decide +kernel) rfl trivial ?_
            obtain rfl := Option.some.inj hf
            exact m_iret K (by decide +kernel) (Nat.zero_le _) (Nat.zero_le _) ⟨rfl, rfl⟩
        · refine m_jT M (i := .if_icmp .ne 15) 69 (by decide +kernel) rfl (by decide) c_1011 ?_
          refine m_run M (is := [(69, .iconst 2, 2), (70, .iload_n 3, 0), (71, .imul, 0), (72, .bipush 99, 99)]) (pc' := 74) (L' := [some (.ref 0), some (.int a0), some (.int (s.1 (0 : Int32).toNatClampNeg)), some (.int (s.2.2.1 (s.1 (0 : Int32).toNatClampNeg).toNatClampNeg))]) (st' := [.int 99, .int (2 * (s.2.2.1 (s.1 (0 : Int32).toNatClampNeg).toNatClampNeg))]) (w' := (cSh 0 s)) (by decide +kernel) rfl trivial ?_
          obtain ⟨r1014, h_1014, hf⟩ := bnd_s hf
          refine m_cS0 M (rest := []) (w2 := (cSh 0 s)) (st2 := [.int r1014]) (run_J9_min_7cf53 (2 * (s.2.2.1 (s.1 (0 : Int32).toNatClampNeg).toNatClampNeg)) 99   h_1014) cs_J9_min_7cf53 lk_X1_70 (by decide +kernel) [] (by decide) (Nat.le_of_ble_eq_true rfl) rfl rfl (Nat.le_of_ble_eq_true rfl) ⟨by decide, by decide⟩ rfl rfl ⟨Nat.zero_le _, Nat.zero_le _⟩ rfl rfl ?_
          obtain rfl := Option.some.inj hf
          exact m_iret K (by decide +kernel) (Nat.zero_le _) (Nat.zero_le _) ⟨rfl, rfl⟩

def f_X1_turn (s : ShT) : Option (Int32 × ShT) :=
  (f_X1_stepsBack s.2.2.2.2.2.2.2.1 s).bind fun r1001 =>
  if r1001 = (-1) then
    some ((-1), s)
  else
    if inB 0 16 then
    (f_X1_lastThen s.2.2.2.2.2.2.2.1 s).bind fun r1004 =>
    if inB (s.1 (0 : Int32).toNatClampNeg) 16 then
    if inB (s.1 (0 : Int32).toNatClampNeg) 16 then
    if inB (s.1 (0 : Int32).toNatClampNeg) 16 then
    if cpB 1 0 r1001 16 16 then
    if inB r1001 16 then
    some ((s.1 (0 : Int32).toNatClampNeg), ((upd (va_cpy s.1 s.1 (1 : Int32).toNatClampNeg (0 : Int32).toNatClampNeg r1001.toNatClampNeg) r1001.toNatClampNeg (s.1 (0 : Int32).toNatClampNeg)), (upd s.2.1 (s.1 (0 : Int32).toNatClampNeg).toNatClampNeg ((s.2.1 (s.1 (0 : Int32).toNatClampNeg).toNatClampNeg) + 1)), (upd s.2.2.1 (s.1 (0 : Int32).toNatClampNeg).toNatClampNeg r1004), s.2.2.2.1, s.2.2.2.2.1, s.2.2.2.2.2.1, s.2.2.2.2.2.2.1, s.2.2.2.2.2.2.2.1, (s.2.2.2.2.2.2.2.2.1 + 1), s.2.2.2.2.2.2.2.2.2))
    else none
    else none
    else none
    else none
    else none
    else none
set_option maxRecDepth 100000 in
set_option maxHeartbeats 4000000 in
theorem run_X1_turn {l : Launch} {D : va_G} {cT : Nat → ClassId}   (s : ShT) {r : Int32 × ShT} (hf : f_X1_turn s = some r) : Runs l D cT yX1_turn cX1_turn 3 (some .int) 2 45 [.ref 0] (cSh 0 s) (EQ (some (.int r.1)) (cSh 0 r.2)) := by
  refine runs_of O_X1 okO_X1 (by decide +kernel) rfl rfl (Nat.le_of_ble_eq_true rfl) (fun g K => ?_)
  have M := K.b
  show g 0 0 (cSh 0 s) 0 [some (.ref 0), none, none] []
  rw [f_X1_turn] at hf
  refine m_run M (is := [(0, .aload_n 0, 0), (1, .aload_n 0, 0), (2, .getfield 37, 0)]) (pc' := 5) (L' := [some (.ref 0), none, none]) (st' := [.int s.2.2.2.2.2.2.2.1, .ref 0]) (w' := (cSh 0 s)) (by decide +kernel) rfl trivial ?_
  obtain ⟨r1001, h_1001, hf⟩ := bnd_s hf
  refine m_cV0 M (rest := []) (w2 := (cSh 0 s)) (st2 := [.int r1001]) (run_X1_stepsBack s.2.2.2.2.2.2.2.1  s h_1001) cv_X1_stepsBack lk_X1_102 (by decide +kernel) [0, 1, 2, 3, 4, 5] (by decide) (Nat.le_of_ble_eq_true rfl) rfl rfl rfl (Nat.le_of_ble_eq_true rfl) ⟨by decide, by decide⟩ rfl rfl ⟨Nat.zero_le _, Nat.zero_le _⟩ rfl rfl ?_
  refine m_run M (is := [(8, .istore_n 1, 0), (9, .iload_n 1, 0), (10, .iconst (-1), -1)]) (pc' := 11) (L' := [some (.ref 0), some (.int r1001), none]) (st' := [.int (-1), .int r1001]) (w' := (cSh 0 s)) (by decide +kernel) rfl trivial ?_
  rcases ite_s hf with ⟨c_1002, hf⟩ | ⟨c_1002, hf⟩
  · refine m_jF M (i := .if_icmp .ne 5) 16 (by decide +kernel) rfl (by decide) (fun n => n c_1002) ?_
    refine m_run M (is := [(14, .iconst (-1), -1)]) (pc' := 15) (L' := [some (.ref 0), some (.int r1001), none]) (st' := [.int (-1)]) (w' := (cSh 0 s)) (by decide +kernel) rfl trivial ?_
    obtain rfl := Option.some.inj hf
    exact m_iret K (by decide +kernel) (Nat.zero_le _) (Nat.zero_le _) ⟨rfl, rfl⟩
  · refine m_jT M (i := .if_icmp .ne 5) 16 (by decide +kernel) rfl (by decide) c_1002 ?_
    obtain ⟨h_1003, hf⟩ := grd_s hf
    refine m_run M (is := [(16, .aload_n 0, 0), (17, .getfield 9, 0), (20, .iconst 0, 0), (21, .iaload, 0), (22, .istore_n 2, 0), (23, .aload_n 0, 0), (24, .getfield 18, 0), (27, .iload_n 2, 0), (28, .aload_n 0, 0), (29, .aload_n 0, 0), (30, .getfield 37, 0)]) (pc' := 33) (L' := [some (.ref 0), some (.int r1001), some (.int (s.1 (0 : Int32).toNatClampNeg))]) (st' := [.int s.2.2.2.2.2.2.2.1, .ref 0, .int (s.1 (0 : Int32).toNatClampNeg), .ref 3]) (w' := (cSh 0 s)) (by decide +kernel) rfl ⟨inB_use h_1003, trivial⟩ ?_
    obtain ⟨r1004, h_1004, hf⟩ := bnd_s hf
    refine m_cV0 M (rest := [.int (s.1 (0 : Int32).toNatClampNeg), .ref 3]) (w2 := (cSh 0 s)) (st2 := [.int r1004, .int (s.1 (0 : Int32).toNatClampNeg), .ref 3]) (run_X1_lastThen s.2.2.2.2.2.2.2.1  s h_1004) cv_X1_lastThen lk_X1_105 (by decide +kernel) [0, 1, 2, 3, 4, 5] (by decide) (Nat.le_of_ble_eq_true rfl) rfl rfl rfl (Nat.le_of_ble_eq_true rfl) ⟨by decide, by decide⟩ rfl rfl ⟨Nat.zero_le _, Nat.zero_le _⟩ rfl rfl ?_
    obtain ⟨h_1005, hf⟩ := grd_s hf
    obtain ⟨h_1006, hf⟩ := grd_s hf
    obtain ⟨h_1007, hf⟩ := grd_s hf
    refine m_run M (is := [(36, .iastore, 0), (37, .aload_n 0, 0), (38, .getfield 15, 0), (41, .iload_n 2, 0), (42, .dup2, 0), (43, .iaload, 0), (44, .iconst 1, 1), (45, .iadd, 0), (46, .iastore, 0), (47, .aload_n 0, 0), (48, .dup, 0), (49, .getfield 40, 0), (52, .iconst 1, 1), (53, .iadd, 0), (54, .putfield 40, 0), (57, .aload_n 0, 0), (58, .getfield 9, 0), (61, .iconst 1, 1), (62, .aload_n 0, 0), (63, .getfield 9, 0), (66, .iconst 0, 0), (67, .iload_n 1, 0)]) (pc' := 68) (L' := [some (.ref 0), some (.int r1001), some (.int (s.1 (0 : Int32).toNatClampNeg))]) (st' := [.int r1001, .int 0, .ref 1, .int 1, .ref 1]) (w' := (cSh 0 (s.1, (upd s.2.1 (s.1 (0 : Int32).toNatClampNeg).toNatClampNeg ((s.2.1 (s.1 (0 : Int32).toNatClampNeg).toNatClampNeg) + 1)), (upd s.2.2.1 (s.1 (0 : Int32).toNatClampNeg).toNatClampNeg r1004), s.2.2.2.1, s.2.2.2.2.1, s.2.2.2.2.2.1, s.2.2.2.2.2.2.1, s.2.2.2.2.2.2.2.1, (s.2.2.2.2.2.2.2.2.1 + 1), s.2.2.2.2.2.2.2.2.2))) (by decide +kernel) rfl ⟨inB_use h_1005, inB_use h_1006, inB_use h_1007, trivial⟩ ?_
    obtain ⟨h_1008, hf⟩ := grd_s hf
    refine m_cpI M (w2 := (cSh 0 ((va_cpy s.1 s.1 (1 : Int32).toNatClampNeg (0 : Int32).toNatClampNeg r1001.toNatClampNeg), (upd s.2.1 (s.1 (0 : Int32).toNatClampNeg).toNatClampNeg ((s.2.1 (s.1 (0 : Int32).toNatClampNeg).toNatClampNeg) + 1)), (upd s.2.2.1 (s.1 (0 : Int32).toNatClampNeg).toNatClampNeg r1004), s.2.2.2.1, s.2.2.2.2.1, s.2.2.2.2.2.1, s.2.2.2.2.2.2.1, s.2.2.2.2.2.2.2.1, (s.2.2.2.2.2.2.2.2.1 + 1), s.2.2.2.2.2.2.2.2.2))) cp_X1_43 rfl rfl h_1008 (by decide) (Nat.le_of_ble_eq_true rfl) (by decide +kernel) rfl ?_
    obtain ⟨h_1009, hf⟩ := grd_s hf
    refine m_run M (is := [(71, .aload_n 0, 0), (72, .getfield 9, 0), (75, .iload_n 1, 0), (76, .iload_n 2, 0), (77, .iastore, 0), (78, .iload_n 2, 0)]) (pc' := 79) (L' := [some (.ref 0), some (.int r1001), some (.int (s.1 (0 : Int32).toNatClampNeg))]) (st' := [.int (s.1 (0 : Int32).toNatClampNeg)]) (w' := (cSh 0 ((upd (va_cpy s.1 s.1 (1 : Int32).toNatClampNeg (0 : Int32).toNatClampNeg r1001.toNatClampNeg) r1001.toNatClampNeg (s.1 (0 : Int32).toNatClampNeg)), (upd s.2.1 (s.1 (0 : Int32).toNatClampNeg).toNatClampNeg ((s.2.1 (s.1 (0 : Int32).toNatClampNeg).toNatClampNeg) + 1)), (upd s.2.2.1 (s.1 (0 : Int32).toNatClampNeg).toNatClampNeg r1004), s.2.2.2.1, s.2.2.2.2.1, s.2.2.2.2.2.1, s.2.2.2.2.2.2.1, s.2.2.2.2.2.2.2.1, (s.2.2.2.2.2.2.2.2.1 + 1), s.2.2.2.2.2.2.2.2.2))) (by decide +kernel) rfl ⟨inB_use h_1009, trivial⟩ ?_
    obtain rfl := Option.some.inj hf
    exact m_iret K (by decide +kernel) (Nat.zero_le _) (Nat.zero_le _) ⟨rfl, rfl⟩

def f_X1_turnTimes_L0 (v1 : Int32) : Nat → Int32 → ShT → Option (ShT)
  | 0, _, _ => none
  | n_ + 1, v2, s =>
    if v1 ≤ v2 then
      some s
    else
      (f_X1_turn s).bind fun r102 =>
      f_X1_turnTimes_L0 v1 n_ (v2 + 1) r102.2
def f_X1_turnTimes (a0 : Int32) (s : ShT) : Option (ShT) :=
  f_X1_turnTimes_L0 a0 fuel0 0 s
set_option maxRecDepth 100000 in
set_option maxHeartbeats 4000000 in
theorem run_X1_turnTimes {l : Launch} {D : va_G} {cT : Nat → ClassId} (a0 : Int32)  (s : ShT) {r : ShT} (hf : f_X1_turnTimes a0 s = some r) : Runs l D cT yX1_turnTimes cX1_turnTimes 3 none 3 67 [.ref 0, .int a0] (cSh 0 s) (EQ none (cSh 0 r)) := by
  refine runs_of O_X1 okO_X1 (by decide +kernel) rfl rfl (Nat.le_of_ble_eq_true rfl) (fun g K => ?_)
  have M := K.b
  show g 0 0 (cSh 0 s) 0 [some (.ref 0), some (.int a0), none] []
  have loop_0 : ∀ (v1 : Int32) (n_ : Nat), (∀ (v2 : Int32) (s : ShT), f_X1_turnTimes_L0 v1 n_ v2 s = some r → g 0 0 (cSh 0 s) 2 [some (.ref 0), some (.int v1), some (.int v2)] []) := by
    intro v1 n_
    induction n_ with
    | zero => intro v2 s hf; cases hf
    | succ n_ ih =>
      intro v2 s hf
      rw [f_X1_turnTimes_L0] at hf
      refine m_run M (is := [(2, .iload_n 2, 0), (3, .iload_n 1, 0)]) (pc' := 4) (L' := [some (.ref 0), some (.int v1), some (.int v2)]) (st' := [.int v1, .int v2]) (w' := (cSh 0 s)) (by decide +kernel) rfl trivial ?_
      rcases ite_s hf with ⟨c_101, hf⟩ | ⟨c_101, hf⟩
      · refine m_jT M (i := .if_icmp .ge 14) 18 (by decide +kernel) rfl (by decide) c_101 ?_
        obtain rfl := Option.some.inj hf
        exact m_vret K (by decide +kernel) (Nat.zero_le _) (Nat.zero_le _) ⟨rfl, rfl⟩
      · refine m_jF M (i := .if_icmp .ge 14) 18 (by decide +kernel) rfl (by decide) c_101 ?_
        refine m_run M (is := [(7, .aload_n 0, 0)]) (pc' := 8) (L' := [some (.ref 0), some (.int v1), some (.int v2)]) (st' := [.ref 0]) (w' := (cSh 0 s)) (by decide +kernel) rfl trivial ?_
        obtain ⟨r102, h_102, hf⟩ := bnd_s hf
        refine m_cV0 M (rest := []) (w2 := (cSh 0 r102.2)) (st2 := [.int r102.1]) (run_X1_turn   s h_102) cv_X1_turn lk_X1_108 (by decide +kernel) [0, 1, 2, 3, 4, 5] (by decide) (Nat.le_of_ble_eq_true rfl) rfl rfl rfl (Nat.le_of_ble_eq_true rfl) ⟨by decide, by decide⟩ rfl rfl ⟨Nat.zero_le _, Nat.zero_le _⟩ rfl rfl ?_
        refine m_run M (is := [(11, .pop, 0), (12, .iinc 2 1, 1), (15, .goto (-13), 0)]) (pc' := 2) (L' := [some (.ref 0), some (.int v1), some (.int (v2 + 1))]) (st' := []) (w' := (cSh 0 r102.2)) (by decide +kernel) rfl trivial ?_
        exact ih (v2 + 1) r102.2 hf
  rw [f_X1_turnTimes] at hf
  refine m_run M (is := [(0, .iconst 0, 0), (1, .istore_n 2, 0)]) (pc' := 2) (L' := [some (.ref 0), some (.int a0), some (.int 0)]) (st' := []) (w' := (cSh 0 s)) (by decide +kernel) rfl trivial ?_
  exact loop_0 a0 fuel0 0 s hf

def f_X1_become (s : ShT) (o : ShT) : Option (ShT) :=
  if cpB 0 0 16 16 16 then
  if cpB 0 0 16 16 16 then
  if cpB 0 0 16 16 16 then
  if cpB 0 0 6 6 6 then
  if cpB 0 0 6 6 6 then
  some ((va_cpy o.1 s.1 (0 : Int32).toNatClampNeg (0 : Int32).toNatClampNeg (16 : Int32).toNatClampNeg), (va_cpy o.2.1 s.2.1 (0 : Int32).toNatClampNeg (0 : Int32).toNatClampNeg (16 : Int32).toNatClampNeg), (va_cpy o.2.2.1 s.2.2.1 (0 : Int32).toNatClampNeg (0 : Int32).toNatClampNeg (16 : Int32).toNatClampNeg), (va_cpy o.2.2.2.1 s.2.2.2.1 (0 : Int32).toNatClampNeg (0 : Int32).toNatClampNeg (6 : Int32).toNatClampNeg), (va_cpy o.2.2.2.2.1 s.2.2.2.2.1 (0 : Int32).toNatClampNeg (0 : Int32).toNatClampNeg (6 : Int32).toNatClampNeg), o.2.2.2.2.2.1, o.2.2.2.2.2.2.1, o.2.2.2.2.2.2.2.1, o.2.2.2.2.2.2.2.2.1, o.2.2.2.2.2.2.2.2.2)
  else none
  else none
  else none
  else none
  else none
set_option maxRecDepth 100000 in
set_option maxHeartbeats 4000000 in
theorem run_X1_become {l : Launch} {D : va_G} {cT : Nat → ClassId}   (s : ShT) (o : ShT) {r : ShT} (hf : f_X1_become s o = some r) : Runs l D cT yX1_become cX1_become 2 none 1 18 [.ref 0, .ref 6] ((cSh 0 s) ++ (cSh 6 o)) (EQ none ((cSh 0 r) ++ (cSh 6 o))) := by
  refine runs_of O_X1 okO_X1 (by decide +kernel) rfl rfl (Nat.le_of_ble_eq_true rfl) (fun g K => ?_)
  have M := K.b
  show g 0 0 ((cSh 0 s) ++ (cSh 6 o)) 0 [some (.ref 0), some (.ref 6)] []
  rw [f_X1_become] at hf
  refine m_run M (is := [(0, .aload_n 0, 0), (1, .aload_n 1, 0), (2, .getfield 31, 0), (5, .putfield 31, 0), (8, .aload_n 0, 0), (9, .aload_n 1, 0), (10, .getfield 34, 0), (13, .putfield 34, 0), (16, .aload_n 0, 0), (17, .aload_n 1, 0), (18, .getfield 37, 0), (21, .putfield 37, 0), (24, .aload_n 0, 0), (25, .aload_n 1, 0), (26, .getfield 40, 0), (29, .putfield 40, 0), (32, .aload_n 0, 0), (33, .aload_n 1, 0), (34, .getfield 27, 0), (37, .putfield 27, 0), (40, .aload_n 1, 0), (41, .getfield 9, 0), (44, .iconst 0, 0), (45, .aload_n 0, 0), (46, .getfield 9, 0), (49, .iconst 0, 0), (50, .bipush 16, 16)]) (pc' := 52) (L' := [some (.ref 0), some (.ref 6)]) (st' := [.int 16, .int 0, .ref 1, .int 0, .ref 7]) (w' := ((cSh 0 (s.1, s.2.1, s.2.2.1, s.2.2.2.1, s.2.2.2.2.1, o.2.2.2.2.2.1, o.2.2.2.2.2.2.1, o.2.2.2.2.2.2.2.1, o.2.2.2.2.2.2.2.2.1, o.2.2.2.2.2.2.2.2.2)) ++ (cSh 6 o))) (by decide +kernel) rfl trivial ?_
  obtain ⟨h_1001, hf⟩ := grd_s hf
  refine m_cpI M (w2 := ((cSh 0 ((va_cpy o.1 s.1 (0 : Int32).toNatClampNeg (0 : Int32).toNatClampNeg (16 : Int32).toNatClampNeg), s.2.1, s.2.2.1, s.2.2.2.1, s.2.2.2.2.1, o.2.2.2.2.2.1, o.2.2.2.2.2.2.1, o.2.2.2.2.2.2.2.1, o.2.2.2.2.2.2.2.2.1, o.2.2.2.2.2.2.2.2.2)) ++ (cSh 6 o))) cp_X1_43 rfl rfl h_1001 (by decide) (Nat.le_of_ble_eq_true rfl) (by decide +kernel) rfl ?_
  refine m_run M (is := [(55, .aload_n 1, 0), (56, .getfield 15, 0), (59, .iconst 0, 0), (60, .aload_n 0, 0), (61, .getfield 15, 0), (64, .iconst 0, 0), (65, .bipush 16, 16)]) (pc' := 67) (L' := [some (.ref 0), some (.ref 6)]) (st' := [.int 16, .int 0, .ref 2, .int 0, .ref 8]) (w' := ((cSh 0 ((va_cpy o.1 s.1 (0 : Int32).toNatClampNeg (0 : Int32).toNatClampNeg (16 : Int32).toNatClampNeg), s.2.1, s.2.2.1, s.2.2.2.1, s.2.2.2.2.1, o.2.2.2.2.2.1, o.2.2.2.2.2.2.1, o.2.2.2.2.2.2.2.1, o.2.2.2.2.2.2.2.2.1, o.2.2.2.2.2.2.2.2.2)) ++ (cSh 6 o))) (by decide +kernel) rfl trivial ?_
  obtain ⟨h_1002, hf⟩ := grd_s hf
  refine m_cpI M (w2 := ((cSh 0 ((va_cpy o.1 s.1 (0 : Int32).toNatClampNeg (0 : Int32).toNatClampNeg (16 : Int32).toNatClampNeg), (va_cpy o.2.1 s.2.1 (0 : Int32).toNatClampNeg (0 : Int32).toNatClampNeg (16 : Int32).toNatClampNeg), s.2.2.1, s.2.2.2.1, s.2.2.2.2.1, o.2.2.2.2.2.1, o.2.2.2.2.2.2.1, o.2.2.2.2.2.2.2.1, o.2.2.2.2.2.2.2.2.1, o.2.2.2.2.2.2.2.2.2)) ++ (cSh 6 o))) cp_X1_43 rfl rfl h_1002 (by decide) (Nat.le_of_ble_eq_true rfl) (by decide +kernel) rfl ?_
  refine m_run M (is := [(70, .aload_n 1, 0), (71, .getfield 18, 0), (74, .iconst 0, 0), (75, .aload_n 0, 0), (76, .getfield 18, 0), (79, .iconst 0, 0), (80, .bipush 16, 16)]) (pc' := 82) (L' := [some (.ref 0), some (.ref 6)]) (st' := [.int 16, .int 0, .ref 3, .int 0, .ref 9]) (w' := ((cSh 0 ((va_cpy o.1 s.1 (0 : Int32).toNatClampNeg (0 : Int32).toNatClampNeg (16 : Int32).toNatClampNeg), (va_cpy o.2.1 s.2.1 (0 : Int32).toNatClampNeg (0 : Int32).toNatClampNeg (16 : Int32).toNatClampNeg), s.2.2.1, s.2.2.2.1, s.2.2.2.2.1, o.2.2.2.2.2.1, o.2.2.2.2.2.2.1, o.2.2.2.2.2.2.2.1, o.2.2.2.2.2.2.2.2.1, o.2.2.2.2.2.2.2.2.2)) ++ (cSh 6 o))) (by decide +kernel) rfl trivial ?_
  obtain ⟨h_1003, hf⟩ := grd_s hf
  refine m_cpI M (w2 := ((cSh 0 ((va_cpy o.1 s.1 (0 : Int32).toNatClampNeg (0 : Int32).toNatClampNeg (16 : Int32).toNatClampNeg), (va_cpy o.2.1 s.2.1 (0 : Int32).toNatClampNeg (0 : Int32).toNatClampNeg (16 : Int32).toNatClampNeg), (va_cpy o.2.2.1 s.2.2.1 (0 : Int32).toNatClampNeg (0 : Int32).toNatClampNeg (16 : Int32).toNatClampNeg), s.2.2.2.1, s.2.2.2.2.1, o.2.2.2.2.2.1, o.2.2.2.2.2.2.1, o.2.2.2.2.2.2.2.1, o.2.2.2.2.2.2.2.2.1, o.2.2.2.2.2.2.2.2.2)) ++ (cSh 6 o))) cp_X1_43 rfl rfl h_1003 (by decide) (Nat.le_of_ble_eq_true rfl) (by decide +kernel) rfl ?_
  refine m_run M (is := [(85, .aload_n 1, 0), (86, .getfield 21, 0), (89, .iconst 0, 0), (90, .aload_n 0, 0), (91, .getfield 21, 0), (94, .iconst 0, 0), (95, .bipush 6, 6)]) (pc' := 97) (L' := [some (.ref 0), some (.ref 6)]) (st' := [.int 6, .int 0, .ref 4, .int 0, .ref 10]) (w' := ((cSh 0 ((va_cpy o.1 s.1 (0 : Int32).toNatClampNeg (0 : Int32).toNatClampNeg (16 : Int32).toNatClampNeg), (va_cpy o.2.1 s.2.1 (0 : Int32).toNatClampNeg (0 : Int32).toNatClampNeg (16 : Int32).toNatClampNeg), (va_cpy o.2.2.1 s.2.2.1 (0 : Int32).toNatClampNeg (0 : Int32).toNatClampNeg (16 : Int32).toNatClampNeg), s.2.2.2.1, s.2.2.2.2.1, o.2.2.2.2.2.1, o.2.2.2.2.2.2.1, o.2.2.2.2.2.2.2.1, o.2.2.2.2.2.2.2.2.1, o.2.2.2.2.2.2.2.2.2)) ++ (cSh 6 o))) (by decide +kernel) rfl trivial ?_
  obtain ⟨h_1004, hf⟩ := grd_s hf
  refine m_cpI M (w2 := ((cSh 0 ((va_cpy o.1 s.1 (0 : Int32).toNatClampNeg (0 : Int32).toNatClampNeg (16 : Int32).toNatClampNeg), (va_cpy o.2.1 s.2.1 (0 : Int32).toNatClampNeg (0 : Int32).toNatClampNeg (16 : Int32).toNatClampNeg), (va_cpy o.2.2.1 s.2.2.1 (0 : Int32).toNatClampNeg (0 : Int32).toNatClampNeg (16 : Int32).toNatClampNeg), (va_cpy o.2.2.2.1 s.2.2.2.1 (0 : Int32).toNatClampNeg (0 : Int32).toNatClampNeg (6 : Int32).toNatClampNeg), s.2.2.2.2.1, o.2.2.2.2.2.1, o.2.2.2.2.2.2.1, o.2.2.2.2.2.2.2.1, o.2.2.2.2.2.2.2.2.1, o.2.2.2.2.2.2.2.2.2)) ++ (cSh 6 o))) cp_X1_43 rfl rfl h_1004 (by decide) (Nat.le_of_ble_eq_true rfl) (by decide +kernel) rfl ?_
  refine m_run M (is := [(100, .aload_n 1, 0), (101, .getfield 24, 0), (104, .iconst 0, 0), (105, .aload_n 0, 0), (106, .getfield 24, 0), (109, .iconst 0, 0), (110, .bipush 6, 6)]) (pc' := 112) (L' := [some (.ref 0), some (.ref 6)]) (st' := [.int 6, .int 0, .ref 5, .int 0, .ref 11]) (w' := ((cSh 0 ((va_cpy o.1 s.1 (0 : Int32).toNatClampNeg (0 : Int32).toNatClampNeg (16 : Int32).toNatClampNeg), (va_cpy o.2.1 s.2.1 (0 : Int32).toNatClampNeg (0 : Int32).toNatClampNeg (16 : Int32).toNatClampNeg), (va_cpy o.2.2.1 s.2.2.1 (0 : Int32).toNatClampNeg (0 : Int32).toNatClampNeg (16 : Int32).toNatClampNeg), (va_cpy o.2.2.2.1 s.2.2.2.1 (0 : Int32).toNatClampNeg (0 : Int32).toNatClampNeg (6 : Int32).toNatClampNeg), s.2.2.2.2.1, o.2.2.2.2.2.1, o.2.2.2.2.2.2.1, o.2.2.2.2.2.2.2.1, o.2.2.2.2.2.2.2.2.1, o.2.2.2.2.2.2.2.2.2)) ++ (cSh 6 o))) (by decide +kernel) rfl trivial ?_
  obtain ⟨h_1005, hf⟩ := grd_s hf
  refine m_cpI M (w2 := ((cSh 0 ((va_cpy o.1 s.1 (0 : Int32).toNatClampNeg (0 : Int32).toNatClampNeg (16 : Int32).toNatClampNeg), (va_cpy o.2.1 s.2.1 (0 : Int32).toNatClampNeg (0 : Int32).toNatClampNeg (16 : Int32).toNatClampNeg), (va_cpy o.2.2.1 s.2.2.1 (0 : Int32).toNatClampNeg (0 : Int32).toNatClampNeg (16 : Int32).toNatClampNeg), (va_cpy o.2.2.2.1 s.2.2.2.1 (0 : Int32).toNatClampNeg (0 : Int32).toNatClampNeg (6 : Int32).toNatClampNeg), (va_cpy o.2.2.2.2.1 s.2.2.2.2.1 (0 : Int32).toNatClampNeg (0 : Int32).toNatClampNeg (6 : Int32).toNatClampNeg), o.2.2.2.2.2.1, o.2.2.2.2.2.2.1, o.2.2.2.2.2.2.2.1, o.2.2.2.2.2.2.2.2.1, o.2.2.2.2.2.2.2.2.2)) ++ (cSh 6 o))) cp_X1_43 rfl rfl h_1005 (by decide) (Nat.le_of_ble_eq_true rfl) (by decide +kernel) rfl ?_
  obtain rfl := Option.some.inj hf
  exact m_vret K (by decide +kernel) (Nat.zero_le _) (Nat.zero_le _) ⟨rfl, rfl⟩

def f_X1_standsLike_L0 (s : ShT) (o : ShT) : Nat → Int32 → Option (Int32)
  | 0, _ => none
  | n_ + 1, v2 =>
    if s.2.2.2.2.2.1 ≤ v2 then
      some 1
    else
      if inB v2 16 then
      if inB v2 16 then
      if (s.1 v2.toNatClampNeg) = (o.1 v2.toNatClampNeg) then
        f_X1_standsLike_L0 s o n_ (v2 + 1)
      else
        some 0
      else none
      else none
def f_X1_standsLike (s : ShT) (o : ShT) : Option (Int32) :=
  f_X1_standsLike_L0 s o fuel0 0
set_option maxRecDepth 100000 in
set_option maxHeartbeats 4000000 in
theorem run_X1_standsLike {l : Launch} {D : va_G} {cT : Nat → ClassId}   (s : ShT) (o : ShT) {r : Int32} (hf : f_X1_standsLike s o = some r) : Runs l D cT yX1_standsLike cX1_standsLike 3 (some .boolean) 0 0 [.ref 0, .ref 6] ((cSh 0 s) ++ (cSh 6 o)) (EQ (some (.int r)) ((cSh 0 s) ++ (cSh 6 o))) := by
  refine runs_of O_X1 okO_X1 (by decide +kernel) rfl rfl (Nat.le_of_ble_eq_true rfl) (fun g K => ?_)
  have M := K.b
  show g 0 0 ((cSh 0 s) ++ (cSh 6 o)) 0 [some (.ref 0), some (.ref 6), none] []
  have loop_0 : ∀ (n_ : Nat), (∀ (v2 : Int32), f_X1_standsLike_L0 s o n_ v2 = some r → g 0 0 ((cSh 0 s) ++ (cSh 6 o)) 2 [some (.ref 0), some (.ref 6), some (.int v2)] []) := by
    intro n_
    induction n_ with
    | zero => intro v2 hf; cases hf
    | succ n_ ih =>
      intro v2 hf
      rw [f_X1_standsLike_L0] at hf
      refine m_run M (is := [(2, .iload_n 2, 0), (3, .aload_n 0, 0), (4, .getfield 31, 0)]) (pc' := 7) (L' := [some (.ref 0), some (.ref 6), some (.int v2)]) (st' := [.int s.2.2.2.2.2.1, .int v2]) (w' := ((cSh 0 s) ++ (cSh 6 o))) (by decide +kernel) rfl trivial ?_
      rcases ite_s hf with ⟨c_101, hf⟩ | ⟨c_101, hf⟩
      · refine m_jT M (i := .if_icmp .ge 26) 33 (by decide +kernel) rfl (by decide) c_101 ?_
        refine m_run M (is := [(33, .iconst 1, 1)]) (pc' := 34) (L' := [some (.ref 0), some (.ref 6), some (.int v2)]) (st' := [.int 1]) (w' := ((cSh 0 s) ++ (cSh 6 o))) (by decide +kernel) rfl trivial ?_
        obtain rfl := Option.some.inj hf
        exact m_zret K (by decide +kernel) (Or.inr rfl) (Nat.zero_le _) (Nat.zero_le _) ⟨rfl, rfl⟩
      · refine m_jF M (i := .if_icmp .ge 26) 33 (by decide +kernel) rfl (by decide) c_101 ?_
        obtain ⟨h_102, hf⟩ := grd_s hf
        obtain ⟨h_103, hf⟩ := grd_s hf
        refine m_run M (is := [(10, .aload_n 0, 0), (11, .getfield 9, 0), (14, .iload_n 2, 0), (15, .iaload, 0), (16, .aload_n 1, 0), (17, .getfield 9, 0), (20, .iload_n 2, 0), (21, .iaload, 0)]) (pc' := 22) (L' := [some (.ref 0), some (.ref 6), some (.int v2)]) (st' := [.int (o.1 v2.toNatClampNeg), .int (s.1 v2.toNatClampNeg)]) (w' := ((cSh 0 s) ++ (cSh 6 o))) (by decide +kernel) rfl ⟨inB_use h_102, inB_use h_103, trivial⟩ ?_
        rcases ite_s hf with ⟨c_104, hf⟩ | ⟨c_104, hf⟩
        · refine m_jT M (i := .if_icmp .eq 5) 27 (by decide +kernel) rfl (by decide) c_104 ?_
          refine m_run M (is := [(27, .iinc 2 1, 1), (30, .goto (-28), 0)]) (pc' := 2) (L' := [some (.ref 0), some (.ref 6), some (.int (v2 + 1))]) (st' := []) (w' := ((cSh 0 s) ++ (cSh 6 o))) (by decide +kernel) rfl trivial ?_
          exact ih (v2 + 1) hf
        · refine m_jF M (i := .if_icmp .eq 5) 27 (by decide +kernel) rfl (by decide) c_104 ?_
          refine m_run M (is := [(25, .iconst 0, 0)]) (pc' := 26) (L' := [some (.ref 0), some (.ref 6), some (.int v2)]) (st' := [.int 0]) (w' := ((cSh 0 s) ++ (cSh 6 o))) (by decide +kernel) rfl trivial ?_
          obtain rfl := Option.some.inj hf
          exact m_zret K (by decide +kernel) (Or.inl rfl) (Nat.zero_le _) (Nat.zero_le _) ⟨rfl, rfl⟩
  rw [f_X1_standsLike] at hf
  refine m_run M (is := [(0, .iconst 0, 0), (1, .istore_n 2, 0)]) (pc' := 2) (L' := [some (.ref 0), some (.ref 6), some (.int 0)]) (st' := []) (w' := ((cSh 0 s) ++ (cSh 6 o))) (by decide +kernel) rfl trivial ?_
  exact loop_0 fuel0 0 hf
end
section
theorem zz_c (s : ShT) (a0 : Int32) : aR O_X1 [(0, .aload_n 0, 0), (1, .aload_n 0, 0), (2, .getfield 27, 0), (5, .ldc 112, 0), (7, .imul, 0), (8, .sipush 12345, 12345), (11, .iadd, 0)] (0, [some (.ref 0), some (.int a0)], [], cSh 0 s) = some (True, 12, [some (.ref 0), some (.int a0)], [.int ((s.2.2.2.2.2.2.2.2.2 * 1103515245) + 12345), .ref 0], cSh 0 s) := rfl
theorem zz_d (s : ShT) (a0 : Int32) : aR O_X1 [(0, .aload_n 0, 0), (1, .aload_n 0, 0), (2, .getfield 27, 0), (5, .ldc 112, 0), (7, .imul, 0), (8, .sipush 12345, 12345), (11, .iadd, 0), (12, .putfield 27, 0)] (0, [some (.ref 0), some (.int a0)], [], cSh 0 s) = some (True, 15, [some (.ref 0), some (.int a0)], [], cSh 0 (s.1, s.2.1, s.2.2.1, s.2.2.2.1, s.2.2.2.2.1, s.2.2.2.2.2.1, s.2.2.2.2.2.2.1, s.2.2.2.2.2.2.2.1, s.2.2.2.2.2.2.2.2.1, ((s.2.2.2.2.2.2.2.2.2 * 1103515245) + 12345))) := rfl
theorem zz_e (a0 E : Int32) (s : ShT) : aR O_X1 [(19, .aload_n 0, 0), (20, .getfield 27, 0), (23, .bipush 16, 16), (25, .iushr, 0), (26, .iload_n 1, 0), (27, .irem, 0), (28, .goto 4, 0)] (19, [some (.ref 0), some (.int a0)], [], cSh 0 (s.1, s.2.1, s.2.2.1, s.2.2.2.1, s.2.2.2.2.1, s.2.2.2.2.2.1, s.2.2.2.2.2.2.1, s.2.2.2.2.2.2.2.1, s.2.2.2.2.2.2.2.2.1, E)) = some (¬ a0 = 0 ∧ True, 32, [some (.ref 0), some (.int a0)], [.int ((((E.toUInt32 >>> ((16 : Int32).toUInt32 &&& Int32.toUInt32 31)).toInt32) - ((E.toUInt32 >>> ((16 : Int32).toUInt32 &&& Int32.toUInt32 31)).toInt32) / a0 * a0))], cSh 0 (s.1, s.2.1, s.2.2.1, s.2.2.2.1, s.2.2.2.2.1, s.2.2.2.2.2.1, s.2.2.2.2.2.2.1, s.2.2.2.2.2.2.2.1, s.2.2.2.2.2.2.2.2.1, E)) := rfl
end
