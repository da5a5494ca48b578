section
-- ===== PART A: goes FIRST, ahead of the names: the tables' words, and 'selects' of the private methods out of them =====
/-- a private method of a class that the tables say can be made, by its rows of tables_1 -/
def lw_okq (q : MethodName × Nat) : Prop := (q.1.cls ≠ "java/lang/invoke/MethodHandle" ∧ q.1.cls ≠ "java/lang/invoke/VarHandle") ∧ Cond.instantiable q.1.cls q.2 ∈ tables_1 ∧ Cond.privateMethod q.1 ∈ tables_1 ∧ Cond.instanceMethod q.1 ∈ tables_1
theorem lw_p0 : lw_okq (⟨"HotPennies", "rowAt", "(I)LHotPennies$Row;"⟩, 15) := ⟨⟨by decide +kernel, by decide +kernel⟩, List.mem_of_getElem? (i := 19) (by decide +kernel), List.mem_of_getElem? (i := 238) (by decide +kernel), List.mem_of_getElem? (i := 239) (by decide +kernel)⟩
theorem lw_p1 : lw_okq (⟨"HotPennies", "found", "(I)I"⟩, 15) := ⟨⟨by decide +kernel, by decide +kernel⟩, List.mem_of_getElem? (i := 19) (by decide +kernel), List.mem_of_getElem? (i := 243) (by decide +kernel), List.mem_of_getElem? (i := 244) (by decide +kernel)⟩
theorem lw_p2 : lw_okq (⟨"HotPennies$Row", "begin", "(II)V"⟩, 3) := ⟨⟨by decide +kernel, by decide +kernel⟩, List.mem_of_getElem? (i := 169) (by decide +kernel), List.mem_of_getElem? (i := 248) (by decide +kernel), List.mem_of_getElem? (i := 249) (by decide +kernel)⟩
theorem lw_p3 : lw_okq (⟨"HotPennies", "nothingFound", "(I)I"⟩, 15) := ⟨⟨by decide +kernel, by decide +kernel⟩, List.mem_of_getElem? (i := 19) (by decide +kernel), List.mem_of_getElem? (i := 255) (by decide +kernel), List.mem_of_getElem? (i := 256) (by decide +kernel)⟩
theorem lw_p4 : lw_okq (⟨"HotPennies$Row", "isMissing", "()Z"⟩, 3) := ⟨⟨by decide +kernel, by decide +kernel⟩, List.mem_of_getElem? (i := 169) (by decide +kernel), List.mem_of_getElem? (i := 263) (by decide +kernel), List.mem_of_getElem? (i := 264) (by decide +kernel)⟩
theorem lw_p5 : lw_okq (⟨"HotPennies$Row", "holds", "(II)Z"⟩, 3) := ⟨⟨by decide +kernel, by decide +kernel⟩, List.mem_of_getElem? (i := 169) (by decide +kernel), List.mem_of_getElem? (i := 267) (by decide +kernel), List.mem_of_getElem? (i := 268) (by decide +kernel)⟩
theorem lw_p6 : lw_okq (⟨"HotPennies$Row", "put", "(II)I"⟩, 3) := ⟨⟨by decide +kernel, by decide +kernel⟩, List.mem_of_getElem? (i := 169) (by decide +kernel), List.mem_of_getElem? (i := 271) (by decide +kernel), List.mem_of_getElem? (i := 272) (by decide +kernel)⟩
theorem lw_p7 : lw_okq (⟨"HotPennies$Tape", "hasRoomFor", "(I)Z"⟩, 7) := ⟨⟨by decide +kernel, by decide +kernel⟩, List.mem_of_getElem? (i := 29) (by decide +kernel), List.mem_of_getElem? (i := 290) (by decide +kernel), List.mem_of_getElem? (i := 291) (by decide +kernel)⟩
theorem lw_p8 : lw_okq (⟨"HotPennies$Tape", "add", "(I)V"⟩, 7) := ⟨⟨by decide +kernel, by decide +kernel⟩, List.mem_of_getElem? (i := 29) (by decide +kernel), List.mem_of_getElem? (i := 295) (by decide +kernel), List.mem_of_getElem? (i := 296) (by decide +kernel)⟩
theorem lw_p9 : lw_okq (⟨"HotPennies$Square", "clear", "()V"⟩, 5) := ⟨⟨by decide +kernel, by decide +kernel⟩, List.mem_of_getElem? (i := 61) (by decide +kernel), List.mem_of_getElem? (i := 303) (by decide +kernel), List.mem_of_getElem? (i := 304) (by decide +kernel)⟩
theorem lw_p10 : lw_okq (⟨"HotPennies$Tape", "read", "(LHotPennies$Square;)Z"⟩, 7) := ⟨⟨by decide +kernel, by decide +kernel⟩, List.mem_of_getElem? (i := 29) (by decide +kernel), List.mem_of_getElem? (i := 307) (by decide +kernel), List.mem_of_getElem? (i := 308) (by decide +kernel)⟩
theorem lw_p11 : lw_okq (⟨"HotPennies$Tape", "step", "()V"⟩, 7) := ⟨⟨by decide +kernel, by decide +kernel⟩, List.mem_of_getElem? (i := 29) (by decide +kernel), List.mem_of_getElem? (i := 311) (by decide +kernel), List.mem_of_getElem? (i := 312) (by decide +kernel)⟩
theorem lw_p12 : lw_okq (⟨"HotPennies$Tape", "byteAt", "(I)I"⟩, 7) := ⟨⟨by decide +kernel, by decide +kernel⟩, List.mem_of_getElem? (i := 29) (by decide +kernel), List.mem_of_getElem? (i := 315) (by decide +kernel), List.mem_of_getElem? (i := 316) (by decide +kernel)⟩
theorem lw_p13 : lw_okq (⟨"HotPennies$Tape", "stepName", "()V"⟩, 7) := ⟨⟨by decide +kernel, by decide +kernel⟩, List.mem_of_getElem? (i := 29) (by decide +kernel), List.mem_of_getElem? (i := 322) (by decide +kernel), List.mem_of_getElem? (i := 323) (by decide +kernel)⟩
theorem lw_p14 : lw_okq (⟨"HotPennies$Tape", "stepNumber", "()V"⟩, 7) := ⟨⟨by decide +kernel, by decide +kernel⟩, List.mem_of_getElem? (i := 29) (by decide +kernel), List.mem_of_getElem? (i := 329) (by decide +kernel), List.mem_of_getElem? (i := 330) (by decide +kernel)⟩
theorem lw_p15 : lw_okq (⟨"HotPennies$Tape", "readLaw", "(LHotPennies$Square;)Z"⟩, 7) := ⟨⟨by decide +kernel, by decide +kernel⟩, List.mem_of_getElem? (i := 29) (by decide +kernel), List.mem_of_getElem? (i := 333) (by decide +kernel), List.mem_of_getElem? (i := 334) (by decide +kernel)⟩
def lw_privs_1 : List (MethodName × Nat) := [(⟨"HotPennies", "rowAt", "(I)LHotPennies$Row;"⟩, 15), (⟨"HotPennies", "found", "(I)I"⟩, 15), (⟨"HotPennies$Row", "begin", "(II)V"⟩, 3), (⟨"HotPennies", "nothingFound", "(I)I"⟩, 15), (⟨"HotPennies$Row", "isMissing", "()Z"⟩, 3), (⟨"HotPennies$Row", "holds", "(II)Z"⟩, 3), (⟨"HotPennies$Row", "put", "(II)I"⟩, 3), (⟨"HotPennies$Tape", "hasRoomFor", "(I)Z"⟩, 7), (⟨"HotPennies$Tape", "add", "(I)V"⟩, 7), (⟨"HotPennies$Square", "clear", "()V"⟩, 5), (⟨"HotPennies$Tape", "read", "(LHotPennies$Square;)Z"⟩, 7), (⟨"HotPennies$Tape", "step", "()V"⟩, 7), (⟨"HotPennies$Tape", "byteAt", "(I)I"⟩, 7), (⟨"HotPennies$Tape", "stepName", "()V"⟩, 7), (⟨"HotPennies$Tape", "stepNumber", "()V"⟩, 7), (⟨"HotPennies$Tape", "readLaw", "(LHotPennies$Square;)Z"⟩, 7)]
theorem lw_r1 : ∀ q ∈ lw_privs_1, lw_okq q := List.forall_mem_cons.mpr ⟨lw_p0, List.forall_mem_cons.mpr ⟨lw_p1, List.forall_mem_cons.mpr ⟨lw_p2, List.forall_mem_cons.mpr ⟨lw_p3, List.forall_mem_cons.mpr ⟨lw_p4, List.forall_mem_cons.mpr ⟨lw_p5, List.forall_mem_cons.mpr ⟨lw_p6, List.forall_mem_cons.mpr ⟨lw_p7, List.forall_mem_cons.mpr ⟨lw_p8, List.forall_mem_cons.mpr ⟨lw_p9, List.forall_mem_cons.mpr ⟨lw_p10, List.forall_mem_cons.mpr ⟨lw_p11, List.forall_mem_cons.mpr ⟨lw_p12, List.forall_mem_cons.mpr ⟨lw_p13, List.forall_mem_cons.mpr ⟨lw_p14, List.forall_mem_cons.mpr ⟨lw_p15, fun _ h => absurd h List.not_mem_nil⟩⟩⟩⟩⟩⟩⟩⟩⟩⟩⟩⟩⟩⟩⟩⟩
theorem lw_p16 : lw_okq (⟨"HotPennies$Tape", "isName", "(Ljava/lang/String;)Z"⟩, 7) := ⟨⟨by decide +kernel, by decide +kernel⟩, List.mem_of_getElem? (i := 29) (by decide +kernel), List.mem_of_getElem? (i := 338) (by decide +kernel), List.mem_of_getElem? (i := 339) (by decide +kernel)⟩
theorem lw_p17 : lw_okq (⟨"HotPennies$Tape", "refuse", "(I)Z"⟩, 7) := ⟨⟨by decide +kernel, by decide +kernel⟩, List.mem_of_getElem? (i := 29) (by decide +kernel), List.mem_of_getElem? (i := 390) (by decide +kernel), List.mem_of_getElem? (i := 391) (by decide +kernel)⟩
theorem lw_p18 : lw_okq (⟨"HotPennies$Tape", "takeNumber", "(II)Z"⟩, 7) := ⟨⟨by decide +kernel, by decide +kernel⟩, List.mem_of_getElem? (i := 29) (by decide +kernel), List.mem_of_getElem? (i := 394) (by decide +kernel), List.mem_of_getElem? (i := 395) (by decide +kernel)⟩
theorem lw_p19 : lw_okq (⟨"HotPennies$Tape", "takeEnd", "()Z"⟩, 7) := ⟨⟨by decide +kernel, by decide +kernel⟩, List.mem_of_getElem? (i := 29) (by decide +kernel), List.mem_of_getElem? (i := 398) (by decide +kernel), List.mem_of_getElem? (i := 399) (by decide +kernel)⟩
theorem lw_p20 : lw_okq (⟨"HotPennies$Tape", "readDrain", "(LHotPennies$Square;)Z"⟩, 7) := ⟨⟨by decide +kernel, by decide +kernel⟩, List.mem_of_getElem? (i := 29) (by decide +kernel), List.mem_of_getElem? (i := 403) (by decide +kernel), List.mem_of_getElem? (i := 404) (by decide +kernel)⟩
theorem lw_p21 : lw_okq (⟨"HotPennies$Tape", "takeCell", "()Z"⟩, 7) := ⟨⟨by decide +kernel, by decide +kernel⟩, List.mem_of_getElem? (i := 29) (by decide +kernel), List.mem_of_getElem? (i := 407) (by decide +kernel), List.mem_of_getElem? (i := 408) (by decide +kernel)⟩
theorem lw_p22 : lw_okq (⟨"HotPennies$Tape", "readChild", "(LHotPennies$Square;)Z"⟩, 7) := ⟨⟨by decide +kernel, by decide +kernel⟩, List.mem_of_getElem? (i := 29) (by decide +kernel), List.mem_of_getElem? (i := 412) (by decide +kernel), List.mem_of_getElem? (i := 413) (by decide +kernel)⟩
theorem lw_p23 : lw_okq (⟨"HotPennies$Tape", "kindNamed", "()I"⟩, 7) := ⟨⟨by decide +kernel, by decide +kernel⟩, List.mem_of_getElem? (i := 29) (by decide +kernel), List.mem_of_getElem? (i := 416) (by decide +kernel), List.mem_of_getElem? (i := 417) (by decide +kernel)⟩
theorem lw_p24 : lw_okq (⟨"HotPennies$Square", "addChild", "(III)V"⟩, 5) := ⟨⟨by decide +kernel, by decide +kernel⟩, List.mem_of_getElem? (i := 61) (by decide +kernel), List.mem_of_getElem? (i := 426) (by decide +kernel), List.mem_of_getElem? (i := 427) (by decide +kernel)⟩
theorem lw_p25 : lw_okq (⟨"HotPennies$Square", "at", "(I)LHotPennies$Child;"⟩, 5) := ⟨⟨by decide +kernel, by decide +kernel⟩, List.mem_of_getElem? (i := 61) (by decide +kernel), List.mem_of_getElem? (i := 430) (by decide +kernel), List.mem_of_getElem? (i := 431) (by decide +kernel)⟩
theorem lw_p26 : lw_okq (⟨"HotPennies$Square", "takeFrom", "(LHotPennies$Square;)V"⟩, 5) := ⟨⟨by decide +kernel, by decide +kernel⟩, List.mem_of_getElem? (i := 61) (by decide +kernel), List.mem_of_getElem? (i := 435) (by decide +kernel), List.mem_of_getElem? (i := 436) (by decide +kernel)⟩
theorem lw_p27 : lw_okq (⟨"HotPennies$Child", "takeFrom", "(LHotPennies$Child;)V"⟩, 5) := ⟨⟨by decide +kernel, by decide +kernel⟩, List.mem_of_getElem? (i := 68) (by decide +kernel), List.mem_of_getElem? (i := 439) (by decide +kernel), List.mem_of_getElem? (i := 440) (by decide +kernel)⟩
theorem lw_p28 : lw_okq (⟨"HotPennies$Square", "mostPennies", "()I"⟩, 5) := ⟨⟨by decide +kernel, by decide +kernel⟩, List.mem_of_getElem? (i := 61) (by decide +kernel), List.mem_of_getElem? (i := 460) (by decide +kernel), List.mem_of_getElem? (i := 461) (by decide +kernel)⟩
theorem lw_p29 : lw_okq (⟨"HotPennies$Acts", "keep", "(LHotPennies$Square;)V"⟩, 2) := ⟨⟨by decide +kernel, by decide +kernel⟩, List.mem_of_getElem? (i := 126) (by decide +kernel), List.mem_of_getElem? (i := 467) (by decide +kernel), List.mem_of_getElem? (i := 468) (by decide +kernel)⟩
theorem lw_p30 : lw_okq (⟨"HotPennies$Acts", "forgetOldest", "()V"⟩, 2) := ⟨⟨by decide +kernel, by decide +kernel⟩, List.mem_of_getElem? (i := 126) (by decide +kernel), List.mem_of_getElem? (i := 471) (by decide +kernel), List.mem_of_getElem? (i := 472) (by decide +kernel)⟩
theorem lw_p31 : lw_okq (⟨"HotPennies$Acts", "at", "(I)LHotPennies$Square;"⟩, 2) := ⟨⟨by decide +kernel, by decide +kernel⟩, List.mem_of_getElem? (i := 126) (by decide +kernel), List.mem_of_getElem? (i := 475) (by decide +kernel), List.mem_of_getElem? (i := 476) (by decide +kernel)⟩
def lw_privs_2 : List (MethodName × Nat) := [(⟨"HotPennies$Tape", "isName", "(Ljava/lang/String;)Z"⟩, 7), (⟨"HotPennies$Tape", "refuse", "(I)Z"⟩, 7), (⟨"HotPennies$Tape", "takeNumber", "(II)Z"⟩, 7), (⟨"HotPennies$Tape", "takeEnd", "()Z"⟩, 7), (⟨"HotPennies$Tape", "readDrain", "(LHotPennies$Square;)Z"⟩, 7), (⟨"HotPennies$Tape", "takeCell", "()Z"⟩, 7), (⟨"HotPennies$Tape", "readChild", "(LHotPennies$Square;)Z"⟩, 7), (⟨"HotPennies$Tape", "kindNamed", "()I"⟩, 7), (⟨"HotPennies$Square", "addChild", "(III)V"⟩, 5), (⟨"HotPennies$Square", "at", "(I)LHotPennies$Child;"⟩, 5), (⟨"HotPennies$Square", "takeFrom", "(LHotPennies$Square;)V"⟩, 5), (⟨"HotPennies$Child", "takeFrom", "(LHotPennies$Child;)V"⟩, 5), (⟨"HotPennies$Square", "mostPennies", "()I"⟩, 5), (⟨"HotPennies$Acts", "keep", "(LHotPennies$Square;)V"⟩, 2), (⟨"HotPennies$Acts", "forgetOldest", "()V"⟩, 2), (⟨"HotPennies$Acts", "at", "(I)LHotPennies$Square;"⟩, 2)]
theorem lw_r2 : ∀ q ∈ lw_privs_2, lw_okq q := List.forall_mem_cons.mpr ⟨lw_p16, List.forall_mem_cons.mpr ⟨lw_p17, List.forall_mem_cons.mpr ⟨lw_p18, List.forall_mem_cons.mpr ⟨lw_p19, List.forall_mem_cons.mpr ⟨lw_p20, List.forall_mem_cons.mpr ⟨lw_p21, List.forall_mem_cons.mpr ⟨lw_p22, List.forall_mem_cons.mpr ⟨lw_p23, List.forall_mem_cons.mpr ⟨lw_p24, List.forall_mem_cons.mpr ⟨lw_p25, List.forall_mem_cons.mpr ⟨lw_p26, List.forall_mem_cons.mpr ⟨lw_p27, List.forall_mem_cons.mpr ⟨lw_p28, List.forall_mem_cons.mpr ⟨lw_p29, List.forall_mem_cons.mpr ⟨lw_p30, List.forall_mem_cons.mpr ⟨lw_p31, fun _ h => absurd h List.not_mem_nil⟩⟩⟩⟩⟩⟩⟩⟩⟩⟩⟩⟩⟩⟩⟩⟩
theorem lw_p32 : lw_okq (⟨"HotPennies$Landing", "throwAt", "(II)V"⟩, 2) := ⟨⟨by decide +kernel, by decide +kernel⟩, List.mem_of_getElem? (i := 142) (by decide +kernel), List.mem_of_getElem? (i := 480) (by decide +kernel), List.mem_of_getElem? (i := 481) (by decide +kernel)⟩
theorem lw_p33 : lw_okq (⟨"HotPennies$Landing", "add", "(I)V"⟩, 2) := ⟨⟨by decide +kernel, by decide +kernel⟩, List.mem_of_getElem? (i := 142) (by decide +kernel), List.mem_of_getElem? (i := 493) (by decide +kernel), List.mem_of_getElem? (i := 494) (by decide +kernel)⟩
theorem lw_p34 : lw_okq (⟨"HotPennies", "throwPennies", "(II)I"⟩, 15) := ⟨⟨by decide +kernel, by decide +kernel⟩, List.mem_of_getElem? (i := 19) (by decide +kernel), List.mem_of_getElem? (i := 497) (by decide +kernel), List.mem_of_getElem? (i := 498) (by decide +kernel)⟩
theorem lw_p35 : lw_okq (⟨"HotPennies$Landing", "landBy", "(J)I"⟩, 2) := ⟨⟨by decide +kernel, by decide +kernel⟩, List.mem_of_getElem? (i := 142) (by decide +kernel), List.mem_of_getElem? (i := 503) (by decide +kernel), List.mem_of_getElem? (i := 504) (by decide +kernel)⟩
theorem lw_p36 : lw_okq (⟨"HotPennies$Landing", "landAt", "(I)I"⟩, 2) := ⟨⟨by decide +kernel, by decide +kernel⟩, List.mem_of_getElem? (i := 142) (by decide +kernel), List.mem_of_getElem? (i := 507) (by decide +kernel), List.mem_of_getElem? (i := 508) (by decide +kernel)⟩
theorem lw_p37 : lw_okq (⟨"HotPennies$Square", "pickerAt", "(I)I"⟩, 5) := ⟨⟨by decide +kernel, by decide +kernel⟩, List.mem_of_getElem? (i := 61) (by decide +kernel), List.mem_of_getElem? (i := 511) (by decide +kernel), List.mem_of_getElem? (i := 512) (by decide +kernel)⟩
theorem lw_p38 : lw_okq (⟨"HotPennies$Square", "isDry", "(I)Z"⟩, 5) := ⟨⟨by decide +kernel, by decide +kernel⟩, List.mem_of_getElem? (i := 61) (by decide +kernel), List.mem_of_getElem? (i := 515) (by decide +kernel), List.mem_of_getElem? (i := 516) (by decide +kernel)⟩
theorem lw_p39 : lw_okq (⟨"HotPennies$Child", "powerBy", "(II)I"⟩, 5) := ⟨⟨by decide +kernel, by decide +kernel⟩, List.mem_of_getElem? (i := 68) (by decide +kernel), List.mem_of_getElem? (i := 524) (by decide +kernel), List.mem_of_getElem? (i := 525) (by decide +kernel)⟩
theorem lw_p40 : lw_okq (⟨"HotPennies$Child", "might", "()I"⟩, 5) := ⟨⟨by decide +kernel, by decide +kernel⟩, List.mem_of_getElem? (i := 68) (by decide +kernel), List.mem_of_getElem? (i := 529) (by decide +kernel), List.mem_of_getElem? (i := 530) (by decide +kernel)⟩
theorem lw_p41 : lw_okq (⟨"HotPennies$Acts", "takeBack", "(LHotPennies$Square;)Z"⟩, 2) := ⟨⟨by decide +kernel, by decide +kernel⟩, List.mem_of_getElem? (i := 126) (by decide +kernel), List.mem_of_getElem? (i := 548) (by decide +kernel), List.mem_of_getElem? (i := 549) (by decide +kernel)⟩
theorem lw_p42 : lw_okq (⟨"HotPennies$Landing", "countPickedBy", "(LHotPennies$Square;I)I"⟩, 2) := ⟨⟨by decide +kernel, by decide +kernel⟩, List.mem_of_getElem? (i := 142) (by decide +kernel), List.mem_of_getElem? (i := 574) (by decide +kernel), List.mem_of_getElem? (i := 575) (by decide +kernel)⟩
theorem lw_p43 : lw_okq (⟨"HotPennies", "bestCell", "(LHotPennies$Square;I)I"⟩, 15) := ⟨⟨by decide +kernel, by decide +kernel⟩, List.mem_of_getElem? (i := 19) (by decide +kernel), List.mem_of_getElem? (i := 593) (by decide +kernel), List.mem_of_getElem? (i := 594) (by decide +kernel)⟩
theorem lw_p44 : lw_okq (⟨"HotPennies$Landing", "weigh", "(LHotPennies$Square;II[I)V"⟩, 2) := ⟨⟨by decide +kernel, by decide +kernel⟩, List.mem_of_getElem? (i := 142) (by decide +kernel), List.mem_of_getElem? (i := 597) (by decide +kernel), List.mem_of_getElem? (i := 598) (by decide +kernel)⟩
theorem lw_p45 : lw_okq (⟨"HotPennies$Square", "powerNeeded", "(III)I"⟩, 5) := ⟨⟨by decide +kernel, by decide +kernel⟩, List.mem_of_getElem? (i := 61) (by decide +kernel), List.mem_of_getElem? (i := 603) (by decide +kernel), List.mem_of_getElem? (i := 604) (by decide +kernel)⟩
theorem lw_p46 : lw_okq (⟨"HotPennies", "bestPair", "()I"⟩, 15) := ⟨⟨by decide +kernel, by decide +kernel⟩, List.mem_of_getElem? (i := 19) (by decide +kernel), List.mem_of_getElem? (i := 622) (by decide +kernel), List.mem_of_getElem? (i := 623) (by decide +kernel)⟩
theorem lw_p47 : lw_okq (⟨"HotPennies", "settle", "()I"⟩, 15) := ⟨⟨by decide +kernel, by decide +kernel⟩, List.mem_of_getElem? (i := 19) (by decide +kernel), List.mem_of_getElem? (i := 630) (by decide +kernel), List.mem_of_getElem? (i := 631) (by decide +kernel)⟩
def lw_privs_3 : List (MethodName × Nat) := [(⟨"HotPennies$Landing", "throwAt", "(II)V"⟩, 2), (⟨"HotPennies$Landing", "add", "(I)V"⟩, 2), (⟨"HotPennies", "throwPennies", "(II)I"⟩, 15), (⟨"HotPennies$Landing", "landBy", "(J)I"⟩, 2), (⟨"HotPennies$Landing", "landAt", "(I)I"⟩, 2), (⟨"HotPennies$Square", "pickerAt", "(I)I"⟩, 5), (⟨"HotPennies$Square", "isDry", "(I)Z"⟩, 5), (⟨"HotPennies$Child", "powerBy", "(II)I"⟩, 5), (⟨"HotPennies$Child", "might", "()I"⟩, 5), (⟨"HotPennies$Acts", "takeBack", "(LHotPennies$Square;)Z"⟩, 2), (⟨"HotPennies$Landing", "countPickedBy", "(LHotPennies$Square;I)I"⟩, 2), (⟨"HotPennies", "bestCell", "(LHotPennies$Square;I)I"⟩, 15), (⟨"HotPennies$Landing", "weigh", "(LHotPennies$Square;II[I)V"⟩, 2), (⟨"HotPennies$Square", "powerNeeded", "(III)I"⟩, 5), (⟨"HotPennies", "bestPair", "()I"⟩, 15), (⟨"HotPennies", "settle", "()I"⟩, 15)]
theorem lw_r3 : ∀ q ∈ lw_privs_3, lw_okq q := List.forall_mem_cons.mpr ⟨lw_p32, List.forall_mem_cons.mpr ⟨lw_p33, List.forall_mem_cons.mpr ⟨lw_p34, List.forall_mem_cons.mpr ⟨lw_p35, List.forall_mem_cons.mpr ⟨lw_p36, List.forall_mem_cons.mpr ⟨lw_p37, List.forall_mem_cons.mpr ⟨lw_p38, List.forall_mem_cons.mpr ⟨lw_p39, List.forall_mem_cons.mpr ⟨lw_p40, List.forall_mem_cons.mpr ⟨lw_p41, List.forall_mem_cons.mpr ⟨lw_p42, List.forall_mem_cons.mpr ⟨lw_p43, List.forall_mem_cons.mpr ⟨lw_p44, List.forall_mem_cons.mpr ⟨lw_p45, List.forall_mem_cons.mpr ⟨lw_p46, List.forall_mem_cons.mpr ⟨lw_p47, fun _ h => absurd h List.not_mem_nil⟩⟩⟩⟩⟩⟩⟩⟩⟩⟩⟩⟩⟩⟩⟩⟩
theorem lw_p48 : lw_okq (⟨"HotPennies", "tellPleased", "(I)V"⟩, 15) := ⟨⟨by decide +kernel, by decide +kernel⟩, List.mem_of_getElem? (i := 19) (by decide +kernel), List.mem_of_getElem? (i := 638) (by decide +kernel), List.mem_of_getElem? (i := 639) (by decide +kernel)⟩
theorem lw_p49 : lw_okq (⟨"HotPennies$Landing", "pickers", "(LHotPennies$Square;)I"⟩, 2) := ⟨⟨by decide +kernel, by decide +kernel⟩, List.mem_of_getElem? (i := 142) (by decide +kernel), List.mem_of_getElem? (i := 642) (by decide +kernel), List.mem_of_getElem? (i := 643) (by decide +kernel)⟩
theorem lw_p50 : lw_okq (⟨"HotPennies", "fewestThrows", "(I)I"⟩, 15) := ⟨⟨by decide +kernel, by decide +kernel⟩, List.mem_of_getElem? (i := 19) (by decide +kernel), List.mem_of_getElem? (i := 650) (by decide +kernel), List.mem_of_getElem? (i := 651) (by decide +kernel)⟩
theorem lw_p51 : lw_okq (⟨"HotPennies", "chooseOne", "(IIII)Z"⟩, 15) := ⟨⟨by decide +kernel, by decide +kernel⟩, List.mem_of_getElem? (i := 19) (by decide +kernel), List.mem_of_getElem? (i := 654) (by decide +kernel), List.mem_of_getElem? (i := 655) (by decide +kernel)⟩
theorem lw_p52 : lw_okq (⟨"HotPennies", "choose", "(II)V"⟩, 15) := ⟨⟨by decide +kernel, by decide +kernel⟩, List.mem_of_getElem? (i := 19) (by decide +kernel), List.mem_of_getElem? (i := 659) (by decide +kernel), List.mem_of_getElem? (i := 660) (by decide +kernel)⟩
theorem lw_p53 : lw_okq (⟨"HotPennies", "chooseTwo", "(IIII)Z"⟩, 15) := ⟨⟨by decide +kernel, by decide +kernel⟩, List.mem_of_getElem? (i := 19) (by decide +kernel), List.mem_of_getElem? (i := 663) (by decide +kernel), List.mem_of_getElem? (i := 664) (by decide +kernel)⟩
theorem lw_p54 : lw_okq (⟨"HotPennies", "chooseThree", "(I)Z"⟩, 15) := ⟨⟨by decide +kernel, by decide +kernel⟩, List.mem_of_getElem? (i := 19) (by decide +kernel), List.mem_of_getElem? (i := 667) (by decide +kernel), List.mem_of_getElem? (i := 668) (by decide +kernel)⟩
theorem lw_p55 : lw_okq (⟨"HotPennies$Landing", "takeItems", "(LHotPennies$Row;II)Z"⟩, 2) := ⟨⟨by decide +kernel, by decide +kernel⟩, List.mem_of_getElem? (i := 142) (by decide +kernel), List.mem_of_getElem? (i := 679) (by decide +kernel), List.mem_of_getElem? (i := 680) (by decide +kernel)⟩
theorem lw_p56 : lw_okq (⟨"HotPennies$Row", "item", "(I)I"⟩, 3) := ⟨⟨by decide +kernel, by decide +kernel⟩, List.mem_of_getElem? (i := 169) (by decide +kernel), List.mem_of_getElem? (i := 683) (by decide +kernel), List.mem_of_getElem? (i := 684) (by decide +kernel)⟩
theorem lw_p57 : lw_okq (⟨"HotPennies", "cellsWith", "(I)I"⟩, 15) := ⟨⟨by decide +kernel, by decide +kernel⟩, List.mem_of_getElem? (i := 19) (by decide +kernel), List.mem_of_getElem? (i := 688) (by decide +kernel), List.mem_of_getElem? (i := 689) (by decide +kernel)⟩
theorem lw_p58 : lw_okq (⟨"HotPennies", "imageAt", "(I)LHotPennies$Square;"⟩, 15) := ⟨⟨by decide +kernel, by decide +kernel⟩, List.mem_of_getElem? (i := 19) (by decide +kernel), List.mem_of_getElem? (i := 696) (by decide +kernel), List.mem_of_getElem? (i := 697) (by decide +kernel)⟩
theorem lw_p59 : lw_okq (⟨"HotPennies$Child", "isOne", "(I)Z"⟩, 5) := ⟨⟨by decide +kernel, by decide +kernel⟩, List.mem_of_getElem? (i := 68) (by decide +kernel), List.mem_of_getElem? (i := 712) (by decide +kernel), List.mem_of_getElem? (i := 713) (by decide +kernel)⟩
theorem lw_p60 : lw_okq (⟨"HotPennies$Asks", "askSize", "(LHotPennies$Child;)I"⟩, 2) := ⟨⟨by decide +kernel, by decide +kernel⟩, List.mem_of_getElem? (i := 156) (by decide +kernel), List.mem_of_getElem? (i := 720) (by decide +kernel), List.mem_of_getElem? (i := 721) (by decide +kernel)⟩
theorem lw_p61 : lw_okq (⟨"HotPennies$Asks", "body11", "(LHotPennies$Child;)I"⟩, 2) := ⟨⟨by decide +kernel, by decide +kernel⟩, List.mem_of_getElem? (i := 156) (by decide +kernel), List.mem_of_getElem? (i := 724) (by decide +kernel), List.mem_of_getElem? (i := 725) (by decide +kernel)⟩
theorem lw_p62 : lw_okq (⟨"HotPennies$Asks", "begin", "(I)V"⟩, 2) := ⟨⟨by decide +kernel, by decide +kernel⟩, List.mem_of_getElem? (i := 156) (by decide +kernel), List.mem_of_getElem? (i := 728) (by decide +kernel), List.mem_of_getElem? (i := 729) (by decide +kernel)⟩
theorem lw_p63 : lw_okq (⟨"HotPennies$Asks", "body10", "(LHotPennies$Child;)I"⟩, 2) := ⟨⟨by decide +kernel, by decide +kernel⟩, List.mem_of_getElem? (i := 156) (by decide +kernel), List.mem_of_getElem? (i := 732) (by decide +kernel), List.mem_of_getElem? (i := 733) (by decide +kernel)⟩
def lw_privs_4 : List (MethodName × Nat) := [(⟨"HotPennies", "tellPleased", "(I)V"⟩, 15), (⟨"HotPennies$Landing", "pickers", "(LHotPennies$Square;)I"⟩, 2), (⟨"HotPennies", "fewestThrows", "(I)I"⟩, 15), (⟨"HotPennies", "chooseOne", "(IIII)Z"⟩, 15), (⟨"HotPennies", "choose", "(II)V"⟩, 15), (⟨"HotPennies", "chooseTwo", "(IIII)Z"⟩, 15), (⟨"HotPennies", "chooseThree", "(I)Z"⟩, 15), (⟨"HotPennies$Landing", "takeItems", "(LHotPennies$Row;II)Z"⟩, 2), (⟨"HotPennies$Row", "item", "(I)I"⟩, 3), (⟨"HotPennies", "cellsWith", "(I)I"⟩, 15), (⟨"HotPennies", "imageAt", "(I)LHotPennies$Square;"⟩, 15), (⟨"HotPennies$Child", "isOne", "(I)Z"⟩, 5), (⟨"HotPennies$Asks", "askSize", "(LHotPennies$Child;)I"⟩, 2), (⟨"HotPennies$Asks", "body11", "(LHotPennies$Child;)I"⟩, 2), (⟨"HotPennies$Asks", "begin", "(I)V"⟩, 2), (⟨"HotPennies$Asks", "body10", "(LHotPennies$Child;)I"⟩, 2)]
theorem lw_r4 : ∀ q ∈ lw_privs_4, lw_okq q := List.forall_mem_cons.mpr ⟨lw_p48, List.forall_mem_cons.mpr ⟨lw_p49, List.forall_mem_cons.mpr ⟨lw_p50, List.forall_mem_cons.mpr ⟨lw_p51, List.forall_mem_cons.mpr ⟨lw_p52, List.forall_mem_cons.mpr ⟨lw_p53, List.forall_mem_cons.mpr ⟨lw_p54, List.forall_mem_cons.mpr ⟨lw_p55, List.forall_mem_cons.mpr ⟨lw_p56, List.forall_mem_cons.mpr ⟨lw_p57, List.forall_mem_cons.mpr ⟨lw_p58, List.forall_mem_cons.mpr ⟨lw_p59, List.forall_mem_cons.mpr ⟨lw_p60, List.forall_mem_cons.mpr ⟨lw_p61, List.forall_mem_cons.mpr ⟨lw_p62, List.forall_mem_cons.mpr ⟨lw_p63, fun _ h => absurd h List.not_mem_nil⟩⟩⟩⟩⟩⟩⟩⟩⟩⟩⟩⟩⟩⟩⟩⟩
theorem lw_p64 : lw_okq (⟨"HotPennies$Asks", "askSmallMark", "(LHotPennies$Child;)I"⟩, 2) := ⟨⟨by decide +kernel, by decide +kernel⟩, List.mem_of_getElem? (i := 156) (by decide +kernel), List.mem_of_getElem? (i := 736) (by decide +kernel), List.mem_of_getElem? (i := 737) (by decide +kernel)⟩
theorem lw_p65 : lw_okq (⟨"HotPennies$Asks", "body21", "(LHotPennies$Child;)I"⟩, 2) := ⟨⟨by decide +kernel, by decide +kernel⟩, List.mem_of_getElem? (i := 156) (by decide +kernel), List.mem_of_getElem? (i := 740) (by decide +kernel), List.mem_of_getElem? (i := 741) (by decide +kernel)⟩
theorem lw_p66 : lw_okq (⟨"HotPennies$Asks", "body20", "(LHotPennies$Child;)I"⟩, 2) := ⟨⟨by decide +kernel, by decide +kernel⟩, List.mem_of_getElem? (i := 156) (by decide +kernel), List.mem_of_getElem? (i := 744) (by decide +kernel), List.mem_of_getElem? (i := 745) (by decide +kernel)⟩
theorem lw_p67 : lw_okq (⟨"HotPennies$Asks", "askGloveSize", "(LHotPennies$Child;)I"⟩, 2) := ⟨⟨by decide +kernel, by decide +kernel⟩, List.mem_of_getElem? (i := 156) (by decide +kernel), List.mem_of_getElem? (i := 748) (by decide +kernel), List.mem_of_getElem? (i := 749) (by decide +kernel)⟩
theorem lw_p68 : lw_okq (⟨"HotPennies$Asks", "body13", "(LHotPennies$Child;)I"⟩, 2) := ⟨⟨by decide +kernel, by decide +kernel⟩, List.mem_of_getElem? (i := 156) (by decide +kernel), List.mem_of_getElem? (i := 752) (by decide +kernel), List.mem_of_getElem? (i := 753) (by decide +kernel)⟩
theorem lw_p69 : lw_okq (⟨"HotPennies$Asks", "askMark", "(LHotPennies$Child;)I"⟩, 2) := ⟨⟨by decide +kernel, by decide +kernel⟩, List.mem_of_getElem? (i := 156) (by decide +kernel), List.mem_of_getElem? (i := 756) (by decide +kernel), List.mem_of_getElem? (i := 757) (by decide +kernel)⟩
theorem lw_p70 : lw_okq (⟨"HotPennies$Asks", "bodyAt", "(I)I"⟩, 2) := ⟨⟨by decide +kernel, by decide +kernel⟩, List.mem_of_getElem? (i := 156) (by decide +kernel), List.mem_of_getElem? (i := 764) (by decide +kernel), List.mem_of_getElem? (i := 765) (by decide +kernel)⟩
theorem lw_p71 : lw_okq (⟨"HotPennies", "countRows", "()I"⟩, 15) := ⟨⟨by decide +kernel, by decide +kernel⟩, List.mem_of_getElem? (i := 19) (by decide +kernel), List.mem_of_getElem? (i := 773) (by decide +kernel), List.mem_of_getElem? (i := 774) (by decide +kernel)⟩
theorem lw_p72 : lw_okq (⟨"HotPennies$Square", "allPennies", "()I"⟩, 5) := ⟨⟨by decide +kernel, by decide +kernel⟩, List.mem_of_getElem? (i := 61) (by decide +kernel), List.mem_of_getElem? (i := 777) (by decide +kernel), List.mem_of_getElem? (i := 778) (by decide +kernel)⟩
theorem lw_p73 : lw_okq (⟨"HotPenniesModel", "finds", "(I)I"⟩, 26) := ⟨⟨by decide +kernel, by decide +kernel⟩, List.mem_of_getElem? (i := 785) (by decide +kernel), List.mem_of_getElem? (i := 881) (by decide +kernel), List.mem_of_getElem? (i := 882) (by decide +kernel)⟩
theorem lw_p74 : lw_okq (⟨"HotPenniesModel", "well", "(I)I"⟩, 26) := ⟨⟨by decide +kernel, by decide +kernel⟩, List.mem_of_getElem? (i := 785) (by decide +kernel), List.mem_of_getElem? (i := 886) (by decide +kernel), List.mem_of_getElem? (i := 887) (by decide +kernel)⟩
theorem lw_p75 : lw_okq (⟨"HotPenniesModel", "reads", "()Z"⟩, 26) := ⟨⟨by decide +kernel, by decide +kernel⟩, List.mem_of_getElem? (i := 785) (by decide +kernel), List.mem_of_getElem? (i := 913) (by decide +kernel), List.mem_of_getElem? (i := 914) (by decide +kernel)⟩
theorem lw_p76 : lw_okq (⟨"HotPenniesModel", "token", "()V"⟩, 26) := ⟨⟨by decide +kernel, by decide +kernel⟩, List.mem_of_getElem? (i := 785) (by decide +kernel), List.mem_of_getElem? (i := 917) (by decide +kernel), List.mem_of_getElem? (i := 918) (by decide +kernel)⟩
theorem lw_p77 : lw_okq (⟨"HotPenniesModel", "byteAt", "(I)I"⟩, 26) := ⟨⟨by decide +kernel, by decide +kernel⟩, List.mem_of_getElem? (i := 785) (by decide +kernel), List.mem_of_getElem? (i := 921) (by decide +kernel), List.mem_of_getElem? (i := 922) (by decide +kernel)⟩
theorem lw_p78 : lw_okq (⟨"HotPenniesModel", "name", "()J"⟩, 26) := ⟨⟨by decide +kernel, by decide +kernel⟩, List.mem_of_getElem? (i := 785) (by decide +kernel), List.mem_of_getElem? (i := 932) (by decide +kernel), List.mem_of_getElem? (i := 933) (by decide +kernel)⟩
theorem lw_p79 : lw_okq (⟨"HotPenniesModel", "wrong", "(I)Z"⟩, 26) := ⟨⟨by decide +kernel, by decide +kernel⟩, List.mem_of_getElem? (i := 785) (by decide +kernel), List.mem_of_getElem? (i := 938) (by decide +kernel), List.mem_of_getElem? (i := 939) (by decide +kernel)⟩
def lw_privs_5 : List (MethodName × Nat) := [(⟨"HotPennies$Asks", "askSmallMark", "(LHotPennies$Child;)I"⟩, 2), (⟨"HotPennies$Asks", "body21", "(LHotPennies$Child;)I"⟩, 2), (⟨"HotPennies$Asks", "body20", "(LHotPennies$Child;)I"⟩, 2), (⟨"HotPennies$Asks", "askGloveSize", "(LHotPennies$Child;)I"⟩, 2), (⟨"HotPennies$Asks", "body13", "(LHotPennies$Child;)I"⟩, 2), (⟨"HotPennies$Asks", "askMark", "(LHotPennies$Child;)I"⟩, 2), (⟨"HotPennies$Asks", "bodyAt", "(I)I"⟩, 2), (⟨"HotPennies", "countRows", "()I"⟩, 15), (⟨"HotPennies$Square", "allPennies", "()I"⟩, 5), (⟨"HotPenniesModel", "finds", "(I)I"⟩, 26), (⟨"HotPenniesModel", "well", "(I)I"⟩, 26), (⟨"HotPenniesModel", "reads", "()Z"⟩, 26), (⟨"HotPenniesModel", "token", "()V"⟩, 26), (⟨"HotPenniesModel", "byteAt", "(I)I"⟩, 26), (⟨"HotPenniesModel", "name", "()J"⟩, 26), (⟨"HotPenniesModel", "wrong", "(I)Z"⟩, 26)]
theorem lw_r5 : ∀ q ∈ lw_privs_5, lw_okq q := List.forall_mem_cons.mpr ⟨lw_p64, List.forall_mem_cons.mpr ⟨lw_p65, List.forall_mem_cons.mpr ⟨lw_p66, List.forall_mem_cons.mpr ⟨lw_p67, List.forall_mem_cons.mpr ⟨lw_p68, List.forall_mem_cons.mpr ⟨lw_p69, List.forall_mem_cons.mpr ⟨lw_p70, List.forall_mem_cons.mpr ⟨lw_p71, List.forall_mem_cons.mpr ⟨lw_p72, List.forall_mem_cons.mpr ⟨lw_p73, List.forall_mem_cons.mpr ⟨lw_p74, List.forall_mem_cons.mpr ⟨lw_p75, List.forall_mem_cons.mpr ⟨lw_p76, List.forall_mem_cons.mpr ⟨lw_p77, List.forall_mem_cons.mpr ⟨lw_p78, List.forall_mem_cons.mpr ⟨lw_p79, fun _ h => absurd h List.not_mem_nil⟩⟩⟩⟩⟩⟩⟩⟩⟩⟩⟩⟩⟩⟩⟩⟩
theorem lw_p80 : lw_okq (⟨"HotPenniesModel", "number", "(III)Z"⟩, 26) := ⟨⟨by decide +kernel, by decide +kernel⟩, List.mem_of_getElem? (i := 785) (by decide +kernel), List.mem_of_getElem? (i := 942) (by decide +kernel), List.mem_of_getElem? (i := 943) (by decide +kernel)⟩
theorem lw_p81 : lw_okq (⟨"HotPenniesModel", "sign", "()Z"⟩, 26) := ⟨⟨by decide +kernel, by decide +kernel⟩, List.mem_of_getElem? (i := 785) (by decide +kernel), List.mem_of_getElem? (i := 946) (by decide +kernel), List.mem_of_getElem? (i := 947) (by decide +kernel)⟩
theorem lw_p82 : lw_okq (⟨"HotPenniesModel", "readsDrain", "()Z"⟩, 26) := ⟨⟨by decide +kernel, by decide +kernel⟩, List.mem_of_getElem? (i := 785) (by decide +kernel), List.mem_of_getElem? (i := 951) (by decide +kernel), List.mem_of_getElem? (i := 952) (by decide +kernel)⟩
theorem lw_p83 : lw_okq (⟨"HotPenniesModel", "cell", "()Z"⟩, 26) := ⟨⟨by decide +kernel, by decide +kernel⟩, List.mem_of_getElem? (i := 785) (by decide +kernel), List.mem_of_getElem? (i := 955) (by decide +kernel), List.mem_of_getElem? (i := 956) (by decide +kernel)⟩
theorem lw_p84 : lw_okq (⟨"HotPenniesModel", "readsChild", "()Z"⟩, 26) := ⟨⟨by decide +kernel, by decide +kernel⟩, List.mem_of_getElem? (i := 785) (by decide +kernel), List.mem_of_getElem? (i := 960) (by decide +kernel), List.mem_of_getElem? (i := 961) (by decide +kernel)⟩
theorem lw_p85 : lw_okq (⟨"HotPenniesModel", "keeps", "()V"⟩, 26) := ⟨⟨by decide +kernel, by decide +kernel⟩, List.mem_of_getElem? (i := 785) (by decide +kernel), List.mem_of_getElem? (i := 988) (by decide +kernel), List.mem_of_getElem? (i := 989) (by decide +kernel)⟩
theorem lw_p86 : lw_okq (⟨"HotPenniesModel", "lays", "()V"⟩, 26) := ⟨⟨by decide +kernel, by decide +kernel⟩, List.mem_of_getElem? (i := 785) (by decide +kernel), List.mem_of_getElem? (i := 992) (by decide +kernel), List.mem_of_getElem? (i := 993) (by decide +kernel)⟩
theorem lw_p87 : lw_okq (⟨"HotPenniesModel", "laysPicks", "()V"⟩, 26) := ⟨⟨by decide +kernel, by decide +kernel⟩, List.mem_of_getElem? (i := 785) (by decide +kernel), List.mem_of_getElem? (i := 996) (by decide +kernel), List.mem_of_getElem? (i := 997) (by decide +kernel)⟩
theorem lw_p88 : lw_okq (⟨"HotPenniesModel", "pickerOf", "(I)I"⟩, 26) := ⟨⟨by decide +kernel, by decide +kernel⟩, List.mem_of_getElem? (i := 785) (by decide +kernel), List.mem_of_getElem? (i := 1000) (by decide +kernel), List.mem_of_getElem? (i := 1001) (by decide +kernel)⟩
theorem lw_p89 : lw_okq (⟨"HotPenniesModel", "powerOf", "(II)I"⟩, 26) := ⟨⟨by decide +kernel, by decide +kernel⟩, List.mem_of_getElem? (i := 785) (by decide +kernel), List.mem_of_getElem? (i := 1005) (by decide +kernel), List.mem_of_getElem? (i := 1006) (by decide +kernel)⟩
theorem lw_p90 : lw_okq (⟨"HotPenniesModel", "laysWays", "(II)V"⟩, 26) := ⟨⟨by decide +kernel, by decide +kernel⟩, List.mem_of_getElem? (i := 785) (by decide +kernel), List.mem_of_getElem? (i := 1012) (by decide +kernel), List.mem_of_getElem? (i := 1013) (by decide +kernel)⟩
theorem lw_p91 : lw_okq (⟨"HotPenniesModel", "isChild", "(I)Z"⟩, 26) := ⟨⟨by decide +kernel, by decide +kernel⟩, List.mem_of_getElem? (i := 785) (by decide +kernel), List.mem_of_getElem? (i := 1024) (by decide +kernel), List.mem_of_getElem? (i := 1025) (by decide +kernel)⟩
theorem lw_p92 : lw_okq (⟨"HotPenniesModel", "strengthOf", "(I)I"⟩, 26) := ⟨⟨by decide +kernel, by decide +kernel⟩, List.mem_of_getElem? (i := 785) (by decide +kernel), List.mem_of_getElem? (i := 1032) (by decide +kernel), List.mem_of_getElem? (i := 1033) (by decide +kernel)⟩
theorem lw_p93 : lw_okq (⟨"HotPenniesModel", "waysOf", "(I)I"⟩, 26) := ⟨⟨by decide +kernel, by decide +kernel⟩, List.mem_of_getElem? (i := 785) (by decide +kernel), List.mem_of_getElem? (i := 1056) (by decide +kernel), List.mem_of_getElem? (i := 1057) (by decide +kernel)⟩
theorem lw_p94 : lw_okq (⟨"HotPenniesModel", "standOf", "(I)I"⟩, 26) := ⟨⟨by decide +kernel, by decide +kernel⟩, List.mem_of_getElem? (i := 785) (by decide +kernel), List.mem_of_getElem? (i := 1072) (by decide +kernel), List.mem_of_getElem? (i := 1073) (by decide +kernel)⟩
theorem lw_p95 : lw_okq (⟨"HotPenniesModel", "settles", "()I"⟩, 26) := ⟨⟨by decide +kernel, by decide +kernel⟩, List.mem_of_getElem? (i := 785) (by decide +kernel), List.mem_of_getElem? (i := 1085) (by decide +kernel), List.mem_of_getElem? (i := 1086) (by decide +kernel)⟩
def lw_privs_6 : List (MethodName × Nat) := [(⟨"HotPenniesModel", "number", "(III)Z"⟩, 26), (⟨"HotPenniesModel", "sign", "()Z"⟩, 26), (⟨"HotPenniesModel", "readsDrain", "()Z"⟩, 26), (⟨"HotPenniesModel", "cell", "()Z"⟩, 26), (⟨"HotPenniesModel", "readsChild", "()Z"⟩, 26), (⟨"HotPenniesModel", "keeps", "()V"⟩, 26), (⟨"HotPenniesModel", "lays", "()V"⟩, 26), (⟨"HotPenniesModel", "laysPicks", "()V"⟩, 26), (⟨"HotPenniesModel", "pickerOf", "(I)I"⟩, 26), (⟨"HotPenniesModel", "powerOf", "(II)I"⟩, 26), (⟨"HotPenniesModel", "laysWays", "(II)V"⟩, 26), (⟨"HotPenniesModel", "isChild", "(I)Z"⟩, 26), (⟨"HotPenniesModel", "strengthOf", "(I)I"⟩, 26), (⟨"HotPenniesModel", "waysOf", "(I)I"⟩, 26), (⟨"HotPenniesModel", "standOf", "(I)I"⟩, 26), (⟨"HotPenniesModel", "settles", "()I"⟩, 26)]
theorem lw_r6 : ∀ q ∈ lw_privs_6, lw_okq q := List.forall_mem_cons.mpr ⟨lw_p80, List.forall_mem_cons.mpr ⟨lw_p81, List.forall_mem_cons.mpr ⟨lw_p82, List.forall_mem_cons.mpr ⟨lw_p83, List.forall_mem_cons.mpr ⟨lw_p84, List.forall_mem_cons.mpr ⟨lw_p85, List.forall_mem_cons.mpr ⟨lw_p86, List.forall_mem_cons.mpr ⟨lw_p87, List.forall_mem_cons.mpr ⟨lw_p88, List.forall_mem_cons.mpr ⟨lw_p89, List.forall_mem_cons.mpr ⟨lw_p90, List.forall_mem_cons.mpr ⟨lw_p91, List.forall_mem_cons.mpr ⟨lw_p92, List.forall_mem_cons.mpr ⟨lw_p93, List.forall_mem_cons.mpr ⟨lw_p94, List.forall_mem_cons.mpr ⟨lw_p95, fun _ h => absurd h List.not_mem_nil⟩⟩⟩⟩⟩⟩⟩⟩⟩⟩⟩⟩⟩⟩⟩⟩
theorem lw_p96 : lw_okq (⟨"HotPenniesModel", "served", "(II)I"⟩, 26) := ⟨⟨by decide +kernel, by decide +kernel⟩, List.mem_of_getElem? (i := 785) (by decide +kernel), List.mem_of_getElem? (i := 1093) (by decide +kernel), List.mem_of_getElem? (i := 1094) (by decide +kernel)⟩
theorem lw_p97 : lw_okq (⟨"HotPenniesModel", "rowOf", "(I)I"⟩, 26) := ⟨⟨by decide +kernel, by decide +kernel⟩, List.mem_of_getElem? (i := 785) (by decide +kernel), List.mem_of_getElem? (i := 1104) (by decide +kernel), List.mem_of_getElem? (i := 1105) (by decide +kernel)⟩
theorem lw_p98 : lw_okq (⟨"HotPenniesModel", "sizeOf", "(I)I"⟩, 26) := ⟨⟨by decide +kernel, by decide +kernel⟩, List.mem_of_getElem? (i := 785) (by decide +kernel), List.mem_of_getElem? (i := 1139) (by decide +kernel), List.mem_of_getElem? (i := 1140) (by decide +kernel)⟩
theorem lw_p99 : lw_okq (⟨"HotPenniesModel", "beginsAll", "(I)V"⟩, 26) := ⟨⟨by decide +kernel, by decide +kernel⟩, List.mem_of_getElem? (i := 785) (by decide +kernel), List.mem_of_getElem? (i := 1145) (by decide +kernel), List.mem_of_getElem? (i := 1146) (by decide +kernel)⟩
theorem lw_p100 : lw_okq (⟨"HotPenniesModel", "begins", "(I)V"⟩, 26) := ⟨⟨by decide +kernel, by decide +kernel⟩, List.mem_of_getElem? (i := 785) (by decide +kernel), List.mem_of_getElem? (i := 1149) (by decide +kernel), List.mem_of_getElem? (i := 1150) (by decide +kernel)⟩
theorem lw_p101 : lw_okq (⟨"HotPenniesModel", "markOf", "(I)I"⟩, 26) := ⟨⟨by decide +kernel, by decide +kernel⟩, List.mem_of_getElem? (i := 785) (by decide +kernel), List.mem_of_getElem? (i := 1153) (by decide +kernel), List.mem_of_getElem? (i := 1154) (by decide +kernel)⟩
def lw_privs_7 : List (MethodName × Nat) := [(⟨"HotPenniesModel", "served", "(II)I"⟩, 26), (⟨"HotPenniesModel", "rowOf", "(I)I"⟩, 26), (⟨"HotPenniesModel", "sizeOf", "(I)I"⟩, 26), (⟨"HotPenniesModel", "beginsAll", "(I)V"⟩, 26), (⟨"HotPenniesModel", "begins", "(I)V"⟩, 26), (⟨"HotPenniesModel", "markOf", "(I)I"⟩, 26)]
theorem lw_r7 : ∀ q ∈ lw_privs_7, lw_okq q := List.forall_mem_cons.mpr ⟨lw_p96, List.forall_mem_cons.mpr ⟨lw_p97, List.forall_mem_cons.mpr ⟨lw_p98, List.forall_mem_cons.mpr ⟨lw_p99, List.forall_mem_cons.mpr ⟨lw_p100, List.forall_mem_cons.mpr ⟨lw_p101, fun _ h => absurd h List.not_mem_nil⟩⟩⟩⟩⟩⟩
def lw_privs : List (MethodName × Nat) := lw_privs_1 ++ (lw_privs_2 ++ (lw_privs_3 ++ (lw_privs_4 ++ (lw_privs_5 ++ (lw_privs_6 ++ (lw_privs_7))))))
def lw_tbl : List Cond := k2_sels lw_privs ++ tables_1
theorem lw_privs_ok : ∀ q ∈ lw_privs, lw_okq q := by
  show ∀ q ∈ lw_privs_1 ++ (lw_privs_2 ++ (lw_privs_3 ++ (lw_privs_4 ++ (lw_privs_5 ++ (lw_privs_6 ++ (lw_privs_7)))))), lw_okq q
  exact List.forall_mem_append.mpr ⟨lw_r1, List.forall_mem_append.mpr ⟨lw_r2, List.forall_mem_append.mpr ⟨lw_r3, List.forall_mem_append.mpr ⟨lw_r4, List.forall_mem_append.mpr ⟨lw_r5, List.forall_mem_append.mpr ⟨lw_r6, lw_r7⟩⟩⟩⟩⟩⟩
end
section
def RX0 : String := "HotPennies$Acts"
def TX0 : u_T := fun k => match k with
  | 0 => ("HotPennies$Acts", "kept", "[LHotPennies$Square;", true)
  | _ => ("HotPennies$Acts", "count", "I", false)
def tyX0 : Nat → FieldType := fun k => match k with
  | 0 => .array (.object "HotPennies$Square")
  | _ => .int
abbrev wsX00 : List Cond := u_ws RX0 TX0 2
theorem nmX0 : ∀ a, a < 2 → ∀ b, b < 2 → a ≠ b → (TX0 a).2.1 ≠ (TX0 b).2.1 := by decide +kernel
theorem tyX0_ok : ∀ k, k < 2 → parseFieldDescriptor (TX0 k).2.2.1 = some (tyX0 k) := by decide +kernel
abbrev cX0_init : ByteArray := prog_2_method_1_code
def yX0_init : MethodName := ⟨RX0, "<init>", "()V"⟩
abbrev cX0_keep : ByteArray := prog_2_method_2_code
def yX0_keep : MethodName := ⟨RX0, "keep", "(LHotPennies$Square;)V"⟩
abbrev cX0_forgetOldest : ByteArray := prog_2_method_3_code
def yX0_forgetOldest : MethodName := ⟨RX0, "forgetOldest", "()V"⟩
abbrev cX0_takeBack : ByteArray := prog_2_method_4_code
def yX0_takeBack : MethodName := ⟨RX0, "takeBack", "(LHotPennies$Square;)Z"⟩
abbrev cX0_at : ByteArray := prog_2_method_5_code
def yX0_at : MethodName := ⟨RX0, "at", "(I)LHotPennies$Square;"⟩
def RX1 : String := "HotPennies$Asks"
def TX1 : u_T := fun k => match k with
  | 0 => ("HotPennies$Asks", "bodies", "[I", true)
  | _ => ("HotPennies$Asks", "traced", "I", false)
def tyX1 : Nat → FieldType := fun k => match k with
  | 0 => .array .int
  | _ => .int
abbrev wsX10 : List Cond := u_ws RX1 TX1 2
theorem nmX1 : ∀ a, a < 2 → ∀ b, b < 2 → a ≠ b → (TX1 a).2.1 ≠ (TX1 b).2.1 := by decide +kernel
theorem tyX1_ok : ∀ k, k < 2 → parseFieldDescriptor (TX1 k).2.2.1 = some (tyX1 k) := by decide +kernel
abbrev cX1_init : ByteArray := prog_3_method_1_code
def yX1_init : MethodName := ⟨RX1, "<init>", "()V"⟩
abbrev cX1_begin : ByteArray := prog_3_method_2_code
def yX1_begin : MethodName := ⟨RX1, "begin", "(I)V"⟩
abbrev cX1_bodyAt : ByteArray := prog_3_method_3_code
def yX1_bodyAt : MethodName := ⟨RX1, "bodyAt", "(I)I"⟩
abbrev cX1_askSize : ByteArray := prog_3_method_4_code
def yX1_askSize : MethodName := ⟨RX1, "askSize", "(LHotPennies$Child;)I"⟩
abbrev cX1_askGloveSize : ByteArray := prog_3_method_5_code
def yX1_askGloveSize : MethodName := ⟨RX1, "askGloveSize", "(LHotPennies$Child;)I"⟩
abbrev cX1_askMark : ByteArray := prog_3_method_6_code
def yX1_askMark : MethodName := ⟨RX1, "askMark", "(LHotPennies$Child;)I"⟩
abbrev cX1_askSmallMark : ByteArray := prog_3_method_7_code
def yX1_askSmallMark : MethodName := ⟨RX1, "askSmallMark", "(LHotPennies$Child;)I"⟩
abbrev cX1_body10 : ByteArray := prog_3_method_8_code
def yX1_body10 : MethodName := ⟨RX1, "body10", "(LHotPennies$Child;)I"⟩
abbrev cX1_body11 : ByteArray := prog_3_method_9_code
def yX1_body11 : MethodName := ⟨RX1, "body11", "(LHotPennies$Child;)I"⟩
abbrev cX1_body13 : ByteArray := prog_3_method_10_code
def yX1_body13 : MethodName := ⟨RX1, "body13", "(LHotPennies$Child;)I"⟩
abbrev cX1_body20 : ByteArray := prog_3_method_11_code
def yX1_body20 : MethodName := ⟨RX1, "body20", "(LHotPennies$Child;)I"⟩
abbrev cX1_body21 : ByteArray := prog_3_method_12_code
def yX1_body21 : MethodName := ⟨RX1, "body21", "(LHotPennies$Child;)I"⟩
def RX2 : String := "HotPennies$Child"
def TX2 : u_T := fun k => match k with
  | 0 => ("HotPennies$Child", "number", "I", true)
  | 1 => ("HotPennies$Child", "kind", "I", false)
  | 2 => ("HotPennies$Child", "strength", "I", false)
  | 3 => ("HotPennies$Child", "cell", "I", false)
  | _ => ("HotPennies$Child", "pennies", "I", false)
def tyX2 : Nat → FieldType := fun k => match k with
  | 0 => .int
  | 1 => .int
  | 2 => .int
  | 3 => .int
  | _ => .int
abbrev wsX20 : List Cond := u_ws RX2 TX2 5
theorem nmX2 : ∀ a, a < 5 → ∀ b, b < 5 → a ≠ b → (TX2 a).2.1 ≠ (TX2 b).2.1 := by decide +kernel
theorem tyX2_ok : ∀ k, k < 5 → parseFieldDescriptor (TX2 k).2.2.1 = some (tyX2 k) := by decide +kernel
abbrev cX2_init : ByteArray := prog_4_method_1_code
def yX2_init : MethodName := ⟨RX2, "<init>", "(I)V"⟩
abbrev cX2_takeFrom : ByteArray := prog_4_method_2_code
def yX2_takeFrom : MethodName := ⟨RX2, "takeFrom", "(LHotPennies$Child;)V"⟩
abbrev cX2_might : ByteArray := prog_4_method_3_code
def yX2_might : MethodName := ⟨RX2, "might", "()I"⟩
abbrev cX2_isOne : ByteArray := prog_4_method_4_code
def yX2_isOne : MethodName := ⟨RX2, "isOne", "(I)Z"⟩
abbrev cX2_powerBy : ByteArray := prog_4_method_5_code
def yX2_powerBy : MethodName := ⟨RX2, "powerBy", "(II)I"⟩
def RX3 : String := "HotPennies$Landing"
def TX3 : u_T := fun k => match k with
  | 0 => ("HotPennies$Landing", "cells", "[I", true)
  | _ => ("HotPennies$Landing", "count", "I", false)
def tyX3 : Nat → FieldType := fun k => match k with
  | 0 => .array .int
  | _ => .int
abbrev wsX30 : List Cond := u_ws RX3 TX3 2
theorem nmX3 : ∀ a, a < 2 → ∀ b, b < 2 → a ≠ b → (TX3 a).2.1 ≠ (TX3 b).2.1 := by decide +kernel
theorem tyX3_ok : ∀ k, k < 2 → parseFieldDescriptor (TX3 k).2.2.1 = some (tyX3 k) := by decide +kernel
abbrev cX3_init : ByteArray := prog_5_method_1_code
def yX3_init : MethodName := ⟨RX3, "<init>", "()V"⟩
abbrev cX3_add : ByteArray := prog_5_method_2_code
def yX3_add : MethodName := ⟨RX3, "add", "(I)V"⟩
abbrev cX3_landAt : ByteArray := prog_5_method_3_code
def yX3_landAt : MethodName := ⟨RX3, "landAt", "(I)I"⟩
abbrev cX3_landBy : ByteArray := prog_5_method_4_code
def yX3_landBy : MethodName := ⟨RX3, "landBy", "(J)I"⟩
abbrev cX3_throwAt : ByteArray := prog_5_method_5_code
def yX3_throwAt : MethodName := ⟨RX3, "throwAt", "(II)V"⟩
abbrev cX3_cellAt : ByteArray := prog_5_method_6_code
def yX3_cellAt : MethodName := ⟨RX3, "cellAt", "(II)I"⟩
abbrev cX3_takeItems : ByteArray := prog_5_method_7_code
def yX3_takeItems : MethodName := ⟨RX3, "takeItems", "(LHotPennies$Row;II)Z"⟩
abbrev cX3_countPickedBy : ByteArray := prog_5_method_8_code
def yX3_countPickedBy : MethodName := ⟨RX3, "countPickedBy", "(LHotPennies$Square;I)I"⟩
abbrev cX3_pickers : ByteArray := prog_5_method_9_code
def yX3_pickers : MethodName := ⟨RX3, "pickers", "(LHotPennies$Square;)I"⟩
abbrev cX3_weigh : ByteArray := prog_5_method_10_code
def yX3_weigh : MethodName := ⟨RX3, "weigh", "(LHotPennies$Square;II[I)V"⟩
def RX4 : String := "HotPennies$Row"
def TX4 : u_T := fun k => match k with
  | 0 => ("HotPennies$Row", "items", "[I", true)
  | 1 => ("HotPennies$Row", "lane", "I", false)
  | _ => ("HotPennies$Row", "size", "I", false)
def tyX4 : Nat → FieldType := fun k => match k with
  | 0 => .array .int
  | 1 => .int
  | _ => .int
abbrev wsX40 : List Cond := u_ws RX4 TX4 3
theorem nmX4 : ∀ a, a < 3 → ∀ b, b < 3 → a ≠ b → (TX4 a).2.1 ≠ (TX4 b).2.1 := by decide +kernel
theorem tyX4_ok : ∀ k, k < 3 → parseFieldDescriptor (TX4 k).2.2.1 = some (tyX4 k) := by decide +kernel
abbrev cX4_init : ByteArray := prog_6_method_1_code
def yX4_init : MethodName := ⟨RX4, "<init>", "()V"⟩
abbrev cX4_isMissing : ByteArray := prog_6_method_2_code
def yX4_isMissing : MethodName := ⟨RX4, "isMissing", "()Z"⟩
abbrev cX4_begin : ByteArray := prog_6_method_3_code
def yX4_begin : MethodName := ⟨RX4, "begin", "(II)V"⟩
abbrev cX4_holds : ByteArray := prog_6_method_4_code
def yX4_holds : MethodName := ⟨RX4, "holds", "(II)Z"⟩
abbrev cX4_put : ByteArray := prog_6_method_5_code
def yX4_put : MethodName := ⟨RX4, "put", "(II)I"⟩
abbrev cX4_item : ByteArray := prog_6_method_6_code
def yX4_item : MethodName := ⟨RX4, "item", "(I)I"⟩
def RX5 : String := "HotPennies$Square"
def TX5 : u_T := fun k => match k with
  | 0 => ("HotPennies$Square", "all", "[LHotPennies$Child;", true)
  | 1 => ("HotPennies$Square", "told", "Z", false)
  | 2 => ("HotPennies$Square", "heat", "I", false)
  | 3 => ("HotPennies$Square", "drains", "I", false)
  | _ => ("HotPennies$Square", "children", "I", false)
def tyX5 : Nat → FieldType := fun k => match k with
  | 0 => .array (.object "HotPennies$Child")
  | 1 => .boolean
  | 2 => .int
  | 3 => .int
  | _ => .int
abbrev wsX50 : List Cond := u_ws RX5 TX5 5
theorem nmX5 : ∀ a, a < 5 → ∀ b, b < 5 → a ≠ b → (TX5 a).2.1 ≠ (TX5 b).2.1 := by decide +kernel
theorem tyX5_ok : ∀ k, k < 5 → parseFieldDescriptor (TX5 k).2.2.1 = some (tyX5 k) := by decide +kernel
abbrev cX5_init : ByteArray := prog_7_method_1_code
def yX5_init : MethodName := ⟨RX5, "<init>", "()V"⟩
abbrev cX5_clear : ByteArray := prog_7_method_2_code
def yX5_clear : MethodName := ⟨RX5, "clear", "()V"⟩
abbrev cX5_takeFrom : ByteArray := prog_7_method_3_code
def yX5_takeFrom : MethodName := ⟨RX5, "takeFrom", "(LHotPennies$Square;)V"⟩
abbrev cX5_at : ByteArray := prog_7_method_4_code
def yX5_at : MethodName := ⟨RX5, "at", "(I)LHotPennies$Child;"⟩
abbrev cX5_addChild : ByteArray := prog_7_method_5_code
def yX5_addChild : MethodName := ⟨RX5, "addChild", "(III)V"⟩
abbrev cX5_isDry : ByteArray := prog_7_method_6_code
def yX5_isDry : MethodName := ⟨RX5, "isDry", "(I)Z"⟩
abbrev cX5_mostPennies : ByteArray := prog_7_method_7_code
def yX5_mostPennies : MethodName := ⟨RX5, "mostPennies", "()I"⟩
abbrev cX5_allPennies : ByteArray := prog_7_method_8_code
def yX5_allPennies : MethodName := ⟨RX5, "allPennies", "()I"⟩
abbrev cX5_pickerAt : ByteArray := prog_7_method_9_code
def yX5_pickerAt : MethodName := ⟨RX5, "pickerAt", "(I)I"⟩
abbrev cX5_powerNeeded : ByteArray := prog_7_method_10_code
def yX5_powerNeeded : MethodName := ⟨RX5, "powerNeeded", "(III)I"⟩
def RX6 : String := "HotPennies$Tape"
def TX6 : u_T := fun k => match k with
  | 0 => ("HotPennies$Tape", "bytes", "[I", true)
  | 1 => ("HotPennies$Tape", "length", "I", false)
  | 2 => ("HotPennies$Tape", "start", "I", false)
  | 3 => ("HotPennies$Tape", "next", "I", false)
  | 4 => ("HotPennies$Tape", "token", "I", false)
  | 5 => ("HotPennies$Tape", "value", "I", false)
  | _ => ("HotPennies$Tape", "fault", "I", false)
def tyX6 : Nat → FieldType := fun k => match k with
  | 0 => .array .int
  | 1 => .int
  | 2 => .int
  | 3 => .int
  | 4 => .int
  | 5 => .int
  | _ => .int
abbrev wsX60 : List Cond := u_ws RX6 TX6 7
theorem nmX6 : ∀ a, a < 7 → ∀ b, b < 7 → a ≠ b → (TX6 a).2.1 ≠ (TX6 b).2.1 := by decide +kernel
theorem tyX6_ok : ∀ k, k < 7 → parseFieldDescriptor (TX6 k).2.2.1 = some (tyX6 k) := by decide +kernel
abbrev cX6_init : ByteArray := prog_8_method_1_code
def yX6_init : MethodName := ⟨RX6, "<init>", "()V"⟩
abbrev cX6_hasRoomFor : ByteArray := prog_8_method_2_code
def yX6_hasRoomFor : MethodName := ⟨RX6, "hasRoomFor", "(I)Z"⟩
abbrev cX6_add : ByteArray := prog_8_method_3_code
def yX6_add : MethodName := ⟨RX6, "add", "(I)V"⟩
abbrev cX6_read : ByteArray := prog_8_method_4_code
def yX6_read : MethodName := ⟨RX6, "read", "(LHotPennies$Square;)Z"⟩
abbrev cX6_readLaw : ByteArray := prog_8_method_5_code
def yX6_readLaw : MethodName := ⟨RX6, "readLaw", "(LHotPennies$Square;)Z"⟩
abbrev cX6_readDrain : ByteArray := prog_8_method_6_code
def yX6_readDrain : MethodName := ⟨RX6, "readDrain", "(LHotPennies$Square;)Z"⟩
abbrev cX6_readChild : ByteArray := prog_8_method_7_code
def yX6_readChild : MethodName := ⟨RX6, "readChild", "(LHotPennies$Square;)Z"⟩
abbrev cX6_kindNamed : ByteArray := prog_8_method_8_code
def yX6_kindNamed : MethodName := ⟨RX6, "kindNamed", "()I"⟩
abbrev cX6_takeCell : ByteArray := prog_8_method_9_code
def yX6_takeCell : MethodName := ⟨RX6, "takeCell", "()Z"⟩
abbrev cX6_takeNumber : ByteArray := prog_8_method_10_code
def yX6_takeNumber : MethodName := ⟨RX6, "takeNumber", "(II)Z"⟩
abbrev cX6_takeEnd : ByteArray := prog_8_method_11_code
def yX6_takeEnd : MethodName := ⟨RX6, "takeEnd", "()Z"⟩
abbrev cX6_refuse : ByteArray := prog_8_method_12_code
def yX6_refuse : MethodName := ⟨RX6, "refuse", "(I)Z"⟩
abbrev cX6_isName : ByteArray := prog_8_method_13_code
def yX6_isName : MethodName := ⟨RX6, "isName", "(Ljava/lang/String;)Z"⟩
abbrev cX6_step : ByteArray := prog_8_method_14_code
def yX6_step : MethodName := ⟨RX6, "step", "()V"⟩
abbrev cX6_stepName : ByteArray := prog_8_method_15_code
def yX6_stepName : MethodName := ⟨RX6, "stepName", "()V"⟩
abbrev cX6_stepNumber : ByteArray := prog_8_method_16_code
def yX6_stepNumber : MethodName := ⟨RX6, "stepNumber", "()V"⟩
abbrev cX6_byteAt : ByteArray := prog_8_method_17_code
def yX6_byteAt : MethodName := ⟨RX6, "byteAt", "(I)I"⟩
abbrev cX6_isLetter : ByteArray := prog_8_method_18_code
def yX6_isLetter : MethodName := ⟨RX6, "isLetter", "(I)Z"⟩
abbrev cX6_isFigure : ByteArray := prog_8_method_19_code
def yX6_isFigure : MethodName := ⟨RX6, "isFigure", "(I)Z"⟩
def RX7 : String := "HotPennies"
def TX7 : u_T := fun k => match k with
  | 0 => ("HotPennies", "rows", "[LHotPennies$Row;", true)
  | 1 => ("HotPennies", "tape", "LHotPennies$Tape;", true)
  | 2 => ("HotPennies", "now", "LHotPennies$Square;", true)
  | 3 => ("HotPennies", "draft", "LHotPennies$Square;", true)
  | 4 => ("HotPennies", "trial", "LHotPennies$Square;", true)
  | 5 => ("HotPennies", "images", "[LHotPennies$Square;", true)
  | 6 => ("HotPennies", "acts", "LHotPennies$Acts;", true)
  | 7 => ("HotPennies", "landing", "LHotPennies$Landing;", true)
  | 8 => ("HotPennies", "picks", "[I", true)
  | 9 => ("HotPennies", "otherPicks", "[I", true)
  | 10 => ("HotPennies", "pleased", "[I", true)
  | 11 => ("HotPennies", "chosen", "[I", true)
  | 12 => ("HotPennies", "asks", "LHotPennies$Asks;", true)
  | 13 => ("HotPennies", "latestFault", "I", false)
  | _ => ("HotPennies", "finding", "I", false)
def tyX7 : Nat → FieldType := fun k => match k with
  | 0 => .array (.object "HotPennies$Row")
  | 1 => .object "HotPennies$Tape"
  | 2 => .object "HotPennies$Square"
  | 3 => .object "HotPennies$Square"
  | 4 => .object "HotPennies$Square"
  | 5 => .array (.object "HotPennies$Square")
  | 6 => .object "HotPennies$Acts"
  | 7 => .object "HotPennies$Landing"
  | 8 => .array .int
  | 9 => .array .int
  | 10 => .array .int
  | 11 => .array .int
  | 12 => .object "HotPennies$Asks"
  | 13 => .int
  | _ => .int
abbrev wsX70 : List Cond := u_ws RX7 TX7 15
theorem nmX7 : ∀ a, a < 15 → ∀ b, b < 15 → a ≠ b → (TX7 a).2.1 ≠ (TX7 b).2.1 := by decide +kernel
theorem tyX7_ok : ∀ k, k < 15 → parseFieldDescriptor (TX7 k).2.2.1 = some (tyX7 k) := by decide +kernel
abbrev cX7_init : ByteArray := prog_1_method_1_code
def yX7_init : MethodName := ⟨RX7, "<init>", "()V"⟩
abbrev cX7_row : ByteArray := prog_1_method_2_code
def yX7_row : MethodName := ⟨RX7, "row", "(III)I"⟩
abbrev cX7_set : ByteArray := prog_1_method_3_code
def yX7_set : MethodName := ⟨RX7, "set", "(III)I"⟩
abbrev cX7_copy : ByteArray := prog_1_method_4_code
def yX7_copy : MethodName := ⟨RX7, "copy", "(IIIII)I"⟩
abbrev cX7_drop : ByteArray := prog_1_method_5_code
def yX7_drop : MethodName := ⟨RX7, "drop", "(I)I"⟩
abbrev cX7_feed : ByteArray := prog_1_method_6_code
def yX7_feed : MethodName := ⟨RX7, "feed", "(JI)I"⟩
abbrev cX7_square : ByteArray := prog_1_method_7_code
def yX7_square : MethodName := ⟨RX7, "square", "()I"⟩
abbrev cX7_fault : ByteArray := prog_1_method_8_code
def yX7_fault : MethodName := ⟨RX7, "fault", "()I"⟩
abbrev cX7_toss : ByteArray := prog_1_method_9_code
def yX7_toss : MethodName := ⟨RX7, "toss", "(IIII)I"⟩
abbrev cX7_run : ByteArray := prog_1_method_10_code
def yX7_run : MethodName := ⟨RX7, "run", "(II)I"⟩
abbrev cX7_corner : ByteArray := prog_1_method_11_code
def yX7_corner : MethodName := ⟨RX7, "corner", "(II)I"⟩
abbrev cX7_undo : ByteArray := prog_1_method_12_code
def yX7_undo : MethodName := ⟨RX7, "undo", "()I"⟩
abbrev cX7_child : ByteArray := prog_1_method_13_code
def yX7_child : MethodName := ⟨RX7, "child", "(II)I"⟩
abbrev cX7_cell : ByteArray := prog_1_method_14_code
def yX7_cell : MethodName := ⟨RX7, "cell", "(II)I"⟩
abbrev cX7_power : ByteArray := prog_1_method_15_code
def yX7_power : MethodName := ⟨RX7, "power", "(II)I"⟩
abbrev cX7_mean : ByteArray := prog_1_method_16_code
def yX7_mean : MethodName := ⟨RX7, "mean", "(IIII)I"⟩
abbrev cX7_some : ByteArray := prog_1_method_17_code
def yX7_some : MethodName := ⟨RX7, "some", "(IIIII)I"⟩
abbrev cX7_stand : ByteArray := prog_1_method_18_code
def yX7_stand : MethodName := ⟨RX7, "stand", "(III)I"⟩
abbrev cX7_brothers : ByteArray := prog_1_method_19_code
def yX7_brothers : MethodName := ⟨RX7, "brothers", "(IIIII)I"⟩
abbrev cX7_rounds : ByteArray := prog_1_method_20_code
def yX7_rounds : MethodName := ⟨RX7, "rounds", "(III)I"⟩
abbrev cX7_aim : ByteArray := prog_1_method_21_code
def yX7_aim : MethodName := ⟨RX7, "aim", "(II)I"⟩
abbrev cX7_throwsFor : ByteArray := prog_1_method_22_code
def yX7_throwsFor : MethodName := ⟨RX7, "throwsFor", "(II)I"⟩
abbrev cX7_cool : ByteArray := prog_1_method_23_code
def yX7_cool : MethodName := ⟨RX7, "cool", "(III)I"⟩
abbrev cX7_stood : ByteArray := prog_1_method_24_code
def yX7_stood : MethodName := ⟨RX7, "stood", "(IIIII)I"⟩
abbrev cX7_image : ByteArray := prog_1_method_25_code
def yX7_image : MethodName := ⟨RX7, "image", "(I)I"⟩
abbrev cX7_restore : ByteArray := prog_1_method_26_code
def yX7_restore : MethodName := ⟨RX7, "restore", "(I)I"⟩
abbrev cX7_kind : ByteArray := prog_1_method_27_code
def yX7_kind : MethodName := ⟨RX7, "kind", "(I)I"⟩
abbrev cX7_as : ByteArray := prog_1_method_28_code
def yX7_as : MethodName := ⟨RX7, "as", "(II)I"⟩
abbrev cX7_ask : ByteArray := prog_1_method_29_code
def yX7_ask : MethodName := ⟨RX7, "ask", "(II)I"⟩
abbrev cX7_trace : ByteArray := prog_1_method_30_code
def yX7_trace : MethodName := ⟨RX7, "trace", "(I)I"⟩
abbrev cX7_count : ByteArray := prog_1_method_31_code
def yX7_count : MethodName := ⟨RX7, "count", "(I)I"⟩
abbrev cX7_status : ByteArray := prog_1_method_32_code
def yX7_status : MethodName := ⟨RX7, "status", "()I"⟩
abbrev cX7_isCell : ByteArray := prog_1_method_33_code
def yX7_isCell : MethodName := ⟨RX7, "isCell", "(I)Z"⟩
abbrev cX7_isSpread : ByteArray := prog_1_method_34_code
def yX7_isSpread : MethodName := ⟨RX7, "isSpread", "(I)Z"⟩
abbrev cX7_isEither : ByteArray := prog_1_method_35_code
def yX7_isEither : MethodName := ⟨RX7, "isEither", "(I)Z"⟩
abbrev cX7_far : ByteArray := prog_1_method_36_code
def yX7_far : MethodName := ⟨RX7, "far", "(II)I"⟩
abbrev cX7_found : ByteArray := prog_1_method_37_code
def yX7_found : MethodName := ⟨RX7, "found", "(I)I"⟩
abbrev cX7_nothingFound : ByteArray := prog_1_method_38_code
def yX7_nothingFound : MethodName := ⟨RX7, "nothingFound", "(I)I"⟩
abbrev cX7_rowAt : ByteArray := prog_1_method_39_code
def yX7_rowAt : MethodName := ⟨RX7, "rowAt", "(I)LHotPennies$Row;"⟩
abbrev cX7_imageAt : ByteArray := prog_1_method_40_code
def yX7_imageAt : MethodName := ⟨RX7, "imageAt", "(I)LHotPennies$Square;"⟩
abbrev cX7_countRows : ByteArray := prog_1_method_41_code
def yX7_countRows : MethodName := ⟨RX7, "countRows", "()I"⟩
abbrev cX7_throwPennies : ByteArray := prog_1_method_42_code
def yX7_throwPennies : MethodName := ⟨RX7, "throwPennies", "(II)I"⟩
abbrev cX7_fractionPart : ByteArray := prog_1_method_43_code
def yX7_fractionPart : MethodName := ⟨RX7, "fractionPart", "(III)I"⟩
abbrev cX7_commonDivisor : ByteArray := prog_1_method_44_code
def yX7_commonDivisor : MethodName := ⟨RX7, "commonDivisor", "(II)I"⟩
abbrev cX7_bestCell : ByteArray := prog_1_method_45_code
def yX7_bestCell : MethodName := ⟨RX7, "bestCell", "(LHotPennies$Square;I)I"⟩
abbrev cX7_largest : ByteArray := prog_1_method_46_code
def yX7_largest : MethodName := ⟨RX7, "largest", "([I)I"⟩
abbrev cX7_bestPair : ByteArray := prog_1_method_47_code
def yX7_bestPair : MethodName := ⟨RX7, "bestPair", "()I"⟩
abbrev cX7_settle : ByteArray := prog_1_method_48_code
def yX7_settle : MethodName := ⟨RX7, "settle", "()I"⟩
abbrev cX7_tellPleased : ByteArray := prog_1_method_49_code
def yX7_tellPleased : MethodName := ⟨RX7, "tellPleased", "(I)V"⟩
abbrev cX7_fewestThrows : ByteArray := prog_1_method_50_code
def yX7_fewestThrows : MethodName := ⟨RX7, "fewestThrows", "(I)I"⟩
abbrev cX7_chooseOne : ByteArray := prog_1_method_51_code
def yX7_chooseOne : MethodName := ⟨RX7, "chooseOne", "(IIII)Z"⟩
abbrev cX7_chooseTwo : ByteArray := prog_1_method_52_code
def yX7_chooseTwo : MethodName := ⟨RX7, "chooseTwo", "(IIII)Z"⟩
abbrev cX7_chooseThree : ByteArray := prog_1_method_53_code
def yX7_chooseThree : MethodName := ⟨RX7, "chooseThree", "(I)Z"⟩
abbrev cX7_choose : ByteArray := prog_1_method_54_code
def yX7_choose : MethodName := ⟨RX7, "choose", "(II)V"⟩
abbrev cX7_cellsWith : ByteArray := prog_1_method_55_code
def yX7_cellsWith : MethodName := ⟨RX7, "cellsWith", "(I)I"⟩
def RX8 : String := "HotPenniesModel"
def TX8 : u_T := fun k => match k with
  | 0 => ("HotPenniesModel", "status", "I", false)
  | 1 => ("HotPenniesModel", "lane", "[I", true)
  | 2 => ("HotPenniesModel", "size", "[I", true)
  | 3 => ("HotPenniesModel", "item", "[I", true)
  | 4 => ("HotPenniesModel", "tape", "[I", true)
  | 5 => ("HotPenniesModel", "taped", "I", false)
  | 6 => ("HotPenniesModel", "latest", "I", false)
  | 7 => ("HotPenniesModel", "s", "[I", true)
  | 8 => ("HotPenniesModel", "draft", "[I", true)
  | 9 => ("HotPenniesModel", "past", "[I", true)
  | 10 => ("HotPenniesModel", "acts", "I", false)
  | 11 => ("HotPenniesModel", "images", "[I", true)
  | 12 => ("HotPenniesModel", "kept", "[Z", true)
  | 13 => ("HotPenniesModel", "trace", "[I", true)
  | 14 => ("HotPenniesModel", "traced", "I", false)
  | 15 => ("HotPenniesModel", "at", "I", false)
  | 16 => ("HotPenniesModel", "sort", "I", false)
  | 17 => ("HotPenniesModel", "start", "I", false)
  | 18 => ("HotPenniesModel", "long1", "I", false)
  | 19 => ("HotPenniesModel", "fault", "I", false)
  | 20 => ("HotPenniesModel", "where", "[I", true)
  | 21 => ("HotPenniesModel", "heat", "I", false)
  | 22 => ("HotPenniesModel", "picks", "[I", true)
  | 23 => ("HotPenniesModel", "ways", "[I", true)
  | 24 => ("HotPenniesModel", "many", "I", false)
  | _ => ("HotPenniesModel", "sets", "[I", true)
def tyX8 : Nat → FieldType := fun k => match k with
  | 0 => .int
  | 1 => .array .int
  | 2 => .array .int
  | 3 => .array .int
  | 4 => .array .int
  | 5 => .int
  | 6 => .int
  | 7 => .array .int
  | 8 => .array .int
  | 9 => .array .int
  | 10 => .int
  | 11 => .array .int
  | 12 => .array .boolean
  | 13 => .array .int
  | 14 => .int
  | 15 => .int
  | 16 => .int
  | 17 => .int
  | 18 => .int
  | 19 => .int
  | 20 => .array .int
  | 21 => .int
  | 22 => .array .int
  | 23 => .array .int
  | 24 => .int
  | _ => .array .int
abbrev wsX80 : List Cond := u_ws RX8 TX8 26
theorem nmX8 : ∀ a, a < 26 → ∀ b, b < 26 → a ≠ b → (TX8 a).2.1 ≠ (TX8 b).2.1 := by decide +kernel
theorem tyX8_ok : ∀ k, k < 26 → parseFieldDescriptor (TX8 k).2.2.1 = some (tyX8 k) := by decide +kernel
abbrev cX8_init : ByteArray := prog_10_method_1_code
def yX8_init : MethodName := ⟨RX8, "<init>", "()V"⟩
abbrev cX8_in : ByteArray := prog_10_method_3_code
def yX8_in : MethodName := ⟨RX8, "in", "(JJJ)Z"⟩
abbrev cX8_finds : ByteArray := prog_10_method_4_code
def yX8_finds : MethodName := ⟨RX8, "finds", "(I)I"⟩
abbrev cX8_well : ByteArray := prog_10_method_5_code
def yX8_well : MethodName := ⟨RX8, "well", "(I)I"⟩
abbrev cX8_row : ByteArray := prog_10_method_6_code
def yX8_row : MethodName := ⟨RX8, "row", "(III)I"⟩
abbrev cX8_set : ByteArray := prog_10_method_7_code
def yX8_set : MethodName := ⟨RX8, "set", "(III)I"⟩
abbrev cX8_copy : ByteArray := prog_10_method_8_code
def yX8_copy : MethodName := ⟨RX8, "copy", "(IIIII)I"⟩
abbrev cX8_drop : ByteArray := prog_10_method_9_code
def yX8_drop : MethodName := ⟨RX8, "drop", "(I)I"⟩
abbrev cX8_feed : ByteArray := prog_10_method_10_code
def yX8_feed : MethodName := ⟨RX8, "feed", "(JI)I"⟩
abbrev cX8_byteAt : ByteArray := prog_10_method_11_code
def yX8_byteAt : MethodName := ⟨RX8, "byteAt", "(I)I"⟩
abbrev cX8_sortOf : ByteArray := prog_10_method_12_code
def yX8_sortOf : MethodName := ⟨RX8, "sortOf", "(I)I"⟩
abbrev cX8_token : ByteArray := prog_10_method_13_code
def yX8_token : MethodName := ⟨RX8, "token", "()V"⟩
abbrev cX8_name : ByteArray := prog_10_method_14_code
def yX8_name : MethodName := ⟨RX8, "name", "()J"⟩
abbrev cX8_wrong : ByteArray := prog_10_method_15_code
def yX8_wrong : MethodName := ⟨RX8, "wrong", "(I)Z"⟩
abbrev cX8_number : ByteArray := prog_10_method_16_code
def yX8_number : MethodName := ⟨RX8, "number", "(III)Z"⟩
abbrev cX8_sign : ByteArray := prog_10_method_17_code
def yX8_sign : MethodName := ⟨RX8, "sign", "()Z"⟩
abbrev cX8_cell : ByteArray := prog_10_method_18_code
def yX8_cell : MethodName := ⟨RX8, "cell", "()Z"⟩
abbrev cX8_readsDrain : ByteArray := prog_10_method_19_code
def yX8_readsDrain : MethodName := ⟨RX8, "readsDrain", "()Z"⟩
abbrev cX8_readsChild : ByteArray := prog_10_method_20_code
def yX8_readsChild : MethodName := ⟨RX8, "readsChild", "()Z"⟩
abbrev cX8_reads : ByteArray := prog_10_method_21_code
def yX8_reads : MethodName := ⟨RX8, "reads", "()Z"⟩
abbrev cX8_square : ByteArray := prog_10_method_22_code
def yX8_square : MethodName := ⟨RX8, "square", "()I"⟩
abbrev cX8_fault : ByteArray := prog_10_method_23_code
def yX8_fault : MethodName := ⟨RX8, "fault", "()I"⟩
abbrev cX8_isChild : ByteArray := prog_10_method_24_code
def yX8_isChild : MethodName := ⟨RX8, "isChild", "(I)Z"⟩
abbrev cX8_isCell : ByteArray := prog_10_method_25_code
def yX8_isCell : MethodName := ⟨RX8, "isCell", "(I)Z"⟩
abbrev cX8_isThrow : ByteArray := prog_10_method_26_code
def yX8_isThrow : MethodName := ⟨RX8, "isThrow", "(II)Z"⟩
abbrev cX8_lays : ByteArray := prog_10_method_27_code
def yX8_lays : MethodName := ⟨RX8, "lays", "()V"⟩
abbrev cX8_far : ByteArray := prog_10_method_28_code
def yX8_far : MethodName := ⟨RX8, "far", "(II)I"⟩
abbrev cX8_powerOf : ByteArray := prog_10_method_29_code
def yX8_powerOf : MethodName := ⟨RX8, "powerOf", "(II)I"⟩
abbrev cX8_pickerOf : ByteArray := prog_10_method_30_code
def yX8_pickerOf : MethodName := ⟨RX8, "pickerOf", "(I)I"⟩
abbrev cX8_laysPicks : ByteArray := prog_10_method_31_code
def yX8_laysPicks : MethodName := ⟨RX8, "laysPicks", "()V"⟩
abbrev cX8_laysWays : ByteArray := prog_10_method_32_code
def yX8_laysWays : MethodName := ⟨RX8, "laysWays", "(II)V"⟩
abbrev cX8_waysOf : ByteArray := prog_10_method_33_code
def yX8_waysOf : MethodName := ⟨RX8, "waysOf", "(I)I"⟩
abbrev cX8_keeps : ByteArray := prog_10_method_34_code
def yX8_keeps : MethodName := ⟨RX8, "keeps", "()V"⟩
abbrev cX8_toss : ByteArray := prog_10_method_35_code
def yX8_toss : MethodName := ⟨RX8, "toss", "(IIII)I"⟩
abbrev cX8_run : ByteArray := prog_10_method_36_code
def yX8_run : MethodName := ⟨RX8, "run", "(II)I"⟩
abbrev cX8_strengthOf : ByteArray := prog_10_method_37_code
def yX8_strengthOf : MethodName := ⟨RX8, "strengthOf", "(I)I"⟩
abbrev cX8_corner : ByteArray := prog_10_method_38_code
def yX8_corner : MethodName := ⟨RX8, "corner", "(II)I"⟩
abbrev cX8_undo : ByteArray := prog_10_method_39_code
def yX8_undo : MethodName := ⟨RX8, "undo", "()I"⟩
abbrev cX8_child : ByteArray := prog_10_method_40_code
def yX8_child : MethodName := ⟨RX8, "child", "(II)I"⟩
abbrev cX8_cell_ : ByteArray := prog_10_method_41_code
def yX8_cell_ : MethodName := ⟨RX8, "cell", "(II)I"⟩
abbrev cX8_power : ByteArray := prog_10_method_42_code
def yX8_power : MethodName := ⟨RX8, "power", "(II)I"⟩
abbrev cX8_part : ByteArray := prog_10_method_43_code
def yX8_part : MethodName := ⟨RX8, "part", "(III)I"⟩
abbrev cX8_mean : ByteArray := prog_10_method_44_code
def yX8_mean : MethodName := ⟨RX8, "mean", "(IIII)I"⟩
abbrev cX8_some : ByteArray := prog_10_method_45_code
def yX8_some : MethodName := ⟨RX8, "some", "(IIIII)I"⟩
abbrev cX8_standOf : ByteArray := prog_10_method_46_code
def yX8_standOf : MethodName := ⟨RX8, "standOf", "(I)I"⟩
abbrev cX8_stand : ByteArray := prog_10_method_47_code
def yX8_stand : MethodName := ⟨RX8, "stand", "(III)I"⟩
abbrev cX8_brothers : ByteArray := prog_10_method_48_code
def yX8_brothers : MethodName := ⟨RX8, "brothers", "(IIIII)I"⟩
abbrev cX8_settles : ByteArray := prog_10_method_49_code
def yX8_settles : MethodName := ⟨RX8, "settles", "()I"⟩
abbrev cX8_rounds : ByteArray := prog_10_method_50_code
def yX8_rounds : MethodName := ⟨RX8, "rounds", "(III)I"⟩
abbrev cX8_served : ByteArray := prog_10_method_51_code
def yX8_served : MethodName := ⟨RX8, "served", "(II)I"⟩
abbrev cX8_ones : ByteArray := prog_10_method_52_code
def yX8_ones : MethodName := ⟨RX8, "ones", "(I)I"⟩
abbrev cX8_aim : ByteArray := prog_10_method_53_code
def yX8_aim : MethodName := ⟨RX8, "aim", "(II)I"⟩
abbrev cX8_rowOf : ByteArray := prog_10_method_54_code
def yX8_rowOf : MethodName := ⟨RX8, "rowOf", "(I)I"⟩
abbrev cX8_throwsFor : ByteArray := prog_10_method_55_code
def yX8_throwsFor : MethodName := ⟨RX8, "throwsFor", "(II)I"⟩
abbrev cX8_cool : ByteArray := prog_10_method_56_code
def yX8_cool : MethodName := ⟨RX8, "cool", "(III)I"⟩
abbrev cX8_stood : ByteArray := prog_10_method_57_code
def yX8_stood : MethodName := ⟨RX8, "stood", "(IIIII)I"⟩
abbrev cX8_image : ByteArray := prog_10_method_58_code
def yX8_image : MethodName := ⟨RX8, "image", "(I)I"⟩
abbrev cX8_restore : ByteArray := prog_10_method_59_code
def yX8_restore : MethodName := ⟨RX8, "restore", "(I)I"⟩
abbrev cX8_kind : ByteArray := prog_10_method_60_code
def yX8_kind : MethodName := ⟨RX8, "kind", "(I)I"⟩
abbrev cX8_isOf : ByteArray := prog_10_method_61_code
def yX8_isOf : MethodName := ⟨RX8, "isOf", "(II)Z"⟩
abbrev cX8_as : ByteArray := prog_10_method_62_code
def yX8_as : MethodName := ⟨RX8, "as", "(II)I"⟩
abbrev cX8_begins : ByteArray := prog_10_method_63_code
def yX8_begins : MethodName := ⟨RX8, "begins", "(I)V"⟩
abbrev cX8_beginsAll : ByteArray := prog_10_method_64_code
def yX8_beginsAll : MethodName := ⟨RX8, "beginsAll", "(I)V"⟩
abbrev cX8_sizeOf : ByteArray := prog_10_method_65_code
def yX8_sizeOf : MethodName := ⟨RX8, "sizeOf", "(I)I"⟩
abbrev cX8_markOf : ByteArray := prog_10_method_66_code
def yX8_markOf : MethodName := ⟨RX8, "markOf", "(I)I"⟩
abbrev cX8_ask : ByteArray := prog_10_method_67_code
def yX8_ask : MethodName := ⟨RX8, "ask", "(II)I"⟩
abbrev cX8_trace : ByteArray := prog_10_method_68_code
def yX8_trace : MethodName := ⟨RX8, "trace", "(I)I"⟩
abbrev cX8_count : ByteArray := prog_10_method_69_code
def yX8_count : MethodName := ⟨RX8, "count", "(I)I"⟩
abbrev cX8_status : ByteArray := prog_10_method_70_code
def yX8_status : MethodName := ⟨RX8, "status", "()I"⟩
def RJx145de : String := "java/io/Serializable"
def TJx145de : u_T := fun k => match k with
  | _ => ("", "", "", false)
def tyJx145de : Nat → FieldType := fun k => match k with
  | _ => .int
abbrev wsJx145de0 : List Cond := u_ws RJx145de TJx145de 0
theorem nmJx145de : ∀ a, a < 0 → ∀ b, b < 0 → a ≠ b → (TJx145de a).2.1 ≠ (TJx145de b).2.1 := by decide +kernel
theorem tyJx145de_ok : ∀ k, k < 0 → parseFieldDescriptor (TJx145de k).2.2.1 = some (tyJx145de k) := by decide +kernel
def RJx9f9b0 : String := "java/lang/CharSequence"
def TJx9f9b0 : u_T := fun k => match k with
  | _ => ("", "", "", false)
def tyJx9f9b0 : Nat → FieldType := fun k => match k with
  | _ => .int
abbrev wsJx9f9b00 : List Cond := u_ws RJx9f9b0 TJx9f9b0 0
theorem nmJx9f9b0 : ∀ a, a < 0 → ∀ b, b < 0 → a ≠ b → (TJx9f9b0 a).2.1 ≠ (TJx9f9b0 b).2.1 := by decide +kernel
theorem tyJx9f9b0_ok : ∀ k, k < 0 → parseFieldDescriptor (TJx9f9b0 k).2.2.1 = some (tyJx9f9b0 k) := by decide +kernel
def RJxb160c : String := "java/lang/Comparable"
def TJxb160c : u_T := fun k => match k with
  | _ => ("", "", "", false)
def tyJxb160c : Nat → FieldType := fun k => match k with
  | _ => .int
abbrev wsJxb160c0 : List Cond := u_ws RJxb160c TJxb160c 0
theorem nmJxb160c : ∀ a, a < 0 → ∀ b, b < 0 → a ≠ b → (TJxb160c a).2.1 ≠ (TJxb160c b).2.1 := by decide +kernel
theorem tyJxb160c_ok : ∀ k, k < 0 → parseFieldDescriptor (TJxb160c k).2.2.1 = some (tyJxb160c k) := by decide +kernel
def RJ6 : String := "java/lang/Integer"
def TJ6 : u_T := fun k => match k with
  | _ => ("", "", "", false)
def tyJ6 : Nat → FieldType := fun k => match k with
  | _ => .int
abbrev wsJ60 : List Cond := u_ws RJ6 TJ6 0
theorem nmJ6 : ∀ a, a < 0 → ∀ b, b < 0 → a ≠ b → (TJ6 a).2.1 ≠ (TJ6 b).2.1 := by decide +kernel
theorem tyJ6_ok : ∀ k, k < 0 → parseFieldDescriptor (TJ6 k).2.2.1 = some (tyJ6 k) := by decide +kernel
abbrev cJ6_bitCount_0f7a4 : ByteArray := prog_11_method_49_code
def yJ6_bitCount_0f7a4 : MethodName := ⟨RJ6, "bitCount", "(I)I"⟩
def RJ9 : String := "java/lang/Math"
def TJ9 : u_T := fun k => match k with
  | _ => ("", "", "", false)
def tyJ9 : Nat → FieldType := fun k => match k with
  | _ => .int
abbrev wsJ90 : List Cond := u_ws RJ9 TJ9 0
theorem nmJ9 : ∀ a, a < 0 → ∀ b, b < 0 → a ≠ b → (TJ9 a).2.1 ≠ (TJ9 b).2.1 := by decide +kernel
theorem tyJ9_ok : ∀ k, k < 0 → parseFieldDescriptor (TJ9 k).2.2.1 = some (tyJ9 k) := by decide +kernel
abbrev cJ9_abs_0f7a4 : ByteArray := prog_12_method_59_code
def yJ9_abs_0f7a4 : MethodName := ⟨RJ9, "abs", "(I)I"⟩
abbrev cJ9_max_7cf53 : ByteArray := prog_12_method_65_code
def yJ9_max_7cf53 : MethodName := ⟨RJ9, "max", "(II)I"⟩
abbrev cJ9_min_7cf53 : ByteArray := prog_12_method_69_code
def yJ9_min_7cf53 : MethodName := ⟨RJ9, "min", "(II)I"⟩
def RJ0 : String := "java/lang/String"
def TJ0 : u_T := fun k => match k with
  | _ => ("", "", "", false)
def tyJ0 : Nat → FieldType := fun k => match k with
  | _ => .int
abbrev wsJ00 : List Cond := u_ws RJ0 TJ0 0
theorem nmJ0 : ∀ a, a < 0 → ∀ b, b < 0 → a ≠ b → (TJ0 a).2.1 ≠ (TJ0 b).2.1 := by decide +kernel
theorem tyJ0_ok : ∀ k, k < 0 → parseFieldDescriptor (TJ0 k).2.2.1 = some (tyJ0 k) := by decide +kernel
abbrev cJ0_length_8abf5 : ByteArray := prog_13_method_54_code
def yJ0_length_8abf5 : MethodName := ⟨RJ0, "length", "()I"⟩
abbrev cJ0_charAt_5068e : ByteArray := prog_13_method_56_code
def yJ0_charAt_5068e : MethodName := ⟨RJ0, "charAt", "(I)C"⟩
abbrev cJ0_coder_7d493 : ByteArray := prog_13_method_152_code
def yJ0_coder_7d493 : MethodName := ⟨RJ0, "coder", "()B"⟩
abbrev cJ0_isLatin1_aae02 : ByteArray := prog_13_method_154_code
def yJ0_isLatin1_aae02 : MethodName := ⟨RJ0, "isLatin1", "()Z"⟩
abbrev cJ0_checkIndex_df160 : ByteArray := prog_13_method_155_code
def yJ0_checkIndex_df160 : MethodName := ⟨RJ0, "checkIndex", "(II)V"⟩
def RJ1 : String := "java/lang/StringLatin1"
def TJ1 : u_T := fun k => match k with
  | _ => ("", "", "", false)
def tyJ1 : Nat → FieldType := fun k => match k with
  | _ => .int
abbrev wsJ10 : List Cond := u_ws RJ1 TJ1 0
theorem nmJ1 : ∀ a, a < 0 → ∀ b, b < 0 → a ≠ b → (TJ1 a).2.1 ≠ (TJ1 b).2.1 := by decide +kernel
theorem tyJ1_ok : ∀ k, k < 0 → parseFieldDescriptor (TJ1 k).2.2.1 = some (tyJ1 k) := by decide +kernel
abbrev cJ1_charAt_3b067 : ByteArray := prog_14_method_2_code
def yJ1_charAt_3b067 : MethodName := ⟨RJ1, "charAt", "([BI)C"⟩
def RJ2 : String := "java/lang/StringUTF16"
def TJ2 : u_T := fun k => match k with
  | _ => ("", "", "", false)
def tyJ2 : Nat → FieldType := fun k => match k with
  | _ => .int
abbrev wsJ20 : List Cond := u_ws RJ2 TJ2 0
theorem nmJ2 : ∀ a, a < 0 → ∀ b, b < 0 → a ≠ b → (TJ2 a).2.1 ≠ (TJ2 b).2.1 := by decide +kernel
theorem tyJ2_ok : ∀ k, k < 0 → parseFieldDescriptor (TJ2 k).2.2.1 = some (tyJ2 k) := by decide +kernel
abbrev cJ2_getChar_3b067 : ByteArray := prog_15_method_5_code
def yJ2_getChar_3b067 : MethodName := ⟨RJ2, "getChar", "([BI)C"⟩
abbrev cJ2_length_9d52b : ByteArray := prog_15_method_6_code
def yJ2_length_9d52b : MethodName := ⟨RJ2, "length", "([B)I"⟩
abbrev cJ2_charAt_3b067 : ByteArray := prog_15_method_83_code
def yJ2_charAt_3b067 : MethodName := ⟨RJ2, "charAt", "([BI)C"⟩
abbrev cJ2_checkIndex_2214a : ByteArray := prog_15_method_91_code
def yJ2_checkIndex_2214a : MethodName := ⟨RJ2, "checkIndex", "(I[B)V"⟩
def RJ10 : String := "java/lang/System"
def TJ10 : u_T := fun k => match k with
  | _ => ("", "", "", false)
def tyJ10 : Nat → FieldType := fun k => match k with
  | _ => .int
abbrev wsJ100 : List Cond := u_ws RJ10 TJ10 0
theorem nmJ10 : ∀ a, a < 0 → ∀ b, b < 0 → a ≠ b → (TJ10 a).2.1 ≠ (TJ10 b).2.1 := by decide +kernel
theorem tyJ10_ok : ∀ k, k < 0 → parseFieldDescriptor (TJ10 k).2.2.1 = some (tyJ10 k) := by decide +kernel
def RJxfd54e : String := "java/lang/constant/Constable"
def TJxfd54e : u_T := fun k => match k with
  | _ => ("", "", "", false)
def tyJxfd54e : Nat → FieldType := fun k => match k with
  | _ => .int
abbrev wsJxfd54e0 : List Cond := u_ws RJxfd54e TJxfd54e 0
theorem nmJxfd54e : ∀ a, a < 0 → ∀ b, b < 0 → a ≠ b → (TJxfd54e a).2.1 ≠ (TJxfd54e b).2.1 := by decide +kernel
theorem tyJxfd54e_ok : ∀ k, k < 0 → parseFieldDescriptor (TJxfd54e k).2.2.1 = some (tyJxfd54e k) := by decide +kernel
def RJx3cf43 : String := "java/lang/constant/ConstantDesc"
def TJx3cf43 : u_T := fun k => match k with
  | _ => ("", "", "", false)
def tyJx3cf43 : Nat → FieldType := fun k => match k with
  | _ => .int
abbrev wsJx3cf430 : List Cond := u_ws RJx3cf43 TJx3cf43 0
theorem nmJx3cf43 : ∀ a, a < 0 → ∀ b, b < 0 → a ≠ b → (TJx3cf43 a).2.1 ≠ (TJx3cf43 b).2.1 := by decide +kernel
theorem tyJx3cf43_ok : ∀ k, k < 0 → parseFieldDescriptor (TJx3cf43 k).2.2.1 = some (tyJx3cf43 k) := by decide +kernel
def RJ7 : String := "java/util/Arrays"
def TJ7 : u_T := fun k => match k with
  | _ => ("", "", "", false)
def tyJ7 : Nat → FieldType := fun k => match k with
  | _ => .int
abbrev wsJ70 : List Cond := u_ws RJ7 TJ7 0
theorem nmJ7 : ∀ a, a < 0 → ∀ b, b < 0 → a ≠ b → (TJ7 a).2.1 ≠ (TJ7 b).2.1 := by decide +kernel
theorem tyJ7_ok : ∀ k, k < 0 → parseFieldDescriptor (TJ7 k).2.2.1 = some (tyJ7 k) := by decide +kernel
abbrev cJ7_fill_53178 : ByteArray := prog_17_method_103_code
def yJ7_fill_53178 : MethodName := ⟨RJ7, "fill", "([II)V"⟩
def RJ3 : String := "jdk/internal/util/Preconditions"
def TJ3 : u_T := fun k => match k with
  | _ => ("", "", "", false)
def tyJ3 : Nat → FieldType := fun k => match k with
  | _ => .int
abbrev wsJ30 : List Cond := u_ws RJ3 TJ3 0
theorem nmJ3 : ∀ a, a < 0 → ∀ b, b < 0 → a ≠ b → (TJ3 a).2.1 ≠ (TJ3 b).2.1 := by decide +kernel
theorem tyJ3_ok : ∀ k, k < 0 → parseFieldDescriptor (TJ3 k).2.2.1 = some (tyJ3 k) := by decide +kernel
abbrev cJ3_checkIndex_8e157 : ByteArray := prog_18_method_11_code
def yJ3_checkIndex_8e157 : MethodName := ⟨RJ3, "checkIndex", "(IILjava/util/function/BiFunction;)I"⟩
def RL : String := "HotPenniesLaw"
abbrev cL_law : ByteArray := code
def yL_law : MethodName := ⟨RL, "law", "([I)Z"⟩
abbrev vwCl : List vw_C := [(RX0, TX0, 2), (RX1, TX1, 2), (RX2, TX2, 5), (RX3, TX3, 2), (RX4, TX4, 3), (RX5, TX5, 5), (RX6, TX6, 7), (RX7, TX7, 15), (RX8, TX8, 26)]
end
section
theorem dX0_init_0 : decode cX0_init 0 = .ok (.aload_n 0, 1) := by decide +kernel
theorem dX0_init_1 : decode cX0_init 1 = .ok (.invokespecial 3, 3) := by decide +kernel
theorem dX0_init_4 : decode cX0_init 4 = .ok (.aload_n 0, 1) := by decide +kernel
theorem dX0_init_5 : decode cX0_init 5 = .ok (.bipush 24, 2) := by decide +kernel
theorem dX0_init_7 : decode cX0_init 7 = .ok (.anewarray 9, 3) := by decide +kernel
theorem dX0_init_10 : decode cX0_init 10 = .ok (.putfield 11, 3) := by decide +kernel
theorem dX0_init_13 : decode cX0_init 13 = .ok (.iconst 0, 1) := by decide +kernel
theorem dX0_init_14 : decode cX0_init 14 = .ok (.istore_n 1, 1) := by decide +kernel
theorem dX0_init_15 : decode cX0_init 15 = .ok (.iload_n 1, 1) := by decide +kernel
theorem dX0_init_16 : decode cX0_init 16 = .ok (.aload_n 0, 1) := by decide +kernel
theorem dX0_init_17 : decode cX0_init 17 = .ok (.getfield 11, 3) := by decide +kernel
theorem dX0_init_20 : decode cX0_init 20 = .ok (.arraylength, 1) := by decide +kernel
theorem dX0_init_21 : decode cX0_init 21 = .ok (.if_icmp .ge 22, 3) := by decide +kernel
theorem dX0_init_24 : decode cX0_init 24 = .ok (.aload_n 0, 1) := by decide +kernel
theorem dX0_init_25 : decode cX0_init 25 = .ok (.getfield 11, 3) := by decide +kernel
theorem dX0_init_28 : decode cX0_init 28 = .ok (.iload_n 1, 1) := by decide +kernel
theorem dX0_init_29 : decode cX0_init 29 = .ok (.new 9, 3) := by decide +kernel
theorem dX0_init_32 : decode cX0_init 32 = .ok (.dup, 1) := by decide +kernel
theorem dX0_init_33 : decode cX0_init 33 = .ok (.invokespecial 17, 3) := by decide +kernel
theorem dX0_init_36 : decode cX0_init 36 = .ok (.aastore, 1) := by decide +kernel
theorem dX0_init_37 : decode cX0_init 37 = .ok (.iinc 1 1, 3) := by decide +kernel
theorem dX0_init_40 : decode cX0_init 40 = .ok (.goto (-25), 3) := by decide +kernel
theorem dX0_init_43 : decode cX0_init 43 = .ok (.return_, 1) := by decide +kernel
theorem dX0_keep_0 : decode cX0_keep 0 = .ok (.aload_n 0, 1) := by decide +kernel
theorem dX0_keep_1 : decode cX0_keep 1 = .ok (.getfield 18, 3) := by decide +kernel
theorem dX0_keep_4 : decode cX0_keep 4 = .ok (.aload_n 0, 1) := by decide +kernel
theorem dX0_keep_5 : decode cX0_keep 5 = .ok (.getfield 11, 3) := by decide +kernel
theorem dX0_keep_8 : decode cX0_keep 8 = .ok (.arraylength, 1) := by decide +kernel
theorem dX0_keep_9 : decode cX0_keep 9 = .ok (.if_icmp .lt 7, 3) := by decide +kernel
theorem dX0_keep_12 : decode cX0_keep 12 = .ok (.aload_n 0, 1) := by decide +kernel
theorem dX0_keep_13 : decode cX0_keep 13 = .ok (.invokevirtual 22, 3) := by decide +kernel
theorem dX0_keep_16 : decode cX0_keep 16 = .ok (.aload_n 0, 1) := by decide +kernel
theorem dX0_keep_17 : decode cX0_keep 17 = .ok (.aload_n 0, 1) := by decide +kernel
theorem dX0_keep_18 : decode cX0_keep 18 = .ok (.getfield 18, 3) := by decide +kernel
theorem dX0_keep_21 : decode cX0_keep 21 = .ok (.invokevirtual 25, 3) := by decide +kernel
theorem dX0_keep_24 : decode cX0_keep 24 = .ok (.astore_n 2, 1) := by decide +kernel
theorem dX0_keep_25 : decode cX0_keep 25 = .ok (.aload_n 2, 1) := by decide +kernel
theorem dX0_keep_26 : decode cX0_keep 26 = .ok (.ifnull 18, 3) := by decide +kernel
theorem dX0_keep_29 : decode cX0_keep 29 = .ok (.aload_n 2, 1) := by decide +kernel
theorem dX0_keep_30 : decode cX0_keep 30 = .ok (.aload_n 1, 1) := by decide +kernel
theorem dX0_keep_31 : decode cX0_keep 31 = .ok (.invokevirtual 29, 3) := by decide +kernel
theorem dX0_keep_34 : decode cX0_keep 34 = .ok (.aload_n 0, 1) := by decide +kernel
theorem dX0_keep_35 : decode cX0_keep 35 = .ok (.dup, 1) := by decide +kernel
theorem dX0_keep_36 : decode cX0_keep 36 = .ok (.getfield 18, 3) := by decide +kernel
theorem dX0_keep_39 : decode cX0_keep 39 = .ok (.iconst 1, 1) := by decide +kernel
theorem dX0_keep_40 : decode cX0_keep 40 = .ok (.iadd, 1) := by decide +kernel
theorem dX0_keep_41 : decode cX0_keep 41 = .ok (.putfield 18, 3) := by decide +kernel
theorem dX0_keep_44 : decode cX0_keep 44 = .ok (.return_, 1) := by decide +kernel
theorem dX0_forgetOldest_0 : decode cX0_forgetOldest 0 = .ok (.iconst 1, 1) := by decide +kernel
theorem dX0_forgetOldest_1 : decode cX0_forgetOldest 1 = .ok (.istore_n 1, 1) := by decide +kernel
theorem dX0_forgetOldest_2 : decode cX0_forgetOldest 2 = .ok (.iload_n 1, 1) := by decide +kernel
theorem dX0_forgetOldest_3 : decode cX0_forgetOldest 3 = .ok (.aload_n 0, 1) := by decide +kernel
theorem dX0_forgetOldest_4 : decode cX0_forgetOldest 4 = .ok (.getfield 11, 3) := by decide +kernel
theorem dX0_forgetOldest_7 : decode cX0_forgetOldest 7 = .ok (.arraylength, 1) := by decide +kernel
theorem dX0_forgetOldest_8 : decode cX0_forgetOldest 8 = .ok (.if_icmp .ge 39, 3) := by decide +kernel
theorem dX0_forgetOldest_11 : decode cX0_forgetOldest 11 = .ok (.aload_n 0, 1) := by decide +kernel
theorem dX0_forgetOldest_12 : decode cX0_forgetOldest 12 = .ok (.getfield 11, 3) := by decide +kernel
theorem dX0_forgetOldest_15 : decode cX0_forgetOldest 15 = .ok (.iload_n 1, 1) := by decide +kernel
theorem dX0_forgetOldest_16 : decode cX0_forgetOldest 16 = .ok (.aaload, 1) := by decide +kernel
theorem dX0_forgetOldest_17 : decode cX0_forgetOldest 17 = .ok (.astore_n 2, 1) := by decide +kernel
theorem dX0_forgetOldest_18 : decode cX0_forgetOldest 18 = .ok (.aload_n 0, 1) := by decide +kernel
theorem dX0_forgetOldest_19 : decode cX0_forgetOldest 19 = .ok (.getfield 11, 3) := by decide +kernel
theorem dX0_forgetOldest_22 : decode cX0_forgetOldest 22 = .ok (.iload_n 1, 1) := by decide +kernel
theorem dX0_forgetOldest_23 : decode cX0_forgetOldest 23 = .ok (.aload_n 0, 1) := by decide +kernel
theorem dX0_forgetOldest_24 : decode cX0_forgetOldest 24 = .ok (.getfield 11, 3) := by decide +kernel
theorem dX0_forgetOldest_27 : decode cX0_forgetOldest 27 = .ok (.iload_n 1, 1) := by decide +kernel
theorem dX0_forgetOldest_28 : decode cX0_forgetOldest 28 = .ok (.iconst 1, 1) := by decide +kernel
theorem dX0_forgetOldest_29 : decode cX0_forgetOldest 29 = .ok (.isub, 1) := by decide +kernel
theorem dX0_forgetOldest_30 : decode cX0_forgetOldest 30 = .ok (.aaload, 1) := by decide +kernel
theorem dX0_forgetOldest_31 : decode cX0_forgetOldest 31 = .ok (.aastore, 1) := by decide +kernel
theorem dX0_forgetOldest_32 : decode cX0_forgetOldest 32 = .ok (.aload_n 0, 1) := by decide +kernel
theorem dX0_forgetOldest_33 : decode cX0_forgetOldest 33 = .ok (.getfield 11, 3) := by decide +kernel
theorem dX0_forgetOldest_36 : decode cX0_forgetOldest 36 = .ok (.iload_n 1, 1) := by decide +kernel
theorem dX0_forgetOldest_37 : decode cX0_forgetOldest 37 = .ok (.iconst 1, 1) := by decide +kernel
theorem dX0_forgetOldest_38 : decode cX0_forgetOldest 38 = .ok (.isub, 1) := by decide +kernel
theorem dX0_forgetOldest_39 : decode cX0_forgetOldest 39 = .ok (.aload_n 2, 1) := by decide +kernel
theorem dX0_forgetOldest_40 : decode cX0_forgetOldest 40 = .ok (.aastore, 1) := by decide +kernel
theorem dX0_forgetOldest_41 : decode cX0_forgetOldest 41 = .ok (.iinc 1 1, 3) := by decide +kernel
theorem dX0_forgetOldest_44 : decode cX0_forgetOldest 44 = .ok (.goto (-42), 3) := by decide +kernel
theorem dX0_forgetOldest_47 : decode cX0_forgetOldest 47 = .ok (.aload_n 0, 1) := by decide +kernel
theorem dX0_forgetOldest_48 : decode cX0_forgetOldest 48 = .ok (.dup, 1) := by decide +kernel
theorem dX0_forgetOldest_49 : decode cX0_forgetOldest 49 = .ok (.getfield 18, 3) := by decide +kernel
theorem dX0_forgetOldest_52 : decode cX0_forgetOldest 52 = .ok (.iconst 1, 1) := by decide +kernel
theorem dX0_forgetOldest_53 : decode cX0_forgetOldest 53 = .ok (.isub, 1) := by decide +kernel
theorem dX0_forgetOldest_54 : decode cX0_forgetOldest 54 = .ok (.putfield 18, 3) := by decide +kernel
theorem dX0_forgetOldest_57 : decode cX0_forgetOldest 57 = .ok (.return_, 1) := by decide +kernel
theorem dX0_takeBack_0 : decode cX0_takeBack 0 = .ok (.aload_n 0, 1) := by decide +kernel
theorem dX0_takeBack_1 : decode cX0_takeBack 1 = .ok (.aload_n 0, 1) := by decide +kernel
theorem dX0_takeBack_2 : decode cX0_takeBack 2 = .ok (.getfield 18, 3) := by decide +kernel
theorem dX0_takeBack_5 : decode cX0_takeBack 5 = .ok (.iconst 1, 1) := by decide +kernel
theorem dX0_takeBack_6 : decode cX0_takeBack 6 = .ok (.isub, 1) := by decide +kernel
theorem dX0_takeBack_7 : decode cX0_takeBack 7 = .ok (.invokevirtual 25, 3) := by decide +kernel
theorem dX0_takeBack_10 : decode cX0_takeBack 10 = .ok (.astore_n 2, 1) := by decide +kernel
theorem dX0_takeBack_11 : decode cX0_takeBack 11 = .ok (.aload_n 2, 1) := by decide +kernel
theorem dX0_takeBack_12 : decode cX0_takeBack 12 = .ok (.ifnonnull 5, 3) := by decide +kernel
theorem dX0_takeBack_15 : decode cX0_takeBack 15 = .ok (.iconst 0, 1) := by decide +kernel
theorem dX0_takeBack_16 : decode cX0_takeBack 16 = .ok (.ireturn, 1) := by decide +kernel
theorem dX0_takeBack_17 : decode cX0_takeBack 17 = .ok (.aload_n 1, 1) := by decide +kernel
theorem dX0_takeBack_18 : decode cX0_takeBack 18 = .ok (.aload_n 2, 1) := by decide +kernel
theorem dX0_takeBack_19 : decode cX0_takeBack 19 = .ok (.invokevirtual 29, 3) := by decide +kernel
theorem dX0_takeBack_22 : decode cX0_takeBack 22 = .ok (.aload_n 0, 1) := by decide +kernel
theorem dX0_takeBack_23 : decode cX0_takeBack 23 = .ok (.dup, 1) := by decide +kernel
theorem dX0_takeBack_24 : decode cX0_takeBack 24 = .ok (.getfield 18, 3) := by decide +kernel
theorem dX0_takeBack_27 : decode cX0_takeBack 27 = .ok (.iconst 1, 1) := by decide +kernel
theorem dX0_takeBack_28 : decode cX0_takeBack 28 = .ok (.isub, 1) := by decide +kernel
theorem dX0_takeBack_29 : decode cX0_takeBack 29 = .ok (.putfield 18, 3) := by decide +kernel
theorem dX0_takeBack_32 : decode cX0_takeBack 32 = .ok (.iconst 1, 1) := by decide +kernel
theorem dX0_takeBack_33 : decode cX0_takeBack 33 = .ok (.ireturn, 1) := by decide +kernel
theorem dX0_at_0 : decode cX0_at 0 = .ok (.iload_n 1, 1) := by decide +kernel
theorem dX0_at_1 : decode cX0_at 1 = .ok (.ifCond .lt 21, 3) := by decide +kernel
theorem dX0_at_4 : decode cX0_at 4 = .ok (.iload_n 1, 1) := by decide +kernel
theorem dX0_at_5 : decode cX0_at 5 = .ok (.aload_n 0, 1) := by decide +kernel
theorem dX0_at_6 : decode cX0_at 6 = .ok (.getfield 11, 3) := by decide +kernel
theorem dX0_at_9 : decode cX0_at 9 = .ok (.arraylength, 1) := by decide +kernel
theorem dX0_at_10 : decode cX0_at 10 = .ok (.if_icmp .ge 12, 3) := by decide +kernel
theorem dX0_at_13 : decode cX0_at 13 = .ok (.aload_n 0, 1) := by decide +kernel
theorem dX0_at_14 : decode cX0_at 14 = .ok (.getfield 11, 3) := by decide +kernel
theorem dX0_at_17 : decode cX0_at 17 = .ok (.iload_n 1, 1) := by decide +kernel
theorem dX0_at_18 : decode cX0_at 18 = .ok (.aaload, 1) := by decide +kernel
theorem dX0_at_19 : decode cX0_at 19 = .ok (.goto 4, 3) := by decide +kernel
theorem dX0_at_22 : decode cX0_at 22 = .ok (.aconst_null, 1) := by decide +kernel
theorem dX0_at_23 : decode cX0_at 23 = .ok (.areturn, 1) := by decide +kernel
theorem dX1_init_0 : decode cX1_init 0 = .ok (.aload_n 0, 1) := by decide +kernel
theorem dX1_init_1 : decode cX1_init 1 = .ok (.invokespecial 3, 3) := by decide +kernel
theorem dX1_init_4 : decode cX1_init 4 = .ok (.aload_n 0, 1) := by decide +kernel
theorem dX1_init_5 : decode cX1_init 5 = .ok (.bipush 16, 2) := by decide +kernel
theorem dX1_init_7 : decode cX1_init 7 = .ok (.newarray .int, 2) := by decide +kernel
theorem dX1_init_9 : decode cX1_init 9 = .ok (.putfield 9, 3) := by decide +kernel
theorem dX1_init_12 : decode cX1_init 12 = .ok (.return_, 1) := by decide +kernel
theorem dX1_begin_0 : decode cX1_begin 0 = .ok (.aload_n 0, 1) := by decide +kernel
theorem dX1_begin_1 : decode cX1_begin 1 = .ok (.getfield 15, 3) := by decide +kernel
theorem dX1_begin_4 : decode cX1_begin 4 = .ok (.ifCond .lt 35, 3) := by decide +kernel
theorem dX1_begin_7 : decode cX1_begin 7 = .ok (.aload_n 0, 1) := by decide +kernel
theorem dX1_begin_8 : decode cX1_begin 8 = .ok (.getfield 15, 3) := by decide +kernel
theorem dX1_begin_11 : decode cX1_begin 11 = .ok (.aload_n 0, 1) := by decide +kernel
theorem dX1_begin_12 : decode cX1_begin 12 = .ok (.getfield 9, 3) := by decide +kernel
theorem dX1_begin_15 : decode cX1_begin 15 = .ok (.arraylength, 1) := by decide +kernel
theorem dX1_begin_16 : decode cX1_begin 16 = .ok (.if_icmp .ge 23, 3) := by decide +kernel
theorem dX1_begin_19 : decode cX1_begin 19 = .ok (.aload_n 0, 1) := by decide +kernel
theorem dX1_begin_20 : decode cX1_begin 20 = .ok (.getfield 9, 3) := by decide +kernel
theorem dX1_begin_23 : decode cX1_begin 23 = .ok (.aload_n 0, 1) := by decide +kernel
theorem dX1_begin_24 : decode cX1_begin 24 = .ok (.getfield 15, 3) := by decide +kernel
theorem dX1_begin_27 : decode cX1_begin 27 = .ok (.iload_n 1, 1) := by decide +kernel
theorem dX1_begin_28 : decode cX1_begin 28 = .ok (.iastore, 1) := by decide +kernel
theorem dX1_begin_29 : decode cX1_begin 29 = .ok (.aload_n 0, 1) := by decide +kernel
theorem dX1_begin_30 : decode cX1_begin 30 = .ok (.dup, 1) := by decide +kernel
theorem dX1_begin_31 : decode cX1_begin 31 = .ok (.getfield 15, 3) := by decide +kernel
theorem dX1_begin_34 : decode cX1_begin 34 = .ok (.iconst 1, 1) := by decide +kernel
theorem dX1_begin_35 : decode cX1_begin 35 = .ok (.iadd, 1) := by decide +kernel
theorem dX1_begin_36 : decode cX1_begin 36 = .ok (.putfield 15, 3) := by decide +kernel
theorem dX1_begin_39 : decode cX1_begin 39 = .ok (.return_, 1) := by decide +kernel
theorem dX1_bodyAt_0 : decode cX1_bodyAt 0 = .ok (.iload_n 1, 1) := by decide +kernel
theorem dX1_bodyAt_1 : decode cX1_bodyAt 1 = .ok (.ifCond .lt 29, 3) := by decide +kernel
theorem dX1_bodyAt_4 : decode cX1_bodyAt 4 = .ok (.iload_n 1, 1) := by decide +kernel
theorem dX1_bodyAt_5 : decode cX1_bodyAt 5 = .ok (.aload_n 0, 1) := by decide +kernel
theorem dX1_bodyAt_6 : decode cX1_bodyAt 6 = .ok (.getfield 15, 3) := by decide +kernel
theorem dX1_bodyAt_9 : decode cX1_bodyAt 9 = .ok (.if_icmp .ge 21, 3) := by decide +kernel
theorem dX1_bodyAt_12 : decode cX1_bodyAt 12 = .ok (.iload_n 1, 1) := by decide +kernel
theorem dX1_bodyAt_13 : decode cX1_bodyAt 13 = .ok (.aload_n 0, 1) := by decide +kernel
theorem dX1_bodyAt_14 : decode cX1_bodyAt 14 = .ok (.getfield 9, 3) := by decide +kernel
theorem dX1_bodyAt_17 : decode cX1_bodyAt 17 = .ok (.arraylength, 1) := by decide +kernel
theorem dX1_bodyAt_18 : decode cX1_bodyAt 18 = .ok (.if_icmp .ge 12, 3) := by decide +kernel
theorem dX1_bodyAt_21 : decode cX1_bodyAt 21 = .ok (.aload_n 0, 1) := by decide +kernel
theorem dX1_bodyAt_22 : decode cX1_bodyAt 22 = .ok (.getfield 9, 3) := by decide +kernel
theorem dX1_bodyAt_25 : decode cX1_bodyAt 25 = .ok (.iload_n 1, 1) := by decide +kernel
theorem dX1_bodyAt_26 : decode cX1_bodyAt 26 = .ok (.iaload, 1) := by decide +kernel
theorem dX1_bodyAt_27 : decode cX1_bodyAt 27 = .ok (.goto 5, 3) := by decide +kernel
theorem dX1_bodyAt_30 : decode cX1_bodyAt 30 = .ok (.ldc 19, 2) := by decide +kernel
theorem dX1_bodyAt_32 : decode cX1_bodyAt 32 = .ok (.ireturn, 1) := by decide +kernel
theorem dX1_askSize_0 : decode cX1_askSize 0 = .ok (.aload_n 1, 1) := by decide +kernel
theorem dX1_askSize_1 : decode cX1_askSize 1 = .ok (.getfield 20, 3) := by decide +kernel
theorem dX1_askSize_4 : decode cX1_askSize 4 = .ok (.tableswitch 61 1 5 #[36, 42, 36, 55, 55], 36) := by decide +kernel
theorem dX1_askSize_40 : decode cX1_askSize 40 = .ok (.aload_n 0, 1) := by decide +kernel
theorem dX1_askSize_41 : decode cX1_askSize 41 = .ok (.aload_n 1, 1) := by decide +kernel
theorem dX1_askSize_42 : decode cX1_askSize 42 = .ok (.invokevirtual 25, 3) := by decide +kernel
theorem dX1_askSize_45 : decode cX1_askSize 45 = .ok (.ireturn, 1) := by decide +kernel
theorem dX1_askSize_46 : decode cX1_askSize 46 = .ok (.aload_n 0, 1) := by decide +kernel
theorem dX1_askSize_47 : decode cX1_askSize 47 = .ok (.bipush 12, 2) := by decide +kernel
theorem dX1_askSize_49 : decode cX1_askSize 49 = .ok (.invokevirtual 29, 3) := by decide +kernel
theorem dX1_askSize_52 : decode cX1_askSize 52 = .ok (.aload_n 0, 1) := by decide +kernel
theorem dX1_askSize_53 : decode cX1_askSize 53 = .ok (.aload_n 1, 1) := by decide +kernel
theorem dX1_askSize_54 : decode cX1_askSize 54 = .ok (.invokevirtual 25, 3) := by decide +kernel
theorem dX1_askSize_57 : decode cX1_askSize 57 = .ok (.ineg, 1) := by decide +kernel
theorem dX1_askSize_58 : decode cX1_askSize 58 = .ok (.ireturn, 1) := by decide +kernel
theorem dX1_askSize_59 : decode cX1_askSize 59 = .ok (.aload_n 0, 1) := by decide +kernel
theorem dX1_askSize_60 : decode cX1_askSize 60 = .ok (.aload_n 1, 1) := by decide +kernel
theorem dX1_askSize_61 : decode cX1_askSize 61 = .ok (.invokevirtual 33, 3) := by decide +kernel
theorem dX1_askSize_64 : decode cX1_askSize 64 = .ok (.ireturn, 1) := by decide +kernel
theorem dX1_askSize_65 : decode cX1_askSize 65 = .ok (.aload_n 0, 1) := by decide +kernel
theorem dX1_askSize_66 : decode cX1_askSize 66 = .ok (.aload_n 1, 1) := by decide +kernel
theorem dX1_askSize_67 : decode cX1_askSize 67 = .ok (.invokevirtual 36, 3) := by decide +kernel
theorem dX1_askSize_70 : decode cX1_askSize 70 = .ok (.ireturn, 1) := by decide +kernel
theorem dX1_askGloveSize_0 : decode cX1_askGloveSize 0 = .ok (.aload_n 1, 1) := by decide +kernel
theorem dX1_askGloveSize_1 : decode cX1_askGloveSize 1 = .ok (.getfield 20, 3) := by decide +kernel
theorem dX1_askGloveSize_4 : decode cX1_askGloveSize 4 = .ok (.iconst 5, 1) := by decide +kernel
theorem dX1_askGloveSize_5 : decode cX1_askGloveSize 5 = .ok (.if_icmp .ne 17, 3) := by decide +kernel
theorem dX1_askGloveSize_8 : decode cX1_askGloveSize 8 = .ok (.aload_n 0, 1) := by decide +kernel
theorem dX1_askGloveSize_9 : decode cX1_askGloveSize 9 = .ok (.bipush 14, 2) := by decide +kernel
theorem dX1_askGloveSize_11 : decode cX1_askGloveSize 11 = .ok (.invokevirtual 29, 3) := by decide +kernel
theorem dX1_askGloveSize_14 : decode cX1_askGloveSize 14 = .ok (.iconst 2, 1) := by decide +kernel
theorem dX1_askGloveSize_15 : decode cX1_askGloveSize 15 = .ok (.aload_n 0, 1) := by decide +kernel
theorem dX1_askGloveSize_16 : decode cX1_askGloveSize 16 = .ok (.aload_n 1, 1) := by decide +kernel
theorem dX1_askGloveSize_17 : decode cX1_askGloveSize 17 = .ok (.invokevirtual 39, 3) := by decide +kernel
theorem dX1_askGloveSize_20 : decode cX1_askGloveSize 20 = .ok (.imul, 1) := by decide +kernel
theorem dX1_askGloveSize_21 : decode cX1_askGloveSize 21 = .ok (.ireturn, 1) := by decide +kernel
theorem dX1_askGloveSize_22 : decode cX1_askGloveSize 22 = .ok (.aload_n 0, 1) := by decide +kernel
theorem dX1_askGloveSize_23 : decode cX1_askGloveSize 23 = .ok (.aload_n 1, 1) := by decide +kernel
theorem dX1_askGloveSize_24 : decode cX1_askGloveSize 24 = .ok (.invokevirtual 39, 3) := by decide +kernel
theorem dX1_askGloveSize_27 : decode cX1_askGloveSize 27 = .ok (.ireturn, 1) := by decide +kernel
theorem dX1_askMark_0 : decode cX1_askMark 0 = .ok (.aload_n 1, 1) := by decide +kernel
theorem dX1_askMark_1 : decode cX1_askMark 1 = .ok (.getfield 20, 3) := by decide +kernel
theorem dX1_askMark_4 : decode cX1_askMark 4 = .ok (.tableswitch 60 1 5 #[36, 36, 36, 42, 42], 36) := by decide +kernel
theorem dX1_askMark_40 : decode cX1_askMark 40 = .ok (.aload_n 0, 1) := by decide +kernel
theorem dX1_askMark_41 : decode cX1_askMark 41 = .ok (.aload_n 1, 1) := by decide +kernel
theorem dX1_askMark_42 : decode cX1_askMark 42 = .ok (.invokevirtual 42, 3) := by decide +kernel
theorem dX1_askMark_45 : decode cX1_askMark 45 = .ok (.ireturn, 1) := by decide +kernel
theorem dX1_askMark_46 : decode cX1_askMark 46 = .ok (.aload_n 0, 1) := by decide +kernel
theorem dX1_askMark_47 : decode cX1_askMark 47 = .ok (.bipush 23, 2) := by decide +kernel
theorem dX1_askMark_49 : decode cX1_askMark 49 = .ok (.invokevirtual 29, 3) := by decide +kernel
theorem dX1_askMark_52 : decode cX1_askMark 52 = .ok (.aload_n 0, 1) := by decide +kernel
theorem dX1_askMark_53 : decode cX1_askMark 53 = .ok (.aload_n 1, 1) := by decide +kernel
theorem dX1_askMark_54 : decode cX1_askMark 54 = .ok (.invokevirtual 45, 3) := by decide +kernel
theorem dX1_askMark_57 : decode cX1_askMark 57 = .ok (.aload_n 0, 1) := by decide +kernel
theorem dX1_askMark_58 : decode cX1_askMark 58 = .ok (.aload_n 1, 1) := by decide +kernel
theorem dX1_askMark_59 : decode cX1_askMark 59 = .ok (.invokevirtual 33, 3) := by decide +kernel
theorem dX1_askMark_62 : decode cX1_askMark 62 = .ok (.isub, 1) := by decide +kernel
theorem dX1_askMark_63 : decode cX1_askMark 63 = .ok (.ireturn, 1) := by decide +kernel
theorem dX1_askMark_64 : decode cX1_askMark 64 = .ok (.aload_n 0, 1) := by decide +kernel
theorem dX1_askMark_65 : decode cX1_askMark 65 = .ok (.aload_n 1, 1) := by decide +kernel
theorem dX1_askMark_66 : decode cX1_askMark 66 = .ok (.invokevirtual 45, 3) := by decide +kernel
theorem dX1_askMark_69 : decode cX1_askMark 69 = .ok (.ireturn, 1) := by decide +kernel
theorem dX1_askSmallMark_0 : decode cX1_askSmallMark 0 = .ok (.aload_n 1, 1) := by decide +kernel
theorem dX1_askSmallMark_1 : decode cX1_askSmallMark 1 = .ok (.getfield 20, 3) := by decide +kernel
theorem dX1_askSmallMark_4 : decode cX1_askSmallMark 4 = .ok (.lookupswitch 58 #[(2, 28), (3, 42)], 28) := by decide +kernel
theorem dX1_askSmallMark_32 : decode cX1_askSmallMark 32 = .ok (.aload_n 0, 1) := by decide +kernel
theorem dX1_askSmallMark_33 : decode cX1_askSmallMark 33 = .ok (.bipush 24, 2) := by decide +kernel
theorem dX1_askSmallMark_35 : decode cX1_askSmallMark 35 = .ok (.invokevirtual 29, 3) := by decide +kernel
theorem dX1_askSmallMark_38 : decode cX1_askSmallMark 38 = .ok (.iconst 2, 1) := by decide +kernel
theorem dX1_askSmallMark_39 : decode cX1_askSmallMark 39 = .ok (.aload_n 0, 1) := by decide +kernel
theorem dX1_askSmallMark_40 : decode cX1_askSmallMark 40 = .ok (.aload_n 1, 1) := by decide +kernel
theorem dX1_askSmallMark_41 : decode cX1_askSmallMark 41 = .ok (.invokevirtual 48, 3) := by decide +kernel
theorem dX1_askSmallMark_44 : decode cX1_askSmallMark 44 = .ok (.imul, 1) := by decide +kernel
theorem dX1_askSmallMark_45 : decode cX1_askSmallMark 45 = .ok (.ireturn, 1) := by decide +kernel
theorem dX1_askSmallMark_46 : decode cX1_askSmallMark 46 = .ok (.aload_n 0, 1) := by decide +kernel
theorem dX1_askSmallMark_47 : decode cX1_askSmallMark 47 = .ok (.bipush 22, 2) := by decide +kernel
theorem dX1_askSmallMark_49 : decode cX1_askSmallMark 49 = .ok (.invokevirtual 29, 3) := by decide +kernel
theorem dX1_askSmallMark_52 : decode cX1_askSmallMark 52 = .ok (.aload_n 0, 1) := by decide +kernel
theorem dX1_askSmallMark_53 : decode cX1_askSmallMark 53 = .ok (.aload_n 1, 1) := by decide +kernel
theorem dX1_askSmallMark_54 : decode cX1_askSmallMark 54 = .ok (.invokevirtual 48, 3) := by decide +kernel
theorem dX1_askSmallMark_57 : decode cX1_askSmallMark 57 = .ok (.sipush 1000, 3) := by decide +kernel
theorem dX1_askSmallMark_60 : decode cX1_askSmallMark 60 = .ok (.isub, 1) := by decide +kernel
theorem dX1_askSmallMark_61 : decode cX1_askSmallMark 61 = .ok (.ireturn, 1) := by decide +kernel
theorem dX1_askSmallMark_62 : decode cX1_askSmallMark 62 = .ok (.aload_n 0, 1) := by decide +kernel
theorem dX1_askSmallMark_63 : decode cX1_askSmallMark 63 = .ok (.aload_n 1, 1) := by decide +kernel
theorem dX1_askSmallMark_64 : decode cX1_askSmallMark 64 = .ok (.invokevirtual 48, 3) := by decide +kernel
theorem dX1_askSmallMark_67 : decode cX1_askSmallMark 67 = .ok (.ireturn, 1) := by decide +kernel
theorem dX1_body10_0 : decode cX1_body10 0 = .ok (.aload_n 0, 1) := by decide +kernel
theorem dX1_body10_1 : decode cX1_body10 1 = .ok (.bipush 10, 2) := by decide +kernel
theorem dX1_body10_3 : decode cX1_body10 3 = .ok (.invokevirtual 29, 3) := by decide +kernel
theorem dX1_body10_6 : decode cX1_body10 6 = .ok (.aload_n 1, 1) := by decide +kernel
theorem dX1_body10_7 : decode cX1_body10 7 = .ok (.getfield 51, 3) := by decide +kernel
theorem dX1_body10_10 : decode cX1_body10 10 = .ok (.ireturn, 1) := by decide +kernel
theorem dX1_body11_0 : decode cX1_body11 0 = .ok (.aload_n 0, 1) := by decide +kernel
theorem dX1_body11_1 : decode cX1_body11 1 = .ok (.bipush 11, 2) := by decide +kernel
theorem dX1_body11_3 : decode cX1_body11 3 = .ok (.invokevirtual 29, 3) := by decide +kernel
theorem dX1_body11_6 : decode cX1_body11 6 = .ok (.aload_n 0, 1) := by decide +kernel
theorem dX1_body11_7 : decode cX1_body11 7 = .ok (.aload_n 1, 1) := by decide +kernel
theorem dX1_body11_8 : decode cX1_body11 8 = .ok (.invokevirtual 36, 3) := by decide +kernel
theorem dX1_body11_11 : decode cX1_body11 11 = .ok (.aload_n 0, 1) := by decide +kernel
theorem dX1_body11_12 : decode cX1_body11 12 = .ok (.aload_n 1, 1) := by decide +kernel
theorem dX1_body11_13 : decode cX1_body11 13 = .ok (.invokevirtual 42, 3) := by decide +kernel
theorem dX1_body11_16 : decode cX1_body11 16 = .ok (.iadd, 1) := by decide +kernel
theorem dX1_body11_17 : decode cX1_body11 17 = .ok (.ireturn, 1) := by decide +kernel
theorem dX1_body13_0 : decode cX1_body13 0 = .ok (.aload_n 0, 1) := by decide +kernel
theorem dX1_body13_1 : decode cX1_body13 1 = .ok (.bipush 13, 2) := by decide +kernel
theorem dX1_body13_3 : decode cX1_body13 3 = .ok (.invokevirtual 29, 3) := by decide +kernel
theorem dX1_body13_6 : decode cX1_body13 6 = .ok (.aload_n 0, 1) := by decide +kernel
theorem dX1_body13_7 : decode cX1_body13 7 = .ok (.aload_n 1, 1) := by decide +kernel
theorem dX1_body13_8 : decode cX1_body13 8 = .ok (.invokevirtual 36, 3) := by decide +kernel
theorem dX1_body13_11 : decode cX1_body13 11 = .ok (.bipush 100, 2) := by decide +kernel
theorem dX1_body13_13 : decode cX1_body13 13 = .ok (.isub, 1) := by decide +kernel
theorem dX1_body13_14 : decode cX1_body13 14 = .ok (.ireturn, 1) := by decide +kernel
theorem dX1_body20_0 : decode cX1_body20 0 = .ok (.aload_n 0, 1) := by decide +kernel
theorem dX1_body20_1 : decode cX1_body20 1 = .ok (.bipush 20, 2) := by decide +kernel
theorem dX1_body20_3 : decode cX1_body20 3 = .ok (.invokevirtual 29, 3) := by decide +kernel
theorem dX1_body20_6 : decode cX1_body20 6 = .ok (.aload_n 1, 1) := by decide +kernel
theorem dX1_body20_7 : decode cX1_body20 7 = .ok (.getfield 54, 3) := by decide +kernel
theorem dX1_body20_10 : decode cX1_body20 10 = .ok (.ireturn, 1) := by decide +kernel
theorem dX1_body21_0 : decode cX1_body21 0 = .ok (.aload_n 0, 1) := by decide +kernel
theorem dX1_body21_1 : decode cX1_body21 1 = .ok (.bipush 21, 2) := by decide +kernel
theorem dX1_body21_3 : decode cX1_body21 3 = .ok (.invokevirtual 29, 3) := by decide +kernel
theorem dX1_body21_6 : decode cX1_body21 6 = .ok (.aload_n 0, 1) := by decide +kernel
theorem dX1_body21_7 : decode cX1_body21 7 = .ok (.aload_n 1, 1) := by decide +kernel
theorem dX1_body21_8 : decode cX1_body21 8 = .ok (.invokevirtual 45, 3) := by decide +kernel
theorem dX1_body21_11 : decode cX1_body21 11 = .ok (.aload_n 1, 1) := by decide +kernel
theorem dX1_body21_12 : decode cX1_body21 12 = .ok (.getfield 57, 3) := by decide +kernel
theorem dX1_body21_15 : decode cX1_body21 15 = .ok (.iadd, 1) := by decide +kernel
theorem dX1_body21_16 : decode cX1_body21 16 = .ok (.ireturn, 1) := by decide +kernel
theorem dX2_init_0 : decode cX2_init 0 = .ok (.aload_n 0, 1) := by decide +kernel
theorem dX2_init_1 : decode cX2_init 1 = .ok (.invokespecial 3, 3) := by decide +kernel
theorem dX2_init_4 : decode cX2_init 4 = .ok (.aload_n 0, 1) := by decide +kernel
theorem dX2_init_5 : decode cX2_init 5 = .ok (.iload_n 1, 1) := by decide +kernel
theorem dX2_init_6 : decode cX2_init 6 = .ok (.putfield 9, 3) := by decide +kernel
theorem dX2_init_9 : decode cX2_init 9 = .ok (.return_, 1) := by decide +kernel
theorem dX2_takeFrom_0 : decode cX2_takeFrom 0 = .ok (.aload_n 0, 1) := by decide +kernel
theorem dX2_takeFrom_1 : decode cX2_takeFrom 1 = .ok (.aload_n 1, 1) := by decide +kernel
theorem dX2_takeFrom_2 : decode cX2_takeFrom 2 = .ok (.getfield 15, 3) := by decide +kernel
theorem dX2_takeFrom_5 : decode cX2_takeFrom 5 = .ok (.putfield 15, 3) := by decide +kernel
theorem dX2_takeFrom_8 : decode cX2_takeFrom 8 = .ok (.aload_n 0, 1) := by decide +kernel
theorem dX2_takeFrom_9 : decode cX2_takeFrom 9 = .ok (.aload_n 1, 1) := by decide +kernel
theorem dX2_takeFrom_10 : decode cX2_takeFrom 10 = .ok (.getfield 18, 3) := by decide +kernel
theorem dX2_takeFrom_13 : decode cX2_takeFrom 13 = .ok (.putfield 18, 3) := by decide +kernel
theorem dX2_takeFrom_16 : decode cX2_takeFrom 16 = .ok (.aload_n 0, 1) := by decide +kernel
theorem dX2_takeFrom_17 : decode cX2_takeFrom 17 = .ok (.aload_n 1, 1) := by decide +kernel
theorem dX2_takeFrom_18 : decode cX2_takeFrom 18 = .ok (.getfield 21, 3) := by decide +kernel
theorem dX2_takeFrom_21 : decode cX2_takeFrom 21 = .ok (.putfield 21, 3) := by decide +kernel
theorem dX2_takeFrom_24 : decode cX2_takeFrom 24 = .ok (.aload_n 0, 1) := by decide +kernel
theorem dX2_takeFrom_25 : decode cX2_takeFrom 25 = .ok (.aload_n 1, 1) := by decide +kernel
theorem dX2_takeFrom_26 : decode cX2_takeFrom 26 = .ok (.getfield 24, 3) := by decide +kernel
theorem dX2_takeFrom_29 : decode cX2_takeFrom 29 = .ok (.putfield 24, 3) := by decide +kernel
theorem dX2_takeFrom_32 : decode cX2_takeFrom 32 = .ok (.return_, 1) := by decide +kernel
theorem dX2_might_0 : decode cX2_might 0 = .ok (.aload_n 0, 1) := by decide +kernel
theorem dX2_might_1 : decode cX2_might 1 = .ok (.getfield 15, 3) := by decide +kernel
theorem dX2_might_4 : decode cX2_might 4 = .ok (.iconst 2, 1) := by decide +kernel
theorem dX2_might_5 : decode cX2_might 5 = .ok (.if_icmp .ne 12, 3) := by decide +kernel
theorem dX2_might_8 : decode cX2_might 8 = .ok (.iconst 2, 1) := by decide +kernel
theorem dX2_might_9 : decode cX2_might 9 = .ok (.aload_n 0, 1) := by decide +kernel
theorem dX2_might_10 : decode cX2_might 10 = .ok (.getfield 18, 3) := by decide +kernel
theorem dX2_might_13 : decode cX2_might 13 = .ok (.imul, 1) := by decide +kernel
theorem dX2_might_14 : decode cX2_might 14 = .ok (.goto 7, 3) := by decide +kernel
theorem dX2_might_17 : decode cX2_might 17 = .ok (.aload_n 0, 1) := by decide +kernel
theorem dX2_might_18 : decode cX2_might 18 = .ok (.getfield 18, 3) := by decide +kernel
theorem dX2_might_21 : decode cX2_might 21 = .ok (.ireturn, 1) := by decide +kernel
theorem dX2_isOne_0 : decode cX2_isOne 0 = .ok (.iload_n 1, 1) := by decide +kernel
theorem dX2_isOne_1 : decode cX2_isOne 1 = .ok (.tableswitch 89 0 4 #[35, 37, 89, 89, 67], 35) := by decide +kernel
theorem dX2_isOne_36 : decode cX2_isOne 36 = .ok (.iconst 1, 1) := by decide +kernel
theorem dX2_isOne_37 : decode cX2_isOne 37 = .ok (.ireturn, 1) := by decide +kernel
theorem dX2_isOne_38 : decode cX2_isOne 38 = .ok (.aload_n 0, 1) := by decide +kernel
theorem dX2_isOne_39 : decode cX2_isOne 39 = .ok (.getfield 15, 3) := by decide +kernel
theorem dX2_isOne_42 : decode cX2_isOne 42 = .ok (.iconst 1, 1) := by decide +kernel
theorem dX2_isOne_43 : decode cX2_isOne 43 = .ok (.if_icmp .eq 19, 3) := by decide +kernel
theorem dX2_isOne_46 : decode cX2_isOne 46 = .ok (.aload_n 0, 1) := by decide +kernel
theorem dX2_isOne_47 : decode cX2_isOne 47 = .ok (.getfield 15, 3) := by decide +kernel
theorem dX2_isOne_50 : decode cX2_isOne 50 = .ok (.iconst 2, 1) := by decide +kernel
theorem dX2_isOne_51 : decode cX2_isOne 51 = .ok (.if_icmp .eq 11, 3) := by decide +kernel
theorem dX2_isOne_54 : decode cX2_isOne 54 = .ok (.aload_n 0, 1) := by decide +kernel
theorem dX2_isOne_55 : decode cX2_isOne 55 = .ok (.getfield 15, 3) := by decide +kernel
theorem dX2_isOne_58 : decode cX2_isOne 58 = .ok (.iconst 3, 1) := by decide +kernel
theorem dX2_isOne_59 : decode cX2_isOne 59 = .ok (.if_icmp .ne 7, 3) := by decide +kernel
theorem dX2_isOne_62 : decode cX2_isOne 62 = .ok (.iconst 1, 1) := by decide +kernel
theorem dX2_isOne_63 : decode cX2_isOne 63 = .ok (.goto 4, 3) := by decide +kernel
theorem dX2_isOne_66 : decode cX2_isOne 66 = .ok (.iconst 0, 1) := by decide +kernel
theorem dX2_isOne_67 : decode cX2_isOne 67 = .ok (.ireturn, 1) := by decide +kernel
theorem dX2_isOne_68 : decode cX2_isOne 68 = .ok (.aload_n 0, 1) := by decide +kernel
theorem dX2_isOne_69 : decode cX2_isOne 69 = .ok (.getfield 15, 3) := by decide +kernel
theorem dX2_isOne_72 : decode cX2_isOne 72 = .ok (.iconst 4, 1) := by decide +kernel
theorem dX2_isOne_73 : decode cX2_isOne 73 = .ok (.if_icmp .eq 11, 3) := by decide +kernel
theorem dX2_isOne_76 : decode cX2_isOne 76 = .ok (.aload_n 0, 1) := by decide +kernel
theorem dX2_isOne_77 : decode cX2_isOne 77 = .ok (.getfield 15, 3) := by decide +kernel
theorem dX2_isOne_80 : decode cX2_isOne 80 = .ok (.iconst 5, 1) := by decide +kernel
theorem dX2_isOne_81 : decode cX2_isOne 81 = .ok (.if_icmp .ne 7, 3) := by decide +kernel
theorem dX2_isOne_84 : decode cX2_isOne 84 = .ok (.iconst 1, 1) := by decide +kernel
theorem dX2_isOne_85 : decode cX2_isOne 85 = .ok (.goto 4, 3) := by decide +kernel
theorem dX2_isOne_88 : decode cX2_isOne 88 = .ok (.iconst 0, 1) := by decide +kernel
theorem dX2_isOne_89 : decode cX2_isOne 89 = .ok (.ireturn, 1) := by decide +kernel
theorem dX2_isOne_90 : decode cX2_isOne 90 = .ok (.aload_n 0, 1) := by decide +kernel
theorem dX2_isOne_91 : decode cX2_isOne 91 = .ok (.getfield 15, 3) := by decide +kernel
theorem dX2_isOne_94 : decode cX2_isOne 94 = .ok (.iload_n 1, 1) := by decide +kernel
theorem dX2_isOne_95 : decode cX2_isOne 95 = .ok (.if_icmp .ne 7, 3) := by decide +kernel
theorem dX2_isOne_98 : decode cX2_isOne 98 = .ok (.iconst 1, 1) := by decide +kernel
theorem dX2_isOne_99 : decode cX2_isOne 99 = .ok (.goto 4, 3) := by decide +kernel
theorem dX2_isOne_102 : decode cX2_isOne 102 = .ok (.iconst 0, 1) := by decide +kernel
theorem dX2_isOne_103 : decode cX2_isOne 103 = .ok (.ireturn, 1) := by decide +kernel
theorem dX2_powerBy_0 : decode cX2_powerBy 0 = .ok (.aload_n 0, 1) := by decide +kernel
theorem dX2_powerBy_1 : decode cX2_powerBy 1 = .ok (.getfield 15, 3) := by decide +kernel
theorem dX2_powerBy_4 : decode cX2_powerBy 4 = .ok (.tableswitch 75 3 5 #[54, 41, 28], 28) := by decide +kernel
theorem dX2_powerBy_32 : decode cX2_powerBy 32 = .ok (.aload_n 0, 1) := by decide +kernel
theorem dX2_powerBy_33 : decode cX2_powerBy 33 = .ok (.getfield 18, 3) := by decide +kernel
theorem dX2_powerBy_36 : decode cX2_powerBy 36 = .ok (.iconst 3, 1) := by decide +kernel
theorem dX2_powerBy_37 : decode cX2_powerBy 37 = .ok (.iload_n 1, 1) := by decide +kernel
theorem dX2_powerBy_38 : decode cX2_powerBy 38 = .ok (.isub, 1) := by decide +kernel
theorem dX2_powerBy_39 : decode cX2_powerBy 39 = .ok (.imul, 1) := by decide +kernel
theorem dX2_powerBy_40 : decode cX2_powerBy 40 = .ok (.iconst 0, 1) := by decide +kernel
theorem dX2_powerBy_41 : decode cX2_powerBy 41 = .ok (.invokestatic 27, 3) := by decide +kernel
theorem dX2_powerBy_44 : decode cX2_powerBy 44 = .ok (.ireturn, 1) := by decide +kernel
theorem dX2_powerBy_45 : decode cX2_powerBy 45 = .ok (.aload_n 0, 1) := by decide +kernel
theorem dX2_powerBy_46 : decode cX2_powerBy 46 = .ok (.getfield 18, 3) := by decide +kernel
theorem dX2_powerBy_49 : decode cX2_powerBy 49 = .ok (.iconst 2, 1) := by decide +kernel
theorem dX2_powerBy_50 : decode cX2_powerBy 50 = .ok (.iload_n 1, 1) := by decide +kernel
theorem dX2_powerBy_51 : decode cX2_powerBy 51 = .ok (.isub, 1) := by decide +kernel
theorem dX2_powerBy_52 : decode cX2_powerBy 52 = .ok (.imul, 1) := by decide +kernel
theorem dX2_powerBy_53 : decode cX2_powerBy 53 = .ok (.iconst 0, 1) := by decide +kernel
theorem dX2_powerBy_54 : decode cX2_powerBy 54 = .ok (.invokestatic 27, 3) := by decide +kernel
theorem dX2_powerBy_57 : decode cX2_powerBy 57 = .ok (.ireturn, 1) := by decide +kernel
theorem dX2_powerBy_58 : decode cX2_powerBy 58 = .ok (.iload_n 1, 1) := by decide +kernel
theorem dX2_powerBy_59 : decode cX2_powerBy 59 = .ok (.ifCond .ne 18, 3) := by decide +kernel
theorem dX2_powerBy_62 : decode cX2_powerBy 62 = .ok (.aload_n 0, 1) := by decide +kernel
theorem dX2_powerBy_63 : decode cX2_powerBy 63 = .ok (.getfield 18, 3) := by decide +kernel
theorem dX2_powerBy_66 : decode cX2_powerBy 66 = .ok (.iconst 2, 1) := by decide +kernel
theorem dX2_powerBy_67 : decode cX2_powerBy 67 = .ok (.imul, 1) := by decide +kernel
theorem dX2_powerBy_68 : decode cX2_powerBy 68 = .ok (.iload_n 2, 1) := by decide +kernel
theorem dX2_powerBy_69 : decode cX2_powerBy 69 = .ok (.isub, 1) := by decide +kernel
theorem dX2_powerBy_70 : decode cX2_powerBy 70 = .ok (.iconst 0, 1) := by decide +kernel
theorem dX2_powerBy_71 : decode cX2_powerBy 71 = .ok (.invokestatic 27, 3) := by decide +kernel
theorem dX2_powerBy_74 : decode cX2_powerBy 74 = .ok (.goto 4, 3) := by decide +kernel
theorem dX2_powerBy_77 : decode cX2_powerBy 77 = .ok (.iconst 0, 1) := by decide +kernel
theorem dX2_powerBy_78 : decode cX2_powerBy 78 = .ok (.ireturn, 1) := by decide +kernel
theorem dX2_powerBy_79 : decode cX2_powerBy 79 = .ok (.aload_n 0, 1) := by decide +kernel
theorem dX2_powerBy_80 : decode cX2_powerBy 80 = .ok (.invokevirtual 33, 3) := by decide +kernel
theorem dX2_powerBy_83 : decode cX2_powerBy 83 = .ok (.iconst 2, 1) := by decide +kernel
theorem dX2_powerBy_84 : decode cX2_powerBy 84 = .ok (.iload_n 1, 1) := by decide +kernel
theorem dX2_powerBy_85 : decode cX2_powerBy 85 = .ok (.isub, 1) := by decide +kernel
theorem dX2_powerBy_86 : decode cX2_powerBy 86 = .ok (.imul, 1) := by decide +kernel
theorem dX2_powerBy_87 : decode cX2_powerBy 87 = .ok (.iload_n 2, 1) := by decide +kernel
theorem dX2_powerBy_88 : decode cX2_powerBy 88 = .ok (.isub, 1) := by decide +kernel
theorem dX2_powerBy_89 : decode cX2_powerBy 89 = .ok (.iconst 0, 1) := by decide +kernel
theorem dX2_powerBy_90 : decode cX2_powerBy 90 = .ok (.invokestatic 27, 3) := by decide +kernel
theorem dX2_powerBy_93 : decode cX2_powerBy 93 = .ok (.ireturn, 1) := by decide +kernel
theorem dX3_init_0 : decode cX3_init 0 = .ok (.aload_n 0, 1) := by decide +kernel
theorem dX3_init_1 : decode cX3_init 1 = .ok (.invokespecial 3, 3) := by decide +kernel
theorem dX3_init_4 : decode cX3_init 4 = .ok (.aload_n 0, 1) := by decide +kernel
theorem dX3_init_5 : decode cX3_init 5 = .ok (.bipush 20, 2) := by decide +kernel
theorem dX3_init_7 : decode cX3_init 7 = .ok (.newarray .int, 2) := by decide +kernel
theorem dX3_init_9 : decode cX3_init 9 = .ok (.putfield 9, 3) := by decide +kernel
theorem dX3_init_12 : decode cX3_init 12 = .ok (.return_, 1) := by decide +kernel
theorem dX3_add_0 : decode cX3_add 0 = .ok (.aload_n 0, 1) := by decide +kernel
theorem dX3_add_1 : decode cX3_add 1 = .ok (.getfield 15, 3) := by decide +kernel
theorem dX3_add_4 : decode cX3_add 4 = .ok (.ifCond .lt 35, 3) := by decide +kernel
theorem dX3_add_7 : decode cX3_add 7 = .ok (.aload_n 0, 1) := by decide +kernel
theorem dX3_add_8 : decode cX3_add 8 = .ok (.getfield 15, 3) := by decide +kernel
theorem dX3_add_11 : decode cX3_add 11 = .ok (.aload_n 0, 1) := by decide +kernel
theorem dX3_add_12 : decode cX3_add 12 = .ok (.getfield 9, 3) := by decide +kernel
theorem dX3_add_15 : decode cX3_add 15 = .ok (.arraylength, 1) := by decide +kernel
theorem dX3_add_16 : decode cX3_add 16 = .ok (.if_icmp .ge 23, 3) := by decide +kernel
theorem dX3_add_19 : decode cX3_add 19 = .ok (.aload_n 0, 1) := by decide +kernel
theorem dX3_add_20 : decode cX3_add 20 = .ok (.getfield 9, 3) := by decide +kernel
theorem dX3_add_23 : decode cX3_add 23 = .ok (.aload_n 0, 1) := by decide +kernel
theorem dX3_add_24 : decode cX3_add 24 = .ok (.getfield 15, 3) := by decide +kernel
theorem dX3_add_27 : decode cX3_add 27 = .ok (.iload_n 1, 1) := by decide +kernel
theorem dX3_add_28 : decode cX3_add 28 = .ok (.iastore, 1) := by decide +kernel
theorem dX3_add_29 : decode cX3_add 29 = .ok (.aload_n 0, 1) := by decide +kernel
theorem dX3_add_30 : decode cX3_add 30 = .ok (.dup, 1) := by decide +kernel
theorem dX3_add_31 : decode cX3_add 31 = .ok (.getfield 15, 3) := by decide +kernel
theorem dX3_add_34 : decode cX3_add 34 = .ok (.iconst 1, 1) := by decide +kernel
theorem dX3_add_35 : decode cX3_add 35 = .ok (.iadd, 1) := by decide +kernel
theorem dX3_add_36 : decode cX3_add 36 = .ok (.putfield 15, 3) := by decide +kernel
theorem dX3_add_39 : decode cX3_add 39 = .ok (.return_, 1) := by decide +kernel
theorem dX3_landAt_0 : decode cX3_landAt 0 = .ok (.iload_n 1, 1) := by decide +kernel
theorem dX3_landAt_1 : decode cX3_landAt 1 = .ok (.ifCond .lt 29, 3) := by decide +kernel
theorem dX3_landAt_4 : decode cX3_landAt 4 = .ok (.iload_n 1, 1) := by decide +kernel
theorem dX3_landAt_5 : decode cX3_landAt 5 = .ok (.aload_n 0, 1) := by decide +kernel
theorem dX3_landAt_6 : decode cX3_landAt 6 = .ok (.getfield 15, 3) := by decide +kernel
theorem dX3_landAt_9 : decode cX3_landAt 9 = .ok (.if_icmp .ge 21, 3) := by decide +kernel
theorem dX3_landAt_12 : decode cX3_landAt 12 = .ok (.iload_n 1, 1) := by decide +kernel
theorem dX3_landAt_13 : decode cX3_landAt 13 = .ok (.aload_n 0, 1) := by decide +kernel
theorem dX3_landAt_14 : decode cX3_landAt 14 = .ok (.getfield 9, 3) := by decide +kernel
theorem dX3_landAt_17 : decode cX3_landAt 17 = .ok (.arraylength, 1) := by decide +kernel
theorem dX3_landAt_18 : decode cX3_landAt 18 = .ok (.if_icmp .ge 12, 3) := by decide +kernel
theorem dX3_landAt_21 : decode cX3_landAt 21 = .ok (.aload_n 0, 1) := by decide +kernel
theorem dX3_landAt_22 : decode cX3_landAt 22 = .ok (.getfield 9, 3) := by decide +kernel
theorem dX3_landAt_25 : decode cX3_landAt 25 = .ok (.iload_n 1, 1) := by decide +kernel
theorem dX3_landAt_26 : decode cX3_landAt 26 = .ok (.iaload, 1) := by decide +kernel
theorem dX3_landAt_27 : decode cX3_landAt 27 = .ok (.goto 4, 3) := by decide +kernel
theorem dX3_landAt_30 : decode cX3_landAt 30 = .ok (.iconst (-1), 1) := by decide +kernel
theorem dX3_landAt_31 : decode cX3_landAt 31 = .ok (.ireturn, 1) := by decide +kernel
theorem dX3_landBy_0 : decode cX3_landBy 0 = .ok (.aload_n 0, 1) := by decide +kernel
theorem dX3_landBy_1 : decode cX3_landBy 1 = .ok (.getfield 15, 3) := by decide +kernel
theorem dX3_landBy_4 : decode cX3_landBy 4 = .ok (.ifCond .le 18, 3) := by decide +kernel
theorem dX3_landBy_7 : decode cX3_landBy 7 = .ok (.aload_n 0, 1) := by decide +kernel
theorem dX3_landBy_8 : decode cX3_landBy 8 = .ok (.lload_n 1, 1) := by decide +kernel
theorem dX3_landBy_9 : decode cX3_landBy 9 = .ok (.aload_n 0, 1) := by decide +kernel
theorem dX3_landBy_10 : decode cX3_landBy 10 = .ok (.getfield 15, 3) := by decide +kernel
theorem dX3_landBy_13 : decode cX3_landBy 13 = .ok (.i2l, 1) := by decide +kernel
theorem dX3_landBy_14 : decode cX3_landBy 14 = .ok (.lrem, 1) := by decide +kernel
theorem dX3_landBy_15 : decode cX3_landBy 15 = .ok (.l2i, 1) := by decide +kernel
theorem dX3_landBy_16 : decode cX3_landBy 16 = .ok (.invokevirtual 19, 3) := by decide +kernel
theorem dX3_landBy_19 : decode cX3_landBy 19 = .ok (.goto 4, 3) := by decide +kernel
theorem dX3_landBy_22 : decode cX3_landBy 22 = .ok (.iconst (-1), 1) := by decide +kernel
theorem dX3_landBy_23 : decode cX3_landBy 23 = .ok (.ireturn, 1) := by decide +kernel
theorem dX3_throwAt_0 : decode cX3_throwAt 0 = .ok (.aload_n 0, 1) := by decide +kernel
theorem dX3_throwAt_1 : decode cX3_throwAt 1 = .ok (.iconst 0, 1) := by decide +kernel
theorem dX3_throwAt_2 : decode cX3_throwAt 2 = .ok (.putfield 15, 3) := by decide +kernel
theorem dX3_throwAt_5 : decode cX3_throwAt 5 = .ok (.bipush (-2), 2) := by decide +kernel
theorem dX3_throwAt_7 : decode cX3_throwAt 7 = .ok (.istore_n 3, 1) := by decide +kernel
theorem dX3_throwAt_8 : decode cX3_throwAt 8 = .ok (.iload_n 3, 1) := by decide +kernel
theorem dX3_throwAt_9 : decode cX3_throwAt 9 = .ok (.iconst 2, 1) := by decide +kernel
theorem dX3_throwAt_10 : decode cX3_throwAt 10 = .ok (.if_icmp .gt 81, 3) := by decide +kernel
theorem dX3_throwAt_13 : decode cX3_throwAt 13 = .ok (.bipush (-2), 2) := by decide +kernel
theorem dX3_throwAt_15 : decode cX3_throwAt 15 = .ok (.istore 4, 2) := by decide +kernel
theorem dX3_throwAt_17 : decode cX3_throwAt 17 = .ok (.iload 4, 2) := by decide +kernel
theorem dX3_throwAt_19 : decode cX3_throwAt 19 = .ok (.iconst 2, 1) := by decide +kernel
theorem dX3_throwAt_20 : decode cX3_throwAt 20 = .ok (.if_icmp .gt 65, 3) := by decide +kernel
theorem dX3_throwAt_23 : decode cX3_throwAt 23 = .ok (.iload_n 2, 1) := by decide +kernel
theorem dX3_throwAt_24 : decode cX3_throwAt 24 = .ok (.iconst 2, 1) := by decide +kernel
theorem dX3_throwAt_25 : decode cX3_throwAt 25 = .ok (.invokestatic 23, 3) := by decide +kernel
theorem dX3_throwAt_28 : decode cX3_throwAt 28 = .ok (.iconst 1, 1) := by decide +kernel
theorem dX3_throwAt_29 : decode cX3_throwAt 29 = .ok (.iadd, 1) := by decide +kernel
theorem dX3_throwAt_30 : decode cX3_throwAt 30 = .ok (.iload 4, 2) := by decide +kernel
theorem dX3_throwAt_32 : decode cX3_throwAt 32 = .ok (.invokestatic 29, 3) := by decide +kernel
theorem dX3_throwAt_35 : decode cX3_throwAt 35 = .ok (.isub, 1) := by decide +kernel
theorem dX3_throwAt_36 : decode cX3_throwAt 36 = .ok (.iload_n 3, 1) := by decide +kernel
theorem dX3_throwAt_37 : decode cX3_throwAt 37 = .ok (.invokestatic 29, 3) := by decide +kernel
theorem dX3_throwAt_40 : decode cX3_throwAt 40 = .ok (.isub, 1) := by decide +kernel
theorem dX3_throwAt_41 : decode cX3_throwAt 41 = .ok (.istore 5, 2) := by decide +kernel
theorem dX3_throwAt_43 : decode cX3_throwAt 43 = .ok (.iconst 0, 1) := by decide +kernel
theorem dX3_throwAt_44 : decode cX3_throwAt 44 = .ok (.istore 6, 2) := by decide +kernel
theorem dX3_throwAt_46 : decode cX3_throwAt 46 = .ok (.iload 6, 2) := by decide +kernel
theorem dX3_throwAt_48 : decode cX3_throwAt 48 = .ok (.iload 5, 2) := by decide +kernel
theorem dX3_throwAt_50 : decode cX3_throwAt 50 = .ok (.if_icmp .ge 29, 3) := by decide +kernel
theorem dX3_throwAt_53 : decode cX3_throwAt 53 = .ok (.aload_n 0, 1) := by decide +kernel
theorem dX3_throwAt_54 : decode cX3_throwAt 54 = .ok (.iload_n 1, 1) := by decide +kernel
theorem dX3_throwAt_55 : decode cX3_throwAt 55 = .ok (.bipush 6, 2) := by decide +kernel
theorem dX3_throwAt_57 : decode cX3_throwAt 57 = .ok (.irem, 1) := by decide +kernel
theorem dX3_throwAt_58 : decode cX3_throwAt 58 = .ok (.iload 4, 2) := by decide +kernel
theorem dX3_throwAt_60 : decode cX3_throwAt 60 = .ok (.iadd, 1) := by decide +kernel
theorem dX3_throwAt_61 : decode cX3_throwAt 61 = .ok (.iload_n 1, 1) := by decide +kernel
theorem dX3_throwAt_62 : decode cX3_throwAt 62 = .ok (.bipush 6, 2) := by decide +kernel
theorem dX3_throwAt_64 : decode cX3_throwAt 64 = .ok (.idiv, 1) := by decide +kernel
theorem dX3_throwAt_65 : decode cX3_throwAt 65 = .ok (.iload_n 3, 1) := by decide +kernel
theorem dX3_throwAt_66 : decode cX3_throwAt 66 = .ok (.iadd, 1) := by decide +kernel
theorem dX3_throwAt_67 : decode cX3_throwAt 67 = .ok (.invokestatic 32, 3) := by decide +kernel
theorem dX3_throwAt_70 : decode cX3_throwAt 70 = .ok (.invokevirtual 35, 3) := by decide +kernel
theorem dX3_throwAt_73 : decode cX3_throwAt 73 = .ok (.iinc 6 1, 3) := by decide +kernel
theorem dX3_throwAt_76 : decode cX3_throwAt 76 = .ok (.goto (-30), 3) := by decide +kernel
theorem dX3_throwAt_79 : decode cX3_throwAt 79 = .ok (.iinc 4 1, 3) := by decide +kernel
theorem dX3_throwAt_82 : decode cX3_throwAt 82 = .ok (.goto (-65), 3) := by decide +kernel
theorem dX3_throwAt_85 : decode cX3_throwAt 85 = .ok (.iinc 3 1, 3) := by decide +kernel
theorem dX3_throwAt_88 : decode cX3_throwAt 88 = .ok (.goto (-80), 3) := by decide +kernel
theorem dX3_throwAt_91 : decode cX3_throwAt 91 = .ok (.return_, 1) := by decide +kernel
theorem dX3_cellAt_0 : decode cX3_cellAt 0 = .ok (.iload_n 0, 1) := by decide +kernel
theorem dX3_cellAt_1 : decode cX3_cellAt 1 = .ok (.ifCond .lt 27, 3) := by decide +kernel
theorem dX3_cellAt_4 : decode cX3_cellAt 4 = .ok (.iload_n 0, 1) := by decide +kernel
theorem dX3_cellAt_5 : decode cX3_cellAt 5 = .ok (.bipush 6, 2) := by decide +kernel
theorem dX3_cellAt_7 : decode cX3_cellAt 7 = .ok (.if_icmp .ge 21, 3) := by decide +kernel
theorem dX3_cellAt_10 : decode cX3_cellAt 10 = .ok (.iload_n 1, 1) := by decide +kernel
theorem dX3_cellAt_11 : decode cX3_cellAt 11 = .ok (.ifCond .lt 17, 3) := by decide +kernel
theorem dX3_cellAt_14 : decode cX3_cellAt 14 = .ok (.iload_n 1, 1) := by decide +kernel
theorem dX3_cellAt_15 : decode cX3_cellAt 15 = .ok (.iconst 5, 1) := by decide +kernel
theorem dX3_cellAt_16 : decode cX3_cellAt 16 = .ok (.if_icmp .ge 12, 3) := by decide +kernel
theorem dX3_cellAt_19 : decode cX3_cellAt 19 = .ok (.bipush 6, 2) := by decide +kernel
theorem dX3_cellAt_21 : decode cX3_cellAt 21 = .ok (.iload_n 1, 1) := by decide +kernel
theorem dX3_cellAt_22 : decode cX3_cellAt 22 = .ok (.imul, 1) := by decide +kernel
theorem dX3_cellAt_23 : decode cX3_cellAt 23 = .ok (.iload_n 0, 1) := by decide +kernel
theorem dX3_cellAt_24 : decode cX3_cellAt 24 = .ok (.iadd, 1) := by decide +kernel
theorem dX3_cellAt_25 : decode cX3_cellAt 25 = .ok (.goto 4, 3) := by decide +kernel
theorem dX3_cellAt_28 : decode cX3_cellAt 28 = .ok (.iconst (-1), 1) := by decide +kernel
theorem dX3_cellAt_29 : decode cX3_cellAt 29 = .ok (.ireturn, 1) := by decide +kernel
theorem dX3_takeItems_0 : decode cX3_takeItems 0 = .ok (.aload_n 0, 1) := by decide +kernel
theorem dX3_takeItems_1 : decode cX3_takeItems 1 = .ok (.iconst 0, 1) := by decide +kernel
theorem dX3_takeItems_2 : decode cX3_takeItems 2 = .ok (.putfield 15, 3) := by decide +kernel
theorem dX3_takeItems_5 : decode cX3_takeItems 5 = .ok (.iconst 0, 1) := by decide +kernel
theorem dX3_takeItems_6 : decode cX3_takeItems 6 = .ok (.istore 4, 2) := by decide +kernel
theorem dX3_takeItems_8 : decode cX3_takeItems 8 = .ok (.iload 4, 2) := by decide +kernel
theorem dX3_takeItems_10 : decode cX3_takeItems 10 = .ok (.iload_n 3, 1) := by decide +kernel
theorem dX3_takeItems_11 : decode cX3_takeItems 11 = .ok (.if_icmp .ge 45, 3) := by decide +kernel
theorem dX3_takeItems_14 : decode cX3_takeItems 14 = .ok (.iload 4, 2) := by decide +kernel
theorem dX3_takeItems_16 : decode cX3_takeItems 16 = .ok (.aload_n 0, 1) := by decide +kernel
theorem dX3_takeItems_17 : decode cX3_takeItems 17 = .ok (.getfield 9, 3) := by decide +kernel
theorem dX3_takeItems_20 : decode cX3_takeItems 20 = .ok (.arraylength, 1) := by decide +kernel
theorem dX3_takeItems_21 : decode cX3_takeItems 21 = .ok (.if_icmp .ge 35, 3) := by decide +kernel
theorem dX3_takeItems_24 : decode cX3_takeItems 24 = .ok (.aload_n 1, 1) := by decide +kernel
theorem dX3_takeItems_25 : decode cX3_takeItems 25 = .ok (.iload_n 2, 1) := by decide +kernel
theorem dX3_takeItems_26 : decode cX3_takeItems 26 = .ok (.iload 4, 2) := by decide +kernel
theorem dX3_takeItems_28 : decode cX3_takeItems 28 = .ok (.iadd, 1) := by decide +kernel
theorem dX3_takeItems_29 : decode cX3_takeItems 29 = .ok (.invokevirtual 39, 3) := by decide +kernel
theorem dX3_takeItems_32 : decode cX3_takeItems 32 = .ok (.istore 5, 2) := by decide +kernel
theorem dX3_takeItems_34 : decode cX3_takeItems 34 = .ok (.iload 5, 2) := by decide +kernel
theorem dX3_takeItems_36 : decode cX3_takeItems 36 = .ok (.invokestatic 44, 3) := by decide +kernel
theorem dX3_takeItems_39 : decode cX3_takeItems 39 = .ok (.ifCond .ne 5, 3) := by decide +kernel
theorem dX3_takeItems_42 : decode cX3_takeItems 42 = .ok (.iconst 0, 1) := by decide +kernel
theorem dX3_takeItems_43 : decode cX3_takeItems 43 = .ok (.ireturn, 1) := by decide +kernel
theorem dX3_takeItems_44 : decode cX3_takeItems 44 = .ok (.aload_n 0, 1) := by decide +kernel
theorem dX3_takeItems_45 : decode cX3_takeItems 45 = .ok (.iload 5, 2) := by decide +kernel
theorem dX3_takeItems_47 : decode cX3_takeItems 47 = .ok (.invokevirtual 35, 3) := by decide +kernel
theorem dX3_takeItems_50 : decode cX3_takeItems 50 = .ok (.iinc 4 1, 3) := by decide +kernel
theorem dX3_takeItems_53 : decode cX3_takeItems 53 = .ok (.goto (-45), 3) := by decide +kernel
theorem dX3_takeItems_56 : decode cX3_takeItems 56 = .ok (.iconst 1, 1) := by decide +kernel
theorem dX3_takeItems_57 : decode cX3_takeItems 57 = .ok (.ireturn, 1) := by decide +kernel
theorem dX3_countPickedBy_0 : decode cX3_countPickedBy 0 = .ok (.iconst 0, 1) := by decide +kernel
theorem dX3_countPickedBy_1 : decode cX3_countPickedBy 1 = .ok (.istore_n 3, 1) := by decide +kernel
theorem dX3_countPickedBy_2 : decode cX3_countPickedBy 2 = .ok (.iconst 0, 1) := by decide +kernel
theorem dX3_countPickedBy_3 : decode cX3_countPickedBy 3 = .ok (.istore 4, 2) := by decide +kernel
theorem dX3_countPickedBy_5 : decode cX3_countPickedBy 5 = .ok (.iload 4, 2) := by decide +kernel
theorem dX3_countPickedBy_7 : decode cX3_countPickedBy 7 = .ok (.aload_n 0, 1) := by decide +kernel
theorem dX3_countPickedBy_8 : decode cX3_countPickedBy 8 = .ok (.getfield 15, 3) := by decide +kernel
theorem dX3_countPickedBy_11 : decode cX3_countPickedBy 11 = .ok (.if_icmp .ge 26, 3) := by decide +kernel
theorem dX3_countPickedBy_14 : decode cX3_countPickedBy 14 = .ok (.aload_n 1, 1) := by decide +kernel
theorem dX3_countPickedBy_15 : decode cX3_countPickedBy 15 = .ok (.aload_n 0, 1) := by decide +kernel
theorem dX3_countPickedBy_16 : decode cX3_countPickedBy 16 = .ok (.iload 4, 2) := by decide +kernel
theorem dX3_countPickedBy_18 : decode cX3_countPickedBy 18 = .ok (.invokevirtual 19, 3) := by decide +kernel
theorem dX3_countPickedBy_21 : decode cX3_countPickedBy 21 = .ok (.invokevirtual 48, 3) := by decide +kernel
theorem dX3_countPickedBy_24 : decode cX3_countPickedBy 24 = .ok (.iload_n 2, 1) := by decide +kernel
theorem dX3_countPickedBy_25 : decode cX3_countPickedBy 25 = .ok (.if_icmp .ne 6, 3) := by decide +kernel
theorem dX3_countPickedBy_28 : decode cX3_countPickedBy 28 = .ok (.iinc 3 1, 3) := by decide +kernel
theorem dX3_countPickedBy_31 : decode cX3_countPickedBy 31 = .ok (.iinc 4 1, 3) := by decide +kernel
theorem dX3_countPickedBy_34 : decode cX3_countPickedBy 34 = .ok (.goto (-29), 3) := by decide +kernel
theorem dX3_countPickedBy_37 : decode cX3_countPickedBy 37 = .ok (.iload_n 3, 1) := by decide +kernel
theorem dX3_countPickedBy_38 : decode cX3_countPickedBy 38 = .ok (.ireturn, 1) := by decide +kernel
theorem dX3_pickers_0 : decode cX3_pickers 0 = .ok (.iconst 0, 1) := by decide +kernel
theorem dX3_pickers_1 : decode cX3_pickers 1 = .ok (.istore_n 2, 1) := by decide +kernel
theorem dX3_pickers_2 : decode cX3_pickers 2 = .ok (.iconst 0, 1) := by decide +kernel
theorem dX3_pickers_3 : decode cX3_pickers 3 = .ok (.istore_n 3, 1) := by decide +kernel
theorem dX3_pickers_4 : decode cX3_pickers 4 = .ok (.iload_n 3, 1) := by decide +kernel
theorem dX3_pickers_5 : decode cX3_pickers 5 = .ok (.aload_n 0, 1) := by decide +kernel
theorem dX3_pickers_6 : decode cX3_pickers 6 = .ok (.getfield 15, 3) := by decide +kernel
theorem dX3_pickers_9 : decode cX3_pickers 9 = .ok (.if_icmp .ge 33, 3) := by decide +kernel
theorem dX3_pickers_12 : decode cX3_pickers 12 = .ok (.aload_n 1, 1) := by decide +kernel
theorem dX3_pickers_13 : decode cX3_pickers 13 = .ok (.aload_n 0, 1) := by decide +kernel
theorem dX3_pickers_14 : decode cX3_pickers 14 = .ok (.iload_n 3, 1) := by decide +kernel
theorem dX3_pickers_15 : decode cX3_pickers 15 = .ok (.invokevirtual 19, 3) := by decide +kernel
theorem dX3_pickers_18 : decode cX3_pickers 18 = .ok (.invokevirtual 48, 3) := by decide +kernel
theorem dX3_pickers_21 : decode cX3_pickers 21 = .ok (.istore 4, 2) := by decide +kernel
theorem dX3_pickers_23 : decode cX3_pickers 23 = .ok (.iload 4, 2) := by decide +kernel
theorem dX3_pickers_25 : decode cX3_pickers 25 = .ok (.iconst (-1), 1) := by decide +kernel
theorem dX3_pickers_26 : decode cX3_pickers 26 = .ok (.if_icmp .eq 10, 3) := by decide +kernel
theorem dX3_pickers_29 : decode cX3_pickers 29 = .ok (.iload_n 2, 1) := by decide +kernel
theorem dX3_pickers_30 : decode cX3_pickers 30 = .ok (.iconst 1, 1) := by decide +kernel
theorem dX3_pickers_31 : decode cX3_pickers 31 = .ok (.iload 4, 2) := by decide +kernel
theorem dX3_pickers_33 : decode cX3_pickers 33 = .ok (.ishl, 1) := by decide +kernel
theorem dX3_pickers_34 : decode cX3_pickers 34 = .ok (.ior, 1) := by decide +kernel
theorem dX3_pickers_35 : decode cX3_pickers 35 = .ok (.istore_n 2, 1) := by decide +kernel
theorem dX3_pickers_36 : decode cX3_pickers 36 = .ok (.iinc 3 1, 3) := by decide +kernel
theorem dX3_pickers_39 : decode cX3_pickers 39 = .ok (.goto (-35), 3) := by decide +kernel
theorem dX3_pickers_42 : decode cX3_pickers 42 = .ok (.iload_n 2, 1) := by decide +kernel
theorem dX3_pickers_43 : decode cX3_pickers 43 = .ok (.ireturn, 1) := by decide +kernel
theorem dX3_weigh_0 : decode cX3_weigh 0 = .ok (.aload 4, 2) := by decide +kernel
theorem dX3_weigh_2 : decode cX3_weigh 2 = .ok (.iconst 0, 1) := by decide +kernel
theorem dX3_weigh_3 : decode cX3_weigh 3 = .ok (.invokestatic 53, 3) := by decide +kernel
theorem dX3_weigh_6 : decode cX3_weigh 6 = .ok (.aload_n 1, 1) := by decide +kernel
theorem dX3_weigh_7 : decode cX3_weigh 7 = .ok (.iload_n 2, 1) := by decide +kernel
theorem dX3_weigh_8 : decode cX3_weigh 8 = .ok (.invokevirtual 59, 3) := by decide +kernel
theorem dX3_weigh_11 : decode cX3_weigh 11 = .ok (.astore 5, 2) := by decide +kernel
theorem dX3_weigh_13 : decode cX3_weigh 13 = .ok (.iconst 0, 1) := by decide +kernel
theorem dX3_weigh_14 : decode cX3_weigh 14 = .ok (.istore 6, 2) := by decide +kernel
theorem dX3_weigh_16 : decode cX3_weigh 16 = .ok (.iload 6, 2) := by decide +kernel
theorem dX3_weigh_18 : decode cX3_weigh 18 = .ok (.aload_n 0, 1) := by decide +kernel
theorem dX3_weigh_19 : decode cX3_weigh 19 = .ok (.getfield 15, 3) := by decide +kernel
theorem dX3_weigh_22 : decode cX3_weigh 22 = .ok (.if_icmp .ge 90, 3) := by decide +kernel
theorem dX3_weigh_25 : decode cX3_weigh 25 = .ok (.aload 5, 2) := by decide +kernel
theorem dX3_weigh_27 : decode cX3_weigh 27 = .ok (.ifnull 85, 3) := by decide +kernel
theorem dX3_weigh_30 : decode cX3_weigh 30 = .ok (.aload_n 0, 1) := by decide +kernel
theorem dX3_weigh_31 : decode cX3_weigh 31 = .ok (.iload 6, 2) := by decide +kernel
theorem dX3_weigh_33 : decode cX3_weigh 33 = .ok (.invokevirtual 19, 3) := by decide +kernel
theorem dX3_weigh_36 : decode cX3_weigh 36 = .ok (.istore 7, 2) := by decide +kernel
theorem dX3_weigh_38 : decode cX3_weigh 38 = .ok (.aload_n 1, 1) := by decide +kernel
theorem dX3_weigh_39 : decode cX3_weigh 39 = .ok (.iload_n 2, 1) := by decide +kernel
theorem dX3_weigh_40 : decode cX3_weigh 40 = .ok (.iload_n 3, 1) := by decide +kernel
theorem dX3_weigh_41 : decode cX3_weigh 41 = .ok (.iload 7, 2) := by decide +kernel
theorem dX3_weigh_43 : decode cX3_weigh 43 = .ok (.invokevirtual 63, 3) := by decide +kernel
theorem dX3_weigh_46 : decode cX3_weigh 46 = .ok (.istore 8, 2) := by decide +kernel
theorem dX3_weigh_48 : decode cX3_weigh 48 = .ok (.iconst 0, 1) := by decide +kernel
theorem dX3_weigh_49 : decode cX3_weigh 49 = .ok (.istore 9, 2) := by decide +kernel
theorem dX3_weigh_51 : decode cX3_weigh 51 = .ok (.iload 9, 2) := by decide +kernel
theorem dX3_weigh_53 : decode cX3_weigh 53 = .ok (.aload 4, 2) := by decide +kernel
theorem dX3_weigh_55 : decode cX3_weigh 55 = .ok (.arraylength, 1) := by decide +kernel
theorem dX3_weigh_56 : decode cX3_weigh 56 = .ok (.if_icmp .ge 50, 3) := by decide +kernel
theorem dX3_weigh_59 : decode cX3_weigh 59 = .ok (.iload 8, 2) := by decide +kernel
theorem dX3_weigh_61 : decode cX3_weigh 61 = .ok (.sipush 1000, 3) := by decide +kernel
theorem dX3_weigh_64 : decode cX3_weigh 64 = .ok (.if_icmp .ge 42, 3) := by decide +kernel
theorem dX3_weigh_67 : decode cX3_weigh 67 = .ok (.aload 5, 2) := by decide +kernel
theorem dX3_weigh_69 : decode cX3_weigh 69 = .ok (.iload 9, 2) := by decide +kernel
theorem dX3_weigh_71 : decode cX3_weigh 71 = .ok (.iload 7, 2) := by decide +kernel
theorem dX3_weigh_73 : decode cX3_weigh 73 = .ok (.invokestatic 67, 3) := by decide +kernel
theorem dX3_weigh_76 : decode cX3_weigh 76 = .ok (.aload_n 1, 1) := by decide +kernel
theorem dX3_weigh_77 : decode cX3_weigh 77 = .ok (.getfield 70, 3) := by decide +kernel
theorem dX3_weigh_80 : decode cX3_weigh 80 = .ok (.invokevirtual 73, 3) := by decide +kernel
theorem dX3_weigh_83 : decode cX3_weigh 83 = .ok (.iload 8, 2) := by decide +kernel
theorem dX3_weigh_85 : decode cX3_weigh 85 = .ok (.if_icmp .lt 15, 3) := by decide +kernel
theorem dX3_weigh_88 : decode cX3_weigh 88 = .ok (.aload 4, 2) := by decide +kernel
theorem dX3_weigh_90 : decode cX3_weigh 90 = .ok (.iload 9, 2) := by decide +kernel
theorem dX3_weigh_92 : decode cX3_weigh 92 = .ok (.dup2, 1) := by decide +kernel
theorem dX3_weigh_93 : decode cX3_weigh 93 = .ok (.iaload, 1) := by decide +kernel
theorem dX3_weigh_94 : decode cX3_weigh 94 = .ok (.iconst 1, 1) := by decide +kernel
theorem dX3_weigh_95 : decode cX3_weigh 95 = .ok (.iload 6, 2) := by decide +kernel
theorem dX3_weigh_97 : decode cX3_weigh 97 = .ok (.ishl, 1) := by decide +kernel
theorem dX3_weigh_98 : decode cX3_weigh 98 = .ok (.ior, 1) := by decide +kernel
theorem dX3_weigh_99 : decode cX3_weigh 99 = .ok (.iastore, 1) := by decide +kernel
theorem dX3_weigh_100 : decode cX3_weigh 100 = .ok (.iinc 9 1, 3) := by decide +kernel
theorem dX3_weigh_103 : decode cX3_weigh 103 = .ok (.goto (-52), 3) := by decide +kernel
theorem dX3_weigh_106 : decode cX3_weigh 106 = .ok (.iinc 6 1, 3) := by decide +kernel
theorem dX3_weigh_109 : decode cX3_weigh 109 = .ok (.goto (-93), 3) := by decide +kernel
theorem dX3_weigh_112 : decode cX3_weigh 112 = .ok (.return_, 1) := by decide +kernel
theorem dX4_init_0 : decode cX4_init 0 = .ok (.aload_n 0, 1) := by decide +kernel
theorem dX4_init_1 : decode cX4_init 1 = .ok (.invokespecial 3, 3) := by decide +kernel
theorem dX4_init_4 : decode cX4_init 4 = .ok (.aload_n 0, 1) := by decide +kernel
theorem dX4_init_5 : decode cX4_init 5 = .ok (.bipush 40, 2) := by decide +kernel
theorem dX4_init_7 : decode cX4_init 7 = .ok (.newarray .int, 2) := by decide +kernel
theorem dX4_init_9 : decode cX4_init 9 = .ok (.putfield 9, 3) := by decide +kernel
theorem dX4_init_12 : decode cX4_init 12 = .ok (.aload_n 0, 1) := by decide +kernel
theorem dX4_init_13 : decode cX4_init 13 = .ok (.iconst (-1), 1) := by decide +kernel
theorem dX4_init_14 : decode cX4_init 14 = .ok (.putfield 15, 3) := by decide +kernel
theorem dX4_init_17 : decode cX4_init 17 = .ok (.return_, 1) := by decide +kernel
theorem dX4_isMissing_0 : decode cX4_isMissing 0 = .ok (.aload_n 0, 1) := by decide +kernel
theorem dX4_isMissing_1 : decode cX4_isMissing 1 = .ok (.getfield 15, 3) := by decide +kernel
theorem dX4_isMissing_4 : decode cX4_isMissing 4 = .ok (.iconst (-1), 1) := by decide +kernel
theorem dX4_isMissing_5 : decode cX4_isMissing 5 = .ok (.if_icmp .ne 7, 3) := by decide +kernel
theorem dX4_isMissing_8 : decode cX4_isMissing 8 = .ok (.iconst 1, 1) := by decide +kernel
theorem dX4_isMissing_9 : decode cX4_isMissing 9 = .ok (.goto 4, 3) := by decide +kernel
theorem dX4_isMissing_12 : decode cX4_isMissing 12 = .ok (.iconst 0, 1) := by decide +kernel
theorem dX4_isMissing_13 : decode cX4_isMissing 13 = .ok (.ireturn, 1) := by decide +kernel
theorem dX4_begin_0 : decode cX4_begin 0 = .ok (.aload_n 0, 1) := by decide +kernel
theorem dX4_begin_1 : decode cX4_begin 1 = .ok (.iload_n 1, 1) := by decide +kernel
theorem dX4_begin_2 : decode cX4_begin 2 = .ok (.putfield 19, 3) := by decide +kernel
theorem dX4_begin_5 : decode cX4_begin 5 = .ok (.aload_n 0, 1) := by decide +kernel
theorem dX4_begin_6 : decode cX4_begin 6 = .ok (.iload_n 2, 1) := by decide +kernel
theorem dX4_begin_7 : decode cX4_begin 7 = .ok (.putfield 15, 3) := by decide +kernel
theorem dX4_begin_10 : decode cX4_begin 10 = .ok (.aload_n 0, 1) := by decide +kernel
theorem dX4_begin_11 : decode cX4_begin 11 = .ok (.getfield 9, 3) := by decide +kernel
theorem dX4_begin_14 : decode cX4_begin 14 = .ok (.iconst 0, 1) := by decide +kernel
theorem dX4_begin_15 : decode cX4_begin 15 = .ok (.invokestatic 22, 3) := by decide +kernel
theorem dX4_begin_18 : decode cX4_begin 18 = .ok (.return_, 1) := by decide +kernel
theorem dX4_holds_0 : decode cX4_holds 0 = .ok (.iload_n 1, 1) := by decide +kernel
theorem dX4_holds_1 : decode cX4_holds 1 = .ok (.ifCond .lt 21, 3) := by decide +kernel
theorem dX4_holds_4 : decode cX4_holds 4 = .ok (.iload_n 2, 1) := by decide +kernel
theorem dX4_holds_5 : decode cX4_holds 5 = .ok (.ifCond .lt 17, 3) := by decide +kernel
theorem dX4_holds_8 : decode cX4_holds 8 = .ok (.iload_n 1, 1) := by decide +kernel
theorem dX4_holds_9 : decode cX4_holds 9 = .ok (.aload_n 0, 1) := by decide +kernel
theorem dX4_holds_10 : decode cX4_holds 10 = .ok (.getfield 15, 3) := by decide +kernel
theorem dX4_holds_13 : decode cX4_holds 13 = .ok (.iload_n 2, 1) := by decide +kernel
theorem dX4_holds_14 : decode cX4_holds 14 = .ok (.isub, 1) := by decide +kernel
theorem dX4_holds_15 : decode cX4_holds 15 = .ok (.if_icmp .gt 7, 3) := by decide +kernel
theorem dX4_holds_18 : decode cX4_holds 18 = .ok (.iconst 1, 1) := by decide +kernel
theorem dX4_holds_19 : decode cX4_holds 19 = .ok (.goto 4, 3) := by decide +kernel
theorem dX4_holds_22 : decode cX4_holds 22 = .ok (.iconst 0, 1) := by decide +kernel
theorem dX4_holds_23 : decode cX4_holds 23 = .ok (.ireturn, 1) := by decide +kernel
theorem dX4_put_0 : decode cX4_put 0 = .ok (.aload_n 0, 1) := by decide +kernel
theorem dX4_put_1 : decode cX4_put 1 = .ok (.getfield 19, 3) := by decide +kernel
theorem dX4_put_4 : decode cX4_put 4 = .ok (.ifCond .ne 8, 3) := by decide +kernel
theorem dX4_put_7 : decode cX4_put 7 = .ok (.iload_n 2, 1) := by decide +kernel
theorem dX4_put_8 : decode cX4_put 8 = .ok (.i2b, 1) := by decide +kernel
theorem dX4_put_9 : decode cX4_put 9 = .ok (.goto 17, 3) := by decide +kernel
theorem dX4_put_12 : decode cX4_put 12 = .ok (.aload_n 0, 1) := by decide +kernel
theorem dX4_put_13 : decode cX4_put 13 = .ok (.getfield 19, 3) := by decide +kernel
theorem dX4_put_16 : decode cX4_put 16 = .ok (.iconst 1, 1) := by decide +kernel
theorem dX4_put_17 : decode cX4_put 17 = .ok (.if_icmp .ne 8, 3) := by decide +kernel
theorem dX4_put_20 : decode cX4_put 20 = .ok (.iload_n 2, 1) := by decide +kernel
theorem dX4_put_21 : decode cX4_put 21 = .ok (.i2s, 1) := by decide +kernel
theorem dX4_put_22 : decode cX4_put 22 = .ok (.goto 4, 3) := by decide +kernel
theorem dX4_put_25 : decode cX4_put 25 = .ok (.iload_n 2, 1) := by decide +kernel
theorem dX4_put_26 : decode cX4_put 26 = .ok (.istore_n 3, 1) := by decide +kernel
theorem dX4_put_27 : decode cX4_put 27 = .ok (.iload_n 1, 1) := by decide +kernel
theorem dX4_put_28 : decode cX4_put 28 = .ok (.ifCond .lt 19, 3) := by decide +kernel
theorem dX4_put_31 : decode cX4_put 31 = .ok (.iload_n 1, 1) := by decide +kernel
theorem dX4_put_32 : decode cX4_put 32 = .ok (.aload_n 0, 1) := by decide +kernel
theorem dX4_put_33 : decode cX4_put 33 = .ok (.getfield 9, 3) := by decide +kernel
theorem dX4_put_36 : decode cX4_put 36 = .ok (.arraylength, 1) := by decide +kernel
theorem dX4_put_37 : decode cX4_put 37 = .ok (.if_icmp .ge 10, 3) := by decide +kernel
theorem dX4_put_40 : decode cX4_put 40 = .ok (.aload_n 0, 1) := by decide +kernel
theorem dX4_put_41 : decode cX4_put 41 = .ok (.getfield 9, 3) := by decide +kernel
theorem dX4_put_44 : decode cX4_put 44 = .ok (.iload_n 1, 1) := by decide +kernel
theorem dX4_put_45 : decode cX4_put 45 = .ok (.iload_n 3, 1) := by decide +kernel
theorem dX4_put_46 : decode cX4_put 46 = .ok (.iastore, 1) := by decide +kernel
theorem dX4_put_47 : decode cX4_put 47 = .ok (.iload_n 3, 1) := by decide +kernel
theorem dX4_put_48 : decode cX4_put 48 = .ok (.ireturn, 1) := by decide +kernel
theorem dX4_item_0 : decode cX4_item 0 = .ok (.iload_n 1, 1) := by decide +kernel
theorem dX4_item_1 : decode cX4_item 1 = .ok (.ifCond .lt 21, 3) := by decide +kernel
theorem dX4_item_4 : decode cX4_item 4 = .ok (.iload_n 1, 1) := by decide +kernel
theorem dX4_item_5 : decode cX4_item 5 = .ok (.aload_n 0, 1) := by decide +kernel
theorem dX4_item_6 : decode cX4_item 6 = .ok (.getfield 9, 3) := by decide +kernel
theorem dX4_item_9 : decode cX4_item 9 = .ok (.arraylength, 1) := by decide +kernel
theorem dX4_item_10 : decode cX4_item 10 = .ok (.if_icmp .ge 12, 3) := by decide +kernel
theorem dX4_item_13 : decode cX4_item 13 = .ok (.aload_n 0, 1) := by decide +kernel
theorem dX4_item_14 : decode cX4_item 14 = .ok (.getfield 9, 3) := by decide +kernel
theorem dX4_item_17 : decode cX4_item 17 = .ok (.iload_n 1, 1) := by decide +kernel
theorem dX4_item_18 : decode cX4_item 18 = .ok (.iaload, 1) := by decide +kernel
theorem dX4_item_19 : decode cX4_item 19 = .ok (.goto 4, 3) := by decide +kernel
theorem dX4_item_22 : decode cX4_item 22 = .ok (.iconst 0, 1) := by decide +kernel
theorem dX4_item_23 : decode cX4_item 23 = .ok (.ireturn, 1) := by decide +kernel
theorem dX5_init_0 : decode cX5_init 0 = .ok (.aload_n 0, 1) := by decide +kernel
theorem dX5_init_1 : decode cX5_init 1 = .ok (.invokespecial 3, 3) := by decide +kernel
theorem dX5_init_4 : decode cX5_init 4 = .ok (.aload_n 0, 1) := by decide +kernel
theorem dX5_init_5 : decode cX5_init 5 = .ok (.iconst 5, 1) := by decide +kernel
theorem dX5_init_6 : decode cX5_init 6 = .ok (.anewarray 9, 3) := by decide +kernel
theorem dX5_init_9 : decode cX5_init 9 = .ok (.putfield 11, 3) := by decide +kernel
theorem dX5_init_12 : decode cX5_init 12 = .ok (.iconst 0, 1) := by decide +kernel
theorem dX5_init_13 : decode cX5_init 13 = .ok (.istore_n 1, 1) := by decide +kernel
theorem dX5_init_14 : decode cX5_init 14 = .ok (.iload_n 1, 1) := by decide +kernel
theorem dX5_init_15 : decode cX5_init 15 = .ok (.aload_n 0, 1) := by decide +kernel
theorem dX5_init_16 : decode cX5_init 16 = .ok (.getfield 11, 3) := by decide +kernel
theorem dX5_init_19 : decode cX5_init 19 = .ok (.arraylength, 1) := by decide +kernel
theorem dX5_init_20 : decode cX5_init 20 = .ok (.if_icmp .ge 23, 3) := by decide +kernel
theorem dX5_init_23 : decode cX5_init 23 = .ok (.aload_n 0, 1) := by decide +kernel
theorem dX5_init_24 : decode cX5_init 24 = .ok (.getfield 11, 3) := by decide +kernel
theorem dX5_init_27 : decode cX5_init 27 = .ok (.iload_n 1, 1) := by decide +kernel
theorem dX5_init_28 : decode cX5_init 28 = .ok (.new 9, 3) := by decide +kernel
theorem dX5_init_31 : decode cX5_init 31 = .ok (.dup, 1) := by decide +kernel
theorem dX5_init_32 : decode cX5_init 32 = .ok (.iload_n 1, 1) := by decide +kernel
theorem dX5_init_33 : decode cX5_init 33 = .ok (.invokespecial 17, 3) := by decide +kernel
theorem dX5_init_36 : decode cX5_init 36 = .ok (.aastore, 1) := by decide +kernel
theorem dX5_init_37 : decode cX5_init 37 = .ok (.iinc 1 1, 3) := by decide +kernel
theorem dX5_init_40 : decode cX5_init 40 = .ok (.goto (-26), 3) := by decide +kernel
theorem dX5_init_43 : decode cX5_init 43 = .ok (.return_, 1) := by decide +kernel
theorem dX5_clear_0 : decode cX5_clear 0 = .ok (.aload_n 0, 1) := by decide +kernel
theorem dX5_clear_1 : decode cX5_clear 1 = .ok (.iconst 0, 1) := by decide +kernel
theorem dX5_clear_2 : decode cX5_clear 2 = .ok (.putfield 20, 3) := by decide +kernel
theorem dX5_clear_5 : decode cX5_clear 5 = .ok (.aload_n 0, 1) := by decide +kernel
theorem dX5_clear_6 : decode cX5_clear 6 = .ok (.iconst 0, 1) := by decide +kernel
theorem dX5_clear_7 : decode cX5_clear 7 = .ok (.putfield 24, 3) := by decide +kernel
theorem dX5_clear_10 : decode cX5_clear 10 = .ok (.aload_n 0, 1) := by decide +kernel
theorem dX5_clear_11 : decode cX5_clear 11 = .ok (.iconst 0, 1) := by decide +kernel
theorem dX5_clear_12 : decode cX5_clear 12 = .ok (.putfield 28, 3) := by decide +kernel
theorem dX5_clear_15 : decode cX5_clear 15 = .ok (.aload_n 0, 1) := by decide +kernel
theorem dX5_clear_16 : decode cX5_clear 16 = .ok (.iconst 0, 1) := by decide +kernel
theorem dX5_clear_17 : decode cX5_clear 17 = .ok (.putfield 31, 3) := by decide +kernel
theorem dX5_clear_20 : decode cX5_clear 20 = .ok (.return_, 1) := by decide +kernel
theorem dX5_takeFrom_0 : decode cX5_takeFrom 0 = .ok (.aload_n 0, 1) := by decide +kernel
theorem dX5_takeFrom_1 : decode cX5_takeFrom 1 = .ok (.aload_n 1, 1) := by decide +kernel
theorem dX5_takeFrom_2 : decode cX5_takeFrom 2 = .ok (.getfield 20, 3) := by decide +kernel
theorem dX5_takeFrom_5 : decode cX5_takeFrom 5 = .ok (.putfield 20, 3) := by decide +kernel
theorem dX5_takeFrom_8 : decode cX5_takeFrom 8 = .ok (.aload_n 0, 1) := by decide +kernel
theorem dX5_takeFrom_9 : decode cX5_takeFrom 9 = .ok (.aload_n 1, 1) := by decide +kernel
theorem dX5_takeFrom_10 : decode cX5_takeFrom 10 = .ok (.getfield 24, 3) := by decide +kernel
theorem dX5_takeFrom_13 : decode cX5_takeFrom 13 = .ok (.putfield 24, 3) := by decide +kernel
theorem dX5_takeFrom_16 : decode cX5_takeFrom 16 = .ok (.aload_n 0, 1) := by decide +kernel
theorem dX5_takeFrom_17 : decode cX5_takeFrom 17 = .ok (.aload_n 1, 1) := by decide +kernel
theorem dX5_takeFrom_18 : decode cX5_takeFrom 18 = .ok (.getfield 28, 3) := by decide +kernel
theorem dX5_takeFrom_21 : decode cX5_takeFrom 21 = .ok (.putfield 28, 3) := by decide +kernel
theorem dX5_takeFrom_24 : decode cX5_takeFrom 24 = .ok (.aload_n 0, 1) := by decide +kernel
theorem dX5_takeFrom_25 : decode cX5_takeFrom 25 = .ok (.aload_n 1, 1) := by decide +kernel
theorem dX5_takeFrom_26 : decode cX5_takeFrom 26 = .ok (.getfield 31, 3) := by decide +kernel
theorem dX5_takeFrom_29 : decode cX5_takeFrom 29 = .ok (.putfield 31, 3) := by decide +kernel
theorem dX5_takeFrom_32 : decode cX5_takeFrom 32 = .ok (.iconst 0, 1) := by decide +kernel
theorem dX5_takeFrom_33 : decode cX5_takeFrom 33 = .ok (.istore_n 2, 1) := by decide +kernel
theorem dX5_takeFrom_34 : decode cX5_takeFrom 34 = .ok (.iload_n 2, 1) := by decide +kernel
theorem dX5_takeFrom_35 : decode cX5_takeFrom 35 = .ok (.iconst 5, 1) := by decide +kernel
theorem dX5_takeFrom_36 : decode cX5_takeFrom 36 = .ok (.if_icmp .ge 37, 3) := by decide +kernel
theorem dX5_takeFrom_39 : decode cX5_takeFrom 39 = .ok (.aload_n 0, 1) := by decide +kernel
theorem dX5_takeFrom_40 : decode cX5_takeFrom 40 = .ok (.iload_n 2, 1) := by decide +kernel
theorem dX5_takeFrom_41 : decode cX5_takeFrom 41 = .ok (.invokevirtual 34, 3) := by decide +kernel
theorem dX5_takeFrom_44 : decode cX5_takeFrom 44 = .ok (.astore_n 3, 1) := by decide +kernel
theorem dX5_takeFrom_45 : decode cX5_takeFrom 45 = .ok (.aload_n 1, 1) := by decide +kernel
theorem dX5_takeFrom_46 : decode cX5_takeFrom 46 = .ok (.iload_n 2, 1) := by decide +kernel
theorem dX5_takeFrom_47 : decode cX5_takeFrom 47 = .ok (.invokevirtual 34, 3) := by decide +kernel
theorem dX5_takeFrom_50 : decode cX5_takeFrom 50 = .ok (.astore 4, 2) := by decide +kernel
theorem dX5_takeFrom_52 : decode cX5_takeFrom 52 = .ok (.aload_n 3, 1) := by decide +kernel
theorem dX5_takeFrom_53 : decode cX5_takeFrom 53 = .ok (.ifnull 14, 3) := by decide +kernel
theorem dX5_takeFrom_56 : decode cX5_takeFrom 56 = .ok (.aload 4, 2) := by decide +kernel
theorem dX5_takeFrom_58 : decode cX5_takeFrom 58 = .ok (.ifnull 9, 3) := by decide +kernel
theorem dX5_takeFrom_61 : decode cX5_takeFrom 61 = .ok (.aload_n 3, 1) := by decide +kernel
theorem dX5_takeFrom_62 : decode cX5_takeFrom 62 = .ok (.aload 4, 2) := by decide +kernel
theorem dX5_takeFrom_64 : decode cX5_takeFrom 64 = .ok (.invokevirtual 38, 3) := by decide +kernel
theorem dX5_takeFrom_67 : decode cX5_takeFrom 67 = .ok (.iinc 2 1, 3) := by decide +kernel
theorem dX5_takeFrom_70 : decode cX5_takeFrom 70 = .ok (.goto (-36), 3) := by decide +kernel
theorem dX5_takeFrom_73 : decode cX5_takeFrom 73 = .ok (.return_, 1) := by decide +kernel
theorem dX5_at_0 : decode cX5_at 0 = .ok (.iload_n 1, 1) := by decide +kernel
theorem dX5_at_1 : decode cX5_at 1 = .ok (.ifCond .lt 29, 3) := by decide +kernel
theorem dX5_at_4 : decode cX5_at 4 = .ok (.iload_n 1, 1) := by decide +kernel
theorem dX5_at_5 : decode cX5_at 5 = .ok (.aload_n 0, 1) := by decide +kernel
theorem dX5_at_6 : decode cX5_at 6 = .ok (.getfield 31, 3) := by decide +kernel
theorem dX5_at_9 : decode cX5_at 9 = .ok (.if_icmp .ge 21, 3) := by decide +kernel
theorem dX5_at_12 : decode cX5_at 12 = .ok (.iload_n 1, 1) := by decide +kernel
theorem dX5_at_13 : decode cX5_at 13 = .ok (.aload_n 0, 1) := by decide +kernel
theorem dX5_at_14 : decode cX5_at 14 = .ok (.getfield 11, 3) := by decide +kernel
theorem dX5_at_17 : decode cX5_at 17 = .ok (.arraylength, 1) := by decide +kernel
theorem dX5_at_18 : decode cX5_at 18 = .ok (.if_icmp .ge 12, 3) := by decide +kernel
theorem dX5_at_21 : decode cX5_at 21 = .ok (.aload_n 0, 1) := by decide +kernel
theorem dX5_at_22 : decode cX5_at 22 = .ok (.getfield 11, 3) := by decide +kernel
theorem dX5_at_25 : decode cX5_at 25 = .ok (.iload_n 1, 1) := by decide +kernel
theorem dX5_at_26 : decode cX5_at 26 = .ok (.aaload, 1) := by decide +kernel
theorem dX5_at_27 : decode cX5_at 27 = .ok (.goto 4, 3) := by decide +kernel
theorem dX5_at_30 : decode cX5_at 30 = .ok (.aconst_null, 1) := by decide +kernel
theorem dX5_at_31 : decode cX5_at 31 = .ok (.areturn, 1) := by decide +kernel
theorem dX5_addChild_0 : decode cX5_addChild 0 = .ok (.aload_n 0, 1) := by decide +kernel
theorem dX5_addChild_1 : decode cX5_addChild 1 = .ok (.dup, 1) := by decide +kernel
theorem dX5_addChild_2 : decode cX5_addChild 2 = .ok (.getfield 31, 3) := by decide +kernel
theorem dX5_addChild_5 : decode cX5_addChild 5 = .ok (.iconst 1, 1) := by decide +kernel
theorem dX5_addChild_6 : decode cX5_addChild 6 = .ok (.iadd, 1) := by decide +kernel
theorem dX5_addChild_7 : decode cX5_addChild 7 = .ok (.putfield 31, 3) := by decide +kernel
theorem dX5_addChild_10 : decode cX5_addChild 10 = .ok (.aload_n 0, 1) := by decide +kernel
theorem dX5_addChild_11 : decode cX5_addChild 11 = .ok (.aload_n 0, 1) := by decide +kernel
theorem dX5_addChild_12 : decode cX5_addChild 12 = .ok (.getfield 31, 3) := by decide +kernel
theorem dX5_addChild_15 : decode cX5_addChild 15 = .ok (.iconst 1, 1) := by decide +kernel
theorem dX5_addChild_16 : decode cX5_addChild 16 = .ok (.isub, 1) := by decide +kernel
theorem dX5_addChild_17 : decode cX5_addChild 17 = .ok (.invokevirtual 34, 3) := by decide +kernel
theorem dX5_addChild_20 : decode cX5_addChild 20 = .ok (.astore 4, 2) := by decide +kernel
theorem dX5_addChild_22 : decode cX5_addChild 22 = .ok (.aload 4, 2) := by decide +kernel
theorem dX5_addChild_24 : decode cX5_addChild 24 = .ok (.ifnull 27, 3) := by decide +kernel
theorem dX5_addChild_27 : decode cX5_addChild 27 = .ok (.aload 4, 2) := by decide +kernel
theorem dX5_addChild_29 : decode cX5_addChild 29 = .ok (.iload_n 1, 1) := by decide +kernel
theorem dX5_addChild_30 : decode cX5_addChild 30 = .ok (.putfield 42, 3) := by decide +kernel
theorem dX5_addChild_33 : decode cX5_addChild 33 = .ok (.aload 4, 2) := by decide +kernel
theorem dX5_addChild_35 : decode cX5_addChild 35 = .ok (.iload_n 2, 1) := by decide +kernel
theorem dX5_addChild_36 : decode cX5_addChild 36 = .ok (.putfield 45, 3) := by decide +kernel
theorem dX5_addChild_39 : decode cX5_addChild 39 = .ok (.aload 4, 2) := by decide +kernel
theorem dX5_addChild_41 : decode cX5_addChild 41 = .ok (.iload_n 3, 1) := by decide +kernel
theorem dX5_addChild_42 : decode cX5_addChild 42 = .ok (.putfield 48, 3) := by decide +kernel
theorem dX5_addChild_45 : decode cX5_addChild 45 = .ok (.aload 4, 2) := by decide +kernel
theorem dX5_addChild_47 : decode cX5_addChild 47 = .ok (.iconst 0, 1) := by decide +kernel
theorem dX5_addChild_48 : decode cX5_addChild 48 = .ok (.putfield 51, 3) := by decide +kernel
theorem dX5_addChild_51 : decode cX5_addChild 51 = .ok (.return_, 1) := by decide +kernel
theorem dX5_isDry_0 : decode cX5_isDry 0 = .ok (.iload_n 1, 1) := by decide +kernel
theorem dX5_isDry_1 : decode cX5_isDry 1 = .ok (.invokestatic 54, 3) := by decide +kernel
theorem dX5_isDry_4 : decode cX5_isDry 4 = .ok (.ifCond .eq 18, 3) := by decide +kernel
theorem dX5_isDry_7 : decode cX5_isDry 7 = .ok (.aload_n 0, 1) := by decide +kernel
theorem dX5_isDry_8 : decode cX5_isDry 8 = .ok (.getfield 28, 3) := by decide +kernel
theorem dX5_isDry_11 : decode cX5_isDry 11 = .ok (.iload_n 1, 1) := by decide +kernel
theorem dX5_isDry_12 : decode cX5_isDry 12 = .ok (.ishr, 1) := by decide +kernel
theorem dX5_isDry_13 : decode cX5_isDry 13 = .ok (.iconst 1, 1) := by decide +kernel
theorem dX5_isDry_14 : decode cX5_isDry 14 = .ok (.iand, 1) := by decide +kernel
theorem dX5_isDry_15 : decode cX5_isDry 15 = .ok (.ifCond .ne 7, 3) := by decide +kernel
theorem dX5_isDry_18 : decode cX5_isDry 18 = .ok (.iconst 1, 1) := by decide +kernel
theorem dX5_isDry_19 : decode cX5_isDry 19 = .ok (.goto 4, 3) := by decide +kernel
theorem dX5_isDry_22 : decode cX5_isDry 22 = .ok (.iconst 0, 1) := by decide +kernel
theorem dX5_isDry_23 : decode cX5_isDry 23 = .ok (.ireturn, 1) := by decide +kernel
theorem dX5_mostPennies_0 : decode cX5_mostPennies 0 = .ok (.iconst 0, 1) := by decide +kernel
theorem dX5_mostPennies_1 : decode cX5_mostPennies 1 = .ok (.istore_n 1, 1) := by decide +kernel
theorem dX5_mostPennies_2 : decode cX5_mostPennies 2 = .ok (.iconst 0, 1) := by decide +kernel
theorem dX5_mostPennies_3 : decode cX5_mostPennies 3 = .ok (.istore_n 2, 1) := by decide +kernel
theorem dX5_mostPennies_4 : decode cX5_mostPennies 4 = .ok (.iload_n 2, 1) := by decide +kernel
theorem dX5_mostPennies_5 : decode cX5_mostPennies 5 = .ok (.iconst 5, 1) := by decide +kernel
theorem dX5_mostPennies_6 : decode cX5_mostPennies 6 = .ok (.if_icmp .ge 32, 3) := by decide +kernel
theorem dX5_mostPennies_9 : decode cX5_mostPennies 9 = .ok (.aload_n 0, 1) := by decide +kernel
theorem dX5_mostPennies_10 : decode cX5_mostPennies 10 = .ok (.iload_n 2, 1) := by decide +kernel
theorem dX5_mostPennies_11 : decode cX5_mostPennies 11 = .ok (.invokevirtual 34, 3) := by decide +kernel
theorem dX5_mostPennies_14 : decode cX5_mostPennies 14 = .ok (.astore_n 3, 1) := by decide +kernel
theorem dX5_mostPennies_15 : decode cX5_mostPennies 15 = .ok (.aload_n 3, 1) := by decide +kernel
theorem dX5_mostPennies_16 : decode cX5_mostPennies 16 = .ok (.ifnonnull 7, 3) := by decide +kernel
theorem dX5_mostPennies_19 : decode cX5_mostPennies 19 = .ok (.iload_n 1, 1) := by decide +kernel
theorem dX5_mostPennies_20 : decode cX5_mostPennies 20 = .ok (.goto 11, 3) := by decide +kernel
theorem dX5_mostPennies_23 : decode cX5_mostPennies 23 = .ok (.iload_n 1, 1) := by decide +kernel
theorem dX5_mostPennies_24 : decode cX5_mostPennies 24 = .ok (.aload_n 3, 1) := by decide +kernel
theorem dX5_mostPennies_25 : decode cX5_mostPennies 25 = .ok (.getfield 51, 3) := by decide +kernel
theorem dX5_mostPennies_28 : decode cX5_mostPennies 28 = .ok (.invokestatic 58, 3) := by decide +kernel
theorem dX5_mostPennies_31 : decode cX5_mostPennies 31 = .ok (.istore_n 1, 1) := by decide +kernel
theorem dX5_mostPennies_32 : decode cX5_mostPennies 32 = .ok (.iinc 2 1, 3) := by decide +kernel
theorem dX5_mostPennies_35 : decode cX5_mostPennies 35 = .ok (.goto (-31), 3) := by decide +kernel
theorem dX5_mostPennies_38 : decode cX5_mostPennies 38 = .ok (.iload_n 1, 1) := by decide +kernel
theorem dX5_mostPennies_39 : decode cX5_mostPennies 39 = .ok (.ireturn, 1) := by decide +kernel
theorem dX5_allPennies_0 : decode cX5_allPennies 0 = .ok (.iconst 0, 1) := by decide +kernel
theorem dX5_allPennies_1 : decode cX5_allPennies 1 = .ok (.istore_n 1, 1) := by decide +kernel
theorem dX5_allPennies_2 : decode cX5_allPennies 2 = .ok (.iconst 0, 1) := by decide +kernel
theorem dX5_allPennies_3 : decode cX5_allPennies 3 = .ok (.istore_n 2, 1) := by decide +kernel
theorem dX5_allPennies_4 : decode cX5_allPennies 4 = .ok (.iload_n 2, 1) := by decide +kernel
theorem dX5_allPennies_5 : decode cX5_allPennies 5 = .ok (.iconst 5, 1) := by decide +kernel
theorem dX5_allPennies_6 : decode cX5_allPennies 6 = .ok (.if_icmp .ge 30, 3) := by decide +kernel
theorem dX5_allPennies_9 : decode cX5_allPennies 9 = .ok (.aload_n 0, 1) := by decide +kernel
theorem dX5_allPennies_10 : decode cX5_allPennies 10 = .ok (.iload_n 2, 1) := by decide +kernel
theorem dX5_allPennies_11 : decode cX5_allPennies 11 = .ok (.invokevirtual 34, 3) := by decide +kernel
theorem dX5_allPennies_14 : decode cX5_allPennies 14 = .ok (.astore_n 3, 1) := by decide +kernel
theorem dX5_allPennies_15 : decode cX5_allPennies 15 = .ok (.iload_n 1, 1) := by decide +kernel
theorem dX5_allPennies_16 : decode cX5_allPennies 16 = .ok (.aload_n 3, 1) := by decide +kernel
theorem dX5_allPennies_17 : decode cX5_allPennies 17 = .ok (.ifnonnull 7, 3) := by decide +kernel
theorem dX5_allPennies_20 : decode cX5_allPennies 20 = .ok (.iconst 0, 1) := by decide +kernel
theorem dX5_allPennies_21 : decode cX5_allPennies 21 = .ok (.goto 7, 3) := by decide +kernel
theorem dX5_allPennies_24 : decode cX5_allPennies 24 = .ok (.aload_n 3, 1) := by decide +kernel
theorem dX5_allPennies_25 : decode cX5_allPennies 25 = .ok (.getfield 51, 3) := by decide +kernel
theorem dX5_allPennies_28 : decode cX5_allPennies 28 = .ok (.iadd, 1) := by decide +kernel
theorem dX5_allPennies_29 : decode cX5_allPennies 29 = .ok (.istore_n 1, 1) := by decide +kernel
theorem dX5_allPennies_30 : decode cX5_allPennies 30 = .ok (.iinc 2 1, 3) := by decide +kernel
theorem dX5_allPennies_33 : decode cX5_allPennies 33 = .ok (.goto (-29), 3) := by decide +kernel
theorem dX5_allPennies_36 : decode cX5_allPennies 36 = .ok (.iload_n 1, 1) := by decide +kernel
theorem dX5_allPennies_37 : decode cX5_allPennies 37 = .ok (.ireturn, 1) := by decide +kernel
theorem dX5_pickerAt_0 : decode cX5_pickerAt 0 = .ok (.iconst (-1), 1) := by decide +kernel
theorem dX5_pickerAt_1 : decode cX5_pickerAt 1 = .ok (.istore_n 2, 1) := by decide +kernel
theorem dX5_pickerAt_2 : decode cX5_pickerAt 2 = .ok (.iconst 0, 1) := by decide +kernel
theorem dX5_pickerAt_3 : decode cX5_pickerAt 3 = .ok (.istore_n 3, 1) := by decide +kernel
theorem dX5_pickerAt_4 : decode cX5_pickerAt 4 = .ok (.iconst 0, 1) := by decide +kernel
theorem dX5_pickerAt_5 : decode cX5_pickerAt 5 = .ok (.istore 4, 2) := by decide +kernel
theorem dX5_pickerAt_7 : decode cX5_pickerAt 7 = .ok (.iload 4, 2) := by decide +kernel
theorem dX5_pickerAt_9 : decode cX5_pickerAt 9 = .ok (.iconst 5, 1) := by decide +kernel
theorem dX5_pickerAt_10 : decode cX5_pickerAt 10 = .ok (.if_icmp .ge 66, 3) := by decide +kernel
theorem dX5_pickerAt_13 : decode cX5_pickerAt 13 = .ok (.aload_n 0, 1) := by decide +kernel
theorem dX5_pickerAt_14 : decode cX5_pickerAt 14 = .ok (.iload_n 1, 1) := by decide +kernel
theorem dX5_pickerAt_15 : decode cX5_pickerAt 15 = .ok (.invokevirtual 64, 3) := by decide +kernel
theorem dX5_pickerAt_18 : decode cX5_pickerAt 18 = .ok (.ifCond .eq 58, 3) := by decide +kernel
theorem dX5_pickerAt_21 : decode cX5_pickerAt 21 = .ok (.aload_n 0, 1) := by decide +kernel
theorem dX5_pickerAt_22 : decode cX5_pickerAt 22 = .ok (.iload 4, 2) := by decide +kernel
theorem dX5_pickerAt_24 : decode cX5_pickerAt 24 = .ok (.invokevirtual 34, 3) := by decide +kernel
theorem dX5_pickerAt_27 : decode cX5_pickerAt 27 = .ok (.astore 5, 2) := by decide +kernel
theorem dX5_pickerAt_29 : decode cX5_pickerAt 29 = .ok (.aload 5, 2) := by decide +kernel
theorem dX5_pickerAt_31 : decode cX5_pickerAt 31 = .ok (.ifnonnull 7, 3) := by decide +kernel
theorem dX5_pickerAt_34 : decode cX5_pickerAt 34 = .ok (.iconst 0, 1) := by decide +kernel
theorem dX5_pickerAt_35 : decode cX5_pickerAt 35 = .ok (.goto 21, 3) := by decide +kernel
theorem dX5_pickerAt_38 : decode cX5_pickerAt 38 = .ok (.aload 5, 2) := by decide +kernel
theorem dX5_pickerAt_40 : decode cX5_pickerAt 40 = .ok (.aload 5, 2) := by decide +kernel
theorem dX5_pickerAt_42 : decode cX5_pickerAt 42 = .ok (.getfield 45, 3) := by decide +kernel
theorem dX5_pickerAt_45 : decode cX5_pickerAt 45 = .ok (.iload_n 1, 1) := by decide +kernel
theorem dX5_pickerAt_46 : decode cX5_pickerAt 46 = .ok (.invokestatic 67, 3) := by decide +kernel
theorem dX5_pickerAt_49 : decode cX5_pickerAt 49 = .ok (.aload_n 0, 1) := by decide +kernel
theorem dX5_pickerAt_50 : decode cX5_pickerAt 50 = .ok (.getfield 24, 3) := by decide +kernel
theorem dX5_pickerAt_53 : decode cX5_pickerAt 53 = .ok (.invokevirtual 70, 3) := by decide +kernel
theorem dX5_pickerAt_56 : decode cX5_pickerAt 56 = .ok (.istore 6, 2) := by decide +kernel
theorem dX5_pickerAt_58 : decode cX5_pickerAt 58 = .ok (.iload 6, 2) := by decide +kernel
theorem dX5_pickerAt_60 : decode cX5_pickerAt 60 = .ok (.iload_n 3, 1) := by decide +kernel
theorem dX5_pickerAt_61 : decode cX5_pickerAt 61 = .ok (.if_icmp .le 9, 3) := by decide +kernel
theorem dX5_pickerAt_64 : decode cX5_pickerAt 64 = .ok (.iload 6, 2) := by decide +kernel
theorem dX5_pickerAt_66 : decode cX5_pickerAt 66 = .ok (.istore_n 3, 1) := by decide +kernel
theorem dX5_pickerAt_67 : decode cX5_pickerAt 67 = .ok (.iload 4, 2) := by decide +kernel
theorem dX5_pickerAt_69 : decode cX5_pickerAt 69 = .ok (.istore_n 2, 1) := by decide +kernel
theorem dX5_pickerAt_70 : decode cX5_pickerAt 70 = .ok (.iinc 4 1, 3) := by decide +kernel
theorem dX5_pickerAt_73 : decode cX5_pickerAt 73 = .ok (.goto (-66), 3) := by decide +kernel
theorem dX5_pickerAt_76 : decode cX5_pickerAt 76 = .ok (.iload_n 2, 1) := by decide +kernel
theorem dX5_pickerAt_77 : decode cX5_pickerAt 77 = .ok (.ireturn, 1) := by decide +kernel
theorem dX5_powerNeeded_0 : decode cX5_powerNeeded 0 = .ok (.aload_n 0, 1) := by decide +kernel
theorem dX5_powerNeeded_1 : decode cX5_powerNeeded 1 = .ok (.iload_n 3, 1) := by decide +kernel
theorem dX5_powerNeeded_2 : decode cX5_powerNeeded 2 = .ok (.invokevirtual 64, 3) := by decide +kernel
theorem dX5_powerNeeded_5 : decode cX5_powerNeeded 5 = .ok (.ifCond .ne 7, 3) := by decide +kernel
theorem dX5_powerNeeded_8 : decode cX5_powerNeeded 8 = .ok (.sipush 1000, 3) := by decide +kernel
theorem dX5_powerNeeded_11 : decode cX5_powerNeeded 11 = .ok (.ireturn, 1) := by decide +kernel
theorem dX5_powerNeeded_12 : decode cX5_powerNeeded 12 = .ok (.iconst 1, 1) := by decide +kernel
theorem dX5_powerNeeded_13 : decode cX5_powerNeeded 13 = .ok (.istore 4, 2) := by decide +kernel
theorem dX5_powerNeeded_15 : decode cX5_powerNeeded 15 = .ok (.iconst 0, 1) := by decide +kernel
theorem dX5_powerNeeded_16 : decode cX5_powerNeeded 16 = .ok (.istore 5, 2) := by decide +kernel
theorem dX5_powerNeeded_18 : decode cX5_powerNeeded 18 = .ok (.iload 5, 2) := by decide +kernel
theorem dX5_powerNeeded_20 : decode cX5_powerNeeded 20 = .ok (.iconst 5, 1) := by decide +kernel
theorem dX5_powerNeeded_21 : decode cX5_powerNeeded 21 = .ok (.if_icmp .ge 75, 3) := by decide +kernel
theorem dX5_powerNeeded_24 : decode cX5_powerNeeded 24 = .ok (.aload_n 0, 1) := by decide +kernel
theorem dX5_powerNeeded_25 : decode cX5_powerNeeded 25 = .ok (.iload 5, 2) := by decide +kernel
theorem dX5_powerNeeded_27 : decode cX5_powerNeeded 27 = .ok (.invokevirtual 34, 3) := by decide +kernel
theorem dX5_powerNeeded_30 : decode cX5_powerNeeded 30 = .ok (.astore 6, 2) := by decide +kernel
theorem dX5_powerNeeded_32 : decode cX5_powerNeeded 32 = .ok (.aload 6, 2) := by decide +kernel
theorem dX5_powerNeeded_34 : decode cX5_powerNeeded 34 = .ok (.ifnull 56, 3) := by decide +kernel
theorem dX5_powerNeeded_37 : decode cX5_powerNeeded 37 = .ok (.iload 5, 2) := by decide +kernel
theorem dX5_powerNeeded_39 : decode cX5_powerNeeded 39 = .ok (.iload_n 1, 1) := by decide +kernel
theorem dX5_powerNeeded_40 : decode cX5_powerNeeded 40 = .ok (.if_icmp .eq 50, 3) := by decide +kernel
theorem dX5_powerNeeded_43 : decode cX5_powerNeeded 43 = .ok (.iload 5, 2) := by decide +kernel
theorem dX5_powerNeeded_45 : decode cX5_powerNeeded 45 = .ok (.iload_n 2, 1) := by decide +kernel
theorem dX5_powerNeeded_46 : decode cX5_powerNeeded 46 = .ok (.if_icmp .eq 44, 3) := by decide +kernel
theorem dX5_powerNeeded_49 : decode cX5_powerNeeded 49 = .ok (.iload 5, 2) := by decide +kernel
theorem dX5_powerNeeded_51 : decode cX5_powerNeeded 51 = .ok (.iload_n 1, 1) := by decide +kernel
theorem dX5_powerNeeded_52 : decode cX5_powerNeeded 52 = .ok (.if_icmp .ge 7, 3) := by decide +kernel
theorem dX5_powerNeeded_55 : decode cX5_powerNeeded 55 = .ok (.iconst 1, 1) := by decide +kernel
theorem dX5_powerNeeded_56 : decode cX5_powerNeeded 56 = .ok (.goto 4, 3) := by decide +kernel
theorem dX5_powerNeeded_59 : decode cX5_powerNeeded 59 = .ok (.iconst 0, 1) := by decide +kernel
theorem dX5_powerNeeded_60 : decode cX5_powerNeeded 60 = .ok (.istore 7, 2) := by decide +kernel
theorem dX5_powerNeeded_62 : decode cX5_powerNeeded 62 = .ok (.iload 4, 2) := by decide +kernel
theorem dX5_powerNeeded_64 : decode cX5_powerNeeded 64 = .ok (.aload 6, 2) := by decide +kernel
theorem dX5_powerNeeded_66 : decode cX5_powerNeeded 66 = .ok (.aload 6, 2) := by decide +kernel
theorem dX5_powerNeeded_68 : decode cX5_powerNeeded 68 = .ok (.getfield 45, 3) := by decide +kernel
theorem dX5_powerNeeded_71 : decode cX5_powerNeeded 71 = .ok (.iload_n 3, 1) := by decide +kernel
theorem dX5_powerNeeded_72 : decode cX5_powerNeeded 72 = .ok (.invokestatic 67, 3) := by decide +kernel
theorem dX5_powerNeeded_75 : decode cX5_powerNeeded 75 = .ok (.aload_n 0, 1) := by decide +kernel
theorem dX5_powerNeeded_76 : decode cX5_powerNeeded 76 = .ok (.getfield 24, 3) := by decide +kernel
theorem dX5_powerNeeded_79 : decode cX5_powerNeeded 79 = .ok (.invokevirtual 70, 3) := by decide +kernel
theorem dX5_powerNeeded_82 : decode cX5_powerNeeded 82 = .ok (.iload 7, 2) := by decide +kernel
theorem dX5_powerNeeded_84 : decode cX5_powerNeeded 84 = .ok (.iadd, 1) := by decide +kernel
theorem dX5_powerNeeded_85 : decode cX5_powerNeeded 85 = .ok (.invokestatic 58, 3) := by decide +kernel
theorem dX5_powerNeeded_88 : decode cX5_powerNeeded 88 = .ok (.istore 4, 2) := by decide +kernel
theorem dX5_powerNeeded_90 : decode cX5_powerNeeded 90 = .ok (.iinc 5 1, 3) := by decide +kernel
theorem dX5_powerNeeded_93 : decode cX5_powerNeeded 93 = .ok (.goto (-75), 3) := by decide +kernel
theorem dX5_powerNeeded_96 : decode cX5_powerNeeded 96 = .ok (.iload 4, 2) := by decide +kernel
theorem dX5_powerNeeded_98 : decode cX5_powerNeeded 98 = .ok (.ireturn, 1) := by decide +kernel
theorem dX6_init_0 : decode cX6_init 0 = .ok (.aload_n 0, 1) := by decide +kernel
theorem dX6_init_1 : decode cX6_init 1 = .ok (.invokespecial 3, 3) := by decide +kernel
theorem dX6_init_4 : decode cX6_init 4 = .ok (.aload_n 0, 1) := by decide +kernel
theorem dX6_init_5 : decode cX6_init 5 = .ok (.sipush 300, 3) := by decide +kernel
theorem dX6_init_8 : decode cX6_init 8 = .ok (.newarray .int, 2) := by decide +kernel
theorem dX6_init_10 : decode cX6_init 10 = .ok (.putfield 11, 3) := by decide +kernel
theorem dX6_init_13 : decode cX6_init 13 = .ok (.return_, 1) := by decide +kernel
theorem dX6_hasRoomFor_0 : decode cX6_hasRoomFor 0 = .ok (.aload_n 0, 1) := by decide +kernel
theorem dX6_hasRoomFor_1 : decode cX6_hasRoomFor 1 = .ok (.getfield 15, 3) := by decide +kernel
theorem dX6_hasRoomFor_4 : decode cX6_hasRoomFor 4 = .ok (.iload_n 1, 1) := by decide +kernel
theorem dX6_hasRoomFor_5 : decode cX6_hasRoomFor 5 = .ok (.iadd, 1) := by decide +kernel
theorem dX6_hasRoomFor_6 : decode cX6_hasRoomFor 6 = .ok (.aload_n 0, 1) := by decide +kernel
theorem dX6_hasRoomFor_7 : decode cX6_hasRoomFor 7 = .ok (.getfield 11, 3) := by decide +kernel
theorem dX6_hasRoomFor_10 : decode cX6_hasRoomFor 10 = .ok (.arraylength, 1) := by decide +kernel
theorem dX6_hasRoomFor_11 : decode cX6_hasRoomFor 11 = .ok (.if_icmp .gt 7, 3) := by decide +kernel
theorem dX6_hasRoomFor_14 : decode cX6_hasRoomFor 14 = .ok (.iconst 1, 1) := by decide +kernel
theorem dX6_hasRoomFor_15 : decode cX6_hasRoomFor 15 = .ok (.goto 4, 3) := by decide +kernel
theorem dX6_hasRoomFor_18 : decode cX6_hasRoomFor 18 = .ok (.iconst 0, 1) := by decide +kernel
theorem dX6_hasRoomFor_19 : decode cX6_hasRoomFor 19 = .ok (.ireturn, 1) := by decide +kernel
theorem dX6_add_0 : decode cX6_add 0 = .ok (.aload_n 0, 1) := by decide +kernel
theorem dX6_add_1 : decode cX6_add 1 = .ok (.getfield 15, 3) := by decide +kernel
theorem dX6_add_4 : decode cX6_add 4 = .ok (.ifCond .lt 35, 3) := by decide +kernel
theorem dX6_add_7 : decode cX6_add 7 = .ok (.aload_n 0, 1) := by decide +kernel
theorem dX6_add_8 : decode cX6_add 8 = .ok (.getfield 15, 3) := by decide +kernel
theorem dX6_add_11 : decode cX6_add 11 = .ok (.aload_n 0, 1) := by decide +kernel
theorem dX6_add_12 : decode cX6_add 12 = .ok (.getfield 11, 3) := by decide +kernel
theorem dX6_add_15 : decode cX6_add 15 = .ok (.arraylength, 1) := by decide +kernel
theorem dX6_add_16 : decode cX6_add 16 = .ok (.if_icmp .ge 23, 3) := by decide +kernel
theorem dX6_add_19 : decode cX6_add 19 = .ok (.aload_n 0, 1) := by decide +kernel
theorem dX6_add_20 : decode cX6_add 20 = .ok (.getfield 11, 3) := by decide +kernel
theorem dX6_add_23 : decode cX6_add 23 = .ok (.aload_n 0, 1) := by decide +kernel
theorem dX6_add_24 : decode cX6_add 24 = .ok (.getfield 15, 3) := by decide +kernel
theorem dX6_add_27 : decode cX6_add 27 = .ok (.iload_n 1, 1) := by decide +kernel
theorem dX6_add_28 : decode cX6_add 28 = .ok (.iastore, 1) := by decide +kernel
theorem dX6_add_29 : decode cX6_add 29 = .ok (.aload_n 0, 1) := by decide +kernel
theorem dX6_add_30 : decode cX6_add 30 = .ok (.dup, 1) := by decide +kernel
theorem dX6_add_31 : decode cX6_add 31 = .ok (.getfield 15, 3) := by decide +kernel
theorem dX6_add_34 : decode cX6_add 34 = .ok (.iconst 1, 1) := by decide +kernel
theorem dX6_add_35 : decode cX6_add 35 = .ok (.iadd, 1) := by decide +kernel
theorem dX6_add_36 : decode cX6_add 36 = .ok (.putfield 15, 3) := by decide +kernel
theorem dX6_add_39 : decode cX6_add 39 = .ok (.return_, 1) := by decide +kernel
theorem dX6_read_0 : decode cX6_read 0 = .ok (.aload_n 0, 1) := by decide +kernel
theorem dX6_read_1 : decode cX6_read 1 = .ok (.iconst 0, 1) := by decide +kernel
theorem dX6_read_2 : decode cX6_read 2 = .ok (.putfield 19, 3) := by decide +kernel
theorem dX6_read_5 : decode cX6_read 5 = .ok (.aload_n 0, 1) := by decide +kernel
theorem dX6_read_6 : decode cX6_read 6 = .ok (.invokevirtual 22, 3) := by decide +kernel
theorem dX6_read_9 : decode cX6_read 9 = .ok (.aload_n 0, 1) := by decide +kernel
theorem dX6_read_10 : decode cX6_read 10 = .ok (.aload_n 1, 1) := by decide +kernel
theorem dX6_read_11 : decode cX6_read 11 = .ok (.invokevirtual 25, 3) := by decide +kernel
theorem dX6_read_14 : decode cX6_read 14 = .ok (.ifCond .ne 5, 3) := by decide +kernel
theorem dX6_read_17 : decode cX6_read 17 = .ok (.iconst 0, 1) := by decide +kernel
theorem dX6_read_18 : decode cX6_read 18 = .ok (.ireturn, 1) := by decide +kernel
theorem dX6_read_19 : decode cX6_read 19 = .ok (.iconst 0, 1) := by decide +kernel
theorem dX6_read_20 : decode cX6_read 20 = .ok (.istore_n 2, 1) := by decide +kernel
theorem dX6_read_21 : decode cX6_read 21 = .ok (.aload_n 0, 1) := by decide +kernel
theorem dX6_read_22 : decode cX6_read 22 = .ok (.ldc 29, 2) := by decide +kernel
theorem dX6_read_24 : decode cX6_read 24 = .ok (.invokevirtual 31, 3) := by decide +kernel
theorem dX6_read_27 : decode cX6_read 27 = .ok (.ifCond .eq 31, 3) := by decide +kernel
theorem dX6_read_30 : decode cX6_read 30 = .ok (.iload_n 2, 1) := by decide +kernel
theorem dX6_read_31 : decode cX6_read 31 = .ok (.bipush 6, 2) := by decide +kernel
theorem dX6_read_33 : decode cX6_read 33 = .ok (.if_icmp .lt 9, 3) := by decide +kernel
theorem dX6_read_36 : decode cX6_read 36 = .ok (.aload_n 0, 1) := by decide +kernel
theorem dX6_read_37 : decode cX6_read 37 = .ok (.iconst 3, 1) := by decide +kernel
theorem dX6_read_38 : decode cX6_read 38 = .ok (.invokevirtual 35, 3) := by decide +kernel
theorem dX6_read_41 : decode cX6_read 41 = .ok (.ireturn, 1) := by decide +kernel
theorem dX6_read_42 : decode cX6_read 42 = .ok (.aload_n 0, 1) := by decide +kernel
theorem dX6_read_43 : decode cX6_read 43 = .ok (.aload_n 1, 1) := by decide +kernel
theorem dX6_read_44 : decode cX6_read 44 = .ok (.invokevirtual 39, 3) := by decide +kernel
theorem dX6_read_47 : decode cX6_read 47 = .ok (.ifCond .ne 5, 3) := by decide +kernel
theorem dX6_read_50 : decode cX6_read 50 = .ok (.iconst 0, 1) := by decide +kernel
theorem dX6_read_51 : decode cX6_read 51 = .ok (.ireturn, 1) := by decide +kernel
theorem dX6_read_52 : decode cX6_read 52 = .ok (.iinc 2 1, 3) := by decide +kernel
theorem dX6_read_55 : decode cX6_read 55 = .ok (.goto (-34), 3) := by decide +kernel
theorem dX6_read_58 : decode cX6_read 58 = .ok (.iconst 0, 1) := by decide +kernel
theorem dX6_read_59 : decode cX6_read 59 = .ok (.istore_n 2, 1) := by decide +kernel
theorem dX6_read_60 : decode cX6_read 60 = .ok (.aload_n 0, 1) := by decide +kernel
theorem dX6_read_61 : decode cX6_read 61 = .ok (.ldc 42, 2) := by decide +kernel
theorem dX6_read_63 : decode cX6_read 63 = .ok (.invokevirtual 31, 3) := by decide +kernel
theorem dX6_read_66 : decode cX6_read 66 = .ok (.ifCond .eq 30, 3) := by decide +kernel
theorem dX6_read_69 : decode cX6_read 69 = .ok (.iload_n 2, 1) := by decide +kernel
theorem dX6_read_70 : decode cX6_read 70 = .ok (.iconst 5, 1) := by decide +kernel
theorem dX6_read_71 : decode cX6_read 71 = .ok (.if_icmp .lt 9, 3) := by decide +kernel
theorem dX6_read_74 : decode cX6_read 74 = .ok (.aload_n 0, 1) := by decide +kernel
theorem dX6_read_75 : decode cX6_read 75 = .ok (.iconst 3, 1) := by decide +kernel
theorem dX6_read_76 : decode cX6_read 76 = .ok (.invokevirtual 35, 3) := by decide +kernel
theorem dX6_read_79 : decode cX6_read 79 = .ok (.ireturn, 1) := by decide +kernel
theorem dX6_read_80 : decode cX6_read 80 = .ok (.aload_n 0, 1) := by decide +kernel
theorem dX6_read_81 : decode cX6_read 81 = .ok (.aload_n 1, 1) := by decide +kernel
theorem dX6_read_82 : decode cX6_read 82 = .ok (.invokevirtual 44, 3) := by decide +kernel
theorem dX6_read_85 : decode cX6_read 85 = .ok (.ifCond .ne 5, 3) := by decide +kernel
theorem dX6_read_88 : decode cX6_read 88 = .ok (.iconst 0, 1) := by decide +kernel
theorem dX6_read_89 : decode cX6_read 89 = .ok (.ireturn, 1) := by decide +kernel
theorem dX6_read_90 : decode cX6_read 90 = .ok (.iinc 2 1, 3) := by decide +kernel
theorem dX6_read_93 : decode cX6_read 93 = .ok (.goto (-33), 3) := by decide +kernel
theorem dX6_read_96 : decode cX6_read 96 = .ok (.aload_n 0, 1) := by decide +kernel
theorem dX6_read_97 : decode cX6_read 97 = .ok (.getfield 47, 3) := by decide +kernel
theorem dX6_read_100 : decode cX6_read 100 = .ok (.ifCond .eq 11, 3) := by decide +kernel
theorem dX6_read_103 : decode cX6_read 103 = .ok (.aload_n 0, 1) := by decide +kernel
theorem dX6_read_104 : decode cX6_read 104 = .ok (.iconst 1, 1) := by decide +kernel
theorem dX6_read_105 : decode cX6_read 105 = .ok (.invokevirtual 35, 3) := by decide +kernel
theorem dX6_read_108 : decode cX6_read 108 = .ok (.ifCond .eq 7, 3) := by decide +kernel
theorem dX6_read_111 : decode cX6_read 111 = .ok (.iconst 1, 1) := by decide +kernel
theorem dX6_read_112 : decode cX6_read 112 = .ok (.goto 4, 3) := by decide +kernel
theorem dX6_read_115 : decode cX6_read 115 = .ok (.iconst 0, 1) := by decide +kernel
theorem dX6_read_116 : decode cX6_read 116 = .ok (.ireturn, 1) := by decide +kernel
theorem dX6_readLaw_0 : decode cX6_readLaw 0 = .ok (.aload_n 0, 1) := by decide +kernel
theorem dX6_readLaw_1 : decode cX6_readLaw 1 = .ok (.ldc 50, 2) := by decide +kernel
theorem dX6_readLaw_3 : decode cX6_readLaw 3 = .ok (.invokevirtual 31, 3) := by decide +kernel
theorem dX6_readLaw_6 : decode cX6_readLaw 6 = .ok (.ifCond .ne 9, 3) := by decide +kernel
theorem dX6_readLaw_9 : decode cX6_readLaw 9 = .ok (.aload_n 0, 1) := by decide +kernel
theorem dX6_readLaw_10 : decode cX6_readLaw 10 = .ok (.iconst 1, 1) := by decide +kernel
theorem dX6_readLaw_11 : decode cX6_readLaw 11 = .ok (.invokevirtual 35, 3) := by decide +kernel
theorem dX6_readLaw_14 : decode cX6_readLaw 14 = .ok (.ireturn, 1) := by decide +kernel
theorem dX6_readLaw_15 : decode cX6_readLaw 15 = .ok (.aload_n 0, 1) := by decide +kernel
theorem dX6_readLaw_16 : decode cX6_readLaw 16 = .ok (.invokevirtual 22, 3) := by decide +kernel
theorem dX6_readLaw_19 : decode cX6_readLaw 19 = .ok (.aload_n 0, 1) := by decide +kernel
theorem dX6_readLaw_20 : decode cX6_readLaw 20 = .ok (.iconst 0, 1) := by decide +kernel
theorem dX6_readLaw_21 : decode cX6_readLaw 21 = .ok (.bipush 20, 2) := by decide +kernel
theorem dX6_readLaw_23 : decode cX6_readLaw 23 = .ok (.invokevirtual 52, 3) := by decide +kernel
theorem dX6_readLaw_26 : decode cX6_readLaw 26 = .ok (.ifCond .ne 5, 3) := by decide +kernel
theorem dX6_readLaw_29 : decode cX6_readLaw 29 = .ok (.iconst 0, 1) := by decide +kernel
theorem dX6_readLaw_30 : decode cX6_readLaw 30 = .ok (.ireturn, 1) := by decide +kernel
theorem dX6_readLaw_31 : decode cX6_readLaw 31 = .ok (.aload_n 1, 1) := by decide +kernel
theorem dX6_readLaw_32 : decode cX6_readLaw 32 = .ok (.aload_n 0, 1) := by decide +kernel
theorem dX6_readLaw_33 : decode cX6_readLaw 33 = .ok (.getfield 56, 3) := by decide +kernel
theorem dX6_readLaw_36 : decode cX6_readLaw 36 = .ok (.putfield 59, 3) := by decide +kernel
theorem dX6_readLaw_39 : decode cX6_readLaw 39 = .ok (.aload_n 0, 1) := by decide +kernel
theorem dX6_readLaw_40 : decode cX6_readLaw 40 = .ok (.invokevirtual 22, 3) := by decide +kernel
theorem dX6_readLaw_43 : decode cX6_readLaw 43 = .ok (.aload_n 0, 1) := by decide +kernel
theorem dX6_readLaw_44 : decode cX6_readLaw 44 = .ok (.invokevirtual 64, 3) := by decide +kernel
theorem dX6_readLaw_47 : decode cX6_readLaw 47 = .ok (.ireturn, 1) := by decide +kernel
theorem dX6_readDrain_0 : decode cX6_readDrain 0 = .ok (.aload_n 0, 1) := by decide +kernel
theorem dX6_readDrain_1 : decode cX6_readDrain 1 = .ok (.invokevirtual 22, 3) := by decide +kernel
theorem dX6_readDrain_4 : decode cX6_readDrain 4 = .ok (.aload_n 0, 1) := by decide +kernel
theorem dX6_readDrain_5 : decode cX6_readDrain 5 = .ok (.invokevirtual 68, 3) := by decide +kernel
theorem dX6_readDrain_8 : decode cX6_readDrain 8 = .ok (.ifCond .ne 5, 3) := by decide +kernel
theorem dX6_readDrain_11 : decode cX6_readDrain 11 = .ok (.iconst 0, 1) := by decide +kernel
theorem dX6_readDrain_12 : decode cX6_readDrain 12 = .ok (.ireturn, 1) := by decide +kernel
theorem dX6_readDrain_13 : decode cX6_readDrain 13 = .ok (.aload_n 1, 1) := by decide +kernel
theorem dX6_readDrain_14 : decode cX6_readDrain 14 = .ok (.dup, 1) := by decide +kernel
theorem dX6_readDrain_15 : decode cX6_readDrain 15 = .ok (.getfield 71, 3) := by decide +kernel
theorem dX6_readDrain_18 : decode cX6_readDrain 18 = .ok (.iconst 1, 1) := by decide +kernel
theorem dX6_readDrain_19 : decode cX6_readDrain 19 = .ok (.aload_n 0, 1) := by decide +kernel
theorem dX6_readDrain_20 : decode cX6_readDrain 20 = .ok (.getfield 56, 3) := by decide +kernel
theorem dX6_readDrain_23 : decode cX6_readDrain 23 = .ok (.ishl, 1) := by decide +kernel
theorem dX6_readDrain_24 : decode cX6_readDrain 24 = .ok (.ior, 1) := by decide +kernel
theorem dX6_readDrain_25 : decode cX6_readDrain 25 = .ok (.putfield 71, 3) := by decide +kernel
theorem dX6_readDrain_28 : decode cX6_readDrain 28 = .ok (.aload_n 0, 1) := by decide +kernel
theorem dX6_readDrain_29 : decode cX6_readDrain 29 = .ok (.invokevirtual 22, 3) := by decide +kernel
theorem dX6_readDrain_32 : decode cX6_readDrain 32 = .ok (.aload_n 0, 1) := by decide +kernel
theorem dX6_readDrain_33 : decode cX6_readDrain 33 = .ok (.invokevirtual 64, 3) := by decide +kernel
theorem dX6_readDrain_36 : decode cX6_readDrain 36 = .ok (.ireturn, 1) := by decide +kernel
theorem dX6_readChild_0 : decode cX6_readChild 0 = .ok (.aload_n 0, 1) := by decide +kernel
theorem dX6_readChild_1 : decode cX6_readChild 1 = .ok (.invokevirtual 22, 3) := by decide +kernel
theorem dX6_readChild_4 : decode cX6_readChild 4 = .ok (.aload_n 0, 1) := by decide +kernel
theorem dX6_readChild_5 : decode cX6_readChild 5 = .ok (.invokevirtual 74, 3) := by decide +kernel
theorem dX6_readChild_8 : decode cX6_readChild 8 = .ok (.istore_n 2, 1) := by decide +kernel
theorem dX6_readChild_9 : decode cX6_readChild 9 = .ok (.iload_n 2, 1) := by decide +kernel
theorem dX6_readChild_10 : decode cX6_readChild 10 = .ok (.ldc 78, 2) := by decide +kernel
theorem dX6_readChild_12 : decode cX6_readChild 12 = .ok (.if_icmp .ne 9, 3) := by decide +kernel
theorem dX6_readChild_15 : decode cX6_readChild 15 = .ok (.aload_n 0, 1) := by decide +kernel
theorem dX6_readChild_16 : decode cX6_readChild 16 = .ok (.iconst 1, 1) := by decide +kernel
theorem dX6_readChild_17 : decode cX6_readChild 17 = .ok (.invokevirtual 35, 3) := by decide +kernel
theorem dX6_readChild_20 : decode cX6_readChild 20 = .ok (.ireturn, 1) := by decide +kernel
theorem dX6_readChild_21 : decode cX6_readChild 21 = .ok (.aload_n 0, 1) := by decide +kernel
theorem dX6_readChild_22 : decode cX6_readChild 22 = .ok (.invokevirtual 22, 3) := by decide +kernel
theorem dX6_readChild_25 : decode cX6_readChild 25 = .ok (.aload_n 0, 1) := by decide +kernel
theorem dX6_readChild_26 : decode cX6_readChild 26 = .ok (.invokevirtual 68, 3) := by decide +kernel
theorem dX6_readChild_29 : decode cX6_readChild 29 = .ok (.ifCond .ne 5, 3) := by decide +kernel
theorem dX6_readChild_32 : decode cX6_readChild 32 = .ok (.iconst 0, 1) := by decide +kernel
theorem dX6_readChild_33 : decode cX6_readChild 33 = .ok (.ireturn, 1) := by decide +kernel
theorem dX6_readChild_34 : decode cX6_readChild 34 = .ok (.aload_n 0, 1) := by decide +kernel
theorem dX6_readChild_35 : decode cX6_readChild 35 = .ok (.getfield 56, 3) := by decide +kernel
theorem dX6_readChild_38 : decode cX6_readChild 38 = .ok (.istore_n 3, 1) := by decide +kernel
theorem dX6_readChild_39 : decode cX6_readChild 39 = .ok (.aload_n 0, 1) := by decide +kernel
theorem dX6_readChild_40 : decode cX6_readChild 40 = .ok (.invokevirtual 22, 3) := by decide +kernel
theorem dX6_readChild_43 : decode cX6_readChild 43 = .ok (.aload_n 0, 1) := by decide +kernel
theorem dX6_readChild_44 : decode cX6_readChild 44 = .ok (.iconst 1, 1) := by decide +kernel
theorem dX6_readChild_45 : decode cX6_readChild 45 = .ok (.bipush 9, 2) := by decide +kernel
theorem dX6_readChild_47 : decode cX6_readChild 47 = .ok (.invokevirtual 52, 3) := by decide +kernel
theorem dX6_readChild_50 : decode cX6_readChild 50 = .ok (.ifCond .ne 5, 3) := by decide +kernel
theorem dX6_readChild_53 : decode cX6_readChild 53 = .ok (.iconst 0, 1) := by decide +kernel
theorem dX6_readChild_54 : decode cX6_readChild 54 = .ok (.ireturn, 1) := by decide +kernel
theorem dX6_readChild_55 : decode cX6_readChild 55 = .ok (.aload_n 1, 1) := by decide +kernel
theorem dX6_readChild_56 : decode cX6_readChild 56 = .ok (.iload_n 2, 1) := by decide +kernel
theorem dX6_readChild_57 : decode cX6_readChild 57 = .ok (.iload_n 3, 1) := by decide +kernel
theorem dX6_readChild_58 : decode cX6_readChild 58 = .ok (.aload_n 0, 1) := by decide +kernel
theorem dX6_readChild_59 : decode cX6_readChild 59 = .ok (.getfield 56, 3) := by decide +kernel
theorem dX6_readChild_62 : decode cX6_readChild 62 = .ok (.invokevirtual 79, 3) := by decide +kernel
theorem dX6_readChild_65 : decode cX6_readChild 65 = .ok (.aload_n 0, 1) := by decide +kernel
theorem dX6_readChild_66 : decode cX6_readChild 66 = .ok (.invokevirtual 22, 3) := by decide +kernel
theorem dX6_readChild_69 : decode cX6_readChild 69 = .ok (.aload_n 0, 1) := by decide +kernel
theorem dX6_readChild_70 : decode cX6_readChild 70 = .ok (.invokevirtual 64, 3) := by decide +kernel
theorem dX6_readChild_73 : decode cX6_readChild 73 = .ok (.ireturn, 1) := by decide +kernel
theorem dX6_kindNamed_0 : decode cX6_kindNamed 0 = .ok (.aload_n 0, 1) := by decide +kernel
theorem dX6_kindNamed_1 : decode cX6_kindNamed 1 = .ok (.ldc 83, 2) := by decide +kernel
theorem dX6_kindNamed_3 : decode cX6_kindNamed 3 = .ok (.invokevirtual 31, 3) := by decide +kernel
theorem dX6_kindNamed_6 : decode cX6_kindNamed 6 = .ok (.ifCond .eq 5, 3) := by decide +kernel
theorem dX6_kindNamed_9 : decode cX6_kindNamed 9 = .ok (.iconst 1, 1) := by decide +kernel
theorem dX6_kindNamed_10 : decode cX6_kindNamed 10 = .ok (.ireturn, 1) := by decide +kernel
theorem dX6_kindNamed_11 : decode cX6_kindNamed 11 = .ok (.aload_n 0, 1) := by decide +kernel
theorem dX6_kindNamed_12 : decode cX6_kindNamed 12 = .ok (.ldc 85, 2) := by decide +kernel
theorem dX6_kindNamed_14 : decode cX6_kindNamed 14 = .ok (.invokevirtual 31, 3) := by decide +kernel
theorem dX6_kindNamed_17 : decode cX6_kindNamed 17 = .ok (.ifCond .eq 5, 3) := by decide +kernel
theorem dX6_kindNamed_20 : decode cX6_kindNamed 20 = .ok (.iconst 2, 1) := by decide +kernel
theorem dX6_kindNamed_21 : decode cX6_kindNamed 21 = .ok (.ireturn, 1) := by decide +kernel
theorem dX6_kindNamed_22 : decode cX6_kindNamed 22 = .ok (.aload_n 0, 1) := by decide +kernel
theorem dX6_kindNamed_23 : decode cX6_kindNamed 23 = .ok (.ldc 87, 2) := by decide +kernel
theorem dX6_kindNamed_25 : decode cX6_kindNamed 25 = .ok (.invokevirtual 31, 3) := by decide +kernel
theorem dX6_kindNamed_28 : decode cX6_kindNamed 28 = .ok (.ifCond .eq 5, 3) := by decide +kernel
theorem dX6_kindNamed_31 : decode cX6_kindNamed 31 = .ok (.iconst 3, 1) := by decide +kernel
theorem dX6_kindNamed_32 : decode cX6_kindNamed 32 = .ok (.ireturn, 1) := by decide +kernel
theorem dX6_kindNamed_33 : decode cX6_kindNamed 33 = .ok (.aload_n 0, 1) := by decide +kernel
theorem dX6_kindNamed_34 : decode cX6_kindNamed 34 = .ok (.ldc 89, 2) := by decide +kernel
theorem dX6_kindNamed_36 : decode cX6_kindNamed 36 = .ok (.invokevirtual 31, 3) := by decide +kernel
theorem dX6_kindNamed_39 : decode cX6_kindNamed 39 = .ok (.ifCond .eq 5, 3) := by decide +kernel
theorem dX6_kindNamed_42 : decode cX6_kindNamed 42 = .ok (.iconst 4, 1) := by decide +kernel
theorem dX6_kindNamed_43 : decode cX6_kindNamed 43 = .ok (.ireturn, 1) := by decide +kernel
theorem dX6_kindNamed_44 : decode cX6_kindNamed 44 = .ok (.aload_n 0, 1) := by decide +kernel
theorem dX6_kindNamed_45 : decode cX6_kindNamed 45 = .ok (.ldc 91, 2) := by decide +kernel
theorem dX6_kindNamed_47 : decode cX6_kindNamed 47 = .ok (.invokevirtual 31, 3) := by decide +kernel
theorem dX6_kindNamed_50 : decode cX6_kindNamed 50 = .ok (.ifCond .eq 7, 3) := by decide +kernel
theorem dX6_kindNamed_53 : decode cX6_kindNamed 53 = .ok (.iconst 5, 1) := by decide +kernel
theorem dX6_kindNamed_54 : decode cX6_kindNamed 54 = .ok (.goto 5, 3) := by decide +kernel
theorem dX6_kindNamed_57 : decode cX6_kindNamed 57 = .ok (.ldc 78, 2) := by decide +kernel
theorem dX6_kindNamed_59 : decode cX6_kindNamed 59 = .ok (.ireturn, 1) := by decide +kernel
theorem dX6_takeCell_0 : decode cX6_takeCell 0 = .ok (.aload_n 0, 1) := by decide +kernel
theorem dX6_takeCell_1 : decode cX6_takeCell 1 = .ok (.iconst 0, 1) := by decide +kernel
theorem dX6_takeCell_2 : decode cX6_takeCell 2 = .ok (.iconst 5, 1) := by decide +kernel
theorem dX6_takeCell_3 : decode cX6_takeCell 3 = .ok (.invokevirtual 52, 3) := by decide +kernel
theorem dX6_takeCell_6 : decode cX6_takeCell 6 = .ok (.ifCond .ne 5, 3) := by decide +kernel
theorem dX6_takeCell_9 : decode cX6_takeCell 9 = .ok (.iconst 0, 1) := by decide +kernel
theorem dX6_takeCell_10 : decode cX6_takeCell 10 = .ok (.ireturn, 1) := by decide +kernel
theorem dX6_takeCell_11 : decode cX6_takeCell 11 = .ok (.aload_n 0, 1) := by decide +kernel
theorem dX6_takeCell_12 : decode cX6_takeCell 12 = .ok (.getfield 56, 3) := by decide +kernel
theorem dX6_takeCell_15 : decode cX6_takeCell 15 = .ok (.istore_n 1, 1) := by decide +kernel
theorem dX6_takeCell_16 : decode cX6_takeCell 16 = .ok (.aload_n 0, 1) := by decide +kernel
theorem dX6_takeCell_17 : decode cX6_takeCell 17 = .ok (.invokevirtual 22, 3) := by decide +kernel
theorem dX6_takeCell_20 : decode cX6_takeCell 20 = .ok (.aload_n 0, 1) := by decide +kernel
theorem dX6_takeCell_21 : decode cX6_takeCell 21 = .ok (.iconst 0, 1) := by decide +kernel
theorem dX6_takeCell_22 : decode cX6_takeCell 22 = .ok (.iconst 4, 1) := by decide +kernel
theorem dX6_takeCell_23 : decode cX6_takeCell 23 = .ok (.invokevirtual 52, 3) := by decide +kernel
theorem dX6_takeCell_26 : decode cX6_takeCell 26 = .ok (.ifCond .ne 5, 3) := by decide +kernel
theorem dX6_takeCell_29 : decode cX6_takeCell 29 = .ok (.iconst 0, 1) := by decide +kernel
theorem dX6_takeCell_30 : decode cX6_takeCell 30 = .ok (.ireturn, 1) := by decide +kernel
theorem dX6_takeCell_31 : decode cX6_takeCell 31 = .ok (.aload_n 0, 1) := by decide +kernel
theorem dX6_takeCell_32 : decode cX6_takeCell 32 = .ok (.bipush 6, 2) := by decide +kernel
theorem dX6_takeCell_34 : decode cX6_takeCell 34 = .ok (.aload_n 0, 1) := by decide +kernel
theorem dX6_takeCell_35 : decode cX6_takeCell 35 = .ok (.getfield 56, 3) := by decide +kernel
theorem dX6_takeCell_38 : decode cX6_takeCell 38 = .ok (.imul, 1) := by decide +kernel
theorem dX6_takeCell_39 : decode cX6_takeCell 39 = .ok (.iload_n 1, 1) := by decide +kernel
theorem dX6_takeCell_40 : decode cX6_takeCell 40 = .ok (.iadd, 1) := by decide +kernel
theorem dX6_takeCell_41 : decode cX6_takeCell 41 = .ok (.putfield 56, 3) := by decide +kernel
theorem dX6_takeCell_44 : decode cX6_takeCell 44 = .ok (.iconst 1, 1) := by decide +kernel
theorem dX6_takeCell_45 : decode cX6_takeCell 45 = .ok (.ireturn, 1) := by decide +kernel
theorem dX6_takeNumber_0 : decode cX6_takeNumber 0 = .ok (.aload_n 0, 1) := by decide +kernel
theorem dX6_takeNumber_1 : decode cX6_takeNumber 1 = .ok (.getfield 47, 3) := by decide +kernel
theorem dX6_takeNumber_4 : decode cX6_takeNumber 4 = .ok (.iconst 2, 1) := by decide +kernel
theorem dX6_takeNumber_5 : decode cX6_takeNumber 5 = .ok (.if_icmp .eq 9, 3) := by decide +kernel
theorem dX6_takeNumber_8 : decode cX6_takeNumber 8 = .ok (.aload_n 0, 1) := by decide +kernel
theorem dX6_takeNumber_9 : decode cX6_takeNumber 9 = .ok (.iconst 1, 1) := by decide +kernel
theorem dX6_takeNumber_10 : decode cX6_takeNumber 10 = .ok (.invokevirtual 35, 3) := by decide +kernel
theorem dX6_takeNumber_13 : decode cX6_takeNumber 13 = .ok (.ireturn, 1) := by decide +kernel
theorem dX6_takeNumber_14 : decode cX6_takeNumber 14 = .ok (.aload_n 0, 1) := by decide +kernel
theorem dX6_takeNumber_15 : decode cX6_takeNumber 15 = .ok (.getfield 56, 3) := by decide +kernel
theorem dX6_takeNumber_18 : decode cX6_takeNumber 18 = .ok (.iload_n 1, 1) := by decide +kernel
theorem dX6_takeNumber_19 : decode cX6_takeNumber 19 = .ok (.if_icmp .lt 11, 3) := by decide +kernel
theorem dX6_takeNumber_22 : decode cX6_takeNumber 22 = .ok (.aload_n 0, 1) := by decide +kernel
theorem dX6_takeNumber_23 : decode cX6_takeNumber 23 = .ok (.getfield 56, 3) := by decide +kernel
theorem dX6_takeNumber_26 : decode cX6_takeNumber 26 = .ok (.iload_n 2, 1) := by decide +kernel
theorem dX6_takeNumber_27 : decode cX6_takeNumber 27 = .ok (.if_icmp .le 11, 3) := by decide +kernel
theorem dX6_takeNumber_30 : decode cX6_takeNumber 30 = .ok (.aload_n 0, 1) := by decide +kernel
theorem dX6_takeNumber_31 : decode cX6_takeNumber 31 = .ok (.iconst 2, 1) := by decide +kernel
theorem dX6_takeNumber_32 : decode cX6_takeNumber 32 = .ok (.invokevirtual 35, 3) := by decide +kernel
theorem dX6_takeNumber_35 : decode cX6_takeNumber 35 = .ok (.ifCond .eq 7, 3) := by decide +kernel
theorem dX6_takeNumber_38 : decode cX6_takeNumber 38 = .ok (.iconst 1, 1) := by decide +kernel
theorem dX6_takeNumber_39 : decode cX6_takeNumber 39 = .ok (.goto 4, 3) := by decide +kernel
theorem dX6_takeNumber_42 : decode cX6_takeNumber 42 = .ok (.iconst 0, 1) := by decide +kernel
theorem dX6_takeNumber_43 : decode cX6_takeNumber 43 = .ok (.ireturn, 1) := by decide +kernel
theorem dX6_takeEnd_0 : decode cX6_takeEnd 0 = .ok (.aload_n 0, 1) := by decide +kernel
theorem dX6_takeEnd_1 : decode cX6_takeEnd 1 = .ok (.getfield 47, 3) := by decide +kernel
theorem dX6_takeEnd_4 : decode cX6_takeEnd 4 = .ok (.iconst 3, 1) := by decide +kernel
theorem dX6_takeEnd_5 : decode cX6_takeEnd 5 = .ok (.if_icmp .eq 9, 3) := by decide +kernel
theorem dX6_takeEnd_8 : decode cX6_takeEnd 8 = .ok (.aload_n 0, 1) := by decide +kernel
theorem dX6_takeEnd_9 : decode cX6_takeEnd 9 = .ok (.iconst 1, 1) := by decide +kernel
theorem dX6_takeEnd_10 : decode cX6_takeEnd 10 = .ok (.invokevirtual 35, 3) := by decide +kernel
theorem dX6_takeEnd_13 : decode cX6_takeEnd 13 = .ok (.ireturn, 1) := by decide +kernel
theorem dX6_takeEnd_14 : decode cX6_takeEnd 14 = .ok (.aload_n 0, 1) := by decide +kernel
theorem dX6_takeEnd_15 : decode cX6_takeEnd 15 = .ok (.invokevirtual 22, 3) := by decide +kernel
theorem dX6_takeEnd_18 : decode cX6_takeEnd 18 = .ok (.iconst 1, 1) := by decide +kernel
theorem dX6_takeEnd_19 : decode cX6_takeEnd 19 = .ok (.ireturn, 1) := by decide +kernel
theorem dX6_refuse_0 : decode cX6_refuse 0 = .ok (.aload_n 0, 1) := by decide +kernel
theorem dX6_refuse_1 : decode cX6_refuse 1 = .ok (.iload_n 1, 1) := by decide +kernel
theorem dX6_refuse_2 : decode cX6_refuse 2 = .ok (.putfield 93, 3) := by decide +kernel
theorem dX6_refuse_5 : decode cX6_refuse 5 = .ok (.iconst 0, 1) := by decide +kernel
theorem dX6_refuse_6 : decode cX6_refuse 6 = .ok (.ireturn, 1) := by decide +kernel
theorem dX6_isName_0 : decode cX6_isName 0 = .ok (.aload_n 0, 1) := by decide +kernel
theorem dX6_isName_1 : decode cX6_isName 1 = .ok (.getfield 47, 3) := by decide +kernel
theorem dX6_isName_4 : decode cX6_isName 4 = .ok (.iconst 1, 1) := by decide +kernel
theorem dX6_isName_5 : decode cX6_isName 5 = .ok (.if_icmp .ne 19, 3) := by decide +kernel
theorem dX6_isName_8 : decode cX6_isName 8 = .ok (.aload_n 0, 1) := by decide +kernel
theorem dX6_isName_9 : decode cX6_isName 9 = .ok (.getfield 19, 3) := by decide +kernel
theorem dX6_isName_12 : decode cX6_isName 12 = .ok (.aload_n 0, 1) := by decide +kernel
theorem dX6_isName_13 : decode cX6_isName 13 = .ok (.getfield 96, 3) := by decide +kernel
theorem dX6_isName_16 : decode cX6_isName 16 = .ok (.isub, 1) := by decide +kernel
theorem dX6_isName_17 : decode cX6_isName 17 = .ok (.aload_n 1, 1) := by decide +kernel
theorem dX6_isName_18 : decode cX6_isName 18 = .ok (.invokevirtual 99, 3) := by decide +kernel
theorem dX6_isName_21 : decode cX6_isName 21 = .ok (.if_icmp .eq 5, 3) := by decide +kernel
theorem dX6_isName_24 : decode cX6_isName 24 = .ok (.iconst 0, 1) := by decide +kernel
theorem dX6_isName_25 : decode cX6_isName 25 = .ok (.ireturn, 1) := by decide +kernel
theorem dX6_isName_26 : decode cX6_isName 26 = .ok (.iconst 0, 1) := by decide +kernel
theorem dX6_isName_27 : decode cX6_isName 27 = .ok (.istore_n 2, 1) := by decide +kernel
theorem dX6_isName_28 : decode cX6_isName 28 = .ok (.iload_n 2, 1) := by decide +kernel
theorem dX6_isName_29 : decode cX6_isName 29 = .ok (.aload_n 1, 1) := by decide +kernel
theorem dX6_isName_30 : decode cX6_isName 30 = .ok (.invokevirtual 99, 3) := by decide +kernel
theorem dX6_isName_33 : decode cX6_isName 33 = .ok (.if_icmp .ge 29, 3) := by decide +kernel
theorem dX6_isName_36 : decode cX6_isName 36 = .ok (.aload_n 0, 1) := by decide +kernel
theorem dX6_isName_37 : decode cX6_isName 37 = .ok (.aload_n 0, 1) := by decide +kernel
theorem dX6_isName_38 : decode cX6_isName 38 = .ok (.getfield 96, 3) := by decide +kernel
theorem dX6_isName_41 : decode cX6_isName 41 = .ok (.iload_n 2, 1) := by decide +kernel
theorem dX6_isName_42 : decode cX6_isName 42 = .ok (.iadd, 1) := by decide +kernel
theorem dX6_isName_43 : decode cX6_isName 43 = .ok (.invokevirtual 103, 3) := by decide +kernel
theorem dX6_isName_46 : decode cX6_isName 46 = .ok (.aload_n 1, 1) := by decide +kernel
theorem dX6_isName_47 : decode cX6_isName 47 = .ok (.iload_n 2, 1) := by decide +kernel
theorem dX6_isName_48 : decode cX6_isName 48 = .ok (.invokevirtual 107, 3) := by decide +kernel
theorem dX6_isName_51 : decode cX6_isName 51 = .ok (.if_icmp .eq 5, 3) := by decide +kernel
theorem dX6_isName_54 : decode cX6_isName 54 = .ok (.iconst 0, 1) := by decide +kernel
theorem dX6_isName_55 : decode cX6_isName 55 = .ok (.ireturn, 1) := by decide +kernel
theorem dX6_isName_56 : decode cX6_isName 56 = .ok (.iinc 2 1, 3) := by decide +kernel
theorem dX6_isName_59 : decode cX6_isName 59 = .ok (.goto (-31), 3) := by decide +kernel
theorem dX6_isName_62 : decode cX6_isName 62 = .ok (.iconst 1, 1) := by decide +kernel
theorem dX6_isName_63 : decode cX6_isName 63 = .ok (.ireturn, 1) := by decide +kernel
theorem dX6_step_0 : decode cX6_step 0 = .ok (.aload_n 0, 1) := by decide +kernel
theorem dX6_step_1 : decode cX6_step 1 = .ok (.getfield 19, 3) := by decide +kernel
theorem dX6_step_4 : decode cX6_step 4 = .ok (.aload_n 0, 1) := by decide +kernel
theorem dX6_step_5 : decode cX6_step 5 = .ok (.getfield 15, 3) := by decide +kernel
theorem dX6_step_8 : decode cX6_step 8 = .ok (.if_icmp .ge 42, 3) := by decide +kernel
theorem dX6_step_11 : decode cX6_step 11 = .ok (.aload_n 0, 1) := by decide +kernel
theorem dX6_step_12 : decode cX6_step 12 = .ok (.aload_n 0, 1) := by decide +kernel
theorem dX6_step_13 : decode cX6_step 13 = .ok (.getfield 19, 3) := by decide +kernel
theorem dX6_step_16 : decode cX6_step 16 = .ok (.invokevirtual 103, 3) := by decide +kernel
theorem dX6_step_19 : decode cX6_step 19 = .ok (.bipush 32, 2) := by decide +kernel
theorem dX6_step_21 : decode cX6_step 21 = .ok (.if_icmp .eq 16, 3) := by decide +kernel
theorem dX6_step_24 : decode cX6_step 24 = .ok (.aload_n 0, 1) := by decide +kernel
theorem dX6_step_25 : decode cX6_step 25 = .ok (.aload_n 0, 1) := by decide +kernel
theorem dX6_step_26 : decode cX6_step 26 = .ok (.getfield 19, 3) := by decide +kernel
theorem dX6_step_29 : decode cX6_step 29 = .ok (.invokevirtual 103, 3) := by decide +kernel
theorem dX6_step_32 : decode cX6_step 32 = .ok (.bipush 10, 2) := by decide +kernel
theorem dX6_step_34 : decode cX6_step 34 = .ok (.if_icmp .ne 16, 3) := by decide +kernel
theorem dX6_step_37 : decode cX6_step 37 = .ok (.aload_n 0, 1) := by decide +kernel
theorem dX6_step_38 : decode cX6_step 38 = .ok (.dup, 1) := by decide +kernel
theorem dX6_step_39 : decode cX6_step 39 = .ok (.getfield 19, 3) := by decide +kernel
theorem dX6_step_42 : decode cX6_step 42 = .ok (.iconst 1, 1) := by decide +kernel
theorem dX6_step_43 : decode cX6_step 43 = .ok (.iadd, 1) := by decide +kernel
theorem dX6_step_44 : decode cX6_step 44 = .ok (.putfield 19, 3) := by decide +kernel
theorem dX6_step_47 : decode cX6_step 47 = .ok (.goto (-47), 3) := by decide +kernel
theorem dX6_step_50 : decode cX6_step 50 = .ok (.aload_n 0, 1) := by decide +kernel
theorem dX6_step_51 : decode cX6_step 51 = .ok (.aload_n 0, 1) := by decide +kernel
theorem dX6_step_52 : decode cX6_step 52 = .ok (.getfield 19, 3) := by decide +kernel
theorem dX6_step_55 : decode cX6_step 55 = .ok (.putfield 96, 3) := by decide +kernel
theorem dX6_step_58 : decode cX6_step 58 = .ok (.aload_n 0, 1) := by decide +kernel
theorem dX6_step_59 : decode cX6_step 59 = .ok (.getfield 19, 3) := by decide +kernel
theorem dX6_step_62 : decode cX6_step 62 = .ok (.aload_n 0, 1) := by decide +kernel
theorem dX6_step_63 : decode cX6_step 63 = .ok (.getfield 15, 3) := by decide +kernel
theorem dX6_step_66 : decode cX6_step 66 = .ok (.if_icmp .lt 11, 3) := by decide +kernel
theorem dX6_step_69 : decode cX6_step 69 = .ok (.aload_n 0, 1) := by decide +kernel
theorem dX6_step_70 : decode cX6_step 70 = .ok (.iconst 0, 1) := by decide +kernel
theorem dX6_step_71 : decode cX6_step 71 = .ok (.putfield 47, 3) := by decide +kernel
theorem dX6_step_74 : decode cX6_step 74 = .ok (.goto 77, 3) := by decide +kernel
theorem dX6_step_77 : decode cX6_step 77 = .ok (.aload_n 0, 1) := by decide +kernel
theorem dX6_step_78 : decode cX6_step 78 = .ok (.aload_n 0, 1) := by decide +kernel
theorem dX6_step_79 : decode cX6_step 79 = .ok (.getfield 19, 3) := by decide +kernel
theorem dX6_step_82 : decode cX6_step 82 = .ok (.invokevirtual 103, 3) := by decide +kernel
theorem dX6_step_85 : decode cX6_step 85 = .ok (.invokestatic 111, 3) := by decide +kernel
theorem dX6_step_88 : decode cX6_step 88 = .ok (.ifCond .eq 10, 3) := by decide +kernel
theorem dX6_step_91 : decode cX6_step 91 = .ok (.aload_n 0, 1) := by decide +kernel
theorem dX6_step_92 : decode cX6_step 92 = .ok (.invokevirtual 114, 3) := by decide +kernel
theorem dX6_step_95 : decode cX6_step 95 = .ok (.goto 56, 3) := by decide +kernel
theorem dX6_step_98 : decode cX6_step 98 = .ok (.aload_n 0, 1) := by decide +kernel
theorem dX6_step_99 : decode cX6_step 99 = .ok (.aload_n 0, 1) := by decide +kernel
theorem dX6_step_100 : decode cX6_step 100 = .ok (.getfield 19, 3) := by decide +kernel
theorem dX6_step_103 : decode cX6_step 103 = .ok (.invokevirtual 103, 3) := by decide +kernel
theorem dX6_step_106 : decode cX6_step 106 = .ok (.invokestatic 117, 3) := by decide +kernel
theorem dX6_step_109 : decode cX6_step 109 = .ok (.ifCond .eq 10, 3) := by decide +kernel
theorem dX6_step_112 : decode cX6_step 112 = .ok (.aload_n 0, 1) := by decide +kernel
theorem dX6_step_113 : decode cX6_step 113 = .ok (.invokevirtual 120, 3) := by decide +kernel
theorem dX6_step_116 : decode cX6_step 116 = .ok (.goto 35, 3) := by decide +kernel
theorem dX6_step_119 : decode cX6_step 119 = .ok (.aload_n 0, 1) := by decide +kernel
theorem dX6_step_120 : decode cX6_step 120 = .ok (.aload_n 0, 1) := by decide +kernel
theorem dX6_step_121 : decode cX6_step 121 = .ok (.aload_n 0, 1) := by decide +kernel
theorem dX6_step_122 : decode cX6_step 122 = .ok (.getfield 19, 3) := by decide +kernel
theorem dX6_step_125 : decode cX6_step 125 = .ok (.invokevirtual 103, 3) := by decide +kernel
theorem dX6_step_128 : decode cX6_step 128 = .ok (.bipush 59, 2) := by decide +kernel
theorem dX6_step_130 : decode cX6_step 130 = .ok (.if_icmp .ne 7, 3) := by decide +kernel
theorem dX6_step_133 : decode cX6_step 133 = .ok (.iconst 3, 1) := by decide +kernel
theorem dX6_step_134 : decode cX6_step 134 = .ok (.goto 4, 3) := by decide +kernel
theorem dX6_step_137 : decode cX6_step 137 = .ok (.iconst 4, 1) := by decide +kernel
theorem dX6_step_138 : decode cX6_step 138 = .ok (.putfield 47, 3) := by decide +kernel
theorem dX6_step_141 : decode cX6_step 141 = .ok (.aload_n 0, 1) := by decide +kernel
theorem dX6_step_142 : decode cX6_step 142 = .ok (.dup, 1) := by decide +kernel
theorem dX6_step_143 : decode cX6_step 143 = .ok (.getfield 19, 3) := by decide +kernel
theorem dX6_step_146 : decode cX6_step 146 = .ok (.iconst 1, 1) := by decide +kernel
theorem dX6_step_147 : decode cX6_step 147 = .ok (.iadd, 1) := by decide +kernel
theorem dX6_step_148 : decode cX6_step 148 = .ok (.putfield 19, 3) := by decide +kernel
theorem dX6_step_151 : decode cX6_step 151 = .ok (.return_, 1) := by decide +kernel
theorem dX6_stepName_0 : decode cX6_stepName 0 = .ok (.aload_n 0, 1) := by decide +kernel
theorem dX6_stepName_1 : decode cX6_stepName 1 = .ok (.iconst 1, 1) := by decide +kernel
theorem dX6_stepName_2 : decode cX6_stepName 2 = .ok (.putfield 47, 3) := by decide +kernel
theorem dX6_stepName_5 : decode cX6_stepName 5 = .ok (.aload_n 0, 1) := by decide +kernel
theorem dX6_stepName_6 : decode cX6_stepName 6 = .ok (.getfield 19, 3) := by decide +kernel
theorem dX6_stepName_9 : decode cX6_stepName 9 = .ok (.aload_n 0, 1) := by decide +kernel
theorem dX6_stepName_10 : decode cX6_stepName 10 = .ok (.getfield 15, 3) := by decide +kernel
theorem dX6_stepName_13 : decode cX6_stepName 13 = .ok (.if_icmp .ge 30, 3) := by decide +kernel
theorem dX6_stepName_16 : decode cX6_stepName 16 = .ok (.aload_n 0, 1) := by decide +kernel
theorem dX6_stepName_17 : decode cX6_stepName 17 = .ok (.aload_n 0, 1) := by decide +kernel
theorem dX6_stepName_18 : decode cX6_stepName 18 = .ok (.getfield 19, 3) := by decide +kernel
theorem dX6_stepName_21 : decode cX6_stepName 21 = .ok (.invokevirtual 103, 3) := by decide +kernel
theorem dX6_stepName_24 : decode cX6_stepName 24 = .ok (.invokestatic 111, 3) := by decide +kernel
theorem dX6_stepName_27 : decode cX6_stepName 27 = .ok (.ifCond .eq 16, 3) := by decide +kernel
theorem dX6_stepName_30 : decode cX6_stepName 30 = .ok (.aload_n 0, 1) := by decide +kernel
theorem dX6_stepName_31 : decode cX6_stepName 31 = .ok (.dup, 1) := by decide +kernel
theorem dX6_stepName_32 : decode cX6_stepName 32 = .ok (.getfield 19, 3) := by decide +kernel
theorem dX6_stepName_35 : decode cX6_stepName 35 = .ok (.iconst 1, 1) := by decide +kernel
theorem dX6_stepName_36 : decode cX6_stepName 36 = .ok (.iadd, 1) := by decide +kernel
theorem dX6_stepName_37 : decode cX6_stepName 37 = .ok (.putfield 19, 3) := by decide +kernel
theorem dX6_stepName_40 : decode cX6_stepName 40 = .ok (.goto (-35), 3) := by decide +kernel
theorem dX6_stepName_43 : decode cX6_stepName 43 = .ok (.return_, 1) := by decide +kernel
theorem dX6_stepNumber_0 : decode cX6_stepNumber 0 = .ok (.aload_n 0, 1) := by decide +kernel
theorem dX6_stepNumber_1 : decode cX6_stepNumber 1 = .ok (.iconst 0, 1) := by decide +kernel
theorem dX6_stepNumber_2 : decode cX6_stepNumber 2 = .ok (.putfield 56, 3) := by decide +kernel
theorem dX6_stepNumber_5 : decode cX6_stepNumber 5 = .ok (.aload_n 0, 1) := by decide +kernel
theorem dX6_stepNumber_6 : decode cX6_stepNumber 6 = .ok (.getfield 19, 3) := by decide +kernel
theorem dX6_stepNumber_9 : decode cX6_stepNumber 9 = .ok (.aload_n 0, 1) := by decide +kernel
theorem dX6_stepNumber_10 : decode cX6_stepNumber 10 = .ok (.getfield 15, 3) := by decide +kernel
theorem dX6_stepNumber_13 : decode cX6_stepNumber 13 = .ok (.if_icmp .ge 53, 3) := by decide +kernel
theorem dX6_stepNumber_16 : decode cX6_stepNumber 16 = .ok (.aload_n 0, 1) := by decide +kernel
theorem dX6_stepNumber_17 : decode cX6_stepNumber 17 = .ok (.aload_n 0, 1) := by decide +kernel
theorem dX6_stepNumber_18 : decode cX6_stepNumber 18 = .ok (.getfield 19, 3) := by decide +kernel
theorem dX6_stepNumber_21 : decode cX6_stepNumber 21 = .ok (.invokevirtual 103, 3) := by decide +kernel
theorem dX6_stepNumber_24 : decode cX6_stepNumber 24 = .ok (.invokestatic 117, 3) := by decide +kernel
theorem dX6_stepNumber_27 : decode cX6_stepNumber 27 = .ok (.ifCond .eq 39, 3) := by decide +kernel
theorem dX6_stepNumber_30 : decode cX6_stepNumber 30 = .ok (.aload_n 0, 1) := by decide +kernel
theorem dX6_stepNumber_31 : decode cX6_stepNumber 31 = .ok (.aload_n 0, 1) := by decide +kernel
theorem dX6_stepNumber_32 : decode cX6_stepNumber 32 = .ok (.getfield 56, 3) := by decide +kernel
theorem dX6_stepNumber_35 : decode cX6_stepNumber 35 = .ok (.bipush 10, 2) := by decide +kernel
theorem dX6_stepNumber_37 : decode cX6_stepNumber 37 = .ok (.imul, 1) := by decide +kernel
theorem dX6_stepNumber_38 : decode cX6_stepNumber 38 = .ok (.aload_n 0, 1) := by decide +kernel
theorem dX6_stepNumber_39 : decode cX6_stepNumber 39 = .ok (.aload_n 0, 1) := by decide +kernel
theorem dX6_stepNumber_40 : decode cX6_stepNumber 40 = .ok (.getfield 19, 3) := by decide +kernel
theorem dX6_stepNumber_43 : decode cX6_stepNumber 43 = .ok (.invokevirtual 103, 3) := by decide +kernel
theorem dX6_stepNumber_46 : decode cX6_stepNumber 46 = .ok (.iadd, 1) := by decide +kernel
theorem dX6_stepNumber_47 : decode cX6_stepNumber 47 = .ok (.bipush 48, 2) := by decide +kernel
theorem dX6_stepNumber_49 : decode cX6_stepNumber 49 = .ok (.isub, 1) := by decide +kernel
theorem dX6_stepNumber_50 : decode cX6_stepNumber 50 = .ok (.putfield 56, 3) := by decide +kernel
theorem dX6_stepNumber_53 : decode cX6_stepNumber 53 = .ok (.aload_n 0, 1) := by decide +kernel
theorem dX6_stepNumber_54 : decode cX6_stepNumber 54 = .ok (.dup, 1) := by decide +kernel
theorem dX6_stepNumber_55 : decode cX6_stepNumber 55 = .ok (.getfield 19, 3) := by decide +kernel
theorem dX6_stepNumber_58 : decode cX6_stepNumber 58 = .ok (.iconst 1, 1) := by decide +kernel
theorem dX6_stepNumber_59 : decode cX6_stepNumber 59 = .ok (.iadd, 1) := by decide +kernel
theorem dX6_stepNumber_60 : decode cX6_stepNumber 60 = .ok (.putfield 19, 3) := by decide +kernel
theorem dX6_stepNumber_63 : decode cX6_stepNumber 63 = .ok (.goto (-58), 3) := by decide +kernel
theorem dX6_stepNumber_66 : decode cX6_stepNumber 66 = .ok (.aload_n 0, 1) := by decide +kernel
theorem dX6_stepNumber_67 : decode cX6_stepNumber 67 = .ok (.aload_n 0, 1) := by decide +kernel
theorem dX6_stepNumber_68 : decode cX6_stepNumber 68 = .ok (.getfield 19, 3) := by decide +kernel
theorem dX6_stepNumber_71 : decode cX6_stepNumber 71 = .ok (.aload_n 0, 1) := by decide +kernel
theorem dX6_stepNumber_72 : decode cX6_stepNumber 72 = .ok (.getfield 96, 3) := by decide +kernel
theorem dX6_stepNumber_75 : decode cX6_stepNumber 75 = .ok (.isub, 1) := by decide +kernel
theorem dX6_stepNumber_76 : decode cX6_stepNumber 76 = .ok (.iconst 3, 1) := by decide +kernel
theorem dX6_stepNumber_77 : decode cX6_stepNumber 77 = .ok (.if_icmp .gt 7, 3) := by decide +kernel
theorem dX6_stepNumber_80 : decode cX6_stepNumber 80 = .ok (.iconst 2, 1) := by decide +kernel
theorem dX6_stepNumber_81 : decode cX6_stepNumber 81 = .ok (.goto 4, 3) := by decide +kernel
theorem dX6_stepNumber_84 : decode cX6_stepNumber 84 = .ok (.iconst 4, 1) := by decide +kernel
theorem dX6_stepNumber_85 : decode cX6_stepNumber 85 = .ok (.putfield 47, 3) := by decide +kernel
theorem dX6_stepNumber_88 : decode cX6_stepNumber 88 = .ok (.return_, 1) := by decide +kernel
theorem dX6_byteAt_0 : decode cX6_byteAt 0 = .ok (.iload_n 1, 1) := by decide +kernel
theorem dX6_byteAt_1 : decode cX6_byteAt 1 = .ok (.ifCond .lt 29, 3) := by decide +kernel
theorem dX6_byteAt_4 : decode cX6_byteAt 4 = .ok (.iload_n 1, 1) := by decide +kernel
theorem dX6_byteAt_5 : decode cX6_byteAt 5 = .ok (.aload_n 0, 1) := by decide +kernel
theorem dX6_byteAt_6 : decode cX6_byteAt 6 = .ok (.getfield 15, 3) := by decide +kernel
theorem dX6_byteAt_9 : decode cX6_byteAt 9 = .ok (.if_icmp .ge 21, 3) := by decide +kernel
theorem dX6_byteAt_12 : decode cX6_byteAt 12 = .ok (.iload_n 1, 1) := by decide +kernel
theorem dX6_byteAt_13 : decode cX6_byteAt 13 = .ok (.aload_n 0, 1) := by decide +kernel
theorem dX6_byteAt_14 : decode cX6_byteAt 14 = .ok (.getfield 11, 3) := by decide +kernel
theorem dX6_byteAt_17 : decode cX6_byteAt 17 = .ok (.arraylength, 1) := by decide +kernel
theorem dX6_byteAt_18 : decode cX6_byteAt 18 = .ok (.if_icmp .ge 12, 3) := by decide +kernel
theorem dX6_byteAt_21 : decode cX6_byteAt 21 = .ok (.aload_n 0, 1) := by decide +kernel
theorem dX6_byteAt_22 : decode cX6_byteAt 22 = .ok (.getfield 11, 3) := by decide +kernel
theorem dX6_byteAt_25 : decode cX6_byteAt 25 = .ok (.iload_n 1, 1) := by decide +kernel
theorem dX6_byteAt_26 : decode cX6_byteAt 26 = .ok (.iaload, 1) := by decide +kernel
theorem dX6_byteAt_27 : decode cX6_byteAt 27 = .ok (.goto 4, 3) := by decide +kernel
theorem dX6_byteAt_30 : decode cX6_byteAt 30 = .ok (.iconst 0, 1) := by decide +kernel
theorem dX6_byteAt_31 : decode cX6_byteAt 31 = .ok (.ireturn, 1) := by decide +kernel
theorem dX6_isLetter_0 : decode cX6_isLetter 0 = .ok (.iload_n 0, 1) := by decide +kernel
theorem dX6_isLetter_1 : decode cX6_isLetter 1 = .ok (.bipush 97, 2) := by decide +kernel
theorem dX6_isLetter_3 : decode cX6_isLetter 3 = .ok (.if_icmp .lt 13, 3) := by decide +kernel
theorem dX6_isLetter_6 : decode cX6_isLetter 6 = .ok (.iload_n 0, 1) := by decide +kernel
theorem dX6_isLetter_7 : decode cX6_isLetter 7 = .ok (.bipush 122, 2) := by decide +kernel
theorem dX6_isLetter_9 : decode cX6_isLetter 9 = .ok (.if_icmp .gt 7, 3) := by decide +kernel
theorem dX6_isLetter_12 : decode cX6_isLetter 12 = .ok (.iconst 1, 1) := by decide +kernel
theorem dX6_isLetter_13 : decode cX6_isLetter 13 = .ok (.goto 4, 3) := by decide +kernel
theorem dX6_isLetter_16 : decode cX6_isLetter 16 = .ok (.iconst 0, 1) := by decide +kernel
theorem dX6_isLetter_17 : decode cX6_isLetter 17 = .ok (.ireturn, 1) := by decide +kernel
theorem dX6_isFigure_0 : decode cX6_isFigure 0 = .ok (.iload_n 0, 1) := by decide +kernel
theorem dX6_isFigure_1 : decode cX6_isFigure 1 = .ok (.bipush 48, 2) := by decide +kernel
theorem dX6_isFigure_3 : decode cX6_isFigure 3 = .ok (.if_icmp .lt 13, 3) := by decide +kernel
theorem dX6_isFigure_6 : decode cX6_isFigure 6 = .ok (.iload_n 0, 1) := by decide +kernel
theorem dX6_isFigure_7 : decode cX6_isFigure 7 = .ok (.bipush 57, 2) := by decide +kernel
theorem dX6_isFigure_9 : decode cX6_isFigure 9 = .ok (.if_icmp .gt 7, 3) := by decide +kernel
theorem dX6_isFigure_12 : decode cX6_isFigure 12 = .ok (.iconst 1, 1) := by decide +kernel
theorem dX6_isFigure_13 : decode cX6_isFigure 13 = .ok (.goto 4, 3) := by decide +kernel
theorem dX6_isFigure_16 : decode cX6_isFigure 16 = .ok (.iconst 0, 1) := by decide +kernel
theorem dX6_isFigure_17 : decode cX6_isFigure 17 = .ok (.ireturn, 1) := by decide +kernel
theorem dJ6_bitCount_0f7a4_0 : decode cJ6_bitCount_0f7a4 0 = .ok (.iload_n 0, 1) := by decide +kernel
theorem dJ6_bitCount_0f7a4_1 : decode cJ6_bitCount_0f7a4 1 = .ok (.iload_n 0, 1) := by decide +kernel
theorem dJ6_bitCount_0f7a4_2 : decode cJ6_bitCount_0f7a4 2 = .ok (.iconst 1, 1) := by decide +kernel
theorem dJ6_bitCount_0f7a4_3 : decode cJ6_bitCount_0f7a4 3 = .ok (.iushr, 1) := by decide +kernel
theorem dJ6_bitCount_0f7a4_4 : decode cJ6_bitCount_0f7a4 4 = .ok (.ldc_w 265, 3) := by decide +kernel
theorem dJ6_bitCount_0f7a4_7 : decode cJ6_bitCount_0f7a4 7 = .ok (.iand, 1) := by decide +kernel
theorem dJ6_bitCount_0f7a4_8 : decode cJ6_bitCount_0f7a4 8 = .ok (.isub, 1) := by decide +kernel
theorem dJ6_bitCount_0f7a4_9 : decode cJ6_bitCount_0f7a4 9 = .ok (.istore_n 0, 1) := by decide +kernel
theorem dJ6_bitCount_0f7a4_10 : decode cJ6_bitCount_0f7a4 10 = .ok (.iload_n 0, 1) := by decide +kernel
theorem dJ6_bitCount_0f7a4_11 : decode cJ6_bitCount_0f7a4 11 = .ok (.ldc_w 266, 3) := by decide +kernel
theorem dJ6_bitCount_0f7a4_14 : decode cJ6_bitCount_0f7a4 14 = .ok (.iand, 1) := by decide +kernel
theorem dJ6_bitCount_0f7a4_15 : decode cJ6_bitCount_0f7a4 15 = .ok (.iload_n 0, 1) := by decide +kernel
theorem dJ6_bitCount_0f7a4_16 : decode cJ6_bitCount_0f7a4 16 = .ok (.iconst 2, 1) := by decide +kernel
theorem dJ6_bitCount_0f7a4_17 : decode cJ6_bitCount_0f7a4 17 = .ok (.iushr, 1) := by decide +kernel
theorem dJ6_bitCount_0f7a4_18 : decode cJ6_bitCount_0f7a4 18 = .ok (.ldc_w 266, 3) := by decide +kernel
theorem dJ6_bitCount_0f7a4_21 : decode cJ6_bitCount_0f7a4 21 = .ok (.iand, 1) := by decide +kernel
theorem dJ6_bitCount_0f7a4_22 : decode cJ6_bitCount_0f7a4 22 = .ok (.iadd, 1) := by decide +kernel
theorem dJ6_bitCount_0f7a4_23 : decode cJ6_bitCount_0f7a4 23 = .ok (.istore_n 0, 1) := by decide +kernel
theorem dJ6_bitCount_0f7a4_24 : decode cJ6_bitCount_0f7a4 24 = .ok (.iload_n 0, 1) := by decide +kernel
theorem dJ6_bitCount_0f7a4_25 : decode cJ6_bitCount_0f7a4 25 = .ok (.iload_n 0, 1) := by decide +kernel
theorem dJ6_bitCount_0f7a4_26 : decode cJ6_bitCount_0f7a4 26 = .ok (.iconst 4, 1) := by decide +kernel
theorem dJ6_bitCount_0f7a4_27 : decode cJ6_bitCount_0f7a4 27 = .ok (.iushr, 1) := by decide +kernel
theorem dJ6_bitCount_0f7a4_28 : decode cJ6_bitCount_0f7a4 28 = .ok (.iadd, 1) := by decide +kernel
theorem dJ6_bitCount_0f7a4_29 : decode cJ6_bitCount_0f7a4 29 = .ok (.ldc_w 267, 3) := by decide +kernel
theorem dJ6_bitCount_0f7a4_32 : decode cJ6_bitCount_0f7a4 32 = .ok (.iand, 1) := by decide +kernel
theorem dJ6_bitCount_0f7a4_33 : decode cJ6_bitCount_0f7a4 33 = .ok (.istore_n 0, 1) := by decide +kernel
theorem dJ6_bitCount_0f7a4_34 : decode cJ6_bitCount_0f7a4 34 = .ok (.iload_n 0, 1) := by decide +kernel
theorem dJ6_bitCount_0f7a4_35 : decode cJ6_bitCount_0f7a4 35 = .ok (.iload_n 0, 1) := by decide +kernel
theorem dJ6_bitCount_0f7a4_36 : decode cJ6_bitCount_0f7a4 36 = .ok (.bipush 8, 2) := by decide +kernel
theorem dJ6_bitCount_0f7a4_38 : decode cJ6_bitCount_0f7a4 38 = .ok (.iushr, 1) := by decide +kernel
theorem dJ6_bitCount_0f7a4_39 : decode cJ6_bitCount_0f7a4 39 = .ok (.iadd, 1) := by decide +kernel
theorem dJ6_bitCount_0f7a4_40 : decode cJ6_bitCount_0f7a4 40 = .ok (.istore_n 0, 1) := by decide +kernel
theorem dJ6_bitCount_0f7a4_41 : decode cJ6_bitCount_0f7a4 41 = .ok (.iload_n 0, 1) := by decide +kernel
theorem dJ6_bitCount_0f7a4_42 : decode cJ6_bitCount_0f7a4 42 = .ok (.iload_n 0, 1) := by decide +kernel
theorem dJ6_bitCount_0f7a4_43 : decode cJ6_bitCount_0f7a4 43 = .ok (.bipush 16, 2) := by decide +kernel
theorem dJ6_bitCount_0f7a4_45 : decode cJ6_bitCount_0f7a4 45 = .ok (.iushr, 1) := by decide +kernel
theorem dJ6_bitCount_0f7a4_46 : decode cJ6_bitCount_0f7a4 46 = .ok (.iadd, 1) := by decide +kernel
theorem dJ6_bitCount_0f7a4_47 : decode cJ6_bitCount_0f7a4 47 = .ok (.istore_n 0, 1) := by decide +kernel
theorem dJ6_bitCount_0f7a4_48 : decode cJ6_bitCount_0f7a4 48 = .ok (.iload_n 0, 1) := by decide +kernel
theorem dJ6_bitCount_0f7a4_49 : decode cJ6_bitCount_0f7a4 49 = .ok (.bipush 63, 2) := by decide +kernel
theorem dJ6_bitCount_0f7a4_51 : decode cJ6_bitCount_0f7a4 51 = .ok (.iand, 1) := by decide +kernel
theorem dJ6_bitCount_0f7a4_52 : decode cJ6_bitCount_0f7a4 52 = .ok (.ireturn, 1) := by decide +kernel
theorem dJ9_abs_0f7a4_0 : decode cJ9_abs_0f7a4 0 = .ok (.iload_n 0, 1) := by decide +kernel
theorem dJ9_abs_0f7a4_1 : decode cJ9_abs_0f7a4 1 = .ok (.ifCond .ge 8, 3) := by decide +kernel
theorem dJ9_abs_0f7a4_4 : decode cJ9_abs_0f7a4 4 = .ok (.iload_n 0, 1) := by decide +kernel
theorem dJ9_abs_0f7a4_5 : decode cJ9_abs_0f7a4 5 = .ok (.ineg, 1) := by decide +kernel
theorem dJ9_abs_0f7a4_6 : decode cJ9_abs_0f7a4 6 = .ok (.goto 4, 3) := by decide +kernel
theorem dJ9_abs_0f7a4_9 : decode cJ9_abs_0f7a4 9 = .ok (.iload_n 0, 1) := by decide +kernel
theorem dJ9_abs_0f7a4_10 : decode cJ9_abs_0f7a4 10 = .ok (.ireturn, 1) := by decide +kernel
theorem dJ9_max_7cf53_0 : decode cJ9_max_7cf53 0 = .ok (.iload_n 0, 1) := by decide +kernel
theorem dJ9_max_7cf53_1 : decode cJ9_max_7cf53 1 = .ok (.iload_n 1, 1) := by decide +kernel
theorem dJ9_max_7cf53_2 : decode cJ9_max_7cf53 2 = .ok (.if_icmp .lt 7, 3) := by decide +kernel
theorem dJ9_max_7cf53_5 : decode cJ9_max_7cf53 5 = .ok (.iload_n 0, 1) := by decide +kernel
theorem dJ9_max_7cf53_6 : decode cJ9_max_7cf53 6 = .ok (.goto 4, 3) := by decide +kernel
theorem dJ9_max_7cf53_9 : decode cJ9_max_7cf53 9 = .ok (.iload_n 1, 1) := by decide +kernel
theorem dJ9_max_7cf53_10 : decode cJ9_max_7cf53 10 = .ok (.ireturn, 1) := by decide +kernel
theorem dJ9_min_7cf53_0 : decode cJ9_min_7cf53 0 = .ok (.iload_n 0, 1) := by decide +kernel
theorem dJ9_min_7cf53_1 : decode cJ9_min_7cf53 1 = .ok (.iload_n 1, 1) := by decide +kernel
theorem dJ9_min_7cf53_2 : decode cJ9_min_7cf53 2 = .ok (.if_icmp .gt 7, 3) := by decide +kernel
theorem dJ9_min_7cf53_5 : decode cJ9_min_7cf53 5 = .ok (.iload_n 0, 1) := by decide +kernel
theorem dJ9_min_7cf53_6 : decode cJ9_min_7cf53 6 = .ok (.goto 4, 3) := by decide +kernel
theorem dJ9_min_7cf53_9 : decode cJ9_min_7cf53 9 = .ok (.iload_n 1, 1) := by decide +kernel
theorem dJ9_min_7cf53_10 : decode cJ9_min_7cf53 10 = .ok (.ireturn, 1) := by decide +kernel
theorem dJ0_length_8abf5_0 : decode cJ0_length_8abf5 0 = .ok (.aload_n 0, 1) := by decide +kernel
theorem dJ0_length_8abf5_1 : decode cJ0_length_8abf5 1 = .ok (.getfield 9, 3) := by decide +kernel
theorem dJ0_length_8abf5_4 : decode cJ0_length_8abf5 4 = .ok (.arraylength, 1) := by decide +kernel
theorem dJ0_length_8abf5_5 : decode cJ0_length_8abf5 5 = .ok (.aload_n 0, 1) := by decide +kernel
theorem dJ0_length_8abf5_6 : decode cJ0_length_8abf5 6 = .ok (.invokevirtual 335, 3) := by decide +kernel
theorem dJ0_length_8abf5_9 : decode cJ0_length_8abf5 9 = .ok (.ishr, 1) := by decide +kernel
theorem dJ0_length_8abf5_10 : decode cJ0_length_8abf5 10 = .ok (.ireturn, 1) := by decide +kernel
theorem dJ0_charAt_5068e_0 : decode cJ0_charAt_5068e 0 = .ok (.aload_n 0, 1) := by decide +kernel
theorem dJ0_charAt_5068e_1 : decode cJ0_charAt_5068e 1 = .ok (.invokevirtual 492, 3) := by decide +kernel
theorem dJ0_charAt_5068e_4 : decode cJ0_charAt_5068e 4 = .ok (.ifCond .eq 12, 3) := by decide +kernel
theorem dJ0_charAt_5068e_7 : decode cJ0_charAt_5068e 7 = .ok (.aload_n 0, 1) := by decide +kernel
theorem dJ0_charAt_5068e_8 : decode cJ0_charAt_5068e 8 = .ok (.getfield 9, 3) := by decide +kernel
theorem dJ0_charAt_5068e_11 : decode cJ0_charAt_5068e 11 = .ok (.iload_n 1, 1) := by decide +kernel
theorem dJ0_charAt_5068e_12 : decode cJ0_charAt_5068e 12 = .ok (.invokestatic 495, 3) := by decide +kernel
theorem dJ0_charAt_5068e_15 : decode cJ0_charAt_5068e 15 = .ok (.ireturn, 1) := by decide +kernel
theorem dJ0_charAt_5068e_16 : decode cJ0_charAt_5068e 16 = .ok (.aload_n 0, 1) := by decide +kernel
theorem dJ0_charAt_5068e_17 : decode cJ0_charAt_5068e 17 = .ok (.getfield 9, 3) := by decide +kernel
theorem dJ0_charAt_5068e_20 : decode cJ0_charAt_5068e 20 = .ok (.iload_n 1, 1) := by decide +kernel
theorem dJ0_charAt_5068e_21 : decode cJ0_charAt_5068e 21 = .ok (.invokestatic 498, 3) := by decide +kernel
theorem dJ0_charAt_5068e_24 : decode cJ0_charAt_5068e 24 = .ok (.ireturn, 1) := by decide +kernel
theorem dJ0_coder_7d493_0 : decode cJ0_coder_7d493 0 = .ok (.getstatic 38, 3) := by decide +kernel
theorem dJ0_coder_7d493_3 : decode cJ0_coder_7d493 3 = .ok (.ifCond .eq 10, 3) := by decide +kernel
theorem dJ0_coder_7d493_6 : decode cJ0_coder_7d493 6 = .ok (.aload_n 0, 1) := by decide +kernel
theorem dJ0_coder_7d493_7 : decode cJ0_coder_7d493 7 = .ok (.getfield 15, 3) := by decide +kernel
theorem dJ0_coder_7d493_10 : decode cJ0_coder_7d493 10 = .ok (.goto 4, 3) := by decide +kernel
theorem dJ0_coder_7d493_13 : decode cJ0_coder_7d493 13 = .ok (.iconst 1, 1) := by decide +kernel
theorem dJ0_coder_7d493_14 : decode cJ0_coder_7d493 14 = .ok (.ireturn, 1) := by decide +kernel
theorem dJ0_isLatin1_aae02_0 : decode cJ0_isLatin1_aae02 0 = .ok (.getstatic 38, 3) := by decide +kernel
theorem dJ0_isLatin1_aae02_3 : decode cJ0_isLatin1_aae02 3 = .ok (.ifCond .eq 14, 3) := by decide +kernel
theorem dJ0_isLatin1_aae02_6 : decode cJ0_isLatin1_aae02 6 = .ok (.aload_n 0, 1) := by decide +kernel
theorem dJ0_isLatin1_aae02_7 : decode cJ0_isLatin1_aae02 7 = .ok (.getfield 15, 3) := by decide +kernel
theorem dJ0_isLatin1_aae02_10 : decode cJ0_isLatin1_aae02 10 = .ok (.ifCond .ne 7, 3) := by decide +kernel
theorem dJ0_isLatin1_aae02_13 : decode cJ0_isLatin1_aae02 13 = .ok (.iconst 1, 1) := by decide +kernel
theorem dJ0_isLatin1_aae02_14 : decode cJ0_isLatin1_aae02 14 = .ok (.goto 4, 3) := by decide +kernel
theorem dJ0_isLatin1_aae02_17 : decode cJ0_isLatin1_aae02 17 = .ok (.iconst 0, 1) := by decide +kernel
theorem dJ0_isLatin1_aae02_18 : decode cJ0_isLatin1_aae02 18 = .ok (.ireturn, 1) := by decide +kernel
theorem dJ0_checkIndex_df160_0 : decode cJ0_checkIndex_df160 0 = .ok (.iload_n 0, 1) := by decide +kernel
theorem dJ0_checkIndex_df160_1 : decode cJ0_checkIndex_df160 1 = .ok (.iload_n 1, 1) := by decide +kernel
theorem dJ0_checkIndex_df160_2 : decode cJ0_checkIndex_df160 2 = .ok (.getstatic 1053, 3) := by decide +kernel
theorem dJ0_checkIndex_df160_5 : decode cJ0_checkIndex_df160 5 = .ok (.invokestatic 1059, 3) := by decide +kernel
theorem dJ0_checkIndex_df160_8 : decode cJ0_checkIndex_df160 8 = .ok (.pop, 1) := by decide +kernel
theorem dJ0_checkIndex_df160_9 : decode cJ0_checkIndex_df160 9 = .ok (.return_, 1) := by decide +kernel
theorem dJ1_charAt_3b067_0 : decode cJ1_charAt_3b067 0 = .ok (.iload_n 1, 1) := by decide +kernel
theorem dJ1_charAt_3b067_1 : decode cJ1_charAt_3b067 1 = .ok (.aload_n 0, 1) := by decide +kernel
theorem dJ1_charAt_3b067_2 : decode cJ1_charAt_3b067 2 = .ok (.arraylength, 1) := by decide +kernel
theorem dJ1_charAt_3b067_3 : decode cJ1_charAt_3b067 3 = .ok (.invokestatic 9, 3) := by decide +kernel
theorem dJ1_charAt_3b067_6 : decode cJ1_charAt_3b067 6 = .ok (.aload_n 0, 1) := by decide +kernel
theorem dJ1_charAt_3b067_7 : decode cJ1_charAt_3b067 7 = .ok (.iload_n 1, 1) := by decide +kernel
theorem dJ1_charAt_3b067_8 : decode cJ1_charAt_3b067 8 = .ok (.baload, 1) := by decide +kernel
theorem dJ1_charAt_3b067_9 : decode cJ1_charAt_3b067 9 = .ok (.sipush 255, 3) := by decide +kernel
theorem dJ1_charAt_3b067_12 : decode cJ1_charAt_3b067 12 = .ok (.iand, 1) := by decide +kernel
theorem dJ1_charAt_3b067_13 : decode cJ1_charAt_3b067 13 = .ok (.i2c, 1) := by decide +kernel
theorem dJ1_charAt_3b067_14 : decode cJ1_charAt_3b067 14 = .ok (.ireturn, 1) := by decide +kernel
theorem dJ2_getChar_3b067_0 : decode cJ2_getChar_3b067 0 = .ok (.getstatic 44, 3) := by decide +kernel
theorem dJ2_getChar_3b067_3 : decode cJ2_getChar_3b067 3 = .ok (.ifCond .ne 25, 3) := by decide +kernel
theorem dJ2_getChar_3b067_6 : decode cJ2_getChar_3b067 6 = .ok (.iload_n 1, 1) := by decide +kernel
theorem dJ2_getChar_3b067_7 : decode cJ2_getChar_3b067 7 = .ok (.ifCond .lt 11, 3) := by decide +kernel
theorem dJ2_getChar_3b067_10 : decode cJ2_getChar_3b067 10 = .ok (.iload_n 1, 1) := by decide +kernel
theorem dJ2_getChar_3b067_11 : decode cJ2_getChar_3b067 11 = .ok (.aload_n 0, 1) := by decide +kernel
theorem dJ2_getChar_3b067_12 : decode cJ2_getChar_3b067 12 = .ok (.invokestatic 48, 3) := by decide +kernel
theorem dJ2_getChar_3b067_15 : decode cJ2_getChar_3b067 15 = .ok (.if_icmp .lt 13, 3) := by decide +kernel
theorem dJ2_getChar_3b067_18 : decode cJ2_getChar_3b067 18 = .ok (.new 52, 3) := by decide +kernel
theorem dJ2_getChar_3b067_21 : decode cJ2_getChar_3b067 21 = .ok (.dup, 1) := by decide +kernel
theorem dJ2_getChar_3b067_22 : decode cJ2_getChar_3b067 22 = .ok (.ldc 54, 2) := by decide +kernel
theorem dJ2_getChar_3b067_24 : decode cJ2_getChar_3b067 24 = .ok (.invokespecial 56, 3) := by decide +kernel
theorem dJ2_getChar_3b067_27 : decode cJ2_getChar_3b067 27 = .ok (.athrow, 1) := by decide +kernel
theorem dJ2_getChar_3b067_28 : decode cJ2_getChar_3b067 28 = .ok (.iload_n 1, 1) := by decide +kernel
theorem dJ2_getChar_3b067_29 : decode cJ2_getChar_3b067 29 = .ok (.iconst 1, 1) := by decide +kernel
theorem dJ2_getChar_3b067_30 : decode cJ2_getChar_3b067 30 = .ok (.ishl, 1) := by decide +kernel
theorem dJ2_getChar_3b067_31 : decode cJ2_getChar_3b067 31 = .ok (.istore_n 1, 1) := by decide +kernel
theorem dJ2_getChar_3b067_32 : decode cJ2_getChar_3b067 32 = .ok (.aload_n 0, 1) := by decide +kernel
theorem dJ2_getChar_3b067_33 : decode cJ2_getChar_3b067 33 = .ok (.iload_n 1, 1) := by decide +kernel
theorem dJ2_getChar_3b067_34 : decode cJ2_getChar_3b067 34 = .ok (.iinc 1 1, 3) := by decide +kernel
theorem dJ2_getChar_3b067_37 : decode cJ2_getChar_3b067 37 = .ok (.baload, 1) := by decide +kernel
theorem dJ2_getChar_3b067_38 : decode cJ2_getChar_3b067 38 = .ok (.sipush 255, 3) := by decide +kernel
theorem dJ2_getChar_3b067_41 : decode cJ2_getChar_3b067 41 = .ok (.iand, 1) := by decide +kernel
theorem dJ2_getChar_3b067_42 : decode cJ2_getChar_3b067 42 = .ok (.getstatic 59, 3) := by decide +kernel
theorem dJ2_getChar_3b067_45 : decode cJ2_getChar_3b067 45 = .ok (.ishl, 1) := by decide +kernel
theorem dJ2_getChar_3b067_46 : decode cJ2_getChar_3b067 46 = .ok (.aload_n 0, 1) := by decide +kernel
theorem dJ2_getChar_3b067_47 : decode cJ2_getChar_3b067 47 = .ok (.iload_n 1, 1) := by decide +kernel
theorem dJ2_getChar_3b067_48 : decode cJ2_getChar_3b067 48 = .ok (.baload, 1) := by decide +kernel
theorem dJ2_getChar_3b067_49 : decode cJ2_getChar_3b067 49 = .ok (.sipush 255, 3) := by decide +kernel
theorem dJ2_getChar_3b067_52 : decode cJ2_getChar_3b067 52 = .ok (.iand, 1) := by decide +kernel
theorem dJ2_getChar_3b067_53 : decode cJ2_getChar_3b067 53 = .ok (.getstatic 63, 3) := by decide +kernel
theorem dJ2_getChar_3b067_56 : decode cJ2_getChar_3b067 56 = .ok (.ishl, 1) := by decide +kernel
theorem dJ2_getChar_3b067_57 : decode cJ2_getChar_3b067 57 = .ok (.ior, 1) := by decide +kernel
theorem dJ2_getChar_3b067_58 : decode cJ2_getChar_3b067 58 = .ok (.i2c, 1) := by decide +kernel
theorem dJ2_getChar_3b067_59 : decode cJ2_getChar_3b067 59 = .ok (.ireturn, 1) := by decide +kernel
theorem dJ2_length_9d52b_0 : decode cJ2_length_9d52b 0 = .ok (.aload_n 0, 1) := by decide +kernel
theorem dJ2_length_9d52b_1 : decode cJ2_length_9d52b 1 = .ok (.arraylength, 1) := by decide +kernel
theorem dJ2_length_9d52b_2 : decode cJ2_length_9d52b 2 = .ok (.iconst 1, 1) := by decide +kernel
theorem dJ2_length_9d52b_3 : decode cJ2_length_9d52b 3 = .ok (.ishr, 1) := by decide +kernel
theorem dJ2_length_9d52b_4 : decode cJ2_length_9d52b 4 = .ok (.ireturn, 1) := by decide +kernel
theorem dJ2_charAt_3b067_0 : decode cJ2_charAt_3b067 0 = .ok (.iload_n 1, 1) := by decide +kernel
theorem dJ2_charAt_3b067_1 : decode cJ2_charAt_3b067 1 = .ok (.aload_n 0, 1) := by decide +kernel
theorem dJ2_charAt_3b067_2 : decode cJ2_charAt_3b067 2 = .ok (.invokestatic 67, 3) := by decide +kernel
theorem dJ2_charAt_3b067_5 : decode cJ2_charAt_3b067 5 = .ok (.aload_n 0, 1) := by decide +kernel
theorem dJ2_charAt_3b067_6 : decode cJ2_charAt_3b067 6 = .ok (.iload_n 1, 1) := by decide +kernel
theorem dJ2_charAt_3b067_7 : decode cJ2_charAt_3b067 7 = .ok (.invokestatic 71, 3) := by decide +kernel
theorem dJ2_charAt_3b067_10 : decode cJ2_charAt_3b067 10 = .ok (.ireturn, 1) := by decide +kernel
theorem dJ2_checkIndex_2214a_0 : decode cJ2_checkIndex_2214a 0 = .ok (.iload_n 0, 1) := by decide +kernel
theorem dJ2_checkIndex_2214a_1 : decode cJ2_checkIndex_2214a 1 = .ok (.aload_n 1, 1) := by decide +kernel
theorem dJ2_checkIndex_2214a_2 : decode cJ2_checkIndex_2214a 2 = .ok (.invokestatic 48, 3) := by decide +kernel
theorem dJ2_checkIndex_2214a_5 : decode cJ2_checkIndex_2214a 5 = .ok (.invokestatic 414, 3) := by decide +kernel
theorem dJ2_checkIndex_2214a_8 : decode cJ2_checkIndex_2214a 8 = .ok (.return_, 1) := by decide +kernel
theorem dJ7_fill_53178_0 : decode cJ7_fill_53178 0 = .ok (.iconst 0, 1) := by decide +kernel
theorem dJ7_fill_53178_1 : decode cJ7_fill_53178 1 = .ok (.istore_n 2, 1) := by decide +kernel
theorem dJ7_fill_53178_2 : decode cJ7_fill_53178 2 = .ok (.aload_n 0, 1) := by decide +kernel
theorem dJ7_fill_53178_3 : decode cJ7_fill_53178 3 = .ok (.arraylength, 1) := by decide +kernel
theorem dJ7_fill_53178_4 : decode cJ7_fill_53178 4 = .ok (.istore_n 3, 1) := by decide +kernel
theorem dJ7_fill_53178_5 : decode cJ7_fill_53178 5 = .ok (.iload_n 2, 1) := by decide +kernel
theorem dJ7_fill_53178_6 : decode cJ7_fill_53178 6 = .ok (.iload_n 3, 1) := by decide +kernel
theorem dJ7_fill_53178_7 : decode cJ7_fill_53178 7 = .ok (.if_icmp .ge 13, 3) := by decide +kernel
theorem dJ7_fill_53178_10 : decode cJ7_fill_53178 10 = .ok (.aload_n 0, 1) := by decide +kernel
theorem dJ7_fill_53178_11 : decode cJ7_fill_53178 11 = .ok (.iload_n 2, 1) := by decide +kernel
theorem dJ7_fill_53178_12 : decode cJ7_fill_53178 12 = .ok (.iload_n 1, 1) := by decide +kernel
theorem dJ7_fill_53178_13 : decode cJ7_fill_53178 13 = .ok (.iastore, 1) := by decide +kernel
theorem dJ7_fill_53178_14 : decode cJ7_fill_53178 14 = .ok (.iinc 2 1, 3) := by decide +kernel
theorem dJ7_fill_53178_17 : decode cJ7_fill_53178 17 = .ok (.goto (-12), 3) := by decide +kernel
theorem dJ7_fill_53178_20 : decode cJ7_fill_53178 20 = .ok (.return_, 1) := by decide +kernel
theorem dJ3_checkIndex_8e157_0 : decode cJ3_checkIndex_8e157 0 = .ok (.iload_n 0, 1) := by decide +kernel
theorem dJ3_checkIndex_8e157_1 : decode cJ3_checkIndex_8e157 1 = .ok (.ifCond .lt 8, 3) := by decide +kernel
theorem dJ3_checkIndex_8e157_4 : decode cJ3_checkIndex_8e157 4 = .ok (.iload_n 0, 1) := by decide +kernel
theorem dJ3_checkIndex_8e157_5 : decode cJ3_checkIndex_8e157 5 = .ok (.iload_n 1, 1) := by decide +kernel
theorem dJ3_checkIndex_8e157_6 : decode cJ3_checkIndex_8e157 6 = .ok (.if_icmp .lt 10, 3) := by decide +kernel
theorem dJ3_checkIndex_8e157_9 : decode cJ3_checkIndex_8e157 9 = .ok (.aload_n 2, 1) := by decide +kernel
theorem dJ3_checkIndex_8e157_10 : decode cJ3_checkIndex_8e157 10 = .ok (.iload_n 0, 1) := by decide +kernel
theorem dJ3_checkIndex_8e157_11 : decode cJ3_checkIndex_8e157 11 = .ok (.iload_n 1, 1) := by decide +kernel
theorem dJ3_checkIndex_8e157_12 : decode cJ3_checkIndex_8e157 12 = .ok (.invokestatic 95, 3) := by decide +kernel
theorem dJ3_checkIndex_8e157_15 : decode cJ3_checkIndex_8e157 15 = .ok (.athrow, 1) := by decide +kernel
theorem dJ3_checkIndex_8e157_16 : decode cJ3_checkIndex_8e157 16 = .ok (.iload_n 0, 1) := by decide +kernel
theorem dJ3_checkIndex_8e157_17 : decode cJ3_checkIndex_8e157 17 = .ok (.ireturn, 1) := by decide +kernel
theorem dX7_init_0 : decode cX7_init 0 = .ok (.aload_n 0, 1) := by decide +kernel
theorem dX7_init_1 : decode cX7_init 1 = .ok (.invokespecial 1, 3) := by decide +kernel
theorem dX7_init_4 : decode cX7_init 4 = .ok (.aload_n 0, 1) := by decide +kernel
theorem dX7_init_5 : decode cX7_init 5 = .ok (.bipush 8, 2) := by decide +kernel
theorem dX7_init_7 : decode cX7_init 7 = .ok (.anewarray 9, 3) := by decide +kernel
theorem dX7_init_10 : decode cX7_init 10 = .ok (.putfield 11, 3) := by decide +kernel
theorem dX7_init_13 : decode cX7_init 13 = .ok (.aload_n 0, 1) := by decide +kernel
theorem dX7_init_14 : decode cX7_init 14 = .ok (.new 15, 3) := by decide +kernel
theorem dX7_init_17 : decode cX7_init 17 = .ok (.dup, 1) := by decide +kernel
theorem dX7_init_18 : decode cX7_init 18 = .ok (.invokespecial 17, 3) := by decide +kernel
theorem dX7_init_21 : decode cX7_init 21 = .ok (.putfield 18, 3) := by decide +kernel
theorem dX7_init_24 : decode cX7_init 24 = .ok (.aload_n 0, 1) := by decide +kernel
theorem dX7_init_25 : decode cX7_init 25 = .ok (.new 22, 3) := by decide +kernel
theorem dX7_init_28 : decode cX7_init 28 = .ok (.dup, 1) := by decide +kernel
theorem dX7_init_29 : decode cX7_init 29 = .ok (.invokespecial 24, 3) := by decide +kernel
theorem dX7_init_32 : decode cX7_init 32 = .ok (.putfield 25, 3) := by decide +kernel
theorem dX7_init_35 : decode cX7_init 35 = .ok (.aload_n 0, 1) := by decide +kernel
theorem dX7_init_36 : decode cX7_init 36 = .ok (.new 22, 3) := by decide +kernel
theorem dX7_init_39 : decode cX7_init 39 = .ok (.dup, 1) := by decide +kernel
theorem dX7_init_40 : decode cX7_init 40 = .ok (.invokespecial 24, 3) := by decide +kernel
theorem dX7_init_43 : decode cX7_init 43 = .ok (.putfield 29, 3) := by decide +kernel
theorem dX7_init_46 : decode cX7_init 46 = .ok (.aload_n 0, 1) := by decide +kernel
theorem dX7_init_47 : decode cX7_init 47 = .ok (.new 22, 3) := by decide +kernel
theorem dX7_init_50 : decode cX7_init 50 = .ok (.dup, 1) := by decide +kernel
theorem dX7_init_51 : decode cX7_init 51 = .ok (.invokespecial 24, 3) := by decide +kernel
theorem dX7_init_54 : decode cX7_init 54 = .ok (.putfield 32, 3) := by decide +kernel
theorem dX7_init_57 : decode cX7_init 57 = .ok (.aload_n 0, 1) := by decide +kernel
theorem dX7_init_58 : decode cX7_init 58 = .ok (.iconst 2, 1) := by decide +kernel
theorem dX7_init_59 : decode cX7_init 59 = .ok (.anewarray 22, 3) := by decide +kernel
theorem dX7_init_62 : decode cX7_init 62 = .ok (.putfield 35, 3) := by decide +kernel
theorem dX7_init_65 : decode cX7_init 65 = .ok (.aload_n 0, 1) := by decide +kernel
theorem dX7_init_66 : decode cX7_init 66 = .ok (.new 39, 3) := by decide +kernel
theorem dX7_init_69 : decode cX7_init 69 = .ok (.dup, 1) := by decide +kernel
theorem dX7_init_70 : decode cX7_init 70 = .ok (.invokespecial 41, 3) := by decide +kernel
theorem dX7_init_73 : decode cX7_init 73 = .ok (.putfield 42, 3) := by decide +kernel
theorem dX7_init_76 : decode cX7_init 76 = .ok (.aload_n 0, 1) := by decide +kernel
theorem dX7_init_77 : decode cX7_init 77 = .ok (.new 46, 3) := by decide +kernel
theorem dX7_init_80 : decode cX7_init 80 = .ok (.dup, 1) := by decide +kernel
theorem dX7_init_81 : decode cX7_init 81 = .ok (.invokespecial 48, 3) := by decide +kernel
theorem dX7_init_84 : decode cX7_init 84 = .ok (.putfield 49, 3) := by decide +kernel
theorem dX7_init_87 : decode cX7_init 87 = .ok (.aload_n 0, 1) := by decide +kernel
theorem dX7_init_88 : decode cX7_init 88 = .ok (.bipush 30, 2) := by decide +kernel
theorem dX7_init_90 : decode cX7_init 90 = .ok (.newarray .int, 2) := by decide +kernel
theorem dX7_init_92 : decode cX7_init 92 = .ok (.putfield 53, 3) := by decide +kernel
theorem dX7_init_95 : decode cX7_init 95 = .ok (.aload_n 0, 1) := by decide +kernel
theorem dX7_init_96 : decode cX7_init 96 = .ok (.bipush 30, 2) := by decide +kernel
theorem dX7_init_98 : decode cX7_init 98 = .ok (.newarray .int, 2) := by decide +kernel
theorem dX7_init_100 : decode cX7_init 100 = .ok (.putfield 57, 3) := by decide +kernel
theorem dX7_init_103 : decode cX7_init 103 = .ok (.aload_n 0, 1) := by decide +kernel
theorem dX7_init_104 : decode cX7_init 104 = .ok (.bipush 30, 2) := by decide +kernel
theorem dX7_init_106 : decode cX7_init 106 = .ok (.newarray .int, 2) := by decide +kernel
theorem dX7_init_108 : decode cX7_init 108 = .ok (.putfield 60, 3) := by decide +kernel
theorem dX7_init_111 : decode cX7_init 111 = .ok (.aload_n 0, 1) := by decide +kernel
theorem dX7_init_112 : decode cX7_init 112 = .ok (.iconst 3, 1) := by decide +kernel
theorem dX7_init_113 : decode cX7_init 113 = .ok (.newarray .int, 2) := by decide +kernel
theorem dX7_init_115 : decode cX7_init 115 = .ok (.putfield 63, 3) := by decide +kernel
theorem dX7_init_118 : decode cX7_init 118 = .ok (.aload_n 0, 1) := by decide +kernel
theorem dX7_init_119 : decode cX7_init 119 = .ok (.new 66, 3) := by decide +kernel
theorem dX7_init_122 : decode cX7_init 122 = .ok (.dup, 1) := by decide +kernel
theorem dX7_init_123 : decode cX7_init 123 = .ok (.invokespecial 68, 3) := by decide +kernel
theorem dX7_init_126 : decode cX7_init 126 = .ok (.putfield 69, 3) := by decide +kernel
theorem dX7_init_129 : decode cX7_init 129 = .ok (.iconst 0, 1) := by decide +kernel
theorem dX7_init_130 : decode cX7_init 130 = .ok (.istore_n 1, 1) := by decide +kernel
theorem dX7_init_131 : decode cX7_init 131 = .ok (.iload_n 1, 1) := by decide +kernel
theorem dX7_init_132 : decode cX7_init 132 = .ok (.aload_n 0, 1) := by decide +kernel
theorem dX7_init_133 : decode cX7_init 133 = .ok (.getfield 11, 3) := by decide +kernel
theorem dX7_init_136 : decode cX7_init 136 = .ok (.arraylength, 1) := by decide +kernel
theorem dX7_init_137 : decode cX7_init 137 = .ok (.if_icmp .ge 22, 3) := by decide +kernel
theorem dX7_init_140 : decode cX7_init 140 = .ok (.aload_n 0, 1) := by decide +kernel
theorem dX7_init_141 : decode cX7_init 141 = .ok (.getfield 11, 3) := by decide +kernel
theorem dX7_init_144 : decode cX7_init 144 = .ok (.iload_n 1, 1) := by decide +kernel
theorem dX7_init_145 : decode cX7_init 145 = .ok (.new 9, 3) := by decide +kernel
theorem dX7_init_148 : decode cX7_init 148 = .ok (.dup, 1) := by decide +kernel
theorem dX7_init_149 : decode cX7_init 149 = .ok (.invokespecial 73, 3) := by decide +kernel
theorem dX7_init_152 : decode cX7_init 152 = .ok (.aastore, 1) := by decide +kernel
theorem dX7_init_153 : decode cX7_init 153 = .ok (.iinc 1 1, 3) := by decide +kernel
theorem dX7_init_156 : decode cX7_init 156 = .ok (.goto (-25), 3) := by decide +kernel
theorem dX7_init_159 : decode cX7_init 159 = .ok (.iconst 0, 1) := by decide +kernel
theorem dX7_init_160 : decode cX7_init 160 = .ok (.istore_n 1, 1) := by decide +kernel
theorem dX7_init_161 : decode cX7_init 161 = .ok (.iload_n 1, 1) := by decide +kernel
theorem dX7_init_162 : decode cX7_init 162 = .ok (.aload_n 0, 1) := by decide +kernel
theorem dX7_init_163 : decode cX7_init 163 = .ok (.getfield 35, 3) := by decide +kernel
theorem dX7_init_166 : decode cX7_init 166 = .ok (.arraylength, 1) := by decide +kernel
theorem dX7_init_167 : decode cX7_init 167 = .ok (.if_icmp .ge 22, 3) := by decide +kernel
theorem dX7_init_170 : decode cX7_init 170 = .ok (.aload_n 0, 1) := by decide +kernel
theorem dX7_init_171 : decode cX7_init 171 = .ok (.getfield 35, 3) := by decide +kernel
theorem dX7_init_174 : decode cX7_init 174 = .ok (.iload_n 1, 1) := by decide +kernel
theorem dX7_init_175 : decode cX7_init 175 = .ok (.new 22, 3) := by decide +kernel
theorem dX7_init_178 : decode cX7_init 178 = .ok (.dup, 1) := by decide +kernel
theorem dX7_init_179 : decode cX7_init 179 = .ok (.invokespecial 24, 3) := by decide +kernel
theorem dX7_init_182 : decode cX7_init 182 = .ok (.aastore, 1) := by decide +kernel
theorem dX7_init_183 : decode cX7_init 183 = .ok (.iinc 1 1, 3) := by decide +kernel
theorem dX7_init_186 : decode cX7_init 186 = .ok (.goto (-25), 3) := by decide +kernel
theorem dX7_init_189 : decode cX7_init 189 = .ok (.return_, 1) := by decide +kernel
theorem dX7_row_0 : decode cX7_row 0 = .ok (.aload_n 0, 1) := by decide +kernel
theorem dX7_row_1 : decode cX7_row 1 = .ok (.iload_n 1, 1) := by decide +kernel
theorem dX7_row_2 : decode cX7_row 2 = .ok (.invokevirtual 74, 3) := by decide +kernel
theorem dX7_row_5 : decode cX7_row 5 = .ok (.astore 4, 2) := by decide +kernel
theorem dX7_row_7 : decode cX7_row 7 = .ok (.aload 4, 2) := by decide +kernel
theorem dX7_row_9 : decode cX7_row 9 = .ok (.ifnull 18, 3) := by decide +kernel
theorem dX7_row_12 : decode cX7_row 12 = .ok (.iload_n 2, 1) := by decide +kernel
theorem dX7_row_13 : decode cX7_row 13 = .ok (.ifCond .lt 14, 3) := by decide +kernel
theorem dX7_row_16 : decode cX7_row 16 = .ok (.iload_n 2, 1) := by decide +kernel
theorem dX7_row_17 : decode cX7_row 17 = .ok (.iconst 2, 1) := by decide +kernel
theorem dX7_row_18 : decode cX7_row 18 = .ok (.if_icmp .gt 9, 3) := by decide +kernel
theorem dX7_row_21 : decode cX7_row 21 = .ok (.iload_n 3, 1) := by decide +kernel
theorem dX7_row_22 : decode cX7_row 22 = .ok (.bipush 40, 2) := by decide +kernel
theorem dX7_row_24 : decode cX7_row 24 = .ok (.if_icmp .le 6, 3) := by decide +kernel
theorem dX7_row_27 : decode cX7_row 27 = .ok (.ldc 78, 2) := by decide +kernel
theorem dX7_row_29 : decode cX7_row 29 = .ok (.ireturn, 1) := by decide +kernel
theorem dX7_row_30 : decode cX7_row 30 = .ok (.iload_n 3, 1) := by decide +kernel
theorem dX7_row_31 : decode cX7_row 31 = .ok (.ifCond .ge 9, 3) := by decide +kernel
theorem dX7_row_34 : decode cX7_row 34 = .ok (.aload_n 0, 1) := by decide +kernel
theorem dX7_row_35 : decode cX7_row 35 = .ok (.iconst 4, 1) := by decide +kernel
theorem dX7_row_36 : decode cX7_row 36 = .ok (.invokevirtual 79, 3) := by decide +kernel
theorem dX7_row_39 : decode cX7_row 39 = .ok (.ireturn, 1) := by decide +kernel
theorem dX7_row_40 : decode cX7_row 40 = .ok (.aload 4, 2) := by decide +kernel
theorem dX7_row_42 : decode cX7_row 42 = .ok (.iload_n 2, 1) := by decide +kernel
theorem dX7_row_43 : decode cX7_row 43 = .ok (.iload_n 3, 1) := by decide +kernel
theorem dX7_row_44 : decode cX7_row 44 = .ok (.invokevirtual 83, 3) := by decide +kernel
theorem dX7_row_47 : decode cX7_row 47 = .ok (.aload_n 0, 1) := by decide +kernel
theorem dX7_row_48 : decode cX7_row 48 = .ok (.iload_n 3, 1) := by decide +kernel
theorem dX7_row_49 : decode cX7_row 49 = .ok (.invokevirtual 87, 3) := by decide +kernel
theorem dX7_row_52 : decode cX7_row 52 = .ok (.ireturn, 1) := by decide +kernel
theorem dX7_set_0 : decode cX7_set 0 = .ok (.aload_n 0, 1) := by decide +kernel
theorem dX7_set_1 : decode cX7_set 1 = .ok (.iload_n 1, 1) := by decide +kernel
theorem dX7_set_2 : decode cX7_set 2 = .ok (.invokevirtual 74, 3) := by decide +kernel
theorem dX7_set_5 : decode cX7_set 5 = .ok (.astore 4, 2) := by decide +kernel
theorem dX7_set_7 : decode cX7_set 7 = .ok (.aload 4, 2) := by decide +kernel
theorem dX7_set_9 : decode cX7_set 9 = .ok (.ifnonnull 6, 3) := by decide +kernel
theorem dX7_set_12 : decode cX7_set 12 = .ok (.ldc 78, 2) := by decide +kernel
theorem dX7_set_14 : decode cX7_set 14 = .ok (.ireturn, 1) := by decide +kernel
theorem dX7_set_15 : decode cX7_set 15 = .ok (.aload 4, 2) := by decide +kernel
theorem dX7_set_17 : decode cX7_set 17 = .ok (.invokevirtual 90, 3) := by decide +kernel
theorem dX7_set_20 : decode cX7_set 20 = .ok (.ifCond .eq 9, 3) := by decide +kernel
theorem dX7_set_23 : decode cX7_set 23 = .ok (.aload_n 0, 1) := by decide +kernel
theorem dX7_set_24 : decode cX7_set 24 = .ok (.iconst 1, 1) := by decide +kernel
theorem dX7_set_25 : decode cX7_set 25 = .ok (.invokevirtual 79, 3) := by decide +kernel
theorem dX7_set_28 : decode cX7_set 28 = .ok (.ireturn, 1) := by decide +kernel
theorem dX7_set_29 : decode cX7_set 29 = .ok (.aload 4, 2) := by decide +kernel
theorem dX7_set_31 : decode cX7_set 31 = .ok (.iload_n 2, 1) := by decide +kernel
theorem dX7_set_32 : decode cX7_set 32 = .ok (.iconst 1, 1) := by decide +kernel
theorem dX7_set_33 : decode cX7_set 33 = .ok (.invokevirtual 94, 3) := by decide +kernel
theorem dX7_set_36 : decode cX7_set 36 = .ok (.ifCond .ne 9, 3) := by decide +kernel
theorem dX7_set_39 : decode cX7_set 39 = .ok (.aload_n 0, 1) := by decide +kernel
theorem dX7_set_40 : decode cX7_set 40 = .ok (.iconst 2, 1) := by decide +kernel
theorem dX7_set_41 : decode cX7_set 41 = .ok (.invokevirtual 79, 3) := by decide +kernel
theorem dX7_set_44 : decode cX7_set 44 = .ok (.ireturn, 1) := by decide +kernel
theorem dX7_set_45 : decode cX7_set 45 = .ok (.aload_n 0, 1) := by decide +kernel
theorem dX7_set_46 : decode cX7_set 46 = .ok (.aload 4, 2) := by decide +kernel
theorem dX7_set_48 : decode cX7_set 48 = .ok (.iload_n 2, 1) := by decide +kernel
theorem dX7_set_49 : decode cX7_set 49 = .ok (.iload_n 3, 1) := by decide +kernel
theorem dX7_set_50 : decode cX7_set 50 = .ok (.invokevirtual 98, 3) := by decide +kernel
theorem dX7_set_53 : decode cX7_set 53 = .ok (.invokevirtual 87, 3) := by decide +kernel
theorem dX7_set_56 : decode cX7_set 56 = .ok (.ireturn, 1) := by decide +kernel
theorem dX7_copy_0 : decode cX7_copy 0 = .ok (.aload_n 0, 1) := by decide +kernel
theorem dX7_copy_1 : decode cX7_copy 1 = .ok (.iload_n 1, 1) := by decide +kernel
theorem dX7_copy_2 : decode cX7_copy 2 = .ok (.invokevirtual 74, 3) := by decide +kernel
theorem dX7_copy_5 : decode cX7_copy 5 = .ok (.astore 6, 2) := by decide +kernel
theorem dX7_copy_7 : decode cX7_copy 7 = .ok (.aload_n 0, 1) := by decide +kernel
theorem dX7_copy_8 : decode cX7_copy 8 = .ok (.iload_n 3, 1) := by decide +kernel
theorem dX7_copy_9 : decode cX7_copy 9 = .ok (.invokevirtual 74, 3) := by decide +kernel
theorem dX7_copy_12 : decode cX7_copy 12 = .ok (.astore 7, 2) := by decide +kernel
theorem dX7_copy_14 : decode cX7_copy 14 = .ok (.aload 6, 2) := by decide +kernel
theorem dX7_copy_16 : decode cX7_copy 16 = .ok (.ifnull 8, 3) := by decide +kernel
theorem dX7_copy_19 : decode cX7_copy 19 = .ok (.aload 7, 2) := by decide +kernel
theorem dX7_copy_21 : decode cX7_copy 21 = .ok (.ifnonnull 6, 3) := by decide +kernel
theorem dX7_copy_24 : decode cX7_copy 24 = .ok (.ldc 78, 2) := by decide +kernel
theorem dX7_copy_26 : decode cX7_copy 26 = .ok (.ireturn, 1) := by decide +kernel
theorem dX7_copy_27 : decode cX7_copy 27 = .ok (.aload 6, 2) := by decide +kernel
theorem dX7_copy_29 : decode cX7_copy 29 = .ok (.invokevirtual 90, 3) := by decide +kernel
theorem dX7_copy_32 : decode cX7_copy 32 = .ok (.ifCond .ne 11, 3) := by decide +kernel
theorem dX7_copy_35 : decode cX7_copy 35 = .ok (.aload 7, 2) := by decide +kernel
theorem dX7_copy_37 : decode cX7_copy 37 = .ok (.invokevirtual 90, 3) := by decide +kernel
theorem dX7_copy_40 : decode cX7_copy 40 = .ok (.ifCond .eq 9, 3) := by decide +kernel
theorem dX7_copy_43 : decode cX7_copy 43 = .ok (.aload_n 0, 1) := by decide +kernel
theorem dX7_copy_44 : decode cX7_copy 44 = .ok (.iconst 1, 1) := by decide +kernel
theorem dX7_copy_45 : decode cX7_copy 45 = .ok (.invokevirtual 79, 3) := by decide +kernel
theorem dX7_copy_48 : decode cX7_copy 48 = .ok (.ireturn, 1) := by decide +kernel
theorem dX7_copy_49 : decode cX7_copy 49 = .ok (.aload 6, 2) := by decide +kernel
theorem dX7_copy_51 : decode cX7_copy 51 = .ok (.getfield 102, 3) := by decide +kernel
theorem dX7_copy_54 : decode cX7_copy 54 = .ok (.aload 7, 2) := by decide +kernel
theorem dX7_copy_56 : decode cX7_copy 56 = .ok (.getfield 102, 3) := by decide +kernel
theorem dX7_copy_59 : decode cX7_copy 59 = .ok (.if_icmp .eq 9, 3) := by decide +kernel
theorem dX7_copy_62 : decode cX7_copy 62 = .ok (.aload_n 0, 1) := by decide +kernel
theorem dX7_copy_63 : decode cX7_copy 63 = .ok (.iconst 5, 1) := by decide +kernel
theorem dX7_copy_64 : decode cX7_copy 64 = .ok (.invokevirtual 79, 3) := by decide +kernel
theorem dX7_copy_67 : decode cX7_copy 67 = .ok (.ireturn, 1) := by decide +kernel
theorem dX7_copy_68 : decode cX7_copy 68 = .ok (.aload 6, 2) := by decide +kernel
theorem dX7_copy_70 : decode cX7_copy 70 = .ok (.iload_n 2, 1) := by decide +kernel
theorem dX7_copy_71 : decode cX7_copy 71 = .ok (.iload 5, 2) := by decide +kernel
theorem dX7_copy_73 : decode cX7_copy 73 = .ok (.invokevirtual 94, 3) := by decide +kernel
theorem dX7_copy_76 : decode cX7_copy 76 = .ok (.ifCond .eq 15, 3) := by decide +kernel
theorem dX7_copy_79 : decode cX7_copy 79 = .ok (.aload 7, 2) := by decide +kernel
theorem dX7_copy_81 : decode cX7_copy 81 = .ok (.iload 4, 2) := by decide +kernel
theorem dX7_copy_83 : decode cX7_copy 83 = .ok (.iload 5, 2) := by decide +kernel
theorem dX7_copy_85 : decode cX7_copy 85 = .ok (.invokevirtual 94, 3) := by decide +kernel
theorem dX7_copy_88 : decode cX7_copy 88 = .ok (.ifCond .ne 9, 3) := by decide +kernel
theorem dX7_copy_91 : decode cX7_copy 91 = .ok (.aload_n 0, 1) := by decide +kernel
theorem dX7_copy_92 : decode cX7_copy 92 = .ok (.iconst 2, 1) := by decide +kernel
theorem dX7_copy_93 : decode cX7_copy 93 = .ok (.invokevirtual 79, 3) := by decide +kernel
theorem dX7_copy_96 : decode cX7_copy 96 = .ok (.ireturn, 1) := by decide +kernel
theorem dX7_copy_97 : decode cX7_copy 97 = .ok (.aload 6, 2) := by decide +kernel
theorem dX7_copy_99 : decode cX7_copy 99 = .ok (.getfield 106, 3) := by decide +kernel
theorem dX7_copy_102 : decode cX7_copy 102 = .ok (.iload_n 2, 1) := by decide +kernel
theorem dX7_copy_103 : decode cX7_copy 103 = .ok (.aload 7, 2) := by decide +kernel
theorem dX7_copy_105 : decode cX7_copy 105 = .ok (.getfield 106, 3) := by decide +kernel
theorem dX7_copy_108 : decode cX7_copy 108 = .ok (.iload 4, 2) := by decide +kernel
theorem dX7_copy_110 : decode cX7_copy 110 = .ok (.iload 5, 2) := by decide +kernel
theorem dX7_copy_112 : decode cX7_copy 112 = .ok (.invokestatic 109, 3) := by decide +kernel
theorem dX7_copy_115 : decode cX7_copy 115 = .ok (.aload_n 0, 1) := by decide +kernel
theorem dX7_copy_116 : decode cX7_copy 116 = .ok (.iload 5, 2) := by decide +kernel
theorem dX7_copy_118 : decode cX7_copy 118 = .ok (.invokevirtual 87, 3) := by decide +kernel
theorem dX7_copy_121 : decode cX7_copy 121 = .ok (.ireturn, 1) := by decide +kernel
theorem dX7_drop_0 : decode cX7_drop 0 = .ok (.aload_n 0, 1) := by decide +kernel
theorem dX7_drop_1 : decode cX7_drop 1 = .ok (.iload_n 1, 1) := by decide +kernel
theorem dX7_drop_2 : decode cX7_drop 2 = .ok (.invokevirtual 74, 3) := by decide +kernel
theorem dX7_drop_5 : decode cX7_drop 5 = .ok (.astore_n 2, 1) := by decide +kernel
theorem dX7_drop_6 : decode cX7_drop 6 = .ok (.aload_n 2, 1) := by decide +kernel
theorem dX7_drop_7 : decode cX7_drop 7 = .ok (.ifnonnull 6, 3) := by decide +kernel
theorem dX7_drop_10 : decode cX7_drop 10 = .ok (.ldc 78, 2) := by decide +kernel
theorem dX7_drop_12 : decode cX7_drop 12 = .ok (.ireturn, 1) := by decide +kernel
theorem dX7_drop_13 : decode cX7_drop 13 = .ok (.aload_n 2, 1) := by decide +kernel
theorem dX7_drop_14 : decode cX7_drop 14 = .ok (.invokevirtual 90, 3) := by decide +kernel
theorem dX7_drop_17 : decode cX7_drop 17 = .ok (.ifCond .eq 9, 3) := by decide +kernel
theorem dX7_drop_20 : decode cX7_drop 20 = .ok (.aload_n 0, 1) := by decide +kernel
theorem dX7_drop_21 : decode cX7_drop 21 = .ok (.iconst 1, 1) := by decide +kernel
theorem dX7_drop_22 : decode cX7_drop 22 = .ok (.invokevirtual 79, 3) := by decide +kernel
theorem dX7_drop_25 : decode cX7_drop 25 = .ok (.ireturn, 1) := by decide +kernel
theorem dX7_drop_26 : decode cX7_drop 26 = .ok (.aload_n 2, 1) := by decide +kernel
theorem dX7_drop_27 : decode cX7_drop 27 = .ok (.getfield 115, 3) := by decide +kernel
theorem dX7_drop_30 : decode cX7_drop 30 = .ok (.istore_n 3, 1) := by decide +kernel
theorem dX7_drop_31 : decode cX7_drop 31 = .ok (.aload_n 2, 1) := by decide +kernel
theorem dX7_drop_32 : decode cX7_drop 32 = .ok (.iconst (-1), 1) := by decide +kernel
theorem dX7_drop_33 : decode cX7_drop 33 = .ok (.putfield 115, 3) := by decide +kernel
theorem dX7_drop_36 : decode cX7_drop 36 = .ok (.aload_n 0, 1) := by decide +kernel
theorem dX7_drop_37 : decode cX7_drop 37 = .ok (.iload_n 3, 1) := by decide +kernel
theorem dX7_drop_38 : decode cX7_drop 38 = .ok (.invokevirtual 87, 3) := by decide +kernel
theorem dX7_drop_41 : decode cX7_drop 41 = .ok (.ireturn, 1) := by decide +kernel
theorem dX7_feed_0 : decode cX7_feed 0 = .ok (.iload_n 3, 1) := by decide +kernel
theorem dX7_feed_1 : decode cX7_feed 1 = .ok (.iconst 1, 1) := by decide +kernel
theorem dX7_feed_2 : decode cX7_feed 2 = .ok (.if_icmp .lt 9, 3) := by decide +kernel
theorem dX7_feed_5 : decode cX7_feed 5 = .ok (.iload_n 3, 1) := by decide +kernel
theorem dX7_feed_6 : decode cX7_feed 6 = .ok (.bipush 8, 2) := by decide +kernel
theorem dX7_feed_8 : decode cX7_feed 8 = .ok (.if_icmp .le 6, 3) := by decide +kernel
theorem dX7_feed_11 : decode cX7_feed 11 = .ok (.ldc 78, 2) := by decide +kernel
theorem dX7_feed_13 : decode cX7_feed 13 = .ok (.ireturn, 1) := by decide +kernel
theorem dX7_feed_14 : decode cX7_feed 14 = .ok (.aload_n 0, 1) := by decide +kernel
theorem dX7_feed_15 : decode cX7_feed 15 = .ok (.getfield 18, 3) := by decide +kernel
theorem dX7_feed_18 : decode cX7_feed 18 = .ok (.iload_n 3, 1) := by decide +kernel
theorem dX7_feed_19 : decode cX7_feed 19 = .ok (.invokevirtual 118, 3) := by decide +kernel
theorem dX7_feed_22 : decode cX7_feed 22 = .ok (.ifCond .ne 6, 3) := by decide +kernel
theorem dX7_feed_25 : decode cX7_feed 25 = .ok (.ldc 122, 2) := by decide +kernel
theorem dX7_feed_27 : decode cX7_feed 27 = .ok (.ireturn, 1) := by decide +kernel
theorem dX7_feed_28 : decode cX7_feed 28 = .ok (.iload_n 3, 1) := by decide +kernel
theorem dX7_feed_29 : decode cX7_feed 29 = .ok (.iconst 1, 1) := by decide +kernel
theorem dX7_feed_30 : decode cX7_feed 30 = .ok (.isub, 1) := by decide +kernel
theorem dX7_feed_31 : decode cX7_feed 31 = .ok (.istore 4, 2) := by decide +kernel
theorem dX7_feed_33 : decode cX7_feed 33 = .ok (.iload 4, 2) := by decide +kernel
theorem dX7_feed_35 : decode cX7_feed 35 = .ok (.ifCond .lt 28, 3) := by decide +kernel
theorem dX7_feed_38 : decode cX7_feed 38 = .ok (.aload_n 0, 1) := by decide +kernel
theorem dX7_feed_39 : decode cX7_feed 39 = .ok (.getfield 18, 3) := by decide +kernel
theorem dX7_feed_42 : decode cX7_feed 42 = .ok (.lload_n 1, 1) := by decide +kernel
theorem dX7_feed_43 : decode cX7_feed 43 = .ok (.bipush 8, 2) := by decide +kernel
theorem dX7_feed_45 : decode cX7_feed 45 = .ok (.iload 4, 2) := by decide +kernel
theorem dX7_feed_47 : decode cX7_feed 47 = .ok (.imul, 1) := by decide +kernel
theorem dX7_feed_48 : decode cX7_feed 48 = .ok (.lushr, 1) := by decide +kernel
theorem dX7_feed_49 : decode cX7_feed 49 = .ok (.l2i, 1) := by decide +kernel
theorem dX7_feed_50 : decode cX7_feed 50 = .ok (.sipush 255, 3) := by decide +kernel
theorem dX7_feed_53 : decode cX7_feed 53 = .ok (.iand, 1) := by decide +kernel
theorem dX7_feed_54 : decode cX7_feed 54 = .ok (.invokevirtual 123, 3) := by decide +kernel
theorem dX7_feed_57 : decode cX7_feed 57 = .ok (.iinc 4 (-1), 3) := by decide +kernel
theorem dX7_feed_60 : decode cX7_feed 60 = .ok (.goto (-27), 3) := by decide +kernel
theorem dX7_feed_63 : decode cX7_feed 63 = .ok (.aload_n 0, 1) := by decide +kernel
theorem dX7_feed_64 : decode cX7_feed 64 = .ok (.getfield 18, 3) := by decide +kernel
theorem dX7_feed_67 : decode cX7_feed 67 = .ok (.getfield 127, 3) := by decide +kernel
theorem dX7_feed_70 : decode cX7_feed 70 = .ok (.ireturn, 1) := by decide +kernel
theorem dX7_square_0 : decode cX7_square 0 = .ok (.aload_n 0, 1) := by decide +kernel
theorem dX7_square_1 : decode cX7_square 1 = .ok (.getfield 29, 3) := by decide +kernel
theorem dX7_square_4 : decode cX7_square 4 = .ok (.invokevirtual 130, 3) := by decide +kernel
theorem dX7_square_7 : decode cX7_square 7 = .ok (.aload_n 0, 1) := by decide +kernel
theorem dX7_square_8 : decode cX7_square 8 = .ok (.getfield 18, 3) := by decide +kernel
theorem dX7_square_11 : decode cX7_square 11 = .ok (.aload_n 0, 1) := by decide +kernel
theorem dX7_square_12 : decode cX7_square 12 = .ok (.getfield 29, 3) := by decide +kernel
theorem dX7_square_15 : decode cX7_square 15 = .ok (.invokevirtual 133, 3) := by decide +kernel
theorem dX7_square_18 : decode cX7_square 18 = .ok (.istore_n 1, 1) := by decide +kernel
theorem dX7_square_19 : decode cX7_square 19 = .ok (.aload_n 0, 1) := by decide +kernel
theorem dX7_square_20 : decode cX7_square 20 = .ok (.getfield 18, 3) := by decide +kernel
theorem dX7_square_23 : decode cX7_square 23 = .ok (.iconst 0, 1) := by decide +kernel
theorem dX7_square_24 : decode cX7_square 24 = .ok (.putfield 127, 3) := by decide +kernel
theorem dX7_square_27 : decode cX7_square 27 = .ok (.iload_n 1, 1) := by decide +kernel
theorem dX7_square_28 : decode cX7_square 28 = .ok (.ifCond .ne 25, 3) := by decide +kernel
theorem dX7_square_31 : decode cX7_square 31 = .ok (.aload_n 0, 1) := by decide +kernel
theorem dX7_square_32 : decode cX7_square 32 = .ok (.aload_n 0, 1) := by decide +kernel
theorem dX7_square_33 : decode cX7_square 33 = .ok (.getfield 18, 3) := by decide +kernel
theorem dX7_square_36 : decode cX7_square 36 = .ok (.getfield 137, 3) := by decide +kernel
theorem dX7_square_39 : decode cX7_square 39 = .ok (.putfield 140, 3) := by decide +kernel
theorem dX7_square_42 : decode cX7_square 42 = .ok (.ldc 143, 2) := by decide +kernel
theorem dX7_square_44 : decode cX7_square 44 = .ok (.aload_n 0, 1) := by decide +kernel
theorem dX7_square_45 : decode cX7_square 45 = .ok (.getfield 18, 3) := by decide +kernel
theorem dX7_square_48 : decode cX7_square 48 = .ok (.getfield 144, 3) := by decide +kernel
theorem dX7_square_51 : decode cX7_square 51 = .ok (.isub, 1) := by decide +kernel
theorem dX7_square_52 : decode cX7_square 52 = .ok (.ireturn, 1) := by decide +kernel
theorem dX7_square_53 : decode cX7_square 53 = .ok (.aload_n 0, 1) := by decide +kernel
theorem dX7_square_54 : decode cX7_square 54 = .ok (.getfield 29, 3) := by decide +kernel
theorem dX7_square_57 : decode cX7_square 57 = .ok (.iconst 1, 1) := by decide +kernel
theorem dX7_square_58 : decode cX7_square 58 = .ok (.putfield 147, 3) := by decide +kernel
theorem dX7_square_61 : decode cX7_square 61 = .ok (.aload_n 0, 1) := by decide +kernel
theorem dX7_square_62 : decode cX7_square 62 = .ok (.getfield 25, 3) := by decide +kernel
theorem dX7_square_65 : decode cX7_square 65 = .ok (.aload_n 0, 1) := by decide +kernel
theorem dX7_square_66 : decode cX7_square 66 = .ok (.getfield 29, 3) := by decide +kernel
theorem dX7_square_69 : decode cX7_square 69 = .ok (.invokevirtual 151, 3) := by decide +kernel
theorem dX7_square_72 : decode cX7_square 72 = .ok (.aload_n 0, 1) := by decide +kernel
theorem dX7_square_73 : decode cX7_square 73 = .ok (.getfield 42, 3) := by decide +kernel
theorem dX7_square_76 : decode cX7_square 76 = .ok (.iconst 0, 1) := by decide +kernel
theorem dX7_square_77 : decode cX7_square 77 = .ok (.putfield 155, 3) := by decide +kernel
theorem dX7_square_80 : decode cX7_square 80 = .ok (.aload_n 0, 1) := by decide +kernel
theorem dX7_square_81 : decode cX7_square 81 = .ok (.getfield 25, 3) := by decide +kernel
theorem dX7_square_84 : decode cX7_square 84 = .ok (.getfield 158, 3) := by decide +kernel
theorem dX7_square_87 : decode cX7_square 87 = .ok (.ireturn, 1) := by decide +kernel
theorem dX7_fault_0 : decode cX7_fault 0 = .ok (.aload_n 0, 1) := by decide +kernel
theorem dX7_fault_1 : decode cX7_fault 1 = .ok (.getfield 140, 3) := by decide +kernel
theorem dX7_fault_4 : decode cX7_fault 4 = .ok (.ireturn, 1) := by decide +kernel
theorem dX7_toss_0 : decode cX7_toss 0 = .ok (.aload_n 0, 1) := by decide +kernel
theorem dX7_toss_1 : decode cX7_toss 1 = .ok (.getfield 25, 3) := by decide +kernel
theorem dX7_toss_4 : decode cX7_toss 4 = .ok (.getfield 147, 3) := by decide +kernel
theorem dX7_toss_7 : decode cX7_toss 7 = .ok (.ifCond .ne 6, 3) := by decide +kernel
theorem dX7_toss_10 : decode cX7_toss 10 = .ok (.ldc 161, 2) := by decide +kernel
theorem dX7_toss_12 : decode cX7_toss 12 = .ok (.ireturn, 1) := by decide +kernel
theorem dX7_toss_13 : decode cX7_toss 13 = .ok (.iload_n 1, 1) := by decide +kernel
theorem dX7_toss_14 : decode cX7_toss 14 = .ok (.invokestatic 162, 3) := by decide +kernel
theorem dX7_toss_17 : decode cX7_toss 17 = .ok (.ifCond .eq 34, 3) := by decide +kernel
theorem dX7_toss_20 : decode cX7_toss 20 = .ok (.iload_n 2, 1) := by decide +kernel
theorem dX7_toss_21 : decode cX7_toss 21 = .ok (.invokestatic 165, 3) := by decide +kernel
theorem dX7_toss_24 : decode cX7_toss 24 = .ok (.ifCond .eq 27, 3) := by decide +kernel
theorem dX7_toss_27 : decode cX7_toss 27 = .ok (.iload_n 3, 1) := by decide +kernel
theorem dX7_toss_28 : decode cX7_toss 28 = .ok (.iconst 1, 1) := by decide +kernel
theorem dX7_toss_29 : decode cX7_toss 29 = .ok (.if_icmp .lt 22, 3) := by decide +kernel
theorem dX7_toss_32 : decode cX7_toss 32 = .ok (.iload_n 3, 1) := by decide +kernel
theorem dX7_toss_33 : decode cX7_toss 33 = .ok (.bipush 20, 2) := by decide +kernel
theorem dX7_toss_35 : decode cX7_toss 35 = .ok (.if_icmp .gt 16, 3) := by decide +kernel
theorem dX7_toss_38 : decode cX7_toss 38 = .ok (.iload 4, 2) := by decide +kernel
theorem dX7_toss_40 : decode cX7_toss 40 = .ok (.iconst 1, 1) := by decide +kernel
theorem dX7_toss_41 : decode cX7_toss 41 = .ok (.if_icmp .lt 10, 3) := by decide +kernel
theorem dX7_toss_44 : decode cX7_toss 44 = .ok (.iload 4, 2) := by decide +kernel
theorem dX7_toss_46 : decode cX7_toss 46 = .ok (.ldc 168, 2) := by decide +kernel
theorem dX7_toss_48 : decode cX7_toss 48 = .ok (.if_icmp .le 6, 3) := by decide +kernel
theorem dX7_toss_51 : decode cX7_toss 51 = .ok (.ldc 78, 2) := by decide +kernel
theorem dX7_toss_53 : decode cX7_toss 53 = .ok (.ireturn, 1) := by decide +kernel
theorem dX7_toss_54 : decode cX7_toss 54 = .ok (.aload_n 0, 1) := by decide +kernel
theorem dX7_toss_55 : decode cX7_toss 55 = .ok (.getfield 25, 3) := by decide +kernel
theorem dX7_toss_58 : decode cX7_toss 58 = .ok (.invokevirtual 169, 3) := by decide +kernel
theorem dX7_toss_61 : decode cX7_toss 61 = .ok (.iload_n 3, 1) := by decide +kernel
theorem dX7_toss_62 : decode cX7_toss 62 = .ok (.iadd, 1) := by decide +kernel
theorem dX7_toss_63 : decode cX7_toss 63 = .ok (.sipush 9999, 3) := by decide +kernel
theorem dX7_toss_66 : decode cX7_toss 66 = .ok (.if_icmp .le 6, 3) := by decide +kernel
theorem dX7_toss_69 : decode cX7_toss 69 = .ok (.ldc 122, 2) := by decide +kernel
theorem dX7_toss_71 : decode cX7_toss 71 = .ok (.ireturn, 1) := by decide +kernel
theorem dX7_toss_72 : decode cX7_toss 72 = .ok (.aload_n 0, 1) := by decide +kernel
theorem dX7_toss_73 : decode cX7_toss 73 = .ok (.getfield 42, 3) := by decide +kernel
theorem dX7_toss_76 : decode cX7_toss 76 = .ok (.aload_n 0, 1) := by decide +kernel
theorem dX7_toss_77 : decode cX7_toss 77 = .ok (.getfield 25, 3) := by decide +kernel
theorem dX7_toss_80 : decode cX7_toss 80 = .ok (.invokevirtual 173, 3) := by decide +kernel
theorem dX7_toss_83 : decode cX7_toss 83 = .ok (.aload_n 0, 1) := by decide +kernel
theorem dX7_toss_84 : decode cX7_toss 84 = .ok (.getfield 49, 3) := by decide +kernel
theorem dX7_toss_87 : decode cX7_toss 87 = .ok (.iload_n 1, 1) := by decide +kernel
theorem dX7_toss_88 : decode cX7_toss 88 = .ok (.iload_n 2, 1) := by decide +kernel
theorem dX7_toss_89 : decode cX7_toss 89 = .ok (.invokevirtual 176, 3) := by decide +kernel
theorem dX7_toss_92 : decode cX7_toss 92 = .ok (.aload_n 0, 1) := by decide +kernel
theorem dX7_toss_93 : decode cX7_toss 93 = .ok (.iload_n 3, 1) := by decide +kernel
theorem dX7_toss_94 : decode cX7_toss 94 = .ok (.iload 4, 2) := by decide +kernel
theorem dX7_toss_96 : decode cX7_toss 96 = .ok (.invokevirtual 179, 3) := by decide +kernel
theorem dX7_toss_99 : decode cX7_toss 99 = .ok (.ireturn, 1) := by decide +kernel
theorem dX7_run_0 : decode cX7_run 0 = .ok (.aload_n 0, 1) := by decide +kernel
theorem dX7_run_1 : decode cX7_run 1 = .ok (.getfield 25, 3) := by decide +kernel
theorem dX7_run_4 : decode cX7_run 4 = .ok (.iload_n 1, 1) := by decide +kernel
theorem dX7_run_5 : decode cX7_run 5 = .ok (.invokevirtual 182, 3) := by decide +kernel
theorem dX7_run_8 : decode cX7_run 8 = .ok (.astore_n 3, 1) := by decide +kernel
theorem dX7_run_9 : decode cX7_run 9 = .ok (.aload_n 3, 1) := by decide +kernel
theorem dX7_run_10 : decode cX7_run 10 = .ok (.ifnull 10, 3) := by decide +kernel
theorem dX7_run_13 : decode cX7_run 13 = .ok (.iload_n 2, 1) := by decide +kernel
theorem dX7_run_14 : decode cX7_run 14 = .ok (.invokestatic 162, 3) := by decide +kernel
theorem dX7_run_17 : decode cX7_run 17 = .ok (.ifCond .ne 6, 3) := by decide +kernel
theorem dX7_run_20 : decode cX7_run 20 = .ok (.ldc 78, 2) := by decide +kernel
theorem dX7_run_22 : decode cX7_run 22 = .ok (.ireturn, 1) := by decide +kernel
theorem dX7_run_23 : decode cX7_run 23 = .ok (.aload_n 0, 1) := by decide +kernel
theorem dX7_run_24 : decode cX7_run 24 = .ok (.getfield 42, 3) := by decide +kernel
theorem dX7_run_27 : decode cX7_run 27 = .ok (.aload_n 0, 1) := by decide +kernel
theorem dX7_run_28 : decode cX7_run 28 = .ok (.getfield 25, 3) := by decide +kernel
theorem dX7_run_31 : decode cX7_run 31 = .ok (.invokevirtual 173, 3) := by decide +kernel
theorem dX7_run_34 : decode cX7_run 34 = .ok (.aload_n 3, 1) := by decide +kernel
theorem dX7_run_35 : decode cX7_run 35 = .ok (.getfield 186, 3) := by decide +kernel
theorem dX7_run_38 : decode cX7_run 38 = .ok (.iload_n 2, 1) := by decide +kernel
theorem dX7_run_39 : decode cX7_run 39 = .ok (.invokestatic 191, 3) := by decide +kernel
theorem dX7_run_42 : decode cX7_run 42 = .ok (.istore 4, 2) := by decide +kernel
theorem dX7_run_44 : decode cX7_run 44 = .ok (.aload_n 3, 1) := by decide +kernel
theorem dX7_run_45 : decode cX7_run 45 = .ok (.iload_n 2, 1) := by decide +kernel
theorem dX7_run_46 : decode cX7_run 46 = .ok (.putfield 186, 3) := by decide +kernel
theorem dX7_run_49 : decode cX7_run 49 = .ok (.iload 4, 2) := by decide +kernel
theorem dX7_run_51 : decode cX7_run 51 = .ok (.ireturn, 1) := by decide +kernel
theorem dX7_corner_0 : decode cX7_corner 0 = .ok (.aload_n 0, 1) := by decide +kernel
theorem dX7_corner_1 : decode cX7_corner 1 = .ok (.getfield 25, 3) := by decide +kernel
theorem dX7_corner_4 : decode cX7_corner 4 = .ok (.iload_n 1, 1) := by decide +kernel
theorem dX7_corner_5 : decode cX7_corner 5 = .ok (.invokevirtual 182, 3) := by decide +kernel
theorem dX7_corner_8 : decode cX7_corner 8 = .ok (.astore_n 3, 1) := by decide +kernel
theorem dX7_corner_9 : decode cX7_corner 9 = .ok (.aload_n 0, 1) := by decide +kernel
theorem dX7_corner_10 : decode cX7_corner 10 = .ok (.getfield 25, 3) := by decide +kernel
theorem dX7_corner_13 : decode cX7_corner 13 = .ok (.iload_n 2, 1) := by decide +kernel
theorem dX7_corner_14 : decode cX7_corner 14 = .ok (.invokevirtual 182, 3) := by decide +kernel
theorem dX7_corner_17 : decode cX7_corner 17 = .ok (.astore 4, 2) := by decide +kernel
theorem dX7_corner_19 : decode cX7_corner 19 = .ok (.aload_n 3, 1) := by decide +kernel
theorem dX7_corner_20 : decode cX7_corner 20 = .ok (.ifnull 13, 3) := by decide +kernel
theorem dX7_corner_23 : decode cX7_corner 23 = .ok (.aload 4, 2) := by decide +kernel
theorem dX7_corner_25 : decode cX7_corner 25 = .ok (.ifnull 8, 3) := by decide +kernel
theorem dX7_corner_28 : decode cX7_corner 28 = .ok (.iload_n 1, 1) := by decide +kernel
theorem dX7_corner_29 : decode cX7_corner 29 = .ok (.iload_n 2, 1) := by decide +kernel
theorem dX7_corner_30 : decode cX7_corner 30 = .ok (.if_icmp .ne 6, 3) := by decide +kernel
theorem dX7_corner_33 : decode cX7_corner 33 = .ok (.ldc 78, 2) := by decide +kernel
theorem dX7_corner_35 : decode cX7_corner 35 = .ok (.ireturn, 1) := by decide +kernel
theorem dX7_corner_36 : decode cX7_corner 36 = .ok (.aload 4, 2) := by decide +kernel
theorem dX7_corner_38 : decode cX7_corner 38 = .ok (.invokevirtual 194, 3) := by decide +kernel
theorem dX7_corner_41 : decode cX7_corner 41 = .ok (.aload_n 3, 1) := by decide +kernel
theorem dX7_corner_42 : decode cX7_corner 42 = .ok (.invokevirtual 194, 3) := by decide +kernel
theorem dX7_corner_45 : decode cX7_corner 45 = .ok (.if_icmp .lt 6, 3) := by decide +kernel
theorem dX7_corner_48 : decode cX7_corner 48 = .ok (.ldc 161, 2) := by decide +kernel
theorem dX7_corner_50 : decode cX7_corner 50 = .ok (.ireturn, 1) := by decide +kernel
theorem dX7_corner_51 : decode cX7_corner 51 = .ok (.aload 4, 2) := by decide +kernel
theorem dX7_corner_53 : decode cX7_corner 53 = .ok (.getfield 197, 3) := by decide +kernel
theorem dX7_corner_56 : decode cX7_corner 56 = .ok (.iconst 2, 1) := by decide +kernel
theorem dX7_corner_57 : decode cX7_corner 57 = .ok (.idiv, 1) := by decide +kernel
theorem dX7_corner_58 : decode cX7_corner 58 = .ok (.istore 5, 2) := by decide +kernel
theorem dX7_corner_60 : decode cX7_corner 60 = .ok (.aload_n 3, 1) := by decide +kernel
theorem dX7_corner_61 : decode cX7_corner 61 = .ok (.getfield 197, 3) := by decide +kernel
theorem dX7_corner_64 : decode cX7_corner 64 = .ok (.iload 5, 2) := by decide +kernel
theorem dX7_corner_66 : decode cX7_corner 66 = .ok (.iadd, 1) := by decide +kernel
theorem dX7_corner_67 : decode cX7_corner 67 = .ok (.sipush 9999, 3) := by decide +kernel
theorem dX7_corner_70 : decode cX7_corner 70 = .ok (.if_icmp .le 6, 3) := by decide +kernel
theorem dX7_corner_73 : decode cX7_corner 73 = .ok (.ldc 122, 2) := by decide +kernel
theorem dX7_corner_75 : decode cX7_corner 75 = .ok (.ireturn, 1) := by decide +kernel
theorem dX7_corner_76 : decode cX7_corner 76 = .ok (.aload_n 0, 1) := by decide +kernel
theorem dX7_corner_77 : decode cX7_corner 77 = .ok (.getfield 42, 3) := by decide +kernel
theorem dX7_corner_80 : decode cX7_corner 80 = .ok (.aload_n 0, 1) := by decide +kernel
theorem dX7_corner_81 : decode cX7_corner 81 = .ok (.getfield 25, 3) := by decide +kernel
theorem dX7_corner_84 : decode cX7_corner 84 = .ok (.invokevirtual 173, 3) := by decide +kernel
theorem dX7_corner_87 : decode cX7_corner 87 = .ok (.aload 4, 2) := by decide +kernel
theorem dX7_corner_89 : decode cX7_corner 89 = .ok (.dup, 1) := by decide +kernel
theorem dX7_corner_90 : decode cX7_corner 90 = .ok (.getfield 197, 3) := by decide +kernel
theorem dX7_corner_93 : decode cX7_corner 93 = .ok (.iload 5, 2) := by decide +kernel
theorem dX7_corner_95 : decode cX7_corner 95 = .ok (.isub, 1) := by decide +kernel
theorem dX7_corner_96 : decode cX7_corner 96 = .ok (.putfield 197, 3) := by decide +kernel
theorem dX7_corner_99 : decode cX7_corner 99 = .ok (.aload_n 3, 1) := by decide +kernel
theorem dX7_corner_100 : decode cX7_corner 100 = .ok (.dup, 1) := by decide +kernel
theorem dX7_corner_101 : decode cX7_corner 101 = .ok (.getfield 197, 3) := by decide +kernel
theorem dX7_corner_104 : decode cX7_corner 104 = .ok (.iload 5, 2) := by decide +kernel
theorem dX7_corner_106 : decode cX7_corner 106 = .ok (.iadd, 1) := by decide +kernel
theorem dX7_corner_107 : decode cX7_corner 107 = .ok (.putfield 197, 3) := by decide +kernel
theorem dX7_corner_110 : decode cX7_corner 110 = .ok (.iload 5, 2) := by decide +kernel
theorem dX7_corner_112 : decode cX7_corner 112 = .ok (.ireturn, 1) := by decide +kernel
theorem dX7_undo_0 : decode cX7_undo 0 = .ok (.aload_n 0, 1) := by decide +kernel
theorem dX7_undo_1 : decode cX7_undo 1 = .ok (.getfield 42, 3) := by decide +kernel
theorem dX7_undo_4 : decode cX7_undo 4 = .ok (.aload_n 0, 1) := by decide +kernel
theorem dX7_undo_5 : decode cX7_undo 5 = .ok (.getfield 25, 3) := by decide +kernel
theorem dX7_undo_8 : decode cX7_undo 8 = .ok (.invokevirtual 200, 3) := by decide +kernel
theorem dX7_undo_11 : decode cX7_undo 11 = .ok (.ifCond .eq 13, 3) := by decide +kernel
theorem dX7_undo_14 : decode cX7_undo 14 = .ok (.aload_n 0, 1) := by decide +kernel
theorem dX7_undo_15 : decode cX7_undo 15 = .ok (.getfield 42, 3) := by decide +kernel
theorem dX7_undo_18 : decode cX7_undo 18 = .ok (.getfield 155, 3) := by decide +kernel
theorem dX7_undo_21 : decode cX7_undo 21 = .ok (.goto 5, 3) := by decide +kernel
theorem dX7_undo_24 : decode cX7_undo 24 = .ok (.ldc 161, 2) := by decide +kernel
theorem dX7_undo_26 : decode cX7_undo 26 = .ok (.ireturn, 1) := by decide +kernel
theorem dX7_child_0 : decode cX7_child 0 = .ok (.aload_n 0, 1) := by decide +kernel
theorem dX7_child_1 : decode cX7_child 1 = .ok (.getfield 25, 3) := by decide +kernel
theorem dX7_child_4 : decode cX7_child 4 = .ok (.iload_n 1, 1) := by decide +kernel
theorem dX7_child_5 : decode cX7_child 5 = .ok (.invokevirtual 182, 3) := by decide +kernel
theorem dX7_child_8 : decode cX7_child 8 = .ok (.astore_n 3, 1) := by decide +kernel
theorem dX7_child_9 : decode cX7_child 9 = .ok (.aload_n 3, 1) := by decide +kernel
theorem dX7_child_10 : decode cX7_child 10 = .ok (.ifnonnull 6, 3) := by decide +kernel
theorem dX7_child_13 : decode cX7_child 13 = .ok (.ldc 78, 2) := by decide +kernel
theorem dX7_child_15 : decode cX7_child 15 = .ok (.ireturn, 1) := by decide +kernel
theorem dX7_child_16 : decode cX7_child 16 = .ok (.iload_n 2, 1) := by decide +kernel
theorem dX7_child_17 : decode cX7_child 17 = .ok (.tableswitch 42 0 2 #[27, 32, 37], 27) := by decide +kernel
theorem dX7_child_44 : decode cX7_child 44 = .ok (.aload_n 3, 1) := by decide +kernel
theorem dX7_child_45 : decode cX7_child 45 = .ok (.getfield 186, 3) := by decide +kernel
theorem dX7_child_48 : decode cX7_child 48 = .ok (.ireturn, 1) := by decide +kernel
theorem dX7_child_49 : decode cX7_child 49 = .ok (.aload_n 3, 1) := by decide +kernel
theorem dX7_child_50 : decode cX7_child 50 = .ok (.getfield 203, 3) := by decide +kernel
theorem dX7_child_53 : decode cX7_child 53 = .ok (.ireturn, 1) := by decide +kernel
theorem dX7_child_54 : decode cX7_child 54 = .ok (.aload_n 3, 1) := by decide +kernel
theorem dX7_child_55 : decode cX7_child 55 = .ok (.getfield 197, 3) := by decide +kernel
theorem dX7_child_58 : decode cX7_child 58 = .ok (.ireturn, 1) := by decide +kernel
theorem dX7_child_59 : decode cX7_child 59 = .ok (.ldc 78, 2) := by decide +kernel
theorem dX7_child_61 : decode cX7_child 61 = .ok (.ireturn, 1) := by decide +kernel
theorem dX7_cell_0 : decode cX7_cell 0 = .ok (.aload_n 0, 1) := by decide +kernel
theorem dX7_cell_1 : decode cX7_cell 1 = .ok (.getfield 25, 3) := by decide +kernel
theorem dX7_cell_4 : decode cX7_cell 4 = .ok (.getfield 147, 3) := by decide +kernel
theorem dX7_cell_7 : decode cX7_cell 7 = .ok (.ifCond .ne 6, 3) := by decide +kernel
theorem dX7_cell_10 : decode cX7_cell 10 = .ok (.ldc 161, 2) := by decide +kernel
theorem dX7_cell_12 : decode cX7_cell 12 = .ok (.ireturn, 1) := by decide +kernel
theorem dX7_cell_13 : decode cX7_cell 13 = .ok (.iload_n 1, 1) := by decide +kernel
theorem dX7_cell_14 : decode cX7_cell 14 = .ok (.invokestatic 162, 3) := by decide +kernel
theorem dX7_cell_17 : decode cX7_cell 17 = .ok (.ifCond .eq 10, 3) := by decide +kernel
theorem dX7_cell_20 : decode cX7_cell 20 = .ok (.iload_n 2, 1) := by decide +kernel
theorem dX7_cell_21 : decode cX7_cell 21 = .ok (.invokestatic 206, 3) := by decide +kernel
theorem dX7_cell_24 : decode cX7_cell 24 = .ok (.ifCond .ne 6, 3) := by decide +kernel
theorem dX7_cell_27 : decode cX7_cell 27 = .ok (.ldc 78, 2) := by decide +kernel
theorem dX7_cell_29 : decode cX7_cell 29 = .ok (.ireturn, 1) := by decide +kernel
theorem dX7_cell_30 : decode cX7_cell 30 = .ok (.iload_n 2, 1) := by decide +kernel
theorem dX7_cell_31 : decode cX7_cell 31 = .ok (.iconst 1, 1) := by decide +kernel
theorem dX7_cell_32 : decode cX7_cell 32 = .ok (.if_icmp .ne 20, 3) := by decide +kernel
theorem dX7_cell_35 : decode cX7_cell 35 = .ok (.aload_n 0, 1) := by decide +kernel
theorem dX7_cell_36 : decode cX7_cell 36 = .ok (.getfield 25, 3) := by decide +kernel
theorem dX7_cell_39 : decode cX7_cell 39 = .ok (.iload_n 1, 1) := by decide +kernel
theorem dX7_cell_40 : decode cX7_cell 40 = .ok (.invokevirtual 209, 3) := by decide +kernel
theorem dX7_cell_43 : decode cX7_cell 43 = .ok (.ifCond .eq 7, 3) := by decide +kernel
theorem dX7_cell_46 : decode cX7_cell 46 = .ok (.iconst 0, 1) := by decide +kernel
theorem dX7_cell_47 : decode cX7_cell 47 = .ok (.goto 4, 3) := by decide +kernel
theorem dX7_cell_50 : decode cX7_cell 50 = .ok (.iconst 1, 1) := by decide +kernel
theorem dX7_cell_51 : decode cX7_cell 51 = .ok (.ireturn, 1) := by decide +kernel
theorem dX7_cell_52 : decode cX7_cell 52 = .ok (.aload_n 0, 1) := by decide +kernel
theorem dX7_cell_53 : decode cX7_cell 53 = .ok (.getfield 25, 3) := by decide +kernel
theorem dX7_cell_56 : decode cX7_cell 56 = .ok (.iload_n 1, 1) := by decide +kernel
theorem dX7_cell_57 : decode cX7_cell 57 = .ok (.invokevirtual 212, 3) := by decide +kernel
theorem dX7_cell_60 : decode cX7_cell 60 = .ok (.istore_n 3, 1) := by decide +kernel
theorem dX7_cell_61 : decode cX7_cell 61 = .ok (.iload_n 3, 1) := by decide +kernel
theorem dX7_cell_62 : decode cX7_cell 62 = .ok (.iconst (-1), 1) := by decide +kernel
theorem dX7_cell_63 : decode cX7_cell 63 = .ok (.if_icmp .ne 8, 3) := by decide +kernel
theorem dX7_cell_66 : decode cX7_cell 66 = .ok (.ldc 215, 2) := by decide +kernel
theorem dX7_cell_68 : decode cX7_cell 68 = .ok (.goto 4, 3) := by decide +kernel
theorem dX7_cell_71 : decode cX7_cell 71 = .ok (.iload_n 3, 1) := by decide +kernel
theorem dX7_cell_72 : decode cX7_cell 72 = .ok (.ireturn, 1) := by decide +kernel
theorem dX7_power_0 : decode cX7_power 0 = .ok (.aload_n 0, 1) := by decide +kernel
theorem dX7_power_1 : decode cX7_power 1 = .ok (.getfield 25, 3) := by decide +kernel
theorem dX7_power_4 : decode cX7_power 4 = .ok (.iload_n 1, 1) := by decide +kernel
theorem dX7_power_5 : decode cX7_power 5 = .ok (.invokevirtual 182, 3) := by decide +kernel
theorem dX7_power_8 : decode cX7_power 8 = .ok (.astore_n 3, 1) := by decide +kernel
theorem dX7_power_9 : decode cX7_power 9 = .ok (.aload_n 3, 1) := by decide +kernel
theorem dX7_power_10 : decode cX7_power 10 = .ok (.ifnull 10, 3) := by decide +kernel
theorem dX7_power_13 : decode cX7_power 13 = .ok (.iload_n 2, 1) := by decide +kernel
theorem dX7_power_14 : decode cX7_power 14 = .ok (.invokestatic 162, 3) := by decide +kernel
theorem dX7_power_17 : decode cX7_power 17 = .ok (.ifCond .ne 6, 3) := by decide +kernel
theorem dX7_power_20 : decode cX7_power 20 = .ok (.ldc 78, 2) := by decide +kernel
theorem dX7_power_22 : decode cX7_power 22 = .ok (.ireturn, 1) := by decide +kernel
theorem dX7_power_23 : decode cX7_power 23 = .ok (.aload_n 3, 1) := by decide +kernel
theorem dX7_power_24 : decode cX7_power 24 = .ok (.aload_n 3, 1) := by decide +kernel
theorem dX7_power_25 : decode cX7_power 25 = .ok (.getfield 186, 3) := by decide +kernel
theorem dX7_power_28 : decode cX7_power 28 = .ok (.iload_n 2, 1) := by decide +kernel
theorem dX7_power_29 : decode cX7_power 29 = .ok (.invokestatic 191, 3) := by decide +kernel
theorem dX7_power_32 : decode cX7_power 32 = .ok (.aload_n 0, 1) := by decide +kernel
theorem dX7_power_33 : decode cX7_power 33 = .ok (.getfield 25, 3) := by decide +kernel
theorem dX7_power_36 : decode cX7_power 36 = .ok (.getfield 216, 3) := by decide +kernel
theorem dX7_power_39 : decode cX7_power 39 = .ok (.invokevirtual 219, 3) := by decide +kernel
theorem dX7_power_42 : decode cX7_power 42 = .ok (.ireturn, 1) := by decide +kernel
theorem dX7_mean_0 : decode cX7_mean 0 = .ok (.aload_n 0, 1) := by decide +kernel
theorem dX7_mean_1 : decode cX7_mean 1 = .ok (.getfield 25, 3) := by decide +kernel
theorem dX7_mean_4 : decode cX7_mean 4 = .ok (.iload_n 1, 1) := by decide +kernel
theorem dX7_mean_5 : decode cX7_mean 5 = .ok (.invokevirtual 182, 3) := by decide +kernel
theorem dX7_mean_8 : decode cX7_mean 8 = .ok (.ifnull 25, 3) := by decide +kernel
theorem dX7_mean_11 : decode cX7_mean 11 = .ok (.iload_n 2, 1) := by decide +kernel
theorem dX7_mean_12 : decode cX7_mean 12 = .ok (.invokestatic 162, 3) := by decide +kernel
theorem dX7_mean_15 : decode cX7_mean 15 = .ok (.ifCond .eq 18, 3) := by decide +kernel
theorem dX7_mean_18 : decode cX7_mean 18 = .ok (.iload_n 3, 1) := by decide +kernel
theorem dX7_mean_19 : decode cX7_mean 19 = .ok (.invokestatic 165, 3) := by decide +kernel
theorem dX7_mean_22 : decode cX7_mean 22 = .ok (.ifCond .eq 11, 3) := by decide +kernel
theorem dX7_mean_25 : decode cX7_mean 25 = .ok (.iload 4, 2) := by decide +kernel
theorem dX7_mean_27 : decode cX7_mean 27 = .ok (.invokestatic 206, 3) := by decide +kernel
theorem dX7_mean_30 : decode cX7_mean 30 = .ok (.ifCond .ne 6, 3) := by decide +kernel
theorem dX7_mean_33 : decode cX7_mean 33 = .ok (.ldc 78, 2) := by decide +kernel
theorem dX7_mean_35 : decode cX7_mean 35 = .ok (.ireturn, 1) := by decide +kernel
theorem dX7_mean_36 : decode cX7_mean 36 = .ok (.aload_n 0, 1) := by decide +kernel
theorem dX7_mean_37 : decode cX7_mean 37 = .ok (.getfield 49, 3) := by decide +kernel
theorem dX7_mean_40 : decode cX7_mean 40 = .ok (.iload_n 2, 1) := by decide +kernel
theorem dX7_mean_41 : decode cX7_mean 41 = .ok (.iload_n 3, 1) := by decide +kernel
theorem dX7_mean_42 : decode cX7_mean 42 = .ok (.invokevirtual 176, 3) := by decide +kernel
theorem dX7_mean_45 : decode cX7_mean 45 = .ok (.aload_n 0, 1) := by decide +kernel
theorem dX7_mean_46 : decode cX7_mean 46 = .ok (.getfield 49, 3) := by decide +kernel
theorem dX7_mean_49 : decode cX7_mean 49 = .ok (.aload_n 0, 1) := by decide +kernel
theorem dX7_mean_50 : decode cX7_mean 50 = .ok (.getfield 25, 3) := by decide +kernel
theorem dX7_mean_53 : decode cX7_mean 53 = .ok (.iload_n 1, 1) := by decide +kernel
theorem dX7_mean_54 : decode cX7_mean 54 = .ok (.invokevirtual 222, 3) := by decide +kernel
theorem dX7_mean_57 : decode cX7_mean 57 = .ok (.aload_n 0, 1) := by decide +kernel
theorem dX7_mean_58 : decode cX7_mean 58 = .ok (.getfield 49, 3) := by decide +kernel
theorem dX7_mean_61 : decode cX7_mean 61 = .ok (.getfield 226, 3) := by decide +kernel
theorem dX7_mean_64 : decode cX7_mean 64 = .ok (.iload 4, 2) := by decide +kernel
theorem dX7_mean_66 : decode cX7_mean 66 = .ok (.invokestatic 227, 3) := by decide +kernel
theorem dX7_mean_69 : decode cX7_mean 69 = .ok (.ireturn, 1) := by decide +kernel
theorem dX7_some_0 : decode cX7_some 0 = .ok (.aload_n 0, 1) := by decide +kernel
theorem dX7_some_1 : decode cX7_some 1 = .ok (.getfield 25, 3) := by decide +kernel
theorem dX7_some_4 : decode cX7_some 4 = .ok (.iload_n 1, 1) := by decide +kernel
theorem dX7_some_5 : decode cX7_some 5 = .ok (.invokevirtual 182, 3) := by decide +kernel
theorem dX7_some_8 : decode cX7_some 8 = .ok (.ifnull 37, 3) := by decide +kernel
theorem dX7_some_11 : decode cX7_some 11 = .ok (.iload_n 2, 1) := by decide +kernel
theorem dX7_some_12 : decode cX7_some 12 = .ok (.invokestatic 162, 3) := by decide +kernel
theorem dX7_some_15 : decode cX7_some 15 = .ok (.ifCond .eq 30, 3) := by decide +kernel
theorem dX7_some_18 : decode cX7_some 18 = .ok (.iload_n 3, 1) := by decide +kernel
theorem dX7_some_19 : decode cX7_some 19 = .ok (.invokestatic 165, 3) := by decide +kernel
theorem dX7_some_22 : decode cX7_some 22 = .ok (.ifCond .eq 23, 3) := by decide +kernel
theorem dX7_some_25 : decode cX7_some 25 = .ok (.iload 4, 2) := by decide +kernel
theorem dX7_some_27 : decode cX7_some 27 = .ok (.ifCond .lt 18, 3) := by decide +kernel
theorem dX7_some_30 : decode cX7_some 30 = .ok (.iload 4, 2) := by decide +kernel
theorem dX7_some_32 : decode cX7_some 32 = .ok (.bipush 6, 2) := by decide +kernel
theorem dX7_some_34 : decode cX7_some 34 = .ok (.if_icmp .gt 11, 3) := by decide +kernel
theorem dX7_some_37 : decode cX7_some 37 = .ok (.iload 5, 2) := by decide +kernel
theorem dX7_some_39 : decode cX7_some 39 = .ok (.invokestatic 206, 3) := by decide +kernel
theorem dX7_some_42 : decode cX7_some 42 = .ok (.ifCond .ne 6, 3) := by decide +kernel
theorem dX7_some_45 : decode cX7_some 45 = .ok (.ldc 78, 2) := by decide +kernel
theorem dX7_some_47 : decode cX7_some 47 = .ok (.ireturn, 1) := by decide +kernel
theorem dX7_some_48 : decode cX7_some 48 = .ok (.aload_n 0, 1) := by decide +kernel
theorem dX7_some_49 : decode cX7_some 49 = .ok (.getfield 49, 3) := by decide +kernel
theorem dX7_some_52 : decode cX7_some 52 = .ok (.iload_n 2, 1) := by decide +kernel
theorem dX7_some_53 : decode cX7_some 53 = .ok (.iload_n 3, 1) := by decide +kernel
theorem dX7_some_54 : decode cX7_some 54 = .ok (.invokevirtual 176, 3) := by decide +kernel
theorem dX7_some_57 : decode cX7_some 57 = .ok (.aload_n 0, 1) := by decide +kernel
theorem dX7_some_58 : decode cX7_some 58 = .ok (.getfield 49, 3) := by decide +kernel
theorem dX7_some_61 : decode cX7_some 61 = .ok (.getfield 226, 3) := by decide +kernel
theorem dX7_some_64 : decode cX7_some 64 = .ok (.istore 6, 2) := by decide +kernel
theorem dX7_some_66 : decode cX7_some 66 = .ok (.iload 6, 2) := by decide +kernel
theorem dX7_some_68 : decode cX7_some 68 = .ok (.aload_n 0, 1) := by decide +kernel
theorem dX7_some_69 : decode cX7_some 69 = .ok (.getfield 49, 3) := by decide +kernel
theorem dX7_some_72 : decode cX7_some 72 = .ok (.aload_n 0, 1) := by decide +kernel
theorem dX7_some_73 : decode cX7_some 73 = .ok (.getfield 25, 3) := by decide +kernel
theorem dX7_some_76 : decode cX7_some 76 = .ok (.iload_n 1, 1) := by decide +kernel
theorem dX7_some_77 : decode cX7_some 77 = .ok (.invokevirtual 222, 3) := by decide +kernel
theorem dX7_some_80 : decode cX7_some 80 = .ok (.isub, 1) := by decide +kernel
theorem dX7_some_81 : decode cX7_some 81 = .ok (.istore 7, 2) := by decide +kernel
theorem dX7_some_83 : decode cX7_some 83 = .ok (.iconst 1, 1) := by decide +kernel
theorem dX7_some_84 : decode cX7_some 84 = .ok (.istore 8, 2) := by decide +kernel
theorem dX7_some_86 : decode cX7_some 86 = .ok (.iconst 1, 1) := by decide +kernel
theorem dX7_some_87 : decode cX7_some 87 = .ok (.istore 9, 2) := by decide +kernel
theorem dX7_some_89 : decode cX7_some 89 = .ok (.iconst 0, 1) := by decide +kernel
theorem dX7_some_90 : decode cX7_some 90 = .ok (.istore 10, 2) := by decide +kernel
theorem dX7_some_92 : decode cX7_some 92 = .ok (.iload 10, 2) := by decide +kernel
theorem dX7_some_94 : decode cX7_some 94 = .ok (.iload 4, 2) := by decide +kernel
theorem dX7_some_96 : decode cX7_some 96 = .ok (.if_icmp .ge 23, 3) := by decide +kernel
theorem dX7_some_99 : decode cX7_some 99 = .ok (.iload 8, 2) := by decide +kernel
theorem dX7_some_101 : decode cX7_some 101 = .ok (.iload 6, 2) := by decide +kernel
theorem dX7_some_103 : decode cX7_some 103 = .ok (.imul, 1) := by decide +kernel
theorem dX7_some_104 : decode cX7_some 104 = .ok (.istore 8, 2) := by decide +kernel
theorem dX7_some_106 : decode cX7_some 106 = .ok (.iload 9, 2) := by decide +kernel
theorem dX7_some_108 : decode cX7_some 108 = .ok (.iload 7, 2) := by decide +kernel
theorem dX7_some_110 : decode cX7_some 110 = .ok (.imul, 1) := by decide +kernel
theorem dX7_some_111 : decode cX7_some 111 = .ok (.istore 9, 2) := by decide +kernel
theorem dX7_some_113 : decode cX7_some 113 = .ok (.iinc 10 1, 3) := by decide +kernel
theorem dX7_some_116 : decode cX7_some 116 = .ok (.goto (-24), 3) := by decide +kernel
theorem dX7_some_119 : decode cX7_some 119 = .ok (.iload 8, 2) := by decide +kernel
theorem dX7_some_121 : decode cX7_some 121 = .ok (.iload 9, 2) := by decide +kernel
theorem dX7_some_123 : decode cX7_some 123 = .ok (.isub, 1) := by decide +kernel
theorem dX7_some_124 : decode cX7_some 124 = .ok (.iload 8, 2) := by decide +kernel
theorem dX7_some_126 : decode cX7_some 126 = .ok (.iload 5, 2) := by decide +kernel
theorem dX7_some_128 : decode cX7_some 128 = .ok (.invokestatic 227, 3) := by decide +kernel
theorem dX7_some_131 : decode cX7_some 131 = .ok (.ireturn, 1) := by decide +kernel
theorem dX7_stand_0 : decode cX7_stand 0 = .ok (.aload_n 0, 1) := by decide +kernel
theorem dX7_stand_1 : decode cX7_stand 1 = .ok (.getfield 25, 3) := by decide +kernel
theorem dX7_stand_4 : decode cX7_stand 4 = .ok (.iload_n 1, 1) := by decide +kernel
theorem dX7_stand_5 : decode cX7_stand 5 = .ok (.invokevirtual 182, 3) := by decide +kernel
theorem dX7_stand_8 : decode cX7_stand 8 = .ok (.ifnull 17, 3) := by decide +kernel
theorem dX7_stand_11 : decode cX7_stand 11 = .ok (.iload_n 2, 1) := by decide +kernel
theorem dX7_stand_12 : decode cX7_stand 12 = .ok (.invokestatic 162, 3) := by decide +kernel
theorem dX7_stand_15 : decode cX7_stand 15 = .ok (.ifCond .eq 10, 3) := by decide +kernel
theorem dX7_stand_18 : decode cX7_stand 18 = .ok (.iload_n 3, 1) := by decide +kernel
theorem dX7_stand_19 : decode cX7_stand 19 = .ok (.invokestatic 165, 3) := by decide +kernel
theorem dX7_stand_22 : decode cX7_stand 22 = .ok (.ifCond .ne 6, 3) := by decide +kernel
theorem dX7_stand_25 : decode cX7_stand 25 = .ok (.ldc 78, 2) := by decide +kernel
theorem dX7_stand_27 : decode cX7_stand 27 = .ok (.ireturn, 1) := by decide +kernel
theorem dX7_stand_28 : decode cX7_stand 28 = .ok (.aload_n 0, 1) := by decide +kernel
theorem dX7_stand_29 : decode cX7_stand 29 = .ok (.getfield 49, 3) := by decide +kernel
theorem dX7_stand_32 : decode cX7_stand 32 = .ok (.iload_n 2, 1) := by decide +kernel
theorem dX7_stand_33 : decode cX7_stand 33 = .ok (.iload_n 3, 1) := by decide +kernel
theorem dX7_stand_34 : decode cX7_stand 34 = .ok (.invokevirtual 176, 3) := by decide +kernel
theorem dX7_stand_37 : decode cX7_stand 37 = .ok (.aload_n 0, 1) := by decide +kernel
theorem dX7_stand_38 : decode cX7_stand 38 = .ok (.aload_n 0, 1) := by decide +kernel
theorem dX7_stand_39 : decode cX7_stand 39 = .ok (.getfield 25, 3) := by decide +kernel
theorem dX7_stand_42 : decode cX7_stand 42 = .ok (.iload_n 1, 1) := by decide +kernel
theorem dX7_stand_43 : decode cX7_stand 43 = .ok (.invokevirtual 231, 3) := by decide +kernel
theorem dX7_stand_46 : decode cX7_stand 46 = .ok (.ireturn, 1) := by decide +kernel
theorem dX7_brothers_0 : decode cX7_brothers 0 = .ok (.aload_n 0, 1) := by decide +kernel
theorem dX7_brothers_1 : decode cX7_brothers 1 = .ok (.getfield 25, 3) := by decide +kernel
theorem dX7_brothers_4 : decode cX7_brothers 4 = .ok (.iload_n 1, 1) := by decide +kernel
theorem dX7_brothers_5 : decode cX7_brothers 5 = .ok (.invokevirtual 182, 3) := by decide +kernel
theorem dX7_brothers_8 : decode cX7_brothers 8 = .ok (.ifnull 23, 3) := by decide +kernel
theorem dX7_brothers_11 : decode cX7_brothers 11 = .ok (.aload_n 0, 1) := by decide +kernel
theorem dX7_brothers_12 : decode cX7_brothers 12 = .ok (.getfield 25, 3) := by decide +kernel
theorem dX7_brothers_15 : decode cX7_brothers 15 = .ok (.iload_n 2, 1) := by decide +kernel
theorem dX7_brothers_16 : decode cX7_brothers 16 = .ok (.invokevirtual 182, 3) := by decide +kernel
theorem dX7_brothers_19 : decode cX7_brothers 19 = .ok (.ifnull 12, 3) := by decide +kernel
theorem dX7_brothers_22 : decode cX7_brothers 22 = .ok (.iload_n 1, 1) := by decide +kernel
theorem dX7_brothers_23 : decode cX7_brothers 23 = .ok (.iload_n 2, 1) := by decide +kernel
theorem dX7_brothers_24 : decode cX7_brothers 24 = .ok (.if_icmp .eq 7, 3) := by decide +kernel
theorem dX7_brothers_27 : decode cX7_brothers 27 = .ok (.iconst 1, 1) := by decide +kernel
theorem dX7_brothers_28 : decode cX7_brothers 28 = .ok (.goto 4, 3) := by decide +kernel
theorem dX7_brothers_31 : decode cX7_brothers 31 = .ok (.iconst 0, 1) := by decide +kernel
theorem dX7_brothers_32 : decode cX7_brothers 32 = .ok (.istore 6, 2) := by decide +kernel
theorem dX7_brothers_34 : decode cX7_brothers 34 = .ok (.iload 6, 2) := by decide +kernel
theorem dX7_brothers_36 : decode cX7_brothers 36 = .ok (.ifCond .eq 26, 3) := by decide +kernel
theorem dX7_brothers_39 : decode cX7_brothers 39 = .ok (.iload_n 3, 1) := by decide +kernel
theorem dX7_brothers_40 : decode cX7_brothers 40 = .ok (.invokestatic 162, 3) := by decide +kernel
theorem dX7_brothers_43 : decode cX7_brothers 43 = .ok (.ifCond .eq 19, 3) := by decide +kernel
theorem dX7_brothers_46 : decode cX7_brothers 46 = .ok (.iload 4, 2) := by decide +kernel
theorem dX7_brothers_48 : decode cX7_brothers 48 = .ok (.invokestatic 165, 3) := by decide +kernel
theorem dX7_brothers_51 : decode cX7_brothers 51 = .ok (.ifCond .eq 11, 3) := by decide +kernel
theorem dX7_brothers_54 : decode cX7_brothers 54 = .ok (.iload 5, 2) := by decide +kernel
theorem dX7_brothers_56 : decode cX7_brothers 56 = .ok (.invokestatic 206, 3) := by decide +kernel
theorem dX7_brothers_59 : decode cX7_brothers 59 = .ok (.ifCond .ne 6, 3) := by decide +kernel
theorem dX7_brothers_62 : decode cX7_brothers 62 = .ok (.ldc 78, 2) := by decide +kernel
theorem dX7_brothers_64 : decode cX7_brothers 64 = .ok (.ireturn, 1) := by decide +kernel
theorem dX7_brothers_65 : decode cX7_brothers 65 = .ok (.aload_n 0, 1) := by decide +kernel
theorem dX7_brothers_66 : decode cX7_brothers 66 = .ok (.getfield 49, 3) := by decide +kernel
theorem dX7_brothers_69 : decode cX7_brothers 69 = .ok (.iload_n 3, 1) := by decide +kernel
theorem dX7_brothers_70 : decode cX7_brothers 70 = .ok (.iload 4, 2) := by decide +kernel
theorem dX7_brothers_72 : decode cX7_brothers 72 = .ok (.invokevirtual 176, 3) := by decide +kernel
theorem dX7_brothers_75 : decode cX7_brothers 75 = .ok (.aload_n 0, 1) := by decide +kernel
theorem dX7_brothers_76 : decode cX7_brothers 76 = .ok (.getfield 49, 3) := by decide +kernel
theorem dX7_brothers_79 : decode cX7_brothers 79 = .ok (.aload_n 0, 1) := by decide +kernel
theorem dX7_brothers_80 : decode cX7_brothers 80 = .ok (.getfield 25, 3) := by decide +kernel
theorem dX7_brothers_83 : decode cX7_brothers 83 = .ok (.iload_n 1, 1) := by decide +kernel
theorem dX7_brothers_84 : decode cX7_brothers 84 = .ok (.iload_n 2, 1) := by decide +kernel
theorem dX7_brothers_85 : decode cX7_brothers 85 = .ok (.aload_n 0, 1) := by decide +kernel
theorem dX7_brothers_86 : decode cX7_brothers 86 = .ok (.getfield 53, 3) := by decide +kernel
theorem dX7_brothers_89 : decode cX7_brothers 89 = .ok (.invokevirtual 234, 3) := by decide +kernel
theorem dX7_brothers_92 : decode cX7_brothers 92 = .ok (.aload_n 0, 1) := by decide +kernel
theorem dX7_brothers_93 : decode cX7_brothers 93 = .ok (.getfield 49, 3) := by decide +kernel
theorem dX7_brothers_96 : decode cX7_brothers 96 = .ok (.aload_n 0, 1) := by decide +kernel
theorem dX7_brothers_97 : decode cX7_brothers 97 = .ok (.getfield 25, 3) := by decide +kernel
theorem dX7_brothers_100 : decode cX7_brothers 100 = .ok (.iload_n 2, 1) := by decide +kernel
theorem dX7_brothers_101 : decode cX7_brothers 101 = .ok (.iload_n 1, 1) := by decide +kernel
theorem dX7_brothers_102 : decode cX7_brothers 102 = .ok (.aload_n 0, 1) := by decide +kernel
theorem dX7_brothers_103 : decode cX7_brothers 103 = .ok (.getfield 57, 3) := by decide +kernel
theorem dX7_brothers_106 : decode cX7_brothers 106 = .ok (.invokevirtual 234, 3) := by decide +kernel
theorem dX7_brothers_109 : decode cX7_brothers 109 = .ok (.aload_n 0, 1) := by decide +kernel
theorem dX7_brothers_110 : decode cX7_brothers 110 = .ok (.invokevirtual 238, 3) := by decide +kernel
theorem dX7_brothers_113 : decode cX7_brothers 113 = .ok (.istore 7, 2) := by decide +kernel
theorem dX7_brothers_115 : decode cX7_brothers 115 = .ok (.iload 5, 2) := by decide +kernel
theorem dX7_brothers_117 : decode cX7_brothers 117 = .ok (.ifCond .ne 11, 3) := by decide +kernel
theorem dX7_brothers_120 : decode cX7_brothers 120 = .ok (.iload 7, 2) := by decide +kernel
theorem dX7_brothers_122 : decode cX7_brothers 122 = .ok (.bipush 30, 2) := by decide +kernel
theorem dX7_brothers_124 : decode cX7_brothers 124 = .ok (.idiv, 1) := by decide +kernel
theorem dX7_brothers_125 : decode cX7_brothers 125 = .ok (.goto 8, 3) := by decide +kernel
theorem dX7_brothers_128 : decode cX7_brothers 128 = .ok (.iload 7, 2) := by decide +kernel
theorem dX7_brothers_130 : decode cX7_brothers 130 = .ok (.bipush 30, 2) := by decide +kernel
theorem dX7_brothers_132 : decode cX7_brothers 132 = .ok (.irem, 1) := by decide +kernel
theorem dX7_brothers_133 : decode cX7_brothers 133 = .ok (.ireturn, 1) := by decide +kernel
theorem dX7_rounds_0 : decode cX7_rounds 0 = .ok (.aload_n 0, 1) := by decide +kernel
theorem dX7_rounds_1 : decode cX7_rounds 1 = .ok (.getfield 25, 3) := by decide +kernel
theorem dX7_rounds_4 : decode cX7_rounds 4 = .ok (.getfield 147, 3) := by decide +kernel
theorem dX7_rounds_7 : decode cX7_rounds 7 = .ok (.ifCond .ne 6, 3) := by decide +kernel
theorem dX7_rounds_10 : decode cX7_rounds 10 = .ok (.ldc 161, 2) := by decide +kernel
theorem dX7_rounds_12 : decode cX7_rounds 12 = .ok (.ireturn, 1) := by decide +kernel
theorem dX7_rounds_13 : decode cX7_rounds 13 = .ok (.iload_n 1, 1) := by decide +kernel
theorem dX7_rounds_14 : decode cX7_rounds 14 = .ok (.invokestatic 162, 3) := by decide +kernel
theorem dX7_rounds_17 : decode cX7_rounds 17 = .ok (.ifCond .eq 26, 3) := by decide +kernel
theorem dX7_rounds_20 : decode cX7_rounds 20 = .ok (.iload_n 2, 1) := by decide +kernel
theorem dX7_rounds_21 : decode cX7_rounds 21 = .ok (.invokestatic 165, 3) := by decide +kernel
theorem dX7_rounds_24 : decode cX7_rounds 24 = .ok (.ifCond .eq 19, 3) := by decide +kernel
theorem dX7_rounds_27 : decode cX7_rounds 27 = .ok (.iload_n 3, 1) := by decide +kernel
theorem dX7_rounds_28 : decode cX7_rounds 28 = .ok (.iconst (-1), 1) := by decide +kernel
theorem dX7_rounds_29 : decode cX7_rounds 29 = .ok (.if_icmp .eq 17, 3) := by decide +kernel
theorem dX7_rounds_32 : decode cX7_rounds 32 = .ok (.aload_n 0, 1) := by decide +kernel
theorem dX7_rounds_33 : decode cX7_rounds 33 = .ok (.getfield 25, 3) := by decide +kernel
theorem dX7_rounds_36 : decode cX7_rounds 36 = .ok (.iload_n 3, 1) := by decide +kernel
theorem dX7_rounds_37 : decode cX7_rounds 37 = .ok (.invokevirtual 182, 3) := by decide +kernel
theorem dX7_rounds_40 : decode cX7_rounds 40 = .ok (.ifnonnull 6, 3) := by decide +kernel
theorem dX7_rounds_43 : decode cX7_rounds 43 = .ok (.ldc 78, 2) := by decide +kernel
theorem dX7_rounds_45 : decode cX7_rounds 45 = .ok (.ireturn, 1) := by decide +kernel
theorem dX7_rounds_46 : decode cX7_rounds 46 = .ok (.aload_n 0, 1) := by decide +kernel
theorem dX7_rounds_47 : decode cX7_rounds 47 = .ok (.getfield 32, 3) := by decide +kernel
theorem dX7_rounds_50 : decode cX7_rounds 50 = .ok (.aload_n 0, 1) := by decide +kernel
theorem dX7_rounds_51 : decode cX7_rounds 51 = .ok (.getfield 25, 3) := by decide +kernel
theorem dX7_rounds_54 : decode cX7_rounds 54 = .ok (.invokevirtual 151, 3) := by decide +kernel
theorem dX7_rounds_57 : decode cX7_rounds 57 = .ok (.aload_n 0, 1) := by decide +kernel
theorem dX7_rounds_58 : decode cX7_rounds 58 = .ok (.getfield 49, 3) := by decide +kernel
theorem dX7_rounds_61 : decode cX7_rounds 61 = .ok (.iload_n 1, 1) := by decide +kernel
theorem dX7_rounds_62 : decode cX7_rounds 62 = .ok (.iload_n 2, 1) := by decide +kernel
theorem dX7_rounds_63 : decode cX7_rounds 63 = .ok (.invokevirtual 176, 3) := by decide +kernel
theorem dX7_rounds_66 : decode cX7_rounds 66 = .ok (.aload_n 0, 1) := by decide +kernel
theorem dX7_rounds_67 : decode cX7_rounds 67 = .ok (.invokevirtual 241, 3) := by decide +kernel
theorem dX7_rounds_70 : decode cX7_rounds 70 = .ok (.istore 4, 2) := by decide +kernel
theorem dX7_rounds_72 : decode cX7_rounds 72 = .ok (.aload_n 0, 1) := by decide +kernel
theorem dX7_rounds_73 : decode cX7_rounds 73 = .ok (.getfield 32, 3) := by decide +kernel
theorem dX7_rounds_76 : decode cX7_rounds 76 = .ok (.iload_n 3, 1) := by decide +kernel
theorem dX7_rounds_77 : decode cX7_rounds 77 = .ok (.invokevirtual 182, 3) := by decide +kernel
theorem dX7_rounds_80 : decode cX7_rounds 80 = .ok (.astore 5, 2) := by decide +kernel
theorem dX7_rounds_82 : decode cX7_rounds 82 = .ok (.iload 4, 2) := by decide +kernel
theorem dX7_rounds_84 : decode cX7_rounds 84 = .ok (.ldc 215, 2) := by decide +kernel
theorem dX7_rounds_86 : decode cX7_rounds 86 = .ok (.if_icmp .eq 8, 3) := by decide +kernel
theorem dX7_rounds_89 : decode cX7_rounds 89 = .ok (.aload 5, 2) := by decide +kernel
theorem dX7_rounds_91 : decode cX7_rounds 91 = .ok (.ifnonnull 8, 3) := by decide +kernel
theorem dX7_rounds_94 : decode cX7_rounds 94 = .ok (.iload 4, 2) := by decide +kernel
theorem dX7_rounds_96 : decode cX7_rounds 96 = .ok (.goto 8, 3) := by decide +kernel
theorem dX7_rounds_99 : decode cX7_rounds 99 = .ok (.aload 5, 2) := by decide +kernel
theorem dX7_rounds_101 : decode cX7_rounds 101 = .ok (.getfield 186, 3) := by decide +kernel
theorem dX7_rounds_104 : decode cX7_rounds 104 = .ok (.ireturn, 1) := by decide +kernel
theorem dX7_aim_0 : decode cX7_aim 0 = .ok (.aload_n 0, 1) := by decide +kernel
theorem dX7_aim_1 : decode cX7_aim 1 = .ok (.getfield 25, 3) := by decide +kernel
theorem dX7_aim_4 : decode cX7_aim 4 = .ok (.getfield 147, 3) := by decide +kernel
theorem dX7_aim_7 : decode cX7_aim 7 = .ok (.ifCond .ne 6, 3) := by decide +kernel
theorem dX7_aim_10 : decode cX7_aim 10 = .ok (.ldc 161, 2) := by decide +kernel
theorem dX7_aim_12 : decode cX7_aim 12 = .ok (.ireturn, 1) := by decide +kernel
theorem dX7_aim_13 : decode cX7_aim 13 = .ok (.iload_n 1, 1) := by decide +kernel
theorem dX7_aim_14 : decode cX7_aim 14 = .ok (.invokestatic 165, 3) := by decide +kernel
theorem dX7_aim_17 : decode cX7_aim 17 = .ok (.ifCond .eq 10, 3) := by decide +kernel
theorem dX7_aim_20 : decode cX7_aim 20 = .ok (.iload_n 2, 1) := by decide +kernel
theorem dX7_aim_21 : decode cX7_aim 21 = .ok (.invokestatic 206, 3) := by decide +kernel
theorem dX7_aim_24 : decode cX7_aim 24 = .ok (.ifCond .ne 6, 3) := by decide +kernel
theorem dX7_aim_27 : decode cX7_aim 27 = .ok (.ldc 78, 2) := by decide +kernel
theorem dX7_aim_29 : decode cX7_aim 29 = .ok (.ireturn, 1) := by decide +kernel
theorem dX7_aim_30 : decode cX7_aim 30 = .ok (.aload_n 0, 1) := by decide +kernel
theorem dX7_aim_31 : decode cX7_aim 31 = .ok (.iload_n 1, 1) := by decide +kernel
theorem dX7_aim_32 : decode cX7_aim 32 = .ok (.invokevirtual 244, 3) := by decide +kernel
theorem dX7_aim_35 : decode cX7_aim 35 = .ok (.aload_n 0, 1) := by decide +kernel
theorem dX7_aim_36 : decode cX7_aim 36 = .ok (.getfield 60, 3) := by decide +kernel
theorem dX7_aim_39 : decode cX7_aim 39 = .ok (.invokestatic 247, 3) := by decide +kernel
theorem dX7_aim_42 : decode cX7_aim 42 = .ok (.istore_n 3, 1) := by decide +kernel
theorem dX7_aim_43 : decode cX7_aim 43 = .ok (.aload_n 0, 1) := by decide +kernel
theorem dX7_aim_44 : decode cX7_aim 44 = .ok (.getfield 49, 3) := by decide +kernel
theorem dX7_aim_47 : decode cX7_aim 47 = .ok (.iload_n 3, 1) := by decide +kernel
theorem dX7_aim_48 : decode cX7_aim 48 = .ok (.iload_n 1, 1) := by decide +kernel
theorem dX7_aim_49 : decode cX7_aim 49 = .ok (.invokevirtual 176, 3) := by decide +kernel
theorem dX7_aim_52 : decode cX7_aim 52 = .ok (.iload_n 2, 1) := by decide +kernel
theorem dX7_aim_53 : decode cX7_aim 53 = .ok (.ifCond .ne 7, 3) := by decide +kernel
theorem dX7_aim_56 : decode cX7_aim 56 = .ok (.iload_n 3, 1) := by decide +kernel
theorem dX7_aim_57 : decode cX7_aim 57 = .ok (.goto 17, 3) := by decide +kernel
theorem dX7_aim_60 : decode cX7_aim 60 = .ok (.aload_n 0, 1) := by decide +kernel
theorem dX7_aim_61 : decode cX7_aim 61 = .ok (.getfield 49, 3) := by decide +kernel
theorem dX7_aim_64 : decode cX7_aim 64 = .ok (.aload_n 0, 1) := by decide +kernel
theorem dX7_aim_65 : decode cX7_aim 65 = .ok (.getfield 25, 3) := by decide +kernel
theorem dX7_aim_68 : decode cX7_aim 68 = .ok (.invokevirtual 251, 3) := by decide +kernel
theorem dX7_aim_71 : decode cX7_aim 71 = .ok (.invokestatic 255, 3) := by decide +kernel
theorem dX7_aim_74 : decode cX7_aim 74 = .ok (.ireturn, 1) := by decide +kernel
theorem dX7_throwsFor_0 : decode cX7_throwsFor 0 = .ok (.aload_n 0, 1) := by decide +kernel
theorem dX7_throwsFor_1 : decode cX7_throwsFor 1 = .ok (.getfield 25, 3) := by decide +kernel
theorem dX7_throwsFor_4 : decode cX7_throwsFor 4 = .ok (.getfield 147, 3) := by decide +kernel
theorem dX7_throwsFor_7 : decode cX7_throwsFor 7 = .ok (.ifCond .ne 6, 3) := by decide +kernel
theorem dX7_throwsFor_10 : decode cX7_throwsFor 10 = .ok (.ldc 161, 2) := by decide +kernel
theorem dX7_throwsFor_12 : decode cX7_throwsFor 12 = .ok (.ireturn, 1) := by decide +kernel
theorem dX7_throwsFor_13 : decode cX7_throwsFor 13 = .ok (.iload_n 1, 1) := by decide +kernel
theorem dX7_throwsFor_14 : decode cX7_throwsFor 14 = .ok (.invokestatic 165, 3) := by decide +kernel
theorem dX7_throwsFor_17 : decode cX7_throwsFor 17 = .ok (.ifCond .eq 8, 3) := by decide +kernel
theorem dX7_throwsFor_20 : decode cX7_throwsFor 20 = .ok (.iload_n 2, 1) := by decide +kernel
theorem dX7_throwsFor_21 : decode cX7_throwsFor 21 = .ok (.iconst (-1), 1) := by decide +kernel
theorem dX7_throwsFor_22 : decode cX7_throwsFor 22 = .ok (.if_icmp .ge 6, 3) := by decide +kernel
theorem dX7_throwsFor_25 : decode cX7_throwsFor 25 = .ok (.ldc 78, 2) := by decide +kernel
theorem dX7_throwsFor_27 : decode cX7_throwsFor 27 = .ok (.ireturn, 1) := by decide +kernel
theorem dX7_throwsFor_28 : decode cX7_throwsFor 28 = .ok (.aload_n 0, 1) := by decide +kernel
theorem dX7_throwsFor_29 : decode cX7_throwsFor 29 = .ok (.iload_n 1, 1) := by decide +kernel
theorem dX7_throwsFor_30 : decode cX7_throwsFor 30 = .ok (.invokevirtual 244, 3) := by decide +kernel
theorem dX7_throwsFor_33 : decode cX7_throwsFor 33 = .ok (.aload_n 0, 1) := by decide +kernel
theorem dX7_throwsFor_34 : decode cX7_throwsFor 34 = .ok (.iconst 1, 1) := by decide +kernel
theorem dX7_throwsFor_35 : decode cX7_throwsFor 35 = .ok (.aload_n 0, 1) := by decide +kernel
theorem dX7_throwsFor_36 : decode cX7_throwsFor 36 = .ok (.getfield 25, 3) := by decide +kernel
theorem dX7_throwsFor_39 : decode cX7_throwsFor 39 = .ok (.getfield 158, 3) := by decide +kernel
theorem dX7_throwsFor_42 : decode cX7_throwsFor 42 = .ok (.ishl, 1) := by decide +kernel
theorem dX7_throwsFor_43 : decode cX7_throwsFor 43 = .ok (.iconst 1, 1) := by decide +kernel
theorem dX7_throwsFor_44 : decode cX7_throwsFor 44 = .ok (.isub, 1) := by decide +kernel
theorem dX7_throwsFor_45 : decode cX7_throwsFor 45 = .ok (.invokevirtual 260, 3) := by decide +kernel
theorem dX7_throwsFor_48 : decode cX7_throwsFor 48 = .ok (.istore_n 3, 1) := by decide +kernel
theorem dX7_throwsFor_49 : decode cX7_throwsFor 49 = .ok (.iload_n 3, 1) := by decide +kernel
theorem dX7_throwsFor_50 : decode cX7_throwsFor 50 = .ok (.ldc 215, 2) := by decide +kernel
theorem dX7_throwsFor_52 : decode cX7_throwsFor 52 = .ok (.if_icmp .eq 8, 3) := by decide +kernel
theorem dX7_throwsFor_55 : decode cX7_throwsFor 55 = .ok (.iload_n 2, 1) := by decide +kernel
theorem dX7_throwsFor_56 : decode cX7_throwsFor 56 = .ok (.iconst (-1), 1) := by decide +kernel
theorem dX7_throwsFor_57 : decode cX7_throwsFor 57 = .ok (.if_icmp .ne 5, 3) := by decide +kernel
theorem dX7_throwsFor_60 : decode cX7_throwsFor 60 = .ok (.iload_n 3, 1) := by decide +kernel
theorem dX7_throwsFor_61 : decode cX7_throwsFor 61 = .ok (.ireturn, 1) := by decide +kernel
theorem dX7_throwsFor_62 : decode cX7_throwsFor 62 = .ok (.iload_n 2, 1) := by decide +kernel
theorem dX7_throwsFor_63 : decode cX7_throwsFor 63 = .ok (.ifCond .lt 26, 3) := by decide +kernel
theorem dX7_throwsFor_66 : decode cX7_throwsFor 66 = .ok (.iload_n 2, 1) := by decide +kernel
theorem dX7_throwsFor_67 : decode cX7_throwsFor 67 = .ok (.iload_n 3, 1) := by decide +kernel
theorem dX7_throwsFor_68 : decode cX7_throwsFor 68 = .ok (.if_icmp .ge 21, 3) := by decide +kernel
theorem dX7_throwsFor_71 : decode cX7_throwsFor 71 = .ok (.iload_n 2, 1) := by decide +kernel
theorem dX7_throwsFor_72 : decode cX7_throwsFor 72 = .ok (.aload_n 0, 1) := by decide +kernel
theorem dX7_throwsFor_73 : decode cX7_throwsFor 73 = .ok (.getfield 63, 3) := by decide +kernel
theorem dX7_throwsFor_76 : decode cX7_throwsFor 76 = .ok (.arraylength, 1) := by decide +kernel
theorem dX7_throwsFor_77 : decode cX7_throwsFor 77 = .ok (.if_icmp .ge 12, 3) := by decide +kernel
theorem dX7_throwsFor_80 : decode cX7_throwsFor 80 = .ok (.aload_n 0, 1) := by decide +kernel
theorem dX7_throwsFor_81 : decode cX7_throwsFor 81 = .ok (.getfield 63, 3) := by decide +kernel
theorem dX7_throwsFor_84 : decode cX7_throwsFor 84 = .ok (.iload_n 2, 1) := by decide +kernel
theorem dX7_throwsFor_85 : decode cX7_throwsFor 85 = .ok (.iaload, 1) := by decide +kernel
theorem dX7_throwsFor_86 : decode cX7_throwsFor 86 = .ok (.goto 5, 3) := by decide +kernel
theorem dX7_throwsFor_89 : decode cX7_throwsFor 89 = .ok (.ldc 215, 2) := by decide +kernel
theorem dX7_throwsFor_91 : decode cX7_throwsFor 91 = .ok (.ireturn, 1) := by decide +kernel
theorem dX7_cool_0 : decode cX7_cool 0 = .ok (.aload_n 0, 1) := by decide +kernel
theorem dX7_cool_1 : decode cX7_cool 1 = .ok (.getfield 25, 3) := by decide +kernel
theorem dX7_cool_4 : decode cX7_cool 4 = .ok (.iload_n 1, 1) := by decide +kernel
theorem dX7_cool_5 : decode cX7_cool 5 = .ok (.invokevirtual 182, 3) := by decide +kernel
theorem dX7_cool_8 : decode cX7_cool 8 = .ok (.ifnull 17, 3) := by decide +kernel
theorem dX7_cool_11 : decode cX7_cool 11 = .ok (.iload_n 2, 1) := by decide +kernel
theorem dX7_cool_12 : decode cX7_cool 12 = .ok (.invokestatic 162, 3) := by decide +kernel
theorem dX7_cool_15 : decode cX7_cool 15 = .ok (.ifCond .eq 10, 3) := by decide +kernel
theorem dX7_cool_18 : decode cX7_cool 18 = .ok (.iload_n 3, 1) := by decide +kernel
theorem dX7_cool_19 : decode cX7_cool 19 = .ok (.invokestatic 165, 3) := by decide +kernel
theorem dX7_cool_22 : decode cX7_cool 22 = .ok (.ifCond .ne 6, 3) := by decide +kernel
theorem dX7_cool_25 : decode cX7_cool 25 = .ok (.ldc 78, 2) := by decide +kernel
theorem dX7_cool_27 : decode cX7_cool 27 = .ok (.ireturn, 1) := by decide +kernel
theorem dX7_cool_28 : decode cX7_cool 28 = .ok (.aload_n 0, 1) := by decide +kernel
theorem dX7_cool_29 : decode cX7_cool 29 = .ok (.getfield 32, 3) := by decide +kernel
theorem dX7_cool_32 : decode cX7_cool 32 = .ok (.aload_n 0, 1) := by decide +kernel
theorem dX7_cool_33 : decode cX7_cool 33 = .ok (.getfield 25, 3) := by decide +kernel
theorem dX7_cool_36 : decode cX7_cool 36 = .ok (.invokevirtual 151, 3) := by decide +kernel
theorem dX7_cool_39 : decode cX7_cool 39 = .ok (.aload_n 0, 1) := by decide +kernel
theorem dX7_cool_40 : decode cX7_cool 40 = .ok (.getfield 49, 3) := by decide +kernel
theorem dX7_cool_43 : decode cX7_cool 43 = .ok (.iload_n 2, 1) := by decide +kernel
theorem dX7_cool_44 : decode cX7_cool 44 = .ok (.iload_n 3, 1) := by decide +kernel
theorem dX7_cool_45 : decode cX7_cool 45 = .ok (.invokevirtual 176, 3) := by decide +kernel
theorem dX7_cool_48 : decode cX7_cool 48 = .ok (.iconst 0, 1) := by decide +kernel
theorem dX7_cool_49 : decode cX7_cool 49 = .ok (.istore 4, 2) := by decide +kernel
theorem dX7_cool_51 : decode cX7_cool 51 = .ok (.iload 4, 2) := by decide +kernel
theorem dX7_cool_53 : decode cX7_cool 53 = .ok (.bipush 20, 2) := by decide +kernel
theorem dX7_cool_55 : decode cX7_cool 55 = .ok (.if_icmp .gt 36, 3) := by decide +kernel
theorem dX7_cool_58 : decode cX7_cool 58 = .ok (.aload_n 0, 1) := by decide +kernel
theorem dX7_cool_59 : decode cX7_cool 59 = .ok (.getfield 32, 3) := by decide +kernel
theorem dX7_cool_62 : decode cX7_cool 62 = .ok (.iload 4, 2) := by decide +kernel
theorem dX7_cool_64 : decode cX7_cool 64 = .ok (.putfield 216, 3) := by decide +kernel
theorem dX7_cool_67 : decode cX7_cool 67 = .ok (.aload_n 0, 1) := by decide +kernel
theorem dX7_cool_68 : decode cX7_cool 68 = .ok (.getfield 49, 3) := by decide +kernel
theorem dX7_cool_71 : decode cX7_cool 71 = .ok (.aload_n 0, 1) := by decide +kernel
theorem dX7_cool_72 : decode cX7_cool 72 = .ok (.getfield 32, 3) := by decide +kernel
theorem dX7_cool_75 : decode cX7_cool 75 = .ok (.iload_n 1, 1) := by decide +kernel
theorem dX7_cool_76 : decode cX7_cool 76 = .ok (.invokevirtual 222, 3) := by decide +kernel
theorem dX7_cool_79 : decode cX7_cool 79 = .ok (.ifCond .ne 6, 3) := by decide +kernel
theorem dX7_cool_82 : decode cX7_cool 82 = .ok (.iload 4, 2) := by decide +kernel
theorem dX7_cool_84 : decode cX7_cool 84 = .ok (.ireturn, 1) := by decide +kernel
theorem dX7_cool_85 : decode cX7_cool 85 = .ok (.iinc 4 1, 3) := by decide +kernel
theorem dX7_cool_88 : decode cX7_cool 88 = .ok (.goto (-37), 3) := by decide +kernel
theorem dX7_cool_91 : decode cX7_cool 91 = .ok (.ldc 215, 2) := by decide +kernel
theorem dX7_cool_93 : decode cX7_cool 93 = .ok (.ireturn, 1) := by decide +kernel
theorem dX7_stood_0 : decode cX7_stood 0 = .ok (.aload_n 0, 1) := by decide +kernel
theorem dX7_stood_1 : decode cX7_stood 1 = .ok (.iload_n 1, 1) := by decide +kernel
theorem dX7_stood_2 : decode cX7_stood 2 = .ok (.invokevirtual 74, 3) := by decide +kernel
theorem dX7_stood_5 : decode cX7_stood 5 = .ok (.astore 6, 2) := by decide +kernel
theorem dX7_stood_7 : decode cX7_stood 7 = .ok (.iload_n 3, 1) := by decide +kernel
theorem dX7_stood_8 : decode cX7_stood 8 = .ok (.ifCond .lt 25, 3) := by decide +kernel
theorem dX7_stood_11 : decode cX7_stood 11 = .ok (.iload_n 3, 1) := by decide +kernel
theorem dX7_stood_12 : decode cX7_stood 12 = .ok (.bipush 20, 2) := by decide +kernel
theorem dX7_stood_14 : decode cX7_stood 14 = .ok (.if_icmp .gt 19, 3) := by decide +kernel
theorem dX7_stood_17 : decode cX7_stood 17 = .ok (.iload 5, 2) := by decide +kernel
theorem dX7_stood_19 : decode cX7_stood 19 = .ok (.ifCond .lt 14, 3) := by decide +kernel
theorem dX7_stood_22 : decode cX7_stood 22 = .ok (.iload 5, 2) := by decide +kernel
theorem dX7_stood_24 : decode cX7_stood 24 = .ok (.bipush 20, 2) := by decide +kernel
theorem dX7_stood_26 : decode cX7_stood 26 = .ok (.if_icmp .gt 7, 3) := by decide +kernel
theorem dX7_stood_29 : decode cX7_stood 29 = .ok (.iconst 1, 1) := by decide +kernel
theorem dX7_stood_30 : decode cX7_stood 30 = .ok (.goto 4, 3) := by decide +kernel
theorem dX7_stood_33 : decode cX7_stood 33 = .ok (.iconst 0, 1) := by decide +kernel
theorem dX7_stood_34 : decode cX7_stood 34 = .ok (.istore 7, 2) := by decide +kernel
theorem dX7_stood_36 : decode cX7_stood 36 = .ok (.aload 6, 2) := by decide +kernel
theorem dX7_stood_38 : decode cX7_stood 38 = .ok (.ifnull 20, 3) := by decide +kernel
theorem dX7_stood_41 : decode cX7_stood 41 = .ok (.iload 7, 2) := by decide +kernel
theorem dX7_stood_43 : decode cX7_stood 43 = .ok (.ifCond .eq 15, 3) := by decide +kernel
theorem dX7_stood_46 : decode cX7_stood 46 = .ok (.aload_n 0, 1) := by decide +kernel
theorem dX7_stood_47 : decode cX7_stood 47 = .ok (.getfield 25, 3) := by decide +kernel
theorem dX7_stood_50 : decode cX7_stood 50 = .ok (.iload 4, 2) := by decide +kernel
theorem dX7_stood_52 : decode cX7_stood 52 = .ok (.invokevirtual 182, 3) := by decide +kernel
theorem dX7_stood_55 : decode cX7_stood 55 = .ok (.ifnonnull 6, 3) := by decide +kernel
theorem dX7_stood_58 : decode cX7_stood 58 = .ok (.ldc 78, 2) := by decide +kernel
theorem dX7_stood_60 : decode cX7_stood 60 = .ok (.ireturn, 1) := by decide +kernel
theorem dX7_stood_61 : decode cX7_stood 61 = .ok (.aload 6, 2) := by decide +kernel
theorem dX7_stood_63 : decode cX7_stood 63 = .ok (.invokevirtual 90, 3) := by decide +kernel
theorem dX7_stood_66 : decode cX7_stood 66 = .ok (.ifCond .eq 9, 3) := by decide +kernel
theorem dX7_stood_69 : decode cX7_stood 69 = .ok (.aload_n 0, 1) := by decide +kernel
theorem dX7_stood_70 : decode cX7_stood 70 = .ok (.iconst 1, 1) := by decide +kernel
theorem dX7_stood_71 : decode cX7_stood 71 = .ok (.invokevirtual 79, 3) := by decide +kernel
theorem dX7_stood_74 : decode cX7_stood 74 = .ok (.ireturn, 1) := by decide +kernel
theorem dX7_stood_75 : decode cX7_stood 75 = .ok (.aload 6, 2) := by decide +kernel
theorem dX7_stood_77 : decode cX7_stood 77 = .ok (.iload_n 2, 1) := by decide +kernel
theorem dX7_stood_78 : decode cX7_stood 78 = .ok (.iload_n 3, 1) := by decide +kernel
theorem dX7_stood_79 : decode cX7_stood 79 = .ok (.invokevirtual 94, 3) := by decide +kernel
theorem dX7_stood_82 : decode cX7_stood 82 = .ok (.ifCond .ne 9, 3) := by decide +kernel
theorem dX7_stood_85 : decode cX7_stood 85 = .ok (.aload_n 0, 1) := by decide +kernel
theorem dX7_stood_86 : decode cX7_stood 86 = .ok (.iconst 2, 1) := by decide +kernel
theorem dX7_stood_87 : decode cX7_stood 87 = .ok (.invokevirtual 79, 3) := by decide +kernel
theorem dX7_stood_90 : decode cX7_stood 90 = .ok (.ireturn, 1) := by decide +kernel
theorem dX7_stood_91 : decode cX7_stood 91 = .ok (.aload_n 0, 1) := by decide +kernel
theorem dX7_stood_92 : decode cX7_stood 92 = .ok (.getfield 49, 3) := by decide +kernel
theorem dX7_stood_95 : decode cX7_stood 95 = .ok (.aload 6, 2) := by decide +kernel
theorem dX7_stood_97 : decode cX7_stood 97 = .ok (.iload_n 2, 1) := by decide +kernel
theorem dX7_stood_98 : decode cX7_stood 98 = .ok (.iload_n 3, 1) := by decide +kernel
theorem dX7_stood_99 : decode cX7_stood 99 = .ok (.invokevirtual 263, 3) := by decide +kernel
theorem dX7_stood_102 : decode cX7_stood 102 = .ok (.ifCond .ne 6, 3) := by decide +kernel
theorem dX7_stood_105 : decode cX7_stood 105 = .ok (.ldc 78, 2) := by decide +kernel
theorem dX7_stood_107 : decode cX7_stood 107 = .ok (.ireturn, 1) := by decide +kernel
theorem dX7_stood_108 : decode cX7_stood 108 = .ok (.aload_n 0, 1) := by decide +kernel
theorem dX7_stood_109 : decode cX7_stood 109 = .ok (.getfield 49, 3) := by decide +kernel
theorem dX7_stood_112 : decode cX7_stood 112 = .ok (.aload_n 0, 1) := by decide +kernel
theorem dX7_stood_113 : decode cX7_stood 113 = .ok (.getfield 25, 3) := by decide +kernel
theorem dX7_stood_116 : decode cX7_stood 116 = .ok (.iload 4, 2) := by decide +kernel
theorem dX7_stood_118 : decode cX7_stood 118 = .ok (.iconst (-1), 1) := by decide +kernel
theorem dX7_stood_119 : decode cX7_stood 119 = .ok (.aload_n 0, 1) := by decide +kernel
theorem dX7_stood_120 : decode cX7_stood 120 = .ok (.getfield 53, 3) := by decide +kernel
theorem dX7_stood_123 : decode cX7_stood 123 = .ok (.invokevirtual 234, 3) := by decide +kernel
theorem dX7_stood_126 : decode cX7_stood 126 = .ok (.aload_n 0, 1) := by decide +kernel
theorem dX7_stood_127 : decode cX7_stood 127 = .ok (.aload_n 0, 1) := by decide +kernel
theorem dX7_stood_128 : decode cX7_stood 128 = .ok (.iload 5, 2) := by decide +kernel
theorem dX7_stood_130 : decode cX7_stood 130 = .ok (.invokevirtual 267, 3) := by decide +kernel
theorem dX7_stood_133 : decode cX7_stood 133 = .ok (.invokevirtual 87, 3) := by decide +kernel
theorem dX7_stood_136 : decode cX7_stood 136 = .ok (.ireturn, 1) := by decide +kernel
theorem dX7_image_0 : decode cX7_image 0 = .ok (.aload_n 0, 1) := by decide +kernel
theorem dX7_image_1 : decode cX7_image 1 = .ok (.iload_n 1, 1) := by decide +kernel
theorem dX7_image_2 : decode cX7_image 2 = .ok (.invokevirtual 270, 3) := by decide +kernel
theorem dX7_image_5 : decode cX7_image 5 = .ok (.astore_n 2, 1) := by decide +kernel
theorem dX7_image_6 : decode cX7_image 6 = .ok (.aload_n 2, 1) := by decide +kernel
theorem dX7_image_7 : decode cX7_image 7 = .ok (.ifnonnull 6, 3) := by decide +kernel
theorem dX7_image_10 : decode cX7_image 10 = .ok (.ldc 78, 2) := by decide +kernel
theorem dX7_image_12 : decode cX7_image 12 = .ok (.ireturn, 1) := by decide +kernel
theorem dX7_image_13 : decode cX7_image 13 = .ok (.aload_n 0, 1) := by decide +kernel
theorem dX7_image_14 : decode cX7_image 14 = .ok (.getfield 25, 3) := by decide +kernel
theorem dX7_image_17 : decode cX7_image 17 = .ok (.getfield 147, 3) := by decide +kernel
theorem dX7_image_20 : decode cX7_image 20 = .ok (.ifCond .ne 6, 3) := by decide +kernel
theorem dX7_image_23 : decode cX7_image 23 = .ok (.ldc 161, 2) := by decide +kernel
theorem dX7_image_25 : decode cX7_image 25 = .ok (.ireturn, 1) := by decide +kernel
theorem dX7_image_26 : decode cX7_image 26 = .ok (.aload_n 2, 1) := by decide +kernel
theorem dX7_image_27 : decode cX7_image 27 = .ok (.aload_n 0, 1) := by decide +kernel
theorem dX7_image_28 : decode cX7_image 28 = .ok (.getfield 25, 3) := by decide +kernel
theorem dX7_image_31 : decode cX7_image 31 = .ok (.invokevirtual 151, 3) := by decide +kernel
theorem dX7_image_34 : decode cX7_image 34 = .ok (.iconst 1, 1) := by decide +kernel
theorem dX7_image_35 : decode cX7_image 35 = .ok (.ireturn, 1) := by decide +kernel
theorem dX7_restore_0 : decode cX7_restore 0 = .ok (.aload_n 0, 1) := by decide +kernel
theorem dX7_restore_1 : decode cX7_restore 1 = .ok (.iload_n 1, 1) := by decide +kernel
theorem dX7_restore_2 : decode cX7_restore 2 = .ok (.invokevirtual 270, 3) := by decide +kernel
theorem dX7_restore_5 : decode cX7_restore 5 = .ok (.astore_n 2, 1) := by decide +kernel
theorem dX7_restore_6 : decode cX7_restore 6 = .ok (.aload_n 2, 1) := by decide +kernel
theorem dX7_restore_7 : decode cX7_restore 7 = .ok (.ifnonnull 6, 3) := by decide +kernel
theorem dX7_restore_10 : decode cX7_restore 10 = .ok (.ldc 78, 2) := by decide +kernel
theorem dX7_restore_12 : decode cX7_restore 12 = .ok (.ireturn, 1) := by decide +kernel
theorem dX7_restore_13 : decode cX7_restore 13 = .ok (.aload_n 2, 1) := by decide +kernel
theorem dX7_restore_14 : decode cX7_restore 14 = .ok (.getfield 147, 3) := by decide +kernel
theorem dX7_restore_17 : decode cX7_restore 17 = .ok (.ifCond .ne 6, 3) := by decide +kernel
theorem dX7_restore_20 : decode cX7_restore 20 = .ok (.ldc 161, 2) := by decide +kernel
theorem dX7_restore_22 : decode cX7_restore 22 = .ok (.ireturn, 1) := by decide +kernel
theorem dX7_restore_23 : decode cX7_restore 23 = .ok (.aload_n 0, 1) := by decide +kernel
theorem dX7_restore_24 : decode cX7_restore 24 = .ok (.getfield 25, 3) := by decide +kernel
theorem dX7_restore_27 : decode cX7_restore 27 = .ok (.aload_n 2, 1) := by decide +kernel
theorem dX7_restore_28 : decode cX7_restore 28 = .ok (.invokevirtual 151, 3) := by decide +kernel
theorem dX7_restore_31 : decode cX7_restore 31 = .ok (.aload_n 0, 1) := by decide +kernel
theorem dX7_restore_32 : decode cX7_restore 32 = .ok (.getfield 42, 3) := by decide +kernel
theorem dX7_restore_35 : decode cX7_restore 35 = .ok (.iconst 0, 1) := by decide +kernel
theorem dX7_restore_36 : decode cX7_restore 36 = .ok (.putfield 155, 3) := by decide +kernel
theorem dX7_restore_39 : decode cX7_restore 39 = .ok (.iconst 1, 1) := by decide +kernel
theorem dX7_restore_40 : decode cX7_restore 40 = .ok (.ireturn, 1) := by decide +kernel
theorem dX7_kind_0 : decode cX7_kind 0 = .ok (.aload_n 0, 1) := by decide +kernel
theorem dX7_kind_1 : decode cX7_kind 1 = .ok (.getfield 25, 3) := by decide +kernel
theorem dX7_kind_4 : decode cX7_kind 4 = .ok (.iload_n 1, 1) := by decide +kernel
theorem dX7_kind_5 : decode cX7_kind 5 = .ok (.invokevirtual 182, 3) := by decide +kernel
theorem dX7_kind_8 : decode cX7_kind 8 = .ok (.astore_n 2, 1) := by decide +kernel
theorem dX7_kind_9 : decode cX7_kind 9 = .ok (.aload_n 2, 1) := by decide +kernel
theorem dX7_kind_10 : decode cX7_kind 10 = .ok (.ifnonnull 8, 3) := by decide +kernel
theorem dX7_kind_13 : decode cX7_kind 13 = .ok (.ldc 78, 2) := by decide +kernel
theorem dX7_kind_15 : decode cX7_kind 15 = .ok (.goto 7, 3) := by decide +kernel
theorem dX7_kind_18 : decode cX7_kind 18 = .ok (.aload_n 2, 1) := by decide +kernel
theorem dX7_kind_19 : decode cX7_kind 19 = .ok (.getfield 274, 3) := by decide +kernel
theorem dX7_kind_22 : decode cX7_kind 22 = .ok (.ireturn, 1) := by decide +kernel
theorem dX7_as_0 : decode cX7_as 0 = .ok (.aload_n 0, 1) := by decide +kernel
theorem dX7_as_1 : decode cX7_as 1 = .ok (.getfield 25, 3) := by decide +kernel
theorem dX7_as_4 : decode cX7_as 4 = .ok (.iload_n 1, 1) := by decide +kernel
theorem dX7_as_5 : decode cX7_as 5 = .ok (.invokevirtual 182, 3) := by decide +kernel
theorem dX7_as_8 : decode cX7_as 8 = .ok (.astore_n 3, 1) := by decide +kernel
theorem dX7_as_9 : decode cX7_as 9 = .ok (.aload_n 3, 1) := by decide +kernel
theorem dX7_as_10 : decode cX7_as 10 = .ok (.ifnull 12, 3) := by decide +kernel
theorem dX7_as_13 : decode cX7_as 13 = .ok (.iload_n 2, 1) := by decide +kernel
theorem dX7_as_14 : decode cX7_as 14 = .ok (.ifCond .lt 8, 3) := by decide +kernel
theorem dX7_as_17 : decode cX7_as 17 = .ok (.iload_n 2, 1) := by decide +kernel
theorem dX7_as_18 : decode cX7_as 18 = .ok (.iconst 5, 1) := by decide +kernel
theorem dX7_as_19 : decode cX7_as 19 = .ok (.if_icmp .le 6, 3) := by decide +kernel
theorem dX7_as_22 : decode cX7_as 22 = .ok (.ldc 78, 2) := by decide +kernel
theorem dX7_as_24 : decode cX7_as 24 = .ok (.ireturn, 1) := by decide +kernel
theorem dX7_as_25 : decode cX7_as 25 = .ok (.aload_n 3, 1) := by decide +kernel
theorem dX7_as_26 : decode cX7_as 26 = .ok (.iload_n 2, 1) := by decide +kernel
theorem dX7_as_27 : decode cX7_as 27 = .ok (.invokevirtual 277, 3) := by decide +kernel
theorem dX7_as_30 : decode cX7_as 30 = .ok (.ifCond .eq 11, 3) := by decide +kernel
theorem dX7_as_33 : decode cX7_as 33 = .ok (.aload_n 0, 1) := by decide +kernel
theorem dX7_as_34 : decode cX7_as 34 = .ok (.iload_n 1, 1) := by decide +kernel
theorem dX7_as_35 : decode cX7_as 35 = .ok (.invokevirtual 87, 3) := by decide +kernel
theorem dX7_as_38 : decode cX7_as 38 = .ok (.goto 8, 3) := by decide +kernel
theorem dX7_as_41 : decode cX7_as 41 = .ok (.aload_n 0, 1) := by decide +kernel
theorem dX7_as_42 : decode cX7_as 42 = .ok (.iconst 3, 1) := by decide +kernel
theorem dX7_as_43 : decode cX7_as 43 = .ok (.invokevirtual 79, 3) := by decide +kernel
theorem dX7_as_46 : decode cX7_as 46 = .ok (.ireturn, 1) := by decide +kernel
theorem dX7_ask_0 : decode cX7_ask 0 = .ok (.aload_n 0, 1) := by decide +kernel
theorem dX7_ask_1 : decode cX7_ask 1 = .ok (.getfield 25, 3) := by decide +kernel
theorem dX7_ask_4 : decode cX7_ask 4 = .ok (.iload_n 1, 1) := by decide +kernel
theorem dX7_ask_5 : decode cX7_ask 5 = .ok (.invokevirtual 182, 3) := by decide +kernel
theorem dX7_ask_8 : decode cX7_ask 8 = .ok (.astore_n 3, 1) := by decide +kernel
theorem dX7_ask_9 : decode cX7_ask 9 = .ok (.aload_n 3, 1) := by decide +kernel
theorem dX7_ask_10 : decode cX7_ask 10 = .ok (.ifnull 10, 3) := by decide +kernel
theorem dX7_ask_13 : decode cX7_ask 13 = .ok (.iload_n 2, 1) := by decide +kernel
theorem dX7_ask_14 : decode cX7_ask 14 = .ok (.invokestatic 206, 3) := by decide +kernel
theorem dX7_ask_17 : decode cX7_ask 17 = .ok (.ifCond .ne 6, 3) := by decide +kernel
theorem dX7_ask_20 : decode cX7_ask 20 = .ok (.ldc 78, 2) := by decide +kernel
theorem dX7_ask_22 : decode cX7_ask 22 = .ok (.ireturn, 1) := by decide +kernel
theorem dX7_ask_23 : decode cX7_ask 23 = .ok (.aload_n 0, 1) := by decide +kernel
theorem dX7_ask_24 : decode cX7_ask 24 = .ok (.getfield 69, 3) := by decide +kernel
theorem dX7_ask_27 : decode cX7_ask 27 = .ok (.iconst 0, 1) := by decide +kernel
theorem dX7_ask_28 : decode cX7_ask 28 = .ok (.putfield 280, 3) := by decide +kernel
theorem dX7_ask_31 : decode cX7_ask 31 = .ok (.iload_n 2, 1) := by decide +kernel
theorem dX7_ask_32 : decode cX7_ask 32 = .ok (.ifCond .ne 14, 3) := by decide +kernel
theorem dX7_ask_35 : decode cX7_ask 35 = .ok (.aload_n 0, 1) := by decide +kernel
theorem dX7_ask_36 : decode cX7_ask 36 = .ok (.getfield 69, 3) := by decide +kernel
theorem dX7_ask_39 : decode cX7_ask 39 = .ok (.aload_n 3, 1) := by decide +kernel
theorem dX7_ask_40 : decode cX7_ask 40 = .ok (.invokevirtual 283, 3) := by decide +kernel
theorem dX7_ask_43 : decode cX7_ask 43 = .ok (.goto 11, 3) := by decide +kernel
theorem dX7_ask_46 : decode cX7_ask 46 = .ok (.aload_n 0, 1) := by decide +kernel
theorem dX7_ask_47 : decode cX7_ask 47 = .ok (.getfield 69, 3) := by decide +kernel
theorem dX7_ask_50 : decode cX7_ask 50 = .ok (.aload_n 3, 1) := by decide +kernel
theorem dX7_ask_51 : decode cX7_ask 51 = .ok (.invokevirtual 287, 3) := by decide +kernel
theorem dX7_ask_54 : decode cX7_ask 54 = .ok (.ireturn, 1) := by decide +kernel
theorem dX7_trace_0 : decode cX7_trace 0 = .ok (.aload_n 0, 1) := by decide +kernel
theorem dX7_trace_1 : decode cX7_trace 1 = .ok (.getfield 69, 3) := by decide +kernel
theorem dX7_trace_4 : decode cX7_trace 4 = .ok (.iload_n 1, 1) := by decide +kernel
theorem dX7_trace_5 : decode cX7_trace 5 = .ok (.invokevirtual 290, 3) := by decide +kernel
theorem dX7_trace_8 : decode cX7_trace 8 = .ok (.ireturn, 1) := by decide +kernel
theorem dX7_count_0 : decode cX7_count 0 = .ok (.iload_n 1, 1) := by decide +kernel
theorem dX7_count_1 : decode cX7_count 1 = .ok (.tableswitch 99 0 6 #[43, 48, 56, 67, 75, 83, 91], 43) := by decide +kernel
theorem dX7_count_44 : decode cX7_count 44 = .ok (.aload_n 0, 1) := by decide +kernel
theorem dX7_count_45 : decode cX7_count 45 = .ok (.invokevirtual 293, 3) := by decide +kernel
theorem dX7_count_48 : decode cX7_count 48 = .ok (.ireturn, 1) := by decide +kernel
theorem dX7_count_49 : decode cX7_count 49 = .ok (.aload_n 0, 1) := by decide +kernel
theorem dX7_count_50 : decode cX7_count 50 = .ok (.getfield 25, 3) := by decide +kernel
theorem dX7_count_53 : decode cX7_count 53 = .ok (.getfield 158, 3) := by decide +kernel
theorem dX7_count_56 : decode cX7_count 56 = .ok (.ireturn, 1) := by decide +kernel
theorem dX7_count_57 : decode cX7_count 57 = .ok (.aload_n 0, 1) := by decide +kernel
theorem dX7_count_58 : decode cX7_count 58 = .ok (.getfield 25, 3) := by decide +kernel
theorem dX7_count_61 : decode cX7_count 61 = .ok (.getfield 296, 3) := by decide +kernel
theorem dX7_count_64 : decode cX7_count 64 = .ok (.invokestatic 255, 3) := by decide +kernel
theorem dX7_count_67 : decode cX7_count 67 = .ok (.ireturn, 1) := by decide +kernel
theorem dX7_count_68 : decode cX7_count 68 = .ok (.aload_n 0, 1) := by decide +kernel
theorem dX7_count_69 : decode cX7_count 69 = .ok (.getfield 25, 3) := by decide +kernel
theorem dX7_count_72 : decode cX7_count 72 = .ok (.getfield 216, 3) := by decide +kernel
theorem dX7_count_75 : decode cX7_count 75 = .ok (.ireturn, 1) := by decide +kernel
theorem dX7_count_76 : decode cX7_count 76 = .ok (.aload_n 0, 1) := by decide +kernel
theorem dX7_count_77 : decode cX7_count 77 = .ok (.getfield 42, 3) := by decide +kernel
theorem dX7_count_80 : decode cX7_count 80 = .ok (.getfield 155, 3) := by decide +kernel
theorem dX7_count_83 : decode cX7_count 83 = .ok (.ireturn, 1) := by decide +kernel
theorem dX7_count_84 : decode cX7_count 84 = .ok (.aload_n 0, 1) := by decide +kernel
theorem dX7_count_85 : decode cX7_count 85 = .ok (.getfield 25, 3) := by decide +kernel
theorem dX7_count_88 : decode cX7_count 88 = .ok (.invokevirtual 299, 3) := by decide +kernel
theorem dX7_count_91 : decode cX7_count 91 = .ok (.ireturn, 1) := by decide +kernel
theorem dX7_count_92 : decode cX7_count 92 = .ok (.aload_n 0, 1) := by decide +kernel
theorem dX7_count_93 : decode cX7_count 93 = .ok (.getfield 18, 3) := by decide +kernel
theorem dX7_count_96 : decode cX7_count 96 = .ok (.getfield 127, 3) := by decide +kernel
theorem dX7_count_99 : decode cX7_count 99 = .ok (.ireturn, 1) := by decide +kernel
theorem dX7_count_100 : decode cX7_count 100 = .ok (.ldc 78, 2) := by decide +kernel
theorem dX7_count_102 : decode cX7_count 102 = .ok (.ireturn, 1) := by decide +kernel
theorem dX7_status_0 : decode cX7_status 0 = .ok (.aload_n 0, 1) := by decide +kernel
theorem dX7_status_1 : decode cX7_status 1 = .ok (.getfield 302, 3) := by decide +kernel
theorem dX7_status_4 : decode cX7_status 4 = .ok (.ireturn, 1) := by decide +kernel
theorem dX7_isCell_0 : decode cX7_isCell 0 = .ok (.iload_n 0, 1) := by decide +kernel
theorem dX7_isCell_1 : decode cX7_isCell 1 = .ok (.ifCond .lt 13, 3) := by decide +kernel
theorem dX7_isCell_4 : decode cX7_isCell 4 = .ok (.iload_n 0, 1) := by decide +kernel
theorem dX7_isCell_5 : decode cX7_isCell 5 = .ok (.bipush 30, 2) := by decide +kernel
theorem dX7_isCell_7 : decode cX7_isCell 7 = .ok (.if_icmp .ge 7, 3) := by decide +kernel
theorem dX7_isCell_10 : decode cX7_isCell 10 = .ok (.iconst 1, 1) := by decide +kernel
theorem dX7_isCell_11 : decode cX7_isCell 11 = .ok (.goto 4, 3) := by decide +kernel
theorem dX7_isCell_14 : decode cX7_isCell 14 = .ok (.iconst 0, 1) := by decide +kernel
theorem dX7_isCell_15 : decode cX7_isCell 15 = .ok (.ireturn, 1) := by decide +kernel
theorem dX7_isSpread_0 : decode cX7_isSpread 0 = .ok (.iload_n 0, 1) := by decide +kernel
theorem dX7_isSpread_1 : decode cX7_isSpread 1 = .ok (.ifCond .lt 12, 3) := by decide +kernel
theorem dX7_isSpread_4 : decode cX7_isSpread 4 = .ok (.iload_n 0, 1) := by decide +kernel
theorem dX7_isSpread_5 : decode cX7_isSpread 5 = .ok (.iconst 2, 1) := by decide +kernel
theorem dX7_isSpread_6 : decode cX7_isSpread 6 = .ok (.if_icmp .gt 7, 3) := by decide +kernel
theorem dX7_isSpread_9 : decode cX7_isSpread 9 = .ok (.iconst 1, 1) := by decide +kernel
theorem dX7_isSpread_10 : decode cX7_isSpread 10 = .ok (.goto 4, 3) := by decide +kernel
theorem dX7_isSpread_13 : decode cX7_isSpread 13 = .ok (.iconst 0, 1) := by decide +kernel
theorem dX7_isSpread_14 : decode cX7_isSpread 14 = .ok (.ireturn, 1) := by decide +kernel
theorem dX7_isEither_0 : decode cX7_isEither 0 = .ok (.iload_n 0, 1) := by decide +kernel
theorem dX7_isEither_1 : decode cX7_isEither 1 = .ok (.ifCond .eq 8, 3) := by decide +kernel
theorem dX7_isEither_4 : decode cX7_isEither 4 = .ok (.iload_n 0, 1) := by decide +kernel
theorem dX7_isEither_5 : decode cX7_isEither 5 = .ok (.iconst 1, 1) := by decide +kernel
theorem dX7_isEither_6 : decode cX7_isEither 6 = .ok (.if_icmp .ne 7, 3) := by decide +kernel
theorem dX7_isEither_9 : decode cX7_isEither 9 = .ok (.iconst 1, 1) := by decide +kernel
theorem dX7_isEither_10 : decode cX7_isEither 10 = .ok (.goto 4, 3) := by decide +kernel
theorem dX7_isEither_13 : decode cX7_isEither 13 = .ok (.iconst 0, 1) := by decide +kernel
theorem dX7_isEither_14 : decode cX7_isEither 14 = .ok (.ireturn, 1) := by decide +kernel
theorem dX7_far_0 : decode cX7_far 0 = .ok (.iload_n 0, 1) := by decide +kernel
theorem dX7_far_1 : decode cX7_far 1 = .ok (.bipush 6, 2) := by decide +kernel
theorem dX7_far_3 : decode cX7_far 3 = .ok (.irem, 1) := by decide +kernel
theorem dX7_far_4 : decode cX7_far 4 = .ok (.iload_n 1, 1) := by decide +kernel
theorem dX7_far_5 : decode cX7_far 5 = .ok (.bipush 6, 2) := by decide +kernel
theorem dX7_far_7 : decode cX7_far 7 = .ok (.irem, 1) := by decide +kernel
theorem dX7_far_8 : decode cX7_far 8 = .ok (.isub, 1) := by decide +kernel
theorem dX7_far_9 : decode cX7_far 9 = .ok (.invokestatic 305, 3) := by decide +kernel
theorem dX7_far_12 : decode cX7_far 12 = .ok (.iload_n 0, 1) := by decide +kernel
theorem dX7_far_13 : decode cX7_far 13 = .ok (.bipush 6, 2) := by decide +kernel
theorem dX7_far_15 : decode cX7_far 15 = .ok (.idiv, 1) := by decide +kernel
theorem dX7_far_16 : decode cX7_far 16 = .ok (.iload_n 1, 1) := by decide +kernel
theorem dX7_far_17 : decode cX7_far 17 = .ok (.bipush 6, 2) := by decide +kernel
theorem dX7_far_19 : decode cX7_far 19 = .ok (.idiv, 1) := by decide +kernel
theorem dX7_far_20 : decode cX7_far 20 = .ok (.isub, 1) := by decide +kernel
theorem dX7_far_21 : decode cX7_far 21 = .ok (.invokestatic 305, 3) := by decide +kernel
theorem dX7_far_24 : decode cX7_far 24 = .ok (.iadd, 1) := by decide +kernel
theorem dX7_far_25 : decode cX7_far 25 = .ok (.ireturn, 1) := by decide +kernel
theorem dX7_found_0 : decode cX7_found 0 = .ok (.aload_n 0, 1) := by decide +kernel
theorem dX7_found_1 : decode cX7_found 1 = .ok (.iload_n 1, 1) := by decide +kernel
theorem dX7_found_2 : decode cX7_found 2 = .ok (.putfield 302, 3) := by decide +kernel
theorem dX7_found_5 : decode cX7_found 5 = .ok (.ldc_w 310, 3) := by decide +kernel
theorem dX7_found_8 : decode cX7_found 8 = .ok (.iload_n 1, 1) := by decide +kernel
theorem dX7_found_9 : decode cX7_found 9 = .ok (.isub, 1) := by decide +kernel
theorem dX7_found_10 : decode cX7_found 10 = .ok (.ireturn, 1) := by decide +kernel
theorem dX7_nothingFound_0 : decode cX7_nothingFound 0 = .ok (.aload_n 0, 1) := by decide +kernel
theorem dX7_nothingFound_1 : decode cX7_nothingFound 1 = .ok (.iconst 0, 1) := by decide +kernel
theorem dX7_nothingFound_2 : decode cX7_nothingFound 2 = .ok (.putfield 302, 3) := by decide +kernel
theorem dX7_nothingFound_5 : decode cX7_nothingFound 5 = .ok (.iload_n 1, 1) := by decide +kernel
theorem dX7_nothingFound_6 : decode cX7_nothingFound 6 = .ok (.ireturn, 1) := by decide +kernel
theorem dX7_rowAt_0 : decode cX7_rowAt 0 = .ok (.iload_n 1, 1) := by decide +kernel
theorem dX7_rowAt_1 : decode cX7_rowAt 1 = .ok (.ifCond .lt 21, 3) := by decide +kernel
theorem dX7_rowAt_4 : decode cX7_rowAt 4 = .ok (.iload_n 1, 1) := by decide +kernel
theorem dX7_rowAt_5 : decode cX7_rowAt 5 = .ok (.aload_n 0, 1) := by decide +kernel
theorem dX7_rowAt_6 : decode cX7_rowAt 6 = .ok (.getfield 11, 3) := by decide +kernel
theorem dX7_rowAt_9 : decode cX7_rowAt 9 = .ok (.arraylength, 1) := by decide +kernel
theorem dX7_rowAt_10 : decode cX7_rowAt 10 = .ok (.if_icmp .ge 12, 3) := by decide +kernel
theorem dX7_rowAt_13 : decode cX7_rowAt 13 = .ok (.aload_n 0, 1) := by decide +kernel
theorem dX7_rowAt_14 : decode cX7_rowAt 14 = .ok (.getfield 11, 3) := by decide +kernel
theorem dX7_rowAt_17 : decode cX7_rowAt 17 = .ok (.iload_n 1, 1) := by decide +kernel
theorem dX7_rowAt_18 : decode cX7_rowAt 18 = .ok (.aaload, 1) := by decide +kernel
theorem dX7_rowAt_19 : decode cX7_rowAt 19 = .ok (.goto 4, 3) := by decide +kernel
theorem dX7_rowAt_22 : decode cX7_rowAt 22 = .ok (.aconst_null, 1) := by decide +kernel
theorem dX7_rowAt_23 : decode cX7_rowAt 23 = .ok (.areturn, 1) := by decide +kernel
theorem dX7_imageAt_0 : decode cX7_imageAt 0 = .ok (.iload_n 1, 1) := by decide +kernel
theorem dX7_imageAt_1 : decode cX7_imageAt 1 = .ok (.ifCond .lt 21, 3) := by decide +kernel
theorem dX7_imageAt_4 : decode cX7_imageAt 4 = .ok (.iload_n 1, 1) := by decide +kernel
theorem dX7_imageAt_5 : decode cX7_imageAt 5 = .ok (.aload_n 0, 1) := by decide +kernel
theorem dX7_imageAt_6 : decode cX7_imageAt 6 = .ok (.getfield 35, 3) := by decide +kernel
theorem dX7_imageAt_9 : decode cX7_imageAt 9 = .ok (.arraylength, 1) := by decide +kernel
theorem dX7_imageAt_10 : decode cX7_imageAt 10 = .ok (.if_icmp .ge 12, 3) := by decide +kernel
theorem dX7_imageAt_13 : decode cX7_imageAt 13 = .ok (.aload_n 0, 1) := by decide +kernel
theorem dX7_imageAt_14 : decode cX7_imageAt 14 = .ok (.getfield 35, 3) := by decide +kernel
theorem dX7_imageAt_17 : decode cX7_imageAt 17 = .ok (.iload_n 1, 1) := by decide +kernel
theorem dX7_imageAt_18 : decode cX7_imageAt 18 = .ok (.aaload, 1) := by decide +kernel
theorem dX7_imageAt_19 : decode cX7_imageAt 19 = .ok (.goto 4, 3) := by decide +kernel
theorem dX7_imageAt_22 : decode cX7_imageAt 22 = .ok (.aconst_null, 1) := by decide +kernel
theorem dX7_imageAt_23 : decode cX7_imageAt 23 = .ok (.areturn, 1) := by decide +kernel
theorem dX7_countRows_0 : decode cX7_countRows 0 = .ok (.iconst 0, 1) := by decide +kernel
theorem dX7_countRows_1 : decode cX7_countRows 1 = .ok (.istore_n 1, 1) := by decide +kernel
theorem dX7_countRows_2 : decode cX7_countRows 2 = .ok (.iconst 0, 1) := by decide +kernel
theorem dX7_countRows_3 : decode cX7_countRows 3 = .ok (.istore_n 2, 1) := by decide +kernel
theorem dX7_countRows_4 : decode cX7_countRows 4 = .ok (.iload_n 2, 1) := by decide +kernel
theorem dX7_countRows_5 : decode cX7_countRows 5 = .ok (.aload_n 0, 1) := by decide +kernel
theorem dX7_countRows_6 : decode cX7_countRows 6 = .ok (.getfield 11, 3) := by decide +kernel
theorem dX7_countRows_9 : decode cX7_countRows 9 = .ok (.arraylength, 1) := by decide +kernel
theorem dX7_countRows_10 : decode cX7_countRows 10 = .ok (.if_icmp .ge 29, 3) := by decide +kernel
theorem dX7_countRows_13 : decode cX7_countRows 13 = .ok (.aload_n 0, 1) := by decide +kernel
theorem dX7_countRows_14 : decode cX7_countRows 14 = .ok (.iload_n 2, 1) := by decide +kernel
theorem dX7_countRows_15 : decode cX7_countRows 15 = .ok (.invokevirtual 74, 3) := by decide +kernel
theorem dX7_countRows_18 : decode cX7_countRows 18 = .ok (.astore_n 3, 1) := by decide +kernel
theorem dX7_countRows_19 : decode cX7_countRows 19 = .ok (.aload_n 3, 1) := by decide +kernel
theorem dX7_countRows_20 : decode cX7_countRows 20 = .ok (.ifnull 13, 3) := by decide +kernel
theorem dX7_countRows_23 : decode cX7_countRows 23 = .ok (.aload_n 3, 1) := by decide +kernel
theorem dX7_countRows_24 : decode cX7_countRows 24 = .ok (.invokevirtual 90, 3) := by decide +kernel
theorem dX7_countRows_27 : decode cX7_countRows 27 = .ok (.ifCond .ne 6, 3) := by decide +kernel
theorem dX7_countRows_30 : decode cX7_countRows 30 = .ok (.iinc 1 1, 3) := by decide +kernel
theorem dX7_countRows_33 : decode cX7_countRows 33 = .ok (.iinc 2 1, 3) := by decide +kernel
theorem dX7_countRows_36 : decode cX7_countRows 36 = .ok (.goto (-32), 3) := by decide +kernel
theorem dX7_countRows_39 : decode cX7_countRows 39 = .ok (.iload_n 1, 1) := by decide +kernel
theorem dX7_countRows_40 : decode cX7_countRows 40 = .ok (.ireturn, 1) := by decide +kernel
theorem dX7_throwPennies_0 : decode cX7_throwPennies 0 = .ok (.iload_n 2, 1) := by decide +kernel
theorem dX7_throwPennies_1 : decode cX7_throwPennies 1 = .ok (.i2l, 1) := by decide +kernel
theorem dX7_throwPennies_2 : decode cX7_throwPennies 2 = .ok (.lstore_n 3, 1) := by decide +kernel
theorem dX7_throwPennies_3 : decode cX7_throwPennies 3 = .ok (.iconst 0, 1) := by decide +kernel
theorem dX7_throwPennies_4 : decode cX7_throwPennies 4 = .ok (.istore 5, 2) := by decide +kernel
theorem dX7_throwPennies_6 : decode cX7_throwPennies 6 = .ok (.iconst 0, 1) := by decide +kernel
theorem dX7_throwPennies_7 : decode cX7_throwPennies 7 = .ok (.istore 6, 2) := by decide +kernel
theorem dX7_throwPennies_9 : decode cX7_throwPennies 9 = .ok (.iload 6, 2) := by decide +kernel
theorem dX7_throwPennies_11 : decode cX7_throwPennies 11 = .ok (.iload_n 1, 1) := by decide +kernel
theorem dX7_throwPennies_12 : decode cX7_throwPennies 12 = .ok (.if_icmp .ge 62, 3) := by decide +kernel
theorem dX7_throwPennies_15 : decode cX7_throwPennies 15 = .ok (.lload_n 3, 1) := by decide +kernel
theorem dX7_throwPennies_16 : decode cX7_throwPennies 16 = .ok (.ldc2_w 311, 3) := by decide +kernel
theorem dX7_throwPennies_19 : decode cX7_throwPennies 19 = .ok (.lmul, 1) := by decide +kernel
theorem dX7_throwPennies_20 : decode cX7_throwPennies 20 = .ok (.ldc2_w 313, 3) := by decide +kernel
theorem dX7_throwPennies_23 : decode cX7_throwPennies 23 = .ok (.lrem, 1) := by decide +kernel
theorem dX7_throwPennies_24 : decode cX7_throwPennies 24 = .ok (.lstore_n 3, 1) := by decide +kernel
theorem dX7_throwPennies_25 : decode cX7_throwPennies 25 = .ok (.aload_n 0, 1) := by decide +kernel
theorem dX7_throwPennies_26 : decode cX7_throwPennies 26 = .ok (.getfield 25, 3) := by decide +kernel
theorem dX7_throwPennies_29 : decode cX7_throwPennies 29 = .ok (.aload_n 0, 1) := by decide +kernel
theorem dX7_throwPennies_30 : decode cX7_throwPennies 30 = .ok (.getfield 25, 3) := by decide +kernel
theorem dX7_throwPennies_33 : decode cX7_throwPennies 33 = .ok (.aload_n 0, 1) := by decide +kernel
theorem dX7_throwPennies_34 : decode cX7_throwPennies 34 = .ok (.getfield 49, 3) := by decide +kernel
theorem dX7_throwPennies_37 : decode cX7_throwPennies 37 = .ok (.lload_n 3, 1) := by decide +kernel
theorem dX7_throwPennies_38 : decode cX7_throwPennies 38 = .ok (.invokevirtual 315, 3) := by decide +kernel
theorem dX7_throwPennies_41 : decode cX7_throwPennies 41 = .ok (.invokevirtual 212, 3) := by decide +kernel
theorem dX7_throwPennies_44 : decode cX7_throwPennies 44 = .ok (.invokevirtual 182, 3) := by decide +kernel
theorem dX7_throwPennies_47 : decode cX7_throwPennies 47 = .ok (.astore 7, 2) := by decide +kernel
theorem dX7_throwPennies_49 : decode cX7_throwPennies 49 = .ok (.aload 7, 2) := by decide +kernel
theorem dX7_throwPennies_51 : decode cX7_throwPennies 51 = .ok (.ifnull 17, 3) := by decide +kernel
theorem dX7_throwPennies_54 : decode cX7_throwPennies 54 = .ok (.aload 7, 2) := by decide +kernel
theorem dX7_throwPennies_56 : decode cX7_throwPennies 56 = .ok (.dup, 1) := by decide +kernel
theorem dX7_throwPennies_57 : decode cX7_throwPennies 57 = .ok (.getfield 197, 3) := by decide +kernel
theorem dX7_throwPennies_60 : decode cX7_throwPennies 60 = .ok (.iconst 1, 1) := by decide +kernel
theorem dX7_throwPennies_61 : decode cX7_throwPennies 61 = .ok (.iadd, 1) := by decide +kernel
theorem dX7_throwPennies_62 : decode cX7_throwPennies 62 = .ok (.putfield 197, 3) := by decide +kernel
theorem dX7_throwPennies_65 : decode cX7_throwPennies 65 = .ok (.iinc 5 1, 3) := by decide +kernel
theorem dX7_throwPennies_68 : decode cX7_throwPennies 68 = .ok (.iinc 6 1, 3) := by decide +kernel
theorem dX7_throwPennies_71 : decode cX7_throwPennies 71 = .ok (.goto (-62), 3) := by decide +kernel
theorem dX7_throwPennies_74 : decode cX7_throwPennies 74 = .ok (.iload 5, 2) := by decide +kernel
theorem dX7_throwPennies_76 : decode cX7_throwPennies 76 = .ok (.ireturn, 1) := by decide +kernel
theorem dX7_fractionPart_0 : decode cX7_fractionPart 0 = .ok (.iload_n 0, 1) := by decide +kernel
theorem dX7_fractionPart_1 : decode cX7_fractionPart 1 = .ok (.iload_n 1, 1) := by decide +kernel
theorem dX7_fractionPart_2 : decode cX7_fractionPart 2 = .ok (.invokestatic 319, 3) := by decide +kernel
theorem dX7_fractionPart_5 : decode cX7_fractionPart 5 = .ok (.istore_n 3, 1) := by decide +kernel
theorem dX7_fractionPart_6 : decode cX7_fractionPart 6 = .ok (.iload_n 3, 1) := by decide +kernel
theorem dX7_fractionPart_7 : decode cX7_fractionPart 7 = .ok (.ifCond .ne 5, 3) := by decide +kernel
theorem dX7_fractionPart_10 : decode cX7_fractionPart 10 = .ok (.iconst 0, 1) := by decide +kernel
theorem dX7_fractionPart_11 : decode cX7_fractionPart 11 = .ok (.ireturn, 1) := by decide +kernel
theorem dX7_fractionPart_12 : decode cX7_fractionPart 12 = .ok (.iload_n 2, 1) := by decide +kernel
theorem dX7_fractionPart_13 : decode cX7_fractionPart 13 = .ok (.ifCond .ne 9, 3) := by decide +kernel
theorem dX7_fractionPart_16 : decode cX7_fractionPart 16 = .ok (.iload_n 0, 1) := by decide +kernel
theorem dX7_fractionPart_17 : decode cX7_fractionPart 17 = .ok (.iload_n 3, 1) := by decide +kernel
theorem dX7_fractionPart_18 : decode cX7_fractionPart 18 = .ok (.idiv, 1) := by decide +kernel
theorem dX7_fractionPart_19 : decode cX7_fractionPart 19 = .ok (.goto 6, 3) := by decide +kernel
theorem dX7_fractionPart_22 : decode cX7_fractionPart 22 = .ok (.iload_n 1, 1) := by decide +kernel
theorem dX7_fractionPart_23 : decode cX7_fractionPart 23 = .ok (.iload_n 3, 1) := by decide +kernel
theorem dX7_fractionPart_24 : decode cX7_fractionPart 24 = .ok (.idiv, 1) := by decide +kernel
theorem dX7_fractionPart_25 : decode cX7_fractionPart 25 = .ok (.ireturn, 1) := by decide +kernel
theorem dX7_commonDivisor_0 : decode cX7_commonDivisor 0 = .ok (.iload_n 0, 1) := by decide +kernel
theorem dX7_commonDivisor_1 : decode cX7_commonDivisor 1 = .ok (.istore_n 2, 1) := by decide +kernel
theorem dX7_commonDivisor_2 : decode cX7_commonDivisor 2 = .ok (.iload_n 1, 1) := by decide +kernel
theorem dX7_commonDivisor_3 : decode cX7_commonDivisor 3 = .ok (.istore_n 3, 1) := by decide +kernel
theorem dX7_commonDivisor_4 : decode cX7_commonDivisor 4 = .ok (.iconst 0, 1) := by decide +kernel
theorem dX7_commonDivisor_5 : decode cX7_commonDivisor 5 = .ok (.istore 4, 2) := by decide +kernel
theorem dX7_commonDivisor_7 : decode cX7_commonDivisor 7 = .ok (.iload 4, 2) := by decide +kernel
theorem dX7_commonDivisor_9 : decode cX7_commonDivisor 9 = .ok (.bipush 64, 2) := by decide +kernel
theorem dX7_commonDivisor_11 : decode cX7_commonDivisor 11 = .ok (.if_icmp .ge 23, 3) := by decide +kernel
theorem dX7_commonDivisor_14 : decode cX7_commonDivisor 14 = .ok (.iload_n 3, 1) := by decide +kernel
theorem dX7_commonDivisor_15 : decode cX7_commonDivisor 15 = .ok (.ifCond .eq 19, 3) := by decide +kernel
theorem dX7_commonDivisor_18 : decode cX7_commonDivisor 18 = .ok (.iload_n 2, 1) := by decide +kernel
theorem dX7_commonDivisor_19 : decode cX7_commonDivisor 19 = .ok (.iload_n 3, 1) := by decide +kernel
theorem dX7_commonDivisor_20 : decode cX7_commonDivisor 20 = .ok (.irem, 1) := by decide +kernel
theorem dX7_commonDivisor_21 : decode cX7_commonDivisor 21 = .ok (.istore 5, 2) := by decide +kernel
theorem dX7_commonDivisor_23 : decode cX7_commonDivisor 23 = .ok (.iload_n 3, 1) := by decide +kernel
theorem dX7_commonDivisor_24 : decode cX7_commonDivisor 24 = .ok (.istore_n 2, 1) := by decide +kernel
theorem dX7_commonDivisor_25 : decode cX7_commonDivisor 25 = .ok (.iload 5, 2) := by decide +kernel
theorem dX7_commonDivisor_27 : decode cX7_commonDivisor 27 = .ok (.istore_n 3, 1) := by decide +kernel
theorem dX7_commonDivisor_28 : decode cX7_commonDivisor 28 = .ok (.iinc 4 1, 3) := by decide +kernel
theorem dX7_commonDivisor_31 : decode cX7_commonDivisor 31 = .ok (.goto (-24), 3) := by decide +kernel
theorem dX7_commonDivisor_34 : decode cX7_commonDivisor 34 = .ok (.iload_n 2, 1) := by decide +kernel
theorem dX7_commonDivisor_35 : decode cX7_commonDivisor 35 = .ok (.ireturn, 1) := by decide +kernel
theorem dX7_bestCell_0 : decode cX7_bestCell 0 = .ok (.aload_n 0, 1) := by decide +kernel
theorem dX7_bestCell_1 : decode cX7_bestCell 1 = .ok (.getfield 49, 3) := by decide +kernel
theorem dX7_bestCell_4 : decode cX7_bestCell 4 = .ok (.aload_n 1, 1) := by decide +kernel
theorem dX7_bestCell_5 : decode cX7_bestCell 5 = .ok (.iload_n 2, 1) := by decide +kernel
theorem dX7_bestCell_6 : decode cX7_bestCell 6 = .ok (.iconst (-1), 1) := by decide +kernel
theorem dX7_bestCell_7 : decode cX7_bestCell 7 = .ok (.aload_n 0, 1) := by decide +kernel
theorem dX7_bestCell_8 : decode cX7_bestCell 8 = .ok (.getfield 53, 3) := by decide +kernel
theorem dX7_bestCell_11 : decode cX7_bestCell 11 = .ok (.invokevirtual 234, 3) := by decide +kernel
theorem dX7_bestCell_14 : decode cX7_bestCell 14 = .ok (.aload_n 0, 1) := by decide +kernel
theorem dX7_bestCell_15 : decode cX7_bestCell 15 = .ok (.getfield 53, 3) := by decide +kernel
theorem dX7_bestCell_18 : decode cX7_bestCell 18 = .ok (.invokestatic 247, 3) := by decide +kernel
theorem dX7_bestCell_21 : decode cX7_bestCell 21 = .ok (.ireturn, 1) := by decide +kernel
theorem dX7_largest_0 : decode cX7_largest 0 = .ok (.iconst 0, 1) := by decide +kernel
theorem dX7_largest_1 : decode cX7_largest 1 = .ok (.istore_n 1, 1) := by decide +kernel
theorem dX7_largest_2 : decode cX7_largest 2 = .ok (.iconst (-1), 1) := by decide +kernel
theorem dX7_largest_3 : decode cX7_largest 3 = .ok (.istore_n 2, 1) := by decide +kernel
theorem dX7_largest_4 : decode cX7_largest 4 = .ok (.iconst 0, 1) := by decide +kernel
theorem dX7_largest_5 : decode cX7_largest 5 = .ok (.istore_n 3, 1) := by decide +kernel
theorem dX7_largest_6 : decode cX7_largest 6 = .ok (.iload_n 3, 1) := by decide +kernel
theorem dX7_largest_7 : decode cX7_largest 7 = .ok (.aload_n 0, 1) := by decide +kernel
theorem dX7_largest_8 : decode cX7_largest 8 = .ok (.arraylength, 1) := by decide +kernel
theorem dX7_largest_9 : decode cX7_largest 9 = .ok (.if_icmp .ge 28, 3) := by decide +kernel
theorem dX7_largest_12 : decode cX7_largest 12 = .ok (.aload_n 0, 1) := by decide +kernel
theorem dX7_largest_13 : decode cX7_largest 13 = .ok (.iload_n 3, 1) := by decide +kernel
theorem dX7_largest_14 : decode cX7_largest 14 = .ok (.iaload, 1) := by decide +kernel
theorem dX7_largest_15 : decode cX7_largest 15 = .ok (.invokestatic 255, 3) := by decide +kernel
theorem dX7_largest_18 : decode cX7_largest 18 = .ok (.istore 4, 2) := by decide +kernel
theorem dX7_largest_20 : decode cX7_largest 20 = .ok (.iload 4, 2) := by decide +kernel
theorem dX7_largest_22 : decode cX7_largest 22 = .ok (.iload_n 2, 1) := by decide +kernel
theorem dX7_largest_23 : decode cX7_largest 23 = .ok (.if_icmp .le 8, 3) := by decide +kernel
theorem dX7_largest_26 : decode cX7_largest 26 = .ok (.iload 4, 2) := by decide +kernel
theorem dX7_largest_28 : decode cX7_largest 28 = .ok (.istore_n 2, 1) := by decide +kernel
theorem dX7_largest_29 : decode cX7_largest 29 = .ok (.iload_n 3, 1) := by decide +kernel
theorem dX7_largest_30 : decode cX7_largest 30 = .ok (.istore_n 1, 1) := by decide +kernel
theorem dX7_largest_31 : decode cX7_largest 31 = .ok (.iinc 3 1, 3) := by decide +kernel
theorem dX7_largest_34 : decode cX7_largest 34 = .ok (.goto (-28), 3) := by decide +kernel
theorem dX7_largest_37 : decode cX7_largest 37 = .ok (.iload_n 1, 1) := by decide +kernel
theorem dX7_largest_38 : decode cX7_largest 38 = .ok (.ireturn, 1) := by decide +kernel
theorem dX7_bestPair_0 : decode cX7_bestPair 0 = .ok (.iconst 0, 1) := by decide +kernel
theorem dX7_bestPair_1 : decode cX7_bestPair 1 = .ok (.istore_n 1, 1) := by decide +kernel
theorem dX7_bestPair_2 : decode cX7_bestPair 2 = .ok (.iconst (-1), 1) := by decide +kernel
theorem dX7_bestPair_3 : decode cX7_bestPair 3 = .ok (.istore_n 2, 1) := by decide +kernel
theorem dX7_bestPair_4 : decode cX7_bestPair 4 = .ok (.iconst 0, 1) := by decide +kernel
theorem dX7_bestPair_5 : decode cX7_bestPair 5 = .ok (.istore_n 3, 1) := by decide +kernel
theorem dX7_bestPair_6 : decode cX7_bestPair 6 = .ok (.iload_n 3, 1) := by decide +kernel
theorem dX7_bestPair_7 : decode cX7_bestPair 7 = .ok (.aload_n 0, 1) := by decide +kernel
theorem dX7_bestPair_8 : decode cX7_bestPair 8 = .ok (.getfield 53, 3) := by decide +kernel
theorem dX7_bestPair_11 : decode cX7_bestPair 11 = .ok (.arraylength, 1) := by decide +kernel
theorem dX7_bestPair_12 : decode cX7_bestPair 12 = .ok (.if_icmp .ge 64, 3) := by decide +kernel
theorem dX7_bestPair_15 : decode cX7_bestPair 15 = .ok (.iconst 0, 1) := by decide +kernel
theorem dX7_bestPair_16 : decode cX7_bestPair 16 = .ok (.istore 4, 2) := by decide +kernel
theorem dX7_bestPair_18 : decode cX7_bestPair 18 = .ok (.iload 4, 2) := by decide +kernel
theorem dX7_bestPair_20 : decode cX7_bestPair 20 = .ok (.aload_n 0, 1) := by decide +kernel
theorem dX7_bestPair_21 : decode cX7_bestPair 21 = .ok (.getfield 57, 3) := by decide +kernel
theorem dX7_bestPair_24 : decode cX7_bestPair 24 = .ok (.arraylength, 1) := by decide +kernel
theorem dX7_bestPair_25 : decode cX7_bestPair 25 = .ok (.if_icmp .ge 45, 3) := by decide +kernel
theorem dX7_bestPair_28 : decode cX7_bestPair 28 = .ok (.aload_n 0, 1) := by decide +kernel
theorem dX7_bestPair_29 : decode cX7_bestPair 29 = .ok (.getfield 53, 3) := by decide +kernel
theorem dX7_bestPair_32 : decode cX7_bestPair 32 = .ok (.iload_n 3, 1) := by decide +kernel
theorem dX7_bestPair_33 : decode cX7_bestPair 33 = .ok (.iaload, 1) := by decide +kernel
theorem dX7_bestPair_34 : decode cX7_bestPair 34 = .ok (.aload_n 0, 1) := by decide +kernel
theorem dX7_bestPair_35 : decode cX7_bestPair 35 = .ok (.getfield 57, 3) := by decide +kernel
theorem dX7_bestPair_38 : decode cX7_bestPair 38 = .ok (.iload 4, 2) := by decide +kernel
theorem dX7_bestPair_40 : decode cX7_bestPair 40 = .ok (.iaload, 1) := by decide +kernel
theorem dX7_bestPair_41 : decode cX7_bestPair 41 = .ok (.ior, 1) := by decide +kernel
theorem dX7_bestPair_42 : decode cX7_bestPair 42 = .ok (.invokestatic 255, 3) := by decide +kernel
theorem dX7_bestPair_45 : decode cX7_bestPair 45 = .ok (.istore 5, 2) := by decide +kernel
theorem dX7_bestPair_47 : decode cX7_bestPair 47 = .ok (.iload 5, 2) := by decide +kernel
theorem dX7_bestPair_49 : decode cX7_bestPair 49 = .ok (.iload_n 2, 1) := by decide +kernel
theorem dX7_bestPair_50 : decode cX7_bestPair 50 = .ok (.if_icmp .le 14, 3) := by decide +kernel
theorem dX7_bestPair_53 : decode cX7_bestPair 53 = .ok (.iload 5, 2) := by decide +kernel
theorem dX7_bestPair_55 : decode cX7_bestPair 55 = .ok (.istore_n 2, 1) := by decide +kernel
theorem dX7_bestPair_56 : decode cX7_bestPair 56 = .ok (.iload_n 3, 1) := by decide +kernel
theorem dX7_bestPair_57 : decode cX7_bestPair 57 = .ok (.bipush 30, 2) := by decide +kernel
theorem dX7_bestPair_59 : decode cX7_bestPair 59 = .ok (.imul, 1) := by decide +kernel
theorem dX7_bestPair_60 : decode cX7_bestPair 60 = .ok (.iload 4, 2) := by decide +kernel
theorem dX7_bestPair_62 : decode cX7_bestPair 62 = .ok (.iadd, 1) := by decide +kernel
theorem dX7_bestPair_63 : decode cX7_bestPair 63 = .ok (.istore_n 1, 1) := by decide +kernel
theorem dX7_bestPair_64 : decode cX7_bestPair 64 = .ok (.iinc 4 1, 3) := by decide +kernel
theorem dX7_bestPair_67 : decode cX7_bestPair 67 = .ok (.goto (-49), 3) := by decide +kernel
theorem dX7_bestPair_70 : decode cX7_bestPair 70 = .ok (.iinc 3 1, 3) := by decide +kernel
theorem dX7_bestPair_73 : decode cX7_bestPair 73 = .ok (.goto (-67), 3) := by decide +kernel
theorem dX7_bestPair_76 : decode cX7_bestPair 76 = .ok (.iload_n 1, 1) := by decide +kernel
theorem dX7_bestPair_77 : decode cX7_bestPair 77 = .ok (.ireturn, 1) := by decide +kernel
theorem dX7_settle_0 : decode cX7_settle 0 = .ok (.iconst 1, 1) := by decide +kernel
theorem dX7_settle_1 : decode cX7_settle 1 = .ok (.istore_n 1, 1) := by decide +kernel
theorem dX7_settle_2 : decode cX7_settle 2 = .ok (.iload_n 1, 1) := by decide +kernel
theorem dX7_settle_3 : decode cX7_settle 3 = .ok (.bipush 20, 2) := by decide +kernel
theorem dX7_settle_5 : decode cX7_settle 5 = .ok (.if_icmp .gt 84, 3) := by decide +kernel
theorem dX7_settle_8 : decode cX7_settle 8 = .ok (.iconst 0, 1) := by decide +kernel
theorem dX7_settle_9 : decode cX7_settle 9 = .ok (.istore_n 2, 1) := by decide +kernel
theorem dX7_settle_10 : decode cX7_settle 10 = .ok (.iconst 0, 1) := by decide +kernel
theorem dX7_settle_11 : decode cX7_settle 11 = .ok (.istore_n 3, 1) := by decide +kernel
theorem dX7_settle_12 : decode cX7_settle 12 = .ok (.iload_n 3, 1) := by decide +kernel
theorem dX7_settle_13 : decode cX7_settle 13 = .ok (.iconst 5, 1) := by decide +kernel
theorem dX7_settle_14 : decode cX7_settle 14 = .ok (.if_icmp .ge 63, 3) := by decide +kernel
theorem dX7_settle_17 : decode cX7_settle 17 = .ok (.aload_n 0, 1) := by decide +kernel
theorem dX7_settle_18 : decode cX7_settle 18 = .ok (.getfield 32, 3) := by decide +kernel
theorem dX7_settle_21 : decode cX7_settle 21 = .ok (.iload_n 3, 1) := by decide +kernel
theorem dX7_settle_22 : decode cX7_settle 22 = .ok (.invokevirtual 182, 3) := by decide +kernel
theorem dX7_settle_25 : decode cX7_settle 25 = .ok (.astore 4, 2) := by decide +kernel
theorem dX7_settle_27 : decode cX7_settle 27 = .ok (.aload 4, 2) := by decide +kernel
theorem dX7_settle_29 : decode cX7_settle 29 = .ok (.ifnonnull 7, 3) := by decide +kernel
theorem dX7_settle_32 : decode cX7_settle 32 = .ok (.iconst (-1), 1) := by decide +kernel
theorem dX7_settle_33 : decode cX7_settle 33 = .ok (.goto 12, 3) := by decide +kernel
theorem dX7_settle_36 : decode cX7_settle 36 = .ok (.aload_n 0, 1) := by decide +kernel
theorem dX7_settle_37 : decode cX7_settle 37 = .ok (.aload_n 0, 1) := by decide +kernel
theorem dX7_settle_38 : decode cX7_settle 38 = .ok (.getfield 32, 3) := by decide +kernel
theorem dX7_settle_41 : decode cX7_settle 41 = .ok (.iload_n 3, 1) := by decide +kernel
theorem dX7_settle_42 : decode cX7_settle 42 = .ok (.invokevirtual 231, 3) := by decide +kernel
theorem dX7_settle_45 : decode cX7_settle 45 = .ok (.istore 5, 2) := by decide +kernel
theorem dX7_settle_47 : decode cX7_settle 47 = .ok (.aload 4, 2) := by decide +kernel
theorem dX7_settle_49 : decode cX7_settle 49 = .ok (.ifnull 22, 3) := by decide +kernel
theorem dX7_settle_52 : decode cX7_settle 52 = .ok (.aload 4, 2) := by decide +kernel
theorem dX7_settle_54 : decode cX7_settle 54 = .ok (.getfield 186, 3) := by decide +kernel
theorem dX7_settle_57 : decode cX7_settle 57 = .ok (.iload 5, 2) := by decide +kernel
theorem dX7_settle_59 : decode cX7_settle 59 = .ok (.if_icmp .eq 12, 3) := by decide +kernel
theorem dX7_settle_62 : decode cX7_settle 62 = .ok (.aload 4, 2) := by decide +kernel
theorem dX7_settle_64 : decode cX7_settle 64 = .ok (.iload 5, 2) := by decide +kernel
theorem dX7_settle_66 : decode cX7_settle 66 = .ok (.putfield 186, 3) := by decide +kernel
theorem dX7_settle_69 : decode cX7_settle 69 = .ok (.iconst 1, 1) := by decide +kernel
theorem dX7_settle_70 : decode cX7_settle 70 = .ok (.istore_n 2, 1) := by decide +kernel
theorem dX7_settle_71 : decode cX7_settle 71 = .ok (.iinc 3 1, 3) := by decide +kernel
theorem dX7_settle_74 : decode cX7_settle 74 = .ok (.goto (-62), 3) := by decide +kernel
theorem dX7_settle_77 : decode cX7_settle 77 = .ok (.iload_n 2, 1) := by decide +kernel
theorem dX7_settle_78 : decode cX7_settle 78 = .ok (.ifCond .ne 5, 3) := by decide +kernel
theorem dX7_settle_81 : decode cX7_settle 81 = .ok (.iload_n 1, 1) := by decide +kernel
theorem dX7_settle_82 : decode cX7_settle 82 = .ok (.ireturn, 1) := by decide +kernel
theorem dX7_settle_83 : decode cX7_settle 83 = .ok (.iinc 1 1, 3) := by decide +kernel
theorem dX7_settle_86 : decode cX7_settle 86 = .ok (.goto (-84), 3) := by decide +kernel
theorem dX7_settle_89 : decode cX7_settle 89 = .ok (.ldc 215, 2) := by decide +kernel
theorem dX7_settle_91 : decode cX7_settle 91 = .ok (.ireturn, 1) := by decide +kernel
theorem dX7_tellPleased_0 : decode cX7_tellPleased 0 = .ok (.iconst 0, 1) := by decide +kernel
theorem dX7_tellPleased_1 : decode cX7_tellPleased 1 = .ok (.istore_n 2, 1) := by decide +kernel
theorem dX7_tellPleased_2 : decode cX7_tellPleased 2 = .ok (.iload_n 2, 1) := by decide +kernel
theorem dX7_tellPleased_3 : decode cX7_tellPleased 3 = .ok (.aload_n 0, 1) := by decide +kernel
theorem dX7_tellPleased_4 : decode cX7_tellPleased 4 = .ok (.getfield 60, 3) := by decide +kernel
theorem dX7_tellPleased_7 : decode cX7_tellPleased 7 = .ok (.arraylength, 1) := by decide +kernel
theorem dX7_tellPleased_8 : decode cX7_tellPleased 8 = .ok (.if_icmp .ge 35, 3) := by decide +kernel
theorem dX7_tellPleased_11 : decode cX7_tellPleased 11 = .ok (.aload_n 0, 1) := by decide +kernel
theorem dX7_tellPleased_12 : decode cX7_tellPleased 12 = .ok (.getfield 49, 3) := by decide +kernel
theorem dX7_tellPleased_15 : decode cX7_tellPleased 15 = .ok (.iload_n 2, 1) := by decide +kernel
theorem dX7_tellPleased_16 : decode cX7_tellPleased 16 = .ok (.iload_n 1, 1) := by decide +kernel
theorem dX7_tellPleased_17 : decode cX7_tellPleased 17 = .ok (.invokevirtual 176, 3) := by decide +kernel
theorem dX7_tellPleased_20 : decode cX7_tellPleased 20 = .ok (.aload_n 0, 1) := by decide +kernel
theorem dX7_tellPleased_21 : decode cX7_tellPleased 21 = .ok (.getfield 60, 3) := by decide +kernel
theorem dX7_tellPleased_24 : decode cX7_tellPleased 24 = .ok (.iload_n 2, 1) := by decide +kernel
theorem dX7_tellPleased_25 : decode cX7_tellPleased 25 = .ok (.aload_n 0, 1) := by decide +kernel
theorem dX7_tellPleased_26 : decode cX7_tellPleased 26 = .ok (.getfield 49, 3) := by decide +kernel
theorem dX7_tellPleased_29 : decode cX7_tellPleased 29 = .ok (.aload_n 0, 1) := by decide +kernel
theorem dX7_tellPleased_30 : decode cX7_tellPleased 30 = .ok (.getfield 25, 3) := by decide +kernel
theorem dX7_tellPleased_33 : decode cX7_tellPleased 33 = .ok (.invokevirtual 251, 3) := by decide +kernel
theorem dX7_tellPleased_36 : decode cX7_tellPleased 36 = .ok (.iastore, 1) := by decide +kernel
theorem dX7_tellPleased_37 : decode cX7_tellPleased 37 = .ok (.iinc 2 1, 3) := by decide +kernel
theorem dX7_tellPleased_40 : decode cX7_tellPleased 40 = .ok (.goto (-38), 3) := by decide +kernel
theorem dX7_tellPleased_43 : decode cX7_tellPleased 43 = .ok (.return_, 1) := by decide +kernel
theorem dX7_fewestThrows_0 : decode cX7_fewestThrows 0 = .ok (.iload_n 1, 1) := by decide +kernel
theorem dX7_fewestThrows_1 : decode cX7_fewestThrows 1 = .ok (.ifCond .ne 5, 3) := by decide +kernel
theorem dX7_fewestThrows_4 : decode cX7_fewestThrows 4 = .ok (.iconst 0, 1) := by decide +kernel
theorem dX7_fewestThrows_5 : decode cX7_fewestThrows 5 = .ok (.ireturn, 1) := by decide +kernel
theorem dX7_fewestThrows_6 : decode cX7_fewestThrows 6 = .ok (.aload_n 0, 1) := by decide +kernel
theorem dX7_fewestThrows_7 : decode cX7_fewestThrows 7 = .ok (.iconst 0, 1) := by decide +kernel
theorem dX7_fewestThrows_8 : decode cX7_fewestThrows 8 = .ok (.iconst 0, 1) := by decide +kernel
theorem dX7_fewestThrows_9 : decode cX7_fewestThrows 9 = .ok (.iconst 0, 1) := by decide +kernel
theorem dX7_fewestThrows_10 : decode cX7_fewestThrows 10 = .ok (.iload_n 1, 1) := by decide +kernel
theorem dX7_fewestThrows_11 : decode cX7_fewestThrows 11 = .ok (.invokevirtual 322, 3) := by decide +kernel
theorem dX7_fewestThrows_14 : decode cX7_fewestThrows 14 = .ok (.ifCond .eq 5, 3) := by decide +kernel
theorem dX7_fewestThrows_17 : decode cX7_fewestThrows 17 = .ok (.iconst 1, 1) := by decide +kernel
theorem dX7_fewestThrows_18 : decode cX7_fewestThrows 18 = .ok (.ireturn, 1) := by decide +kernel
theorem dX7_fewestThrows_19 : decode cX7_fewestThrows 19 = .ok (.aload_n 0, 1) := by decide +kernel
theorem dX7_fewestThrows_20 : decode cX7_fewestThrows 20 = .ok (.iconst 0, 1) := by decide +kernel
theorem dX7_fewestThrows_21 : decode cX7_fewestThrows 21 = .ok (.iconst 0, 1) := by decide +kernel
theorem dX7_fewestThrows_22 : decode cX7_fewestThrows 22 = .ok (.iconst 0, 1) := by decide +kernel
theorem dX7_fewestThrows_23 : decode cX7_fewestThrows 23 = .ok (.iload_n 1, 1) := by decide +kernel
theorem dX7_fewestThrows_24 : decode cX7_fewestThrows 24 = .ok (.invokevirtual 326, 3) := by decide +kernel
theorem dX7_fewestThrows_27 : decode cX7_fewestThrows 27 = .ok (.ifCond .eq 5, 3) := by decide +kernel
theorem dX7_fewestThrows_30 : decode cX7_fewestThrows 30 = .ok (.iconst 2, 1) := by decide +kernel
theorem dX7_fewestThrows_31 : decode cX7_fewestThrows 31 = .ok (.ireturn, 1) := by decide +kernel
theorem dX7_fewestThrows_32 : decode cX7_fewestThrows 32 = .ok (.aload_n 0, 1) := by decide +kernel
theorem dX7_fewestThrows_33 : decode cX7_fewestThrows 33 = .ok (.iload_n 1, 1) := by decide +kernel
theorem dX7_fewestThrows_34 : decode cX7_fewestThrows 34 = .ok (.invokevirtual 329, 3) := by decide +kernel
theorem dX7_fewestThrows_37 : decode cX7_fewestThrows 37 = .ok (.ifCond .eq 7, 3) := by decide +kernel
theorem dX7_fewestThrows_40 : decode cX7_fewestThrows 40 = .ok (.iconst 3, 1) := by decide +kernel
theorem dX7_fewestThrows_41 : decode cX7_fewestThrows 41 = .ok (.goto 5, 3) := by decide +kernel
theorem dX7_fewestThrows_44 : decode cX7_fewestThrows 44 = .ok (.ldc 215, 2) := by decide +kernel
theorem dX7_fewestThrows_46 : decode cX7_fewestThrows 46 = .ok (.ireturn, 1) := by decide +kernel
theorem dX7_chooseOne_0 : decode cX7_chooseOne 0 = .ok (.iload_n 2, 1) := by decide +kernel
theorem dX7_chooseOne_1 : decode cX7_chooseOne 1 = .ok (.iconst 0, 1) := by decide +kernel
theorem dX7_chooseOne_2 : decode cX7_chooseOne 2 = .ok (.invokestatic 332, 3) := by decide +kernel
theorem dX7_chooseOne_5 : decode cX7_chooseOne 5 = .ok (.istore 5, 2) := by decide +kernel
theorem dX7_chooseOne_7 : decode cX7_chooseOne 7 = .ok (.iload 5, 2) := by decide +kernel
theorem dX7_chooseOne_9 : decode cX7_chooseOne 9 = .ok (.aload_n 0, 1) := by decide +kernel
theorem dX7_chooseOne_10 : decode cX7_chooseOne 10 = .ok (.getfield 60, 3) := by decide +kernel
theorem dX7_chooseOne_13 : decode cX7_chooseOne 13 = .ok (.arraylength, 1) := by decide +kernel
theorem dX7_chooseOne_14 : decode cX7_chooseOne 14 = .ok (.if_icmp .ge 32, 3) := by decide +kernel
theorem dX7_chooseOne_17 : decode cX7_chooseOne 17 = .ok (.iload_n 3, 1) := by decide +kernel
theorem dX7_chooseOne_18 : decode cX7_chooseOne 18 = .ok (.aload_n 0, 1) := by decide +kernel
theorem dX7_chooseOne_19 : decode cX7_chooseOne 19 = .ok (.getfield 60, 3) := by decide +kernel
theorem dX7_chooseOne_22 : decode cX7_chooseOne 22 = .ok (.iload 5, 2) := by decide +kernel
theorem dX7_chooseOne_24 : decode cX7_chooseOne 24 = .ok (.iaload, 1) := by decide +kernel
theorem dX7_chooseOne_25 : decode cX7_chooseOne 25 = .ok (.ior, 1) := by decide +kernel
theorem dX7_chooseOne_26 : decode cX7_chooseOne 26 = .ok (.iload 4, 2) := by decide +kernel
theorem dX7_chooseOne_28 : decode cX7_chooseOne 28 = .ok (.if_icmp .ne 12, 3) := by decide +kernel
theorem dX7_chooseOne_31 : decode cX7_chooseOne 31 = .ok (.aload_n 0, 1) := by decide +kernel
theorem dX7_chooseOne_32 : decode cX7_chooseOne 32 = .ok (.iload_n 1, 1) := by decide +kernel
theorem dX7_chooseOne_33 : decode cX7_chooseOne 33 = .ok (.iload 5, 2) := by decide +kernel
theorem dX7_chooseOne_35 : decode cX7_chooseOne 35 = .ok (.invokevirtual 335, 3) := by decide +kernel
theorem dX7_chooseOne_38 : decode cX7_chooseOne 38 = .ok (.iconst 1, 1) := by decide +kernel
theorem dX7_chooseOne_39 : decode cX7_chooseOne 39 = .ok (.ireturn, 1) := by decide +kernel
theorem dX7_chooseOne_40 : decode cX7_chooseOne 40 = .ok (.iinc 5 1, 3) := by decide +kernel
theorem dX7_chooseOne_43 : decode cX7_chooseOne 43 = .ok (.goto (-36), 3) := by decide +kernel
theorem dX7_chooseOne_46 : decode cX7_chooseOne 46 = .ok (.iconst 0, 1) := by decide +kernel
theorem dX7_chooseOne_47 : decode cX7_chooseOne 47 = .ok (.ireturn, 1) := by decide +kernel
theorem dX7_chooseTwo_0 : decode cX7_chooseTwo 0 = .ok (.iload_n 2, 1) := by decide +kernel
theorem dX7_chooseTwo_1 : decode cX7_chooseTwo 1 = .ok (.iconst 0, 1) := by decide +kernel
theorem dX7_chooseTwo_2 : decode cX7_chooseTwo 2 = .ok (.invokestatic 332, 3) := by decide +kernel
theorem dX7_chooseTwo_5 : decode cX7_chooseTwo 5 = .ok (.istore 5, 2) := by decide +kernel
theorem dX7_chooseTwo_7 : decode cX7_chooseTwo 7 = .ok (.iload 5, 2) := by decide +kernel
theorem dX7_chooseTwo_9 : decode cX7_chooseTwo 9 = .ok (.aload_n 0, 1) := by decide +kernel
theorem dX7_chooseTwo_10 : decode cX7_chooseTwo 10 = .ok (.getfield 60, 3) := by decide +kernel
theorem dX7_chooseTwo_13 : decode cX7_chooseTwo 13 = .ok (.arraylength, 1) := by decide +kernel
theorem dX7_chooseTwo_14 : decode cX7_chooseTwo 14 = .ok (.if_icmp .ge 43, 3) := by decide +kernel
theorem dX7_chooseTwo_17 : decode cX7_chooseTwo 17 = .ok (.aload_n 0, 1) := by decide +kernel
theorem dX7_chooseTwo_18 : decode cX7_chooseTwo 18 = .ok (.iload_n 1, 1) := by decide +kernel
theorem dX7_chooseTwo_19 : decode cX7_chooseTwo 19 = .ok (.iconst 1, 1) := by decide +kernel
theorem dX7_chooseTwo_20 : decode cX7_chooseTwo 20 = .ok (.iadd, 1) := by decide +kernel
theorem dX7_chooseTwo_21 : decode cX7_chooseTwo 21 = .ok (.iload 5, 2) := by decide +kernel
theorem dX7_chooseTwo_23 : decode cX7_chooseTwo 23 = .ok (.iconst 1, 1) := by decide +kernel
theorem dX7_chooseTwo_24 : decode cX7_chooseTwo 24 = .ok (.iadd, 1) := by decide +kernel
theorem dX7_chooseTwo_25 : decode cX7_chooseTwo 25 = .ok (.iload_n 3, 1) := by decide +kernel
theorem dX7_chooseTwo_26 : decode cX7_chooseTwo 26 = .ok (.aload_n 0, 1) := by decide +kernel
theorem dX7_chooseTwo_27 : decode cX7_chooseTwo 27 = .ok (.getfield 60, 3) := by decide +kernel
theorem dX7_chooseTwo_30 : decode cX7_chooseTwo 30 = .ok (.iload 5, 2) := by decide +kernel
theorem dX7_chooseTwo_32 : decode cX7_chooseTwo 32 = .ok (.iaload, 1) := by decide +kernel
theorem dX7_chooseTwo_33 : decode cX7_chooseTwo 33 = .ok (.ior, 1) := by decide +kernel
theorem dX7_chooseTwo_34 : decode cX7_chooseTwo 34 = .ok (.iload 4, 2) := by decide +kernel
theorem dX7_chooseTwo_36 : decode cX7_chooseTwo 36 = .ok (.invokevirtual 322, 3) := by decide +kernel
theorem dX7_chooseTwo_39 : decode cX7_chooseTwo 39 = .ok (.ifCond .eq 12, 3) := by decide +kernel
theorem dX7_chooseTwo_42 : decode cX7_chooseTwo 42 = .ok (.aload_n 0, 1) := by decide +kernel
theorem dX7_chooseTwo_43 : decode cX7_chooseTwo 43 = .ok (.iload_n 1, 1) := by decide +kernel
theorem dX7_chooseTwo_44 : decode cX7_chooseTwo 44 = .ok (.iload 5, 2) := by decide +kernel
theorem dX7_chooseTwo_46 : decode cX7_chooseTwo 46 = .ok (.invokevirtual 335, 3) := by decide +kernel
theorem dX7_chooseTwo_49 : decode cX7_chooseTwo 49 = .ok (.iconst 1, 1) := by decide +kernel
theorem dX7_chooseTwo_50 : decode cX7_chooseTwo 50 = .ok (.ireturn, 1) := by decide +kernel
theorem dX7_chooseTwo_51 : decode cX7_chooseTwo 51 = .ok (.iinc 5 1, 3) := by decide +kernel
theorem dX7_chooseTwo_54 : decode cX7_chooseTwo 54 = .ok (.goto (-47), 3) := by decide +kernel
theorem dX7_chooseTwo_57 : decode cX7_chooseTwo 57 = .ok (.iconst 0, 1) := by decide +kernel
theorem dX7_chooseTwo_58 : decode cX7_chooseTwo 58 = .ok (.ireturn, 1) := by decide +kernel
theorem dX7_chooseThree_0 : decode cX7_chooseThree 0 = .ok (.iconst 0, 1) := by decide +kernel
theorem dX7_chooseThree_1 : decode cX7_chooseThree 1 = .ok (.istore_n 2, 1) := by decide +kernel
theorem dX7_chooseThree_2 : decode cX7_chooseThree 2 = .ok (.iload_n 2, 1) := by decide +kernel
theorem dX7_chooseThree_3 : decode cX7_chooseThree 3 = .ok (.aload_n 0, 1) := by decide +kernel
theorem dX7_chooseThree_4 : decode cX7_chooseThree 4 = .ok (.getfield 60, 3) := by decide +kernel
theorem dX7_chooseThree_7 : decode cX7_chooseThree 7 = .ok (.arraylength, 1) := by decide +kernel
theorem dX7_chooseThree_8 : decode cX7_chooseThree 8 = .ok (.if_icmp .ge 35, 3) := by decide +kernel
theorem dX7_chooseThree_11 : decode cX7_chooseThree 11 = .ok (.aload_n 0, 1) := by decide +kernel
theorem dX7_chooseThree_12 : decode cX7_chooseThree 12 = .ok (.iconst 1, 1) := by decide +kernel
theorem dX7_chooseThree_13 : decode cX7_chooseThree 13 = .ok (.iload_n 2, 1) := by decide +kernel
theorem dX7_chooseThree_14 : decode cX7_chooseThree 14 = .ok (.iconst 1, 1) := by decide +kernel
theorem dX7_chooseThree_15 : decode cX7_chooseThree 15 = .ok (.iadd, 1) := by decide +kernel
theorem dX7_chooseThree_16 : decode cX7_chooseThree 16 = .ok (.aload_n 0, 1) := by decide +kernel
theorem dX7_chooseThree_17 : decode cX7_chooseThree 17 = .ok (.getfield 60, 3) := by decide +kernel
theorem dX7_chooseThree_20 : decode cX7_chooseThree 20 = .ok (.iload_n 2, 1) := by decide +kernel
theorem dX7_chooseThree_21 : decode cX7_chooseThree 21 = .ok (.iaload, 1) := by decide +kernel
theorem dX7_chooseThree_22 : decode cX7_chooseThree 22 = .ok (.iload_n 1, 1) := by decide +kernel
theorem dX7_chooseThree_23 : decode cX7_chooseThree 23 = .ok (.invokevirtual 326, 3) := by decide +kernel
theorem dX7_chooseThree_26 : decode cX7_chooseThree 26 = .ok (.ifCond .eq 11, 3) := by decide +kernel
theorem dX7_chooseThree_29 : decode cX7_chooseThree 29 = .ok (.aload_n 0, 1) := by decide +kernel
theorem dX7_chooseThree_30 : decode cX7_chooseThree 30 = .ok (.iconst 0, 1) := by decide +kernel
theorem dX7_chooseThree_31 : decode cX7_chooseThree 31 = .ok (.iload_n 2, 1) := by decide +kernel
theorem dX7_chooseThree_32 : decode cX7_chooseThree 32 = .ok (.invokevirtual 335, 3) := by decide +kernel
theorem dX7_chooseThree_35 : decode cX7_chooseThree 35 = .ok (.iconst 1, 1) := by decide +kernel
theorem dX7_chooseThree_36 : decode cX7_chooseThree 36 = .ok (.ireturn, 1) := by decide +kernel
theorem dX7_chooseThree_37 : decode cX7_chooseThree 37 = .ok (.iinc 2 1, 3) := by decide +kernel
theorem dX7_chooseThree_40 : decode cX7_chooseThree 40 = .ok (.goto (-38), 3) := by decide +kernel
theorem dX7_chooseThree_43 : decode cX7_chooseThree 43 = .ok (.iconst 0, 1) := by decide +kernel
theorem dX7_chooseThree_44 : decode cX7_chooseThree 44 = .ok (.ireturn, 1) := by decide +kernel
theorem dX7_choose_0 : decode cX7_choose 0 = .ok (.iload_n 1, 1) := by decide +kernel
theorem dX7_choose_1 : decode cX7_choose 1 = .ok (.ifCond .lt 19, 3) := by decide +kernel
theorem dX7_choose_4 : decode cX7_choose 4 = .ok (.iload_n 1, 1) := by decide +kernel
theorem dX7_choose_5 : decode cX7_choose 5 = .ok (.aload_n 0, 1) := by decide +kernel
theorem dX7_choose_6 : decode cX7_choose 6 = .ok (.getfield 63, 3) := by decide +kernel
theorem dX7_choose_9 : decode cX7_choose 9 = .ok (.arraylength, 1) := by decide +kernel
theorem dX7_choose_10 : decode cX7_choose 10 = .ok (.if_icmp .ge 10, 3) := by decide +kernel
theorem dX7_choose_13 : decode cX7_choose 13 = .ok (.aload_n 0, 1) := by decide +kernel
theorem dX7_choose_14 : decode cX7_choose 14 = .ok (.getfield 63, 3) := by decide +kernel
theorem dX7_choose_17 : decode cX7_choose 17 = .ok (.iload_n 1, 1) := by decide +kernel
theorem dX7_choose_18 : decode cX7_choose 18 = .ok (.iload_n 2, 1) := by decide +kernel
theorem dX7_choose_19 : decode cX7_choose 19 = .ok (.iastore, 1) := by decide +kernel
theorem dX7_choose_20 : decode cX7_choose 20 = .ok (.return_, 1) := by decide +kernel
theorem dX7_cellsWith_0 : decode cX7_cellsWith 0 = .ok (.iconst 0, 1) := by decide +kernel
theorem dX7_cellsWith_1 : decode cX7_cellsWith 1 = .ok (.istore_n 2, 1) := by decide +kernel
theorem dX7_cellsWith_2 : decode cX7_cellsWith 2 = .ok (.iconst 0, 1) := by decide +kernel
theorem dX7_cellsWith_3 : decode cX7_cellsWith 3 = .ok (.istore_n 3, 1) := by decide +kernel
theorem dX7_cellsWith_4 : decode cX7_cellsWith 4 = .ok (.iload_n 3, 1) := by decide +kernel
theorem dX7_cellsWith_5 : decode cX7_cellsWith 5 = .ok (.aload_n 0, 1) := by decide +kernel
theorem dX7_cellsWith_6 : decode cX7_cellsWith 6 = .ok (.getfield 53, 3) := by decide +kernel
theorem dX7_cellsWith_9 : decode cX7_cellsWith 9 = .ok (.arraylength, 1) := by decide +kernel
theorem dX7_cellsWith_10 : decode cX7_cellsWith 10 = .ok (.if_icmp .ge 28, 3) := by decide +kernel
theorem dX7_cellsWith_13 : decode cX7_cellsWith 13 = .ok (.aload_n 0, 1) := by decide +kernel
theorem dX7_cellsWith_14 : decode cX7_cellsWith 14 = .ok (.getfield 53, 3) := by decide +kernel
theorem dX7_cellsWith_17 : decode cX7_cellsWith 17 = .ok (.iload_n 3, 1) := by decide +kernel
theorem dX7_cellsWith_18 : decode cX7_cellsWith 18 = .ok (.iaload, 1) := by decide +kernel
theorem dX7_cellsWith_19 : decode cX7_cellsWith 19 = .ok (.invokestatic 255, 3) := by decide +kernel
theorem dX7_cellsWith_22 : decode cX7_cellsWith 22 = .ok (.iload_n 1, 1) := by decide +kernel
theorem dX7_cellsWith_23 : decode cX7_cellsWith 23 = .ok (.if_icmp .ne 9, 3) := by decide +kernel
theorem dX7_cellsWith_26 : decode cX7_cellsWith 26 = .ok (.iload_n 2, 1) := by decide +kernel
theorem dX7_cellsWith_27 : decode cX7_cellsWith 27 = .ok (.iconst 1, 1) := by decide +kernel
theorem dX7_cellsWith_28 : decode cX7_cellsWith 28 = .ok (.iload_n 3, 1) := by decide +kernel
theorem dX7_cellsWith_29 : decode cX7_cellsWith 29 = .ok (.ishl, 1) := by decide +kernel
theorem dX7_cellsWith_30 : decode cX7_cellsWith 30 = .ok (.ior, 1) := by decide +kernel
theorem dX7_cellsWith_31 : decode cX7_cellsWith 31 = .ok (.istore_n 2, 1) := by decide +kernel
theorem dX7_cellsWith_32 : decode cX7_cellsWith 32 = .ok (.iinc 3 1, 3) := by decide +kernel
theorem dX7_cellsWith_35 : decode cX7_cellsWith 35 = .ok (.goto (-31), 3) := by decide +kernel
theorem dX7_cellsWith_38 : decode cX7_cellsWith 38 = .ok (.iload_n 2, 1) := by decide +kernel
theorem dX7_cellsWith_39 : decode cX7_cellsWith 39 = .ok (.ireturn, 1) := by decide +kernel
end
section
theorem dX8_init_0 : decode cX8_init 0 = .ok (.aload_n 0, 1) := by decide +kernel
theorem dX8_init_1 : decode cX8_init 1 = .ok (.invokespecial 1, 3) := by decide +kernel
theorem dX8_init_4 : decode cX8_init 4 = .ok (.aload_n 0, 1) := by decide +kernel
theorem dX8_init_5 : decode cX8_init 5 = .ok (.bipush 8, 2) := by decide +kernel
theorem dX8_init_7 : decode cX8_init 7 = .ok (.newarray .int, 2) := by decide +kernel
theorem dX8_init_9 : decode cX8_init 9 = .ok (.putfield 7, 3) := by decide +kernel
theorem dX8_init_12 : decode cX8_init 12 = .ok (.aload_n 0, 1) := by decide +kernel
theorem dX8_init_13 : decode cX8_init 13 = .ok (.bipush 8, 2) := by decide +kernel
theorem dX8_init_15 : decode cX8_init 15 = .ok (.newarray .int, 2) := by decide +kernel
theorem dX8_init_17 : decode cX8_init 17 = .ok (.putfield 13, 3) := by decide +kernel
theorem dX8_init_20 : decode cX8_init 20 = .ok (.aload_n 0, 1) := by decide +kernel
theorem dX8_init_21 : decode cX8_init 21 = .ok (.sipush 320, 3) := by decide +kernel
theorem dX8_init_24 : decode cX8_init 24 = .ok (.newarray .int, 2) := by decide +kernel
theorem dX8_init_26 : decode cX8_init 26 = .ok (.putfield 16, 3) := by decide +kernel
theorem dX8_init_29 : decode cX8_init 29 = .ok (.aload_n 0, 1) := by decide +kernel
theorem dX8_init_30 : decode cX8_init 30 = .ok (.sipush 300, 3) := by decide +kernel
theorem dX8_init_33 : decode cX8_init 33 = .ok (.newarray .int, 2) := by decide +kernel
theorem dX8_init_35 : decode cX8_init 35 = .ok (.putfield 19, 3) := by decide +kernel
theorem dX8_init_38 : decode cX8_init 38 = .ok (.aload_n 0, 1) := by decide +kernel
theorem dX8_init_39 : decode cX8_init 39 = .ok (.bipush 39, 2) := by decide +kernel
theorem dX8_init_41 : decode cX8_init 41 = .ok (.newarray .int, 2) := by decide +kernel
theorem dX8_init_43 : decode cX8_init 43 = .ok (.putfield 22, 3) := by decide +kernel
theorem dX8_init_46 : decode cX8_init 46 = .ok (.aload_n 0, 1) := by decide +kernel
theorem dX8_init_47 : decode cX8_init 47 = .ok (.bipush 39, 2) := by decide +kernel
theorem dX8_init_49 : decode cX8_init 49 = .ok (.newarray .int, 2) := by decide +kernel
theorem dX8_init_51 : decode cX8_init 51 = .ok (.putfield 25, 3) := by decide +kernel
theorem dX8_init_54 : decode cX8_init 54 = .ok (.aload_n 0, 1) := by decide +kernel
theorem dX8_init_55 : decode cX8_init 55 = .ok (.sipush 936, 3) := by decide +kernel
theorem dX8_init_58 : decode cX8_init 58 = .ok (.newarray .int, 2) := by decide +kernel
theorem dX8_init_60 : decode cX8_init 60 = .ok (.putfield 28, 3) := by decide +kernel
theorem dX8_init_63 : decode cX8_init 63 = .ok (.aload_n 0, 1) := by decide +kernel
theorem dX8_init_64 : decode cX8_init 64 = .ok (.bipush 78, 2) := by decide +kernel
theorem dX8_init_66 : decode cX8_init 66 = .ok (.newarray .int, 2) := by decide +kernel
theorem dX8_init_68 : decode cX8_init 68 = .ok (.putfield 31, 3) := by decide +kernel
theorem dX8_init_71 : decode cX8_init 71 = .ok (.aload_n 0, 1) := by decide +kernel
theorem dX8_init_72 : decode cX8_init 72 = .ok (.iconst 2, 1) := by decide +kernel
theorem dX8_init_73 : decode cX8_init 73 = .ok (.newarray .boolean, 2) := by decide +kernel
theorem dX8_init_75 : decode cX8_init 75 = .ok (.putfield 34, 3) := by decide +kernel
theorem dX8_init_78 : decode cX8_init 78 = .ok (.aload_n 0, 1) := by decide +kernel
theorem dX8_init_79 : decode cX8_init 79 = .ok (.bipush 16, 2) := by decide +kernel
theorem dX8_init_81 : decode cX8_init 81 = .ok (.newarray .int, 2) := by decide +kernel
theorem dX8_init_83 : decode cX8_init 83 = .ok (.putfield 38, 3) := by decide +kernel
theorem dX8_init_86 : decode cX8_init 86 = .ok (.aload_n 0, 1) := by decide +kernel
theorem dX8_init_87 : decode cX8_init 87 = .ok (.iconst 5, 1) := by decide +kernel
theorem dX8_init_88 : decode cX8_init 88 = .ok (.newarray .int, 2) := by decide +kernel
theorem dX8_init_90 : decode cX8_init 90 = .ok (.putfield 41, 3) := by decide +kernel
theorem dX8_init_93 : decode cX8_init 93 = .ok (.aload_n 0, 1) := by decide +kernel
theorem dX8_init_94 : decode cX8_init 94 = .ok (.bipush 30, 2) := by decide +kernel
theorem dX8_init_96 : decode cX8_init 96 = .ok (.newarray .int, 2) := by decide +kernel
theorem dX8_init_98 : decode cX8_init 98 = .ok (.putfield 44, 3) := by decide +kernel
theorem dX8_init_101 : decode cX8_init 101 = .ok (.aload_n 0, 1) := by decide +kernel
theorem dX8_init_102 : decode cX8_init 102 = .ok (.bipush 19, 2) := by decide +kernel
theorem dX8_init_104 : decode cX8_init 104 = .ok (.newarray .int, 2) := by decide +kernel
theorem dX8_init_106 : decode cX8_init 106 = .ok (.putfield 47, 3) := by decide +kernel
theorem dX8_init_109 : decode cX8_init 109 = .ok (.aload_n 0, 1) := by decide +kernel
theorem dX8_init_110 : decode cX8_init 110 = .ok (.bipush 30, 2) := by decide +kernel
theorem dX8_init_112 : decode cX8_init 112 = .ok (.newarray .int, 2) := by decide +kernel
theorem dX8_init_114 : decode cX8_init 114 = .ok (.putfield 50, 3) := by decide +kernel
theorem dX8_init_117 : decode cX8_init 117 = .ok (.iconst 0, 1) := by decide +kernel
theorem dX8_init_118 : decode cX8_init 118 = .ok (.istore_n 1, 1) := by decide +kernel
theorem dX8_init_119 : decode cX8_init 119 = .ok (.iload_n 1, 1) := by decide +kernel
theorem dX8_init_120 : decode cX8_init 120 = .ok (.bipush 8, 2) := by decide +kernel
theorem dX8_init_122 : decode cX8_init 122 = .ok (.if_icmp .ge 16, 3) := by decide +kernel
theorem dX8_init_125 : decode cX8_init 125 = .ok (.aload_n 0, 1) := by decide +kernel
theorem dX8_init_126 : decode cX8_init 126 = .ok (.getfield 7, 3) := by decide +kernel
theorem dX8_init_129 : decode cX8_init 129 = .ok (.iload_n 1, 1) := by decide +kernel
theorem dX8_init_130 : decode cX8_init 130 = .ok (.iconst (-1), 1) := by decide +kernel
theorem dX8_init_131 : decode cX8_init 131 = .ok (.iastore, 1) := by decide +kernel
theorem dX8_init_132 : decode cX8_init 132 = .ok (.iinc 1 1, 3) := by decide +kernel
theorem dX8_init_135 : decode cX8_init 135 = .ok (.goto (-16), 3) := by decide +kernel
theorem dX8_init_138 : decode cX8_init 138 = .ok (.return_, 1) := by decide +kernel
theorem dX8_in_0 : decode cX8_in 0 = .ok (.lload_n 0, 1) := by decide +kernel
theorem dX8_in_1 : decode cX8_in 1 = .ok (.lload_n 2, 1) := by decide +kernel
theorem dX8_in_2 : decode cX8_in 2 = .ok (.lcmp, 1) := by decide +kernel
theorem dX8_in_3 : decode cX8_in 3 = .ok (.ifCond .lt 14, 3) := by decide +kernel
theorem dX8_in_6 : decode cX8_in 6 = .ok (.lload_n 0, 1) := by decide +kernel
theorem dX8_in_7 : decode cX8_in 7 = .ok (.lload 4, 2) := by decide +kernel
theorem dX8_in_9 : decode cX8_in 9 = .ok (.lcmp, 1) := by decide +kernel
theorem dX8_in_10 : decode cX8_in 10 = .ok (.ifCond .gt 7, 3) := by decide +kernel
theorem dX8_in_13 : decode cX8_in 13 = .ok (.iconst 1, 1) := by decide +kernel
theorem dX8_in_14 : decode cX8_in 14 = .ok (.goto 4, 3) := by decide +kernel
theorem dX8_in_17 : decode cX8_in 17 = .ok (.iconst 0, 1) := by decide +kernel
theorem dX8_in_18 : decode cX8_in 18 = .ok (.ireturn, 1) := by decide +kernel
theorem dX8_finds_0 : decode cX8_finds 0 = .ok (.aload_n 0, 1) := by decide +kernel
theorem dX8_finds_1 : decode cX8_finds 1 = .ok (.iload_n 1, 1) := by decide +kernel
theorem dX8_finds_2 : decode cX8_finds 2 = .ok (.putfield 53, 3) := by decide +kernel
theorem dX8_finds_5 : decode cX8_finds 5 = .ok (.ldc 57, 2) := by decide +kernel
theorem dX8_finds_7 : decode cX8_finds 7 = .ok (.iload_n 1, 1) := by decide +kernel
theorem dX8_finds_8 : decode cX8_finds 8 = .ok (.isub, 1) := by decide +kernel
theorem dX8_finds_9 : decode cX8_finds 9 = .ok (.ireturn, 1) := by decide +kernel
theorem dX8_well_0 : decode cX8_well 0 = .ok (.aload_n 0, 1) := by decide +kernel
theorem dX8_well_1 : decode cX8_well 1 = .ok (.iconst 0, 1) := by decide +kernel
theorem dX8_well_2 : decode cX8_well 2 = .ok (.putfield 53, 3) := by decide +kernel
theorem dX8_well_5 : decode cX8_well 5 = .ok (.iload_n 1, 1) := by decide +kernel
theorem dX8_well_6 : decode cX8_well 6 = .ok (.ireturn, 1) := by decide +kernel
theorem dX8_row_0 : decode cX8_row 0 = .ok (.iload_n 1, 1) := by decide +kernel
theorem dX8_row_1 : decode cX8_row 1 = .ok (.i2l, 1) := by decide +kernel
theorem dX8_row_2 : decode cX8_row 2 = .ok (.lconst 0, 1) := by decide +kernel
theorem dX8_row_3 : decode cX8_row 3 = .ok (.ldc2_w 58, 3) := by decide +kernel
theorem dX8_row_6 : decode cX8_row 6 = .ok (.invokestatic 60, 3) := by decide +kernel
theorem dX8_row_9 : decode cX8_row 9 = .ok (.ifCond .eq 21, 3) := by decide +kernel
theorem dX8_row_12 : decode cX8_row 12 = .ok (.iload_n 2, 1) := by decide +kernel
theorem dX8_row_13 : decode cX8_row 13 = .ok (.i2l, 1) := by decide +kernel
theorem dX8_row_14 : decode cX8_row 14 = .ok (.lconst 0, 1) := by decide +kernel
theorem dX8_row_15 : decode cX8_row 15 = .ok (.ldc2_w 64, 3) := by decide +kernel
theorem dX8_row_18 : decode cX8_row 18 = .ok (.invokestatic 60, 3) := by decide +kernel
theorem dX8_row_21 : decode cX8_row 21 = .ok (.ifCond .eq 9, 3) := by decide +kernel
theorem dX8_row_24 : decode cX8_row 24 = .ok (.iload_n 3, 1) := by decide +kernel
theorem dX8_row_25 : decode cX8_row 25 = .ok (.bipush 40, 2) := by decide +kernel
theorem dX8_row_27 : decode cX8_row 27 = .ok (.if_icmp .le 6, 3) := by decide +kernel
theorem dX8_row_30 : decode cX8_row 30 = .ok (.ldc 66, 2) := by decide +kernel
theorem dX8_row_32 : decode cX8_row 32 = .ok (.ireturn, 1) := by decide +kernel
theorem dX8_row_33 : decode cX8_row 33 = .ok (.iload_n 3, 1) := by decide +kernel
theorem dX8_row_34 : decode cX8_row 34 = .ok (.ifCond .ge 9, 3) := by decide +kernel
theorem dX8_row_37 : decode cX8_row 37 = .ok (.aload_n 0, 1) := by decide +kernel
theorem dX8_row_38 : decode cX8_row 38 = .ok (.iconst 4, 1) := by decide +kernel
theorem dX8_row_39 : decode cX8_row 39 = .ok (.invokevirtual 67, 3) := by decide +kernel
theorem dX8_row_42 : decode cX8_row 42 = .ok (.ireturn, 1) := by decide +kernel
theorem dX8_row_43 : decode cX8_row 43 = .ok (.aload_n 0, 1) := by decide +kernel
theorem dX8_row_44 : decode cX8_row 44 = .ok (.getfield 7, 3) := by decide +kernel
theorem dX8_row_47 : decode cX8_row 47 = .ok (.iload_n 1, 1) := by decide +kernel
theorem dX8_row_48 : decode cX8_row 48 = .ok (.iload_n 2, 1) := by decide +kernel
theorem dX8_row_49 : decode cX8_row 49 = .ok (.iastore, 1) := by decide +kernel
theorem dX8_row_50 : decode cX8_row 50 = .ok (.aload_n 0, 1) := by decide +kernel
theorem dX8_row_51 : decode cX8_row 51 = .ok (.getfield 13, 3) := by decide +kernel
theorem dX8_row_54 : decode cX8_row 54 = .ok (.iload_n 1, 1) := by decide +kernel
theorem dX8_row_55 : decode cX8_row 55 = .ok (.iload_n 3, 1) := by decide +kernel
theorem dX8_row_56 : decode cX8_row 56 = .ok (.iastore, 1) := by decide +kernel
theorem dX8_row_57 : decode cX8_row 57 = .ok (.iconst 0, 1) := by decide +kernel
theorem dX8_row_58 : decode cX8_row 58 = .ok (.istore 4, 2) := by decide +kernel
theorem dX8_row_60 : decode cX8_row 60 = .ok (.iload 4, 2) := by decide +kernel
theorem dX8_row_62 : decode cX8_row 62 = .ok (.bipush 40, 2) := by decide +kernel
theorem dX8_row_64 : decode cX8_row 64 = .ok (.if_icmp .ge 22, 3) := by decide +kernel
theorem dX8_row_67 : decode cX8_row 67 = .ok (.aload_n 0, 1) := by decide +kernel
theorem dX8_row_68 : decode cX8_row 68 = .ok (.getfield 16, 3) := by decide +kernel
theorem dX8_row_71 : decode cX8_row 71 = .ok (.bipush 40, 2) := by decide +kernel
theorem dX8_row_73 : decode cX8_row 73 = .ok (.iload_n 1, 1) := by decide +kernel
theorem dX8_row_74 : decode cX8_row 74 = .ok (.imul, 1) := by decide +kernel
theorem dX8_row_75 : decode cX8_row 75 = .ok (.iload 4, 2) := by decide +kernel
theorem dX8_row_77 : decode cX8_row 77 = .ok (.iadd, 1) := by decide +kernel
theorem dX8_row_78 : decode cX8_row 78 = .ok (.iconst 0, 1) := by decide +kernel
theorem dX8_row_79 : decode cX8_row 79 = .ok (.iastore, 1) := by decide +kernel
theorem dX8_row_80 : decode cX8_row 80 = .ok (.iinc 4 1, 3) := by decide +kernel
theorem dX8_row_83 : decode cX8_row 83 = .ok (.goto (-23), 3) := by decide +kernel
theorem dX8_row_86 : decode cX8_row 86 = .ok (.aload_n 0, 1) := by decide +kernel
theorem dX8_row_87 : decode cX8_row 87 = .ok (.iload_n 3, 1) := by decide +kernel
theorem dX8_row_88 : decode cX8_row 88 = .ok (.invokevirtual 71, 3) := by decide +kernel
theorem dX8_row_91 : decode cX8_row 91 = .ok (.ireturn, 1) := by decide +kernel
theorem dX8_set_0 : decode cX8_set 0 = .ok (.iload_n 1, 1) := by decide +kernel
theorem dX8_set_1 : decode cX8_set 1 = .ok (.i2l, 1) := by decide +kernel
theorem dX8_set_2 : decode cX8_set 2 = .ok (.lconst 0, 1) := by decide +kernel
theorem dX8_set_3 : decode cX8_set 3 = .ok (.ldc2_w 58, 3) := by decide +kernel
theorem dX8_set_6 : decode cX8_set 6 = .ok (.invokestatic 60, 3) := by decide +kernel
theorem dX8_set_9 : decode cX8_set 9 = .ok (.ifCond .ne 6, 3) := by decide +kernel
theorem dX8_set_12 : decode cX8_set 12 = .ok (.ldc 66, 2) := by decide +kernel
theorem dX8_set_14 : decode cX8_set 14 = .ok (.ireturn, 1) := by decide +kernel
theorem dX8_set_15 : decode cX8_set 15 = .ok (.aload_n 0, 1) := by decide +kernel
theorem dX8_set_16 : decode cX8_set 16 = .ok (.getfield 7, 3) := by decide +kernel
theorem dX8_set_19 : decode cX8_set 19 = .ok (.iload_n 1, 1) := by decide +kernel
theorem dX8_set_20 : decode cX8_set 20 = .ok (.iaload, 1) := by decide +kernel
theorem dX8_set_21 : decode cX8_set 21 = .ok (.ifCond .ge 9, 3) := by decide +kernel
theorem dX8_set_24 : decode cX8_set 24 = .ok (.aload_n 0, 1) := by decide +kernel
theorem dX8_set_25 : decode cX8_set 25 = .ok (.iconst 1, 1) := by decide +kernel
theorem dX8_set_26 : decode cX8_set 26 = .ok (.invokevirtual 67, 3) := by decide +kernel
theorem dX8_set_29 : decode cX8_set 29 = .ok (.ireturn, 1) := by decide +kernel
theorem dX8_set_30 : decode cX8_set 30 = .ok (.iload_n 2, 1) := by decide +kernel
theorem dX8_set_31 : decode cX8_set 31 = .ok (.i2l, 1) := by decide +kernel
theorem dX8_set_32 : decode cX8_set 32 = .ok (.lconst 0, 1) := by decide +kernel
theorem dX8_set_33 : decode cX8_set 33 = .ok (.aload_n 0, 1) := by decide +kernel
theorem dX8_set_34 : decode cX8_set 34 = .ok (.getfield 13, 3) := by decide +kernel
theorem dX8_set_37 : decode cX8_set 37 = .ok (.iload_n 1, 1) := by decide +kernel
theorem dX8_set_38 : decode cX8_set 38 = .ok (.iaload, 1) := by decide +kernel
theorem dX8_set_39 : decode cX8_set 39 = .ok (.iconst 1, 1) := by decide +kernel
theorem dX8_set_40 : decode cX8_set 40 = .ok (.isub, 1) := by decide +kernel
theorem dX8_set_41 : decode cX8_set 41 = .ok (.i2l, 1) := by decide +kernel
theorem dX8_set_42 : decode cX8_set 42 = .ok (.invokestatic 60, 3) := by decide +kernel
theorem dX8_set_45 : decode cX8_set 45 = .ok (.ifCond .ne 9, 3) := by decide +kernel
theorem dX8_set_48 : decode cX8_set 48 = .ok (.aload_n 0, 1) := by decide +kernel
theorem dX8_set_49 : decode cX8_set 49 = .ok (.iconst 2, 1) := by decide +kernel
theorem dX8_set_50 : decode cX8_set 50 = .ok (.invokevirtual 67, 3) := by decide +kernel
theorem dX8_set_53 : decode cX8_set 53 = .ok (.ireturn, 1) := by decide +kernel
theorem dX8_set_54 : decode cX8_set 54 = .ok (.aload_n 0, 1) := by decide +kernel
theorem dX8_set_55 : decode cX8_set 55 = .ok (.getfield 16, 3) := by decide +kernel
theorem dX8_set_58 : decode cX8_set 58 = .ok (.bipush 40, 2) := by decide +kernel
theorem dX8_set_60 : decode cX8_set 60 = .ok (.iload_n 1, 1) := by decide +kernel
theorem dX8_set_61 : decode cX8_set 61 = .ok (.imul, 1) := by decide +kernel
theorem dX8_set_62 : decode cX8_set 62 = .ok (.iload_n 2, 1) := by decide +kernel
theorem dX8_set_63 : decode cX8_set 63 = .ok (.iadd, 1) := by decide +kernel
theorem dX8_set_64 : decode cX8_set 64 = .ok (.aload_n 0, 1) := by decide +kernel
theorem dX8_set_65 : decode cX8_set 65 = .ok (.getfield 7, 3) := by decide +kernel
theorem dX8_set_68 : decode cX8_set 68 = .ok (.iload_n 1, 1) := by decide +kernel
theorem dX8_set_69 : decode cX8_set 69 = .ok (.iaload, 1) := by decide +kernel
theorem dX8_set_70 : decode cX8_set 70 = .ok (.ifCond .ne 8, 3) := by decide +kernel
theorem dX8_set_73 : decode cX8_set 73 = .ok (.iload_n 3, 1) := by decide +kernel
theorem dX8_set_74 : decode cX8_set 74 = .ok (.i2b, 1) := by decide +kernel
theorem dX8_set_75 : decode cX8_set 75 = .ok (.goto 19, 3) := by decide +kernel
theorem dX8_set_78 : decode cX8_set 78 = .ok (.aload_n 0, 1) := by decide +kernel
theorem dX8_set_79 : decode cX8_set 79 = .ok (.getfield 7, 3) := by decide +kernel
theorem dX8_set_82 : decode cX8_set 82 = .ok (.iload_n 1, 1) := by decide +kernel
theorem dX8_set_83 : decode cX8_set 83 = .ok (.iaload, 1) := by decide +kernel
theorem dX8_set_84 : decode cX8_set 84 = .ok (.iconst 1, 1) := by decide +kernel
theorem dX8_set_85 : decode cX8_set 85 = .ok (.if_icmp .ne 8, 3) := by decide +kernel
theorem dX8_set_88 : decode cX8_set 88 = .ok (.iload_n 3, 1) := by decide +kernel
theorem dX8_set_89 : decode cX8_set 89 = .ok (.i2s, 1) := by decide +kernel
theorem dX8_set_90 : decode cX8_set 90 = .ok (.goto 4, 3) := by decide +kernel
theorem dX8_set_93 : decode cX8_set 93 = .ok (.iload_n 3, 1) := by decide +kernel
theorem dX8_set_94 : decode cX8_set 94 = .ok (.iastore, 1) := by decide +kernel
theorem dX8_set_95 : decode cX8_set 95 = .ok (.aload_n 0, 1) := by decide +kernel
theorem dX8_set_96 : decode cX8_set 96 = .ok (.aload_n 0, 1) := by decide +kernel
theorem dX8_set_97 : decode cX8_set 97 = .ok (.getfield 16, 3) := by decide +kernel
theorem dX8_set_100 : decode cX8_set 100 = .ok (.bipush 40, 2) := by decide +kernel
theorem dX8_set_102 : decode cX8_set 102 = .ok (.iload_n 1, 1) := by decide +kernel
theorem dX8_set_103 : decode cX8_set 103 = .ok (.imul, 1) := by decide +kernel
theorem dX8_set_104 : decode cX8_set 104 = .ok (.iload_n 2, 1) := by decide +kernel
theorem dX8_set_105 : decode cX8_set 105 = .ok (.iadd, 1) := by decide +kernel
theorem dX8_set_106 : decode cX8_set 106 = .ok (.iaload, 1) := by decide +kernel
theorem dX8_set_107 : decode cX8_set 107 = .ok (.invokevirtual 71, 3) := by decide +kernel
theorem dX8_set_110 : decode cX8_set 110 = .ok (.ireturn, 1) := by decide +kernel
theorem dX8_copy_0 : decode cX8_copy 0 = .ok (.iload_n 1, 1) := by decide +kernel
theorem dX8_copy_1 : decode cX8_copy 1 = .ok (.i2l, 1) := by decide +kernel
theorem dX8_copy_2 : decode cX8_copy 2 = .ok (.lconst 0, 1) := by decide +kernel
theorem dX8_copy_3 : decode cX8_copy 3 = .ok (.ldc2_w 58, 3) := by decide +kernel
theorem dX8_copy_6 : decode cX8_copy 6 = .ok (.invokestatic 60, 3) := by decide +kernel
theorem dX8_copy_9 : decode cX8_copy 9 = .ok (.ifCond .eq 15, 3) := by decide +kernel
theorem dX8_copy_12 : decode cX8_copy 12 = .ok (.iload_n 3, 1) := by decide +kernel
theorem dX8_copy_13 : decode cX8_copy 13 = .ok (.i2l, 1) := by decide +kernel
theorem dX8_copy_14 : decode cX8_copy 14 = .ok (.lconst 0, 1) := by decide +kernel
theorem dX8_copy_15 : decode cX8_copy 15 = .ok (.ldc2_w 58, 3) := by decide +kernel
theorem dX8_copy_18 : decode cX8_copy 18 = .ok (.invokestatic 60, 3) := by decide +kernel
theorem dX8_copy_21 : decode cX8_copy 21 = .ok (.ifCond .ne 6, 3) := by decide +kernel
theorem dX8_copy_24 : decode cX8_copy 24 = .ok (.ldc 66, 2) := by decide +kernel
theorem dX8_copy_26 : decode cX8_copy 26 = .ok (.ireturn, 1) := by decide +kernel
theorem dX8_copy_27 : decode cX8_copy 27 = .ok (.aload_n 0, 1) := by decide +kernel
theorem dX8_copy_28 : decode cX8_copy 28 = .ok (.getfield 7, 3) := by decide +kernel
theorem dX8_copy_31 : decode cX8_copy 31 = .ok (.iload_n 1, 1) := by decide +kernel
theorem dX8_copy_32 : decode cX8_copy 32 = .ok (.iaload, 1) := by decide +kernel
theorem dX8_copy_33 : decode cX8_copy 33 = .ok (.ifCond .lt 12, 3) := by decide +kernel
theorem dX8_copy_36 : decode cX8_copy 36 = .ok (.aload_n 0, 1) := by decide +kernel
theorem dX8_copy_37 : decode cX8_copy 37 = .ok (.getfield 7, 3) := by decide +kernel
theorem dX8_copy_40 : decode cX8_copy 40 = .ok (.iload_n 3, 1) := by decide +kernel
theorem dX8_copy_41 : decode cX8_copy 41 = .ok (.iaload, 1) := by decide +kernel
theorem dX8_copy_42 : decode cX8_copy 42 = .ok (.ifCond .ge 9, 3) := by decide +kernel
theorem dX8_copy_45 : decode cX8_copy 45 = .ok (.aload_n 0, 1) := by decide +kernel
theorem dX8_copy_46 : decode cX8_copy 46 = .ok (.iconst 1, 1) := by decide +kernel
theorem dX8_copy_47 : decode cX8_copy 47 = .ok (.invokevirtual 67, 3) := by decide +kernel
theorem dX8_copy_50 : decode cX8_copy 50 = .ok (.ireturn, 1) := by decide +kernel
theorem dX8_copy_51 : decode cX8_copy 51 = .ok (.aload_n 0, 1) := by decide +kernel
theorem dX8_copy_52 : decode cX8_copy 52 = .ok (.getfield 7, 3) := by decide +kernel
theorem dX8_copy_55 : decode cX8_copy 55 = .ok (.iload_n 1, 1) := by decide +kernel
theorem dX8_copy_56 : decode cX8_copy 56 = .ok (.iaload, 1) := by decide +kernel
theorem dX8_copy_57 : decode cX8_copy 57 = .ok (.aload_n 0, 1) := by decide +kernel
theorem dX8_copy_58 : decode cX8_copy 58 = .ok (.getfield 7, 3) := by decide +kernel
theorem dX8_copy_61 : decode cX8_copy 61 = .ok (.iload_n 3, 1) := by decide +kernel
theorem dX8_copy_62 : decode cX8_copy 62 = .ok (.iaload, 1) := by decide +kernel
theorem dX8_copy_63 : decode cX8_copy 63 = .ok (.if_icmp .eq 9, 3) := by decide +kernel
theorem dX8_copy_66 : decode cX8_copy 66 = .ok (.aload_n 0, 1) := by decide +kernel
theorem dX8_copy_67 : decode cX8_copy 67 = .ok (.iconst 5, 1) := by decide +kernel
theorem dX8_copy_68 : decode cX8_copy 68 = .ok (.invokevirtual 67, 3) := by decide +kernel
theorem dX8_copy_71 : decode cX8_copy 71 = .ok (.ireturn, 1) := by decide +kernel
theorem dX8_copy_72 : decode cX8_copy 72 = .ok (.iload_n 2, 1) := by decide +kernel
theorem dX8_copy_73 : decode cX8_copy 73 = .ok (.ifCond .lt 48, 3) := by decide +kernel
theorem dX8_copy_76 : decode cX8_copy 76 = .ok (.iload 4, 2) := by decide +kernel
theorem dX8_copy_78 : decode cX8_copy 78 = .ok (.ifCond .lt 43, 3) := by decide +kernel
theorem dX8_copy_81 : decode cX8_copy 81 = .ok (.iload 5, 2) := by decide +kernel
theorem dX8_copy_83 : decode cX8_copy 83 = .ok (.ifCond .lt 38, 3) := by decide +kernel
theorem dX8_copy_86 : decode cX8_copy 86 = .ok (.iload_n 2, 1) := by decide +kernel
theorem dX8_copy_87 : decode cX8_copy 87 = .ok (.i2l, 1) := by decide +kernel
theorem dX8_copy_88 : decode cX8_copy 88 = .ok (.iload 5, 2) := by decide +kernel
theorem dX8_copy_90 : decode cX8_copy 90 = .ok (.i2l, 1) := by decide +kernel
theorem dX8_copy_91 : decode cX8_copy 91 = .ok (.ladd, 1) := by decide +kernel
theorem dX8_copy_92 : decode cX8_copy 92 = .ok (.aload_n 0, 1) := by decide +kernel
theorem dX8_copy_93 : decode cX8_copy 93 = .ok (.getfield 13, 3) := by decide +kernel
theorem dX8_copy_96 : decode cX8_copy 96 = .ok (.iload_n 1, 1) := by decide +kernel
theorem dX8_copy_97 : decode cX8_copy 97 = .ok (.iaload, 1) := by decide +kernel
theorem dX8_copy_98 : decode cX8_copy 98 = .ok (.i2l, 1) := by decide +kernel
theorem dX8_copy_99 : decode cX8_copy 99 = .ok (.lcmp, 1) := by decide +kernel
theorem dX8_copy_100 : decode cX8_copy 100 = .ok (.ifCond .gt 21, 3) := by decide +kernel
theorem dX8_copy_103 : decode cX8_copy 103 = .ok (.iload 4, 2) := by decide +kernel
theorem dX8_copy_105 : decode cX8_copy 105 = .ok (.i2l, 1) := by decide +kernel
theorem dX8_copy_106 : decode cX8_copy 106 = .ok (.iload 5, 2) := by decide +kernel
theorem dX8_copy_108 : decode cX8_copy 108 = .ok (.i2l, 1) := by decide +kernel
theorem dX8_copy_109 : decode cX8_copy 109 = .ok (.ladd, 1) := by decide +kernel
theorem dX8_copy_110 : decode cX8_copy 110 = .ok (.aload_n 0, 1) := by decide +kernel
theorem dX8_copy_111 : decode cX8_copy 111 = .ok (.getfield 13, 3) := by decide +kernel
theorem dX8_copy_114 : decode cX8_copy 114 = .ok (.iload_n 3, 1) := by decide +kernel
theorem dX8_copy_115 : decode cX8_copy 115 = .ok (.iaload, 1) := by decide +kernel
theorem dX8_copy_116 : decode cX8_copy 116 = .ok (.i2l, 1) := by decide +kernel
theorem dX8_copy_117 : decode cX8_copy 117 = .ok (.lcmp, 1) := by decide +kernel
theorem dX8_copy_118 : decode cX8_copy 118 = .ok (.ifCond .le 9, 3) := by decide +kernel
theorem dX8_copy_121 : decode cX8_copy 121 = .ok (.aload_n 0, 1) := by decide +kernel
theorem dX8_copy_122 : decode cX8_copy 122 = .ok (.iconst 2, 1) := by decide +kernel
theorem dX8_copy_123 : decode cX8_copy 123 = .ok (.invokevirtual 67, 3) := by decide +kernel
theorem dX8_copy_126 : decode cX8_copy 126 = .ok (.ireturn, 1) := by decide +kernel
theorem dX8_copy_127 : decode cX8_copy 127 = .ok (.iconst 0, 1) := by decide +kernel
theorem dX8_copy_128 : decode cX8_copy 128 = .ok (.istore 6, 2) := by decide +kernel
theorem dX8_copy_130 : decode cX8_copy 130 = .ok (.iload 6, 2) := by decide +kernel
theorem dX8_copy_132 : decode cX8_copy 132 = .ok (.iload 5, 2) := by decide +kernel
theorem dX8_copy_134 : decode cX8_copy 134 = .ok (.if_icmp .ge 58, 3) := by decide +kernel
theorem dX8_copy_137 : decode cX8_copy 137 = .ok (.iload_n 2, 1) := by decide +kernel
theorem dX8_copy_138 : decode cX8_copy 138 = .ok (.iload 4, 2) := by decide +kernel
theorem dX8_copy_140 : decode cX8_copy 140 = .ok (.if_icmp .ge 13, 3) := by decide +kernel
theorem dX8_copy_143 : decode cX8_copy 143 = .ok (.iload 5, 2) := by decide +kernel
theorem dX8_copy_145 : decode cX8_copy 145 = .ok (.iconst 1, 1) := by decide +kernel
theorem dX8_copy_146 : decode cX8_copy 146 = .ok (.isub, 1) := by decide +kernel
theorem dX8_copy_147 : decode cX8_copy 147 = .ok (.iload 6, 2) := by decide +kernel
theorem dX8_copy_149 : decode cX8_copy 149 = .ok (.isub, 1) := by decide +kernel
theorem dX8_copy_150 : decode cX8_copy 150 = .ok (.goto 5, 3) := by decide +kernel
theorem dX8_copy_153 : decode cX8_copy 153 = .ok (.iload 6, 2) := by decide +kernel
theorem dX8_copy_155 : decode cX8_copy 155 = .ok (.istore 7, 2) := by decide +kernel
theorem dX8_copy_157 : decode cX8_copy 157 = .ok (.aload_n 0, 1) := by decide +kernel
theorem dX8_copy_158 : decode cX8_copy 158 = .ok (.getfield 16, 3) := by decide +kernel
theorem dX8_copy_161 : decode cX8_copy 161 = .ok (.bipush 40, 2) := by decide +kernel
theorem dX8_copy_163 : decode cX8_copy 163 = .ok (.iload_n 3, 1) := by decide +kernel
theorem dX8_copy_164 : decode cX8_copy 164 = .ok (.imul, 1) := by decide +kernel
theorem dX8_copy_165 : decode cX8_copy 165 = .ok (.iload 4, 2) := by decide +kernel
theorem dX8_copy_167 : decode cX8_copy 167 = .ok (.iadd, 1) := by decide +kernel
theorem dX8_copy_168 : decode cX8_copy 168 = .ok (.iload 7, 2) := by decide +kernel
theorem dX8_copy_170 : decode cX8_copy 170 = .ok (.iadd, 1) := by decide +kernel
theorem dX8_copy_171 : decode cX8_copy 171 = .ok (.aload_n 0, 1) := by decide +kernel
theorem dX8_copy_172 : decode cX8_copy 172 = .ok (.getfield 16, 3) := by decide +kernel
theorem dX8_copy_175 : decode cX8_copy 175 = .ok (.bipush 40, 2) := by decide +kernel
theorem dX8_copy_177 : decode cX8_copy 177 = .ok (.iload_n 1, 1) := by decide +kernel
theorem dX8_copy_178 : decode cX8_copy 178 = .ok (.imul, 1) := by decide +kernel
theorem dX8_copy_179 : decode cX8_copy 179 = .ok (.iload_n 2, 1) := by decide +kernel
theorem dX8_copy_180 : decode cX8_copy 180 = .ok (.iadd, 1) := by decide +kernel
theorem dX8_copy_181 : decode cX8_copy 181 = .ok (.iload 7, 2) := by decide +kernel
theorem dX8_copy_183 : decode cX8_copy 183 = .ok (.iadd, 1) := by decide +kernel
theorem dX8_copy_184 : decode cX8_copy 184 = .ok (.iaload, 1) := by decide +kernel
theorem dX8_copy_185 : decode cX8_copy 185 = .ok (.iastore, 1) := by decide +kernel
theorem dX8_copy_186 : decode cX8_copy 186 = .ok (.iinc 6 1, 3) := by decide +kernel
theorem dX8_copy_189 : decode cX8_copy 189 = .ok (.goto (-59), 3) := by decide +kernel
theorem dX8_copy_192 : decode cX8_copy 192 = .ok (.aload_n 0, 1) := by decide +kernel
theorem dX8_copy_193 : decode cX8_copy 193 = .ok (.iload 5, 2) := by decide +kernel
theorem dX8_copy_195 : decode cX8_copy 195 = .ok (.invokevirtual 71, 3) := by decide +kernel
theorem dX8_copy_198 : decode cX8_copy 198 = .ok (.ireturn, 1) := by decide +kernel
theorem dX8_drop_0 : decode cX8_drop 0 = .ok (.iload_n 1, 1) := by decide +kernel
theorem dX8_drop_1 : decode cX8_drop 1 = .ok (.i2l, 1) := by decide +kernel
theorem dX8_drop_2 : decode cX8_drop 2 = .ok (.lconst 0, 1) := by decide +kernel
theorem dX8_drop_3 : decode cX8_drop 3 = .ok (.ldc2_w 58, 3) := by decide +kernel
theorem dX8_drop_6 : decode cX8_drop 6 = .ok (.invokestatic 60, 3) := by decide +kernel
theorem dX8_drop_9 : decode cX8_drop 9 = .ok (.ifCond .ne 6, 3) := by decide +kernel
theorem dX8_drop_12 : decode cX8_drop 12 = .ok (.ldc 66, 2) := by decide +kernel
theorem dX8_drop_14 : decode cX8_drop 14 = .ok (.ireturn, 1) := by decide +kernel
theorem dX8_drop_15 : decode cX8_drop 15 = .ok (.aload_n 0, 1) := by decide +kernel
theorem dX8_drop_16 : decode cX8_drop 16 = .ok (.getfield 7, 3) := by decide +kernel
theorem dX8_drop_19 : decode cX8_drop 19 = .ok (.iload_n 1, 1) := by decide +kernel
theorem dX8_drop_20 : decode cX8_drop 20 = .ok (.iaload, 1) := by decide +kernel
theorem dX8_drop_21 : decode cX8_drop 21 = .ok (.ifCond .ge 9, 3) := by decide +kernel
theorem dX8_drop_24 : decode cX8_drop 24 = .ok (.aload_n 0, 1) := by decide +kernel
theorem dX8_drop_25 : decode cX8_drop 25 = .ok (.iconst 1, 1) := by decide +kernel
theorem dX8_drop_26 : decode cX8_drop 26 = .ok (.invokevirtual 67, 3) := by decide +kernel
theorem dX8_drop_29 : decode cX8_drop 29 = .ok (.ireturn, 1) := by decide +kernel
theorem dX8_drop_30 : decode cX8_drop 30 = .ok (.aload_n 0, 1) := by decide +kernel
theorem dX8_drop_31 : decode cX8_drop 31 = .ok (.getfield 7, 3) := by decide +kernel
theorem dX8_drop_34 : decode cX8_drop 34 = .ok (.iload_n 1, 1) := by decide +kernel
theorem dX8_drop_35 : decode cX8_drop 35 = .ok (.iconst (-1), 1) := by decide +kernel
theorem dX8_drop_36 : decode cX8_drop 36 = .ok (.iastore, 1) := by decide +kernel
theorem dX8_drop_37 : decode cX8_drop 37 = .ok (.aload_n 0, 1) := by decide +kernel
theorem dX8_drop_38 : decode cX8_drop 38 = .ok (.aload_n 0, 1) := by decide +kernel
theorem dX8_drop_39 : decode cX8_drop 39 = .ok (.getfield 13, 3) := by decide +kernel
theorem dX8_drop_42 : decode cX8_drop 42 = .ok (.iload_n 1, 1) := by decide +kernel
theorem dX8_drop_43 : decode cX8_drop 43 = .ok (.iaload, 1) := by decide +kernel
theorem dX8_drop_44 : decode cX8_drop 44 = .ok (.invokevirtual 71, 3) := by decide +kernel
theorem dX8_drop_47 : decode cX8_drop 47 = .ok (.ireturn, 1) := by decide +kernel
theorem dX8_feed_0 : decode cX8_feed 0 = .ok (.iload_n 3, 1) := by decide +kernel
theorem dX8_feed_1 : decode cX8_feed 1 = .ok (.i2l, 1) := by decide +kernel
theorem dX8_feed_2 : decode cX8_feed 2 = .ok (.lconst 1, 1) := by decide +kernel
theorem dX8_feed_3 : decode cX8_feed 3 = .ok (.ldc2_w 74, 3) := by decide +kernel
theorem dX8_feed_6 : decode cX8_feed 6 = .ok (.invokestatic 60, 3) := by decide +kernel
theorem dX8_feed_9 : decode cX8_feed 9 = .ok (.ifCond .ne 6, 3) := by decide +kernel
theorem dX8_feed_12 : decode cX8_feed 12 = .ok (.ldc 66, 2) := by decide +kernel
theorem dX8_feed_14 : decode cX8_feed 14 = .ok (.ireturn, 1) := by decide +kernel
theorem dX8_feed_15 : decode cX8_feed 15 = .ok (.aload_n 0, 1) := by decide +kernel
theorem dX8_feed_16 : decode cX8_feed 16 = .ok (.getfield 76, 3) := by decide +kernel
theorem dX8_feed_19 : decode cX8_feed 19 = .ok (.iload_n 3, 1) := by decide +kernel
theorem dX8_feed_20 : decode cX8_feed 20 = .ok (.iadd, 1) := by decide +kernel
theorem dX8_feed_21 : decode cX8_feed 21 = .ok (.sipush 300, 3) := by decide +kernel
theorem dX8_feed_24 : decode cX8_feed 24 = .ok (.if_icmp .le 6, 3) := by decide +kernel
theorem dX8_feed_27 : decode cX8_feed 27 = .ok (.ldc 79, 2) := by decide +kernel
theorem dX8_feed_29 : decode cX8_feed 29 = .ok (.ireturn, 1) := by decide +kernel
theorem dX8_feed_30 : decode cX8_feed 30 = .ok (.iload_n 3, 1) := by decide +kernel
theorem dX8_feed_31 : decode cX8_feed 31 = .ok (.iconst 1, 1) := by decide +kernel
theorem dX8_feed_32 : decode cX8_feed 32 = .ok (.isub, 1) := by decide +kernel
theorem dX8_feed_33 : decode cX8_feed 33 = .ok (.istore 4, 2) := by decide +kernel
theorem dX8_feed_35 : decode cX8_feed 35 = .ok (.iload 4, 2) := by decide +kernel
theorem dX8_feed_37 : decode cX8_feed 37 = .ok (.ifCond .lt 40, 3) := by decide +kernel
theorem dX8_feed_40 : decode cX8_feed 40 = .ok (.aload_n 0, 1) := by decide +kernel
theorem dX8_feed_41 : decode cX8_feed 41 = .ok (.getfield 19, 3) := by decide +kernel
theorem dX8_feed_44 : decode cX8_feed 44 = .ok (.aload_n 0, 1) := by decide +kernel
theorem dX8_feed_45 : decode cX8_feed 45 = .ok (.getfield 76, 3) := by decide +kernel
theorem dX8_feed_48 : decode cX8_feed 48 = .ok (.lload_n 1, 1) := by decide +kernel
theorem dX8_feed_49 : decode cX8_feed 49 = .ok (.bipush 8, 2) := by decide +kernel
theorem dX8_feed_51 : decode cX8_feed 51 = .ok (.iload 4, 2) := by decide +kernel
theorem dX8_feed_53 : decode cX8_feed 53 = .ok (.imul, 1) := by decide +kernel
theorem dX8_feed_54 : decode cX8_feed 54 = .ok (.lshr, 1) := by decide +kernel
theorem dX8_feed_55 : decode cX8_feed 55 = .ok (.ldc2_w 80, 3) := by decide +kernel
theorem dX8_feed_58 : decode cX8_feed 58 = .ok (.land, 1) := by decide +kernel
theorem dX8_feed_59 : decode cX8_feed 59 = .ok (.l2i, 1) := by decide +kernel
theorem dX8_feed_60 : decode cX8_feed 60 = .ok (.iastore, 1) := by decide +kernel
theorem dX8_feed_61 : decode cX8_feed 61 = .ok (.aload_n 0, 1) := by decide +kernel
theorem dX8_feed_62 : decode cX8_feed 62 = .ok (.dup, 1) := by decide +kernel
theorem dX8_feed_63 : decode cX8_feed 63 = .ok (.getfield 76, 3) := by decide +kernel
theorem dX8_feed_66 : decode cX8_feed 66 = .ok (.iconst 1, 1) := by decide +kernel
theorem dX8_feed_67 : decode cX8_feed 67 = .ok (.iadd, 1) := by decide +kernel
theorem dX8_feed_68 : decode cX8_feed 68 = .ok (.putfield 76, 3) := by decide +kernel
theorem dX8_feed_71 : decode cX8_feed 71 = .ok (.iinc 4 (-1), 3) := by decide +kernel
theorem dX8_feed_74 : decode cX8_feed 74 = .ok (.goto (-39), 3) := by decide +kernel
theorem dX8_feed_77 : decode cX8_feed 77 = .ok (.aload_n 0, 1) := by decide +kernel
theorem dX8_feed_78 : decode cX8_feed 78 = .ok (.getfield 76, 3) := by decide +kernel
theorem dX8_feed_81 : decode cX8_feed 81 = .ok (.ireturn, 1) := by decide +kernel
theorem dX8_byteAt_0 : decode cX8_byteAt 0 = .ok (.iload_n 1, 1) := by decide +kernel
theorem dX8_byteAt_1 : decode cX8_byteAt 1 = .ok (.aload_n 0, 1) := by decide +kernel
theorem dX8_byteAt_2 : decode cX8_byteAt 2 = .ok (.getfield 76, 3) := by decide +kernel
theorem dX8_byteAt_5 : decode cX8_byteAt 5 = .ok (.if_icmp .ge 12, 3) := by decide +kernel
theorem dX8_byteAt_8 : decode cX8_byteAt 8 = .ok (.aload_n 0, 1) := by decide +kernel
theorem dX8_byteAt_9 : decode cX8_byteAt 9 = .ok (.getfield 19, 3) := by decide +kernel
theorem dX8_byteAt_12 : decode cX8_byteAt 12 = .ok (.iload_n 1, 1) := by decide +kernel
theorem dX8_byteAt_13 : decode cX8_byteAt 13 = .ok (.iaload, 1) := by decide +kernel
theorem dX8_byteAt_14 : decode cX8_byteAt 14 = .ok (.goto 4, 3) := by decide +kernel
theorem dX8_byteAt_17 : decode cX8_byteAt 17 = .ok (.iconst (-1), 1) := by decide +kernel
theorem dX8_byteAt_18 : decode cX8_byteAt 18 = .ok (.ireturn, 1) := by decide +kernel
theorem dX8_sortOf_0 : decode cX8_sortOf 0 = .ok (.iload_n 0, 1) := by decide +kernel
theorem dX8_sortOf_1 : decode cX8_sortOf 1 = .ok (.ifCond .ge 7, 3) := by decide +kernel
theorem dX8_sortOf_4 : decode cX8_sortOf 4 = .ok (.iconst 0, 1) := by decide +kernel
theorem dX8_sortOf_5 : decode cX8_sortOf 5 = .ok (.goto 50, 3) := by decide +kernel
theorem dX8_sortOf_8 : decode cX8_sortOf 8 = .ok (.iload_n 0, 1) := by decide +kernel
theorem dX8_sortOf_9 : decode cX8_sortOf 9 = .ok (.i2l, 1) := by decide +kernel
theorem dX8_sortOf_10 : decode cX8_sortOf 10 = .ok (.ldc2_w 82, 3) := by decide +kernel
theorem dX8_sortOf_13 : decode cX8_sortOf 13 = .ok (.ldc2_w 84, 3) := by decide +kernel
theorem dX8_sortOf_16 : decode cX8_sortOf 16 = .ok (.invokestatic 60, 3) := by decide +kernel
theorem dX8_sortOf_19 : decode cX8_sortOf 19 = .ok (.ifCond .eq 7, 3) := by decide +kernel
theorem dX8_sortOf_22 : decode cX8_sortOf 22 = .ok (.iconst 1, 1) := by decide +kernel
theorem dX8_sortOf_23 : decode cX8_sortOf 23 = .ok (.goto 32, 3) := by decide +kernel
theorem dX8_sortOf_26 : decode cX8_sortOf 26 = .ok (.iload_n 0, 1) := by decide +kernel
theorem dX8_sortOf_27 : decode cX8_sortOf 27 = .ok (.i2l, 1) := by decide +kernel
theorem dX8_sortOf_28 : decode cX8_sortOf 28 = .ok (.ldc2_w 86, 3) := by decide +kernel
theorem dX8_sortOf_31 : decode cX8_sortOf 31 = .ok (.ldc2_w 88, 3) := by decide +kernel
theorem dX8_sortOf_34 : decode cX8_sortOf 34 = .ok (.invokestatic 60, 3) := by decide +kernel
theorem dX8_sortOf_37 : decode cX8_sortOf 37 = .ok (.ifCond .eq 7, 3) := by decide +kernel
theorem dX8_sortOf_40 : decode cX8_sortOf 40 = .ok (.iconst 2, 1) := by decide +kernel
theorem dX8_sortOf_41 : decode cX8_sortOf 41 = .ok (.goto 14, 3) := by decide +kernel
theorem dX8_sortOf_44 : decode cX8_sortOf 44 = .ok (.iload_n 0, 1) := by decide +kernel
theorem dX8_sortOf_45 : decode cX8_sortOf 45 = .ok (.bipush 59, 2) := by decide +kernel
theorem dX8_sortOf_47 : decode cX8_sortOf 47 = .ok (.if_icmp .ne 7, 3) := by decide +kernel
theorem dX8_sortOf_50 : decode cX8_sortOf 50 = .ok (.iconst 3, 1) := by decide +kernel
theorem dX8_sortOf_51 : decode cX8_sortOf 51 = .ok (.goto 4, 3) := by decide +kernel
theorem dX8_sortOf_54 : decode cX8_sortOf 54 = .ok (.iconst 4, 1) := by decide +kernel
theorem dX8_sortOf_55 : decode cX8_sortOf 55 = .ok (.ireturn, 1) := by decide +kernel
theorem dX8_token_0 : decode cX8_token 0 = .ok (.aload_n 0, 1) := by decide +kernel
theorem dX8_token_1 : decode cX8_token 1 = .ok (.aload_n 0, 1) := by decide +kernel
theorem dX8_token_2 : decode cX8_token 2 = .ok (.getfield 90, 3) := by decide +kernel
theorem dX8_token_5 : decode cX8_token 5 = .ok (.invokevirtual 93, 3) := by decide +kernel
theorem dX8_token_8 : decode cX8_token 8 = .ok (.bipush 32, 2) := by decide +kernel
theorem dX8_token_10 : decode cX8_token 10 = .ok (.if_icmp .eq 16, 3) := by decide +kernel
theorem dX8_token_13 : decode cX8_token 13 = .ok (.aload_n 0, 1) := by decide +kernel
theorem dX8_token_14 : decode cX8_token 14 = .ok (.aload_n 0, 1) := by decide +kernel
theorem dX8_token_15 : decode cX8_token 15 = .ok (.getfield 90, 3) := by decide +kernel
theorem dX8_token_18 : decode cX8_token 18 = .ok (.invokevirtual 93, 3) := by decide +kernel
theorem dX8_token_21 : decode cX8_token 21 = .ok (.bipush 10, 2) := by decide +kernel
theorem dX8_token_23 : decode cX8_token 23 = .ok (.if_icmp .ne 16, 3) := by decide +kernel
theorem dX8_token_26 : decode cX8_token 26 = .ok (.aload_n 0, 1) := by decide +kernel
theorem dX8_token_27 : decode cX8_token 27 = .ok (.dup, 1) := by decide +kernel
theorem dX8_token_28 : decode cX8_token 28 = .ok (.getfield 90, 3) := by decide +kernel
theorem dX8_token_31 : decode cX8_token 31 = .ok (.iconst 1, 1) := by decide +kernel
theorem dX8_token_32 : decode cX8_token 32 = .ok (.iadd, 1) := by decide +kernel
theorem dX8_token_33 : decode cX8_token 33 = .ok (.putfield 90, 3) := by decide +kernel
theorem dX8_token_36 : decode cX8_token 36 = .ok (.goto (-36), 3) := by decide +kernel
theorem dX8_token_39 : decode cX8_token 39 = .ok (.aload_n 0, 1) := by decide +kernel
theorem dX8_token_40 : decode cX8_token 40 = .ok (.aload_n 0, 1) := by decide +kernel
theorem dX8_token_41 : decode cX8_token 41 = .ok (.getfield 90, 3) := by decide +kernel
theorem dX8_token_44 : decode cX8_token 44 = .ok (.putfield 96, 3) := by decide +kernel
theorem dX8_token_47 : decode cX8_token 47 = .ok (.aload_n 0, 1) := by decide +kernel
theorem dX8_token_48 : decode cX8_token 48 = .ok (.aload_n 0, 1) := by decide +kernel
theorem dX8_token_49 : decode cX8_token 49 = .ok (.aload_n 0, 1) := by decide +kernel
theorem dX8_token_50 : decode cX8_token 50 = .ok (.getfield 90, 3) := by decide +kernel
theorem dX8_token_53 : decode cX8_token 53 = .ok (.invokevirtual 93, 3) := by decide +kernel
theorem dX8_token_56 : decode cX8_token 56 = .ok (.invokestatic 99, 3) := by decide +kernel
theorem dX8_token_59 : decode cX8_token 59 = .ok (.putfield 102, 3) := by decide +kernel
theorem dX8_token_62 : decode cX8_token 62 = .ok (.aload_n 0, 1) := by decide +kernel
theorem dX8_token_63 : decode cX8_token 63 = .ok (.getfield 102, 3) := by decide +kernel
theorem dX8_token_66 : decode cX8_token 66 = .ok (.istore_n 1, 1) := by decide +kernel
theorem dX8_token_67 : decode cX8_token 67 = .ok (.aload_n 0, 1) := by decide +kernel
theorem dX8_token_68 : decode cX8_token 68 = .ok (.iconst 0, 1) := by decide +kernel
theorem dX8_token_69 : decode cX8_token 69 = .ok (.putfield 105, 3) := by decide +kernel
theorem dX8_token_72 : decode cX8_token 72 = .ok (.aload_n 0, 1) := by decide +kernel
theorem dX8_token_73 : decode cX8_token 73 = .ok (.getfield 105, 3) := by decide +kernel
theorem dX8_token_76 : decode cX8_token 76 = .ok (.ifCond .ne 7, 3) := by decide +kernel
theorem dX8_token_79 : decode cX8_token 79 = .ok (.iload_n 1, 1) := by decide +kernel
theorem dX8_token_80 : decode cX8_token 80 = .ok (.ifCond .ne 28, 3) := by decide +kernel
theorem dX8_token_83 : decode cX8_token 83 = .ok (.iload_n 1, 1) := by decide +kernel
theorem dX8_token_84 : decode cX8_token 84 = .ok (.iconst 1, 1) := by decide +kernel
theorem dX8_token_85 : decode cX8_token 85 = .ok (.if_icmp .eq 8, 3) := by decide +kernel
theorem dX8_token_88 : decode cX8_token 88 = .ok (.iload_n 1, 1) := by decide +kernel
theorem dX8_token_89 : decode cX8_token 89 = .ok (.iconst 2, 1) := by decide +kernel
theorem dX8_token_90 : decode cX8_token 90 = .ok (.if_icmp .ne 41, 3) := by decide +kernel
theorem dX8_token_93 : decode cX8_token 93 = .ok (.aload_n 0, 1) := by decide +kernel
theorem dX8_token_94 : decode cX8_token 94 = .ok (.aload_n 0, 1) := by decide +kernel
theorem dX8_token_95 : decode cX8_token 95 = .ok (.getfield 90, 3) := by decide +kernel
theorem dX8_token_98 : decode cX8_token 98 = .ok (.invokevirtual 93, 3) := by decide +kernel
theorem dX8_token_101 : decode cX8_token 101 = .ok (.invokestatic 99, 3) := by decide +kernel
theorem dX8_token_104 : decode cX8_token 104 = .ok (.iload_n 1, 1) := by decide +kernel
theorem dX8_token_105 : decode cX8_token 105 = .ok (.if_icmp .ne 26, 3) := by decide +kernel
theorem dX8_token_108 : decode cX8_token 108 = .ok (.aload_n 0, 1) := by decide +kernel
theorem dX8_token_109 : decode cX8_token 109 = .ok (.dup, 1) := by decide +kernel
theorem dX8_token_110 : decode cX8_token 110 = .ok (.getfield 90, 3) := by decide +kernel
theorem dX8_token_113 : decode cX8_token 113 = .ok (.iconst 1, 1) := by decide +kernel
theorem dX8_token_114 : decode cX8_token 114 = .ok (.iadd, 1) := by decide +kernel
theorem dX8_token_115 : decode cX8_token 115 = .ok (.putfield 90, 3) := by decide +kernel
theorem dX8_token_118 : decode cX8_token 118 = .ok (.aload_n 0, 1) := by decide +kernel
theorem dX8_token_119 : decode cX8_token 119 = .ok (.dup, 1) := by decide +kernel
theorem dX8_token_120 : decode cX8_token 120 = .ok (.getfield 105, 3) := by decide +kernel
theorem dX8_token_123 : decode cX8_token 123 = .ok (.iconst 1, 1) := by decide +kernel
theorem dX8_token_124 : decode cX8_token 124 = .ok (.iadd, 1) := by decide +kernel
theorem dX8_token_125 : decode cX8_token 125 = .ok (.putfield 105, 3) := by decide +kernel
theorem dX8_token_128 : decode cX8_token 128 = .ok (.goto (-56), 3) := by decide +kernel
theorem dX8_token_131 : decode cX8_token 131 = .ok (.aload_n 0, 1) := by decide +kernel
theorem dX8_token_132 : decode cX8_token 132 = .ok (.iload_n 1, 1) := by decide +kernel
theorem dX8_token_133 : decode cX8_token 133 = .ok (.iconst 2, 1) := by decide +kernel
theorem dX8_token_134 : decode cX8_token 134 = .ok (.if_icmp .ne 15, 3) := by decide +kernel
theorem dX8_token_137 : decode cX8_token 137 = .ok (.aload_n 0, 1) := by decide +kernel
theorem dX8_token_138 : decode cX8_token 138 = .ok (.getfield 105, 3) := by decide +kernel
theorem dX8_token_141 : decode cX8_token 141 = .ok (.iconst 3, 1) := by decide +kernel
theorem dX8_token_142 : decode cX8_token 142 = .ok (.if_icmp .le 7, 3) := by decide +kernel
theorem dX8_token_145 : decode cX8_token 145 = .ok (.iconst 4, 1) := by decide +kernel
theorem dX8_token_146 : decode cX8_token 146 = .ok (.goto 4, 3) := by decide +kernel
theorem dX8_token_149 : decode cX8_token 149 = .ok (.iload_n 1, 1) := by decide +kernel
theorem dX8_token_150 : decode cX8_token 150 = .ok (.putfield 102, 3) := by decide +kernel
theorem dX8_token_153 : decode cX8_token 153 = .ok (.return_, 1) := by decide +kernel
theorem dX8_name_0 : decode cX8_name 0 = .ok (.lconst 0, 1) := by decide +kernel
theorem dX8_name_1 : decode cX8_name 1 = .ok (.lstore_n 1, 1) := by decide +kernel
theorem dX8_name_2 : decode cX8_name 2 = .ok (.iconst 0, 1) := by decide +kernel
theorem dX8_name_3 : decode cX8_name 3 = .ok (.istore_n 3, 1) := by decide +kernel
theorem dX8_name_4 : decode cX8_name 4 = .ok (.iload_n 3, 1) := by decide +kernel
theorem dX8_name_5 : decode cX8_name 5 = .ok (.aload_n 0, 1) := by decide +kernel
theorem dX8_name_6 : decode cX8_name 6 = .ok (.getfield 105, 3) := by decide +kernel
theorem dX8_name_9 : decode cX8_name 9 = .ok (.if_icmp .ge 44, 3) := by decide +kernel
theorem dX8_name_12 : decode cX8_name 12 = .ok (.aload_n 0, 1) := by decide +kernel
theorem dX8_name_13 : decode cX8_name 13 = .ok (.getfield 105, 3) := by decide +kernel
theorem dX8_name_16 : decode cX8_name 16 = .ok (.bipush 8, 2) := by decide +kernel
theorem dX8_name_18 : decode cX8_name 18 = .ok (.if_icmp .ge 35, 3) := by decide +kernel
theorem dX8_name_21 : decode cX8_name 21 = .ok (.aload_n 0, 1) := by decide +kernel
theorem dX8_name_22 : decode cX8_name 22 = .ok (.getfield 102, 3) := by decide +kernel
theorem dX8_name_25 : decode cX8_name 25 = .ok (.iconst 1, 1) := by decide +kernel
theorem dX8_name_26 : decode cX8_name 26 = .ok (.if_icmp .ne 27, 3) := by decide +kernel
theorem dX8_name_29 : decode cX8_name 29 = .ok (.ldc2_w 108, 3) := by decide +kernel
theorem dX8_name_32 : decode cX8_name 32 = .ok (.lload_n 1, 1) := by decide +kernel
theorem dX8_name_33 : decode cX8_name 33 = .ok (.lmul, 1) := by decide +kernel
theorem dX8_name_34 : decode cX8_name 34 = .ok (.aload_n 0, 1) := by decide +kernel
theorem dX8_name_35 : decode cX8_name 35 = .ok (.aload_n 0, 1) := by decide +kernel
theorem dX8_name_36 : decode cX8_name 36 = .ok (.getfield 96, 3) := by decide +kernel
theorem dX8_name_39 : decode cX8_name 39 = .ok (.iload_n 3, 1) := by decide +kernel
theorem dX8_name_40 : decode cX8_name 40 = .ok (.iadd, 1) := by decide +kernel
theorem dX8_name_41 : decode cX8_name 41 = .ok (.invokevirtual 93, 3) := by decide +kernel
theorem dX8_name_44 : decode cX8_name 44 = .ok (.i2l, 1) := by decide +kernel
theorem dX8_name_45 : decode cX8_name 45 = .ok (.ladd, 1) := by decide +kernel
theorem dX8_name_46 : decode cX8_name 46 = .ok (.lstore_n 1, 1) := by decide +kernel
theorem dX8_name_47 : decode cX8_name 47 = .ok (.iinc 3 1, 3) := by decide +kernel
theorem dX8_name_50 : decode cX8_name 50 = .ok (.goto (-46), 3) := by decide +kernel
theorem dX8_name_53 : decode cX8_name 53 = .ok (.lload_n 1, 1) := by decide +kernel
theorem dX8_name_54 : decode cX8_name 54 = .ok (.lreturn, 1) := by decide +kernel
theorem dX8_wrong_0 : decode cX8_wrong 0 = .ok (.aload_n 0, 1) := by decide +kernel
theorem dX8_wrong_1 : decode cX8_wrong 1 = .ok (.iload_n 1, 1) := by decide +kernel
theorem dX8_wrong_2 : decode cX8_wrong 2 = .ok (.putfield 110, 3) := by decide +kernel
theorem dX8_wrong_5 : decode cX8_wrong 5 = .ok (.iconst 0, 1) := by decide +kernel
theorem dX8_wrong_6 : decode cX8_wrong 6 = .ok (.ireturn, 1) := by decide +kernel
theorem dX8_number_0 : decode cX8_number 0 = .ok (.aload_n 0, 1) := by decide +kernel
theorem dX8_number_1 : decode cX8_number 1 = .ok (.getfield 102, 3) := by decide +kernel
theorem dX8_number_4 : decode cX8_number 4 = .ok (.iconst 2, 1) := by decide +kernel
theorem dX8_number_5 : decode cX8_number 5 = .ok (.if_icmp .eq 9, 3) := by decide +kernel
theorem dX8_number_8 : decode cX8_number 8 = .ok (.aload_n 0, 1) := by decide +kernel
theorem dX8_number_9 : decode cX8_number 9 = .ok (.iconst 1, 1) := by decide +kernel
theorem dX8_number_10 : decode cX8_number 10 = .ok (.invokevirtual 113, 3) := by decide +kernel
theorem dX8_number_13 : decode cX8_number 13 = .ok (.ireturn, 1) := by decide +kernel
theorem dX8_number_14 : decode cX8_number 14 = .ok (.iconst 0, 1) := by decide +kernel
theorem dX8_number_15 : decode cX8_number 15 = .ok (.istore 4, 2) := by decide +kernel
theorem dX8_number_17 : decode cX8_number 17 = .ok (.iconst 0, 1) := by decide +kernel
theorem dX8_number_18 : decode cX8_number 18 = .ok (.istore 5, 2) := by decide +kernel
theorem dX8_number_20 : decode cX8_number 20 = .ok (.iload 5, 2) := by decide +kernel
theorem dX8_number_22 : decode cX8_number 22 = .ok (.aload_n 0, 1) := by decide +kernel
theorem dX8_number_23 : decode cX8_number 23 = .ok (.getfield 105, 3) := by decide +kernel
theorem dX8_number_26 : decode cX8_number 26 = .ok (.if_icmp .ge 31, 3) := by decide +kernel
theorem dX8_number_29 : decode cX8_number 29 = .ok (.bipush 10, 2) := by decide +kernel
theorem dX8_number_31 : decode cX8_number 31 = .ok (.iload 4, 2) := by decide +kernel
theorem dX8_number_33 : decode cX8_number 33 = .ok (.imul, 1) := by decide +kernel
theorem dX8_number_34 : decode cX8_number 34 = .ok (.aload_n 0, 1) := by decide +kernel
theorem dX8_number_35 : decode cX8_number 35 = .ok (.aload_n 0, 1) := by decide +kernel
theorem dX8_number_36 : decode cX8_number 36 = .ok (.getfield 96, 3) := by decide +kernel
theorem dX8_number_39 : decode cX8_number 39 = .ok (.iload 5, 2) := by decide +kernel
theorem dX8_number_41 : decode cX8_number 41 = .ok (.iadd, 1) := by decide +kernel
theorem dX8_number_42 : decode cX8_number 42 = .ok (.invokevirtual 93, 3) := by decide +kernel
theorem dX8_number_45 : decode cX8_number 45 = .ok (.iadd, 1) := by decide +kernel
theorem dX8_number_46 : decode cX8_number 46 = .ok (.bipush 48, 2) := by decide +kernel
theorem dX8_number_48 : decode cX8_number 48 = .ok (.isub, 1) := by decide +kernel
theorem dX8_number_49 : decode cX8_number 49 = .ok (.istore 4, 2) := by decide +kernel
theorem dX8_number_51 : decode cX8_number 51 = .ok (.iinc 5 1, 3) := by decide +kernel
theorem dX8_number_54 : decode cX8_number 54 = .ok (.goto (-34), 3) := by decide +kernel
theorem dX8_number_57 : decode cX8_number 57 = .ok (.iload 4, 2) := by decide +kernel
theorem dX8_number_59 : decode cX8_number 59 = .ok (.i2l, 1) := by decide +kernel
theorem dX8_number_60 : decode cX8_number 60 = .ok (.iload_n 2, 1) := by decide +kernel
theorem dX8_number_61 : decode cX8_number 61 = .ok (.i2l, 1) := by decide +kernel
theorem dX8_number_62 : decode cX8_number 62 = .ok (.iload_n 3, 1) := by decide +kernel
theorem dX8_number_63 : decode cX8_number 63 = .ok (.i2l, 1) := by decide +kernel
theorem dX8_number_64 : decode cX8_number 64 = .ok (.invokestatic 60, 3) := by decide +kernel
theorem dX8_number_67 : decode cX8_number 67 = .ok (.ifCond .ne 9, 3) := by decide +kernel
theorem dX8_number_70 : decode cX8_number 70 = .ok (.aload_n 0, 1) := by decide +kernel
theorem dX8_number_71 : decode cX8_number 71 = .ok (.iconst 2, 1) := by decide +kernel
theorem dX8_number_72 : decode cX8_number 72 = .ok (.invokevirtual 113, 3) := by decide +kernel
theorem dX8_number_75 : decode cX8_number 75 = .ok (.ireturn, 1) := by decide +kernel
theorem dX8_number_76 : decode cX8_number 76 = .ok (.aload_n 0, 1) := by decide +kernel
theorem dX8_number_77 : decode cX8_number 77 = .ok (.getfield 25, 3) := by decide +kernel
theorem dX8_number_80 : decode cX8_number 80 = .ok (.iload_n 1, 1) := by decide +kernel
theorem dX8_number_81 : decode cX8_number 81 = .ok (.iload 4, 2) := by decide +kernel
theorem dX8_number_83 : decode cX8_number 83 = .ok (.iastore, 1) := by decide +kernel
theorem dX8_number_84 : decode cX8_number 84 = .ok (.aload_n 0, 1) := by decide +kernel
theorem dX8_number_85 : decode cX8_number 85 = .ok (.invokevirtual 117, 3) := by decide +kernel
theorem dX8_number_88 : decode cX8_number 88 = .ok (.iconst 1, 1) := by decide +kernel
theorem dX8_number_89 : decode cX8_number 89 = .ok (.ireturn, 1) := by decide +kernel
theorem dX8_sign_0 : decode cX8_sign 0 = .ok (.aload_n 0, 1) := by decide +kernel
theorem dX8_sign_1 : decode cX8_sign 1 = .ok (.getfield 102, 3) := by decide +kernel
theorem dX8_sign_4 : decode cX8_sign 4 = .ok (.iconst 3, 1) := by decide +kernel
theorem dX8_sign_5 : decode cX8_sign 5 = .ok (.if_icmp .eq 9, 3) := by decide +kernel
theorem dX8_sign_8 : decode cX8_sign 8 = .ok (.aload_n 0, 1) := by decide +kernel
theorem dX8_sign_9 : decode cX8_sign 9 = .ok (.iconst 1, 1) := by decide +kernel
theorem dX8_sign_10 : decode cX8_sign 10 = .ok (.invokevirtual 113, 3) := by decide +kernel
theorem dX8_sign_13 : decode cX8_sign 13 = .ok (.ireturn, 1) := by decide +kernel
theorem dX8_sign_14 : decode cX8_sign 14 = .ok (.aload_n 0, 1) := by decide +kernel
theorem dX8_sign_15 : decode cX8_sign 15 = .ok (.invokevirtual 117, 3) := by decide +kernel
theorem dX8_sign_18 : decode cX8_sign 18 = .ok (.iconst 1, 1) := by decide +kernel
theorem dX8_sign_19 : decode cX8_sign 19 = .ok (.ireturn, 1) := by decide +kernel
theorem dX8_cell_0 : decode cX8_cell 0 = .ok (.aload_n 0, 1) := by decide +kernel
theorem dX8_cell_1 : decode cX8_cell 1 = .ok (.bipush 37, 2) := by decide +kernel
theorem dX8_cell_3 : decode cX8_cell 3 = .ok (.iconst 0, 1) := by decide +kernel
theorem dX8_cell_4 : decode cX8_cell 4 = .ok (.iconst 5, 1) := by decide +kernel
theorem dX8_cell_5 : decode cX8_cell 5 = .ok (.invokevirtual 120, 3) := by decide +kernel
theorem dX8_cell_8 : decode cX8_cell 8 = .ok (.ifCond .eq 18, 3) := by decide +kernel
theorem dX8_cell_11 : decode cX8_cell 11 = .ok (.aload_n 0, 1) := by decide +kernel
theorem dX8_cell_12 : decode cX8_cell 12 = .ok (.bipush 38, 2) := by decide +kernel
theorem dX8_cell_14 : decode cX8_cell 14 = .ok (.iconst 0, 1) := by decide +kernel
theorem dX8_cell_15 : decode cX8_cell 15 = .ok (.iconst 4, 1) := by decide +kernel
theorem dX8_cell_16 : decode cX8_cell 16 = .ok (.invokevirtual 120, 3) := by decide +kernel
theorem dX8_cell_19 : decode cX8_cell 19 = .ok (.ifCond .eq 7, 3) := by decide +kernel
theorem dX8_cell_22 : decode cX8_cell 22 = .ok (.iconst 1, 1) := by decide +kernel
theorem dX8_cell_23 : decode cX8_cell 23 = .ok (.goto 4, 3) := by decide +kernel
theorem dX8_cell_26 : decode cX8_cell 26 = .ok (.iconst 0, 1) := by decide +kernel
theorem dX8_cell_27 : decode cX8_cell 27 = .ok (.ireturn, 1) := by decide +kernel
theorem dX8_readsDrain_0 : decode cX8_readsDrain 0 = .ok (.aload_n 0, 1) := by decide +kernel
theorem dX8_readsDrain_1 : decode cX8_readsDrain 1 = .ok (.getfield 25, 3) := by decide +kernel
theorem dX8_readsDrain_4 : decode cX8_readsDrain 4 = .ok (.iconst 2, 1) := by decide +kernel
theorem dX8_readsDrain_5 : decode cX8_readsDrain 5 = .ok (.iaload, 1) := by decide +kernel
theorem dX8_readsDrain_6 : decode cX8_readsDrain 6 = .ok (.bipush 6, 2) := by decide +kernel
theorem dX8_readsDrain_8 : decode cX8_readsDrain 8 = .ok (.if_icmp .ne 9, 3) := by decide +kernel
theorem dX8_readsDrain_11 : decode cX8_readsDrain 11 = .ok (.aload_n 0, 1) := by decide +kernel
theorem dX8_readsDrain_12 : decode cX8_readsDrain 12 = .ok (.iconst 3, 1) := by decide +kernel
theorem dX8_readsDrain_13 : decode cX8_readsDrain 13 = .ok (.invokevirtual 113, 3) := by decide +kernel
theorem dX8_readsDrain_16 : decode cX8_readsDrain 16 = .ok (.ireturn, 1) := by decide +kernel
theorem dX8_readsDrain_17 : decode cX8_readsDrain 17 = .ok (.aload_n 0, 1) := by decide +kernel
theorem dX8_readsDrain_18 : decode cX8_readsDrain 18 = .ok (.invokevirtual 117, 3) := by decide +kernel
theorem dX8_readsDrain_21 : decode cX8_readsDrain 21 = .ok (.aload_n 0, 1) := by decide +kernel
theorem dX8_readsDrain_22 : decode cX8_readsDrain 22 = .ok (.invokevirtual 124, 3) := by decide +kernel
theorem dX8_readsDrain_25 : decode cX8_readsDrain 25 = .ok (.ifCond .eq 10, 3) := by decide +kernel
theorem dX8_readsDrain_28 : decode cX8_readsDrain 28 = .ok (.aload_n 0, 1) := by decide +kernel
theorem dX8_readsDrain_29 : decode cX8_readsDrain 29 = .ok (.invokevirtual 128, 3) := by decide +kernel
theorem dX8_readsDrain_32 : decode cX8_readsDrain 32 = .ok (.ifCond .ne 5, 3) := by decide +kernel
theorem dX8_readsDrain_35 : decode cX8_readsDrain 35 = .ok (.iconst 0, 1) := by decide +kernel
theorem dX8_readsDrain_36 : decode cX8_readsDrain 36 = .ok (.ireturn, 1) := by decide +kernel
theorem dX8_readsDrain_37 : decode cX8_readsDrain 37 = .ok (.aload_n 0, 1) := by decide +kernel
theorem dX8_readsDrain_38 : decode cX8_readsDrain 38 = .ok (.getfield 25, 3) := by decide +kernel
theorem dX8_readsDrain_41 : decode cX8_readsDrain 41 = .ok (.iconst 2, 1) := by decide +kernel
theorem dX8_readsDrain_42 : decode cX8_readsDrain 42 = .ok (.dup2, 1) := by decide +kernel
theorem dX8_readsDrain_43 : decode cX8_readsDrain 43 = .ok (.iaload, 1) := by decide +kernel
theorem dX8_readsDrain_44 : decode cX8_readsDrain 44 = .ok (.iconst 1, 1) := by decide +kernel
theorem dX8_readsDrain_45 : decode cX8_readsDrain 45 = .ok (.iadd, 1) := by decide +kernel
theorem dX8_readsDrain_46 : decode cX8_readsDrain 46 = .ok (.iastore, 1) := by decide +kernel
theorem dX8_readsDrain_47 : decode cX8_readsDrain 47 = .ok (.aload_n 0, 1) := by decide +kernel
theorem dX8_readsDrain_48 : decode cX8_readsDrain 48 = .ok (.getfield 25, 3) := by decide +kernel
theorem dX8_readsDrain_51 : decode cX8_readsDrain 51 = .ok (.iconst 4, 1) := by decide +kernel
theorem dX8_readsDrain_52 : decode cX8_readsDrain 52 = .ok (.dup2, 1) := by decide +kernel
theorem dX8_readsDrain_53 : decode cX8_readsDrain 53 = .ok (.iaload, 1) := by decide +kernel
theorem dX8_readsDrain_54 : decode cX8_readsDrain 54 = .ok (.iconst 1, 1) := by decide +kernel
theorem dX8_readsDrain_55 : decode cX8_readsDrain 55 = .ok (.bipush 6, 2) := by decide +kernel
theorem dX8_readsDrain_57 : decode cX8_readsDrain 57 = .ok (.aload_n 0, 1) := by decide +kernel
theorem dX8_readsDrain_58 : decode cX8_readsDrain 58 = .ok (.getfield 25, 3) := by decide +kernel
theorem dX8_readsDrain_61 : decode cX8_readsDrain 61 = .ok (.bipush 38, 2) := by decide +kernel
theorem dX8_readsDrain_63 : decode cX8_readsDrain 63 = .ok (.iaload, 1) := by decide +kernel
theorem dX8_readsDrain_64 : decode cX8_readsDrain 64 = .ok (.imul, 1) := by decide +kernel
theorem dX8_readsDrain_65 : decode cX8_readsDrain 65 = .ok (.aload_n 0, 1) := by decide +kernel
theorem dX8_readsDrain_66 : decode cX8_readsDrain 66 = .ok (.getfield 25, 3) := by decide +kernel
theorem dX8_readsDrain_69 : decode cX8_readsDrain 69 = .ok (.bipush 37, 2) := by decide +kernel
theorem dX8_readsDrain_71 : decode cX8_readsDrain 71 = .ok (.iaload, 1) := by decide +kernel
theorem dX8_readsDrain_72 : decode cX8_readsDrain 72 = .ok (.iadd, 1) := by decide +kernel
theorem dX8_readsDrain_73 : decode cX8_readsDrain 73 = .ok (.ishl, 1) := by decide +kernel
theorem dX8_readsDrain_74 : decode cX8_readsDrain 74 = .ok (.ior, 1) := by decide +kernel
theorem dX8_readsDrain_75 : decode cX8_readsDrain 75 = .ok (.iastore, 1) := by decide +kernel
theorem dX8_readsDrain_76 : decode cX8_readsDrain 76 = .ok (.iconst 1, 1) := by decide +kernel
theorem dX8_readsDrain_77 : decode cX8_readsDrain 77 = .ok (.ireturn, 1) := by decide +kernel
theorem dX8_readsChild_0 : decode cX8_readsChild 0 = .ok (.aload_n 0, 1) := by decide +kernel
theorem dX8_readsChild_1 : decode cX8_readsChild 1 = .ok (.getfield 25, 3) := by decide +kernel
theorem dX8_readsChild_4 : decode cX8_readsChild 4 = .ok (.iconst 3, 1) := by decide +kernel
theorem dX8_readsChild_5 : decode cX8_readsChild 5 = .ok (.iaload, 1) := by decide +kernel
theorem dX8_readsChild_6 : decode cX8_readsChild 6 = .ok (.istore_n 1, 1) := by decide +kernel
theorem dX8_readsChild_7 : decode cX8_readsChild 7 = .ok (.iload_n 1, 1) := by decide +kernel
theorem dX8_readsChild_8 : decode cX8_readsChild 8 = .ok (.iconst 5, 1) := by decide +kernel
theorem dX8_readsChild_9 : decode cX8_readsChild 9 = .ok (.if_icmp .ne 9, 3) := by decide +kernel
theorem dX8_readsChild_12 : decode cX8_readsChild 12 = .ok (.aload_n 0, 1) := by decide +kernel
theorem dX8_readsChild_13 : decode cX8_readsChild 13 = .ok (.iconst 3, 1) := by decide +kernel
theorem dX8_readsChild_14 : decode cX8_readsChild 14 = .ok (.invokevirtual 113, 3) := by decide +kernel
theorem dX8_readsChild_17 : decode cX8_readsChild 17 = .ok (.ireturn, 1) := by decide +kernel
theorem dX8_readsChild_18 : decode cX8_readsChild 18 = .ok (.aload_n 0, 1) := by decide +kernel
theorem dX8_readsChild_19 : decode cX8_readsChild 19 = .ok (.invokevirtual 117, 3) := by decide +kernel
theorem dX8_readsChild_22 : decode cX8_readsChild 22 = .ok (.aload_n 0, 1) := by decide +kernel
theorem dX8_readsChild_23 : decode cX8_readsChild 23 = .ok (.invokevirtual 131, 3) := by decide +kernel
theorem dX8_readsChild_26 : decode cX8_readsChild 26 = .ok (.lstore_n 2, 1) := by decide +kernel
theorem dX8_readsChild_27 : decode cX8_readsChild 27 = .ok (.lload_n 2, 1) := by decide +kernel
theorem dX8_readsChild_28 : decode cX8_readsChild 28 = .ok (.ldc2_w 135, 3) := by decide +kernel
theorem dX8_readsChild_31 : decode cX8_readsChild 31 = .ok (.lcmp, 1) := by decide +kernel
theorem dX8_readsChild_32 : decode cX8_readsChild 32 = .ok (.ifCond .ne 7, 3) := by decide +kernel
theorem dX8_readsChild_35 : decode cX8_readsChild 35 = .ok (.iconst 1, 1) := by decide +kernel
theorem dX8_readsChild_36 : decode cX8_readsChild 36 = .ok (.goto 52, 3) := by decide +kernel
theorem dX8_readsChild_39 : decode cX8_readsChild 39 = .ok (.lload_n 2, 1) := by decide +kernel
theorem dX8_readsChild_40 : decode cX8_readsChild 40 = .ok (.ldc2_w 137, 3) := by decide +kernel
theorem dX8_readsChild_43 : decode cX8_readsChild 43 = .ok (.lcmp, 1) := by decide +kernel
theorem dX8_readsChild_44 : decode cX8_readsChild 44 = .ok (.ifCond .ne 7, 3) := by decide +kernel
theorem dX8_readsChild_47 : decode cX8_readsChild 47 = .ok (.iconst 2, 1) := by decide +kernel
theorem dX8_readsChild_48 : decode cX8_readsChild 48 = .ok (.goto 40, 3) := by decide +kernel
theorem dX8_readsChild_51 : decode cX8_readsChild 51 = .ok (.lload_n 2, 1) := by decide +kernel
theorem dX8_readsChild_52 : decode cX8_readsChild 52 = .ok (.ldc2_w 139, 3) := by decide +kernel
theorem dX8_readsChild_55 : decode cX8_readsChild 55 = .ok (.lcmp, 1) := by decide +kernel
theorem dX8_readsChild_56 : decode cX8_readsChild 56 = .ok (.ifCond .ne 7, 3) := by decide +kernel
theorem dX8_readsChild_59 : decode cX8_readsChild 59 = .ok (.iconst 3, 1) := by decide +kernel
theorem dX8_readsChild_60 : decode cX8_readsChild 60 = .ok (.goto 28, 3) := by decide +kernel
theorem dX8_readsChild_63 : decode cX8_readsChild 63 = .ok (.lload_n 2, 1) := by decide +kernel
theorem dX8_readsChild_64 : decode cX8_readsChild 64 = .ok (.ldc2_w 141, 3) := by decide +kernel
theorem dX8_readsChild_67 : decode cX8_readsChild 67 = .ok (.lcmp, 1) := by decide +kernel
theorem dX8_readsChild_68 : decode cX8_readsChild 68 = .ok (.ifCond .ne 7, 3) := by decide +kernel
theorem dX8_readsChild_71 : decode cX8_readsChild 71 = .ok (.iconst 4, 1) := by decide +kernel
theorem dX8_readsChild_72 : decode cX8_readsChild 72 = .ok (.goto 16, 3) := by decide +kernel
theorem dX8_readsChild_75 : decode cX8_readsChild 75 = .ok (.lload_n 2, 1) := by decide +kernel
theorem dX8_readsChild_76 : decode cX8_readsChild 76 = .ok (.ldc2_w 143, 3) := by decide +kernel
theorem dX8_readsChild_79 : decode cX8_readsChild 79 = .ok (.lcmp, 1) := by decide +kernel
theorem dX8_readsChild_80 : decode cX8_readsChild 80 = .ok (.ifCond .ne 7, 3) := by decide +kernel
theorem dX8_readsChild_83 : decode cX8_readsChild 83 = .ok (.iconst 5, 1) := by decide +kernel
theorem dX8_readsChild_84 : decode cX8_readsChild 84 = .ok (.goto 4, 3) := by decide +kernel
theorem dX8_readsChild_87 : decode cX8_readsChild 87 = .ok (.iconst 0, 1) := by decide +kernel
theorem dX8_readsChild_88 : decode cX8_readsChild 88 = .ok (.istore 4, 2) := by decide +kernel
theorem dX8_readsChild_90 : decode cX8_readsChild 90 = .ok (.iload 4, 2) := by decide +kernel
theorem dX8_readsChild_92 : decode cX8_readsChild 92 = .ok (.ifCond .ne 9, 3) := by decide +kernel
theorem dX8_readsChild_95 : decode cX8_readsChild 95 = .ok (.aload_n 0, 1) := by decide +kernel
theorem dX8_readsChild_96 : decode cX8_readsChild 96 = .ok (.iconst 1, 1) := by decide +kernel
theorem dX8_readsChild_97 : decode cX8_readsChild 97 = .ok (.invokevirtual 113, 3) := by decide +kernel
theorem dX8_readsChild_100 : decode cX8_readsChild 100 = .ok (.ireturn, 1) := by decide +kernel
theorem dX8_readsChild_101 : decode cX8_readsChild 101 = .ok (.aload_n 0, 1) := by decide +kernel
theorem dX8_readsChild_102 : decode cX8_readsChild 102 = .ok (.invokevirtual 117, 3) := by decide +kernel
theorem dX8_readsChild_105 : decode cX8_readsChild 105 = .ok (.aload_n 0, 1) := by decide +kernel
theorem dX8_readsChild_106 : decode cX8_readsChild 106 = .ok (.invokevirtual 124, 3) := by decide +kernel
theorem dX8_readsChild_109 : decode cX8_readsChild 109 = .ok (.ifCond .eq 24, 3) := by decide +kernel
theorem dX8_readsChild_112 : decode cX8_readsChild 112 = .ok (.aload_n 0, 1) := by decide +kernel
theorem dX8_readsChild_113 : decode cX8_readsChild 113 = .ok (.bipush 10, 2) := by decide +kernel
theorem dX8_readsChild_115 : decode cX8_readsChild 115 = .ok (.iload_n 1, 1) := by decide +kernel
theorem dX8_readsChild_116 : decode cX8_readsChild 116 = .ok (.iadd, 1) := by decide +kernel
theorem dX8_readsChild_117 : decode cX8_readsChild 117 = .ok (.iconst 1, 1) := by decide +kernel
theorem dX8_readsChild_118 : decode cX8_readsChild 118 = .ok (.bipush 9, 2) := by decide +kernel
theorem dX8_readsChild_120 : decode cX8_readsChild 120 = .ok (.invokevirtual 120, 3) := by decide +kernel
theorem dX8_readsChild_123 : decode cX8_readsChild 123 = .ok (.ifCond .eq 10, 3) := by decide +kernel
theorem dX8_readsChild_126 : decode cX8_readsChild 126 = .ok (.aload_n 0, 1) := by decide +kernel
theorem dX8_readsChild_127 : decode cX8_readsChild 127 = .ok (.invokevirtual 128, 3) := by decide +kernel
theorem dX8_readsChild_130 : decode cX8_readsChild 130 = .ok (.ifCond .ne 5, 3) := by decide +kernel
theorem dX8_readsChild_133 : decode cX8_readsChild 133 = .ok (.iconst 0, 1) := by decide +kernel
theorem dX8_readsChild_134 : decode cX8_readsChild 134 = .ok (.ireturn, 1) := by decide +kernel
theorem dX8_readsChild_135 : decode cX8_readsChild 135 = .ok (.aload_n 0, 1) := by decide +kernel
theorem dX8_readsChild_136 : decode cX8_readsChild 136 = .ok (.getfield 25, 3) := by decide +kernel
theorem dX8_readsChild_139 : decode cX8_readsChild 139 = .ok (.iconst 5, 1) := by decide +kernel
theorem dX8_readsChild_140 : decode cX8_readsChild 140 = .ok (.iload_n 1, 1) := by decide +kernel
theorem dX8_readsChild_141 : decode cX8_readsChild 141 = .ok (.iadd, 1) := by decide +kernel
theorem dX8_readsChild_142 : decode cX8_readsChild 142 = .ok (.iload 4, 2) := by decide +kernel
theorem dX8_readsChild_144 : decode cX8_readsChild 144 = .ok (.iastore, 1) := by decide +kernel
theorem dX8_readsChild_145 : decode cX8_readsChild 145 = .ok (.aload_n 0, 1) := by decide +kernel
theorem dX8_readsChild_146 : decode cX8_readsChild 146 = .ok (.getfield 25, 3) := by decide +kernel
theorem dX8_readsChild_149 : decode cX8_readsChild 149 = .ok (.bipush 15, 2) := by decide +kernel
theorem dX8_readsChild_151 : decode cX8_readsChild 151 = .ok (.iload_n 1, 1) := by decide +kernel
theorem dX8_readsChild_152 : decode cX8_readsChild 152 = .ok (.iadd, 1) := by decide +kernel
theorem dX8_readsChild_153 : decode cX8_readsChild 153 = .ok (.bipush 6, 2) := by decide +kernel
theorem dX8_readsChild_155 : decode cX8_readsChild 155 = .ok (.aload_n 0, 1) := by decide +kernel
theorem dX8_readsChild_156 : decode cX8_readsChild 156 = .ok (.getfield 25, 3) := by decide +kernel
theorem dX8_readsChild_159 : decode cX8_readsChild 159 = .ok (.bipush 38, 2) := by decide +kernel
theorem dX8_readsChild_161 : decode cX8_readsChild 161 = .ok (.iaload, 1) := by decide +kernel
theorem dX8_readsChild_162 : decode cX8_readsChild 162 = .ok (.imul, 1) := by decide +kernel
theorem dX8_readsChild_163 : decode cX8_readsChild 163 = .ok (.aload_n 0, 1) := by decide +kernel
theorem dX8_readsChild_164 : decode cX8_readsChild 164 = .ok (.getfield 25, 3) := by decide +kernel
theorem dX8_readsChild_167 : decode cX8_readsChild 167 = .ok (.bipush 37, 2) := by decide +kernel
theorem dX8_readsChild_169 : decode cX8_readsChild 169 = .ok (.iaload, 1) := by decide +kernel
theorem dX8_readsChild_170 : decode cX8_readsChild 170 = .ok (.iadd, 1) := by decide +kernel
theorem dX8_readsChild_171 : decode cX8_readsChild 171 = .ok (.iastore, 1) := by decide +kernel
theorem dX8_readsChild_172 : decode cX8_readsChild 172 = .ok (.aload_n 0, 1) := by decide +kernel
theorem dX8_readsChild_173 : decode cX8_readsChild 173 = .ok (.getfield 25, 3) := by decide +kernel
theorem dX8_readsChild_176 : decode cX8_readsChild 176 = .ok (.iconst 3, 1) := by decide +kernel
theorem dX8_readsChild_177 : decode cX8_readsChild 177 = .ok (.dup2, 1) := by decide +kernel
theorem dX8_readsChild_178 : decode cX8_readsChild 178 = .ok (.iaload, 1) := by decide +kernel
theorem dX8_readsChild_179 : decode cX8_readsChild 179 = .ok (.iconst 1, 1) := by decide +kernel
theorem dX8_readsChild_180 : decode cX8_readsChild 180 = .ok (.iadd, 1) := by decide +kernel
theorem dX8_readsChild_181 : decode cX8_readsChild 181 = .ok (.iastore, 1) := by decide +kernel
theorem dX8_readsChild_182 : decode cX8_readsChild 182 = .ok (.iconst 1, 1) := by decide +kernel
theorem dX8_readsChild_183 : decode cX8_readsChild 183 = .ok (.ireturn, 1) := by decide +kernel
theorem dX8_reads_0 : decode cX8_reads 0 = .ok (.iconst 0, 1) := by decide +kernel
theorem dX8_reads_1 : decode cX8_reads 1 = .ok (.istore_n 1, 1) := by decide +kernel
theorem dX8_reads_2 : decode cX8_reads 2 = .ok (.iload_n 1, 1) := by decide +kernel
theorem dX8_reads_3 : decode cX8_reads 3 = .ok (.bipush 39, 2) := by decide +kernel
theorem dX8_reads_5 : decode cX8_reads 5 = .ok (.if_icmp .ge 16, 3) := by decide +kernel
theorem dX8_reads_8 : decode cX8_reads 8 = .ok (.aload_n 0, 1) := by decide +kernel
theorem dX8_reads_9 : decode cX8_reads 9 = .ok (.getfield 25, 3) := by decide +kernel
theorem dX8_reads_12 : decode cX8_reads 12 = .ok (.iload_n 1, 1) := by decide +kernel
theorem dX8_reads_13 : decode cX8_reads 13 = .ok (.iconst 0, 1) := by decide +kernel
theorem dX8_reads_14 : decode cX8_reads 14 = .ok (.iastore, 1) := by decide +kernel
theorem dX8_reads_15 : decode cX8_reads 15 = .ok (.iinc 1 1, 3) := by decide +kernel
theorem dX8_reads_18 : decode cX8_reads 18 = .ok (.goto (-16), 3) := by decide +kernel
theorem dX8_reads_21 : decode cX8_reads 21 = .ok (.aload_n 0, 1) := by decide +kernel
theorem dX8_reads_22 : decode cX8_reads 22 = .ok (.iconst 0, 1) := by decide +kernel
theorem dX8_reads_23 : decode cX8_reads 23 = .ok (.putfield 90, 3) := by decide +kernel
theorem dX8_reads_26 : decode cX8_reads 26 = .ok (.aload_n 0, 1) := by decide +kernel
theorem dX8_reads_27 : decode cX8_reads 27 = .ok (.invokevirtual 117, 3) := by decide +kernel
theorem dX8_reads_30 : decode cX8_reads 30 = .ok (.aload_n 0, 1) := by decide +kernel
theorem dX8_reads_31 : decode cX8_reads 31 = .ok (.invokevirtual 131, 3) := by decide +kernel
theorem dX8_reads_34 : decode cX8_reads 34 = .ok (.ldc2_w 145, 3) := by decide +kernel
theorem dX8_reads_37 : decode cX8_reads 37 = .ok (.lcmp, 1) := by decide +kernel
theorem dX8_reads_38 : decode cX8_reads 38 = .ok (.ifCond .eq 9, 3) := by decide +kernel
theorem dX8_reads_41 : decode cX8_reads 41 = .ok (.aload_n 0, 1) := by decide +kernel
theorem dX8_reads_42 : decode cX8_reads 42 = .ok (.iconst 1, 1) := by decide +kernel
theorem dX8_reads_43 : decode cX8_reads 43 = .ok (.invokevirtual 113, 3) := by decide +kernel
theorem dX8_reads_46 : decode cX8_reads 46 = .ok (.ireturn, 1) := by decide +kernel
theorem dX8_reads_47 : decode cX8_reads 47 = .ok (.aload_n 0, 1) := by decide +kernel
theorem dX8_reads_48 : decode cX8_reads 48 = .ok (.invokevirtual 117, 3) := by decide +kernel
theorem dX8_reads_51 : decode cX8_reads 51 = .ok (.aload_n 0, 1) := by decide +kernel
theorem dX8_reads_52 : decode cX8_reads 52 = .ok (.iconst 1, 1) := by decide +kernel
theorem dX8_reads_53 : decode cX8_reads 53 = .ok (.iconst 0, 1) := by decide +kernel
theorem dX8_reads_54 : decode cX8_reads 54 = .ok (.bipush 20, 2) := by decide +kernel
theorem dX8_reads_56 : decode cX8_reads 56 = .ok (.invokevirtual 120, 3) := by decide +kernel
theorem dX8_reads_59 : decode cX8_reads 59 = .ok (.ifCond .eq 10, 3) := by decide +kernel
theorem dX8_reads_62 : decode cX8_reads 62 = .ok (.aload_n 0, 1) := by decide +kernel
theorem dX8_reads_63 : decode cX8_reads 63 = .ok (.invokevirtual 128, 3) := by decide +kernel
theorem dX8_reads_66 : decode cX8_reads 66 = .ok (.ifCond .ne 5, 3) := by decide +kernel
theorem dX8_reads_69 : decode cX8_reads 69 = .ok (.iconst 0, 1) := by decide +kernel
theorem dX8_reads_70 : decode cX8_reads 70 = .ok (.ireturn, 1) := by decide +kernel
theorem dX8_reads_71 : decode cX8_reads 71 = .ok (.aload_n 0, 1) := by decide +kernel
theorem dX8_reads_72 : decode cX8_reads 72 = .ok (.invokevirtual 131, 3) := by decide +kernel
theorem dX8_reads_75 : decode cX8_reads 75 = .ok (.ldc2_w 147, 3) := by decide +kernel
theorem dX8_reads_78 : decode cX8_reads 78 = .ok (.lcmp, 1) := by decide +kernel
theorem dX8_reads_79 : decode cX8_reads 79 = .ok (.ifCond .ne 12, 3) := by decide +kernel
theorem dX8_reads_82 : decode cX8_reads 82 = .ok (.aload_n 0, 1) := by decide +kernel
theorem dX8_reads_83 : decode cX8_reads 83 = .ok (.invokevirtual 149, 3) := by decide +kernel
theorem dX8_reads_86 : decode cX8_reads 86 = .ok (.ifCond .ne (-15), 3) := by decide +kernel
theorem dX8_reads_89 : decode cX8_reads 89 = .ok (.iconst 0, 1) := by decide +kernel
theorem dX8_reads_90 : decode cX8_reads 90 = .ok (.ireturn, 1) := by decide +kernel
theorem dX8_reads_91 : decode cX8_reads 91 = .ok (.aload_n 0, 1) := by decide +kernel
theorem dX8_reads_92 : decode cX8_reads 92 = .ok (.invokevirtual 131, 3) := by decide +kernel
theorem dX8_reads_95 : decode cX8_reads 95 = .ok (.ldc2_w 152, 3) := by decide +kernel
theorem dX8_reads_98 : decode cX8_reads 98 = .ok (.lcmp, 1) := by decide +kernel
theorem dX8_reads_99 : decode cX8_reads 99 = .ok (.ifCond .ne 12, 3) := by decide +kernel
theorem dX8_reads_102 : decode cX8_reads 102 = .ok (.aload_n 0, 1) := by decide +kernel
theorem dX8_reads_103 : decode cX8_reads 103 = .ok (.invokevirtual 154, 3) := by decide +kernel
theorem dX8_reads_106 : decode cX8_reads 106 = .ok (.ifCond .ne (-15), 3) := by decide +kernel
theorem dX8_reads_109 : decode cX8_reads 109 = .ok (.iconst 0, 1) := by decide +kernel
theorem dX8_reads_110 : decode cX8_reads 110 = .ok (.ireturn, 1) := by decide +kernel
theorem dX8_reads_111 : decode cX8_reads 111 = .ok (.aload_n 0, 1) := by decide +kernel
theorem dX8_reads_112 : decode cX8_reads 112 = .ok (.getfield 102, 3) := by decide +kernel
theorem dX8_reads_115 : decode cX8_reads 115 = .ok (.ifCond .eq 11, 3) := by decide +kernel
theorem dX8_reads_118 : decode cX8_reads 118 = .ok (.aload_n 0, 1) := by decide +kernel
theorem dX8_reads_119 : decode cX8_reads 119 = .ok (.iconst 1, 1) := by decide +kernel
theorem dX8_reads_120 : decode cX8_reads 120 = .ok (.invokevirtual 113, 3) := by decide +kernel
theorem dX8_reads_123 : decode cX8_reads 123 = .ok (.ifCond .eq 7, 3) := by decide +kernel
theorem dX8_reads_126 : decode cX8_reads 126 = .ok (.iconst 1, 1) := by decide +kernel
theorem dX8_reads_127 : decode cX8_reads 127 = .ok (.goto 4, 3) := by decide +kernel
theorem dX8_reads_130 : decode cX8_reads 130 = .ok (.iconst 0, 1) := by decide +kernel
theorem dX8_reads_131 : decode cX8_reads 131 = .ok (.ireturn, 1) := by decide +kernel
theorem dX8_square_0 : decode cX8_square 0 = .ok (.aload_n 0, 1) := by decide +kernel
theorem dX8_square_1 : decode cX8_square 1 = .ok (.invokevirtual 157, 3) := by decide +kernel
theorem dX8_square_4 : decode cX8_square 4 = .ok (.istore_n 1, 1) := by decide +kernel
theorem dX8_square_5 : decode cX8_square 5 = .ok (.aload_n 0, 1) := by decide +kernel
theorem dX8_square_6 : decode cX8_square 6 = .ok (.iconst 0, 1) := by decide +kernel
theorem dX8_square_7 : decode cX8_square 7 = .ok (.putfield 76, 3) := by decide +kernel
theorem dX8_square_10 : decode cX8_square 10 = .ok (.iload_n 1, 1) := by decide +kernel
theorem dX8_square_11 : decode cX8_square 11 = .ok (.ifCond .ne 19, 3) := by decide +kernel
theorem dX8_square_14 : decode cX8_square 14 = .ok (.aload_n 0, 1) := by decide +kernel
theorem dX8_square_15 : decode cX8_square 15 = .ok (.aload_n 0, 1) := by decide +kernel
theorem dX8_square_16 : decode cX8_square 16 = .ok (.getfield 110, 3) := by decide +kernel
theorem dX8_square_19 : decode cX8_square 19 = .ok (.putfield 160, 3) := by decide +kernel
theorem dX8_square_22 : decode cX8_square 22 = .ok (.ldc 163, 2) := by decide +kernel
theorem dX8_square_24 : decode cX8_square 24 = .ok (.aload_n 0, 1) := by decide +kernel
theorem dX8_square_25 : decode cX8_square 25 = .ok (.getfield 96, 3) := by decide +kernel
theorem dX8_square_28 : decode cX8_square 28 = .ok (.isub, 1) := by decide +kernel
theorem dX8_square_29 : decode cX8_square 29 = .ok (.ireturn, 1) := by decide +kernel
theorem dX8_square_30 : decode cX8_square 30 = .ok (.iconst 0, 1) := by decide +kernel
theorem dX8_square_31 : decode cX8_square 31 = .ok (.istore_n 2, 1) := by decide +kernel
theorem dX8_square_32 : decode cX8_square 32 = .ok (.iload_n 2, 1) := by decide +kernel
theorem dX8_square_33 : decode cX8_square 33 = .ok (.bipush 39, 2) := by decide +kernel
theorem dX8_square_35 : decode cX8_square 35 = .ok (.if_icmp .ge 21, 3) := by decide +kernel
theorem dX8_square_38 : decode cX8_square 38 = .ok (.aload_n 0, 1) := by decide +kernel
theorem dX8_square_39 : decode cX8_square 39 = .ok (.getfield 22, 3) := by decide +kernel
theorem dX8_square_42 : decode cX8_square 42 = .ok (.iload_n 2, 1) := by decide +kernel
theorem dX8_square_43 : decode cX8_square 43 = .ok (.aload_n 0, 1) := by decide +kernel
theorem dX8_square_44 : decode cX8_square 44 = .ok (.getfield 25, 3) := by decide +kernel
theorem dX8_square_47 : decode cX8_square 47 = .ok (.iload_n 2, 1) := by decide +kernel
theorem dX8_square_48 : decode cX8_square 48 = .ok (.iaload, 1) := by decide +kernel
theorem dX8_square_49 : decode cX8_square 49 = .ok (.iastore, 1) := by decide +kernel
theorem dX8_square_50 : decode cX8_square 50 = .ok (.iinc 2 1, 3) := by decide +kernel
theorem dX8_square_53 : decode cX8_square 53 = .ok (.goto (-21), 3) := by decide +kernel
theorem dX8_square_56 : decode cX8_square 56 = .ok (.aload_n 0, 1) := by decide +kernel
theorem dX8_square_57 : decode cX8_square 57 = .ok (.getfield 22, 3) := by decide +kernel
theorem dX8_square_60 : decode cX8_square 60 = .ok (.iconst 0, 1) := by decide +kernel
theorem dX8_square_61 : decode cX8_square 61 = .ok (.iconst 1, 1) := by decide +kernel
theorem dX8_square_62 : decode cX8_square 62 = .ok (.iastore, 1) := by decide +kernel
theorem dX8_square_63 : decode cX8_square 63 = .ok (.aload_n 0, 1) := by decide +kernel
theorem dX8_square_64 : decode cX8_square 64 = .ok (.iconst 0, 1) := by decide +kernel
theorem dX8_square_65 : decode cX8_square 65 = .ok (.putfield 164, 3) := by decide +kernel
theorem dX8_square_68 : decode cX8_square 68 = .ok (.aload_n 0, 1) := by decide +kernel
theorem dX8_square_69 : decode cX8_square 69 = .ok (.getfield 22, 3) := by decide +kernel
theorem dX8_square_72 : decode cX8_square 72 = .ok (.iconst 3, 1) := by decide +kernel
theorem dX8_square_73 : decode cX8_square 73 = .ok (.iaload, 1) := by decide +kernel
theorem dX8_square_74 : decode cX8_square 74 = .ok (.ireturn, 1) := by decide +kernel
theorem dX8_fault_0 : decode cX8_fault 0 = .ok (.aload_n 0, 1) := by decide +kernel
theorem dX8_fault_1 : decode cX8_fault 1 = .ok (.getfield 160, 3) := by decide +kernel
theorem dX8_fault_4 : decode cX8_fault 4 = .ok (.ireturn, 1) := by decide +kernel
theorem dX8_isChild_0 : decode cX8_isChild 0 = .ok (.iload_n 1, 1) := by decide +kernel
theorem dX8_isChild_1 : decode cX8_isChild 1 = .ok (.i2l, 1) := by decide +kernel
theorem dX8_isChild_2 : decode cX8_isChild 2 = .ok (.lconst 0, 1) := by decide +kernel
theorem dX8_isChild_3 : decode cX8_isChild 3 = .ok (.aload_n 0, 1) := by decide +kernel
theorem dX8_isChild_4 : decode cX8_isChild 4 = .ok (.getfield 22, 3) := by decide +kernel
theorem dX8_isChild_7 : decode cX8_isChild 7 = .ok (.iconst 3, 1) := by decide +kernel
theorem dX8_isChild_8 : decode cX8_isChild 8 = .ok (.iaload, 1) := by decide +kernel
theorem dX8_isChild_9 : decode cX8_isChild 9 = .ok (.iconst 1, 1) := by decide +kernel
theorem dX8_isChild_10 : decode cX8_isChild 10 = .ok (.isub, 1) := by decide +kernel
theorem dX8_isChild_11 : decode cX8_isChild 11 = .ok (.i2l, 1) := by decide +kernel
theorem dX8_isChild_12 : decode cX8_isChild 12 = .ok (.invokestatic 60, 3) := by decide +kernel
theorem dX8_isChild_15 : decode cX8_isChild 15 = .ok (.ireturn, 1) := by decide +kernel
theorem dX8_isCell_0 : decode cX8_isCell 0 = .ok (.iload_n 0, 1) := by decide +kernel
theorem dX8_isCell_1 : decode cX8_isCell 1 = .ok (.i2l, 1) := by decide +kernel
theorem dX8_isCell_2 : decode cX8_isCell 2 = .ok (.lconst 0, 1) := by decide +kernel
theorem dX8_isCell_3 : decode cX8_isCell 3 = .ok (.ldc2_w 167, 3) := by decide +kernel
theorem dX8_isCell_6 : decode cX8_isCell 6 = .ok (.invokestatic 60, 3) := by decide +kernel
theorem dX8_isCell_9 : decode cX8_isCell 9 = .ok (.ireturn, 1) := by decide +kernel
theorem dX8_isThrow_0 : decode cX8_isThrow 0 = .ok (.iload_n 0, 1) := by decide +kernel
theorem dX8_isThrow_1 : decode cX8_isThrow 1 = .ok (.invokestatic 169, 3) := by decide +kernel
theorem dX8_isThrow_4 : decode cX8_isThrow 4 = .ok (.ifCond .eq 19, 3) := by decide +kernel
theorem dX8_isThrow_7 : decode cX8_isThrow 7 = .ok (.iload_n 1, 1) := by decide +kernel
theorem dX8_isThrow_8 : decode cX8_isThrow 8 = .ok (.i2l, 1) := by decide +kernel
theorem dX8_isThrow_9 : decode cX8_isThrow 9 = .ok (.lconst 0, 1) := by decide +kernel
theorem dX8_isThrow_10 : decode cX8_isThrow 10 = .ok (.ldc2_w 64, 3) := by decide +kernel
theorem dX8_isThrow_13 : decode cX8_isThrow 13 = .ok (.invokestatic 60, 3) := by decide +kernel
theorem dX8_isThrow_16 : decode cX8_isThrow 16 = .ok (.ifCond .eq 7, 3) := by decide +kernel
theorem dX8_isThrow_19 : decode cX8_isThrow 19 = .ok (.iconst 1, 1) := by decide +kernel
theorem dX8_isThrow_20 : decode cX8_isThrow 20 = .ok (.goto 4, 3) := by decide +kernel
theorem dX8_isThrow_23 : decode cX8_isThrow 23 = .ok (.iconst 0, 1) := by decide +kernel
theorem dX8_isThrow_24 : decode cX8_isThrow 24 = .ok (.ireturn, 1) := by decide +kernel
theorem dX8_lays_0 : decode cX8_lays 0 = .ok (.aload_n 0, 1) := by decide +kernel
theorem dX8_lays_1 : decode cX8_lays 1 = .ok (.aload_n 0, 1) := by decide +kernel
theorem dX8_lays_2 : decode cX8_lays 2 = .ok (.getfield 22, 3) := by decide +kernel
theorem dX8_lays_5 : decode cX8_lays 5 = .ok (.iconst 1, 1) := by decide +kernel
theorem dX8_lays_6 : decode cX8_lays 6 = .ok (.iaload, 1) := by decide +kernel
theorem dX8_lays_7 : decode cX8_lays 7 = .ok (.putfield 172, 3) := by decide +kernel
theorem dX8_lays_10 : decode cX8_lays 10 = .ok (.iconst 0, 1) := by decide +kernel
theorem dX8_lays_11 : decode cX8_lays 11 = .ok (.istore_n 1, 1) := by decide +kernel
theorem dX8_lays_12 : decode cX8_lays 12 = .ok (.iload_n 1, 1) := by decide +kernel
theorem dX8_lays_13 : decode cX8_lays 13 = .ok (.iconst 5, 1) := by decide +kernel
theorem dX8_lays_14 : decode cX8_lays 14 = .ok (.if_icmp .ge 24, 3) := by decide +kernel
theorem dX8_lays_17 : decode cX8_lays 17 = .ok (.aload_n 0, 1) := by decide +kernel
theorem dX8_lays_18 : decode cX8_lays 18 = .ok (.getfield 41, 3) := by decide +kernel
theorem dX8_lays_21 : decode cX8_lays 21 = .ok (.iload_n 1, 1) := by decide +kernel
theorem dX8_lays_22 : decode cX8_lays 22 = .ok (.aload_n 0, 1) := by decide +kernel
theorem dX8_lays_23 : decode cX8_lays 23 = .ok (.getfield 22, 3) := by decide +kernel
theorem dX8_lays_26 : decode cX8_lays 26 = .ok (.bipush 15, 2) := by decide +kernel
theorem dX8_lays_28 : decode cX8_lays 28 = .ok (.iload_n 1, 1) := by decide +kernel
theorem dX8_lays_29 : decode cX8_lays 29 = .ok (.iadd, 1) := by decide +kernel
theorem dX8_lays_30 : decode cX8_lays 30 = .ok (.iaload, 1) := by decide +kernel
theorem dX8_lays_31 : decode cX8_lays 31 = .ok (.iastore, 1) := by decide +kernel
theorem dX8_lays_32 : decode cX8_lays 32 = .ok (.iinc 1 1, 3) := by decide +kernel
theorem dX8_lays_35 : decode cX8_lays 35 = .ok (.goto (-23), 3) := by decide +kernel
theorem dX8_lays_38 : decode cX8_lays 38 = .ok (.return_, 1) := by decide +kernel
theorem dX8_far_0 : decode cX8_far 0 = .ok (.iload_n 0, 1) := by decide +kernel
theorem dX8_far_1 : decode cX8_far 1 = .ok (.bipush 6, 2) := by decide +kernel
theorem dX8_far_3 : decode cX8_far 3 = .ok (.irem, 1) := by decide +kernel
theorem dX8_far_4 : decode cX8_far 4 = .ok (.iload_n 1, 1) := by decide +kernel
theorem dX8_far_5 : decode cX8_far 5 = .ok (.bipush 6, 2) := by decide +kernel
theorem dX8_far_7 : decode cX8_far 7 = .ok (.irem, 1) := by decide +kernel
theorem dX8_far_8 : decode cX8_far 8 = .ok (.isub, 1) := by decide +kernel
theorem dX8_far_9 : decode cX8_far 9 = .ok (.istore_n 2, 1) := by decide +kernel
theorem dX8_far_10 : decode cX8_far 10 = .ok (.iload_n 0, 1) := by decide +kernel
theorem dX8_far_11 : decode cX8_far 11 = .ok (.bipush 6, 2) := by decide +kernel
theorem dX8_far_13 : decode cX8_far 13 = .ok (.idiv, 1) := by decide +kernel
theorem dX8_far_14 : decode cX8_far 14 = .ok (.iload_n 1, 1) := by decide +kernel
theorem dX8_far_15 : decode cX8_far 15 = .ok (.bipush 6, 2) := by decide +kernel
theorem dX8_far_17 : decode cX8_far 17 = .ok (.idiv, 1) := by decide +kernel
theorem dX8_far_18 : decode cX8_far 18 = .ok (.isub, 1) := by decide +kernel
theorem dX8_far_19 : decode cX8_far 19 = .ok (.istore_n 3, 1) := by decide +kernel
theorem dX8_far_20 : decode cX8_far 20 = .ok (.iload_n 2, 1) := by decide +kernel
theorem dX8_far_21 : decode cX8_far 21 = .ok (.ifCond .ge 8, 3) := by decide +kernel
theorem dX8_far_24 : decode cX8_far 24 = .ok (.iload_n 2, 1) := by decide +kernel
theorem dX8_far_25 : decode cX8_far 25 = .ok (.ineg, 1) := by decide +kernel
theorem dX8_far_26 : decode cX8_far 26 = .ok (.goto 4, 3) := by decide +kernel
theorem dX8_far_29 : decode cX8_far 29 = .ok (.iload_n 2, 1) := by decide +kernel
theorem dX8_far_30 : decode cX8_far 30 = .ok (.iload_n 3, 1) := by decide +kernel
theorem dX8_far_31 : decode cX8_far 31 = .ok (.ifCond .ge 8, 3) := by decide +kernel
theorem dX8_far_34 : decode cX8_far 34 = .ok (.iload_n 3, 1) := by decide +kernel
theorem dX8_far_35 : decode cX8_far 35 = .ok (.ineg, 1) := by decide +kernel
theorem dX8_far_36 : decode cX8_far 36 = .ok (.goto 4, 3) := by decide +kernel
theorem dX8_far_39 : decode cX8_far 39 = .ok (.iload_n 3, 1) := by decide +kernel
theorem dX8_far_40 : decode cX8_far 40 = .ok (.iadd, 1) := by decide +kernel
theorem dX8_far_41 : decode cX8_far 41 = .ok (.ireturn, 1) := by decide +kernel
theorem dX8_powerOf_0 : decode cX8_powerOf 0 = .ok (.aload_n 0, 1) := by decide +kernel
theorem dX8_powerOf_1 : decode cX8_powerOf 1 = .ok (.getfield 41, 3) := by decide +kernel
theorem dX8_powerOf_4 : decode cX8_powerOf 4 = .ok (.iload_n 1, 1) := by decide +kernel
theorem dX8_powerOf_5 : decode cX8_powerOf 5 = .ok (.iaload, 1) := by decide +kernel
theorem dX8_powerOf_6 : decode cX8_powerOf 6 = .ok (.iload_n 2, 1) := by decide +kernel
theorem dX8_powerOf_7 : decode cX8_powerOf 7 = .ok (.invokestatic 175, 3) := by decide +kernel
theorem dX8_powerOf_10 : decode cX8_powerOf 10 = .ok (.istore_n 3, 1) := by decide +kernel
theorem dX8_powerOf_11 : decode cX8_powerOf 11 = .ok (.aload_n 0, 1) := by decide +kernel
theorem dX8_powerOf_12 : decode cX8_powerOf 12 = .ok (.getfield 22, 3) := by decide +kernel
theorem dX8_powerOf_15 : decode cX8_powerOf 15 = .ok (.iconst 5, 1) := by decide +kernel
theorem dX8_powerOf_16 : decode cX8_powerOf 16 = .ok (.iload_n 1, 1) := by decide +kernel
theorem dX8_powerOf_17 : decode cX8_powerOf 17 = .ok (.iadd, 1) := by decide +kernel
theorem dX8_powerOf_18 : decode cX8_powerOf 18 = .ok (.iaload, 1) := by decide +kernel
theorem dX8_powerOf_19 : decode cX8_powerOf 19 = .ok (.istore 4, 2) := by decide +kernel
theorem dX8_powerOf_21 : decode cX8_powerOf 21 = .ok (.aload_n 0, 1) := by decide +kernel
theorem dX8_powerOf_22 : decode cX8_powerOf 22 = .ok (.getfield 22, 3) := by decide +kernel
theorem dX8_powerOf_25 : decode cX8_powerOf 25 = .ok (.bipush 10, 2) := by decide +kernel
theorem dX8_powerOf_27 : decode cX8_powerOf 27 = .ok (.iload_n 1, 1) := by decide +kernel
theorem dX8_powerOf_28 : decode cX8_powerOf 28 = .ok (.iadd, 1) := by decide +kernel
theorem dX8_powerOf_29 : decode cX8_powerOf 29 = .ok (.iaload, 1) := by decide +kernel
theorem dX8_powerOf_30 : decode cX8_powerOf 30 = .ok (.istore 5, 2) := by decide +kernel
theorem dX8_powerOf_32 : decode cX8_powerOf 32 = .ok (.iload 4, 2) := by decide +kernel
theorem dX8_powerOf_34 : decode cX8_powerOf 34 = .ok (.iconst 5, 1) := by decide +kernel
theorem dX8_powerOf_35 : decode cX8_powerOf 35 = .ok (.if_icmp .ne 12, 3) := by decide +kernel
theorem dX8_powerOf_38 : decode cX8_powerOf 38 = .ok (.iload 5, 2) := by decide +kernel
theorem dX8_powerOf_40 : decode cX8_powerOf 40 = .ok (.iconst 3, 1) := by decide +kernel
theorem dX8_powerOf_41 : decode cX8_powerOf 41 = .ok (.iload_n 3, 1) := by decide +kernel
theorem dX8_powerOf_42 : decode cX8_powerOf 42 = .ok (.isub, 1) := by decide +kernel
theorem dX8_powerOf_43 : decode cX8_powerOf 43 = .ok (.imul, 1) := by decide +kernel
theorem dX8_powerOf_44 : decode cX8_powerOf 44 = .ok (.goto 51, 3) := by decide +kernel
theorem dX8_powerOf_47 : decode cX8_powerOf 47 = .ok (.iload 4, 2) := by decide +kernel
theorem dX8_powerOf_49 : decode cX8_powerOf 49 = .ok (.iconst 4, 1) := by decide +kernel
theorem dX8_powerOf_50 : decode cX8_powerOf 50 = .ok (.if_icmp .ne 12, 3) := by decide +kernel
theorem dX8_powerOf_53 : decode cX8_powerOf 53 = .ok (.iload 5, 2) := by decide +kernel
theorem dX8_powerOf_55 : decode cX8_powerOf 55 = .ok (.iconst 2, 1) := by decide +kernel
theorem dX8_powerOf_56 : decode cX8_powerOf 56 = .ok (.iload_n 3, 1) := by decide +kernel
theorem dX8_powerOf_57 : decode cX8_powerOf 57 = .ok (.isub, 1) := by decide +kernel
theorem dX8_powerOf_58 : decode cX8_powerOf 58 = .ok (.imul, 1) := by decide +kernel
theorem dX8_powerOf_59 : decode cX8_powerOf 59 = .ok (.goto 36, 3) := by decide +kernel
theorem dX8_powerOf_62 : decode cX8_powerOf 62 = .ok (.iload 4, 2) := by decide +kernel
theorem dX8_powerOf_64 : decode cX8_powerOf 64 = .ok (.iconst 2, 1) := by decide +kernel
theorem dX8_powerOf_65 : decode cX8_powerOf 65 = .ok (.if_icmp .ne 19, 3) := by decide +kernel
theorem dX8_powerOf_68 : decode cX8_powerOf 68 = .ok (.iconst 2, 1) := by decide +kernel
theorem dX8_powerOf_69 : decode cX8_powerOf 69 = .ok (.iload 5, 2) := by decide +kernel
theorem dX8_powerOf_71 : decode cX8_powerOf 71 = .ok (.imul, 1) := by decide +kernel
theorem dX8_powerOf_72 : decode cX8_powerOf 72 = .ok (.iconst 2, 1) := by decide +kernel
theorem dX8_powerOf_73 : decode cX8_powerOf 73 = .ok (.iload_n 3, 1) := by decide +kernel
theorem dX8_powerOf_74 : decode cX8_powerOf 74 = .ok (.isub, 1) := by decide +kernel
theorem dX8_powerOf_75 : decode cX8_powerOf 75 = .ok (.imul, 1) := by decide +kernel
theorem dX8_powerOf_76 : decode cX8_powerOf 76 = .ok (.aload_n 0, 1) := by decide +kernel
theorem dX8_powerOf_77 : decode cX8_powerOf 77 = .ok (.getfield 172, 3) := by decide +kernel
theorem dX8_powerOf_80 : decode cX8_powerOf 80 = .ok (.isub, 1) := by decide +kernel
theorem dX8_powerOf_81 : decode cX8_powerOf 81 = .ok (.goto 14, 3) := by decide +kernel
theorem dX8_powerOf_84 : decode cX8_powerOf 84 = .ok (.iload 5, 2) := by decide +kernel
theorem dX8_powerOf_86 : decode cX8_powerOf 86 = .ok (.iconst 2, 1) := by decide +kernel
theorem dX8_powerOf_87 : decode cX8_powerOf 87 = .ok (.iload_n 3, 1) := by decide +kernel
theorem dX8_powerOf_88 : decode cX8_powerOf 88 = .ok (.isub, 1) := by decide +kernel
theorem dX8_powerOf_89 : decode cX8_powerOf 89 = .ok (.imul, 1) := by decide +kernel
theorem dX8_powerOf_90 : decode cX8_powerOf 90 = .ok (.aload_n 0, 1) := by decide +kernel
theorem dX8_powerOf_91 : decode cX8_powerOf 91 = .ok (.getfield 172, 3) := by decide +kernel
theorem dX8_powerOf_94 : decode cX8_powerOf 94 = .ok (.isub, 1) := by decide +kernel
theorem dX8_powerOf_95 : decode cX8_powerOf 95 = .ok (.istore 6, 2) := by decide +kernel
theorem dX8_powerOf_97 : decode cX8_powerOf 97 = .ok (.iload 4, 2) := by decide +kernel
theorem dX8_powerOf_99 : decode cX8_powerOf 99 = .ok (.iconst 3, 1) := by decide +kernel
theorem dX8_powerOf_100 : decode cX8_powerOf 100 = .ok (.if_icmp .ne 7, 3) := by decide +kernel
theorem dX8_powerOf_103 : decode cX8_powerOf 103 = .ok (.iload_n 3, 1) := by decide +kernel
theorem dX8_powerOf_104 : decode cX8_powerOf 104 = .ok (.ifCond .gt 8, 3) := by decide +kernel
theorem dX8_powerOf_107 : decode cX8_powerOf 107 = .ok (.iload 6, 2) := by decide +kernel
theorem dX8_powerOf_109 : decode cX8_powerOf 109 = .ok (.ifCond .ge 7, 3) := by decide +kernel
theorem dX8_powerOf_112 : decode cX8_powerOf 112 = .ok (.iconst 0, 1) := by decide +kernel
theorem dX8_powerOf_113 : decode cX8_powerOf 113 = .ok (.goto 5, 3) := by decide +kernel
theorem dX8_powerOf_116 : decode cX8_powerOf 116 = .ok (.iload 6, 2) := by decide +kernel
theorem dX8_powerOf_118 : decode cX8_powerOf 118 = .ok (.ireturn, 1) := by decide +kernel
theorem dX8_pickerOf_0 : decode cX8_pickerOf 0 = .ok (.ldc 179, 2) := by decide +kernel
theorem dX8_pickerOf_2 : decode cX8_pickerOf 2 = .ok (.istore_n 2, 1) := by decide +kernel
theorem dX8_pickerOf_3 : decode cX8_pickerOf 3 = .ok (.iconst 0, 1) := by decide +kernel
theorem dX8_pickerOf_4 : decode cX8_pickerOf 4 = .ok (.istore_n 3, 1) := by decide +kernel
theorem dX8_pickerOf_5 : decode cX8_pickerOf 5 = .ok (.iconst 0, 1) := by decide +kernel
theorem dX8_pickerOf_6 : decode cX8_pickerOf 6 = .ok (.istore 4, 2) := by decide +kernel
theorem dX8_pickerOf_8 : decode cX8_pickerOf 8 = .ok (.iload 4, 2) := by decide +kernel
theorem dX8_pickerOf_10 : decode cX8_pickerOf 10 = .ok (.aload_n 0, 1) := by decide +kernel
theorem dX8_pickerOf_11 : decode cX8_pickerOf 11 = .ok (.getfield 22, 3) := by decide +kernel
theorem dX8_pickerOf_14 : decode cX8_pickerOf 14 = .ok (.iconst 3, 1) := by decide +kernel
theorem dX8_pickerOf_15 : decode cX8_pickerOf 15 = .ok (.iaload, 1) := by decide +kernel
theorem dX8_pickerOf_16 : decode cX8_pickerOf 16 = .ok (.if_icmp .ge 57, 3) := by decide +kernel
theorem dX8_pickerOf_19 : decode cX8_pickerOf 19 = .ok (.aload_n 0, 1) := by decide +kernel
theorem dX8_pickerOf_20 : decode cX8_pickerOf 20 = .ok (.getfield 22, 3) := by decide +kernel
theorem dX8_pickerOf_23 : decode cX8_pickerOf 23 = .ok (.iconst 4, 1) := by decide +kernel
theorem dX8_pickerOf_24 : decode cX8_pickerOf 24 = .ok (.iaload, 1) := by decide +kernel
theorem dX8_pickerOf_25 : decode cX8_pickerOf 25 = .ok (.iload_n 1, 1) := by decide +kernel
theorem dX8_pickerOf_26 : decode cX8_pickerOf 26 = .ok (.ishr, 1) := by decide +kernel
theorem dX8_pickerOf_27 : decode cX8_pickerOf 27 = .ok (.iconst 1, 1) := by decide +kernel
theorem dX8_pickerOf_28 : decode cX8_pickerOf 28 = .ok (.iand, 1) := by decide +kernel
theorem dX8_pickerOf_29 : decode cX8_pickerOf 29 = .ok (.ifCond .ne 44, 3) := by decide +kernel
theorem dX8_pickerOf_32 : decode cX8_pickerOf 32 = .ok (.aload_n 0, 1) := by decide +kernel
theorem dX8_pickerOf_33 : decode cX8_pickerOf 33 = .ok (.iload 4, 2) := by decide +kernel
theorem dX8_pickerOf_35 : decode cX8_pickerOf 35 = .ok (.iload_n 1, 1) := by decide +kernel
theorem dX8_pickerOf_36 : decode cX8_pickerOf 36 = .ok (.invokevirtual 180, 3) := by decide +kernel
theorem dX8_pickerOf_39 : decode cX8_pickerOf 39 = .ok (.istore 5, 2) := by decide +kernel
theorem dX8_pickerOf_41 : decode cX8_pickerOf 41 = .ok (.iload 5, 2) := by decide +kernel
theorem dX8_pickerOf_43 : decode cX8_pickerOf 43 = .ok (.iload_n 3, 1) := by decide +kernel
theorem dX8_pickerOf_44 : decode cX8_pickerOf 44 = .ok (.if_icmp .le 8, 3) := by decide +kernel
theorem dX8_pickerOf_47 : decode cX8_pickerOf 47 = .ok (.iload 4, 2) := by decide +kernel
theorem dX8_pickerOf_49 : decode cX8_pickerOf 49 = .ok (.goto 4, 3) := by decide +kernel
theorem dX8_pickerOf_52 : decode cX8_pickerOf 52 = .ok (.iload_n 2, 1) := by decide +kernel
theorem dX8_pickerOf_53 : decode cX8_pickerOf 53 = .ok (.istore_n 2, 1) := by decide +kernel
theorem dX8_pickerOf_54 : decode cX8_pickerOf 54 = .ok (.iload 5, 2) := by decide +kernel
theorem dX8_pickerOf_56 : decode cX8_pickerOf 56 = .ok (.iload_n 3, 1) := by decide +kernel
theorem dX8_pickerOf_57 : decode cX8_pickerOf 57 = .ok (.if_icmp .le 8, 3) := by decide +kernel
theorem dX8_pickerOf_60 : decode cX8_pickerOf 60 = .ok (.iload 5, 2) := by decide +kernel
theorem dX8_pickerOf_62 : decode cX8_pickerOf 62 = .ok (.goto 4, 3) := by decide +kernel
theorem dX8_pickerOf_65 : decode cX8_pickerOf 65 = .ok (.iload_n 3, 1) := by decide +kernel
theorem dX8_pickerOf_66 : decode cX8_pickerOf 66 = .ok (.istore_n 3, 1) := by decide +kernel
theorem dX8_pickerOf_67 : decode cX8_pickerOf 67 = .ok (.iinc 4 1, 3) := by decide +kernel
theorem dX8_pickerOf_70 : decode cX8_pickerOf 70 = .ok (.goto (-62), 3) := by decide +kernel
theorem dX8_pickerOf_73 : decode cX8_pickerOf 73 = .ok (.iload_n 2, 1) := by decide +kernel
theorem dX8_pickerOf_74 : decode cX8_pickerOf 74 = .ok (.ireturn, 1) := by decide +kernel
theorem dX8_laysPicks_0 : decode cX8_laysPicks 0 = .ok (.iconst 0, 1) := by decide +kernel
theorem dX8_laysPicks_1 : decode cX8_laysPicks 1 = .ok (.istore_n 1, 1) := by decide +kernel
theorem dX8_laysPicks_2 : decode cX8_laysPicks 2 = .ok (.iload_n 1, 1) := by decide +kernel
theorem dX8_laysPicks_3 : decode cX8_laysPicks 3 = .ok (.bipush 30, 2) := by decide +kernel
theorem dX8_laysPicks_5 : decode cX8_laysPicks 5 = .ok (.if_icmp .ge 20, 3) := by decide +kernel
theorem dX8_laysPicks_8 : decode cX8_laysPicks 8 = .ok (.aload_n 0, 1) := by decide +kernel
theorem dX8_laysPicks_9 : decode cX8_laysPicks 9 = .ok (.getfield 44, 3) := by decide +kernel
theorem dX8_laysPicks_12 : decode cX8_laysPicks 12 = .ok (.iload_n 1, 1) := by decide +kernel
theorem dX8_laysPicks_13 : decode cX8_laysPicks 13 = .ok (.aload_n 0, 1) := by decide +kernel
theorem dX8_laysPicks_14 : decode cX8_laysPicks 14 = .ok (.iload_n 1, 1) := by decide +kernel
theorem dX8_laysPicks_15 : decode cX8_laysPicks 15 = .ok (.invokevirtual 183, 3) := by decide +kernel
theorem dX8_laysPicks_18 : decode cX8_laysPicks 18 = .ok (.iastore, 1) := by decide +kernel
theorem dX8_laysPicks_19 : decode cX8_laysPicks 19 = .ok (.iinc 1 1, 3) := by decide +kernel
theorem dX8_laysPicks_22 : decode cX8_laysPicks 22 = .ok (.goto (-20), 3) := by decide +kernel
theorem dX8_laysPicks_25 : decode cX8_laysPicks 25 = .ok (.return_, 1) := by decide +kernel
theorem dX8_laysWays_0 : decode cX8_laysWays 0 = .ok (.aload_n 0, 1) := by decide +kernel
theorem dX8_laysWays_1 : decode cX8_laysWays 1 = .ok (.iconst 0, 1) := by decide +kernel
theorem dX8_laysWays_2 : decode cX8_laysWays 2 = .ok (.putfield 186, 3) := by decide +kernel
theorem dX8_laysWays_5 : decode cX8_laysWays 5 = .ok (.iload_n 1, 1) := by decide +kernel
theorem dX8_laysWays_6 : decode cX8_laysWays 6 = .ok (.bipush 6, 2) := by decide +kernel
theorem dX8_laysWays_8 : decode cX8_laysWays 8 = .ok (.irem, 1) := by decide +kernel
theorem dX8_laysWays_9 : decode cX8_laysWays 9 = .ok (.istore_n 3, 1) := by decide +kernel
theorem dX8_laysWays_10 : decode cX8_laysWays 10 = .ok (.iload_n 1, 1) := by decide +kernel
theorem dX8_laysWays_11 : decode cX8_laysWays 11 = .ok (.bipush 6, 2) := by decide +kernel
theorem dX8_laysWays_13 : decode cX8_laysWays 13 = .ok (.idiv, 1) := by decide +kernel
theorem dX8_laysWays_14 : decode cX8_laysWays 14 = .ok (.istore 4, 2) := by decide +kernel
theorem dX8_laysWays_16 : decode cX8_laysWays 16 = .ok (.iload 4, 2) := by decide +kernel
theorem dX8_laysWays_18 : decode cX8_laysWays 18 = .ok (.iload_n 2, 1) := by decide +kernel
theorem dX8_laysWays_19 : decode cX8_laysWays 19 = .ok (.isub, 1) := by decide +kernel
theorem dX8_laysWays_20 : decode cX8_laysWays 20 = .ok (.istore 5, 2) := by decide +kernel
theorem dX8_laysWays_22 : decode cX8_laysWays 22 = .ok (.iload 5, 2) := by decide +kernel
theorem dX8_laysWays_24 : decode cX8_laysWays 24 = .ok (.iload 4, 2) := by decide +kernel
theorem dX8_laysWays_26 : decode cX8_laysWays 26 = .ok (.iload_n 2, 1) := by decide +kernel
theorem dX8_laysWays_27 : decode cX8_laysWays 27 = .ok (.iadd, 1) := by decide +kernel
theorem dX8_laysWays_28 : decode cX8_laysWays 28 = .ok (.if_icmp .gt 142, 3) := by decide +kernel
theorem dX8_laysWays_31 : decode cX8_laysWays 31 = .ok (.iload_n 3, 1) := by decide +kernel
theorem dX8_laysWays_32 : decode cX8_laysWays 32 = .ok (.iload_n 2, 1) := by decide +kernel
theorem dX8_laysWays_33 : decode cX8_laysWays 33 = .ok (.isub, 1) := by decide +kernel
theorem dX8_laysWays_34 : decode cX8_laysWays 34 = .ok (.istore 6, 2) := by decide +kernel
theorem dX8_laysWays_36 : decode cX8_laysWays 36 = .ok (.iload 6, 2) := by decide +kernel
theorem dX8_laysWays_38 : decode cX8_laysWays 38 = .ok (.iload_n 3, 1) := by decide +kernel
theorem dX8_laysWays_39 : decode cX8_laysWays 39 = .ok (.iload_n 2, 1) := by decide +kernel
theorem dX8_laysWays_40 : decode cX8_laysWays 40 = .ok (.iadd, 1) := by decide +kernel
theorem dX8_laysWays_41 : decode cX8_laysWays 41 = .ok (.if_icmp .gt 123, 3) := by decide +kernel
theorem dX8_laysWays_44 : decode cX8_laysWays 44 = .ok (.iload 6, 2) := by decide +kernel
theorem dX8_laysWays_46 : decode cX8_laysWays 46 = .ok (.iload_n 3, 1) := by decide +kernel
theorem dX8_laysWays_47 : decode cX8_laysWays 47 = .ok (.if_icmp .ge 10, 3) := by decide +kernel
theorem dX8_laysWays_50 : decode cX8_laysWays 50 = .ok (.iload_n 3, 1) := by decide +kernel
theorem dX8_laysWays_51 : decode cX8_laysWays 51 = .ok (.iload 6, 2) := by decide +kernel
theorem dX8_laysWays_53 : decode cX8_laysWays 53 = .ok (.isub, 1) := by decide +kernel
theorem dX8_laysWays_54 : decode cX8_laysWays 54 = .ok (.goto 7, 3) := by decide +kernel
theorem dX8_laysWays_57 : decode cX8_laysWays 57 = .ok (.iload 6, 2) := by decide +kernel
theorem dX8_laysWays_59 : decode cX8_laysWays 59 = .ok (.iload_n 3, 1) := by decide +kernel
theorem dX8_laysWays_60 : decode cX8_laysWays 60 = .ok (.isub, 1) := by decide +kernel
theorem dX8_laysWays_61 : decode cX8_laysWays 61 = .ok (.iload 5, 2) := by decide +kernel
theorem dX8_laysWays_63 : decode cX8_laysWays 63 = .ok (.iload 4, 2) := by decide +kernel
theorem dX8_laysWays_65 : decode cX8_laysWays 65 = .ok (.if_icmp .ge 11, 3) := by decide +kernel
theorem dX8_laysWays_68 : decode cX8_laysWays 68 = .ok (.iload 4, 2) := by decide +kernel
theorem dX8_laysWays_70 : decode cX8_laysWays 70 = .ok (.iload 5, 2) := by decide +kernel
theorem dX8_laysWays_72 : decode cX8_laysWays 72 = .ok (.isub, 1) := by decide +kernel
theorem dX8_laysWays_73 : decode cX8_laysWays 73 = .ok (.goto 8, 3) := by decide +kernel
theorem dX8_laysWays_76 : decode cX8_laysWays 76 = .ok (.iload 5, 2) := by decide +kernel
theorem dX8_laysWays_78 : decode cX8_laysWays 78 = .ok (.iload 4, 2) := by decide +kernel
theorem dX8_laysWays_80 : decode cX8_laysWays 80 = .ok (.isub, 1) := by decide +kernel
theorem dX8_laysWays_81 : decode cX8_laysWays 81 = .ok (.iadd, 1) := by decide +kernel
theorem dX8_laysWays_82 : decode cX8_laysWays 82 = .ok (.istore 7, 2) := by decide +kernel
theorem dX8_laysWays_84 : decode cX8_laysWays 84 = .ok (.iload 7, 2) := by decide +kernel
theorem dX8_laysWays_86 : decode cX8_laysWays 86 = .ok (.istore 8, 2) := by decide +kernel
theorem dX8_laysWays_88 : decode cX8_laysWays 88 = .ok (.iload 8, 2) := by decide +kernel
theorem dX8_laysWays_90 : decode cX8_laysWays 90 = .ok (.iload_n 2, 1) := by decide +kernel
theorem dX8_laysWays_91 : decode cX8_laysWays 91 = .ok (.if_icmp .gt 67, 3) := by decide +kernel
theorem dX8_laysWays_94 : decode cX8_laysWays 94 = .ok (.aload_n 0, 1) := by decide +kernel
theorem dX8_laysWays_95 : decode cX8_laysWays 95 = .ok (.getfield 47, 3) := by decide +kernel
theorem dX8_laysWays_98 : decode cX8_laysWays 98 = .ok (.aload_n 0, 1) := by decide +kernel
theorem dX8_laysWays_99 : decode cX8_laysWays 99 = .ok (.getfield 186, 3) := by decide +kernel
theorem dX8_laysWays_102 : decode cX8_laysWays 102 = .ok (.iload 6, 2) := by decide +kernel
theorem dX8_laysWays_104 : decode cX8_laysWays 104 = .ok (.i2l, 1) := by decide +kernel
theorem dX8_laysWays_105 : decode cX8_laysWays 105 = .ok (.lconst 0, 1) := by decide +kernel
theorem dX8_laysWays_106 : decode cX8_laysWays 106 = .ok (.ldc2_w 189, 3) := by decide +kernel
theorem dX8_laysWays_109 : decode cX8_laysWays 109 = .ok (.invokestatic 60, 3) := by decide +kernel
theorem dX8_laysWays_112 : decode cX8_laysWays 112 = .ok (.ifCond .eq 27, 3) := by decide +kernel
theorem dX8_laysWays_115 : decode cX8_laysWays 115 = .ok (.iload 5, 2) := by decide +kernel
theorem dX8_laysWays_117 : decode cX8_laysWays 117 = .ok (.i2l, 1) := by decide +kernel
theorem dX8_laysWays_118 : decode cX8_laysWays 118 = .ok (.lconst 0, 1) := by decide +kernel
theorem dX8_laysWays_119 : decode cX8_laysWays 119 = .ok (.ldc2_w 191, 3) := by decide +kernel
theorem dX8_laysWays_122 : decode cX8_laysWays 122 = .ok (.invokestatic 60, 3) := by decide +kernel
theorem dX8_laysWays_125 : decode cX8_laysWays 125 = .ok (.ifCond .eq 14, 3) := by decide +kernel
theorem dX8_laysWays_128 : decode cX8_laysWays 128 = .ok (.bipush 6, 2) := by decide +kernel
theorem dX8_laysWays_130 : decode cX8_laysWays 130 = .ok (.iload 5, 2) := by decide +kernel
theorem dX8_laysWays_132 : decode cX8_laysWays 132 = .ok (.imul, 1) := by decide +kernel
theorem dX8_laysWays_133 : decode cX8_laysWays 133 = .ok (.iload 6, 2) := by decide +kernel
theorem dX8_laysWays_135 : decode cX8_laysWays 135 = .ok (.iadd, 1) := by decide +kernel
theorem dX8_laysWays_136 : decode cX8_laysWays 136 = .ok (.goto 5, 3) := by decide +kernel
theorem dX8_laysWays_139 : decode cX8_laysWays 139 = .ok (.ldc 179, 2) := by decide +kernel
theorem dX8_laysWays_141 : decode cX8_laysWays 141 = .ok (.iastore, 1) := by decide +kernel
theorem dX8_laysWays_142 : decode cX8_laysWays 142 = .ok (.aload_n 0, 1) := by decide +kernel
theorem dX8_laysWays_143 : decode cX8_laysWays 143 = .ok (.dup, 1) := by decide +kernel
theorem dX8_laysWays_144 : decode cX8_laysWays 144 = .ok (.getfield 186, 3) := by decide +kernel
theorem dX8_laysWays_147 : decode cX8_laysWays 147 = .ok (.iconst 1, 1) := by decide +kernel
theorem dX8_laysWays_148 : decode cX8_laysWays 148 = .ok (.iadd, 1) := by decide +kernel
theorem dX8_laysWays_149 : decode cX8_laysWays 149 = .ok (.putfield 186, 3) := by decide +kernel
theorem dX8_laysWays_152 : decode cX8_laysWays 152 = .ok (.iinc 8 1, 3) := by decide +kernel
theorem dX8_laysWays_155 : decode cX8_laysWays 155 = .ok (.goto (-67), 3) := by decide +kernel
theorem dX8_laysWays_158 : decode cX8_laysWays 158 = .ok (.iinc 6 1, 3) := by decide +kernel
theorem dX8_laysWays_161 : decode cX8_laysWays 161 = .ok (.goto (-125), 3) := by decide +kernel
theorem dX8_laysWays_164 : decode cX8_laysWays 164 = .ok (.iinc 5 1, 3) := by decide +kernel
theorem dX8_laysWays_167 : decode cX8_laysWays 167 = .ok (.goto (-145), 3) := by decide +kernel
theorem dX8_laysWays_170 : decode cX8_laysWays 170 = .ok (.return_, 1) := by decide +kernel
theorem dX8_waysOf_0 : decode cX8_waysOf 0 = .ok (.iconst 0, 1) := by decide +kernel
theorem dX8_waysOf_1 : decode cX8_waysOf 1 = .ok (.istore_n 2, 1) := by decide +kernel
theorem dX8_waysOf_2 : decode cX8_waysOf 2 = .ok (.iconst 0, 1) := by decide +kernel
theorem dX8_waysOf_3 : decode cX8_waysOf 3 = .ok (.istore_n 3, 1) := by decide +kernel
theorem dX8_waysOf_4 : decode cX8_waysOf 4 = .ok (.iload_n 3, 1) := by decide +kernel
theorem dX8_waysOf_5 : decode cX8_waysOf 5 = .ok (.aload_n 0, 1) := by decide +kernel
theorem dX8_waysOf_6 : decode cX8_waysOf 6 = .ok (.getfield 186, 3) := by decide +kernel
theorem dX8_waysOf_9 : decode cX8_waysOf 9 = .ok (.if_icmp .ge 42, 3) := by decide +kernel
theorem dX8_waysOf_12 : decode cX8_waysOf 12 = .ok (.iload_n 2, 1) := by decide +kernel
theorem dX8_waysOf_13 : decode cX8_waysOf 13 = .ok (.aload_n 0, 1) := by decide +kernel
theorem dX8_waysOf_14 : decode cX8_waysOf 14 = .ok (.getfield 47, 3) := by decide +kernel
theorem dX8_waysOf_17 : decode cX8_waysOf 17 = .ok (.iload_n 3, 1) := by decide +kernel
theorem dX8_waysOf_18 : decode cX8_waysOf 18 = .ok (.iaload, 1) := by decide +kernel
theorem dX8_waysOf_19 : decode cX8_waysOf 19 = .ok (.ldc 179, 2) := by decide +kernel
theorem dX8_waysOf_21 : decode cX8_waysOf 21 = .ok (.if_icmp .eq 21, 3) := by decide +kernel
theorem dX8_waysOf_24 : decode cX8_waysOf 24 = .ok (.aload_n 0, 1) := by decide +kernel
theorem dX8_waysOf_25 : decode cX8_waysOf 25 = .ok (.aload_n 0, 1) := by decide +kernel
theorem dX8_waysOf_26 : decode cX8_waysOf 26 = .ok (.getfield 47, 3) := by decide +kernel
theorem dX8_waysOf_29 : decode cX8_waysOf 29 = .ok (.iload_n 3, 1) := by decide +kernel
theorem dX8_waysOf_30 : decode cX8_waysOf 30 = .ok (.iaload, 1) := by decide +kernel
theorem dX8_waysOf_31 : decode cX8_waysOf 31 = .ok (.invokevirtual 183, 3) := by decide +kernel
theorem dX8_waysOf_34 : decode cX8_waysOf 34 = .ok (.iload_n 1, 1) := by decide +kernel
theorem dX8_waysOf_35 : decode cX8_waysOf 35 = .ok (.if_icmp .ne 7, 3) := by decide +kernel
theorem dX8_waysOf_38 : decode cX8_waysOf 38 = .ok (.iconst 1, 1) := by decide +kernel
theorem dX8_waysOf_39 : decode cX8_waysOf 39 = .ok (.goto 4, 3) := by decide +kernel
theorem dX8_waysOf_42 : decode cX8_waysOf 42 = .ok (.iconst 0, 1) := by decide +kernel
theorem dX8_waysOf_43 : decode cX8_waysOf 43 = .ok (.iadd, 1) := by decide +kernel
theorem dX8_waysOf_44 : decode cX8_waysOf 44 = .ok (.istore_n 2, 1) := by decide +kernel
theorem dX8_waysOf_45 : decode cX8_waysOf 45 = .ok (.iinc 3 1, 3) := by decide +kernel
theorem dX8_waysOf_48 : decode cX8_waysOf 48 = .ok (.goto (-44), 3) := by decide +kernel
theorem dX8_waysOf_51 : decode cX8_waysOf 51 = .ok (.iload_n 2, 1) := by decide +kernel
theorem dX8_waysOf_52 : decode cX8_waysOf 52 = .ok (.ireturn, 1) := by decide +kernel
theorem dX8_keeps_0 : decode cX8_keeps 0 = .ok (.aload_n 0, 1) := by decide +kernel
theorem dX8_keeps_1 : decode cX8_keeps 1 = .ok (.getfield 164, 3) := by decide +kernel
theorem dX8_keeps_4 : decode cX8_keeps 4 = .ok (.bipush 24, 2) := by decide +kernel
theorem dX8_keeps_6 : decode cX8_keeps 6 = .ok (.if_icmp .ne 43, 3) := by decide +kernel
theorem dX8_keeps_9 : decode cX8_keeps 9 = .ok (.iconst 0, 1) := by decide +kernel
theorem dX8_keeps_10 : decode cX8_keeps 10 = .ok (.istore_n 1, 1) := by decide +kernel
theorem dX8_keeps_11 : decode cX8_keeps 11 = .ok (.iload_n 1, 1) := by decide +kernel
theorem dX8_keeps_12 : decode cX8_keeps 12 = .ok (.sipush 897, 3) := by decide +kernel
theorem dX8_keeps_15 : decode cX8_keeps 15 = .ok (.if_icmp .ge 24, 3) := by decide +kernel
theorem dX8_keeps_18 : decode cX8_keeps 18 = .ok (.aload_n 0, 1) := by decide +kernel
theorem dX8_keeps_19 : decode cX8_keeps 19 = .ok (.getfield 28, 3) := by decide +kernel
theorem dX8_keeps_22 : decode cX8_keeps 22 = .ok (.iload_n 1, 1) := by decide +kernel
theorem dX8_keeps_23 : decode cX8_keeps 23 = .ok (.aload_n 0, 1) := by decide +kernel
theorem dX8_keeps_24 : decode cX8_keeps 24 = .ok (.getfield 28, 3) := by decide +kernel
theorem dX8_keeps_27 : decode cX8_keeps 27 = .ok (.iload_n 1, 1) := by decide +kernel
theorem dX8_keeps_28 : decode cX8_keeps 28 = .ok (.bipush 39, 2) := by decide +kernel
theorem dX8_keeps_30 : decode cX8_keeps 30 = .ok (.iadd, 1) := by decide +kernel
theorem dX8_keeps_31 : decode cX8_keeps 31 = .ok (.iaload, 1) := by decide +kernel
theorem dX8_keeps_32 : decode cX8_keeps 32 = .ok (.iastore, 1) := by decide +kernel
theorem dX8_keeps_33 : decode cX8_keeps 33 = .ok (.iinc 1 1, 3) := by decide +kernel
theorem dX8_keeps_36 : decode cX8_keeps 36 = .ok (.goto (-25), 3) := by decide +kernel
theorem dX8_keeps_39 : decode cX8_keeps 39 = .ok (.aload_n 0, 1) := by decide +kernel
theorem dX8_keeps_40 : decode cX8_keeps 40 = .ok (.dup, 1) := by decide +kernel
theorem dX8_keeps_41 : decode cX8_keeps 41 = .ok (.getfield 164, 3) := by decide +kernel
theorem dX8_keeps_44 : decode cX8_keeps 44 = .ok (.iconst 1, 1) := by decide +kernel
theorem dX8_keeps_45 : decode cX8_keeps 45 = .ok (.isub, 1) := by decide +kernel
theorem dX8_keeps_46 : decode cX8_keeps 46 = .ok (.putfield 164, 3) := by decide +kernel
theorem dX8_keeps_49 : decode cX8_keeps 49 = .ok (.iconst 0, 1) := by decide +kernel
theorem dX8_keeps_50 : decode cX8_keeps 50 = .ok (.istore_n 1, 1) := by decide +kernel
theorem dX8_keeps_51 : decode cX8_keeps 51 = .ok (.iload_n 1, 1) := by decide +kernel
theorem dX8_keeps_52 : decode cX8_keeps 52 = .ok (.bipush 39, 2) := by decide +kernel
theorem dX8_keeps_54 : decode cX8_keeps 54 = .ok (.if_icmp .ge 29, 3) := by decide +kernel
theorem dX8_keeps_57 : decode cX8_keeps 57 = .ok (.aload_n 0, 1) := by decide +kernel
theorem dX8_keeps_58 : decode cX8_keeps 58 = .ok (.getfield 28, 3) := by decide +kernel
theorem dX8_keeps_61 : decode cX8_keeps 61 = .ok (.bipush 39, 2) := by decide +kernel
theorem dX8_keeps_63 : decode cX8_keeps 63 = .ok (.aload_n 0, 1) := by decide +kernel
theorem dX8_keeps_64 : decode cX8_keeps 64 = .ok (.getfield 164, 3) := by decide +kernel
theorem dX8_keeps_67 : decode cX8_keeps 67 = .ok (.imul, 1) := by decide +kernel
theorem dX8_keeps_68 : decode cX8_keeps 68 = .ok (.iload_n 1, 1) := by decide +kernel
theorem dX8_keeps_69 : decode cX8_keeps 69 = .ok (.iadd, 1) := by decide +kernel
theorem dX8_keeps_70 : decode cX8_keeps 70 = .ok (.aload_n 0, 1) := by decide +kernel
theorem dX8_keeps_71 : decode cX8_keeps 71 = .ok (.getfield 22, 3) := by decide +kernel
theorem dX8_keeps_74 : decode cX8_keeps 74 = .ok (.iload_n 1, 1) := by decide +kernel
theorem dX8_keeps_75 : decode cX8_keeps 75 = .ok (.iaload, 1) := by decide +kernel
theorem dX8_keeps_76 : decode cX8_keeps 76 = .ok (.iastore, 1) := by decide +kernel
theorem dX8_keeps_77 : decode cX8_keeps 77 = .ok (.iinc 1 1, 3) := by decide +kernel
theorem dX8_keeps_80 : decode cX8_keeps 80 = .ok (.goto (-29), 3) := by decide +kernel
theorem dX8_keeps_83 : decode cX8_keeps 83 = .ok (.aload_n 0, 1) := by decide +kernel
theorem dX8_keeps_84 : decode cX8_keeps 84 = .ok (.dup, 1) := by decide +kernel
theorem dX8_keeps_85 : decode cX8_keeps 85 = .ok (.getfield 164, 3) := by decide +kernel
theorem dX8_keeps_88 : decode cX8_keeps 88 = .ok (.iconst 1, 1) := by decide +kernel
theorem dX8_keeps_89 : decode cX8_keeps 89 = .ok (.iadd, 1) := by decide +kernel
theorem dX8_keeps_90 : decode cX8_keeps 90 = .ok (.putfield 164, 3) := by decide +kernel
theorem dX8_keeps_93 : decode cX8_keeps 93 = .ok (.return_, 1) := by decide +kernel
theorem dX8_toss_0 : decode cX8_toss 0 = .ok (.aload_n 0, 1) := by decide +kernel
theorem dX8_toss_1 : decode cX8_toss 1 = .ok (.getfield 22, 3) := by decide +kernel
theorem dX8_toss_4 : decode cX8_toss 4 = .ok (.iconst 0, 1) := by decide +kernel
theorem dX8_toss_5 : decode cX8_toss 5 = .ok (.iaload, 1) := by decide +kernel
theorem dX8_toss_6 : decode cX8_toss 6 = .ok (.ifCond .ne 6, 3) := by decide +kernel
theorem dX8_toss_9 : decode cX8_toss 9 = .ok (.ldc 193, 2) := by decide +kernel
theorem dX8_toss_11 : decode cX8_toss 11 = .ok (.ireturn, 1) := by decide +kernel
theorem dX8_toss_12 : decode cX8_toss 12 = .ok (.iload_n 1, 1) := by decide +kernel
theorem dX8_toss_13 : decode cX8_toss 13 = .ok (.iload_n 2, 1) := by decide +kernel
theorem dX8_toss_14 : decode cX8_toss 14 = .ok (.invokestatic 194, 3) := by decide +kernel
theorem dX8_toss_17 : decode cX8_toss 17 = .ok (.ifCond .eq 28, 3) := by decide +kernel
theorem dX8_toss_20 : decode cX8_toss 20 = .ok (.iload_n 3, 1) := by decide +kernel
theorem dX8_toss_21 : decode cX8_toss 21 = .ok (.i2l, 1) := by decide +kernel
theorem dX8_toss_22 : decode cX8_toss 22 = .ok (.lconst 1, 1) := by decide +kernel
theorem dX8_toss_23 : decode cX8_toss 23 = .ok (.ldc2_w 198, 3) := by decide +kernel
theorem dX8_toss_26 : decode cX8_toss 26 = .ok (.invokestatic 60, 3) := by decide +kernel
theorem dX8_toss_29 : decode cX8_toss 29 = .ok (.ifCond .eq 16, 3) := by decide +kernel
theorem dX8_toss_32 : decode cX8_toss 32 = .ok (.iload 4, 2) := by decide +kernel
theorem dX8_toss_34 : decode cX8_toss 34 = .ok (.i2l, 1) := by decide +kernel
theorem dX8_toss_35 : decode cX8_toss 35 = .ok (.lconst 1, 1) := by decide +kernel
theorem dX8_toss_36 : decode cX8_toss 36 = .ok (.ldc2_w 200, 3) := by decide +kernel
theorem dX8_toss_39 : decode cX8_toss 39 = .ok (.invokestatic 60, 3) := by decide +kernel
theorem dX8_toss_42 : decode cX8_toss 42 = .ok (.ifCond .ne 6, 3) := by decide +kernel
theorem dX8_toss_45 : decode cX8_toss 45 = .ok (.ldc 66, 2) := by decide +kernel
theorem dX8_toss_47 : decode cX8_toss 47 = .ok (.ireturn, 1) := by decide +kernel
theorem dX8_toss_48 : decode cX8_toss 48 = .ok (.iconst 0, 1) := by decide +kernel
theorem dX8_toss_49 : decode cX8_toss 49 = .ok (.istore 5, 2) := by decide +kernel
theorem dX8_toss_51 : decode cX8_toss 51 = .ok (.iload 5, 2) := by decide +kernel
theorem dX8_toss_53 : decode cX8_toss 53 = .ok (.aload_n 0, 1) := by decide +kernel
theorem dX8_toss_54 : decode cX8_toss 54 = .ok (.getfield 22, 3) := by decide +kernel
theorem dX8_toss_57 : decode cX8_toss 57 = .ok (.iconst 3, 1) := by decide +kernel
theorem dX8_toss_58 : decode cX8_toss 58 = .ok (.iaload, 1) := by decide +kernel
theorem dX8_toss_59 : decode cX8_toss 59 = .ok (.if_icmp .ge 30, 3) := by decide +kernel
theorem dX8_toss_62 : decode cX8_toss 62 = .ok (.aload_n 0, 1) := by decide +kernel
theorem dX8_toss_63 : decode cX8_toss 63 = .ok (.getfield 22, 3) := by decide +kernel
theorem dX8_toss_66 : decode cX8_toss 66 = .ok (.bipush 20, 2) := by decide +kernel
theorem dX8_toss_68 : decode cX8_toss 68 = .ok (.iload 5, 2) := by decide +kernel
theorem dX8_toss_70 : decode cX8_toss 70 = .ok (.iadd, 1) := by decide +kernel
theorem dX8_toss_71 : decode cX8_toss 71 = .ok (.iaload, 1) := by decide +kernel
theorem dX8_toss_72 : decode cX8_toss 72 = .ok (.iload_n 3, 1) := by decide +kernel
theorem dX8_toss_73 : decode cX8_toss 73 = .ok (.iadd, 1) := by decide +kernel
theorem dX8_toss_74 : decode cX8_toss 74 = .ok (.sipush 9999, 3) := by decide +kernel
theorem dX8_toss_77 : decode cX8_toss 77 = .ok (.if_icmp .le 6, 3) := by decide +kernel
theorem dX8_toss_80 : decode cX8_toss 80 = .ok (.ldc 79, 2) := by decide +kernel
theorem dX8_toss_82 : decode cX8_toss 82 = .ok (.ireturn, 1) := by decide +kernel
theorem dX8_toss_83 : decode cX8_toss 83 = .ok (.iinc 5 1, 3) := by decide +kernel
theorem dX8_toss_86 : decode cX8_toss 86 = .ok (.goto (-35), 3) := by decide +kernel
theorem dX8_toss_89 : decode cX8_toss 89 = .ok (.aload_n 0, 1) := by decide +kernel
theorem dX8_toss_90 : decode cX8_toss 90 = .ok (.invokevirtual 202, 3) := by decide +kernel
theorem dX8_toss_93 : decode cX8_toss 93 = .ok (.aload_n 0, 1) := by decide +kernel
theorem dX8_toss_94 : decode cX8_toss 94 = .ok (.invokevirtual 205, 3) := by decide +kernel
theorem dX8_toss_97 : decode cX8_toss 97 = .ok (.aload_n 0, 1) := by decide +kernel
theorem dX8_toss_98 : decode cX8_toss 98 = .ok (.invokevirtual 208, 3) := by decide +kernel
theorem dX8_toss_101 : decode cX8_toss 101 = .ok (.aload_n 0, 1) := by decide +kernel
theorem dX8_toss_102 : decode cX8_toss 102 = .ok (.iload_n 1, 1) := by decide +kernel
theorem dX8_toss_103 : decode cX8_toss 103 = .ok (.iload_n 2, 1) := by decide +kernel
theorem dX8_toss_104 : decode cX8_toss 104 = .ok (.invokevirtual 211, 3) := by decide +kernel
theorem dX8_toss_107 : decode cX8_toss 107 = .ok (.iload 4, 2) := by decide +kernel
theorem dX8_toss_109 : decode cX8_toss 109 = .ok (.i2l, 1) := by decide +kernel
theorem dX8_toss_110 : decode cX8_toss 110 = .ok (.lstore 5, 2) := by decide +kernel
theorem dX8_toss_112 : decode cX8_toss 112 = .ok (.iconst 0, 1) := by decide +kernel
theorem dX8_toss_113 : decode cX8_toss 113 = .ok (.istore 7, 2) := by decide +kernel
theorem dX8_toss_115 : decode cX8_toss 115 = .ok (.iconst 0, 1) := by decide +kernel
theorem dX8_toss_116 : decode cX8_toss 116 = .ok (.istore 8, 2) := by decide +kernel
theorem dX8_toss_118 : decode cX8_toss 118 = .ok (.iload 8, 2) := by decide +kernel
theorem dX8_toss_120 : decode cX8_toss 120 = .ok (.iload_n 3, 1) := by decide +kernel
theorem dX8_toss_121 : decode cX8_toss 121 = .ok (.if_icmp .ge 82, 3) := by decide +kernel
theorem dX8_toss_124 : decode cX8_toss 124 = .ok (.lload 5, 2) := by decide +kernel
theorem dX8_toss_126 : decode cX8_toss 126 = .ok (.ldc2_w 215, 3) := by decide +kernel
theorem dX8_toss_129 : decode cX8_toss 129 = .ok (.lmul, 1) := by decide +kernel
theorem dX8_toss_130 : decode cX8_toss 130 = .ok (.ldc2_w 217, 3) := by decide +kernel
theorem dX8_toss_133 : decode cX8_toss 133 = .ok (.lrem, 1) := by decide +kernel
theorem dX8_toss_134 : decode cX8_toss 134 = .ok (.lstore 5, 2) := by decide +kernel
theorem dX8_toss_136 : decode cX8_toss 136 = .ok (.aload_n 0, 1) := by decide +kernel
theorem dX8_toss_137 : decode cX8_toss 137 = .ok (.getfield 47, 3) := by decide +kernel
theorem dX8_toss_140 : decode cX8_toss 140 = .ok (.lload 5, 2) := by decide +kernel
theorem dX8_toss_142 : decode cX8_toss 142 = .ok (.aload_n 0, 1) := by decide +kernel
theorem dX8_toss_143 : decode cX8_toss 143 = .ok (.getfield 186, 3) := by decide +kernel
theorem dX8_toss_146 : decode cX8_toss 146 = .ok (.i2l, 1) := by decide +kernel
theorem dX8_toss_147 : decode cX8_toss 147 = .ok (.lrem, 1) := by decide +kernel
theorem dX8_toss_148 : decode cX8_toss 148 = .ok (.l2i, 1) := by decide +kernel
theorem dX8_toss_149 : decode cX8_toss 149 = .ok (.iaload, 1) := by decide +kernel
theorem dX8_toss_150 : decode cX8_toss 150 = .ok (.istore 9, 2) := by decide +kernel
theorem dX8_toss_152 : decode cX8_toss 152 = .ok (.iload 9, 2) := by decide +kernel
theorem dX8_toss_154 : decode cX8_toss 154 = .ok (.ldc 179, 2) := by decide +kernel
theorem dX8_toss_156 : decode cX8_toss 156 = .ok (.if_icmp .ne 8, 3) := by decide +kernel
theorem dX8_toss_159 : decode cX8_toss 159 = .ok (.ldc 179, 2) := by decide +kernel
theorem dX8_toss_161 : decode cX8_toss 161 = .ok (.goto 10, 3) := by decide +kernel
theorem dX8_toss_164 : decode cX8_toss 164 = .ok (.aload_n 0, 1) := by decide +kernel
theorem dX8_toss_165 : decode cX8_toss 165 = .ok (.getfield 44, 3) := by decide +kernel
theorem dX8_toss_168 : decode cX8_toss 168 = .ok (.iload 9, 2) := by decide +kernel
theorem dX8_toss_170 : decode cX8_toss 170 = .ok (.iaload, 1) := by decide +kernel
theorem dX8_toss_171 : decode cX8_toss 171 = .ok (.istore 10, 2) := by decide +kernel
theorem dX8_toss_173 : decode cX8_toss 173 = .ok (.iload 10, 2) := by decide +kernel
theorem dX8_toss_175 : decode cX8_toss 175 = .ok (.ldc 179, 2) := by decide +kernel
theorem dX8_toss_177 : decode cX8_toss 177 = .ok (.if_icmp .eq 20, 3) := by decide +kernel
theorem dX8_toss_180 : decode cX8_toss 180 = .ok (.aload_n 0, 1) := by decide +kernel
theorem dX8_toss_181 : decode cX8_toss 181 = .ok (.getfield 22, 3) := by decide +kernel
theorem dX8_toss_184 : decode cX8_toss 184 = .ok (.bipush 20, 2) := by decide +kernel
theorem dX8_toss_186 : decode cX8_toss 186 = .ok (.iload 10, 2) := by decide +kernel
theorem dX8_toss_188 : decode cX8_toss 188 = .ok (.iadd, 1) := by decide +kernel
theorem dX8_toss_189 : decode cX8_toss 189 = .ok (.dup2, 1) := by decide +kernel
theorem dX8_toss_190 : decode cX8_toss 190 = .ok (.iaload, 1) := by decide +kernel
theorem dX8_toss_191 : decode cX8_toss 191 = .ok (.iconst 1, 1) := by decide +kernel
theorem dX8_toss_192 : decode cX8_toss 192 = .ok (.iadd, 1) := by decide +kernel
theorem dX8_toss_193 : decode cX8_toss 193 = .ok (.iastore, 1) := by decide +kernel
theorem dX8_toss_194 : decode cX8_toss 194 = .ok (.iinc 7 1, 3) := by decide +kernel
theorem dX8_toss_197 : decode cX8_toss 197 = .ok (.iinc 8 1, 3) := by decide +kernel
theorem dX8_toss_200 : decode cX8_toss 200 = .ok (.goto (-82), 3) := by decide +kernel
theorem dX8_toss_203 : decode cX8_toss 203 = .ok (.iload 7, 2) := by decide +kernel
theorem dX8_toss_205 : decode cX8_toss 205 = .ok (.ireturn, 1) := by decide +kernel
theorem dX8_run_0 : decode cX8_run 0 = .ok (.aload_n 0, 1) := by decide +kernel
theorem dX8_run_1 : decode cX8_run 1 = .ok (.iload_n 1, 1) := by decide +kernel
theorem dX8_run_2 : decode cX8_run 2 = .ok (.invokevirtual 219, 3) := by decide +kernel
theorem dX8_run_5 : decode cX8_run 5 = .ok (.ifCond .eq 10, 3) := by decide +kernel
theorem dX8_run_8 : decode cX8_run 8 = .ok (.iload_n 2, 1) := by decide +kernel
theorem dX8_run_9 : decode cX8_run 9 = .ok (.invokestatic 169, 3) := by decide +kernel
theorem dX8_run_12 : decode cX8_run 12 = .ok (.ifCond .ne 6, 3) := by decide +kernel
theorem dX8_run_15 : decode cX8_run 15 = .ok (.ldc 66, 2) := by decide +kernel
theorem dX8_run_17 : decode cX8_run 17 = .ok (.ireturn, 1) := by decide +kernel
theorem dX8_run_18 : decode cX8_run 18 = .ok (.aload_n 0, 1) := by decide +kernel
theorem dX8_run_19 : decode cX8_run 19 = .ok (.invokevirtual 202, 3) := by decide +kernel
theorem dX8_run_22 : decode cX8_run 22 = .ok (.aload_n 0, 1) := by decide +kernel
theorem dX8_run_23 : decode cX8_run 23 = .ok (.getfield 22, 3) := by decide +kernel
theorem dX8_run_26 : decode cX8_run 26 = .ok (.bipush 15, 2) := by decide +kernel
theorem dX8_run_28 : decode cX8_run 28 = .ok (.iload_n 1, 1) := by decide +kernel
theorem dX8_run_29 : decode cX8_run 29 = .ok (.iadd, 1) := by decide +kernel
theorem dX8_run_30 : decode cX8_run 30 = .ok (.iaload, 1) := by decide +kernel
theorem dX8_run_31 : decode cX8_run 31 = .ok (.iload_n 2, 1) := by decide +kernel
theorem dX8_run_32 : decode cX8_run 32 = .ok (.invokestatic 175, 3) := by decide +kernel
theorem dX8_run_35 : decode cX8_run 35 = .ok (.istore_n 3, 1) := by decide +kernel
theorem dX8_run_36 : decode cX8_run 36 = .ok (.aload_n 0, 1) := by decide +kernel
theorem dX8_run_37 : decode cX8_run 37 = .ok (.getfield 22, 3) := by decide +kernel
theorem dX8_run_40 : decode cX8_run 40 = .ok (.bipush 15, 2) := by decide +kernel
theorem dX8_run_42 : decode cX8_run 42 = .ok (.iload_n 1, 1) := by decide +kernel
theorem dX8_run_43 : decode cX8_run 43 = .ok (.iadd, 1) := by decide +kernel
theorem dX8_run_44 : decode cX8_run 44 = .ok (.iload_n 2, 1) := by decide +kernel
theorem dX8_run_45 : decode cX8_run 45 = .ok (.iastore, 1) := by decide +kernel
theorem dX8_run_46 : decode cX8_run 46 = .ok (.iload_n 3, 1) := by decide +kernel
theorem dX8_run_47 : decode cX8_run 47 = .ok (.ireturn, 1) := by decide +kernel
theorem dX8_strengthOf_0 : decode cX8_strengthOf 0 = .ok (.aload_n 0, 1) := by decide +kernel
theorem dX8_strengthOf_1 : decode cX8_strengthOf 1 = .ok (.getfield 22, 3) := by decide +kernel
theorem dX8_strengthOf_4 : decode cX8_strengthOf 4 = .ok (.iconst 5, 1) := by decide +kernel
theorem dX8_strengthOf_5 : decode cX8_strengthOf 5 = .ok (.iload_n 1, 1) := by decide +kernel
theorem dX8_strengthOf_6 : decode cX8_strengthOf 6 = .ok (.iadd, 1) := by decide +kernel
theorem dX8_strengthOf_7 : decode cX8_strengthOf 7 = .ok (.iaload, 1) := by decide +kernel
theorem dX8_strengthOf_8 : decode cX8_strengthOf 8 = .ok (.iconst 2, 1) := by decide +kernel
theorem dX8_strengthOf_9 : decode cX8_strengthOf 9 = .ok (.if_icmp .ne 17, 3) := by decide +kernel
theorem dX8_strengthOf_12 : decode cX8_strengthOf 12 = .ok (.iconst 2, 1) := by decide +kernel
theorem dX8_strengthOf_13 : decode cX8_strengthOf 13 = .ok (.aload_n 0, 1) := by decide +kernel
theorem dX8_strengthOf_14 : decode cX8_strengthOf 14 = .ok (.getfield 22, 3) := by decide +kernel
theorem dX8_strengthOf_17 : decode cX8_strengthOf 17 = .ok (.bipush 10, 2) := by decide +kernel
theorem dX8_strengthOf_19 : decode cX8_strengthOf 19 = .ok (.iload_n 1, 1) := by decide +kernel
theorem dX8_strengthOf_20 : decode cX8_strengthOf 20 = .ok (.iadd, 1) := by decide +kernel
theorem dX8_strengthOf_21 : decode cX8_strengthOf 21 = .ok (.iaload, 1) := by decide +kernel
theorem dX8_strengthOf_22 : decode cX8_strengthOf 22 = .ok (.imul, 1) := by decide +kernel
theorem dX8_strengthOf_23 : decode cX8_strengthOf 23 = .ok (.goto 12, 3) := by decide +kernel
theorem dX8_strengthOf_26 : decode cX8_strengthOf 26 = .ok (.aload_n 0, 1) := by decide +kernel
theorem dX8_strengthOf_27 : decode cX8_strengthOf 27 = .ok (.getfield 22, 3) := by decide +kernel
theorem dX8_strengthOf_30 : decode cX8_strengthOf 30 = .ok (.bipush 10, 2) := by decide +kernel
theorem dX8_strengthOf_32 : decode cX8_strengthOf 32 = .ok (.iload_n 1, 1) := by decide +kernel
theorem dX8_strengthOf_33 : decode cX8_strengthOf 33 = .ok (.iadd, 1) := by decide +kernel
theorem dX8_strengthOf_34 : decode cX8_strengthOf 34 = .ok (.iaload, 1) := by decide +kernel
theorem dX8_strengthOf_35 : decode cX8_strengthOf 35 = .ok (.ireturn, 1) := by decide +kernel
theorem dX8_corner_0 : decode cX8_corner 0 = .ok (.aload_n 0, 1) := by decide +kernel
theorem dX8_corner_1 : decode cX8_corner 1 = .ok (.iload_n 1, 1) := by decide +kernel
theorem dX8_corner_2 : decode cX8_corner 2 = .ok (.invokevirtual 219, 3) := by decide +kernel
theorem dX8_corner_5 : decode cX8_corner 5 = .ok (.ifCond .eq 16, 3) := by decide +kernel
theorem dX8_corner_8 : decode cX8_corner 8 = .ok (.aload_n 0, 1) := by decide +kernel
theorem dX8_corner_9 : decode cX8_corner 9 = .ok (.iload_n 2, 1) := by decide +kernel
theorem dX8_corner_10 : decode cX8_corner 10 = .ok (.invokevirtual 219, 3) := by decide +kernel
theorem dX8_corner_13 : decode cX8_corner 13 = .ok (.ifCond .eq 8, 3) := by decide +kernel
theorem dX8_corner_16 : decode cX8_corner 16 = .ok (.iload_n 1, 1) := by decide +kernel
theorem dX8_corner_17 : decode cX8_corner 17 = .ok (.iload_n 2, 1) := by decide +kernel
theorem dX8_corner_18 : decode cX8_corner 18 = .ok (.if_icmp .ne 6, 3) := by decide +kernel
theorem dX8_corner_21 : decode cX8_corner 21 = .ok (.ldc 66, 2) := by decide +kernel
theorem dX8_corner_23 : decode cX8_corner 23 = .ok (.ireturn, 1) := by decide +kernel
theorem dX8_corner_24 : decode cX8_corner 24 = .ok (.aload_n 0, 1) := by decide +kernel
theorem dX8_corner_25 : decode cX8_corner 25 = .ok (.iload_n 2, 1) := by decide +kernel
theorem dX8_corner_26 : decode cX8_corner 26 = .ok (.invokevirtual 222, 3) := by decide +kernel
theorem dX8_corner_29 : decode cX8_corner 29 = .ok (.aload_n 0, 1) := by decide +kernel
theorem dX8_corner_30 : decode cX8_corner 30 = .ok (.iload_n 1, 1) := by decide +kernel
theorem dX8_corner_31 : decode cX8_corner 31 = .ok (.invokevirtual 222, 3) := by decide +kernel
theorem dX8_corner_34 : decode cX8_corner 34 = .ok (.if_icmp .lt 6, 3) := by decide +kernel
theorem dX8_corner_37 : decode cX8_corner 37 = .ok (.ldc 193, 2) := by decide +kernel
theorem dX8_corner_39 : decode cX8_corner 39 = .ok (.ireturn, 1) := by decide +kernel
theorem dX8_corner_40 : decode cX8_corner 40 = .ok (.aload_n 0, 1) := by decide +kernel
theorem dX8_corner_41 : decode cX8_corner 41 = .ok (.getfield 22, 3) := by decide +kernel
theorem dX8_corner_44 : decode cX8_corner 44 = .ok (.bipush 20, 2) := by decide +kernel
theorem dX8_corner_46 : decode cX8_corner 46 = .ok (.iload_n 2, 1) := by decide +kernel
theorem dX8_corner_47 : decode cX8_corner 47 = .ok (.iadd, 1) := by decide +kernel
theorem dX8_corner_48 : decode cX8_corner 48 = .ok (.iaload, 1) := by decide +kernel
theorem dX8_corner_49 : decode cX8_corner 49 = .ok (.iconst 2, 1) := by decide +kernel
theorem dX8_corner_50 : decode cX8_corner 50 = .ok (.idiv, 1) := by decide +kernel
theorem dX8_corner_51 : decode cX8_corner 51 = .ok (.istore_n 3, 1) := by decide +kernel
theorem dX8_corner_52 : decode cX8_corner 52 = .ok (.aload_n 0, 1) := by decide +kernel
theorem dX8_corner_53 : decode cX8_corner 53 = .ok (.getfield 22, 3) := by decide +kernel
theorem dX8_corner_56 : decode cX8_corner 56 = .ok (.bipush 20, 2) := by decide +kernel
theorem dX8_corner_58 : decode cX8_corner 58 = .ok (.iload_n 1, 1) := by decide +kernel
theorem dX8_corner_59 : decode cX8_corner 59 = .ok (.iadd, 1) := by decide +kernel
theorem dX8_corner_60 : decode cX8_corner 60 = .ok (.iaload, 1) := by decide +kernel
theorem dX8_corner_61 : decode cX8_corner 61 = .ok (.iload_n 3, 1) := by decide +kernel
theorem dX8_corner_62 : decode cX8_corner 62 = .ok (.iadd, 1) := by decide +kernel
theorem dX8_corner_63 : decode cX8_corner 63 = .ok (.sipush 9999, 3) := by decide +kernel
theorem dX8_corner_66 : decode cX8_corner 66 = .ok (.if_icmp .le 6, 3) := by decide +kernel
theorem dX8_corner_69 : decode cX8_corner 69 = .ok (.ldc 79, 2) := by decide +kernel
theorem dX8_corner_71 : decode cX8_corner 71 = .ok (.ireturn, 1) := by decide +kernel
theorem dX8_corner_72 : decode cX8_corner 72 = .ok (.aload_n 0, 1) := by decide +kernel
theorem dX8_corner_73 : decode cX8_corner 73 = .ok (.invokevirtual 202, 3) := by decide +kernel
theorem dX8_corner_76 : decode cX8_corner 76 = .ok (.aload_n 0, 1) := by decide +kernel
theorem dX8_corner_77 : decode cX8_corner 77 = .ok (.getfield 22, 3) := by decide +kernel
theorem dX8_corner_80 : decode cX8_corner 80 = .ok (.bipush 20, 2) := by decide +kernel
theorem dX8_corner_82 : decode cX8_corner 82 = .ok (.iload_n 2, 1) := by decide +kernel
theorem dX8_corner_83 : decode cX8_corner 83 = .ok (.iadd, 1) := by decide +kernel
theorem dX8_corner_84 : decode cX8_corner 84 = .ok (.dup2, 1) := by decide +kernel
theorem dX8_corner_85 : decode cX8_corner 85 = .ok (.iaload, 1) := by decide +kernel
theorem dX8_corner_86 : decode cX8_corner 86 = .ok (.iload_n 3, 1) := by decide +kernel
theorem dX8_corner_87 : decode cX8_corner 87 = .ok (.isub, 1) := by decide +kernel
theorem dX8_corner_88 : decode cX8_corner 88 = .ok (.iastore, 1) := by decide +kernel
theorem dX8_corner_89 : decode cX8_corner 89 = .ok (.aload_n 0, 1) := by decide +kernel
theorem dX8_corner_90 : decode cX8_corner 90 = .ok (.getfield 22, 3) := by decide +kernel
theorem dX8_corner_93 : decode cX8_corner 93 = .ok (.bipush 20, 2) := by decide +kernel
theorem dX8_corner_95 : decode cX8_corner 95 = .ok (.iload_n 1, 1) := by decide +kernel
theorem dX8_corner_96 : decode cX8_corner 96 = .ok (.iadd, 1) := by decide +kernel
theorem dX8_corner_97 : decode cX8_corner 97 = .ok (.dup2, 1) := by decide +kernel
theorem dX8_corner_98 : decode cX8_corner 98 = .ok (.iaload, 1) := by decide +kernel
theorem dX8_corner_99 : decode cX8_corner 99 = .ok (.iload_n 3, 1) := by decide +kernel
theorem dX8_corner_100 : decode cX8_corner 100 = .ok (.iadd, 1) := by decide +kernel
theorem dX8_corner_101 : decode cX8_corner 101 = .ok (.iastore, 1) := by decide +kernel
theorem dX8_corner_102 : decode cX8_corner 102 = .ok (.iload_n 3, 1) := by decide +kernel
theorem dX8_corner_103 : decode cX8_corner 103 = .ok (.ireturn, 1) := by decide +kernel
theorem dX8_undo_0 : decode cX8_undo 0 = .ok (.aload_n 0, 1) := by decide +kernel
theorem dX8_undo_1 : decode cX8_undo 1 = .ok (.getfield 164, 3) := by decide +kernel
theorem dX8_undo_4 : decode cX8_undo 4 = .ok (.ifCond .ne 6, 3) := by decide +kernel
theorem dX8_undo_7 : decode cX8_undo 7 = .ok (.ldc 193, 2) := by decide +kernel
theorem dX8_undo_9 : decode cX8_undo 9 = .ok (.ireturn, 1) := by decide +kernel
theorem dX8_undo_10 : decode cX8_undo 10 = .ok (.aload_n 0, 1) := by decide +kernel
theorem dX8_undo_11 : decode cX8_undo 11 = .ok (.dup, 1) := by decide +kernel
theorem dX8_undo_12 : decode cX8_undo 12 = .ok (.getfield 164, 3) := by decide +kernel
theorem dX8_undo_15 : decode cX8_undo 15 = .ok (.iconst 1, 1) := by decide +kernel
theorem dX8_undo_16 : decode cX8_undo 16 = .ok (.isub, 1) := by decide +kernel
theorem dX8_undo_17 : decode cX8_undo 17 = .ok (.putfield 164, 3) := by decide +kernel
theorem dX8_undo_20 : decode cX8_undo 20 = .ok (.iconst 0, 1) := by decide +kernel
theorem dX8_undo_21 : decode cX8_undo 21 = .ok (.istore_n 1, 1) := by decide +kernel
theorem dX8_undo_22 : decode cX8_undo 22 = .ok (.iload_n 1, 1) := by decide +kernel
theorem dX8_undo_23 : decode cX8_undo 23 = .ok (.bipush 39, 2) := by decide +kernel
theorem dX8_undo_25 : decode cX8_undo 25 = .ok (.if_icmp .ge 29, 3) := by decide +kernel
theorem dX8_undo_28 : decode cX8_undo 28 = .ok (.aload_n 0, 1) := by decide +kernel
theorem dX8_undo_29 : decode cX8_undo 29 = .ok (.getfield 22, 3) := by decide +kernel
theorem dX8_undo_32 : decode cX8_undo 32 = .ok (.iload_n 1, 1) := by decide +kernel
theorem dX8_undo_33 : decode cX8_undo 33 = .ok (.aload_n 0, 1) := by decide +kernel
theorem dX8_undo_34 : decode cX8_undo 34 = .ok (.getfield 28, 3) := by decide +kernel
theorem dX8_undo_37 : decode cX8_undo 37 = .ok (.bipush 39, 2) := by decide +kernel
theorem dX8_undo_39 : decode cX8_undo 39 = .ok (.aload_n 0, 1) := by decide +kernel
theorem dX8_undo_40 : decode cX8_undo 40 = .ok (.getfield 164, 3) := by decide +kernel
theorem dX8_undo_43 : decode cX8_undo 43 = .ok (.imul, 1) := by decide +kernel
theorem dX8_undo_44 : decode cX8_undo 44 = .ok (.iload_n 1, 1) := by decide +kernel
theorem dX8_undo_45 : decode cX8_undo 45 = .ok (.iadd, 1) := by decide +kernel
theorem dX8_undo_46 : decode cX8_undo 46 = .ok (.iaload, 1) := by decide +kernel
theorem dX8_undo_47 : decode cX8_undo 47 = .ok (.iastore, 1) := by decide +kernel
theorem dX8_undo_48 : decode cX8_undo 48 = .ok (.iinc 1 1, 3) := by decide +kernel
theorem dX8_undo_51 : decode cX8_undo 51 = .ok (.goto (-29), 3) := by decide +kernel
theorem dX8_undo_54 : decode cX8_undo 54 = .ok (.aload_n 0, 1) := by decide +kernel
theorem dX8_undo_55 : decode cX8_undo 55 = .ok (.getfield 164, 3) := by decide +kernel
theorem dX8_undo_58 : decode cX8_undo 58 = .ok (.ireturn, 1) := by decide +kernel
theorem dX8_child_0 : decode cX8_child 0 = .ok (.aload_n 0, 1) := by decide +kernel
theorem dX8_child_1 : decode cX8_child 1 = .ok (.iload_n 1, 1) := by decide +kernel
theorem dX8_child_2 : decode cX8_child 2 = .ok (.invokevirtual 219, 3) := by decide +kernel
theorem dX8_child_5 : decode cX8_child 5 = .ok (.ifCond .eq 15, 3) := by decide +kernel
theorem dX8_child_8 : decode cX8_child 8 = .ok (.iload_n 2, 1) := by decide +kernel
theorem dX8_child_9 : decode cX8_child 9 = .ok (.i2l, 1) := by decide +kernel
theorem dX8_child_10 : decode cX8_child 10 = .ok (.lconst 0, 1) := by decide +kernel
theorem dX8_child_11 : decode cX8_child 11 = .ok (.ldc2_w 64, 3) := by decide +kernel
theorem dX8_child_14 : decode cX8_child 14 = .ok (.invokestatic 60, 3) := by decide +kernel
theorem dX8_child_17 : decode cX8_child 17 = .ok (.ifCond .ne 6, 3) := by decide +kernel
theorem dX8_child_20 : decode cX8_child 20 = .ok (.ldc 66, 2) := by decide +kernel
theorem dX8_child_22 : decode cX8_child 22 = .ok (.ireturn, 1) := by decide +kernel
theorem dX8_child_23 : decode cX8_child 23 = .ok (.iload_n 2, 1) := by decide +kernel
theorem dX8_child_24 : decode cX8_child 24 = .ok (.ifCond .ne 15, 3) := by decide +kernel
theorem dX8_child_27 : decode cX8_child 27 = .ok (.aload_n 0, 1) := by decide +kernel
theorem dX8_child_28 : decode cX8_child 28 = .ok (.getfield 22, 3) := by decide +kernel
theorem dX8_child_31 : decode cX8_child 31 = .ok (.bipush 15, 2) := by decide +kernel
theorem dX8_child_33 : decode cX8_child 33 = .ok (.iload_n 1, 1) := by decide +kernel
theorem dX8_child_34 : decode cX8_child 34 = .ok (.iadd, 1) := by decide +kernel
theorem dX8_child_35 : decode cX8_child 35 = .ok (.iaload, 1) := by decide +kernel
theorem dX8_child_36 : decode cX8_child 36 = .ok (.goto 29, 3) := by decide +kernel
theorem dX8_child_39 : decode cX8_child 39 = .ok (.iload_n 2, 1) := by decide +kernel
theorem dX8_child_40 : decode cX8_child 40 = .ok (.iconst 1, 1) := by decide +kernel
theorem dX8_child_41 : decode cX8_child 41 = .ok (.if_icmp .ne 15, 3) := by decide +kernel
theorem dX8_child_44 : decode cX8_child 44 = .ok (.aload_n 0, 1) := by decide +kernel
theorem dX8_child_45 : decode cX8_child 45 = .ok (.getfield 22, 3) := by decide +kernel
theorem dX8_child_48 : decode cX8_child 48 = .ok (.bipush 10, 2) := by decide +kernel
theorem dX8_child_50 : decode cX8_child 50 = .ok (.iload_n 1, 1) := by decide +kernel
theorem dX8_child_51 : decode cX8_child 51 = .ok (.iadd, 1) := by decide +kernel
theorem dX8_child_52 : decode cX8_child 52 = .ok (.iaload, 1) := by decide +kernel
theorem dX8_child_53 : decode cX8_child 53 = .ok (.goto 12, 3) := by decide +kernel
theorem dX8_child_56 : decode cX8_child 56 = .ok (.aload_n 0, 1) := by decide +kernel
theorem dX8_child_57 : decode cX8_child 57 = .ok (.getfield 22, 3) := by decide +kernel
theorem dX8_child_60 : decode cX8_child 60 = .ok (.bipush 20, 2) := by decide +kernel
theorem dX8_child_62 : decode cX8_child 62 = .ok (.iload_n 1, 1) := by decide +kernel
theorem dX8_child_63 : decode cX8_child 63 = .ok (.iadd, 1) := by decide +kernel
theorem dX8_child_64 : decode cX8_child 64 = .ok (.iaload, 1) := by decide +kernel
theorem dX8_child_65 : decode cX8_child 65 = .ok (.ireturn, 1) := by decide +kernel
theorem dX8_cell__0 : decode cX8_cell_ 0 = .ok (.aload_n 0, 1) := by decide +kernel
theorem dX8_cell__1 : decode cX8_cell_ 1 = .ok (.getfield 22, 3) := by decide +kernel
theorem dX8_cell__4 : decode cX8_cell_ 4 = .ok (.iconst 0, 1) := by decide +kernel
theorem dX8_cell__5 : decode cX8_cell_ 5 = .ok (.iaload, 1) := by decide +kernel
theorem dX8_cell__6 : decode cX8_cell_ 6 = .ok (.ifCond .ne 6, 3) := by decide +kernel
theorem dX8_cell__9 : decode cX8_cell_ 9 = .ok (.ldc 193, 2) := by decide +kernel
theorem dX8_cell__11 : decode cX8_cell_ 11 = .ok (.ireturn, 1) := by decide +kernel
theorem dX8_cell__12 : decode cX8_cell_ 12 = .ok (.iload_n 1, 1) := by decide +kernel
theorem dX8_cell__13 : decode cX8_cell_ 13 = .ok (.invokestatic 169, 3) := by decide +kernel
theorem dX8_cell__16 : decode cX8_cell_ 16 = .ok (.ifCond .eq 13, 3) := by decide +kernel
theorem dX8_cell__19 : decode cX8_cell_ 19 = .ok (.iload_n 2, 1) := by decide +kernel
theorem dX8_cell__20 : decode cX8_cell_ 20 = .ok (.i2l, 1) := by decide +kernel
theorem dX8_cell__21 : decode cX8_cell_ 21 = .ok (.lconst 0, 1) := by decide +kernel
theorem dX8_cell__22 : decode cX8_cell_ 22 = .ok (.lconst 1, 1) := by decide +kernel
theorem dX8_cell__23 : decode cX8_cell_ 23 = .ok (.invokestatic 60, 3) := by decide +kernel
theorem dX8_cell__26 : decode cX8_cell_ 26 = .ok (.ifCond .ne 6, 3) := by decide +kernel
theorem dX8_cell__29 : decode cX8_cell_ 29 = .ok (.ldc 66, 2) := by decide +kernel
theorem dX8_cell__31 : decode cX8_cell_ 31 = .ok (.ireturn, 1) := by decide +kernel
theorem dX8_cell__32 : decode cX8_cell_ 32 = .ok (.aload_n 0, 1) := by decide +kernel
theorem dX8_cell__33 : decode cX8_cell_ 33 = .ok (.invokevirtual 205, 3) := by decide +kernel
theorem dX8_cell__36 : decode cX8_cell_ 36 = .ok (.iload_n 2, 1) := by decide +kernel
theorem dX8_cell__37 : decode cX8_cell_ 37 = .ok (.ifCond .ne 11, 3) := by decide +kernel
theorem dX8_cell__40 : decode cX8_cell_ 40 = .ok (.aload_n 0, 1) := by decide +kernel
theorem dX8_cell__41 : decode cX8_cell_ 41 = .ok (.iload_n 1, 1) := by decide +kernel
theorem dX8_cell__42 : decode cX8_cell_ 42 = .ok (.invokevirtual 183, 3) := by decide +kernel
theorem dX8_cell__45 : decode cX8_cell_ 45 = .ok (.goto 13, 3) := by decide +kernel
theorem dX8_cell__48 : decode cX8_cell_ 48 = .ok (.aload_n 0, 1) := by decide +kernel
theorem dX8_cell__49 : decode cX8_cell_ 49 = .ok (.getfield 22, 3) := by decide +kernel
theorem dX8_cell__52 : decode cX8_cell_ 52 = .ok (.iconst 4, 1) := by decide +kernel
theorem dX8_cell__53 : decode cX8_cell_ 53 = .ok (.iaload, 1) := by decide +kernel
theorem dX8_cell__54 : decode cX8_cell_ 54 = .ok (.iload_n 1, 1) := by decide +kernel
theorem dX8_cell__55 : decode cX8_cell_ 55 = .ok (.ishr, 1) := by decide +kernel
theorem dX8_cell__56 : decode cX8_cell_ 56 = .ok (.iconst 1, 1) := by decide +kernel
theorem dX8_cell__57 : decode cX8_cell_ 57 = .ok (.iand, 1) := by decide +kernel
theorem dX8_cell__58 : decode cX8_cell_ 58 = .ok (.ireturn, 1) := by decide +kernel
theorem dX8_power_0 : decode cX8_power 0 = .ok (.aload_n 0, 1) := by decide +kernel
theorem dX8_power_1 : decode cX8_power 1 = .ok (.iload_n 1, 1) := by decide +kernel
theorem dX8_power_2 : decode cX8_power 2 = .ok (.invokevirtual 219, 3) := by decide +kernel
theorem dX8_power_5 : decode cX8_power 5 = .ok (.ifCond .eq 10, 3) := by decide +kernel
theorem dX8_power_8 : decode cX8_power 8 = .ok (.iload_n 2, 1) := by decide +kernel
theorem dX8_power_9 : decode cX8_power 9 = .ok (.invokestatic 169, 3) := by decide +kernel
theorem dX8_power_12 : decode cX8_power 12 = .ok (.ifCond .ne 6, 3) := by decide +kernel
theorem dX8_power_15 : decode cX8_power 15 = .ok (.ldc 66, 2) := by decide +kernel
theorem dX8_power_17 : decode cX8_power 17 = .ok (.ireturn, 1) := by decide +kernel
theorem dX8_power_18 : decode cX8_power 18 = .ok (.aload_n 0, 1) := by decide +kernel
theorem dX8_power_19 : decode cX8_power 19 = .ok (.invokevirtual 205, 3) := by decide +kernel
theorem dX8_power_22 : decode cX8_power 22 = .ok (.aload_n 0, 1) := by decide +kernel
theorem dX8_power_23 : decode cX8_power 23 = .ok (.iload_n 1, 1) := by decide +kernel
theorem dX8_power_24 : decode cX8_power 24 = .ok (.iload_n 2, 1) := by decide +kernel
theorem dX8_power_25 : decode cX8_power 25 = .ok (.invokevirtual 180, 3) := by decide +kernel
theorem dX8_power_28 : decode cX8_power 28 = .ok (.ireturn, 1) := by decide +kernel
theorem dX8_part_0 : decode cX8_part 0 = .ok (.iload_n 0, 1) := by decide +kernel
theorem dX8_part_1 : decode cX8_part 1 = .ok (.istore_n 3, 1) := by decide +kernel
theorem dX8_part_2 : decode cX8_part 2 = .ok (.iload_n 1, 1) := by decide +kernel
theorem dX8_part_3 : decode cX8_part 3 = .ok (.istore 4, 2) := by decide +kernel
theorem dX8_part_5 : decode cX8_part 5 = .ok (.iload 4, 2) := by decide +kernel
theorem dX8_part_7 : decode cX8_part 7 = .ok (.ifCond .eq 19, 3) := by decide +kernel
theorem dX8_part_10 : decode cX8_part 10 = .ok (.iload_n 3, 1) := by decide +kernel
theorem dX8_part_11 : decode cX8_part 11 = .ok (.iload 4, 2) := by decide +kernel
theorem dX8_part_13 : decode cX8_part 13 = .ok (.irem, 1) := by decide +kernel
theorem dX8_part_14 : decode cX8_part 14 = .ok (.istore 5, 2) := by decide +kernel
theorem dX8_part_16 : decode cX8_part 16 = .ok (.iload 4, 2) := by decide +kernel
theorem dX8_part_18 : decode cX8_part 18 = .ok (.istore_n 3, 1) := by decide +kernel
theorem dX8_part_19 : decode cX8_part 19 = .ok (.iload 5, 2) := by decide +kernel
theorem dX8_part_21 : decode cX8_part 21 = .ok (.istore 4, 2) := by decide +kernel
theorem dX8_part_23 : decode cX8_part 23 = .ok (.goto (-18), 3) := by decide +kernel
theorem dX8_part_26 : decode cX8_part 26 = .ok (.iload_n 2, 1) := by decide +kernel
theorem dX8_part_27 : decode cX8_part 27 = .ok (.ifCond .ne 9, 3) := by decide +kernel
theorem dX8_part_30 : decode cX8_part 30 = .ok (.iload_n 0, 1) := by decide +kernel
theorem dX8_part_31 : decode cX8_part 31 = .ok (.iload_n 3, 1) := by decide +kernel
theorem dX8_part_32 : decode cX8_part 32 = .ok (.idiv, 1) := by decide +kernel
theorem dX8_part_33 : decode cX8_part 33 = .ok (.goto 6, 3) := by decide +kernel
theorem dX8_part_36 : decode cX8_part 36 = .ok (.iload_n 1, 1) := by decide +kernel
theorem dX8_part_37 : decode cX8_part 37 = .ok (.iload_n 3, 1) := by decide +kernel
theorem dX8_part_38 : decode cX8_part 38 = .ok (.idiv, 1) := by decide +kernel
theorem dX8_part_39 : decode cX8_part 39 = .ok (.ireturn, 1) := by decide +kernel
theorem dX8_mean_0 : decode cX8_mean 0 = .ok (.aload_n 0, 1) := by decide +kernel
theorem dX8_mean_1 : decode cX8_mean 1 = .ok (.iload_n 1, 1) := by decide +kernel
theorem dX8_mean_2 : decode cX8_mean 2 = .ok (.invokevirtual 219, 3) := by decide +kernel
theorem dX8_mean_5 : decode cX8_mean 5 = .ok (.ifCond .eq 22, 3) := by decide +kernel
theorem dX8_mean_8 : decode cX8_mean 8 = .ok (.iload_n 2, 1) := by decide +kernel
theorem dX8_mean_9 : decode cX8_mean 9 = .ok (.iload_n 3, 1) := by decide +kernel
theorem dX8_mean_10 : decode cX8_mean 10 = .ok (.invokestatic 194, 3) := by decide +kernel
theorem dX8_mean_13 : decode cX8_mean 13 = .ok (.ifCond .eq 14, 3) := by decide +kernel
theorem dX8_mean_16 : decode cX8_mean 16 = .ok (.iload 4, 2) := by decide +kernel
theorem dX8_mean_18 : decode cX8_mean 18 = .ok (.i2l, 1) := by decide +kernel
theorem dX8_mean_19 : decode cX8_mean 19 = .ok (.lconst 0, 1) := by decide +kernel
theorem dX8_mean_20 : decode cX8_mean 20 = .ok (.lconst 1, 1) := by decide +kernel
theorem dX8_mean_21 : decode cX8_mean 21 = .ok (.invokestatic 60, 3) := by decide +kernel
theorem dX8_mean_24 : decode cX8_mean 24 = .ok (.ifCond .ne 6, 3) := by decide +kernel
theorem dX8_mean_27 : decode cX8_mean 27 = .ok (.ldc 66, 2) := by decide +kernel
theorem dX8_mean_29 : decode cX8_mean 29 = .ok (.ireturn, 1) := by decide +kernel
theorem dX8_mean_30 : decode cX8_mean 30 = .ok (.aload_n 0, 1) := by decide +kernel
theorem dX8_mean_31 : decode cX8_mean 31 = .ok (.invokevirtual 205, 3) := by decide +kernel
theorem dX8_mean_34 : decode cX8_mean 34 = .ok (.aload_n 0, 1) := by decide +kernel
theorem dX8_mean_35 : decode cX8_mean 35 = .ok (.iload_n 2, 1) := by decide +kernel
theorem dX8_mean_36 : decode cX8_mean 36 = .ok (.iload_n 3, 1) := by decide +kernel
theorem dX8_mean_37 : decode cX8_mean 37 = .ok (.invokevirtual 211, 3) := by decide +kernel
theorem dX8_mean_40 : decode cX8_mean 40 = .ok (.aload_n 0, 1) := by decide +kernel
theorem dX8_mean_41 : decode cX8_mean 41 = .ok (.iload_n 1, 1) := by decide +kernel
theorem dX8_mean_42 : decode cX8_mean 42 = .ok (.invokevirtual 225, 3) := by decide +kernel
theorem dX8_mean_45 : decode cX8_mean 45 = .ok (.aload_n 0, 1) := by decide +kernel
theorem dX8_mean_46 : decode cX8_mean 46 = .ok (.getfield 186, 3) := by decide +kernel
theorem dX8_mean_49 : decode cX8_mean 49 = .ok (.iload 4, 2) := by decide +kernel
theorem dX8_mean_51 : decode cX8_mean 51 = .ok (.invokestatic 228, 3) := by decide +kernel
theorem dX8_mean_54 : decode cX8_mean 54 = .ok (.ireturn, 1) := by decide +kernel
theorem dX8_some_0 : decode cX8_some 0 = .ok (.aload_n 0, 1) := by decide +kernel
theorem dX8_some_1 : decode cX8_some 1 = .ok (.iload_n 1, 1) := by decide +kernel
theorem dX8_some_2 : decode cX8_some 2 = .ok (.invokevirtual 219, 3) := by decide +kernel
theorem dX8_some_5 : decode cX8_some 5 = .ok (.ifCond .eq 35, 3) := by decide +kernel
theorem dX8_some_8 : decode cX8_some 8 = .ok (.iload_n 2, 1) := by decide +kernel
theorem dX8_some_9 : decode cX8_some 9 = .ok (.iload_n 3, 1) := by decide +kernel
theorem dX8_some_10 : decode cX8_some 10 = .ok (.invokestatic 194, 3) := by decide +kernel
theorem dX8_some_13 : decode cX8_some 13 = .ok (.ifCond .eq 27, 3) := by decide +kernel
theorem dX8_some_16 : decode cX8_some 16 = .ok (.iload 4, 2) := by decide +kernel
theorem dX8_some_18 : decode cX8_some 18 = .ok (.i2l, 1) := by decide +kernel
theorem dX8_some_19 : decode cX8_some 19 = .ok (.lconst 0, 1) := by decide +kernel
theorem dX8_some_20 : decode cX8_some 20 = .ok (.ldc2_w 232, 3) := by decide +kernel
theorem dX8_some_23 : decode cX8_some 23 = .ok (.invokestatic 60, 3) := by decide +kernel
theorem dX8_some_26 : decode cX8_some 26 = .ok (.ifCond .eq 14, 3) := by decide +kernel
theorem dX8_some_29 : decode cX8_some 29 = .ok (.iload 5, 2) := by decide +kernel
theorem dX8_some_31 : decode cX8_some 31 = .ok (.i2l, 1) := by decide +kernel
theorem dX8_some_32 : decode cX8_some 32 = .ok (.lconst 0, 1) := by decide +kernel
theorem dX8_some_33 : decode cX8_some 33 = .ok (.lconst 1, 1) := by decide +kernel
theorem dX8_some_34 : decode cX8_some 34 = .ok (.invokestatic 60, 3) := by decide +kernel
theorem dX8_some_37 : decode cX8_some 37 = .ok (.ifCond .ne 6, 3) := by decide +kernel
theorem dX8_some_40 : decode cX8_some 40 = .ok (.ldc 66, 2) := by decide +kernel
theorem dX8_some_42 : decode cX8_some 42 = .ok (.ireturn, 1) := by decide +kernel
theorem dX8_some_43 : decode cX8_some 43 = .ok (.aload_n 0, 1) := by decide +kernel
theorem dX8_some_44 : decode cX8_some 44 = .ok (.invokevirtual 205, 3) := by decide +kernel
theorem dX8_some_47 : decode cX8_some 47 = .ok (.aload_n 0, 1) := by decide +kernel
theorem dX8_some_48 : decode cX8_some 48 = .ok (.iload_n 2, 1) := by decide +kernel
theorem dX8_some_49 : decode cX8_some 49 = .ok (.iload_n 3, 1) := by decide +kernel
theorem dX8_some_50 : decode cX8_some 50 = .ok (.invokevirtual 211, 3) := by decide +kernel
theorem dX8_some_53 : decode cX8_some 53 = .ok (.iconst 1, 1) := by decide +kernel
theorem dX8_some_54 : decode cX8_some 54 = .ok (.istore 6, 2) := by decide +kernel
theorem dX8_some_56 : decode cX8_some 56 = .ok (.iconst 1, 1) := by decide +kernel
theorem dX8_some_57 : decode cX8_some 57 = .ok (.istore 7, 2) := by decide +kernel
theorem dX8_some_59 : decode cX8_some 59 = .ok (.iconst 0, 1) := by decide +kernel
theorem dX8_some_60 : decode cX8_some 60 = .ok (.istore 8, 2) := by decide +kernel
theorem dX8_some_62 : decode cX8_some 62 = .ok (.iload 8, 2) := by decide +kernel
theorem dX8_some_64 : decode cX8_some 64 = .ok (.iload 4, 2) := by decide +kernel
theorem dX8_some_66 : decode cX8_some 66 = .ok (.if_icmp .ge 33, 3) := by decide +kernel
theorem dX8_some_69 : decode cX8_some 69 = .ok (.iload 6, 2) := by decide +kernel
theorem dX8_some_71 : decode cX8_some 71 = .ok (.aload_n 0, 1) := by decide +kernel
theorem dX8_some_72 : decode cX8_some 72 = .ok (.getfield 186, 3) := by decide +kernel
theorem dX8_some_75 : decode cX8_some 75 = .ok (.aload_n 0, 1) := by decide +kernel
theorem dX8_some_76 : decode cX8_some 76 = .ok (.iload_n 1, 1) := by decide +kernel
theorem dX8_some_77 : decode cX8_some 77 = .ok (.invokevirtual 225, 3) := by decide +kernel
theorem dX8_some_80 : decode cX8_some 80 = .ok (.isub, 1) := by decide +kernel
theorem dX8_some_81 : decode cX8_some 81 = .ok (.imul, 1) := by decide +kernel
theorem dX8_some_82 : decode cX8_some 82 = .ok (.istore 6, 2) := by decide +kernel
theorem dX8_some_84 : decode cX8_some 84 = .ok (.iload 7, 2) := by decide +kernel
theorem dX8_some_86 : decode cX8_some 86 = .ok (.aload_n 0, 1) := by decide +kernel
theorem dX8_some_87 : decode cX8_some 87 = .ok (.getfield 186, 3) := by decide +kernel
theorem dX8_some_90 : decode cX8_some 90 = .ok (.imul, 1) := by decide +kernel
theorem dX8_some_91 : decode cX8_some 91 = .ok (.istore 7, 2) := by decide +kernel
theorem dX8_some_93 : decode cX8_some 93 = .ok (.iinc 8 1, 3) := by decide +kernel
theorem dX8_some_96 : decode cX8_some 96 = .ok (.goto (-34), 3) := by decide +kernel
theorem dX8_some_99 : decode cX8_some 99 = .ok (.iload 7, 2) := by decide +kernel
theorem dX8_some_101 : decode cX8_some 101 = .ok (.iload 6, 2) := by decide +kernel
theorem dX8_some_103 : decode cX8_some 103 = .ok (.isub, 1) := by decide +kernel
theorem dX8_some_104 : decode cX8_some 104 = .ok (.iload 7, 2) := by decide +kernel
theorem dX8_some_106 : decode cX8_some 106 = .ok (.iload 5, 2) := by decide +kernel
theorem dX8_some_108 : decode cX8_some 108 = .ok (.invokestatic 228, 3) := by decide +kernel
theorem dX8_some_111 : decode cX8_some 111 = .ok (.ireturn, 1) := by decide +kernel
theorem dX8_standOf_0 : decode cX8_standOf 0 = .ok (.aload_n 0, 1) := by decide +kernel
theorem dX8_standOf_1 : decode cX8_standOf 1 = .ok (.getfield 41, 3) := by decide +kernel
theorem dX8_standOf_4 : decode cX8_standOf 4 = .ok (.iload_n 1, 1) := by decide +kernel
theorem dX8_standOf_5 : decode cX8_standOf 5 = .ok (.iaload, 1) := by decide +kernel
theorem dX8_standOf_6 : decode cX8_standOf 6 = .ok (.istore_n 2, 1) := by decide +kernel
theorem dX8_standOf_7 : decode cX8_standOf 7 = .ok (.iconst 0, 1) := by decide +kernel
theorem dX8_standOf_8 : decode cX8_standOf 8 = .ok (.istore_n 3, 1) := by decide +kernel
theorem dX8_standOf_9 : decode cX8_standOf 9 = .ok (.iconst (-1), 1) := by decide +kernel
theorem dX8_standOf_10 : decode cX8_standOf 10 = .ok (.istore 4, 2) := by decide +kernel
theorem dX8_standOf_12 : decode cX8_standOf 12 = .ok (.iconst 0, 1) := by decide +kernel
theorem dX8_standOf_13 : decode cX8_standOf 13 = .ok (.istore 5, 2) := by decide +kernel
theorem dX8_standOf_15 : decode cX8_standOf 15 = .ok (.iload 5, 2) := by decide +kernel
theorem dX8_standOf_17 : decode cX8_standOf 17 = .ok (.bipush 30, 2) := by decide +kernel
theorem dX8_standOf_19 : decode cX8_standOf 19 = .ok (.if_icmp .ge 54, 3) := by decide +kernel
theorem dX8_standOf_22 : decode cX8_standOf 22 = .ok (.aload_n 0, 1) := by decide +kernel
theorem dX8_standOf_23 : decode cX8_standOf 23 = .ok (.getfield 41, 3) := by decide +kernel
theorem dX8_standOf_26 : decode cX8_standOf 26 = .ok (.iload_n 1, 1) := by decide +kernel
theorem dX8_standOf_27 : decode cX8_standOf 27 = .ok (.iload 5, 2) := by decide +kernel
theorem dX8_standOf_29 : decode cX8_standOf 29 = .ok (.iastore, 1) := by decide +kernel
theorem dX8_standOf_30 : decode cX8_standOf 30 = .ok (.aload_n 0, 1) := by decide +kernel
theorem dX8_standOf_31 : decode cX8_standOf 31 = .ok (.iload_n 1, 1) := by decide +kernel
theorem dX8_standOf_32 : decode cX8_standOf 32 = .ok (.invokevirtual 225, 3) := by decide +kernel
theorem dX8_standOf_35 : decode cX8_standOf 35 = .ok (.istore 6, 2) := by decide +kernel
theorem dX8_standOf_37 : decode cX8_standOf 37 = .ok (.iload 6, 2) := by decide +kernel
theorem dX8_standOf_39 : decode cX8_standOf 39 = .ok (.iload 4, 2) := by decide +kernel
theorem dX8_standOf_41 : decode cX8_standOf 41 = .ok (.if_icmp .le 8, 3) := by decide +kernel
theorem dX8_standOf_44 : decode cX8_standOf 44 = .ok (.iload 5, 2) := by decide +kernel
theorem dX8_standOf_46 : decode cX8_standOf 46 = .ok (.goto 4, 3) := by decide +kernel
theorem dX8_standOf_49 : decode cX8_standOf 49 = .ok (.iload_n 3, 1) := by decide +kernel
theorem dX8_standOf_50 : decode cX8_standOf 50 = .ok (.istore_n 3, 1) := by decide +kernel
theorem dX8_standOf_51 : decode cX8_standOf 51 = .ok (.iload 6, 2) := by decide +kernel
theorem dX8_standOf_53 : decode cX8_standOf 53 = .ok (.iload 4, 2) := by decide +kernel
theorem dX8_standOf_55 : decode cX8_standOf 55 = .ok (.if_icmp .le 8, 3) := by decide +kernel
theorem dX8_standOf_58 : decode cX8_standOf 58 = .ok (.iload 6, 2) := by decide +kernel
theorem dX8_standOf_60 : decode cX8_standOf 60 = .ok (.goto 5, 3) := by decide +kernel
theorem dX8_standOf_63 : decode cX8_standOf 63 = .ok (.iload 4, 2) := by decide +kernel
theorem dX8_standOf_65 : decode cX8_standOf 65 = .ok (.istore 4, 2) := by decide +kernel
theorem dX8_standOf_67 : decode cX8_standOf 67 = .ok (.iinc 5 1, 3) := by decide +kernel
theorem dX8_standOf_70 : decode cX8_standOf 70 = .ok (.goto (-55), 3) := by decide +kernel
theorem dX8_standOf_73 : decode cX8_standOf 73 = .ok (.aload_n 0, 1) := by decide +kernel
theorem dX8_standOf_74 : decode cX8_standOf 74 = .ok (.getfield 41, 3) := by decide +kernel
theorem dX8_standOf_77 : decode cX8_standOf 77 = .ok (.iload_n 1, 1) := by decide +kernel
theorem dX8_standOf_78 : decode cX8_standOf 78 = .ok (.iload_n 2, 1) := by decide +kernel
theorem dX8_standOf_79 : decode cX8_standOf 79 = .ok (.iastore, 1) := by decide +kernel
theorem dX8_standOf_80 : decode cX8_standOf 80 = .ok (.iload_n 3, 1) := by decide +kernel
theorem dX8_standOf_81 : decode cX8_standOf 81 = .ok (.ireturn, 1) := by decide +kernel
theorem dX8_stand_0 : decode cX8_stand 0 = .ok (.aload_n 0, 1) := by decide +kernel
theorem dX8_stand_1 : decode cX8_stand 1 = .ok (.iload_n 1, 1) := by decide +kernel
theorem dX8_stand_2 : decode cX8_stand 2 = .ok (.invokevirtual 219, 3) := by decide +kernel
theorem dX8_stand_5 : decode cX8_stand 5 = .ok (.ifCond .eq 11, 3) := by decide +kernel
theorem dX8_stand_8 : decode cX8_stand 8 = .ok (.iload_n 2, 1) := by decide +kernel
theorem dX8_stand_9 : decode cX8_stand 9 = .ok (.iload_n 3, 1) := by decide +kernel
theorem dX8_stand_10 : decode cX8_stand 10 = .ok (.invokestatic 194, 3) := by decide +kernel
theorem dX8_stand_13 : decode cX8_stand 13 = .ok (.ifCond .ne 6, 3) := by decide +kernel
theorem dX8_stand_16 : decode cX8_stand 16 = .ok (.ldc 66, 2) := by decide +kernel
theorem dX8_stand_18 : decode cX8_stand 18 = .ok (.ireturn, 1) := by decide +kernel
theorem dX8_stand_19 : decode cX8_stand 19 = .ok (.aload_n 0, 1) := by decide +kernel
theorem dX8_stand_20 : decode cX8_stand 20 = .ok (.invokevirtual 205, 3) := by decide +kernel
theorem dX8_stand_23 : decode cX8_stand 23 = .ok (.aload_n 0, 1) := by decide +kernel
theorem dX8_stand_24 : decode cX8_stand 24 = .ok (.iload_n 2, 1) := by decide +kernel
theorem dX8_stand_25 : decode cX8_stand 25 = .ok (.iload_n 3, 1) := by decide +kernel
theorem dX8_stand_26 : decode cX8_stand 26 = .ok (.invokevirtual 211, 3) := by decide +kernel
theorem dX8_stand_29 : decode cX8_stand 29 = .ok (.aload_n 0, 1) := by decide +kernel
theorem dX8_stand_30 : decode cX8_stand 30 = .ok (.iload_n 1, 1) := by decide +kernel
theorem dX8_stand_31 : decode cX8_stand 31 = .ok (.invokevirtual 234, 3) := by decide +kernel
theorem dX8_stand_34 : decode cX8_stand 34 = .ok (.ireturn, 1) := by decide +kernel
theorem dX8_brothers_0 : decode cX8_brothers 0 = .ok (.aload_n 0, 1) := by decide +kernel
theorem dX8_brothers_1 : decode cX8_brothers 1 = .ok (.iload_n 1, 1) := by decide +kernel
theorem dX8_brothers_2 : decode cX8_brothers 2 = .ok (.invokevirtual 219, 3) := by decide +kernel
theorem dX8_brothers_5 : decode cX8_brothers 5 = .ok (.ifCond .eq 36, 3) := by decide +kernel
theorem dX8_brothers_8 : decode cX8_brothers 8 = .ok (.aload_n 0, 1) := by decide +kernel
theorem dX8_brothers_9 : decode cX8_brothers 9 = .ok (.iload_n 2, 1) := by decide +kernel
theorem dX8_brothers_10 : decode cX8_brothers 10 = .ok (.invokevirtual 219, 3) := by decide +kernel
theorem dX8_brothers_13 : decode cX8_brothers 13 = .ok (.ifCond .eq 28, 3) := by decide +kernel
theorem dX8_brothers_16 : decode cX8_brothers 16 = .ok (.iload_n 1, 1) := by decide +kernel
theorem dX8_brothers_17 : decode cX8_brothers 17 = .ok (.iload_n 2, 1) := by decide +kernel
theorem dX8_brothers_18 : decode cX8_brothers 18 = .ok (.if_icmp .eq 23, 3) := by decide +kernel
theorem dX8_brothers_21 : decode cX8_brothers 21 = .ok (.iload_n 3, 1) := by decide +kernel
theorem dX8_brothers_22 : decode cX8_brothers 22 = .ok (.iload 4, 2) := by decide +kernel
theorem dX8_brothers_24 : decode cX8_brothers 24 = .ok (.invokestatic 194, 3) := by decide +kernel
theorem dX8_brothers_27 : decode cX8_brothers 27 = .ok (.ifCond .eq 14, 3) := by decide +kernel
theorem dX8_brothers_30 : decode cX8_brothers 30 = .ok (.iload 5, 2) := by decide +kernel
theorem dX8_brothers_32 : decode cX8_brothers 32 = .ok (.i2l, 1) := by decide +kernel
theorem dX8_brothers_33 : decode cX8_brothers 33 = .ok (.lconst 0, 1) := by decide +kernel
theorem dX8_brothers_34 : decode cX8_brothers 34 = .ok (.lconst 1, 1) := by decide +kernel
theorem dX8_brothers_35 : decode cX8_brothers 35 = .ok (.invokestatic 60, 3) := by decide +kernel
theorem dX8_brothers_38 : decode cX8_brothers 38 = .ok (.ifCond .ne 6, 3) := by decide +kernel
theorem dX8_brothers_41 : decode cX8_brothers 41 = .ok (.ldc 66, 2) := by decide +kernel
theorem dX8_brothers_43 : decode cX8_brothers 43 = .ok (.ireturn, 1) := by decide +kernel
theorem dX8_brothers_44 : decode cX8_brothers 44 = .ok (.aload_n 0, 1) := by decide +kernel
theorem dX8_brothers_45 : decode cX8_brothers 45 = .ok (.invokevirtual 205, 3) := by decide +kernel
theorem dX8_brothers_48 : decode cX8_brothers 48 = .ok (.aload_n 0, 1) := by decide +kernel
theorem dX8_brothers_49 : decode cX8_brothers 49 = .ok (.iload_n 3, 1) := by decide +kernel
theorem dX8_brothers_50 : decode cX8_brothers 50 = .ok (.iload 4, 2) := by decide +kernel
theorem dX8_brothers_52 : decode cX8_brothers 52 = .ok (.invokevirtual 211, 3) := by decide +kernel
theorem dX8_brothers_55 : decode cX8_brothers 55 = .ok (.iconst 0, 1) := by decide +kernel
theorem dX8_brothers_56 : decode cX8_brothers 56 = .ok (.istore 6, 2) := by decide +kernel
theorem dX8_brothers_58 : decode cX8_brothers 58 = .ok (.iconst (-1), 1) := by decide +kernel
theorem dX8_brothers_59 : decode cX8_brothers 59 = .ok (.istore 7, 2) := by decide +kernel
theorem dX8_brothers_61 : decode cX8_brothers 61 = .ok (.iconst 0, 1) := by decide +kernel
theorem dX8_brothers_62 : decode cX8_brothers 62 = .ok (.istore 8, 2) := by decide +kernel
theorem dX8_brothers_64 : decode cX8_brothers 64 = .ok (.iload 8, 2) := by decide +kernel
theorem dX8_brothers_66 : decode cX8_brothers 66 = .ok (.sipush 900, 3) := by decide +kernel
theorem dX8_brothers_69 : decode cX8_brothers 69 = .ok (.if_icmp .ge 76, 3) := by decide +kernel
theorem dX8_brothers_72 : decode cX8_brothers 72 = .ok (.aload_n 0, 1) := by decide +kernel
theorem dX8_brothers_73 : decode cX8_brothers 73 = .ok (.getfield 41, 3) := by decide +kernel
theorem dX8_brothers_76 : decode cX8_brothers 76 = .ok (.iload_n 1, 1) := by decide +kernel
theorem dX8_brothers_77 : decode cX8_brothers 77 = .ok (.iload 8, 2) := by decide +kernel
theorem dX8_brothers_79 : decode cX8_brothers 79 = .ok (.bipush 30, 2) := by decide +kernel
theorem dX8_brothers_81 : decode cX8_brothers 81 = .ok (.idiv, 1) := by decide +kernel
theorem dX8_brothers_82 : decode cX8_brothers 82 = .ok (.iastore, 1) := by decide +kernel
theorem dX8_brothers_83 : decode cX8_brothers 83 = .ok (.aload_n 0, 1) := by decide +kernel
theorem dX8_brothers_84 : decode cX8_brothers 84 = .ok (.getfield 41, 3) := by decide +kernel
theorem dX8_brothers_87 : decode cX8_brothers 87 = .ok (.iload_n 2, 1) := by decide +kernel
theorem dX8_brothers_88 : decode cX8_brothers 88 = .ok (.iload 8, 2) := by decide +kernel
theorem dX8_brothers_90 : decode cX8_brothers 90 = .ok (.bipush 30, 2) := by decide +kernel
theorem dX8_brothers_92 : decode cX8_brothers 92 = .ok (.irem, 1) := by decide +kernel
theorem dX8_brothers_93 : decode cX8_brothers 93 = .ok (.iastore, 1) := by decide +kernel
theorem dX8_brothers_94 : decode cX8_brothers 94 = .ok (.aload_n 0, 1) := by decide +kernel
theorem dX8_brothers_95 : decode cX8_brothers 95 = .ok (.iload_n 1, 1) := by decide +kernel
theorem dX8_brothers_96 : decode cX8_brothers 96 = .ok (.invokevirtual 225, 3) := by decide +kernel
theorem dX8_brothers_99 : decode cX8_brothers 99 = .ok (.aload_n 0, 1) := by decide +kernel
theorem dX8_brothers_100 : decode cX8_brothers 100 = .ok (.iload_n 2, 1) := by decide +kernel
theorem dX8_brothers_101 : decode cX8_brothers 101 = .ok (.invokevirtual 225, 3) := by decide +kernel
theorem dX8_brothers_104 : decode cX8_brothers 104 = .ok (.iadd, 1) := by decide +kernel
theorem dX8_brothers_105 : decode cX8_brothers 105 = .ok (.istore 9, 2) := by decide +kernel
theorem dX8_brothers_107 : decode cX8_brothers 107 = .ok (.iload 9, 2) := by decide +kernel
theorem dX8_brothers_109 : decode cX8_brothers 109 = .ok (.iload 7, 2) := by decide +kernel
theorem dX8_brothers_111 : decode cX8_brothers 111 = .ok (.if_icmp .le 8, 3) := by decide +kernel
theorem dX8_brothers_114 : decode cX8_brothers 114 = .ok (.iload 8, 2) := by decide +kernel
theorem dX8_brothers_116 : decode cX8_brothers 116 = .ok (.goto 5, 3) := by decide +kernel
theorem dX8_brothers_119 : decode cX8_brothers 119 = .ok (.iload 6, 2) := by decide +kernel
theorem dX8_brothers_121 : decode cX8_brothers 121 = .ok (.istore 6, 2) := by decide +kernel
theorem dX8_brothers_123 : decode cX8_brothers 123 = .ok (.iload 9, 2) := by decide +kernel
theorem dX8_brothers_125 : decode cX8_brothers 125 = .ok (.iload 7, 2) := by decide +kernel
theorem dX8_brothers_127 : decode cX8_brothers 127 = .ok (.if_icmp .le 8, 3) := by decide +kernel
theorem dX8_brothers_130 : decode cX8_brothers 130 = .ok (.iload 9, 2) := by decide +kernel
theorem dX8_brothers_132 : decode cX8_brothers 132 = .ok (.goto 5, 3) := by decide +kernel
theorem dX8_brothers_135 : decode cX8_brothers 135 = .ok (.iload 7, 2) := by decide +kernel
theorem dX8_brothers_137 : decode cX8_brothers 137 = .ok (.istore 7, 2) := by decide +kernel
theorem dX8_brothers_139 : decode cX8_brothers 139 = .ok (.iinc 8 1, 3) := by decide +kernel
theorem dX8_brothers_142 : decode cX8_brothers 142 = .ok (.goto (-78), 3) := by decide +kernel
theorem dX8_brothers_145 : decode cX8_brothers 145 = .ok (.iload 5, 2) := by decide +kernel
theorem dX8_brothers_147 : decode cX8_brothers 147 = .ok (.ifCond .ne 11, 3) := by decide +kernel
theorem dX8_brothers_150 : decode cX8_brothers 150 = .ok (.iload 6, 2) := by decide +kernel
theorem dX8_brothers_152 : decode cX8_brothers 152 = .ok (.bipush 30, 2) := by decide +kernel
theorem dX8_brothers_154 : decode cX8_brothers 154 = .ok (.idiv, 1) := by decide +kernel
theorem dX8_brothers_155 : decode cX8_brothers 155 = .ok (.goto 8, 3) := by decide +kernel
theorem dX8_brothers_158 : decode cX8_brothers 158 = .ok (.iload 6, 2) := by decide +kernel
theorem dX8_brothers_160 : decode cX8_brothers 160 = .ok (.bipush 30, 2) := by decide +kernel
theorem dX8_brothers_162 : decode cX8_brothers 162 = .ok (.irem, 1) := by decide +kernel
theorem dX8_brothers_163 : decode cX8_brothers 163 = .ok (.ireturn, 1) := by decide +kernel
theorem dX8_settles_0 : decode cX8_settles 0 = .ok (.iconst 1, 1) := by decide +kernel
theorem dX8_settles_1 : decode cX8_settles 1 = .ok (.istore_n 1, 1) := by decide +kernel
theorem dX8_settles_2 : decode cX8_settles 2 = .ok (.iload_n 1, 1) := by decide +kernel
theorem dX8_settles_3 : decode cX8_settles 3 = .ok (.bipush 20, 2) := by decide +kernel
theorem dX8_settles_5 : decode cX8_settles 5 = .ok (.if_icmp .gt 71, 3) := by decide +kernel
theorem dX8_settles_8 : decode cX8_settles 8 = .ok (.iconst 0, 1) := by decide +kernel
theorem dX8_settles_9 : decode cX8_settles 9 = .ok (.istore_n 2, 1) := by decide +kernel
theorem dX8_settles_10 : decode cX8_settles 10 = .ok (.iconst 0, 1) := by decide +kernel
theorem dX8_settles_11 : decode cX8_settles 11 = .ok (.istore_n 3, 1) := by decide +kernel
theorem dX8_settles_12 : decode cX8_settles 12 = .ok (.iload_n 3, 1) := by decide +kernel
theorem dX8_settles_13 : decode cX8_settles 13 = .ok (.aload_n 0, 1) := by decide +kernel
theorem dX8_settles_14 : decode cX8_settles 14 = .ok (.getfield 22, 3) := by decide +kernel
theorem dX8_settles_17 : decode cX8_settles 17 = .ok (.iconst 3, 1) := by decide +kernel
theorem dX8_settles_18 : decode cX8_settles 18 = .ok (.iaload, 1) := by decide +kernel
theorem dX8_settles_19 : decode cX8_settles 19 = .ok (.if_icmp .ge 45, 3) := by decide +kernel
theorem dX8_settles_22 : decode cX8_settles 22 = .ok (.aload_n 0, 1) := by decide +kernel
theorem dX8_settles_23 : decode cX8_settles 23 = .ok (.iload_n 3, 1) := by decide +kernel
theorem dX8_settles_24 : decode cX8_settles 24 = .ok (.invokevirtual 234, 3) := by decide +kernel
theorem dX8_settles_27 : decode cX8_settles 27 = .ok (.istore 4, 2) := by decide +kernel
theorem dX8_settles_29 : decode cX8_settles 29 = .ok (.iload_n 2, 1) := by decide +kernel
theorem dX8_settles_30 : decode cX8_settles 30 = .ok (.ifCond .ne 14, 3) := by decide +kernel
theorem dX8_settles_33 : decode cX8_settles 33 = .ok (.iload 4, 2) := by decide +kernel
theorem dX8_settles_35 : decode cX8_settles 35 = .ok (.aload_n 0, 1) := by decide +kernel
theorem dX8_settles_36 : decode cX8_settles 36 = .ok (.getfield 41, 3) := by decide +kernel
theorem dX8_settles_39 : decode cX8_settles 39 = .ok (.iload_n 3, 1) := by decide +kernel
theorem dX8_settles_40 : decode cX8_settles 40 = .ok (.iaload, 1) := by decide +kernel
theorem dX8_settles_41 : decode cX8_settles 41 = .ok (.if_icmp .eq 7, 3) := by decide +kernel
theorem dX8_settles_44 : decode cX8_settles 44 = .ok (.iconst 1, 1) := by decide +kernel
theorem dX8_settles_45 : decode cX8_settles 45 = .ok (.goto 4, 3) := by decide +kernel
theorem dX8_settles_48 : decode cX8_settles 48 = .ok (.iconst 0, 1) := by decide +kernel
theorem dX8_settles_49 : decode cX8_settles 49 = .ok (.istore_n 2, 1) := by decide +kernel
theorem dX8_settles_50 : decode cX8_settles 50 = .ok (.aload_n 0, 1) := by decide +kernel
theorem dX8_settles_51 : decode cX8_settles 51 = .ok (.getfield 41, 3) := by decide +kernel
theorem dX8_settles_54 : decode cX8_settles 54 = .ok (.iload_n 3, 1) := by decide +kernel
theorem dX8_settles_55 : decode cX8_settles 55 = .ok (.iload 4, 2) := by decide +kernel
theorem dX8_settles_57 : decode cX8_settles 57 = .ok (.iastore, 1) := by decide +kernel
theorem dX8_settles_58 : decode cX8_settles 58 = .ok (.iinc 3 1, 3) := by decide +kernel
theorem dX8_settles_61 : decode cX8_settles 61 = .ok (.goto (-49), 3) := by decide +kernel
theorem dX8_settles_64 : decode cX8_settles 64 = .ok (.iload_n 2, 1) := by decide +kernel
theorem dX8_settles_65 : decode cX8_settles 65 = .ok (.ifCond .ne 5, 3) := by decide +kernel
theorem dX8_settles_68 : decode cX8_settles 68 = .ok (.iload_n 1, 1) := by decide +kernel
theorem dX8_settles_69 : decode cX8_settles 69 = .ok (.ireturn, 1) := by decide +kernel
theorem dX8_settles_70 : decode cX8_settles 70 = .ok (.iinc 1 1, 3) := by decide +kernel
theorem dX8_settles_73 : decode cX8_settles 73 = .ok (.goto (-71), 3) := by decide +kernel
theorem dX8_settles_76 : decode cX8_settles 76 = .ok (.ldc 179, 2) := by decide +kernel
theorem dX8_settles_78 : decode cX8_settles 78 = .ok (.ireturn, 1) := by decide +kernel
theorem dX8_rounds_0 : decode cX8_rounds 0 = .ok (.aload_n 0, 1) := by decide +kernel
theorem dX8_rounds_1 : decode cX8_rounds 1 = .ok (.getfield 22, 3) := by decide +kernel
theorem dX8_rounds_4 : decode cX8_rounds 4 = .ok (.iconst 0, 1) := by decide +kernel
theorem dX8_rounds_5 : decode cX8_rounds 5 = .ok (.iaload, 1) := by decide +kernel
theorem dX8_rounds_6 : decode cX8_rounds 6 = .ok (.ifCond .ne 6, 3) := by decide +kernel
theorem dX8_rounds_9 : decode cX8_rounds 9 = .ok (.ldc 193, 2) := by decide +kernel
theorem dX8_rounds_11 : decode cX8_rounds 11 = .ok (.ireturn, 1) := by decide +kernel
theorem dX8_rounds_12 : decode cX8_rounds 12 = .ok (.iload_n 1, 1) := by decide +kernel
theorem dX8_rounds_13 : decode cX8_rounds 13 = .ok (.iload_n 2, 1) := by decide +kernel
theorem dX8_rounds_14 : decode cX8_rounds 14 = .ok (.invokestatic 194, 3) := by decide +kernel
theorem dX8_rounds_17 : decode cX8_rounds 17 = .ok (.ifCond .eq 23, 3) := by decide +kernel
theorem dX8_rounds_20 : decode cX8_rounds 20 = .ok (.iload_n 3, 1) := by decide +kernel
theorem dX8_rounds_21 : decode cX8_rounds 21 = .ok (.i2l, 1) := by decide +kernel
theorem dX8_rounds_22 : decode cX8_rounds 22 = .ok (.ldc2_w 237, 3) := by decide +kernel
theorem dX8_rounds_25 : decode cX8_rounds 25 = .ok (.aload_n 0, 1) := by decide +kernel
theorem dX8_rounds_26 : decode cX8_rounds 26 = .ok (.getfield 22, 3) := by decide +kernel
theorem dX8_rounds_29 : decode cX8_rounds 29 = .ok (.iconst 3, 1) := by decide +kernel
theorem dX8_rounds_30 : decode cX8_rounds 30 = .ok (.iaload, 1) := by decide +kernel
theorem dX8_rounds_31 : decode cX8_rounds 31 = .ok (.iconst 1, 1) := by decide +kernel
theorem dX8_rounds_32 : decode cX8_rounds 32 = .ok (.isub, 1) := by decide +kernel
theorem dX8_rounds_33 : decode cX8_rounds 33 = .ok (.i2l, 1) := by decide +kernel
theorem dX8_rounds_34 : decode cX8_rounds 34 = .ok (.invokestatic 60, 3) := by decide +kernel
theorem dX8_rounds_37 : decode cX8_rounds 37 = .ok (.ifCond .ne 6, 3) := by decide +kernel
theorem dX8_rounds_40 : decode cX8_rounds 40 = .ok (.ldc 66, 2) := by decide +kernel
theorem dX8_rounds_42 : decode cX8_rounds 42 = .ok (.ireturn, 1) := by decide +kernel
theorem dX8_rounds_43 : decode cX8_rounds 43 = .ok (.aload_n 0, 1) := by decide +kernel
theorem dX8_rounds_44 : decode cX8_rounds 44 = .ok (.invokevirtual 205, 3) := by decide +kernel
theorem dX8_rounds_47 : decode cX8_rounds 47 = .ok (.aload_n 0, 1) := by decide +kernel
theorem dX8_rounds_48 : decode cX8_rounds 48 = .ok (.iload_n 1, 1) := by decide +kernel
theorem dX8_rounds_49 : decode cX8_rounds 49 = .ok (.iload_n 2, 1) := by decide +kernel
theorem dX8_rounds_50 : decode cX8_rounds 50 = .ok (.invokevirtual 211, 3) := by decide +kernel
theorem dX8_rounds_53 : decode cX8_rounds 53 = .ok (.aload_n 0, 1) := by decide +kernel
theorem dX8_rounds_54 : decode cX8_rounds 54 = .ok (.invokevirtual 239, 3) := by decide +kernel
theorem dX8_rounds_57 : decode cX8_rounds 57 = .ok (.istore 4, 2) := by decide +kernel
theorem dX8_rounds_59 : decode cX8_rounds 59 = .ok (.iload_n 3, 1) := by decide +kernel
theorem dX8_rounds_60 : decode cX8_rounds 60 = .ok (.iconst (-1), 1) := by decide +kernel
theorem dX8_rounds_61 : decode cX8_rounds 61 = .ok (.if_icmp .eq 10, 3) := by decide +kernel
theorem dX8_rounds_64 : decode cX8_rounds 64 = .ok (.iload 4, 2) := by decide +kernel
theorem dX8_rounds_66 : decode cX8_rounds 66 = .ok (.ldc 179, 2) := by decide +kernel
theorem dX8_rounds_68 : decode cX8_rounds 68 = .ok (.if_icmp .ne 8, 3) := by decide +kernel
theorem dX8_rounds_71 : decode cX8_rounds 71 = .ok (.iload 4, 2) := by decide +kernel
theorem dX8_rounds_73 : decode cX8_rounds 73 = .ok (.goto 9, 3) := by decide +kernel
theorem dX8_rounds_76 : decode cX8_rounds 76 = .ok (.aload_n 0, 1) := by decide +kernel
theorem dX8_rounds_77 : decode cX8_rounds 77 = .ok (.getfield 41, 3) := by decide +kernel
theorem dX8_rounds_80 : decode cX8_rounds 80 = .ok (.iload_n 3, 1) := by decide +kernel
theorem dX8_rounds_81 : decode cX8_rounds 81 = .ok (.iaload, 1) := by decide +kernel
theorem dX8_rounds_82 : decode cX8_rounds 82 = .ok (.ireturn, 1) := by decide +kernel
theorem dX8_served_0 : decode cX8_served 0 = .ok (.aload_n 0, 1) := by decide +kernel
theorem dX8_served_1 : decode cX8_served 1 = .ok (.iload_n 1, 1) := by decide +kernel
theorem dX8_served_2 : decode cX8_served 2 = .ok (.iload_n 2, 1) := by decide +kernel
theorem dX8_served_3 : decode cX8_served 3 = .ok (.invokevirtual 211, 3) := by decide +kernel
theorem dX8_served_6 : decode cX8_served 6 = .ok (.iconst 0, 1) := by decide +kernel
theorem dX8_served_7 : decode cX8_served 7 = .ok (.istore_n 3, 1) := by decide +kernel
theorem dX8_served_8 : decode cX8_served 8 = .ok (.iconst 0, 1) := by decide +kernel
theorem dX8_served_9 : decode cX8_served 9 = .ok (.istore 4, 2) := by decide +kernel
theorem dX8_served_11 : decode cX8_served 11 = .ok (.iload 4, 2) := by decide +kernel
theorem dX8_served_13 : decode cX8_served 13 = .ok (.aload_n 0, 1) := by decide +kernel
theorem dX8_served_14 : decode cX8_served 14 = .ok (.getfield 186, 3) := by decide +kernel
theorem dX8_served_17 : decode cX8_served 17 = .ok (.if_icmp .ge 58, 3) := by decide +kernel
theorem dX8_served_20 : decode cX8_served 20 = .ok (.aload_n 0, 1) := by decide +kernel
theorem dX8_served_21 : decode cX8_served 21 = .ok (.getfield 47, 3) := by decide +kernel
theorem dX8_served_24 : decode cX8_served 24 = .ok (.iload 4, 2) := by decide +kernel
theorem dX8_served_26 : decode cX8_served 26 = .ok (.iaload, 1) := by decide +kernel
theorem dX8_served_27 : decode cX8_served 27 = .ok (.ldc 179, 2) := by decide +kernel
theorem dX8_served_29 : decode cX8_served 29 = .ok (.if_icmp .ne 8, 3) := by decide +kernel
theorem dX8_served_32 : decode cX8_served 32 = .ok (.ldc 179, 2) := by decide +kernel
theorem dX8_served_34 : decode cX8_served 34 = .ok (.goto 15, 3) := by decide +kernel
theorem dX8_served_37 : decode cX8_served 37 = .ok (.aload_n 0, 1) := by decide +kernel
theorem dX8_served_38 : decode cX8_served 38 = .ok (.getfield 44, 3) := by decide +kernel
theorem dX8_served_41 : decode cX8_served 41 = .ok (.aload_n 0, 1) := by decide +kernel
theorem dX8_served_42 : decode cX8_served 42 = .ok (.getfield 47, 3) := by decide +kernel
theorem dX8_served_45 : decode cX8_served 45 = .ok (.iload 4, 2) := by decide +kernel
theorem dX8_served_47 : decode cX8_served 47 = .ok (.iaload, 1) := by decide +kernel
theorem dX8_served_48 : decode cX8_served 48 = .ok (.iaload, 1) := by decide +kernel
theorem dX8_served_49 : decode cX8_served 49 = .ok (.istore 5, 2) := by decide +kernel
theorem dX8_served_51 : decode cX8_served 51 = .ok (.iload_n 3, 1) := by decide +kernel
theorem dX8_served_52 : decode cX8_served 52 = .ok (.iload 5, 2) := by decide +kernel
theorem dX8_served_54 : decode cX8_served 54 = .ok (.ldc 179, 2) := by decide +kernel
theorem dX8_served_56 : decode cX8_served 56 = .ok (.if_icmp .ne 7, 3) := by decide +kernel
theorem dX8_served_59 : decode cX8_served 59 = .ok (.iconst 0, 1) := by decide +kernel
theorem dX8_served_60 : decode cX8_served 60 = .ok (.goto 7, 3) := by decide +kernel
theorem dX8_served_63 : decode cX8_served 63 = .ok (.iconst 1, 1) := by decide +kernel
theorem dX8_served_64 : decode cX8_served 64 = .ok (.iload 5, 2) := by decide +kernel
theorem dX8_served_66 : decode cX8_served 66 = .ok (.ishl, 1) := by decide +kernel
theorem dX8_served_67 : decode cX8_served 67 = .ok (.ior, 1) := by decide +kernel
theorem dX8_served_68 : decode cX8_served 68 = .ok (.istore_n 3, 1) := by decide +kernel
theorem dX8_served_69 : decode cX8_served 69 = .ok (.iinc 4 1, 3) := by decide +kernel
theorem dX8_served_72 : decode cX8_served 72 = .ok (.goto (-61), 3) := by decide +kernel
theorem dX8_served_75 : decode cX8_served 75 = .ok (.iload_n 3, 1) := by decide +kernel
theorem dX8_served_76 : decode cX8_served 76 = .ok (.ireturn, 1) := by decide +kernel
theorem dX8_ones_0 : decode cX8_ones 0 = .ok (.iconst 0, 1) := by decide +kernel
theorem dX8_ones_1 : decode cX8_ones 1 = .ok (.istore_n 1, 1) := by decide +kernel
theorem dX8_ones_2 : decode cX8_ones 2 = .ok (.iconst 0, 1) := by decide +kernel
theorem dX8_ones_3 : decode cX8_ones 3 = .ok (.istore_n 2, 1) := by decide +kernel
theorem dX8_ones_4 : decode cX8_ones 4 = .ok (.iload_n 2, 1) := by decide +kernel
theorem dX8_ones_5 : decode cX8_ones 5 = .ok (.iconst 5, 1) := by decide +kernel
theorem dX8_ones_6 : decode cX8_ones 6 = .ok (.if_icmp .ge 17, 3) := by decide +kernel
theorem dX8_ones_9 : decode cX8_ones 9 = .ok (.iload_n 1, 1) := by decide +kernel
theorem dX8_ones_10 : decode cX8_ones 10 = .ok (.iload_n 0, 1) := by decide +kernel
theorem dX8_ones_11 : decode cX8_ones 11 = .ok (.iload_n 2, 1) := by decide +kernel
theorem dX8_ones_12 : decode cX8_ones 12 = .ok (.ishr, 1) := by decide +kernel
theorem dX8_ones_13 : decode cX8_ones 13 = .ok (.iconst 1, 1) := by decide +kernel
theorem dX8_ones_14 : decode cX8_ones 14 = .ok (.iand, 1) := by decide +kernel
theorem dX8_ones_15 : decode cX8_ones 15 = .ok (.iadd, 1) := by decide +kernel
theorem dX8_ones_16 : decode cX8_ones 16 = .ok (.istore_n 1, 1) := by decide +kernel
theorem dX8_ones_17 : decode cX8_ones 17 = .ok (.iinc 2 1, 3) := by decide +kernel
theorem dX8_ones_20 : decode cX8_ones 20 = .ok (.goto (-16), 3) := by decide +kernel
theorem dX8_ones_23 : decode cX8_ones 23 = .ok (.iload_n 1, 1) := by decide +kernel
theorem dX8_ones_24 : decode cX8_ones 24 = .ok (.ireturn, 1) := by decide +kernel
theorem dX8_aim_0 : decode cX8_aim 0 = .ok (.aload_n 0, 1) := by decide +kernel
theorem dX8_aim_1 : decode cX8_aim 1 = .ok (.getfield 22, 3) := by decide +kernel
theorem dX8_aim_4 : decode cX8_aim 4 = .ok (.iconst 0, 1) := by decide +kernel
theorem dX8_aim_5 : decode cX8_aim 5 = .ok (.iaload, 1) := by decide +kernel
theorem dX8_aim_6 : decode cX8_aim 6 = .ok (.ifCond .ne 6, 3) := by decide +kernel
theorem dX8_aim_9 : decode cX8_aim 9 = .ok (.ldc 193, 2) := by decide +kernel
theorem dX8_aim_11 : decode cX8_aim 11 = .ok (.ireturn, 1) := by decide +kernel
theorem dX8_aim_12 : decode cX8_aim 12 = .ok (.iload_n 1, 1) := by decide +kernel
theorem dX8_aim_13 : decode cX8_aim 13 = .ok (.i2l, 1) := by decide +kernel
theorem dX8_aim_14 : decode cX8_aim 14 = .ok (.lconst 0, 1) := by decide +kernel
theorem dX8_aim_15 : decode cX8_aim 15 = .ok (.ldc2_w 64, 3) := by decide +kernel
theorem dX8_aim_18 : decode cX8_aim 18 = .ok (.invokestatic 60, 3) := by decide +kernel
theorem dX8_aim_21 : decode cX8_aim 21 = .ok (.ifCond .eq 13, 3) := by decide +kernel
theorem dX8_aim_24 : decode cX8_aim 24 = .ok (.iload_n 2, 1) := by decide +kernel
theorem dX8_aim_25 : decode cX8_aim 25 = .ok (.i2l, 1) := by decide +kernel
theorem dX8_aim_26 : decode cX8_aim 26 = .ok (.lconst 0, 1) := by decide +kernel
theorem dX8_aim_27 : decode cX8_aim 27 = .ok (.lconst 1, 1) := by decide +kernel
theorem dX8_aim_28 : decode cX8_aim 28 = .ok (.invokestatic 60, 3) := by decide +kernel
theorem dX8_aim_31 : decode cX8_aim 31 = .ok (.ifCond .ne 6, 3) := by decide +kernel
theorem dX8_aim_34 : decode cX8_aim 34 = .ok (.ldc 66, 2) := by decide +kernel
theorem dX8_aim_36 : decode cX8_aim 36 = .ok (.ireturn, 1) := by decide +kernel
theorem dX8_aim_37 : decode cX8_aim 37 = .ok (.aload_n 0, 1) := by decide +kernel
theorem dX8_aim_38 : decode cX8_aim 38 = .ok (.invokevirtual 205, 3) := by decide +kernel
theorem dX8_aim_41 : decode cX8_aim 41 = .ok (.aload_n 0, 1) := by decide +kernel
theorem dX8_aim_42 : decode cX8_aim 42 = .ok (.invokevirtual 208, 3) := by decide +kernel
theorem dX8_aim_45 : decode cX8_aim 45 = .ok (.iconst 0, 1) := by decide +kernel
theorem dX8_aim_46 : decode cX8_aim 46 = .ok (.istore_n 3, 1) := by decide +kernel
theorem dX8_aim_47 : decode cX8_aim 47 = .ok (.iconst (-1), 1) := by decide +kernel
theorem dX8_aim_48 : decode cX8_aim 48 = .ok (.istore 4, 2) := by decide +kernel
theorem dX8_aim_50 : decode cX8_aim 50 = .ok (.iconst 0, 1) := by decide +kernel
theorem dX8_aim_51 : decode cX8_aim 51 = .ok (.istore 5, 2) := by decide +kernel
theorem dX8_aim_53 : decode cX8_aim 53 = .ok (.iload 5, 2) := by decide +kernel
theorem dX8_aim_55 : decode cX8_aim 55 = .ok (.bipush 30, 2) := by decide +kernel
theorem dX8_aim_57 : decode cX8_aim 57 = .ok (.if_icmp .ge 51, 3) := by decide +kernel
theorem dX8_aim_60 : decode cX8_aim 60 = .ok (.aload_n 0, 1) := by decide +kernel
theorem dX8_aim_61 : decode cX8_aim 61 = .ok (.iload 5, 2) := by decide +kernel
theorem dX8_aim_63 : decode cX8_aim 63 = .ok (.iload_n 1, 1) := by decide +kernel
theorem dX8_aim_64 : decode cX8_aim 64 = .ok (.invokevirtual 243, 3) := by decide +kernel
theorem dX8_aim_67 : decode cX8_aim 67 = .ok (.invokestatic 246, 3) := by decide +kernel
theorem dX8_aim_70 : decode cX8_aim 70 = .ok (.istore 6, 2) := by decide +kernel
theorem dX8_aim_72 : decode cX8_aim 72 = .ok (.iload 6, 2) := by decide +kernel
theorem dX8_aim_74 : decode cX8_aim 74 = .ok (.iload 4, 2) := by decide +kernel
theorem dX8_aim_76 : decode cX8_aim 76 = .ok (.if_icmp .le 8, 3) := by decide +kernel
theorem dX8_aim_79 : decode cX8_aim 79 = .ok (.iload 5, 2) := by decide +kernel
theorem dX8_aim_81 : decode cX8_aim 81 = .ok (.goto 4, 3) := by decide +kernel
theorem dX8_aim_84 : decode cX8_aim 84 = .ok (.iload_n 3, 1) := by decide +kernel
theorem dX8_aim_85 : decode cX8_aim 85 = .ok (.istore_n 3, 1) := by decide +kernel
theorem dX8_aim_86 : decode cX8_aim 86 = .ok (.iload 6, 2) := by decide +kernel
theorem dX8_aim_88 : decode cX8_aim 88 = .ok (.iload 4, 2) := by decide +kernel
theorem dX8_aim_90 : decode cX8_aim 90 = .ok (.if_icmp .le 8, 3) := by decide +kernel
theorem dX8_aim_93 : decode cX8_aim 93 = .ok (.iload 6, 2) := by decide +kernel
theorem dX8_aim_95 : decode cX8_aim 95 = .ok (.goto 5, 3) := by decide +kernel
theorem dX8_aim_98 : decode cX8_aim 98 = .ok (.iload 4, 2) := by decide +kernel
theorem dX8_aim_100 : decode cX8_aim 100 = .ok (.istore 4, 2) := by decide +kernel
theorem dX8_aim_102 : decode cX8_aim 102 = .ok (.iinc 5 1, 3) := by decide +kernel
theorem dX8_aim_105 : decode cX8_aim 105 = .ok (.goto (-52), 3) := by decide +kernel
theorem dX8_aim_108 : decode cX8_aim 108 = .ok (.iload_n 2, 1) := by decide +kernel
theorem dX8_aim_109 : decode cX8_aim 109 = .ok (.ifCond .ne 7, 3) := by decide +kernel
theorem dX8_aim_112 : decode cX8_aim 112 = .ok (.iload_n 3, 1) := by decide +kernel
theorem dX8_aim_113 : decode cX8_aim 113 = .ok (.goto 5, 3) := by decide +kernel
theorem dX8_aim_116 : decode cX8_aim 116 = .ok (.iload 4, 2) := by decide +kernel
theorem dX8_aim_118 : decode cX8_aim 118 = .ok (.ireturn, 1) := by decide +kernel
theorem dX8_rowOf_0 : decode cX8_rowOf 0 = .ok (.iconst 1, 1) := by decide +kernel
theorem dX8_rowOf_1 : decode cX8_rowOf 1 = .ok (.aload_n 0, 1) := by decide +kernel
theorem dX8_rowOf_2 : decode cX8_rowOf 2 = .ok (.getfield 22, 3) := by decide +kernel
theorem dX8_rowOf_5 : decode cX8_rowOf 5 = .ok (.iconst 3, 1) := by decide +kernel
theorem dX8_rowOf_6 : decode cX8_rowOf 6 = .ok (.iaload, 1) := by decide +kernel
theorem dX8_rowOf_7 : decode cX8_rowOf 7 = .ok (.ishl, 1) := by decide +kernel
theorem dX8_rowOf_8 : decode cX8_rowOf 8 = .ok (.iconst 1, 1) := by decide +kernel
theorem dX8_rowOf_9 : decode cX8_rowOf 9 = .ok (.isub, 1) := by decide +kernel
theorem dX8_rowOf_10 : decode cX8_rowOf 10 = .ok (.istore_n 2, 1) := by decide +kernel
theorem dX8_rowOf_11 : decode cX8_rowOf 11 = .ok (.iload_n 1, 1) := by decide +kernel
theorem dX8_rowOf_12 : decode cX8_rowOf 12 = .ok (.ifCond .ne 7, 3) := by decide +kernel
theorem dX8_rowOf_15 : decode cX8_rowOf 15 = .ok (.iconst 1, 1) := by decide +kernel
theorem dX8_rowOf_16 : decode cX8_rowOf 16 = .ok (.goto 27, 3) := by decide +kernel
theorem dX8_rowOf_19 : decode cX8_rowOf 19 = .ok (.iload_n 1, 1) := by decide +kernel
theorem dX8_rowOf_20 : decode cX8_rowOf 20 = .ok (.iconst 1, 1) := by decide +kernel
theorem dX8_rowOf_21 : decode cX8_rowOf 21 = .ok (.if_icmp .ne 8, 3) := by decide +kernel
theorem dX8_rowOf_24 : decode cX8_rowOf 24 = .ok (.bipush 30, 2) := by decide +kernel
theorem dX8_rowOf_26 : decode cX8_rowOf 26 = .ok (.goto 17, 3) := by decide +kernel
theorem dX8_rowOf_29 : decode cX8_rowOf 29 = .ok (.iload_n 1, 1) := by decide +kernel
theorem dX8_rowOf_30 : decode cX8_rowOf 30 = .ok (.iconst 2, 1) := by decide +kernel
theorem dX8_rowOf_31 : decode cX8_rowOf 31 = .ok (.if_icmp .ne 9, 3) := by decide +kernel
theorem dX8_rowOf_34 : decode cX8_rowOf 34 = .ok (.sipush 900, 3) := by decide +kernel
theorem dX8_rowOf_37 : decode cX8_rowOf 37 = .ok (.goto 6, 3) := by decide +kernel
theorem dX8_rowOf_40 : decode cX8_rowOf 40 = .ok (.sipush 27000, 3) := by decide +kernel
theorem dX8_rowOf_43 : decode cX8_rowOf 43 = .ok (.istore_n 3, 1) := by decide +kernel
theorem dX8_rowOf_44 : decode cX8_rowOf 44 = .ok (.iconst 0, 1) := by decide +kernel
theorem dX8_rowOf_45 : decode cX8_rowOf 45 = .ok (.istore 4, 2) := by decide +kernel
theorem dX8_rowOf_47 : decode cX8_rowOf 47 = .ok (.iload 4, 2) := by decide +kernel
theorem dX8_rowOf_49 : decode cX8_rowOf 49 = .ok (.iload_n 3, 1) := by decide +kernel
theorem dX8_rowOf_50 : decode cX8_rowOf 50 = .ok (.if_icmp .ge 90, 3) := by decide +kernel
theorem dX8_rowOf_53 : decode cX8_rowOf 53 = .ok (.iload_n 1, 1) := by decide +kernel
theorem dX8_rowOf_54 : decode cX8_rowOf 54 = .ok (.ifCond .le 16, 3) := by decide +kernel
theorem dX8_rowOf_57 : decode cX8_rowOf 57 = .ok (.aload_n 0, 1) := by decide +kernel
theorem dX8_rowOf_58 : decode cX8_rowOf 58 = .ok (.getfield 50, 3) := by decide +kernel
theorem dX8_rowOf_61 : decode cX8_rowOf 61 = .ok (.iload 4, 2) := by decide +kernel
theorem dX8_rowOf_63 : decode cX8_rowOf 63 = .ok (.bipush 30, 2) := by decide +kernel
theorem dX8_rowOf_65 : decode cX8_rowOf 65 = .ok (.irem, 1) := by decide +kernel
theorem dX8_rowOf_66 : decode cX8_rowOf 66 = .ok (.iaload, 1) := by decide +kernel
theorem dX8_rowOf_67 : decode cX8_rowOf 67 = .ok (.goto 4, 3) := by decide +kernel
theorem dX8_rowOf_70 : decode cX8_rowOf 70 = .ok (.iconst 0, 1) := by decide +kernel
theorem dX8_rowOf_71 : decode cX8_rowOf 71 = .ok (.istore 5, 2) := by decide +kernel
theorem dX8_rowOf_73 : decode cX8_rowOf 73 = .ok (.iload 5, 2) := by decide +kernel
theorem dX8_rowOf_75 : decode cX8_rowOf 75 = .ok (.iload_n 1, 1) := by decide +kernel
theorem dX8_rowOf_76 : decode cX8_rowOf 76 = .ok (.iconst 1, 1) := by decide +kernel
theorem dX8_rowOf_77 : decode cX8_rowOf 77 = .ok (.if_icmp .le 19, 3) := by decide +kernel
theorem dX8_rowOf_80 : decode cX8_rowOf 80 = .ok (.aload_n 0, 1) := by decide +kernel
theorem dX8_rowOf_81 : decode cX8_rowOf 81 = .ok (.getfield 50, 3) := by decide +kernel
theorem dX8_rowOf_84 : decode cX8_rowOf 84 = .ok (.iload 4, 2) := by decide +kernel
theorem dX8_rowOf_86 : decode cX8_rowOf 86 = .ok (.bipush 30, 2) := by decide +kernel
theorem dX8_rowOf_88 : decode cX8_rowOf 88 = .ok (.idiv, 1) := by decide +kernel
theorem dX8_rowOf_89 : decode cX8_rowOf 89 = .ok (.bipush 30, 2) := by decide +kernel
theorem dX8_rowOf_91 : decode cX8_rowOf 91 = .ok (.irem, 1) := by decide +kernel
theorem dX8_rowOf_92 : decode cX8_rowOf 92 = .ok (.iaload, 1) := by decide +kernel
theorem dX8_rowOf_93 : decode cX8_rowOf 93 = .ok (.goto 4, 3) := by decide +kernel
theorem dX8_rowOf_96 : decode cX8_rowOf 96 = .ok (.iconst 0, 1) := by decide +kernel
theorem dX8_rowOf_97 : decode cX8_rowOf 97 = .ok (.ior, 1) := by decide +kernel
theorem dX8_rowOf_98 : decode cX8_rowOf 98 = .ok (.istore 5, 2) := by decide +kernel
theorem dX8_rowOf_100 : decode cX8_rowOf 100 = .ok (.iload 5, 2) := by decide +kernel
theorem dX8_rowOf_102 : decode cX8_rowOf 102 = .ok (.iload_n 1, 1) := by decide +kernel
theorem dX8_rowOf_103 : decode cX8_rowOf 103 = .ok (.iconst 2, 1) := by decide +kernel
theorem dX8_rowOf_104 : decode cX8_rowOf 104 = .ok (.if_icmp .le 17, 3) := by decide +kernel
theorem dX8_rowOf_107 : decode cX8_rowOf 107 = .ok (.aload_n 0, 1) := by decide +kernel
theorem dX8_rowOf_108 : decode cX8_rowOf 108 = .ok (.getfield 50, 3) := by decide +kernel
theorem dX8_rowOf_111 : decode cX8_rowOf 111 = .ok (.iload 4, 2) := by decide +kernel
theorem dX8_rowOf_113 : decode cX8_rowOf 113 = .ok (.sipush 900, 3) := by decide +kernel
theorem dX8_rowOf_116 : decode cX8_rowOf 116 = .ok (.idiv, 1) := by decide +kernel
theorem dX8_rowOf_117 : decode cX8_rowOf 117 = .ok (.iaload, 1) := by decide +kernel
theorem dX8_rowOf_118 : decode cX8_rowOf 118 = .ok (.goto 4, 3) := by decide +kernel
theorem dX8_rowOf_121 : decode cX8_rowOf 121 = .ok (.iconst 0, 1) := by decide +kernel
theorem dX8_rowOf_122 : decode cX8_rowOf 122 = .ok (.ior, 1) := by decide +kernel
theorem dX8_rowOf_123 : decode cX8_rowOf 123 = .ok (.istore 5, 2) := by decide +kernel
theorem dX8_rowOf_125 : decode cX8_rowOf 125 = .ok (.iload 5, 2) := by decide +kernel
theorem dX8_rowOf_127 : decode cX8_rowOf 127 = .ok (.iload_n 2, 1) := by decide +kernel
theorem dX8_rowOf_128 : decode cX8_rowOf 128 = .ok (.if_icmp .ne 6, 3) := by decide +kernel
theorem dX8_rowOf_131 : decode cX8_rowOf 131 = .ok (.iload 4, 2) := by decide +kernel
theorem dX8_rowOf_133 : decode cX8_rowOf 133 = .ok (.ireturn, 1) := by decide +kernel
theorem dX8_rowOf_134 : decode cX8_rowOf 134 = .ok (.iinc 4 1, 3) := by decide +kernel
theorem dX8_rowOf_137 : decode cX8_rowOf 137 = .ok (.goto (-90), 3) := by decide +kernel
theorem dX8_rowOf_140 : decode cX8_rowOf 140 = .ok (.ldc 179, 2) := by decide +kernel
theorem dX8_rowOf_142 : decode cX8_rowOf 142 = .ok (.ireturn, 1) := by decide +kernel
theorem dX8_throwsFor_0 : decode cX8_throwsFor 0 = .ok (.aload_n 0, 1) := by decide +kernel
theorem dX8_throwsFor_1 : decode cX8_throwsFor 1 = .ok (.getfield 22, 3) := by decide +kernel
theorem dX8_throwsFor_4 : decode cX8_throwsFor 4 = .ok (.iconst 0, 1) := by decide +kernel
theorem dX8_throwsFor_5 : decode cX8_throwsFor 5 = .ok (.iaload, 1) := by decide +kernel
theorem dX8_throwsFor_6 : decode cX8_throwsFor 6 = .ok (.ifCond .ne 6, 3) := by decide +kernel
theorem dX8_throwsFor_9 : decode cX8_throwsFor 9 = .ok (.ldc 193, 2) := by decide +kernel
theorem dX8_throwsFor_11 : decode cX8_throwsFor 11 = .ok (.ireturn, 1) := by decide +kernel
theorem dX8_throwsFor_12 : decode cX8_throwsFor 12 = .ok (.iload_n 1, 1) := by decide +kernel
theorem dX8_throwsFor_13 : decode cX8_throwsFor 13 = .ok (.i2l, 1) := by decide +kernel
theorem dX8_throwsFor_14 : decode cX8_throwsFor 14 = .ok (.lconst 0, 1) := by decide +kernel
theorem dX8_throwsFor_15 : decode cX8_throwsFor 15 = .ok (.ldc2_w 64, 3) := by decide +kernel
theorem dX8_throwsFor_18 : decode cX8_throwsFor 18 = .ok (.invokestatic 60, 3) := by decide +kernel
theorem dX8_throwsFor_21 : decode cX8_throwsFor 21 = .ok (.ifCond .eq 8, 3) := by decide +kernel
theorem dX8_throwsFor_24 : decode cX8_throwsFor 24 = .ok (.iload_n 2, 1) := by decide +kernel
theorem dX8_throwsFor_25 : decode cX8_throwsFor 25 = .ok (.iconst (-1), 1) := by decide +kernel
theorem dX8_throwsFor_26 : decode cX8_throwsFor 26 = .ok (.if_icmp .ge 6, 3) := by decide +kernel
theorem dX8_throwsFor_29 : decode cX8_throwsFor 29 = .ok (.ldc 66, 2) := by decide +kernel
theorem dX8_throwsFor_31 : decode cX8_throwsFor 31 = .ok (.ireturn, 1) := by decide +kernel
theorem dX8_throwsFor_32 : decode cX8_throwsFor 32 = .ok (.aload_n 0, 1) := by decide +kernel
theorem dX8_throwsFor_33 : decode cX8_throwsFor 33 = .ok (.invokevirtual 205, 3) := by decide +kernel
theorem dX8_throwsFor_36 : decode cX8_throwsFor 36 = .ok (.aload_n 0, 1) := by decide +kernel
theorem dX8_throwsFor_37 : decode cX8_throwsFor 37 = .ok (.invokevirtual 208, 3) := by decide +kernel
theorem dX8_throwsFor_40 : decode cX8_throwsFor 40 = .ok (.iconst 0, 1) := by decide +kernel
theorem dX8_throwsFor_41 : decode cX8_throwsFor 41 = .ok (.istore_n 3, 1) := by decide +kernel
theorem dX8_throwsFor_42 : decode cX8_throwsFor 42 = .ok (.iload_n 3, 1) := by decide +kernel
theorem dX8_throwsFor_43 : decode cX8_throwsFor 43 = .ok (.bipush 30, 2) := by decide +kernel
theorem dX8_throwsFor_45 : decode cX8_throwsFor 45 = .ok (.if_icmp .ge 21, 3) := by decide +kernel
theorem dX8_throwsFor_48 : decode cX8_throwsFor 48 = .ok (.aload_n 0, 1) := by decide +kernel
theorem dX8_throwsFor_49 : decode cX8_throwsFor 49 = .ok (.getfield 50, 3) := by decide +kernel
theorem dX8_throwsFor_52 : decode cX8_throwsFor 52 = .ok (.iload_n 3, 1) := by decide +kernel
theorem dX8_throwsFor_53 : decode cX8_throwsFor 53 = .ok (.aload_n 0, 1) := by decide +kernel
theorem dX8_throwsFor_54 : decode cX8_throwsFor 54 = .ok (.iload_n 3, 1) := by decide +kernel
theorem dX8_throwsFor_55 : decode cX8_throwsFor 55 = .ok (.iload_n 1, 1) := by decide +kernel
theorem dX8_throwsFor_56 : decode cX8_throwsFor 56 = .ok (.invokevirtual 243, 3) := by decide +kernel
theorem dX8_throwsFor_59 : decode cX8_throwsFor 59 = .ok (.iastore, 1) := by decide +kernel
theorem dX8_throwsFor_60 : decode cX8_throwsFor 60 = .ok (.iinc 3 1, 3) := by decide +kernel
theorem dX8_throwsFor_63 : decode cX8_throwsFor 63 = .ok (.goto (-21), 3) := by decide +kernel
theorem dX8_throwsFor_66 : decode cX8_throwsFor 66 = .ok (.iconst 0, 1) := by decide +kernel
theorem dX8_throwsFor_67 : decode cX8_throwsFor 67 = .ok (.istore_n 3, 1) := by decide +kernel
theorem dX8_throwsFor_68 : decode cX8_throwsFor 68 = .ok (.iload_n 3, 1) := by decide +kernel
theorem dX8_throwsFor_69 : decode cX8_throwsFor 69 = .ok (.iconst 4, 1) := by decide +kernel
theorem dX8_throwsFor_70 : decode cX8_throwsFor 70 = .ok (.if_icmp .ge 86, 3) := by decide +kernel
theorem dX8_throwsFor_73 : decode cX8_throwsFor 73 = .ok (.aload_n 0, 1) := by decide +kernel
theorem dX8_throwsFor_74 : decode cX8_throwsFor 74 = .ok (.iload_n 3, 1) := by decide +kernel
theorem dX8_throwsFor_75 : decode cX8_throwsFor 75 = .ok (.invokevirtual 249, 3) := by decide +kernel
theorem dX8_throwsFor_78 : decode cX8_throwsFor 78 = .ok (.istore 4, 2) := by decide +kernel
theorem dX8_throwsFor_80 : decode cX8_throwsFor 80 = .ok (.iload 4, 2) := by decide +kernel
theorem dX8_throwsFor_82 : decode cX8_throwsFor 82 = .ok (.ldc 179, 2) := by decide +kernel
theorem dX8_throwsFor_84 : decode cX8_throwsFor 84 = .ok (.if_icmp .eq 66, 3) := by decide +kernel
theorem dX8_throwsFor_87 : decode cX8_throwsFor 87 = .ok (.iload_n 3, 1) := by decide +kernel
theorem dX8_throwsFor_88 : decode cX8_throwsFor 88 = .ok (.iconst 1, 1) := by decide +kernel
theorem dX8_throwsFor_89 : decode cX8_throwsFor 89 = .ok (.isub, 1) := by decide +kernel
theorem dX8_throwsFor_90 : decode cX8_throwsFor 90 = .ok (.iload_n 2, 1) := by decide +kernel
theorem dX8_throwsFor_91 : decode cX8_throwsFor 91 = .ok (.isub, 1) := by decide +kernel
theorem dX8_throwsFor_92 : decode cX8_throwsFor 92 = .ok (.istore 5, 2) := by decide +kernel
theorem dX8_throwsFor_94 : decode cX8_throwsFor 94 = .ok (.iload_n 2, 1) := by decide +kernel
theorem dX8_throwsFor_95 : decode cX8_throwsFor 95 = .ok (.iconst (-1), 1) := by decide +kernel
theorem dX8_throwsFor_96 : decode cX8_throwsFor 96 = .ok (.if_icmp .ne 7, 3) := by decide +kernel
theorem dX8_throwsFor_99 : decode cX8_throwsFor 99 = .ok (.iload_n 3, 1) := by decide +kernel
theorem dX8_throwsFor_100 : decode cX8_throwsFor 100 = .ok (.goto 49, 3) := by decide +kernel
theorem dX8_throwsFor_103 : decode cX8_throwsFor 103 = .ok (.iload_n 2, 1) := by decide +kernel
theorem dX8_throwsFor_104 : decode cX8_throwsFor 104 = .ok (.iload_n 3, 1) := by decide +kernel
theorem dX8_throwsFor_105 : decode cX8_throwsFor 105 = .ok (.if_icmp .lt 8, 3) := by decide +kernel
theorem dX8_throwsFor_108 : decode cX8_throwsFor 108 = .ok (.ldc 179, 2) := by decide +kernel
theorem dX8_throwsFor_110 : decode cX8_throwsFor 110 = .ok (.goto 39, 3) := by decide +kernel
theorem dX8_throwsFor_113 : decode cX8_throwsFor 113 = .ok (.iload 5, 2) := by decide +kernel
theorem dX8_throwsFor_115 : decode cX8_throwsFor 115 = .ok (.ifCond .ne 11, 3) := by decide +kernel
theorem dX8_throwsFor_118 : decode cX8_throwsFor 118 = .ok (.iload 4, 2) := by decide +kernel
theorem dX8_throwsFor_120 : decode cX8_throwsFor 120 = .ok (.bipush 30, 2) := by decide +kernel
theorem dX8_throwsFor_122 : decode cX8_throwsFor 122 = .ok (.irem, 1) := by decide +kernel
theorem dX8_throwsFor_123 : decode cX8_throwsFor 123 = .ok (.goto 26, 3) := by decide +kernel
theorem dX8_throwsFor_126 : decode cX8_throwsFor 126 = .ok (.iload 5, 2) := by decide +kernel
theorem dX8_throwsFor_128 : decode cX8_throwsFor 128 = .ok (.iconst 1, 1) := by decide +kernel
theorem dX8_throwsFor_129 : decode cX8_throwsFor 129 = .ok (.if_icmp .ne 14, 3) := by decide +kernel
theorem dX8_throwsFor_132 : decode cX8_throwsFor 132 = .ok (.iload 4, 2) := by decide +kernel
theorem dX8_throwsFor_134 : decode cX8_throwsFor 134 = .ok (.bipush 30, 2) := by decide +kernel
theorem dX8_throwsFor_136 : decode cX8_throwsFor 136 = .ok (.idiv, 1) := by decide +kernel
theorem dX8_throwsFor_137 : decode cX8_throwsFor 137 = .ok (.bipush 30, 2) := by decide +kernel
theorem dX8_throwsFor_139 : decode cX8_throwsFor 139 = .ok (.irem, 1) := by decide +kernel
theorem dX8_throwsFor_140 : decode cX8_throwsFor 140 = .ok (.goto 9, 3) := by decide +kernel
theorem dX8_throwsFor_143 : decode cX8_throwsFor 143 = .ok (.iload 4, 2) := by decide +kernel
theorem dX8_throwsFor_145 : decode cX8_throwsFor 145 = .ok (.sipush 900, 3) := by decide +kernel
theorem dX8_throwsFor_148 : decode cX8_throwsFor 148 = .ok (.idiv, 1) := by decide +kernel
theorem dX8_throwsFor_149 : decode cX8_throwsFor 149 = .ok (.ireturn, 1) := by decide +kernel
theorem dX8_throwsFor_150 : decode cX8_throwsFor 150 = .ok (.iinc 3 1, 3) := by decide +kernel
theorem dX8_throwsFor_153 : decode cX8_throwsFor 153 = .ok (.goto (-85), 3) := by decide +kernel
theorem dX8_throwsFor_156 : decode cX8_throwsFor 156 = .ok (.ldc 179, 2) := by decide +kernel
theorem dX8_throwsFor_158 : decode cX8_throwsFor 158 = .ok (.ireturn, 1) := by decide +kernel
theorem dX8_cool_0 : decode cX8_cool 0 = .ok (.aload_n 0, 1) := by decide +kernel
theorem dX8_cool_1 : decode cX8_cool 1 = .ok (.iload_n 1, 1) := by decide +kernel
theorem dX8_cool_2 : decode cX8_cool 2 = .ok (.invokevirtual 219, 3) := by decide +kernel
theorem dX8_cool_5 : decode cX8_cool 5 = .ok (.ifCond .eq 11, 3) := by decide +kernel
theorem dX8_cool_8 : decode cX8_cool 8 = .ok (.iload_n 2, 1) := by decide +kernel
theorem dX8_cool_9 : decode cX8_cool 9 = .ok (.iload_n 3, 1) := by decide +kernel
theorem dX8_cool_10 : decode cX8_cool 10 = .ok (.invokestatic 194, 3) := by decide +kernel
theorem dX8_cool_13 : decode cX8_cool 13 = .ok (.ifCond .ne 6, 3) := by decide +kernel
theorem dX8_cool_16 : decode cX8_cool 16 = .ok (.ldc 66, 2) := by decide +kernel
theorem dX8_cool_18 : decode cX8_cool 18 = .ok (.ireturn, 1) := by decide +kernel
theorem dX8_cool_19 : decode cX8_cool 19 = .ok (.aload_n 0, 1) := by decide +kernel
theorem dX8_cool_20 : decode cX8_cool 20 = .ok (.invokevirtual 205, 3) := by decide +kernel
theorem dX8_cool_23 : decode cX8_cool 23 = .ok (.aload_n 0, 1) := by decide +kernel
theorem dX8_cool_24 : decode cX8_cool 24 = .ok (.iload_n 2, 1) := by decide +kernel
theorem dX8_cool_25 : decode cX8_cool 25 = .ok (.iload_n 3, 1) := by decide +kernel
theorem dX8_cool_26 : decode cX8_cool 26 = .ok (.invokevirtual 211, 3) := by decide +kernel
theorem dX8_cool_29 : decode cX8_cool 29 = .ok (.iconst 0, 1) := by decide +kernel
theorem dX8_cool_30 : decode cX8_cool 30 = .ok (.istore 4, 2) := by decide +kernel
theorem dX8_cool_32 : decode cX8_cool 32 = .ok (.iload 4, 2) := by decide +kernel
theorem dX8_cool_34 : decode cX8_cool 34 = .ok (.bipush 20, 2) := by decide +kernel
theorem dX8_cool_36 : decode cX8_cool 36 = .ok (.if_icmp .gt 26, 3) := by decide +kernel
theorem dX8_cool_39 : decode cX8_cool 39 = .ok (.aload_n 0, 1) := by decide +kernel
theorem dX8_cool_40 : decode cX8_cool 40 = .ok (.iload 4, 2) := by decide +kernel
theorem dX8_cool_42 : decode cX8_cool 42 = .ok (.putfield 172, 3) := by decide +kernel
theorem dX8_cool_45 : decode cX8_cool 45 = .ok (.aload_n 0, 1) := by decide +kernel
theorem dX8_cool_46 : decode cX8_cool 46 = .ok (.iload_n 1, 1) := by decide +kernel
theorem dX8_cool_47 : decode cX8_cool 47 = .ok (.invokevirtual 225, 3) := by decide +kernel
theorem dX8_cool_50 : decode cX8_cool 50 = .ok (.ifCond .ne 6, 3) := by decide +kernel
theorem dX8_cool_53 : decode cX8_cool 53 = .ok (.iload 4, 2) := by decide +kernel
theorem dX8_cool_55 : decode cX8_cool 55 = .ok (.ireturn, 1) := by decide +kernel
theorem dX8_cool_56 : decode cX8_cool 56 = .ok (.iinc 4 1, 3) := by decide +kernel
theorem dX8_cool_59 : decode cX8_cool 59 = .ok (.goto (-27), 3) := by decide +kernel
theorem dX8_cool_62 : decode cX8_cool 62 = .ok (.ldc 179, 2) := by decide +kernel
theorem dX8_cool_64 : decode cX8_cool 64 = .ok (.ireturn, 1) := by decide +kernel
theorem dX8_stood_0 : decode cX8_stood 0 = .ok (.iload_n 1, 1) := by decide +kernel
theorem dX8_stood_1 : decode cX8_stood 1 = .ok (.i2l, 1) := by decide +kernel
theorem dX8_stood_2 : decode cX8_stood 2 = .ok (.lconst 0, 1) := by decide +kernel
theorem dX8_stood_3 : decode cX8_stood 3 = .ok (.ldc2_w 58, 3) := by decide +kernel
theorem dX8_stood_6 : decode cX8_stood 6 = .ok (.invokestatic 60, 3) := by decide +kernel
theorem dX8_stood_9 : decode cX8_stood 9 = .ok (.ifCond .eq 37, 3) := by decide +kernel
theorem dX8_stood_12 : decode cX8_stood 12 = .ok (.iload_n 3, 1) := by decide +kernel
theorem dX8_stood_13 : decode cX8_stood 13 = .ok (.i2l, 1) := by decide +kernel
theorem dX8_stood_14 : decode cX8_stood 14 = .ok (.lconst 0, 1) := by decide +kernel
theorem dX8_stood_15 : decode cX8_stood 15 = .ok (.ldc2_w 198, 3) := by decide +kernel
theorem dX8_stood_18 : decode cX8_stood 18 = .ok (.invokestatic 60, 3) := by decide +kernel
theorem dX8_stood_21 : decode cX8_stood 21 = .ok (.ifCond .eq 25, 3) := by decide +kernel
theorem dX8_stood_24 : decode cX8_stood 24 = .ok (.aload_n 0, 1) := by decide +kernel
theorem dX8_stood_25 : decode cX8_stood 25 = .ok (.iload 4, 2) := by decide +kernel
theorem dX8_stood_27 : decode cX8_stood 27 = .ok (.invokevirtual 219, 3) := by decide +kernel
theorem dX8_stood_30 : decode cX8_stood 30 = .ok (.ifCond .eq 16, 3) := by decide +kernel
theorem dX8_stood_33 : decode cX8_stood 33 = .ok (.iload 5, 2) := by decide +kernel
theorem dX8_stood_35 : decode cX8_stood 35 = .ok (.i2l, 1) := by decide +kernel
theorem dX8_stood_36 : decode cX8_stood 36 = .ok (.lconst 0, 1) := by decide +kernel
theorem dX8_stood_37 : decode cX8_stood 37 = .ok (.ldc2_w 198, 3) := by decide +kernel
theorem dX8_stood_40 : decode cX8_stood 40 = .ok (.invokestatic 60, 3) := by decide +kernel
theorem dX8_stood_43 : decode cX8_stood 43 = .ok (.ifCond .ne 6, 3) := by decide +kernel
theorem dX8_stood_46 : decode cX8_stood 46 = .ok (.ldc 66, 2) := by decide +kernel
theorem dX8_stood_48 : decode cX8_stood 48 = .ok (.ireturn, 1) := by decide +kernel
theorem dX8_stood_49 : decode cX8_stood 49 = .ok (.aload_n 0, 1) := by decide +kernel
theorem dX8_stood_50 : decode cX8_stood 50 = .ok (.getfield 7, 3) := by decide +kernel
theorem dX8_stood_53 : decode cX8_stood 53 = .ok (.iload_n 1, 1) := by decide +kernel
theorem dX8_stood_54 : decode cX8_stood 54 = .ok (.iaload, 1) := by decide +kernel
theorem dX8_stood_55 : decode cX8_stood 55 = .ok (.ifCond .ge 9, 3) := by decide +kernel
theorem dX8_stood_58 : decode cX8_stood 58 = .ok (.aload_n 0, 1) := by decide +kernel
theorem dX8_stood_59 : decode cX8_stood 59 = .ok (.iconst 1, 1) := by decide +kernel
theorem dX8_stood_60 : decode cX8_stood 60 = .ok (.invokevirtual 67, 3) := by decide +kernel
theorem dX8_stood_63 : decode cX8_stood 63 = .ok (.ireturn, 1) := by decide +kernel
theorem dX8_stood_64 : decode cX8_stood 64 = .ok (.iload_n 2, 1) := by decide +kernel
theorem dX8_stood_65 : decode cX8_stood 65 = .ok (.ifCond .lt 19, 3) := by decide +kernel
theorem dX8_stood_68 : decode cX8_stood 68 = .ok (.iload_n 2, 1) := by decide +kernel
theorem dX8_stood_69 : decode cX8_stood 69 = .ok (.i2l, 1) := by decide +kernel
theorem dX8_stood_70 : decode cX8_stood 70 = .ok (.iload_n 3, 1) := by decide +kernel
theorem dX8_stood_71 : decode cX8_stood 71 = .ok (.i2l, 1) := by decide +kernel
theorem dX8_stood_72 : decode cX8_stood 72 = .ok (.ladd, 1) := by decide +kernel
theorem dX8_stood_73 : decode cX8_stood 73 = .ok (.aload_n 0, 1) := by decide +kernel
theorem dX8_stood_74 : decode cX8_stood 74 = .ok (.getfield 13, 3) := by decide +kernel
theorem dX8_stood_77 : decode cX8_stood 77 = .ok (.iload_n 1, 1) := by decide +kernel
theorem dX8_stood_78 : decode cX8_stood 78 = .ok (.iaload, 1) := by decide +kernel
theorem dX8_stood_79 : decode cX8_stood 79 = .ok (.i2l, 1) := by decide +kernel
theorem dX8_stood_80 : decode cX8_stood 80 = .ok (.lcmp, 1) := by decide +kernel
theorem dX8_stood_81 : decode cX8_stood 81 = .ok (.ifCond .le 9, 3) := by decide +kernel
theorem dX8_stood_84 : decode cX8_stood 84 = .ok (.aload_n 0, 1) := by decide +kernel
theorem dX8_stood_85 : decode cX8_stood 85 = .ok (.iconst 2, 1) := by decide +kernel
theorem dX8_stood_86 : decode cX8_stood 86 = .ok (.invokevirtual 67, 3) := by decide +kernel
theorem dX8_stood_89 : decode cX8_stood 89 = .ok (.ireturn, 1) := by decide +kernel
theorem dX8_stood_90 : decode cX8_stood 90 = .ok (.bipush 40, 2) := by decide +kernel
theorem dX8_stood_92 : decode cX8_stood 92 = .ok (.iload_n 1, 1) := by decide +kernel
theorem dX8_stood_93 : decode cX8_stood 93 = .ok (.imul, 1) := by decide +kernel
theorem dX8_stood_94 : decode cX8_stood 94 = .ok (.iload_n 2, 1) := by decide +kernel
theorem dX8_stood_95 : decode cX8_stood 95 = .ok (.iadd, 1) := by decide +kernel
theorem dX8_stood_96 : decode cX8_stood 96 = .ok (.istore 6, 2) := by decide +kernel
theorem dX8_stood_98 : decode cX8_stood 98 = .ok (.iconst 0, 1) := by decide +kernel
theorem dX8_stood_99 : decode cX8_stood 99 = .ok (.istore 7, 2) := by decide +kernel
theorem dX8_stood_101 : decode cX8_stood 101 = .ok (.iload 7, 2) := by decide +kernel
theorem dX8_stood_103 : decode cX8_stood 103 = .ok (.iload_n 3, 1) := by decide +kernel
theorem dX8_stood_104 : decode cX8_stood 104 = .ok (.if_icmp .ge 28, 3) := by decide +kernel
theorem dX8_stood_107 : decode cX8_stood 107 = .ok (.aload_n 0, 1) := by decide +kernel
theorem dX8_stood_108 : decode cX8_stood 108 = .ok (.getfield 16, 3) := by decide +kernel
theorem dX8_stood_111 : decode cX8_stood 111 = .ok (.iload 6, 2) := by decide +kernel
theorem dX8_stood_113 : decode cX8_stood 113 = .ok (.iload 7, 2) := by decide +kernel
theorem dX8_stood_115 : decode cX8_stood 115 = .ok (.iadd, 1) := by decide +kernel
theorem dX8_stood_116 : decode cX8_stood 116 = .ok (.iaload, 1) := by decide +kernel
theorem dX8_stood_117 : decode cX8_stood 117 = .ok (.invokestatic 169, 3) := by decide +kernel
theorem dX8_stood_120 : decode cX8_stood 120 = .ok (.ifCond .ne 6, 3) := by decide +kernel
theorem dX8_stood_123 : decode cX8_stood 123 = .ok (.ldc 66, 2) := by decide +kernel
theorem dX8_stood_125 : decode cX8_stood 125 = .ok (.ireturn, 1) := by decide +kernel
theorem dX8_stood_126 : decode cX8_stood 126 = .ok (.iinc 7 1, 3) := by decide +kernel
theorem dX8_stood_129 : decode cX8_stood 129 = .ok (.goto (-28), 3) := by decide +kernel
theorem dX8_stood_132 : decode cX8_stood 132 = .ok (.aload_n 0, 1) := by decide +kernel
theorem dX8_stood_133 : decode cX8_stood 133 = .ok (.invokevirtual 205, 3) := by decide +kernel
theorem dX8_stood_136 : decode cX8_stood 136 = .ok (.iconst 0, 1) := by decide +kernel
theorem dX8_stood_137 : decode cX8_stood 137 = .ok (.istore 7, 2) := by decide +kernel
theorem dX8_stood_139 : decode cX8_stood 139 = .ok (.iconst 0, 1) := by decide +kernel
theorem dX8_stood_140 : decode cX8_stood 140 = .ok (.istore 8, 2) := by decide +kernel
theorem dX8_stood_142 : decode cX8_stood 142 = .ok (.iload 8, 2) := by decide +kernel
theorem dX8_stood_144 : decode cX8_stood 144 = .ok (.bipush 30, 2) := by decide +kernel
theorem dX8_stood_146 : decode cX8_stood 146 = .ok (.if_icmp .ge 85, 3) := by decide +kernel
theorem dX8_stood_149 : decode cX8_stood 149 = .ok (.aload_n 0, 1) := by decide +kernel
theorem dX8_stood_150 : decode cX8_stood 150 = .ok (.getfield 41, 3) := by decide +kernel
theorem dX8_stood_153 : decode cX8_stood 153 = .ok (.iload 4, 2) := by decide +kernel
theorem dX8_stood_155 : decode cX8_stood 155 = .ok (.iload 8, 2) := by decide +kernel
theorem dX8_stood_157 : decode cX8_stood 157 = .ok (.iastore, 1) := by decide +kernel
theorem dX8_stood_158 : decode cX8_stood 158 = .ok (.iconst 0, 1) := by decide +kernel
theorem dX8_stood_159 : decode cX8_stood 159 = .ok (.istore 9, 2) := by decide +kernel
theorem dX8_stood_161 : decode cX8_stood 161 = .ok (.iconst 0, 1) := by decide +kernel
theorem dX8_stood_162 : decode cX8_stood 162 = .ok (.istore 10, 2) := by decide +kernel
theorem dX8_stood_164 : decode cX8_stood 164 = .ok (.iload 10, 2) := by decide +kernel
theorem dX8_stood_166 : decode cX8_stood 166 = .ok (.iload_n 3, 1) := by decide +kernel
theorem dX8_stood_167 : decode cX8_stood 167 = .ok (.if_icmp .ge 38, 3) := by decide +kernel
theorem dX8_stood_170 : decode cX8_stood 170 = .ok (.iload 9, 2) := by decide +kernel
theorem dX8_stood_172 : decode cX8_stood 172 = .ok (.aload_n 0, 1) := by decide +kernel
theorem dX8_stood_173 : decode cX8_stood 173 = .ok (.aload_n 0, 1) := by decide +kernel
theorem dX8_stood_174 : decode cX8_stood 174 = .ok (.getfield 16, 3) := by decide +kernel
theorem dX8_stood_177 : decode cX8_stood 177 = .ok (.iload 6, 2) := by decide +kernel
theorem dX8_stood_179 : decode cX8_stood 179 = .ok (.iload 10, 2) := by decide +kernel
theorem dX8_stood_181 : decode cX8_stood 181 = .ok (.iadd, 1) := by decide +kernel
theorem dX8_stood_182 : decode cX8_stood 182 = .ok (.iaload, 1) := by decide +kernel
theorem dX8_stood_183 : decode cX8_stood 183 = .ok (.invokevirtual 183, 3) := by decide +kernel
theorem dX8_stood_186 : decode cX8_stood 186 = .ok (.iload 4, 2) := by decide +kernel
theorem dX8_stood_188 : decode cX8_stood 188 = .ok (.if_icmp .ne 7, 3) := by decide +kernel
theorem dX8_stood_191 : decode cX8_stood 191 = .ok (.iconst 1, 1) := by decide +kernel
theorem dX8_stood_192 : decode cX8_stood 192 = .ok (.goto 4, 3) := by decide +kernel
theorem dX8_stood_195 : decode cX8_stood 195 = .ok (.iconst 0, 1) := by decide +kernel
theorem dX8_stood_196 : decode cX8_stood 196 = .ok (.iadd, 1) := by decide +kernel
theorem dX8_stood_197 : decode cX8_stood 197 = .ok (.istore 9, 2) := by decide +kernel
theorem dX8_stood_199 : decode cX8_stood 199 = .ok (.iinc 10 1, 3) := by decide +kernel
theorem dX8_stood_202 : decode cX8_stood 202 = .ok (.goto (-38), 3) := by decide +kernel
theorem dX8_stood_205 : decode cX8_stood 205 = .ok (.iload 7, 2) := by decide +kernel
theorem dX8_stood_207 : decode cX8_stood 207 = .ok (.iload 9, 2) := by decide +kernel
theorem dX8_stood_209 : decode cX8_stood 209 = .ok (.iload 5, 2) := by decide +kernel
theorem dX8_stood_211 : decode cX8_stood 211 = .ok (.if_icmp .ne 10, 3) := by decide +kernel
theorem dX8_stood_214 : decode cX8_stood 214 = .ok (.iconst 1, 1) := by decide +kernel
theorem dX8_stood_215 : decode cX8_stood 215 = .ok (.iload 8, 2) := by decide +kernel
theorem dX8_stood_217 : decode cX8_stood 217 = .ok (.ishl, 1) := by decide +kernel
theorem dX8_stood_218 : decode cX8_stood 218 = .ok (.goto 4, 3) := by decide +kernel
theorem dX8_stood_221 : decode cX8_stood 221 = .ok (.iconst 0, 1) := by decide +kernel
theorem dX8_stood_222 : decode cX8_stood 222 = .ok (.ior, 1) := by decide +kernel
theorem dX8_stood_223 : decode cX8_stood 223 = .ok (.istore 7, 2) := by decide +kernel
theorem dX8_stood_225 : decode cX8_stood 225 = .ok (.iinc 8 1, 3) := by decide +kernel
theorem dX8_stood_228 : decode cX8_stood 228 = .ok (.goto (-86), 3) := by decide +kernel
theorem dX8_stood_231 : decode cX8_stood 231 = .ok (.aload_n 0, 1) := by decide +kernel
theorem dX8_stood_232 : decode cX8_stood 232 = .ok (.iload 7, 2) := by decide +kernel
theorem dX8_stood_234 : decode cX8_stood 234 = .ok (.invokevirtual 71, 3) := by decide +kernel
theorem dX8_stood_237 : decode cX8_stood 237 = .ok (.ireturn, 1) := by decide +kernel
theorem dX8_image_0 : decode cX8_image 0 = .ok (.iload_n 1, 1) := by decide +kernel
theorem dX8_image_1 : decode cX8_image 1 = .ok (.i2l, 1) := by decide +kernel
theorem dX8_image_2 : decode cX8_image 2 = .ok (.lconst 0, 1) := by decide +kernel
theorem dX8_image_3 : decode cX8_image 3 = .ok (.lconst 1, 1) := by decide +kernel
theorem dX8_image_4 : decode cX8_image 4 = .ok (.invokestatic 60, 3) := by decide +kernel
theorem dX8_image_7 : decode cX8_image 7 = .ok (.ifCond .ne 6, 3) := by decide +kernel
theorem dX8_image_10 : decode cX8_image 10 = .ok (.ldc 66, 2) := by decide +kernel
theorem dX8_image_12 : decode cX8_image 12 = .ok (.ireturn, 1) := by decide +kernel
theorem dX8_image_13 : decode cX8_image 13 = .ok (.aload_n 0, 1) := by decide +kernel
theorem dX8_image_14 : decode cX8_image 14 = .ok (.getfield 22, 3) := by decide +kernel
theorem dX8_image_17 : decode cX8_image 17 = .ok (.iconst 0, 1) := by decide +kernel
theorem dX8_image_18 : decode cX8_image 18 = .ok (.iaload, 1) := by decide +kernel
theorem dX8_image_19 : decode cX8_image 19 = .ok (.ifCond .ne 6, 3) := by decide +kernel
theorem dX8_image_22 : decode cX8_image 22 = .ok (.ldc 193, 2) := by decide +kernel
theorem dX8_image_24 : decode cX8_image 24 = .ok (.ireturn, 1) := by decide +kernel
theorem dX8_image_25 : decode cX8_image 25 = .ok (.iconst 0, 1) := by decide +kernel
theorem dX8_image_26 : decode cX8_image 26 = .ok (.istore_n 2, 1) := by decide +kernel
theorem dX8_image_27 : decode cX8_image 27 = .ok (.iload_n 2, 1) := by decide +kernel
theorem dX8_image_28 : decode cX8_image 28 = .ok (.bipush 39, 2) := by decide +kernel
theorem dX8_image_30 : decode cX8_image 30 = .ok (.if_icmp .ge 26, 3) := by decide +kernel
theorem dX8_image_33 : decode cX8_image 33 = .ok (.aload_n 0, 1) := by decide +kernel
theorem dX8_image_34 : decode cX8_image 34 = .ok (.getfield 31, 3) := by decide +kernel
theorem dX8_image_37 : decode cX8_image 37 = .ok (.bipush 39, 2) := by decide +kernel
theorem dX8_image_39 : decode cX8_image 39 = .ok (.iload_n 1, 1) := by decide +kernel
theorem dX8_image_40 : decode cX8_image 40 = .ok (.imul, 1) := by decide +kernel
theorem dX8_image_41 : decode cX8_image 41 = .ok (.iload_n 2, 1) := by decide +kernel
theorem dX8_image_42 : decode cX8_image 42 = .ok (.iadd, 1) := by decide +kernel
theorem dX8_image_43 : decode cX8_image 43 = .ok (.aload_n 0, 1) := by decide +kernel
theorem dX8_image_44 : decode cX8_image 44 = .ok (.getfield 22, 3) := by decide +kernel
theorem dX8_image_47 : decode cX8_image 47 = .ok (.iload_n 2, 1) := by decide +kernel
theorem dX8_image_48 : decode cX8_image 48 = .ok (.iaload, 1) := by decide +kernel
theorem dX8_image_49 : decode cX8_image 49 = .ok (.iastore, 1) := by decide +kernel
theorem dX8_image_50 : decode cX8_image 50 = .ok (.iinc 2 1, 3) := by decide +kernel
theorem dX8_image_53 : decode cX8_image 53 = .ok (.goto (-26), 3) := by decide +kernel
theorem dX8_image_56 : decode cX8_image 56 = .ok (.aload_n 0, 1) := by decide +kernel
theorem dX8_image_57 : decode cX8_image 57 = .ok (.getfield 34, 3) := by decide +kernel
theorem dX8_image_60 : decode cX8_image 60 = .ok (.iload_n 1, 1) := by decide +kernel
theorem dX8_image_61 : decode cX8_image 61 = .ok (.iconst 1, 1) := by decide +kernel
theorem dX8_image_62 : decode cX8_image 62 = .ok (.bastore, 1) := by decide +kernel
theorem dX8_image_63 : decode cX8_image 63 = .ok (.iconst 1, 1) := by decide +kernel
theorem dX8_image_64 : decode cX8_image 64 = .ok (.ireturn, 1) := by decide +kernel
theorem dX8_restore_0 : decode cX8_restore 0 = .ok (.iload_n 1, 1) := by decide +kernel
theorem dX8_restore_1 : decode cX8_restore 1 = .ok (.i2l, 1) := by decide +kernel
theorem dX8_restore_2 : decode cX8_restore 2 = .ok (.lconst 0, 1) := by decide +kernel
theorem dX8_restore_3 : decode cX8_restore 3 = .ok (.lconst 1, 1) := by decide +kernel
theorem dX8_restore_4 : decode cX8_restore 4 = .ok (.invokestatic 60, 3) := by decide +kernel
theorem dX8_restore_7 : decode cX8_restore 7 = .ok (.ifCond .ne 6, 3) := by decide +kernel
theorem dX8_restore_10 : decode cX8_restore 10 = .ok (.ldc 66, 2) := by decide +kernel
theorem dX8_restore_12 : decode cX8_restore 12 = .ok (.ireturn, 1) := by decide +kernel
theorem dX8_restore_13 : decode cX8_restore 13 = .ok (.aload_n 0, 1) := by decide +kernel
theorem dX8_restore_14 : decode cX8_restore 14 = .ok (.getfield 34, 3) := by decide +kernel
theorem dX8_restore_17 : decode cX8_restore 17 = .ok (.iload_n 1, 1) := by decide +kernel
theorem dX8_restore_18 : decode cX8_restore 18 = .ok (.baload, 1) := by decide +kernel
theorem dX8_restore_19 : decode cX8_restore 19 = .ok (.ifCond .ne 6, 3) := by decide +kernel
theorem dX8_restore_22 : decode cX8_restore 22 = .ok (.ldc 193, 2) := by decide +kernel
theorem dX8_restore_24 : decode cX8_restore 24 = .ok (.ireturn, 1) := by decide +kernel
theorem dX8_restore_25 : decode cX8_restore 25 = .ok (.iconst 0, 1) := by decide +kernel
theorem dX8_restore_26 : decode cX8_restore 26 = .ok (.istore_n 2, 1) := by decide +kernel
theorem dX8_restore_27 : decode cX8_restore 27 = .ok (.iload_n 2, 1) := by decide +kernel
theorem dX8_restore_28 : decode cX8_restore 28 = .ok (.bipush 39, 2) := by decide +kernel
theorem dX8_restore_30 : decode cX8_restore 30 = .ok (.if_icmp .ge 26, 3) := by decide +kernel
theorem dX8_restore_33 : decode cX8_restore 33 = .ok (.aload_n 0, 1) := by decide +kernel
theorem dX8_restore_34 : decode cX8_restore 34 = .ok (.getfield 22, 3) := by decide +kernel
theorem dX8_restore_37 : decode cX8_restore 37 = .ok (.iload_n 2, 1) := by decide +kernel
theorem dX8_restore_38 : decode cX8_restore 38 = .ok (.aload_n 0, 1) := by decide +kernel
theorem dX8_restore_39 : decode cX8_restore 39 = .ok (.getfield 31, 3) := by decide +kernel
theorem dX8_restore_42 : decode cX8_restore 42 = .ok (.bipush 39, 2) := by decide +kernel
theorem dX8_restore_44 : decode cX8_restore 44 = .ok (.iload_n 1, 1) := by decide +kernel
theorem dX8_restore_45 : decode cX8_restore 45 = .ok (.imul, 1) := by decide +kernel
theorem dX8_restore_46 : decode cX8_restore 46 = .ok (.iload_n 2, 1) := by decide +kernel
theorem dX8_restore_47 : decode cX8_restore 47 = .ok (.iadd, 1) := by decide +kernel
theorem dX8_restore_48 : decode cX8_restore 48 = .ok (.iaload, 1) := by decide +kernel
theorem dX8_restore_49 : decode cX8_restore 49 = .ok (.iastore, 1) := by decide +kernel
theorem dX8_restore_50 : decode cX8_restore 50 = .ok (.iinc 2 1, 3) := by decide +kernel
theorem dX8_restore_53 : decode cX8_restore 53 = .ok (.goto (-26), 3) := by decide +kernel
theorem dX8_restore_56 : decode cX8_restore 56 = .ok (.aload_n 0, 1) := by decide +kernel
theorem dX8_restore_57 : decode cX8_restore 57 = .ok (.iconst 0, 1) := by decide +kernel
theorem dX8_restore_58 : decode cX8_restore 58 = .ok (.putfield 164, 3) := by decide +kernel
theorem dX8_restore_61 : decode cX8_restore 61 = .ok (.iconst 1, 1) := by decide +kernel
theorem dX8_restore_62 : decode cX8_restore 62 = .ok (.ireturn, 1) := by decide +kernel
theorem dX8_kind_0 : decode cX8_kind 0 = .ok (.aload_n 0, 1) := by decide +kernel
theorem dX8_kind_1 : decode cX8_kind 1 = .ok (.iload_n 1, 1) := by decide +kernel
theorem dX8_kind_2 : decode cX8_kind 2 = .ok (.invokevirtual 219, 3) := by decide +kernel
theorem dX8_kind_5 : decode cX8_kind 5 = .ok (.ifCond .eq 14, 3) := by decide +kernel
theorem dX8_kind_8 : decode cX8_kind 8 = .ok (.aload_n 0, 1) := by decide +kernel
theorem dX8_kind_9 : decode cX8_kind 9 = .ok (.getfield 22, 3) := by decide +kernel
theorem dX8_kind_12 : decode cX8_kind 12 = .ok (.iconst 5, 1) := by decide +kernel
theorem dX8_kind_13 : decode cX8_kind 13 = .ok (.iload_n 1, 1) := by decide +kernel
theorem dX8_kind_14 : decode cX8_kind 14 = .ok (.iadd, 1) := by decide +kernel
theorem dX8_kind_15 : decode cX8_kind 15 = .ok (.iaload, 1) := by decide +kernel
theorem dX8_kind_16 : decode cX8_kind 16 = .ok (.goto 5, 3) := by decide +kernel
theorem dX8_kind_19 : decode cX8_kind 19 = .ok (.ldc 66, 2) := by decide +kernel
theorem dX8_kind_21 : decode cX8_kind 21 = .ok (.ireturn, 1) := by decide +kernel
theorem dX8_isOf_0 : decode cX8_isOf 0 = .ok (.iload_n 1, 1) := by decide +kernel
theorem dX8_isOf_1 : decode cX8_isOf 1 = .ok (.ifCond .eq 28, 3) := by decide +kernel
theorem dX8_isOf_4 : decode cX8_isOf 4 = .ok (.iload_n 0, 1) := by decide +kernel
theorem dX8_isOf_5 : decode cX8_isOf 5 = .ok (.iload_n 1, 1) := by decide +kernel
theorem dX8_isOf_6 : decode cX8_isOf 6 = .ok (.if_icmp .eq 23, 3) := by decide +kernel
theorem dX8_isOf_9 : decode cX8_isOf 9 = .ok (.iload_n 1, 1) := by decide +kernel
theorem dX8_isOf_10 : decode cX8_isOf 10 = .ok (.iconst 1, 1) := by decide +kernel
theorem dX8_isOf_11 : decode cX8_isOf 11 = .ok (.if_icmp .ne 8, 3) := by decide +kernel
theorem dX8_isOf_14 : decode cX8_isOf 14 = .ok (.iload_n 0, 1) := by decide +kernel
theorem dX8_isOf_15 : decode cX8_isOf 15 = .ok (.iconst 4, 1) := by decide +kernel
theorem dX8_isOf_16 : decode cX8_isOf 16 = .ok (.if_icmp .lt 13, 3) := by decide +kernel
theorem dX8_isOf_19 : decode cX8_isOf 19 = .ok (.iload_n 1, 1) := by decide +kernel
theorem dX8_isOf_20 : decode cX8_isOf 20 = .ok (.iconst 4, 1) := by decide +kernel
theorem dX8_isOf_21 : decode cX8_isOf 21 = .ok (.if_icmp .ne 12, 3) := by decide +kernel
theorem dX8_isOf_24 : decode cX8_isOf 24 = .ok (.iload_n 0, 1) := by decide +kernel
theorem dX8_isOf_25 : decode cX8_isOf 25 = .ok (.iconst 5, 1) := by decide +kernel
theorem dX8_isOf_26 : decode cX8_isOf 26 = .ok (.if_icmp .ne 7, 3) := by decide +kernel
theorem dX8_isOf_29 : decode cX8_isOf 29 = .ok (.iconst 1, 1) := by decide +kernel
theorem dX8_isOf_30 : decode cX8_isOf 30 = .ok (.goto 4, 3) := by decide +kernel
theorem dX8_isOf_33 : decode cX8_isOf 33 = .ok (.iconst 0, 1) := by decide +kernel
theorem dX8_isOf_34 : decode cX8_isOf 34 = .ok (.ireturn, 1) := by decide +kernel
theorem dX8_as_0 : decode cX8_as 0 = .ok (.aload_n 0, 1) := by decide +kernel
theorem dX8_as_1 : decode cX8_as 1 = .ok (.iload_n 1, 1) := by decide +kernel
theorem dX8_as_2 : decode cX8_as 2 = .ok (.invokevirtual 219, 3) := by decide +kernel
theorem dX8_as_5 : decode cX8_as 5 = .ok (.ifCond .eq 15, 3) := by decide +kernel
theorem dX8_as_8 : decode cX8_as 8 = .ok (.iload_n 2, 1) := by decide +kernel
theorem dX8_as_9 : decode cX8_as 9 = .ok (.i2l, 1) := by decide +kernel
theorem dX8_as_10 : decode cX8_as 10 = .ok (.lconst 0, 1) := by decide +kernel
theorem dX8_as_11 : decode cX8_as 11 = .ok (.ldc2_w 189, 3) := by decide +kernel
theorem dX8_as_14 : decode cX8_as 14 = .ok (.invokestatic 60, 3) := by decide +kernel
theorem dX8_as_17 : decode cX8_as 17 = .ok (.ifCond .ne 6, 3) := by decide +kernel
theorem dX8_as_20 : decode cX8_as 20 = .ok (.ldc 66, 2) := by decide +kernel
theorem dX8_as_22 : decode cX8_as 22 = .ok (.ireturn, 1) := by decide +kernel
theorem dX8_as_23 : decode cX8_as 23 = .ok (.aload_n 0, 1) := by decide +kernel
theorem dX8_as_24 : decode cX8_as 24 = .ok (.getfield 22, 3) := by decide +kernel
theorem dX8_as_27 : decode cX8_as 27 = .ok (.iconst 5, 1) := by decide +kernel
theorem dX8_as_28 : decode cX8_as 28 = .ok (.iload_n 1, 1) := by decide +kernel
theorem dX8_as_29 : decode cX8_as 29 = .ok (.iadd, 1) := by decide +kernel
theorem dX8_as_30 : decode cX8_as 30 = .ok (.iaload, 1) := by decide +kernel
theorem dX8_as_31 : decode cX8_as 31 = .ok (.iload_n 2, 1) := by decide +kernel
theorem dX8_as_32 : decode cX8_as 32 = .ok (.invokestatic 252, 3) := by decide +kernel
theorem dX8_as_35 : decode cX8_as 35 = .ok (.ifCond .eq 11, 3) := by decide +kernel
theorem dX8_as_38 : decode cX8_as 38 = .ok (.aload_n 0, 1) := by decide +kernel
theorem dX8_as_39 : decode cX8_as 39 = .ok (.iload_n 1, 1) := by decide +kernel
theorem dX8_as_40 : decode cX8_as 40 = .ok (.invokevirtual 71, 3) := by decide +kernel
theorem dX8_as_43 : decode cX8_as 43 = .ok (.goto 8, 3) := by decide +kernel
theorem dX8_as_46 : decode cX8_as 46 = .ok (.aload_n 0, 1) := by decide +kernel
theorem dX8_as_47 : decode cX8_as 47 = .ok (.iconst 3, 1) := by decide +kernel
theorem dX8_as_48 : decode cX8_as 48 = .ok (.invokevirtual 67, 3) := by decide +kernel
theorem dX8_as_51 : decode cX8_as 51 = .ok (.ireturn, 1) := by decide +kernel
theorem dX8_begins_0 : decode cX8_begins 0 = .ok (.aload_n 0, 1) := by decide +kernel
theorem dX8_begins_1 : decode cX8_begins 1 = .ok (.getfield 255, 3) := by decide +kernel
theorem dX8_begins_4 : decode cX8_begins 4 = .ok (.bipush 16, 2) := by decide +kernel
theorem dX8_begins_6 : decode cX8_begins 6 = .ok (.if_icmp .ge 23, 3) := by decide +kernel
theorem dX8_begins_9 : decode cX8_begins 9 = .ok (.aload_n 0, 1) := by decide +kernel
theorem dX8_begins_10 : decode cX8_begins 10 = .ok (.getfield 38, 3) := by decide +kernel
theorem dX8_begins_13 : decode cX8_begins 13 = .ok (.aload_n 0, 1) := by decide +kernel
theorem dX8_begins_14 : decode cX8_begins 14 = .ok (.getfield 255, 3) := by decide +kernel
theorem dX8_begins_17 : decode cX8_begins 17 = .ok (.iload_n 1, 1) := by decide +kernel
theorem dX8_begins_18 : decode cX8_begins 18 = .ok (.iastore, 1) := by decide +kernel
theorem dX8_begins_19 : decode cX8_begins 19 = .ok (.aload_n 0, 1) := by decide +kernel
theorem dX8_begins_20 : decode cX8_begins 20 = .ok (.dup, 1) := by decide +kernel
theorem dX8_begins_21 : decode cX8_begins 21 = .ok (.getfield 255, 3) := by decide +kernel
theorem dX8_begins_24 : decode cX8_begins 24 = .ok (.iconst 1, 1) := by decide +kernel
theorem dX8_begins_25 : decode cX8_begins 25 = .ok (.iadd, 1) := by decide +kernel
theorem dX8_begins_26 : decode cX8_begins 26 = .ok (.putfield 255, 3) := by decide +kernel
theorem dX8_begins_29 : decode cX8_begins 29 = .ok (.return_, 1) := by decide +kernel
theorem dX8_beginsAll_0 : decode cX8_beginsAll 0 = .ok (.iconst 1, 1) := by decide +kernel
theorem dX8_beginsAll_1 : decode cX8_beginsAll 1 = .ok (.istore_n 2, 1) := by decide +kernel
theorem dX8_beginsAll_2 : decode cX8_beginsAll 2 = .ok (.iload_n 2, 1) := by decide +kernel
theorem dX8_beginsAll_3 : decode cX8_beginsAll 3 = .ok (.iload_n 1, 1) := by decide +kernel
theorem dX8_beginsAll_4 : decode cX8_beginsAll 4 = .ok (.bipush 100, 2) := by decide +kernel
theorem dX8_beginsAll_6 : decode cX8_beginsAll 6 = .ok (.idiv, 1) := by decide +kernel
theorem dX8_beginsAll_7 : decode cX8_beginsAll 7 = .ok (.if_icmp .gt 11, 3) := by decide +kernel
theorem dX8_beginsAll_10 : decode cX8_beginsAll 10 = .ok (.iload_n 2, 1) := by decide +kernel
theorem dX8_beginsAll_11 : decode cX8_beginsAll 11 = .ok (.bipush 100, 2) := by decide +kernel
theorem dX8_beginsAll_13 : decode cX8_beginsAll 13 = .ok (.imul, 1) := by decide +kernel
theorem dX8_beginsAll_14 : decode cX8_beginsAll 14 = .ok (.istore_n 2, 1) := by decide +kernel
theorem dX8_beginsAll_15 : decode cX8_beginsAll 15 = .ok (.goto (-13), 3) := by decide +kernel
theorem dX8_beginsAll_18 : decode cX8_beginsAll 18 = .ok (.iload_n 2, 1) := by decide +kernel
theorem dX8_beginsAll_19 : decode cX8_beginsAll 19 = .ok (.ifCond .le 21, 3) := by decide +kernel
theorem dX8_beginsAll_22 : decode cX8_beginsAll 22 = .ok (.aload_n 0, 1) := by decide +kernel
theorem dX8_beginsAll_23 : decode cX8_beginsAll 23 = .ok (.iload_n 1, 1) := by decide +kernel
theorem dX8_beginsAll_24 : decode cX8_beginsAll 24 = .ok (.iload_n 2, 1) := by decide +kernel
theorem dX8_beginsAll_25 : decode cX8_beginsAll 25 = .ok (.idiv, 1) := by decide +kernel
theorem dX8_beginsAll_26 : decode cX8_beginsAll 26 = .ok (.bipush 100, 2) := by decide +kernel
theorem dX8_beginsAll_28 : decode cX8_beginsAll 28 = .ok (.irem, 1) := by decide +kernel
theorem dX8_beginsAll_29 : decode cX8_beginsAll 29 = .ok (.invokevirtual 258, 3) := by decide +kernel
theorem dX8_beginsAll_32 : decode cX8_beginsAll 32 = .ok (.iload_n 2, 1) := by decide +kernel
theorem dX8_beginsAll_33 : decode cX8_beginsAll 33 = .ok (.bipush 100, 2) := by decide +kernel
theorem dX8_beginsAll_35 : decode cX8_beginsAll 35 = .ok (.idiv, 1) := by decide +kernel
theorem dX8_beginsAll_36 : decode cX8_beginsAll 36 = .ok (.istore_n 2, 1) := by decide +kernel
theorem dX8_beginsAll_37 : decode cX8_beginsAll 37 = .ok (.goto (-19), 3) := by decide +kernel
theorem dX8_beginsAll_40 : decode cX8_beginsAll 40 = .ok (.return_, 1) := by decide +kernel
theorem dX8_sizeOf_0 : decode cX8_sizeOf 0 = .ok (.aload_n 0, 1) := by decide +kernel
theorem dX8_sizeOf_1 : decode cX8_sizeOf 1 = .ok (.getfield 22, 3) := by decide +kernel
theorem dX8_sizeOf_4 : decode cX8_sizeOf 4 = .ok (.iconst 5, 1) := by decide +kernel
theorem dX8_sizeOf_5 : decode cX8_sizeOf 5 = .ok (.iload_n 1, 1) := by decide +kernel
theorem dX8_sizeOf_6 : decode cX8_sizeOf 6 = .ok (.iadd, 1) := by decide +kernel
theorem dX8_sizeOf_7 : decode cX8_sizeOf 7 = .ok (.iaload, 1) := by decide +kernel
theorem dX8_sizeOf_8 : decode cX8_sizeOf 8 = .ok (.istore_n 2, 1) := by decide +kernel
theorem dX8_sizeOf_9 : decode cX8_sizeOf 9 = .ok (.aload_n 0, 1) := by decide +kernel
theorem dX8_sizeOf_10 : decode cX8_sizeOf 10 = .ok (.getfield 22, 3) := by decide +kernel
theorem dX8_sizeOf_13 : decode cX8_sizeOf 13 = .ok (.bipush 10, 2) := by decide +kernel
theorem dX8_sizeOf_15 : decode cX8_sizeOf 15 = .ok (.iload_n 1, 1) := by decide +kernel
theorem dX8_sizeOf_16 : decode cX8_sizeOf 16 = .ok (.iadd, 1) := by decide +kernel
theorem dX8_sizeOf_17 : decode cX8_sizeOf 17 = .ok (.iaload, 1) := by decide +kernel
theorem dX8_sizeOf_18 : decode cX8_sizeOf 18 = .ok (.istore_n 3, 1) := by decide +kernel
theorem dX8_sizeOf_19 : decode cX8_sizeOf 19 = .ok (.aload_n 0, 1) := by decide +kernel
theorem dX8_sizeOf_20 : decode cX8_sizeOf 20 = .ok (.iload_n 2, 1) := by decide +kernel
theorem dX8_sizeOf_21 : decode cX8_sizeOf 21 = .ok (.iconst 2, 1) := by decide +kernel
theorem dX8_sizeOf_22 : decode cX8_sizeOf 22 = .ok (.if_icmp .ne 9, 3) := by decide +kernel
theorem dX8_sizeOf_25 : decode cX8_sizeOf 25 = .ok (.ldc_w 262, 3) := by decide +kernel
theorem dX8_sizeOf_28 : decode cX8_sizeOf 28 = .ok (.goto 28, 3) := by decide +kernel
theorem dX8_sizeOf_31 : decode cX8_sizeOf 31 = .ok (.iload_n 2, 1) := by decide +kernel
theorem dX8_sizeOf_32 : decode cX8_sizeOf 32 = .ok (.iconst 4, 1) := by decide +kernel
theorem dX8_sizeOf_33 : decode cX8_sizeOf 33 = .ok (.if_icmp .ge 9, 3) := by decide +kernel
theorem dX8_sizeOf_36 : decode cX8_sizeOf 36 = .ok (.sipush 1110, 3) := by decide +kernel
theorem dX8_sizeOf_39 : decode cX8_sizeOf 39 = .ok (.goto 17, 3) := by decide +kernel
theorem dX8_sizeOf_42 : decode cX8_sizeOf 42 = .ok (.iload_n 2, 1) := by decide +kernel
theorem dX8_sizeOf_43 : decode cX8_sizeOf 43 = .ok (.iconst 4, 1) := by decide +kernel
theorem dX8_sizeOf_44 : decode cX8_sizeOf 44 = .ok (.if_icmp .ne 9, 3) := by decide +kernel
theorem dX8_sizeOf_47 : decode cX8_sizeOf 47 = .ok (.sipush 1310, 3) := by decide +kernel
theorem dX8_sizeOf_50 : decode cX8_sizeOf 50 = .ok (.goto 6, 3) := by decide +kernel
theorem dX8_sizeOf_53 : decode cX8_sizeOf 53 = .ok (.ldc_w 263, 3) := by decide +kernel
theorem dX8_sizeOf_56 : decode cX8_sizeOf 56 = .ok (.invokevirtual 264, 3) := by decide +kernel
theorem dX8_sizeOf_59 : decode cX8_sizeOf 59 = .ok (.iload_n 2, 1) := by decide +kernel
theorem dX8_sizeOf_60 : decode cX8_sizeOf 60 = .ok (.iconst 4, 1) := by decide +kernel
theorem dX8_sizeOf_61 : decode cX8_sizeOf 61 = .ok (.if_icmp .lt 22, 3) := by decide +kernel
theorem dX8_sizeOf_64 : decode cX8_sizeOf 64 = .ok (.iload_n 2, 1) := by decide +kernel
theorem dX8_sizeOf_65 : decode cX8_sizeOf 65 = .ok (.iconst 4, 1) := by decide +kernel
theorem dX8_sizeOf_66 : decode cX8_sizeOf 66 = .ok (.if_icmp .ne 10, 3) := by decide +kernel
theorem dX8_sizeOf_69 : decode cX8_sizeOf 69 = .ok (.iload_n 3, 1) := by decide +kernel
theorem dX8_sizeOf_70 : decode cX8_sizeOf 70 = .ok (.bipush 100, 2) := by decide +kernel
theorem dX8_sizeOf_72 : decode cX8_sizeOf 72 = .ok (.isub, 1) := by decide +kernel
theorem dX8_sizeOf_73 : decode cX8_sizeOf 73 = .ok (.goto 9, 3) := by decide +kernel
theorem dX8_sizeOf_76 : decode cX8_sizeOf 76 = .ok (.iconst 2, 1) := by decide +kernel
theorem dX8_sizeOf_77 : decode cX8_sizeOf 77 = .ok (.iload_n 3, 1) := by decide +kernel
theorem dX8_sizeOf_78 : decode cX8_sizeOf 78 = .ok (.bipush 100, 2) := by decide +kernel
theorem dX8_sizeOf_80 : decode cX8_sizeOf 80 = .ok (.isub, 1) := by decide +kernel
theorem dX8_sizeOf_81 : decode cX8_sizeOf 81 = .ok (.imul, 1) := by decide +kernel
theorem dX8_sizeOf_82 : decode cX8_sizeOf 82 = .ok (.ireturn, 1) := by decide +kernel
theorem dX8_sizeOf_83 : decode cX8_sizeOf 83 = .ok (.iload_n 3, 1) := by decide +kernel
theorem dX8_sizeOf_84 : decode cX8_sizeOf 84 = .ok (.aload_n 0, 1) := by decide +kernel
theorem dX8_sizeOf_85 : decode cX8_sizeOf 85 = .ok (.iload_n 1, 1) := by decide +kernel
theorem dX8_sizeOf_86 : decode cX8_sizeOf 86 = .ok (.invokevirtual 267, 3) := by decide +kernel
theorem dX8_sizeOf_89 : decode cX8_sizeOf 89 = .ok (.iadd, 1) := by decide +kernel
theorem dX8_sizeOf_90 : decode cX8_sizeOf 90 = .ok (.istore 4, 2) := by decide +kernel
theorem dX8_sizeOf_92 : decode cX8_sizeOf 92 = .ok (.iload_n 2, 1) := by decide +kernel
theorem dX8_sizeOf_93 : decode cX8_sizeOf 93 = .ok (.iconst 2, 1) := by decide +kernel
theorem dX8_sizeOf_94 : decode cX8_sizeOf 94 = .ok (.if_icmp .ne 9, 3) := by decide +kernel
theorem dX8_sizeOf_97 : decode cX8_sizeOf 97 = .ok (.iload 4, 2) := by decide +kernel
theorem dX8_sizeOf_99 : decode cX8_sizeOf 99 = .ok (.ineg, 1) := by decide +kernel
theorem dX8_sizeOf_100 : decode cX8_sizeOf 100 = .ok (.goto 5, 3) := by decide +kernel
theorem dX8_sizeOf_103 : decode cX8_sizeOf 103 = .ok (.iload 4, 2) := by decide +kernel
theorem dX8_sizeOf_105 : decode cX8_sizeOf 105 = .ok (.ireturn, 1) := by decide +kernel
theorem dX8_markOf_0 : decode cX8_markOf 0 = .ok (.aload_n 0, 1) := by decide +kernel
theorem dX8_markOf_1 : decode cX8_markOf 1 = .ok (.getfield 22, 3) := by decide +kernel
theorem dX8_markOf_4 : decode cX8_markOf 4 = .ok (.iconst 5, 1) := by decide +kernel
theorem dX8_markOf_5 : decode cX8_markOf 5 = .ok (.iload_n 1, 1) := by decide +kernel
theorem dX8_markOf_6 : decode cX8_markOf 6 = .ok (.iadd, 1) := by decide +kernel
theorem dX8_markOf_7 : decode cX8_markOf 7 = .ok (.iaload, 1) := by decide +kernel
theorem dX8_markOf_8 : decode cX8_markOf 8 = .ok (.istore_n 2, 1) := by decide +kernel
theorem dX8_markOf_9 : decode cX8_markOf 9 = .ok (.aload_n 0, 1) := by decide +kernel
theorem dX8_markOf_10 : decode cX8_markOf 10 = .ok (.getfield 22, 3) := by decide +kernel
theorem dX8_markOf_13 : decode cX8_markOf 13 = .ok (.bipush 10, 2) := by decide +kernel
theorem dX8_markOf_15 : decode cX8_markOf 15 = .ok (.iload_n 1, 1) := by decide +kernel
theorem dX8_markOf_16 : decode cX8_markOf 16 = .ok (.iadd, 1) := by decide +kernel
theorem dX8_markOf_17 : decode cX8_markOf 17 = .ok (.iaload, 1) := by decide +kernel
theorem dX8_markOf_18 : decode cX8_markOf 18 = .ok (.istore_n 3, 1) := by decide +kernel
theorem dX8_markOf_19 : decode cX8_markOf 19 = .ok (.iload_n 1, 1) := by decide +kernel
theorem dX8_markOf_20 : decode cX8_markOf 20 = .ok (.aload_n 0, 1) := by decide +kernel
theorem dX8_markOf_21 : decode cX8_markOf 21 = .ok (.getfield 22, 3) := by decide +kernel
theorem dX8_markOf_24 : decode cX8_markOf 24 = .ok (.bipush 15, 2) := by decide +kernel
theorem dX8_markOf_26 : decode cX8_markOf 26 = .ok (.iload_n 1, 1) := by decide +kernel
theorem dX8_markOf_27 : decode cX8_markOf 27 = .ok (.iadd, 1) := by decide +kernel
theorem dX8_markOf_28 : decode cX8_markOf 28 = .ok (.iaload, 1) := by decide +kernel
theorem dX8_markOf_29 : decode cX8_markOf 29 = .ok (.iadd, 1) := by decide +kernel
theorem dX8_markOf_30 : decode cX8_markOf 30 = .ok (.istore 4, 2) := by decide +kernel
theorem dX8_markOf_32 : decode cX8_markOf 32 = .ok (.iload_n 2, 1) := by decide +kernel
theorem dX8_markOf_33 : decode cX8_markOf 33 = .ok (.iconst 4, 1) := by decide +kernel
theorem dX8_markOf_34 : decode cX8_markOf 34 = .ok (.if_icmp .eq 8, 3) := by decide +kernel
theorem dX8_markOf_37 : decode cX8_markOf 37 = .ok (.iload_n 2, 1) := by decide +kernel
theorem dX8_markOf_38 : decode cX8_markOf 38 = .ok (.iconst 5, 1) := by decide +kernel
theorem dX8_markOf_39 : decode cX8_markOf 39 = .ok (.if_icmp .ne 51, 3) := by decide +kernel
theorem dX8_markOf_42 : decode cX8_markOf 42 = .ok (.aload_n 0, 1) := by decide +kernel
theorem dX8_markOf_43 : decode cX8_markOf 43 = .ok (.sipush 2320, 3) := by decide +kernel
theorem dX8_markOf_46 : decode cX8_markOf 46 = .ok (.invokevirtual 264, 3) := by decide +kernel
theorem dX8_markOf_49 : decode cX8_markOf 49 = .ok (.aload_n 0, 1) := by decide +kernel
theorem dX8_markOf_50 : decode cX8_markOf 50 = .ok (.iload_n 2, 1) := by decide +kernel
theorem dX8_markOf_51 : decode cX8_markOf 51 = .ok (.iconst 4, 1) := by decide +kernel
theorem dX8_markOf_52 : decode cX8_markOf 52 = .ok (.if_icmp .ne 9, 3) := by decide +kernel
theorem dX8_markOf_55 : decode cX8_markOf 55 = .ok (.sipush 1310, 3) := by decide +kernel
theorem dX8_markOf_58 : decode cX8_markOf 58 = .ok (.goto 6, 3) := by decide +kernel
theorem dX8_markOf_61 : decode cX8_markOf 61 = .ok (.ldc_w 263, 3) := by decide +kernel
theorem dX8_markOf_64 : decode cX8_markOf 64 = .ok (.invokevirtual 264, 3) := by decide +kernel
theorem dX8_markOf_67 : decode cX8_markOf 67 = .ok (.iload_n 2, 1) := by decide +kernel
theorem dX8_markOf_68 : decode cX8_markOf 68 = .ok (.iconst 4, 1) := by decide +kernel
theorem dX8_markOf_69 : decode cX8_markOf 69 = .ok (.if_icmp .ne 12, 3) := by decide +kernel
theorem dX8_markOf_72 : decode cX8_markOf 72 = .ok (.iload_n 1, 1) := by decide +kernel
theorem dX8_markOf_73 : decode cX8_markOf 73 = .ok (.iload_n 3, 1) := by decide +kernel
theorem dX8_markOf_74 : decode cX8_markOf 74 = .ok (.bipush 100, 2) := by decide +kernel
theorem dX8_markOf_76 : decode cX8_markOf 76 = .ok (.isub, 1) := by decide +kernel
theorem dX8_markOf_77 : decode cX8_markOf 77 = .ok (.isub, 1) := by decide +kernel
theorem dX8_markOf_78 : decode cX8_markOf 78 = .ok (.goto 11, 3) := by decide +kernel
theorem dX8_markOf_81 : decode cX8_markOf 81 = .ok (.iload_n 1, 1) := by decide +kernel
theorem dX8_markOf_82 : decode cX8_markOf 82 = .ok (.iconst 2, 1) := by decide +kernel
theorem dX8_markOf_83 : decode cX8_markOf 83 = .ok (.iload_n 3, 1) := by decide +kernel
theorem dX8_markOf_84 : decode cX8_markOf 84 = .ok (.bipush 100, 2) := by decide +kernel
theorem dX8_markOf_86 : decode cX8_markOf 86 = .ok (.isub, 1) := by decide +kernel
theorem dX8_markOf_87 : decode cX8_markOf 87 = .ok (.imul, 1) := by decide +kernel
theorem dX8_markOf_88 : decode cX8_markOf 88 = .ok (.isub, 1) := by decide +kernel
theorem dX8_markOf_89 : decode cX8_markOf 89 = .ok (.ireturn, 1) := by decide +kernel
theorem dX8_markOf_90 : decode cX8_markOf 90 = .ok (.aload_n 0, 1) := by decide +kernel
theorem dX8_markOf_91 : decode cX8_markOf 91 = .ok (.iload_n 2, 1) := by decide +kernel
theorem dX8_markOf_92 : decode cX8_markOf 92 = .ok (.iconst 2, 1) := by decide +kernel
theorem dX8_markOf_93 : decode cX8_markOf 93 = .ok (.if_icmp .ne 9, 3) := by decide +kernel
theorem dX8_markOf_96 : decode cX8_markOf 96 = .ok (.ldc_w 270, 3) := by decide +kernel
theorem dX8_markOf_99 : decode cX8_markOf 99 = .ok (.goto 17, 3) := by decide +kernel
theorem dX8_markOf_102 : decode cX8_markOf 102 = .ok (.iload_n 2, 1) := by decide +kernel
theorem dX8_markOf_103 : decode cX8_markOf 103 = .ok (.iconst 3, 1) := by decide +kernel
theorem dX8_markOf_104 : decode cX8_markOf 104 = .ok (.if_icmp .ne 9, 3) := by decide +kernel
theorem dX8_markOf_107 : decode cX8_markOf 107 = .ok (.ldc_w 271, 3) := by decide +kernel
theorem dX8_markOf_110 : decode cX8_markOf 110 = .ok (.goto 6, 3) := by decide +kernel
theorem dX8_markOf_113 : decode cX8_markOf 113 = .ok (.sipush 2120, 3) := by decide +kernel
theorem dX8_markOf_116 : decode cX8_markOf 116 = .ok (.invokevirtual 264, 3) := by decide +kernel
theorem dX8_markOf_119 : decode cX8_markOf 119 = .ok (.iload_n 2, 1) := by decide +kernel
theorem dX8_markOf_120 : decode cX8_markOf 120 = .ok (.iconst 2, 1) := by decide +kernel
theorem dX8_markOf_121 : decode cX8_markOf 121 = .ok (.if_icmp .ne 10, 3) := by decide +kernel
theorem dX8_markOf_124 : decode cX8_markOf 124 = .ok (.iconst 2, 1) := by decide +kernel
theorem dX8_markOf_125 : decode cX8_markOf 125 = .ok (.iload 4, 2) := by decide +kernel
theorem dX8_markOf_127 : decode cX8_markOf 127 = .ok (.imul, 1) := by decide +kernel
theorem dX8_markOf_128 : decode cX8_markOf 128 = .ok (.goto 19, 3) := by decide +kernel
theorem dX8_markOf_131 : decode cX8_markOf 131 = .ok (.iload_n 2, 1) := by decide +kernel
theorem dX8_markOf_132 : decode cX8_markOf 132 = .ok (.iconst 3, 1) := by decide +kernel
theorem dX8_markOf_133 : decode cX8_markOf 133 = .ok (.if_icmp .ne 12, 3) := by decide +kernel
theorem dX8_markOf_136 : decode cX8_markOf 136 = .ok (.iload 4, 2) := by decide +kernel
theorem dX8_markOf_138 : decode cX8_markOf 138 = .ok (.sipush 1000, 3) := by decide +kernel
theorem dX8_markOf_141 : decode cX8_markOf 141 = .ok (.isub, 1) := by decide +kernel
theorem dX8_markOf_142 : decode cX8_markOf 142 = .ok (.goto 5, 3) := by decide +kernel
theorem dX8_markOf_145 : decode cX8_markOf 145 = .ok (.iload 4, 2) := by decide +kernel
theorem dX8_markOf_147 : decode cX8_markOf 147 = .ok (.ireturn, 1) := by decide +kernel
theorem dX8_ask_0 : decode cX8_ask 0 = .ok (.aload_n 0, 1) := by decide +kernel
theorem dX8_ask_1 : decode cX8_ask 1 = .ok (.iload_n 1, 1) := by decide +kernel
theorem dX8_ask_2 : decode cX8_ask 2 = .ok (.invokevirtual 219, 3) := by decide +kernel
theorem dX8_ask_5 : decode cX8_ask 5 = .ok (.ifCond .eq 13, 3) := by decide +kernel
theorem dX8_ask_8 : decode cX8_ask 8 = .ok (.iload_n 2, 1) := by decide +kernel
theorem dX8_ask_9 : decode cX8_ask 9 = .ok (.i2l, 1) := by decide +kernel
theorem dX8_ask_10 : decode cX8_ask 10 = .ok (.lconst 0, 1) := by decide +kernel
theorem dX8_ask_11 : decode cX8_ask 11 = .ok (.lconst 1, 1) := by decide +kernel
theorem dX8_ask_12 : decode cX8_ask 12 = .ok (.invokestatic 60, 3) := by decide +kernel
theorem dX8_ask_15 : decode cX8_ask 15 = .ok (.ifCond .ne 6, 3) := by decide +kernel
theorem dX8_ask_18 : decode cX8_ask 18 = .ok (.ldc 66, 2) := by decide +kernel
theorem dX8_ask_20 : decode cX8_ask 20 = .ok (.ireturn, 1) := by decide +kernel
theorem dX8_ask_21 : decode cX8_ask 21 = .ok (.aload_n 0, 1) := by decide +kernel
theorem dX8_ask_22 : decode cX8_ask 22 = .ok (.iconst 0, 1) := by decide +kernel
theorem dX8_ask_23 : decode cX8_ask 23 = .ok (.putfield 255, 3) := by decide +kernel
theorem dX8_ask_26 : decode cX8_ask 26 = .ok (.iload_n 2, 1) := by decide +kernel
theorem dX8_ask_27 : decode cX8_ask 27 = .ok (.ifCond .ne 11, 3) := by decide +kernel
theorem dX8_ask_30 : decode cX8_ask 30 = .ok (.aload_n 0, 1) := by decide +kernel
theorem dX8_ask_31 : decode cX8_ask 31 = .ok (.iload_n 1, 1) := by decide +kernel
theorem dX8_ask_32 : decode cX8_ask 32 = .ok (.invokevirtual 272, 3) := by decide +kernel
theorem dX8_ask_35 : decode cX8_ask 35 = .ok (.goto 8, 3) := by decide +kernel
theorem dX8_ask_38 : decode cX8_ask 38 = .ok (.aload_n 0, 1) := by decide +kernel
theorem dX8_ask_39 : decode cX8_ask 39 = .ok (.iload_n 1, 1) := by decide +kernel
theorem dX8_ask_40 : decode cX8_ask 40 = .ok (.invokevirtual 267, 3) := by decide +kernel
theorem dX8_ask_43 : decode cX8_ask 43 = .ok (.ireturn, 1) := by decide +kernel
theorem dX8_trace_0 : decode cX8_trace 0 = .ok (.iload_n 1, 1) := by decide +kernel
theorem dX8_trace_1 : decode cX8_trace 1 = .ok (.i2l, 1) := by decide +kernel
theorem dX8_trace_2 : decode cX8_trace 2 = .ok (.lconst 0, 1) := by decide +kernel
theorem dX8_trace_3 : decode cX8_trace 3 = .ok (.aload_n 0, 1) := by decide +kernel
theorem dX8_trace_4 : decode cX8_trace 4 = .ok (.getfield 255, 3) := by decide +kernel
theorem dX8_trace_7 : decode cX8_trace 7 = .ok (.iconst 1, 1) := by decide +kernel
theorem dX8_trace_8 : decode cX8_trace 8 = .ok (.isub, 1) := by decide +kernel
theorem dX8_trace_9 : decode cX8_trace 9 = .ok (.i2l, 1) := by decide +kernel
theorem dX8_trace_10 : decode cX8_trace 10 = .ok (.invokestatic 60, 3) := by decide +kernel
theorem dX8_trace_13 : decode cX8_trace 13 = .ok (.ifCond .eq 12, 3) := by decide +kernel
theorem dX8_trace_16 : decode cX8_trace 16 = .ok (.aload_n 0, 1) := by decide +kernel
theorem dX8_trace_17 : decode cX8_trace 17 = .ok (.getfield 38, 3) := by decide +kernel
theorem dX8_trace_20 : decode cX8_trace 20 = .ok (.iload_n 1, 1) := by decide +kernel
theorem dX8_trace_21 : decode cX8_trace 21 = .ok (.iaload, 1) := by decide +kernel
theorem dX8_trace_22 : decode cX8_trace 22 = .ok (.goto 5, 3) := by decide +kernel
theorem dX8_trace_25 : decode cX8_trace 25 = .ok (.ldc 179, 2) := by decide +kernel
theorem dX8_trace_27 : decode cX8_trace 27 = .ok (.ireturn, 1) := by decide +kernel
theorem dX8_count_0 : decode cX8_count 0 = .ok (.iload_n 1, 1) := by decide +kernel
theorem dX8_count_1 : decode cX8_count 1 = .ok (.i2l, 1) := by decide +kernel
theorem dX8_count_2 : decode cX8_count 2 = .ok (.lconst 0, 1) := by decide +kernel
theorem dX8_count_3 : decode cX8_count 3 = .ok (.ldc2_w 232, 3) := by decide +kernel
theorem dX8_count_6 : decode cX8_count 6 = .ok (.invokestatic 60, 3) := by decide +kernel
theorem dX8_count_9 : decode cX8_count 9 = .ok (.ifCond .ne 6, 3) := by decide +kernel
theorem dX8_count_12 : decode cX8_count 12 = .ok (.ldc 66, 2) := by decide +kernel
theorem dX8_count_14 : decode cX8_count 14 = .ok (.ireturn, 1) := by decide +kernel
theorem dX8_count_15 : decode cX8_count 15 = .ok (.iconst 0, 1) := by decide +kernel
theorem dX8_count_16 : decode cX8_count 16 = .ok (.istore_n 2, 1) := by decide +kernel
theorem dX8_count_17 : decode cX8_count 17 = .ok (.iconst 0, 1) := by decide +kernel
theorem dX8_count_18 : decode cX8_count 18 = .ok (.istore_n 3, 1) := by decide +kernel
theorem dX8_count_19 : decode cX8_count 19 = .ok (.iload_n 3, 1) := by decide +kernel
theorem dX8_count_20 : decode cX8_count 20 = .ok (.bipush 8, 2) := by decide +kernel
theorem dX8_count_22 : decode cX8_count 22 = .ok (.if_icmp .ge 30, 3) := by decide +kernel
theorem dX8_count_25 : decode cX8_count 25 = .ok (.iload_n 1, 1) := by decide +kernel
theorem dX8_count_26 : decode cX8_count 26 = .ok (.ifCond .ne 26, 3) := by decide +kernel
theorem dX8_count_29 : decode cX8_count 29 = .ok (.iload_n 2, 1) := by decide +kernel
theorem dX8_count_30 : decode cX8_count 30 = .ok (.aload_n 0, 1) := by decide +kernel
theorem dX8_count_31 : decode cX8_count 31 = .ok (.getfield 7, 3) := by decide +kernel
theorem dX8_count_34 : decode cX8_count 34 = .ok (.iload_n 3, 1) := by decide +kernel
theorem dX8_count_35 : decode cX8_count 35 = .ok (.iaload, 1) := by decide +kernel
theorem dX8_count_36 : decode cX8_count 36 = .ok (.ifCond .lt 7, 3) := by decide +kernel
theorem dX8_count_39 : decode cX8_count 39 = .ok (.iconst 1, 1) := by decide +kernel
theorem dX8_count_40 : decode cX8_count 40 = .ok (.goto 4, 3) := by decide +kernel
theorem dX8_count_43 : decode cX8_count 43 = .ok (.iconst 0, 1) := by decide +kernel
theorem dX8_count_44 : decode cX8_count 44 = .ok (.iadd, 1) := by decide +kernel
theorem dX8_count_45 : decode cX8_count 45 = .ok (.istore_n 2, 1) := by decide +kernel
theorem dX8_count_46 : decode cX8_count 46 = .ok (.iinc 3 1, 3) := by decide +kernel
theorem dX8_count_49 : decode cX8_count 49 = .ok (.goto (-30), 3) := by decide +kernel
theorem dX8_count_52 : decode cX8_count 52 = .ok (.iconst 0, 1) := by decide +kernel
theorem dX8_count_53 : decode cX8_count 53 = .ok (.istore_n 3, 1) := by decide +kernel
theorem dX8_count_54 : decode cX8_count 54 = .ok (.iload_n 3, 1) := by decide +kernel
theorem dX8_count_55 : decode cX8_count 55 = .ok (.bipush 30, 2) := by decide +kernel
theorem dX8_count_57 : decode cX8_count 57 = .ok (.if_icmp .ge 27, 3) := by decide +kernel
theorem dX8_count_60 : decode cX8_count 60 = .ok (.iload_n 1, 1) := by decide +kernel
theorem dX8_count_61 : decode cX8_count 61 = .ok (.iconst 2, 1) := by decide +kernel
theorem dX8_count_62 : decode cX8_count 62 = .ok (.if_icmp .ne 22, 3) := by decide +kernel
theorem dX8_count_65 : decode cX8_count 65 = .ok (.iload_n 2, 1) := by decide +kernel
theorem dX8_count_66 : decode cX8_count 66 = .ok (.aload_n 0, 1) := by decide +kernel
theorem dX8_count_67 : decode cX8_count 67 = .ok (.getfield 22, 3) := by decide +kernel
theorem dX8_count_70 : decode cX8_count 70 = .ok (.iconst 4, 1) := by decide +kernel
theorem dX8_count_71 : decode cX8_count 71 = .ok (.iaload, 1) := by decide +kernel
theorem dX8_count_72 : decode cX8_count 72 = .ok (.iload_n 3, 1) := by decide +kernel
theorem dX8_count_73 : decode cX8_count 73 = .ok (.ishr, 1) := by decide +kernel
theorem dX8_count_74 : decode cX8_count 74 = .ok (.iconst 1, 1) := by decide +kernel
theorem dX8_count_75 : decode cX8_count 75 = .ok (.iand, 1) := by decide +kernel
theorem dX8_count_76 : decode cX8_count 76 = .ok (.iadd, 1) := by decide +kernel
theorem dX8_count_77 : decode cX8_count 77 = .ok (.istore_n 2, 1) := by decide +kernel
theorem dX8_count_78 : decode cX8_count 78 = .ok (.iinc 3 1, 3) := by decide +kernel
theorem dX8_count_81 : decode cX8_count 81 = .ok (.goto (-27), 3) := by decide +kernel
theorem dX8_count_84 : decode cX8_count 84 = .ok (.iconst 0, 1) := by decide +kernel
theorem dX8_count_85 : decode cX8_count 85 = .ok (.istore_n 3, 1) := by decide +kernel
theorem dX8_count_86 : decode cX8_count 86 = .ok (.iload_n 3, 1) := by decide +kernel
theorem dX8_count_87 : decode cX8_count 87 = .ok (.iconst 5, 1) := by decide +kernel
theorem dX8_count_88 : decode cX8_count 88 = .ok (.if_icmp .ge 26, 3) := by decide +kernel
theorem dX8_count_91 : decode cX8_count 91 = .ok (.iload_n 1, 1) := by decide +kernel
theorem dX8_count_92 : decode cX8_count 92 = .ok (.iconst 5, 1) := by decide +kernel
theorem dX8_count_93 : decode cX8_count 93 = .ok (.if_icmp .ne 21, 3) := by decide +kernel
theorem dX8_count_96 : decode cX8_count 96 = .ok (.iload_n 2, 1) := by decide +kernel
theorem dX8_count_97 : decode cX8_count 97 = .ok (.aload_n 0, 1) := by decide +kernel
theorem dX8_count_98 : decode cX8_count 98 = .ok (.getfield 22, 3) := by decide +kernel
theorem dX8_count_101 : decode cX8_count 101 = .ok (.bipush 20, 2) := by decide +kernel
theorem dX8_count_103 : decode cX8_count 103 = .ok (.iload_n 3, 1) := by decide +kernel
theorem dX8_count_104 : decode cX8_count 104 = .ok (.iadd, 1) := by decide +kernel
theorem dX8_count_105 : decode cX8_count 105 = .ok (.iaload, 1) := by decide +kernel
theorem dX8_count_106 : decode cX8_count 106 = .ok (.iadd, 1) := by decide +kernel
theorem dX8_count_107 : decode cX8_count 107 = .ok (.istore_n 2, 1) := by decide +kernel
theorem dX8_count_108 : decode cX8_count 108 = .ok (.iinc 3 1, 3) := by decide +kernel
theorem dX8_count_111 : decode cX8_count 111 = .ok (.goto (-25), 3) := by decide +kernel
theorem dX8_count_114 : decode cX8_count 114 = .ok (.iload_n 1, 1) := by decide +kernel
theorem dX8_count_115 : decode cX8_count 115 = .ok (.iconst 1, 1) := by decide +kernel
theorem dX8_count_116 : decode cX8_count 116 = .ok (.if_icmp .ne 12, 3) := by decide +kernel
theorem dX8_count_119 : decode cX8_count 119 = .ok (.aload_n 0, 1) := by decide +kernel
theorem dX8_count_120 : decode cX8_count 120 = .ok (.getfield 22, 3) := by decide +kernel
theorem dX8_count_123 : decode cX8_count 123 = .ok (.iconst 3, 1) := by decide +kernel
theorem dX8_count_124 : decode cX8_count 124 = .ok (.iaload, 1) := by decide +kernel
theorem dX8_count_125 : decode cX8_count 125 = .ok (.goto 43, 3) := by decide +kernel
theorem dX8_count_128 : decode cX8_count 128 = .ok (.iload_n 1, 1) := by decide +kernel
theorem dX8_count_129 : decode cX8_count 129 = .ok (.iconst 3, 1) := by decide +kernel
theorem dX8_count_130 : decode cX8_count 130 = .ok (.if_icmp .ne 12, 3) := by decide +kernel
theorem dX8_count_133 : decode cX8_count 133 = .ok (.aload_n 0, 1) := by decide +kernel
theorem dX8_count_134 : decode cX8_count 134 = .ok (.getfield 22, 3) := by decide +kernel
theorem dX8_count_137 : decode cX8_count 137 = .ok (.iconst 1, 1) := by decide +kernel
theorem dX8_count_138 : decode cX8_count 138 = .ok (.iaload, 1) := by decide +kernel
theorem dX8_count_139 : decode cX8_count 139 = .ok (.goto 29, 3) := by decide +kernel
theorem dX8_count_142 : decode cX8_count 142 = .ok (.iload_n 1, 1) := by decide +kernel
theorem dX8_count_143 : decode cX8_count 143 = .ok (.iconst 4, 1) := by decide +kernel
theorem dX8_count_144 : decode cX8_count 144 = .ok (.if_icmp .ne 10, 3) := by decide +kernel
theorem dX8_count_147 : decode cX8_count 147 = .ok (.aload_n 0, 1) := by decide +kernel
theorem dX8_count_148 : decode cX8_count 148 = .ok (.getfield 164, 3) := by decide +kernel
theorem dX8_count_151 : decode cX8_count 151 = .ok (.goto 17, 3) := by decide +kernel
theorem dX8_count_154 : decode cX8_count 154 = .ok (.iload_n 1, 1) := by decide +kernel
theorem dX8_count_155 : decode cX8_count 155 = .ok (.bipush 6, 2) := by decide +kernel
theorem dX8_count_157 : decode cX8_count 157 = .ok (.if_icmp .ne 10, 3) := by decide +kernel
theorem dX8_count_160 : decode cX8_count 160 = .ok (.aload_n 0, 1) := by decide +kernel
theorem dX8_count_161 : decode cX8_count 161 = .ok (.getfield 76, 3) := by decide +kernel
theorem dX8_count_164 : decode cX8_count 164 = .ok (.goto 4, 3) := by decide +kernel
theorem dX8_count_167 : decode cX8_count 167 = .ok (.iload_n 2, 1) := by decide +kernel
theorem dX8_count_168 : decode cX8_count 168 = .ok (.ireturn, 1) := by decide +kernel
theorem dX8_status_0 : decode cX8_status 0 = .ok (.aload_n 0, 1) := by decide +kernel
theorem dX8_status_1 : decode cX8_status 1 = .ok (.getfield 53, 3) := by decide +kernel
theorem dX8_status_4 : decode cX8_status 4 = .ok (.ireturn, 1) := by decide +kernel
theorem dL_law_0 : decode cL_law 0 = .ok (.new 7, 3) := by decide +kernel
theorem dL_law_3 : decode cL_law 3 = .ok (.dup, 1) := by decide +kernel
theorem dL_law_4 : decode cL_law 4 = .ok (.invokespecial 9, 3) := by decide +kernel
theorem dL_law_7 : decode cL_law 7 = .ok (.astore_n 1, 1) := by decide +kernel
theorem dL_law_8 : decode cL_law 8 = .ok (.new 10, 3) := by decide +kernel
theorem dL_law_11 : decode cL_law 11 = .ok (.dup, 1) := by decide +kernel
theorem dL_law_12 : decode cL_law 12 = .ok (.invokespecial 12, 3) := by decide +kernel
theorem dL_law_15 : decode cL_law 15 = .ok (.astore_n 2, 1) := by decide +kernel
theorem dL_law_16 : decode cL_law 16 = .ok (.iconst 0, 1) := by decide +kernel
theorem dL_law_17 : decode cL_law 17 = .ok (.istore_n 3, 1) := by decide +kernel
theorem dL_law_18 : decode cL_law 18 = .ok (.iload_n 3, 1) := by decide +kernel
theorem dL_law_19 : decode cL_law 19 = .ok (.aload_n 0, 1) := by decide +kernel
theorem dL_law_20 : decode cL_law 20 = .ok (.arraylength, 1) := by decide +kernel
theorem dL_law_21 : decode cL_law 21 = .ok (.bipush 6, 2) := by decide +kernel
theorem dL_law_23 : decode cL_law 23 = .ok (.isub, 1) := by decide +kernel
theorem dL_law_24 : decode cL_law 24 = .ok (.if_icmp .gt 1277, 3) := by decide +kernel
theorem dL_law_27 : decode cL_law 27 = .ok (.aload_n 0, 1) := by decide +kernel
theorem dL_law_28 : decode cL_law 28 = .ok (.iload_n 3, 1) := by decide +kernel
theorem dL_law_29 : decode cL_law 29 = .ok (.iaload, 1) := by decide +kernel
theorem dL_law_30 : decode cL_law 30 = .ok (.bipush 31, 2) := by decide +kernel
theorem dL_law_32 : decode cL_law 32 = .ok (.iand, 1) := by decide +kernel
theorem dL_law_33 : decode cL_law 33 = .ok (.tableswitch 1262 0 30 #[139, 182, 225, 288, 311, 374, 387, 400, 453, 486, 519, 532, 565, 598, 631, 684, 747, 790, 853, 896, 929, 962, 1005, 1068, 1091, 1114, 1137, 1170, 1203, 1226, 1249], 139) := by decide +kernel
theorem dL_law_172 : decode cL_law 172 = .ok (.aload_n 1, 1) := by decide +kernel
theorem dL_law_173 : decode cL_law 173 = .ok (.aload_n 0, 1) := by decide +kernel
theorem dL_law_174 : decode cL_law 174 = .ok (.iload_n 3, 1) := by decide +kernel
theorem dL_law_175 : decode cL_law 175 = .ok (.iconst 1, 1) := by decide +kernel
theorem dL_law_176 : decode cL_law 176 = .ok (.iadd, 1) := by decide +kernel
theorem dL_law_177 : decode cL_law 177 = .ok (.iaload, 1) := by decide +kernel
theorem dL_law_178 : decode cL_law 178 = .ok (.aload_n 0, 1) := by decide +kernel
theorem dL_law_179 : decode cL_law 179 = .ok (.iload_n 3, 1) := by decide +kernel
theorem dL_law_180 : decode cL_law 180 = .ok (.iconst 2, 1) := by decide +kernel
theorem dL_law_181 : decode cL_law 181 = .ok (.iadd, 1) := by decide +kernel
theorem dL_law_182 : decode cL_law 182 = .ok (.iaload, 1) := by decide +kernel
theorem dL_law_183 : decode cL_law 183 = .ok (.aload_n 0, 1) := by decide +kernel
theorem dL_law_184 : decode cL_law 184 = .ok (.iload_n 3, 1) := by decide +kernel
theorem dL_law_185 : decode cL_law 185 = .ok (.iconst 3, 1) := by decide +kernel
theorem dL_law_186 : decode cL_law 186 = .ok (.iadd, 1) := by decide +kernel
theorem dL_law_187 : decode cL_law 187 = .ok (.iaload, 1) := by decide +kernel
theorem dL_law_188 : decode cL_law 188 = .ok (.invokevirtual 13, 3) := by decide +kernel
theorem dL_law_191 : decode cL_law 191 = .ok (.aload_n 2, 1) := by decide +kernel
theorem dL_law_192 : decode cL_law 192 = .ok (.aload_n 0, 1) := by decide +kernel
theorem dL_law_193 : decode cL_law 193 = .ok (.iload_n 3, 1) := by decide +kernel
theorem dL_law_194 : decode cL_law 194 = .ok (.iconst 1, 1) := by decide +kernel
theorem dL_law_195 : decode cL_law 195 = .ok (.iadd, 1) := by decide +kernel
theorem dL_law_196 : decode cL_law 196 = .ok (.iaload, 1) := by decide +kernel
theorem dL_law_197 : decode cL_law 197 = .ok (.aload_n 0, 1) := by decide +kernel
theorem dL_law_198 : decode cL_law 198 = .ok (.iload_n 3, 1) := by decide +kernel
theorem dL_law_199 : decode cL_law 199 = .ok (.iconst 2, 1) := by decide +kernel
theorem dL_law_200 : decode cL_law 200 = .ok (.iadd, 1) := by decide +kernel
theorem dL_law_201 : decode cL_law 201 = .ok (.iaload, 1) := by decide +kernel
theorem dL_law_202 : decode cL_law 202 = .ok (.aload_n 0, 1) := by decide +kernel
theorem dL_law_203 : decode cL_law 203 = .ok (.iload_n 3, 1) := by decide +kernel
theorem dL_law_204 : decode cL_law 204 = .ok (.iconst 3, 1) := by decide +kernel
theorem dL_law_205 : decode cL_law 205 = .ok (.iadd, 1) := by decide +kernel
theorem dL_law_206 : decode cL_law 206 = .ok (.iaload, 1) := by decide +kernel
theorem dL_law_207 : decode cL_law 207 = .ok (.invokevirtual 17, 3) := by decide +kernel
theorem dL_law_210 : decode cL_law 210 = .ok (.if_icmp .eq 1085, 3) := by decide +kernel
theorem dL_law_213 : decode cL_law 213 = .ok (.iconst 0, 1) := by decide +kernel
theorem dL_law_214 : decode cL_law 214 = .ok (.ireturn, 1) := by decide +kernel
theorem dL_law_215 : decode cL_law 215 = .ok (.aload_n 1, 1) := by decide +kernel
theorem dL_law_216 : decode cL_law 216 = .ok (.aload_n 0, 1) := by decide +kernel
theorem dL_law_217 : decode cL_law 217 = .ok (.iload_n 3, 1) := by decide +kernel
theorem dL_law_218 : decode cL_law 218 = .ok (.iconst 1, 1) := by decide +kernel
theorem dL_law_219 : decode cL_law 219 = .ok (.iadd, 1) := by decide +kernel
theorem dL_law_220 : decode cL_law 220 = .ok (.iaload, 1) := by decide +kernel
theorem dL_law_221 : decode cL_law 221 = .ok (.aload_n 0, 1) := by decide +kernel
theorem dL_law_222 : decode cL_law 222 = .ok (.iload_n 3, 1) := by decide +kernel
theorem dL_law_223 : decode cL_law 223 = .ok (.iconst 2, 1) := by decide +kernel
theorem dL_law_224 : decode cL_law 224 = .ok (.iadd, 1) := by decide +kernel
theorem dL_law_225 : decode cL_law 225 = .ok (.iaload, 1) := by decide +kernel
theorem dL_law_226 : decode cL_law 226 = .ok (.aload_n 0, 1) := by decide +kernel
theorem dL_law_227 : decode cL_law 227 = .ok (.iload_n 3, 1) := by decide +kernel
theorem dL_law_228 : decode cL_law 228 = .ok (.iconst 3, 1) := by decide +kernel
theorem dL_law_229 : decode cL_law 229 = .ok (.iadd, 1) := by decide +kernel
theorem dL_law_230 : decode cL_law 230 = .ok (.iaload, 1) := by decide +kernel
theorem dL_law_231 : decode cL_law 231 = .ok (.invokevirtual 18, 3) := by decide +kernel
theorem dL_law_234 : decode cL_law 234 = .ok (.aload_n 2, 1) := by decide +kernel
theorem dL_law_235 : decode cL_law 235 = .ok (.aload_n 0, 1) := by decide +kernel
theorem dL_law_236 : decode cL_law 236 = .ok (.iload_n 3, 1) := by decide +kernel
theorem dL_law_237 : decode cL_law 237 = .ok (.iconst 1, 1) := by decide +kernel
theorem dL_law_238 : decode cL_law 238 = .ok (.iadd, 1) := by decide +kernel
theorem dL_law_239 : decode cL_law 239 = .ok (.iaload, 1) := by decide +kernel
theorem dL_law_240 : decode cL_law 240 = .ok (.aload_n 0, 1) := by decide +kernel
theorem dL_law_241 : decode cL_law 241 = .ok (.iload_n 3, 1) := by decide +kernel
theorem dL_law_242 : decode cL_law 242 = .ok (.iconst 2, 1) := by decide +kernel
theorem dL_law_243 : decode cL_law 243 = .ok (.iadd, 1) := by decide +kernel
theorem dL_law_244 : decode cL_law 244 = .ok (.iaload, 1) := by decide +kernel
theorem dL_law_245 : decode cL_law 245 = .ok (.aload_n 0, 1) := by decide +kernel
theorem dL_law_246 : decode cL_law 246 = .ok (.iload_n 3, 1) := by decide +kernel
theorem dL_law_247 : decode cL_law 247 = .ok (.iconst 3, 1) := by decide +kernel
theorem dL_law_248 : decode cL_law 248 = .ok (.iadd, 1) := by decide +kernel
theorem dL_law_249 : decode cL_law 249 = .ok (.iaload, 1) := by decide +kernel
theorem dL_law_250 : decode cL_law 250 = .ok (.invokevirtual 21, 3) := by decide +kernel
theorem dL_law_253 : decode cL_law 253 = .ok (.if_icmp .eq 1042, 3) := by decide +kernel
theorem dL_law_256 : decode cL_law 256 = .ok (.iconst 0, 1) := by decide +kernel
theorem dL_law_257 : decode cL_law 257 = .ok (.ireturn, 1) := by decide +kernel
theorem dL_law_258 : decode cL_law 258 = .ok (.aload_n 1, 1) := by decide +kernel
theorem dL_law_259 : decode cL_law 259 = .ok (.aload_n 0, 1) := by decide +kernel
theorem dL_law_260 : decode cL_law 260 = .ok (.iload_n 3, 1) := by decide +kernel
theorem dL_law_261 : decode cL_law 261 = .ok (.iconst 1, 1) := by decide +kernel
theorem dL_law_262 : decode cL_law 262 = .ok (.iadd, 1) := by decide +kernel
theorem dL_law_263 : decode cL_law 263 = .ok (.iaload, 1) := by decide +kernel
theorem dL_law_264 : decode cL_law 264 = .ok (.aload_n 0, 1) := by decide +kernel
theorem dL_law_265 : decode cL_law 265 = .ok (.iload_n 3, 1) := by decide +kernel
theorem dL_law_266 : decode cL_law 266 = .ok (.iconst 2, 1) := by decide +kernel
theorem dL_law_267 : decode cL_law 267 = .ok (.iadd, 1) := by decide +kernel
theorem dL_law_268 : decode cL_law 268 = .ok (.iaload, 1) := by decide +kernel
theorem dL_law_269 : decode cL_law 269 = .ok (.aload_n 0, 1) := by decide +kernel
theorem dL_law_270 : decode cL_law 270 = .ok (.iload_n 3, 1) := by decide +kernel
theorem dL_law_271 : decode cL_law 271 = .ok (.iconst 3, 1) := by decide +kernel
theorem dL_law_272 : decode cL_law 272 = .ok (.iadd, 1) := by decide +kernel
theorem dL_law_273 : decode cL_law 273 = .ok (.iaload, 1) := by decide +kernel
theorem dL_law_274 : decode cL_law 274 = .ok (.aload_n 0, 1) := by decide +kernel
theorem dL_law_275 : decode cL_law 275 = .ok (.iload_n 3, 1) := by decide +kernel
theorem dL_law_276 : decode cL_law 276 = .ok (.iconst 4, 1) := by decide +kernel
theorem dL_law_277 : decode cL_law 277 = .ok (.iadd, 1) := by decide +kernel
theorem dL_law_278 : decode cL_law 278 = .ok (.iaload, 1) := by decide +kernel
theorem dL_law_279 : decode cL_law 279 = .ok (.aload_n 0, 1) := by decide +kernel
theorem dL_law_280 : decode cL_law 280 = .ok (.iload_n 3, 1) := by decide +kernel
theorem dL_law_281 : decode cL_law 281 = .ok (.iconst 5, 1) := by decide +kernel
theorem dL_law_282 : decode cL_law 282 = .ok (.iadd, 1) := by decide +kernel
theorem dL_law_283 : decode cL_law 283 = .ok (.iaload, 1) := by decide +kernel
theorem dL_law_284 : decode cL_law 284 = .ok (.invokevirtual 22, 3) := by decide +kernel
theorem dL_law_287 : decode cL_law 287 = .ok (.aload_n 2, 1) := by decide +kernel
theorem dL_law_288 : decode cL_law 288 = .ok (.aload_n 0, 1) := by decide +kernel
theorem dL_law_289 : decode cL_law 289 = .ok (.iload_n 3, 1) := by decide +kernel
theorem dL_law_290 : decode cL_law 290 = .ok (.iconst 1, 1) := by decide +kernel
theorem dL_law_291 : decode cL_law 291 = .ok (.iadd, 1) := by decide +kernel
theorem dL_law_292 : decode cL_law 292 = .ok (.iaload, 1) := by decide +kernel
theorem dL_law_293 : decode cL_law 293 = .ok (.aload_n 0, 1) := by decide +kernel
theorem dL_law_294 : decode cL_law 294 = .ok (.iload_n 3, 1) := by decide +kernel
theorem dL_law_295 : decode cL_law 295 = .ok (.iconst 2, 1) := by decide +kernel
theorem dL_law_296 : decode cL_law 296 = .ok (.iadd, 1) := by decide +kernel
theorem dL_law_297 : decode cL_law 297 = .ok (.iaload, 1) := by decide +kernel
theorem dL_law_298 : decode cL_law 298 = .ok (.aload_n 0, 1) := by decide +kernel
theorem dL_law_299 : decode cL_law 299 = .ok (.iload_n 3, 1) := by decide +kernel
theorem dL_law_300 : decode cL_law 300 = .ok (.iconst 3, 1) := by decide +kernel
theorem dL_law_301 : decode cL_law 301 = .ok (.iadd, 1) := by decide +kernel
theorem dL_law_302 : decode cL_law 302 = .ok (.iaload, 1) := by decide +kernel
theorem dL_law_303 : decode cL_law 303 = .ok (.aload_n 0, 1) := by decide +kernel
theorem dL_law_304 : decode cL_law 304 = .ok (.iload_n 3, 1) := by decide +kernel
theorem dL_law_305 : decode cL_law 305 = .ok (.iconst 4, 1) := by decide +kernel
theorem dL_law_306 : decode cL_law 306 = .ok (.iadd, 1) := by decide +kernel
theorem dL_law_307 : decode cL_law 307 = .ok (.iaload, 1) := by decide +kernel
theorem dL_law_308 : decode cL_law 308 = .ok (.aload_n 0, 1) := by decide +kernel
theorem dL_law_309 : decode cL_law 309 = .ok (.iload_n 3, 1) := by decide +kernel
theorem dL_law_310 : decode cL_law 310 = .ok (.iconst 5, 1) := by decide +kernel
theorem dL_law_311 : decode cL_law 311 = .ok (.iadd, 1) := by decide +kernel
theorem dL_law_312 : decode cL_law 312 = .ok (.iaload, 1) := by decide +kernel
theorem dL_law_313 : decode cL_law 313 = .ok (.invokevirtual 26, 3) := by decide +kernel
theorem dL_law_316 : decode cL_law 316 = .ok (.if_icmp .eq 979, 3) := by decide +kernel
theorem dL_law_319 : decode cL_law 319 = .ok (.iconst 0, 1) := by decide +kernel
theorem dL_law_320 : decode cL_law 320 = .ok (.ireturn, 1) := by decide +kernel
theorem dL_law_321 : decode cL_law 321 = .ok (.aload_n 1, 1) := by decide +kernel
theorem dL_law_322 : decode cL_law 322 = .ok (.aload_n 0, 1) := by decide +kernel
theorem dL_law_323 : decode cL_law 323 = .ok (.iload_n 3, 1) := by decide +kernel
theorem dL_law_324 : decode cL_law 324 = .ok (.iconst 1, 1) := by decide +kernel
theorem dL_law_325 : decode cL_law 325 = .ok (.iadd, 1) := by decide +kernel
theorem dL_law_326 : decode cL_law 326 = .ok (.iaload, 1) := by decide +kernel
theorem dL_law_327 : decode cL_law 327 = .ok (.invokevirtual 27, 3) := by decide +kernel
theorem dL_law_330 : decode cL_law 330 = .ok (.aload_n 2, 1) := by decide +kernel
theorem dL_law_331 : decode cL_law 331 = .ok (.aload_n 0, 1) := by decide +kernel
theorem dL_law_332 : decode cL_law 332 = .ok (.iload_n 3, 1) := by decide +kernel
theorem dL_law_333 : decode cL_law 333 = .ok (.iconst 1, 1) := by decide +kernel
theorem dL_law_334 : decode cL_law 334 = .ok (.iadd, 1) := by decide +kernel
theorem dL_law_335 : decode cL_law 335 = .ok (.iaload, 1) := by decide +kernel
theorem dL_law_336 : decode cL_law 336 = .ok (.invokevirtual 31, 3) := by decide +kernel
theorem dL_law_339 : decode cL_law 339 = .ok (.if_icmp .eq 956, 3) := by decide +kernel
theorem dL_law_342 : decode cL_law 342 = .ok (.iconst 0, 1) := by decide +kernel
theorem dL_law_343 : decode cL_law 343 = .ok (.ireturn, 1) := by decide +kernel
theorem dL_law_344 : decode cL_law 344 = .ok (.aload_n 1, 1) := by decide +kernel
theorem dL_law_345 : decode cL_law 345 = .ok (.aload_n 0, 1) := by decide +kernel
theorem dL_law_346 : decode cL_law 346 = .ok (.iload_n 3, 1) := by decide +kernel
theorem dL_law_347 : decode cL_law 347 = .ok (.iconst 1, 1) := by decide +kernel
theorem dL_law_348 : decode cL_law 348 = .ok (.iadd, 1) := by decide +kernel
theorem dL_law_349 : decode cL_law 349 = .ok (.iaload, 1) := by decide +kernel
theorem dL_law_350 : decode cL_law 350 = .ok (.i2l, 1) := by decide +kernel
theorem dL_law_351 : decode cL_law 351 = .ok (.bipush 32, 2) := by decide +kernel
theorem dL_law_353 : decode cL_law 353 = .ok (.lshl, 1) := by decide +kernel
theorem dL_law_354 : decode cL_law 354 = .ok (.aload_n 0, 1) := by decide +kernel
theorem dL_law_355 : decode cL_law 355 = .ok (.iload_n 3, 1) := by decide +kernel
theorem dL_law_356 : decode cL_law 356 = .ok (.iconst 2, 1) := by decide +kernel
theorem dL_law_357 : decode cL_law 357 = .ok (.iadd, 1) := by decide +kernel
theorem dL_law_358 : decode cL_law 358 = .ok (.iaload, 1) := by decide +kernel
theorem dL_law_359 : decode cL_law 359 = .ok (.i2l, 1) := by decide +kernel
theorem dL_law_360 : decode cL_law 360 = .ok (.ldc2_w 32, 3) := by decide +kernel
theorem dL_law_363 : decode cL_law 363 = .ok (.land, 1) := by decide +kernel
theorem dL_law_364 : decode cL_law 364 = .ok (.lor, 1) := by decide +kernel
theorem dL_law_365 : decode cL_law 365 = .ok (.aload_n 0, 1) := by decide +kernel
theorem dL_law_366 : decode cL_law 366 = .ok (.iload_n 3, 1) := by decide +kernel
theorem dL_law_367 : decode cL_law 367 = .ok (.iconst 3, 1) := by decide +kernel
theorem dL_law_368 : decode cL_law 368 = .ok (.iadd, 1) := by decide +kernel
theorem dL_law_369 : decode cL_law 369 = .ok (.iaload, 1) := by decide +kernel
theorem dL_law_370 : decode cL_law 370 = .ok (.invokevirtual 34, 3) := by decide +kernel
theorem dL_law_373 : decode cL_law 373 = .ok (.aload_n 2, 1) := by decide +kernel
theorem dL_law_374 : decode cL_law 374 = .ok (.aload_n 0, 1) := by decide +kernel
theorem dL_law_375 : decode cL_law 375 = .ok (.iload_n 3, 1) := by decide +kernel
theorem dL_law_376 : decode cL_law 376 = .ok (.iconst 1, 1) := by decide +kernel
theorem dL_law_377 : decode cL_law 377 = .ok (.iadd, 1) := by decide +kernel
theorem dL_law_378 : decode cL_law 378 = .ok (.iaload, 1) := by decide +kernel
theorem dL_law_379 : decode cL_law 379 = .ok (.i2l, 1) := by decide +kernel
theorem dL_law_380 : decode cL_law 380 = .ok (.bipush 32, 2) := by decide +kernel
theorem dL_law_382 : decode cL_law 382 = .ok (.lshl, 1) := by decide +kernel
theorem dL_law_383 : decode cL_law 383 = .ok (.aload_n 0, 1) := by decide +kernel
theorem dL_law_384 : decode cL_law 384 = .ok (.iload_n 3, 1) := by decide +kernel
theorem dL_law_385 : decode cL_law 385 = .ok (.iconst 2, 1) := by decide +kernel
theorem dL_law_386 : decode cL_law 386 = .ok (.iadd, 1) := by decide +kernel
theorem dL_law_387 : decode cL_law 387 = .ok (.iaload, 1) := by decide +kernel
theorem dL_law_388 : decode cL_law 388 = .ok (.i2l, 1) := by decide +kernel
theorem dL_law_389 : decode cL_law 389 = .ok (.ldc2_w 32, 3) := by decide +kernel
theorem dL_law_392 : decode cL_law 392 = .ok (.land, 1) := by decide +kernel
theorem dL_law_393 : decode cL_law 393 = .ok (.lor, 1) := by decide +kernel
theorem dL_law_394 : decode cL_law 394 = .ok (.aload_n 0, 1) := by decide +kernel
theorem dL_law_395 : decode cL_law 395 = .ok (.iload_n 3, 1) := by decide +kernel
theorem dL_law_396 : decode cL_law 396 = .ok (.iconst 3, 1) := by decide +kernel
theorem dL_law_397 : decode cL_law 397 = .ok (.iadd, 1) := by decide +kernel
theorem dL_law_398 : decode cL_law 398 = .ok (.iaload, 1) := by decide +kernel
theorem dL_law_399 : decode cL_law 399 = .ok (.invokevirtual 38, 3) := by decide +kernel
theorem dL_law_402 : decode cL_law 402 = .ok (.if_icmp .eq 893, 3) := by decide +kernel
theorem dL_law_405 : decode cL_law 405 = .ok (.iconst 0, 1) := by decide +kernel
theorem dL_law_406 : decode cL_law 406 = .ok (.ireturn, 1) := by decide +kernel
theorem dL_law_407 : decode cL_law 407 = .ok (.aload_n 1, 1) := by decide +kernel
theorem dL_law_408 : decode cL_law 408 = .ok (.invokevirtual 39, 3) := by decide +kernel
theorem dL_law_411 : decode cL_law 411 = .ok (.aload_n 2, 1) := by decide +kernel
theorem dL_law_412 : decode cL_law 412 = .ok (.invokevirtual 43, 3) := by decide +kernel
theorem dL_law_415 : decode cL_law 415 = .ok (.if_icmp .eq 880, 3) := by decide +kernel
theorem dL_law_418 : decode cL_law 418 = .ok (.iconst 0, 1) := by decide +kernel
theorem dL_law_419 : decode cL_law 419 = .ok (.ireturn, 1) := by decide +kernel
theorem dL_law_420 : decode cL_law 420 = .ok (.aload_n 1, 1) := by decide +kernel
theorem dL_law_421 : decode cL_law 421 = .ok (.invokevirtual 44, 3) := by decide +kernel
theorem dL_law_424 : decode cL_law 424 = .ok (.aload_n 2, 1) := by decide +kernel
theorem dL_law_425 : decode cL_law 425 = .ok (.invokevirtual 47, 3) := by decide +kernel
theorem dL_law_428 : decode cL_law 428 = .ok (.if_icmp .eq 867, 3) := by decide +kernel
theorem dL_law_431 : decode cL_law 431 = .ok (.iconst 0, 1) := by decide +kernel
theorem dL_law_432 : decode cL_law 432 = .ok (.ireturn, 1) := by decide +kernel
theorem dL_law_433 : decode cL_law 433 = .ok (.aload_n 1, 1) := by decide +kernel
theorem dL_law_434 : decode cL_law 434 = .ok (.aload_n 0, 1) := by decide +kernel
theorem dL_law_435 : decode cL_law 435 = .ok (.iload_n 3, 1) := by decide +kernel
theorem dL_law_436 : decode cL_law 436 = .ok (.iconst 1, 1) := by decide +kernel
theorem dL_law_437 : decode cL_law 437 = .ok (.iadd, 1) := by decide +kernel
theorem dL_law_438 : decode cL_law 438 = .ok (.iaload, 1) := by decide +kernel
theorem dL_law_439 : decode cL_law 439 = .ok (.aload_n 0, 1) := by decide +kernel
theorem dL_law_440 : decode cL_law 440 = .ok (.iload_n 3, 1) := by decide +kernel
theorem dL_law_441 : decode cL_law 441 = .ok (.iconst 2, 1) := by decide +kernel
theorem dL_law_442 : decode cL_law 442 = .ok (.iadd, 1) := by decide +kernel
theorem dL_law_443 : decode cL_law 443 = .ok (.iaload, 1) := by decide +kernel
theorem dL_law_444 : decode cL_law 444 = .ok (.aload_n 0, 1) := by decide +kernel
theorem dL_law_445 : decode cL_law 445 = .ok (.iload_n 3, 1) := by decide +kernel
theorem dL_law_446 : decode cL_law 446 = .ok (.iconst 3, 1) := by decide +kernel
theorem dL_law_447 : decode cL_law 447 = .ok (.iadd, 1) := by decide +kernel
theorem dL_law_448 : decode cL_law 448 = .ok (.iaload, 1) := by decide +kernel
theorem dL_law_449 : decode cL_law 449 = .ok (.aload_n 0, 1) := by decide +kernel
theorem dL_law_450 : decode cL_law 450 = .ok (.iload_n 3, 1) := by decide +kernel
theorem dL_law_451 : decode cL_law 451 = .ok (.iconst 4, 1) := by decide +kernel
theorem dL_law_452 : decode cL_law 452 = .ok (.iadd, 1) := by decide +kernel
theorem dL_law_453 : decode cL_law 453 = .ok (.iaload, 1) := by decide +kernel
theorem dL_law_454 : decode cL_law 454 = .ok (.invokevirtual 48, 3) := by decide +kernel
theorem dL_law_457 : decode cL_law 457 = .ok (.aload_n 2, 1) := by decide +kernel
theorem dL_law_458 : decode cL_law 458 = .ok (.aload_n 0, 1) := by decide +kernel
theorem dL_law_459 : decode cL_law 459 = .ok (.iload_n 3, 1) := by decide +kernel
theorem dL_law_460 : decode cL_law 460 = .ok (.iconst 1, 1) := by decide +kernel
theorem dL_law_461 : decode cL_law 461 = .ok (.iadd, 1) := by decide +kernel
theorem dL_law_462 : decode cL_law 462 = .ok (.iaload, 1) := by decide +kernel
theorem dL_law_463 : decode cL_law 463 = .ok (.aload_n 0, 1) := by decide +kernel
theorem dL_law_464 : decode cL_law 464 = .ok (.iload_n 3, 1) := by decide +kernel
theorem dL_law_465 : decode cL_law 465 = .ok (.iconst 2, 1) := by decide +kernel
theorem dL_law_466 : decode cL_law 466 = .ok (.iadd, 1) := by decide +kernel
theorem dL_law_467 : decode cL_law 467 = .ok (.iaload, 1) := by decide +kernel
theorem dL_law_468 : decode cL_law 468 = .ok (.aload_n 0, 1) := by decide +kernel
theorem dL_law_469 : decode cL_law 469 = .ok (.iload_n 3, 1) := by decide +kernel
theorem dL_law_470 : decode cL_law 470 = .ok (.iconst 3, 1) := by decide +kernel
theorem dL_law_471 : decode cL_law 471 = .ok (.iadd, 1) := by decide +kernel
theorem dL_law_472 : decode cL_law 472 = .ok (.iaload, 1) := by decide +kernel
theorem dL_law_473 : decode cL_law 473 = .ok (.aload_n 0, 1) := by decide +kernel
theorem dL_law_474 : decode cL_law 474 = .ok (.iload_n 3, 1) := by decide +kernel
theorem dL_law_475 : decode cL_law 475 = .ok (.iconst 4, 1) := by decide +kernel
theorem dL_law_476 : decode cL_law 476 = .ok (.iadd, 1) := by decide +kernel
theorem dL_law_477 : decode cL_law 477 = .ok (.iaload, 1) := by decide +kernel
theorem dL_law_478 : decode cL_law 478 = .ok (.invokevirtual 52, 3) := by decide +kernel
theorem dL_law_481 : decode cL_law 481 = .ok (.if_icmp .eq 814, 3) := by decide +kernel
theorem dL_law_484 : decode cL_law 484 = .ok (.iconst 0, 1) := by decide +kernel
theorem dL_law_485 : decode cL_law 485 = .ok (.ireturn, 1) := by decide +kernel
theorem dL_law_486 : decode cL_law 486 = .ok (.aload_n 1, 1) := by decide +kernel
theorem dL_law_487 : decode cL_law 487 = .ok (.aload_n 0, 1) := by decide +kernel
theorem dL_law_488 : decode cL_law 488 = .ok (.iload_n 3, 1) := by decide +kernel
theorem dL_law_489 : decode cL_law 489 = .ok (.iconst 1, 1) := by decide +kernel
theorem dL_law_490 : decode cL_law 490 = .ok (.iadd, 1) := by decide +kernel
theorem dL_law_491 : decode cL_law 491 = .ok (.iaload, 1) := by decide +kernel
theorem dL_law_492 : decode cL_law 492 = .ok (.aload_n 0, 1) := by decide +kernel
theorem dL_law_493 : decode cL_law 493 = .ok (.iload_n 3, 1) := by decide +kernel
theorem dL_law_494 : decode cL_law 494 = .ok (.iconst 2, 1) := by decide +kernel
theorem dL_law_495 : decode cL_law 495 = .ok (.iadd, 1) := by decide +kernel
theorem dL_law_496 : decode cL_law 496 = .ok (.iaload, 1) := by decide +kernel
theorem dL_law_497 : decode cL_law 497 = .ok (.invokevirtual 53, 3) := by decide +kernel
theorem dL_law_500 : decode cL_law 500 = .ok (.aload_n 2, 1) := by decide +kernel
theorem dL_law_501 : decode cL_law 501 = .ok (.aload_n 0, 1) := by decide +kernel
theorem dL_law_502 : decode cL_law 502 = .ok (.iload_n 3, 1) := by decide +kernel
theorem dL_law_503 : decode cL_law 503 = .ok (.iconst 1, 1) := by decide +kernel
theorem dL_law_504 : decode cL_law 504 = .ok (.iadd, 1) := by decide +kernel
theorem dL_law_505 : decode cL_law 505 = .ok (.iaload, 1) := by decide +kernel
theorem dL_law_506 : decode cL_law 506 = .ok (.aload_n 0, 1) := by decide +kernel
theorem dL_law_507 : decode cL_law 507 = .ok (.iload_n 3, 1) := by decide +kernel
theorem dL_law_508 : decode cL_law 508 = .ok (.iconst 2, 1) := by decide +kernel
theorem dL_law_509 : decode cL_law 509 = .ok (.iadd, 1) := by decide +kernel
theorem dL_law_510 : decode cL_law 510 = .ok (.iaload, 1) := by decide +kernel
theorem dL_law_511 : decode cL_law 511 = .ok (.invokevirtual 57, 3) := by decide +kernel
theorem dL_law_514 : decode cL_law 514 = .ok (.if_icmp .eq 781, 3) := by decide +kernel
theorem dL_law_517 : decode cL_law 517 = .ok (.iconst 0, 1) := by decide +kernel
theorem dL_law_518 : decode cL_law 518 = .ok (.ireturn, 1) := by decide +kernel
theorem dL_law_519 : decode cL_law 519 = .ok (.aload_n 1, 1) := by decide +kernel
theorem dL_law_520 : decode cL_law 520 = .ok (.aload_n 0, 1) := by decide +kernel
theorem dL_law_521 : decode cL_law 521 = .ok (.iload_n 3, 1) := by decide +kernel
theorem dL_law_522 : decode cL_law 522 = .ok (.iconst 1, 1) := by decide +kernel
theorem dL_law_523 : decode cL_law 523 = .ok (.iadd, 1) := by decide +kernel
theorem dL_law_524 : decode cL_law 524 = .ok (.iaload, 1) := by decide +kernel
theorem dL_law_525 : decode cL_law 525 = .ok (.aload_n 0, 1) := by decide +kernel
theorem dL_law_526 : decode cL_law 526 = .ok (.iload_n 3, 1) := by decide +kernel
theorem dL_law_527 : decode cL_law 527 = .ok (.iconst 2, 1) := by decide +kernel
theorem dL_law_528 : decode cL_law 528 = .ok (.iadd, 1) := by decide +kernel
theorem dL_law_529 : decode cL_law 529 = .ok (.iaload, 1) := by decide +kernel
theorem dL_law_530 : decode cL_law 530 = .ok (.invokevirtual 58, 3) := by decide +kernel
theorem dL_law_533 : decode cL_law 533 = .ok (.aload_n 2, 1) := by decide +kernel
theorem dL_law_534 : decode cL_law 534 = .ok (.aload_n 0, 1) := by decide +kernel
theorem dL_law_535 : decode cL_law 535 = .ok (.iload_n 3, 1) := by decide +kernel
theorem dL_law_536 : decode cL_law 536 = .ok (.iconst 1, 1) := by decide +kernel
theorem dL_law_537 : decode cL_law 537 = .ok (.iadd, 1) := by decide +kernel
theorem dL_law_538 : decode cL_law 538 = .ok (.iaload, 1) := by decide +kernel
theorem dL_law_539 : decode cL_law 539 = .ok (.aload_n 0, 1) := by decide +kernel
theorem dL_law_540 : decode cL_law 540 = .ok (.iload_n 3, 1) := by decide +kernel
theorem dL_law_541 : decode cL_law 541 = .ok (.iconst 2, 1) := by decide +kernel
theorem dL_law_542 : decode cL_law 542 = .ok (.iadd, 1) := by decide +kernel
theorem dL_law_543 : decode cL_law 543 = .ok (.iaload, 1) := by decide +kernel
theorem dL_law_544 : decode cL_law 544 = .ok (.invokevirtual 61, 3) := by decide +kernel
theorem dL_law_547 : decode cL_law 547 = .ok (.if_icmp .eq 748, 3) := by decide +kernel
theorem dL_law_550 : decode cL_law 550 = .ok (.iconst 0, 1) := by decide +kernel
theorem dL_law_551 : decode cL_law 551 = .ok (.ireturn, 1) := by decide +kernel
theorem dL_law_552 : decode cL_law 552 = .ok (.aload_n 1, 1) := by decide +kernel
theorem dL_law_553 : decode cL_law 553 = .ok (.invokevirtual 62, 3) := by decide +kernel
theorem dL_law_556 : decode cL_law 556 = .ok (.aload_n 2, 1) := by decide +kernel
theorem dL_law_557 : decode cL_law 557 = .ok (.invokevirtual 65, 3) := by decide +kernel
theorem dL_law_560 : decode cL_law 560 = .ok (.if_icmp .eq 735, 3) := by decide +kernel
theorem dL_law_563 : decode cL_law 563 = .ok (.iconst 0, 1) := by decide +kernel
theorem dL_law_564 : decode cL_law 564 = .ok (.ireturn, 1) := by decide +kernel
theorem dL_law_565 : decode cL_law 565 = .ok (.aload_n 1, 1) := by decide +kernel
theorem dL_law_566 : decode cL_law 566 = .ok (.aload_n 0, 1) := by decide +kernel
theorem dL_law_567 : decode cL_law 567 = .ok (.iload_n 3, 1) := by decide +kernel
theorem dL_law_568 : decode cL_law 568 = .ok (.iconst 1, 1) := by decide +kernel
theorem dL_law_569 : decode cL_law 569 = .ok (.iadd, 1) := by decide +kernel
theorem dL_law_570 : decode cL_law 570 = .ok (.iaload, 1) := by decide +kernel
theorem dL_law_571 : decode cL_law 571 = .ok (.aload_n 0, 1) := by decide +kernel
theorem dL_law_572 : decode cL_law 572 = .ok (.iload_n 3, 1) := by decide +kernel
theorem dL_law_573 : decode cL_law 573 = .ok (.iconst 2, 1) := by decide +kernel
theorem dL_law_574 : decode cL_law 574 = .ok (.iadd, 1) := by decide +kernel
theorem dL_law_575 : decode cL_law 575 = .ok (.iaload, 1) := by decide +kernel
theorem dL_law_576 : decode cL_law 576 = .ok (.invokevirtual 66, 3) := by decide +kernel
theorem dL_law_579 : decode cL_law 579 = .ok (.aload_n 2, 1) := by decide +kernel
theorem dL_law_580 : decode cL_law 580 = .ok (.aload_n 0, 1) := by decide +kernel
theorem dL_law_581 : decode cL_law 581 = .ok (.iload_n 3, 1) := by decide +kernel
theorem dL_law_582 : decode cL_law 582 = .ok (.iconst 1, 1) := by decide +kernel
theorem dL_law_583 : decode cL_law 583 = .ok (.iadd, 1) := by decide +kernel
theorem dL_law_584 : decode cL_law 584 = .ok (.iaload, 1) := by decide +kernel
theorem dL_law_585 : decode cL_law 585 = .ok (.aload_n 0, 1) := by decide +kernel
theorem dL_law_586 : decode cL_law 586 = .ok (.iload_n 3, 1) := by decide +kernel
theorem dL_law_587 : decode cL_law 587 = .ok (.iconst 2, 1) := by decide +kernel
theorem dL_law_588 : decode cL_law 588 = .ok (.iadd, 1) := by decide +kernel
theorem dL_law_589 : decode cL_law 589 = .ok (.iaload, 1) := by decide +kernel
theorem dL_law_590 : decode cL_law 590 = .ok (.invokevirtual 69, 3) := by decide +kernel
theorem dL_law_593 : decode cL_law 593 = .ok (.if_icmp .eq 702, 3) := by decide +kernel
theorem dL_law_596 : decode cL_law 596 = .ok (.iconst 0, 1) := by decide +kernel
theorem dL_law_597 : decode cL_law 597 = .ok (.ireturn, 1) := by decide +kernel
theorem dL_law_598 : decode cL_law 598 = .ok (.aload_n 1, 1) := by decide +kernel
theorem dL_law_599 : decode cL_law 599 = .ok (.aload_n 0, 1) := by decide +kernel
theorem dL_law_600 : decode cL_law 600 = .ok (.iload_n 3, 1) := by decide +kernel
theorem dL_law_601 : decode cL_law 601 = .ok (.iconst 1, 1) := by decide +kernel
theorem dL_law_602 : decode cL_law 602 = .ok (.iadd, 1) := by decide +kernel
theorem dL_law_603 : decode cL_law 603 = .ok (.iaload, 1) := by decide +kernel
theorem dL_law_604 : decode cL_law 604 = .ok (.aload_n 0, 1) := by decide +kernel
theorem dL_law_605 : decode cL_law 605 = .ok (.iload_n 3, 1) := by decide +kernel
theorem dL_law_606 : decode cL_law 606 = .ok (.iconst 2, 1) := by decide +kernel
theorem dL_law_607 : decode cL_law 607 = .ok (.iadd, 1) := by decide +kernel
theorem dL_law_608 : decode cL_law 608 = .ok (.iaload, 1) := by decide +kernel
theorem dL_law_609 : decode cL_law 609 = .ok (.invokevirtual 70, 3) := by decide +kernel
theorem dL_law_612 : decode cL_law 612 = .ok (.aload_n 2, 1) := by decide +kernel
theorem dL_law_613 : decode cL_law 613 = .ok (.aload_n 0, 1) := by decide +kernel
theorem dL_law_614 : decode cL_law 614 = .ok (.iload_n 3, 1) := by decide +kernel
theorem dL_law_615 : decode cL_law 615 = .ok (.iconst 1, 1) := by decide +kernel
theorem dL_law_616 : decode cL_law 616 = .ok (.iadd, 1) := by decide +kernel
theorem dL_law_617 : decode cL_law 617 = .ok (.iaload, 1) := by decide +kernel
theorem dL_law_618 : decode cL_law 618 = .ok (.aload_n 0, 1) := by decide +kernel
theorem dL_law_619 : decode cL_law 619 = .ok (.iload_n 3, 1) := by decide +kernel
theorem dL_law_620 : decode cL_law 620 = .ok (.iconst 2, 1) := by decide +kernel
theorem dL_law_621 : decode cL_law 621 = .ok (.iadd, 1) := by decide +kernel
theorem dL_law_622 : decode cL_law 622 = .ok (.iaload, 1) := by decide +kernel
theorem dL_law_623 : decode cL_law 623 = .ok (.invokevirtual 73, 3) := by decide +kernel
theorem dL_law_626 : decode cL_law 626 = .ok (.if_icmp .eq 669, 3) := by decide +kernel
theorem dL_law_629 : decode cL_law 629 = .ok (.iconst 0, 1) := by decide +kernel
theorem dL_law_630 : decode cL_law 630 = .ok (.ireturn, 1) := by decide +kernel
theorem dL_law_631 : decode cL_law 631 = .ok (.aload_n 1, 1) := by decide +kernel
theorem dL_law_632 : decode cL_law 632 = .ok (.aload_n 0, 1) := by decide +kernel
theorem dL_law_633 : decode cL_law 633 = .ok (.iload_n 3, 1) := by decide +kernel
theorem dL_law_634 : decode cL_law 634 = .ok (.iconst 1, 1) := by decide +kernel
theorem dL_law_635 : decode cL_law 635 = .ok (.iadd, 1) := by decide +kernel
theorem dL_law_636 : decode cL_law 636 = .ok (.iaload, 1) := by decide +kernel
theorem dL_law_637 : decode cL_law 637 = .ok (.aload_n 0, 1) := by decide +kernel
theorem dL_law_638 : decode cL_law 638 = .ok (.iload_n 3, 1) := by decide +kernel
theorem dL_law_639 : decode cL_law 639 = .ok (.iconst 2, 1) := by decide +kernel
theorem dL_law_640 : decode cL_law 640 = .ok (.iadd, 1) := by decide +kernel
theorem dL_law_641 : decode cL_law 641 = .ok (.iaload, 1) := by decide +kernel
theorem dL_law_642 : decode cL_law 642 = .ok (.invokevirtual 74, 3) := by decide +kernel
theorem dL_law_645 : decode cL_law 645 = .ok (.aload_n 2, 1) := by decide +kernel
theorem dL_law_646 : decode cL_law 646 = .ok (.aload_n 0, 1) := by decide +kernel
theorem dL_law_647 : decode cL_law 647 = .ok (.iload_n 3, 1) := by decide +kernel
theorem dL_law_648 : decode cL_law 648 = .ok (.iconst 1, 1) := by decide +kernel
theorem dL_law_649 : decode cL_law 649 = .ok (.iadd, 1) := by decide +kernel
theorem dL_law_650 : decode cL_law 650 = .ok (.iaload, 1) := by decide +kernel
theorem dL_law_651 : decode cL_law 651 = .ok (.aload_n 0, 1) := by decide +kernel
theorem dL_law_652 : decode cL_law 652 = .ok (.iload_n 3, 1) := by decide +kernel
theorem dL_law_653 : decode cL_law 653 = .ok (.iconst 2, 1) := by decide +kernel
theorem dL_law_654 : decode cL_law 654 = .ok (.iadd, 1) := by decide +kernel
theorem dL_law_655 : decode cL_law 655 = .ok (.iaload, 1) := by decide +kernel
theorem dL_law_656 : decode cL_law 656 = .ok (.invokevirtual 77, 3) := by decide +kernel
theorem dL_law_659 : decode cL_law 659 = .ok (.if_icmp .eq 636, 3) := by decide +kernel
theorem dL_law_662 : decode cL_law 662 = .ok (.iconst 0, 1) := by decide +kernel
theorem dL_law_663 : decode cL_law 663 = .ok (.ireturn, 1) := by decide +kernel
theorem dL_law_664 : decode cL_law 664 = .ok (.aload_n 1, 1) := by decide +kernel
theorem dL_law_665 : decode cL_law 665 = .ok (.aload_n 0, 1) := by decide +kernel
theorem dL_law_666 : decode cL_law 666 = .ok (.iload_n 3, 1) := by decide +kernel
theorem dL_law_667 : decode cL_law 667 = .ok (.iconst 1, 1) := by decide +kernel
theorem dL_law_668 : decode cL_law 668 = .ok (.iadd, 1) := by decide +kernel
theorem dL_law_669 : decode cL_law 669 = .ok (.iaload, 1) := by decide +kernel
theorem dL_law_670 : decode cL_law 670 = .ok (.aload_n 0, 1) := by decide +kernel
theorem dL_law_671 : decode cL_law 671 = .ok (.iload_n 3, 1) := by decide +kernel
theorem dL_law_672 : decode cL_law 672 = .ok (.iconst 2, 1) := by decide +kernel
theorem dL_law_673 : decode cL_law 673 = .ok (.iadd, 1) := by decide +kernel
theorem dL_law_674 : decode cL_law 674 = .ok (.iaload, 1) := by decide +kernel
theorem dL_law_675 : decode cL_law 675 = .ok (.aload_n 0, 1) := by decide +kernel
theorem dL_law_676 : decode cL_law 676 = .ok (.iload_n 3, 1) := by decide +kernel
theorem dL_law_677 : decode cL_law 677 = .ok (.iconst 3, 1) := by decide +kernel
theorem dL_law_678 : decode cL_law 678 = .ok (.iadd, 1) := by decide +kernel
theorem dL_law_679 : decode cL_law 679 = .ok (.iaload, 1) := by decide +kernel
theorem dL_law_680 : decode cL_law 680 = .ok (.aload_n 0, 1) := by decide +kernel
theorem dL_law_681 : decode cL_law 681 = .ok (.iload_n 3, 1) := by decide +kernel
theorem dL_law_682 : decode cL_law 682 = .ok (.iconst 4, 1) := by decide +kernel
theorem dL_law_683 : decode cL_law 683 = .ok (.iadd, 1) := by decide +kernel
theorem dL_law_684 : decode cL_law 684 = .ok (.iaload, 1) := by decide +kernel
theorem dL_law_685 : decode cL_law 685 = .ok (.invokevirtual 78, 3) := by decide +kernel
theorem dL_law_688 : decode cL_law 688 = .ok (.aload_n 2, 1) := by decide +kernel
theorem dL_law_689 : decode cL_law 689 = .ok (.aload_n 0, 1) := by decide +kernel
theorem dL_law_690 : decode cL_law 690 = .ok (.iload_n 3, 1) := by decide +kernel
theorem dL_law_691 : decode cL_law 691 = .ok (.iconst 1, 1) := by decide +kernel
theorem dL_law_692 : decode cL_law 692 = .ok (.iadd, 1) := by decide +kernel
theorem dL_law_693 : decode cL_law 693 = .ok (.iaload, 1) := by decide +kernel
theorem dL_law_694 : decode cL_law 694 = .ok (.aload_n 0, 1) := by decide +kernel
theorem dL_law_695 : decode cL_law 695 = .ok (.iload_n 3, 1) := by decide +kernel
theorem dL_law_696 : decode cL_law 696 = .ok (.iconst 2, 1) := by decide +kernel
theorem dL_law_697 : decode cL_law 697 = .ok (.iadd, 1) := by decide +kernel
theorem dL_law_698 : decode cL_law 698 = .ok (.iaload, 1) := by decide +kernel
theorem dL_law_699 : decode cL_law 699 = .ok (.aload_n 0, 1) := by decide +kernel
theorem dL_law_700 : decode cL_law 700 = .ok (.iload_n 3, 1) := by decide +kernel
theorem dL_law_701 : decode cL_law 701 = .ok (.iconst 3, 1) := by decide +kernel
theorem dL_law_702 : decode cL_law 702 = .ok (.iadd, 1) := by decide +kernel
theorem dL_law_703 : decode cL_law 703 = .ok (.iaload, 1) := by decide +kernel
theorem dL_law_704 : decode cL_law 704 = .ok (.aload_n 0, 1) := by decide +kernel
theorem dL_law_705 : decode cL_law 705 = .ok (.iload_n 3, 1) := by decide +kernel
theorem dL_law_706 : decode cL_law 706 = .ok (.iconst 4, 1) := by decide +kernel
theorem dL_law_707 : decode cL_law 707 = .ok (.iadd, 1) := by decide +kernel
theorem dL_law_708 : decode cL_law 708 = .ok (.iaload, 1) := by decide +kernel
theorem dL_law_709 : decode cL_law 709 = .ok (.invokevirtual 81, 3) := by decide +kernel
theorem dL_law_712 : decode cL_law 712 = .ok (.if_icmp .eq 583, 3) := by decide +kernel
theorem dL_law_715 : decode cL_law 715 = .ok (.iconst 0, 1) := by decide +kernel
theorem dL_law_716 : decode cL_law 716 = .ok (.ireturn, 1) := by decide +kernel
theorem dL_law_717 : decode cL_law 717 = .ok (.aload_n 1, 1) := by decide +kernel
theorem dL_law_718 : decode cL_law 718 = .ok (.aload_n 0, 1) := by decide +kernel
theorem dL_law_719 : decode cL_law 719 = .ok (.iload_n 3, 1) := by decide +kernel
theorem dL_law_720 : decode cL_law 720 = .ok (.iconst 1, 1) := by decide +kernel
theorem dL_law_721 : decode cL_law 721 = .ok (.iadd, 1) := by decide +kernel
theorem dL_law_722 : decode cL_law 722 = .ok (.iaload, 1) := by decide +kernel
theorem dL_law_723 : decode cL_law 723 = .ok (.aload_n 0, 1) := by decide +kernel
theorem dL_law_724 : decode cL_law 724 = .ok (.iload_n 3, 1) := by decide +kernel
theorem dL_law_725 : decode cL_law 725 = .ok (.iconst 2, 1) := by decide +kernel
theorem dL_law_726 : decode cL_law 726 = .ok (.iadd, 1) := by decide +kernel
theorem dL_law_727 : decode cL_law 727 = .ok (.iaload, 1) := by decide +kernel
theorem dL_law_728 : decode cL_law 728 = .ok (.aload_n 0, 1) := by decide +kernel
theorem dL_law_729 : decode cL_law 729 = .ok (.iload_n 3, 1) := by decide +kernel
theorem dL_law_730 : decode cL_law 730 = .ok (.iconst 3, 1) := by decide +kernel
theorem dL_law_731 : decode cL_law 731 = .ok (.iadd, 1) := by decide +kernel
theorem dL_law_732 : decode cL_law 732 = .ok (.iaload, 1) := by decide +kernel
theorem dL_law_733 : decode cL_law 733 = .ok (.aload_n 0, 1) := by decide +kernel
theorem dL_law_734 : decode cL_law 734 = .ok (.iload_n 3, 1) := by decide +kernel
theorem dL_law_735 : decode cL_law 735 = .ok (.iconst 4, 1) := by decide +kernel
theorem dL_law_736 : decode cL_law 736 = .ok (.iadd, 1) := by decide +kernel
theorem dL_law_737 : decode cL_law 737 = .ok (.iaload, 1) := by decide +kernel
theorem dL_law_738 : decode cL_law 738 = .ok (.aload_n 0, 1) := by decide +kernel
theorem dL_law_739 : decode cL_law 739 = .ok (.iload_n 3, 1) := by decide +kernel
theorem dL_law_740 : decode cL_law 740 = .ok (.iconst 5, 1) := by decide +kernel
theorem dL_law_741 : decode cL_law 741 = .ok (.iadd, 1) := by decide +kernel
theorem dL_law_742 : decode cL_law 742 = .ok (.iaload, 1) := by decide +kernel
theorem dL_law_743 : decode cL_law 743 = .ok (.invokevirtual 82, 3) := by decide +kernel
theorem dL_law_746 : decode cL_law 746 = .ok (.aload_n 2, 1) := by decide +kernel
theorem dL_law_747 : decode cL_law 747 = .ok (.aload_n 0, 1) := by decide +kernel
theorem dL_law_748 : decode cL_law 748 = .ok (.iload_n 3, 1) := by decide +kernel
theorem dL_law_749 : decode cL_law 749 = .ok (.iconst 1, 1) := by decide +kernel
theorem dL_law_750 : decode cL_law 750 = .ok (.iadd, 1) := by decide +kernel
theorem dL_law_751 : decode cL_law 751 = .ok (.iaload, 1) := by decide +kernel
theorem dL_law_752 : decode cL_law 752 = .ok (.aload_n 0, 1) := by decide +kernel
theorem dL_law_753 : decode cL_law 753 = .ok (.iload_n 3, 1) := by decide +kernel
theorem dL_law_754 : decode cL_law 754 = .ok (.iconst 2, 1) := by decide +kernel
theorem dL_law_755 : decode cL_law 755 = .ok (.iadd, 1) := by decide +kernel
theorem dL_law_756 : decode cL_law 756 = .ok (.iaload, 1) := by decide +kernel
theorem dL_law_757 : decode cL_law 757 = .ok (.aload_n 0, 1) := by decide +kernel
theorem dL_law_758 : decode cL_law 758 = .ok (.iload_n 3, 1) := by decide +kernel
theorem dL_law_759 : decode cL_law 759 = .ok (.iconst 3, 1) := by decide +kernel
theorem dL_law_760 : decode cL_law 760 = .ok (.iadd, 1) := by decide +kernel
theorem dL_law_761 : decode cL_law 761 = .ok (.iaload, 1) := by decide +kernel
theorem dL_law_762 : decode cL_law 762 = .ok (.aload_n 0, 1) := by decide +kernel
theorem dL_law_763 : decode cL_law 763 = .ok (.iload_n 3, 1) := by decide +kernel
theorem dL_law_764 : decode cL_law 764 = .ok (.iconst 4, 1) := by decide +kernel
theorem dL_law_765 : decode cL_law 765 = .ok (.iadd, 1) := by decide +kernel
theorem dL_law_766 : decode cL_law 766 = .ok (.iaload, 1) := by decide +kernel
theorem dL_law_767 : decode cL_law 767 = .ok (.aload_n 0, 1) := by decide +kernel
theorem dL_law_768 : decode cL_law 768 = .ok (.iload_n 3, 1) := by decide +kernel
theorem dL_law_769 : decode cL_law 769 = .ok (.iconst 5, 1) := by decide +kernel
theorem dL_law_770 : decode cL_law 770 = .ok (.iadd, 1) := by decide +kernel
theorem dL_law_771 : decode cL_law 771 = .ok (.iaload, 1) := by decide +kernel
theorem dL_law_772 : decode cL_law 772 = .ok (.invokevirtual 85, 3) := by decide +kernel
theorem dL_law_775 : decode cL_law 775 = .ok (.if_icmp .eq 520, 3) := by decide +kernel
theorem dL_law_778 : decode cL_law 778 = .ok (.iconst 0, 1) := by decide +kernel
theorem dL_law_779 : decode cL_law 779 = .ok (.ireturn, 1) := by decide +kernel
theorem dL_law_780 : decode cL_law 780 = .ok (.aload_n 1, 1) := by decide +kernel
theorem dL_law_781 : decode cL_law 781 = .ok (.aload_n 0, 1) := by decide +kernel
theorem dL_law_782 : decode cL_law 782 = .ok (.iload_n 3, 1) := by decide +kernel
theorem dL_law_783 : decode cL_law 783 = .ok (.iconst 1, 1) := by decide +kernel
theorem dL_law_784 : decode cL_law 784 = .ok (.iadd, 1) := by decide +kernel
theorem dL_law_785 : decode cL_law 785 = .ok (.iaload, 1) := by decide +kernel
theorem dL_law_786 : decode cL_law 786 = .ok (.aload_n 0, 1) := by decide +kernel
theorem dL_law_787 : decode cL_law 787 = .ok (.iload_n 3, 1) := by decide +kernel
theorem dL_law_788 : decode cL_law 788 = .ok (.iconst 2, 1) := by decide +kernel
theorem dL_law_789 : decode cL_law 789 = .ok (.iadd, 1) := by decide +kernel
theorem dL_law_790 : decode cL_law 790 = .ok (.iaload, 1) := by decide +kernel
theorem dL_law_791 : decode cL_law 791 = .ok (.aload_n 0, 1) := by decide +kernel
theorem dL_law_792 : decode cL_law 792 = .ok (.iload_n 3, 1) := by decide +kernel
theorem dL_law_793 : decode cL_law 793 = .ok (.iconst 3, 1) := by decide +kernel
theorem dL_law_794 : decode cL_law 794 = .ok (.iadd, 1) := by decide +kernel
theorem dL_law_795 : decode cL_law 795 = .ok (.iaload, 1) := by decide +kernel
theorem dL_law_796 : decode cL_law 796 = .ok (.invokevirtual 86, 3) := by decide +kernel
theorem dL_law_799 : decode cL_law 799 = .ok (.aload_n 2, 1) := by decide +kernel
theorem dL_law_800 : decode cL_law 800 = .ok (.aload_n 0, 1) := by decide +kernel
theorem dL_law_801 : decode cL_law 801 = .ok (.iload_n 3, 1) := by decide +kernel
theorem dL_law_802 : decode cL_law 802 = .ok (.iconst 1, 1) := by decide +kernel
theorem dL_law_803 : decode cL_law 803 = .ok (.iadd, 1) := by decide +kernel
theorem dL_law_804 : decode cL_law 804 = .ok (.iaload, 1) := by decide +kernel
theorem dL_law_805 : decode cL_law 805 = .ok (.aload_n 0, 1) := by decide +kernel
theorem dL_law_806 : decode cL_law 806 = .ok (.iload_n 3, 1) := by decide +kernel
theorem dL_law_807 : decode cL_law 807 = .ok (.iconst 2, 1) := by decide +kernel
theorem dL_law_808 : decode cL_law 808 = .ok (.iadd, 1) := by decide +kernel
theorem dL_law_809 : decode cL_law 809 = .ok (.iaload, 1) := by decide +kernel
theorem dL_law_810 : decode cL_law 810 = .ok (.aload_n 0, 1) := by decide +kernel
theorem dL_law_811 : decode cL_law 811 = .ok (.iload_n 3, 1) := by decide +kernel
theorem dL_law_812 : decode cL_law 812 = .ok (.iconst 3, 1) := by decide +kernel
theorem dL_law_813 : decode cL_law 813 = .ok (.iadd, 1) := by decide +kernel
theorem dL_law_814 : decode cL_law 814 = .ok (.iaload, 1) := by decide +kernel
theorem dL_law_815 : decode cL_law 815 = .ok (.invokevirtual 89, 3) := by decide +kernel
theorem dL_law_818 : decode cL_law 818 = .ok (.if_icmp .eq 477, 3) := by decide +kernel
theorem dL_law_821 : decode cL_law 821 = .ok (.iconst 0, 1) := by decide +kernel
theorem dL_law_822 : decode cL_law 822 = .ok (.ireturn, 1) := by decide +kernel
theorem dL_law_823 : decode cL_law 823 = .ok (.aload_n 1, 1) := by decide +kernel
theorem dL_law_824 : decode cL_law 824 = .ok (.aload_n 0, 1) := by decide +kernel
theorem dL_law_825 : decode cL_law 825 = .ok (.iload_n 3, 1) := by decide +kernel
theorem dL_law_826 : decode cL_law 826 = .ok (.iconst 1, 1) := by decide +kernel
theorem dL_law_827 : decode cL_law 827 = .ok (.iadd, 1) := by decide +kernel
theorem dL_law_828 : decode cL_law 828 = .ok (.iaload, 1) := by decide +kernel
theorem dL_law_829 : decode cL_law 829 = .ok (.aload_n 0, 1) := by decide +kernel
theorem dL_law_830 : decode cL_law 830 = .ok (.iload_n 3, 1) := by decide +kernel
theorem dL_law_831 : decode cL_law 831 = .ok (.iconst 2, 1) := by decide +kernel
theorem dL_law_832 : decode cL_law 832 = .ok (.iadd, 1) := by decide +kernel
theorem dL_law_833 : decode cL_law 833 = .ok (.iaload, 1) := by decide +kernel
theorem dL_law_834 : decode cL_law 834 = .ok (.aload_n 0, 1) := by decide +kernel
theorem dL_law_835 : decode cL_law 835 = .ok (.iload_n 3, 1) := by decide +kernel
theorem dL_law_836 : decode cL_law 836 = .ok (.iconst 3, 1) := by decide +kernel
theorem dL_law_837 : decode cL_law 837 = .ok (.iadd, 1) := by decide +kernel
theorem dL_law_838 : decode cL_law 838 = .ok (.iaload, 1) := by decide +kernel
theorem dL_law_839 : decode cL_law 839 = .ok (.aload_n 0, 1) := by decide +kernel
theorem dL_law_840 : decode cL_law 840 = .ok (.iload_n 3, 1) := by decide +kernel
theorem dL_law_841 : decode cL_law 841 = .ok (.iconst 4, 1) := by decide +kernel
theorem dL_law_842 : decode cL_law 842 = .ok (.iadd, 1) := by decide +kernel
theorem dL_law_843 : decode cL_law 843 = .ok (.iaload, 1) := by decide +kernel
theorem dL_law_844 : decode cL_law 844 = .ok (.aload_n 0, 1) := by decide +kernel
theorem dL_law_845 : decode cL_law 845 = .ok (.iload_n 3, 1) := by decide +kernel
theorem dL_law_846 : decode cL_law 846 = .ok (.iconst 5, 1) := by decide +kernel
theorem dL_law_847 : decode cL_law 847 = .ok (.iadd, 1) := by decide +kernel
theorem dL_law_848 : decode cL_law 848 = .ok (.iaload, 1) := by decide +kernel
theorem dL_law_849 : decode cL_law 849 = .ok (.invokevirtual 90, 3) := by decide +kernel
theorem dL_law_852 : decode cL_law 852 = .ok (.aload_n 2, 1) := by decide +kernel
theorem dL_law_853 : decode cL_law 853 = .ok (.aload_n 0, 1) := by decide +kernel
theorem dL_law_854 : decode cL_law 854 = .ok (.iload_n 3, 1) := by decide +kernel
theorem dL_law_855 : decode cL_law 855 = .ok (.iconst 1, 1) := by decide +kernel
theorem dL_law_856 : decode cL_law 856 = .ok (.iadd, 1) := by decide +kernel
theorem dL_law_857 : decode cL_law 857 = .ok (.iaload, 1) := by decide +kernel
theorem dL_law_858 : decode cL_law 858 = .ok (.aload_n 0, 1) := by decide +kernel
theorem dL_law_859 : decode cL_law 859 = .ok (.iload_n 3, 1) := by decide +kernel
theorem dL_law_860 : decode cL_law 860 = .ok (.iconst 2, 1) := by decide +kernel
theorem dL_law_861 : decode cL_law 861 = .ok (.iadd, 1) := by decide +kernel
theorem dL_law_862 : decode cL_law 862 = .ok (.iaload, 1) := by decide +kernel
theorem dL_law_863 : decode cL_law 863 = .ok (.aload_n 0, 1) := by decide +kernel
theorem dL_law_864 : decode cL_law 864 = .ok (.iload_n 3, 1) := by decide +kernel
theorem dL_law_865 : decode cL_law 865 = .ok (.iconst 3, 1) := by decide +kernel
theorem dL_law_866 : decode cL_law 866 = .ok (.iadd, 1) := by decide +kernel
theorem dL_law_867 : decode cL_law 867 = .ok (.iaload, 1) := by decide +kernel
theorem dL_law_868 : decode cL_law 868 = .ok (.aload_n 0, 1) := by decide +kernel
theorem dL_law_869 : decode cL_law 869 = .ok (.iload_n 3, 1) := by decide +kernel
theorem dL_law_870 : decode cL_law 870 = .ok (.iconst 4, 1) := by decide +kernel
theorem dL_law_871 : decode cL_law 871 = .ok (.iadd, 1) := by decide +kernel
theorem dL_law_872 : decode cL_law 872 = .ok (.iaload, 1) := by decide +kernel
theorem dL_law_873 : decode cL_law 873 = .ok (.aload_n 0, 1) := by decide +kernel
theorem dL_law_874 : decode cL_law 874 = .ok (.iload_n 3, 1) := by decide +kernel
theorem dL_law_875 : decode cL_law 875 = .ok (.iconst 5, 1) := by decide +kernel
theorem dL_law_876 : decode cL_law 876 = .ok (.iadd, 1) := by decide +kernel
theorem dL_law_877 : decode cL_law 877 = .ok (.iaload, 1) := by decide +kernel
theorem dL_law_878 : decode cL_law 878 = .ok (.invokevirtual 93, 3) := by decide +kernel
theorem dL_law_881 : decode cL_law 881 = .ok (.if_icmp .eq 414, 3) := by decide +kernel
theorem dL_law_884 : decode cL_law 884 = .ok (.iconst 0, 1) := by decide +kernel
theorem dL_law_885 : decode cL_law 885 = .ok (.ireturn, 1) := by decide +kernel
theorem dL_law_886 : decode cL_law 886 = .ok (.aload_n 1, 1) := by decide +kernel
theorem dL_law_887 : decode cL_law 887 = .ok (.aload_n 0, 1) := by decide +kernel
theorem dL_law_888 : decode cL_law 888 = .ok (.iload_n 3, 1) := by decide +kernel
theorem dL_law_889 : decode cL_law 889 = .ok (.iconst 1, 1) := by decide +kernel
theorem dL_law_890 : decode cL_law 890 = .ok (.iadd, 1) := by decide +kernel
theorem dL_law_891 : decode cL_law 891 = .ok (.iaload, 1) := by decide +kernel
theorem dL_law_892 : decode cL_law 892 = .ok (.aload_n 0, 1) := by decide +kernel
theorem dL_law_893 : decode cL_law 893 = .ok (.iload_n 3, 1) := by decide +kernel
theorem dL_law_894 : decode cL_law 894 = .ok (.iconst 2, 1) := by decide +kernel
theorem dL_law_895 : decode cL_law 895 = .ok (.iadd, 1) := by decide +kernel
theorem dL_law_896 : decode cL_law 896 = .ok (.iaload, 1) := by decide +kernel
theorem dL_law_897 : decode cL_law 897 = .ok (.aload_n 0, 1) := by decide +kernel
theorem dL_law_898 : decode cL_law 898 = .ok (.iload_n 3, 1) := by decide +kernel
theorem dL_law_899 : decode cL_law 899 = .ok (.iconst 3, 1) := by decide +kernel
theorem dL_law_900 : decode cL_law 900 = .ok (.iadd, 1) := by decide +kernel
theorem dL_law_901 : decode cL_law 901 = .ok (.iaload, 1) := by decide +kernel
theorem dL_law_902 : decode cL_law 902 = .ok (.invokevirtual 94, 3) := by decide +kernel
theorem dL_law_905 : decode cL_law 905 = .ok (.aload_n 2, 1) := by decide +kernel
theorem dL_law_906 : decode cL_law 906 = .ok (.aload_n 0, 1) := by decide +kernel
theorem dL_law_907 : decode cL_law 907 = .ok (.iload_n 3, 1) := by decide +kernel
theorem dL_law_908 : decode cL_law 908 = .ok (.iconst 1, 1) := by decide +kernel
theorem dL_law_909 : decode cL_law 909 = .ok (.iadd, 1) := by decide +kernel
theorem dL_law_910 : decode cL_law 910 = .ok (.iaload, 1) := by decide +kernel
theorem dL_law_911 : decode cL_law 911 = .ok (.aload_n 0, 1) := by decide +kernel
theorem dL_law_912 : decode cL_law 912 = .ok (.iload_n 3, 1) := by decide +kernel
theorem dL_law_913 : decode cL_law 913 = .ok (.iconst 2, 1) := by decide +kernel
theorem dL_law_914 : decode cL_law 914 = .ok (.iadd, 1) := by decide +kernel
theorem dL_law_915 : decode cL_law 915 = .ok (.iaload, 1) := by decide +kernel
theorem dL_law_916 : decode cL_law 916 = .ok (.aload_n 0, 1) := by decide +kernel
theorem dL_law_917 : decode cL_law 917 = .ok (.iload_n 3, 1) := by decide +kernel
theorem dL_law_918 : decode cL_law 918 = .ok (.iconst 3, 1) := by decide +kernel
theorem dL_law_919 : decode cL_law 919 = .ok (.iadd, 1) := by decide +kernel
theorem dL_law_920 : decode cL_law 920 = .ok (.iaload, 1) := by decide +kernel
theorem dL_law_921 : decode cL_law 921 = .ok (.invokevirtual 97, 3) := by decide +kernel
theorem dL_law_924 : decode cL_law 924 = .ok (.if_icmp .eq 371, 3) := by decide +kernel
theorem dL_law_927 : decode cL_law 927 = .ok (.iconst 0, 1) := by decide +kernel
theorem dL_law_928 : decode cL_law 928 = .ok (.ireturn, 1) := by decide +kernel
theorem dL_law_929 : decode cL_law 929 = .ok (.aload_n 1, 1) := by decide +kernel
theorem dL_law_930 : decode cL_law 930 = .ok (.aload_n 0, 1) := by decide +kernel
theorem dL_law_931 : decode cL_law 931 = .ok (.iload_n 3, 1) := by decide +kernel
theorem dL_law_932 : decode cL_law 932 = .ok (.iconst 1, 1) := by decide +kernel
theorem dL_law_933 : decode cL_law 933 = .ok (.iadd, 1) := by decide +kernel
theorem dL_law_934 : decode cL_law 934 = .ok (.iaload, 1) := by decide +kernel
theorem dL_law_935 : decode cL_law 935 = .ok (.aload_n 0, 1) := by decide +kernel
theorem dL_law_936 : decode cL_law 936 = .ok (.iload_n 3, 1) := by decide +kernel
theorem dL_law_937 : decode cL_law 937 = .ok (.iconst 2, 1) := by decide +kernel
theorem dL_law_938 : decode cL_law 938 = .ok (.iadd, 1) := by decide +kernel
theorem dL_law_939 : decode cL_law 939 = .ok (.iaload, 1) := by decide +kernel
theorem dL_law_940 : decode cL_law 940 = .ok (.invokevirtual 98, 3) := by decide +kernel
theorem dL_law_943 : decode cL_law 943 = .ok (.aload_n 2, 1) := by decide +kernel
theorem dL_law_944 : decode cL_law 944 = .ok (.aload_n 0, 1) := by decide +kernel
theorem dL_law_945 : decode cL_law 945 = .ok (.iload_n 3, 1) := by decide +kernel
theorem dL_law_946 : decode cL_law 946 = .ok (.iconst 1, 1) := by decide +kernel
theorem dL_law_947 : decode cL_law 947 = .ok (.iadd, 1) := by decide +kernel
theorem dL_law_948 : decode cL_law 948 = .ok (.iaload, 1) := by decide +kernel
theorem dL_law_949 : decode cL_law 949 = .ok (.aload_n 0, 1) := by decide +kernel
theorem dL_law_950 : decode cL_law 950 = .ok (.iload_n 3, 1) := by decide +kernel
theorem dL_law_951 : decode cL_law 951 = .ok (.iconst 2, 1) := by decide +kernel
theorem dL_law_952 : decode cL_law 952 = .ok (.iadd, 1) := by decide +kernel
theorem dL_law_953 : decode cL_law 953 = .ok (.iaload, 1) := by decide +kernel
theorem dL_law_954 : decode cL_law 954 = .ok (.invokevirtual 101, 3) := by decide +kernel
theorem dL_law_957 : decode cL_law 957 = .ok (.if_icmp .eq 338, 3) := by decide +kernel
theorem dL_law_960 : decode cL_law 960 = .ok (.iconst 0, 1) := by decide +kernel
theorem dL_law_961 : decode cL_law 961 = .ok (.ireturn, 1) := by decide +kernel
theorem dL_law_962 : decode cL_law 962 = .ok (.aload_n 1, 1) := by decide +kernel
theorem dL_law_963 : decode cL_law 963 = .ok (.aload_n 0, 1) := by decide +kernel
theorem dL_law_964 : decode cL_law 964 = .ok (.iload_n 3, 1) := by decide +kernel
theorem dL_law_965 : decode cL_law 965 = .ok (.iconst 1, 1) := by decide +kernel
theorem dL_law_966 : decode cL_law 966 = .ok (.iadd, 1) := by decide +kernel
theorem dL_law_967 : decode cL_law 967 = .ok (.iaload, 1) := by decide +kernel
theorem dL_law_968 : decode cL_law 968 = .ok (.aload_n 0, 1) := by decide +kernel
theorem dL_law_969 : decode cL_law 969 = .ok (.iload_n 3, 1) := by decide +kernel
theorem dL_law_970 : decode cL_law 970 = .ok (.iconst 2, 1) := by decide +kernel
theorem dL_law_971 : decode cL_law 971 = .ok (.iadd, 1) := by decide +kernel
theorem dL_law_972 : decode cL_law 972 = .ok (.iaload, 1) := by decide +kernel
theorem dL_law_973 : decode cL_law 973 = .ok (.invokevirtual 102, 3) := by decide +kernel
theorem dL_law_976 : decode cL_law 976 = .ok (.aload_n 2, 1) := by decide +kernel
theorem dL_law_977 : decode cL_law 977 = .ok (.aload_n 0, 1) := by decide +kernel
theorem dL_law_978 : decode cL_law 978 = .ok (.iload_n 3, 1) := by decide +kernel
theorem dL_law_979 : decode cL_law 979 = .ok (.iconst 1, 1) := by decide +kernel
theorem dL_law_980 : decode cL_law 980 = .ok (.iadd, 1) := by decide +kernel
theorem dL_law_981 : decode cL_law 981 = .ok (.iaload, 1) := by decide +kernel
theorem dL_law_982 : decode cL_law 982 = .ok (.aload_n 0, 1) := by decide +kernel
theorem dL_law_983 : decode cL_law 983 = .ok (.iload_n 3, 1) := by decide +kernel
theorem dL_law_984 : decode cL_law 984 = .ok (.iconst 2, 1) := by decide +kernel
theorem dL_law_985 : decode cL_law 985 = .ok (.iadd, 1) := by decide +kernel
theorem dL_law_986 : decode cL_law 986 = .ok (.iaload, 1) := by decide +kernel
theorem dL_law_987 : decode cL_law 987 = .ok (.invokevirtual 105, 3) := by decide +kernel
theorem dL_law_990 : decode cL_law 990 = .ok (.if_icmp .eq 305, 3) := by decide +kernel
theorem dL_law_993 : decode cL_law 993 = .ok (.iconst 0, 1) := by decide +kernel
theorem dL_law_994 : decode cL_law 994 = .ok (.ireturn, 1) := by decide +kernel
theorem dL_law_995 : decode cL_law 995 = .ok (.aload_n 1, 1) := by decide +kernel
theorem dL_law_996 : decode cL_law 996 = .ok (.aload_n 0, 1) := by decide +kernel
theorem dL_law_997 : decode cL_law 997 = .ok (.iload_n 3, 1) := by decide +kernel
theorem dL_law_998 : decode cL_law 998 = .ok (.iconst 1, 1) := by decide +kernel
theorem dL_law_999 : decode cL_law 999 = .ok (.iadd, 1) := by decide +kernel
theorem dL_law_1000 : decode cL_law 1000 = .ok (.iaload, 1) := by decide +kernel
theorem dL_law_1001 : decode cL_law 1001 = .ok (.aload_n 0, 1) := by decide +kernel
theorem dL_law_1002 : decode cL_law 1002 = .ok (.iload_n 3, 1) := by decide +kernel
theorem dL_law_1003 : decode cL_law 1003 = .ok (.iconst 2, 1) := by decide +kernel
theorem dL_law_1004 : decode cL_law 1004 = .ok (.iadd, 1) := by decide +kernel
theorem dL_law_1005 : decode cL_law 1005 = .ok (.iaload, 1) := by decide +kernel
theorem dL_law_1006 : decode cL_law 1006 = .ok (.aload_n 0, 1) := by decide +kernel
theorem dL_law_1007 : decode cL_law 1007 = .ok (.iload_n 3, 1) := by decide +kernel
theorem dL_law_1008 : decode cL_law 1008 = .ok (.iconst 3, 1) := by decide +kernel
theorem dL_law_1009 : decode cL_law 1009 = .ok (.iadd, 1) := by decide +kernel
theorem dL_law_1010 : decode cL_law 1010 = .ok (.iaload, 1) := by decide +kernel
theorem dL_law_1011 : decode cL_law 1011 = .ok (.invokevirtual 106, 3) := by decide +kernel
theorem dL_law_1014 : decode cL_law 1014 = .ok (.aload_n 2, 1) := by decide +kernel
theorem dL_law_1015 : decode cL_law 1015 = .ok (.aload_n 0, 1) := by decide +kernel
theorem dL_law_1016 : decode cL_law 1016 = .ok (.iload_n 3, 1) := by decide +kernel
theorem dL_law_1017 : decode cL_law 1017 = .ok (.iconst 1, 1) := by decide +kernel
theorem dL_law_1018 : decode cL_law 1018 = .ok (.iadd, 1) := by decide +kernel
theorem dL_law_1019 : decode cL_law 1019 = .ok (.iaload, 1) := by decide +kernel
theorem dL_law_1020 : decode cL_law 1020 = .ok (.aload_n 0, 1) := by decide +kernel
theorem dL_law_1021 : decode cL_law 1021 = .ok (.iload_n 3, 1) := by decide +kernel
theorem dL_law_1022 : decode cL_law 1022 = .ok (.iconst 2, 1) := by decide +kernel
theorem dL_law_1023 : decode cL_law 1023 = .ok (.iadd, 1) := by decide +kernel
theorem dL_law_1024 : decode cL_law 1024 = .ok (.iaload, 1) := by decide +kernel
theorem dL_law_1025 : decode cL_law 1025 = .ok (.aload_n 0, 1) := by decide +kernel
theorem dL_law_1026 : decode cL_law 1026 = .ok (.iload_n 3, 1) := by decide +kernel
theorem dL_law_1027 : decode cL_law 1027 = .ok (.iconst 3, 1) := by decide +kernel
theorem dL_law_1028 : decode cL_law 1028 = .ok (.iadd, 1) := by decide +kernel
theorem dL_law_1029 : decode cL_law 1029 = .ok (.iaload, 1) := by decide +kernel
theorem dL_law_1030 : decode cL_law 1030 = .ok (.invokevirtual 109, 3) := by decide +kernel
theorem dL_law_1033 : decode cL_law 1033 = .ok (.if_icmp .eq 262, 3) := by decide +kernel
theorem dL_law_1036 : decode cL_law 1036 = .ok (.iconst 0, 1) := by decide +kernel
theorem dL_law_1037 : decode cL_law 1037 = .ok (.ireturn, 1) := by decide +kernel
theorem dL_law_1038 : decode cL_law 1038 = .ok (.aload_n 1, 1) := by decide +kernel
theorem dL_law_1039 : decode cL_law 1039 = .ok (.aload_n 0, 1) := by decide +kernel
theorem dL_law_1040 : decode cL_law 1040 = .ok (.iload_n 3, 1) := by decide +kernel
theorem dL_law_1041 : decode cL_law 1041 = .ok (.iconst 1, 1) := by decide +kernel
theorem dL_law_1042 : decode cL_law 1042 = .ok (.iadd, 1) := by decide +kernel
theorem dL_law_1043 : decode cL_law 1043 = .ok (.iaload, 1) := by decide +kernel
theorem dL_law_1044 : decode cL_law 1044 = .ok (.aload_n 0, 1) := by decide +kernel
theorem dL_law_1045 : decode cL_law 1045 = .ok (.iload_n 3, 1) := by decide +kernel
theorem dL_law_1046 : decode cL_law 1046 = .ok (.iconst 2, 1) := by decide +kernel
theorem dL_law_1047 : decode cL_law 1047 = .ok (.iadd, 1) := by decide +kernel
theorem dL_law_1048 : decode cL_law 1048 = .ok (.iaload, 1) := by decide +kernel
theorem dL_law_1049 : decode cL_law 1049 = .ok (.aload_n 0, 1) := by decide +kernel
theorem dL_law_1050 : decode cL_law 1050 = .ok (.iload_n 3, 1) := by decide +kernel
theorem dL_law_1051 : decode cL_law 1051 = .ok (.iconst 3, 1) := by decide +kernel
theorem dL_law_1052 : decode cL_law 1052 = .ok (.iadd, 1) := by decide +kernel
theorem dL_law_1053 : decode cL_law 1053 = .ok (.iaload, 1) := by decide +kernel
theorem dL_law_1054 : decode cL_law 1054 = .ok (.aload_n 0, 1) := by decide +kernel
theorem dL_law_1055 : decode cL_law 1055 = .ok (.iload_n 3, 1) := by decide +kernel
theorem dL_law_1056 : decode cL_law 1056 = .ok (.iconst 4, 1) := by decide +kernel
theorem dL_law_1057 : decode cL_law 1057 = .ok (.iadd, 1) := by decide +kernel
theorem dL_law_1058 : decode cL_law 1058 = .ok (.iaload, 1) := by decide +kernel
theorem dL_law_1059 : decode cL_law 1059 = .ok (.aload_n 0, 1) := by decide +kernel
theorem dL_law_1060 : decode cL_law 1060 = .ok (.iload_n 3, 1) := by decide +kernel
theorem dL_law_1061 : decode cL_law 1061 = .ok (.iconst 5, 1) := by decide +kernel
theorem dL_law_1062 : decode cL_law 1062 = .ok (.iadd, 1) := by decide +kernel
theorem dL_law_1063 : decode cL_law 1063 = .ok (.iaload, 1) := by decide +kernel
theorem dL_law_1064 : decode cL_law 1064 = .ok (.invokevirtual 110, 3) := by decide +kernel
theorem dL_law_1067 : decode cL_law 1067 = .ok (.aload_n 2, 1) := by decide +kernel
theorem dL_law_1068 : decode cL_law 1068 = .ok (.aload_n 0, 1) := by decide +kernel
theorem dL_law_1069 : decode cL_law 1069 = .ok (.iload_n 3, 1) := by decide +kernel
theorem dL_law_1070 : decode cL_law 1070 = .ok (.iconst 1, 1) := by decide +kernel
theorem dL_law_1071 : decode cL_law 1071 = .ok (.iadd, 1) := by decide +kernel
theorem dL_law_1072 : decode cL_law 1072 = .ok (.iaload, 1) := by decide +kernel
theorem dL_law_1073 : decode cL_law 1073 = .ok (.aload_n 0, 1) := by decide +kernel
theorem dL_law_1074 : decode cL_law 1074 = .ok (.iload_n 3, 1) := by decide +kernel
theorem dL_law_1075 : decode cL_law 1075 = .ok (.iconst 2, 1) := by decide +kernel
theorem dL_law_1076 : decode cL_law 1076 = .ok (.iadd, 1) := by decide +kernel
theorem dL_law_1077 : decode cL_law 1077 = .ok (.iaload, 1) := by decide +kernel
theorem dL_law_1078 : decode cL_law 1078 = .ok (.aload_n 0, 1) := by decide +kernel
theorem dL_law_1079 : decode cL_law 1079 = .ok (.iload_n 3, 1) := by decide +kernel
theorem dL_law_1080 : decode cL_law 1080 = .ok (.iconst 3, 1) := by decide +kernel
theorem dL_law_1081 : decode cL_law 1081 = .ok (.iadd, 1) := by decide +kernel
theorem dL_law_1082 : decode cL_law 1082 = .ok (.iaload, 1) := by decide +kernel
theorem dL_law_1083 : decode cL_law 1083 = .ok (.aload_n 0, 1) := by decide +kernel
theorem dL_law_1084 : decode cL_law 1084 = .ok (.iload_n 3, 1) := by decide +kernel
theorem dL_law_1085 : decode cL_law 1085 = .ok (.iconst 4, 1) := by decide +kernel
theorem dL_law_1086 : decode cL_law 1086 = .ok (.iadd, 1) := by decide +kernel
theorem dL_law_1087 : decode cL_law 1087 = .ok (.iaload, 1) := by decide +kernel
theorem dL_law_1088 : decode cL_law 1088 = .ok (.aload_n 0, 1) := by decide +kernel
theorem dL_law_1089 : decode cL_law 1089 = .ok (.iload_n 3, 1) := by decide +kernel
theorem dL_law_1090 : decode cL_law 1090 = .ok (.iconst 5, 1) := by decide +kernel
theorem dL_law_1091 : decode cL_law 1091 = .ok (.iadd, 1) := by decide +kernel
theorem dL_law_1092 : decode cL_law 1092 = .ok (.iaload, 1) := by decide +kernel
theorem dL_law_1093 : decode cL_law 1093 = .ok (.invokevirtual 113, 3) := by decide +kernel
theorem dL_law_1096 : decode cL_law 1096 = .ok (.if_icmp .eq 199, 3) := by decide +kernel
theorem dL_law_1099 : decode cL_law 1099 = .ok (.iconst 0, 1) := by decide +kernel
theorem dL_law_1100 : decode cL_law 1100 = .ok (.ireturn, 1) := by decide +kernel
theorem dL_law_1101 : decode cL_law 1101 = .ok (.aload_n 1, 1) := by decide +kernel
theorem dL_law_1102 : decode cL_law 1102 = .ok (.aload_n 0, 1) := by decide +kernel
theorem dL_law_1103 : decode cL_law 1103 = .ok (.iload_n 3, 1) := by decide +kernel
theorem dL_law_1104 : decode cL_law 1104 = .ok (.iconst 1, 1) := by decide +kernel
theorem dL_law_1105 : decode cL_law 1105 = .ok (.iadd, 1) := by decide +kernel
theorem dL_law_1106 : decode cL_law 1106 = .ok (.iaload, 1) := by decide +kernel
theorem dL_law_1107 : decode cL_law 1107 = .ok (.invokevirtual 114, 3) := by decide +kernel
theorem dL_law_1110 : decode cL_law 1110 = .ok (.aload_n 2, 1) := by decide +kernel
theorem dL_law_1111 : decode cL_law 1111 = .ok (.aload_n 0, 1) := by decide +kernel
theorem dL_law_1112 : decode cL_law 1112 = .ok (.iload_n 3, 1) := by decide +kernel
theorem dL_law_1113 : decode cL_law 1113 = .ok (.iconst 1, 1) := by decide +kernel
theorem dL_law_1114 : decode cL_law 1114 = .ok (.iadd, 1) := by decide +kernel
theorem dL_law_1115 : decode cL_law 1115 = .ok (.iaload, 1) := by decide +kernel
theorem dL_law_1116 : decode cL_law 1116 = .ok (.invokevirtual 117, 3) := by decide +kernel
theorem dL_law_1119 : decode cL_law 1119 = .ok (.if_icmp .eq 176, 3) := by decide +kernel
theorem dL_law_1122 : decode cL_law 1122 = .ok (.iconst 0, 1) := by decide +kernel
theorem dL_law_1123 : decode cL_law 1123 = .ok (.ireturn, 1) := by decide +kernel
theorem dL_law_1124 : decode cL_law 1124 = .ok (.aload_n 1, 1) := by decide +kernel
theorem dL_law_1125 : decode cL_law 1125 = .ok (.aload_n 0, 1) := by decide +kernel
theorem dL_law_1126 : decode cL_law 1126 = .ok (.iload_n 3, 1) := by decide +kernel
theorem dL_law_1127 : decode cL_law 1127 = .ok (.iconst 1, 1) := by decide +kernel
theorem dL_law_1128 : decode cL_law 1128 = .ok (.iadd, 1) := by decide +kernel
theorem dL_law_1129 : decode cL_law 1129 = .ok (.iaload, 1) := by decide +kernel
theorem dL_law_1130 : decode cL_law 1130 = .ok (.invokevirtual 118, 3) := by decide +kernel
theorem dL_law_1133 : decode cL_law 1133 = .ok (.aload_n 2, 1) := by decide +kernel
theorem dL_law_1134 : decode cL_law 1134 = .ok (.aload_n 0, 1) := by decide +kernel
theorem dL_law_1135 : decode cL_law 1135 = .ok (.iload_n 3, 1) := by decide +kernel
theorem dL_law_1136 : decode cL_law 1136 = .ok (.iconst 1, 1) := by decide +kernel
theorem dL_law_1137 : decode cL_law 1137 = .ok (.iadd, 1) := by decide +kernel
theorem dL_law_1138 : decode cL_law 1138 = .ok (.iaload, 1) := by decide +kernel
theorem dL_law_1139 : decode cL_law 1139 = .ok (.invokevirtual 121, 3) := by decide +kernel
theorem dL_law_1142 : decode cL_law 1142 = .ok (.if_icmp .eq 153, 3) := by decide +kernel
theorem dL_law_1145 : decode cL_law 1145 = .ok (.iconst 0, 1) := by decide +kernel
theorem dL_law_1146 : decode cL_law 1146 = .ok (.ireturn, 1) := by decide +kernel
theorem dL_law_1147 : decode cL_law 1147 = .ok (.aload_n 1, 1) := by decide +kernel
theorem dL_law_1148 : decode cL_law 1148 = .ok (.aload_n 0, 1) := by decide +kernel
theorem dL_law_1149 : decode cL_law 1149 = .ok (.iload_n 3, 1) := by decide +kernel
theorem dL_law_1150 : decode cL_law 1150 = .ok (.iconst 1, 1) := by decide +kernel
theorem dL_law_1151 : decode cL_law 1151 = .ok (.iadd, 1) := by decide +kernel
theorem dL_law_1152 : decode cL_law 1152 = .ok (.iaload, 1) := by decide +kernel
theorem dL_law_1153 : decode cL_law 1153 = .ok (.invokevirtual 122, 3) := by decide +kernel
theorem dL_law_1156 : decode cL_law 1156 = .ok (.aload_n 2, 1) := by decide +kernel
theorem dL_law_1157 : decode cL_law 1157 = .ok (.aload_n 0, 1) := by decide +kernel
theorem dL_law_1158 : decode cL_law 1158 = .ok (.iload_n 3, 1) := by decide +kernel
theorem dL_law_1159 : decode cL_law 1159 = .ok (.iconst 1, 1) := by decide +kernel
theorem dL_law_1160 : decode cL_law 1160 = .ok (.iadd, 1) := by decide +kernel
theorem dL_law_1161 : decode cL_law 1161 = .ok (.iaload, 1) := by decide +kernel
theorem dL_law_1162 : decode cL_law 1162 = .ok (.invokevirtual 125, 3) := by decide +kernel
theorem dL_law_1165 : decode cL_law 1165 = .ok (.if_icmp .eq 130, 3) := by decide +kernel
theorem dL_law_1168 : decode cL_law 1168 = .ok (.iconst 0, 1) := by decide +kernel
theorem dL_law_1169 : decode cL_law 1169 = .ok (.ireturn, 1) := by decide +kernel
theorem dL_law_1170 : decode cL_law 1170 = .ok (.aload_n 1, 1) := by decide +kernel
theorem dL_law_1171 : decode cL_law 1171 = .ok (.aload_n 0, 1) := by decide +kernel
theorem dL_law_1172 : decode cL_law 1172 = .ok (.iload_n 3, 1) := by decide +kernel
theorem dL_law_1173 : decode cL_law 1173 = .ok (.iconst 1, 1) := by decide +kernel
theorem dL_law_1174 : decode cL_law 1174 = .ok (.iadd, 1) := by decide +kernel
theorem dL_law_1175 : decode cL_law 1175 = .ok (.iaload, 1) := by decide +kernel
theorem dL_law_1176 : decode cL_law 1176 = .ok (.aload_n 0, 1) := by decide +kernel
theorem dL_law_1177 : decode cL_law 1177 = .ok (.iload_n 3, 1) := by decide +kernel
theorem dL_law_1178 : decode cL_law 1178 = .ok (.iconst 2, 1) := by decide +kernel
theorem dL_law_1179 : decode cL_law 1179 = .ok (.iadd, 1) := by decide +kernel
theorem dL_law_1180 : decode cL_law 1180 = .ok (.iaload, 1) := by decide +kernel
theorem dL_law_1181 : decode cL_law 1181 = .ok (.invokevirtual 126, 3) := by decide +kernel
theorem dL_law_1184 : decode cL_law 1184 = .ok (.aload_n 2, 1) := by decide +kernel
theorem dL_law_1185 : decode cL_law 1185 = .ok (.aload_n 0, 1) := by decide +kernel
theorem dL_law_1186 : decode cL_law 1186 = .ok (.iload_n 3, 1) := by decide +kernel
theorem dL_law_1187 : decode cL_law 1187 = .ok (.iconst 1, 1) := by decide +kernel
theorem dL_law_1188 : decode cL_law 1188 = .ok (.iadd, 1) := by decide +kernel
theorem dL_law_1189 : decode cL_law 1189 = .ok (.iaload, 1) := by decide +kernel
theorem dL_law_1190 : decode cL_law 1190 = .ok (.aload_n 0, 1) := by decide +kernel
theorem dL_law_1191 : decode cL_law 1191 = .ok (.iload_n 3, 1) := by decide +kernel
theorem dL_law_1192 : decode cL_law 1192 = .ok (.iconst 2, 1) := by decide +kernel
theorem dL_law_1193 : decode cL_law 1193 = .ok (.iadd, 1) := by decide +kernel
theorem dL_law_1194 : decode cL_law 1194 = .ok (.iaload, 1) := by decide +kernel
theorem dL_law_1195 : decode cL_law 1195 = .ok (.invokevirtual 129, 3) := by decide +kernel
theorem dL_law_1198 : decode cL_law 1198 = .ok (.if_icmp .eq 97, 3) := by decide +kernel
theorem dL_law_1201 : decode cL_law 1201 = .ok (.iconst 0, 1) := by decide +kernel
theorem dL_law_1202 : decode cL_law 1202 = .ok (.ireturn, 1) := by decide +kernel
theorem dL_law_1203 : decode cL_law 1203 = .ok (.aload_n 1, 1) := by decide +kernel
theorem dL_law_1204 : decode cL_law 1204 = .ok (.aload_n 0, 1) := by decide +kernel
theorem dL_law_1205 : decode cL_law 1205 = .ok (.iload_n 3, 1) := by decide +kernel
theorem dL_law_1206 : decode cL_law 1206 = .ok (.iconst 1, 1) := by decide +kernel
theorem dL_law_1207 : decode cL_law 1207 = .ok (.iadd, 1) := by decide +kernel
theorem dL_law_1208 : decode cL_law 1208 = .ok (.iaload, 1) := by decide +kernel
theorem dL_law_1209 : decode cL_law 1209 = .ok (.aload_n 0, 1) := by decide +kernel
theorem dL_law_1210 : decode cL_law 1210 = .ok (.iload_n 3, 1) := by decide +kernel
theorem dL_law_1211 : decode cL_law 1211 = .ok (.iconst 2, 1) := by decide +kernel
theorem dL_law_1212 : decode cL_law 1212 = .ok (.iadd, 1) := by decide +kernel
theorem dL_law_1213 : decode cL_law 1213 = .ok (.iaload, 1) := by decide +kernel
theorem dL_law_1214 : decode cL_law 1214 = .ok (.invokevirtual 130, 3) := by decide +kernel
theorem dL_law_1217 : decode cL_law 1217 = .ok (.aload_n 2, 1) := by decide +kernel
theorem dL_law_1218 : decode cL_law 1218 = .ok (.aload_n 0, 1) := by decide +kernel
theorem dL_law_1219 : decode cL_law 1219 = .ok (.iload_n 3, 1) := by decide +kernel
theorem dL_law_1220 : decode cL_law 1220 = .ok (.iconst 1, 1) := by decide +kernel
theorem dL_law_1221 : decode cL_law 1221 = .ok (.iadd, 1) := by decide +kernel
theorem dL_law_1222 : decode cL_law 1222 = .ok (.iaload, 1) := by decide +kernel
theorem dL_law_1223 : decode cL_law 1223 = .ok (.aload_n 0, 1) := by decide +kernel
theorem dL_law_1224 : decode cL_law 1224 = .ok (.iload_n 3, 1) := by decide +kernel
theorem dL_law_1225 : decode cL_law 1225 = .ok (.iconst 2, 1) := by decide +kernel
theorem dL_law_1226 : decode cL_law 1226 = .ok (.iadd, 1) := by decide +kernel
theorem dL_law_1227 : decode cL_law 1227 = .ok (.iaload, 1) := by decide +kernel
theorem dL_law_1228 : decode cL_law 1228 = .ok (.invokevirtual 133, 3) := by decide +kernel
theorem dL_law_1231 : decode cL_law 1231 = .ok (.if_icmp .eq 64, 3) := by decide +kernel
theorem dL_law_1234 : decode cL_law 1234 = .ok (.iconst 0, 1) := by decide +kernel
theorem dL_law_1235 : decode cL_law 1235 = .ok (.ireturn, 1) := by decide +kernel
theorem dL_law_1236 : decode cL_law 1236 = .ok (.aload_n 1, 1) := by decide +kernel
theorem dL_law_1237 : decode cL_law 1237 = .ok (.aload_n 0, 1) := by decide +kernel
theorem dL_law_1238 : decode cL_law 1238 = .ok (.iload_n 3, 1) := by decide +kernel
theorem dL_law_1239 : decode cL_law 1239 = .ok (.iconst 1, 1) := by decide +kernel
theorem dL_law_1240 : decode cL_law 1240 = .ok (.iadd, 1) := by decide +kernel
theorem dL_law_1241 : decode cL_law 1241 = .ok (.iaload, 1) := by decide +kernel
theorem dL_law_1242 : decode cL_law 1242 = .ok (.invokevirtual 134, 3) := by decide +kernel
theorem dL_law_1245 : decode cL_law 1245 = .ok (.aload_n 2, 1) := by decide +kernel
theorem dL_law_1246 : decode cL_law 1246 = .ok (.aload_n 0, 1) := by decide +kernel
theorem dL_law_1247 : decode cL_law 1247 = .ok (.iload_n 3, 1) := by decide +kernel
theorem dL_law_1248 : decode cL_law 1248 = .ok (.iconst 1, 1) := by decide +kernel
theorem dL_law_1249 : decode cL_law 1249 = .ok (.iadd, 1) := by decide +kernel
theorem dL_law_1250 : decode cL_law 1250 = .ok (.iaload, 1) := by decide +kernel
theorem dL_law_1251 : decode cL_law 1251 = .ok (.invokevirtual 137, 3) := by decide +kernel
theorem dL_law_1254 : decode cL_law 1254 = .ok (.if_icmp .eq 41, 3) := by decide +kernel
theorem dL_law_1257 : decode cL_law 1257 = .ok (.iconst 0, 1) := by decide +kernel
theorem dL_law_1258 : decode cL_law 1258 = .ok (.ireturn, 1) := by decide +kernel
theorem dL_law_1259 : decode cL_law 1259 = .ok (.aload_n 1, 1) := by decide +kernel
theorem dL_law_1260 : decode cL_law 1260 = .ok (.aload_n 0, 1) := by decide +kernel
theorem dL_law_1261 : decode cL_law 1261 = .ok (.iload_n 3, 1) := by decide +kernel
theorem dL_law_1262 : decode cL_law 1262 = .ok (.iconst 1, 1) := by decide +kernel
theorem dL_law_1263 : decode cL_law 1263 = .ok (.iadd, 1) := by decide +kernel
theorem dL_law_1264 : decode cL_law 1264 = .ok (.iaload, 1) := by decide +kernel
theorem dL_law_1265 : decode cL_law 1265 = .ok (.invokevirtual 138, 3) := by decide +kernel
theorem dL_law_1268 : decode cL_law 1268 = .ok (.aload_n 2, 1) := by decide +kernel
theorem dL_law_1269 : decode cL_law 1269 = .ok (.aload_n 0, 1) := by decide +kernel
theorem dL_law_1270 : decode cL_law 1270 = .ok (.iload_n 3, 1) := by decide +kernel
theorem dL_law_1271 : decode cL_law 1271 = .ok (.iconst 1, 1) := by decide +kernel
theorem dL_law_1272 : decode cL_law 1272 = .ok (.iadd, 1) := by decide +kernel
theorem dL_law_1273 : decode cL_law 1273 = .ok (.iaload, 1) := by decide +kernel
theorem dL_law_1274 : decode cL_law 1274 = .ok (.invokevirtual 141, 3) := by decide +kernel
theorem dL_law_1277 : decode cL_law 1277 = .ok (.if_icmp .eq 18, 3) := by decide +kernel
theorem dL_law_1280 : decode cL_law 1280 = .ok (.iconst 0, 1) := by decide +kernel
theorem dL_law_1281 : decode cL_law 1281 = .ok (.ireturn, 1) := by decide +kernel
theorem dL_law_1282 : decode cL_law 1282 = .ok (.aload_n 1, 1) := by decide +kernel
theorem dL_law_1283 : decode cL_law 1283 = .ok (.invokevirtual 142, 3) := by decide +kernel
theorem dL_law_1286 : decode cL_law 1286 = .ok (.aload_n 2, 1) := by decide +kernel
theorem dL_law_1287 : decode cL_law 1287 = .ok (.invokevirtual 145, 3) := by decide +kernel
theorem dL_law_1290 : decode cL_law 1290 = .ok (.if_icmp .eq 5, 3) := by decide +kernel
theorem dL_law_1293 : decode cL_law 1293 = .ok (.iconst 0, 1) := by decide +kernel
theorem dL_law_1294 : decode cL_law 1294 = .ok (.ireturn, 1) := by decide +kernel
theorem dL_law_1295 : decode cL_law 1295 = .ok (.iinc 3 6, 3) := by decide +kernel
theorem dL_law_1298 : decode cL_law 1298 = .ok (.goto (-1280), 3) := by decide +kernel
theorem dL_law_1301 : decode cL_law 1301 = .ok (.iconst 1, 1) := by decide +kernel
theorem dL_law_1302 : decode cL_law 1302 = .ok (.ireturn, 1) := by decide +kernel
end
section
/-! THE FRAME: the memory of the whole system as one function (offset, place) -> int; its layout; the judgement V over it; a row an instruction. -/
abbrev Mem : Type := Nat → Nat → Int32
def mrow (M : Mem) (q : Nat) (f : Nat → Int32) : Mem := fun a => if a = q then f else M a
def mset (M : Mem) (q j : Nat) (v : Int32) : Mem := mrow M q (upd (M q) j v)
theorem mset_at (M : Mem) (q j : Nat) (v : Int32) (a b : Nat) : mset M q j v a b = if a = q ∧ b = j then v else M a b := by
  unfold mset mrow upd
  by_cases h : a = q
  · subst h
    by_cases h2 : b = j <;> simp [h2]
  · simp [h]
theorem mrow_at (M : Mem) (q : Nat) (f : Nat → Int32) (a b : Nat) : mrow M q f a b = if a = q then f b else M a b := by
  unfold mrow
  by_cases h : a = q <;> simp [h]
/-- the kind of the cell at an offset: 0 .. 8 an object of vwCl, 9 ints, 10 booleans, 11 Child[], 12 Row[], 13 images, 14 kept -/
def kds : List Nat := [7,12,6,9,5,11,2,2,2,2,2,5,11,2,2,2,2,2,5,11,2,2,2,2,2,13,0,14,5,11,2,2,2,2,2,5,11,2,2,2,2,2,5,11,2,2,2,2,2,5,11,2,2,2,2,2,5,11,2,2,2,2,2,5,11,2,2,2,2,2,5,11,2,2,2,2,2,5,11,2,2,2,2,2,5,11,2,2,2,2,2,5,11,2,2,2,2,2,5,11,2,2,2,2,2,5,11,2,2,2,2,2,5,11,2,2,2,2,2,5,11,2,2,2,2,2,5,11,2,2,2,2,2,5,11,2,2,2,2,2,5,11,2,2,2,2,2,5,11,2,2,2,2,2,5,11,2,2,2,2,2,5,11,2,2,2,2,2,5,11,2,2,2,2,2,5,11,2,2,2,2,2,5,11,2,2,2,2,2,5,11,2,2,2,2,2,3,9,9,9,9,9,1,9,4,9,4,9,4,9,4,9,4,9,4,9,4,9,4,9,5,11,2,2,2,2,2,5,11,2,2,2,2,2,8,9,9,9,9,9,9,9,9,10,9,9,9,9,9]
def kd (k : Nat) : Nat := kds.getD k 99
/-- the length of the int (boolean) array at an offset -/
def alen (k : Nat) : Nat := match k with
  | 3 => 300
  | 197 => 20
  | 198 => 30
  | 199 => 30
  | 200 => 30
  | 201 => 3
  | 203 => 16
  | 235 => 8
  | 236 => 8
  | 237 => 320
  | 238 => 300
  | 239 => 39
  | 240 => 39
  | 241 => 936
  | 242 => 78
  | 243 => 2
  | 244 => 16
  | 245 => 5
  | 246 => 30
  | 247 => 19
  | 248 => 30
  | _ => 40
abbrev cAt := Nat → ClassId
def shk (t : Nat) (B : Nat) (cA : cAt) (k : Nat) (f : Nat → Int32) : va_E := match t with
  | 0 => .inr (0, [.ref (B + 27), .int (f 1)])
  | 1 => .inr (1, [.ref (B + 203), .int (f 1)])
  | 2 => .inr (2, [.int (f 0), .int (f 1), .int (f 2), .int (f 3), .int (f 4)])
  | 3 => .inr (3, [.ref (B + 197), .int (f 1)])
  | 4 => .inr (4, [.ref (B + (k + 1)), .int (f 1), .int (f 2)])
  | 5 => .inr (5, [.ref (B + (k + 1)), .int (f 1), .int (f 2), .int (f 3), .int (f 4)])
  | 6 => .inr (6, [.ref (B + 3), .int (f 1), .int (f 2), .int (f 3), .int (f 4), .int (f 5), .int (f 6)])
  | 7 => .inr (7, [.ref (B + 1), .ref (B + 2), .ref (B + 4), .ref (B + 11), .ref (B + 18), .ref (B + 25), .ref (B + 26), .ref (B + 196), .ref (B + 198), .ref (B + 199), .ref (B + 200), .ref (B + 201), .ref (B + 202), .int (f 13), .int (f 14)])
  | 8 => .inr (8, [.int (f 0), .ref (B + 235), .ref (B + 236), .ref (B + 237), .ref (B + 238), .int (f 5), .int (f 6), .ref (B + 239), .ref (B + 240), .ref (B + 241), .int (f 10), .ref (B + 242), .ref (B + 243), .ref (B + 244), .int (f 14), .int (f 15), .int (f 16), .int (f 17), .int (f 18), .int (f 19), .ref (B + 245), .int (f 21), .ref (B + 246), .ref (B + 247), .int (f 24), .ref (B + 248)])
  | 9 => .inl (cA 0, alen k, .inl f)
  | 10 => .inl (cA 4, alen k, .inl f)
  | 11 => .inl (cA 3, 5, .inr (.inr (.inr (.inr (fun j => some (B + (k + 1 + j)))))))
  | 12 => .inl (cA 1, 8, .inr (.inr (.inr (.inr (fun j => some (B + (204 + 2 * j)))))))
  | 13 => .inl (cA 2, 2, .inr (.inr (.inr (.inr (fun j => some (B + (220 + 7 * j)))))))
  | _ => .inl (cA 2, 24, .inr (.inr (.inr (.inr (fun j => some (B + (28 + 7 * (f j).toNatClampNeg)))))))
def sh (B : Nat) (cA : cAt) (k : Nat) (f : Nat → Int32) : va_E := shk (kd k) B cA k f
abbrev tysL (cA : cAt) : List (ClassId × FieldType) := [(cA 0, .int), (cA 1, .object RX4), (cA 2, .object RX5), (cA 3, .object RX2), (cA 4, .boolean)]
def WL (B : Nat) (cA : cAt) (M : Mem) : va_W := (List.range 249).map fun k => (B + k, sh B cA k (M k))
theorem WL_get {B : Nat} {cA : cAt} {M : Mem} {k : Nat} (hk : k < 249) : (WL B cA M)[k]? = some (B + k, sh B cA k (M k)) := by
  simp [WL, List.getElem?_map, List.getElem?_range hk]
theorem WL_get_inv {B : Nat} {cA : cAt} {M : Mem} {k : Nat} {q : Nat × va_E} (h : (WL B cA M)[k]? = some q) : k < 249 ∧ q = (B + k, sh B cA k (M k)) := by
  have hl : k < 249 := by
    have h1 := (List.getElem?_eq_some_iff.mp h).1
    simpa [WL] using h1
  exact ⟨hl, Option.some.inj (h.symm.trans (WL_get hl))⟩
theorem WL_set {B : Nat} {cA : cAt} {M : Mem} {q : Nat} (hq : q < 249) (f : Nat → Int32) : (WL B cA M).set q (B + q, sh B cA q f) = WL B cA (mrow M q f) := by
  apply List.ext_getElem?
  intro k
  by_cases hk : k < 249
  · rw [WL_get hk]
    by_cases e : k = q
    · subst e
      rw [List.getElem?_set_self (by simpa [WL] using hk)]
      simp [mrow]
    · rw [List.getElem?_set_ne (Ne.symm e), WL_get hk]
      simp [mrow, e]
  · have h1 : ((WL B cA M).set q (B + q, sh B cA q f)).length ≤ k := by simp [WL]; omega
    have h2 : (WL B cA (mrow M q f)).length ≤ k := by simp [WL]; omega
    rw [List.getElem?_eq_none h1, List.getElem?_eq_none h2]
theorem WL_D {B : Nat} {cA : cAt} {M : Mem} : va_D (fun q => B ≤ q) (WL B cA M) := by
  refine ⟨fun i j p q hi hj h => ?_, fun k q hk => ?_⟩
  · obtain ⟨-, rfl⟩ := WL_get_inv hi
    obtain ⟨-, rfl⟩ := WL_get_inv hj
    simpa using h
  · obtain ⟨-, rfl⟩ := WL_get_inv hk
    exact Nat.le_add_right _ _
theorem kd_lt {q c : Nat} (h : kd q = c) (hc : c ≠ 99) : q < 249 := by
  by_cases hq : q < 249
  · exact hq
  · refine absurd ?_ hc
    rw [← h]
    unfold kd
    rw [List.getD_eq_getElem?_getD, List.getElem?_eq_none (by have h2 : kds.length = 249 := by decide +kernel
                                                              omega)]
    rfl
/-! which words: those that go with a call as they stand (TG), those of nest mates (NW) -/
def TG : List Cond := lw_tbl.filter goodWord
theorem tg_mem {w : Cond} (i : Nat) (h : lw_tbl[i]? = some w) (hg : goodWord w = true) : w ∈ TG := List.mem_filter.mpr ⟨List.mem_of_getElem? h, hg⟩
theorem tg_in {ws : List Cond} (h : ∀ w ∈ ws, w ∈ lw_tbl) (hg : ws.all goodWord = true) : ∀ w ∈ ws, w ∈ TG := fun w hw => List.mem_filter.mpr ⟨h w hw, List.all_eq_true.mp hg w hw⟩
def isNest : Cond → Bool
  | .fieldLinkNest _ _ _ _ _ _ => true
  | .methodLinkNest _ _ _ _ => true
  | _ => false
def NW : List Cond := tables_1.filter isNest
theorem nw_mem {w : Cond} (i : Nat) (h : tables_1[i]? = some w) (hg : isNest w = true) : w ∈ NW := List.mem_filter.mpr ⟨List.mem_of_getElem? h, hg⟩
def wsf (y : MethodName) (cc : ByteArray) (maxL : Nat) (ret : Option FieldType) : List Cond := .code y cc maxL ret :: TG
theorem good_wsf {y : MethodName} {cc : ByteArray} {maxL : Nat} {ret : Option FieldType} (h : Cond.code y cc maxL ret ∈ TG) : GoodIn TG (wsf y cc maxL ret) := by
  intro w hw
  have hm : w ∈ TG := by
    rcases List.mem_cons.mp hw with rfl | hw
    · exact h
    · exact hw
  exact ⟨hm, good_of_word (List.mem_filter.mp hm).2⟩
abbrev rmd (d : Nat) : Room := { frames := d, cells := 0, slots := 0, locals := 40 * d }
/-! the strings of the class Tape -/
def sIx : List Nat := [50, 29, 42, 83, 85, 87, 89, 91]
def sTx : List String := ["law", "drain", "child", "small", "big", "shy", "glove", "apron"]
def sLen : List Nat := [3, 5, 5, 5, 3, 3, 5, 5]
def sByt : List (List Int32) := [[108, 97, 119], [100, 114, 97, 105, 110], [99, 104, 105, 108, 100], [115, 109, 97, 108, 108], [98, 105, 103], [115, 104, 121], [103, 108, 111, 118, 101], [97, 112, 114, 111, 110]]
/-- what holds at every point, whatever the memory is: kinds, nest mates, the strings, the statics of the JDK that are read -/
def Kz (D : va_G) (cA : cAt) (B : Nat) (aK aV : Nat → Nat) (U : State) : Prop :=
  va_K D vwCl (tysL cA) U ∧ (∀ w ∈ NW, va_Nw w U) ∧ vk_S 8 sLen sByt aK aV (fun q => B ≤ q) U U.heap ∧ (∀ i, i < 8 → vk_R RX6 (sIx.getD i 0) (sTx.getD i "") (aK i) U) ∧
  va_Z "java/lang/String" "COMPACT_STRINGS" "Z" (.int 1) (fun q => B ≤ q) U U.heap ∧ va_Zq "jdk/internal/util/Preconditions" "SIOOBE_FORMATTER" "Ljava/util/function/BiFunction;" (fun q => B ≤ q) U U.heap
theorem nw_warm {w : Cond} (hw : isNest w = true) {s U : State} (hW : s.WarmedH U.vm) (h : va_Nw w s) : va_Nw w U := by
  cases w <;> first | exact va_Nw.warmF hW h | exact va_Nw.warmM hW h | cases hw
theorem nw_on {w : Cond} (hw : isNest w = true) : w.onTables = true := by
  cases w <;> first | rfl | cases hw
theorem Kz.moved {D : va_G} {cA : cAt} {B : Nat} {aK aV : Nat → Nat} {s U : State} {locs : List Loc} (hW : s.WarmedH U.vm) (hS : va_S (fun q => B ≤ q) s.heap U.heap locs) (h : Kz D cA B aK aV s) : Kz D cA B aK aV U := by
  obtain ⟨h1, h2, h3, h4, h5, h6⟩ := h
  exact ⟨va_K.moved hW.alike h1, fun w hw => nw_warm (List.mem_filter.mp hw).2 hW (h2 w hw), (h3.moved hW.alike).kept hS.2.1, fun i hi => (h4 i hi).warm hW, (h5.moved hW.alike).kept hS.2.1, (h6.moved hW.alike).kept hS.2.1⟩
theorem Kz.same {D : va_G} {cA : cAt} {B : Nat} {aK aV : Nat → Nat} {u U : State} (hv : u.vm = U.vm) (hh : U.heap = u.heap) (h : Kz D cA B aK aV u) : Kz D cA B aK aV U := by
  obtain ⟨h1, h2, h3, h4, h5, h6⟩ := h
  have ha : u.vm.Alike U.vm := by rw [hv]; exact Vm.Alike.refl _
  unfold Kz
  rw [hh]
  exact ⟨va_K.moved ha h1, fun w hw => va_Nw.same (nw_on (List.mem_filter.mp hw).2) hv (h2 w hw), h3.moved ha, fun i hi => (h4 i hi).same hv.symm, h5.moved ha, h6.moved ha⟩
/-! ## the judgement -/
def Pcw (D : va_G) (cA : cAt) (B : Nat) (aK aV : Nat → Nat) (avs : List Value) (M : Mem) : Array Value → State → Prop := va_Pc avs (fun U => va_P D vwCl (WL B cA M) U.heap ∧ Kz D cA B aK aV U)
theorem Pcw.blind {D : va_G} {cA : cAt} {B : Nat} {aK aV : Nat → Nat} {avs : List Value} {M : Mem} : FrameBlind (Pcw D cA B aK aV avs M) := by
  intro a U g mk h
  obtain ⟨h1, h2, h3⟩ := h
  exact ⟨h1, h2, Kz.same (u := U) (U := U.calling g mk a) rfl rfl h3⟩
abbrev Qci (D : va_G) (cA : cAt) (B : Nat) (r : Int32) (M : Mem) := va_Qi (fun (r' : Int32) (_ : Unit) => r' = r) (fun _ t => va_P D vwCl (WL B cA M) t.heap) (fun q => B ≤ q)
abbrev Qcl (D : va_G) (cA : cAt) (B : Nat) (r : Int64) (M : Mem) := va_Ql (fun (r' : Int64) (_ : Unit) => r' = r) (fun _ t => va_P D vwCl (WL B cA M) t.heap) (fun q => B ≤ q)
abbrev Qcv (D : va_G) (cA : cAt) (B : Nat) (M : Mem) := va_Qv (fun (_ : Unit) => True) (fun _ t => va_P D vwCl (WL B cA M) t.heap) (fun q => B ≤ q)
abbrev Qcq (D : va_G) (cA : cAt) (B : Nat) (r : Option Nat) (M : Mem) := va_Qq (fun (r' : Option Nat) (_ : Unit) => r' = r.map (fun x => B + x)) (fun _ t => va_P D vwCl (WL B cA M) t.heap) (fun q => B ≤ q)
/-- a reference that may be null, as an offset -/
abbrev rv (B : Nat) (r : Option Nat) : Value := va_rf (r.map (fun x => B + x))
def CI (l : Launch) (D : va_G) (cA : cAt) (B : Nat) (aK aV : Nat → Nat) (y : MethodName) (cc : ByteArray) (maxL : Nat) (ret : FieldType) (d : Nat) (avs : List Value) (M : Mem) (r : Int32) (M' : Mem) : Prop :=
  Met l y (wsf y cc maxL (some ret)) (rmd d) (Pcw D cA B aK aV avs M) (Qci D cA B r M') 0 0 (fun q => B ≤ q)
def CL (l : Launch) (D : va_G) (cA : cAt) (B : Nat) (aK aV : Nat → Nat) (y : MethodName) (cc : ByteArray) (maxL : Nat) (ret : FieldType) (d : Nat) (avs : List Value) (M : Mem) (r : Int64) (M' : Mem) : Prop :=
  Met l y (wsf y cc maxL (some ret)) (rmd d) (Pcw D cA B aK aV avs M) (Qcl D cA B r M') 0 0 (fun q => B ≤ q)
def CV (l : Launch) (D : va_G) (cA : cAt) (B : Nat) (aK aV : Nat → Nat) (y : MethodName) (cc : ByteArray) (maxL : Nat) (d : Nat) (avs : List Value) (M : Mem) (M' : Mem) : Prop :=
  Met l y (wsf y cc maxL none) (rmd d) (Pcw D cA B aK aV avs M) (Qcv D cA B M') 0 0 (fun q => B ≤ q)
def CQ (l : Launch) (D : va_G) (cA : cAt) (B : Nat) (aK aV : Nat → Nat) (y : MethodName) (cc : ByteArray) (maxL : Nat) (ret : FieldType) (d : Nat) (avs : List Value) (M : Mem) (r : Option Nat) (M' : Mem) : Prop :=
  Met l y (wsf y cc maxL (some ret)) (rmd d) (Pcw D cA B aK aV avs M) (Qcq D cA B r M') 0 0 (fun q => B ≤ q)
/-- what a walk stands on -/
def Cx (p : Program) (R : Room) (s : State) (m : MethodId) (args : Array Value) (c : Code) (kc ks : Nat) (D : va_G) (cA : cAt) (B : Nat) (aK aV : Nat → Nat) (cc : ByteArray) (nL : Nat) (own : String) : Prop :=
  p.tables.exec = Jvm.exec ∧ c.code = cc ∧ c.maxLocals = nL ∧ s.vm.findClass own = some m.cls ∧ (∀ w ∈ TG, w.before args s = true) ∧ Kz D cA B aK aV s ∧ kc ≤ R.cells ∧ ks ≤ R.slots
def V (p : Program) (l : Launch) (e : Env) (R : Room) (s : State) (m : MethodId) (args : Array Value) (below : List Frame) (meth : Method) (c : Code) (kc ks : Nat) (D : va_G) (cA : cAt) (B : Nat) (nL : Nat) (Q : State → Prop) (M : Mem) (pc : Nat) (L : List (Nat × Value)) (st : List Value) : Prop :=
  ∀ (H : Heap) (locs : List Loc) (ls : Array Slot), va_P D vwCl (WL B cA M) H → va_S (fun q => B ≤ q) s.heap H locs → lv_has ls nL L → W p l e R s m args below meth c H locs kc ks Q (F0 m pc ls st)
end
section
section VROWS
variable {p : Program} {l : Launch} {e : Env} {R : Room} {s : State} {m : MethodId} {args : Array Value} {below : List Frame} {meth : Method} {c : Code} {kc ks : Nat} {D : va_G} {cA : cAt} {B : Nat} {aK aV : Nat → Nat} {nL : Nat} {Q : State → Prop} {M : Mem} {pc : Nat} {L : List (Nat × Value)} {st : List Value} {cc : ByteArray} {own : String}
theorem v_iconst (C : Cx p R s m args c kc ks D cA B aK aV cc nL own) {n : Int} {v : Int32} (hdg : decode cc pc = .ok (.iconst n, 1)) (hv : Int32.ofInt n = v) (k : V p l e R s m args below meth c kc ks D cA B nL Q M (pc + 1) L (.int v :: st)) : V p l e R s m args below meth c kc ks D cA B nL Q M pc L (st) := fun H locs ls h1 h2 h3 => lv_iconst C.1 C.2.1 hdg hv (k H locs ls h1 h2 h3)
theorem v_bipush (C : Cx p R s m args c kc ks D cA B aK aV cc nL own) {n : Int} {v : Int32} (hdg : decode cc pc = .ok (.bipush n, 2)) (hv : (Int8.ofInt n).toInt32 = v) (k : V p l e R s m args below meth c kc ks D cA B nL Q M (pc + 2) L (.int v :: st)) : V p l e R s m args below meth c kc ks D cA B nL Q M pc L (st) := fun H locs ls h1 h2 h3 => lv_bipush C.1 C.2.1 hdg hv (k H locs ls h1 h2 h3)
theorem v_sipush (C : Cx p R s m args c kc ks D cA B aK aV cc nL own) {n : Int} {v : Int32} (hdg : decode cc pc = .ok (.sipush n, 3)) (hv : (Int16.ofInt n).toInt32 = v) (k : V p l e R s m args below meth c kc ks D cA B nL Q M (pc + 3) L (.int v :: st)) : V p l e R s m args below meth c kc ks D cA B nL Q M pc L (st) := fun H locs ls h1 h2 h3 => lv_sipush C.1 C.2.1 hdg hv (k H locs ls h1 h2 h3)
theorem v_lconst (C : Cx p R s m args c kc ks D cA B aK aV cc nL own) {n : Fin 2} {v : Int64} (hdg : decode cc pc = .ok (.lconst n, 1)) (hv : Int64.ofNat (n : Nat) = v) (k : V p l e R s m args below meth c kc ks D cA B nL Q M (pc + 1) L (.long v :: st)) : V p l e R s m args below meth c kc ks D cA B nL Q M pc L (st) := fun H locs ls h1 h2 h3 => lv_lconst C.1 C.2.1 hdg hv (k H locs ls h1 h2 h3)
theorem v_iload_n (C : Cx p R s m args c kc ks D cA B aK aV cc nL own) {k : Fin 4} {i j : Nat} {x : Int32} (hdg : decode cc pc = .ok (.iload_n k, 1)) (hi : (k : Nat) = i) (hL : L[j]? = some (i, .int x)) (kk : V p l e R s m args below meth c kc ks D cA B nL Q M (pc + 1) L (.int x :: st)) : V p l e R s m args below meth c kc ks D cA B nL Q M pc L st := fun H locs ls h1 h2 h3 => lv_iload_n C.1 C.2.1 hdg hi (lv_at h3 j hL) (kk H locs ls h1 h2 h3)
theorem v_iload (C : Cx p R s m args c kc ks D cA B aK aV cc nL own) {i j : Nat} {x : Int32} (hdg : decode cc pc = .ok (.iload i, 2)) (hL : L[j]? = some (i, .int x)) (kk : V p l e R s m args below meth c kc ks D cA B nL Q M (pc + 2) L (.int x :: st)) : V p l e R s m args below meth c kc ks D cA B nL Q M pc L st := fun H locs ls h1 h2 h3 => lv_iload C.1 C.2.1 hdg (lv_at h3 j hL) (kk H locs ls h1 h2 h3)
theorem v_lload_n (C : Cx p R s m args c kc ks D cA B aK aV cc nL own) {k : Fin 4} {i j : Nat} {x : Int64} (hdg : decode cc pc = .ok (.lload_n k, 1)) (hi : (k : Nat) = i) (hL : L[j]? = some (i, .long x)) (kk : V p l e R s m args below meth c kc ks D cA B nL Q M (pc + 1) L (.long x :: st)) : V p l e R s m args below meth c kc ks D cA B nL Q M pc L st := fun H locs ls h1 h2 h3 => lv_lload_n C.1 C.2.1 hdg hi (lv_at h3 j hL) (kk H locs ls h1 h2 h3)
theorem v_lload (C : Cx p R s m args c kc ks D cA B aK aV cc nL own) {i j : Nat} {x : Int64} (hdg : decode cc pc = .ok (.lload i, 2)) (hL : L[j]? = some (i, .long x)) (kk : V p l e R s m args below meth c kc ks D cA B nL Q M (pc + 2) L (.long x :: st)) : V p l e R s m args below meth c kc ks D cA B nL Q M pc L st := fun H locs ls h1 h2 h3 => lv_lload C.1 C.2.1 hdg (lv_at h3 j hL) (kk H locs ls h1 h2 h3)
theorem v_aload_n (C : Cx p R s m args c kc ks D cA B aK aV cc nL own) {k : Fin 4} {i j : Nat} {x : Option Nat} (hdg : decode cc pc = .ok (.aload_n k, 1)) (hi : (k : Nat) = i) (hL : L[j]? = some (i, va_rf x)) (kk : V p l e R s m args below meth c kc ks D cA B nL Q M (pc + 1) L (va_rf x :: st)) : V p l e R s m args below meth c kc ks D cA B nL Q M pc L st := fun H locs ls h1 h2 h3 => by
  cases x with
  | none => exact lv_aload_nN C.1 C.2.1 hdg hi (lv_at h3 j hL) (kk H locs ls h1 h2 h3)
  | some x => exact lv_aload_n C.1 C.2.1 hdg hi (lv_at h3 j hL) (kk H locs ls h1 h2 h3)
theorem v_aload (C : Cx p R s m args c kc ks D cA B aK aV cc nL own) {i j : Nat} {x : Option Nat} (hdg : decode cc pc = .ok (.aload i, 2)) (hL : L[j]? = some (i, va_rf x)) (kk : V p l e R s m args below meth c kc ks D cA B nL Q M (pc + 2) L (va_rf x :: st)) : V p l e R s m args below meth c kc ks D cA B nL Q M pc L st := fun H locs ls h1 h2 h3 => by
  cases x with
  | none => exact lv_aloadN C.1 C.2.1 hdg (lv_at h3 j hL) (kk H locs ls h1 h2 h3)
  | some x => exact lv_aload C.1 C.2.1 hdg (lv_at h3 j hL) (kk H locs ls h1 h2 h3)
theorem v_istore_n (C : Cx p R s m args c kc ks D cA B aK aV cc nL own) {k : Fin 4} {i : Nat} {x : Int32} {L' : List (Nat × Value)} (hdg : decode cc pc = .ok (.istore_n k, 1)) (hi : (k : Nat) = i) (hn : i < nL) (hl : (i, Value.int x) :: L.filter (fun q => !(q.1 == i) && !(q.1 + 1 == i && q.2.category == 2)) = L') (kk : V p l e R s m args below meth c kc ks D cA B nL Q M (pc + 1) L' st) : V p l e R s m args below meth c kc ks D cA B nL Q M pc L (.int x :: st) := fun H locs ls h1 h2 h3 => lv_istore_n C.1 C.2.1 hdg hi h3 hn hl (fun ls' h => kk H locs ls' h1 h2 h)
theorem v_istore (C : Cx p R s m args c kc ks D cA B aK aV cc nL own) {i : Nat} {x : Int32} {L' : List (Nat × Value)} (hdg : decode cc pc = .ok (.istore i, 2)) (hn : i < nL) (hl : (i, Value.int x) :: L.filter (fun q => !(q.1 == i) && !(q.1 + 1 == i && q.2.category == 2)) = L') (kk : V p l e R s m args below meth c kc ks D cA B nL Q M (pc + 2) L' st) : V p l e R s m args below meth c kc ks D cA B nL Q M pc L (.int x :: st) := fun H locs ls h1 h2 h3 => lv_istore C.1 C.2.1 hdg h3 hn hl (fun ls' h => kk H locs ls' h1 h2 h)
theorem v_lstore_n (C : Cx p R s m args c kc ks D cA B aK aV cc nL own) {k : Fin 4} {i : Nat} {x : Int64} {L' : List (Nat × Value)} (hdg : decode cc pc = .ok (.lstore_n k, 1)) (hi : (k : Nat) = i) (hn : i + 1 < nL) (hl : (i, Value.long x) :: L.filter (fun q => !(q.1 == i) && (!(q.1 == i + 1) && !(q.1 + 1 == i && q.2.category == 2))) = L') (kk : V p l e R s m args below meth c kc ks D cA B nL Q M (pc + 1) L' st) : V p l e R s m args below meth c kc ks D cA B nL Q M pc L (.long x :: st) := fun H locs ls h1 h2 h3 => lv_lstore_n C.1 C.2.1 hdg hi h3 hn hl (fun ls' h => kk H locs ls' h1 h2 h)
theorem v_lstore (C : Cx p R s m args c kc ks D cA B aK aV cc nL own) {i : Nat} {x : Int64} {L' : List (Nat × Value)} (hdg : decode cc pc = .ok (.lstore i, 2)) (hn : i + 1 < nL) (hl : (i, Value.long x) :: L.filter (fun q => !(q.1 == i) && (!(q.1 == i + 1) && !(q.1 + 1 == i && q.2.category == 2))) = L') (kk : V p l e R s m args below meth c kc ks D cA B nL Q M (pc + 2) L' st) : V p l e R s m args below meth c kc ks D cA B nL Q M pc L (.long x :: st) := fun H locs ls h1 h2 h3 => lv_lstore C.1 C.2.1 hdg h3 hn hl (fun ls' h => kk H locs ls' h1 h2 h)
theorem v_astore_n (C : Cx p R s m args c kc ks D cA B aK aV cc nL own) {k : Fin 4} {i : Nat} {x : Option Nat} {L' : List (Nat × Value)} (hdg : decode cc pc = .ok (.astore_n k, 1)) (hi : (k : Nat) = i) (hn : i < nL) (hl : (i, va_rf x) :: L.filter (fun q => !(q.1 == i) && !(q.1 + 1 == i && q.2.category == 2)) = L') (kk : V p l e R s m args below meth c kc ks D cA B nL Q M (pc + 1) L' st) : V p l e R s m args below meth c kc ks D cA B nL Q M pc L (va_rf x :: st) := fun H locs ls h1 h2 h3 => by
  cases x with
  | none => exact lv_astore_nN C.1 C.2.1 hdg hi h3 hn hl (fun ls' h => kk H locs ls' h1 h2 h)
  | some x => exact lv_astore_n C.1 C.2.1 hdg hi h3 hn hl (fun ls' h => kk H locs ls' h1 h2 h)
theorem v_astore (C : Cx p R s m args c kc ks D cA B aK aV cc nL own) {i : Nat} {x : Option Nat} {L' : List (Nat × Value)} (hdg : decode cc pc = .ok (.astore i, 2)) (hn : i < nL) (hl : (i, va_rf x) :: L.filter (fun q => !(q.1 == i) && !(q.1 + 1 == i && q.2.category == 2)) = L') (kk : V p l e R s m args below meth c kc ks D cA B nL Q M (pc + 2) L' st) : V p l e R s m args below meth c kc ks D cA B nL Q M pc L (va_rf x :: st) := fun H locs ls h1 h2 h3 => by
  cases x with
  | none => exact lv_astoreN C.1 C.2.1 hdg h3 hn hl (fun ls' h => kk H locs ls' h1 h2 h)
  | some x => exact lv_astore C.1 C.2.1 hdg h3 hn hl (fun ls' h => kk H locs ls' h1 h2 h)
theorem v_iinc (C : Cx p R s m args c kc ks D cA B aK aV cc nL own) {i j : Nat} {n : Int} {x v : Int32} {L' : List (Nat × Value)} (hdg : decode cc pc = .ok (.iinc i n, 3)) (hL : L[j]? = some (i, .int x)) (hv : x + Int32.ofInt n = v) (hn : i < nL) (hl : (i, Value.int v) :: L.filter (fun q => !(q.1 == i) && !(q.1 + 1 == i && q.2.category == 2)) = L') (kk : V p l e R s m args below meth c kc ks D cA B nL Q M (pc + 3) L' st) : V p l e R s m args below meth c kc ks D cA B nL Q M pc L st := fun H locs ls h1 h2 h3 => lv_iinc C.1 C.2.1 hdg h3 hL hv hn hl (fun ls' h => kk H locs ls' h1 h2 h)
theorem v_sub (ks' : List Nat) {L' : List (Nat × Value)} (hl : lv_pick L ks' = L') (k : V p l e R s m args below meth c kc ks D cA B nL Q M pc L' st) : V p l e R s m args below meth c kc ks D cA B nL Q M pc L st := fun H locs ls h1 h2 h3 => k H locs ls h1 h2 (lv_sub h3 ks' hl)
theorem v_pc {pc' : Nat} (h : pc = pc') (k : V p l e R s m args below meth c kc ks D cA B nL Q M pc' L st) : V p l e R s m args below meth c kc ks D cA B nL Q M pc L st := by rw [h]; exact k
theorem v_eq {M' : Mem} {pc' : Nat} {L' : List (Nat × Value)} {st' : List Value} (k : V p l e R s m args below meth c kc ks D cA B nL Q M' pc' L' st') (h1 : M = M' := by rfl) (h2 : pc = pc' := by rfl) (h3 : L = L' := by rfl) (h4 : st = st' := by rfl) : V p l e R s m args below meth c kc ks D cA B nL Q M pc L st := by subst h1; subst h2; subst h3; subst h4; exact k
theorem v_null (C : Cx p R s m args c kc ks D cA B aK aV cc nL own) (hdg : decode cc pc = .ok (.aconst_null, 1)) (k : V p l e R s m args below meth c kc ks D cA B nL Q M (pc + 1) L (va_rf none :: st)) : V p l e R s m args below meth c kc ks D cA B nL Q M pc L st := fun H locs ls h1 h2 h3 => lv_null C.1 C.2.1 hdg (k H locs ls h1 h2 h3)
theorem v_iadd (C : Cx p R s m args c kc ks D cA B aK aV cc nL own) {x y : Int32} (hdg : decode cc pc = .ok (.iadd, 1))  (k : V p l e R s m args below meth c kc ks D cA B nL Q M (pc + 1) L (.int (x + y) :: st)) : V p l e R s m args below meth c kc ks D cA B nL Q M pc L (.int y :: .int x :: st) := fun H locs ls h1 h2 h3 => lv_iadd C.1 C.2.1 hdg  (k H locs ls h1 h2 h3)
theorem v_isub (C : Cx p R s m args c kc ks D cA B aK aV cc nL own) {x y : Int32} (hdg : decode cc pc = .ok (.isub, 1))  (k : V p l e R s m args below meth c kc ks D cA B nL Q M (pc + 1) L (.int (x - y) :: st)) : V p l e R s m args below meth c kc ks D cA B nL Q M pc L (.int y :: .int x :: st) := fun H locs ls h1 h2 h3 => lv_isub C.1 C.2.1 hdg  (k H locs ls h1 h2 h3)
theorem v_imul (C : Cx p R s m args c kc ks D cA B aK aV cc nL own) {x y : Int32} (hdg : decode cc pc = .ok (.imul, 1))  (k : V p l e R s m args below meth c kc ks D cA B nL Q M (pc + 1) L (.int (x * y) :: st)) : V p l e R s m args below meth c kc ks D cA B nL Q M pc L (.int y :: .int x :: st) := fun H locs ls h1 h2 h3 => lv_imul C.1 C.2.1 hdg  (k H locs ls h1 h2 h3)
theorem v_iand (C : Cx p R s m args c kc ks D cA B aK aV cc nL own) {x y : Int32} (hdg : decode cc pc = .ok (.iand, 1))  (k : V p l e R s m args below meth c kc ks D cA B nL Q M (pc + 1) L (.int (x &&& y) :: st)) : V p l e R s m args below meth c kc ks D cA B nL Q M pc L (.int y :: .int x :: st) := fun H locs ls h1 h2 h3 => lv_iand C.1 C.2.1 hdg  (k H locs ls h1 h2 h3)
theorem v_ior (C : Cx p R s m args c kc ks D cA B aK aV cc nL own) {x y : Int32} (hdg : decode cc pc = .ok (.ior, 1))  (k : V p l e R s m args below meth c kc ks D cA B nL Q M (pc + 1) L (.int (x ||| y) :: st)) : V p l e R s m args below meth c kc ks D cA B nL Q M pc L (.int y :: .int x :: st) := fun H locs ls h1 h2 h3 => lv_ior C.1 C.2.1 hdg  (k H locs ls h1 h2 h3)
theorem v_ishl (C : Cx p R s m args c kc ks D cA B aK aV cc nL own) {x y : Int32} (hdg : decode cc pc = .ok (.ishl, 1))  (k : V p l e R s m args below meth c kc ks D cA B nL Q M (pc + 1) L (.int (x <<< (y &&& 31)) :: st)) : V p l e R s m args below meth c kc ks D cA B nL Q M pc L (.int y :: .int x :: st) := fun H locs ls h1 h2 h3 => lv_ishl C.1 C.2.1 hdg  (k H locs ls h1 h2 h3)
theorem v_ishr (C : Cx p R s m args c kc ks D cA B aK aV cc nL own) {x y : Int32} (hdg : decode cc pc = .ok (.ishr, 1))  (k : V p l e R s m args below meth c kc ks D cA B nL Q M (pc + 1) L (.int (x >>> (y &&& 31)) :: st)) : V p l e R s m args below meth c kc ks D cA B nL Q M pc L (.int y :: .int x :: st) := fun H locs ls h1 h2 h3 => lv_ishr C.1 C.2.1 hdg  (k H locs ls h1 h2 h3)
theorem v_idiv (C : Cx p R s m args c kc ks D cA B aK aV cc nL own) {x y : Int32} (hdg : decode cc pc = .ok (.idiv, 1)) (hne : ¬ y = 0) (k : V p l e R s m args below meth c kc ks D cA B nL Q M (pc + 1) L (.int (x / y) :: st)) : V p l e R s m args below meth c kc ks D cA B nL Q M pc L (.int y :: .int x :: st) := fun H locs ls h1 h2 h3 => lv_idiv C.1 C.2.1 hdg hne (k H locs ls h1 h2 h3)
theorem v_irem0 (C : Cx p R s m args c kc ks D cA B aK aV cc nL own) {x y : Int32} (hdg : decode cc pc = .ok (.irem, 1)) (hne : ¬ y = 0) (k : V p l e R s m args below meth c kc ks D cA B nL Q M (pc + 1) L (.int (x - x / y * y) :: st)) : V p l e R s m args below meth c kc ks D cA B nL Q M pc L (.int y :: .int x :: st) := fun H locs ls h1 h2 h3 => lv_irem C.1 C.2.1 hdg hne (k H locs ls h1 h2 h3)
theorem v_ineg (C : Cx p R s m args c kc ks D cA B aK aV cc nL own) {x : Int32} (hdg : decode cc pc = .ok (.ineg, 1))  (k : V p l e R s m args below meth c kc ks D cA B nL Q M (pc + 1) L (.int (-x) :: st)) : V p l e R s m args below meth c kc ks D cA B nL Q M pc L (.int x :: st) := fun H locs ls h1 h2 h3 => lv_ineg C.1 C.2.1 hdg  (k H locs ls h1 h2 h3)
theorem v_iushr (C : Cx p R s m args c kc ks D cA B aK aV cc nL own) {x y : Int32} (hdg : decode cc pc = .ok (.iushr, 1))  (k : V p l e R s m args below meth c kc ks D cA B nL Q M (pc + 1) L (.int ((x.toUInt32 >>> (y.toUInt32 &&& Int32.toUInt32 31)).toInt32) :: st)) : V p l e R s m args below meth c kc ks D cA B nL Q M pc L (.int y :: .int x :: st) := fun H locs ls h1 h2 h3 => lv_iushr C.1 C.2.1 hdg rfl (k H locs ls h1 h2 h3)
theorem v_ladd (C : Cx p R s m args c kc ks D cA B aK aV cc nL own) {x y : Int64} (hdg : decode cc pc = .ok (.ladd, 1))  (k : V p l e R s m args below meth c kc ks D cA B nL Q M (pc + 1) L (.long (x + y) :: st)) : V p l e R s m args below meth c kc ks D cA B nL Q M pc L (.long y :: .long x :: st) := fun H locs ls h1 h2 h3 => lv_ladd C.1 C.2.1 hdg  (k H locs ls h1 h2 h3)
theorem v_lmul (C : Cx p R s m args c kc ks D cA B aK aV cc nL own) {x y : Int64} (hdg : decode cc pc = .ok (.lmul, 1))  (k : V p l e R s m args below meth c kc ks D cA B nL Q M (pc + 1) L (.long (x * y) :: st)) : V p l e R s m args below meth c kc ks D cA B nL Q M pc L (.long y :: .long x :: st) := fun H locs ls h1 h2 h3 => lv_lmul C.1 C.2.1 hdg  (k H locs ls h1 h2 h3)
theorem v_land (C : Cx p R s m args c kc ks D cA B aK aV cc nL own) {x y : Int64} (hdg : decode cc pc = .ok (.land, 1))  (k : V p l e R s m args below meth c kc ks D cA B nL Q M (pc + 1) L (.long (x &&& y) :: st)) : V p l e R s m args below meth c kc ks D cA B nL Q M pc L (.long y :: .long x :: st) := fun H locs ls h1 h2 h3 => lv_land C.1 C.2.1 hdg  (k H locs ls h1 h2 h3)
theorem v_lor (C : Cx p R s m args c kc ks D cA B aK aV cc nL own) {x y : Int64} (hdg : decode cc pc = .ok (.lor, 1))  (k : V p l e R s m args below meth c kc ks D cA B nL Q M (pc + 1) L (.long (x ||| y) :: st)) : V p l e R s m args below meth c kc ks D cA B nL Q M pc L (.long y :: .long x :: st) := fun H locs ls h1 h2 h3 => lv_lor C.1 C.2.1 hdg  (k H locs ls h1 h2 h3)
theorem v_lrem0 (C : Cx p R s m args c kc ks D cA B aK aV cc nL own) {x y : Int64} (hdg : decode cc pc = .ok (.lrem, 1)) (hne : ¬ y = 0) (k : V p l e R s m args below meth c kc ks D cA B nL Q M (pc + 1) L (.long (x - x / y * y) :: st)) : V p l e R s m args below meth c kc ks D cA B nL Q M pc L (.long y :: .long x :: st) := fun H locs ls h1 h2 h3 => lv_lrem C.1 C.2.1 hdg hne (k H locs ls h1 h2 h3)
theorem v_lushr (C : Cx p R s m args c kc ks D cA B aK aV cc nL own) {x : Int64} {y : Int32} (hdg : decode cc pc = .ok (.lushr, 1))  (k : V p l e R s m args below meth c kc ks D cA B nL Q M (pc + 1) L (.long ((x.toUInt64 >>> (y.toInt64.toUInt64 &&& Int64.toUInt64 63)).toInt64) :: st)) : V p l e R s m args below meth c kc ks D cA B nL Q M pc L (.int y :: .long x :: st) := fun H locs ls h1 h2 h3 => lv_lushr C.1 C.2.1 hdg rfl (k H locs ls h1 h2 h3)
theorem v_lshr (C : Cx p R s m args c kc ks D cA B aK aV cc nL own) {x : Int64} {y : Int32} (hdg : decode cc pc = .ok (.lshr, 1))  (k : V p l e R s m args below meth c kc ks D cA B nL Q M (pc + 1) L (.long (x >>> (y.toInt64 &&& 63)) :: st)) : V p l e R s m args below meth c kc ks D cA B nL Q M pc L (.int y :: .long x :: st) := fun H locs ls h1 h2 h3 => lv_lshr C.1 C.2.1 hdg rfl (k H locs ls h1 h2 h3)
theorem v_lshl (C : Cx p R s m args c kc ks D cA B aK aV cc nL own) {x : Int64} {y : Int32} (hdg : decode cc pc = .ok (.lshl, 1))  (k : V p l e R s m args below meth c kc ks D cA B nL Q M (pc + 1) L (.long (x <<< (y.toInt64 &&& 63)) :: st)) : V p l e R s m args below meth c kc ks D cA B nL Q M pc L (.int y :: .long x :: st) := fun H locs ls h1 h2 h3 => lv_lshl C.1 C.2.1 hdg rfl (k H locs ls h1 h2 h3)
theorem v_lcmp (C : Cx p R s m args c kc ks D cA B aK aV cc nL own) {x y : Int64} (hdg : decode cc pc = .ok (.lcmp, 1))  (k : V p l e R s m args below meth c kc ks D cA B nL Q M (pc + 1) L (.int (lg_cmp x y) :: st)) : V p l e R s m args below meth c kc ks D cA B nL Q M pc L (.long y :: .long x :: st) := fun H locs ls h1 h2 h3 => W.lcmp C.1 C.2.1 hdg  (k H locs ls h1 h2 h3)
theorem v_i2l (C : Cx p R s m args c kc ks D cA B aK aV cc nL own) {x : Int32} (hdg : decode cc pc = .ok (.i2l, 1))  (k : V p l e R s m args below meth c kc ks D cA B nL Q M (pc + 1) L (.long x.toInt64 :: st)) : V p l e R s m args below meth c kc ks D cA B nL Q M pc L (.int x :: st) := fun H locs ls h1 h2 h3 => lv_i2l C.1 C.2.1 hdg rfl (k H locs ls h1 h2 h3)
theorem v_l2i (C : Cx p R s m args c kc ks D cA B aK aV cc nL own) {x : Int64} (hdg : decode cc pc = .ok (.l2i, 1))  (k : V p l e R s m args below meth c kc ks D cA B nL Q M (pc + 1) L (.int x.toInt32 :: st)) : V p l e R s m args below meth c kc ks D cA B nL Q M pc L (.long x :: st) := fun H locs ls h1 h2 h3 => lv_l2i C.1 C.2.1 hdg rfl (k H locs ls h1 h2 h3)
theorem v_i2b (C : Cx p R s m args c kc ks D cA B aK aV cc nL own) {x : Int32} (hdg : decode cc pc = .ok (.i2b, 1))  (k : V p l e R s m args below meth c kc ks D cA B nL Q M (pc + 1) L (.int x.toInt8.toInt32 :: st)) : V p l e R s m args below meth c kc ks D cA B nL Q M pc L (.int x :: st) := fun H locs ls h1 h2 h3 => lv_i2b C.1 C.2.1 hdg rfl (k H locs ls h1 h2 h3)
theorem v_i2s (C : Cx p R s m args c kc ks D cA B aK aV cc nL own) {x : Int32} (hdg : decode cc pc = .ok (.i2s, 1))  (k : V p l e R s m args below meth c kc ks D cA B nL Q M (pc + 1) L (.int x.toInt16.toInt32 :: st)) : V p l e R s m args below meth c kc ks D cA B nL Q M pc L (.int x :: st) := fun H locs ls h1 h2 h3 => lv_i2s C.1 C.2.1 hdg rfl (k H locs ls h1 h2 h3)
theorem v_i2c (C : Cx p R s m args c kc ks D cA B aK aV cc nL own) {x : Int32} (hdg : decode cc pc = .ok (.i2c, 1))  (k : V p l e R s m args below meth c kc ks D cA B nL Q M (pc + 1) L (.int (x.toUInt32 % 65536).toInt32 :: st)) : V p l e R s m args below meth c kc ks D cA B nL Q M pc L (.int x :: st) := fun H locs ls h1 h2 h3 => lv_i2c C.1 C.2.1 hdg rfl (k H locs ls h1 h2 h3)
theorem v_dup (C : Cx p R s m args c kc ks D cA B aK aV cc nL own) {v : Value} (hdg : decode cc pc = .ok (.dup, 1)) (hv : v.category = 1) (k : V p l e R s m args below meth c kc ks D cA B nL Q M (pc + 1) L (v :: v :: st)) : V p l e R s m args below meth c kc ks D cA B nL Q M pc L (v :: st) := fun H locs ls h1 h2 h3 => lv_dup C.1 C.2.1 hdg hv (k H locs ls h1 h2 h3)
theorem v_pop (C : Cx p R s m args c kc ks D cA B aK aV cc nL own) {v : Value} (hdg : decode cc pc = .ok (.pop, 1)) (hv : v.category = 1) (k : V p l e R s m args below meth c kc ks D cA B nL Q M (pc + 1) L (st)) : V p l e R s m args below meth c kc ks D cA B nL Q M pc L (v :: st) := fun H locs ls h1 h2 h3 => lv_pop C.1 C.2.1 hdg hv (k H locs ls h1 h2 h3)
theorem v_dup2 (C : Cx p R s m args c kc ks D cA B aK aV cc nL own) {v u : Value} (hdg : decode cc pc = .ok (.dup2, 1)) (hv : v.category = 1) (hu : u.category = 1) (k : V p l e R s m args below meth c kc ks D cA B nL Q M (pc + 1) L (v :: u :: v :: u :: st)) : V p l e R s m args below meth c kc ks D cA B nL Q M pc L (v :: u :: st) := fun H locs ls h1 h2 h3 => lv_dup2_11 C.1 C.2.1 hdg hv hu (k H locs ls h1 h2 h3)
theorem v_irem (C : Cx p R s m args c kc ks D cA B aK aV cc nL own) {x y : Int32} (hdg : decode cc pc = .ok (.irem, 1)) (hne : ¬ y = 0) (k : V p l e R s m args below meth c kc ks D cA B nL Q M (pc + 1) L (.int (x % y) :: st)) : V p l e R s m args below meth c kc ks D cA B nL Q M pc L (.int y :: .int x :: st) := v_irem0 C hdg hne (by rw [show x - x / y * y = x % y from irem_eq_mod x y]; exact k)
theorem lrem_eq (x y : Int64) : x - x / y * y = x % y := by
  apply Int64.toInt_inj.mp
  have h1 := Int64.le_toInt (x % y)
  have h2 := Int64.toInt_lt (x % y)
  rw [Int64.toInt_sub, Int64.toInt_mul, Int64.toInt_div, Int.bmod_mul_bmod, Int.sub_bmod_bmod, Int.mul_comm (x.toInt.tdiv y.toInt), ← Int.tmod_def, ← Int64.toInt_mod]
  exact Int.bmod_eq_of_le_mul_two (by omega) (by omega)
theorem v_lrem (C : Cx p R s m args c kc ks D cA B aK aV cc nL own) {x y : Int64} (hdg : decode cc pc = .ok (.lrem, 1)) (hne : ¬ y = 0) (k : V p l e R s m args below meth c kc ks D cA B nL Q M (pc + 1) L (.long (x % y) :: st)) : V p l e R s m args below meth c kc ks D cA B nL Q M pc L (.long y :: .long x :: st) := v_lrem0 C hdg hne (by rw [lrem_eq]; exact k)
theorem v_if_eq (C : Cx p R s m args c kc ks D cA B aK aV cc nL own) {x : Int32} {off : Int} {tgt : Nat} (hdg : decode cc pc = .ok (.ifCond .eq off, 3)) (ht : (pc : Int) + off = (tgt : Int)) (kt : x = 0 → V p l e R s m args below meth c kc ks D cA B nL Q M tgt L st) (kf : ¬ x = 0 → V p l e R s m args below meth c kc ks D cA B nL Q M (pc + 3) L st) : V p l e R s m args below meth c kc ks D cA B nL Q M pc L (.int x :: st) := fun H locs ls h1 h2 h3 => lv_if_eq C.1 C.2.1 hdg ht (fun q => kt q H locs ls h1 h2 h3) (fun q => kf q H locs ls h1 h2 h3)
theorem v_if_lt (C : Cx p R s m args c kc ks D cA B aK aV cc nL own) {x : Int32} {off : Int} {tgt : Nat} (hdg : decode cc pc = .ok (.ifCond .lt off, 3)) (ht : (pc : Int) + off = (tgt : Int)) (kt : x < 0 → V p l e R s m args below meth c kc ks D cA B nL Q M tgt L st) (kf : ¬ x < 0 → V p l e R s m args below meth c kc ks D cA B nL Q M (pc + 3) L st) : V p l e R s m args below meth c kc ks D cA B nL Q M pc L (.int x :: st) := fun H locs ls h1 h2 h3 => lv_if_lt C.1 C.2.1 hdg ht (fun q => kt q H locs ls h1 h2 h3) (fun q => kf q H locs ls h1 h2 h3)
theorem v_if_ge (C : Cx p R s m args c kc ks D cA B aK aV cc nL own) {x : Int32} {off : Int} {tgt : Nat} (hdg : decode cc pc = .ok (.ifCond .ge off, 3)) (ht : (pc : Int) + off = (tgt : Int)) (kt : 0 ≤ x → V p l e R s m args below meth c kc ks D cA B nL Q M tgt L st) (kf : ¬ 0 ≤ x → V p l e R s m args below meth c kc ks D cA B nL Q M (pc + 3) L st) : V p l e R s m args below meth c kc ks D cA B nL Q M pc L (.int x :: st) := fun H locs ls h1 h2 h3 => lv_if_ge C.1 C.2.1 hdg ht (fun q => kt q H locs ls h1 h2 h3) (fun q => kf q H locs ls h1 h2 h3)
theorem v_if_gt (C : Cx p R s m args c kc ks D cA B aK aV cc nL own) {x : Int32} {off : Int} {tgt : Nat} (hdg : decode cc pc = .ok (.ifCond .gt off, 3)) (ht : (pc : Int) + off = (tgt : Int)) (kt : 0 < x → V p l e R s m args below meth c kc ks D cA B nL Q M tgt L st) (kf : ¬ 0 < x → V p l e R s m args below meth c kc ks D cA B nL Q M (pc + 3) L st) : V p l e R s m args below meth c kc ks D cA B nL Q M pc L (.int x :: st) := fun H locs ls h1 h2 h3 => lv_if_gt C.1 C.2.1 hdg ht (fun q => kt q H locs ls h1 h2 h3) (fun q => kf q H locs ls h1 h2 h3)
theorem v_if_le (C : Cx p R s m args c kc ks D cA B aK aV cc nL own) {x : Int32} {off : Int} {tgt : Nat} (hdg : decode cc pc = .ok (.ifCond .le off, 3)) (ht : (pc : Int) + off = (tgt : Int)) (kt : x ≤ 0 → V p l e R s m args below meth c kc ks D cA B nL Q M tgt L st) (kf : ¬ x ≤ 0 → V p l e R s m args below meth c kc ks D cA B nL Q M (pc + 3) L st) : V p l e R s m args below meth c kc ks D cA B nL Q M pc L (.int x :: st) := fun H locs ls h1 h2 h3 => lv_if_le C.1 C.2.1 hdg ht (fun q => kt q H locs ls h1 h2 h3) (fun q => kf q H locs ls h1 h2 h3)
theorem v_icmp_eq (C : Cx p R s m args c kc ks D cA B aK aV cc nL own) {x y : Int32} {off : Int} {tgt : Nat} (hdg : decode cc pc = .ok (.if_icmp .eq off, 3)) (ht : (pc : Int) + off = (tgt : Int)) (kt : x = y → V p l e R s m args below meth c kc ks D cA B nL Q M tgt L st) (kf : ¬ x = y → V p l e R s m args below meth c kc ks D cA B nL Q M (pc + 3) L st) : V p l e R s m args below meth c kc ks D cA B nL Q M pc L (.int y :: .int x :: st) := fun H locs ls h1 h2 h3 => lv_icmp_eq C.1 C.2.1 hdg ht (fun q => kt q H locs ls h1 h2 h3) (fun q => kf q H locs ls h1 h2 h3)
theorem v_icmp_lt (C : Cx p R s m args c kc ks D cA B aK aV cc nL own) {x y : Int32} {off : Int} {tgt : Nat} (hdg : decode cc pc = .ok (.if_icmp .lt off, 3)) (ht : (pc : Int) + off = (tgt : Int)) (kt : x < y → V p l e R s m args below meth c kc ks D cA B nL Q M tgt L st) (kf : ¬ x < y → V p l e R s m args below meth c kc ks D cA B nL Q M (pc + 3) L st) : V p l e R s m args below meth c kc ks D cA B nL Q M pc L (.int y :: .int x :: st) := fun H locs ls h1 h2 h3 => lv_icmp_lt C.1 C.2.1 hdg ht (fun q => kt q H locs ls h1 h2 h3) (fun q => kf q H locs ls h1 h2 h3)
theorem v_icmp_ge (C : Cx p R s m args c kc ks D cA B aK aV cc nL own) {x y : Int32} {off : Int} {tgt : Nat} (hdg : decode cc pc = .ok (.if_icmp .ge off, 3)) (ht : (pc : Int) + off = (tgt : Int)) (kt : y ≤ x → V p l e R s m args below meth c kc ks D cA B nL Q M tgt L st) (kf : ¬ y ≤ x → V p l e R s m args below meth c kc ks D cA B nL Q M (pc + 3) L st) : V p l e R s m args below meth c kc ks D cA B nL Q M pc L (.int y :: .int x :: st) := fun H locs ls h1 h2 h3 => lv_icmp_ge C.1 C.2.1 hdg ht (fun q => kt q H locs ls h1 h2 h3) (fun q => kf q H locs ls h1 h2 h3)
theorem v_icmp_gt (C : Cx p R s m args c kc ks D cA B aK aV cc nL own) {x y : Int32} {off : Int} {tgt : Nat} (hdg : decode cc pc = .ok (.if_icmp .gt off, 3)) (ht : (pc : Int) + off = (tgt : Int)) (kt : y < x → V p l e R s m args below meth c kc ks D cA B nL Q M tgt L st) (kf : ¬ y < x → V p l e R s m args below meth c kc ks D cA B nL Q M (pc + 3) L st) : V p l e R s m args below meth c kc ks D cA B nL Q M pc L (.int y :: .int x :: st) := fun H locs ls h1 h2 h3 => lv_icmp_gt C.1 C.2.1 hdg ht (fun q => kt q H locs ls h1 h2 h3) (fun q => kf q H locs ls h1 h2 h3)
theorem v_icmp_le (C : Cx p R s m args c kc ks D cA B aK aV cc nL own) {x y : Int32} {off : Int} {tgt : Nat} (hdg : decode cc pc = .ok (.if_icmp .le off, 3)) (ht : (pc : Int) + off = (tgt : Int)) (kt : x ≤ y → V p l e R s m args below meth c kc ks D cA B nL Q M tgt L st) (kf : ¬ x ≤ y → V p l e R s m args below meth c kc ks D cA B nL Q M (pc + 3) L st) : V p l e R s m args below meth c kc ks D cA B nL Q M pc L (.int y :: .int x :: st) := fun H locs ls h1 h2 h3 => lv_icmp_le C.1 C.2.1 hdg ht (fun q => kt q H locs ls h1 h2 h3) (fun q => kf q H locs ls h1 h2 h3)
theorem v_if_ne (C : Cx p R s m args c kc ks D cA B aK aV cc nL own) {x : Int32} {off : Int} {tgt : Nat} (hdg : decode cc pc = .ok (.ifCond .ne off, 3)) (ht : (pc : Int) + off = (tgt : Int)) (kt : x = 0 → V p l e R s m args below meth c kc ks D cA B nL Q M (pc + 3) L st) (kf : ¬ x = 0 → V p l e R s m args below meth c kc ks D cA B nL Q M tgt L st) : V p l e R s m args below meth c kc ks D cA B nL Q M pc L (.int x :: st) := fun H locs ls h1 h2 h3 => lv_if_ne C.1 C.2.1 hdg ht (fun q => kf q H locs ls h1 h2 h3) (fun q => kt q H locs ls h1 h2 h3)
theorem v_icmp_ne (C : Cx p R s m args c kc ks D cA B aK aV cc nL own) {x y : Int32} {off : Int} {tgt : Nat} (hdg : decode cc pc = .ok (.if_icmp .ne off, 3)) (ht : (pc : Int) + off = (tgt : Int)) (kt : x = y → V p l e R s m args below meth c kc ks D cA B nL Q M (pc + 3) L st) (kf : ¬ x = y → V p l e R s m args below meth c kc ks D cA B nL Q M tgt L st) : V p l e R s m args below meth c kc ks D cA B nL Q M pc L (.int y :: .int x :: st) := fun H locs ls h1 h2 h3 => lv_icmp_ne C.1 C.2.1 hdg ht (fun q => kf q H locs ls h1 h2 h3) (fun q => kt q H locs ls h1 h2 h3)
theorem v_goto (C : Cx p R s m args c kc ks D cA B aK aV cc nL own) {off : Int} {tgt : Nat} (hdg : decode cc pc = .ok (.goto off, 3)) (ht : (pc : Int) + off = (tgt : Int)) (k : V p l e R s m args below meth c kc ks D cA B nL Q M tgt L st) : V p l e R s m args below meth c kc ks D cA B nL Q M pc L st := fun H locs ls h1 h2 h3 => lv_goto C.1 C.2.1 hdg ht (k H locs ls h1 h2 h3)
theorem v_ifnullS (C : Cx p R s m args c kc ks D cA B aK aV cc nL own) {x : Nat} {off : Int} (hdg : decode cc pc = .ok (.ifnull off, 3)) (k : V p l e R s m args below meth c kc ks D cA B nL Q M (pc + 3) L st) : V p l e R s m args below meth c kc ks D cA B nL Q M pc L (.ref x :: st) := fun H locs ls h1 h2 h3 => lv_ifnull C.1 C.2.1 hdg (k H locs ls h1 h2 h3)
theorem v_ifnullN (C : Cx p R s m args c kc ks D cA B aK aV cc nL own) {off : Int} {tgt : Nat} (hdg : decode cc pc = .ok (.ifnull off, 3)) (ht : (pc : Int) + off = (tgt : Int)) (k : V p l e R s m args below meth c kc ks D cA B nL Q M tgt L st) : V p l e R s m args below meth c kc ks D cA B nL Q M pc L (.null :: st) := fun H locs ls h1 h2 h3 => lv_ifnullN C.1 C.2.1 hdg ht (k H locs ls h1 h2 h3)
theorem v_ifnonnullS (C : Cx p R s m args c kc ks D cA B aK aV cc nL own) {x : Nat} {off : Int} {tgt : Nat} (hdg : decode cc pc = .ok (.ifnonnull off, 3)) (ht : (pc : Int) + off = (tgt : Int)) (k : V p l e R s m args below meth c kc ks D cA B nL Q M tgt L st) : V p l e R s m args below meth c kc ks D cA B nL Q M pc L (.ref x :: st) := fun H locs ls h1 h2 h3 => lv_ifnonnull C.1 C.2.1 hdg ht (k H locs ls h1 h2 h3)
theorem v_ifnonnullN (C : Cx p R s m args c kc ks D cA B aK aV cc nL own) {off : Int} (hdg : decode cc pc = .ok (.ifnonnull off, 3)) (k : V p l e R s m args below meth c kc ks D cA B nL Q M (pc + 3) L st) : V p l e R s m args below meth c kc ks D cA B nL Q M pc L (.null :: st) := fun H locs ls h1 h2 h3 => lv_ifnonnullN C.1 C.2.1 hdg (k H locs ls h1 h2 h3)
theorem v_ldc (C : Cx p R s m args c kc ks D cA B aK aV cc nL own) {index : Nat} {v : Int32} (hw : Cond.constant own index v ∈ TG) (hdg : decode cc pc = .ok (.ldc index, 2)) (k : V p l e R s m args below meth c kc ks D cA B nL Q M (pc + 2) L (.int v :: st)) : V p l e R s m args below meth c kc ks D cA B nL Q M pc L st := fun H locs ls h1 h2 h3 => lv_ldc C.1 C.2.1 C.2.2.2.1 (C.2.2.2.2.1 _ hw) hdg (k H locs ls h1 h2 h3)
theorem v_ldcw (C : Cx p R s m args c kc ks D cA B aK aV cc nL own) {index : Nat} {v : Int32} (hw : Cond.constant own index v ∈ TG) (hdg : decode cc pc = .ok (.ldc_w index, 3)) (k : V p l e R s m args below meth c kc ks D cA B nL Q M (pc + 3) L (.int v :: st)) : V p l e R s m args below meth c kc ks D cA B nL Q M pc L st := fun H locs ls h1 h2 h3 => lv_ldcw C.1 C.2.1 C.2.2.2.1 (C.2.2.2.2.1 _ hw) hdg (k H locs ls h1 h2 h3)
theorem v_ldc2 (C : Cx p R s m args c kc ks D cA B aK aV cc nL own) {index : Nat} {v : Int64} (hw : Cond.constantLong own index v ∈ TG) (hdg : decode cc pc = .ok (.ldc2_w index, 3)) (k : V p l e R s m args below meth c kc ks D cA B nL Q M (pc + 3) L (.long v :: st)) : V p l e R s m args below meth c kc ks D cA B nL Q M pc L st := fun H locs ls h1 h2 h3 => lv_ldc2 C.1 C.2.1 C.2.2.2.1 (C.2.2.2.2.1 _ hw) hdg (k H locs ls h1 h2 h3)
theorem v_ldcS (C : Cx p R s m args c kc ks D cA B aK aV cc nL own) (ho : own = RX6) (i : Nat) (hi : i < 8) {index : Nat} (hix : sIx.getD i 0 = index) (hdg : decode cc pc = .ok (.ldc index, 2)) (k : V p l e R s m args below meth c kc ks D cA B nL Q M (pc + 2) L (.ref (aK i) :: st)) : V p l e R s m args below meth c kc ks D cA B nL Q M pc L st := fun H locs ls h1 h2 h3 => by
  subst ho
  subst hix
  exact va_ldcS C.1 C.2.1 C.2.2.2.1 (C.2.2.2.2.2.1.2.2.2.1 i hi) hdg (k H locs ls h1 h2 h3)
theorem v_tableOut (C : Cx p R s m args c kc ks D cA B aK aV cc nL own) {dflt lo hi : Int} {offs : Array Int} {len : Nat} {x : Int32} {tgt : Nat} (hdg : decode cc pc = .ok (.tableswitch dflt lo hi offs, len)) (h : x.toInt < lo ∨ hi < x.toInt) (ht : (pc : Int) + dflt = (tgt : Int)) (k : V p l e R s m args below meth c kc ks D cA B nL Q M tgt L st) : V p l e R s m args below meth c kc ks D cA B nL Q M pc L (.int x :: st) := fun H locs ls h1 h2 h3 => lv_tableOut C.1 C.2.1 hdg h ht (k H locs ls h1 h2 h3)
theorem v_tableIn (C : Cx p R s m args c kc ks D cA B aK aV cc nL own) {dflt lo hi : Int} {offs : Array Int} {len : Nat} {x : Int32} {off : Int} {tgt : Nat} (hdg : decode cc pc = .ok (.tableswitch dflt lo hi offs, len)) (h1' : ¬ x.toInt < lo) (h2' : ¬ hi < x.toInt) (ho : offs[(x.toInt - lo).toNat]? = some off) (ht : (pc : Int) + off = (tgt : Int)) (k : V p l e R s m args below meth c kc ks D cA B nL Q M tgt L st) : V p l e R s m args below meth c kc ks D cA B nL Q M pc L (.int x :: st) := fun H locs ls h1 h2 h3 => lv_tableIn C.1 C.2.1 hdg h1' h2' ho ht (k H locs ls h1 h2 h3)
theorem v_lookup (C : Cx p R s m args c kc ks D cA B aK aV cc nL own) {dflt : Int} {ps : Array (Int × Int)} {len : Nat} {x : Int32} {off : Int} {tgt : Nat} (hdg : decode cc pc = .ok (.lookupswitch dflt ps, len)) (hp : (ps.toList.zip (ps.toList.drop 1)).all (fun (a, next) => a.1 < next.1) = true) (ho : Op.lookupswitch.offset ps.toList dflt x.toInt = off) (ht : (pc : Int) + off = (tgt : Int)) (k : V p l e R s m args below meth c kc ks D cA B nL Q M tgt L st) : V p l e R s m args below meth c kc ks D cA B nL Q M pc L (.int x :: st) := fun H locs ls h1 h2 h3 => lv_lookup C.1 C.2.1 hdg hp ho ht (k H locs ls h1 h2 h3)
/-! fields and arrays -/
theorem v_get (C : Cx p R s m args c kc ks D cA B aK aV cc nL own) {q ci : Nat} {fs : List Value} {cls : String} {T : u_T} {N index : Nat} (hq : q < 249) (hsh : sh B cA q (M q) = .inr (ci, fs)) (hcl : vwCl[ci]? = some (cls, T, N)) (hin : ∀ w ∈ u_ws cls T N, w ∈ TG) (k : Nat) (hk : k < N) (hlink : Cond.fieldLink own index (T k).1 (T k).2.1 (T k).2.2.1 ∈ TG) {v : Value} (hv : fs[k]? = some v) (hdg : decode cc pc = .ok (.getfield index, 3)) (kk : V p l e R s m args below meth c kc ks D cA B nL Q M (pc + 3) L (v :: st)) : V p l e R s m args below meth c kc ks D cA B nL Q M pc L (.ref (B + q) :: st) := fun H locs ls h1 h2 h3 =>
  va_get C.1 C.2.1 C.2.2.2.2.1 hin C.2.2.2.1 C.2.2.2.2.2.1.1 h1 q (by rw [WL_get hq, hsh]) hcl k hk (C.2.2.2.2.1 _ hlink) (fun _ h => h) hv hdg (kk H locs ls h1 h2 h3)
theorem v_getN (C : Cx p R s m args c kc ks D cA B aK aV cc nL own) {q ci : Nat} {fs : List Value} {cls host : String} {T : u_T} {N index : Nat} (hq : q < 249) (hsh : sh B cA q (M q) = .inr (ci, fs)) (hcl : vwCl[ci]? = some (cls, T, N)) (hin : ∀ w ∈ u_ws cls T N, w ∈ TG) (k : Nat) (hk : k < N) (hlink : Cond.fieldLinkNest own index (T k).1 (T k).2.1 (T k).2.2.1 host ∈ NW) {v : Value} (hv : fs[k]? = some v) (hdg : decode cc pc = .ok (.getfield index, 3)) (kk : V p l e R s m args below meth c kc ks D cA B nL Q M (pc + 3) L (v :: st)) : V p l e R s m args below meth c kc ks D cA B nL Q M pc L (.ref (B + q) :: st) := fun H locs ls h1 h2 h3 =>
  va_getN C.1 C.2.1 C.2.2.2.2.1 hin C.2.2.2.1 C.2.2.2.2.2.1.1 h1 q (by rw [WL_get hq, hsh]) hcl k hk (va_Nw.use rfl (C.2.2.2.2.2.1.2.1 _ hlink)) (fun _ h => h) hv hdg (kk H locs ls h1 h2 h3)
theorem v_put (C : Cx p R s m args c kc ks D cA B aK aV cc nL own) {q ci : Nat} {fs : List Value} {cls : String} {T : u_T} {N index : Nat} (hq : q < 249) (hsh : sh B cA q (M q) = .inr (ci, fs)) (hcl : vwCl[ci]? = some (cls, T, N)) (hin : ∀ w ∈ u_ws cls T N, w ∈ TG) (ty0 : Nat → FieldType) (hty : ∀ k, k < N → parseFieldDescriptor (T k).2.2.1 = some (ty0 k)) (hnm : ∀ a, a < N → ∀ b, b < N → a ≠ b → (T a).2.1 ≠ (T b).2.1) (k : Nat) (hk : k < N) (hlink : Cond.fieldLink own index (T k).1 (T k).2.1 (T k).2.2.1 ∈ TG) (hfin : (T k).2.2.2 = false) {x : Int32} (hn : narrow (ty0 k) (.int x) = .int x) (hfit : fits (ty0 k) (.int x) = true) (hl : k < fs.length)
    (hset : (.inr (ci, fs.set k (.int x)) : va_E) = sh B cA q (upd (M q) k x)) (hdg : decode cc pc = .ok (.putfield index, 3)) (kk : V p l e R s m args below meth c kc ks D cA B nL Q (mset M q k x) (pc + 3) L st) : V p l e R s m args below meth c kc ks D cA B nL Q M pc L (.int x :: .ref (B + q) :: st) := fun H locs ls h1 h2 h3 =>
  va_put C.1 C.2.1 C.2.2.2.2.1 hin ty0 hty hnm C.2.2.2.1 C.2.2.2.2.2.1.1 h1 WL_D h2 q (by rw [WL_get hq, hsh]) hcl k hk (C.2.2.2.2.1 _ hlink) (fun _ h => h) hfin (hty k hk) hn hfit hl hdg (fun H1 locs1 g1 _ g3 => kk H1 locs1 ls (by rw [hset, WL_set hq] at g1; exact g1) g3 h3)
theorem v_putN (C : Cx p R s m args c kc ks D cA B aK aV cc nL own) {q ci : Nat} {fs : List Value} {cls host : String} {T : u_T} {N index : Nat} (hq : q < 249) (hsh : sh B cA q (M q) = .inr (ci, fs)) (hcl : vwCl[ci]? = some (cls, T, N)) (hin : ∀ w ∈ u_ws cls T N, w ∈ TG) (ty0 : Nat → FieldType) (hty : ∀ k, k < N → parseFieldDescriptor (T k).2.2.1 = some (ty0 k)) (hnm : ∀ a, a < N → ∀ b, b < N → a ≠ b → (T a).2.1 ≠ (T b).2.1) (k : Nat) (hk : k < N) (hlink : Cond.fieldLinkNest own index (T k).1 (T k).2.1 (T k).2.2.1 host ∈ NW) (hfin : (T k).2.2.2 = false) {x : Int32} (hn : narrow (ty0 k) (.int x) = .int x) (hfit : fits (ty0 k) (.int x) = true) (hl : k < fs.length)
    (hset : (.inr (ci, fs.set k (.int x)) : va_E) = sh B cA q (upd (M q) k x)) (hdg : decode cc pc = .ok (.putfield index, 3)) (kk : V p l e R s m args below meth c kc ks D cA B nL Q (mset M q k x) (pc + 3) L st) : V p l e R s m args below meth c kc ks D cA B nL Q M pc L (.int x :: .ref (B + q) :: st) := fun H locs ls h1 h2 h3 =>
  va_putN C.1 C.2.1 C.2.2.2.2.1 hin ty0 hty hnm C.2.2.2.1 C.2.2.2.2.2.1.1 h1 WL_D h2 q (by rw [WL_get hq, hsh]) hcl k hk (va_Nw.use rfl (C.2.2.2.2.2.1.2.1 _ hlink)) (fun _ h => h) hfin (hty k hk) hn hfit hl hdg (fun H1 locs1 g1 _ g3 => kk H1 locs1 ls (by rw [hset, WL_set hq] at g1; exact g1) g3 h3)
theorem v_iald (C : Cx p R s m args c kc ks D cA B aK aV cc nL own) {q : Nat} {i : Int32} (hk : kd q = 9) (hin : vp_in i (alen q)) (hdg : decode cc pc = .ok (.iaload, 1)) (k : V p l e R s m args below meth c kc ks D cA B nL Q M (pc + 1) L (.int (M q i.toNatClampNeg) :: st)) : V p l e R s m args below meth c kc ks D cA B nL Q M pc L (.int i :: .ref (B + q) :: st) := fun H locs ls h1 h2 h3 =>
  va_iald C.1 C.2.1 C.2.2.2.2.2.1.1 h1 q 0 (by rw [WL_get (kd_lt hk (by decide))]; unfold sh; rw [hk]; rfl) rfl hin hdg (k H locs ls h1 h2 h3)
theorem v_iast (C : Cx p R s m args c kc ks D cA B aK aV cc nL own) {q : Nat} {i x : Int32} (hk : kd q = 9) (hin : vp_in i (alen q)) (hdg : decode cc pc = .ok (.iastore, 1)) (k : V p l e R s m args below meth c kc ks D cA B nL Q (mset M q i.toNatClampNeg x) (pc + 1) L st) : V p l e R s m args below meth c kc ks D cA B nL Q M pc L (.int x :: .int i :: .ref (B + q) :: st) := fun H locs ls h1 h2 h3 =>
  va_iast C.1 C.2.1 C.2.2.2.2.2.1.1 h1 WL_D h2 q 0 (cA := cA 0) (n := alen q) (f := M q) (by rw [WL_get (kd_lt hk (by decide))]; unfold sh; rw [hk]; rfl) rfl hin hdg (fun H1 locs1 g1 _ g3 => k H1 locs1 ls (by
    have e := WL_set (B := B) (cA := cA) (M := M) (kd_lt hk (by decide)) (upd (M q) i.toNatClampNeg x)
    unfold sh at e
    rw [hk] at e
    exact (congrArg (fun z => va_P D vwCl z H1) e).mp g1) g3 h3)
theorem v_zald (C : Cx p R s m args c kc ks D cA B aK aV cc nL own) {q : Nat} {i : Int32} (hk : kd q = 10) (hin : vp_in i (alen q)) (hdg : decode cc pc = .ok (.baload, 1)) (k : V p l e R s m args below meth c kc ks D cA B nL Q M (pc + 1) L (.int (M q i.toNatClampNeg) :: st)) : V p l e R s m args below meth c kc ks D cA B nL Q M pc L (.int i :: .ref (B + q) :: st) := fun H locs ls h1 h2 h3 =>
  va_zald C.1 C.2.1 C.2.2.2.2.2.1.1 h1 q 4 (by rw [WL_get (kd_lt hk (by decide))]; unfold sh; rw [hk]; rfl) rfl hin hdg (k H locs ls h1 h2 h3)
theorem v_zast (C : Cx p R s m args c kc ks D cA B aK aV cc nL own) {q : Nat} {i x : Int32} (hk : kd q = 10) (hin : vp_in i (alen q)) (hdg : decode cc pc = .ok (.bastore, 1)) (k : V p l e R s m args below meth c kc ks D cA B nL Q (mset M q i.toNatClampNeg (vp_nar .boolean x)) (pc + 1) L st) : V p l e R s m args below meth c kc ks D cA B nL Q M pc L (.int x :: .int i :: .ref (B + q) :: st) := fun H locs ls h1 h2 h3 =>
  va_zast C.1 C.2.1 C.2.2.2.2.2.1.1 h1 WL_D h2 q 4 (cA := cA 4) (n := alen q) (f := M q) (by rw [WL_get (kd_lt hk (by decide))]; unfold sh; rw [hk]; rfl) rfl hin hdg (fun H1 locs1 g1 _ g3 => k H1 locs1 ls (by
    have e := WL_set (B := B) (cA := cA) (M := M) (kd_lt hk (by decide)) (upd (M q) i.toNatClampNeg (vp_nar .boolean x))
    unfold sh at e
    rw [hk] at e
    exact (congrArg (fun z => va_P D vwCl z H1) e).mp g1) g3 h3)
theorem v_alen (C : Cx p R s m args c kc ks D cA B aK aV cc nL own) {q : Nat} (hq : q < 249) {cB : ClassId} {x : vp_A} (hsh : sh B cA q (M q) = .inl (cB, x)) (t0 : Nat) {ty : FieldType} (ht : (tysL cA)[t0]? = some (cB, ty)) {v : Int32} (hv : Int32.ofNat x.1 = v) (hdg : decode cc pc = .ok (.arraylength, 1)) (k : V p l e R s m args below meth c kc ks D cA B nL Q M (pc + 1) L (.int v :: st)) : V p l e R s m args below meth c kc ks D cA B nL Q M pc L (.ref (B + q) :: st) := fun H locs ls h1 h2 h3 =>
  va_alen C.1 C.2.1 C.2.2.2.2.2.1.1 h1 q t0 (by rw [WL_get hq, hsh]) ht hv hdg (k H locs ls h1 h2 h3)
theorem v_aldq (C : Cx p R s m args c kc ks D cA B aK aV cc nL own) {q : Nat} (hq : q < 249) {cB : ClassId} {n : Nat} {f : Nat → Option Nat} (hsh : sh B cA q (M q) = .inl (cB, n, .inr (.inr (.inr (.inr f))))) (t0 : Nat) {cls : String} (ht : (tysL cA)[t0]? = some (cB, .object cls)) {i : Int32} (hin : vp_in i n) (hdg : decode cc pc = .ok (.aaload, 1)) (k : V p l e R s m args below meth c kc ks D cA B nL Q M (pc + 1) L (va_rf (f i.toNatClampNeg) :: st)) : V p l e R s m args below meth c kc ks D cA B nL Q M pc L (.int i :: .ref (B + q) :: st) := fun H locs ls h1 h2 h3 =>
  va_aldq C.1 C.2.1 C.2.2.2.2.2.1.1 h1 q t0 (by rw [WL_get hq, hsh]) ht hin hdg (k H locs ls h1 h2 h3)
theorem v_copy (C : Cx p R s m args c kc ks D cA B aK aV cc nL own) {index : Nat} (hlink : Cond.methodLink own index arraycopyName ∈ TG) (hnat : Cond.native arraycopyName ∈ TG) (hstat : Cond.static arraycopyName ∈ TG) (hini : Cond.initialized "java/lang/System" ∈ TG) {a b : Nat} (ha : kd a = 9) (hb : kd b = 9) {sp dp n : Int32} (g1 : ¬ sp < 0) (g2 : ¬ dp < 0) (g3 : ¬ n < 0) (g4 : sp.toNatClampNeg + n.toNatClampNeg ≤ alen a) (g5 : dp.toNatClampNeg + n.toNatClampNeg ≤ alen b) (hframes : 1 ≤ R.frames) (hlocals : (st.map fun v => v.category).sum + (nativeFrameWords "java/lang/System" "arraycopy" 5 + 11) ≤ R.locals) (hdg : decode cc pc = .ok (.invokestatic index, 3))
    (k : V p l e R s m args below meth c kc ks D cA B nL Q (mrow M b (va_cpy (M a) (M b) sp.toNatClampNeg dp.toNatClampNeg n.toNatClampNeg)) (pc + 3) L st) : V p l e R s m args below meth c kc ks D cA B nL Q M pc L (.int n :: .int dp :: .ref (B + b) :: .int sp :: .ref (B + a) :: st) := fun H locs ls h1 h2 h3 =>
  va_copyi C.1 C.2.1 (C.2.2.1.trans h3.1.symm) C.2.2.2.1 (C.2.2.2.2.1 _ hlink) (C.2.2.2.2.1 _ hnat) (C.2.2.2.2.1 _ hstat) (C.2.2.2.2.1 _ hini) C.2.2.2.2.2.1.1 h1 WL_D h2 a b 0 0 (c0 := cA 0) (c1 := cA 0) (n0 := alen a) (n1 := alen b) (f := M a) (g := M b) (ty := .int)
    (by rw [WL_get (kd_lt ha (by decide))]; unfold sh; rw [ha]; rfl) (by rw [WL_get (kd_lt hb (by decide))]; unfold sh; rw [hb]; rfl) rfl rfl rfl g1 g2 g3 g4 g5 (fun _ _ => rfl) hframes hlocals hdg (fun H1 locs1 f1 _ f3 => k H1 locs1 ls (by
    have e := WL_set (B := B) (cA := cA) (M := M) (kd_lt hb (by decide)) (va_cpy (M a) (M b) sp.toNatClampNeg dp.toNatClampNeg n.toNatClampNeg)
    unfold sh at e
    rw [hb] at e
    exact (congrArg (fun z => va_P D vwCl z H1) e).mp f1) f3 h3)
theorem v_mmax (C : Cx p R s m args c kc ks D cA B aK aV cc nL own) {index : Nat} (hlink : Cond.methodLink own index Lib.Math.max.name ∈ TG) (hstat : Cond.static Lib.Math.max.name ∈ TG) (hini : Cond.initialized "java/lang/Math" ∈ TG) (hcode : Cond.code Lib.Math.max.name Lib.Math.max.code 2 (some .int) ∈ TG) (hframes : 1 ≤ R.frames) (hlocals : (st.map fun v => v.category).sum + 13 ≤ R.locals) {x y : Int32} (hdg : decode cc pc = .ok (.invokestatic index, 3)) (k : V p l e R s m args below meth c kc ks D cA B nL Q M (pc + 3) L (.int (if x < y then y else x) :: st)) : V p l e R s m args below meth c kc ks D cA B nL Q M pc L (.int y :: .int x :: st) := fun H locs ls h1 h2 h3 =>
  va_mmax C.1 C.2.1 (C.2.2.1.trans h3.1.symm) C.2.2.2.1 (C.2.2.2.2.1 _ hlink) (C.2.2.2.2.1 _ hstat) (C.2.2.2.2.1 _ hini) (C.2.2.2.2.1 _ hcode) hframes hlocals C.2.2.2.2.2.2.1 C.2.2.2.2.2.2.2 hdg (k H locs ls h1 h2 h3)
theorem v_mmin (C : Cx p R s m args c kc ks D cA B aK aV cc nL own) {index : Nat} (hlink : Cond.methodLink own index Lib.Math.min.name ∈ TG) (hstat : Cond.static Lib.Math.min.name ∈ TG) (hini : Cond.initialized "java/lang/Math" ∈ TG) (hcode : Cond.code Lib.Math.min.name Lib.Math.min.code 2 (some .int) ∈ TG) (hframes : 1 ≤ R.frames) (hlocals : (st.map fun v => v.category).sum + 13 ≤ R.locals) {x y : Int32} (hdg : decode cc pc = .ok (.invokestatic index, 3)) (k : V p l e R s m args below meth c kc ks D cA B nL Q M (pc + 3) L (.int (if y < x then y else x) :: st)) : V p l e R s m args below meth c kc ks D cA B nL Q M pc L (.int y :: .int x :: st) := fun H locs ls h1 h2 h3 =>
  va_mmin C.1 C.2.1 (C.2.2.1.trans h3.1.symm) C.2.2.2.1 (C.2.2.2.2.1 _ hlink) (C.2.2.2.2.1 _ hstat) (C.2.2.2.2.1 _ hini) (C.2.2.2.2.1 _ hcode) hframes hlocals C.2.2.2.2.2.2.1 C.2.2.2.2.2.2.2 hdg (k H locs ls h1 h2 h3)
theorem v_mabs (C : Cx p R s m args c kc ks D cA B aK aV cc nL own) {index : Nat} (hlink : Cond.methodLink own index Lib.Math.abs.name ∈ TG) (hstat : Cond.static Lib.Math.abs.name ∈ TG) (hini : Cond.initialized "java/lang/Math" ∈ TG) (hcode : Cond.code Lib.Math.abs.name Lib.Math.abs.code 1 (some .int) ∈ TG) (hframes : 1 ≤ R.frames) (hlocals : (st.map fun v => v.category).sum + 13 ≤ R.locals) {x : Int32} (hdg : decode cc pc = .ok (.invokestatic index, 3)) (k : V p l e R s m args below meth c kc ks D cA B nL Q M (pc + 3) L (.int (if 0 ≤ x then x else 0 - x) :: st)) : V p l e R s m args below meth c kc ks D cA B nL Q M pc L (.int x :: st) := fun H locs ls h1 h2 h3 =>
  va_mabs C.1 C.2.1 (C.2.2.1.trans h3.1.symm) C.2.2.2.1 (C.2.2.2.2.1 _ hlink) (C.2.2.2.2.1 _ hstat) (C.2.2.2.2.1 _ hini) (C.2.2.2.2.1 _ hcode) hframes hlocals C.2.2.2.2.2.2.1 C.2.2.2.2.2.2.2 hdg (k H locs ls h1 h2 h3)
end VROWS
end
section
section VCALLS
variable {p : Program} {l : Launch} {e : Env} {R : Room} {s : State} {m : MethodId} {args : Array Value} {below : List Frame} {meth : Method} {c : Code} {kc ks : Nat} {D : va_G} {cA : cAt} {B : Nat} {aK aV : Nat → Nat} {nL : Nat} {Q : State → Prop} {M M' : Mem} {pc : Nat} {L : List (Nat × Value)} {st : List Value} {cc : ByteArray} {own : String}
theorem cv_I (C : Cx p R s m args c kc ks D cA B aK aV cc nL own) {y : MethodName} {bytes : ByteArray} {maxL d2 n idx : Nat} {ret : FieldType} (hcode : Cond.code y bytes maxL (some ret) ∈ TG) (hini : Cond.initialized y.cls ∈ TG) (hlink : Cond.methodLink own idx y ∈ TG) (hinst : Cond.instanceMethod y ∈ TG) (hsel : Cond.selects y.cls y y ∈ TG) (hpd : y.cls ≠ "java/lang/invoke/MethodHandle" ∧ y.cls ≠ "java/lang/invoke/VarHandle" ∧ (parseMethodDescriptor y.desc).map (fun d => d.parameters.length) = some n) (hfr : d2 + 1 ≤ R.frames) (hlo : 8 + (maxL + 11) + 40 * d2 ≤ R.locals) {q ci : Nat} {fs : List Value} {T : u_T} {N : Nat} (hq : q < 249) (hsh : sh B cA q (M q) = .inr (ci, fs)) (hcl : vwCl[ci]? = some (y.cls, T, N)) {As rest : List Value} (hn : As.length = n) (hst : st = As.reverse ++ .ref (B + q) :: rest) (hW : (rest.map fun v => v.category).sum ≤ 8) {r : Int32} (hC : CI l D cA B aK aV y bytes maxL ret d2 (.ref (B + q) :: As) M r M') (hdg : decode cc pc = .ok (.invokevirtual idx, 3)) (k : V p l e R s m args below meth c kc ks D cA B nL Q M' (pc + 3) L (.int r :: rest)) : V p l e R s m args below meth c kc ks D cA B nL Q M pc L st := by
  intro H locs ls h1 h2 h3
  subst hst
  refine va_calli (va_runV (As := As) (rest := rest) ⟨C.1, C.2.1, C.2.2.1, C.2.2.2.1, C.2.2.2.2.1⟩ hC ⟨callB_of n C.2.2.2.2.1 (good_wsf hcode) rfl rfl rfl (C.2.2.2.2.1 _ hini) (C.2.2.2.2.1 _ hlink) hpd ⟨hfr, hlo⟩, C.2.2.2.2.1 _ hinst, C.2.2.2.2.1 _ hsel⟩ ⟨Pcw.blind, va_recv C.2.2.2.2.2.1.1 h1 hcl (by rw [WL_get hq, hsh]), fun U hU hWU => ⟨rfl, by rw [hU]; exact h1, C.2.2.2.2.2.1.moved hWU (by rw [hU]; exact h2)⟩⟩ rfl hn h3.1 rfl (lv_room hW) hdg ⟨C.2.2.2.2.2.2.1, C.2.2.2.2.2.2.2⟩) h2 (fun q _ h => h) (fun q h => h) (fun r1 u t H1 locs1 ht hvm hw hB hz hk hS => ?_)
  subst hw
  rw [ht] at hB
  exact k H1 locs1 ls hB hS h3
theorem cv_L (C : Cx p R s m args c kc ks D cA B aK aV cc nL own) {y : MethodName} {bytes : ByteArray} {maxL d2 n idx : Nat} {ret : FieldType} (hcode : Cond.code y bytes maxL (some ret) ∈ TG) (hini : Cond.initialized y.cls ∈ TG) (hlink : Cond.methodLink own idx y ∈ TG) (hinst : Cond.instanceMethod y ∈ TG) (hsel : Cond.selects y.cls y y ∈ TG) (hpd : y.cls ≠ "java/lang/invoke/MethodHandle" ∧ y.cls ≠ "java/lang/invoke/VarHandle" ∧ (parseMethodDescriptor y.desc).map (fun d => d.parameters.length) = some n) (hfr : d2 + 1 ≤ R.frames) (hlo : 8 + (maxL + 11) + 40 * d2 ≤ R.locals) {q ci : Nat} {fs : List Value} {T : u_T} {N : Nat} (hq : q < 249) (hsh : sh B cA q (M q) = .inr (ci, fs)) (hcl : vwCl[ci]? = some (y.cls, T, N)) {As rest : List Value} (hn : As.length = n) (hst : st = As.reverse ++ .ref (B + q) :: rest) (hW : (rest.map fun v => v.category).sum ≤ 8) {r : Int64} (hC : CL l D cA B aK aV y bytes maxL ret d2 (.ref (B + q) :: As) M r M') (hdg : decode cc pc = .ok (.invokevirtual idx, 3)) (k : V p l e R s m args below meth c kc ks D cA B nL Q M' (pc + 3) L (.long r :: rest)) : V p l e R s m args below meth c kc ks D cA B nL Q M pc L st := by
  intro H locs ls h1 h2 h3
  subst hst
  refine va_calll (va_runV (As := As) (rest := rest) ⟨C.1, C.2.1, C.2.2.1, C.2.2.2.1, C.2.2.2.2.1⟩ hC ⟨callB_of n C.2.2.2.2.1 (good_wsf hcode) rfl rfl rfl (C.2.2.2.2.1 _ hini) (C.2.2.2.2.1 _ hlink) hpd ⟨hfr, hlo⟩, C.2.2.2.2.1 _ hinst, C.2.2.2.2.1 _ hsel⟩ ⟨Pcw.blind, va_recv C.2.2.2.2.2.1.1 h1 hcl (by rw [WL_get hq, hsh]), fun U hU hWU => ⟨rfl, by rw [hU]; exact h1, C.2.2.2.2.2.1.moved hWU (by rw [hU]; exact h2)⟩⟩ rfl hn h3.1 rfl (lv_room hW) hdg ⟨C.2.2.2.2.2.2.1, C.2.2.2.2.2.2.2⟩) h2 (fun q _ h => h) (fun q h => h) (fun r1 u t H1 locs1 ht hvm hw hB hz hk hS => ?_)
  subst hw
  rw [ht] at hB
  exact k H1 locs1 ls hB hS h3
theorem cv_V (C : Cx p R s m args c kc ks D cA B aK aV cc nL own) {y : MethodName} {bytes : ByteArray} {maxL d2 n idx : Nat} (hcode : Cond.code y bytes maxL none ∈ TG) (hini : Cond.initialized y.cls ∈ TG) (hlink : Cond.methodLink own idx y ∈ TG) (hinst : Cond.instanceMethod y ∈ TG) (hsel : Cond.selects y.cls y y ∈ TG) (hpd : y.cls ≠ "java/lang/invoke/MethodHandle" ∧ y.cls ≠ "java/lang/invoke/VarHandle" ∧ (parseMethodDescriptor y.desc).map (fun d => d.parameters.length) = some n) (hfr : d2 + 1 ≤ R.frames) (hlo : 8 + (maxL + 11) + 40 * d2 ≤ R.locals) {q ci : Nat} {fs : List Value} {T : u_T} {N : Nat} (hq : q < 249) (hsh : sh B cA q (M q) = .inr (ci, fs)) (hcl : vwCl[ci]? = some (y.cls, T, N)) {As rest : List Value} (hn : As.length = n) (hst : st = As.reverse ++ .ref (B + q) :: rest) (hW : (rest.map fun v => v.category).sum ≤ 8)  (hC : CV l D cA B aK aV y bytes maxL d2 (.ref (B + q) :: As) M M') (hdg : decode cc pc = .ok (.invokevirtual idx, 3)) (k : V p l e R s m args below meth c kc ks D cA B nL Q M' (pc + 3) L (rest)) : V p l e R s m args below meth c kc ks D cA B nL Q M pc L st := by
  intro H locs ls h1 h2 h3
  subst hst
  refine va_callv (va_runV (As := As) (rest := rest) ⟨C.1, C.2.1, C.2.2.1, C.2.2.2.1, C.2.2.2.2.1⟩ hC ⟨callB_of n C.2.2.2.2.1 (good_wsf hcode) rfl rfl rfl (C.2.2.2.2.1 _ hini) (C.2.2.2.2.1 _ hlink) hpd ⟨hfr, hlo⟩, C.2.2.2.2.1 _ hinst, C.2.2.2.2.1 _ hsel⟩ ⟨Pcw.blind, va_recv C.2.2.2.2.2.1.1 h1 hcl (by rw [WL_get hq, hsh]), fun U hU hWU => ⟨rfl, by rw [hU]; exact h1, C.2.2.2.2.2.1.moved hWU (by rw [hU]; exact h2)⟩⟩ rfl hn h3.1 rfl (lv_room hW) hdg ⟨C.2.2.2.2.2.2.1, C.2.2.2.2.2.2.2⟩) h2 (fun q _ h => h) (fun q h => h) (fun u t H1 locs1 ht hvm hw hB hz hk hS => ?_)
  clear hw
  rw [ht] at hB
  exact k H1 locs1 ls hB hS h3
theorem cv_Q (C : Cx p R s m args c kc ks D cA B aK aV cc nL own) {y : MethodName} {bytes : ByteArray} {maxL d2 n idx : Nat} {ret : FieldType} (hcode : Cond.code y bytes maxL (some ret) ∈ TG) (hini : Cond.initialized y.cls ∈ TG) (hlink : Cond.methodLink own idx y ∈ TG) (hinst : Cond.instanceMethod y ∈ TG) (hsel : Cond.selects y.cls y y ∈ TG) (hpd : y.cls ≠ "java/lang/invoke/MethodHandle" ∧ y.cls ≠ "java/lang/invoke/VarHandle" ∧ (parseMethodDescriptor y.desc).map (fun d => d.parameters.length) = some n) (hfr : d2 + 1 ≤ R.frames) (hlo : 8 + (maxL + 11) + 40 * d2 ≤ R.locals) {q ci : Nat} {fs : List Value} {T : u_T} {N : Nat} (hq : q < 249) (hsh : sh B cA q (M q) = .inr (ci, fs)) (hcl : vwCl[ci]? = some (y.cls, T, N)) {As rest : List Value} (hn : As.length = n) (hst : st = As.reverse ++ .ref (B + q) :: rest) (hW : (rest.map fun v => v.category).sum ≤ 8) {r : Option Nat} (hC : CQ l D cA B aK aV y bytes maxL ret d2 (.ref (B + q) :: As) M r M') (hdg : decode cc pc = .ok (.invokevirtual idx, 3)) (k : V p l e R s m args below meth c kc ks D cA B nL Q M' (pc + 3) L (rv B r :: rest)) : V p l e R s m args below meth c kc ks D cA B nL Q M pc L st := by
  intro H locs ls h1 h2 h3
  subst hst
  refine va_callq (va_runV (As := As) (rest := rest) ⟨C.1, C.2.1, C.2.2.1, C.2.2.2.1, C.2.2.2.2.1⟩ hC ⟨callB_of n C.2.2.2.2.1 (good_wsf hcode) rfl rfl rfl (C.2.2.2.2.1 _ hini) (C.2.2.2.2.1 _ hlink) hpd ⟨hfr, hlo⟩, C.2.2.2.2.1 _ hinst, C.2.2.2.2.1 _ hsel⟩ ⟨Pcw.blind, va_recv C.2.2.2.2.2.1.1 h1 hcl (by rw [WL_get hq, hsh]), fun U hU hWU => ⟨rfl, by rw [hU]; exact h1, C.2.2.2.2.2.1.moved hWU (by rw [hU]; exact h2)⟩⟩ rfl hn h3.1 rfl (lv_room hW) hdg ⟨C.2.2.2.2.2.2.1, C.2.2.2.2.2.2.2⟩) h2 (fun q _ h => h) (fun q h => h) (fun r1 u t H1 locs1 ht hvm hw hB hz hk hS => ?_)
  subst hw
  rw [ht] at hB
  exact k H1 locs1 ls hB hS h3
theorem cvN_I (C : Cx p R s m args c kc ks D cA B aK aV cc nL own) {y : MethodName} {bytes : ByteArray} {maxL d2 n idx : Nat} {ret : FieldType} {host : String} (hcode : Cond.code y bytes maxL (some ret) ∈ TG) (hini : Cond.initialized y.cls ∈ TG) (hlink : Cond.methodLinkNest own idx y host ∈ NW) (hinst : Cond.instanceMethod y ∈ TG) (hsel : Cond.selects y.cls y y ∈ TG) (hpd : y.cls ≠ "java/lang/invoke/MethodHandle" ∧ y.cls ≠ "java/lang/invoke/VarHandle" ∧ (parseMethodDescriptor y.desc).map (fun d => d.parameters.length) = some n) (hfr : d2 + 1 ≤ R.frames) (hlo : 8 + (maxL + 11) + 40 * d2 ≤ R.locals) {q ci : Nat} {fs : List Value} {T : u_T} {N : Nat} (hq : q < 249) (hsh : sh B cA q (M q) = .inr (ci, fs)) (hcl : vwCl[ci]? = some (y.cls, T, N)) {As rest : List Value} (hn : As.length = n) (hst : st = As.reverse ++ .ref (B + q) :: rest) (hW : (rest.map fun v => v.category).sum ≤ 8) {r : Int32} (hC : CI l D cA B aK aV y bytes maxL ret d2 (.ref (B + q) :: As) M r M') (hdg : decode cc pc = .ok (.invokevirtual idx, 3)) (k : V p l e R s m args below meth c kc ks D cA B nL Q M' (pc + 3) L (.int r :: rest)) : V p l e R s m args below meth c kc ks D cA B nL Q M pc L st := by
  intro H locs ls h1 h2 h3
  subst hst
  refine va_calli (va_runVN (As := As) (rest := rest) ⟨C.1, C.2.1, C.2.2.1, C.2.2.2.1, C.2.2.2.2.1⟩ hC ⟨va_cnB n C.2.2.2.2.1 (good_wsf hcode) rfl rfl rfl (C.2.2.2.2.2.1.2.1 _ hlink) (C.2.2.2.2.1 _ hini) hpd ⟨hfr, hlo⟩, C.2.2.2.2.1 _ hinst, C.2.2.2.2.1 _ hsel⟩ ⟨Pcw.blind, va_recv C.2.2.2.2.2.1.1 h1 hcl (by rw [WL_get hq, hsh]), fun U hU hWU => ⟨rfl, by rw [hU]; exact h1, C.2.2.2.2.2.1.moved hWU (by rw [hU]; exact h2)⟩⟩ rfl hn h3.1 rfl (lv_room hW) hdg ⟨C.2.2.2.2.2.2.1, C.2.2.2.2.2.2.2⟩) h2 (fun q _ h => h) (fun q h => h) (fun r1 u t H1 locs1 ht hvm hw hB hz hk hS => ?_)
  subst hw
  rw [ht] at hB
  exact k H1 locs1 ls hB hS h3
theorem cvN_L (C : Cx p R s m args c kc ks D cA B aK aV cc nL own) {y : MethodName} {bytes : ByteArray} {maxL d2 n idx : Nat} {ret : FieldType} {host : String} (hcode : Cond.code y bytes maxL (some ret) ∈ TG) (hini : Cond.initialized y.cls ∈ TG) (hlink : Cond.methodLinkNest own idx y host ∈ NW) (hinst : Cond.instanceMethod y ∈ TG) (hsel : Cond.selects y.cls y y ∈ TG) (hpd : y.cls ≠ "java/lang/invoke/MethodHandle" ∧ y.cls ≠ "java/lang/invoke/VarHandle" ∧ (parseMethodDescriptor y.desc).map (fun d => d.parameters.length) = some n) (hfr : d2 + 1 ≤ R.frames) (hlo : 8 + (maxL + 11) + 40 * d2 ≤ R.locals) {q ci : Nat} {fs : List Value} {T : u_T} {N : Nat} (hq : q < 249) (hsh : sh B cA q (M q) = .inr (ci, fs)) (hcl : vwCl[ci]? = some (y.cls, T, N)) {As rest : List Value} (hn : As.length = n) (hst : st = As.reverse ++ .ref (B + q) :: rest) (hW : (rest.map fun v => v.category).sum ≤ 8) {r : Int64} (hC : CL l D cA B aK aV y bytes maxL ret d2 (.ref (B + q) :: As) M r M') (hdg : decode cc pc = .ok (.invokevirtual idx, 3)) (k : V p l e R s m args below meth c kc ks D cA B nL Q M' (pc + 3) L (.long r :: rest)) : V p l e R s m args below meth c kc ks D cA B nL Q M pc L st := by
  intro H locs ls h1 h2 h3
  subst hst
  refine va_calll (va_runVN (As := As) (rest := rest) ⟨C.1, C.2.1, C.2.2.1, C.2.2.2.1, C.2.2.2.2.1⟩ hC ⟨va_cnB n C.2.2.2.2.1 (good_wsf hcode) rfl rfl rfl (C.2.2.2.2.2.1.2.1 _ hlink) (C.2.2.2.2.1 _ hini) hpd ⟨hfr, hlo⟩, C.2.2.2.2.1 _ hinst, C.2.2.2.2.1 _ hsel⟩ ⟨Pcw.blind, va_recv C.2.2.2.2.2.1.1 h1 hcl (by rw [WL_get hq, hsh]), fun U hU hWU => ⟨rfl, by rw [hU]; exact h1, C.2.2.2.2.2.1.moved hWU (by rw [hU]; exact h2)⟩⟩ rfl hn h3.1 rfl (lv_room hW) hdg ⟨C.2.2.2.2.2.2.1, C.2.2.2.2.2.2.2⟩) h2 (fun q _ h => h) (fun q h => h) (fun r1 u t H1 locs1 ht hvm hw hB hz hk hS => ?_)
  subst hw
  rw [ht] at hB
  exact k H1 locs1 ls hB hS h3
theorem cvN_V (C : Cx p R s m args c kc ks D cA B aK aV cc nL own) {y : MethodName} {bytes : ByteArray} {maxL d2 n idx : Nat} {host : String} (hcode : Cond.code y bytes maxL none ∈ TG) (hini : Cond.initialized y.cls ∈ TG) (hlink : Cond.methodLinkNest own idx y host ∈ NW) (hinst : Cond.instanceMethod y ∈ TG) (hsel : Cond.selects y.cls y y ∈ TG) (hpd : y.cls ≠ "java/lang/invoke/MethodHandle" ∧ y.cls ≠ "java/lang/invoke/VarHandle" ∧ (parseMethodDescriptor y.desc).map (fun d => d.parameters.length) = some n) (hfr : d2 + 1 ≤ R.frames) (hlo : 8 + (maxL + 11) + 40 * d2 ≤ R.locals) {q ci : Nat} {fs : List Value} {T : u_T} {N : Nat} (hq : q < 249) (hsh : sh B cA q (M q) = .inr (ci, fs)) (hcl : vwCl[ci]? = some (y.cls, T, N)) {As rest : List Value} (hn : As.length = n) (hst : st = As.reverse ++ .ref (B + q) :: rest) (hW : (rest.map fun v => v.category).sum ≤ 8)  (hC : CV l D cA B aK aV y bytes maxL d2 (.ref (B + q) :: As) M M') (hdg : decode cc pc = .ok (.invokevirtual idx, 3)) (k : V p l e R s m args below meth c kc ks D cA B nL Q M' (pc + 3) L (rest)) : V p l e R s m args below meth c kc ks D cA B nL Q M pc L st := by
  intro H locs ls h1 h2 h3
  subst hst
  refine va_callv (va_runVN (As := As) (rest := rest) ⟨C.1, C.2.1, C.2.2.1, C.2.2.2.1, C.2.2.2.2.1⟩ hC ⟨va_cnB n C.2.2.2.2.1 (good_wsf hcode) rfl rfl rfl (C.2.2.2.2.2.1.2.1 _ hlink) (C.2.2.2.2.1 _ hini) hpd ⟨hfr, hlo⟩, C.2.2.2.2.1 _ hinst, C.2.2.2.2.1 _ hsel⟩ ⟨Pcw.blind, va_recv C.2.2.2.2.2.1.1 h1 hcl (by rw [WL_get hq, hsh]), fun U hU hWU => ⟨rfl, by rw [hU]; exact h1, C.2.2.2.2.2.1.moved hWU (by rw [hU]; exact h2)⟩⟩ rfl hn h3.1 rfl (lv_room hW) hdg ⟨C.2.2.2.2.2.2.1, C.2.2.2.2.2.2.2⟩) h2 (fun q _ h => h) (fun q h => h) (fun u t H1 locs1 ht hvm hw hB hz hk hS => ?_)
  clear hw
  rw [ht] at hB
  exact k H1 locs1 ls hB hS h3
theorem cvN_Q (C : Cx p R s m args c kc ks D cA B aK aV cc nL own) {y : MethodName} {bytes : ByteArray} {maxL d2 n idx : Nat} {ret : FieldType} {host : String} (hcode : Cond.code y bytes maxL (some ret) ∈ TG) (hini : Cond.initialized y.cls ∈ TG) (hlink : Cond.methodLinkNest own idx y host ∈ NW) (hinst : Cond.instanceMethod y ∈ TG) (hsel : Cond.selects y.cls y y ∈ TG) (hpd : y.cls ≠ "java/lang/invoke/MethodHandle" ∧ y.cls ≠ "java/lang/invoke/VarHandle" ∧ (parseMethodDescriptor y.desc).map (fun d => d.parameters.length) = some n) (hfr : d2 + 1 ≤ R.frames) (hlo : 8 + (maxL + 11) + 40 * d2 ≤ R.locals) {q ci : Nat} {fs : List Value} {T : u_T} {N : Nat} (hq : q < 249) (hsh : sh B cA q (M q) = .inr (ci, fs)) (hcl : vwCl[ci]? = some (y.cls, T, N)) {As rest : List Value} (hn : As.length = n) (hst : st = As.reverse ++ .ref (B + q) :: rest) (hW : (rest.map fun v => v.category).sum ≤ 8) {r : Option Nat} (hC : CQ l D cA B aK aV y bytes maxL ret d2 (.ref (B + q) :: As) M r M') (hdg : decode cc pc = .ok (.invokevirtual idx, 3)) (k : V p l e R s m args below meth c kc ks D cA B nL Q M' (pc + 3) L (rv B r :: rest)) : V p l e R s m args below meth c kc ks D cA B nL Q M pc L st := by
  intro H locs ls h1 h2 h3
  subst hst
  refine va_callq (va_runVN (As := As) (rest := rest) ⟨C.1, C.2.1, C.2.2.1, C.2.2.2.1, C.2.2.2.2.1⟩ hC ⟨va_cnB n C.2.2.2.2.1 (good_wsf hcode) rfl rfl rfl (C.2.2.2.2.2.1.2.1 _ hlink) (C.2.2.2.2.1 _ hini) hpd ⟨hfr, hlo⟩, C.2.2.2.2.1 _ hinst, C.2.2.2.2.1 _ hsel⟩ ⟨Pcw.blind, va_recv C.2.2.2.2.2.1.1 h1 hcl (by rw [WL_get hq, hsh]), fun U hU hWU => ⟨rfl, by rw [hU]; exact h1, C.2.2.2.2.2.1.moved hWU (by rw [hU]; exact h2)⟩⟩ rfl hn h3.1 rfl (lv_room hW) hdg ⟨C.2.2.2.2.2.2.1, C.2.2.2.2.2.2.2⟩) h2 (fun q _ h => h) (fun q h => h) (fun r1 u t H1 locs1 ht hvm hw hB hz hk hS => ?_)
  subst hw
  rw [ht] at hB
  exact k H1 locs1 ls hB hS h3
theorem cs_I (C : Cx p R s m args c kc ks D cA B aK aV cc nL own) {y : MethodName} {bytes : ByteArray} {maxL d2 n idx : Nat} {ret : FieldType} (hcode : Cond.code y bytes maxL (some ret) ∈ TG) (hini : Cond.initialized y.cls ∈ TG) (hlink : Cond.methodLink own idx y ∈ TG) (hstat : Cond.static y ∈ TG) (hpd : y.cls ≠ "java/lang/invoke/MethodHandle" ∧ y.cls ≠ "java/lang/invoke/VarHandle" ∧ (parseMethodDescriptor y.desc).map (fun d => d.parameters.length) = some n) (hfr : d2 + 1 ≤ R.frames) (hlo : 8 + (maxL + 11) + 40 * d2 ≤ R.locals) {As rest : List Value} (hn : As.length = n) (hst : st = As.reverse ++ rest) (hW : (rest.map fun v => v.category).sum ≤ 8) {r : Int32} (hC : CI l D cA B aK aV y bytes maxL ret d2 As M r M') (hdg : decode cc pc = .ok (.invokestatic idx, 3)) (k : V p l e R s m args below meth c kc ks D cA B nL Q M' (pc + 3) L (.int r :: rest)) : V p l e R s m args below meth c kc ks D cA B nL Q M pc L st := by
  intro H locs ls h1 h2 h3
  subst hst
  refine va_calli (va_runS (As := As) (rest := rest) ⟨C.1, C.2.1, C.2.2.1, C.2.2.2.1, C.2.2.2.2.1⟩ hC ⟨callB_of n C.2.2.2.2.1 (good_wsf hcode) rfl rfl rfl (C.2.2.2.2.1 _ hini) (C.2.2.2.2.1 _ hlink) hpd ⟨hfr, hlo⟩, C.2.2.2.2.1 _ hstat⟩ ⟨Pcw.blind, fun U hU hWU => ⟨rfl, by rw [hU]; exact h1, C.2.2.2.2.2.1.moved hWU (by rw [hU]; exact h2)⟩⟩ rfl hn h3.1 rfl (lv_room hW) hdg ⟨C.2.2.2.2.2.2.1, C.2.2.2.2.2.2.2⟩) h2 (fun q _ h => h) (fun q h => h) (fun r1 u t H1 locs1 ht hvm hw hB hz hk hS => ?_)
  subst hw
  rw [ht] at hB
  exact k H1 locs1 ls hB hS h3
theorem cs_L (C : Cx p R s m args c kc ks D cA B aK aV cc nL own) {y : MethodName} {bytes : ByteArray} {maxL d2 n idx : Nat} {ret : FieldType} (hcode : Cond.code y bytes maxL (some ret) ∈ TG) (hini : Cond.initialized y.cls ∈ TG) (hlink : Cond.methodLink own idx y ∈ TG) (hstat : Cond.static y ∈ TG) (hpd : y.cls ≠ "java/lang/invoke/MethodHandle" ∧ y.cls ≠ "java/lang/invoke/VarHandle" ∧ (parseMethodDescriptor y.desc).map (fun d => d.parameters.length) = some n) (hfr : d2 + 1 ≤ R.frames) (hlo : 8 + (maxL + 11) + 40 * d2 ≤ R.locals) {As rest : List Value} (hn : As.length = n) (hst : st = As.reverse ++ rest) (hW : (rest.map fun v => v.category).sum ≤ 8) {r : Int64} (hC : CL l D cA B aK aV y bytes maxL ret d2 As M r M') (hdg : decode cc pc = .ok (.invokestatic idx, 3)) (k : V p l e R s m args below meth c kc ks D cA B nL Q M' (pc + 3) L (.long r :: rest)) : V p l e R s m args below meth c kc ks D cA B nL Q M pc L st := by
  intro H locs ls h1 h2 h3
  subst hst
  refine va_calll (va_runS (As := As) (rest := rest) ⟨C.1, C.2.1, C.2.2.1, C.2.2.2.1, C.2.2.2.2.1⟩ hC ⟨callB_of n C.2.2.2.2.1 (good_wsf hcode) rfl rfl rfl (C.2.2.2.2.1 _ hini) (C.2.2.2.2.1 _ hlink) hpd ⟨hfr, hlo⟩, C.2.2.2.2.1 _ hstat⟩ ⟨Pcw.blind, fun U hU hWU => ⟨rfl, by rw [hU]; exact h1, C.2.2.2.2.2.1.moved hWU (by rw [hU]; exact h2)⟩⟩ rfl hn h3.1 rfl (lv_room hW) hdg ⟨C.2.2.2.2.2.2.1, C.2.2.2.2.2.2.2⟩) h2 (fun q _ h => h) (fun q h => h) (fun r1 u t H1 locs1 ht hvm hw hB hz hk hS => ?_)
  subst hw
  rw [ht] at hB
  exact k H1 locs1 ls hB hS h3
theorem cs_V (C : Cx p R s m args c kc ks D cA B aK aV cc nL own) {y : MethodName} {bytes : ByteArray} {maxL d2 n idx : Nat} (hcode : Cond.code y bytes maxL none ∈ TG) (hini : Cond.initialized y.cls ∈ TG) (hlink : Cond.methodLink own idx y ∈ TG) (hstat : Cond.static y ∈ TG) (hpd : y.cls ≠ "java/lang/invoke/MethodHandle" ∧ y.cls ≠ "java/lang/invoke/VarHandle" ∧ (parseMethodDescriptor y.desc).map (fun d => d.parameters.length) = some n) (hfr : d2 + 1 ≤ R.frames) (hlo : 8 + (maxL + 11) + 40 * d2 ≤ R.locals) {As rest : List Value} (hn : As.length = n) (hst : st = As.reverse ++ rest) (hW : (rest.map fun v => v.category).sum ≤ 8)  (hC : CV l D cA B aK aV y bytes maxL d2 As M M') (hdg : decode cc pc = .ok (.invokestatic idx, 3)) (k : V p l e R s m args below meth c kc ks D cA B nL Q M' (pc + 3) L (rest)) : V p l e R s m args below meth c kc ks D cA B nL Q M pc L st := by
  intro H locs ls h1 h2 h3
  subst hst
  refine va_callv (va_runS (As := As) (rest := rest) ⟨C.1, C.2.1, C.2.2.1, C.2.2.2.1, C.2.2.2.2.1⟩ hC ⟨callB_of n C.2.2.2.2.1 (good_wsf hcode) rfl rfl rfl (C.2.2.2.2.1 _ hini) (C.2.2.2.2.1 _ hlink) hpd ⟨hfr, hlo⟩, C.2.2.2.2.1 _ hstat⟩ ⟨Pcw.blind, fun U hU hWU => ⟨rfl, by rw [hU]; exact h1, C.2.2.2.2.2.1.moved hWU (by rw [hU]; exact h2)⟩⟩ rfl hn h3.1 rfl (lv_room hW) hdg ⟨C.2.2.2.2.2.2.1, C.2.2.2.2.2.2.2⟩) h2 (fun q _ h => h) (fun q h => h) (fun u t H1 locs1 ht hvm hw hB hz hk hS => ?_)
  clear hw
  rw [ht] at hB
  exact k H1 locs1 ls hB hS h3
theorem cs_Q (C : Cx p R s m args c kc ks D cA B aK aV cc nL own) {y : MethodName} {bytes : ByteArray} {maxL d2 n idx : Nat} {ret : FieldType} (hcode : Cond.code y bytes maxL (some ret) ∈ TG) (hini : Cond.initialized y.cls ∈ TG) (hlink : Cond.methodLink own idx y ∈ TG) (hstat : Cond.static y ∈ TG) (hpd : y.cls ≠ "java/lang/invoke/MethodHandle" ∧ y.cls ≠ "java/lang/invoke/VarHandle" ∧ (parseMethodDescriptor y.desc).map (fun d => d.parameters.length) = some n) (hfr : d2 + 1 ≤ R.frames) (hlo : 8 + (maxL + 11) + 40 * d2 ≤ R.locals) {As rest : List Value} (hn : As.length = n) (hst : st = As.reverse ++ rest) (hW : (rest.map fun v => v.category).sum ≤ 8) {r : Option Nat} (hC : CQ l D cA B aK aV y bytes maxL ret d2 As M r M') (hdg : decode cc pc = .ok (.invokestatic idx, 3)) (k : V p l e R s m args below meth c kc ks D cA B nL Q M' (pc + 3) L (rv B r :: rest)) : V p l e R s m args below meth c kc ks D cA B nL Q M pc L st := by
  intro H locs ls h1 h2 h3
  subst hst
  refine va_callq (va_runS (As := As) (rest := rest) ⟨C.1, C.2.1, C.2.2.1, C.2.2.2.1, C.2.2.2.2.1⟩ hC ⟨callB_of n C.2.2.2.2.1 (good_wsf hcode) rfl rfl rfl (C.2.2.2.2.1 _ hini) (C.2.2.2.2.1 _ hlink) hpd ⟨hfr, hlo⟩, C.2.2.2.2.1 _ hstat⟩ ⟨Pcw.blind, fun U hU hWU => ⟨rfl, by rw [hU]; exact h1, C.2.2.2.2.2.1.moved hWU (by rw [hU]; exact h2)⟩⟩ rfl hn h3.1 rfl (lv_room hW) hdg ⟨C.2.2.2.2.2.2.1, C.2.2.2.2.2.2.2⟩) h2 (fun q _ h => h) (fun q h => h) (fun r1 u t H1 locs1 ht hvm hw hB hz hk hS => ?_)
  subst hw
  rw [ht] at hB
  exact k H1 locs1 ls hB hS h3
theorem csN_I (C : Cx p R s m args c kc ks D cA B aK aV cc nL own) {y : MethodName} {bytes : ByteArray} {maxL d2 n idx : Nat} {ret : FieldType} {host : String} (hcode : Cond.code y bytes maxL (some ret) ∈ TG) (hini : Cond.initialized y.cls ∈ TG) (hlink : Cond.methodLinkNest own idx y host ∈ NW) (hstat : Cond.static y ∈ TG) (hpd : y.cls ≠ "java/lang/invoke/MethodHandle" ∧ y.cls ≠ "java/lang/invoke/VarHandle" ∧ (parseMethodDescriptor y.desc).map (fun d => d.parameters.length) = some n) (hfr : d2 + 1 ≤ R.frames) (hlo : 8 + (maxL + 11) + 40 * d2 ≤ R.locals) {As rest : List Value} (hn : As.length = n) (hst : st = As.reverse ++ rest) (hW : (rest.map fun v => v.category).sum ≤ 8) {r : Int32} (hC : CI l D cA B aK aV y bytes maxL ret d2 As M r M') (hdg : decode cc pc = .ok (.invokestatic idx, 3)) (k : V p l e R s m args below meth c kc ks D cA B nL Q M' (pc + 3) L (.int r :: rest)) : V p l e R s m args below meth c kc ks D cA B nL Q M pc L st := by
  intro H locs ls h1 h2 h3
  subst hst
  refine va_calli (va_runSN (As := As) (rest := rest) ⟨C.1, C.2.1, C.2.2.1, C.2.2.2.1, C.2.2.2.2.1⟩ hC ⟨va_cnB n C.2.2.2.2.1 (good_wsf hcode) rfl rfl rfl (C.2.2.2.2.2.1.2.1 _ hlink) (C.2.2.2.2.1 _ hini) hpd ⟨hfr, hlo⟩, C.2.2.2.2.1 _ hstat, trivial⟩ ⟨Pcw.blind, fun U hU hWU => ⟨rfl, by rw [hU]; exact h1, C.2.2.2.2.2.1.moved hWU (by rw [hU]; exact h2)⟩⟩ rfl hn h3.1 rfl (lv_room hW) hdg ⟨C.2.2.2.2.2.2.1, C.2.2.2.2.2.2.2⟩) h2 (fun q _ h => h) (fun q h => h) (fun r1 u t H1 locs1 ht hvm hw hB hz hk hS => ?_)
  subst hw
  rw [ht] at hB
  exact k H1 locs1 ls hB hS h3
theorem csN_L (C : Cx p R s m args c kc ks D cA B aK aV cc nL own) {y : MethodName} {bytes : ByteArray} {maxL d2 n idx : Nat} {ret : FieldType} {host : String} (hcode : Cond.code y bytes maxL (some ret) ∈ TG) (hini : Cond.initialized y.cls ∈ TG) (hlink : Cond.methodLinkNest own idx y host ∈ NW) (hstat : Cond.static y ∈ TG) (hpd : y.cls ≠ "java/lang/invoke/MethodHandle" ∧ y.cls ≠ "java/lang/invoke/VarHandle" ∧ (parseMethodDescriptor y.desc).map (fun d => d.parameters.length) = some n) (hfr : d2 + 1 ≤ R.frames) (hlo : 8 + (maxL + 11) + 40 * d2 ≤ R.locals) {As rest : List Value} (hn : As.length = n) (hst : st = As.reverse ++ rest) (hW : (rest.map fun v => v.category).sum ≤ 8) {r : Int64} (hC : CL l D cA B aK aV y bytes maxL ret d2 As M r M') (hdg : decode cc pc = .ok (.invokestatic idx, 3)) (k : V p l e R s m args below meth c kc ks D cA B nL Q M' (pc + 3) L (.long r :: rest)) : V p l e R s m args below meth c kc ks D cA B nL Q M pc L st := by
  intro H locs ls h1 h2 h3
  subst hst
  refine va_calll (va_runSN (As := As) (rest := rest) ⟨C.1, C.2.1, C.2.2.1, C.2.2.2.1, C.2.2.2.2.1⟩ hC ⟨va_cnB n C.2.2.2.2.1 (good_wsf hcode) rfl rfl rfl (C.2.2.2.2.2.1.2.1 _ hlink) (C.2.2.2.2.1 _ hini) hpd ⟨hfr, hlo⟩, C.2.2.2.2.1 _ hstat, trivial⟩ ⟨Pcw.blind, fun U hU hWU => ⟨rfl, by rw [hU]; exact h1, C.2.2.2.2.2.1.moved hWU (by rw [hU]; exact h2)⟩⟩ rfl hn h3.1 rfl (lv_room hW) hdg ⟨C.2.2.2.2.2.2.1, C.2.2.2.2.2.2.2⟩) h2 (fun q _ h => h) (fun q h => h) (fun r1 u t H1 locs1 ht hvm hw hB hz hk hS => ?_)
  subst hw
  rw [ht] at hB
  exact k H1 locs1 ls hB hS h3
theorem csN_V (C : Cx p R s m args c kc ks D cA B aK aV cc nL own) {y : MethodName} {bytes : ByteArray} {maxL d2 n idx : Nat} {host : String} (hcode : Cond.code y bytes maxL none ∈ TG) (hini : Cond.initialized y.cls ∈ TG) (hlink : Cond.methodLinkNest own idx y host ∈ NW) (hstat : Cond.static y ∈ TG) (hpd : y.cls ≠ "java/lang/invoke/MethodHandle" ∧ y.cls ≠ "java/lang/invoke/VarHandle" ∧ (parseMethodDescriptor y.desc).map (fun d => d.parameters.length) = some n) (hfr : d2 + 1 ≤ R.frames) (hlo : 8 + (maxL + 11) + 40 * d2 ≤ R.locals) {As rest : List Value} (hn : As.length = n) (hst : st = As.reverse ++ rest) (hW : (rest.map fun v => v.category).sum ≤ 8)  (hC : CV l D cA B aK aV y bytes maxL d2 As M M') (hdg : decode cc pc = .ok (.invokestatic idx, 3)) (k : V p l e R s m args below meth c kc ks D cA B nL Q M' (pc + 3) L (rest)) : V p l e R s m args below meth c kc ks D cA B nL Q M pc L st := by
  intro H locs ls h1 h2 h3
  subst hst
  refine va_callv (va_runSN (As := As) (rest := rest) ⟨C.1, C.2.1, C.2.2.1, C.2.2.2.1, C.2.2.2.2.1⟩ hC ⟨va_cnB n C.2.2.2.2.1 (good_wsf hcode) rfl rfl rfl (C.2.2.2.2.2.1.2.1 _ hlink) (C.2.2.2.2.1 _ hini) hpd ⟨hfr, hlo⟩, C.2.2.2.2.1 _ hstat, trivial⟩ ⟨Pcw.blind, fun U hU hWU => ⟨rfl, by rw [hU]; exact h1, C.2.2.2.2.2.1.moved hWU (by rw [hU]; exact h2)⟩⟩ rfl hn h3.1 rfl (lv_room hW) hdg ⟨C.2.2.2.2.2.2.1, C.2.2.2.2.2.2.2⟩) h2 (fun q _ h => h) (fun q h => h) (fun u t H1 locs1 ht hvm hw hB hz hk hS => ?_)
  clear hw
  rw [ht] at hB
  exact k H1 locs1 ls hB hS h3
theorem csN_Q (C : Cx p R s m args c kc ks D cA B aK aV cc nL own) {y : MethodName} {bytes : ByteArray} {maxL d2 n idx : Nat} {ret : FieldType} {host : String} (hcode : Cond.code y bytes maxL (some ret) ∈ TG) (hini : Cond.initialized y.cls ∈ TG) (hlink : Cond.methodLinkNest own idx y host ∈ NW) (hstat : Cond.static y ∈ TG) (hpd : y.cls ≠ "java/lang/invoke/MethodHandle" ∧ y.cls ≠ "java/lang/invoke/VarHandle" ∧ (parseMethodDescriptor y.desc).map (fun d => d.parameters.length) = some n) (hfr : d2 + 1 ≤ R.frames) (hlo : 8 + (maxL + 11) + 40 * d2 ≤ R.locals) {As rest : List Value} (hn : As.length = n) (hst : st = As.reverse ++ rest) (hW : (rest.map fun v => v.category).sum ≤ 8) {r : Option Nat} (hC : CQ l D cA B aK aV y bytes maxL ret d2 As M r M') (hdg : decode cc pc = .ok (.invokestatic idx, 3)) (k : V p l e R s m args below meth c kc ks D cA B nL Q M' (pc + 3) L (rv B r :: rest)) : V p l e R s m args below meth c kc ks D cA B nL Q M pc L st := by
  intro H locs ls h1 h2 h3
  subst hst
  refine va_callq (va_runSN (As := As) (rest := rest) ⟨C.1, C.2.1, C.2.2.1, C.2.2.2.1, C.2.2.2.2.1⟩ hC ⟨va_cnB n C.2.2.2.2.1 (good_wsf hcode) rfl rfl rfl (C.2.2.2.2.2.1.2.1 _ hlink) (C.2.2.2.2.1 _ hini) hpd ⟨hfr, hlo⟩, C.2.2.2.2.1 _ hstat, trivial⟩ ⟨Pcw.blind, fun U hU hWU => ⟨rfl, by rw [hU]; exact h1, C.2.2.2.2.2.1.moved hWU (by rw [hU]; exact h2)⟩⟩ rfl hn h3.1 rfl (lv_room hW) hdg ⟨C.2.2.2.2.2.2.1, C.2.2.2.2.2.2.2⟩) h2 (fun q _ h => h) (fun q h => h) (fun r1 u t H1 locs1 ht hvm hw hB hz hk hS => ?_)
  subst hw
  rw [ht] at hB
  exact k H1 locs1 ls hB hS h3
theorem v_iret (C : Cx p R s m args c kc ks D cA B aK aV cc nL own) (hr : meth.sig.returnType = some .int) (hlk : meth.locks = false) {r : Int32} (hdg : decode cc pc = .ok (.ireturn, 1)) : V p l e R s m args below meth c kc ks D cA B nL (MQ below (Qci D cA B r M) args s kc ks (fun q => B ≤ q)) M pc L [.int r] := fun H locs ls h1 h2 h3 => W.iret (v := r) C.1 C.2.1 hr (fun t ht hW => ⟨⟨r, (), rfl, rfl, by show va_P D vwCl (WL B cA M) t.heap; rw [ht]; exact h1⟩, h2.F ht⟩) h2.2.2 hdg hlk
theorem v_zret (C : Cx p R s m args c kc ks D cA B aK aV cc nL own) {ty : FieldType} (hr : meth.sig.returnType = some ty) (hlk : meth.locks = false) {r : Int32} (hn : narrow ty (.int r) = .int r) (hdg : decode cc pc = .ok (.ireturn, 1)) : V p l e R s m args below meth c kc ks D cA B nL (MQ below (Qci D cA B r M) args s kc ks (fun q => B ≤ q)) M pc L [.int r] := fun H locs ls h1 h2 h3 => W.zret (v := r) C.1 C.2.1 hr hn (fun t ht hW => ⟨⟨r, (), rfl, rfl, by show va_P D vwCl (WL B cA M) t.heap; rw [ht]; exact h1⟩, h2.F ht⟩) h2.2.2 hdg hlk
theorem v_lret (C : Cx p R s m args c kc ks D cA B aK aV cc nL own) (hr : meth.sig.returnType = some .long) (hlk : meth.locks = false) {r : Int64} (hdg : decode cc pc = .ok (.lreturn, 1)) : V p l e R s m args below meth c kc ks D cA B nL (MQ below (Qcl D cA B r M) args s kc ks (fun q => B ≤ q)) M pc L [.long r] := fun H locs ls h1 h2 h3 => W.lret (v := r) C.1 C.2.1 hr (fun t ht hW => ⟨⟨r, (), rfl, rfl, by show va_P D vwCl (WL B cA M) t.heap; rw [ht]; exact h1⟩, h2.F ht⟩) h2.2.2 hdg hlk
theorem v_vret (C : Cx p R s m args c kc ks D cA B aK aV cc nL own) (hr : meth.sig.returnType = none) (hlk : meth.locks = false) (hdg : decode cc pc = .ok (.return_, 1)) : V p l e R s m args below meth c kc ks D cA B nL (MQ below (Qcv D cA B M) args s kc ks (fun q => B ≤ q)) M pc L [] := fun H locs ls h1 h2 h3 => W.vret C.1 C.2.1 hr (fun t ht hW => ⟨⟨(), rfl, trivial, by show va_P D vwCl (WL B cA M) t.heap; rw [ht]; exact h1⟩, h2.F ht⟩) h2.2.2 hdg hlk
theorem v_aret (C : Cx p R s m args c kc ks D cA B aK aV cc nL own) {rt : FieldType} (hr : meth.sig.returnType = some rt) (hlk : meth.locks = false) (hrt : (∃ n, rt = .object n) ∨ ∃ t, rt = .array t) {r : Option Nat} (hdg : decode cc pc = .ok (.areturn, 1)) : V p l e R s m args below meth c kc ks D cA B nL (MQ below (Qcq D cA B r M) args s kc ks (fun q => B ≤ q)) M pc L [rv B r] := fun H locs ls h1 h2 h3 => W.aret (v := rv B r) C.1 C.2.1 hr hrt (va_rf_or _) (fun t ht hW => ⟨⟨_, (), rfl, rfl, by show va_P D vwCl (WL B cA M) t.heap; rw [ht]; exact h1⟩, h2.F ht⟩) h2.2.2 hdg hlk
end VCALLS
theorem CI_of {l : Launch} {D : va_G} {cA : cAt} {B : Nat} {aK aV : Nat → Nat} {y : MethodName} {cc : ByteArray} {maxL d : Nat} {avs : List Value} {M M' : Mem} {ret : FieldType} {r : Int32} (hy : plainName y.cls = true) (hlen : (lg_sl avs).length ≤ maxL) (hb : ∀ (p : Program) (e : Env) (s : State) (m : MethodId) (args : Array Value) (below : List Frame) (meth : Method) (c : Code), Cx p (rmd d) s m args c 0 0 D cA B aK aV cc maxL y.cls → meth.sig.returnType = some ret → meth.locks = false → V p l e (rmd d) s m args below meth c 0 0 D cA B maxL (MQ below (Qci D cA B r M') args s 0 0 (fun q => B ≤ q)) M 0 (lv_args 0 avs) []) : CI l D cA B aK aV y cc maxL ret d avs M r M' := by
  refine Met.ofW (cc := cc) (maxL := maxL) (ret := some ret) hy rfl ?_
  intro p e s m args below meth c s₁ Bd hml hv
  obtain ⟨rfl, hP, hK⟩ := hv
  have hts := atoms_spec (ws := wsf y cc maxL (some ret)) Bd.pre
  have h0 := hb p e s m _ below meth c ⟨Bd.exec, Bd.bytes, hml, findClass_of_methodNamed Bd.named, fun w h => hts w (List.mem_cons_of_mem _ h), hK, Nat.le_refl _, Nat.le_refl _⟩ Bd.returns Bd.notSynchronized
  have hl := lv_entry avs hlen
  rw [lg_entry_eq]
  exact h0 s.heap [] _ hP va_S.rf hl
theorem CL_of {l : Launch} {D : va_G} {cA : cAt} {B : Nat} {aK aV : Nat → Nat} {y : MethodName} {cc : ByteArray} {maxL d : Nat} {avs : List Value} {M M' : Mem} {ret : FieldType} {r : Int64} (hy : plainName y.cls = true) (hlen : (lg_sl avs).length ≤ maxL) (hb : ∀ (p : Program) (e : Env) (s : State) (m : MethodId) (args : Array Value) (below : List Frame) (meth : Method) (c : Code), Cx p (rmd d) s m args c 0 0 D cA B aK aV cc maxL y.cls → meth.sig.returnType = some ret → meth.locks = false → V p l e (rmd d) s m args below meth c 0 0 D cA B maxL (MQ below (Qcl D cA B r M') args s 0 0 (fun q => B ≤ q)) M 0 (lv_args 0 avs) []) : CL l D cA B aK aV y cc maxL ret d avs M r M' := by
  refine Met.ofW (cc := cc) (maxL := maxL) (ret := some ret) hy rfl ?_
  intro p e s m args below meth c s₁ Bd hml hv
  obtain ⟨rfl, hP, hK⟩ := hv
  have hts := atoms_spec (ws := wsf y cc maxL (some ret)) Bd.pre
  have h0 := hb p e s m _ below meth c ⟨Bd.exec, Bd.bytes, hml, findClass_of_methodNamed Bd.named, fun w h => hts w (List.mem_cons_of_mem _ h), hK, Nat.le_refl _, Nat.le_refl _⟩ Bd.returns Bd.notSynchronized
  have hl := lv_entry avs hlen
  rw [lg_entry_eq]
  exact h0 s.heap [] _ hP va_S.rf hl
theorem CV_of {l : Launch} {D : va_G} {cA : cAt} {B : Nat} {aK aV : Nat → Nat} {y : MethodName} {cc : ByteArray} {maxL d : Nat} {avs : List Value} {M M' : Mem} (hy : plainName y.cls = true) (hlen : (lg_sl avs).length ≤ maxL) (hb : ∀ (p : Program) (e : Env) (s : State) (m : MethodId) (args : Array Value) (below : List Frame) (meth : Method) (c : Code), Cx p (rmd d) s m args c 0 0 D cA B aK aV cc maxL y.cls → meth.sig.returnType = none → meth.locks = false → V p l e (rmd d) s m args below meth c 0 0 D cA B maxL (MQ below (Qcv D cA B M') args s 0 0 (fun q => B ≤ q)) M 0 (lv_args 0 avs) []) : CV l D cA B aK aV y cc maxL d avs M M' := by
  refine Met.ofW (cc := cc) (maxL := maxL) (ret := none) hy rfl ?_
  intro p e s m args below meth c s₁ Bd hml hv
  obtain ⟨rfl, hP, hK⟩ := hv
  have hts := atoms_spec (ws := wsf y cc maxL (none)) Bd.pre
  have h0 := hb p e s m _ below meth c ⟨Bd.exec, Bd.bytes, hml, findClass_of_methodNamed Bd.named, fun w h => hts w (List.mem_cons_of_mem _ h), hK, Nat.le_refl _, Nat.le_refl _⟩ Bd.returns Bd.notSynchronized
  have hl := lv_entry avs hlen
  rw [lg_entry_eq]
  exact h0 s.heap [] _ hP va_S.rf hl
theorem CQ_of {l : Launch} {D : va_G} {cA : cAt} {B : Nat} {aK aV : Nat → Nat} {y : MethodName} {cc : ByteArray} {maxL d : Nat} {avs : List Value} {M M' : Mem} {ret : FieldType} {r : Option Nat} (hy : plainName y.cls = true) (hlen : (lg_sl avs).length ≤ maxL) (hb : ∀ (p : Program) (e : Env) (s : State) (m : MethodId) (args : Array Value) (below : List Frame) (meth : Method) (c : Code), Cx p (rmd d) s m args c 0 0 D cA B aK aV cc maxL y.cls → meth.sig.returnType = some ret → meth.locks = false → V p l e (rmd d) s m args below meth c 0 0 D cA B maxL (MQ below (Qcq D cA B r M') args s 0 0 (fun q => B ≤ q)) M 0 (lv_args 0 avs) []) : CQ l D cA B aK aV y cc maxL ret d avs M r M' := by
  refine Met.ofW (cc := cc) (maxL := maxL) (ret := some ret) hy rfl ?_
  intro p e s m args below meth c s₁ Bd hml hv
  obtain ⟨rfl, hP, hK⟩ := hv
  have hts := atoms_spec (ws := wsf y cc maxL (some ret)) Bd.pre
  have h0 := hb p e s m _ below meth c ⟨Bd.exec, Bd.bytes, hml, findClass_of_methodNamed Bd.named, fun w h => hts w (List.mem_cons_of_mem _ h), hK, Nat.le_refl _, Nat.le_refl _⟩ Bd.returns Bd.notSynchronized
  have hl := lv_entry avs hlen
  rw [lg_entry_eq]
  exact h0 s.heap [] _ hP va_S.rf hl
/-! ## loops and checks of the mirrors -/
/-- a loop: from a state to the next one, or out of it -/
def loopF {σ ρ : Type} (body : σ → Option (σ ⊕ ρ)) : Nat → σ → Option ρ
  | 0, _ => none
  | n + 1, s => (body s).bind fun x => match x with
    | .inl s' => loopF body n s'
    | .inr r => some r
theorem loopF_walk {σ ρ : Type} {body : σ → Option (σ ⊕ ρ)} {Pσ : σ → Prop} {Pρ : ρ → Prop} (hb : ∀ (s : σ) (o : σ ⊕ ρ), body s = some o → (∀ s', o = .inl s' → Pσ s') → (∀ r, o = .inr r → Pρ r) → Pσ s) : ∀ (n : Nat) (s : σ) (r : ρ), loopF body n s = some r → Pρ r → Pσ s
  | 0, _, _, h, _ => by simp [loopF] at h
  | n + 1, s, r, h, hr => by
    rw [loopF] at h
    cases hs : body s with
    | none => rw [hs] at h; simp at h
    | some o =>
      rw [hs] at h
      cases o with
      | inl s' => exact hb s _ hs (fun s2 e => by cases e; exact loopF_walk hb n s' r h hr) (fun r e => by cases e)
      | inr r' =>
        have e : r' = r := Option.some.inj h
        subst e
        exact hb s _ hs (fun s2 e => by cases e) (fun r2 e => by cases e; exact hr)
def FUEL : Nat := 100000
def chk {α : Type} (b : Bool) (x : Option α) : Option α := if b = true then x else none
theorem chk_some {α : Type} {b : Bool} {x : Option α} {r : α} (h : chk b x = some r) : b = true ∧ x = some r := by
  unfold chk at h
  by_cases hb : b = true
  · rw [if_pos hb] at h
    exact ⟨hb, h⟩
  · rw [if_neg hb] at h
    cases h
theorem chk_of {α : Type} {b : Bool} {x : Option α} (hb : b = true) : chk b x = x := by
  unfold chk
  rw [if_pos hb]
theorem bind_ex {α β : Type} {x : Option α} {f : α → Option β} {r : β} (h : x.bind f = some r) : ∃ a, x = some a ∧ f a = some r := Option.bind_eq_some_iff.mp h
/-- a value gets a name -/
def nm {α β : Type} (v : α) (f : α → β) : β := f v
theorem nm_ex {α β : Type} {v : α} {f : α → Option β} {r : β} (h : nm v f = some r) : ∃ x, x = v ∧ f x = some r := ⟨v, rfl, h⟩
/-- an index is within a row -/
def inB (i : Int32) (n : Nat) : Bool := decide (0 ≤ i.toInt ∧ i.toInt < n)
theorem inB_vp {i : Int32} {n : Nat} (h : inB i n = true) : vp_in i n := vp_in_iff.mpr (of_decide_eq_true h)
/-- a boolean's int -/
def isZ (i : Int32) : Bool := decide (i = 0 ∨ i = 1)
theorem isZ_nar {i : Int32} (h : isZ i = true) : narrow .boolean (.int i) = .int i := by
  rcases of_decide_eq_true h with rfl | rfl <;> rfl
theorem isZ_fit {i : Int32} (h : isZ i = true) : fits .boolean (.int i) = true := by
  rcases of_decide_eq_true h with rfl | rfl <;> rfl
def kdB (q c : Nat) : Bool := kd q == c
theorem kdB_eq {q c : Nat} (h : kdB q c = true) : kd q = c := eq_of_beq h
/-- the pieces of an arraycopy within bounds -/
def cpB (sp dp n : Int32) (a b : Nat) : Bool := decide (0 ≤ sp.toInt ∧ 0 ≤ dp.toInt ∧ 0 ≤ n.toInt ∧ sp.toInt + n.toInt ≤ a ∧ dp.toInt + n.toInt ≤ b)
end
section
theorem sh0 {B : Nat} {cA : cAt} {k : Nat} {f : Nat → Int32} (h : kd k = 0) : sh B cA k f = .inr (0, [.ref (B + 27), .int (f 1)]) := by
  unfold sh
  rw [h]
  rfl
theorem sh1 {B : Nat} {cA : cAt} {k : Nat} {f : Nat → Int32} (h : kd k = 1) : sh B cA k f = .inr (1, [.ref (B + 203), .int (f 1)]) := by
  unfold sh
  rw [h]
  rfl
theorem sh2 {B : Nat} {cA : cAt} {k : Nat} {f : Nat → Int32} (h : kd k = 2) : sh B cA k f = .inr (2, [.int (f 0), .int (f 1), .int (f 2), .int (f 3), .int (f 4)]) := by
  unfold sh
  rw [h]
  rfl
theorem sh3 {B : Nat} {cA : cAt} {k : Nat} {f : Nat → Int32} (h : kd k = 3) : sh B cA k f = .inr (3, [.ref (B + 197), .int (f 1)]) := by
  unfold sh
  rw [h]
  rfl
theorem sh4 {B : Nat} {cA : cAt} {k : Nat} {f : Nat → Int32} (h : kd k = 4) : sh B cA k f = .inr (4, [.ref (B + (k + 1)), .int (f 1), .int (f 2)]) := by
  unfold sh
  rw [h]
  rfl
theorem sh5 {B : Nat} {cA : cAt} {k : Nat} {f : Nat → Int32} (h : kd k = 5) : sh B cA k f = .inr (5, [.ref (B + (k + 1)), .int (f 1), .int (f 2), .int (f 3), .int (f 4)]) := by
  unfold sh
  rw [h]
  rfl
theorem sh6 {B : Nat} {cA : cAt} {k : Nat} {f : Nat → Int32} (h : kd k = 6) : sh B cA k f = .inr (6, [.ref (B + 3), .int (f 1), .int (f 2), .int (f 3), .int (f 4), .int (f 5), .int (f 6)]) := by
  unfold sh
  rw [h]
  rfl
theorem sh7 {B : Nat} {cA : cAt} {k : Nat} {f : Nat → Int32} (h : kd k = 7) : sh B cA k f = .inr (7, [.ref (B + 1), .ref (B + 2), .ref (B + 4), .ref (B + 11), .ref (B + 18), .ref (B + 25), .ref (B + 26), .ref (B + 196), .ref (B + 198), .ref (B + 199), .ref (B + 200), .ref (B + 201), .ref (B + 202), .int (f 13), .int (f 14)]) := by
  unfold sh
  rw [h]
  rfl
theorem sh8 {B : Nat} {cA : cAt} {k : Nat} {f : Nat → Int32} (h : kd k = 8) : sh B cA k f = .inr (8, [.int (f 0), .ref (B + 235), .ref (B + 236), .ref (B + 237), .ref (B + 238), .int (f 5), .int (f 6), .ref (B + 239), .ref (B + 240), .ref (B + 241), .int (f 10), .ref (B + 242), .ref (B + 243), .ref (B + 244), .int (f 14), .int (f 15), .int (f 16), .int (f 17), .int (f 18), .int (f 19), .ref (B + 245), .int (f 21), .ref (B + 246), .ref (B + 247), .int (f 24), .ref (B + 248)]) := by
  unfold sh
  rw [h]
  rfl
theorem sh9 {B : Nat} {cA : cAt} {k : Nat} {f : Nat → Int32} (h : kd k = 9) : sh B cA k f = .inl (cA 0, alen k, .inl f) := by
  unfold sh
  rw [h]
  rfl
theorem sh10 {B : Nat} {cA : cAt} {k : Nat} {f : Nat → Int32} (h : kd k = 10) : sh B cA k f = .inl (cA 4, alen k, .inl f) := by
  unfold sh
  rw [h]
  rfl
theorem sh11 {B : Nat} {cA : cAt} {k : Nat} {f : Nat → Int32} (h : kd k = 11) : sh B cA k f = .inl (cA 3, 5, .inr (.inr (.inr (.inr (fun j => some (B + (k + 1 + j))))))) := by
  unfold sh
  rw [h]
  rfl
theorem sh12 {B : Nat} {cA : cAt} {k : Nat} {f : Nat → Int32} (h : kd k = 12) : sh B cA k f = .inl (cA 1, 8, .inr (.inr (.inr (.inr (fun j => some (B + (204 + 2 * j))))))) := by
  unfold sh
  rw [h]
  rfl
theorem sh13 {B : Nat} {cA : cAt} {k : Nat} {f : Nat → Int32} (h : kd k = 13) : sh B cA k f = .inl (cA 2, 2, .inr (.inr (.inr (.inr (fun j => some (B + (220 + 7 * j))))))) := by
  unfold sh
  rw [h]
  rfl
theorem sh14 {B : Nat} {cA : cAt} {k : Nat} {f : Nat → Int32} (h : kd k = 14) : sh B cA k f = .inl (cA 2, 24, .inr (.inr (.inr (.inr (fun j => some (B + (28 + 7 * (f j).toNatClampNeg))))))) := by
  unfold sh
  rw [h]
  rfl
theorem kd_all (a b n : Nat) (h : (List.range 249).all (fun q => !(kd q == a) || kd (q + n) == b) = true) : ∀ q, a ≠ 99 → kd q = a → kd (q + n) = b := by
  intro q ha hq
  have h1 := List.all_eq_true.mp h q (List.mem_range.mpr (kd_lt hq ha))
  rw [hq] at h1
  simpa using h1
theorem kdS {q : Nat} (h : kd q = 5) : kd (q + 1) = 11 := kd_all 5 11 1 (by decide +kernel) q (by decide) h
theorem kdR {q : Nat} (h : kd q = 4) : kd (q + 1) = 9 := kd_all 4 9 1 (by decide +kernel) q (by decide) h
theorem alenR {q : Nat} (h : kd q = 4) : alen (q + 1) = 40 := by
  have h0 : (List.range 249).all (fun q => !(kd q == 4) || alen (q + 1) == 40) = true := by decide +kernel
  have h1 := List.all_eq_true.mp h0 q (List.mem_range.mpr (kd_lt h (by decide)))
  rw [h] at h1
  simpa using h1
theorem ite_t {α : Type} {c : Prop} {_ : Decidable c} {a b : Option α} {r : α} (hc : c) (h : (if c then a else b) = some r) : a = some r := by rwa [if_pos hc] at h
theorem ite_f {α : Type} {c : Prop} {_ : Decidable c} {a b : Option α} {r : α} (hc : ¬ c) (h : (if c then a else b) = some r) : b = some r := by rwa [if_neg hc] at h
def optC {α : Type} (x : Option Nat) (a : α) (f : Nat → α) : α := match x with
  | none => a
  | some v => f v
theorem optC_ex {α : Type} {x : Option Nat} {a : Option α} {f : Nat → Option α} {r : α} (h : optC x a f = some r) : (x = none ∧ a = some r) ∨ ∃ v, x = some v ∧ f v = some r := by
  cases x with
  | none => exact Or.inl ⟨rfl, h⟩
  | some v => exact Or.inr ⟨v, rfl, h⟩
def sumC {α ρ β : Type} (x : α ⊕ ρ) (f : α → Option β) (g : ρ → Option β) : Option β := match x with
  | .inl a => f a
  | .inr r => g r
theorem sumC_l {α ρ β : Type} {x : α} {f : α → Option β} {g : ρ → Option β} {r : β} (h : sumC (.inl x) f g = some r) : f x = some r := h
theorem sumC_r {α ρ β : Type} {x : ρ} {f : α → Option β} {g : ρ → Option β} {r : β} (h : sumC (.inr x) f g = some r) : g x = some r := h
def nz (y : Int32) : Bool := decide (¬ y = 0)
def nzL (y : Int64) : Bool := decide (¬ y = 0)
theorem sw_ne {x k : Int32} (h : ¬ x = k) : ¬ x.toInt = k.toInt := fun e => h (Int32.toInt_inj.mp e)
theorem cp_nn {z : Int32} (h : 0 ≤ z.toInt) : ¬ z < 0 ∧ z.toInt = (z.toNatClampNeg : Int) := by
  refine ⟨fun q => ?_, ?_⟩
  · have h1 := Int32.lt_iff_toInt_lt.mp q
    rw [show (0 : Int32).toInt = 0 from rfl] at h1
    omega
  · show z.toInt = ((z.toInt.toNat : Nat) : Int)
    omega
theorem cpB_ex {sp dp n : Int32} {a b : Nat} (h : cpB sp dp n a b = true) : ¬ sp < 0 ∧ ¬ dp < 0 ∧ ¬ n < 0 ∧ sp.toNatClampNeg + n.toNatClampNeg ≤ a ∧ dp.toNatClampNeg + n.toNatClampNeg ≤ b := by
  obtain ⟨h1, h2, h3, h4, h5⟩ := of_decide_eq_true h
  obtain ⟨a1, a2⟩ := cp_nn h1
  obtain ⟨b1, b2⟩ := cp_nn h2
  obtain ⟨c1, c2⟩ := cp_nn h3
  exact ⟨a1, b1, c1, by omega, by omega⟩
/-- all places of a row become one value -/
def fillM (M : Mem) (q : Nat) (v : Int32) : Mem := mrow M q (fun j => if j < alen q then v else M q j)
def bitC (x : Int32) : Int32 :=
  let a := x - ((x.toUInt32 >>> ((1 : Int32).toUInt32 &&& Int32.toUInt32 31)).toInt32 &&& 1431655765)
  let b := (a &&& 858993459) + ((a.toUInt32 >>> ((2 : Int32).toUInt32 &&& Int32.toUInt32 31)).toInt32 &&& 858993459)
  let c := b + (b.toUInt32 >>> ((4 : Int32).toUInt32 &&& Int32.toUInt32 31)).toInt32 &&& 252645135
  let d := c + (c.toUInt32 >>> ((8 : Int32).toUInt32 &&& Int32.toUInt32 31)).toInt32
  let f := d + (d.toUInt32 >>> ((16 : Int32).toUInt32 &&& Int32.toUInt32 31)).toInt32
  f &&& 63
def sLenI (i : Nat) : Int32 := nI (sLen.getD i 0)
def sChI (i : Nat) (k : Int32) : Int32 := (sByt.getD i []).getD k.toNatClampNeg 0
section VMORE
variable {p : Program} {l : Launch} {e : Env} {R : Room} {s : State} {m : MethodId} {args : Array Value} {below : List Frame} {meth : Method} {c : Code} {kc ks : Nat} {D : va_G} {cA : cAt} {B : Nat} {aK aV : Nat → Nat} {nL : Nat} {Q : State → Prop} {M M' : Mem} {pc : Nat} {L : List (Nat × Value)} {st : List Value} {cc : ByteArray} {own : String}
theorem v_topI {x y : Int32} (h : y = x) (k : V p l e R s m args below meth c kc ks D cA B nL Q M pc L (.int y :: st)) : V p l e R s m args below meth c kc ks D cA B nL Q M pc L (.int x :: st) := h ▸ k
theorem v_topJ {x y : Int64} (h : y = x) (k : V p l e R s m args below meth c kc ks D cA B nL Q M pc L (.long y :: st)) : V p l e R s m args below meth c kc ks D cA B nL Q M pc L (.long x :: st) := h ▸ k
theorem v_mem (h : M' = M) (k : V p l e R s m args below meth c kc ks D cA B nL Q M' pc L st) : V p l e R s m args below meth c kc ks D cA B nL Q M pc L st := h ▸ k
theorem v_aload_nR (C : Cx p R s m args c kc ks D cA B aK aV cc nL own) {k : Fin 4} {i j x : Nat} (hdg : decode cc pc = .ok (.aload_n k, 1)) (hi : (k : Nat) = i) (hL : L[j]? = some (i, .ref x)) (kk : V p l e R s m args below meth c kc ks D cA B nL Q M (pc + 1) L (.ref x :: st)) : V p l e R s m args below meth c kc ks D cA B nL Q M pc L st := v_aload_n (x := some x) C hdg hi hL kk
theorem v_aloadR (C : Cx p R s m args c kc ks D cA B aK aV cc nL own) {i j x : Nat} (hdg : decode cc pc = .ok (.aload i, 2)) (hL : L[j]? = some (i, .ref x)) (kk : V p l e R s m args below meth c kc ks D cA B nL Q M (pc + 2) L (.ref x :: st)) : V p l e R s m args below meth c kc ks D cA B nL Q M pc L st := v_aload (x := some x) C hdg hL kk
theorem v_aload_nO (C : Cx p R s m args c kc ks D cA B aK aV cc nL own) {k : Fin 4} {i j : Nat} {x : Option Nat} (hdg : decode cc pc = .ok (.aload_n k, 1)) (hi : (k : Nat) = i) (hL : L[j]? = some (i, rv B x)) (kk : V p l e R s m args below meth c kc ks D cA B nL Q M (pc + 1) L (rv B x :: st)) : V p l e R s m args below meth c kc ks D cA B nL Q M pc L st := v_aload_n C hdg hi hL kk
theorem v_aloadO (C : Cx p R s m args c kc ks D cA B aK aV cc nL own) {i j : Nat} {x : Option Nat} (hdg : decode cc pc = .ok (.aload i, 2)) (hL : L[j]? = some (i, rv B x)) (kk : V p l e R s m args below meth c kc ks D cA B nL Q M (pc + 2) L (rv B x :: st)) : V p l e R s m args below meth c kc ks D cA B nL Q M pc L st := v_aload C hdg hL kk
theorem v_aload_nN (C : Cx p R s m args c kc ks D cA B aK aV cc nL own) {k : Fin 4} {i j : Nat} (hdg : decode cc pc = .ok (.aload_n k, 1)) (hi : (k : Nat) = i) (hL : L[j]? = some (i, .null)) (kk : V p l e R s m args below meth c kc ks D cA B nL Q M (pc + 1) L (.null :: st)) : V p l e R s m args below meth c kc ks D cA B nL Q M pc L st := v_aload_n (x := none) C hdg hi hL kk
theorem v_aloadN (C : Cx p R s m args c kc ks D cA B aK aV cc nL own) {i j : Nat} (hdg : decode cc pc = .ok (.aload i, 2)) (hL : L[j]? = some (i, .null)) (kk : V p l e R s m args below meth c kc ks D cA B nL Q M (pc + 2) L (.null :: st)) : V p l e R s m args below meth c kc ks D cA B nL Q M pc L st := v_aload (x := none) C hdg hL kk
theorem v_astore_nR (C : Cx p R s m args c kc ks D cA B aK aV cc nL own) {k : Fin 4} {i : Nat} {x : Nat} {L' : List (Nat × Value)} (hdg : decode cc pc = .ok (.astore_n k, 1)) (hi : (k : Nat) = i) (hn : i < nL) (hl : (i, (.ref x : Value)) :: L.filter (fun q => !(q.1 == i) && !(q.1 + 1 == i && q.2.category == 2)) = L') (kk : V p l e R s m args below meth c kc ks D cA B nL Q M (pc + 1) L' st) : V p l e R s m args below meth c kc ks D cA B nL Q M pc L (.ref x :: st) := v_astore_n (x := some x) C hdg hi hn hl kk
theorem v_astoreR (C : Cx p R s m args c kc ks D cA B aK aV cc nL own) {i : Nat} {x : Nat} {L' : List (Nat × Value)} (hdg : decode cc pc = .ok (.astore i, 2)) (hn : i < nL) (hl : (i, (.ref x : Value)) :: L.filter (fun q => !(q.1 == i) && !(q.1 + 1 == i && q.2.category == 2)) = L') (kk : V p l e R s m args below meth c kc ks D cA B nL Q M (pc + 2) L' st) : V p l e R s m args below meth c kc ks D cA B nL Q M pc L (.ref x :: st) := v_astore (x := some x) C hdg hn hl kk
theorem v_astore_nO (C : Cx p R s m args c kc ks D cA B aK aV cc nL own) {k : Fin 4} {i : Nat} {x : Option Nat} {L' : List (Nat × Value)} (hdg : decode cc pc = .ok (.astore_n k, 1)) (hi : (k : Nat) = i) (hn : i < nL) (hl : (i, (rv B x : Value)) :: L.filter (fun q => !(q.1 == i) && !(q.1 + 1 == i && q.2.category == 2)) = L') (kk : V p l e R s m args below meth c kc ks D cA B nL Q M (pc + 1) L' st) : V p l e R s m args below meth c kc ks D cA B nL Q M pc L (rv B x :: st) := v_astore_n C hdg hi hn hl kk
theorem v_astoreO (C : Cx p R s m args c kc ks D cA B aK aV cc nL own) {i : Nat} {x : Option Nat} {L' : List (Nat × Value)} (hdg : decode cc pc = .ok (.astore i, 2)) (hn : i < nL) (hl : (i, (rv B x : Value)) :: L.filter (fun q => !(q.1 == i) && !(q.1 + 1 == i && q.2.category == 2)) = L') (kk : V p l e R s m args below meth c kc ks D cA B nL Q M (pc + 2) L' st) : V p l e R s m args below meth c kc ks D cA B nL Q M pc L (rv B x :: st) := v_astore C hdg hn hl kk
theorem v_astore_nN (C : Cx p R s m args c kc ks D cA B aK aV cc nL own) {k : Fin 4} {i : Nat}  {L' : List (Nat × Value)} (hdg : decode cc pc = .ok (.astore_n k, 1)) (hi : (k : Nat) = i) (hn : i < nL) (hl : (i, (.null : Value)) :: L.filter (fun q => !(q.1 == i) && !(q.1 + 1 == i && q.2.category == 2)) = L') (kk : V p l e R s m args below meth c kc ks D cA B nL Q M (pc + 1) L' st) : V p l e R s m args below meth c kc ks D cA B nL Q M pc L (.null :: st) := v_astore_n (x := none) C hdg hi hn hl kk
theorem v_astoreN (C : Cx p R s m args c kc ks D cA B aK aV cc nL own) {i : Nat}  {L' : List (Nat × Value)} (hdg : decode cc pc = .ok (.astore i, 2)) (hn : i < nL) (hl : (i, (.null : Value)) :: L.filter (fun q => !(q.1 == i) && !(q.1 + 1 == i && q.2.category == 2)) = L') (kk : V p l e R s m args below meth c kc ks D cA B nL Q M (pc + 2) L' st) : V p l e R s m args below meth c kc ks D cA B nL Q M pc L (.null :: st) := v_astore (x := none) C hdg hn hl kk
theorem v_aldC (C : Cx p R s m args c kc ks D cA B aK aV cc nL own) {q : Nat} {i : Int32} (hk : kd q = 11) (hin : vp_in i 5) (hdg : decode cc pc = .ok (.aaload, 1)) (k : V p l e R s m args below meth c kc ks D cA B nL Q M (pc + 1) L (.ref (B + (q + 1 + i.toNatClampNeg)) :: st)) : V p l e R s m args below meth c kc ks D cA B nL Q M pc L (.int i :: .ref (B + q) :: st) := v_aldq C (kd_lt hk (by decide)) (sh11 hk) 3 rfl hin hdg k
theorem v_aldR (C : Cx p R s m args c kc ks D cA B aK aV cc nL own) {i : Int32} (hin : vp_in i 8) (hdg : decode cc pc = .ok (.aaload, 1)) (k : V p l e R s m args below meth c kc ks D cA B nL Q M (pc + 1) L (.ref (B + (204 + 2 * i.toNatClampNeg)) :: st)) : V p l e R s m args below meth c kc ks D cA B nL Q M pc L (.int i :: .ref (B + 1) :: st) := v_aldq (q := 1) C (by decide) (sh12 rfl) 1 rfl hin hdg k
theorem v_aldI (C : Cx p R s m args c kc ks D cA B aK aV cc nL own) {i : Int32} (hin : vp_in i 2) (hdg : decode cc pc = .ok (.aaload, 1)) (k : V p l e R s m args below meth c kc ks D cA B nL Q M (pc + 1) L (.ref (B + (220 + 7 * i.toNatClampNeg)) :: st)) : V p l e R s m args below meth c kc ks D cA B nL Q M pc L (.int i :: .ref (B + 25) :: st) := v_aldq (q := 25) C (by decide) (sh13 rfl) 2 rfl hin hdg k
theorem v_aldK (C : Cx p R s m args c kc ks D cA B aK aV cc nL own) {i : Int32} (hin : vp_in i 24) (hdg : decode cc pc = .ok (.aaload, 1)) (k : V p l e R s m args below meth c kc ks D cA B nL Q M (pc + 1) L (.ref (B + (28 + 7 * (M 27 i.toNatClampNeg).toNatClampNeg)) :: st)) : V p l e R s m args below meth c kc ks D cA B nL Q M pc L (.int i :: .ref (B + 27) :: st) := v_aldq (q := 27) C (by decide) (sh14 rfl) 2 rfl hin hdg k
theorem v_aastK (C : Cx p R s m args c kc ks D cA B aK aV cc nL own) {i x : Int32} (hx : kd (28 + 7 * x.toNatClampNeg) = 5) (hin : vp_in i 24) (hdg : decode cc pc = .ok (.aastore, 1)) (k : V p l e R s m args below meth c kc ks D cA B nL Q (mset M 27 i.toNatClampNeg x) (pc + 1) L st) : V p l e R s m args below meth c kc ks D cA B nL Q M pc L (.ref (B + (28 + 7 * x.toNatClampNeg)) :: .int i :: .ref (B + 27) :: st) := fun H locs ls h1 h2 h3 =>
  va_astq C.1 C.2.1 C.2.2.2.2.2.1.1 h1 WL_D h2 27 2 (28 + 7 * x.toNatClampNeg) 5 (cA := cA 2) (r := (RX5, TX5, 5)) (n := 24) (f := fun j => some (B + (28 + 7 * (M 27 j).toNatClampNeg))) (by rw [WL_get (by decide), sh14 rfl]) rfl (by rw [WL_get (kd_lt hx (by decide)), sh5 hx]) rfl hin hdg (fun H1 locs1 g1 _ g3 => k H1 locs1 ls (by
    have e := WL_set (B := B) (cA := cA) (M := M) (q := 27) (by decide) (upd (M 27) i.toNatClampNeg x)
    rw [sh14 rfl] at e
    have e2 : (fun j => some (B + (28 + 7 * (upd (M 27) i.toNatClampNeg x j).toNatClampNeg))) = va_up (fun j => some (B + (28 + 7 * (M 27 j).toNatClampNeg))) i.toNatClampNeg (some (B + (28 + 7 * x.toNatClampNeg))) := by
      funext j
      unfold upd va_up
      by_cases hj : j = i.toNatClampNeg <;> simp [hj]
    rw [e2] at e
    exact (congrArg (fun z => va_P D vwCl z H1) e).mp g1) g3 h3)
theorem v_alen9 (C : Cx p R s m args c kc ks D cA B aK aV cc nL own) {q : Nat} {v : Int32} (hk : kd q = 9) (hv : Int32.ofNat (alen q) = v) (hdg : decode cc pc = .ok (.arraylength, 1)) (k : V p l e R s m args below meth c kc ks D cA B nL Q M (pc + 1) L (.int v :: st)) : V p l e R s m args below meth c kc ks D cA B nL Q M pc L (.ref (B + q) :: st) := v_alen C (kd_lt hk (by decide)) (sh9 hk) 0 rfl hv hdg k
theorem v_alenQ11 (C : Cx p R s m args c kc ks D cA B aK aV cc nL own) {q : Nat} (hk : kd q = 11) (hdg : decode cc pc = .ok (.arraylength, 1)) (k : V p l e R s m args below meth c kc ks D cA B nL Q M (pc + 1) L (.int 5 :: st)) : V p l e R s m args below meth c kc ks D cA B nL Q M pc L (.ref (B + q) :: st) := v_alen C (kd_lt hk (by decide)) (sh11 hk) 3 rfl rfl hdg k
theorem v_alenQ12 (C : Cx p R s m args c kc ks D cA B aK aV cc nL own) {q : Nat} (hk : kd q = 12) (hdg : decode cc pc = .ok (.arraylength, 1)) (k : V p l e R s m args below meth c kc ks D cA B nL Q M (pc + 1) L (.int 8 :: st)) : V p l e R s m args below meth c kc ks D cA B nL Q M pc L (.ref (B + q) :: st) := v_alen C (kd_lt hk (by decide)) (sh12 hk) 1 rfl rfl hdg k
theorem v_alenQ13 (C : Cx p R s m args c kc ks D cA B aK aV cc nL own) {q : Nat} (hk : kd q = 13) (hdg : decode cc pc = .ok (.arraylength, 1)) (k : V p l e R s m args below meth c kc ks D cA B nL Q M (pc + 1) L (.int 2 :: st)) : V p l e R s m args below meth c kc ks D cA B nL Q M pc L (.ref (B + q) :: st) := v_alen C (kd_lt hk (by decide)) (sh13 hk) 2 rfl rfl hdg k
theorem v_alenQ14 (C : Cx p R s m args c kc ks D cA B aK aV cc nL own) {q : Nat} (hk : kd q = 14) (hdg : decode cc pc = .ok (.arraylength, 1)) (k : V p l e R s m args below meth c kc ks D cA B nL Q M (pc + 1) L (.int 24 :: st)) : V p l e R s m args below meth c kc ks D cA B nL Q M pc L (.ref (B + q) :: st) := v_alen C (kd_lt hk (by decide)) (sh14 hk) 2 rfl rfl hdg k
/-- a call on a string of the class Tape -/
theorem cvS_I (C : Cx p R s m args c kc ks D cA B aK aV cc nL own) {y : MethodName} {bytes : ByteArray} {maxL d2 n idx : Nat} {ret : FieldType} (hcode : Cond.code y bytes maxL (some ret) ∈ TG) (hini : Cond.initialized y.cls ∈ TG) (hlink : Cond.methodLink own idx y ∈ TG) (hinst : Cond.instanceMethod y ∈ TG) (hsel : Cond.selects y.cls y y ∈ TG) (hpd : y.cls ≠ "java/lang/invoke/MethodHandle" ∧ y.cls ≠ "java/lang/invoke/VarHandle" ∧ (parseMethodDescriptor y.desc).map (fun d => d.parameters.length) = some n) (hfr : d2 + 1 ≤ R.frames) (hlo : 8 + (maxL + 11) + 40 * d2 ≤ R.locals) {i : Nat} (hi : i < 8) {As rest : List Value} (hn : As.length = n) (hst : st = As.reverse ++ .ref (aK i) :: rest) (hW : (rest.map fun v => v.category).sum ≤ 8) {r : Int32} (hC : CI l D cA B aK aV y bytes maxL ret d2 (.ref (aK i) :: As) M r M') (hdg : decode cc pc = .ok (.invokevirtual idx, 3)) (k : V p l e R s m args below meth c kc ks D cA B nL Q M' (pc + 3) L (.int r :: rest)) (hy : y.cls = "java/lang/String" := by rfl) : V p l e R s m args below meth c kc ks D cA B nL Q M pc L st := by
  intro H locs ls h1 h2 h3
  subst hst
  refine va_calli (va_runV (As := As) (rest := rest) ⟨C.1, C.2.1, C.2.2.1, C.2.2.2.1, C.2.2.2.2.1⟩ hC ⟨callB_of n C.2.2.2.2.1 (good_wsf hcode) rfl rfl rfl (C.2.2.2.2.1 _ hini) (C.2.2.2.2.1 _ hlink) hpd ⟨hfr, hlo⟩, C.2.2.2.2.1 _ hinst, C.2.2.2.2.1 _ hsel⟩ ⟨Pcw.blind, (by rw [hy]; exact vk_recv C.2.2.2.2.2.1.2.2.1 hi h2), fun U hU hWU => ⟨rfl, by rw [hU]; exact h1, C.2.2.2.2.2.1.moved hWU (by rw [hU]; exact h2)⟩⟩ rfl hn h3.1 rfl (lv_room hW) hdg ⟨C.2.2.2.2.2.2.1, C.2.2.2.2.2.2.2⟩) h2 (fun q _ h => h) (fun q h => h) (fun r1 u t H1 locs1 ht hvm hw hB hz hk hS => ?_)
  subst hw
  rw [ht] at hB
  exact k H1 locs1 ls hB hS h3
end VMORE
end
section
theorem zz_last : True := trivial
end
