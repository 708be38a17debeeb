section
-- ===== PART A: goes FIRST, ahead of the names: the tables' words, and 'selects' of the private methods out of them =====
/-- a private method of a class that the tables say can be made, by its rows of tables_1 -/
def lw_okq (q : MethodName × Nat) : Prop := (q.1.cls ≠ "java/lang/invoke/MethodHandle" ∧ q.1.cls ≠ "java/lang/invoke/VarHandle") ∧ Cond.instantiable q.1.cls q.2 ∈ tables_1 ∧ Cond.privateMethod q.1 ∈ tables_1 ∧ Cond.instanceMethod q.1 ∈ tables_1
theorem lw_p0 : lw_okq (⟨"ComeIfShe", "found", "(I)I"⟩, 7) := ⟨⟨by decide +kernel, by decide +kernel⟩, List.mem_of_getElem? (i := 12) (by decide +kernel), List.mem_of_getElem? (i := 160) (by decide +kernel), List.mem_of_getElem? (i := 161) (by decide +kernel)⟩
theorem lw_p1 : lw_okq (⟨"ComeIfShe$Tape", "anyOf", "(I)J"⟩, 6) := ⟨⟨by decide +kernel, by decide +kernel⟩, List.mem_of_getElem? (i := 64) (by decide +kernel), List.mem_of_getElem? (i := 231) (by decide +kernel), List.mem_of_getElem? (i := 232) (by decide +kernel)⟩
theorem lw_p2 : lw_okq (⟨"ComeIfShe$Tape", "allOf", "(I)J"⟩, 6) := ⟨⟨by decide +kernel, by decide +kernel⟩, List.mem_of_getElem? (i := 64) (by decide +kernel), List.mem_of_getElem? (i := 235) (by decide +kernel), List.mem_of_getElem? (i := 236) (by decide +kernel)⟩
theorem lw_p3 : lw_okq (⟨"ComeIfShe$Tape", "unit", "(I)J"⟩, 6) := ⟨⟨by decide +kernel, by decide +kernel⟩, List.mem_of_getElem? (i := 64) (by decide +kernel), List.mem_of_getElem? (i := 239) (by decide +kernel), List.mem_of_getElem? (i := 240) (by decide +kernel)⟩
theorem lw_p4 : lw_okq (⟨"ComeIfShe$Tape", "sign", "()I"⟩, 6) := ⟨⟨by decide +kernel, by decide +kernel⟩, List.mem_of_getElem? (i := 64) (by decide +kernel), List.mem_of_getElem? (i := 243) (by decide +kernel), List.mem_of_getElem? (i := 244) (by decide +kernel)⟩
theorem lw_p5 : lw_okq (⟨"ComeIfShe$Tape", "listsWith", "(I)J"⟩, 6) := ⟨⟨by decide +kernel, by decide +kernel⟩, List.mem_of_getElem? (i := 64) (by decide +kernel), List.mem_of_getElem? (i := 247) (by decide +kernel), List.mem_of_getElem? (i := 248) (by decide +kernel)⟩
theorem lw_p6 : lw_okq (⟨"ComeIfShe$Tape", "passes", "(C)Z"⟩, 6) := ⟨⟨by decide +kernel, by decide +kernel⟩, List.mem_of_getElem? (i := 64) (by decide +kernel), List.mem_of_getElem? (i := 257) (by decide +kernel), List.mem_of_getElem? (i := 258) (by decide +kernel)⟩
theorem lw_p7 : lw_okq (⟨"ComeIfShe$Tape", "closed", "(J)J"⟩, 6) := ⟨⟨by decide +kernel, by decide +kernel⟩, List.mem_of_getElem? (i := 64) (by decide +kernel), List.mem_of_getElem? (i := 262) (by decide +kernel), List.mem_of_getElem? (i := 263) (by decide +kernel)⟩
theorem lw_p8 : lw_okq (⟨"ComeIfShe$Tape", "fail", "()J"⟩, 6) := ⟨⟨by decide +kernel, by decide +kernel⟩, List.mem_of_getElem? (i := 64) (by decide +kernel), List.mem_of_getElem? (i := 266) (by decide +kernel), List.mem_of_getElem? (i := 267) (by decide +kernel)⟩
theorem lw_p9 : lw_okq (⟨"ComeIfShe$Tape", "compared", "()J"⟩, 6) := ⟨⟨by decide +kernel, by decide +kernel⟩, List.mem_of_getElem? (i := 64) (by decide +kernel), List.mem_of_getElem? (i := 270) (by decide +kernel), List.mem_of_getElem? (i := 271) (by decide +kernel)⟩
theorem lw_p10 : lw_okq (⟨"ComeIfShe$Tape", "listsWhereOthers", "(II)J"⟩, 6) := ⟨⟨by decide +kernel, by decide +kernel⟩, List.mem_of_getElem? (i := 64) (by decide +kernel), List.mem_of_getElem? (i := 274) (by decide +kernel), List.mem_of_getElem? (i := 275) (by decide +kernel)⟩
theorem lw_p11 : lw_okq (⟨"ComeIfShe$Telephone", "callAll", "(LComeIfShe$Party;II)I"⟩, 3) := ⟨⟨by decide +kernel, by decide +kernel⟩, List.mem_of_getElem? (i := 91) (by decide +kernel), List.mem_of_getElem? (i := 379) (by decide +kernel), List.mem_of_getElem? (i := 380) (by decide +kernel)⟩
theorem lw_p12 : lw_okq (⟨"ComeIfShe", "cheapestFor", "(I)I"⟩, 7) := ⟨⟨by decide +kernel, by decide +kernel⟩, List.mem_of_getElem? (i := 12) (by decide +kernel), List.mem_of_getElem? (i := 440) (by decide +kernel), List.mem_of_getElem? (i := 441) (by decide +kernel)⟩
theorem lw_p13 : lw_okq (⟨"ComeIfShe", "isCheaper", "(II)Z"⟩, 7) := ⟨⟨by decide +kernel, by decide +kernel⟩, List.mem_of_getElem? (i := 12) (by decide +kernel), List.mem_of_getElem? (i := 444) (by decide +kernel), List.mem_of_getElem? (i := 445) (by decide +kernel)⟩
theorem lw_p14 : lw_okq (⟨"ComeIfShe", "isWellAsked", "(III)Z"⟩, 7) := ⟨⟨by decide +kernel, by decide +kernel⟩, List.mem_of_getElem? (i := 12) (by decide +kernel), List.mem_of_getElem? (i := 460) (by decide +kernel), List.mem_of_getElem? (i := 461) (by decide +kernel)⟩
theorem lw_p15 : lw_okq (⟨"ComeIfShe", "sheetLack", "(I)I"⟩, 7) := ⟨⟨by decide +kernel, by decide +kernel⟩, List.mem_of_getElem? (i := 12) (by decide +kernel), List.mem_of_getElem? (i := 502) (by decide +kernel), List.mem_of_getElem? (i := 503) (by decide +kernel)⟩
def lw_privs_1 : List (MethodName × Nat) := [(⟨"ComeIfShe", "found", "(I)I"⟩, 7), (⟨"ComeIfShe$Tape", "anyOf", "(I)J"⟩, 6), (⟨"ComeIfShe$Tape", "allOf", "(I)J"⟩, 6), (⟨"ComeIfShe$Tape", "unit", "(I)J"⟩, 6), (⟨"ComeIfShe$Tape", "sign", "()I"⟩, 6), (⟨"ComeIfShe$Tape", "listsWith", "(I)J"⟩, 6), (⟨"ComeIfShe$Tape", "passes", "(C)Z"⟩, 6), (⟨"ComeIfShe$Tape", "closed", "(J)J"⟩, 6), (⟨"ComeIfShe$Tape", "fail", "()J"⟩, 6), (⟨"ComeIfShe$Tape", "compared", "()J"⟩, 6), (⟨"ComeIfShe$Tape", "listsWhereOthers", "(II)J"⟩, 6), (⟨"ComeIfShe$Telephone", "callAll", "(LComeIfShe$Party;II)I"⟩, 3), (⟨"ComeIfShe", "cheapestFor", "(I)I"⟩, 7), (⟨"ComeIfShe", "isCheaper", "(II)Z"⟩, 7), (⟨"ComeIfShe", "isWellAsked", "(III)Z"⟩, 7), (⟨"ComeIfShe", "sheetLack", "(I)I"⟩, 7)]
theorem lw_r1 : ∀ q ∈ lw_privs_1, lw_okq q := List.forall_mem_cons.mpr ⟨lw_p0, List.forall_mem_cons.mpr ⟨lw_p1, List.forall_mem_cons.mpr ⟨lw_p2, List.forall_mem_cons.mpr ⟨lw_p3, List.forall_mem_cons.mpr ⟨lw_p4, List.forall_mem_cons.mpr ⟨lw_p5, List.forall_mem_cons.mpr ⟨lw_p6, List.forall_mem_cons.mpr ⟨lw_p7, List.forall_mem_cons.mpr ⟨lw_p8, List.forall_mem_cons.mpr ⟨lw_p9, List.forall_mem_cons.mpr ⟨lw_p10, List.forall_mem_cons.mpr ⟨lw_p11, List.forall_mem_cons.mpr ⟨lw_p12, List.forall_mem_cons.mpr ⟨lw_p13, List.forall_mem_cons.mpr ⟨lw_p14, List.forall_mem_cons.mpr ⟨lw_p15, fun _ h => absurd h List.not_mem_nil⟩⟩⟩⟩⟩⟩⟩⟩⟩⟩⟩⟩⟩⟩⟩⟩
theorem lw_p16 : lw_okq (⟨"ComeIfShe$Sheet", "bitsAt", "(I)J"⟩, 3) := ⟨⟨by decide +kernel, by decide +kernel⟩, List.mem_of_getElem? (i := 108) (by decide +kernel), List.mem_of_getElem? (i := 542) (by decide +kernel), List.mem_of_getElem? (i := 543) (by decide +kernel)⟩
theorem lw_p17 : lw_okq (⟨"ComeIfShe", "explains", "(LComeIfShe$Sheet;II)Z"⟩, 7) := ⟨⟨by decide +kernel, by decide +kernel⟩, List.mem_of_getElem? (i := 12) (by decide +kernel), List.mem_of_getElem? (i := 549) (by decide +kernel), List.mem_of_getElem? (i := 550) (by decide +kernel)⟩
theorem lw_p18 : lw_okq (⟨"ComeIfSheModel", "finds", "(I)I"⟩, 18) := ⟨⟨by decide +kernel, by decide +kernel⟩, List.mem_of_getElem? (i := 583) (by decide +kernel), List.mem_of_getElem? (i := 655) (by decide +kernel), List.mem_of_getElem? (i := 656) (by decide +kernel)⟩
theorem lw_p19 : lw_okq (⟨"ComeIfSheModel", "isGuest", "(I)Z"⟩, 18) := ⟨⟨by decide +kernel, by decide +kernel⟩, List.mem_of_getElem? (i := 583) (by decide +kernel), List.mem_of_getElem? (i := 664) (by decide +kernel), List.mem_of_getElem? (i := 665) (by decide +kernel)⟩
theorem lw_p20 : lw_okq (⟨"ComeIfSheModel", "comesBy", "(II)Z"⟩, 18) := ⟨⟨by decide +kernel, by decide +kernel⟩, List.mem_of_getElem? (i := 583) (by decide +kernel), List.mem_of_getElem? (i := 668) (by decide +kernel), List.mem_of_getElem? (i := 669) (by decide +kernel)⟩
theorem lw_p21 : lw_okq (⟨"ComeIfSheModel", "its", "(II)I"⟩, 18) := ⟨⟨by decide +kernel, by decide +kernel⟩, List.mem_of_getElem? (i := 583) (by decide +kernel), List.mem_of_getElem? (i := 678) (by decide +kernel), List.mem_of_getElem? (i := 679) (by decide +kernel)⟩
theorem lw_p22 : lw_okq (⟨"ComeIfSheModel", "holds", "(II)Z"⟩, 18) := ⟨⟨by decide +kernel, by decide +kernel⟩, List.mem_of_getElem? (i := 583) (by decide +kernel), List.mem_of_getElem? (i := 682) (by decide +kernel), List.mem_of_getElem? (i := 683) (by decide +kernel)⟩
theorem lw_p23 : lw_okq (⟨"ComeIfSheModel", "becomes", "(II)I"⟩, 18) := ⟨⟨by decide +kernel, by decide +kernel⟩, List.mem_of_getElem? (i := 583) (by decide +kernel), List.mem_of_getElem? (i := 693) (by decide +kernel), List.mem_of_getElem? (i := 694) (by decide +kernel)⟩
theorem lw_p24 : lw_okq (⟨"ComeIfSheModel", "any", "()V"⟩, 18) := ⟨⟨by decide +kernel, by decide +kernel⟩, List.mem_of_getElem? (i := 583) (by decide +kernel), List.mem_of_getElem? (i := 710) (by decide +kernel), List.mem_of_getElem? (i := 711) (by decide +kernel)⟩
theorem lw_p25 : lw_okq (⟨"ComeIfSheModel", "every", "()V"⟩, 18) := ⟨⟨by decide +kernel, by decide +kernel⟩, List.mem_of_getElem? (i := 583) (by decide +kernel), List.mem_of_getElem? (i := 714) (by decide +kernel), List.mem_of_getElem? (i := 715) (by decide +kernel)⟩
theorem lw_p26 : lw_okq (⟨"ComeIfSheModel", "unit", "()V"⟩, 18) := ⟨⟨by decide +kernel, by decide +kernel⟩, List.mem_of_getElem? (i := 583) (by decide +kernel), List.mem_of_getElem? (i := 718) (by decide +kernel), List.mem_of_getElem? (i := 719) (by decide +kernel)⟩
theorem lw_p27 : lw_okq (⟨"ComeIfSheModel", "look", "()I"⟩, 18) := ⟨⟨by decide +kernel, by decide +kernel⟩, List.mem_of_getElem? (i := 583) (by decide +kernel), List.mem_of_getElem? (i := 722) (by decide +kernel), List.mem_of_getElem? (i := 723) (by decide +kernel)⟩
theorem lw_p28 : lw_okq (⟨"ComeIfSheModel", "lay", "(I)V"⟩, 18) := ⟨⟨by decide +kernel, by decide +kernel⟩, List.mem_of_getElem? (i := 583) (by decide +kernel), List.mem_of_getElem? (i := 728) (by decide +kernel), List.mem_of_getElem? (i := 729) (by decide +kernel)⟩
theorem lw_p29 : lw_okq (⟨"ComeIfSheModel", "counted", "()V"⟩, 18) := ⟨⟨by decide +kernel, by decide +kernel⟩, List.mem_of_getElem? (i := 583) (by decide +kernel), List.mem_of_getElem? (i := 732) (by decide +kernel), List.mem_of_getElem? (i := 733) (by decide +kernel)⟩
theorem lw_p30 : lw_okq (⟨"ComeIfSheModel", "faulty", "()V"⟩, 18) := ⟨⟨by decide +kernel, by decide +kernel⟩, List.mem_of_getElem? (i := 583) (by decide +kernel), List.mem_of_getElem? (i := 736) (by decide +kernel), List.mem_of_getElem? (i := 737) (by decide +kernel)⟩
theorem lw_p31 : lw_okq (⟨"ComeIfSheModel", "opens", "()Z"⟩, 18) := ⟨⟨by decide +kernel, by decide +kernel⟩, List.mem_of_getElem? (i := 583) (by decide +kernel), List.mem_of_getElem? (i := 742) (by decide +kernel), List.mem_of_getElem? (i := 743) (by decide +kernel)⟩
def lw_privs_2 : List (MethodName × Nat) := [(⟨"ComeIfShe$Sheet", "bitsAt", "(I)J"⟩, 3), (⟨"ComeIfShe", "explains", "(LComeIfShe$Sheet;II)Z"⟩, 7), (⟨"ComeIfSheModel", "finds", "(I)I"⟩, 18), (⟨"ComeIfSheModel", "isGuest", "(I)Z"⟩, 18), (⟨"ComeIfSheModel", "comesBy", "(II)Z"⟩, 18), (⟨"ComeIfSheModel", "its", "(II)I"⟩, 18), (⟨"ComeIfSheModel", "holds", "(II)Z"⟩, 18), (⟨"ComeIfSheModel", "becomes", "(II)I"⟩, 18), (⟨"ComeIfSheModel", "any", "()V"⟩, 18), (⟨"ComeIfSheModel", "every", "()V"⟩, 18), (⟨"ComeIfSheModel", "unit", "()V"⟩, 18), (⟨"ComeIfSheModel", "look", "()I"⟩, 18), (⟨"ComeIfSheModel", "lay", "(I)V"⟩, 18), (⟨"ComeIfSheModel", "counted", "()V"⟩, 18), (⟨"ComeIfSheModel", "faulty", "()V"⟩, 18), (⟨"ComeIfSheModel", "opens", "()Z"⟩, 18)]
theorem lw_r2 : ∀ q ∈ lw_privs_2, lw_okq q := List.forall_mem_cons.mpr ⟨lw_p16, List.forall_mem_cons.mpr ⟨lw_p17, List.forall_mem_cons.mpr ⟨lw_p18, List.forall_mem_cons.mpr ⟨lw_p19, List.forall_mem_cons.mpr ⟨lw_p20, List.forall_mem_cons.mpr ⟨lw_p21, List.forall_mem_cons.mpr ⟨lw_p22, List.forall_mem_cons.mpr ⟨lw_p23, List.forall_mem_cons.mpr ⟨lw_p24, List.forall_mem_cons.mpr ⟨lw_p25, List.forall_mem_cons.mpr ⟨lw_p26, List.forall_mem_cons.mpr ⟨lw_p27, List.forall_mem_cons.mpr ⟨lw_p28, List.forall_mem_cons.mpr ⟨lw_p29, List.forall_mem_cons.mpr ⟨lw_p30, List.forall_mem_cons.mpr ⟨lw_p31, fun _ h => absurd h List.not_mem_nil⟩⟩⟩⟩⟩⟩⟩⟩⟩⟩⟩⟩⟩⟩⟩⟩
theorem lw_p32 : lw_okq (⟨"ComeIfSheModel", "isList", "(J)Z"⟩, 18) := ⟨⟨by decide +kernel, by decide +kernel⟩, List.mem_of_getElem? (i := 583) (by decide +kernel), List.mem_of_getElem? (i := 759) (by decide +kernel), List.mem_of_getElem? (i := 760) (by decide +kernel)⟩
theorem lw_p33 : lw_okq (⟨"ComeIfSheModel", "lists", "()I"⟩, 18) := ⟨⟨by decide +kernel, by decide +kernel⟩, List.mem_of_getElem? (i := 583) (by decide +kernel), List.mem_of_getElem? (i := 763) (by decide +kernel), List.mem_of_getElem? (i := 764) (by decide +kernel)⟩
theorem lw_p34 : lw_okq (⟨"ComeIfSheModel", "would", "(I)I"⟩, 18) := ⟨⟨by decide +kernel, by decide +kernel⟩, List.mem_of_getElem? (i := 583) (by decide +kernel), List.mem_of_getElem? (i := 771) (by decide +kernel), List.mem_of_getElem? (i := 772) (by decide +kernel)⟩
theorem lw_p35 : lw_okq (⟨"ComeIfSheModel", "costOf", "(I)I"⟩, 18) := ⟨⟨by decide +kernel, by decide +kernel⟩, List.mem_of_getElem? (i := 583) (by decide +kernel), List.mem_of_getElem? (i := 775) (by decide +kernel), List.mem_of_getElem? (i := 776) (by decide +kernel)⟩
theorem lw_p36 : lw_okq (⟨"ComeIfSheModel", "calling", "(I)I"⟩, 18) := ⟨⟨by decide +kernel, by decide +kernel⟩, List.mem_of_getElem? (i := 583) (by decide +kernel), List.mem_of_getElem? (i := 783) (by decide +kernel), List.mem_of_getElem? (i := 784) (by decide +kernel)⟩
theorem lw_p37 : lw_okq (⟨"ComeIfSheModel", "called", "(II)I"⟩, 18) := ⟨⟨by decide +kernel, by decide +kernel⟩, List.mem_of_getElem? (i := 583) (by decide +kernel), List.mem_of_getElem? (i := 787) (by decide +kernel), List.mem_of_getElem? (i := 788) (by decide +kernel)⟩
theorem lw_p38 : lw_okq (⟨"ComeIfSheModel", "behind", "(II)I"⟩, 18) := ⟨⟨by decide +kernel, by decide +kernel⟩, List.mem_of_getElem? (i := 583) (by decide +kernel), List.mem_of_getElem? (i := 801) (by decide +kernel), List.mem_of_getElem? (i := 802) (by decide +kernel)⟩
theorem lw_p39 : lw_okq (⟨"ComeIfSheModel", "looksAll", "()V"⟩, 18) := ⟨⟨by decide +kernel, by decide +kernel⟩, List.mem_of_getElem? (i := 583) (by decide +kernel), List.mem_of_getElem? (i := 813) (by decide +kernel), List.mem_of_getElem? (i := 814) (by decide +kernel)⟩
theorem lw_p40 : lw_okq (⟨"ComeIfSheModel", "looksFar", "()V"⟩, 18) := ⟨⟨by decide +kernel, by decide +kernel⟩, List.mem_of_getElem? (i := 583) (by decide +kernel), List.mem_of_getElem? (i := 826) (by decide +kernel), List.mem_of_getElem? (i := 827) (by decide +kernel)⟩
theorem lw_p41 : lw_okq (⟨"ComeIfSheModel", "orNone", "(I)I"⟩, 18) := ⟨⟨by decide +kernel, by decide +kernel⟩, List.mem_of_getElem? (i := 583) (by decide +kernel), List.mem_of_getElem? (i := 830) (by decide +kernel), List.mem_of_getElem? (i := 831) (by decide +kernel)⟩
theorem lw_p42 : lw_okq (⟨"ComeIfSheModel", "manySettled", "()I"⟩, 18) := ⟨⟨by decide +kernel, by decide +kernel⟩, List.mem_of_getElem? (i := 583) (by decide +kernel), List.mem_of_getElem? (i := 842) (by decide +kernel), List.mem_of_getElem? (i := 843) (by decide +kernel)⟩
theorem lw_p43 : lw_okq (⟨"ComeIfSheModel", "looksWhere", "()V"⟩, 18) := ⟨⟨by decide +kernel, by decide +kernel⟩, List.mem_of_getElem? (i := 583) (by decide +kernel), List.mem_of_getElem? (i := 859) (by decide +kernel), List.mem_of_getElem? (i := 860) (by decide +kernel)⟩
theorem lw_p44 : lw_okq (⟨"ComeIfSheModel", "lastOf", "(II)I"⟩, 18) := ⟨⟨by decide +kernel, by decide +kernel⟩, List.mem_of_getElem? (i := 583) (by decide +kernel), List.mem_of_getElem? (i := 871) (by decide +kernel), List.mem_of_getElem? (i := 872) (by decide +kernel)⟩
theorem lw_p45 : lw_okq (⟨"ComeIfSheModel", "bestBuy", "(I)I"⟩, 18) := ⟨⟨by decide +kernel, by decide +kernel⟩, List.mem_of_getElem? (i := 583) (by decide +kernel), List.mem_of_getElem? (i := 880) (by decide +kernel), List.mem_of_getElem? (i := 881) (by decide +kernel)⟩
theorem lw_p46 : lw_okq (⟨"ComeIfSheModel", "wrong", "(I)I"⟩, 18) := ⟨⟨by decide +kernel, by decide +kernel⟩, List.mem_of_getElem? (i := 583) (by decide +kernel), List.mem_of_getElem? (i := 920) (by decide +kernel), List.mem_of_getElem? (i := 921) (by decide +kernel)⟩
theorem lw_p47 : lw_okq (⟨"ComeIfSheModel", "isRow", "(I)Z"⟩, 18) := ⟨⟨by decide +kernel, by decide +kernel⟩, List.mem_of_getElem? (i := 583) (by decide +kernel), List.mem_of_getElem? (i := 944) (by decide +kernel), List.mem_of_getElem? (i := 945) (by decide +kernel)⟩
def lw_privs_3 : List (MethodName × Nat) := [(⟨"ComeIfSheModel", "isList", "(J)Z"⟩, 18), (⟨"ComeIfSheModel", "lists", "()I"⟩, 18), (⟨"ComeIfSheModel", "would", "(I)I"⟩, 18), (⟨"ComeIfSheModel", "costOf", "(I)I"⟩, 18), (⟨"ComeIfSheModel", "calling", "(I)I"⟩, 18), (⟨"ComeIfSheModel", "called", "(II)I"⟩, 18), (⟨"ComeIfSheModel", "behind", "(II)I"⟩, 18), (⟨"ComeIfSheModel", "looksAll", "()V"⟩, 18), (⟨"ComeIfSheModel", "looksFar", "()V"⟩, 18), (⟨"ComeIfSheModel", "orNone", "(I)I"⟩, 18), (⟨"ComeIfSheModel", "manySettled", "()I"⟩, 18), (⟨"ComeIfSheModel", "looksWhere", "()V"⟩, 18), (⟨"ComeIfSheModel", "lastOf", "(II)I"⟩, 18), (⟨"ComeIfSheModel", "bestBuy", "(I)I"⟩, 18), (⟨"ComeIfSheModel", "wrong", "(I)I"⟩, 18), (⟨"ComeIfSheModel", "isRow", "(I)Z"⟩, 18)]
theorem lw_r3 : ∀ q ∈ lw_privs_3, lw_okq q := List.forall_mem_cons.mpr ⟨lw_p32, List.forall_mem_cons.mpr ⟨lw_p33, List.forall_mem_cons.mpr ⟨lw_p34, List.forall_mem_cons.mpr ⟨lw_p35, List.forall_mem_cons.mpr ⟨lw_p36, List.forall_mem_cons.mpr ⟨lw_p37, List.forall_mem_cons.mpr ⟨lw_p38, List.forall_mem_cons.mpr ⟨lw_p39, List.forall_mem_cons.mpr ⟨lw_p40, List.forall_mem_cons.mpr ⟨lw_p41, List.forall_mem_cons.mpr ⟨lw_p42, List.forall_mem_cons.mpr ⟨lw_p43, List.forall_mem_cons.mpr ⟨lw_p44, List.forall_mem_cons.mpr ⟨lw_p45, List.forall_mem_cons.mpr ⟨lw_p46, List.forall_mem_cons.mpr ⟨lw_p47, fun _ h => absurd h List.not_mem_nil⟩⟩⟩⟩⟩⟩⟩⟩⟩⟩⟩⟩⟩⟩⟩⟩
def lw_privs : List (MethodName × Nat) := lw_privs_1 ++ (lw_privs_2 ++ (lw_privs_3))
def lw_tbl : List Cond := k2_sels lw_privs ++ tables_1
theorem lw_privs_ok : ∀ q ∈ lw_privs, lw_okq q := by
  show ∀ q ∈ lw_privs_1 ++ (lw_privs_2 ++ (lw_privs_3)), lw_okq q
  exact List.forall_mem_append.mpr ⟨lw_r1, List.forall_mem_append.mpr ⟨lw_r2, lw_r3⟩⟩
end
section
def RX0 : String := "ComeIfShe$Party"
def TX0 : u_T := fun k => match k with
  | 0 => ("ComeIfShe$Party", "size", "I", false)
  | 1 => ("ComeIfShe$Party", "list", "I", false)
  | 2 => ("ComeIfShe$Party", "told", "I", false)
  | 3 => ("ComeIfShe$Party", "kinds", "[I", true)
  | 4 => ("ComeIfShe$Party", "costs", "[I", true)
  | 5 => ("ComeIfShe$Party", "terms", "[J", true)
  | _ => ("ComeIfShe$Party", "known", "[I", true)
def tyX0 : Nat → FieldType := fun k => match k with
  | 0 => .int
  | 1 => .int
  | 2 => .int
  | 3 => .array .int
  | 4 => .array .int
  | 5 => .array .long
  | _ => .array .int
abbrev wsX00 : List Cond := u_ws RX0 TX0 7
theorem nmX0 : ∀ a, a < 7 → ∀ b, b < 7 → a ≠ b → (TX0 a).2.1 ≠ (TX0 b).2.1 := by decide +kernel
theorem tyX0_ok : ∀ k, k < 7 → parseFieldDescriptor (TX0 k).2.2.1 = some (tyX0 k) := by decide +kernel
abbrev cX0_init : ByteArray := prog_2_method_1_code
def yX0_init : MethodName := ⟨RX0, "<init>", "()V"⟩
abbrev cX0_has : ByteArray := prog_2_method_2_code
def yX0_has : MethodName := ⟨RX0, "has", "(I)Z"⟩
abbrev cX0_isSet : ByteArray := prog_2_method_3_code
def yX0_isSet : MethodName := ⟨RX0, "isSet", "(I)Z"⟩
abbrev cX0_lists : ByteArray := prog_2_method_4_code
def yX0_lists : MethodName := ⟨RX0, "lists", "()I"⟩
abbrev cX0_everyone : ByteArray := prog_2_method_5_code
def yX0_everyone : MethodName := ⟨RX0, "everyone", "()I"⟩
abbrev cX0_welcome : ByteArray := prog_2_method_6_code
def yX0_welcome : MethodName := ⟨RX0, "welcome", "(II)I"⟩
abbrev cX0_turnInto : ByteArray := prog_2_method_7_code
def yX0_turnInto : MethodName := ⟨RX0, "turnInto", "(II)I"⟩
abbrev cX0_tell : ByteArray := prog_2_method_8_code
def yX0_tell : MethodName := ⟨RX0, "tell", "(IIJ)V"⟩
abbrev cX0_take : ByteArray := prog_2_method_9_code
def yX0_take : MethodName := ⟨RX0, "take", "(LComeIfShe$Party;)V"⟩
abbrev cX0_costsOf : ByteArray := prog_2_method_10_code
def yX0_costsOf : MethodName := ⟨RX0, "costsOf", "(I)I"⟩
abbrev cX0_termHolds : ByteArray := prog_2_method_11_code
def yX0_termHolds : MethodName := ⟨RX0, "termHolds", "(II)Z"⟩
abbrev cX0_wouldComeAs : ByteArray := prog_2_method_12_code
def yX0_wouldComeAs : MethodName := ⟨RX0, "wouldComeAs", "(III)Z"⟩
abbrev cX0_comers : ByteArray := prog_2_method_13_code
def yX0_comers : MethodName := ⟨RX0, "comers", "(I)I"⟩
abbrev cX0_comersAs : ByteArray := prog_2_method_14_code
def yX0_comersAs : MethodName := ⟨RX0, "comersAs", "(III)I"⟩
abbrev cX0_isSettled : ByteArray := prog_2_method_15_code
def yX0_isSettled : MethodName := ⟨RX0, "isSettled", "(I)Z"⟩
abbrev cX0_settledAs : ByteArray := prog_2_method_16_code
def yX0_settledAs : MethodName := ⟨RX0, "settledAs", "(II)I"⟩
abbrev cX0_called : ByteArray := prog_2_method_17_code
def yX0_called : MethodName := ⟨RX0, "called", "(II)I"⟩
abbrev cX0_ringUp : ByteArray := prog_2_method_18_code
def yX0_ringUp : MethodName := ⟨RX0, "ringUp", "(I)I"⟩
abbrev cX0_behind : ByteArray := prog_2_method_19_code
def yX0_behind : MethodName := ⟨RX0, "behind", "(II)I"⟩
abbrev cX0_ringLength : ByteArray := prog_2_method_20_code
def yX0_ringLength : MethodName := ⟨RX0, "ringLength", "()I"⟩
abbrev cX0_roundsToRing : ByteArray := prog_2_method_21_code
def yX0_roundsToRing : MethodName := ⟨RX0, "roundsToRing", "(I)I"⟩
abbrev cX0_lastOf : ByteArray := prog_2_method_22_code
def yX0_lastOf : MethodName := ⟨RX0, "lastOf", "(II)I"⟩
def RX1 : String := "ComeIfShe$Sheet"
def TX1 : u_T := fun k => match k with
  | 0 => ("ComeIfShe$Sheet", "bits", "I", false)
  | 1 => ("ComeIfShe$Sheet", "size", "I", false)
  | _ => ("ComeIfShe$Sheet", "numbers", "[J", true)
def tyX1 : Nat → FieldType := fun k => match k with
  | 0 => .int
  | 1 => .int
  | _ => .array .long
abbrev wsX10 : List Cond := u_ws RX1 TX1 3
theorem nmX1 : ∀ a, a < 3 → ∀ b, b < 3 → a ≠ b → (TX1 a).2.1 ≠ (TX1 b).2.1 := by decide +kernel
theorem tyX1_ok : ∀ k, k < 3 → parseFieldDescriptor (TX1 k).2.2.1 = some (tyX1 k) := by decide +kernel
abbrev cX1_init : ByteArray := prog_3_method_1_code
def yX1_init : MethodName := ⟨RX1, "<init>", "()V"⟩
abbrev cX1_isMissing : ByteArray := prog_3_method_2_code
def yX1_isMissing : MethodName := ⟨RX1, "isMissing", "()Z"⟩
abbrev cX1_lay : ByteArray := prog_3_method_3_code
def yX1_lay : MethodName := ⟨RX1, "lay", "(II)I"⟩
abbrev cX1_put : ByteArray := prog_3_method_4_code
def yX1_put : MethodName := ⟨RX1, "put", "(IJ)J"⟩
abbrev cX1_hasRun : ByteArray := prog_3_method_5_code
def yX1_hasRun : MethodName := ⟨RX1, "hasRun", "(II)Z"⟩
abbrev cX1_bitsAt : ByteArray := prog_3_method_6_code
def yX1_bitsAt : MethodName := ⟨RX1, "bitsAt", "(I)J"⟩
abbrev cX1_holdsOnly : ByteArray := prog_3_method_7_code
def yX1_holdsOnly : MethodName := ⟨RX1, "holdsOnly", "(I)Z"⟩
abbrev cX1_listAt : ByteArray := prog_3_method_8_code
def yX1_listAt : MethodName := ⟨RX1, "listAt", "(I)I"⟩
def RX2 : String := "ComeIfShe$Tape"
def TX2 : u_T := fun k => match k with
  | 0 => ("ComeIfShe$Tape", "bytes", "[I", true)
  | 1 => ("ComeIfShe$Tape", "length", "I", false)
  | 2 => ("ComeIfShe$Tape", "place", "I", false)
  | 3 => ("ComeIfShe$Tape", "fault", "I", false)
  | 4 => ("ComeIfShe$Tape", "teller", "I", false)
  | _ => ("ComeIfShe$Tape", "word", "I", false)
def tyX2 : Nat → FieldType := fun k => match k with
  | 0 => .array .int
  | 1 => .int
  | 2 => .int
  | 3 => .int
  | 4 => .int
  | _ => .int
abbrev wsX20 : List Cond := u_ws RX2 TX2 6
theorem nmX2 : ∀ a, a < 6 → ∀ b, b < 6 → a ≠ b → (TX2 a).2.1 ≠ (TX2 b).2.1 := by decide +kernel
theorem tyX2_ok : ∀ k, k < 6 → parseFieldDescriptor (TX2 k).2.2.1 = some (tyX2 k) := by decide +kernel
abbrev cX2_init : ByteArray := prog_4_method_1_code
def yX2_init : MethodName := ⟨RX2, "<init>", "()V"⟩
abbrev cX2_append : ByteArray := prog_4_method_2_code
def yX2_append : MethodName := ⟨RX2, "append", "(II)I"⟩
abbrev cX2_holdsBy : ByteArray := prog_4_method_3_code
def yX2_holdsBy : MethodName := ⟨RX2, "holdsBy", "(II)J"⟩
abbrev cX2_anyOf : ByteArray := prog_4_method_4_code
def yX2_anyOf : MethodName := ⟨RX2, "anyOf", "(I)J"⟩
abbrev cX2_allOf : ByteArray := prog_4_method_5_code
def yX2_allOf : MethodName := ⟨RX2, "allOf", "(I)J"⟩
abbrev cX2_unit : ByteArray := prog_4_method_6_code
def yX2_unit : MethodName := ⟨RX2, "unit", "(I)J"⟩
abbrev cX2_closed : ByteArray := prog_4_method_7_code
def yX2_closed : MethodName := ⟨RX2, "closed", "(J)J"⟩
abbrev cX2_compared : ByteArray := prog_4_method_8_code
def yX2_compared : MethodName := ⟨RX2, "compared", "()J"⟩
abbrev cX2_listsWith : ByteArray := prog_4_method_9_code
def yX2_listsWith : MethodName := ⟨RX2, "listsWith", "(I)J"⟩
abbrev cX2_listsWhereOthers : ByteArray := prog_4_method_10_code
def yX2_listsWhereOthers : MethodName := ⟨RX2, "listsWhereOthers", "(II)J"⟩
abbrev cX2_sign : ByteArray := prog_4_method_11_code
def yX2_sign : MethodName := ⟨RX2, "sign", "()I"⟩
abbrev cX2_passes : ByteArray := prog_4_method_12_code
def yX2_passes : MethodName := ⟨RX2, "passes", "(C)Z"⟩
abbrev cX2_fail : ByteArray := prog_4_method_13_code
def yX2_fail : MethodName := ⟨RX2, "fail", "()J"⟩
def RX3 : String := "ComeIfShe$Telephone"
def TX3 : u_T := fun k => match k with
  | 0 => ("ComeIfShe$Telephone", "queue", "[I", true)
  | 1 => ("ComeIfShe$Telephone", "callsTo", "[I", true)
  | _ => ("ComeIfShe$Telephone", "firstCalled", "[I", true)
def tyX3 : Nat → FieldType := fun k => match k with
  | 0 => .array .int
  | 1 => .array .int
  | _ => .array .int
abbrev wsX30 : List Cond := u_ws RX3 TX3 3
theorem nmX3 : ∀ a, a < 3 → ∀ b, b < 3 → a ≠ b → (TX3 a).2.1 ≠ (TX3 b).2.1 := by decide +kernel
theorem tyX3_ok : ∀ k, k < 3 → parseFieldDescriptor (TX3 k).2.2.1 = some (tyX3 k) := by decide +kernel
abbrev cX3_init : ByteArray := prog_5_method_1_code
def yX3_init : MethodName := ⟨RX3, "<init>", "()V"⟩
abbrev cX3_nearestSettled : ByteArray := prog_5_method_2_code
def yX3_nearestSettled : MethodName := ⟨RX3, "nearestSettled", "(LComeIfShe$Party;)I"⟩
abbrev cX3_callAll : ByteArray := prog_5_method_3_code
def yX3_callAll : MethodName := ⟨RX3, "callAll", "(LComeIfShe$Party;II)I"⟩
abbrev cX3_callsTo : ByteArray := prog_5_method_4_code
def yX3_callsTo : MethodName := ⟨RX3, "callsTo", "(I)I"⟩
abbrev cX3_firstCalledTo : ByteArray := prog_5_method_5_code
def yX3_firstCalledTo : MethodName := ⟨RX3, "firstCalledTo", "(I)I"⟩
def RX4 : String := "ComeIfShe"
def TX4 : u_T := fun k => match k with
  | 0 => ("ComeIfShe", "party", "LComeIfShe$Party;", true)
  | 1 => ("ComeIfShe", "kept", "LComeIfShe$Party;", true)
  | 2 => ("ComeIfShe", "isKept", "Z", false)
  | 3 => ("ComeIfShe", "tape", "LComeIfShe$Tape;", true)
  | 4 => ("ComeIfShe", "telephone", "LComeIfShe$Telephone;", true)
  | 5 => ("ComeIfShe", "sheets", "[LComeIfShe$Sheet;", true)
  | _ => ("ComeIfShe", "findings", "[I", true)
def tyX4 : Nat → FieldType := fun k => match k with
  | 0 => .object "ComeIfShe$Party"
  | 1 => .object "ComeIfShe$Party"
  | 2 => .boolean
  | 3 => .object "ComeIfShe$Tape"
  | 4 => .object "ComeIfShe$Telephone"
  | 5 => .array (.object "ComeIfShe$Sheet")
  | _ => .array .int
abbrev wsX40 : List Cond := u_ws RX4 TX4 7
theorem nmX4 : ∀ a, a < 7 → ∀ b, b < 7 → a ≠ b → (TX4 a).2.1 ≠ (TX4 b).2.1 := by decide +kernel
theorem tyX4_ok : ∀ k, k < 7 → parseFieldDescriptor (TX4 k).2.2.1 = some (tyX4 k) := by decide +kernel
abbrev cX4_init : ByteArray := prog_1_method_1_code
def yX4_init : MethodName := ⟨RX4, "<init>", "()V"⟩
abbrev cX4_guest : ByteArray := prog_1_method_2_code
def yX4_guest : MethodName := ⟨RX4, "guest", "(II)I"⟩
abbrev cX4_of : ByteArray := prog_1_method_3_code
def yX4_of : MethodName := ⟨RX4, "of", "(II)I"⟩
abbrev cX4_cost : ByteArray := prog_1_method_4_code
def yX4_cost : MethodName := ⟨RX4, "cost", "(II)I"⟩
abbrev cX4_turn : ByteArray := prog_1_method_5_code
def yX4_turn : MethodName := ⟨RX4, "turn", "(II)I"⟩
abbrev cX4_as : ByteArray := prog_1_method_6_code
def yX4_as : MethodName := ⟨RX4, "as", "(II)I"⟩
abbrev cX4_term : ByteArray := prog_1_method_7_code
def yX4_term : MethodName := ⟨RX4, "term", "(I)I"⟩
abbrev cX4_feed : ByteArray := prog_1_method_8_code
def yX4_feed : MethodName := ⟨RX4, "feed", "(II)I"⟩
abbrev cX4_wipe : ByteArray := prog_1_method_9_code
def yX4_wipe : MethodName := ⟨RX4, "wipe", "()I"⟩
abbrev cX4_list : ByteArray := prog_1_method_10_code
def yX4_list : MethodName := ⟨RX4, "list", "(I)I"⟩
abbrev cX4_now : ByteArray := prog_1_method_11_code
def yX4_now : MethodName := ⟨RX4, "now", "(I)I"⟩
abbrev cX4_call : ByteArray := prog_1_method_12_code
def yX4_call : MethodName := ⟨RX4, "call", "(I)I"⟩
abbrev cX4_calls : ByteArray := prog_1_method_13_code
def yX4_calls : MethodName := ⟨RX4, "calls", "(I)I"⟩
abbrev cX4_rounds : ByteArray := prog_1_method_14_code
def yX4_rounds : MethodName := ⟨RX4, "rounds", "(I)I"⟩
abbrev cX4_on : ByteArray := prog_1_method_15_code
def yX4_on : MethodName := ⟨RX4, "on", "(I)I"⟩
abbrev cX4_when : ByteArray := prog_1_method_16_code
def yX4_when : MethodName := ⟨RX4, "when", "()I"⟩
abbrev cX4_ring : ByteArray := prog_1_method_17_code
def yX4_ring : MethodName := ⟨RX4, "ring", "(I)I"⟩
abbrev cX4_fewest : ByteArray := prog_1_method_18_code
def yX4_fewest : MethodName := ⟨RX4, "fewest", "()I"⟩
abbrev cX4_first : ByteArray := prog_1_method_19_code
def yX4_first : MethodName := ⟨RX4, "first", "()I"⟩
abbrev cX4_settled : ByteArray := prog_1_method_20_code
def yX4_settled : MethodName := ⟨RX4, "settled", "()I"⟩
abbrev cX4_ith : ByteArray := prog_1_method_21_code
def yX4_ith : MethodName := ⟨RX4, "ith", "(I)I"⟩
abbrev cX4_sure : ByteArray := prog_1_method_22_code
def yX4_sure : MethodName := ⟨RX4, "sure", "(I)I"⟩
abbrev cX4_basin : ByteArray := prog_1_method_23_code
def yX4_basin : MethodName := ⟨RX4, "basin", "()I"⟩
abbrev cX4_odds : ByteArray := prog_1_method_24_code
def yX4_odds : MethodName := ⟨RX4, "odds", "(II)J"⟩
abbrev cX4_last : ByteArray := prog_1_method_25_code
def yX4_last : MethodName := ⟨RX4, "last", "(I)I"⟩
abbrev cX4_buys : ByteArray := prog_1_method_26_code
def yX4_buys : MethodName := ⟨RX4, "buys", "(I)I"⟩
abbrev cX4_price : ByteArray := prog_1_method_27_code
def yX4_price : MethodName := ⟨RX4, "price", "(I)I"⟩
abbrev cX4_spoils : ByteArray := prog_1_method_28_code
def yX4_spoils : MethodName := ⟨RX4, "spoils", "()I"⟩
abbrev cX4_invites : ByteArray := prog_1_method_29_code
def yX4_invites : MethodName := ⟨RX4, "invites", "(II)I"⟩
abbrev cX4_against : ByteArray := prog_1_method_30_code
def yX4_against : MethodName := ⟨RX4, "against", "(II)I"⟩
abbrev cX4_minds : ByteArray := prog_1_method_31_code
def yX4_minds : MethodName := ⟨RX4, "minds", "(I)I"⟩
abbrev cX4_kind : ByteArray := prog_1_method_32_code
def yX4_kind : MethodName := ⟨RX4, "kind", "(I)I"⟩
abbrev cX4_sheet : ByteArray := prog_1_method_33_code
def yX4_sheet : MethodName := ⟨RX4, "sheet", "(III)I"⟩
abbrev cX4_write : ByteArray := prog_1_method_34_code
def yX4_write : MethodName := ⟨RX4, "write", "(IIJ)J"⟩
abbrev cX4_copy : ByteArray := prog_1_method_35_code
def yX4_copy : MethodName := ⟨RX4, "copy", "(IIIII)I"⟩
abbrev cX4_lays : ByteArray := prog_1_method_36_code
def yX4_lays : MethodName := ⟨RX4, "lays", "(I)I"⟩
abbrev cX4_book : ByteArray := prog_1_method_37_code
def yX4_book : MethodName := ⟨RX4, "book", "(I)I"⟩
abbrev cX4_read : ByteArray := prog_1_method_38_code
def yX4_read : MethodName := ⟨RX4, "read", "(I)I"⟩
abbrev cX4_image : ByteArray := prog_1_method_39_code
def yX4_image : MethodName := ⟨RX4, "image", "()I"⟩
abbrev cX4_undo : ByteArray := prog_1_method_40_code
def yX4_undo : MethodName := ⟨RX4, "undo", "()I"⟩
abbrev cX4_tear : ByteArray := prog_1_method_41_code
def yX4_tear : MethodName := ⟨RX4, "tear", "()I"⟩
abbrev cX4_count : ByteArray := prog_1_method_42_code
def yX4_count : MethodName := ⟨RX4, "count", "(I)I"⟩
abbrev cX4_status : ByteArray := prog_1_method_43_code
def yX4_status : MethodName := ⟨RX4, "status", "(I)I"⟩
abbrev cX4_found : ByteArray := prog_1_method_44_code
def yX4_found : MethodName := ⟨RX4, "found", "(I)I"⟩
abbrev cX4_sheetLack : ByteArray := prog_1_method_45_code
def yX4_sheetLack : MethodName := ⟨RX4, "sheetLack", "(I)I"⟩
abbrev cX4_cheapestFor : ByteArray := prog_1_method_46_code
def yX4_cheapestFor : MethodName := ⟨RX4, "cheapestFor", "(I)I"⟩
abbrev cX4_isCheaper : ByteArray := prog_1_method_47_code
def yX4_isCheaper : MethodName := ⟨RX4, "isCheaper", "(II)Z"⟩
abbrev cX4_isWellAsked : ByteArray := prog_1_method_48_code
def yX4_isWellAsked : MethodName := ⟨RX4, "isWellAsked", "(III)Z"⟩
abbrev cX4_explains : ByteArray := prog_1_method_49_code
def yX4_explains : MethodName := ⟨RX4, "explains", "(LComeIfShe$Sheet;II)Z"⟩
abbrev cX4_isKind : ByteArray := prog_1_method_50_code
def yX4_isKind : MethodName := ⟨RX4, "isKind", "(I)Z"⟩
abbrev cX4_isCost : ByteArray := prog_1_method_51_code
def yX4_isCost : MethodName := ⟨RX4, "isCost", "(I)Z"⟩
abbrev cX4_isSheet : ByteArray := prog_1_method_52_code
def yX4_isSheet : MethodName := ⟨RX4, "isSheet", "(I)Z"⟩
abbrev cX4_isUnder : ByteArray := prog_1_method_53_code
def yX4_isUnder : MethodName := ⟨RX4, "isUnder", "(II)Z"⟩
abbrev cX4_isOn : ByteArray := prog_1_method_54_code
def yX4_isOn : MethodName := ⟨RX4, "isOn", "(II)Z"⟩
abbrev cX4_othersOn : ByteArray := prog_1_method_55_code
def yX4_othersOn : MethodName := ⟨RX4, "othersOn", "(II)I"⟩
abbrev cX4_oneIf : ByteArray := prog_1_method_56_code
def yX4_oneIf : MethodName := ⟨RX4, "oneIf", "(Z)I"⟩
def RX5 : String := "ComeIfSheModel"
def TX5 : u_T := fun k => match k with
  | 0 => ("ComeIfSheModel", "s", "[I", true)
  | 1 => ("ComeIfSheModel", "keptS", "[I", true)
  | 2 => ("ComeIfSheModel", "statuses", "[I", true)
  | 3 => ("ComeIfSheModel", "isKept", "Z", false)
  | 4 => ("ComeIfSheModel", "pile", "[Z", true)
  | 5 => ("ComeIfSheModel", "tape", "[I", true)
  | 6 => ("ComeIfSheModel", "steps", "[I", true)
  | 7 => ("ComeIfSheModel", "taped", "I", false)
  | 8 => ("ComeIfSheModel", "at", "I", false)
  | 9 => ("ComeIfSheModel", "fault", "I", false)
  | 10 => ("ComeIfSheModel", "laid", "I", false)
  | 11 => ("ComeIfSheModel", "open", "I", false)
  | 12 => ("ComeIfSheModel", "wish", "[I", true)
  | 13 => ("ComeIfSheModel", "mark", "[I", true)
  | 14 => ("ComeIfSheModel", "bitsOf", "[I", true)
  | 15 => ("ComeIfSheModel", "sizeOf", "[I", true)
  | 16 => ("ComeIfSheModel", "number", "[J", true)
  | _ => ("ComeIfSheModel", "moved", "[J", true)
def tyX5 : Nat → FieldType := fun k => match k with
  | 0 => .array .int
  | 1 => .array .int
  | 2 => .array .int
  | 3 => .boolean
  | 4 => .array .boolean
  | 5 => .array .int
  | 6 => .array .int
  | 7 => .int
  | 8 => .int
  | 9 => .int
  | 10 => .int
  | 11 => .int
  | 12 => .array .int
  | 13 => .array .int
  | 14 => .array .int
  | 15 => .array .int
  | 16 => .array .long
  | _ => .array .long
abbrev wsX50 : List Cond := u_ws RX5 TX5 18
theorem nmX5 : ∀ a, a < 18 → ∀ b, b < 18 → a ≠ b → (TX5 a).2.1 ≠ (TX5 b).2.1 := by decide +kernel
theorem tyX5_ok : ∀ k, k < 18 → parseFieldDescriptor (TX5 k).2.2.1 = some (tyX5 k) := by decide +kernel
abbrev cX5_init : ByteArray := prog_7_method_1_code
def yX5_init : MethodName := ⟨RX5, "<init>", "()V"⟩
abbrev cX5_in : ByteArray := prog_7_method_2_code
def yX5_in : MethodName := ⟨RX5, "in", "(JJJ)Z"⟩
abbrev cX5_finds : ByteArray := prog_7_method_3_code
def yX5_finds : MethodName := ⟨RX5, "finds", "(I)I"⟩
abbrev cX5_orNone : ByteArray := prog_7_method_4_code
def yX5_orNone : MethodName := ⟨RX5, "orNone", "(I)I"⟩
abbrev cX5_has : ByteArray := prog_7_method_5_code
def yX5_has : MethodName := ⟨RX5, "has", "(II)Z"⟩
abbrev cX5_ones : ByteArray := prog_7_method_6_code
def yX5_ones : MethodName := ⟨RX5, "ones", "(I)I"⟩
abbrev cX5_isGuest : ByteArray := prog_7_method_7_code
def yX5_isGuest : MethodName := ⟨RX5, "isGuest", "(I)Z"⟩
abbrev cX5_its : ByteArray := prog_7_method_8_code
def yX5_its : MethodName := ⟨RX5, "its", "(II)I"⟩
abbrev cX5_lists : ByteArray := prog_7_method_9_code
def yX5_lists : MethodName := ⟨RX5, "lists", "()I"⟩
abbrev cX5_isList : ByteArray := prog_7_method_10_code
def yX5_isList : MethodName := ⟨RX5, "isList", "(J)Z"⟩
abbrev cX5_guest : ByteArray := prog_7_method_11_code
def yX5_guest : MethodName := ⟨RX5, "guest", "(II)I"⟩
abbrev cX5_others : ByteArray := prog_7_method_12_code
def yX5_others : MethodName := ⟨RX5, "others", "(II)I"⟩
abbrev cX5_holds : ByteArray := prog_7_method_13_code
def yX5_holds : MethodName := ⟨RX5, "holds", "(II)Z"⟩
abbrev cX5_comesBy : ByteArray := prog_7_method_14_code
def yX5_comesBy : MethodName := ⟨RX5, "comesBy", "(II)Z"⟩
abbrev cX5_would : ByteArray := prog_7_method_15_code
def yX5_would : MethodName := ⟨RX5, "would", "(I)I"⟩
abbrev cX5_of : ByteArray := prog_7_method_16_code
def yX5_of : MethodName := ⟨RX5, "of", "(II)I"⟩
abbrev cX5_becomes : ByteArray := prog_7_method_17_code
def yX5_becomes : MethodName := ⟨RX5, "becomes", "(II)I"⟩
abbrev cX5_cost : ByteArray := prog_7_method_18_code
def yX5_cost : MethodName := ⟨RX5, "cost", "(II)I"⟩
abbrev cX5_turn : ByteArray := prog_7_method_19_code
def yX5_turn : MethodName := ⟨RX5, "turn", "(II)I"⟩
abbrev cX5_as : ByteArray := prog_7_method_20_code
def yX5_as : MethodName := ⟨RX5, "as", "(II)I"⟩
abbrev cX5_look : ByteArray := prog_7_method_21_code
def yX5_look : MethodName := ⟨RX5, "look", "()I"⟩
abbrev cX5_faulty : ByteArray := prog_7_method_22_code
def yX5_faulty : MethodName := ⟨RX5, "faulty", "()V"⟩
abbrev cX5_lay : ByteArray := prog_7_method_23_code
def yX5_lay : MethodName := ⟨RX5, "lay", "(I)V"⟩
abbrev cX5_opens : ByteArray := prog_7_method_24_code
def yX5_opens : MethodName := ⟨RX5, "opens", "()Z"⟩
abbrev cX5_counted : ByteArray := prog_7_method_25_code
def yX5_counted : MethodName := ⟨RX5, "counted", "()V"⟩
abbrev cX5_unit : ByteArray := prog_7_method_26_code
def yX5_unit : MethodName := ⟨RX5, "unit", "()V"⟩
abbrev cX5_every : ByteArray := prog_7_method_27_code
def yX5_every : MethodName := ⟨RX5, "every", "()V"⟩
abbrev cX5_any : ByteArray := prog_7_method_28_code
def yX5_any : MethodName := ⟨RX5, "any", "()V"⟩
abbrev cX5_term : ByteArray := prog_7_method_29_code
def yX5_term : MethodName := ⟨RX5, "term", "(I)I"⟩
abbrev cX5_feed : ByteArray := prog_7_method_30_code
def yX5_feed : MethodName := ⟨RX5, "feed", "(II)I"⟩
abbrev cX5_wipe : ByteArray := prog_7_method_31_code
def yX5_wipe : MethodName := ⟨RX5, "wipe", "()I"⟩
abbrev cX5_list : ByteArray := prog_7_method_32_code
def yX5_list : MethodName := ⟨RX5, "list", "(I)I"⟩
abbrev cX5_costOf : ByteArray := prog_7_method_33_code
def yX5_costOf : MethodName := ⟨RX5, "costOf", "(I)I"⟩
abbrev cX5_now : ByteArray := prog_7_method_34_code
def yX5_now : MethodName := ⟨RX5, "now", "(I)I"⟩
abbrev cX5_called : ByteArray := prog_7_method_35_code
def yX5_called : MethodName := ⟨RX5, "called", "(II)I"⟩
abbrev cX5_calling : ByteArray := prog_7_method_36_code
def yX5_calling : MethodName := ⟨RX5, "calling", "(I)I"⟩
abbrev cX5_call : ByteArray := prog_7_method_37_code
def yX5_call : MethodName := ⟨RX5, "call", "(I)I"⟩
abbrev cX5_calls : ByteArray := prog_7_method_38_code
def yX5_calls : MethodName := ⟨RX5, "calls", "(I)I"⟩
abbrev cX5_behind : ByteArray := prog_7_method_39_code
def yX5_behind : MethodName := ⟨RX5, "behind", "(II)I"⟩
abbrev cX5_rounds : ByteArray := prog_7_method_40_code
def yX5_rounds : MethodName := ⟨RX5, "rounds", "(I)I"⟩
abbrev cX5_on : ByteArray := prog_7_method_41_code
def yX5_on : MethodName := ⟨RX5, "on", "(I)I"⟩
abbrev cX5_looksAll : ByteArray := prog_7_method_42_code
def yX5_looksAll : MethodName := ⟨RX5, "looksAll", "()V"⟩
abbrev cX5_when : ByteArray := prog_7_method_43_code
def yX5_when : MethodName := ⟨RX5, "when", "()I"⟩
abbrev cX5_ring : ByteArray := prog_7_method_44_code
def yX5_ring : MethodName := ⟨RX5, "ring", "(I)I"⟩
abbrev cX5_looksFar : ByteArray := prog_7_method_45_code
def yX5_looksFar : MethodName := ⟨RX5, "looksFar", "()V"⟩
abbrev cX5_fewest : ByteArray := prog_7_method_46_code
def yX5_fewest : MethodName := ⟨RX5, "fewest", "()I"⟩
abbrev cX5_first : ByteArray := prog_7_method_47_code
def yX5_first : MethodName := ⟨RX5, "first", "()I"⟩
abbrev cX5_manySettled : ByteArray := prog_7_method_48_code
def yX5_manySettled : MethodName := ⟨RX5, "manySettled", "()I"⟩
abbrev cX5_settled : ByteArray := prog_7_method_49_code
def yX5_settled : MethodName := ⟨RX5, "settled", "()I"⟩
abbrev cX5_ith : ByteArray := prog_7_method_50_code
def yX5_ith : MethodName := ⟨RX5, "ith", "(I)I"⟩
abbrev cX5_sure : ByteArray := prog_7_method_51_code
def yX5_sure : MethodName := ⟨RX5, "sure", "(I)I"⟩
abbrev cX5_looksWhere : ByteArray := prog_7_method_52_code
def yX5_looksWhere : MethodName := ⟨RX5, "looksWhere", "()V"⟩
abbrev cX5_basin : ByteArray := prog_7_method_53_code
def yX5_basin : MethodName := ⟨RX5, "basin", "()I"⟩
abbrev cX5_odds : ByteArray := prog_7_method_54_code
def yX5_odds : MethodName := ⟨RX5, "odds", "(II)J"⟩
abbrev cX5_lastOf : ByteArray := prog_7_method_55_code
def yX5_lastOf : MethodName := ⟨RX5, "lastOf", "(II)I"⟩
abbrev cX5_last : ByteArray := prog_7_method_56_code
def yX5_last : MethodName := ⟨RX5, "last", "(I)I"⟩
abbrev cX5_bestBuy : ByteArray := prog_7_method_57_code
def yX5_bestBuy : MethodName := ⟨RX5, "bestBuy", "(I)I"⟩
abbrev cX5_buys : ByteArray := prog_7_method_58_code
def yX5_buys : MethodName := ⟨RX5, "buys", "(I)I"⟩
abbrev cX5_price : ByteArray := prog_7_method_59_code
def yX5_price : MethodName := ⟨RX5, "price", "(I)I"⟩
abbrev cX5_spoils : ByteArray := prog_7_method_60_code
def yX5_spoils : MethodName := ⟨RX5, "spoils", "()I"⟩
abbrev cX5_invites : ByteArray := prog_7_method_61_code
def yX5_invites : MethodName := ⟨RX5, "invites", "(II)I"⟩
abbrev cX5_against : ByteArray := prog_7_method_62_code
def yX5_against : MethodName := ⟨RX5, "against", "(II)I"⟩
abbrev cX5_minds : ByteArray := prog_7_method_63_code
def yX5_minds : MethodName := ⟨RX5, "minds", "(I)I"⟩
abbrev cX5_kind : ByteArray := prog_7_method_64_code
def yX5_kind : MethodName := ⟨RX5, "kind", "(I)I"⟩
abbrev cX5_isOne : ByteArray := prog_7_method_65_code
def yX5_isOne : MethodName := ⟨RX5, "isOne", "(I)Z"⟩
abbrev cX5_sheet : ByteArray := prog_7_method_66_code
def yX5_sheet : MethodName := ⟨RX5, "sheet", "(III)I"⟩
abbrev cX5_narrowed : ByteArray := prog_7_method_67_code
def yX5_narrowed : MethodName := ⟨RX5, "narrowed", "(IJ)J"⟩
abbrev cX5_wrong : ByteArray := prog_7_method_68_code
def yX5_wrong : MethodName := ⟨RX5, "wrong", "(I)I"⟩
abbrev cX5_write : ByteArray := prog_7_method_69_code
def yX5_write : MethodName := ⟨RX5, "write", "(IIJ)J"⟩
abbrev cX5_copy : ByteArray := prog_7_method_70_code
def yX5_copy : MethodName := ⟨RX5, "copy", "(IIIII)I"⟩
abbrev cX5_lays : ByteArray := prog_7_method_71_code
def yX5_lays : MethodName := ⟨RX5, "lays", "(I)I"⟩
abbrev cX5_book : ByteArray := prog_7_method_72_code
def yX5_book : MethodName := ⟨RX5, "book", "(I)I"⟩
abbrev cX5_isRow : ByteArray := prog_7_method_73_code
def yX5_isRow : MethodName := ⟨RX5, "isRow", "(I)Z"⟩
abbrev cX5_read : ByteArray := prog_7_method_74_code
def yX5_read : MethodName := ⟨RX5, "read", "(I)I"⟩
abbrev cX5_image : ByteArray := prog_7_method_75_code
def yX5_image : MethodName := ⟨RX5, "image", "()I"⟩
abbrev cX5_undo : ByteArray := prog_7_method_76_code
def yX5_undo : MethodName := ⟨RX5, "undo", "()I"⟩
abbrev cX5_tear : ByteArray := prog_7_method_77_code
def yX5_tear : MethodName := ⟨RX5, "tear", "()I"⟩
abbrev cX5_count : ByteArray := prog_7_method_78_code
def yX5_count : MethodName := ⟨RX5, "count", "(I)I"⟩
abbrev cX5_status : ByteArray := prog_7_method_79_code
def yX5_status : MethodName := ⟨RX5, "status", "(I)I"⟩
def RJ6 : String := "java/lang/Integer"
def TJ6 : u_T := fun k => match k with
  | _ => ("", "", "", false)
def tyJ6 : Nat → FieldType := fun k => match k with
  | _ => .int
abbrev wsJ60 : List Cond := u_ws RJ6 TJ6 0
theorem nmJ6 : ∀ a, a < 0 → ∀ b, b < 0 → a ≠ b → (TJ6 a).2.1 ≠ (TJ6 b).2.1 := by decide +kernel
theorem tyJ6_ok : ∀ k, k < 0 → parseFieldDescriptor (TJ6 k).2.2.1 = some (tyJ6 k) := by decide +kernel
abbrev cJ6_bitCount_0f7a4 : ByteArray := prog_8_method_49_code
def yJ6_bitCount_0f7a4 : MethodName := ⟨RJ6, "bitCount", "(I)I"⟩
def RJ9 : String := "java/lang/Math"
def TJ9 : u_T := fun k => match k with
  | _ => ("", "", "", false)
def tyJ9 : Nat → FieldType := fun k => match k with
  | _ => .int
abbrev wsJ90 : List Cond := u_ws RJ9 TJ9 0
theorem nmJ9 : ∀ a, a < 0 → ∀ b, b < 0 → a ≠ b → (TJ9 a).2.1 ≠ (TJ9 b).2.1 := by decide +kernel
theorem tyJ9_ok : ∀ k, k < 0 → parseFieldDescriptor (TJ9 k).2.2.1 = some (tyJ9 k) := by decide +kernel
abbrev cJ9_max_7cf53 : ByteArray := prog_9_method_65_code
def yJ9_max_7cf53 : MethodName := ⟨RJ9, "max", "(II)I"⟩
abbrev cJ9_min_7cf53 : ByteArray := prog_9_method_69_code
def yJ9_min_7cf53 : MethodName := ⟨RJ9, "min", "(II)I"⟩
def RJ10 : String := "java/lang/System"
def TJ10 : u_T := fun k => match k with
  | _ => ("", "", "", false)
def tyJ10 : Nat → FieldType := fun k => match k with
  | _ => .int
abbrev wsJ100 : List Cond := u_ws RJ10 TJ10 0
theorem nmJ10 : ∀ a, a < 0 → ∀ b, b < 0 → a ≠ b → (TJ10 a).2.1 ≠ (TJ10 b).2.1 := by decide +kernel
theorem tyJ10_ok : ∀ k, k < 0 → parseFieldDescriptor (TJ10 k).2.2.1 = some (tyJ10 k) := by decide +kernel
def RJ7 : String := "java/util/Arrays"
def TJ7 : u_T := fun k => match k with
  | _ => ("", "", "", false)
def tyJ7 : Nat → FieldType := fun k => match k with
  | _ => .int
abbrev wsJ70 : List Cond := u_ws RJ7 TJ7 0
theorem nmJ7 : ∀ a, a < 0 → ∀ b, b < 0 → a ≠ b → (TJ7 a).2.1 ≠ (TJ7 b).2.1 := by decide +kernel
theorem tyJ7_ok : ∀ k, k < 0 → parseFieldDescriptor (TJ7 k).2.2.1 = some (tyJ7 k) := by decide +kernel
abbrev cJ7_fill_d0a16 : ByteArray := prog_11_method_101_code
def yJ7_fill_d0a16 : MethodName := ⟨RJ7, "fill", "([JJ)V"⟩
abbrev cJ7_fill_53178 : ByteArray := prog_11_method_103_code
def yJ7_fill_53178 : MethodName := ⟨RJ7, "fill", "([II)V"⟩
def RL : String := "ComeIfSheLaw"
abbrev cL_law : ByteArray := code
def yL_law : MethodName := ⟨RL, "law", "([I)Z"⟩
abbrev vwCl : List vw_C := [(RX0, TX0, 7), (RX1, TX1, 3), (RX2, TX2, 6), (RX3, TX3, 3), (RX4, TX4, 7), (RX5, TX5, 18)]
end
section
/-! decode by one walk over the bytes -/
theorem dk_of {c : ByteArray} {p n : Nat} {i : Instr} (h : (Jvm.ClassFile.Decoder.instr p) c p = .ok (i, p + n)) : decode c p = .ok (i, n) := by
  have e : (Jvm.ClassFile.Reader.runAt (Jvm.ClassFile.Decoder.instr p) c p) = .ok (i, p + n) := h
  unfold decode
  rw [e]
  show Except.ok (i, p + n - p) = _
  rw [Nat.add_sub_cancel_left]
theorem dk_lt {c : ByteArray} {p : Nat} {b : UInt8} {s : List UInt8} (h : c.data.toList.drop p = b :: s) : p < c.size := by
  have h1 : (c.data.toList.drop p).length = (b :: s).length := by rw [h]
  rw [List.length_drop, List.length_cons] at h1
  have h2 : c.data.toList.length = c.size := rfl
  omega
theorem dk_tl {c : ByteArray} {p : Nat} {b : UInt8} {s : List UInt8} (h : c.data.toList.drop p = b :: s) : c.data.toList.drop (p + 1) = s := by
  rw [← List.drop_drop, h]
  rfl
theorem dk_b {c : ByteArray} {p : Nat} {b : UInt8} {s : List UInt8} (h : c.data.toList.drop p = b :: s) : (Jvm.ClassFile.Reader.u1 : Jvm.ClassFile.Decoder Nat) c p = .ok (b.toNat, p + 1) := by
  have hl := dk_lt h
  have hg : c.data.toList[p]? = some b := by
    have h1 : (c.data.toList.drop p)[0]? = some b := by rw [h]; rfl
    rwa [List.getElem?_drop, Nat.add_zero] at h1
  have hb : c[p]'hl = b := by
    have h2 : c.data.toList[p]'hl = b := by
      rw [List.getElem?_eq_getElem hl] at hg
      exact Option.some.inj hg
    exact h2
  show (if h : p < c.size then _ else _ : Jvm.ClassFile.Decoder Nat) c p = _
  rw [dif_pos hl]
  show Except.ok ((c[p]'hl).toNat, p + 1) = _
  rw [hb]
theorem dk_u1 {c : ByteArray} {p : Nat} {b : UInt8} {s : List UInt8} (h : c.data.toList.drop p = b :: s) {α : Type} (f : Nat → Jvm.ClassFile.Decoder α) : (Jvm.ClassFile.Reader.u1 >>= f : Jvm.ClassFile.Decoder α) c p = f b.toNat c (p + 1) := by
  show (((Jvm.ClassFile.Reader.u1 : Jvm.ClassFile.Decoder Nat) c p) >>= fun q => f q.1 c q.2) = _
  rw [dk_b h]
  rfl
theorem dk_s1 {c : ByteArray} {p : Nat} {b : UInt8} {s : List UInt8} (h : c.data.toList.drop p = b :: s) {α : Type} (f : Int → Jvm.ClassFile.Decoder α) : (Jvm.ClassFile.Reader.s1 >>= f : Jvm.ClassFile.Decoder α) c p = f (Jvm.ClassFile.Reader.signed 8 b.toNat) c (p + 1) := by
  have e : (Jvm.ClassFile.Reader.s1 : Jvm.ClassFile.Decoder Int) c p = .ok (Jvm.ClassFile.Reader.signed 8 b.toNat, p + 1) := by
    show (((Jvm.ClassFile.Reader.u1 : Jvm.ClassFile.Decoder Nat) c p) >>= fun q => Except.ok (Jvm.ClassFile.Reader.signed 8 q.1, q.2)) = _
    rw [dk_b h]
    rfl
  show (((Jvm.ClassFile.Reader.s1 : Jvm.ClassFile.Decoder Int) c p) >>= fun q => f q.1 c q.2) = _
  rw [e]
  rfl
theorem dk_h {c : ByteArray} {p : Nat} {a b : UInt8} {s : List UInt8} (h : c.data.toList.drop p = a :: b :: s) : (Jvm.ClassFile.Reader.u2 : Jvm.ClassFile.Decoder Nat) c p = .ok (a.toNat * 256 + b.toNat, p + 2) := by
  show (Jvm.ClassFile.Reader.u1 >>= fun hi => Jvm.ClassFile.Reader.u1 >>= fun lo => pure (hi * 256 + lo) : Jvm.ClassFile.Decoder Nat) c p = _
  rw [dk_u1 h, dk_u1 (dk_tl h)]
  rfl
theorem dk_u2 {c : ByteArray} {p : Nat} {a b : UInt8} {s : List UInt8} (h : c.data.toList.drop p = a :: b :: s) {α : Type} (f : Nat → Jvm.ClassFile.Decoder α) : (Jvm.ClassFile.Reader.u2 >>= f : Jvm.ClassFile.Decoder α) c p = f (a.toNat * 256 + b.toNat) c (p + 2) := by
  show (((Jvm.ClassFile.Reader.u2 : Jvm.ClassFile.Decoder Nat) c p) >>= fun q => f q.1 c q.2) = _
  rw [dk_h h]
  rfl
theorem dk_s2 {c : ByteArray} {p : Nat} {a b : UInt8} {s : List UInt8} (h : c.data.toList.drop p = a :: b :: s) {α : Type} (f : Int → Jvm.ClassFile.Decoder α) : (Jvm.ClassFile.Reader.s2 >>= f : Jvm.ClassFile.Decoder α) c p = f (Jvm.ClassFile.Reader.signed 16 (a.toNat * 256 + b.toNat)) c (p + 2) := by
  have e : (Jvm.ClassFile.Reader.s2 : Jvm.ClassFile.Decoder Int) c p = .ok (Jvm.ClassFile.Reader.signed 16 (a.toNat * 256 + b.toNat), p + 2) := by
    show (((Jvm.ClassFile.Reader.u2 : Jvm.ClassFile.Decoder Nat) c p) >>= fun q => Except.ok (Jvm.ClassFile.Reader.signed 16 q.1, q.2)) = _
    rw [dk_h h]
    rfl
  show (((Jvm.ClassFile.Reader.s2 : Jvm.ClassFile.Decoder Int) c p) >>= fun q => f q.1 c q.2) = _
  rw [e]
  rfl
/-- what a table's row says -/
def dq_ok (q : Nat × (List UInt8 → Option (Instr × Nat))) : Prop := ∀ (c : ByteArray) (p : Nat) (b : UInt8) (s : List UInt8) (r : Instr × Nat), b.toNat = q.1 → c.data.toList.drop p = b :: s → q.2 s = some r → decode c p = .ok r
def dq_z (i : Instr) : List UInt8 → Option (Instr × Nat) := fun _ => some (i, 1)
def dq_1 (g : Nat → Instr) : List UInt8 → Option (Instr × Nat) := fun s => match s with
  | x :: _ => some (g x.toNat, 2)
  | [] => none
def dq_2 (g : Nat → Instr) : List UInt8 → Option (Instr × Nat) := fun s => match s with
  | x :: y :: _ => some (g (x.toNat * 256 + y.toNat), 3)
  | _ => none
def dq_i : List UInt8 → Option (Instr × Nat) := fun s => match s with
  | x :: y :: _ => some (.iinc x.toNat (Jvm.ClassFile.Reader.signed 8 y.toNat), 3)
  | _ => none
def dq_a (k : Nat) (i : Instr) : List UInt8 → Option (Instr × Nat) := fun s => match s with
  | x :: _ => cond (Nat.beq x.toNat k) (some (i, 2)) none
  | [] => none
theorem dq_z_ok (b0 : UInt8) {v : Nat} {i : Instr} (hv : b0.toNat = v) (X : ∀ (c : ByteArray) (p : Nat) (s : List UInt8), c.data.toList.drop p = b0 :: s → (Jvm.ClassFile.Decoder.instr p) c p = .ok (i, p + 1)) : dq_ok (v, dq_z i) := by
  intro c p b s r hb hs hr
  have e : b = b0 := UInt8.toNat_inj.mp (hb.trans hv.symm)
  subst e
  cases hr
  exact dk_of (X c p s hs)
theorem dq_1_ok (b0 : UInt8) {v : Nat} {g : Nat → Instr} (hv : b0.toNat = v) (X : ∀ (c : ByteArray) (p : Nat) (x : UInt8) (s : List UInt8), c.data.toList.drop p = b0 :: x :: s → (Jvm.ClassFile.Decoder.instr p) c p = .ok (g x.toNat, p + 2)) : dq_ok (v, dq_1 g) := by
  intro c p b s r hb hs hr
  have e : b = b0 := UInt8.toNat_inj.mp (hb.trans hv.symm)
  subst e
  match s, hs, hr with
  | x :: s, hs, hr =>
    cases hr
    exact dk_of (X c p x s hs)
theorem dq_2_ok (b0 : UInt8) {v : Nat} {g : Nat → Instr} (hv : b0.toNat = v) (X : ∀ (c : ByteArray) (p : Nat) (x y : UInt8) (s : List UInt8), c.data.toList.drop p = b0 :: x :: y :: s → (Jvm.ClassFile.Decoder.instr p) c p = .ok (g (x.toNat * 256 + y.toNat), p + 3)) : dq_ok (v, dq_2 g) := by
  intro c p b s r hb hs hr
  have e : b = b0 := UInt8.toNat_inj.mp (hb.trans hv.symm)
  subst e
  match s, hs, hr with
  | x :: y :: s, hs, hr =>
    cases hr
    exact dk_of (X c p x y s hs)
theorem dq_i_ok : dq_ok (132, dq_i) := by
  intro c p b s r hb hs hr
  have e : b = 132 := UInt8.toNat_inj.mp hb
  subst e
  match s, hs, hr with
  | x :: y :: s, hs, hr =>
    cases hr
    exact dk_of (n := 3) ((dk_u1 hs _).trans ((dk_u1 (dk_tl hs) (fun a => Jvm.ClassFile.Reader.s1 >>= fun d => pure (Instr.iinc a d))).trans ((dk_s1 (dk_tl (dk_tl hs)) (fun d => pure (Instr.iinc x.toNat d))).trans rfl)))
def dlk : List (Nat × (List UInt8 → Option (Instr × Nat))) → Nat → List UInt8 → Option (Instr × Nat)
  | [], _, _ => none
  | q :: t, v, s => cond (Nat.beq q.1 v) (q.2 s) (dlk t v s)
theorem dlk_ok : ∀ (t : List (Nat × (List UInt8 → Option (Instr × Nat)))), (∀ q ∈ t, dq_ok q) → ∀ (c : ByteArray) (p : Nat) (b : UInt8) (s : List UInt8) (r : Instr × Nat), c.data.toList.drop p = b :: s → dlk t b.toNat s = some r → decode c p = .ok r
  | [], _, _, _, _, _, _, _, h => by cases h
  | q :: t, ht, c, p, b, s, r, hs, h => by
    unfold dlk at h
    cases e : Nat.beq q.1 b.toNat with
    | true =>
      rw [e] at h
      exact ht q List.mem_cons_self c p b s r (Nat.eq_of_beq_eq_true e).symm hs h
    | false =>
      rw [e] at h
      exact dlk_ok t (fun x hx => ht x (List.mem_cons_of_mem _ hx)) c p b s r hs h
theorem de_0 : dq_ok (42, dq_z (.aload_n 0)) := dq_z_ok 42 rfl (fun c p s h => (dk_u1 h _).trans rfl)
theorem de_1 : dq_ok (182, dq_2 (fun a => .invokevirtual a)) := dq_2_ok 182 rfl (fun c p x y s h => (dk_u1 h _).trans ((dk_u2 (dk_tl h) (fun a => pure (Instr.invokevirtual a))).trans rfl))
theorem de_2 : dq_ok (180, dq_2 (fun a => .getfield a)) := dq_2_ok 180 rfl (fun c p x y s h => (dk_u1 h _).trans ((dk_u2 (dk_tl h) (fun a => pure (Instr.getfield a))).trans rfl))
theorem de_3 : dq_ok (27, dq_z (.iload_n 1)) := dq_z_ok 27 rfl (fun c p s h => (dk_u1 h _).trans rfl)
theorem de_4 : dq_ok (167, dq_2 (fun a => .goto (Jvm.ClassFile.Reader.signed 16 a))) := dq_2_ok 167 rfl (fun c p x y s h => (dk_u1 h _).trans ((dk_s2 (dk_tl h) (fun a => pure (Instr.goto a))).trans rfl))
theorem de_5 : dq_ok (172, dq_z (.ireturn)) := dq_z_ok 172 rfl (fun c p s h => (dk_u1 h _).trans rfl)
theorem de_6 : dq_ok (29, dq_z (.iload_n 3)) := dq_z_ok 29 rfl (fun c p s h => (dk_u1 h _).trans rfl)
theorem de_7 : dq_ok (4, dq_z (.iconst 1)) := dq_z_ok 4 rfl (fun c p s h => (dk_u1 h _).trans rfl)
theorem de_8 : dq_ok (21, dq_1 (fun a => .iload a)) := dq_1_ok 21 rfl (fun c p x s h => (dk_u1 h _).trans ((dk_u1 (dk_tl h) (fun a => pure (Instr.iload a))).trans rfl))
theorem de_9 : dq_ok (28, dq_z (.iload_n 2)) := dq_z_ok 28 rfl (fun c p s h => (dk_u1 h _).trans rfl)
theorem de_10 : dq_ok (3, dq_z (.iconst 0)) := dq_z_ok 3 rfl (fun c p s h => (dk_u1 h _).trans rfl)
theorem de_11 : dq_ok (46, dq_z (.iaload)) := dq_z_ok 46 rfl (fun c p s h => (dk_u1 h _).trans rfl)
theorem de_12 : dq_ok (96, dq_z (.iadd)) := dq_z_ok 96 rfl (fun c p s h => (dk_u1 h _).trans rfl)
theorem de_13 : dq_ok (16, dq_1 (fun a => .bipush (Jvm.ClassFile.Reader.signed 8 a))) := dq_1_ok 16 rfl (fun c p x s h => (dk_u1 h _).trans ((dk_s1 (dk_tl h) (fun a => pure (Instr.bipush a))).trans rfl))
theorem de_14 : dq_ok (153, dq_2 (fun a => .ifCond .eq (Jvm.ClassFile.Reader.signed 16 a))) := dq_2_ok 153 rfl (fun c p x y s h => (dk_u1 h _).trans ((dk_s2 (dk_tl h) (fun a => pure (Instr.ifCond .eq a))).trans rfl))
theorem de_15 : dq_ok (162, dq_2 (fun a => .if_icmp .ge (Jvm.ClassFile.Reader.signed 16 a))) := dq_2_ok 162 rfl (fun c p x y s h => (dk_u1 h _).trans ((dk_s2 (dk_tl h) (fun a => pure (Instr.if_icmp .ge a))).trans rfl))
theorem de_16 : dq_ok (184, dq_2 (fun a => .invokestatic a)) := dq_2_ok 184 rfl (fun c p x y s h => (dk_u1 h _).trans ((dk_u2 (dk_tl h) (fun a => pure (Instr.invokestatic a))).trans rfl))
theorem de_17 : dq_ok (54, dq_1 (fun a => .istore a)) := dq_1_ok 54 rfl (fun c p x s h => (dk_u1 h _).trans ((dk_u1 (dk_tl h) (fun a => pure (Instr.istore a))).trans rfl))
theorem de_18 : dq_ok (18, dq_1 (fun a => .ldc a)) := dq_1_ok 18 rfl (fun c p x s h => (dk_u1 h _).trans ((dk_u1 (dk_tl h) (fun a => pure (Instr.ldc a))).trans rfl))
theorem de_19 : dq_ok (132, dq_i) := dq_i_ok
theorem de_20 : dq_ok (62, dq_z (.istore_n 3)) := dq_z_ok 62 rfl (fun c p s h => (dk_u1 h _).trans rfl)
theorem de_21 : dq_ok (61, dq_z (.istore_n 2)) := dq_z_ok 61 rfl (fun c p s h => (dk_u1 h _).trans rfl)
theorem de_22 : dq_ok (87, dq_z (.pop)) := dq_z_ok 87 rfl (fun c p s h => (dk_u1 h _).trans rfl)
theorem de_23 : dq_ok (181, dq_2 (fun a => .putfield a)) := dq_2_ok 181 rfl (fun c p x y s h => (dk_u1 h _).trans ((dk_u2 (dk_tl h) (fun a => pure (Instr.putfield a))).trans rfl))
theorem de_24 : dq_ok (154, dq_2 (fun a => .ifCond .ne (Jvm.ClassFile.Reader.signed 16 a))) := dq_2_ok 154 rfl (fun c p x y s h => (dk_u1 h _).trans ((dk_s2 (dk_tl h) (fun a => pure (Instr.ifCond .ne a))).trans rfl))
theorem de_25 : dq_ok (160, dq_2 (fun a => .if_icmp .ne (Jvm.ClassFile.Reader.signed 16 a))) := dq_2_ok 160 rfl (fun c p x y s h => (dk_u1 h _).trans ((dk_s2 (dk_tl h) (fun a => pure (Instr.if_icmp .ne a))).trans rfl))
theorem de_26 : dq_ok (43, dq_z (.aload_n 1)) := dq_z_ok 43 rfl (fun c p s h => (dk_u1 h _).trans rfl)
theorem de_27 : dq_ok (133, dq_z (.i2l)) := dq_z_ok 133 rfl (fun c p s h => (dk_u1 h _).trans rfl)
theorem de_28 : dq_ok (2, dq_z (.iconst (-1))) := dq_z_ok 2 rfl (fun c p s h => (dk_u1 h _).trans rfl)
theorem de_29 : dq_ok (17, dq_2 (fun a => .sipush (Jvm.ClassFile.Reader.signed 16 a))) := dq_2_ok 17 rfl (fun c p x y s h => (dk_u1 h _).trans ((dk_s2 (dk_tl h) (fun a => pure (Instr.sipush a))).trans rfl))
theorem de_30 : dq_ok (5, dq_z (.iconst 2)) := dq_z_ok 5 rfl (fun c p s h => (dk_u1 h _).trans rfl)
theorem de_31 : dq_ok (79, dq_z (.iastore)) := dq_z_ok 79 rfl (fun c p s h => (dk_u1 h _).trans rfl)
theorem de_32 : dq_ok (44, dq_z (.aload_n 2)) := dq_z_ok 44 rfl (fun c p s h => (dk_u1 h _).trans rfl)
theorem de_33 : dq_ok (126, dq_z (.iand)) := dq_z_ok 126 rfl (fun c p s h => (dk_u1 h _).trans rfl)
theorem de_34 : dq_ok (100, dq_z (.isub)) := dq_z_ok 100 rfl (fun c p s h => (dk_u1 h _).trans rfl)
theorem de_35 : dq_ok (60, dq_z (.istore_n 1)) := dq_z_ok 60 rfl (fun c p s h => (dk_u1 h _).trans rfl)
theorem de_36 : dq_ok (20, dq_2 (fun a => .ldc2_w a)) := dq_2_ok 20 rfl (fun c p x y s h => (dk_u1 h _).trans ((dk_u2 (dk_tl h) (fun a => pure (Instr.ldc2_w a))).trans rfl))
theorem de_37 : dq_ok (26, dq_z (.iload_n 0)) := dq_z_ok 26 rfl (fun c p s h => (dk_u1 h _).trans rfl)
theorem de_38 : dq_ok (9, dq_z (.lconst 0)) := dq_z_ok 9 rfl (fun c p s h => (dk_u1 h _).trans rfl)
theorem de_39 : dq_ok (155, dq_2 (fun a => .ifCond .lt (Jvm.ClassFile.Reader.signed 16 a))) := dq_2_ok 155 rfl (fun c p x y s h => (dk_u1 h _).trans ((dk_s2 (dk_tl h) (fun a => pure (Instr.ifCond .lt a))).trans rfl))
theorem de_40 : dq_ok (173, dq_z (.lreturn)) := dq_z_ok 173 rfl (fun c p s h => (dk_u1 h _).trans rfl)
theorem de_41 : dq_ok (89, dq_z (.dup)) := dq_z_ok 89 rfl (fun c p s h => (dk_u1 h _).trans rfl)
theorem de_42 : dq_ok (159, dq_2 (fun a => .if_icmp .eq (Jvm.ClassFile.Reader.signed 16 a))) := dq_2_ok 159 rfl (fun c p x y s h => (dk_u1 h _).trans ((dk_s2 (dk_tl h) (fun a => pure (Instr.if_icmp .eq a))).trans rfl))
theorem de_43 : dq_ok (156, dq_2 (fun a => .ifCond .ge (Jvm.ClassFile.Reader.signed 16 a))) := dq_2_ok 156 rfl (fun c p x y s h => (dk_u1 h _).trans ((dk_s2 (dk_tl h) (fun a => pure (Instr.ifCond .ge a))).trans rfl))
theorem de_44 : dq_ok (104, dq_z (.imul)) := dq_z_ok 104 rfl (fun c p s h => (dk_u1 h _).trans rfl)
theorem de_45 : dq_ok (120, dq_z (.ishl)) := dq_z_ok 120 rfl (fun c p s h => (dk_u1 h _).trans rfl)
theorem de_46 : dq_ok (7, dq_z (.iconst 4)) := dq_z_ok 7 rfl (fun c p s h => (dk_u1 h _).trans rfl)
theorem de_47 : dq_ok (177, dq_z (.return_)) := dq_z_ok 177 rfl (fun c p s h => (dk_u1 h _).trans rfl)
theorem de_48 : dq_ok (164, dq_2 (fun a => .if_icmp .le (Jvm.ClassFile.Reader.signed 16 a))) := dq_2_ok 164 rfl (fun c p x y s h => (dk_u1 h _).trans ((dk_s2 (dk_tl h) (fun a => pure (Instr.if_icmp .le a))).trans rfl))
theorem de_49 : dq_ok (128, dq_z (.ior)) := dq_z_ok 128 rfl (fun c p s h => (dk_u1 h _).trans rfl)
theorem de_50 : dq_ok (50, dq_z (.aaload)) := dq_z_ok 50 rfl (fun c p s h => (dk_u1 h _).trans rfl)
theorem de_51 : dq_ok (6, dq_z (.iconst 3)) := dq_z_ok 6 rfl (fun c p s h => (dk_u1 h _).trans rfl)
theorem de_52 : dq_ok (163, dq_2 (fun a => .if_icmp .gt (Jvm.ClassFile.Reader.signed 16 a))) := dq_2_ok 163 rfl (fun c p x y s h => (dk_u1 h _).trans ((dk_s2 (dk_tl h) (fun a => pure (Instr.if_icmp .gt a))).trans rfl))
theorem de_53 : dq_ok (161, dq_2 (fun a => .if_icmp .lt (Jvm.ClassFile.Reader.signed 16 a))) := dq_2_ok 161 rfl (fun c p x y s h => (dk_u1 h _).trans ((dk_s2 (dk_tl h) (fun a => pure (Instr.if_icmp .lt a))).trans rfl))
theorem de_54 : dq_ok (183, dq_2 (fun a => .invokespecial a)) := dq_2_ok 183 rfl (fun c p x y s h => (dk_u1 h _).trans ((dk_u2 (dk_tl h) (fun a => pure (Instr.invokespecial a))).trans rfl))
theorem de_55 : dq_ok (47, dq_z (.laload)) := dq_z_ok 47 rfl (fun c p s h => (dk_u1 h _).trans rfl)
theorem de_56 : dq_ok (130, dq_z (.ixor)) := dq_z_ok 130 rfl (fun c p s h => (dk_u1 h _).trans rfl)
theorem de_57 : dq_ok (33, dq_z (.lload_n 3)) := dq_z_ok 33 rfl (fun c p s h => (dk_u1 h _).trans rfl)
theorem de_58 : dq_ok (148, dq_z (.lcmp)) := dq_z_ok 148 rfl (fun c p s h => (dk_u1 h _).trans rfl)
theorem de_59 : dq_ok (32, dq_z (.lload_n 2)) := dq_z_ok 32 rfl (fun c p s h => (dk_u1 h _).trans rfl)
theorem de_60 : dq_ok (80, dq_z (.lastore)) := dq_z_ok 80 rfl (fun c p s h => (dk_u1 h _).trans rfl)
theorem de_61 : dq_ok (10, dq_z (.lconst 1)) := dq_z_ok 10 rfl (fun c p s h => (dk_u1 h _).trans rfl)
theorem de_62 : dq_ok (127, dq_z (.land)) := dq_z_ok 127 rfl (fun c p s h => (dk_u1 h _).trans rfl)
theorem de_63 : dq_ok (66, dq_z (.lstore_n 3)) := dq_z_ok 66 rfl (fun c p s h => (dk_u1 h _).trans rfl)
theorem de_64 : dq_ok (187, dq_2 (fun a => .new a)) := dq_2_ok 187 rfl (fun c p x y s h => (dk_u1 h _).trans ((dk_u2 (dk_tl h) (fun a => pure (Instr.new a))).trans rfl))
theorem de_65 : dq_ok (122, dq_z (.ishr)) := dq_z_ok 122 rfl (fun c p s h => (dk_u1 h _).trans rfl)
theorem de_66 : dq_ok (124, dq_z (.iushr)) := dq_z_ok 124 rfl (fun c p s h => (dk_u1 h _).trans rfl)
theorem de_67 : dq_ok (31, dq_z (.lload_n 1)) := dq_z_ok 31 rfl (fun c p s h => (dk_u1 h _).trans rfl)
theorem de_68 : dq_ok (136, dq_z (.l2i)) := dq_z_ok 136 rfl (fun c p s h => (dk_u1 h _).trans rfl)
theorem de_69 : dq_ok (22, dq_1 (fun a => .lload a)) := dq_1_ok 22 rfl (fun c p x s h => (dk_u1 h _).trans ((dk_u1 (dk_tl h) (fun a => pure (Instr.lload a))).trans rfl))
theorem de_70 : dq_ok (88, dq_z (.pop2)) := dq_z_ok 88 rfl (fun c p s h => (dk_u1 h _).trans rfl)
theorem de_71 : dq_ok (51, dq_z (.baload)) := dq_z_ok 51 rfl (fun c p s h => (dk_u1 h _).trans rfl)
theorem de_72 : dq_ok (59, dq_z (.istore_n 0)) := dq_z_ok 59 rfl (fun c p s h => (dk_u1 h _).trans rfl)
theorem de_73 : dq_ok (190, dq_z (.arraylength)) := dq_z_ok 190 rfl (fun c p s h => (dk_u1 h _).trans rfl)
theorem de_74 : dq_ok (65, dq_z (.lstore_n 2)) := dq_z_ok 65 rfl (fun c p s h => (dk_u1 h _).trans rfl)
theorem de_75 : dq_ok (8, dq_z (.iconst 5)) := dq_z_ok 8 rfl (fun c p s h => (dk_u1 h _).trans rfl)
theorem de_76 : dq_ok (84, dq_z (.bastore)) := dq_z_ok 84 rfl (fun c p s h => (dk_u1 h _).trans rfl)
theorem de_77 : dq_ok (19, dq_2 (fun a => .ldc_w a)) := dq_2_ok 19 rfl (fun c p x y s h => (dk_u1 h _).trans ((dk_u2 (dk_tl h) (fun a => pure (Instr.ldc_w a))).trans rfl))
theorem de_78 : dq_ok (55, dq_1 (fun a => .lstore a)) := dq_1_ok 55 rfl (fun c p x s h => (dk_u1 h _).trans ((dk_u1 (dk_tl h) (fun a => pure (Instr.lstore a))).trans rfl))
theorem de_79 : dq_ok (129, dq_z (.lor)) := dq_z_ok 129 rfl (fun c p s h => (dk_u1 h _).trans rfl)
theorem de_80 : dq_ok (158, dq_2 (fun a => .ifCond .le (Jvm.ClassFile.Reader.signed 16 a))) := dq_2_ok 158 rfl (fun c p x y s h => (dk_u1 h _).trans ((dk_s2 (dk_tl h) (fun a => pure (Instr.ifCond .le a))).trans rfl))
theorem de_81 : dq_ok (108, dq_z (.idiv)) := dq_z_ok 108 rfl (fun c p s h => (dk_u1 h _).trans rfl)
theorem de_82 : dq_ok (112, dq_z (.irem)) := dq_z_ok 112 rfl (fun c p s h => (dk_u1 h _).trans rfl)
theorem de_83 : dq_ok (178, dq_2 (fun a => .getstatic a)) := dq_2_ok 178 rfl (fun c p x y s h => (dk_u1 h _).trans ((dk_u2 (dk_tl h) (fun a => pure (Instr.getstatic a))).trans rfl))
theorem de_84 : dq_ok (121, dq_z (.lshl)) := dq_z_ok 121 rfl (fun c p s h => (dk_u1 h _).trans rfl)
theorem de_85 : dq_ok (92, dq_z (.dup2)) := dq_z_ok 92 rfl (fun c p s h => (dk_u1 h _).trans rfl)
theorem de_86 : dq_ok (145, dq_z (.i2b)) := dq_z_ok 145 rfl (fun c p s h => (dk_u1 h _).trans rfl)
theorem de_87 : dq_ok (147, dq_z (.i2s)) := dq_z_ok 147 rfl (fun c p s h => (dk_u1 h _).trans rfl)
theorem de_88 : dq_ok (131, dq_z (.lxor)) := dq_z_ok 131 rfl (fun c p s h => (dk_u1 h _).trans rfl)
theorem de_89 : dq_ok (113, dq_z (.lrem)) := dq_z_ok 113 rfl (fun c p s h => (dk_u1 h _).trans rfl)
theorem de_90 : dq_ok (109, dq_z (.ldiv)) := dq_z_ok 109 rfl (fun c p s h => (dk_u1 h _).trans rfl)
theorem de_91 : dq_ok (30, dq_z (.lload_n 0)) := dq_z_ok 30 rfl (fun c p s h => (dk_u1 h _).trans rfl)
theorem de_92 : dq_ok (125, dq_z (.lushr)) := dq_z_ok 125 rfl (fun c p s h => (dk_u1 h _).trans rfl)
theorem de_93 : dq_ok (189, dq_2 (fun a => .anewarray a)) := dq_2_ok 189 rfl (fun c p x y s h => (dk_u1 h _).trans ((dk_u2 (dk_tl h) (fun a => pure (Instr.anewarray a))).trans rfl))
theorem de_94 : dq_ok (83, dq_z (.aastore)) := dq_z_ok 83 rfl (fun c p s h => (dk_u1 h _).trans rfl)
theorem de_95 : dq_ok (97, dq_z (.ladd)) := dq_z_ok 97 rfl (fun c p s h => (dk_u1 h _).trans rfl)
theorem de_96 : dq_ok (157, dq_2 (fun a => .ifCond .gt (Jvm.ClassFile.Reader.signed 16 a))) := dq_2_ok 157 rfl (fun c p x y s h => (dk_u1 h _).trans ((dk_s2 (dk_tl h) (fun a => pure (Instr.ifCond .gt a))).trans rfl))
theorem de_97 : dq_ok (76, dq_z (.astore_n 1)) := dq_z_ok 76 rfl (fun c p s h => (dk_u1 h _).trans rfl)
theorem de_98 : dq_ok (77, dq_z (.astore_n 2)) := dq_z_ok 77 rfl (fun c p s h => (dk_u1 h _).trans rfl)
def dtab : List (Nat × (List UInt8 → Option (Instr × Nat))) := [(42, dq_z (.aload_n 0)), (182, dq_2 (fun a => .invokevirtual a)), (180, dq_2 (fun a => .getfield a)), (27, dq_z (.iload_n 1)), (167, dq_2 (fun a => .goto (Jvm.ClassFile.Reader.signed 16 a))), (172, dq_z (.ireturn)), (29, dq_z (.iload_n 3)), (4, dq_z (.iconst 1)), (21, dq_1 (fun a => .iload a)), (28, dq_z (.iload_n 2)), (3, dq_z (.iconst 0)), (46, dq_z (.iaload)), (96, dq_z (.iadd)), (16, dq_1 (fun a => .bipush (Jvm.ClassFile.Reader.signed 8 a))), (153, dq_2 (fun a => .ifCond .eq (Jvm.ClassFile.Reader.signed 16 a))), (162, dq_2 (fun a => .if_icmp .ge (Jvm.ClassFile.Reader.signed 16 a))), (184, dq_2 (fun a => .invokestatic a)), (54, dq_1 (fun a => .istore a)), (18, dq_1 (fun a => .ldc a)), (132, dq_i), (62, dq_z (.istore_n 3)), (61, dq_z (.istore_n 2)), (87, dq_z (.pop)), (181, dq_2 (fun a => .putfield a)), (154, dq_2 (fun a => .ifCond .ne (Jvm.ClassFile.Reader.signed 16 a))), (160, dq_2 (fun a => .if_icmp .ne (Jvm.ClassFile.Reader.signed 16 a))), (43, dq_z (.aload_n 1)), (133, dq_z (.i2l)), (2, dq_z (.iconst (-1))), (17, dq_2 (fun a => .sipush (Jvm.ClassFile.Reader.signed 16 a))), (5, dq_z (.iconst 2)), (79, dq_z (.iastore)), (44, dq_z (.aload_n 2)), (126, dq_z (.iand)), (100, dq_z (.isub)), (60, dq_z (.istore_n 1)), (20, dq_2 (fun a => .ldc2_w a)), (26, dq_z (.iload_n 0)), (9, dq_z (.lconst 0)), (155, dq_2 (fun a => .ifCond .lt (Jvm.ClassFile.Reader.signed 16 a))), (173, dq_z (.lreturn)), (89, dq_z (.dup)), (159, dq_2 (fun a => .if_icmp .eq (Jvm.ClassFile.Reader.signed 16 a))), (156, dq_2 (fun a => .ifCond .ge (Jvm.ClassFile.Reader.signed 16 a))), (104, dq_z (.imul)), (120, dq_z (.ishl)), (7, dq_z (.iconst 4)), (177, dq_z (.return_)), (164, dq_2 (fun a => .if_icmp .le (Jvm.ClassFile.Reader.signed 16 a))), (128, dq_z (.ior)), (50, dq_z (.aaload)), (6, dq_z (.iconst 3)), (163, dq_2 (fun a => .if_icmp .gt (Jvm.ClassFile.Reader.signed 16 a))), (161, dq_2 (fun a => .if_icmp .lt (Jvm.ClassFile.Reader.signed 16 a))), (183, dq_2 (fun a => .invokespecial a)), (47, dq_z (.laload)), (130, dq_z (.ixor)), (33, dq_z (.lload_n 3)), (148, dq_z (.lcmp)), (32, dq_z (.lload_n 2)), (80, dq_z (.lastore)), (10, dq_z (.lconst 1)), (127, dq_z (.land)), (66, dq_z (.lstore_n 3)), (187, dq_2 (fun a => .new a)), (122, dq_z (.ishr)), (124, dq_z (.iushr)), (31, dq_z (.lload_n 1)), (136, dq_z (.l2i)), (22, dq_1 (fun a => .lload a)), (88, dq_z (.pop2)), (51, dq_z (.baload)), (59, dq_z (.istore_n 0)), (190, dq_z (.arraylength)), (65, dq_z (.lstore_n 2)), (8, dq_z (.iconst 5)), (84, dq_z (.bastore)), (19, dq_2 (fun a => .ldc_w a)), (55, dq_1 (fun a => .lstore a)), (129, dq_z (.lor)), (158, dq_2 (fun a => .ifCond .le (Jvm.ClassFile.Reader.signed 16 a))), (108, dq_z (.idiv)), (112, dq_z (.irem)), (178, dq_2 (fun a => .getstatic a)), (121, dq_z (.lshl)), (92, dq_z (.dup2)), (145, dq_z (.i2b)), (147, dq_z (.i2s)), (131, dq_z (.lxor)), (113, dq_z (.lrem)), (109, dq_z (.ldiv)), (30, dq_z (.lload_n 0)), (125, dq_z (.lushr)), (189, dq_2 (fun a => .anewarray a)), (83, dq_z (.aastore)), (97, dq_z (.ladd)), (157, dq_2 (fun a => .ifCond .gt (Jvm.ClassFile.Reader.signed 16 a))), (76, dq_z (.astore_n 1)), (77, dq_z (.astore_n 2))]
theorem dtab_ok : ∀ q ∈ dtab, dq_ok q := List.forall_mem_cons.mpr ⟨de_0, List.forall_mem_cons.mpr ⟨de_1, List.forall_mem_cons.mpr ⟨de_2, List.forall_mem_cons.mpr ⟨de_3, List.forall_mem_cons.mpr ⟨de_4, List.forall_mem_cons.mpr ⟨de_5, List.forall_mem_cons.mpr ⟨de_6, List.forall_mem_cons.mpr ⟨de_7, List.forall_mem_cons.mpr ⟨de_8, List.forall_mem_cons.mpr ⟨de_9, List.forall_mem_cons.mpr ⟨de_10, List.forall_mem_cons.mpr ⟨de_11, List.forall_mem_cons.mpr ⟨de_12, List.forall_mem_cons.mpr ⟨de_13, List.forall_mem_cons.mpr ⟨de_14, List.forall_mem_cons.mpr ⟨de_15, List.forall_mem_cons.mpr ⟨de_16, List.forall_mem_cons.mpr ⟨de_17, List.forall_mem_cons.mpr ⟨de_18, List.forall_mem_cons.mpr ⟨de_19, List.forall_mem_cons.mpr ⟨de_20, List.forall_mem_cons.mpr ⟨de_21, List.forall_mem_cons.mpr ⟨de_22, List.forall_mem_cons.mpr ⟨de_23, List.forall_mem_cons.mpr ⟨de_24, List.forall_mem_cons.mpr ⟨de_25, List.forall_mem_cons.mpr ⟨de_26, List.forall_mem_cons.mpr ⟨de_27, List.forall_mem_cons.mpr ⟨de_28, List.forall_mem_cons.mpr ⟨de_29, List.forall_mem_cons.mpr ⟨de_30, List.forall_mem_cons.mpr ⟨de_31, List.forall_mem_cons.mpr ⟨de_32, List.forall_mem_cons.mpr ⟨de_33, List.forall_mem_cons.mpr ⟨de_34, List.forall_mem_cons.mpr ⟨de_35, List.forall_mem_cons.mpr ⟨de_36, List.forall_mem_cons.mpr ⟨de_37, List.forall_mem_cons.mpr ⟨de_38, List.forall_mem_cons.mpr ⟨de_39, List.forall_mem_cons.mpr ⟨de_40, List.forall_mem_cons.mpr ⟨de_41, List.forall_mem_cons.mpr ⟨de_42, List.forall_mem_cons.mpr ⟨de_43, List.forall_mem_cons.mpr ⟨de_44, List.forall_mem_cons.mpr ⟨de_45, List.forall_mem_cons.mpr ⟨de_46, List.forall_mem_cons.mpr ⟨de_47, List.forall_mem_cons.mpr ⟨de_48, List.forall_mem_cons.mpr ⟨de_49, List.forall_mem_cons.mpr ⟨de_50, List.forall_mem_cons.mpr ⟨de_51, List.forall_mem_cons.mpr ⟨de_52, List.forall_mem_cons.mpr ⟨de_53, List.forall_mem_cons.mpr ⟨de_54, List.forall_mem_cons.mpr ⟨de_55, List.forall_mem_cons.mpr ⟨de_56, List.forall_mem_cons.mpr ⟨de_57, List.forall_mem_cons.mpr ⟨de_58, List.forall_mem_cons.mpr ⟨de_59, List.forall_mem_cons.mpr ⟨de_60, List.forall_mem_cons.mpr ⟨de_61, List.forall_mem_cons.mpr ⟨de_62, List.forall_mem_cons.mpr ⟨de_63, List.forall_mem_cons.mpr ⟨de_64, List.forall_mem_cons.mpr ⟨de_65, List.forall_mem_cons.mpr ⟨de_66, List.forall_mem_cons.mpr ⟨de_67, List.forall_mem_cons.mpr ⟨de_68, List.forall_mem_cons.mpr ⟨de_69, List.forall_mem_cons.mpr ⟨de_70, List.forall_mem_cons.mpr ⟨de_71, List.forall_mem_cons.mpr ⟨de_72, List.forall_mem_cons.mpr ⟨de_73, List.forall_mem_cons.mpr ⟨de_74, List.forall_mem_cons.mpr ⟨de_75, List.forall_mem_cons.mpr ⟨de_76, List.forall_mem_cons.mpr ⟨de_77, List.forall_mem_cons.mpr ⟨de_78, List.forall_mem_cons.mpr ⟨de_79, List.forall_mem_cons.mpr ⟨de_80, List.forall_mem_cons.mpr ⟨de_81, List.forall_mem_cons.mpr ⟨de_82, List.forall_mem_cons.mpr ⟨de_83, List.forall_mem_cons.mpr ⟨de_84, List.forall_mem_cons.mpr ⟨de_85, List.forall_mem_cons.mpr ⟨de_86, List.forall_mem_cons.mpr ⟨de_87, List.forall_mem_cons.mpr ⟨de_88, List.forall_mem_cons.mpr ⟨de_89, List.forall_mem_cons.mpr ⟨de_90, List.forall_mem_cons.mpr ⟨de_91, List.forall_mem_cons.mpr ⟨de_92, List.forall_mem_cons.mpr ⟨de_93, List.forall_mem_cons.mpr ⟨de_94, List.forall_mem_cons.mpr ⟨de_95, List.forall_mem_cons.mpr ⟨de_96, List.forall_mem_cons.mpr ⟨de_97, List.forall_mem_cons.mpr ⟨de_98, fun _ h => absurd h List.not_mem_nil⟩⟩⟩⟩⟩⟩⟩⟩⟩⟩⟩⟩⟩⟩⟩⟩⟩⟩⟩⟩⟩⟩⟩⟩⟩⟩⟩⟩⟩⟩⟩⟩⟩⟩⟩⟩⟩⟩⟩⟩⟩⟩⟩⟩⟩⟩⟩⟩⟩⟩⟩⟩⟩⟩⟩⟩⟩⟩⟩⟩⟩⟩⟩⟩⟩⟩⟩⟩⟩⟩⟩⟩⟩⟩⟩⟩⟩⟩⟩⟩⟩⟩⟩⟩⟩⟩⟩⟩⟩⟩⟩⟩⟩⟩⟩⟩⟩⟩⟩
def dchk : List (Nat × Instr × Nat) → List UInt8 → Nat → Bool
  | [], _, _ => true
  | x :: r, s, q => match s.drop (x.1 - q) with
    | [] => false
    | b :: t => Nat.ble q x.1 && (decide (dlk dtab b.toNat t = some x.2) && dchk r (b :: t) x.1)
theorem dchk_ok : ∀ (l : List (Nat × Instr × Nat)) (c : ByteArray) (s : List UInt8) (q : Nat), c.data.toList.drop q = s → dchk l s q = true → ∀ x ∈ l, decode c x.1 = .ok x.2
  | [], _, _, _, _, _, _, hx => absurd hx List.not_mem_nil
  | y :: r, c, s, q, hs, h, x, hx => by
    unfold dchk at h
    cases e : s.drop (y.1 - q) with
    | nil => rw [e] at h; cases h
    | cons b t =>
      rw [e] at h
      simp only [Bool.and_eq_true, decide_eq_true_eq] at h
      obtain ⟨h1, h2, h3⟩ := h
      have hle : q ≤ y.1 := Nat.le_of_ble_eq_true h1
      have hd : c.data.toList.drop y.1 = b :: t := by
        rw [← e, ← hs, List.drop_drop]
        congr 1
        omega
      rcases List.mem_cons.mp hx with rfl | hx
      · exact dlk_ok dtab dtab_ok c _ b t _ hd h2
      · exact dchk_ok r c (b :: t) y.1 hd h3 x hx
def dgrp (c : ByteArray) (l : List (Nat × Instr × Nat)) : Bool := match l with
  | [] => true
  | x :: _ => dchk l (c.data.toList.drop x.1) x.1
theorem dgrp_at {c : ByteArray} {l : List (Nat × Instr × Nat)} (h : dgrp c l = true) (i : Nat) {p : Nat} {r : Instr × Nat} (e : l[i]? = some (p, r)) : decode c p = .ok r := by
  have hm := List.mem_of_getElem? e
  cases l with
  | nil => cases hm
  | cons x l => exact dchk_ok (x :: l) c _ x.1 rfl h (p, r) hm
end
