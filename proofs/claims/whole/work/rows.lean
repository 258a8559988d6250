section
-- ===== PART A: goes FIRST, ahead of the names: the tables' words, and 'selects' of the private methods out of them =====
/-- a private method of a class that the tables say can be made, by its rows of tables_1 -/
def lw_okq (q : MethodName × Nat) : Prop := (q.1.cls ≠ "java/lang/invoke/MethodHandle" ∧ q.1.cls ≠ "java/lang/invoke/VarHandle") ∧ Cond.instantiable q.1.cls q.2 ∈ tables_1 ∧ Cond.privateMethod q.1 ∈ tables_1 ∧ Cond.instanceMethod q.1 ∈ tables_1
theorem lw_p0 : lw_okq (⟨"GcdMill", "isRegister", "(I)Z"⟩, 14) := ⟨⟨by decide +kernel, by decide +kernel⟩, List.mem_of_getElem? (i := 22) (by decide +kernel), List.mem_of_getElem? (i := 361) (by decide +kernel), List.mem_of_getElem? (i := 362) (by decide +kernel)⟩
theorem lw_p1 : lw_okq (⟨"GcdMill", "put", "(ILGcdMill$Whole;)I"⟩, 14) := ⟨⟨by decide +kernel, by decide +kernel⟩, List.mem_of_getElem? (i := 22) (by decide +kernel), List.mem_of_getElem? (i := 382) (by decide +kernel), List.mem_of_getElem? (i := 383) (by decide +kernel)⟩
theorem lw_p2 : lw_okq (⟨"GcdMill", "areRegisters", "(II)Z"⟩, 14) := ⟨⟨by decide +kernel, by decide +kernel⟩, List.mem_of_getElem? (i := 22) (by decide +kernel), List.mem_of_getElem? (i := 401) (by decide +kernel), List.mem_of_getElem? (i := 402) (by decide +kernel)⟩
theorem lw_p3 : lw_okq (⟨"GcdMill", "areRegisters", "(III)Z"⟩, 14) := ⟨⟨by decide +kernel, by decide +kernel⟩, List.mem_of_getElem? (i := 22) (by decide +kernel), List.mem_of_getElem? (i := 409) (by decide +kernel), List.mem_of_getElem? (i := 410) (by decide +kernel)⟩
theorem lw_p4 : lw_okq (⟨"GcdMill$Divider", "splitByLimb", "(LGcdMill$Whole;LGcdMill$Whole;I)I"⟩, 1) := ⟨⟨by decide +kernel, by decide +kernel⟩, List.mem_of_getElem? (i := 78) (by decide +kernel), List.mem_of_getElem? (i := 447) (by decide +kernel), List.mem_of_getElem? (i := 448) (by decide +kernel)⟩
theorem lw_p5 : lw_okq (⟨"GcdMill$Divider", "quotientLimb", "([III)I"⟩, 1) := ⟨⟨by decide +kernel, by decide +kernel⟩, List.mem_of_getElem? (i := 78) (by decide +kernel), List.mem_of_getElem? (i := 462) (by decide +kernel), List.mem_of_getElem? (i := 463) (by decide +kernel)⟩
theorem lw_p6 : lw_okq (⟨"GcdMill$Divider", "takeAway", "([IIIJ)Z"⟩, 1) := ⟨⟨by decide +kernel, by decide +kernel⟩, List.mem_of_getElem? (i := 78) (by decide +kernel), List.mem_of_getElem? (i := 473) (by decide +kernel), List.mem_of_getElem? (i := 474) (by decide +kernel)⟩
theorem lw_p7 : lw_okq (⟨"GcdMill$Divider", "giveBack", "([III)V"⟩, 1) := ⟨⟨by decide +kernel, by decide +kernel⟩, List.mem_of_getElem? (i := 78) (by decide +kernel), List.mem_of_getElem? (i := 477) (by decide +kernel), List.mem_of_getElem? (i := 478) (by decide +kernel)⟩
theorem lw_p8 : lw_okq (⟨"GcdMill", "halve", "(LGcdMill$Whole;J)V"⟩, 14) := ⟨⟨by decide +kernel, by decide +kernel⟩, List.mem_of_getElem? (i := 22) (by decide +kernel), List.mem_of_getElem? (i := 494) (by decide +kernel), List.mem_of_getElem? (i := 495) (by decide +kernel)⟩
theorem lw_p9 : lw_okq (⟨"GcdMill$Divisors", "begin", "(LGcdMill$Whole;LGcdMill$Whole;)V"⟩, 5) := ⟨⟨by decide +kernel, by decide +kernel⟩, List.mem_of_getElem? (i := 90) (by decide +kernel), List.mem_of_getElem? (i := 525) (by decide +kernel), List.mem_of_getElem? (i := 526) (by decide +kernel)⟩
theorem lw_p10 : lw_okq (⟨"GcdMill$Lehmer", "findCofactors", "()V"⟩, 11) := ⟨⟨by decide +kernel, by decide +kernel⟩, List.mem_of_getElem? (i := 114) (by decide +kernel), List.mem_of_getElem? (i := 557) (by decide +kernel), List.mem_of_getElem? (i := 558) (by decide +kernel)⟩
theorem lw_p11 : lw_okq (⟨"GcdMill$Lehmer", "takeStep", "()V"⟩, 11) := ⟨⟨by decide +kernel, by decide +kernel⟩, List.mem_of_getElem? (i := 114) (by decide +kernel), List.mem_of_getElem? (i := 563) (by decide +kernel), List.mem_of_getElem? (i := 564) (by decide +kernel)⟩
theorem lw_p12 : lw_okq (⟨"GcdMill$Lehmer", "combineBoth", "()V"⟩, 11) := ⟨⟨by decide +kernel, by decide +kernel⟩, List.mem_of_getElem? (i := 114) (by decide +kernel), List.mem_of_getElem? (i := 568) (by decide +kernel), List.mem_of_getElem? (i := 569) (by decide +kernel)⟩
theorem lw_p13 : lw_okq (⟨"GcdMill$Lehmer", "combine", "(LGcdMill$Whole;JJ)V"⟩, 11) := ⟨⟨by decide +kernel, by decide +kernel⟩, List.mem_of_getElem? (i := 114) (by decide +kernel), List.mem_of_getElem? (i := 572) (by decide +kernel), List.mem_of_getElem? (i := 573) (by decide +kernel)⟩
theorem lw_p14 : lw_okq (⟨"GcdMill$Factors", "turnOnce", "()V"⟩, 10) := ⟨⟨by decide +kernel, by decide +kernel⟩, List.mem_of_getElem? (i := 157) (by decide +kernel), List.mem_of_getElem? (i := 598) (by decide +kernel), List.mem_of_getElem? (i := 599) (by decide +kernel)⟩
theorem lw_p15 : lw_okq (⟨"GcdMill$Factors", "addMultiple", "(LGcdMill$Whole;LGcdMill$Whole;)V"⟩, 10) := ⟨⟨by decide +kernel, by decide +kernel⟩, List.mem_of_getElem? (i := 157) (by decide +kernel), List.mem_of_getElem? (i := 603) (by decide +kernel), List.mem_of_getElem? (i := 604) (by decide +kernel)⟩
def lw_privs_1 : List (MethodName × Nat) := [(⟨"GcdMill", "isRegister", "(I)Z"⟩, 14), (⟨"GcdMill", "put", "(ILGcdMill$Whole;)I"⟩, 14), (⟨"GcdMill", "areRegisters", "(II)Z"⟩, 14), (⟨"GcdMill", "areRegisters", "(III)Z"⟩, 14), (⟨"GcdMill$Divider", "splitByLimb", "(LGcdMill$Whole;LGcdMill$Whole;I)I"⟩, 1), (⟨"GcdMill$Divider", "quotientLimb", "([III)I"⟩, 1), (⟨"GcdMill$Divider", "takeAway", "([IIIJ)Z"⟩, 1), (⟨"GcdMill$Divider", "giveBack", "([III)V"⟩, 1), (⟨"GcdMill", "halve", "(LGcdMill$Whole;J)V"⟩, 14), (⟨"GcdMill$Divisors", "begin", "(LGcdMill$Whole;LGcdMill$Whole;)V"⟩, 5), (⟨"GcdMill$Lehmer", "findCofactors", "()V"⟩, 11), (⟨"GcdMill$Lehmer", "takeStep", "()V"⟩, 11), (⟨"GcdMill$Lehmer", "combineBoth", "()V"⟩, 11), (⟨"GcdMill$Lehmer", "combine", "(LGcdMill$Whole;JJ)V"⟩, 11), (⟨"GcdMill$Factors", "turnOnce", "()V"⟩, 10), (⟨"GcdMill$Factors", "addMultiple", "(LGcdMill$Whole;LGcdMill$Whole;)V"⟩, 10)]
theorem lw_r1 : ∀ q ∈ lw_privs_1, lw_okq q := List.forall_mem_cons.mpr ⟨lw_p0, List.forall_mem_cons.mpr ⟨lw_p1, List.forall_mem_cons.mpr ⟨lw_p2, List.forall_mem_cons.mpr ⟨lw_p3, List.forall_mem_cons.mpr ⟨lw_p4, List.forall_mem_cons.mpr ⟨lw_p5, List.forall_mem_cons.mpr ⟨lw_p6, List.forall_mem_cons.mpr ⟨lw_p7, List.forall_mem_cons.mpr ⟨lw_p8, List.forall_mem_cons.mpr ⟨lw_p9, List.forall_mem_cons.mpr ⟨lw_p10, List.forall_mem_cons.mpr ⟨lw_p11, List.forall_mem_cons.mpr ⟨lw_p12, List.forall_mem_cons.mpr ⟨lw_p13, List.forall_mem_cons.mpr ⟨lw_p14, List.forall_mem_cons.mpr ⟨lw_p15, fun _ h => absurd h List.not_mem_nil⟩⟩⟩⟩⟩⟩⟩⟩⟩⟩⟩⟩⟩⟩⟩⟩
theorem lw_p16 : lw_okq (⟨"GcdMill$Residues", "timesInto", "(LGcdMill$Whole;LGcdMill$Whole;LGcdMill$Whole;)V"⟩, 8) := ⟨⟨by decide +kernel, by decide +kernel⟩, List.mem_of_getElem? (i := 199) (by decide +kernel), List.mem_of_getElem? (i := 636) (by decide +kernel), List.mem_of_getElem? (i := 637) (by decide +kernel)⟩
theorem lw_p17 : lw_okq (⟨"GcdMill$Roots", "guessWithBit", "(I)V"⟩, 9) := ⟨⟨by decide +kernel, by decide +kernel⟩, List.mem_of_getElem? (i := 232) (by decide +kernel), List.mem_of_getElem? (i := 656) (by decide +kernel), List.mem_of_getElem? (i := 657) (by decide +kernel)⟩
theorem lw_p18 : lw_okq (⟨"GcdMill$Roots", "raiseUpTo", "(LGcdMill$Whole;ILGcdMill$Whole;)Z"⟩, 9) := ⟨⟨by decide +kernel, by decide +kernel⟩, List.mem_of_getElem? (i := 232) (by decide +kernel), List.mem_of_getElem? (i := 662) (by decide +kernel), List.mem_of_getElem? (i := 663) (by decide +kernel)⟩
theorem lw_p19 : lw_okq (⟨"GcdMill$Roots", "stepDown", "(LGcdMill$Whole;I)Z"⟩, 9) := ⟨⟨by decide +kernel, by decide +kernel⟩, List.mem_of_getElem? (i := 232) (by decide +kernel), List.mem_of_getElem? (i := 670) (by decide +kernel), List.mem_of_getElem? (i := 671) (by decide +kernel)⟩
theorem lw_p20 : lw_okq (⟨"GcdMill$Tape", "firstDigit", "()I"⟩, 2) := ⟨⟨by decide +kernel, by decide +kernel⟩, List.mem_of_getElem? (i := 277) (by decide +kernel), List.mem_of_getElem? (i := 722) (by decide +kernel), List.mem_of_getElem? (i := 723) (by decide +kernel)⟩
theorem lw_p21 : lw_okq (⟨"GcdMill$Tape", "hasMinus", "()Z"⟩, 2) := ⟨⟨by decide +kernel, by decide +kernel⟩, List.mem_of_getElem? (i := 277) (by decide +kernel), List.mem_of_getElem? (i := 726) (by decide +kernel), List.mem_of_getElem? (i := 727) (by decide +kernel)⟩
theorem lw_p22 : lw_okq (⟨"GcdMill", "registerOrThrow", "(I)LGcdMill$Whole;"⟩, 14) := ⟨⟨by decide +kernel, by decide +kernel⟩, List.mem_of_getElem? (i := 22) (by decide +kernel), List.mem_of_getElem? (i := 761) (by decide +kernel), List.mem_of_getElem? (i := 762) (by decide +kernel)⟩
theorem lw_p23 : lw_okq (⟨"java/lang/Throwable", "fillInStackTrace", "(I)Ljava/lang/Throwable;"⟩, 6) := ⟨⟨by decide +kernel, by decide +kernel⟩, List.mem_of_getElem? (i := 801) (by decide +kernel), List.mem_of_getElem? (i := 799) (by decide +kernel), List.mem_of_getElem? (i := 800) (by decide +kernel)⟩
theorem lw_p24 : lw_okq (⟨"GcdMill$Out", "takeChunk", "()I"⟩, 3) := ⟨⟨by decide +kernel, by decide +kernel⟩, List.mem_of_getElem? (i := 292) (by decide +kernel), List.mem_of_getElem? (i := 857) (by decide +kernel), List.mem_of_getElem? (i := 858) (by decide +kernel)⟩
theorem lw_p25 : lw_okq (⟨"GcdMill$Out", "appendChunk", "(I)V"⟩, 3) := ⟨⟨by decide +kernel, by decide +kernel⟩, List.mem_of_getElem? (i := 292) (by decide +kernel), List.mem_of_getElem? (i := 864) (by decide +kernel), List.mem_of_getElem? (i := 865) (by decide +kernel)⟩
theorem lw_p26 : lw_okq (⟨"GcdMill$Out", "append", "(I)V"⟩, 3) := ⟨⟨by decide +kernel, by decide +kernel⟩, List.mem_of_getElem? (i := 292) (by decide +kernel), List.mem_of_getElem? (i := 868) (by decide +kernel), List.mem_of_getElem? (i := 869) (by decide +kernel)⟩
theorem lw_p27 : lw_okq (⟨"GcdMill$Out", "turnRound", "()V"⟩, 3) := ⟨⟨by decide +kernel, by decide +kernel⟩, List.mem_of_getElem? (i := 292) (by decide +kernel), List.mem_of_getElem? (i := 872) (by decide +kernel), List.mem_of_getElem? (i := 873) (by decide +kernel)⟩
theorem lw_p28 : lw_okq (⟨"GcdMillModel", "no", "(I)Z"⟩, 11) := ⟨⟨by decide +kernel, by decide +kernel⟩, List.mem_of_getElem? (i := 876) (by decide +kernel), List.mem_of_getElem? (i := 924) (by decide +kernel), List.mem_of_getElem? (i := 925) (by decide +kernel)⟩
theorem lw_p29 : lw_okq (⟨"GcdMillModel", "trim", "(III)V"⟩, 11) := ⟨⟨by decide +kernel, by decide +kernel⟩, List.mem_of_getElem? (i := 876) (by decide +kernel), List.mem_of_getElem? (i := 929) (by decide +kernel), List.mem_of_getElem? (i := 930) (by decide +kernel)⟩
theorem lw_p30 : lw_okq (⟨"GcdMillModel", "put", "(II)I"⟩, 11) := ⟨⟨by decide +kernel, by decide +kernel⟩, List.mem_of_getElem? (i := 876) (by decide +kernel), List.mem_of_getElem? (i := 933) (by decide +kernel), List.mem_of_getElem? (i := 934) (by decide +kernel)⟩
theorem lw_p31 : lw_okq (⟨"GcdMillModel", "fits", "(I)Z"⟩, 11) := ⟨⟨by decide +kernel, by decide +kernel⟩, List.mem_of_getElem? (i := 876) (by decide +kernel), List.mem_of_getElem? (i := 937) (by decide +kernel), List.mem_of_getElem? (i := 938) (by decide +kernel)⟩
def lw_privs_2 : List (MethodName × Nat) := [(⟨"GcdMill$Residues", "timesInto", "(LGcdMill$Whole;LGcdMill$Whole;LGcdMill$Whole;)V"⟩, 8), (⟨"GcdMill$Roots", "guessWithBit", "(I)V"⟩, 9), (⟨"GcdMill$Roots", "raiseUpTo", "(LGcdMill$Whole;ILGcdMill$Whole;)Z"⟩, 9), (⟨"GcdMill$Roots", "stepDown", "(LGcdMill$Whole;I)Z"⟩, 9), (⟨"GcdMill$Tape", "firstDigit", "()I"⟩, 2), (⟨"GcdMill$Tape", "hasMinus", "()Z"⟩, 2), (⟨"GcdMill", "registerOrThrow", "(I)LGcdMill$Whole;"⟩, 14), (⟨"java/lang/Throwable", "fillInStackTrace", "(I)Ljava/lang/Throwable;"⟩, 6), (⟨"GcdMill$Out", "takeChunk", "()I"⟩, 3), (⟨"GcdMill$Out", "appendChunk", "(I)V"⟩, 3), (⟨"GcdMill$Out", "append", "(I)V"⟩, 3), (⟨"GcdMill$Out", "turnRound", "()V"⟩, 3), (⟨"GcdMillModel", "no", "(I)Z"⟩, 11), (⟨"GcdMillModel", "trim", "(III)V"⟩, 11), (⟨"GcdMillModel", "put", "(II)I"⟩, 11), (⟨"GcdMillModel", "fits", "(I)Z"⟩, 11)]
theorem lw_r2 : ∀ q ∈ lw_privs_2, lw_okq q := List.forall_mem_cons.mpr ⟨lw_p16, List.forall_mem_cons.mpr ⟨lw_p17, List.forall_mem_cons.mpr ⟨lw_p18, List.forall_mem_cons.mpr ⟨lw_p19, List.forall_mem_cons.mpr ⟨lw_p20, List.forall_mem_cons.mpr ⟨lw_p21, List.forall_mem_cons.mpr ⟨lw_p22, List.forall_mem_cons.mpr ⟨lw_p23, List.forall_mem_cons.mpr ⟨lw_p24, List.forall_mem_cons.mpr ⟨lw_p25, List.forall_mem_cons.mpr ⟨lw_p26, List.forall_mem_cons.mpr ⟨lw_p27, List.forall_mem_cons.mpr ⟨lw_p28, List.forall_mem_cons.mpr ⟨lw_p29, List.forall_mem_cons.mpr ⟨lw_p30, List.forall_mem_cons.mpr ⟨lw_p31, fun _ h => absurd h List.not_mem_nil⟩⟩⟩⟩⟩⟩⟩⟩⟩⟩⟩⟩⟩⟩⟩⟩
theorem lw_p32 : lw_okq (⟨"GcdMillModel", "copy", "(II)V"⟩, 11) := ⟨⟨by decide +kernel, by decide +kernel⟩, List.mem_of_getElem? (i := 876) (by decide +kernel), List.mem_of_getElem? (i := 941) (by decide +kernel), List.mem_of_getElem? (i := 942) (by decide +kernel)⟩
theorem lw_p33 : lw_okq (⟨"GcdMillModel", "small", "(II)V"⟩, 11) := ⟨⟨by decide +kernel, by decide +kernel⟩, List.mem_of_getElem? (i := 876) (by decide +kernel), List.mem_of_getElem? (i := 949) (by decide +kernel), List.mem_of_getElem? (i := 950) (by decide +kernel)⟩
theorem lw_p34 : lw_okq (⟨"GcdMillModel", "sum", "(IIII)V"⟩, 11) := ⟨⟨by decide +kernel, by decide +kernel⟩, List.mem_of_getElem? (i := 876) (by decide +kernel), List.mem_of_getElem? (i := 961) (by decide +kernel), List.mem_of_getElem? (i := 962) (by decide +kernel)⟩
theorem lw_p35 : lw_okq (⟨"GcdMillModel", "sizeSum", "(IIII)V"⟩, 11) := ⟨⟨by decide +kernel, by decide +kernel⟩, List.mem_of_getElem? (i := 876) (by decide +kernel), List.mem_of_getElem? (i := 965) (by decide +kernel), List.mem_of_getElem? (i := 966) (by decide +kernel)⟩
theorem lw_p36 : lw_okq (⟨"GcdMillModel", "get", "(II)I"⟩, 11) := ⟨⟨by decide +kernel, by decide +kernel⟩, List.mem_of_getElem? (i := 876) (by decide +kernel), List.mem_of_getElem? (i := 969) (by decide +kernel), List.mem_of_getElem? (i := 970) (by decide +kernel)⟩
theorem lw_p37 : lw_okq (⟨"GcdMillModel", "sizes", "(II)I"⟩, 11) := ⟨⟨by decide +kernel, by decide +kernel⟩, List.mem_of_getElem? (i := 876) (by decide +kernel), List.mem_of_getElem? (i := 973) (by decide +kernel), List.mem_of_getElem? (i := 974) (by decide +kernel)⟩
theorem lw_p38 : lw_okq (⟨"GcdMillModel", "sizeLess", "(IIII)V"⟩, 11) := ⟨⟨by decide +kernel, by decide +kernel⟩, List.mem_of_getElem? (i := 876) (by decide +kernel), List.mem_of_getElem? (i := 977) (by decide +kernel), List.mem_of_getElem? (i := 978) (by decide +kernel)⟩
theorem lw_p39 : lw_okq (⟨"GcdMillModel", "product", "(III)V"⟩, 11) := ⟨⟨by decide +kernel, by decide +kernel⟩, List.mem_of_getElem? (i := 876) (by decide +kernel), List.mem_of_getElem? (i := 989) (by decide +kernel), List.mem_of_getElem? (i := 990) (by decide +kernel)⟩
theorem lw_p40 : lw_okq (⟨"GcdMillModel", "divided", "(IIII)V"⟩, 11) := ⟨⟨by decide +kernel, by decide +kernel⟩, List.mem_of_getElem? (i := 876) (by decide +kernel), List.mem_of_getElem? (i := 998) (by decide +kernel), List.mem_of_getElem? (i := 999) (by decide +kernel)⟩
theorem lw_p41 : lw_okq (⟨"GcdMillModel", "quotient", "(IIII)V"⟩, 11) := ⟨⟨by decide +kernel, by decide +kernel⟩, List.mem_of_getElem? (i := 876) (by decide +kernel), List.mem_of_getElem? (i := 1002) (by decide +kernel), List.mem_of_getElem? (i := 1003) (by decide +kernel)⟩
theorem lw_p42 : lw_okq (⟨"GcdMillModel", "top", "(III)J"⟩, 11) := ⟨⟨by decide +kernel, by decide +kernel⟩, List.mem_of_getElem? (i := 876) (by decide +kernel), List.mem_of_getElem? (i := 1006) (by decide +kernel), List.mem_of_getElem? (i := 1007) (by decide +kernel)⟩
theorem lw_p43 : lw_okq (⟨"GcdMillModel", "bits", "(I)I"⟩, 11) := ⟨⟨by decide +kernel, by decide +kernel⟩, List.mem_of_getElem? (i := 876) (by decide +kernel), List.mem_of_getElem? (i := 1014) (by decide +kernel), List.mem_of_getElem? (i := 1015) (by decide +kernel)⟩
theorem lw_p44 : lw_okq (⟨"GcdMillModel", "doubled", "(III)V"⟩, 11) := ⟨⟨by decide +kernel, by decide +kernel⟩, List.mem_of_getElem? (i := 876) (by decide +kernel), List.mem_of_getElem? (i := 1019) (by decide +kernel), List.mem_of_getElem? (i := 1020) (by decide +kernel)⟩
theorem lw_p45 : lw_okq (⟨"GcdMillModel", "bit", "(II)Z"⟩, 11) := ⟨⟨by decide +kernel, by decide +kernel⟩, List.mem_of_getElem? (i := 876) (by decide +kernel), List.mem_of_getElem? (i := 1024) (by decide +kernel), List.mem_of_getElem? (i := 1025) (by decide +kernel)⟩
theorem lw_p46 : lw_okq (⟨"GcdMillModel", "halved", "(III)V"⟩, 11) := ⟨⟨by decide +kernel, by decide +kernel⟩, List.mem_of_getElem? (i := 876) (by decide +kernel), List.mem_of_getElem? (i := 1028) (by decide +kernel), List.mem_of_getElem? (i := 1029) (by decide +kernel)⟩
theorem lw_p47 : lw_okq (⟨"GcdMillModel", "simple", "(III)I"⟩, 11) := ⟨⟨by decide +kernel, by decide +kernel⟩, List.mem_of_getElem? (i := 876) (by decide +kernel), List.mem_of_getElem? (i := 1040) (by decide +kernel), List.mem_of_getElem? (i := 1041) (by decide +kernel)⟩
def lw_privs_3 : List (MethodName × Nat) := [(⟨"GcdMillModel", "copy", "(II)V"⟩, 11), (⟨"GcdMillModel", "small", "(II)V"⟩, 11), (⟨"GcdMillModel", "sum", "(IIII)V"⟩, 11), (⟨"GcdMillModel", "sizeSum", "(IIII)V"⟩, 11), (⟨"GcdMillModel", "get", "(II)I"⟩, 11), (⟨"GcdMillModel", "sizes", "(II)I"⟩, 11), (⟨"GcdMillModel", "sizeLess", "(IIII)V"⟩, 11), (⟨"GcdMillModel", "product", "(III)V"⟩, 11), (⟨"GcdMillModel", "divided", "(IIII)V"⟩, 11), (⟨"GcdMillModel", "quotient", "(IIII)V"⟩, 11), (⟨"GcdMillModel", "top", "(III)J"⟩, 11), (⟨"GcdMillModel", "bits", "(I)I"⟩, 11), (⟨"GcdMillModel", "doubled", "(III)V"⟩, 11), (⟨"GcdMillModel", "bit", "(II)Z"⟩, 11), (⟨"GcdMillModel", "halved", "(III)V"⟩, 11), (⟨"GcdMillModel", "simple", "(III)I"⟩, 11)]
theorem lw_r3 : ∀ q ∈ lw_privs_3, lw_okq q := List.forall_mem_cons.mpr ⟨lw_p32, List.forall_mem_cons.mpr ⟨lw_p33, List.forall_mem_cons.mpr ⟨lw_p34, List.forall_mem_cons.mpr ⟨lw_p35, List.forall_mem_cons.mpr ⟨lw_p36, List.forall_mem_cons.mpr ⟨lw_p37, List.forall_mem_cons.mpr ⟨lw_p38, List.forall_mem_cons.mpr ⟨lw_p39, List.forall_mem_cons.mpr ⟨lw_p40, List.forall_mem_cons.mpr ⟨lw_p41, List.forall_mem_cons.mpr ⟨lw_p42, List.forall_mem_cons.mpr ⟨lw_p43, List.forall_mem_cons.mpr ⟨lw_p44, List.forall_mem_cons.mpr ⟨lw_p45, List.forall_mem_cons.mpr ⟨lw_p46, List.forall_mem_cons.mpr ⟨lw_p47, fun _ h => absurd h List.not_mem_nil⟩⟩⟩⟩⟩⟩⟩⟩⟩⟩⟩⟩⟩⟩⟩⟩
theorem lw_p48 : lw_okq (⟨"GcdMillModel", "sized", "(II)V"⟩, 11) := ⟨⟨by decide +kernel, by decide +kernel⟩, List.mem_of_getElem? (i := 876) (by decide +kernel), List.mem_of_getElem? (i := 1044) (by decide +kernel), List.mem_of_getElem? (i := 1045) (by decide +kernel)⟩
theorem lw_p49 : lw_okq (⟨"GcdMillModel", "divisor", "()V"⟩, 11) := ⟨⟨by decide +kernel, by decide +kernel⟩, List.mem_of_getElem? (i := 876) (by decide +kernel), List.mem_of_getElem? (i := 1048) (by decide +kernel), List.mem_of_getElem? (i := 1049) (by decide +kernel)⟩
theorem lw_p50 : lw_okq (⟨"GcdMillModel", "high", "(II)J"⟩, 11) := ⟨⟨by decide +kernel, by decide +kernel⟩, List.mem_of_getElem? (i := 876) (by decide +kernel), List.mem_of_getElem? (i := 1060) (by decide +kernel), List.mem_of_getElem? (i := 1061) (by decide +kernel)⟩
theorem lw_p51 : lw_okq (⟨"GcdMillModel", "step", "()V"⟩, 11) := ⟨⟨by decide +kernel, by decide +kernel⟩, List.mem_of_getElem? (i := 876) (by decide +kernel), List.mem_of_getElem? (i := 1068) (by decide +kernel), List.mem_of_getElem? (i := 1069) (by decide +kernel)⟩
theorem lw_p52 : lw_okq (⟨"GcdMillModel", "mixed", "(IJJ)V"⟩, 11) := ⟨⟨by decide +kernel, by decide +kernel⟩, List.mem_of_getElem? (i := 876) (by decide +kernel), List.mem_of_getElem? (i := 1072) (by decide +kernel), List.mem_of_getElem? (i := 1073) (by decide +kernel)⟩
theorem lw_p53 : lw_okq (⟨"GcdMillModel", "number", "(IJ)V"⟩, 11) := ⟨⟨by decide +kernel, by decide +kernel⟩, List.mem_of_getElem? (i := 876) (by decide +kernel), List.mem_of_getElem? (i := 1076) (by decide +kernel), List.mem_of_getElem? (i := 1077) (by decide +kernel)⟩
theorem lw_p54 : lw_okq (⟨"GcdMillModel", "factors", "(II)V"⟩, 11) := ⟨⟨by decide +kernel, by decide +kernel⟩, List.mem_of_getElem? (i := 876) (by decide +kernel), List.mem_of_getElem? (i := 1088) (by decide +kernel), List.mem_of_getElem? (i := 1089) (by decide +kernel)⟩
theorem lw_p55 : lw_okq (⟨"GcdMillModel", "rooted", "(I)V"⟩, 11) := ⟨⟨by decide +kernel, by decide +kernel⟩, List.mem_of_getElem? (i := 876) (by decide +kernel), List.mem_of_getElem? (i := 1108) (by decide +kernel), List.mem_of_getElem? (i := 1109) (by decide +kernel)⟩
theorem lw_p56 : lw_okq (⟨"GcdMillModel", "isLow", "(I)Z"⟩, 11) := ⟨⟨by decide +kernel, by decide +kernel⟩, List.mem_of_getElem? (i := 876) (by decide +kernel), List.mem_of_getElem? (i := 1112) (by decide +kernel), List.mem_of_getElem? (i := 1113) (by decide +kernel)⟩
theorem lw_p57 : lw_okq (⟨"GcdMillModel", "lacks", "(I)Z"⟩, 11) := ⟨⟨by decide +kernel, by decide +kernel⟩, List.mem_of_getElem? (i := 876) (by decide +kernel), List.mem_of_getElem? (i := 1129) (by decide +kernel), List.mem_of_getElem? (i := 1130) (by decide +kernel)⟩
theorem lw_p58 : lw_okq (⟨"GcdMillModel", "four", "(I)V"⟩, 11) := ⟨⟨by decide +kernel, by decide +kernel⟩, List.mem_of_getElem? (i := 876) (by decide +kernel), List.mem_of_getElem? (i := 1145) (by decide +kernel), List.mem_of_getElem? (i := 1146) (by decide +kernel)⟩
def lw_privs_4 : List (MethodName × Nat) := [(⟨"GcdMillModel", "sized", "(II)V"⟩, 11), (⟨"GcdMillModel", "divisor", "()V"⟩, 11), (⟨"GcdMillModel", "high", "(II)J"⟩, 11), (⟨"GcdMillModel", "step", "()V"⟩, 11), (⟨"GcdMillModel", "mixed", "(IJJ)V"⟩, 11), (⟨"GcdMillModel", "number", "(IJ)V"⟩, 11), (⟨"GcdMillModel", "factors", "(II)V"⟩, 11), (⟨"GcdMillModel", "rooted", "(I)V"⟩, 11), (⟨"GcdMillModel", "isLow", "(I)Z"⟩, 11), (⟨"GcdMillModel", "lacks", "(I)Z"⟩, 11), (⟨"GcdMillModel", "four", "(I)V"⟩, 11)]
theorem lw_r4 : ∀ q ∈ lw_privs_4, lw_okq q := List.forall_mem_cons.mpr ⟨lw_p48, List.forall_mem_cons.mpr ⟨lw_p49, List.forall_mem_cons.mpr ⟨lw_p50, List.forall_mem_cons.mpr ⟨lw_p51, List.forall_mem_cons.mpr ⟨lw_p52, List.forall_mem_cons.mpr ⟨lw_p53, List.forall_mem_cons.mpr ⟨lw_p54, List.forall_mem_cons.mpr ⟨lw_p55, List.forall_mem_cons.mpr ⟨lw_p56, List.forall_mem_cons.mpr ⟨lw_p57, List.forall_mem_cons.mpr ⟨lw_p58, fun _ h => absurd h List.not_mem_nil⟩⟩⟩⟩⟩⟩⟩⟩⟩⟩⟩
def lw_privs : List (MethodName × Nat) := lw_privs_1 ++ (lw_privs_2 ++ (lw_privs_3 ++ (lw_privs_4)))
def lw_tbl : List Cond := k2_sels lw_privs ++ tables_1
theorem lw_privs_ok : ∀ q ∈ lw_privs, lw_okq q := by
  show ∀ q ∈ lw_privs_1 ++ (lw_privs_2 ++ (lw_privs_3 ++ (lw_privs_4))), lw_okq q
  exact List.forall_mem_append.mpr ⟨lw_r1, List.forall_mem_append.mpr ⟨lw_r2, List.forall_mem_append.mpr ⟨lw_r3, lw_r4⟩⟩⟩
-- ===== end of PART A; then your names; then what follows =====
end
section
def RX0 : String := "GcdMill$Divider"
def TX0 : u_T := fun k => match k with
  | _ => ("GcdMill$Divider", "divisor", "LGcdMill$Whole;", true)
def tyX0 : Nat → FieldType := fun k => match k with
  | _ => .object "GcdMill$Whole"
abbrev wsX00 : List Cond := u_ws RX0 TX0 1
theorem nmX0 : ∀ a, a < 1 → ∀ b, b < 1 → a ≠ b → (TX0 a).2.1 ≠ (TX0 b).2.1 := by decide +kernel
theorem tyX0_ok : ∀ k, k < 1 → parseFieldDescriptor (TX0 k).2.2.1 = some (tyX0 k) := by decide +kernel
abbrev cX0_init : ByteArray := prog_2_method_1_code
def yX0_init : MethodName := ⟨RX0, "<init>", "(I)V"⟩
abbrev cX0_split : ByteArray := prog_2_method_2_code
def yX0_split : MethodName := ⟨RX0, "split", "(LGcdMill$Whole;LGcdMill$Whole;LGcdMill$Whole;LGcdMill$Whole;)V"⟩
abbrev cX0_splitByLimb : ByteArray := prog_2_method_3_code
def yX0_splitByLimb : MethodName := ⟨RX0, "splitByLimb", "(LGcdMill$Whole;LGcdMill$Whole;I)I"⟩
abbrev cX0_quotientOfPair : ByteArray := prog_2_method_4_code
def yX0_quotientOfPair : MethodName := ⟨RX0, "quotientOfPair", "(JJ)J"⟩
abbrev cX0_quotientLimb : ByteArray := prog_2_method_5_code
def yX0_quotientLimb : MethodName := ⟨RX0, "quotientLimb", "([III)I"⟩
abbrev cX0_takeAway : ByteArray := prog_2_method_6_code
def yX0_takeAway : MethodName := ⟨RX0, "takeAway", "([IIIJ)Z"⟩
abbrev cX0_giveBack : ByteArray := prog_2_method_7_code
def yX0_giveBack : MethodName := ⟨RX0, "giveBack", "([III)V"⟩
def RX1 : String := "GcdMill$Divisors"
def TX1 : u_T := fun k => match k with
  | 0 => ("GcdMill$Divisors", "divider", "LGcdMill$Divider;", true)
  | 1 => ("GcdMill$Divisors", "quotient", "LGcdMill$Whole;", true)
  | 2 => ("GcdMill$Divisors", "u", "LGcdMill$Whole;", false)
  | 3 => ("GcdMill$Divisors", "v", "LGcdMill$Whole;", false)
  | _ => ("GcdMill$Divisors", "w", "LGcdMill$Whole;", false)
def tyX1 : Nat → FieldType := fun k => match k with
  | 0 => .object "GcdMill$Divider"
  | 1 => .object "GcdMill$Whole"
  | 2 => .object "GcdMill$Whole"
  | 3 => .object "GcdMill$Whole"
  | _ => .object "GcdMill$Whole"
abbrev wsX10 : List Cond := u_ws RX1 TX1 5
theorem nmX1 : ∀ a, a < 5 → ∀ b, b < 5 → a ≠ b → (TX1 a).2.1 ≠ (TX1 b).2.1 := by decide +kernel
theorem tyX1_ok : ∀ k, k < 5 → parseFieldDescriptor (TX1 k).2.2.1 = some (tyX1 k) := by decide +kernel
abbrev cX1_init : ByteArray := prog_3_method_1_code
def yX1_init : MethodName := ⟨RX1, "<init>", "(ILGcdMill$Divider;)V"⟩
abbrev cX1_byHalves : ByteArray := prog_3_method_2_code
def yX1_byHalves : MethodName := ⟨RX1, "byHalves", "(LGcdMill$Whole;LGcdMill$Whole;)LGcdMill$Whole;"⟩
abbrev cX1_byQuotients : ByteArray := prog_3_method_3_code
def yX1_byQuotients : MethodName := ⟨RX1, "byQuotients", "(LGcdMill$Whole;LGcdMill$Whole;)LGcdMill$Whole;"⟩
abbrev cX1_begin : ByteArray := prog_3_method_4_code
def yX1_begin : MethodName := ⟨RX1, "begin", "(LGcdMill$Whole;LGcdMill$Whole;)V"⟩
def RX2 : String := "GcdMill$Factors"
def TX2 : u_T := fun k => match k with
  | 0 => ("GcdMill$Factors", "\x72", "LGcdMill$Whole;", false)
  | 1 => ("GcdMill$Factors", "x", "LGcdMill$Whole;", false)
  | 2 => ("GcdMill$Factors", "y", "LGcdMill$Whole;", false)
  | 3 => ("GcdMill$Factors", "divider", "LGcdMill$Divider;", true)
  | 4 => ("GcdMill$Factors", "quotient", "LGcdMill$Whole;", true)
  | 5 => ("GcdMill$Factors", "product", "LGcdMill$Whole;", true)
  | 6 => ("GcdMill$Factors", "s", "LGcdMill$Whole;", false)
  | 7 => ("GcdMill$Factors", "rest", "LGcdMill$Whole;", false)
  | 8 => ("GcdMill$Factors", "z", "LGcdMill$Whole;", false)
  | _ => ("GcdMill$Factors", "w", "LGcdMill$Whole;", false)
def tyX2 : Nat → FieldType := fun k => match k with
  | 0 => .object "GcdMill$Whole"
  | 1 => .object "GcdMill$Whole"
  | 2 => .object "GcdMill$Whole"
  | 3 => .object "GcdMill$Divider"
  | 4 => .object "GcdMill$Whole"
  | 5 => .object "GcdMill$Whole"
  | 6 => .object "GcdMill$Whole"
  | 7 => .object "GcdMill$Whole"
  | 8 => .object "GcdMill$Whole"
  | _ => .object "GcdMill$Whole"
abbrev wsX20 : List Cond := u_ws RX2 TX2 10
theorem nmX2 : ∀ a, a < 10 → ∀ b, b < 10 → a ≠ b → (TX2 a).2.1 ≠ (TX2 b).2.1 := by decide +kernel
theorem tyX2_ok : ∀ k, k < 10 → parseFieldDescriptor (TX2 k).2.2.1 = some (tyX2 k) := by decide +kernel
abbrev cX2_init : ByteArray := prog_4_method_1_code
def yX2_init : MethodName := ⟨RX2, "<init>", "(ILGcdMill$Divider;)V"⟩
abbrev cX2_find : ByteArray := prog_4_method_2_code
def yX2_find : MethodName := ⟨RX2, "find", "(LGcdMill$Whole;LGcdMill$Whole;)V"⟩
abbrev cX2_turnOnce : ByteArray := prog_4_method_3_code
def yX2_turnOnce : MethodName := ⟨RX2, "turnOnce", "()V"⟩
abbrev cX2_addMultiple : ByteArray := prog_4_method_4_code
def yX2_addMultiple : MethodName := ⟨RX2, "addMultiple", "(LGcdMill$Whole;LGcdMill$Whole;)V"⟩
def RX3 : String := "GcdMill$Lehmer"
def TX3 : u_T := fun k => match k with
  | 0 => ("GcdMill$Lehmer", "steps", "I", false)
  | 1 => ("GcdMill$Lehmer", "divider", "LGcdMill$Divider;", true)
  | 2 => ("GcdMill$Lehmer", "quotient", "LGcdMill$Whole;", true)
  | 3 => ("GcdMill$Lehmer", "u", "LGcdMill$Whole;", false)
  | 4 => ("GcdMill$Lehmer", "v", "LGcdMill$Whole;", false)
  | 5 => ("GcdMill$Lehmer", "s", "LGcdMill$Whole;", false)
  | 6 => ("GcdMill$Lehmer", "t", "LGcdMill$Whole;", false)
  | 7 => ("GcdMill$Lehmer", "a", "J", false)
  | 8 => ("GcdMill$Lehmer", "b", "J", false)
  | 9 => ("GcdMill$Lehmer", "c", "J", false)
  | _ => ("GcdMill$Lehmer", "d", "J", false)
def tyX3 : Nat → FieldType := fun k => match k with
  | 0 => .int
  | 1 => .object "GcdMill$Divider"
  | 2 => .object "GcdMill$Whole"
  | 3 => .object "GcdMill$Whole"
  | 4 => .object "GcdMill$Whole"
  | 5 => .object "GcdMill$Whole"
  | 6 => .object "GcdMill$Whole"
  | 7 => .long
  | 8 => .long
  | 9 => .long
  | _ => .long
abbrev wsX30 : List Cond := u_ws RX3 TX3 11
theorem nmX3 : ∀ a, a < 11 → ∀ b, b < 11 → a ≠ b → (TX3 a).2.1 ≠ (TX3 b).2.1 := by decide +kernel
theorem tyX3_ok : ∀ k, k < 11 → parseFieldDescriptor (TX3 k).2.2.1 = some (tyX3 k) := by decide +kernel
abbrev cX3_init : ByteArray := prog_5_method_1_code
def yX3_init : MethodName := ⟨RX3, "<init>", "(ILGcdMill$Divider;)V"⟩
abbrev cX3_divisor : ByteArray := prog_5_method_2_code
def yX3_divisor : MethodName := ⟨RX3, "divisor", "(LGcdMill$Whole;LGcdMill$Whole;)LGcdMill$Whole;"⟩
abbrev cX3_findCofactors : ByteArray := prog_5_method_3_code
def yX3_findCofactors : MethodName := ⟨RX3, "findCofactors", "()V"⟩
abbrev cX3_takeStep : ByteArray := prog_5_method_4_code
def yX3_takeStep : MethodName := ⟨RX3, "takeStep", "()V"⟩
abbrev cX3_combineBoth : ByteArray := prog_5_method_5_code
def yX3_combineBoth : MethodName := ⟨RX3, "combineBoth", "()V"⟩
abbrev cX3_combine : ByteArray := prog_5_method_6_code
def yX3_combine : MethodName := ⟨RX3, "combine", "(LGcdMill$Whole;JJ)V"⟩
abbrev cX3_divisorOfLimbs : ByteArray := prog_5_method_7_code
def yX3_divisorOfLimbs : MethodName := ⟨RX3, "divisorOfLimbs", "(JJ)I"⟩
def RX4 : String := "GcdMill$Out"
def TX4 : u_T := fun k => match k with
  | 0 => ("GcdMill$Out", "held", "I", false)
  | 1 => ("GcdMill$Out", "bytes", "[B", true)
  | _ => ("GcdMill$Out", "left", "LGcdMill$Whole;", true)
def tyX4 : Nat → FieldType := fun k => match k with
  | 0 => .int
  | 1 => .array .byte
  | _ => .object "GcdMill$Whole"
abbrev wsX40 : List Cond := u_ws RX4 TX4 3
theorem nmX4 : ∀ a, a < 3 → ∀ b, b < 3 → a ≠ b → (TX4 a).2.1 ≠ (TX4 b).2.1 := by decide +kernel
theorem tyX4_ok : ∀ k, k < 3 → parseFieldDescriptor (TX4 k).2.2.1 = some (tyX4 k) := by decide +kernel
abbrev cX4_init : ByteArray := prog_6_method_1_code
def yX4_init : MethodName := ⟨RX4, "<init>", "(II)V"⟩
abbrev cX4_print : ByteArray := prog_6_method_2_code
def yX4_print : MethodName := ⟨RX4, "print", "(LGcdMill$Whole;)V"⟩
abbrev cX4_appendChunk : ByteArray := prog_6_method_3_code
def yX4_appendChunk : MethodName := ⟨RX4, "appendChunk", "(I)V"⟩
abbrev cX4_takeChunk : ByteArray := prog_6_method_4_code
def yX4_takeChunk : MethodName := ⟨RX4, "takeChunk", "()I"⟩
abbrev cX4_append : ByteArray := prog_6_method_5_code
def yX4_append : MethodName := ⟨RX4, "append", "(I)V"⟩
abbrev cX4_turnRound : ByteArray := prog_6_method_6_code
def yX4_turnRound : MethodName := ⟨RX4, "turnRound", "()V"⟩
def RX5 : String := "GcdMill$Residues"
def TX5 : u_T := fun k => match k with
  | 0 => ("GcdMill$Residues", "divider", "LGcdMill$Divider;", true)
  | 1 => ("GcdMill$Residues", "quotient", "LGcdMill$Whole;", true)
  | 2 => ("GcdMill$Residues", "product", "LGcdMill$Whole;", true)
  | 3 => ("GcdMill$Residues", "base", "LGcdMill$Whole;", true)
  | 4 => ("GcdMill$Residues", "raised", "LGcdMill$Whole;", true)
  | 5 => ("GcdMill$Residues", "u", "LGcdMill$Whole;", false)
  | 6 => ("GcdMill$Residues", "v", "LGcdMill$Whole;", false)
  | _ => ("GcdMill$Residues", "w", "LGcdMill$Whole;", false)
def tyX5 : Nat → FieldType := fun k => match k with
  | 0 => .object "GcdMill$Divider"
  | 1 => .object "GcdMill$Whole"
  | 2 => .object "GcdMill$Whole"
  | 3 => .object "GcdMill$Whole"
  | 4 => .object "GcdMill$Whole"
  | 5 => .object "GcdMill$Whole"
  | 6 => .object "GcdMill$Whole"
  | _ => .object "GcdMill$Whole"
abbrev wsX50 : List Cond := u_ws RX5 TX5 8
theorem nmX5 : ∀ a, a < 8 → ∀ b, b < 8 → a ≠ b → (TX5 a).2.1 ≠ (TX5 b).2.1 := by decide +kernel
theorem tyX5_ok : ∀ k, k < 8 → parseFieldDescriptor (TX5 k).2.2.1 = some (tyX5 k) := by decide +kernel
abbrev cX5_init : ByteArray := prog_7_method_1_code
def yX5_init : MethodName := ⟨RX5, "<init>", "(ILGcdMill$Divider;)V"⟩
abbrev cX5_reduce : ByteArray := prog_7_method_2_code
def yX5_reduce : MethodName := ⟨RX5, "reduce", "(LGcdMill$Whole;LGcdMill$Whole;LGcdMill$Whole;)V"⟩
abbrev cX5_raise : ByteArray := prog_7_method_3_code
def yX5_raise : MethodName := ⟨RX5, "raise", "(LGcdMill$Whole;LGcdMill$Whole;LGcdMill$Whole;)LGcdMill$Whole;"⟩
abbrev cX5_timesInto : ByteArray := prog_7_method_4_code
def yX5_timesInto : MethodName := ⟨RX5, "timesInto", "(LGcdMill$Whole;LGcdMill$Whole;LGcdMill$Whole;)V"⟩
abbrev cX5_symbol : ByteArray := prog_7_method_5_code
def yX5_symbol : MethodName := ⟨RX5, "symbol", "(LGcdMill$Whole;LGcdMill$Whole;)I"⟩
def RX6 : String := "GcdMill$Roots"
def TX6 : u_T := fun k => match k with
  | 0 => ("GcdMill$Roots", "divider", "LGcdMill$Divider;", true)
  | 1 => ("GcdMill$Roots", "quotient", "LGcdMill$Whole;", true)
  | 2 => ("GcdMill$Roots", "rest", "LGcdMill$Whole;", true)
  | 3 => ("GcdMill$Roots", "product", "LGcdMill$Whole;", true)
  | 4 => ("GcdMill$Roots", "raised", "LGcdMill$Whole;", true)
  | 5 => ("GcdMill$Roots", "small", "LGcdMill$Whole;", true)
  | 6 => ("GcdMill$Roots", "one", "LGcdMill$Whole;", true)
  | 7 => ("GcdMill$Roots", "guess", "LGcdMill$Whole;", false)
  | _ => ("GcdMill$Roots", "next", "LGcdMill$Whole;", false)
def tyX6 : Nat → FieldType := fun k => match k with
  | 0 => .object "GcdMill$Divider"
  | 1 => .object "GcdMill$Whole"
  | 2 => .object "GcdMill$Whole"
  | 3 => .object "GcdMill$Whole"
  | 4 => .object "GcdMill$Whole"
  | 5 => .object "GcdMill$Whole"
  | 6 => .object "GcdMill$Whole"
  | 7 => .object "GcdMill$Whole"
  | _ => .object "GcdMill$Whole"
abbrev wsX60 : List Cond := u_ws RX6 TX6 9
theorem nmX6 : ∀ a, a < 9 → ∀ b, b < 9 → a ≠ b → (TX6 a).2.1 ≠ (TX6 b).2.1 := by decide +kernel
theorem tyX6_ok : ∀ k, k < 9 → parseFieldDescriptor (TX6 k).2.2.1 = some (tyX6 k) := by decide +kernel
abbrev cX6_init : ByteArray := prog_8_method_1_code
def yX6_init : MethodName := ⟨RX6, "<init>", "(ILGcdMill$Divider;)V"⟩
abbrev cX6_find : ByteArray := prog_8_method_2_code
def yX6_find : MethodName := ⟨RX6, "find", "(LGcdMill$Whole;I)LGcdMill$Whole;"⟩
abbrev cX6_guessWithBit : ByteArray := prog_8_method_3_code
def yX6_guessWithBit : MethodName := ⟨RX6, "guessWithBit", "(I)V"⟩
abbrev cX6_stepDown : ByteArray := prog_8_method_4_code
def yX6_stepDown : MethodName := ⟨RX6, "stepDown", "(LGcdMill$Whole;I)Z"⟩
abbrev cX6_raiseUpTo : ByteArray := prog_8_method_5_code
def yX6_raiseUpTo : MethodName := ⟨RX6, "raiseUpTo", "(LGcdMill$Whole;ILGcdMill$Whole;)Z"⟩
def RX7 : String := "GcdMill$Sizes"
def TX7 : u_T := fun k => match k with
  | _ => ("", "", "", false)
def tyX7 : Nat → FieldType := fun k => match k with
  | _ => .int
abbrev wsX70 : List Cond := u_ws RX7 TX7 0
theorem nmX7 : ∀ a, a < 0 → ∀ b, b < 0 → a ≠ b → (TX7 a).2.1 ≠ (TX7 b).2.1 := by decide +kernel
theorem tyX7_ok : ∀ k, k < 0 → parseFieldDescriptor (TX7 k).2.2.1 = some (tyX7 k) := by decide +kernel
abbrev cX7_order : ByteArray := prog_9_method_2_code
def yX7_order : MethodName := ⟨RX7, "order", "(LGcdMill$Whole;LGcdMill$Whole;)I"⟩
abbrev cX7_sum : ByteArray := prog_9_method_3_code
def yX7_sum : MethodName := ⟨RX7, "sum", "(LGcdMill$Whole;LGcdMill$Whole;LGcdMill$Whole;)V"⟩
abbrev cX7_difference : ByteArray := prog_9_method_4_code
def yX7_difference : MethodName := ⟨RX7, "difference", "(LGcdMill$Whole;LGcdMill$Whole;LGcdMill$Whole;)V"⟩
abbrev cX7_signedSum : ByteArray := prog_9_method_5_code
def yX7_signedSum : MethodName := ⟨RX7, "signedSum", "(LGcdMill$Whole;LGcdMill$Whole;LGcdMill$Whole;Z)V"⟩
abbrev cX7_product : ByteArray := prog_9_method_6_code
def yX7_product : MethodName := ⟨RX7, "product", "(LGcdMill$Whole;LGcdMill$Whole;LGcdMill$Whole;)V"⟩
abbrev cX7_shiftUp : ByteArray := prog_9_method_7_code
def yX7_shiftUp : MethodName := ⟨RX7, "shiftUp", "(LGcdMill$Whole;LGcdMill$Whole;I)V"⟩
abbrev cX7_shiftDown : ByteArray := prog_9_method_8_code
def yX7_shiftDown : MethodName := ⟨RX7, "shiftDown", "(LGcdMill$Whole;LGcdMill$Whole;I)V"⟩
def RX8 : String := "GcdMill$Tape"
def TX8 : u_T := fun k => match k with
  | 0 => ("GcdMill$Tape", "held", "I", false)
  | _ => ("GcdMill$Tape", "bytes", "[B", true)
def tyX8 : Nat → FieldType := fun k => match k with
  | 0 => .int
  | _ => .array .byte
abbrev wsX80 : List Cond := u_ws RX8 TX8 2
theorem nmX8 : ∀ a, a < 2 → ∀ b, b < 2 → a ≠ b → (TX8 a).2.1 ≠ (TX8 b).2.1 := by decide +kernel
theorem tyX8_ok : ∀ k, k < 2 → parseFieldDescriptor (TX8 k).2.2.1 = some (tyX8 k) := by decide +kernel
abbrev cX8_init : ByteArray := prog_10_method_1_code
def yX8_init : MethodName := ⟨RX8, "<init>", "()V"⟩
abbrev cX8_append : ByteArray := prog_10_method_2_code
def yX8_append : MethodName := ⟨RX8, "append", "(I)V"⟩
abbrev cX8_isDecimal : ByteArray := prog_10_method_3_code
def yX8_isDecimal : MethodName := ⟨RX8, "isDecimal", "()Z"⟩
abbrev cX8_hasMinus : ByteArray := prog_10_method_4_code
def yX8_hasMinus : MethodName := ⟨RX8, "hasMinus", "()Z"⟩
abbrev cX8_firstDigit : ByteArray := prog_10_method_5_code
def yX8_firstDigit : MethodName := ⟨RX8, "firstDigit", "()I"⟩
abbrev cX8_parse : ByteArray := prog_10_method_6_code
def yX8_parse : MethodName := ⟨RX8, "parse", "(LGcdMill$Whole;I)Z"⟩
abbrev cX8_foldIn : ByteArray := prog_10_method_7_code
def yX8_foldIn : MethodName := ⟨RX8, "foldIn", "(LGcdMill$Whole;II)V"⟩
def RX9 : String := "GcdMill$Whole"
def TX9 : u_T := fun k => match k with
  | 0 => ("GcdMill$Whole", "limbs", "[I", true)
  | 1 => ("GcdMill$Whole", "used", "I", false)
  | _ => ("GcdMill$Whole", "below", "Z", false)
def tyX9 : Nat → FieldType := fun k => match k with
  | 0 => .array .int
  | 1 => .int
  | _ => .boolean
abbrev wsX90 : List Cond := u_ws RX9 TX9 3
theorem nmX9 : ∀ a, a < 3 → ∀ b, b < 3 → a ≠ b → (TX9 a).2.1 ≠ (TX9 b).2.1 := by decide +kernel
theorem tyX9_ok : ∀ k, k < 3 → parseFieldDescriptor (TX9 k).2.2.1 = some (tyX9 k) := by decide +kernel
abbrev cX9_init : ByteArray := prog_11_method_1_code
def yX9_init : MethodName := ⟨RX9, "<init>", "(I)V"⟩
abbrev cX9_become : ByteArray := prog_11_method_2_code
def yX9_become : MethodName := ⟨RX9, "become", "(I)V"⟩
abbrev cX9_copy : ByteArray := prog_11_method_3_code
def yX9_copy : MethodName := ⟨RX9, "copy", "(LGcdMill$Whole;)V"⟩
abbrev cX9_keep : ByteArray := prog_11_method_4_code
def yX9_keep : MethodName := ⟨RX9, "keep", "(I)V"⟩
abbrev cX9_takeSign : ByteArray := prog_11_method_5_code
def yX9_takeSign : MethodName := ⟨RX9, "takeSign", "(Z)V"⟩
abbrev cX9_isAboveZero : ByteArray := prog_11_method_6_code
def yX9_isAboveZero : MethodName := ⟨RX9, "isAboveZero", "()Z"⟩
abbrev cX9_isOdd : ByteArray := prog_11_method_7_code
def yX9_isOdd : MethodName := ⟨RX9, "isOdd", "()Z"⟩
abbrev cX9_limb : ByteArray := prog_11_method_8_code
def yX9_limb : MethodName := ⟨RX9, "limb", "(I)J"⟩
abbrev cX9_bits : ByteArray := prog_11_method_9_code
def yX9_bits : MethodName := ⟨RX9, "bits", "()I"⟩
abbrev cX9_hasBit : ByteArray := prog_11_method_10_code
def yX9_hasBit : MethodName := ⟨RX9, "hasBit", "(I)Z"⟩
abbrev cX9_window : ByteArray := prog_11_method_11_code
def yX9_window : MethodName := ⟨RX9, "window", "(I)J"⟩
abbrev cX9_lowZeros : ByteArray := prog_11_method_12_code
def yX9_lowZeros : MethodName := ⟨RX9, "lowZeros", "()I"⟩
def RX10 : String := "GcdMill"
def TX10 : u_T := fun k => match k with
  | 0 => ("GcdMill", "width", "I", true)
  | 1 => ("GcdMill", "registers", "[LGcdMill$Whole;", true)
  | 2 => ("GcdMill", "divider", "LGcdMill$Divider;", true)
  | 3 => ("GcdMill", "divisors", "LGcdMill$Divisors;", true)
  | 4 => ("GcdMill", "lehmer", "LGcdMill$Lehmer;", true)
  | 5 => ("GcdMill", "factors", "LGcdMill$Factors;", true)
  | 6 => ("GcdMill", "residues", "LGcdMill$Residues;", true)
  | 7 => ("GcdMill", "roots", "LGcdMill$Roots;", true)
  | 8 => ("GcdMill", "tape", "LGcdMill$Tape;", true)
  | 9 => ("GcdMill", "out", "LGcdMill$Out;", true)
  | 10 => ("GcdMill", "result", "LGcdMill$Whole;", true)
  | 11 => ("GcdMill", "rest", "LGcdMill$Whole;", true)
  | 12 => ("GcdMill", "one", "LGcdMill$Whole;", true)
  | _ => ("GcdMill", "steps", "I", false)
def tyX10 : Nat → FieldType := fun k => match k with
  | 0 => .int
  | 1 => .array (.object "GcdMill$Whole")
  | 2 => .object "GcdMill$Divider"
  | 3 => .object "GcdMill$Divisors"
  | 4 => .object "GcdMill$Lehmer"
  | 5 => .object "GcdMill$Factors"
  | 6 => .object "GcdMill$Residues"
  | 7 => .object "GcdMill$Roots"
  | 8 => .object "GcdMill$Tape"
  | 9 => .object "GcdMill$Out"
  | 10 => .object "GcdMill$Whole"
  | 11 => .object "GcdMill$Whole"
  | 12 => .object "GcdMill$Whole"
  | _ => .int
abbrev wsX100 : List Cond := u_ws RX10 TX10 14
theorem nmX10 : ∀ a, a < 14 → ∀ b, b < 14 → a ≠ b → (TX10 a).2.1 ≠ (TX10 b).2.1 := by decide +kernel
theorem tyX10_ok : ∀ k, k < 14 → parseFieldDescriptor (TX10 k).2.2.1 = some (tyX10 k) := by decide +kernel
abbrev cX10_init : ByteArray := prog_1_method_1_code
def yX10_init : MethodName := ⟨RX10, "<init>", "(II)V"⟩
abbrev cX10_pushLimb : ByteArray := prog_1_method_2_code
def yX10_pushLimb : MethodName := ⟨RX10, "pushLimb", "(II)I"⟩
abbrev cX10_clear : ByteArray := prog_1_method_3_code
def yX10_clear : MethodName := ⟨RX10, "clear", "(I)Z"⟩
abbrev cX10_negate : ByteArray := prog_1_method_4_code
def yX10_negate : MethodName := ⟨RX10, "negate", "(II)I"⟩
abbrev cX10_add : ByteArray := prog_1_method_5_code
def yX10_add : MethodName := ⟨RX10, "add", "(III)I"⟩
abbrev cX10_subtract : ByteArray := prog_1_method_6_code
def yX10_subtract : MethodName := ⟨RX10, "subtract", "(III)I"⟩
abbrev cX10_multiply : ByteArray := prog_1_method_7_code
def yX10_multiply : MethodName := ⟨RX10, "multiply", "(III)I"⟩
abbrev cX10_divide : ByteArray := prog_1_method_8_code
def yX10_divide : MethodName := ⟨RX10, "divide", "(IIII)I"⟩
abbrev cX10_shift : ByteArray := prog_1_method_9_code
def yX10_shift : MethodName := ⟨RX10, "shift", "(III)I"⟩
abbrev cX10_compare : ByteArray := prog_1_method_10_code
def yX10_compare : MethodName := ⟨RX10, "compare", "(II)I"⟩
abbrev cX10_gcdBinary : ByteArray := prog_1_method_11_code
def yX10_gcdBinary : MethodName := ⟨RX10, "gcdBinary", "(III)I"⟩
abbrev cX10_gcdEuclid : ByteArray := prog_1_method_12_code
def yX10_gcdEuclid : MethodName := ⟨RX10, "gcdEuclid", "(III)I"⟩
abbrev cX10_gcdLehmer : ByteArray := prog_1_method_13_code
def yX10_gcdLehmer : MethodName := ⟨RX10, "gcdLehmer", "(III)I"⟩
abbrev cX10_lastSteps : ByteArray := prog_1_method_14_code
def yX10_lastSteps : MethodName := ⟨RX10, "lastSteps", "()I"⟩
abbrev cX10_bezout : ByteArray := prog_1_method_15_code
def yX10_bezout : MethodName := ⟨RX10, "bezout", "(IIIII)I"⟩
abbrev cX10_inverse : ByteArray := prog_1_method_16_code
def yX10_inverse : MethodName := ⟨RX10, "inverse", "(III)I"⟩
abbrev cX10_power : ByteArray := prog_1_method_17_code
def yX10_power : MethodName := ⟨RX10, "power", "(IIII)I"⟩
abbrev cX10_isqrt : ByteArray := prog_1_method_18_code
def yX10_isqrt : MethodName := ⟨RX10, "isqrt", "(II)I"⟩
abbrev cX10_root : ByteArray := prog_1_method_19_code
def yX10_root : MethodName := ⟨RX10, "root", "(III)I"⟩
abbrev cX10_isSquare : ByteArray := prog_1_method_20_code
def yX10_isSquare : MethodName := ⟨RX10, "isSquare", "(I)I"⟩
abbrev cX10_jacobi : ByteArray := prog_1_method_21_code
def yX10_jacobi : MethodName := ⟨RX10, "jacobi", "(II)I"⟩
abbrev cX10_sign : ByteArray := prog_1_method_22_code
def yX10_sign : MethodName := ⟨RX10, "sign", "(I)I"⟩
abbrev cX10_length : ByteArray := prog_1_method_23_code
def yX10_length : MethodName := ⟨RX10, "length", "(I)I"⟩
abbrev cX10_limbAt : ByteArray := prog_1_method_24_code
def yX10_limbAt : MethodName := ⟨RX10, "limbAt", "(II)I"⟩
abbrev cX10_feed : ByteArray := prog_1_method_25_code
def yX10_feed : MethodName := ⟨RX10, "feed", "(IIIII)I"⟩
abbrev cX10_end : ByteArray := prog_1_method_26_code
def yX10_end : MethodName := ⟨RX10, "end", "(I)Z"⟩
abbrev cX10_read : ByteArray := prog_1_method_27_code
def yX10_read : MethodName := ⟨RX10, "read", "(I)I"⟩
abbrev cX10_write : ByteArray := prog_1_method_28_code
def yX10_write : MethodName := ⟨RX10, "write", "(I)I"⟩
abbrev cX10_octet : ByteArray := prog_1_method_29_code
def yX10_octet : MethodName := ⟨RX10, "octet", "(I)I"⟩
abbrev cX10_count : ByteArray := prog_1_method_30_code
def yX10_count : MethodName := ⟨RX10, "count", "(I)I"⟩
abbrev cX10_isRegister : ByteArray := prog_1_method_31_code
def yX10_isRegister : MethodName := ⟨RX10, "isRegister", "(I)Z"⟩
abbrev cX10_areRegisters : ByteArray := prog_1_method_32_code
def yX10_areRegisters : MethodName := ⟨RX10, "areRegisters", "(II)Z"⟩
abbrev cX10_areRegisters_ : ByteArray := prog_1_method_33_code
def yX10_areRegisters_ : MethodName := ⟨RX10, "areRegisters", "(III)Z"⟩
abbrev cX10_registerOrThrow : ByteArray := prog_1_method_34_code
def yX10_registerOrThrow : MethodName := ⟨RX10, "registerOrThrow", "(I)LGcdMill$Whole;"⟩
abbrev cX10_put : ByteArray := prog_1_method_35_code
def yX10_put : MethodName := ⟨RX10, "put", "(ILGcdMill$Whole;)I"⟩
abbrev cX10_halve : ByteArray := prog_1_method_36_code
def yX10_halve : MethodName := ⟨RX10, "halve", "(LGcdMill$Whole;J)V"⟩
def RX11 : String := "GcdMillModel"
def TX11 : u_T := fun k => match k with
  | 0 => ("GcdMillModel", "half", "[I", true)
  | 1 => ("GcdMillModel", "many", "[I", true)
  | 2 => ("GcdMillModel", "sign", "[I", true)
  | 3 => ("GcdMillModel", "registers", "I", true)
  | 4 => ("GcdMillModel", "width", "I", true)
  | 5 => ("GcdMillModel", "thrown", "I", false)
  | 6 => ("GcdMillModel", "steps", "I", false)
  | 7 => ("GcdMillModel", "tape", "[B", true)
  | 8 => ("GcdMillModel", "out", "[B", true)
  | 9 => ("GcdMillModel", "length", "I", false)
  | _ => ("GcdMillModel", "outMany", "I", false)
def tyX11 : Nat → FieldType := fun k => match k with
  | 0 => .array .int
  | 1 => .array .int
  | 2 => .array .int
  | 3 => .int
  | 4 => .int
  | 5 => .int
  | 6 => .int
  | 7 => .array .byte
  | 8 => .array .byte
  | 9 => .int
  | _ => .int
abbrev wsX110 : List Cond := u_ws RX11 TX11 11
theorem nmX11 : ∀ a, a < 11 → ∀ b, b < 11 → a ≠ b → (TX11 a).2.1 ≠ (TX11 b).2.1 := by decide +kernel
theorem tyX11_ok : ∀ k, k < 11 → parseFieldDescriptor (TX11 k).2.2.1 = some (tyX11 k) := by decide +kernel
abbrev cX11_init : ByteArray := prog_13_method_1_code
def yX11_init : MethodName := ⟨RX11, "<init>", "(II)V"⟩
abbrev cX11_thrown : ByteArray := prog_13_method_2_code
def yX11_thrown : MethodName := ⟨RX11, "thrown", "()I"⟩
abbrev cX11_copy : ByteArray := prog_13_method_3_code
def yX11_copy : MethodName := ⟨RX11, "copy", "(II)V"⟩
abbrev cX11_small : ByteArray := prog_13_method_4_code
def yX11_small : MethodName := ⟨RX11, "small", "(II)V"⟩
abbrev cX11_trim : ByteArray := prog_13_method_5_code
def yX11_trim : MethodName := ⟨RX11, "trim", "(III)V"⟩
abbrev cX11_get : ByteArray := prog_13_method_6_code
def yX11_get : MethodName := ⟨RX11, "get", "(II)I"⟩
abbrev cX11_sizes : ByteArray := prog_13_method_7_code
def yX11_sizes : MethodName := ⟨RX11, "sizes", "(II)I"⟩
abbrev cX11_sizeSum : ByteArray := prog_13_method_8_code
def yX11_sizeSum : MethodName := ⟨RX11, "sizeSum", "(IIII)V"⟩
abbrev cX11_sizeLess : ByteArray := prog_13_method_9_code
def yX11_sizeLess : MethodName := ⟨RX11, "sizeLess", "(IIII)V"⟩
abbrev cX11_sum : ByteArray := prog_13_method_10_code
def yX11_sum : MethodName := ⟨RX11, "sum", "(IIII)V"⟩
abbrev cX11_product : ByteArray := prog_13_method_11_code
def yX11_product : MethodName := ⟨RX11, "product", "(III)V"⟩
abbrev cX11_top : ByteArray := prog_13_method_12_code
def yX11_top : MethodName := ⟨RX11, "top", "(III)J"⟩
abbrev cX11_quotient : ByteArray := prog_13_method_13_code
def yX11_quotient : MethodName := ⟨RX11, "quotient", "(IIII)V"⟩
abbrev cX11_divided : ByteArray := prog_13_method_14_code
def yX11_divided : MethodName := ⟨RX11, "divided", "(IIII)V"⟩
abbrev cX11_bits : ByteArray := prog_13_method_15_code
def yX11_bits : MethodName := ⟨RX11, "bits", "(I)I"⟩
abbrev cX11_bit : ByteArray := prog_13_method_16_code
def yX11_bit : MethodName := ⟨RX11, "bit", "(II)Z"⟩
abbrev cX11_halved : ByteArray := prog_13_method_17_code
def yX11_halved : MethodName := ⟨RX11, "halved", "(III)V"⟩
abbrev cX11_doubled : ByteArray := prog_13_method_18_code
def yX11_doubled : MethodName := ⟨RX11, "doubled", "(III)V"⟩
abbrev cX11_no : ByteArray := prog_13_method_19_code
def yX11_no : MethodName := ⟨RX11, "no", "(I)Z"⟩
abbrev cX11_fits : ByteArray := prog_13_method_20_code
def yX11_fits : MethodName := ⟨RX11, "fits", "(I)Z"⟩
abbrev cX11_put : ByteArray := prog_13_method_21_code
def yX11_put : MethodName := ⟨RX11, "put", "(II)I"⟩
abbrev cX11_pushLimb : ByteArray := prog_13_method_22_code
def yX11_pushLimb : MethodName := ⟨RX11, "pushLimb", "(II)I"⟩
abbrev cX11_clear : ByteArray := prog_13_method_23_code
def yX11_clear : MethodName := ⟨RX11, "clear", "(I)Z"⟩
abbrev cX11_negate : ByteArray := prog_13_method_24_code
def yX11_negate : MethodName := ⟨RX11, "negate", "(II)I"⟩
abbrev cX11_add : ByteArray := prog_13_method_25_code
def yX11_add : MethodName := ⟨RX11, "add", "(III)I"⟩
abbrev cX11_subtract : ByteArray := prog_13_method_26_code
def yX11_subtract : MethodName := ⟨RX11, "subtract", "(III)I"⟩
abbrev cX11_multiply : ByteArray := prog_13_method_27_code
def yX11_multiply : MethodName := ⟨RX11, "multiply", "(III)I"⟩
abbrev cX11_divide : ByteArray := prog_13_method_28_code
def yX11_divide : MethodName := ⟨RX11, "divide", "(IIII)I"⟩
abbrev cX11_shift : ByteArray := prog_13_method_29_code
def yX11_shift : MethodName := ⟨RX11, "shift", "(III)I"⟩
abbrev cX11_compare : ByteArray := prog_13_method_30_code
def yX11_compare : MethodName := ⟨RX11, "compare", "(II)I"⟩
abbrev cX11_sized : ByteArray := prog_13_method_31_code
def yX11_sized : MethodName := ⟨RX11, "sized", "(II)V"⟩
abbrev cX11_divisor : ByteArray := prog_13_method_32_code
def yX11_divisor : MethodName := ⟨RX11, "divisor", "()V"⟩
abbrev cX11_simple : ByteArray := prog_13_method_33_code
def yX11_simple : MethodName := ⟨RX11, "simple", "(III)I"⟩
abbrev cX11_gcdBinary : ByteArray := prog_13_method_34_code
def yX11_gcdBinary : MethodName := ⟨RX11, "gcdBinary", "(III)I"⟩
abbrev cX11_gcdEuclid : ByteArray := prog_13_method_35_code
def yX11_gcdEuclid : MethodName := ⟨RX11, "gcdEuclid", "(III)I"⟩
abbrev cX11_divided_ : ByteArray := prog_13_method_36_code
def yX11_divided_ : MethodName := ⟨RX11, "divided", "(JJ)J"⟩
abbrev cX11_high : ByteArray := prog_13_method_37_code
def yX11_high : MethodName := ⟨RX11, "high", "(II)J"⟩
abbrev cX11_number : ByteArray := prog_13_method_38_code
def yX11_number : MethodName := ⟨RX11, "number", "(IJ)V"⟩
abbrev cX11_mixed : ByteArray := prog_13_method_39_code
def yX11_mixed : MethodName := ⟨RX11, "mixed", "(IJJ)V"⟩
abbrev cX11_step : ByteArray := prog_13_method_40_code
def yX11_step : MethodName := ⟨RX11, "step", "()V"⟩
abbrev cX11_gcdLehmer : ByteArray := prog_13_method_41_code
def yX11_gcdLehmer : MethodName := ⟨RX11, "gcdLehmer", "(III)I"⟩
abbrev cX11_lastSteps : ByteArray := prog_13_method_42_code
def yX11_lastSteps : MethodName := ⟨RX11, "lastSteps", "()I"⟩
abbrev cX11_factors : ByteArray := prog_13_method_43_code
def yX11_factors : MethodName := ⟨RX11, "factors", "(II)V"⟩
abbrev cX11_bezout : ByteArray := prog_13_method_44_code
def yX11_bezout : MethodName := ⟨RX11, "bezout", "(IIIII)I"⟩
abbrev cX11_inverse : ByteArray := prog_13_method_45_code
def yX11_inverse : MethodName := ⟨RX11, "inverse", "(III)I"⟩
abbrev cX11_power : ByteArray := prog_13_method_46_code
def yX11_power : MethodName := ⟨RX11, "power", "(IIII)I"⟩
abbrev cX11_isLow : ByteArray := prog_13_method_47_code
def yX11_isLow : MethodName := ⟨RX11, "isLow", "(I)Z"⟩
abbrev cX11_rooted : ByteArray := prog_13_method_48_code
def yX11_rooted : MethodName := ⟨RX11, "rooted", "(I)V"⟩
abbrev cX11_isqrt : ByteArray := prog_13_method_49_code
def yX11_isqrt : MethodName := ⟨RX11, "isqrt", "(II)I"⟩
abbrev cX11_root : ByteArray := prog_13_method_50_code
def yX11_root : MethodName := ⟨RX11, "root", "(III)I"⟩
abbrev cX11_isSquare : ByteArray := prog_13_method_51_code
def yX11_isSquare : MethodName := ⟨RX11, "isSquare", "(I)I"⟩
abbrev cX11_jacobi : ByteArray := prog_13_method_52_code
def yX11_jacobi : MethodName := ⟨RX11, "jacobi", "(II)I"⟩
abbrev cX11_lacks : ByteArray := prog_13_method_53_code
def yX11_lacks : MethodName := ⟨RX11, "lacks", "(I)Z"⟩
abbrev cX11_sign : ByteArray := prog_13_method_54_code
def yX11_sign : MethodName := ⟨RX11, "sign", "(I)I"⟩
abbrev cX11_length : ByteArray := prog_13_method_55_code
def yX11_length : MethodName := ⟨RX11, "length", "(I)I"⟩
abbrev cX11_limbAt : ByteArray := prog_13_method_56_code
def yX11_limbAt : MethodName := ⟨RX11, "limbAt", "(II)I"⟩
abbrev cX11_feed : ByteArray := prog_13_method_57_code
def yX11_feed : MethodName := ⟨RX11, "feed", "(IIIII)I"⟩
abbrev cX11_four : ByteArray := prog_13_method_58_code
def yX11_four : MethodName := ⟨RX11, "four", "(I)V"⟩
abbrev cX11_end : ByteArray := prog_13_method_59_code
def yX11_end : MethodName := ⟨RX11, "end", "(I)Z"⟩
abbrev cX11_read : ByteArray := prog_13_method_60_code
def yX11_read : MethodName := ⟨RX11, "read", "(I)I"⟩
abbrev cX11_write : ByteArray := prog_13_method_61_code
def yX11_write : MethodName := ⟨RX11, "write", "(I)I"⟩
abbrev cX11_octet : ByteArray := prog_13_method_62_code
def yX11_octet : MethodName := ⟨RX11, "octet", "(I)I"⟩
abbrev cX11_count : ByteArray := prog_13_method_63_code
def yX11_count : MethodName := ⟨RX11, "count", "(I)I"⟩
def RJ6 : String := "java/lang/Integer"
def TJ6 : u_T := fun k => match k with
  | _ => ("", "", "", false)
def tyJ6 : Nat → FieldType := fun k => match k with
  | _ => .int
theorem tyJ6_ok : ∀ k, k < 0 → parseFieldDescriptor (TJ6 k).2.2.1 = some (tyJ6 k) := by decide +kernel
abbrev cJ6_numberOfLeadingZeros_0f7a4 : ByteArray := prog_15_method_47_code
def yJ6_numberOfLeadingZeros_0f7a4 : MethodName := ⟨RJ6, "numberOfLeadingZeros", "(I)I"⟩
abbrev cJ6_numberOfTrailingZeros_0f7a4 : ByteArray := prog_15_method_48_code
def yJ6_numberOfTrailingZeros_0f7a4 : MethodName := ⟨RJ6, "numberOfTrailingZeros", "(I)I"⟩
def RJ13 : String := "java/lang/Long"
def TJ13 : u_T := fun k => match k with
  | _ => ("", "", "", false)
def tyJ13 : Nat → FieldType := fun k => match k with
  | _ => .int
theorem tyJ13_ok : ∀ k, k < 0 → parseFieldDescriptor (TJ13 k).2.2.1 = some (tyJ13 k) := by decide +kernel
abbrev cJ13_compare_74951 : ByteArray := prog_16_method_42_code
def yJ13_compare_74951 : MethodName := ⟨RJ13, "compare", "(JJ)I"⟩
abbrev cJ13_compareUnsigned_74951 : ByteArray := prog_16_method_43_code
def yJ13_compareUnsigned_74951 : MethodName := ⟨RJ13, "compareUnsigned", "(JJ)I"⟩
def RJ9 : String := "java/lang/Math"
def TJ9 : u_T := fun k => match k with
  | _ => ("", "", "", false)
def tyJ9 : Nat → FieldType := fun k => match k with
  | _ => .int
theorem tyJ9_ok : ∀ k, k < 0 → parseFieldDescriptor (TJ9 k).2.2.1 = some (tyJ9 k) := by decide +kernel
abbrev cJ9_max_7cf53 : ByteArray := prog_17_method_65_code
def yJ9_max_7cf53 : MethodName := ⟨RJ9, "max", "(II)I"⟩
abbrev cJ9_min_7cf53 : ByteArray := prog_17_method_69_code
def yJ9_min_7cf53 : MethodName := ⟨RJ9, "min", "(II)I"⟩
def RJ0 : String := "java/lang/String"
def TJ0 : u_T := fun k => match k with
  | _ => ("", "", "", false)
def tyJ0 : Nat → FieldType := fun k => match k with
  | _ => .int
theorem tyJ0_ok : ∀ k, k < 0 → parseFieldDescriptor (TJ0 k).2.2.1 = some (tyJ0 k) := by decide +kernel
def RJ10 : String := "java/lang/System"
def TJ10 : u_T := fun k => match k with
  | _ => ("", "", "", false)
def tyJ10 : Nat → FieldType := fun k => match k with
  | _ => .int
theorem tyJ10_ok : ∀ k, k < 0 → parseFieldDescriptor (TJ10 k).2.2.1 = some (tyJ10 k) := by decide +kernel
def RL : String := "GcdMillLaw"
abbrev cL_cell : ByteArray := method_2_code
def yL_cell : MethodName := ⟨RL, "cell", "([II)I"⟩
abbrev cL_sign : ByteArray := method_3_code
def yL_sign : MethodName := ⟨RL, "sign", "(LGcdMill;I[J)I"⟩
abbrev cL_length : ByteArray := method_4_code
def yL_length : MethodName := ⟨RL, "length", "(LGcdMill;I[J)I"⟩
abbrev cL_limbAt : ByteArray := method_5_code
def yL_limbAt : MethodName := ⟨RL, "limbAt", "(LGcdMill;II[J)I"⟩
abbrev cL_write : ByteArray := method_6_code
def yL_write : MethodName := ⟨RL, "write", "(LGcdMill;I[J)I"⟩
abbrev cL_law : ByteArray := code
def yL_law : MethodName := ⟨RL, "law", "([I)Z"⟩
abbrev vwCl : List vw_C := [(RX0, TX0, 1), (RX1, TX1, 5), (RX2, TX2, 10), (RX3, TX3, 11), (RX4, TX4, 3), (RX5, TX5, 8), (RX6, TX6, 9), (RX8, TX8, 2), (RX9, TX9, 3), (RX10, TX10, 14), (RX11, TX11, 11)]
end
section
theorem dJ6_numberOfLeadingZeros_0f7a4_0 : decode cJ6_numberOfLeadingZeros_0f7a4 0 = .ok (.iload_n 0, 1) := by decide +kernel
theorem dJ6_numberOfLeadingZeros_0f7a4_1 : decode cJ6_numberOfLeadingZeros_0f7a4 1 = .ok (.ifCond .gt 14, 3) := by decide +kernel
theorem dJ6_numberOfLeadingZeros_0f7a4_4 : decode cJ6_numberOfLeadingZeros_0f7a4 4 = .ok (.iload_n 0, 1) := by decide +kernel
theorem dJ6_numberOfLeadingZeros_0f7a4_5 : decode cJ6_numberOfLeadingZeros_0f7a4 5 = .ok (.ifCond .ne 8, 3) := by decide +kernel
theorem dJ6_numberOfLeadingZeros_0f7a4_8 : decode cJ6_numberOfLeadingZeros_0f7a4 8 = .ok (.bipush 32, 2) := by decide +kernel
theorem dJ6_numberOfLeadingZeros_0f7a4_10 : decode cJ6_numberOfLeadingZeros_0f7a4 10 = .ok (.goto 4, 3) := by decide +kernel
theorem dJ6_numberOfLeadingZeros_0f7a4_13 : decode cJ6_numberOfLeadingZeros_0f7a4 13 = .ok (.iconst 0, 1) := by decide +kernel
theorem dJ6_numberOfLeadingZeros_0f7a4_14 : decode cJ6_numberOfLeadingZeros_0f7a4 14 = .ok (.ireturn, 1) := by decide +kernel
theorem dJ6_numberOfLeadingZeros_0f7a4_15 : decode cJ6_numberOfLeadingZeros_0f7a4 15 = .ok (.bipush 31, 2) := by decide +kernel
theorem dJ6_numberOfLeadingZeros_0f7a4_17 : decode cJ6_numberOfLeadingZeros_0f7a4 17 = .ok (.istore_n 1, 1) := by decide +kernel
theorem dJ6_numberOfLeadingZeros_0f7a4_18 : decode cJ6_numberOfLeadingZeros_0f7a4 18 = .ok (.iload_n 0, 1) := by decide +kernel
theorem dJ6_numberOfLeadingZeros_0f7a4_19 : decode cJ6_numberOfLeadingZeros_0f7a4 19 = .ok (.ldc_w 264, 3) := by decide +kernel
theorem dJ6_numberOfLeadingZeros_0f7a4_22 : decode cJ6_numberOfLeadingZeros_0f7a4 22 = .ok (.if_icmp .lt 11, 3) := by decide +kernel
theorem dJ6_numberOfLeadingZeros_0f7a4_25 : decode cJ6_numberOfLeadingZeros_0f7a4 25 = .ok (.iinc 1 (-16), 3) := by decide +kernel
theorem dJ6_numberOfLeadingZeros_0f7a4_28 : decode cJ6_numberOfLeadingZeros_0f7a4 28 = .ok (.iload_n 0, 1) := by decide +kernel
theorem dJ6_numberOfLeadingZeros_0f7a4_29 : decode cJ6_numberOfLeadingZeros_0f7a4 29 = .ok (.bipush 16, 2) := by decide +kernel
theorem dJ6_numberOfLeadingZeros_0f7a4_31 : decode cJ6_numberOfLeadingZeros_0f7a4 31 = .ok (.iushr, 1) := by decide +kernel
theorem dJ6_numberOfLeadingZeros_0f7a4_32 : decode cJ6_numberOfLeadingZeros_0f7a4 32 = .ok (.istore_n 0, 1) := by decide +kernel
theorem dJ6_numberOfLeadingZeros_0f7a4_33 : decode cJ6_numberOfLeadingZeros_0f7a4 33 = .ok (.iload_n 0, 1) := by decide +kernel
theorem dJ6_numberOfLeadingZeros_0f7a4_34 : decode cJ6_numberOfLeadingZeros_0f7a4 34 = .ok (.sipush 256, 3) := by decide +kernel
theorem dJ6_numberOfLeadingZeros_0f7a4_37 : decode cJ6_numberOfLeadingZeros_0f7a4 37 = .ok (.if_icmp .lt 11, 3) := by decide +kernel
theorem dJ6_numberOfLeadingZeros_0f7a4_40 : decode cJ6_numberOfLeadingZeros_0f7a4 40 = .ok (.iinc 1 (-8), 3) := by decide +kernel
theorem dJ6_numberOfLeadingZeros_0f7a4_43 : decode cJ6_numberOfLeadingZeros_0f7a4 43 = .ok (.iload_n 0, 1) := by decide +kernel
theorem dJ6_numberOfLeadingZeros_0f7a4_44 : decode cJ6_numberOfLeadingZeros_0f7a4 44 = .ok (.bipush 8, 2) := by decide +kernel
theorem dJ6_numberOfLeadingZeros_0f7a4_46 : decode cJ6_numberOfLeadingZeros_0f7a4 46 = .ok (.iushr, 1) := by decide +kernel
theorem dJ6_numberOfLeadingZeros_0f7a4_47 : decode cJ6_numberOfLeadingZeros_0f7a4 47 = .ok (.istore_n 0, 1) := by decide +kernel
theorem dJ6_numberOfLeadingZeros_0f7a4_48 : decode cJ6_numberOfLeadingZeros_0f7a4 48 = .ok (.iload_n 0, 1) := by decide +kernel
theorem dJ6_numberOfLeadingZeros_0f7a4_49 : decode cJ6_numberOfLeadingZeros_0f7a4 49 = .ok (.bipush 16, 2) := by decide +kernel
theorem dJ6_numberOfLeadingZeros_0f7a4_51 : decode cJ6_numberOfLeadingZeros_0f7a4 51 = .ok (.if_icmp .lt 10, 3) := by decide +kernel
theorem dJ6_numberOfLeadingZeros_0f7a4_54 : decode cJ6_numberOfLeadingZeros_0f7a4 54 = .ok (.iinc 1 (-4), 3) := by decide +kernel
theorem dJ6_numberOfLeadingZeros_0f7a4_57 : decode cJ6_numberOfLeadingZeros_0f7a4 57 = .ok (.iload_n 0, 1) := by decide +kernel
theorem dJ6_numberOfLeadingZeros_0f7a4_58 : decode cJ6_numberOfLeadingZeros_0f7a4 58 = .ok (.iconst 4, 1) := by decide +kernel
theorem dJ6_numberOfLeadingZeros_0f7a4_59 : decode cJ6_numberOfLeadingZeros_0f7a4 59 = .ok (.iushr, 1) := by decide +kernel
theorem dJ6_numberOfLeadingZeros_0f7a4_60 : decode cJ6_numberOfLeadingZeros_0f7a4 60 = .ok (.istore_n 0, 1) := by decide +kernel
theorem dJ6_numberOfLeadingZeros_0f7a4_61 : decode cJ6_numberOfLeadingZeros_0f7a4 61 = .ok (.iload_n 0, 1) := by decide +kernel
theorem dJ6_numberOfLeadingZeros_0f7a4_62 : decode cJ6_numberOfLeadingZeros_0f7a4 62 = .ok (.iconst 4, 1) := by decide +kernel
theorem dJ6_numberOfLeadingZeros_0f7a4_63 : decode cJ6_numberOfLeadingZeros_0f7a4 63 = .ok (.if_icmp .lt 10, 3) := by decide +kernel
theorem dJ6_numberOfLeadingZeros_0f7a4_66 : decode cJ6_numberOfLeadingZeros_0f7a4 66 = .ok (.iinc 1 (-2), 3) := by decide +kernel
theorem dJ6_numberOfLeadingZeros_0f7a4_69 : decode cJ6_numberOfLeadingZeros_0f7a4 69 = .ok (.iload_n 0, 1) := by decide +kernel
theorem dJ6_numberOfLeadingZeros_0f7a4_70 : decode cJ6_numberOfLeadingZeros_0f7a4 70 = .ok (.iconst 2, 1) := by decide +kernel
theorem dJ6_numberOfLeadingZeros_0f7a4_71 : decode cJ6_numberOfLeadingZeros_0f7a4 71 = .ok (.iushr, 1) := by decide +kernel
theorem dJ6_numberOfLeadingZeros_0f7a4_72 : decode cJ6_numberOfLeadingZeros_0f7a4 72 = .ok (.istore_n 0, 1) := by decide +kernel
theorem dJ6_numberOfLeadingZeros_0f7a4_73 : decode cJ6_numberOfLeadingZeros_0f7a4 73 = .ok (.iload_n 1, 1) := by decide +kernel
theorem dJ6_numberOfLeadingZeros_0f7a4_74 : decode cJ6_numberOfLeadingZeros_0f7a4 74 = .ok (.iload_n 0, 1) := by decide +kernel
theorem dJ6_numberOfLeadingZeros_0f7a4_75 : decode cJ6_numberOfLeadingZeros_0f7a4 75 = .ok (.iconst 1, 1) := by decide +kernel
theorem dJ6_numberOfLeadingZeros_0f7a4_76 : decode cJ6_numberOfLeadingZeros_0f7a4 76 = .ok (.iushr, 1) := by decide +kernel
theorem dJ6_numberOfLeadingZeros_0f7a4_77 : decode cJ6_numberOfLeadingZeros_0f7a4 77 = .ok (.isub, 1) := by decide +kernel
theorem dJ6_numberOfLeadingZeros_0f7a4_78 : decode cJ6_numberOfLeadingZeros_0f7a4 78 = .ok (.ireturn, 1) := by decide +kernel
theorem dJ6_numberOfTrailingZeros_0f7a4_0 : decode cJ6_numberOfTrailingZeros_0f7a4 0 = .ok (.iload_n 0, 1) := by decide +kernel
theorem dJ6_numberOfTrailingZeros_0f7a4_1 : decode cJ6_numberOfTrailingZeros_0f7a4 1 = .ok (.iconst (-1), 1) := by decide +kernel
theorem dJ6_numberOfTrailingZeros_0f7a4_2 : decode cJ6_numberOfTrailingZeros_0f7a4 2 = .ok (.ixor, 1) := by decide +kernel
theorem dJ6_numberOfTrailingZeros_0f7a4_3 : decode cJ6_numberOfTrailingZeros_0f7a4 3 = .ok (.iload_n 0, 1) := by decide +kernel
theorem dJ6_numberOfTrailingZeros_0f7a4_4 : decode cJ6_numberOfTrailingZeros_0f7a4 4 = .ok (.iconst 1, 1) := by decide +kernel
theorem dJ6_numberOfTrailingZeros_0f7a4_5 : decode cJ6_numberOfTrailingZeros_0f7a4 5 = .ok (.isub, 1) := by decide +kernel
theorem dJ6_numberOfTrailingZeros_0f7a4_6 : decode cJ6_numberOfTrailingZeros_0f7a4 6 = .ok (.iand, 1) := by decide +kernel
theorem dJ6_numberOfTrailingZeros_0f7a4_7 : decode cJ6_numberOfTrailingZeros_0f7a4 7 = .ok (.istore_n 0, 1) := by decide +kernel
theorem dJ6_numberOfTrailingZeros_0f7a4_8 : decode cJ6_numberOfTrailingZeros_0f7a4 8 = .ok (.iload_n 0, 1) := by decide +kernel
theorem dJ6_numberOfTrailingZeros_0f7a4_9 : decode cJ6_numberOfTrailingZeros_0f7a4 9 = .ok (.ifCond .gt 8, 3) := by decide +kernel
theorem dJ6_numberOfTrailingZeros_0f7a4_12 : decode cJ6_numberOfTrailingZeros_0f7a4 12 = .ok (.iload_n 0, 1) := by decide +kernel
theorem dJ6_numberOfTrailingZeros_0f7a4_13 : decode cJ6_numberOfTrailingZeros_0f7a4 13 = .ok (.bipush 32, 2) := by decide +kernel
theorem dJ6_numberOfTrailingZeros_0f7a4_15 : decode cJ6_numberOfTrailingZeros_0f7a4 15 = .ok (.iand, 1) := by decide +kernel
theorem dJ6_numberOfTrailingZeros_0f7a4_16 : decode cJ6_numberOfTrailingZeros_0f7a4 16 = .ok (.ireturn, 1) := by decide +kernel
theorem dJ6_numberOfTrailingZeros_0f7a4_17 : decode cJ6_numberOfTrailingZeros_0f7a4 17 = .ok (.iconst 1, 1) := by decide +kernel
theorem dJ6_numberOfTrailingZeros_0f7a4_18 : decode cJ6_numberOfTrailingZeros_0f7a4 18 = .ok (.istore_n 1, 1) := by decide +kernel
theorem dJ6_numberOfTrailingZeros_0f7a4_19 : decode cJ6_numberOfTrailingZeros_0f7a4 19 = .ok (.iload_n 0, 1) := by decide +kernel
theorem dJ6_numberOfTrailingZeros_0f7a4_20 : decode cJ6_numberOfTrailingZeros_0f7a4 20 = .ok (.ldc_w 264, 3) := by decide +kernel
theorem dJ6_numberOfTrailingZeros_0f7a4_23 : decode cJ6_numberOfTrailingZeros_0f7a4 23 = .ok (.if_icmp .le 11, 3) := by decide +kernel
theorem dJ6_numberOfTrailingZeros_0f7a4_26 : decode cJ6_numberOfTrailingZeros_0f7a4 26 = .ok (.iinc 1 16, 3) := by decide +kernel
theorem dJ6_numberOfTrailingZeros_0f7a4_29 : decode cJ6_numberOfTrailingZeros_0f7a4 29 = .ok (.iload_n 0, 1) := by decide +kernel
theorem dJ6_numberOfTrailingZeros_0f7a4_30 : decode cJ6_numberOfTrailingZeros_0f7a4 30 = .ok (.bipush 16, 2) := by decide +kernel
theorem dJ6_numberOfTrailingZeros_0f7a4_32 : decode cJ6_numberOfTrailingZeros_0f7a4 32 = .ok (.iushr, 1) := by decide +kernel
theorem dJ6_numberOfTrailingZeros_0f7a4_33 : decode cJ6_numberOfTrailingZeros_0f7a4 33 = .ok (.istore_n 0, 1) := by decide +kernel
theorem dJ6_numberOfTrailingZeros_0f7a4_34 : decode cJ6_numberOfTrailingZeros_0f7a4 34 = .ok (.iload_n 0, 1) := by decide +kernel
theorem dJ6_numberOfTrailingZeros_0f7a4_35 : decode cJ6_numberOfTrailingZeros_0f7a4 35 = .ok (.sipush 256, 3) := by decide +kernel
theorem dJ6_numberOfTrailingZeros_0f7a4_38 : decode cJ6_numberOfTrailingZeros_0f7a4 38 = .ok (.if_icmp .le 11, 3) := by decide +kernel
theorem dJ6_numberOfTrailingZeros_0f7a4_41 : decode cJ6_numberOfTrailingZeros_0f7a4 41 = .ok (.iinc 1 8, 3) := by decide +kernel
theorem dJ6_numberOfTrailingZeros_0f7a4_44 : decode cJ6_numberOfTrailingZeros_0f7a4 44 = .ok (.iload_n 0, 1) := by decide +kernel
theorem dJ6_numberOfTrailingZeros_0f7a4_45 : decode cJ6_numberOfTrailingZeros_0f7a4 45 = .ok (.bipush 8, 2) := by decide +kernel
theorem dJ6_numberOfTrailingZeros_0f7a4_47 : decode cJ6_numberOfTrailingZeros_0f7a4 47 = .ok (.iushr, 1) := by decide +kernel
theorem dJ6_numberOfTrailingZeros_0f7a4_48 : decode cJ6_numberOfTrailingZeros_0f7a4 48 = .ok (.istore_n 0, 1) := by decide +kernel
theorem dJ6_numberOfTrailingZeros_0f7a4_49 : decode cJ6_numberOfTrailingZeros_0f7a4 49 = .ok (.iload_n 0, 1) := by decide +kernel
theorem dJ6_numberOfTrailingZeros_0f7a4_50 : decode cJ6_numberOfTrailingZeros_0f7a4 50 = .ok (.bipush 16, 2) := by decide +kernel
theorem dJ6_numberOfTrailingZeros_0f7a4_52 : decode cJ6_numberOfTrailingZeros_0f7a4 52 = .ok (.if_icmp .le 10, 3) := by decide +kernel
theorem dJ6_numberOfTrailingZeros_0f7a4_55 : decode cJ6_numberOfTrailingZeros_0f7a4 55 = .ok (.iinc 1 4, 3) := by decide +kernel
theorem dJ6_numberOfTrailingZeros_0f7a4_58 : decode cJ6_numberOfTrailingZeros_0f7a4 58 = .ok (.iload_n 0, 1) := by decide +kernel
theorem dJ6_numberOfTrailingZeros_0f7a4_59 : decode cJ6_numberOfTrailingZeros_0f7a4 59 = .ok (.iconst 4, 1) := by decide +kernel
theorem dJ6_numberOfTrailingZeros_0f7a4_60 : decode cJ6_numberOfTrailingZeros_0f7a4 60 = .ok (.iushr, 1) := by decide +kernel
theorem dJ6_numberOfTrailingZeros_0f7a4_61 : decode cJ6_numberOfTrailingZeros_0f7a4 61 = .ok (.istore_n 0, 1) := by decide +kernel
theorem dJ6_numberOfTrailingZeros_0f7a4_62 : decode cJ6_numberOfTrailingZeros_0f7a4 62 = .ok (.iload_n 0, 1) := by decide +kernel
theorem dJ6_numberOfTrailingZeros_0f7a4_63 : decode cJ6_numberOfTrailingZeros_0f7a4 63 = .ok (.iconst 4, 1) := by decide +kernel
theorem dJ6_numberOfTrailingZeros_0f7a4_64 : decode cJ6_numberOfTrailingZeros_0f7a4 64 = .ok (.if_icmp .le 10, 3) := by decide +kernel
theorem dJ6_numberOfTrailingZeros_0f7a4_67 : decode cJ6_numberOfTrailingZeros_0f7a4 67 = .ok (.iinc 1 2, 3) := by decide +kernel
theorem dJ6_numberOfTrailingZeros_0f7a4_70 : decode cJ6_numberOfTrailingZeros_0f7a4 70 = .ok (.iload_n 0, 1) := by decide +kernel
theorem dJ6_numberOfTrailingZeros_0f7a4_71 : decode cJ6_numberOfTrailingZeros_0f7a4 71 = .ok (.iconst 2, 1) := by decide +kernel
theorem dJ6_numberOfTrailingZeros_0f7a4_72 : decode cJ6_numberOfTrailingZeros_0f7a4 72 = .ok (.iushr, 1) := by decide +kernel
theorem dJ6_numberOfTrailingZeros_0f7a4_73 : decode cJ6_numberOfTrailingZeros_0f7a4 73 = .ok (.istore_n 0, 1) := by decide +kernel
theorem dJ6_numberOfTrailingZeros_0f7a4_74 : decode cJ6_numberOfTrailingZeros_0f7a4 74 = .ok (.iload_n 1, 1) := by decide +kernel
theorem dJ6_numberOfTrailingZeros_0f7a4_75 : decode cJ6_numberOfTrailingZeros_0f7a4 75 = .ok (.iload_n 0, 1) := by decide +kernel
theorem dJ6_numberOfTrailingZeros_0f7a4_76 : decode cJ6_numberOfTrailingZeros_0f7a4 76 = .ok (.iconst 1, 1) := by decide +kernel
theorem dJ6_numberOfTrailingZeros_0f7a4_77 : decode cJ6_numberOfTrailingZeros_0f7a4 77 = .ok (.iushr, 1) := by decide +kernel
theorem dJ6_numberOfTrailingZeros_0f7a4_78 : decode cJ6_numberOfTrailingZeros_0f7a4 78 = .ok (.iadd, 1) := by decide +kernel
theorem dJ6_numberOfTrailingZeros_0f7a4_79 : decode cJ6_numberOfTrailingZeros_0f7a4 79 = .ok (.ireturn, 1) := by decide +kernel
theorem dJ9_max_7cf53_0 : decode cJ9_max_7cf53 0 = .ok (.iload_n 0, 1) := by decide +kernel
theorem dJ9_max_7cf53_1 : decode cJ9_max_7cf53 1 = .ok (.iload_n 1, 1) := by decide +kernel
theorem dJ9_max_7cf53_2 : decode cJ9_max_7cf53 2 = .ok (.if_icmp .lt 7, 3) := by decide +kernel
theorem dJ9_max_7cf53_5 : decode cJ9_max_7cf53 5 = .ok (.iload_n 0, 1) := by decide +kernel
theorem dJ9_max_7cf53_6 : decode cJ9_max_7cf53 6 = .ok (.goto 4, 3) := by decide +kernel
theorem dJ9_max_7cf53_9 : decode cJ9_max_7cf53 9 = .ok (.iload_n 1, 1) := by decide +kernel
theorem dJ9_max_7cf53_10 : decode cJ9_max_7cf53 10 = .ok (.ireturn, 1) := by decide +kernel
theorem dJ9_min_7cf53_0 : decode cJ9_min_7cf53 0 = .ok (.iload_n 0, 1) := by decide +kernel
theorem dJ9_min_7cf53_1 : decode cJ9_min_7cf53 1 = .ok (.iload_n 1, 1) := by decide +kernel
theorem dJ9_min_7cf53_2 : decode cJ9_min_7cf53 2 = .ok (.if_icmp .gt 7, 3) := by decide +kernel
theorem dJ9_min_7cf53_5 : decode cJ9_min_7cf53 5 = .ok (.iload_n 0, 1) := by decide +kernel
theorem dJ9_min_7cf53_6 : decode cJ9_min_7cf53 6 = .ok (.goto 4, 3) := by decide +kernel
theorem dJ9_min_7cf53_9 : decode cJ9_min_7cf53 9 = .ok (.iload_n 1, 1) := by decide +kernel
theorem dJ9_min_7cf53_10 : decode cJ9_min_7cf53 10 = .ok (.ireturn, 1) := by decide +kernel
theorem dJ13_compare_74951_0 : decode cJ13_compare_74951 0 = .ok (.lload_n 0, 1) := by decide +kernel
theorem dJ13_compare_74951_1 : decode cJ13_compare_74951 1 = .ok (.lload_n 2, 1) := by decide +kernel
theorem dJ13_compare_74951_2 : decode cJ13_compare_74951 2 = .ok (.lcmp, 1) := by decide +kernel
theorem dJ13_compare_74951_3 : decode cJ13_compare_74951 3 = .ok (.ifCond .ge 7, 3) := by decide +kernel
theorem dJ13_compare_74951_6 : decode cJ13_compare_74951 6 = .ok (.iconst (-1), 1) := by decide +kernel
theorem dJ13_compare_74951_7 : decode cJ13_compare_74951 7 = .ok (.goto 14, 3) := by decide +kernel
theorem dJ13_compare_74951_10 : decode cJ13_compare_74951 10 = .ok (.lload_n 0, 1) := by decide +kernel
theorem dJ13_compare_74951_11 : decode cJ13_compare_74951 11 = .ok (.lload_n 2, 1) := by decide +kernel
theorem dJ13_compare_74951_12 : decode cJ13_compare_74951 12 = .ok (.lcmp, 1) := by decide +kernel
theorem dJ13_compare_74951_13 : decode cJ13_compare_74951 13 = .ok (.ifCond .ne 7, 3) := by decide +kernel
theorem dJ13_compare_74951_16 : decode cJ13_compare_74951 16 = .ok (.iconst 0, 1) := by decide +kernel
theorem dJ13_compare_74951_17 : decode cJ13_compare_74951 17 = .ok (.goto 4, 3) := by decide +kernel
theorem dJ13_compare_74951_20 : decode cJ13_compare_74951 20 = .ok (.iconst 1, 1) := by decide +kernel
theorem dJ13_compare_74951_21 : decode cJ13_compare_74951 21 = .ok (.ireturn, 1) := by decide +kernel
theorem dJ13_compareUnsigned_74951_0 : decode cJ13_compareUnsigned_74951 0 = .ok (.lload_n 0, 1) := by decide +kernel
theorem dJ13_compareUnsigned_74951_1 : decode cJ13_compareUnsigned_74951 1 = .ok (.ldc2_w 168, 3) := by decide +kernel
theorem dJ13_compareUnsigned_74951_4 : decode cJ13_compareUnsigned_74951 4 = .ok (.ladd, 1) := by decide +kernel
theorem dJ13_compareUnsigned_74951_5 : decode cJ13_compareUnsigned_74951 5 = .ok (.lload_n 2, 1) := by decide +kernel
theorem dJ13_compareUnsigned_74951_6 : decode cJ13_compareUnsigned_74951 6 = .ok (.ldc2_w 168, 3) := by decide +kernel
theorem dJ13_compareUnsigned_74951_9 : decode cJ13_compareUnsigned_74951 9 = .ok (.ladd, 1) := by decide +kernel
theorem dJ13_compareUnsigned_74951_10 : decode cJ13_compareUnsigned_74951 10 = .ok (.invokestatic 302, 3) := by decide +kernel
theorem dJ13_compareUnsigned_74951_13 : decode cJ13_compareUnsigned_74951 13 = .ok (.ireturn, 1) := by decide +kernel
theorem dX9_init_0 : decode cX9_init 0 = .ok (.aload_n 0, 1) := by decide +kernel
theorem dX9_init_1 : decode cX9_init 1 = .ok (.invokespecial 3, 3) := by decide +kernel
theorem dX9_init_4 : decode cX9_init 4 = .ok (.aload_n 0, 1) := by decide +kernel
theorem dX9_init_5 : decode cX9_init 5 = .ok (.iconst 1, 1) := by decide +kernel
theorem dX9_init_6 : decode cX9_init 6 = .ok (.iload_n 1, 1) := by decide +kernel
theorem dX9_init_7 : decode cX9_init 7 = .ok (.invokestatic 9, 3) := by decide +kernel
theorem dX9_init_10 : decode cX9_init 10 = .ok (.newarray .int, 2) := by decide +kernel
theorem dX9_init_12 : decode cX9_init 12 = .ok (.putfield 15, 3) := by decide +kernel
theorem dX9_init_15 : decode cX9_init 15 = .ok (.return_, 1) := by decide +kernel
theorem dX9_become_0 : decode cX9_become 0 = .ok (.aload_n 0, 1) := by decide +kernel
theorem dX9_become_1 : decode cX9_become 1 = .ok (.getfield 15, 3) := by decide +kernel
theorem dX9_become_4 : decode cX9_become 4 = .ok (.iconst 0, 1) := by decide +kernel
theorem dX9_become_5 : decode cX9_become 5 = .ok (.iload_n 1, 1) := by decide +kernel
theorem dX9_become_6 : decode cX9_become 6 = .ok (.iastore, 1) := by decide +kernel
theorem dX9_become_7 : decode cX9_become 7 = .ok (.aload_n 0, 1) := by decide +kernel
theorem dX9_become_8 : decode cX9_become 8 = .ok (.iconst 1, 1) := by decide +kernel
theorem dX9_become_9 : decode cX9_become 9 = .ok (.invokevirtual 21, 3) := by decide +kernel
theorem dX9_become_12 : decode cX9_become 12 = .ok (.return_, 1) := by decide +kernel
theorem dX9_copy_0 : decode cX9_copy 0 = .ok (.aload_n 1, 1) := by decide +kernel
theorem dX9_copy_1 : decode cX9_copy 1 = .ok (.getfield 25, 3) := by decide +kernel
theorem dX9_copy_4 : decode cX9_copy 4 = .ok (.aload_n 0, 1) := by decide +kernel
theorem dX9_copy_5 : decode cX9_copy 5 = .ok (.getfield 15, 3) := by decide +kernel
theorem dX9_copy_8 : decode cX9_copy 8 = .ok (.arraylength, 1) := by decide +kernel
theorem dX9_copy_9 : decode cX9_copy 9 = .ok (.invokestatic 29, 3) := by decide +kernel
theorem dX9_copy_12 : decode cX9_copy 12 = .ok (.istore_n 2, 1) := by decide +kernel
theorem dX9_copy_13 : decode cX9_copy 13 = .ok (.aload_n 1, 1) := by decide +kernel
theorem dX9_copy_14 : decode cX9_copy 14 = .ok (.getfield 15, 3) := by decide +kernel
theorem dX9_copy_17 : decode cX9_copy 17 = .ok (.iconst 0, 1) := by decide +kernel
theorem dX9_copy_18 : decode cX9_copy 18 = .ok (.aload_n 0, 1) := by decide +kernel
theorem dX9_copy_19 : decode cX9_copy 19 = .ok (.getfield 15, 3) := by decide +kernel
theorem dX9_copy_22 : decode cX9_copy 22 = .ok (.iconst 0, 1) := by decide +kernel
theorem dX9_copy_23 : decode cX9_copy 23 = .ok (.iload_n 2, 1) := by decide +kernel
theorem dX9_copy_24 : decode cX9_copy 24 = .ok (.invokestatic 32, 3) := by decide +kernel
theorem dX9_copy_27 : decode cX9_copy 27 = .ok (.aload_n 0, 1) := by decide +kernel
theorem dX9_copy_28 : decode cX9_copy 28 = .ok (.iload_n 2, 1) := by decide +kernel
theorem dX9_copy_29 : decode cX9_copy 29 = .ok (.putfield 25, 3) := by decide +kernel
theorem dX9_copy_32 : decode cX9_copy 32 = .ok (.aload_n 0, 1) := by decide +kernel
theorem dX9_copy_33 : decode cX9_copy 33 = .ok (.aload_n 1, 1) := by decide +kernel
theorem dX9_copy_34 : decode cX9_copy 34 = .ok (.getfield 38, 3) := by decide +kernel
theorem dX9_copy_37 : decode cX9_copy 37 = .ok (.putfield 38, 3) := by decide +kernel
theorem dX9_copy_40 : decode cX9_copy 40 = .ok (.return_, 1) := by decide +kernel
theorem dX9_keep_0 : decode cX9_keep 0 = .ok (.aload_n 0, 1) := by decide +kernel
theorem dX9_keep_1 : decode cX9_keep 1 = .ok (.iconst 0, 1) := by decide +kernel
theorem dX9_keep_2 : decode cX9_keep 2 = .ok (.iload_n 1, 1) := by decide +kernel
theorem dX9_keep_3 : decode cX9_keep 3 = .ok (.aload_n 0, 1) := by decide +kernel
theorem dX9_keep_4 : decode cX9_keep 4 = .ok (.getfield 15, 3) := by decide +kernel
theorem dX9_keep_7 : decode cX9_keep 7 = .ok (.arraylength, 1) := by decide +kernel
theorem dX9_keep_8 : decode cX9_keep 8 = .ok (.invokestatic 29, 3) := by decide +kernel
theorem dX9_keep_11 : decode cX9_keep 11 = .ok (.invokestatic 9, 3) := by decide +kernel
theorem dX9_keep_14 : decode cX9_keep 14 = .ok (.putfield 25, 3) := by decide +kernel
theorem dX9_keep_17 : decode cX9_keep 17 = .ok (.aload_n 0, 1) := by decide +kernel
theorem dX9_keep_18 : decode cX9_keep 18 = .ok (.getfield 25, 3) := by decide +kernel
theorem dX9_keep_21 : decode cX9_keep 21 = .ok (.ifCond .le 30, 3) := by decide +kernel
theorem dX9_keep_24 : decode cX9_keep 24 = .ok (.aload_n 0, 1) := by decide +kernel
theorem dX9_keep_25 : decode cX9_keep 25 = .ok (.getfield 15, 3) := by decide +kernel
theorem dX9_keep_28 : decode cX9_keep 28 = .ok (.aload_n 0, 1) := by decide +kernel
theorem dX9_keep_29 : decode cX9_keep 29 = .ok (.getfield 25, 3) := by decide +kernel
theorem dX9_keep_32 : decode cX9_keep 32 = .ok (.iconst 1, 1) := by decide +kernel
theorem dX9_keep_33 : decode cX9_keep 33 = .ok (.isub, 1) := by decide +kernel
theorem dX9_keep_34 : decode cX9_keep 34 = .ok (.iaload, 1) := by decide +kernel
theorem dX9_keep_35 : decode cX9_keep 35 = .ok (.ifCond .ne 16, 3) := by decide +kernel
theorem dX9_keep_38 : decode cX9_keep 38 = .ok (.aload_n 0, 1) := by decide +kernel
theorem dX9_keep_39 : decode cX9_keep 39 = .ok (.dup, 1) := by decide +kernel
theorem dX9_keep_40 : decode cX9_keep 40 = .ok (.getfield 25, 3) := by decide +kernel
theorem dX9_keep_43 : decode cX9_keep 43 = .ok (.iconst 1, 1) := by decide +kernel
theorem dX9_keep_44 : decode cX9_keep 44 = .ok (.isub, 1) := by decide +kernel
theorem dX9_keep_45 : decode cX9_keep 45 = .ok (.putfield 25, 3) := by decide +kernel
theorem dX9_keep_48 : decode cX9_keep 48 = .ok (.goto (-31), 3) := by decide +kernel
theorem dX9_keep_51 : decode cX9_keep 51 = .ok (.aload_n 0, 1) := by decide +kernel
theorem dX9_keep_52 : decode cX9_keep 52 = .ok (.iconst 0, 1) := by decide +kernel
theorem dX9_keep_53 : decode cX9_keep 53 = .ok (.putfield 38, 3) := by decide +kernel
theorem dX9_keep_56 : decode cX9_keep 56 = .ok (.return_, 1) := by decide +kernel
theorem dX9_takeSign_0 : decode cX9_takeSign 0 = .ok (.aload_n 0, 1) := by decide +kernel
theorem dX9_takeSign_1 : decode cX9_takeSign 1 = .ok (.iload_n 1, 1) := by decide +kernel
theorem dX9_takeSign_2 : decode cX9_takeSign 2 = .ok (.ifCond .eq 14, 3) := by decide +kernel
theorem dX9_takeSign_5 : decode cX9_takeSign 5 = .ok (.aload_n 0, 1) := by decide +kernel
theorem dX9_takeSign_6 : decode cX9_takeSign 6 = .ok (.getfield 25, 3) := by decide +kernel
theorem dX9_takeSign_9 : decode cX9_takeSign 9 = .ok (.ifCond .le 7, 3) := by decide +kernel
theorem dX9_takeSign_12 : decode cX9_takeSign 12 = .ok (.iconst 1, 1) := by decide +kernel
theorem dX9_takeSign_13 : decode cX9_takeSign 13 = .ok (.goto 4, 3) := by decide +kernel
theorem dX9_takeSign_16 : decode cX9_takeSign 16 = .ok (.iconst 0, 1) := by decide +kernel
theorem dX9_takeSign_17 : decode cX9_takeSign 17 = .ok (.putfield 38, 3) := by decide +kernel
theorem dX9_takeSign_20 : decode cX9_takeSign 20 = .ok (.return_, 1) := by decide +kernel
theorem dX9_isAboveZero_0 : decode cX9_isAboveZero 0 = .ok (.aload_n 0, 1) := by decide +kernel
theorem dX9_isAboveZero_1 : decode cX9_isAboveZero 1 = .ok (.getfield 25, 3) := by decide +kernel
theorem dX9_isAboveZero_4 : decode cX9_isAboveZero 4 = .ok (.ifCond .le 14, 3) := by decide +kernel
theorem dX9_isAboveZero_7 : decode cX9_isAboveZero 7 = .ok (.aload_n 0, 1) := by decide +kernel
theorem dX9_isAboveZero_8 : decode cX9_isAboveZero 8 = .ok (.getfield 38, 3) := by decide +kernel
theorem dX9_isAboveZero_11 : decode cX9_isAboveZero 11 = .ok (.ifCond .ne 7, 3) := by decide +kernel
theorem dX9_isAboveZero_14 : decode cX9_isAboveZero 14 = .ok (.iconst 1, 1) := by decide +kernel
theorem dX9_isAboveZero_15 : decode cX9_isAboveZero 15 = .ok (.goto 4, 3) := by decide +kernel
theorem dX9_isAboveZero_18 : decode cX9_isAboveZero 18 = .ok (.iconst 0, 1) := by decide +kernel
theorem dX9_isAboveZero_19 : decode cX9_isAboveZero 19 = .ok (.ireturn, 1) := by decide +kernel
theorem dX9_isOdd_0 : decode cX9_isOdd 0 = .ok (.aload_n 0, 1) := by decide +kernel
theorem dX9_isOdd_1 : decode cX9_isOdd 1 = .ok (.iconst 0, 1) := by decide +kernel
theorem dX9_isOdd_2 : decode cX9_isOdd 2 = .ok (.invokevirtual 42, 3) := by decide +kernel
theorem dX9_isOdd_5 : decode cX9_isOdd 5 = .ok (.lconst 1, 1) := by decide +kernel
theorem dX9_isOdd_6 : decode cX9_isOdd 6 = .ok (.land, 1) := by decide +kernel
theorem dX9_isOdd_7 : decode cX9_isOdd 7 = .ok (.lconst 1, 1) := by decide +kernel
theorem dX9_isOdd_8 : decode cX9_isOdd 8 = .ok (.lcmp, 1) := by decide +kernel
theorem dX9_isOdd_9 : decode cX9_isOdd 9 = .ok (.ifCond .ne 7, 3) := by decide +kernel
theorem dX9_isOdd_12 : decode cX9_isOdd 12 = .ok (.iconst 1, 1) := by decide +kernel
theorem dX9_isOdd_13 : decode cX9_isOdd 13 = .ok (.goto 4, 3) := by decide +kernel
theorem dX9_isOdd_16 : decode cX9_isOdd 16 = .ok (.iconst 0, 1) := by decide +kernel
theorem dX9_isOdd_17 : decode cX9_isOdd 17 = .ok (.ireturn, 1) := by decide +kernel
theorem dX9_limb_0 : decode cX9_limb 0 = .ok (.iload_n 1, 1) := by decide +kernel
theorem dX9_limb_1 : decode cX9_limb 1 = .ok (.ifCond .lt 11, 3) := by decide +kernel
theorem dX9_limb_4 : decode cX9_limb 4 = .ok (.iload_n 1, 1) := by decide +kernel
theorem dX9_limb_5 : decode cX9_limb 5 = .ok (.aload_n 0, 1) := by decide +kernel
theorem dX9_limb_6 : decode cX9_limb 6 = .ok (.getfield 25, 3) := by decide +kernel
theorem dX9_limb_9 : decode cX9_limb 9 = .ok (.if_icmp .lt 7, 3) := by decide +kernel
theorem dX9_limb_12 : decode cX9_limb 12 = .ok (.lconst 0, 1) := by decide +kernel
theorem dX9_limb_13 : decode cX9_limb 13 = .ok (.goto 14, 3) := by decide +kernel
theorem dX9_limb_16 : decode cX9_limb 16 = .ok (.aload_n 0, 1) := by decide +kernel
theorem dX9_limb_17 : decode cX9_limb 17 = .ok (.getfield 15, 3) := by decide +kernel
theorem dX9_limb_20 : decode cX9_limb 20 = .ok (.iload_n 1, 1) := by decide +kernel
theorem dX9_limb_21 : decode cX9_limb 21 = .ok (.iaload, 1) := by decide +kernel
theorem dX9_limb_22 : decode cX9_limb 22 = .ok (.i2l, 1) := by decide +kernel
theorem dX9_limb_23 : decode cX9_limb 23 = .ok (.ldc2_w 46, 3) := by decide +kernel
theorem dX9_limb_26 : decode cX9_limb 26 = .ok (.land, 1) := by decide +kernel
theorem dX9_limb_27 : decode cX9_limb 27 = .ok (.lreturn, 1) := by decide +kernel
theorem dX9_bits_0 : decode cX9_bits 0 = .ok (.aload_n 0, 1) := by decide +kernel
theorem dX9_bits_1 : decode cX9_bits 1 = .ok (.getfield 25, 3) := by decide +kernel
theorem dX9_bits_4 : decode cX9_bits 4 = .ok (.ifCond .ne 5, 3) := by decide +kernel
theorem dX9_bits_7 : decode cX9_bits 7 = .ok (.iconst 0, 1) := by decide +kernel
theorem dX9_bits_8 : decode cX9_bits 8 = .ok (.ireturn, 1) := by decide +kernel
theorem dX9_bits_9 : decode cX9_bits 9 = .ok (.bipush 32, 2) := by decide +kernel
theorem dX9_bits_11 : decode cX9_bits 11 = .ok (.aload_n 0, 1) := by decide +kernel
theorem dX9_bits_12 : decode cX9_bits 12 = .ok (.getfield 25, 3) := by decide +kernel
theorem dX9_bits_15 : decode cX9_bits 15 = .ok (.imul, 1) := by decide +kernel
theorem dX9_bits_16 : decode cX9_bits 16 = .ok (.aload_n 0, 1) := by decide +kernel
theorem dX9_bits_17 : decode cX9_bits 17 = .ok (.getfield 15, 3) := by decide +kernel
theorem dX9_bits_20 : decode cX9_bits 20 = .ok (.aload_n 0, 1) := by decide +kernel
theorem dX9_bits_21 : decode cX9_bits 21 = .ok (.getfield 25, 3) := by decide +kernel
theorem dX9_bits_24 : decode cX9_bits 24 = .ok (.iconst 1, 1) := by decide +kernel
theorem dX9_bits_25 : decode cX9_bits 25 = .ok (.isub, 1) := by decide +kernel
theorem dX9_bits_26 : decode cX9_bits 26 = .ok (.iaload, 1) := by decide +kernel
theorem dX9_bits_27 : decode cX9_bits 27 = .ok (.invokestatic 48, 3) := by decide +kernel
theorem dX9_bits_30 : decode cX9_bits 30 = .ok (.isub, 1) := by decide +kernel
theorem dX9_bits_31 : decode cX9_bits 31 = .ok (.ireturn, 1) := by decide +kernel
theorem dX9_hasBit_0 : decode cX9_hasBit 0 = .ok (.aload_n 0, 1) := by decide +kernel
theorem dX9_hasBit_1 : decode cX9_hasBit 1 = .ok (.iload_n 1, 1) := by decide +kernel
theorem dX9_hasBit_2 : decode cX9_hasBit 2 = .ok (.iconst 5, 1) := by decide +kernel
theorem dX9_hasBit_3 : decode cX9_hasBit 3 = .ok (.ishr, 1) := by decide +kernel
theorem dX9_hasBit_4 : decode cX9_hasBit 4 = .ok (.invokevirtual 42, 3) := by decide +kernel
theorem dX9_hasBit_7 : decode cX9_hasBit 7 = .ok (.iload_n 1, 1) := by decide +kernel
theorem dX9_hasBit_8 : decode cX9_hasBit 8 = .ok (.bipush 31, 2) := by decide +kernel
theorem dX9_hasBit_10 : decode cX9_hasBit 10 = .ok (.iand, 1) := by decide +kernel
theorem dX9_hasBit_11 : decode cX9_hasBit 11 = .ok (.lushr, 1) := by decide +kernel
theorem dX9_hasBit_12 : decode cX9_hasBit 12 = .ok (.lconst 1, 1) := by decide +kernel
theorem dX9_hasBit_13 : decode cX9_hasBit 13 = .ok (.land, 1) := by decide +kernel
theorem dX9_hasBit_14 : decode cX9_hasBit 14 = .ok (.lconst 1, 1) := by decide +kernel
theorem dX9_hasBit_15 : decode cX9_hasBit 15 = .ok (.lcmp, 1) := by decide +kernel
theorem dX9_hasBit_16 : decode cX9_hasBit 16 = .ok (.ifCond .ne 7, 3) := by decide +kernel
theorem dX9_hasBit_19 : decode cX9_hasBit 19 = .ok (.iconst 1, 1) := by decide +kernel
theorem dX9_hasBit_20 : decode cX9_hasBit 20 = .ok (.goto 4, 3) := by decide +kernel
theorem dX9_hasBit_23 : decode cX9_hasBit 23 = .ok (.iconst 0, 1) := by decide +kernel
theorem dX9_hasBit_24 : decode cX9_hasBit 24 = .ok (.ireturn, 1) := by decide +kernel
theorem dX9_window_0 : decode cX9_window 0 = .ok (.aload_n 0, 1) := by decide +kernel
theorem dX9_window_1 : decode cX9_window 1 = .ok (.iload_n 1, 1) := by decide +kernel
theorem dX9_window_2 : decode cX9_window 2 = .ok (.iconst 5, 1) := by decide +kernel
theorem dX9_window_3 : decode cX9_window 3 = .ok (.ishr, 1) := by decide +kernel
theorem dX9_window_4 : decode cX9_window 4 = .ok (.iconst 1, 1) := by decide +kernel
theorem dX9_window_5 : decode cX9_window 5 = .ok (.iadd, 1) := by decide +kernel
theorem dX9_window_6 : decode cX9_window 6 = .ok (.invokevirtual 42, 3) := by decide +kernel
theorem dX9_window_9 : decode cX9_window 9 = .ok (.bipush 32, 2) := by decide +kernel
theorem dX9_window_11 : decode cX9_window 11 = .ok (.lshl, 1) := by decide +kernel
theorem dX9_window_12 : decode cX9_window 12 = .ok (.aload_n 0, 1) := by decide +kernel
theorem dX9_window_13 : decode cX9_window 13 = .ok (.iload_n 1, 1) := by decide +kernel
theorem dX9_window_14 : decode cX9_window 14 = .ok (.iconst 5, 1) := by decide +kernel
theorem dX9_window_15 : decode cX9_window 15 = .ok (.ishr, 1) := by decide +kernel
theorem dX9_window_16 : decode cX9_window 16 = .ok (.invokevirtual 42, 3) := by decide +kernel
theorem dX9_window_19 : decode cX9_window 19 = .ok (.lor, 1) := by decide +kernel
theorem dX9_window_20 : decode cX9_window 20 = .ok (.lstore_n 2, 1) := by decide +kernel
theorem dX9_window_21 : decode cX9_window 21 = .ok (.lload_n 2, 1) := by decide +kernel
theorem dX9_window_22 : decode cX9_window 22 = .ok (.iload_n 1, 1) := by decide +kernel
theorem dX9_window_23 : decode cX9_window 23 = .ok (.bipush 31, 2) := by decide +kernel
theorem dX9_window_25 : decode cX9_window 25 = .ok (.iand, 1) := by decide +kernel
theorem dX9_window_26 : decode cX9_window 26 = .ok (.lushr, 1) := by decide +kernel
theorem dX9_window_27 : decode cX9_window 27 = .ok (.ldc2_w 46, 3) := by decide +kernel
theorem dX9_window_30 : decode cX9_window 30 = .ok (.land, 1) := by decide +kernel
theorem dX9_window_31 : decode cX9_window 31 = .ok (.lreturn, 1) := by decide +kernel
theorem dX9_lowZeros_0 : decode cX9_lowZeros 0 = .ok (.iconst 0, 1) := by decide +kernel
theorem dX9_lowZeros_1 : decode cX9_lowZeros 1 = .ok (.istore_n 1, 1) := by decide +kernel
theorem dX9_lowZeros_2 : decode cX9_lowZeros 2 = .ok (.iload_n 1, 1) := by decide +kernel
theorem dX9_lowZeros_3 : decode cX9_lowZeros 3 = .ok (.aload_n 0, 1) := by decide +kernel
theorem dX9_lowZeros_4 : decode cX9_lowZeros 4 = .ok (.getfield 25, 3) := by decide +kernel
theorem dX9_lowZeros_7 : decode cX9_lowZeros 7 = .ok (.if_icmp .ge 33, 3) := by decide +kernel
theorem dX9_lowZeros_10 : decode cX9_lowZeros 10 = .ok (.aload_n 0, 1) := by decide +kernel
theorem dX9_lowZeros_11 : decode cX9_lowZeros 11 = .ok (.getfield 15, 3) := by decide +kernel
theorem dX9_lowZeros_14 : decode cX9_lowZeros 14 = .ok (.iload_n 1, 1) := by decide +kernel
theorem dX9_lowZeros_15 : decode cX9_lowZeros 15 = .ok (.iaload, 1) := by decide +kernel
theorem dX9_lowZeros_16 : decode cX9_lowZeros 16 = .ok (.ifCond .eq 18, 3) := by decide +kernel
theorem dX9_lowZeros_19 : decode cX9_lowZeros 19 = .ok (.bipush 32, 2) := by decide +kernel
theorem dX9_lowZeros_21 : decode cX9_lowZeros 21 = .ok (.iload_n 1, 1) := by decide +kernel
theorem dX9_lowZeros_22 : decode cX9_lowZeros 22 = .ok (.imul, 1) := by decide +kernel
theorem dX9_lowZeros_23 : decode cX9_lowZeros 23 = .ok (.aload_n 0, 1) := by decide +kernel
theorem dX9_lowZeros_24 : decode cX9_lowZeros 24 = .ok (.getfield 15, 3) := by decide +kernel
theorem dX9_lowZeros_27 : decode cX9_lowZeros 27 = .ok (.iload_n 1, 1) := by decide +kernel
theorem dX9_lowZeros_28 : decode cX9_lowZeros 28 = .ok (.iaload, 1) := by decide +kernel
theorem dX9_lowZeros_29 : decode cX9_lowZeros 29 = .ok (.invokestatic 54, 3) := by decide +kernel
theorem dX9_lowZeros_32 : decode cX9_lowZeros 32 = .ok (.iadd, 1) := by decide +kernel
theorem dX9_lowZeros_33 : decode cX9_lowZeros 33 = .ok (.ireturn, 1) := by decide +kernel
theorem dX9_lowZeros_34 : decode cX9_lowZeros 34 = .ok (.iinc 1 1, 3) := by decide +kernel
theorem dX9_lowZeros_37 : decode cX9_lowZeros 37 = .ok (.goto (-35), 3) := by decide +kernel
theorem dX9_lowZeros_40 : decode cX9_lowZeros 40 = .ok (.iconst 0, 1) := by decide +kernel
theorem dX9_lowZeros_41 : decode cX9_lowZeros 41 = .ok (.ireturn, 1) := by decide +kernel
theorem dX7_order_0 : decode cX7_order 0 = .ok (.aload_n 0, 1) := by decide +kernel
theorem dX7_order_1 : decode cX7_order 1 = .ok (.getfield 9, 3) := by decide +kernel
theorem dX7_order_4 : decode cX7_order 4 = .ok (.aload_n 1, 1) := by decide +kernel
theorem dX7_order_5 : decode cX7_order 5 = .ok (.getfield 9, 3) := by decide +kernel
theorem dX7_order_8 : decode cX7_order 8 = .ok (.if_icmp .eq 20, 3) := by decide +kernel
theorem dX7_order_11 : decode cX7_order 11 = .ok (.aload_n 0, 1) := by decide +kernel
theorem dX7_order_12 : decode cX7_order 12 = .ok (.getfield 9, 3) := by decide +kernel
theorem dX7_order_15 : decode cX7_order 15 = .ok (.aload_n 1, 1) := by decide +kernel
theorem dX7_order_16 : decode cX7_order 16 = .ok (.getfield 9, 3) := by decide +kernel
theorem dX7_order_19 : decode cX7_order 19 = .ok (.if_icmp .le 7, 3) := by decide +kernel
theorem dX7_order_22 : decode cX7_order 22 = .ok (.iconst 1, 1) := by decide +kernel
theorem dX7_order_23 : decode cX7_order 23 = .ok (.goto 4, 3) := by decide +kernel
theorem dX7_order_26 : decode cX7_order 26 = .ok (.iconst (-1), 1) := by decide +kernel
theorem dX7_order_27 : decode cX7_order 27 = .ok (.ireturn, 1) := by decide +kernel
theorem dX7_order_28 : decode cX7_order 28 = .ok (.aload_n 0, 1) := by decide +kernel
theorem dX7_order_29 : decode cX7_order 29 = .ok (.getfield 9, 3) := by decide +kernel
theorem dX7_order_32 : decode cX7_order 32 = .ok (.iconst 1, 1) := by decide +kernel
theorem dX7_order_33 : decode cX7_order 33 = .ok (.isub, 1) := by decide +kernel
theorem dX7_order_34 : decode cX7_order 34 = .ok (.istore_n 2, 1) := by decide +kernel
theorem dX7_order_35 : decode cX7_order 35 = .ok (.iload_n 2, 1) := by decide +kernel
theorem dX7_order_36 : decode cX7_order 36 = .ok (.ifCond .lt 44, 3) := by decide +kernel
theorem dX7_order_39 : decode cX7_order 39 = .ok (.aload_n 0, 1) := by decide +kernel
theorem dX7_order_40 : decode cX7_order 40 = .ok (.getfield 15, 3) := by decide +kernel
theorem dX7_order_43 : decode cX7_order 43 = .ok (.iload_n 2, 1) := by decide +kernel
theorem dX7_order_44 : decode cX7_order 44 = .ok (.iaload, 1) := by decide +kernel
theorem dX7_order_45 : decode cX7_order 45 = .ok (.aload_n 1, 1) := by decide +kernel
theorem dX7_order_46 : decode cX7_order 46 = .ok (.getfield 15, 3) := by decide +kernel
theorem dX7_order_49 : decode cX7_order 49 = .ok (.iload_n 2, 1) := by decide +kernel
theorem dX7_order_50 : decode cX7_order 50 = .ok (.iaload, 1) := by decide +kernel
theorem dX7_order_51 : decode cX7_order 51 = .ok (.if_icmp .eq 23, 3) := by decide +kernel
theorem dX7_order_54 : decode cX7_order 54 = .ok (.aload_n 0, 1) := by decide +kernel
theorem dX7_order_55 : decode cX7_order 55 = .ok (.iload_n 2, 1) := by decide +kernel
theorem dX7_order_56 : decode cX7_order 56 = .ok (.invokevirtual 19, 3) := by decide +kernel
theorem dX7_order_59 : decode cX7_order 59 = .ok (.aload_n 1, 1) := by decide +kernel
theorem dX7_order_60 : decode cX7_order 60 = .ok (.iload_n 2, 1) := by decide +kernel
theorem dX7_order_61 : decode cX7_order 61 = .ok (.invokevirtual 19, 3) := by decide +kernel
theorem dX7_order_64 : decode cX7_order 64 = .ok (.lcmp, 1) := by decide +kernel
theorem dX7_order_65 : decode cX7_order 65 = .ok (.ifCond .le 7, 3) := by decide +kernel
theorem dX7_order_68 : decode cX7_order 68 = .ok (.iconst 1, 1) := by decide +kernel
theorem dX7_order_69 : decode cX7_order 69 = .ok (.goto 4, 3) := by decide +kernel
theorem dX7_order_72 : decode cX7_order 72 = .ok (.iconst (-1), 1) := by decide +kernel
theorem dX7_order_73 : decode cX7_order 73 = .ok (.ireturn, 1) := by decide +kernel
theorem dX7_order_74 : decode cX7_order 74 = .ok (.iinc 2 (-1), 3) := by decide +kernel
theorem dX7_order_77 : decode cX7_order 77 = .ok (.goto (-42), 3) := by decide +kernel
theorem dX7_order_80 : decode cX7_order 80 = .ok (.iconst 0, 1) := by decide +kernel
theorem dX7_order_81 : decode cX7_order 81 = .ok (.ireturn, 1) := by decide +kernel
theorem dX7_sum_0 : decode cX7_sum 0 = .ok (.aload_n 1, 1) := by decide +kernel
theorem dX7_sum_1 : decode cX7_sum 1 = .ok (.getfield 9, 3) := by decide +kernel
theorem dX7_sum_4 : decode cX7_sum 4 = .ok (.aload_n 2, 1) := by decide +kernel
theorem dX7_sum_5 : decode cX7_sum 5 = .ok (.getfield 9, 3) := by decide +kernel
theorem dX7_sum_8 : decode cX7_sum 8 = .ok (.invokestatic 23, 3) := by decide +kernel
theorem dX7_sum_11 : decode cX7_sum 11 = .ok (.istore_n 3, 1) := by decide +kernel
theorem dX7_sum_12 : decode cX7_sum 12 = .ok (.iload_n 3, 1) := by decide +kernel
theorem dX7_sum_13 : decode cX7_sum 13 = .ok (.aload_n 0, 1) := by decide +kernel
theorem dX7_sum_14 : decode cX7_sum 14 = .ok (.getfield 15, 3) := by decide +kernel
theorem dX7_sum_17 : decode cX7_sum 17 = .ok (.arraylength, 1) := by decide +kernel
theorem dX7_sum_18 : decode cX7_sum 18 = .ok (.if_icmp .lt 9, 3) := by decide +kernel
theorem dX7_sum_21 : decode cX7_sum 21 = .ok (.aload_n 0, 1) := by decide +kernel
theorem dX7_sum_22 : decode cX7_sum 22 = .ok (.iconst 0, 1) := by decide +kernel
theorem dX7_sum_23 : decode cX7_sum 23 = .ok (.invokevirtual 29, 3) := by decide +kernel
theorem dX7_sum_26 : decode cX7_sum 26 = .ok (.return_, 1) := by decide +kernel
theorem dX7_sum_27 : decode cX7_sum 27 = .ok (.lconst 0, 1) := by decide +kernel
theorem dX7_sum_28 : decode cX7_sum 28 = .ok (.lstore 4, 2) := by decide +kernel
theorem dX7_sum_30 : decode cX7_sum 30 = .ok (.iconst 0, 1) := by decide +kernel
theorem dX7_sum_31 : decode cX7_sum 31 = .ok (.istore 6, 2) := by decide +kernel
theorem dX7_sum_33 : decode cX7_sum 33 = .ok (.iload 6, 2) := by decide +kernel
theorem dX7_sum_35 : decode cX7_sum 35 = .ok (.iload_n 3, 1) := by decide +kernel
theorem dX7_sum_36 : decode cX7_sum 36 = .ok (.if_icmp .ge 44, 3) := by decide +kernel
theorem dX7_sum_39 : decode cX7_sum 39 = .ok (.lload 4, 2) := by decide +kernel
theorem dX7_sum_41 : decode cX7_sum 41 = .ok (.aload_n 1, 1) := by decide +kernel
theorem dX7_sum_42 : decode cX7_sum 42 = .ok (.iload 6, 2) := by decide +kernel
theorem dX7_sum_44 : decode cX7_sum 44 = .ok (.invokevirtual 19, 3) := by decide +kernel
theorem dX7_sum_47 : decode cX7_sum 47 = .ok (.aload_n 2, 1) := by decide +kernel
theorem dX7_sum_48 : decode cX7_sum 48 = .ok (.iload 6, 2) := by decide +kernel
theorem dX7_sum_50 : decode cX7_sum 50 = .ok (.invokevirtual 19, 3) := by decide +kernel
theorem dX7_sum_53 : decode cX7_sum 53 = .ok (.ladd, 1) := by decide +kernel
theorem dX7_sum_54 : decode cX7_sum 54 = .ok (.ladd, 1) := by decide +kernel
theorem dX7_sum_55 : decode cX7_sum 55 = .ok (.lstore 4, 2) := by decide +kernel
theorem dX7_sum_57 : decode cX7_sum 57 = .ok (.aload_n 0, 1) := by decide +kernel
theorem dX7_sum_58 : decode cX7_sum 58 = .ok (.getfield 15, 3) := by decide +kernel
theorem dX7_sum_61 : decode cX7_sum 61 = .ok (.iload 6, 2) := by decide +kernel
theorem dX7_sum_63 : decode cX7_sum 63 = .ok (.lload 4, 2) := by decide +kernel
theorem dX7_sum_65 : decode cX7_sum 65 = .ok (.l2i, 1) := by decide +kernel
theorem dX7_sum_66 : decode cX7_sum 66 = .ok (.iastore, 1) := by decide +kernel
theorem dX7_sum_67 : decode cX7_sum 67 = .ok (.lload 4, 2) := by decide +kernel
theorem dX7_sum_69 : decode cX7_sum 69 = .ok (.bipush 32, 2) := by decide +kernel
theorem dX7_sum_71 : decode cX7_sum 71 = .ok (.lushr, 1) := by decide +kernel
theorem dX7_sum_72 : decode cX7_sum 72 = .ok (.lstore 4, 2) := by decide +kernel
theorem dX7_sum_74 : decode cX7_sum 74 = .ok (.iinc 6 1, 3) := by decide +kernel
theorem dX7_sum_77 : decode cX7_sum 77 = .ok (.goto (-44), 3) := by decide +kernel
theorem dX7_sum_80 : decode cX7_sum 80 = .ok (.aload_n 0, 1) := by decide +kernel
theorem dX7_sum_81 : decode cX7_sum 81 = .ok (.getfield 15, 3) := by decide +kernel
theorem dX7_sum_84 : decode cX7_sum 84 = .ok (.iload_n 3, 1) := by decide +kernel
theorem dX7_sum_85 : decode cX7_sum 85 = .ok (.lload 4, 2) := by decide +kernel
theorem dX7_sum_87 : decode cX7_sum 87 = .ok (.l2i, 1) := by decide +kernel
theorem dX7_sum_88 : decode cX7_sum 88 = .ok (.iastore, 1) := by decide +kernel
theorem dX7_sum_89 : decode cX7_sum 89 = .ok (.aload_n 0, 1) := by decide +kernel
theorem dX7_sum_90 : decode cX7_sum 90 = .ok (.iload_n 3, 1) := by decide +kernel
theorem dX7_sum_91 : decode cX7_sum 91 = .ok (.iconst 1, 1) := by decide +kernel
theorem dX7_sum_92 : decode cX7_sum 92 = .ok (.iadd, 1) := by decide +kernel
theorem dX7_sum_93 : decode cX7_sum 93 = .ok (.invokevirtual 29, 3) := by decide +kernel
theorem dX7_sum_96 : decode cX7_sum 96 = .ok (.return_, 1) := by decide +kernel
theorem dX7_difference_0 : decode cX7_difference 0 = .ok (.aload_n 1, 1) := by decide +kernel
theorem dX7_difference_1 : decode cX7_difference 1 = .ok (.getfield 9, 3) := by decide +kernel
theorem dX7_difference_4 : decode cX7_difference 4 = .ok (.istore_n 3, 1) := by decide +kernel
theorem dX7_difference_5 : decode cX7_difference 5 = .ok (.iload_n 3, 1) := by decide +kernel
theorem dX7_difference_6 : decode cX7_difference 6 = .ok (.aload_n 0, 1) := by decide +kernel
theorem dX7_difference_7 : decode cX7_difference 7 = .ok (.getfield 15, 3) := by decide +kernel
theorem dX7_difference_10 : decode cX7_difference 10 = .ok (.arraylength, 1) := by decide +kernel
theorem dX7_difference_11 : decode cX7_difference 11 = .ok (.if_icmp .le 9, 3) := by decide +kernel
theorem dX7_difference_14 : decode cX7_difference 14 = .ok (.aload_n 0, 1) := by decide +kernel
theorem dX7_difference_15 : decode cX7_difference 15 = .ok (.iconst 0, 1) := by decide +kernel
theorem dX7_difference_16 : decode cX7_difference 16 = .ok (.invokevirtual 29, 3) := by decide +kernel
theorem dX7_difference_19 : decode cX7_difference 19 = .ok (.return_, 1) := by decide +kernel
theorem dX7_difference_20 : decode cX7_difference 20 = .ok (.lconst 0, 1) := by decide +kernel
theorem dX7_difference_21 : decode cX7_difference 21 = .ok (.lstore 4, 2) := by decide +kernel
theorem dX7_difference_23 : decode cX7_difference 23 = .ok (.iconst 0, 1) := by decide +kernel
theorem dX7_difference_24 : decode cX7_difference 24 = .ok (.istore 6, 2) := by decide +kernel
theorem dX7_difference_26 : decode cX7_difference 26 = .ok (.iload 6, 2) := by decide +kernel
theorem dX7_difference_28 : decode cX7_difference 28 = .ok (.iload_n 3, 1) := by decide +kernel
theorem dX7_difference_29 : decode cX7_difference 29 = .ok (.if_icmp .ge 44, 3) := by decide +kernel
theorem dX7_difference_32 : decode cX7_difference 32 = .ok (.lload 4, 2) := by decide +kernel
theorem dX7_difference_34 : decode cX7_difference 34 = .ok (.aload_n 1, 1) := by decide +kernel
theorem dX7_difference_35 : decode cX7_difference 35 = .ok (.iload 6, 2) := by decide +kernel
theorem dX7_difference_37 : decode cX7_difference 37 = .ok (.invokevirtual 19, 3) := by decide +kernel
theorem dX7_difference_40 : decode cX7_difference 40 = .ok (.aload_n 2, 1) := by decide +kernel
theorem dX7_difference_41 : decode cX7_difference 41 = .ok (.iload 6, 2) := by decide +kernel
theorem dX7_difference_43 : decode cX7_difference 43 = .ok (.invokevirtual 19, 3) := by decide +kernel
theorem dX7_difference_46 : decode cX7_difference 46 = .ok (.lsub, 1) := by decide +kernel
theorem dX7_difference_47 : decode cX7_difference 47 = .ok (.ladd, 1) := by decide +kernel
theorem dX7_difference_48 : decode cX7_difference 48 = .ok (.lstore 4, 2) := by decide +kernel
theorem dX7_difference_50 : decode cX7_difference 50 = .ok (.aload_n 0, 1) := by decide +kernel
theorem dX7_difference_51 : decode cX7_difference 51 = .ok (.getfield 15, 3) := by decide +kernel
theorem dX7_difference_54 : decode cX7_difference 54 = .ok (.iload 6, 2) := by decide +kernel
theorem dX7_difference_56 : decode cX7_difference 56 = .ok (.lload 4, 2) := by decide +kernel
theorem dX7_difference_58 : decode cX7_difference 58 = .ok (.l2i, 1) := by decide +kernel
theorem dX7_difference_59 : decode cX7_difference 59 = .ok (.iastore, 1) := by decide +kernel
theorem dX7_difference_60 : decode cX7_difference 60 = .ok (.lload 4, 2) := by decide +kernel
theorem dX7_difference_62 : decode cX7_difference 62 = .ok (.bipush 32, 2) := by decide +kernel
theorem dX7_difference_64 : decode cX7_difference 64 = .ok (.lshr, 1) := by decide +kernel
theorem dX7_difference_65 : decode cX7_difference 65 = .ok (.lstore 4, 2) := by decide +kernel
theorem dX7_difference_67 : decode cX7_difference 67 = .ok (.iinc 6 1, 3) := by decide +kernel
theorem dX7_difference_70 : decode cX7_difference 70 = .ok (.goto (-44), 3) := by decide +kernel
theorem dX7_difference_73 : decode cX7_difference 73 = .ok (.aload_n 0, 1) := by decide +kernel
theorem dX7_difference_74 : decode cX7_difference 74 = .ok (.iload_n 3, 1) := by decide +kernel
theorem dX7_difference_75 : decode cX7_difference 75 = .ok (.invokevirtual 29, 3) := by decide +kernel
theorem dX7_difference_78 : decode cX7_difference 78 = .ok (.return_, 1) := by decide +kernel
theorem dX7_signedSum_0 : decode cX7_signedSum 0 = .ok (.aload_n 1, 1) := by decide +kernel
theorem dX7_signedSum_1 : decode cX7_signedSum 1 = .ok (.getfield 33, 3) := by decide +kernel
theorem dX7_signedSum_4 : decode cX7_signedSum 4 = .ok (.istore 4, 2) := by decide +kernel
theorem dX7_signedSum_6 : decode cX7_signedSum 6 = .ok (.iload 4, 2) := by decide +kernel
theorem dX7_signedSum_8 : decode cX7_signedSum 8 = .ok (.iload_n 3, 1) := by decide +kernel
theorem dX7_signedSum_9 : decode cX7_signedSum 9 = .ok (.if_icmp .ne 18, 3) := by decide +kernel
theorem dX7_signedSum_12 : decode cX7_signedSum 12 = .ok (.aload_n 0, 1) := by decide +kernel
theorem dX7_signedSum_13 : decode cX7_signedSum 13 = .ok (.aload_n 1, 1) := by decide +kernel
theorem dX7_signedSum_14 : decode cX7_signedSum 14 = .ok (.aload_n 2, 1) := by decide +kernel
theorem dX7_signedSum_15 : decode cX7_signedSum 15 = .ok (.invokestatic 37, 3) := by decide +kernel
theorem dX7_signedSum_18 : decode cX7_signedSum 18 = .ok (.aload_n 0, 1) := by decide +kernel
theorem dX7_signedSum_19 : decode cX7_signedSum 19 = .ok (.iload 4, 2) := by decide +kernel
theorem dX7_signedSum_21 : decode cX7_signedSum 21 = .ok (.invokevirtual 43, 3) := by decide +kernel
theorem dX7_signedSum_24 : decode cX7_signedSum 24 = .ok (.goto 37, 3) := by decide +kernel
theorem dX7_signedSum_27 : decode cX7_signedSum 27 = .ok (.aload_n 1, 1) := by decide +kernel
theorem dX7_signedSum_28 : decode cX7_signedSum 28 = .ok (.aload_n 2, 1) := by decide +kernel
theorem dX7_signedSum_29 : decode cX7_signedSum 29 = .ok (.invokestatic 47, 3) := by decide +kernel
theorem dX7_signedSum_32 : decode cX7_signedSum 32 = .ok (.ifCond .lt 18, 3) := by decide +kernel
theorem dX7_signedSum_35 : decode cX7_signedSum 35 = .ok (.aload_n 0, 1) := by decide +kernel
theorem dX7_signedSum_36 : decode cX7_signedSum 36 = .ok (.aload_n 1, 1) := by decide +kernel
theorem dX7_signedSum_37 : decode cX7_signedSum 37 = .ok (.aload_n 2, 1) := by decide +kernel
theorem dX7_signedSum_38 : decode cX7_signedSum 38 = .ok (.invokestatic 51, 3) := by decide +kernel
theorem dX7_signedSum_41 : decode cX7_signedSum 41 = .ok (.aload_n 0, 1) := by decide +kernel
theorem dX7_signedSum_42 : decode cX7_signedSum 42 = .ok (.iload 4, 2) := by decide +kernel
theorem dX7_signedSum_44 : decode cX7_signedSum 44 = .ok (.invokevirtual 43, 3) := by decide +kernel
theorem dX7_signedSum_47 : decode cX7_signedSum 47 = .ok (.goto 14, 3) := by decide +kernel
theorem dX7_signedSum_50 : decode cX7_signedSum 50 = .ok (.aload_n 0, 1) := by decide +kernel
theorem dX7_signedSum_51 : decode cX7_signedSum 51 = .ok (.aload_n 2, 1) := by decide +kernel
theorem dX7_signedSum_52 : decode cX7_signedSum 52 = .ok (.aload_n 1, 1) := by decide +kernel
theorem dX7_signedSum_53 : decode cX7_signedSum 53 = .ok (.invokestatic 51, 3) := by decide +kernel
theorem dX7_signedSum_56 : decode cX7_signedSum 56 = .ok (.aload_n 0, 1) := by decide +kernel
theorem dX7_signedSum_57 : decode cX7_signedSum 57 = .ok (.iload_n 3, 1) := by decide +kernel
theorem dX7_signedSum_58 : decode cX7_signedSum 58 = .ok (.invokevirtual 43, 3) := by decide +kernel
theorem dX7_signedSum_61 : decode cX7_signedSum 61 = .ok (.return_, 1) := by decide +kernel
theorem dX7_product_0 : decode cX7_product 0 = .ok (.aload_n 0, 1) := by decide +kernel
theorem dX7_product_1 : decode cX7_product 1 = .ok (.getfield 15, 3) := by decide +kernel
theorem dX7_product_4 : decode cX7_product 4 = .ok (.astore_n 3, 1) := by decide +kernel
theorem dX7_product_5 : decode cX7_product 5 = .ok (.aload_n 2, 1) := by decide +kernel
theorem dX7_product_6 : decode cX7_product 6 = .ok (.getfield 9, 3) := by decide +kernel
theorem dX7_product_9 : decode cX7_product 9 = .ok (.istore 4, 2) := by decide +kernel
theorem dX7_product_11 : decode cX7_product 11 = .ok (.aload_n 1, 1) := by decide +kernel
theorem dX7_product_12 : decode cX7_product 12 = .ok (.getfield 9, 3) := by decide +kernel
theorem dX7_product_15 : decode cX7_product 15 = .ok (.iload 4, 2) := by decide +kernel
theorem dX7_product_17 : decode cX7_product 17 = .ok (.iadd, 1) := by decide +kernel
theorem dX7_product_18 : decode cX7_product 18 = .ok (.aload_n 3, 1) := by decide +kernel
theorem dX7_product_19 : decode cX7_product 19 = .ok (.arraylength, 1) := by decide +kernel
theorem dX7_product_20 : decode cX7_product 20 = .ok (.if_icmp .le 9, 3) := by decide +kernel
theorem dX7_product_23 : decode cX7_product 23 = .ok (.aload_n 0, 1) := by decide +kernel
theorem dX7_product_24 : decode cX7_product 24 = .ok (.iconst 0, 1) := by decide +kernel
theorem dX7_product_25 : decode cX7_product 25 = .ok (.invokevirtual 29, 3) := by decide +kernel
theorem dX7_product_28 : decode cX7_product 28 = .ok (.return_, 1) := by decide +kernel
theorem dX7_product_29 : decode cX7_product 29 = .ok (.iconst 0, 1) := by decide +kernel
theorem dX7_product_30 : decode cX7_product 30 = .ok (.istore 5, 2) := by decide +kernel
theorem dX7_product_32 : decode cX7_product 32 = .ok (.iload 5, 2) := by decide +kernel
theorem dX7_product_34 : decode cX7_product 34 = .ok (.iload 4, 2) := by decide +kernel
theorem dX7_product_36 : decode cX7_product 36 = .ok (.if_icmp .ge 14, 3) := by decide +kernel
theorem dX7_product_39 : decode cX7_product 39 = .ok (.aload_n 3, 1) := by decide +kernel
theorem dX7_product_40 : decode cX7_product 40 = .ok (.iload 5, 2) := by decide +kernel
theorem dX7_product_42 : decode cX7_product 42 = .ok (.iconst 0, 1) := by decide +kernel
theorem dX7_product_43 : decode cX7_product 43 = .ok (.iastore, 1) := by decide +kernel
theorem dX7_product_44 : decode cX7_product 44 = .ok (.iinc 5 1, 3) := by decide +kernel
theorem dX7_product_47 : decode cX7_product 47 = .ok (.goto (-15), 3) := by decide +kernel
theorem dX7_product_50 : decode cX7_product 50 = .ok (.iconst 0, 1) := by decide +kernel
theorem dX7_product_51 : decode cX7_product 51 = .ok (.istore 5, 2) := by decide +kernel
theorem dX7_product_53 : decode cX7_product 53 = .ok (.iload 5, 2) := by decide +kernel
theorem dX7_product_55 : decode cX7_product 55 = .ok (.aload_n 1, 1) := by decide +kernel
theorem dX7_product_56 : decode cX7_product 56 = .ok (.getfield 9, 3) := by decide +kernel
theorem dX7_product_59 : decode cX7_product 59 = .ok (.if_icmp .ge 102, 3) := by decide +kernel
theorem dX7_product_62 : decode cX7_product 62 = .ok (.aload_n 1, 1) := by decide +kernel
theorem dX7_product_63 : decode cX7_product 63 = .ok (.getfield 15, 3) := by decide +kernel
theorem dX7_product_66 : decode cX7_product 66 = .ok (.iload 5, 2) := by decide +kernel
theorem dX7_product_68 : decode cX7_product 68 = .ok (.iaload, 1) := by decide +kernel
theorem dX7_product_69 : decode cX7_product 69 = .ok (.i2l, 1) := by decide +kernel
theorem dX7_product_70 : decode cX7_product 70 = .ok (.ldc2_w 54, 3) := by decide +kernel
theorem dX7_product_73 : decode cX7_product 73 = .ok (.land, 1) := by decide +kernel
theorem dX7_product_74 : decode cX7_product 74 = .ok (.lstore 6, 2) := by decide +kernel
theorem dX7_product_76 : decode cX7_product 76 = .ok (.lconst 0, 1) := by decide +kernel
theorem dX7_product_77 : decode cX7_product 77 = .ok (.lstore 8, 2) := by decide +kernel
theorem dX7_product_79 : decode cX7_product 79 = .ok (.iconst 0, 1) := by decide +kernel
theorem dX7_product_80 : decode cX7_product 80 = .ok (.istore 10, 2) := by decide +kernel
theorem dX7_product_82 : decode cX7_product 82 = .ok (.iload 10, 2) := by decide +kernel
theorem dX7_product_84 : decode cX7_product 84 = .ok (.iload 4, 2) := by decide +kernel
theorem dX7_product_86 : decode cX7_product 86 = .ok (.if_icmp .ge 59, 3) := by decide +kernel
theorem dX7_product_89 : decode cX7_product 89 = .ok (.lload 8, 2) := by decide +kernel
theorem dX7_product_91 : decode cX7_product 91 = .ok (.lload 6, 2) := by decide +kernel
theorem dX7_product_93 : decode cX7_product 93 = .ok (.aload_n 2, 1) := by decide +kernel
theorem dX7_product_94 : decode cX7_product 94 = .ok (.getfield 15, 3) := by decide +kernel
theorem dX7_product_97 : decode cX7_product 97 = .ok (.iload 10, 2) := by decide +kernel
theorem dX7_product_99 : decode cX7_product 99 = .ok (.iaload, 1) := by decide +kernel
theorem dX7_product_100 : decode cX7_product 100 = .ok (.i2l, 1) := by decide +kernel
theorem dX7_product_101 : decode cX7_product 101 = .ok (.ldc2_w 54, 3) := by decide +kernel
theorem dX7_product_104 : decode cX7_product 104 = .ok (.land, 1) := by decide +kernel
theorem dX7_product_105 : decode cX7_product 105 = .ok (.lmul, 1) := by decide +kernel
theorem dX7_product_106 : decode cX7_product 106 = .ok (.aload_n 3, 1) := by decide +kernel
theorem dX7_product_107 : decode cX7_product 107 = .ok (.iload 5, 2) := by decide +kernel
theorem dX7_product_109 : decode cX7_product 109 = .ok (.iload 10, 2) := by decide +kernel
theorem dX7_product_111 : decode cX7_product 111 = .ok (.iadd, 1) := by decide +kernel
theorem dX7_product_112 : decode cX7_product 112 = .ok (.iaload, 1) := by decide +kernel
theorem dX7_product_113 : decode cX7_product 113 = .ok (.i2l, 1) := by decide +kernel
theorem dX7_product_114 : decode cX7_product 114 = .ok (.ldc2_w 54, 3) := by decide +kernel
theorem dX7_product_117 : decode cX7_product 117 = .ok (.land, 1) := by decide +kernel
theorem dX7_product_118 : decode cX7_product 118 = .ok (.ladd, 1) := by decide +kernel
theorem dX7_product_119 : decode cX7_product 119 = .ok (.ladd, 1) := by decide +kernel
theorem dX7_product_120 : decode cX7_product 120 = .ok (.lstore 8, 2) := by decide +kernel
theorem dX7_product_122 : decode cX7_product 122 = .ok (.aload_n 3, 1) := by decide +kernel
theorem dX7_product_123 : decode cX7_product 123 = .ok (.iload 5, 2) := by decide +kernel
theorem dX7_product_125 : decode cX7_product 125 = .ok (.iload 10, 2) := by decide +kernel
theorem dX7_product_127 : decode cX7_product 127 = .ok (.iadd, 1) := by decide +kernel
theorem dX7_product_128 : decode cX7_product 128 = .ok (.lload 8, 2) := by decide +kernel
theorem dX7_product_130 : decode cX7_product 130 = .ok (.l2i, 1) := by decide +kernel
theorem dX7_product_131 : decode cX7_product 131 = .ok (.iastore, 1) := by decide +kernel
theorem dX7_product_132 : decode cX7_product 132 = .ok (.lload 8, 2) := by decide +kernel
theorem dX7_product_134 : decode cX7_product 134 = .ok (.bipush 32, 2) := by decide +kernel
theorem dX7_product_136 : decode cX7_product 136 = .ok (.lushr, 1) := by decide +kernel
theorem dX7_product_137 : decode cX7_product 137 = .ok (.lstore 8, 2) := by decide +kernel
theorem dX7_product_139 : decode cX7_product 139 = .ok (.iinc 10 1, 3) := by decide +kernel
theorem dX7_product_142 : decode cX7_product 142 = .ok (.goto (-60), 3) := by decide +kernel
theorem dX7_product_145 : decode cX7_product 145 = .ok (.aload_n 3, 1) := by decide +kernel
theorem dX7_product_146 : decode cX7_product 146 = .ok (.iload 5, 2) := by decide +kernel
theorem dX7_product_148 : decode cX7_product 148 = .ok (.iload 4, 2) := by decide +kernel
theorem dX7_product_150 : decode cX7_product 150 = .ok (.iadd, 1) := by decide +kernel
theorem dX7_product_151 : decode cX7_product 151 = .ok (.lload 8, 2) := by decide +kernel
theorem dX7_product_153 : decode cX7_product 153 = .ok (.l2i, 1) := by decide +kernel
theorem dX7_product_154 : decode cX7_product 154 = .ok (.iastore, 1) := by decide +kernel
theorem dX7_product_155 : decode cX7_product 155 = .ok (.iinc 5 1, 3) := by decide +kernel
theorem dX7_product_158 : decode cX7_product 158 = .ok (.goto (-105), 3) := by decide +kernel
theorem dX7_product_161 : decode cX7_product 161 = .ok (.aload_n 0, 1) := by decide +kernel
theorem dX7_product_162 : decode cX7_product 162 = .ok (.aload_n 1, 1) := by decide +kernel
theorem dX7_product_163 : decode cX7_product 163 = .ok (.getfield 9, 3) := by decide +kernel
theorem dX7_product_166 : decode cX7_product 166 = .ok (.iload 4, 2) := by decide +kernel
theorem dX7_product_168 : decode cX7_product 168 = .ok (.iadd, 1) := by decide +kernel
theorem dX7_product_169 : decode cX7_product 169 = .ok (.invokevirtual 29, 3) := by decide +kernel
theorem dX7_product_172 : decode cX7_product 172 = .ok (.return_, 1) := by decide +kernel
theorem dX7_shiftUp_0 : decode cX7_shiftUp 0 = .ok (.iload_n 2, 1) := by decide +kernel
theorem dX7_shiftUp_1 : decode cX7_shiftUp 1 = .ok (.iconst 5, 1) := by decide +kernel
theorem dX7_shiftUp_2 : decode cX7_shiftUp 2 = .ok (.ishr, 1) := by decide +kernel
theorem dX7_shiftUp_3 : decode cX7_shiftUp 3 = .ok (.istore_n 3, 1) := by decide +kernel
theorem dX7_shiftUp_4 : decode cX7_shiftUp 4 = .ok (.iload_n 2, 1) := by decide +kernel
theorem dX7_shiftUp_5 : decode cX7_shiftUp 5 = .ok (.bipush 31, 2) := by decide +kernel
theorem dX7_shiftUp_7 : decode cX7_shiftUp 7 = .ok (.iand, 1) := by decide +kernel
theorem dX7_shiftUp_8 : decode cX7_shiftUp 8 = .ok (.istore 4, 2) := by decide +kernel
theorem dX7_shiftUp_10 : decode cX7_shiftUp 10 = .ok (.aload_n 1, 1) := by decide +kernel
theorem dX7_shiftUp_11 : decode cX7_shiftUp 11 = .ok (.getfield 9, 3) := by decide +kernel
theorem dX7_shiftUp_14 : decode cX7_shiftUp 14 = .ok (.istore 5, 2) := by decide +kernel
theorem dX7_shiftUp_16 : decode cX7_shiftUp 16 = .ok (.iload_n 2, 1) := by decide +kernel
theorem dX7_shiftUp_17 : decode cX7_shiftUp 17 = .ok (.ifCond .lt 15, 3) := by decide +kernel
theorem dX7_shiftUp_20 : decode cX7_shiftUp 20 = .ok (.iload 5, 2) := by decide +kernel
theorem dX7_shiftUp_22 : decode cX7_shiftUp 22 = .ok (.iload_n 3, 1) := by decide +kernel
theorem dX7_shiftUp_23 : decode cX7_shiftUp 23 = .ok (.iadd, 1) := by decide +kernel
theorem dX7_shiftUp_24 : decode cX7_shiftUp 24 = .ok (.aload_n 0, 1) := by decide +kernel
theorem dX7_shiftUp_25 : decode cX7_shiftUp 25 = .ok (.getfield 15, 3) := by decide +kernel
theorem dX7_shiftUp_28 : decode cX7_shiftUp 28 = .ok (.arraylength, 1) := by decide +kernel
theorem dX7_shiftUp_29 : decode cX7_shiftUp 29 = .ok (.if_icmp .lt 9, 3) := by decide +kernel
theorem dX7_shiftUp_32 : decode cX7_shiftUp 32 = .ok (.aload_n 0, 1) := by decide +kernel
theorem dX7_shiftUp_33 : decode cX7_shiftUp 33 = .ok (.iconst 0, 1) := by decide +kernel
theorem dX7_shiftUp_34 : decode cX7_shiftUp 34 = .ok (.invokevirtual 29, 3) := by decide +kernel
theorem dX7_shiftUp_37 : decode cX7_shiftUp 37 = .ok (.return_, 1) := by decide +kernel
theorem dX7_shiftUp_38 : decode cX7_shiftUp 38 = .ok (.iload 5, 2) := by decide +kernel
theorem dX7_shiftUp_40 : decode cX7_shiftUp 40 = .ok (.istore 6, 2) := by decide +kernel
theorem dX7_shiftUp_42 : decode cX7_shiftUp 42 = .ok (.iload 6, 2) := by decide +kernel
theorem dX7_shiftUp_44 : decode cX7_shiftUp 44 = .ok (.ifCond .lt 47, 3) := by decide +kernel
theorem dX7_shiftUp_47 : decode cX7_shiftUp 47 = .ok (.aload_n 1, 1) := by decide +kernel
theorem dX7_shiftUp_48 : decode cX7_shiftUp 48 = .ok (.iload 6, 2) := by decide +kernel
theorem dX7_shiftUp_50 : decode cX7_shiftUp 50 = .ok (.invokevirtual 19, 3) := by decide +kernel
theorem dX7_shiftUp_53 : decode cX7_shiftUp 53 = .ok (.bipush 32, 2) := by decide +kernel
theorem dX7_shiftUp_55 : decode cX7_shiftUp 55 = .ok (.lshl, 1) := by decide +kernel
theorem dX7_shiftUp_56 : decode cX7_shiftUp 56 = .ok (.aload_n 1, 1) := by decide +kernel
theorem dX7_shiftUp_57 : decode cX7_shiftUp 57 = .ok (.iload 6, 2) := by decide +kernel
theorem dX7_shiftUp_59 : decode cX7_shiftUp 59 = .ok (.iconst 1, 1) := by decide +kernel
theorem dX7_shiftUp_60 : decode cX7_shiftUp 60 = .ok (.isub, 1) := by decide +kernel
theorem dX7_shiftUp_61 : decode cX7_shiftUp 61 = .ok (.invokevirtual 19, 3) := by decide +kernel
theorem dX7_shiftUp_64 : decode cX7_shiftUp 64 = .ok (.lor, 1) := by decide +kernel
theorem dX7_shiftUp_65 : decode cX7_shiftUp 65 = .ok (.lstore 7, 2) := by decide +kernel
theorem dX7_shiftUp_67 : decode cX7_shiftUp 67 = .ok (.aload_n 0, 1) := by decide +kernel
theorem dX7_shiftUp_68 : decode cX7_shiftUp 68 = .ok (.getfield 15, 3) := by decide +kernel
theorem dX7_shiftUp_71 : decode cX7_shiftUp 71 = .ok (.iload 6, 2) := by decide +kernel
theorem dX7_shiftUp_73 : decode cX7_shiftUp 73 = .ok (.iload_n 3, 1) := by decide +kernel
theorem dX7_shiftUp_74 : decode cX7_shiftUp 74 = .ok (.iadd, 1) := by decide +kernel
theorem dX7_shiftUp_75 : decode cX7_shiftUp 75 = .ok (.lload 7, 2) := by decide +kernel
theorem dX7_shiftUp_77 : decode cX7_shiftUp 77 = .ok (.iload 4, 2) := by decide +kernel
theorem dX7_shiftUp_79 : decode cX7_shiftUp 79 = .ok (.lshl, 1) := by decide +kernel
theorem dX7_shiftUp_80 : decode cX7_shiftUp 80 = .ok (.bipush 32, 2) := by decide +kernel
theorem dX7_shiftUp_82 : decode cX7_shiftUp 82 = .ok (.lushr, 1) := by decide +kernel
theorem dX7_shiftUp_83 : decode cX7_shiftUp 83 = .ok (.l2i, 1) := by decide +kernel
theorem dX7_shiftUp_84 : decode cX7_shiftUp 84 = .ok (.iastore, 1) := by decide +kernel
theorem dX7_shiftUp_85 : decode cX7_shiftUp 85 = .ok (.iinc 6 (-1), 3) := by decide +kernel
theorem dX7_shiftUp_88 : decode cX7_shiftUp 88 = .ok (.goto (-46), 3) := by decide +kernel
theorem dX7_shiftUp_91 : decode cX7_shiftUp 91 = .ok (.iconst 0, 1) := by decide +kernel
theorem dX7_shiftUp_92 : decode cX7_shiftUp 92 = .ok (.istore 6, 2) := by decide +kernel
theorem dX7_shiftUp_94 : decode cX7_shiftUp 94 = .ok (.iload 6, 2) := by decide +kernel
theorem dX7_shiftUp_96 : decode cX7_shiftUp 96 = .ok (.iload_n 3, 1) := by decide +kernel
theorem dX7_shiftUp_97 : decode cX7_shiftUp 97 = .ok (.if_icmp .ge 17, 3) := by decide +kernel
theorem dX7_shiftUp_100 : decode cX7_shiftUp 100 = .ok (.aload_n 0, 1) := by decide +kernel
theorem dX7_shiftUp_101 : decode cX7_shiftUp 101 = .ok (.getfield 15, 3) := by decide +kernel
theorem dX7_shiftUp_104 : decode cX7_shiftUp 104 = .ok (.iload 6, 2) := by decide +kernel
theorem dX7_shiftUp_106 : decode cX7_shiftUp 106 = .ok (.iconst 0, 1) := by decide +kernel
theorem dX7_shiftUp_107 : decode cX7_shiftUp 107 = .ok (.iastore, 1) := by decide +kernel
theorem dX7_shiftUp_108 : decode cX7_shiftUp 108 = .ok (.iinc 6 1, 3) := by decide +kernel
theorem dX7_shiftUp_111 : decode cX7_shiftUp 111 = .ok (.goto (-17), 3) := by decide +kernel
theorem dX7_shiftUp_114 : decode cX7_shiftUp 114 = .ok (.aload_n 0, 1) := by decide +kernel
theorem dX7_shiftUp_115 : decode cX7_shiftUp 115 = .ok (.iload 5, 2) := by decide +kernel
theorem dX7_shiftUp_117 : decode cX7_shiftUp 117 = .ok (.iload_n 3, 1) := by decide +kernel
theorem dX7_shiftUp_118 : decode cX7_shiftUp 118 = .ok (.iadd, 1) := by decide +kernel
theorem dX7_shiftUp_119 : decode cX7_shiftUp 119 = .ok (.iconst 1, 1) := by decide +kernel
theorem dX7_shiftUp_120 : decode cX7_shiftUp 120 = .ok (.iadd, 1) := by decide +kernel
theorem dX7_shiftUp_121 : decode cX7_shiftUp 121 = .ok (.invokevirtual 29, 3) := by decide +kernel
theorem dX7_shiftUp_124 : decode cX7_shiftUp 124 = .ok (.return_, 1) := by decide +kernel
theorem dX7_shiftDown_0 : decode cX7_shiftDown 0 = .ok (.iload_n 2, 1) := by decide +kernel
theorem dX7_shiftDown_1 : decode cX7_shiftDown 1 = .ok (.iconst 5, 1) := by decide +kernel
theorem dX7_shiftDown_2 : decode cX7_shiftDown 2 = .ok (.ishr, 1) := by decide +kernel
theorem dX7_shiftDown_3 : decode cX7_shiftDown 3 = .ok (.istore_n 3, 1) := by decide +kernel
theorem dX7_shiftDown_4 : decode cX7_shiftDown 4 = .ok (.aload_n 1, 1) := by decide +kernel
theorem dX7_shiftDown_5 : decode cX7_shiftDown 5 = .ok (.getfield 9, 3) := by decide +kernel
theorem dX7_shiftDown_8 : decode cX7_shiftDown 8 = .ok (.iload_n 3, 1) := by decide +kernel
theorem dX7_shiftDown_9 : decode cX7_shiftDown 9 = .ok (.isub, 1) := by decide +kernel
theorem dX7_shiftDown_10 : decode cX7_shiftDown 10 = .ok (.istore 4, 2) := by decide +kernel
theorem dX7_shiftDown_12 : decode cX7_shiftDown 12 = .ok (.iload_n 2, 1) := by decide +kernel
theorem dX7_shiftDown_13 : decode cX7_shiftDown 13 = .ok (.ifCond .lt 18, 3) := by decide +kernel
theorem dX7_shiftDown_16 : decode cX7_shiftDown 16 = .ok (.iload 4, 2) := by decide +kernel
theorem dX7_shiftDown_18 : decode cX7_shiftDown 18 = .ok (.ifCond .le 13, 3) := by decide +kernel
theorem dX7_shiftDown_21 : decode cX7_shiftDown 21 = .ok (.iload 4, 2) := by decide +kernel
theorem dX7_shiftDown_23 : decode cX7_shiftDown 23 = .ok (.aload_n 0, 1) := by decide +kernel
theorem dX7_shiftDown_24 : decode cX7_shiftDown 24 = .ok (.getfield 15, 3) := by decide +kernel
theorem dX7_shiftDown_27 : decode cX7_shiftDown 27 = .ok (.arraylength, 1) := by decide +kernel
theorem dX7_shiftDown_28 : decode cX7_shiftDown 28 = .ok (.if_icmp .le 9, 3) := by decide +kernel
theorem dX7_shiftDown_31 : decode cX7_shiftDown 31 = .ok (.aload_n 0, 1) := by decide +kernel
theorem dX7_shiftDown_32 : decode cX7_shiftDown 32 = .ok (.iconst 0, 1) := by decide +kernel
theorem dX7_shiftDown_33 : decode cX7_shiftDown 33 = .ok (.invokevirtual 29, 3) := by decide +kernel
theorem dX7_shiftDown_36 : decode cX7_shiftDown 36 = .ok (.return_, 1) := by decide +kernel
theorem dX7_shiftDown_37 : decode cX7_shiftDown 37 = .ok (.iconst 0, 1) := by decide +kernel
theorem dX7_shiftDown_38 : decode cX7_shiftDown 38 = .ok (.istore 5, 2) := by decide +kernel
theorem dX7_shiftDown_40 : decode cX7_shiftDown 40 = .ok (.iload 5, 2) := by decide +kernel
theorem dX7_shiftDown_42 : decode cX7_shiftDown 42 = .ok (.iload 4, 2) := by decide +kernel
theorem dX7_shiftDown_44 : decode cX7_shiftDown 44 = .ok (.if_icmp .ge 28, 3) := by decide +kernel
theorem dX7_shiftDown_47 : decode cX7_shiftDown 47 = .ok (.aload_n 0, 1) := by decide +kernel
theorem dX7_shiftDown_48 : decode cX7_shiftDown 48 = .ok (.getfield 15, 3) := by decide +kernel
theorem dX7_shiftDown_51 : decode cX7_shiftDown 51 = .ok (.iload 5, 2) := by decide +kernel
theorem dX7_shiftDown_53 : decode cX7_shiftDown 53 = .ok (.aload_n 1, 1) := by decide +kernel
theorem dX7_shiftDown_54 : decode cX7_shiftDown 54 = .ok (.bipush 32, 2) := by decide +kernel
theorem dX7_shiftDown_56 : decode cX7_shiftDown 56 = .ok (.iload 5, 2) := by decide +kernel
theorem dX7_shiftDown_58 : decode cX7_shiftDown 58 = .ok (.imul, 1) := by decide +kernel
theorem dX7_shiftDown_59 : decode cX7_shiftDown 59 = .ok (.iload_n 2, 1) := by decide +kernel
theorem dX7_shiftDown_60 : decode cX7_shiftDown 60 = .ok (.iadd, 1) := by decide +kernel
theorem dX7_shiftDown_61 : decode cX7_shiftDown 61 = .ok (.invokevirtual 56, 3) := by decide +kernel
theorem dX7_shiftDown_64 : decode cX7_shiftDown 64 = .ok (.l2i, 1) := by decide +kernel
theorem dX7_shiftDown_65 : decode cX7_shiftDown 65 = .ok (.iastore, 1) := by decide +kernel
theorem dX7_shiftDown_66 : decode cX7_shiftDown 66 = .ok (.iinc 5 1, 3) := by decide +kernel
theorem dX7_shiftDown_69 : decode cX7_shiftDown 69 = .ok (.goto (-29), 3) := by decide +kernel
theorem dX7_shiftDown_72 : decode cX7_shiftDown 72 = .ok (.aload_n 0, 1) := by decide +kernel
theorem dX7_shiftDown_73 : decode cX7_shiftDown 73 = .ok (.iload 4, 2) := by decide +kernel
theorem dX7_shiftDown_75 : decode cX7_shiftDown 75 = .ok (.invokevirtual 29, 3) := by decide +kernel
theorem dX7_shiftDown_78 : decode cX7_shiftDown 78 = .ok (.return_, 1) := by decide +kernel
theorem dX0_init_0 : decode cX0_init 0 = .ok (.aload_n 0, 1) := by decide +kernel
theorem dX0_init_1 : decode cX0_init 1 = .ok (.invokespecial 3, 3) := by decide +kernel
theorem dX0_init_4 : decode cX0_init 4 = .ok (.aload_n 0, 1) := by decide +kernel
theorem dX0_init_5 : decode cX0_init 5 = .ok (.new 9, 3) := by decide +kernel
theorem dX0_init_8 : decode cX0_init 8 = .ok (.dup, 1) := by decide +kernel
theorem dX0_init_9 : decode cX0_init 9 = .ok (.iload_n 1, 1) := by decide +kernel
theorem dX0_init_10 : decode cX0_init 10 = .ok (.invokespecial 11, 3) := by decide +kernel
theorem dX0_init_13 : decode cX0_init 13 = .ok (.putfield 14, 3) := by decide +kernel
theorem dX0_init_16 : decode cX0_init 16 = .ok (.return_, 1) := by decide +kernel
theorem dX0_split_0 : decode cX0_split 0 = .ok (.aload_n 3, 1) := by decide +kernel
theorem dX0_split_1 : decode cX0_split 1 = .ok (.getfield 20, 3) := by decide +kernel
theorem dX0_split_4 : decode cX0_split 4 = .ok (.aload 4, 2) := by decide +kernel
theorem dX0_split_6 : decode cX0_split 6 = .ok (.getfield 20, 3) := by decide +kernel
theorem dX0_split_9 : decode cX0_split 9 = .ok (.isub, 1) := by decide +kernel
theorem dX0_split_10 : decode cX0_split 10 = .ok (.istore 5, 2) := by decide +kernel
theorem dX0_split_12 : decode cX0_split 12 = .ok (.aload_n 1, 1) := by decide +kernel
theorem dX0_split_13 : decode cX0_split 13 = .ok (.iconst 0, 1) := by decide +kernel
theorem dX0_split_14 : decode cX0_split 14 = .ok (.invokevirtual 24, 3) := by decide +kernel
theorem dX0_split_17 : decode cX0_split 17 = .ok (.aload_n 2, 1) := by decide +kernel
theorem dX0_split_18 : decode cX0_split 18 = .ok (.iconst 0, 1) := by decide +kernel
theorem dX0_split_19 : decode cX0_split 19 = .ok (.invokevirtual 24, 3) := by decide +kernel
theorem dX0_split_22 : decode cX0_split 22 = .ok (.aload 4, 2) := by decide +kernel
theorem dX0_split_24 : decode cX0_split 24 = .ok (.getfield 20, 3) := by decide +kernel
theorem dX0_split_27 : decode cX0_split 27 = .ok (.ifCond .eq 41, 3) := by decide +kernel
theorem dX0_split_30 : decode cX0_split 30 = .ok (.iload 5, 2) := by decide +kernel
theorem dX0_split_32 : decode cX0_split 32 = .ok (.aload_n 1, 1) := by decide +kernel
theorem dX0_split_33 : decode cX0_split 33 = .ok (.getfield 27, 3) := by decide +kernel
theorem dX0_split_36 : decode cX0_split 36 = .ok (.arraylength, 1) := by decide +kernel
theorem dX0_split_37 : decode cX0_split 37 = .ok (.if_icmp .ge 31, 3) := by decide +kernel
theorem dX0_split_40 : decode cX0_split 40 = .ok (.aload_n 3, 1) := by decide +kernel
theorem dX0_split_41 : decode cX0_split 41 = .ok (.getfield 20, 3) := by decide +kernel
theorem dX0_split_44 : decode cX0_split 44 = .ok (.aload_n 2, 1) := by decide +kernel
theorem dX0_split_45 : decode cX0_split 45 = .ok (.getfield 27, 3) := by decide +kernel
theorem dX0_split_48 : decode cX0_split 48 = .ok (.arraylength, 1) := by decide +kernel
theorem dX0_split_49 : decode cX0_split 49 = .ok (.if_icmp .ge 19, 3) := by decide +kernel
theorem dX0_split_52 : decode cX0_split 52 = .ok (.aload 4, 2) := by decide +kernel
theorem dX0_split_54 : decode cX0_split 54 = .ok (.getfield 20, 3) := by decide +kernel
theorem dX0_split_57 : decode cX0_split 57 = .ok (.aload_n 0, 1) := by decide +kernel
theorem dX0_split_58 : decode cX0_split 58 = .ok (.getfield 14, 3) := by decide +kernel
theorem dX0_split_61 : decode cX0_split 61 = .ok (.getfield 27, 3) := by decide +kernel
theorem dX0_split_64 : decode cX0_split 64 = .ok (.arraylength, 1) := by decide +kernel
theorem dX0_split_65 : decode cX0_split 65 = .ok (.if_icmp .lt 4, 3) := by decide +kernel
theorem dX0_split_68 : decode cX0_split 68 = .ok (.return_, 1) := by decide +kernel
theorem dX0_split_69 : decode cX0_split 69 = .ok (.aload_n 3, 1) := by decide +kernel
theorem dX0_split_70 : decode cX0_split 70 = .ok (.aload 4, 2) := by decide +kernel
theorem dX0_split_72 : decode cX0_split 72 = .ok (.invokestatic 31, 3) := by decide +kernel
theorem dX0_split_75 : decode cX0_split 75 = .ok (.ifCond .ge 14, 3) := by decide +kernel
theorem dX0_split_78 : decode cX0_split 78 = .ok (.aload_n 2, 1) := by decide +kernel
theorem dX0_split_79 : decode cX0_split 79 = .ok (.aload_n 3, 1) := by decide +kernel
theorem dX0_split_80 : decode cX0_split 80 = .ok (.invokevirtual 37, 3) := by decide +kernel
theorem dX0_split_83 : decode cX0_split 83 = .ok (.aload_n 2, 1) := by decide +kernel
theorem dX0_split_84 : decode cX0_split 84 = .ok (.iconst 0, 1) := by decide +kernel
theorem dX0_split_85 : decode cX0_split 85 = .ok (.putfield 41, 3) := by decide +kernel
theorem dX0_split_88 : decode cX0_split 88 = .ok (.return_, 1) := by decide +kernel
theorem dX0_split_89 : decode cX0_split 89 = .ok (.aload 4, 2) := by decide +kernel
theorem dX0_split_91 : decode cX0_split 91 = .ok (.getfield 20, 3) := by decide +kernel
theorem dX0_split_94 : decode cX0_split 94 = .ok (.iconst 1, 1) := by decide +kernel
theorem dX0_split_95 : decode cX0_split 95 = .ok (.if_icmp .ne 21, 3) := by decide +kernel
theorem dX0_split_98 : decode cX0_split 98 = .ok (.aload_n 2, 1) := by decide +kernel
theorem dX0_split_99 : decode cX0_split 99 = .ok (.aload_n 0, 1) := by decide +kernel
theorem dX0_split_100 : decode cX0_split 100 = .ok (.aload_n 1, 1) := by decide +kernel
theorem dX0_split_101 : decode cX0_split 101 = .ok (.aload_n 3, 1) := by decide +kernel
theorem dX0_split_102 : decode cX0_split 102 = .ok (.aload 4, 2) := by decide +kernel
theorem dX0_split_104 : decode cX0_split 104 = .ok (.getfield 27, 3) := by decide +kernel
theorem dX0_split_107 : decode cX0_split 107 = .ok (.iconst 0, 1) := by decide +kernel
theorem dX0_split_108 : decode cX0_split 108 = .ok (.iaload, 1) := by decide +kernel
theorem dX0_split_109 : decode cX0_split 109 = .ok (.invokevirtual 45, 3) := by decide +kernel
theorem dX0_split_112 : decode cX0_split 112 = .ok (.invokevirtual 49, 3) := by decide +kernel
theorem dX0_split_115 : decode cX0_split 115 = .ok (.return_, 1) := by decide +kernel
theorem dX0_split_116 : decode cX0_split 116 = .ok (.aload 4, 2) := by decide +kernel
theorem dX0_split_118 : decode cX0_split 118 = .ok (.getfield 27, 3) := by decide +kernel
theorem dX0_split_121 : decode cX0_split 121 = .ok (.aload 4, 2) := by decide +kernel
theorem dX0_split_123 : decode cX0_split 123 = .ok (.getfield 20, 3) := by decide +kernel
theorem dX0_split_126 : decode cX0_split 126 = .ok (.iconst 1, 1) := by decide +kernel
theorem dX0_split_127 : decode cX0_split 127 = .ok (.isub, 1) := by decide +kernel
theorem dX0_split_128 : decode cX0_split 128 = .ok (.iaload, 1) := by decide +kernel
theorem dX0_split_129 : decode cX0_split 129 = .ok (.invokestatic 52, 3) := by decide +kernel
theorem dX0_split_132 : decode cX0_split 132 = .ok (.istore 6, 2) := by decide +kernel
theorem dX0_split_134 : decode cX0_split 134 = .ok (.aload_n 0, 1) := by decide +kernel
theorem dX0_split_135 : decode cX0_split 135 = .ok (.getfield 14, 3) := by decide +kernel
theorem dX0_split_138 : decode cX0_split 138 = .ok (.aload 4, 2) := by decide +kernel
theorem dX0_split_140 : decode cX0_split 140 = .ok (.iload 6, 2) := by decide +kernel
theorem dX0_split_142 : decode cX0_split 142 = .ok (.invokestatic 58, 3) := by decide +kernel
theorem dX0_split_145 : decode cX0_split 145 = .ok (.aload_n 2, 1) := by decide +kernel
theorem dX0_split_146 : decode cX0_split 146 = .ok (.aload_n 3, 1) := by decide +kernel
theorem dX0_split_147 : decode cX0_split 147 = .ok (.iload 6, 2) := by decide +kernel
theorem dX0_split_149 : decode cX0_split 149 = .ok (.invokestatic 58, 3) := by decide +kernel
theorem dX0_split_152 : decode cX0_split 152 = .ok (.iload 5, 2) := by decide +kernel
theorem dX0_split_154 : decode cX0_split 154 = .ok (.istore 7, 2) := by decide +kernel
theorem dX0_split_156 : decode cX0_split 156 = .ok (.iload 7, 2) := by decide +kernel
theorem dX0_split_158 : decode cX0_split 158 = .ok (.ifCond .lt 31, 3) := by decide +kernel
theorem dX0_split_161 : decode cX0_split 161 = .ok (.aload_n 1, 1) := by decide +kernel
theorem dX0_split_162 : decode cX0_split 162 = .ok (.getfield 27, 3) := by decide +kernel
theorem dX0_split_165 : decode cX0_split 165 = .ok (.iload 7, 2) := by decide +kernel
theorem dX0_split_167 : decode cX0_split 167 = .ok (.aload_n 0, 1) := by decide +kernel
theorem dX0_split_168 : decode cX0_split 168 = .ok (.aload_n 2, 1) := by decide +kernel
theorem dX0_split_169 : decode cX0_split 169 = .ok (.getfield 27, 3) := by decide +kernel
theorem dX0_split_172 : decode cX0_split 172 = .ok (.iload 7, 2) := by decide +kernel
theorem dX0_split_174 : decode cX0_split 174 = .ok (.aload 4, 2) := by decide +kernel
theorem dX0_split_176 : decode cX0_split 176 = .ok (.getfield 20, 3) := by decide +kernel
theorem dX0_split_179 : decode cX0_split 179 = .ok (.invokevirtual 62, 3) := by decide +kernel
theorem dX0_split_182 : decode cX0_split 182 = .ok (.iastore, 1) := by decide +kernel
theorem dX0_split_183 : decode cX0_split 183 = .ok (.iinc 7 (-1), 3) := by decide +kernel
theorem dX0_split_186 : decode cX0_split 186 = .ok (.goto (-30), 3) := by decide +kernel
theorem dX0_split_189 : decode cX0_split 189 = .ok (.aload_n 1, 1) := by decide +kernel
theorem dX0_split_190 : decode cX0_split 190 = .ok (.iload 5, 2) := by decide +kernel
theorem dX0_split_192 : decode cX0_split 192 = .ok (.iconst 1, 1) := by decide +kernel
theorem dX0_split_193 : decode cX0_split 193 = .ok (.iadd, 1) := by decide +kernel
theorem dX0_split_194 : decode cX0_split 194 = .ok (.invokevirtual 24, 3) := by decide +kernel
theorem dX0_split_197 : decode cX0_split 197 = .ok (.aload_n 2, 1) := by decide +kernel
theorem dX0_split_198 : decode cX0_split 198 = .ok (.aload 4, 2) := by decide +kernel
theorem dX0_split_200 : decode cX0_split 200 = .ok (.getfield 20, 3) := by decide +kernel
theorem dX0_split_203 : decode cX0_split 203 = .ok (.invokevirtual 24, 3) := by decide +kernel
theorem dX0_split_206 : decode cX0_split 206 = .ok (.aload_n 2, 1) := by decide +kernel
theorem dX0_split_207 : decode cX0_split 207 = .ok (.aload_n 2, 1) := by decide +kernel
theorem dX0_split_208 : decode cX0_split 208 = .ok (.iload 6, 2) := by decide +kernel
theorem dX0_split_210 : decode cX0_split 210 = .ok (.invokestatic 66, 3) := by decide +kernel
theorem dX0_split_213 : decode cX0_split 213 = .ok (.return_, 1) := by decide +kernel
theorem dX0_splitByLimb_0 : decode cX0_splitByLimb 0 = .ok (.iload_n 3, 1) := by decide +kernel
theorem dX0_splitByLimb_1 : decode cX0_splitByLimb 1 = .ok (.i2l, 1) := by decide +kernel
theorem dX0_splitByLimb_2 : decode cX0_splitByLimb 2 = .ok (.ldc2_w 69, 3) := by decide +kernel
theorem dX0_splitByLimb_5 : decode cX0_splitByLimb 5 = .ok (.land, 1) := by decide +kernel
theorem dX0_splitByLimb_6 : decode cX0_splitByLimb 6 = .ok (.lstore 4, 2) := by decide +kernel
theorem dX0_splitByLimb_8 : decode cX0_splitByLimb 8 = .ok (.lconst 0, 1) := by decide +kernel
theorem dX0_splitByLimb_9 : decode cX0_splitByLimb 9 = .ok (.lstore 6, 2) := by decide +kernel
theorem dX0_splitByLimb_11 : decode cX0_splitByLimb 11 = .ok (.aload_n 2, 1) := by decide +kernel
theorem dX0_splitByLimb_12 : decode cX0_splitByLimb 12 = .ok (.getfield 20, 3) := by decide +kernel
theorem dX0_splitByLimb_15 : decode cX0_splitByLimb 15 = .ok (.iconst 1, 1) := by decide +kernel
theorem dX0_splitByLimb_16 : decode cX0_splitByLimb 16 = .ok (.isub, 1) := by decide +kernel
theorem dX0_splitByLimb_17 : decode cX0_splitByLimb 17 = .ok (.istore 8, 2) := by decide +kernel
theorem dX0_splitByLimb_19 : decode cX0_splitByLimb 19 = .ok (.iload 8, 2) := by decide +kernel
theorem dX0_splitByLimb_21 : decode cX0_splitByLimb 21 = .ok (.ifCond .lt 52, 3) := by decide +kernel
theorem dX0_splitByLimb_24 : decode cX0_splitByLimb 24 = .ok (.lload 6, 2) := by decide +kernel
theorem dX0_splitByLimb_26 : decode cX0_splitByLimb 26 = .ok (.bipush 32, 2) := by decide +kernel
theorem dX0_splitByLimb_28 : decode cX0_splitByLimb 28 = .ok (.lshl, 1) := by decide +kernel
theorem dX0_splitByLimb_29 : decode cX0_splitByLimb 29 = .ok (.aload_n 2, 1) := by decide +kernel
theorem dX0_splitByLimb_30 : decode cX0_splitByLimb 30 = .ok (.iload 8, 2) := by decide +kernel
theorem dX0_splitByLimb_32 : decode cX0_splitByLimb 32 = .ok (.invokevirtual 71, 3) := by decide +kernel
theorem dX0_splitByLimb_35 : decode cX0_splitByLimb 35 = .ok (.lor, 1) := by decide +kernel
theorem dX0_splitByLimb_36 : decode cX0_splitByLimb 36 = .ok (.lstore 9, 2) := by decide +kernel
theorem dX0_splitByLimb_38 : decode cX0_splitByLimb 38 = .ok (.lload 9, 2) := by decide +kernel
theorem dX0_splitByLimb_40 : decode cX0_splitByLimb 40 = .ok (.lload 4, 2) := by decide +kernel
theorem dX0_splitByLimb_42 : decode cX0_splitByLimb 42 = .ok (.invokestatic 75, 3) := by decide +kernel
theorem dX0_splitByLimb_45 : decode cX0_splitByLimb 45 = .ok (.lstore 11, 2) := by decide +kernel
theorem dX0_splitByLimb_47 : decode cX0_splitByLimb 47 = .ok (.aload_n 1, 1) := by decide +kernel
theorem dX0_splitByLimb_48 : decode cX0_splitByLimb 48 = .ok (.getfield 27, 3) := by decide +kernel
theorem dX0_splitByLimb_51 : decode cX0_splitByLimb 51 = .ok (.iload 8, 2) := by decide +kernel
theorem dX0_splitByLimb_53 : decode cX0_splitByLimb 53 = .ok (.lload 11, 2) := by decide +kernel
theorem dX0_splitByLimb_55 : decode cX0_splitByLimb 55 = .ok (.l2i, 1) := by decide +kernel
theorem dX0_splitByLimb_56 : decode cX0_splitByLimb 56 = .ok (.iastore, 1) := by decide +kernel
theorem dX0_splitByLimb_57 : decode cX0_splitByLimb 57 = .ok (.lload 9, 2) := by decide +kernel
theorem dX0_splitByLimb_59 : decode cX0_splitByLimb 59 = .ok (.lload 11, 2) := by decide +kernel
theorem dX0_splitByLimb_61 : decode cX0_splitByLimb 61 = .ok (.lload 4, 2) := by decide +kernel
theorem dX0_splitByLimb_63 : decode cX0_splitByLimb 63 = .ok (.lmul, 1) := by decide +kernel
theorem dX0_splitByLimb_64 : decode cX0_splitByLimb 64 = .ok (.lsub, 1) := by decide +kernel
theorem dX0_splitByLimb_65 : decode cX0_splitByLimb 65 = .ok (.lstore 6, 2) := by decide +kernel
theorem dX0_splitByLimb_67 : decode cX0_splitByLimb 67 = .ok (.iinc 8 (-1), 3) := by decide +kernel
theorem dX0_splitByLimb_70 : decode cX0_splitByLimb 70 = .ok (.goto (-51), 3) := by decide +kernel
theorem dX0_splitByLimb_73 : decode cX0_splitByLimb 73 = .ok (.aload_n 1, 1) := by decide +kernel
theorem dX0_splitByLimb_74 : decode cX0_splitByLimb 74 = .ok (.aload_n 2, 1) := by decide +kernel
theorem dX0_splitByLimb_75 : decode cX0_splitByLimb 75 = .ok (.getfield 20, 3) := by decide +kernel
theorem dX0_splitByLimb_78 : decode cX0_splitByLimb 78 = .ok (.invokevirtual 24, 3) := by decide +kernel
theorem dX0_splitByLimb_81 : decode cX0_splitByLimb 81 = .ok (.lload 6, 2) := by decide +kernel
theorem dX0_splitByLimb_83 : decode cX0_splitByLimb 83 = .ok (.l2i, 1) := by decide +kernel
theorem dX0_splitByLimb_84 : decode cX0_splitByLimb 84 = .ok (.ireturn, 1) := by decide +kernel
theorem dX0_quotientOfPair_0 : decode cX0_quotientOfPair 0 = .ok (.lload_n 2, 1) := by decide +kernel
theorem dX0_quotientOfPair_1 : decode cX0_quotientOfPair 1 = .ok (.lconst 0, 1) := by decide +kernel
theorem dX0_quotientOfPair_2 : decode cX0_quotientOfPair 2 = .ok (.lcmp, 1) := by decide +kernel
theorem dX0_quotientOfPair_3 : decode cX0_quotientOfPair 3 = .ok (.ifCond .gt 5, 3) := by decide +kernel
theorem dX0_quotientOfPair_6 : decode cX0_quotientOfPair 6 = .ok (.lconst 0, 1) := by decide +kernel
theorem dX0_quotientOfPair_7 : decode cX0_quotientOfPair 7 = .ok (.lreturn, 1) := by decide +kernel
theorem dX0_quotientOfPair_8 : decode cX0_quotientOfPair 8 = .ok (.lload_n 0, 1) := by decide +kernel
theorem dX0_quotientOfPair_9 : decode cX0_quotientOfPair 9 = .ok (.lconst 0, 1) := by decide +kernel
theorem dX0_quotientOfPair_10 : decode cX0_quotientOfPair 10 = .ok (.lcmp, 1) := by decide +kernel
theorem dX0_quotientOfPair_11 : decode cX0_quotientOfPair 11 = .ok (.ifCond .lt 7, 3) := by decide +kernel
theorem dX0_quotientOfPair_14 : decode cX0_quotientOfPair 14 = .ok (.lload_n 0, 1) := by decide +kernel
theorem dX0_quotientOfPair_15 : decode cX0_quotientOfPair 15 = .ok (.lload_n 2, 1) := by decide +kernel
theorem dX0_quotientOfPair_16 : decode cX0_quotientOfPair 16 = .ok (.ldiv, 1) := by decide +kernel
theorem dX0_quotientOfPair_17 : decode cX0_quotientOfPair 17 = .ok (.lreturn, 1) := by decide +kernel
theorem dX0_quotientOfPair_18 : decode cX0_quotientOfPair 18 = .ok (.lload_n 0, 1) := by decide +kernel
theorem dX0_quotientOfPair_19 : decode cX0_quotientOfPair 19 = .ok (.iconst 1, 1) := by decide +kernel
theorem dX0_quotientOfPair_20 : decode cX0_quotientOfPair 20 = .ok (.lushr, 1) := by decide +kernel
theorem dX0_quotientOfPair_21 : decode cX0_quotientOfPair 21 = .ok (.lload_n 2, 1) := by decide +kernel
theorem dX0_quotientOfPair_22 : decode cX0_quotientOfPair 22 = .ok (.ldiv, 1) := by decide +kernel
theorem dX0_quotientOfPair_23 : decode cX0_quotientOfPair 23 = .ok (.iconst 1, 1) := by decide +kernel
theorem dX0_quotientOfPair_24 : decode cX0_quotientOfPair 24 = .ok (.lshl, 1) := by decide +kernel
theorem dX0_quotientOfPair_25 : decode cX0_quotientOfPair 25 = .ok (.lstore 4, 2) := by decide +kernel
theorem dX0_quotientOfPair_27 : decode cX0_quotientOfPair 27 = .ok (.lload_n 0, 1) := by decide +kernel
theorem dX0_quotientOfPair_28 : decode cX0_quotientOfPair 28 = .ok (.lload 4, 2) := by decide +kernel
theorem dX0_quotientOfPair_30 : decode cX0_quotientOfPair 30 = .ok (.lload_n 2, 1) := by decide +kernel
theorem dX0_quotientOfPair_31 : decode cX0_quotientOfPair 31 = .ok (.lmul, 1) := by decide +kernel
theorem dX0_quotientOfPair_32 : decode cX0_quotientOfPair 32 = .ok (.lsub, 1) := by decide +kernel
theorem dX0_quotientOfPair_33 : decode cX0_quotientOfPair 33 = .ok (.lload_n 2, 1) := by decide +kernel
theorem dX0_quotientOfPair_34 : decode cX0_quotientOfPair 34 = .ok (.lcmp, 1) := by decide +kernel
theorem dX0_quotientOfPair_35 : decode cX0_quotientOfPair 35 = .ok (.ifCond .lt 10, 3) := by decide +kernel
theorem dX0_quotientOfPair_38 : decode cX0_quotientOfPair 38 = .ok (.lload 4, 2) := by decide +kernel
theorem dX0_quotientOfPair_40 : decode cX0_quotientOfPair 40 = .ok (.lconst 1, 1) := by decide +kernel
theorem dX0_quotientOfPair_41 : decode cX0_quotientOfPair 41 = .ok (.ladd, 1) := by decide +kernel
theorem dX0_quotientOfPair_42 : decode cX0_quotientOfPair 42 = .ok (.goto 5, 3) := by decide +kernel
theorem dX0_quotientOfPair_45 : decode cX0_quotientOfPair 45 = .ok (.lload 4, 2) := by decide +kernel
theorem dX0_quotientOfPair_47 : decode cX0_quotientOfPair 47 = .ok (.lreturn, 1) := by decide +kernel
theorem dX0_quotientLimb_0 : decode cX0_quotientLimb 0 = .ok (.aload_n 1, 1) := by decide +kernel
theorem dX0_quotientLimb_1 : decode cX0_quotientLimb 1 = .ok (.iload_n 2, 1) := by decide +kernel
theorem dX0_quotientLimb_2 : decode cX0_quotientLimb 2 = .ok (.iload_n 3, 1) := by decide +kernel
theorem dX0_quotientLimb_3 : decode cX0_quotientLimb 3 = .ok (.iadd, 1) := by decide +kernel
theorem dX0_quotientLimb_4 : decode cX0_quotientLimb 4 = .ok (.iaload, 1) := by decide +kernel
theorem dX0_quotientLimb_5 : decode cX0_quotientLimb 5 = .ok (.i2l, 1) := by decide +kernel
theorem dX0_quotientLimb_6 : decode cX0_quotientLimb 6 = .ok (.ldc2_w 69, 3) := by decide +kernel
theorem dX0_quotientLimb_9 : decode cX0_quotientLimb 9 = .ok (.land, 1) := by decide +kernel
theorem dX0_quotientLimb_10 : decode cX0_quotientLimb 10 = .ok (.lstore 4, 2) := by decide +kernel
theorem dX0_quotientLimb_12 : decode cX0_quotientLimb 12 = .ok (.aload_n 1, 1) := by decide +kernel
theorem dX0_quotientLimb_13 : decode cX0_quotientLimb 13 = .ok (.iload_n 2, 1) := by decide +kernel
theorem dX0_quotientLimb_14 : decode cX0_quotientLimb 14 = .ok (.iload_n 3, 1) := by decide +kernel
theorem dX0_quotientLimb_15 : decode cX0_quotientLimb 15 = .ok (.iadd, 1) := by decide +kernel
theorem dX0_quotientLimb_16 : decode cX0_quotientLimb 16 = .ok (.iconst 1, 1) := by decide +kernel
theorem dX0_quotientLimb_17 : decode cX0_quotientLimb 17 = .ok (.isub, 1) := by decide +kernel
theorem dX0_quotientLimb_18 : decode cX0_quotientLimb 18 = .ok (.iaload, 1) := by decide +kernel
theorem dX0_quotientLimb_19 : decode cX0_quotientLimb 19 = .ok (.i2l, 1) := by decide +kernel
theorem dX0_quotientLimb_20 : decode cX0_quotientLimb 20 = .ok (.ldc2_w 69, 3) := by decide +kernel
theorem dX0_quotientLimb_23 : decode cX0_quotientLimb 23 = .ok (.land, 1) := by decide +kernel
theorem dX0_quotientLimb_24 : decode cX0_quotientLimb 24 = .ok (.lstore 6, 2) := by decide +kernel
theorem dX0_quotientLimb_26 : decode cX0_quotientLimb 26 = .ok (.aload_n 1, 1) := by decide +kernel
theorem dX0_quotientLimb_27 : decode cX0_quotientLimb 27 = .ok (.iload_n 2, 1) := by decide +kernel
theorem dX0_quotientLimb_28 : decode cX0_quotientLimb 28 = .ok (.iload_n 3, 1) := by decide +kernel
theorem dX0_quotientLimb_29 : decode cX0_quotientLimb 29 = .ok (.iadd, 1) := by decide +kernel
theorem dX0_quotientLimb_30 : decode cX0_quotientLimb 30 = .ok (.iconst 2, 1) := by decide +kernel
theorem dX0_quotientLimb_31 : decode cX0_quotientLimb 31 = .ok (.isub, 1) := by decide +kernel
theorem dX0_quotientLimb_32 : decode cX0_quotientLimb 32 = .ok (.iaload, 1) := by decide +kernel
theorem dX0_quotientLimb_33 : decode cX0_quotientLimb 33 = .ok (.i2l, 1) := by decide +kernel
theorem dX0_quotientLimb_34 : decode cX0_quotientLimb 34 = .ok (.ldc2_w 69, 3) := by decide +kernel
theorem dX0_quotientLimb_37 : decode cX0_quotientLimb 37 = .ok (.land, 1) := by decide +kernel
theorem dX0_quotientLimb_38 : decode cX0_quotientLimb 38 = .ok (.lstore 8, 2) := by decide +kernel
theorem dX0_quotientLimb_40 : decode cX0_quotientLimb 40 = .ok (.aload_n 0, 1) := by decide +kernel
theorem dX0_quotientLimb_41 : decode cX0_quotientLimb 41 = .ok (.getfield 14, 3) := by decide +kernel
theorem dX0_quotientLimb_44 : decode cX0_quotientLimb 44 = .ok (.iload_n 3, 1) := by decide +kernel
theorem dX0_quotientLimb_45 : decode cX0_quotientLimb 45 = .ok (.iconst 1, 1) := by decide +kernel
theorem dX0_quotientLimb_46 : decode cX0_quotientLimb 46 = .ok (.isub, 1) := by decide +kernel
theorem dX0_quotientLimb_47 : decode cX0_quotientLimb 47 = .ok (.invokevirtual 71, 3) := by decide +kernel
theorem dX0_quotientLimb_50 : decode cX0_quotientLimb 50 = .ok (.lstore 10, 2) := by decide +kernel
theorem dX0_quotientLimb_52 : decode cX0_quotientLimb 52 = .ok (.aload_n 0, 1) := by decide +kernel
theorem dX0_quotientLimb_53 : decode cX0_quotientLimb 53 = .ok (.getfield 14, 3) := by decide +kernel
theorem dX0_quotientLimb_56 : decode cX0_quotientLimb 56 = .ok (.iload_n 3, 1) := by decide +kernel
theorem dX0_quotientLimb_57 : decode cX0_quotientLimb 57 = .ok (.iconst 2, 1) := by decide +kernel
theorem dX0_quotientLimb_58 : decode cX0_quotientLimb 58 = .ok (.isub, 1) := by decide +kernel
theorem dX0_quotientLimb_59 : decode cX0_quotientLimb 59 = .ok (.invokevirtual 71, 3) := by decide +kernel
theorem dX0_quotientLimb_62 : decode cX0_quotientLimb 62 = .ok (.lstore 12, 2) := by decide +kernel
theorem dX0_quotientLimb_64 : decode cX0_quotientLimb 64 = .ok (.lload 4, 2) := by decide +kernel
theorem dX0_quotientLimb_66 : decode cX0_quotientLimb 66 = .ok (.bipush 32, 2) := by decide +kernel
theorem dX0_quotientLimb_68 : decode cX0_quotientLimb 68 = .ok (.lshl, 1) := by decide +kernel
theorem dX0_quotientLimb_69 : decode cX0_quotientLimb 69 = .ok (.lload 6, 2) := by decide +kernel
theorem dX0_quotientLimb_71 : decode cX0_quotientLimb 71 = .ok (.lor, 1) := by decide +kernel
theorem dX0_quotientLimb_72 : decode cX0_quotientLimb 72 = .ok (.lstore 14, 2) := by decide +kernel
theorem dX0_quotientLimb_74 : decode cX0_quotientLimb 74 = .ok (.lload 4, 2) := by decide +kernel
theorem dX0_quotientLimb_76 : decode cX0_quotientLimb 76 = .ok (.lload 10, 2) := by decide +kernel
theorem dX0_quotientLimb_78 : decode cX0_quotientLimb 78 = .ok (.lcmp, 1) := by decide +kernel
theorem dX0_quotientLimb_79 : decode cX0_quotientLimb 79 = .ok (.ifCond .lt 9, 3) := by decide +kernel
theorem dX0_quotientLimb_82 : decode cX0_quotientLimb 82 = .ok (.ldc2_w 69, 3) := by decide +kernel
theorem dX0_quotientLimb_85 : decode cX0_quotientLimb 85 = .ok (.goto 10, 3) := by decide +kernel
theorem dX0_quotientLimb_88 : decode cX0_quotientLimb 88 = .ok (.lload 14, 2) := by decide +kernel
theorem dX0_quotientLimb_90 : decode cX0_quotientLimb 90 = .ok (.lload 10, 2) := by decide +kernel
theorem dX0_quotientLimb_92 : decode cX0_quotientLimb 92 = .ok (.invokestatic 75, 3) := by decide +kernel
theorem dX0_quotientLimb_95 : decode cX0_quotientLimb 95 = .ok (.lstore 16, 2) := by decide +kernel
theorem dX0_quotientLimb_97 : decode cX0_quotientLimb 97 = .ok (.lload 14, 2) := by decide +kernel
theorem dX0_quotientLimb_99 : decode cX0_quotientLimb 99 = .ok (.lload 16, 2) := by decide +kernel
theorem dX0_quotientLimb_101 : decode cX0_quotientLimb 101 = .ok (.lload 10, 2) := by decide +kernel
theorem dX0_quotientLimb_103 : decode cX0_quotientLimb 103 = .ok (.lmul, 1) := by decide +kernel
theorem dX0_quotientLimb_104 : decode cX0_quotientLimb 104 = .ok (.lsub, 1) := by decide +kernel
theorem dX0_quotientLimb_105 : decode cX0_quotientLimb 105 = .ok (.lstore 18, 2) := by decide +kernel
theorem dX0_quotientLimb_107 : decode cX0_quotientLimb 107 = .ok (.iconst 0, 1) := by decide +kernel
theorem dX0_quotientLimb_108 : decode cX0_quotientLimb 108 = .ok (.istore 20, 2) := by decide +kernel
theorem dX0_quotientLimb_110 : decode cX0_quotientLimb 110 = .ok (.iload 20, 2) := by decide +kernel
theorem dX0_quotientLimb_112 : decode cX0_quotientLimb 112 = .ok (.iconst 2, 1) := by decide +kernel
theorem dX0_quotientLimb_113 : decode cX0_quotientLimb 113 = .ok (.if_icmp .ge 53, 3) := by decide +kernel
theorem dX0_quotientLimb_116 : decode cX0_quotientLimb 116 = .ok (.lload 18, 2) := by decide +kernel
theorem dX0_quotientLimb_118 : decode cX0_quotientLimb 118 = .ok (.ldc2_w 69, 3) := by decide +kernel
theorem dX0_quotientLimb_121 : decode cX0_quotientLimb 121 = .ok (.lcmp, 1) := by decide +kernel
theorem dX0_quotientLimb_122 : decode cX0_quotientLimb 122 = .ok (.ifCond .gt 44, 3) := by decide +kernel
theorem dX0_quotientLimb_125 : decode cX0_quotientLimb 125 = .ok (.lload 16, 2) := by decide +kernel
theorem dX0_quotientLimb_127 : decode cX0_quotientLimb 127 = .ok (.lload 12, 2) := by decide +kernel
theorem dX0_quotientLimb_129 : decode cX0_quotientLimb 129 = .ok (.lmul, 1) := by decide +kernel
theorem dX0_quotientLimb_130 : decode cX0_quotientLimb 130 = .ok (.lload 18, 2) := by decide +kernel
theorem dX0_quotientLimb_132 : decode cX0_quotientLimb 132 = .ok (.bipush 32, 2) := by decide +kernel
theorem dX0_quotientLimb_134 : decode cX0_quotientLimb 134 = .ok (.lshl, 1) := by decide +kernel
theorem dX0_quotientLimb_135 : decode cX0_quotientLimb 135 = .ok (.lload 8, 2) := by decide +kernel
theorem dX0_quotientLimb_137 : decode cX0_quotientLimb 137 = .ok (.lor, 1) := by decide +kernel
theorem dX0_quotientLimb_138 : decode cX0_quotientLimb 138 = .ok (.invokestatic 79, 3) := by decide +kernel
theorem dX0_quotientLimb_141 : decode cX0_quotientLimb 141 = .ok (.ifCond .gt 6, 3) := by decide +kernel
theorem dX0_quotientLimb_144 : decode cX0_quotientLimb 144 = .ok (.goto 22, 3) := by decide +kernel
theorem dX0_quotientLimb_147 : decode cX0_quotientLimb 147 = .ok (.lload 16, 2) := by decide +kernel
theorem dX0_quotientLimb_149 : decode cX0_quotientLimb 149 = .ok (.lconst 1, 1) := by decide +kernel
theorem dX0_quotientLimb_150 : decode cX0_quotientLimb 150 = .ok (.lsub, 1) := by decide +kernel
theorem dX0_quotientLimb_151 : decode cX0_quotientLimb 151 = .ok (.lstore 16, 2) := by decide +kernel
theorem dX0_quotientLimb_153 : decode cX0_quotientLimb 153 = .ok (.lload 18, 2) := by decide +kernel
theorem dX0_quotientLimb_155 : decode cX0_quotientLimb 155 = .ok (.lload 10, 2) := by decide +kernel
theorem dX0_quotientLimb_157 : decode cX0_quotientLimb 157 = .ok (.ladd, 1) := by decide +kernel
theorem dX0_quotientLimb_158 : decode cX0_quotientLimb 158 = .ok (.lstore 18, 2) := by decide +kernel
theorem dX0_quotientLimb_160 : decode cX0_quotientLimb 160 = .ok (.iinc 20 1, 3) := by decide +kernel
theorem dX0_quotientLimb_163 : decode cX0_quotientLimb 163 = .ok (.goto (-53), 3) := by decide +kernel
theorem dX0_quotientLimb_166 : decode cX0_quotientLimb 166 = .ok (.aload_n 0, 1) := by decide +kernel
theorem dX0_quotientLimb_167 : decode cX0_quotientLimb 167 = .ok (.aload_n 1, 1) := by decide +kernel
theorem dX0_quotientLimb_168 : decode cX0_quotientLimb 168 = .ok (.iload_n 2, 1) := by decide +kernel
theorem dX0_quotientLimb_169 : decode cX0_quotientLimb 169 = .ok (.iload_n 3, 1) := by decide +kernel
theorem dX0_quotientLimb_170 : decode cX0_quotientLimb 170 = .ok (.lload 16, 2) := by decide +kernel
theorem dX0_quotientLimb_172 : decode cX0_quotientLimb 172 = .ok (.invokevirtual 85, 3) := by decide +kernel
theorem dX0_quotientLimb_175 : decode cX0_quotientLimb 175 = .ok (.ifCond .eq 16, 3) := by decide +kernel
theorem dX0_quotientLimb_178 : decode cX0_quotientLimb 178 = .ok (.aload_n 0, 1) := by decide +kernel
theorem dX0_quotientLimb_179 : decode cX0_quotientLimb 179 = .ok (.aload_n 1, 1) := by decide +kernel
theorem dX0_quotientLimb_180 : decode cX0_quotientLimb 180 = .ok (.iload_n 2, 1) := by decide +kernel
theorem dX0_quotientLimb_181 : decode cX0_quotientLimb 181 = .ok (.iload_n 3, 1) := by decide +kernel
theorem dX0_quotientLimb_182 : decode cX0_quotientLimb 182 = .ok (.invokevirtual 89, 3) := by decide +kernel
theorem dX0_quotientLimb_185 : decode cX0_quotientLimb 185 = .ok (.lload 16, 2) := by decide +kernel
theorem dX0_quotientLimb_187 : decode cX0_quotientLimb 187 = .ok (.lconst 1, 1) := by decide +kernel
theorem dX0_quotientLimb_188 : decode cX0_quotientLimb 188 = .ok (.lsub, 1) := by decide +kernel
theorem dX0_quotientLimb_189 : decode cX0_quotientLimb 189 = .ok (.lstore 16, 2) := by decide +kernel
theorem dX0_quotientLimb_191 : decode cX0_quotientLimb 191 = .ok (.lload 16, 2) := by decide +kernel
theorem dX0_quotientLimb_193 : decode cX0_quotientLimb 193 = .ok (.l2i, 1) := by decide +kernel
theorem dX0_quotientLimb_194 : decode cX0_quotientLimb 194 = .ok (.ireturn, 1) := by decide +kernel
theorem dX0_takeAway_0 : decode cX0_takeAway 0 = .ok (.aload_n 0, 1) := by decide +kernel
theorem dX0_takeAway_1 : decode cX0_takeAway 1 = .ok (.getfield 14, 3) := by decide +kernel
theorem dX0_takeAway_4 : decode cX0_takeAway 4 = .ok (.getfield 27, 3) := by decide +kernel
theorem dX0_takeAway_7 : decode cX0_takeAway 7 = .ok (.astore 6, 2) := by decide +kernel
theorem dX0_takeAway_9 : decode cX0_takeAway 9 = .ok (.lconst 0, 1) := by decide +kernel
theorem dX0_takeAway_10 : decode cX0_takeAway 10 = .ok (.lstore 7, 2) := by decide +kernel
theorem dX0_takeAway_12 : decode cX0_takeAway 12 = .ok (.lconst 0, 1) := by decide +kernel
theorem dX0_takeAway_13 : decode cX0_takeAway 13 = .ok (.lstore 9, 2) := by decide +kernel
theorem dX0_takeAway_15 : decode cX0_takeAway 15 = .ok (.iconst 0, 1) := by decide +kernel
theorem dX0_takeAway_16 : decode cX0_takeAway 16 = .ok (.istore 11, 2) := by decide +kernel
theorem dX0_takeAway_18 : decode cX0_takeAway 18 = .ok (.iload 11, 2) := by decide +kernel
theorem dX0_takeAway_20 : decode cX0_takeAway 20 = .ok (.iload_n 3, 1) := by decide +kernel
theorem dX0_takeAway_21 : decode cX0_takeAway 21 = .ok (.if_icmp .ge 73, 3) := by decide +kernel
theorem dX0_takeAway_24 : decode cX0_takeAway 24 = .ok (.lload 7, 2) := by decide +kernel
theorem dX0_takeAway_26 : decode cX0_takeAway 26 = .ok (.lload 4, 2) := by decide +kernel
theorem dX0_takeAway_28 : decode cX0_takeAway 28 = .ok (.aload 6, 2) := by decide +kernel
theorem dX0_takeAway_30 : decode cX0_takeAway 30 = .ok (.iload 11, 2) := by decide +kernel
theorem dX0_takeAway_32 : decode cX0_takeAway 32 = .ok (.iaload, 1) := by decide +kernel
theorem dX0_takeAway_33 : decode cX0_takeAway 33 = .ok (.i2l, 1) := by decide +kernel
theorem dX0_takeAway_34 : decode cX0_takeAway 34 = .ok (.ldc2_w 69, 3) := by decide +kernel
theorem dX0_takeAway_37 : decode cX0_takeAway 37 = .ok (.land, 1) := by decide +kernel
theorem dX0_takeAway_38 : decode cX0_takeAway 38 = .ok (.lmul, 1) := by decide +kernel
theorem dX0_takeAway_39 : decode cX0_takeAway 39 = .ok (.ladd, 1) := by decide +kernel
theorem dX0_takeAway_40 : decode cX0_takeAway 40 = .ok (.lstore 7, 2) := by decide +kernel
theorem dX0_takeAway_42 : decode cX0_takeAway 42 = .ok (.lload 9, 2) := by decide +kernel
theorem dX0_takeAway_44 : decode cX0_takeAway 44 = .ok (.aload_n 1, 1) := by decide +kernel
theorem dX0_takeAway_45 : decode cX0_takeAway 45 = .ok (.iload 11, 2) := by decide +kernel
theorem dX0_takeAway_47 : decode cX0_takeAway 47 = .ok (.iload_n 2, 1) := by decide +kernel
theorem dX0_takeAway_48 : decode cX0_takeAway 48 = .ok (.iadd, 1) := by decide +kernel
theorem dX0_takeAway_49 : decode cX0_takeAway 49 = .ok (.iaload, 1) := by decide +kernel
theorem dX0_takeAway_50 : decode cX0_takeAway 50 = .ok (.i2l, 1) := by decide +kernel
theorem dX0_takeAway_51 : decode cX0_takeAway 51 = .ok (.ldc2_w 69, 3) := by decide +kernel
theorem dX0_takeAway_54 : decode cX0_takeAway 54 = .ok (.land, 1) := by decide +kernel
theorem dX0_takeAway_55 : decode cX0_takeAway 55 = .ok (.lload 7, 2) := by decide +kernel
theorem dX0_takeAway_57 : decode cX0_takeAway 57 = .ok (.ldc2_w 69, 3) := by decide +kernel
theorem dX0_takeAway_60 : decode cX0_takeAway 60 = .ok (.land, 1) := by decide +kernel
theorem dX0_takeAway_61 : decode cX0_takeAway 61 = .ok (.lsub, 1) := by decide +kernel
theorem dX0_takeAway_62 : decode cX0_takeAway 62 = .ok (.ladd, 1) := by decide +kernel
theorem dX0_takeAway_63 : decode cX0_takeAway 63 = .ok (.lstore 9, 2) := by decide +kernel
theorem dX0_takeAway_65 : decode cX0_takeAway 65 = .ok (.aload_n 1, 1) := by decide +kernel
theorem dX0_takeAway_66 : decode cX0_takeAway 66 = .ok (.iload 11, 2) := by decide +kernel
theorem dX0_takeAway_68 : decode cX0_takeAway 68 = .ok (.iload_n 2, 1) := by decide +kernel
theorem dX0_takeAway_69 : decode cX0_takeAway 69 = .ok (.iadd, 1) := by decide +kernel
theorem dX0_takeAway_70 : decode cX0_takeAway 70 = .ok (.lload 9, 2) := by decide +kernel
theorem dX0_takeAway_72 : decode cX0_takeAway 72 = .ok (.l2i, 1) := by decide +kernel
theorem dX0_takeAway_73 : decode cX0_takeAway 73 = .ok (.iastore, 1) := by decide +kernel
theorem dX0_takeAway_74 : decode cX0_takeAway 74 = .ok (.lload 7, 2) := by decide +kernel
theorem dX0_takeAway_76 : decode cX0_takeAway 76 = .ok (.bipush 32, 2) := by decide +kernel
theorem dX0_takeAway_78 : decode cX0_takeAway 78 = .ok (.lushr, 1) := by decide +kernel
theorem dX0_takeAway_79 : decode cX0_takeAway 79 = .ok (.lstore 7, 2) := by decide +kernel
theorem dX0_takeAway_81 : decode cX0_takeAway 81 = .ok (.lload 9, 2) := by decide +kernel
theorem dX0_takeAway_83 : decode cX0_takeAway 83 = .ok (.bipush 32, 2) := by decide +kernel
theorem dX0_takeAway_85 : decode cX0_takeAway 85 = .ok (.lshr, 1) := by decide +kernel
theorem dX0_takeAway_86 : decode cX0_takeAway 86 = .ok (.lstore 9, 2) := by decide +kernel
theorem dX0_takeAway_88 : decode cX0_takeAway 88 = .ok (.iinc 11 1, 3) := by decide +kernel
theorem dX0_takeAway_91 : decode cX0_takeAway 91 = .ok (.goto (-73), 3) := by decide +kernel
theorem dX0_takeAway_94 : decode cX0_takeAway 94 = .ok (.lload 9, 2) := by decide +kernel
theorem dX0_takeAway_96 : decode cX0_takeAway 96 = .ok (.aload_n 1, 1) := by decide +kernel
theorem dX0_takeAway_97 : decode cX0_takeAway 97 = .ok (.iload_n 2, 1) := by decide +kernel
theorem dX0_takeAway_98 : decode cX0_takeAway 98 = .ok (.iload_n 3, 1) := by decide +kernel
theorem dX0_takeAway_99 : decode cX0_takeAway 99 = .ok (.iadd, 1) := by decide +kernel
theorem dX0_takeAway_100 : decode cX0_takeAway 100 = .ok (.iaload, 1) := by decide +kernel
theorem dX0_takeAway_101 : decode cX0_takeAway 101 = .ok (.i2l, 1) := by decide +kernel
theorem dX0_takeAway_102 : decode cX0_takeAway 102 = .ok (.ldc2_w 69, 3) := by decide +kernel
theorem dX0_takeAway_105 : decode cX0_takeAway 105 = .ok (.land, 1) := by decide +kernel
theorem dX0_takeAway_106 : decode cX0_takeAway 106 = .ok (.lload 7, 2) := by decide +kernel
theorem dX0_takeAway_108 : decode cX0_takeAway 108 = .ok (.lsub, 1) := by decide +kernel
theorem dX0_takeAway_109 : decode cX0_takeAway 109 = .ok (.ladd, 1) := by decide +kernel
theorem dX0_takeAway_110 : decode cX0_takeAway 110 = .ok (.lstore 9, 2) := by decide +kernel
theorem dX0_takeAway_112 : decode cX0_takeAway 112 = .ok (.aload_n 1, 1) := by decide +kernel
theorem dX0_takeAway_113 : decode cX0_takeAway 113 = .ok (.iload_n 2, 1) := by decide +kernel
theorem dX0_takeAway_114 : decode cX0_takeAway 114 = .ok (.iload_n 3, 1) := by decide +kernel
theorem dX0_takeAway_115 : decode cX0_takeAway 115 = .ok (.iadd, 1) := by decide +kernel
theorem dX0_takeAway_116 : decode cX0_takeAway 116 = .ok (.lload 9, 2) := by decide +kernel
theorem dX0_takeAway_118 : decode cX0_takeAway 118 = .ok (.l2i, 1) := by decide +kernel
theorem dX0_takeAway_119 : decode cX0_takeAway 119 = .ok (.iastore, 1) := by decide +kernel
theorem dX0_takeAway_120 : decode cX0_takeAway 120 = .ok (.lload 9, 2) := by decide +kernel
theorem dX0_takeAway_122 : decode cX0_takeAway 122 = .ok (.lconst 0, 1) := by decide +kernel
theorem dX0_takeAway_123 : decode cX0_takeAway 123 = .ok (.lcmp, 1) := by decide +kernel
theorem dX0_takeAway_124 : decode cX0_takeAway 124 = .ok (.ifCond .ge 7, 3) := by decide +kernel
theorem dX0_takeAway_127 : decode cX0_takeAway 127 = .ok (.iconst 1, 1) := by decide +kernel
theorem dX0_takeAway_128 : decode cX0_takeAway 128 = .ok (.goto 4, 3) := by decide +kernel
theorem dX0_takeAway_131 : decode cX0_takeAway 131 = .ok (.iconst 0, 1) := by decide +kernel
theorem dX0_takeAway_132 : decode cX0_takeAway 132 = .ok (.ireturn, 1) := by decide +kernel
theorem dX0_giveBack_0 : decode cX0_giveBack 0 = .ok (.lconst 0, 1) := by decide +kernel
theorem dX0_giveBack_1 : decode cX0_giveBack 1 = .ok (.lstore 4, 2) := by decide +kernel
theorem dX0_giveBack_3 : decode cX0_giveBack 3 = .ok (.iconst 0, 1) := by decide +kernel
theorem dX0_giveBack_4 : decode cX0_giveBack 4 = .ok (.istore 6, 2) := by decide +kernel
theorem dX0_giveBack_6 : decode cX0_giveBack 6 = .ok (.iload 6, 2) := by decide +kernel
theorem dX0_giveBack_8 : decode cX0_giveBack 8 = .ok (.iload_n 3, 1) := by decide +kernel
theorem dX0_giveBack_9 : decode cX0_giveBack 9 = .ok (.if_icmp .ge 51, 3) := by decide +kernel
theorem dX0_giveBack_12 : decode cX0_giveBack 12 = .ok (.lload 4, 2) := by decide +kernel
theorem dX0_giveBack_14 : decode cX0_giveBack 14 = .ok (.aload_n 1, 1) := by decide +kernel
theorem dX0_giveBack_15 : decode cX0_giveBack 15 = .ok (.iload 6, 2) := by decide +kernel
theorem dX0_giveBack_17 : decode cX0_giveBack 17 = .ok (.iload_n 2, 1) := by decide +kernel
theorem dX0_giveBack_18 : decode cX0_giveBack 18 = .ok (.iadd, 1) := by decide +kernel
theorem dX0_giveBack_19 : decode cX0_giveBack 19 = .ok (.iaload, 1) := by decide +kernel
theorem dX0_giveBack_20 : decode cX0_giveBack 20 = .ok (.i2l, 1) := by decide +kernel
theorem dX0_giveBack_21 : decode cX0_giveBack 21 = .ok (.ldc2_w 69, 3) := by decide +kernel
theorem dX0_giveBack_24 : decode cX0_giveBack 24 = .ok (.land, 1) := by decide +kernel
theorem dX0_giveBack_25 : decode cX0_giveBack 25 = .ok (.aload_n 0, 1) := by decide +kernel
theorem dX0_giveBack_26 : decode cX0_giveBack 26 = .ok (.getfield 14, 3) := by decide +kernel
theorem dX0_giveBack_29 : decode cX0_giveBack 29 = .ok (.iload 6, 2) := by decide +kernel
theorem dX0_giveBack_31 : decode cX0_giveBack 31 = .ok (.invokevirtual 71, 3) := by decide +kernel
theorem dX0_giveBack_34 : decode cX0_giveBack 34 = .ok (.ladd, 1) := by decide +kernel
theorem dX0_giveBack_35 : decode cX0_giveBack 35 = .ok (.ladd, 1) := by decide +kernel
theorem dX0_giveBack_36 : decode cX0_giveBack 36 = .ok (.lstore 4, 2) := by decide +kernel
theorem dX0_giveBack_38 : decode cX0_giveBack 38 = .ok (.aload_n 1, 1) := by decide +kernel
theorem dX0_giveBack_39 : decode cX0_giveBack 39 = .ok (.iload 6, 2) := by decide +kernel
theorem dX0_giveBack_41 : decode cX0_giveBack 41 = .ok (.iload_n 2, 1) := by decide +kernel
theorem dX0_giveBack_42 : decode cX0_giveBack 42 = .ok (.iadd, 1) := by decide +kernel
theorem dX0_giveBack_43 : decode cX0_giveBack 43 = .ok (.lload 4, 2) := by decide +kernel
theorem dX0_giveBack_45 : decode cX0_giveBack 45 = .ok (.l2i, 1) := by decide +kernel
theorem dX0_giveBack_46 : decode cX0_giveBack 46 = .ok (.iastore, 1) := by decide +kernel
theorem dX0_giveBack_47 : decode cX0_giveBack 47 = .ok (.lload 4, 2) := by decide +kernel
theorem dX0_giveBack_49 : decode cX0_giveBack 49 = .ok (.bipush 32, 2) := by decide +kernel
theorem dX0_giveBack_51 : decode cX0_giveBack 51 = .ok (.lushr, 1) := by decide +kernel
theorem dX0_giveBack_52 : decode cX0_giveBack 52 = .ok (.lstore 4, 2) := by decide +kernel
theorem dX0_giveBack_54 : decode cX0_giveBack 54 = .ok (.iinc 6 1, 3) := by decide +kernel
theorem dX0_giveBack_57 : decode cX0_giveBack 57 = .ok (.goto (-51), 3) := by decide +kernel
theorem dX0_giveBack_60 : decode cX0_giveBack 60 = .ok (.aload_n 1, 1) := by decide +kernel
theorem dX0_giveBack_61 : decode cX0_giveBack 61 = .ok (.iload_n 2, 1) := by decide +kernel
theorem dX0_giveBack_62 : decode cX0_giveBack 62 = .ok (.iload_n 3, 1) := by decide +kernel
theorem dX0_giveBack_63 : decode cX0_giveBack 63 = .ok (.iadd, 1) := by decide +kernel
theorem dX0_giveBack_64 : decode cX0_giveBack 64 = .ok (.dup2, 1) := by decide +kernel
theorem dX0_giveBack_65 : decode cX0_giveBack 65 = .ok (.iaload, 1) := by decide +kernel
theorem dX0_giveBack_66 : decode cX0_giveBack 66 = .ok (.lload 4, 2) := by decide +kernel
theorem dX0_giveBack_68 : decode cX0_giveBack 68 = .ok (.l2i, 1) := by decide +kernel
theorem dX0_giveBack_69 : decode cX0_giveBack 69 = .ok (.iadd, 1) := by decide +kernel
theorem dX0_giveBack_70 : decode cX0_giveBack 70 = .ok (.iastore, 1) := by decide +kernel
theorem dX0_giveBack_71 : decode cX0_giveBack 71 = .ok (.return_, 1) := by decide +kernel
theorem dX1_init_0 : decode cX1_init 0 = .ok (.aload_n 0, 1) := by decide +kernel
theorem dX1_init_1 : decode cX1_init 1 = .ok (.invokespecial 3, 3) := by decide +kernel
theorem dX1_init_4 : decode cX1_init 4 = .ok (.aload_n 0, 1) := by decide +kernel
theorem dX1_init_5 : decode cX1_init 5 = .ok (.aload_n 2, 1) := by decide +kernel
theorem dX1_init_6 : decode cX1_init 6 = .ok (.putfield 9, 3) := by decide +kernel
theorem dX1_init_9 : decode cX1_init 9 = .ok (.aload_n 0, 1) := by decide +kernel
theorem dX1_init_10 : decode cX1_init 10 = .ok (.new 15, 3) := by decide +kernel
theorem dX1_init_13 : decode cX1_init 13 = .ok (.dup, 1) := by decide +kernel
end
section
theorem dX1_init_14 : decode cX1_init 14 = .ok (.iload_n 1, 1) := by decide +kernel
theorem dX1_init_15 : decode cX1_init 15 = .ok (.invokespecial 17, 3) := by decide +kernel
theorem dX1_init_18 : decode cX1_init 18 = .ok (.putfield 20, 3) := by decide +kernel
theorem dX1_init_21 : decode cX1_init 21 = .ok (.aload_n 0, 1) := by decide +kernel
theorem dX1_init_22 : decode cX1_init 22 = .ok (.new 15, 3) := by decide +kernel
theorem dX1_init_25 : decode cX1_init 25 = .ok (.dup, 1) := by decide +kernel
theorem dX1_init_26 : decode cX1_init 26 = .ok (.iload_n 1, 1) := by decide +kernel
theorem dX1_init_27 : decode cX1_init 27 = .ok (.invokespecial 17, 3) := by decide +kernel
theorem dX1_init_30 : decode cX1_init 30 = .ok (.putfield 24, 3) := by decide +kernel
theorem dX1_init_33 : decode cX1_init 33 = .ok (.aload_n 0, 1) := by decide +kernel
theorem dX1_init_34 : decode cX1_init 34 = .ok (.new 15, 3) := by decide +kernel
theorem dX1_init_37 : decode cX1_init 37 = .ok (.dup, 1) := by decide +kernel
theorem dX1_init_38 : decode cX1_init 38 = .ok (.iload_n 1, 1) := by decide +kernel
theorem dX1_init_39 : decode cX1_init 39 = .ok (.invokespecial 17, 3) := by decide +kernel
theorem dX1_init_42 : decode cX1_init 42 = .ok (.putfield 27, 3) := by decide +kernel
theorem dX1_init_45 : decode cX1_init 45 = .ok (.aload_n 0, 1) := by decide +kernel
theorem dX1_init_46 : decode cX1_init 46 = .ok (.new 15, 3) := by decide +kernel
theorem dX1_init_49 : decode cX1_init 49 = .ok (.dup, 1) := by decide +kernel
theorem dX1_init_50 : decode cX1_init 50 = .ok (.iload_n 1, 1) := by decide +kernel
theorem dX1_init_51 : decode cX1_init 51 = .ok (.invokespecial 17, 3) := by decide +kernel
theorem dX1_init_54 : decode cX1_init 54 = .ok (.putfield 30, 3) := by decide +kernel
theorem dX1_init_57 : decode cX1_init 57 = .ok (.return_, 1) := by decide +kernel
theorem dX1_byHalves_0 : decode cX1_byHalves 0 = .ok (.aload_n 0, 1) := by decide +kernel
theorem dX1_byHalves_1 : decode cX1_byHalves 1 = .ok (.aload_n 1, 1) := by decide +kernel
theorem dX1_byHalves_2 : decode cX1_byHalves 2 = .ok (.aload_n 2, 1) := by decide +kernel
theorem dX1_byHalves_3 : decode cX1_byHalves 3 = .ok (.invokevirtual 33, 3) := by decide +kernel
theorem dX1_byHalves_6 : decode cX1_byHalves 6 = .ok (.aload_n 0, 1) := by decide +kernel
theorem dX1_byHalves_7 : decode cX1_byHalves 7 = .ok (.getfield 27, 3) := by decide +kernel
theorem dX1_byHalves_10 : decode cX1_byHalves 10 = .ok (.getfield 37, 3) := by decide +kernel
theorem dX1_byHalves_13 : decode cX1_byHalves 13 = .ok (.ifCond .ne 8, 3) := by decide +kernel
theorem dX1_byHalves_16 : decode cX1_byHalves 16 = .ok (.aload_n 0, 1) := by decide +kernel
theorem dX1_byHalves_17 : decode cX1_byHalves 17 = .ok (.getfield 24, 3) := by decide +kernel
theorem dX1_byHalves_20 : decode cX1_byHalves 20 = .ok (.areturn, 1) := by decide +kernel
theorem dX1_byHalves_21 : decode cX1_byHalves 21 = .ok (.aload_n 0, 1) := by decide +kernel
theorem dX1_byHalves_22 : decode cX1_byHalves 22 = .ok (.getfield 24, 3) := by decide +kernel
theorem dX1_byHalves_25 : decode cX1_byHalves 25 = .ok (.getfield 37, 3) := by decide +kernel
theorem dX1_byHalves_28 : decode cX1_byHalves 28 = .ok (.ifCond .ne 8, 3) := by decide +kernel
theorem dX1_byHalves_31 : decode cX1_byHalves 31 = .ok (.aload_n 0, 1) := by decide +kernel
theorem dX1_byHalves_32 : decode cX1_byHalves 32 = .ok (.getfield 27, 3) := by decide +kernel
theorem dX1_byHalves_35 : decode cX1_byHalves 35 = .ok (.areturn, 1) := by decide +kernel
theorem dX1_byHalves_36 : decode cX1_byHalves 36 = .ok (.aload_n 0, 1) := by decide +kernel
theorem dX1_byHalves_37 : decode cX1_byHalves 37 = .ok (.getfield 24, 3) := by decide +kernel
theorem dX1_byHalves_40 : decode cX1_byHalves 40 = .ok (.invokevirtual 41, 3) := by decide +kernel
theorem dX1_byHalves_43 : decode cX1_byHalves 43 = .ok (.aload_n 0, 1) := by decide +kernel
theorem dX1_byHalves_44 : decode cX1_byHalves 44 = .ok (.getfield 27, 3) := by decide +kernel
theorem dX1_byHalves_47 : decode cX1_byHalves 47 = .ok (.invokevirtual 41, 3) := by decide +kernel
theorem dX1_byHalves_50 : decode cX1_byHalves 50 = .ok (.invokestatic 45, 3) := by decide +kernel
theorem dX1_byHalves_53 : decode cX1_byHalves 53 = .ok (.istore_n 3, 1) := by decide +kernel
theorem dX1_byHalves_54 : decode cX1_byHalves 54 = .ok (.aload_n 0, 1) := by decide +kernel
theorem dX1_byHalves_55 : decode cX1_byHalves 55 = .ok (.getfield 24, 3) := by decide +kernel
theorem dX1_byHalves_58 : decode cX1_byHalves 58 = .ok (.aload_n 0, 1) := by decide +kernel
theorem dX1_byHalves_59 : decode cX1_byHalves 59 = .ok (.getfield 24, 3) := by decide +kernel
theorem dX1_byHalves_62 : decode cX1_byHalves 62 = .ok (.aload_n 0, 1) := by decide +kernel
theorem dX1_byHalves_63 : decode cX1_byHalves 63 = .ok (.getfield 24, 3) := by decide +kernel
theorem dX1_byHalves_66 : decode cX1_byHalves 66 = .ok (.invokevirtual 41, 3) := by decide +kernel
theorem dX1_byHalves_69 : decode cX1_byHalves 69 = .ok (.invokestatic 51, 3) := by decide +kernel
theorem dX1_byHalves_72 : decode cX1_byHalves 72 = .ok (.aload_n 0, 1) := by decide +kernel
theorem dX1_byHalves_73 : decode cX1_byHalves 73 = .ok (.getfield 27, 3) := by decide +kernel
theorem dX1_byHalves_76 : decode cX1_byHalves 76 = .ok (.aload_n 0, 1) := by decide +kernel
theorem dX1_byHalves_77 : decode cX1_byHalves 77 = .ok (.getfield 27, 3) := by decide +kernel
theorem dX1_byHalves_80 : decode cX1_byHalves 80 = .ok (.aload_n 0, 1) := by decide +kernel
theorem dX1_byHalves_81 : decode cX1_byHalves 81 = .ok (.getfield 27, 3) := by decide +kernel
theorem dX1_byHalves_84 : decode cX1_byHalves 84 = .ok (.invokevirtual 41, 3) := by decide +kernel
theorem dX1_byHalves_87 : decode cX1_byHalves 87 = .ok (.invokestatic 51, 3) := by decide +kernel
theorem dX1_byHalves_90 : decode cX1_byHalves 90 = .ok (.iconst 0, 1) := by decide +kernel
theorem dX1_byHalves_91 : decode cX1_byHalves 91 = .ok (.istore 4, 2) := by decide +kernel
theorem dX1_byHalves_93 : decode cX1_byHalves 93 = .ok (.iload 4, 2) := by decide +kernel
theorem dX1_byHalves_95 : decode cX1_byHalves 95 = .ok (.ldc 57, 2) := by decide +kernel
theorem dX1_byHalves_97 : decode cX1_byHalves 97 = .ok (.if_icmp .ge 88, 3) := by decide +kernel
theorem dX1_byHalves_100 : decode cX1_byHalves 100 = .ok (.aload_n 0, 1) := by decide +kernel
theorem dX1_byHalves_101 : decode cX1_byHalves 101 = .ok (.getfield 24, 3) := by decide +kernel
theorem dX1_byHalves_104 : decode cX1_byHalves 104 = .ok (.aload_n 0, 1) := by decide +kernel
theorem dX1_byHalves_105 : decode cX1_byHalves 105 = .ok (.getfield 27, 3) := by decide +kernel
theorem dX1_byHalves_108 : decode cX1_byHalves 108 = .ok (.invokestatic 58, 3) := by decide +kernel
theorem dX1_byHalves_111 : decode cX1_byHalves 111 = .ok (.istore 5, 2) := by decide +kernel
theorem dX1_byHalves_113 : decode cX1_byHalves 113 = .ok (.iload 5, 2) := by decide +kernel
theorem dX1_byHalves_115 : decode cX1_byHalves 115 = .ok (.ifCond .ne 6, 3) := by decide +kernel
theorem dX1_byHalves_118 : decode cX1_byHalves 118 = .ok (.goto 67, 3) := by decide +kernel
theorem dX1_byHalves_121 : decode cX1_byHalves 121 = .ok (.iload 5, 2) := by decide +kernel
theorem dX1_byHalves_123 : decode cX1_byHalves 123 = .ok (.ifCond .ge 23, 3) := by decide +kernel
theorem dX1_byHalves_126 : decode cX1_byHalves 126 = .ok (.aload_n 0, 1) := by decide +kernel
theorem dX1_byHalves_127 : decode cX1_byHalves 127 = .ok (.getfield 24, 3) := by decide +kernel
theorem dX1_byHalves_130 : decode cX1_byHalves 130 = .ok (.astore 6, 2) := by decide +kernel
theorem dX1_byHalves_132 : decode cX1_byHalves 132 = .ok (.aload_n 0, 1) := by decide +kernel
theorem dX1_byHalves_133 : decode cX1_byHalves 133 = .ok (.aload_n 0, 1) := by decide +kernel
theorem dX1_byHalves_134 : decode cX1_byHalves 134 = .ok (.getfield 27, 3) := by decide +kernel
theorem dX1_byHalves_137 : decode cX1_byHalves 137 = .ok (.putfield 24, 3) := by decide +kernel
theorem dX1_byHalves_140 : decode cX1_byHalves 140 = .ok (.aload_n 0, 1) := by decide +kernel
theorem dX1_byHalves_141 : decode cX1_byHalves 141 = .ok (.aload 6, 2) := by decide +kernel
theorem dX1_byHalves_143 : decode cX1_byHalves 143 = .ok (.putfield 27, 3) := by decide +kernel
theorem dX1_byHalves_146 : decode cX1_byHalves 146 = .ok (.aload_n 0, 1) := by decide +kernel
theorem dX1_byHalves_147 : decode cX1_byHalves 147 = .ok (.getfield 24, 3) := by decide +kernel
theorem dX1_byHalves_150 : decode cX1_byHalves 150 = .ok (.aload_n 0, 1) := by decide +kernel
theorem dX1_byHalves_151 : decode cX1_byHalves 151 = .ok (.getfield 24, 3) := by decide +kernel
theorem dX1_byHalves_154 : decode cX1_byHalves 154 = .ok (.aload_n 0, 1) := by decide +kernel
theorem dX1_byHalves_155 : decode cX1_byHalves 155 = .ok (.getfield 27, 3) := by decide +kernel
theorem dX1_byHalves_158 : decode cX1_byHalves 158 = .ok (.invokestatic 62, 3) := by decide +kernel
theorem dX1_byHalves_161 : decode cX1_byHalves 161 = .ok (.aload_n 0, 1) := by decide +kernel
theorem dX1_byHalves_162 : decode cX1_byHalves 162 = .ok (.getfield 24, 3) := by decide +kernel
theorem dX1_byHalves_165 : decode cX1_byHalves 165 = .ok (.aload_n 0, 1) := by decide +kernel
theorem dX1_byHalves_166 : decode cX1_byHalves 166 = .ok (.getfield 24, 3) := by decide +kernel
theorem dX1_byHalves_169 : decode cX1_byHalves 169 = .ok (.aload_n 0, 1) := by decide +kernel
theorem dX1_byHalves_170 : decode cX1_byHalves 170 = .ok (.getfield 24, 3) := by decide +kernel
theorem dX1_byHalves_173 : decode cX1_byHalves 173 = .ok (.invokevirtual 41, 3) := by decide +kernel
theorem dX1_byHalves_176 : decode cX1_byHalves 176 = .ok (.invokestatic 51, 3) := by decide +kernel
theorem dX1_byHalves_179 : decode cX1_byHalves 179 = .ok (.iinc 4 1, 3) := by decide +kernel
theorem dX1_byHalves_182 : decode cX1_byHalves 182 = .ok (.goto (-89), 3) := by decide +kernel
theorem dX1_byHalves_185 : decode cX1_byHalves 185 = .ok (.aload_n 0, 1) := by decide +kernel
theorem dX1_byHalves_186 : decode cX1_byHalves 186 = .ok (.getfield 24, 3) := by decide +kernel
theorem dX1_byHalves_189 : decode cX1_byHalves 189 = .ok (.aload_n 0, 1) := by decide +kernel
theorem dX1_byHalves_190 : decode cX1_byHalves 190 = .ok (.getfield 24, 3) := by decide +kernel
theorem dX1_byHalves_193 : decode cX1_byHalves 193 = .ok (.iload_n 3, 1) := by decide +kernel
theorem dX1_byHalves_194 : decode cX1_byHalves 194 = .ok (.invokestatic 66, 3) := by decide +kernel
theorem dX1_byHalves_197 : decode cX1_byHalves 197 = .ok (.aload_n 0, 1) := by decide +kernel
theorem dX1_byHalves_198 : decode cX1_byHalves 198 = .ok (.getfield 24, 3) := by decide +kernel
theorem dX1_byHalves_201 : decode cX1_byHalves 201 = .ok (.areturn, 1) := by decide +kernel
theorem dX1_byQuotients_0 : decode cX1_byQuotients 0 = .ok (.aload_n 0, 1) := by decide +kernel
theorem dX1_byQuotients_1 : decode cX1_byQuotients 1 = .ok (.aload_n 1, 1) := by decide +kernel
theorem dX1_byQuotients_2 : decode cX1_byQuotients 2 = .ok (.aload_n 2, 1) := by decide +kernel
theorem dX1_byQuotients_3 : decode cX1_byQuotients 3 = .ok (.invokevirtual 33, 3) := by decide +kernel
theorem dX1_byQuotients_6 : decode cX1_byQuotients 6 = .ok (.iconst 0, 1) := by decide +kernel
theorem dX1_byQuotients_7 : decode cX1_byQuotients 7 = .ok (.istore_n 3, 1) := by decide +kernel
theorem dX1_byQuotients_8 : decode cX1_byQuotients 8 = .ok (.iload_n 3, 1) := by decide +kernel
theorem dX1_byQuotients_9 : decode cX1_byQuotients 9 = .ok (.ldc 57, 2) := by decide +kernel
theorem dX1_byQuotients_11 : decode cX1_byQuotients 11 = .ok (.if_icmp .ge 70, 3) := by decide +kernel
theorem dX1_byQuotients_14 : decode cX1_byQuotients 14 = .ok (.aload_n 0, 1) := by decide +kernel
theorem dX1_byQuotients_15 : decode cX1_byQuotients 15 = .ok (.getfield 27, 3) := by decide +kernel
theorem dX1_byQuotients_18 : decode cX1_byQuotients 18 = .ok (.getfield 37, 3) := by decide +kernel
theorem dX1_byQuotients_21 : decode cX1_byQuotients 21 = .ok (.ifCond .le 60, 3) := by decide +kernel
theorem dX1_byQuotients_24 : decode cX1_byQuotients 24 = .ok (.aload_n 0, 1) := by decide +kernel
theorem dX1_byQuotients_25 : decode cX1_byQuotients 25 = .ok (.getfield 9, 3) := by decide +kernel
theorem dX1_byQuotients_28 : decode cX1_byQuotients 28 = .ok (.aload_n 0, 1) := by decide +kernel
theorem dX1_byQuotients_29 : decode cX1_byQuotients 29 = .ok (.getfield 20, 3) := by decide +kernel
theorem dX1_byQuotients_32 : decode cX1_byQuotients 32 = .ok (.aload_n 0, 1) := by decide +kernel
theorem dX1_byQuotients_33 : decode cX1_byQuotients 33 = .ok (.getfield 30, 3) := by decide +kernel
theorem dX1_byQuotients_36 : decode cX1_byQuotients 36 = .ok (.aload_n 0, 1) := by decide +kernel
theorem dX1_byQuotients_37 : decode cX1_byQuotients 37 = .ok (.getfield 24, 3) := by decide +kernel
theorem dX1_byQuotients_40 : decode cX1_byQuotients 40 = .ok (.aload_n 0, 1) := by decide +kernel
theorem dX1_byQuotients_41 : decode cX1_byQuotients 41 = .ok (.getfield 27, 3) := by decide +kernel
theorem dX1_byQuotients_44 : decode cX1_byQuotients 44 = .ok (.invokevirtual 69, 3) := by decide +kernel
theorem dX1_byQuotients_47 : decode cX1_byQuotients 47 = .ok (.aload_n 0, 1) := by decide +kernel
theorem dX1_byQuotients_48 : decode cX1_byQuotients 48 = .ok (.getfield 24, 3) := by decide +kernel
theorem dX1_byQuotients_51 : decode cX1_byQuotients 51 = .ok (.astore 4, 2) := by decide +kernel
theorem dX1_byQuotients_53 : decode cX1_byQuotients 53 = .ok (.aload_n 0, 1) := by decide +kernel
theorem dX1_byQuotients_54 : decode cX1_byQuotients 54 = .ok (.aload_n 0, 1) := by decide +kernel
theorem dX1_byQuotients_55 : decode cX1_byQuotients 55 = .ok (.getfield 27, 3) := by decide +kernel
theorem dX1_byQuotients_58 : decode cX1_byQuotients 58 = .ok (.putfield 24, 3) := by decide +kernel
theorem dX1_byQuotients_61 : decode cX1_byQuotients 61 = .ok (.aload_n 0, 1) := by decide +kernel
theorem dX1_byQuotients_62 : decode cX1_byQuotients 62 = .ok (.aload_n 0, 1) := by decide +kernel
theorem dX1_byQuotients_63 : decode cX1_byQuotients 63 = .ok (.getfield 30, 3) := by decide +kernel
theorem dX1_byQuotients_66 : decode cX1_byQuotients 66 = .ok (.putfield 27, 3) := by decide +kernel
theorem dX1_byQuotients_69 : decode cX1_byQuotients 69 = .ok (.aload_n 0, 1) := by decide +kernel
theorem dX1_byQuotients_70 : decode cX1_byQuotients 70 = .ok (.aload 4, 2) := by decide +kernel
theorem dX1_byQuotients_72 : decode cX1_byQuotients 72 = .ok (.putfield 30, 3) := by decide +kernel
theorem dX1_byQuotients_75 : decode cX1_byQuotients 75 = .ok (.iinc 3 1, 3) := by decide +kernel
theorem dX1_byQuotients_78 : decode cX1_byQuotients 78 = .ok (.goto (-70), 3) := by decide +kernel
theorem dX1_byQuotients_81 : decode cX1_byQuotients 81 = .ok (.aload_n 0, 1) := by decide +kernel
theorem dX1_byQuotients_82 : decode cX1_byQuotients 82 = .ok (.getfield 24, 3) := by decide +kernel
theorem dX1_byQuotients_85 : decode cX1_byQuotients 85 = .ok (.areturn, 1) := by decide +kernel
theorem dX1_begin_0 : decode cX1_begin 0 = .ok (.aload_n 0, 1) := by decide +kernel
theorem dX1_begin_1 : decode cX1_begin 1 = .ok (.getfield 24, 3) := by decide +kernel
theorem dX1_begin_4 : decode cX1_begin 4 = .ok (.aload_n 1, 1) := by decide +kernel
theorem dX1_begin_5 : decode cX1_begin 5 = .ok (.invokevirtual 75, 3) := by decide +kernel
theorem dX1_begin_8 : decode cX1_begin 8 = .ok (.aload_n 0, 1) := by decide +kernel
theorem dX1_begin_9 : decode cX1_begin 9 = .ok (.getfield 24, 3) := by decide +kernel
theorem dX1_begin_12 : decode cX1_begin 12 = .ok (.iconst 0, 1) := by decide +kernel
theorem dX1_begin_13 : decode cX1_begin 13 = .ok (.putfield 79, 3) := by decide +kernel
theorem dX1_begin_16 : decode cX1_begin 16 = .ok (.aload_n 0, 1) := by decide +kernel
theorem dX1_begin_17 : decode cX1_begin 17 = .ok (.getfield 27, 3) := by decide +kernel
theorem dX1_begin_20 : decode cX1_begin 20 = .ok (.aload_n 2, 1) := by decide +kernel
theorem dX1_begin_21 : decode cX1_begin 21 = .ok (.invokevirtual 75, 3) := by decide +kernel
theorem dX1_begin_24 : decode cX1_begin 24 = .ok (.aload_n 0, 1) := by decide +kernel
theorem dX1_begin_25 : decode cX1_begin 25 = .ok (.getfield 27, 3) := by decide +kernel
theorem dX1_begin_28 : decode cX1_begin 28 = .ok (.iconst 0, 1) := by decide +kernel
theorem dX1_begin_29 : decode cX1_begin 29 = .ok (.putfield 79, 3) := by decide +kernel
theorem dX1_begin_32 : decode cX1_begin 32 = .ok (.return_, 1) := by decide +kernel
theorem dX2_init_0 : decode cX2_init 0 = .ok (.aload_n 0, 1) := by decide +kernel
theorem dX2_init_1 : decode cX2_init 1 = .ok (.invokespecial 3, 3) := by decide +kernel
theorem dX2_init_4 : decode cX2_init 4 = .ok (.aload_n 0, 1) := by decide +kernel
theorem dX2_init_5 : decode cX2_init 5 = .ok (.aload_n 2, 1) := by decide +kernel
theorem dX2_init_6 : decode cX2_init 6 = .ok (.putfield 9, 3) := by decide +kernel
theorem dX2_init_9 : decode cX2_init 9 = .ok (.aload_n 0, 1) := by decide +kernel
theorem dX2_init_10 : decode cX2_init 10 = .ok (.new 15, 3) := by decide +kernel
theorem dX2_init_13 : decode cX2_init 13 = .ok (.dup, 1) := by decide +kernel
theorem dX2_init_14 : decode cX2_init 14 = .ok (.iload_n 1, 1) := by decide +kernel
theorem dX2_init_15 : decode cX2_init 15 = .ok (.invokespecial 17, 3) := by decide +kernel
theorem dX2_init_18 : decode cX2_init 18 = .ok (.putfield 20, 3) := by decide +kernel
theorem dX2_init_21 : decode cX2_init 21 = .ok (.aload_n 0, 1) := by decide +kernel
theorem dX2_init_22 : decode cX2_init 22 = .ok (.new 15, 3) := by decide +kernel
theorem dX2_init_25 : decode cX2_init 25 = .ok (.dup, 1) := by decide +kernel
theorem dX2_init_26 : decode cX2_init 26 = .ok (.iload_n 1, 1) := by decide +kernel
theorem dX2_init_27 : decode cX2_init 27 = .ok (.invokespecial 17, 3) := by decide +kernel
theorem dX2_init_30 : decode cX2_init 30 = .ok (.putfield 24, 3) := by decide +kernel
theorem dX2_init_33 : decode cX2_init 33 = .ok (.aload_n 0, 1) := by decide +kernel
theorem dX2_init_34 : decode cX2_init 34 = .ok (.new 15, 3) := by decide +kernel
theorem dX2_init_37 : decode cX2_init 37 = .ok (.dup, 1) := by decide +kernel
theorem dX2_init_38 : decode cX2_init 38 = .ok (.iload_n 1, 1) := by decide +kernel
theorem dX2_init_39 : decode cX2_init 39 = .ok (.invokespecial 17, 3) := by decide +kernel
theorem dX2_init_42 : decode cX2_init 42 = .ok (.putfield 27, 3) := by decide +kernel
theorem dX2_init_45 : decode cX2_init 45 = .ok (.aload_n 0, 1) := by decide +kernel
theorem dX2_init_46 : decode cX2_init 46 = .ok (.new 15, 3) := by decide +kernel
theorem dX2_init_49 : decode cX2_init 49 = .ok (.dup, 1) := by decide +kernel
theorem dX2_init_50 : decode cX2_init 50 = .ok (.iload_n 1, 1) := by decide +kernel
theorem dX2_init_51 : decode cX2_init 51 = .ok (.invokespecial 17, 3) := by decide +kernel
theorem dX2_init_54 : decode cX2_init 54 = .ok (.putfield 30, 3) := by decide +kernel
theorem dX2_init_57 : decode cX2_init 57 = .ok (.aload_n 0, 1) := by decide +kernel
theorem dX2_init_58 : decode cX2_init 58 = .ok (.new 15, 3) := by decide +kernel
theorem dX2_init_61 : decode cX2_init 61 = .ok (.dup, 1) := by decide +kernel
theorem dX2_init_62 : decode cX2_init 62 = .ok (.iload_n 1, 1) := by decide +kernel
theorem dX2_init_63 : decode cX2_init 63 = .ok (.invokespecial 17, 3) := by decide +kernel
theorem dX2_init_66 : decode cX2_init 66 = .ok (.putfield 33, 3) := by decide +kernel
theorem dX2_init_69 : decode cX2_init 69 = .ok (.aload_n 0, 1) := by decide +kernel
theorem dX2_init_70 : decode cX2_init 70 = .ok (.new 15, 3) := by decide +kernel
theorem dX2_init_73 : decode cX2_init 73 = .ok (.dup, 1) := by decide +kernel
theorem dX2_init_74 : decode cX2_init 74 = .ok (.iload_n 1, 1) := by decide +kernel
theorem dX2_init_75 : decode cX2_init 75 = .ok (.invokespecial 17, 3) := by decide +kernel
theorem dX2_init_78 : decode cX2_init 78 = .ok (.putfield 36, 3) := by decide +kernel
theorem dX2_init_81 : decode cX2_init 81 = .ok (.aload_n 0, 1) := by decide +kernel
theorem dX2_init_82 : decode cX2_init 82 = .ok (.new 15, 3) := by decide +kernel
theorem dX2_init_85 : decode cX2_init 85 = .ok (.dup, 1) := by decide +kernel
theorem dX2_init_86 : decode cX2_init 86 = .ok (.iload_n 1, 1) := by decide +kernel
theorem dX2_init_87 : decode cX2_init 87 = .ok (.invokespecial 17, 3) := by decide +kernel
theorem dX2_init_90 : decode cX2_init 90 = .ok (.putfield 39, 3) := by decide +kernel
theorem dX2_init_93 : decode cX2_init 93 = .ok (.aload_n 0, 1) := by decide +kernel
theorem dX2_init_94 : decode cX2_init 94 = .ok (.new 15, 3) := by decide +kernel
theorem dX2_init_97 : decode cX2_init 97 = .ok (.dup, 1) := by decide +kernel
theorem dX2_init_98 : decode cX2_init 98 = .ok (.iload_n 1, 1) := by decide +kernel
theorem dX2_init_99 : decode cX2_init 99 = .ok (.invokespecial 17, 3) := by decide +kernel
theorem dX2_init_102 : decode cX2_init 102 = .ok (.putfield 42, 3) := by decide +kernel
theorem dX2_init_105 : decode cX2_init 105 = .ok (.aload_n 0, 1) := by decide +kernel
theorem dX2_init_106 : decode cX2_init 106 = .ok (.new 15, 3) := by decide +kernel
theorem dX2_init_109 : decode cX2_init 109 = .ok (.dup, 1) := by decide +kernel
theorem dX2_init_110 : decode cX2_init 110 = .ok (.iload_n 1, 1) := by decide +kernel
theorem dX2_init_111 : decode cX2_init 111 = .ok (.invokespecial 17, 3) := by decide +kernel
theorem dX2_init_114 : decode cX2_init 114 = .ok (.putfield 45, 3) := by decide +kernel
theorem dX2_init_117 : decode cX2_init 117 = .ok (.return_, 1) := by decide +kernel
theorem dX2_find_0 : decode cX2_find 0 = .ok (.aload_n 0, 1) := by decide +kernel
theorem dX2_find_1 : decode cX2_find 1 = .ok (.getfield 27, 3) := by decide +kernel
theorem dX2_find_4 : decode cX2_find 4 = .ok (.aload_n 1, 1) := by decide +kernel
theorem dX2_find_5 : decode cX2_find 5 = .ok (.invokevirtual 48, 3) := by decide +kernel
theorem dX2_find_8 : decode cX2_find 8 = .ok (.aload_n 0, 1) := by decide +kernel
theorem dX2_find_9 : decode cX2_find 9 = .ok (.getfield 27, 3) := by decide +kernel
theorem dX2_find_12 : decode cX2_find 12 = .ok (.iconst 0, 1) := by decide +kernel
theorem dX2_find_13 : decode cX2_find 13 = .ok (.putfield 52, 3) := by decide +kernel
theorem dX2_find_16 : decode cX2_find 16 = .ok (.aload_n 0, 1) := by decide +kernel
theorem dX2_find_17 : decode cX2_find 17 = .ok (.getfield 30, 3) := by decide +kernel
theorem dX2_find_20 : decode cX2_find 20 = .ok (.aload_n 2, 1) := by decide +kernel
theorem dX2_find_21 : decode cX2_find 21 = .ok (.invokevirtual 48, 3) := by decide +kernel
theorem dX2_find_24 : decode cX2_find 24 = .ok (.aload_n 0, 1) := by decide +kernel
theorem dX2_find_25 : decode cX2_find 25 = .ok (.getfield 30, 3) := by decide +kernel
theorem dX2_find_28 : decode cX2_find 28 = .ok (.iconst 0, 1) := by decide +kernel
theorem dX2_find_29 : decode cX2_find 29 = .ok (.putfield 52, 3) := by decide +kernel
theorem dX2_find_32 : decode cX2_find 32 = .ok (.aload_n 0, 1) := by decide +kernel
theorem dX2_find_33 : decode cX2_find 33 = .ok (.getfield 36, 3) := by decide +kernel
theorem dX2_find_36 : decode cX2_find 36 = .ok (.iconst 1, 1) := by decide +kernel
theorem dX2_find_37 : decode cX2_find 37 = .ok (.invokevirtual 56, 3) := by decide +kernel
theorem dX2_find_40 : decode cX2_find 40 = .ok (.aload_n 0, 1) := by decide +kernel
theorem dX2_find_41 : decode cX2_find 41 = .ok (.getfield 42, 3) := by decide +kernel
theorem dX2_find_44 : decode cX2_find 44 = .ok (.iconst 0, 1) := by decide +kernel
theorem dX2_find_45 : decode cX2_find 45 = .ok (.invokevirtual 56, 3) := by decide +kernel
theorem dX2_find_48 : decode cX2_find 48 = .ok (.aload_n 0, 1) := by decide +kernel
theorem dX2_find_49 : decode cX2_find 49 = .ok (.getfield 39, 3) := by decide +kernel
theorem dX2_find_52 : decode cX2_find 52 = .ok (.iconst 0, 1) := by decide +kernel
theorem dX2_find_53 : decode cX2_find 53 = .ok (.invokevirtual 56, 3) := by decide +kernel
theorem dX2_find_56 : decode cX2_find 56 = .ok (.aload_n 0, 1) := by decide +kernel
theorem dX2_find_57 : decode cX2_find 57 = .ok (.getfield 45, 3) := by decide +kernel
theorem dX2_find_60 : decode cX2_find 60 = .ok (.iconst 1, 1) := by decide +kernel
theorem dX2_find_61 : decode cX2_find 61 = .ok (.invokevirtual 56, 3) := by decide +kernel
theorem dX2_find_64 : decode cX2_find 64 = .ok (.iconst 0, 1) := by decide +kernel
theorem dX2_find_65 : decode cX2_find 65 = .ok (.istore_n 3, 1) := by decide +kernel
theorem dX2_find_66 : decode cX2_find 66 = .ok (.iconst 0, 1) := by decide +kernel
theorem dX2_find_67 : decode cX2_find 67 = .ok (.istore 4, 2) := by decide +kernel
theorem dX2_find_69 : decode cX2_find 69 = .ok (.iload 4, 2) := by decide +kernel
theorem dX2_find_71 : decode cX2_find 71 = .ok (.ldc 59, 2) := by decide +kernel
theorem dX2_find_73 : decode cX2_find 73 = .ok (.if_icmp .ge 33, 3) := by decide +kernel
theorem dX2_find_76 : decode cX2_find 76 = .ok (.aload_n 0, 1) := by decide +kernel
theorem dX2_find_77 : decode cX2_find 77 = .ok (.getfield 30, 3) := by decide +kernel
theorem dX2_find_80 : decode cX2_find 80 = .ok (.getfield 60, 3) := by decide +kernel
theorem dX2_find_83 : decode cX2_find 83 = .ok (.ifCond .le 23, 3) := by decide +kernel
theorem dX2_find_86 : decode cX2_find 86 = .ok (.aload_n 0, 1) := by decide +kernel
theorem dX2_find_87 : decode cX2_find 87 = .ok (.invokevirtual 64, 3) := by decide +kernel
theorem dX2_find_90 : decode cX2_find 90 = .ok (.iload_n 3, 1) := by decide +kernel
theorem dX2_find_91 : decode cX2_find 91 = .ok (.ifCond .ne 7, 3) := by decide +kernel
theorem dX2_find_94 : decode cX2_find 94 = .ok (.iconst 1, 1) := by decide +kernel
theorem dX2_find_95 : decode cX2_find 95 = .ok (.goto 4, 3) := by decide +kernel
theorem dX2_find_98 : decode cX2_find 98 = .ok (.iconst 0, 1) := by decide +kernel
theorem dX2_find_99 : decode cX2_find 99 = .ok (.istore_n 3, 1) := by decide +kernel
theorem dX2_find_100 : decode cX2_find 100 = .ok (.iinc 4 1, 3) := by decide +kernel
theorem dX2_find_103 : decode cX2_find 103 = .ok (.goto (-34), 3) := by decide +kernel
theorem dX2_find_106 : decode cX2_find 106 = .ok (.aload_n 0, 1) := by decide +kernel
theorem dX2_find_107 : decode cX2_find 107 = .ok (.getfield 36, 3) := by decide +kernel
theorem dX2_find_110 : decode cX2_find 110 = .ok (.iload_n 3, 1) := by decide +kernel
theorem dX2_find_111 : decode cX2_find 111 = .ok (.aload_n 1, 1) := by decide +kernel
theorem dX2_find_112 : decode cX2_find 112 = .ok (.getfield 52, 3) := by decide +kernel
theorem dX2_find_115 : decode cX2_find 115 = .ok (.if_icmp .eq 7, 3) := by decide +kernel
theorem dX2_find_118 : decode cX2_find 118 = .ok (.iconst 1, 1) := by decide +kernel
theorem dX2_find_119 : decode cX2_find 119 = .ok (.goto 4, 3) := by decide +kernel
theorem dX2_find_122 : decode cX2_find 122 = .ok (.iconst 0, 1) := by decide +kernel
theorem dX2_find_123 : decode cX2_find 123 = .ok (.invokevirtual 67, 3) := by decide +kernel
theorem dX2_find_126 : decode cX2_find 126 = .ok (.aload_n 0, 1) := by decide +kernel
theorem dX2_find_127 : decode cX2_find 127 = .ok (.getfield 42, 3) := by decide +kernel
theorem dX2_find_130 : decode cX2_find 130 = .ok (.iload_n 3, 1) := by decide +kernel
theorem dX2_find_131 : decode cX2_find 131 = .ok (.aload_n 2, 1) := by decide +kernel
theorem dX2_find_132 : decode cX2_find 132 = .ok (.getfield 52, 3) := by decide +kernel
theorem dX2_find_135 : decode cX2_find 135 = .ok (.if_icmp .ne 7, 3) := by decide +kernel
theorem dX2_find_138 : decode cX2_find 138 = .ok (.iconst 1, 1) := by decide +kernel
theorem dX2_find_139 : decode cX2_find 139 = .ok (.goto 4, 3) := by decide +kernel
theorem dX2_find_142 : decode cX2_find 142 = .ok (.iconst 0, 1) := by decide +kernel
theorem dX2_find_143 : decode cX2_find 143 = .ok (.invokevirtual 67, 3) := by decide +kernel
theorem dX2_find_146 : decode cX2_find 146 = .ok (.return_, 1) := by decide +kernel
theorem dX2_turnOnce_0 : decode cX2_turnOnce 0 = .ok (.aload_n 0, 1) := by decide +kernel
theorem dX2_turnOnce_1 : decode cX2_turnOnce 1 = .ok (.getfield 9, 3) := by decide +kernel
theorem dX2_turnOnce_4 : decode cX2_turnOnce 4 = .ok (.aload_n 0, 1) := by decide +kernel
theorem dX2_turnOnce_5 : decode cX2_turnOnce 5 = .ok (.getfield 20, 3) := by decide +kernel
theorem dX2_turnOnce_8 : decode cX2_turnOnce 8 = .ok (.aload_n 0, 1) := by decide +kernel
theorem dX2_turnOnce_9 : decode cX2_turnOnce 9 = .ok (.getfield 33, 3) := by decide +kernel
theorem dX2_turnOnce_12 : decode cX2_turnOnce 12 = .ok (.aload_n 0, 1) := by decide +kernel
theorem dX2_turnOnce_13 : decode cX2_turnOnce 13 = .ok (.getfield 27, 3) := by decide +kernel
theorem dX2_turnOnce_16 : decode cX2_turnOnce 16 = .ok (.aload_n 0, 1) := by decide +kernel
theorem dX2_turnOnce_17 : decode cX2_turnOnce 17 = .ok (.getfield 30, 3) := by decide +kernel
theorem dX2_turnOnce_20 : decode cX2_turnOnce 20 = .ok (.invokevirtual 71, 3) := by decide +kernel
theorem dX2_turnOnce_23 : decode cX2_turnOnce 23 = .ok (.aload_n 0, 1) := by decide +kernel
theorem dX2_turnOnce_24 : decode cX2_turnOnce 24 = .ok (.getfield 27, 3) := by decide +kernel
theorem dX2_turnOnce_27 : decode cX2_turnOnce 27 = .ok (.astore_n 1, 1) := by decide +kernel
theorem dX2_turnOnce_28 : decode cX2_turnOnce 28 = .ok (.aload_n 0, 1) := by decide +kernel
theorem dX2_turnOnce_29 : decode cX2_turnOnce 29 = .ok (.aload_n 0, 1) := by decide +kernel
theorem dX2_turnOnce_30 : decode cX2_turnOnce 30 = .ok (.getfield 30, 3) := by decide +kernel
theorem dX2_turnOnce_33 : decode cX2_turnOnce 33 = .ok (.putfield 27, 3) := by decide +kernel
theorem dX2_turnOnce_36 : decode cX2_turnOnce 36 = .ok (.aload_n 0, 1) := by decide +kernel
theorem dX2_turnOnce_37 : decode cX2_turnOnce 37 = .ok (.aload_n 0, 1) := by decide +kernel
theorem dX2_turnOnce_38 : decode cX2_turnOnce 38 = .ok (.getfield 33, 3) := by decide +kernel
theorem dX2_turnOnce_41 : decode cX2_turnOnce 41 = .ok (.putfield 30, 3) := by decide +kernel
theorem dX2_turnOnce_44 : decode cX2_turnOnce 44 = .ok (.aload_n 0, 1) := by decide +kernel
theorem dX2_turnOnce_45 : decode cX2_turnOnce 45 = .ok (.aload_n 1, 1) := by decide +kernel
theorem dX2_turnOnce_46 : decode cX2_turnOnce 46 = .ok (.putfield 33, 3) := by decide +kernel
theorem dX2_turnOnce_49 : decode cX2_turnOnce 49 = .ok (.aload_n 0, 1) := by decide +kernel
theorem dX2_turnOnce_50 : decode cX2_turnOnce 50 = .ok (.aload_n 0, 1) := by decide +kernel
theorem dX2_turnOnce_51 : decode cX2_turnOnce 51 = .ok (.getfield 36, 3) := by decide +kernel
theorem dX2_turnOnce_54 : decode cX2_turnOnce 54 = .ok (.aload_n 0, 1) := by decide +kernel
theorem dX2_turnOnce_55 : decode cX2_turnOnce 55 = .ok (.getfield 39, 3) := by decide +kernel
theorem dX2_turnOnce_58 : decode cX2_turnOnce 58 = .ok (.invokevirtual 77, 3) := by decide +kernel
theorem dX2_turnOnce_61 : decode cX2_turnOnce 61 = .ok (.aload_n 0, 1) := by decide +kernel
theorem dX2_turnOnce_62 : decode cX2_turnOnce 62 = .ok (.getfield 36, 3) := by decide +kernel
theorem dX2_turnOnce_65 : decode cX2_turnOnce 65 = .ok (.astore_n 1, 1) := by decide +kernel
theorem dX2_turnOnce_66 : decode cX2_turnOnce 66 = .ok (.aload_n 0, 1) := by decide +kernel
theorem dX2_turnOnce_67 : decode cX2_turnOnce 67 = .ok (.aload_n 0, 1) := by decide +kernel
theorem dX2_turnOnce_68 : decode cX2_turnOnce 68 = .ok (.getfield 39, 3) := by decide +kernel
theorem dX2_turnOnce_71 : decode cX2_turnOnce 71 = .ok (.putfield 36, 3) := by decide +kernel
theorem dX2_turnOnce_74 : decode cX2_turnOnce 74 = .ok (.aload_n 0, 1) := by decide +kernel
theorem dX2_turnOnce_75 : decode cX2_turnOnce 75 = .ok (.aload_n 1, 1) := by decide +kernel
theorem dX2_turnOnce_76 : decode cX2_turnOnce 76 = .ok (.putfield 39, 3) := by decide +kernel
theorem dX2_turnOnce_79 : decode cX2_turnOnce 79 = .ok (.aload_n 0, 1) := by decide +kernel
theorem dX2_turnOnce_80 : decode cX2_turnOnce 80 = .ok (.aload_n 0, 1) := by decide +kernel
theorem dX2_turnOnce_81 : decode cX2_turnOnce 81 = .ok (.getfield 42, 3) := by decide +kernel
theorem dX2_turnOnce_84 : decode cX2_turnOnce 84 = .ok (.aload_n 0, 1) := by decide +kernel
theorem dX2_turnOnce_85 : decode cX2_turnOnce 85 = .ok (.getfield 45, 3) := by decide +kernel
theorem dX2_turnOnce_88 : decode cX2_turnOnce 88 = .ok (.invokevirtual 77, 3) := by decide +kernel
theorem dX2_turnOnce_91 : decode cX2_turnOnce 91 = .ok (.aload_n 0, 1) := by decide +kernel
theorem dX2_turnOnce_92 : decode cX2_turnOnce 92 = .ok (.getfield 42, 3) := by decide +kernel
theorem dX2_turnOnce_95 : decode cX2_turnOnce 95 = .ok (.astore_n 1, 1) := by decide +kernel
theorem dX2_turnOnce_96 : decode cX2_turnOnce 96 = .ok (.aload_n 0, 1) := by decide +kernel
theorem dX2_turnOnce_97 : decode cX2_turnOnce 97 = .ok (.aload_n 0, 1) := by decide +kernel
theorem dX2_turnOnce_98 : decode cX2_turnOnce 98 = .ok (.getfield 45, 3) := by decide +kernel
theorem dX2_turnOnce_101 : decode cX2_turnOnce 101 = .ok (.putfield 42, 3) := by decide +kernel
theorem dX2_turnOnce_104 : decode cX2_turnOnce 104 = .ok (.aload_n 0, 1) := by decide +kernel
theorem dX2_turnOnce_105 : decode cX2_turnOnce 105 = .ok (.aload_n 1, 1) := by decide +kernel
theorem dX2_turnOnce_106 : decode cX2_turnOnce 106 = .ok (.putfield 45, 3) := by decide +kernel
theorem dX2_turnOnce_109 : decode cX2_turnOnce 109 = .ok (.return_, 1) := by decide +kernel
theorem dX2_addMultiple_0 : decode cX2_addMultiple 0 = .ok (.aload_n 0, 1) := by decide +kernel
theorem dX2_addMultiple_1 : decode cX2_addMultiple 1 = .ok (.getfield 24, 3) := by decide +kernel
theorem dX2_addMultiple_4 : decode cX2_addMultiple 4 = .ok (.aload_n 0, 1) := by decide +kernel
theorem dX2_addMultiple_5 : decode cX2_addMultiple 5 = .ok (.getfield 20, 3) := by decide +kernel
theorem dX2_addMultiple_8 : decode cX2_addMultiple 8 = .ok (.aload_n 2, 1) := by decide +kernel
theorem dX2_addMultiple_9 : decode cX2_addMultiple 9 = .ok (.invokestatic 81, 3) := by decide +kernel
theorem dX2_addMultiple_12 : decode cX2_addMultiple 12 = .ok (.aload_n 1, 1) := by decide +kernel
theorem dX2_addMultiple_13 : decode cX2_addMultiple 13 = .ok (.aload_n 1, 1) := by decide +kernel
theorem dX2_addMultiple_14 : decode cX2_addMultiple 14 = .ok (.aload_n 0, 1) := by decide +kernel
theorem dX2_addMultiple_15 : decode cX2_addMultiple 15 = .ok (.getfield 24, 3) := by decide +kernel
theorem dX2_addMultiple_18 : decode cX2_addMultiple 18 = .ok (.invokestatic 86, 3) := by decide +kernel
theorem dX2_addMultiple_21 : decode cX2_addMultiple 21 = .ok (.return_, 1) := by decide +kernel
theorem dX3_init_0 : decode cX3_init 0 = .ok (.aload_n 0, 1) := by decide +kernel
theorem dX3_init_1 : decode cX3_init 1 = .ok (.invokespecial 3, 3) := by decide +kernel
theorem dX3_init_4 : decode cX3_init 4 = .ok (.aload_n 0, 1) := by decide +kernel
theorem dX3_init_5 : decode cX3_init 5 = .ok (.aload_n 2, 1) := by decide +kernel
theorem dX3_init_6 : decode cX3_init 6 = .ok (.putfield 9, 3) := by decide +kernel
theorem dX3_init_9 : decode cX3_init 9 = .ok (.aload_n 0, 1) := by decide +kernel
theorem dX3_init_10 : decode cX3_init 10 = .ok (.new 15, 3) := by decide +kernel
theorem dX3_init_13 : decode cX3_init 13 = .ok (.dup, 1) := by decide +kernel
theorem dX3_init_14 : decode cX3_init 14 = .ok (.iload_n 1, 1) := by decide +kernel
theorem dX3_init_15 : decode cX3_init 15 = .ok (.invokespecial 17, 3) := by decide +kernel
theorem dX3_init_18 : decode cX3_init 18 = .ok (.putfield 20, 3) := by decide +kernel
theorem dX3_init_21 : decode cX3_init 21 = .ok (.aload_n 0, 1) := by decide +kernel
theorem dX3_init_22 : decode cX3_init 22 = .ok (.new 15, 3) := by decide +kernel
theorem dX3_init_25 : decode cX3_init 25 = .ok (.dup, 1) := by decide +kernel
theorem dX3_init_26 : decode cX3_init 26 = .ok (.iload_n 1, 1) := by decide +kernel
theorem dX3_init_27 : decode cX3_init 27 = .ok (.invokespecial 17, 3) := by decide +kernel
theorem dX3_init_30 : decode cX3_init 30 = .ok (.putfield 24, 3) := by decide +kernel
theorem dX3_init_33 : decode cX3_init 33 = .ok (.aload_n 0, 1) := by decide +kernel
theorem dX3_init_34 : decode cX3_init 34 = .ok (.new 15, 3) := by decide +kernel
theorem dX3_init_37 : decode cX3_init 37 = .ok (.dup, 1) := by decide +kernel
theorem dX3_init_38 : decode cX3_init 38 = .ok (.iload_n 1, 1) := by decide +kernel
theorem dX3_init_39 : decode cX3_init 39 = .ok (.invokespecial 17, 3) := by decide +kernel
theorem dX3_init_42 : decode cX3_init 42 = .ok (.putfield 27, 3) := by decide +kernel
theorem dX3_init_45 : decode cX3_init 45 = .ok (.aload_n 0, 1) := by decide +kernel
theorem dX3_init_46 : decode cX3_init 46 = .ok (.new 15, 3) := by decide +kernel
theorem dX3_init_49 : decode cX3_init 49 = .ok (.dup, 1) := by decide +kernel
theorem dX3_init_50 : decode cX3_init 50 = .ok (.iload_n 1, 1) := by decide +kernel
theorem dX3_init_51 : decode cX3_init 51 = .ok (.invokespecial 17, 3) := by decide +kernel
theorem dX3_init_54 : decode cX3_init 54 = .ok (.putfield 30, 3) := by decide +kernel
theorem dX3_init_57 : decode cX3_init 57 = .ok (.aload_n 0, 1) := by decide +kernel
theorem dX3_init_58 : decode cX3_init 58 = .ok (.new 15, 3) := by decide +kernel
theorem dX3_init_61 : decode cX3_init 61 = .ok (.dup, 1) := by decide +kernel
theorem dX3_init_62 : decode cX3_init 62 = .ok (.iload_n 1, 1) := by decide +kernel
theorem dX3_init_63 : decode cX3_init 63 = .ok (.invokespecial 17, 3) := by decide +kernel
theorem dX3_init_66 : decode cX3_init 66 = .ok (.putfield 33, 3) := by decide +kernel
theorem dX3_init_69 : decode cX3_init 69 = .ok (.return_, 1) := by decide +kernel
theorem dX3_divisor_0 : decode cX3_divisor 0 = .ok (.aload_n 1, 1) := by decide +kernel
theorem dX3_divisor_1 : decode cX3_divisor 1 = .ok (.aload_n 2, 1) := by decide +kernel
theorem dX3_divisor_2 : decode cX3_divisor 2 = .ok (.invokestatic 36, 3) := by decide +kernel
theorem dX3_divisor_5 : decode cX3_divisor 5 = .ok (.ifCond .lt 7, 3) := by decide +kernel
theorem dX3_divisor_8 : decode cX3_divisor 8 = .ok (.iconst 1, 1) := by decide +kernel
theorem dX3_divisor_9 : decode cX3_divisor 9 = .ok (.goto 4, 3) := by decide +kernel
theorem dX3_divisor_12 : decode cX3_divisor 12 = .ok (.iconst 0, 1) := by decide +kernel
theorem dX3_divisor_13 : decode cX3_divisor 13 = .ok (.istore_n 3, 1) := by decide +kernel
theorem dX3_divisor_14 : decode cX3_divisor 14 = .ok (.aload_n 0, 1) := by decide +kernel
theorem dX3_divisor_15 : decode cX3_divisor 15 = .ok (.getfield 24, 3) := by decide +kernel
theorem dX3_divisor_18 : decode cX3_divisor 18 = .ok (.iload_n 3, 1) := by decide +kernel
theorem dX3_divisor_19 : decode cX3_divisor 19 = .ok (.ifCond .eq 7, 3) := by decide +kernel
theorem dX3_divisor_22 : decode cX3_divisor 22 = .ok (.aload_n 1, 1) := by decide +kernel
theorem dX3_divisor_23 : decode cX3_divisor 23 = .ok (.goto 4, 3) := by decide +kernel
theorem dX3_divisor_26 : decode cX3_divisor 26 = .ok (.aload_n 2, 1) := by decide +kernel
theorem dX3_divisor_27 : decode cX3_divisor 27 = .ok (.invokevirtual 42, 3) := by decide +kernel
theorem dX3_divisor_30 : decode cX3_divisor 30 = .ok (.aload_n 0, 1) := by decide +kernel
theorem dX3_divisor_31 : decode cX3_divisor 31 = .ok (.getfield 24, 3) := by decide +kernel
theorem dX3_divisor_34 : decode cX3_divisor 34 = .ok (.iconst 0, 1) := by decide +kernel
theorem dX3_divisor_35 : decode cX3_divisor 35 = .ok (.putfield 46, 3) := by decide +kernel
theorem dX3_divisor_38 : decode cX3_divisor 38 = .ok (.aload_n 0, 1) := by decide +kernel
theorem dX3_divisor_39 : decode cX3_divisor 39 = .ok (.getfield 27, 3) := by decide +kernel
theorem dX3_divisor_42 : decode cX3_divisor 42 = .ok (.iload_n 3, 1) := by decide +kernel
theorem dX3_divisor_43 : decode cX3_divisor 43 = .ok (.ifCond .eq 7, 3) := by decide +kernel
theorem dX3_divisor_46 : decode cX3_divisor 46 = .ok (.aload_n 2, 1) := by decide +kernel
theorem dX3_divisor_47 : decode cX3_divisor 47 = .ok (.goto 4, 3) := by decide +kernel
theorem dX3_divisor_50 : decode cX3_divisor 50 = .ok (.aload_n 1, 1) := by decide +kernel
theorem dX3_divisor_51 : decode cX3_divisor 51 = .ok (.invokevirtual 42, 3) := by decide +kernel
theorem dX3_divisor_54 : decode cX3_divisor 54 = .ok (.aload_n 0, 1) := by decide +kernel
theorem dX3_divisor_55 : decode cX3_divisor 55 = .ok (.getfield 27, 3) := by decide +kernel
theorem dX3_divisor_58 : decode cX3_divisor 58 = .ok (.iconst 0, 1) := by decide +kernel
theorem dX3_divisor_59 : decode cX3_divisor 59 = .ok (.putfield 46, 3) := by decide +kernel
theorem dX3_divisor_62 : decode cX3_divisor 62 = .ok (.aload_n 0, 1) := by decide +kernel
theorem dX3_divisor_63 : decode cX3_divisor 63 = .ok (.iconst 0, 1) := by decide +kernel
theorem dX3_divisor_64 : decode cX3_divisor 64 = .ok (.putfield 50, 3) := by decide +kernel
theorem dX3_divisor_67 : decode cX3_divisor 67 = .ok (.iconst 0, 1) := by decide +kernel
theorem dX3_divisor_68 : decode cX3_divisor 68 = .ok (.istore 4, 2) := by decide +kernel
theorem dX3_divisor_70 : decode cX3_divisor 70 = .ok (.iload 4, 2) := by decide +kernel
theorem dX3_divisor_72 : decode cX3_divisor 72 = .ok (.ldc 54, 2) := by decide +kernel
theorem dX3_divisor_74 : decode cX3_divisor 74 = .ok (.if_icmp .ge 44, 3) := by decide +kernel
theorem dX3_divisor_77 : decode cX3_divisor 77 = .ok (.aload_n 0, 1) := by decide +kernel
theorem dX3_divisor_78 : decode cX3_divisor 78 = .ok (.getfield 27, 3) := by decide +kernel
theorem dX3_divisor_81 : decode cX3_divisor 81 = .ok (.getfield 55, 3) := by decide +kernel
theorem dX3_divisor_84 : decode cX3_divisor 84 = .ok (.iconst 1, 1) := by decide +kernel
theorem dX3_divisor_85 : decode cX3_divisor 85 = .ok (.if_icmp .le 33, 3) := by decide +kernel
theorem dX3_divisor_88 : decode cX3_divisor 88 = .ok (.aload_n 0, 1) := by decide +kernel
theorem dX3_divisor_89 : decode cX3_divisor 89 = .ok (.invokevirtual 58, 3) := by decide +kernel
theorem dX3_divisor_92 : decode cX3_divisor 92 = .ok (.aload_n 0, 1) := by decide +kernel
theorem dX3_divisor_93 : decode cX3_divisor 93 = .ok (.getfield 61, 3) := by decide +kernel
theorem dX3_divisor_96 : decode cX3_divisor 96 = .ok (.lconst 0, 1) := by decide +kernel
theorem dX3_divisor_97 : decode cX3_divisor 97 = .ok (.lcmp, 1) := by decide +kernel
theorem dX3_divisor_98 : decode cX3_divisor 98 = .ok (.ifCond .ne 10, 3) := by decide +kernel
theorem dX3_divisor_101 : decode cX3_divisor 101 = .ok (.aload_n 0, 1) := by decide +kernel
theorem dX3_divisor_102 : decode cX3_divisor 102 = .ok (.invokevirtual 65, 3) := by decide +kernel
theorem dX3_divisor_105 : decode cX3_divisor 105 = .ok (.goto 7, 3) := by decide +kernel
theorem dX3_divisor_108 : decode cX3_divisor 108 = .ok (.aload_n 0, 1) := by decide +kernel
theorem dX3_divisor_109 : decode cX3_divisor 109 = .ok (.invokevirtual 68, 3) := by decide +kernel
theorem dX3_divisor_112 : decode cX3_divisor 112 = .ok (.iinc 4 1, 3) := by decide +kernel
theorem dX3_divisor_115 : decode cX3_divisor 115 = .ok (.goto (-45), 3) := by decide +kernel
theorem dX3_divisor_118 : decode cX3_divisor 118 = .ok (.aload_n 0, 1) := by decide +kernel
theorem dX3_divisor_119 : decode cX3_divisor 119 = .ok (.getfield 27, 3) := by decide +kernel
theorem dX3_divisor_122 : decode cX3_divisor 122 = .ok (.getfield 55, 3) := by decide +kernel
theorem dX3_divisor_125 : decode cX3_divisor 125 = .ok (.ifCond .le 18, 3) := by decide +kernel
theorem dX3_divisor_128 : decode cX3_divisor 128 = .ok (.aload_n 0, 1) := by decide +kernel
theorem dX3_divisor_129 : decode cX3_divisor 129 = .ok (.getfield 24, 3) := by decide +kernel
theorem dX3_divisor_132 : decode cX3_divisor 132 = .ok (.getfield 55, 3) := by decide +kernel
theorem dX3_divisor_135 : decode cX3_divisor 135 = .ok (.iconst 1, 1) := by decide +kernel
theorem dX3_divisor_136 : decode cX3_divisor 136 = .ok (.if_icmp .le 7, 3) := by decide +kernel
theorem dX3_divisor_139 : decode cX3_divisor 139 = .ok (.aload_n 0, 1) := by decide +kernel
theorem dX3_divisor_140 : decode cX3_divisor 140 = .ok (.invokevirtual 65, 3) := by decide +kernel
theorem dX3_divisor_143 : decode cX3_divisor 143 = .ok (.aload_n 0, 1) := by decide +kernel
theorem dX3_divisor_144 : decode cX3_divisor 144 = .ok (.getfield 27, 3) := by decide +kernel
theorem dX3_divisor_147 : decode cX3_divisor 147 = .ok (.getfield 55, 3) := by decide +kernel
theorem dX3_divisor_150 : decode cX3_divisor 150 = .ok (.ifCond .le 29, 3) := by decide +kernel
theorem dX3_divisor_153 : decode cX3_divisor 153 = .ok (.aload_n 0, 1) := by decide +kernel
theorem dX3_divisor_154 : decode cX3_divisor 154 = .ok (.getfield 24, 3) := by decide +kernel
theorem dX3_divisor_157 : decode cX3_divisor 157 = .ok (.aload_n 0, 1) := by decide +kernel
theorem dX3_divisor_158 : decode cX3_divisor 158 = .ok (.getfield 24, 3) := by decide +kernel
theorem dX3_divisor_161 : decode cX3_divisor 161 = .ok (.iconst 0, 1) := by decide +kernel
theorem dX3_divisor_162 : decode cX3_divisor 162 = .ok (.invokevirtual 71, 3) := by decide +kernel
theorem dX3_divisor_165 : decode cX3_divisor 165 = .ok (.aload_n 0, 1) := by decide +kernel
theorem dX3_divisor_166 : decode cX3_divisor 166 = .ok (.getfield 27, 3) := by decide +kernel
theorem dX3_divisor_169 : decode cX3_divisor 169 = .ok (.iconst 0, 1) := by decide +kernel
theorem dX3_divisor_170 : decode cX3_divisor 170 = .ok (.invokevirtual 71, 3) := by decide +kernel
theorem dX3_divisor_173 : decode cX3_divisor 173 = .ok (.invokestatic 75, 3) := by decide +kernel
theorem dX3_divisor_176 : decode cX3_divisor 176 = .ok (.invokevirtual 79, 3) := by decide +kernel
theorem dX3_divisor_179 : decode cX3_divisor 179 = .ok (.aload_n 0, 1) := by decide +kernel
theorem dX3_divisor_180 : decode cX3_divisor 180 = .ok (.getfield 24, 3) := by decide +kernel
theorem dX3_divisor_183 : decode cX3_divisor 183 = .ok (.areturn, 1) := by decide +kernel
theorem dX3_findCofactors_0 : decode cX3_findCofactors 0 = .ok (.aload_n 0, 1) := by decide +kernel
theorem dX3_findCofactors_1 : decode cX3_findCofactors 1 = .ok (.getfield 24, 3) := by decide +kernel
theorem dX3_findCofactors_4 : decode cX3_findCofactors 4 = .ok (.invokevirtual 82, 3) := by decide +kernel
theorem dX3_findCofactors_7 : decode cX3_findCofactors 7 = .ok (.bipush 32, 2) := by decide +kernel
theorem dX3_findCofactors_9 : decode cX3_findCofactors 9 = .ok (.isub, 1) := by decide +kernel
theorem dX3_findCofactors_10 : decode cX3_findCofactors 10 = .ok (.istore_n 1, 1) := by decide +kernel
theorem dX3_findCofactors_11 : decode cX3_findCofactors 11 = .ok (.aload_n 0, 1) := by decide +kernel
theorem dX3_findCofactors_12 : decode cX3_findCofactors 12 = .ok (.getfield 24, 3) := by decide +kernel
theorem dX3_findCofactors_15 : decode cX3_findCofactors 15 = .ok (.iload_n 1, 1) := by decide +kernel
theorem dX3_findCofactors_16 : decode cX3_findCofactors 16 = .ok (.invokevirtual 86, 3) := by decide +kernel
theorem dX3_findCofactors_19 : decode cX3_findCofactors 19 = .ok (.lstore_n 2, 1) := by decide +kernel
theorem dX3_findCofactors_20 : decode cX3_findCofactors 20 = .ok (.aload_n 0, 1) := by decide +kernel
theorem dX3_findCofactors_21 : decode cX3_findCofactors 21 = .ok (.getfield 27, 3) := by decide +kernel
theorem dX3_findCofactors_24 : decode cX3_findCofactors 24 = .ok (.iload_n 1, 1) := by decide +kernel
theorem dX3_findCofactors_25 : decode cX3_findCofactors 25 = .ok (.invokevirtual 86, 3) := by decide +kernel
theorem dX3_findCofactors_28 : decode cX3_findCofactors 28 = .ok (.lstore 4, 2) := by decide +kernel
theorem dX3_findCofactors_30 : decode cX3_findCofactors 30 = .ok (.aload_n 0, 1) := by decide +kernel
theorem dX3_findCofactors_31 : decode cX3_findCofactors 31 = .ok (.lconst 1, 1) := by decide +kernel
theorem dX3_findCofactors_32 : decode cX3_findCofactors 32 = .ok (.putfield 89, 3) := by decide +kernel
theorem dX3_findCofactors_35 : decode cX3_findCofactors 35 = .ok (.aload_n 0, 1) := by decide +kernel
theorem dX3_findCofactors_36 : decode cX3_findCofactors 36 = .ok (.lconst 0, 1) := by decide +kernel
theorem dX3_findCofactors_37 : decode cX3_findCofactors 37 = .ok (.putfield 61, 3) := by decide +kernel
theorem dX3_findCofactors_40 : decode cX3_findCofactors 40 = .ok (.aload_n 0, 1) := by decide +kernel
theorem dX3_findCofactors_41 : decode cX3_findCofactors 41 = .ok (.lconst 0, 1) := by decide +kernel
theorem dX3_findCofactors_42 : decode cX3_findCofactors 42 = .ok (.putfield 92, 3) := by decide +kernel
theorem dX3_findCofactors_45 : decode cX3_findCofactors 45 = .ok (.aload_n 0, 1) := by decide +kernel
theorem dX3_findCofactors_46 : decode cX3_findCofactors 46 = .ok (.lconst 1, 1) := by decide +kernel
theorem dX3_findCofactors_47 : decode cX3_findCofactors 47 = .ok (.putfield 95, 3) := by decide +kernel
theorem dX3_findCofactors_50 : decode cX3_findCofactors 50 = .ok (.iconst 0, 1) := by decide +kernel
theorem dX3_findCofactors_51 : decode cX3_findCofactors 51 = .ok (.istore 6, 2) := by decide +kernel
theorem dX3_findCofactors_53 : decode cX3_findCofactors 53 = .ok (.iload 6, 2) := by decide +kernel
theorem dX3_findCofactors_55 : decode cX3_findCofactors 55 = .ok (.ldc 54, 2) := by decide +kernel
theorem dX3_findCofactors_57 : decode cX3_findCofactors 57 = .ok (.if_icmp .ge 143, 3) := by decide +kernel
theorem dX3_findCofactors_60 : decode cX3_findCofactors 60 = .ok (.lload 4, 2) := by decide +kernel
theorem dX3_findCofactors_62 : decode cX3_findCofactors 62 = .ok (.aload_n 0, 1) := by decide +kernel
theorem dX3_findCofactors_63 : decode cX3_findCofactors 63 = .ok (.getfield 92, 3) := by decide +kernel
theorem dX3_findCofactors_66 : decode cX3_findCofactors 66 = .ok (.ladd, 1) := by decide +kernel
theorem dX3_findCofactors_67 : decode cX3_findCofactors 67 = .ok (.lconst 0, 1) := by decide +kernel
theorem dX3_findCofactors_68 : decode cX3_findCofactors 68 = .ok (.lcmp, 1) := by decide +kernel
theorem dX3_findCofactors_69 : decode cX3_findCofactors 69 = .ok (.ifCond .eq 15, 3) := by decide +kernel
theorem dX3_findCofactors_72 : decode cX3_findCofactors 72 = .ok (.lload 4, 2) := by decide +kernel
theorem dX3_findCofactors_74 : decode cX3_findCofactors 74 = .ok (.aload_n 0, 1) := by decide +kernel
theorem dX3_findCofactors_75 : decode cX3_findCofactors 75 = .ok (.getfield 95, 3) := by decide +kernel
theorem dX3_findCofactors_78 : decode cX3_findCofactors 78 = .ok (.ladd, 1) := by decide +kernel
theorem dX3_findCofactors_79 : decode cX3_findCofactors 79 = .ok (.lconst 0, 1) := by decide +kernel
theorem dX3_findCofactors_80 : decode cX3_findCofactors 80 = .ok (.lcmp, 1) := by decide +kernel
theorem dX3_findCofactors_81 : decode cX3_findCofactors 81 = .ok (.ifCond .ne 4, 3) := by decide +kernel
theorem dX3_findCofactors_84 : decode cX3_findCofactors 84 = .ok (.return_, 1) := by decide +kernel
theorem dX3_findCofactors_85 : decode cX3_findCofactors 85 = .ok (.lload_n 2, 1) := by decide +kernel
theorem dX3_findCofactors_86 : decode cX3_findCofactors 86 = .ok (.aload_n 0, 1) := by decide +kernel
theorem dX3_findCofactors_87 : decode cX3_findCofactors 87 = .ok (.getfield 89, 3) := by decide +kernel
theorem dX3_findCofactors_90 : decode cX3_findCofactors 90 = .ok (.ladd, 1) := by decide +kernel
theorem dX3_findCofactors_91 : decode cX3_findCofactors 91 = .ok (.lload 4, 2) := by decide +kernel
theorem dX3_findCofactors_93 : decode cX3_findCofactors 93 = .ok (.aload_n 0, 1) := by decide +kernel
theorem dX3_findCofactors_94 : decode cX3_findCofactors 94 = .ok (.getfield 92, 3) := by decide +kernel
theorem dX3_findCofactors_97 : decode cX3_findCofactors 97 = .ok (.ladd, 1) := by decide +kernel
theorem dX3_findCofactors_98 : decode cX3_findCofactors 98 = .ok (.ldiv, 1) := by decide +kernel
theorem dX3_findCofactors_99 : decode cX3_findCofactors 99 = .ok (.lstore 7, 2) := by decide +kernel
theorem dX3_findCofactors_101 : decode cX3_findCofactors 101 = .ok (.lload 7, 2) := by decide +kernel
theorem dX3_findCofactors_103 : decode cX3_findCofactors 103 = .ok (.lload_n 2, 1) := by decide +kernel
theorem dX3_findCofactors_104 : decode cX3_findCofactors 104 = .ok (.aload_n 0, 1) := by decide +kernel
theorem dX3_findCofactors_105 : decode cX3_findCofactors 105 = .ok (.getfield 61, 3) := by decide +kernel
theorem dX3_findCofactors_108 : decode cX3_findCofactors 108 = .ok (.ladd, 1) := by decide +kernel
theorem dX3_findCofactors_109 : decode cX3_findCofactors 109 = .ok (.lload 4, 2) := by decide +kernel
theorem dX3_findCofactors_111 : decode cX3_findCofactors 111 = .ok (.aload_n 0, 1) := by decide +kernel
theorem dX3_findCofactors_112 : decode cX3_findCofactors 112 = .ok (.getfield 95, 3) := by decide +kernel
theorem dX3_findCofactors_115 : decode cX3_findCofactors 115 = .ok (.ladd, 1) := by decide +kernel
theorem dX3_findCofactors_116 : decode cX3_findCofactors 116 = .ok (.ldiv, 1) := by decide +kernel
theorem dX3_findCofactors_117 : decode cX3_findCofactors 117 = .ok (.lcmp, 1) := by decide +kernel
theorem dX3_findCofactors_118 : decode cX3_findCofactors 118 = .ok (.ifCond .eq 4, 3) := by decide +kernel
theorem dX3_findCofactors_121 : decode cX3_findCofactors 121 = .ok (.return_, 1) := by decide +kernel
theorem dX3_findCofactors_122 : decode cX3_findCofactors 122 = .ok (.aload_n 0, 1) := by decide +kernel
theorem dX3_findCofactors_123 : decode cX3_findCofactors 123 = .ok (.getfield 89, 3) := by decide +kernel
theorem dX3_findCofactors_126 : decode cX3_findCofactors 126 = .ok (.lload 7, 2) := by decide +kernel
theorem dX3_findCofactors_128 : decode cX3_findCofactors 128 = .ok (.aload_n 0, 1) := by decide +kernel
theorem dX3_findCofactors_129 : decode cX3_findCofactors 129 = .ok (.getfield 92, 3) := by decide +kernel
theorem dX3_findCofactors_132 : decode cX3_findCofactors 132 = .ok (.lmul, 1) := by decide +kernel
theorem dX3_findCofactors_133 : decode cX3_findCofactors 133 = .ok (.lsub, 1) := by decide +kernel
theorem dX3_findCofactors_134 : decode cX3_findCofactors 134 = .ok (.lstore 9, 2) := by decide +kernel
theorem dX3_findCofactors_136 : decode cX3_findCofactors 136 = .ok (.aload_n 0, 1) := by decide +kernel
theorem dX3_findCofactors_137 : decode cX3_findCofactors 137 = .ok (.aload_n 0, 1) := by decide +kernel
theorem dX3_findCofactors_138 : decode cX3_findCofactors 138 = .ok (.getfield 92, 3) := by decide +kernel
theorem dX3_findCofactors_141 : decode cX3_findCofactors 141 = .ok (.putfield 89, 3) := by decide +kernel
theorem dX3_findCofactors_144 : decode cX3_findCofactors 144 = .ok (.aload_n 0, 1) := by decide +kernel
theorem dX3_findCofactors_145 : decode cX3_findCofactors 145 = .ok (.lload 9, 2) := by decide +kernel
theorem dX3_findCofactors_147 : decode cX3_findCofactors 147 = .ok (.putfield 92, 3) := by decide +kernel
theorem dX3_findCofactors_150 : decode cX3_findCofactors 150 = .ok (.aload_n 0, 1) := by decide +kernel
theorem dX3_findCofactors_151 : decode cX3_findCofactors 151 = .ok (.getfield 61, 3) := by decide +kernel
theorem dX3_findCofactors_154 : decode cX3_findCofactors 154 = .ok (.lload 7, 2) := by decide +kernel
theorem dX3_findCofactors_156 : decode cX3_findCofactors 156 = .ok (.aload_n 0, 1) := by decide +kernel
theorem dX3_findCofactors_157 : decode cX3_findCofactors 157 = .ok (.getfield 95, 3) := by decide +kernel
theorem dX3_findCofactors_160 : decode cX3_findCofactors 160 = .ok (.lmul, 1) := by decide +kernel
theorem dX3_findCofactors_161 : decode cX3_findCofactors 161 = .ok (.lsub, 1) := by decide +kernel
theorem dX3_findCofactors_162 : decode cX3_findCofactors 162 = .ok (.lstore 11, 2) := by decide +kernel
theorem dX3_findCofactors_164 : decode cX3_findCofactors 164 = .ok (.aload_n 0, 1) := by decide +kernel
theorem dX3_findCofactors_165 : decode cX3_findCofactors 165 = .ok (.aload_n 0, 1) := by decide +kernel
theorem dX3_findCofactors_166 : decode cX3_findCofactors 166 = .ok (.getfield 95, 3) := by decide +kernel
theorem dX3_findCofactors_169 : decode cX3_findCofactors 169 = .ok (.putfield 61, 3) := by decide +kernel
theorem dX3_findCofactors_172 : decode cX3_findCofactors 172 = .ok (.aload_n 0, 1) := by decide +kernel
theorem dX3_findCofactors_173 : decode cX3_findCofactors 173 = .ok (.lload 11, 2) := by decide +kernel
theorem dX3_findCofactors_175 : decode cX3_findCofactors 175 = .ok (.putfield 95, 3) := by decide +kernel
theorem dX3_findCofactors_178 : decode cX3_findCofactors 178 = .ok (.lload_n 2, 1) := by decide +kernel
theorem dX3_findCofactors_179 : decode cX3_findCofactors 179 = .ok (.lload 7, 2) := by decide +kernel
theorem dX3_findCofactors_181 : decode cX3_findCofactors 181 = .ok (.lload 4, 2) := by decide +kernel
theorem dX3_findCofactors_183 : decode cX3_findCofactors 183 = .ok (.lmul, 1) := by decide +kernel
theorem dX3_findCofactors_184 : decode cX3_findCofactors 184 = .ok (.lsub, 1) := by decide +kernel
theorem dX3_findCofactors_185 : decode cX3_findCofactors 185 = .ok (.lstore 13, 2) := by decide +kernel
theorem dX3_findCofactors_187 : decode cX3_findCofactors 187 = .ok (.lload 4, 2) := by decide +kernel
theorem dX3_findCofactors_189 : decode cX3_findCofactors 189 = .ok (.lstore_n 2, 1) := by decide +kernel
theorem dX3_findCofactors_190 : decode cX3_findCofactors 190 = .ok (.lload 13, 2) := by decide +kernel
theorem dX3_findCofactors_192 : decode cX3_findCofactors 192 = .ok (.lstore 4, 2) := by decide +kernel
theorem dX3_findCofactors_194 : decode cX3_findCofactors 194 = .ok (.iinc 6 1, 3) := by decide +kernel
theorem dX3_findCofactors_197 : decode cX3_findCofactors 197 = .ok (.goto (-144), 3) := by decide +kernel
theorem dX3_findCofactors_200 : decode cX3_findCofactors 200 = .ok (.return_, 1) := by decide +kernel
theorem dX3_takeStep_0 : decode cX3_takeStep 0 = .ok (.aload_n 0, 1) := by decide +kernel
theorem dX3_takeStep_1 : decode cX3_takeStep 1 = .ok (.getfield 9, 3) := by decide +kernel
theorem dX3_takeStep_4 : decode cX3_takeStep 4 = .ok (.aload_n 0, 1) := by decide +kernel
theorem dX3_takeStep_5 : decode cX3_takeStep 5 = .ok (.getfield 20, 3) := by decide +kernel
theorem dX3_takeStep_8 : decode cX3_takeStep 8 = .ok (.aload_n 0, 1) := by decide +kernel
theorem dX3_takeStep_9 : decode cX3_takeStep 9 = .ok (.getfield 30, 3) := by decide +kernel
theorem dX3_takeStep_12 : decode cX3_takeStep 12 = .ok (.aload_n 0, 1) := by decide +kernel
theorem dX3_takeStep_13 : decode cX3_takeStep 13 = .ok (.getfield 24, 3) := by decide +kernel
theorem dX3_takeStep_16 : decode cX3_takeStep 16 = .ok (.aload_n 0, 1) := by decide +kernel
theorem dX3_takeStep_17 : decode cX3_takeStep 17 = .ok (.getfield 27, 3) := by decide +kernel
theorem dX3_takeStep_20 : decode cX3_takeStep 20 = .ok (.invokevirtual 98, 3) := by decide +kernel
theorem dX3_takeStep_23 : decode cX3_takeStep 23 = .ok (.aload_n 0, 1) := by decide +kernel
theorem dX3_takeStep_24 : decode cX3_takeStep 24 = .ok (.getfield 24, 3) := by decide +kernel
theorem dX3_takeStep_27 : decode cX3_takeStep 27 = .ok (.astore_n 1, 1) := by decide +kernel
theorem dX3_takeStep_28 : decode cX3_takeStep 28 = .ok (.aload_n 0, 1) := by decide +kernel
theorem dX3_takeStep_29 : decode cX3_takeStep 29 = .ok (.aload_n 0, 1) := by decide +kernel
theorem dX3_takeStep_30 : decode cX3_takeStep 30 = .ok (.getfield 27, 3) := by decide +kernel
theorem dX3_takeStep_33 : decode cX3_takeStep 33 = .ok (.putfield 24, 3) := by decide +kernel
theorem dX3_takeStep_36 : decode cX3_takeStep 36 = .ok (.aload_n 0, 1) := by decide +kernel
theorem dX3_takeStep_37 : decode cX3_takeStep 37 = .ok (.aload_n 0, 1) := by decide +kernel
theorem dX3_takeStep_38 : decode cX3_takeStep 38 = .ok (.getfield 30, 3) := by decide +kernel
theorem dX3_takeStep_41 : decode cX3_takeStep 41 = .ok (.putfield 27, 3) := by decide +kernel
theorem dX3_takeStep_44 : decode cX3_takeStep 44 = .ok (.aload_n 0, 1) := by decide +kernel
theorem dX3_takeStep_45 : decode cX3_takeStep 45 = .ok (.aload_n 1, 1) := by decide +kernel
theorem dX3_takeStep_46 : decode cX3_takeStep 46 = .ok (.putfield 30, 3) := by decide +kernel
theorem dX3_takeStep_49 : decode cX3_takeStep 49 = .ok (.aload_n 0, 1) := by decide +kernel
theorem dX3_takeStep_50 : decode cX3_takeStep 50 = .ok (.dup, 1) := by decide +kernel
theorem dX3_takeStep_51 : decode cX3_takeStep 51 = .ok (.getfield 50, 3) := by decide +kernel
theorem dX3_takeStep_54 : decode cX3_takeStep 54 = .ok (.iconst 1, 1) := by decide +kernel
theorem dX3_takeStep_55 : decode cX3_takeStep 55 = .ok (.iadd, 1) := by decide +kernel
theorem dX3_takeStep_56 : decode cX3_takeStep 56 = .ok (.putfield 50, 3) := by decide +kernel
theorem dX3_takeStep_59 : decode cX3_takeStep 59 = .ok (.return_, 1) := by decide +kernel
theorem dX3_combineBoth_0 : decode cX3_combineBoth 0 = .ok (.aload_n 0, 1) := by decide +kernel
theorem dX3_combineBoth_1 : decode cX3_combineBoth 1 = .ok (.aload_n 0, 1) := by decide +kernel
theorem dX3_combineBoth_2 : decode cX3_combineBoth 2 = .ok (.getfield 30, 3) := by decide +kernel
theorem dX3_combineBoth_5 : decode cX3_combineBoth 5 = .ok (.aload_n 0, 1) := by decide +kernel
theorem dX3_combineBoth_6 : decode cX3_combineBoth 6 = .ok (.getfield 89, 3) := by decide +kernel
theorem dX3_combineBoth_9 : decode cX3_combineBoth 9 = .ok (.aload_n 0, 1) := by decide +kernel
theorem dX3_combineBoth_10 : decode cX3_combineBoth 10 = .ok (.getfield 61, 3) := by decide +kernel
theorem dX3_combineBoth_13 : decode cX3_combineBoth 13 = .ok (.invokevirtual 104, 3) := by decide +kernel
theorem dX3_combineBoth_16 : decode cX3_combineBoth 16 = .ok (.aload_n 0, 1) := by decide +kernel
theorem dX3_combineBoth_17 : decode cX3_combineBoth 17 = .ok (.aload_n 0, 1) := by decide +kernel
theorem dX3_combineBoth_18 : decode cX3_combineBoth 18 = .ok (.getfield 33, 3) := by decide +kernel
theorem dX3_combineBoth_21 : decode cX3_combineBoth 21 = .ok (.aload_n 0, 1) := by decide +kernel
theorem dX3_combineBoth_22 : decode cX3_combineBoth 22 = .ok (.getfield 92, 3) := by decide +kernel
theorem dX3_combineBoth_25 : decode cX3_combineBoth 25 = .ok (.aload_n 0, 1) := by decide +kernel
theorem dX3_combineBoth_26 : decode cX3_combineBoth 26 = .ok (.getfield 95, 3) := by decide +kernel
theorem dX3_combineBoth_29 : decode cX3_combineBoth 29 = .ok (.invokevirtual 104, 3) := by decide +kernel
theorem dX3_combineBoth_32 : decode cX3_combineBoth 32 = .ok (.aload_n 0, 1) := by decide +kernel
theorem dX3_combineBoth_33 : decode cX3_combineBoth 33 = .ok (.getfield 24, 3) := by decide +kernel
theorem dX3_combineBoth_36 : decode cX3_combineBoth 36 = .ok (.astore_n 1, 1) := by decide +kernel
theorem dX3_combineBoth_37 : decode cX3_combineBoth 37 = .ok (.aload_n 0, 1) := by decide +kernel
theorem dX3_combineBoth_38 : decode cX3_combineBoth 38 = .ok (.getfield 27, 3) := by decide +kernel
theorem dX3_combineBoth_41 : decode cX3_combineBoth 41 = .ok (.astore_n 2, 1) := by decide +kernel
theorem dX3_combineBoth_42 : decode cX3_combineBoth 42 = .ok (.aload_n 0, 1) := by decide +kernel
theorem dX3_combineBoth_43 : decode cX3_combineBoth 43 = .ok (.aload_n 0, 1) := by decide +kernel
theorem dX3_combineBoth_44 : decode cX3_combineBoth 44 = .ok (.getfield 30, 3) := by decide +kernel
theorem dX3_combineBoth_47 : decode cX3_combineBoth 47 = .ok (.putfield 24, 3) := by decide +kernel
theorem dX3_combineBoth_50 : decode cX3_combineBoth 50 = .ok (.aload_n 0, 1) := by decide +kernel
theorem dX3_combineBoth_51 : decode cX3_combineBoth 51 = .ok (.aload_n 0, 1) := by decide +kernel
theorem dX3_combineBoth_52 : decode cX3_combineBoth 52 = .ok (.getfield 33, 3) := by decide +kernel
theorem dX3_combineBoth_55 : decode cX3_combineBoth 55 = .ok (.putfield 27, 3) := by decide +kernel
theorem dX3_combineBoth_58 : decode cX3_combineBoth 58 = .ok (.aload_n 0, 1) := by decide +kernel
theorem dX3_combineBoth_59 : decode cX3_combineBoth 59 = .ok (.aload_n 1, 1) := by decide +kernel
theorem dX3_combineBoth_60 : decode cX3_combineBoth 60 = .ok (.putfield 30, 3) := by decide +kernel
theorem dX3_combineBoth_63 : decode cX3_combineBoth 63 = .ok (.aload_n 0, 1) := by decide +kernel
theorem dX3_combineBoth_64 : decode cX3_combineBoth 64 = .ok (.aload_n 2, 1) := by decide +kernel
theorem dX3_combineBoth_65 : decode cX3_combineBoth 65 = .ok (.putfield 33, 3) := by decide +kernel
theorem dX3_combineBoth_68 : decode cX3_combineBoth 68 = .ok (.return_, 1) := by decide +kernel
theorem dX3_combine_0 : decode cX3_combine 0 = .ok (.aload_n 0, 1) := by decide +kernel
theorem dX3_combine_1 : decode cX3_combine 1 = .ok (.getfield 24, 3) := by decide +kernel
theorem dX3_combine_4 : decode cX3_combine 4 = .ok (.getfield 55, 3) := by decide +kernel
theorem dX3_combine_7 : decode cX3_combine 7 = .ok (.aload_n 1, 1) := by decide +kernel
theorem dX3_combine_8 : decode cX3_combine 8 = .ok (.getfield 108, 3) := by decide +kernel
theorem dX3_combine_11 : decode cX3_combine 11 = .ok (.arraylength, 1) := by decide +kernel
theorem dX3_combine_12 : decode cX3_combine 12 = .ok (.invokestatic 112, 3) := by decide +kernel
theorem dX3_combine_15 : decode cX3_combine 15 = .ok (.istore 6, 2) := by decide +kernel
theorem dX3_combine_17 : decode cX3_combine 17 = .ok (.lconst 0, 1) := by decide +kernel
theorem dX3_combine_18 : decode cX3_combine 18 = .ok (.lstore 7, 2) := by decide +kernel
theorem dX3_combine_20 : decode cX3_combine 20 = .ok (.iconst 0, 1) := by decide +kernel
theorem dX3_combine_21 : decode cX3_combine 21 = .ok (.istore 9, 2) := by decide +kernel
theorem dX3_combine_23 : decode cX3_combine 23 = .ok (.iload 9, 2) := by decide +kernel
theorem dX3_combine_25 : decode cX3_combine 25 = .ok (.iload 6, 2) := by decide +kernel
theorem dX3_combine_27 : decode cX3_combine 27 = .ok (.if_icmp .ge 55, 3) := by decide +kernel
theorem dX3_combine_30 : decode cX3_combine 30 = .ok (.lload 7, 2) := by decide +kernel
theorem dX3_combine_32 : decode cX3_combine 32 = .ok (.lload_n 2, 1) := by decide +kernel
theorem dX3_combine_33 : decode cX3_combine 33 = .ok (.aload_n 0, 1) := by decide +kernel
theorem dX3_combine_34 : decode cX3_combine 34 = .ok (.getfield 24, 3) := by decide +kernel
theorem dX3_combine_37 : decode cX3_combine 37 = .ok (.iload 9, 2) := by decide +kernel
theorem dX3_combine_39 : decode cX3_combine 39 = .ok (.invokevirtual 71, 3) := by decide +kernel
theorem dX3_combine_42 : decode cX3_combine 42 = .ok (.lmul, 1) := by decide +kernel
theorem dX3_combine_43 : decode cX3_combine 43 = .ok (.lload 4, 2) := by decide +kernel
theorem dX3_combine_45 : decode cX3_combine 45 = .ok (.aload_n 0, 1) := by decide +kernel
theorem dX3_combine_46 : decode cX3_combine 46 = .ok (.getfield 27, 3) := by decide +kernel
theorem dX3_combine_49 : decode cX3_combine 49 = .ok (.iload 9, 2) := by decide +kernel
theorem dX3_combine_51 : decode cX3_combine 51 = .ok (.invokevirtual 71, 3) := by decide +kernel
theorem dX3_combine_54 : decode cX3_combine 54 = .ok (.lmul, 1) := by decide +kernel
theorem dX3_combine_55 : decode cX3_combine 55 = .ok (.ladd, 1) := by decide +kernel
theorem dX3_combine_56 : decode cX3_combine 56 = .ok (.ladd, 1) := by decide +kernel
theorem dX3_combine_57 : decode cX3_combine 57 = .ok (.lstore 7, 2) := by decide +kernel
theorem dX3_combine_59 : decode cX3_combine 59 = .ok (.aload_n 1, 1) := by decide +kernel
theorem dX3_combine_60 : decode cX3_combine 60 = .ok (.getfield 108, 3) := by decide +kernel
theorem dX3_combine_63 : decode cX3_combine 63 = .ok (.iload 9, 2) := by decide +kernel
theorem dX3_combine_65 : decode cX3_combine 65 = .ok (.lload 7, 2) := by decide +kernel
theorem dX3_combine_67 : decode cX3_combine 67 = .ok (.l2i, 1) := by decide +kernel
theorem dX3_combine_68 : decode cX3_combine 68 = .ok (.iastore, 1) := by decide +kernel
theorem dX3_combine_69 : decode cX3_combine 69 = .ok (.lload 7, 2) := by decide +kernel
theorem dX3_combine_71 : decode cX3_combine 71 = .ok (.bipush 32, 2) := by decide +kernel
theorem dX3_combine_73 : decode cX3_combine 73 = .ok (.lshr, 1) := by decide +kernel
theorem dX3_combine_74 : decode cX3_combine 74 = .ok (.lstore 7, 2) := by decide +kernel
theorem dX3_combine_76 : decode cX3_combine 76 = .ok (.iinc 9 1, 3) := by decide +kernel
theorem dX3_combine_79 : decode cX3_combine 79 = .ok (.goto (-56), 3) := by decide +kernel
theorem dX3_combine_82 : decode cX3_combine 82 = .ok (.aload_n 1, 1) := by decide +kernel
theorem dX3_combine_83 : decode cX3_combine 83 = .ok (.iload 6, 2) := by decide +kernel
theorem dX3_combine_85 : decode cX3_combine 85 = .ok (.invokevirtual 118, 3) := by decide +kernel
theorem dX3_combine_88 : decode cX3_combine 88 = .ok (.return_, 1) := by decide +kernel
theorem dX3_divisorOfLimbs_0 : decode cX3_divisorOfLimbs 0 = .ok (.lload_n 0, 1) := by decide +kernel
theorem dX3_divisorOfLimbs_1 : decode cX3_divisorOfLimbs 1 = .ok (.lstore 4, 2) := by decide +kernel
theorem dX3_divisorOfLimbs_3 : decode cX3_divisorOfLimbs 3 = .ok (.lload_n 2, 1) := by decide +kernel
theorem dX3_divisorOfLimbs_4 : decode cX3_divisorOfLimbs 4 = .ok (.lstore 6, 2) := by decide +kernel
theorem dX3_divisorOfLimbs_6 : decode cX3_divisorOfLimbs 6 = .ok (.iconst 0, 1) := by decide +kernel
theorem dX3_divisorOfLimbs_7 : decode cX3_divisorOfLimbs 7 = .ok (.istore 8, 2) := by decide +kernel
theorem dX3_divisorOfLimbs_9 : decode cX3_divisorOfLimbs 9 = .ok (.iload 8, 2) := by decide +kernel
theorem dX3_divisorOfLimbs_11 : decode cX3_divisorOfLimbs 11 = .ok (.ldc 54, 2) := by decide +kernel
theorem dX3_divisorOfLimbs_13 : decode cX3_divisorOfLimbs 13 = .ok (.if_icmp .ge 31, 3) := by decide +kernel
theorem dX3_divisorOfLimbs_16 : decode cX3_divisorOfLimbs 16 = .ok (.lload 6, 2) := by decide +kernel
theorem dX3_divisorOfLimbs_18 : decode cX3_divisorOfLimbs 18 = .ok (.lconst 0, 1) := by decide +kernel
theorem dX3_divisorOfLimbs_19 : decode cX3_divisorOfLimbs 19 = .ok (.lcmp, 1) := by decide +kernel
theorem dX3_divisorOfLimbs_20 : decode cX3_divisorOfLimbs 20 = .ok (.ifCond .eq 24, 3) := by decide +kernel
theorem dX3_divisorOfLimbs_23 : decode cX3_divisorOfLimbs 23 = .ok (.lload 4, 2) := by decide +kernel
theorem dX3_divisorOfLimbs_25 : decode cX3_divisorOfLimbs 25 = .ok (.lload 6, 2) := by decide +kernel
theorem dX3_divisorOfLimbs_27 : decode cX3_divisorOfLimbs 27 = .ok (.lrem, 1) := by decide +kernel
theorem dX3_divisorOfLimbs_28 : decode cX3_divisorOfLimbs 28 = .ok (.lstore 9, 2) := by decide +kernel
theorem dX3_divisorOfLimbs_30 : decode cX3_divisorOfLimbs 30 = .ok (.lload 6, 2) := by decide +kernel
theorem dX3_divisorOfLimbs_32 : decode cX3_divisorOfLimbs 32 = .ok (.lstore 4, 2) := by decide +kernel
theorem dX3_divisorOfLimbs_34 : decode cX3_divisorOfLimbs 34 = .ok (.lload 9, 2) := by decide +kernel
theorem dX3_divisorOfLimbs_36 : decode cX3_divisorOfLimbs 36 = .ok (.lstore 6, 2) := by decide +kernel
theorem dX3_divisorOfLimbs_38 : decode cX3_divisorOfLimbs 38 = .ok (.iinc 8 1, 3) := by decide +kernel
theorem dX3_divisorOfLimbs_41 : decode cX3_divisorOfLimbs 41 = .ok (.goto (-32), 3) := by decide +kernel
theorem dX3_divisorOfLimbs_44 : decode cX3_divisorOfLimbs 44 = .ok (.lload 4, 2) := by decide +kernel
theorem dX3_divisorOfLimbs_46 : decode cX3_divisorOfLimbs 46 = .ok (.l2i, 1) := by decide +kernel
theorem dX3_divisorOfLimbs_47 : decode cX3_divisorOfLimbs 47 = .ok (.ireturn, 1) := by decide +kernel
theorem dX4_init_0 : decode cX4_init 0 = .ok (.aload_n 0, 1) := by decide +kernel
theorem dX4_init_1 : decode cX4_init 1 = .ok (.invokespecial 3, 3) := by decide +kernel
theorem dX4_init_4 : decode cX4_init 4 = .ok (.aload_n 0, 1) := by decide +kernel
theorem dX4_init_5 : decode cX4_init 5 = .ok (.bipush 10, 2) := by decide +kernel
theorem dX4_init_7 : decode cX4_init 7 = .ok (.iconst 1, 1) := by decide +kernel
theorem dX4_init_8 : decode cX4_init 8 = .ok (.iload_n 1, 1) := by decide +kernel
theorem dX4_init_9 : decode cX4_init 9 = .ok (.invokestatic 9, 3) := by decide +kernel
theorem dX4_init_12 : decode cX4_init 12 = .ok (.imul, 1) := by decide +kernel
theorem dX4_init_13 : decode cX4_init 13 = .ok (.iconst 2, 1) := by decide +kernel
theorem dX4_init_14 : decode cX4_init 14 = .ok (.iadd, 1) := by decide +kernel
theorem dX4_init_15 : decode cX4_init 15 = .ok (.newarray .byte, 2) := by decide +kernel
theorem dX4_init_17 : decode cX4_init 17 = .ok (.putfield 15, 3) := by decide +kernel
theorem dX4_init_20 : decode cX4_init 20 = .ok (.aload_n 0, 1) := by decide +kernel
theorem dX4_init_21 : decode cX4_init 21 = .ok (.new 21, 3) := by decide +kernel
theorem dX4_init_24 : decode cX4_init 24 = .ok (.dup, 1) := by decide +kernel
theorem dX4_init_25 : decode cX4_init 25 = .ok (.iload_n 2, 1) := by decide +kernel
theorem dX4_init_26 : decode cX4_init 26 = .ok (.invokespecial 23, 3) := by decide +kernel
theorem dX4_init_29 : decode cX4_init 29 = .ok (.putfield 26, 3) := by decide +kernel
theorem dX4_init_32 : decode cX4_init 32 = .ok (.return_, 1) := by decide +kernel
theorem dX4_print_0 : decode cX4_print 0 = .ok (.aload_n 0, 1) := by decide +kernel
theorem dX4_print_1 : decode cX4_print 1 = .ok (.iconst 0, 1) := by decide +kernel
theorem dX4_print_2 : decode cX4_print 2 = .ok (.putfield 30, 3) := by decide +kernel
theorem dX4_print_5 : decode cX4_print 5 = .ok (.aload_n 0, 1) := by decide +kernel
theorem dX4_print_6 : decode cX4_print 6 = .ok (.getfield 26, 3) := by decide +kernel
theorem dX4_print_9 : decode cX4_print 9 = .ok (.aload_n 1, 1) := by decide +kernel
theorem dX4_print_10 : decode cX4_print 10 = .ok (.invokevirtual 34, 3) := by decide +kernel
theorem dX4_print_13 : decode cX4_print 13 = .ok (.iconst 0, 1) := by decide +kernel
theorem dX4_print_14 : decode cX4_print 14 = .ok (.istore_n 2, 1) := by decide +kernel
theorem dX4_print_15 : decode cX4_print 15 = .ok (.iload_n 2, 1) := by decide +kernel
theorem dX4_print_16 : decode cX4_print 16 = .ok (.aload_n 0, 1) := by decide +kernel
theorem dX4_print_17 : decode cX4_print 17 = .ok (.getfield 15, 3) := by decide +kernel
theorem dX4_print_20 : decode cX4_print 20 = .ok (.arraylength, 1) := by decide +kernel
theorem dX4_print_21 : decode cX4_print 21 = .ok (.if_icmp .ge 27, 3) := by decide +kernel
theorem dX4_print_24 : decode cX4_print 24 = .ok (.aload_n 0, 1) := by decide +kernel
theorem dX4_print_25 : decode cX4_print 25 = .ok (.getfield 26, 3) := by decide +kernel
theorem dX4_print_28 : decode cX4_print 28 = .ok (.getfield 38, 3) := by decide +kernel
theorem dX4_print_31 : decode cX4_print 31 = .ok (.ifCond .le 17, 3) := by decide +kernel
theorem dX4_print_34 : decode cX4_print 34 = .ok (.aload_n 0, 1) := by decide +kernel
theorem dX4_print_35 : decode cX4_print 35 = .ok (.aload_n 0, 1) := by decide +kernel
theorem dX4_print_36 : decode cX4_print 36 = .ok (.invokevirtual 41, 3) := by decide +kernel
theorem dX4_print_39 : decode cX4_print 39 = .ok (.invokevirtual 45, 3) := by decide +kernel
theorem dX4_print_42 : decode cX4_print 42 = .ok (.iinc 2 1, 3) := by decide +kernel
theorem dX4_print_45 : decode cX4_print 45 = .ok (.goto (-30), 3) := by decide +kernel
theorem dX4_print_48 : decode cX4_print 48 = .ok (.aload_n 0, 1) := by decide +kernel
theorem dX4_print_49 : decode cX4_print 49 = .ok (.getfield 30, 3) := by decide +kernel
theorem dX4_print_52 : decode cX4_print 52 = .ok (.ifCond .ne 9, 3) := by decide +kernel
theorem dX4_print_55 : decode cX4_print 55 = .ok (.aload_n 0, 1) := by decide +kernel
theorem dX4_print_56 : decode cX4_print 56 = .ok (.bipush 48, 2) := by decide +kernel
theorem dX4_print_58 : decode cX4_print 58 = .ok (.invokevirtual 48, 3) := by decide +kernel
theorem dX4_print_61 : decode cX4_print 61 = .ok (.aload_n 1, 1) := by decide +kernel
theorem dX4_print_62 : decode cX4_print 62 = .ok (.getfield 51, 3) := by decide +kernel
theorem dX4_print_65 : decode cX4_print 65 = .ok (.ifCond .eq 9, 3) := by decide +kernel
theorem dX4_print_68 : decode cX4_print 68 = .ok (.aload_n 0, 1) := by decide +kernel
theorem dX4_print_69 : decode cX4_print 69 = .ok (.bipush 45, 2) := by decide +kernel
theorem dX4_print_71 : decode cX4_print 71 = .ok (.invokevirtual 48, 3) := by decide +kernel
theorem dX4_print_74 : decode cX4_print 74 = .ok (.aload_n 0, 1) := by decide +kernel
theorem dX4_print_75 : decode cX4_print 75 = .ok (.invokevirtual 55, 3) := by decide +kernel
theorem dX4_print_78 : decode cX4_print 78 = .ok (.return_, 1) := by decide +kernel
theorem dX4_appendChunk_0 : decode cX4_appendChunk 0 = .ok (.iload_n 1, 1) := by decide +kernel
theorem dX4_appendChunk_1 : decode cX4_appendChunk 1 = .ok (.istore_n 2, 1) := by decide +kernel
theorem dX4_appendChunk_2 : decode cX4_appendChunk 2 = .ok (.iconst 0, 1) := by decide +kernel
theorem dX4_appendChunk_3 : decode cX4_appendChunk 3 = .ok (.istore_n 3, 1) := by decide +kernel
theorem dX4_appendChunk_4 : decode cX4_appendChunk 4 = .ok (.iload_n 3, 1) := by decide +kernel
theorem dX4_appendChunk_5 : decode cX4_appendChunk 5 = .ok (.bipush 9, 2) := by decide +kernel
theorem dX4_appendChunk_7 : decode cX4_appendChunk 7 = .ok (.if_icmp .ge 39, 3) := by decide +kernel
theorem dX4_appendChunk_10 : decode cX4_appendChunk 10 = .ok (.aload_n 0, 1) := by decide +kernel
theorem dX4_appendChunk_11 : decode cX4_appendChunk 11 = .ok (.getfield 26, 3) := by decide +kernel
theorem dX4_appendChunk_14 : decode cX4_appendChunk 14 = .ok (.getfield 38, 3) := by decide +kernel
theorem dX4_appendChunk_17 : decode cX4_appendChunk 17 = .ok (.ifCond .gt 7, 3) := by decide +kernel
theorem dX4_appendChunk_20 : decode cX4_appendChunk 20 = .ok (.iload_n 2, 1) := by decide +kernel
theorem dX4_appendChunk_21 : decode cX4_appendChunk 21 = .ok (.ifCond .le 25, 3) := by decide +kernel
theorem dX4_appendChunk_24 : decode cX4_appendChunk 24 = .ok (.aload_n 0, 1) := by decide +kernel
theorem dX4_appendChunk_25 : decode cX4_appendChunk 25 = .ok (.bipush 48, 2) := by decide +kernel
theorem dX4_appendChunk_27 : decode cX4_appendChunk 27 = .ok (.iload_n 2, 1) := by decide +kernel
theorem dX4_appendChunk_28 : decode cX4_appendChunk 28 = .ok (.bipush 10, 2) := by decide +kernel
theorem dX4_appendChunk_30 : decode cX4_appendChunk 30 = .ok (.irem, 1) := by decide +kernel
theorem dX4_appendChunk_31 : decode cX4_appendChunk 31 = .ok (.iadd, 1) := by decide +kernel
theorem dX4_appendChunk_32 : decode cX4_appendChunk 32 = .ok (.invokevirtual 48, 3) := by decide +kernel
theorem dX4_appendChunk_35 : decode cX4_appendChunk 35 = .ok (.iload_n 2, 1) := by decide +kernel
theorem dX4_appendChunk_36 : decode cX4_appendChunk 36 = .ok (.bipush 10, 2) := by decide +kernel
theorem dX4_appendChunk_38 : decode cX4_appendChunk 38 = .ok (.idiv, 1) := by decide +kernel
theorem dX4_appendChunk_39 : decode cX4_appendChunk 39 = .ok (.istore_n 2, 1) := by decide +kernel
theorem dX4_appendChunk_40 : decode cX4_appendChunk 40 = .ok (.iinc 3 1, 3) := by decide +kernel
theorem dX4_appendChunk_43 : decode cX4_appendChunk 43 = .ok (.goto (-39), 3) := by decide +kernel
theorem dX4_appendChunk_46 : decode cX4_appendChunk 46 = .ok (.return_, 1) := by decide +kernel
theorem dX4_takeChunk_0 : decode cX4_takeChunk 0 = .ok (.lconst 0, 1) := by decide +kernel
theorem dX4_takeChunk_1 : decode cX4_takeChunk 1 = .ok (.lstore_n 1, 1) := by decide +kernel
theorem dX4_takeChunk_2 : decode cX4_takeChunk 2 = .ok (.aload_n 0, 1) := by decide +kernel
theorem dX4_takeChunk_3 : decode cX4_takeChunk 3 = .ok (.getfield 26, 3) := by decide +kernel
theorem dX4_takeChunk_6 : decode cX4_takeChunk 6 = .ok (.getfield 38, 3) := by decide +kernel
theorem dX4_takeChunk_9 : decode cX4_takeChunk 9 = .ok (.iconst 1, 1) := by decide +kernel
theorem dX4_takeChunk_10 : decode cX4_takeChunk 10 = .ok (.isub, 1) := by decide +kernel
theorem dX4_takeChunk_11 : decode cX4_takeChunk 11 = .ok (.istore_n 3, 1) := by decide +kernel
theorem dX4_takeChunk_12 : decode cX4_takeChunk 12 = .ok (.iload_n 3, 1) := by decide +kernel
theorem dX4_takeChunk_13 : decode cX4_takeChunk 13 = .ok (.ifCond .lt 47, 3) := by decide +kernel
theorem dX4_takeChunk_16 : decode cX4_takeChunk 16 = .ok (.lload_n 1, 1) := by decide +kernel
theorem dX4_takeChunk_17 : decode cX4_takeChunk 17 = .ok (.bipush 32, 2) := by decide +kernel
theorem dX4_takeChunk_19 : decode cX4_takeChunk 19 = .ok (.lshl, 1) := by decide +kernel
theorem dX4_takeChunk_20 : decode cX4_takeChunk 20 = .ok (.aload_n 0, 1) := by decide +kernel
theorem dX4_takeChunk_21 : decode cX4_takeChunk 21 = .ok (.getfield 26, 3) := by decide +kernel
theorem dX4_takeChunk_24 : decode cX4_takeChunk 24 = .ok (.iload_n 3, 1) := by decide +kernel
theorem dX4_takeChunk_25 : decode cX4_takeChunk 25 = .ok (.invokevirtual 58, 3) := by decide +kernel
theorem dX4_takeChunk_28 : decode cX4_takeChunk 28 = .ok (.lor, 1) := by decide +kernel
theorem dX4_takeChunk_29 : decode cX4_takeChunk 29 = .ok (.lstore 4, 2) := by decide +kernel
theorem dX4_takeChunk_31 : decode cX4_takeChunk 31 = .ok (.aload_n 0, 1) := by decide +kernel
theorem dX4_takeChunk_32 : decode cX4_takeChunk 32 = .ok (.getfield 26, 3) := by decide +kernel
theorem dX4_takeChunk_35 : decode cX4_takeChunk 35 = .ok (.getfield 62, 3) := by decide +kernel
theorem dX4_takeChunk_38 : decode cX4_takeChunk 38 = .ok (.iload_n 3, 1) := by decide +kernel
theorem dX4_takeChunk_39 : decode cX4_takeChunk 39 = .ok (.lload 4, 2) := by decide +kernel
theorem dX4_takeChunk_41 : decode cX4_takeChunk 41 = .ok (.ldc2_w 66, 3) := by decide +kernel
theorem dX4_takeChunk_44 : decode cX4_takeChunk 44 = .ok (.ldiv, 1) := by decide +kernel
theorem dX4_takeChunk_45 : decode cX4_takeChunk 45 = .ok (.l2i, 1) := by decide +kernel
theorem dX4_takeChunk_46 : decode cX4_takeChunk 46 = .ok (.iastore, 1) := by decide +kernel
theorem dX4_takeChunk_47 : decode cX4_takeChunk 47 = .ok (.lload 4, 2) := by decide +kernel
theorem dX4_takeChunk_49 : decode cX4_takeChunk 49 = .ok (.ldc2_w 66, 3) := by decide +kernel
theorem dX4_takeChunk_52 : decode cX4_takeChunk 52 = .ok (.lrem, 1) := by decide +kernel
theorem dX4_takeChunk_53 : decode cX4_takeChunk 53 = .ok (.lstore_n 1, 1) := by decide +kernel
theorem dX4_takeChunk_54 : decode cX4_takeChunk 54 = .ok (.iinc 3 (-1), 3) := by decide +kernel
theorem dX4_takeChunk_57 : decode cX4_takeChunk 57 = .ok (.goto (-45), 3) := by decide +kernel
theorem dX4_takeChunk_60 : decode cX4_takeChunk 60 = .ok (.aload_n 0, 1) := by decide +kernel
theorem dX4_takeChunk_61 : decode cX4_takeChunk 61 = .ok (.getfield 26, 3) := by decide +kernel
theorem dX4_takeChunk_64 : decode cX4_takeChunk 64 = .ok (.aload_n 0, 1) := by decide +kernel
theorem dX4_takeChunk_65 : decode cX4_takeChunk 65 = .ok (.getfield 26, 3) := by decide +kernel
theorem dX4_takeChunk_68 : decode cX4_takeChunk 68 = .ok (.getfield 38, 3) := by decide +kernel
theorem dX4_takeChunk_71 : decode cX4_takeChunk 71 = .ok (.invokevirtual 68, 3) := by decide +kernel
theorem dX4_takeChunk_74 : decode cX4_takeChunk 74 = .ok (.lload_n 1, 1) := by decide +kernel
theorem dX4_takeChunk_75 : decode cX4_takeChunk 75 = .ok (.l2i, 1) := by decide +kernel
theorem dX4_takeChunk_76 : decode cX4_takeChunk 76 = .ok (.ireturn, 1) := by decide +kernel
theorem dX4_append_0 : decode cX4_append 0 = .ok (.aload_n 0, 1) := by decide +kernel
theorem dX4_append_1 : decode cX4_append 1 = .ok (.getfield 30, 3) := by decide +kernel
theorem dX4_append_4 : decode cX4_append 4 = .ok (.aload_n 0, 1) := by decide +kernel
theorem dX4_append_5 : decode cX4_append 5 = .ok (.getfield 15, 3) := by decide +kernel
theorem dX4_append_8 : decode cX4_append 8 = .ok (.arraylength, 1) := by decide +kernel
theorem dX4_append_9 : decode cX4_append 9 = .ok (.if_icmp .ge 24, 3) := by decide +kernel
theorem dX4_append_12 : decode cX4_append 12 = .ok (.aload_n 0, 1) := by decide +kernel
theorem dX4_append_13 : decode cX4_append 13 = .ok (.getfield 15, 3) := by decide +kernel
theorem dX4_append_16 : decode cX4_append 16 = .ok (.aload_n 0, 1) := by decide +kernel
theorem dX4_append_17 : decode cX4_append 17 = .ok (.getfield 30, 3) := by decide +kernel
theorem dX4_append_20 : decode cX4_append 20 = .ok (.iload_n 1, 1) := by decide +kernel
theorem dX4_append_21 : decode cX4_append 21 = .ok (.i2b, 1) := by decide +kernel
theorem dX4_append_22 : decode cX4_append 22 = .ok (.bastore, 1) := by decide +kernel
theorem dX4_append_23 : decode cX4_append 23 = .ok (.aload_n 0, 1) := by decide +kernel
theorem dX4_append_24 : decode cX4_append 24 = .ok (.dup, 1) := by decide +kernel
theorem dX4_append_25 : decode cX4_append 25 = .ok (.getfield 30, 3) := by decide +kernel
theorem dX4_append_28 : decode cX4_append 28 = .ok (.iconst 1, 1) := by decide +kernel
theorem dX4_append_29 : decode cX4_append 29 = .ok (.iadd, 1) := by decide +kernel
theorem dX4_append_30 : decode cX4_append 30 = .ok (.putfield 30, 3) := by decide +kernel
theorem dX4_append_33 : decode cX4_append 33 = .ok (.return_, 1) := by decide +kernel
theorem dX4_turnRound_0 : decode cX4_turnRound 0 = .ok (.iconst 0, 1) := by decide +kernel
theorem dX4_turnRound_1 : decode cX4_turnRound 1 = .ok (.istore_n 1, 1) := by decide +kernel
theorem dX4_turnRound_2 : decode cX4_turnRound 2 = .ok (.aload_n 0, 1) := by decide +kernel
theorem dX4_turnRound_3 : decode cX4_turnRound 3 = .ok (.getfield 30, 3) := by decide +kernel
theorem dX4_turnRound_6 : decode cX4_turnRound 6 = .ok (.iconst 1, 1) := by decide +kernel
theorem dX4_turnRound_7 : decode cX4_turnRound 7 = .ok (.isub, 1) := by decide +kernel
theorem dX4_turnRound_8 : decode cX4_turnRound 8 = .ok (.istore_n 2, 1) := by decide +kernel
theorem dX4_turnRound_9 : decode cX4_turnRound 9 = .ok (.iload_n 1, 1) := by decide +kernel
theorem dX4_turnRound_10 : decode cX4_turnRound 10 = .ok (.iload_n 2, 1) := by decide +kernel
theorem dX4_turnRound_11 : decode cX4_turnRound 11 = .ok (.if_icmp .ge 38, 3) := by decide +kernel
theorem dX4_turnRound_14 : decode cX4_turnRound 14 = .ok (.aload_n 0, 1) := by decide +kernel
theorem dX4_turnRound_15 : decode cX4_turnRound 15 = .ok (.getfield 15, 3) := by decide +kernel
theorem dX4_turnRound_18 : decode cX4_turnRound 18 = .ok (.iload_n 1, 1) := by decide +kernel
theorem dX4_turnRound_19 : decode cX4_turnRound 19 = .ok (.baload, 1) := by decide +kernel
theorem dX4_turnRound_20 : decode cX4_turnRound 20 = .ok (.istore_n 3, 1) := by decide +kernel
theorem dX4_turnRound_21 : decode cX4_turnRound 21 = .ok (.aload_n 0, 1) := by decide +kernel
theorem dX4_turnRound_22 : decode cX4_turnRound 22 = .ok (.getfield 15, 3) := by decide +kernel
theorem dX4_turnRound_25 : decode cX4_turnRound 25 = .ok (.iload_n 1, 1) := by decide +kernel
theorem dX4_turnRound_26 : decode cX4_turnRound 26 = .ok (.aload_n 0, 1) := by decide +kernel
theorem dX4_turnRound_27 : decode cX4_turnRound 27 = .ok (.getfield 15, 3) := by decide +kernel
theorem dX4_turnRound_30 : decode cX4_turnRound 30 = .ok (.iload_n 2, 1) := by decide +kernel
theorem dX4_turnRound_31 : decode cX4_turnRound 31 = .ok (.baload, 1) := by decide +kernel
theorem dX4_turnRound_32 : decode cX4_turnRound 32 = .ok (.bastore, 1) := by decide +kernel
theorem dX4_turnRound_33 : decode cX4_turnRound 33 = .ok (.aload_n 0, 1) := by decide +kernel
theorem dX4_turnRound_34 : decode cX4_turnRound 34 = .ok (.getfield 15, 3) := by decide +kernel
theorem dX4_turnRound_37 : decode cX4_turnRound 37 = .ok (.iload_n 2, 1) := by decide +kernel
theorem dX4_turnRound_38 : decode cX4_turnRound 38 = .ok (.iload_n 3, 1) := by decide +kernel
theorem dX4_turnRound_39 : decode cX4_turnRound 39 = .ok (.bastore, 1) := by decide +kernel
theorem dX4_turnRound_40 : decode cX4_turnRound 40 = .ok (.iinc 1 1, 3) := by decide +kernel
theorem dX4_turnRound_43 : decode cX4_turnRound 43 = .ok (.iinc 2 (-1), 3) := by decide +kernel
theorem dX4_turnRound_46 : decode cX4_turnRound 46 = .ok (.goto (-37), 3) := by decide +kernel
theorem dX4_turnRound_49 : decode cX4_turnRound 49 = .ok (.return_, 1) := by decide +kernel
theorem dX5_init_0 : decode cX5_init 0 = .ok (.aload_n 0, 1) := by decide +kernel
theorem dX5_init_1 : decode cX5_init 1 = .ok (.invokespecial 3, 3) := by decide +kernel
theorem dX5_init_4 : decode cX5_init 4 = .ok (.aload_n 0, 1) := by decide +kernel
theorem dX5_init_5 : decode cX5_init 5 = .ok (.aload_n 2, 1) := by decide +kernel
theorem dX5_init_6 : decode cX5_init 6 = .ok (.putfield 9, 3) := by decide +kernel
theorem dX5_init_9 : decode cX5_init 9 = .ok (.aload_n 0, 1) := by decide +kernel
theorem dX5_init_10 : decode cX5_init 10 = .ok (.new 15, 3) := by decide +kernel
theorem dX5_init_13 : decode cX5_init 13 = .ok (.dup, 1) := by decide +kernel
theorem dX5_init_14 : decode cX5_init 14 = .ok (.iload_n 1, 1) := by decide +kernel
theorem dX5_init_15 : decode cX5_init 15 = .ok (.invokespecial 17, 3) := by decide +kernel
theorem dX5_init_18 : decode cX5_init 18 = .ok (.putfield 20, 3) := by decide +kernel
theorem dX5_init_21 : decode cX5_init 21 = .ok (.aload_n 0, 1) := by decide +kernel
theorem dX5_init_22 : decode cX5_init 22 = .ok (.new 15, 3) := by decide +kernel
theorem dX5_init_25 : decode cX5_init 25 = .ok (.dup, 1) := by decide +kernel
theorem dX5_init_26 : decode cX5_init 26 = .ok (.iload_n 1, 1) := by decide +kernel
theorem dX5_init_27 : decode cX5_init 27 = .ok (.invokespecial 17, 3) := by decide +kernel
theorem dX5_init_30 : decode cX5_init 30 = .ok (.putfield 24, 3) := by decide +kernel
theorem dX5_init_33 : decode cX5_init 33 = .ok (.aload_n 0, 1) := by decide +kernel
theorem dX5_init_34 : decode cX5_init 34 = .ok (.new 15, 3) := by decide +kernel
theorem dX5_init_37 : decode cX5_init 37 = .ok (.dup, 1) := by decide +kernel
theorem dX5_init_38 : decode cX5_init 38 = .ok (.iload_n 1, 1) := by decide +kernel
theorem dX5_init_39 : decode cX5_init 39 = .ok (.invokespecial 17, 3) := by decide +kernel
theorem dX5_init_42 : decode cX5_init 42 = .ok (.putfield 27, 3) := by decide +kernel
theorem dX5_init_45 : decode cX5_init 45 = .ok (.aload_n 0, 1) := by decide +kernel
theorem dX5_init_46 : decode cX5_init 46 = .ok (.new 15, 3) := by decide +kernel
theorem dX5_init_49 : decode cX5_init 49 = .ok (.dup, 1) := by decide +kernel
theorem dX5_init_50 : decode cX5_init 50 = .ok (.iload_n 1, 1) := by decide +kernel
theorem dX5_init_51 : decode cX5_init 51 = .ok (.invokespecial 17, 3) := by decide +kernel
theorem dX5_init_54 : decode cX5_init 54 = .ok (.putfield 30, 3) := by decide +kernel
theorem dX5_init_57 : decode cX5_init 57 = .ok (.aload_n 0, 1) := by decide +kernel
theorem dX5_init_58 : decode cX5_init 58 = .ok (.new 15, 3) := by decide +kernel
theorem dX5_init_61 : decode cX5_init 61 = .ok (.dup, 1) := by decide +kernel
theorem dX5_init_62 : decode cX5_init 62 = .ok (.iload_n 1, 1) := by decide +kernel
theorem dX5_init_63 : decode cX5_init 63 = .ok (.invokespecial 17, 3) := by decide +kernel
theorem dX5_init_66 : decode cX5_init 66 = .ok (.putfield 33, 3) := by decide +kernel
theorem dX5_init_69 : decode cX5_init 69 = .ok (.aload_n 0, 1) := by decide +kernel
theorem dX5_init_70 : decode cX5_init 70 = .ok (.new 15, 3) := by decide +kernel
theorem dX5_init_73 : decode cX5_init 73 = .ok (.dup, 1) := by decide +kernel
theorem dX5_init_74 : decode cX5_init 74 = .ok (.iload_n 1, 1) := by decide +kernel
theorem dX5_init_75 : decode cX5_init 75 = .ok (.invokespecial 17, 3) := by decide +kernel
theorem dX5_init_78 : decode cX5_init 78 = .ok (.putfield 36, 3) := by decide +kernel
theorem dX5_init_81 : decode cX5_init 81 = .ok (.aload_n 0, 1) := by decide +kernel
theorem dX5_init_82 : decode cX5_init 82 = .ok (.new 15, 3) := by decide +kernel
theorem dX5_init_85 : decode cX5_init 85 = .ok (.dup, 1) := by decide +kernel
theorem dX5_init_86 : decode cX5_init 86 = .ok (.iload_n 1, 1) := by decide +kernel
theorem dX5_init_87 : decode cX5_init 87 = .ok (.invokespecial 17, 3) := by decide +kernel
theorem dX5_init_90 : decode cX5_init 90 = .ok (.putfield 39, 3) := by decide +kernel
theorem dX5_init_93 : decode cX5_init 93 = .ok (.return_, 1) := by decide +kernel
theorem dX5_reduce_0 : decode cX5_reduce 0 = .ok (.aload_n 0, 1) := by decide +kernel
theorem dX5_reduce_1 : decode cX5_reduce 1 = .ok (.getfield 9, 3) := by decide +kernel
theorem dX5_reduce_4 : decode cX5_reduce 4 = .ok (.aload_n 0, 1) := by decide +kernel
theorem dX5_reduce_5 : decode cX5_reduce 5 = .ok (.getfield 20, 3) := by decide +kernel
theorem dX5_reduce_8 : decode cX5_reduce 8 = .ok (.aload_n 1, 1) := by decide +kernel
theorem dX5_reduce_9 : decode cX5_reduce 9 = .ok (.aload_n 2, 1) := by decide +kernel
theorem dX5_reduce_10 : decode cX5_reduce 10 = .ok (.aload_n 3, 1) := by decide +kernel
theorem dX5_reduce_11 : decode cX5_reduce 11 = .ok (.invokevirtual 42, 3) := by decide +kernel
theorem dX5_reduce_14 : decode cX5_reduce 14 = .ok (.aload_n 2, 1) := by decide +kernel
theorem dX5_reduce_15 : decode cX5_reduce 15 = .ok (.getfield 48, 3) := by decide +kernel
theorem dX5_reduce_18 : decode cX5_reduce 18 = .ok (.ifCond .eq 16, 3) := by decide +kernel
theorem dX5_reduce_21 : decode cX5_reduce 21 = .ok (.aload_n 1, 1) := by decide +kernel
theorem dX5_reduce_22 : decode cX5_reduce 22 = .ok (.getfield 52, 3) := by decide +kernel
theorem dX5_reduce_25 : decode cX5_reduce 25 = .ok (.ifCond .le 9, 3) := by decide +kernel
theorem dX5_reduce_28 : decode cX5_reduce 28 = .ok (.aload_n 1, 1) := by decide +kernel
theorem dX5_reduce_29 : decode cX5_reduce 29 = .ok (.aload_n 3, 1) := by decide +kernel
theorem dX5_reduce_30 : decode cX5_reduce 30 = .ok (.aload_n 1, 1) := by decide +kernel
theorem dX5_reduce_31 : decode cX5_reduce 31 = .ok (.invokestatic 56, 3) := by decide +kernel
theorem dX5_reduce_34 : decode cX5_reduce 34 = .ok (.return_, 1) := by decide +kernel
theorem dX5_raise_0 : decode cX5_raise 0 = .ok (.aload_n 0, 1) := by decide +kernel
theorem dX5_raise_1 : decode cX5_raise 1 = .ok (.aload_n 0, 1) := by decide +kernel
theorem dX5_raise_2 : decode cX5_raise 2 = .ok (.getfield 27, 3) := by decide +kernel
theorem dX5_raise_5 : decode cX5_raise 5 = .ok (.aload_n 1, 1) := by decide +kernel
theorem dX5_raise_6 : decode cX5_raise 6 = .ok (.aload_n 3, 1) := by decide +kernel
theorem dX5_raise_7 : decode cX5_raise 7 = .ok (.invokevirtual 62, 3) := by decide +kernel
theorem dX5_raise_10 : decode cX5_raise 10 = .ok (.aload_n 0, 1) := by decide +kernel
theorem dX5_raise_11 : decode cX5_raise 11 = .ok (.getfield 24, 3) := by decide +kernel
theorem dX5_raise_14 : decode cX5_raise 14 = .ok (.iconst 1, 1) := by decide +kernel
theorem dX5_raise_15 : decode cX5_raise 15 = .ok (.invokevirtual 65, 3) := by decide +kernel
theorem dX5_raise_18 : decode cX5_raise 18 = .ok (.aload_n 0, 1) := by decide +kernel
theorem dX5_raise_19 : decode cX5_raise 19 = .ok (.aload_n 0, 1) := by decide +kernel
theorem dX5_raise_20 : decode cX5_raise 20 = .ok (.getfield 30, 3) := by decide +kernel
theorem dX5_raise_23 : decode cX5_raise 23 = .ok (.aload_n 0, 1) := by decide +kernel
theorem dX5_raise_24 : decode cX5_raise 24 = .ok (.getfield 24, 3) := by decide +kernel
theorem dX5_raise_27 : decode cX5_raise 27 = .ok (.aload_n 3, 1) := by decide +kernel
theorem dX5_raise_28 : decode cX5_raise 28 = .ok (.invokevirtual 62, 3) := by decide +kernel
theorem dX5_raise_31 : decode cX5_raise 31 = .ok (.aload_n 2, 1) := by decide +kernel
theorem dX5_raise_32 : decode cX5_raise 32 = .ok (.getfield 52, 3) := by decide +kernel
theorem dX5_raise_35 : decode cX5_raise 35 = .ok (.ifCond .le 14, 3) := by decide +kernel
theorem dX5_raise_38 : decode cX5_raise 38 = .ok (.aload_n 0, 1) := by decide +kernel
theorem dX5_raise_39 : decode cX5_raise 39 = .ok (.getfield 30, 3) := by decide +kernel
theorem dX5_raise_42 : decode cX5_raise 42 = .ok (.aload_n 0, 1) := by decide +kernel
theorem dX5_raise_43 : decode cX5_raise 43 = .ok (.getfield 27, 3) := by decide +kernel
theorem dX5_raise_46 : decode cX5_raise 46 = .ok (.invokevirtual 68, 3) := by decide +kernel
theorem dX5_raise_49 : decode cX5_raise 49 = .ok (.aload_n 2, 1) := by decide +kernel
theorem dX5_raise_50 : decode cX5_raise 50 = .ok (.invokevirtual 72, 3) := by decide +kernel
theorem dX5_raise_53 : decode cX5_raise 53 = .ok (.iconst 2, 1) := by decide +kernel
theorem dX5_raise_54 : decode cX5_raise 54 = .ok (.isub, 1) := by decide +kernel
theorem dX5_raise_55 : decode cX5_raise 55 = .ok (.istore 4, 2) := by decide +kernel
theorem dX5_raise_57 : decode cX5_raise 57 = .ok (.iload 4, 2) := by decide +kernel
theorem dX5_raise_59 : decode cX5_raise 59 = .ok (.ifCond .lt 44, 3) := by decide +kernel
theorem dX5_raise_62 : decode cX5_raise 62 = .ok (.aload_n 0, 1) := by decide +kernel
theorem dX5_raise_63 : decode cX5_raise 63 = .ok (.aload_n 0, 1) := by decide +kernel
theorem dX5_raise_64 : decode cX5_raise 64 = .ok (.getfield 30, 3) := by decide +kernel
theorem dX5_raise_67 : decode cX5_raise 67 = .ok (.aload_n 0, 1) := by decide +kernel
theorem dX5_raise_68 : decode cX5_raise 68 = .ok (.getfield 30, 3) := by decide +kernel
theorem dX5_raise_71 : decode cX5_raise 71 = .ok (.aload_n 3, 1) := by decide +kernel
theorem dX5_raise_72 : decode cX5_raise 72 = .ok (.invokevirtual 76, 3) := by decide +kernel
theorem dX5_raise_75 : decode cX5_raise 75 = .ok (.aload_n 2, 1) := by decide +kernel
theorem dX5_raise_76 : decode cX5_raise 76 = .ok (.iload 4, 2) := by decide +kernel
theorem dX5_raise_78 : decode cX5_raise 78 = .ok (.invokevirtual 79, 3) := by decide +kernel
theorem dX5_raise_81 : decode cX5_raise 81 = .ok (.ifCond .eq 16, 3) := by decide +kernel
theorem dX5_raise_84 : decode cX5_raise 84 = .ok (.aload_n 0, 1) := by decide +kernel
theorem dX5_raise_85 : decode cX5_raise 85 = .ok (.aload_n 0, 1) := by decide +kernel
theorem dX5_raise_86 : decode cX5_raise 86 = .ok (.getfield 30, 3) := by decide +kernel
theorem dX5_raise_89 : decode cX5_raise 89 = .ok (.aload_n 0, 1) := by decide +kernel
theorem dX5_raise_90 : decode cX5_raise 90 = .ok (.getfield 27, 3) := by decide +kernel
theorem dX5_raise_93 : decode cX5_raise 93 = .ok (.aload_n 3, 1) := by decide +kernel
theorem dX5_raise_94 : decode cX5_raise 94 = .ok (.invokevirtual 76, 3) := by decide +kernel
theorem dX5_raise_97 : decode cX5_raise 97 = .ok (.iinc 4 (-1), 3) := by decide +kernel
theorem dX5_raise_100 : decode cX5_raise 100 = .ok (.goto (-43), 3) := by decide +kernel
theorem dX5_raise_103 : decode cX5_raise 103 = .ok (.aload_n 0, 1) := by decide +kernel
theorem dX5_raise_104 : decode cX5_raise 104 = .ok (.getfield 30, 3) := by decide +kernel
theorem dX5_raise_107 : decode cX5_raise 107 = .ok (.areturn, 1) := by decide +kernel
theorem dX5_timesInto_0 : decode cX5_timesInto 0 = .ok (.aload_n 0, 1) := by decide +kernel
theorem dX5_timesInto_1 : decode cX5_timesInto 1 = .ok (.getfield 24, 3) := by decide +kernel
theorem dX5_timesInto_4 : decode cX5_timesInto 4 = .ok (.aload_n 1, 1) := by decide +kernel
theorem dX5_timesInto_5 : decode cX5_timesInto 5 = .ok (.aload_n 2, 1) := by decide +kernel
theorem dX5_timesInto_6 : decode cX5_timesInto 6 = .ok (.invokestatic 83, 3) := by decide +kernel
theorem dX5_timesInto_9 : decode cX5_timesInto 9 = .ok (.aload_n 0, 1) := by decide +kernel
theorem dX5_timesInto_10 : decode cX5_timesInto 10 = .ok (.getfield 9, 3) := by decide +kernel
theorem dX5_timesInto_13 : decode cX5_timesInto 13 = .ok (.aload_n 0, 1) := by decide +kernel
theorem dX5_timesInto_14 : decode cX5_timesInto 14 = .ok (.getfield 20, 3) := by decide +kernel
theorem dX5_timesInto_17 : decode cX5_timesInto 17 = .ok (.aload_n 1, 1) := by decide +kernel
theorem dX5_timesInto_18 : decode cX5_timesInto 18 = .ok (.aload_n 0, 1) := by decide +kernel
theorem dX5_timesInto_19 : decode cX5_timesInto 19 = .ok (.getfield 24, 3) := by decide +kernel
theorem dX5_timesInto_22 : decode cX5_timesInto 22 = .ok (.aload_n 3, 1) := by decide +kernel
theorem dX5_timesInto_23 : decode cX5_timesInto 23 = .ok (.invokevirtual 42, 3) := by decide +kernel
theorem dX5_timesInto_26 : decode cX5_timesInto 26 = .ok (.return_, 1) := by decide +kernel
theorem dX5_symbol_0 : decode cX5_symbol 0 = .ok (.aload_n 0, 1) := by decide +kernel
theorem dX5_symbol_1 : decode cX5_symbol 1 = .ok (.aload_n 0, 1) := by decide +kernel
theorem dX5_symbol_2 : decode cX5_symbol 2 = .ok (.getfield 33, 3) := by decide +kernel
theorem dX5_symbol_5 : decode cX5_symbol 5 = .ok (.aload_n 1, 1) := by decide +kernel
theorem dX5_symbol_6 : decode cX5_symbol 6 = .ok (.aload_n 2, 1) := by decide +kernel
theorem dX5_symbol_7 : decode cX5_symbol 7 = .ok (.invokevirtual 62, 3) := by decide +kernel
theorem dX5_symbol_10 : decode cX5_symbol 10 = .ok (.aload_n 0, 1) := by decide +kernel
theorem dX5_symbol_11 : decode cX5_symbol 11 = .ok (.getfield 36, 3) := by decide +kernel
theorem dX5_symbol_14 : decode cX5_symbol 14 = .ok (.aload_n 2, 1) := by decide +kernel
theorem dX5_symbol_15 : decode cX5_symbol 15 = .ok (.invokevirtual 68, 3) := by decide +kernel
theorem dX5_symbol_18 : decode cX5_symbol 18 = .ok (.iconst 1, 1) := by decide +kernel
theorem dX5_symbol_19 : decode cX5_symbol 19 = .ok (.istore_n 3, 1) := by decide +kernel
theorem dX5_symbol_20 : decode cX5_symbol 20 = .ok (.iconst 0, 1) := by decide +kernel
theorem dX5_symbol_21 : decode cX5_symbol 21 = .ok (.istore 4, 2) := by decide +kernel
theorem dX5_symbol_23 : decode cX5_symbol 23 = .ok (.iload 4, 2) := by decide +kernel
theorem dX5_symbol_25 : decode cX5_symbol 25 = .ok (.ldc 85, 2) := by decide +kernel
theorem dX5_symbol_27 : decode cX5_symbol 27 = .ok (.if_icmp .ge 170, 3) := by decide +kernel
theorem dX5_symbol_30 : decode cX5_symbol 30 = .ok (.aload_n 0, 1) := by decide +kernel
theorem dX5_symbol_31 : decode cX5_symbol 31 = .ok (.getfield 33, 3) := by decide +kernel
theorem dX5_symbol_34 : decode cX5_symbol 34 = .ok (.getfield 52, 3) := by decide +kernel
theorem dX5_symbol_37 : decode cX5_symbol 37 = .ok (.ifCond .le 160, 3) := by decide +kernel
theorem dX5_symbol_40 : decode cX5_symbol 40 = .ok (.aload_n 0, 1) := by decide +kernel
theorem dX5_symbol_41 : decode cX5_symbol 41 = .ok (.getfield 33, 3) := by decide +kernel
theorem dX5_symbol_44 : decode cX5_symbol 44 = .ok (.invokevirtual 86, 3) := by decide +kernel
theorem dX5_symbol_47 : decode cX5_symbol 47 = .ok (.istore 5, 2) := by decide +kernel
theorem dX5_symbol_49 : decode cX5_symbol 49 = .ok (.aload_n 0, 1) := by decide +kernel
theorem dX5_symbol_50 : decode cX5_symbol 50 = .ok (.getfield 33, 3) := by decide +kernel
theorem dX5_symbol_53 : decode cX5_symbol 53 = .ok (.aload_n 0, 1) := by decide +kernel
theorem dX5_symbol_54 : decode cX5_symbol 54 = .ok (.getfield 33, 3) := by decide +kernel
theorem dX5_symbol_57 : decode cX5_symbol 57 = .ok (.iload 5, 2) := by decide +kernel
theorem dX5_symbol_59 : decode cX5_symbol 59 = .ok (.invokestatic 89, 3) := by decide +kernel
theorem dX5_symbol_62 : decode cX5_symbol 62 = .ok (.aload_n 0, 1) := by decide +kernel
theorem dX5_symbol_63 : decode cX5_symbol 63 = .ok (.getfield 36, 3) := by decide +kernel
theorem dX5_symbol_66 : decode cX5_symbol 66 = .ok (.iconst 0, 1) := by decide +kernel
theorem dX5_symbol_67 : decode cX5_symbol 67 = .ok (.invokevirtual 93, 3) := by decide +kernel
theorem dX5_symbol_70 : decode cX5_symbol 70 = .ok (.ldc2_w 97, 3) := by decide +kernel
theorem dX5_symbol_73 : decode cX5_symbol 73 = .ok (.land, 1) := by decide +kernel
theorem dX5_symbol_74 : decode cX5_symbol 74 = .ok (.lstore 6, 2) := by decide +kernel
theorem dX5_symbol_76 : decode cX5_symbol 76 = .ok (.iload 5, 2) := by decide +kernel
theorem dX5_symbol_78 : decode cX5_symbol 78 = .ok (.iconst 1, 1) := by decide +kernel
theorem dX5_symbol_79 : decode cX5_symbol 79 = .ok (.iand, 1) := by decide +kernel
theorem dX5_symbol_80 : decode cX5_symbol 80 = .ok (.iconst 1, 1) := by decide +kernel
theorem dX5_symbol_81 : decode cX5_symbol 81 = .ok (.if_icmp .ne 24, 3) := by decide +kernel
theorem dX5_symbol_84 : decode cX5_symbol 84 = .ok (.lload 6, 2) := by decide +kernel
theorem dX5_symbol_86 : decode cX5_symbol 86 = .ok (.ldc2_w 99, 3) := by decide +kernel
theorem dX5_symbol_89 : decode cX5_symbol 89 = .ok (.lcmp, 1) := by decide +kernel
theorem dX5_symbol_90 : decode cX5_symbol 90 = .ok (.ifCond .eq 12, 3) := by decide +kernel
theorem dX5_symbol_93 : decode cX5_symbol 93 = .ok (.lload 6, 2) := by decide +kernel
theorem dX5_symbol_95 : decode cX5_symbol 95 = .ok (.ldc2_w 101, 3) := by decide +kernel
theorem dX5_symbol_98 : decode cX5_symbol 98 = .ok (.lcmp, 1) := by decide +kernel
theorem dX5_symbol_99 : decode cX5_symbol 99 = .ok (.ifCond .ne 6, 3) := by decide +kernel
theorem dX5_symbol_102 : decode cX5_symbol 102 = .ok (.iload_n 3, 1) := by decide +kernel
theorem dX5_symbol_103 : decode cX5_symbol 103 = .ok (.ineg, 1) := by decide +kernel
theorem dX5_symbol_104 : decode cX5_symbol 104 = .ok (.istore_n 3, 1) := by decide +kernel
theorem dX5_symbol_105 : decode cX5_symbol 105 = .ok (.aload_n 0, 1) := by decide +kernel
theorem dX5_symbol_106 : decode cX5_symbol 106 = .ok (.getfield 33, 3) := by decide +kernel
theorem dX5_symbol_109 : decode cX5_symbol 109 = .ok (.iconst 0, 1) := by decide +kernel
theorem dX5_symbol_110 : decode cX5_symbol 110 = .ok (.invokevirtual 93, 3) := by decide +kernel
theorem dX5_symbol_113 : decode cX5_symbol 113 = .ok (.ldc2_w 99, 3) := by decide +kernel
theorem dX5_symbol_116 : decode cX5_symbol 116 = .ok (.land, 1) := by decide +kernel
theorem dX5_symbol_117 : decode cX5_symbol 117 = .ok (.ldc2_w 99, 3) := by decide +kernel
theorem dX5_symbol_120 : decode cX5_symbol 120 = .ok (.lcmp, 1) := by decide +kernel
theorem dX5_symbol_121 : decode cX5_symbol 121 = .ok (.ifCond .ne 19, 3) := by decide +kernel
theorem dX5_symbol_124 : decode cX5_symbol 124 = .ok (.lload 6, 2) := by decide +kernel
theorem dX5_symbol_126 : decode cX5_symbol 126 = .ok (.ldc2_w 99, 3) := by decide +kernel
theorem dX5_symbol_129 : decode cX5_symbol 129 = .ok (.land, 1) := by decide +kernel
theorem dX5_symbol_130 : decode cX5_symbol 130 = .ok (.ldc2_w 99, 3) := by decide +kernel
theorem dX5_symbol_133 : decode cX5_symbol 133 = .ok (.lcmp, 1) := by decide +kernel
theorem dX5_symbol_134 : decode cX5_symbol 134 = .ok (.ifCond .ne 6, 3) := by decide +kernel
theorem dX5_symbol_137 : decode cX5_symbol 137 = .ok (.iload_n 3, 1) := by decide +kernel
theorem dX5_symbol_138 : decode cX5_symbol 138 = .ok (.ineg, 1) := by decide +kernel
theorem dX5_symbol_139 : decode cX5_symbol 139 = .ok (.istore_n 3, 1) := by decide +kernel
theorem dX5_symbol_140 : decode cX5_symbol 140 = .ok (.aload_n 0, 1) := by decide +kernel
theorem dX5_symbol_141 : decode cX5_symbol 141 = .ok (.getfield 9, 3) := by decide +kernel
theorem dX5_symbol_144 : decode cX5_symbol 144 = .ok (.aload_n 0, 1) := by decide +kernel
theorem dX5_symbol_145 : decode cX5_symbol 145 = .ok (.getfield 20, 3) := by decide +kernel
theorem dX5_symbol_148 : decode cX5_symbol 148 = .ok (.aload_n 0, 1) := by decide +kernel
theorem dX5_symbol_149 : decode cX5_symbol 149 = .ok (.getfield 39, 3) := by decide +kernel
theorem dX5_symbol_152 : decode cX5_symbol 152 = .ok (.aload_n 0, 1) := by decide +kernel
theorem dX5_symbol_153 : decode cX5_symbol 153 = .ok (.getfield 36, 3) := by decide +kernel
theorem dX5_symbol_156 : decode cX5_symbol 156 = .ok (.aload_n 0, 1) := by decide +kernel
theorem dX5_symbol_157 : decode cX5_symbol 157 = .ok (.getfield 33, 3) := by decide +kernel
theorem dX5_symbol_160 : decode cX5_symbol 160 = .ok (.invokevirtual 42, 3) := by decide +kernel
theorem dX5_symbol_163 : decode cX5_symbol 163 = .ok (.aload_n 0, 1) := by decide +kernel
theorem dX5_symbol_164 : decode cX5_symbol 164 = .ok (.getfield 36, 3) := by decide +kernel
theorem dX5_symbol_167 : decode cX5_symbol 167 = .ok (.astore 8, 2) := by decide +kernel
theorem dX5_symbol_169 : decode cX5_symbol 169 = .ok (.aload_n 0, 1) := by decide +kernel
theorem dX5_symbol_170 : decode cX5_symbol 170 = .ok (.aload_n 0, 1) := by decide +kernel
theorem dX5_symbol_171 : decode cX5_symbol 171 = .ok (.getfield 33, 3) := by decide +kernel
theorem dX5_symbol_174 : decode cX5_symbol 174 = .ok (.putfield 36, 3) := by decide +kernel
theorem dX5_symbol_177 : decode cX5_symbol 177 = .ok (.aload_n 0, 1) := by decide +kernel
theorem dX5_symbol_178 : decode cX5_symbol 178 = .ok (.aload_n 0, 1) := by decide +kernel
theorem dX5_symbol_179 : decode cX5_symbol 179 = .ok (.getfield 39, 3) := by decide +kernel
theorem dX5_symbol_182 : decode cX5_symbol 182 = .ok (.putfield 33, 3) := by decide +kernel
theorem dX5_symbol_185 : decode cX5_symbol 185 = .ok (.aload_n 0, 1) := by decide +kernel
theorem dX5_symbol_186 : decode cX5_symbol 186 = .ok (.aload 8, 2) := by decide +kernel
theorem dX5_symbol_188 : decode cX5_symbol 188 = .ok (.putfield 39, 3) := by decide +kernel
theorem dX5_symbol_191 : decode cX5_symbol 191 = .ok (.iinc 4 1, 3) := by decide +kernel
theorem dX5_symbol_194 : decode cX5_symbol 194 = .ok (.goto (-171), 3) := by decide +kernel
theorem dX5_symbol_197 : decode cX5_symbol 197 = .ok (.aload_n 0, 1) := by decide +kernel
theorem dX5_symbol_198 : decode cX5_symbol 198 = .ok (.getfield 36, 3) := by decide +kernel
theorem dX5_symbol_201 : decode cX5_symbol 201 = .ok (.invokevirtual 72, 3) := by decide +kernel
theorem dX5_symbol_204 : decode cX5_symbol 204 = .ok (.iconst 1, 1) := by decide +kernel
theorem dX5_symbol_205 : decode cX5_symbol 205 = .ok (.if_icmp .ne 7, 3) := by decide +kernel
theorem dX5_symbol_208 : decode cX5_symbol 208 = .ok (.iload_n 3, 1) := by decide +kernel
theorem dX5_symbol_209 : decode cX5_symbol 209 = .ok (.goto 4, 3) := by decide +kernel
theorem dX5_symbol_212 : decode cX5_symbol 212 = .ok (.iconst 0, 1) := by decide +kernel
theorem dX5_symbol_213 : decode cX5_symbol 213 = .ok (.ireturn, 1) := by decide +kernel
theorem dX6_init_0 : decode cX6_init 0 = .ok (.aload_n 0, 1) := by decide +kernel
theorem dX6_init_1 : decode cX6_init 1 = .ok (.invokespecial 3, 3) := by decide +kernel
theorem dX6_init_4 : decode cX6_init 4 = .ok (.aload_n 0, 1) := by decide +kernel
theorem dX6_init_5 : decode cX6_init 5 = .ok (.aload_n 2, 1) := by decide +kernel
theorem dX6_init_6 : decode cX6_init 6 = .ok (.putfield 9, 3) := by decide +kernel
theorem dX6_init_9 : decode cX6_init 9 = .ok (.aload_n 0, 1) := by decide +kernel
theorem dX6_init_10 : decode cX6_init 10 = .ok (.new 15, 3) := by decide +kernel
theorem dX6_init_13 : decode cX6_init 13 = .ok (.dup, 1) := by decide +kernel
theorem dX6_init_14 : decode cX6_init 14 = .ok (.iload_n 1, 1) := by decide +kernel
theorem dX6_init_15 : decode cX6_init 15 = .ok (.invokespecial 17, 3) := by decide +kernel
theorem dX6_init_18 : decode cX6_init 18 = .ok (.putfield 20, 3) := by decide +kernel
theorem dX6_init_21 : decode cX6_init 21 = .ok (.aload_n 0, 1) := by decide +kernel
theorem dX6_init_22 : decode cX6_init 22 = .ok (.new 15, 3) := by decide +kernel
theorem dX6_init_25 : decode cX6_init 25 = .ok (.dup, 1) := by decide +kernel
end
section
theorem dX6_init_26 : decode cX6_init 26 = .ok (.iload_n 1, 1) := by decide +kernel
theorem dX6_init_27 : decode cX6_init 27 = .ok (.invokespecial 17, 3) := by decide +kernel
theorem dX6_init_30 : decode cX6_init 30 = .ok (.putfield 24, 3) := by decide +kernel
theorem dX6_init_33 : decode cX6_init 33 = .ok (.aload_n 0, 1) := by decide +kernel
theorem dX6_init_34 : decode cX6_init 34 = .ok (.new 15, 3) := by decide +kernel
theorem dX6_init_37 : decode cX6_init 37 = .ok (.dup, 1) := by decide +kernel
theorem dX6_init_38 : decode cX6_init 38 = .ok (.iload_n 1, 1) := by decide +kernel
theorem dX6_init_39 : decode cX6_init 39 = .ok (.invokespecial 17, 3) := by decide +kernel
theorem dX6_init_42 : decode cX6_init 42 = .ok (.putfield 27, 3) := by decide +kernel
theorem dX6_init_45 : decode cX6_init 45 = .ok (.aload_n 0, 1) := by decide +kernel
theorem dX6_init_46 : decode cX6_init 46 = .ok (.new 15, 3) := by decide +kernel
theorem dX6_init_49 : decode cX6_init 49 = .ok (.dup, 1) := by decide +kernel
theorem dX6_init_50 : decode cX6_init 50 = .ok (.iload_n 1, 1) := by decide +kernel
theorem dX6_init_51 : decode cX6_init 51 = .ok (.invokespecial 17, 3) := by decide +kernel
theorem dX6_init_54 : decode cX6_init 54 = .ok (.putfield 30, 3) := by decide +kernel
theorem dX6_init_57 : decode cX6_init 57 = .ok (.aload_n 0, 1) := by decide +kernel
theorem dX6_init_58 : decode cX6_init 58 = .ok (.new 15, 3) := by decide +kernel
theorem dX6_init_61 : decode cX6_init 61 = .ok (.dup, 1) := by decide +kernel
theorem dX6_init_62 : decode cX6_init 62 = .ok (.iload_n 1, 1) := by decide +kernel
theorem dX6_init_63 : decode cX6_init 63 = .ok (.invokespecial 17, 3) := by decide +kernel
theorem dX6_init_66 : decode cX6_init 66 = .ok (.putfield 33, 3) := by decide +kernel
theorem dX6_init_69 : decode cX6_init 69 = .ok (.aload_n 0, 1) := by decide +kernel
theorem dX6_init_70 : decode cX6_init 70 = .ok (.new 15, 3) := by decide +kernel
theorem dX6_init_73 : decode cX6_init 73 = .ok (.dup, 1) := by decide +kernel
theorem dX6_init_74 : decode cX6_init 74 = .ok (.iconst 1, 1) := by decide +kernel
theorem dX6_init_75 : decode cX6_init 75 = .ok (.invokespecial 17, 3) := by decide +kernel
theorem dX6_init_78 : decode cX6_init 78 = .ok (.putfield 36, 3) := by decide +kernel
theorem dX6_init_81 : decode cX6_init 81 = .ok (.aload_n 0, 1) := by decide +kernel
theorem dX6_init_82 : decode cX6_init 82 = .ok (.getfield 36, 3) := by decide +kernel
theorem dX6_init_85 : decode cX6_init 85 = .ok (.iconst 1, 1) := by decide +kernel
theorem dX6_init_86 : decode cX6_init 86 = .ok (.invokevirtual 39, 3) := by decide +kernel
theorem dX6_init_89 : decode cX6_init 89 = .ok (.aload_n 0, 1) := by decide +kernel
theorem dX6_init_90 : decode cX6_init 90 = .ok (.new 15, 3) := by decide +kernel
theorem dX6_init_93 : decode cX6_init 93 = .ok (.dup, 1) := by decide +kernel
theorem dX6_init_94 : decode cX6_init 94 = .ok (.iload_n 1, 1) := by decide +kernel
theorem dX6_init_95 : decode cX6_init 95 = .ok (.invokespecial 17, 3) := by decide +kernel
theorem dX6_init_98 : decode cX6_init 98 = .ok (.putfield 42, 3) := by decide +kernel
theorem dX6_init_101 : decode cX6_init 101 = .ok (.aload_n 0, 1) := by decide +kernel
theorem dX6_init_102 : decode cX6_init 102 = .ok (.new 15, 3) := by decide +kernel
theorem dX6_init_105 : decode cX6_init 105 = .ok (.dup, 1) := by decide +kernel
theorem dX6_init_106 : decode cX6_init 106 = .ok (.iload_n 1, 1) := by decide +kernel
theorem dX6_init_107 : decode cX6_init 107 = .ok (.invokespecial 17, 3) := by decide +kernel
theorem dX6_init_110 : decode cX6_init 110 = .ok (.putfield 45, 3) := by decide +kernel
theorem dX6_init_113 : decode cX6_init 113 = .ok (.return_, 1) := by decide +kernel
theorem dX6_find_0 : decode cX6_find 0 = .ok (.aload_n 0, 1) := by decide +kernel
theorem dX6_find_1 : decode cX6_find 1 = .ok (.getfield 42, 3) := by decide +kernel
theorem dX6_find_4 : decode cX6_find 4 = .ok (.iconst 0, 1) := by decide +kernel
theorem dX6_find_5 : decode cX6_find 5 = .ok (.invokevirtual 39, 3) := by decide +kernel
theorem dX6_find_8 : decode cX6_find 8 = .ok (.aload_n 1, 1) := by decide +kernel
theorem dX6_find_9 : decode cX6_find 9 = .ok (.getfield 48, 3) := by decide +kernel
theorem dX6_find_12 : decode cX6_find 12 = .ok (.ifCond .eq 8, 3) := by decide +kernel
theorem dX6_find_15 : decode cX6_find 15 = .ok (.iload_n 2, 1) := by decide +kernel
theorem dX6_find_16 : decode cX6_find 16 = .ok (.iconst 1, 1) := by decide +kernel
theorem dX6_find_17 : decode cX6_find 17 = .ok (.if_icmp .ge 8, 3) := by decide +kernel
theorem dX6_find_20 : decode cX6_find 20 = .ok (.aload_n 0, 1) := by decide +kernel
theorem dX6_find_21 : decode cX6_find 21 = .ok (.getfield 42, 3) := by decide +kernel
theorem dX6_find_24 : decode cX6_find 24 = .ok (.areturn, 1) := by decide +kernel
theorem dX6_find_25 : decode cX6_find 25 = .ok (.iload_n 2, 1) := by decide +kernel
theorem dX6_find_26 : decode cX6_find 26 = .ok (.iconst 1, 1) := by decide +kernel
theorem dX6_find_27 : decode cX6_find 27 = .ok (.if_icmp .ne 16, 3) := by decide +kernel
theorem dX6_find_30 : decode cX6_find 30 = .ok (.aload_n 0, 1) := by decide +kernel
theorem dX6_find_31 : decode cX6_find 31 = .ok (.getfield 42, 3) := by decide +kernel
theorem dX6_find_34 : decode cX6_find 34 = .ok (.aload_n 1, 1) := by decide +kernel
theorem dX6_find_35 : decode cX6_find 35 = .ok (.invokevirtual 52, 3) := by decide +kernel
theorem dX6_find_38 : decode cX6_find 38 = .ok (.aload_n 0, 1) := by decide +kernel
theorem dX6_find_39 : decode cX6_find 39 = .ok (.getfield 42, 3) := by decide +kernel
theorem dX6_find_42 : decode cX6_find 42 = .ok (.areturn, 1) := by decide +kernel
theorem dX6_find_43 : decode cX6_find 43 = .ok (.aload_n 1, 1) := by decide +kernel
theorem dX6_find_44 : decode cX6_find 44 = .ok (.invokevirtual 56, 3) := by decide +kernel
theorem dX6_find_47 : decode cX6_find 47 = .ok (.iconst 1, 1) := by decide +kernel
theorem dX6_find_48 : decode cX6_find 48 = .ok (.isub, 1) := by decide +kernel
theorem dX6_find_49 : decode cX6_find 49 = .ok (.iload_n 2, 1) := by decide +kernel
theorem dX6_find_50 : decode cX6_find 50 = .ok (.idiv, 1) := by decide +kernel
theorem dX6_find_51 : decode cX6_find 51 = .ok (.istore_n 3, 1) := by decide +kernel
theorem dX6_find_52 : decode cX6_find 52 = .ok (.iconst 0, 1) := by decide +kernel
theorem dX6_find_53 : decode cX6_find 53 = .ok (.iload_n 3, 1) := by decide +kernel
theorem dX6_find_54 : decode cX6_find 54 = .ok (.bipush 8, 2) := by decide +kernel
theorem dX6_find_56 : decode cX6_find 56 = .ok (.isub, 1) := by decide +kernel
theorem dX6_find_57 : decode cX6_find 57 = .ok (.iconst 1, 1) := by decide +kernel
theorem dX6_find_58 : decode cX6_find 58 = .ok (.iadd, 1) := by decide +kernel
theorem dX6_find_59 : decode cX6_find 59 = .ok (.invokestatic 60, 3) := by decide +kernel
theorem dX6_find_62 : decode cX6_find 62 = .ok (.istore 4, 2) := by decide +kernel
theorem dX6_find_64 : decode cX6_find 64 = .ok (.iload_n 3, 1) := by decide +kernel
theorem dX6_find_65 : decode cX6_find 65 = .ok (.istore 5, 2) := by decide +kernel
theorem dX6_find_67 : decode cX6_find 67 = .ok (.iload 5, 2) := by decide +kernel
theorem dX6_find_69 : decode cX6_find 69 = .ok (.iload 4, 2) := by decide +kernel
theorem dX6_find_71 : decode cX6_find 71 = .ok (.if_icmp .lt 39, 3) := by decide +kernel
theorem dX6_find_74 : decode cX6_find 74 = .ok (.aload_n 0, 1) := by decide +kernel
theorem dX6_find_75 : decode cX6_find 75 = .ok (.iload 5, 2) := by decide +kernel
theorem dX6_find_77 : decode cX6_find 77 = .ok (.invokevirtual 66, 3) := by decide +kernel
theorem dX6_find_80 : decode cX6_find 80 = .ok (.aload_n 0, 1) := by decide +kernel
theorem dX6_find_81 : decode cX6_find 81 = .ok (.aload_n 0, 1) := by decide +kernel
theorem dX6_find_82 : decode cX6_find 82 = .ok (.getfield 45, 3) := by decide +kernel
theorem dX6_find_85 : decode cX6_find 85 = .ok (.iload_n 2, 1) := by decide +kernel
theorem dX6_find_86 : decode cX6_find 86 = .ok (.aload_n 1, 1) := by decide +kernel
theorem dX6_find_87 : decode cX6_find 87 = .ok (.invokevirtual 69, 3) := by decide +kernel
theorem dX6_find_90 : decode cX6_find 90 = .ok (.ifCond .eq 14, 3) := by decide +kernel
theorem dX6_find_93 : decode cX6_find 93 = .ok (.aload_n 0, 1) := by decide +kernel
theorem dX6_find_94 : decode cX6_find 94 = .ok (.getfield 42, 3) := by decide +kernel
theorem dX6_find_97 : decode cX6_find 97 = .ok (.aload_n 0, 1) := by decide +kernel
theorem dX6_find_98 : decode cX6_find 98 = .ok (.getfield 45, 3) := by decide +kernel
theorem dX6_find_101 : decode cX6_find 101 = .ok (.invokevirtual 52, 3) := by decide +kernel
theorem dX6_find_104 : decode cX6_find 104 = .ok (.iinc 5 (-1), 3) := by decide +kernel
theorem dX6_find_107 : decode cX6_find 107 = .ok (.goto (-40), 3) := by decide +kernel
theorem dX6_find_110 : decode cX6_find 110 = .ok (.iload 4, 2) := by decide +kernel
theorem dX6_find_112 : decode cX6_find 112 = .ok (.ifCond .le 52, 3) := by decide +kernel
theorem dX6_find_115 : decode cX6_find 115 = .ok (.aload_n 0, 1) := by decide +kernel
theorem dX6_find_116 : decode cX6_find 116 = .ok (.iload 4, 2) := by decide +kernel
theorem dX6_find_118 : decode cX6_find 118 = .ok (.invokevirtual 66, 3) := by decide +kernel
theorem dX6_find_121 : decode cX6_find 121 = .ok (.aload_n 0, 1) := by decide +kernel
theorem dX6_find_122 : decode cX6_find 122 = .ok (.getfield 42, 3) := by decide +kernel
theorem dX6_find_125 : decode cX6_find 125 = .ok (.aload_n 0, 1) := by decide +kernel
theorem dX6_find_126 : decode cX6_find 126 = .ok (.getfield 45, 3) := by decide +kernel
theorem dX6_find_129 : decode cX6_find 129 = .ok (.invokevirtual 52, 3) := by decide +kernel
theorem dX6_find_132 : decode cX6_find 132 = .ok (.iconst 1, 1) := by decide +kernel
theorem dX6_find_133 : decode cX6_find 133 = .ok (.istore 5, 2) := by decide +kernel
theorem dX6_find_135 : decode cX6_find 135 = .ok (.iconst 0, 1) := by decide +kernel
theorem dX6_find_136 : decode cX6_find 136 = .ok (.istore 6, 2) := by decide +kernel
theorem dX6_find_138 : decode cX6_find 138 = .ok (.iload 6, 2) := by decide +kernel
theorem dX6_find_140 : decode cX6_find 140 = .ok (.ldc 73, 2) := by decide +kernel
theorem dX6_find_142 : decode cX6_find 142 = .ok (.if_icmp .ge 22, 3) := by decide +kernel
theorem dX6_find_145 : decode cX6_find 145 = .ok (.iload 5, 2) := by decide +kernel
theorem dX6_find_147 : decode cX6_find 147 = .ok (.ifCond .eq 17, 3) := by decide +kernel
theorem dX6_find_150 : decode cX6_find 150 = .ok (.aload_n 0, 1) := by decide +kernel
theorem dX6_find_151 : decode cX6_find 151 = .ok (.aload_n 1, 1) := by decide +kernel
theorem dX6_find_152 : decode cX6_find 152 = .ok (.iload_n 2, 1) := by decide +kernel
theorem dX6_find_153 : decode cX6_find 153 = .ok (.invokevirtual 74, 3) := by decide +kernel
theorem dX6_find_156 : decode cX6_find 156 = .ok (.istore 5, 2) := by decide +kernel
theorem dX6_find_158 : decode cX6_find 158 = .ok (.iinc 6 1, 3) := by decide +kernel
theorem dX6_find_161 : decode cX6_find 161 = .ok (.goto (-23), 3) := by decide +kernel
theorem dX6_find_164 : decode cX6_find 164 = .ok (.aload_n 0, 1) := by decide +kernel
theorem dX6_find_165 : decode cX6_find 165 = .ok (.getfield 42, 3) := by decide +kernel
theorem dX6_find_168 : decode cX6_find 168 = .ok (.areturn, 1) := by decide +kernel
theorem dX6_guessWithBit_0 : decode cX6_guessWithBit 0 = .ok (.aload_n 0, 1) := by decide +kernel
theorem dX6_guessWithBit_1 : decode cX6_guessWithBit 1 = .ok (.getfield 33, 3) := by decide +kernel
theorem dX6_guessWithBit_4 : decode cX6_guessWithBit 4 = .ok (.aload_n 0, 1) := by decide +kernel
theorem dX6_guessWithBit_5 : decode cX6_guessWithBit 5 = .ok (.getfield 36, 3) := by decide +kernel
theorem dX6_guessWithBit_8 : decode cX6_guessWithBit 8 = .ok (.iload_n 1, 1) := by decide +kernel
theorem dX6_guessWithBit_9 : decode cX6_guessWithBit 9 = .ok (.invokestatic 78, 3) := by decide +kernel
theorem dX6_guessWithBit_12 : decode cX6_guessWithBit 12 = .ok (.aload_n 0, 1) := by decide +kernel
theorem dX6_guessWithBit_13 : decode cX6_guessWithBit 13 = .ok (.getfield 45, 3) := by decide +kernel
theorem dX6_guessWithBit_16 : decode cX6_guessWithBit 16 = .ok (.aload_n 0, 1) := by decide +kernel
theorem dX6_guessWithBit_17 : decode cX6_guessWithBit 17 = .ok (.getfield 42, 3) := by decide +kernel
theorem dX6_guessWithBit_20 : decode cX6_guessWithBit 20 = .ok (.aload_n 0, 1) := by decide +kernel
theorem dX6_guessWithBit_21 : decode cX6_guessWithBit 21 = .ok (.getfield 33, 3) := by decide +kernel
theorem dX6_guessWithBit_24 : decode cX6_guessWithBit 24 = .ok (.invokestatic 84, 3) := by decide +kernel
theorem dX6_guessWithBit_27 : decode cX6_guessWithBit 27 = .ok (.return_, 1) := by decide +kernel
theorem dX6_stepDown_0 : decode cX6_stepDown 0 = .ok (.aload_n 0, 1) := by decide +kernel
theorem dX6_stepDown_1 : decode cX6_stepDown 1 = .ok (.getfield 20, 3) := by decide +kernel
theorem dX6_stepDown_4 : decode cX6_stepDown 4 = .ok (.iconst 0, 1) := by decide +kernel
theorem dX6_stepDown_5 : decode cX6_stepDown 5 = .ok (.invokevirtual 39, 3) := by decide +kernel
theorem dX6_stepDown_8 : decode cX6_stepDown 8 = .ok (.aload_n 0, 1) := by decide +kernel
theorem dX6_stepDown_9 : decode cX6_stepDown 9 = .ok (.aload_n 0, 1) := by decide +kernel
theorem dX6_stepDown_10 : decode cX6_stepDown 10 = .ok (.getfield 42, 3) := by decide +kernel
theorem dX6_stepDown_13 : decode cX6_stepDown 13 = .ok (.iload_n 2, 1) := by decide +kernel
theorem dX6_stepDown_14 : decode cX6_stepDown 14 = .ok (.iconst 1, 1) := by decide +kernel
theorem dX6_stepDown_15 : decode cX6_stepDown 15 = .ok (.isub, 1) := by decide +kernel
theorem dX6_stepDown_16 : decode cX6_stepDown 16 = .ok (.aload_n 1, 1) := by decide +kernel
theorem dX6_stepDown_17 : decode cX6_stepDown 17 = .ok (.invokevirtual 69, 3) := by decide +kernel
theorem dX6_stepDown_20 : decode cX6_stepDown 20 = .ok (.ifCond .eq 23, 3) := by decide +kernel
theorem dX6_stepDown_23 : decode cX6_stepDown 23 = .ok (.aload_n 0, 1) := by decide +kernel
theorem dX6_stepDown_24 : decode cX6_stepDown 24 = .ok (.getfield 9, 3) := by decide +kernel
theorem dX6_stepDown_27 : decode cX6_stepDown 27 = .ok (.aload_n 0, 1) := by decide +kernel
theorem dX6_stepDown_28 : decode cX6_stepDown 28 = .ok (.getfield 20, 3) := by decide +kernel
theorem dX6_stepDown_31 : decode cX6_stepDown 31 = .ok (.aload_n 0, 1) := by decide +kernel
theorem dX6_stepDown_32 : decode cX6_stepDown 32 = .ok (.getfield 24, 3) := by decide +kernel
theorem dX6_stepDown_35 : decode cX6_stepDown 35 = .ok (.aload_n 1, 1) := by decide +kernel
theorem dX6_stepDown_36 : decode cX6_stepDown 36 = .ok (.aload_n 0, 1) := by decide +kernel
theorem dX6_stepDown_37 : decode cX6_stepDown 37 = .ok (.getfield 30, 3) := by decide +kernel
theorem dX6_stepDown_40 : decode cX6_stepDown 40 = .ok (.invokevirtual 88, 3) := by decide +kernel
theorem dX6_stepDown_43 : decode cX6_stepDown 43 = .ok (.aload_n 0, 1) := by decide +kernel
theorem dX6_stepDown_44 : decode cX6_stepDown 44 = .ok (.getfield 33, 3) := by decide +kernel
theorem dX6_stepDown_47 : decode cX6_stepDown 47 = .ok (.iload_n 2, 1) := by decide +kernel
theorem dX6_stepDown_48 : decode cX6_stepDown 48 = .ok (.iconst 1, 1) := by decide +kernel
theorem dX6_stepDown_49 : decode cX6_stepDown 49 = .ok (.isub, 1) := by decide +kernel
theorem dX6_stepDown_50 : decode cX6_stepDown 50 = .ok (.invokevirtual 39, 3) := by decide +kernel
theorem dX6_stepDown_53 : decode cX6_stepDown 53 = .ok (.aload_n 0, 1) := by decide +kernel
theorem dX6_stepDown_54 : decode cX6_stepDown 54 = .ok (.getfield 27, 3) := by decide +kernel
theorem dX6_stepDown_57 : decode cX6_stepDown 57 = .ok (.aload_n 0, 1) := by decide +kernel
theorem dX6_stepDown_58 : decode cX6_stepDown 58 = .ok (.getfield 42, 3) := by decide +kernel
theorem dX6_stepDown_61 : decode cX6_stepDown 61 = .ok (.aload_n 0, 1) := by decide +kernel
theorem dX6_stepDown_62 : decode cX6_stepDown 62 = .ok (.getfield 33, 3) := by decide +kernel
theorem dX6_stepDown_65 : decode cX6_stepDown 65 = .ok (.invokestatic 94, 3) := by decide +kernel
theorem dX6_stepDown_68 : decode cX6_stepDown 68 = .ok (.aload_n 0, 1) := by decide +kernel
theorem dX6_stepDown_69 : decode cX6_stepDown 69 = .ok (.getfield 27, 3) := by decide +kernel
theorem dX6_stepDown_72 : decode cX6_stepDown 72 = .ok (.aload_n 0, 1) := by decide +kernel
theorem dX6_stepDown_73 : decode cX6_stepDown 73 = .ok (.getfield 27, 3) := by decide +kernel
theorem dX6_stepDown_76 : decode cX6_stepDown 76 = .ok (.aload_n 0, 1) := by decide +kernel
theorem dX6_stepDown_77 : decode cX6_stepDown 77 = .ok (.getfield 20, 3) := by decide +kernel
theorem dX6_stepDown_80 : decode cX6_stepDown 80 = .ok (.invokestatic 84, 3) := by decide +kernel
theorem dX6_stepDown_83 : decode cX6_stepDown 83 = .ok (.aload_n 0, 1) := by decide +kernel
theorem dX6_stepDown_84 : decode cX6_stepDown 84 = .ok (.getfield 33, 3) := by decide +kernel
theorem dX6_stepDown_87 : decode cX6_stepDown 87 = .ok (.iload_n 2, 1) := by decide +kernel
theorem dX6_stepDown_88 : decode cX6_stepDown 88 = .ok (.invokevirtual 39, 3) := by decide +kernel
theorem dX6_stepDown_91 : decode cX6_stepDown 91 = .ok (.aload_n 0, 1) := by decide +kernel
theorem dX6_stepDown_92 : decode cX6_stepDown 92 = .ok (.getfield 9, 3) := by decide +kernel
theorem dX6_stepDown_95 : decode cX6_stepDown 95 = .ok (.aload_n 0, 1) := by decide +kernel
theorem dX6_stepDown_96 : decode cX6_stepDown 96 = .ok (.getfield 45, 3) := by decide +kernel
theorem dX6_stepDown_99 : decode cX6_stepDown 99 = .ok (.aload_n 0, 1) := by decide +kernel
theorem dX6_stepDown_100 : decode cX6_stepDown 100 = .ok (.getfield 24, 3) := by decide +kernel
theorem dX6_stepDown_103 : decode cX6_stepDown 103 = .ok (.aload_n 0, 1) := by decide +kernel
theorem dX6_stepDown_104 : decode cX6_stepDown 104 = .ok (.getfield 27, 3) := by decide +kernel
theorem dX6_stepDown_107 : decode cX6_stepDown 107 = .ok (.aload_n 0, 1) := by decide +kernel
theorem dX6_stepDown_108 : decode cX6_stepDown 108 = .ok (.getfield 33, 3) := by decide +kernel
theorem dX6_stepDown_111 : decode cX6_stepDown 111 = .ok (.invokevirtual 88, 3) := by decide +kernel
theorem dX6_stepDown_114 : decode cX6_stepDown 114 = .ok (.aload_n 0, 1) := by decide +kernel
theorem dX6_stepDown_115 : decode cX6_stepDown 115 = .ok (.getfield 45, 3) := by decide +kernel
theorem dX6_stepDown_118 : decode cX6_stepDown 118 = .ok (.aload_n 0, 1) := by decide +kernel
theorem dX6_stepDown_119 : decode cX6_stepDown 119 = .ok (.getfield 42, 3) := by decide +kernel
theorem dX6_stepDown_122 : decode cX6_stepDown 122 = .ok (.invokestatic 96, 3) := by decide +kernel
theorem dX6_stepDown_125 : decode cX6_stepDown 125 = .ok (.ifCond .lt 5, 3) := by decide +kernel
theorem dX6_stepDown_128 : decode cX6_stepDown 128 = .ok (.iconst 0, 1) := by decide +kernel
theorem dX6_stepDown_129 : decode cX6_stepDown 129 = .ok (.ireturn, 1) := by decide +kernel
theorem dX6_stepDown_130 : decode cX6_stepDown 130 = .ok (.aload_n 0, 1) := by decide +kernel
theorem dX6_stepDown_131 : decode cX6_stepDown 131 = .ok (.getfield 42, 3) := by decide +kernel
theorem dX6_stepDown_134 : decode cX6_stepDown 134 = .ok (.astore_n 3, 1) := by decide +kernel
theorem dX6_stepDown_135 : decode cX6_stepDown 135 = .ok (.aload_n 0, 1) := by decide +kernel
theorem dX6_stepDown_136 : decode cX6_stepDown 136 = .ok (.aload_n 0, 1) := by decide +kernel
theorem dX6_stepDown_137 : decode cX6_stepDown 137 = .ok (.getfield 45, 3) := by decide +kernel
theorem dX6_stepDown_140 : decode cX6_stepDown 140 = .ok (.putfield 42, 3) := by decide +kernel
theorem dX6_stepDown_143 : decode cX6_stepDown 143 = .ok (.aload_n 0, 1) := by decide +kernel
theorem dX6_stepDown_144 : decode cX6_stepDown 144 = .ok (.aload_n 3, 1) := by decide +kernel
theorem dX6_stepDown_145 : decode cX6_stepDown 145 = .ok (.putfield 45, 3) := by decide +kernel
theorem dX6_stepDown_148 : decode cX6_stepDown 148 = .ok (.iconst 1, 1) := by decide +kernel
theorem dX6_stepDown_149 : decode cX6_stepDown 149 = .ok (.ireturn, 1) := by decide +kernel
theorem dX6_raiseUpTo_0 : decode cX6_raiseUpTo 0 = .ok (.aload_n 0, 1) := by decide +kernel
theorem dX6_raiseUpTo_1 : decode cX6_raiseUpTo 1 = .ok (.getfield 30, 3) := by decide +kernel
theorem dX6_raiseUpTo_4 : decode cX6_raiseUpTo 4 = .ok (.iconst 1, 1) := by decide +kernel
theorem dX6_raiseUpTo_5 : decode cX6_raiseUpTo 5 = .ok (.invokevirtual 39, 3) := by decide +kernel
theorem dX6_raiseUpTo_8 : decode cX6_raiseUpTo 8 = .ok (.bipush 31, 2) := by decide +kernel
theorem dX6_raiseUpTo_10 : decode cX6_raiseUpTo 10 = .ok (.iload_n 2, 1) := by decide +kernel
theorem dX6_raiseUpTo_11 : decode cX6_raiseUpTo 11 = .ok (.invokestatic 100, 3) := by decide +kernel
theorem dX6_raiseUpTo_14 : decode cX6_raiseUpTo 14 = .ok (.isub, 1) := by decide +kernel
theorem dX6_raiseUpTo_15 : decode cX6_raiseUpTo 15 = .ok (.istore 4, 2) := by decide +kernel
theorem dX6_raiseUpTo_17 : decode cX6_raiseUpTo 17 = .ok (.iload 4, 2) := by decide +kernel
theorem dX6_raiseUpTo_19 : decode cX6_raiseUpTo 19 = .ok (.ifCond .lt 92, 3) := by decide +kernel
theorem dX6_raiseUpTo_22 : decode cX6_raiseUpTo 22 = .ok (.aload_n 0, 1) := by decide +kernel
theorem dX6_raiseUpTo_23 : decode cX6_raiseUpTo 23 = .ok (.getfield 27, 3) := by decide +kernel
theorem dX6_raiseUpTo_26 : decode cX6_raiseUpTo 26 = .ok (.aload_n 0, 1) := by decide +kernel
theorem dX6_raiseUpTo_27 : decode cX6_raiseUpTo 27 = .ok (.getfield 30, 3) := by decide +kernel
theorem dX6_raiseUpTo_30 : decode cX6_raiseUpTo 30 = .ok (.aload_n 0, 1) := by decide +kernel
theorem dX6_raiseUpTo_31 : decode cX6_raiseUpTo 31 = .ok (.getfield 30, 3) := by decide +kernel
theorem dX6_raiseUpTo_34 : decode cX6_raiseUpTo 34 = .ok (.invokestatic 94, 3) := by decide +kernel
theorem dX6_raiseUpTo_37 : decode cX6_raiseUpTo 37 = .ok (.aload_n 0, 1) := by decide +kernel
theorem dX6_raiseUpTo_38 : decode cX6_raiseUpTo 38 = .ok (.getfield 30, 3) := by decide +kernel
theorem dX6_raiseUpTo_41 : decode cX6_raiseUpTo 41 = .ok (.aload_n 0, 1) := by decide +kernel
theorem dX6_raiseUpTo_42 : decode cX6_raiseUpTo 42 = .ok (.getfield 27, 3) := by decide +kernel
theorem dX6_raiseUpTo_45 : decode cX6_raiseUpTo 45 = .ok (.invokevirtual 52, 3) := by decide +kernel
theorem dX6_raiseUpTo_48 : decode cX6_raiseUpTo 48 = .ok (.iload_n 2, 1) := by decide +kernel
theorem dX6_raiseUpTo_49 : decode cX6_raiseUpTo 49 = .ok (.iload 4, 2) := by decide +kernel
theorem dX6_raiseUpTo_51 : decode cX6_raiseUpTo 51 = .ok (.iushr, 1) := by decide +kernel
theorem dX6_raiseUpTo_52 : decode cX6_raiseUpTo 52 = .ok (.iconst 1, 1) := by decide +kernel
theorem dX6_raiseUpTo_53 : decode cX6_raiseUpTo 53 = .ok (.iand, 1) := by decide +kernel
theorem dX6_raiseUpTo_54 : decode cX6_raiseUpTo 54 = .ok (.iconst 1, 1) := by decide +kernel
theorem dX6_raiseUpTo_55 : decode cX6_raiseUpTo 55 = .ok (.if_icmp .ne 37, 3) := by decide +kernel
theorem dX6_raiseUpTo_58 : decode cX6_raiseUpTo 58 = .ok (.aload_n 0, 1) := by decide +kernel
theorem dX6_raiseUpTo_59 : decode cX6_raiseUpTo 59 = .ok (.getfield 30, 3) := by decide +kernel
theorem dX6_raiseUpTo_62 : decode cX6_raiseUpTo 62 = .ok (.aload_n 3, 1) := by decide +kernel
theorem dX6_raiseUpTo_63 : decode cX6_raiseUpTo 63 = .ok (.invokestatic 96, 3) := by decide +kernel
theorem dX6_raiseUpTo_66 : decode cX6_raiseUpTo 66 = .ok (.ifCond .gt 26, 3) := by decide +kernel
theorem dX6_raiseUpTo_69 : decode cX6_raiseUpTo 69 = .ok (.aload_n 0, 1) := by decide +kernel
theorem dX6_raiseUpTo_70 : decode cX6_raiseUpTo 70 = .ok (.getfield 27, 3) := by decide +kernel
theorem dX6_raiseUpTo_73 : decode cX6_raiseUpTo 73 = .ok (.aload_n 0, 1) := by decide +kernel
theorem dX6_raiseUpTo_74 : decode cX6_raiseUpTo 74 = .ok (.getfield 30, 3) := by decide +kernel
theorem dX6_raiseUpTo_77 : decode cX6_raiseUpTo 77 = .ok (.aload_n 1, 1) := by decide +kernel
theorem dX6_raiseUpTo_78 : decode cX6_raiseUpTo 78 = .ok (.invokestatic 94, 3) := by decide +kernel
theorem dX6_raiseUpTo_81 : decode cX6_raiseUpTo 81 = .ok (.aload_n 0, 1) := by decide +kernel
theorem dX6_raiseUpTo_82 : decode cX6_raiseUpTo 82 = .ok (.getfield 30, 3) := by decide +kernel
theorem dX6_raiseUpTo_85 : decode cX6_raiseUpTo 85 = .ok (.aload_n 0, 1) := by decide +kernel
theorem dX6_raiseUpTo_86 : decode cX6_raiseUpTo 86 = .ok (.getfield 27, 3) := by decide +kernel
theorem dX6_raiseUpTo_89 : decode cX6_raiseUpTo 89 = .ok (.invokevirtual 52, 3) := by decide +kernel
theorem dX6_raiseUpTo_92 : decode cX6_raiseUpTo 92 = .ok (.aload_n 0, 1) := by decide +kernel
theorem dX6_raiseUpTo_93 : decode cX6_raiseUpTo 93 = .ok (.getfield 30, 3) := by decide +kernel
theorem dX6_raiseUpTo_96 : decode cX6_raiseUpTo 96 = .ok (.aload_n 3, 1) := by decide +kernel
theorem dX6_raiseUpTo_97 : decode cX6_raiseUpTo 97 = .ok (.invokestatic 96, 3) := by decide +kernel
theorem dX6_raiseUpTo_100 : decode cX6_raiseUpTo 100 = .ok (.ifCond .le 5, 3) := by decide +kernel
theorem dX6_raiseUpTo_103 : decode cX6_raiseUpTo 103 = .ok (.iconst 0, 1) := by decide +kernel
theorem dX6_raiseUpTo_104 : decode cX6_raiseUpTo 104 = .ok (.ireturn, 1) := by decide +kernel
theorem dX6_raiseUpTo_105 : decode cX6_raiseUpTo 105 = .ok (.iinc 4 (-1), 3) := by decide +kernel
theorem dX6_raiseUpTo_108 : decode cX6_raiseUpTo 108 = .ok (.goto (-91), 3) := by decide +kernel
theorem dX6_raiseUpTo_111 : decode cX6_raiseUpTo 111 = .ok (.iconst 1, 1) := by decide +kernel
theorem dX6_raiseUpTo_112 : decode cX6_raiseUpTo 112 = .ok (.ireturn, 1) := by decide +kernel
theorem dX8_init_0 : decode cX8_init 0 = .ok (.aload_n 0, 1) := by decide +kernel
theorem dX8_init_1 : decode cX8_init 1 = .ok (.invokespecial 3, 3) := by decide +kernel
theorem dX8_init_4 : decode cX8_init 4 = .ok (.aload_n 0, 1) := by decide +kernel
theorem dX8_init_5 : decode cX8_init 5 = .ok (.sipush 1000, 3) := by decide +kernel
theorem dX8_init_8 : decode cX8_init 8 = .ok (.newarray .byte, 2) := by decide +kernel
theorem dX8_init_10 : decode cX8_init 10 = .ok (.putfield 9, 3) := by decide +kernel
theorem dX8_init_13 : decode cX8_init 13 = .ok (.return_, 1) := by decide +kernel
theorem dX8_append_0 : decode cX8_append 0 = .ok (.bipush 24, 2) := by decide +kernel
theorem dX8_append_2 : decode cX8_append 2 = .ok (.istore_n 2, 1) := by decide +kernel
theorem dX8_append_3 : decode cX8_append 3 = .ok (.iload_n 2, 1) := by decide +kernel
theorem dX8_append_4 : decode cX8_append 4 = .ok (.ifCond .lt 44, 3) := by decide +kernel
theorem dX8_append_7 : decode cX8_append 7 = .ok (.aload_n 0, 1) := by decide +kernel
theorem dX8_append_8 : decode cX8_append 8 = .ok (.getfield 15, 3) := by decide +kernel
theorem dX8_append_11 : decode cX8_append 11 = .ok (.aload_n 0, 1) := by decide +kernel
theorem dX8_append_12 : decode cX8_append 12 = .ok (.getfield 9, 3) := by decide +kernel
theorem dX8_append_15 : decode cX8_append 15 = .ok (.arraylength, 1) := by decide +kernel
theorem dX8_append_16 : decode cX8_append 16 = .ok (.if_icmp .ge 32, 3) := by decide +kernel
theorem dX8_append_19 : decode cX8_append 19 = .ok (.aload_n 0, 1) := by decide +kernel
theorem dX8_append_20 : decode cX8_append 20 = .ok (.getfield 9, 3) := by decide +kernel
theorem dX8_append_23 : decode cX8_append 23 = .ok (.aload_n 0, 1) := by decide +kernel
theorem dX8_append_24 : decode cX8_append 24 = .ok (.getfield 15, 3) := by decide +kernel
theorem dX8_append_27 : decode cX8_append 27 = .ok (.iload_n 1, 1) := by decide +kernel
theorem dX8_append_28 : decode cX8_append 28 = .ok (.iload_n 2, 1) := by decide +kernel
theorem dX8_append_29 : decode cX8_append 29 = .ok (.iushr, 1) := by decide +kernel
theorem dX8_append_30 : decode cX8_append 30 = .ok (.i2b, 1) := by decide +kernel
theorem dX8_append_31 : decode cX8_append 31 = .ok (.bastore, 1) := by decide +kernel
theorem dX8_append_32 : decode cX8_append 32 = .ok (.aload_n 0, 1) := by decide +kernel
theorem dX8_append_33 : decode cX8_append 33 = .ok (.dup, 1) := by decide +kernel
theorem dX8_append_34 : decode cX8_append 34 = .ok (.getfield 15, 3) := by decide +kernel
theorem dX8_append_37 : decode cX8_append 37 = .ok (.iconst 1, 1) := by decide +kernel
theorem dX8_append_38 : decode cX8_append 38 = .ok (.iadd, 1) := by decide +kernel
theorem dX8_append_39 : decode cX8_append 39 = .ok (.putfield 15, 3) := by decide +kernel
theorem dX8_append_42 : decode cX8_append 42 = .ok (.iinc 2 (-8), 3) := by decide +kernel
theorem dX8_append_45 : decode cX8_append 45 = .ok (.goto (-42), 3) := by decide +kernel
theorem dX8_append_48 : decode cX8_append 48 = .ok (.return_, 1) := by decide +kernel
theorem dX8_isDecimal_0 : decode cX8_isDecimal 0 = .ok (.aload_n 0, 1) := by decide +kernel
theorem dX8_isDecimal_1 : decode cX8_isDecimal 1 = .ok (.invokevirtual 19, 3) := by decide +kernel
theorem dX8_isDecimal_4 : decode cX8_isDecimal 4 = .ok (.istore_n 1, 1) := by decide +kernel
theorem dX8_isDecimal_5 : decode cX8_isDecimal 5 = .ok (.iload_n 1, 1) := by decide +kernel
theorem dX8_isDecimal_6 : decode cX8_isDecimal 6 = .ok (.istore_n 2, 1) := by decide +kernel
theorem dX8_isDecimal_7 : decode cX8_isDecimal 7 = .ok (.iload_n 2, 1) := by decide +kernel
theorem dX8_isDecimal_8 : decode cX8_isDecimal 8 = .ok (.aload_n 0, 1) := by decide +kernel
theorem dX8_isDecimal_9 : decode cX8_isDecimal 9 = .ok (.getfield 15, 3) := by decide +kernel
theorem dX8_isDecimal_12 : decode cX8_isDecimal 12 = .ok (.if_icmp .ge 33, 3) := by decide +kernel
theorem dX8_isDecimal_15 : decode cX8_isDecimal 15 = .ok (.aload_n 0, 1) := by decide +kernel
theorem dX8_isDecimal_16 : decode cX8_isDecimal 16 = .ok (.getfield 9, 3) := by decide +kernel
theorem dX8_isDecimal_19 : decode cX8_isDecimal 19 = .ok (.iload_n 2, 1) := by decide +kernel
theorem dX8_isDecimal_20 : decode cX8_isDecimal 20 = .ok (.baload, 1) := by decide +kernel
theorem dX8_isDecimal_21 : decode cX8_isDecimal 21 = .ok (.bipush 48, 2) := by decide +kernel
theorem dX8_isDecimal_23 : decode cX8_isDecimal 23 = .ok (.if_icmp .lt 14, 3) := by decide +kernel
theorem dX8_isDecimal_26 : decode cX8_isDecimal 26 = .ok (.aload_n 0, 1) := by decide +kernel
theorem dX8_isDecimal_27 : decode cX8_isDecimal 27 = .ok (.getfield 9, 3) := by decide +kernel
theorem dX8_isDecimal_30 : decode cX8_isDecimal 30 = .ok (.iload_n 2, 1) := by decide +kernel
theorem dX8_isDecimal_31 : decode cX8_isDecimal 31 = .ok (.baload, 1) := by decide +kernel
theorem dX8_isDecimal_32 : decode cX8_isDecimal 32 = .ok (.bipush 57, 2) := by decide +kernel
theorem dX8_isDecimal_34 : decode cX8_isDecimal 34 = .ok (.if_icmp .le 5, 3) := by decide +kernel
theorem dX8_isDecimal_37 : decode cX8_isDecimal 37 = .ok (.iconst 0, 1) := by decide +kernel
theorem dX8_isDecimal_38 : decode cX8_isDecimal 38 = .ok (.ireturn, 1) := by decide +kernel
theorem dX8_isDecimal_39 : decode cX8_isDecimal 39 = .ok (.iinc 2 1, 3) := by decide +kernel
theorem dX8_isDecimal_42 : decode cX8_isDecimal 42 = .ok (.goto (-35), 3) := by decide +kernel
theorem dX8_isDecimal_45 : decode cX8_isDecimal 45 = .ok (.iload_n 1, 1) := by decide +kernel
theorem dX8_isDecimal_46 : decode cX8_isDecimal 46 = .ok (.aload_n 0, 1) := by decide +kernel
theorem dX8_isDecimal_47 : decode cX8_isDecimal 47 = .ok (.getfield 15, 3) := by decide +kernel
theorem dX8_isDecimal_50 : decode cX8_isDecimal 50 = .ok (.if_icmp .ge 7, 3) := by decide +kernel
theorem dX8_isDecimal_53 : decode cX8_isDecimal 53 = .ok (.iconst 1, 1) := by decide +kernel
theorem dX8_isDecimal_54 : decode cX8_isDecimal 54 = .ok (.goto 4, 3) := by decide +kernel
theorem dX8_isDecimal_57 : decode cX8_isDecimal 57 = .ok (.iconst 0, 1) := by decide +kernel
theorem dX8_isDecimal_58 : decode cX8_isDecimal 58 = .ok (.ireturn, 1) := by decide +kernel
theorem dX8_hasMinus_0 : decode cX8_hasMinus 0 = .ok (.aload_n 0, 1) := by decide +kernel
theorem dX8_hasMinus_1 : decode cX8_hasMinus 1 = .ok (.getfield 15, 3) := by decide +kernel
theorem dX8_hasMinus_4 : decode cX8_hasMinus 4 = .ok (.ifCond .le 18, 3) := by decide +kernel
theorem dX8_hasMinus_7 : decode cX8_hasMinus 7 = .ok (.aload_n 0, 1) := by decide +kernel
theorem dX8_hasMinus_8 : decode cX8_hasMinus 8 = .ok (.getfield 9, 3) := by decide +kernel
theorem dX8_hasMinus_11 : decode cX8_hasMinus 11 = .ok (.iconst 0, 1) := by decide +kernel
theorem dX8_hasMinus_12 : decode cX8_hasMinus 12 = .ok (.baload, 1) := by decide +kernel
theorem dX8_hasMinus_13 : decode cX8_hasMinus 13 = .ok (.bipush 45, 2) := by decide +kernel
theorem dX8_hasMinus_15 : decode cX8_hasMinus 15 = .ok (.if_icmp .ne 7, 3) := by decide +kernel
theorem dX8_hasMinus_18 : decode cX8_hasMinus 18 = .ok (.iconst 1, 1) := by decide +kernel
theorem dX8_hasMinus_19 : decode cX8_hasMinus 19 = .ok (.goto 4, 3) := by decide +kernel
theorem dX8_hasMinus_22 : decode cX8_hasMinus 22 = .ok (.iconst 0, 1) := by decide +kernel
theorem dX8_hasMinus_23 : decode cX8_hasMinus 23 = .ok (.ireturn, 1) := by decide +kernel
theorem dX8_firstDigit_0 : decode cX8_firstDigit 0 = .ok (.aload_n 0, 1) := by decide +kernel
theorem dX8_firstDigit_1 : decode cX8_firstDigit 1 = .ok (.invokevirtual 23, 3) := by decide +kernel
theorem dX8_firstDigit_4 : decode cX8_firstDigit 4 = .ok (.ifCond .eq 7, 3) := by decide +kernel
theorem dX8_firstDigit_7 : decode cX8_firstDigit 7 = .ok (.iconst 1, 1) := by decide +kernel
theorem dX8_firstDigit_8 : decode cX8_firstDigit 8 = .ok (.goto 4, 3) := by decide +kernel
theorem dX8_firstDigit_11 : decode cX8_firstDigit 11 = .ok (.iconst 0, 1) := by decide +kernel
theorem dX8_firstDigit_12 : decode cX8_firstDigit 12 = .ok (.ireturn, 1) := by decide +kernel
theorem dX8_parse_0 : decode cX8_parse 0 = .ok (.aload_n 1, 1) := by decide +kernel
theorem dX8_parse_1 : decode cX8_parse 1 = .ok (.iconst 0, 1) := by decide +kernel
theorem dX8_parse_2 : decode cX8_parse 2 = .ok (.invokevirtual 27, 3) := by decide +kernel
theorem dX8_parse_5 : decode cX8_parse 5 = .ok (.iconst 0, 1) := by decide +kernel
theorem dX8_parse_6 : decode cX8_parse 6 = .ok (.istore_n 3, 1) := by decide +kernel
theorem dX8_parse_7 : decode cX8_parse 7 = .ok (.iconst 1, 1) := by decide +kernel
theorem dX8_parse_8 : decode cX8_parse 8 = .ok (.istore 4, 2) := by decide +kernel
theorem dX8_parse_10 : decode cX8_parse 10 = .ok (.aload_n 0, 1) := by decide +kernel
theorem dX8_parse_11 : decode cX8_parse 11 = .ok (.invokevirtual 19, 3) := by decide +kernel
theorem dX8_parse_14 : decode cX8_parse 14 = .ok (.istore 5, 2) := by decide +kernel
theorem dX8_parse_16 : decode cX8_parse 16 = .ok (.iload 5, 2) := by decide +kernel
theorem dX8_parse_18 : decode cX8_parse 18 = .ok (.aload_n 0, 1) := by decide +kernel
theorem dX8_parse_19 : decode cX8_parse 19 = .ok (.getfield 15, 3) := by decide +kernel
theorem dX8_parse_22 : decode cX8_parse 22 = .ok (.if_icmp .ge 72, 3) := by decide +kernel
theorem dX8_parse_25 : decode cX8_parse 25 = .ok (.bipush 10, 2) := by decide +kernel
theorem dX8_parse_27 : decode cX8_parse 27 = .ok (.iload_n 3, 1) := by decide +kernel
theorem dX8_parse_28 : decode cX8_parse 28 = .ok (.imul, 1) := by decide +kernel
theorem dX8_parse_29 : decode cX8_parse 29 = .ok (.aload_n 0, 1) := by decide +kernel
theorem dX8_parse_30 : decode cX8_parse 30 = .ok (.getfield 9, 3) := by decide +kernel
theorem dX8_parse_33 : decode cX8_parse 33 = .ok (.iload 5, 2) := by decide +kernel
theorem dX8_parse_35 : decode cX8_parse 35 = .ok (.baload, 1) := by decide +kernel
theorem dX8_parse_36 : decode cX8_parse 36 = .ok (.iadd, 1) := by decide +kernel
theorem dX8_parse_37 : decode cX8_parse 37 = .ok (.bipush 48, 2) := by decide +kernel
theorem dX8_parse_39 : decode cX8_parse 39 = .ok (.isub, 1) := by decide +kernel
theorem dX8_parse_40 : decode cX8_parse 40 = .ok (.istore_n 3, 1) := by decide +kernel
theorem dX8_parse_41 : decode cX8_parse 41 = .ok (.bipush 10, 2) := by decide +kernel
theorem dX8_parse_43 : decode cX8_parse 43 = .ok (.iload 4, 2) := by decide +kernel
theorem dX8_parse_45 : decode cX8_parse 45 = .ok (.imul, 1) := by decide +kernel
theorem dX8_parse_46 : decode cX8_parse 46 = .ok (.istore 4, 2) := by decide +kernel
theorem dX8_parse_48 : decode cX8_parse 48 = .ok (.iload 4, 2) := by decide +kernel
theorem dX8_parse_50 : decode cX8_parse 50 = .ok (.ldc 33, 2) := by decide +kernel
theorem dX8_parse_52 : decode cX8_parse 52 = .ok (.if_icmp .eq 14, 3) := by decide +kernel
theorem dX8_parse_55 : decode cX8_parse 55 = .ok (.iload 5, 2) := by decide +kernel
theorem dX8_parse_57 : decode cX8_parse 57 = .ok (.aload_n 0, 1) := by decide +kernel
theorem dX8_parse_58 : decode cX8_parse 58 = .ok (.getfield 15, 3) := by decide +kernel
theorem dX8_parse_61 : decode cX8_parse 61 = .ok (.iconst 1, 1) := by decide +kernel
theorem dX8_parse_62 : decode cX8_parse 62 = .ok (.isub, 1) := by decide +kernel
theorem dX8_parse_63 : decode cX8_parse 63 = .ok (.if_icmp .ne 15, 3) := by decide +kernel
theorem dX8_parse_66 : decode cX8_parse 66 = .ok (.aload_n 1, 1) := by decide +kernel
theorem dX8_parse_67 : decode cX8_parse 67 = .ok (.iload 4, 2) := by decide +kernel
theorem dX8_parse_69 : decode cX8_parse 69 = .ok (.iload_n 3, 1) := by decide +kernel
theorem dX8_parse_70 : decode cX8_parse 70 = .ok (.invokestatic 34, 3) := by decide +kernel
theorem dX8_parse_73 : decode cX8_parse 73 = .ok (.iconst 0, 1) := by decide +kernel
theorem dX8_parse_74 : decode cX8_parse 74 = .ok (.istore_n 3, 1) := by decide +kernel
theorem dX8_parse_75 : decode cX8_parse 75 = .ok (.iconst 1, 1) := by decide +kernel
theorem dX8_parse_76 : decode cX8_parse 76 = .ok (.istore 4, 2) := by decide +kernel
theorem dX8_parse_78 : decode cX8_parse 78 = .ok (.aload_n 1, 1) := by decide +kernel
theorem dX8_parse_79 : decode cX8_parse 79 = .ok (.getfield 38, 3) := by decide +kernel
theorem dX8_parse_82 : decode cX8_parse 82 = .ok (.iload_n 2, 1) := by decide +kernel
theorem dX8_parse_83 : decode cX8_parse 83 = .ok (.if_icmp .le 5, 3) := by decide +kernel
theorem dX8_parse_86 : decode cX8_parse 86 = .ok (.iconst 0, 1) := by decide +kernel
theorem dX8_parse_87 : decode cX8_parse 87 = .ok (.ireturn, 1) := by decide +kernel
theorem dX8_parse_88 : decode cX8_parse 88 = .ok (.iinc 5 1, 3) := by decide +kernel
theorem dX8_parse_91 : decode cX8_parse 91 = .ok (.goto (-75), 3) := by decide +kernel
theorem dX8_parse_94 : decode cX8_parse 94 = .ok (.aload_n 1, 1) := by decide +kernel
theorem dX8_parse_95 : decode cX8_parse 95 = .ok (.aload_n 0, 1) := by decide +kernel
theorem dX8_parse_96 : decode cX8_parse 96 = .ok (.invokevirtual 23, 3) := by decide +kernel
theorem dX8_parse_99 : decode cX8_parse 99 = .ok (.invokevirtual 41, 3) := by decide +kernel
theorem dX8_parse_102 : decode cX8_parse 102 = .ok (.iconst 1, 1) := by decide +kernel
theorem dX8_parse_103 : decode cX8_parse 103 = .ok (.ireturn, 1) := by decide +kernel
theorem dX8_foldIn_0 : decode cX8_foldIn 0 = .ok (.iload_n 2, 1) := by decide +kernel
theorem dX8_foldIn_1 : decode cX8_foldIn 1 = .ok (.i2l, 1) := by decide +kernel
theorem dX8_foldIn_2 : decode cX8_foldIn 2 = .ok (.lstore_n 3, 1) := by decide +kernel
theorem dX8_foldIn_3 : decode cX8_foldIn 3 = .ok (.aload_n 0, 1) := by decide +kernel
theorem dX8_foldIn_4 : decode cX8_foldIn 4 = .ok (.getfield 38, 3) := by decide +kernel
theorem dX8_foldIn_7 : decode cX8_foldIn 7 = .ok (.istore 5, 2) := by decide +kernel
theorem dX8_foldIn_9 : decode cX8_foldIn 9 = .ok (.iconst 0, 1) := by decide +kernel
theorem dX8_foldIn_10 : decode cX8_foldIn 10 = .ok (.istore 6, 2) := by decide +kernel
theorem dX8_foldIn_12 : decode cX8_foldIn 12 = .ok (.iload 6, 2) := by decide +kernel
theorem dX8_foldIn_14 : decode cX8_foldIn 14 = .ok (.iload 5, 2) := by decide +kernel
theorem dX8_foldIn_16 : decode cX8_foldIn 16 = .ok (.if_icmp .ge 35, 3) := by decide +kernel
theorem dX8_foldIn_19 : decode cX8_foldIn 19 = .ok (.lload_n 3, 1) := by decide +kernel
theorem dX8_foldIn_20 : decode cX8_foldIn 20 = .ok (.iload_n 1, 1) := by decide +kernel
theorem dX8_foldIn_21 : decode cX8_foldIn 21 = .ok (.i2l, 1) := by decide +kernel
theorem dX8_foldIn_22 : decode cX8_foldIn 22 = .ok (.aload_n 0, 1) := by decide +kernel
theorem dX8_foldIn_23 : decode cX8_foldIn 23 = .ok (.iload 6, 2) := by decide +kernel
theorem dX8_foldIn_25 : decode cX8_foldIn 25 = .ok (.invokevirtual 45, 3) := by decide +kernel
theorem dX8_foldIn_28 : decode cX8_foldIn 28 = .ok (.lmul, 1) := by decide +kernel
theorem dX8_foldIn_29 : decode cX8_foldIn 29 = .ok (.ladd, 1) := by decide +kernel
theorem dX8_foldIn_30 : decode cX8_foldIn 30 = .ok (.lstore_n 3, 1) := by decide +kernel
theorem dX8_foldIn_31 : decode cX8_foldIn 31 = .ok (.aload_n 0, 1) := by decide +kernel
theorem dX8_foldIn_32 : decode cX8_foldIn 32 = .ok (.getfield 49, 3) := by decide +kernel
theorem dX8_foldIn_35 : decode cX8_foldIn 35 = .ok (.iload 6, 2) := by decide +kernel
theorem dX8_foldIn_37 : decode cX8_foldIn 37 = .ok (.lload_n 3, 1) := by decide +kernel
theorem dX8_foldIn_38 : decode cX8_foldIn 38 = .ok (.l2i, 1) := by decide +kernel
theorem dX8_foldIn_39 : decode cX8_foldIn 39 = .ok (.iastore, 1) := by decide +kernel
theorem dX8_foldIn_40 : decode cX8_foldIn 40 = .ok (.lload_n 3, 1) := by decide +kernel
theorem dX8_foldIn_41 : decode cX8_foldIn 41 = .ok (.bipush 32, 2) := by decide +kernel
theorem dX8_foldIn_43 : decode cX8_foldIn 43 = .ok (.lushr, 1) := by decide +kernel
theorem dX8_foldIn_44 : decode cX8_foldIn 44 = .ok (.lstore_n 3, 1) := by decide +kernel
theorem dX8_foldIn_45 : decode cX8_foldIn 45 = .ok (.iinc 6 1, 3) := by decide +kernel
theorem dX8_foldIn_48 : decode cX8_foldIn 48 = .ok (.goto (-36), 3) := by decide +kernel
theorem dX8_foldIn_51 : decode cX8_foldIn 51 = .ok (.iload 5, 2) := by decide +kernel
theorem dX8_foldIn_53 : decode cX8_foldIn 53 = .ok (.aload_n 0, 1) := by decide +kernel
theorem dX8_foldIn_54 : decode cX8_foldIn 54 = .ok (.getfield 49, 3) := by decide +kernel
theorem dX8_foldIn_57 : decode cX8_foldIn 57 = .ok (.arraylength, 1) := by decide +kernel
theorem dX8_foldIn_58 : decode cX8_foldIn 58 = .ok (.if_icmp .ge 20, 3) := by decide +kernel
theorem dX8_foldIn_61 : decode cX8_foldIn 61 = .ok (.aload_n 0, 1) := by decide +kernel
theorem dX8_foldIn_62 : decode cX8_foldIn 62 = .ok (.getfield 49, 3) := by decide +kernel
theorem dX8_foldIn_65 : decode cX8_foldIn 65 = .ok (.iload 5, 2) := by decide +kernel
theorem dX8_foldIn_67 : decode cX8_foldIn 67 = .ok (.lload_n 3, 1) := by decide +kernel
theorem dX8_foldIn_68 : decode cX8_foldIn 68 = .ok (.l2i, 1) := by decide +kernel
theorem dX8_foldIn_69 : decode cX8_foldIn 69 = .ok (.iastore, 1) := by decide +kernel
theorem dX8_foldIn_70 : decode cX8_foldIn 70 = .ok (.aload_n 0, 1) := by decide +kernel
theorem dX8_foldIn_71 : decode cX8_foldIn 71 = .ok (.iload 5, 2) := by decide +kernel
theorem dX8_foldIn_73 : decode cX8_foldIn 73 = .ok (.iconst 1, 1) := by decide +kernel
theorem dX8_foldIn_74 : decode cX8_foldIn 74 = .ok (.iadd, 1) := by decide +kernel
theorem dX8_foldIn_75 : decode cX8_foldIn 75 = .ok (.invokevirtual 53, 3) := by decide +kernel
theorem dX8_foldIn_78 : decode cX8_foldIn 78 = .ok (.return_, 1) := by decide +kernel
theorem dX10_init_0 : decode cX10_init 0 = .ok (.aload_n 0, 1) := by decide +kernel
theorem dX10_init_1 : decode cX10_init 1 = .ok (.invokespecial 1, 3) := by decide +kernel
theorem dX10_init_4 : decode cX10_init 4 = .ok (.aload_n 0, 1) := by decide +kernel
theorem dX10_init_5 : decode cX10_init 5 = .ok (.iconst 1, 1) := by decide +kernel
theorem dX10_init_6 : decode cX10_init 6 = .ok (.iload_n 2, 1) := by decide +kernel
theorem dX10_init_7 : decode cX10_init 7 = .ok (.bipush 40, 2) := by decide +kernel
theorem dX10_init_9 : decode cX10_init 9 = .ok (.invokestatic 9, 3) := by decide +kernel
theorem dX10_init_12 : decode cX10_init 12 = .ok (.invokestatic 15, 3) := by decide +kernel
theorem dX10_init_15 : decode cX10_init 15 = .ok (.putfield 18, 3) := by decide +kernel
theorem dX10_init_18 : decode cX10_init 18 = .ok (.aload_n 0, 1) := by decide +kernel
theorem dX10_init_19 : decode cX10_init 19 = .ok (.iconst 1, 1) := by decide +kernel
theorem dX10_init_20 : decode cX10_init 20 = .ok (.iload_n 1, 1) := by decide +kernel
theorem dX10_init_21 : decode cX10_init 21 = .ok (.bipush 16, 2) := by decide +kernel
theorem dX10_init_23 : decode cX10_init 23 = .ok (.invokestatic 9, 3) := by decide +kernel
theorem dX10_init_26 : decode cX10_init 26 = .ok (.invokestatic 15, 3) := by decide +kernel
theorem dX10_init_29 : decode cX10_init 29 = .ok (.anewarray 22, 3) := by decide +kernel
theorem dX10_init_32 : decode cX10_init 32 = .ok (.putfield 24, 3) := by decide +kernel
theorem dX10_init_35 : decode cX10_init 35 = .ok (.iconst 0, 1) := by decide +kernel
theorem dX10_init_36 : decode cX10_init 36 = .ok (.istore_n 3, 1) := by decide +kernel
theorem dX10_init_37 : decode cX10_init 37 = .ok (.iload_n 3, 1) := by decide +kernel
theorem dX10_init_38 : decode cX10_init 38 = .ok (.aload_n 0, 1) := by decide +kernel
theorem dX10_init_39 : decode cX10_init 39 = .ok (.getfield 24, 3) := by decide +kernel
theorem dX10_init_42 : decode cX10_init 42 = .ok (.arraylength, 1) := by decide +kernel
theorem dX10_init_43 : decode cX10_init 43 = .ok (.if_icmp .ge 26, 3) := by decide +kernel
theorem dX10_init_46 : decode cX10_init 46 = .ok (.aload_n 0, 1) := by decide +kernel
theorem dX10_init_47 : decode cX10_init 47 = .ok (.getfield 24, 3) := by decide +kernel
theorem dX10_init_50 : decode cX10_init 50 = .ok (.iload_n 3, 1) := by decide +kernel
theorem dX10_init_51 : decode cX10_init 51 = .ok (.new 22, 3) := by decide +kernel
theorem dX10_init_54 : decode cX10_init 54 = .ok (.dup, 1) := by decide +kernel
theorem dX10_init_55 : decode cX10_init 55 = .ok (.aload_n 0, 1) := by decide +kernel
theorem dX10_init_56 : decode cX10_init 56 = .ok (.getfield 18, 3) := by decide +kernel
theorem dX10_init_59 : decode cX10_init 59 = .ok (.invokespecial 28, 3) := by decide +kernel
theorem dX10_init_62 : decode cX10_init 62 = .ok (.aastore, 1) := by decide +kernel
theorem dX10_init_63 : decode cX10_init 63 = .ok (.iinc 3 1, 3) := by decide +kernel
theorem dX10_init_66 : decode cX10_init 66 = .ok (.goto (-29), 3) := by decide +kernel
theorem dX10_init_69 : decode cX10_init 69 = .ok (.iconst 2, 1) := by decide +kernel
theorem dX10_init_70 : decode cX10_init 70 = .ok (.aload_n 0, 1) := by decide +kernel
theorem dX10_init_71 : decode cX10_init 71 = .ok (.getfield 18, 3) := by decide +kernel
theorem dX10_init_74 : decode cX10_init 74 = .ok (.imul, 1) := by decide +kernel
theorem dX10_init_75 : decode cX10_init 75 = .ok (.iconst 2, 1) := by decide +kernel
theorem dX10_init_76 : decode cX10_init 76 = .ok (.iadd, 1) := by decide +kernel
theorem dX10_init_77 : decode cX10_init 77 = .ok (.istore_n 3, 1) := by decide +kernel
theorem dX10_init_78 : decode cX10_init 78 = .ok (.aload_n 0, 1) := by decide +kernel
theorem dX10_init_79 : decode cX10_init 79 = .ok (.new 31, 3) := by decide +kernel
theorem dX10_init_82 : decode cX10_init 82 = .ok (.dup, 1) := by decide +kernel
theorem dX10_init_83 : decode cX10_init 83 = .ok (.iload_n 3, 1) := by decide +kernel
theorem dX10_init_84 : decode cX10_init 84 = .ok (.invokespecial 33, 3) := by decide +kernel
theorem dX10_init_87 : decode cX10_init 87 = .ok (.putfield 34, 3) := by decide +kernel
theorem dX10_init_90 : decode cX10_init 90 = .ok (.aload_n 0, 1) := by decide +kernel
theorem dX10_init_91 : decode cX10_init 91 = .ok (.new 38, 3) := by decide +kernel
theorem dX10_init_94 : decode cX10_init 94 = .ok (.dup, 1) := by decide +kernel
theorem dX10_init_95 : decode cX10_init 95 = .ok (.iload_n 3, 1) := by decide +kernel
theorem dX10_init_96 : decode cX10_init 96 = .ok (.aload_n 0, 1) := by decide +kernel
theorem dX10_init_97 : decode cX10_init 97 = .ok (.getfield 34, 3) := by decide +kernel
theorem dX10_init_100 : decode cX10_init 100 = .ok (.invokespecial 40, 3) := by decide +kernel
theorem dX10_init_103 : decode cX10_init 103 = .ok (.putfield 43, 3) := by decide +kernel
theorem dX10_init_106 : decode cX10_init 106 = .ok (.aload_n 0, 1) := by decide +kernel
theorem dX10_init_107 : decode cX10_init 107 = .ok (.new 47, 3) := by decide +kernel
theorem dX10_init_110 : decode cX10_init 110 = .ok (.dup, 1) := by decide +kernel
theorem dX10_init_111 : decode cX10_init 111 = .ok (.iload_n 3, 1) := by decide +kernel
theorem dX10_init_112 : decode cX10_init 112 = .ok (.aload_n 0, 1) := by decide +kernel
theorem dX10_init_113 : decode cX10_init 113 = .ok (.getfield 34, 3) := by decide +kernel
theorem dX10_init_116 : decode cX10_init 116 = .ok (.invokespecial 49, 3) := by decide +kernel
theorem dX10_init_119 : decode cX10_init 119 = .ok (.putfield 50, 3) := by decide +kernel
theorem dX10_init_122 : decode cX10_init 122 = .ok (.aload_n 0, 1) := by decide +kernel
theorem dX10_init_123 : decode cX10_init 123 = .ok (.new 54, 3) := by decide +kernel
theorem dX10_init_126 : decode cX10_init 126 = .ok (.dup, 1) := by decide +kernel
theorem dX10_init_127 : decode cX10_init 127 = .ok (.iload_n 3, 1) := by decide +kernel
theorem dX10_init_128 : decode cX10_init 128 = .ok (.aload_n 0, 1) := by decide +kernel
theorem dX10_init_129 : decode cX10_init 129 = .ok (.getfield 34, 3) := by decide +kernel
theorem dX10_init_132 : decode cX10_init 132 = .ok (.invokespecial 56, 3) := by decide +kernel
theorem dX10_init_135 : decode cX10_init 135 = .ok (.putfield 57, 3) := by decide +kernel
theorem dX10_init_138 : decode cX10_init 138 = .ok (.aload_n 0, 1) := by decide +kernel
theorem dX10_init_139 : decode cX10_init 139 = .ok (.new 61, 3) := by decide +kernel
theorem dX10_init_142 : decode cX10_init 142 = .ok (.dup, 1) := by decide +kernel
theorem dX10_init_143 : decode cX10_init 143 = .ok (.iload_n 3, 1) := by decide +kernel
theorem dX10_init_144 : decode cX10_init 144 = .ok (.aload_n 0, 1) := by decide +kernel
theorem dX10_init_145 : decode cX10_init 145 = .ok (.getfield 34, 3) := by decide +kernel
theorem dX10_init_148 : decode cX10_init 148 = .ok (.invokespecial 63, 3) := by decide +kernel
theorem dX10_init_151 : decode cX10_init 151 = .ok (.putfield 64, 3) := by decide +kernel
theorem dX10_init_154 : decode cX10_init 154 = .ok (.aload_n 0, 1) := by decide +kernel
theorem dX10_init_155 : decode cX10_init 155 = .ok (.new 68, 3) := by decide +kernel
theorem dX10_init_158 : decode cX10_init 158 = .ok (.dup, 1) := by decide +kernel
theorem dX10_init_159 : decode cX10_init 159 = .ok (.iload_n 3, 1) := by decide +kernel
theorem dX10_init_160 : decode cX10_init 160 = .ok (.aload_n 0, 1) := by decide +kernel
theorem dX10_init_161 : decode cX10_init 161 = .ok (.getfield 34, 3) := by decide +kernel
theorem dX10_init_164 : decode cX10_init 164 = .ok (.invokespecial 70, 3) := by decide +kernel
theorem dX10_init_167 : decode cX10_init 167 = .ok (.putfield 71, 3) := by decide +kernel
theorem dX10_init_170 : decode cX10_init 170 = .ok (.aload_n 0, 1) := by decide +kernel
theorem dX10_init_171 : decode cX10_init 171 = .ok (.new 75, 3) := by decide +kernel
theorem dX10_init_174 : decode cX10_init 174 = .ok (.dup, 1) := by decide +kernel
theorem dX10_init_175 : decode cX10_init 175 = .ok (.invokespecial 77, 3) := by decide +kernel
theorem dX10_init_178 : decode cX10_init 178 = .ok (.putfield 78, 3) := by decide +kernel
theorem dX10_init_181 : decode cX10_init 181 = .ok (.aload_n 0, 1) := by decide +kernel
theorem dX10_init_182 : decode cX10_init 182 = .ok (.new 82, 3) := by decide +kernel
theorem dX10_init_185 : decode cX10_init 185 = .ok (.dup, 1) := by decide +kernel
theorem dX10_init_186 : decode cX10_init 186 = .ok (.aload_n 0, 1) := by decide +kernel
theorem dX10_init_187 : decode cX10_init 187 = .ok (.getfield 18, 3) := by decide +kernel
theorem dX10_init_190 : decode cX10_init 190 = .ok (.iload_n 3, 1) := by decide +kernel
theorem dX10_init_191 : decode cX10_init 191 = .ok (.invokespecial 84, 3) := by decide +kernel
theorem dX10_init_194 : decode cX10_init 194 = .ok (.putfield 87, 3) := by decide +kernel
theorem dX10_init_197 : decode cX10_init 197 = .ok (.aload_n 0, 1) := by decide +kernel
theorem dX10_init_198 : decode cX10_init 198 = .ok (.new 22, 3) := by decide +kernel
theorem dX10_init_201 : decode cX10_init 201 = .ok (.dup, 1) := by decide +kernel
theorem dX10_init_202 : decode cX10_init 202 = .ok (.iload_n 3, 1) := by decide +kernel
theorem dX10_init_203 : decode cX10_init 203 = .ok (.invokespecial 28, 3) := by decide +kernel
theorem dX10_init_206 : decode cX10_init 206 = .ok (.putfield 91, 3) := by decide +kernel
theorem dX10_init_209 : decode cX10_init 209 = .ok (.aload_n 0, 1) := by decide +kernel
theorem dX10_init_210 : decode cX10_init 210 = .ok (.new 22, 3) := by decide +kernel
theorem dX10_init_213 : decode cX10_init 213 = .ok (.dup, 1) := by decide +kernel
theorem dX10_init_214 : decode cX10_init 214 = .ok (.iload_n 3, 1) := by decide +kernel
theorem dX10_init_215 : decode cX10_init 215 = .ok (.invokespecial 28, 3) := by decide +kernel
theorem dX10_init_218 : decode cX10_init 218 = .ok (.putfield 95, 3) := by decide +kernel
theorem dX10_init_221 : decode cX10_init 221 = .ok (.aload_n 0, 1) := by decide +kernel
theorem dX10_init_222 : decode cX10_init 222 = .ok (.new 22, 3) := by decide +kernel
theorem dX10_init_225 : decode cX10_init 225 = .ok (.dup, 1) := by decide +kernel
theorem dX10_init_226 : decode cX10_init 226 = .ok (.iconst 1, 1) := by decide +kernel
theorem dX10_init_227 : decode cX10_init 227 = .ok (.invokespecial 28, 3) := by decide +kernel
theorem dX10_init_230 : decode cX10_init 230 = .ok (.putfield 98, 3) := by decide +kernel
theorem dX10_init_233 : decode cX10_init 233 = .ok (.aload_n 0, 1) := by decide +kernel
theorem dX10_init_234 : decode cX10_init 234 = .ok (.getfield 98, 3) := by decide +kernel
theorem dX10_init_237 : decode cX10_init 237 = .ok (.iconst 1, 1) := by decide +kernel
theorem dX10_init_238 : decode cX10_init 238 = .ok (.invokevirtual 101, 3) := by decide +kernel
theorem dX10_init_241 : decode cX10_init 241 = .ok (.return_, 1) := by decide +kernel
theorem dX10_pushLimb_0 : decode cX10_pushLimb 0 = .ok (.aload_n 0, 1) := by decide +kernel
theorem dX10_pushLimb_1 : decode cX10_pushLimb 1 = .ok (.iload_n 1, 1) := by decide +kernel
theorem dX10_pushLimb_2 : decode cX10_pushLimb 2 = .ok (.invokevirtual 104, 3) := by decide +kernel
theorem dX10_pushLimb_5 : decode cX10_pushLimb 5 = .ok (.ifCond .ne 5, 3) := by decide +kernel
theorem dX10_pushLimb_8 : decode cX10_pushLimb 8 = .ok (.iconst 3, 1) := by decide +kernel
theorem dX10_pushLimb_9 : decode cX10_pushLimb 9 = .ok (.ireturn, 1) := by decide +kernel
theorem dX10_pushLimb_10 : decode cX10_pushLimb 10 = .ok (.aload_n 0, 1) := by decide +kernel
theorem dX10_pushLimb_11 : decode cX10_pushLimb 11 = .ok (.getfield 24, 3) := by decide +kernel
theorem dX10_pushLimb_14 : decode cX10_pushLimb 14 = .ok (.iload_n 1, 1) := by decide +kernel
theorem dX10_pushLimb_15 : decode cX10_pushLimb 15 = .ok (.aaload, 1) := by decide +kernel
theorem dX10_pushLimb_16 : decode cX10_pushLimb 16 = .ok (.astore_n 3, 1) := by decide +kernel
theorem dX10_pushLimb_17 : decode cX10_pushLimb 17 = .ok (.aload_n 0, 1) := by decide +kernel
theorem dX10_pushLimb_18 : decode cX10_pushLimb 18 = .ok (.getfield 91, 3) := by decide +kernel
theorem dX10_pushLimb_21 : decode cX10_pushLimb 21 = .ok (.aload_n 3, 1) := by decide +kernel
theorem dX10_pushLimb_22 : decode cX10_pushLimb 22 = .ok (.bipush 32, 2) := by decide +kernel
theorem dX10_pushLimb_24 : decode cX10_pushLimb 24 = .ok (.invokestatic 108, 3) := by decide +kernel
theorem dX10_pushLimb_27 : decode cX10_pushLimb 27 = .ok (.aload_n 0, 1) := by decide +kernel
theorem dX10_pushLimb_28 : decode cX10_pushLimb 28 = .ok (.getfield 95, 3) := by decide +kernel
theorem dX10_pushLimb_31 : decode cX10_pushLimb 31 = .ok (.iload_n 2, 1) := by decide +kernel
theorem dX10_pushLimb_32 : decode cX10_pushLimb 32 = .ok (.invokevirtual 101, 3) := by decide +kernel
theorem dX10_pushLimb_35 : decode cX10_pushLimb 35 = .ok (.aload_n 0, 1) := by decide +kernel
theorem dX10_pushLimb_36 : decode cX10_pushLimb 36 = .ok (.getfield 91, 3) := by decide +kernel
theorem dX10_pushLimb_39 : decode cX10_pushLimb 39 = .ok (.aload_n 0, 1) := by decide +kernel
theorem dX10_pushLimb_40 : decode cX10_pushLimb 40 = .ok (.getfield 91, 3) := by decide +kernel
theorem dX10_pushLimb_43 : decode cX10_pushLimb 43 = .ok (.aload_n 0, 1) := by decide +kernel
theorem dX10_pushLimb_44 : decode cX10_pushLimb 44 = .ok (.getfield 95, 3) := by decide +kernel
theorem dX10_pushLimb_47 : decode cX10_pushLimb 47 = .ok (.invokestatic 114, 3) := by decide +kernel
theorem dX10_pushLimb_50 : decode cX10_pushLimb 50 = .ok (.aload_n 0, 1) := by decide +kernel
theorem dX10_pushLimb_51 : decode cX10_pushLimb 51 = .ok (.getfield 91, 3) := by decide +kernel
theorem dX10_pushLimb_54 : decode cX10_pushLimb 54 = .ok (.aload_n 3, 1) := by decide +kernel
theorem dX10_pushLimb_55 : decode cX10_pushLimb 55 = .ok (.getfield 118, 3) := by decide +kernel
theorem dX10_pushLimb_58 : decode cX10_pushLimb 58 = .ok (.invokevirtual 122, 3) := by decide +kernel
theorem dX10_pushLimb_61 : decode cX10_pushLimb 61 = .ok (.aload_n 0, 1) := by decide +kernel
theorem dX10_pushLimb_62 : decode cX10_pushLimb 62 = .ok (.iload_n 1, 1) := by decide +kernel
theorem dX10_pushLimb_63 : decode cX10_pushLimb 63 = .ok (.aload_n 0, 1) := by decide +kernel
theorem dX10_pushLimb_64 : decode cX10_pushLimb 64 = .ok (.getfield 91, 3) := by decide +kernel
theorem dX10_pushLimb_67 : decode cX10_pushLimb 67 = .ok (.invokevirtual 126, 3) := by decide +kernel
theorem dX10_pushLimb_70 : decode cX10_pushLimb 70 = .ok (.ireturn, 1) := by decide +kernel
theorem dX10_clear_0 : decode cX10_clear 0 = .ok (.aload_n 0, 1) := by decide +kernel
theorem dX10_clear_1 : decode cX10_clear 1 = .ok (.iload_n 1, 1) := by decide +kernel
theorem dX10_clear_2 : decode cX10_clear 2 = .ok (.invokevirtual 104, 3) := by decide +kernel
theorem dX10_clear_5 : decode cX10_clear 5 = .ok (.ifCond .ne 5, 3) := by decide +kernel
theorem dX10_clear_8 : decode cX10_clear 8 = .ok (.iconst 0, 1) := by decide +kernel
theorem dX10_clear_9 : decode cX10_clear 9 = .ok (.ireturn, 1) := by decide +kernel
theorem dX10_clear_10 : decode cX10_clear 10 = .ok (.aload_n 0, 1) := by decide +kernel
theorem dX10_clear_11 : decode cX10_clear 11 = .ok (.getfield 24, 3) := by decide +kernel
theorem dX10_clear_14 : decode cX10_clear 14 = .ok (.iload_n 1, 1) := by decide +kernel
theorem dX10_clear_15 : decode cX10_clear 15 = .ok (.aaload, 1) := by decide +kernel
theorem dX10_clear_16 : decode cX10_clear 16 = .ok (.iconst 0, 1) := by decide +kernel
theorem dX10_clear_17 : decode cX10_clear 17 = .ok (.invokevirtual 101, 3) := by decide +kernel
theorem dX10_clear_20 : decode cX10_clear 20 = .ok (.iconst 1, 1) := by decide +kernel
theorem dX10_clear_21 : decode cX10_clear 21 = .ok (.ireturn, 1) := by decide +kernel
theorem dX10_negate_0 : decode cX10_negate 0 = .ok (.aload_n 0, 1) := by decide +kernel
theorem dX10_negate_1 : decode cX10_negate 1 = .ok (.iload_n 1, 1) := by decide +kernel
theorem dX10_negate_2 : decode cX10_negate 2 = .ok (.iload_n 2, 1) := by decide +kernel
theorem dX10_negate_3 : decode cX10_negate 3 = .ok (.invokevirtual 130, 3) := by decide +kernel
theorem dX10_negate_6 : decode cX10_negate 6 = .ok (.ifCond .ne 5, 3) := by decide +kernel
theorem dX10_negate_9 : decode cX10_negate 9 = .ok (.iconst 3, 1) := by decide +kernel
theorem dX10_negate_10 : decode cX10_negate 10 = .ok (.ireturn, 1) := by decide +kernel
theorem dX10_negate_11 : decode cX10_negate 11 = .ok (.aload_n 0, 1) := by decide +kernel
theorem dX10_negate_12 : decode cX10_negate 12 = .ok (.getfield 91, 3) := by decide +kernel
theorem dX10_negate_15 : decode cX10_negate 15 = .ok (.aload_n 0, 1) := by decide +kernel
theorem dX10_negate_16 : decode cX10_negate 16 = .ok (.getfield 24, 3) := by decide +kernel
theorem dX10_negate_19 : decode cX10_negate 19 = .ok (.iload_n 2, 1) := by decide +kernel
theorem dX10_negate_20 : decode cX10_negate 20 = .ok (.aaload, 1) := by decide +kernel
theorem dX10_negate_21 : decode cX10_negate 21 = .ok (.invokevirtual 134, 3) := by decide +kernel
theorem dX10_negate_24 : decode cX10_negate 24 = .ok (.aload_n 0, 1) := by decide +kernel
theorem dX10_negate_25 : decode cX10_negate 25 = .ok (.getfield 91, 3) := by decide +kernel
theorem dX10_negate_28 : decode cX10_negate 28 = .ok (.aload_n 0, 1) := by decide +kernel
theorem dX10_negate_29 : decode cX10_negate 29 = .ok (.getfield 24, 3) := by decide +kernel
theorem dX10_negate_32 : decode cX10_negate 32 = .ok (.iload_n 2, 1) := by decide +kernel
theorem dX10_negate_33 : decode cX10_negate 33 = .ok (.aaload, 1) := by decide +kernel
theorem dX10_negate_34 : decode cX10_negate 34 = .ok (.getfield 118, 3) := by decide +kernel
theorem dX10_negate_37 : decode cX10_negate 37 = .ok (.ifCond .ne 7, 3) := by decide +kernel
theorem dX10_negate_40 : decode cX10_negate 40 = .ok (.iconst 1, 1) := by decide +kernel
theorem dX10_negate_41 : decode cX10_negate 41 = .ok (.goto 4, 3) := by decide +kernel
theorem dX10_negate_44 : decode cX10_negate 44 = .ok (.iconst 0, 1) := by decide +kernel
theorem dX10_negate_45 : decode cX10_negate 45 = .ok (.invokevirtual 122, 3) := by decide +kernel
theorem dX10_negate_48 : decode cX10_negate 48 = .ok (.aload_n 0, 1) := by decide +kernel
theorem dX10_negate_49 : decode cX10_negate 49 = .ok (.iload_n 1, 1) := by decide +kernel
theorem dX10_negate_50 : decode cX10_negate 50 = .ok (.aload_n 0, 1) := by decide +kernel
theorem dX10_negate_51 : decode cX10_negate 51 = .ok (.getfield 91, 3) := by decide +kernel
theorem dX10_negate_54 : decode cX10_negate 54 = .ok (.invokevirtual 126, 3) := by decide +kernel
theorem dX10_negate_57 : decode cX10_negate 57 = .ok (.ireturn, 1) := by decide +kernel
theorem dX10_add_0 : decode cX10_add 0 = .ok (.aload_n 0, 1) := by decide +kernel
theorem dX10_add_1 : decode cX10_add 1 = .ok (.iload_n 1, 1) := by decide +kernel
theorem dX10_add_2 : decode cX10_add 2 = .ok (.iload_n 2, 1) := by decide +kernel
theorem dX10_add_3 : decode cX10_add 3 = .ok (.iload_n 3, 1) := by decide +kernel
theorem dX10_add_4 : decode cX10_add 4 = .ok (.invokevirtual 138, 3) := by decide +kernel
theorem dX10_add_7 : decode cX10_add 7 = .ok (.ifCond .ne 5, 3) := by decide +kernel
theorem dX10_add_10 : decode cX10_add 10 = .ok (.iconst 3, 1) := by decide +kernel
theorem dX10_add_11 : decode cX10_add 11 = .ok (.ireturn, 1) := by decide +kernel
theorem dX10_add_12 : decode cX10_add 12 = .ok (.aload_n 0, 1) := by decide +kernel
theorem dX10_add_13 : decode cX10_add 13 = .ok (.getfield 91, 3) := by decide +kernel
theorem dX10_add_16 : decode cX10_add 16 = .ok (.aload_n 0, 1) := by decide +kernel
theorem dX10_add_17 : decode cX10_add 17 = .ok (.getfield 24, 3) := by decide +kernel
theorem dX10_add_20 : decode cX10_add 20 = .ok (.iload_n 2, 1) := by decide +kernel
theorem dX10_add_21 : decode cX10_add 21 = .ok (.aaload, 1) := by decide +kernel
theorem dX10_add_22 : decode cX10_add 22 = .ok (.aload_n 0, 1) := by decide +kernel
theorem dX10_add_23 : decode cX10_add 23 = .ok (.getfield 24, 3) := by decide +kernel
theorem dX10_add_26 : decode cX10_add 26 = .ok (.iload_n 3, 1) := by decide +kernel
theorem dX10_add_27 : decode cX10_add 27 = .ok (.aaload, 1) := by decide +kernel
theorem dX10_add_28 : decode cX10_add 28 = .ok (.aload_n 0, 1) := by decide +kernel
theorem dX10_add_29 : decode cX10_add 29 = .ok (.getfield 24, 3) := by decide +kernel
theorem dX10_add_32 : decode cX10_add 32 = .ok (.iload_n 3, 1) := by decide +kernel
theorem dX10_add_33 : decode cX10_add 33 = .ok (.aaload, 1) := by decide +kernel
theorem dX10_add_34 : decode cX10_add 34 = .ok (.getfield 118, 3) := by decide +kernel
theorem dX10_add_37 : decode cX10_add 37 = .ok (.invokestatic 141, 3) := by decide +kernel
theorem dX10_add_40 : decode cX10_add 40 = .ok (.aload_n 0, 1) := by decide +kernel
theorem dX10_add_41 : decode cX10_add 41 = .ok (.iload_n 1, 1) := by decide +kernel
theorem dX10_add_42 : decode cX10_add 42 = .ok (.aload_n 0, 1) := by decide +kernel
theorem dX10_add_43 : decode cX10_add 43 = .ok (.getfield 91, 3) := by decide +kernel
theorem dX10_add_46 : decode cX10_add 46 = .ok (.invokevirtual 126, 3) := by decide +kernel
theorem dX10_add_49 : decode cX10_add 49 = .ok (.ireturn, 1) := by decide +kernel
theorem dX10_subtract_0 : decode cX10_subtract 0 = .ok (.aload_n 0, 1) := by decide +kernel
theorem dX10_subtract_1 : decode cX10_subtract 1 = .ok (.iload_n 1, 1) := by decide +kernel
theorem dX10_subtract_2 : decode cX10_subtract 2 = .ok (.iload_n 2, 1) := by decide +kernel
theorem dX10_subtract_3 : decode cX10_subtract 3 = .ok (.iload_n 3, 1) := by decide +kernel
theorem dX10_subtract_4 : decode cX10_subtract 4 = .ok (.invokevirtual 138, 3) := by decide +kernel
theorem dX10_subtract_7 : decode cX10_subtract 7 = .ok (.ifCond .ne 5, 3) := by decide +kernel
theorem dX10_subtract_10 : decode cX10_subtract 10 = .ok (.iconst 3, 1) := by decide +kernel
theorem dX10_subtract_11 : decode cX10_subtract 11 = .ok (.ireturn, 1) := by decide +kernel
theorem dX10_subtract_12 : decode cX10_subtract 12 = .ok (.aload_n 0, 1) := by decide +kernel
theorem dX10_subtract_13 : decode cX10_subtract 13 = .ok (.getfield 91, 3) := by decide +kernel
theorem dX10_subtract_16 : decode cX10_subtract 16 = .ok (.aload_n 0, 1) := by decide +kernel
theorem dX10_subtract_17 : decode cX10_subtract 17 = .ok (.getfield 24, 3) := by decide +kernel
theorem dX10_subtract_20 : decode cX10_subtract 20 = .ok (.iload_n 2, 1) := by decide +kernel
theorem dX10_subtract_21 : decode cX10_subtract 21 = .ok (.aaload, 1) := by decide +kernel
theorem dX10_subtract_22 : decode cX10_subtract 22 = .ok (.aload_n 0, 1) := by decide +kernel
theorem dX10_subtract_23 : decode cX10_subtract 23 = .ok (.getfield 24, 3) := by decide +kernel
theorem dX10_subtract_26 : decode cX10_subtract 26 = .ok (.iload_n 3, 1) := by decide +kernel
theorem dX10_subtract_27 : decode cX10_subtract 27 = .ok (.aaload, 1) := by decide +kernel
theorem dX10_subtract_28 : decode cX10_subtract 28 = .ok (.aload_n 0, 1) := by decide +kernel
theorem dX10_subtract_29 : decode cX10_subtract 29 = .ok (.getfield 24, 3) := by decide +kernel
theorem dX10_subtract_32 : decode cX10_subtract 32 = .ok (.iload_n 3, 1) := by decide +kernel
theorem dX10_subtract_33 : decode cX10_subtract 33 = .ok (.aaload, 1) := by decide +kernel
theorem dX10_subtract_34 : decode cX10_subtract 34 = .ok (.getfield 118, 3) := by decide +kernel
theorem dX10_subtract_37 : decode cX10_subtract 37 = .ok (.ifCond .ne 7, 3) := by decide +kernel
theorem dX10_subtract_40 : decode cX10_subtract 40 = .ok (.iconst 1, 1) := by decide +kernel
theorem dX10_subtract_41 : decode cX10_subtract 41 = .ok (.goto 4, 3) := by decide +kernel
theorem dX10_subtract_44 : decode cX10_subtract 44 = .ok (.iconst 0, 1) := by decide +kernel
theorem dX10_subtract_45 : decode cX10_subtract 45 = .ok (.invokestatic 141, 3) := by decide +kernel
theorem dX10_subtract_48 : decode cX10_subtract 48 = .ok (.aload_n 0, 1) := by decide +kernel
theorem dX10_subtract_49 : decode cX10_subtract 49 = .ok (.iload_n 1, 1) := by decide +kernel
theorem dX10_subtract_50 : decode cX10_subtract 50 = .ok (.aload_n 0, 1) := by decide +kernel
theorem dX10_subtract_51 : decode cX10_subtract 51 = .ok (.getfield 91, 3) := by decide +kernel
theorem dX10_subtract_54 : decode cX10_subtract 54 = .ok (.invokevirtual 126, 3) := by decide +kernel
theorem dX10_subtract_57 : decode cX10_subtract 57 = .ok (.ireturn, 1) := by decide +kernel
theorem dX10_multiply_0 : decode cX10_multiply 0 = .ok (.aload_n 0, 1) := by decide +kernel
theorem dX10_multiply_1 : decode cX10_multiply 1 = .ok (.iload_n 1, 1) := by decide +kernel
theorem dX10_multiply_2 : decode cX10_multiply 2 = .ok (.iload_n 2, 1) := by decide +kernel
theorem dX10_multiply_3 : decode cX10_multiply 3 = .ok (.iload_n 3, 1) := by decide +kernel
theorem dX10_multiply_4 : decode cX10_multiply 4 = .ok (.invokevirtual 138, 3) := by decide +kernel
theorem dX10_multiply_7 : decode cX10_multiply 7 = .ok (.ifCond .ne 5, 3) := by decide +kernel
theorem dX10_multiply_10 : decode cX10_multiply 10 = .ok (.iconst 3, 1) := by decide +kernel
theorem dX10_multiply_11 : decode cX10_multiply 11 = .ok (.ireturn, 1) := by decide +kernel
theorem dX10_multiply_12 : decode cX10_multiply 12 = .ok (.aload_n 0, 1) := by decide +kernel
theorem dX10_multiply_13 : decode cX10_multiply 13 = .ok (.getfield 91, 3) := by decide +kernel
theorem dX10_multiply_16 : decode cX10_multiply 16 = .ok (.aload_n 0, 1) := by decide +kernel
theorem dX10_multiply_17 : decode cX10_multiply 17 = .ok (.getfield 24, 3) := by decide +kernel
theorem dX10_multiply_20 : decode cX10_multiply 20 = .ok (.iload_n 2, 1) := by decide +kernel
theorem dX10_multiply_21 : decode cX10_multiply 21 = .ok (.aaload, 1) := by decide +kernel
theorem dX10_multiply_22 : decode cX10_multiply 22 = .ok (.aload_n 0, 1) := by decide +kernel
theorem dX10_multiply_23 : decode cX10_multiply 23 = .ok (.getfield 24, 3) := by decide +kernel
theorem dX10_multiply_26 : decode cX10_multiply 26 = .ok (.iload_n 3, 1) := by decide +kernel
theorem dX10_multiply_27 : decode cX10_multiply 27 = .ok (.aaload, 1) := by decide +kernel
theorem dX10_multiply_28 : decode cX10_multiply 28 = .ok (.invokestatic 145, 3) := by decide +kernel
theorem dX10_multiply_31 : decode cX10_multiply 31 = .ok (.aload_n 0, 1) := by decide +kernel
theorem dX10_multiply_32 : decode cX10_multiply 32 = .ok (.getfield 91, 3) := by decide +kernel
theorem dX10_multiply_35 : decode cX10_multiply 35 = .ok (.aload_n 0, 1) := by decide +kernel
theorem dX10_multiply_36 : decode cX10_multiply 36 = .ok (.getfield 24, 3) := by decide +kernel
theorem dX10_multiply_39 : decode cX10_multiply 39 = .ok (.iload_n 2, 1) := by decide +kernel
theorem dX10_multiply_40 : decode cX10_multiply 40 = .ok (.aaload, 1) := by decide +kernel
theorem dX10_multiply_41 : decode cX10_multiply 41 = .ok (.getfield 118, 3) := by decide +kernel
theorem dX10_multiply_44 : decode cX10_multiply 44 = .ok (.aload_n 0, 1) := by decide +kernel
theorem dX10_multiply_45 : decode cX10_multiply 45 = .ok (.getfield 24, 3) := by decide +kernel
theorem dX10_multiply_48 : decode cX10_multiply 48 = .ok (.iload_n 3, 1) := by decide +kernel
theorem dX10_multiply_49 : decode cX10_multiply 49 = .ok (.aaload, 1) := by decide +kernel
theorem dX10_multiply_50 : decode cX10_multiply 50 = .ok (.getfield 118, 3) := by decide +kernel
theorem dX10_multiply_53 : decode cX10_multiply 53 = .ok (.if_icmp .eq 7, 3) := by decide +kernel
theorem dX10_multiply_56 : decode cX10_multiply 56 = .ok (.iconst 1, 1) := by decide +kernel
theorem dX10_multiply_57 : decode cX10_multiply 57 = .ok (.goto 4, 3) := by decide +kernel
theorem dX10_multiply_60 : decode cX10_multiply 60 = .ok (.iconst 0, 1) := by decide +kernel
theorem dX10_multiply_61 : decode cX10_multiply 61 = .ok (.invokevirtual 122, 3) := by decide +kernel
theorem dX10_multiply_64 : decode cX10_multiply 64 = .ok (.aload_n 0, 1) := by decide +kernel
theorem dX10_multiply_65 : decode cX10_multiply 65 = .ok (.iload_n 1, 1) := by decide +kernel
theorem dX10_multiply_66 : decode cX10_multiply 66 = .ok (.aload_n 0, 1) := by decide +kernel
theorem dX10_multiply_67 : decode cX10_multiply 67 = .ok (.getfield 91, 3) := by decide +kernel
theorem dX10_multiply_70 : decode cX10_multiply 70 = .ok (.invokevirtual 126, 3) := by decide +kernel
theorem dX10_multiply_73 : decode cX10_multiply 73 = .ok (.ireturn, 1) := by decide +kernel
theorem dX10_divide_0 : decode cX10_divide 0 = .ok (.aload_n 0, 1) := by decide +kernel
theorem dX10_divide_1 : decode cX10_divide 1 = .ok (.iload_n 1, 1) := by decide +kernel
theorem dX10_divide_2 : decode cX10_divide 2 = .ok (.iload_n 2, 1) := by decide +kernel
theorem dX10_divide_3 : decode cX10_divide 3 = .ok (.invokevirtual 130, 3) := by decide +kernel
theorem dX10_divide_6 : decode cX10_divide 6 = .ok (.ifCond .eq 18, 3) := by decide +kernel
theorem dX10_divide_9 : decode cX10_divide 9 = .ok (.aload_n 0, 1) := by decide +kernel
theorem dX10_divide_10 : decode cX10_divide 10 = .ok (.iload_n 3, 1) := by decide +kernel
theorem dX10_divide_11 : decode cX10_divide 11 = .ok (.iload 4, 2) := by decide +kernel
theorem dX10_divide_13 : decode cX10_divide 13 = .ok (.invokevirtual 130, 3) := by decide +kernel
theorem dX10_divide_16 : decode cX10_divide 16 = .ok (.ifCond .eq 8, 3) := by decide +kernel
theorem dX10_divide_19 : decode cX10_divide 19 = .ok (.iload_n 1, 1) := by decide +kernel
theorem dX10_divide_20 : decode cX10_divide 20 = .ok (.iload_n 2, 1) := by decide +kernel
theorem dX10_divide_21 : decode cX10_divide 21 = .ok (.if_icmp .ne 5, 3) := by decide +kernel
theorem dX10_divide_24 : decode cX10_divide 24 = .ok (.iconst 3, 1) := by decide +kernel
theorem dX10_divide_25 : decode cX10_divide 25 = .ok (.ireturn, 1) := by decide +kernel
theorem dX10_divide_26 : decode cX10_divide 26 = .ok (.aload_n 0, 1) := by decide +kernel
theorem dX10_divide_27 : decode cX10_divide 27 = .ok (.getfield 24, 3) := by decide +kernel
theorem dX10_divide_30 : decode cX10_divide 30 = .ok (.iload_n 3, 1) := by decide +kernel
theorem dX10_divide_31 : decode cX10_divide 31 = .ok (.aaload, 1) := by decide +kernel
theorem dX10_divide_32 : decode cX10_divide 32 = .ok (.astore 5, 2) := by decide +kernel
theorem dX10_divide_34 : decode cX10_divide 34 = .ok (.aload_n 0, 1) := by decide +kernel
theorem dX10_divide_35 : decode cX10_divide 35 = .ok (.getfield 24, 3) := by decide +kernel
theorem dX10_divide_38 : decode cX10_divide 38 = .ok (.iload 4, 2) := by decide +kernel
theorem dX10_divide_40 : decode cX10_divide 40 = .ok (.aaload, 1) := by decide +kernel
theorem dX10_divide_41 : decode cX10_divide 41 = .ok (.astore 6, 2) := by decide +kernel
theorem dX10_divide_43 : decode cX10_divide 43 = .ok (.aload 6, 2) := by decide +kernel
theorem dX10_divide_45 : decode cX10_divide 45 = .ok (.getfield 148, 3) := by decide +kernel
theorem dX10_divide_48 : decode cX10_divide 48 = .ok (.ifCond .ne 5, 3) := by decide +kernel
theorem dX10_divide_51 : decode cX10_divide 51 = .ok (.iconst 2, 1) := by decide +kernel
theorem dX10_divide_52 : decode cX10_divide 52 = .ok (.ireturn, 1) := by decide +kernel
theorem dX10_divide_53 : decode cX10_divide 53 = .ok (.aload_n 0, 1) := by decide +kernel
theorem dX10_divide_54 : decode cX10_divide 54 = .ok (.getfield 34, 3) := by decide +kernel
theorem dX10_divide_57 : decode cX10_divide 57 = .ok (.aload_n 0, 1) := by decide +kernel
theorem dX10_divide_58 : decode cX10_divide 58 = .ok (.getfield 91, 3) := by decide +kernel
theorem dX10_divide_61 : decode cX10_divide 61 = .ok (.aload_n 0, 1) := by decide +kernel
theorem dX10_divide_62 : decode cX10_divide 62 = .ok (.getfield 95, 3) := by decide +kernel
theorem dX10_divide_65 : decode cX10_divide 65 = .ok (.aload 5, 2) := by decide +kernel
theorem dX10_divide_67 : decode cX10_divide 67 = .ok (.aload 6, 2) := by decide +kernel
theorem dX10_divide_69 : decode cX10_divide 69 = .ok (.invokevirtual 151, 3) := by decide +kernel
theorem dX10_divide_72 : decode cX10_divide 72 = .ok (.aload 5, 2) := by decide +kernel
theorem dX10_divide_74 : decode cX10_divide 74 = .ok (.getfield 118, 3) := by decide +kernel
theorem dX10_divide_77 : decode cX10_divide 77 = .ok (.ifCond .eq 41, 3) := by decide +kernel
theorem dX10_divide_80 : decode cX10_divide 80 = .ok (.aload_n 0, 1) := by decide +kernel
theorem dX10_divide_81 : decode cX10_divide 81 = .ok (.getfield 95, 3) := by decide +kernel
theorem dX10_divide_84 : decode cX10_divide 84 = .ok (.getfield 148, 3) := by decide +kernel
theorem dX10_divide_87 : decode cX10_divide 87 = .ok (.ifCond .le 31, 3) := by decide +kernel
theorem dX10_divide_90 : decode cX10_divide 90 = .ok (.aload_n 0, 1) := by decide +kernel
theorem dX10_divide_91 : decode cX10_divide 91 = .ok (.getfield 91, 3) := by decide +kernel
theorem dX10_divide_94 : decode cX10_divide 94 = .ok (.aload_n 0, 1) := by decide +kernel
theorem dX10_divide_95 : decode cX10_divide 95 = .ok (.getfield 91, 3) := by decide +kernel
theorem dX10_divide_98 : decode cX10_divide 98 = .ok (.aload_n 0, 1) := by decide +kernel
theorem dX10_divide_99 : decode cX10_divide 99 = .ok (.getfield 98, 3) := by decide +kernel
theorem dX10_divide_102 : decode cX10_divide 102 = .ok (.invokestatic 114, 3) := by decide +kernel
theorem dX10_divide_105 : decode cX10_divide 105 = .ok (.aload_n 0, 1) := by decide +kernel
theorem dX10_divide_106 : decode cX10_divide 106 = .ok (.getfield 95, 3) := by decide +kernel
theorem dX10_divide_109 : decode cX10_divide 109 = .ok (.aload 6, 2) := by decide +kernel
theorem dX10_divide_111 : decode cX10_divide 111 = .ok (.aload_n 0, 1) := by decide +kernel
theorem dX10_divide_112 : decode cX10_divide 112 = .ok (.getfield 95, 3) := by decide +kernel
theorem dX10_divide_115 : decode cX10_divide 115 = .ok (.invokestatic 155, 3) := by decide +kernel
theorem dX10_divide_118 : decode cX10_divide 118 = .ok (.aload_n 0, 1) := by decide +kernel
theorem dX10_divide_119 : decode cX10_divide 119 = .ok (.getfield 91, 3) := by decide +kernel
theorem dX10_divide_122 : decode cX10_divide 122 = .ok (.aload 5, 2) := by decide +kernel
theorem dX10_divide_124 : decode cX10_divide 124 = .ok (.getfield 118, 3) := by decide +kernel
theorem dX10_divide_127 : decode cX10_divide 127 = .ok (.aload 6, 2) := by decide +kernel
theorem dX10_divide_129 : decode cX10_divide 129 = .ok (.getfield 118, 3) := by decide +kernel
theorem dX10_divide_132 : decode cX10_divide 132 = .ok (.if_icmp .eq 7, 3) := by decide +kernel
theorem dX10_divide_135 : decode cX10_divide 135 = .ok (.iconst 1, 1) := by decide +kernel
theorem dX10_divide_136 : decode cX10_divide 136 = .ok (.goto 4, 3) := by decide +kernel
theorem dX10_divide_139 : decode cX10_divide 139 = .ok (.iconst 0, 1) := by decide +kernel
theorem dX10_divide_140 : decode cX10_divide 140 = .ok (.invokevirtual 122, 3) := by decide +kernel
theorem dX10_divide_143 : decode cX10_divide 143 = .ok (.aload_n 0, 1) := by decide +kernel
theorem dX10_divide_144 : decode cX10_divide 144 = .ok (.getfield 91, 3) := by decide +kernel
theorem dX10_divide_147 : decode cX10_divide 147 = .ok (.getfield 148, 3) := by decide +kernel
theorem dX10_divide_150 : decode cX10_divide 150 = .ok (.aload_n 0, 1) := by decide +kernel
theorem dX10_divide_151 : decode cX10_divide 151 = .ok (.getfield 18, 3) := by decide +kernel
theorem dX10_divide_154 : decode cX10_divide 154 = .ok (.if_icmp .gt 17, 3) := by decide +kernel
theorem dX10_divide_157 : decode cX10_divide 157 = .ok (.aload_n 0, 1) := by decide +kernel
theorem dX10_divide_158 : decode cX10_divide 158 = .ok (.getfield 95, 3) := by decide +kernel
theorem dX10_divide_161 : decode cX10_divide 161 = .ok (.getfield 148, 3) := by decide +kernel
theorem dX10_divide_164 : decode cX10_divide 164 = .ok (.aload_n 0, 1) := by decide +kernel
theorem dX10_divide_165 : decode cX10_divide 165 = .ok (.getfield 18, 3) := by decide +kernel
theorem dX10_divide_168 : decode cX10_divide 168 = .ok (.if_icmp .le 5, 3) := by decide +kernel
theorem dX10_divide_171 : decode cX10_divide 171 = .ok (.iconst 1, 1) := by decide +kernel
theorem dX10_divide_172 : decode cX10_divide 172 = .ok (.ireturn, 1) := by decide +kernel
theorem dX10_divide_173 : decode cX10_divide 173 = .ok (.aload_n 0, 1) := by decide +kernel
theorem dX10_divide_174 : decode cX10_divide 174 = .ok (.getfield 24, 3) := by decide +kernel
theorem dX10_divide_177 : decode cX10_divide 177 = .ok (.iload_n 1, 1) := by decide +kernel
theorem dX10_divide_178 : decode cX10_divide 178 = .ok (.aaload, 1) := by decide +kernel
theorem dX10_divide_179 : decode cX10_divide 179 = .ok (.aload_n 0, 1) := by decide +kernel
theorem dX10_divide_180 : decode cX10_divide 180 = .ok (.getfield 91, 3) := by decide +kernel
theorem dX10_divide_183 : decode cX10_divide 183 = .ok (.invokevirtual 134, 3) := by decide +kernel
theorem dX10_divide_186 : decode cX10_divide 186 = .ok (.aload_n 0, 1) := by decide +kernel
theorem dX10_divide_187 : decode cX10_divide 187 = .ok (.getfield 24, 3) := by decide +kernel
theorem dX10_divide_190 : decode cX10_divide 190 = .ok (.iload_n 2, 1) := by decide +kernel
theorem dX10_divide_191 : decode cX10_divide 191 = .ok (.aaload, 1) := by decide +kernel
theorem dX10_divide_192 : decode cX10_divide 192 = .ok (.aload_n 0, 1) := by decide +kernel
theorem dX10_divide_193 : decode cX10_divide 193 = .ok (.getfield 95, 3) := by decide +kernel
theorem dX10_divide_196 : decode cX10_divide 196 = .ok (.invokevirtual 134, 3) := by decide +kernel
theorem dX10_divide_199 : decode cX10_divide 199 = .ok (.iconst 0, 1) := by decide +kernel
theorem dX10_divide_200 : decode cX10_divide 200 = .ok (.ireturn, 1) := by decide +kernel
theorem dX10_shift_0 : decode cX10_shift 0 = .ok (.aload_n 0, 1) := by decide +kernel
theorem dX10_shift_1 : decode cX10_shift 1 = .ok (.iload_n 1, 1) := by decide +kernel
theorem dX10_shift_2 : decode cX10_shift 2 = .ok (.iload_n 2, 1) := by decide +kernel
theorem dX10_shift_3 : decode cX10_shift 3 = .ok (.invokevirtual 130, 3) := by decide +kernel
theorem dX10_shift_6 : decode cX10_shift 6 = .ok (.ifCond .ne 5, 3) := by decide +kernel
theorem dX10_shift_9 : decode cX10_shift 9 = .ok (.iconst 3, 1) := by decide +kernel
theorem dX10_shift_10 : decode cX10_shift 10 = .ok (.ireturn, 1) := by decide +kernel
theorem dX10_shift_11 : decode cX10_shift 11 = .ok (.aload_n 0, 1) := by decide +kernel
theorem dX10_shift_12 : decode cX10_shift 12 = .ok (.getfield 24, 3) := by decide +kernel
theorem dX10_shift_15 : decode cX10_shift 15 = .ok (.iload_n 2, 1) := by decide +kernel
theorem dX10_shift_16 : decode cX10_shift 16 = .ok (.aaload, 1) := by decide +kernel
theorem dX10_shift_17 : decode cX10_shift 17 = .ok (.astore 4, 2) := by decide +kernel
theorem dX10_shift_19 : decode cX10_shift 19 = .ok (.iload_n 3, 1) := by decide +kernel
theorem dX10_shift_20 : decode cX10_shift 20 = .ok (.ifCond .ge 22, 3) := by decide +kernel
theorem dX10_shift_23 : decode cX10_shift 23 = .ok (.aload_n 0, 1) := by decide +kernel
theorem dX10_shift_24 : decode cX10_shift 24 = .ok (.aload 4, 2) := by decide +kernel
theorem dX10_shift_26 : decode cX10_shift 26 = .ok (.iload_n 3, 1) := by decide +kernel
theorem dX10_shift_27 : decode cX10_shift 27 = .ok (.i2l, 1) := by decide +kernel
theorem dX10_shift_28 : decode cX10_shift 28 = .ok (.lneg, 1) := by decide +kernel
theorem dX10_shift_29 : decode cX10_shift 29 = .ok (.invokevirtual 158, 3) := by decide +kernel
theorem dX10_shift_32 : decode cX10_shift 32 = .ok (.aload_n 0, 1) := by decide +kernel
theorem dX10_shift_33 : decode cX10_shift 33 = .ok (.iload_n 1, 1) := by decide +kernel
theorem dX10_shift_34 : decode cX10_shift 34 = .ok (.aload_n 0, 1) := by decide +kernel
theorem dX10_shift_35 : decode cX10_shift 35 = .ok (.getfield 91, 3) := by decide +kernel
theorem dX10_shift_38 : decode cX10_shift 38 = .ok (.invokevirtual 126, 3) := by decide +kernel
theorem dX10_shift_41 : decode cX10_shift 41 = .ok (.ireturn, 1) := by decide +kernel
theorem dX10_shift_42 : decode cX10_shift 42 = .ok (.aload 4, 2) := by decide +kernel
theorem dX10_shift_44 : decode cX10_shift 44 = .ok (.getfield 148, 3) := by decide +kernel
theorem dX10_shift_47 : decode cX10_shift 47 = .ok (.ifCond .le 27, 3) := by decide +kernel
theorem dX10_shift_50 : decode cX10_shift 50 = .ok (.aload 4, 2) := by decide +kernel
theorem dX10_shift_52 : decode cX10_shift 52 = .ok (.invokevirtual 162, 3) := by decide +kernel
theorem dX10_shift_55 : decode cX10_shift 55 = .ok (.i2l, 1) := by decide +kernel
theorem dX10_shift_56 : decode cX10_shift 56 = .ok (.iload_n 3, 1) := by decide +kernel
theorem dX10_shift_57 : decode cX10_shift 57 = .ok (.i2l, 1) := by decide +kernel
theorem dX10_shift_58 : decode cX10_shift 58 = .ok (.ladd, 1) := by decide +kernel
theorem dX10_shift_59 : decode cX10_shift 59 = .ok (.ldc2_w 166, 3) := by decide +kernel
theorem dX10_shift_62 : decode cX10_shift 62 = .ok (.aload_n 0, 1) := by decide +kernel
theorem dX10_shift_63 : decode cX10_shift 63 = .ok (.getfield 18, 3) := by decide +kernel
theorem dX10_shift_66 : decode cX10_shift 66 = .ok (.i2l, 1) := by decide +kernel
theorem dX10_shift_67 : decode cX10_shift 67 = .ok (.lmul, 1) := by decide +kernel
theorem dX10_shift_68 : decode cX10_shift 68 = .ok (.lcmp, 1) := by decide +kernel
theorem dX10_shift_69 : decode cX10_shift 69 = .ok (.ifCond .le 5, 3) := by decide +kernel
theorem dX10_shift_72 : decode cX10_shift 72 = .ok (.iconst 1, 1) := by decide +kernel
theorem dX10_shift_73 : decode cX10_shift 73 = .ok (.ireturn, 1) := by decide +kernel
theorem dX10_shift_74 : decode cX10_shift 74 = .ok (.aload_n 0, 1) := by decide +kernel
theorem dX10_shift_75 : decode cX10_shift 75 = .ok (.getfield 91, 3) := by decide +kernel
theorem dX10_shift_78 : decode cX10_shift 78 = .ok (.aload 4, 2) := by decide +kernel
theorem dX10_shift_80 : decode cX10_shift 80 = .ok (.aload 4, 2) := by decide +kernel
theorem dX10_shift_82 : decode cX10_shift 82 = .ok (.getfield 148, 3) := by decide +kernel
theorem dX10_shift_85 : decode cX10_shift 85 = .ok (.ifCond .le 7, 3) := by decide +kernel
theorem dX10_shift_88 : decode cX10_shift 88 = .ok (.iload_n 3, 1) := by decide +kernel
theorem dX10_shift_89 : decode cX10_shift 89 = .ok (.goto 4, 3) := by decide +kernel
theorem dX10_shift_92 : decode cX10_shift 92 = .ok (.iconst 0, 1) := by decide +kernel
theorem dX10_shift_93 : decode cX10_shift 93 = .ok (.invokestatic 108, 3) := by decide +kernel
theorem dX10_shift_96 : decode cX10_shift 96 = .ok (.aload_n 0, 1) := by decide +kernel
theorem dX10_shift_97 : decode cX10_shift 97 = .ok (.getfield 91, 3) := by decide +kernel
theorem dX10_shift_100 : decode cX10_shift 100 = .ok (.aload 4, 2) := by decide +kernel
theorem dX10_shift_102 : decode cX10_shift 102 = .ok (.getfield 118, 3) := by decide +kernel
theorem dX10_shift_105 : decode cX10_shift 105 = .ok (.invokevirtual 122, 3) := by decide +kernel
theorem dX10_shift_108 : decode cX10_shift 108 = .ok (.aload_n 0, 1) := by decide +kernel
theorem dX10_shift_109 : decode cX10_shift 109 = .ok (.iload_n 1, 1) := by decide +kernel
theorem dX10_shift_110 : decode cX10_shift 110 = .ok (.aload_n 0, 1) := by decide +kernel
theorem dX10_shift_111 : decode cX10_shift 111 = .ok (.getfield 91, 3) := by decide +kernel
theorem dX10_shift_114 : decode cX10_shift 114 = .ok (.invokevirtual 126, 3) := by decide +kernel
theorem dX10_shift_117 : decode cX10_shift 117 = .ok (.ireturn, 1) := by decide +kernel
theorem dX10_compare_0 : decode cX10_compare 0 = .ok (.aload_n 0, 1) := by decide +kernel
theorem dX10_compare_1 : decode cX10_compare 1 = .ok (.iload_n 1, 1) := by decide +kernel
theorem dX10_compare_2 : decode cX10_compare 2 = .ok (.iload_n 2, 1) := by decide +kernel
theorem dX10_compare_3 : decode cX10_compare 3 = .ok (.invokevirtual 130, 3) := by decide +kernel
theorem dX10_compare_6 : decode cX10_compare 6 = .ok (.ifCond .ne 5, 3) := by decide +kernel
theorem dX10_compare_9 : decode cX10_compare 9 = .ok (.iconst 3, 1) := by decide +kernel
theorem dX10_compare_10 : decode cX10_compare 10 = .ok (.ireturn, 1) := by decide +kernel
theorem dX10_compare_11 : decode cX10_compare 11 = .ok (.aload_n 0, 1) := by decide +kernel
theorem dX10_compare_12 : decode cX10_compare 12 = .ok (.getfield 24, 3) := by decide +kernel
theorem dX10_compare_15 : decode cX10_compare 15 = .ok (.iload_n 1, 1) := by decide +kernel
theorem dX10_compare_16 : decode cX10_compare 16 = .ok (.aaload, 1) := by decide +kernel
theorem dX10_compare_17 : decode cX10_compare 17 = .ok (.astore_n 3, 1) := by decide +kernel
theorem dX10_compare_18 : decode cX10_compare 18 = .ok (.aload_n 0, 1) := by decide +kernel
theorem dX10_compare_19 : decode cX10_compare 19 = .ok (.getfield 24, 3) := by decide +kernel
theorem dX10_compare_22 : decode cX10_compare 22 = .ok (.iload_n 2, 1) := by decide +kernel
theorem dX10_compare_23 : decode cX10_compare 23 = .ok (.aaload, 1) := by decide +kernel
theorem dX10_compare_24 : decode cX10_compare 24 = .ok (.astore 4, 2) := by decide +kernel
theorem dX10_compare_26 : decode cX10_compare 26 = .ok (.aload_n 3, 1) := by decide +kernel
theorem dX10_compare_27 : decode cX10_compare 27 = .ok (.getfield 118, 3) := by decide +kernel
theorem dX10_compare_30 : decode cX10_compare 30 = .ok (.aload 4, 2) := by decide +kernel
theorem dX10_compare_32 : decode cX10_compare 32 = .ok (.getfield 118, 3) := by decide +kernel
theorem dX10_compare_35 : decode cX10_compare 35 = .ok (.if_icmp .eq 16, 3) := by decide +kernel
theorem dX10_compare_38 : decode cX10_compare 38 = .ok (.aload_n 3, 1) := by decide +kernel
theorem dX10_compare_39 : decode cX10_compare 39 = .ok (.getfield 118, 3) := by decide +kernel
theorem dX10_compare_42 : decode cX10_compare 42 = .ok (.ifCond .eq 7, 3) := by decide +kernel
theorem dX10_compare_45 : decode cX10_compare 45 = .ok (.iconst (-1), 1) := by decide +kernel
theorem dX10_compare_46 : decode cX10_compare 46 = .ok (.goto 4, 3) := by decide +kernel
theorem dX10_compare_49 : decode cX10_compare 49 = .ok (.iconst 1, 1) := by decide +kernel
theorem dX10_compare_50 : decode cX10_compare 50 = .ok (.ireturn, 1) := by decide +kernel
theorem dX10_compare_51 : decode cX10_compare 51 = .ok (.aload_n 3, 1) := by decide +kernel
theorem dX10_compare_52 : decode cX10_compare 52 = .ok (.aload 4, 2) := by decide +kernel
theorem dX10_compare_54 : decode cX10_compare 54 = .ok (.invokestatic 168, 3) := by decide +kernel
theorem dX10_compare_57 : decode cX10_compare 57 = .ok (.istore 5, 2) := by decide +kernel
theorem dX10_compare_59 : decode cX10_compare 59 = .ok (.aload_n 3, 1) := by decide +kernel
theorem dX10_compare_60 : decode cX10_compare 60 = .ok (.getfield 118, 3) := by decide +kernel
theorem dX10_compare_63 : decode cX10_compare 63 = .ok (.ifCond .eq 9, 3) := by decide +kernel
theorem dX10_compare_66 : decode cX10_compare 66 = .ok (.iload 5, 2) := by decide +kernel
theorem dX10_compare_68 : decode cX10_compare 68 = .ok (.ineg, 1) := by decide +kernel
theorem dX10_compare_69 : decode cX10_compare 69 = .ok (.goto 5, 3) := by decide +kernel
theorem dX10_compare_72 : decode cX10_compare 72 = .ok (.iload 5, 2) := by decide +kernel
theorem dX10_compare_74 : decode cX10_compare 74 = .ok (.ireturn, 1) := by decide +kernel
theorem dX10_gcdBinary_0 : decode cX10_gcdBinary 0 = .ok (.aload_n 0, 1) := by decide +kernel
theorem dX10_gcdBinary_1 : decode cX10_gcdBinary 1 = .ok (.iload_n 1, 1) := by decide +kernel
theorem dX10_gcdBinary_2 : decode cX10_gcdBinary 2 = .ok (.iload_n 2, 1) := by decide +kernel
theorem dX10_gcdBinary_3 : decode cX10_gcdBinary 3 = .ok (.iload_n 3, 1) := by decide +kernel
theorem dX10_gcdBinary_4 : decode cX10_gcdBinary 4 = .ok (.invokevirtual 138, 3) := by decide +kernel
theorem dX10_gcdBinary_7 : decode cX10_gcdBinary 7 = .ok (.ifCond .ne 5, 3) := by decide +kernel
theorem dX10_gcdBinary_10 : decode cX10_gcdBinary 10 = .ok (.iconst 3, 1) := by decide +kernel
theorem dX10_gcdBinary_11 : decode cX10_gcdBinary 11 = .ok (.ireturn, 1) := by decide +kernel
theorem dX10_gcdBinary_12 : decode cX10_gcdBinary 12 = .ok (.aload_n 0, 1) := by decide +kernel
theorem dX10_gcdBinary_13 : decode cX10_gcdBinary 13 = .ok (.iload_n 1, 1) := by decide +kernel
theorem dX10_gcdBinary_14 : decode cX10_gcdBinary 14 = .ok (.aload_n 0, 1) := by decide +kernel
theorem dX10_gcdBinary_15 : decode cX10_gcdBinary 15 = .ok (.getfield 43, 3) := by decide +kernel
theorem dX10_gcdBinary_18 : decode cX10_gcdBinary 18 = .ok (.aload_n 0, 1) := by decide +kernel
theorem dX10_gcdBinary_19 : decode cX10_gcdBinary 19 = .ok (.getfield 24, 3) := by decide +kernel
theorem dX10_gcdBinary_22 : decode cX10_gcdBinary 22 = .ok (.iload_n 2, 1) := by decide +kernel
theorem dX10_gcdBinary_23 : decode cX10_gcdBinary 23 = .ok (.aaload, 1) := by decide +kernel
theorem dX10_gcdBinary_24 : decode cX10_gcdBinary 24 = .ok (.aload_n 0, 1) := by decide +kernel
theorem dX10_gcdBinary_25 : decode cX10_gcdBinary 25 = .ok (.getfield 24, 3) := by decide +kernel
theorem dX10_gcdBinary_28 : decode cX10_gcdBinary 28 = .ok (.iload_n 3, 1) := by decide +kernel
theorem dX10_gcdBinary_29 : decode cX10_gcdBinary 29 = .ok (.aaload, 1) := by decide +kernel
theorem dX10_gcdBinary_30 : decode cX10_gcdBinary 30 = .ok (.invokevirtual 172, 3) := by decide +kernel
theorem dX10_gcdBinary_33 : decode cX10_gcdBinary 33 = .ok (.invokevirtual 126, 3) := by decide +kernel
theorem dX10_gcdBinary_36 : decode cX10_gcdBinary 36 = .ok (.ireturn, 1) := by decide +kernel
theorem dX10_gcdEuclid_0 : decode cX10_gcdEuclid 0 = .ok (.aload_n 0, 1) := by decide +kernel
theorem dX10_gcdEuclid_1 : decode cX10_gcdEuclid 1 = .ok (.iload_n 1, 1) := by decide +kernel
theorem dX10_gcdEuclid_2 : decode cX10_gcdEuclid 2 = .ok (.iload_n 2, 1) := by decide +kernel
theorem dX10_gcdEuclid_3 : decode cX10_gcdEuclid 3 = .ok (.iload_n 3, 1) := by decide +kernel
theorem dX10_gcdEuclid_4 : decode cX10_gcdEuclid 4 = .ok (.invokevirtual 138, 3) := by decide +kernel
theorem dX10_gcdEuclid_7 : decode cX10_gcdEuclid 7 = .ok (.ifCond .ne 5, 3) := by decide +kernel
theorem dX10_gcdEuclid_10 : decode cX10_gcdEuclid 10 = .ok (.iconst 3, 1) := by decide +kernel
theorem dX10_gcdEuclid_11 : decode cX10_gcdEuclid 11 = .ok (.ireturn, 1) := by decide +kernel
theorem dX10_gcdEuclid_12 : decode cX10_gcdEuclid 12 = .ok (.aload_n 0, 1) := by decide +kernel
theorem dX10_gcdEuclid_13 : decode cX10_gcdEuclid 13 = .ok (.iload_n 1, 1) := by decide +kernel
theorem dX10_gcdEuclid_14 : decode cX10_gcdEuclid 14 = .ok (.aload_n 0, 1) := by decide +kernel
theorem dX10_gcdEuclid_15 : decode cX10_gcdEuclid 15 = .ok (.getfield 43, 3) := by decide +kernel
theorem dX10_gcdEuclid_18 : decode cX10_gcdEuclid 18 = .ok (.aload_n 0, 1) := by decide +kernel
theorem dX10_gcdEuclid_19 : decode cX10_gcdEuclid 19 = .ok (.getfield 24, 3) := by decide +kernel
theorem dX10_gcdEuclid_22 : decode cX10_gcdEuclid 22 = .ok (.iload_n 2, 1) := by decide +kernel
theorem dX10_gcdEuclid_23 : decode cX10_gcdEuclid 23 = .ok (.aaload, 1) := by decide +kernel
theorem dX10_gcdEuclid_24 : decode cX10_gcdEuclid 24 = .ok (.aload_n 0, 1) := by decide +kernel
theorem dX10_gcdEuclid_25 : decode cX10_gcdEuclid 25 = .ok (.getfield 24, 3) := by decide +kernel
theorem dX10_gcdEuclid_28 : decode cX10_gcdEuclid 28 = .ok (.iload_n 3, 1) := by decide +kernel
theorem dX10_gcdEuclid_29 : decode cX10_gcdEuclid 29 = .ok (.aaload, 1) := by decide +kernel
theorem dX10_gcdEuclid_30 : decode cX10_gcdEuclid 30 = .ok (.invokevirtual 176, 3) := by decide +kernel
theorem dX10_gcdEuclid_33 : decode cX10_gcdEuclid 33 = .ok (.invokevirtual 126, 3) := by decide +kernel
theorem dX10_gcdEuclid_36 : decode cX10_gcdEuclid 36 = .ok (.ireturn, 1) := by decide +kernel
theorem dX10_gcdLehmer_0 : decode cX10_gcdLehmer 0 = .ok (.aload_n 0, 1) := by decide +kernel
theorem dX10_gcdLehmer_1 : decode cX10_gcdLehmer 1 = .ok (.iload_n 1, 1) := by decide +kernel
theorem dX10_gcdLehmer_2 : decode cX10_gcdLehmer 2 = .ok (.iload_n 2, 1) := by decide +kernel
theorem dX10_gcdLehmer_3 : decode cX10_gcdLehmer 3 = .ok (.iload_n 3, 1) := by decide +kernel
theorem dX10_gcdLehmer_4 : decode cX10_gcdLehmer 4 = .ok (.invokevirtual 138, 3) := by decide +kernel
theorem dX10_gcdLehmer_7 : decode cX10_gcdLehmer 7 = .ok (.ifCond .ne 5, 3) := by decide +kernel
theorem dX10_gcdLehmer_10 : decode cX10_gcdLehmer 10 = .ok (.iconst 3, 1) := by decide +kernel
theorem dX10_gcdLehmer_11 : decode cX10_gcdLehmer 11 = .ok (.ireturn, 1) := by decide +kernel
theorem dX10_gcdLehmer_12 : decode cX10_gcdLehmer 12 = .ok (.aload_n 0, 1) := by decide +kernel
theorem dX10_gcdLehmer_13 : decode cX10_gcdLehmer 13 = .ok (.iload_n 1, 1) := by decide +kernel
theorem dX10_gcdLehmer_14 : decode cX10_gcdLehmer 14 = .ok (.aload_n 0, 1) := by decide +kernel
theorem dX10_gcdLehmer_15 : decode cX10_gcdLehmer 15 = .ok (.getfield 50, 3) := by decide +kernel
theorem dX10_gcdLehmer_18 : decode cX10_gcdLehmer 18 = .ok (.aload_n 0, 1) := by decide +kernel
theorem dX10_gcdLehmer_19 : decode cX10_gcdLehmer 19 = .ok (.getfield 24, 3) := by decide +kernel
theorem dX10_gcdLehmer_22 : decode cX10_gcdLehmer 22 = .ok (.iload_n 2, 1) := by decide +kernel
theorem dX10_gcdLehmer_23 : decode cX10_gcdLehmer 23 = .ok (.aaload, 1) := by decide +kernel
theorem dX10_gcdLehmer_24 : decode cX10_gcdLehmer 24 = .ok (.aload_n 0, 1) := by decide +kernel
theorem dX10_gcdLehmer_25 : decode cX10_gcdLehmer 25 = .ok (.getfield 24, 3) := by decide +kernel
theorem dX10_gcdLehmer_28 : decode cX10_gcdLehmer 28 = .ok (.iload_n 3, 1) := by decide +kernel
theorem dX10_gcdLehmer_29 : decode cX10_gcdLehmer 29 = .ok (.aaload, 1) := by decide +kernel
theorem dX10_gcdLehmer_30 : decode cX10_gcdLehmer 30 = .ok (.invokevirtual 179, 3) := by decide +kernel
theorem dX10_gcdLehmer_33 : decode cX10_gcdLehmer 33 = .ok (.invokevirtual 126, 3) := by decide +kernel
theorem dX10_gcdLehmer_36 : decode cX10_gcdLehmer 36 = .ok (.istore 4, 2) := by decide +kernel
theorem dX10_gcdLehmer_38 : decode cX10_gcdLehmer 38 = .ok (.aload_n 0, 1) := by decide +kernel
theorem dX10_gcdLehmer_39 : decode cX10_gcdLehmer 39 = .ok (.aload_n 0, 1) := by decide +kernel
theorem dX10_gcdLehmer_40 : decode cX10_gcdLehmer 40 = .ok (.getfield 50, 3) := by decide +kernel
theorem dX10_gcdLehmer_43 : decode cX10_gcdLehmer 43 = .ok (.getfield 182, 3) := by decide +kernel
theorem dX10_gcdLehmer_46 : decode cX10_gcdLehmer 46 = .ok (.putfield 185, 3) := by decide +kernel
theorem dX10_gcdLehmer_49 : decode cX10_gcdLehmer 49 = .ok (.iload 4, 2) := by decide +kernel
theorem dX10_gcdLehmer_51 : decode cX10_gcdLehmer 51 = .ok (.ireturn, 1) := by decide +kernel
theorem dX10_lastSteps_0 : decode cX10_lastSteps 0 = .ok (.aload_n 0, 1) := by decide +kernel
theorem dX10_lastSteps_1 : decode cX10_lastSteps 1 = .ok (.getfield 185, 3) := by decide +kernel
theorem dX10_lastSteps_4 : decode cX10_lastSteps 4 = .ok (.ireturn, 1) := by decide +kernel
theorem dX10_bezout_0 : decode cX10_bezout 0 = .ok (.aload_n 0, 1) := by decide +kernel
theorem dX10_bezout_1 : decode cX10_bezout 1 = .ok (.iload_n 1, 1) := by decide +kernel
theorem dX10_bezout_2 : decode cX10_bezout 2 = .ok (.iload_n 2, 1) := by decide +kernel
theorem dX10_bezout_3 : decode cX10_bezout 3 = .ok (.iload_n 3, 1) := by decide +kernel
theorem dX10_bezout_4 : decode cX10_bezout 4 = .ok (.invokevirtual 138, 3) := by decide +kernel
theorem dX10_bezout_7 : decode cX10_bezout 7 = .ok (.ifCond .eq 29, 3) := by decide +kernel
theorem dX10_bezout_10 : decode cX10_bezout 10 = .ok (.aload_n 0, 1) := by decide +kernel
theorem dX10_bezout_11 : decode cX10_bezout 11 = .ok (.iload 4, 2) := by decide +kernel
theorem dX10_bezout_13 : decode cX10_bezout 13 = .ok (.iload 5, 2) := by decide +kernel
theorem dX10_bezout_15 : decode cX10_bezout 15 = .ok (.invokevirtual 130, 3) := by decide +kernel
theorem dX10_bezout_18 : decode cX10_bezout 18 = .ok (.ifCond .eq 18, 3) := by decide +kernel
theorem dX10_bezout_21 : decode cX10_bezout 21 = .ok (.iload_n 1, 1) := by decide +kernel
theorem dX10_bezout_22 : decode cX10_bezout 22 = .ok (.iload_n 2, 1) := by decide +kernel
theorem dX10_bezout_23 : decode cX10_bezout 23 = .ok (.if_icmp .eq 13, 3) := by decide +kernel
theorem dX10_bezout_26 : decode cX10_bezout 26 = .ok (.iload_n 1, 1) := by decide +kernel
theorem dX10_bezout_27 : decode cX10_bezout 27 = .ok (.iload_n 3, 1) := by decide +kernel
theorem dX10_bezout_28 : decode cX10_bezout 28 = .ok (.if_icmp .eq 8, 3) := by decide +kernel
theorem dX10_bezout_31 : decode cX10_bezout 31 = .ok (.iload_n 2, 1) := by decide +kernel
theorem dX10_bezout_32 : decode cX10_bezout 32 = .ok (.iload_n 3, 1) := by decide +kernel
theorem dX10_bezout_33 : decode cX10_bezout 33 = .ok (.if_icmp .ne 5, 3) := by decide +kernel
theorem dX10_bezout_36 : decode cX10_bezout 36 = .ok (.iconst 3, 1) := by decide +kernel
theorem dX10_bezout_37 : decode cX10_bezout 37 = .ok (.ireturn, 1) := by decide +kernel
theorem dX10_bezout_38 : decode cX10_bezout 38 = .ok (.aload_n 0, 1) := by decide +kernel
theorem dX10_bezout_39 : decode cX10_bezout 39 = .ok (.getfield 57, 3) := by decide +kernel
theorem dX10_bezout_42 : decode cX10_bezout 42 = .ok (.aload_n 0, 1) := by decide +kernel
theorem dX10_bezout_43 : decode cX10_bezout 43 = .ok (.getfield 24, 3) := by decide +kernel
theorem dX10_bezout_46 : decode cX10_bezout 46 = .ok (.iload 4, 2) := by decide +kernel
theorem dX10_bezout_48 : decode cX10_bezout 48 = .ok (.aaload, 1) := by decide +kernel
theorem dX10_bezout_49 : decode cX10_bezout 49 = .ok (.aload_n 0, 1) := by decide +kernel
theorem dX10_bezout_50 : decode cX10_bezout 50 = .ok (.getfield 24, 3) := by decide +kernel
theorem dX10_bezout_53 : decode cX10_bezout 53 = .ok (.iload 5, 2) := by decide +kernel
theorem dX10_bezout_55 : decode cX10_bezout 55 = .ok (.aaload, 1) := by decide +kernel
theorem dX10_bezout_56 : decode cX10_bezout 56 = .ok (.invokevirtual 186, 3) := by decide +kernel
theorem dX10_bezout_59 : decode cX10_bezout 59 = .ok (.aload_n 0, 1) := by decide +kernel
theorem dX10_bezout_60 : decode cX10_bezout 60 = .ok (.getfield 57, 3) := by decide +kernel
theorem dX10_bezout_63 : decode cX10_bezout 63 = .ok (.getfield 190, 3) := by decide +kernel
theorem dX10_bezout_66 : decode cX10_bezout 66 = .ok (.getfield 148, 3) := by decide +kernel
theorem dX10_bezout_69 : decode cX10_bezout 69 = .ok (.aload_n 0, 1) := by decide +kernel
theorem dX10_bezout_70 : decode cX10_bezout 70 = .ok (.getfield 18, 3) := by decide +kernel
theorem dX10_bezout_73 : decode cX10_bezout 73 = .ok (.if_icmp .gt 37, 3) := by decide +kernel
theorem dX10_bezout_76 : decode cX10_bezout 76 = .ok (.aload_n 0, 1) := by decide +kernel
theorem dX10_bezout_77 : decode cX10_bezout 77 = .ok (.getfield 57, 3) := by decide +kernel
theorem dX10_bezout_80 : decode cX10_bezout 80 = .ok (.getfield 193, 3) := by decide +kernel
theorem dX10_bezout_83 : decode cX10_bezout 83 = .ok (.getfield 148, 3) := by decide +kernel
theorem dX10_bezout_86 : decode cX10_bezout 86 = .ok (.aload_n 0, 1) := by decide +kernel
theorem dX10_bezout_87 : decode cX10_bezout 87 = .ok (.getfield 18, 3) := by decide +kernel
theorem dX10_bezout_90 : decode cX10_bezout 90 = .ok (.if_icmp .gt 20, 3) := by decide +kernel
theorem dX10_bezout_93 : decode cX10_bezout 93 = .ok (.aload_n 0, 1) := by decide +kernel
theorem dX10_bezout_94 : decode cX10_bezout 94 = .ok (.getfield 57, 3) := by decide +kernel
theorem dX10_bezout_97 : decode cX10_bezout 97 = .ok (.getfield 196, 3) := by decide +kernel
theorem dX10_bezout_100 : decode cX10_bezout 100 = .ok (.getfield 148, 3) := by decide +kernel
theorem dX10_bezout_103 : decode cX10_bezout 103 = .ok (.aload_n 0, 1) := by decide +kernel
theorem dX10_bezout_104 : decode cX10_bezout 104 = .ok (.getfield 18, 3) := by decide +kernel
theorem dX10_bezout_107 : decode cX10_bezout 107 = .ok (.if_icmp .le 5, 3) := by decide +kernel
theorem dX10_bezout_110 : decode cX10_bezout 110 = .ok (.iconst 1, 1) := by decide +kernel
theorem dX10_bezout_111 : decode cX10_bezout 111 = .ok (.ireturn, 1) := by decide +kernel
theorem dX10_bezout_112 : decode cX10_bezout 112 = .ok (.aload_n 0, 1) := by decide +kernel
theorem dX10_bezout_113 : decode cX10_bezout 113 = .ok (.getfield 24, 3) := by decide +kernel
theorem dX10_bezout_116 : decode cX10_bezout 116 = .ok (.iload_n 1, 1) := by decide +kernel
theorem dX10_bezout_117 : decode cX10_bezout 117 = .ok (.aaload, 1) := by decide +kernel
theorem dX10_bezout_118 : decode cX10_bezout 118 = .ok (.aload_n 0, 1) := by decide +kernel
theorem dX10_bezout_119 : decode cX10_bezout 119 = .ok (.getfield 57, 3) := by decide +kernel
theorem dX10_bezout_122 : decode cX10_bezout 122 = .ok (.getfield 190, 3) := by decide +kernel
theorem dX10_bezout_125 : decode cX10_bezout 125 = .ok (.invokevirtual 134, 3) := by decide +kernel
theorem dX10_bezout_128 : decode cX10_bezout 128 = .ok (.aload_n 0, 1) := by decide +kernel
theorem dX10_bezout_129 : decode cX10_bezout 129 = .ok (.getfield 24, 3) := by decide +kernel
theorem dX10_bezout_132 : decode cX10_bezout 132 = .ok (.iload_n 2, 1) := by decide +kernel
theorem dX10_bezout_133 : decode cX10_bezout 133 = .ok (.aaload, 1) := by decide +kernel
theorem dX10_bezout_134 : decode cX10_bezout 134 = .ok (.aload_n 0, 1) := by decide +kernel
theorem dX10_bezout_135 : decode cX10_bezout 135 = .ok (.getfield 57, 3) := by decide +kernel
theorem dX10_bezout_138 : decode cX10_bezout 138 = .ok (.getfield 193, 3) := by decide +kernel
theorem dX10_bezout_141 : decode cX10_bezout 141 = .ok (.invokevirtual 134, 3) := by decide +kernel
theorem dX10_bezout_144 : decode cX10_bezout 144 = .ok (.aload_n 0, 1) := by decide +kernel
theorem dX10_bezout_145 : decode cX10_bezout 145 = .ok (.getfield 24, 3) := by decide +kernel
theorem dX10_bezout_148 : decode cX10_bezout 148 = .ok (.iload_n 3, 1) := by decide +kernel
theorem dX10_bezout_149 : decode cX10_bezout 149 = .ok (.aaload, 1) := by decide +kernel
theorem dX10_bezout_150 : decode cX10_bezout 150 = .ok (.aload_n 0, 1) := by decide +kernel
theorem dX10_bezout_151 : decode cX10_bezout 151 = .ok (.getfield 57, 3) := by decide +kernel
theorem dX10_bezout_154 : decode cX10_bezout 154 = .ok (.getfield 196, 3) := by decide +kernel
theorem dX10_bezout_157 : decode cX10_bezout 157 = .ok (.invokevirtual 134, 3) := by decide +kernel
theorem dX10_bezout_160 : decode cX10_bezout 160 = .ok (.iconst 0, 1) := by decide +kernel
theorem dX10_bezout_161 : decode cX10_bezout 161 = .ok (.ireturn, 1) := by decide +kernel
theorem dX10_inverse_0 : decode cX10_inverse 0 = .ok (.aload_n 0, 1) := by decide +kernel
theorem dX10_inverse_1 : decode cX10_inverse 1 = .ok (.iload_n 1, 1) := by decide +kernel
theorem dX10_inverse_2 : decode cX10_inverse 2 = .ok (.iload_n 2, 1) := by decide +kernel
theorem dX10_inverse_3 : decode cX10_inverse 3 = .ok (.iload_n 3, 1) := by decide +kernel
theorem dX10_inverse_4 : decode cX10_inverse 4 = .ok (.invokevirtual 138, 3) := by decide +kernel
theorem dX10_inverse_7 : decode cX10_inverse 7 = .ok (.ifCond .ne 5, 3) := by decide +kernel
theorem dX10_inverse_10 : decode cX10_inverse 10 = .ok (.iconst 3, 1) := by decide +kernel
theorem dX10_inverse_11 : decode cX10_inverse 11 = .ok (.ireturn, 1) := by decide +kernel
theorem dX10_inverse_12 : decode cX10_inverse 12 = .ok (.aload_n 0, 1) := by decide +kernel
theorem dX10_inverse_13 : decode cX10_inverse 13 = .ok (.getfield 24, 3) := by decide +kernel
theorem dX10_inverse_16 : decode cX10_inverse 16 = .ok (.iload_n 3, 1) := by decide +kernel
theorem dX10_inverse_17 : decode cX10_inverse 17 = .ok (.aaload, 1) := by decide +kernel
theorem dX10_inverse_18 : decode cX10_inverse 18 = .ok (.astore 4, 2) := by decide +kernel
theorem dX10_inverse_20 : decode cX10_inverse 20 = .ok (.aload 4, 2) := by decide +kernel
theorem dX10_inverse_22 : decode cX10_inverse 22 = .ok (.invokevirtual 199, 3) := by decide +kernel
theorem dX10_inverse_25 : decode cX10_inverse 25 = .ok (.ifCond .ne 5, 3) := by decide +kernel
theorem dX10_inverse_28 : decode cX10_inverse 28 = .ok (.iconst 2, 1) := by decide +kernel
theorem dX10_inverse_29 : decode cX10_inverse 29 = .ok (.ireturn, 1) := by decide +kernel
theorem dX10_inverse_30 : decode cX10_inverse 30 = .ok (.aload_n 0, 1) := by decide +kernel
theorem dX10_inverse_31 : decode cX10_inverse 31 = .ok (.getfield 64, 3) := by decide +kernel
theorem dX10_inverse_34 : decode cX10_inverse 34 = .ok (.aload_n 0, 1) := by decide +kernel
theorem dX10_inverse_35 : decode cX10_inverse 35 = .ok (.getfield 95, 3) := by decide +kernel
theorem dX10_inverse_38 : decode cX10_inverse 38 = .ok (.aload_n 0, 1) := by decide +kernel
theorem dX10_inverse_39 : decode cX10_inverse 39 = .ok (.getfield 24, 3) := by decide +kernel
theorem dX10_inverse_42 : decode cX10_inverse 42 = .ok (.iload_n 2, 1) := by decide +kernel
theorem dX10_inverse_43 : decode cX10_inverse 43 = .ok (.aaload, 1) := by decide +kernel
theorem dX10_inverse_44 : decode cX10_inverse 44 = .ok (.aload 4, 2) := by decide +kernel
theorem dX10_inverse_46 : decode cX10_inverse 46 = .ok (.invokevirtual 203, 3) := by decide +kernel
theorem dX10_inverse_49 : decode cX10_inverse 49 = .ok (.aload_n 0, 1) := by decide +kernel
theorem dX10_inverse_50 : decode cX10_inverse 50 = .ok (.getfield 57, 3) := by decide +kernel
theorem dX10_inverse_53 : decode cX10_inverse 53 = .ok (.aload_n 0, 1) := by decide +kernel
theorem dX10_inverse_54 : decode cX10_inverse 54 = .ok (.getfield 95, 3) := by decide +kernel
theorem dX10_inverse_57 : decode cX10_inverse 57 = .ok (.aload 4, 2) := by decide +kernel
theorem dX10_inverse_59 : decode cX10_inverse 59 = .ok (.invokevirtual 186, 3) := by decide +kernel
theorem dX10_inverse_62 : decode cX10_inverse 62 = .ok (.aload_n 0, 1) := by decide +kernel
theorem dX10_inverse_63 : decode cX10_inverse 63 = .ok (.getfield 57, 3) := by decide +kernel
theorem dX10_inverse_66 : decode cX10_inverse 66 = .ok (.getfield 190, 3) := by decide +kernel
theorem dX10_inverse_69 : decode cX10_inverse 69 = .ok (.aload_n 0, 1) := by decide +kernel
theorem dX10_inverse_70 : decode cX10_inverse 70 = .ok (.getfield 98, 3) := by decide +kernel
theorem dX10_inverse_73 : decode cX10_inverse 73 = .ok (.invokestatic 168, 3) := by decide +kernel
end
section
theorem dX10_inverse_76 : decode cX10_inverse 76 = .ok (.ifCond .eq 5, 3) := by decide +kernel
theorem dX10_inverse_79 : decode cX10_inverse 79 = .ok (.iconst 2, 1) := by decide +kernel
theorem dX10_inverse_80 : decode cX10_inverse 80 = .ok (.ireturn, 1) := by decide +kernel
theorem dX10_inverse_81 : decode cX10_inverse 81 = .ok (.aload_n 0, 1) := by decide +kernel
theorem dX10_inverse_82 : decode cX10_inverse 82 = .ok (.getfield 64, 3) := by decide +kernel
theorem dX10_inverse_85 : decode cX10_inverse 85 = .ok (.aload_n 0, 1) := by decide +kernel
theorem dX10_inverse_86 : decode cX10_inverse 86 = .ok (.getfield 91, 3) := by decide +kernel
theorem dX10_inverse_89 : decode cX10_inverse 89 = .ok (.aload_n 0, 1) := by decide +kernel
theorem dX10_inverse_90 : decode cX10_inverse 90 = .ok (.getfield 57, 3) := by decide +kernel
theorem dX10_inverse_93 : decode cX10_inverse 93 = .ok (.getfield 193, 3) := by decide +kernel
theorem dX10_inverse_96 : decode cX10_inverse 96 = .ok (.aload 4, 2) := by decide +kernel
theorem dX10_inverse_98 : decode cX10_inverse 98 = .ok (.invokevirtual 203, 3) := by decide +kernel
theorem dX10_inverse_101 : decode cX10_inverse 101 = .ok (.aload_n 0, 1) := by decide +kernel
theorem dX10_inverse_102 : decode cX10_inverse 102 = .ok (.iload_n 1, 1) := by decide +kernel
theorem dX10_inverse_103 : decode cX10_inverse 103 = .ok (.aload_n 0, 1) := by decide +kernel
theorem dX10_inverse_104 : decode cX10_inverse 104 = .ok (.getfield 91, 3) := by decide +kernel
theorem dX10_inverse_107 : decode cX10_inverse 107 = .ok (.invokevirtual 126, 3) := by decide +kernel
theorem dX10_inverse_110 : decode cX10_inverse 110 = .ok (.ireturn, 1) := by decide +kernel
theorem dX10_power_0 : decode cX10_power 0 = .ok (.aload_n 0, 1) := by decide +kernel
theorem dX10_power_1 : decode cX10_power 1 = .ok (.iload_n 1, 1) := by decide +kernel
theorem dX10_power_2 : decode cX10_power 2 = .ok (.iload_n 2, 1) := by decide +kernel
theorem dX10_power_3 : decode cX10_power 3 = .ok (.invokevirtual 130, 3) := by decide +kernel
theorem dX10_power_6 : decode cX10_power 6 = .ok (.ifCond .eq 13, 3) := by decide +kernel
theorem dX10_power_9 : decode cX10_power 9 = .ok (.aload_n 0, 1) := by decide +kernel
theorem dX10_power_10 : decode cX10_power 10 = .ok (.iload_n 3, 1) := by decide +kernel
theorem dX10_power_11 : decode cX10_power 11 = .ok (.iload 4, 2) := by decide +kernel
theorem dX10_power_13 : decode cX10_power 13 = .ok (.invokevirtual 130, 3) := by decide +kernel
theorem dX10_power_16 : decode cX10_power 16 = .ok (.ifCond .ne 5, 3) := by decide +kernel
theorem dX10_power_19 : decode cX10_power 19 = .ok (.iconst 3, 1) := by decide +kernel
theorem dX10_power_20 : decode cX10_power 20 = .ok (.ireturn, 1) := by decide +kernel
theorem dX10_power_21 : decode cX10_power 21 = .ok (.aload_n 0, 1) := by decide +kernel
theorem dX10_power_22 : decode cX10_power 22 = .ok (.getfield 24, 3) := by decide +kernel
theorem dX10_power_25 : decode cX10_power 25 = .ok (.iload_n 3, 1) := by decide +kernel
theorem dX10_power_26 : decode cX10_power 26 = .ok (.aaload, 1) := by decide +kernel
theorem dX10_power_27 : decode cX10_power 27 = .ok (.getfield 118, 3) := by decide +kernel
theorem dX10_power_30 : decode cX10_power 30 = .ok (.ifCond .ne 16, 3) := by decide +kernel
theorem dX10_power_33 : decode cX10_power 33 = .ok (.aload_n 0, 1) := by decide +kernel
theorem dX10_power_34 : decode cX10_power 34 = .ok (.getfield 24, 3) := by decide +kernel
theorem dX10_power_37 : decode cX10_power 37 = .ok (.iload 4, 2) := by decide +kernel
theorem dX10_power_39 : decode cX10_power 39 = .ok (.aaload, 1) := by decide +kernel
theorem dX10_power_40 : decode cX10_power 40 = .ok (.invokevirtual 199, 3) := by decide +kernel
theorem dX10_power_43 : decode cX10_power 43 = .ok (.ifCond .ne 5, 3) := by decide +kernel
theorem dX10_power_46 : decode cX10_power 46 = .ok (.iconst 2, 1) := by decide +kernel
theorem dX10_power_47 : decode cX10_power 47 = .ok (.ireturn, 1) := by decide +kernel
theorem dX10_power_48 : decode cX10_power 48 = .ok (.aload_n 0, 1) := by decide +kernel
theorem dX10_power_49 : decode cX10_power 49 = .ok (.iload_n 1, 1) := by decide +kernel
theorem dX10_power_50 : decode cX10_power 50 = .ok (.aload_n 0, 1) := by decide +kernel
theorem dX10_power_51 : decode cX10_power 51 = .ok (.getfield 64, 3) := by decide +kernel
theorem dX10_power_54 : decode cX10_power 54 = .ok (.aload_n 0, 1) := by decide +kernel
theorem dX10_power_55 : decode cX10_power 55 = .ok (.getfield 24, 3) := by decide +kernel
theorem dX10_power_58 : decode cX10_power 58 = .ok (.iload_n 2, 1) := by decide +kernel
theorem dX10_power_59 : decode cX10_power 59 = .ok (.aaload, 1) := by decide +kernel
theorem dX10_power_60 : decode cX10_power 60 = .ok (.aload_n 0, 1) := by decide +kernel
theorem dX10_power_61 : decode cX10_power 61 = .ok (.getfield 24, 3) := by decide +kernel
theorem dX10_power_64 : decode cX10_power 64 = .ok (.iload_n 3, 1) := by decide +kernel
theorem dX10_power_65 : decode cX10_power 65 = .ok (.aaload, 1) := by decide +kernel
theorem dX10_power_66 : decode cX10_power 66 = .ok (.aload_n 0, 1) := by decide +kernel
theorem dX10_power_67 : decode cX10_power 67 = .ok (.getfield 24, 3) := by decide +kernel
theorem dX10_power_70 : decode cX10_power 70 = .ok (.iload 4, 2) := by decide +kernel
theorem dX10_power_72 : decode cX10_power 72 = .ok (.aaload, 1) := by decide +kernel
theorem dX10_power_73 : decode cX10_power 73 = .ok (.invokevirtual 206, 3) := by decide +kernel
theorem dX10_power_76 : decode cX10_power 76 = .ok (.invokevirtual 126, 3) := by decide +kernel
theorem dX10_power_79 : decode cX10_power 79 = .ok (.ireturn, 1) := by decide +kernel
theorem dX10_isqrt_0 : decode cX10_isqrt 0 = .ok (.aload_n 0, 1) := by decide +kernel
theorem dX10_isqrt_1 : decode cX10_isqrt 1 = .ok (.iload_n 1, 1) := by decide +kernel
theorem dX10_isqrt_2 : decode cX10_isqrt 2 = .ok (.iload_n 2, 1) := by decide +kernel
theorem dX10_isqrt_3 : decode cX10_isqrt 3 = .ok (.invokevirtual 130, 3) := by decide +kernel
theorem dX10_isqrt_6 : decode cX10_isqrt 6 = .ok (.ifCond .ne 5, 3) := by decide +kernel
theorem dX10_isqrt_9 : decode cX10_isqrt 9 = .ok (.iconst 3, 1) := by decide +kernel
theorem dX10_isqrt_10 : decode cX10_isqrt 10 = .ok (.ireturn, 1) := by decide +kernel
theorem dX10_isqrt_11 : decode cX10_isqrt 11 = .ok (.aload_n 0, 1) := by decide +kernel
theorem dX10_isqrt_12 : decode cX10_isqrt 12 = .ok (.getfield 24, 3) := by decide +kernel
theorem dX10_isqrt_15 : decode cX10_isqrt 15 = .ok (.iload_n 2, 1) := by decide +kernel
theorem dX10_isqrt_16 : decode cX10_isqrt 16 = .ok (.aaload, 1) := by decide +kernel
theorem dX10_isqrt_17 : decode cX10_isqrt 17 = .ok (.getfield 118, 3) := by decide +kernel
theorem dX10_isqrt_20 : decode cX10_isqrt 20 = .ok (.ifCond .eq 5, 3) := by decide +kernel
theorem dX10_isqrt_23 : decode cX10_isqrt 23 = .ok (.iconst 2, 1) := by decide +kernel
theorem dX10_isqrt_24 : decode cX10_isqrt 24 = .ok (.ireturn, 1) := by decide +kernel
theorem dX10_isqrt_25 : decode cX10_isqrt 25 = .ok (.aload_n 0, 1) := by decide +kernel
theorem dX10_isqrt_26 : decode cX10_isqrt 26 = .ok (.iload_n 1, 1) := by decide +kernel
theorem dX10_isqrt_27 : decode cX10_isqrt 27 = .ok (.aload_n 0, 1) := by decide +kernel
theorem dX10_isqrt_28 : decode cX10_isqrt 28 = .ok (.getfield 71, 3) := by decide +kernel
theorem dX10_isqrt_31 : decode cX10_isqrt 31 = .ok (.aload_n 0, 1) := by decide +kernel
theorem dX10_isqrt_32 : decode cX10_isqrt 32 = .ok (.getfield 24, 3) := by decide +kernel
theorem dX10_isqrt_35 : decode cX10_isqrt 35 = .ok (.iload_n 2, 1) := by decide +kernel
theorem dX10_isqrt_36 : decode cX10_isqrt 36 = .ok (.aaload, 1) := by decide +kernel
theorem dX10_isqrt_37 : decode cX10_isqrt 37 = .ok (.iconst 2, 1) := by decide +kernel
theorem dX10_isqrt_38 : decode cX10_isqrt 38 = .ok (.invokevirtual 210, 3) := by decide +kernel
theorem dX10_isqrt_41 : decode cX10_isqrt 41 = .ok (.invokevirtual 126, 3) := by decide +kernel
theorem dX10_isqrt_44 : decode cX10_isqrt 44 = .ok (.ireturn, 1) := by decide +kernel
theorem dX10_root_0 : decode cX10_root 0 = .ok (.aload_n 0, 1) := by decide +kernel
theorem dX10_root_1 : decode cX10_root 1 = .ok (.iload_n 1, 1) := by decide +kernel
theorem dX10_root_2 : decode cX10_root 2 = .ok (.iload_n 2, 1) := by decide +kernel
theorem dX10_root_3 : decode cX10_root 3 = .ok (.invokevirtual 130, 3) := by decide +kernel
theorem dX10_root_6 : decode cX10_root 6 = .ok (.ifCond .ne 5, 3) := by decide +kernel
theorem dX10_root_9 : decode cX10_root 9 = .ok (.iconst 3, 1) := by decide +kernel
theorem dX10_root_10 : decode cX10_root 10 = .ok (.ireturn, 1) := by decide +kernel
theorem dX10_root_11 : decode cX10_root 11 = .ok (.aload_n 0, 1) := by decide +kernel
theorem dX10_root_12 : decode cX10_root 12 = .ok (.getfield 24, 3) := by decide +kernel
theorem dX10_root_15 : decode cX10_root 15 = .ok (.iload_n 2, 1) := by decide +kernel
theorem dX10_root_16 : decode cX10_root 16 = .ok (.aaload, 1) := by decide +kernel
theorem dX10_root_17 : decode cX10_root 17 = .ok (.getfield 118, 3) := by decide +kernel
theorem dX10_root_20 : decode cX10_root 20 = .ok (.ifCond .ne 8, 3) := by decide +kernel
theorem dX10_root_23 : decode cX10_root 23 = .ok (.iload_n 3, 1) := by decide +kernel
theorem dX10_root_24 : decode cX10_root 24 = .ok (.iconst 1, 1) := by decide +kernel
theorem dX10_root_25 : decode cX10_root 25 = .ok (.if_icmp .ge 5, 3) := by decide +kernel
theorem dX10_root_28 : decode cX10_root 28 = .ok (.iconst 2, 1) := by decide +kernel
theorem dX10_root_29 : decode cX10_root 29 = .ok (.ireturn, 1) := by decide +kernel
theorem dX10_root_30 : decode cX10_root 30 = .ok (.aload_n 0, 1) := by decide +kernel
theorem dX10_root_31 : decode cX10_root 31 = .ok (.iload_n 1, 1) := by decide +kernel
theorem dX10_root_32 : decode cX10_root 32 = .ok (.aload_n 0, 1) := by decide +kernel
theorem dX10_root_33 : decode cX10_root 33 = .ok (.getfield 71, 3) := by decide +kernel
theorem dX10_root_36 : decode cX10_root 36 = .ok (.aload_n 0, 1) := by decide +kernel
theorem dX10_root_37 : decode cX10_root 37 = .ok (.getfield 24, 3) := by decide +kernel
theorem dX10_root_40 : decode cX10_root 40 = .ok (.iload_n 2, 1) := by decide +kernel
theorem dX10_root_41 : decode cX10_root 41 = .ok (.aaload, 1) := by decide +kernel
theorem dX10_root_42 : decode cX10_root 42 = .ok (.iload_n 3, 1) := by decide +kernel
theorem dX10_root_43 : decode cX10_root 43 = .ok (.invokevirtual 210, 3) := by decide +kernel
theorem dX10_root_46 : decode cX10_root 46 = .ok (.invokevirtual 126, 3) := by decide +kernel
theorem dX10_root_49 : decode cX10_root 49 = .ok (.ireturn, 1) := by decide +kernel
theorem dX10_isSquare_0 : decode cX10_isSquare 0 = .ok (.aload_n 0, 1) := by decide +kernel
theorem dX10_isSquare_1 : decode cX10_isSquare 1 = .ok (.iload_n 1, 1) := by decide +kernel
theorem dX10_isSquare_2 : decode cX10_isSquare 2 = .ok (.invokevirtual 104, 3) := by decide +kernel
theorem dX10_isSquare_5 : decode cX10_isSquare 5 = .ok (.ifCond .ne 5, 3) := by decide +kernel
theorem dX10_isSquare_8 : decode cX10_isSquare 8 = .ok (.iconst 3, 1) := by decide +kernel
theorem dX10_isSquare_9 : decode cX10_isSquare 9 = .ok (.ireturn, 1) := by decide +kernel
theorem dX10_isSquare_10 : decode cX10_isSquare 10 = .ok (.aload_n 0, 1) := by decide +kernel
theorem dX10_isSquare_11 : decode cX10_isSquare 11 = .ok (.getfield 24, 3) := by decide +kernel
theorem dX10_isSquare_14 : decode cX10_isSquare 14 = .ok (.iload_n 1, 1) := by decide +kernel
theorem dX10_isSquare_15 : decode cX10_isSquare 15 = .ok (.aaload, 1) := by decide +kernel
theorem dX10_isSquare_16 : decode cX10_isSquare 16 = .ok (.astore_n 2, 1) := by decide +kernel
theorem dX10_isSquare_17 : decode cX10_isSquare 17 = .ok (.aload_n 2, 1) := by decide +kernel
theorem dX10_isSquare_18 : decode cX10_isSquare 18 = .ok (.getfield 118, 3) := by decide +kernel
theorem dX10_isSquare_21 : decode cX10_isSquare 21 = .ok (.ifCond .eq 5, 3) := by decide +kernel
theorem dX10_isSquare_24 : decode cX10_isSquare 24 = .ok (.iconst 0, 1) := by decide +kernel
theorem dX10_isSquare_25 : decode cX10_isSquare 25 = .ok (.ireturn, 1) := by decide +kernel
theorem dX10_isSquare_26 : decode cX10_isSquare 26 = .ok (.aload_n 0, 1) := by decide +kernel
theorem dX10_isSquare_27 : decode cX10_isSquare 27 = .ok (.getfield 71, 3) := by decide +kernel
theorem dX10_isSquare_30 : decode cX10_isSquare 30 = .ok (.aload_n 2, 1) := by decide +kernel
theorem dX10_isSquare_31 : decode cX10_isSquare 31 = .ok (.iconst 2, 1) := by decide +kernel
theorem dX10_isSquare_32 : decode cX10_isSquare 32 = .ok (.invokevirtual 210, 3) := by decide +kernel
theorem dX10_isSquare_35 : decode cX10_isSquare 35 = .ok (.astore_n 3, 1) := by decide +kernel
theorem dX10_isSquare_36 : decode cX10_isSquare 36 = .ok (.aload_n 0, 1) := by decide +kernel
theorem dX10_isSquare_37 : decode cX10_isSquare 37 = .ok (.getfield 91, 3) := by decide +kernel
theorem dX10_isSquare_40 : decode cX10_isSquare 40 = .ok (.aload_n 3, 1) := by decide +kernel
theorem dX10_isSquare_41 : decode cX10_isSquare 41 = .ok (.aload_n 3, 1) := by decide +kernel
theorem dX10_isSquare_42 : decode cX10_isSquare 42 = .ok (.invokestatic 145, 3) := by decide +kernel
theorem dX10_isSquare_45 : decode cX10_isSquare 45 = .ok (.aload_n 0, 1) := by decide +kernel
theorem dX10_isSquare_46 : decode cX10_isSquare 46 = .ok (.getfield 91, 3) := by decide +kernel
theorem dX10_isSquare_49 : decode cX10_isSquare 49 = .ok (.aload_n 2, 1) := by decide +kernel
theorem dX10_isSquare_50 : decode cX10_isSquare 50 = .ok (.invokestatic 168, 3) := by decide +kernel
theorem dX10_isSquare_53 : decode cX10_isSquare 53 = .ok (.ifCond .ne 7, 3) := by decide +kernel
theorem dX10_isSquare_56 : decode cX10_isSquare 56 = .ok (.iconst 1, 1) := by decide +kernel
theorem dX10_isSquare_57 : decode cX10_isSquare 57 = .ok (.goto 4, 3) := by decide +kernel
theorem dX10_isSquare_60 : decode cX10_isSquare 60 = .ok (.iconst 0, 1) := by decide +kernel
theorem dX10_isSquare_61 : decode cX10_isSquare 61 = .ok (.ireturn, 1) := by decide +kernel
theorem dX10_jacobi_0 : decode cX10_jacobi 0 = .ok (.aload_n 0, 1) := by decide +kernel
theorem dX10_jacobi_1 : decode cX10_jacobi 1 = .ok (.iload_n 1, 1) := by decide +kernel
theorem dX10_jacobi_2 : decode cX10_jacobi 2 = .ok (.iload_n 2, 1) := by decide +kernel
theorem dX10_jacobi_3 : decode cX10_jacobi 3 = .ok (.invokevirtual 130, 3) := by decide +kernel
theorem dX10_jacobi_6 : decode cX10_jacobi 6 = .ok (.ifCond .ne 5, 3) := by decide +kernel
theorem dX10_jacobi_9 : decode cX10_jacobi 9 = .ok (.iconst 3, 1) := by decide +kernel
theorem dX10_jacobi_10 : decode cX10_jacobi 10 = .ok (.ireturn, 1) := by decide +kernel
theorem dX10_jacobi_11 : decode cX10_jacobi 11 = .ok (.aload_n 0, 1) := by decide +kernel
theorem dX10_jacobi_12 : decode cX10_jacobi 12 = .ok (.getfield 24, 3) := by decide +kernel
theorem dX10_jacobi_15 : decode cX10_jacobi 15 = .ok (.iload_n 2, 1) := by decide +kernel
theorem dX10_jacobi_16 : decode cX10_jacobi 16 = .ok (.aaload, 1) := by decide +kernel
theorem dX10_jacobi_17 : decode cX10_jacobi 17 = .ok (.astore_n 3, 1) := by decide +kernel
theorem dX10_jacobi_18 : decode cX10_jacobi 18 = .ok (.aload_n 3, 1) := by decide +kernel
theorem dX10_jacobi_19 : decode cX10_jacobi 19 = .ok (.invokevirtual 199, 3) := by decide +kernel
theorem dX10_jacobi_22 : decode cX10_jacobi 22 = .ok (.ifCond .eq 10, 3) := by decide +kernel
theorem dX10_jacobi_25 : decode cX10_jacobi 25 = .ok (.aload_n 3, 1) := by decide +kernel
theorem dX10_jacobi_26 : decode cX10_jacobi 26 = .ok (.invokevirtual 213, 3) := by decide +kernel
theorem dX10_jacobi_29 : decode cX10_jacobi 29 = .ok (.ifCond .ne 5, 3) := by decide +kernel
theorem dX10_jacobi_32 : decode cX10_jacobi 32 = .ok (.iconst 2, 1) := by decide +kernel
theorem dX10_jacobi_33 : decode cX10_jacobi 33 = .ok (.ireturn, 1) := by decide +kernel
theorem dX10_jacobi_34 : decode cX10_jacobi 34 = .ok (.aload_n 0, 1) := by decide +kernel
theorem dX10_jacobi_35 : decode cX10_jacobi 35 = .ok (.getfield 64, 3) := by decide +kernel
theorem dX10_jacobi_38 : decode cX10_jacobi 38 = .ok (.aload_n 0, 1) := by decide +kernel
theorem dX10_jacobi_39 : decode cX10_jacobi 39 = .ok (.getfield 24, 3) := by decide +kernel
theorem dX10_jacobi_42 : decode cX10_jacobi 42 = .ok (.iload_n 1, 1) := by decide +kernel
theorem dX10_jacobi_43 : decode cX10_jacobi 43 = .ok (.aaload, 1) := by decide +kernel
theorem dX10_jacobi_44 : decode cX10_jacobi 44 = .ok (.aload_n 3, 1) := by decide +kernel
theorem dX10_jacobi_45 : decode cX10_jacobi 45 = .ok (.invokevirtual 216, 3) := by decide +kernel
theorem dX10_jacobi_48 : decode cX10_jacobi 48 = .ok (.ireturn, 1) := by decide +kernel
theorem dX10_sign_0 : decode cX10_sign 0 = .ok (.aload_n 0, 1) := by decide +kernel
theorem dX10_sign_1 : decode cX10_sign 1 = .ok (.iload_n 1, 1) := by decide +kernel
theorem dX10_sign_2 : decode cX10_sign 2 = .ok (.invokevirtual 219, 3) := by decide +kernel
theorem dX10_sign_5 : decode cX10_sign 5 = .ok (.astore_n 2, 1) := by decide +kernel
theorem dX10_sign_6 : decode cX10_sign 6 = .ok (.aload_n 2, 1) := by decide +kernel
theorem dX10_sign_7 : decode cX10_sign 7 = .ok (.getfield 148, 3) := by decide +kernel
theorem dX10_sign_10 : decode cX10_sign 10 = .ok (.ifCond .ne 5, 3) := by decide +kernel
theorem dX10_sign_13 : decode cX10_sign 13 = .ok (.iconst 0, 1) := by decide +kernel
theorem dX10_sign_14 : decode cX10_sign 14 = .ok (.ireturn, 1) := by decide +kernel
theorem dX10_sign_15 : decode cX10_sign 15 = .ok (.aload_n 2, 1) := by decide +kernel
theorem dX10_sign_16 : decode cX10_sign 16 = .ok (.getfield 118, 3) := by decide +kernel
theorem dX10_sign_19 : decode cX10_sign 19 = .ok (.ifCond .eq 7, 3) := by decide +kernel
theorem dX10_sign_22 : decode cX10_sign 22 = .ok (.iconst (-1), 1) := by decide +kernel
theorem dX10_sign_23 : decode cX10_sign 23 = .ok (.goto 4, 3) := by decide +kernel
theorem dX10_sign_26 : decode cX10_sign 26 = .ok (.iconst 1, 1) := by decide +kernel
theorem dX10_sign_27 : decode cX10_sign 27 = .ok (.ireturn, 1) := by decide +kernel
theorem dX10_length_0 : decode cX10_length 0 = .ok (.aload_n 0, 1) := by decide +kernel
theorem dX10_length_1 : decode cX10_length 1 = .ok (.iload_n 1, 1) := by decide +kernel
theorem dX10_length_2 : decode cX10_length 2 = .ok (.invokevirtual 219, 3) := by decide +kernel
theorem dX10_length_5 : decode cX10_length 5 = .ok (.getfield 148, 3) := by decide +kernel
theorem dX10_length_8 : decode cX10_length 8 = .ok (.ireturn, 1) := by decide +kernel
theorem dX10_limbAt_0 : decode cX10_limbAt 0 = .ok (.aload_n 0, 1) := by decide +kernel
theorem dX10_limbAt_1 : decode cX10_limbAt 1 = .ok (.iload_n 1, 1) := by decide +kernel
theorem dX10_limbAt_2 : decode cX10_limbAt 2 = .ok (.invokevirtual 219, 3) := by decide +kernel
theorem dX10_limbAt_5 : decode cX10_limbAt 5 = .ok (.iload_n 2, 1) := by decide +kernel
theorem dX10_limbAt_6 : decode cX10_limbAt 6 = .ok (.invokevirtual 223, 3) := by decide +kernel
theorem dX10_limbAt_9 : decode cX10_limbAt 9 = .ok (.l2i, 1) := by decide +kernel
theorem dX10_limbAt_10 : decode cX10_limbAt 10 = .ok (.ireturn, 1) := by decide +kernel
theorem dX10_feed_0 : decode cX10_feed 0 = .ok (.aload_n 0, 1) := by decide +kernel
theorem dX10_feed_1 : decode cX10_feed 1 = .ok (.getfield 78, 3) := by decide +kernel
theorem dX10_feed_4 : decode cX10_feed 4 = .ok (.getfield 227, 3) := by decide +kernel
theorem dX10_feed_7 : decode cX10_feed 7 = .ok (.sipush 980, 3) := by decide +kernel
theorem dX10_feed_10 : decode cX10_feed 10 = .ok (.if_icmp .le 5, 3) := by decide +kernel
theorem dX10_feed_13 : decode cX10_feed 13 = .ok (.iconst (-1), 1) := by decide +kernel
theorem dX10_feed_14 : decode cX10_feed 14 = .ok (.ireturn, 1) := by decide +kernel
theorem dX10_feed_15 : decode cX10_feed 15 = .ok (.aload_n 0, 1) := by decide +kernel
theorem dX10_feed_16 : decode cX10_feed 16 = .ok (.getfield 78, 3) := by decide +kernel
theorem dX10_feed_19 : decode cX10_feed 19 = .ok (.iload_n 1, 1) := by decide +kernel
theorem dX10_feed_20 : decode cX10_feed 20 = .ok (.invokevirtual 230, 3) := by decide +kernel
theorem dX10_feed_23 : decode cX10_feed 23 = .ok (.aload_n 0, 1) := by decide +kernel
theorem dX10_feed_24 : decode cX10_feed 24 = .ok (.getfield 78, 3) := by decide +kernel
theorem dX10_feed_27 : decode cX10_feed 27 = .ok (.iload_n 2, 1) := by decide +kernel
theorem dX10_feed_28 : decode cX10_feed 28 = .ok (.invokevirtual 230, 3) := by decide +kernel
theorem dX10_feed_31 : decode cX10_feed 31 = .ok (.aload_n 0, 1) := by decide +kernel
theorem dX10_feed_32 : decode cX10_feed 32 = .ok (.getfield 78, 3) := by decide +kernel
theorem dX10_feed_35 : decode cX10_feed 35 = .ok (.iload_n 3, 1) := by decide +kernel
theorem dX10_feed_36 : decode cX10_feed 36 = .ok (.invokevirtual 230, 3) := by decide +kernel
theorem dX10_feed_39 : decode cX10_feed 39 = .ok (.aload_n 0, 1) := by decide +kernel
theorem dX10_feed_40 : decode cX10_feed 40 = .ok (.getfield 78, 3) := by decide +kernel
theorem dX10_feed_43 : decode cX10_feed 43 = .ok (.iload 4, 2) := by decide +kernel
theorem dX10_feed_45 : decode cX10_feed 45 = .ok (.invokevirtual 230, 3) := by decide +kernel
theorem dX10_feed_48 : decode cX10_feed 48 = .ok (.aload_n 0, 1) := by decide +kernel
theorem dX10_feed_49 : decode cX10_feed 49 = .ok (.getfield 78, 3) := by decide +kernel
theorem dX10_feed_52 : decode cX10_feed 52 = .ok (.iload 5, 2) := by decide +kernel
theorem dX10_feed_54 : decode cX10_feed 54 = .ok (.invokevirtual 230, 3) := by decide +kernel
theorem dX10_feed_57 : decode cX10_feed 57 = .ok (.aload_n 0, 1) := by decide +kernel
theorem dX10_feed_58 : decode cX10_feed 58 = .ok (.getfield 78, 3) := by decide +kernel
theorem dX10_feed_61 : decode cX10_feed 61 = .ok (.getfield 227, 3) := by decide +kernel
theorem dX10_feed_64 : decode cX10_feed 64 = .ok (.ireturn, 1) := by decide +kernel
theorem dX10_end_0 : decode cX10_end 0 = .ok (.iload_n 1, 1) := by decide +kernel
theorem dX10_end_1 : decode cX10_end 1 = .ok (.ifCond .lt 14, 3) := by decide +kernel
theorem dX10_end_4 : decode cX10_end 4 = .ok (.iload_n 1, 1) := by decide +kernel
theorem dX10_end_5 : decode cX10_end 5 = .ok (.aload_n 0, 1) := by decide +kernel
theorem dX10_end_6 : decode cX10_end 6 = .ok (.getfield 78, 3) := by decide +kernel
theorem dX10_end_9 : decode cX10_end 9 = .ok (.getfield 227, 3) := by decide +kernel
theorem dX10_end_12 : decode cX10_end 12 = .ok (.if_icmp .le 5, 3) := by decide +kernel
theorem dX10_end_15 : decode cX10_end 15 = .ok (.iconst 0, 1) := by decide +kernel
theorem dX10_end_16 : decode cX10_end 16 = .ok (.ireturn, 1) := by decide +kernel
theorem dX10_end_17 : decode cX10_end 17 = .ok (.aload_n 0, 1) := by decide +kernel
theorem dX10_end_18 : decode cX10_end 18 = .ok (.getfield 78, 3) := by decide +kernel
theorem dX10_end_21 : decode cX10_end 21 = .ok (.iload_n 1, 1) := by decide +kernel
theorem dX10_end_22 : decode cX10_end 22 = .ok (.putfield 227, 3) := by decide +kernel
theorem dX10_end_25 : decode cX10_end 25 = .ok (.iconst 1, 1) := by decide +kernel
theorem dX10_end_26 : decode cX10_end 26 = .ok (.ireturn, 1) := by decide +kernel
theorem dX10_read_0 : decode cX10_read 0 = .ok (.aload_n 0, 1) := by decide +kernel
theorem dX10_read_1 : decode cX10_read 1 = .ok (.iload_n 1, 1) := by decide +kernel
theorem dX10_read_2 : decode cX10_read 2 = .ok (.invokevirtual 104, 3) := by decide +kernel
theorem dX10_read_5 : decode cX10_read 5 = .ok (.ifCond .ne 5, 3) := by decide +kernel
theorem dX10_read_8 : decode cX10_read 8 = .ok (.iconst 3, 1) := by decide +kernel
theorem dX10_read_9 : decode cX10_read 9 = .ok (.ireturn, 1) := by decide +kernel
theorem dX10_read_10 : decode cX10_read 10 = .ok (.aload_n 0, 1) := by decide +kernel
theorem dX10_read_11 : decode cX10_read 11 = .ok (.getfield 78, 3) := by decide +kernel
theorem dX10_read_14 : decode cX10_read 14 = .ok (.invokevirtual 233, 3) := by decide +kernel
theorem dX10_read_17 : decode cX10_read 17 = .ok (.istore_n 2, 1) := by decide +kernel
theorem dX10_read_18 : decode cX10_read 18 = .ok (.iload_n 2, 1) := by decide +kernel
theorem dX10_read_19 : decode cX10_read 19 = .ok (.ifCond .eq 25, 3) := by decide +kernel
theorem dX10_read_22 : decode cX10_read 22 = .ok (.aload_n 0, 1) := by decide +kernel
theorem dX10_read_23 : decode cX10_read 23 = .ok (.getfield 78, 3) := by decide +kernel
theorem dX10_read_26 : decode cX10_read 26 = .ok (.aload_n 0, 1) := by decide +kernel
theorem dX10_read_27 : decode cX10_read 27 = .ok (.getfield 91, 3) := by decide +kernel
theorem dX10_read_30 : decode cX10_read 30 = .ok (.aload_n 0, 1) := by decide +kernel
theorem dX10_read_31 : decode cX10_read 31 = .ok (.getfield 18, 3) := by decide +kernel
theorem dX10_read_34 : decode cX10_read 34 = .ok (.invokevirtual 236, 3) := by decide +kernel
theorem dX10_read_37 : decode cX10_read 37 = .ok (.ifCond .eq 7, 3) := by decide +kernel
theorem dX10_read_40 : decode cX10_read 40 = .ok (.iconst 1, 1) := by decide +kernel
theorem dX10_read_41 : decode cX10_read 41 = .ok (.goto 4, 3) := by decide +kernel
theorem dX10_read_44 : decode cX10_read 44 = .ok (.iconst 0, 1) := by decide +kernel
theorem dX10_read_45 : decode cX10_read 45 = .ok (.istore_n 3, 1) := by decide +kernel
theorem dX10_read_46 : decode cX10_read 46 = .ok (.aload_n 0, 1) := by decide +kernel
theorem dX10_read_47 : decode cX10_read 47 = .ok (.getfield 78, 3) := by decide +kernel
theorem dX10_read_50 : decode cX10_read 50 = .ok (.iconst 0, 1) := by decide +kernel
theorem dX10_read_51 : decode cX10_read 51 = .ok (.putfield 227, 3) := by decide +kernel
theorem dX10_read_54 : decode cX10_read 54 = .ok (.iload_n 2, 1) := by decide +kernel
theorem dX10_read_55 : decode cX10_read 55 = .ok (.ifCond .ne 5, 3) := by decide +kernel
theorem dX10_read_58 : decode cX10_read 58 = .ok (.iconst 2, 1) := by decide +kernel
theorem dX10_read_59 : decode cX10_read 59 = .ok (.ireturn, 1) := by decide +kernel
theorem dX10_read_60 : decode cX10_read 60 = .ok (.iload_n 3, 1) := by decide +kernel
theorem dX10_read_61 : decode cX10_read 61 = .ok (.ifCond .eq 15, 3) := by decide +kernel
theorem dX10_read_64 : decode cX10_read 64 = .ok (.aload_n 0, 1) := by decide +kernel
theorem dX10_read_65 : decode cX10_read 65 = .ok (.iload_n 1, 1) := by decide +kernel
theorem dX10_read_66 : decode cX10_read 66 = .ok (.aload_n 0, 1) := by decide +kernel
theorem dX10_read_67 : decode cX10_read 67 = .ok (.getfield 91, 3) := by decide +kernel
theorem dX10_read_70 : decode cX10_read 70 = .ok (.invokevirtual 126, 3) := by decide +kernel
theorem dX10_read_73 : decode cX10_read 73 = .ok (.goto 4, 3) := by decide +kernel
theorem dX10_read_76 : decode cX10_read 76 = .ok (.iconst 1, 1) := by decide +kernel
theorem dX10_read_77 : decode cX10_read 77 = .ok (.ireturn, 1) := by decide +kernel
theorem dX10_write_0 : decode cX10_write 0 = .ok (.aload_n 0, 1) := by decide +kernel
theorem dX10_write_1 : decode cX10_write 1 = .ok (.getfield 87, 3) := by decide +kernel
theorem dX10_write_4 : decode cX10_write 4 = .ok (.aload_n 0, 1) := by decide +kernel
theorem dX10_write_5 : decode cX10_write 5 = .ok (.iload_n 1, 1) := by decide +kernel
theorem dX10_write_6 : decode cX10_write 6 = .ok (.invokevirtual 219, 3) := by decide +kernel
theorem dX10_write_9 : decode cX10_write 9 = .ok (.invokevirtual 240, 3) := by decide +kernel
theorem dX10_write_12 : decode cX10_write 12 = .ok (.aload_n 0, 1) := by decide +kernel
theorem dX10_write_13 : decode cX10_write 13 = .ok (.getfield 87, 3) := by decide +kernel
theorem dX10_write_16 : decode cX10_write 16 = .ok (.getfield 243, 3) := by decide +kernel
theorem dX10_write_19 : decode cX10_write 19 = .ok (.ireturn, 1) := by decide +kernel
theorem dX10_octet_0 : decode cX10_octet 0 = .ok (.iload_n 1, 1) := by decide +kernel
theorem dX10_octet_1 : decode cX10_octet 1 = .ok (.ifCond .lt 14, 3) := by decide +kernel
theorem dX10_octet_4 : decode cX10_octet 4 = .ok (.iload_n 1, 1) := by decide +kernel
theorem dX10_octet_5 : decode cX10_octet 5 = .ok (.aload_n 0, 1) := by decide +kernel
theorem dX10_octet_6 : decode cX10_octet 6 = .ok (.getfield 87, 3) := by decide +kernel
theorem dX10_octet_9 : decode cX10_octet 9 = .ok (.getfield 243, 3) := by decide +kernel
theorem dX10_octet_12 : decode cX10_octet 12 = .ok (.if_icmp .lt 7, 3) := by decide +kernel
theorem dX10_octet_15 : decode cX10_octet 15 = .ok (.iconst (-1), 1) := by decide +kernel
theorem dX10_octet_16 : decode cX10_octet 16 = .ok (.goto 12, 3) := by decide +kernel
theorem dX10_octet_19 : decode cX10_octet 19 = .ok (.aload_n 0, 1) := by decide +kernel
theorem dX10_octet_20 : decode cX10_octet 20 = .ok (.getfield 87, 3) := by decide +kernel
theorem dX10_octet_23 : decode cX10_octet 23 = .ok (.getfield 244, 3) := by decide +kernel
theorem dX10_octet_26 : decode cX10_octet 26 = .ok (.iload_n 1, 1) := by decide +kernel
theorem dX10_octet_27 : decode cX10_octet 27 = .ok (.baload, 1) := by decide +kernel
theorem dX10_octet_28 : decode cX10_octet 28 = .ok (.ireturn, 1) := by decide +kernel
theorem dX10_count_0 : decode cX10_count 0 = .ok (.iload_n 1, 1) := by decide +kernel
theorem dX10_count_1 : decode cX10_count 1 = .ok (.tableswitch 58 0 3 #[31, 37, 42, 50], 31) := by decide +kernel
theorem dX10_count_32 : decode cX10_count 32 = .ok (.aload_n 0, 1) := by decide +kernel
theorem dX10_count_33 : decode cX10_count 33 = .ok (.getfield 24, 3) := by decide +kernel
theorem dX10_count_36 : decode cX10_count 36 = .ok (.arraylength, 1) := by decide +kernel
theorem dX10_count_37 : decode cX10_count 37 = .ok (.ireturn, 1) := by decide +kernel
theorem dX10_count_38 : decode cX10_count 38 = .ok (.aload_n 0, 1) := by decide +kernel
theorem dX10_count_39 : decode cX10_count 39 = .ok (.getfield 18, 3) := by decide +kernel
theorem dX10_count_42 : decode cX10_count 42 = .ok (.ireturn, 1) := by decide +kernel
theorem dX10_count_43 : decode cX10_count 43 = .ok (.aload_n 0, 1) := by decide +kernel
theorem dX10_count_44 : decode cX10_count 44 = .ok (.getfield 78, 3) := by decide +kernel
theorem dX10_count_47 : decode cX10_count 47 = .ok (.getfield 227, 3) := by decide +kernel
theorem dX10_count_50 : decode cX10_count 50 = .ok (.ireturn, 1) := by decide +kernel
theorem dX10_count_51 : decode cX10_count 51 = .ok (.aload_n 0, 1) := by decide +kernel
theorem dX10_count_52 : decode cX10_count 52 = .ok (.getfield 87, 3) := by decide +kernel
theorem dX10_count_55 : decode cX10_count 55 = .ok (.getfield 243, 3) := by decide +kernel
theorem dX10_count_58 : decode cX10_count 58 = .ok (.ireturn, 1) := by decide +kernel
theorem dX10_count_59 : decode cX10_count 59 = .ok (.iconst (-1), 1) := by decide +kernel
theorem dX10_count_60 : decode cX10_count 60 = .ok (.ireturn, 1) := by decide +kernel
theorem dX10_isRegister_0 : decode cX10_isRegister 0 = .ok (.iload_n 1, 1) := by decide +kernel
theorem dX10_isRegister_1 : decode cX10_isRegister 1 = .ok (.ifCond .lt 16, 3) := by decide +kernel
theorem dX10_isRegister_4 : decode cX10_isRegister 4 = .ok (.iload_n 1, 1) := by decide +kernel
theorem dX10_isRegister_5 : decode cX10_isRegister 5 = .ok (.aload_n 0, 1) := by decide +kernel
theorem dX10_isRegister_6 : decode cX10_isRegister 6 = .ok (.getfield 24, 3) := by decide +kernel
theorem dX10_isRegister_9 : decode cX10_isRegister 9 = .ok (.arraylength, 1) := by decide +kernel
theorem dX10_isRegister_10 : decode cX10_isRegister 10 = .ok (.if_icmp .ge 7, 3) := by decide +kernel
theorem dX10_isRegister_13 : decode cX10_isRegister 13 = .ok (.iconst 1, 1) := by decide +kernel
theorem dX10_isRegister_14 : decode cX10_isRegister 14 = .ok (.goto 4, 3) := by decide +kernel
theorem dX10_isRegister_17 : decode cX10_isRegister 17 = .ok (.iconst 0, 1) := by decide +kernel
theorem dX10_isRegister_18 : decode cX10_isRegister 18 = .ok (.ireturn, 1) := by decide +kernel
theorem dX10_areRegisters_0 : decode cX10_areRegisters 0 = .ok (.aload_n 0, 1) := by decide +kernel
theorem dX10_areRegisters_1 : decode cX10_areRegisters 1 = .ok (.iload_n 1, 1) := by decide +kernel
theorem dX10_areRegisters_2 : decode cX10_areRegisters 2 = .ok (.invokevirtual 104, 3) := by decide +kernel
theorem dX10_areRegisters_5 : decode cX10_areRegisters 5 = .ok (.ifCond .eq 15, 3) := by decide +kernel
theorem dX10_areRegisters_8 : decode cX10_areRegisters 8 = .ok (.aload_n 0, 1) := by decide +kernel
theorem dX10_areRegisters_9 : decode cX10_areRegisters 9 = .ok (.iload_n 2, 1) := by decide +kernel
theorem dX10_areRegisters_10 : decode cX10_areRegisters 10 = .ok (.invokevirtual 104, 3) := by decide +kernel
theorem dX10_areRegisters_13 : decode cX10_areRegisters 13 = .ok (.ifCond .eq 7, 3) := by decide +kernel
theorem dX10_areRegisters_16 : decode cX10_areRegisters 16 = .ok (.iconst 1, 1) := by decide +kernel
theorem dX10_areRegisters_17 : decode cX10_areRegisters 17 = .ok (.goto 4, 3) := by decide +kernel
theorem dX10_areRegisters_20 : decode cX10_areRegisters 20 = .ok (.iconst 0, 1) := by decide +kernel
theorem dX10_areRegisters_21 : decode cX10_areRegisters 21 = .ok (.ireturn, 1) := by decide +kernel
theorem dX10_areRegisters__0 : decode cX10_areRegisters_ 0 = .ok (.aload_n 0, 1) := by decide +kernel
theorem dX10_areRegisters__1 : decode cX10_areRegisters_ 1 = .ok (.iload_n 1, 1) := by decide +kernel
theorem dX10_areRegisters__2 : decode cX10_areRegisters_ 2 = .ok (.invokevirtual 104, 3) := by decide +kernel
theorem dX10_areRegisters__5 : decode cX10_areRegisters_ 5 = .ok (.ifCond .eq 23, 3) := by decide +kernel
theorem dX10_areRegisters__8 : decode cX10_areRegisters_ 8 = .ok (.aload_n 0, 1) := by decide +kernel
theorem dX10_areRegisters__9 : decode cX10_areRegisters_ 9 = .ok (.iload_n 2, 1) := by decide +kernel
theorem dX10_areRegisters__10 : decode cX10_areRegisters_ 10 = .ok (.invokevirtual 104, 3) := by decide +kernel
theorem dX10_areRegisters__13 : decode cX10_areRegisters_ 13 = .ok (.ifCond .eq 15, 3) := by decide +kernel
theorem dX10_areRegisters__16 : decode cX10_areRegisters_ 16 = .ok (.aload_n 0, 1) := by decide +kernel
theorem dX10_areRegisters__17 : decode cX10_areRegisters_ 17 = .ok (.iload_n 3, 1) := by decide +kernel
theorem dX10_areRegisters__18 : decode cX10_areRegisters_ 18 = .ok (.invokevirtual 104, 3) := by decide +kernel
theorem dX10_areRegisters__21 : decode cX10_areRegisters_ 21 = .ok (.ifCond .eq 7, 3) := by decide +kernel
theorem dX10_areRegisters__24 : decode cX10_areRegisters_ 24 = .ok (.iconst 1, 1) := by decide +kernel
theorem dX10_areRegisters__25 : decode cX10_areRegisters_ 25 = .ok (.goto 4, 3) := by decide +kernel
theorem dX10_areRegisters__28 : decode cX10_areRegisters_ 28 = .ok (.iconst 0, 1) := by decide +kernel
theorem dX10_areRegisters__29 : decode cX10_areRegisters_ 29 = .ok (.ireturn, 1) := by decide +kernel
theorem dX10_registerOrThrow_0 : decode cX10_registerOrThrow 0 = .ok (.aload_n 0, 1) := by decide +kernel
theorem dX10_registerOrThrow_1 : decode cX10_registerOrThrow 1 = .ok (.iload_n 1, 1) := by decide +kernel
theorem dX10_registerOrThrow_2 : decode cX10_registerOrThrow 2 = .ok (.invokevirtual 104, 3) := by decide +kernel
theorem dX10_registerOrThrow_5 : decode cX10_registerOrThrow 5 = .ok (.ifCond .ne 13, 3) := by decide +kernel
theorem dX10_registerOrThrow_8 : decode cX10_registerOrThrow 8 = .ok (.new 248, 3) := by decide +kernel
theorem dX10_registerOrThrow_11 : decode cX10_registerOrThrow 11 = .ok (.dup, 1) := by decide +kernel
theorem dX10_registerOrThrow_12 : decode cX10_registerOrThrow 12 = .ok (.ldc 250, 2) := by decide +kernel
theorem dX10_registerOrThrow_14 : decode cX10_registerOrThrow 14 = .ok (.invokespecial 252, 3) := by decide +kernel
theorem dX10_registerOrThrow_17 : decode cX10_registerOrThrow 17 = .ok (.athrow, 1) := by decide +kernel
theorem dX10_registerOrThrow_18 : decode cX10_registerOrThrow 18 = .ok (.aload_n 0, 1) := by decide +kernel
theorem dX10_registerOrThrow_19 : decode cX10_registerOrThrow 19 = .ok (.getfield 24, 3) := by decide +kernel
theorem dX10_registerOrThrow_22 : decode cX10_registerOrThrow 22 = .ok (.iload_n 1, 1) := by decide +kernel
theorem dX10_registerOrThrow_23 : decode cX10_registerOrThrow 23 = .ok (.aaload, 1) := by decide +kernel
theorem dX10_registerOrThrow_24 : decode cX10_registerOrThrow 24 = .ok (.areturn, 1) := by decide +kernel
theorem dX10_put_0 : decode cX10_put 0 = .ok (.aload_n 2, 1) := by decide +kernel
theorem dX10_put_1 : decode cX10_put 1 = .ok (.getfield 148, 3) := by decide +kernel
theorem dX10_put_4 : decode cX10_put 4 = .ok (.aload_n 0, 1) := by decide +kernel
theorem dX10_put_5 : decode cX10_put 5 = .ok (.getfield 18, 3) := by decide +kernel
theorem dX10_put_8 : decode cX10_put 8 = .ok (.if_icmp .le 5, 3) := by decide +kernel
theorem dX10_put_11 : decode cX10_put 11 = .ok (.iconst 1, 1) := by decide +kernel
theorem dX10_put_12 : decode cX10_put 12 = .ok (.ireturn, 1) := by decide +kernel
theorem dX10_put_13 : decode cX10_put 13 = .ok (.aload_n 0, 1) := by decide +kernel
theorem dX10_put_14 : decode cX10_put 14 = .ok (.getfield 24, 3) := by decide +kernel
theorem dX10_put_17 : decode cX10_put 17 = .ok (.iload_n 1, 1) := by decide +kernel
theorem dX10_put_18 : decode cX10_put 18 = .ok (.aaload, 1) := by decide +kernel
theorem dX10_put_19 : decode cX10_put 19 = .ok (.aload_n 2, 1) := by decide +kernel
theorem dX10_put_20 : decode cX10_put 20 = .ok (.invokevirtual 134, 3) := by decide +kernel
theorem dX10_put_23 : decode cX10_put 23 = .ok (.iconst 0, 1) := by decide +kernel
theorem dX10_put_24 : decode cX10_put 24 = .ok (.ireturn, 1) := by decide +kernel
theorem dX10_halve_0 : decode cX10_halve 0 = .ok (.aload_n 1, 1) := by decide +kernel
theorem dX10_halve_1 : decode cX10_halve 1 = .ok (.invokevirtual 162, 3) := by decide +kernel
theorem dX10_halve_4 : decode cX10_halve 4 = .ok (.istore 4, 2) := by decide +kernel
theorem dX10_halve_6 : decode cX10_halve 6 = .ok (.lload_n 2, 1) := by decide +kernel
theorem dX10_halve_7 : decode cX10_halve 7 = .ok (.iload 4, 2) := by decide +kernel
theorem dX10_halve_9 : decode cX10_halve 9 = .ok (.i2l, 1) := by decide +kernel
theorem dX10_halve_10 : decode cX10_halve 10 = .ok (.lcmp, 1) := by decide +kernel
theorem dX10_halve_11 : decode cX10_halve 11 = .ok (.ifCond .le 8, 3) := by decide +kernel
theorem dX10_halve_14 : decode cX10_halve 14 = .ok (.iload 4, 2) := by decide +kernel
theorem dX10_halve_16 : decode cX10_halve 16 = .ok (.goto 5, 3) := by decide +kernel
theorem dX10_halve_19 : decode cX10_halve 19 = .ok (.lload_n 2, 1) := by decide +kernel
theorem dX10_halve_20 : decode cX10_halve 20 = .ok (.l2i, 1) := by decide +kernel
theorem dX10_halve_21 : decode cX10_halve 21 = .ok (.istore 5, 2) := by decide +kernel
theorem dX10_halve_23 : decode cX10_halve 23 = .ok (.aload_n 1, 1) := by decide +kernel
theorem dX10_halve_24 : decode cX10_halve 24 = .ok (.getfield 148, 3) := by decide +kernel
theorem dX10_halve_27 : decode cX10_halve 27 = .ok (.ifCond .le 17, 3) := by decide +kernel
theorem dX10_halve_30 : decode cX10_halve 30 = .ok (.aload_n 1, 1) := by decide +kernel
theorem dX10_halve_31 : decode cX10_halve 31 = .ok (.invokevirtual 255, 3) := by decide +kernel
theorem dX10_halve_34 : decode cX10_halve 34 = .ok (.i2l, 1) := by decide +kernel
theorem dX10_halve_35 : decode cX10_halve 35 = .ok (.lload_n 2, 1) := by decide +kernel
theorem dX10_halve_36 : decode cX10_halve 36 = .ok (.lcmp, 1) := by decide +kernel
theorem dX10_halve_37 : decode cX10_halve 37 = .ok (.ifCond .ge 7, 3) := by decide +kernel
theorem dX10_halve_40 : decode cX10_halve 40 = .ok (.iconst 1, 1) := by decide +kernel
theorem dX10_halve_41 : decode cX10_halve 41 = .ok (.goto 4, 3) := by decide +kernel
theorem dX10_halve_44 : decode cX10_halve 44 = .ok (.iconst 0, 1) := by decide +kernel
theorem dX10_halve_45 : decode cX10_halve 45 = .ok (.istore 6, 2) := by decide +kernel
theorem dX10_halve_47 : decode cX10_halve 47 = .ok (.aload_n 0, 1) := by decide +kernel
theorem dX10_halve_48 : decode cX10_halve 48 = .ok (.getfield 91, 3) := by decide +kernel
theorem dX10_halve_51 : decode cX10_halve 51 = .ok (.aload_n 1, 1) := by decide +kernel
theorem dX10_halve_52 : decode cX10_halve 52 = .ok (.iload 5, 2) := by decide +kernel
theorem dX10_halve_54 : decode cX10_halve 54 = .ok (.invokestatic 258, 3) := by decide +kernel
theorem dX10_halve_57 : decode cX10_halve 57 = .ok (.aload_n 1, 1) := by decide +kernel
theorem dX10_halve_58 : decode cX10_halve 58 = .ok (.getfield 118, 3) := by decide +kernel
theorem dX10_halve_61 : decode cX10_halve 61 = .ok (.ifCond .eq 23, 3) := by decide +kernel
theorem dX10_halve_64 : decode cX10_halve 64 = .ok (.iload 6, 2) := by decide +kernel
theorem dX10_halve_66 : decode cX10_halve 66 = .ok (.ifCond .eq 18, 3) := by decide +kernel
theorem dX10_halve_69 : decode cX10_halve 69 = .ok (.aload_n 0, 1) := by decide +kernel
theorem dX10_halve_70 : decode cX10_halve 70 = .ok (.getfield 91, 3) := by decide +kernel
theorem dX10_halve_73 : decode cX10_halve 73 = .ok (.aload_n 0, 1) := by decide +kernel
theorem dX10_halve_74 : decode cX10_halve 74 = .ok (.getfield 91, 3) := by decide +kernel
theorem dX10_halve_77 : decode cX10_halve 77 = .ok (.aload_n 0, 1) := by decide +kernel
theorem dX10_halve_78 : decode cX10_halve 78 = .ok (.getfield 98, 3) := by decide +kernel
theorem dX10_halve_81 : decode cX10_halve 81 = .ok (.invokestatic 114, 3) := by decide +kernel
theorem dX10_halve_84 : decode cX10_halve 84 = .ok (.aload_n 0, 1) := by decide +kernel
theorem dX10_halve_85 : decode cX10_halve 85 = .ok (.getfield 91, 3) := by decide +kernel
theorem dX10_halve_88 : decode cX10_halve 88 = .ok (.aload_n 1, 1) := by decide +kernel
theorem dX10_halve_89 : decode cX10_halve 89 = .ok (.getfield 118, 3) := by decide +kernel
theorem dX10_halve_92 : decode cX10_halve 92 = .ok (.invokevirtual 122, 3) := by decide +kernel
theorem dX10_halve_95 : decode cX10_halve 95 = .ok (.return_, 1) := by decide +kernel
theorem dX11_init_0 : decode cX11_init 0 = .ok (.aload_n 0, 1) := by decide +kernel
theorem dX11_init_1 : decode cX11_init 1 = .ok (.invokespecial 1, 3) := by decide +kernel
theorem dX11_init_4 : decode cX11_init 4 = .ok (.aload_n 0, 1) := by decide +kernel
theorem dX11_init_5 : decode cX11_init 5 = .ok (.sipush 10400, 3) := by decide +kernel
theorem dX11_init_8 : decode cX11_init 8 = .ok (.newarray .int, 2) := by decide +kernel
theorem dX11_init_10 : decode cX11_init 10 = .ok (.putfield 7, 3) := by decide +kernel
theorem dX11_init_13 : decode cX11_init 13 = .ok (.aload_n 0, 1) := by decide +kernel
theorem dX11_init_14 : decode cX11_init 14 = .ok (.bipush 40, 2) := by decide +kernel
theorem dX11_init_16 : decode cX11_init 16 = .ok (.newarray .int, 2) := by decide +kernel
theorem dX11_init_18 : decode cX11_init 18 = .ok (.putfield 13, 3) := by decide +kernel
theorem dX11_init_21 : decode cX11_init 21 = .ok (.aload_n 0, 1) := by decide +kernel
theorem dX11_init_22 : decode cX11_init 22 = .ok (.bipush 40, 2) := by decide +kernel
theorem dX11_init_24 : decode cX11_init 24 = .ok (.newarray .int, 2) := by decide +kernel
theorem dX11_init_26 : decode cX11_init 26 = .ok (.putfield 16, 3) := by decide +kernel
theorem dX11_init_29 : decode cX11_init 29 = .ok (.aload_n 0, 1) := by decide +kernel
theorem dX11_init_30 : decode cX11_init 30 = .ok (.sipush 1000, 3) := by decide +kernel
theorem dX11_init_33 : decode cX11_init 33 = .ok (.newarray .byte, 2) := by decide +kernel
theorem dX11_init_35 : decode cX11_init 35 = .ok (.putfield 19, 3) := by decide +kernel
theorem dX11_init_38 : decode cX11_init 38 = .ok (.aload_n 0, 1) := by decide +kernel
theorem dX11_init_39 : decode cX11_init 39 = .ok (.sipush 500, 3) := by decide +kernel
theorem dX11_init_42 : decode cX11_init 42 = .ok (.newarray .byte, 2) := by decide +kernel
theorem dX11_init_44 : decode cX11_init 44 = .ok (.putfield 23, 3) := by decide +kernel
theorem dX11_init_47 : decode cX11_init 47 = .ok (.aload_n 0, 1) := by decide +kernel
theorem dX11_init_48 : decode cX11_init 48 = .ok (.iload_n 1, 1) := by decide +kernel
theorem dX11_init_49 : decode cX11_init 49 = .ok (.iconst 1, 1) := by decide +kernel
theorem dX11_init_50 : decode cX11_init 50 = .ok (.if_icmp .ge 7, 3) := by decide +kernel
theorem dX11_init_53 : decode cX11_init 53 = .ok (.iconst 1, 1) := by decide +kernel
theorem dX11_init_54 : decode cX11_init 54 = .ok (.goto 15, 3) := by decide +kernel
theorem dX11_init_57 : decode cX11_init 57 = .ok (.iload_n 1, 1) := by decide +kernel
theorem dX11_init_58 : decode cX11_init 58 = .ok (.bipush 16, 2) := by decide +kernel
theorem dX11_init_60 : decode cX11_init 60 = .ok (.if_icmp .le 8, 3) := by decide +kernel
theorem dX11_init_63 : decode cX11_init 63 = .ok (.bipush 16, 2) := by decide +kernel
theorem dX11_init_65 : decode cX11_init 65 = .ok (.goto 4, 3) := by decide +kernel
theorem dX11_init_68 : decode cX11_init 68 = .ok (.iload_n 1, 1) := by decide +kernel
theorem dX11_init_69 : decode cX11_init 69 = .ok (.putfield 26, 3) := by decide +kernel
theorem dX11_init_72 : decode cX11_init 72 = .ok (.aload_n 0, 1) := by decide +kernel
theorem dX11_init_73 : decode cX11_init 73 = .ok (.iload_n 2, 1) := by decide +kernel
theorem dX11_init_74 : decode cX11_init 74 = .ok (.iconst 1, 1) := by decide +kernel
theorem dX11_init_75 : decode cX11_init 75 = .ok (.if_icmp .ge 7, 3) := by decide +kernel
theorem dX11_init_78 : decode cX11_init 78 = .ok (.iconst 1, 1) := by decide +kernel
theorem dX11_init_79 : decode cX11_init 79 = .ok (.goto 15, 3) := by decide +kernel
theorem dX11_init_82 : decode cX11_init 82 = .ok (.iload_n 2, 1) := by decide +kernel
theorem dX11_init_83 : decode cX11_init 83 = .ok (.bipush 40, 2) := by decide +kernel
theorem dX11_init_85 : decode cX11_init 85 = .ok (.if_icmp .le 8, 3) := by decide +kernel
theorem dX11_init_88 : decode cX11_init 88 = .ok (.bipush 40, 2) := by decide +kernel
theorem dX11_init_90 : decode cX11_init 90 = .ok (.goto 4, 3) := by decide +kernel
theorem dX11_init_93 : decode cX11_init 93 = .ok (.iload_n 2, 1) := by decide +kernel
theorem dX11_init_94 : decode cX11_init 94 = .ok (.putfield 30, 3) := by decide +kernel
theorem dX11_init_97 : decode cX11_init 97 = .ok (.return_, 1) := by decide +kernel
theorem dX11_thrown_0 : decode cX11_thrown 0 = .ok (.aload_n 0, 1) := by decide +kernel
theorem dX11_thrown_1 : decode cX11_thrown 1 = .ok (.getfield 33, 3) := by decide +kernel
theorem dX11_thrown_4 : decode cX11_thrown 4 = .ok (.ireturn, 1) := by decide +kernel
theorem dX11_copy_0 : decode cX11_copy 0 = .ok (.iconst 0, 1) := by decide +kernel
theorem dX11_copy_1 : decode cX11_copy 1 = .ok (.istore_n 3, 1) := by decide +kernel
theorem dX11_copy_2 : decode cX11_copy 2 = .ok (.iload_n 3, 1) := by decide +kernel
theorem dX11_copy_3 : decode cX11_copy 3 = .ok (.aload_n 0, 1) := by decide +kernel
theorem dX11_copy_4 : decode cX11_copy 4 = .ok (.getfield 13, 3) := by decide +kernel
theorem dX11_copy_7 : decode cX11_copy 7 = .ok (.iload_n 2, 1) := by decide +kernel
theorem dX11_copy_8 : decode cX11_copy 8 = .ok (.iaload, 1) := by decide +kernel
theorem dX11_copy_9 : decode cX11_copy 9 = .ok (.if_icmp .ge 33, 3) := by decide +kernel
theorem dX11_copy_12 : decode cX11_copy 12 = .ok (.aload_n 0, 1) := by decide +kernel
theorem dX11_copy_13 : decode cX11_copy 13 = .ok (.getfield 7, 3) := by decide +kernel
theorem dX11_copy_16 : decode cX11_copy 16 = .ok (.sipush 260, 3) := by decide +kernel
theorem dX11_copy_19 : decode cX11_copy 19 = .ok (.iload_n 1, 1) := by decide +kernel
theorem dX11_copy_20 : decode cX11_copy 20 = .ok (.imul, 1) := by decide +kernel
theorem dX11_copy_21 : decode cX11_copy 21 = .ok (.iload_n 3, 1) := by decide +kernel
theorem dX11_copy_22 : decode cX11_copy 22 = .ok (.iadd, 1) := by decide +kernel
theorem dX11_copy_23 : decode cX11_copy 23 = .ok (.aload_n 0, 1) := by decide +kernel
theorem dX11_copy_24 : decode cX11_copy 24 = .ok (.getfield 7, 3) := by decide +kernel
theorem dX11_copy_27 : decode cX11_copy 27 = .ok (.sipush 260, 3) := by decide +kernel
theorem dX11_copy_30 : decode cX11_copy 30 = .ok (.iload_n 2, 1) := by decide +kernel
theorem dX11_copy_31 : decode cX11_copy 31 = .ok (.imul, 1) := by decide +kernel
theorem dX11_copy_32 : decode cX11_copy 32 = .ok (.iload_n 3, 1) := by decide +kernel
theorem dX11_copy_33 : decode cX11_copy 33 = .ok (.iadd, 1) := by decide +kernel
theorem dX11_copy_34 : decode cX11_copy 34 = .ok (.iaload, 1) := by decide +kernel
theorem dX11_copy_35 : decode cX11_copy 35 = .ok (.iastore, 1) := by decide +kernel
theorem dX11_copy_36 : decode cX11_copy 36 = .ok (.iinc 3 1, 3) := by decide +kernel
theorem dX11_copy_39 : decode cX11_copy 39 = .ok (.goto (-37), 3) := by decide +kernel
theorem dX11_copy_42 : decode cX11_copy 42 = .ok (.aload_n 0, 1) := by decide +kernel
theorem dX11_copy_43 : decode cX11_copy 43 = .ok (.getfield 13, 3) := by decide +kernel
theorem dX11_copy_46 : decode cX11_copy 46 = .ok (.iload_n 1, 1) := by decide +kernel
theorem dX11_copy_47 : decode cX11_copy 47 = .ok (.aload_n 0, 1) := by decide +kernel
theorem dX11_copy_48 : decode cX11_copy 48 = .ok (.getfield 13, 3) := by decide +kernel
theorem dX11_copy_51 : decode cX11_copy 51 = .ok (.iload_n 2, 1) := by decide +kernel
theorem dX11_copy_52 : decode cX11_copy 52 = .ok (.iaload, 1) := by decide +kernel
theorem dX11_copy_53 : decode cX11_copy 53 = .ok (.iastore, 1) := by decide +kernel
theorem dX11_copy_54 : decode cX11_copy 54 = .ok (.aload_n 0, 1) := by decide +kernel
theorem dX11_copy_55 : decode cX11_copy 55 = .ok (.getfield 16, 3) := by decide +kernel
theorem dX11_copy_58 : decode cX11_copy 58 = .ok (.iload_n 1, 1) := by decide +kernel
theorem dX11_copy_59 : decode cX11_copy 59 = .ok (.aload_n 0, 1) := by decide +kernel
theorem dX11_copy_60 : decode cX11_copy 60 = .ok (.getfield 16, 3) := by decide +kernel
theorem dX11_copy_63 : decode cX11_copy 63 = .ok (.iload_n 2, 1) := by decide +kernel
theorem dX11_copy_64 : decode cX11_copy 64 = .ok (.iaload, 1) := by decide +kernel
theorem dX11_copy_65 : decode cX11_copy 65 = .ok (.iastore, 1) := by decide +kernel
theorem dX11_copy_66 : decode cX11_copy 66 = .ok (.return_, 1) := by decide +kernel
theorem dX11_small_0 : decode cX11_small 0 = .ok (.aload_n 0, 1) := by decide +kernel
theorem dX11_small_1 : decode cX11_small 1 = .ok (.getfield 13, 3) := by decide +kernel
theorem dX11_small_4 : decode cX11_small 4 = .ok (.iload_n 1, 1) := by decide +kernel
theorem dX11_small_5 : decode cX11_small 5 = .ok (.iload_n 2, 1) := by decide +kernel
theorem dX11_small_6 : decode cX11_small 6 = .ok (.ifCond .ne 7, 3) := by decide +kernel
theorem dX11_small_9 : decode cX11_small 9 = .ok (.iconst 0, 1) := by decide +kernel
theorem dX11_small_10 : decode cX11_small 10 = .ok (.goto 4, 3) := by decide +kernel
theorem dX11_small_13 : decode cX11_small 13 = .ok (.iconst 1, 1) := by decide +kernel
theorem dX11_small_14 : decode cX11_small 14 = .ok (.iastore, 1) := by decide +kernel
theorem dX11_small_15 : decode cX11_small 15 = .ok (.aload_n 0, 1) := by decide +kernel
theorem dX11_small_16 : decode cX11_small 16 = .ok (.getfield 7, 3) := by decide +kernel
theorem dX11_small_19 : decode cX11_small 19 = .ok (.sipush 260, 3) := by decide +kernel
theorem dX11_small_22 : decode cX11_small 22 = .ok (.iload_n 1, 1) := by decide +kernel
theorem dX11_small_23 : decode cX11_small 23 = .ok (.imul, 1) := by decide +kernel
theorem dX11_small_24 : decode cX11_small 24 = .ok (.iload_n 2, 1) := by decide +kernel
theorem dX11_small_25 : decode cX11_small 25 = .ok (.iastore, 1) := by decide +kernel
theorem dX11_small_26 : decode cX11_small 26 = .ok (.aload_n 0, 1) := by decide +kernel
theorem dX11_small_27 : decode cX11_small 27 = .ok (.getfield 16, 3) := by decide +kernel
theorem dX11_small_30 : decode cX11_small 30 = .ok (.iload_n 1, 1) := by decide +kernel
theorem dX11_small_31 : decode cX11_small 31 = .ok (.iload_n 2, 1) := by decide +kernel
theorem dX11_small_32 : decode cX11_small 32 = .ok (.ifCond .ne 7, 3) := by decide +kernel
theorem dX11_small_35 : decode cX11_small 35 = .ok (.iconst 0, 1) := by decide +kernel
theorem dX11_small_36 : decode cX11_small 36 = .ok (.goto 4, 3) := by decide +kernel
theorem dX11_small_39 : decode cX11_small 39 = .ok (.iconst 1, 1) := by decide +kernel
theorem dX11_small_40 : decode cX11_small 40 = .ok (.iastore, 1) := by decide +kernel
theorem dX11_small_41 : decode cX11_small 41 = .ok (.return_, 1) := by decide +kernel
theorem dX11_trim_0 : decode cX11_trim 0 = .ok (.iload_n 2, 1) := by decide +kernel
theorem dX11_trim_1 : decode cX11_trim 1 = .ok (.istore 4, 2) := by decide +kernel
theorem dX11_trim_3 : decode cX11_trim 3 = .ok (.iload 4, 2) := by decide +kernel
theorem dX11_trim_5 : decode cX11_trim 5 = .ok (.ifCond .le 27, 3) := by decide +kernel
theorem dX11_trim_8 : decode cX11_trim 8 = .ok (.aload_n 0, 1) := by decide +kernel
theorem dX11_trim_9 : decode cX11_trim 9 = .ok (.getfield 7, 3) := by decide +kernel
theorem dX11_trim_12 : decode cX11_trim 12 = .ok (.sipush 260, 3) := by decide +kernel
theorem dX11_trim_15 : decode cX11_trim 15 = .ok (.iload_n 1, 1) := by decide +kernel
theorem dX11_trim_16 : decode cX11_trim 16 = .ok (.imul, 1) := by decide +kernel
theorem dX11_trim_17 : decode cX11_trim 17 = .ok (.iload 4, 2) := by decide +kernel
theorem dX11_trim_19 : decode cX11_trim 19 = .ok (.iadd, 1) := by decide +kernel
theorem dX11_trim_20 : decode cX11_trim 20 = .ok (.iconst 1, 1) := by decide +kernel
theorem dX11_trim_21 : decode cX11_trim 21 = .ok (.isub, 1) := by decide +kernel
theorem dX11_trim_22 : decode cX11_trim 22 = .ok (.iaload, 1) := by decide +kernel
theorem dX11_trim_23 : decode cX11_trim 23 = .ok (.ifCond .ne 9, 3) := by decide +kernel
theorem dX11_trim_26 : decode cX11_trim 26 = .ok (.iinc 4 (-1), 3) := by decide +kernel
theorem dX11_trim_29 : decode cX11_trim 29 = .ok (.goto (-26), 3) := by decide +kernel
theorem dX11_trim_32 : decode cX11_trim 32 = .ok (.aload_n 0, 1) := by decide +kernel
theorem dX11_trim_33 : decode cX11_trim 33 = .ok (.getfield 13, 3) := by decide +kernel
theorem dX11_trim_36 : decode cX11_trim 36 = .ok (.iload_n 1, 1) := by decide +kernel
theorem dX11_trim_37 : decode cX11_trim 37 = .ok (.iload 4, 2) := by decide +kernel
theorem dX11_trim_39 : decode cX11_trim 39 = .ok (.iastore, 1) := by decide +kernel
theorem dX11_trim_40 : decode cX11_trim 40 = .ok (.aload_n 0, 1) := by decide +kernel
theorem dX11_trim_41 : decode cX11_trim 41 = .ok (.getfield 16, 3) := by decide +kernel
theorem dX11_trim_44 : decode cX11_trim 44 = .ok (.iload_n 1, 1) := by decide +kernel
theorem dX11_trim_45 : decode cX11_trim 45 = .ok (.iload 4, 2) := by decide +kernel
theorem dX11_trim_47 : decode cX11_trim 47 = .ok (.ifCond .ne 7, 3) := by decide +kernel
theorem dX11_trim_50 : decode cX11_trim 50 = .ok (.iconst 0, 1) := by decide +kernel
theorem dX11_trim_51 : decode cX11_trim 51 = .ok (.goto 4, 3) := by decide +kernel
theorem dX11_trim_54 : decode cX11_trim 54 = .ok (.iload_n 3, 1) := by decide +kernel
theorem dX11_trim_55 : decode cX11_trim 55 = .ok (.iastore, 1) := by decide +kernel
theorem dX11_trim_56 : decode cX11_trim 56 = .ok (.return_, 1) := by decide +kernel
theorem dX11_get_0 : decode cX11_get 0 = .ok (.iload_n 2, 1) := by decide +kernel
theorem dX11_get_1 : decode cX11_get 1 = .ok (.aload_n 0, 1) := by decide +kernel
theorem dX11_get_2 : decode cX11_get 2 = .ok (.getfield 13, 3) := by decide +kernel
theorem dX11_get_5 : decode cX11_get 5 = .ok (.iload_n 1, 1) := by decide +kernel
theorem dX11_get_6 : decode cX11_get 6 = .ok (.iaload, 1) := by decide +kernel
theorem dX11_get_7 : decode cX11_get 7 = .ok (.if_icmp .ge 18, 3) := by decide +kernel
theorem dX11_get_10 : decode cX11_get 10 = .ok (.aload_n 0, 1) := by decide +kernel
theorem dX11_get_11 : decode cX11_get 11 = .ok (.getfield 7, 3) := by decide +kernel
theorem dX11_get_14 : decode cX11_get 14 = .ok (.sipush 260, 3) := by decide +kernel
theorem dX11_get_17 : decode cX11_get 17 = .ok (.iload_n 1, 1) := by decide +kernel
theorem dX11_get_18 : decode cX11_get 18 = .ok (.imul, 1) := by decide +kernel
theorem dX11_get_19 : decode cX11_get 19 = .ok (.iload_n 2, 1) := by decide +kernel
theorem dX11_get_20 : decode cX11_get 20 = .ok (.iadd, 1) := by decide +kernel
theorem dX11_get_21 : decode cX11_get 21 = .ok (.iaload, 1) := by decide +kernel
theorem dX11_get_22 : decode cX11_get 22 = .ok (.goto 4, 3) := by decide +kernel
theorem dX11_get_25 : decode cX11_get 25 = .ok (.iconst 0, 1) := by decide +kernel
theorem dX11_get_26 : decode cX11_get 26 = .ok (.ireturn, 1) := by decide +kernel
theorem dX11_sizes_0 : decode cX11_sizes 0 = .ok (.aload_n 0, 1) := by decide +kernel
theorem dX11_sizes_1 : decode cX11_sizes 1 = .ok (.getfield 13, 3) := by decide +kernel
theorem dX11_sizes_4 : decode cX11_sizes 4 = .ok (.iload_n 1, 1) := by decide +kernel
theorem dX11_sizes_5 : decode cX11_sizes 5 = .ok (.iaload, 1) := by decide +kernel
theorem dX11_sizes_6 : decode cX11_sizes 6 = .ok (.aload_n 0, 1) := by decide +kernel
theorem dX11_sizes_7 : decode cX11_sizes 7 = .ok (.getfield 13, 3) := by decide +kernel
theorem dX11_sizes_10 : decode cX11_sizes 10 = .ok (.iload_n 2, 1) := by decide +kernel
theorem dX11_sizes_11 : decode cX11_sizes 11 = .ok (.iaload, 1) := by decide +kernel
theorem dX11_sizes_12 : decode cX11_sizes 12 = .ok (.if_icmp .eq 24, 3) := by decide +kernel
theorem dX11_sizes_15 : decode cX11_sizes 15 = .ok (.aload_n 0, 1) := by decide +kernel
theorem dX11_sizes_16 : decode cX11_sizes 16 = .ok (.getfield 13, 3) := by decide +kernel
theorem dX11_sizes_19 : decode cX11_sizes 19 = .ok (.iload_n 1, 1) := by decide +kernel
theorem dX11_sizes_20 : decode cX11_sizes 20 = .ok (.iaload, 1) := by decide +kernel
theorem dX11_sizes_21 : decode cX11_sizes 21 = .ok (.aload_n 0, 1) := by decide +kernel
theorem dX11_sizes_22 : decode cX11_sizes 22 = .ok (.getfield 13, 3) := by decide +kernel
theorem dX11_sizes_25 : decode cX11_sizes 25 = .ok (.iload_n 2, 1) := by decide +kernel
theorem dX11_sizes_26 : decode cX11_sizes 26 = .ok (.iaload, 1) := by decide +kernel
theorem dX11_sizes_27 : decode cX11_sizes 27 = .ok (.if_icmp .le 7, 3) := by decide +kernel
theorem dX11_sizes_30 : decode cX11_sizes 30 = .ok (.iconst 1, 1) := by decide +kernel
theorem dX11_sizes_31 : decode cX11_sizes 31 = .ok (.goto 4, 3) := by decide +kernel
theorem dX11_sizes_34 : decode cX11_sizes 34 = .ok (.iconst (-1), 1) := by decide +kernel
theorem dX11_sizes_35 : decode cX11_sizes 35 = .ok (.ireturn, 1) := by decide +kernel
theorem dX11_sizes_36 : decode cX11_sizes 36 = .ok (.aload_n 0, 1) := by decide +kernel
theorem dX11_sizes_37 : decode cX11_sizes 37 = .ok (.getfield 13, 3) := by decide +kernel
theorem dX11_sizes_40 : decode cX11_sizes 40 = .ok (.iload_n 1, 1) := by decide +kernel
theorem dX11_sizes_41 : decode cX11_sizes 41 = .ok (.iaload, 1) := by decide +kernel
theorem dX11_sizes_42 : decode cX11_sizes 42 = .ok (.iconst 1, 1) := by decide +kernel
theorem dX11_sizes_43 : decode cX11_sizes 43 = .ok (.isub, 1) := by decide +kernel
theorem dX11_sizes_44 : decode cX11_sizes 44 = .ok (.istore_n 3, 1) := by decide +kernel
theorem dX11_sizes_45 : decode cX11_sizes 45 = .ok (.iload_n 3, 1) := by decide +kernel
theorem dX11_sizes_46 : decode cX11_sizes 46 = .ok (.ifCond .lt 69, 3) := by decide +kernel
theorem dX11_sizes_49 : decode cX11_sizes 49 = .ok (.aload_n 0, 1) := by decide +kernel
theorem dX11_sizes_50 : decode cX11_sizes 50 = .ok (.getfield 7, 3) := by decide +kernel
theorem dX11_sizes_53 : decode cX11_sizes 53 = .ok (.sipush 260, 3) := by decide +kernel
theorem dX11_sizes_56 : decode cX11_sizes 56 = .ok (.iload_n 1, 1) := by decide +kernel
theorem dX11_sizes_57 : decode cX11_sizes 57 = .ok (.imul, 1) := by decide +kernel
theorem dX11_sizes_58 : decode cX11_sizes 58 = .ok (.iload_n 3, 1) := by decide +kernel
theorem dX11_sizes_59 : decode cX11_sizes 59 = .ok (.iadd, 1) := by decide +kernel
theorem dX11_sizes_60 : decode cX11_sizes 60 = .ok (.iaload, 1) := by decide +kernel
theorem dX11_sizes_61 : decode cX11_sizes 61 = .ok (.aload_n 0, 1) := by decide +kernel
theorem dX11_sizes_62 : decode cX11_sizes 62 = .ok (.getfield 7, 3) := by decide +kernel
theorem dX11_sizes_65 : decode cX11_sizes 65 = .ok (.sipush 260, 3) := by decide +kernel
theorem dX11_sizes_68 : decode cX11_sizes 68 = .ok (.iload_n 2, 1) := by decide +kernel
theorem dX11_sizes_69 : decode cX11_sizes 69 = .ok (.imul, 1) := by decide +kernel
theorem dX11_sizes_70 : decode cX11_sizes 70 = .ok (.iload_n 3, 1) := by decide +kernel
theorem dX11_sizes_71 : decode cX11_sizes 71 = .ok (.iadd, 1) := by decide +kernel
theorem dX11_sizes_72 : decode cX11_sizes 72 = .ok (.iaload, 1) := by decide +kernel
theorem dX11_sizes_73 : decode cX11_sizes 73 = .ok (.if_icmp .eq 36, 3) := by decide +kernel
theorem dX11_sizes_76 : decode cX11_sizes 76 = .ok (.aload_n 0, 1) := by decide +kernel
theorem dX11_sizes_77 : decode cX11_sizes 77 = .ok (.getfield 7, 3) := by decide +kernel
theorem dX11_sizes_80 : decode cX11_sizes 80 = .ok (.sipush 260, 3) := by decide +kernel
theorem dX11_sizes_83 : decode cX11_sizes 83 = .ok (.iload_n 1, 1) := by decide +kernel
theorem dX11_sizes_84 : decode cX11_sizes 84 = .ok (.imul, 1) := by decide +kernel
theorem dX11_sizes_85 : decode cX11_sizes 85 = .ok (.iload_n 3, 1) := by decide +kernel
theorem dX11_sizes_86 : decode cX11_sizes 86 = .ok (.iadd, 1) := by decide +kernel
theorem dX11_sizes_87 : decode cX11_sizes 87 = .ok (.iaload, 1) := by decide +kernel
theorem dX11_sizes_88 : decode cX11_sizes 88 = .ok (.aload_n 0, 1) := by decide +kernel
theorem dX11_sizes_89 : decode cX11_sizes 89 = .ok (.getfield 7, 3) := by decide +kernel
theorem dX11_sizes_92 : decode cX11_sizes 92 = .ok (.sipush 260, 3) := by decide +kernel
theorem dX11_sizes_95 : decode cX11_sizes 95 = .ok (.iload_n 2, 1) := by decide +kernel
theorem dX11_sizes_96 : decode cX11_sizes 96 = .ok (.imul, 1) := by decide +kernel
theorem dX11_sizes_97 : decode cX11_sizes 97 = .ok (.iload_n 3, 1) := by decide +kernel
theorem dX11_sizes_98 : decode cX11_sizes 98 = .ok (.iadd, 1) := by decide +kernel
theorem dX11_sizes_99 : decode cX11_sizes 99 = .ok (.iaload, 1) := by decide +kernel
theorem dX11_sizes_100 : decode cX11_sizes 100 = .ok (.if_icmp .le 7, 3) := by decide +kernel
theorem dX11_sizes_103 : decode cX11_sizes 103 = .ok (.iconst 1, 1) := by decide +kernel
theorem dX11_sizes_104 : decode cX11_sizes 104 = .ok (.goto 4, 3) := by decide +kernel
theorem dX11_sizes_107 : decode cX11_sizes 107 = .ok (.iconst (-1), 1) := by decide +kernel
theorem dX11_sizes_108 : decode cX11_sizes 108 = .ok (.ireturn, 1) := by decide +kernel
theorem dX11_sizes_109 : decode cX11_sizes 109 = .ok (.iinc 3 (-1), 3) := by decide +kernel
theorem dX11_sizes_112 : decode cX11_sizes 112 = .ok (.goto (-67), 3) := by decide +kernel
theorem dX11_sizes_115 : decode cX11_sizes 115 = .ok (.iconst 0, 1) := by decide +kernel
theorem dX11_sizes_116 : decode cX11_sizes 116 = .ok (.ireturn, 1) := by decide +kernel
theorem dX11_sizeSum_0 : decode cX11_sizeSum 0 = .ok (.aload_n 0, 1) := by decide +kernel
theorem dX11_sizeSum_1 : decode cX11_sizeSum 1 = .ok (.getfield 13, 3) := by decide +kernel
theorem dX11_sizeSum_4 : decode cX11_sizeSum 4 = .ok (.iload_n 2, 1) := by decide +kernel
theorem dX11_sizeSum_5 : decode cX11_sizeSum 5 = .ok (.iaload, 1) := by decide +kernel
theorem dX11_sizeSum_6 : decode cX11_sizeSum 6 = .ok (.aload_n 0, 1) := by decide +kernel
theorem dX11_sizeSum_7 : decode cX11_sizeSum 7 = .ok (.getfield 13, 3) := by decide +kernel
theorem dX11_sizeSum_10 : decode cX11_sizeSum 10 = .ok (.iload_n 3, 1) := by decide +kernel
theorem dX11_sizeSum_11 : decode cX11_sizeSum 11 = .ok (.iaload, 1) := by decide +kernel
theorem dX11_sizeSum_12 : decode cX11_sizeSum 12 = .ok (.if_icmp .le 12, 3) := by decide +kernel
theorem dX11_sizeSum_15 : decode cX11_sizeSum 15 = .ok (.aload_n 0, 1) := by decide +kernel
theorem dX11_sizeSum_16 : decode cX11_sizeSum 16 = .ok (.getfield 13, 3) := by decide +kernel
theorem dX11_sizeSum_19 : decode cX11_sizeSum 19 = .ok (.iload_n 2, 1) := by decide +kernel
theorem dX11_sizeSum_20 : decode cX11_sizeSum 20 = .ok (.iaload, 1) := by decide +kernel
theorem dX11_sizeSum_21 : decode cX11_sizeSum 21 = .ok (.goto 9, 3) := by decide +kernel
theorem dX11_sizeSum_24 : decode cX11_sizeSum 24 = .ok (.aload_n 0, 1) := by decide +kernel
theorem dX11_sizeSum_25 : decode cX11_sizeSum 25 = .ok (.getfield 13, 3) := by decide +kernel
theorem dX11_sizeSum_28 : decode cX11_sizeSum 28 = .ok (.iload_n 3, 1) := by decide +kernel
theorem dX11_sizeSum_29 : decode cX11_sizeSum 29 = .ok (.iaload, 1) := by decide +kernel
theorem dX11_sizeSum_30 : decode cX11_sizeSum 30 = .ok (.istore 5, 2) := by decide +kernel
theorem dX11_sizeSum_32 : decode cX11_sizeSum 32 = .ok (.iconst 0, 1) := by decide +kernel
theorem dX11_sizeSum_33 : decode cX11_sizeSum 33 = .ok (.istore 6, 2) := by decide +kernel
theorem dX11_sizeSum_35 : decode cX11_sizeSum 35 = .ok (.iconst 0, 1) := by decide +kernel
theorem dX11_sizeSum_36 : decode cX11_sizeSum 36 = .ok (.istore 7, 2) := by decide +kernel
theorem dX11_sizeSum_38 : decode cX11_sizeSum 38 = .ok (.iload 7, 2) := by decide +kernel
theorem dX11_sizeSum_40 : decode cX11_sizeSum 40 = .ok (.iload 5, 2) := by decide +kernel
theorem dX11_sizeSum_42 : decode cX11_sizeSum 42 = .ok (.if_icmp .ge 54, 3) := by decide +kernel
theorem dX11_sizeSum_45 : decode cX11_sizeSum 45 = .ok (.iload 6, 2) := by decide +kernel
theorem dX11_sizeSum_47 : decode cX11_sizeSum 47 = .ok (.aload_n 0, 1) := by decide +kernel
theorem dX11_sizeSum_48 : decode cX11_sizeSum 48 = .ok (.iload_n 2, 1) := by decide +kernel
theorem dX11_sizeSum_49 : decode cX11_sizeSum 49 = .ok (.iload 7, 2) := by decide +kernel
theorem dX11_sizeSum_51 : decode cX11_sizeSum 51 = .ok (.invokevirtual 36, 3) := by decide +kernel
theorem dX11_sizeSum_54 : decode cX11_sizeSum 54 = .ok (.aload_n 0, 1) := by decide +kernel
theorem dX11_sizeSum_55 : decode cX11_sizeSum 55 = .ok (.iload_n 3, 1) := by decide +kernel
theorem dX11_sizeSum_56 : decode cX11_sizeSum 56 = .ok (.iload 7, 2) := by decide +kernel
theorem dX11_sizeSum_58 : decode cX11_sizeSum 58 = .ok (.invokevirtual 36, 3) := by decide +kernel
theorem dX11_sizeSum_61 : decode cX11_sizeSum 61 = .ok (.iadd, 1) := by decide +kernel
theorem dX11_sizeSum_62 : decode cX11_sizeSum 62 = .ok (.iadd, 1) := by decide +kernel
theorem dX11_sizeSum_63 : decode cX11_sizeSum 63 = .ok (.istore 6, 2) := by decide +kernel
theorem dX11_sizeSum_65 : decode cX11_sizeSum 65 = .ok (.aload_n 0, 1) := by decide +kernel
theorem dX11_sizeSum_66 : decode cX11_sizeSum 66 = .ok (.getfield 7, 3) := by decide +kernel
theorem dX11_sizeSum_69 : decode cX11_sizeSum 69 = .ok (.sipush 260, 3) := by decide +kernel
theorem dX11_sizeSum_72 : decode cX11_sizeSum 72 = .ok (.iload_n 1, 1) := by decide +kernel
theorem dX11_sizeSum_73 : decode cX11_sizeSum 73 = .ok (.imul, 1) := by decide +kernel
theorem dX11_sizeSum_74 : decode cX11_sizeSum 74 = .ok (.iload 7, 2) := by decide +kernel
theorem dX11_sizeSum_76 : decode cX11_sizeSum 76 = .ok (.iadd, 1) := by decide +kernel
theorem dX11_sizeSum_77 : decode cX11_sizeSum 77 = .ok (.iload 6, 2) := by decide +kernel
theorem dX11_sizeSum_79 : decode cX11_sizeSum 79 = .ok (.ldc 40, 2) := by decide +kernel
theorem dX11_sizeSum_81 : decode cX11_sizeSum 81 = .ok (.iand, 1) := by decide +kernel
theorem dX11_sizeSum_82 : decode cX11_sizeSum 82 = .ok (.iastore, 1) := by decide +kernel
theorem dX11_sizeSum_83 : decode cX11_sizeSum 83 = .ok (.iload 6, 2) := by decide +kernel
theorem dX11_sizeSum_85 : decode cX11_sizeSum 85 = .ok (.bipush 16, 2) := by decide +kernel
theorem dX11_sizeSum_87 : decode cX11_sizeSum 87 = .ok (.ishr, 1) := by decide +kernel
theorem dX11_sizeSum_88 : decode cX11_sizeSum 88 = .ok (.istore 6, 2) := by decide +kernel
theorem dX11_sizeSum_90 : decode cX11_sizeSum 90 = .ok (.iinc 7 1, 3) := by decide +kernel
theorem dX11_sizeSum_93 : decode cX11_sizeSum 93 = .ok (.goto (-55), 3) := by decide +kernel
theorem dX11_sizeSum_96 : decode cX11_sizeSum 96 = .ok (.aload_n 0, 1) := by decide +kernel
theorem dX11_sizeSum_97 : decode cX11_sizeSum 97 = .ok (.getfield 7, 3) := by decide +kernel
theorem dX11_sizeSum_100 : decode cX11_sizeSum 100 = .ok (.sipush 260, 3) := by decide +kernel
theorem dX11_sizeSum_103 : decode cX11_sizeSum 103 = .ok (.iload_n 1, 1) := by decide +kernel
theorem dX11_sizeSum_104 : decode cX11_sizeSum 104 = .ok (.imul, 1) := by decide +kernel
theorem dX11_sizeSum_105 : decode cX11_sizeSum 105 = .ok (.iload 5, 2) := by decide +kernel
theorem dX11_sizeSum_107 : decode cX11_sizeSum 107 = .ok (.iadd, 1) := by decide +kernel
theorem dX11_sizeSum_108 : decode cX11_sizeSum 108 = .ok (.iload 6, 2) := by decide +kernel
theorem dX11_sizeSum_110 : decode cX11_sizeSum 110 = .ok (.iastore, 1) := by decide +kernel
theorem dX11_sizeSum_111 : decode cX11_sizeSum 111 = .ok (.aload_n 0, 1) := by decide +kernel
theorem dX11_sizeSum_112 : decode cX11_sizeSum 112 = .ok (.iload_n 1, 1) := by decide +kernel
theorem dX11_sizeSum_113 : decode cX11_sizeSum 113 = .ok (.iload 5, 2) := by decide +kernel
theorem dX11_sizeSum_115 : decode cX11_sizeSum 115 = .ok (.iconst 1, 1) := by decide +kernel
theorem dX11_sizeSum_116 : decode cX11_sizeSum 116 = .ok (.iadd, 1) := by decide +kernel
theorem dX11_sizeSum_117 : decode cX11_sizeSum 117 = .ok (.iload 4, 2) := by decide +kernel
theorem dX11_sizeSum_119 : decode cX11_sizeSum 119 = .ok (.invokevirtual 41, 3) := by decide +kernel
theorem dX11_sizeSum_122 : decode cX11_sizeSum 122 = .ok (.return_, 1) := by decide +kernel
theorem dX11_sizeLess_0 : decode cX11_sizeLess 0 = .ok (.aload_n 0, 1) := by decide +kernel
theorem dX11_sizeLess_1 : decode cX11_sizeLess 1 = .ok (.getfield 13, 3) := by decide +kernel
theorem dX11_sizeLess_4 : decode cX11_sizeLess 4 = .ok (.iload_n 2, 1) := by decide +kernel
theorem dX11_sizeLess_5 : decode cX11_sizeLess 5 = .ok (.iaload, 1) := by decide +kernel
theorem dX11_sizeLess_6 : decode cX11_sizeLess 6 = .ok (.istore 5, 2) := by decide +kernel
theorem dX11_sizeLess_8 : decode cX11_sizeLess 8 = .ok (.iconst 0, 1) := by decide +kernel
theorem dX11_sizeLess_9 : decode cX11_sizeLess 9 = .ok (.istore 6, 2) := by decide +kernel
theorem dX11_sizeLess_11 : decode cX11_sizeLess 11 = .ok (.iconst 0, 1) := by decide +kernel
theorem dX11_sizeLess_12 : decode cX11_sizeLess 12 = .ok (.istore 7, 2) := by decide +kernel
theorem dX11_sizeLess_14 : decode cX11_sizeLess 14 = .ok (.iload 7, 2) := by decide +kernel
theorem dX11_sizeLess_16 : decode cX11_sizeLess 16 = .ok (.iload 5, 2) := by decide +kernel
theorem dX11_sizeLess_18 : decode cX11_sizeLess 18 = .ok (.if_icmp .ge 59, 3) := by decide +kernel
theorem dX11_sizeLess_21 : decode cX11_sizeLess 21 = .ok (.aload_n 0, 1) := by decide +kernel
theorem dX11_sizeLess_22 : decode cX11_sizeLess 22 = .ok (.iload_n 2, 1) := by decide +kernel
theorem dX11_sizeLess_23 : decode cX11_sizeLess 23 = .ok (.iload 7, 2) := by decide +kernel
theorem dX11_sizeLess_25 : decode cX11_sizeLess 25 = .ok (.invokevirtual 36, 3) := by decide +kernel
theorem dX11_sizeLess_28 : decode cX11_sizeLess 28 = .ok (.aload_n 0, 1) := by decide +kernel
theorem dX11_sizeLess_29 : decode cX11_sizeLess 29 = .ok (.iload_n 3, 1) := by decide +kernel
theorem dX11_sizeLess_30 : decode cX11_sizeLess 30 = .ok (.iload 7, 2) := by decide +kernel
theorem dX11_sizeLess_32 : decode cX11_sizeLess 32 = .ok (.invokevirtual 36, 3) := by decide +kernel
theorem dX11_sizeLess_35 : decode cX11_sizeLess 35 = .ok (.isub, 1) := by decide +kernel
theorem dX11_sizeLess_36 : decode cX11_sizeLess 36 = .ok (.iload 6, 2) := by decide +kernel
theorem dX11_sizeLess_38 : decode cX11_sizeLess 38 = .ok (.isub, 1) := by decide +kernel
theorem dX11_sizeLess_39 : decode cX11_sizeLess 39 = .ok (.istore 8, 2) := by decide +kernel
theorem dX11_sizeLess_41 : decode cX11_sizeLess 41 = .ok (.iload 8, 2) := by decide +kernel
theorem dX11_sizeLess_43 : decode cX11_sizeLess 43 = .ok (.ifCond .ge 7, 3) := by decide +kernel
theorem dX11_sizeLess_46 : decode cX11_sizeLess 46 = .ok (.iconst 1, 1) := by decide +kernel
theorem dX11_sizeLess_47 : decode cX11_sizeLess 47 = .ok (.goto 4, 3) := by decide +kernel
theorem dX11_sizeLess_50 : decode cX11_sizeLess 50 = .ok (.iconst 0, 1) := by decide +kernel
theorem dX11_sizeLess_51 : decode cX11_sizeLess 51 = .ok (.istore 6, 2) := by decide +kernel
theorem dX11_sizeLess_53 : decode cX11_sizeLess 53 = .ok (.aload_n 0, 1) := by decide +kernel
theorem dX11_sizeLess_54 : decode cX11_sizeLess 54 = .ok (.getfield 7, 3) := by decide +kernel
theorem dX11_sizeLess_57 : decode cX11_sizeLess 57 = .ok (.sipush 260, 3) := by decide +kernel
theorem dX11_sizeLess_60 : decode cX11_sizeLess 60 = .ok (.iload_n 1, 1) := by decide +kernel
theorem dX11_sizeLess_61 : decode cX11_sizeLess 61 = .ok (.imul, 1) := by decide +kernel
theorem dX11_sizeLess_62 : decode cX11_sizeLess 62 = .ok (.iload 7, 2) := by decide +kernel
theorem dX11_sizeLess_64 : decode cX11_sizeLess 64 = .ok (.iadd, 1) := by decide +kernel
theorem dX11_sizeLess_65 : decode cX11_sizeLess 65 = .ok (.iload 8, 2) := by decide +kernel
theorem dX11_sizeLess_67 : decode cX11_sizeLess 67 = .ok (.ldc 40, 2) := by decide +kernel
theorem dX11_sizeLess_69 : decode cX11_sizeLess 69 = .ok (.iand, 1) := by decide +kernel
theorem dX11_sizeLess_70 : decode cX11_sizeLess 70 = .ok (.iastore, 1) := by decide +kernel
theorem dX11_sizeLess_71 : decode cX11_sizeLess 71 = .ok (.iinc 7 1, 3) := by decide +kernel
theorem dX11_sizeLess_74 : decode cX11_sizeLess 74 = .ok (.goto (-60), 3) := by decide +kernel
theorem dX11_sizeLess_77 : decode cX11_sizeLess 77 = .ok (.aload_n 0, 1) := by decide +kernel
theorem dX11_sizeLess_78 : decode cX11_sizeLess 78 = .ok (.iload_n 1, 1) := by decide +kernel
theorem dX11_sizeLess_79 : decode cX11_sizeLess 79 = .ok (.iload 5, 2) := by decide +kernel
theorem dX11_sizeLess_81 : decode cX11_sizeLess 81 = .ok (.iload 4, 2) := by decide +kernel
theorem dX11_sizeLess_83 : decode cX11_sizeLess 83 = .ok (.invokevirtual 41, 3) := by decide +kernel
theorem dX11_sizeLess_86 : decode cX11_sizeLess 86 = .ok (.return_, 1) := by decide +kernel
theorem dX11_sum_0 : decode cX11_sum 0 = .ok (.aload_n 0, 1) := by decide +kernel
theorem dX11_sum_1 : decode cX11_sum 1 = .ok (.getfield 16, 3) := by decide +kernel
theorem dX11_sum_4 : decode cX11_sum 4 = .ok (.iload_n 3, 1) := by decide +kernel
theorem dX11_sum_5 : decode cX11_sum 5 = .ok (.iaload, 1) := by decide +kernel
theorem dX11_sum_6 : decode cX11_sum 6 = .ok (.iload 4, 2) := by decide +kernel
theorem dX11_sum_8 : decode cX11_sum 8 = .ok (.imul, 1) := by decide +kernel
theorem dX11_sum_9 : decode cX11_sum 9 = .ok (.istore 5, 2) := by decide +kernel
theorem dX11_sum_11 : decode cX11_sum 11 = .ok (.iload 5, 2) := by decide +kernel
theorem dX11_sum_13 : decode cX11_sum 13 = .ok (.ifCond .ne 12, 3) := by decide +kernel
theorem dX11_sum_16 : decode cX11_sum 16 = .ok (.aload_n 0, 1) := by decide +kernel
theorem dX11_sum_17 : decode cX11_sum 17 = .ok (.iload_n 1, 1) := by decide +kernel
theorem dX11_sum_18 : decode cX11_sum 18 = .ok (.iload_n 2, 1) := by decide +kernel
theorem dX11_sum_19 : decode cX11_sum 19 = .ok (.invokevirtual 45, 3) := by decide +kernel
theorem dX11_sum_22 : decode cX11_sum 22 = .ok (.goto 104, 3) := by decide +kernel
theorem dX11_sum_25 : decode cX11_sum 25 = .ok (.aload_n 0, 1) := by decide +kernel
theorem dX11_sum_26 : decode cX11_sum 26 = .ok (.getfield 16, 3) := by decide +kernel
theorem dX11_sum_29 : decode cX11_sum 29 = .ok (.iload_n 2, 1) := by decide +kernel
theorem dX11_sum_30 : decode cX11_sum 30 = .ok (.iaload, 1) := by decide +kernel
theorem dX11_sum_31 : decode cX11_sum 31 = .ok (.ifCond .ne 20, 3) := by decide +kernel
theorem dX11_sum_34 : decode cX11_sum 34 = .ok (.aload_n 0, 1) := by decide +kernel
theorem dX11_sum_35 : decode cX11_sum 35 = .ok (.iload_n 1, 1) := by decide +kernel
theorem dX11_sum_36 : decode cX11_sum 36 = .ok (.iload_n 3, 1) := by decide +kernel
theorem dX11_sum_37 : decode cX11_sum 37 = .ok (.invokevirtual 45, 3) := by decide +kernel
theorem dX11_sum_40 : decode cX11_sum 40 = .ok (.aload_n 0, 1) := by decide +kernel
theorem dX11_sum_41 : decode cX11_sum 41 = .ok (.getfield 16, 3) := by decide +kernel
theorem dX11_sum_44 : decode cX11_sum 44 = .ok (.iload_n 1, 1) := by decide +kernel
theorem dX11_sum_45 : decode cX11_sum 45 = .ok (.iload 5, 2) := by decide +kernel
theorem dX11_sum_47 : decode cX11_sum 47 = .ok (.iastore, 1) := by decide +kernel
theorem dX11_sum_48 : decode cX11_sum 48 = .ok (.goto 78, 3) := by decide +kernel
theorem dX11_sum_51 : decode cX11_sum 51 = .ok (.aload_n 0, 1) := by decide +kernel
theorem dX11_sum_52 : decode cX11_sum 52 = .ok (.getfield 16, 3) := by decide +kernel
theorem dX11_sum_55 : decode cX11_sum 55 = .ok (.iload_n 2, 1) := by decide +kernel
theorem dX11_sum_56 : decode cX11_sum 56 = .ok (.iaload, 1) := by decide +kernel
theorem dX11_sum_57 : decode cX11_sum 57 = .ok (.iload 5, 2) := by decide +kernel
theorem dX11_sum_59 : decode cX11_sum 59 = .ok (.if_icmp .ne 15, 3) := by decide +kernel
theorem dX11_sum_62 : decode cX11_sum 62 = .ok (.aload_n 0, 1) := by decide +kernel
theorem dX11_sum_63 : decode cX11_sum 63 = .ok (.iload_n 1, 1) := by decide +kernel
theorem dX11_sum_64 : decode cX11_sum 64 = .ok (.iload_n 2, 1) := by decide +kernel
theorem dX11_sum_65 : decode cX11_sum 65 = .ok (.iload_n 3, 1) := by decide +kernel
theorem dX11_sum_66 : decode cX11_sum 66 = .ok (.iload 5, 2) := by decide +kernel
theorem dX11_sum_68 : decode cX11_sum 68 = .ok (.invokevirtual 49, 3) := by decide +kernel
theorem dX11_sum_71 : decode cX11_sum 71 = .ok (.goto 55, 3) := by decide +kernel
theorem dX11_sum_74 : decode cX11_sum 74 = .ok (.aload_n 0, 1) := by decide +kernel
theorem dX11_sum_75 : decode cX11_sum 75 = .ok (.iload_n 2, 1) := by decide +kernel
theorem dX11_sum_76 : decode cX11_sum 76 = .ok (.iload_n 3, 1) := by decide +kernel
theorem dX11_sum_77 : decode cX11_sum 77 = .ok (.invokevirtual 53, 3) := by decide +kernel
theorem dX11_sum_80 : decode cX11_sum 80 = .ok (.istore 6, 2) := by decide +kernel
theorem dX11_sum_82 : decode cX11_sum 82 = .ok (.iload 6, 2) := by decide +kernel
theorem dX11_sum_84 : decode cX11_sum 84 = .ok (.ifCond .ne 12, 3) := by decide +kernel
theorem dX11_sum_87 : decode cX11_sum 87 = .ok (.aload_n 0, 1) := by decide +kernel
theorem dX11_sum_88 : decode cX11_sum 88 = .ok (.iload_n 1, 1) := by decide +kernel
theorem dX11_sum_89 : decode cX11_sum 89 = .ok (.iconst 0, 1) := by decide +kernel
theorem dX11_sum_90 : decode cX11_sum 90 = .ok (.invokevirtual 56, 3) := by decide +kernel
theorem dX11_sum_93 : decode cX11_sum 93 = .ok (.goto 33, 3) := by decide +kernel
theorem dX11_sum_96 : decode cX11_sum 96 = .ok (.iload 6, 2) := by decide +kernel
theorem dX11_sum_98 : decode cX11_sum 98 = .ok (.ifCond .le 19, 3) := by decide +kernel
theorem dX11_sum_101 : decode cX11_sum 101 = .ok (.aload_n 0, 1) := by decide +kernel
theorem dX11_sum_102 : decode cX11_sum 102 = .ok (.iload_n 1, 1) := by decide +kernel
theorem dX11_sum_103 : decode cX11_sum 103 = .ok (.iload_n 2, 1) := by decide +kernel
theorem dX11_sum_104 : decode cX11_sum 104 = .ok (.iload_n 3, 1) := by decide +kernel
theorem dX11_sum_105 : decode cX11_sum 105 = .ok (.aload_n 0, 1) := by decide +kernel
theorem dX11_sum_106 : decode cX11_sum 106 = .ok (.getfield 16, 3) := by decide +kernel
theorem dX11_sum_109 : decode cX11_sum 109 = .ok (.iload_n 2, 1) := by decide +kernel
theorem dX11_sum_110 : decode cX11_sum 110 = .ok (.iaload, 1) := by decide +kernel
theorem dX11_sum_111 : decode cX11_sum 111 = .ok (.invokevirtual 59, 3) := by decide +kernel
theorem dX11_sum_114 : decode cX11_sum 114 = .ok (.goto 12, 3) := by decide +kernel
theorem dX11_sum_117 : decode cX11_sum 117 = .ok (.aload_n 0, 1) := by decide +kernel
theorem dX11_sum_118 : decode cX11_sum 118 = .ok (.iload_n 1, 1) := by decide +kernel
theorem dX11_sum_119 : decode cX11_sum 119 = .ok (.iload_n 3, 1) := by decide +kernel
theorem dX11_sum_120 : decode cX11_sum 120 = .ok (.iload_n 2, 1) := by decide +kernel
theorem dX11_sum_121 : decode cX11_sum 121 = .ok (.iload 5, 2) := by decide +kernel
theorem dX11_sum_123 : decode cX11_sum 123 = .ok (.invokevirtual 59, 3) := by decide +kernel
theorem dX11_sum_126 : decode cX11_sum 126 = .ok (.return_, 1) := by decide +kernel
theorem dX11_product_0 : decode cX11_product 0 = .ok (.aload_n 0, 1) := by decide +kernel
theorem dX11_product_1 : decode cX11_product 1 = .ok (.getfield 13, 3) := by decide +kernel
theorem dX11_product_4 : decode cX11_product 4 = .ok (.iload_n 2, 1) := by decide +kernel
theorem dX11_product_5 : decode cX11_product 5 = .ok (.iaload, 1) := by decide +kernel
theorem dX11_product_6 : decode cX11_product 6 = .ok (.aload_n 0, 1) := by decide +kernel
theorem dX11_product_7 : decode cX11_product 7 = .ok (.getfield 13, 3) := by decide +kernel
theorem dX11_product_10 : decode cX11_product 10 = .ok (.iload_n 3, 1) := by decide +kernel
theorem dX11_product_11 : decode cX11_product 11 = .ok (.iaload, 1) := by decide +kernel
theorem dX11_product_12 : decode cX11_product 12 = .ok (.iadd, 1) := by decide +kernel
theorem dX11_product_13 : decode cX11_product 13 = .ok (.istore 4, 2) := by decide +kernel
theorem dX11_product_15 : decode cX11_product 15 = .ok (.iconst 0, 1) := by decide +kernel
theorem dX11_product_16 : decode cX11_product 16 = .ok (.istore 5, 2) := by decide +kernel
theorem dX11_product_18 : decode cX11_product 18 = .ok (.iload 5, 2) := by decide +kernel
theorem dX11_product_20 : decode cX11_product 20 = .ok (.iload 4, 2) := by decide +kernel
theorem dX11_product_22 : decode cX11_product 22 = .ok (.if_icmp .ge 23, 3) := by decide +kernel
theorem dX11_product_25 : decode cX11_product 25 = .ok (.aload_n 0, 1) := by decide +kernel
theorem dX11_product_26 : decode cX11_product 26 = .ok (.getfield 7, 3) := by decide +kernel
theorem dX11_product_29 : decode cX11_product 29 = .ok (.sipush 260, 3) := by decide +kernel
theorem dX11_product_32 : decode cX11_product 32 = .ok (.iload_n 1, 1) := by decide +kernel
theorem dX11_product_33 : decode cX11_product 33 = .ok (.imul, 1) := by decide +kernel
theorem dX11_product_34 : decode cX11_product 34 = .ok (.iload 5, 2) := by decide +kernel
theorem dX11_product_36 : decode cX11_product 36 = .ok (.iadd, 1) := by decide +kernel
theorem dX11_product_37 : decode cX11_product 37 = .ok (.iconst 0, 1) := by decide +kernel
theorem dX11_product_38 : decode cX11_product 38 = .ok (.iastore, 1) := by decide +kernel
theorem dX11_product_39 : decode cX11_product 39 = .ok (.iinc 5 1, 3) := by decide +kernel
theorem dX11_product_42 : decode cX11_product 42 = .ok (.goto (-24), 3) := by decide +kernel
theorem dX11_product_45 : decode cX11_product 45 = .ok (.iconst 0, 1) := by decide +kernel
theorem dX11_product_46 : decode cX11_product 46 = .ok (.istore 5, 2) := by decide +kernel
theorem dX11_product_48 : decode cX11_product 48 = .ok (.iload 5, 2) := by decide +kernel
theorem dX11_product_50 : decode cX11_product 50 = .ok (.aload_n 0, 1) := by decide +kernel
theorem dX11_product_51 : decode cX11_product 51 = .ok (.getfield 13, 3) := by decide +kernel
theorem dX11_product_54 : decode cX11_product 54 = .ok (.iload_n 2, 1) := by decide +kernel
theorem dX11_product_55 : decode cX11_product 55 = .ok (.iaload, 1) := by decide +kernel
theorem dX11_product_56 : decode cX11_product 56 = .ok (.if_icmp .ge 137, 3) := by decide +kernel
theorem dX11_product_59 : decode cX11_product 59 = .ok (.lconst 0, 1) := by decide +kernel
theorem dX11_product_60 : decode cX11_product 60 = .ok (.lstore 6, 2) := by decide +kernel
theorem dX11_product_62 : decode cX11_product 62 = .ok (.iconst 0, 1) := by decide +kernel
theorem dX11_product_63 : decode cX11_product 63 = .ok (.istore 8, 2) := by decide +kernel
theorem dX11_product_65 : decode cX11_product 65 = .ok (.iload 8, 2) := by decide +kernel
theorem dX11_product_67 : decode cX11_product 67 = .ok (.aload_n 0, 1) := by decide +kernel
theorem dX11_product_68 : decode cX11_product 68 = .ok (.getfield 13, 3) := by decide +kernel
theorem dX11_product_71 : decode cX11_product 71 = .ok (.iload_n 3, 1) := by decide +kernel
theorem dX11_product_72 : decode cX11_product 72 = .ok (.iaload, 1) := by decide +kernel
theorem dX11_product_73 : decode cX11_product 73 = .ok (.if_icmp .ge 91, 3) := by decide +kernel
theorem dX11_product_76 : decode cX11_product 76 = .ok (.lload 6, 2) := by decide +kernel
theorem dX11_product_78 : decode cX11_product 78 = .ok (.aload_n 0, 1) := by decide +kernel
theorem dX11_product_79 : decode cX11_product 79 = .ok (.getfield 7, 3) := by decide +kernel
theorem dX11_product_82 : decode cX11_product 82 = .ok (.sipush 260, 3) := by decide +kernel
theorem dX11_product_85 : decode cX11_product 85 = .ok (.iload_n 2, 1) := by decide +kernel
theorem dX11_product_86 : decode cX11_product 86 = .ok (.imul, 1) := by decide +kernel
theorem dX11_product_87 : decode cX11_product 87 = .ok (.iload 5, 2) := by decide +kernel
theorem dX11_product_89 : decode cX11_product 89 = .ok (.iadd, 1) := by decide +kernel
theorem dX11_product_90 : decode cX11_product 90 = .ok (.iaload, 1) := by decide +kernel
theorem dX11_product_91 : decode cX11_product 91 = .ok (.i2l, 1) := by decide +kernel
theorem dX11_product_92 : decode cX11_product 92 = .ok (.aload_n 0, 1) := by decide +kernel
theorem dX11_product_93 : decode cX11_product 93 = .ok (.getfield 7, 3) := by decide +kernel
theorem dX11_product_96 : decode cX11_product 96 = .ok (.sipush 260, 3) := by decide +kernel
theorem dX11_product_99 : decode cX11_product 99 = .ok (.iload_n 3, 1) := by decide +kernel
theorem dX11_product_100 : decode cX11_product 100 = .ok (.imul, 1) := by decide +kernel
theorem dX11_product_101 : decode cX11_product 101 = .ok (.iload 8, 2) := by decide +kernel
theorem dX11_product_103 : decode cX11_product 103 = .ok (.iadd, 1) := by decide +kernel
theorem dX11_product_104 : decode cX11_product 104 = .ok (.iaload, 1) := by decide +kernel
theorem dX11_product_105 : decode cX11_product 105 = .ok (.i2l, 1) := by decide +kernel
theorem dX11_product_106 : decode cX11_product 106 = .ok (.lmul, 1) := by decide +kernel
theorem dX11_product_107 : decode cX11_product 107 = .ok (.aload_n 0, 1) := by decide +kernel
theorem dX11_product_108 : decode cX11_product 108 = .ok (.getfield 7, 3) := by decide +kernel
theorem dX11_product_111 : decode cX11_product 111 = .ok (.sipush 260, 3) := by decide +kernel
theorem dX11_product_114 : decode cX11_product 114 = .ok (.iload_n 1, 1) := by decide +kernel
theorem dX11_product_115 : decode cX11_product 115 = .ok (.imul, 1) := by decide +kernel
theorem dX11_product_116 : decode cX11_product 116 = .ok (.iload 5, 2) := by decide +kernel
theorem dX11_product_118 : decode cX11_product 118 = .ok (.iadd, 1) := by decide +kernel
theorem dX11_product_119 : decode cX11_product 119 = .ok (.iload 8, 2) := by decide +kernel
theorem dX11_product_121 : decode cX11_product 121 = .ok (.iadd, 1) := by decide +kernel
theorem dX11_product_122 : decode cX11_product 122 = .ok (.iaload, 1) := by decide +kernel
theorem dX11_product_123 : decode cX11_product 123 = .ok (.i2l, 1) := by decide +kernel
theorem dX11_product_124 : decode cX11_product 124 = .ok (.ladd, 1) := by decide +kernel
theorem dX11_product_125 : decode cX11_product 125 = .ok (.ladd, 1) := by decide +kernel
theorem dX11_product_126 : decode cX11_product 126 = .ok (.lstore 6, 2) := by decide +kernel
theorem dX11_product_128 : decode cX11_product 128 = .ok (.aload_n 0, 1) := by decide +kernel
theorem dX11_product_129 : decode cX11_product 129 = .ok (.getfield 7, 3) := by decide +kernel
theorem dX11_product_132 : decode cX11_product 132 = .ok (.sipush 260, 3) := by decide +kernel
theorem dX11_product_135 : decode cX11_product 135 = .ok (.iload_n 1, 1) := by decide +kernel
theorem dX11_product_136 : decode cX11_product 136 = .ok (.imul, 1) := by decide +kernel
theorem dX11_product_137 : decode cX11_product 137 = .ok (.iload 5, 2) := by decide +kernel
theorem dX11_product_139 : decode cX11_product 139 = .ok (.iadd, 1) := by decide +kernel
theorem dX11_product_140 : decode cX11_product 140 = .ok (.iload 8, 2) := by decide +kernel
theorem dX11_product_142 : decode cX11_product 142 = .ok (.iadd, 1) := by decide +kernel
theorem dX11_product_143 : decode cX11_product 143 = .ok (.lload 6, 2) := by decide +kernel
theorem dX11_product_145 : decode cX11_product 145 = .ok (.ldc2_w 62, 3) := by decide +kernel
theorem dX11_product_148 : decode cX11_product 148 = .ok (.land, 1) := by decide +kernel
theorem dX11_product_149 : decode cX11_product 149 = .ok (.l2i, 1) := by decide +kernel
theorem dX11_product_150 : decode cX11_product 150 = .ok (.iastore, 1) := by decide +kernel
theorem dX11_product_151 : decode cX11_product 151 = .ok (.lload 6, 2) := by decide +kernel
theorem dX11_product_153 : decode cX11_product 153 = .ok (.bipush 16, 2) := by decide +kernel
theorem dX11_product_155 : decode cX11_product 155 = .ok (.lshr, 1) := by decide +kernel
theorem dX11_product_156 : decode cX11_product 156 = .ok (.lstore 6, 2) := by decide +kernel
theorem dX11_product_158 : decode cX11_product 158 = .ok (.iinc 8 1, 3) := by decide +kernel
theorem dX11_product_161 : decode cX11_product 161 = .ok (.goto (-96), 3) := by decide +kernel
theorem dX11_product_164 : decode cX11_product 164 = .ok (.aload_n 0, 1) := by decide +kernel
theorem dX11_product_165 : decode cX11_product 165 = .ok (.getfield 7, 3) := by decide +kernel
theorem dX11_product_168 : decode cX11_product 168 = .ok (.sipush 260, 3) := by decide +kernel
theorem dX11_product_171 : decode cX11_product 171 = .ok (.iload_n 1, 1) := by decide +kernel
theorem dX11_product_172 : decode cX11_product 172 = .ok (.imul, 1) := by decide +kernel
theorem dX11_product_173 : decode cX11_product 173 = .ok (.iload 5, 2) := by decide +kernel
theorem dX11_product_175 : decode cX11_product 175 = .ok (.iadd, 1) := by decide +kernel
theorem dX11_product_176 : decode cX11_product 176 = .ok (.aload_n 0, 1) := by decide +kernel
theorem dX11_product_177 : decode cX11_product 177 = .ok (.getfield 13, 3) := by decide +kernel
theorem dX11_product_180 : decode cX11_product 180 = .ok (.iload_n 3, 1) := by decide +kernel
theorem dX11_product_181 : decode cX11_product 181 = .ok (.iaload, 1) := by decide +kernel
theorem dX11_product_182 : decode cX11_product 182 = .ok (.iadd, 1) := by decide +kernel
theorem dX11_product_183 : decode cX11_product 183 = .ok (.lload 6, 2) := by decide +kernel
theorem dX11_product_185 : decode cX11_product 185 = .ok (.l2i, 1) := by decide +kernel
theorem dX11_product_186 : decode cX11_product 186 = .ok (.iastore, 1) := by decide +kernel
theorem dX11_product_187 : decode cX11_product 187 = .ok (.iinc 5 1, 3) := by decide +kernel
theorem dX11_product_190 : decode cX11_product 190 = .ok (.goto (-142), 3) := by decide +kernel
theorem dX11_product_193 : decode cX11_product 193 = .ok (.aload_n 0, 1) := by decide +kernel
theorem dX11_product_194 : decode cX11_product 194 = .ok (.iload_n 1, 1) := by decide +kernel
theorem dX11_product_195 : decode cX11_product 195 = .ok (.iload 4, 2) := by decide +kernel
theorem dX11_product_197 : decode cX11_product 197 = .ok (.aload_n 0, 1) := by decide +kernel
theorem dX11_product_198 : decode cX11_product 198 = .ok (.getfield 16, 3) := by decide +kernel
theorem dX11_product_201 : decode cX11_product 201 = .ok (.iload_n 2, 1) := by decide +kernel
theorem dX11_product_202 : decode cX11_product 202 = .ok (.iaload, 1) := by decide +kernel
theorem dX11_product_203 : decode cX11_product 203 = .ok (.aload_n 0, 1) := by decide +kernel
theorem dX11_product_204 : decode cX11_product 204 = .ok (.getfield 16, 3) := by decide +kernel
theorem dX11_product_207 : decode cX11_product 207 = .ok (.iload_n 3, 1) := by decide +kernel
theorem dX11_product_208 : decode cX11_product 208 = .ok (.iaload, 1) := by decide +kernel
theorem dX11_product_209 : decode cX11_product 209 = .ok (.imul, 1) := by decide +kernel
theorem dX11_product_210 : decode cX11_product 210 = .ok (.invokevirtual 41, 3) := by decide +kernel
theorem dX11_product_213 : decode cX11_product 213 = .ok (.return_, 1) := by decide +kernel
theorem dX11_top_0 : decode cX11_top 0 = .ok (.lconst 0, 1) := by decide +kernel
theorem dX11_top_1 : decode cX11_top 1 = .ok (.lstore 4, 2) := by decide +kernel
theorem dX11_top_3 : decode cX11_top 3 = .ok (.iconst 0, 1) := by decide +kernel
theorem dX11_top_4 : decode cX11_top 4 = .ok (.istore 6, 2) := by decide +kernel
theorem dX11_top_6 : decode cX11_top 6 = .ok (.iload 6, 2) := by decide +kernel
theorem dX11_top_8 : decode cX11_top 8 = .ok (.iload_n 3, 1) := by decide +kernel
theorem dX11_top_9 : decode cX11_top 9 = .ok (.if_icmp .ge 44, 3) := by decide +kernel
theorem dX11_top_12 : decode cX11_top 12 = .ok (.lload 4, 2) := by decide +kernel
theorem dX11_top_14 : decode cX11_top 14 = .ok (.bipush 16, 2) := by decide +kernel
theorem dX11_top_16 : decode cX11_top 16 = .ok (.lshl, 1) := by decide +kernel
theorem dX11_top_17 : decode cX11_top 17 = .ok (.iload_n 2, 1) := by decide +kernel
theorem dX11_top_18 : decode cX11_top 18 = .ok (.iload 6, 2) := by decide +kernel
theorem dX11_top_20 : decode cX11_top 20 = .ok (.isub, 1) := by decide +kernel
theorem dX11_top_21 : decode cX11_top 21 = .ok (.ifCond .lt 21, 3) := by decide +kernel
theorem dX11_top_24 : decode cX11_top 24 = .ok (.aload_n 0, 1) := by decide +kernel
theorem dX11_top_25 : decode cX11_top 25 = .ok (.getfield 7, 3) := by decide +kernel
theorem dX11_top_28 : decode cX11_top 28 = .ok (.sipush 260, 3) := by decide +kernel
theorem dX11_top_31 : decode cX11_top 31 = .ok (.iload_n 1, 1) := by decide +kernel
theorem dX11_top_32 : decode cX11_top 32 = .ok (.imul, 1) := by decide +kernel
theorem dX11_top_33 : decode cX11_top 33 = .ok (.iload_n 2, 1) := by decide +kernel
theorem dX11_top_34 : decode cX11_top 34 = .ok (.iadd, 1) := by decide +kernel
theorem dX11_top_35 : decode cX11_top 35 = .ok (.iload 6, 2) := by decide +kernel
theorem dX11_top_37 : decode cX11_top 37 = .ok (.isub, 1) := by decide +kernel
theorem dX11_top_38 : decode cX11_top 38 = .ok (.iaload, 1) := by decide +kernel
theorem dX11_top_39 : decode cX11_top 39 = .ok (.goto 4, 3) := by decide +kernel
theorem dX11_top_42 : decode cX11_top 42 = .ok (.iconst 0, 1) := by decide +kernel
theorem dX11_top_43 : decode cX11_top 43 = .ok (.i2l, 1) := by decide +kernel
theorem dX11_top_44 : decode cX11_top 44 = .ok (.lor, 1) := by decide +kernel
theorem dX11_top_45 : decode cX11_top 45 = .ok (.lstore 4, 2) := by decide +kernel
theorem dX11_top_47 : decode cX11_top 47 = .ok (.iinc 6 1, 3) := by decide +kernel
theorem dX11_top_50 : decode cX11_top 50 = .ok (.goto (-44), 3) := by decide +kernel
theorem dX11_top_53 : decode cX11_top 53 = .ok (.lload 4, 2) := by decide +kernel
theorem dX11_top_55 : decode cX11_top 55 = .ok (.lreturn, 1) := by decide +kernel
theorem dX11_quotient_0 : decode cX11_quotient 0 = .ok (.aload_n 0, 1) := by decide +kernel
theorem dX11_quotient_1 : decode cX11_quotient 1 = .ok (.getfield 13, 3) := by decide +kernel
theorem dX11_quotient_4 : decode cX11_quotient 4 = .ok (.iload_n 3, 1) := by decide +kernel
theorem dX11_quotient_5 : decode cX11_quotient 5 = .ok (.iaload, 1) := by decide +kernel
theorem dX11_quotient_6 : decode cX11_quotient 6 = .ok (.istore 5, 2) := by decide +kernel
theorem dX11_quotient_8 : decode cX11_quotient 8 = .ok (.aload_n 0, 1) := by decide +kernel
theorem dX11_quotient_9 : decode cX11_quotient 9 = .ok (.getfield 13, 3) := by decide +kernel
theorem dX11_quotient_12 : decode cX11_quotient 12 = .ok (.iload 4, 2) := by decide +kernel
theorem dX11_quotient_14 : decode cX11_quotient 14 = .ok (.iaload, 1) := by decide +kernel
theorem dX11_quotient_15 : decode cX11_quotient 15 = .ok (.istore 6, 2) := by decide +kernel
theorem dX11_quotient_17 : decode cX11_quotient 17 = .ok (.aload_n 0, 1) := by decide +kernel
theorem dX11_quotient_18 : decode cX11_quotient 18 = .ok (.iload_n 2, 1) := by decide +kernel
theorem dX11_quotient_19 : decode cX11_quotient 19 = .ok (.iload_n 3, 1) := by decide +kernel
theorem dX11_quotient_20 : decode cX11_quotient 20 = .ok (.invokevirtual 45, 3) := by decide +kernel
theorem dX11_quotient_23 : decode cX11_quotient 23 = .ok (.aload_n 0, 1) := by decide +kernel
theorem dX11_quotient_24 : decode cX11_quotient 24 = .ok (.getfield 7, 3) := by decide +kernel
theorem dX11_quotient_27 : decode cX11_quotient 27 = .ok (.sipush 260, 3) := by decide +kernel
theorem dX11_quotient_30 : decode cX11_quotient 30 = .ok (.iload_n 2, 1) := by decide +kernel
theorem dX11_quotient_31 : decode cX11_quotient 31 = .ok (.imul, 1) := by decide +kernel
theorem dX11_quotient_32 : decode cX11_quotient 32 = .ok (.iload 5, 2) := by decide +kernel
theorem dX11_quotient_34 : decode cX11_quotient 34 = .ok (.iadd, 1) := by decide +kernel
theorem dX11_quotient_35 : decode cX11_quotient 35 = .ok (.iconst 0, 1) := by decide +kernel
theorem dX11_quotient_36 : decode cX11_quotient 36 = .ok (.iastore, 1) := by decide +kernel
theorem dX11_quotient_37 : decode cX11_quotient 37 = .ok (.iload 5, 2) := by decide +kernel
theorem dX11_quotient_39 : decode cX11_quotient 39 = .ok (.iload 6, 2) := by decide +kernel
theorem dX11_quotient_41 : decode cX11_quotient 41 = .ok (.if_icmp .ge 26, 3) := by decide +kernel
theorem dX11_quotient_44 : decode cX11_quotient 44 = .ok (.aload_n 0, 1) := by decide +kernel
theorem dX11_quotient_45 : decode cX11_quotient 45 = .ok (.iload_n 1, 1) := by decide +kernel
theorem dX11_quotient_46 : decode cX11_quotient 46 = .ok (.iconst 0, 1) := by decide +kernel
theorem dX11_quotient_47 : decode cX11_quotient 47 = .ok (.invokevirtual 56, 3) := by decide +kernel
theorem dX11_quotient_50 : decode cX11_quotient 50 = .ok (.aload_n 0, 1) := by decide +kernel
theorem dX11_quotient_51 : decode cX11_quotient 51 = .ok (.getfield 16, 3) := by decide +kernel
theorem dX11_quotient_54 : decode cX11_quotient 54 = .ok (.iload_n 2, 1) := by decide +kernel
theorem dX11_quotient_55 : decode cX11_quotient 55 = .ok (.iload 5, 2) := by decide +kernel
theorem dX11_quotient_57 : decode cX11_quotient 57 = .ok (.ifCond .ne 7, 3) := by decide +kernel
theorem dX11_quotient_60 : decode cX11_quotient 60 = .ok (.iconst 0, 1) := by decide +kernel
theorem dX11_quotient_61 : decode cX11_quotient 61 = .ok (.goto 4, 3) := by decide +kernel
theorem dX11_quotient_64 : decode cX11_quotient 64 = .ok (.iconst 1, 1) := by decide +kernel
theorem dX11_quotient_65 : decode cX11_quotient 65 = .ok (.iastore, 1) := by decide +kernel
theorem dX11_quotient_66 : decode cX11_quotient 66 = .ok (.return_, 1) := by decide +kernel
theorem dX11_quotient_67 : decode cX11_quotient 67 = .ok (.iload 6, 2) := by decide +kernel
theorem dX11_quotient_69 : decode cX11_quotient 69 = .ok (.iconst 1, 1) := by decide +kernel
theorem dX11_quotient_70 : decode cX11_quotient 70 = .ok (.if_icmp .le 17, 3) := by decide +kernel
theorem dX11_quotient_73 : decode cX11_quotient 73 = .ok (.aload_n 0, 1) := by decide +kernel
theorem dX11_quotient_74 : decode cX11_quotient 74 = .ok (.iload 4, 2) := by decide +kernel
theorem dX11_quotient_76 : decode cX11_quotient 76 = .ok (.iload 6, 2) := by decide +kernel
theorem dX11_quotient_78 : decode cX11_quotient 78 = .ok (.iconst 1, 1) := by decide +kernel
theorem dX11_quotient_79 : decode cX11_quotient 79 = .ok (.isub, 1) := by decide +kernel
theorem dX11_quotient_80 : decode cX11_quotient 80 = .ok (.iconst 2, 1) := by decide +kernel
theorem dX11_quotient_81 : decode cX11_quotient 81 = .ok (.invokevirtual 64, 3) := by decide +kernel
theorem dX11_quotient_84 : decode cX11_quotient 84 = .ok (.goto 15, 3) := by decide +kernel
theorem dX11_quotient_87 : decode cX11_quotient 87 = .ok (.aload_n 0, 1) := by decide +kernel
theorem dX11_quotient_88 : decode cX11_quotient 88 = .ok (.getfield 7, 3) := by decide +kernel
theorem dX11_quotient_91 : decode cX11_quotient 91 = .ok (.sipush 260, 3) := by decide +kernel
theorem dX11_quotient_94 : decode cX11_quotient 94 = .ok (.iload 4, 2) := by decide +kernel
theorem dX11_quotient_96 : decode cX11_quotient 96 = .ok (.imul, 1) := by decide +kernel
theorem dX11_quotient_97 : decode cX11_quotient 97 = .ok (.iaload, 1) := by decide +kernel
theorem dX11_quotient_98 : decode cX11_quotient 98 = .ok (.i2l, 1) := by decide +kernel
theorem dX11_quotient_99 : decode cX11_quotient 99 = .ok (.lstore 7, 2) := by decide +kernel
theorem dX11_quotient_101 : decode cX11_quotient 101 = .ok (.iload 5, 2) := by decide +kernel
theorem dX11_quotient_103 : decode cX11_quotient 103 = .ok (.iload 6, 2) := by decide +kernel
theorem dX11_quotient_105 : decode cX11_quotient 105 = .ok (.isub, 1) := by decide +kernel
theorem dX11_quotient_106 : decode cX11_quotient 106 = .ok (.istore 9, 2) := by decide +kernel
theorem dX11_quotient_108 : decode cX11_quotient 108 = .ok (.iload 9, 2) := by decide +kernel
theorem dX11_quotient_110 : decode cX11_quotient 110 = .ok (.ifCond .lt 303, 3) := by decide +kernel
theorem dX11_quotient_113 : decode cX11_quotient 113 = .ok (.iload 6, 2) := by decide +kernel
theorem dX11_quotient_115 : decode cX11_quotient 115 = .ok (.iconst 1, 1) := by decide +kernel
theorem dX11_quotient_116 : decode cX11_quotient 116 = .ok (.if_icmp .le 17, 3) := by decide +kernel
theorem dX11_quotient_119 : decode cX11_quotient 119 = .ok (.aload_n 0, 1) := by decide +kernel
theorem dX11_quotient_120 : decode cX11_quotient 120 = .ok (.iload_n 2, 1) := by decide +kernel
theorem dX11_quotient_121 : decode cX11_quotient 121 = .ok (.iload 9, 2) := by decide +kernel
theorem dX11_quotient_123 : decode cX11_quotient 123 = .ok (.iload 6, 2) := by decide +kernel
theorem dX11_quotient_125 : decode cX11_quotient 125 = .ok (.iadd, 1) := by decide +kernel
theorem dX11_quotient_126 : decode cX11_quotient 126 = .ok (.iconst 3, 1) := by decide +kernel
theorem dX11_quotient_127 : decode cX11_quotient 127 = .ok (.invokevirtual 64, 3) := by decide +kernel
theorem dX11_quotient_130 : decode cX11_quotient 130 = .ok (.goto 14, 3) := by decide +kernel
theorem dX11_quotient_133 : decode cX11_quotient 133 = .ok (.aload_n 0, 1) := by decide +kernel
theorem dX11_quotient_134 : decode cX11_quotient 134 = .ok (.iload_n 2, 1) := by decide +kernel
theorem dX11_quotient_135 : decode cX11_quotient 135 = .ok (.iload 9, 2) := by decide +kernel
theorem dX11_quotient_137 : decode cX11_quotient 137 = .ok (.iload 6, 2) := by decide +kernel
theorem dX11_quotient_139 : decode cX11_quotient 139 = .ok (.iadd, 1) := by decide +kernel
theorem dX11_quotient_140 : decode cX11_quotient 140 = .ok (.iconst 2, 1) := by decide +kernel
theorem dX11_quotient_141 : decode cX11_quotient 141 = .ok (.invokevirtual 64, 3) := by decide +kernel
theorem dX11_quotient_144 : decode cX11_quotient 144 = .ok (.lstore 10, 2) := by decide +kernel
theorem dX11_quotient_146 : decode cX11_quotient 146 = .ok (.lload 10, 2) := by decide +kernel
theorem dX11_quotient_148 : decode cX11_quotient 148 = .ok (.lload 7, 2) := by decide +kernel
theorem dX11_quotient_150 : decode cX11_quotient 150 = .ok (.ldiv, 1) := by decide +kernel
theorem dX11_quotient_151 : decode cX11_quotient 151 = .ok (.lstore 12, 2) := by decide +kernel
theorem dX11_quotient_153 : decode cX11_quotient 153 = .ok (.lload 12, 2) := by decide +kernel
theorem dX11_quotient_155 : decode cX11_quotient 155 = .ok (.ldc2_w 62, 3) := by decide +kernel
theorem dX11_quotient_158 : decode cX11_quotient 158 = .ok (.lcmp, 1) := by decide +kernel
theorem dX11_quotient_159 : decode cX11_quotient 159 = .ok (.ifCond .le 9, 3) := by decide +kernel
theorem dX11_quotient_162 : decode cX11_quotient 162 = .ok (.ldc2_w 62, 3) := by decide +kernel
theorem dX11_quotient_165 : decode cX11_quotient 165 = .ok (.goto 5, 3) := by decide +kernel
theorem dX11_quotient_168 : decode cX11_quotient 168 = .ok (.lload 12, 2) := by decide +kernel
theorem dX11_quotient_170 : decode cX11_quotient 170 = .ok (.lstore 12, 2) := by decide +kernel
theorem dX11_quotient_172 : decode cX11_quotient 172 = .ok (.lconst 0, 1) := by decide +kernel
theorem dX11_quotient_173 : decode cX11_quotient 173 = .ok (.lstore 14, 2) := by decide +kernel
theorem dX11_quotient_175 : decode cX11_quotient 175 = .ok (.iconst 0, 1) := by decide +kernel
theorem dX11_quotient_176 : decode cX11_quotient 176 = .ok (.istore 16, 2) := by decide +kernel
theorem dX11_quotient_178 : decode cX11_quotient 178 = .ok (.iload 16, 2) := by decide +kernel
theorem dX11_quotient_180 : decode cX11_quotient 180 = .ok (.iload 6, 2) := by decide +kernel
theorem dX11_quotient_182 : decode cX11_quotient 182 = .ok (.if_icmp .gt 91, 3) := by decide +kernel
theorem dX11_quotient_185 : decode cX11_quotient 185 = .ok (.aload_n 0, 1) := by decide +kernel
theorem dX11_quotient_186 : decode cX11_quotient 186 = .ok (.getfield 7, 3) := by decide +kernel
theorem dX11_quotient_189 : decode cX11_quotient 189 = .ok (.sipush 260, 3) := by decide +kernel
theorem dX11_quotient_192 : decode cX11_quotient 192 = .ok (.iload_n 2, 1) := by decide +kernel
theorem dX11_quotient_193 : decode cX11_quotient 193 = .ok (.imul, 1) := by decide +kernel
theorem dX11_quotient_194 : decode cX11_quotient 194 = .ok (.iload 9, 2) := by decide +kernel
theorem dX11_quotient_196 : decode cX11_quotient 196 = .ok (.iadd, 1) := by decide +kernel
theorem dX11_quotient_197 : decode cX11_quotient 197 = .ok (.iload 16, 2) := by decide +kernel
theorem dX11_quotient_199 : decode cX11_quotient 199 = .ok (.iadd, 1) := by decide +kernel
theorem dX11_quotient_200 : decode cX11_quotient 200 = .ok (.iaload, 1) := by decide +kernel
theorem dX11_quotient_201 : decode cX11_quotient 201 = .ok (.i2l, 1) := by decide +kernel
theorem dX11_quotient_202 : decode cX11_quotient 202 = .ok (.lload 12, 2) := by decide +kernel
theorem dX11_quotient_204 : decode cX11_quotient 204 = .ok (.iload 16, 2) := by decide +kernel
theorem dX11_quotient_206 : decode cX11_quotient 206 = .ok (.iload 6, 2) := by decide +kernel
theorem dX11_quotient_208 : decode cX11_quotient 208 = .ok (.if_icmp .ge 20, 3) := by decide +kernel
theorem dX11_quotient_211 : decode cX11_quotient 211 = .ok (.aload_n 0, 1) := by decide +kernel
theorem dX11_quotient_212 : decode cX11_quotient 212 = .ok (.getfield 7, 3) := by decide +kernel
theorem dX11_quotient_215 : decode cX11_quotient 215 = .ok (.sipush 260, 3) := by decide +kernel
theorem dX11_quotient_218 : decode cX11_quotient 218 = .ok (.iload 4, 2) := by decide +kernel
theorem dX11_quotient_220 : decode cX11_quotient 220 = .ok (.imul, 1) := by decide +kernel
theorem dX11_quotient_221 : decode cX11_quotient 221 = .ok (.iload 16, 2) := by decide +kernel
theorem dX11_quotient_223 : decode cX11_quotient 223 = .ok (.iadd, 1) := by decide +kernel
theorem dX11_quotient_224 : decode cX11_quotient 224 = .ok (.iaload, 1) := by decide +kernel
theorem dX11_quotient_225 : decode cX11_quotient 225 = .ok (.goto 4, 3) := by decide +kernel
theorem dX11_quotient_228 : decode cX11_quotient 228 = .ok (.iconst 0, 1) := by decide +kernel
theorem dX11_quotient_229 : decode cX11_quotient 229 = .ok (.i2l, 1) := by decide +kernel
theorem dX11_quotient_230 : decode cX11_quotient 230 = .ok (.lmul, 1) := by decide +kernel
theorem dX11_quotient_231 : decode cX11_quotient 231 = .ok (.lsub, 1) := by decide +kernel
theorem dX11_quotient_232 : decode cX11_quotient 232 = .ok (.lload 14, 2) := by decide +kernel
theorem dX11_quotient_234 : decode cX11_quotient 234 = .ok (.ladd, 1) := by decide +kernel
theorem dX11_quotient_235 : decode cX11_quotient 235 = .ok (.lstore 17, 2) := by decide +kernel
theorem dX11_quotient_237 : decode cX11_quotient 237 = .ok (.aload_n 0, 1) := by decide +kernel
theorem dX11_quotient_238 : decode cX11_quotient 238 = .ok (.getfield 7, 3) := by decide +kernel
theorem dX11_quotient_241 : decode cX11_quotient 241 = .ok (.sipush 260, 3) := by decide +kernel
theorem dX11_quotient_244 : decode cX11_quotient 244 = .ok (.iload_n 2, 1) := by decide +kernel
theorem dX11_quotient_245 : decode cX11_quotient 245 = .ok (.imul, 1) := by decide +kernel
end
section
theorem dX11_quotient_246 : decode cX11_quotient 246 = .ok (.iload 9, 2) := by decide +kernel
theorem dX11_quotient_248 : decode cX11_quotient 248 = .ok (.iadd, 1) := by decide +kernel
theorem dX11_quotient_249 : decode cX11_quotient 249 = .ok (.iload 16, 2) := by decide +kernel
theorem dX11_quotient_251 : decode cX11_quotient 251 = .ok (.iadd, 1) := by decide +kernel
theorem dX11_quotient_252 : decode cX11_quotient 252 = .ok (.lload 17, 2) := by decide +kernel
theorem dX11_quotient_254 : decode cX11_quotient 254 = .ok (.ldc2_w 62, 3) := by decide +kernel
theorem dX11_quotient_257 : decode cX11_quotient 257 = .ok (.land, 1) := by decide +kernel
theorem dX11_quotient_258 : decode cX11_quotient 258 = .ok (.l2i, 1) := by decide +kernel
theorem dX11_quotient_259 : decode cX11_quotient 259 = .ok (.iastore, 1) := by decide +kernel
theorem dX11_quotient_260 : decode cX11_quotient 260 = .ok (.lload 17, 2) := by decide +kernel
theorem dX11_quotient_262 : decode cX11_quotient 262 = .ok (.bipush 16, 2) := by decide +kernel
theorem dX11_quotient_264 : decode cX11_quotient 264 = .ok (.lshr, 1) := by decide +kernel
theorem dX11_quotient_265 : decode cX11_quotient 265 = .ok (.lstore 14, 2) := by decide +kernel
theorem dX11_quotient_267 : decode cX11_quotient 267 = .ok (.iinc 16 1, 3) := by decide +kernel
theorem dX11_quotient_270 : decode cX11_quotient 270 = .ok (.goto (-92), 3) := by decide +kernel
theorem dX11_quotient_273 : decode cX11_quotient 273 = .ok (.lload 14, 2) := by decide +kernel
theorem dX11_quotient_275 : decode cX11_quotient 275 = .ok (.lconst 0, 1) := by decide +kernel
theorem dX11_quotient_276 : decode cX11_quotient 276 = .ok (.lcmp, 1) := by decide +kernel
theorem dX11_quotient_277 : decode cX11_quotient 277 = .ok (.ifCond .ge 114, 3) := by decide +kernel
theorem dX11_quotient_280 : decode cX11_quotient 280 = .ok (.lload 12, 2) := by decide +kernel
theorem dX11_quotient_282 : decode cX11_quotient 282 = .ok (.lconst 1, 1) := by decide +kernel
theorem dX11_quotient_283 : decode cX11_quotient 283 = .ok (.lsub, 1) := by decide +kernel
theorem dX11_quotient_284 : decode cX11_quotient 284 = .ok (.lstore 12, 2) := by decide +kernel
theorem dX11_quotient_286 : decode cX11_quotient 286 = .ok (.iconst 0, 1) := by decide +kernel
theorem dX11_quotient_287 : decode cX11_quotient 287 = .ok (.istore 16, 2) := by decide +kernel
theorem dX11_quotient_289 : decode cX11_quotient 289 = .ok (.iconst 0, 1) := by decide +kernel
theorem dX11_quotient_290 : decode cX11_quotient 290 = .ok (.istore 17, 2) := by decide +kernel
theorem dX11_quotient_292 : decode cX11_quotient 292 = .ok (.iload 17, 2) := by decide +kernel
theorem dX11_quotient_294 : decode cX11_quotient 294 = .ok (.iload 6, 2) := by decide +kernel
theorem dX11_quotient_296 : decode cX11_quotient 296 = .ok (.if_icmp .gt 84, 3) := by decide +kernel
theorem dX11_quotient_299 : decode cX11_quotient 299 = .ok (.iload 16, 2) := by decide +kernel
theorem dX11_quotient_301 : decode cX11_quotient 301 = .ok (.aload_n 0, 1) := by decide +kernel
theorem dX11_quotient_302 : decode cX11_quotient 302 = .ok (.getfield 7, 3) := by decide +kernel
theorem dX11_quotient_305 : decode cX11_quotient 305 = .ok (.sipush 260, 3) := by decide +kernel
theorem dX11_quotient_308 : decode cX11_quotient 308 = .ok (.iload_n 2, 1) := by decide +kernel
theorem dX11_quotient_309 : decode cX11_quotient 309 = .ok (.imul, 1) := by decide +kernel
theorem dX11_quotient_310 : decode cX11_quotient 310 = .ok (.iload 9, 2) := by decide +kernel
theorem dX11_quotient_312 : decode cX11_quotient 312 = .ok (.iadd, 1) := by decide +kernel
theorem dX11_quotient_313 : decode cX11_quotient 313 = .ok (.iload 17, 2) := by decide +kernel
theorem dX11_quotient_315 : decode cX11_quotient 315 = .ok (.iadd, 1) := by decide +kernel
theorem dX11_quotient_316 : decode cX11_quotient 316 = .ok (.iaload, 1) := by decide +kernel
theorem dX11_quotient_317 : decode cX11_quotient 317 = .ok (.iload 17, 2) := by decide +kernel
theorem dX11_quotient_319 : decode cX11_quotient 319 = .ok (.iload 6, 2) := by decide +kernel
theorem dX11_quotient_321 : decode cX11_quotient 321 = .ok (.if_icmp .ge 20, 3) := by decide +kernel
theorem dX11_quotient_324 : decode cX11_quotient 324 = .ok (.aload_n 0, 1) := by decide +kernel
theorem dX11_quotient_325 : decode cX11_quotient 325 = .ok (.getfield 7, 3) := by decide +kernel
theorem dX11_quotient_328 : decode cX11_quotient 328 = .ok (.sipush 260, 3) := by decide +kernel
theorem dX11_quotient_331 : decode cX11_quotient 331 = .ok (.iload 4, 2) := by decide +kernel
theorem dX11_quotient_333 : decode cX11_quotient 333 = .ok (.imul, 1) := by decide +kernel
theorem dX11_quotient_334 : decode cX11_quotient 334 = .ok (.iload 17, 2) := by decide +kernel
theorem dX11_quotient_336 : decode cX11_quotient 336 = .ok (.iadd, 1) := by decide +kernel
theorem dX11_quotient_337 : decode cX11_quotient 337 = .ok (.iaload, 1) := by decide +kernel
theorem dX11_quotient_338 : decode cX11_quotient 338 = .ok (.goto 4, 3) := by decide +kernel
theorem dX11_quotient_341 : decode cX11_quotient 341 = .ok (.iconst 0, 1) := by decide +kernel
theorem dX11_quotient_342 : decode cX11_quotient 342 = .ok (.iadd, 1) := by decide +kernel
theorem dX11_quotient_343 : decode cX11_quotient 343 = .ok (.iadd, 1) := by decide +kernel
theorem dX11_quotient_344 : decode cX11_quotient 344 = .ok (.istore 16, 2) := by decide +kernel
theorem dX11_quotient_346 : decode cX11_quotient 346 = .ok (.aload_n 0, 1) := by decide +kernel
theorem dX11_quotient_347 : decode cX11_quotient 347 = .ok (.getfield 7, 3) := by decide +kernel
theorem dX11_quotient_350 : decode cX11_quotient 350 = .ok (.sipush 260, 3) := by decide +kernel
theorem dX11_quotient_353 : decode cX11_quotient 353 = .ok (.iload_n 2, 1) := by decide +kernel
theorem dX11_quotient_354 : decode cX11_quotient 354 = .ok (.imul, 1) := by decide +kernel
theorem dX11_quotient_355 : decode cX11_quotient 355 = .ok (.iload 9, 2) := by decide +kernel
theorem dX11_quotient_357 : decode cX11_quotient 357 = .ok (.iadd, 1) := by decide +kernel
theorem dX11_quotient_358 : decode cX11_quotient 358 = .ok (.iload 17, 2) := by decide +kernel
theorem dX11_quotient_360 : decode cX11_quotient 360 = .ok (.iadd, 1) := by decide +kernel
theorem dX11_quotient_361 : decode cX11_quotient 361 = .ok (.iload 16, 2) := by decide +kernel
theorem dX11_quotient_363 : decode cX11_quotient 363 = .ok (.ldc 40, 2) := by decide +kernel
theorem dX11_quotient_365 : decode cX11_quotient 365 = .ok (.iand, 1) := by decide +kernel
theorem dX11_quotient_366 : decode cX11_quotient 366 = .ok (.iastore, 1) := by decide +kernel
theorem dX11_quotient_367 : decode cX11_quotient 367 = .ok (.iload 16, 2) := by decide +kernel
theorem dX11_quotient_369 : decode cX11_quotient 369 = .ok (.bipush 16, 2) := by decide +kernel
theorem dX11_quotient_371 : decode cX11_quotient 371 = .ok (.ishr, 1) := by decide +kernel
theorem dX11_quotient_372 : decode cX11_quotient 372 = .ok (.istore 16, 2) := by decide +kernel
theorem dX11_quotient_374 : decode cX11_quotient 374 = .ok (.iinc 17 1, 3) := by decide +kernel
theorem dX11_quotient_377 : decode cX11_quotient 377 = .ok (.goto (-85), 3) := by decide +kernel
theorem dX11_quotient_380 : decode cX11_quotient 380 = .ok (.lload 14, 2) := by decide +kernel
theorem dX11_quotient_382 : decode cX11_quotient 382 = .ok (.iload 16, 2) := by decide +kernel
theorem dX11_quotient_384 : decode cX11_quotient 384 = .ok (.i2l, 1) := by decide +kernel
theorem dX11_quotient_385 : decode cX11_quotient 385 = .ok (.ladd, 1) := by decide +kernel
theorem dX11_quotient_386 : decode cX11_quotient 386 = .ok (.lstore 14, 2) := by decide +kernel
theorem dX11_quotient_388 : decode cX11_quotient 388 = .ok (.goto (-115), 3) := by decide +kernel
theorem dX11_quotient_391 : decode cX11_quotient 391 = .ok (.aload_n 0, 1) := by decide +kernel
theorem dX11_quotient_392 : decode cX11_quotient 392 = .ok (.getfield 7, 3) := by decide +kernel
theorem dX11_quotient_395 : decode cX11_quotient 395 = .ok (.sipush 260, 3) := by decide +kernel
theorem dX11_quotient_398 : decode cX11_quotient 398 = .ok (.iload_n 1, 1) := by decide +kernel
theorem dX11_quotient_399 : decode cX11_quotient 399 = .ok (.imul, 1) := by decide +kernel
theorem dX11_quotient_400 : decode cX11_quotient 400 = .ok (.iload 9, 2) := by decide +kernel
theorem dX11_quotient_402 : decode cX11_quotient 402 = .ok (.iadd, 1) := by decide +kernel
theorem dX11_quotient_403 : decode cX11_quotient 403 = .ok (.lload 12, 2) := by decide +kernel
theorem dX11_quotient_405 : decode cX11_quotient 405 = .ok (.l2i, 1) := by decide +kernel
theorem dX11_quotient_406 : decode cX11_quotient 406 = .ok (.iastore, 1) := by decide +kernel
theorem dX11_quotient_407 : decode cX11_quotient 407 = .ok (.iinc 9 (-1), 3) := by decide +kernel
theorem dX11_quotient_410 : decode cX11_quotient 410 = .ok (.goto (-302), 3) := by decide +kernel
theorem dX11_quotient_413 : decode cX11_quotient 413 = .ok (.aload_n 0, 1) := by decide +kernel
theorem dX11_quotient_414 : decode cX11_quotient 414 = .ok (.iload_n 1, 1) := by decide +kernel
theorem dX11_quotient_415 : decode cX11_quotient 415 = .ok (.iload 5, 2) := by decide +kernel
theorem dX11_quotient_417 : decode cX11_quotient 417 = .ok (.iload 6, 2) := by decide +kernel
theorem dX11_quotient_419 : decode cX11_quotient 419 = .ok (.isub, 1) := by decide +kernel
theorem dX11_quotient_420 : decode cX11_quotient 420 = .ok (.iconst 1, 1) := by decide +kernel
theorem dX11_quotient_421 : decode cX11_quotient 421 = .ok (.iadd, 1) := by decide +kernel
theorem dX11_quotient_422 : decode cX11_quotient 422 = .ok (.iconst 1, 1) := by decide +kernel
theorem dX11_quotient_423 : decode cX11_quotient 423 = .ok (.invokevirtual 41, 3) := by decide +kernel
theorem dX11_quotient_426 : decode cX11_quotient 426 = .ok (.aload_n 0, 1) := by decide +kernel
theorem dX11_quotient_427 : decode cX11_quotient 427 = .ok (.iload_n 2, 1) := by decide +kernel
theorem dX11_quotient_428 : decode cX11_quotient 428 = .ok (.iload 5, 2) := by decide +kernel
theorem dX11_quotient_430 : decode cX11_quotient 430 = .ok (.iconst 1, 1) := by decide +kernel
theorem dX11_quotient_431 : decode cX11_quotient 431 = .ok (.iadd, 1) := by decide +kernel
theorem dX11_quotient_432 : decode cX11_quotient 432 = .ok (.iconst 1, 1) := by decide +kernel
theorem dX11_quotient_433 : decode cX11_quotient 433 = .ok (.invokevirtual 41, 3) := by decide +kernel
theorem dX11_quotient_436 : decode cX11_quotient 436 = .ok (.return_, 1) := by decide +kernel
theorem dX11_divided_0 : decode cX11_divided 0 = .ok (.aload_n 0, 1) := by decide +kernel
theorem dX11_divided_1 : decode cX11_divided 1 = .ok (.getfield 16, 3) := by decide +kernel
theorem dX11_divided_4 : decode cX11_divided 4 = .ok (.iload_n 3, 1) := by decide +kernel
theorem dX11_divided_5 : decode cX11_divided 5 = .ok (.iaload, 1) := by decide +kernel
theorem dX11_divided_6 : decode cX11_divided 6 = .ok (.istore 5, 2) := by decide +kernel
theorem dX11_divided_8 : decode cX11_divided 8 = .ok (.aload_n 0, 1) := by decide +kernel
theorem dX11_divided_9 : decode cX11_divided 9 = .ok (.getfield 16, 3) := by decide +kernel
theorem dX11_divided_12 : decode cX11_divided 12 = .ok (.iload 4, 2) := by decide +kernel
theorem dX11_divided_14 : decode cX11_divided 14 = .ok (.iaload, 1) := by decide +kernel
theorem dX11_divided_15 : decode cX11_divided 15 = .ok (.istore 6, 2) := by decide +kernel
theorem dX11_divided_17 : decode cX11_divided 17 = .ok (.aload_n 0, 1) := by decide +kernel
theorem dX11_divided_18 : decode cX11_divided 18 = .ok (.iload_n 1, 1) := by decide +kernel
theorem dX11_divided_19 : decode cX11_divided 19 = .ok (.iload_n 2, 1) := by decide +kernel
theorem dX11_divided_20 : decode cX11_divided 20 = .ok (.iload_n 3, 1) := by decide +kernel
theorem dX11_divided_21 : decode cX11_divided 21 = .ok (.iload 4, 2) := by decide +kernel
theorem dX11_divided_23 : decode cX11_divided 23 = .ok (.invokevirtual 68, 3) := by decide +kernel
theorem dX11_divided_26 : decode cX11_divided 26 = .ok (.aload_n 0, 1) := by decide +kernel
theorem dX11_divided_27 : decode cX11_divided 27 = .ok (.bipush 16, 2) := by decide +kernel
theorem dX11_divided_29 : decode cX11_divided 29 = .ok (.iconst 1, 1) := by decide +kernel
theorem dX11_divided_30 : decode cX11_divided 30 = .ok (.invokevirtual 56, 3) := by decide +kernel
theorem dX11_divided_33 : decode cX11_divided 33 = .ok (.iload 5, 2) := by decide +kernel
theorem dX11_divided_35 : decode cX11_divided 35 = .ok (.ifCond .ge 30, 3) := by decide +kernel
theorem dX11_divided_38 : decode cX11_divided 38 = .ok (.aload_n 0, 1) := by decide +kernel
theorem dX11_divided_39 : decode cX11_divided 39 = .ok (.getfield 16, 3) := by decide +kernel
theorem dX11_divided_42 : decode cX11_divided 42 = .ok (.iload_n 2, 1) := by decide +kernel
theorem dX11_divided_43 : decode cX11_divided 43 = .ok (.iaload, 1) := by decide +kernel
theorem dX11_divided_44 : decode cX11_divided 44 = .ok (.ifCond .eq 21, 3) := by decide +kernel
theorem dX11_divided_47 : decode cX11_divided 47 = .ok (.aload_n 0, 1) := by decide +kernel
theorem dX11_divided_48 : decode cX11_divided 48 = .ok (.iload_n 1, 1) := by decide +kernel
theorem dX11_divided_49 : decode cX11_divided 49 = .ok (.iload_n 1, 1) := by decide +kernel
theorem dX11_divided_50 : decode cX11_divided 50 = .ok (.bipush 16, 2) := by decide +kernel
theorem dX11_divided_52 : decode cX11_divided 52 = .ok (.iconst 1, 1) := by decide +kernel
theorem dX11_divided_53 : decode cX11_divided 53 = .ok (.invokevirtual 71, 3) := by decide +kernel
theorem dX11_divided_56 : decode cX11_divided 56 = .ok (.aload_n 0, 1) := by decide +kernel
theorem dX11_divided_57 : decode cX11_divided 57 = .ok (.iload_n 2, 1) := by decide +kernel
theorem dX11_divided_58 : decode cX11_divided 58 = .ok (.iload 4, 2) := by decide +kernel
theorem dX11_divided_60 : decode cX11_divided 60 = .ok (.iload_n 2, 1) := by decide +kernel
theorem dX11_divided_61 : decode cX11_divided 61 = .ok (.iconst 1, 1) := by decide +kernel
theorem dX11_divided_62 : decode cX11_divided 62 = .ok (.invokevirtual 59, 3) := by decide +kernel
theorem dX11_divided_65 : decode cX11_divided 65 = .ok (.aload_n 0, 1) := by decide +kernel
theorem dX11_divided_66 : decode cX11_divided 66 = .ok (.getfield 16, 3) := by decide +kernel
theorem dX11_divided_69 : decode cX11_divided 69 = .ok (.iload_n 1, 1) := by decide +kernel
theorem dX11_divided_70 : decode cX11_divided 70 = .ok (.iaload, 1) := by decide +kernel
theorem dX11_divided_71 : decode cX11_divided 71 = .ok (.ifCond .eq 14, 3) := by decide +kernel
theorem dX11_divided_74 : decode cX11_divided 74 = .ok (.aload_n 0, 1) := by decide +kernel
theorem dX11_divided_75 : decode cX11_divided 75 = .ok (.getfield 16, 3) := by decide +kernel
theorem dX11_divided_78 : decode cX11_divided 78 = .ok (.iload_n 1, 1) := by decide +kernel
theorem dX11_divided_79 : decode cX11_divided 79 = .ok (.iload 5, 2) := by decide +kernel
theorem dX11_divided_81 : decode cX11_divided 81 = .ok (.iload 6, 2) := by decide +kernel
theorem dX11_divided_83 : decode cX11_divided 83 = .ok (.imul, 1) := by decide +kernel
theorem dX11_divided_84 : decode cX11_divided 84 = .ok (.iastore, 1) := by decide +kernel
theorem dX11_divided_85 : decode cX11_divided 85 = .ok (.return_, 1) := by decide +kernel
theorem dX11_bits_0 : decode cX11_bits 0 = .ok (.aload_n 0, 1) := by decide +kernel
theorem dX11_bits_1 : decode cX11_bits 1 = .ok (.getfield 13, 3) := by decide +kernel
theorem dX11_bits_4 : decode cX11_bits 4 = .ok (.iload_n 1, 1) := by decide +kernel
theorem dX11_bits_5 : decode cX11_bits 5 = .ok (.iaload, 1) := by decide +kernel
theorem dX11_bits_6 : decode cX11_bits 6 = .ok (.ifCond .ne 5, 3) := by decide +kernel
theorem dX11_bits_9 : decode cX11_bits 9 = .ok (.iconst 0, 1) := by decide +kernel
theorem dX11_bits_10 : decode cX11_bits 10 = .ok (.ireturn, 1) := by decide +kernel
theorem dX11_bits_11 : decode cX11_bits 11 = .ok (.aload_n 0, 1) := by decide +kernel
theorem dX11_bits_12 : decode cX11_bits 12 = .ok (.getfield 7, 3) := by decide +kernel
theorem dX11_bits_15 : decode cX11_bits 15 = .ok (.sipush 260, 3) := by decide +kernel
theorem dX11_bits_18 : decode cX11_bits 18 = .ok (.iload_n 1, 1) := by decide +kernel
theorem dX11_bits_19 : decode cX11_bits 19 = .ok (.imul, 1) := by decide +kernel
theorem dX11_bits_20 : decode cX11_bits 20 = .ok (.aload_n 0, 1) := by decide +kernel
theorem dX11_bits_21 : decode cX11_bits 21 = .ok (.getfield 13, 3) := by decide +kernel
theorem dX11_bits_24 : decode cX11_bits 24 = .ok (.iload_n 1, 1) := by decide +kernel
theorem dX11_bits_25 : decode cX11_bits 25 = .ok (.iaload, 1) := by decide +kernel
theorem dX11_bits_26 : decode cX11_bits 26 = .ok (.iadd, 1) := by decide +kernel
theorem dX11_bits_27 : decode cX11_bits 27 = .ok (.iconst 1, 1) := by decide +kernel
theorem dX11_bits_28 : decode cX11_bits 28 = .ok (.isub, 1) := by decide +kernel
theorem dX11_bits_29 : decode cX11_bits 29 = .ok (.iaload, 1) := by decide +kernel
theorem dX11_bits_30 : decode cX11_bits 30 = .ok (.istore_n 2, 1) := by decide +kernel
theorem dX11_bits_31 : decode cX11_bits 31 = .ok (.bipush 16, 2) := by decide +kernel
theorem dX11_bits_33 : decode cX11_bits 33 = .ok (.aload_n 0, 1) := by decide +kernel
theorem dX11_bits_34 : decode cX11_bits 34 = .ok (.getfield 13, 3) := by decide +kernel
theorem dX11_bits_37 : decode cX11_bits 37 = .ok (.iload_n 1, 1) := by decide +kernel
theorem dX11_bits_38 : decode cX11_bits 38 = .ok (.iaload, 1) := by decide +kernel
theorem dX11_bits_39 : decode cX11_bits 39 = .ok (.iconst 1, 1) := by decide +kernel
theorem dX11_bits_40 : decode cX11_bits 40 = .ok (.isub, 1) := by decide +kernel
theorem dX11_bits_41 : decode cX11_bits 41 = .ok (.imul, 1) := by decide +kernel
theorem dX11_bits_42 : decode cX11_bits 42 = .ok (.istore_n 3, 1) := by decide +kernel
theorem dX11_bits_43 : decode cX11_bits 43 = .ok (.iload_n 2, 1) := by decide +kernel
theorem dX11_bits_44 : decode cX11_bits 44 = .ok (.ifCond .le 13, 3) := by decide +kernel
theorem dX11_bits_47 : decode cX11_bits 47 = .ok (.iinc 3 1, 3) := by decide +kernel
theorem dX11_bits_50 : decode cX11_bits 50 = .ok (.iload_n 2, 1) := by decide +kernel
theorem dX11_bits_51 : decode cX11_bits 51 = .ok (.iconst 1, 1) := by decide +kernel
theorem dX11_bits_52 : decode cX11_bits 52 = .ok (.ishr, 1) := by decide +kernel
theorem dX11_bits_53 : decode cX11_bits 53 = .ok (.istore_n 2, 1) := by decide +kernel
theorem dX11_bits_54 : decode cX11_bits 54 = .ok (.goto (-11), 3) := by decide +kernel
theorem dX11_bits_57 : decode cX11_bits 57 = .ok (.iload_n 3, 1) := by decide +kernel
theorem dX11_bits_58 : decode cX11_bits 58 = .ok (.ireturn, 1) := by decide +kernel
theorem dX11_bit_0 : decode cX11_bit 0 = .ok (.aload_n 0, 1) := by decide +kernel
theorem dX11_bit_1 : decode cX11_bit 1 = .ok (.iload_n 1, 1) := by decide +kernel
theorem dX11_bit_2 : decode cX11_bit 2 = .ok (.iload_n 2, 1) := by decide +kernel
theorem dX11_bit_3 : decode cX11_bit 3 = .ok (.iconst 4, 1) := by decide +kernel
theorem dX11_bit_4 : decode cX11_bit 4 = .ok (.ishr, 1) := by decide +kernel
theorem dX11_bit_5 : decode cX11_bit 5 = .ok (.invokevirtual 36, 3) := by decide +kernel
theorem dX11_bit_8 : decode cX11_bit 8 = .ok (.iload_n 2, 1) := by decide +kernel
theorem dX11_bit_9 : decode cX11_bit 9 = .ok (.bipush 15, 2) := by decide +kernel
theorem dX11_bit_11 : decode cX11_bit 11 = .ok (.iand, 1) := by decide +kernel
theorem dX11_bit_12 : decode cX11_bit 12 = .ok (.ishr, 1) := by decide +kernel
theorem dX11_bit_13 : decode cX11_bit 13 = .ok (.iconst 1, 1) := by decide +kernel
theorem dX11_bit_14 : decode cX11_bit 14 = .ok (.iand, 1) := by decide +kernel
theorem dX11_bit_15 : decode cX11_bit 15 = .ok (.iconst 1, 1) := by decide +kernel
theorem dX11_bit_16 : decode cX11_bit 16 = .ok (.if_icmp .ne 7, 3) := by decide +kernel
theorem dX11_bit_19 : decode cX11_bit 19 = .ok (.iconst 1, 1) := by decide +kernel
theorem dX11_bit_20 : decode cX11_bit 20 = .ok (.goto 4, 3) := by decide +kernel
theorem dX11_bit_23 : decode cX11_bit 23 = .ok (.iconst 0, 1) := by decide +kernel
theorem dX11_bit_24 : decode cX11_bit 24 = .ok (.ireturn, 1) := by decide +kernel
theorem dX11_halved_0 : decode cX11_halved 0 = .ok (.iload_n 3, 1) := by decide +kernel
theorem dX11_halved_1 : decode cX11_halved 1 = .ok (.iconst 4, 1) := by decide +kernel
theorem dX11_halved_2 : decode cX11_halved 2 = .ok (.ishr, 1) := by decide +kernel
theorem dX11_halved_3 : decode cX11_halved 3 = .ok (.istore 4, 2) := by decide +kernel
theorem dX11_halved_5 : decode cX11_halved 5 = .ok (.iload_n 3, 1) := by decide +kernel
theorem dX11_halved_6 : decode cX11_halved 6 = .ok (.bipush 15, 2) := by decide +kernel
theorem dX11_halved_8 : decode cX11_halved 8 = .ok (.iand, 1) := by decide +kernel
theorem dX11_halved_9 : decode cX11_halved 9 = .ok (.istore 5, 2) := by decide +kernel
theorem dX11_halved_11 : decode cX11_halved 11 = .ok (.aload_n 0, 1) := by decide +kernel
theorem dX11_halved_12 : decode cX11_halved 12 = .ok (.getfield 13, 3) := by decide +kernel
theorem dX11_halved_15 : decode cX11_halved 15 = .ok (.iload_n 2, 1) := by decide +kernel
theorem dX11_halved_16 : decode cX11_halved 16 = .ok (.iaload, 1) := by decide +kernel
theorem dX11_halved_17 : decode cX11_halved 17 = .ok (.istore 6, 2) := by decide +kernel
theorem dX11_halved_19 : decode cX11_halved 19 = .ok (.iconst 0, 1) := by decide +kernel
theorem dX11_halved_20 : decode cX11_halved 20 = .ok (.istore 7, 2) := by decide +kernel
theorem dX11_halved_22 : decode cX11_halved 22 = .ok (.iload 7, 2) := by decide +kernel
theorem dX11_halved_24 : decode cX11_halved 24 = .ok (.iload 4, 2) := by decide +kernel
theorem dX11_halved_26 : decode cX11_halved 26 = .ok (.iadd, 1) := by decide +kernel
theorem dX11_halved_27 : decode cX11_halved 27 = .ok (.iload 6, 2) := by decide +kernel
theorem dX11_halved_29 : decode cX11_halved 29 = .ok (.if_icmp .ge 54, 3) := by decide +kernel
theorem dX11_halved_32 : decode cX11_halved 32 = .ok (.aload_n 0, 1) := by decide +kernel
theorem dX11_halved_33 : decode cX11_halved 33 = .ok (.getfield 7, 3) := by decide +kernel
theorem dX11_halved_36 : decode cX11_halved 36 = .ok (.sipush 260, 3) := by decide +kernel
theorem dX11_halved_39 : decode cX11_halved 39 = .ok (.iload_n 1, 1) := by decide +kernel
theorem dX11_halved_40 : decode cX11_halved 40 = .ok (.imul, 1) := by decide +kernel
theorem dX11_halved_41 : decode cX11_halved 41 = .ok (.iload 7, 2) := by decide +kernel
theorem dX11_halved_43 : decode cX11_halved 43 = .ok (.iadd, 1) := by decide +kernel
theorem dX11_halved_44 : decode cX11_halved 44 = .ok (.aload_n 0, 1) := by decide +kernel
theorem dX11_halved_45 : decode cX11_halved 45 = .ok (.iload_n 2, 1) := by decide +kernel
theorem dX11_halved_46 : decode cX11_halved 46 = .ok (.iload 7, 2) := by decide +kernel
theorem dX11_halved_48 : decode cX11_halved 48 = .ok (.iload 4, 2) := by decide +kernel
theorem dX11_halved_50 : decode cX11_halved 50 = .ok (.iadd, 1) := by decide +kernel
theorem dX11_halved_51 : decode cX11_halved 51 = .ok (.invokevirtual 36, 3) := by decide +kernel
theorem dX11_halved_54 : decode cX11_halved 54 = .ok (.aload_n 0, 1) := by decide +kernel
theorem dX11_halved_55 : decode cX11_halved 55 = .ok (.iload_n 2, 1) := by decide +kernel
theorem dX11_halved_56 : decode cX11_halved 56 = .ok (.iload 7, 2) := by decide +kernel
theorem dX11_halved_58 : decode cX11_halved 58 = .ok (.iload 4, 2) := by decide +kernel
theorem dX11_halved_60 : decode cX11_halved 60 = .ok (.iadd, 1) := by decide +kernel
theorem dX11_halved_61 : decode cX11_halved 61 = .ok (.iconst 1, 1) := by decide +kernel
theorem dX11_halved_62 : decode cX11_halved 62 = .ok (.iadd, 1) := by decide +kernel
theorem dX11_halved_63 : decode cX11_halved 63 = .ok (.invokevirtual 36, 3) := by decide +kernel
theorem dX11_halved_66 : decode cX11_halved 66 = .ok (.bipush 16, 2) := by decide +kernel
theorem dX11_halved_68 : decode cX11_halved 68 = .ok (.ishl, 1) := by decide +kernel
theorem dX11_halved_69 : decode cX11_halved 69 = .ok (.ior, 1) := by decide +kernel
theorem dX11_halved_70 : decode cX11_halved 70 = .ok (.iload 5, 2) := by decide +kernel
theorem dX11_halved_72 : decode cX11_halved 72 = .ok (.ishr, 1) := by decide +kernel
theorem dX11_halved_73 : decode cX11_halved 73 = .ok (.ldc 40, 2) := by decide +kernel
theorem dX11_halved_75 : decode cX11_halved 75 = .ok (.iand, 1) := by decide +kernel
theorem dX11_halved_76 : decode cX11_halved 76 = .ok (.iastore, 1) := by decide +kernel
theorem dX11_halved_77 : decode cX11_halved 77 = .ok (.iinc 7 1, 3) := by decide +kernel
theorem dX11_halved_80 : decode cX11_halved 80 = .ok (.goto (-58), 3) := by decide +kernel
theorem dX11_halved_83 : decode cX11_halved 83 = .ok (.aload_n 0, 1) := by decide +kernel
theorem dX11_halved_84 : decode cX11_halved 84 = .ok (.iload_n 1, 1) := by decide +kernel
theorem dX11_halved_85 : decode cX11_halved 85 = .ok (.iload 6, 2) := by decide +kernel
theorem dX11_halved_87 : decode cX11_halved 87 = .ok (.iload 4, 2) := by decide +kernel
theorem dX11_halved_89 : decode cX11_halved 89 = .ok (.if_icmp .le 11, 3) := by decide +kernel
theorem dX11_halved_92 : decode cX11_halved 92 = .ok (.iload 6, 2) := by decide +kernel
theorem dX11_halved_94 : decode cX11_halved 94 = .ok (.iload 4, 2) := by decide +kernel
theorem dX11_halved_96 : decode cX11_halved 96 = .ok (.isub, 1) := by decide +kernel
theorem dX11_halved_97 : decode cX11_halved 97 = .ok (.goto 4, 3) := by decide +kernel
theorem dX11_halved_100 : decode cX11_halved 100 = .ok (.iconst 0, 1) := by decide +kernel
theorem dX11_halved_101 : decode cX11_halved 101 = .ok (.aload_n 0, 1) := by decide +kernel
theorem dX11_halved_102 : decode cX11_halved 102 = .ok (.getfield 16, 3) := by decide +kernel
theorem dX11_halved_105 : decode cX11_halved 105 = .ok (.iload_n 2, 1) := by decide +kernel
theorem dX11_halved_106 : decode cX11_halved 106 = .ok (.iaload, 1) := by decide +kernel
theorem dX11_halved_107 : decode cX11_halved 107 = .ok (.invokevirtual 41, 3) := by decide +kernel
theorem dX11_halved_110 : decode cX11_halved 110 = .ok (.return_, 1) := by decide +kernel
theorem dX11_doubled_0 : decode cX11_doubled 0 = .ok (.iload_n 3, 1) := by decide +kernel
theorem dX11_doubled_1 : decode cX11_doubled 1 = .ok (.iconst 4, 1) := by decide +kernel
theorem dX11_doubled_2 : decode cX11_doubled 2 = .ok (.ishr, 1) := by decide +kernel
theorem dX11_doubled_3 : decode cX11_doubled 3 = .ok (.istore 4, 2) := by decide +kernel
theorem dX11_doubled_5 : decode cX11_doubled 5 = .ok (.iload_n 3, 1) := by decide +kernel
theorem dX11_doubled_6 : decode cX11_doubled 6 = .ok (.bipush 15, 2) := by decide +kernel
theorem dX11_doubled_8 : decode cX11_doubled 8 = .ok (.iand, 1) := by decide +kernel
theorem dX11_doubled_9 : decode cX11_doubled 9 = .ok (.istore 5, 2) := by decide +kernel
theorem dX11_doubled_11 : decode cX11_doubled 11 = .ok (.aload_n 0, 1) := by decide +kernel
theorem dX11_doubled_12 : decode cX11_doubled 12 = .ok (.getfield 13, 3) := by decide +kernel
theorem dX11_doubled_15 : decode cX11_doubled 15 = .ok (.iload_n 2, 1) := by decide +kernel
theorem dX11_doubled_16 : decode cX11_doubled 16 = .ok (.iaload, 1) := by decide +kernel
theorem dX11_doubled_17 : decode cX11_doubled 17 = .ok (.istore 6, 2) := by decide +kernel
theorem dX11_doubled_19 : decode cX11_doubled 19 = .ok (.aload_n 0, 1) := by decide +kernel
theorem dX11_doubled_20 : decode cX11_doubled 20 = .ok (.getfield 16, 3) := by decide +kernel
theorem dX11_doubled_23 : decode cX11_doubled 23 = .ok (.iload_n 2, 1) := by decide +kernel
theorem dX11_doubled_24 : decode cX11_doubled 24 = .ok (.iaload, 1) := by decide +kernel
theorem dX11_doubled_25 : decode cX11_doubled 25 = .ok (.istore 7, 2) := by decide +kernel
theorem dX11_doubled_27 : decode cX11_doubled 27 = .ok (.iload 6, 2) := by decide +kernel
theorem dX11_doubled_29 : decode cX11_doubled 29 = .ok (.istore 8, 2) := by decide +kernel
theorem dX11_doubled_31 : decode cX11_doubled 31 = .ok (.iload 8, 2) := by decide +kernel
theorem dX11_doubled_33 : decode cX11_doubled 33 = .ok (.ifCond .lt 69, 3) := by decide +kernel
theorem dX11_doubled_36 : decode cX11_doubled 36 = .ok (.aload_n 0, 1) := by decide +kernel
theorem dX11_doubled_37 : decode cX11_doubled 37 = .ok (.getfield 7, 3) := by decide +kernel
theorem dX11_doubled_40 : decode cX11_doubled 40 = .ok (.sipush 260, 3) := by decide +kernel
theorem dX11_doubled_43 : decode cX11_doubled 43 = .ok (.iload_n 1, 1) := by decide +kernel
theorem dX11_doubled_44 : decode cX11_doubled 44 = .ok (.imul, 1) := by decide +kernel
theorem dX11_doubled_45 : decode cX11_doubled 45 = .ok (.iload 8, 2) := by decide +kernel
theorem dX11_doubled_47 : decode cX11_doubled 47 = .ok (.iadd, 1) := by decide +kernel
theorem dX11_doubled_48 : decode cX11_doubled 48 = .ok (.iload 4, 2) := by decide +kernel
theorem dX11_doubled_50 : decode cX11_doubled 50 = .ok (.iadd, 1) := by decide +kernel
theorem dX11_doubled_51 : decode cX11_doubled 51 = .ok (.aload_n 0, 1) := by decide +kernel
theorem dX11_doubled_52 : decode cX11_doubled 52 = .ok (.iload_n 2, 1) := by decide +kernel
theorem dX11_doubled_53 : decode cX11_doubled 53 = .ok (.iload 8, 2) := by decide +kernel
theorem dX11_doubled_55 : decode cX11_doubled 55 = .ok (.invokevirtual 36, 3) := by decide +kernel
theorem dX11_doubled_58 : decode cX11_doubled 58 = .ok (.iload 5, 2) := by decide +kernel
theorem dX11_doubled_60 : decode cX11_doubled 60 = .ok (.ishl, 1) := by decide +kernel
theorem dX11_doubled_61 : decode cX11_doubled 61 = .ok (.iload 8, 2) := by decide +kernel
theorem dX11_doubled_63 : decode cX11_doubled 63 = .ok (.ifCond .le 27, 3) := by decide +kernel
theorem dX11_doubled_66 : decode cX11_doubled 66 = .ok (.aload_n 0, 1) := by decide +kernel
theorem dX11_doubled_67 : decode cX11_doubled 67 = .ok (.getfield 7, 3) := by decide +kernel
theorem dX11_doubled_70 : decode cX11_doubled 70 = .ok (.sipush 260, 3) := by decide +kernel
theorem dX11_doubled_73 : decode cX11_doubled 73 = .ok (.iload_n 2, 1) := by decide +kernel
theorem dX11_doubled_74 : decode cX11_doubled 74 = .ok (.imul, 1) := by decide +kernel
theorem dX11_doubled_75 : decode cX11_doubled 75 = .ok (.iload 8, 2) := by decide +kernel
theorem dX11_doubled_77 : decode cX11_doubled 77 = .ok (.iadd, 1) := by decide +kernel
theorem dX11_doubled_78 : decode cX11_doubled 78 = .ok (.iconst 1, 1) := by decide +kernel
theorem dX11_doubled_79 : decode cX11_doubled 79 = .ok (.isub, 1) := by decide +kernel
theorem dX11_doubled_80 : decode cX11_doubled 80 = .ok (.iaload, 1) := by decide +kernel
theorem dX11_doubled_81 : decode cX11_doubled 81 = .ok (.bipush 16, 2) := by decide +kernel
theorem dX11_doubled_83 : decode cX11_doubled 83 = .ok (.iload 5, 2) := by decide +kernel
theorem dX11_doubled_85 : decode cX11_doubled 85 = .ok (.isub, 1) := by decide +kernel
theorem dX11_doubled_86 : decode cX11_doubled 86 = .ok (.ishr, 1) := by decide +kernel
theorem dX11_doubled_87 : decode cX11_doubled 87 = .ok (.goto 4, 3) := by decide +kernel
theorem dX11_doubled_90 : decode cX11_doubled 90 = .ok (.iconst 0, 1) := by decide +kernel
theorem dX11_doubled_91 : decode cX11_doubled 91 = .ok (.ior, 1) := by decide +kernel
theorem dX11_doubled_92 : decode cX11_doubled 92 = .ok (.ldc 40, 2) := by decide +kernel
theorem dX11_doubled_94 : decode cX11_doubled 94 = .ok (.iand, 1) := by decide +kernel
theorem dX11_doubled_95 : decode cX11_doubled 95 = .ok (.iastore, 1) := by decide +kernel
theorem dX11_doubled_96 : decode cX11_doubled 96 = .ok (.iinc 8 (-1), 3) := by decide +kernel
theorem dX11_doubled_99 : decode cX11_doubled 99 = .ok (.goto (-68), 3) := by decide +kernel
theorem dX11_doubled_102 : decode cX11_doubled 102 = .ok (.iconst 0, 1) := by decide +kernel
theorem dX11_doubled_103 : decode cX11_doubled 103 = .ok (.istore 8, 2) := by decide +kernel
theorem dX11_doubled_105 : decode cX11_doubled 105 = .ok (.iload 8, 2) := by decide +kernel
theorem dX11_doubled_107 : decode cX11_doubled 107 = .ok (.iload 4, 2) := by decide +kernel
theorem dX11_doubled_109 : decode cX11_doubled 109 = .ok (.if_icmp .ge 23, 3) := by decide +kernel
theorem dX11_doubled_112 : decode cX11_doubled 112 = .ok (.aload_n 0, 1) := by decide +kernel
theorem dX11_doubled_113 : decode cX11_doubled 113 = .ok (.getfield 7, 3) := by decide +kernel
theorem dX11_doubled_116 : decode cX11_doubled 116 = .ok (.sipush 260, 3) := by decide +kernel
theorem dX11_doubled_119 : decode cX11_doubled 119 = .ok (.iload_n 1, 1) := by decide +kernel
theorem dX11_doubled_120 : decode cX11_doubled 120 = .ok (.imul, 1) := by decide +kernel
theorem dX11_doubled_121 : decode cX11_doubled 121 = .ok (.iload 8, 2) := by decide +kernel
theorem dX11_doubled_123 : decode cX11_doubled 123 = .ok (.iadd, 1) := by decide +kernel
theorem dX11_doubled_124 : decode cX11_doubled 124 = .ok (.iconst 0, 1) := by decide +kernel
theorem dX11_doubled_125 : decode cX11_doubled 125 = .ok (.iastore, 1) := by decide +kernel
theorem dX11_doubled_126 : decode cX11_doubled 126 = .ok (.iinc 8 1, 3) := by decide +kernel
theorem dX11_doubled_129 : decode cX11_doubled 129 = .ok (.goto (-24), 3) := by decide +kernel
theorem dX11_doubled_132 : decode cX11_doubled 132 = .ok (.aload_n 0, 1) := by decide +kernel
theorem dX11_doubled_133 : decode cX11_doubled 133 = .ok (.iload_n 1, 1) := by decide +kernel
theorem dX11_doubled_134 : decode cX11_doubled 134 = .ok (.iload 6, 2) := by decide +kernel
theorem dX11_doubled_136 : decode cX11_doubled 136 = .ok (.iload 4, 2) := by decide +kernel
theorem dX11_doubled_138 : decode cX11_doubled 138 = .ok (.iadd, 1) := by decide +kernel
theorem dX11_doubled_139 : decode cX11_doubled 139 = .ok (.iconst 1, 1) := by decide +kernel
theorem dX11_doubled_140 : decode cX11_doubled 140 = .ok (.iadd, 1) := by decide +kernel
theorem dX11_doubled_141 : decode cX11_doubled 141 = .ok (.iload 7, 2) := by decide +kernel
theorem dX11_doubled_143 : decode cX11_doubled 143 = .ok (.invokevirtual 41, 3) := by decide +kernel
theorem dX11_doubled_146 : decode cX11_doubled 146 = .ok (.return_, 1) := by decide +kernel
theorem dX11_no_0 : decode cX11_no 0 = .ok (.iload_n 1, 1) := by decide +kernel
theorem dX11_no_1 : decode cX11_no 1 = .ok (.ifCond .lt 11, 3) := by decide +kernel
theorem dX11_no_4 : decode cX11_no 4 = .ok (.iload_n 1, 1) := by decide +kernel
theorem dX11_no_5 : decode cX11_no 5 = .ok (.aload_n 0, 1) := by decide +kernel
theorem dX11_no_6 : decode cX11_no 6 = .ok (.getfield 26, 3) := by decide +kernel
theorem dX11_no_9 : decode cX11_no 9 = .ok (.if_icmp .lt 7, 3) := by decide +kernel
theorem dX11_no_12 : decode cX11_no 12 = .ok (.iconst 1, 1) := by decide +kernel
theorem dX11_no_13 : decode cX11_no 13 = .ok (.goto 4, 3) := by decide +kernel
theorem dX11_no_16 : decode cX11_no 16 = .ok (.iconst 0, 1) := by decide +kernel
theorem dX11_no_17 : decode cX11_no 17 = .ok (.ireturn, 1) := by decide +kernel
theorem dX11_fits_0 : decode cX11_fits 0 = .ok (.aload_n 0, 1) := by decide +kernel
theorem dX11_fits_1 : decode cX11_fits 1 = .ok (.getfield 13, 3) := by decide +kernel
theorem dX11_fits_4 : decode cX11_fits 4 = .ok (.iload_n 1, 1) := by decide +kernel
theorem dX11_fits_5 : decode cX11_fits 5 = .ok (.iaload, 1) := by decide +kernel
theorem dX11_fits_6 : decode cX11_fits 6 = .ok (.iconst 2, 1) := by decide +kernel
theorem dX11_fits_7 : decode cX11_fits 7 = .ok (.aload_n 0, 1) := by decide +kernel
theorem dX11_fits_8 : decode cX11_fits 8 = .ok (.getfield 30, 3) := by decide +kernel
theorem dX11_fits_11 : decode cX11_fits 11 = .ok (.imul, 1) := by decide +kernel
theorem dX11_fits_12 : decode cX11_fits 12 = .ok (.if_icmp .gt 7, 3) := by decide +kernel
theorem dX11_fits_15 : decode cX11_fits 15 = .ok (.iconst 1, 1) := by decide +kernel
theorem dX11_fits_16 : decode cX11_fits 16 = .ok (.goto 4, 3) := by decide +kernel
theorem dX11_fits_19 : decode cX11_fits 19 = .ok (.iconst 0, 1) := by decide +kernel
theorem dX11_fits_20 : decode cX11_fits 20 = .ok (.ireturn, 1) := by decide +kernel
theorem dX11_put_0 : decode cX11_put 0 = .ok (.aload_n 0, 1) := by decide +kernel
theorem dX11_put_1 : decode cX11_put 1 = .ok (.iload_n 2, 1) := by decide +kernel
theorem dX11_put_2 : decode cX11_put 2 = .ok (.invokevirtual 74, 3) := by decide +kernel
theorem dX11_put_5 : decode cX11_put 5 = .ok (.ifCond .ne 5, 3) := by decide +kernel
theorem dX11_put_8 : decode cX11_put 8 = .ok (.iconst 1, 1) := by decide +kernel
theorem dX11_put_9 : decode cX11_put 9 = .ok (.ireturn, 1) := by decide +kernel
theorem dX11_put_10 : decode cX11_put 10 = .ok (.aload_n 0, 1) := by decide +kernel
theorem dX11_put_11 : decode cX11_put 11 = .ok (.iload_n 1, 1) := by decide +kernel
theorem dX11_put_12 : decode cX11_put 12 = .ok (.iload_n 2, 1) := by decide +kernel
theorem dX11_put_13 : decode cX11_put 13 = .ok (.invokevirtual 45, 3) := by decide +kernel
theorem dX11_put_16 : decode cX11_put 16 = .ok (.iconst 0, 1) := by decide +kernel
theorem dX11_put_17 : decode cX11_put 17 = .ok (.ireturn, 1) := by decide +kernel
theorem dX11_pushLimb_0 : decode cX11_pushLimb 0 = .ok (.aload_n 0, 1) := by decide +kernel
theorem dX11_pushLimb_1 : decode cX11_pushLimb 1 = .ok (.iconst 0, 1) := by decide +kernel
theorem dX11_pushLimb_2 : decode cX11_pushLimb 2 = .ok (.putfield 33, 3) := by decide +kernel
theorem dX11_pushLimb_5 : decode cX11_pushLimb 5 = .ok (.aload_n 0, 1) := by decide +kernel
theorem dX11_pushLimb_6 : decode cX11_pushLimb 6 = .ok (.iload_n 1, 1) := by decide +kernel
theorem dX11_pushLimb_7 : decode cX11_pushLimb 7 = .ok (.invokevirtual 78, 3) := by decide +kernel
theorem dX11_pushLimb_10 : decode cX11_pushLimb 10 = .ok (.ifCond .eq 5, 3) := by decide +kernel
theorem dX11_pushLimb_13 : decode cX11_pushLimb 13 = .ok (.iconst 3, 1) := by decide +kernel
theorem dX11_pushLimb_14 : decode cX11_pushLimb 14 = .ok (.ireturn, 1) := by decide +kernel
theorem dX11_pushLimb_15 : decode cX11_pushLimb 15 = .ok (.aload_n 0, 1) := by decide +kernel
theorem dX11_pushLimb_16 : decode cX11_pushLimb 16 = .ok (.getfield 16, 3) := by decide +kernel
theorem dX11_pushLimb_19 : decode cX11_pushLimb 19 = .ok (.iload_n 1, 1) := by decide +kernel
theorem dX11_pushLimb_20 : decode cX11_pushLimb 20 = .ok (.iaload, 1) := by decide +kernel
theorem dX11_pushLimb_21 : decode cX11_pushLimb 21 = .ok (.istore_n 3, 1) := by decide +kernel
theorem dX11_pushLimb_22 : decode cX11_pushLimb 22 = .ok (.aload_n 0, 1) := by decide +kernel
theorem dX11_pushLimb_23 : decode cX11_pushLimb 23 = .ok (.getfield 13, 3) := by decide +kernel
theorem dX11_pushLimb_26 : decode cX11_pushLimb 26 = .ok (.iload_n 1, 1) := by decide +kernel
theorem dX11_pushLimb_27 : decode cX11_pushLimb 27 = .ok (.iaload, 1) := by decide +kernel
theorem dX11_pushLimb_28 : decode cX11_pushLimb 28 = .ok (.istore 4, 2) := by decide +kernel
theorem dX11_pushLimb_30 : decode cX11_pushLimb 30 = .ok (.iconst 0, 1) := by decide +kernel
theorem dX11_pushLimb_31 : decode cX11_pushLimb 31 = .ok (.istore 5, 2) := by decide +kernel
theorem dX11_pushLimb_33 : decode cX11_pushLimb 33 = .ok (.iload 5, 2) := by decide +kernel
theorem dX11_pushLimb_35 : decode cX11_pushLimb 35 = .ok (.iload 4, 2) := by decide +kernel
theorem dX11_pushLimb_37 : decode cX11_pushLimb 37 = .ok (.if_icmp .ge 35, 3) := by decide +kernel
theorem dX11_pushLimb_40 : decode cX11_pushLimb 40 = .ok (.aload_n 0, 1) := by decide +kernel
theorem dX11_pushLimb_41 : decode cX11_pushLimb 41 = .ok (.getfield 7, 3) := by decide +kernel
theorem dX11_pushLimb_44 : decode cX11_pushLimb 44 = .ok (.sipush 4940, 3) := by decide +kernel
theorem dX11_pushLimb_47 : decode cX11_pushLimb 47 = .ok (.iload 5, 2) := by decide +kernel
theorem dX11_pushLimb_49 : decode cX11_pushLimb 49 = .ok (.iadd, 1) := by decide +kernel
theorem dX11_pushLimb_50 : decode cX11_pushLimb 50 = .ok (.iconst 2, 1) := by decide +kernel
theorem dX11_pushLimb_51 : decode cX11_pushLimb 51 = .ok (.iadd, 1) := by decide +kernel
theorem dX11_pushLimb_52 : decode cX11_pushLimb 52 = .ok (.aload_n 0, 1) := by decide +kernel
theorem dX11_pushLimb_53 : decode cX11_pushLimb 53 = .ok (.getfield 7, 3) := by decide +kernel
theorem dX11_pushLimb_56 : decode cX11_pushLimb 56 = .ok (.sipush 260, 3) := by decide +kernel
theorem dX11_pushLimb_59 : decode cX11_pushLimb 59 = .ok (.iload_n 1, 1) := by decide +kernel
theorem dX11_pushLimb_60 : decode cX11_pushLimb 60 = .ok (.imul, 1) := by decide +kernel
theorem dX11_pushLimb_61 : decode cX11_pushLimb 61 = .ok (.iload 5, 2) := by decide +kernel
theorem dX11_pushLimb_63 : decode cX11_pushLimb 63 = .ok (.iadd, 1) := by decide +kernel
theorem dX11_pushLimb_64 : decode cX11_pushLimb 64 = .ok (.iaload, 1) := by decide +kernel
theorem dX11_pushLimb_65 : decode cX11_pushLimb 65 = .ok (.iastore, 1) := by decide +kernel
theorem dX11_pushLimb_66 : decode cX11_pushLimb 66 = .ok (.iinc 5 1, 3) := by decide +kernel
theorem dX11_pushLimb_69 : decode cX11_pushLimb 69 = .ok (.goto (-36), 3) := by decide +kernel
theorem dX11_pushLimb_72 : decode cX11_pushLimb 72 = .ok (.aload_n 0, 1) := by decide +kernel
theorem dX11_pushLimb_73 : decode cX11_pushLimb 73 = .ok (.getfield 7, 3) := by decide +kernel
theorem dX11_pushLimb_76 : decode cX11_pushLimb 76 = .ok (.sipush 4940, 3) := by decide +kernel
theorem dX11_pushLimb_79 : decode cX11_pushLimb 79 = .ok (.iload_n 2, 1) := by decide +kernel
theorem dX11_pushLimb_80 : decode cX11_pushLimb 80 = .ok (.ldc 40, 2) := by decide +kernel
theorem dX11_pushLimb_82 : decode cX11_pushLimb 82 = .ok (.iand, 1) := by decide +kernel
theorem dX11_pushLimb_83 : decode cX11_pushLimb 83 = .ok (.iastore, 1) := by decide +kernel
theorem dX11_pushLimb_84 : decode cX11_pushLimb 84 = .ok (.aload_n 0, 1) := by decide +kernel
theorem dX11_pushLimb_85 : decode cX11_pushLimb 85 = .ok (.getfield 7, 3) := by decide +kernel
theorem dX11_pushLimb_88 : decode cX11_pushLimb 88 = .ok (.sipush 4941, 3) := by decide +kernel
theorem dX11_pushLimb_91 : decode cX11_pushLimb 91 = .ok (.iload_n 2, 1) := by decide +kernel
theorem dX11_pushLimb_92 : decode cX11_pushLimb 92 = .ok (.bipush 16, 2) := by decide +kernel
theorem dX11_pushLimb_94 : decode cX11_pushLimb 94 = .ok (.iushr, 1) := by decide +kernel
theorem dX11_pushLimb_95 : decode cX11_pushLimb 95 = .ok (.iastore, 1) := by decide +kernel
theorem dX11_pushLimb_96 : decode cX11_pushLimb 96 = .ok (.aload_n 0, 1) := by decide +kernel
theorem dX11_pushLimb_97 : decode cX11_pushLimb 97 = .ok (.bipush 19, 2) := by decide +kernel
theorem dX11_pushLimb_99 : decode cX11_pushLimb 99 = .ok (.iload 4, 2) := by decide +kernel
theorem dX11_pushLimb_101 : decode cX11_pushLimb 101 = .ok (.iconst 2, 1) := by decide +kernel
theorem dX11_pushLimb_102 : decode cX11_pushLimb 102 = .ok (.iadd, 1) := by decide +kernel
theorem dX11_pushLimb_103 : decode cX11_pushLimb 103 = .ok (.iload_n 3, 1) := by decide +kernel
theorem dX11_pushLimb_104 : decode cX11_pushLimb 104 = .ok (.ifCond .ne 7, 3) := by decide +kernel
theorem dX11_pushLimb_107 : decode cX11_pushLimb 107 = .ok (.iconst 1, 1) := by decide +kernel
theorem dX11_pushLimb_108 : decode cX11_pushLimb 108 = .ok (.goto 4, 3) := by decide +kernel
theorem dX11_pushLimb_111 : decode cX11_pushLimb 111 = .ok (.iload_n 3, 1) := by decide +kernel
theorem dX11_pushLimb_112 : decode cX11_pushLimb 112 = .ok (.invokevirtual 41, 3) := by decide +kernel
theorem dX11_pushLimb_115 : decode cX11_pushLimb 115 = .ok (.aload_n 0, 1) := by decide +kernel
theorem dX11_pushLimb_116 : decode cX11_pushLimb 116 = .ok (.iload_n 1, 1) := by decide +kernel
theorem dX11_pushLimb_117 : decode cX11_pushLimb 117 = .ok (.bipush 19, 2) := by decide +kernel
theorem dX11_pushLimb_119 : decode cX11_pushLimb 119 = .ok (.invokevirtual 81, 3) := by decide +kernel
theorem dX11_pushLimb_122 : decode cX11_pushLimb 122 = .ok (.ireturn, 1) := by decide +kernel
theorem dX11_clear_0 : decode cX11_clear 0 = .ok (.aload_n 0, 1) := by decide +kernel
theorem dX11_clear_1 : decode cX11_clear 1 = .ok (.iconst 0, 1) := by decide +kernel
theorem dX11_clear_2 : decode cX11_clear 2 = .ok (.putfield 33, 3) := by decide +kernel
theorem dX11_clear_5 : decode cX11_clear 5 = .ok (.aload_n 0, 1) := by decide +kernel
theorem dX11_clear_6 : decode cX11_clear 6 = .ok (.iload_n 1, 1) := by decide +kernel
theorem dX11_clear_7 : decode cX11_clear 7 = .ok (.invokevirtual 78, 3) := by decide +kernel
theorem dX11_clear_10 : decode cX11_clear 10 = .ok (.ifCond .eq 5, 3) := by decide +kernel
theorem dX11_clear_13 : decode cX11_clear 13 = .ok (.iconst 0, 1) := by decide +kernel
theorem dX11_clear_14 : decode cX11_clear 14 = .ok (.ireturn, 1) := by decide +kernel
theorem dX11_clear_15 : decode cX11_clear 15 = .ok (.aload_n 0, 1) := by decide +kernel
theorem dX11_clear_16 : decode cX11_clear 16 = .ok (.iload_n 1, 1) := by decide +kernel
theorem dX11_clear_17 : decode cX11_clear 17 = .ok (.iconst 0, 1) := by decide +kernel
theorem dX11_clear_18 : decode cX11_clear 18 = .ok (.invokevirtual 56, 3) := by decide +kernel
theorem dX11_clear_21 : decode cX11_clear 21 = .ok (.iconst 1, 1) := by decide +kernel
theorem dX11_clear_22 : decode cX11_clear 22 = .ok (.ireturn, 1) := by decide +kernel
theorem dX11_negate_0 : decode cX11_negate 0 = .ok (.aload_n 0, 1) := by decide +kernel
theorem dX11_negate_1 : decode cX11_negate 1 = .ok (.iconst 0, 1) := by decide +kernel
theorem dX11_negate_2 : decode cX11_negate 2 = .ok (.putfield 33, 3) := by decide +kernel
theorem dX11_negate_5 : decode cX11_negate 5 = .ok (.aload_n 0, 1) := by decide +kernel
theorem dX11_negate_6 : decode cX11_negate 6 = .ok (.iload_n 1, 1) := by decide +kernel
theorem dX11_negate_7 : decode cX11_negate 7 = .ok (.invokevirtual 78, 3) := by decide +kernel
theorem dX11_negate_10 : decode cX11_negate 10 = .ok (.ifCond .ne 11, 3) := by decide +kernel
theorem dX11_negate_13 : decode cX11_negate 13 = .ok (.aload_n 0, 1) := by decide +kernel
theorem dX11_negate_14 : decode cX11_negate 14 = .ok (.iload_n 2, 1) := by decide +kernel
theorem dX11_negate_15 : decode cX11_negate 15 = .ok (.invokevirtual 78, 3) := by decide +kernel
theorem dX11_negate_18 : decode cX11_negate 18 = .ok (.ifCond .eq 5, 3) := by decide +kernel
theorem dX11_negate_21 : decode cX11_negate 21 = .ok (.iconst 3, 1) := by decide +kernel
theorem dX11_negate_22 : decode cX11_negate 22 = .ok (.ireturn, 1) := by decide +kernel
theorem dX11_negate_23 : decode cX11_negate 23 = .ok (.aload_n 0, 1) := by decide +kernel
theorem dX11_negate_24 : decode cX11_negate 24 = .ok (.iload_n 1, 1) := by decide +kernel
theorem dX11_negate_25 : decode cX11_negate 25 = .ok (.iload_n 2, 1) := by decide +kernel
theorem dX11_negate_26 : decode cX11_negate 26 = .ok (.invokevirtual 45, 3) := by decide +kernel
theorem dX11_negate_29 : decode cX11_negate 29 = .ok (.aload_n 0, 1) := by decide +kernel
theorem dX11_negate_30 : decode cX11_negate 30 = .ok (.getfield 16, 3) := by decide +kernel
theorem dX11_negate_33 : decode cX11_negate 33 = .ok (.iload_n 1, 1) := by decide +kernel
theorem dX11_negate_34 : decode cX11_negate 34 = .ok (.aload_n 0, 1) := by decide +kernel
theorem dX11_negate_35 : decode cX11_negate 35 = .ok (.getfield 16, 3) := by decide +kernel
theorem dX11_negate_38 : decode cX11_negate 38 = .ok (.iload_n 1, 1) := by decide +kernel
theorem dX11_negate_39 : decode cX11_negate 39 = .ok (.iaload, 1) := by decide +kernel
theorem dX11_negate_40 : decode cX11_negate 40 = .ok (.ineg, 1) := by decide +kernel
theorem dX11_negate_41 : decode cX11_negate 41 = .ok (.iastore, 1) := by decide +kernel
theorem dX11_negate_42 : decode cX11_negate 42 = .ok (.iconst 0, 1) := by decide +kernel
theorem dX11_negate_43 : decode cX11_negate 43 = .ok (.ireturn, 1) := by decide +kernel
theorem dX11_add_0 : decode cX11_add 0 = .ok (.aload_n 0, 1) := by decide +kernel
theorem dX11_add_1 : decode cX11_add 1 = .ok (.iconst 0, 1) := by decide +kernel
theorem dX11_add_2 : decode cX11_add 2 = .ok (.putfield 33, 3) := by decide +kernel
theorem dX11_add_5 : decode cX11_add 5 = .ok (.aload_n 0, 1) := by decide +kernel
theorem dX11_add_6 : decode cX11_add 6 = .ok (.iload_n 1, 1) := by decide +kernel
theorem dX11_add_7 : decode cX11_add 7 = .ok (.invokevirtual 78, 3) := by decide +kernel
theorem dX11_add_10 : decode cX11_add 10 = .ok (.ifCond .ne 19, 3) := by decide +kernel
theorem dX11_add_13 : decode cX11_add 13 = .ok (.aload_n 0, 1) := by decide +kernel
theorem dX11_add_14 : decode cX11_add 14 = .ok (.iload_n 2, 1) := by decide +kernel
theorem dX11_add_15 : decode cX11_add 15 = .ok (.invokevirtual 78, 3) := by decide +kernel
theorem dX11_add_18 : decode cX11_add 18 = .ok (.ifCond .ne 11, 3) := by decide +kernel
theorem dX11_add_21 : decode cX11_add 21 = .ok (.aload_n 0, 1) := by decide +kernel
theorem dX11_add_22 : decode cX11_add 22 = .ok (.iload_n 3, 1) := by decide +kernel
theorem dX11_add_23 : decode cX11_add 23 = .ok (.invokevirtual 78, 3) := by decide +kernel
theorem dX11_add_26 : decode cX11_add 26 = .ok (.ifCond .eq 5, 3) := by decide +kernel
theorem dX11_add_29 : decode cX11_add 29 = .ok (.iconst 3, 1) := by decide +kernel
theorem dX11_add_30 : decode cX11_add 30 = .ok (.ireturn, 1) := by decide +kernel
theorem dX11_add_31 : decode cX11_add 31 = .ok (.aload_n 0, 1) := by decide +kernel
theorem dX11_add_32 : decode cX11_add 32 = .ok (.bipush 19, 2) := by decide +kernel
theorem dX11_add_34 : decode cX11_add 34 = .ok (.iload_n 2, 1) := by decide +kernel
theorem dX11_add_35 : decode cX11_add 35 = .ok (.iload_n 3, 1) := by decide +kernel
theorem dX11_add_36 : decode cX11_add 36 = .ok (.iconst 1, 1) := by decide +kernel
theorem dX11_add_37 : decode cX11_add 37 = .ok (.invokevirtual 71, 3) := by decide +kernel
theorem dX11_add_40 : decode cX11_add 40 = .ok (.aload_n 0, 1) := by decide +kernel
theorem dX11_add_41 : decode cX11_add 41 = .ok (.iload_n 1, 1) := by decide +kernel
theorem dX11_add_42 : decode cX11_add 42 = .ok (.bipush 19, 2) := by decide +kernel
theorem dX11_add_44 : decode cX11_add 44 = .ok (.invokevirtual 81, 3) := by decide +kernel
theorem dX11_add_47 : decode cX11_add 47 = .ok (.ireturn, 1) := by decide +kernel
theorem dX11_subtract_0 : decode cX11_subtract 0 = .ok (.aload_n 0, 1) := by decide +kernel
theorem dX11_subtract_1 : decode cX11_subtract 1 = .ok (.iconst 0, 1) := by decide +kernel
theorem dX11_subtract_2 : decode cX11_subtract 2 = .ok (.putfield 33, 3) := by decide +kernel
theorem dX11_subtract_5 : decode cX11_subtract 5 = .ok (.aload_n 0, 1) := by decide +kernel
theorem dX11_subtract_6 : decode cX11_subtract 6 = .ok (.iload_n 1, 1) := by decide +kernel
theorem dX11_subtract_7 : decode cX11_subtract 7 = .ok (.invokevirtual 78, 3) := by decide +kernel
theorem dX11_subtract_10 : decode cX11_subtract 10 = .ok (.ifCond .ne 19, 3) := by decide +kernel
theorem dX11_subtract_13 : decode cX11_subtract 13 = .ok (.aload_n 0, 1) := by decide +kernel
theorem dX11_subtract_14 : decode cX11_subtract 14 = .ok (.iload_n 2, 1) := by decide +kernel
theorem dX11_subtract_15 : decode cX11_subtract 15 = .ok (.invokevirtual 78, 3) := by decide +kernel
theorem dX11_subtract_18 : decode cX11_subtract 18 = .ok (.ifCond .ne 11, 3) := by decide +kernel
theorem dX11_subtract_21 : decode cX11_subtract 21 = .ok (.aload_n 0, 1) := by decide +kernel
theorem dX11_subtract_22 : decode cX11_subtract 22 = .ok (.iload_n 3, 1) := by decide +kernel
theorem dX11_subtract_23 : decode cX11_subtract 23 = .ok (.invokevirtual 78, 3) := by decide +kernel
theorem dX11_subtract_26 : decode cX11_subtract 26 = .ok (.ifCond .eq 5, 3) := by decide +kernel
theorem dX11_subtract_29 : decode cX11_subtract 29 = .ok (.iconst 3, 1) := by decide +kernel
theorem dX11_subtract_30 : decode cX11_subtract 30 = .ok (.ireturn, 1) := by decide +kernel
theorem dX11_subtract_31 : decode cX11_subtract 31 = .ok (.aload_n 0, 1) := by decide +kernel
theorem dX11_subtract_32 : decode cX11_subtract 32 = .ok (.bipush 19, 2) := by decide +kernel
theorem dX11_subtract_34 : decode cX11_subtract 34 = .ok (.iload_n 2, 1) := by decide +kernel
theorem dX11_subtract_35 : decode cX11_subtract 35 = .ok (.iload_n 3, 1) := by decide +kernel
theorem dX11_subtract_36 : decode cX11_subtract 36 = .ok (.iconst (-1), 1) := by decide +kernel
theorem dX11_subtract_37 : decode cX11_subtract 37 = .ok (.invokevirtual 71, 3) := by decide +kernel
theorem dX11_subtract_40 : decode cX11_subtract 40 = .ok (.aload_n 0, 1) := by decide +kernel
theorem dX11_subtract_41 : decode cX11_subtract 41 = .ok (.iload_n 1, 1) := by decide +kernel
theorem dX11_subtract_42 : decode cX11_subtract 42 = .ok (.bipush 19, 2) := by decide +kernel
theorem dX11_subtract_44 : decode cX11_subtract 44 = .ok (.invokevirtual 81, 3) := by decide +kernel
theorem dX11_subtract_47 : decode cX11_subtract 47 = .ok (.ireturn, 1) := by decide +kernel
theorem dX11_multiply_0 : decode cX11_multiply 0 = .ok (.aload_n 0, 1) := by decide +kernel
theorem dX11_multiply_1 : decode cX11_multiply 1 = .ok (.iconst 0, 1) := by decide +kernel
theorem dX11_multiply_2 : decode cX11_multiply 2 = .ok (.putfield 33, 3) := by decide +kernel
theorem dX11_multiply_5 : decode cX11_multiply 5 = .ok (.aload_n 0, 1) := by decide +kernel
theorem dX11_multiply_6 : decode cX11_multiply 6 = .ok (.iload_n 1, 1) := by decide +kernel
theorem dX11_multiply_7 : decode cX11_multiply 7 = .ok (.invokevirtual 78, 3) := by decide +kernel
theorem dX11_multiply_10 : decode cX11_multiply 10 = .ok (.ifCond .ne 19, 3) := by decide +kernel
theorem dX11_multiply_13 : decode cX11_multiply 13 = .ok (.aload_n 0, 1) := by decide +kernel
theorem dX11_multiply_14 : decode cX11_multiply 14 = .ok (.iload_n 2, 1) := by decide +kernel
theorem dX11_multiply_15 : decode cX11_multiply 15 = .ok (.invokevirtual 78, 3) := by decide +kernel
theorem dX11_multiply_18 : decode cX11_multiply 18 = .ok (.ifCond .ne 11, 3) := by decide +kernel
theorem dX11_multiply_21 : decode cX11_multiply 21 = .ok (.aload_n 0, 1) := by decide +kernel
theorem dX11_multiply_22 : decode cX11_multiply 22 = .ok (.iload_n 3, 1) := by decide +kernel
theorem dX11_multiply_23 : decode cX11_multiply 23 = .ok (.invokevirtual 78, 3) := by decide +kernel
theorem dX11_multiply_26 : decode cX11_multiply 26 = .ok (.ifCond .eq 5, 3) := by decide +kernel
theorem dX11_multiply_29 : decode cX11_multiply 29 = .ok (.iconst 3, 1) := by decide +kernel
theorem dX11_multiply_30 : decode cX11_multiply 30 = .ok (.ireturn, 1) := by decide +kernel
theorem dX11_multiply_31 : decode cX11_multiply 31 = .ok (.aload_n 0, 1) := by decide +kernel
theorem dX11_multiply_32 : decode cX11_multiply 32 = .ok (.bipush 19, 2) := by decide +kernel
theorem dX11_multiply_34 : decode cX11_multiply 34 = .ok (.iload_n 2, 1) := by decide +kernel
theorem dX11_multiply_35 : decode cX11_multiply 35 = .ok (.iload_n 3, 1) := by decide +kernel
theorem dX11_multiply_36 : decode cX11_multiply 36 = .ok (.invokevirtual 84, 3) := by decide +kernel
theorem dX11_multiply_39 : decode cX11_multiply 39 = .ok (.aload_n 0, 1) := by decide +kernel
theorem dX11_multiply_40 : decode cX11_multiply 40 = .ok (.iload_n 1, 1) := by decide +kernel
theorem dX11_multiply_41 : decode cX11_multiply 41 = .ok (.bipush 19, 2) := by decide +kernel
theorem dX11_multiply_43 : decode cX11_multiply 43 = .ok (.invokevirtual 81, 3) := by decide +kernel
theorem dX11_multiply_46 : decode cX11_multiply 46 = .ok (.ireturn, 1) := by decide +kernel
theorem dX11_divide_0 : decode cX11_divide 0 = .ok (.aload_n 0, 1) := by decide +kernel
theorem dX11_divide_1 : decode cX11_divide 1 = .ok (.iconst 0, 1) := by decide +kernel
theorem dX11_divide_2 : decode cX11_divide 2 = .ok (.putfield 33, 3) := by decide +kernel
theorem dX11_divide_5 : decode cX11_divide 5 = .ok (.aload_n 0, 1) := by decide +kernel
theorem dX11_divide_6 : decode cX11_divide 6 = .ok (.iload_n 1, 1) := by decide +kernel
theorem dX11_divide_7 : decode cX11_divide 7 = .ok (.invokevirtual 78, 3) := by decide +kernel
theorem dX11_divide_10 : decode cX11_divide 10 = .ok (.ifCond .ne 33, 3) := by decide +kernel
theorem dX11_divide_13 : decode cX11_divide 13 = .ok (.aload_n 0, 1) := by decide +kernel
theorem dX11_divide_14 : decode cX11_divide 14 = .ok (.iload_n 2, 1) := by decide +kernel
theorem dX11_divide_15 : decode cX11_divide 15 = .ok (.invokevirtual 78, 3) := by decide +kernel
theorem dX11_divide_18 : decode cX11_divide 18 = .ok (.ifCond .ne 25, 3) := by decide +kernel
theorem dX11_divide_21 : decode cX11_divide 21 = .ok (.aload_n 0, 1) := by decide +kernel
theorem dX11_divide_22 : decode cX11_divide 22 = .ok (.iload_n 3, 1) := by decide +kernel
theorem dX11_divide_23 : decode cX11_divide 23 = .ok (.invokevirtual 78, 3) := by decide +kernel
theorem dX11_divide_26 : decode cX11_divide 26 = .ok (.ifCond .ne 17, 3) := by decide +kernel
theorem dX11_divide_29 : decode cX11_divide 29 = .ok (.aload_n 0, 1) := by decide +kernel
theorem dX11_divide_30 : decode cX11_divide 30 = .ok (.iload 4, 2) := by decide +kernel
theorem dX11_divide_32 : decode cX11_divide 32 = .ok (.invokevirtual 78, 3) := by decide +kernel
theorem dX11_divide_35 : decode cX11_divide 35 = .ok (.ifCond .ne 8, 3) := by decide +kernel
theorem dX11_divide_38 : decode cX11_divide 38 = .ok (.iload_n 1, 1) := by decide +kernel
theorem dX11_divide_39 : decode cX11_divide 39 = .ok (.iload_n 2, 1) := by decide +kernel
theorem dX11_divide_40 : decode cX11_divide 40 = .ok (.if_icmp .ne 5, 3) := by decide +kernel
theorem dX11_divide_43 : decode cX11_divide 43 = .ok (.iconst 3, 1) := by decide +kernel
theorem dX11_divide_44 : decode cX11_divide 44 = .ok (.ireturn, 1) := by decide +kernel
theorem dX11_divide_45 : decode cX11_divide 45 = .ok (.aload_n 0, 1) := by decide +kernel
theorem dX11_divide_46 : decode cX11_divide 46 = .ok (.getfield 16, 3) := by decide +kernel
theorem dX11_divide_49 : decode cX11_divide 49 = .ok (.iload 4, 2) := by decide +kernel
theorem dX11_divide_51 : decode cX11_divide 51 = .ok (.iaload, 1) := by decide +kernel
theorem dX11_divide_52 : decode cX11_divide 52 = .ok (.ifCond .ne 5, 3) := by decide +kernel
theorem dX11_divide_55 : decode cX11_divide 55 = .ok (.iconst 2, 1) := by decide +kernel
theorem dX11_divide_56 : decode cX11_divide 56 = .ok (.ireturn, 1) := by decide +kernel
theorem dX11_divide_57 : decode cX11_divide 57 = .ok (.aload_n 0, 1) := by decide +kernel
theorem dX11_divide_58 : decode cX11_divide 58 = .ok (.bipush 17, 2) := by decide +kernel
theorem dX11_divide_60 : decode cX11_divide 60 = .ok (.bipush 18, 2) := by decide +kernel
theorem dX11_divide_62 : decode cX11_divide 62 = .ok (.iload_n 3, 1) := by decide +kernel
theorem dX11_divide_63 : decode cX11_divide 63 = .ok (.iload 4, 2) := by decide +kernel
theorem dX11_divide_65 : decode cX11_divide 65 = .ok (.invokevirtual 87, 3) := by decide +kernel
theorem dX11_divide_68 : decode cX11_divide 68 = .ok (.aload_n 0, 1) := by decide +kernel
theorem dX11_divide_69 : decode cX11_divide 69 = .ok (.bipush 17, 2) := by decide +kernel
theorem dX11_divide_71 : decode cX11_divide 71 = .ok (.invokevirtual 74, 3) := by decide +kernel
theorem dX11_divide_74 : decode cX11_divide 74 = .ok (.ifCond .ne 5, 3) := by decide +kernel
theorem dX11_divide_77 : decode cX11_divide 77 = .ok (.iconst 1, 1) := by decide +kernel
theorem dX11_divide_78 : decode cX11_divide 78 = .ok (.ireturn, 1) := by decide +kernel
theorem dX11_divide_79 : decode cX11_divide 79 = .ok (.aload_n 0, 1) := by decide +kernel
theorem dX11_divide_80 : decode cX11_divide 80 = .ok (.iload_n 1, 1) := by decide +kernel
theorem dX11_divide_81 : decode cX11_divide 81 = .ok (.bipush 17, 2) := by decide +kernel
theorem dX11_divide_83 : decode cX11_divide 83 = .ok (.invokevirtual 45, 3) := by decide +kernel
theorem dX11_divide_86 : decode cX11_divide 86 = .ok (.aload_n 0, 1) := by decide +kernel
theorem dX11_divide_87 : decode cX11_divide 87 = .ok (.iload_n 2, 1) := by decide +kernel
theorem dX11_divide_88 : decode cX11_divide 88 = .ok (.bipush 18, 2) := by decide +kernel
theorem dX11_divide_90 : decode cX11_divide 90 = .ok (.invokevirtual 45, 3) := by decide +kernel
theorem dX11_divide_93 : decode cX11_divide 93 = .ok (.iconst 0, 1) := by decide +kernel
theorem dX11_divide_94 : decode cX11_divide 94 = .ok (.ireturn, 1) := by decide +kernel
theorem dX11_shift_0 : decode cX11_shift 0 = .ok (.aload_n 0, 1) := by decide +kernel
theorem dX11_shift_1 : decode cX11_shift 1 = .ok (.iconst 0, 1) := by decide +kernel
theorem dX11_shift_2 : decode cX11_shift 2 = .ok (.putfield 33, 3) := by decide +kernel
theorem dX11_shift_5 : decode cX11_shift 5 = .ok (.aload_n 0, 1) := by decide +kernel
theorem dX11_shift_6 : decode cX11_shift 6 = .ok (.iload_n 1, 1) := by decide +kernel
theorem dX11_shift_7 : decode cX11_shift 7 = .ok (.invokevirtual 78, 3) := by decide +kernel
theorem dX11_shift_10 : decode cX11_shift 10 = .ok (.ifCond .ne 11, 3) := by decide +kernel
theorem dX11_shift_13 : decode cX11_shift 13 = .ok (.aload_n 0, 1) := by decide +kernel
theorem dX11_shift_14 : decode cX11_shift 14 = .ok (.iload_n 2, 1) := by decide +kernel
theorem dX11_shift_15 : decode cX11_shift 15 = .ok (.invokevirtual 78, 3) := by decide +kernel
theorem dX11_shift_18 : decode cX11_shift 18 = .ok (.ifCond .eq 5, 3) := by decide +kernel
theorem dX11_shift_21 : decode cX11_shift 21 = .ok (.iconst 3, 1) := by decide +kernel
theorem dX11_shift_22 : decode cX11_shift 22 = .ok (.ireturn, 1) := by decide +kernel
theorem dX11_shift_23 : decode cX11_shift 23 = .ok (.aload_n 0, 1) := by decide +kernel
theorem dX11_shift_24 : decode cX11_shift 24 = .ok (.getfield 16, 3) := by decide +kernel
theorem dX11_shift_27 : decode cX11_shift 27 = .ok (.iload_n 2, 1) := by decide +kernel
theorem dX11_shift_28 : decode cX11_shift 28 = .ok (.iaload, 1) := by decide +kernel
theorem dX11_shift_29 : decode cX11_shift 29 = .ok (.ifCond .ne 11, 3) := by decide +kernel
theorem dX11_shift_32 : decode cX11_shift 32 = .ok (.aload_n 0, 1) := by decide +kernel
theorem dX11_shift_33 : decode cX11_shift 33 = .ok (.iload_n 1, 1) := by decide +kernel
theorem dX11_shift_34 : decode cX11_shift 34 = .ok (.iconst 0, 1) := by decide +kernel
theorem dX11_shift_35 : decode cX11_shift 35 = .ok (.invokevirtual 56, 3) := by decide +kernel
theorem dX11_shift_38 : decode cX11_shift 38 = .ok (.iconst 0, 1) := by decide +kernel
theorem dX11_shift_39 : decode cX11_shift 39 = .ok (.ireturn, 1) := by decide +kernel
theorem dX11_shift_40 : decode cX11_shift 40 = .ok (.iload_n 3, 1) := by decide +kernel
theorem dX11_shift_41 : decode cX11_shift 41 = .ok (.ifCond .lt 43, 3) := by decide +kernel
theorem dX11_shift_44 : decode cX11_shift 44 = .ok (.aload_n 0, 1) := by decide +kernel
theorem dX11_shift_45 : decode cX11_shift 45 = .ok (.iload_n 2, 1) := by decide +kernel
theorem dX11_shift_46 : decode cX11_shift 46 = .ok (.invokevirtual 90, 3) := by decide +kernel
theorem dX11_shift_49 : decode cX11_shift 49 = .ok (.i2l, 1) := by decide +kernel
theorem dX11_shift_50 : decode cX11_shift 50 = .ok (.iload_n 3, 1) := by decide +kernel
theorem dX11_shift_51 : decode cX11_shift 51 = .ok (.i2l, 1) := by decide +kernel
theorem dX11_shift_52 : decode cX11_shift 52 = .ok (.ladd, 1) := by decide +kernel
theorem dX11_shift_53 : decode cX11_shift 53 = .ok (.ldc2_w 94, 3) := by decide +kernel
theorem dX11_shift_56 : decode cX11_shift 56 = .ok (.aload_n 0, 1) := by decide +kernel
theorem dX11_shift_57 : decode cX11_shift 57 = .ok (.getfield 30, 3) := by decide +kernel
theorem dX11_shift_60 : decode cX11_shift 60 = .ok (.i2l, 1) := by decide +kernel
theorem dX11_shift_61 : decode cX11_shift 61 = .ok (.lmul, 1) := by decide +kernel
theorem dX11_shift_62 : decode cX11_shift 62 = .ok (.lcmp, 1) := by decide +kernel
theorem dX11_shift_63 : decode cX11_shift 63 = .ok (.ifCond .le 5, 3) := by decide +kernel
theorem dX11_shift_66 : decode cX11_shift 66 = .ok (.iconst 1, 1) := by decide +kernel
theorem dX11_shift_67 : decode cX11_shift 67 = .ok (.ireturn, 1) := by decide +kernel
theorem dX11_shift_68 : decode cX11_shift 68 = .ok (.aload_n 0, 1) := by decide +kernel
theorem dX11_shift_69 : decode cX11_shift 69 = .ok (.bipush 19, 2) := by decide +kernel
theorem dX11_shift_71 : decode cX11_shift 71 = .ok (.iload_n 2, 1) := by decide +kernel
theorem dX11_shift_72 : decode cX11_shift 72 = .ok (.iload_n 3, 1) := by decide +kernel
theorem dX11_shift_73 : decode cX11_shift 73 = .ok (.invokevirtual 96, 3) := by decide +kernel
theorem dX11_shift_76 : decode cX11_shift 76 = .ok (.aload_n 0, 1) := by decide +kernel
theorem dX11_shift_77 : decode cX11_shift 77 = .ok (.iload_n 1, 1) := by decide +kernel
theorem dX11_shift_78 : decode cX11_shift 78 = .ok (.bipush 19, 2) := by decide +kernel
theorem dX11_shift_80 : decode cX11_shift 80 = .ok (.invokevirtual 81, 3) := by decide +kernel
theorem dX11_shift_83 : decode cX11_shift 83 = .ok (.ireturn, 1) := by decide +kernel
theorem dX11_shift_84 : decode cX11_shift 84 = .ok (.aload_n 0, 1) := by decide +kernel
theorem dX11_shift_85 : decode cX11_shift 85 = .ok (.getfield 16, 3) := by decide +kernel
theorem dX11_shift_88 : decode cX11_shift 88 = .ok (.iload_n 2, 1) := by decide +kernel
theorem dX11_shift_89 : decode cX11_shift 89 = .ok (.iaload, 1) := by decide +kernel
theorem dX11_shift_90 : decode cX11_shift 90 = .ok (.istore 4, 2) := by decide +kernel
theorem dX11_shift_92 : decode cX11_shift 92 = .ok (.iload_n 3, 1) := by decide +kernel
theorem dX11_shift_93 : decode cX11_shift 93 = .ok (.ldc 99, 2) := by decide +kernel
theorem dX11_shift_95 : decode cX11_shift 95 = .ok (.if_icmp .eq 13, 3) := by decide +kernel
theorem dX11_shift_98 : decode cX11_shift 98 = .ok (.iload_n 3, 1) := by decide +kernel
theorem dX11_shift_99 : decode cX11_shift 99 = .ok (.ineg, 1) := by decide +kernel
theorem dX11_shift_100 : decode cX11_shift 100 = .ok (.aload_n 0, 1) := by decide +kernel
theorem dX11_shift_101 : decode cX11_shift 101 = .ok (.iload_n 2, 1) := by decide +kernel
theorem dX11_shift_102 : decode cX11_shift 102 = .ok (.invokevirtual 90, 3) := by decide +kernel
theorem dX11_shift_105 : decode cX11_shift 105 = .ok (.if_icmp .lt 7, 3) := by decide +kernel
theorem dX11_shift_108 : decode cX11_shift 108 = .ok (.iconst 1, 1) := by decide +kernel
theorem dX11_shift_109 : decode cX11_shift 109 = .ok (.goto 4, 3) := by decide +kernel
theorem dX11_shift_112 : decode cX11_shift 112 = .ok (.iconst 0, 1) := by decide +kernel
theorem dX11_shift_113 : decode cX11_shift 113 = .ok (.istore 5, 2) := by decide +kernel
theorem dX11_shift_115 : decode cX11_shift 115 = .ok (.iconst 0, 1) := by decide +kernel
theorem dX11_shift_116 : decode cX11_shift 116 = .ok (.istore 6, 2) := by decide +kernel
theorem dX11_shift_118 : decode cX11_shift 118 = .ok (.iload 5, 2) := by decide +kernel
theorem dX11_shift_120 : decode cX11_shift 120 = .ok (.ifCond .eq 11, 3) := by decide +kernel
theorem dX11_shift_123 : decode cX11_shift 123 = .ok (.aload_n 0, 1) := by decide +kernel
theorem dX11_shift_124 : decode cX11_shift 124 = .ok (.iload_n 2, 1) := by decide +kernel
theorem dX11_shift_125 : decode cX11_shift 125 = .ok (.invokevirtual 90, 3) := by decide +kernel
theorem dX11_shift_128 : decode cX11_shift 128 = .ok (.goto 5, 3) := by decide +kernel
theorem dX11_shift_131 : decode cX11_shift 131 = .ok (.iload_n 3, 1) := by decide +kernel
theorem dX11_shift_132 : decode cX11_shift 132 = .ok (.ineg, 1) := by decide +kernel
theorem dX11_shift_133 : decode cX11_shift 133 = .ok (.istore 7, 2) := by decide +kernel
theorem dX11_shift_135 : decode cX11_shift 135 = .ok (.iconst 0, 1) := by decide +kernel
theorem dX11_shift_136 : decode cX11_shift 136 = .ok (.istore 8, 2) := by decide +kernel
theorem dX11_shift_138 : decode cX11_shift 138 = .ok (.iload 8, 2) := by decide +kernel
theorem dX11_shift_140 : decode cX11_shift 140 = .ok (.iload 7, 2) := by decide +kernel
theorem dX11_shift_142 : decode cX11_shift 142 = .ok (.if_icmp .ge 31, 3) := by decide +kernel
theorem dX11_shift_145 : decode cX11_shift 145 = .ok (.iload 6, 2) := by decide +kernel
theorem dX11_shift_147 : decode cX11_shift 147 = .ok (.ifCond .ne 13, 3) := by decide +kernel
theorem dX11_shift_150 : decode cX11_shift 150 = .ok (.aload_n 0, 1) := by decide +kernel
theorem dX11_shift_151 : decode cX11_shift 151 = .ok (.iload_n 2, 1) := by decide +kernel
theorem dX11_shift_152 : decode cX11_shift 152 = .ok (.iload 8, 2) := by decide +kernel
theorem dX11_shift_154 : decode cX11_shift 154 = .ok (.invokevirtual 100, 3) := by decide +kernel
theorem dX11_shift_157 : decode cX11_shift 157 = .ok (.ifCond .eq 7, 3) := by decide +kernel
theorem dX11_shift_160 : decode cX11_shift 160 = .ok (.iconst 1, 1) := by decide +kernel
theorem dX11_shift_161 : decode cX11_shift 161 = .ok (.goto 4, 3) := by decide +kernel
theorem dX11_shift_164 : decode cX11_shift 164 = .ok (.iconst 0, 1) := by decide +kernel
theorem dX11_shift_165 : decode cX11_shift 165 = .ok (.istore 6, 2) := by decide +kernel
theorem dX11_shift_167 : decode cX11_shift 167 = .ok (.iinc 8 1, 3) := by decide +kernel
theorem dX11_shift_170 : decode cX11_shift 170 = .ok (.goto (-32), 3) := by decide +kernel
theorem dX11_shift_173 : decode cX11_shift 173 = .ok (.iload 5, 2) := by decide +kernel
theorem dX11_shift_175 : decode cX11_shift 175 = .ok (.ifCond .eq 13, 3) := by decide +kernel
theorem dX11_shift_178 : decode cX11_shift 178 = .ok (.aload_n 0, 1) := by decide +kernel
theorem dX11_shift_179 : decode cX11_shift 179 = .ok (.bipush 19, 2) := by decide +kernel
theorem dX11_shift_181 : decode cX11_shift 181 = .ok (.iconst 0, 1) := by decide +kernel
theorem dX11_shift_182 : decode cX11_shift 182 = .ok (.invokevirtual 56, 3) := by decide +kernel
theorem dX11_shift_185 : decode cX11_shift 185 = .ok (.goto 12, 3) := by decide +kernel
theorem dX11_shift_188 : decode cX11_shift 188 = .ok (.aload_n 0, 1) := by decide +kernel
theorem dX11_shift_189 : decode cX11_shift 189 = .ok (.bipush 19, 2) := by decide +kernel
theorem dX11_shift_191 : decode cX11_shift 191 = .ok (.iload_n 2, 1) := by decide +kernel
theorem dX11_shift_192 : decode cX11_shift 192 = .ok (.iload_n 3, 1) := by decide +kernel
theorem dX11_shift_193 : decode cX11_shift 193 = .ok (.ineg, 1) := by decide +kernel
theorem dX11_shift_194 : decode cX11_shift 194 = .ok (.invokevirtual 104, 3) := by decide +kernel
theorem dX11_shift_197 : decode cX11_shift 197 = .ok (.iload 4, 2) := by decide +kernel
theorem dX11_shift_199 : decode cX11_shift 199 = .ok (.ifCond .ge 26, 3) := by decide +kernel
theorem dX11_shift_202 : decode cX11_shift 202 = .ok (.iload 6, 2) := by decide +kernel
theorem dX11_shift_204 : decode cX11_shift 204 = .ok (.ifCond .eq 21, 3) := by decide +kernel
theorem dX11_shift_207 : decode cX11_shift 207 = .ok (.aload_n 0, 1) := by decide +kernel
theorem dX11_shift_208 : decode cX11_shift 208 = .ok (.bipush 16, 2) := by decide +kernel
theorem dX11_shift_210 : decode cX11_shift 210 = .ok (.iconst 1, 1) := by decide +kernel
theorem dX11_shift_211 : decode cX11_shift 211 = .ok (.invokevirtual 56, 3) := by decide +kernel
theorem dX11_shift_214 : decode cX11_shift 214 = .ok (.aload_n 0, 1) := by decide +kernel
theorem dX11_shift_215 : decode cX11_shift 215 = .ok (.bipush 19, 2) := by decide +kernel
theorem dX11_shift_217 : decode cX11_shift 217 = .ok (.bipush 19, 2) := by decide +kernel
theorem dX11_shift_219 : decode cX11_shift 219 = .ok (.bipush 16, 2) := by decide +kernel
theorem dX11_shift_221 : decode cX11_shift 221 = .ok (.iconst (-1), 1) := by decide +kernel
theorem dX11_shift_222 : decode cX11_shift 222 = .ok (.invokevirtual 71, 3) := by decide +kernel
theorem dX11_shift_225 : decode cX11_shift 225 = .ok (.aload_n 0, 1) := by decide +kernel
theorem dX11_shift_226 : decode cX11_shift 226 = .ok (.iload_n 1, 1) := by decide +kernel
theorem dX11_shift_227 : decode cX11_shift 227 = .ok (.bipush 19, 2) := by decide +kernel
theorem dX11_shift_229 : decode cX11_shift 229 = .ok (.invokevirtual 81, 3) := by decide +kernel
theorem dX11_shift_232 : decode cX11_shift 232 = .ok (.ireturn, 1) := by decide +kernel
theorem dX11_compare_0 : decode cX11_compare 0 = .ok (.aload_n 0, 1) := by decide +kernel
theorem dX11_compare_1 : decode cX11_compare 1 = .ok (.iconst 0, 1) := by decide +kernel
theorem dX11_compare_2 : decode cX11_compare 2 = .ok (.putfield 33, 3) := by decide +kernel
theorem dX11_compare_5 : decode cX11_compare 5 = .ok (.aload_n 0, 1) := by decide +kernel
theorem dX11_compare_6 : decode cX11_compare 6 = .ok (.iload_n 1, 1) := by decide +kernel
theorem dX11_compare_7 : decode cX11_compare 7 = .ok (.invokevirtual 78, 3) := by decide +kernel
theorem dX11_compare_10 : decode cX11_compare 10 = .ok (.ifCond .ne 11, 3) := by decide +kernel
theorem dX11_compare_13 : decode cX11_compare 13 = .ok (.aload_n 0, 1) := by decide +kernel
theorem dX11_compare_14 : decode cX11_compare 14 = .ok (.iload_n 2, 1) := by decide +kernel
theorem dX11_compare_15 : decode cX11_compare 15 = .ok (.invokevirtual 78, 3) := by decide +kernel
theorem dX11_compare_18 : decode cX11_compare 18 = .ok (.ifCond .eq 5, 3) := by decide +kernel
theorem dX11_compare_21 : decode cX11_compare 21 = .ok (.iconst 3, 1) := by decide +kernel
theorem dX11_compare_22 : decode cX11_compare 22 = .ok (.ireturn, 1) := by decide +kernel
theorem dX11_compare_23 : decode cX11_compare 23 = .ok (.aload_n 0, 1) := by decide +kernel
theorem dX11_compare_24 : decode cX11_compare 24 = .ok (.getfield 16, 3) := by decide +kernel
theorem dX11_compare_27 : decode cX11_compare 27 = .ok (.iload_n 1, 1) := by decide +kernel
theorem dX11_compare_28 : decode cX11_compare 28 = .ok (.iaload, 1) := by decide +kernel
theorem dX11_compare_29 : decode cX11_compare 29 = .ok (.aload_n 0, 1) := by decide +kernel
theorem dX11_compare_30 : decode cX11_compare 30 = .ok (.getfield 16, 3) := by decide +kernel
theorem dX11_compare_33 : decode cX11_compare 33 = .ok (.iload_n 2, 1) := by decide +kernel
theorem dX11_compare_34 : decode cX11_compare 34 = .ok (.iaload, 1) := by decide +kernel
theorem dX11_compare_35 : decode cX11_compare 35 = .ok (.if_icmp .eq 24, 3) := by decide +kernel
theorem dX11_compare_38 : decode cX11_compare 38 = .ok (.aload_n 0, 1) := by decide +kernel
theorem dX11_compare_39 : decode cX11_compare 39 = .ok (.getfield 16, 3) := by decide +kernel
theorem dX11_compare_42 : decode cX11_compare 42 = .ok (.iload_n 1, 1) := by decide +kernel
theorem dX11_compare_43 : decode cX11_compare 43 = .ok (.iaload, 1) := by decide +kernel
theorem dX11_compare_44 : decode cX11_compare 44 = .ok (.aload_n 0, 1) := by decide +kernel
theorem dX11_compare_45 : decode cX11_compare 45 = .ok (.getfield 16, 3) := by decide +kernel
theorem dX11_compare_48 : decode cX11_compare 48 = .ok (.iload_n 2, 1) := by decide +kernel
theorem dX11_compare_49 : decode cX11_compare 49 = .ok (.iaload, 1) := by decide +kernel
theorem dX11_compare_50 : decode cX11_compare 50 = .ok (.if_icmp .le 7, 3) := by decide +kernel
theorem dX11_compare_53 : decode cX11_compare 53 = .ok (.iconst 1, 1) := by decide +kernel
theorem dX11_compare_54 : decode cX11_compare 54 = .ok (.goto 4, 3) := by decide +kernel
theorem dX11_compare_57 : decode cX11_compare 57 = .ok (.iconst (-1), 1) := by decide +kernel
theorem dX11_compare_58 : decode cX11_compare 58 = .ok (.ireturn, 1) := by decide +kernel
theorem dX11_compare_59 : decode cX11_compare 59 = .ok (.aload_n 0, 1) := by decide +kernel
theorem dX11_compare_60 : decode cX11_compare 60 = .ok (.getfield 16, 3) := by decide +kernel
theorem dX11_compare_63 : decode cX11_compare 63 = .ok (.iload_n 1, 1) := by decide +kernel
theorem dX11_compare_64 : decode cX11_compare 64 = .ok (.iaload, 1) := by decide +kernel
theorem dX11_compare_65 : decode cX11_compare 65 = .ok (.aload_n 0, 1) := by decide +kernel
theorem dX11_compare_66 : decode cX11_compare 66 = .ok (.iload_n 1, 1) := by decide +kernel
theorem dX11_compare_67 : decode cX11_compare 67 = .ok (.iload_n 2, 1) := by decide +kernel
theorem dX11_compare_68 : decode cX11_compare 68 = .ok (.invokevirtual 53, 3) := by decide +kernel
theorem dX11_compare_71 : decode cX11_compare 71 = .ok (.imul, 1) := by decide +kernel
theorem dX11_compare_72 : decode cX11_compare 72 = .ok (.ireturn, 1) := by decide +kernel
theorem dX11_sized_0 : decode cX11_sized 0 = .ok (.aload_n 0, 1) := by decide +kernel
theorem dX11_sized_1 : decode cX11_sized 1 = .ok (.iload_n 1, 1) := by decide +kernel
theorem dX11_sized_2 : decode cX11_sized 2 = .ok (.iload_n 2, 1) := by decide +kernel
theorem dX11_sized_3 : decode cX11_sized 3 = .ok (.invokevirtual 45, 3) := by decide +kernel
theorem dX11_sized_6 : decode cX11_sized 6 = .ok (.aload_n 0, 1) := by decide +kernel
theorem dX11_sized_7 : decode cX11_sized 7 = .ok (.getfield 16, 3) := by decide +kernel
theorem dX11_sized_10 : decode cX11_sized 10 = .ok (.iload_n 1, 1) := by decide +kernel
theorem dX11_sized_11 : decode cX11_sized 11 = .ok (.aload_n 0, 1) := by decide +kernel
theorem dX11_sized_12 : decode cX11_sized 12 = .ok (.getfield 13, 3) := by decide +kernel
theorem dX11_sized_15 : decode cX11_sized 15 = .ok (.iload_n 1, 1) := by decide +kernel
theorem dX11_sized_16 : decode cX11_sized 16 = .ok (.iaload, 1) := by decide +kernel
theorem dX11_sized_17 : decode cX11_sized 17 = .ok (.ifCond .ne 7, 3) := by decide +kernel
theorem dX11_sized_20 : decode cX11_sized 20 = .ok (.iconst 0, 1) := by decide +kernel
theorem dX11_sized_21 : decode cX11_sized 21 = .ok (.goto 4, 3) := by decide +kernel
theorem dX11_sized_24 : decode cX11_sized 24 = .ok (.iconst 1, 1) := by decide +kernel
theorem dX11_sized_25 : decode cX11_sized 25 = .ok (.iastore, 1) := by decide +kernel
theorem dX11_sized_26 : decode cX11_sized 26 = .ok (.return_, 1) := by decide +kernel
theorem dX11_divisor_0 : decode cX11_divisor 0 = .ok (.aload_n 0, 1) := by decide +kernel
theorem dX11_divisor_1 : decode cX11_divisor 1 = .ok (.getfield 13, 3) := by decide +kernel
theorem dX11_divisor_4 : decode cX11_divisor 4 = .ok (.bipush 21, 2) := by decide +kernel
theorem dX11_divisor_6 : decode cX11_divisor 6 = .ok (.iaload, 1) := by decide +kernel
theorem dX11_divisor_7 : decode cX11_divisor 7 = .ok (.ifCond .le 34, 3) := by decide +kernel
theorem dX11_divisor_10 : decode cX11_divisor 10 = .ok (.aload_n 0, 1) := by decide +kernel
theorem dX11_divisor_11 : decode cX11_divisor 11 = .ok (.bipush 17, 2) := by decide +kernel
theorem dX11_divisor_13 : decode cX11_divisor 13 = .ok (.bipush 18, 2) := by decide +kernel
theorem dX11_divisor_15 : decode cX11_divisor 15 = .ok (.bipush 20, 2) := by decide +kernel
theorem dX11_divisor_17 : decode cX11_divisor 17 = .ok (.bipush 21, 2) := by decide +kernel
theorem dX11_divisor_19 : decode cX11_divisor 19 = .ok (.invokevirtual 68, 3) := by decide +kernel
theorem dX11_divisor_22 : decode cX11_divisor 22 = .ok (.aload_n 0, 1) := by decide +kernel
theorem dX11_divisor_23 : decode cX11_divisor 23 = .ok (.bipush 20, 2) := by decide +kernel
theorem dX11_divisor_25 : decode cX11_divisor 25 = .ok (.bipush 21, 2) := by decide +kernel
theorem dX11_divisor_27 : decode cX11_divisor 27 = .ok (.invokevirtual 45, 3) := by decide +kernel
theorem dX11_divisor_30 : decode cX11_divisor 30 = .ok (.aload_n 0, 1) := by decide +kernel
theorem dX11_divisor_31 : decode cX11_divisor 31 = .ok (.bipush 21, 2) := by decide +kernel
theorem dX11_divisor_33 : decode cX11_divisor 33 = .ok (.bipush 18, 2) := by decide +kernel
theorem dX11_divisor_35 : decode cX11_divisor 35 = .ok (.invokevirtual 45, 3) := by decide +kernel
theorem dX11_divisor_38 : decode cX11_divisor 38 = .ok (.goto (-38), 3) := by decide +kernel
theorem dX11_divisor_41 : decode cX11_divisor 41 = .ok (.return_, 1) := by decide +kernel
theorem dX11_simple_0 : decode cX11_simple 0 = .ok (.aload_n 0, 1) := by decide +kernel
theorem dX11_simple_1 : decode cX11_simple 1 = .ok (.iconst 0, 1) := by decide +kernel
theorem dX11_simple_2 : decode cX11_simple 2 = .ok (.putfield 33, 3) := by decide +kernel
theorem dX11_simple_5 : decode cX11_simple 5 = .ok (.aload_n 0, 1) := by decide +kernel
theorem dX11_simple_6 : decode cX11_simple 6 = .ok (.iload_n 1, 1) := by decide +kernel
theorem dX11_simple_7 : decode cX11_simple 7 = .ok (.invokevirtual 78, 3) := by decide +kernel
theorem dX11_simple_10 : decode cX11_simple 10 = .ok (.ifCond .ne 19, 3) := by decide +kernel
theorem dX11_simple_13 : decode cX11_simple 13 = .ok (.aload_n 0, 1) := by decide +kernel
theorem dX11_simple_14 : decode cX11_simple 14 = .ok (.iload_n 2, 1) := by decide +kernel
theorem dX11_simple_15 : decode cX11_simple 15 = .ok (.invokevirtual 78, 3) := by decide +kernel
theorem dX11_simple_18 : decode cX11_simple 18 = .ok (.ifCond .ne 11, 3) := by decide +kernel
theorem dX11_simple_21 : decode cX11_simple 21 = .ok (.aload_n 0, 1) := by decide +kernel
theorem dX11_simple_22 : decode cX11_simple 22 = .ok (.iload_n 3, 1) := by decide +kernel
theorem dX11_simple_23 : decode cX11_simple 23 = .ok (.invokevirtual 78, 3) := by decide +kernel
theorem dX11_simple_26 : decode cX11_simple 26 = .ok (.ifCond .eq 5, 3) := by decide +kernel
theorem dX11_simple_29 : decode cX11_simple 29 = .ok (.iconst 3, 1) := by decide +kernel
theorem dX11_simple_30 : decode cX11_simple 30 = .ok (.ireturn, 1) := by decide +kernel
theorem dX11_simple_31 : decode cX11_simple 31 = .ok (.aload_n 0, 1) := by decide +kernel
theorem dX11_simple_32 : decode cX11_simple 32 = .ok (.bipush 20, 2) := by decide +kernel
theorem dX11_simple_34 : decode cX11_simple 34 = .ok (.iload_n 2, 1) := by decide +kernel
theorem dX11_simple_35 : decode cX11_simple 35 = .ok (.invokevirtual 107, 3) := by decide +kernel
theorem dX11_simple_38 : decode cX11_simple 38 = .ok (.aload_n 0, 1) := by decide +kernel
theorem dX11_simple_39 : decode cX11_simple 39 = .ok (.bipush 21, 2) := by decide +kernel
theorem dX11_simple_41 : decode cX11_simple 41 = .ok (.iload_n 3, 1) := by decide +kernel
theorem dX11_simple_42 : decode cX11_simple 42 = .ok (.invokevirtual 107, 3) := by decide +kernel
theorem dX11_simple_45 : decode cX11_simple 45 = .ok (.aload_n 0, 1) := by decide +kernel
theorem dX11_simple_46 : decode cX11_simple 46 = .ok (.invokevirtual 110, 3) := by decide +kernel
theorem dX11_simple_49 : decode cX11_simple 49 = .ok (.aload_n 0, 1) := by decide +kernel
theorem dX11_simple_50 : decode cX11_simple 50 = .ok (.iload_n 1, 1) := by decide +kernel
theorem dX11_simple_51 : decode cX11_simple 51 = .ok (.bipush 20, 2) := by decide +kernel
theorem dX11_simple_53 : decode cX11_simple 53 = .ok (.invokevirtual 45, 3) := by decide +kernel
theorem dX11_simple_56 : decode cX11_simple 56 = .ok (.iconst 0, 1) := by decide +kernel
theorem dX11_simple_57 : decode cX11_simple 57 = .ok (.ireturn, 1) := by decide +kernel
theorem dX11_gcdBinary_0 : decode cX11_gcdBinary 0 = .ok (.aload_n 0, 1) := by decide +kernel
theorem dX11_gcdBinary_1 : decode cX11_gcdBinary 1 = .ok (.iload_n 1, 1) := by decide +kernel
theorem dX11_gcdBinary_2 : decode cX11_gcdBinary 2 = .ok (.iload_n 2, 1) := by decide +kernel
theorem dX11_gcdBinary_3 : decode cX11_gcdBinary 3 = .ok (.iload_n 3, 1) := by decide +kernel
theorem dX11_gcdBinary_4 : decode cX11_gcdBinary 4 = .ok (.invokevirtual 113, 3) := by decide +kernel
theorem dX11_gcdBinary_7 : decode cX11_gcdBinary 7 = .ok (.ireturn, 1) := by decide +kernel
theorem dX11_gcdEuclid_0 : decode cX11_gcdEuclid 0 = .ok (.aload_n 0, 1) := by decide +kernel
theorem dX11_gcdEuclid_1 : decode cX11_gcdEuclid 1 = .ok (.iload_n 1, 1) := by decide +kernel
theorem dX11_gcdEuclid_2 : decode cX11_gcdEuclid 2 = .ok (.iload_n 2, 1) := by decide +kernel
theorem dX11_gcdEuclid_3 : decode cX11_gcdEuclid 3 = .ok (.iload_n 3, 1) := by decide +kernel
theorem dX11_gcdEuclid_4 : decode cX11_gcdEuclid 4 = .ok (.invokevirtual 113, 3) := by decide +kernel
theorem dX11_gcdEuclid_7 : decode cX11_gcdEuclid 7 = .ok (.ireturn, 1) := by decide +kernel
theorem dX11_divided__0 : decode cX11_divided_ 0 = .ok (.lload_n 0, 1) := by decide +kernel
theorem dX11_divided__1 : decode cX11_divided_ 1 = .ok (.lload_n 2, 1) := by decide +kernel
theorem dX11_divided__2 : decode cX11_divided_ 2 = .ok (.ldiv, 1) := by decide +kernel
theorem dX11_divided__3 : decode cX11_divided_ 3 = .ok (.lstore 4, 2) := by decide +kernel
theorem dX11_divided__5 : decode cX11_divided_ 5 = .ok (.lload_n 0, 1) := by decide +kernel
theorem dX11_divided__6 : decode cX11_divided_ 6 = .ok (.lload 4, 2) := by decide +kernel
theorem dX11_divided__8 : decode cX11_divided_ 8 = .ok (.lload_n 2, 1) := by decide +kernel
theorem dX11_divided__9 : decode cX11_divided_ 9 = .ok (.lmul, 1) := by decide +kernel
theorem dX11_divided__10 : decode cX11_divided_ 10 = .ok (.lsub, 1) := by decide +kernel
theorem dX11_divided__11 : decode cX11_divided_ 11 = .ok (.lstore 6, 2) := by decide +kernel
theorem dX11_divided__13 : decode cX11_divided_ 13 = .ok (.lload 6, 2) := by decide +kernel
theorem dX11_divided__15 : decode cX11_divided_ 15 = .ok (.lconst 0, 1) := by decide +kernel
theorem dX11_divided__16 : decode cX11_divided_ 16 = .ok (.lcmp, 1) := by decide +kernel
theorem dX11_divided__17 : decode cX11_divided_ 17 = .ok (.ifCond .lt 8, 3) := by decide +kernel
theorem dX11_divided__20 : decode cX11_divided_ 20 = .ok (.lload 4, 2) := by decide +kernel
theorem dX11_divided__22 : decode cX11_divided_ 22 = .ok (.goto 20, 3) := by decide +kernel
theorem dX11_divided__25 : decode cX11_divided_ 25 = .ok (.lload_n 2, 1) := by decide +kernel
theorem dX11_divided__26 : decode cX11_divided_ 26 = .ok (.lconst 0, 1) := by decide +kernel
theorem dX11_divided__27 : decode cX11_divided_ 27 = .ok (.lcmp, 1) := by decide +kernel
theorem dX11_divided__28 : decode cX11_divided_ 28 = .ok (.ifCond .le 10, 3) := by decide +kernel
theorem dX11_divided__31 : decode cX11_divided_ 31 = .ok (.lload 4, 2) := by decide +kernel
theorem dX11_divided__33 : decode cX11_divided_ 33 = .ok (.lconst 1, 1) := by decide +kernel
theorem dX11_divided__34 : decode cX11_divided_ 34 = .ok (.lsub, 1) := by decide +kernel
theorem dX11_divided__35 : decode cX11_divided_ 35 = .ok (.goto 7, 3) := by decide +kernel
theorem dX11_divided__38 : decode cX11_divided_ 38 = .ok (.lload 4, 2) := by decide +kernel
theorem dX11_divided__40 : decode cX11_divided_ 40 = .ok (.lconst 1, 1) := by decide +kernel
theorem dX11_divided__41 : decode cX11_divided_ 41 = .ok (.ladd, 1) := by decide +kernel
theorem dX11_divided__42 : decode cX11_divided_ 42 = .ok (.lreturn, 1) := by decide +kernel
theorem dX11_high_0 : decode cX11_high 0 = .ok (.lconst 0, 1) := by decide +kernel
theorem dX11_high_1 : decode cX11_high 1 = .ok (.lstore_n 3, 1) := by decide +kernel
theorem dX11_high_2 : decode cX11_high 2 = .ok (.iload_n 2, 1) := by decide +kernel
theorem dX11_high_3 : decode cX11_high 3 = .ok (.bipush 32, 2) := by decide +kernel
theorem dX11_high_5 : decode cX11_high 5 = .ok (.iadd, 1) := by decide +kernel
theorem dX11_high_6 : decode cX11_high 6 = .ok (.istore 5, 2) := by decide +kernel
theorem dX11_high_8 : decode cX11_high 8 = .ok (.iload 5, 2) := by decide +kernel
theorem dX11_high_10 : decode cX11_high 10 = .ok (.iload_n 2, 1) := by decide +kernel
theorem dX11_high_11 : decode cX11_high 11 = .ok (.if_icmp .lt 31, 3) := by decide +kernel
theorem dX11_high_14 : decode cX11_high 14 = .ok (.ldc2_w 117, 3) := by decide +kernel
theorem dX11_high_17 : decode cX11_high 17 = .ok (.lload_n 3, 1) := by decide +kernel
theorem dX11_high_18 : decode cX11_high 18 = .ok (.lmul, 1) := by decide +kernel
theorem dX11_high_19 : decode cX11_high 19 = .ok (.aload_n 0, 1) := by decide +kernel
theorem dX11_high_20 : decode cX11_high 20 = .ok (.iload_n 1, 1) := by decide +kernel
theorem dX11_high_21 : decode cX11_high 21 = .ok (.iload 5, 2) := by decide +kernel
theorem dX11_high_23 : decode cX11_high 23 = .ok (.invokevirtual 100, 3) := by decide +kernel
theorem dX11_high_26 : decode cX11_high 26 = .ok (.ifCond .eq 7, 3) := by decide +kernel
theorem dX11_high_29 : decode cX11_high 29 = .ok (.lconst 1, 1) := by decide +kernel
theorem dX11_high_30 : decode cX11_high 30 = .ok (.goto 4, 3) := by decide +kernel
theorem dX11_high_33 : decode cX11_high 33 = .ok (.lconst 0, 1) := by decide +kernel
theorem dX11_high_34 : decode cX11_high 34 = .ok (.ladd, 1) := by decide +kernel
theorem dX11_high_35 : decode cX11_high 35 = .ok (.lstore_n 3, 1) := by decide +kernel
theorem dX11_high_36 : decode cX11_high 36 = .ok (.iinc 5 (-1), 3) := by decide +kernel
theorem dX11_high_39 : decode cX11_high 39 = .ok (.goto (-31), 3) := by decide +kernel
theorem dX11_high_42 : decode cX11_high 42 = .ok (.lload_n 3, 1) := by decide +kernel
theorem dX11_high_43 : decode cX11_high 43 = .ok (.lreturn, 1) := by decide +kernel
theorem dX11_number_0 : decode cX11_number 0 = .ok (.lload_n 2, 1) := by decide +kernel
theorem dX11_number_1 : decode cX11_number 1 = .ok (.lconst 0, 1) := by decide +kernel
theorem dX11_number_2 : decode cX11_number 2 = .ok (.lcmp, 1) := by decide +kernel
theorem dX11_number_3 : decode cX11_number 3 = .ok (.ifCond .ge 8, 3) := by decide +kernel
theorem dX11_number_6 : decode cX11_number 6 = .ok (.lload_n 2, 1) := by decide +kernel
theorem dX11_number_7 : decode cX11_number 7 = .ok (.lneg, 1) := by decide +kernel
theorem dX11_number_8 : decode cX11_number 8 = .ok (.goto 4, 3) := by decide +kernel
theorem dX11_number_11 : decode cX11_number 11 = .ok (.lload_n 2, 1) := by decide +kernel
theorem dX11_number_12 : decode cX11_number 12 = .ok (.lstore 4, 2) := by decide +kernel
theorem dX11_number_14 : decode cX11_number 14 = .ok (.iconst 0, 1) := by decide +kernel
theorem dX11_number_15 : decode cX11_number 15 = .ok (.istore 6, 2) := by decide +kernel
theorem dX11_number_17 : decode cX11_number 17 = .ok (.iload 6, 2) := by decide +kernel
theorem dX11_number_19 : decode cX11_number 19 = .ok (.iconst 4, 1) := by decide +kernel
theorem dX11_number_20 : decode cX11_number 20 = .ok (.if_icmp .ge 35, 3) := by decide +kernel
theorem dX11_number_23 : decode cX11_number 23 = .ok (.aload_n 0, 1) := by decide +kernel
theorem dX11_number_24 : decode cX11_number 24 = .ok (.getfield 7, 3) := by decide +kernel
theorem dX11_number_27 : decode cX11_number 27 = .ok (.sipush 260, 3) := by decide +kernel
theorem dX11_number_30 : decode cX11_number 30 = .ok (.iload_n 1, 1) := by decide +kernel
theorem dX11_number_31 : decode cX11_number 31 = .ok (.imul, 1) := by decide +kernel
theorem dX11_number_32 : decode cX11_number 32 = .ok (.iload 6, 2) := by decide +kernel
theorem dX11_number_34 : decode cX11_number 34 = .ok (.iadd, 1) := by decide +kernel
theorem dX11_number_35 : decode cX11_number 35 = .ok (.lload 4, 2) := by decide +kernel
theorem dX11_number_37 : decode cX11_number 37 = .ok (.bipush 16, 2) := by decide +kernel
theorem dX11_number_39 : decode cX11_number 39 = .ok (.iload 6, 2) := by decide +kernel
theorem dX11_number_41 : decode cX11_number 41 = .ok (.imul, 1) := by decide +kernel
theorem dX11_number_42 : decode cX11_number 42 = .ok (.lshr, 1) := by decide +kernel
theorem dX11_number_43 : decode cX11_number 43 = .ok (.ldc2_w 62, 3) := by decide +kernel
theorem dX11_number_46 : decode cX11_number 46 = .ok (.land, 1) := by decide +kernel
theorem dX11_number_47 : decode cX11_number 47 = .ok (.l2i, 1) := by decide +kernel
theorem dX11_number_48 : decode cX11_number 48 = .ok (.iastore, 1) := by decide +kernel
theorem dX11_number_49 : decode cX11_number 49 = .ok (.iinc 6 1, 3) := by decide +kernel
theorem dX11_number_52 : decode cX11_number 52 = .ok (.goto (-35), 3) := by decide +kernel
theorem dX11_number_55 : decode cX11_number 55 = .ok (.aload_n 0, 1) := by decide +kernel
theorem dX11_number_56 : decode cX11_number 56 = .ok (.iload_n 1, 1) := by decide +kernel
theorem dX11_number_57 : decode cX11_number 57 = .ok (.iconst 4, 1) := by decide +kernel
theorem dX11_number_58 : decode cX11_number 58 = .ok (.lload_n 2, 1) := by decide +kernel
theorem dX11_number_59 : decode cX11_number 59 = .ok (.lconst 0, 1) := by decide +kernel
theorem dX11_number_60 : decode cX11_number 60 = .ok (.lcmp, 1) := by decide +kernel
theorem dX11_number_61 : decode cX11_number 61 = .ok (.ifCond .ge 7, 3) := by decide +kernel
theorem dX11_number_64 : decode cX11_number 64 = .ok (.iconst (-1), 1) := by decide +kernel
theorem dX11_number_65 : decode cX11_number 65 = .ok (.goto 4, 3) := by decide +kernel
theorem dX11_number_68 : decode cX11_number 68 = .ok (.iconst 1, 1) := by decide +kernel
theorem dX11_number_69 : decode cX11_number 69 = .ok (.invokevirtual 41, 3) := by decide +kernel
theorem dX11_number_72 : decode cX11_number 72 = .ok (.return_, 1) := by decide +kernel
theorem dX11_mixed_0 : decode cX11_mixed 0 = .ok (.aload_n 0, 1) := by decide +kernel
theorem dX11_mixed_1 : decode cX11_mixed 1 = .ok (.bipush 22, 2) := by decide +kernel
theorem dX11_mixed_3 : decode cX11_mixed 3 = .ok (.lload_n 2, 1) := by decide +kernel
theorem dX11_mixed_4 : decode cX11_mixed 4 = .ok (.invokevirtual 119, 3) := by decide +kernel
theorem dX11_mixed_7 : decode cX11_mixed 7 = .ok (.aload_n 0, 1) := by decide +kernel
theorem dX11_mixed_8 : decode cX11_mixed 8 = .ok (.bipush 23, 2) := by decide +kernel
theorem dX11_mixed_10 : decode cX11_mixed 10 = .ok (.lload 4, 2) := by decide +kernel
theorem dX11_mixed_12 : decode cX11_mixed 12 = .ok (.invokevirtual 119, 3) := by decide +kernel
theorem dX11_mixed_15 : decode cX11_mixed 15 = .ok (.aload_n 0, 1) := by decide +kernel
theorem dX11_mixed_16 : decode cX11_mixed 16 = .ok (.bipush 25, 2) := by decide +kernel
theorem dX11_mixed_18 : decode cX11_mixed 18 = .ok (.bipush 22, 2) := by decide +kernel
theorem dX11_mixed_20 : decode cX11_mixed 20 = .ok (.bipush 20, 2) := by decide +kernel
theorem dX11_mixed_22 : decode cX11_mixed 22 = .ok (.invokevirtual 84, 3) := by decide +kernel
theorem dX11_mixed_25 : decode cX11_mixed 25 = .ok (.aload_n 0, 1) := by decide +kernel
theorem dX11_mixed_26 : decode cX11_mixed 26 = .ok (.bipush 26, 2) := by decide +kernel
theorem dX11_mixed_28 : decode cX11_mixed 28 = .ok (.bipush 23, 2) := by decide +kernel
theorem dX11_mixed_30 : decode cX11_mixed 30 = .ok (.bipush 21, 2) := by decide +kernel
theorem dX11_mixed_32 : decode cX11_mixed 32 = .ok (.invokevirtual 84, 3) := by decide +kernel
theorem dX11_mixed_35 : decode cX11_mixed 35 = .ok (.aload_n 0, 1) := by decide +kernel
theorem dX11_mixed_36 : decode cX11_mixed 36 = .ok (.iload_n 1, 1) := by decide +kernel
theorem dX11_mixed_37 : decode cX11_mixed 37 = .ok (.bipush 25, 2) := by decide +kernel
theorem dX11_mixed_39 : decode cX11_mixed 39 = .ok (.bipush 26, 2) := by decide +kernel
theorem dX11_mixed_41 : decode cX11_mixed 41 = .ok (.iconst 1, 1) := by decide +kernel
theorem dX11_mixed_42 : decode cX11_mixed 42 = .ok (.invokevirtual 71, 3) := by decide +kernel
theorem dX11_mixed_45 : decode cX11_mixed 45 = .ok (.return_, 1) := by decide +kernel
theorem dX11_step_0 : decode cX11_step 0 = .ok (.aload_n 0, 1) := by decide +kernel
theorem dX11_step_1 : decode cX11_step 1 = .ok (.bipush 17, 2) := by decide +kernel
theorem dX11_step_3 : decode cX11_step 3 = .ok (.bipush 18, 2) := by decide +kernel
theorem dX11_step_5 : decode cX11_step 5 = .ok (.bipush 20, 2) := by decide +kernel
theorem dX11_step_7 : decode cX11_step 7 = .ok (.bipush 21, 2) := by decide +kernel
theorem dX11_step_9 : decode cX11_step 9 = .ok (.invokevirtual 68, 3) := by decide +kernel
theorem dX11_step_12 : decode cX11_step 12 = .ok (.aload_n 0, 1) := by decide +kernel
theorem dX11_step_13 : decode cX11_step 13 = .ok (.bipush 20, 2) := by decide +kernel
theorem dX11_step_15 : decode cX11_step 15 = .ok (.bipush 21, 2) := by decide +kernel
theorem dX11_step_17 : decode cX11_step 17 = .ok (.invokevirtual 45, 3) := by decide +kernel
theorem dX11_step_20 : decode cX11_step 20 = .ok (.aload_n 0, 1) := by decide +kernel
theorem dX11_step_21 : decode cX11_step 21 = .ok (.bipush 21, 2) := by decide +kernel
theorem dX11_step_23 : decode cX11_step 23 = .ok (.bipush 18, 2) := by decide +kernel
theorem dX11_step_25 : decode cX11_step 25 = .ok (.invokevirtual 45, 3) := by decide +kernel
theorem dX11_step_28 : decode cX11_step 28 = .ok (.aload_n 0, 1) := by decide +kernel
theorem dX11_step_29 : decode cX11_step 29 = .ok (.dup, 1) := by decide +kernel
theorem dX11_step_30 : decode cX11_step 30 = .ok (.getfield 123, 3) := by decide +kernel
theorem dX11_step_33 : decode cX11_step 33 = .ok (.iconst 1, 1) := by decide +kernel
theorem dX11_step_34 : decode cX11_step 34 = .ok (.iadd, 1) := by decide +kernel
theorem dX11_step_35 : decode cX11_step 35 = .ok (.putfield 123, 3) := by decide +kernel
theorem dX11_step_38 : decode cX11_step 38 = .ok (.return_, 1) := by decide +kernel
theorem dX11_gcdLehmer_0 : decode cX11_gcdLehmer 0 = .ok (.aload_n 0, 1) := by decide +kernel
theorem dX11_gcdLehmer_1 : decode cX11_gcdLehmer 1 = .ok (.iconst 0, 1) := by decide +kernel
theorem dX11_gcdLehmer_2 : decode cX11_gcdLehmer 2 = .ok (.putfield 33, 3) := by decide +kernel
theorem dX11_gcdLehmer_5 : decode cX11_gcdLehmer 5 = .ok (.aload_n 0, 1) := by decide +kernel
theorem dX11_gcdLehmer_6 : decode cX11_gcdLehmer 6 = .ok (.iload_n 1, 1) := by decide +kernel
theorem dX11_gcdLehmer_7 : decode cX11_gcdLehmer 7 = .ok (.invokevirtual 78, 3) := by decide +kernel
theorem dX11_gcdLehmer_10 : decode cX11_gcdLehmer 10 = .ok (.ifCond .ne 19, 3) := by decide +kernel
theorem dX11_gcdLehmer_13 : decode cX11_gcdLehmer 13 = .ok (.aload_n 0, 1) := by decide +kernel
theorem dX11_gcdLehmer_14 : decode cX11_gcdLehmer 14 = .ok (.iload_n 2, 1) := by decide +kernel
theorem dX11_gcdLehmer_15 : decode cX11_gcdLehmer 15 = .ok (.invokevirtual 78, 3) := by decide +kernel
theorem dX11_gcdLehmer_18 : decode cX11_gcdLehmer 18 = .ok (.ifCond .ne 11, 3) := by decide +kernel
theorem dX11_gcdLehmer_21 : decode cX11_gcdLehmer 21 = .ok (.aload_n 0, 1) := by decide +kernel
theorem dX11_gcdLehmer_22 : decode cX11_gcdLehmer 22 = .ok (.iload_n 3, 1) := by decide +kernel
theorem dX11_gcdLehmer_23 : decode cX11_gcdLehmer 23 = .ok (.invokevirtual 78, 3) := by decide +kernel
theorem dX11_gcdLehmer_26 : decode cX11_gcdLehmer 26 = .ok (.ifCond .eq 5, 3) := by decide +kernel
theorem dX11_gcdLehmer_29 : decode cX11_gcdLehmer 29 = .ok (.iconst 3, 1) := by decide +kernel
theorem dX11_gcdLehmer_30 : decode cX11_gcdLehmer 30 = .ok (.ireturn, 1) := by decide +kernel
theorem dX11_gcdLehmer_31 : decode cX11_gcdLehmer 31 = .ok (.aload_n 0, 1) := by decide +kernel
theorem dX11_gcdLehmer_32 : decode cX11_gcdLehmer 32 = .ok (.iconst 0, 1) := by decide +kernel
theorem dX11_gcdLehmer_33 : decode cX11_gcdLehmer 33 = .ok (.putfield 123, 3) := by decide +kernel
theorem dX11_gcdLehmer_36 : decode cX11_gcdLehmer 36 = .ok (.aload_n 0, 1) := by decide +kernel
theorem dX11_gcdLehmer_37 : decode cX11_gcdLehmer 37 = .ok (.bipush 20, 2) := by decide +kernel
theorem dX11_gcdLehmer_39 : decode cX11_gcdLehmer 39 = .ok (.iload_n 2, 1) := by decide +kernel
theorem dX11_gcdLehmer_40 : decode cX11_gcdLehmer 40 = .ok (.invokevirtual 107, 3) := by decide +kernel
theorem dX11_gcdLehmer_43 : decode cX11_gcdLehmer 43 = .ok (.aload_n 0, 1) := by decide +kernel
theorem dX11_gcdLehmer_44 : decode cX11_gcdLehmer 44 = .ok (.bipush 21, 2) := by decide +kernel
theorem dX11_gcdLehmer_46 : decode cX11_gcdLehmer 46 = .ok (.iload_n 3, 1) := by decide +kernel
theorem dX11_gcdLehmer_47 : decode cX11_gcdLehmer 47 = .ok (.invokevirtual 107, 3) := by decide +kernel
theorem dX11_gcdLehmer_50 : decode cX11_gcdLehmer 50 = .ok (.aload_n 0, 1) := by decide +kernel
theorem dX11_gcdLehmer_51 : decode cX11_gcdLehmer 51 = .ok (.bipush 20, 2) := by decide +kernel
theorem dX11_gcdLehmer_53 : decode cX11_gcdLehmer 53 = .ok (.bipush 21, 2) := by decide +kernel
theorem dX11_gcdLehmer_55 : decode cX11_gcdLehmer 55 = .ok (.invokevirtual 53, 3) := by decide +kernel
theorem dX11_gcdLehmer_58 : decode cX11_gcdLehmer 58 = .ok (.ifCond .ge 27, 3) := by decide +kernel
theorem dX11_gcdLehmer_61 : decode cX11_gcdLehmer 61 = .ok (.aload_n 0, 1) := by decide +kernel
theorem dX11_gcdLehmer_62 : decode cX11_gcdLehmer 62 = .ok (.bipush 19, 2) := by decide +kernel
theorem dX11_gcdLehmer_64 : decode cX11_gcdLehmer 64 = .ok (.bipush 20, 2) := by decide +kernel
theorem dX11_gcdLehmer_66 : decode cX11_gcdLehmer 66 = .ok (.invokevirtual 45, 3) := by decide +kernel
theorem dX11_gcdLehmer_69 : decode cX11_gcdLehmer 69 = .ok (.aload_n 0, 1) := by decide +kernel
theorem dX11_gcdLehmer_70 : decode cX11_gcdLehmer 70 = .ok (.bipush 20, 2) := by decide +kernel
theorem dX11_gcdLehmer_72 : decode cX11_gcdLehmer 72 = .ok (.bipush 21, 2) := by decide +kernel
theorem dX11_gcdLehmer_74 : decode cX11_gcdLehmer 74 = .ok (.invokevirtual 45, 3) := by decide +kernel
theorem dX11_gcdLehmer_77 : decode cX11_gcdLehmer 77 = .ok (.aload_n 0, 1) := by decide +kernel
theorem dX11_gcdLehmer_78 : decode cX11_gcdLehmer 78 = .ok (.bipush 21, 2) := by decide +kernel
theorem dX11_gcdLehmer_80 : decode cX11_gcdLehmer 80 = .ok (.bipush 19, 2) := by decide +kernel
theorem dX11_gcdLehmer_82 : decode cX11_gcdLehmer 82 = .ok (.invokevirtual 45, 3) := by decide +kernel
theorem dX11_gcdLehmer_85 : decode cX11_gcdLehmer 85 = .ok (.aload_n 0, 1) := by decide +kernel
theorem dX11_gcdLehmer_86 : decode cX11_gcdLehmer 86 = .ok (.getfield 13, 3) := by decide +kernel
theorem dX11_gcdLehmer_89 : decode cX11_gcdLehmer 89 = .ok (.bipush 21, 2) := by decide +kernel
theorem dX11_gcdLehmer_91 : decode cX11_gcdLehmer 91 = .ok (.iaload, 1) := by decide +kernel
theorem dX11_gcdLehmer_92 : decode cX11_gcdLehmer 92 = .ok (.iconst 2, 1) := by decide +kernel
theorem dX11_gcdLehmer_93 : decode cX11_gcdLehmer 93 = .ok (.if_icmp .le 216, 3) := by decide +kernel
theorem dX11_gcdLehmer_96 : decode cX11_gcdLehmer 96 = .ok (.aload_n 0, 1) := by decide +kernel
theorem dX11_gcdLehmer_97 : decode cX11_gcdLehmer 97 = .ok (.bipush 20, 2) := by decide +kernel
theorem dX11_gcdLehmer_99 : decode cX11_gcdLehmer 99 = .ok (.invokevirtual 90, 3) := by decide +kernel
theorem dX11_gcdLehmer_102 : decode cX11_gcdLehmer 102 = .ok (.istore 4, 2) := by decide +kernel
theorem dX11_gcdLehmer_104 : decode cX11_gcdLehmer 104 = .ok (.aload_n 0, 1) := by decide +kernel
theorem dX11_gcdLehmer_105 : decode cX11_gcdLehmer 105 = .ok (.bipush 20, 2) := by decide +kernel
theorem dX11_gcdLehmer_107 : decode cX11_gcdLehmer 107 = .ok (.iload 4, 2) := by decide +kernel
theorem dX11_gcdLehmer_109 : decode cX11_gcdLehmer 109 = .ok (.bipush 32, 2) := by decide +kernel
theorem dX11_gcdLehmer_111 : decode cX11_gcdLehmer 111 = .ok (.isub, 1) := by decide +kernel
theorem dX11_gcdLehmer_112 : decode cX11_gcdLehmer 112 = .ok (.invokevirtual 126, 3) := by decide +kernel
theorem dX11_gcdLehmer_115 : decode cX11_gcdLehmer 115 = .ok (.lstore 5, 2) := by decide +kernel
theorem dX11_gcdLehmer_117 : decode cX11_gcdLehmer 117 = .ok (.aload_n 0, 1) := by decide +kernel
theorem dX11_gcdLehmer_118 : decode cX11_gcdLehmer 118 = .ok (.bipush 21, 2) := by decide +kernel
theorem dX11_gcdLehmer_120 : decode cX11_gcdLehmer 120 = .ok (.iload 4, 2) := by decide +kernel
theorem dX11_gcdLehmer_122 : decode cX11_gcdLehmer 122 = .ok (.bipush 32, 2) := by decide +kernel
theorem dX11_gcdLehmer_124 : decode cX11_gcdLehmer 124 = .ok (.isub, 1) := by decide +kernel
theorem dX11_gcdLehmer_125 : decode cX11_gcdLehmer 125 = .ok (.invokevirtual 126, 3) := by decide +kernel
theorem dX11_gcdLehmer_128 : decode cX11_gcdLehmer 128 = .ok (.lstore 7, 2) := by decide +kernel
theorem dX11_gcdLehmer_130 : decode cX11_gcdLehmer 130 = .ok (.lconst 1, 1) := by decide +kernel
theorem dX11_gcdLehmer_131 : decode cX11_gcdLehmer 131 = .ok (.lstore 9, 2) := by decide +kernel
theorem dX11_gcdLehmer_133 : decode cX11_gcdLehmer 133 = .ok (.lconst 0, 1) := by decide +kernel
theorem dX11_gcdLehmer_134 : decode cX11_gcdLehmer 134 = .ok (.lstore 11, 2) := by decide +kernel
theorem dX11_gcdLehmer_136 : decode cX11_gcdLehmer 136 = .ok (.lconst 0, 1) := by decide +kernel
theorem dX11_gcdLehmer_137 : decode cX11_gcdLehmer 137 = .ok (.lstore 13, 2) := by decide +kernel
theorem dX11_gcdLehmer_139 : decode cX11_gcdLehmer 139 = .ok (.lconst 1, 1) := by decide +kernel
theorem dX11_gcdLehmer_140 : decode cX11_gcdLehmer 140 = .ok (.lstore 15, 2) := by decide +kernel
theorem dX11_gcdLehmer_142 : decode cX11_gcdLehmer 142 = .ok (.lload 7, 2) := by decide +kernel
theorem dX11_gcdLehmer_144 : decode cX11_gcdLehmer 144 = .ok (.lload 13, 2) := by decide +kernel
theorem dX11_gcdLehmer_146 : decode cX11_gcdLehmer 146 = .ok (.ladd, 1) := by decide +kernel
theorem dX11_gcdLehmer_147 : decode cX11_gcdLehmer 147 = .ok (.lconst 0, 1) := by decide +kernel
theorem dX11_gcdLehmer_148 : decode cX11_gcdLehmer 148 = .ok (.lcmp, 1) := by decide +kernel
theorem dX11_gcdLehmer_149 : decode cX11_gcdLehmer 149 = .ok (.ifCond .eq 107, 3) := by decide +kernel
theorem dX11_gcdLehmer_152 : decode cX11_gcdLehmer 152 = .ok (.lload 7, 2) := by decide +kernel
theorem dX11_gcdLehmer_154 : decode cX11_gcdLehmer 154 = .ok (.lload 15, 2) := by decide +kernel
theorem dX11_gcdLehmer_156 : decode cX11_gcdLehmer 156 = .ok (.ladd, 1) := by decide +kernel
theorem dX11_gcdLehmer_157 : decode cX11_gcdLehmer 157 = .ok (.lconst 0, 1) := by decide +kernel
theorem dX11_gcdLehmer_158 : decode cX11_gcdLehmer 158 = .ok (.lcmp, 1) := by decide +kernel
theorem dX11_gcdLehmer_159 : decode cX11_gcdLehmer 159 = .ok (.ifCond .eq 97, 3) := by decide +kernel
theorem dX11_gcdLehmer_162 : decode cX11_gcdLehmer 162 = .ok (.lload 5, 2) := by decide +kernel
theorem dX11_gcdLehmer_164 : decode cX11_gcdLehmer 164 = .ok (.lload 9, 2) := by decide +kernel
theorem dX11_gcdLehmer_166 : decode cX11_gcdLehmer 166 = .ok (.ladd, 1) := by decide +kernel
theorem dX11_gcdLehmer_167 : decode cX11_gcdLehmer 167 = .ok (.lload 7, 2) := by decide +kernel
theorem dX11_gcdLehmer_169 : decode cX11_gcdLehmer 169 = .ok (.lload 13, 2) := by decide +kernel
theorem dX11_gcdLehmer_171 : decode cX11_gcdLehmer 171 = .ok (.ladd, 1) := by decide +kernel
theorem dX11_gcdLehmer_172 : decode cX11_gcdLehmer 172 = .ok (.invokestatic 130, 3) := by decide +kernel
theorem dX11_gcdLehmer_175 : decode cX11_gcdLehmer 175 = .ok (.lstore 17, 2) := by decide +kernel
theorem dX11_gcdLehmer_177 : decode cX11_gcdLehmer 177 = .ok (.lload 17, 2) := by decide +kernel
theorem dX11_gcdLehmer_179 : decode cX11_gcdLehmer 179 = .ok (.lload 5, 2) := by decide +kernel
theorem dX11_gcdLehmer_181 : decode cX11_gcdLehmer 181 = .ok (.lload 11, 2) := by decide +kernel
theorem dX11_gcdLehmer_183 : decode cX11_gcdLehmer 183 = .ok (.ladd, 1) := by decide +kernel
theorem dX11_gcdLehmer_184 : decode cX11_gcdLehmer 184 = .ok (.lload 7, 2) := by decide +kernel
theorem dX11_gcdLehmer_186 : decode cX11_gcdLehmer 186 = .ok (.lload 15, 2) := by decide +kernel
theorem dX11_gcdLehmer_188 : decode cX11_gcdLehmer 188 = .ok (.ladd, 1) := by decide +kernel
theorem dX11_gcdLehmer_189 : decode cX11_gcdLehmer 189 = .ok (.invokestatic 130, 3) := by decide +kernel
theorem dX11_gcdLehmer_192 : decode cX11_gcdLehmer 192 = .ok (.lcmp, 1) := by decide +kernel
theorem dX11_gcdLehmer_193 : decode cX11_gcdLehmer 193 = .ok (.ifCond .eq 6, 3) := by decide +kernel
theorem dX11_gcdLehmer_196 : decode cX11_gcdLehmer 196 = .ok (.goto 60, 3) := by decide +kernel
theorem dX11_gcdLehmer_199 : decode cX11_gcdLehmer 199 = .ok (.lload 9, 2) := by decide +kernel
theorem dX11_gcdLehmer_201 : decode cX11_gcdLehmer 201 = .ok (.lload 17, 2) := by decide +kernel
theorem dX11_gcdLehmer_203 : decode cX11_gcdLehmer 203 = .ok (.lload 13, 2) := by decide +kernel
theorem dX11_gcdLehmer_205 : decode cX11_gcdLehmer 205 = .ok (.lmul, 1) := by decide +kernel
theorem dX11_gcdLehmer_206 : decode cX11_gcdLehmer 206 = .ok (.lsub, 1) := by decide +kernel
theorem dX11_gcdLehmer_207 : decode cX11_gcdLehmer 207 = .ok (.lstore 19, 2) := by decide +kernel
theorem dX11_gcdLehmer_209 : decode cX11_gcdLehmer 209 = .ok (.lload 13, 2) := by decide +kernel
theorem dX11_gcdLehmer_211 : decode cX11_gcdLehmer 211 = .ok (.lstore 9, 2) := by decide +kernel
theorem dX11_gcdLehmer_213 : decode cX11_gcdLehmer 213 = .ok (.lload 19, 2) := by decide +kernel
theorem dX11_gcdLehmer_215 : decode cX11_gcdLehmer 215 = .ok (.lstore 13, 2) := by decide +kernel
theorem dX11_gcdLehmer_217 : decode cX11_gcdLehmer 217 = .ok (.lload 11, 2) := by decide +kernel
theorem dX11_gcdLehmer_219 : decode cX11_gcdLehmer 219 = .ok (.lload 17, 2) := by decide +kernel
theorem dX11_gcdLehmer_221 : decode cX11_gcdLehmer 221 = .ok (.lload 15, 2) := by decide +kernel
theorem dX11_gcdLehmer_223 : decode cX11_gcdLehmer 223 = .ok (.lmul, 1) := by decide +kernel
theorem dX11_gcdLehmer_224 : decode cX11_gcdLehmer 224 = .ok (.lsub, 1) := by decide +kernel
theorem dX11_gcdLehmer_225 : decode cX11_gcdLehmer 225 = .ok (.lstore 19, 2) := by decide +kernel
theorem dX11_gcdLehmer_227 : decode cX11_gcdLehmer 227 = .ok (.lload 15, 2) := by decide +kernel
theorem dX11_gcdLehmer_229 : decode cX11_gcdLehmer 229 = .ok (.lstore 11, 2) := by decide +kernel
theorem dX11_gcdLehmer_231 : decode cX11_gcdLehmer 231 = .ok (.lload 19, 2) := by decide +kernel
theorem dX11_gcdLehmer_233 : decode cX11_gcdLehmer 233 = .ok (.lstore 15, 2) := by decide +kernel
theorem dX11_gcdLehmer_235 : decode cX11_gcdLehmer 235 = .ok (.lload 5, 2) := by decide +kernel
theorem dX11_gcdLehmer_237 : decode cX11_gcdLehmer 237 = .ok (.lload 17, 2) := by decide +kernel
theorem dX11_gcdLehmer_239 : decode cX11_gcdLehmer 239 = .ok (.lload 7, 2) := by decide +kernel
theorem dX11_gcdLehmer_241 : decode cX11_gcdLehmer 241 = .ok (.lmul, 1) := by decide +kernel
theorem dX11_gcdLehmer_242 : decode cX11_gcdLehmer 242 = .ok (.lsub, 1) := by decide +kernel
theorem dX11_gcdLehmer_243 : decode cX11_gcdLehmer 243 = .ok (.lstore 19, 2) := by decide +kernel
theorem dX11_gcdLehmer_245 : decode cX11_gcdLehmer 245 = .ok (.lload 7, 2) := by decide +kernel
theorem dX11_gcdLehmer_247 : decode cX11_gcdLehmer 247 = .ok (.lstore 5, 2) := by decide +kernel
end
section
theorem dX11_gcdLehmer_249 : decode cX11_gcdLehmer 249 = .ok (.lload 19, 2) := by decide +kernel
theorem dX11_gcdLehmer_251 : decode cX11_gcdLehmer 251 = .ok (.lstore 7, 2) := by decide +kernel
theorem dX11_gcdLehmer_253 : decode cX11_gcdLehmer 253 = .ok (.goto (-111), 3) := by decide +kernel
theorem dX11_gcdLehmer_256 : decode cX11_gcdLehmer 256 = .ok (.lload 11, 2) := by decide +kernel
theorem dX11_gcdLehmer_258 : decode cX11_gcdLehmer 258 = .ok (.lconst 0, 1) := by decide +kernel
theorem dX11_gcdLehmer_259 : decode cX11_gcdLehmer 259 = .ok (.lcmp, 1) := by decide +kernel
theorem dX11_gcdLehmer_260 : decode cX11_gcdLehmer 260 = .ok (.ifCond .ne 10, 3) := by decide +kernel
theorem dX11_gcdLehmer_263 : decode cX11_gcdLehmer 263 = .ok (.aload_n 0, 1) := by decide +kernel
theorem dX11_gcdLehmer_264 : decode cX11_gcdLehmer 264 = .ok (.invokevirtual 133, 3) := by decide +kernel
theorem dX11_gcdLehmer_267 : decode cX11_gcdLehmer 267 = .ok (.goto 39, 3) := by decide +kernel
theorem dX11_gcdLehmer_270 : decode cX11_gcdLehmer 270 = .ok (.aload_n 0, 1) := by decide +kernel
theorem dX11_gcdLehmer_271 : decode cX11_gcdLehmer 271 = .ok (.bipush 28, 2) := by decide +kernel
theorem dX11_gcdLehmer_273 : decode cX11_gcdLehmer 273 = .ok (.lload 9, 2) := by decide +kernel
theorem dX11_gcdLehmer_275 : decode cX11_gcdLehmer 275 = .ok (.lload 11, 2) := by decide +kernel
theorem dX11_gcdLehmer_277 : decode cX11_gcdLehmer 277 = .ok (.invokevirtual 136, 3) := by decide +kernel
theorem dX11_gcdLehmer_280 : decode cX11_gcdLehmer 280 = .ok (.aload_n 0, 1) := by decide +kernel
theorem dX11_gcdLehmer_281 : decode cX11_gcdLehmer 281 = .ok (.bipush 29, 2) := by decide +kernel
theorem dX11_gcdLehmer_283 : decode cX11_gcdLehmer 283 = .ok (.lload 13, 2) := by decide +kernel
theorem dX11_gcdLehmer_285 : decode cX11_gcdLehmer 285 = .ok (.lload 15, 2) := by decide +kernel
theorem dX11_gcdLehmer_287 : decode cX11_gcdLehmer 287 = .ok (.invokevirtual 136, 3) := by decide +kernel
theorem dX11_gcdLehmer_290 : decode cX11_gcdLehmer 290 = .ok (.aload_n 0, 1) := by decide +kernel
theorem dX11_gcdLehmer_291 : decode cX11_gcdLehmer 291 = .ok (.bipush 20, 2) := by decide +kernel
theorem dX11_gcdLehmer_293 : decode cX11_gcdLehmer 293 = .ok (.bipush 28, 2) := by decide +kernel
theorem dX11_gcdLehmer_295 : decode cX11_gcdLehmer 295 = .ok (.invokevirtual 45, 3) := by decide +kernel
theorem dX11_gcdLehmer_298 : decode cX11_gcdLehmer 298 = .ok (.aload_n 0, 1) := by decide +kernel
theorem dX11_gcdLehmer_299 : decode cX11_gcdLehmer 299 = .ok (.bipush 21, 2) := by decide +kernel
theorem dX11_gcdLehmer_301 : decode cX11_gcdLehmer 301 = .ok (.bipush 29, 2) := by decide +kernel
theorem dX11_gcdLehmer_303 : decode cX11_gcdLehmer 303 = .ok (.invokevirtual 45, 3) := by decide +kernel
theorem dX11_gcdLehmer_306 : decode cX11_gcdLehmer 306 = .ok (.goto (-221), 3) := by decide +kernel
theorem dX11_gcdLehmer_309 : decode cX11_gcdLehmer 309 = .ok (.aload_n 0, 1) := by decide +kernel
theorem dX11_gcdLehmer_310 : decode cX11_gcdLehmer 310 = .ok (.getfield 13, 3) := by decide +kernel
theorem dX11_gcdLehmer_313 : decode cX11_gcdLehmer 313 = .ok (.bipush 21, 2) := by decide +kernel
theorem dX11_gcdLehmer_315 : decode cX11_gcdLehmer 315 = .ok (.iaload, 1) := by decide +kernel
theorem dX11_gcdLehmer_316 : decode cX11_gcdLehmer 316 = .ok (.ifCond .le 18, 3) := by decide +kernel
theorem dX11_gcdLehmer_319 : decode cX11_gcdLehmer 319 = .ok (.aload_n 0, 1) := by decide +kernel
theorem dX11_gcdLehmer_320 : decode cX11_gcdLehmer 320 = .ok (.getfield 13, 3) := by decide +kernel
theorem dX11_gcdLehmer_323 : decode cX11_gcdLehmer 323 = .ok (.bipush 20, 2) := by decide +kernel
theorem dX11_gcdLehmer_325 : decode cX11_gcdLehmer 325 = .ok (.iaload, 1) := by decide +kernel
theorem dX11_gcdLehmer_326 : decode cX11_gcdLehmer 326 = .ok (.iconst 2, 1) := by decide +kernel
theorem dX11_gcdLehmer_327 : decode cX11_gcdLehmer 327 = .ok (.if_icmp .le 7, 3) := by decide +kernel
theorem dX11_gcdLehmer_330 : decode cX11_gcdLehmer 330 = .ok (.aload_n 0, 1) := by decide +kernel
theorem dX11_gcdLehmer_331 : decode cX11_gcdLehmer 331 = .ok (.invokevirtual 133, 3) := by decide +kernel
theorem dX11_gcdLehmer_334 : decode cX11_gcdLehmer 334 = .ok (.aload_n 0, 1) := by decide +kernel
theorem dX11_gcdLehmer_335 : decode cX11_gcdLehmer 335 = .ok (.invokevirtual 110, 3) := by decide +kernel
theorem dX11_gcdLehmer_338 : decode cX11_gcdLehmer 338 = .ok (.aload_n 0, 1) := by decide +kernel
theorem dX11_gcdLehmer_339 : decode cX11_gcdLehmer 339 = .ok (.iload_n 1, 1) := by decide +kernel
theorem dX11_gcdLehmer_340 : decode cX11_gcdLehmer 340 = .ok (.bipush 20, 2) := by decide +kernel
theorem dX11_gcdLehmer_342 : decode cX11_gcdLehmer 342 = .ok (.invokevirtual 45, 3) := by decide +kernel
theorem dX11_gcdLehmer_345 : decode cX11_gcdLehmer 345 = .ok (.iconst 0, 1) := by decide +kernel
theorem dX11_gcdLehmer_346 : decode cX11_gcdLehmer 346 = .ok (.ireturn, 1) := by decide +kernel
theorem dX11_lastSteps_0 : decode cX11_lastSteps 0 = .ok (.aload_n 0, 1) := by decide +kernel
theorem dX11_lastSteps_1 : decode cX11_lastSteps 1 = .ok (.iconst 0, 1) := by decide +kernel
theorem dX11_lastSteps_2 : decode cX11_lastSteps 2 = .ok (.putfield 33, 3) := by decide +kernel
theorem dX11_lastSteps_5 : decode cX11_lastSteps 5 = .ok (.aload_n 0, 1) := by decide +kernel
theorem dX11_lastSteps_6 : decode cX11_lastSteps 6 = .ok (.getfield 123, 3) := by decide +kernel
theorem dX11_lastSteps_9 : decode cX11_lastSteps 9 = .ok (.ireturn, 1) := by decide +kernel
theorem dX11_factors_0 : decode cX11_factors 0 = .ok (.aload_n 0, 1) := by decide +kernel
theorem dX11_factors_1 : decode cX11_factors 1 = .ok (.bipush 20, 2) := by decide +kernel
theorem dX11_factors_3 : decode cX11_factors 3 = .ok (.iload_n 1, 1) := by decide +kernel
theorem dX11_factors_4 : decode cX11_factors 4 = .ok (.invokevirtual 107, 3) := by decide +kernel
theorem dX11_factors_7 : decode cX11_factors 7 = .ok (.aload_n 0, 1) := by decide +kernel
theorem dX11_factors_8 : decode cX11_factors 8 = .ok (.bipush 21, 2) := by decide +kernel
theorem dX11_factors_10 : decode cX11_factors 10 = .ok (.iload_n 2, 1) := by decide +kernel
theorem dX11_factors_11 : decode cX11_factors 11 = .ok (.invokevirtual 107, 3) := by decide +kernel
theorem dX11_factors_14 : decode cX11_factors 14 = .ok (.aload_n 0, 1) := by decide +kernel
theorem dX11_factors_15 : decode cX11_factors 15 = .ok (.bipush 22, 2) := by decide +kernel
theorem dX11_factors_17 : decode cX11_factors 17 = .ok (.iconst 1, 1) := by decide +kernel
theorem dX11_factors_18 : decode cX11_factors 18 = .ok (.invokevirtual 56, 3) := by decide +kernel
theorem dX11_factors_21 : decode cX11_factors 21 = .ok (.aload_n 0, 1) := by decide +kernel
theorem dX11_factors_22 : decode cX11_factors 22 = .ok (.bipush 24, 2) := by decide +kernel
theorem dX11_factors_24 : decode cX11_factors 24 = .ok (.iconst 0, 1) := by decide +kernel
theorem dX11_factors_25 : decode cX11_factors 25 = .ok (.invokevirtual 56, 3) := by decide +kernel
theorem dX11_factors_28 : decode cX11_factors 28 = .ok (.aload_n 0, 1) := by decide +kernel
theorem dX11_factors_29 : decode cX11_factors 29 = .ok (.bipush 23, 2) := by decide +kernel
theorem dX11_factors_31 : decode cX11_factors 31 = .ok (.iconst 0, 1) := by decide +kernel
theorem dX11_factors_32 : decode cX11_factors 32 = .ok (.invokevirtual 56, 3) := by decide +kernel
theorem dX11_factors_35 : decode cX11_factors 35 = .ok (.aload_n 0, 1) := by decide +kernel
theorem dX11_factors_36 : decode cX11_factors 36 = .ok (.bipush 30, 2) := by decide +kernel
theorem dX11_factors_38 : decode cX11_factors 38 = .ok (.iconst 1, 1) := by decide +kernel
theorem dX11_factors_39 : decode cX11_factors 39 = .ok (.invokevirtual 56, 3) := by decide +kernel
theorem dX11_factors_42 : decode cX11_factors 42 = .ok (.aload_n 0, 1) := by decide +kernel
theorem dX11_factors_43 : decode cX11_factors 43 = .ok (.getfield 13, 3) := by decide +kernel
theorem dX11_factors_46 : decode cX11_factors 46 = .ok (.bipush 21, 2) := by decide +kernel
theorem dX11_factors_48 : decode cX11_factors 48 = .ok (.iaload, 1) := by decide +kernel
theorem dX11_factors_49 : decode cX11_factors 49 = .ok (.ifCond .le 108, 3) := by decide +kernel
theorem dX11_factors_52 : decode cX11_factors 52 = .ok (.aload_n 0, 1) := by decide +kernel
theorem dX11_factors_53 : decode cX11_factors 53 = .ok (.bipush 17, 2) := by decide +kernel
theorem dX11_factors_55 : decode cX11_factors 55 = .ok (.bipush 18, 2) := by decide +kernel
theorem dX11_factors_57 : decode cX11_factors 57 = .ok (.bipush 20, 2) := by decide +kernel
theorem dX11_factors_59 : decode cX11_factors 59 = .ok (.bipush 21, 2) := by decide +kernel
theorem dX11_factors_61 : decode cX11_factors 61 = .ok (.invokevirtual 68, 3) := by decide +kernel
theorem dX11_factors_64 : decode cX11_factors 64 = .ok (.aload_n 0, 1) := by decide +kernel
theorem dX11_factors_65 : decode cX11_factors 65 = .ok (.bipush 20, 2) := by decide +kernel
theorem dX11_factors_67 : decode cX11_factors 67 = .ok (.bipush 21, 2) := by decide +kernel
theorem dX11_factors_69 : decode cX11_factors 69 = .ok (.invokevirtual 45, 3) := by decide +kernel
theorem dX11_factors_72 : decode cX11_factors 72 = .ok (.aload_n 0, 1) := by decide +kernel
theorem dX11_factors_73 : decode cX11_factors 73 = .ok (.bipush 21, 2) := by decide +kernel
theorem dX11_factors_75 : decode cX11_factors 75 = .ok (.bipush 18, 2) := by decide +kernel
theorem dX11_factors_77 : decode cX11_factors 77 = .ok (.invokevirtual 45, 3) := by decide +kernel
theorem dX11_factors_80 : decode cX11_factors 80 = .ok (.aload_n 0, 1) := by decide +kernel
theorem dX11_factors_81 : decode cX11_factors 81 = .ok (.bipush 25, 2) := by decide +kernel
theorem dX11_factors_83 : decode cX11_factors 83 = .ok (.bipush 17, 2) := by decide +kernel
theorem dX11_factors_85 : decode cX11_factors 85 = .ok (.bipush 24, 2) := by decide +kernel
theorem dX11_factors_87 : decode cX11_factors 87 = .ok (.invokevirtual 84, 3) := by decide +kernel
theorem dX11_factors_90 : decode cX11_factors 90 = .ok (.aload_n 0, 1) := by decide +kernel
theorem dX11_factors_91 : decode cX11_factors 91 = .ok (.bipush 19, 2) := by decide +kernel
theorem dX11_factors_93 : decode cX11_factors 93 = .ok (.bipush 22, 2) := by decide +kernel
theorem dX11_factors_95 : decode cX11_factors 95 = .ok (.bipush 25, 2) := by decide +kernel
theorem dX11_factors_97 : decode cX11_factors 97 = .ok (.iconst (-1), 1) := by decide +kernel
theorem dX11_factors_98 : decode cX11_factors 98 = .ok (.invokevirtual 71, 3) := by decide +kernel
theorem dX11_factors_101 : decode cX11_factors 101 = .ok (.aload_n 0, 1) := by decide +kernel
theorem dX11_factors_102 : decode cX11_factors 102 = .ok (.bipush 22, 2) := by decide +kernel
theorem dX11_factors_104 : decode cX11_factors 104 = .ok (.bipush 24, 2) := by decide +kernel
theorem dX11_factors_106 : decode cX11_factors 106 = .ok (.invokevirtual 45, 3) := by decide +kernel
theorem dX11_factors_109 : decode cX11_factors 109 = .ok (.aload_n 0, 1) := by decide +kernel
theorem dX11_factors_110 : decode cX11_factors 110 = .ok (.bipush 24, 2) := by decide +kernel
theorem dX11_factors_112 : decode cX11_factors 112 = .ok (.bipush 19, 2) := by decide +kernel
theorem dX11_factors_114 : decode cX11_factors 114 = .ok (.invokevirtual 45, 3) := by decide +kernel
theorem dX11_factors_117 : decode cX11_factors 117 = .ok (.aload_n 0, 1) := by decide +kernel
theorem dX11_factors_118 : decode cX11_factors 118 = .ok (.bipush 25, 2) := by decide +kernel
theorem dX11_factors_120 : decode cX11_factors 120 = .ok (.bipush 17, 2) := by decide +kernel
theorem dX11_factors_122 : decode cX11_factors 122 = .ok (.bipush 30, 2) := by decide +kernel
theorem dX11_factors_124 : decode cX11_factors 124 = .ok (.invokevirtual 84, 3) := by decide +kernel
theorem dX11_factors_127 : decode cX11_factors 127 = .ok (.aload_n 0, 1) := by decide +kernel
theorem dX11_factors_128 : decode cX11_factors 128 = .ok (.bipush 19, 2) := by decide +kernel
theorem dX11_factors_130 : decode cX11_factors 130 = .ok (.bipush 23, 2) := by decide +kernel
theorem dX11_factors_132 : decode cX11_factors 132 = .ok (.bipush 25, 2) := by decide +kernel
theorem dX11_factors_134 : decode cX11_factors 134 = .ok (.iconst (-1), 1) := by decide +kernel
theorem dX11_factors_135 : decode cX11_factors 135 = .ok (.invokevirtual 71, 3) := by decide +kernel
theorem dX11_factors_138 : decode cX11_factors 138 = .ok (.aload_n 0, 1) := by decide +kernel
theorem dX11_factors_139 : decode cX11_factors 139 = .ok (.bipush 23, 2) := by decide +kernel
theorem dX11_factors_141 : decode cX11_factors 141 = .ok (.bipush 30, 2) := by decide +kernel
theorem dX11_factors_143 : decode cX11_factors 143 = .ok (.invokevirtual 45, 3) := by decide +kernel
theorem dX11_factors_146 : decode cX11_factors 146 = .ok (.aload_n 0, 1) := by decide +kernel
theorem dX11_factors_147 : decode cX11_factors 147 = .ok (.bipush 30, 2) := by decide +kernel
theorem dX11_factors_149 : decode cX11_factors 149 = .ok (.bipush 19, 2) := by decide +kernel
theorem dX11_factors_151 : decode cX11_factors 151 = .ok (.invokevirtual 45, 3) := by decide +kernel
theorem dX11_factors_154 : decode cX11_factors 154 = .ok (.goto (-112), 3) := by decide +kernel
theorem dX11_factors_157 : decode cX11_factors 157 = .ok (.aload_n 0, 1) := by decide +kernel
theorem dX11_factors_158 : decode cX11_factors 158 = .ok (.getfield 16, 3) := by decide +kernel
theorem dX11_factors_161 : decode cX11_factors 161 = .ok (.iload_n 1, 1) := by decide +kernel
theorem dX11_factors_162 : decode cX11_factors 162 = .ok (.iaload, 1) := by decide +kernel
theorem dX11_factors_163 : decode cX11_factors 163 = .ok (.ifCond .ge 18, 3) := by decide +kernel
theorem dX11_factors_166 : decode cX11_factors 166 = .ok (.aload_n 0, 1) := by decide +kernel
theorem dX11_factors_167 : decode cX11_factors 167 = .ok (.getfield 16, 3) := by decide +kernel
theorem dX11_factors_170 : decode cX11_factors 170 = .ok (.bipush 22, 2) := by decide +kernel
theorem dX11_factors_172 : decode cX11_factors 172 = .ok (.aload_n 0, 1) := by decide +kernel
theorem dX11_factors_173 : decode cX11_factors 173 = .ok (.getfield 16, 3) := by decide +kernel
theorem dX11_factors_176 : decode cX11_factors 176 = .ok (.bipush 22, 2) := by decide +kernel
theorem dX11_factors_178 : decode cX11_factors 178 = .ok (.iaload, 1) := by decide +kernel
theorem dX11_factors_179 : decode cX11_factors 179 = .ok (.ineg, 1) := by decide +kernel
theorem dX11_factors_180 : decode cX11_factors 180 = .ok (.iastore, 1) := by decide +kernel
theorem dX11_factors_181 : decode cX11_factors 181 = .ok (.aload_n 0, 1) := by decide +kernel
theorem dX11_factors_182 : decode cX11_factors 182 = .ok (.getfield 16, 3) := by decide +kernel
theorem dX11_factors_185 : decode cX11_factors 185 = .ok (.iload_n 2, 1) := by decide +kernel
theorem dX11_factors_186 : decode cX11_factors 186 = .ok (.iaload, 1) := by decide +kernel
theorem dX11_factors_187 : decode cX11_factors 187 = .ok (.ifCond .ge 18, 3) := by decide +kernel
theorem dX11_factors_190 : decode cX11_factors 190 = .ok (.aload_n 0, 1) := by decide +kernel
theorem dX11_factors_191 : decode cX11_factors 191 = .ok (.getfield 16, 3) := by decide +kernel
theorem dX11_factors_194 : decode cX11_factors 194 = .ok (.bipush 23, 2) := by decide +kernel
theorem dX11_factors_196 : decode cX11_factors 196 = .ok (.aload_n 0, 1) := by decide +kernel
theorem dX11_factors_197 : decode cX11_factors 197 = .ok (.getfield 16, 3) := by decide +kernel
theorem dX11_factors_200 : decode cX11_factors 200 = .ok (.bipush 23, 2) := by decide +kernel
theorem dX11_factors_202 : decode cX11_factors 202 = .ok (.iaload, 1) := by decide +kernel
theorem dX11_factors_203 : decode cX11_factors 203 = .ok (.ineg, 1) := by decide +kernel
theorem dX11_factors_204 : decode cX11_factors 204 = .ok (.iastore, 1) := by decide +kernel
theorem dX11_factors_205 : decode cX11_factors 205 = .ok (.return_, 1) := by decide +kernel
theorem dX11_bezout_0 : decode cX11_bezout 0 = .ok (.aload_n 0, 1) := by decide +kernel
theorem dX11_bezout_1 : decode cX11_bezout 1 = .ok (.iconst 0, 1) := by decide +kernel
theorem dX11_bezout_2 : decode cX11_bezout 2 = .ok (.putfield 33, 3) := by decide +kernel
theorem dX11_bezout_5 : decode cX11_bezout 5 = .ok (.aload_n 0, 1) := by decide +kernel
theorem dX11_bezout_6 : decode cX11_bezout 6 = .ok (.iload_n 1, 1) := by decide +kernel
theorem dX11_bezout_7 : decode cX11_bezout 7 = .ok (.invokevirtual 78, 3) := by decide +kernel
theorem dX11_bezout_10 : decode cX11_bezout 10 = .ok (.ifCond .ne 52, 3) := by decide +kernel
theorem dX11_bezout_13 : decode cX11_bezout 13 = .ok (.aload_n 0, 1) := by decide +kernel
theorem dX11_bezout_14 : decode cX11_bezout 14 = .ok (.iload_n 2, 1) := by decide +kernel
theorem dX11_bezout_15 : decode cX11_bezout 15 = .ok (.invokevirtual 78, 3) := by decide +kernel
theorem dX11_bezout_18 : decode cX11_bezout 18 = .ok (.ifCond .ne 44, 3) := by decide +kernel
theorem dX11_bezout_21 : decode cX11_bezout 21 = .ok (.aload_n 0, 1) := by decide +kernel
theorem dX11_bezout_22 : decode cX11_bezout 22 = .ok (.iload_n 3, 1) := by decide +kernel
theorem dX11_bezout_23 : decode cX11_bezout 23 = .ok (.invokevirtual 78, 3) := by decide +kernel
theorem dX11_bezout_26 : decode cX11_bezout 26 = .ok (.ifCond .ne 36, 3) := by decide +kernel
theorem dX11_bezout_29 : decode cX11_bezout 29 = .ok (.aload_n 0, 1) := by decide +kernel
theorem dX11_bezout_30 : decode cX11_bezout 30 = .ok (.iload 4, 2) := by decide +kernel
theorem dX11_bezout_32 : decode cX11_bezout 32 = .ok (.invokevirtual 78, 3) := by decide +kernel
theorem dX11_bezout_35 : decode cX11_bezout 35 = .ok (.ifCond .ne 27, 3) := by decide +kernel
theorem dX11_bezout_38 : decode cX11_bezout 38 = .ok (.aload_n 0, 1) := by decide +kernel
theorem dX11_bezout_39 : decode cX11_bezout 39 = .ok (.iload 5, 2) := by decide +kernel
theorem dX11_bezout_41 : decode cX11_bezout 41 = .ok (.invokevirtual 78, 3) := by decide +kernel
theorem dX11_bezout_44 : decode cX11_bezout 44 = .ok (.ifCond .ne 18, 3) := by decide +kernel
theorem dX11_bezout_47 : decode cX11_bezout 47 = .ok (.iload_n 1, 1) := by decide +kernel
theorem dX11_bezout_48 : decode cX11_bezout 48 = .ok (.iload_n 2, 1) := by decide +kernel
theorem dX11_bezout_49 : decode cX11_bezout 49 = .ok (.if_icmp .eq 13, 3) := by decide +kernel
theorem dX11_bezout_52 : decode cX11_bezout 52 = .ok (.iload_n 1, 1) := by decide +kernel
theorem dX11_bezout_53 : decode cX11_bezout 53 = .ok (.iload_n 3, 1) := by decide +kernel
theorem dX11_bezout_54 : decode cX11_bezout 54 = .ok (.if_icmp .eq 8, 3) := by decide +kernel
theorem dX11_bezout_57 : decode cX11_bezout 57 = .ok (.iload_n 2, 1) := by decide +kernel
theorem dX11_bezout_58 : decode cX11_bezout 58 = .ok (.iload_n 3, 1) := by decide +kernel
theorem dX11_bezout_59 : decode cX11_bezout 59 = .ok (.if_icmp .ne 5, 3) := by decide +kernel
theorem dX11_bezout_62 : decode cX11_bezout 62 = .ok (.iconst 3, 1) := by decide +kernel
theorem dX11_bezout_63 : decode cX11_bezout 63 = .ok (.ireturn, 1) := by decide +kernel
theorem dX11_bezout_64 : decode cX11_bezout 64 = .ok (.aload_n 0, 1) := by decide +kernel
theorem dX11_bezout_65 : decode cX11_bezout 65 = .ok (.iload 4, 2) := by decide +kernel
theorem dX11_bezout_67 : decode cX11_bezout 67 = .ok (.iload 5, 2) := by decide +kernel
theorem dX11_bezout_69 : decode cX11_bezout 69 = .ok (.invokevirtual 140, 3) := by decide +kernel
theorem dX11_bezout_72 : decode cX11_bezout 72 = .ok (.aload_n 0, 1) := by decide +kernel
theorem dX11_bezout_73 : decode cX11_bezout 73 = .ok (.bipush 20, 2) := by decide +kernel
theorem dX11_bezout_75 : decode cX11_bezout 75 = .ok (.invokevirtual 74, 3) := by decide +kernel
theorem dX11_bezout_78 : decode cX11_bezout 78 = .ok (.ifCond .eq 21, 3) := by decide +kernel
theorem dX11_bezout_81 : decode cX11_bezout 81 = .ok (.aload_n 0, 1) := by decide +kernel
theorem dX11_bezout_82 : decode cX11_bezout 82 = .ok (.bipush 22, 2) := by decide +kernel
theorem dX11_bezout_84 : decode cX11_bezout 84 = .ok (.invokevirtual 74, 3) := by decide +kernel
theorem dX11_bezout_87 : decode cX11_bezout 87 = .ok (.ifCond .eq 12, 3) := by decide +kernel
theorem dX11_bezout_90 : decode cX11_bezout 90 = .ok (.aload_n 0, 1) := by decide +kernel
theorem dX11_bezout_91 : decode cX11_bezout 91 = .ok (.bipush 23, 2) := by decide +kernel
theorem dX11_bezout_93 : decode cX11_bezout 93 = .ok (.invokevirtual 74, 3) := by decide +kernel
theorem dX11_bezout_96 : decode cX11_bezout 96 = .ok (.ifCond .ne 5, 3) := by decide +kernel
theorem dX11_bezout_99 : decode cX11_bezout 99 = .ok (.iconst 1, 1) := by decide +kernel
theorem dX11_bezout_100 : decode cX11_bezout 100 = .ok (.ireturn, 1) := by decide +kernel
theorem dX11_bezout_101 : decode cX11_bezout 101 = .ok (.aload_n 0, 1) := by decide +kernel
theorem dX11_bezout_102 : decode cX11_bezout 102 = .ok (.iload_n 1, 1) := by decide +kernel
theorem dX11_bezout_103 : decode cX11_bezout 103 = .ok (.bipush 20, 2) := by decide +kernel
theorem dX11_bezout_105 : decode cX11_bezout 105 = .ok (.invokevirtual 45, 3) := by decide +kernel
theorem dX11_bezout_108 : decode cX11_bezout 108 = .ok (.aload_n 0, 1) := by decide +kernel
theorem dX11_bezout_109 : decode cX11_bezout 109 = .ok (.iload_n 2, 1) := by decide +kernel
theorem dX11_bezout_110 : decode cX11_bezout 110 = .ok (.bipush 22, 2) := by decide +kernel
theorem dX11_bezout_112 : decode cX11_bezout 112 = .ok (.invokevirtual 45, 3) := by decide +kernel
theorem dX11_bezout_115 : decode cX11_bezout 115 = .ok (.aload_n 0, 1) := by decide +kernel
theorem dX11_bezout_116 : decode cX11_bezout 116 = .ok (.iload_n 3, 1) := by decide +kernel
theorem dX11_bezout_117 : decode cX11_bezout 117 = .ok (.bipush 23, 2) := by decide +kernel
theorem dX11_bezout_119 : decode cX11_bezout 119 = .ok (.invokevirtual 45, 3) := by decide +kernel
theorem dX11_bezout_122 : decode cX11_bezout 122 = .ok (.iconst 0, 1) := by decide +kernel
theorem dX11_bezout_123 : decode cX11_bezout 123 = .ok (.ireturn, 1) := by decide +kernel
theorem dX11_inverse_0 : decode cX11_inverse 0 = .ok (.aload_n 0, 1) := by decide +kernel
theorem dX11_inverse_1 : decode cX11_inverse 1 = .ok (.iconst 0, 1) := by decide +kernel
theorem dX11_inverse_2 : decode cX11_inverse 2 = .ok (.putfield 33, 3) := by decide +kernel
theorem dX11_inverse_5 : decode cX11_inverse 5 = .ok (.aload_n 0, 1) := by decide +kernel
theorem dX11_inverse_6 : decode cX11_inverse 6 = .ok (.iload_n 1, 1) := by decide +kernel
theorem dX11_inverse_7 : decode cX11_inverse 7 = .ok (.invokevirtual 78, 3) := by decide +kernel
theorem dX11_inverse_10 : decode cX11_inverse 10 = .ok (.ifCond .ne 19, 3) := by decide +kernel
theorem dX11_inverse_13 : decode cX11_inverse 13 = .ok (.aload_n 0, 1) := by decide +kernel
theorem dX11_inverse_14 : decode cX11_inverse 14 = .ok (.iload_n 2, 1) := by decide +kernel
theorem dX11_inverse_15 : decode cX11_inverse 15 = .ok (.invokevirtual 78, 3) := by decide +kernel
theorem dX11_inverse_18 : decode cX11_inverse 18 = .ok (.ifCond .ne 11, 3) := by decide +kernel
theorem dX11_inverse_21 : decode cX11_inverse 21 = .ok (.aload_n 0, 1) := by decide +kernel
theorem dX11_inverse_22 : decode cX11_inverse 22 = .ok (.iload_n 3, 1) := by decide +kernel
theorem dX11_inverse_23 : decode cX11_inverse 23 = .ok (.invokevirtual 78, 3) := by decide +kernel
theorem dX11_inverse_26 : decode cX11_inverse 26 = .ok (.ifCond .eq 5, 3) := by decide +kernel
theorem dX11_inverse_29 : decode cX11_inverse 29 = .ok (.iconst 3, 1) := by decide +kernel
theorem dX11_inverse_30 : decode cX11_inverse 30 = .ok (.ireturn, 1) := by decide +kernel
theorem dX11_inverse_31 : decode cX11_inverse 31 = .ok (.aload_n 0, 1) := by decide +kernel
theorem dX11_inverse_32 : decode cX11_inverse 32 = .ok (.getfield 16, 3) := by decide +kernel
theorem dX11_inverse_35 : decode cX11_inverse 35 = .ok (.iload_n 3, 1) := by decide +kernel
theorem dX11_inverse_36 : decode cX11_inverse 36 = .ok (.iaload, 1) := by decide +kernel
theorem dX11_inverse_37 : decode cX11_inverse 37 = .ok (.iconst 1, 1) := by decide +kernel
theorem dX11_inverse_38 : decode cX11_inverse 38 = .ok (.if_icmp .ge 5, 3) := by decide +kernel
theorem dX11_inverse_41 : decode cX11_inverse 41 = .ok (.iconst 2, 1) := by decide +kernel
theorem dX11_inverse_42 : decode cX11_inverse 42 = .ok (.ireturn, 1) := by decide +kernel
theorem dX11_inverse_43 : decode cX11_inverse 43 = .ok (.aload_n 0, 1) := by decide +kernel
theorem dX11_inverse_44 : decode cX11_inverse 44 = .ok (.bipush 17, 2) := by decide +kernel
theorem dX11_inverse_46 : decode cX11_inverse 46 = .ok (.bipush 27, 2) := by decide +kernel
theorem dX11_inverse_48 : decode cX11_inverse 48 = .ok (.iload_n 2, 1) := by decide +kernel
theorem dX11_inverse_49 : decode cX11_inverse 49 = .ok (.iload_n 3, 1) := by decide +kernel
theorem dX11_inverse_50 : decode cX11_inverse 50 = .ok (.invokevirtual 87, 3) := by decide +kernel
theorem dX11_inverse_53 : decode cX11_inverse 53 = .ok (.aload_n 0, 1) := by decide +kernel
theorem dX11_inverse_54 : decode cX11_inverse 54 = .ok (.bipush 26, 2) := by decide +kernel
theorem dX11_inverse_56 : decode cX11_inverse 56 = .ok (.bipush 27, 2) := by decide +kernel
theorem dX11_inverse_58 : decode cX11_inverse 58 = .ok (.invokevirtual 45, 3) := by decide +kernel
theorem dX11_inverse_61 : decode cX11_inverse 61 = .ok (.aload_n 0, 1) := by decide +kernel
theorem dX11_inverse_62 : decode cX11_inverse 62 = .ok (.bipush 28, 2) := by decide +kernel
theorem dX11_inverse_64 : decode cX11_inverse 64 = .ok (.iload_n 3, 1) := by decide +kernel
theorem dX11_inverse_65 : decode cX11_inverse 65 = .ok (.invokevirtual 45, 3) := by decide +kernel
theorem dX11_inverse_68 : decode cX11_inverse 68 = .ok (.aload_n 0, 1) := by decide +kernel
theorem dX11_inverse_69 : decode cX11_inverse 69 = .ok (.bipush 26, 2) := by decide +kernel
theorem dX11_inverse_71 : decode cX11_inverse 71 = .ok (.bipush 28, 2) := by decide +kernel
theorem dX11_inverse_73 : decode cX11_inverse 73 = .ok (.invokevirtual 140, 3) := by decide +kernel
theorem dX11_inverse_76 : decode cX11_inverse 76 = .ok (.aload_n 0, 1) := by decide +kernel
theorem dX11_inverse_77 : decode cX11_inverse 77 = .ok (.getfield 13, 3) := by decide +kernel
theorem dX11_inverse_80 : decode cX11_inverse 80 = .ok (.bipush 20, 2) := by decide +kernel
theorem dX11_inverse_82 : decode cX11_inverse 82 = .ok (.iaload, 1) := by decide +kernel
theorem dX11_inverse_83 : decode cX11_inverse 83 = .ok (.iconst 1, 1) := by decide +kernel
theorem dX11_inverse_84 : decode cX11_inverse 84 = .ok (.if_icmp .ne 15, 3) := by decide +kernel
theorem dX11_inverse_87 : decode cX11_inverse 87 = .ok (.aload_n 0, 1) := by decide +kernel
theorem dX11_inverse_88 : decode cX11_inverse 88 = .ok (.getfield 7, 3) := by decide +kernel
theorem dX11_inverse_91 : decode cX11_inverse 91 = .ok (.sipush 5200, 3) := by decide +kernel
theorem dX11_inverse_94 : decode cX11_inverse 94 = .ok (.iaload, 1) := by decide +kernel
theorem dX11_inverse_95 : decode cX11_inverse 95 = .ok (.iconst 1, 1) := by decide +kernel
theorem dX11_inverse_96 : decode cX11_inverse 96 = .ok (.if_icmp .eq 5, 3) := by decide +kernel
theorem dX11_inverse_99 : decode cX11_inverse 99 = .ok (.iconst 2, 1) := by decide +kernel
theorem dX11_inverse_100 : decode cX11_inverse 100 = .ok (.ireturn, 1) := by decide +kernel
theorem dX11_inverse_101 : decode cX11_inverse 101 = .ok (.aload_n 0, 1) := by decide +kernel
theorem dX11_inverse_102 : decode cX11_inverse 102 = .ok (.bipush 17, 2) := by decide +kernel
theorem dX11_inverse_104 : decode cX11_inverse 104 = .ok (.bipush 27, 2) := by decide +kernel
theorem dX11_inverse_106 : decode cX11_inverse 106 = .ok (.bipush 22, 2) := by decide +kernel
theorem dX11_inverse_108 : decode cX11_inverse 108 = .ok (.bipush 28, 2) := by decide +kernel
theorem dX11_inverse_110 : decode cX11_inverse 110 = .ok (.invokevirtual 87, 3) := by decide +kernel
theorem dX11_inverse_113 : decode cX11_inverse 113 = .ok (.aload_n 0, 1) := by decide +kernel
theorem dX11_inverse_114 : decode cX11_inverse 114 = .ok (.iload_n 1, 1) := by decide +kernel
theorem dX11_inverse_115 : decode cX11_inverse 115 = .ok (.bipush 27, 2) := by decide +kernel
theorem dX11_inverse_117 : decode cX11_inverse 117 = .ok (.invokevirtual 45, 3) := by decide +kernel
theorem dX11_inverse_120 : decode cX11_inverse 120 = .ok (.iconst 0, 1) := by decide +kernel
theorem dX11_inverse_121 : decode cX11_inverse 121 = .ok (.ireturn, 1) := by decide +kernel
theorem dX11_power_0 : decode cX11_power 0 = .ok (.aload_n 0, 1) := by decide +kernel
theorem dX11_power_1 : decode cX11_power 1 = .ok (.iconst 0, 1) := by decide +kernel
theorem dX11_power_2 : decode cX11_power 2 = .ok (.putfield 33, 3) := by decide +kernel
theorem dX11_power_5 : decode cX11_power 5 = .ok (.aload_n 0, 1) := by decide +kernel
theorem dX11_power_6 : decode cX11_power 6 = .ok (.iload_n 1, 1) := by decide +kernel
theorem dX11_power_7 : decode cX11_power 7 = .ok (.invokevirtual 78, 3) := by decide +kernel
theorem dX11_power_10 : decode cX11_power 10 = .ok (.ifCond .ne 28, 3) := by decide +kernel
theorem dX11_power_13 : decode cX11_power 13 = .ok (.aload_n 0, 1) := by decide +kernel
theorem dX11_power_14 : decode cX11_power 14 = .ok (.iload_n 2, 1) := by decide +kernel
theorem dX11_power_15 : decode cX11_power 15 = .ok (.invokevirtual 78, 3) := by decide +kernel
theorem dX11_power_18 : decode cX11_power 18 = .ok (.ifCond .ne 20, 3) := by decide +kernel
theorem dX11_power_21 : decode cX11_power 21 = .ok (.aload_n 0, 1) := by decide +kernel
theorem dX11_power_22 : decode cX11_power 22 = .ok (.iload_n 3, 1) := by decide +kernel
theorem dX11_power_23 : decode cX11_power 23 = .ok (.invokevirtual 78, 3) := by decide +kernel
theorem dX11_power_26 : decode cX11_power 26 = .ok (.ifCond .ne 12, 3) := by decide +kernel
theorem dX11_power_29 : decode cX11_power 29 = .ok (.aload_n 0, 1) := by decide +kernel
theorem dX11_power_30 : decode cX11_power 30 = .ok (.iload 4, 2) := by decide +kernel
theorem dX11_power_32 : decode cX11_power 32 = .ok (.invokevirtual 78, 3) := by decide +kernel
theorem dX11_power_35 : decode cX11_power 35 = .ok (.ifCond .eq 5, 3) := by decide +kernel
theorem dX11_power_38 : decode cX11_power 38 = .ok (.iconst 3, 1) := by decide +kernel
theorem dX11_power_39 : decode cX11_power 39 = .ok (.ireturn, 1) := by decide +kernel
theorem dX11_power_40 : decode cX11_power 40 = .ok (.aload_n 0, 1) := by decide +kernel
theorem dX11_power_41 : decode cX11_power 41 = .ok (.getfield 16, 3) := by decide +kernel
theorem dX11_power_44 : decode cX11_power 44 = .ok (.iload_n 3, 1) := by decide +kernel
theorem dX11_power_45 : decode cX11_power 45 = .ok (.iaload, 1) := by decide +kernel
theorem dX11_power_46 : decode cX11_power 46 = .ok (.ifCond .lt 14, 3) := by decide +kernel
theorem dX11_power_49 : decode cX11_power 49 = .ok (.aload_n 0, 1) := by decide +kernel
theorem dX11_power_50 : decode cX11_power 50 = .ok (.getfield 16, 3) := by decide +kernel
theorem dX11_power_53 : decode cX11_power 53 = .ok (.iload 4, 2) := by decide +kernel
theorem dX11_power_55 : decode cX11_power 55 = .ok (.iaload, 1) := by decide +kernel
theorem dX11_power_56 : decode cX11_power 56 = .ok (.iconst 1, 1) := by decide +kernel
theorem dX11_power_57 : decode cX11_power 57 = .ok (.if_icmp .ge 5, 3) := by decide +kernel
theorem dX11_power_60 : decode cX11_power 60 = .ok (.iconst 2, 1) := by decide +kernel
theorem dX11_power_61 : decode cX11_power 61 = .ok (.ireturn, 1) := by decide +kernel
theorem dX11_power_62 : decode cX11_power 62 = .ok (.aload_n 0, 1) := by decide +kernel
theorem dX11_power_63 : decode cX11_power 63 = .ok (.bipush 17, 2) := by decide +kernel
theorem dX11_power_65 : decode cX11_power 65 = .ok (.bipush 27, 2) := by decide +kernel
theorem dX11_power_67 : decode cX11_power 67 = .ok (.iload_n 2, 1) := by decide +kernel
theorem dX11_power_68 : decode cX11_power 68 = .ok (.iload 4, 2) := by decide +kernel
theorem dX11_power_70 : decode cX11_power 70 = .ok (.invokevirtual 87, 3) := by decide +kernel
theorem dX11_power_73 : decode cX11_power 73 = .ok (.aload_n 0, 1) := by decide +kernel
theorem dX11_power_74 : decode cX11_power 74 = .ok (.bipush 26, 2) := by decide +kernel
theorem dX11_power_76 : decode cX11_power 76 = .ok (.iconst 1, 1) := by decide +kernel
theorem dX11_power_77 : decode cX11_power 77 = .ok (.invokevirtual 56, 3) := by decide +kernel
theorem dX11_power_80 : decode cX11_power 80 = .ok (.aload_n 0, 1) := by decide +kernel
theorem dX11_power_81 : decode cX11_power 81 = .ok (.bipush 17, 2) := by decide +kernel
theorem dX11_power_83 : decode cX11_power 83 = .ok (.bipush 18, 2) := by decide +kernel
theorem dX11_power_85 : decode cX11_power 85 = .ok (.bipush 26, 2) := by decide +kernel
theorem dX11_power_87 : decode cX11_power 87 = .ok (.iload 4, 2) := by decide +kernel
theorem dX11_power_89 : decode cX11_power 89 = .ok (.invokevirtual 68, 3) := by decide +kernel
theorem dX11_power_92 : decode cX11_power 92 = .ok (.aload_n 0, 1) := by decide +kernel
theorem dX11_power_93 : decode cX11_power 93 = .ok (.bipush 26, 2) := by decide +kernel
theorem dX11_power_95 : decode cX11_power 95 = .ok (.bipush 18, 2) := by decide +kernel
theorem dX11_power_97 : decode cX11_power 97 = .ok (.invokevirtual 45, 3) := by decide +kernel
theorem dX11_power_100 : decode cX11_power 100 = .ok (.aload_n 0, 1) := by decide +kernel
theorem dX11_power_101 : decode cX11_power 101 = .ok (.iload_n 3, 1) := by decide +kernel
theorem dX11_power_102 : decode cX11_power 102 = .ok (.invokevirtual 90, 3) := by decide +kernel
theorem dX11_power_105 : decode cX11_power 105 = .ok (.iconst 1, 1) := by decide +kernel
theorem dX11_power_106 : decode cX11_power 106 = .ok (.isub, 1) := by decide +kernel
theorem dX11_power_107 : decode cX11_power 107 = .ok (.istore 5, 2) := by decide +kernel
theorem dX11_power_109 : decode cX11_power 109 = .ok (.iload 5, 2) := by decide +kernel
theorem dX11_power_111 : decode cX11_power 111 = .ok (.ifCond .lt 66, 3) := by decide +kernel
theorem dX11_power_114 : decode cX11_power 114 = .ok (.aload_n 0, 1) := by decide +kernel
theorem dX11_power_115 : decode cX11_power 115 = .ok (.bipush 25, 2) := by decide +kernel
theorem dX11_power_117 : decode cX11_power 117 = .ok (.bipush 26, 2) := by decide +kernel
theorem dX11_power_119 : decode cX11_power 119 = .ok (.bipush 26, 2) := by decide +kernel
theorem dX11_power_121 : decode cX11_power 121 = .ok (.invokevirtual 84, 3) := by decide +kernel
theorem dX11_power_124 : decode cX11_power 124 = .ok (.aload_n 0, 1) := by decide +kernel
theorem dX11_power_125 : decode cX11_power 125 = .ok (.bipush 17, 2) := by decide +kernel
theorem dX11_power_127 : decode cX11_power 127 = .ok (.bipush 26, 2) := by decide +kernel
theorem dX11_power_129 : decode cX11_power 129 = .ok (.bipush 25, 2) := by decide +kernel
theorem dX11_power_131 : decode cX11_power 131 = .ok (.iload 4, 2) := by decide +kernel
theorem dX11_power_133 : decode cX11_power 133 = .ok (.invokevirtual 68, 3) := by decide +kernel
theorem dX11_power_136 : decode cX11_power 136 = .ok (.aload_n 0, 1) := by decide +kernel
theorem dX11_power_137 : decode cX11_power 137 = .ok (.iload_n 3, 1) := by decide +kernel
theorem dX11_power_138 : decode cX11_power 138 = .ok (.iload 5, 2) := by decide +kernel
theorem dX11_power_140 : decode cX11_power 140 = .ok (.invokevirtual 100, 3) := by decide +kernel
theorem dX11_power_143 : decode cX11_power 143 = .ok (.ifCond .ne 6, 3) := by decide +kernel
theorem dX11_power_146 : decode cX11_power 146 = .ok (.goto 25, 3) := by decide +kernel
theorem dX11_power_149 : decode cX11_power 149 = .ok (.aload_n 0, 1) := by decide +kernel
theorem dX11_power_150 : decode cX11_power 150 = .ok (.bipush 25, 2) := by decide +kernel
theorem dX11_power_152 : decode cX11_power 152 = .ok (.bipush 26, 2) := by decide +kernel
theorem dX11_power_154 : decode cX11_power 154 = .ok (.bipush 27, 2) := by decide +kernel
theorem dX11_power_156 : decode cX11_power 156 = .ok (.invokevirtual 84, 3) := by decide +kernel
theorem dX11_power_159 : decode cX11_power 159 = .ok (.aload_n 0, 1) := by decide +kernel
theorem dX11_power_160 : decode cX11_power 160 = .ok (.bipush 17, 2) := by decide +kernel
theorem dX11_power_162 : decode cX11_power 162 = .ok (.bipush 26, 2) := by decide +kernel
theorem dX11_power_164 : decode cX11_power 164 = .ok (.bipush 25, 2) := by decide +kernel
theorem dX11_power_166 : decode cX11_power 166 = .ok (.iload 4, 2) := by decide +kernel
theorem dX11_power_168 : decode cX11_power 168 = .ok (.invokevirtual 68, 3) := by decide +kernel
theorem dX11_power_171 : decode cX11_power 171 = .ok (.iinc 5 (-1), 3) := by decide +kernel
theorem dX11_power_174 : decode cX11_power 174 = .ok (.goto (-65), 3) := by decide +kernel
theorem dX11_power_177 : decode cX11_power 177 = .ok (.aload_n 0, 1) := by decide +kernel
theorem dX11_power_178 : decode cX11_power 178 = .ok (.iload_n 1, 1) := by decide +kernel
theorem dX11_power_179 : decode cX11_power 179 = .ok (.bipush 26, 2) := by decide +kernel
theorem dX11_power_181 : decode cX11_power 181 = .ok (.invokevirtual 45, 3) := by decide +kernel
theorem dX11_power_184 : decode cX11_power 184 = .ok (.iconst 0, 1) := by decide +kernel
theorem dX11_power_185 : decode cX11_power 185 = .ok (.ireturn, 1) := by decide +kernel
theorem dX11_isLow_0 : decode cX11_isLow 0 = .ok (.aload_n 0, 1) := by decide +kernel
theorem dX11_isLow_1 : decode cX11_isLow 1 = .ok (.bipush 25, 2) := by decide +kernel
theorem dX11_isLow_3 : decode cX11_isLow 3 = .ok (.iconst 1, 1) := by decide +kernel
theorem dX11_isLow_4 : decode cX11_isLow 4 = .ok (.invokevirtual 56, 3) := by decide +kernel
theorem dX11_isLow_7 : decode cX11_isLow 7 = .ok (.iconst 0, 1) := by decide +kernel
theorem dX11_isLow_8 : decode cX11_isLow 8 = .ok (.istore_n 2, 1) := by decide +kernel
theorem dX11_isLow_9 : decode cX11_isLow 9 = .ok (.iload_n 2, 1) := by decide +kernel
theorem dX11_isLow_10 : decode cX11_isLow 10 = .ok (.iload_n 1, 1) := by decide +kernel
theorem dX11_isLow_11 : decode cX11_isLow 11 = .ok (.if_icmp .ge 40, 3) := by decide +kernel
theorem dX11_isLow_14 : decode cX11_isLow 14 = .ok (.aload_n 0, 1) := by decide +kernel
theorem dX11_isLow_15 : decode cX11_isLow 15 = .ok (.bipush 19, 2) := by decide +kernel
theorem dX11_isLow_17 : decode cX11_isLow 17 = .ok (.bipush 25, 2) := by decide +kernel
theorem dX11_isLow_19 : decode cX11_isLow 19 = .ok (.bipush 27, 2) := by decide +kernel
theorem dX11_isLow_21 : decode cX11_isLow 21 = .ok (.invokevirtual 84, 3) := by decide +kernel
theorem dX11_isLow_24 : decode cX11_isLow 24 = .ok (.aload_n 0, 1) := by decide +kernel
theorem dX11_isLow_25 : decode cX11_isLow 25 = .ok (.bipush 19, 2) := by decide +kernel
theorem dX11_isLow_27 : decode cX11_isLow 27 = .ok (.bipush 26, 2) := by decide +kernel
theorem dX11_isLow_29 : decode cX11_isLow 29 = .ok (.invokevirtual 53, 3) := by decide +kernel
theorem dX11_isLow_32 : decode cX11_isLow 32 = .ok (.ifCond .le 5, 3) := by decide +kernel
theorem dX11_isLow_35 : decode cX11_isLow 35 = .ok (.iconst 0, 1) := by decide +kernel
theorem dX11_isLow_36 : decode cX11_isLow 36 = .ok (.ireturn, 1) := by decide +kernel
theorem dX11_isLow_37 : decode cX11_isLow 37 = .ok (.aload_n 0, 1) := by decide +kernel
theorem dX11_isLow_38 : decode cX11_isLow 38 = .ok (.bipush 25, 2) := by decide +kernel
theorem dX11_isLow_40 : decode cX11_isLow 40 = .ok (.bipush 19, 2) := by decide +kernel
theorem dX11_isLow_42 : decode cX11_isLow 42 = .ok (.invokevirtual 45, 3) := by decide +kernel
theorem dX11_isLow_45 : decode cX11_isLow 45 = .ok (.iinc 2 1, 3) := by decide +kernel
theorem dX11_isLow_48 : decode cX11_isLow 48 = .ok (.goto (-39), 3) := by decide +kernel
theorem dX11_isLow_51 : decode cX11_isLow 51 = .ok (.iconst 1, 1) := by decide +kernel
theorem dX11_isLow_52 : decode cX11_isLow 52 = .ok (.ireturn, 1) := by decide +kernel
theorem dX11_rooted_0 : decode cX11_rooted 0 = .ok (.aload_n 0, 1) := by decide +kernel
theorem dX11_rooted_1 : decode cX11_rooted 1 = .ok (.bipush 27, 2) := by decide +kernel
theorem dX11_rooted_3 : decode cX11_rooted 3 = .ok (.iconst 0, 1) := by decide +kernel
theorem dX11_rooted_4 : decode cX11_rooted 4 = .ok (.invokevirtual 56, 3) := by decide +kernel
theorem dX11_rooted_7 : decode cX11_rooted 7 = .ok (.aload_n 0, 1) := by decide +kernel
theorem dX11_rooted_8 : decode cX11_rooted 8 = .ok (.getfield 13, 3) := by decide +kernel
theorem dX11_rooted_11 : decode cX11_rooted 11 = .ok (.bipush 26, 2) := by decide +kernel
theorem dX11_rooted_13 : decode cX11_rooted 13 = .ok (.iaload, 1) := by decide +kernel
theorem dX11_rooted_14 : decode cX11_rooted 14 = .ok (.ifCond .ne 4, 3) := by decide +kernel
theorem dX11_rooted_17 : decode cX11_rooted 17 = .ok (.return_, 1) := by decide +kernel
theorem dX11_rooted_18 : decode cX11_rooted 18 = .ok (.iload_n 1, 1) := by decide +kernel
theorem dX11_rooted_19 : decode cX11_rooted 19 = .ok (.aload_n 0, 1) := by decide +kernel
theorem dX11_rooted_20 : decode cX11_rooted 20 = .ok (.bipush 26, 2) := by decide +kernel
theorem dX11_rooted_22 : decode cX11_rooted 22 = .ok (.invokevirtual 90, 3) := by decide +kernel
theorem dX11_rooted_25 : decode cX11_rooted 25 = .ok (.if_icmp .lt 11, 3) := by decide +kernel
theorem dX11_rooted_28 : decode cX11_rooted 28 = .ok (.aload_n 0, 1) := by decide +kernel
theorem dX11_rooted_29 : decode cX11_rooted 29 = .ok (.bipush 27, 2) := by decide +kernel
theorem dX11_rooted_31 : decode cX11_rooted 31 = .ok (.iconst 1, 1) := by decide +kernel
theorem dX11_rooted_32 : decode cX11_rooted 32 = .ok (.invokevirtual 56, 3) := by decide +kernel
theorem dX11_rooted_35 : decode cX11_rooted 35 = .ok (.return_, 1) := by decide +kernel
theorem dX11_rooted_36 : decode cX11_rooted 36 = .ok (.aload_n 0, 1) := by decide +kernel
theorem dX11_rooted_37 : decode cX11_rooted 37 = .ok (.bipush 26, 2) := by decide +kernel
theorem dX11_rooted_39 : decode cX11_rooted 39 = .ok (.invokevirtual 90, 3) := by decide +kernel
theorem dX11_rooted_42 : decode cX11_rooted 42 = .ok (.iconst 1, 1) := by decide +kernel
theorem dX11_rooted_43 : decode cX11_rooted 43 = .ok (.isub, 1) := by decide +kernel
theorem dX11_rooted_44 : decode cX11_rooted 44 = .ok (.iload_n 1, 1) := by decide +kernel
theorem dX11_rooted_45 : decode cX11_rooted 45 = .ok (.idiv, 1) := by decide +kernel
theorem dX11_rooted_46 : decode cX11_rooted 46 = .ok (.iconst 1, 1) := by decide +kernel
theorem dX11_rooted_47 : decode cX11_rooted 47 = .ok (.iadd, 1) := by decide +kernel
theorem dX11_rooted_48 : decode cX11_rooted 48 = .ok (.istore_n 2, 1) := by decide +kernel
theorem dX11_rooted_49 : decode cX11_rooted 49 = .ok (.iconst 0, 1) := by decide +kernel
theorem dX11_rooted_50 : decode cX11_rooted 50 = .ok (.istore_n 3, 1) := by decide +kernel
theorem dX11_rooted_51 : decode cX11_rooted 51 = .ok (.iload_n 3, 1) := by decide +kernel
theorem dX11_rooted_52 : decode cX11_rooted 52 = .ok (.sipush 260, 3) := by decide +kernel
theorem dX11_rooted_55 : decode cX11_rooted 55 = .ok (.if_icmp .ge 20, 3) := by decide +kernel
theorem dX11_rooted_58 : decode cX11_rooted 58 = .ok (.aload_n 0, 1) := by decide +kernel
theorem dX11_rooted_59 : decode cX11_rooted 59 = .ok (.getfield 7, 3) := by decide +kernel
theorem dX11_rooted_62 : decode cX11_rooted 62 = .ok (.sipush 7020, 3) := by decide +kernel
theorem dX11_rooted_65 : decode cX11_rooted 65 = .ok (.iload_n 3, 1) := by decide +kernel
theorem dX11_rooted_66 : decode cX11_rooted 66 = .ok (.iadd, 1) := by decide +kernel
theorem dX11_rooted_67 : decode cX11_rooted 67 = .ok (.iconst 0, 1) := by decide +kernel
theorem dX11_rooted_68 : decode cX11_rooted 68 = .ok (.iastore, 1) := by decide +kernel
theorem dX11_rooted_69 : decode cX11_rooted 69 = .ok (.iinc 3 1, 3) := by decide +kernel
theorem dX11_rooted_72 : decode cX11_rooted 72 = .ok (.goto (-21), 3) := by decide +kernel
theorem dX11_rooted_75 : decode cX11_rooted 75 = .ok (.iload_n 2, 1) := by decide +kernel
theorem dX11_rooted_76 : decode cX11_rooted 76 = .ok (.iconst 1, 1) := by decide +kernel
theorem dX11_rooted_77 : decode cX11_rooted 77 = .ok (.isub, 1) := by decide +kernel
theorem dX11_rooted_78 : decode cX11_rooted 78 = .ok (.istore_n 3, 1) := by decide +kernel
theorem dX11_rooted_79 : decode cX11_rooted 79 = .ok (.iload_n 3, 1) := by decide +kernel
theorem dX11_rooted_80 : decode cX11_rooted 80 = .ok (.ifCond .lt 89, 3) := by decide +kernel
theorem dX11_rooted_83 : decode cX11_rooted 83 = .ok (.aload_n 0, 1) := by decide +kernel
theorem dX11_rooted_84 : decode cX11_rooted 84 = .ok (.getfield 7, 3) := by decide +kernel
theorem dX11_rooted_87 : decode cX11_rooted 87 = .ok (.sipush 7020, 3) := by decide +kernel
theorem dX11_rooted_90 : decode cX11_rooted 90 = .ok (.iload_n 3, 1) := by decide +kernel
theorem dX11_rooted_91 : decode cX11_rooted 91 = .ok (.iconst 4, 1) := by decide +kernel
theorem dX11_rooted_92 : decode cX11_rooted 92 = .ok (.ishr, 1) := by decide +kernel
theorem dX11_rooted_93 : decode cX11_rooted 93 = .ok (.iadd, 1) := by decide +kernel
theorem dX11_rooted_94 : decode cX11_rooted 94 = .ok (.dup2, 1) := by decide +kernel
theorem dX11_rooted_95 : decode cX11_rooted 95 = .ok (.iaload, 1) := by decide +kernel
theorem dX11_rooted_96 : decode cX11_rooted 96 = .ok (.iconst 1, 1) := by decide +kernel
theorem dX11_rooted_97 : decode cX11_rooted 97 = .ok (.iload_n 3, 1) := by decide +kernel
theorem dX11_rooted_98 : decode cX11_rooted 98 = .ok (.bipush 15, 2) := by decide +kernel
theorem dX11_rooted_100 : decode cX11_rooted 100 = .ok (.iand, 1) := by decide +kernel
theorem dX11_rooted_101 : decode cX11_rooted 101 = .ok (.ishl, 1) := by decide +kernel
theorem dX11_rooted_102 : decode cX11_rooted 102 = .ok (.ior, 1) := by decide +kernel
theorem dX11_rooted_103 : decode cX11_rooted 103 = .ok (.iastore, 1) := by decide +kernel
theorem dX11_rooted_104 : decode cX11_rooted 104 = .ok (.aload_n 0, 1) := by decide +kernel
theorem dX11_rooted_105 : decode cX11_rooted 105 = .ok (.bipush 27, 2) := by decide +kernel
theorem dX11_rooted_107 : decode cX11_rooted 107 = .ok (.iload_n 2, 1) := by decide +kernel
theorem dX11_rooted_108 : decode cX11_rooted 108 = .ok (.iconst 1, 1) := by decide +kernel
theorem dX11_rooted_109 : decode cX11_rooted 109 = .ok (.isub, 1) := by decide +kernel
theorem dX11_rooted_110 : decode cX11_rooted 110 = .ok (.iconst 4, 1) := by decide +kernel
theorem dX11_rooted_111 : decode cX11_rooted 111 = .ok (.ishr, 1) := by decide +kernel
theorem dX11_rooted_112 : decode cX11_rooted 112 = .ok (.iconst 1, 1) := by decide +kernel
theorem dX11_rooted_113 : decode cX11_rooted 113 = .ok (.iadd, 1) := by decide +kernel
theorem dX11_rooted_114 : decode cX11_rooted 114 = .ok (.iconst 1, 1) := by decide +kernel
theorem dX11_rooted_115 : decode cX11_rooted 115 = .ok (.invokevirtual 41, 3) := by decide +kernel
theorem dX11_rooted_118 : decode cX11_rooted 118 = .ok (.aload_n 0, 1) := by decide +kernel
theorem dX11_rooted_119 : decode cX11_rooted 119 = .ok (.iload_n 1, 1) := by decide +kernel
theorem dX11_rooted_120 : decode cX11_rooted 120 = .ok (.invokevirtual 143, 3) := by decide +kernel
theorem dX11_rooted_123 : decode cX11_rooted 123 = .ok (.ifCond .ne 26, 3) := by decide +kernel
theorem dX11_rooted_126 : decode cX11_rooted 126 = .ok (.aload_n 0, 1) := by decide +kernel
theorem dX11_rooted_127 : decode cX11_rooted 127 = .ok (.getfield 7, 3) := by decide +kernel
theorem dX11_rooted_130 : decode cX11_rooted 130 = .ok (.sipush 7020, 3) := by decide +kernel
theorem dX11_rooted_133 : decode cX11_rooted 133 = .ok (.iload_n 3, 1) := by decide +kernel
theorem dX11_rooted_134 : decode cX11_rooted 134 = .ok (.iconst 4, 1) := by decide +kernel
theorem dX11_rooted_135 : decode cX11_rooted 135 = .ok (.ishr, 1) := by decide +kernel
theorem dX11_rooted_136 : decode cX11_rooted 136 = .ok (.iadd, 1) := by decide +kernel
theorem dX11_rooted_137 : decode cX11_rooted 137 = .ok (.dup2, 1) := by decide +kernel
theorem dX11_rooted_138 : decode cX11_rooted 138 = .ok (.iaload, 1) := by decide +kernel
theorem dX11_rooted_139 : decode cX11_rooted 139 = .ok (.iconst 1, 1) := by decide +kernel
theorem dX11_rooted_140 : decode cX11_rooted 140 = .ok (.iload_n 3, 1) := by decide +kernel
theorem dX11_rooted_141 : decode cX11_rooted 141 = .ok (.bipush 15, 2) := by decide +kernel
theorem dX11_rooted_143 : decode cX11_rooted 143 = .ok (.iand, 1) := by decide +kernel
theorem dX11_rooted_144 : decode cX11_rooted 144 = .ok (.ishl, 1) := by decide +kernel
theorem dX11_rooted_145 : decode cX11_rooted 145 = .ok (.iconst (-1), 1) := by decide +kernel
theorem dX11_rooted_146 : decode cX11_rooted 146 = .ok (.ixor, 1) := by decide +kernel
theorem dX11_rooted_147 : decode cX11_rooted 147 = .ok (.iand, 1) := by decide +kernel
theorem dX11_rooted_148 : decode cX11_rooted 148 = .ok (.iastore, 1) := by decide +kernel
theorem dX11_rooted_149 : decode cX11_rooted 149 = .ok (.aload_n 0, 1) := by decide +kernel
theorem dX11_rooted_150 : decode cX11_rooted 150 = .ok (.bipush 27, 2) := by decide +kernel
theorem dX11_rooted_152 : decode cX11_rooted 152 = .ok (.iload_n 2, 1) := by decide +kernel
theorem dX11_rooted_153 : decode cX11_rooted 153 = .ok (.iconst 1, 1) := by decide +kernel
theorem dX11_rooted_154 : decode cX11_rooted 154 = .ok (.isub, 1) := by decide +kernel
theorem dX11_rooted_155 : decode cX11_rooted 155 = .ok (.iconst 4, 1) := by decide +kernel
theorem dX11_rooted_156 : decode cX11_rooted 156 = .ok (.ishr, 1) := by decide +kernel
theorem dX11_rooted_157 : decode cX11_rooted 157 = .ok (.iconst 1, 1) := by decide +kernel
theorem dX11_rooted_158 : decode cX11_rooted 158 = .ok (.iadd, 1) := by decide +kernel
theorem dX11_rooted_159 : decode cX11_rooted 159 = .ok (.iconst 1, 1) := by decide +kernel
theorem dX11_rooted_160 : decode cX11_rooted 160 = .ok (.invokevirtual 41, 3) := by decide +kernel
theorem dX11_rooted_163 : decode cX11_rooted 163 = .ok (.iinc 3 (-1), 3) := by decide +kernel
theorem dX11_rooted_166 : decode cX11_rooted 166 = .ok (.goto (-87), 3) := by decide +kernel
theorem dX11_rooted_169 : decode cX11_rooted 169 = .ok (.return_, 1) := by decide +kernel
theorem dX11_isqrt_0 : decode cX11_isqrt 0 = .ok (.aload_n 0, 1) := by decide +kernel
theorem dX11_isqrt_1 : decode cX11_isqrt 1 = .ok (.iload_n 1, 1) := by decide +kernel
theorem dX11_isqrt_2 : decode cX11_isqrt 2 = .ok (.iload_n 2, 1) := by decide +kernel
theorem dX11_isqrt_3 : decode cX11_isqrt 3 = .ok (.iconst 2, 1) := by decide +kernel
theorem dX11_isqrt_4 : decode cX11_isqrt 4 = .ok (.invokevirtual 146, 3) := by decide +kernel
theorem dX11_isqrt_7 : decode cX11_isqrt 7 = .ok (.ireturn, 1) := by decide +kernel
theorem dX11_root_0 : decode cX11_root 0 = .ok (.aload_n 0, 1) := by decide +kernel
theorem dX11_root_1 : decode cX11_root 1 = .ok (.iconst 0, 1) := by decide +kernel
theorem dX11_root_2 : decode cX11_root 2 = .ok (.putfield 33, 3) := by decide +kernel
theorem dX11_root_5 : decode cX11_root 5 = .ok (.aload_n 0, 1) := by decide +kernel
theorem dX11_root_6 : decode cX11_root 6 = .ok (.iload_n 1, 1) := by decide +kernel
theorem dX11_root_7 : decode cX11_root 7 = .ok (.invokevirtual 78, 3) := by decide +kernel
theorem dX11_root_10 : decode cX11_root 10 = .ok (.ifCond .ne 11, 3) := by decide +kernel
theorem dX11_root_13 : decode cX11_root 13 = .ok (.aload_n 0, 1) := by decide +kernel
theorem dX11_root_14 : decode cX11_root 14 = .ok (.iload_n 2, 1) := by decide +kernel
theorem dX11_root_15 : decode cX11_root 15 = .ok (.invokevirtual 78, 3) := by decide +kernel
theorem dX11_root_18 : decode cX11_root 18 = .ok (.ifCond .eq 5, 3) := by decide +kernel
theorem dX11_root_21 : decode cX11_root 21 = .ok (.iconst 3, 1) := by decide +kernel
theorem dX11_root_22 : decode cX11_root 22 = .ok (.ireturn, 1) := by decide +kernel
theorem dX11_root_23 : decode cX11_root 23 = .ok (.aload_n 0, 1) := by decide +kernel
theorem dX11_root_24 : decode cX11_root 24 = .ok (.getfield 16, 3) := by decide +kernel
theorem dX11_root_27 : decode cX11_root 27 = .ok (.iload_n 2, 1) := by decide +kernel
theorem dX11_root_28 : decode cX11_root 28 = .ok (.iaload, 1) := by decide +kernel
theorem dX11_root_29 : decode cX11_root 29 = .ok (.ifCond .lt 8, 3) := by decide +kernel
theorem dX11_root_32 : decode cX11_root 32 = .ok (.iload_n 3, 1) := by decide +kernel
theorem dX11_root_33 : decode cX11_root 33 = .ok (.iconst 1, 1) := by decide +kernel
theorem dX11_root_34 : decode cX11_root 34 = .ok (.if_icmp .ge 5, 3) := by decide +kernel
theorem dX11_root_37 : decode cX11_root 37 = .ok (.iconst 2, 1) := by decide +kernel
theorem dX11_root_38 : decode cX11_root 38 = .ok (.ireturn, 1) := by decide +kernel
theorem dX11_root_39 : decode cX11_root 39 = .ok (.aload_n 0, 1) := by decide +kernel
theorem dX11_root_40 : decode cX11_root 40 = .ok (.bipush 26, 2) := by decide +kernel
theorem dX11_root_42 : decode cX11_root 42 = .ok (.iload_n 2, 1) := by decide +kernel
theorem dX11_root_43 : decode cX11_root 43 = .ok (.invokevirtual 45, 3) := by decide +kernel
theorem dX11_root_46 : decode cX11_root 46 = .ok (.iload_n 3, 1) := by decide +kernel
theorem dX11_root_47 : decode cX11_root 47 = .ok (.iconst 1, 1) := by decide +kernel
theorem dX11_root_48 : decode cX11_root 48 = .ok (.if_icmp .ne 14, 3) := by decide +kernel
theorem dX11_root_51 : decode cX11_root 51 = .ok (.aload_n 0, 1) := by decide +kernel
theorem dX11_root_52 : decode cX11_root 52 = .ok (.bipush 27, 2) := by decide +kernel
theorem dX11_root_54 : decode cX11_root 54 = .ok (.bipush 26, 2) := by decide +kernel
theorem dX11_root_56 : decode cX11_root 56 = .ok (.invokevirtual 45, 3) := by decide +kernel
theorem dX11_root_59 : decode cX11_root 59 = .ok (.goto 8, 3) := by decide +kernel
theorem dX11_root_62 : decode cX11_root 62 = .ok (.aload_n 0, 1) := by decide +kernel
theorem dX11_root_63 : decode cX11_root 63 = .ok (.iload_n 3, 1) := by decide +kernel
theorem dX11_root_64 : decode cX11_root 64 = .ok (.invokevirtual 149, 3) := by decide +kernel
theorem dX11_root_67 : decode cX11_root 67 = .ok (.aload_n 0, 1) := by decide +kernel
theorem dX11_root_68 : decode cX11_root 68 = .ok (.iload_n 1, 1) := by decide +kernel
theorem dX11_root_69 : decode cX11_root 69 = .ok (.bipush 27, 2) := by decide +kernel
theorem dX11_root_71 : decode cX11_root 71 = .ok (.invokevirtual 45, 3) := by decide +kernel
theorem dX11_root_74 : decode cX11_root 74 = .ok (.iconst 0, 1) := by decide +kernel
theorem dX11_root_75 : decode cX11_root 75 = .ok (.ireturn, 1) := by decide +kernel
theorem dX11_isSquare_0 : decode cX11_isSquare 0 = .ok (.aload_n 0, 1) := by decide +kernel
theorem dX11_isSquare_1 : decode cX11_isSquare 1 = .ok (.iconst 0, 1) := by decide +kernel
theorem dX11_isSquare_2 : decode cX11_isSquare 2 = .ok (.putfield 33, 3) := by decide +kernel
theorem dX11_isSquare_5 : decode cX11_isSquare 5 = .ok (.aload_n 0, 1) := by decide +kernel
theorem dX11_isSquare_6 : decode cX11_isSquare 6 = .ok (.iload_n 1, 1) := by decide +kernel
theorem dX11_isSquare_7 : decode cX11_isSquare 7 = .ok (.invokevirtual 78, 3) := by decide +kernel
theorem dX11_isSquare_10 : decode cX11_isSquare 10 = .ok (.ifCond .eq 5, 3) := by decide +kernel
theorem dX11_isSquare_13 : decode cX11_isSquare 13 = .ok (.iconst 3, 1) := by decide +kernel
theorem dX11_isSquare_14 : decode cX11_isSquare 14 = .ok (.ireturn, 1) := by decide +kernel
theorem dX11_isSquare_15 : decode cX11_isSquare 15 = .ok (.aload_n 0, 1) := by decide +kernel
theorem dX11_isSquare_16 : decode cX11_isSquare 16 = .ok (.getfield 16, 3) := by decide +kernel
theorem dX11_isSquare_19 : decode cX11_isSquare 19 = .ok (.iload_n 1, 1) := by decide +kernel
theorem dX11_isSquare_20 : decode cX11_isSquare 20 = .ok (.iaload, 1) := by decide +kernel
theorem dX11_isSquare_21 : decode cX11_isSquare 21 = .ok (.ifCond .ge 5, 3) := by decide +kernel
theorem dX11_isSquare_24 : decode cX11_isSquare 24 = .ok (.iconst 0, 1) := by decide +kernel
theorem dX11_isSquare_25 : decode cX11_isSquare 25 = .ok (.ireturn, 1) := by decide +kernel
theorem dX11_isSquare_26 : decode cX11_isSquare 26 = .ok (.aload_n 0, 1) := by decide +kernel
theorem dX11_isSquare_27 : decode cX11_isSquare 27 = .ok (.bipush 26, 2) := by decide +kernel
theorem dX11_isSquare_29 : decode cX11_isSquare 29 = .ok (.iload_n 1, 1) := by decide +kernel
theorem dX11_isSquare_30 : decode cX11_isSquare 30 = .ok (.invokevirtual 45, 3) := by decide +kernel
theorem dX11_isSquare_33 : decode cX11_isSquare 33 = .ok (.aload_n 0, 1) := by decide +kernel
theorem dX11_isSquare_34 : decode cX11_isSquare 34 = .ok (.iconst 2, 1) := by decide +kernel
theorem dX11_isSquare_35 : decode cX11_isSquare 35 = .ok (.invokevirtual 149, 3) := by decide +kernel
theorem dX11_isSquare_38 : decode cX11_isSquare 38 = .ok (.aload_n 0, 1) := by decide +kernel
theorem dX11_isSquare_39 : decode cX11_isSquare 39 = .ok (.bipush 19, 2) := by decide +kernel
theorem dX11_isSquare_41 : decode cX11_isSquare 41 = .ok (.bipush 27, 2) := by decide +kernel
theorem dX11_isSquare_43 : decode cX11_isSquare 43 = .ok (.bipush 27, 2) := by decide +kernel
theorem dX11_isSquare_45 : decode cX11_isSquare 45 = .ok (.invokevirtual 84, 3) := by decide +kernel
theorem dX11_isSquare_48 : decode cX11_isSquare 48 = .ok (.aload_n 0, 1) := by decide +kernel
theorem dX11_isSquare_49 : decode cX11_isSquare 49 = .ok (.bipush 19, 2) := by decide +kernel
theorem dX11_isSquare_51 : decode cX11_isSquare 51 = .ok (.bipush 26, 2) := by decide +kernel
theorem dX11_isSquare_53 : decode cX11_isSquare 53 = .ok (.invokevirtual 53, 3) := by decide +kernel
theorem dX11_isSquare_56 : decode cX11_isSquare 56 = .ok (.ifCond .ne 7, 3) := by decide +kernel
theorem dX11_isSquare_59 : decode cX11_isSquare 59 = .ok (.iconst 1, 1) := by decide +kernel
theorem dX11_isSquare_60 : decode cX11_isSquare 60 = .ok (.goto 4, 3) := by decide +kernel
theorem dX11_isSquare_63 : decode cX11_isSquare 63 = .ok (.iconst 0, 1) := by decide +kernel
theorem dX11_isSquare_64 : decode cX11_isSquare 64 = .ok (.ireturn, 1) := by decide +kernel
theorem dX11_jacobi_0 : decode cX11_jacobi 0 = .ok (.aload_n 0, 1) := by decide +kernel
theorem dX11_jacobi_1 : decode cX11_jacobi 1 = .ok (.iconst 0, 1) := by decide +kernel
theorem dX11_jacobi_2 : decode cX11_jacobi 2 = .ok (.putfield 33, 3) := by decide +kernel
theorem dX11_jacobi_5 : decode cX11_jacobi 5 = .ok (.aload_n 0, 1) := by decide +kernel
theorem dX11_jacobi_6 : decode cX11_jacobi 6 = .ok (.iload_n 1, 1) := by decide +kernel
theorem dX11_jacobi_7 : decode cX11_jacobi 7 = .ok (.invokevirtual 78, 3) := by decide +kernel
theorem dX11_jacobi_10 : decode cX11_jacobi 10 = .ok (.ifCond .ne 11, 3) := by decide +kernel
theorem dX11_jacobi_13 : decode cX11_jacobi 13 = .ok (.aload_n 0, 1) := by decide +kernel
theorem dX11_jacobi_14 : decode cX11_jacobi 14 = .ok (.iload_n 2, 1) := by decide +kernel
theorem dX11_jacobi_15 : decode cX11_jacobi 15 = .ok (.invokevirtual 78, 3) := by decide +kernel
theorem dX11_jacobi_18 : decode cX11_jacobi 18 = .ok (.ifCond .eq 5, 3) := by decide +kernel
theorem dX11_jacobi_21 : decode cX11_jacobi 21 = .ok (.iconst 3, 1) := by decide +kernel
theorem dX11_jacobi_22 : decode cX11_jacobi 22 = .ok (.ireturn, 1) := by decide +kernel
theorem dX11_jacobi_23 : decode cX11_jacobi 23 = .ok (.aload_n 0, 1) := by decide +kernel
theorem dX11_jacobi_24 : decode cX11_jacobi 24 = .ok (.getfield 16, 3) := by decide +kernel
theorem dX11_jacobi_27 : decode cX11_jacobi 27 = .ok (.iload_n 2, 1) := by decide +kernel
theorem dX11_jacobi_28 : decode cX11_jacobi 28 = .ok (.iaload, 1) := by decide +kernel
theorem dX11_jacobi_29 : decode cX11_jacobi 29 = .ok (.iconst 1, 1) := by decide +kernel
theorem dX11_jacobi_30 : decode cX11_jacobi 30 = .ok (.if_icmp .lt 12, 3) := by decide +kernel
theorem dX11_jacobi_33 : decode cX11_jacobi 33 = .ok (.aload_n 0, 1) := by decide +kernel
theorem dX11_jacobi_34 : decode cX11_jacobi 34 = .ok (.iload_n 2, 1) := by decide +kernel
theorem dX11_jacobi_35 : decode cX11_jacobi 35 = .ok (.iconst 0, 1) := by decide +kernel
theorem dX11_jacobi_36 : decode cX11_jacobi 36 = .ok (.invokevirtual 100, 3) := by decide +kernel
theorem dX11_jacobi_39 : decode cX11_jacobi 39 = .ok (.ifCond .ne 5, 3) := by decide +kernel
theorem dX11_jacobi_42 : decode cX11_jacobi 42 = .ok (.iconst 2, 1) := by decide +kernel
theorem dX11_jacobi_43 : decode cX11_jacobi 43 = .ok (.ireturn, 1) := by decide +kernel
theorem dX11_jacobi_44 : decode cX11_jacobi 44 = .ok (.aload_n 0, 1) := by decide +kernel
theorem dX11_jacobi_45 : decode cX11_jacobi 45 = .ok (.bipush 21, 2) := by decide +kernel
theorem dX11_jacobi_47 : decode cX11_jacobi 47 = .ok (.iload_n 2, 1) := by decide +kernel
theorem dX11_jacobi_48 : decode cX11_jacobi 48 = .ok (.invokevirtual 45, 3) := by decide +kernel
theorem dX11_jacobi_51 : decode cX11_jacobi 51 = .ok (.aload_n 0, 1) := by decide +kernel
theorem dX11_jacobi_52 : decode cX11_jacobi 52 = .ok (.bipush 17, 2) := by decide +kernel
theorem dX11_jacobi_54 : decode cX11_jacobi 54 = .ok (.bipush 18, 2) := by decide +kernel
theorem dX11_jacobi_56 : decode cX11_jacobi 56 = .ok (.iload_n 1, 1) := by decide +kernel
theorem dX11_jacobi_57 : decode cX11_jacobi 57 = .ok (.bipush 21, 2) := by decide +kernel
theorem dX11_jacobi_59 : decode cX11_jacobi 59 = .ok (.invokevirtual 87, 3) := by decide +kernel
theorem dX11_jacobi_62 : decode cX11_jacobi 62 = .ok (.aload_n 0, 1) := by decide +kernel
theorem dX11_jacobi_63 : decode cX11_jacobi 63 = .ok (.bipush 20, 2) := by decide +kernel
theorem dX11_jacobi_65 : decode cX11_jacobi 65 = .ok (.bipush 18, 2) := by decide +kernel
theorem dX11_jacobi_67 : decode cX11_jacobi 67 = .ok (.invokevirtual 45, 3) := by decide +kernel
theorem dX11_jacobi_70 : decode cX11_jacobi 70 = .ok (.iconst 1, 1) := by decide +kernel
theorem dX11_jacobi_71 : decode cX11_jacobi 71 = .ok (.istore_n 3, 1) := by decide +kernel
theorem dX11_jacobi_72 : decode cX11_jacobi 72 = .ok (.aload_n 0, 1) := by decide +kernel
theorem dX11_jacobi_73 : decode cX11_jacobi 73 = .ok (.getfield 13, 3) := by decide +kernel
theorem dX11_jacobi_76 : decode cX11_jacobi 76 = .ok (.bipush 20, 2) := by decide +kernel
theorem dX11_jacobi_78 : decode cX11_jacobi 78 = .ok (.iaload, 1) := by decide +kernel
theorem dX11_jacobi_79 : decode cX11_jacobi 79 = .ok (.ifCond .le 139, 3) := by decide +kernel
theorem dX11_jacobi_82 : decode cX11_jacobi 82 = .ok (.iconst 0, 1) := by decide +kernel
theorem dX11_jacobi_83 : decode cX11_jacobi 83 = .ok (.istore 4, 2) := by decide +kernel
theorem dX11_jacobi_85 : decode cX11_jacobi 85 = .ok (.aload_n 0, 1) := by decide +kernel
theorem dX11_jacobi_86 : decode cX11_jacobi 86 = .ok (.bipush 20, 2) := by decide +kernel
theorem dX11_jacobi_88 : decode cX11_jacobi 88 = .ok (.iload 4, 2) := by decide +kernel
theorem dX11_jacobi_90 : decode cX11_jacobi 90 = .ok (.invokevirtual 100, 3) := by decide +kernel
theorem dX11_jacobi_93 : decode cX11_jacobi 93 = .ok (.ifCond .ne 9, 3) := by decide +kernel
theorem dX11_jacobi_96 : decode cX11_jacobi 96 = .ok (.iinc 4 1, 3) := by decide +kernel
theorem dX11_jacobi_99 : decode cX11_jacobi 99 = .ok (.goto (-14), 3) := by decide +kernel
theorem dX11_jacobi_102 : decode cX11_jacobi 102 = .ok (.aload_n 0, 1) := by decide +kernel
theorem dX11_jacobi_103 : decode cX11_jacobi 103 = .ok (.getfield 7, 3) := by decide +kernel
theorem dX11_jacobi_106 : decode cX11_jacobi 106 = .ok (.sipush 5460, 3) := by decide +kernel
theorem dX11_jacobi_109 : decode cX11_jacobi 109 = .ok (.iaload, 1) := by decide +kernel
theorem dX11_jacobi_110 : decode cX11_jacobi 110 = .ok (.bipush 7, 2) := by decide +kernel
theorem dX11_jacobi_112 : decode cX11_jacobi 112 = .ok (.iand, 1) := by decide +kernel
theorem dX11_jacobi_113 : decode cX11_jacobi 113 = .ok (.istore 5, 2) := by decide +kernel
theorem dX11_jacobi_115 : decode cX11_jacobi 115 = .ok (.iload 4, 2) := by decide +kernel
theorem dX11_jacobi_117 : decode cX11_jacobi 117 = .ok (.iconst 1, 1) := by decide +kernel
theorem dX11_jacobi_118 : decode cX11_jacobi 118 = .ok (.iand, 1) := by decide +kernel
theorem dX11_jacobi_119 : decode cX11_jacobi 119 = .ok (.iconst 1, 1) := by decide +kernel
theorem dX11_jacobi_120 : decode cX11_jacobi 120 = .ok (.if_icmp .ne 18, 3) := by decide +kernel
theorem dX11_jacobi_123 : decode cX11_jacobi 123 = .ok (.iload 5, 2) := by decide +kernel
theorem dX11_jacobi_125 : decode cX11_jacobi 125 = .ok (.iconst 3, 1) := by decide +kernel
theorem dX11_jacobi_126 : decode cX11_jacobi 126 = .ok (.if_icmp .eq 9, 3) := by decide +kernel
theorem dX11_jacobi_129 : decode cX11_jacobi 129 = .ok (.iload 5, 2) := by decide +kernel
theorem dX11_jacobi_131 : decode cX11_jacobi 131 = .ok (.iconst 5, 1) := by decide +kernel
theorem dX11_jacobi_132 : decode cX11_jacobi 132 = .ok (.if_icmp .ne 6, 3) := by decide +kernel
theorem dX11_jacobi_135 : decode cX11_jacobi 135 = .ok (.iload_n 3, 1) := by decide +kernel
theorem dX11_jacobi_136 : decode cX11_jacobi 136 = .ok (.ineg, 1) := by decide +kernel
theorem dX11_jacobi_137 : decode cX11_jacobi 137 = .ok (.istore_n 3, 1) := by decide +kernel
theorem dX11_jacobi_138 : decode cX11_jacobi 138 = .ok (.aload_n 0, 1) := by decide +kernel
theorem dX11_jacobi_139 : decode cX11_jacobi 139 = .ok (.bipush 19, 2) := by decide +kernel
theorem dX11_jacobi_141 : decode cX11_jacobi 141 = .ok (.bipush 20, 2) := by decide +kernel
theorem dX11_jacobi_143 : decode cX11_jacobi 143 = .ok (.iload 4, 2) := by decide +kernel
theorem dX11_jacobi_145 : decode cX11_jacobi 145 = .ok (.invokevirtual 104, 3) := by decide +kernel
theorem dX11_jacobi_148 : decode cX11_jacobi 148 = .ok (.aload_n 0, 1) := by decide +kernel
theorem dX11_jacobi_149 : decode cX11_jacobi 149 = .ok (.bipush 20, 2) := by decide +kernel
theorem dX11_jacobi_151 : decode cX11_jacobi 151 = .ok (.bipush 19, 2) := by decide +kernel
theorem dX11_jacobi_153 : decode cX11_jacobi 153 = .ok (.invokevirtual 45, 3) := by decide +kernel
theorem dX11_jacobi_156 : decode cX11_jacobi 156 = .ok (.aload_n 0, 1) := by decide +kernel
theorem dX11_jacobi_157 : decode cX11_jacobi 157 = .ok (.getfield 7, 3) := by decide +kernel
theorem dX11_jacobi_160 : decode cX11_jacobi 160 = .ok (.sipush 5200, 3) := by decide +kernel
theorem dX11_jacobi_163 : decode cX11_jacobi 163 = .ok (.iaload, 1) := by decide +kernel
theorem dX11_jacobi_164 : decode cX11_jacobi 164 = .ok (.iconst 3, 1) := by decide +kernel
theorem dX11_jacobi_165 : decode cX11_jacobi 165 = .ok (.iand, 1) := by decide +kernel
theorem dX11_jacobi_166 : decode cX11_jacobi 166 = .ok (.iconst 3, 1) := by decide +kernel
theorem dX11_jacobi_167 : decode cX11_jacobi 167 = .ok (.if_icmp .ne 20, 3) := by decide +kernel
theorem dX11_jacobi_170 : decode cX11_jacobi 170 = .ok (.aload_n 0, 1) := by decide +kernel
theorem dX11_jacobi_171 : decode cX11_jacobi 171 = .ok (.getfield 7, 3) := by decide +kernel
theorem dX11_jacobi_174 : decode cX11_jacobi 174 = .ok (.sipush 5460, 3) := by decide +kernel
theorem dX11_jacobi_177 : decode cX11_jacobi 177 = .ok (.iaload, 1) := by decide +kernel
theorem dX11_jacobi_178 : decode cX11_jacobi 178 = .ok (.iconst 3, 1) := by decide +kernel
theorem dX11_jacobi_179 : decode cX11_jacobi 179 = .ok (.iand, 1) := by decide +kernel
theorem dX11_jacobi_180 : decode cX11_jacobi 180 = .ok (.iconst 3, 1) := by decide +kernel
theorem dX11_jacobi_181 : decode cX11_jacobi 181 = .ok (.if_icmp .ne 6, 3) := by decide +kernel
theorem dX11_jacobi_184 : decode cX11_jacobi 184 = .ok (.iload_n 3, 1) := by decide +kernel
theorem dX11_jacobi_185 : decode cX11_jacobi 185 = .ok (.ineg, 1) := by decide +kernel
theorem dX11_jacobi_186 : decode cX11_jacobi 186 = .ok (.istore_n 3, 1) := by decide +kernel
theorem dX11_jacobi_187 : decode cX11_jacobi 187 = .ok (.aload_n 0, 1) := by decide +kernel
theorem dX11_jacobi_188 : decode cX11_jacobi 188 = .ok (.bipush 17, 2) := by decide +kernel
theorem dX11_jacobi_190 : decode cX11_jacobi 190 = .ok (.bipush 18, 2) := by decide +kernel
theorem dX11_jacobi_192 : decode cX11_jacobi 192 = .ok (.bipush 21, 2) := by decide +kernel
theorem dX11_jacobi_194 : decode cX11_jacobi 194 = .ok (.bipush 20, 2) := by decide +kernel
theorem dX11_jacobi_196 : decode cX11_jacobi 196 = .ok (.invokevirtual 68, 3) := by decide +kernel
theorem dX11_jacobi_199 : decode cX11_jacobi 199 = .ok (.aload_n 0, 1) := by decide +kernel
theorem dX11_jacobi_200 : decode cX11_jacobi 200 = .ok (.bipush 21, 2) := by decide +kernel
theorem dX11_jacobi_202 : decode cX11_jacobi 202 = .ok (.bipush 20, 2) := by decide +kernel
theorem dX11_jacobi_204 : decode cX11_jacobi 204 = .ok (.invokevirtual 45, 3) := by decide +kernel
theorem dX11_jacobi_207 : decode cX11_jacobi 207 = .ok (.aload_n 0, 1) := by decide +kernel
theorem dX11_jacobi_208 : decode cX11_jacobi 208 = .ok (.bipush 20, 2) := by decide +kernel
theorem dX11_jacobi_210 : decode cX11_jacobi 210 = .ok (.bipush 18, 2) := by decide +kernel
theorem dX11_jacobi_212 : decode cX11_jacobi 212 = .ok (.invokevirtual 45, 3) := by decide +kernel
theorem dX11_jacobi_215 : decode cX11_jacobi 215 = .ok (.goto (-143), 3) := by decide +kernel
theorem dX11_jacobi_218 : decode cX11_jacobi 218 = .ok (.aload_n 0, 1) := by decide +kernel
theorem dX11_jacobi_219 : decode cX11_jacobi 219 = .ok (.getfield 13, 3) := by decide +kernel
theorem dX11_jacobi_222 : decode cX11_jacobi 222 = .ok (.bipush 21, 2) := by decide +kernel
theorem dX11_jacobi_224 : decode cX11_jacobi 224 = .ok (.iaload, 1) := by decide +kernel
theorem dX11_jacobi_225 : decode cX11_jacobi 225 = .ok (.iconst 1, 1) := by decide +kernel
theorem dX11_jacobi_226 : decode cX11_jacobi 226 = .ok (.if_icmp .ne 19, 3) := by decide +kernel
theorem dX11_jacobi_229 : decode cX11_jacobi 229 = .ok (.aload_n 0, 1) := by decide +kernel
theorem dX11_jacobi_230 : decode cX11_jacobi 230 = .ok (.getfield 7, 3) := by decide +kernel
theorem dX11_jacobi_233 : decode cX11_jacobi 233 = .ok (.sipush 5460, 3) := by decide +kernel
theorem dX11_jacobi_236 : decode cX11_jacobi 236 = .ok (.iaload, 1) := by decide +kernel
theorem dX11_jacobi_237 : decode cX11_jacobi 237 = .ok (.iconst 1, 1) := by decide +kernel
theorem dX11_jacobi_238 : decode cX11_jacobi 238 = .ok (.if_icmp .ne 7, 3) := by decide +kernel
theorem dX11_jacobi_241 : decode cX11_jacobi 241 = .ok (.iload_n 3, 1) := by decide +kernel
theorem dX11_jacobi_242 : decode cX11_jacobi 242 = .ok (.goto 4, 3) := by decide +kernel
theorem dX11_jacobi_245 : decode cX11_jacobi 245 = .ok (.iconst 0, 1) := by decide +kernel
theorem dX11_jacobi_246 : decode cX11_jacobi 246 = .ok (.ireturn, 1) := by decide +kernel
theorem dX11_lacks_0 : decode cX11_lacks 0 = .ok (.aload_n 0, 1) := by decide +kernel
theorem dX11_lacks_1 : decode cX11_lacks 1 = .ok (.aload_n 0, 1) := by decide +kernel
theorem dX11_lacks_2 : decode cX11_lacks 2 = .ok (.iload_n 1, 1) := by decide +kernel
theorem dX11_lacks_3 : decode cX11_lacks 3 = .ok (.invokevirtual 78, 3) := by decide +kernel
theorem dX11_lacks_6 : decode cX11_lacks 6 = .ok (.ifCond .eq 7, 3) := by decide +kernel
theorem dX11_lacks_9 : decode cX11_lacks 9 = .ok (.iconst 1, 1) := by decide +kernel
theorem dX11_lacks_10 : decode cX11_lacks 10 = .ok (.goto 4, 3) := by decide +kernel
theorem dX11_lacks_13 : decode cX11_lacks 13 = .ok (.iconst 0, 1) := by decide +kernel
theorem dX11_lacks_14 : decode cX11_lacks 14 = .ok (.putfield 33, 3) := by decide +kernel
theorem dX11_lacks_17 : decode cX11_lacks 17 = .ok (.aload_n 0, 1) := by decide +kernel
theorem dX11_lacks_18 : decode cX11_lacks 18 = .ok (.getfield 33, 3) := by decide +kernel
theorem dX11_lacks_21 : decode cX11_lacks 21 = .ok (.iconst 1, 1) := by decide +kernel
theorem dX11_lacks_22 : decode cX11_lacks 22 = .ok (.if_icmp .ne 7, 3) := by decide +kernel
theorem dX11_lacks_25 : decode cX11_lacks 25 = .ok (.iconst 1, 1) := by decide +kernel
theorem dX11_lacks_26 : decode cX11_lacks 26 = .ok (.goto 4, 3) := by decide +kernel
theorem dX11_lacks_29 : decode cX11_lacks 29 = .ok (.iconst 0, 1) := by decide +kernel
theorem dX11_lacks_30 : decode cX11_lacks 30 = .ok (.ireturn, 1) := by decide +kernel
theorem dX11_sign_0 : decode cX11_sign 0 = .ok (.aload_n 0, 1) := by decide +kernel
theorem dX11_sign_1 : decode cX11_sign 1 = .ok (.iload_n 1, 1) := by decide +kernel
theorem dX11_sign_2 : decode cX11_sign 2 = .ok (.invokevirtual 153, 3) := by decide +kernel
theorem dX11_sign_5 : decode cX11_sign 5 = .ok (.ifCond .eq 7, 3) := by decide +kernel
theorem dX11_sign_8 : decode cX11_sign 8 = .ok (.iconst 0, 1) := by decide +kernel
theorem dX11_sign_9 : decode cX11_sign 9 = .ok (.goto 9, 3) := by decide +kernel
theorem dX11_sign_12 : decode cX11_sign 12 = .ok (.aload_n 0, 1) := by decide +kernel
theorem dX11_sign_13 : decode cX11_sign 13 = .ok (.getfield 16, 3) := by decide +kernel
theorem dX11_sign_16 : decode cX11_sign 16 = .ok (.iload_n 1, 1) := by decide +kernel
theorem dX11_sign_17 : decode cX11_sign 17 = .ok (.iaload, 1) := by decide +kernel
theorem dX11_sign_18 : decode cX11_sign 18 = .ok (.ireturn, 1) := by decide +kernel
theorem dX11_length_0 : decode cX11_length 0 = .ok (.aload_n 0, 1) := by decide +kernel
theorem dX11_length_1 : decode cX11_length 1 = .ok (.iload_n 1, 1) := by decide +kernel
theorem dX11_length_2 : decode cX11_length 2 = .ok (.invokevirtual 153, 3) := by decide +kernel
theorem dX11_length_5 : decode cX11_length 5 = .ok (.ifCond .eq 7, 3) := by decide +kernel
theorem dX11_length_8 : decode cX11_length 8 = .ok (.iconst 0, 1) := by decide +kernel
theorem dX11_length_9 : decode cX11_length 9 = .ok (.goto 13, 3) := by decide +kernel
theorem dX11_length_12 : decode cX11_length 12 = .ok (.aload_n 0, 1) := by decide +kernel
theorem dX11_length_13 : decode cX11_length 13 = .ok (.getfield 13, 3) := by decide +kernel
theorem dX11_length_16 : decode cX11_length 16 = .ok (.iload_n 1, 1) := by decide +kernel
theorem dX11_length_17 : decode cX11_length 17 = .ok (.iaload, 1) := by decide +kernel
theorem dX11_length_18 : decode cX11_length 18 = .ok (.iconst 1, 1) := by decide +kernel
theorem dX11_length_19 : decode cX11_length 19 = .ok (.iadd, 1) := by decide +kernel
theorem dX11_length_20 : decode cX11_length 20 = .ok (.iconst 2, 1) := by decide +kernel
theorem dX11_length_21 : decode cX11_length 21 = .ok (.idiv, 1) := by decide +kernel
theorem dX11_length_22 : decode cX11_length 22 = .ok (.ireturn, 1) := by decide +kernel
theorem dX11_limbAt_0 : decode cX11_limbAt 0 = .ok (.aload_n 0, 1) := by decide +kernel
theorem dX11_limbAt_1 : decode cX11_limbAt 1 = .ok (.iload_n 1, 1) := by decide +kernel
theorem dX11_limbAt_2 : decode cX11_limbAt 2 = .ok (.invokevirtual 153, 3) := by decide +kernel
theorem dX11_limbAt_5 : decode cX11_limbAt 5 = .ok (.ifCond .ne 13, 3) := by decide +kernel
theorem dX11_limbAt_8 : decode cX11_limbAt 8 = .ok (.iload_n 2, 1) := by decide +kernel
theorem dX11_limbAt_9 : decode cX11_limbAt 9 = .ok (.ifCond .lt 9, 3) := by decide +kernel
theorem dX11_limbAt_12 : decode cX11_limbAt 12 = .ok (.iload_n 2, 1) := by decide +kernel
theorem dX11_limbAt_13 : decode cX11_limbAt 13 = .ok (.bipush 100, 2) := by decide +kernel
theorem dX11_limbAt_15 : decode cX11_limbAt 15 = .ok (.if_icmp .le 5, 3) := by decide +kernel
theorem dX11_limbAt_18 : decode cX11_limbAt 18 = .ok (.iconst 0, 1) := by decide +kernel
theorem dX11_limbAt_19 : decode cX11_limbAt 19 = .ok (.ireturn, 1) := by decide +kernel
theorem dX11_limbAt_20 : decode cX11_limbAt 20 = .ok (.aload_n 0, 1) := by decide +kernel
theorem dX11_limbAt_21 : decode cX11_limbAt 21 = .ok (.iload_n 1, 1) := by decide +kernel
theorem dX11_limbAt_22 : decode cX11_limbAt 22 = .ok (.iconst 2, 1) := by decide +kernel
theorem dX11_limbAt_23 : decode cX11_limbAt 23 = .ok (.iload_n 2, 1) := by decide +kernel
theorem dX11_limbAt_24 : decode cX11_limbAt 24 = .ok (.imul, 1) := by decide +kernel
theorem dX11_limbAt_25 : decode cX11_limbAt 25 = .ok (.invokevirtual 36, 3) := by decide +kernel
theorem dX11_limbAt_28 : decode cX11_limbAt 28 = .ok (.aload_n 0, 1) := by decide +kernel
theorem dX11_limbAt_29 : decode cX11_limbAt 29 = .ok (.iload_n 1, 1) := by decide +kernel
theorem dX11_limbAt_30 : decode cX11_limbAt 30 = .ok (.iconst 2, 1) := by decide +kernel
theorem dX11_limbAt_31 : decode cX11_limbAt 31 = .ok (.iload_n 2, 1) := by decide +kernel
theorem dX11_limbAt_32 : decode cX11_limbAt 32 = .ok (.imul, 1) := by decide +kernel
theorem dX11_limbAt_33 : decode cX11_limbAt 33 = .ok (.iconst 1, 1) := by decide +kernel
theorem dX11_limbAt_34 : decode cX11_limbAt 34 = .ok (.iadd, 1) := by decide +kernel
theorem dX11_limbAt_35 : decode cX11_limbAt 35 = .ok (.invokevirtual 36, 3) := by decide +kernel
theorem dX11_limbAt_38 : decode cX11_limbAt 38 = .ok (.bipush 16, 2) := by decide +kernel
theorem dX11_limbAt_40 : decode cX11_limbAt 40 = .ok (.ishl, 1) := by decide +kernel
theorem dX11_limbAt_41 : decode cX11_limbAt 41 = .ok (.ior, 1) := by decide +kernel
theorem dX11_limbAt_42 : decode cX11_limbAt 42 = .ok (.ireturn, 1) := by decide +kernel
theorem dX11_feed_0 : decode cX11_feed 0 = .ok (.aload_n 0, 1) := by decide +kernel
theorem dX11_feed_1 : decode cX11_feed 1 = .ok (.iconst 0, 1) := by decide +kernel
theorem dX11_feed_2 : decode cX11_feed 2 = .ok (.putfield 33, 3) := by decide +kernel
theorem dX11_feed_5 : decode cX11_feed 5 = .ok (.aload_n 0, 1) := by decide +kernel
theorem dX11_feed_6 : decode cX11_feed 6 = .ok (.getfield 156, 3) := by decide +kernel
theorem dX11_feed_9 : decode cX11_feed 9 = .ok (.bipush 20, 2) := by decide +kernel
theorem dX11_feed_11 : decode cX11_feed 11 = .ok (.iadd, 1) := by decide +kernel
theorem dX11_feed_12 : decode cX11_feed 12 = .ok (.sipush 1000, 3) := by decide +kernel
theorem dX11_feed_15 : decode cX11_feed 15 = .ok (.if_icmp .le 5, 3) := by decide +kernel
theorem dX11_feed_18 : decode cX11_feed 18 = .ok (.iconst (-1), 1) := by decide +kernel
theorem dX11_feed_19 : decode cX11_feed 19 = .ok (.ireturn, 1) := by decide +kernel
theorem dX11_feed_20 : decode cX11_feed 20 = .ok (.aload_n 0, 1) := by decide +kernel
theorem dX11_feed_21 : decode cX11_feed 21 = .ok (.iload_n 1, 1) := by decide +kernel
theorem dX11_feed_22 : decode cX11_feed 22 = .ok (.invokevirtual 159, 3) := by decide +kernel
theorem dX11_feed_25 : decode cX11_feed 25 = .ok (.aload_n 0, 1) := by decide +kernel
theorem dX11_feed_26 : decode cX11_feed 26 = .ok (.iload_n 2, 1) := by decide +kernel
theorem dX11_feed_27 : decode cX11_feed 27 = .ok (.invokevirtual 159, 3) := by decide +kernel
theorem dX11_feed_30 : decode cX11_feed 30 = .ok (.aload_n 0, 1) := by decide +kernel
theorem dX11_feed_31 : decode cX11_feed 31 = .ok (.iload_n 3, 1) := by decide +kernel
theorem dX11_feed_32 : decode cX11_feed 32 = .ok (.invokevirtual 159, 3) := by decide +kernel
theorem dX11_feed_35 : decode cX11_feed 35 = .ok (.aload_n 0, 1) := by decide +kernel
theorem dX11_feed_36 : decode cX11_feed 36 = .ok (.iload 4, 2) := by decide +kernel
theorem dX11_feed_38 : decode cX11_feed 38 = .ok (.invokevirtual 159, 3) := by decide +kernel
theorem dX11_feed_41 : decode cX11_feed 41 = .ok (.aload_n 0, 1) := by decide +kernel
theorem dX11_feed_42 : decode cX11_feed 42 = .ok (.iload 5, 2) := by decide +kernel
theorem dX11_feed_44 : decode cX11_feed 44 = .ok (.invokevirtual 159, 3) := by decide +kernel
theorem dX11_feed_47 : decode cX11_feed 47 = .ok (.aload_n 0, 1) := by decide +kernel
theorem dX11_feed_48 : decode cX11_feed 48 = .ok (.getfield 156, 3) := by decide +kernel
theorem dX11_feed_51 : decode cX11_feed 51 = .ok (.ireturn, 1) := by decide +kernel
theorem dX11_four_0 : decode cX11_four 0 = .ok (.bipush 24, 2) := by decide +kernel
theorem dX11_four_2 : decode cX11_four 2 = .ok (.istore_n 2, 1) := by decide +kernel
theorem dX11_four_3 : decode cX11_four 3 = .ok (.iload_n 2, 1) := by decide +kernel
theorem dX11_four_4 : decode cX11_four 4 = .ok (.ifCond .lt 32, 3) := by decide +kernel
theorem dX11_four_7 : decode cX11_four 7 = .ok (.aload_n 0, 1) := by decide +kernel
theorem dX11_four_8 : decode cX11_four 8 = .ok (.getfield 19, 3) := by decide +kernel
theorem dX11_four_11 : decode cX11_four 11 = .ok (.aload_n 0, 1) := by decide +kernel
theorem dX11_four_12 : decode cX11_four 12 = .ok (.getfield 156, 3) := by decide +kernel
theorem dX11_four_15 : decode cX11_four 15 = .ok (.iload_n 1, 1) := by decide +kernel
theorem dX11_four_16 : decode cX11_four 16 = .ok (.iload_n 2, 1) := by decide +kernel
theorem dX11_four_17 : decode cX11_four 17 = .ok (.ishr, 1) := by decide +kernel
theorem dX11_four_18 : decode cX11_four 18 = .ok (.i2b, 1) := by decide +kernel
theorem dX11_four_19 : decode cX11_four 19 = .ok (.bastore, 1) := by decide +kernel
theorem dX11_four_20 : decode cX11_four 20 = .ok (.aload_n 0, 1) := by decide +kernel
theorem dX11_four_21 : decode cX11_four 21 = .ok (.dup, 1) := by decide +kernel
theorem dX11_four_22 : decode cX11_four 22 = .ok (.getfield 156, 3) := by decide +kernel
theorem dX11_four_25 : decode cX11_four 25 = .ok (.iconst 1, 1) := by decide +kernel
theorem dX11_four_26 : decode cX11_four 26 = .ok (.iadd, 1) := by decide +kernel
theorem dX11_four_27 : decode cX11_four 27 = .ok (.putfield 156, 3) := by decide +kernel
theorem dX11_four_30 : decode cX11_four 30 = .ok (.iinc 2 (-8), 3) := by decide +kernel
theorem dX11_four_33 : decode cX11_four 33 = .ok (.goto (-30), 3) := by decide +kernel
theorem dX11_four_36 : decode cX11_four 36 = .ok (.return_, 1) := by decide +kernel
theorem dX11_end_0 : decode cX11_end 0 = .ok (.aload_n 0, 1) := by decide +kernel
theorem dX11_end_1 : decode cX11_end 1 = .ok (.iconst 0, 1) := by decide +kernel
theorem dX11_end_2 : decode cX11_end 2 = .ok (.putfield 33, 3) := by decide +kernel
theorem dX11_end_5 : decode cX11_end 5 = .ok (.iload_n 1, 1) := by decide +kernel
theorem dX11_end_6 : decode cX11_end 6 = .ok (.ifCond .lt 11, 3) := by decide +kernel
theorem dX11_end_9 : decode cX11_end 9 = .ok (.iload_n 1, 1) := by decide +kernel
theorem dX11_end_10 : decode cX11_end 10 = .ok (.aload_n 0, 1) := by decide +kernel
theorem dX11_end_11 : decode cX11_end 11 = .ok (.getfield 156, 3) := by decide +kernel
theorem dX11_end_14 : decode cX11_end 14 = .ok (.if_icmp .le 5, 3) := by decide +kernel
theorem dX11_end_17 : decode cX11_end 17 = .ok (.iconst 0, 1) := by decide +kernel
theorem dX11_end_18 : decode cX11_end 18 = .ok (.ireturn, 1) := by decide +kernel
theorem dX11_end_19 : decode cX11_end 19 = .ok (.aload_n 0, 1) := by decide +kernel
theorem dX11_end_20 : decode cX11_end 20 = .ok (.iload_n 1, 1) := by decide +kernel
theorem dX11_end_21 : decode cX11_end 21 = .ok (.putfield 156, 3) := by decide +kernel
theorem dX11_end_24 : decode cX11_end 24 = .ok (.iconst 1, 1) := by decide +kernel
theorem dX11_end_25 : decode cX11_end 25 = .ok (.ireturn, 1) := by decide +kernel
theorem dX11_read_0 : decode cX11_read 0 = .ok (.aload_n 0, 1) := by decide +kernel
theorem dX11_read_1 : decode cX11_read 1 = .ok (.iconst 0, 1) := by decide +kernel
theorem dX11_read_2 : decode cX11_read 2 = .ok (.putfield 33, 3) := by decide +kernel
theorem dX11_read_5 : decode cX11_read 5 = .ok (.aload_n 0, 1) := by decide +kernel
theorem dX11_read_6 : decode cX11_read 6 = .ok (.iload_n 1, 1) := by decide +kernel
theorem dX11_read_7 : decode cX11_read 7 = .ok (.invokevirtual 78, 3) := by decide +kernel
theorem dX11_read_10 : decode cX11_read 10 = .ok (.ifCond .eq 5, 3) := by decide +kernel
theorem dX11_read_13 : decode cX11_read 13 = .ok (.iconst 3, 1) := by decide +kernel
theorem dX11_read_14 : decode cX11_read 14 = .ok (.ireturn, 1) := by decide +kernel
theorem dX11_read_15 : decode cX11_read 15 = .ok (.aload_n 0, 1) := by decide +kernel
theorem dX11_read_16 : decode cX11_read 16 = .ok (.getfield 156, 3) := by decide +kernel
theorem dX11_read_19 : decode cX11_read 19 = .ok (.istore_n 2, 1) := by decide +kernel
theorem dX11_read_20 : decode cX11_read 20 = .ok (.aload_n 0, 1) := by decide +kernel
theorem dX11_read_21 : decode cX11_read 21 = .ok (.iconst 0, 1) := by decide +kernel
theorem dX11_read_22 : decode cX11_read 22 = .ok (.putfield 156, 3) := by decide +kernel
theorem dX11_read_25 : decode cX11_read 25 = .ok (.iload_n 2, 1) := by decide +kernel
theorem dX11_read_26 : decode cX11_read 26 = .ok (.ifCond .le 18, 3) := by decide +kernel
theorem dX11_read_29 : decode cX11_read 29 = .ok (.aload_n 0, 1) := by decide +kernel
theorem dX11_read_30 : decode cX11_read 30 = .ok (.getfield 19, 3) := by decide +kernel
theorem dX11_read_33 : decode cX11_read 33 = .ok (.iconst 0, 1) := by decide +kernel
theorem dX11_read_34 : decode cX11_read 34 = .ok (.baload, 1) := by decide +kernel
theorem dX11_read_35 : decode cX11_read 35 = .ok (.bipush 45, 2) := by decide +kernel
theorem dX11_read_37 : decode cX11_read 37 = .ok (.if_icmp .ne 7, 3) := by decide +kernel
theorem dX11_read_40 : decode cX11_read 40 = .ok (.iconst 1, 1) := by decide +kernel
theorem dX11_read_41 : decode cX11_read 41 = .ok (.goto 4, 3) := by decide +kernel
theorem dX11_read_44 : decode cX11_read 44 = .ok (.iconst 0, 1) := by decide +kernel
theorem dX11_read_45 : decode cX11_read 45 = .ok (.istore_n 3, 1) := by decide +kernel
theorem dX11_read_46 : decode cX11_read 46 = .ok (.iload_n 3, 1) := by decide +kernel
theorem dX11_read_47 : decode cX11_read 47 = .ok (.iload_n 2, 1) := by decide +kernel
theorem dX11_read_48 : decode cX11_read 48 = .ok (.if_icmp .ne 5, 3) := by decide +kernel
theorem dX11_read_51 : decode cX11_read 51 = .ok (.iconst 2, 1) := by decide +kernel
theorem dX11_read_52 : decode cX11_read 52 = .ok (.ireturn, 1) := by decide +kernel
theorem dX11_read_53 : decode cX11_read 53 = .ok (.iload_n 3, 1) := by decide +kernel
theorem dX11_read_54 : decode cX11_read 54 = .ok (.istore 4, 2) := by decide +kernel
theorem dX11_read_56 : decode cX11_read 56 = .ok (.iload 4, 2) := by decide +kernel
theorem dX11_read_58 : decode cX11_read 58 = .ok (.iload_n 2, 1) := by decide +kernel
theorem dX11_read_59 : decode cX11_read 59 = .ok (.if_icmp .ge 35, 3) := by decide +kernel
theorem dX11_read_62 : decode cX11_read 62 = .ok (.aload_n 0, 1) := by decide +kernel
theorem dX11_read_63 : decode cX11_read 63 = .ok (.getfield 19, 3) := by decide +kernel
theorem dX11_read_66 : decode cX11_read 66 = .ok (.iload 4, 2) := by decide +kernel
theorem dX11_read_68 : decode cX11_read 68 = .ok (.baload, 1) := by decide +kernel
theorem dX11_read_69 : decode cX11_read 69 = .ok (.bipush 48, 2) := by decide +kernel
theorem dX11_read_71 : decode cX11_read 71 = .ok (.if_icmp .lt 15, 3) := by decide +kernel
theorem dX11_read_74 : decode cX11_read 74 = .ok (.aload_n 0, 1) := by decide +kernel
theorem dX11_read_75 : decode cX11_read 75 = .ok (.getfield 19, 3) := by decide +kernel
theorem dX11_read_78 : decode cX11_read 78 = .ok (.iload 4, 2) := by decide +kernel
theorem dX11_read_80 : decode cX11_read 80 = .ok (.baload, 1) := by decide +kernel
theorem dX11_read_81 : decode cX11_read 81 = .ok (.bipush 57, 2) := by decide +kernel
theorem dX11_read_83 : decode cX11_read 83 = .ok (.if_icmp .le 5, 3) := by decide +kernel
theorem dX11_read_86 : decode cX11_read 86 = .ok (.iconst 2, 1) := by decide +kernel
theorem dX11_read_87 : decode cX11_read 87 = .ok (.ireturn, 1) := by decide +kernel
theorem dX11_read_88 : decode cX11_read 88 = .ok (.iinc 4 1, 3) := by decide +kernel
theorem dX11_read_91 : decode cX11_read 91 = .ok (.goto (-35), 3) := by decide +kernel
theorem dX11_read_94 : decode cX11_read 94 = .ok (.aload_n 0, 1) := by decide +kernel
theorem dX11_read_95 : decode cX11_read 95 = .ok (.bipush 19, 2) := by decide +kernel
theorem dX11_read_97 : decode cX11_read 97 = .ok (.iconst 0, 1) := by decide +kernel
theorem dX11_read_98 : decode cX11_read 98 = .ok (.invokevirtual 56, 3) := by decide +kernel
theorem dX11_read_101 : decode cX11_read 101 = .ok (.iconst 0, 1) := by decide +kernel
theorem dX11_read_102 : decode cX11_read 102 = .ok (.istore 4, 2) := by decide +kernel
theorem dX11_read_104 : decode cX11_read 104 = .ok (.iload_n 3, 1) := by decide +kernel
theorem dX11_read_105 : decode cX11_read 105 = .ok (.istore 5, 2) := by decide +kernel
theorem dX11_read_107 : decode cX11_read 107 = .ok (.iload 5, 2) := by decide +kernel
theorem dX11_read_109 : decode cX11_read 109 = .ok (.iload_n 2, 1) := by decide +kernel
theorem dX11_read_110 : decode cX11_read 110 = .ok (.if_icmp .ge 133, 3) := by decide +kernel
theorem dX11_read_113 : decode cX11_read 113 = .ok (.iload 4, 2) := by decide +kernel
theorem dX11_read_115 : decode cX11_read 115 = .ok (.ifCond .ne 128, 3) := by decide +kernel
theorem dX11_read_118 : decode cX11_read 118 = .ok (.aload_n 0, 1) := by decide +kernel
theorem dX11_read_119 : decode cX11_read 119 = .ok (.getfield 19, 3) := by decide +kernel
theorem dX11_read_122 : decode cX11_read 122 = .ok (.iload 5, 2) := by decide +kernel
theorem dX11_read_124 : decode cX11_read 124 = .ok (.baload, 1) := by decide +kernel
theorem dX11_read_125 : decode cX11_read 125 = .ok (.bipush 48, 2) := by decide +kernel
theorem dX11_read_127 : decode cX11_read 127 = .ok (.isub, 1) := by decide +kernel
theorem dX11_read_128 : decode cX11_read 128 = .ok (.istore 6, 2) := by decide +kernel
theorem dX11_read_130 : decode cX11_read 130 = .ok (.aload_n 0, 1) := by decide +kernel
theorem dX11_read_131 : decode cX11_read 131 = .ok (.getfield 13, 3) := by decide +kernel
theorem dX11_read_134 : decode cX11_read 134 = .ok (.bipush 19, 2) := by decide +kernel
theorem dX11_read_136 : decode cX11_read 136 = .ok (.iaload, 1) := by decide +kernel
theorem dX11_read_137 : decode cX11_read 137 = .ok (.istore 7, 2) := by decide +kernel
theorem dX11_read_139 : decode cX11_read 139 = .ok (.iconst 0, 1) := by decide +kernel
theorem dX11_read_140 : decode cX11_read 140 = .ok (.istore 8, 2) := by decide +kernel
theorem dX11_read_142 : decode cX11_read 142 = .ok (.iload 8, 2) := by decide +kernel
theorem dX11_read_144 : decode cX11_read 144 = .ok (.iload 7, 2) := by decide +kernel
theorem dX11_read_146 : decode cX11_read 146 = .ok (.if_icmp .ge 51, 3) := by decide +kernel
theorem dX11_read_149 : decode cX11_read 149 = .ok (.iload 6, 2) := by decide +kernel
theorem dX11_read_151 : decode cX11_read 151 = .ok (.bipush 10, 2) := by decide +kernel
theorem dX11_read_153 : decode cX11_read 153 = .ok (.aload_n 0, 1) := by decide +kernel
theorem dX11_read_154 : decode cX11_read 154 = .ok (.getfield 7, 3) := by decide +kernel
theorem dX11_read_157 : decode cX11_read 157 = .ok (.sipush 4940, 3) := by decide +kernel
theorem dX11_read_160 : decode cX11_read 160 = .ok (.iload 8, 2) := by decide +kernel
theorem dX11_read_162 : decode cX11_read 162 = .ok (.iadd, 1) := by decide +kernel
theorem dX11_read_163 : decode cX11_read 163 = .ok (.iaload, 1) := by decide +kernel
theorem dX11_read_164 : decode cX11_read 164 = .ok (.imul, 1) := by decide +kernel
theorem dX11_read_165 : decode cX11_read 165 = .ok (.iadd, 1) := by decide +kernel
theorem dX11_read_166 : decode cX11_read 166 = .ok (.istore 6, 2) := by decide +kernel
theorem dX11_read_168 : decode cX11_read 168 = .ok (.aload_n 0, 1) := by decide +kernel
theorem dX11_read_169 : decode cX11_read 169 = .ok (.getfield 7, 3) := by decide +kernel
theorem dX11_read_172 : decode cX11_read 172 = .ok (.sipush 4940, 3) := by decide +kernel
theorem dX11_read_175 : decode cX11_read 175 = .ok (.iload 8, 2) := by decide +kernel
theorem dX11_read_177 : decode cX11_read 177 = .ok (.iadd, 1) := by decide +kernel
theorem dX11_read_178 : decode cX11_read 178 = .ok (.iload 6, 2) := by decide +kernel
theorem dX11_read_180 : decode cX11_read 180 = .ok (.ldc 40, 2) := by decide +kernel
theorem dX11_read_182 : decode cX11_read 182 = .ok (.iand, 1) := by decide +kernel
theorem dX11_read_183 : decode cX11_read 183 = .ok (.iastore, 1) := by decide +kernel
theorem dX11_read_184 : decode cX11_read 184 = .ok (.iload 6, 2) := by decide +kernel
theorem dX11_read_186 : decode cX11_read 186 = .ok (.bipush 16, 2) := by decide +kernel
theorem dX11_read_188 : decode cX11_read 188 = .ok (.ishr, 1) := by decide +kernel
theorem dX11_read_189 : decode cX11_read 189 = .ok (.istore 6, 2) := by decide +kernel
theorem dX11_read_191 : decode cX11_read 191 = .ok (.iinc 8 1, 3) := by decide +kernel
theorem dX11_read_194 : decode cX11_read 194 = .ok (.goto (-52), 3) := by decide +kernel
theorem dX11_read_197 : decode cX11_read 197 = .ok (.aload_n 0, 1) := by decide +kernel
theorem dX11_read_198 : decode cX11_read 198 = .ok (.getfield 7, 3) := by decide +kernel
theorem dX11_read_201 : decode cX11_read 201 = .ok (.sipush 4940, 3) := by decide +kernel
theorem dX11_read_204 : decode cX11_read 204 = .ok (.iload 7, 2) := by decide +kernel
theorem dX11_read_206 : decode cX11_read 206 = .ok (.iadd, 1) := by decide +kernel
theorem dX11_read_207 : decode cX11_read 207 = .ok (.iload 6, 2) := by decide +kernel
theorem dX11_read_209 : decode cX11_read 209 = .ok (.iastore, 1) := by decide +kernel
theorem dX11_read_210 : decode cX11_read 210 = .ok (.aload_n 0, 1) := by decide +kernel
theorem dX11_read_211 : decode cX11_read 211 = .ok (.bipush 19, 2) := by decide +kernel
theorem dX11_read_213 : decode cX11_read 213 = .ok (.iload 7, 2) := by decide +kernel
theorem dX11_read_215 : decode cX11_read 215 = .ok (.iconst 1, 1) := by decide +kernel
theorem dX11_read_216 : decode cX11_read 216 = .ok (.iadd, 1) := by decide +kernel
theorem dX11_read_217 : decode cX11_read 217 = .ok (.iconst 1, 1) := by decide +kernel
theorem dX11_read_218 : decode cX11_read 218 = .ok (.invokevirtual 41, 3) := by decide +kernel
theorem dX11_read_221 : decode cX11_read 221 = .ok (.aload_n 0, 1) := by decide +kernel
theorem dX11_read_222 : decode cX11_read 222 = .ok (.bipush 19, 2) := by decide +kernel
theorem dX11_read_224 : decode cX11_read 224 = .ok (.invokevirtual 74, 3) := by decide +kernel
theorem dX11_read_227 : decode cX11_read 227 = .ok (.ifCond .ne 7, 3) := by decide +kernel
theorem dX11_read_230 : decode cX11_read 230 = .ok (.iconst 1, 1) := by decide +kernel
theorem dX11_read_231 : decode cX11_read 231 = .ok (.goto 4, 3) := by decide +kernel
theorem dX11_read_234 : decode cX11_read 234 = .ok (.iconst 0, 1) := by decide +kernel
theorem dX11_read_235 : decode cX11_read 235 = .ok (.istore 4, 2) := by decide +kernel
theorem dX11_read_237 : decode cX11_read 237 = .ok (.iinc 5 1, 3) := by decide +kernel
theorem dX11_read_240 : decode cX11_read 240 = .ok (.goto (-133), 3) := by decide +kernel
theorem dX11_read_243 : decode cX11_read 243 = .ok (.iload 4, 2) := by decide +kernel
theorem dX11_read_245 : decode cX11_read 245 = .ok (.ifCond .eq 5, 3) := by decide +kernel
theorem dX11_read_248 : decode cX11_read 248 = .ok (.iconst 1, 1) := by decide +kernel
theorem dX11_read_249 : decode cX11_read 249 = .ok (.ireturn, 1) := by decide +kernel
theorem dX11_read_250 : decode cX11_read 250 = .ok (.aload_n 0, 1) := by decide +kernel
theorem dX11_read_251 : decode cX11_read 251 = .ok (.iload_n 1, 1) := by decide +kernel
theorem dX11_read_252 : decode cX11_read 252 = .ok (.bipush 19, 2) := by decide +kernel
theorem dX11_read_254 : decode cX11_read 254 = .ok (.invokevirtual 45, 3) := by decide +kernel
theorem dX11_read_257 : decode cX11_read 257 = .ok (.iload_n 3, 1) := by decide +kernel
theorem dX11_read_258 : decode cX11_read 258 = .ok (.iconst 1, 1) := by decide +kernel
theorem dX11_read_259 : decode cX11_read 259 = .ok (.if_icmp .ne 16, 3) := by decide +kernel
theorem dX11_read_262 : decode cX11_read 262 = .ok (.aload_n 0, 1) := by decide +kernel
theorem dX11_read_263 : decode cX11_read 263 = .ok (.getfield 16, 3) := by decide +kernel
theorem dX11_read_266 : decode cX11_read 266 = .ok (.iload_n 1, 1) := by decide +kernel
theorem dX11_read_267 : decode cX11_read 267 = .ok (.aload_n 0, 1) := by decide +kernel
theorem dX11_read_268 : decode cX11_read 268 = .ok (.getfield 16, 3) := by decide +kernel
theorem dX11_read_271 : decode cX11_read 271 = .ok (.iload_n 1, 1) := by decide +kernel
theorem dX11_read_272 : decode cX11_read 272 = .ok (.iaload, 1) := by decide +kernel
theorem dX11_read_273 : decode cX11_read 273 = .ok (.ineg, 1) := by decide +kernel
theorem dX11_read_274 : decode cX11_read 274 = .ok (.iastore, 1) := by decide +kernel
theorem dX11_read_275 : decode cX11_read 275 = .ok (.iconst 0, 1) := by decide +kernel
theorem dX11_read_276 : decode cX11_read 276 = .ok (.ireturn, 1) := by decide +kernel
theorem dX11_write_0 : decode cX11_write 0 = .ok (.aload_n 0, 1) := by decide +kernel
theorem dX11_write_1 : decode cX11_write 1 = .ok (.iload_n 1, 1) := by decide +kernel
theorem dX11_write_2 : decode cX11_write 2 = .ok (.invokevirtual 153, 3) := by decide +kernel
theorem dX11_write_5 : decode cX11_write 5 = .ok (.ifCond .eq 5, 3) := by decide +kernel
theorem dX11_write_8 : decode cX11_write 8 = .ok (.iconst 0, 1) := by decide +kernel
theorem dX11_write_9 : decode cX11_write 9 = .ok (.ireturn, 1) := by decide +kernel
theorem dX11_write_10 : decode cX11_write 10 = .ok (.aload_n 0, 1) := by decide +kernel
theorem dX11_write_11 : decode cX11_write 11 = .ok (.bipush 19, 2) := by decide +kernel
theorem dX11_write_13 : decode cX11_write 13 = .ok (.iload_n 1, 1) := by decide +kernel
theorem dX11_write_14 : decode cX11_write 14 = .ok (.invokevirtual 45, 3) := by decide +kernel
theorem dX11_write_17 : decode cX11_write 17 = .ok (.iconst 0, 1) := by decide +kernel
theorem dX11_write_18 : decode cX11_write 18 = .ok (.istore_n 2, 1) := by decide +kernel
theorem dX11_write_19 : decode cX11_write 19 = .ok (.iconst 0, 1) := by decide +kernel
theorem dX11_write_20 : decode cX11_write 20 = .ok (.istore_n 3, 1) := by decide +kernel
theorem dX11_write_21 : decode cX11_write 21 = .ok (.aload_n 0, 1) := by decide +kernel
theorem dX11_write_22 : decode cX11_write 22 = .ok (.getfield 13, 3) := by decide +kernel
theorem dX11_write_25 : decode cX11_write 25 = .ok (.bipush 19, 2) := by decide +kernel
theorem dX11_write_27 : decode cX11_write 27 = .ok (.iaload, 1) := by decide +kernel
theorem dX11_write_28 : decode cX11_write 28 = .ok (.iconst 1, 1) := by decide +kernel
theorem dX11_write_29 : decode cX11_write 29 = .ok (.isub, 1) := by decide +kernel
theorem dX11_write_30 : decode cX11_write 30 = .ok (.istore 4, 2) := by decide +kernel
theorem dX11_write_32 : decode cX11_write 32 = .ok (.iload 4, 2) := by decide +kernel
theorem dX11_write_34 : decode cX11_write 34 = .ok (.ifCond .lt 46, 3) := by decide +kernel
theorem dX11_write_37 : decode cX11_write 37 = .ok (.iload_n 3, 1) := by decide +kernel
theorem dX11_write_38 : decode cX11_write 38 = .ok (.bipush 16, 2) := by decide +kernel
theorem dX11_write_40 : decode cX11_write 40 = .ok (.ishl, 1) := by decide +kernel
theorem dX11_write_41 : decode cX11_write 41 = .ok (.aload_n 0, 1) := by decide +kernel
theorem dX11_write_42 : decode cX11_write 42 = .ok (.getfield 7, 3) := by decide +kernel
theorem dX11_write_45 : decode cX11_write 45 = .ok (.sipush 4940, 3) := by decide +kernel
theorem dX11_write_48 : decode cX11_write 48 = .ok (.iload 4, 2) := by decide +kernel
theorem dX11_write_50 : decode cX11_write 50 = .ok (.iadd, 1) := by decide +kernel
theorem dX11_write_51 : decode cX11_write 51 = .ok (.iaload, 1) := by decide +kernel
theorem dX11_write_52 : decode cX11_write 52 = .ok (.ior, 1) := by decide +kernel
theorem dX11_write_53 : decode cX11_write 53 = .ok (.istore_n 3, 1) := by decide +kernel
theorem dX11_write_54 : decode cX11_write 54 = .ok (.aload_n 0, 1) := by decide +kernel
theorem dX11_write_55 : decode cX11_write 55 = .ok (.getfield 7, 3) := by decide +kernel
theorem dX11_write_58 : decode cX11_write 58 = .ok (.sipush 4940, 3) := by decide +kernel
theorem dX11_write_61 : decode cX11_write 61 = .ok (.iload 4, 2) := by decide +kernel
theorem dX11_write_63 : decode cX11_write 63 = .ok (.iadd, 1) := by decide +kernel
theorem dX11_write_64 : decode cX11_write 64 = .ok (.iload_n 3, 1) := by decide +kernel
theorem dX11_write_65 : decode cX11_write 65 = .ok (.bipush 10, 2) := by decide +kernel
theorem dX11_write_67 : decode cX11_write 67 = .ok (.idiv, 1) := by decide +kernel
theorem dX11_write_68 : decode cX11_write 68 = .ok (.iastore, 1) := by decide +kernel
theorem dX11_write_69 : decode cX11_write 69 = .ok (.iload_n 3, 1) := by decide +kernel
theorem dX11_write_70 : decode cX11_write 70 = .ok (.bipush 10, 2) := by decide +kernel
theorem dX11_write_72 : decode cX11_write 72 = .ok (.irem, 1) := by decide +kernel
theorem dX11_write_73 : decode cX11_write 73 = .ok (.istore_n 3, 1) := by decide +kernel
theorem dX11_write_74 : decode cX11_write 74 = .ok (.iinc 4 (-1), 3) := by decide +kernel
theorem dX11_write_77 : decode cX11_write 77 = .ok (.goto (-45), 3) := by decide +kernel
theorem dX11_write_80 : decode cX11_write 80 = .ok (.aload_n 0, 1) := by decide +kernel
theorem dX11_write_81 : decode cX11_write 81 = .ok (.bipush 19, 2) := by decide +kernel
theorem dX11_write_83 : decode cX11_write 83 = .ok (.aload_n 0, 1) := by decide +kernel
theorem dX11_write_84 : decode cX11_write 84 = .ok (.getfield 13, 3) := by decide +kernel
theorem dX11_write_87 : decode cX11_write 87 = .ok (.bipush 19, 2) := by decide +kernel
theorem dX11_write_89 : decode cX11_write 89 = .ok (.iaload, 1) := by decide +kernel
theorem dX11_write_90 : decode cX11_write 90 = .ok (.iconst 1, 1) := by decide +kernel
theorem dX11_write_91 : decode cX11_write 91 = .ok (.invokevirtual 41, 3) := by decide +kernel
theorem dX11_write_94 : decode cX11_write 94 = .ok (.aload_n 0, 1) := by decide +kernel
theorem dX11_write_95 : decode cX11_write 95 = .ok (.getfield 23, 3) := by decide +kernel
theorem dX11_write_98 : decode cX11_write 98 = .ok (.iload_n 2, 1) := by decide +kernel
theorem dX11_write_99 : decode cX11_write 99 = .ok (.bipush 48, 2) := by decide +kernel
theorem dX11_write_101 : decode cX11_write 101 = .ok (.iload_n 3, 1) := by decide +kernel
theorem dX11_write_102 : decode cX11_write 102 = .ok (.iadd, 1) := by decide +kernel
theorem dX11_write_103 : decode cX11_write 103 = .ok (.i2b, 1) := by decide +kernel
theorem dX11_write_104 : decode cX11_write 104 = .ok (.bastore, 1) := by decide +kernel
theorem dX11_write_105 : decode cX11_write 105 = .ok (.iinc 2 1, 3) := by decide +kernel
theorem dX11_write_108 : decode cX11_write 108 = .ok (.aload_n 0, 1) := by decide +kernel
theorem dX11_write_109 : decode cX11_write 109 = .ok (.getfield 13, 3) := by decide +kernel
theorem dX11_write_112 : decode cX11_write 112 = .ok (.bipush 19, 2) := by decide +kernel
theorem dX11_write_114 : decode cX11_write 114 = .ok (.iaload, 1) := by decide +kernel
theorem dX11_write_115 : decode cX11_write 115 = .ok (.ifCond .gt (-96), 3) := by decide +kernel
theorem dX11_write_118 : decode cX11_write 118 = .ok (.aload_n 0, 1) := by decide +kernel
theorem dX11_write_119 : decode cX11_write 119 = .ok (.getfield 16, 3) := by decide +kernel
theorem dX11_write_122 : decode cX11_write 122 = .ok (.iload_n 1, 1) := by decide +kernel
theorem dX11_write_123 : decode cX11_write 123 = .ok (.iaload, 1) := by decide +kernel
theorem dX11_write_124 : decode cX11_write 124 = .ok (.ifCond .ge 14, 3) := by decide +kernel
theorem dX11_write_127 : decode cX11_write 127 = .ok (.aload_n 0, 1) := by decide +kernel
theorem dX11_write_128 : decode cX11_write 128 = .ok (.getfield 23, 3) := by decide +kernel
theorem dX11_write_131 : decode cX11_write 131 = .ok (.iload_n 2, 1) := by decide +kernel
theorem dX11_write_132 : decode cX11_write 132 = .ok (.bipush 45, 2) := by decide +kernel
theorem dX11_write_134 : decode cX11_write 134 = .ok (.bastore, 1) := by decide +kernel
theorem dX11_write_135 : decode cX11_write 135 = .ok (.iinc 2 1, 3) := by decide +kernel
theorem dX11_write_138 : decode cX11_write 138 = .ok (.iconst 0, 1) := by decide +kernel
theorem dX11_write_139 : decode cX11_write 139 = .ok (.istore_n 3, 1) := by decide +kernel
theorem dX11_write_140 : decode cX11_write 140 = .ok (.iload_n 2, 1) := by decide +kernel
theorem dX11_write_141 : decode cX11_write 141 = .ok (.iconst 1, 1) := by decide +kernel
theorem dX11_write_142 : decode cX11_write 142 = .ok (.isub, 1) := by decide +kernel
theorem dX11_write_143 : decode cX11_write 143 = .ok (.istore 4, 2) := by decide +kernel
theorem dX11_write_145 : decode cX11_write 145 = .ok (.iload_n 3, 1) := by decide +kernel
theorem dX11_write_146 : decode cX11_write 146 = .ok (.iload 4, 2) := by decide +kernel
theorem dX11_write_148 : decode cX11_write 148 = .ok (.if_icmp .ge 42, 3) := by decide +kernel
theorem dX11_write_151 : decode cX11_write 151 = .ok (.aload_n 0, 1) := by decide +kernel
theorem dX11_write_152 : decode cX11_write 152 = .ok (.getfield 23, 3) := by decide +kernel
theorem dX11_write_155 : decode cX11_write 155 = .ok (.iload_n 3, 1) := by decide +kernel
theorem dX11_write_156 : decode cX11_write 156 = .ok (.baload, 1) := by decide +kernel
theorem dX11_write_157 : decode cX11_write 157 = .ok (.istore 5, 2) := by decide +kernel
theorem dX11_write_159 : decode cX11_write 159 = .ok (.aload_n 0, 1) := by decide +kernel
theorem dX11_write_160 : decode cX11_write 160 = .ok (.getfield 23, 3) := by decide +kernel
theorem dX11_write_163 : decode cX11_write 163 = .ok (.iload_n 3, 1) := by decide +kernel
theorem dX11_write_164 : decode cX11_write 164 = .ok (.aload_n 0, 1) := by decide +kernel
theorem dX11_write_165 : decode cX11_write 165 = .ok (.getfield 23, 3) := by decide +kernel
theorem dX11_write_168 : decode cX11_write 168 = .ok (.iload 4, 2) := by decide +kernel
theorem dX11_write_170 : decode cX11_write 170 = .ok (.baload, 1) := by decide +kernel
theorem dX11_write_171 : decode cX11_write 171 = .ok (.bastore, 1) := by decide +kernel
theorem dX11_write_172 : decode cX11_write 172 = .ok (.aload_n 0, 1) := by decide +kernel
theorem dX11_write_173 : decode cX11_write 173 = .ok (.getfield 23, 3) := by decide +kernel
theorem dX11_write_176 : decode cX11_write 176 = .ok (.iload 4, 2) := by decide +kernel
theorem dX11_write_178 : decode cX11_write 178 = .ok (.iload 5, 2) := by decide +kernel
theorem dX11_write_180 : decode cX11_write 180 = .ok (.bastore, 1) := by decide +kernel
theorem dX11_write_181 : decode cX11_write 181 = .ok (.iinc 3 1, 3) := by decide +kernel
theorem dX11_write_184 : decode cX11_write 184 = .ok (.iinc 4 (-1), 3) := by decide +kernel
theorem dX11_write_187 : decode cX11_write 187 = .ok (.goto (-42), 3) := by decide +kernel
theorem dX11_write_190 : decode cX11_write 190 = .ok (.aload_n 0, 1) := by decide +kernel
theorem dX11_write_191 : decode cX11_write 191 = .ok (.iload_n 2, 1) := by decide +kernel
theorem dX11_write_192 : decode cX11_write 192 = .ok (.putfield 162, 3) := by decide +kernel
theorem dX11_write_195 : decode cX11_write 195 = .ok (.iload_n 2, 1) := by decide +kernel
theorem dX11_write_196 : decode cX11_write 196 = .ok (.ireturn, 1) := by decide +kernel
theorem dX11_octet_0 : decode cX11_octet 0 = .ok (.aload_n 0, 1) := by decide +kernel
theorem dX11_octet_1 : decode cX11_octet 1 = .ok (.iconst 0, 1) := by decide +kernel
theorem dX11_octet_2 : decode cX11_octet 2 = .ok (.putfield 33, 3) := by decide +kernel
theorem dX11_octet_5 : decode cX11_octet 5 = .ok (.iload_n 1, 1) := by decide +kernel
theorem dX11_octet_6 : decode cX11_octet 6 = .ok (.ifCond .lt 20, 3) := by decide +kernel
theorem dX11_octet_9 : decode cX11_octet 9 = .ok (.iload_n 1, 1) := by decide +kernel
theorem dX11_octet_10 : decode cX11_octet 10 = .ok (.aload_n 0, 1) := by decide +kernel
theorem dX11_octet_11 : decode cX11_octet 11 = .ok (.getfield 162, 3) := by decide +kernel
theorem dX11_octet_14 : decode cX11_octet 14 = .ok (.if_icmp .ge 12, 3) := by decide +kernel
theorem dX11_octet_17 : decode cX11_octet 17 = .ok (.aload_n 0, 1) := by decide +kernel
theorem dX11_octet_18 : decode cX11_octet 18 = .ok (.getfield 23, 3) := by decide +kernel
theorem dX11_octet_21 : decode cX11_octet 21 = .ok (.iload_n 1, 1) := by decide +kernel
theorem dX11_octet_22 : decode cX11_octet 22 = .ok (.baload, 1) := by decide +kernel
theorem dX11_octet_23 : decode cX11_octet 23 = .ok (.goto 4, 3) := by decide +kernel
theorem dX11_octet_26 : decode cX11_octet 26 = .ok (.iconst (-1), 1) := by decide +kernel
theorem dX11_octet_27 : decode cX11_octet 27 = .ok (.ireturn, 1) := by decide +kernel
theorem dX11_count_0 : decode cX11_count 0 = .ok (.aload_n 0, 1) := by decide +kernel
theorem dX11_count_1 : decode cX11_count 1 = .ok (.iconst 0, 1) := by decide +kernel
theorem dX11_count_2 : decode cX11_count 2 = .ok (.putfield 33, 3) := by decide +kernel
theorem dX11_count_5 : decode cX11_count 5 = .ok (.iload_n 1, 1) := by decide +kernel
theorem dX11_count_6 : decode cX11_count 6 = .ok (.ifCond .ne 10, 3) := by decide +kernel
theorem dX11_count_9 : decode cX11_count 9 = .ok (.aload_n 0, 1) := by decide +kernel
theorem dX11_count_10 : decode cX11_count 10 = .ok (.getfield 26, 3) := by decide +kernel
theorem dX11_count_13 : decode cX11_count 13 = .ok (.goto 40, 3) := by decide +kernel
end
section
theorem dX11_count_16 : decode cX11_count 16 = .ok (.iload_n 1, 1) := by decide +kernel
theorem dX11_count_17 : decode cX11_count 17 = .ok (.iconst 1, 1) := by decide +kernel
theorem dX11_count_18 : decode cX11_count 18 = .ok (.if_icmp .ne 10, 3) := by decide +kernel
theorem dX11_count_21 : decode cX11_count 21 = .ok (.aload_n 0, 1) := by decide +kernel
theorem dX11_count_22 : decode cX11_count 22 = .ok (.getfield 30, 3) := by decide +kernel
theorem dX11_count_25 : decode cX11_count 25 = .ok (.goto 28, 3) := by decide +kernel
theorem dX11_count_28 : decode cX11_count 28 = .ok (.iload_n 1, 1) := by decide +kernel
theorem dX11_count_29 : decode cX11_count 29 = .ok (.iconst 2, 1) := by decide +kernel
theorem dX11_count_30 : decode cX11_count 30 = .ok (.if_icmp .ne 10, 3) := by decide +kernel
theorem dX11_count_33 : decode cX11_count 33 = .ok (.aload_n 0, 1) := by decide +kernel
theorem dX11_count_34 : decode cX11_count 34 = .ok (.getfield 156, 3) := by decide +kernel
theorem dX11_count_37 : decode cX11_count 37 = .ok (.goto 16, 3) := by decide +kernel
theorem dX11_count_40 : decode cX11_count 40 = .ok (.iload_n 1, 1) := by decide +kernel
theorem dX11_count_41 : decode cX11_count 41 = .ok (.iconst 3, 1) := by decide +kernel
theorem dX11_count_42 : decode cX11_count 42 = .ok (.if_icmp .ne 10, 3) := by decide +kernel
theorem dX11_count_45 : decode cX11_count 45 = .ok (.aload_n 0, 1) := by decide +kernel
theorem dX11_count_46 : decode cX11_count 46 = .ok (.getfield 162, 3) := by decide +kernel
theorem dX11_count_49 : decode cX11_count 49 = .ok (.goto 4, 3) := by decide +kernel
theorem dX11_count_52 : decode cX11_count 52 = .ok (.iconst (-1), 1) := by decide +kernel
theorem dX11_count_53 : decode cX11_count 53 = .ok (.ireturn, 1) := by decide +kernel
theorem dL_cell_0 : decode cL_cell 0 = .ok (.iload_n 1, 1) := by decide +kernel
theorem dL_cell_1 : decode cL_cell 1 = .ok (.aload_n 0, 1) := by decide +kernel
theorem dL_cell_2 : decode cL_cell 2 = .ok (.arraylength, 1) := by decide +kernel
theorem dL_cell_3 : decode cL_cell 3 = .ok (.if_icmp .ge 9, 3) := by decide +kernel
theorem dL_cell_6 : decode cL_cell 6 = .ok (.aload_n 0, 1) := by decide +kernel
theorem dL_cell_7 : decode cL_cell 7 = .ok (.iload_n 1, 1) := by decide +kernel
theorem dL_cell_8 : decode cL_cell 8 = .ok (.iaload, 1) := by decide +kernel
theorem dL_cell_9 : decode cL_cell 9 = .ok (.goto 4, 3) := by decide +kernel
theorem dL_cell_12 : decode cL_cell 12 = .ok (.iconst 0, 1) := by decide +kernel
theorem dL_cell_13 : decode cL_cell 13 = .ok (.ireturn, 1) := by decide +kernel
theorem dL_sign_0 : decode cL_sign 0 = .ok (.aload_n 2, 1) := by decide +kernel
theorem dL_sign_1 : decode cL_sign 1 = .ok (.iconst 0, 1) := by decide +kernel
theorem dL_sign_2 : decode cL_sign 2 = .ok (.aload_n 0, 1) := by decide +kernel
theorem dL_sign_3 : decode cL_sign 3 = .ok (.iload_n 1, 1) := by decide +kernel
theorem dL_sign_4 : decode cL_sign 4 = .ok (.invokevirtual 7, 3) := by decide +kernel
theorem dL_sign_7 : decode cL_sign 7 = .ok (.i2l, 1) := by decide +kernel
theorem dL_sign_8 : decode cL_sign 8 = .ok (.lastore, 1) := by decide +kernel
theorem dL_sign_9 : decode cL_sign 9 = .ok (.goto 6, 3) := by decide +kernel
theorem dL_sign_12 : decode cL_sign 12 = .ok (.astore_n 3, 1) := by decide +kernel
theorem dL_sign_13 : decode cL_sign 13 = .ok (.iconst 1, 1) := by decide +kernel
theorem dL_sign_14 : decode cL_sign 14 = .ok (.ireturn, 1) := by decide +kernel
theorem dL_sign_15 : decode cL_sign 15 = .ok (.iconst 0, 1) := by decide +kernel
theorem dL_sign_16 : decode cL_sign 16 = .ok (.ireturn, 1) := by decide +kernel
theorem dL_length_0 : decode cL_length 0 = .ok (.aload_n 2, 1) := by decide +kernel
theorem dL_length_1 : decode cL_length 1 = .ok (.iconst 0, 1) := by decide +kernel
theorem dL_length_2 : decode cL_length 2 = .ok (.aload_n 0, 1) := by decide +kernel
theorem dL_length_3 : decode cL_length 3 = .ok (.iload_n 1, 1) := by decide +kernel
theorem dL_length_4 : decode cL_length 4 = .ok (.invokevirtual 15, 3) := by decide +kernel
theorem dL_length_7 : decode cL_length 7 = .ok (.i2l, 1) := by decide +kernel
theorem dL_length_8 : decode cL_length 8 = .ok (.lastore, 1) := by decide +kernel
theorem dL_length_9 : decode cL_length 9 = .ok (.goto 6, 3) := by decide +kernel
theorem dL_length_12 : decode cL_length 12 = .ok (.astore_n 3, 1) := by decide +kernel
theorem dL_length_13 : decode cL_length 13 = .ok (.iconst 1, 1) := by decide +kernel
theorem dL_length_14 : decode cL_length 14 = .ok (.ireturn, 1) := by decide +kernel
theorem dL_length_15 : decode cL_length 15 = .ok (.iconst 0, 1) := by decide +kernel
theorem dL_length_16 : decode cL_length 16 = .ok (.ireturn, 1) := by decide +kernel
theorem dL_limbAt_0 : decode cL_limbAt 0 = .ok (.aload_n 3, 1) := by decide +kernel
theorem dL_limbAt_1 : decode cL_limbAt 1 = .ok (.iconst 0, 1) := by decide +kernel
theorem dL_limbAt_2 : decode cL_limbAt 2 = .ok (.aload_n 0, 1) := by decide +kernel
theorem dL_limbAt_3 : decode cL_limbAt 3 = .ok (.iload_n 1, 1) := by decide +kernel
theorem dL_limbAt_4 : decode cL_limbAt 4 = .ok (.iload_n 2, 1) := by decide +kernel
theorem dL_limbAt_5 : decode cL_limbAt 5 = .ok (.invokevirtual 18, 3) := by decide +kernel
theorem dL_limbAt_8 : decode cL_limbAt 8 = .ok (.i2l, 1) := by decide +kernel
theorem dL_limbAt_9 : decode cL_limbAt 9 = .ok (.lastore, 1) := by decide +kernel
theorem dL_limbAt_10 : decode cL_limbAt 10 = .ok (.goto 7, 3) := by decide +kernel
theorem dL_limbAt_13 : decode cL_limbAt 13 = .ok (.astore 4, 2) := by decide +kernel
theorem dL_limbAt_15 : decode cL_limbAt 15 = .ok (.iconst 1, 1) := by decide +kernel
theorem dL_limbAt_16 : decode cL_limbAt 16 = .ok (.ireturn, 1) := by decide +kernel
theorem dL_limbAt_17 : decode cL_limbAt 17 = .ok (.iconst 0, 1) := by decide +kernel
theorem dL_limbAt_18 : decode cL_limbAt 18 = .ok (.ireturn, 1) := by decide +kernel
theorem dL_write_0 : decode cL_write 0 = .ok (.aload_n 2, 1) := by decide +kernel
theorem dL_write_1 : decode cL_write 1 = .ok (.iconst 0, 1) := by decide +kernel
theorem dL_write_2 : decode cL_write 2 = .ok (.aload_n 0, 1) := by decide +kernel
theorem dL_write_3 : decode cL_write 3 = .ok (.iload_n 1, 1) := by decide +kernel
theorem dL_write_4 : decode cL_write 4 = .ok (.invokevirtual 22, 3) := by decide +kernel
theorem dL_write_7 : decode cL_write 7 = .ok (.i2l, 1) := by decide +kernel
theorem dL_write_8 : decode cL_write 8 = .ok (.lastore, 1) := by decide +kernel
theorem dL_write_9 : decode cL_write 9 = .ok (.goto 6, 3) := by decide +kernel
theorem dL_write_12 : decode cL_write 12 = .ok (.astore_n 3, 1) := by decide +kernel
theorem dL_write_13 : decode cL_write 13 = .ok (.iconst 1, 1) := by decide +kernel
theorem dL_write_14 : decode cL_write 14 = .ok (.ireturn, 1) := by decide +kernel
theorem dL_write_15 : decode cL_write 15 = .ok (.iconst 0, 1) := by decide +kernel
theorem dL_write_16 : decode cL_write 16 = .ok (.ireturn, 1) := by decide +kernel
theorem dL_law_0 : decode cL_law 0 = .ok (.new 8, 3) := by decide +kernel
theorem dL_law_3 : decode cL_law 3 = .ok (.dup, 1) := by decide +kernel
theorem dL_law_4 : decode cL_law 4 = .ok (.aload_n 0, 1) := by decide +kernel
theorem dL_law_5 : decode cL_law 5 = .ok (.iconst 0, 1) := by decide +kernel
theorem dL_law_6 : decode cL_law 6 = .ok (.invokestatic 25, 3) := by decide +kernel
theorem dL_law_9 : decode cL_law 9 = .ok (.aload_n 0, 1) := by decide +kernel
theorem dL_law_10 : decode cL_law 10 = .ok (.iconst 1, 1) := by decide +kernel
theorem dL_law_11 : decode cL_law 11 = .ok (.invokestatic 25, 3) := by decide +kernel
theorem dL_law_14 : decode cL_law 14 = .ok (.invokespecial 31, 3) := by decide +kernel
theorem dL_law_17 : decode cL_law 17 = .ok (.astore_n 1, 1) := by decide +kernel
theorem dL_law_18 : decode cL_law 18 = .ok (.new 34, 3) := by decide +kernel
theorem dL_law_21 : decode cL_law 21 = .ok (.dup, 1) := by decide +kernel
theorem dL_law_22 : decode cL_law 22 = .ok (.aload_n 0, 1) := by decide +kernel
theorem dL_law_23 : decode cL_law 23 = .ok (.iconst 0, 1) := by decide +kernel
theorem dL_law_24 : decode cL_law 24 = .ok (.invokestatic 25, 3) := by decide +kernel
theorem dL_law_27 : decode cL_law 27 = .ok (.aload_n 0, 1) := by decide +kernel
theorem dL_law_28 : decode cL_law 28 = .ok (.iconst 1, 1) := by decide +kernel
theorem dL_law_29 : decode cL_law 29 = .ok (.invokestatic 25, 3) := by decide +kernel
theorem dL_law_32 : decode cL_law 32 = .ok (.invokespecial 36, 3) := by decide +kernel
theorem dL_law_35 : decode cL_law 35 = .ok (.astore_n 2, 1) := by decide +kernel
theorem dL_law_36 : decode cL_law 36 = .ok (.iconst 1, 1) := by decide +kernel
theorem dL_law_37 : decode cL_law 37 = .ok (.newarray .long, 2) := by decide +kernel
theorem dL_law_39 : decode cL_law 39 = .ok (.astore_n 3, 1) := by decide +kernel
theorem dL_law_40 : decode cL_law 40 = .ok (.iconst 2, 1) := by decide +kernel
theorem dL_law_41 : decode cL_law 41 = .ok (.istore 4, 2) := by decide +kernel
theorem dL_law_43 : decode cL_law 43 = .ok (.iload 4, 2) := by decide +kernel
theorem dL_law_45 : decode cL_law 45 = .ok (.aload_n 0, 1) := by decide +kernel
theorem dL_law_46 : decode cL_law 46 = .ok (.arraylength, 1) := by decide +kernel
theorem dL_law_47 : decode cL_law 47 = .ok (.bipush 6, 2) := by decide +kernel
theorem dL_law_49 : decode cL_law 49 = .ok (.isub, 1) := by decide +kernel
theorem dL_law_50 : decode cL_law 50 = .ok (.if_icmp .gt 1441, 3) := by decide +kernel
theorem dL_law_53 : decode cL_law 53 = .ok (.aload_n 0, 1) := by decide +kernel
theorem dL_law_54 : decode cL_law 54 = .ok (.iload 4, 2) := by decide +kernel
theorem dL_law_56 : decode cL_law 56 = .ok (.iaload, 1) := by decide +kernel
theorem dL_law_57 : decode cL_law 57 = .ok (.bipush 31, 2) := by decide +kernel
theorem dL_law_59 : decode cL_law 59 = .ok (.iand, 1) := by decide +kernel
theorem dL_law_60 : decode cL_law 60 = .ok (.tableswitch 1425 0 28 #[132, 169, 194, 231, 280, 329, 378, 439, 488, 525, 574, 623, 672, 685, 758, 807, 868, 905, 954, 979, 1016, 1072, 1128, 1196, 1269, 1294, 1319, 1375, 1400], 132) := by decide +kernel
theorem dL_law_192 : decode cL_law 192 = .ok (.aload_n 1, 1) := by decide +kernel
theorem dL_law_193 : decode cL_law 193 = .ok (.aload_n 0, 1) := by decide +kernel
theorem dL_law_194 : decode cL_law 194 = .ok (.iload 4, 2) := by decide +kernel
theorem dL_law_196 : decode cL_law 196 = .ok (.iconst 1, 1) := by decide +kernel
theorem dL_law_197 : decode cL_law 197 = .ok (.iadd, 1) := by decide +kernel
theorem dL_law_198 : decode cL_law 198 = .ok (.iaload, 1) := by decide +kernel
theorem dL_law_199 : decode cL_law 199 = .ok (.aload_n 0, 1) := by decide +kernel
theorem dL_law_200 : decode cL_law 200 = .ok (.iload 4, 2) := by decide +kernel
theorem dL_law_202 : decode cL_law 202 = .ok (.iconst 2, 1) := by decide +kernel
theorem dL_law_203 : decode cL_law 203 = .ok (.iadd, 1) := by decide +kernel
theorem dL_law_204 : decode cL_law 204 = .ok (.iaload, 1) := by decide +kernel
theorem dL_law_205 : decode cL_law 205 = .ok (.invokevirtual 37, 3) := by decide +kernel
theorem dL_law_208 : decode cL_law 208 = .ok (.aload_n 2, 1) := by decide +kernel
theorem dL_law_209 : decode cL_law 209 = .ok (.aload_n 0, 1) := by decide +kernel
theorem dL_law_210 : decode cL_law 210 = .ok (.iload 4, 2) := by decide +kernel
theorem dL_law_212 : decode cL_law 212 = .ok (.iconst 1, 1) := by decide +kernel
theorem dL_law_213 : decode cL_law 213 = .ok (.iadd, 1) := by decide +kernel
theorem dL_law_214 : decode cL_law 214 = .ok (.iaload, 1) := by decide +kernel
theorem dL_law_215 : decode cL_law 215 = .ok (.aload_n 0, 1) := by decide +kernel
theorem dL_law_216 : decode cL_law 216 = .ok (.iload 4, 2) := by decide +kernel
theorem dL_law_218 : decode cL_law 218 = .ok (.iconst 2, 1) := by decide +kernel
theorem dL_law_219 : decode cL_law 219 = .ok (.iadd, 1) := by decide +kernel
theorem dL_law_220 : decode cL_law 220 = .ok (.iaload, 1) := by decide +kernel
theorem dL_law_221 : decode cL_law 221 = .ok (.invokevirtual 40, 3) := by decide +kernel
theorem dL_law_224 : decode cL_law 224 = .ok (.if_icmp .eq 1261, 3) := by decide +kernel
theorem dL_law_227 : decode cL_law 227 = .ok (.iconst 0, 1) := by decide +kernel
theorem dL_law_228 : decode cL_law 228 = .ok (.ireturn, 1) := by decide +kernel
theorem dL_law_229 : decode cL_law 229 = .ok (.aload_n 1, 1) := by decide +kernel
theorem dL_law_230 : decode cL_law 230 = .ok (.aload_n 0, 1) := by decide +kernel
theorem dL_law_231 : decode cL_law 231 = .ok (.iload 4, 2) := by decide +kernel
theorem dL_law_233 : decode cL_law 233 = .ok (.iconst 1, 1) := by decide +kernel
theorem dL_law_234 : decode cL_law 234 = .ok (.iadd, 1) := by decide +kernel
theorem dL_law_235 : decode cL_law 235 = .ok (.iaload, 1) := by decide +kernel
theorem dL_law_236 : decode cL_law 236 = .ok (.invokevirtual 41, 3) := by decide +kernel
theorem dL_law_239 : decode cL_law 239 = .ok (.aload_n 2, 1) := by decide +kernel
theorem dL_law_240 : decode cL_law 240 = .ok (.aload_n 0, 1) := by decide +kernel
theorem dL_law_241 : decode cL_law 241 = .ok (.iload 4, 2) := by decide +kernel
theorem dL_law_243 : decode cL_law 243 = .ok (.iconst 1, 1) := by decide +kernel
theorem dL_law_244 : decode cL_law 244 = .ok (.iadd, 1) := by decide +kernel
theorem dL_law_245 : decode cL_law 245 = .ok (.iaload, 1) := by decide +kernel
theorem dL_law_246 : decode cL_law 246 = .ok (.invokevirtual 45, 3) := by decide +kernel
theorem dL_law_249 : decode cL_law 249 = .ok (.if_icmp .eq 1236, 3) := by decide +kernel
theorem dL_law_252 : decode cL_law 252 = .ok (.iconst 0, 1) := by decide +kernel
theorem dL_law_253 : decode cL_law 253 = .ok (.ireturn, 1) := by decide +kernel
theorem dL_law_254 : decode cL_law 254 = .ok (.aload_n 1, 1) := by decide +kernel
theorem dL_law_255 : decode cL_law 255 = .ok (.aload_n 0, 1) := by decide +kernel
theorem dL_law_256 : decode cL_law 256 = .ok (.iload 4, 2) := by decide +kernel
theorem dL_law_258 : decode cL_law 258 = .ok (.iconst 1, 1) := by decide +kernel
theorem dL_law_259 : decode cL_law 259 = .ok (.iadd, 1) := by decide +kernel
theorem dL_law_260 : decode cL_law 260 = .ok (.iaload, 1) := by decide +kernel
theorem dL_law_261 : decode cL_law 261 = .ok (.aload_n 0, 1) := by decide +kernel
theorem dL_law_262 : decode cL_law 262 = .ok (.iload 4, 2) := by decide +kernel
theorem dL_law_264 : decode cL_law 264 = .ok (.iconst 2, 1) := by decide +kernel
theorem dL_law_265 : decode cL_law 265 = .ok (.iadd, 1) := by decide +kernel
theorem dL_law_266 : decode cL_law 266 = .ok (.iaload, 1) := by decide +kernel
theorem dL_law_267 : decode cL_law 267 = .ok (.invokevirtual 46, 3) := by decide +kernel
theorem dL_law_270 : decode cL_law 270 = .ok (.aload_n 2, 1) := by decide +kernel
theorem dL_law_271 : decode cL_law 271 = .ok (.aload_n 0, 1) := by decide +kernel
theorem dL_law_272 : decode cL_law 272 = .ok (.iload 4, 2) := by decide +kernel
theorem dL_law_274 : decode cL_law 274 = .ok (.iconst 1, 1) := by decide +kernel
theorem dL_law_275 : decode cL_law 275 = .ok (.iadd, 1) := by decide +kernel
theorem dL_law_276 : decode cL_law 276 = .ok (.iaload, 1) := by decide +kernel
theorem dL_law_277 : decode cL_law 277 = .ok (.aload_n 0, 1) := by decide +kernel
theorem dL_law_278 : decode cL_law 278 = .ok (.iload 4, 2) := by decide +kernel
theorem dL_law_280 : decode cL_law 280 = .ok (.iconst 2, 1) := by decide +kernel
theorem dL_law_281 : decode cL_law 281 = .ok (.iadd, 1) := by decide +kernel
theorem dL_law_282 : decode cL_law 282 = .ok (.iaload, 1) := by decide +kernel
theorem dL_law_283 : decode cL_law 283 = .ok (.invokevirtual 49, 3) := by decide +kernel
theorem dL_law_286 : decode cL_law 286 = .ok (.if_icmp .eq 1199, 3) := by decide +kernel
theorem dL_law_289 : decode cL_law 289 = .ok (.iconst 0, 1) := by decide +kernel
theorem dL_law_290 : decode cL_law 290 = .ok (.ireturn, 1) := by decide +kernel
theorem dL_law_291 : decode cL_law 291 = .ok (.aload_n 1, 1) := by decide +kernel
theorem dL_law_292 : decode cL_law 292 = .ok (.aload_n 0, 1) := by decide +kernel
theorem dL_law_293 : decode cL_law 293 = .ok (.iload 4, 2) := by decide +kernel
theorem dL_law_295 : decode cL_law 295 = .ok (.iconst 1, 1) := by decide +kernel
theorem dL_law_296 : decode cL_law 296 = .ok (.iadd, 1) := by decide +kernel
theorem dL_law_297 : decode cL_law 297 = .ok (.iaload, 1) := by decide +kernel
theorem dL_law_298 : decode cL_law 298 = .ok (.aload_n 0, 1) := by decide +kernel
theorem dL_law_299 : decode cL_law 299 = .ok (.iload 4, 2) := by decide +kernel
theorem dL_law_301 : decode cL_law 301 = .ok (.iconst 2, 1) := by decide +kernel
theorem dL_law_302 : decode cL_law 302 = .ok (.iadd, 1) := by decide +kernel
theorem dL_law_303 : decode cL_law 303 = .ok (.iaload, 1) := by decide +kernel
theorem dL_law_304 : decode cL_law 304 = .ok (.aload_n 0, 1) := by decide +kernel
theorem dL_law_305 : decode cL_law 305 = .ok (.iload 4, 2) := by decide +kernel
theorem dL_law_307 : decode cL_law 307 = .ok (.iconst 3, 1) := by decide +kernel
theorem dL_law_308 : decode cL_law 308 = .ok (.iadd, 1) := by decide +kernel
theorem dL_law_309 : decode cL_law 309 = .ok (.iaload, 1) := by decide +kernel
theorem dL_law_310 : decode cL_law 310 = .ok (.invokevirtual 50, 3) := by decide +kernel
theorem dL_law_313 : decode cL_law 313 = .ok (.aload_n 2, 1) := by decide +kernel
theorem dL_law_314 : decode cL_law 314 = .ok (.aload_n 0, 1) := by decide +kernel
theorem dL_law_315 : decode cL_law 315 = .ok (.iload 4, 2) := by decide +kernel
theorem dL_law_317 : decode cL_law 317 = .ok (.iconst 1, 1) := by decide +kernel
theorem dL_law_318 : decode cL_law 318 = .ok (.iadd, 1) := by decide +kernel
theorem dL_law_319 : decode cL_law 319 = .ok (.iaload, 1) := by decide +kernel
theorem dL_law_320 : decode cL_law 320 = .ok (.aload_n 0, 1) := by decide +kernel
theorem dL_law_321 : decode cL_law 321 = .ok (.iload 4, 2) := by decide +kernel
theorem dL_law_323 : decode cL_law 323 = .ok (.iconst 2, 1) := by decide +kernel
theorem dL_law_324 : decode cL_law 324 = .ok (.iadd, 1) := by decide +kernel
theorem dL_law_325 : decode cL_law 325 = .ok (.iaload, 1) := by decide +kernel
theorem dL_law_326 : decode cL_law 326 = .ok (.aload_n 0, 1) := by decide +kernel
theorem dL_law_327 : decode cL_law 327 = .ok (.iload 4, 2) := by decide +kernel
theorem dL_law_329 : decode cL_law 329 = .ok (.iconst 3, 1) := by decide +kernel
theorem dL_law_330 : decode cL_law 330 = .ok (.iadd, 1) := by decide +kernel
theorem dL_law_331 : decode cL_law 331 = .ok (.iaload, 1) := by decide +kernel
theorem dL_law_332 : decode cL_law 332 = .ok (.invokevirtual 54, 3) := by decide +kernel
theorem dL_law_335 : decode cL_law 335 = .ok (.if_icmp .eq 1150, 3) := by decide +kernel
theorem dL_law_338 : decode cL_law 338 = .ok (.iconst 0, 1) := by decide +kernel
theorem dL_law_339 : decode cL_law 339 = .ok (.ireturn, 1) := by decide +kernel
theorem dL_law_340 : decode cL_law 340 = .ok (.aload_n 1, 1) := by decide +kernel
theorem dL_law_341 : decode cL_law 341 = .ok (.aload_n 0, 1) := by decide +kernel
theorem dL_law_342 : decode cL_law 342 = .ok (.iload 4, 2) := by decide +kernel
theorem dL_law_344 : decode cL_law 344 = .ok (.iconst 1, 1) := by decide +kernel
theorem dL_law_345 : decode cL_law 345 = .ok (.iadd, 1) := by decide +kernel
theorem dL_law_346 : decode cL_law 346 = .ok (.iaload, 1) := by decide +kernel
theorem dL_law_347 : decode cL_law 347 = .ok (.aload_n 0, 1) := by decide +kernel
theorem dL_law_348 : decode cL_law 348 = .ok (.iload 4, 2) := by decide +kernel
theorem dL_law_350 : decode cL_law 350 = .ok (.iconst 2, 1) := by decide +kernel
theorem dL_law_351 : decode cL_law 351 = .ok (.iadd, 1) := by decide +kernel
theorem dL_law_352 : decode cL_law 352 = .ok (.iaload, 1) := by decide +kernel
theorem dL_law_353 : decode cL_law 353 = .ok (.aload_n 0, 1) := by decide +kernel
theorem dL_law_354 : decode cL_law 354 = .ok (.iload 4, 2) := by decide +kernel
theorem dL_law_356 : decode cL_law 356 = .ok (.iconst 3, 1) := by decide +kernel
theorem dL_law_357 : decode cL_law 357 = .ok (.iadd, 1) := by decide +kernel
theorem dL_law_358 : decode cL_law 358 = .ok (.iaload, 1) := by decide +kernel
theorem dL_law_359 : decode cL_law 359 = .ok (.invokevirtual 55, 3) := by decide +kernel
theorem dL_law_362 : decode cL_law 362 = .ok (.aload_n 2, 1) := by decide +kernel
theorem dL_law_363 : decode cL_law 363 = .ok (.aload_n 0, 1) := by decide +kernel
theorem dL_law_364 : decode cL_law 364 = .ok (.iload 4, 2) := by decide +kernel
theorem dL_law_366 : decode cL_law 366 = .ok (.iconst 1, 1) := by decide +kernel
theorem dL_law_367 : decode cL_law 367 = .ok (.iadd, 1) := by decide +kernel
theorem dL_law_368 : decode cL_law 368 = .ok (.iaload, 1) := by decide +kernel
theorem dL_law_369 : decode cL_law 369 = .ok (.aload_n 0, 1) := by decide +kernel
theorem dL_law_370 : decode cL_law 370 = .ok (.iload 4, 2) := by decide +kernel
theorem dL_law_372 : decode cL_law 372 = .ok (.iconst 2, 1) := by decide +kernel
theorem dL_law_373 : decode cL_law 373 = .ok (.iadd, 1) := by decide +kernel
theorem dL_law_374 : decode cL_law 374 = .ok (.iaload, 1) := by decide +kernel
theorem dL_law_375 : decode cL_law 375 = .ok (.aload_n 0, 1) := by decide +kernel
theorem dL_law_376 : decode cL_law 376 = .ok (.iload 4, 2) := by decide +kernel
theorem dL_law_378 : decode cL_law 378 = .ok (.iconst 3, 1) := by decide +kernel
theorem dL_law_379 : decode cL_law 379 = .ok (.iadd, 1) := by decide +kernel
theorem dL_law_380 : decode cL_law 380 = .ok (.iaload, 1) := by decide +kernel
theorem dL_law_381 : decode cL_law 381 = .ok (.invokevirtual 58, 3) := by decide +kernel
theorem dL_law_384 : decode cL_law 384 = .ok (.if_icmp .eq 1101, 3) := by decide +kernel
theorem dL_law_387 : decode cL_law 387 = .ok (.iconst 0, 1) := by decide +kernel
theorem dL_law_388 : decode cL_law 388 = .ok (.ireturn, 1) := by decide +kernel
theorem dL_law_389 : decode cL_law 389 = .ok (.aload_n 1, 1) := by decide +kernel
theorem dL_law_390 : decode cL_law 390 = .ok (.aload_n 0, 1) := by decide +kernel
theorem dL_law_391 : decode cL_law 391 = .ok (.iload 4, 2) := by decide +kernel
theorem dL_law_393 : decode cL_law 393 = .ok (.iconst 1, 1) := by decide +kernel
theorem dL_law_394 : decode cL_law 394 = .ok (.iadd, 1) := by decide +kernel
theorem dL_law_395 : decode cL_law 395 = .ok (.iaload, 1) := by decide +kernel
theorem dL_law_396 : decode cL_law 396 = .ok (.aload_n 0, 1) := by decide +kernel
theorem dL_law_397 : decode cL_law 397 = .ok (.iload 4, 2) := by decide +kernel
theorem dL_law_399 : decode cL_law 399 = .ok (.iconst 2, 1) := by decide +kernel
theorem dL_law_400 : decode cL_law 400 = .ok (.iadd, 1) := by decide +kernel
theorem dL_law_401 : decode cL_law 401 = .ok (.iaload, 1) := by decide +kernel
theorem dL_law_402 : decode cL_law 402 = .ok (.aload_n 0, 1) := by decide +kernel
theorem dL_law_403 : decode cL_law 403 = .ok (.iload 4, 2) := by decide +kernel
theorem dL_law_405 : decode cL_law 405 = .ok (.iconst 3, 1) := by decide +kernel
theorem dL_law_406 : decode cL_law 406 = .ok (.iadd, 1) := by decide +kernel
theorem dL_law_407 : decode cL_law 407 = .ok (.iaload, 1) := by decide +kernel
theorem dL_law_408 : decode cL_law 408 = .ok (.invokevirtual 59, 3) := by decide +kernel
theorem dL_law_411 : decode cL_law 411 = .ok (.aload_n 2, 1) := by decide +kernel
theorem dL_law_412 : decode cL_law 412 = .ok (.aload_n 0, 1) := by decide +kernel
theorem dL_law_413 : decode cL_law 413 = .ok (.iload 4, 2) := by decide +kernel
theorem dL_law_415 : decode cL_law 415 = .ok (.iconst 1, 1) := by decide +kernel
theorem dL_law_416 : decode cL_law 416 = .ok (.iadd, 1) := by decide +kernel
theorem dL_law_417 : decode cL_law 417 = .ok (.iaload, 1) := by decide +kernel
theorem dL_law_418 : decode cL_law 418 = .ok (.aload_n 0, 1) := by decide +kernel
theorem dL_law_419 : decode cL_law 419 = .ok (.iload 4, 2) := by decide +kernel
theorem dL_law_421 : decode cL_law 421 = .ok (.iconst 2, 1) := by decide +kernel
theorem dL_law_422 : decode cL_law 422 = .ok (.iadd, 1) := by decide +kernel
theorem dL_law_423 : decode cL_law 423 = .ok (.iaload, 1) := by decide +kernel
theorem dL_law_424 : decode cL_law 424 = .ok (.aload_n 0, 1) := by decide +kernel
theorem dL_law_425 : decode cL_law 425 = .ok (.iload 4, 2) := by decide +kernel
theorem dL_law_427 : decode cL_law 427 = .ok (.iconst 3, 1) := by decide +kernel
theorem dL_law_428 : decode cL_law 428 = .ok (.iadd, 1) := by decide +kernel
theorem dL_law_429 : decode cL_law 429 = .ok (.iaload, 1) := by decide +kernel
theorem dL_law_430 : decode cL_law 430 = .ok (.invokevirtual 62, 3) := by decide +kernel
theorem dL_law_433 : decode cL_law 433 = .ok (.if_icmp .eq 1052, 3) := by decide +kernel
theorem dL_law_436 : decode cL_law 436 = .ok (.iconst 0, 1) := by decide +kernel
theorem dL_law_437 : decode cL_law 437 = .ok (.ireturn, 1) := by decide +kernel
theorem dL_law_438 : decode cL_law 438 = .ok (.aload_n 1, 1) := by decide +kernel
theorem dL_law_439 : decode cL_law 439 = .ok (.aload_n 0, 1) := by decide +kernel
theorem dL_law_440 : decode cL_law 440 = .ok (.iload 4, 2) := by decide +kernel
theorem dL_law_442 : decode cL_law 442 = .ok (.iconst 1, 1) := by decide +kernel
theorem dL_law_443 : decode cL_law 443 = .ok (.iadd, 1) := by decide +kernel
theorem dL_law_444 : decode cL_law 444 = .ok (.iaload, 1) := by decide +kernel
theorem dL_law_445 : decode cL_law 445 = .ok (.aload_n 0, 1) := by decide +kernel
theorem dL_law_446 : decode cL_law 446 = .ok (.iload 4, 2) := by decide +kernel
theorem dL_law_448 : decode cL_law 448 = .ok (.iconst 2, 1) := by decide +kernel
theorem dL_law_449 : decode cL_law 449 = .ok (.iadd, 1) := by decide +kernel
theorem dL_law_450 : decode cL_law 450 = .ok (.iaload, 1) := by decide +kernel
theorem dL_law_451 : decode cL_law 451 = .ok (.aload_n 0, 1) := by decide +kernel
theorem dL_law_452 : decode cL_law 452 = .ok (.iload 4, 2) := by decide +kernel
theorem dL_law_454 : decode cL_law 454 = .ok (.iconst 3, 1) := by decide +kernel
theorem dL_law_455 : decode cL_law 455 = .ok (.iadd, 1) := by decide +kernel
theorem dL_law_456 : decode cL_law 456 = .ok (.iaload, 1) := by decide +kernel
theorem dL_law_457 : decode cL_law 457 = .ok (.aload_n 0, 1) := by decide +kernel
theorem dL_law_458 : decode cL_law 458 = .ok (.iload 4, 2) := by decide +kernel
theorem dL_law_460 : decode cL_law 460 = .ok (.iconst 4, 1) := by decide +kernel
theorem dL_law_461 : decode cL_law 461 = .ok (.iadd, 1) := by decide +kernel
theorem dL_law_462 : decode cL_law 462 = .ok (.iaload, 1) := by decide +kernel
theorem dL_law_463 : decode cL_law 463 = .ok (.invokevirtual 63, 3) := by decide +kernel
theorem dL_law_466 : decode cL_law 466 = .ok (.aload_n 2, 1) := by decide +kernel
theorem dL_law_467 : decode cL_law 467 = .ok (.aload_n 0, 1) := by decide +kernel
theorem dL_law_468 : decode cL_law 468 = .ok (.iload 4, 2) := by decide +kernel
theorem dL_law_470 : decode cL_law 470 = .ok (.iconst 1, 1) := by decide +kernel
theorem dL_law_471 : decode cL_law 471 = .ok (.iadd, 1) := by decide +kernel
theorem dL_law_472 : decode cL_law 472 = .ok (.iaload, 1) := by decide +kernel
theorem dL_law_473 : decode cL_law 473 = .ok (.aload_n 0, 1) := by decide +kernel
theorem dL_law_474 : decode cL_law 474 = .ok (.iload 4, 2) := by decide +kernel
theorem dL_law_476 : decode cL_law 476 = .ok (.iconst 2, 1) := by decide +kernel
theorem dL_law_477 : decode cL_law 477 = .ok (.iadd, 1) := by decide +kernel
theorem dL_law_478 : decode cL_law 478 = .ok (.iaload, 1) := by decide +kernel
theorem dL_law_479 : decode cL_law 479 = .ok (.aload_n 0, 1) := by decide +kernel
theorem dL_law_480 : decode cL_law 480 = .ok (.iload 4, 2) := by decide +kernel
theorem dL_law_482 : decode cL_law 482 = .ok (.iconst 3, 1) := by decide +kernel
theorem dL_law_483 : decode cL_law 483 = .ok (.iadd, 1) := by decide +kernel
theorem dL_law_484 : decode cL_law 484 = .ok (.iaload, 1) := by decide +kernel
theorem dL_law_485 : decode cL_law 485 = .ok (.aload_n 0, 1) := by decide +kernel
theorem dL_law_486 : decode cL_law 486 = .ok (.iload 4, 2) := by decide +kernel
theorem dL_law_488 : decode cL_law 488 = .ok (.iconst 4, 1) := by decide +kernel
theorem dL_law_489 : decode cL_law 489 = .ok (.iadd, 1) := by decide +kernel
theorem dL_law_490 : decode cL_law 490 = .ok (.iaload, 1) := by decide +kernel
theorem dL_law_491 : decode cL_law 491 = .ok (.invokevirtual 67, 3) := by decide +kernel
theorem dL_law_494 : decode cL_law 494 = .ok (.if_icmp .eq 991, 3) := by decide +kernel
theorem dL_law_497 : decode cL_law 497 = .ok (.iconst 0, 1) := by decide +kernel
theorem dL_law_498 : decode cL_law 498 = .ok (.ireturn, 1) := by decide +kernel
theorem dL_law_499 : decode cL_law 499 = .ok (.aload_n 1, 1) := by decide +kernel
theorem dL_law_500 : decode cL_law 500 = .ok (.aload_n 0, 1) := by decide +kernel
theorem dL_law_501 : decode cL_law 501 = .ok (.iload 4, 2) := by decide +kernel
theorem dL_law_503 : decode cL_law 503 = .ok (.iconst 1, 1) := by decide +kernel
theorem dL_law_504 : decode cL_law 504 = .ok (.iadd, 1) := by decide +kernel
theorem dL_law_505 : decode cL_law 505 = .ok (.iaload, 1) := by decide +kernel
theorem dL_law_506 : decode cL_law 506 = .ok (.aload_n 0, 1) := by decide +kernel
theorem dL_law_507 : decode cL_law 507 = .ok (.iload 4, 2) := by decide +kernel
theorem dL_law_509 : decode cL_law 509 = .ok (.iconst 2, 1) := by decide +kernel
theorem dL_law_510 : decode cL_law 510 = .ok (.iadd, 1) := by decide +kernel
theorem dL_law_511 : decode cL_law 511 = .ok (.iaload, 1) := by decide +kernel
theorem dL_law_512 : decode cL_law 512 = .ok (.aload_n 0, 1) := by decide +kernel
theorem dL_law_513 : decode cL_law 513 = .ok (.iload 4, 2) := by decide +kernel
theorem dL_law_515 : decode cL_law 515 = .ok (.iconst 3, 1) := by decide +kernel
theorem dL_law_516 : decode cL_law 516 = .ok (.iadd, 1) := by decide +kernel
theorem dL_law_517 : decode cL_law 517 = .ok (.iaload, 1) := by decide +kernel
theorem dL_law_518 : decode cL_law 518 = .ok (.invokevirtual 68, 3) := by decide +kernel
theorem dL_law_521 : decode cL_law 521 = .ok (.aload_n 2, 1) := by decide +kernel
theorem dL_law_522 : decode cL_law 522 = .ok (.aload_n 0, 1) := by decide +kernel
theorem dL_law_523 : decode cL_law 523 = .ok (.iload 4, 2) := by decide +kernel
theorem dL_law_525 : decode cL_law 525 = .ok (.iconst 1, 1) := by decide +kernel
theorem dL_law_526 : decode cL_law 526 = .ok (.iadd, 1) := by decide +kernel
theorem dL_law_527 : decode cL_law 527 = .ok (.iaload, 1) := by decide +kernel
theorem dL_law_528 : decode cL_law 528 = .ok (.aload_n 0, 1) := by decide +kernel
theorem dL_law_529 : decode cL_law 529 = .ok (.iload 4, 2) := by decide +kernel
theorem dL_law_531 : decode cL_law 531 = .ok (.iconst 2, 1) := by decide +kernel
theorem dL_law_532 : decode cL_law 532 = .ok (.iadd, 1) := by decide +kernel
theorem dL_law_533 : decode cL_law 533 = .ok (.iaload, 1) := by decide +kernel
theorem dL_law_534 : decode cL_law 534 = .ok (.aload_n 0, 1) := by decide +kernel
theorem dL_law_535 : decode cL_law 535 = .ok (.iload 4, 2) := by decide +kernel
theorem dL_law_537 : decode cL_law 537 = .ok (.iconst 3, 1) := by decide +kernel
theorem dL_law_538 : decode cL_law 538 = .ok (.iadd, 1) := by decide +kernel
theorem dL_law_539 : decode cL_law 539 = .ok (.iaload, 1) := by decide +kernel
theorem dL_law_540 : decode cL_law 540 = .ok (.invokevirtual 71, 3) := by decide +kernel
theorem dL_law_543 : decode cL_law 543 = .ok (.if_icmp .eq 942, 3) := by decide +kernel
theorem dL_law_546 : decode cL_law 546 = .ok (.iconst 0, 1) := by decide +kernel
theorem dL_law_547 : decode cL_law 547 = .ok (.ireturn, 1) := by decide +kernel
theorem dL_law_548 : decode cL_law 548 = .ok (.aload_n 1, 1) := by decide +kernel
theorem dL_law_549 : decode cL_law 549 = .ok (.aload_n 0, 1) := by decide +kernel
theorem dL_law_550 : decode cL_law 550 = .ok (.iload 4, 2) := by decide +kernel
theorem dL_law_552 : decode cL_law 552 = .ok (.iconst 1, 1) := by decide +kernel
theorem dL_law_553 : decode cL_law 553 = .ok (.iadd, 1) := by decide +kernel
theorem dL_law_554 : decode cL_law 554 = .ok (.iaload, 1) := by decide +kernel
theorem dL_law_555 : decode cL_law 555 = .ok (.aload_n 0, 1) := by decide +kernel
theorem dL_law_556 : decode cL_law 556 = .ok (.iload 4, 2) := by decide +kernel
theorem dL_law_558 : decode cL_law 558 = .ok (.iconst 2, 1) := by decide +kernel
theorem dL_law_559 : decode cL_law 559 = .ok (.iadd, 1) := by decide +kernel
theorem dL_law_560 : decode cL_law 560 = .ok (.iaload, 1) := by decide +kernel
theorem dL_law_561 : decode cL_law 561 = .ok (.invokevirtual 72, 3) := by decide +kernel
theorem dL_law_564 : decode cL_law 564 = .ok (.aload_n 2, 1) := by decide +kernel
theorem dL_law_565 : decode cL_law 565 = .ok (.aload_n 0, 1) := by decide +kernel
theorem dL_law_566 : decode cL_law 566 = .ok (.iload 4, 2) := by decide +kernel
theorem dL_law_568 : decode cL_law 568 = .ok (.iconst 1, 1) := by decide +kernel
theorem dL_law_569 : decode cL_law 569 = .ok (.iadd, 1) := by decide +kernel
theorem dL_law_570 : decode cL_law 570 = .ok (.iaload, 1) := by decide +kernel
theorem dL_law_571 : decode cL_law 571 = .ok (.aload_n 0, 1) := by decide +kernel
theorem dL_law_572 : decode cL_law 572 = .ok (.iload 4, 2) := by decide +kernel
theorem dL_law_574 : decode cL_law 574 = .ok (.iconst 2, 1) := by decide +kernel
theorem dL_law_575 : decode cL_law 575 = .ok (.iadd, 1) := by decide +kernel
theorem dL_law_576 : decode cL_law 576 = .ok (.iaload, 1) := by decide +kernel
theorem dL_law_577 : decode cL_law 577 = .ok (.invokevirtual 75, 3) := by decide +kernel
theorem dL_law_580 : decode cL_law 580 = .ok (.if_icmp .eq 905, 3) := by decide +kernel
theorem dL_law_583 : decode cL_law 583 = .ok (.iconst 0, 1) := by decide +kernel
theorem dL_law_584 : decode cL_law 584 = .ok (.ireturn, 1) := by decide +kernel
theorem dL_law_585 : decode cL_law 585 = .ok (.aload_n 1, 1) := by decide +kernel
theorem dL_law_586 : decode cL_law 586 = .ok (.aload_n 0, 1) := by decide +kernel
theorem dL_law_587 : decode cL_law 587 = .ok (.iload 4, 2) := by decide +kernel
theorem dL_law_589 : decode cL_law 589 = .ok (.iconst 1, 1) := by decide +kernel
theorem dL_law_590 : decode cL_law 590 = .ok (.iadd, 1) := by decide +kernel
theorem dL_law_591 : decode cL_law 591 = .ok (.iaload, 1) := by decide +kernel
theorem dL_law_592 : decode cL_law 592 = .ok (.aload_n 0, 1) := by decide +kernel
theorem dL_law_593 : decode cL_law 593 = .ok (.iload 4, 2) := by decide +kernel
theorem dL_law_595 : decode cL_law 595 = .ok (.iconst 2, 1) := by decide +kernel
theorem dL_law_596 : decode cL_law 596 = .ok (.iadd, 1) := by decide +kernel
theorem dL_law_597 : decode cL_law 597 = .ok (.iaload, 1) := by decide +kernel
theorem dL_law_598 : decode cL_law 598 = .ok (.aload_n 0, 1) := by decide +kernel
theorem dL_law_599 : decode cL_law 599 = .ok (.iload 4, 2) := by decide +kernel
theorem dL_law_601 : decode cL_law 601 = .ok (.iconst 3, 1) := by decide +kernel
theorem dL_law_602 : decode cL_law 602 = .ok (.iadd, 1) := by decide +kernel
theorem dL_law_603 : decode cL_law 603 = .ok (.iaload, 1) := by decide +kernel
theorem dL_law_604 : decode cL_law 604 = .ok (.invokevirtual 76, 3) := by decide +kernel
theorem dL_law_607 : decode cL_law 607 = .ok (.aload_n 2, 1) := by decide +kernel
theorem dL_law_608 : decode cL_law 608 = .ok (.aload_n 0, 1) := by decide +kernel
theorem dL_law_609 : decode cL_law 609 = .ok (.iload 4, 2) := by decide +kernel
theorem dL_law_611 : decode cL_law 611 = .ok (.iconst 1, 1) := by decide +kernel
theorem dL_law_612 : decode cL_law 612 = .ok (.iadd, 1) := by decide +kernel
theorem dL_law_613 : decode cL_law 613 = .ok (.iaload, 1) := by decide +kernel
theorem dL_law_614 : decode cL_law 614 = .ok (.aload_n 0, 1) := by decide +kernel
theorem dL_law_615 : decode cL_law 615 = .ok (.iload 4, 2) := by decide +kernel
theorem dL_law_617 : decode cL_law 617 = .ok (.iconst 2, 1) := by decide +kernel
theorem dL_law_618 : decode cL_law 618 = .ok (.iadd, 1) := by decide +kernel
theorem dL_law_619 : decode cL_law 619 = .ok (.iaload, 1) := by decide +kernel
theorem dL_law_620 : decode cL_law 620 = .ok (.aload_n 0, 1) := by decide +kernel
theorem dL_law_621 : decode cL_law 621 = .ok (.iload 4, 2) := by decide +kernel
theorem dL_law_623 : decode cL_law 623 = .ok (.iconst 3, 1) := by decide +kernel
theorem dL_law_624 : decode cL_law 624 = .ok (.iadd, 1) := by decide +kernel
theorem dL_law_625 : decode cL_law 625 = .ok (.iaload, 1) := by decide +kernel
theorem dL_law_626 : decode cL_law 626 = .ok (.invokevirtual 79, 3) := by decide +kernel
theorem dL_law_629 : decode cL_law 629 = .ok (.if_icmp .eq 856, 3) := by decide +kernel
theorem dL_law_632 : decode cL_law 632 = .ok (.iconst 0, 1) := by decide +kernel
theorem dL_law_633 : decode cL_law 633 = .ok (.ireturn, 1) := by decide +kernel
theorem dL_law_634 : decode cL_law 634 = .ok (.aload_n 1, 1) := by decide +kernel
theorem dL_law_635 : decode cL_law 635 = .ok (.aload_n 0, 1) := by decide +kernel
theorem dL_law_636 : decode cL_law 636 = .ok (.iload 4, 2) := by decide +kernel
theorem dL_law_638 : decode cL_law 638 = .ok (.iconst 1, 1) := by decide +kernel
theorem dL_law_639 : decode cL_law 639 = .ok (.iadd, 1) := by decide +kernel
theorem dL_law_640 : decode cL_law 640 = .ok (.iaload, 1) := by decide +kernel
theorem dL_law_641 : decode cL_law 641 = .ok (.aload_n 0, 1) := by decide +kernel
theorem dL_law_642 : decode cL_law 642 = .ok (.iload 4, 2) := by decide +kernel
theorem dL_law_644 : decode cL_law 644 = .ok (.iconst 2, 1) := by decide +kernel
theorem dL_law_645 : decode cL_law 645 = .ok (.iadd, 1) := by decide +kernel
theorem dL_law_646 : decode cL_law 646 = .ok (.iaload, 1) := by decide +kernel
theorem dL_law_647 : decode cL_law 647 = .ok (.aload_n 0, 1) := by decide +kernel
theorem dL_law_648 : decode cL_law 648 = .ok (.iload 4, 2) := by decide +kernel
theorem dL_law_650 : decode cL_law 650 = .ok (.iconst 3, 1) := by decide +kernel
theorem dL_law_651 : decode cL_law 651 = .ok (.iadd, 1) := by decide +kernel
theorem dL_law_652 : decode cL_law 652 = .ok (.iaload, 1) := by decide +kernel
theorem dL_law_653 : decode cL_law 653 = .ok (.invokevirtual 80, 3) := by decide +kernel
theorem dL_law_656 : decode cL_law 656 = .ok (.aload_n 2, 1) := by decide +kernel
theorem dL_law_657 : decode cL_law 657 = .ok (.aload_n 0, 1) := by decide +kernel
theorem dL_law_658 : decode cL_law 658 = .ok (.iload 4, 2) := by decide +kernel
theorem dL_law_660 : decode cL_law 660 = .ok (.iconst 1, 1) := by decide +kernel
theorem dL_law_661 : decode cL_law 661 = .ok (.iadd, 1) := by decide +kernel
theorem dL_law_662 : decode cL_law 662 = .ok (.iaload, 1) := by decide +kernel
theorem dL_law_663 : decode cL_law 663 = .ok (.aload_n 0, 1) := by decide +kernel
theorem dL_law_664 : decode cL_law 664 = .ok (.iload 4, 2) := by decide +kernel
theorem dL_law_666 : decode cL_law 666 = .ok (.iconst 2, 1) := by decide +kernel
theorem dL_law_667 : decode cL_law 667 = .ok (.iadd, 1) := by decide +kernel
theorem dL_law_668 : decode cL_law 668 = .ok (.iaload, 1) := by decide +kernel
theorem dL_law_669 : decode cL_law 669 = .ok (.aload_n 0, 1) := by decide +kernel
theorem dL_law_670 : decode cL_law 670 = .ok (.iload 4, 2) := by decide +kernel
theorem dL_law_672 : decode cL_law 672 = .ok (.iconst 3, 1) := by decide +kernel
theorem dL_law_673 : decode cL_law 673 = .ok (.iadd, 1) := by decide +kernel
theorem dL_law_674 : decode cL_law 674 = .ok (.iaload, 1) := by decide +kernel
theorem dL_law_675 : decode cL_law 675 = .ok (.invokevirtual 83, 3) := by decide +kernel
theorem dL_law_678 : decode cL_law 678 = .ok (.if_icmp .eq 807, 3) := by decide +kernel
theorem dL_law_681 : decode cL_law 681 = .ok (.iconst 0, 1) := by decide +kernel
theorem dL_law_682 : decode cL_law 682 = .ok (.ireturn, 1) := by decide +kernel
theorem dL_law_683 : decode cL_law 683 = .ok (.aload_n 1, 1) := by decide +kernel
theorem dL_law_684 : decode cL_law 684 = .ok (.aload_n 0, 1) := by decide +kernel
theorem dL_law_685 : decode cL_law 685 = .ok (.iload 4, 2) := by decide +kernel
theorem dL_law_687 : decode cL_law 687 = .ok (.iconst 1, 1) := by decide +kernel
theorem dL_law_688 : decode cL_law 688 = .ok (.iadd, 1) := by decide +kernel
theorem dL_law_689 : decode cL_law 689 = .ok (.iaload, 1) := by decide +kernel
theorem dL_law_690 : decode cL_law 690 = .ok (.aload_n 0, 1) := by decide +kernel
theorem dL_law_691 : decode cL_law 691 = .ok (.iload 4, 2) := by decide +kernel
theorem dL_law_693 : decode cL_law 693 = .ok (.iconst 2, 1) := by decide +kernel
theorem dL_law_694 : decode cL_law 694 = .ok (.iadd, 1) := by decide +kernel
theorem dL_law_695 : decode cL_law 695 = .ok (.iaload, 1) := by decide +kernel
theorem dL_law_696 : decode cL_law 696 = .ok (.aload_n 0, 1) := by decide +kernel
theorem dL_law_697 : decode cL_law 697 = .ok (.iload 4, 2) := by decide +kernel
theorem dL_law_699 : decode cL_law 699 = .ok (.iconst 3, 1) := by decide +kernel
theorem dL_law_700 : decode cL_law 700 = .ok (.iadd, 1) := by decide +kernel
theorem dL_law_701 : decode cL_law 701 = .ok (.iaload, 1) := by decide +kernel
theorem dL_law_702 : decode cL_law 702 = .ok (.invokevirtual 84, 3) := by decide +kernel
theorem dL_law_705 : decode cL_law 705 = .ok (.aload_n 2, 1) := by decide +kernel
theorem dL_law_706 : decode cL_law 706 = .ok (.aload_n 0, 1) := by decide +kernel
theorem dL_law_707 : decode cL_law 707 = .ok (.iload 4, 2) := by decide +kernel
theorem dL_law_709 : decode cL_law 709 = .ok (.iconst 1, 1) := by decide +kernel
theorem dL_law_710 : decode cL_law 710 = .ok (.iadd, 1) := by decide +kernel
theorem dL_law_711 : decode cL_law 711 = .ok (.iaload, 1) := by decide +kernel
theorem dL_law_712 : decode cL_law 712 = .ok (.aload_n 0, 1) := by decide +kernel
theorem dL_law_713 : decode cL_law 713 = .ok (.iload 4, 2) := by decide +kernel
theorem dL_law_715 : decode cL_law 715 = .ok (.iconst 2, 1) := by decide +kernel
theorem dL_law_716 : decode cL_law 716 = .ok (.iadd, 1) := by decide +kernel
theorem dL_law_717 : decode cL_law 717 = .ok (.iaload, 1) := by decide +kernel
theorem dL_law_718 : decode cL_law 718 = .ok (.aload_n 0, 1) := by decide +kernel
theorem dL_law_719 : decode cL_law 719 = .ok (.iload 4, 2) := by decide +kernel
theorem dL_law_721 : decode cL_law 721 = .ok (.iconst 3, 1) := by decide +kernel
theorem dL_law_722 : decode cL_law 722 = .ok (.iadd, 1) := by decide +kernel
theorem dL_law_723 : decode cL_law 723 = .ok (.iaload, 1) := by decide +kernel
theorem dL_law_724 : decode cL_law 724 = .ok (.invokevirtual 87, 3) := by decide +kernel
theorem dL_law_727 : decode cL_law 727 = .ok (.if_icmp .eq 758, 3) := by decide +kernel
theorem dL_law_730 : decode cL_law 730 = .ok (.iconst 0, 1) := by decide +kernel
theorem dL_law_731 : decode cL_law 731 = .ok (.ireturn, 1) := by decide +kernel
theorem dL_law_732 : decode cL_law 732 = .ok (.aload_n 1, 1) := by decide +kernel
theorem dL_law_733 : decode cL_law 733 = .ok (.invokevirtual 88, 3) := by decide +kernel
theorem dL_law_736 : decode cL_law 736 = .ok (.aload_n 2, 1) := by decide +kernel
theorem dL_law_737 : decode cL_law 737 = .ok (.invokevirtual 92, 3) := by decide +kernel
theorem dL_law_740 : decode cL_law 740 = .ok (.if_icmp .eq 745, 3) := by decide +kernel
theorem dL_law_743 : decode cL_law 743 = .ok (.iconst 0, 1) := by decide +kernel
theorem dL_law_744 : decode cL_law 744 = .ok (.ireturn, 1) := by decide +kernel
theorem dL_law_745 : decode cL_law 745 = .ok (.aload_n 1, 1) := by decide +kernel
theorem dL_law_746 : decode cL_law 746 = .ok (.aload_n 0, 1) := by decide +kernel
theorem dL_law_747 : decode cL_law 747 = .ok (.iload 4, 2) := by decide +kernel
theorem dL_law_749 : decode cL_law 749 = .ok (.iconst 1, 1) := by decide +kernel
theorem dL_law_750 : decode cL_law 750 = .ok (.iadd, 1) := by decide +kernel
theorem dL_law_751 : decode cL_law 751 = .ok (.iaload, 1) := by decide +kernel
theorem dL_law_752 : decode cL_law 752 = .ok (.aload_n 0, 1) := by decide +kernel
theorem dL_law_753 : decode cL_law 753 = .ok (.iload 4, 2) := by decide +kernel
theorem dL_law_755 : decode cL_law 755 = .ok (.iconst 2, 1) := by decide +kernel
theorem dL_law_756 : decode cL_law 756 = .ok (.iadd, 1) := by decide +kernel
theorem dL_law_757 : decode cL_law 757 = .ok (.iaload, 1) := by decide +kernel
theorem dL_law_758 : decode cL_law 758 = .ok (.aload_n 0, 1) := by decide +kernel
theorem dL_law_759 : decode cL_law 759 = .ok (.iload 4, 2) := by decide +kernel
theorem dL_law_761 : decode cL_law 761 = .ok (.iconst 3, 1) := by decide +kernel
theorem dL_law_762 : decode cL_law 762 = .ok (.iadd, 1) := by decide +kernel
theorem dL_law_763 : decode cL_law 763 = .ok (.iaload, 1) := by decide +kernel
theorem dL_law_764 : decode cL_law 764 = .ok (.aload_n 0, 1) := by decide +kernel
theorem dL_law_765 : decode cL_law 765 = .ok (.iload 4, 2) := by decide +kernel
theorem dL_law_767 : decode cL_law 767 = .ok (.iconst 4, 1) := by decide +kernel
theorem dL_law_768 : decode cL_law 768 = .ok (.iadd, 1) := by decide +kernel
theorem dL_law_769 : decode cL_law 769 = .ok (.iaload, 1) := by decide +kernel
theorem dL_law_770 : decode cL_law 770 = .ok (.aload_n 0, 1) := by decide +kernel
theorem dL_law_771 : decode cL_law 771 = .ok (.iload 4, 2) := by decide +kernel
theorem dL_law_773 : decode cL_law 773 = .ok (.iconst 5, 1) := by decide +kernel
theorem dL_law_774 : decode cL_law 774 = .ok (.iadd, 1) := by decide +kernel
theorem dL_law_775 : decode cL_law 775 = .ok (.iaload, 1) := by decide +kernel
theorem dL_law_776 : decode cL_law 776 = .ok (.invokevirtual 93, 3) := by decide +kernel
theorem dL_law_779 : decode cL_law 779 = .ok (.aload_n 2, 1) := by decide +kernel
theorem dL_law_780 : decode cL_law 780 = .ok (.aload_n 0, 1) := by decide +kernel
theorem dL_law_781 : decode cL_law 781 = .ok (.iload 4, 2) := by decide +kernel
theorem dL_law_783 : decode cL_law 783 = .ok (.iconst 1, 1) := by decide +kernel
theorem dL_law_784 : decode cL_law 784 = .ok (.iadd, 1) := by decide +kernel
theorem dL_law_785 : decode cL_law 785 = .ok (.iaload, 1) := by decide +kernel
theorem dL_law_786 : decode cL_law 786 = .ok (.aload_n 0, 1) := by decide +kernel
theorem dL_law_787 : decode cL_law 787 = .ok (.iload 4, 2) := by decide +kernel
theorem dL_law_789 : decode cL_law 789 = .ok (.iconst 2, 1) := by decide +kernel
theorem dL_law_790 : decode cL_law 790 = .ok (.iadd, 1) := by decide +kernel
theorem dL_law_791 : decode cL_law 791 = .ok (.iaload, 1) := by decide +kernel
theorem dL_law_792 : decode cL_law 792 = .ok (.aload_n 0, 1) := by decide +kernel
theorem dL_law_793 : decode cL_law 793 = .ok (.iload 4, 2) := by decide +kernel
theorem dL_law_795 : decode cL_law 795 = .ok (.iconst 3, 1) := by decide +kernel
theorem dL_law_796 : decode cL_law 796 = .ok (.iadd, 1) := by decide +kernel
theorem dL_law_797 : decode cL_law 797 = .ok (.iaload, 1) := by decide +kernel
theorem dL_law_798 : decode cL_law 798 = .ok (.aload_n 0, 1) := by decide +kernel
theorem dL_law_799 : decode cL_law 799 = .ok (.iload 4, 2) := by decide +kernel
theorem dL_law_801 : decode cL_law 801 = .ok (.iconst 4, 1) := by decide +kernel
theorem dL_law_802 : decode cL_law 802 = .ok (.iadd, 1) := by decide +kernel
theorem dL_law_803 : decode cL_law 803 = .ok (.iaload, 1) := by decide +kernel
theorem dL_law_804 : decode cL_law 804 = .ok (.aload_n 0, 1) := by decide +kernel
theorem dL_law_805 : decode cL_law 805 = .ok (.iload 4, 2) := by decide +kernel
theorem dL_law_807 : decode cL_law 807 = .ok (.iconst 5, 1) := by decide +kernel
theorem dL_law_808 : decode cL_law 808 = .ok (.iadd, 1) := by decide +kernel
theorem dL_law_809 : decode cL_law 809 = .ok (.iaload, 1) := by decide +kernel
theorem dL_law_810 : decode cL_law 810 = .ok (.invokevirtual 97, 3) := by decide +kernel
theorem dL_law_813 : decode cL_law 813 = .ok (.if_icmp .eq 672, 3) := by decide +kernel
theorem dL_law_816 : decode cL_law 816 = .ok (.iconst 0, 1) := by decide +kernel
theorem dL_law_817 : decode cL_law 817 = .ok (.ireturn, 1) := by decide +kernel
theorem dL_law_818 : decode cL_law 818 = .ok (.aload_n 1, 1) := by decide +kernel
theorem dL_law_819 : decode cL_law 819 = .ok (.aload_n 0, 1) := by decide +kernel
theorem dL_law_820 : decode cL_law 820 = .ok (.iload 4, 2) := by decide +kernel
theorem dL_law_822 : decode cL_law 822 = .ok (.iconst 1, 1) := by decide +kernel
theorem dL_law_823 : decode cL_law 823 = .ok (.iadd, 1) := by decide +kernel
theorem dL_law_824 : decode cL_law 824 = .ok (.iaload, 1) := by decide +kernel
theorem dL_law_825 : decode cL_law 825 = .ok (.aload_n 0, 1) := by decide +kernel
theorem dL_law_826 : decode cL_law 826 = .ok (.iload 4, 2) := by decide +kernel
theorem dL_law_828 : decode cL_law 828 = .ok (.iconst 2, 1) := by decide +kernel
theorem dL_law_829 : decode cL_law 829 = .ok (.iadd, 1) := by decide +kernel
theorem dL_law_830 : decode cL_law 830 = .ok (.iaload, 1) := by decide +kernel
theorem dL_law_831 : decode cL_law 831 = .ok (.aload_n 0, 1) := by decide +kernel
theorem dL_law_832 : decode cL_law 832 = .ok (.iload 4, 2) := by decide +kernel
theorem dL_law_834 : decode cL_law 834 = .ok (.iconst 3, 1) := by decide +kernel
theorem dL_law_835 : decode cL_law 835 = .ok (.iadd, 1) := by decide +kernel
theorem dL_law_836 : decode cL_law 836 = .ok (.iaload, 1) := by decide +kernel
theorem dL_law_837 : decode cL_law 837 = .ok (.invokevirtual 98, 3) := by decide +kernel
theorem dL_law_840 : decode cL_law 840 = .ok (.aload_n 2, 1) := by decide +kernel
theorem dL_law_841 : decode cL_law 841 = .ok (.aload_n 0, 1) := by decide +kernel
theorem dL_law_842 : decode cL_law 842 = .ok (.iload 4, 2) := by decide +kernel
theorem dL_law_844 : decode cL_law 844 = .ok (.iconst 1, 1) := by decide +kernel
theorem dL_law_845 : decode cL_law 845 = .ok (.iadd, 1) := by decide +kernel
theorem dL_law_846 : decode cL_law 846 = .ok (.iaload, 1) := by decide +kernel
theorem dL_law_847 : decode cL_law 847 = .ok (.aload_n 0, 1) := by decide +kernel
theorem dL_law_848 : decode cL_law 848 = .ok (.iload 4, 2) := by decide +kernel
theorem dL_law_850 : decode cL_law 850 = .ok (.iconst 2, 1) := by decide +kernel
theorem dL_law_851 : decode cL_law 851 = .ok (.iadd, 1) := by decide +kernel
theorem dL_law_852 : decode cL_law 852 = .ok (.iaload, 1) := by decide +kernel
theorem dL_law_853 : decode cL_law 853 = .ok (.aload_n 0, 1) := by decide +kernel
theorem dL_law_854 : decode cL_law 854 = .ok (.iload 4, 2) := by decide +kernel
theorem dL_law_856 : decode cL_law 856 = .ok (.iconst 3, 1) := by decide +kernel
theorem dL_law_857 : decode cL_law 857 = .ok (.iadd, 1) := by decide +kernel
theorem dL_law_858 : decode cL_law 858 = .ok (.iaload, 1) := by decide +kernel
theorem dL_law_859 : decode cL_law 859 = .ok (.invokevirtual 101, 3) := by decide +kernel
theorem dL_law_862 : decode cL_law 862 = .ok (.if_icmp .eq 623, 3) := by decide +kernel
theorem dL_law_865 : decode cL_law 865 = .ok (.iconst 0, 1) := by decide +kernel
theorem dL_law_866 : decode cL_law 866 = .ok (.ireturn, 1) := by decide +kernel
theorem dL_law_867 : decode cL_law 867 = .ok (.aload_n 1, 1) := by decide +kernel
theorem dL_law_868 : decode cL_law 868 = .ok (.aload_n 0, 1) := by decide +kernel
theorem dL_law_869 : decode cL_law 869 = .ok (.iload 4, 2) := by decide +kernel
theorem dL_law_871 : decode cL_law 871 = .ok (.iconst 1, 1) := by decide +kernel
theorem dL_law_872 : decode cL_law 872 = .ok (.iadd, 1) := by decide +kernel
theorem dL_law_873 : decode cL_law 873 = .ok (.iaload, 1) := by decide +kernel
theorem dL_law_874 : decode cL_law 874 = .ok (.aload_n 0, 1) := by decide +kernel
theorem dL_law_875 : decode cL_law 875 = .ok (.iload 4, 2) := by decide +kernel
theorem dL_law_877 : decode cL_law 877 = .ok (.iconst 2, 1) := by decide +kernel
theorem dL_law_878 : decode cL_law 878 = .ok (.iadd, 1) := by decide +kernel
theorem dL_law_879 : decode cL_law 879 = .ok (.iaload, 1) := by decide +kernel
theorem dL_law_880 : decode cL_law 880 = .ok (.aload_n 0, 1) := by decide +kernel
theorem dL_law_881 : decode cL_law 881 = .ok (.iload 4, 2) := by decide +kernel
theorem dL_law_883 : decode cL_law 883 = .ok (.iconst 3, 1) := by decide +kernel
theorem dL_law_884 : decode cL_law 884 = .ok (.iadd, 1) := by decide +kernel
theorem dL_law_885 : decode cL_law 885 = .ok (.iaload, 1) := by decide +kernel
theorem dL_law_886 : decode cL_law 886 = .ok (.aload_n 0, 1) := by decide +kernel
theorem dL_law_887 : decode cL_law 887 = .ok (.iload 4, 2) := by decide +kernel
theorem dL_law_889 : decode cL_law 889 = .ok (.iconst 4, 1) := by decide +kernel
theorem dL_law_890 : decode cL_law 890 = .ok (.iadd, 1) := by decide +kernel
theorem dL_law_891 : decode cL_law 891 = .ok (.iaload, 1) := by decide +kernel
theorem dL_law_892 : decode cL_law 892 = .ok (.invokevirtual 102, 3) := by decide +kernel
theorem dL_law_895 : decode cL_law 895 = .ok (.aload_n 2, 1) := by decide +kernel
theorem dL_law_896 : decode cL_law 896 = .ok (.aload_n 0, 1) := by decide +kernel
theorem dL_law_897 : decode cL_law 897 = .ok (.iload 4, 2) := by decide +kernel
theorem dL_law_899 : decode cL_law 899 = .ok (.iconst 1, 1) := by decide +kernel
theorem dL_law_900 : decode cL_law 900 = .ok (.iadd, 1) := by decide +kernel
theorem dL_law_901 : decode cL_law 901 = .ok (.iaload, 1) := by decide +kernel
theorem dL_law_902 : decode cL_law 902 = .ok (.aload_n 0, 1) := by decide +kernel
theorem dL_law_903 : decode cL_law 903 = .ok (.iload 4, 2) := by decide +kernel
theorem dL_law_905 : decode cL_law 905 = .ok (.iconst 2, 1) := by decide +kernel
theorem dL_law_906 : decode cL_law 906 = .ok (.iadd, 1) := by decide +kernel
theorem dL_law_907 : decode cL_law 907 = .ok (.iaload, 1) := by decide +kernel
theorem dL_law_908 : decode cL_law 908 = .ok (.aload_n 0, 1) := by decide +kernel
theorem dL_law_909 : decode cL_law 909 = .ok (.iload 4, 2) := by decide +kernel
theorem dL_law_911 : decode cL_law 911 = .ok (.iconst 3, 1) := by decide +kernel
theorem dL_law_912 : decode cL_law 912 = .ok (.iadd, 1) := by decide +kernel
theorem dL_law_913 : decode cL_law 913 = .ok (.iaload, 1) := by decide +kernel
theorem dL_law_914 : decode cL_law 914 = .ok (.aload_n 0, 1) := by decide +kernel
theorem dL_law_915 : decode cL_law 915 = .ok (.iload 4, 2) := by decide +kernel
theorem dL_law_917 : decode cL_law 917 = .ok (.iconst 4, 1) := by decide +kernel
theorem dL_law_918 : decode cL_law 918 = .ok (.iadd, 1) := by decide +kernel
theorem dL_law_919 : decode cL_law 919 = .ok (.iaload, 1) := by decide +kernel
theorem dL_law_920 : decode cL_law 920 = .ok (.invokevirtual 105, 3) := by decide +kernel
theorem dL_law_923 : decode cL_law 923 = .ok (.if_icmp .eq 562, 3) := by decide +kernel
theorem dL_law_926 : decode cL_law 926 = .ok (.iconst 0, 1) := by decide +kernel
theorem dL_law_927 : decode cL_law 927 = .ok (.ireturn, 1) := by decide +kernel
theorem dL_law_928 : decode cL_law 928 = .ok (.aload_n 1, 1) := by decide +kernel
theorem dL_law_929 : decode cL_law 929 = .ok (.aload_n 0, 1) := by decide +kernel
theorem dL_law_930 : decode cL_law 930 = .ok (.iload 4, 2) := by decide +kernel
theorem dL_law_932 : decode cL_law 932 = .ok (.iconst 1, 1) := by decide +kernel
theorem dL_law_933 : decode cL_law 933 = .ok (.iadd, 1) := by decide +kernel
theorem dL_law_934 : decode cL_law 934 = .ok (.iaload, 1) := by decide +kernel
theorem dL_law_935 : decode cL_law 935 = .ok (.aload_n 0, 1) := by decide +kernel
theorem dL_law_936 : decode cL_law 936 = .ok (.iload 4, 2) := by decide +kernel
theorem dL_law_938 : decode cL_law 938 = .ok (.iconst 2, 1) := by decide +kernel
theorem dL_law_939 : decode cL_law 939 = .ok (.iadd, 1) := by decide +kernel
theorem dL_law_940 : decode cL_law 940 = .ok (.iaload, 1) := by decide +kernel
theorem dL_law_941 : decode cL_law 941 = .ok (.invokevirtual 106, 3) := by decide +kernel
theorem dL_law_944 : decode cL_law 944 = .ok (.aload_n 2, 1) := by decide +kernel
theorem dL_law_945 : decode cL_law 945 = .ok (.aload_n 0, 1) := by decide +kernel
theorem dL_law_946 : decode cL_law 946 = .ok (.iload 4, 2) := by decide +kernel
theorem dL_law_948 : decode cL_law 948 = .ok (.iconst 1, 1) := by decide +kernel
theorem dL_law_949 : decode cL_law 949 = .ok (.iadd, 1) := by decide +kernel
theorem dL_law_950 : decode cL_law 950 = .ok (.iaload, 1) := by decide +kernel
theorem dL_law_951 : decode cL_law 951 = .ok (.aload_n 0, 1) := by decide +kernel
theorem dL_law_952 : decode cL_law 952 = .ok (.iload 4, 2) := by decide +kernel
theorem dL_law_954 : decode cL_law 954 = .ok (.iconst 2, 1) := by decide +kernel
theorem dL_law_955 : decode cL_law 955 = .ok (.iadd, 1) := by decide +kernel
theorem dL_law_956 : decode cL_law 956 = .ok (.iaload, 1) := by decide +kernel
theorem dL_law_957 : decode cL_law 957 = .ok (.invokevirtual 109, 3) := by decide +kernel
theorem dL_law_960 : decode cL_law 960 = .ok (.if_icmp .eq 525, 3) := by decide +kernel
theorem dL_law_963 : decode cL_law 963 = .ok (.iconst 0, 1) := by decide +kernel
theorem dL_law_964 : decode cL_law 964 = .ok (.ireturn, 1) := by decide +kernel
theorem dL_law_965 : decode cL_law 965 = .ok (.aload_n 1, 1) := by decide +kernel
theorem dL_law_966 : decode cL_law 966 = .ok (.aload_n 0, 1) := by decide +kernel
theorem dL_law_967 : decode cL_law 967 = .ok (.iload 4, 2) := by decide +kernel
theorem dL_law_969 : decode cL_law 969 = .ok (.iconst 1, 1) := by decide +kernel
theorem dL_law_970 : decode cL_law 970 = .ok (.iadd, 1) := by decide +kernel
theorem dL_law_971 : decode cL_law 971 = .ok (.iaload, 1) := by decide +kernel
theorem dL_law_972 : decode cL_law 972 = .ok (.aload_n 0, 1) := by decide +kernel
theorem dL_law_973 : decode cL_law 973 = .ok (.iload 4, 2) := by decide +kernel
theorem dL_law_975 : decode cL_law 975 = .ok (.iconst 2, 1) := by decide +kernel
theorem dL_law_976 : decode cL_law 976 = .ok (.iadd, 1) := by decide +kernel
theorem dL_law_977 : decode cL_law 977 = .ok (.iaload, 1) := by decide +kernel
theorem dL_law_978 : decode cL_law 978 = .ok (.aload_n 0, 1) := by decide +kernel
theorem dL_law_979 : decode cL_law 979 = .ok (.iload 4, 2) := by decide +kernel
theorem dL_law_981 : decode cL_law 981 = .ok (.iconst 3, 1) := by decide +kernel
theorem dL_law_982 : decode cL_law 982 = .ok (.iadd, 1) := by decide +kernel
theorem dL_law_983 : decode cL_law 983 = .ok (.iaload, 1) := by decide +kernel
theorem dL_law_984 : decode cL_law 984 = .ok (.invokevirtual 110, 3) := by decide +kernel
theorem dL_law_987 : decode cL_law 987 = .ok (.aload_n 2, 1) := by decide +kernel
theorem dL_law_988 : decode cL_law 988 = .ok (.aload_n 0, 1) := by decide +kernel
theorem dL_law_989 : decode cL_law 989 = .ok (.iload 4, 2) := by decide +kernel
theorem dL_law_991 : decode cL_law 991 = .ok (.iconst 1, 1) := by decide +kernel
theorem dL_law_992 : decode cL_law 992 = .ok (.iadd, 1) := by decide +kernel
theorem dL_law_993 : decode cL_law 993 = .ok (.iaload, 1) := by decide +kernel
theorem dL_law_994 : decode cL_law 994 = .ok (.aload_n 0, 1) := by decide +kernel
theorem dL_law_995 : decode cL_law 995 = .ok (.iload 4, 2) := by decide +kernel
theorem dL_law_997 : decode cL_law 997 = .ok (.iconst 2, 1) := by decide +kernel
theorem dL_law_998 : decode cL_law 998 = .ok (.iadd, 1) := by decide +kernel
theorem dL_law_999 : decode cL_law 999 = .ok (.iaload, 1) := by decide +kernel
theorem dL_law_1000 : decode cL_law 1000 = .ok (.aload_n 0, 1) := by decide +kernel
theorem dL_law_1001 : decode cL_law 1001 = .ok (.iload 4, 2) := by decide +kernel
theorem dL_law_1003 : decode cL_law 1003 = .ok (.iconst 3, 1) := by decide +kernel
theorem dL_law_1004 : decode cL_law 1004 = .ok (.iadd, 1) := by decide +kernel
theorem dL_law_1005 : decode cL_law 1005 = .ok (.iaload, 1) := by decide +kernel
theorem dL_law_1006 : decode cL_law 1006 = .ok (.invokevirtual 113, 3) := by decide +kernel
theorem dL_law_1009 : decode cL_law 1009 = .ok (.if_icmp .eq 476, 3) := by decide +kernel
theorem dL_law_1012 : decode cL_law 1012 = .ok (.iconst 0, 1) := by decide +kernel
theorem dL_law_1013 : decode cL_law 1013 = .ok (.ireturn, 1) := by decide +kernel
theorem dL_law_1014 : decode cL_law 1014 = .ok (.aload_n 1, 1) := by decide +kernel
theorem dL_law_1015 : decode cL_law 1015 = .ok (.aload_n 0, 1) := by decide +kernel
theorem dL_law_1016 : decode cL_law 1016 = .ok (.iload 4, 2) := by decide +kernel
theorem dL_law_1018 : decode cL_law 1018 = .ok (.iconst 1, 1) := by decide +kernel
theorem dL_law_1019 : decode cL_law 1019 = .ok (.iadd, 1) := by decide +kernel
theorem dL_law_1020 : decode cL_law 1020 = .ok (.iaload, 1) := by decide +kernel
theorem dL_law_1021 : decode cL_law 1021 = .ok (.invokevirtual 114, 3) := by decide +kernel
theorem dL_law_1024 : decode cL_law 1024 = .ok (.aload_n 2, 1) := by decide +kernel
theorem dL_law_1025 : decode cL_law 1025 = .ok (.aload_n 0, 1) := by decide +kernel
theorem dL_law_1026 : decode cL_law 1026 = .ok (.iload 4, 2) := by decide +kernel
theorem dL_law_1028 : decode cL_law 1028 = .ok (.iconst 1, 1) := by decide +kernel
theorem dL_law_1029 : decode cL_law 1029 = .ok (.iadd, 1) := by decide +kernel
theorem dL_law_1030 : decode cL_law 1030 = .ok (.iaload, 1) := by decide +kernel
theorem dL_law_1031 : decode cL_law 1031 = .ok (.invokevirtual 117, 3) := by decide +kernel
theorem dL_law_1034 : decode cL_law 1034 = .ok (.if_icmp .eq 451, 3) := by decide +kernel
theorem dL_law_1037 : decode cL_law 1037 = .ok (.iconst 0, 1) := by decide +kernel
theorem dL_law_1038 : decode cL_law 1038 = .ok (.ireturn, 1) := by decide +kernel
theorem dL_law_1039 : decode cL_law 1039 = .ok (.aload_n 1, 1) := by decide +kernel
theorem dL_law_1040 : decode cL_law 1040 = .ok (.aload_n 0, 1) := by decide +kernel
theorem dL_law_1041 : decode cL_law 1041 = .ok (.iload 4, 2) := by decide +kernel
theorem dL_law_1043 : decode cL_law 1043 = .ok (.iconst 1, 1) := by decide +kernel
theorem dL_law_1044 : decode cL_law 1044 = .ok (.iadd, 1) := by decide +kernel
theorem dL_law_1045 : decode cL_law 1045 = .ok (.iaload, 1) := by decide +kernel
theorem dL_law_1046 : decode cL_law 1046 = .ok (.aload_n 0, 1) := by decide +kernel
theorem dL_law_1047 : decode cL_law 1047 = .ok (.iload 4, 2) := by decide +kernel
theorem dL_law_1049 : decode cL_law 1049 = .ok (.iconst 2, 1) := by decide +kernel
theorem dL_law_1050 : decode cL_law 1050 = .ok (.iadd, 1) := by decide +kernel
theorem dL_law_1051 : decode cL_law 1051 = .ok (.iaload, 1) := by decide +kernel
theorem dL_law_1052 : decode cL_law 1052 = .ok (.invokevirtual 118, 3) := by decide +kernel
theorem dL_law_1055 : decode cL_law 1055 = .ok (.aload_n 2, 1) := by decide +kernel
theorem dL_law_1056 : decode cL_law 1056 = .ok (.aload_n 0, 1) := by decide +kernel
theorem dL_law_1057 : decode cL_law 1057 = .ok (.iload 4, 2) := by decide +kernel
theorem dL_law_1059 : decode cL_law 1059 = .ok (.iconst 1, 1) := by decide +kernel
theorem dL_law_1060 : decode cL_law 1060 = .ok (.iadd, 1) := by decide +kernel
theorem dL_law_1061 : decode cL_law 1061 = .ok (.iaload, 1) := by decide +kernel
theorem dL_law_1062 : decode cL_law 1062 = .ok (.aload_n 0, 1) := by decide +kernel
theorem dL_law_1063 : decode cL_law 1063 = .ok (.iload 4, 2) := by decide +kernel
theorem dL_law_1065 : decode cL_law 1065 = .ok (.iconst 2, 1) := by decide +kernel
theorem dL_law_1066 : decode cL_law 1066 = .ok (.iadd, 1) := by decide +kernel
theorem dL_law_1067 : decode cL_law 1067 = .ok (.iaload, 1) := by decide +kernel
theorem dL_law_1068 : decode cL_law 1068 = .ok (.invokevirtual 121, 3) := by decide +kernel
theorem dL_law_1071 : decode cL_law 1071 = .ok (.if_icmp .eq 414, 3) := by decide +kernel
theorem dL_law_1074 : decode cL_law 1074 = .ok (.iconst 0, 1) := by decide +kernel
theorem dL_law_1075 : decode cL_law 1075 = .ok (.ireturn, 1) := by decide +kernel
theorem dL_law_1076 : decode cL_law 1076 = .ok (.aload_n 1, 1) := by decide +kernel
theorem dL_law_1077 : decode cL_law 1077 = .ok (.aload_n 0, 1) := by decide +kernel
theorem dL_law_1078 : decode cL_law 1078 = .ok (.iload 4, 2) := by decide +kernel
theorem dL_law_1080 : decode cL_law 1080 = .ok (.iconst 1, 1) := by decide +kernel
theorem dL_law_1081 : decode cL_law 1081 = .ok (.iadd, 1) := by decide +kernel
theorem dL_law_1082 : decode cL_law 1082 = .ok (.iaload, 1) := by decide +kernel
theorem dL_law_1083 : decode cL_law 1083 = .ok (.aload_n 3, 1) := by decide +kernel
theorem dL_law_1084 : decode cL_law 1084 = .ok (.invokestatic 122, 3) := by decide +kernel
theorem dL_law_1087 : decode cL_law 1087 = .ok (.istore 5, 2) := by decide +kernel
theorem dL_law_1089 : decode cL_law 1089 = .ok (.aload_n 2, 1) := by decide +kernel
theorem dL_law_1090 : decode cL_law 1090 = .ok (.aload_n 0, 1) := by decide +kernel
theorem dL_law_1091 : decode cL_law 1091 = .ok (.iload 4, 2) := by decide +kernel
theorem dL_law_1093 : decode cL_law 1093 = .ok (.iconst 1, 1) := by decide +kernel
theorem dL_law_1094 : decode cL_law 1094 = .ok (.iadd, 1) := by decide +kernel
theorem dL_law_1095 : decode cL_law 1095 = .ok (.iaload, 1) := by decide +kernel
theorem dL_law_1096 : decode cL_law 1096 = .ok (.invokevirtual 125, 3) := by decide +kernel
theorem dL_law_1099 : decode cL_law 1099 = .ok (.istore 6, 2) := by decide +kernel
theorem dL_law_1101 : decode cL_law 1101 = .ok (.aload_n 2, 1) := by decide +kernel
theorem dL_law_1102 : decode cL_law 1102 = .ok (.invokevirtual 126, 3) := by decide +kernel
theorem dL_law_1105 : decode cL_law 1105 = .ok (.iload 5, 2) := by decide +kernel
theorem dL_law_1107 : decode cL_law 1107 = .ok (.if_icmp .eq 5, 3) := by decide +kernel
theorem dL_law_1110 : decode cL_law 1110 = .ok (.iconst 0, 1) := by decide +kernel
theorem dL_law_1111 : decode cL_law 1111 = .ok (.ireturn, 1) := by decide +kernel
theorem dL_law_1112 : decode cL_law 1112 = .ok (.iload 5, 2) := by decide +kernel
theorem dL_law_1114 : decode cL_law 1114 = .ok (.ifCond .ne 15, 3) := by decide +kernel
theorem dL_law_1117 : decode cL_law 1117 = .ok (.aload_n 3, 1) := by decide +kernel
theorem dL_law_1118 : decode cL_law 1118 = .ok (.iconst 0, 1) := by decide +kernel
theorem dL_law_1119 : decode cL_law 1119 = .ok (.laload, 1) := by decide +kernel
theorem dL_law_1120 : decode cL_law 1120 = .ok (.iload 6, 2) := by decide +kernel
theorem dL_law_1122 : decode cL_law 1122 = .ok (.i2l, 1) := by decide +kernel
theorem dL_law_1123 : decode cL_law 1123 = .ok (.lcmp, 1) := by decide +kernel
theorem dL_law_1124 : decode cL_law 1124 = .ok (.ifCond .eq 5, 3) := by decide +kernel
theorem dL_law_1127 : decode cL_law 1127 = .ok (.iconst 0, 1) := by decide +kernel
theorem dL_law_1128 : decode cL_law 1128 = .ok (.ireturn, 1) := by decide +kernel
theorem dL_law_1129 : decode cL_law 1129 = .ok (.goto 356, 3) := by decide +kernel
theorem dL_law_1132 : decode cL_law 1132 = .ok (.aload_n 1, 1) := by decide +kernel
theorem dL_law_1133 : decode cL_law 1133 = .ok (.aload_n 0, 1) := by decide +kernel
theorem dL_law_1134 : decode cL_law 1134 = .ok (.iload 4, 2) := by decide +kernel
theorem dL_law_1136 : decode cL_law 1136 = .ok (.iconst 1, 1) := by decide +kernel
theorem dL_law_1137 : decode cL_law 1137 = .ok (.iadd, 1) := by decide +kernel
theorem dL_law_1138 : decode cL_law 1138 = .ok (.iaload, 1) := by decide +kernel
theorem dL_law_1139 : decode cL_law 1139 = .ok (.aload_n 3, 1) := by decide +kernel
theorem dL_law_1140 : decode cL_law 1140 = .ok (.invokestatic 129, 3) := by decide +kernel
theorem dL_law_1143 : decode cL_law 1143 = .ok (.istore 5, 2) := by decide +kernel
theorem dL_law_1145 : decode cL_law 1145 = .ok (.aload_n 2, 1) := by decide +kernel
theorem dL_law_1146 : decode cL_law 1146 = .ok (.aload_n 0, 1) := by decide +kernel
theorem dL_law_1147 : decode cL_law 1147 = .ok (.iload 4, 2) := by decide +kernel
theorem dL_law_1149 : decode cL_law 1149 = .ok (.iconst 1, 1) := by decide +kernel
theorem dL_law_1150 : decode cL_law 1150 = .ok (.iadd, 1) := by decide +kernel
theorem dL_law_1151 : decode cL_law 1151 = .ok (.iaload, 1) := by decide +kernel
theorem dL_law_1152 : decode cL_law 1152 = .ok (.invokevirtual 131, 3) := by decide +kernel
theorem dL_law_1155 : decode cL_law 1155 = .ok (.istore 6, 2) := by decide +kernel
theorem dL_law_1157 : decode cL_law 1157 = .ok (.aload_n 2, 1) := by decide +kernel
theorem dL_law_1158 : decode cL_law 1158 = .ok (.invokevirtual 126, 3) := by decide +kernel
theorem dL_law_1161 : decode cL_law 1161 = .ok (.iload 5, 2) := by decide +kernel
theorem dL_law_1163 : decode cL_law 1163 = .ok (.if_icmp .eq 5, 3) := by decide +kernel
theorem dL_law_1166 : decode cL_law 1166 = .ok (.iconst 0, 1) := by decide +kernel
theorem dL_law_1167 : decode cL_law 1167 = .ok (.ireturn, 1) := by decide +kernel
theorem dL_law_1168 : decode cL_law 1168 = .ok (.iload 5, 2) := by decide +kernel
theorem dL_law_1170 : decode cL_law 1170 = .ok (.ifCond .ne 15, 3) := by decide +kernel
theorem dL_law_1173 : decode cL_law 1173 = .ok (.aload_n 3, 1) := by decide +kernel
theorem dL_law_1174 : decode cL_law 1174 = .ok (.iconst 0, 1) := by decide +kernel
theorem dL_law_1175 : decode cL_law 1175 = .ok (.laload, 1) := by decide +kernel
theorem dL_law_1176 : decode cL_law 1176 = .ok (.iload 6, 2) := by decide +kernel
theorem dL_law_1178 : decode cL_law 1178 = .ok (.i2l, 1) := by decide +kernel
theorem dL_law_1179 : decode cL_law 1179 = .ok (.lcmp, 1) := by decide +kernel
theorem dL_law_1180 : decode cL_law 1180 = .ok (.ifCond .eq 5, 3) := by decide +kernel
theorem dL_law_1183 : decode cL_law 1183 = .ok (.iconst 0, 1) := by decide +kernel
theorem dL_law_1184 : decode cL_law 1184 = .ok (.ireturn, 1) := by decide +kernel
theorem dL_law_1185 : decode cL_law 1185 = .ok (.goto 300, 3) := by decide +kernel
theorem dL_law_1188 : decode cL_law 1188 = .ok (.aload_n 1, 1) := by decide +kernel
theorem dL_law_1189 : decode cL_law 1189 = .ok (.aload_n 0, 1) := by decide +kernel
theorem dL_law_1190 : decode cL_law 1190 = .ok (.iload 4, 2) := by decide +kernel
theorem dL_law_1192 : decode cL_law 1192 = .ok (.iconst 1, 1) := by decide +kernel
theorem dL_law_1193 : decode cL_law 1193 = .ok (.iadd, 1) := by decide +kernel
theorem dL_law_1194 : decode cL_law 1194 = .ok (.iaload, 1) := by decide +kernel
theorem dL_law_1195 : decode cL_law 1195 = .ok (.aload_n 0, 1) := by decide +kernel
theorem dL_law_1196 : decode cL_law 1196 = .ok (.iload 4, 2) := by decide +kernel
theorem dL_law_1198 : decode cL_law 1198 = .ok (.iconst 2, 1) := by decide +kernel
theorem dL_law_1199 : decode cL_law 1199 = .ok (.iadd, 1) := by decide +kernel
theorem dL_law_1200 : decode cL_law 1200 = .ok (.iaload, 1) := by decide +kernel
theorem dL_law_1201 : decode cL_law 1201 = .ok (.aload_n 3, 1) := by decide +kernel
theorem dL_law_1202 : decode cL_law 1202 = .ok (.invokestatic 132, 3) := by decide +kernel
theorem dL_law_1205 : decode cL_law 1205 = .ok (.istore 5, 2) := by decide +kernel
theorem dL_law_1207 : decode cL_law 1207 = .ok (.aload_n 2, 1) := by decide +kernel
theorem dL_law_1208 : decode cL_law 1208 = .ok (.aload_n 0, 1) := by decide +kernel
theorem dL_law_1209 : decode cL_law 1209 = .ok (.iload 4, 2) := by decide +kernel
theorem dL_law_1211 : decode cL_law 1211 = .ok (.iconst 1, 1) := by decide +kernel
theorem dL_law_1212 : decode cL_law 1212 = .ok (.iadd, 1) := by decide +kernel
theorem dL_law_1213 : decode cL_law 1213 = .ok (.iaload, 1) := by decide +kernel
theorem dL_law_1214 : decode cL_law 1214 = .ok (.aload_n 0, 1) := by decide +kernel
theorem dL_law_1215 : decode cL_law 1215 = .ok (.iload 4, 2) := by decide +kernel
theorem dL_law_1217 : decode cL_law 1217 = .ok (.iconst 2, 1) := by decide +kernel
theorem dL_law_1218 : decode cL_law 1218 = .ok (.iadd, 1) := by decide +kernel
theorem dL_law_1219 : decode cL_law 1219 = .ok (.iaload, 1) := by decide +kernel
theorem dL_law_1220 : decode cL_law 1220 = .ok (.invokevirtual 135, 3) := by decide +kernel
theorem dL_law_1223 : decode cL_law 1223 = .ok (.istore 6, 2) := by decide +kernel
theorem dL_law_1225 : decode cL_law 1225 = .ok (.aload_n 2, 1) := by decide +kernel
theorem dL_law_1226 : decode cL_law 1226 = .ok (.invokevirtual 126, 3) := by decide +kernel
theorem dL_law_1229 : decode cL_law 1229 = .ok (.iload 5, 2) := by decide +kernel
theorem dL_law_1231 : decode cL_law 1231 = .ok (.if_icmp .eq 5, 3) := by decide +kernel
theorem dL_law_1234 : decode cL_law 1234 = .ok (.iconst 0, 1) := by decide +kernel
theorem dL_law_1235 : decode cL_law 1235 = .ok (.ireturn, 1) := by decide +kernel
theorem dL_law_1236 : decode cL_law 1236 = .ok (.iload 5, 2) := by decide +kernel
theorem dL_law_1238 : decode cL_law 1238 = .ok (.ifCond .ne 15, 3) := by decide +kernel
theorem dL_law_1241 : decode cL_law 1241 = .ok (.aload_n 3, 1) := by decide +kernel
theorem dL_law_1242 : decode cL_law 1242 = .ok (.iconst 0, 1) := by decide +kernel
theorem dL_law_1243 : decode cL_law 1243 = .ok (.laload, 1) := by decide +kernel
theorem dL_law_1244 : decode cL_law 1244 = .ok (.iload 6, 2) := by decide +kernel
theorem dL_law_1246 : decode cL_law 1246 = .ok (.i2l, 1) := by decide +kernel
theorem dL_law_1247 : decode cL_law 1247 = .ok (.lcmp, 1) := by decide +kernel
theorem dL_law_1248 : decode cL_law 1248 = .ok (.ifCond .eq 5, 3) := by decide +kernel
theorem dL_law_1251 : decode cL_law 1251 = .ok (.iconst 0, 1) := by decide +kernel
theorem dL_law_1252 : decode cL_law 1252 = .ok (.ireturn, 1) := by decide +kernel
theorem dL_law_1253 : decode cL_law 1253 = .ok (.goto 232, 3) := by decide +kernel
theorem dL_law_1256 : decode cL_law 1256 = .ok (.aload_n 1, 1) := by decide +kernel
theorem dL_law_1257 : decode cL_law 1257 = .ok (.aload_n 0, 1) := by decide +kernel
theorem dL_law_1258 : decode cL_law 1258 = .ok (.iload 4, 2) := by decide +kernel
theorem dL_law_1260 : decode cL_law 1260 = .ok (.iconst 1, 1) := by decide +kernel
theorem dL_law_1261 : decode cL_law 1261 = .ok (.iadd, 1) := by decide +kernel
theorem dL_law_1262 : decode cL_law 1262 = .ok (.iaload, 1) := by decide +kernel
theorem dL_law_1263 : decode cL_law 1263 = .ok (.aload_n 0, 1) := by decide +kernel
theorem dL_law_1264 : decode cL_law 1264 = .ok (.iload 4, 2) := by decide +kernel
theorem dL_law_1266 : decode cL_law 1266 = .ok (.iconst 2, 1) := by decide +kernel
theorem dL_law_1267 : decode cL_law 1267 = .ok (.iadd, 1) := by decide +kernel
theorem dL_law_1268 : decode cL_law 1268 = .ok (.iaload, 1) := by decide +kernel
theorem dL_law_1269 : decode cL_law 1269 = .ok (.aload_n 0, 1) := by decide +kernel
theorem dL_law_1270 : decode cL_law 1270 = .ok (.iload 4, 2) := by decide +kernel
theorem dL_law_1272 : decode cL_law 1272 = .ok (.iconst 3, 1) := by decide +kernel
theorem dL_law_1273 : decode cL_law 1273 = .ok (.iadd, 1) := by decide +kernel
theorem dL_law_1274 : decode cL_law 1274 = .ok (.iaload, 1) := by decide +kernel
theorem dL_law_1275 : decode cL_law 1275 = .ok (.aload_n 0, 1) := by decide +kernel
theorem dL_law_1276 : decode cL_law 1276 = .ok (.iload 4, 2) := by decide +kernel
theorem dL_law_1278 : decode cL_law 1278 = .ok (.iconst 4, 1) := by decide +kernel
theorem dL_law_1279 : decode cL_law 1279 = .ok (.iadd, 1) := by decide +kernel
theorem dL_law_1280 : decode cL_law 1280 = .ok (.iaload, 1) := by decide +kernel
theorem dL_law_1281 : decode cL_law 1281 = .ok (.aload_n 0, 1) := by decide +kernel
theorem dL_law_1282 : decode cL_law 1282 = .ok (.iload 4, 2) := by decide +kernel
theorem dL_law_1284 : decode cL_law 1284 = .ok (.iconst 5, 1) := by decide +kernel
theorem dL_law_1285 : decode cL_law 1285 = .ok (.iadd, 1) := by decide +kernel
theorem dL_law_1286 : decode cL_law 1286 = .ok (.iaload, 1) := by decide +kernel
theorem dL_law_1287 : decode cL_law 1287 = .ok (.invokevirtual 136, 3) := by decide +kernel
theorem dL_law_1290 : decode cL_law 1290 = .ok (.aload_n 2, 1) := by decide +kernel
theorem dL_law_1291 : decode cL_law 1291 = .ok (.aload_n 0, 1) := by decide +kernel
theorem dL_law_1292 : decode cL_law 1292 = .ok (.iload 4, 2) := by decide +kernel
theorem dL_law_1294 : decode cL_law 1294 = .ok (.iconst 1, 1) := by decide +kernel
theorem dL_law_1295 : decode cL_law 1295 = .ok (.iadd, 1) := by decide +kernel
theorem dL_law_1296 : decode cL_law 1296 = .ok (.iaload, 1) := by decide +kernel
theorem dL_law_1297 : decode cL_law 1297 = .ok (.aload_n 0, 1) := by decide +kernel
theorem dL_law_1298 : decode cL_law 1298 = .ok (.iload 4, 2) := by decide +kernel
theorem dL_law_1300 : decode cL_law 1300 = .ok (.iconst 2, 1) := by decide +kernel
theorem dL_law_1301 : decode cL_law 1301 = .ok (.iadd, 1) := by decide +kernel
theorem dL_law_1302 : decode cL_law 1302 = .ok (.iaload, 1) := by decide +kernel
theorem dL_law_1303 : decode cL_law 1303 = .ok (.aload_n 0, 1) := by decide +kernel
theorem dL_law_1304 : decode cL_law 1304 = .ok (.iload 4, 2) := by decide +kernel
theorem dL_law_1306 : decode cL_law 1306 = .ok (.iconst 3, 1) := by decide +kernel
theorem dL_law_1307 : decode cL_law 1307 = .ok (.iadd, 1) := by decide +kernel
theorem dL_law_1308 : decode cL_law 1308 = .ok (.iaload, 1) := by decide +kernel
theorem dL_law_1309 : decode cL_law 1309 = .ok (.aload_n 0, 1) := by decide +kernel
theorem dL_law_1310 : decode cL_law 1310 = .ok (.iload 4, 2) := by decide +kernel
theorem dL_law_1312 : decode cL_law 1312 = .ok (.iconst 4, 1) := by decide +kernel
theorem dL_law_1313 : decode cL_law 1313 = .ok (.iadd, 1) := by decide +kernel
theorem dL_law_1314 : decode cL_law 1314 = .ok (.iaload, 1) := by decide +kernel
theorem dL_law_1315 : decode cL_law 1315 = .ok (.aload_n 0, 1) := by decide +kernel
theorem dL_law_1316 : decode cL_law 1316 = .ok (.iload 4, 2) := by decide +kernel
theorem dL_law_1318 : decode cL_law 1318 = .ok (.iconst 5, 1) := by decide +kernel
theorem dL_law_1319 : decode cL_law 1319 = .ok (.iadd, 1) := by decide +kernel
theorem dL_law_1320 : decode cL_law 1320 = .ok (.iaload, 1) := by decide +kernel
theorem dL_law_1321 : decode cL_law 1321 = .ok (.invokevirtual 139, 3) := by decide +kernel
theorem dL_law_1324 : decode cL_law 1324 = .ok (.if_icmp .eq 161, 3) := by decide +kernel
theorem dL_law_1327 : decode cL_law 1327 = .ok (.iconst 0, 1) := by decide +kernel
theorem dL_law_1328 : decode cL_law 1328 = .ok (.ireturn, 1) := by decide +kernel
theorem dL_law_1329 : decode cL_law 1329 = .ok (.aload_n 1, 1) := by decide +kernel
theorem dL_law_1330 : decode cL_law 1330 = .ok (.aload_n 0, 1) := by decide +kernel
theorem dL_law_1331 : decode cL_law 1331 = .ok (.iload 4, 2) := by decide +kernel
theorem dL_law_1333 : decode cL_law 1333 = .ok (.iconst 1, 1) := by decide +kernel
theorem dL_law_1334 : decode cL_law 1334 = .ok (.iadd, 1) := by decide +kernel
theorem dL_law_1335 : decode cL_law 1335 = .ok (.iaload, 1) := by decide +kernel
theorem dL_law_1336 : decode cL_law 1336 = .ok (.invokevirtual 140, 3) := by decide +kernel
theorem dL_law_1339 : decode cL_law 1339 = .ok (.aload_n 2, 1) := by decide +kernel
theorem dL_law_1340 : decode cL_law 1340 = .ok (.aload_n 0, 1) := by decide +kernel
theorem dL_law_1341 : decode cL_law 1341 = .ok (.iload 4, 2) := by decide +kernel
theorem dL_law_1343 : decode cL_law 1343 = .ok (.iconst 1, 1) := by decide +kernel
theorem dL_law_1344 : decode cL_law 1344 = .ok (.iadd, 1) := by decide +kernel
theorem dL_law_1345 : decode cL_law 1345 = .ok (.iaload, 1) := by decide +kernel
theorem dL_law_1346 : decode cL_law 1346 = .ok (.invokevirtual 143, 3) := by decide +kernel
theorem dL_law_1349 : decode cL_law 1349 = .ok (.if_icmp .eq 136, 3) := by decide +kernel
theorem dL_law_1352 : decode cL_law 1352 = .ok (.iconst 0, 1) := by decide +kernel
theorem dL_law_1353 : decode cL_law 1353 = .ok (.ireturn, 1) := by decide +kernel
theorem dL_law_1354 : decode cL_law 1354 = .ok (.aload_n 1, 1) := by decide +kernel
theorem dL_law_1355 : decode cL_law 1355 = .ok (.aload_n 0, 1) := by decide +kernel
theorem dL_law_1356 : decode cL_law 1356 = .ok (.iload 4, 2) := by decide +kernel
theorem dL_law_1358 : decode cL_law 1358 = .ok (.iconst 1, 1) := by decide +kernel
theorem dL_law_1359 : decode cL_law 1359 = .ok (.iadd, 1) := by decide +kernel
theorem dL_law_1360 : decode cL_law 1360 = .ok (.iaload, 1) := by decide +kernel
theorem dL_law_1361 : decode cL_law 1361 = .ok (.invokevirtual 144, 3) := by decide +kernel
theorem dL_law_1364 : decode cL_law 1364 = .ok (.aload_n 2, 1) := by decide +kernel
theorem dL_law_1365 : decode cL_law 1365 = .ok (.aload_n 0, 1) := by decide +kernel
theorem dL_law_1366 : decode cL_law 1366 = .ok (.iload 4, 2) := by decide +kernel
theorem dL_law_1368 : decode cL_law 1368 = .ok (.iconst 1, 1) := by decide +kernel
theorem dL_law_1369 : decode cL_law 1369 = .ok (.iadd, 1) := by decide +kernel
theorem dL_law_1370 : decode cL_law 1370 = .ok (.iaload, 1) := by decide +kernel
theorem dL_law_1371 : decode cL_law 1371 = .ok (.invokevirtual 147, 3) := by decide +kernel
theorem dL_law_1374 : decode cL_law 1374 = .ok (.if_icmp .eq 111, 3) := by decide +kernel
theorem dL_law_1377 : decode cL_law 1377 = .ok (.iconst 0, 1) := by decide +kernel
theorem dL_law_1378 : decode cL_law 1378 = .ok (.ireturn, 1) := by decide +kernel
theorem dL_law_1379 : decode cL_law 1379 = .ok (.aload_n 1, 1) := by decide +kernel
theorem dL_law_1380 : decode cL_law 1380 = .ok (.aload_n 0, 1) := by decide +kernel
theorem dL_law_1381 : decode cL_law 1381 = .ok (.iload 4, 2) := by decide +kernel
theorem dL_law_1383 : decode cL_law 1383 = .ok (.iconst 1, 1) := by decide +kernel
theorem dL_law_1384 : decode cL_law 1384 = .ok (.iadd, 1) := by decide +kernel
theorem dL_law_1385 : decode cL_law 1385 = .ok (.iaload, 1) := by decide +kernel
theorem dL_law_1386 : decode cL_law 1386 = .ok (.aload_n 3, 1) := by decide +kernel
theorem dL_law_1387 : decode cL_law 1387 = .ok (.invokestatic 148, 3) := by decide +kernel
theorem dL_law_1390 : decode cL_law 1390 = .ok (.istore 5, 2) := by decide +kernel
theorem dL_law_1392 : decode cL_law 1392 = .ok (.aload_n 2, 1) := by decide +kernel
theorem dL_law_1393 : decode cL_law 1393 = .ok (.aload_n 0, 1) := by decide +kernel
theorem dL_law_1394 : decode cL_law 1394 = .ok (.iload 4, 2) := by decide +kernel
theorem dL_law_1396 : decode cL_law 1396 = .ok (.iconst 1, 1) := by decide +kernel
theorem dL_law_1397 : decode cL_law 1397 = .ok (.iadd, 1) := by decide +kernel
theorem dL_law_1398 : decode cL_law 1398 = .ok (.iaload, 1) := by decide +kernel
theorem dL_law_1399 : decode cL_law 1399 = .ok (.invokevirtual 150, 3) := by decide +kernel
theorem dL_law_1402 : decode cL_law 1402 = .ok (.istore 6, 2) := by decide +kernel
theorem dL_law_1404 : decode cL_law 1404 = .ok (.aload_n 2, 1) := by decide +kernel
theorem dL_law_1405 : decode cL_law 1405 = .ok (.invokevirtual 126, 3) := by decide +kernel
theorem dL_law_1408 : decode cL_law 1408 = .ok (.iload 5, 2) := by decide +kernel
theorem dL_law_1410 : decode cL_law 1410 = .ok (.if_icmp .eq 5, 3) := by decide +kernel
theorem dL_law_1413 : decode cL_law 1413 = .ok (.iconst 0, 1) := by decide +kernel
theorem dL_law_1414 : decode cL_law 1414 = .ok (.ireturn, 1) := by decide +kernel
theorem dL_law_1415 : decode cL_law 1415 = .ok (.iload 5, 2) := by decide +kernel
theorem dL_law_1417 : decode cL_law 1417 = .ok (.ifCond .ne 15, 3) := by decide +kernel
theorem dL_law_1420 : decode cL_law 1420 = .ok (.aload_n 3, 1) := by decide +kernel
theorem dL_law_1421 : decode cL_law 1421 = .ok (.iconst 0, 1) := by decide +kernel
theorem dL_law_1422 : decode cL_law 1422 = .ok (.laload, 1) := by decide +kernel
theorem dL_law_1423 : decode cL_law 1423 = .ok (.iload 6, 2) := by decide +kernel
theorem dL_law_1425 : decode cL_law 1425 = .ok (.i2l, 1) := by decide +kernel
theorem dL_law_1426 : decode cL_law 1426 = .ok (.lcmp, 1) := by decide +kernel
theorem dL_law_1427 : decode cL_law 1427 = .ok (.ifCond .eq 5, 3) := by decide +kernel
theorem dL_law_1430 : decode cL_law 1430 = .ok (.iconst 0, 1) := by decide +kernel
theorem dL_law_1431 : decode cL_law 1431 = .ok (.ireturn, 1) := by decide +kernel
theorem dL_law_1432 : decode cL_law 1432 = .ok (.goto 53, 3) := by decide +kernel
theorem dL_law_1435 : decode cL_law 1435 = .ok (.aload_n 1, 1) := by decide +kernel
theorem dL_law_1436 : decode cL_law 1436 = .ok (.aload_n 0, 1) := by decide +kernel
theorem dL_law_1437 : decode cL_law 1437 = .ok (.iload 4, 2) := by decide +kernel
theorem dL_law_1439 : decode cL_law 1439 = .ok (.iconst 1, 1) := by decide +kernel
theorem dL_law_1440 : decode cL_law 1440 = .ok (.iadd, 1) := by decide +kernel
theorem dL_law_1441 : decode cL_law 1441 = .ok (.iaload, 1) := by decide +kernel
theorem dL_law_1442 : decode cL_law 1442 = .ok (.invokevirtual 151, 3) := by decide +kernel
theorem dL_law_1445 : decode cL_law 1445 = .ok (.aload_n 2, 1) := by decide +kernel
theorem dL_law_1446 : decode cL_law 1446 = .ok (.aload_n 0, 1) := by decide +kernel
theorem dL_law_1447 : decode cL_law 1447 = .ok (.iload 4, 2) := by decide +kernel
theorem dL_law_1449 : decode cL_law 1449 = .ok (.iconst 1, 1) := by decide +kernel
theorem dL_law_1450 : decode cL_law 1450 = .ok (.iadd, 1) := by decide +kernel
theorem dL_law_1451 : decode cL_law 1451 = .ok (.iaload, 1) := by decide +kernel
theorem dL_law_1452 : decode cL_law 1452 = .ok (.invokevirtual 154, 3) := by decide +kernel
theorem dL_law_1455 : decode cL_law 1455 = .ok (.if_icmp .eq 30, 3) := by decide +kernel
theorem dL_law_1458 : decode cL_law 1458 = .ok (.iconst 0, 1) := by decide +kernel
theorem dL_law_1459 : decode cL_law 1459 = .ok (.ireturn, 1) := by decide +kernel
theorem dL_law_1460 : decode cL_law 1460 = .ok (.aload_n 1, 1) := by decide +kernel
theorem dL_law_1461 : decode cL_law 1461 = .ok (.aload_n 0, 1) := by decide +kernel
theorem dL_law_1462 : decode cL_law 1462 = .ok (.iload 4, 2) := by decide +kernel
theorem dL_law_1464 : decode cL_law 1464 = .ok (.iconst 1, 1) := by decide +kernel
theorem dL_law_1465 : decode cL_law 1465 = .ok (.iadd, 1) := by decide +kernel
theorem dL_law_1466 : decode cL_law 1466 = .ok (.iaload, 1) := by decide +kernel
theorem dL_law_1467 : decode cL_law 1467 = .ok (.invokevirtual 155, 3) := by decide +kernel
theorem dL_law_1470 : decode cL_law 1470 = .ok (.aload_n 2, 1) := by decide +kernel
theorem dL_law_1471 : decode cL_law 1471 = .ok (.aload_n 0, 1) := by decide +kernel
theorem dL_law_1472 : decode cL_law 1472 = .ok (.iload 4, 2) := by decide +kernel
theorem dL_law_1474 : decode cL_law 1474 = .ok (.iconst 1, 1) := by decide +kernel
theorem dL_law_1475 : decode cL_law 1475 = .ok (.iadd, 1) := by decide +kernel
theorem dL_law_1476 : decode cL_law 1476 = .ok (.iaload, 1) := by decide +kernel
theorem dL_law_1477 : decode cL_law 1477 = .ok (.invokevirtual 158, 3) := by decide +kernel
theorem dL_law_1480 : decode cL_law 1480 = .ok (.if_icmp .eq 5, 3) := by decide +kernel
theorem dL_law_1483 : decode cL_law 1483 = .ok (.iconst 0, 1) := by decide +kernel
theorem dL_law_1484 : decode cL_law 1484 = .ok (.ireturn, 1) := by decide +kernel
theorem dL_law_1485 : decode cL_law 1485 = .ok (.iinc 4 6, 3) := by decide +kernel
theorem dL_law_1488 : decode cL_law 1488 = .ok (.goto (-1445), 3) := by decide +kernel
theorem dL_law_1491 : decode cL_law 1491 = .ok (.iconst 1, 1) := by decide +kernel
theorem dL_law_1492 : decode cL_law 1492 = .ok (.ireturn, 1) := by decide +kernel
end
section
/-! THE POOL: all objects and arrays by address. I: int and boolean fields, J: long fields, R: references (fields, elements of Whole[]), A: contents of int[] and byte[]. -/
abbrev MS : Type := (Nat → Nat → Int32) × (Nat → Nat → Int64) × (Nat → Nat → Nat) × (Nat → Nat → Int32)
def mI (M : MS) (a k : Nat) : Int32 := M.1 a k
def mJ (M : MS) (a k : Nat) : Int64 := M.2.1 a k
def mR (M : MS) (a k : Nat) : Nat := M.2.2.1 a k
def mA (M : MS) (a : Nat) : Nat → Int32 := M.2.2.2 a
def up2 {α : Type} (f : Nat → Nat → α) (a k : Nat) (v : α) : Nat → Nat → α := fun b j => if b = a ∧ j = k then v else f b j
def wI (M : MS) (a k : Nat) (v : Int32) : MS := (up2 M.1 a k v, M.2)
def wJ (M : MS) (a k : Nat) (v : Int64) : MS := (M.1, up2 M.2.1 a k v, M.2.2)
def wR (M : MS) (a k : Nat) (v : Nat) : MS := (M.1, M.2.1, up2 M.2.2.1 a k v, M.2.2.2)
def wA (M : MS) (a : Nat) (f : Nat → Int32) : MS := (M.1, M.2.1, M.2.2.1, fun b => if b = a then f else M.2.2.2 b)
/-- the shape: addresses, the kind of each, lengths of arrays, numbers of the array classes -/
abbrev SH : Type := List Nat × (Nat → Nat) × (Nat → Nat) × (Nat → ClassId)
/-- the fields of a kind: 0 int, 1 long, 2 reference -/
def fT : Nat → List Nat
  | 0 => [2]
  | 1 => [2, 2, 2, 2, 2]
  | 2 => [2, 2, 2, 2, 2, 2, 2, 2, 2, 2]
  | 3 => [0, 2, 2, 2, 2, 2, 2, 1, 1, 1, 1]
  | 4 => [0, 2, 2]
  | 5 => [2, 2, 2, 2, 2, 2, 2, 2]
  | 6 => [2, 2, 2, 2, 2, 2, 2, 2, 2]
  | 7 => [0, 2]
  | 8 => [2, 0, 0]
  | 9 => [0, 2, 2, 2, 2, 2, 2, 2, 2, 2, 2, 2, 2, 0]
  | 10 => [2, 2, 2, 0, 0, 0, 0, 2, 2, 0, 0]
  | _ => []
/-- the kinds that references of a kind's fields point at; 99: no reference -/
def rT : Nat → List Nat
  | 0 => [8]
  | 1 => [0, 8, 8, 8, 8]
  | 2 => [8, 8, 8, 0, 8, 8, 8, 8, 8, 8]
  | 3 => [99, 0, 8, 8, 8, 8, 8, 99, 99, 99, 99]
  | 4 => [99, 11, 8]
  | 5 => [0, 8, 8, 8, 8, 8, 8, 8]
  | 6 => [0, 8, 8, 8, 8, 8, 8, 8, 8]
  | 7 => [99, 11]
  | 8 => [12, 99, 99]
  | 9 => [99, 13, 0, 1, 3, 2, 5, 6, 7, 4, 8, 8, 8, 99]
  | 10 => [12, 12, 12, 99, 99, 99, 99, 11, 11, 99, 99]
  | _ => []
def fv1 (M : MS) (a k t : Nat) : Value := if t = 0 then .int (mI M a k) else if t = 1 then .long (mJ M a k) else .ref (mR M a k)
def fv (M : MS) (a : Nat) : Nat → List Nat → List Value
  | _, [] => []
  | k, t :: ts => fv1 M a k t :: fv M a (k + 1) ts
def ce (G : SH) (M : MS) (a : Nat) : va_E :=
  if G.2.1 a = 11 then .inl (G.2.2.2 0, G.2.2.1 a, .inl (mA M a))
  else if G.2.1 a = 12 then .inl (G.2.2.2 1, G.2.2.1 a, .inl (mA M a))
  else if G.2.1 a = 13 then .inl (G.2.2.2 2, G.2.2.1 a, .inr (.inr (.inr (.inr (fun i => some (mR M a i))))))
  else .inr (G.2.1 a, fv M a 0 (fT (G.2.1 a)))
abbrev PL (G : SH) (M : MS) : va_W := va_pl G.1 (ce G M)
def Is (G : SH) (k a : Nat) : Prop := a ∈ G.1 ∧ G.2.1 a = k
def AG (G : SH) : Nat → Prop := fun q => q ∈ G.1
def ND (G : SH) : Prop := ∀ (i j a : Nat), G.1[i]? = some a → G.1[j]? = some a → i = j
def tysG (G : SH) : List (ClassId × FieldType) := [(G.2.2.2 0, .byte), (G.2.2.2 1, .int), (G.2.2.2 2, .object "GcdMill$Whole")]
/-- references point at what they must -/
def TYR (G : SH) (r : Nat → Nat → Nat) : Prop := (∀ (a c k t : Nat), Is G c a → (rT c)[k]? = some t → t < 99 → Is G t (r a k)) ∧ ∀ (a i : Nat), Is G 13 a → i < G.2.2.1 a → Is G 8 (r a i)
theorem TYR.at {G : SH} {M : MS} (h : TYR G M.2.2.1) {a c : Nat} (ha : Is G c a) (k t : Nat) (hk : (rT c)[k]? = some t) (ht : t < 99) : Is G t (mR M a k) := h.1 a c k t ha hk ht
theorem TYR.el {G : SH} {M : MS} (h : TYR G M.2.2.1) {a : Nat} (ha : Is G 13 a) {i : Int32} (hi : vp_in i (G.2.2.1 a)) : Is G 8 (mR M a i.toNatClampNeg) := by
  refine h.2 a _ ha ?_
  unfold vp_in at hi
  omega
theorem TYR.up {G : SH} {M : MS} (h : TYR G M.2.2.1) {a c v : Nat} (ha : Is G c a) (k t : Nat) (hc : c < 11) (hk : (rT c)[k]? = some t) (hv : Is G t v) : TYR G (wR M a k v).2.2.1 := by
  refine ⟨fun b c2 j t2 hb hj ht => ?_, fun b i hb hi => ?_⟩
  · show Is G t2 (up2 M.2.2.1 a k v b j)
    unfold up2
    by_cases hq : b = a ∧ j = k
    · rw [if_pos hq]
      obtain ⟨rfl, rfl⟩ := hq
      have e : c2 = c := hb.2.symm.trans ha.2
      subst e
      rw [hk] at hj
      cases hj
      exact hv
    · rw [if_neg hq]
      exact h.1 b c2 j t2 hb hj ht
  · show Is G 8 (up2 M.2.2.1 a k v b i)
    unfold up2
    by_cases hq : b = a ∧ i = k
    · have e : (13 : Nat) = c := hb.2.symm.trans (by rw [hq.1]; exact ha.2)
      omega
    · rw [if_neg hq]
      exact h.2 b i hb hi
theorem fv_congr {M N : MS} {a : Nat} (h1 : ∀ j, mI M a j = mI N a j) (h2 : ∀ j, mJ M a j = mJ N a j) (h3 : ∀ j, mR M a j = mR N a j) : ∀ (ts : List Nat) (k : Nat), fv M a k ts = fv N a k ts
  | [], _ => rfl
  | t :: ts, k => by
    rw [fv, fv, fv_congr h1 h2 h3 ts (k + 1)]
    unfold fv1
    rw [h1, h2, h3]
theorem ce_congr {G : SH} {M N : MS} {a : Nat} (h1 : ∀ j, mI M a j = mI N a j) (h2 : ∀ j, mJ M a j = mJ N a j) (h3 : ∀ j, mR M a j = mR N a j) (h4 : mA M a = mA N a) : ce G M a = ce G N a := by
  unfold ce
  rw [h4, fv_congr h1 h2 h3, show (fun i => some (mR M a i)) = (fun i => some (mR N a i)) from funext fun i => by rw [h3]]
theorem ce_obj {G : SH} {M : MS} {a ci : Nat} (h : Is G ci a) (hc : ci < 11) : ce G M a = .inr (ci, fv M a 0 (fT ci)) := by
  unfold ce
  rw [h.2, if_neg (by omega), if_neg (by omega), if_neg (by omega)]
theorem ce_B {G : SH} {M : MS} {a : Nat} (h : Is G 11 a) : ce G M a = .inl (G.2.2.2 0, G.2.2.1 a, .inl (mA M a)) := by
  unfold ce
  rw [h.2, if_pos rfl]
theorem ce_I {G : SH} {M : MS} {a : Nat} (h : Is G 12 a) : ce G M a = .inl (G.2.2.2 1, G.2.2.1 a, .inl (mA M a)) := by
  unfold ce
  rw [h.2, if_neg (by omega), if_pos rfl]
theorem ce_W {G : SH} {M : MS} {a : Nat} (h : Is G 13 a) : ce G M a = .inl (G.2.2.2 2, G.2.2.1 a, .inr (.inr (.inr (.inr (fun i => some (mR M a i)))))) := by
  unfold ce
  rw [h.2, if_neg (by omega), if_neg (by omega), if_pos rfl]
theorem fv_wI_lt {M : MS} {a k : Nat} {v : Int32} : ∀ (ts : List Nat) (j : Nat), k < j → fv (wI M a k v) a j ts = fv M a j ts
  | [], _, _ => rfl
  | t :: ts, j, h => by
    rw [fv, fv, fv_wI_lt ts (j + 1) (by omega)]
    have e : mI (wI M a k v) a j = mI M a j := by
      show up2 M.1 a k v a j = M.1 a j
      unfold up2
      rw [if_neg (by omega)]
    unfold fv1
    rw [e]
    rfl
theorem fv_wI {M : MS} {a : Nat} {v : Int32} : ∀ (ts : List Nat) (j d : Nat), ts[d]? = some 0 → fv (wI M a (j + d) v) a j ts = (fv M a j ts).set d (.int v)
  | [], _, _, h => by simp at h
  | t :: ts, j, 0, h => by
    simp only [List.getElem?_cons_zero, Option.some.injEq] at h
    subst h
    rw [fv, fv, fv_wI_lt ts (j + 1) (by omega), List.set_cons_zero]
    have e : mI (wI M a (j + 0) v) a j = v := by
      show up2 M.1 a (j + 0) v a j = v
      unfold up2
      rw [if_pos ⟨rfl, rfl⟩]
    unfold fv1
    rw [if_pos rfl, e]
  | t :: ts, j, d + 1, h => by
    simp only [List.getElem?_cons_succ] at h
    have ih := fv_wI (M := M) (a := a) (v := v) ts (j + 1) d h
    rw [show j + 1 + d = j + (d + 1) by omega] at ih
    rw [fv, fv, ih, List.set_cons_succ]
    have e : mI (wI M a (j + (d + 1)) v) a j = mI M a j := by
      show up2 M.1 a (j + (d + 1)) v a j = M.1 a j
      unfold up2
      rw [if_neg (by omega)]
    unfold fv1
    rw [e]
    rfl
theorem fv_wJ_lt {M : MS} {a k : Nat} {v : Int64} : ∀ (ts : List Nat) (j : Nat), k < j → fv (wJ M a k v) a j ts = fv M a j ts
  | [], _, _ => rfl
  | t :: ts, j, h => by
    rw [fv, fv, fv_wJ_lt ts (j + 1) (by omega)]
    have e : mJ (wJ M a k v) a j = mJ M a j := by
      show up2 M.2.1 a k v a j = M.2.1 a j
      unfold up2
      rw [if_neg (by omega)]
    unfold fv1
    rw [e]
    rfl
theorem fv_wJ {M : MS} {a : Nat} {v : Int64} : ∀ (ts : List Nat) (j d : Nat), ts[d]? = some 1 → fv (wJ M a (j + d) v) a j ts = (fv M a j ts).set d (.long v)
  | [], _, _, h => by simp at h
  | t :: ts, j, 0, h => by
    simp only [List.getElem?_cons_zero, Option.some.injEq] at h
    subst h
    rw [fv, fv, fv_wJ_lt ts (j + 1) (by omega), List.set_cons_zero]
    have e : mJ (wJ M a (j + 0) v) a j = v := by
      show up2 M.2.1 a (j + 0) v a j = v
      unfold up2
      rw [if_pos ⟨rfl, rfl⟩]
    unfold fv1
    rw [if_neg (by omega), if_pos rfl, e]
  | t :: ts, j, d + 1, h => by
    simp only [List.getElem?_cons_succ] at h
    have ih := fv_wJ (M := M) (a := a) (v := v) ts (j + 1) d h
    rw [show j + 1 + d = j + (d + 1) by omega] at ih
    rw [fv, fv, ih, List.set_cons_succ]
    have e : mJ (wJ M a (j + (d + 1)) v) a j = mJ M a j := by
      show up2 M.2.1 a (j + (d + 1)) v a j = M.2.1 a j
      unfold up2
      rw [if_neg (by omega)]
    unfold fv1
    rw [e]
    rfl
theorem fv_wR_lt {M : MS} {a k : Nat} {v : Nat} : ∀ (ts : List Nat) (j : Nat), k < j → fv (wR M a k v) a j ts = fv M a j ts
  | [], _, _ => rfl
  | t :: ts, j, h => by
    rw [fv, fv, fv_wR_lt ts (j + 1) (by omega)]
    have e : mR (wR M a k v) a j = mR M a j := by
      show up2 M.2.2.1 a k v a j = M.2.2.1 a j
      unfold up2
      rw [if_neg (by omega)]
    unfold fv1
    rw [e]
    rfl
theorem fv_wR {M : MS} {a : Nat} {v : Nat} : ∀ (ts : List Nat) (j d : Nat), ts[d]? = some 2 → fv (wR M a (j + d) v) a j ts = (fv M a j ts).set d (.ref v)
  | [], _, _, h => by simp at h
  | t :: ts, j, 0, h => by
    simp only [List.getElem?_cons_zero, Option.some.injEq] at h
    subst h
    rw [fv, fv, fv_wR_lt ts (j + 1) (by omega), List.set_cons_zero]
    have e : mR (wR M a (j + 0) v) a j = v := by
      show up2 M.2.2.1 a (j + 0) v a j = v
      unfold up2
      rw [if_pos ⟨rfl, rfl⟩]
    unfold fv1
    rw [if_neg (by omega), if_neg (by omega), e]
  | t :: ts, j, d + 1, h => by
    simp only [List.getElem?_cons_succ] at h
    have ih := fv_wR (M := M) (a := a) (v := v) ts (j + 1) d h
    rw [show j + 1 + d = j + (d + 1) by omega] at ih
    rw [fv, fv, ih, List.set_cons_succ]
    have e : mR (wR M a (j + (d + 1)) v) a j = mR M a j := by
      show up2 M.2.2.1 a (j + (d + 1)) v a j = M.2.2.1 a j
      unfold up2
      rw [if_neg (by omega)]
    unfold fv1
    rw [e]
    rfl
theorem up2_ne {α : Type} {f : Nat → Nat → α} {a k b : Nat} {v : α} (h : b ≠ a) (j : Nat) : up2 f a k v b j = f b j := by
  unfold up2
  rw [if_neg (fun q => h q.1)]
theorem ce_wI {G : SH} {M : MS} {a ci k : Nat} {v : Int32} (h : Is G ci a) (hc : ci < 11) (hk : (fT ci)[k]? = some 0) (b : Nat) : va_up (ce G M) a (.inr (ci, (fv M a 0 (fT ci)).set k (.int v))) b = ce G (wI M a k v) b := by
  unfold va_up
  by_cases hb : b = a
  · subst hb
    rw [if_pos rfl, ce_obj h hc]
    have e := fv_wI (M := M) (a := b) (v := v) (fT ci) 0 k hk
    rw [Nat.zero_add] at e
    rw [e]
  · rw [if_neg hb]
    exact ce_congr (fun j => (up2_ne hb j).symm) (fun j => rfl) (fun j => rfl) rfl
theorem ce_wJ {G : SH} {M : MS} {a ci k : Nat} {v : Int64} (h : Is G ci a) (hc : ci < 11) (hk : (fT ci)[k]? = some 1) (b : Nat) : va_up (ce G M) a (.inr (ci, (fv M a 0 (fT ci)).set k (.long v))) b = ce G (wJ M a k v) b := by
  unfold va_up
  by_cases hb : b = a
  · subst hb
    rw [if_pos rfl, ce_obj h hc]
    have e := fv_wJ (M := M) (a := b) (v := v) (fT ci) 0 k hk
    rw [Nat.zero_add] at e
    rw [e]
  · rw [if_neg hb]
    exact ce_congr (fun j => rfl) (fun j => (up2_ne hb j).symm) (fun j => rfl) rfl
theorem ce_wR {G : SH} {M : MS} {a ci k : Nat} {v : Nat} (h : Is G ci a) (hc : ci < 11) (hk : (fT ci)[k]? = some 2) (b : Nat) : va_up (ce G M) a (.inr (ci, (fv M a 0 (fT ci)).set k (.ref v))) b = ce G (wR M a k v) b := by
  unfold va_up
  by_cases hb : b = a
  · subst hb
    rw [if_pos rfl, ce_obj h hc]
    have e := fv_wR (M := M) (a := b) (v := v) (fT ci) 0 k hk
    rw [Nat.zero_add] at e
    rw [e]
  · rw [if_neg hb]
    exact ce_congr (fun j => rfl) (fun j => rfl) (fun j => (up2_ne hb j).symm) rfl
theorem mA_wA {M : MS} {a : Nat} {f : Nat → Int32} : mA (wA M a f) a = f := by
  show (if a = a then f else M.2.2.2 a) = f
  rw [if_pos rfl]
theorem mA_wA_ne {M : MS} {a b : Nat} {f : Nat → Int32} (h : b ≠ a) : mA (wA M a f) b = mA M b := by
  show (if b = a then f else M.2.2.2 b) = M.2.2.2 b
  rw [if_neg h]
theorem ce_wAI {G : SH} {M : MS} {a : Nat} {f : Nat → Int32} (h : Is G 12 a) (b : Nat) : va_up (ce G M) a (.inl (G.2.2.2 1, G.2.2.1 a, .inl f)) b = ce G (wA M a f) b := by
  unfold va_up
  by_cases hb : b = a
  · subst hb
    rw [if_pos rfl, ce_I h, mA_wA]
  · rw [if_neg hb]
    exact ce_congr (fun j => rfl) (fun j => rfl) (fun j => rfl) (mA_wA_ne hb).symm
theorem ce_wAB {G : SH} {M : MS} {a : Nat} {f : Nat → Int32} (h : Is G 11 a) (b : Nat) : va_up (ce G M) a (.inl (G.2.2.2 0, G.2.2.1 a, .inl f)) b = ce G (wA M a f) b := by
  unfold va_up
  by_cases hb : b = a
  · subst hb
    rw [if_pos rfl, ce_B h, mA_wA]
  · rw [if_neg hb]
    exact ce_congr (fun j => rfl) (fun j => rfl) (fun j => rfl) (mA_wA_ne hb).symm
theorem PL_get {G : SH} {f : Nat → va_E} {a : Nat} (h : a ∈ G.1) : ∃ i : Nat, (va_pl G.1 f)[i]? = some (a, f a) := va_pl_get (X := []) h
theorem PL_D {G : SH} (h : ND G) (f : Nat → va_E) : va_D (AG G) (va_pl G.1 f) := by
  have key : ∀ (i : Nat) (q : Nat × va_E), (va_pl G.1 f)[i]? = some q → G.1[i]? = some q.1 := by
    intro i q hq
    unfold va_pl at hq
    rw [List.getElem?_map] at hq
    cases hi : G.1[i]? with
    | none => rw [hi] at hq; cases hq
    | some x =>
      rw [hi] at hq
      cases hq
      rfl
  refine ⟨fun i j x y hx hy hxy => ?_, fun i q hq => List.mem_of_getElem? (key i q hq)⟩
  exact h i j x.1 (key i x hx) (by rw [hxy]; exact key j y hy)
theorem PL_set {G : SH} (h : ND G) {M N : MS} {a i : Nat} {x : va_E} (ha : a ∈ G.1) (hi : (PL G M)[i]? = some (a, ce G M a)) (hx : ∀ b, va_up (ce G M) a x b = ce G N b) : (PL G M).set i (a, x) = PL G N := by
  have e := va_pl_set (X := []) (e := x) (PL_D h (ce G M)) ha hi
  exact e.trans (va_pl_congr hx)
end
section
def GW : List Cond := lw_tbl.filter goodWord
theorem gw_t1 {w : Cond} (i : Nat) (h : tables_1_1[i]? = some w) (hg : goodWord w = true) : w ∈ GW := List.mem_filter.mpr ⟨List.mem_append_right _ (List.mem_append_left _ (List.mem_of_getElem? h)), hg⟩
theorem gw_t2 {w : Cond} (i : Nat) (h : tables_1_2[i]? = some w) (hg : goodWord w = true) : w ∈ GW := List.mem_filter.mpr ⟨List.mem_append_right _ (List.mem_append_right _ (List.mem_append_left _ (List.mem_of_getElem? h))), hg⟩
theorem gw_t3 {w : Cond} (i : Nat) (h : tables_1_3[i]? = some w) (hg : goodWord w = true) : w ∈ GW := List.mem_filter.mpr ⟨List.mem_append_right _ (List.mem_append_right _ (List.mem_append_right _ (List.mem_append_left _ (List.mem_of_getElem? h)))), hg⟩
theorem gw_t4 {w : Cond} (i : Nat) (h : tables_1_4[i]? = some w) (hg : goodWord w = true) : w ∈ GW := List.mem_filter.mpr ⟨List.mem_append_right _ (List.mem_append_right _ (List.mem_append_right _ (List.mem_append_right _ (List.mem_append_left _ (List.mem_of_getElem? h))))), hg⟩
theorem gw_t5 {w : Cond} (i : Nat) (h : tables_1_5[i]? = some w) (hg : goodWord w = true) : w ∈ GW := List.mem_filter.mpr ⟨List.mem_append_right _ (List.mem_append_right _ (List.mem_append_right _ (List.mem_append_right _ (List.mem_append_right _ (List.mem_of_getElem? h))))), hg⟩
theorem gw_s {y : MethodName} {n : Nat} (h : (y, n) ∈ lw_privs) (hg : goodWord (.selects y.cls y y) = true) : Cond.selects y.cls y y ∈ GW := List.mem_filter.mpr ⟨List.mem_append_left _ (List.mem_map.mpr ⟨(y, n), h, rfl⟩), hg⟩
theorem gw_good {w : Cond} (h : w ∈ GW) : (w.onTables && w.keeps) = true ∨ ∃ ty, w = .arrayClass ty := good_of_word (List.mem_filter.mp h).2
theorem gw_in {w : Cond} (h : w ∈ GW) : w ∈ lw_tbl := (List.mem_filter.mp h).1
theorem goodIn_u {x y : Cond} (hy : y ∈ GW) : GoodIn (x :: GW) (y :: GW) := fun w h => by
  rcases List.mem_cons.mp h with rfl | h
  · exact ⟨List.mem_cons_of_mem _ hy, gw_good hy⟩
  · exact ⟨List.mem_cons_of_mem _ h, gw_good h⟩
theorem goodIn_g {y : Cond} (hy : y ∈ GW) : GoodIn GW (y :: GW) := fun w h => by
  rcases List.mem_cons.mp h with rfl | h
  · exact ⟨hy, gw_good hy⟩
  · exact ⟨h, gw_good h⟩
def CX (p : Program) (s : State) (m : MethodId) (args : Array Value) (c : Code) (D : va_G) (G : SH) (cc : ByteArray) (nL : Nat) (own : String) : Prop := p.tables.exec = Jvm.exec ∧ c.code = cc ∧ c.maxLocals = nL ∧ s.vm.findClass own = some m.cls ∧ (∀ w ∈ GW, w.before args s = true) ∧ va_K D vwCl (tysG G) s ∧ ND G
/-- the machine, at pc with the locals lv, the stack st and the pool M, comes to Q -/
def PW (p : Program) (l : Launch) (e : Env) (R : Room) (s : State) (m : MethodId) (args : Array Value) (below : List Frame) (meth : Method) (c : Code) (D : va_G) (G : SH) (nL : Nat) (Q : State → Prop) (pc : Nat) (lv : List (Nat × Value)) (st : List Value) (M : MS) : Prop :=
  ∀ (H : Heap) (locs : List Loc) (ls : Array Slot), va_P D vwCl (PL G M) H → va_S (AG G) s.heap H locs → lv_has ls nL lv → W p l e R s m args below meth c H locs 0 0 Q (F0 m pc ls st)
def PRE (D : va_G) (G : SH) (M : MS) (U : State) : Prop := va_P D vwCl (PL G M) U.heap ∧ va_K D vwCl (tysG G) U
def POST (D : va_G) (G : SH) (M : MS) (t : State) : Prop := va_P D vwCl (PL G M) t.heap ∧ va_K D vwCl (tysG G) t ∧ TYR G M.2.2.1
def MeI (l : Launch) (D : va_G) (G : SH) (y : MethodName) (ws : List Cond) (rm : Room) (av : List Value) (M : MS) (Qp : Int32 → MS → Prop) : Prop := Met l y ws rm (va_Pc av (PRE D G M)) (va_Qi Qp (POST D G) (AG G)) 0 0 (AG G)
def MeL (l : Launch) (D : va_G) (G : SH) (y : MethodName) (ws : List Cond) (rm : Room) (av : List Value) (M : MS) (Qp : Int64 → MS → Prop) : Prop := Met l y ws rm (va_Pc av (PRE D G M)) (va_Ql Qp (POST D G) (AG G)) 0 0 (AG G)
def MeV (l : Launch) (D : va_G) (G : SH) (y : MethodName) (ws : List Cond) (rm : Room) (av : List Value) (M : MS) (Qp : MS → Prop) : Prop := Met l y ws rm (va_Pc av (PRE D G M)) (va_Qv Qp (POST D G) (AG G)) 0 0 (AG G)
def MeR (l : Launch) (D : va_G) (G : SH) (y : MethodName) (ws : List Cond) (rm : Room) (av : List Value) (M : MS) (Qp : Nat → MS → Prop) : Prop := Met l y ws rm (va_Pc av (PRE D G M)) (va_Qr (fun _ : MS => True) (fun N a t => Qp a N ∧ Is G 8 a ∧ POST D G N t) (AG G)) 0 0 (AG G)
theorem PRE_blind (av : List Value) (D : va_G) (G : SH) (M : MS) : FrameBlind (va_Pc av (PRE D G M)) := fun a U g mk q => ⟨q.1, q.2.1, va_K.moved (u := U) (U := U.calling g mk a) (Vm.Alike.refl U.vm) q.2.2⟩
section PoolRules
variable {p : Program} {l : Launch} {e : Env} {R : Room} {s : State} {m : MethodId} {args : Array Value} {below : List Frame} {meth : Method} {c : Code} {D : va_G} {G : SH} {nL : Nat} {Q : State → Prop} {cc : ByteArray} {own : String} {pc : Nat} {lv : List (Nat × Value)} {st : List Value} {M : MS}
/-- a method out of its body -/
theorem p_method {y : MethodName} {rm : Room} {Qc : Array Value → State → Outcome → State → Prop} {maxL : Nat} {ret : Option FieldType} {av : List Value} {lv0 : List (Nat × Value)} (hy : plainName y.cls = true) (hlv : lv_args 0 av = lv0) (hn : (lg_sl av).length ≤ maxL) (hND : ND G)
    (body : ∀ (p : Program) (e : Env) (s : State) (m : MethodId) (args : Array Value) (below : List Frame) (meth : Method) (c : Code), CX p s m args c D G cc maxL y.cls → meth.sig.returnType = ret → meth.locks = false → PW p l e rm s m args below meth c D G maxL (MQ below Qc args s 0 0 (AG G)) 0 lv0 [] M) :
    Met l y (Cond.code y cc maxL ret :: GW) rm (va_Pc av (PRE D G M)) Qc 0 0 (AG G) := by
  refine Met.ofW (cc := cc) (maxL := maxL) (ret := ret) hy rfl ?_
  intro p e s m args below meth c s₁ B hml hv
  obtain ⟨rfl, hP, hK⟩ := hv
  have hts := atoms_spec (ws := Cond.code y cc maxL ret :: GW) B.pre
  have hown : s.vm.findClass y.cls = some m.cls := findClass_of_methodNamed B.named
  have hl := lv_entry av (n := maxL) hn
  rw [lg_entry_eq]
  rw [hlv] at hl
  exact body p e s m av.toArray below meth c ⟨B.exec, B.bytes, hml, hown, fun w h => hts w (List.mem_cons_of_mem _ h), hK, hND⟩ B.returns B.notSynchronized s.heap [] _ hP va_S.rf hl
theorem p_perm (ks : List Nat) {lv' : List (Nat × Value)} (h : lv_pick lv ks = lv') (k : PW p l e R s m args below meth c D G nL Q pc lv' st M) : PW p l e R s m args below meth c D G nL Q pc lv st M := fun H locs ls hP hS hl => k H locs ls hP hS (lv_sub hl ks h)
theorem p_topi {x : Int32} (k : ∀ y : Int32, y = x → PW p l e R s m args below meth c D G nL Q pc lv (.int y :: st) M) : PW p l e R s m args below meth c D G nL Q pc lv (.int x :: st) M := k x rfl
theorem p_topl {x : Int64} (k : ∀ y : Int64, y = x → PW p l e R s m args below meth c D G nL Q pc lv (.long y :: st) M) : PW p l e R s m args below meth c D G nL Q pc lv (.long x :: st) M := k x rfl
theorem p_mem {N : MS} (k : ∀ M : MS, M = N → PW p l e R s m args below meth c D G nL Q pc lv st M) : PW p l e R s m args below meth c D G nL Q pc lv st N := k N rfl
theorem p_iconst (cx : CX p s m args c D G cc nL own) {n : Int} {v : Int32} (dg : decode cc pc = .ok (.iconst n, 1)) (hv : Int32.ofInt n = v) (k : PW p l e R s m args below meth c D G nL Q (pc + 1) lv (.int v :: st) M) : PW p l e R s m args below meth c D G nL Q pc lv st M := fun H locs ls hP hS hl => lv_iconst cx.1 cx.2.1 dg hv (k H locs ls hP hS hl)
theorem p_bipush (cx : CX p s m args c D G cc nL own) {n : Int} {v : Int32} (dg : decode cc pc = .ok (.bipush n, 2)) (hv : (Int8.ofInt n).toInt32 = v) (k : PW p l e R s m args below meth c D G nL Q (pc + 2) lv (.int v :: st) M) : PW p l e R s m args below meth c D G nL Q pc lv st M := fun H locs ls hP hS hl => lv_bipush cx.1 cx.2.1 dg hv (k H locs ls hP hS hl)
theorem p_sipush (cx : CX p s m args c D G cc nL own) {n : Int} {v : Int32} (dg : decode cc pc = .ok (.sipush n, 3)) (hv : (Int16.ofInt n).toInt32 = v) (k : PW p l e R s m args below meth c D G nL Q (pc + 3) lv (.int v :: st) M) : PW p l e R s m args below meth c D G nL Q pc lv st M := fun H locs ls hP hS hl => lv_sipush cx.1 cx.2.1 dg hv (k H locs ls hP hS hl)
theorem p_lconst (cx : CX p s m args c D G cc nL own) {n : Fin 2} {v : Int64} (dg : decode cc pc = .ok (.lconst n, 1)) (hv : Int64.ofNat (n : Nat) = v) (k : PW p l e R s m args below meth c D G nL Q (pc + 1) lv (.long v :: st) M) : PW p l e R s m args below meth c D G nL Q pc lv st M := fun H locs ls hP hS hl => lv_lconst cx.1 cx.2.1 dg hv (k H locs ls hP hS hl)
theorem p_iload_n (cx : CX p s m args c D G cc nL own) {q : Fin 4} {i : Nat} {x : Int32} (dg : decode cc pc = .ok (.iload_n q, 1)) (hi : (q : Nat) = i) (n : Nat) (hk : lv[n]? = some (i, .int x)) (k : PW p l e R s m args below meth c D G nL Q (pc + 1) lv (.int x :: st) M) : PW p l e R s m args below meth c D G nL Q pc lv st M := fun H locs ls hP hS hl => lv_iload_n cx.1 cx.2.1 dg hi (lv_at hl n hk) (k H locs ls hP hS hl)
theorem p_iload (cx : CX p s m args c D G cc nL own) {i : Nat} {x : Int32} (dg : decode cc pc = .ok (.iload i, 2)) (n : Nat) (hk : lv[n]? = some (i, .int x)) (k : PW p l e R s m args below meth c D G nL Q (pc + 2) lv (.int x :: st) M) : PW p l e R s m args below meth c D G nL Q pc lv st M := fun H locs ls hP hS hl => lv_iload cx.1 cx.2.1 dg (lv_at hl n hk) (k H locs ls hP hS hl)
theorem p_lload_n (cx : CX p s m args c D G cc nL own) {q : Fin 4} {i : Nat} {x : Int64} (dg : decode cc pc = .ok (.lload_n q, 1)) (hi : (q : Nat) = i) (n : Nat) (hk : lv[n]? = some (i, .long x)) (k : PW p l e R s m args below meth c D G nL Q (pc + 1) lv (.long x :: st) M) : PW p l e R s m args below meth c D G nL Q pc lv st M := fun H locs ls hP hS hl => lv_lload_n cx.1 cx.2.1 dg hi (lv_at hl n hk) (k H locs ls hP hS hl)
theorem p_lload (cx : CX p s m args c D G cc nL own) {i : Nat} {x : Int64} (dg : decode cc pc = .ok (.lload i, 2)) (n : Nat) (hk : lv[n]? = some (i, .long x)) (k : PW p l e R s m args below meth c D G nL Q (pc + 2) lv (.long x :: st) M) : PW p l e R s m args below meth c D G nL Q pc lv st M := fun H locs ls hP hS hl => lv_lload cx.1 cx.2.1 dg (lv_at hl n hk) (k H locs ls hP hS hl)
theorem p_aload_n (cx : CX p s m args c D G cc nL own) {q : Fin 4} {i : Nat} {x : Nat} (dg : decode cc pc = .ok (.aload_n q, 1)) (hi : (q : Nat) = i) (n : Nat) (hk : lv[n]? = some (i, .ref x)) (k : PW p l e R s m args below meth c D G nL Q (pc + 1) lv (.ref x :: st) M) : PW p l e R s m args below meth c D G nL Q pc lv st M := fun H locs ls hP hS hl => lv_aload_n cx.1 cx.2.1 dg hi (lv_at hl n hk) (k H locs ls hP hS hl)
theorem p_aload (cx : CX p s m args c D G cc nL own) {i : Nat} {x : Nat} (dg : decode cc pc = .ok (.aload i, 2)) (n : Nat) (hk : lv[n]? = some (i, .ref x)) (k : PW p l e R s m args below meth c D G nL Q (pc + 2) lv (.ref x :: st) M) : PW p l e R s m args below meth c D G nL Q pc lv st M := fun H locs ls hP hS hl => lv_aload cx.1 cx.2.1 dg (lv_at hl n hk) (k H locs ls hP hS hl)
theorem p_istore_n (cx : CX p s m args c D G cc nL own) {q : Fin 4} {i : Nat} {x : Int32} {lv' : List (Nat × Value)} (dg : decode cc pc = .ok (.istore_n q, 1)) (hi : (q : Nat) = i) (hn : i < nL) (ks : List Nat) (hl0 : lv_pick ((i, Value.int x) :: lv.filter (fun q => !(q.1 == i) && !(q.1 + 1 == i && q.2.category == 2))) ks = lv') (k : PW p l e R s m args below meth c D G nL Q (pc + 1) lv' st M) : PW p l e R s m args below meth c D G nL Q pc lv (.int x :: st) M := fun H locs ls hP hS hl => lv_istore_n cx.1 cx.2.1 dg hi hl hn rfl (fun ls1 hl1 => k H locs ls1 hP hS (lv_sub hl1 ks hl0))
theorem p_istore (cx : CX p s m args c D G cc nL own) {i : Nat} {x : Int32} {lv' : List (Nat × Value)} (dg : decode cc pc = .ok (.istore i, 2)) (hn : i < nL) (ks : List Nat) (hl0 : lv_pick ((i, Value.int x) :: lv.filter (fun q => !(q.1 == i) && !(q.1 + 1 == i && q.2.category == 2))) ks = lv') (k : PW p l e R s m args below meth c D G nL Q (pc + 2) lv' st M) : PW p l e R s m args below meth c D G nL Q pc lv (.int x :: st) M := fun H locs ls hP hS hl => lv_istore cx.1 cx.2.1 dg hl hn rfl (fun ls1 hl1 => k H locs ls1 hP hS (lv_sub hl1 ks hl0))
theorem p_astore_n (cx : CX p s m args c D G cc nL own) {q : Fin 4} {i : Nat} {x : Nat} {lv' : List (Nat × Value)} (dg : decode cc pc = .ok (.astore_n q, 1)) (hi : (q : Nat) = i) (hn : i < nL) (ks : List Nat) (hl0 : lv_pick ((i, Value.ref x) :: lv.filter (fun q => !(q.1 == i) && !(q.1 + 1 == i && q.2.category == 2))) ks = lv') (k : PW p l e R s m args below meth c D G nL Q (pc + 1) lv' st M) : PW p l e R s m args below meth c D G nL Q pc lv (.ref x :: st) M := fun H locs ls hP hS hl => lv_astore_n cx.1 cx.2.1 dg hi hl hn rfl (fun ls1 hl1 => k H locs ls1 hP hS (lv_sub hl1 ks hl0))
theorem p_astore (cx : CX p s m args c D G cc nL own) {i : Nat} {x : Nat} {lv' : List (Nat × Value)} (dg : decode cc pc = .ok (.astore i, 2)) (hn : i < nL) (ks : List Nat) (hl0 : lv_pick ((i, Value.ref x) :: lv.filter (fun q => !(q.1 == i) && !(q.1 + 1 == i && q.2.category == 2))) ks = lv') (k : PW p l e R s m args below meth c D G nL Q (pc + 2) lv' st M) : PW p l e R s m args below meth c D G nL Q pc lv (.ref x :: st) M := fun H locs ls hP hS hl => lv_astore cx.1 cx.2.1 dg hl hn rfl (fun ls1 hl1 => k H locs ls1 hP hS (lv_sub hl1 ks hl0))
theorem p_lstore_n (cx : CX p s m args c D G cc nL own) {q : Fin 4} {i : Nat} {x : Int64} {lv' : List (Nat × Value)} (dg : decode cc pc = .ok (.lstore_n q, 1)) (hi : (q : Nat) = i) (hn : i + 1 < nL) (ks : List Nat) (hl0 : lv_pick ((i, Value.long x) :: lv.filter (fun q => !(q.1 == i) && (!(q.1 == i + 1) && !(q.1 + 1 == i && q.2.category == 2)))) ks = lv') (k : PW p l e R s m args below meth c D G nL Q (pc + 1) lv' st M) : PW p l e R s m args below meth c D G nL Q pc lv (.long x :: st) M := fun H locs ls hP hS hl => lv_lstore_n cx.1 cx.2.1 dg hi hl hn rfl (fun ls1 hl1 => k H locs ls1 hP hS (lv_sub hl1 ks hl0))
theorem p_lstore (cx : CX p s m args c D G cc nL own) {i : Nat} {x : Int64} {lv' : List (Nat × Value)} (dg : decode cc pc = .ok (.lstore i, 2)) (hn : i + 1 < nL) (ks : List Nat) (hl0 : lv_pick ((i, Value.long x) :: lv.filter (fun q => !(q.1 == i) && (!(q.1 == i + 1) && !(q.1 + 1 == i && q.2.category == 2)))) ks = lv') (k : PW p l e R s m args below meth c D G nL Q (pc + 2) lv' st M) : PW p l e R s m args below meth c D G nL Q pc lv (.long x :: st) M := fun H locs ls hP hS hl => lv_lstore cx.1 cx.2.1 dg hl hn rfl (fun ls1 hl1 => k H locs ls1 hP hS (lv_sub hl1 ks hl0))
theorem p_iinc (cx : CX p s m args c D G cc nL own) {i : Nat} {d : Int} {x v : Int32} {lv' : List (Nat × Value)} (dg : decode cc pc = .ok (.iinc i d, 3)) (n : Nat) (hk : lv[n]? = some (i, .int x)) (hv : x + Int32.ofInt d = v) (hn : i < nL) (ks : List Nat) (hl0 : lv_pick ((i, Value.int v) :: lv.filter (fun q => !(q.1 == i) && !(q.1 + 1 == i && q.2.category == 2))) ks = lv') (k : PW p l e R s m args below meth c D G nL Q (pc + 3) lv' st M) : PW p l e R s m args below meth c D G nL Q pc lv st M := fun H locs ls hP hS hl => lv_iinc cx.1 cx.2.1 dg hl hk hv hn rfl (fun ls1 hl1 => k H locs ls1 hP hS (lv_sub hl1 ks hl0))
theorem p_iadd (cx : CX p s m args c D G cc nL own) {x y : Int32} (dg : decode cc pc = .ok (.iadd, 1)) (k : PW p l e R s m args below meth c D G nL Q (pc + 1) lv (.int (x + y) :: st) M) : PW p l e R s m args below meth c D G nL Q pc lv (.int y :: .int x :: st) M := fun H locs ls hP hS hl => lv_iadd cx.1 cx.2.1 dg (k H locs ls hP hS hl)
theorem p_isub (cx : CX p s m args c D G cc nL own) {x y : Int32} (dg : decode cc pc = .ok (.isub, 1)) (k : PW p l e R s m args below meth c D G nL Q (pc + 1) lv (.int (x - y) :: st) M) : PW p l e R s m args below meth c D G nL Q pc lv (.int y :: .int x :: st) M := fun H locs ls hP hS hl => lv_isub cx.1 cx.2.1 dg (k H locs ls hP hS hl)
theorem p_imul (cx : CX p s m args c D G cc nL own) {x y : Int32} (dg : decode cc pc = .ok (.imul, 1)) (k : PW p l e R s m args below meth c D G nL Q (pc + 1) lv (.int (x * y) :: st) M) : PW p l e R s m args below meth c D G nL Q pc lv (.int y :: .int x :: st) M := fun H locs ls hP hS hl => lv_imul cx.1 cx.2.1 dg (k H locs ls hP hS hl)
theorem p_iand (cx : CX p s m args c D G cc nL own) {x y : Int32} (dg : decode cc pc = .ok (.iand, 1)) (k : PW p l e R s m args below meth c D G nL Q (pc + 1) lv (.int (x &&& y) :: st) M) : PW p l e R s m args below meth c D G nL Q pc lv (.int y :: .int x :: st) M := fun H locs ls hP hS hl => lv_iand cx.1 cx.2.1 dg (k H locs ls hP hS hl)
theorem p_ior (cx : CX p s m args c D G cc nL own) {x y : Int32} (dg : decode cc pc = .ok (.ior, 1)) (k : PW p l e R s m args below meth c D G nL Q (pc + 1) lv (.int (x ||| y) :: st) M) : PW p l e R s m args below meth c D G nL Q pc lv (.int y :: .int x :: st) M := fun H locs ls hP hS hl => lv_ior cx.1 cx.2.1 dg (k H locs ls hP hS hl)
theorem p_ixor (cx : CX p s m args c D G cc nL own) {x y : Int32} (dg : decode cc pc = .ok (.ixor, 1)) (k : PW p l e R s m args below meth c D G nL Q (pc + 1) lv (.int (x ^^^ y) :: st) M) : PW p l e R s m args below meth c D G nL Q pc lv (.int y :: .int x :: st) M := fun H locs ls hP hS hl => lv_ixor cx.1 cx.2.1 dg (k H locs ls hP hS hl)
theorem p_ishl (cx : CX p s m args c D G cc nL own) {x y : Int32} (dg : decode cc pc = .ok (.ishl, 1)) (k : PW p l e R s m args below meth c D G nL Q (pc + 1) lv (.int (x <<< (y &&& 31)) :: st) M) : PW p l e R s m args below meth c D G nL Q pc lv (.int y :: .int x :: st) M := fun H locs ls hP hS hl => lv_ishl cx.1 cx.2.1 dg (k H locs ls hP hS hl)
theorem p_ishr (cx : CX p s m args c D G cc nL own) {x y : Int32} (dg : decode cc pc = .ok (.ishr, 1)) (k : PW p l e R s m args below meth c D G nL Q (pc + 1) lv (.int (x >>> (y &&& 31)) :: st) M) : PW p l e R s m args below meth c D G nL Q pc lv (.int y :: .int x :: st) M := fun H locs ls hP hS hl => lv_ishr cx.1 cx.2.1 dg (k H locs ls hP hS hl)
theorem p_idiv (cx : CX p s m args c D G cc nL own) {x y : Int32} (dg : decode cc pc = .ok (.idiv, 1)) (hne : ¬ y = 0) (k : PW p l e R s m args below meth c D G nL Q (pc + 1) lv (.int (x / y) :: st) M) : PW p l e R s m args below meth c D G nL Q pc lv (.int y :: .int x :: st) M := fun H locs ls hP hS hl => lv_idiv cx.1 cx.2.1 dg hne (k H locs ls hP hS hl)
theorem p_irem (cx : CX p s m args c D G cc nL own) {x y : Int32} (dg : decode cc pc = .ok (.irem, 1)) (hne : ¬ y = 0) (k : PW p l e R s m args below meth c D G nL Q (pc + 1) lv (.int (x - x / y * y) :: st) M) : PW p l e R s m args below meth c D G nL Q pc lv (.int y :: .int x :: st) M := fun H locs ls hP hS hl => lv_irem cx.1 cx.2.1 dg hne (k H locs ls hP hS hl)
theorem p_ladd (cx : CX p s m args c D G cc nL own) {x y : Int64} (dg : decode cc pc = .ok (.ladd, 1)) (k : PW p l e R s m args below meth c D G nL Q (pc + 1) lv (.long (x + y) :: st) M) : PW p l e R s m args below meth c D G nL Q pc lv (.long y :: .long x :: st) M := fun H locs ls hP hS hl => lv_ladd cx.1 cx.2.1 dg (k H locs ls hP hS hl)
theorem p_lsub (cx : CX p s m args c D G cc nL own) {x y : Int64} (dg : decode cc pc = .ok (.lsub, 1)) (k : PW p l e R s m args below meth c D G nL Q (pc + 1) lv (.long (x - y) :: st) M) : PW p l e R s m args below meth c D G nL Q pc lv (.long y :: .long x :: st) M := fun H locs ls hP hS hl => lv_lsub cx.1 cx.2.1 dg (k H locs ls hP hS hl)
theorem p_lmul (cx : CX p s m args c D G cc nL own) {x y : Int64} (dg : decode cc pc = .ok (.lmul, 1)) (k : PW p l e R s m args below meth c D G nL Q (pc + 1) lv (.long (x * y) :: st) M) : PW p l e R s m args below meth c D G nL Q pc lv (.long y :: .long x :: st) M := fun H locs ls hP hS hl => lv_lmul cx.1 cx.2.1 dg (k H locs ls hP hS hl)
theorem p_land (cx : CX p s m args c D G cc nL own) {x y : Int64} (dg : decode cc pc = .ok (.land, 1)) (k : PW p l e R s m args below meth c D G nL Q (pc + 1) lv (.long (x &&& y) :: st) M) : PW p l e R s m args below meth c D G nL Q pc lv (.long y :: .long x :: st) M := fun H locs ls hP hS hl => lv_land cx.1 cx.2.1 dg (k H locs ls hP hS hl)
theorem p_lor (cx : CX p s m args c D G cc nL own) {x y : Int64} (dg : decode cc pc = .ok (.lor, 1)) (k : PW p l e R s m args below meth c D G nL Q (pc + 1) lv (.long (x ||| y) :: st) M) : PW p l e R s m args below meth c D G nL Q pc lv (.long y :: .long x :: st) M := fun H locs ls hP hS hl => lv_lor cx.1 cx.2.1 dg (k H locs ls hP hS hl)
theorem p_lxor (cx : CX p s m args c D G cc nL own) {x y : Int64} (dg : decode cc pc = .ok (.lxor, 1)) (k : PW p l e R s m args below meth c D G nL Q (pc + 1) lv (.long (x ^^^ y) :: st) M) : PW p l e R s m args below meth c D G nL Q pc lv (.long y :: .long x :: st) M := fun H locs ls hP hS hl => lv_lxor cx.1 cx.2.1 dg (k H locs ls hP hS hl)
theorem p_ldiv (cx : CX p s m args c D G cc nL own) {x y : Int64} (dg : decode cc pc = .ok (.ldiv, 1)) (hne : ¬ y = 0) (k : PW p l e R s m args below meth c D G nL Q (pc + 1) lv (.long (x / y) :: st) M) : PW p l e R s m args below meth c D G nL Q pc lv (.long y :: .long x :: st) M := fun H locs ls hP hS hl => lv_ldiv cx.1 cx.2.1 dg hne (k H locs ls hP hS hl)
theorem p_lrem (cx : CX p s m args c D G cc nL own) {x y : Int64} (dg : decode cc pc = .ok (.lrem, 1)) (hne : ¬ y = 0) (k : PW p l e R s m args below meth c D G nL Q (pc + 1) lv (.long (x - x / y * y) :: st) M) : PW p l e R s m args below meth c D G nL Q pc lv (.long y :: .long x :: st) M := fun H locs ls hP hS hl => lv_lrem cx.1 cx.2.1 dg hne (k H locs ls hP hS hl)
theorem p_ineg (cx : CX p s m args c D G cc nL own) {x : Int32} (dg : decode cc pc = .ok (.ineg, 1)) (k : PW p l e R s m args below meth c D G nL Q (pc + 1) lv (.int (-x) :: st) M) : PW p l e R s m args below meth c D G nL Q pc lv (.int x :: st) M := fun H locs ls hP hS hl => lv_ineg cx.1 cx.2.1 dg (k H locs ls hP hS hl)
theorem p_lneg (cx : CX p s m args c D G cc nL own) {x : Int64} (dg : decode cc pc = .ok (.lneg, 1)) (k : PW p l e R s m args below meth c D G nL Q (pc + 1) lv (.long (-x) :: st) M) : PW p l e R s m args below meth c D G nL Q pc lv (.long x :: st) M := fun H locs ls hP hS hl => lv_lneg cx.1 cx.2.1 dg (k H locs ls hP hS hl)
theorem p_i2l (cx : CX p s m args c D G cc nL own) {x : Int32} (dg : decode cc pc = .ok (.i2l, 1)) (k : PW p l e R s m args below meth c D G nL Q (pc + 1) lv (.long x.toInt64 :: st) M) : PW p l e R s m args below meth c D G nL Q pc lv (.int x :: st) M := fun H locs ls hP hS hl => lv_i2l cx.1 cx.2.1 dg rfl (k H locs ls hP hS hl)
theorem p_l2i (cx : CX p s m args c D G cc nL own) {x : Int64} (dg : decode cc pc = .ok (.l2i, 1)) (k : PW p l e R s m args below meth c D G nL Q (pc + 1) lv (.int x.toInt32 :: st) M) : PW p l e R s m args below meth c D G nL Q pc lv (.long x :: st) M := fun H locs ls hP hS hl => lv_l2i cx.1 cx.2.1 dg rfl (k H locs ls hP hS hl)
theorem p_i2b (cx : CX p s m args c D G cc nL own) {x : Int32} (dg : decode cc pc = .ok (.i2b, 1)) (k : PW p l e R s m args below meth c D G nL Q (pc + 1) lv (.int x.toInt8.toInt32 :: st) M) : PW p l e R s m args below meth c D G nL Q pc lv (.int x :: st) M := fun H locs ls hP hS hl => lv_i2b cx.1 cx.2.1 dg rfl (k H locs ls hP hS hl)
theorem p_iushr (cx : CX p s m args c D G cc nL own) {x y : Int32} (dg : decode cc pc = .ok (.iushr, 1)) (k : PW p l e R s m args below meth c D G nL Q (pc + 1) lv (.int (x.toUInt32 >>> (y.toUInt32 &&& Int32.toUInt32 31)).toInt32 :: st) M) : PW p l e R s m args below meth c D G nL Q pc lv (.int y :: .int x :: st) M := fun H locs ls hP hS hl => lv_iushr cx.1 cx.2.1 dg rfl (k H locs ls hP hS hl)
theorem p_lushr (cx : CX p s m args c D G cc nL own) {x : Int64} {y : Int32} (dg : decode cc pc = .ok (.lushr, 1)) (k : PW p l e R s m args below meth c D G nL Q (pc + 1) lv (.long (x.toUInt64 >>> (y.toInt64.toUInt64 &&& Int64.toUInt64 63)).toInt64 :: st) M) : PW p l e R s m args below meth c D G nL Q pc lv (.int y :: .long x :: st) M := fun H locs ls hP hS hl => lv_lushr cx.1 cx.2.1 dg rfl (k H locs ls hP hS hl)
theorem p_lshl (cx : CX p s m args c D G cc nL own) {x : Int64} {y : Int32} (dg : decode cc pc = .ok (.lshl, 1)) (k : PW p l e R s m args below meth c D G nL Q (pc + 1) lv (.long (x <<< (y.toInt64 &&& 63)) :: st) M) : PW p l e R s m args below meth c D G nL Q pc lv (.int y :: .long x :: st) M := fun H locs ls hP hS hl => lv_lshl cx.1 cx.2.1 dg rfl (k H locs ls hP hS hl)
theorem p_lshr (cx : CX p s m args c D G cc nL own) {x : Int64} {y : Int32} (dg : decode cc pc = .ok (.lshr, 1)) (k : PW p l e R s m args below meth c D G nL Q (pc + 1) lv (.long (x >>> (y.toInt64 &&& 63)) :: st) M) : PW p l e R s m args below meth c D G nL Q pc lv (.int y :: .long x :: st) M := fun H locs ls hP hS hl => lv_lshr cx.1 cx.2.1 dg rfl (k H locs ls hP hS hl)
theorem p_lcmp (cx : CX p s m args c D G cc nL own) {x y : Int64} (dg : decode cc pc = .ok (.lcmp, 1)) (k : PW p l e R s m args below meth c D G nL Q (pc + 1) lv (.int (lg_cmp x y) :: st) M) : PW p l e R s m args below meth c D G nL Q pc lv (.long y :: .long x :: st) M := fun H locs ls hP hS hl => W.lcmp cx.1 cx.2.1 dg (k H locs ls hP hS hl)
theorem p_dup (cx : CX p s m args c D G cc nL own) {va : Value} (dg : decode cc pc = .ok (.dup, 1)) (hc : va.category = 1) (k : PW p l e R s m args below meth c D G nL Q (pc + 1) lv (va :: va :: st) M) : PW p l e R s m args below meth c D G nL Q pc lv (va :: st) M := fun H locs ls hP hS hl => lv_dup cx.1 cx.2.1 dg hc (k H locs ls hP hS hl)
theorem p_pop (cx : CX p s m args c D G cc nL own) {va : Value} (dg : decode cc pc = .ok (.pop, 1)) (hc : va.category = 1) (k : PW p l e R s m args below meth c D G nL Q (pc + 1) lv st M) : PW p l e R s m args below meth c D G nL Q pc lv (va :: st) M := fun H locs ls hP hS hl => lv_pop cx.1 cx.2.1 dg hc (k H locs ls hP hS hl)
theorem p_dup2_11 (cx : CX p s m args c D G cc nL own) {va vb : Value} (dg : decode cc pc = .ok (.dup2, 1)) (hc : va.category = 1) (hd : vb.category = 1) (k : PW p l e R s m args below meth c D G nL Q (pc + 1) lv (va :: vb :: va :: vb :: st) M) : PW p l e R s m args below meth c D G nL Q pc lv (va :: vb :: st) M := fun H locs ls hP hS hl => lv_dup2_11 cx.1 cx.2.1 dg hc hd (k H locs ls hP hS hl)
theorem p_if_eq (cx : CX p s m args c D G cc nL own) {x : Int32} {off : Int} {tgt : Nat} (dg : decode cc pc = .ok (.ifCond .eq off, 3)) (ht : (pc : Int) + off = (tgt : Int)) (kt : x = 0 → PW p l e R s m args below meth c D G nL Q tgt lv st M) (kf : ¬ x = 0 → PW p l e R s m args below meth c D G nL Q (pc + 3) lv st M) : PW p l e R s m args below meth c D G nL Q pc lv (.int x :: st) M := fun H locs ls hP hS hl => lv_if_eq cx.1 cx.2.1 dg ht (fun h => kt h H locs ls hP hS hl) (fun h => kf h H locs ls hP hS hl)
theorem p_icmp_eq (cx : CX p s m args c D G cc nL own) {x y : Int32} {off : Int} {tgt : Nat} (dg : decode cc pc = .ok (.if_icmp .eq off, 3)) (ht : (pc : Int) + off = (tgt : Int)) (kt : x = y → PW p l e R s m args below meth c D G nL Q tgt lv st M) (kf : ¬ x = y → PW p l e R s m args below meth c D G nL Q (pc + 3) lv st M) : PW p l e R s m args below meth c D G nL Q pc lv (.int y :: .int x :: st) M := fun H locs ls hP hS hl => lv_icmp_eq cx.1 cx.2.1 dg ht (fun h => kt h H locs ls hP hS hl) (fun h => kf h H locs ls hP hS hl)
theorem p_if_ne (cx : CX p s m args c D G cc nL own) {x : Int32} {off : Int} {tgt : Nat} (dg : decode cc pc = .ok (.ifCond .ne off, 3)) (ht : (pc : Int) + off = (tgt : Int)) (kt : ¬ x = 0 → PW p l e R s m args below meth c D G nL Q tgt lv st M) (kf : x = 0 → PW p l e R s m args below meth c D G nL Q (pc + 3) lv st M) : PW p l e R s m args below meth c D G nL Q pc lv (.int x :: st) M := fun H locs ls hP hS hl => lv_if_ne cx.1 cx.2.1 dg ht (fun h => kt h H locs ls hP hS hl) (fun h => kf h H locs ls hP hS hl)
theorem p_icmp_ne (cx : CX p s m args c D G cc nL own) {x y : Int32} {off : Int} {tgt : Nat} (dg : decode cc pc = .ok (.if_icmp .ne off, 3)) (ht : (pc : Int) + off = (tgt : Int)) (kt : ¬ x = y → PW p l e R s m args below meth c D G nL Q tgt lv st M) (kf : x = y → PW p l e R s m args below meth c D G nL Q (pc + 3) lv st M) : PW p l e R s m args below meth c D G nL Q pc lv (.int y :: .int x :: st) M := fun H locs ls hP hS hl => lv_icmp_ne cx.1 cx.2.1 dg ht (fun h => kt h H locs ls hP hS hl) (fun h => kf h H locs ls hP hS hl)
theorem p_if_lt (cx : CX p s m args c D G cc nL own) {x : Int32} {off : Int} {tgt : Nat} (dg : decode cc pc = .ok (.ifCond .lt off, 3)) (ht : (pc : Int) + off = (tgt : Int)) (kt : x < 0 → PW p l e R s m args below meth c D G nL Q tgt lv st M) (kf : ¬ x < 0 → PW p l e R s m args below meth c D G nL Q (pc + 3) lv st M) : PW p l e R s m args below meth c D G nL Q pc lv (.int x :: st) M := fun H locs ls hP hS hl => lv_if_lt cx.1 cx.2.1 dg ht (fun h => kt h H locs ls hP hS hl) (fun h => kf h H locs ls hP hS hl)
theorem p_icmp_lt (cx : CX p s m args c D G cc nL own) {x y : Int32} {off : Int} {tgt : Nat} (dg : decode cc pc = .ok (.if_icmp .lt off, 3)) (ht : (pc : Int) + off = (tgt : Int)) (kt : x < y → PW p l e R s m args below meth c D G nL Q tgt lv st M) (kf : ¬ x < y → PW p l e R s m args below meth c D G nL Q (pc + 3) lv st M) : PW p l e R s m args below meth c D G nL Q pc lv (.int y :: .int x :: st) M := fun H locs ls hP hS hl => lv_icmp_lt cx.1 cx.2.1 dg ht (fun h => kt h H locs ls hP hS hl) (fun h => kf h H locs ls hP hS hl)
theorem p_if_ge (cx : CX p s m args c D G cc nL own) {x : Int32} {off : Int} {tgt : Nat} (dg : decode cc pc = .ok (.ifCond .ge off, 3)) (ht : (pc : Int) + off = (tgt : Int)) (kt : 0 ≤ x → PW p l e R s m args below meth c D G nL Q tgt lv st M) (kf : ¬ 0 ≤ x → PW p l e R s m args below meth c D G nL Q (pc + 3) lv st M) : PW p l e R s m args below meth c D G nL Q pc lv (.int x :: st) M := fun H locs ls hP hS hl => lv_if_ge cx.1 cx.2.1 dg ht (fun h => kt h H locs ls hP hS hl) (fun h => kf h H locs ls hP hS hl)
theorem p_icmp_ge (cx : CX p s m args c D G cc nL own) {x y : Int32} {off : Int} {tgt : Nat} (dg : decode cc pc = .ok (.if_icmp .ge off, 3)) (ht : (pc : Int) + off = (tgt : Int)) (kt : y ≤ x → PW p l e R s m args below meth c D G nL Q tgt lv st M) (kf : ¬ y ≤ x → PW p l e R s m args below meth c D G nL Q (pc + 3) lv st M) : PW p l e R s m args below meth c D G nL Q pc lv (.int y :: .int x :: st) M := fun H locs ls hP hS hl => lv_icmp_ge cx.1 cx.2.1 dg ht (fun h => kt h H locs ls hP hS hl) (fun h => kf h H locs ls hP hS hl)
theorem p_if_gt (cx : CX p s m args c D G cc nL own) {x : Int32} {off : Int} {tgt : Nat} (dg : decode cc pc = .ok (.ifCond .gt off, 3)) (ht : (pc : Int) + off = (tgt : Int)) (kt : 0 < x → PW p l e R s m args below meth c D G nL Q tgt lv st M) (kf : ¬ 0 < x → PW p l e R s m args below meth c D G nL Q (pc + 3) lv st M) : PW p l e R s m args below meth c D G nL Q pc lv (.int x :: st) M := fun H locs ls hP hS hl => lv_if_gt cx.1 cx.2.1 dg ht (fun h => kt h H locs ls hP hS hl) (fun h => kf h H locs ls hP hS hl)
theorem p_icmp_gt (cx : CX p s m args c D G cc nL own) {x y : Int32} {off : Int} {tgt : Nat} (dg : decode cc pc = .ok (.if_icmp .gt off, 3)) (ht : (pc : Int) + off = (tgt : Int)) (kt : y < x → PW p l e R s m args below meth c D G nL Q tgt lv st M) (kf : ¬ y < x → PW p l e R s m args below meth c D G nL Q (pc + 3) lv st M) : PW p l e R s m args below meth c D G nL Q pc lv (.int y :: .int x :: st) M := fun H locs ls hP hS hl => lv_icmp_gt cx.1 cx.2.1 dg ht (fun h => kt h H locs ls hP hS hl) (fun h => kf h H locs ls hP hS hl)
theorem p_if_le (cx : CX p s m args c D G cc nL own) {x : Int32} {off : Int} {tgt : Nat} (dg : decode cc pc = .ok (.ifCond .le off, 3)) (ht : (pc : Int) + off = (tgt : Int)) (kt : x ≤ 0 → PW p l e R s m args below meth c D G nL Q tgt lv st M) (kf : ¬ x ≤ 0 → PW p l e R s m args below meth c D G nL Q (pc + 3) lv st M) : PW p l e R s m args below meth c D G nL Q pc lv (.int x :: st) M := fun H locs ls hP hS hl => lv_if_le cx.1 cx.2.1 dg ht (fun h => kt h H locs ls hP hS hl) (fun h => kf h H locs ls hP hS hl)
theorem p_icmp_le (cx : CX p s m args c D G cc nL own) {x y : Int32} {off : Int} {tgt : Nat} (dg : decode cc pc = .ok (.if_icmp .le off, 3)) (ht : (pc : Int) + off = (tgt : Int)) (kt : x ≤ y → PW p l e R s m args below meth c D G nL Q tgt lv st M) (kf : ¬ x ≤ y → PW p l e R s m args below meth c D G nL Q (pc + 3) lv st M) : PW p l e R s m args below meth c D G nL Q pc lv (.int y :: .int x :: st) M := fun H locs ls hP hS hl => lv_icmp_le cx.1 cx.2.1 dg ht (fun h => kt h H locs ls hP hS hl) (fun h => kf h H locs ls hP hS hl)
theorem p_goto (cx : CX p s m args c D G cc nL own) {off : Int} {tgt : Nat} (dg : decode cc pc = .ok (.goto off, 3)) (ht : (pc : Int) + off = (tgt : Int)) (k : PW p l e R s m args below meth c D G nL Q tgt lv st M) : PW p l e R s m args below meth c D G nL Q pc lv st M := fun H locs ls hP hS hl => lv_goto cx.1 cx.2.1 dg ht (k H locs ls hP hS hl)
theorem p_ldc (cx : CX p s m args c D G cc nL own) {index : Nat} {v : Int32} (dg : decode cc pc = .ok (.ldc index, 2)) (hw : Jvm.Cond.constant own index v ∈ GW) (k : PW p l e R s m args below meth c D G nL Q (pc + 2) lv (.int v :: st) M) : PW p l e R s m args below meth c D G nL Q pc lv st M := fun H locs ls hP hS hl => lv_ldc cx.1 cx.2.1 cx.2.2.2.1 (cx.2.2.2.2.1 _ hw) dg (k H locs ls hP hS hl)
theorem p_ldc2 (cx : CX p s m args c D G cc nL own) {index : Nat} {v : Int64} (dg : decode cc pc = .ok (.ldc2_w index, 3)) (hw : Jvm.Cond.constantLong own index v ∈ GW) (k : PW p l e R s m args below meth c D G nL Q (pc + 3) lv (.long v :: st) M) : PW p l e R s m args below meth c D G nL Q pc lv st M := fun H locs ls hP hS hl => lv_ldc2 cx.1 cx.2.1 cx.2.2.2.1 (cx.2.2.2.2.1 _ hw) dg (k H locs ls hP hS hl)
theorem p_iret {Qp : Int32 → MS → Prop} {r : Int32} (cx : CX p s m args c D G cc nL own) (hr : meth.sig.returnType = some .int) (hlk : meth.locks = false) (dg : decode cc pc = .ok (.ireturn, 1)) (hT : TYR G M.2.2.1) (hq : Qp r M) : PW p l e R s m args below meth c D G nL (MQ below (va_Qi Qp (POST D G) (AG G)) args s 0 0 (AG G)) pc lv [.int r] M := fun H locs ls hP hS hl => W.iret (v := r) cx.1 cx.2.1 hr (fun t ht hW => ⟨⟨r, M, rfl, hq, by rw [ht]; exact hP, va_K.moved hW.alike cx.2.2.2.2.2.1, hT⟩, hS.F ht⟩) hS.2.2 dg hlk
theorem p_zret {Qp : Int32 → MS → Prop} {r : Int32} (cx : CX p s m args c D G cc nL own) (hr : meth.sig.returnType = some .boolean) (hlk : meth.locks = false) (dg : decode cc pc = .ok (.ireturn, 1)) (hz : r &&& 1 = r) (hT : TYR G M.2.2.1) (hq : Qp r M) : PW p l e R s m args below meth c D G nL (MQ below (va_Qi Qp (POST D G) (AG G)) args s 0 0 (AG G)) pc lv [.int r] M := fun H locs ls hP hS hl => W.zret (v := r) cx.1 cx.2.1 hr (by show Value.int (r &&& 1) = .int r; rw [hz]) (fun t ht hW => ⟨⟨r, M, rfl, hq, by rw [ht]; exact hP, va_K.moved hW.alike cx.2.2.2.2.2.1, hT⟩, hS.F ht⟩) hS.2.2 dg hlk
theorem p_lret {Qp : Int64 → MS → Prop} {r : Int64} (cx : CX p s m args c D G cc nL own) (hr : meth.sig.returnType = some .long) (hlk : meth.locks = false) (dg : decode cc pc = .ok (.lreturn, 1)) (hT : TYR G M.2.2.1) (hq : Qp r M) : PW p l e R s m args below meth c D G nL (MQ below (va_Ql Qp (POST D G) (AG G)) args s 0 0 (AG G)) pc lv [.long r] M := fun H locs ls hP hS hl => W.lret (v := r) cx.1 cx.2.1 hr (fun t ht hW => ⟨⟨r, M, rfl, hq, by rw [ht]; exact hP, va_K.moved hW.alike cx.2.2.2.2.2.1, hT⟩, hS.F ht⟩) hS.2.2 dg hlk
theorem p_vret {Qp : MS → Prop} (cx : CX p s m args c D G cc nL own) (hr : meth.sig.returnType = none) (hlk : meth.locks = false) (dg : decode cc pc = .ok (.return_, 1)) (hT : TYR G M.2.2.1) (hq : Qp M) : PW p l e R s m args below meth c D G nL (MQ below (va_Qv Qp (POST D G) (AG G)) args s 0 0 (AG G)) pc lv [] M := fun H locs ls hP hS hl => W.vret cx.1 cx.2.1 hr (fun t ht hW => ⟨⟨M, rfl, hq, by rw [ht]; exact hP, va_K.moved hW.alike cx.2.2.2.2.2.1, hT⟩, hS.F ht⟩) hS.2.2 dg hlk
theorem p_aret {Qp : Nat → MS → Prop} {r : Nat} {cn : String} (cx : CX p s m args c D G cc nL own) (hr : meth.sig.returnType = some (.object cn)) (hlk : meth.locks = false) (dg : decode cc pc = .ok (.areturn, 1)) (hi : Is G 8 r) (hT : TYR G M.2.2.1) (hq : Qp r M) : PW p l e R s m args below meth c D G nL (MQ below (va_Qr (fun _ : MS => True) (fun N a t => Qp a N ∧ Is G 8 a ∧ POST D G N t) (AG G)) args s 0 0 (AG G)) pc lv [.ref r] M := fun H locs ls hP hS hl => W.aret (v := .ref r) cx.1 cx.2.1 hr (Or.inl ⟨_, rfl⟩) (Or.inr ⟨_, rfl⟩) (fun t ht hW => ⟨⟨M, r, rfl, trivial, hq, hi, by rw [ht]; exact hP, va_K.moved hW.alike cx.2.2.2.2.2.1, hT⟩, hS.F ht⟩) hS.2.2 dg hlk
theorem p_getI {ci k : Nat} {C : String} {T : u_T} {N index : Nat} {a : Nat} (hcl : vwCl[ci]? = some (C, T, N)) (hin : ∀ w ∈ u_ws C T N, w ∈ GW) (hk : k < N) (hci : ci < 11) (hv : ∀ (M : MS) (a : Nat), (fv M a 0 (fT ci))[k]? = some (.int (mI M a k))) (cx : CX p s m args c D G cc nL own) (ha : Is G ci a) (hw : Cond.fieldLink own index (T k).1 (T k).2.1 (T k).2.2.1 ∈ GW) (dg : decode cc pc = .ok (.getfield index, 3)) (kk : PW p l e R s m args below meth c D G nL Q (pc + 3) lv (.int (mI M a k) :: st) M) : PW p l e R s m args below meth c D G nL Q pc lv (.ref a :: st) M := fun H locs ls hP hS hl => by
  obtain ⟨i, hi⟩ := PL_get (f := ce G M) ha.1
  rw [ce_obj ha hci] at hi
  exact va_get cx.1 cx.2.1 cx.2.2.2.2.1 hin cx.2.2.2.1 cx.2.2.2.2.2.1 hP i hi hcl k hk (cx.2.2.2.2.1 _ hw) (fun _ h => h) (hv M a) dg (kk H locs ls hP hS hl)
theorem p_getJ {ci k : Nat} {C : String} {T : u_T} {N index : Nat} {a : Nat} (hcl : vwCl[ci]? = some (C, T, N)) (hin : ∀ w ∈ u_ws C T N, w ∈ GW) (hk : k < N) (hci : ci < 11) (hv : ∀ (M : MS) (a : Nat), (fv M a 0 (fT ci))[k]? = some (.long (mJ M a k))) (cx : CX p s m args c D G cc nL own) (ha : Is G ci a) (hw : Cond.fieldLink own index (T k).1 (T k).2.1 (T k).2.2.1 ∈ GW) (dg : decode cc pc = .ok (.getfield index, 3)) (kk : PW p l e R s m args below meth c D G nL Q (pc + 3) lv (.long (mJ M a k) :: st) M) : PW p l e R s m args below meth c D G nL Q pc lv (.ref a :: st) M := fun H locs ls hP hS hl => by
  obtain ⟨i, hi⟩ := PL_get (f := ce G M) ha.1
  rw [ce_obj ha hci] at hi
  exact va_get cx.1 cx.2.1 cx.2.2.2.2.1 hin cx.2.2.2.1 cx.2.2.2.2.2.1 hP i hi hcl k hk (cx.2.2.2.2.1 _ hw) (fun _ h => h) (hv M a) dg (kk H locs ls hP hS hl)
theorem p_getR {ci k : Nat} {C : String} {T : u_T} {N index : Nat} {a : Nat} (hcl : vwCl[ci]? = some (C, T, N)) (hin : ∀ w ∈ u_ws C T N, w ∈ GW) (hk : k < N) (hci : ci < 11) (hv : ∀ (M : MS) (a : Nat), (fv M a 0 (fT ci))[k]? = some (.ref (mR M a k))) (cx : CX p s m args c D G cc nL own) (ha : Is G ci a) (hw : Cond.fieldLink own index (T k).1 (T k).2.1 (T k).2.2.1 ∈ GW) (dg : decode cc pc = .ok (.getfield index, 3)) (kk : PW p l e R s m args below meth c D G nL Q (pc + 3) lv (.ref (mR M a k) :: st) M) : PW p l e R s m args below meth c D G nL Q pc lv (.ref a :: st) M := fun H locs ls hP hS hl => by
  obtain ⟨i, hi⟩ := PL_get (f := ce G M) ha.1
  rw [ce_obj ha hci] at hi
  exact va_get cx.1 cx.2.1 cx.2.2.2.2.1 hin cx.2.2.2.1 cx.2.2.2.2.2.1 hP i hi hcl k hk (cx.2.2.2.2.1 _ hw) (fun _ h => h) (hv M a) dg (kk H locs ls hP hS hl)
theorem p_putI {ci k : Nat} {C : String} {T : u_T} {N index : Nat} {a : Nat} {v : Int32} (hcl : vwCl[ci]? = some (C, T, N)) (hin : ∀ w ∈ u_ws C T N, w ∈ GW) (hk : k < N) (hci : ci < 11) (ty0 : Nat → FieldType) (hty : ∀ k, k < N → parseFieldDescriptor (T k).2.2.1 = some (ty0 k)) (hnm : ∀ a, a < N → ∀ b, b < N → a ≠ b → (T a).2.1 ≠ (T b).2.1) (hfin : (T k).2.2.2 = false) (hfit : (T k).2.2.1 = "I") (hkt : (fT ci)[k]? = some 0) (hlen : ∀ (M : MS) (a : Nat), k < (fv M a 0 (fT ci)).length) (cx : CX p s m args c D G cc nL own) (ha : Is G ci a) (hw : Cond.fieldLink own index (T k).1 (T k).2.1 (T k).2.2.1 ∈ GW) (dg : decode cc pc = .ok (.putfield index, 3)) (kk : PW p l e R s m args below meth c D G nL Q (pc + 3) lv st (wI M a k v)) : PW p l e R s m args below meth c D G nL Q pc lv (.int v :: .ref a :: st) M := fun H locs ls hP hS hl => by
  obtain ⟨i, hi⟩ := PL_get (f := ce G M) ha.1
  have hi2 := hi
  rw [ce_obj ha hci] at hi2
  refine va_put (ty := .int) cx.1 cx.2.1 cx.2.2.2.2.1 hin ty0 hty hnm cx.2.2.2.1 cx.2.2.2.2.2.1 hP (PL_D cx.2.2.2.2.2.2 (ce G M)) hS i hi2 hcl k hk (cx.2.2.2.2.1 _ hw) (fun _ h => h) hfin (by rw [hfit]; decide +kernel) rfl rfl (hlen M a) dg (fun H1 locs1 hP1 hD1 hS1 => ?_)
  rw [PL_set cx.2.2.2.2.2.2 ha.1 hi (ce_wI ha hci hkt)] at hP1
  exact kk H1 locs1 ls hP1 hS1 hl
theorem p_putZ {ci k : Nat} {C : String} {T : u_T} {N index : Nat} {a : Nat} {v : Int32} (hcl : vwCl[ci]? = some (C, T, N)) (hin : ∀ w ∈ u_ws C T N, w ∈ GW) (hk : k < N) (hci : ci < 11) (ty0 : Nat → FieldType) (hty : ∀ k, k < N → parseFieldDescriptor (T k).2.2.1 = some (ty0 k)) (hnm : ∀ a, a < N → ∀ b, b < N → a ≠ b → (T a).2.1 ≠ (T b).2.1) (hfin : (T k).2.2.2 = false) (hfit : (T k).2.2.1 = "Z") (hz : v = 0 ∨ v = 1) (hkt : (fT ci)[k]? = some 0) (hlen : ∀ (M : MS) (a : Nat), k < (fv M a 0 (fT ci)).length) (cx : CX p s m args c D G cc nL own) (ha : Is G ci a) (hw : Cond.fieldLink own index (T k).1 (T k).2.1 (T k).2.2.1 ∈ GW) (dg : decode cc pc = .ok (.putfield index, 3)) (kk : PW p l e R s m args below meth c D G nL Q (pc + 3) lv st (wI M a k v)) : PW p l e R s m args below meth c D G nL Q pc lv (.int v :: .ref a :: st) M := fun H locs ls hP hS hl => by
  obtain ⟨i, hi⟩ := PL_get (f := ce G M) ha.1
  have hi2 := hi
  rw [ce_obj ha hci] at hi2
  refine va_put (ty := .boolean) cx.1 cx.2.1 cx.2.2.2.2.1 hin ty0 hty hnm cx.2.2.2.1 cx.2.2.2.2.2.1 hP (PL_D cx.2.2.2.2.2.2 (ce G M)) hS i hi2 hcl k hk (cx.2.2.2.2.1 _ hw) (fun _ h => h) hfin (by rw [hfit]; decide +kernel) (by rcases hz with rfl | rfl <;> rfl) (by rcases hz with rfl | rfl <;> rfl) (hlen M a) dg (fun H1 locs1 hP1 hD1 hS1 => ?_)
  rw [PL_set cx.2.2.2.2.2.2 ha.1 hi (ce_wI ha hci hkt)] at hP1
  exact kk H1 locs1 ls hP1 hS1 hl
theorem p_putJ {ci k : Nat} {C : String} {T : u_T} {N index : Nat} {a : Nat} {v : Int64} (hcl : vwCl[ci]? = some (C, T, N)) (hin : ∀ w ∈ u_ws C T N, w ∈ GW) (hk : k < N) (hci : ci < 11) (ty0 : Nat → FieldType) (hty : ∀ k, k < N → parseFieldDescriptor (T k).2.2.1 = some (ty0 k)) (hnm : ∀ a, a < N → ∀ b, b < N → a ≠ b → (T a).2.1 ≠ (T b).2.1) (hfin : (T k).2.2.2 = false) (hfit : (T k).2.2.1 = "J") (hkt : (fT ci)[k]? = some 1) (hlen : ∀ (M : MS) (a : Nat), k < (fv M a 0 (fT ci)).length) (cx : CX p s m args c D G cc nL own) (ha : Is G ci a) (hw : Cond.fieldLink own index (T k).1 (T k).2.1 (T k).2.2.1 ∈ GW) (dg : decode cc pc = .ok (.putfield index, 3)) (kk : PW p l e R s m args below meth c D G nL Q (pc + 3) lv st (wJ M a k v)) : PW p l e R s m args below meth c D G nL Q pc lv (.long v :: .ref a :: st) M := fun H locs ls hP hS hl => by
  obtain ⟨i, hi⟩ := PL_get (f := ce G M) ha.1
  have hi2 := hi
  rw [ce_obj ha hci] at hi2
  refine va_put (ty := .long) cx.1 cx.2.1 cx.2.2.2.2.1 hin ty0 hty hnm cx.2.2.2.1 cx.2.2.2.2.2.1 hP (PL_D cx.2.2.2.2.2.2 (ce G M)) hS i hi2 hcl k hk (cx.2.2.2.2.1 _ hw) (fun _ h => h) hfin (by rw [hfit]; decide +kernel) rfl rfl (hlen M a) dg (fun H1 locs1 hP1 hD1 hS1 => ?_)
  rw [PL_set cx.2.2.2.2.2.2 ha.1 hi (ce_wJ ha hci hkt)] at hP1
  exact kk H1 locs1 ls hP1 hS1 hl
theorem p_putR {ci k : Nat} {C : String} {T : u_T} {N index : Nat} {a : Nat} {v : Nat} (hcl : vwCl[ci]? = some (C, T, N)) (hin : ∀ w ∈ u_ws C T N, w ∈ GW) (hk : k < N) (hci : ci < 11) (ty0 : Nat → FieldType) (hty : ∀ k, k < N → parseFieldDescriptor (T k).2.2.1 = some (ty0 k)) (hnm : ∀ a, a < N → ∀ b, b < N → a ≠ b → (T a).2.1 ≠ (T b).2.1) (hfin : (T k).2.2.2 = false) {tn : FieldType} (hfit : parseFieldDescriptor (T k).2.2.1 = some tn) (htn : (∃ n, tn = .object n) ∨ ∃ t, tn = .array t) (hkt : (fT ci)[k]? = some 2) (hlen : ∀ (M : MS) (a : Nat), k < (fv M a 0 (fT ci)).length) (cx : CX p s m args c D G cc nL own) (ha : Is G ci a) (hw : Cond.fieldLink own index (T k).1 (T k).2.1 (T k).2.2.1 ∈ GW) (dg : decode cc pc = .ok (.putfield index, 3)) (kk : PW p l e R s m args below meth c D G nL Q (pc + 3) lv st (wR M a k v)) : PW p l e R s m args below meth c D G nL Q pc lv (.ref v :: .ref a :: st) M := fun H locs ls hP hS hl => by
  obtain ⟨i, hi⟩ := PL_get (f := ce G M) ha.1
  have hi2 := hi
  rw [ce_obj ha hci] at hi2
  refine va_put (ty := tn) cx.1 cx.2.1 cx.2.2.2.2.1 hin ty0 hty hnm cx.2.2.2.1 cx.2.2.2.2.2.1 hP (PL_D cx.2.2.2.2.2.2 (ce G M)) hS i hi2 hcl k hk (cx.2.2.2.2.1 _ hw) (fun _ h => h) hfin hfit (by rcases htn with ⟨n, rfl⟩ | ⟨t, rfl⟩ <;> rfl) (by rcases htn with ⟨n, rfl⟩ | ⟨t, rfl⟩ <;> rfl) (hlen M a) dg (fun H1 locs1 hP1 hD1 hS1 => ?_)
  rw [PL_set cx.2.2.2.2.2.2 ha.1 hi (ce_wR ha hci hkt)] at hP1
  exact kk H1 locs1 ls hP1 hS1 hl
theorem p_iald {a : Nat} {i : Int32} (cx : CX p s m args c D G cc nL own) (ha : Is G 12 a) (hi0 : vp_in i (G.2.2.1 a)) (dg : decode cc pc = .ok (.iaload, 1)) (kk : PW p l e R s m args below meth c D G nL Q (pc + 1) lv (.int (mA M a i.toNatClampNeg) :: st) M) : PW p l e R s m args below meth c D G nL Q pc lv (.int i :: .ref a :: st) M := fun H locs ls hP hS hl => by
  obtain ⟨j, hj⟩ := PL_get (f := ce G M) ha.1
  rw [ce_I ha] at hj
  exact va_iald cx.1 cx.2.1 cx.2.2.2.2.2.1 hP j 1 hj rfl hi0 dg (kk H locs ls hP hS hl)
theorem p_bald {a : Nat} {i : Int32} (cx : CX p s m args c D G cc nL own) (ha : Is G 11 a) (hi0 : vp_in i (G.2.2.1 a)) (dg : decode cc pc = .ok (.baload, 1)) (kk : PW p l e R s m args below meth c D G nL Q (pc + 1) lv (.int (mA M a i.toNatClampNeg) :: st) M) : PW p l e R s m args below meth c D G nL Q pc lv (.int i :: .ref a :: st) M := fun H locs ls hP hS hl => by
  obtain ⟨j, hj⟩ := PL_get (f := ce G M) ha.1
  rw [ce_B ha] at hj
  exact va_bald cx.1 cx.2.1 cx.2.2.2.2.2.1 hP j 0 hj rfl hi0 dg (kk H locs ls hP hS hl)
theorem p_aald {a : Nat} {i : Int32} (cx : CX p s m args c D G cc nL own) (ha : Is G 13 a) (hi0 : vp_in i (G.2.2.1 a)) (dg : decode cc pc = .ok (.aaload, 1)) (kk : PW p l e R s m args below meth c D G nL Q (pc + 1) lv (.ref (mR M a i.toNatClampNeg) :: st) M) : PW p l e R s m args below meth c D G nL Q pc lv (.int i :: .ref a :: st) M := fun H locs ls hP hS hl => by
  obtain ⟨j, hj⟩ := PL_get (f := ce G M) ha.1
  rw [ce_W ha] at hj
  exact va_aldq cx.1 cx.2.1 cx.2.2.2.2.2.1 hP j 2 hj rfl hi0 dg (kk H locs ls hP hS hl)
theorem p_iast {a : Nat} {i x : Int32} (cx : CX p s m args c D G cc nL own) (ha : Is G 12 a) (hi0 : vp_in i (G.2.2.1 a)) (dg : decode cc pc = .ok (.iastore, 1)) (kk : PW p l e R s m args below meth c D G nL Q (pc + 1) lv st (wA M a (upd (mA M a) i.toNatClampNeg x))) : PW p l e R s m args below meth c D G nL Q pc lv (.int x :: .int i :: .ref a :: st) M := fun H locs ls hP hS hl => by
  obtain ⟨j, hj⟩ := PL_get (f := ce G M) ha.1
  have hj2 := hj
  rw [ce_I ha] at hj2
  refine va_iast cx.1 cx.2.1 cx.2.2.2.2.2.1 hP (PL_D cx.2.2.2.2.2.2 (ce G M)) hS j 1 hj2 rfl hi0 dg (fun H1 locs1 hP1 hD1 hS1 => ?_)
  rw [PL_set cx.2.2.2.2.2.2 ha.1 hj (ce_wAI ha)] at hP1
  exact kk H1 locs1 ls hP1 hS1 hl
theorem p_bast {a : Nat} {i x : Int32} (cx : CX p s m args c D G cc nL own) (ha : Is G 11 a) (hi0 : vp_in i (G.2.2.1 a)) (dg : decode cc pc = .ok (.bastore, 1)) (kk : PW p l e R s m args below meth c D G nL Q (pc + 1) lv st (wA M a (upd (mA M a) i.toNatClampNeg x.toInt8.toInt32))) : PW p l e R s m args below meth c D G nL Q pc lv (.int x :: .int i :: .ref a :: st) M := fun H locs ls hP hS hl => by
  obtain ⟨j, hj⟩ := PL_get (f := ce G M) ha.1
  have hj2 := hj
  rw [ce_B ha] at hj2
  refine va_bast cx.1 cx.2.1 cx.2.2.2.2.2.1 hP (PL_D cx.2.2.2.2.2.2 (ce G M)) hS j 0 hj2 rfl hi0 dg (fun H1 locs1 hP1 hD1 hS1 => ?_)
  rw [vp_nar_byte] at hP1
  rw [PL_set cx.2.2.2.2.2.2 ha.1 hj (ce_wAB ha)] at hP1
  exact kk H1 locs1 ls hP1 hS1 hl
theorem p_alenI {a : Nat} (cx : CX p s m args c D G cc nL own) (ha : Is G 12 a) (dg : decode cc pc = .ok (.arraylength, 1)) (kk : PW p l e R s m args below meth c D G nL Q (pc + 1) lv (.int (nI (G.2.2.1 a)) :: st) M) : PW p l e R s m args below meth c D G nL Q pc lv (.ref a :: st) M := fun H locs ls hP hS hl => by
  obtain ⟨j, hj⟩ := PL_get (f := ce G M) ha.1
  rw [ce_I ha] at hj
  exact va_alen cx.1 cx.2.1 cx.2.2.2.2.2.1 hP j 1 hj rfl rfl dg (kk H locs ls hP hS hl)
theorem p_alenB {a : Nat} (cx : CX p s m args c D G cc nL own) (ha : Is G 11 a) (dg : decode cc pc = .ok (.arraylength, 1)) (kk : PW p l e R s m args below meth c D G nL Q (pc + 1) lv (.int (nI (G.2.2.1 a)) :: st) M) : PW p l e R s m args below meth c D G nL Q pc lv (.ref a :: st) M := fun H locs ls hP hS hl => by
  obtain ⟨j, hj⟩ := PL_get (f := ce G M) ha.1
  rw [ce_B ha] at hj
  exact va_alen cx.1 cx.2.1 cx.2.2.2.2.2.1 hP j 0 hj rfl rfl dg (kk H locs ls hP hS hl)
theorem p_alenW {a : Nat} (cx : CX p s m args c D G cc nL own) (ha : Is G 13 a) (dg : decode cc pc = .ok (.arraylength, 1)) (kk : PW p l e R s m args below meth c D G nL Q (pc + 1) lv (.int (nI (G.2.2.1 a)) :: st) M) : PW p l e R s m args below meth c D G nL Q pc lv (.ref a :: st) M := fun H locs ls hP hS hl => by
  obtain ⟨j, hj⟩ := PL_get (f := ce G M) ha.1
  rw [ce_W ha] at hj
  exact va_alen cx.1 cx.2.1 cx.2.2.2.2.2.1 hP j 2 hj rfl rfl dg (kk H locs ls hP hS hl)
theorem p_copy {a b index : Nat} {sp dp n : Int32} (cx : CX p s m args c D G cc nL own) (ha : Is G 12 a) (hb : Is G 12 b) (h1 : ¬ sp < 0 ∧ ¬ dp < 0 ∧ ¬ n < 0 ∧ sp.toNatClampNeg + n.toNatClampNeg ≤ G.2.2.1 a ∧ dp.toNatClampNeg + n.toNatClampNeg ≤ G.2.2.1 b) (hl1 : Cond.methodLink own index arraycopyName ∈ GW) (hl2 : Cond.native arraycopyName ∈ GW) (hl3 : Cond.static arraycopyName ∈ GW) (hl4 : Cond.initialized "java/lang/System" ∈ GW) (hR : 1 ≤ R.frames ∧ (st.map fun v => v.category).sum + (nativeFrameWords "java/lang/System" "arraycopy" 5 + 11) ≤ R.locals) (dg : decode cc pc = .ok (.invokestatic index, 3)) (kk : PW p l e R s m args below meth c D G nL Q (pc + 3) lv st (wA M b (va_cpy (mA M a) (mA M b) sp.toNatClampNeg dp.toNatClampNeg n.toNatClampNeg))) : PW p l e R s m args below meth c D G nL Q pc lv (.int n :: .int dp :: .ref b :: .int sp :: .ref a :: st) M := fun H locs ls hP hS hl => by
  obtain ⟨i, hi⟩ := PL_get (f := ce G M) ha.1
  obtain ⟨j, hj⟩ := PL_get (f := ce G M) hb.1
  have hj2 := hj
  rw [ce_I ha] at hi
  rw [ce_I hb] at hj2
  refine va_copyi cx.1 cx.2.1 (cx.2.2.1.trans hl.1.symm) cx.2.2.2.1 (cx.2.2.2.2.1 _ hl1) (cx.2.2.2.2.1 _ hl2) (cx.2.2.2.2.1 _ hl3) (cx.2.2.2.2.1 _ hl4) cx.2.2.2.2.2.1 hP (PL_D cx.2.2.2.2.2.2 (ce G M)) hS i j 1 1 hi hj2 rfl rfl rfl h1.1 h1.2.1 h1.2.2.1 h1.2.2.2.1 h1.2.2.2.2 (fun _ _ => rfl) hR.1 hR.2 dg (fun H1 locs1 hP1 hD1 hS1 => ?_)
  rw [PL_set cx.2.2.2.2.2.2 hb.1 hj (ce_wAI hb)] at hP1
  exact kk H1 locs1 ls hP1 hS1 hl
theorem p_max {index : Nat} {x y : Int32} (cx : CX p s m args c D G cc nL own) (hl1 : Cond.methodLink own index Lib.Math.max.name ∈ GW) (hl2 : Cond.static Lib.Math.max.name ∈ GW) (hl3 : Cond.initialized "java/lang/Math" ∈ GW) (hl4 : Cond.code Lib.Math.max.name Lib.Math.max.code 2 (some .int) ∈ GW) (hR : 1 ≤ R.frames ∧ (st.map fun v => v.category).sum + 13 ≤ R.locals) (dg : decode cc pc = .ok (.invokestatic index, 3)) (kk : PW p l e R s m args below meth c D G nL Q (pc + 3) lv (.int (if x < y then y else x) :: st) M) : PW p l e R s m args below meth c D G nL Q pc lv (.int y :: .int x :: st) M := fun H locs ls hP hS hl => va_mmax cx.1 cx.2.1 (cx.2.2.1.trans hl.1.symm) cx.2.2.2.1 (cx.2.2.2.2.1 _ hl1) (cx.2.2.2.2.1 _ hl2) (cx.2.2.2.2.1 _ hl3) (cx.2.2.2.2.1 _ hl4) hR.1 hR.2 (Nat.zero_le _) (Nat.zero_le _) dg (kk H locs ls hP hS hl)
theorem p_min {index : Nat} {x y : Int32} (cx : CX p s m args c D G cc nL own) (hl1 : Cond.methodLink own index Lib.Math.min.name ∈ GW) (hl2 : Cond.static Lib.Math.min.name ∈ GW) (hl3 : Cond.initialized "java/lang/Math" ∈ GW) (hl4 : Cond.code Lib.Math.min.name Lib.Math.min.code 2 (some .int) ∈ GW) (hR : 1 ≤ R.frames ∧ (st.map fun v => v.category).sum + 13 ≤ R.locals) (dg : decode cc pc = .ok (.invokestatic index, 3)) (kk : PW p l e R s m args below meth c D G nL Q (pc + 3) lv (.int (if y < x then y else x) :: st) M) : PW p l e R s m args below meth c D G nL Q pc lv (.int y :: .int x :: st) M := fun H locs ls hP hS hl => va_mmin cx.1 cx.2.1 (cx.2.2.1.trans hl.1.symm) cx.2.2.2.1 (cx.2.2.2.2.1 _ hl1) (cx.2.2.2.2.1 _ hl2) (cx.2.2.2.2.1 _ hl3) (cx.2.2.2.2.1 _ hl4) hR.1 hR.2 (Nat.zero_le _) (Nat.zero_le _) dg (kk H locs ls hP hS hl)
def CF (y : MethodName) (bytes : ByteArray) (maxL : Nat) (ret : Option FieldType) (n : Nat) : Prop := Cond.code y bytes maxL ret ∈ GW ∧ Cond.initialized y.cls ∈ GW ∧ (y.cls ≠ "java/lang/invoke/MethodHandle" ∧ y.cls ≠ "java/lang/invoke/VarHandle" ∧ (parseMethodDescriptor y.desc).map (fun d => d.parameters.length) = some n)
def CFV (y : MethodName) : Prop := Cond.instanceMethod y ∈ GW ∧ Cond.selects y.cls y y ∈ GW
theorem p_cB {rm : Room} {y : MethodName} {bytes : ByteArray} {maxL n index : Nat} {ret : Option FieldType} (cx : CX p s m args c D G cc nL own) (hF : CF y bytes maxL ret n) (hlink : Cond.methodLink own index y ∈ GW) (h0 : rm.cells = 0 ∧ rm.slots = 0) (hR : rm.frames + 1 ≤ R.frames ∧ 8 + (maxL + 11) + rm.locals ≤ R.locals) : CallB R s args own index y bytes maxL ret (Cond.code y bytes maxL ret :: GW) rm 0 0 n :=
  callB_of n cx.2.2.2.2.1 (goodIn_g hF.1) rfl h0.1 h0.2 (cx.2.2.2.2.1 _ hF.2.1) (cx.2.2.2.2.1 _ hlink) hF.2.2 hR
theorem p_recv {a ci : Nat} {q : vw_C} {H : Heap} (cx : CX p s m args c D G cc nL own) (hP : va_P D vwCl (PL G M) H) (ha : Is G ci a) (hci : ci < 11) (hc : vwCl[ci]? = some q) : ∃ cell : Cell, H[a]? = some cell ∧ cell.vm.isStatics = false ∧ s.vm.findClass q.1 = some cell.cls := by
  obtain ⟨i, hi⟩ := PL_get (f := ce G M) ha.1
  rw [ce_obj ha hci] at hi
  exact va_recv cx.2.2.2.2.2.1 hP hc hi
theorem p_callVi {y : MethodName} {bytes : ByteArray} {maxL n index : Nat} {ret : Option FieldType} {rm : Room} {rest : List Value} {Qp : Int32 → MS → Prop} (As : List Value) {b ci : Nat} {q : vw_C} (cx : CX p s m args c D G cc nL own) (hM : MeI l D G y (Cond.code y bytes maxL ret :: GW) rm (.ref b :: As) M Qp) (hF : CF y bytes maxL ret n) (hV : CFV y) (hlink : Cond.methodLink own index y ∈ GW) (hb : Is G ci b) (hci : ci < 11 ∧ vwCl[ci]? = some q ∧ q.1 = y.cls) (h0 : rm.cells = 0 ∧ rm.slots = 0) (hR : rm.frames + 1 ≤ R.frames ∧ 8 + (maxL + 11) + rm.locals ≤ R.locals) (hn : As.length = n) (hst : st = As.reverse ++ .ref b :: rest) (hW : (rest.map fun v => v.category).sum ≤ 8) (dg : decode cc pc = .ok (.invokevirtual index, 3)) (kk : ∀ (r : Int32) (N : MS), Qp r N → TYR G N.2.2.1 → PW p l e R s m args below meth c D G nL Q (pc + 3) lv (.int r :: rest) N) : PW p l e R s m args below meth c D G nL Q pc lv st M := fun H locs ls hP hS hl => by
  have hrc := p_recv cx hP hb hci.1 hci.2.1
  rw [hci.2.2] at hrc
  refine va_calli (A1 := AG G) (va_runV (C := y.cls) (As := As) (rest := rest) (b := b) (g := F0 m pc ls st) ⟨cx.1, cx.2.1, cx.2.2.1, cx.2.2.2.1, cx.2.2.2.2.1⟩ hM ⟨p_cB cx hF hlink h0 hR, cx.2.2.2.2.1 _ hV.1, cx.2.2.2.2.1 _ hV.2⟩ ⟨PRE_blind _ _ _ _, hrc, fun U hU hW => ⟨rfl, by rw [hU]; exact hP, va_K.moved hW.alike cx.2.2.2.2.2.1⟩⟩ rfl hn hl.1 hst (lv_room hW) dg ⟨Nat.zero_le _, Nat.zero_le _⟩) hS (fun q _ h => h) (fun q h => h) (fun r u t H1 locs1 ht hvm hp hB hz hk hS1 => kk r u hp hB.2.2 H1 locs1 ls (by rw [← ht]; exact hB.1) hS1 hl)
theorem p_callSi {y : MethodName} {bytes : ByteArray} {maxL n index : Nat} {ret : Option FieldType} {rm : Room} {rest : List Value} {Qp : Int32 → MS → Prop} (As : List Value) (cx : CX p s m args c D G cc nL own) (hM : MeI l D G y (Cond.code y bytes maxL ret :: GW) rm As M Qp) (hF : CF y bytes maxL ret n) (hV : Cond.static y ∈ GW) (hlink : Cond.methodLink own index y ∈ GW) (h0 : rm.cells = 0 ∧ rm.slots = 0) (hR : rm.frames + 1 ≤ R.frames ∧ 8 + (maxL + 11) + rm.locals ≤ R.locals) (hn : As.length = n) (hst : st = As.reverse ++ rest) (hW : (rest.map fun v => v.category).sum ≤ 8) (dg : decode cc pc = .ok (.invokestatic index, 3)) (kk : ∀ (r : Int32) (N : MS), Qp r N → TYR G N.2.2.1 → PW p l e R s m args below meth c D G nL Q (pc + 3) lv (.int r :: rest) N) : PW p l e R s m args below meth c D G nL Q pc lv st M := fun H locs ls hP hS hl => by
  refine va_calli (A1 := AG G) (va_runS (As := As) (rest := rest) (g := F0 m pc ls st) ⟨cx.1, cx.2.1, cx.2.2.1, cx.2.2.2.1, cx.2.2.2.2.1⟩ hM ⟨p_cB cx hF hlink h0 hR, cx.2.2.2.2.1 _ hV⟩ ⟨PRE_blind _ _ _ _, fun U hU hW => ⟨rfl, by rw [hU]; exact hP, va_K.moved hW.alike cx.2.2.2.2.2.1⟩⟩ rfl hn hl.1 hst (lv_room hW) dg ⟨Nat.zero_le _, Nat.zero_le _⟩) hS (fun q _ h => h) (fun q h => h) (fun r u t H1 locs1 ht hvm hp hB hz hk hS1 => kk r u hp hB.2.2 H1 locs1 ls (by rw [← ht]; exact hB.1) hS1 hl)
theorem p_callVl {y : MethodName} {bytes : ByteArray} {maxL n index : Nat} {ret : Option FieldType} {rm : Room} {rest : List Value} {Qp : Int64 → MS → Prop} (As : List Value) {b ci : Nat} {q : vw_C} (cx : CX p s m args c D G cc nL own) (hM : MeL l D G y (Cond.code y bytes maxL ret :: GW) rm (.ref b :: As) M Qp) (hF : CF y bytes maxL ret n) (hV : CFV y) (hlink : Cond.methodLink own index y ∈ GW) (hb : Is G ci b) (hci : ci < 11 ∧ vwCl[ci]? = some q ∧ q.1 = y.cls) (h0 : rm.cells = 0 ∧ rm.slots = 0) (hR : rm.frames + 1 ≤ R.frames ∧ 8 + (maxL + 11) + rm.locals ≤ R.locals) (hn : As.length = n) (hst : st = As.reverse ++ .ref b :: rest) (hW : (rest.map fun v => v.category).sum ≤ 8) (dg : decode cc pc = .ok (.invokevirtual index, 3)) (kk : ∀ (r : Int64) (N : MS), Qp r N → TYR G N.2.2.1 → PW p l e R s m args below meth c D G nL Q (pc + 3) lv (.long r :: rest) N) : PW p l e R s m args below meth c D G nL Q pc lv st M := fun H locs ls hP hS hl => by
  have hrc := p_recv cx hP hb hci.1 hci.2.1
  rw [hci.2.2] at hrc
  refine va_calll (A1 := AG G) (va_runV (C := y.cls) (As := As) (rest := rest) (b := b) (g := F0 m pc ls st) ⟨cx.1, cx.2.1, cx.2.2.1, cx.2.2.2.1, cx.2.2.2.2.1⟩ hM ⟨p_cB cx hF hlink h0 hR, cx.2.2.2.2.1 _ hV.1, cx.2.2.2.2.1 _ hV.2⟩ ⟨PRE_blind _ _ _ _, hrc, fun U hU hW => ⟨rfl, by rw [hU]; exact hP, va_K.moved hW.alike cx.2.2.2.2.2.1⟩⟩ rfl hn hl.1 hst (lv_room hW) dg ⟨Nat.zero_le _, Nat.zero_le _⟩) hS (fun q _ h => h) (fun q h => h) (fun r u t H1 locs1 ht hvm hp hB hz hk hS1 => kk r u hp hB.2.2 H1 locs1 ls (by rw [← ht]; exact hB.1) hS1 hl)
theorem p_callSl {y : MethodName} {bytes : ByteArray} {maxL n index : Nat} {ret : Option FieldType} {rm : Room} {rest : List Value} {Qp : Int64 → MS → Prop} (As : List Value) (cx : CX p s m args c D G cc nL own) (hM : MeL l D G y (Cond.code y bytes maxL ret :: GW) rm As M Qp) (hF : CF y bytes maxL ret n) (hV : Cond.static y ∈ GW) (hlink : Cond.methodLink own index y ∈ GW) (h0 : rm.cells = 0 ∧ rm.slots = 0) (hR : rm.frames + 1 ≤ R.frames ∧ 8 + (maxL + 11) + rm.locals ≤ R.locals) (hn : As.length = n) (hst : st = As.reverse ++ rest) (hW : (rest.map fun v => v.category).sum ≤ 8) (dg : decode cc pc = .ok (.invokestatic index, 3)) (kk : ∀ (r : Int64) (N : MS), Qp r N → TYR G N.2.2.1 → PW p l e R s m args below meth c D G nL Q (pc + 3) lv (.long r :: rest) N) : PW p l e R s m args below meth c D G nL Q pc lv st M := fun H locs ls hP hS hl => by
  refine va_calll (A1 := AG G) (va_runS (As := As) (rest := rest) (g := F0 m pc ls st) ⟨cx.1, cx.2.1, cx.2.2.1, cx.2.2.2.1, cx.2.2.2.2.1⟩ hM ⟨p_cB cx hF hlink h0 hR, cx.2.2.2.2.1 _ hV⟩ ⟨PRE_blind _ _ _ _, fun U hU hW => ⟨rfl, by rw [hU]; exact hP, va_K.moved hW.alike cx.2.2.2.2.2.1⟩⟩ rfl hn hl.1 hst (lv_room hW) dg ⟨Nat.zero_le _, Nat.zero_le _⟩) hS (fun q _ h => h) (fun q h => h) (fun r u t H1 locs1 ht hvm hp hB hz hk hS1 => kk r u hp hB.2.2 H1 locs1 ls (by rw [← ht]; exact hB.1) hS1 hl)
theorem p_callVv {y : MethodName} {bytes : ByteArray} {maxL n index : Nat} {ret : Option FieldType} {rm : Room} {rest : List Value} {Qp : MS → Prop} (As : List Value) {b ci : Nat} {q : vw_C} (cx : CX p s m args c D G cc nL own) (hM : MeV l D G y (Cond.code y bytes maxL ret :: GW) rm (.ref b :: As) M Qp) (hF : CF y bytes maxL ret n) (hV : CFV y) (hlink : Cond.methodLink own index y ∈ GW) (hb : Is G ci b) (hci : ci < 11 ∧ vwCl[ci]? = some q ∧ q.1 = y.cls) (h0 : rm.cells = 0 ∧ rm.slots = 0) (hR : rm.frames + 1 ≤ R.frames ∧ 8 + (maxL + 11) + rm.locals ≤ R.locals) (hn : As.length = n) (hst : st = As.reverse ++ .ref b :: rest) (hW : (rest.map fun v => v.category).sum ≤ 8) (dg : decode cc pc = .ok (.invokevirtual index, 3)) (kk : ∀ (N : MS), Qp N → TYR G N.2.2.1 → PW p l e R s m args below meth c D G nL Q (pc + 3) lv rest N) : PW p l e R s m args below meth c D G nL Q pc lv st M := fun H locs ls hP hS hl => by
  have hrc := p_recv cx hP hb hci.1 hci.2.1
  rw [hci.2.2] at hrc
  refine va_callv (A1 := AG G) (va_runV (C := y.cls) (As := As) (rest := rest) (b := b) (g := F0 m pc ls st) ⟨cx.1, cx.2.1, cx.2.2.1, cx.2.2.2.1, cx.2.2.2.2.1⟩ hM ⟨p_cB cx hF hlink h0 hR, cx.2.2.2.2.1 _ hV.1, cx.2.2.2.2.1 _ hV.2⟩ ⟨PRE_blind _ _ _ _, hrc, fun U hU hW => ⟨rfl, by rw [hU]; exact hP, va_K.moved hW.alike cx.2.2.2.2.2.1⟩⟩ rfl hn hl.1 hst (lv_room hW) dg ⟨Nat.zero_le _, Nat.zero_le _⟩) hS (fun q _ h => h) (fun q h => h) (fun u t H1 locs1 ht hvm hp hB hz hk hS1 => kk u hp hB.2.2 H1 locs1 ls (by rw [← ht]; exact hB.1) hS1 hl)
theorem p_callSv {y : MethodName} {bytes : ByteArray} {maxL n index : Nat} {ret : Option FieldType} {rm : Room} {rest : List Value} {Qp : MS → Prop} (As : List Value) (cx : CX p s m args c D G cc nL own) (hM : MeV l D G y (Cond.code y bytes maxL ret :: GW) rm As M Qp) (hF : CF y bytes maxL ret n) (hV : Cond.static y ∈ GW) (hlink : Cond.methodLink own index y ∈ GW) (h0 : rm.cells = 0 ∧ rm.slots = 0) (hR : rm.frames + 1 ≤ R.frames ∧ 8 + (maxL + 11) + rm.locals ≤ R.locals) (hn : As.length = n) (hst : st = As.reverse ++ rest) (hW : (rest.map fun v => v.category).sum ≤ 8) (dg : decode cc pc = .ok (.invokestatic index, 3)) (kk : ∀ (N : MS), Qp N → TYR G N.2.2.1 → PW p l e R s m args below meth c D G nL Q (pc + 3) lv rest N) : PW p l e R s m args below meth c D G nL Q pc lv st M := fun H locs ls hP hS hl => by
  refine va_callv (A1 := AG G) (va_runS (As := As) (rest := rest) (g := F0 m pc ls st) ⟨cx.1, cx.2.1, cx.2.2.1, cx.2.2.2.1, cx.2.2.2.2.1⟩ hM ⟨p_cB cx hF hlink h0 hR, cx.2.2.2.2.1 _ hV⟩ ⟨PRE_blind _ _ _ _, fun U hU hW => ⟨rfl, by rw [hU]; exact hP, va_K.moved hW.alike cx.2.2.2.2.2.1⟩⟩ rfl hn hl.1 hst (lv_room hW) dg ⟨Nat.zero_le _, Nat.zero_le _⟩) hS (fun q _ h => h) (fun q h => h) (fun u t H1 locs1 ht hvm hp hB hz hk hS1 => kk u hp hB.2.2 H1 locs1 ls (by rw [← ht]; exact hB.1) hS1 hl)
theorem p_callVr {y : MethodName} {bytes : ByteArray} {maxL n index : Nat} {ret : Option FieldType} {rm : Room} {rest : List Value} {Qp : Nat → MS → Prop} (As : List Value) {b ci : Nat} {q : vw_C} (cx : CX p s m args c D G cc nL own) (hM : MeR l D G y (Cond.code y bytes maxL ret :: GW) rm (.ref b :: As) M Qp) (hF : CF y bytes maxL ret n) (hV : CFV y) (hlink : Cond.methodLink own index y ∈ GW) (hb : Is G ci b) (hci : ci < 11 ∧ vwCl[ci]? = some q ∧ q.1 = y.cls) (h0 : rm.cells = 0 ∧ rm.slots = 0) (hR : rm.frames + 1 ≤ R.frames ∧ 8 + (maxL + 11) + rm.locals ≤ R.locals) (hn : As.length = n) (hst : st = As.reverse ++ .ref b :: rest) (hW : (rest.map fun v => v.category).sum ≤ 8) (dg : decode cc pc = .ok (.invokevirtual index, 3)) (kk : ∀ (r : Nat) (N : MS), Qp r N → Is G 8 r → TYR G N.2.2.1 → PW p l e R s m args below meth c D G nL Q (pc + 3) lv (.ref r :: rest) N) : PW p l e R s m args below meth c D G nL Q pc lv st M := fun H locs ls hP hS hl => by
  have hrc := p_recv cx hP hb hci.1 hci.2.1
  rw [hci.2.2] at hrc
  refine va_callr (A1 := AG G) (va_runV (C := y.cls) (As := As) (rest := rest) (b := b) (g := F0 m pc ls st) ⟨cx.1, cx.2.1, cx.2.2.1, cx.2.2.2.1, cx.2.2.2.2.1⟩ hM ⟨p_cB cx hF hlink h0 hR, cx.2.2.2.2.1 _ hV.1, cx.2.2.2.2.1 _ hV.2⟩ ⟨PRE_blind _ _ _ _, hrc, fun U hU hW => ⟨rfl, by rw [hU]; exact hP, va_K.moved hW.alike cx.2.2.2.2.2.1⟩⟩ rfl hn hl.1 hst (lv_room hW) dg ⟨Nat.zero_le _, Nat.zero_le _⟩) hS (fun q _ h => h) (fun q h => h) (fun u ra t H1 locs1 ht hvm hp hB hz hk hS1 => kk ra u hB.1 hB.2.1 hB.2.2.2.2 H1 locs1 ls (by rw [← ht]; exact hB.2.2.1) hS1 hl)
theorem p_callSr {y : MethodName} {bytes : ByteArray} {maxL n index : Nat} {ret : Option FieldType} {rm : Room} {rest : List Value} {Qp : Nat → MS → Prop} (As : List Value) (cx : CX p s m args c D G cc nL own) (hM : MeR l D G y (Cond.code y bytes maxL ret :: GW) rm As M Qp) (hF : CF y bytes maxL ret n) (hV : Cond.static y ∈ GW) (hlink : Cond.methodLink own index y ∈ GW) (h0 : rm.cells = 0 ∧ rm.slots = 0) (hR : rm.frames + 1 ≤ R.frames ∧ 8 + (maxL + 11) + rm.locals ≤ R.locals) (hn : As.length = n) (hst : st = As.reverse ++ rest) (hW : (rest.map fun v => v.category).sum ≤ 8) (dg : decode cc pc = .ok (.invokestatic index, 3)) (kk : ∀ (r : Nat) (N : MS), Qp r N → Is G 8 r → TYR G N.2.2.1 → PW p l e R s m args below meth c D G nL Q (pc + 3) lv (.ref r :: rest) N) : PW p l e R s m args below meth c D G nL Q pc lv st M := fun H locs ls hP hS hl => by
  refine va_callr (A1 := AG G) (va_runS (As := As) (rest := rest) (g := F0 m pc ls st) ⟨cx.1, cx.2.1, cx.2.2.1, cx.2.2.2.1, cx.2.2.2.2.1⟩ hM ⟨p_cB cx hF hlink h0 hR, cx.2.2.2.2.1 _ hV⟩ ⟨PRE_blind _ _ _ _, fun U hU hW => ⟨rfl, by rw [hU]; exact hP, va_K.moved hW.alike cx.2.2.2.2.2.1⟩⟩ rfl hn hl.1 hst (lv_room hW) dg ⟨Nat.zero_le _, Nat.zero_le _⟩) hS (fun q _ h => h) (fun q h => h) (fun u ra t H1 locs1 ht hvm hp hB hz hk hS1 => kk ra u hB.1 hB.2.1 hB.2.2.2.2 H1 locs1 ls (by rw [← ht]; exact hB.2.2.1) hS1 hl)
end PoolRules
end
