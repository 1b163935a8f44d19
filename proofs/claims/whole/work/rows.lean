section
-- ===== PART A: goes FIRST, ahead of the names: the tables' words, and 'selects' of the private methods out of them =====
/-- a private method of a class that the tables say can be made, by its rows of tables_1 -/
def lw_okq (q : MethodName × Nat) : Prop := (q.1.cls ≠ "java/lang/invoke/MethodHandle" ∧ q.1.cls ≠ "java/lang/invoke/VarHandle") ∧ Cond.instantiable q.1.cls q.2 ∈ tables_1 ∧ Cond.privateMethod q.1 ∈ tables_1 ∧ Cond.instanceMethod q.1 ∈ tables_1
theorem lw_p0 : lw_okq (⟨"WhoseName$Law", "understand", "()V"⟩, 4) := ⟨⟨by decide +kernel, by decide +kernel⟩, List.mem_of_getElem? (i := 137) (by decide +kernel), List.mem_of_getElem? (i := 143) (by decide +kernel), List.mem_of_getElem? (i := 144) (by decide +kernel)⟩
theorem lw_p1 : lw_okq (⟨"WhoseName$Law", "forgetParts", "()V"⟩, 4) := ⟨⟨by decide +kernel, by decide +kernel⟩, List.mem_of_getElem? (i := 137) (by decide +kernel), List.mem_of_getElem? (i := 147) (by decide +kernel), List.mem_of_getElem? (i := 148) (by decide +kernel)⟩
theorem lw_p2 : lw_okq (⟨"WhoseName$Law", "takeParts", "()I"⟩, 4) := ⟨⟨by decide +kernel, by decide +kernel⟩, List.mem_of_getElem? (i := 137) (by decide +kernel), List.mem_of_getElem? (i := 156) (by decide +kernel), List.mem_of_getElem? (i := 157) (by decide +kernel)⟩
theorem lw_p3 : lw_okq (⟨"WhoseName$Law", "signAt", "(I)I"⟩, 4) := ⟨⟨by decide +kernel, by decide +kernel⟩, List.mem_of_getElem? (i := 137) (by decide +kernel), List.mem_of_getElem? (i := 160) (by decide +kernel), List.mem_of_getElem? (i := 161) (by decide +kernel)⟩
theorem lw_p4 : lw_okq (⟨"WhoseName$Law", "figuresFrom", "(I)I"⟩, 4) := ⟨⟨by decide +kernel, by decide +kernel⟩, List.mem_of_getElem? (i := 137) (by decide +kernel), List.mem_of_getElem? (i := 169) (by decide +kernel), List.mem_of_getElem? (i := 170) (by decide +kernel)⟩
theorem lw_p5 : lw_okq (⟨"WhoseName$Law", "isFigureAt", "(I)Z"⟩, 4) := ⟨⟨by decide +kernel, by decide +kernel⟩, List.mem_of_getElem? (i := 137) (by decide +kernel), List.mem_of_getElem? (i := 173) (by decide +kernel), List.mem_of_getElem? (i := 174) (by decide +kernel)⟩
theorem lw_p6 : lw_okq (⟨"WhoseName$Law", "numberFrom", "(II)I"⟩, 4) := ⟨⟨by decide +kernel, by decide +kernel⟩, List.mem_of_getElem? (i := 137) (by decide +kernel), List.mem_of_getElem? (i := 177) (by decide +kernel), List.mem_of_getElem? (i := 178) (by decide +kernel)⟩
theorem lw_p7 : lw_okq (⟨"WhoseName", "mayBeGiven", "(IIII)Z"⟩, 18) := ⟨⟨by decide +kernel, by decide +kernel⟩, List.mem_of_getElem? (i := 13) (by decide +kernel), List.mem_of_getElem? (i := 290) (by decide +kernel), List.mem_of_getElem? (i := 291) (by decide +kernel)⟩
theorem lw_p8 : lw_okq (⟨"WhoseName", "mayBePassed", "(I)Z"⟩, 18) := ⟨⟨by decide +kernel, by decide +kernel⟩, List.mem_of_getElem? (i := 13) (by decide +kernel), List.mem_of_getElem? (i := 294) (by decide +kernel), List.mem_of_getElem? (i := 295) (by decide +kernel)⟩
theorem lw_p9 : lw_okq (⟨"WhoseName", "isLeave", "(I)Z"⟩, 18) := ⟨⟨by decide +kernel, by decide +kernel⟩, List.mem_of_getElem? (i := 13) (by decide +kernel), List.mem_of_getElem? (i := 298) (by decide +kernel), List.mem_of_getElem? (i := 299) (by decide +kernel)⟩
theorem lw_p10 : lw_okq (⟨"WhoseName", "setSource", "(LWhoseName$Leave;I)V"⟩, 18) := ⟨⟨by decide +kernel, by decide +kernel⟩, List.mem_of_getElem? (i := 13) (by decide +kernel), List.mem_of_getElem? (i := 314) (by decide +kernel), List.mem_of_getElem? (i := 315) (by decide +kernel)⟩
theorem lw_p11 : lw_okq (⟨"WhoseName", "isBack", "(I)Z"⟩, 18) := ⟨⟨by decide +kernel, by decide +kernel⟩, List.mem_of_getElem? (i := 13) (by decide +kernel), List.mem_of_getElem? (i := 326) (by decide +kernel), List.mem_of_getElem? (i := 327) (by decide +kernel)⟩
theorem lw_p12 : lw_okq (⟨"WhoseName", "find", "(I)I"⟩, 18) := ⟨⟨by decide +kernel, by decide +kernel⟩, List.mem_of_getElem? (i := 13) (by decide +kernel), List.mem_of_getElem? (i := 341) (by decide +kernel), List.mem_of_getElem? (i := 342) (by decide +kernel)⟩
theorem lw_p13 : lw_okq (⟨"WhoseName", "isBargain", "(I)Z"⟩, 18) := ⟨⟨by decide +kernel, by decide +kernel⟩, List.mem_of_getElem? (i := 13) (by decide +kernel), List.mem_of_getElem? (i := 358) (by decide +kernel), List.mem_of_getElem? (i := 359) (by decide +kernel)⟩
theorem lw_p14 : lw_okq (⟨"WhoseName", "reachesIn", "([IILWhoseName$Bargain;I)Z"⟩, 18) := ⟨⟨by decide +kernel, by decide +kernel⟩, List.mem_of_getElem? (i := 13) (by decide +kernel), List.mem_of_getElem? (i := 401) (by decide +kernel), List.mem_of_getElem? (i := 402) (by decide +kernel)⟩
theorem lw_p15 : lw_okq (⟨"WhoseName", "isEnded", "([IILWhoseName$Bargain;I)Z"⟩, 18) := ⟨⟨by decide +kernel, by decide +kernel⟩, List.mem_of_getElem? (i := 13) (by decide +kernel), List.mem_of_getElem? (i := 420) (by decide +kernel), List.mem_of_getElem? (i := 421) (by decide +kernel)⟩
def lw_privs_1 : List (MethodName × Nat) := [(⟨"WhoseName$Law", "understand", "()V"⟩, 4), (⟨"WhoseName$Law", "forgetParts", "()V"⟩, 4), (⟨"WhoseName$Law", "takeParts", "()I"⟩, 4), (⟨"WhoseName$Law", "signAt", "(I)I"⟩, 4), (⟨"WhoseName$Law", "figuresFrom", "(I)I"⟩, 4), (⟨"WhoseName$Law", "isFigureAt", "(I)Z"⟩, 4), (⟨"WhoseName$Law", "numberFrom", "(II)I"⟩, 4), (⟨"WhoseName", "mayBeGiven", "(IIII)Z"⟩, 18), (⟨"WhoseName", "mayBePassed", "(I)Z"⟩, 18), (⟨"WhoseName", "isLeave", "(I)Z"⟩, 18), (⟨"WhoseName", "setSource", "(LWhoseName$Leave;I)V"⟩, 18), (⟨"WhoseName", "isBack", "(I)Z"⟩, 18), (⟨"WhoseName", "find", "(I)I"⟩, 18), (⟨"WhoseName", "isBargain", "(I)Z"⟩, 18), (⟨"WhoseName", "reachesIn", "([IILWhoseName$Bargain;I)Z"⟩, 18), (⟨"WhoseName", "isEnded", "([IILWhoseName$Bargain;I)Z"⟩, 18)]
theorem lw_r1 : ∀ q ∈ lw_privs_1, lw_okq q := List.forall_mem_cons.mpr ⟨lw_p0, List.forall_mem_cons.mpr ⟨lw_p1, List.forall_mem_cons.mpr ⟨lw_p2, List.forall_mem_cons.mpr ⟨lw_p3, List.forall_mem_cons.mpr ⟨lw_p4, List.forall_mem_cons.mpr ⟨lw_p5, List.forall_mem_cons.mpr ⟨lw_p6, List.forall_mem_cons.mpr ⟨lw_p7, List.forall_mem_cons.mpr ⟨lw_p8, List.forall_mem_cons.mpr ⟨lw_p9, List.forall_mem_cons.mpr ⟨lw_p10, List.forall_mem_cons.mpr ⟨lw_p11, List.forall_mem_cons.mpr ⟨lw_p12, List.forall_mem_cons.mpr ⟨lw_p13, List.forall_mem_cons.mpr ⟨lw_p14, List.forall_mem_cons.mpr ⟨lw_p15, fun _ h => absurd h List.not_mem_nil⟩⟩⟩⟩⟩⟩⟩⟩⟩⟩⟩⟩⟩⟩⟩⟩
theorem lw_p16 : lw_okq (⟨"WhoseName", "hearingDay", "(II)I"⟩, 18) := ⟨⟨by decide +kernel, by decide +kernel⟩, List.mem_of_getElem? (i := 13) (by decide +kernel), List.mem_of_getElem? (i := 427) (by decide +kernel), List.mem_of_getElem? (i := 428) (by decide +kernel)⟩
theorem lw_p17 : lw_okq (⟨"WhoseName", "boundBits", "([ILWhoseName$Bargain;I)I"⟩, 18) := ⟨⟨by decide +kernel, by decide +kernel⟩, List.mem_of_getElem? (i := 13) (by decide +kernel), List.mem_of_getElem? (i := 435) (by decide +kernel), List.mem_of_getElem? (i := 436) (by decide +kernel)⟩
theorem lw_p18 : lw_okq (⟨"WhoseName", "reasonIn", "([ILWhoseName$Bargain;I)I"⟩, 18) := ⟨⟨by decide +kernel, by decide +kernel⟩, List.mem_of_getElem? (i := 13) (by decide +kernel), List.mem_of_getElem? (i := 439) (by decide +kernel), List.mem_of_getElem? (i := 440) (by decide +kernel)⟩
theorem lw_p19 : lw_okq (⟨"WhoseName", "isWell", "([ILWhoseName$Bargain;)Z"⟩, 18) := ⟨⟨by decide +kernel, by decide +kernel⟩, List.mem_of_getElem? (i := 13) (by decide +kernel), List.mem_of_getElem? (i := 443) (by decide +kernel), List.mem_of_getElem? (i := 444) (by decide +kernel)⟩
theorem lw_p20 : lw_okq (⟨"WhoseName", "wasRefusedAhead", "(ILWhoseName$Bargain;)Z"⟩, 18) := ⟨⟨by decide +kernel, by decide +kernel⟩, List.mem_of_getElem? (i := 13) (by decide +kernel), List.mem_of_getElem? (i := 450) (by decide +kernel), List.mem_of_getElem? (i := 451) (by decide +kernel)⟩
theorem lw_p21 : lw_okq (⟨"WhoseName", "bitsOfReason", "([ILWhoseName$Bargain;I)I"⟩, 18) := ⟨⟨by decide +kernel, by decide +kernel⟩, List.mem_of_getElem? (i := 13) (by decide +kernel), List.mem_of_getElem? (i := 454) (by decide +kernel), List.mem_of_getElem? (i := 455) (by decide +kernel)⟩
theorem lw_p22 : lw_okq (⟨"WhoseName", "owedBy", "([ILWhoseName$Bargain;I)I"⟩, 18) := ⟨⟨by decide +kernel, by decide +kernel⟩, List.mem_of_getElem? (i := 13) (by decide +kernel), List.mem_of_getElem? (i := 480) (by decide +kernel), List.mem_of_getElem? (i := 481) (by decide +kernel)⟩
theorem lw_p23 : lw_okq (⟨"WhoseName", "settle", "([I)V"⟩, 18) := ⟨⟨by decide +kernel, by decide +kernel⟩, List.mem_of_getElem? (i := 13) (by decide +kernel), List.mem_of_getElem? (i := 491) (by decide +kernel), List.mem_of_getElem? (i := 492) (by decide +kernel)⟩
theorem lw_p24 : lw_okq (⟨"WhoseName", "settleBargain", "([ILWhoseName$Bargain;)V"⟩, 18) := ⟨⟨by decide +kernel, by decide +kernel⟩, List.mem_of_getElem? (i := 13) (by decide +kernel), List.mem_of_getElem? (i := 496) (by decide +kernel), List.mem_of_getElem? (i := 497) (by decide +kernel)⟩
theorem lw_p25 : lw_okq (⟨"WhoseName", "pay", "(III)I"⟩, 18) := ⟨⟨by decide +kernel, by decide +kernel⟩, List.mem_of_getElem? (i := 13) (by decide +kernel), List.mem_of_getElem? (i := 500) (by decide +kernel), List.mem_of_getElem? (i := 501) (by decide +kernel)⟩
theorem lw_p26 : lw_okq (⟨"WhoseName", "tryWays", "([ILWhoseName$Bargain;)I"⟩, 18) := ⟨⟨by decide +kernel, by decide +kernel⟩, List.mem_of_getElem? (i := 13) (by decide +kernel), List.mem_of_getElem? (i := 511) (by decide +kernel), List.mem_of_getElem? (i := 512) (by decide +kernel)⟩
theorem lw_p27 : lw_okq (⟨"WhoseName", "findOpenBacks", "()V"⟩, 18) := ⟨⟨by decide +kernel, by decide +kernel⟩, List.mem_of_getElem? (i := 13) (by decide +kernel), List.mem_of_getElem? (i := 515) (by decide +kernel), List.mem_of_getElem? (i := 516) (by decide +kernel)⟩
theorem lw_p28 : lw_okq (⟨"WhoseName", "wayOf", "(I)I"⟩, 18) := ⟨⟨by decide +kernel, by decide +kernel⟩, List.mem_of_getElem? (i := 13) (by decide +kernel), List.mem_of_getElem? (i := 519) (by decide +kernel), List.mem_of_getElem? (i := 520) (by decide +kernel)⟩
theorem lw_p29 : lw_okq (⟨"WhoseName", "isTurnedBy", "(II)Z"⟩, 18) := ⟨⟨by decide +kernel, by decide +kernel⟩, List.mem_of_getElem? (i := 13) (by decide +kernel), List.mem_of_getElem? (i := 527) (by decide +kernel), List.mem_of_getElem? (i := 528) (by decide +kernel)⟩
theorem lw_p30 : lw_okq (⟨"WhoseName", "fewestLetters", "(LWhoseName$Bargain;)I"⟩, 18) := ⟨⟨by decide +kernel, by decide +kernel⟩, List.mem_of_getElem? (i := 13) (by decide +kernel), List.mem_of_getElem? (i := 539) (by decide +kernel), List.mem_of_getElem? (i := 540) (by decide +kernel)⟩
theorem lw_p31 : lw_okq (⟨"WhoseName", "unlikeLetters", "()I"⟩, 18) := ⟨⟨by decide +kernel, by decide +kernel⟩, List.mem_of_getElem? (i := 13) (by decide +kernel), List.mem_of_getElem? (i := 543) (by decide +kernel), List.mem_of_getElem? (i := 544) (by decide +kernel)⟩
def lw_privs_2 : List (MethodName × Nat) := [(⟨"WhoseName", "hearingDay", "(II)I"⟩, 18), (⟨"WhoseName", "boundBits", "([ILWhoseName$Bargain;I)I"⟩, 18), (⟨"WhoseName", "reasonIn", "([ILWhoseName$Bargain;I)I"⟩, 18), (⟨"WhoseName", "isWell", "([ILWhoseName$Bargain;)Z"⟩, 18), (⟨"WhoseName", "wasRefusedAhead", "(ILWhoseName$Bargain;)Z"⟩, 18), (⟨"WhoseName", "bitsOfReason", "([ILWhoseName$Bargain;I)I"⟩, 18), (⟨"WhoseName", "owedBy", "([ILWhoseName$Bargain;I)I"⟩, 18), (⟨"WhoseName", "settle", "([I)V"⟩, 18), (⟨"WhoseName", "settleBargain", "([ILWhoseName$Bargain;)V"⟩, 18), (⟨"WhoseName", "pay", "(III)I"⟩, 18), (⟨"WhoseName", "tryWays", "([ILWhoseName$Bargain;)I"⟩, 18), (⟨"WhoseName", "findOpenBacks", "()V"⟩, 18), (⟨"WhoseName", "wayOf", "(I)I"⟩, 18), (⟨"WhoseName", "isTurnedBy", "(II)Z"⟩, 18), (⟨"WhoseName", "fewestLetters", "(LWhoseName$Bargain;)I"⟩, 18), (⟨"WhoseName", "unlikeLetters", "()I"⟩, 18)]
theorem lw_r2 : ∀ q ∈ lw_privs_2, lw_okq q := List.forall_mem_cons.mpr ⟨lw_p16, List.forall_mem_cons.mpr ⟨lw_p17, List.forall_mem_cons.mpr ⟨lw_p18, List.forall_mem_cons.mpr ⟨lw_p19, List.forall_mem_cons.mpr ⟨lw_p20, List.forall_mem_cons.mpr ⟨lw_p21, List.forall_mem_cons.mpr ⟨lw_p22, List.forall_mem_cons.mpr ⟨lw_p23, List.forall_mem_cons.mpr ⟨lw_p24, List.forall_mem_cons.mpr ⟨lw_p25, List.forall_mem_cons.mpr ⟨lw_p26, List.forall_mem_cons.mpr ⟨lw_p27, List.forall_mem_cons.mpr ⟨lw_p28, List.forall_mem_cons.mpr ⟨lw_p29, List.forall_mem_cons.mpr ⟨lw_p30, List.forall_mem_cons.mpr ⟨lw_p31, fun _ h => absurd h List.not_mem_nil⟩⟩⟩⟩⟩⟩⟩⟩⟩⟩⟩⟩⟩⟩⟩⟩
theorem lw_p32 : lw_okq (⟨"WhoseName", "mixLaws", "(I)V"⟩, 18) := ⟨⟨by decide +kernel, by decide +kernel⟩, List.mem_of_getElem? (i := 13) (by decide +kernel), List.mem_of_getElem? (i := 553) (by decide +kernel), List.mem_of_getElem? (i := 554) (by decide +kernel)⟩
theorem lw_p33 : lw_okq (⟨"WhoseName", "bargainsBetween", "(II)I"⟩, 18) := ⟨⟨by decide +kernel, by decide +kernel⟩, List.mem_of_getElem? (i := 13) (by decide +kernel), List.mem_of_getElem? (i := 561) (by decide +kernel), List.mem_of_getElem? (i := 562) (by decide +kernel)⟩
theorem lw_p34 : lw_okq (⟨"WhoseName", "boundAlready", "([II)I"⟩, 18) := ⟨⟨by decide +kernel, by decide +kernel⟩, List.mem_of_getElem? (i := 13) (by decide +kernel), List.mem_of_getElem? (i := 565) (by decide +kernel), List.mem_of_getElem? (i := 566) (by decide +kernel)⟩
theorem lw_p35 : lw_okq (⟨"WhoseName", "reachedByLetter", "(IIII)I"⟩, 18) := ⟨⟨by decide +kernel, by decide +kernel⟩, List.mem_of_getElem? (i := 13) (by decide +kernel), List.mem_of_getElem? (i := 571) (by decide +kernel), List.mem_of_getElem? (i := 572) (by decide +kernel)⟩
theorem lw_p36 : lw_okq (⟨"WhoseName$Sheet", "lowestBits", "(I)I"⟩, 4) := ⟨⟨by decide +kernel, by decide +kernel⟩, List.mem_of_getElem? (i := 198) (by decide +kernel), List.mem_of_getElem? (i := 602) (by decide +kernel), List.mem_of_getElem? (i := 603) (by decide +kernel)⟩
theorem lw_p37 : lw_okq (⟨"WhoseName", "allOpen", "()I"⟩, 18) := ⟨⟨by decide +kernel, by decide +kernel⟩, List.mem_of_getElem? (i := 13) (by decide +kernel), List.mem_of_getElem? (i := 627) (by decide +kernel), List.mem_of_getElem? (i := 628) (by decide +kernel)⟩
theorem lw_p38 : lw_okq (⟨"WhoseName", "allPurses", "()I"⟩, 18) := ⟨⟨by decide +kernel, by decide +kernel⟩, List.mem_of_getElem? (i := 13) (by decide +kernel), List.mem_of_getElem? (i := 631) (by decide +kernel), List.mem_of_getElem? (i := 632) (by decide +kernel)⟩
theorem lw_p39 : lw_okq (⟨"WhoseName", "digestLaw", "(JLWhoseName$Law;)J"⟩, 18) := ⟨⟨by decide +kernel, by decide +kernel⟩, List.mem_of_getElem? (i := 13) (by decide +kernel), List.mem_of_getElem? (i := 642) (by decide +kernel), List.mem_of_getElem? (i := 643) (by decide +kernel)⟩
theorem lw_p40 : lw_okq (⟨"WhoseNameModel", "met", "(I)I"⟩, 47) := ⟨⟨by decide +kernel, by decide +kernel⟩, List.mem_of_getElem? (i := 646) (by decide +kernel), List.mem_of_getElem? (i := 806) (by decide +kernel), List.mem_of_getElem? (i := 807) (by decide +kernel)⟩
theorem lw_p41 : lw_okq (⟨"WhoseNameModel", "lacks", "(III)I"⟩, 47) := ⟨⟨by decide +kernel, by decide +kernel⟩, List.mem_of_getElem? (i := 646) (by decide +kernel), List.mem_of_getElem? (i := 818) (by decide +kernel), List.mem_of_getElem? (i := 819) (by decide +kernel)⟩
theorem lw_p42 : lw_okq (⟨"WhoseNameModel", "isGiven", "(IIII)Z"⟩, 47) := ⟨⟨by decide +kernel, by decide +kernel⟩, List.mem_of_getElem? (i := 646) (by decide +kernel), List.mem_of_getElem? (i := 847) (by decide +kernel), List.mem_of_getElem? (i := 848) (by decide +kernel)⟩
theorem lw_p43 : lw_okq (⟨"WhoseNameModel", "isLeave", "(I)Z"⟩, 47) := ⟨⟨by decide +kernel, by decide +kernel⟩, List.mem_of_getElem? (i := 646) (by decide +kernel), List.mem_of_getElem? (i := 851) (by decide +kernel), List.mem_of_getElem? (i := 852) (by decide +kernel)⟩
theorem lw_p44 : lw_okq (⟨"WhoseNameModel", "lays", "(IIIIIIII)V"⟩, 47) := ⟨⟨by decide +kernel, by decide +kernel⟩, List.mem_of_getElem? (i := 646) (by decide +kernel), List.mem_of_getElem? (i := 864) (by decide +kernel), List.mem_of_getElem? (i := 865) (by decide +kernel)⟩
theorem lw_p45 : lw_okq (⟨"WhoseNameModel", "isBack", "(I)Z"⟩, 47) := ⟨⟨by decide +kernel, by decide +kernel⟩, List.mem_of_getElem? (i := 646) (by decide +kernel), List.mem_of_getElem? (i := 881) (by decide +kernel), List.mem_of_getElem? (i := 882) (by decide +kernel)⟩
theorem lw_p46 : lw_okq (⟨"WhoseNameModel", "isBargain", "(I)Z"⟩, 47) := ⟨⟨by decide +kernel, by decide +kernel⟩, List.mem_of_getElem? (i := 646) (by decide +kernel), List.mem_of_getElem? (i := 898) (by decide +kernel), List.mem_of_getElem? (i := 899) (by decide +kernel)⟩
theorem lw_p47 : lw_okq (⟨"WhoseNameModel", "reads", "(I)I"⟩, 47) := ⟨⟨by decide +kernel, by decide +kernel⟩, List.mem_of_getElem? (i := 646) (by decide +kernel), List.mem_of_getElem? (i := 919) (by decide +kernel), List.mem_of_getElem? (i := 920) (by decide +kernel)⟩
def lw_privs_3 : List (MethodName × Nat) := [(⟨"WhoseName", "mixLaws", "(I)V"⟩, 18), (⟨"WhoseName", "bargainsBetween", "(II)I"⟩, 18), (⟨"WhoseName", "boundAlready", "([II)I"⟩, 18), (⟨"WhoseName", "reachedByLetter", "(IIII)I"⟩, 18), (⟨"WhoseName$Sheet", "lowestBits", "(I)I"⟩, 4), (⟨"WhoseName", "allOpen", "()I"⟩, 18), (⟨"WhoseName", "allPurses", "()I"⟩, 18), (⟨"WhoseName", "digestLaw", "(JLWhoseName$Law;)J"⟩, 18), (⟨"WhoseNameModel", "met", "(I)I"⟩, 47), (⟨"WhoseNameModel", "lacks", "(III)I"⟩, 47), (⟨"WhoseNameModel", "isGiven", "(IIII)Z"⟩, 47), (⟨"WhoseNameModel", "isLeave", "(I)Z"⟩, 47), (⟨"WhoseNameModel", "lays", "(IIIIIIII)V"⟩, 47), (⟨"WhoseNameModel", "isBack", "(I)Z"⟩, 47), (⟨"WhoseNameModel", "isBargain", "(I)Z"⟩, 47), (⟨"WhoseNameModel", "reads", "(I)I"⟩, 47)]
theorem lw_r3 : ∀ q ∈ lw_privs_3, lw_okq q := List.forall_mem_cons.mpr ⟨lw_p32, List.forall_mem_cons.mpr ⟨lw_p33, List.forall_mem_cons.mpr ⟨lw_p34, List.forall_mem_cons.mpr ⟨lw_p35, List.forall_mem_cons.mpr ⟨lw_p36, List.forall_mem_cons.mpr ⟨lw_p37, List.forall_mem_cons.mpr ⟨lw_p38, List.forall_mem_cons.mpr ⟨lw_p39, List.forall_mem_cons.mpr ⟨lw_p40, List.forall_mem_cons.mpr ⟨lw_p41, List.forall_mem_cons.mpr ⟨lw_p42, List.forall_mem_cons.mpr ⟨lw_p43, List.forall_mem_cons.mpr ⟨lw_p44, List.forall_mem_cons.mpr ⟨lw_p45, List.forall_mem_cons.mpr ⟨lw_p46, List.forall_mem_cons.mpr ⟨lw_p47, fun _ h => absurd h List.not_mem_nil⟩⟩⟩⟩⟩⟩⟩⟩⟩⟩⟩⟩⟩⟩⟩⟩
theorem lw_p48 : lw_okq (⟨"WhoseNameModel", "clears", "(I)V"⟩, 47) := ⟨⟨by decide +kernel, by decide +kernel⟩, List.mem_of_getElem? (i := 646) (by decide +kernel), List.mem_of_getElem? (i := 923) (by decide +kernel), List.mem_of_getElem? (i := 924) (by decide +kernel)⟩
theorem lw_p49 : lw_okq (⟨"WhoseNameModel", "readsPart", "(I)Z"⟩, 47) := ⟨⟨by decide +kernel, by decide +kernel⟩, List.mem_of_getElem? (i := 646) (by decide +kernel), List.mem_of_getElem? (i := 930) (by decide +kernel), List.mem_of_getElem? (i := 931) (by decide +kernel)⟩
theorem lw_p50 : lw_okq (⟨"WhoseNameModel", "here", "(I)I"⟩, 47) := ⟨⟨by decide +kernel, by decide +kernel⟩, List.mem_of_getElem? (i := 646) (by decide +kernel), List.mem_of_getElem? (i := 934) (by decide +kernel), List.mem_of_getElem? (i := 935) (by decide +kernel)⟩
theorem lw_p51 : lw_okq (⟨"WhoseNameModel", "lawOf", "(II)I"⟩, 47) := ⟨⟨by decide +kernel, by decide +kernel⟩, List.mem_of_getElem? (i := 646) (by decide +kernel), List.mem_of_getElem? (i := 951) (by decide +kernel), List.mem_of_getElem? (i := 952) (by decide +kernel)⟩
theorem lw_p52 : lw_okq (⟨"WhoseNameModel", "goes", "(I)V"⟩, 47) := ⟨⟨by decide +kernel, by decide +kernel⟩, List.mem_of_getElem? (i := 646) (by decide +kernel), List.mem_of_getElem? (i := 959) (by decide +kernel), List.mem_of_getElem? (i := 960) (by decide +kernel)⟩
theorem lw_p53 : lw_okq (⟨"WhoseNameModel", "reachesNow", "(II)Z"⟩, 47) := ⟨⟨by decide +kernel, by decide +kernel⟩, List.mem_of_getElem? (i := 646) (by decide +kernel), List.mem_of_getElem? (i := 963) (by decide +kernel), List.mem_of_getElem? (i := 964) (by decide +kernel)⟩
theorem lw_p54 : lw_okq (⟨"WhoseNameModel", "has", "(II)Z"⟩, 47) := ⟨⟨by decide +kernel, by decide +kernel⟩, List.mem_of_getElem? (i := 646) (by decide +kernel), List.mem_of_getElem? (i := 967) (by decide +kernel), List.mem_of_getElem? (i := 968) (by decide +kernel)⟩
theorem lw_p55 : lw_okq (⟨"WhoseNameModel", "limitOf", "(I)I"⟩, 47) := ⟨⟨by decide +kernel, by decide +kernel⟩, List.mem_of_getElem? (i := 646) (by decide +kernel), List.mem_of_getElem? (i := 971) (by decide +kernel), List.mem_of_getElem? (i := 972) (by decide +kernel)⟩
theorem lw_p56 : lw_okq (⟨"WhoseNameModel", "isEnded", "(II)Z"⟩, 47) := ⟨⟨by decide +kernel, by decide +kernel⟩, List.mem_of_getElem? (i := 646) (by decide +kernel), List.mem_of_getElem? (i := 975) (by decide +kernel), List.mem_of_getElem? (i := 976) (by decide +kernel)⟩
theorem lw_p57 : lw_okq (⟨"WhoseNameModel", "boundOf", "(III)I"⟩, 47) := ⟨⟨by decide +kernel, by decide +kernel⟩, List.mem_of_getElem? (i := 646) (by decide +kernel), List.mem_of_getElem? (i := 983) (by decide +kernel), List.mem_of_getElem? (i := 984) (by decide +kernel)⟩
theorem lw_p58 : lw_okq (⟨"WhoseNameModel", "boundNow", "(I)I"⟩, 47) := ⟨⟨by decide +kernel, by decide +kernel⟩, List.mem_of_getElem? (i := 646) (by decide +kernel), List.mem_of_getElem? (i := 987) (by decide +kernel), List.mem_of_getElem? (i := 988) (by decide +kernel)⟩
theorem lw_p59 : lw_okq (⟨"WhoseNameModel", "firstLeave", "(I)I"⟩, 47) := ⟨⟨by decide +kernel, by decide +kernel⟩, List.mem_of_getElem? (i := 646) (by decide +kernel), List.mem_of_getElem? (i := 991) (by decide +kernel), List.mem_of_getElem? (i := 992) (by decide +kernel)⟩
theorem lw_p60 : lw_okq (⟨"WhoseNameModel", "isWell", "(I)Z"⟩, 47) := ⟨⟨by decide +kernel, by decide +kernel⟩, List.mem_of_getElem? (i := 646) (by decide +kernel), List.mem_of_getElem? (i := 995) (by decide +kernel), List.mem_of_getElem? (i := 996) (by decide +kernel)⟩
theorem lw_p61 : lw_okq (⟨"WhoseNameModel", "askNow", "(II)I"⟩, 47) := ⟨⟨by decide +kernel, by decide +kernel⟩, List.mem_of_getElem? (i := 646) (by decide +kernel), List.mem_of_getElem? (i := 1007) (by decide +kernel), List.mem_of_getElem? (i := 1008) (by decide +kernel)⟩
theorem lw_p62 : lw_okq (⟨"WhoseNameModel", "owesOf", "(II)I"⟩, 47) := ⟨⟨by decide +kernel, by decide +kernel⟩, List.mem_of_getElem? (i := 646) (by decide +kernel), List.mem_of_getElem? (i := 1015) (by decide +kernel), List.mem_of_getElem? (i := 1016) (by decide +kernel)⟩
theorem lw_p63 : lw_okq (⟨"WhoseNameModel", "owesNow", "(I)I"⟩, 47) := ⟨⟨by decide +kernel, by decide +kernel⟩, List.mem_of_getElem? (i := 646) (by decide +kernel), List.mem_of_getElem? (i := 1019) (by decide +kernel), List.mem_of_getElem? (i := 1020) (by decide +kernel)⟩
def lw_privs_4 : List (MethodName × Nat) := [(⟨"WhoseNameModel", "clears", "(I)V"⟩, 47), (⟨"WhoseNameModel", "readsPart", "(I)Z"⟩, 47), (⟨"WhoseNameModel", "here", "(I)I"⟩, 47), (⟨"WhoseNameModel", "lawOf", "(II)I"⟩, 47), (⟨"WhoseNameModel", "goes", "(I)V"⟩, 47), (⟨"WhoseNameModel", "reachesNow", "(II)Z"⟩, 47), (⟨"WhoseNameModel", "has", "(II)Z"⟩, 47), (⟨"WhoseNameModel", "limitOf", "(I)I"⟩, 47), (⟨"WhoseNameModel", "isEnded", "(II)Z"⟩, 47), (⟨"WhoseNameModel", "boundOf", "(III)I"⟩, 47), (⟨"WhoseNameModel", "boundNow", "(I)I"⟩, 47), (⟨"WhoseNameModel", "firstLeave", "(I)I"⟩, 47), (⟨"WhoseNameModel", "isWell", "(I)Z"⟩, 47), (⟨"WhoseNameModel", "askNow", "(II)I"⟩, 47), (⟨"WhoseNameModel", "owesOf", "(II)I"⟩, 47), (⟨"WhoseNameModel", "owesNow", "(I)I"⟩, 47)]
theorem lw_r4 : ∀ q ∈ lw_privs_4, lw_okq q := List.forall_mem_cons.mpr ⟨lw_p48, List.forall_mem_cons.mpr ⟨lw_p49, List.forall_mem_cons.mpr ⟨lw_p50, List.forall_mem_cons.mpr ⟨lw_p51, List.forall_mem_cons.mpr ⟨lw_p52, List.forall_mem_cons.mpr ⟨lw_p53, List.forall_mem_cons.mpr ⟨lw_p54, List.forall_mem_cons.mpr ⟨lw_p55, List.forall_mem_cons.mpr ⟨lw_p56, List.forall_mem_cons.mpr ⟨lw_p57, List.forall_mem_cons.mpr ⟨lw_p58, List.forall_mem_cons.mpr ⟨lw_p59, List.forall_mem_cons.mpr ⟨lw_p60, List.forall_mem_cons.mpr ⟨lw_p61, List.forall_mem_cons.mpr ⟨lw_p62, List.forall_mem_cons.mpr ⟨lw_p63, fun _ h => absurd h List.not_mem_nil⟩⟩⟩⟩⟩⟩⟩⟩⟩⟩⟩⟩⟩⟩⟩⟩
theorem lw_p64 : lw_okq (⟨"WhoseNameModel", "findEnd", "(I)V"⟩, 47) := ⟨⟨by decide +kernel, by decide +kernel⟩, List.mem_of_getElem? (i := 646) (by decide +kernel), List.mem_of_getElem? (i := 1027) (by decide +kernel), List.mem_of_getElem? (i := 1028) (by decide +kernel)⟩
theorem lw_p65 : lw_okq (⟨"WhoseNameModel", "settles", "(I)V"⟩, 47) := ⟨⟨by decide +kernel, by decide +kernel⟩, List.mem_of_getElem? (i := 646) (by decide +kernel), List.mem_of_getElem? (i := 1031) (by decide +kernel), List.mem_of_getElem? (i := 1032) (by decide +kernel)⟩
theorem lw_p66 : lw_okq (⟨"WhoseNameModel", "pays", "(III)I"⟩, 47) := ⟨⟨by decide +kernel, by decide +kernel⟩, List.mem_of_getElem? (i := 646) (by decide +kernel), List.mem_of_getElem? (i := 1035) (by decide +kernel), List.mem_of_getElem? (i := 1036) (by decide +kernel)⟩
theorem lw_p67 : lw_okq (⟨"WhoseNameModel", "findWays", "(II)V"⟩, 47) := ⟨⟨by decide +kernel, by decide +kernel⟩, List.mem_of_getElem? (i := 646) (by decide +kernel), List.mem_of_getElem? (i := 1043) (by decide +kernel), List.mem_of_getElem? (i := 1044) (by decide +kernel)⟩
theorem lw_p68 : lw_okq (⟨"WhoseNameModel", "findOpen", "()V"⟩, 47) := ⟨⟨by decide +kernel, by decide +kernel⟩, List.mem_of_getElem? (i := 646) (by decide +kernel), List.mem_of_getElem? (i := 1047) (by decide +kernel), List.mem_of_getElem? (i := 1048) (by decide +kernel)⟩
theorem lw_p69 : lw_okq (⟨"WhoseNameModel", "isEnough", "(I)Z"⟩, 47) := ⟨⟨by decide +kernel, by decide +kernel⟩, List.mem_of_getElem? (i := 646) (by decide +kernel), List.mem_of_getElem? (i := 1062) (by decide +kernel), List.mem_of_getElem? (i := 1063) (by decide +kernel)⟩
theorem lw_p70 : lw_okq (⟨"WhoseNameModel", "turnedOf", "(I)I"⟩, 47) := ⟨⟨by decide +kernel, by decide +kernel⟩, List.mem_of_getElem? (i := 646) (by decide +kernel), List.mem_of_getElem? (i := 1070) (by decide +kernel), List.mem_of_getElem? (i := 1071) (by decide +kernel)⟩
theorem lw_p71 : lw_okq (⟨"WhoseNameModel", "isOfBoth", "(III)Z"⟩, 47) := ⟨⟨by decide +kernel, by decide +kernel⟩, List.mem_of_getElem? (i := 646) (by decide +kernel), List.mem_of_getElem? (i := 1078) (by decide +kernel), List.mem_of_getElem? (i := 1079) (by decide +kernel)⟩
theorem lw_p72 : lw_okq (⟨"WhoseNameModel", "isJust", "(IIII)Z"⟩, 47) := ⟨⟨by decide +kernel, by decide +kernel⟩, List.mem_of_getElem? (i := 646) (by decide +kernel), List.mem_of_getElem? (i := 1082) (by decide +kernel), List.mem_of_getElem? (i := 1083) (by decide +kernel)⟩
def lw_privs_5 : List (MethodName × Nat) := [(⟨"WhoseNameModel", "findEnd", "(I)V"⟩, 47), (⟨"WhoseNameModel", "settles", "(I)V"⟩, 47), (⟨"WhoseNameModel", "pays", "(III)I"⟩, 47), (⟨"WhoseNameModel", "findWays", "(II)V"⟩, 47), (⟨"WhoseNameModel", "findOpen", "()V"⟩, 47), (⟨"WhoseNameModel", "isEnough", "(I)Z"⟩, 47), (⟨"WhoseNameModel", "turnedOf", "(I)I"⟩, 47), (⟨"WhoseNameModel", "isOfBoth", "(III)Z"⟩, 47), (⟨"WhoseNameModel", "isJust", "(IIII)Z"⟩, 47)]
theorem lw_r5 : ∀ q ∈ lw_privs_5, lw_okq q := List.forall_mem_cons.mpr ⟨lw_p64, List.forall_mem_cons.mpr ⟨lw_p65, List.forall_mem_cons.mpr ⟨lw_p66, List.forall_mem_cons.mpr ⟨lw_p67, List.forall_mem_cons.mpr ⟨lw_p68, List.forall_mem_cons.mpr ⟨lw_p69, List.forall_mem_cons.mpr ⟨lw_p70, List.forall_mem_cons.mpr ⟨lw_p71, List.forall_mem_cons.mpr ⟨lw_p72, fun _ h => absurd h List.not_mem_nil⟩⟩⟩⟩⟩⟩⟩⟩⟩
def lw_privs : List (MethodName × Nat) := lw_privs_1 ++ (lw_privs_2 ++ (lw_privs_3 ++ (lw_privs_4 ++ (lw_privs_5))))
def lw_tbl : List Cond := k2_sels lw_privs ++ tables_1
theorem lw_privs_ok : ∀ q ∈ lw_privs, lw_okq q := by
  show ∀ q ∈ lw_privs_1 ++ (lw_privs_2 ++ (lw_privs_3 ++ (lw_privs_4 ++ (lw_privs_5)))), lw_okq q
  exact List.forall_mem_append.mpr ⟨lw_r1, List.forall_mem_append.mpr ⟨lw_r2, List.forall_mem_append.mpr ⟨lw_r3, List.forall_mem_append.mpr ⟨lw_r4, lw_r5⟩⟩⟩⟩
-- ===== end of PART A; then your names; then what follows =====
end
section
/-! ===== my base: a heap of whole numbers over a fixed shape, and one judgement for a method's frame ===== -/
def nv_gt : List Cond := lw_tbl.filter goodWord
theorem nv_gt_good : GoodIn nv_gt nv_gt := fun w h => ⟨h, good_of_word (List.mem_filter.mp h).2⟩
theorem nv_gt_of {w : Cond} (i : Nat) (h : lw_tbl[i]? = some w) (hg : goodWord w = true) : w ∈ nv_gt := List.mem_filter.mpr ⟨List.mem_of_getElem? h, hg⟩
theorem nv_gt_tbl {w : Cond} (h : w ∈ nv_gt) : w ∈ lw_tbl := (List.mem_filter.mp h).1
/-- a method: its name, its bytes, its locals, what it answers -/
abbrev nv_MI : Type := MethodName × ByteArray × Nat × Option FieldType
abbrev nv_Hp : Type := Nat → Nat → Int32
abbrev nv_Zp : Type := Nat → Nat → Bool
abbrev nv_Sg : Type := nv_Hp × nv_Zp × Nat
abbrev nv_R : Type := Option Value × nv_Sg
/-- what is fixed: launch, class numbers, array classes, the places of statics and of the script, the script -/
abbrev nv_G : Type := Launch × va_G × (Nat → ClassId) × (Nat → Nat) × Nat × (Nat → Int32)
def nv_cV (ad : Nat → Nat) : Value → Value
  | .ref k => .ref (ad k)
  | v => v
theorem nv_cV_int (ad : Nat → Nat) (x : Int32) : nv_cV ad (.int x) = .int x := rfl
theorem nv_cV_long (ad : Nat → Nat) (x : Int64) : nv_cV ad (.long x) = .long x := rfl
theorem nv_cV_ref (ad : Nat → Nat) (k : Nat) : nv_cV ad (.ref k) = .ref (ad k) := rfl
theorem nv_cV_cat (ad : Nat → Nat) (v : Value) : (nv_cV ad v).category = v.category := by cases v <;> rfl
/-- shapes: an array of ints; an array of references to places b, b + w, ..; an object: its class, its fields (ints, or the place that a reference names) -/
abbrev nv_Sh : Type := (Nat × Option (Nat × Nat × Nat)) ⊕ (Nat × List (Option Nat))
def nv_fv (ad : Nat → Nat) (h : nv_Hp) (z : nv_Zp) (k : Nat) : Nat → List (Option Nat) → List Value
  | _, [] => []
  | j, none :: t => .int (h k j) :: nv_fv ad h z k (j + 1) t
  | j, some r :: t => (if z k j = true then .ref (ad r) else .null) :: nv_fv ad h z k (j + 1) t
def nv_ce (ad : Nat → Nat) (cA : Nat → ClassId) (h : nv_Hp) (z : nv_Zp) (k : Nat) : nv_Sh → va_E
  | .inl (n, none) => .inl (cA 0, n, .inl (h k))
  | .inl (n, some (t, b, w)) => .inl (cA t, n, .inr (.inr (.inr (.inr (fun i => if z k i = true then some (ad (b + w * i)) else none)))))
  | .inr (ci, fl) => .inr (ci, nv_fv ad h z k 0 fl)
def nv_up (h : nv_Hp) (k j : Nat) (v : Int32) : nv_Hp := fun a b => if a = k ∧ b = j then v else h a b
def nv_uz (z : nv_Zp) (k j : Nat) : nv_Zp := fun a b => if a = k ∧ b = j then true else z a b
theorem nv_up_s (h : nv_Hp) (k j : Nat) (v : Int32) : nv_up h k j v k j = v := if_pos ⟨rfl, rfl⟩
theorem nv_up_k (h : nv_Hp) {k j a b : Nat} (v : Int32) (hn : a ≠ k) : nv_up h k j v a b = h a b := if_neg (fun q => hn q.1)
theorem nv_up_j (h : nv_Hp) {k j a b : Nat} (v : Int32) (hn : b ≠ j) : nv_up h k j v a b = h a b := if_neg (fun q => hn q.2)
theorem nv_fv_get (ad : Nat → Nat) (h : nv_Hp) (z : nv_Zp) (k : Nat) : ∀ (fl : List (Option Nat)) (j i : Nat), (nv_fv ad h z k j fl)[i]? = (fl[i]?).map (fun o => match o with | none => .int (h k (j + i)) | some r => if z k (j + i) = true then .ref (ad r) else .null)
  | [], j, i => by simp [nv_fv]
  | none :: t, j, 0 => by simp [nv_fv]
  | some r :: t, j, 0 => by simp [nv_fv]
  | none :: t, j, i + 1 => by
    simp only [nv_fv, List.getElem?_cons_succ]
    rw [nv_fv_get ad h z k t (j + 1) i]
    simp only [Nat.add_assoc, Nat.add_comm 1 i]
  | some r :: t, j, i + 1 => by
    simp only [nv_fv, List.getElem?_cons_succ]
    rw [nv_fv_get ad h z k t (j + 1) i]
    simp only [Nat.add_assoc, Nat.add_comm 1 i]
theorem nv_fv_len (ad : Nat → Nat) (h : nv_Hp) (z : nv_Zp) (k : Nat) : ∀ (fl : List (Option Nat)) (j : Nat), (nv_fv ad h z k j fl).length = fl.length
  | [], j => rfl
  | none :: t, j => by simp [nv_fv, nv_fv_len ad h z k t]
  | some r :: t, j => by simp [nv_fv, nv_fv_len ad h z k t]
theorem nv_fv_int {ad : Nat → Nat} {h : nv_Hp} {z : nv_Zp} {k j : Nat} {fl : List (Option Nat)} (hj : fl[j]? = some none) : (nv_fv ad h z k 0 fl)[j]? = some (.int (h k j)) := by
  rw [nv_fv_get, hj]; simp
theorem nv_fv_ref {ad : Nat → Nat} {h : nv_Hp} {z : nv_Zp} {k j r : Nat} {fl : List (Option Nat)} (hj : fl[j]? = some (some r)) (hz : z k j = true) : (nv_fv ad h z k 0 fl)[j]? = some (.ref (ad r)) := by
  rw [nv_fv_get, hj]; simp [hz]
theorem nv_fv_set {ad : Nat → Nat} {h : nv_Hp} {z : nv_Zp} {k j : Nat} {fl : List (Option Nat)} {v : Int32} (hj : fl[j]? = some none) : (nv_fv ad h z k 0 fl).set j (.int v) = nv_fv ad (nv_up h k j v) z k 0 fl := by
  apply List.ext_getElem?
  intro i
  have hl : j < fl.length := (List.getElem?_eq_some_iff.mp hj).1
  by_cases hi : i = j
  · subst hi
    rw [List.getElem?_set_self (by rw [nv_fv_len]; exact hl), nv_fv_int hj, nv_up_s]
  · rw [List.getElem?_set_ne (Ne.symm hi), nv_fv_get, nv_fv_get]
    simp only [Nat.zero_add]
    rw [nv_up_j h v hi]
theorem nv_fv_setr {ad : Nat → Nat} {h : nv_Hp} {z : nv_Zp} {k j r : Nat} {fl : List (Option Nat)} (hj : fl[j]? = some (some r)) : (nv_fv ad h z k 0 fl).set j (.ref (ad r)) = nv_fv ad h (nv_uz z k j) k 0 fl := by
  apply List.ext_getElem?
  intro i
  have hl : j < fl.length := (List.getElem?_eq_some_iff.mp hj).1
  by_cases hi : i = j
  · subst hi
    rw [List.getElem?_set_self (by rw [nv_fv_len]; exact hl), nv_fv_ref hj (by simp [nv_uz])]
  · rw [List.getElem?_set_ne (Ne.symm hi), nv_fv_get, nv_fv_get]
    simp [nv_uz, hi]
theorem nv_fv_cong {ad ad' : Nat → Nat} {h h' : nv_Hp} {z z' : nv_Zp} {k : Nat} : ∀ (fl : List (Option Nat)) (j : Nat), (∀ i, h' k i = h k i) → (∀ i, z' k i = z k i) → (∀ r, some r ∈ fl → ad' r = ad r) → nv_fv ad' h' z' k j fl = nv_fv ad h z k j fl
  | [], j, _, _, _ => rfl
  | none :: t, j, h1, h2, h3 => by simp only [nv_fv]; rw [h1, nv_fv_cong t (j + 1) h1 h2 (fun r hr => h3 r (List.mem_cons_of_mem _ hr))]
  | some r :: t, j, h1, h2, h3 => by simp only [nv_fv]; rw [h2, h3 r List.mem_cons_self, nv_fv_cong t (j + 1) h1 h2 (fun r hr => h3 r (List.mem_cons_of_mem _ hr))]
theorem nv_ce_cong {ad : Nat → Nat} {cA : Nat → ClassId} {h h' : nv_Hp} {z z' : nv_Zp} {k : Nat} (e : nv_Sh) (h1 : ∀ i, h' k i = h k i) (h2 : ∀ i, z' k i = z k i) : nv_ce ad cA h' z' k e = nv_ce ad cA h z k e := by
  have e1 : h' k = h k := funext h1
  have e2 : z' k = z k := funext h2
  rcases e with ⟨n, _ | ⟨t, b, w⟩⟩ | ⟨ci, fl⟩
  · simp only [nv_ce, e1]
  · simp only [nv_ce, e2]
  · simp only [nv_ce]; rw [nv_fv_cong fl 0 h1 h2 (fun _ _ => rfl)]
end
section
def nvT0 : u_T := fun k => match k with
  | 0 => ("WhoseName$After", "bargain", "I", false)
  | 1 => ("WhoseName$After", "person", "I", false)
  | 2 => ("WhoseName$After", "day", "I", false)
  | 3 => ("WhoseName$After", "well", "I", false)
  | _ => ("WhoseName$After", "much", "I", false)
def nvY0 : Nat → FieldType := fun k => match k with
  | 0 => .int
  | 1 => .int
  | 2 => .int
  | 3 => .int
  | _ => .int
theorem nvN0 : ∀ a, a < 5 → ∀ b, b < 5 → a ≠ b → (nvT0 a).2.1 ≠ (nvT0 b).2.1 := by decide +kernel
theorem nvYk0 : ∀ k, k < 5 → parseFieldDescriptor (nvT0 k).2.2.1 = some (nvY0 k) := by decide +kernel
theorem nvW0_0 : u_lay "WhoseName$After" nvT0 0 ∈ nv_gt := nv_gt_of 199 (by decide +kernel) (by decide +kernel)
theorem nvW0_1 : u_lay "WhoseName$After" nvT0 1 ∈ nv_gt := nv_gt_of 201 (by decide +kernel) (by decide +kernel)
theorem nvW0_2 : u_lay "WhoseName$After" nvT0 2 ∈ nv_gt := nv_gt_of 203 (by decide +kernel) (by decide +kernel)
theorem nvW0_3 : u_lay "WhoseName$After" nvT0 3 ∈ nv_gt := nv_gt_of 205 (by decide +kernel) (by decide +kernel)
theorem nvW0_4 : u_lay "WhoseName$After" nvT0 4 ∈ nv_gt := nv_gt_of 207 (by decide +kernel) (by decide +kernel)
theorem nvW0 : ∀ w ∈ u_ws "WhoseName$After" nvT0 5, w ∈ nv_gt := by
  intro w hw
  obtain ⟨k, hk, rfl⟩ := List.mem_map.mp hw
  have hk := List.mem_range.mp hk
  match k, hk with
  | 0, _ => exact nvW0_0
  | 1, _ => exact nvW0_1
  | 2, _ => exact nvW0_2
  | 3, _ => exact nvW0_3
  | 4, _ => exact nvW0_4
  | n + 5, h => exact absurd h (by omega)
def nvT1 : u_T := fun k => match k with
  | 0 => ("WhoseName$Back", "leave", "I", false)
  | 1 => ("WhoseName$Back", "sent", "I", false)
  | 2 => ("WhoseName$Back", "person", "I", false)
  | _ => ("WhoseName$Back", "hearing", "I", false)
def nvY1 : Nat → FieldType := fun k => match k with
  | 0 => .int
  | 1 => .int
  | 2 => .int
  | _ => .int
theorem nvN1 : ∀ a, a < 4 → ∀ b, b < 4 → a ≠ b → (nvT1 a).2.1 ≠ (nvT1 b).2.1 := by decide +kernel
theorem nvYk1 : ∀ k, k < 4 → parseFieldDescriptor (nvT1 k).2.2.1 = some (nvY1 k) := by decide +kernel
theorem nvW1_0 : u_lay "WhoseName$Back" nvT1 0 ∈ nv_gt := nv_gt_of 151 (by decide +kernel) (by decide +kernel)
theorem nvW1_1 : u_lay "WhoseName$Back" nvT1 1 ∈ nv_gt := nv_gt_of 153 (by decide +kernel) (by decide +kernel)
theorem nvW1_2 : u_lay "WhoseName$Back" nvT1 2 ∈ nv_gt := nv_gt_of 155 (by decide +kernel) (by decide +kernel)
theorem nvW1_3 : u_lay "WhoseName$Back" nvT1 3 ∈ nv_gt := nv_gt_of 157 (by decide +kernel) (by decide +kernel)
theorem nvW1 : ∀ w ∈ u_ws "WhoseName$Back" nvT1 4, w ∈ nv_gt := by
  intro w hw
  obtain ⟨k, hk, rfl⟩ := List.mem_map.mp hw
  have hk := List.mem_range.mp hk
  match k, hk with
  | 0, _ => exact nvW1_0
  | 1, _ => exact nvW1_1
  | 2, _ => exact nvW1_2
  | 3, _ => exact nvW1_3
  | n + 4, h => exact absurd h (by omega)
def nvT2 : u_T := fun k => match k with
  | 0 => ("WhoseName$Bargain", "number", "I", false)
  | 1 => ("WhoseName$Bargain", "doer", "I", false)
  | 2 => ("WhoseName$Bargain", "named", "I", false)
  | 3 => ("WhoseName$Bargain", "other", "I", false)
  | 4 => ("WhoseName$Bargain", "sort", "I", false)
  | 5 => ("WhoseName$Bargain", "worth", "I", false)
  | _ => ("WhoseName$Bargain", "day", "I", false)
def nvY2 : Nat → FieldType := fun k => match k with
  | 0 => .int
  | 1 => .int
  | 2 => .int
  | 3 => .int
  | 4 => .int
  | 5 => .int
  | _ => .int
theorem nvN2 : ∀ a, a < 7 → ∀ b, b < 7 → a ≠ b → (nvT2 a).2.1 ≠ (nvT2 b).2.1 := by decide +kernel
theorem nvYk2 : ∀ k, k < 7 → parseFieldDescriptor (nvT2 k).2.2.1 = some (nvY2 k) := by decide +kernel
theorem nvW2_0 : u_lay "WhoseName$Bargain" nvT2 0 ∈ nv_gt := nv_gt_of 174 (by decide +kernel) (by decide +kernel)
theorem nvW2_1 : u_lay "WhoseName$Bargain" nvT2 1 ∈ nv_gt := nv_gt_of 176 (by decide +kernel) (by decide +kernel)
theorem nvW2_2 : u_lay "WhoseName$Bargain" nvT2 2 ∈ nv_gt := nv_gt_of 178 (by decide +kernel) (by decide +kernel)
theorem nvW2_3 : u_lay "WhoseName$Bargain" nvT2 3 ∈ nv_gt := nv_gt_of 180 (by decide +kernel) (by decide +kernel)
theorem nvW2_4 : u_lay "WhoseName$Bargain" nvT2 4 ∈ nv_gt := nv_gt_of 182 (by decide +kernel) (by decide +kernel)
theorem nvW2_5 : u_lay "WhoseName$Bargain" nvT2 5 ∈ nv_gt := nv_gt_of 184 (by decide +kernel) (by decide +kernel)
theorem nvW2_6 : u_lay "WhoseName$Bargain" nvT2 6 ∈ nv_gt := nv_gt_of 186 (by decide +kernel) (by decide +kernel)
theorem nvW2 : ∀ w ∈ u_ws "WhoseName$Bargain" nvT2 7, w ∈ nv_gt := by
  intro w hw
  obtain ⟨k, hk, rfl⟩ := List.mem_map.mp hw
  have hk := List.mem_range.mp hk
  match k, hk with
  | 0, _ => exact nvW2_0
  | 1, _ => exact nvW2_1
  | 2, _ => exact nvW2_2
  | 3, _ => exact nvW2_3
  | 4, _ => exact nvW2_4
  | 5, _ => exact nvW2_5
  | 6, _ => exact nvW2_6
  | n + 7, h => exact absurd h (by omega)
def nvT3 : u_T := fun k => match k with
  | 0 => ("WhoseName$Law", "bytes", "[I", true)
  | 1 => ("WhoseName$Law", "words", "[I", true)
  | 2 => ("WhoseName$Law", "size", "I", false)
  | _ => ("WhoseName$Law", "faultPlace", "I", false)
def nvY3 : Nat → FieldType := fun k => match k with
  | 0 => .array .int
  | 1 => .array .int
  | 2 => .int
  | _ => .int
theorem nvN3 : ∀ a, a < 4 → ∀ b, b < 4 → a ≠ b → (nvT3 a).2.1 ≠ (nvT3 b).2.1 := by decide +kernel
theorem nvYk3 : ∀ k, k < 4 → parseFieldDescriptor (nvT3 k).2.2.1 = some (nvY3 k) := by decide +kernel
theorem nvW3_0 : u_lay "WhoseName$Law" nvT3 0 ∈ nv_gt := nv_gt_of 262 (by decide +kernel) (by decide +kernel)
theorem nvW3_1 : u_lay "WhoseName$Law" nvT3 1 ∈ nv_gt := nv_gt_of 264 (by decide +kernel) (by decide +kernel)
theorem nvW3_2 : u_lay "WhoseName$Law" nvT3 2 ∈ nv_gt := nv_gt_of 266 (by decide +kernel) (by decide +kernel)
theorem nvW3_3 : u_lay "WhoseName$Law" nvT3 3 ∈ nv_gt := nv_gt_of 268 (by decide +kernel) (by decide +kernel)
theorem nvW3 : ∀ w ∈ u_ws "WhoseName$Law" nvT3 4, w ∈ nv_gt := by
  intro w hw
  obtain ⟨k, hk, rfl⟩ := List.mem_map.mp hw
  have hk := List.mem_range.mp hk
  match k, hk with
  | 0, _ => exact nvW3_0
  | 1, _ => exact nvW3_1
  | 2, _ => exact nvW3_2
  | 3, _ => exact nvW3_3
  | n + 4, h => exact absurd h (by omega)
def nvT4 : u_T := fun k => match k with
  | 0 => ("WhoseName$Leave", "form", "I", false)
  | 1 => ("WhoseName$Leave", "giver", "I", false)
  | 2 => ("WhoseName$Leave", "holder", "I", false)
  | 3 => ("WhoseName$Leave", "more", "I", false)
  | 4 => ("WhoseName$Leave", "sorts", "I", false)
  | 5 => ("WhoseName$Leave", "limit", "I", false)
  | 6 => ("WhoseName$Leave", "first", "I", false)
  | 7 => ("WhoseName$Leave", "last", "I", false)
  | 8 => ("WhoseName$Leave", "root", "I", false)
  | _ => ("WhoseName$Leave", "passes", "I", false)
def nvY4 : Nat → FieldType := fun k => match k with
  | 0 => .int
  | 1 => .int
  | 2 => .int
  | 3 => .int
  | 4 => .int
  | 5 => .int
  | 6 => .int
  | 7 => .int
  | 8 => .int
  | _ => .int
theorem nvN4 : ∀ a, a < 10 → ∀ b, b < 10 → a ≠ b → (nvT4 a).2.1 ≠ (nvT4 b).2.1 := by decide +kernel
theorem nvYk4 : ∀ k, k < 10 → parseFieldDescriptor (nvT4 k).2.2.1 = some (nvY4 k) := by decide +kernel
theorem nvW4_0 : u_lay "WhoseName$Leave" nvT4 0 ∈ nv_gt := nv_gt_of 120 (by decide +kernel) (by decide +kernel)
theorem nvW4_1 : u_lay "WhoseName$Leave" nvT4 1 ∈ nv_gt := nv_gt_of 122 (by decide +kernel) (by decide +kernel)
theorem nvW4_2 : u_lay "WhoseName$Leave" nvT4 2 ∈ nv_gt := nv_gt_of 124 (by decide +kernel) (by decide +kernel)
theorem nvW4_3 : u_lay "WhoseName$Leave" nvT4 3 ∈ nv_gt := nv_gt_of 126 (by decide +kernel) (by decide +kernel)
theorem nvW4_4 : u_lay "WhoseName$Leave" nvT4 4 ∈ nv_gt := nv_gt_of 128 (by decide +kernel) (by decide +kernel)
theorem nvW4_5 : u_lay "WhoseName$Leave" nvT4 5 ∈ nv_gt := nv_gt_of 130 (by decide +kernel) (by decide +kernel)
theorem nvW4_6 : u_lay "WhoseName$Leave" nvT4 6 ∈ nv_gt := nv_gt_of 132 (by decide +kernel) (by decide +kernel)
theorem nvW4_7 : u_lay "WhoseName$Leave" nvT4 7 ∈ nv_gt := nv_gt_of 134 (by decide +kernel) (by decide +kernel)
theorem nvW4_8 : u_lay "WhoseName$Leave" nvT4 8 ∈ nv_gt := nv_gt_of 136 (by decide +kernel) (by decide +kernel)
theorem nvW4_9 : u_lay "WhoseName$Leave" nvT4 9 ∈ nv_gt := nv_gt_of 138 (by decide +kernel) (by decide +kernel)
theorem nvW4 : ∀ w ∈ u_ws "WhoseName$Leave" nvT4 10, w ∈ nv_gt := by
  intro w hw
  obtain ⟨k, hk, rfl⟩ := List.mem_map.mp hw
  have hk := List.mem_range.mp hk
  match k, hk with
  | 0, _ => exact nvW4_0
  | 1, _ => exact nvW4_1
  | 2, _ => exact nvW4_2
  | 3, _ => exact nvW4_3
  | 4, _ => exact nvW4_4
  | 5, _ => exact nvW4_5
  | 6, _ => exact nvW4_6
  | 7, _ => exact nvW4_7
  | 8, _ => exact nvW4_8
  | 9, _ => exact nvW4_9
  | n + 10, h => exact absurd h (by omega)
def nvT5 : u_T := fun k => match k with
  | 0 => ("WhoseName$Sheet", "items", "[I", true)
  | 1 => ("WhoseName$Sheet", "isLost", "Z", false)
  | 2 => ("WhoseName$Sheet", "kind", "I", false)
  | _ => ("WhoseName$Sheet", "size", "I", false)
def nvY5 : Nat → FieldType := fun k => match k with
  | 0 => .array .int
  | 1 => .boolean
  | 2 => .int
  | _ => .int
theorem nvN5 : ∀ a, a < 4 → ∀ b, b < 4 → a ≠ b → (nvT5 a).2.1 ≠ (nvT5 b).2.1 := by decide +kernel
theorem nvYk5 : ∀ k, k < 4 → parseFieldDescriptor (nvT5 k).2.2.1 = some (nvY5 k) := by decide +kernel
theorem nvW5_0 : u_lay "WhoseName$Sheet" nvT5 0 ∈ nv_gt := nv_gt_of 284 (by decide +kernel) (by decide +kernel)
theorem nvW5_1 : u_lay "WhoseName$Sheet" nvT5 1 ∈ nv_gt := nv_gt_of 286 (by decide +kernel) (by decide +kernel)
theorem nvW5_2 : u_lay "WhoseName$Sheet" nvT5 2 ∈ nv_gt := nv_gt_of 288 (by decide +kernel) (by decide +kernel)
theorem nvW5_3 : u_lay "WhoseName$Sheet" nvT5 3 ∈ nv_gt := nv_gt_of 290 (by decide +kernel) (by decide +kernel)
theorem nvW5 : ∀ w ∈ u_ws "WhoseName$Sheet" nvT5 4, w ∈ nv_gt := by
  intro w hw
  obtain ⟨k, hk, rfl⟩ := List.mem_map.mp hw
  have hk := List.mem_range.mp hk
  match k, hk with
  | 0, _ => exact nvW5_0
  | 1, _ => exact nvW5_1
  | 2, _ => exact nvW5_2
  | 3, _ => exact nvW5_3
  | n + 4, h => exact absurd h (by omega)
def nvT6 : u_T := fun k => match k with
  | 0 => ("WhoseName", "purses", "[I", true)
  | 1 => ("WhoseName", "leaves", "[LWhoseName$Leave;", true)
  | 2 => ("WhoseName", "backs", "[LWhoseName$Back;", true)
  | 3 => ("WhoseName", "bargains", "[LWhoseName$Bargain;", true)
  | 4 => ("WhoseName", "afters", "[LWhoseName$After;", true)
  | 5 => ("WhoseName", "laws", "[LWhoseName$Law;", true)
  | 6 => ("WhoseName", "sheets", "[LWhoseName$Sheet;", true)
  | 7 => ("WhoseName", "leaveCount", "I", false)
  | 8 => ("WhoseName", "backCount", "I", false)
  | 9 => ("WhoseName", "bargainCount", "I", false)
  | 10 => ("WhoseName", "afterCount", "I", false)
  | 11 => ("WhoseName", "latestFinding", "I", false)
  | 12 => ("WhoseName", "endPurses", "[I", true)
  | 13 => ("WhoseName", "endLost", "[I", true)
  | 14 => ("WhoseName", "mixedWords", "[I", true)
  | 15 => ("WhoseName", "openBacks", "[I", true)
  | 16 => ("WhoseName", "boundByWay", "[I", true)
  | _ => ("WhoseName", "openCount", "I", false)
def nvY6 : Nat → FieldType := fun k => match k with
  | 0 => .array .int
  | 1 => .array (.object "WhoseName$Leave")
  | 2 => .array (.object "WhoseName$Back")
  | 3 => .array (.object "WhoseName$Bargain")
  | 4 => .array (.object "WhoseName$After")
  | 5 => .array (.object "WhoseName$Law")
  | 6 => .array (.object "WhoseName$Sheet")
  | 7 => .int
  | 8 => .int
  | 9 => .int
  | 10 => .int
  | 11 => .int
  | 12 => .array .int
  | 13 => .array .int
  | 14 => .array .int
  | 15 => .array .int
  | 16 => .array .int
  | _ => .int
theorem nvN6 : ∀ a, a < 18 → ∀ b, b < 18 → a ≠ b → (nvT6 a).2.1 ≠ (nvT6 b).2.1 := by decide +kernel
theorem nvYk6 : ∀ k, k < 18 → parseFieldDescriptor (nvT6 k).2.2.1 = some (nvY6 k) := by decide +kernel
theorem nvW6_0 : u_lay "WhoseName" nvT6 0 ∈ nv_gt := nv_gt_of 311 (by decide +kernel) (by decide +kernel)
theorem nvW6_1 : u_lay "WhoseName" nvT6 1 ∈ nv_gt := nv_gt_of 313 (by decide +kernel) (by decide +kernel)
theorem nvW6_2 : u_lay "WhoseName" nvT6 2 ∈ nv_gt := nv_gt_of 315 (by decide +kernel) (by decide +kernel)
theorem nvW6_3 : u_lay "WhoseName" nvT6 3 ∈ nv_gt := nv_gt_of 317 (by decide +kernel) (by decide +kernel)
theorem nvW6_4 : u_lay "WhoseName" nvT6 4 ∈ nv_gt := nv_gt_of 319 (by decide +kernel) (by decide +kernel)
theorem nvW6_5 : u_lay "WhoseName" nvT6 5 ∈ nv_gt := nv_gt_of 321 (by decide +kernel) (by decide +kernel)
theorem nvW6_6 : u_lay "WhoseName" nvT6 6 ∈ nv_gt := nv_gt_of 323 (by decide +kernel) (by decide +kernel)
theorem nvW6_7 : u_lay "WhoseName" nvT6 7 ∈ nv_gt := nv_gt_of 325 (by decide +kernel) (by decide +kernel)
theorem nvW6_8 : u_lay "WhoseName" nvT6 8 ∈ nv_gt := nv_gt_of 327 (by decide +kernel) (by decide +kernel)
theorem nvW6_9 : u_lay "WhoseName" nvT6 9 ∈ nv_gt := nv_gt_of 329 (by decide +kernel) (by decide +kernel)
theorem nvW6_10 : u_lay "WhoseName" nvT6 10 ∈ nv_gt := nv_gt_of 331 (by decide +kernel) (by decide +kernel)
theorem nvW6_11 : u_lay "WhoseName" nvT6 11 ∈ nv_gt := nv_gt_of 333 (by decide +kernel) (by decide +kernel)
theorem nvW6_12 : u_lay "WhoseName" nvT6 12 ∈ nv_gt := nv_gt_of 335 (by decide +kernel) (by decide +kernel)
theorem nvW6_13 : u_lay "WhoseName" nvT6 13 ∈ nv_gt := nv_gt_of 337 (by decide +kernel) (by decide +kernel)
theorem nvW6_14 : u_lay "WhoseName" nvT6 14 ∈ nv_gt := nv_gt_of 339 (by decide +kernel) (by decide +kernel)
theorem nvW6_15 : u_lay "WhoseName" nvT6 15 ∈ nv_gt := nv_gt_of 341 (by decide +kernel) (by decide +kernel)
theorem nvW6_16 : u_lay "WhoseName" nvT6 16 ∈ nv_gt := nv_gt_of 343 (by decide +kernel) (by decide +kernel)
theorem nvW6_17 : u_lay "WhoseName" nvT6 17 ∈ nv_gt := nv_gt_of 345 (by decide +kernel) (by decide +kernel)
theorem nvW6 : ∀ w ∈ u_ws "WhoseName" nvT6 18, w ∈ nv_gt := by
  intro w hw
  obtain ⟨k, hk, rfl⟩ := List.mem_map.mp hw
  have hk := List.mem_range.mp hk
  match k, hk with
  | 0, _ => exact nvW6_0
  | 1, _ => exact nvW6_1
  | 2, _ => exact nvW6_2
  | 3, _ => exact nvW6_3
  | 4, _ => exact nvW6_4
  | 5, _ => exact nvW6_5
  | 6, _ => exact nvW6_6
  | 7, _ => exact nvW6_7
  | 8, _ => exact nvW6_8
  | 9, _ => exact nvW6_9
  | 10, _ => exact nvW6_10
  | 11, _ => exact nvW6_11
  | 12, _ => exact nvW6_12
  | 13, _ => exact nvW6_13
  | 14, _ => exact nvW6_14
  | 15, _ => exact nvW6_15
  | 16, _ => exact nvW6_16
  | 17, _ => exact nvW6_17
  | n + 18, h => exact absurd h (by omega)
def nvT7 : u_T := fun k => match k with
  | 0 => ("WhoseNameModel", "forms", "[I", true)
  | 1 => ("WhoseNameModel", "sizes", "[I", true)
  | 2 => ("WhoseNameModel", "items", "[I", true)
  | 3 => ("WhoseNameModel", "moved", "[I", true)
  | 4 => ("WhoseNameModel", "latest", "I", false)
  | 5 => ("WhoseNameModel", "purses", "[I", true)
  | 6 => ("WhoseNameModel", "leaves", "I", false)
  | 7 => ("WhoseNameModel", "leaveForm", "[I", true)
  | 8 => ("WhoseNameModel", "leaveGiver", "[I", true)
  | 9 => ("WhoseNameModel", "leaveHolder", "[I", true)
  | 10 => ("WhoseNameModel", "leaveMore", "[I", true)
  | 11 => ("WhoseNameModel", "leaveSorts", "[I", true)
  | 12 => ("WhoseNameModel", "leaveLimit", "[I", true)
  | 13 => ("WhoseNameModel", "leaveFirst", "[I", true)
  | 14 => ("WhoseNameModel", "leaveLast", "[I", true)
  | 15 => ("WhoseNameModel", "leaveRoot", "[I", true)
  | 16 => ("WhoseNameModel", "leavePassed", "[I", true)
  | 17 => ("WhoseNameModel", "backs", "I", false)
  | 18 => ("WhoseNameModel", "backLeave", "[I", true)
  | 19 => ("WhoseNameModel", "backSent", "[I", true)
  | 20 => ("WhoseNameModel", "backPerson", "[I", true)
  | 21 => ("WhoseNameModel", "backHeard", "[I", true)
  | 22 => ("WhoseNameModel", "hears", "[I", true)
  | 23 => ("WhoseNameModel", "bargains", "I", false)
  | 24 => ("WhoseNameModel", "doers", "[I", true)
  | 25 => ("WhoseNameModel", "nameds", "[I", true)
  | 26 => ("WhoseNameModel", "others", "[I", true)
  | 27 => ("WhoseNameModel", "sorts", "[I", true)
  | 28 => ("WhoseNameModel", "worths", "[I", true)
  | 29 => ("WhoseNameModel", "days", "[I", true)
  | 30 => ("WhoseNameModel", "afters", "I", false)
  | 31 => ("WhoseNameModel", "afterOf", "[I", true)
  | 32 => ("WhoseNameModel", "afterBy", "[I", true)
  | 33 => ("WhoseNameModel", "afterDay", "[I", true)
  | 34 => ("WhoseNameModel", "afterWell", "[I", true)
  | 35 => ("WhoseNameModel", "afterMuch", "[I", true)
  | 36 => ("WhoseNameModel", "text", "[I", true)
  | 37 => ("WhoseNameModel", "typed", "[I", true)
  | 38 => ("WhoseNameModel", "at", "I", false)
  | 39 => ("WhoseNameModel", "rules", "[I", true)
  | 40 => ("WhoseNameModel", "now", "[I", true)
  | 41 => ("WhoseNameModel", "why", "I", false)
  | 42 => ("WhoseNameModel", "ends", "[I", true)
  | 43 => ("WhoseNameModel", "lost", "[I", true)
  | 44 => ("WhoseNameModel", "open", "[I", true)
  | 45 => ("WhoseNameModel", "openMany", "I", false)
  | _ => ("WhoseNameModel", "ways", "[I", true)
def nvY7 : Nat → FieldType := fun k => match k with
  | 0 => .array .int
  | 1 => .array .int
  | 2 => .array .int
  | 3 => .array .int
  | 4 => .int
  | 5 => .array .int
  | 6 => .int
  | 7 => .array .int
  | 8 => .array .int
  | 9 => .array .int
  | 10 => .array .int
  | 11 => .array .int
  | 12 => .array .int
  | 13 => .array .int
  | 14 => .array .int
  | 15 => .array .int
  | 16 => .array .int
  | 17 => .int
  | 18 => .array .int
  | 19 => .array .int
  | 20 => .array .int
  | 21 => .array .int
  | 22 => .array .int
  | 23 => .int
  | 24 => .array .int
  | 25 => .array .int
  | 26 => .array .int
  | 27 => .array .int
  | 28 => .array .int
  | 29 => .array .int
  | 30 => .int
  | 31 => .array .int
  | 32 => .array .int
  | 33 => .array .int
  | 34 => .array .int
  | 35 => .array .int
  | 36 => .array .int
  | 37 => .array .int
  | 38 => .int
  | 39 => .array .int
  | 40 => .array .int
  | 41 => .int
  | 42 => .array .int
  | 43 => .array .int
  | 44 => .array .int
  | 45 => .int
  | _ => .array .int
theorem nvN7 : ∀ a, a < 47 → ∀ b, b < 47 → a ≠ b → (nvT7 a).2.1 ≠ (nvT7 b).2.1 := by decide +kernel
theorem nvYk7 : ∀ k, k < 47 → parseFieldDescriptor (nvT7 k).2.2.1 = some (nvY7 k) := by decide +kernel
theorem nvW7_0 : u_lay "WhoseNameModel" nvT7 0 ∈ nv_gt := nv_gt_of 771 (by decide +kernel) (by decide +kernel)
theorem nvW7_1 : u_lay "WhoseNameModel" nvT7 1 ∈ nv_gt := nv_gt_of 773 (by decide +kernel) (by decide +kernel)
theorem nvW7_2 : u_lay "WhoseNameModel" nvT7 2 ∈ nv_gt := nv_gt_of 775 (by decide +kernel) (by decide +kernel)
theorem nvW7_3 : u_lay "WhoseNameModel" nvT7 3 ∈ nv_gt := nv_gt_of 777 (by decide +kernel) (by decide +kernel)
theorem nvW7_4 : u_lay "WhoseNameModel" nvT7 4 ∈ nv_gt := nv_gt_of 779 (by decide +kernel) (by decide +kernel)
theorem nvW7_5 : u_lay "WhoseNameModel" nvT7 5 ∈ nv_gt := nv_gt_of 781 (by decide +kernel) (by decide +kernel)
theorem nvW7_6 : u_lay "WhoseNameModel" nvT7 6 ∈ nv_gt := nv_gt_of 783 (by decide +kernel) (by decide +kernel)
theorem nvW7_7 : u_lay "WhoseNameModel" nvT7 7 ∈ nv_gt := nv_gt_of 785 (by decide +kernel) (by decide +kernel)
theorem nvW7_8 : u_lay "WhoseNameModel" nvT7 8 ∈ nv_gt := nv_gt_of 787 (by decide +kernel) (by decide +kernel)
theorem nvW7_9 : u_lay "WhoseNameModel" nvT7 9 ∈ nv_gt := nv_gt_of 789 (by decide +kernel) (by decide +kernel)
theorem nvW7_10 : u_lay "WhoseNameModel" nvT7 10 ∈ nv_gt := nv_gt_of 791 (by decide +kernel) (by decide +kernel)
theorem nvW7_11 : u_lay "WhoseNameModel" nvT7 11 ∈ nv_gt := nv_gt_of 793 (by decide +kernel) (by decide +kernel)
theorem nvW7_12 : u_lay "WhoseNameModel" nvT7 12 ∈ nv_gt := nv_gt_of 795 (by decide +kernel) (by decide +kernel)
theorem nvW7_13 : u_lay "WhoseNameModel" nvT7 13 ∈ nv_gt := nv_gt_of 797 (by decide +kernel) (by decide +kernel)
theorem nvW7_14 : u_lay "WhoseNameModel" nvT7 14 ∈ nv_gt := nv_gt_of 799 (by decide +kernel) (by decide +kernel)
theorem nvW7_15 : u_lay "WhoseNameModel" nvT7 15 ∈ nv_gt := nv_gt_of 801 (by decide +kernel) (by decide +kernel)
theorem nvW7_16 : u_lay "WhoseNameModel" nvT7 16 ∈ nv_gt := nv_gt_of 803 (by decide +kernel) (by decide +kernel)
theorem nvW7_17 : u_lay "WhoseNameModel" nvT7 17 ∈ nv_gt := nv_gt_of 805 (by decide +kernel) (by decide +kernel)
theorem nvW7_18 : u_lay "WhoseNameModel" nvT7 18 ∈ nv_gt := nv_gt_of 807 (by decide +kernel) (by decide +kernel)
theorem nvW7_19 : u_lay "WhoseNameModel" nvT7 19 ∈ nv_gt := nv_gt_of 809 (by decide +kernel) (by decide +kernel)
theorem nvW7_20 : u_lay "WhoseNameModel" nvT7 20 ∈ nv_gt := nv_gt_of 811 (by decide +kernel) (by decide +kernel)
theorem nvW7_21 : u_lay "WhoseNameModel" nvT7 21 ∈ nv_gt := nv_gt_of 813 (by decide +kernel) (by decide +kernel)
theorem nvW7_22 : u_lay "WhoseNameModel" nvT7 22 ∈ nv_gt := nv_gt_of 815 (by decide +kernel) (by decide +kernel)
theorem nvW7_23 : u_lay "WhoseNameModel" nvT7 23 ∈ nv_gt := nv_gt_of 817 (by decide +kernel) (by decide +kernel)
theorem nvW7_24 : u_lay "WhoseNameModel" nvT7 24 ∈ nv_gt := nv_gt_of 819 (by decide +kernel) (by decide +kernel)
theorem nvW7_25 : u_lay "WhoseNameModel" nvT7 25 ∈ nv_gt := nv_gt_of 821 (by decide +kernel) (by decide +kernel)
theorem nvW7_26 : u_lay "WhoseNameModel" nvT7 26 ∈ nv_gt := nv_gt_of 823 (by decide +kernel) (by decide +kernel)
theorem nvW7_27 : u_lay "WhoseNameModel" nvT7 27 ∈ nv_gt := nv_gt_of 825 (by decide +kernel) (by decide +kernel)
theorem nvW7_28 : u_lay "WhoseNameModel" nvT7 28 ∈ nv_gt := nv_gt_of 827 (by decide +kernel) (by decide +kernel)
theorem nvW7_29 : u_lay "WhoseNameModel" nvT7 29 ∈ nv_gt := nv_gt_of 829 (by decide +kernel) (by decide +kernel)
theorem nvW7_30 : u_lay "WhoseNameModel" nvT7 30 ∈ nv_gt := nv_gt_of 831 (by decide +kernel) (by decide +kernel)
theorem nvW7_31 : u_lay "WhoseNameModel" nvT7 31 ∈ nv_gt := nv_gt_of 833 (by decide +kernel) (by decide +kernel)
theorem nvW7_32 : u_lay "WhoseNameModel" nvT7 32 ∈ nv_gt := nv_gt_of 835 (by decide +kernel) (by decide +kernel)
theorem nvW7_33 : u_lay "WhoseNameModel" nvT7 33 ∈ nv_gt := nv_gt_of 837 (by decide +kernel) (by decide +kernel)
theorem nvW7_34 : u_lay "WhoseNameModel" nvT7 34 ∈ nv_gt := nv_gt_of 839 (by decide +kernel) (by decide +kernel)
theorem nvW7_35 : u_lay "WhoseNameModel" nvT7 35 ∈ nv_gt := nv_gt_of 841 (by decide +kernel) (by decide +kernel)
theorem nvW7_36 : u_lay "WhoseNameModel" nvT7 36 ∈ nv_gt := nv_gt_of 843 (by decide +kernel) (by decide +kernel)
theorem nvW7_37 : u_lay "WhoseNameModel" nvT7 37 ∈ nv_gt := nv_gt_of 845 (by decide +kernel) (by decide +kernel)
theorem nvW7_38 : u_lay "WhoseNameModel" nvT7 38 ∈ nv_gt := nv_gt_of 847 (by decide +kernel) (by decide +kernel)
theorem nvW7_39 : u_lay "WhoseNameModel" nvT7 39 ∈ nv_gt := nv_gt_of 849 (by decide +kernel) (by decide +kernel)
theorem nvW7_40 : u_lay "WhoseNameModel" nvT7 40 ∈ nv_gt := nv_gt_of 851 (by decide +kernel) (by decide +kernel)
theorem nvW7_41 : u_lay "WhoseNameModel" nvT7 41 ∈ nv_gt := nv_gt_of 853 (by decide +kernel) (by decide +kernel)
theorem nvW7_42 : u_lay "WhoseNameModel" nvT7 42 ∈ nv_gt := nv_gt_of 855 (by decide +kernel) (by decide +kernel)
theorem nvW7_43 : u_lay "WhoseNameModel" nvT7 43 ∈ nv_gt := nv_gt_of 857 (by decide +kernel) (by decide +kernel)
theorem nvW7_44 : u_lay "WhoseNameModel" nvT7 44 ∈ nv_gt := nv_gt_of 859 (by decide +kernel) (by decide +kernel)
theorem nvW7_45 : u_lay "WhoseNameModel" nvT7 45 ∈ nv_gt := nv_gt_of 861 (by decide +kernel) (by decide +kernel)
theorem nvW7_46 : u_lay "WhoseNameModel" nvT7 46 ∈ nv_gt := nv_gt_of 863 (by decide +kernel) (by decide +kernel)
theorem nvW7 : ∀ w ∈ u_ws "WhoseNameModel" nvT7 47, w ∈ nv_gt := by
  intro w hw
  obtain ⟨k, hk, rfl⟩ := List.mem_map.mp hw
  have hk := List.mem_range.mp hk
  match k, hk with
  | 0, _ => exact nvW7_0
  | 1, _ => exact nvW7_1
  | 2, _ => exact nvW7_2
  | 3, _ => exact nvW7_3
  | 4, _ => exact nvW7_4
  | 5, _ => exact nvW7_5
  | 6, _ => exact nvW7_6
  | 7, _ => exact nvW7_7
  | 8, _ => exact nvW7_8
  | 9, _ => exact nvW7_9
  | 10, _ => exact nvW7_10
  | 11, _ => exact nvW7_11
  | 12, _ => exact nvW7_12
  | 13, _ => exact nvW7_13
  | 14, _ => exact nvW7_14
  | 15, _ => exact nvW7_15
  | 16, _ => exact nvW7_16
  | 17, _ => exact nvW7_17
  | 18, _ => exact nvW7_18
  | 19, _ => exact nvW7_19
  | 20, _ => exact nvW7_20
  | 21, _ => exact nvW7_21
  | 22, _ => exact nvW7_22
  | 23, _ => exact nvW7_23
  | 24, _ => exact nvW7_24
  | 25, _ => exact nvW7_25
  | 26, _ => exact nvW7_26
  | 27, _ => exact nvW7_27
  | 28, _ => exact nvW7_28
  | 29, _ => exact nvW7_29
  | 30, _ => exact nvW7_30
  | 31, _ => exact nvW7_31
  | 32, _ => exact nvW7_32
  | 33, _ => exact nvW7_33
  | 34, _ => exact nvW7_34
  | 35, _ => exact nvW7_35
  | 36, _ => exact nvW7_36
  | 37, _ => exact nvW7_37
  | 38, _ => exact nvW7_38
  | 39, _ => exact nvW7_39
  | 40, _ => exact nvW7_40
  | 41, _ => exact nvW7_41
  | 42, _ => exact nvW7_42
  | 43, _ => exact nvW7_43
  | 44, _ => exact nvW7_44
  | 45, _ => exact nvW7_45
  | 46, _ => exact nvW7_46
  | n + 47, h => exact absurd h (by omega)
abbrev nv_cls : List vw_C := [("WhoseName$After", nvT0, 5), ("WhoseName$Back", nvT1, 4), ("WhoseName$Bargain", nvT2, 7), ("WhoseName$Law", nvT3, 4), ("WhoseName$Leave", nvT4, 10), ("WhoseName$Sheet", nvT5, 4), ("WhoseName", nvT6, 18), ("WhoseNameModel", nvT7, 47)]
/-- the shapes of all cells, in the order in which they are made: 0 the WhoseName, 73 the WhoseNameModel -/
def nv_shl : List nv_Sh := [
  .inr (6, [some 1, some 2, some 3, some 4, some 5, some 6, some 7, none, none, none, none, none, some 8, some 9, some 10, some 11, some 12, none]),
  .inl (8, none),
  .inl (12, some (1, 13, 1)),
  .inl (12, some (2, 25, 1)),
  .inl (10, some (3, 37, 1)),
  .inl (12, some (4, 47, 1)),
  .inl (2, some (5, 59, 3)),
  .inl (4, some (6, 65, 2)),
  .inl (8, none),
  .inl (10, none),
  .inl (9, none),
  .inl (6, none),
  .inl (64, none),
  .inr (4, [none, none, none, none, none, none, none, none, none, none]),
  .inr (4, [none, none, none, none, none, none, none, none, none, none]),
  .inr (4, [none, none, none, none, none, none, none, none, none, none]),
  .inr (4, [none, none, none, none, none, none, none, none, none, none]),
  .inr (4, [none, none, none, none, none, none, none, none, none, none]),
  .inr (4, [none, none, none, none, none, none, none, none, none, none]),
  .inr (4, [none, none, none, none, none, none, none, none, none, none]),
  .inr (4, [none, none, none, none, none, none, none, none, none, none]),
  .inr (4, [none, none, none, none, none, none, none, none, none, none]),
  .inr (4, [none, none, none, none, none, none, none, none, none, none]),
  .inr (4, [none, none, none, none, none, none, none, none, none, none]),
  .inr (4, [none, none, none, none, none, none, none, none, none, none]),
  .inr (1, [none, none, none, none]),
  .inr (1, [none, none, none, none]),
  .inr (1, [none, none, none, none]),
  .inr (1, [none, none, none, none]),
  .inr (1, [none, none, none, none]),
  .inr (1, [none, none, none, none]),
  .inr (1, [none, none, none, none]),
  .inr (1, [none, none, none, none]),
  .inr (1, [none, none, none, none]),
  .inr (1, [none, none, none, none]),
  .inr (1, [none, none, none, none]),
  .inr (1, [none, none, none, none]),
  .inr (2, [none, none, none, none, none, none, none]),
  .inr (2, [none, none, none, none, none, none, none]),
  .inr (2, [none, none, none, none, none, none, none]),
  .inr (2, [none, none, none, none, none, none, none]),
  .inr (2, [none, none, none, none, none, none, none]),
  .inr (2, [none, none, none, none, none, none, none]),
  .inr (2, [none, none, none, none, none, none, none]),
  .inr (2, [none, none, none, none, none, none, none]),
  .inr (2, [none, none, none, none, none, none, none]),
  .inr (2, [none, none, none, none, none, none, none]),
  .inr (0, [none, none, none, none, none]),
  .inr (0, [none, none, none, none, none]),
  .inr (0, [none, none, none, none, none]),
  .inr (0, [none, none, none, none, none]),
  .inr (0, [none, none, none, none, none]),
  .inr (0, [none, none, none, none, none]),
  .inr (0, [none, none, none, none, none]),
  .inr (0, [none, none, none, none, none]),
  .inr (0, [none, none, none, none, none]),
  .inr (0, [none, none, none, none, none]),
  .inr (0, [none, none, none, none, none]),
  .inr (0, [none, none, none, none, none]),
  .inr (3, [some 60, some 61, none, none]),
  .inl (60, none),
  .inl (9, none),
  .inr (3, [some 63, some 64, none, none]),
  .inl (60, none),
  .inl (9, none),
  .inr (5, [some 66, none, none, none]),
  .inl (60, none),
  .inr (5, [some 68, none, none, none]),
  .inl (60, none),
  .inr (5, [some 70, none, none, none]),
  .inl (60, none),
  .inr (5, [some 72, none, none, none]),
  .inl (60, none),
  .inr (7, [some 74, some 75, some 76, some 77, none, some 78, none, some 79, some 80, some 81, some 82, some 83, some 84, some 85, some 86, some 87, some 88, none, some 89, some 90, some 91, some 92, some 93, none, some 94, some 95, some 96, some 97, some 98, some 99, none, some 100, some 101, some 102, some 103, some 104, some 105, some 106, none, some 107, some 108, none, some 109, some 110, some 111, none, some 112]),
  .inl (4, none),
  .inl (4, none),
  .inl (240, none),
  .inl (60, none),
  .inl (8, none),
  .inl (13, none),
  .inl (13, none),
  .inl (13, none),
  .inl (13, none),
  .inl (13, none),
  .inl (13, none),
  .inl (13, none),
  .inl (13, none),
  .inl (13, none),
  .inl (13, none),
  .inl (12, none),
  .inl (12, none),
  .inl (12, none),
  .inl (12, none),
  .inl (12, none),
  .inl (10, none),
  .inl (10, none),
  .inl (10, none),
  .inl (10, none),
  .inl (10, none),
  .inl (10, none),
  .inl (12, none),
  .inl (12, none),
  .inl (12, none),
  .inl (12, none),
  .inl (12, none),
  .inl (120, none),
  .inl (2, none),
  .inl (18, none),
  .inl (9, none),
  .inl (8, none),
  .inl (10, none),
  .inl (6, none),
  .inl (64, none)]
def nv_shp (k : Nat) : nv_Sh := nv_shl.getD k (.inl (0, none))
def nv_sz1 : nv_Sh → Nat
  | .inl (n, _) => n
  | .inr (_, fl) => fl.length
def nv_sl : Nat → Nat
  | 0 => 0
  | n + 1 => nv_sl n + nv_sz1 (nv_shp n)
abbrev nv_NN : Nat := 113
def nv_ty : Nat → FieldType
  | 0 => .int
  | 1 => .object "WhoseName$Leave"
  | 2 => .object "WhoseName$Back"
  | 3 => .object "WhoseName$Bargain"
  | 4 => .object "WhoseName$After"
  | 5 => .object "WhoseName$Law"
  | 6 => .object "WhoseName$Sheet"
  | _ => .int
abbrev nv_tys (cA : Nat → ClassId) : List (ClassId × FieldType) := [(cA 0, .int), (cA 1, .object "WhoseName$Leave"), (cA 2, .object "WhoseName$Back"), (cA 3, .object "WhoseName$Bargain"), (cA 4, .object "WhoseName$After"), (cA 5, .object "WhoseName$Law"), (cA 6, .object "WhoseName$Sheet")]
def nv_aon : List String := ["WhoseName$Leave", "WhoseName$Back", "WhoseName$Bargain", "WhoseName$After", "WhoseName$Law", "WhoseName$Sheet"]
def nv_stat : Nat → Option (FieldType × String × String × List Int32)
  | 0 => some (.char, "LETTER_SIGNS", "[C", [98, 115, 112, 116, 97, 119, 110, 111, 99])
  | 1 => some (.int, "LETTER_MOST", "[I", [2, 1, 99, 99, 99, 1, 2, 2, 9])
  | 2 => some (.int, "LETTER_FIRST", "[I", [1, 1, 10, 0, 10, 1, 0, 1, 1])
  | 3 => some (.int, "SORT_SETS", "[I", [1, 2, 4, 8, 3, 5, 6, 9, 10, 12, 7, 11, 13, 14, 15])
  | _ => none
abbrev qX0_init : nv_MI := (⟨"WhoseName$After", "<init>", "()V"⟩, prog_2_method_1_code, 1, none)
abbrev qX1_init : nv_MI := (⟨"WhoseName$Back", "<init>", "()V"⟩, prog_3_method_1_code, 1, none)
abbrev qX2_init : nv_MI := (⟨"WhoseName$Bargain", "<init>", "()V"⟩, prog_4_method_1_code, 1, none)
abbrev qX2_isForAnother : nv_MI := (⟨"WhoseName$Bargain", "isForAnother", "()Z"⟩, prog_4_method_2_code, 1, some .boolean)
abbrev qX3_init : nv_MI := (⟨"WhoseName$Law", "<init>", "()V"⟩, prog_5_method_1_code, 1, none)
abbrev qX3_append : nv_MI := (⟨"WhoseName$Law", "append", "(I)V"⟩, prog_5_method_2_code, 2, none)
abbrev qX3_clear : nv_MI := (⟨"WhoseName$Law", "clear", "()V"⟩, prog_5_method_3_code, 1, none)
abbrev qX3_understand : nv_MI := (⟨"WhoseName$Law", "understand", "()V"⟩, prog_5_method_4_code, 1, none)
abbrev qX3_forgetParts : nv_MI := (⟨"WhoseName$Law", "forgetParts", "()V"⟩, prog_5_method_5_code, 1, none)
abbrev qX3_takeParts : nv_MI := (⟨"WhoseName$Law", "takeParts", "()I"⟩, prog_5_method_6_code, 5, some .int)
abbrev qX3_signAt : nv_MI := (⟨"WhoseName$Law", "signAt", "(I)I"⟩, prog_5_method_7_code, 2, some .int)
abbrev qX3_letterOf : nv_MI := (⟨"WhoseName$Law", "letterOf", "(I)I"⟩, prog_5_method_8_code, 2, some .int)
abbrev qX3_isFigureAt : nv_MI := (⟨"WhoseName$Law", "isFigureAt", "(I)Z"⟩, prog_5_method_9_code, 3, some .boolean)
abbrev qX3_figuresFrom : nv_MI := (⟨"WhoseName$Law", "figuresFrom", "(I)I"⟩, prog_5_method_10_code, 2, some .int)
abbrev qX3_numberFrom : nv_MI := (⟨"WhoseName$Law", "numberFrom", "(II)I"⟩, prog_5_method_11_code, 5, some .int)
abbrev qX4_init : nv_MI := (⟨"WhoseName$Leave", "<init>", "()V"⟩, prog_6_method_1_code, 1, none)
abbrev qX5_init : nv_MI := (⟨"WhoseName$Sheet", "<init>", "()V"⟩, prog_7_method_1_code, 1, none)
abbrev qX5_renew : nv_MI := (⟨"WhoseName$Sheet", "renew", "(II)V"⟩, prog_7_method_2_code, 4, none)
abbrev qX5_has : nv_MI := (⟨"WhoseName$Sheet", "has", "(I)Z"⟩, prog_7_method_3_code, 2, some .boolean)
abbrev qX5_hasRow : nv_MI := (⟨"WhoseName$Sheet", "hasRow", "(II)Z"⟩, prog_7_method_4_code, 3, some .boolean)
abbrev qX5_itemAt : nv_MI := (⟨"WhoseName$Sheet", "itemAt", "(I)I"⟩, prog_7_method_5_code, 2, some .int)
abbrev qX5_put : nv_MI := (⟨"WhoseName$Sheet", "put", "(II)V"⟩, prog_7_method_6_code, 3, none)
abbrev qX5_lowestBits : nv_MI := (⟨"WhoseName$Sheet", "lowestBits", "(I)I"⟩, prog_7_method_7_code, 2, some .int)
abbrev qX6_init : nv_MI := (⟨"WhoseName", "<init>", "()V"⟩, prog_1_method_1_code, 2, none)
abbrev qX6_purse : nv_MI := (⟨"WhoseName", "purse", "(II)I"⟩, prog_1_method_2_code, 4, some .int)
abbrev qX6_leave : nv_MI := (⟨"WhoseName", "leave", "(IIIIIIII)I"⟩, prog_1_method_3_code, 10, some .int)
abbrev qX6_setSource : nv_MI := (⟨"WhoseName", "setSource", "(LWhoseName$Leave;I)V"⟩, prog_1_method_4_code, 3, none)
abbrev qX6_mayBeGiven : nv_MI := (⟨"WhoseName", "mayBeGiven", "(IIII)Z"⟩, prog_1_method_5_code, 5, some .boolean)
abbrev qX6_mayBePassed : nv_MI := (⟨"WhoseName", "mayBePassed", "(I)Z"⟩, prog_1_method_6_code, 3, some .boolean)
abbrev qX6_isScope : nv_MI := (⟨"WhoseName", "isScope", "(IIII)Z"⟩, prog_1_method_7_code, 4, some .boolean)
abbrev qX6_back : nv_MI := (⟨"WhoseName", "back", "(IIII)I"⟩, prog_1_method_8_code, 6, some .int)
abbrev qX6_heard : nv_MI := (⟨"WhoseName", "heard", "(II)I"⟩, prog_1_method_9_code, 3, some .int)
abbrev qX6_bargain : nv_MI := (⟨"WhoseName", "bargain", "(IIIIII)I"⟩, prog_1_method_10_code, 8, some .int)
abbrev qX6_read : nv_MI := (⟨"WhoseName", "read", "(I)I"⟩, prog_1_method_11_code, 6, some .int)
abbrev qX6_after : nv_MI := (⟨"WhoseName", "after", "(IIIII)I"⟩, prog_1_method_12_code, 7, some .int)
abbrev qX6_leaveIs : nv_MI := (⟨"WhoseName", "leaveIs", "(II)I"⟩, prog_1_method_13_code, 4, some .int)
abbrev qX6_bargainIs : nv_MI := (⟨"WhoseName", "bargainIs", "(II)I"⟩, prog_1_method_14_code, 4, some .int)
abbrev qX6_type : nv_MI := (⟨"WhoseName", "type", "(II)I"⟩, prog_1_method_15_code, 3, some .int)
abbrev qX6_wipe : nv_MI := (⟨"WhoseName", "wipe", "(I)I"⟩, prog_1_method_16_code, 3, some .int)
abbrev qX6_fault : nv_MI := (⟨"WhoseName", "fault", "(I)I"⟩, prog_1_method_17_code, 2, some .int)
abbrev qX6_law : nv_MI := (⟨"WhoseName", "law", "(II)I"⟩, prog_1_method_18_code, 3, some .int)
abbrev qX6_reaches : nv_MI := (⟨"WhoseName", "reaches", "(IIII)I"⟩, prog_1_method_19_code, 8, some .int)
abbrev qX6_bound : nv_MI := (⟨"WhoseName", "bound", "(III)I"⟩, prog_1_method_20_code, 5, some .int)
abbrev qX6_till : nv_MI := (⟨"WhoseName", "till", "(II)I"⟩, prog_1_method_21_code, 3, some .int)
abbrev qX6_hearingDay : nv_MI := (⟨"WhoseName", "hearingDay", "(II)I"⟩, prog_1_method_22_code, 4, some .int)
abbrev qX6_isEnded : nv_MI := (⟨"WhoseName", "isEnded", "([IILWhoseName$Bargain;I)Z"⟩, prog_1_method_23_code, 8, some .boolean)
abbrev qX6_hearerOf : nv_MI := (⟨"WhoseName", "hearerOf", "([ILWhoseName$Leave;LWhoseName$Bargain;)I"⟩, prog_1_method_24_code, 3, some .int)
abbrev qX6_limitOf : nv_MI := (⟨"WhoseName", "limitOf", "([ILWhoseName$Leave;)I"⟩, prog_1_method_25_code, 2, some .int)
abbrev qX6_stretched : nv_MI := (⟨"WhoseName", "stretched", "([II)I"⟩, prog_1_method_26_code, 2, some .int)
abbrev qX6_hasRoomFor : nv_MI := (⟨"WhoseName", "hasRoomFor", "([ILWhoseName$Leave;LWhoseName$Bargain;)Z"⟩, prog_1_method_27_code, 3, some .boolean)
abbrev qX6_isAimedAt : nv_MI := (⟨"WhoseName", "isAimedAt", "([ILWhoseName$Leave;LWhoseName$Bargain;)Z"⟩, prog_1_method_28_code, 3, some .boolean)
abbrev qX6_reachesIn : nv_MI := (⟨"WhoseName", "reachesIn", "([IILWhoseName$Bargain;I)Z"⟩, prog_1_method_29_code, 8, some .boolean)
abbrev qX6_isWell : nv_MI := (⟨"WhoseName", "isWell", "([ILWhoseName$Bargain;)Z"⟩, prog_1_method_30_code, 5, some .boolean)
abbrev qX6_isSaidByNamed : nv_MI := (⟨"WhoseName", "isSaidByNamed", "(LWhoseName$After;LWhoseName$Bargain;)Z"⟩, prog_1_method_31_code, 2, some .boolean)
abbrev qX6_wasRefusedAhead : nv_MI := (⟨"WhoseName", "wasRefusedAhead", "(ILWhoseName$Bargain;)Z"⟩, prog_1_method_32_code, 7, some .boolean)
abbrev qX6_reasonIn : nv_MI := (⟨"WhoseName", "reasonIn", "([ILWhoseName$Bargain;I)I"⟩, prog_1_method_33_code, 5, some .int)
abbrev qX6_boundBits : nv_MI := (⟨"WhoseName", "boundBits", "([ILWhoseName$Bargain;I)I"⟩, prog_1_method_34_code, 4, some .int)
abbrev qX6_bitsOfReason : nv_MI := (⟨"WhoseName", "bitsOfReason", "([ILWhoseName$Bargain;I)I"⟩, prog_1_method_35_code, 5, some .int)
abbrev qX6_ask : nv_MI := (⟨"WhoseName", "ask", "(III)I"⟩, prog_1_method_36_code, 6, some .int)
abbrev qX6_owes : nv_MI := (⟨"WhoseName", "owes", "(II)I"⟩, prog_1_method_37_code, 4, some .int)
abbrev qX6_end : nv_MI := (⟨"WhoseName", "end", "(III)I"⟩, prog_1_method_38_code, 4, some .int)
abbrev qX6_askOf : nv_MI := (⟨"WhoseName", "askOf", "([ILWhoseName$Bargain;II)I"⟩, prog_1_method_39_code, 4, some .int)
abbrev qX6_owedBy : nv_MI := (⟨"WhoseName", "owedBy", "([ILWhoseName$Bargain;I)I"⟩, prog_1_method_40_code, 6, some .int)
abbrev qX6_settle : nv_MI := (⟨"WhoseName", "settle", "([I)V"⟩, prog_1_method_41_code, 3, none)
abbrev qX6_settleBargain : nv_MI := (⟨"WhoseName", "settleBargain", "([ILWhoseName$Bargain;)V"⟩, prog_1_method_42_code, 11, none)
abbrev qX6_pay : nv_MI := (⟨"WhoseName", "pay", "(III)I"⟩, prog_1_method_43_code, 5, some .int)
abbrev qX6_sure : nv_MI := (⟨"WhoseName", "sure", "(III)I"⟩, prog_1_method_44_code, 7, some .int)
abbrev qX6_hangs : nv_MI := (⟨"WhoseName", "hangs", "(III)I"⟩, prog_1_method_45_code, 6, some .int)
abbrev qX6_wanted : nv_MI := (⟨"WhoseName", "wanted", "(II)I"⟩, prog_1_method_46_code, 6, some .int)
abbrev qX6_turned : nv_MI := (⟨"WhoseName", "turned", "(I)I"⟩, prog_1_method_47_code, 2, some .int)
abbrev qX6_letter : nv_MI := (⟨"WhoseName", "letter", "(IIII)I"⟩, prog_1_method_48_code, 10, some .int)
abbrev qX6_findOpenBacks : nv_MI := (⟨"WhoseName", "findOpenBacks", "()V"⟩, prog_1_method_49_code, 2, none)
abbrev qX6_tryWays : nv_MI := (⟨"WhoseName", "tryWays", "([ILWhoseName$Bargain;)I"⟩, prog_1_method_50_code, 5, some .int)
abbrev qX6_wayOf : nv_MI := (⟨"WhoseName", "wayOf", "(I)I"⟩, prog_1_method_51_code, 4, some .int)
abbrev qX6_isTurnedBy : nv_MI := (⟨"WhoseName", "isTurnedBy", "(II)Z"⟩, prog_1_method_52_code, 5, some .boolean)
abbrev qX6_fewestLetters : nv_MI := (⟨"WhoseName", "fewestLetters", "(LWhoseName$Bargain;)I"⟩, prog_1_method_53_code, 6, some .int)
abbrev qX6_unlikeLetters : nv_MI := (⟨"WhoseName", "unlikeLetters", "()I"⟩, prog_1_method_54_code, 3, some .int)
abbrev qX6_mixLaws : nv_MI := (⟨"WhoseName", "mixLaws", "(I)V"⟩, prog_1_method_55_code, 3, none)
abbrev qX6_bargainsBetween : nv_MI := (⟨"WhoseName", "bargainsBetween", "(II)I"⟩, prog_1_method_56_code, 5, some .int)
abbrev qX6_boundAlready : nv_MI := (⟨"WhoseName", "boundAlready", "([II)I"⟩, prog_1_method_57_code, 5, some .int)
abbrev qX6_reachedByLetter : nv_MI := (⟨"WhoseName", "reachedByLetter", "(IIII)I"⟩, prog_1_method_58_code, 8, some .int)
abbrev qX6_sheet : nv_MI := (⟨"WhoseName", "sheet", "(III)I"⟩, prog_1_method_59_code, 4, some .int)
abbrev qX6_lose : nv_MI := (⟨"WhoseName", "lose", "(I)I"⟩, prog_1_method_60_code, 2, some .int)
abbrev qX6_lay : nv_MI := (⟨"WhoseName", "lay", "(IIII)I"⟩, prog_1_method_61_code, 6, some .int)
abbrev qX6_get : nv_MI := (⟨"WhoseName", "get", "(III)I"⟩, prog_1_method_62_code, 5, some .int)
abbrev qX6_copy : nv_MI := (⟨"WhoseName", "copy", "(IIIII)I"⟩, prog_1_method_63_code, 8, some .int)
abbrev qX6_write : nv_MI := (⟨"WhoseName", "write", "(II)I"⟩, prog_1_method_64_code, 6, some .int)
abbrev qX6_count : nv_MI := (⟨"WhoseName", "count", "(I)I"⟩, prog_1_method_65_code, 2, some .int)
abbrev qX6_digest : nv_MI := (⟨"WhoseName", "digest", "()J"⟩, prog_1_method_66_code, 4, some .long)
abbrev qX6_digestLaw : nv_MI := (⟨"WhoseName", "digestLaw", "(JLWhoseName$Law;)J"⟩, prog_1_method_67_code, 8, some .long)
abbrev qX6_allOpen : nv_MI := (⟨"WhoseName", "allOpen", "()I"⟩, prog_1_method_68_code, 3, some .int)
abbrev qX6_allPurses : nv_MI := (⟨"WhoseName", "allPurses", "()I"⟩, prog_1_method_69_code, 3, some .int)
abbrev qX6_findingAt : nv_MI := (⟨"WhoseName", "findingAt", "(LWhoseName$Sheet;II)I"⟩, prog_1_method_70_code, 3, some .int)
abbrev qX6_find : nv_MI := (⟨"WhoseName", "find", "(I)I"⟩, prog_1_method_71_code, 2, some .int)
abbrev qX6_isWithin : nv_MI := (⟨"WhoseName", "isWithin", "(III)Z"⟩, prog_1_method_72_code, 3, some .boolean)
abbrev qX6_isFlag : nv_MI := (⟨"WhoseName", "isFlag", "(I)Z"⟩, prog_1_method_73_code, 1, some .boolean)
abbrev qX6_isPerson : nv_MI := (⟨"WhoseName", "isPerson", "(I)Z"⟩, prog_1_method_74_code, 1, some .boolean)
abbrev qX6_isDay : nv_MI := (⟨"WhoseName", "isDay", "(I)Z"⟩, prog_1_method_75_code, 1, some .boolean)
abbrev qX6_isAmount : nv_MI := (⟨"WhoseName", "isAmount", "(I)Z"⟩, prog_1_method_76_code, 1, some .boolean)
abbrev qX6_isLaw : nv_MI := (⟨"WhoseName", "isLaw", "(I)Z"⟩, prog_1_method_77_code, 1, some .boolean)
abbrev qX6_isSheet : nv_MI := (⟨"WhoseName", "isSheet", "(I)Z"⟩, prog_1_method_78_code, 1, some .boolean)
abbrev qX6_isKind : nv_MI := (⟨"WhoseName", "isKind", "(I)Z"⟩, prog_1_method_79_code, 1, some .boolean)
abbrev qX6_isLeave : nv_MI := (⟨"WhoseName", "isLeave", "(I)Z"⟩, prog_1_method_80_code, 2, some .boolean)
abbrev qX6_isBack : nv_MI := (⟨"WhoseName", "isBack", "(I)Z"⟩, prog_1_method_81_code, 2, some .boolean)
abbrev qX6_isBargain : nv_MI := (⟨"WhoseName", "isBargain", "(I)Z"⟩, prog_1_method_82_code, 2, some .boolean)
abbrev qX6_hasBit : nv_MI := (⟨"WhoseName", "hasBit", "(II)Z"⟩, prog_1_method_83_code, 2, some .boolean)
abbrev qX6_leastPerson : nv_MI := (⟨"WhoseName", "leastPerson", "(I)I"⟩, prog_1_method_84_code, 2, some .int)
abbrev qX7_init : nv_MI := (⟨"WhoseNameModel", "<init>", "()V"⟩, prog_9_method_1_code, 2, none)
abbrev qX7_in : nv_MI := (⟨"WhoseNameModel", "in", "(JJJ)Z"⟩, prog_9_method_3_code, 6, some .boolean)
abbrev qX7_isTwo : nv_MI := (⟨"WhoseNameModel", "isTwo", "(I)Z"⟩, prog_9_method_4_code, 1, some .boolean)
abbrev qX7_met : nv_MI := (⟨"WhoseNameModel", "met", "(I)I"⟩, prog_9_method_5_code, 2, some .int)
abbrev qX7_isSheet : nv_MI := (⟨"WhoseNameModel", "isSheet", "(I)Z"⟩, prog_9_method_6_code, 1, some .boolean)
abbrev qX7_sheet : nv_MI := (⟨"WhoseNameModel", "sheet", "(III)I"⟩, prog_9_method_7_code, 5, some .int)
abbrev qX7_lose : nv_MI := (⟨"WhoseNameModel", "lose", "(I)I"⟩, prog_9_method_8_code, 2, some .int)
abbrev qX7_lacks : nv_MI := (⟨"WhoseNameModel", "lacks", "(III)I"⟩, prog_9_method_9_code, 4, some .int)
abbrev qX7_cut : nv_MI := (⟨"WhoseNameModel", "cut", "(II)I"⟩, prog_9_method_10_code, 2, some .int)
abbrev qX7_lay : nv_MI := (⟨"WhoseNameModel", "lay", "(IIII)I"⟩, prog_9_method_11_code, 6, some .int)
abbrev qX7_get : nv_MI := (⟨"WhoseNameModel", "get", "(III)I"⟩, prog_9_method_12_code, 4, some .int)
abbrev qX7_copy : nv_MI := (⟨"WhoseNameModel", "copy", "(IIIII)I"⟩, prog_9_method_13_code, 7, some .int)
abbrev qX7_isPerson : nv_MI := (⟨"WhoseNameModel", "isPerson", "(I)Z"⟩, prog_9_method_14_code, 1, some .boolean)
abbrev qX7_isDay : nv_MI := (⟨"WhoseNameModel", "isDay", "(I)Z"⟩, prog_9_method_15_code, 1, some .boolean)
abbrev qX7_purse : nv_MI := (⟨"WhoseNameModel", "purse", "(II)I"⟩, prog_9_method_16_code, 4, some .int)
abbrev qX7_isLeave : nv_MI := (⟨"WhoseNameModel", "isLeave", "(I)Z"⟩, prog_9_method_17_code, 2, some .boolean)
abbrev qX7_isGiven : nv_MI := (⟨"WhoseNameModel", "isGiven", "(IIII)Z"⟩, prog_9_method_18_code, 6, some .boolean)
abbrev qX7_lays : nv_MI := (⟨"WhoseNameModel", "lays", "(IIIIIIII)V"⟩, prog_9_method_19_code, 9, none)
abbrev qX7_leave : nv_MI := (⟨"WhoseNameModel", "leave", "(IIIIIIII)I"⟩, prog_9_method_20_code, 9, some .int)
abbrev qX7_leaveIs : nv_MI := (⟨"WhoseNameModel", "leaveIs", "(II)I"⟩, prog_9_method_21_code, 3, some .int)
abbrev qX7_isBack : nv_MI := (⟨"WhoseNameModel", "isBack", "(I)Z"⟩, prog_9_method_22_code, 2, some .boolean)
abbrev qX7_back : nv_MI := (⟨"WhoseNameModel", "back", "(IIII)I"⟩, prog_9_method_23_code, 5, some .int)
abbrev qX7_heard : nv_MI := (⟨"WhoseNameModel", "heard", "(II)I"⟩, prog_9_method_24_code, 3, some .int)
abbrev qX7_isBargain : nv_MI := (⟨"WhoseNameModel", "isBargain", "(I)Z"⟩, prog_9_method_25_code, 2, some .boolean)
abbrev qX7_bargain : nv_MI := (⟨"WhoseNameModel", "bargain", "(IIIIII)I"⟩, prog_9_method_26_code, 8, some .int)
abbrev qX7_read : nv_MI := (⟨"WhoseNameModel", "read", "(I)I"⟩, prog_9_method_27_code, 5, some .int)
abbrev qX7_after : nv_MI := (⟨"WhoseNameModel", "after", "(IIIII)I"⟩, prog_9_method_28_code, 6, some .int)
abbrev qX7_bargainIs : nv_MI := (⟨"WhoseNameModel", "bargainIs", "(II)I"⟩, prog_9_method_29_code, 3, some .int)
abbrev qX7_type : nv_MI := (⟨"WhoseNameModel", "type", "(II)I"⟩, prog_9_method_30_code, 3, some .int)
abbrev qX7_wipe : nv_MI := (⟨"WhoseNameModel", "wipe", "(I)I"⟩, prog_9_method_31_code, 3, some .int)
abbrev qX7_here : nv_MI := (⟨"WhoseNameModel", "here", "(I)I"⟩, prog_9_method_32_code, 2, some .int)
abbrev qX7_usual : nv_MI := (⟨"WhoseNameModel", "usual", "(I)I"⟩, prog_9_method_33_code, 1, some .int)
abbrev qX7_greatest : nv_MI := (⟨"WhoseNameModel", "greatest", "(I)I"⟩, prog_9_method_34_code, 1, some .int)
abbrev qX7_letterOf : nv_MI := (⟨"WhoseNameModel", "letterOf", "(I)I"⟩, prog_9_method_35_code, 1, some .int)
abbrev qX7_clears : nv_MI := (⟨"WhoseNameModel", "clears", "(I)V"⟩, prog_9_method_36_code, 3, none)
abbrev qX7_readsPart : nv_MI := (⟨"WhoseNameModel", "readsPart", "(I)Z"⟩, prog_9_method_37_code, 5, some .boolean)
abbrev qX7_reads : nv_MI := (⟨"WhoseNameModel", "reads", "(I)I"⟩, prog_9_method_38_code, 3, some .int)
abbrev qX7_fault : nv_MI := (⟨"WhoseNameModel", "fault", "(I)I"⟩, prog_9_method_39_code, 2, some .int)
abbrev qX7_lawOf : nv_MI := (⟨"WhoseNameModel", "lawOf", "(II)I"⟩, prog_9_method_40_code, 3, some .int)
abbrev qX7_law : nv_MI := (⟨"WhoseNameModel", "law", "(II)I"⟩, prog_9_method_41_code, 3, some .int)
abbrev qX7_goes : nv_MI := (⟨"WhoseNameModel", "goes", "(I)V"⟩, prog_9_method_42_code, 3, none)
abbrev qX7_isEnded : nv_MI := (⟨"WhoseNameModel", "isEnded", "(II)Z"⟩, prog_9_method_43_code, 8, some .boolean)
abbrev qX7_limitOf : nv_MI := (⟨"WhoseNameModel", "limitOf", "(I)I"⟩, prog_9_method_44_code, 2, some .int)
abbrev qX7_has : nv_MI := (⟨"WhoseNameModel", "has", "(II)Z"⟩, prog_9_method_45_code, 5, some .boolean)
abbrev qX7_reachesNow : nv_MI := (⟨"WhoseNameModel", "reachesNow", "(II)Z"⟩, prog_9_method_46_code, 7, some .boolean)
abbrev qX7_firstLeave : nv_MI := (⟨"WhoseNameModel", "firstLeave", "(I)I"⟩, prog_9_method_47_code, 3, some .int)
abbrev qX7_isWell : nv_MI := (⟨"WhoseNameModel", "isWell", "(I)Z"⟩, prog_9_method_48_code, 7, some .boolean)
abbrev qX7_boundNow : nv_MI := (⟨"WhoseNameModel", "boundNow", "(I)I"⟩, prog_9_method_49_code, 5, some .int)
abbrev qX7_reaches : nv_MI := (⟨"WhoseNameModel", "reaches", "(IIII)I"⟩, prog_9_method_50_code, 5, some .int)
abbrev qX7_boundOf : nv_MI := (⟨"WhoseNameModel", "boundOf", "(III)I"⟩, prog_9_method_51_code, 5, some .int)
abbrev qX7_bound : nv_MI := (⟨"WhoseNameModel", "bound", "(III)I"⟩, prog_9_method_52_code, 4, some .int)
abbrev qX7_till : nv_MI := (⟨"WhoseNameModel", "till", "(II)I"⟩, prog_9_method_53_code, 4, some .int)
abbrev qX7_askNow : nv_MI := (⟨"WhoseNameModel", "askNow", "(II)I"⟩, prog_9_method_54_code, 4, some .int)
abbrev qX7_ask : nv_MI := (⟨"WhoseNameModel", "ask", "(III)I"⟩, prog_9_method_55_code, 4, some .int)
abbrev qX7_owesNow : nv_MI := (⟨"WhoseNameModel", "owesNow", "(I)I"⟩, prog_9_method_56_code, 4, some .int)
abbrev qX7_owesOf : nv_MI := (⟨"WhoseNameModel", "owesOf", "(II)I"⟩, prog_9_method_57_code, 3, some .int)
abbrev qX7_owes : nv_MI := (⟨"WhoseNameModel", "owes", "(II)I"⟩, prog_9_method_58_code, 3, some .int)
abbrev qX7_pays : nv_MI := (⟨"WhoseNameModel", "pays", "(III)I"⟩, prog_9_method_59_code, 6, some .int)
abbrev qX7_settles : nv_MI := (⟨"WhoseNameModel", "settles", "(I)V"⟩, prog_9_method_60_code, 10, none)
abbrev qX7_findEnd : nv_MI := (⟨"WhoseNameModel", "findEnd", "(I)V"⟩, prog_9_method_61_code, 3, none)
abbrev qX7_end : nv_MI := (⟨"WhoseNameModel", "end", "(III)I"⟩, prog_9_method_62_code, 4, some .int)
abbrev qX7_findOpen : nv_MI := (⟨"WhoseNameModel", "findOpen", "()V"⟩, prog_9_method_63_code, 2, none)
abbrev qX7_findWays : nv_MI := (⟨"WhoseNameModel", "findWays", "(II)V"⟩, prog_9_method_64_code, 5, none)
abbrev qX7_sure : nv_MI := (⟨"WhoseNameModel", "sure", "(III)I"⟩, prog_9_method_65_code, 6, some .int)
abbrev qX7_hangs : nv_MI := (⟨"WhoseNameModel", "hangs", "(III)I"⟩, prog_9_method_66_code, 7, some .int)
abbrev qX7_ones : nv_MI := (⟨"WhoseNameModel", "ones", "(I)I"⟩, prog_9_method_67_code, 3, some .int)
abbrev qX7_isEnough : nv_MI := (⟨"WhoseNameModel", "isEnough", "(I)Z"⟩, prog_9_method_68_code, 4, some .boolean)
abbrev qX7_wanted : nv_MI := (⟨"WhoseNameModel", "wanted", "(II)I"⟩, prog_9_method_69_code, 6, some .int)
abbrev qX7_turnedOf : nv_MI := (⟨"WhoseNameModel", "turnedOf", "(I)I"⟩, prog_9_method_70_code, 6, some .int)
abbrev qX7_turned : nv_MI := (⟨"WhoseNameModel", "turned", "(I)I"⟩, prog_9_method_71_code, 2, some .int)
abbrev qX7_isJust : nv_MI := (⟨"WhoseNameModel", "isJust", "(IIII)Z"⟩, prog_9_method_72_code, 7, some .boolean)
abbrev qX7_isOfBoth : nv_MI := (⟨"WhoseNameModel", "isOfBoth", "(III)Z"⟩, prog_9_method_73_code, 6, some .boolean)
abbrev qX7_letter : nv_MI := (⟨"WhoseNameModel", "letter", "(IIII)I"⟩, prog_9_method_74_code, 9, some .int)
abbrev qX7_write : nv_MI := (⟨"WhoseNameModel", "write", "(II)I"⟩, prog_9_method_75_code, 5, some .int)
abbrev qX7_count : nv_MI := (⟨"WhoseNameModel", "count", "(I)I"⟩, prog_9_method_76_code, 4, some .int)
abbrev qX7_digest : nv_MI := (⟨"WhoseNameModel", "digest", "()J"⟩, prog_9_method_77_code, 5, some .long)
abbrev qJ6_bitCount : nv_MI := (⟨"java/lang/Integer", "bitCount", "(I)I"⟩, prog_10_method_49_code, 1, some .int)
abbrev qJ9_max : nv_MI := (⟨"java/lang/Math", "max", "(II)I"⟩, prog_11_method_65_code, 2, some .int)
abbrev qJ9_min : nv_MI := (⟨"java/lang/Math", "min", "(II)I"⟩, prog_11_method_69_code, 2, some .int)
abbrev qL_law : nv_MI := (x, code, maxLocals, ret)
end
section
/-! ===== the world of a heap, and the judgement ===== -/
def nv_w (ad : Nat → Nat) (cA : Nat → ClassId) (σ : nv_Sg) : va_W := (List.range σ.2.2).map (fun k => (ad k, nv_ce ad cA σ.1 σ.2.1 k (nv_shp k)))
theorem nv_w_len {ad : Nat → Nat} {cA : Nat → ClassId} {σ : nv_Sg} : (nv_w ad cA σ).length = σ.2.2 := by simp [nv_w]
theorem nv_w_get {ad : Nat → Nat} {cA : Nat → ClassId} {σ : nv_Sg} {k : Nat} (hk : k < σ.2.2) : (nv_w ad cA σ)[k]? = some (ad k, nv_ce ad cA σ.1 σ.2.1 k (nv_shp k)) := by
  unfold nv_w
  rw [List.getElem?_map, List.getElem?_range hk]
  rfl
theorem nv_w_set {ad : Nat → Nat} {cA : Nat → ClassId} {h h' : nv_Hp} {z z' : nv_Zp} {n k : Nat} {e : va_E} (hk : k < n) (he : e = nv_ce ad cA h' z' k (nv_shp k)) (h1 : ∀ a i, a ≠ k → h' a i = h a i) (h2 : ∀ a i, a ≠ k → z' a i = z a i) : (nv_w ad cA (h, z, n)).set k (ad k, e) = nv_w ad cA (h', z', n) := by
  apply List.ext_getElem?
  intro i
  by_cases hi : i = k
  · subst hi
    rw [List.getElem?_set_self (by rw [nv_w_len]; exact hk), nv_w_get (σ := (h', z', n)) hk, he]
  · rw [List.getElem?_set_ne (Ne.symm hi)]
    by_cases hn : i < n
    · rw [nv_w_get (σ := (h, z, n)) hn, nv_w_get (σ := (h', z', n)) hn]
      show some (ad i, nv_ce ad cA h z i (nv_shp i)) = some (ad i, nv_ce ad cA h' z' i (nv_shp i))
      rw [nv_ce_cong (nv_shp i) (fun j => h1 i j hi) (fun j => h2 i j hi)]
    · rw [List.getElem?_eq_none (by rw [nv_w_len]; exact Nat.not_lt.mp hn), List.getElem?_eq_none (by rw [nv_w_len]; exact Nat.not_lt.mp hn)]
/-- locals, by place -/
def nv_ll (ad : Nat → Nat) : Nat → List (Option Value) → List (Nat × Value)
  | _, [] => []
  | k, none :: t => nv_ll ad (k + 1) t
  | k, some v :: t => (k, nv_cV ad v) :: nv_ll ad (k + 1) t
theorem nv_ll_mem (ad : Nat → Nat) : ∀ (ls : List (Option Value)) (k : Nat) (q : Nat × Value), q ∈ nv_ll ad k ls ↔ ∃ (j : Nat) (v : Value), q = (k + j, nv_cV ad v) ∧ ls[j]? = some (some v)
  | [], k, q => by simp [nv_ll]
  | o :: t, k, q => by
    have ih := nv_ll_mem ad t (k + 1) q
    constructor
    · intro h
      cases o with
      | none =>
        obtain ⟨j, v, h1, h2⟩ := ih.mp h
        exact ⟨j + 1, v, by rw [h1]; simp only [Nat.add_assoc, Nat.add_comm 1 j], h2⟩
      | some v =>
        rcases List.mem_cons.mp h with h | h
        · exact ⟨0, v, h, rfl⟩
        · obtain ⟨j, v, h1, h2⟩ := ih.mp h
          exact ⟨j + 1, v, by rw [h1]; simp only [Nat.add_assoc, Nat.add_comm 1 j], h2⟩
    · rintro ⟨j, v, h1, h2⟩
      cases j with
      | zero =>
        rw [List.getElem?_cons_zero] at h2
        cases h2
        exact List.mem_cons.mpr (Or.inl h1)
      | succ j =>
        rw [List.getElem?_cons_succ] at h2
        have h3 : q ∈ nv_ll ad (k + 1) t := ih.mpr ⟨j, v, by rw [h1]; simp only [Nat.add_assoc, Nat.add_comm 1 j], h2⟩
        cases o with
        | none => exact h3
        | some w => exact List.mem_cons.mpr (Or.inr h3)
theorem nv_lget {ad : Nat → Nat} {lsC : Array Slot} {nL i : Nat} {ls : List (Option Value)} {v : Value} (h : lv_has lsC nL (nv_ll ad 0 ls)) (hi : ls[i]? = some (some v)) : lsC[i]? = some (.val (nv_cV ad v)) :=
  h.2.2 (i, nv_cV ad v) ((nv_ll_mem ad ls 0 _).mpr ⟨i, v, by simp, hi⟩)
/-- what stands just ahead of place i is of one slot -/
def nv_nl (ls : List (Option Value)) : Nat → Bool
  | 0 => true
  | j + 1 => match ls[j]? with
    | some (some (.long _)) => false
    | some (some (.double _)) => false
    | _ => true
theorem nv_nl_cat {ls : List (Option Value)} {j : Nat} {v : Value} (h : nv_nl ls (j + 1) = true) (hv : ls[j]? = some (some v)) : ¬ v.category = 2 := by
  simp only [nv_nl, hv] at h
  cases v <;> simp_all [Value.category]
theorem nv_ll_set1 {ad : Nat → Nat} {lsC : Array Slot} {nL i : Nat} {ls : List (Option Value)} {v : Value} (hnl : nv_nl ls i = true) (h : lv_has lsC nL ((i, nv_cV ad v) :: (nv_ll ad 0 ls).filter (fun q => !(q.1 == i) && !(q.1 + 1 == i && q.2.category == 2)))) : lv_has lsC nL (nv_ll ad 0 (ls.set i (some v))) := by
  refine ⟨h.1, h.2.1, fun q hq => h.2.2 q ?_⟩
  obtain ⟨j, w, h1, h2⟩ := (nv_ll_mem ad _ 0 q).mp hq
  rw [Nat.zero_add] at h1
  by_cases hj : j = i
  · subst hj
    by_cases hl : j < ls.length
    · rw [List.getElem?_set_self hl] at h2
      cases h2
      exact List.mem_cons.mpr (Or.inl h1)
    · rw [List.getElem?_eq_none (by rw [List.length_set]; omega)] at h2
      cases h2
  · rw [List.getElem?_set_ne (Ne.symm hj)] at h2
    refine List.mem_cons.mpr (Or.inr (List.mem_filter.mpr ⟨(nv_ll_mem ad _ 0 q).mpr ⟨j, w, by rw [Nat.zero_add]; exact h1, h2⟩, ?_⟩))
    subst h1
    simp only [Bool.and_eq_true, Bool.not_eq_true', beq_eq_false_iff_ne, Bool.and_eq_false_iff]
    refine ⟨hj, ?_⟩
    by_cases hji : j + 1 = i
    · subst hji
      right
      rw [nv_cV_cat]
      exact nv_nl_cat hnl h2
    · exact Or.inl hji
theorem nv_ll_set2 {ad : Nat → Nat} {lsC : Array Slot} {nL i : Nat} {ls : List (Option Value)} {v : Value} (hnl : nv_nl ls i = true) (h : lv_has lsC nL ((i, nv_cV ad v) :: (nv_ll ad 0 ls).filter (fun q => !(q.1 == i) && (!(q.1 == i + 1) && !(q.1 + 1 == i && q.2.category == 2))))) : lv_has lsC nL (nv_ll ad 0 ((ls.set i (some v)).set (i + 1) none)) := by
  refine ⟨h.1, h.2.1, fun q hq => h.2.2 q ?_⟩
  obtain ⟨j, w, h1, h2⟩ := (nv_ll_mem ad _ 0 q).mp hq
  rw [Nat.zero_add] at h1
  have hj1 : j ≠ i + 1 := by
    intro e
    subst e
    by_cases hl : i + 1 < (ls.set i (some v)).length
    · rw [List.getElem?_set_self hl] at h2
      cases h2
    · rw [List.getElem?_eq_none (by rw [List.length_set]; omega)] at h2
      cases h2
  rw [List.getElem?_set_ne (Ne.symm hj1)] at h2
  by_cases hj : j = i
  · subst hj
    by_cases hl : j < ls.length
    · rw [List.getElem?_set_self hl] at h2
      cases h2
      exact List.mem_cons.mpr (Or.inl h1)
    · rw [List.getElem?_eq_none (by rw [List.length_set]; omega)] at h2
      cases h2
  · rw [List.getElem?_set_ne (Ne.symm hj)] at h2
    refine List.mem_cons.mpr (Or.inr (List.mem_filter.mpr ⟨(nv_ll_mem ad _ 0 q).mpr ⟨j, w, by rw [Nat.zero_add]; exact h1, h2⟩, ?_⟩))
    subst h1
    simp only [Bool.and_eq_true, Bool.not_eq_true', beq_eq_false_iff_ne, Bool.and_eq_false_iff]
    refine ⟨hj, hj1, ?_⟩
    by_cases hji : j + 1 = i
    · subst hji
      right
      rw [nv_cV_cat]
      exact nv_nl_cat hnl h2
    · exact Or.inl hji
/-- statics, the script, array classes: what is given of a state, apart from the cells A -/
def nv_S (G : nv_G) (A : Nat → Prop) (U : State) : Prop :=
  (∀ (i : Nat) (ty : FieldType) (nm ds : String) (l : List Int32), nv_stat i = some (ty, nm, ds, l) → va_T ty (G.2.2.2.1 i) l.length (fun j => .int (l.getD j 0)) A U U.heap ∧ va_Z "WhoseName" nm ds (.ref (G.2.2.2.1 i)) A U U.heap) ∧
  (va_X (G.2.2.2.1 9) G.2.2.2.2.1 G.2.2.2.2.2 U U.heap ∧ G.2.2.2.1 9 < U.heap.size ∧ ¬ A (G.2.2.2.1 9)) ∧ ∀ C ∈ nv_aon, va_AO C U
theorem nv_S.go {G : nv_G} {A B : Nat → Prop} {s U : State} (h : nv_S G A s) (hvm : s.vm.Alike U.vm) (hq : s.heap.size ≤ U.heap.size ∧ ∀ q : Nat, q < s.heap.size → ¬ A q → U.heap[q]? = s.heap[q]?) (hAB : ∀ q, B q → A q) : nv_S G B U := by
  obtain ⟨h1, ⟨h2, h3, h4⟩, h5⟩ := h
  refine ⟨fun i ty nm ds l hi => ?_, ⟨?_, Nat.lt_of_lt_of_le h3 hq.1, fun z => h4 (hAB _ z)⟩, fun C hC => (h5 C hC).moved hvm⟩
  · obtain ⟨a, b⟩ := h1 i ty nm ds l hi
    exact ⟨((a.kept hq.2).narrow hAB).moved hvm, ((b.kept hq.2).narrow hAB).moved hvm⟩
  · exact (h2.kept (hq.2 _ h3 h4)).moved hvm
abbrev nv_n (r : nv_R) : Nat := r.2.2.2
/-- what a method leaves -/
def nv_Q (G : nv_G) (n0 : Nat) (ad0 : Nat → Nat) (A : Nat → Prop) (r : nv_R) : Array Value → State → Outcome → State → Prop := fun _ st oc t =>
  (∃ ad : Nat → Nat, (∀ k, (k < n0 ∨ nv_n r ≤ k) → ad k = ad0 k) ∧ oc = .returned (r.1.map (nv_cV ad)) ∧ va_P G.2.1 nv_cls (nv_w ad G.2.2.1 r.2) t.heap ∧ va_D A (nv_w ad G.2.2.1 r.2)) ∧ va_F A st t
def nv_P (G : nv_G) (ad : Nat → Nat) (sz : Nat) (av : List Value) (σ : nv_Sg) : Array Value → State → Prop :=
  va_Pc (av.map (nv_cV ad)) (fun U => U.heap.size = sz ∧ va_P G.2.1 nv_cls (nv_w ad G.2.2.1 σ) U.heap ∧ va_K G.2.1 nv_cls (nv_tys G.2.2.1) U ∧ va_D (fun _ => True) (nv_w ad G.2.2.1 σ) ∧ nv_S G (va_A (nv_w ad G.2.2.1 σ) sz) U)
/-- a method's contract: depth d, arguments av, from the heap σ to answer and heap r -/
def nv_Mt (G : nv_G) (d : Nat) (M : nv_MI) (av : List Value) (σ : nv_Sg) (r : nv_R) : Prop :=
  σ.2.2 ≤ nv_n r ∧ nv_n r ≤ 1000 ∧ ∀ (ad : Nat → Nat) (sz : Nat), (∀ i, ad (1000 + i) = G.2.2.2.1 i) →
    Met G.1 M.1 (.code M.1 M.2.1 M.2.2.1 M.2.2.2 :: nv_gt) { frames := d, cells := nv_n r - σ.2.2, slots := nv_sl (nv_n r) - nv_sl σ.2.2, locals := 40 * d } (nv_P G ad sz av σ) (nv_Q G σ.2.2 ad (va_A (nv_w ad G.2.2.1 σ) sz) r) (nv_n r - σ.2.2) (nv_sl (nv_n r) - nv_sl σ.2.2) (va_A (nv_w ad G.2.2.1 σ) sz)
theorem nv_sl_mono : ∀ {a b : Nat}, a ≤ b → nv_sl a ≤ nv_sl b := by
  intro a b h
  induction h with
  | refl => exact Nat.le_refl _
  | step _ ih => exact Nat.le_trans ih (Nat.le_add_right _ _)
/-- the frame's own, fixed part -/
def nv_C (G : nv_G) (d : Nat) (M : nv_MI) (r : nv_R) (p : Program) (R : Room) (s : State) (m : MethodId) (args : Array Value) (meth : Method) (c : Code) (n0 : Nat) (A : Nat → Prop) : Prop :=
  p.tables.exec = Jvm.exec ∧ c.code = M.2.1 ∧ c.maxLocals = M.2.2.1 ∧ s.vm.findClass M.1.cls = some m.cls ∧ (∀ w ∈ nv_gt, w.before args s = true) ∧ va_K G.2.1 nv_cls (nv_tys G.2.2.1) s ∧ (∀ q, s.heap.size ≤ q → A q) ∧ nv_S G A s ∧ meth.name = M.1.name ∧
  (d ≤ R.frames ∧ 40 * d ≤ R.locals ∧ nv_n r - n0 ≤ R.cells ∧ nv_sl (nv_n r) - nv_sl n0 ≤ R.slots)
/-- the frame's moving part -/
def nv_V (G : nv_G) (r : nv_R) (s : State) (n0 : Nat) (ad0 : Nat → Nat) (A : Nat → Prop) (ad : Nat → Nat) (σ : nv_Sg) (H : Heap) (locs : List Loc) : Prop :=
  (n0 ≤ σ.2.2 ∧ σ.2.2 ≤ nv_n r ∧ nv_n r ≤ 1000) ∧ (∀ k, (k < n0 ∨ nv_n r ≤ k) → ad k = ad0 k) ∧ (∀ i, ad (1000 + i) = G.2.2.2.1 i) ∧ va_P G.2.1 nv_cls (nv_w ad G.2.2.1 σ) H ∧ va_D A (nv_w ad G.2.2.1 σ) ∧ va_S A s.heap H locs
/-- how a return is met -/
def nv_rt (M : nv_MI) (pc : Nat) : Option Value → Prop
  | none => decode M.2.1 pc = .ok (.return_, 1) ∧ M.2.2.2 = none
  | some (.int v) => decode M.2.1 pc = .ok (.ireturn, 1) ∧ ∃ ty, M.2.2.2 = some ty ∧ narrow ty (.int v) = .int v
  | some (.long _) => decode M.2.1 pc = .ok (.lreturn, 1) ∧ M.2.2.2 = some .long
  | _ => False
def nv_X (G : nv_G) (M : nv_MI) (r : nv_R) (p : Program) (e : Env) (R : Room) (s : State) (m : MethodId) (args : Array Value) (below : List Frame) (meth : Method) (c : Code) (n0 : Nat) (ad0 : Nat → Nat) (A : Nat → Prop) (Q : State → Prop) : Prop :=
  ∀ (ad : Nat → Nat) (H : Heap) (locs : List Loc) (lsC : Array Slot) (pc : Nat), nv_V G r s n0 ad0 A ad r.2 H locs → nv_rt M pc r.1 → W p G.1 e R s m args below meth c H locs (nv_n r - n0) (nv_sl (nv_n r) - nv_sl n0) Q (F0 m pc lsC (r.1.map (nv_cV ad)).toList)
def nv_E (G : nv_G) (d : Nat) (M : nv_MI) (pc : Nat) (ls : List (Option Value)) (st : List Value) (σ : nv_Sg) (r : nv_R) : Prop :=
  ∀ (p : Program) (e : Env) (R : Room) (s : State) (m : MethodId) (args : Array Value) (below : List Frame) (meth : Method) (c : Code) (n0 : Nat) (ad0 : Nat → Nat) (A : Nat → Prop) (Q : State → Prop),
    nv_C G d M r p R s m args meth c n0 A → nv_X G M r p e R s m args below meth c n0 ad0 A Q →
    ∀ (ad : Nat → Nat) (H : Heap) (locs : List Loc) (lsC : Array Slot), nv_V G r s n0 ad0 A ad σ H locs → lv_has lsC M.2.2.1 (nv_ll ad 0 ls) →
      W p G.1 e R s m args below meth c H locs (σ.2.2 - n0) (nv_sl σ.2.2 - nv_sl n0) Q (F0 m pc lsC (st.map (nv_cV ad)))
end
section
/-! ===== rules, an instruction each ===== -/
def nv_dc (M : nv_MI) (pc : Nat) (i : Instr) (len nx : Nat) : Prop := decode M.2.1 pc = .ok (i, len) ∧ pc + len = nx
def nv_dif (M : nv_MI) (pc : Nat) (q : ClassFile.Cond) (tgt nx : Nat) : Prop := ∃ off : Int, decode M.2.1 pc = .ok (.ifCond q off, 3) ∧ (pc : Int) + off = (tgt : Int) ∧ pc + 3 = nx
def nv_dic (M : nv_MI) (pc : Nat) (q : ClassFile.Cond) (tgt nx : Nat) : Prop := ∃ off : Int, decode M.2.1 pc = .ok (.if_icmp q off, 3) ∧ (pc : Int) + off = (tgt : Int) ∧ pc + 3 = nx
def nv_dgo (M : nv_MI) (pc tgt : Nat) : Prop := ∃ off : Int, decode M.2.1 pc = .ok (.goto off, 3) ∧ (pc : Int) + off = (tgt : Int)
section
variable {G : nv_G} {d : Nat} {M : nv_MI} {pc nx tgt : Nat} {ls : List (Option Value)} {st : List Value} {σ : nv_Sg} {r : nv_R}
theorem nv_iconst {n : Int} {v : Int32} (hi : nv_dc M pc (.iconst n) 1 nx) (hv : Int32.ofInt n = v) (K : nv_E G d M nx ls (.int v :: st) σ r) : nv_E G d M pc ls st σ r := by
  obtain ⟨hi, rfl⟩ := hi
  exact fun p e R s m args below meth c n0 ad0 A Q hC hX ad H locs lsC hV hl => lv_iconst hC.1 hC.2.1 hi hv (K p e R s m args below meth c n0 ad0 A Q hC hX ad H locs lsC hV hl)
theorem nv_bipush {n : Int} {v : Int32} (hi : nv_dc M pc (.bipush n) 2 nx) (hv : (Int8.ofInt n).toInt32 = v) (K : nv_E G d M nx ls (.int v :: st) σ r) : nv_E G d M pc ls st σ r := by
  obtain ⟨hi, rfl⟩ := hi
  exact fun p e R s m args below meth c n0 ad0 A Q hC hX ad H locs lsC hV hl => lv_bipush hC.1 hC.2.1 hi hv (K p e R s m args below meth c n0 ad0 A Q hC hX ad H locs lsC hV hl)
theorem nv_sipush {n : Int} {v : Int32} (hi : nv_dc M pc (.sipush n) 3 nx) (hv : (Int16.ofInt n).toInt32 = v) (K : nv_E G d M nx ls (.int v :: st) σ r) : nv_E G d M pc ls st σ r := by
  obtain ⟨hi, rfl⟩ := hi
  exact fun p e R s m args below meth c n0 ad0 A Q hC hX ad H locs lsC hV hl => lv_sipush hC.1 hC.2.1 hi hv (K p e R s m args below meth c n0 ad0 A Q hC hX ad H locs lsC hV hl)
theorem nv_lconst {n : Fin 2} {v : Int64} (hi : nv_dc M pc (.lconst n) 1 nx) (hv : Int64.ofNat (n : Nat) = v) (K : nv_E G d M nx ls (.long v :: st) σ r) : nv_E G d M pc ls st σ r := by
  obtain ⟨hi, rfl⟩ := hi
  exact fun p e R s m args below meth c n0 ad0 A Q hC hX ad H locs lsC hV hl => lv_lconst hC.1 hC.2.1 hi hv (K p e R s m args below meth c n0 ad0 A Q hC hX ad H locs lsC hV hl)
theorem nv_ldc {ix : Nat} {v : Int32} (hi : nv_dc M pc (.ldc ix) 2 nx) (hv : Cond.constant M.1.cls ix v ∈ nv_gt) (K : nv_E G d M nx ls (.int v :: st) σ r) : nv_E G d M pc ls st σ r := by
  obtain ⟨hi, rfl⟩ := hi
  exact fun p e R s m args below meth c n0 ad0 A Q hC hX ad H locs lsC hV hl => lv_ldc hC.1 hC.2.1 hC.2.2.2.1 (hC.2.2.2.2.1 _ hv) hi (K p e R s m args below meth c n0 ad0 A Q hC hX ad H locs lsC hV hl)
theorem nv_ldcw {ix : Nat} {v : Int32} (hi : nv_dc M pc (.ldc_w ix) 3 nx) (hv : Cond.constant M.1.cls ix v ∈ nv_gt) (K : nv_E G d M nx ls (.int v :: st) σ r) : nv_E G d M pc ls st σ r := by
  obtain ⟨hi, rfl⟩ := hi
  exact fun p e R s m args below meth c n0 ad0 A Q hC hX ad H locs lsC hV hl => lv_ldcw hC.1 hC.2.1 hC.2.2.2.1 (hC.2.2.2.2.1 _ hv) hi (K p e R s m args below meth c n0 ad0 A Q hC hX ad H locs lsC hV hl)
theorem nv_ldc2 {ix : Nat} {v : Int64} (hi : nv_dc M pc (.ldc2_w ix) 3 nx) (hv : Cond.constantLong M.1.cls ix v ∈ nv_gt) (K : nv_E G d M nx ls (.long v :: st) σ r) : nv_E G d M pc ls st σ r := by
  obtain ⟨hi, rfl⟩ := hi
  exact fun p e R s m args below meth c n0 ad0 A Q hC hX ad H locs lsC hV hl => lv_ldc2 hC.1 hC.2.1 hC.2.2.2.1 (hC.2.2.2.2.1 _ hv) hi (K p e R s m args below meth c n0 ad0 A Q hC hX ad H locs lsC hV hl)
theorem nv_iload {i : Nat} {x : Int32} (hi : nv_dc M pc (.iload i) 2 nx) (hv : ls[i]? = some (some (.int x))) (K : nv_E G d M nx ls (.int x :: st) σ r) : nv_E G d M pc ls st σ r := by
  obtain ⟨hi, rfl⟩ := hi
  exact fun p e R s m args below meth c n0 ad0 A Q hC hX ad H locs lsC hV hl => lv_iload hC.1 hC.2.1 hi (nv_lget hl hv) (K p e R s m args below meth c n0 ad0 A Q hC hX ad H locs lsC hV hl)
theorem nv_iloadn {i : Fin 4} {x : Int32} (hi : nv_dc M pc (.iload_n i) 1 nx) (hv : ls[(i : Nat)]? = some (some (.int x))) (K : nv_E G d M nx ls (.int x :: st) σ r) : nv_E G d M pc ls st σ r := by
  obtain ⟨hi, rfl⟩ := hi
  exact fun p e R s m args below meth c n0 ad0 A Q hC hX ad H locs lsC hV hl => lv_iload_n hC.1 hC.2.1 hi rfl (nv_lget hl hv) (K p e R s m args below meth c n0 ad0 A Q hC hX ad H locs lsC hV hl)
theorem nv_lload {i : Nat} {x : Int64} (hi : nv_dc M pc (.lload i) 2 nx) (hv : ls[i]? = some (some (.long x))) (K : nv_E G d M nx ls (.long x :: st) σ r) : nv_E G d M pc ls st σ r := by
  obtain ⟨hi, rfl⟩ := hi
  exact fun p e R s m args below meth c n0 ad0 A Q hC hX ad H locs lsC hV hl => lv_lload hC.1 hC.2.1 hi (nv_lget hl hv) (K p e R s m args below meth c n0 ad0 A Q hC hX ad H locs lsC hV hl)
theorem nv_lloadn {i : Fin 4} {x : Int64} (hi : nv_dc M pc (.lload_n i) 1 nx) (hv : ls[(i : Nat)]? = some (some (.long x))) (K : nv_E G d M nx ls (.long x :: st) σ r) : nv_E G d M pc ls st σ r := by
  obtain ⟨hi, rfl⟩ := hi
  exact fun p e R s m args below meth c n0 ad0 A Q hC hX ad H locs lsC hV hl => lv_lload_n hC.1 hC.2.1 hi rfl (nv_lget hl hv) (K p e R s m args below meth c n0 ad0 A Q hC hX ad H locs lsC hV hl)
theorem nv_aload {i : Nat} {x : Nat} (hi : nv_dc M pc (.aload i) 2 nx) (hv : ls[i]? = some (some (.ref x))) (K : nv_E G d M nx ls (.ref x :: st) σ r) : nv_E G d M pc ls st σ r := by
  obtain ⟨hi, rfl⟩ := hi
  exact fun p e R s m args below meth c n0 ad0 A Q hC hX ad H locs lsC hV hl => lv_aload hC.1 hC.2.1 hi (nv_lget hl hv) (K p e R s m args below meth c n0 ad0 A Q hC hX ad H locs lsC hV hl)
theorem nv_aloadn {i : Fin 4} {x : Nat} (hi : nv_dc M pc (.aload_n i) 1 nx) (hv : ls[(i : Nat)]? = some (some (.ref x))) (K : nv_E G d M nx ls (.ref x :: st) σ r) : nv_E G d M pc ls st σ r := by
  obtain ⟨hi, rfl⟩ := hi
  exact fun p e R s m args below meth c n0 ad0 A Q hC hX ad H locs lsC hV hl => lv_aload_n hC.1 hC.2.1 hi rfl (nv_lget hl hv) (K p e R s m args below meth c n0 ad0 A Q hC hX ad H locs lsC hV hl)
theorem nv_istore {i : Nat} {x : Int32} (hi : nv_dc M pc (.istore i) 2 nx) (hn : i < M.2.2.1) (hnl : nv_nl ls i = true) (K : nv_E G d M nx (ls.set i (some (.int x))) st σ r) : nv_E G d M pc ls (.int x :: st) σ r := by
  obtain ⟨hi, rfl⟩ := hi
  exact fun p e R s m args below meth c n0 ad0 A Q hC hX ad H locs lsC hV hl => lv_istore hC.1 hC.2.1 hi hl hn rfl (fun lsC hl => K p e R s m args below meth c n0 ad0 A Q hC hX ad H locs lsC hV (nv_ll_set1 hnl hl))
theorem nv_istoren {i : Fin 4} {x : Int32} (hi : nv_dc M pc (.istore_n i) 1 nx) (hn : (i : Nat) < M.2.2.1) (hnl : nv_nl ls i = true) (K : nv_E G d M nx (ls.set i (some (.int x))) st σ r) : nv_E G d M pc ls (.int x :: st) σ r := by
  obtain ⟨hi, rfl⟩ := hi
  exact fun p e R s m args below meth c n0 ad0 A Q hC hX ad H locs lsC hV hl => lv_istore_n hC.1 hC.2.1 hi rfl hl hn rfl (fun lsC hl => K p e R s m args below meth c n0 ad0 A Q hC hX ad H locs lsC hV (nv_ll_set1 hnl hl))
theorem nv_astore {i : Nat} {x : Nat} (hi : nv_dc M pc (.astore i) 2 nx) (hn : i < M.2.2.1) (hnl : nv_nl ls i = true) (K : nv_E G d M nx (ls.set i (some (.ref x))) st σ r) : nv_E G d M pc ls (.ref x :: st) σ r := by
  obtain ⟨hi, rfl⟩ := hi
  exact fun p e R s m args below meth c n0 ad0 A Q hC hX ad H locs lsC hV hl => lv_astore hC.1 hC.2.1 hi hl hn rfl (fun lsC hl => K p e R s m args below meth c n0 ad0 A Q hC hX ad H locs lsC hV (nv_ll_set1 hnl hl))
theorem nv_astoren {i : Fin 4} {x : Nat} (hi : nv_dc M pc (.astore_n i) 1 nx) (hn : (i : Nat) < M.2.2.1) (hnl : nv_nl ls i = true) (K : nv_E G d M nx (ls.set i (some (.ref x))) st σ r) : nv_E G d M pc ls (.ref x :: st) σ r := by
  obtain ⟨hi, rfl⟩ := hi
  exact fun p e R s m args below meth c n0 ad0 A Q hC hX ad H locs lsC hV hl => lv_astore_n hC.1 hC.2.1 hi rfl hl hn rfl (fun lsC hl => K p e R s m args below meth c n0 ad0 A Q hC hX ad H locs lsC hV (nv_ll_set1 hnl hl))
theorem nv_lstore {i : Nat} {x : Int64} (hi : nv_dc M pc (.lstore i) 2 nx) (hn : i + 1 < M.2.2.1) (hnl : nv_nl ls i = true) (K : nv_E G d M nx ((ls.set i (some (.long x))).set (i + 1) none) st σ r) : nv_E G d M pc ls (.long x :: st) σ r := by
  obtain ⟨hi, rfl⟩ := hi
  exact fun p e R s m args below meth c n0 ad0 A Q hC hX ad H locs lsC hV hl => lv_lstore hC.1 hC.2.1 hi hl hn rfl (fun lsC hl => K p e R s m args below meth c n0 ad0 A Q hC hX ad H locs lsC hV (nv_ll_set2 hnl hl))
theorem nv_lstoren {i : Fin 4} {x : Int64} (hi : nv_dc M pc (.lstore_n i) 1 nx) (hn : (i : Nat) + 1 < M.2.2.1) (hnl : nv_nl ls i = true) (K : nv_E G d M nx ((ls.set i (some (.long x))).set ((i : Nat) + 1) none) st σ r) : nv_E G d M pc ls (.long x :: st) σ r := by
  obtain ⟨hi, rfl⟩ := hi
  exact fun p e R s m args below meth c n0 ad0 A Q hC hX ad H locs lsC hV hl => lv_lstore_n hC.1 hC.2.1 hi rfl hl hn rfl (fun lsC hl => K p e R s m args below meth c n0 ad0 A Q hC hX ad H locs lsC hV (nv_ll_set2 hnl hl))
theorem nv_iinc {i : Nat} {n : Int} {x v : Int32} (hi : nv_dc M pc (.iinc i n) 3 nx) (hv : ls[i]? = some (some (.int x))) (he : x + Int32.ofInt n = v) (hn : i < M.2.2.1) (hnl : nv_nl ls i = true) (K : nv_E G d M nx (ls.set i (some (.int v))) st σ r) : nv_E G d M pc ls st σ r := by
  obtain ⟨hi, rfl⟩ := hi
  intro p e R s m args below meth c n0 ad0 A Q hC hX ad H locs lsC hV hl
  obtain ⟨k, hk⟩ := List.getElem?_of_mem ((nv_ll_mem ad ls 0 (i, .int x)).mpr ⟨i, .int x, by simp [nv_cV], hv⟩)
  exact lv_iinc hC.1 hC.2.1 hi hl hk he hn rfl (fun lsC hl => K p e R s m args below meth c n0 ad0 A Q hC hX ad H locs lsC hV (nv_ll_set1 (v := .int v) hnl hl))
theorem nv_iadd {x y : Int32} (hi : nv_dc M pc .iadd 1 nx) (K : nv_E G d M nx ls (.int (x + y) :: st) σ r) : nv_E G d M pc ls (.int y :: .int x :: st) σ r := by
  obtain ⟨hi, rfl⟩ := hi
  exact fun p e R s m args below meth c n0 ad0 A Q hC hX ad H locs lsC hV hl => lv_iadd hC.1 hC.2.1 hi (K p e R s m args below meth c n0 ad0 A Q hC hX ad H locs lsC hV hl)
theorem nv_isub {x y : Int32} (hi : nv_dc M pc .isub 1 nx) (K : nv_E G d M nx ls (.int (x - y) :: st) σ r) : nv_E G d M pc ls (.int y :: .int x :: st) σ r := by
  obtain ⟨hi, rfl⟩ := hi
  exact fun p e R s m args below meth c n0 ad0 A Q hC hX ad H locs lsC hV hl => lv_isub hC.1 hC.2.1 hi (K p e R s m args below meth c n0 ad0 A Q hC hX ad H locs lsC hV hl)
theorem nv_imul {x y : Int32} (hi : nv_dc M pc .imul 1 nx) (K : nv_E G d M nx ls (.int (x * y) :: st) σ r) : nv_E G d M pc ls (.int y :: .int x :: st) σ r := by
  obtain ⟨hi, rfl⟩ := hi
  exact fun p e R s m args below meth c n0 ad0 A Q hC hX ad H locs lsC hV hl => lv_imul hC.1 hC.2.1 hi (K p e R s m args below meth c n0 ad0 A Q hC hX ad H locs lsC hV hl)
theorem nv_iand {x y : Int32} (hi : nv_dc M pc .iand 1 nx) (K : nv_E G d M nx ls (.int (x &&& y) :: st) σ r) : nv_E G d M pc ls (.int y :: .int x :: st) σ r := by
  obtain ⟨hi, rfl⟩ := hi
  exact fun p e R s m args below meth c n0 ad0 A Q hC hX ad H locs lsC hV hl => lv_iand hC.1 hC.2.1 hi (K p e R s m args below meth c n0 ad0 A Q hC hX ad H locs lsC hV hl)
theorem nv_ior {x y : Int32} (hi : nv_dc M pc .ior 1 nx) (K : nv_E G d M nx ls (.int (x ||| y) :: st) σ r) : nv_E G d M pc ls (.int y :: .int x :: st) σ r := by
  obtain ⟨hi, rfl⟩ := hi
  exact fun p e R s m args below meth c n0 ad0 A Q hC hX ad H locs lsC hV hl => lv_ior hC.1 hC.2.1 hi (K p e R s m args below meth c n0 ad0 A Q hC hX ad H locs lsC hV hl)
theorem nv_ixor {x y : Int32} (hi : nv_dc M pc .ixor 1 nx) (K : nv_E G d M nx ls (.int (x ^^^ y) :: st) σ r) : nv_E G d M pc ls (.int y :: .int x :: st) σ r := by
  obtain ⟨hi, rfl⟩ := hi
  exact fun p e R s m args below meth c n0 ad0 A Q hC hX ad H locs lsC hV hl => lv_ixor hC.1 hC.2.1 hi (K p e R s m args below meth c n0 ad0 A Q hC hX ad H locs lsC hV hl)
theorem nv_ishl {x y : Int32} (hi : nv_dc M pc .ishl 1 nx) (K : nv_E G d M nx ls (.int (x <<< (y &&& 31)) :: st) σ r) : nv_E G d M pc ls (.int y :: .int x :: st) σ r := by
  obtain ⟨hi, rfl⟩ := hi
  exact fun p e R s m args below meth c n0 ad0 A Q hC hX ad H locs lsC hV hl => lv_ishl hC.1 hC.2.1 hi (K p e R s m args below meth c n0 ad0 A Q hC hX ad H locs lsC hV hl)
theorem nv_ishr {x y : Int32} (hi : nv_dc M pc .ishr 1 nx) (K : nv_E G d M nx ls (.int (x >>> (y &&& 31)) :: st) σ r) : nv_E G d M pc ls (.int y :: .int x :: st) σ r := by
  obtain ⟨hi, rfl⟩ := hi
  exact fun p e R s m args below meth c n0 ad0 A Q hC hX ad H locs lsC hV hl => lv_ishr hC.1 hC.2.1 hi (K p e R s m args below meth c n0 ad0 A Q hC hX ad H locs lsC hV hl)
theorem nv_iushr {x y : Int32} (hi : nv_dc M pc .iushr 1 nx) (K : nv_E G d M nx ls (.int ((x.toUInt32 >>> (y.toUInt32 &&& Int32.toUInt32 31)).toInt32) :: st) σ r) : nv_E G d M pc ls (.int y :: .int x :: st) σ r := by
  obtain ⟨hi, rfl⟩ := hi
  exact fun p e R s m args below meth c n0 ad0 A Q hC hX ad H locs lsC hV hl => lv_iushr hC.1 hC.2.1 hi rfl (K p e R s m args below meth c n0 ad0 A Q hC hX ad H locs lsC hV hl)
theorem nv_idiv {x y : Int32} (hi : nv_dc M pc .idiv 1 nx) (hne : ¬ y = 0) (K : nv_E G d M nx ls (.int (x / y) :: st) σ r) : nv_E G d M pc ls (.int y :: .int x :: st) σ r := by
  obtain ⟨hi, rfl⟩ := hi
  exact fun p e R s m args below meth c n0 ad0 A Q hC hX ad H locs lsC hV hl => lv_idiv hC.1 hC.2.1 hi hne (K p e R s m args below meth c n0 ad0 A Q hC hX ad H locs lsC hV hl)
theorem nv_ladd {x y : Int64} (hi : nv_dc M pc .ladd 1 nx) (K : nv_E G d M nx ls (.long (x + y) :: st) σ r) : nv_E G d M pc ls (.long y :: .long x :: st) σ r := by
  obtain ⟨hi, rfl⟩ := hi
  exact fun p e R s m args below meth c n0 ad0 A Q hC hX ad H locs lsC hV hl => lv_ladd hC.1 hC.2.1 hi (K p e R s m args below meth c n0 ad0 A Q hC hX ad H locs lsC hV hl)
theorem nv_lmul {x y : Int64} (hi : nv_dc M pc .lmul 1 nx) (K : nv_E G d M nx ls (.long (x * y) :: st) σ r) : nv_E G d M pc ls (.long y :: .long x :: st) σ r := by
  obtain ⟨hi, rfl⟩ := hi
  exact fun p e R s m args below meth c n0 ad0 A Q hC hX ad H locs lsC hV hl => lv_lmul hC.1 hC.2.1 hi (K p e R s m args below meth c n0 ad0 A Q hC hX ad H locs lsC hV hl)
theorem nv_lcmp {x y : Int64} (hi : nv_dc M pc .lcmp 1 nx) (K : nv_E G d M nx ls (.int (lg_cmp x y) :: st) σ r) : nv_E G d M pc ls (.long y :: .long x :: st) σ r := by
  obtain ⟨hi, rfl⟩ := hi
  exact fun p e R s m args below meth c n0 ad0 A Q hC hX ad H locs lsC hV hl => W.lcmp hC.1 hC.2.1 hi (K p e R s m args below meth c n0 ad0 A Q hC hX ad H locs lsC hV hl)
theorem nv_i2l {x : Int32} (hi : nv_dc M pc .i2l 1 nx) (K : nv_E G d M nx ls (.long x.toInt64 :: st) σ r) : nv_E G d M pc ls (.int x :: st) σ r := by
  obtain ⟨hi, rfl⟩ := hi
  exact fun p e R s m args below meth c n0 ad0 A Q hC hX ad H locs lsC hV hl => lv_i2l hC.1 hC.2.1 hi rfl (K p e R s m args below meth c n0 ad0 A Q hC hX ad H locs lsC hV hl)
theorem nv_i2b {x : Int32} (hi : nv_dc M pc .i2b 1 nx) (K : nv_E G d M nx ls (.int x.toInt8.toInt32 :: st) σ r) : nv_E G d M pc ls (.int x :: st) σ r := by
  obtain ⟨hi, rfl⟩ := hi
  exact fun p e R s m args below meth c n0 ad0 A Q hC hX ad H locs lsC hV hl => lv_i2b hC.1 hC.2.1 hi rfl (K p e R s m args below meth c n0 ad0 A Q hC hX ad H locs lsC hV hl)
theorem nv_i2s {x : Int32} (hi : nv_dc M pc .i2s 1 nx) (K : nv_E G d M nx ls (.int x.toInt16.toInt32 :: st) σ r) : nv_E G d M pc ls (.int x :: st) σ r := by
  obtain ⟨hi, rfl⟩ := hi
  exact fun p e R s m args below meth c n0 ad0 A Q hC hX ad H locs lsC hV hl => lv_i2s hC.1 hC.2.1 hi rfl (K p e R s m args below meth c n0 ad0 A Q hC hX ad H locs lsC hV hl)
theorem nv_dup {v : Value} (hi : nv_dc M pc .dup 1 nx) (hv : v.category = 1) (K : nv_E G d M nx ls (v :: v :: st) σ r) : nv_E G d M pc ls (v :: st) σ r := by
  obtain ⟨hi, rfl⟩ := hi
  exact fun p e R s m args below meth c n0 ad0 A Q hC hX ad H locs lsC hV hl => lv_dup hC.1 hC.2.1 hi (by rw [nv_cV_cat]; exact hv) (K p e R s m args below meth c n0 ad0 A Q hC hX ad H locs lsC hV hl)
theorem nv_dup2 {v w : Value} (hi : nv_dc M pc .dup2 1 nx) (hv : v.category = 1) (hw : w.category = 1) (K : nv_E G d M nx ls (v :: w :: v :: w :: st) σ r) : nv_E G d M pc ls (v :: w :: st) σ r := by
  obtain ⟨hi, rfl⟩ := hi
  exact fun p e R s m args below meth c n0 ad0 A Q hC hX ad H locs lsC hV hl => lv_dup2_11 hC.1 hC.2.1 hi (by rw [nv_cV_cat]; exact hv) (by rw [nv_cV_cat]; exact hw) (K p e R s m args below meth c n0 ad0 A Q hC hX ad H locs lsC hV hl)
theorem nv_pop {v : Value} (hi : nv_dc M pc .pop 1 nx) (hv : v.category = 1) (K : nv_E G d M nx ls st σ r) : nv_E G d M pc ls (v :: st) σ r := by
  obtain ⟨hi, rfl⟩ := hi
  exact fun p e R s m args below meth c n0 ad0 A Q hC hX ad H locs lsC hV hl => lv_pop hC.1 hC.2.1 hi (by rw [nv_cV_cat]; exact hv) (K p e R s m args below meth c n0 ad0 A Q hC hX ad H locs lsC hV hl)
theorem nv_ifeq {x : Int32} (hi : nv_dif M pc .eq tgt nx) (K1 : x = 0 → nv_E G d M tgt ls st σ r) (K2 : ¬ x = 0 → nv_E G d M nx ls st σ r) : nv_E G d M pc ls (.int x :: st) σ r := by
  obtain ⟨off, hi, ht, rfl⟩ := hi
  exact fun p e R s m args below meth c n0 ad0 A Q hC hX ad H locs lsC hV hl => lv_if_eq hC.1 hC.2.1 hi ht (fun h => K1 h p e R s m args below meth c n0 ad0 A Q hC hX ad H locs lsC hV hl) (fun h => K2 h p e R s m args below meth c n0 ad0 A Q hC hX ad H locs lsC hV hl)
theorem nv_iflt {x : Int32} (hi : nv_dif M pc .lt tgt nx) (K1 : x < 0 → nv_E G d M tgt ls st σ r) (K2 : ¬ x < 0 → nv_E G d M nx ls st σ r) : nv_E G d M pc ls (.int x :: st) σ r := by
  obtain ⟨off, hi, ht, rfl⟩ := hi
  exact fun p e R s m args below meth c n0 ad0 A Q hC hX ad H locs lsC hV hl => lv_if_lt hC.1 hC.2.1 hi ht (fun h => K1 h p e R s m args below meth c n0 ad0 A Q hC hX ad H locs lsC hV hl) (fun h => K2 h p e R s m args below meth c n0 ad0 A Q hC hX ad H locs lsC hV hl)
theorem nv_ifge {x : Int32} (hi : nv_dif M pc .ge tgt nx) (K1 : 0 ≤ x → nv_E G d M tgt ls st σ r) (K2 : ¬ 0 ≤ x → nv_E G d M nx ls st σ r) : nv_E G d M pc ls (.int x :: st) σ r := by
  obtain ⟨off, hi, ht, rfl⟩ := hi
  exact fun p e R s m args below meth c n0 ad0 A Q hC hX ad H locs lsC hV hl => lv_if_ge hC.1 hC.2.1 hi ht (fun h => K1 h p e R s m args below meth c n0 ad0 A Q hC hX ad H locs lsC hV hl) (fun h => K2 h p e R s m args below meth c n0 ad0 A Q hC hX ad H locs lsC hV hl)
theorem nv_ifgt {x : Int32} (hi : nv_dif M pc .gt tgt nx) (K1 : 0 < x → nv_E G d M tgt ls st σ r) (K2 : ¬ 0 < x → nv_E G d M nx ls st σ r) : nv_E G d M pc ls (.int x :: st) σ r := by
  obtain ⟨off, hi, ht, rfl⟩ := hi
  exact fun p e R s m args below meth c n0 ad0 A Q hC hX ad H locs lsC hV hl => lv_if_gt hC.1 hC.2.1 hi ht (fun h => K1 h p e R s m args below meth c n0 ad0 A Q hC hX ad H locs lsC hV hl) (fun h => K2 h p e R s m args below meth c n0 ad0 A Q hC hX ad H locs lsC hV hl)
theorem nv_ifle {x : Int32} (hi : nv_dif M pc .le tgt nx) (K1 : x ≤ 0 → nv_E G d M tgt ls st σ r) (K2 : ¬ x ≤ 0 → nv_E G d M nx ls st σ r) : nv_E G d M pc ls (.int x :: st) σ r := by
  obtain ⟨off, hi, ht, rfl⟩ := hi
  exact fun p e R s m args below meth c n0 ad0 A Q hC hX ad H locs lsC hV hl => lv_if_le hC.1 hC.2.1 hi ht (fun h => K1 h p e R s m args below meth c n0 ad0 A Q hC hX ad H locs lsC hV hl) (fun h => K2 h p e R s m args below meth c n0 ad0 A Q hC hX ad H locs lsC hV hl)
theorem nv_ifne {x : Int32} (hi : nv_dif M pc .ne tgt nx) (K1 : x = 0 → nv_E G d M nx ls st σ r) (K2 : ¬ x = 0 → nv_E G d M tgt ls st σ r) : nv_E G d M pc ls (.int x :: st) σ r := by
  obtain ⟨off, hi, ht, rfl⟩ := hi
  exact fun p e R s m args below meth c n0 ad0 A Q hC hX ad H locs lsC hV hl => lv_if_ne hC.1 hC.2.1 hi ht (fun h => K2 h p e R s m args below meth c n0 ad0 A Q hC hX ad H locs lsC hV hl) (fun h => K1 h p e R s m args below meth c n0 ad0 A Q hC hX ad H locs lsC hV hl)
theorem nv_iceq {x y : Int32} (hi : nv_dic M pc .eq tgt nx) (K1 : x = y → nv_E G d M tgt ls st σ r) (K2 : ¬ x = y → nv_E G d M nx ls st σ r) : nv_E G d M pc ls (.int y :: .int x :: st) σ r := by
  obtain ⟨off, hi, ht, rfl⟩ := hi
  exact fun p e R s m args below meth c n0 ad0 A Q hC hX ad H locs lsC hV hl => lv_icmp_eq hC.1 hC.2.1 hi ht (fun h => K1 h p e R s m args below meth c n0 ad0 A Q hC hX ad H locs lsC hV hl) (fun h => K2 h p e R s m args below meth c n0 ad0 A Q hC hX ad H locs lsC hV hl)
theorem nv_iclt {x y : Int32} (hi : nv_dic M pc .lt tgt nx) (K1 : x < y → nv_E G d M tgt ls st σ r) (K2 : ¬ x < y → nv_E G d M nx ls st σ r) : nv_E G d M pc ls (.int y :: .int x :: st) σ r := by
  obtain ⟨off, hi, ht, rfl⟩ := hi
  exact fun p e R s m args below meth c n0 ad0 A Q hC hX ad H locs lsC hV hl => lv_icmp_lt hC.1 hC.2.1 hi ht (fun h => K1 h p e R s m args below meth c n0 ad0 A Q hC hX ad H locs lsC hV hl) (fun h => K2 h p e R s m args below meth c n0 ad0 A Q hC hX ad H locs lsC hV hl)
theorem nv_icge {x y : Int32} (hi : nv_dic M pc .ge tgt nx) (K1 : y ≤ x → nv_E G d M tgt ls st σ r) (K2 : ¬ y ≤ x → nv_E G d M nx ls st σ r) : nv_E G d M pc ls (.int y :: .int x :: st) σ r := by
  obtain ⟨off, hi, ht, rfl⟩ := hi
  exact fun p e R s m args below meth c n0 ad0 A Q hC hX ad H locs lsC hV hl => lv_icmp_ge hC.1 hC.2.1 hi ht (fun h => K1 h p e R s m args below meth c n0 ad0 A Q hC hX ad H locs lsC hV hl) (fun h => K2 h p e R s m args below meth c n0 ad0 A Q hC hX ad H locs lsC hV hl)
theorem nv_icgt {x y : Int32} (hi : nv_dic M pc .gt tgt nx) (K1 : y < x → nv_E G d M tgt ls st σ r) (K2 : ¬ y < x → nv_E G d M nx ls st σ r) : nv_E G d M pc ls (.int y :: .int x :: st) σ r := by
  obtain ⟨off, hi, ht, rfl⟩ := hi
  exact fun p e R s m args below meth c n0 ad0 A Q hC hX ad H locs lsC hV hl => lv_icmp_gt hC.1 hC.2.1 hi ht (fun h => K1 h p e R s m args below meth c n0 ad0 A Q hC hX ad H locs lsC hV hl) (fun h => K2 h p e R s m args below meth c n0 ad0 A Q hC hX ad H locs lsC hV hl)
theorem nv_icle {x y : Int32} (hi : nv_dic M pc .le tgt nx) (K1 : x ≤ y → nv_E G d M tgt ls st σ r) (K2 : ¬ x ≤ y → nv_E G d M nx ls st σ r) : nv_E G d M pc ls (.int y :: .int x :: st) σ r := by
  obtain ⟨off, hi, ht, rfl⟩ := hi
  exact fun p e R s m args below meth c n0 ad0 A Q hC hX ad H locs lsC hV hl => lv_icmp_le hC.1 hC.2.1 hi ht (fun h => K1 h p e R s m args below meth c n0 ad0 A Q hC hX ad H locs lsC hV hl) (fun h => K2 h p e R s m args below meth c n0 ad0 A Q hC hX ad H locs lsC hV hl)
theorem nv_icne {x y : Int32} (hi : nv_dic M pc .ne tgt nx) (K1 : x = y → nv_E G d M nx ls st σ r) (K2 : ¬ x = y → nv_E G d M tgt ls st σ r) : nv_E G d M pc ls (.int y :: .int x :: st) σ r := by
  obtain ⟨off, hi, ht, rfl⟩ := hi
  exact fun p e R s m args below meth c n0 ad0 A Q hC hX ad H locs lsC hV hl => lv_icmp_ne hC.1 hC.2.1 hi ht (fun h => K2 h p e R s m args below meth c n0 ad0 A Q hC hX ad H locs lsC hV hl) (fun h => K1 h p e R s m args below meth c n0 ad0 A Q hC hX ad H locs lsC hV hl)
theorem nv_goto (hi : nv_dgo M pc tgt) (K : nv_E G d M tgt ls st σ r) : nv_E G d M pc ls st σ r := by
  obtain ⟨off, hi, ht⟩ := hi
  exact fun p e R s m args below meth c n0 ad0 A Q hC hX ad H locs lsC hV hl => lv_goto hC.1 hC.2.1 hi ht (K p e R s m args below meth c n0 ad0 A Q hC hX ad H locs lsC hV hl)
def nv_dsw (M : nv_MI) (pc : Nat) (x : Int32) (tgt : Nat) : Prop :=
  (∃ (dflt lo hi : Int) (offs : Array Int) (len : Nat), decode M.2.1 pc = .ok (.tableswitch dflt lo hi offs, len) ∧ ((∃ off : Int, ¬ x.toInt < lo ∧ ¬ hi < x.toInt ∧ offs[(x.toInt - lo).toNat]? = some off ∧ (pc : Int) + off = (tgt : Int)) ∨ ((x.toInt < lo ∨ hi < x.toInt) ∧ (pc : Int) + dflt = (tgt : Int)))) ∨
  (∃ (dflt : Int) (ps : Array (Int × Int)) (len : Nat) (off : Int), decode M.2.1 pc = .ok (.lookupswitch dflt ps, len) ∧ (ps.toList.zip (ps.toList.drop 1)).all (fun (a, next) => a.1 < next.1) = true ∧ Op.lookupswitch.offset ps.toList dflt x.toInt = off ∧ (pc : Int) + off = (tgt : Int))
theorem nv_switch {x : Int32} (hi : nv_dsw M pc x tgt) (K : nv_E G d M tgt ls st σ r) : nv_E G d M pc ls (.int x :: st) σ r := by
  intro p e R s m args below meth c n0 ad0 A Q hC hX ad H locs lsC hV hl
  rcases hi with ⟨dflt, lo, hi, offs, len, h1, ⟨off, h2, h3, h4, h5⟩ | ⟨h2, h3⟩⟩ | ⟨dflt, ps, len, off, h1, h2, h3, h4⟩
  · exact lv_tableIn hC.1 hC.2.1 h1 h2 h3 h4 h5 (K p e R s m args below meth c n0 ad0 A Q hC hX ad H locs lsC hV hl)
  · exact lv_tableOut hC.1 hC.2.1 h1 h2 h3 (K p e R s m args below meth c n0 ad0 A Q hC hX ad H locs lsC hV hl)
  · exact lv_lookup hC.1 hC.2.1 h1 h2 h3 h4 (K p e R s m args below meth c n0 ad0 A Q hC hX ad H locs lsC hV hl)
theorem nv_ireturn {v : Int32} {ty : FieldType} (hi : decode M.2.1 pc = .ok (.ireturn, 1)) (ht : M.2.2.2 = some ty) (hn : narrow ty (.int v) = .int v) : nv_E G d M pc ls [.int v] σ (some (.int v), σ) :=
  fun p e R s m args below meth c n0 ad0 A Q hC hX ad H locs lsC hV hl => hX ad H locs lsC pc hV ⟨hi, ty, ht, hn⟩
theorem nv_lreturn {v : Int64} (hi : decode M.2.1 pc = .ok (.lreturn, 1)) (ht : M.2.2.2 = some .long) : nv_E G d M pc ls [.long v] σ (some (.long v), σ) :=
  fun p e R s m args below meth c n0 ad0 A Q hC hX ad H locs lsC hV hl => hX ad H locs lsC pc hV ⟨hi, ht⟩
theorem nv_return (hi : decode M.2.1 pc = .ok (.return_, 1)) (ht : M.2.2.2 = none) : nv_E G d M pc ls [] σ (none, σ) :=
  fun p e R s m args below meth c n0 ad0 A Q hC hX ad H locs lsC hV hl => hX ad H locs lsC pc hV ⟨hi, ht⟩
end
end
section
/-! ===== rules that read and write cells ===== -/
/-- a field by its link: class number ci, field j -/
def nv_Fl (own : String) (ix ci j : Nat) : Prop := ∃ (C : String) (T : u_T) (N : Nat) (ty0 : Nat → FieldType), nv_cls[ci]? = some (C, T, N) ∧ j < N ∧ Cond.fieldLink own ix C (T j).2.1 (T j).2.2.1 ∈ nv_gt ∧ (T j).1 = C ∧ (∀ w ∈ u_ws C T N, w ∈ nv_gt) ∧
  (∀ k, k < N → parseFieldDescriptor (T k).2.2.1 = some (ty0 k)) ∧ (∀ a, a < N → ∀ b, b < N → a ≠ b → (T a).2.1 ≠ (T b).2.1)
/-- a field that may be put: not final, of type ty -/
def nv_Fp (own : String) (ix ci j : Nat) (ty : FieldType) : Prop := ∃ (C : String) (T : u_T) (N : Nat) (ty0 : Nat → FieldType), nv_cls[ci]? = some (C, T, N) ∧ j < N ∧ Cond.fieldLink own ix C (T j).2.1 (T j).2.2.1 ∈ nv_gt ∧ (T j).1 = C ∧ (∀ w ∈ u_ws C T N, w ∈ nv_gt) ∧
  (∀ k, k < N → parseFieldDescriptor (T k).2.2.1 = some (ty0 k)) ∧ (∀ a, a < N → ∀ b, b < N → a ≠ b → (T a).2.1 ≠ (T b).2.1) ∧ (T j).2.2.2 = false ∧ parseFieldDescriptor (T j).2.2.1 = some ty
/-- a final field, put in the constructor of its own class -/
def nv_Ff (own : String) (ix ci j : Nat) (ty : FieldType) : Prop := ∃ (C : String) (T : u_T) (N : Nat) (ty0 : Nat → FieldType), nv_cls[ci]? = some (C, T, N) ∧ j < N ∧ Cond.fieldLink own ix C (T j).2.1 (T j).2.2.1 ∈ nv_gt ∧ (T j).1 = C ∧ (∀ w ∈ u_ws C T N, w ∈ nv_gt) ∧
  (∀ k, k < N → parseFieldDescriptor (T k).2.2.1 = some (ty0 k)) ∧ (∀ a, a < N → ∀ b, b < N → a ≠ b → (T a).2.1 ≠ (T b).2.1) ∧ (T j).2.2.2 = true ∧ parseFieldDescriptor (T j).2.2.1 = some ty ∧ C = own
def nv_inb (i : Int32) (n : Nat) : Bool := decide (¬ i < 0) && decide (i.toNatClampNeg < n)
theorem nv_inb_vp {i : Int32} {n : Nat} (h : nv_inb i n = true) : vp_in i n := by
  unfold nv_inb at h
  simp only [Bool.and_eq_true, decide_eq_true_eq] at h
  exact fun q => q.elim h.1 (fun q => by omega)
section
variable {G : nv_G} {d : Nat} {M : nv_MI} {pc nx tgt : Nat} {ls : List (Option Value)} {st : List Value} {h : nv_Hp} {z : nv_Zp} {n : Nat} {r : nv_R}
theorem nv_V.wg {s : State} {n0 : Nat} {ad0 ad : Nat → Nat} {A : Nat → Prop} {H : Heap} {locs : List Loc} {k : Nat} (_ : nv_V G r s n0 ad0 A ad (h, z, n) H locs) (hk : k < n) {e : nv_Sh} (hs : nv_shp k = e) : (nv_w ad G.2.2.1 (h, z, n))[k]? = some (ad k, nv_ce ad G.2.2.1 h z k e) := by
  subst hs
  exact nv_w_get (σ := (h, z, n)) hk
theorem nv_V.put {s : State} {n0 : Nat} {ad0 ad : Nat → Nat} {A : Nat → Prop} {H H1 : Heap} {locs locs1 : List Loc} {k : Nat} {h' : nv_Hp} {z' : nv_Zp} {e : va_E} (hV : nv_V G r s n0 ad0 A ad (h, z, n) H locs) (hk : k < n) (he : e = nv_ce ad G.2.2.1 h' z' k (nv_shp k)) (h1 : ∀ a i, a ≠ k → h' a i = h a i) (h2 : ∀ a i, a ≠ k → z' a i = z a i)
    (hP : va_P G.2.1 nv_cls ((nv_w ad G.2.2.1 (h, z, n)).set k (ad k, e)) H1) (hD : va_D A ((nv_w ad G.2.2.1 (h, z, n)).set k (ad k, e))) (hS : va_S A s.heap H1 locs1) : nv_V G r s n0 ad0 A ad (h', z', n) H1 locs1 := by
  rw [nv_w_set hk he h1 h2] at hP hD
  exact ⟨hV.1, hV.2.1, hV.2.2.1, hP, hD, hS⟩
theorem nv_getI {ix ci j k : Nat} {fl : List (Option Nat)} (hF : nv_Fl M.1.cls ix ci j) (hi : nv_dc M pc (.getfield ix) 3 nx) (hk : k < n ∧ nv_shp k = .inr (ci, fl)) (hj : fl[j]? = some none) (K : nv_E G d M nx ls (.int (h k j) :: st) (h, z, n) r) : nv_E G d M pc ls (.ref k :: st) (h, z, n) r := by
  obtain ⟨hi, rfl⟩ := hi
  obtain ⟨C, T, N, ty0, f1, f2, f3, f4, f5, f6, f7⟩ := hF
  intro p e R s m args below meth c n0 ad0 A Q hC hX ad H locs lsC hV hl
  exact va_get (D := G.2.1) (cl := nv_cls) hC.1 hC.2.1 hC.2.2.2.2.1 f5 hC.2.2.2.1 hC.2.2.2.2.2.1 hV.2.2.2.1 k (hV.wg hk.1 hk.2) f1 j f2 (hC.2.2.2.2.1 _ f3) (fun x hx => by rw [f4] at hx; exact hx) (nv_fv_int hj) hi (K p e R s m args below meth c n0 ad0 A Q hC hX ad H locs lsC hV hl)
theorem nv_getR {ix ci j k t : Nat} {fl : List (Option Nat)} (hF : nv_Fl M.1.cls ix ci j) (hi : nv_dc M pc (.getfield ix) 3 nx) (hk : k < n ∧ nv_shp k = .inr (ci, fl)) (hj : fl[j]? = some (some t)) (hz : z k j = true) (K : nv_E G d M nx ls (.ref t :: st) (h, z, n) r) : nv_E G d M pc ls (.ref k :: st) (h, z, n) r := by
  obtain ⟨hi, rfl⟩ := hi
  obtain ⟨C, T, N, ty0, f1, f2, f3, f4, f5, f6, f7⟩ := hF
  intro p e R s m args below meth c n0 ad0 A Q hC hX ad H locs lsC hV hl
  exact va_get (D := G.2.1) (cl := nv_cls) hC.1 hC.2.1 hC.2.2.2.2.1 f5 hC.2.2.2.1 hC.2.2.2.2.2.1 hV.2.2.2.1 k (hV.wg hk.1 hk.2) f1 j f2 (hC.2.2.2.2.1 _ f3) (fun x hx => by rw [f4] at hx; exact hx) (nv_fv_ref hj hz) hi (K p e R s m args below meth c n0 ad0 A Q hC hX ad H locs lsC hV hl)
theorem nv_putI {ix ci j k : Nat} {fl : List (Option Nat)} {ty : FieldType} {x : Int32} (hF : nv_Fp M.1.cls ix ci j ty) (hi : nv_dc M pc (.putfield ix) 3 nx) (hk : k < n ∧ nv_shp k = .inr (ci, fl)) (hj : fl[j]? = some none) (hn : narrow ty (.int x) = .int x) (hfit : fits ty (.int x) = true) (K : nv_E G d M nx ls st (nv_up h k j x, z, n) r) : nv_E G d M pc ls (.int x :: .ref k :: st) (h, z, n) r := by
  obtain ⟨hi, rfl⟩ := hi
  obtain ⟨C, T, N, ty0, f1, f2, f3, f4, f5, f6, f7, f8, f9⟩ := hF
  intro p e R s m args below meth c n0 ad0 A Q hC hX ad H locs lsC hV hl
  have hjl : j < fl.length := (List.getElem?_eq_some_iff.mp hj).1
  refine va_put (D := G.2.1) (cl := nv_cls) hC.1 hC.2.1 hC.2.2.2.2.1 f5 ty0 f6 f7 hC.2.2.2.1 hC.2.2.2.2.2.1 hV.2.2.2.1 hV.2.2.2.2.1 hV.2.2.2.2.2 k (hV.wg hk.1 hk.2) f1 j f2 (hC.2.2.2.2.1 _ f3) (fun x hx => by rw [f4] at hx; exact hx) f8 f9 hn hfit (by rw [nv_fv_len]; exact hjl) hi (fun H1 locs1 hP hD hS => ?_)
  exact K p e R s m args below meth c n0 ad0 A Q hC hX ad H1 locs1 lsC (hV.put hk.1 (by rw [hk.2, nv_cV_int, nv_fv_set hj]; rfl) (fun a i ha => nv_up_k h x ha) (fun _ _ _ => rfl) hP hD hS) hl
theorem nv_putF {ix ci j k t : Nat} {fl : List (Option Nat)} {ty : FieldType} (hF : nv_Ff M.1.cls ix ci j ty) (hi : nv_dc M pc (.putfield ix) 3 nx) (hk : k < n ∧ nv_shp k = .inr (ci, fl)) (hj : fl[j]? = some (some t)) (hin : M.1.name = "<init>") (hn : ∀ a : Nat, narrow ty (.ref a) = .ref a) (hfit : ∀ a : Nat, fits ty (.ref a) = true) (K : nv_E G d M nx ls st (h, nv_uz z k j, n) r) : nv_E G d M pc ls (.ref t :: .ref k :: st) (h, z, n) r := by
  obtain ⟨hi, rfl⟩ := hi
  obtain ⟨C, T, N, ty0, f1, f2, f3, f4, f5, f6, f7, f8, f9, f10⟩ := hF
  intro p e R s m args below meth c n0 ad0 A Q hC hX ad H locs lsC hV hl
  have hjl : j < fl.length := (List.getElem?_eq_some_iff.mp hj).1
  refine va_putF (D := G.2.1) (cl := nv_cls) hC.1 hC.2.1 hC.2.2.2.2.1 f5 ty0 f6 f7 hC.2.2.2.1 hC.2.2.2.2.2.1 hV.2.2.2.1 hV.2.2.2.2.1 hV.2.2.2.2.2 k (hV.wg hk.1 hk.2) f1 j f2 (hC.2.2.2.2.1 _ f3) (fun x hx => by rw [f4] at hx; exact hx) f8 (by rw [hC.2.2.2.2.2.2.2.2.1]; exact hin) (by rw [f4, f10]) f9 (hn _) (hfit _) (by rw [nv_fv_len]; exact hjl) hi (fun H1 locs1 hP hD hS => ?_)
  refine K p e R s m args below meth c n0 ad0 A Q hC hX ad H1 locs1 lsC (hV.put (h' := h) (z' := nv_uz z k j) hk.1 (by rw [hk.2, nv_cV_ref, nv_fv_setr hj]; rfl) (fun _ _ _ => rfl) (fun a i ha => by simp [nv_uz, ha]) hP hD hS) hl
theorem nv_iald {i : Int32} {k len : Nat} (hi : nv_dc M pc .iaload 1 nx) (hk : k < n ∧ nv_shp k = .inl (len, none)) (hin : nv_inb i len = true) (K : nv_E G d M nx ls (.int (h k i.toNatClampNeg) :: st) (h, z, n) r) : nv_E G d M pc ls (.int i :: .ref k :: st) (h, z, n) r := by
  obtain ⟨hi, rfl⟩ := hi
  intro p e R s m args below meth c n0 ad0 A Q hC hX ad H locs lsC hV hl
  exact va_iald (D := G.2.1) (cl := nv_cls) hC.1 hC.2.1 hC.2.2.2.2.2.1 hV.2.2.2.1 k 0 (hV.wg hk.1 hk.2) rfl (nv_inb_vp hin) hi (K p e R s m args below meth c n0 ad0 A Q hC hX ad H locs lsC hV hl)
theorem nv_iast {i x : Int32} {k len : Nat} (hi : nv_dc M pc .iastore 1 nx) (hk : k < n ∧ nv_shp k = .inl (len, none)) (hin : nv_inb i len = true) (K : nv_E G d M nx ls st (nv_up h k i.toNatClampNeg x, z, n) r) : nv_E G d M pc ls (.int x :: .int i :: .ref k :: st) (h, z, n) r := by
  obtain ⟨hi, rfl⟩ := hi
  intro p e R s m args below meth c n0 ad0 A Q hC hX ad H locs lsC hV hl
  refine va_iast (D := G.2.1) (cl := nv_cls) hC.1 hC.2.1 hC.2.2.2.2.2.1 hV.2.2.2.1 hV.2.2.2.2.1 hV.2.2.2.2.2 k 0 (hV.wg hk.1 hk.2) rfl (nv_inb_vp hin) hi (fun H1 locs1 hP hD hS => ?_)
  refine K p e R s m args below meth c n0 ad0 A Q hC hX ad H1 locs1 lsC (hV.put hk.1 (z' := z) (h' := nv_up h k i.toNatClampNeg x) ?_ (fun a i ha => nv_up_k h x ha) (fun _ _ _ => rfl) hP hD hS) hl
  rw [hk.2]
  show (.inl (G.2.2.1 0, len, .inl (upd (h k) i.toNatClampNeg x)) : va_E) = .inl (G.2.2.1 0, len, .inl (nv_up h k i.toNatClampNeg x k))
  congr 4
  funext b
  by_cases hb : b = i.toNatClampNeg
  · subst hb
    rw [nv_up_s]; simp [upd]
  · rw [nv_up_j h x hb]; simp [upd, hb]
theorem nv_aald {i : Int32} {k len t b w : Nat} (hi : nv_dc M pc .aaload 1 nx) (hk : k < n ∧ nv_shp k = .inl (len, some (t, b, w))) (ht : ∃ C, (nv_tys G.2.2.1)[t]? = some (G.2.2.1 t, .object C)) (hin : nv_inb i len = true) (hz : z k i.toNatClampNeg = true) (K : nv_E G d M nx ls (.ref (b + w * i.toNatClampNeg) :: st) (h, z, n) r) : nv_E G d M pc ls (.int i :: .ref k :: st) (h, z, n) r := by
  obtain ⟨hi, rfl⟩ := hi
  obtain ⟨C, ht⟩ := ht
  intro p e R s m args below meth c n0 ad0 A Q hC hX ad H locs lsC hV hl
  refine va_aldq (D := G.2.1) (cl := nv_cls) hC.1 hC.2.1 hC.2.2.2.2.2.1 hV.2.2.2.1 k t (hV.wg hk.1 hk.2) ht (nv_inb_vp hin) hi ?_
  rw [if_pos hz]
  exact K p e R s m args below meth c n0 ad0 A Q hC hX ad H locs lsC hV hl
theorem nv_alen {k len : Nat} {v : Int32} (hi : nv_dc M pc .arraylength 1 nx) (hk : k < n ∧ nv_shp k = .inl (len, none)) (hv : Int32.ofNat len = v) (K : nv_E G d M nx ls (.int v :: st) (h, z, n) r) : nv_E G d M pc ls (.ref k :: st) (h, z, n) r := by
  obtain ⟨hi, rfl⟩ := hi
  intro p e R s m args below meth c n0 ad0 A Q hC hX ad H locs lsC hV hl
  exact va_alen (D := G.2.1) (cl := nv_cls) hC.1 hC.2.1 hC.2.2.2.2.2.1 hV.2.2.2.1 k 0 (hV.wg hk.1 hk.2) rfl hv hi (K p e R s m args below meth c n0 ad0 A Q hC hX ad H locs lsC hV hl)
/-! statics and the script -/
theorem nv_gets {ix i : Nat} {ty : FieldType} {nm ds : String} {l : List Int32} (hi : nv_dc M pc (.getstatic ix) 3 nx) (hs : nv_stat i = some (ty, nm, ds, l)) (hl' : Cond.fieldLink M.1.cls ix "WhoseName" nm ds ∈ nv_gt) {σ : nv_Sg} (K : nv_E G d M nx ls (.ref (1000 + i) :: st) σ r) : nv_E G d M pc ls st σ r := by
  obtain ⟨hi, rfl⟩ := hi
  intro p e R s m args below meth c n0 ad0 A Q hC hX ad H locs lsC hV hl
  have hZ := (hC.2.2.2.2.2.2.2.1.1 i ty nm ds l hs).2
  have K' := K p e R s m args below meth c n0 ad0 A Q hC hX ad H locs lsC hV hl
  simp only [List.map_cons, nv_cV_ref, hV.2.2.1 i] at K'
  exact va_gets hC.1 hC.2.1 hZ hV.2.2.2.2.2 hC.2.2.2.1 (hC.2.2.2.2.1 _ hl') (fun x hx => hx) hi K'
theorem nv_getsN {ix i : Nat} {ty : FieldType} {nm ds host : String} {l : List Int32} (hi : nv_dc M pc (.getstatic ix) 3 nx) (hs : nv_stat i = some (ty, nm, ds, l)) (hl' : Cond.fieldLinkNest M.1.cls ix "WhoseName" nm ds host ∈ nv_gt) {σ : nv_Sg} (K : nv_E G d M nx ls (.ref (1000 + i) :: st) σ r) : nv_E G d M pc ls st σ r := by
  obtain ⟨hi, rfl⟩ := hi
  intro p e R s m args below meth c n0 ad0 A Q hC hX ad H locs lsC hV hl
  have hZ := (hC.2.2.2.2.2.2.2.1.1 i ty nm ds l hs).2
  have K' := K p e R s m args below meth c n0 ad0 A Q hC hX ad H locs lsC hV hl
  simp only [List.map_cons, nv_cV_ref, hV.2.2.1 i] at K'
  exact va_getsN hC.1 hC.2.1 hZ hV.2.2.2.2.2 hC.2.2.2.1 (hC.2.2.2.2.1 _ hl') (fun x hx => hx) hi K'
theorem nv_ialdS {i : Nat} {nm ds : String} {l : List Int32} {x : Int32} (hi : nv_dc M pc .iaload 1 nx) (hs : nv_stat i = some (.int, nm, ds, l)) (hin : nv_inb x l.length = true) {σ : nv_Sg} (K : nv_E G d M nx ls (.int (l.getD x.toNatClampNeg 0) :: st) σ r) : nv_E G d M pc ls (.int x :: .ref (1000 + i) :: st) σ r := by
  obtain ⟨hi, rfl⟩ := hi
  intro p e R s m args below meth c n0 ad0 A Q hC hX ad H locs lsC hV hl
  have hT := (hC.2.2.2.2.2.2.2.1.1 i _ nm ds l hs).1
  simp only [List.map_cons, nv_cV_ref, nv_cV_int, hV.2.2.1 i]
  exact va_ti hC.1 hC.2.1 hT hV.2.2.2.2.2 (nv_inb_vp hin) rfl hi (K p e R s m args below meth c n0 ad0 A Q hC hX ad H locs lsC hV hl)
theorem nv_caldS {i : Nat} {nm ds : String} {l : List Int32} {x : Int32} (hi : nv_dc M pc .caload 1 nx) (hs : nv_stat i = some (.char, nm, ds, l)) (hin : nv_inb x l.length = true) {σ : nv_Sg} (K : nv_E G d M nx ls (.int (l.getD x.toNatClampNeg 0) :: st) σ r) : nv_E G d M pc ls (.int x :: .ref (1000 + i) :: st) σ r := by
  obtain ⟨hi, rfl⟩ := hi
  intro p e R s m args below meth c n0 ad0 A Q hC hX ad H locs lsC hV hl
  have hT := (hC.2.2.2.2.2.2.2.1.1 i _ nm ds l hs).1
  simp only [List.map_cons, nv_cV_ref, nv_cV_int, hV.2.2.1 i]
  exact va_tc hC.1 hC.2.1 hT hV.2.2.2.2.2 (nv_inb_vp hin) rfl hi (K p e R s m args below meth c n0 ad0 A Q hC hX ad H locs lsC hV hl)
theorem nv_alenS {i : Nat} {ty : FieldType} {nm ds : String} {l : List Int32} {v : Int32} (hi : nv_dc M pc .arraylength 1 nx) (hs : nv_stat i = some (ty, nm, ds, l)) (hv : Int32.ofNat l.length = v) {σ : nv_Sg} (K : nv_E G d M nx ls (.int v :: st) σ r) : nv_E G d M pc ls (.ref (1000 + i) :: st) σ r := by
  obtain ⟨hi, rfl⟩ := hi
  intro p e R s m args below meth c n0 ad0 A Q hC hX ad H locs lsC hV hl
  have hT := (hC.2.2.2.2.2.2.2.1.1 i _ nm ds l hs).1
  simp only [List.map_cons, nv_cV_ref, hV.2.2.1 i]
  exact va_tlen hC.1 hC.2.1 hT hV.2.2.2.2.2 hv hi (K p e R s m args below meth c n0 ad0 A Q hC hX ad H locs lsC hV hl)
theorem nv_scrL {x : Int32} (hi : nv_dc M pc .iaload 1 nx) (hin : nv_inb x G.2.2.2.2.1 = true) {σ : nv_Sg} (K : nv_E G d M nx ls (.int (G.2.2.2.2.2 x.toNatClampNeg) :: st) σ r) : nv_E G d M pc ls (.int x :: .ref 1009 :: st) σ r := by
  obtain ⟨hi, rfl⟩ := hi
  intro p e R s m args below meth c n0 ad0 A Q hC hX ad H locs lsC hV hl
  obtain ⟨h1, h2, h3⟩ := hC.2.2.2.2.2.2.2.1.2.1
  simp only [List.map_cons, nv_cV_ref, nv_cV_int, hV.2.2.1 9]
  exact va_sld hC.1 hC.2.1 h1 h2 h3 hV.2.2.2.2.2 (nv_inb_vp hin) hi (K p e R s m args below meth c n0 ad0 A Q hC hX ad H locs lsC hV hl)
theorem nv_scrN (hi : nv_dc M pc .arraylength 1 nx) {σ : nv_Sg} (K : nv_E G d M nx ls (.int (Int32.ofNat G.2.2.2.2.1) :: st) σ r) : nv_E G d M pc ls (.ref 1009 :: st) σ r := by
  obtain ⟨hi, rfl⟩ := hi
  intro p e R s m args below meth c n0 ad0 A Q hC hX ad H locs lsC hV hl
  obtain ⟨h1, h2, h3⟩ := hC.2.2.2.2.2.2.2.1.2.1
  simp only [List.map_cons, nv_cV_ref, hV.2.2.1 9]
  exact va_slen hC.1 hC.2.1 h1 h2 h3 hV.2.2.2.2.2 hi (K p e R s m args below meth c n0 ad0 A Q hC hX ad H locs lsC hV hl)
/-! System.arraycopy -/
def nv_cp (f : Nat → Int32) (h : nv_Hp) (k sp dp len : Nat) : nv_Hp := fun a b => if a = k then va_cpy f (h k) sp dp len b else h a b
def nv_Lc (own : String) (ix : Nat) : Prop := Cond.methodLink own ix arraycopyName ∈ nv_gt ∧ Cond.native arraycopyName ∈ nv_gt ∧ Cond.static arraycopyName ∈ nv_gt ∧ Cond.initialized "java/lang/System" ∈ nv_gt
theorem nv_copy {ix k0 k1 n0' n1 : Nat} {sp dp len : Int32} (hi : nv_dc M pc (.invokestatic ix) 3 nx) (hL : nv_Lc M.1.cls ix) (hd : 1 ≤ d) (hk0 : k0 < n ∧ nv_shp k0 = .inl (n0', none)) (hk1 : k1 < n ∧ nv_shp k1 = .inl (n1, none))
    (h1 : ¬ sp < 0) (h2 : ¬ dp < 0) (h3 : ¬ len < 0) (h4 : sp.toNatClampNeg + len.toNatClampNeg ≤ n0') (h5 : dp.toNatClampNeg + len.toNatClampNeg ≤ n1) (hst : (st.map fun v => v.category).sum ≤ 8)
    (K : nv_E G d M nx ls st (nv_cp (h k0) h k1 sp.toNatClampNeg dp.toNatClampNeg len.toNatClampNeg, z, n) r) : nv_E G d M pc ls (.int len :: .int dp :: .ref k1 :: .int sp :: .ref k0 :: st) (h, z, n) r := by
  obtain ⟨hi, rfl⟩ := hi
  obtain ⟨l1, l2, l3, l4⟩ := hL
  intro p e R s m args below meth c n0 ad0 A Q hC hX ad H locs lsC hV hl
  have hT := hC.2.2.2.2.1
  have hr := hC.2.2.2.2.2.2.2.2.2
  have hcat : ((st.map (nv_cV ad)).map fun v => v.category).sum ≤ 8 := by
    rw [List.map_map]
    have : (Value.category ∘ nv_cV ad) = Value.category := funext fun v => nv_cV_cat ad v
    rw [show (fun v : Value => v.category) ∘ nv_cV ad = fun v => v.category from this]
    exact hst
  refine va_copyi (D := G.2.1) (cl := nv_cls) hC.1 hC.2.1 (by rw [hC.2.2.1]; exact hl.1.symm) hC.2.2.2.1 (hT _ l1) (hT _ l2) (hT _ l3) (hT _ l4) hC.2.2.2.2.2.1 hV.2.2.2.1 hV.2.2.2.2.1 hV.2.2.2.2.2 k0 k1 0 0 (hV.wg hk0.1 hk0.2) (hV.wg hk1.1 hk1.2) rfl rfl rfl h1 h2 h3 h4 h5 (fun i _ => rfl) (by omega) ?_ hi (fun H1 locs1 hP hD hS => ?_)
  · have : nativeFrameWords "java/lang/System" "arraycopy" 5 ≤ 20 := by decide +kernel
    omega
  refine K p e R s m args below meth c n0 ad0 A Q hC hX ad H1 locs1 lsC (hV.put hk1.1 (z' := z) (h' := nv_cp (h k0) h k1 sp.toNatClampNeg dp.toNatClampNeg len.toNatClampNeg) ?_ (fun a i ha => by simp [nv_cp, ha]) (fun _ _ _ => rfl) hP hD hS) hl
  rw [hk1.2]
  show (.inl (G.2.2.1 0, n1, .inl _) : va_E) = .inl (G.2.2.1 0, n1, .inl (nv_cp (h k0) h k1 sp.toNatClampNeg dp.toNatClampNeg len.toNatClampNeg k1))
  congr 4
  funext b
  simp [nv_cp]
end
end
section
/-! ===== a table's ints copied into a cell; calls; a method's contract out of its frame ===== -/
section
variable {G : nv_G} {d : Nat} {M : nv_MI} {pc nx tgt : Nat} {ls : List (Option Value)} {st : List Value} {h : nv_Hp} {z : nv_Zp} {n : Nat} {r : nv_R}
theorem nv_cat8 {ad : Nat → Nat} {st : List Value} (hst : (st.map fun v => v.category).sum ≤ 8) : ((st.map (nv_cV ad)).map fun v => v.category).sum ≤ 8 := by
  rw [List.map_map, show (fun v : Value => v.category) ∘ nv_cV ad = fun v => v.category from funext fun v => nv_cV_cat ad v]
  exact hst
theorem nv_copyS {ix i k1 n1 : Nat} {nm ds : String} {l : List Int32} {sp dp len : Int32} (hi : nv_dc M pc (.invokestatic ix) 3 nx) (hL : nv_Lc M.1.cls ix) (hd : 1 ≤ d) (hs : nv_stat i = some (.int, nm, ds, l)) (hk1 : k1 < n ∧ nv_shp k1 = .inl (n1, none))
    (h1 : ¬ sp < 0) (h2 : ¬ dp < 0) (h3 : ¬ len < 0) (h4 : sp.toNatClampNeg + len.toNatClampNeg ≤ l.length) (h5 : dp.toNatClampNeg + len.toNatClampNeg ≤ n1) (hst : (st.map fun v => v.category).sum ≤ 8)
    (K : nv_E G d M nx ls st (nv_cp (fun j => l.getD j 0) h k1 sp.toNatClampNeg dp.toNatClampNeg len.toNatClampNeg, z, n) r) : nv_E G d M pc ls (.int len :: .int dp :: .ref k1 :: .int sp :: .ref (1000 + i) :: st) (h, z, n) r := by
  obtain ⟨hi, rfl⟩ := hi
  obtain ⟨l1, l2, l3, l4⟩ := hL
  intro p e R s m args below meth c n0 ad0 A Q hC hX ad H locs lsC hV hl
  have hTs := hC.2.2.2.2.1
  have hr := hC.2.2.2.2.2.2.2.2.2
  have hcat := nv_cat8 (ad := ad) hst
  obtain ⟨scr, hs1, hs2, hs3, hs4, -, hs5, hs7⟩ := (hC.2.2.2.2.2.2.2.1.1 i _ nm ds l hs).1
  have hS := hV.2.2.2.2.2
  have ha1 := hV.wg hk1.1 hk1.2
  have hc0 : H[G.2.2.2.1 i]? = some scr := by rw [hS.2.1 _ (Array.getElem?_eq_some_iff.mp hs1).1 hs7]; exact hs1
  have hc1 : H[ad k1]? = some (vp_cell (G.2.2.1 0) (n1, .inl (h k1))) := hV.2.2.2.1 k1 _ ha1
  have nn : ∀ w : Int32, ¬ w < 0 → w.toInt = (w.toNatClampNeg : Int) := by
    intro w hw
    have hw0 : (0 : Int) ≤ w.toInt := by
      have := Int32.not_lt.mp hw
      simpa using Int32.le_iff_toInt_le.mp this
    show w.toInt = ((w.toInt.toNat : Nat) : Int)
    omega
  intro T hT X
  obtain ⟨hs6, c0, hk0, cm0, hkk0⟩ := hs2
  obtain ⟨-, c1, hk1', cm1, hkk1⟩ := (hC.2.2.2.2.2.1.2 0 _ rfl).1 n1 (fun j => .int (h k1 j))
  have hst0 : (F0 m pc lsC ((Value.int len :: .int dp :: .ref k1 :: .int sp :: .ref (1000 + i) :: st).map (nv_cV ad))) = F0 m pc lsC (.int len :: .int dp :: .ref (ad k1) :: .int sp :: .ref (G.2.2.2.1 i) :: st.map (nv_cV ad)) := by
    simp only [List.map_cons, nv_cV_ref, nv_cV_int, hV.2.2.1 i]
  rw [hst0]
  have hnf : nativeFrameWords "java/lang/System" "arraycopy" 5 ≤ 20 := by decide +kernel
  obtain ⟨vm', X', step⟩ := X.arraycopy hC.1 hC.2.2.2.1 (hTs _ l1) (hTs _ l2) (hTs _ l3) (hTs _ l4) (src := G.2.2.2.1 i) (dst := ad k1) (cs := scr) (cd := vp_cell (G.2.2.1 0) (n1, .inl (h k1))) (srcPos := sp) (destPos := dp) (n := len) (by rw [hT]; exact hc0) (by rw [hT]; exact hc1)
    hs6 (fun _ h => by cases h) hs3 (fun h => by cases h) hk0 hk1' hkk0 hkk1 (by simp [refKind]) h1 h2 h3
    (by rw [nn sp h1, nn len h3]; omega)
    (by rw [nn dp h2, nn len h3]; show ¬ _ > ((arrV (G.2.2.1 0) n1 (fun j => .int (h k1 j))).slots.size : Int); rw [arrV_size]; omega)
    (fun vm₁ _ j hj => by
      have e : scr.slots.getD (sp.toNatClampNeg + j) .null = .int (l.getD (sp.toNatClampNeg + j) 0) := by
        rw [Array.getD_eq_getD_getElem?, hs5 _ (by omega)]
        rfl
      refine ⟨?_, ?_⟩
      · rw [e]; rfl
      · rw [e]
        exact trivial)
    (g := F0 m pc lsC (.int len :: .int dp :: .ref (ad k1) :: .int sp :: .ref (G.2.2.2.1 i) :: st.map (nv_cV ad))) rfl (by rw [hC.2.2.1]; exact hl.1) (rest := st.map (nv_cV ad)) rfl (by rw [hC.2.1]; exact hi) (by omega) (by show 2 * 0 + _ + _ ≤ _; omega)
  have e1 : copied scr (vp_cell (G.2.2.1 0) (n1, .inl (h k1))) sp dp len = vp_cell (G.2.2.1 0) (n1, .inl (va_cpy (fun j => l.getD j 0) (h k1) sp.toNatClampNeg dp.toNatClampNeg len.toNatClampNeg)) := va_copiedX (fun w => .int w) scr (G.2.2.1 0) (fun j => l.getD j 0) (h k1) hs5 h4
  rw [e1] at X' step
  have hlt : ad k1 < H.size := (Array.getElem?_eq_some_iff.mp hc1).1
  have hD := hV.2.2.2.2.1
  generalize hg : va_cpy (fun j => l.getD j 0) (h k1) sp.toNatClampNeg dp.toNatClampNeg len.toNatClampNeg = g at X' step
  have oq : ∀ q : Nat, q ≠ ad k1 → (H.setIfInBounds (ad k1) (vp_cell (G.2.2.1 0) (n1, .inl g)))[q]? = H[q]? := fun q hq => by simp [Array.getElem?_setIfInBounds, Ne.symm hq]
  have he : va_at G.2.1 nv_cls (ad k1, .inl (G.2.2.1 0, n1, .inl g)) (H.setIfInBounds (ad k1) (vp_cell (G.2.2.1 0) (n1, .inl g))) := by
    show (H.setIfInBounds (ad k1) _)[ad k1]? = some _
    simp [Array.getElem?_setIfInBounds, hlt]
  have hce : (.inl (G.2.2.1 0, n1, .inl g) : va_E) = nv_ce ad G.2.2.1 (nv_cp (fun j => l.getD j 0) h k1 sp.toNatClampNeg dp.toNatClampNeg len.toNatClampNeg) z k1 (nv_shp k1) := by
    rw [hk1.2, ← hg]
    show (.inl (G.2.2.1 0, n1, .inl (va_cpy (fun j => l.getD j 0) (h k1) sp.toNatClampNeg dp.toNatClampNeg len.toNatClampNeg)) : va_E) = .inl (G.2.2.1 0, n1, .inl (nv_cp (fun j => l.getD j 0) h k1 sp.toNatClampNeg dp.toNatClampNeg len.toNatClampNeg k1))
    congr 4
    funext b
    simp [nv_cp]
  have hS1 : ∀ Lx : List Loc, (∀ q ∈ Lx, q.base = ad k1) → va_S A s.heap (H.setIfInBounds (ad k1) (vp_cell (G.2.2.1 0) (n1, .inl g))) (locs ++ Lx) := fun Lx hLx => ⟨by simp; exact hS.1, fun q g1 g2 => by
      rw [oq q (fun e => g2 (by rw [e]; exact hD.2 k1 _ ha1))]
      exact hS.2.1 q g1 g2, fun q hq => by
      rcases List.mem_append.mp hq with h | h
      · exact hS.2.2 q h
      · rw [hLx q h]
        exact hD.2 k1 _ ha1⟩
  have hheap : ((T.setVm vm').setCell (ad k1) (vp_cell (G.2.2.1 0) (n1, .inl g))).heap = H.setIfInBounds (ad k1) (vp_cell (G.2.2.1 0) (n1, .inl g)) := by rw [← hT]; rfl
  obtain ⟨t, a1, b1⟩ := K p e R s m args below meth c n0 ad0 A Q hC hX ad _ _ lsC (hV.put hk1.1 hce (fun a i ha => by simp [nv_cp, ha]) (fun _ _ _ => rfl) (hV.2.2.2.1.set hD ha1 he oq) (hD.set ha1) (hS1 _ (fun q hq => by obtain ⟨z, -, hz⟩ := List.mem_map.mp hq; rw [← hz]))) hl _ hheap X'
  exact ⟨t, step t a1, b1⟩
/-- behind a call -/
theorem nv_go {G : nv_G} {p : Program} {e : Env} {R : Room} {s : State} {m : MethodId} {args : Array Value} {below : List Frame} {meth : Method} {c : Code} {H : Heap} {locs : List Loc} {cells slots mc ms n pc : Nat} {Q : State → Prop} {lsC : Array Slot} {rest st0 : List Value} {a : Array Value} {A A1 : Nat → Prop} {free : Addr → Prop} {r : nv_R} {ad : Nat → Nat}
    (hr : va_Run p G.1 e R s m args below meth c H locs cells slots mc ms (F0 m pc lsC st0) rest (nv_Q G n ad A1 r a) free) (hS : va_S A s.heap H locs) (hA : ∀ q, q < H.size → A1 q → A q) (hf : ∀ q, free q → A q)
    (kk : ∀ (ad' : Nat → Nat) (H1 : Heap) (locs1 : List Loc), (∀ k, (k < n ∨ nv_n r ≤ k) → ad' k = ad k) → va_P G.2.1 nv_cls (nv_w ad' G.2.2.1 r.2) H1 → va_D A1 (nv_w ad' G.2.2.1 r.2) → va_S A s.heap H1 locs1 → W p G.1 e R s m args below meth c H1 locs1 (cells + mc) (slots + ms) Q (F0 m (pc + 3) lsC ((r.1.map (nv_cV ad')).toList ++ rest))) :
    W p G.1 e R s m args below meth c H locs cells slots Q (F0 m pc lsC st0) := by
  intro T hT X
  obtain ⟨v, st₀, t, T', L, h0, X', hL, e1, e2, ⟨⟨ad', h1, hv, h3, h4⟩, hz, hk⟩, st⟩ := hr T hT X
  cases hv
  rw [h0] at hz hk
  obtain ⟨t2, a1, b1⟩ := kk ad' T'.heap (locs ++ L) h1 (by rw [e1]; exact h3) h4
    ⟨Nat.le_trans hS.1 (by rw [e1]; exact hz), fun q h1 h2 => by rw [e1, hk q (Nat.lt_of_lt_of_le h1 hS.1) (fun z => h2 (hA q (Nat.lt_of_lt_of_le h1 hS.1) z))]; exact hS.2.1 q h1 h2, fun q hq => by
      rcases List.mem_append.mp hq with h | h
      · exact hS.2.2 q h
      · exact hf _ (hL q h)⟩ T' rfl X'
  exact ⟨t2, st t2 a1, b1⟩
theorem nv_P_blind {G : nv_G} {ad : Nat → Nat} {sz : Nat} {av : List Value} {σ : nv_Sg} : FrameBlind (nv_P G ad sz av σ) := by
  intro a U g mk q
  obtain ⟨q0, q1, q2, q3, q4, q5⟩ := q
  refine ⟨q0, q1, q2, va_K.moved (u := U) (U := U.calling g mk a) (Vm.Alike.refl U.vm) q3, q4, ?_⟩
  exact nv_S.go (s := U) (U := U.calling g mk a) q5 (Vm.Alike.refl U.vm) ⟨Nat.le_refl _, fun _ _ _ => rfl⟩ (fun _ h => h)
/-- the callee's start, out of the caller's frame -/
theorem nv_pre {G : nv_G} {d : Nat} {M : nv_MI} {r r' : nv_R} {p : Program} {R : Room} {s : State} {m : MethodId} {args : Array Value} {meth : Method} {c : Code} {n0 : Nat} {A : Nat → Prop} {ad0 ad : Nat → Nat} {σ : nv_Sg} {H : Heap} {locs : List Loc} {av : List Value}
    (hC : nv_C G d M r p R s m args meth c n0 A) (hV : nv_V G r s n0 ad0 A ad σ H locs) : (∀ q, va_A (nv_w ad G.2.2.1 σ) H.size q → A q) ∧ ∀ U : State, U.heap = H → s.WarmedH U.vm → nv_P G ad H.size av σ (av.map (nv_cV ad)).toArray U := by
  have hS := hV.2.2.2.2.2
  have hF : ∀ q, va_A (nv_w ad G.2.2.1 σ) H.size q → A q := by
    intro q hq
    rcases hq with ⟨k, e, h⟩ | h
    · exact hV.2.2.2.2.1.2 k (q, e) h
    · exact hC.2.2.2.2.2.2.1 q (Nat.le_trans hS.1 h)
  refine ⟨hF, fun U hU hW => ⟨rfl, by rw [hU], by rw [hU]; exact hV.2.2.2.1, va_K.moved hW.alike hC.2.2.2.2.2.1, hV.2.2.2.2.1.weaken (fun _ _ _ _ => trivial), ?_⟩⟩
  exact nv_S.go hC.2.2.2.2.2.2.2.1 hW.alike ⟨by rw [hU]; exact hS.1, fun q h1 h2 => by rw [hU]; exact hS.2.1 q h1 h2⟩ hF
/-- what is known of a callee: its words, its arguments' number -/
def nv_Y (y : nv_MI) (na : Nat) : Prop := Cond.code y.1 y.2.1 y.2.2.1 y.2.2.2 ∈ nv_gt ∧ Cond.initialized y.1.cls ∈ nv_gt ∧ (y.1.cls ≠ "java/lang/invoke/MethodHandle" ∧ y.1.cls ≠ "java/lang/invoke/VarHandle" ∧ (parseMethodDescriptor y.1.desc).map (fun d => d.parameters.length) = some na) ∧ y.2.2.1 ≤ 21
def nv_Yv (y : nv_MI) (na : Nat) : Prop := nv_Y y na ∧ Cond.instanceMethod y.1 ∈ nv_gt ∧ Cond.selects y.1.cls y.1 y.1 ∈ nv_gt
def nv_Ys (y : nv_MI) (na : Nat) : Prop := nv_Y y na ∧ Cond.static y.1 ∈ nv_gt
def nv_Yi (y : nv_MI) (na : Nat) : Prop := nv_Y y na ∧ Cond.instanceMethod y.1 ∈ nv_gt ∧ y.1.name = "<init>" ∧ y.2.2.2 = none
theorem nv_gc {y : nv_MI} {na : Nat} (hy : nv_Y y na) : GoodIn nv_gt (.code y.1 y.2.1 y.2.2.1 y.2.2.2 :: nv_gt) := fun w hw => by
  rcases List.mem_cons.mp hw with rfl | hw
  · exact nv_gt_good _ hy.1
  · exact nv_gt_good _ hw
theorem nv_revmap {ad : Nat → Nat} {As : List Value} {st : List Value} : (As.reverse ++ st).map (nv_cV ad) = (As.map (nv_cV ad)).reverse ++ st.map (nv_cV ad) := by
  rw [List.map_append, List.map_reverse]
theorem nv_optmap {ad : Nat → Nat} {o : Option Value} {st : List Value} : (o.toList ++ st).map (nv_cV ad) = (o.map (nv_cV ad)).toList ++ st.map (nv_cV ad) := by
  cases o <;> simp
/-- a call that makes no cell: static -/
theorem nv_callS {ix d' na : Nat} {y : nv_MI} {As : List Value} {σ : nv_Sg} {r' : nv_R} (hM : nv_Mt G d' y As σ r') (hi : nv_dc M pc (.invokestatic ix) 3 nx) (hl' : Cond.methodLink M.1.cls ix y.1 ∈ nv_gt) (hy : nv_Ys y na) (hn : As.length = na) (hd : d' + 1 ≤ d) (hsz : nv_n r' = σ.2.2) (hst : (st.map fun v => v.category).sum ≤ 8)
    (K : nv_E G d M nx ls (r'.1.toList ++ st) r'.2 r) : nv_E G d M pc ls (As.reverse ++ st) σ r := by
  obtain ⟨hi, rfl⟩ := hi
  intro p e R s m args below meth c n0 ad0 A Q hC hX ad H locs lsC hV hl
  have hT := hC.2.2.2.2.1
  obtain ⟨hF, hP⟩ := nv_pre (r' := r') (av := As) hC hV
  have hR := hC.2.2.2.2.2.2.2.2.2
  obtain ⟨-, -, hM⟩ := hM
  have hM := hM ad H.size hV.2.2.1
  have hsz' : σ.2.2 = r'.2.2.2 := hsz.symm
  have hRR : d' + 1 ≤ R.frames ∧ 8 + (y.2.2.1 + 11) + 40 * d' ≤ R.locals := ⟨by omega, by have := hy.1.2.2.2; omega⟩
  have hrun := va_runS (e := e) (below := below) (meth := meth) (rest := st.map (nv_cV ad)) (As := As.map (nv_cV ad)) (g := F0 m pc lsC ((As.reverse ++ st).map (nv_cV ad))) (H := H) (locs := locs) (cells := σ.2.2 - n0) (slots := nv_sl σ.2.2 - nv_sl n0) ⟨hC.1, hC.2.1, hC.2.2.1, hC.2.2.2.1, hT⟩ hM
    (va_cwS (Ts := nv_gt) na hT (fun w hw => by
      unfold va_wsS at hw
      rcases List.mem_append.mp hw with hw | hw
      · simp only [List.mem_cons, List.not_mem_nil, or_false] at hw
        rcases hw with rfl | rfl | rfl
        · exact nv_gt_good _ hl'
        · exact nv_gt_good _ hy.2
        · exact nv_gt_good _ hy.1.2.1
      · exact nv_gc hy.1 w hw) rfl rfl rfl hy.1.2.2.1 hRR)
    ⟨nv_P_blind, fun U hU hW => hP U hU hW⟩ rfl (by rw [List.length_map]; exact hn) hl.1 nv_revmap (lv_room (nv_cat8 hst)) hi
    ⟨by rw [hsz, Nat.sub_self]; have := hV.1; omega, by rw [hsz, Nat.sub_self]; have := nv_sl_mono hV.1.2.1; omega⟩
  refine nv_go hrun hV.2.2.2.2.2 (fun q _ h => hF q h) hF (fun ad' H1 locs1 h1 h2 h3 h4 => ?_)
  have hae : ad' = ad := funext fun k => h1 k (by rw [hsz]; omega)
  subst hae
  rw [hsz, Nat.sub_self, Nat.sub_self, Nat.add_zero, Nat.add_zero, ← nv_optmap]
  have K' := K p e R s m args below meth c n0 ad0 A Q hC hX ad' H1 locs1 lsC ⟨by rw [← hsz']; exact hV.1, hV.2.1, hV.2.2.1, h2, h3.weaken (fun _ q _ h => hF q.1 h), h4⟩ hl
  rw [← hsz'] at K'
  exact K'
/-- a call that makes no cell: of an object's method -/
theorem nv_callV {ix d' na k ci : Nat} {fl : List (Option Nat)} {T : u_T} {N : Nat} {y : nv_MI} {As : List Value} {σ : nv_Sg} {r' : nv_R} (hM : nv_Mt G d' y (.ref k :: As) σ r') (hi : nv_dc M pc (.invokevirtual ix) 3 nx) (hl' : Cond.methodLink M.1.cls ix y.1 ∈ nv_gt) (hy : nv_Yv y na) (hk : k < σ.2.2 ∧ nv_shp k = .inr (ci, fl)) (hc : nv_cls[ci]? = some (y.1.cls, T, N)) (hn : As.length = na) (hd : d' + 1 ≤ d) (hsz : nv_n r' = σ.2.2) (hst : (st.map fun v => v.category).sum ≤ 8)
    (K : nv_E G d M nx ls (r'.1.toList ++ st) r'.2 r) : nv_E G d M pc ls (As.reverse ++ .ref k :: st) σ r := by
  obtain ⟨hi, rfl⟩ := hi
  intro p e R s m args below meth c n0 ad0 A Q hC hX ad H locs lsC hV hl
  have hT := hC.2.2.2.2.1
  obtain ⟨hF, hP⟩ := nv_pre (r' := r') (av := .ref k :: As) hC hV
  have hR := hC.2.2.2.2.2.2.2.2.2
  obtain ⟨-, -, hM⟩ := hM
  have hM := hM ad H.size hV.2.2.1
  have hsz' : σ.2.2 = r'.2.2.2 := hsz.symm
  have hRR : d' + 1 ≤ R.frames ∧ 8 + (y.2.2.1 + 11) + 40 * d' ≤ R.locals := ⟨by omega, by have := hy.1.2.2.2; omega⟩
  obtain ⟨h, z, n⟩ := σ
  have hV1 : n0 ≤ n ∧ n ≤ nv_n r ∧ nv_n r ≤ 1000 := hV.1
  have hsl : nv_sl n ≤ nv_sl (nv_n r) := nv_sl_mono hV1.2.1
  have hsq : nv_n r' = n := hsz
  have hrun := va_runV (e := e) (below := below) (meth := meth) (C := y.1.cls) (b := ad k) (rest := st.map (nv_cV ad)) (As := As.map (nv_cV ad)) (g := F0 m pc lsC ((As.reverse ++ .ref k :: st).map (nv_cV ad))) (H := H) (locs := locs) (cells := n - n0) (slots := nv_sl n - nv_sl n0) ⟨hC.1, hC.2.1, hC.2.2.1, hC.2.2.2.1, hT⟩ hM
    (cwV (Ts := nv_gt) na hT (fun w hw => by
      unfold wsV at hw
      rcases List.mem_append.mp hw with hw | hw
      · simp only [List.mem_cons, List.not_mem_nil, or_false] at hw
        rcases hw with rfl | rfl | rfl | rfl
        · exact nv_gt_good _ hl'
        · exact nv_gt_good _ hy.2.1
        · exact nv_gt_good _ hy.2.2
        · exact nv_gt_good _ hy.1.2.1
      · exact nv_gc hy.1 w hw) rfl rfl rfl ⟨rfl, hy.1.2.2.1⟩ hRR)
    ⟨nv_P_blind, va_recv hC.2.2.2.2.2.1 hV.2.2.2.1 hc (hV.wg hk.1 hk.2), fun U hU hW => hP U hU hW⟩ rfl (by rw [List.length_map]; exact hn) hl.1 nv_revmap (lv_room (nv_cat8 hst)) hi
    ⟨by show n - n0 + (nv_n r' - n) ≤ _; omega, by show nv_sl n - nv_sl n0 + (nv_sl (nv_n r') - nv_sl n) ≤ _; rw [hsq]; omega⟩
  refine nv_go hrun hV.2.2.2.2.2 (fun q _ h => hF q h) hF (fun ad' H1 locs1 h1 h2 h3 h4 => ?_)
  have hae : ad' = ad := funext fun k => h1 k (by rw [hsz]; omega)
  subst hae
  rw [hsz, Nat.sub_self, Nat.sub_self, Nat.add_zero, Nat.add_zero, ← nv_optmap]
  have K' := K p e R s m args below meth c n0 ad0 A Q hC hX ad' H1 locs1 lsC ⟨by rw [← hsz']; exact hV.1, hV.2.1, hV.2.2.1, h2, h3.weaken (fun _ q _ h => hF q.1 h), h4⟩ hl
  rw [← hsz'] at K'
  exact K'
/-- the locals at a method's entry -/
def nv_la : Nat → List Value → List (Option Value)
  | n, [] => List.replicate n none
  | n, .long x :: t => some (.long x) :: none :: nv_la (n - 2) t
  | n, .double x :: t => some (.double x) :: none :: nv_la (n - 2) t
  | n, .int x :: t => some (.int x) :: nv_la (n - 1) t
  | n, .float x :: t => some (.float x) :: nv_la (n - 1) t
  | n, .null :: t => some .null :: nv_la (n - 1) t
  | n, .ref x :: t => some (.ref x) :: nv_la (n - 1) t
  | n, .retAddr x :: t => some (.retAddr x) :: nv_la (n - 1) t
theorem nv_la_mem (ad : Nat → Nat) : ∀ (vs : List Value) (n i : Nat) (q : Nat × Value), q ∈ nv_ll ad i (nv_la n vs) → q ∈ lv_args i (vs.map (nv_cV ad))
  | [], n, i, q, h => by
    obtain ⟨j, v, -, h2⟩ := (nv_ll_mem ad _ i q).mp h
    simp only [nv_la] at h2
    rw [List.getElem?_replicate] at h2
    split at h2 <;> cases h2
  | v :: t, n, i, q, h => by
    cases v <;>
      (simp only [nv_la, nv_ll] at h
       rcases List.mem_cons.mp h with h | h
       · exact List.mem_cons.mpr (Or.inl h)
       · exact List.mem_cons.mpr (Or.inr (nv_la_mem ad t _ _ q h)))
/-- a method's contract out of its frame's -/
theorem nv_of {G : nv_G} {d : Nat} {M : nv_MI} {av : List Value} {σ : nv_Sg} {r : nv_R} (hy : plainName M.1.cls = true) (hn : ∀ ad : Nat → Nat, (lg_sl (av.map (nv_cV ad))).length ≤ M.2.2.1) (h1 : σ.2.2 ≤ nv_n r) (h2 : nv_n r ≤ 1000) (K : nv_E G d M 0 (nv_la M.2.2.1 av) [] σ r) : nv_Mt G d M av σ r := by
  refine ⟨h1, h2, fun ad sz had => ?_⟩
  refine Met.ofW (cc := M.2.1) (maxL := M.2.2.1) (ret := M.2.2.2) hy rfl ?_
  intro p e s m args below meth c s₁ B hml hv
  obtain ⟨rfl, hsz, hP, hK, hD0, hSt⟩ := hv
  have hts : ∀ w ∈ nv_gt, w.before _ s = true := fun w hw => atoms_spec (ws := .code M.1 M.2.1 M.2.2.1 M.2.2.2 :: nv_gt) B.pre w (List.mem_cons_of_mem _ hw)
  have hown : s.vm.findClass M.1.cls = some m.cls := findClass_of_methodNamed B.named
  have hnm : meth.name = M.1.name := (name_of_methodNamed B.named B.method).1
  subst hsz
  have hD := hD0.self (sz := s.heap.size)
  have hl := lv_entry (av.map (nv_cV ad)) (n := M.2.2.1) (hn ad)
  rw [lg_entry_eq]
  have hl2 : lv_has ((lg_sl (av.map (nv_cV ad)) ++ List.replicate (M.2.2.1 - (lg_sl (av.map (nv_cV ad))).length) Slot.unset).toArray) M.2.2.1 (nv_ll ad 0 (nv_la M.2.2.1 av)) := ⟨hl.1, hl.2.1, fun q hq => hl.2.2 q (nv_la_mem ad av _ 0 q hq)⟩
  have hlocks := B.notSynchronized
  have hC : nv_C G d M r p { frames := d, cells := nv_n r - σ.2.2, slots := nv_sl (nv_n r) - nv_sl σ.2.2, locals := 40 * d } s m (av.map (nv_cV ad)).toArray meth c σ.2.2 (va_A (nv_w ad G.2.2.1 σ) s.heap.size) :=
    ⟨B.exec, B.bytes, hml, hown, hts, hK, fun q h => Or.inr h, hSt, hnm, Nat.le_refl _, Nat.le_refl _, Nat.le_refl _, Nat.le_refl _⟩
  have hX : nv_X G M r p e { frames := d, cells := nv_n r - σ.2.2, slots := nv_sl (nv_n r) - nv_sl σ.2.2, locals := 40 * d } s m (av.map (nv_cV ad)).toArray below meth c σ.2.2 ad (va_A (nv_w ad G.2.2.1 σ) s.heap.size) (MQ below (nv_Q G σ.2.2 ad (va_A (nv_w ad G.2.2.1 σ) s.heap.size) r) (av.map (nv_cV ad)).toArray s (nv_n r - σ.2.2) (nv_sl (nv_n r) - nv_sl σ.2.2) (va_A (nv_w ad G.2.2.1 σ) s.heap.size)) := by
    intro ad' H locs lsC pc hV hrt
    have hq : ∀ t : State, t.heap = H → s.WarmedH t.vm → nv_Q G σ.2.2 ad (va_A (nv_w ad G.2.2.1 σ) s.heap.size) r (av.map (nv_cV ad)).toArray s (.returned (r.1.map (nv_cV ad'))) t := fun t ht hW => ⟨⟨ad', hV.2.1, rfl, by rw [ht]; exact hV.2.2.2.1, hV.2.2.2.2.1⟩, hV.2.2.2.2.2.F ht⟩
    obtain ⟨v, σ'⟩ := r
    rcases v with _ | v
    · exact W.vret B.exec B.bytes (B.returns.trans hrt.2) hq hV.2.2.2.2.2.2.2 hrt.1
    · cases v with
      | int x =>
        obtain ⟨g1, ty, g2, g3⟩ := hrt
        exact W.zret B.exec B.bytes (B.returns.trans g2) g3 hq hV.2.2.2.2.2.2.2 g1
      | long x => exact W.lret B.exec B.bytes (B.returns.trans hrt.2) hq hV.2.2.2.2.2.2.2 hrt.1
      | _ => exact hrt.elim
  have K' := K p e _ s m _ below meth c σ.2.2 ad _ _ hC hX ad s.heap [] _ ⟨⟨Nat.le_refl _, h1, h2⟩, fun _ _ => rfl, had, hP, hD, va_S.rf⟩ hl2
  rw [Nat.sub_self, Nat.sub_self] at K'
  exact K'
end
end
