section
-- ===== PART A: goes FIRST, ahead of the names: the tables' words, and 'selects' of the private methods out of them =====
/-- a private method of a class that the tables say can be made, by its rows of tables_1 -/
def lw_okq (q : MethodName × Nat) : Prop := (q.1.cls ≠ "java/lang/invoke/MethodHandle" ∧ q.1.cls ≠ "java/lang/invoke/VarHandle") ∧ Cond.instantiable q.1.cls q.2 ∈ tables_1 ∧ Cond.privateMethod q.1 ∈ tables_1 ∧ Cond.instanceMethod q.1 ∈ tables_1
theorem lw_p0 : lw_okq (⟨"TokenRounds$Plan", "set", "(III)V"⟩, 2) := ⟨⟨by decide +kernel, by decide +kernel⟩, List.mem_of_getElem? (i := 35) (by decide +kernel), List.mem_of_getElem? (i := 68) (by decide +kernel), List.mem_of_getElem? (i := 69) (by decide +kernel)⟩
theorem lw_p1 : lw_okq (⟨"TokenRounds$Past", "loseOldest", "()V"⟩, 2) := ⟨⟨by decide +kernel, by decide +kernel⟩, List.mem_of_getElem? (i := 134) (by decide +kernel), List.mem_of_getElem? (i := 328) (by decide +kernel), List.mem_of_getElem? (i := 329) (by decide +kernel)⟩
theorem lw_p2 : lw_okq (⟨"TokenRounds$Round", "sendAll", "(LTokenRounds$Space;I)V"⟩, 4) := ⟨⟨by decide +kernel, by decide +kernel⟩, List.mem_of_getElem? (i := 151) (by decide +kernel), List.mem_of_getElem? (i := 384) (by decide +kernel), List.mem_of_getElem? (i := 385) (by decide +kernel)⟩
theorem lw_p3 : lw_okq (⟨"TokenRounds$Round", "send", "(II)V"⟩, 4) := ⟨⟨by decide +kernel, by decide +kernel⟩, List.mem_of_getElem? (i := 151) (by decide +kernel), List.mem_of_getElem? (i := 388) (by decide +kernel), List.mem_of_getElem? (i := 389) (by decide +kernel)⟩
theorem lw_p4 : lw_okq (⟨"TokenRounds$Round", "chosen", "(LTokenRounds$Net;II)I"⟩, 4) := ⟨⟨by decide +kernel, by decide +kernel⟩, List.mem_of_getElem? (i := 151) (by decide +kernel), List.mem_of_getElem? (i := 392) (by decide +kernel), List.mem_of_getElem? (i := 393) (by decide +kernel)⟩
theorem lw_p5 : lw_okq (⟨"TokenRounds$Round", "deliver", "(LTokenRounds$Net;LTokenRounds$Space;I)I"⟩, 4) := ⟨⟨by decide +kernel, by decide +kernel⟩, List.mem_of_getElem? (i := 151) (by decide +kernel), List.mem_of_getElem? (i := 416) (by decide +kernel), List.mem_of_getElem? (i := 417) (by decide +kernel)⟩
theorem lw_p6 : lw_okq (⟨"TokenRounds$Gains", "grow", "(II)V"⟩, 3) := ⟨⟨by decide +kernel, by decide +kernel⟩, List.mem_of_getElem? (i := 173) (by decide +kernel), List.mem_of_getElem? (i := 495) (by decide +kernel), List.mem_of_getElem? (i := 496) (by decide +kernel)⟩
theorem lw_p7 : lw_okq (⟨"TokenRounds$Gains", "countDegrees", "(II)V"⟩, 3) := ⟨⟨by decide +kernel, by decide +kernel⟩, List.mem_of_getElem? (i := 173) (by decide +kernel), List.mem_of_getElem? (i := 499) (by decide +kernel), List.mem_of_getElem? (i := 500) (by decide +kernel)⟩
theorem lw_p8 : lw_okq (⟨"TokenRounds$Gains", "leafBehind", "(II)I"⟩, 3) := ⟨⟨by decide +kernel, by decide +kernel⟩, List.mem_of_getElem? (i := 173) (by decide +kernel), List.mem_of_getElem? (i := 504) (by decide +kernel), List.mem_of_getElem? (i := 505) (by decide +kernel)⟩
theorem lw_p9 : lw_okq (⟨"TokenRounds$Gains", "connect", "(II)V"⟩, 3) := ⟨⟨by decide +kernel, by decide +kernel⟩, List.mem_of_getElem? (i := 173) (by decide +kernel), List.mem_of_getElem? (i := 508) (by decide +kernel), List.mem_of_getElem? (i := 509) (by decide +kernel)⟩
theorem lw_p10 : lw_okq (⟨"TokenRounds$Gains", "byTree", "(I)I"⟩, 3) := ⟨⟨by decide +kernel, by decide +kernel⟩, List.mem_of_getElem? (i := 173) (by decide +kernel), List.mem_of_getElem? (i := 512) (by decide +kernel), List.mem_of_getElem? (i := 513) (by decide +kernel)⟩
theorem lw_p11 : lw_okq (⟨"TokenRounds$Views", "part", "(LTokenRounds$Net;I)I"⟩, 2) := ⟨⟨by decide +kernel, by decide +kernel⟩, List.mem_of_getElem? (i := 189) (by decide +kernel), List.mem_of_getElem? (i := 541) (by decide +kernel), List.mem_of_getElem? (i := 542) (by decide +kernel)⟩
theorem lw_p12 : lw_okq (⟨"TokenRounds$Views", "leastLike", "(LTokenRounds$Net;II)I"⟩, 2) := ⟨⟨by decide +kernel, by decide +kernel⟩, List.mem_of_getElem? (i := 189) (by decide +kernel), List.mem_of_getElem? (i := 545) (by decide +kernel), List.mem_of_getElem? (i := 546) (by decide +kernel)⟩
theorem lw_p13 : lw_okq (⟨"TokenRounds$Views", "seeAlike", "(LTokenRounds$Net;II)Z"⟩, 2) := ⟨⟨by decide +kernel, by decide +kernel⟩, List.mem_of_getElem? (i := 189) (by decide +kernel), List.mem_of_getElem? (i := 550) (by decide +kernel), List.mem_of_getElem? (i := 551) (by decide +kernel)⟩
theorem lw_p14 : lw_okq (⟨"TokenRounds$Views", "having", "(LTokenRounds$Net;II)I"⟩, 2) := ⟨⟨by decide +kernel, by decide +kernel⟩, List.mem_of_getElem? (i := 189) (by decide +kernel), List.mem_of_getElem? (i := 554) (by decide +kernel), List.mem_of_getElem? (i := 555) (by decide +kernel)⟩
theorem lw_p15 : lw_okq (⟨"TokenRounds$Odds", "parted", "(LTokenRounds$Net;II)J"⟩, 3) := ⟨⟨by decide +kernel, by decide +kernel⟩, List.mem_of_getElem? (i := 203) (by decide +kernel), List.mem_of_getElem? (i := 587) (by decide +kernel), List.mem_of_getElem? (i := 588) (by decide +kernel)⟩
def lw_privs_1 : List (MethodName × Nat) := [(⟨"TokenRounds$Plan", "set", "(III)V"⟩, 2), (⟨"TokenRounds$Past", "loseOldest", "()V"⟩, 2), (⟨"TokenRounds$Round", "sendAll", "(LTokenRounds$Space;I)V"⟩, 4), (⟨"TokenRounds$Round", "send", "(II)V"⟩, 4), (⟨"TokenRounds$Round", "chosen", "(LTokenRounds$Net;II)I"⟩, 4), (⟨"TokenRounds$Round", "deliver", "(LTokenRounds$Net;LTokenRounds$Space;I)I"⟩, 4), (⟨"TokenRounds$Gains", "grow", "(II)V"⟩, 3), (⟨"TokenRounds$Gains", "countDegrees", "(II)V"⟩, 3), (⟨"TokenRounds$Gains", "leafBehind", "(II)I"⟩, 3), (⟨"TokenRounds$Gains", "connect", "(II)V"⟩, 3), (⟨"TokenRounds$Gains", "byTree", "(I)I"⟩, 3), (⟨"TokenRounds$Views", "part", "(LTokenRounds$Net;I)I"⟩, 2), (⟨"TokenRounds$Views", "leastLike", "(LTokenRounds$Net;II)I"⟩, 2), (⟨"TokenRounds$Views", "seeAlike", "(LTokenRounds$Net;II)Z"⟩, 2), (⟨"TokenRounds$Views", "having", "(LTokenRounds$Net;II)I"⟩, 2), (⟨"TokenRounds$Odds", "parted", "(LTokenRounds$Net;II)J"⟩, 3)]
theorem lw_r1 : ∀ q ∈ lw_privs_1, lw_okq q := List.forall_mem_cons.mpr ⟨lw_p0, List.forall_mem_cons.mpr ⟨lw_p1, List.forall_mem_cons.mpr ⟨lw_p2, List.forall_mem_cons.mpr ⟨lw_p3, List.forall_mem_cons.mpr ⟨lw_p4, List.forall_mem_cons.mpr ⟨lw_p5, List.forall_mem_cons.mpr ⟨lw_p6, List.forall_mem_cons.mpr ⟨lw_p7, List.forall_mem_cons.mpr ⟨lw_p8, List.forall_mem_cons.mpr ⟨lw_p9, List.forall_mem_cons.mpr ⟨lw_p10, List.forall_mem_cons.mpr ⟨lw_p11, List.forall_mem_cons.mpr ⟨lw_p12, List.forall_mem_cons.mpr ⟨lw_p13, List.forall_mem_cons.mpr ⟨lw_p14, List.forall_mem_cons.mpr ⟨lw_p15, fun _ h => absurd h List.not_mem_nil⟩⟩⟩⟩⟩⟩⟩⟩⟩⟩⟩⟩⟩⟩⟩⟩
theorem lw_p16 : lw_okq (⟨"TokenRounds$Odds", "shorten", "()V"⟩, 3) := ⟨⟨by decide +kernel, by decide +kernel⟩, List.mem_of_getElem? (i := 203) (by decide +kernel), List.mem_of_getElem? (i := 591) (by decide +kernel), List.mem_of_getElem? (i := 592) (by decide +kernel)⟩
theorem lw_p17 : lw_okq (⟨"TokenRounds$Net", "forget", "()V"⟩, 9) := ⟨⟨by decide +kernel, by decide +kernel⟩, List.mem_of_getElem? (i := 29) (by decide +kernel), List.mem_of_getElem? (i := 611) (by decide +kernel), List.mem_of_getElem? (i := 612) (by decide +kernel)⟩
theorem lw_p18 : lw_okq (⟨"TokenRounds$Tape", "isNet", "(I)Z"⟩, 5) := ⟨⟨by decide +kernel, by decide +kernel⟩, List.mem_of_getElem? (i := 222) (by decide +kernel), List.mem_of_getElem? (i := 636) (by decide +kernel), List.mem_of_getElem? (i := 637) (by decide +kernel)⟩
theorem lw_p19 : lw_okq (⟨"TokenRounds$Tape", "ahead", "()I"⟩, 5) := ⟨⟨by decide +kernel, by decide +kernel⟩, List.mem_of_getElem? (i := 222) (by decide +kernel), List.mem_of_getElem? (i := 640) (by decide +kernel), List.mem_of_getElem? (i := 641) (by decide +kernel)⟩
theorem lw_p20 : lw_okq (⟨"TokenRounds$Tape", "isName", "(ILjava/lang/String;)Z"⟩, 5) := ⟨⟨by decide +kernel, by decide +kernel⟩, List.mem_of_getElem? (i := 222) (by decide +kernel), List.mem_of_getElem? (i := 645) (by decide +kernel), List.mem_of_getElem? (i := 646) (by decide +kernel)⟩
theorem lw_p21 : lw_okq (⟨"TokenRounds$Tape", "isRow", "(IZ)Z"⟩, 5) := ⟨⟨by decide +kernel, by decide +kernel⟩, List.mem_of_getElem? (i := 222) (by decide +kernel), List.mem_of_getElem? (i := 697) (by decide +kernel), List.mem_of_getElem? (i := 698) (by decide +kernel)⟩
theorem lw_p22 : lw_okq (⟨"TokenRounds$Tape", "figure", "()I"⟩, 5) := ⟨⟨by decide +kernel, by decide +kernel⟩, List.mem_of_getElem? (i := 222) (by decide +kernel), List.mem_of_getElem? (i := 701) (by decide +kernel), List.mem_of_getElem? (i := 702) (by decide +kernel)⟩
theorem lw_p23 : lw_okq (⟨"TokenRounds$Tape", "isStar", "(I)Z"⟩, 5) := ⟨⟨by decide +kernel, by decide +kernel⟩, List.mem_of_getElem? (i := 222) (by decide +kernel), List.mem_of_getElem? (i := 709) (by decide +kernel), List.mem_of_getElem? (i := 710) (by decide +kernel)⟩
theorem lw_p24 : lw_okq (⟨"TokenRounds$Tape", "linkToAll", "(II)V"⟩, 5) := ⟨⟨by decide +kernel, by decide +kernel⟩, List.mem_of_getElem? (i := 222) (by decide +kernel), List.mem_of_getElem? (i := 713) (by decide +kernel), List.mem_of_getElem? (i := 714) (by decide +kernel)⟩
theorem lw_p25 : lw_okq (⟨"TokenRounds$Tape", "isLinks", "(I)Z"⟩, 5) := ⟨⟨by decide +kernel, by decide +kernel⟩, List.mem_of_getElem? (i := 222) (by decide +kernel), List.mem_of_getElem? (i := 718) (by decide +kernel), List.mem_of_getElem? (i := 719) (by decide +kernel)⟩
theorem lw_p26 : lw_okq (⟨"TokenRounds$Tape", "isLink", "(I)Z"⟩, 5) := ⟨⟨by decide +kernel, by decide +kernel⟩, List.mem_of_getElem? (i := 222) (by decide +kernel), List.mem_of_getElem? (i := 722) (by decide +kernel), List.mem_of_getElem? (i := 723) (by decide +kernel)⟩
theorem lw_p27 : lw_okq (⟨"TokenRounds", "turn", "()V"⟩, 12) := ⟨⟨by decide +kernel, by decide +kernel⟩, List.mem_of_getElem? (i := 21) (by decide +kernel), List.mem_of_getElem? (i := 743) (by decide +kernel), List.mem_of_getElem? (i := 744) (by decide +kernel)⟩
theorem lw_p28 : lw_okq (⟨"TokenRounds", "refusal", "(II)I"⟩, 12) := ⟨⟨by decide +kernel, by decide +kernel⟩, List.mem_of_getElem? (i := 21) (by decide +kernel), List.mem_of_getElem? (i := 779) (by decide +kernel), List.mem_of_getElem? (i := 780) (by decide +kernel)⟩
theorem lw_p29 : lw_okq (⟨"TokenRounds", "sentBy", "(ILTokenRounds$Row;I)Z"⟩, 12) := ⟨⟨by decide +kernel, by decide +kernel⟩, List.mem_of_getElem? (i := 21) (by decide +kernel), List.mem_of_getElem? (i := 798) (by decide +kernel), List.mem_of_getElem? (i := 799) (by decide +kernel)⟩
theorem lw_p30 : lw_okq (⟨"TokenRoundsModel", "laysPath", "()V"⟩, 27) := ⟨⟨by decide +kernel, by decide +kernel⟩, List.mem_of_getElem? (i := 835) (by decide +kernel), List.mem_of_getElem? (i := 841) (by decide +kernel), List.mem_of_getElem? (i := 842) (by decide +kernel)⟩
theorem lw_p31 : lw_okq (⟨"TokenRoundsModel", "forgets", "()V"⟩, 27) := ⟨⟨by decide +kernel, by decide +kernel⟩, List.mem_of_getElem? (i := 835) (by decide +kernel), List.mem_of_getElem? (i := 848) (by decide +kernel), List.mem_of_getElem? (i := 849) (by decide +kernel)⟩
def lw_privs_2 : List (MethodName × Nat) := [(⟨"TokenRounds$Odds", "shorten", "()V"⟩, 3), (⟨"TokenRounds$Net", "forget", "()V"⟩, 9), (⟨"TokenRounds$Tape", "isNet", "(I)Z"⟩, 5), (⟨"TokenRounds$Tape", "ahead", "()I"⟩, 5), (⟨"TokenRounds$Tape", "isName", "(ILjava/lang/String;)Z"⟩, 5), (⟨"TokenRounds$Tape", "isRow", "(IZ)Z"⟩, 5), (⟨"TokenRounds$Tape", "figure", "()I"⟩, 5), (⟨"TokenRounds$Tape", "isStar", "(I)Z"⟩, 5), (⟨"TokenRounds$Tape", "linkToAll", "(II)V"⟩, 5), (⟨"TokenRounds$Tape", "isLinks", "(I)Z"⟩, 5), (⟨"TokenRounds$Tape", "isLink", "(I)Z"⟩, 5), (⟨"TokenRounds", "turn", "()V"⟩, 12), (⟨"TokenRounds", "refusal", "(II)I"⟩, 12), (⟨"TokenRounds", "sentBy", "(ILTokenRounds$Row;I)Z"⟩, 12), (⟨"TokenRoundsModel", "laysPath", "()V"⟩, 27), (⟨"TokenRoundsModel", "forgets", "()V"⟩, 27)]
theorem lw_r2 : ∀ q ∈ lw_privs_2, lw_okq q := List.forall_mem_cons.mpr ⟨lw_p16, List.forall_mem_cons.mpr ⟨lw_p17, List.forall_mem_cons.mpr ⟨lw_p18, List.forall_mem_cons.mpr ⟨lw_p19, List.forall_mem_cons.mpr ⟨lw_p20, List.forall_mem_cons.mpr ⟨lw_p21, List.forall_mem_cons.mpr ⟨lw_p22, List.forall_mem_cons.mpr ⟨lw_p23, List.forall_mem_cons.mpr ⟨lw_p24, List.forall_mem_cons.mpr ⟨lw_p25, List.forall_mem_cons.mpr ⟨lw_p26, List.forall_mem_cons.mpr ⟨lw_p27, List.forall_mem_cons.mpr ⟨lw_p28, List.forall_mem_cons.mpr ⟨lw_p29, List.forall_mem_cons.mpr ⟨lw_p30, List.forall_mem_cons.mpr ⟨lw_p31, fun _ h => absurd h List.not_mem_nil⟩⟩⟩⟩⟩⟩⟩⟩⟩⟩⟩⟩⟩⟩⟩⟩
theorem lw_p32 : lw_okq (⟨"TokenRoundsModel", "isNode", "(I)Z"⟩, 27) := ⟨⟨by decide +kernel, by decide +kernel⟩, List.mem_of_getElem? (i := 835) (by decide +kernel), List.mem_of_getElem? (i := 954) (by decide +kernel), List.mem_of_getElem? (i := 955) (by decide +kernel)⟩
theorem lw_p33 : lw_okq (⟨"TokenRoundsModel", "isKnown", "(II)Z"⟩, 27) := ⟨⟨by decide +kernel, by decide +kernel⟩, List.mem_of_getElem? (i := 835) (by decide +kernel), List.mem_of_getElem? (i := 964) (by decide +kernel), List.mem_of_getElem? (i := 965) (by decide +kernel)⟩
theorem lw_p34 : lw_okq (⟨"TokenRoundsModel", "remembers", "()V"⟩, 27) := ⟨⟨by decide +kernel, by decide +kernel⟩, List.mem_of_getElem? (i := 835) (by decide +kernel), List.mem_of_getElem? (i := 971) (by decide +kernel), List.mem_of_getElem? (i := 972) (by decide +kernel)⟩
theorem lw_p35 : lw_okq (⟨"TokenRoundsModel", "learns", "(II)V"⟩, 27) := ⟨⟨by decide +kernel, by decide +kernel⟩, List.mem_of_getElem? (i := 835) (by decide +kernel), List.mem_of_getElem? (i := 975) (by decide +kernel), List.mem_of_getElem? (i := 976) (by decide +kernel)⟩
theorem lw_p36 : lw_okq (⟨"TokenRoundsModel", "rank", "(I)I"⟩, 27) := ⟨⟨by decide +kernel, by decide +kernel⟩, List.mem_of_getElem? (i := 835) (by decide +kernel), List.mem_of_getElem? (i := 979) (by decide +kernel), List.mem_of_getElem? (i := 980) (by decide +kernel)⟩
theorem lw_p37 : lw_okq (⟨"TokenRoundsModel", "tells", "(I)I"⟩, 27) := ⟨⟨by decide +kernel, by decide +kernel⟩, List.mem_of_getElem? (i := 835) (by decide +kernel), List.mem_of_getElem? (i := 990) (by decide +kernel), List.mem_of_getElem? (i := 991) (by decide +kernel)⟩
theorem lw_p38 : lw_okq (⟨"TokenRoundsModel", "present", "()I"⟩, 27) := ⟨⟨by decide +kernel, by decide +kernel⟩, List.mem_of_getElem? (i := 835) (by decide +kernel), List.mem_of_getElem? (i := 994) (by decide +kernel), List.mem_of_getElem? (i := 995) (by decide +kernel)⟩
theorem lw_p39 : lw_okq (⟨"TokenRoundsModel", "linksOf", "(I)I"⟩, 27) := ⟨⟨by decide +kernel, by decide +kernel⟩, List.mem_of_getElem? (i := 835) (by decide +kernel), List.mem_of_getElem? (i := 998) (by decide +kernel), List.mem_of_getElem? (i := 999) (by decide +kernel)⟩
theorem lw_p40 : lw_okq (⟨"TokenRoundsModel", "laysSends", "()V"⟩, 27) := ⟨⟨by decide +kernel, by decide +kernel⟩, List.mem_of_getElem? (i := 835) (by decide +kernel), List.mem_of_getElem? (i := 1005) (by decide +kernel), List.mem_of_getElem? (i := 1006) (by decide +kernel)⟩
theorem lw_p41 : lw_okq (⟨"TokenRoundsModel", "leastOf", "(I)I"⟩, 27) := ⟨⟨by decide +kernel, by decide +kernel⟩, List.mem_of_getElem? (i := 835) (by decide +kernel), List.mem_of_getElem? (i := 1009) (by decide +kernel), List.mem_of_getElem? (i := 1010) (by decide +kernel)⟩
theorem lw_p42 : lw_okq (⟨"TokenRoundsModel", "turnOf", "(I)I"⟩, 27) := ⟨⟨by decide +kernel, by decide +kernel⟩, List.mem_of_getElem? (i := 835) (by decide +kernel), List.mem_of_getElem? (i := 1013) (by decide +kernel), List.mem_of_getElem? (i := 1014) (by decide +kernel)⟩
theorem lw_p43 : lw_okq (⟨"TokenRoundsModel", "drawnOf", "(I)I"⟩, 27) := ⟨⟨by decide +kernel, by decide +kernel⟩, List.mem_of_getElem? (i := 835) (by decide +kernel), List.mem_of_getElem? (i := 1017) (by decide +kernel), List.mem_of_getElem? (i := 1018) (by decide +kernel)⟩
theorem lw_p44 : lw_okq (⟨"TokenRoundsModel", "sumOf", "(II)I"⟩, 27) := ⟨⟨by decide +kernel, by decide +kernel⟩, List.mem_of_getElem? (i := 835) (by decide +kernel), List.mem_of_getElem? (i := 1028) (by decide +kernel), List.mem_of_getElem? (i := 1029) (by decide +kernel)⟩
theorem lw_p45 : lw_okq (⟨"TokenRoundsModel", "heads", "(I)I"⟩, 27) := ⟨⟨by decide +kernel, by decide +kernel⟩, List.mem_of_getElem? (i := 835) (by decide +kernel), List.mem_of_getElem? (i := 1032) (by decide +kernel), List.mem_of_getElem? (i := 1033) (by decide +kernel)⟩
theorem lw_p46 : lw_okq (⟨"TokenRoundsModel", "sumWith", "(III)I"⟩, 27) := ⟨⟨by decide +kernel, by decide +kernel⟩, List.mem_of_getElem? (i := 835) (by decide +kernel), List.mem_of_getElem? (i := 1036) (by decide +kernel), List.mem_of_getElem? (i := 1037) (by decide +kernel)⟩
theorem lw_p47 : lw_okq (⟨"TokenRoundsModel", "growth", "(II)I"⟩, 27) := ⟨⟨by decide +kernel, by decide +kernel⟩, List.mem_of_getElem? (i := 835) (by decide +kernel), List.mem_of_getElem? (i := 1040) (by decide +kernel), List.mem_of_getElem? (i := 1041) (by decide +kernel)⟩
def lw_privs_3 : List (MethodName × Nat) := [(⟨"TokenRoundsModel", "isNode", "(I)Z"⟩, 27), (⟨"TokenRoundsModel", "isKnown", "(II)Z"⟩, 27), (⟨"TokenRoundsModel", "remembers", "()V"⟩, 27), (⟨"TokenRoundsModel", "learns", "(II)V"⟩, 27), (⟨"TokenRoundsModel", "rank", "(I)I"⟩, 27), (⟨"TokenRoundsModel", "tells", "(I)I"⟩, 27), (⟨"TokenRoundsModel", "present", "()I"⟩, 27), (⟨"TokenRoundsModel", "linksOf", "(I)I"⟩, 27), (⟨"TokenRoundsModel", "laysSends", "()V"⟩, 27), (⟨"TokenRoundsModel", "leastOf", "(I)I"⟩, 27), (⟨"TokenRoundsModel", "turnOf", "(I)I"⟩, 27), (⟨"TokenRoundsModel", "drawnOf", "(I)I"⟩, 27), (⟨"TokenRoundsModel", "sumOf", "(II)I"⟩, 27), (⟨"TokenRoundsModel", "heads", "(I)I"⟩, 27), (⟨"TokenRoundsModel", "sumWith", "(III)I"⟩, 27), (⟨"TokenRoundsModel", "growth", "(II)I"⟩, 27)]
theorem lw_r3 : ∀ q ∈ lw_privs_3, lw_okq q := List.forall_mem_cons.mpr ⟨lw_p32, List.forall_mem_cons.mpr ⟨lw_p33, List.forall_mem_cons.mpr ⟨lw_p34, List.forall_mem_cons.mpr ⟨lw_p35, List.forall_mem_cons.mpr ⟨lw_p36, List.forall_mem_cons.mpr ⟨lw_p37, List.forall_mem_cons.mpr ⟨lw_p38, List.forall_mem_cons.mpr ⟨lw_p39, List.forall_mem_cons.mpr ⟨lw_p40, List.forall_mem_cons.mpr ⟨lw_p41, List.forall_mem_cons.mpr ⟨lw_p42, List.forall_mem_cons.mpr ⟨lw_p43, List.forall_mem_cons.mpr ⟨lw_p44, List.forall_mem_cons.mpr ⟨lw_p45, List.forall_mem_cons.mpr ⟨lw_p46, List.forall_mem_cons.mpr ⟨lw_p47, fun _ h => absurd h List.not_mem_nil⟩⟩⟩⟩⟩⟩⟩⟩⟩⟩⟩⟩⟩⟩⟩⟩
theorem lw_p48 : lw_okq (⟨"TokenRoundsModel", "hears", "(II)V"⟩, 27) := ⟨⟨by decide +kernel, by decide +kernel⟩, List.mem_of_getElem? (i := 835) (by decide +kernel), List.mem_of_getElem? (i := 1044) (by decide +kernel), List.mem_of_getElem? (i := 1045) (by decide +kernel)⟩
theorem lw_p49 : lw_okq (⟨"TokenRoundsModel", "ranks", "()I"⟩, 27) := ⟨⟨by decide +kernel, by decide +kernel⟩, List.mem_of_getElem? (i := 835) (by decide +kernel), List.mem_of_getElem? (i := 1068) (by decide +kernel), List.mem_of_getElem? (i := 1069) (by decide +kernel)⟩
theorem lw_p50 : lw_okq (⟨"TokenRoundsModel", "whole", "()I"⟩, 27) := ⟨⟨by decide +kernel, by decide +kernel⟩, List.mem_of_getElem? (i := 835) (by decide +kernel), List.mem_of_getElem? (i := 1072) (by decide +kernel), List.mem_of_getElem? (i := 1073) (by decide +kernel)⟩
theorem lw_p51 : lw_okq (⟨"TokenRoundsModel", "goes", "()V"⟩, 27) := ⟨⟨by decide +kernel, by decide +kernel⟩, List.mem_of_getElem? (i := 835) (by decide +kernel), List.mem_of_getElem? (i := 1081) (by decide +kernel), List.mem_of_getElem? (i := 1082) (by decide +kernel)⟩
theorem lw_p52 : lw_okq (⟨"TokenRoundsModel", "worst", "()I"⟩, 27) := ⟨⟨by decide +kernel, by decide +kernel⟩, List.mem_of_getElem? (i := 835) (by decide +kernel), List.mem_of_getElem? (i := 1090) (by decide +kernel), List.mem_of_getElem? (i := 1091) (by decide +kernel)⟩
theorem lw_p53 : lw_okq (⟨"TokenRoundsModel", "areJoined", "(I)Z"⟩, 27) := ⟨⟨by decide +kernel, by decide +kernel⟩, List.mem_of_getElem? (i := 835) (by decide +kernel), List.mem_of_getElem? (i := 1094) (by decide +kernel), List.mem_of_getElem? (i := 1095) (by decide +kernel)⟩
theorem lw_p54 : lw_okq (⟨"TokenRoundsModel", "laysViews", "(I)I"⟩, 27) := ⟨⟨by decide +kernel, by decide +kernel⟩, List.mem_of_getElem? (i := 835) (by decide +kernel), List.mem_of_getElem? (i := 1107) (by decide +kernel), List.mem_of_getElem? (i := 1108) (by decide +kernel)⟩
theorem lw_p55 : lw_okq (⟨"TokenRoundsModel", "areAlike", "(III)Z"⟩, 27) := ⟨⟨by decide +kernel, by decide +kernel⟩, List.mem_of_getElem? (i := 835) (by decide +kernel), List.mem_of_getElem? (i := 1111) (by decide +kernel), List.mem_of_getElem? (i := 1112) (by decide +kernel)⟩
theorem lw_p56 : lw_okq (⟨"TokenRoundsModel", "laysOdds", "(I)V"⟩, 27) := ⟨⟨by decide +kernel, by decide +kernel⟩, List.mem_of_getElem? (i := 835) (by decide +kernel), List.mem_of_getElem? (i := 1125) (by decide +kernel), List.mem_of_getElem? (i := 1126) (by decide +kernel)⟩
theorem lw_p57 : lw_okq (⟨"TokenRoundsModel", "reads", "()Z"⟩, 27) := ⟨⟨by decide +kernel, by decide +kernel⟩, List.mem_of_getElem? (i := 835) (by decide +kernel), List.mem_of_getElem? (i := 1146) (by decide +kernel), List.mem_of_getElem? (i := 1147) (by decide +kernel)⟩
theorem lw_p58 : lw_okq (⟨"TokenRoundsModel", "readsNet", "()Z"⟩, 27) := ⟨⟨by decide +kernel, by decide +kernel⟩, List.mem_of_getElem? (i := 835) (by decide +kernel), List.mem_of_getElem? (i := 1150) (by decide +kernel), List.mem_of_getElem? (i := 1151) (by decide +kernel)⟩
theorem lw_p59 : lw_okq (⟨"TokenRoundsModel", "here", "()I"⟩, 27) := ⟨⟨by decide +kernel, by decide +kernel⟩, List.mem_of_getElem? (i := 835) (by decide +kernel), List.mem_of_getElem? (i := 1154) (by decide +kernel), List.mem_of_getElem? (i := 1155) (by decide +kernel)⟩
theorem lw_p60 : lw_okq (⟨"TokenRoundsModel", "word", "()J"⟩, 27) := ⟨⟨by decide +kernel, by decide +kernel⟩, List.mem_of_getElem? (i := 835) (by decide +kernel), List.mem_of_getElem? (i := 1158) (by decide +kernel), List.mem_of_getElem? (i := 1159) (by decide +kernel)⟩
theorem lw_p61 : lw_okq (⟨"TokenRoundsModel", "readsRow", "(Z)Z"⟩, 27) := ⟨⟨by decide +kernel, by decide +kernel⟩, List.mem_of_getElem? (i := 835) (by decide +kernel), List.mem_of_getElem? (i := 1167) (by decide +kernel), List.mem_of_getElem? (i := 1168) (by decide +kernel)⟩
theorem lw_p62 : lw_okq (⟨"TokenRoundsModel", "nodeHere", "()I"⟩, 27) := ⟨⟨by decide +kernel, by decide +kernel⟩, List.mem_of_getElem? (i := 835) (by decide +kernel), List.mem_of_getElem? (i := 1171) (by decide +kernel), List.mem_of_getElem? (i := 1172) (by decide +kernel)⟩
theorem lw_p63 : lw_okq (⟨"TokenRoundsModel", "readsStar", "()Z"⟩, 27) := ⟨⟨by decide +kernel, by decide +kernel⟩, List.mem_of_getElem? (i := 835) (by decide +kernel), List.mem_of_getElem? (i := 1175) (by decide +kernel), List.mem_of_getElem? (i := 1176) (by decide +kernel)⟩
def lw_privs_4 : List (MethodName × Nat) := [(⟨"TokenRoundsModel", "hears", "(II)V"⟩, 27), (⟨"TokenRoundsModel", "ranks", "()I"⟩, 27), (⟨"TokenRoundsModel", "whole", "()I"⟩, 27), (⟨"TokenRoundsModel", "goes", "()V"⟩, 27), (⟨"TokenRoundsModel", "worst", "()I"⟩, 27), (⟨"TokenRoundsModel", "areJoined", "(I)Z"⟩, 27), (⟨"TokenRoundsModel", "laysViews", "(I)I"⟩, 27), (⟨"TokenRoundsModel", "areAlike", "(III)Z"⟩, 27), (⟨"TokenRoundsModel", "laysOdds", "(I)V"⟩, 27), (⟨"TokenRoundsModel", "reads", "()Z"⟩, 27), (⟨"TokenRoundsModel", "readsNet", "()Z"⟩, 27), (⟨"TokenRoundsModel", "here", "()I"⟩, 27), (⟨"TokenRoundsModel", "word", "()J"⟩, 27), (⟨"TokenRoundsModel", "readsRow", "(Z)Z"⟩, 27), (⟨"TokenRoundsModel", "nodeHere", "()I"⟩, 27), (⟨"TokenRoundsModel", "readsStar", "()Z"⟩, 27)]
theorem lw_r4 : ∀ q ∈ lw_privs_4, lw_okq q := List.forall_mem_cons.mpr ⟨lw_p48, List.forall_mem_cons.mpr ⟨lw_p49, List.forall_mem_cons.mpr ⟨lw_p50, List.forall_mem_cons.mpr ⟨lw_p51, List.forall_mem_cons.mpr ⟨lw_p52, List.forall_mem_cons.mpr ⟨lw_p53, List.forall_mem_cons.mpr ⟨lw_p54, List.forall_mem_cons.mpr ⟨lw_p55, List.forall_mem_cons.mpr ⟨lw_p56, List.forall_mem_cons.mpr ⟨lw_p57, List.forall_mem_cons.mpr ⟨lw_p58, List.forall_mem_cons.mpr ⟨lw_p59, List.forall_mem_cons.mpr ⟨lw_p60, List.forall_mem_cons.mpr ⟨lw_p61, List.forall_mem_cons.mpr ⟨lw_p62, List.forall_mem_cons.mpr ⟨lw_p63, fun _ h => absurd h List.not_mem_nil⟩⟩⟩⟩⟩⟩⟩⟩⟩⟩⟩⟩⟩⟩⟩⟩
theorem lw_p64 : lw_okq (⟨"TokenRoundsModel", "readsLinks", "()Z"⟩, 27) := ⟨⟨by decide +kernel, by decide +kernel⟩, List.mem_of_getElem? (i := 835) (by decide +kernel), List.mem_of_getElem? (i := 1180) (by decide +kernel), List.mem_of_getElem? (i := 1181) (by decide +kernel)⟩
theorem lw_p65 : lw_okq (⟨"TokenRoundsModel", "isStop", "()Z"⟩, 27) := ⟨⟨by decide +kernel, by decide +kernel⟩, List.mem_of_getElem? (i := 835) (by decide +kernel), List.mem_of_getElem? (i := 1184) (by decide +kernel), List.mem_of_getElem? (i := 1185) (by decide +kernel)⟩
theorem lw_p66 : lw_okq (⟨"TokenRoundsModel", "why", "(IIII)I"⟩, 27) := ⟨⟨by decide +kernel, by decide +kernel⟩, List.mem_of_getElem? (i := 835) (by decide +kernel), List.mem_of_getElem? (i := 1204) (by decide +kernel), List.mem_of_getElem? (i := 1205) (by decide +kernel)⟩
def lw_privs_5 : List (MethodName × Nat) := [(⟨"TokenRoundsModel", "readsLinks", "()Z"⟩, 27), (⟨"TokenRoundsModel", "isStop", "()Z"⟩, 27), (⟨"TokenRoundsModel", "why", "(IIII)I"⟩, 27)]
theorem lw_r5 : ∀ q ∈ lw_privs_5, lw_okq q := List.forall_mem_cons.mpr ⟨lw_p64, List.forall_mem_cons.mpr ⟨lw_p65, List.forall_mem_cons.mpr ⟨lw_p66, fun _ h => absurd h List.not_mem_nil⟩⟩⟩
def lw_privs : List (MethodName × Nat) := lw_privs_1 ++ (lw_privs_2 ++ (lw_privs_3 ++ (lw_privs_4 ++ (lw_privs_5))))
def lw_tbl : List Cond := k2_sels lw_privs ++ tables_1
theorem lw_privs_ok : ∀ q ∈ lw_privs, lw_okq q := by
  show ∀ q ∈ lw_privs_1 ++ (lw_privs_2 ++ (lw_privs_3 ++ (lw_privs_4 ++ (lw_privs_5)))), lw_okq q
  exact List.forall_mem_append.mpr ⟨lw_r1, List.forall_mem_append.mpr ⟨lw_r2, List.forall_mem_append.mpr ⟨lw_r3, List.forall_mem_append.mpr ⟨lw_r4, lw_r5⟩⟩⟩⟩
end
section
def RX0 : String := "TokenRounds$Gains"
def TX0 : u_T := fun k => match k with
  | 0 => ("TokenRounds$Gains", "growths", "[I", true)
  | 1 => ("TokenRounds$Gains", "degrees", "[I", true)
  | _ => ("TokenRounds$Gains", "tree", "[I", true)
def tyX0 : Nat → FieldType := fun k => match k with
  | 0 => .array .int
  | 1 => .array .int
  | _ => .array .int
abbrev wsX00 : List Cond := u_ws RX0 TX0 3
theorem nmX0 : ∀ a, a < 3 → ∀ b, b < 3 → a ≠ b → (TX0 a).2.1 ≠ (TX0 b).2.1 := by decide +kernel
theorem tyX0_ok : ∀ k, k < 3 → parseFieldDescriptor (TX0 k).2.2.1 = some (tyX0 k) := by decide +kernel
abbrev cX0_init : ByteArray := prog_2_method_1_code
def yX0_init : MethodName := ⟨RX0, "<init>", "()V"⟩
abbrev cX0_present : ByteArray := prog_2_method_2_code
def yX0_present : MethodName := ⟨RX0, "present", "(LTokenRounds$Net;LTokenRounds$Round;)I"⟩
abbrev cX0_best : ByteArray := prog_2_method_3_code
def yX0_best : MethodName := ⟨RX0, "best", "(LTokenRounds$Net;LTokenRounds$Round;)I"⟩
abbrev cX0_worst : ByteArray := prog_2_method_4_code
def yX0_worst : MethodName := ⟨RX0, "worst", "(I)I"⟩
abbrev cX0_findGrowths : ByteArray := prog_2_method_5_code
def yX0_findGrowths : MethodName := ⟨RX0, "findGrowths", "(LTokenRounds$Net;LTokenRounds$Round;)V"⟩
abbrev cX0_grow : ByteArray := prog_2_method_6_code
def yX0_grow : MethodName := ⟨RX0, "grow", "(II)V"⟩
abbrev cX0_countDegrees : ByteArray := prog_2_method_7_code
def yX0_countDegrees : MethodName := ⟨RX0, "countDegrees", "(II)V"⟩
abbrev cX0_leafBehind : ByteArray := prog_2_method_8_code
def yX0_leafBehind : MethodName := ⟨RX0, "leafBehind", "(II)I"⟩
abbrev cX0_connect : ByteArray := prog_2_method_9_code
def yX0_connect : MethodName := ⟨RX0, "connect", "(II)V"⟩
abbrev cX0_byTree : ByteArray := prog_2_method_10_code
def yX0_byTree : MethodName := ⟨RX0, "byTree", "(I)I"⟩
def RX1 : String := "TokenRounds$Net"
def TX1 : u_T := fun k => match k with
  | 0 => ("TokenRounds$Net", "plan", "LTokenRounds$Plan;", true)
  | 1 => ("TokenRounds$Net", "spaces", "[LTokenRounds$Space;", true)
  | 2 => ("TokenRounds$Net", "gone", "[I", true)
  | 3 => ("TokenRounds$Net", "nodes", "I", false)
  | 4 => ("TokenRounds$Net", "tokens", "I", false)
  | 5 => ("TokenRounds$Net", "manner", "I", false)
  | 6 => ("TokenRounds$Net", "span", "I", false)
  | 7 => ("TokenRounds$Net", "round", "I", false)
  | _ => ("TokenRounds$Net", "draw", "I", false)
def tyX1 : Nat → FieldType := fun k => match k with
  | 0 => .object "TokenRounds$Plan"
  | 1 => .array (.object "TokenRounds$Space")
  | 2 => .array .int
  | 3 => .int
  | 4 => .int
  | 5 => .int
  | 6 => .int
  | 7 => .int
  | _ => .int
abbrev wsX10 : List Cond := u_ws RX1 TX1 9
theorem nmX1 : ∀ a, a < 9 → ∀ b, b < 9 → a ≠ b → (TX1 a).2.1 ≠ (TX1 b).2.1 := by decide +kernel
theorem tyX1_ok : ∀ k, k < 9 → parseFieldDescriptor (TX1 k).2.2.1 = some (tyX1 k) := by decide +kernel
abbrev cX1_init : ByteArray := prog_3_method_1_code
def yX1_init : MethodName := ⟨RX1, "<init>", "()V"⟩
abbrev cX1_take : ByteArray := prog_3_method_2_code
def yX1_take : MethodName := ⟨RX1, "take", "(LTokenRounds$Net;)V"⟩
abbrev cX1_hasNode : ByteArray := prog_3_method_3_code
def yX1_hasNode : MethodName := ⟨RX1, "hasNode", "(I)Z"⟩
abbrev cX1_isSum : ByteArray := prog_3_method_4_code
def yX1_isSum : MethodName := ⟨RX1, "isSum", "(I)Z"⟩
abbrev cX1_neighbours : ByteArray := prog_3_method_5_code
def yX1_neighbours : MethodName := ⟨RX1, "neighbours", "(II)I"⟩
abbrev cX1_ranks : ByteArray := prog_3_method_6_code
def yX1_ranks : MethodName := ⟨RX1, "ranks", "()I"⟩
abbrev cX1_full : ByteArray := prog_3_method_7_code
def yX1_full : MethodName := ⟨RX1, "full", "()I"⟩
abbrev cX1_allFull : ByteArray := prog_3_method_8_code
def yX1_allFull : MethodName := ⟨RX1, "allFull", "()Z"⟩
abbrev cX1_mayBecome : ByteArray := prog_3_method_9_code
def yX1_mayBecome : MethodName := ⟨RX1, "mayBecome", "(II)Z"⟩
abbrev cX1_setting : ByteArray := prog_3_method_10_code
def yX1_setting : MethodName := ⟨RX1, "setting", "(I)I"⟩
abbrev cX1_become : ByteArray := prog_3_method_11_code
def yX1_become : MethodName := ⟨RX1, "become", "(II)V"⟩
abbrev cX1_forget : ByteArray := prog_3_method_12_code
def yX1_forget : MethodName := ⟨RX1, "forget", "()V"⟩
def RX2 : String := "TokenRounds$Odds"
def TX2 : u_T := fun k => match k with
  | 0 => ("TokenRounds$Odds", "whole", "[J", true)
  | 1 => ("TokenRounds$Odds", "above", "J", false)
  | _ => ("TokenRounds$Odds", "below", "J", false)
def tyX2 : Nat → FieldType := fun k => match k with
  | 0 => .array .long
  | 1 => .long
  | _ => .long
abbrev wsX20 : List Cond := u_ws RX2 TX2 3
theorem nmX2 : ∀ a, a < 3 → ∀ b, b < 3 → a ≠ b → (TX2 a).2.1 ≠ (TX2 b).2.1 := by decide +kernel
theorem tyX2_ok : ∀ k, k < 3 → parseFieldDescriptor (TX2 k).2.2.1 = some (tyX2 k) := by decide +kernel
abbrev cX2_init : ByteArray := prog_4_method_1_code
def yX2_init : MethodName := ⟨RX2, "<init>", "()V"⟩
abbrev cX2_reckon : ByteArray := prog_4_method_2_code
def yX2_reckon : MethodName := ⟨RX2, "reckon", "(LTokenRounds$Net;I)V"⟩
abbrev cX2_parted : ByteArray := prog_4_method_3_code
def yX2_parted : MethodName := ⟨RX2, "parted", "(LTokenRounds$Net;II)J"⟩
abbrev cX2_within : ByteArray := prog_4_method_4_code
def yX2_within : MethodName := ⟨RX2, "within", "(LTokenRounds$Net;I)I"⟩
abbrev cX2_power : ByteArray := prog_4_method_5_code
def yX2_power : MethodName := ⟨RX2, "power", "(II)J"⟩
abbrev cX2_shorten : ByteArray := prog_4_method_6_code
def yX2_shorten : MethodName := ⟨RX2, "shorten", "()V"⟩
def RX3 : String := "TokenRounds$Past"
def TX3 : u_T := fun k => match k with
  | 0 => ("TokenRounds$Past", "states", "[LTokenRounds$Net;", true)
  | _ => ("TokenRounds$Past", "many", "I", false)
def tyX3 : Nat → FieldType := fun k => match k with
  | 0 => .array (.object "TokenRounds$Net")
  | _ => .int
abbrev wsX30 : List Cond := u_ws RX3 TX3 2
theorem nmX3 : ∀ a, a < 2 → ∀ b, b < 2 → a ≠ b → (TX3 a).2.1 ≠ (TX3 b).2.1 := by decide +kernel
theorem tyX3_ok : ∀ k, k < 2 → parseFieldDescriptor (TX3 k).2.2.1 = some (tyX3 k) := by decide +kernel
abbrev cX3_init : ByteArray := prog_5_method_1_code
def yX3_init : MethodName := ⟨RX3, "<init>", "()V"⟩
abbrev cX3_keep : ByteArray := prog_5_method_2_code
def yX3_keep : MethodName := ⟨RX3, "keep", "(LTokenRounds$Net;)V"⟩
abbrev cX3_back : ByteArray := prog_5_method_3_code
def yX3_back : MethodName := ⟨RX3, "back", "(LTokenRounds$Net;)Z"⟩
abbrev cX3_take : ByteArray := prog_5_method_4_code
def yX3_take : MethodName := ⟨RX3, "take", "(LTokenRounds$Past;)V"⟩
abbrev cX3_loseOldest : ByteArray := prog_5_method_5_code
def yX3_loseOldest : MethodName := ⟨RX3, "loseOldest", "()V"⟩
def RX4 : String := "TokenRounds$Plan"
def TX4 : u_T := fun k => match k with
  | 0 => ("TokenRounds$Plan", "links", "[I", true)
  | _ => ("TokenRounds$Plan", "nets", "I", false)
def tyX4 : Nat → FieldType := fun k => match k with
  | 0 => .array .int
  | _ => .int
abbrev wsX40 : List Cond := u_ws RX4 TX4 2
theorem nmX4 : ∀ a, a < 2 → ∀ b, b < 2 → a ≠ b → (TX4 a).2.1 ≠ (TX4 b).2.1 := by decide +kernel
theorem tyX4_ok : ∀ k, k < 2 → parseFieldDescriptor (TX4 k).2.2.1 = some (tyX4 k) := by decide +kernel
abbrev cX4_init : ByteArray := prog_6_method_1_code
def yX4_init : MethodName := ⟨RX4, "<init>", "()V"⟩
abbrev cX4_take : ByteArray := prog_6_method_2_code
def yX4_take : MethodName := ⟨RX4, "take", "(LTokenRounds$Plan;)V"⟩
abbrev cX4_begin : ByteArray := prog_6_method_3_code
def yX4_begin : MethodName := ⟨RX4, "begin", "(I)V"⟩
abbrev cX4_path : ByteArray := prog_6_method_4_code
def yX4_path : MethodName := ⟨RX4, "path", "(II)V"⟩
abbrev cX4_link : ByteArray := prog_6_method_5_code
def yX4_link : MethodName := ⟨RX4, "link", "(III)V"⟩
abbrev cX4_of : ByteArray := prog_6_method_6_code
def yX4_of : MethodName := ⟨RX4, "of", "(II)I"⟩
abbrev cX4_joins : ByteArray := prog_6_method_7_code
def yX4_joins : MethodName := ⟨RX4, "joins", "(II)Z"⟩
abbrev cX4_set : ByteArray := prog_6_method_8_code
def yX4_set : MethodName := ⟨RX4, "set", "(III)V"⟩
def RX5 : String := "TokenRounds$Round"
def TX5 : u_T := fun k => match k with
  | 0 => ("TokenRounds$Round", "sums", "[I", true)
  | 1 => ("TokenRounds$Round", "many", "[I", true)
  | 2 => ("TokenRounds$Round", "trial", "LTokenRounds$Space;", true)
  | _ => ("TokenRounds$Round", "draw", "I", false)
def tyX5 : Nat → FieldType := fun k => match k with
  | 0 => .array .int
  | 1 => .array .int
  | 2 => .object "TokenRounds$Space"
  | _ => .int
abbrev wsX50 : List Cond := u_ws RX5 TX5 4
theorem nmX5 : ∀ a, a < 4 → ∀ b, b < 4 → a ≠ b → (TX5 a).2.1 ≠ (TX5 b).2.1 := by decide +kernel
theorem tyX5_ok : ∀ k, k < 4 → parseFieldDescriptor (TX5 k).2.2.1 = some (tyX5 k) := by decide +kernel
abbrev cX5_init : ByteArray := prog_7_method_1_code
def yX5_init : MethodName := ⟨RX5, "<init>", "()V"⟩
abbrev cX5_prepare : ByteArray := prog_7_method_2_code
def yX5_prepare : MethodName := ⟨RX5, "prepare", "(LTokenRounds$Net;I)V"⟩
abbrev cX5_only : ByteArray := prog_7_method_3_code
def yX5_only : MethodName := ⟨RX5, "only", "(I)I"⟩
abbrev cX5_growth : ByteArray := prog_7_method_4_code
def yX5_growth : MethodName := ⟨RX5, "growth", "(LTokenRounds$Net;II)I"⟩
abbrev cX5_pass : ByteArray := prog_7_method_5_code
def yX5_pass : MethodName := ⟨RX5, "pass", "(LTokenRounds$Net;)V"⟩
abbrev cX5_passUntilFull : ByteArray := prog_7_method_6_code
def yX5_passUntilFull : MethodName := ⟨RX5, "passUntilFull", "(LTokenRounds$Net;I)I"⟩
abbrev cX5_chosen : ByteArray := prog_7_method_7_code
def yX5_chosen : MethodName := ⟨RX5, "chosen", "(LTokenRounds$Net;II)I"⟩
abbrev cX5_sendAll : ByteArray := prog_7_method_8_code
def yX5_sendAll : MethodName := ⟨RX5, "sendAll", "(LTokenRounds$Space;I)V"⟩
abbrev cX5_send : ByteArray := prog_7_method_9_code
def yX5_send : MethodName := ⟨RX5, "send", "(II)V"⟩
abbrev cX5_deliver : ByteArray := prog_7_method_10_code
def yX5_deliver : MethodName := ⟨RX5, "deliver", "(LTokenRounds$Net;LTokenRounds$Space;I)I"⟩
def RX6 : String := "TokenRounds$Row"
def TX6 : u_T := fun k => match k with
  | 0 => ("TokenRounds$Row", "items", "[J", true)
  | 1 => ("TokenRounds$Row", "lane", "I", false)
  | _ => ("TokenRounds$Row", "many", "I", false)
def tyX6 : Nat → FieldType := fun k => match k with
  | 0 => .array .long
  | 1 => .int
  | _ => .int
abbrev wsX60 : List Cond := u_ws RX6 TX6 3
theorem nmX6 : ∀ a, a < 3 → ∀ b, b < 3 → a ≠ b → (TX6 a).2.1 ≠ (TX6 b).2.1 := by decide +kernel
theorem tyX6_ok : ∀ k, k < 3 → parseFieldDescriptor (TX6 k).2.2.1 = some (tyX6 k) := by decide +kernel
abbrev cX6_init : ByteArray := prog_8_method_1_code
def yX6_init : MethodName := ⟨RX6, "<init>", "()V"⟩
abbrev cX6_isNothing : ByteArray := prog_8_method_2_code
def yX6_isNothing : MethodName := ⟨RX6, "isNothing", "()Z"⟩
abbrev cX6_covers : ByteArray := prog_8_method_3_code
def yX6_covers : MethodName := ⟨RX6, "covers", "(II)Z"⟩
abbrev cX6_renew : ByteArray := prog_8_method_4_code
def yX6_renew : MethodName := ⟨RX6, "renew", "(II)V"⟩
abbrev cX6_lose : ByteArray := prog_8_method_5_code
def yX6_lose : MethodName := ⟨RX6, "lose", "()I"⟩
abbrev cX6_set : ByteArray := prog_8_method_6_code
def yX6_set : MethodName := ⟨RX6, "set", "(IJ)V"⟩
def RX7 : String := "TokenRounds$Space"
def TX7 : u_T := fun k => match k with
  | _ => ("TokenRounds$Space", "sums", "[I", true)
def tyX7 : Nat → FieldType := fun k => match k with
  | _ => .array .int
abbrev wsX70 : List Cond := u_ws RX7 TX7 1
theorem nmX7 : ∀ a, a < 1 → ∀ b, b < 1 → a ≠ b → (TX7 a).2.1 ≠ (TX7 b).2.1 := by decide +kernel
theorem tyX7_ok : ∀ k, k < 1 → parseFieldDescriptor (TX7 k).2.2.1 = some (tyX7 k) := by decide +kernel
abbrev cX7_init : ByteArray := prog_9_method_1_code
def yX7_init : MethodName := ⟨RX7, "<init>", "()V"⟩
abbrev cX7_empty : ByteArray := prog_9_method_2_code
def yX7_empty : MethodName := ⟨RX7, "empty", "()V"⟩
abbrev cX7_take : ByteArray := prog_9_method_3_code
def yX7_take : MethodName := ⟨RX7, "take", "(LTokenRounds$Space;)V"⟩
abbrev cX7_rank : ByteArray := prog_9_method_4_code
def yX7_rank : MethodName := ⟨RX7, "rank", "()I"⟩
abbrev cX7_rest : ByteArray := prog_9_method_5_code
def yX7_rest : MethodName := ⟨RX7, "rest", "(I)I"⟩
abbrev cX7_add : ByteArray := prog_9_method_6_code
def yX7_add : MethodName := ⟨RX7, "add", "(I)Z"⟩
abbrev cX7_row : ByteArray := prog_9_method_7_code
def yX7_row : MethodName := ⟨RX7, "row", "(I)I"⟩
abbrev cX7_mixed : ByteArray := prog_9_method_8_code
def yX7_mixed : MethodName := ⟨RX7, "mixed", "(I)I"⟩
abbrev cX7_told : ByteArray := prog_9_method_9_code
def yX7_told : MethodName := ⟨RX7, "told", "()I"⟩
abbrev cX7_greatest : ByteArray := prog_9_method_10_code
def yX7_greatest : MethodName := ⟨RX7, "greatest", "(I)I"⟩
def RX8 : String := "TokenRounds$Tape"
def TX8 : u_T := fun k => match k with
  | 0 => ("TokenRounds$Tape", "letters", "[C", true)
  | 1 => ("TokenRounds$Tape", "plan", "LTokenRounds$Plan;", true)
  | 2 => ("TokenRounds$Tape", "many", "I", false)
  | 3 => ("TokenRounds$Tape", "place", "I", false)
  | _ => ("TokenRounds$Tape", "nodes", "I", false)
def tyX8 : Nat → FieldType := fun k => match k with
  | 0 => .array .char
  | 1 => .object "TokenRounds$Plan"
  | 2 => .int
  | 3 => .int
  | _ => .int
abbrev wsX80 : List Cond := u_ws RX8 TX8 5
theorem nmX8 : ∀ a, a < 5 → ∀ b, b < 5 → a ≠ b → (TX8 a).2.1 ≠ (TX8 b).2.1 := by decide +kernel
theorem tyX8_ok : ∀ k, k < 5 → parseFieldDescriptor (TX8 k).2.2.1 = some (tyX8 k) := by decide +kernel
abbrev cX8_init : ByteArray := prog_10_method_1_code
def yX8_init : MethodName := ⟨RX8, "<init>", "()V"⟩
abbrev cX8_append : ByteArray := prog_10_method_2_code
def yX8_append : MethodName := ⟨RX8, "append", "(C)Z"⟩
abbrev cX8_empty : ByteArray := prog_10_method_3_code
def yX8_empty : MethodName := ⟨RX8, "empty", "()V"⟩
abbrev cX8_parse : ByteArray := prog_10_method_4_code
def yX8_parse : MethodName := ⟨RX8, "parse", "(I)I"⟩
abbrev cX8_ahead : ByteArray := prog_10_method_5_code
def yX8_ahead : MethodName := ⟨RX8, "ahead", "()I"⟩
abbrev cX8_isNet : ByteArray := prog_10_method_6_code
def yX8_isNet : MethodName := ⟨RX8, "isNet", "(I)Z"⟩
abbrev cX8_isName : ByteArray := prog_10_method_7_code
def yX8_isName : MethodName := ⟨RX8, "isName", "(ILjava/lang/String;)Z"⟩
abbrev cX8_isRow : ByteArray := prog_10_method_8_code
def yX8_isRow : MethodName := ⟨RX8, "isRow", "(IZ)Z"⟩
abbrev cX8_isStar : ByteArray := prog_10_method_9_code
def yX8_isStar : MethodName := ⟨RX8, "isStar", "(I)Z"⟩
abbrev cX8_isLinks : ByteArray := prog_10_method_10_code
def yX8_isLinks : MethodName := ⟨RX8, "isLinks", "(I)Z"⟩
abbrev cX8_isLink : ByteArray := prog_10_method_11_code
def yX8_isLink : MethodName := ⟨RX8, "isLink", "(I)Z"⟩
abbrev cX8_linkToAll : ByteArray := prog_10_method_12_code
def yX8_linkToAll : MethodName := ⟨RX8, "linkToAll", "(II)V"⟩
abbrev cX8_figure : ByteArray := prog_10_method_13_code
def yX8_figure : MethodName := ⟨RX8, "figure", "()I"⟩
def RX9 : String := "TokenRounds$Views"
def TX9 : u_T := fun k => match k with
  | 0 => ("TokenRounds$Views", "views", "[I", true)
  | _ => ("TokenRounds$Views", "next", "[I", true)
def tyX9 : Nat → FieldType := fun k => match k with
  | 0 => .array .int
  | _ => .array .int
abbrev wsX90 : List Cond := u_ws RX9 TX9 2
theorem nmX9 : ∀ a, a < 2 → ∀ b, b < 2 → a ≠ b → (TX9 a).2.1 ≠ (TX9 b).2.1 := by decide +kernel
theorem tyX9_ok : ∀ k, k < 2 → parseFieldDescriptor (TX9 k).2.2.1 = some (tyX9 k) := by decide +kernel
abbrev cX9_init : ByteArray := prog_11_method_1_code
def yX9_init : MethodName := ⟨RX9, "<init>", "()V"⟩
abbrev cX9_behind : ByteArray := prog_11_method_2_code
def yX9_behind : MethodName := ⟨RX9, "behind", "(LTokenRounds$Net;I)I"⟩
abbrev cX9_part : ByteArray := prog_11_method_3_code
def yX9_part : MethodName := ⟨RX9, "part", "(LTokenRounds$Net;I)I"⟩
abbrev cX9_leastLike : ByteArray := prog_11_method_4_code
def yX9_leastLike : MethodName := ⟨RX9, "leastLike", "(LTokenRounds$Net;II)I"⟩
abbrev cX9_seeAlike : ByteArray := prog_11_method_5_code
def yX9_seeAlike : MethodName := ⟨RX9, "seeAlike", "(LTokenRounds$Net;II)Z"⟩
abbrev cX9_having : ByteArray := prog_11_method_6_code
def yX9_having : MethodName := ⟨RX9, "having", "(LTokenRounds$Net;II)I"⟩
def RX10 : String := "TokenRounds"
def TX10 : u_T := fun k => match k with
  | 0 => ("TokenRounds", "now", "LTokenRounds$Net;", true)
  | 1 => ("TokenRounds", "past", "LTokenRounds$Past;", true)
  | 2 => ("TokenRounds", "keptNow", "LTokenRounds$Net;", true)
  | 3 => ("TokenRounds", "keptPast", "LTokenRounds$Past;", true)
  | 4 => ("TokenRounds", "mind", "LTokenRounds$Net;", true)
  | 5 => ("TokenRounds", "round", "LTokenRounds$Round;", true)
  | 6 => ("TokenRounds", "gains", "LTokenRounds$Gains;", true)
  | 7 => ("TokenRounds", "seen", "LTokenRounds$Views;", true)
  | 8 => ("TokenRounds", "odds", "LTokenRounds$Odds;", true)
  | 9 => ("TokenRounds", "tape", "LTokenRounds$Tape;", true)
  | 10 => ("TokenRounds", "rows", "[LTokenRounds$Row;", true)
  | _ => ("TokenRounds", "kept", "Z", false)
def tyX10 : Nat → FieldType := fun k => match k with
  | 0 => .object "TokenRounds$Net"
  | 1 => .object "TokenRounds$Past"
  | 2 => .object "TokenRounds$Net"
  | 3 => .object "TokenRounds$Past"
  | 4 => .object "TokenRounds$Net"
  | 5 => .object "TokenRounds$Round"
  | 6 => .object "TokenRounds$Gains"
  | 7 => .object "TokenRounds$Views"
  | 8 => .object "TokenRounds$Odds"
  | 9 => .object "TokenRounds$Tape"
  | 10 => .array (.object "TokenRounds$Row")
  | _ => .boolean
abbrev wsX100 : List Cond := u_ws RX10 TX10 12
theorem nmX10 : ∀ a, a < 12 → ∀ b, b < 12 → a ≠ b → (TX10 a).2.1 ≠ (TX10 b).2.1 := by decide +kernel
theorem tyX10_ok : ∀ k, k < 12 → parseFieldDescriptor (TX10 k).2.2.1 = some (tyX10 k) := by decide +kernel
abbrev cX10_init : ByteArray := prog_1_method_1_code
def yX10_init : MethodName := ⟨RX10, "<init>", "()V"⟩
abbrev cX10_put : ByteArray := prog_1_method_2_code
def yX10_put : MethodName := ⟨RX10, "put", "(II)I"⟩
abbrev cX10_node : ByteArray := prog_1_method_3_code
def yX10_node : MethodName := ⟨RX10, "node", "(II)I"⟩
abbrev cX10_sum : ByteArray := prog_1_method_4_code
def yX10_sum : MethodName := ⟨RX10, "sum", "(II)I"⟩
abbrev cX10_knows : ByteArray := prog_1_method_5_code
def yX10_knows : MethodName := ⟨RX10, "knows", "(II)I"⟩
abbrev cX10_sends : ByteArray := prog_1_method_6_code
def yX10_sends : MethodName := ⟨RX10, "sends", "(I)I"⟩
abbrev cX10_linked : ByteArray := prog_1_method_7_code
def yX10_linked : MethodName := ⟨RX10, "linked", "(II)I"⟩
abbrev cX10_count : ByteArray := prog_1_method_8_code
def yX10_count : MethodName := ⟨RX10, "count", "(I)I"⟩
abbrev cX10_go : ByteArray := prog_1_method_9_code
def yX10_go : MethodName := ⟨RX10, "go", "(I)I"⟩
abbrev cX10_gain : ByteArray := prog_1_method_10_code
def yX10_gain : MethodName := ⟨RX10, "gain", "(I)I"⟩
abbrev cX10_foreseen : ByteArray := prog_1_method_11_code
def yX10_foreseen : MethodName := ⟨RX10, "foreseen", "()I"⟩
abbrev cX10_views : ByteArray := prog_1_method_12_code
def yX10_views : MethodName := ⟨RX10, "views", "(I)I"⟩
abbrev cX10_view : ByteArray := prog_1_method_13_code
def yX10_view : MethodName := ⟨RX10, "view", "(II)I"⟩
abbrev cX10_joined : ByteArray := prog_1_method_14_code
def yX10_joined : MethodName := ⟨RX10, "joined", "(II)J"⟩
abbrev cX10_tell : ByteArray := prog_1_method_15_code
def yX10_tell : MethodName := ⟨RX10, "tell", "(II)I"⟩
abbrev cX10_type : ByteArray := prog_1_method_16_code
def yX10_type : MethodName := ⟨RX10, "type", "(I)I"⟩
abbrev cX10_read : ByteArray := prog_1_method_17_code
def yX10_read : MethodName := ⟨RX10, "read", "()I"⟩
abbrev cX10_drift : ByteArray := prog_1_method_18_code
def yX10_drift : MethodName := ⟨RX10, "drift", "(I)I"⟩
abbrev cX10_undo : ByteArray := prog_1_method_19_code
def yX10_undo : MethodName := ⟨RX10, "undo", "()I"⟩
abbrev cX10_seed : ByteArray := prog_1_method_20_code
def yX10_seed : MethodName := ⟨RX10, "seed", "(I)I"⟩
abbrev cX10_image : ByteArray := prog_1_method_21_code
def yX10_image : MethodName := ⟨RX10, "image", "()I"⟩
abbrev cX10_restore : ByteArray := prog_1_method_22_code
def yX10_restore : MethodName := ⟨RX10, "restore", "()I"⟩
abbrev cX10_could : ByteArray := prog_1_method_23_code
def yX10_could : MethodName := ⟨RX10, "could", "(III)I"⟩
abbrev cX10_film : ByteArray := prog_1_method_24_code
def yX10_film : MethodName := ⟨RX10, "film", "(IIII)I"⟩
abbrev cX10_sheet : ByteArray := prog_1_method_25_code
def yX10_sheet : MethodName := ⟨RX10, "sheet", "(III)I"⟩
abbrev cX10_drop : ByteArray := prog_1_method_26_code
def yX10_drop : MethodName := ⟨RX10, "drop", "(I)I"⟩
abbrev cX10_item : ByteArray := prog_1_method_27_code
def yX10_item : MethodName := ⟨RX10, "item", "(IIIJ)I"⟩
abbrev cX10_copy : ByteArray := prog_1_method_28_code
def yX10_copy : MethodName := ⟨RX10, "copy", "(IIIII)I"⟩
abbrev cX10_turn : ByteArray := prog_1_method_29_code
def yX10_turn : MethodName := ⟨RX10, "turn", "()V"⟩
abbrev cX10_sentBy : ByteArray := prog_1_method_30_code
def yX10_sentBy : MethodName := ⟨RX10, "sentBy", "(ILTokenRounds$Row;I)Z"⟩
abbrev cX10_refusal : ByteArray := prog_1_method_31_code
def yX10_refusal : MethodName := ⟨RX10, "refusal", "(II)I"⟩
abbrev cX10_isSheet : ByteArray := prog_1_method_32_code
def yX10_isSheet : MethodName := ⟨RX10, "isSheet", "(I)Z"⟩
abbrev cX10_isLane : ByteArray := prog_1_method_33_code
def yX10_isLane : MethodName := ⟨RX10, "isLane", "(I)Z"⟩
abbrev cX10_changed : ByteArray := prog_1_method_34_code
def yX10_changed : MethodName := ⟨RX10, "changed", "(I)I"⟩
abbrev cX10_drawn : ByteArray := prog_1_method_35_code
def yX10_drawn : MethodName := ⟨RX10, "drawn", "(I)I"⟩
abbrev cX10_leftOver : ByteArray := prog_1_method_36_code
def yX10_leftOver : MethodName := ⟨RX10, "leftOver", "(II)I"⟩
abbrev cX10_has : ByteArray := prog_1_method_37_code
def yX10_has : MethodName := ⟨RX10, "has", "(II)Z"⟩
def RX11 : String := "TokenRoundsModel"
def TX11 : u_T := fun k => match k with
  | 0 => ("TokenRoundsModel", "now", "[I", true)
  | 1 => ("TokenRoundsModel", "undoMany", "I", false)
  | 2 => ("TokenRoundsModel", "undoAt", "I", false)
  | 3 => ("TokenRoundsModel", "undos", "[I", true)
  | 4 => ("TokenRoundsModel", "isImage", "Z", false)
  | 5 => ("TokenRoundsModel", "imageMany", "I", false)
  | 6 => ("TokenRoundsModel", "imageAt", "I", false)
  | 7 => ("TokenRoundsModel", "image", "[I", true)
  | 8 => ("TokenRoundsModel", "mind", "[I", true)
  | 9 => ("TokenRoundsModel", "old", "[Z", true)
  | 10 => ("TokenRoundsModel", "sendMany", "[I", true)
  | 11 => ("TokenRoundsModel", "send", "[I", true)
  | 12 => ("TokenRoundsModel", "drawThen", "I", false)
  | 13 => ("TokenRoundsModel", "one", "[I", true)
  | 14 => ("TokenRoundsModel", "grown", "[I", true)
  | 15 => ("TokenRoundsModel", "view", "[I", true)
  | 16 => ("TokenRoundsModel", "viewThen", "[I", true)
  | 17 => ("TokenRoundsModel", "oddsAbove", "J", false)
  | 18 => ("TokenRoundsModel", "oddsBelow", "J", false)
  | 19 => ("TokenRoundsModel", "tape", "[I", true)
  | 20 => ("TokenRoundsModel", "tapeMany", "I", false)
  | 21 => ("TokenRoundsModel", "readAt", "I", false)
  | 22 => ("TokenRoundsModel", "newMany", "I", false)
  | 23 => ("TokenRoundsModel", "newPlan", "[I", true)
  | 24 => ("TokenRoundsModel", "sheetLane", "[I", true)
  | 25 => ("TokenRoundsModel", "sheetMany", "[I", true)
  | _ => ("TokenRoundsModel", "items", "[J", true)
def tyX11 : Nat → FieldType := fun k => match k with
  | 0 => .array .int
  | 1 => .int
  | 2 => .int
  | 3 => .array .int
  | 4 => .boolean
  | 5 => .int
  | 6 => .int
  | 7 => .array .int
  | 8 => .array .int
  | 9 => .array .boolean
  | 10 => .array .int
  | 11 => .array .int
  | 12 => .int
  | 13 => .array .int
  | 14 => .array .int
  | 15 => .array .int
  | 16 => .array .int
  | 17 => .long
  | 18 => .long
  | 19 => .array .int
  | 20 => .int
  | 21 => .int
  | 22 => .int
  | 23 => .array .int
  | 24 => .array .int
  | 25 => .array .int
  | _ => .array .long
abbrev wsX110 : List Cond := u_ws RX11 TX11 27
theorem nmX11 : ∀ a, a < 27 → ∀ b, b < 27 → a ≠ b → (TX11 a).2.1 ≠ (TX11 b).2.1 := by decide +kernel
theorem tyX11_ok : ∀ k, k < 27 → parseFieldDescriptor (TX11 k).2.2.1 = some (tyX11 k) := by decide +kernel
abbrev cX11_in : ByteArray := prog_13_method_1_code
def yX11_in : MethodName := ⟨RX11, "in", "(JJJ)Z"⟩
abbrev cX11_has : ByteArray := prog_13_method_2_code
def yX11_has : MethodName := ⟨RX11, "has", "(II)Z"⟩
abbrev cX11_ones : ByteArray := prog_13_method_3_code
def yX11_ones : MethodName := ⟨RX11, "ones", "(I)I"⟩
abbrev cX11_init : ByteArray := prog_13_method_4_code
def yX11_init : MethodName := ⟨RX11, "<init>", "()V"⟩
abbrev cX11_copies : ByteArray := prog_13_method_5_code
def yX11_copies : MethodName := ⟨RX11, "copies", "([II[III)V"⟩
abbrev cX11_remembers : ByteArray := prog_13_method_6_code
def yX11_remembers : MethodName := ⟨RX11, "remembers", "()V"⟩
abbrev cX11_undo : ByteArray := prog_13_method_7_code
def yX11_undo : MethodName := ⟨RX11, "undo", "()I"⟩
abbrev cX11_image : ByteArray := prog_13_method_8_code
def yX11_image : MethodName := ⟨RX11, "image", "()I"⟩
abbrev cX11_restore : ByteArray := prog_13_method_9_code
def yX11_restore : MethodName := ⟨RX11, "restore", "()I"⟩
abbrev cX11_linkOf : ByteArray := prog_13_method_10_code
def yX11_linkOf : MethodName := ⟨RX11, "linkOf", "(II)I"⟩
abbrev cX11_linkedBy : ByteArray := prog_13_method_11_code
def yX11_linkedBy : MethodName := ⟨RX11, "linkedBy", "(IIIZ)I"⟩
abbrev cX11_areJoined : ByteArray := prog_13_method_12_code
def yX11_areJoined : MethodName := ⟨RX11, "areJoined", "(I)Z"⟩
abbrev cX11_laysPath : ByteArray := prog_13_method_13_code
def yX11_laysPath : MethodName := ⟨RX11, "laysPath", "()V"⟩
abbrev cX11_linksOf : ByteArray := prog_13_method_14_code
def yX11_linksOf : MethodName := ⟨RX11, "linksOf", "(I)I"⟩
abbrev cX11_present : ByteArray := prog_13_method_15_code
def yX11_present : MethodName := ⟨RX11, "present", "()I"⟩
abbrev cX11_forgets : ByteArray := prog_13_method_16_code
def yX11_forgets : MethodName := ⟨RX11, "forgets", "()V"⟩
abbrev cX11_isKnown : ByteArray := prog_13_method_17_code
def yX11_isKnown : MethodName := ⟨RX11, "isKnown", "(II)Z"⟩
abbrev cX11_rank : ByteArray := prog_13_method_18_code
def yX11_rank : MethodName := ⟨RX11, "rank", "(I)I"⟩
abbrev cX11_learns : ByteArray := prog_13_method_19_code
def yX11_learns : MethodName := ⟨RX11, "learns", "(II)V"⟩
abbrev cX11_heads : ByteArray := prog_13_method_20_code
def yX11_heads : MethodName := ⟨RX11, "heads", "(I)I"⟩
abbrev cX11_sumOf : ByteArray := prog_13_method_21_code
def yX11_sumOf : MethodName := ⟨RX11, "sumOf", "(II)I"⟩
abbrev cX11_sumWith : ByteArray := prog_13_method_22_code
def yX11_sumWith : MethodName := ⟨RX11, "sumWith", "(III)I"⟩
abbrev cX11_isSet : ByteArray := prog_13_method_23_code
def yX11_isSet : MethodName := ⟨RX11, "isSet", "(II)Z"⟩
abbrev cX11_isNode : ByteArray := prog_13_method_24_code
def yX11_isNode : MethodName := ⟨RX11, "isNode", "(I)Z"⟩
abbrev cX11_tells : ByteArray := prog_13_method_25_code
def yX11_tells : MethodName := ⟨RX11, "tells", "(I)I"⟩
abbrev cX11_ranks : ByteArray := prog_13_method_26_code
def yX11_ranks : MethodName := ⟨RX11, "ranks", "()I"⟩
abbrev cX11_whole : ByteArray := prog_13_method_27_code
def yX11_whole : MethodName := ⟨RX11, "whole", "()I"⟩
abbrev cX11_goesOn : ByteArray := prog_13_method_28_code
def yX11_goesOn : MethodName := ⟨RX11, "goesOn", "(I)I"⟩
abbrev cX11_leastOf : ByteArray := prog_13_method_29_code
def yX11_leastOf : MethodName := ⟨RX11, "leastOf", "(I)I"⟩
abbrev cX11_turnOf : ByteArray := prog_13_method_30_code
def yX11_turnOf : MethodName := ⟨RX11, "turnOf", "(I)I"⟩
abbrev cX11_drawnOf : ByteArray := prog_13_method_31_code
def yX11_drawnOf : MethodName := ⟨RX11, "drawnOf", "(I)I"⟩
abbrev cX11_laysSends : ByteArray := prog_13_method_32_code
def yX11_laysSends : MethodName := ⟨RX11, "laysSends", "()V"⟩
abbrev cX11_hears : ByteArray := prog_13_method_33_code
def yX11_hears : MethodName := ⟨RX11, "hears", "(II)V"⟩
abbrev cX11_growth : ByteArray := prog_13_method_34_code
def yX11_growth : MethodName := ⟨RX11, "growth", "(II)I"⟩
abbrev cX11_goes : ByteArray := prog_13_method_35_code
def yX11_goes : MethodName := ⟨RX11, "goes", "()V"⟩
abbrev cX11_put : ByteArray := prog_13_method_36_code
def yX11_put : MethodName := ⟨RX11, "put", "(II)I"⟩
abbrev cX11_node : ByteArray := prog_13_method_37_code
def yX11_node : MethodName := ⟨RX11, "node", "(II)I"⟩
abbrev cX11_sum : ByteArray := prog_13_method_38_code
def yX11_sum : MethodName := ⟨RX11, "sum", "(II)I"⟩
abbrev cX11_knows : ByteArray := prog_13_method_39_code
def yX11_knows : MethodName := ⟨RX11, "knows", "(II)I"⟩
abbrev cX11_sends : ByteArray := prog_13_method_40_code
def yX11_sends : MethodName := ⟨RX11, "sends", "(I)I"⟩
abbrev cX11_linked : ByteArray := prog_13_method_41_code
def yX11_linked : MethodName := ⟨RX11, "linked", "(II)I"⟩
abbrev cX11_count : ByteArray := prog_13_method_42_code
def yX11_count : MethodName := ⟨RX11, "count", "(I)I"⟩
abbrev cX11_go : ByteArray := prog_13_method_43_code
def yX11_go : MethodName := ⟨RX11, "go", "(I)I"⟩
abbrev cX11_worst : ByteArray := prog_13_method_44_code
def yX11_worst : MethodName := ⟨RX11, "worst", "()I"⟩
abbrev cX11_gain : ByteArray := prog_13_method_45_code
def yX11_gain : MethodName := ⟨RX11, "gain", "(I)I"⟩
abbrev cX11_foreseen : ByteArray := prog_13_method_46_code
def yX11_foreseen : MethodName := ⟨RX11, "foreseen", "()I"⟩
abbrev cX11_areAlike : ByteArray := prog_13_method_47_code
def yX11_areAlike : MethodName := ⟨RX11, "areAlike", "(III)Z"⟩
abbrev cX11_laysViews : ByteArray := prog_13_method_48_code
def yX11_laysViews : MethodName := ⟨RX11, "laysViews", "(I)I"⟩
abbrev cX11_views : ByteArray := prog_13_method_49_code
def yX11_views : MethodName := ⟨RX11, "views", "(I)I"⟩
abbrev cX11_view : ByteArray := prog_13_method_50_code
def yX11_view : MethodName := ⟨RX11, "view", "(II)I"⟩
abbrev cX11_laysOdds : ByteArray := prog_13_method_51_code
def yX11_laysOdds : MethodName := ⟨RX11, "laysOdds", "(I)V"⟩
abbrev cX11_joined : ByteArray := prog_13_method_52_code
def yX11_joined : MethodName := ⟨RX11, "joined", "(II)J"⟩
abbrev cX11_tell : ByteArray := prog_13_method_53_code
def yX11_tell : MethodName := ⟨RX11, "tell", "(II)I"⟩
abbrev cX11_type : ByteArray := prog_13_method_54_code
def yX11_type : MethodName := ⟨RX11, "type", "(I)I"⟩
abbrev cX11_here : ByteArray := prog_13_method_55_code
def yX11_here : MethodName := ⟨RX11, "here", "()I"⟩
abbrev cX11_isStop : ByteArray := prog_13_method_56_code
def yX11_isStop : MethodName := ⟨RX11, "isStop", "()Z"⟩
abbrev cX11_nodeHere : ByteArray := prog_13_method_57_code
def yX11_nodeHere : MethodName := ⟨RX11, "nodeHere", "()I"⟩
abbrev cX11_readsRow : ByteArray := prog_13_method_58_code
def yX11_readsRow : MethodName := ⟨RX11, "readsRow", "(Z)Z"⟩
abbrev cX11_readsStar : ByteArray := prog_13_method_59_code
def yX11_readsStar : MethodName := ⟨RX11, "readsStar", "()Z"⟩
abbrev cX11_readsLinks : ByteArray := prog_13_method_60_code
def yX11_readsLinks : MethodName := ⟨RX11, "readsLinks", "()Z"⟩
abbrev cX11_word : ByteArray := prog_13_method_61_code
def yX11_word : MethodName := ⟨RX11, "word", "()J"⟩
abbrev cX11_name : ByteArray := prog_13_method_62_code
def yX11_name : MethodName := ⟨RX11, "name", "(IIII)J"⟩
abbrev cX11_readsNet : ByteArray := prog_13_method_63_code
def yX11_readsNet : MethodName := ⟨RX11, "readsNet", "()Z"⟩
abbrev cX11_reads : ByteArray := prog_13_method_64_code
def yX11_reads : MethodName := ⟨RX11, "reads", "()Z"⟩
abbrev cX11_read : ByteArray := prog_13_method_65_code
def yX11_read : MethodName := ⟨RX11, "read", "()I"⟩
abbrev cX11_drift : ByteArray := prog_13_method_66_code
def yX11_drift : MethodName := ⟨RX11, "drift", "(I)I"⟩
abbrev cX11_seed : ByteArray := prog_13_method_67_code
def yX11_seed : MethodName := ⟨RX11, "seed", "(I)I"⟩
abbrev cX11_isSheet : ByteArray := prog_13_method_68_code
def yX11_isSheet : MethodName := ⟨RX11, "isSheet", "(I)Z"⟩
abbrev cX11_cut : ByteArray := prog_13_method_69_code
def yX11_cut : MethodName := ⟨RX11, "cut", "(IJ)J"⟩
abbrev cX11_why : ByteArray := prog_13_method_70_code
def yX11_why : MethodName := ⟨RX11, "why", "(IIII)I"⟩
abbrev cX11_could : ByteArray := prog_13_method_71_code
def yX11_could : MethodName := ⟨RX11, "could", "(III)I"⟩
abbrev cX11_film : ByteArray := prog_13_method_72_code
def yX11_film : MethodName := ⟨RX11, "film", "(IIII)I"⟩
abbrev cX11_sheet : ByteArray := prog_13_method_73_code
def yX11_sheet : MethodName := ⟨RX11, "sheet", "(III)I"⟩
abbrev cX11_drop : ByteArray := prog_13_method_74_code
def yX11_drop : MethodName := ⟨RX11, "drop", "(I)I"⟩
abbrev cX11_item : ByteArray := prog_13_method_75_code
def yX11_item : MethodName := ⟨RX11, "item", "(IIIJ)I"⟩
abbrev cX11_copy : ByteArray := prog_13_method_76_code
def yX11_copy : MethodName := ⟨RX11, "copy", "(IIIII)I"⟩
def RJ6 : String := "java/lang/Integer"
abbrev cJ6_bitCount_0f7a4 : ByteArray := prog_14_method_49_code
def yJ6_bitCount_0f7a4 : MethodName := ⟨RJ6, "bitCount", "(I)I"⟩
def RJ9 : String := "java/lang/Math"
abbrev cJ9_floorMod_7cf53 : ByteArray := prog_15_method_50_code
def yJ9_floorMod_7cf53 : MethodName := ⟨RJ9, "floorMod", "(II)I"⟩
abbrev cJ9_min_7cf53 : ByteArray := prog_15_method_69_code
def yJ9_min_7cf53 : MethodName := ⟨RJ9, "min", "(II)I"⟩
def RJ0 : String := "java/lang/String"
abbrev cJ0_length_8abf5 : ByteArray := prog_16_method_54_code
def yJ0_length_8abf5 : MethodName := ⟨RJ0, "length", "()I"⟩
abbrev cJ0_charAt_5068e : ByteArray := prog_16_method_56_code
def yJ0_charAt_5068e : MethodName := ⟨RJ0, "charAt", "(I)C"⟩
abbrev cJ0_coder_7d493 : ByteArray := prog_16_method_152_code
def yJ0_coder_7d493 : MethodName := ⟨RJ0, "coder", "()B"⟩
abbrev cJ0_isLatin1_aae02 : ByteArray := prog_16_method_154_code
def yJ0_isLatin1_aae02 : MethodName := ⟨RJ0, "isLatin1", "()Z"⟩
abbrev cJ0_checkIndex_df160 : ByteArray := prog_16_method_155_code
def yJ0_checkIndex_df160 : MethodName := ⟨RJ0, "checkIndex", "(II)V"⟩
def RJ1 : String := "java/lang/StringLatin1"
abbrev cJ1_charAt_3b067 : ByteArray := prog_17_method_2_code
def yJ1_charAt_3b067 : MethodName := ⟨RJ1, "charAt", "([BI)C"⟩
def RJ2 : String := "java/lang/StringUTF16"
abbrev cJ2_getChar_3b067 : ByteArray := prog_18_method_5_code
def yJ2_getChar_3b067 : MethodName := ⟨RJ2, "getChar", "([BI)C"⟩
abbrev cJ2_length_9d52b : ByteArray := prog_18_method_6_code
def yJ2_length_9d52b : MethodName := ⟨RJ2, "length", "([B)I"⟩
abbrev cJ2_charAt_3b067 : ByteArray := prog_18_method_83_code
def yJ2_charAt_3b067 : MethodName := ⟨RJ2, "charAt", "([BI)C"⟩
abbrev cJ2_checkIndex_2214a : ByteArray := prog_18_method_91_code
def yJ2_checkIndex_2214a : MethodName := ⟨RJ2, "checkIndex", "(I[B)V"⟩
def RJ10 : String := "java/lang/System"
def RJ3 : String := "jdk/internal/util/Preconditions"
abbrev cJ3_checkIndex_8e157 : ByteArray := prog_20_method_11_code
def yJ3_checkIndex_8e157 : MethodName := ⟨RJ3, "checkIndex", "(IILjava/util/function/BiFunction;)I"⟩
def RL : String := "TokenRoundsLaw"
abbrev cL_law : ByteArray := code
def yL_law : MethodName := ⟨RL, "law", "([I)Z"⟩
theorem dX0_init_0 : decode cX0_init 0 = .ok (.aload_n 0, 1) := by decide +kernel
theorem dX0_init_1 : decode cX0_init 1 = .ok (.invokespecial 3, 3) := by decide +kernel
theorem dX0_init_4 : decode cX0_init 4 = .ok (.aload_n 0, 1) := by decide +kernel
theorem dX0_init_5 : decode cX0_init 5 = .ok (.sipush 384, 3) := by decide +kernel
theorem dX0_init_8 : decode cX0_init 8 = .ok (.newarray .int, 2) := by decide +kernel
theorem dX0_init_10 : decode cX0_init 10 = .ok (.putfield 11, 3) := by decide +kernel
theorem dX0_init_13 : decode cX0_init 13 = .ok (.aload_n 0, 1) := by decide +kernel
theorem dX0_init_14 : decode cX0_init 14 = .ok (.bipush 6, 2) := by decide +kernel
theorem dX0_init_16 : decode cX0_init 16 = .ok (.newarray .int, 2) := by decide +kernel
theorem dX0_init_18 : decode cX0_init 18 = .ok (.putfield 15, 3) := by decide +kernel
theorem dX0_init_21 : decode cX0_init 21 = .ok (.aload_n 0, 1) := by decide +kernel
theorem dX0_init_22 : decode cX0_init 22 = .ok (.bipush 6, 2) := by decide +kernel
theorem dX0_init_24 : decode cX0_init 24 = .ok (.newarray .int, 2) := by decide +kernel
theorem dX0_init_26 : decode cX0_init 26 = .ok (.putfield 18, 3) := by decide +kernel
theorem dX0_init_29 : decode cX0_init 29 = .ok (.return_, 1) := by decide +kernel
theorem dX0_present_0 : decode cX0_present 0 = .ok (.iconst 0, 1) := by decide +kernel
theorem dX0_present_1 : decode cX0_present 1 = .ok (.istore_n 3, 1) := by decide +kernel
theorem dX0_present_2 : decode cX0_present 2 = .ok (.iconst 0, 1) := by decide +kernel
theorem dX0_present_3 : decode cX0_present 3 = .ok (.istore 4, 2) := by decide +kernel
theorem dX0_present_5 : decode cX0_present 5 = .ok (.iload 4, 2) := by decide +kernel
theorem dX0_present_7 : decode cX0_present 7 = .ok (.aload_n 1, 1) := by decide +kernel
theorem dX0_present_8 : decode cX0_present 8 = .ok (.getfield 21, 3) := by decide +kernel
theorem dX0_present_11 : decode cX0_present 11 = .ok (.if_icmp .ge 29, 3) := by decide +kernel
theorem dX0_present_14 : decode cX0_present 14 = .ok (.iload_n 3, 1) := by decide +kernel
theorem dX0_present_15 : decode cX0_present 15 = .ok (.aload_n 2, 1) := by decide +kernel
theorem dX0_present_16 : decode cX0_present 16 = .ok (.aload_n 1, 1) := by decide +kernel
theorem dX0_present_17 : decode cX0_present 17 = .ok (.iload 4, 2) := by decide +kernel
theorem dX0_present_19 : decode cX0_present 19 = .ok (.aload_n 1, 1) := by decide +kernel
theorem dX0_present_20 : decode cX0_present 20 = .ok (.aload_n 1, 1) := by decide +kernel
theorem dX0_present_21 : decode cX0_present 21 = .ok (.getfield 27, 3) := by decide +kernel
theorem dX0_present_24 : decode cX0_present 24 = .ok (.iload 4, 2) := by decide +kernel
theorem dX0_present_26 : decode cX0_present 26 = .ok (.invokevirtual 30, 3) := by decide +kernel
theorem dX0_present_29 : decode cX0_present 29 = .ok (.invokevirtual 34, 3) := by decide +kernel
theorem dX0_present_32 : decode cX0_present 32 = .ok (.iadd, 1) := by decide +kernel
theorem dX0_present_33 : decode cX0_present 33 = .ok (.istore_n 3, 1) := by decide +kernel
theorem dX0_present_34 : decode cX0_present 34 = .ok (.iinc 4 1, 3) := by decide +kernel
theorem dX0_present_37 : decode cX0_present 37 = .ok (.goto (-32), 3) := by decide +kernel
theorem dX0_present_40 : decode cX0_present 40 = .ok (.iload_n 3, 1) := by decide +kernel
theorem dX0_present_41 : decode cX0_present 41 = .ok (.ireturn, 1) := by decide +kernel
theorem dX0_best_0 : decode cX0_best 0 = .ok (.iconst 0, 1) := by decide +kernel
theorem dX0_best_1 : decode cX0_best 1 = .ok (.istore_n 3, 1) := by decide +kernel
theorem dX0_best_2 : decode cX0_best 2 = .ok (.iconst 0, 1) := by decide +kernel
theorem dX0_best_3 : decode cX0_best 3 = .ok (.istore 4, 2) := by decide +kernel
theorem dX0_best_5 : decode cX0_best 5 = .ok (.iload 4, 2) := by decide +kernel
theorem dX0_best_7 : decode cX0_best 7 = .ok (.aload_n 1, 1) := by decide +kernel
theorem dX0_best_8 : decode cX0_best 8 = .ok (.getfield 21, 3) := by decide +kernel
theorem dX0_best_11 : decode cX0_best 11 = .ok (.if_icmp .ge 32, 3) := by decide +kernel
theorem dX0_best_14 : decode cX0_best 14 = .ok (.iload_n 3, 1) := by decide +kernel
theorem dX0_best_15 : decode cX0_best 15 = .ok (.aload_n 2, 1) := by decide +kernel
theorem dX0_best_16 : decode cX0_best 16 = .ok (.aload_n 1, 1) := by decide +kernel
theorem dX0_best_17 : decode cX0_best 17 = .ok (.iload 4, 2) := by decide +kernel
theorem dX0_best_19 : decode cX0_best 19 = .ok (.iconst 1, 1) := by decide +kernel
theorem dX0_best_20 : decode cX0_best 20 = .ok (.aload_n 1, 1) := by decide +kernel
theorem dX0_best_21 : decode cX0_best 21 = .ok (.getfield 21, 3) := by decide +kernel
theorem dX0_best_24 : decode cX0_best 24 = .ok (.ishl, 1) := by decide +kernel
theorem dX0_best_25 : decode cX0_best 25 = .ok (.iconst 1, 1) := by decide +kernel
theorem dX0_best_26 : decode cX0_best 26 = .ok (.isub, 1) := by decide +kernel
theorem dX0_best_27 : decode cX0_best 27 = .ok (.iconst 1, 1) := by decide +kernel
theorem dX0_best_28 : decode cX0_best 28 = .ok (.iload 4, 2) := by decide +kernel
theorem dX0_best_30 : decode cX0_best 30 = .ok (.ishl, 1) := by decide +kernel
theorem dX0_best_31 : decode cX0_best 31 = .ok (.ixor, 1) := by decide +kernel
theorem dX0_best_32 : decode cX0_best 32 = .ok (.invokevirtual 34, 3) := by decide +kernel
theorem dX0_best_35 : decode cX0_best 35 = .ok (.iadd, 1) := by decide +kernel
theorem dX0_best_36 : decode cX0_best 36 = .ok (.istore_n 3, 1) := by decide +kernel
theorem dX0_best_37 : decode cX0_best 37 = .ok (.iinc 4 1, 3) := by decide +kernel
theorem dX0_best_40 : decode cX0_best 40 = .ok (.goto (-35), 3) := by decide +kernel
theorem dX0_best_43 : decode cX0_best 43 = .ok (.iload_n 3, 1) := by decide +kernel
theorem dX0_best_44 : decode cX0_best 44 = .ok (.ireturn, 1) := by decide +kernel
theorem dX0_worst_0 : decode cX0_worst 0 = .ok (.iconst 1, 1) := by decide +kernel
theorem dX0_worst_1 : decode cX0_worst 1 = .ok (.istore_n 2, 1) := by decide +kernel
theorem dX0_worst_2 : decode cX0_worst 2 = .ok (.iconst 2, 1) := by decide +kernel
theorem dX0_worst_3 : decode cX0_worst 3 = .ok (.istore_n 3, 1) := by decide +kernel
theorem dX0_worst_4 : decode cX0_worst 4 = .ok (.iload_n 3, 1) := by decide +kernel
theorem dX0_worst_5 : decode cX0_worst 5 = .ok (.iload_n 1, 1) := by decide +kernel
theorem dX0_worst_6 : decode cX0_worst 6 = .ok (.if_icmp .ge 13, 3) := by decide +kernel
theorem dX0_worst_9 : decode cX0_worst 9 = .ok (.iload_n 2, 1) := by decide +kernel
theorem dX0_worst_10 : decode cX0_worst 10 = .ok (.iload_n 1, 1) := by decide +kernel
theorem dX0_worst_11 : decode cX0_worst 11 = .ok (.imul, 1) := by decide +kernel
theorem dX0_worst_12 : decode cX0_worst 12 = .ok (.istore_n 2, 1) := by decide +kernel
theorem dX0_worst_13 : decode cX0_worst 13 = .ok (.iinc 3 1, 3) := by decide +kernel
theorem dX0_worst_16 : decode cX0_worst 16 = .ok (.goto (-12), 3) := by decide +kernel
theorem dX0_worst_19 : decode cX0_worst 19 = .ok (.bipush 48, 2) := by decide +kernel
theorem dX0_worst_21 : decode cX0_worst 21 = .ok (.istore_n 3, 1) := by decide +kernel
theorem dX0_worst_22 : decode cX0_worst 22 = .ok (.iconst 0, 1) := by decide +kernel
theorem dX0_worst_23 : decode cX0_worst 23 = .ok (.istore 4, 2) := by decide +kernel
theorem dX0_worst_25 : decode cX0_worst 25 = .ok (.iload 4, 2) := by decide +kernel
theorem dX0_worst_27 : decode cX0_worst 27 = .ok (.iload_n 2, 1) := by decide +kernel
theorem dX0_worst_28 : decode cX0_worst 28 = .ok (.if_icmp .ge 26, 3) := by decide +kernel
theorem dX0_worst_31 : decode cX0_worst 31 = .ok (.aload_n 0, 1) := by decide +kernel
theorem dX0_worst_32 : decode cX0_worst 32 = .ok (.iload 4, 2) := by decide +kernel
theorem dX0_worst_34 : decode cX0_worst 34 = .ok (.iload_n 1, 1) := by decide +kernel
theorem dX0_worst_35 : decode cX0_worst 35 = .ok (.invokevirtual 40, 3) := by decide +kernel
theorem dX0_worst_38 : decode cX0_worst 38 = .ok (.iload_n 3, 1) := by decide +kernel
theorem dX0_worst_39 : decode cX0_worst 39 = .ok (.aload_n 0, 1) := by decide +kernel
theorem dX0_worst_40 : decode cX0_worst 40 = .ok (.iload_n 1, 1) := by decide +kernel
theorem dX0_worst_41 : decode cX0_worst 41 = .ok (.invokevirtual 44, 3) := by decide +kernel
theorem dX0_worst_44 : decode cX0_worst 44 = .ok (.invokestatic 48, 3) := by decide +kernel
theorem dX0_worst_47 : decode cX0_worst 47 = .ok (.istore_n 3, 1) := by decide +kernel
theorem dX0_worst_48 : decode cX0_worst 48 = .ok (.iinc 4 1, 3) := by decide +kernel
theorem dX0_worst_51 : decode cX0_worst 51 = .ok (.goto (-26), 3) := by decide +kernel
theorem dX0_worst_54 : decode cX0_worst 54 = .ok (.iload_n 3, 1) := by decide +kernel
theorem dX0_worst_55 : decode cX0_worst 55 = .ok (.ireturn, 1) := by decide +kernel
theorem dX0_findGrowths_0 : decode cX0_findGrowths 0 = .ok (.iconst 0, 1) := by decide +kernel
theorem dX0_findGrowths_1 : decode cX0_findGrowths 1 = .ok (.istore_n 3, 1) := by decide +kernel
theorem dX0_findGrowths_2 : decode cX0_findGrowths 2 = .ok (.iload_n 3, 1) := by decide +kernel
theorem dX0_findGrowths_3 : decode cX0_findGrowths 3 = .ok (.aload_n 1, 1) := by decide +kernel
theorem dX0_findGrowths_4 : decode cX0_findGrowths 4 = .ok (.getfield 21, 3) := by decide +kernel
theorem dX0_findGrowths_7 : decode cX0_findGrowths 7 = .ok (.if_icmp .ge 58, 3) := by decide +kernel
theorem dX0_findGrowths_10 : decode cX0_findGrowths 10 = .ok (.iconst 1, 1) := by decide +kernel
theorem dX0_findGrowths_11 : decode cX0_findGrowths 11 = .ok (.istore 4, 2) := by decide +kernel
theorem dX0_findGrowths_13 : decode cX0_findGrowths 13 = .ok (.iload 4, 2) := by decide +kernel
theorem dX0_findGrowths_15 : decode cX0_findGrowths 15 = .ok (.iconst 1, 1) := by decide +kernel
theorem dX0_findGrowths_16 : decode cX0_findGrowths 16 = .ok (.aload_n 1, 1) := by decide +kernel
theorem dX0_findGrowths_17 : decode cX0_findGrowths 17 = .ok (.getfield 21, 3) := by decide +kernel
theorem dX0_findGrowths_20 : decode cX0_findGrowths 20 = .ok (.ishl, 1) := by decide +kernel
theorem dX0_findGrowths_21 : decode cX0_findGrowths 21 = .ok (.if_icmp .ge 38, 3) := by decide +kernel
theorem dX0_findGrowths_24 : decode cX0_findGrowths 24 = .ok (.iload 4, 2) := by decide +kernel
theorem dX0_findGrowths_26 : decode cX0_findGrowths 26 = .ok (.iload_n 3, 1) := by decide +kernel
theorem dX0_findGrowths_27 : decode cX0_findGrowths 27 = .ok (.invokestatic 53, 3) := by decide +kernel
theorem dX0_findGrowths_30 : decode cX0_findGrowths 30 = .ok (.ifCond .ne 23, 3) := by decide +kernel
theorem dX0_findGrowths_33 : decode cX0_findGrowths 33 = .ok (.aload_n 0, 1) := by decide +kernel
theorem dX0_findGrowths_34 : decode cX0_findGrowths 34 = .ok (.getfield 11, 3) := by decide +kernel
theorem dX0_findGrowths_37 : decode cX0_findGrowths 37 = .ok (.iload_n 3, 1) := by decide +kernel
theorem dX0_findGrowths_38 : decode cX0_findGrowths 38 = .ok (.bipush 64, 2) := by decide +kernel
theorem dX0_findGrowths_40 : decode cX0_findGrowths 40 = .ok (.imul, 1) := by decide +kernel
theorem dX0_findGrowths_41 : decode cX0_findGrowths 41 = .ok (.iload 4, 2) := by decide +kernel
theorem dX0_findGrowths_43 : decode cX0_findGrowths 43 = .ok (.iadd, 1) := by decide +kernel
theorem dX0_findGrowths_44 : decode cX0_findGrowths 44 = .ok (.aload_n 2, 1) := by decide +kernel
theorem dX0_findGrowths_45 : decode cX0_findGrowths 45 = .ok (.aload_n 1, 1) := by decide +kernel
theorem dX0_findGrowths_46 : decode cX0_findGrowths 46 = .ok (.iload_n 3, 1) := by decide +kernel
theorem dX0_findGrowths_47 : decode cX0_findGrowths 47 = .ok (.iload 4, 2) := by decide +kernel
theorem dX0_findGrowths_49 : decode cX0_findGrowths 49 = .ok (.invokevirtual 34, 3) := by decide +kernel
theorem dX0_findGrowths_52 : decode cX0_findGrowths 52 = .ok (.iastore, 1) := by decide +kernel
theorem dX0_findGrowths_53 : decode cX0_findGrowths 53 = .ok (.iinc 4 1, 3) := by decide +kernel
theorem dX0_findGrowths_56 : decode cX0_findGrowths 56 = .ok (.goto (-43), 3) := by decide +kernel
theorem dX0_findGrowths_59 : decode cX0_findGrowths 59 = .ok (.iinc 3 1, 3) := by decide +kernel
theorem dX0_findGrowths_62 : decode cX0_findGrowths 62 = .ok (.goto (-60), 3) := by decide +kernel
theorem dX0_findGrowths_65 : decode cX0_findGrowths 65 = .ok (.return_, 1) := by decide +kernel
theorem dX0_grow_0 : decode cX0_grow 0 = .ok (.aload_n 0, 1) := by decide +kernel
theorem dX0_grow_1 : decode cX0_grow 1 = .ok (.iload_n 1, 1) := by decide +kernel
theorem dX0_grow_2 : decode cX0_grow 2 = .ok (.iload_n 2, 1) := by decide +kernel
theorem dX0_grow_3 : decode cX0_grow 3 = .ok (.invokevirtual 57, 3) := by decide +kernel
theorem dX0_grow_6 : decode cX0_grow 6 = .ok (.iload_n 1, 1) := by decide +kernel
theorem dX0_grow_7 : decode cX0_grow 7 = .ok (.istore_n 3, 1) := by decide +kernel
theorem dX0_grow_8 : decode cX0_grow 8 = .ok (.iconst 2, 1) := by decide +kernel
theorem dX0_grow_9 : decode cX0_grow 9 = .ok (.istore 4, 2) := by decide +kernel
theorem dX0_grow_11 : decode cX0_grow 11 = .ok (.iload 4, 2) := by decide +kernel
theorem dX0_grow_13 : decode cX0_grow 13 = .ok (.iload_n 2, 1) := by decide +kernel
theorem dX0_grow_14 : decode cX0_grow 14 = .ok (.if_icmp .ge 45, 3) := by decide +kernel
theorem dX0_grow_17 : decode cX0_grow 17 = .ok (.aload_n 0, 1) := by decide +kernel
theorem dX0_grow_18 : decode cX0_grow 18 = .ok (.iconst (-1), 1) := by decide +kernel
theorem dX0_grow_19 : decode cX0_grow 19 = .ok (.iload_n 2, 1) := by decide +kernel
theorem dX0_grow_20 : decode cX0_grow 20 = .ok (.invokevirtual 60, 3) := by decide +kernel
theorem dX0_grow_23 : decode cX0_grow 23 = .ok (.istore 5, 2) := by decide +kernel
theorem dX0_grow_25 : decode cX0_grow 25 = .ok (.iload_n 3, 1) := by decide +kernel
theorem dX0_grow_26 : decode cX0_grow 26 = .ok (.iload_n 2, 1) := by decide +kernel
theorem dX0_grow_27 : decode cX0_grow 27 = .ok (.invokestatic 63, 3) := by decide +kernel
theorem dX0_grow_30 : decode cX0_grow 30 = .ok (.istore 6, 2) := by decide +kernel
theorem dX0_grow_32 : decode cX0_grow 32 = .ok (.iload_n 3, 1) := by decide +kernel
theorem dX0_grow_33 : decode cX0_grow 33 = .ok (.iload_n 2, 1) := by decide +kernel
theorem dX0_grow_34 : decode cX0_grow 34 = .ok (.iconst 1, 1) := by decide +kernel
theorem dX0_grow_35 : decode cX0_grow 35 = .ok (.if_icmp .ge 7, 3) := by decide +kernel
theorem dX0_grow_38 : decode cX0_grow 38 = .ok (.iconst 1, 1) := by decide +kernel
theorem dX0_grow_39 : decode cX0_grow 39 = .ok (.goto 4, 3) := by decide +kernel
theorem dX0_grow_42 : decode cX0_grow 42 = .ok (.iload_n 2, 1) := by decide +kernel
theorem dX0_grow_43 : decode cX0_grow 43 = .ok (.idiv, 1) := by decide +kernel
theorem dX0_grow_44 : decode cX0_grow 44 = .ok (.istore_n 3, 1) := by decide +kernel
theorem dX0_grow_45 : decode cX0_grow 45 = .ok (.aload_n 0, 1) := by decide +kernel
theorem dX0_grow_46 : decode cX0_grow 46 = .ok (.iload 5, 2) := by decide +kernel
theorem dX0_grow_48 : decode cX0_grow 48 = .ok (.iload 6, 2) := by decide +kernel
theorem dX0_grow_50 : decode cX0_grow 50 = .ok (.invokevirtual 66, 3) := by decide +kernel
theorem dX0_grow_53 : decode cX0_grow 53 = .ok (.iinc 4 1, 3) := by decide +kernel
theorem dX0_grow_56 : decode cX0_grow 56 = .ok (.goto (-45), 3) := by decide +kernel
theorem dX0_grow_59 : decode cX0_grow 59 = .ok (.aload_n 0, 1) := by decide +kernel
theorem dX0_grow_60 : decode cX0_grow 60 = .ok (.iconst (-1), 1) := by decide +kernel
theorem dX0_grow_61 : decode cX0_grow 61 = .ok (.iload_n 2, 1) := by decide +kernel
theorem dX0_grow_62 : decode cX0_grow 62 = .ok (.invokevirtual 60, 3) := by decide +kernel
theorem dX0_grow_65 : decode cX0_grow 65 = .ok (.istore 4, 2) := by decide +kernel
theorem dX0_grow_67 : decode cX0_grow 67 = .ok (.aload_n 0, 1) := by decide +kernel
theorem dX0_grow_68 : decode cX0_grow 68 = .ok (.iload 4, 2) := by decide +kernel
theorem dX0_grow_70 : decode cX0_grow 70 = .ok (.aload_n 0, 1) := by decide +kernel
theorem dX0_grow_71 : decode cX0_grow 71 = .ok (.iload 4, 2) := by decide +kernel
theorem dX0_grow_73 : decode cX0_grow 73 = .ok (.iload_n 2, 1) := by decide +kernel
theorem dX0_grow_74 : decode cX0_grow 74 = .ok (.invokevirtual 60, 3) := by decide +kernel
theorem dX0_grow_77 : decode cX0_grow 77 = .ok (.invokevirtual 66, 3) := by decide +kernel
theorem dX0_grow_80 : decode cX0_grow 80 = .ok (.return_, 1) := by decide +kernel
theorem dX0_countDegrees_0 : decode cX0_countDegrees 0 = .ok (.iconst 0, 1) := by decide +kernel
theorem dX0_countDegrees_1 : decode cX0_countDegrees 1 = .ok (.istore_n 3, 1) := by decide +kernel
theorem dX0_countDegrees_2 : decode cX0_countDegrees 2 = .ok (.iload_n 3, 1) := by decide +kernel
theorem dX0_countDegrees_3 : decode cX0_countDegrees 3 = .ok (.iload_n 2, 1) := by decide +kernel
theorem dX0_countDegrees_4 : decode cX0_countDegrees 4 = .ok (.if_icmp .ge 23, 3) := by decide +kernel
theorem dX0_countDegrees_7 : decode cX0_countDegrees 7 = .ok (.aload_n 0, 1) := by decide +kernel
theorem dX0_countDegrees_8 : decode cX0_countDegrees 8 = .ok (.getfield 15, 3) := by decide +kernel
theorem dX0_countDegrees_11 : decode cX0_countDegrees 11 = .ok (.iload_n 3, 1) := by decide +kernel
theorem dX0_countDegrees_12 : decode cX0_countDegrees 12 = .ok (.iconst 1, 1) := by decide +kernel
theorem dX0_countDegrees_13 : decode cX0_countDegrees 13 = .ok (.iastore, 1) := by decide +kernel
theorem dX0_countDegrees_14 : decode cX0_countDegrees 14 = .ok (.aload_n 0, 1) := by decide +kernel
theorem dX0_countDegrees_15 : decode cX0_countDegrees 15 = .ok (.getfield 18, 3) := by decide +kernel
theorem dX0_countDegrees_18 : decode cX0_countDegrees 18 = .ok (.iload_n 3, 1) := by decide +kernel
theorem dX0_countDegrees_19 : decode cX0_countDegrees 19 = .ok (.iconst 0, 1) := by decide +kernel
theorem dX0_countDegrees_20 : decode cX0_countDegrees 20 = .ok (.iastore, 1) := by decide +kernel
theorem dX0_countDegrees_21 : decode cX0_countDegrees 21 = .ok (.iinc 3 1, 3) := by decide +kernel
theorem dX0_countDegrees_24 : decode cX0_countDegrees 24 = .ok (.goto (-22), 3) := by decide +kernel
theorem dX0_countDegrees_27 : decode cX0_countDegrees 27 = .ok (.iload_n 1, 1) := by decide +kernel
theorem dX0_countDegrees_28 : decode cX0_countDegrees 28 = .ok (.istore_n 3, 1) := by decide +kernel
theorem dX0_countDegrees_29 : decode cX0_countDegrees 29 = .ok (.iconst 2, 1) := by decide +kernel
theorem dX0_countDegrees_30 : decode cX0_countDegrees 30 = .ok (.istore 4, 2) := by decide +kernel
theorem dX0_countDegrees_32 : decode cX0_countDegrees 32 = .ok (.iload 4, 2) := by decide +kernel
theorem dX0_countDegrees_34 : decode cX0_countDegrees 34 = .ok (.iload_n 2, 1) := by decide +kernel
theorem dX0_countDegrees_35 : decode cX0_countDegrees 35 = .ok (.if_icmp .ge 36, 3) := by decide +kernel
theorem dX0_countDegrees_38 : decode cX0_countDegrees 38 = .ok (.aload_n 0, 1) := by decide +kernel
theorem dX0_countDegrees_39 : decode cX0_countDegrees 39 = .ok (.getfield 15, 3) := by decide +kernel
theorem dX0_countDegrees_42 : decode cX0_countDegrees 42 = .ok (.iload_n 3, 1) := by decide +kernel
theorem dX0_countDegrees_43 : decode cX0_countDegrees 43 = .ok (.iload_n 2, 1) := by decide +kernel
theorem dX0_countDegrees_44 : decode cX0_countDegrees 44 = .ok (.invokestatic 63, 3) := by decide +kernel
theorem dX0_countDegrees_47 : decode cX0_countDegrees 47 = .ok (.dup2, 1) := by decide +kernel
theorem dX0_countDegrees_48 : decode cX0_countDegrees 48 = .ok (.iaload, 1) := by decide +kernel
theorem dX0_countDegrees_49 : decode cX0_countDegrees 49 = .ok (.iconst 1, 1) := by decide +kernel
theorem dX0_countDegrees_50 : decode cX0_countDegrees 50 = .ok (.iadd, 1) := by decide +kernel
theorem dX0_countDegrees_51 : decode cX0_countDegrees 51 = .ok (.iastore, 1) := by decide +kernel
theorem dX0_countDegrees_52 : decode cX0_countDegrees 52 = .ok (.iload_n 3, 1) := by decide +kernel
theorem dX0_countDegrees_53 : decode cX0_countDegrees 53 = .ok (.iload_n 2, 1) := by decide +kernel
theorem dX0_countDegrees_54 : decode cX0_countDegrees 54 = .ok (.iconst 1, 1) := by decide +kernel
theorem dX0_countDegrees_55 : decode cX0_countDegrees 55 = .ok (.if_icmp .ge 7, 3) := by decide +kernel
theorem dX0_countDegrees_58 : decode cX0_countDegrees 58 = .ok (.iconst 1, 1) := by decide +kernel
theorem dX0_countDegrees_59 : decode cX0_countDegrees 59 = .ok (.goto 4, 3) := by decide +kernel
theorem dX0_countDegrees_62 : decode cX0_countDegrees 62 = .ok (.iload_n 2, 1) := by decide +kernel
theorem dX0_countDegrees_63 : decode cX0_countDegrees 63 = .ok (.idiv, 1) := by decide +kernel
theorem dX0_countDegrees_64 : decode cX0_countDegrees 64 = .ok (.istore_n 3, 1) := by decide +kernel
theorem dX0_countDegrees_65 : decode cX0_countDegrees 65 = .ok (.iinc 4 1, 3) := by decide +kernel
theorem dX0_countDegrees_68 : decode cX0_countDegrees 68 = .ok (.goto (-36), 3) := by decide +kernel
theorem dX0_countDegrees_71 : decode cX0_countDegrees 71 = .ok (.return_, 1) := by decide +kernel
theorem dX0_leafBehind_0 : decode cX0_leafBehind 0 = .ok (.iload_n 1, 1) := by decide +kernel
theorem dX0_leafBehind_1 : decode cX0_leafBehind 1 = .ok (.iconst 1, 1) := by decide +kernel
theorem dX0_leafBehind_2 : decode cX0_leafBehind 2 = .ok (.iadd, 1) := by decide +kernel
theorem dX0_leafBehind_3 : decode cX0_leafBehind 3 = .ok (.istore_n 3, 1) := by decide +kernel
theorem dX0_leafBehind_4 : decode cX0_leafBehind 4 = .ok (.iload_n 3, 1) := by decide +kernel
theorem dX0_leafBehind_5 : decode cX0_leafBehind 5 = .ok (.iload_n 2, 1) := by decide +kernel
theorem dX0_leafBehind_6 : decode cX0_leafBehind 6 = .ok (.if_icmp .ge 21, 3) := by decide +kernel
theorem dX0_leafBehind_9 : decode cX0_leafBehind 9 = .ok (.aload_n 0, 1) := by decide +kernel
theorem dX0_leafBehind_10 : decode cX0_leafBehind 10 = .ok (.getfield 15, 3) := by decide +kernel
theorem dX0_leafBehind_13 : decode cX0_leafBehind 13 = .ok (.iload_n 3, 1) := by decide +kernel
theorem dX0_leafBehind_14 : decode cX0_leafBehind 14 = .ok (.iaload, 1) := by decide +kernel
theorem dX0_leafBehind_15 : decode cX0_leafBehind 15 = .ok (.iconst 1, 1) := by decide +kernel
theorem dX0_leafBehind_16 : decode cX0_leafBehind 16 = .ok (.if_icmp .ne 5, 3) := by decide +kernel
theorem dX0_leafBehind_19 : decode cX0_leafBehind 19 = .ok (.iload_n 3, 1) := by decide +kernel
theorem dX0_leafBehind_20 : decode cX0_leafBehind 20 = .ok (.ireturn, 1) := by decide +kernel
theorem dX0_leafBehind_21 : decode cX0_leafBehind 21 = .ok (.iinc 3 1, 3) := by decide +kernel
theorem dX0_leafBehind_24 : decode cX0_leafBehind 24 = .ok (.goto (-20), 3) := by decide +kernel
theorem dX0_leafBehind_27 : decode cX0_leafBehind 27 = .ok (.iconst (-1), 1) := by decide +kernel
theorem dX0_leafBehind_28 : decode cX0_leafBehind 28 = .ok (.ireturn, 1) := by decide +kernel
theorem dX0_connect_0 : decode cX0_connect 0 = .ok (.iload_n 1, 1) := by decide +kernel
theorem dX0_connect_1 : decode cX0_connect 1 = .ok (.ifCond .lt 51, 3) := by decide +kernel
theorem dX0_connect_4 : decode cX0_connect 4 = .ok (.iload_n 2, 1) := by decide +kernel
theorem dX0_connect_5 : decode cX0_connect 5 = .ok (.ifCond .lt 47, 3) := by decide +kernel
theorem dX0_connect_8 : decode cX0_connect 8 = .ok (.aload_n 0, 1) := by decide +kernel
theorem dX0_connect_9 : decode cX0_connect 9 = .ok (.getfield 18, 3) := by decide +kernel
theorem dX0_connect_12 : decode cX0_connect 12 = .ok (.iload_n 1, 1) := by decide +kernel
theorem dX0_connect_13 : decode cX0_connect 13 = .ok (.dup2, 1) := by decide +kernel
theorem dX0_connect_14 : decode cX0_connect 14 = .ok (.iaload, 1) := by decide +kernel
theorem dX0_connect_15 : decode cX0_connect 15 = .ok (.iconst 1, 1) := by decide +kernel
theorem dX0_connect_16 : decode cX0_connect 16 = .ok (.iload_n 2, 1) := by decide +kernel
theorem dX0_connect_17 : decode cX0_connect 17 = .ok (.ishl, 1) := by decide +kernel
theorem dX0_connect_18 : decode cX0_connect 18 = .ok (.ior, 1) := by decide +kernel
theorem dX0_connect_19 : decode cX0_connect 19 = .ok (.iastore, 1) := by decide +kernel
theorem dX0_connect_20 : decode cX0_connect 20 = .ok (.aload_n 0, 1) := by decide +kernel
theorem dX0_connect_21 : decode cX0_connect 21 = .ok (.getfield 18, 3) := by decide +kernel
theorem dX0_connect_24 : decode cX0_connect 24 = .ok (.iload_n 2, 1) := by decide +kernel
theorem dX0_connect_25 : decode cX0_connect 25 = .ok (.dup2, 1) := by decide +kernel
theorem dX0_connect_26 : decode cX0_connect 26 = .ok (.iaload, 1) := by decide +kernel
theorem dX0_connect_27 : decode cX0_connect 27 = .ok (.iconst 1, 1) := by decide +kernel
theorem dX0_connect_28 : decode cX0_connect 28 = .ok (.iload_n 1, 1) := by decide +kernel
theorem dX0_connect_29 : decode cX0_connect 29 = .ok (.ishl, 1) := by decide +kernel
theorem dX0_connect_30 : decode cX0_connect 30 = .ok (.ior, 1) := by decide +kernel
theorem dX0_connect_31 : decode cX0_connect 31 = .ok (.iastore, 1) := by decide +kernel
theorem dX0_connect_32 : decode cX0_connect 32 = .ok (.aload_n 0, 1) := by decide +kernel
theorem dX0_connect_33 : decode cX0_connect 33 = .ok (.getfield 15, 3) := by decide +kernel
theorem dX0_connect_36 : decode cX0_connect 36 = .ok (.iload_n 1, 1) := by decide +kernel
theorem dX0_connect_37 : decode cX0_connect 37 = .ok (.dup2, 1) := by decide +kernel
theorem dX0_connect_38 : decode cX0_connect 38 = .ok (.iaload, 1) := by decide +kernel
theorem dX0_connect_39 : decode cX0_connect 39 = .ok (.iconst 1, 1) := by decide +kernel
theorem dX0_connect_40 : decode cX0_connect 40 = .ok (.isub, 1) := by decide +kernel
theorem dX0_connect_41 : decode cX0_connect 41 = .ok (.iastore, 1) := by decide +kernel
theorem dX0_connect_42 : decode cX0_connect 42 = .ok (.aload_n 0, 1) := by decide +kernel
theorem dX0_connect_43 : decode cX0_connect 43 = .ok (.getfield 15, 3) := by decide +kernel
theorem dX0_connect_46 : decode cX0_connect 46 = .ok (.iload_n 2, 1) := by decide +kernel
theorem dX0_connect_47 : decode cX0_connect 47 = .ok (.dup2, 1) := by decide +kernel
theorem dX0_connect_48 : decode cX0_connect 48 = .ok (.iaload, 1) := by decide +kernel
theorem dX0_connect_49 : decode cX0_connect 49 = .ok (.iconst 1, 1) := by decide +kernel
theorem dX0_connect_50 : decode cX0_connect 50 = .ok (.isub, 1) := by decide +kernel
theorem dX0_connect_51 : decode cX0_connect 51 = .ok (.iastore, 1) := by decide +kernel
theorem dX0_connect_52 : decode cX0_connect 52 = .ok (.return_, 1) := by decide +kernel
theorem dX0_byTree_0 : decode cX0_byTree 0 = .ok (.iconst 0, 1) := by decide +kernel
theorem dX0_byTree_1 : decode cX0_byTree 1 = .ok (.istore_n 2, 1) := by decide +kernel
theorem dX0_byTree_2 : decode cX0_byTree 2 = .ok (.iconst 0, 1) := by decide +kernel
theorem dX0_byTree_3 : decode cX0_byTree 3 = .ok (.istore_n 3, 1) := by decide +kernel
theorem dX0_byTree_4 : decode cX0_byTree 4 = .ok (.iload_n 3, 1) := by decide +kernel
theorem dX0_byTree_5 : decode cX0_byTree 5 = .ok (.iload_n 1, 1) := by decide +kernel
theorem dX0_byTree_6 : decode cX0_byTree 6 = .ok (.if_icmp .ge 28, 3) := by decide +kernel
theorem dX0_byTree_9 : decode cX0_byTree 9 = .ok (.iload_n 2, 1) := by decide +kernel
theorem dX0_byTree_10 : decode cX0_byTree 10 = .ok (.aload_n 0, 1) := by decide +kernel
theorem dX0_byTree_11 : decode cX0_byTree 11 = .ok (.getfield 11, 3) := by decide +kernel
theorem dX0_byTree_14 : decode cX0_byTree 14 = .ok (.iload_n 3, 1) := by decide +kernel
theorem dX0_byTree_15 : decode cX0_byTree 15 = .ok (.bipush 64, 2) := by decide +kernel
theorem dX0_byTree_17 : decode cX0_byTree 17 = .ok (.imul, 1) := by decide +kernel
theorem dX0_byTree_18 : decode cX0_byTree 18 = .ok (.aload_n 0, 1) := by decide +kernel
theorem dX0_byTree_19 : decode cX0_byTree 19 = .ok (.getfield 18, 3) := by decide +kernel
theorem dX0_byTree_22 : decode cX0_byTree 22 = .ok (.iload_n 3, 1) := by decide +kernel
theorem dX0_byTree_23 : decode cX0_byTree 23 = .ok (.iaload, 1) := by decide +kernel
theorem dX0_byTree_24 : decode cX0_byTree 24 = .ok (.iadd, 1) := by decide +kernel
theorem dX0_byTree_25 : decode cX0_byTree 25 = .ok (.iaload, 1) := by decide +kernel
theorem dX0_byTree_26 : decode cX0_byTree 26 = .ok (.iadd, 1) := by decide +kernel
theorem dX0_byTree_27 : decode cX0_byTree 27 = .ok (.istore_n 2, 1) := by decide +kernel
theorem dX0_byTree_28 : decode cX0_byTree 28 = .ok (.iinc 3 1, 3) := by decide +kernel
theorem dX0_byTree_31 : decode cX0_byTree 31 = .ok (.goto (-27), 3) := by decide +kernel
theorem dX0_byTree_34 : decode cX0_byTree 34 = .ok (.iload_n 2, 1) := by decide +kernel
theorem dX0_byTree_35 : decode cX0_byTree 35 = .ok (.ireturn, 1) := by decide +kernel
theorem dX1_init_0 : decode cX1_init 0 = .ok (.aload_n 0, 1) := by decide +kernel
theorem dX1_init_1 : decode cX1_init 1 = .ok (.invokespecial 3, 3) := by decide +kernel
theorem dX1_init_4 : decode cX1_init 4 = .ok (.aload_n 0, 1) := by decide +kernel
theorem dX1_init_5 : decode cX1_init 5 = .ok (.new 9, 3) := by decide +kernel
theorem dX1_init_8 : decode cX1_init 8 = .ok (.dup, 1) := by decide +kernel
theorem dX1_init_9 : decode cX1_init 9 = .ok (.invokespecial 11, 3) := by decide +kernel
theorem dX1_init_12 : decode cX1_init 12 = .ok (.putfield 12, 3) := by decide +kernel
theorem dX1_init_15 : decode cX1_init 15 = .ok (.aload_n 0, 1) := by decide +kernel
theorem dX1_init_16 : decode cX1_init 16 = .ok (.bipush 6, 2) := by decide +kernel
theorem dX1_init_18 : decode cX1_init 18 = .ok (.anewarray 18, 3) := by decide +kernel
theorem dX1_init_21 : decode cX1_init 21 = .ok (.putfield 20, 3) := by decide +kernel
theorem dX1_init_24 : decode cX1_init 24 = .ok (.aload_n 0, 1) := by decide +kernel
theorem dX1_init_25 : decode cX1_init 25 = .ok (.bipush 6, 2) := by decide +kernel
theorem dX1_init_27 : decode cX1_init 27 = .ok (.newarray .int, 2) := by decide +kernel
theorem dX1_init_29 : decode cX1_init 29 = .ok (.putfield 24, 3) := by decide +kernel
theorem dX1_init_32 : decode cX1_init 32 = .ok (.aload_n 0, 1) := by decide +kernel
theorem dX1_init_33 : decode cX1_init 33 = .ok (.iconst 4, 1) := by decide +kernel
theorem dX1_init_34 : decode cX1_init 34 = .ok (.putfield 28, 3) := by decide +kernel
theorem dX1_init_37 : decode cX1_init 37 = .ok (.aload_n 0, 1) := by decide +kernel
theorem dX1_init_38 : decode cX1_init 38 = .ok (.iconst 4, 1) := by decide +kernel
theorem dX1_init_39 : decode cX1_init 39 = .ok (.putfield 32, 3) := by decide +kernel
theorem dX1_init_42 : decode cX1_init 42 = .ok (.aload_n 0, 1) := by decide +kernel
theorem dX1_init_43 : decode cX1_init 43 = .ok (.iconst 0, 1) := by decide +kernel
theorem dX1_init_44 : decode cX1_init 44 = .ok (.putfield 35, 3) := by decide +kernel
theorem dX1_init_47 : decode cX1_init 47 = .ok (.aload_n 0, 1) := by decide +kernel
theorem dX1_init_48 : decode cX1_init 48 = .ok (.iconst 1, 1) := by decide +kernel
theorem dX1_init_49 : decode cX1_init 49 = .ok (.putfield 38, 3) := by decide +kernel
theorem dX1_init_52 : decode cX1_init 52 = .ok (.aload_n 0, 1) := by decide +kernel
theorem dX1_init_53 : decode cX1_init 53 = .ok (.iconst 0, 1) := by decide +kernel
theorem dX1_init_54 : decode cX1_init 54 = .ok (.putfield 41, 3) := by decide +kernel
theorem dX1_init_57 : decode cX1_init 57 = .ok (.aload_n 0, 1) := by decide +kernel
theorem dX1_init_58 : decode cX1_init 58 = .ok (.iconst 1, 1) := by decide +kernel
theorem dX1_init_59 : decode cX1_init 59 = .ok (.putfield 44, 3) := by decide +kernel
theorem dX1_init_62 : decode cX1_init 62 = .ok (.iconst 0, 1) := by decide +kernel
theorem dX1_init_63 : decode cX1_init 63 = .ok (.istore_n 1, 1) := by decide +kernel
theorem dX1_init_64 : decode cX1_init 64 = .ok (.iload_n 1, 1) := by decide +kernel
theorem dX1_init_65 : decode cX1_init 65 = .ok (.bipush 6, 2) := by decide +kernel
theorem dX1_init_67 : decode cX1_init 67 = .ok (.if_icmp .ge 22, 3) := by decide +kernel
theorem dX1_init_70 : decode cX1_init 70 = .ok (.aload_n 0, 1) := by decide +kernel
theorem dX1_init_71 : decode cX1_init 71 = .ok (.getfield 20, 3) := by decide +kernel
theorem dX1_init_74 : decode cX1_init 74 = .ok (.iload_n 1, 1) := by decide +kernel
theorem dX1_init_75 : decode cX1_init 75 = .ok (.new 18, 3) := by decide +kernel
theorem dX1_init_78 : decode cX1_init 78 = .ok (.dup, 1) := by decide +kernel
theorem dX1_init_79 : decode cX1_init 79 = .ok (.invokespecial 47, 3) := by decide +kernel
theorem dX1_init_82 : decode cX1_init 82 = .ok (.aastore, 1) := by decide +kernel
theorem dX1_init_83 : decode cX1_init 83 = .ok (.iinc 1 1, 3) := by decide +kernel
theorem dX1_init_86 : decode cX1_init 86 = .ok (.goto (-22), 3) := by decide +kernel
theorem dX1_init_89 : decode cX1_init 89 = .ok (.aload_n 0, 1) := by decide +kernel
theorem dX1_init_90 : decode cX1_init 90 = .ok (.getfield 12, 3) := by decide +kernel
theorem dX1_init_93 : decode cX1_init 93 = .ok (.iconst 0, 1) := by decide +kernel
theorem dX1_init_94 : decode cX1_init 94 = .ok (.invokevirtual 48, 3) := by decide +kernel
theorem dX1_init_97 : decode cX1_init 97 = .ok (.aload_n 0, 1) := by decide +kernel
theorem dX1_init_98 : decode cX1_init 98 = .ok (.getfield 12, 3) := by decide +kernel
theorem dX1_init_101 : decode cX1_init 101 = .ok (.iconst 0, 1) := by decide +kernel
theorem dX1_init_102 : decode cX1_init 102 = .ok (.aload_n 0, 1) := by decide +kernel
theorem dX1_init_103 : decode cX1_init 103 = .ok (.getfield 28, 3) := by decide +kernel
theorem dX1_init_106 : decode cX1_init 106 = .ok (.invokevirtual 52, 3) := by decide +kernel
theorem dX1_init_109 : decode cX1_init 109 = .ok (.return_, 1) := by decide +kernel
theorem dX1_take_0 : decode cX1_take 0 = .ok (.aload_n 0, 1) := by decide +kernel
theorem dX1_take_1 : decode cX1_take 1 = .ok (.getfield 12, 3) := by decide +kernel
theorem dX1_take_4 : decode cX1_take 4 = .ok (.aload_n 1, 1) := by decide +kernel
theorem dX1_take_5 : decode cX1_take 5 = .ok (.getfield 12, 3) := by decide +kernel
theorem dX1_take_8 : decode cX1_take 8 = .ok (.invokevirtual 56, 3) := by decide +kernel
theorem dX1_take_11 : decode cX1_take 11 = .ok (.iconst 0, 1) := by decide +kernel
theorem dX1_take_12 : decode cX1_take 12 = .ok (.istore_n 2, 1) := by decide +kernel
theorem dX1_take_13 : decode cX1_take 13 = .ok (.iload_n 2, 1) := by decide +kernel
theorem dX1_take_14 : decode cX1_take 14 = .ok (.bipush 6, 2) := by decide +kernel
theorem dX1_take_16 : decode cX1_take 16 = .ok (.if_icmp .ge 24, 3) := by decide +kernel
theorem dX1_take_19 : decode cX1_take 19 = .ok (.aload_n 0, 1) := by decide +kernel
theorem dX1_take_20 : decode cX1_take 20 = .ok (.getfield 20, 3) := by decide +kernel
theorem dX1_take_23 : decode cX1_take 23 = .ok (.iload_n 2, 1) := by decide +kernel
theorem dX1_take_24 : decode cX1_take 24 = .ok (.aaload, 1) := by decide +kernel
theorem dX1_take_25 : decode cX1_take 25 = .ok (.aload_n 1, 1) := by decide +kernel
theorem dX1_take_26 : decode cX1_take 26 = .ok (.getfield 20, 3) := by decide +kernel
theorem dX1_take_29 : decode cX1_take 29 = .ok (.iload_n 2, 1) := by decide +kernel
theorem dX1_take_30 : decode cX1_take 30 = .ok (.aaload, 1) := by decide +kernel
theorem dX1_take_31 : decode cX1_take 31 = .ok (.invokevirtual 60, 3) := by decide +kernel
theorem dX1_take_34 : decode cX1_take 34 = .ok (.iinc 2 1, 3) := by decide +kernel
theorem dX1_take_37 : decode cX1_take 37 = .ok (.goto (-24), 3) := by decide +kernel
theorem dX1_take_40 : decode cX1_take 40 = .ok (.aload_n 1, 1) := by decide +kernel
theorem dX1_take_41 : decode cX1_take 41 = .ok (.getfield 24, 3) := by decide +kernel
theorem dX1_take_44 : decode cX1_take 44 = .ok (.iconst 0, 1) := by decide +kernel
theorem dX1_take_45 : decode cX1_take 45 = .ok (.aload_n 0, 1) := by decide +kernel
theorem dX1_take_46 : decode cX1_take 46 = .ok (.getfield 24, 3) := by decide +kernel
theorem dX1_take_49 : decode cX1_take 49 = .ok (.iconst 0, 1) := by decide +kernel
theorem dX1_take_50 : decode cX1_take 50 = .ok (.bipush 6, 2) := by decide +kernel
theorem dX1_take_52 : decode cX1_take 52 = .ok (.invokestatic 63, 3) := by decide +kernel
theorem dX1_take_55 : decode cX1_take 55 = .ok (.aload_n 0, 1) := by decide +kernel
theorem dX1_take_56 : decode cX1_take 56 = .ok (.aload_n 1, 1) := by decide +kernel
theorem dX1_take_57 : decode cX1_take 57 = .ok (.getfield 28, 3) := by decide +kernel
theorem dX1_take_60 : decode cX1_take 60 = .ok (.putfield 28, 3) := by decide +kernel
theorem dX1_take_63 : decode cX1_take 63 = .ok (.aload_n 0, 1) := by decide +kernel
theorem dX1_take_64 : decode cX1_take 64 = .ok (.aload_n 1, 1) := by decide +kernel
theorem dX1_take_65 : decode cX1_take 65 = .ok (.getfield 32, 3) := by decide +kernel
theorem dX1_take_68 : decode cX1_take 68 = .ok (.putfield 32, 3) := by decide +kernel
theorem dX1_take_71 : decode cX1_take 71 = .ok (.aload_n 0, 1) := by decide +kernel
theorem dX1_take_72 : decode cX1_take 72 = .ok (.aload_n 1, 1) := by decide +kernel
theorem dX1_take_73 : decode cX1_take 73 = .ok (.getfield 35, 3) := by decide +kernel
theorem dX1_take_76 : decode cX1_take 76 = .ok (.putfield 35, 3) := by decide +kernel
theorem dX1_take_79 : decode cX1_take 79 = .ok (.aload_n 0, 1) := by decide +kernel
theorem dX1_take_80 : decode cX1_take 80 = .ok (.aload_n 1, 1) := by decide +kernel
theorem dX1_take_81 : decode cX1_take 81 = .ok (.getfield 38, 3) := by decide +kernel
theorem dX1_take_84 : decode cX1_take 84 = .ok (.putfield 38, 3) := by decide +kernel
theorem dX1_take_87 : decode cX1_take 87 = .ok (.aload_n 0, 1) := by decide +kernel
theorem dX1_take_88 : decode cX1_take 88 = .ok (.aload_n 1, 1) := by decide +kernel
theorem dX1_take_89 : decode cX1_take 89 = .ok (.getfield 41, 3) := by decide +kernel
theorem dX1_take_92 : decode cX1_take 92 = .ok (.putfield 41, 3) := by decide +kernel
theorem dX1_take_95 : decode cX1_take 95 = .ok (.aload_n 0, 1) := by decide +kernel
theorem dX1_take_96 : decode cX1_take 96 = .ok (.aload_n 1, 1) := by decide +kernel
theorem dX1_take_97 : decode cX1_take 97 = .ok (.getfield 44, 3) := by decide +kernel
theorem dX1_take_100 : decode cX1_take 100 = .ok (.putfield 44, 3) := by decide +kernel
theorem dX1_take_103 : decode cX1_take 103 = .ok (.return_, 1) := by decide +kernel
theorem dX1_hasNode_0 : decode cX1_hasNode 0 = .ok (.iload_n 1, 1) := by decide +kernel
theorem dX1_hasNode_1 : decode cX1_hasNode 1 = .ok (.ifCond .lt 15, 3) := by decide +kernel
theorem dX1_hasNode_4 : decode cX1_hasNode 4 = .ok (.iload_n 1, 1) := by decide +kernel
theorem dX1_hasNode_5 : decode cX1_hasNode 5 = .ok (.aload_n 0, 1) := by decide +kernel
theorem dX1_hasNode_6 : decode cX1_hasNode 6 = .ok (.getfield 28, 3) := by decide +kernel
theorem dX1_hasNode_9 : decode cX1_hasNode 9 = .ok (.if_icmp .ge 7, 3) := by decide +kernel
theorem dX1_hasNode_12 : decode cX1_hasNode 12 = .ok (.iconst 1, 1) := by decide +kernel
theorem dX1_hasNode_13 : decode cX1_hasNode 13 = .ok (.goto 4, 3) := by decide +kernel
theorem dX1_hasNode_16 : decode cX1_hasNode 16 = .ok (.iconst 0, 1) := by decide +kernel
theorem dX1_hasNode_17 : decode cX1_hasNode 17 = .ok (.ireturn, 1) := by decide +kernel
theorem dX1_isSum_0 : decode cX1_isSum 0 = .ok (.iload_n 1, 1) := by decide +kernel
theorem dX1_isSum_1 : decode cX1_isSum 1 = .ok (.ifCond .lt 17, 3) := by decide +kernel
theorem dX1_isSum_4 : decode cX1_isSum 4 = .ok (.iload_n 1, 1) := by decide +kernel
theorem dX1_isSum_5 : decode cX1_isSum 5 = .ok (.iconst 1, 1) := by decide +kernel
theorem dX1_isSum_6 : decode cX1_isSum 6 = .ok (.aload_n 0, 1) := by decide +kernel
theorem dX1_isSum_7 : decode cX1_isSum 7 = .ok (.getfield 32, 3) := by decide +kernel
theorem dX1_isSum_10 : decode cX1_isSum 10 = .ok (.ishl, 1) := by decide +kernel
theorem dX1_isSum_11 : decode cX1_isSum 11 = .ok (.if_icmp .ge 7, 3) := by decide +kernel
theorem dX1_isSum_14 : decode cX1_isSum 14 = .ok (.iconst 1, 1) := by decide +kernel
theorem dX1_isSum_15 : decode cX1_isSum 15 = .ok (.goto 4, 3) := by decide +kernel
theorem dX1_isSum_18 : decode cX1_isSum 18 = .ok (.iconst 0, 1) := by decide +kernel
theorem dX1_isSum_19 : decode cX1_isSum 19 = .ok (.ireturn, 1) := by decide +kernel
theorem dX1_neighbours_0 : decode cX1_neighbours 0 = .ok (.aload_n 0, 1) := by decide +kernel
theorem dX1_neighbours_1 : decode cX1_neighbours 1 = .ok (.getfield 38, 3) := by decide +kernel
theorem dX1_neighbours_4 : decode cX1_neighbours 4 = .ok (.iconst 1, 1) := by decide +kernel
theorem dX1_neighbours_5 : decode cX1_neighbours 5 = .ok (.if_icmp .ge 7, 3) := by decide +kernel
theorem dX1_neighbours_8 : decode cX1_neighbours 8 = .ok (.iconst 0, 1) := by decide +kernel
theorem dX1_neighbours_9 : decode cX1_neighbours 9 = .ok (.goto 9, 3) := by decide +kernel
theorem dX1_neighbours_12 : decode cX1_neighbours 12 = .ok (.iload_n 1, 1) := by decide +kernel
theorem dX1_neighbours_13 : decode cX1_neighbours 13 = .ok (.aload_n 0, 1) := by decide +kernel
theorem dX1_neighbours_14 : decode cX1_neighbours 14 = .ok (.getfield 38, 3) := by decide +kernel
theorem dX1_neighbours_17 : decode cX1_neighbours 17 = .ok (.idiv, 1) := by decide +kernel
theorem dX1_neighbours_18 : decode cX1_neighbours 18 = .ok (.istore_n 3, 1) := by decide +kernel
theorem dX1_neighbours_19 : decode cX1_neighbours 19 = .ok (.aload_n 0, 1) := by decide +kernel
theorem dX1_neighbours_20 : decode cX1_neighbours 20 = .ok (.getfield 12, 3) := by decide +kernel
theorem dX1_neighbours_23 : decode cX1_neighbours 23 = .ok (.iload_n 3, 1) := by decide +kernel
theorem dX1_neighbours_24 : decode cX1_neighbours 24 = .ok (.aload_n 0, 1) := by decide +kernel
theorem dX1_neighbours_25 : decode cX1_neighbours 25 = .ok (.getfield 12, 3) := by decide +kernel
theorem dX1_neighbours_28 : decode cX1_neighbours 28 = .ok (.getfield 69, 3) := by decide +kernel
theorem dX1_neighbours_31 : decode cX1_neighbours 31 = .ok (.invokestatic 72, 3) := by decide +kernel
theorem dX1_neighbours_34 : decode cX1_neighbours 34 = .ok (.iload_n 2, 1) := by decide +kernel
theorem dX1_neighbours_35 : decode cX1_neighbours 35 = .ok (.invokevirtual 76, 3) := by decide +kernel
theorem dX1_neighbours_38 : decode cX1_neighbours 38 = .ok (.ireturn, 1) := by decide +kernel
theorem dX1_ranks_0 : decode cX1_ranks 0 = .ok (.iconst 0, 1) := by decide +kernel
theorem dX1_ranks_1 : decode cX1_ranks 1 = .ok (.istore_n 1, 1) := by decide +kernel
theorem dX1_ranks_2 : decode cX1_ranks 2 = .ok (.iconst 0, 1) := by decide +kernel
theorem dX1_ranks_3 : decode cX1_ranks 3 = .ok (.istore_n 2, 1) := by decide +kernel
theorem dX1_ranks_4 : decode cX1_ranks 4 = .ok (.iload_n 2, 1) := by decide +kernel
theorem dX1_ranks_5 : decode cX1_ranks 5 = .ok (.aload_n 0, 1) := by decide +kernel
theorem dX1_ranks_6 : decode cX1_ranks 6 = .ok (.getfield 28, 3) := by decide +kernel
theorem dX1_ranks_9 : decode cX1_ranks 9 = .ok (.if_icmp .ge 21, 3) := by decide +kernel
theorem dX1_ranks_12 : decode cX1_ranks 12 = .ok (.iload_n 1, 1) := by decide +kernel
theorem dX1_ranks_13 : decode cX1_ranks 13 = .ok (.aload_n 0, 1) := by decide +kernel
theorem dX1_ranks_14 : decode cX1_ranks 14 = .ok (.getfield 20, 3) := by decide +kernel
theorem dX1_ranks_17 : decode cX1_ranks 17 = .ok (.iload_n 2, 1) := by decide +kernel
theorem dX1_ranks_18 : decode cX1_ranks 18 = .ok (.aaload, 1) := by decide +kernel
theorem dX1_ranks_19 : decode cX1_ranks 19 = .ok (.invokevirtual 79, 3) := by decide +kernel
theorem dX1_ranks_22 : decode cX1_ranks 22 = .ok (.iadd, 1) := by decide +kernel
theorem dX1_ranks_23 : decode cX1_ranks 23 = .ok (.istore_n 1, 1) := by decide +kernel
theorem dX1_ranks_24 : decode cX1_ranks 24 = .ok (.iinc 2 1, 3) := by decide +kernel
theorem dX1_ranks_27 : decode cX1_ranks 27 = .ok (.goto (-23), 3) := by decide +kernel
theorem dX1_ranks_30 : decode cX1_ranks 30 = .ok (.iload_n 1, 1) := by decide +kernel
theorem dX1_ranks_31 : decode cX1_ranks 31 = .ok (.ireturn, 1) := by decide +kernel
theorem dX1_full_0 : decode cX1_full 0 = .ok (.iconst 0, 1) := by decide +kernel
theorem dX1_full_1 : decode cX1_full 1 = .ok (.istore_n 1, 1) := by decide +kernel
theorem dX1_full_2 : decode cX1_full 2 = .ok (.iconst 0, 1) := by decide +kernel
theorem dX1_full_3 : decode cX1_full 3 = .ok (.istore_n 2, 1) := by decide +kernel
theorem dX1_full_4 : decode cX1_full 4 = .ok (.iload_n 2, 1) := by decide +kernel
theorem dX1_full_5 : decode cX1_full 5 = .ok (.aload_n 0, 1) := by decide +kernel
theorem dX1_full_6 : decode cX1_full 6 = .ok (.getfield 28, 3) := by decide +kernel
theorem dX1_full_9 : decode cX1_full 9 = .ok (.if_icmp .ge 33, 3) := by decide +kernel
theorem dX1_full_12 : decode cX1_full 12 = .ok (.iload_n 1, 1) := by decide +kernel
theorem dX1_full_13 : decode cX1_full 13 = .ok (.aload_n 0, 1) := by decide +kernel
theorem dX1_full_14 : decode cX1_full 14 = .ok (.getfield 20, 3) := by decide +kernel
theorem dX1_full_17 : decode cX1_full 17 = .ok (.iload_n 2, 1) := by decide +kernel
theorem dX1_full_18 : decode cX1_full 18 = .ok (.aaload, 1) := by decide +kernel
theorem dX1_full_19 : decode cX1_full 19 = .ok (.invokevirtual 79, 3) := by decide +kernel
theorem dX1_full_22 : decode cX1_full 22 = .ok (.aload_n 0, 1) := by decide +kernel
theorem dX1_full_23 : decode cX1_full 23 = .ok (.getfield 32, 3) := by decide +kernel
theorem dX1_full_26 : decode cX1_full 26 = .ok (.if_icmp .ne 7, 3) := by decide +kernel
theorem dX1_full_29 : decode cX1_full 29 = .ok (.iconst 1, 1) := by decide +kernel
theorem dX1_full_30 : decode cX1_full 30 = .ok (.goto 4, 3) := by decide +kernel
theorem dX1_full_33 : decode cX1_full 33 = .ok (.iconst 0, 1) := by decide +kernel
theorem dX1_full_34 : decode cX1_full 34 = .ok (.iadd, 1) := by decide +kernel
theorem dX1_full_35 : decode cX1_full 35 = .ok (.istore_n 1, 1) := by decide +kernel
theorem dX1_full_36 : decode cX1_full 36 = .ok (.iinc 2 1, 3) := by decide +kernel
theorem dX1_full_39 : decode cX1_full 39 = .ok (.goto (-35), 3) := by decide +kernel
theorem dX1_full_42 : decode cX1_full 42 = .ok (.iload_n 1, 1) := by decide +kernel
theorem dX1_full_43 : decode cX1_full 43 = .ok (.ireturn, 1) := by decide +kernel
theorem dX1_allFull_0 : decode cX1_allFull 0 = .ok (.aload_n 0, 1) := by decide +kernel
theorem dX1_allFull_1 : decode cX1_allFull 1 = .ok (.invokevirtual 83, 3) := by decide +kernel
theorem dX1_allFull_4 : decode cX1_allFull 4 = .ok (.aload_n 0, 1) := by decide +kernel
theorem dX1_allFull_5 : decode cX1_allFull 5 = .ok (.getfield 28, 3) := by decide +kernel
theorem dX1_allFull_8 : decode cX1_allFull 8 = .ok (.if_icmp .ne 7, 3) := by decide +kernel
theorem dX1_allFull_11 : decode cX1_allFull 11 = .ok (.iconst 1, 1) := by decide +kernel
theorem dX1_allFull_12 : decode cX1_allFull 12 = .ok (.goto 4, 3) := by decide +kernel
theorem dX1_allFull_15 : decode cX1_allFull 15 = .ok (.iconst 0, 1) := by decide +kernel
theorem dX1_allFull_16 : decode cX1_allFull 16 = .ok (.ireturn, 1) := by decide +kernel
theorem dX1_mayBecome_0 : decode cX1_mayBecome 0 = .ok (.iload_n 1, 1) := by decide +kernel
theorem dX1_mayBecome_1 : decode cX1_mayBecome 1 = .ok (.tableswitch 97 0 3 #[31, 48, 65, 80], 31) := by decide +kernel
theorem dX1_mayBecome_32 : decode cX1_mayBecome 32 = .ok (.iload_n 2, 1) := by decide +kernel
theorem dX1_mayBecome_33 : decode cX1_mayBecome 33 = .ok (.iconst 2, 1) := by decide +kernel
theorem dX1_mayBecome_34 : decode cX1_mayBecome 34 = .ok (.if_icmp .lt 13, 3) := by decide +kernel
theorem dX1_mayBecome_37 : decode cX1_mayBecome 37 = .ok (.iload_n 2, 1) := by decide +kernel
theorem dX1_mayBecome_38 : decode cX1_mayBecome 38 = .ok (.bipush 6, 2) := by decide +kernel
theorem dX1_mayBecome_40 : decode cX1_mayBecome 40 = .ok (.if_icmp .gt 7, 3) := by decide +kernel
theorem dX1_mayBecome_43 : decode cX1_mayBecome 43 = .ok (.iconst 1, 1) := by decide +kernel
theorem dX1_mayBecome_44 : decode cX1_mayBecome 44 = .ok (.goto 4, 3) := by decide +kernel
theorem dX1_mayBecome_47 : decode cX1_mayBecome 47 = .ok (.iconst 0, 1) := by decide +kernel
theorem dX1_mayBecome_48 : decode cX1_mayBecome 48 = .ok (.ireturn, 1) := by decide +kernel
theorem dX1_mayBecome_49 : decode cX1_mayBecome 49 = .ok (.iload_n 2, 1) := by decide +kernel
theorem dX1_mayBecome_50 : decode cX1_mayBecome 50 = .ok (.iconst 1, 1) := by decide +kernel
theorem dX1_mayBecome_51 : decode cX1_mayBecome 51 = .ok (.if_icmp .lt 13, 3) := by decide +kernel
theorem dX1_mayBecome_54 : decode cX1_mayBecome 54 = .ok (.iload_n 2, 1) := by decide +kernel
theorem dX1_mayBecome_55 : decode cX1_mayBecome 55 = .ok (.bipush 8, 2) := by decide +kernel
theorem dX1_mayBecome_57 : decode cX1_mayBecome 57 = .ok (.if_icmp .gt 7, 3) := by decide +kernel
theorem dX1_mayBecome_60 : decode cX1_mayBecome 60 = .ok (.iconst 1, 1) := by decide +kernel
theorem dX1_mayBecome_61 : decode cX1_mayBecome 61 = .ok (.goto 4, 3) := by decide +kernel
theorem dX1_mayBecome_64 : decode cX1_mayBecome 64 = .ok (.iconst 0, 1) := by decide +kernel
theorem dX1_mayBecome_65 : decode cX1_mayBecome 65 = .ok (.ireturn, 1) := by decide +kernel
theorem dX1_mayBecome_66 : decode cX1_mayBecome 66 = .ok (.iload_n 2, 1) := by decide +kernel
theorem dX1_mayBecome_67 : decode cX1_mayBecome 67 = .ok (.ifCond .lt 12, 3) := by decide +kernel
theorem dX1_mayBecome_70 : decode cX1_mayBecome 70 = .ok (.iload_n 2, 1) := by decide +kernel
theorem dX1_mayBecome_71 : decode cX1_mayBecome 71 = .ok (.iconst 3, 1) := by decide +kernel
theorem dX1_mayBecome_72 : decode cX1_mayBecome 72 = .ok (.if_icmp .gt 7, 3) := by decide +kernel
theorem dX1_mayBecome_75 : decode cX1_mayBecome 75 = .ok (.iconst 1, 1) := by decide +kernel
theorem dX1_mayBecome_76 : decode cX1_mayBecome 76 = .ok (.goto 4, 3) := by decide +kernel
theorem dX1_mayBecome_79 : decode cX1_mayBecome 79 = .ok (.iconst 0, 1) := by decide +kernel
theorem dX1_mayBecome_80 : decode cX1_mayBecome 80 = .ok (.ireturn, 1) := by decide +kernel
theorem dX1_mayBecome_81 : decode cX1_mayBecome 81 = .ok (.iload_n 2, 1) := by decide +kernel
theorem dX1_mayBecome_82 : decode cX1_mayBecome 82 = .ok (.iconst 1, 1) := by decide +kernel
theorem dX1_mayBecome_83 : decode cX1_mayBecome 83 = .ok (.if_icmp .lt 13, 3) := by decide +kernel
theorem dX1_mayBecome_86 : decode cX1_mayBecome 86 = .ok (.iload_n 2, 1) := by decide +kernel
theorem dX1_mayBecome_87 : decode cX1_mayBecome 87 = .ok (.bipush 9, 2) := by decide +kernel
theorem dX1_mayBecome_89 : decode cX1_mayBecome 89 = .ok (.if_icmp .gt 7, 3) := by decide +kernel
theorem dX1_mayBecome_92 : decode cX1_mayBecome 92 = .ok (.iconst 1, 1) := by decide +kernel
theorem dX1_mayBecome_93 : decode cX1_mayBecome 93 = .ok (.goto 4, 3) := by decide +kernel
theorem dX1_mayBecome_96 : decode cX1_mayBecome 96 = .ok (.iconst 0, 1) := by decide +kernel
theorem dX1_mayBecome_97 : decode cX1_mayBecome 97 = .ok (.ireturn, 1) := by decide +kernel
theorem dX1_mayBecome_98 : decode cX1_mayBecome 98 = .ok (.iconst 0, 1) := by decide +kernel
theorem dX1_mayBecome_99 : decode cX1_mayBecome 99 = .ok (.ireturn, 1) := by decide +kernel
theorem dX1_setting_0 : decode cX1_setting 0 = .ok (.iload_n 1, 1) := by decide +kernel
theorem dX1_setting_1 : decode cX1_setting 1 = .ok (.tableswitch 42 0 2 #[27, 32, 37], 27) := by decide +kernel
theorem dX1_setting_28 : decode cX1_setting 28 = .ok (.aload_n 0, 1) := by decide +kernel
theorem dX1_setting_29 : decode cX1_setting 29 = .ok (.getfield 28, 3) := by decide +kernel
theorem dX1_setting_32 : decode cX1_setting 32 = .ok (.ireturn, 1) := by decide +kernel
theorem dX1_setting_33 : decode cX1_setting 33 = .ok (.aload_n 0, 1) := by decide +kernel
theorem dX1_setting_34 : decode cX1_setting 34 = .ok (.getfield 32, 3) := by decide +kernel
theorem dX1_setting_37 : decode cX1_setting 37 = .ok (.ireturn, 1) := by decide +kernel
theorem dX1_setting_38 : decode cX1_setting 38 = .ok (.aload_n 0, 1) := by decide +kernel
theorem dX1_setting_39 : decode cX1_setting 39 = .ok (.getfield 35, 3) := by decide +kernel
theorem dX1_setting_42 : decode cX1_setting 42 = .ok (.ireturn, 1) := by decide +kernel
theorem dX1_setting_43 : decode cX1_setting 43 = .ok (.aload_n 0, 1) := by decide +kernel
theorem dX1_setting_44 : decode cX1_setting 44 = .ok (.getfield 38, 3) := by decide +kernel
theorem dX1_setting_47 : decode cX1_setting 47 = .ok (.ireturn, 1) := by decide +kernel
theorem dX1_become_0 : decode cX1_become 0 = .ok (.iload_n 1, 1) := by decide +kernel
theorem dX1_become_1 : decode cX1_become 1 = .ok (.tableswitch 79 0 2 #[27, 59, 71], 27) := by decide +kernel
theorem dX1_become_28 : decode cX1_become 28 = .ok (.aload_n 0, 1) := by decide +kernel
theorem dX1_become_29 : decode cX1_become 29 = .ok (.iload_n 2, 1) := by decide +kernel
theorem dX1_become_30 : decode cX1_become 30 = .ok (.putfield 28, 3) := by decide +kernel
theorem dX1_become_33 : decode cX1_become 33 = .ok (.aload_n 0, 1) := by decide +kernel
theorem dX1_become_34 : decode cX1_become 34 = .ok (.getfield 12, 3) := by decide +kernel
theorem dX1_become_37 : decode cX1_become 37 = .ok (.iconst 0, 1) := by decide +kernel
theorem dX1_become_38 : decode cX1_become 38 = .ok (.invokevirtual 48, 3) := by decide +kernel
theorem dX1_become_41 : decode cX1_become 41 = .ok (.aload_n 0, 1) := by decide +kernel
theorem dX1_become_42 : decode cX1_become 42 = .ok (.getfield 12, 3) := by decide +kernel
theorem dX1_become_45 : decode cX1_become 45 = .ok (.iconst 0, 1) := by decide +kernel
theorem dX1_become_46 : decode cX1_become 46 = .ok (.aload_n 0, 1) := by decide +kernel
theorem dX1_become_47 : decode cX1_become 47 = .ok (.getfield 28, 3) := by decide +kernel
theorem dX1_become_50 : decode cX1_become 50 = .ok (.invokevirtual 52, 3) := by decide +kernel
theorem dX1_become_53 : decode cX1_become 53 = .ok (.aload_n 0, 1) := by decide +kernel
theorem dX1_become_54 : decode cX1_become 54 = .ok (.invokevirtual 86, 3) := by decide +kernel
theorem dX1_become_57 : decode cX1_become 57 = .ok (.goto 28, 3) := by decide +kernel
theorem dX1_become_60 : decode cX1_become 60 = .ok (.aload_n 0, 1) := by decide +kernel
theorem dX1_become_61 : decode cX1_become 61 = .ok (.iload_n 2, 1) := by decide +kernel
theorem dX1_become_62 : decode cX1_become 62 = .ok (.putfield 32, 3) := by decide +kernel
theorem dX1_become_65 : decode cX1_become 65 = .ok (.aload_n 0, 1) := by decide +kernel
theorem dX1_become_66 : decode cX1_become 66 = .ok (.invokevirtual 86, 3) := by decide +kernel
theorem dX1_become_69 : decode cX1_become 69 = .ok (.goto 16, 3) := by decide +kernel
theorem dX1_become_72 : decode cX1_become 72 = .ok (.aload_n 0, 1) := by decide +kernel
theorem dX1_become_73 : decode cX1_become 73 = .ok (.iload_n 2, 1) := by decide +kernel
theorem dX1_become_74 : decode cX1_become 74 = .ok (.putfield 35, 3) := by decide +kernel
theorem dX1_become_77 : decode cX1_become 77 = .ok (.goto 8, 3) := by decide +kernel
theorem dX1_become_80 : decode cX1_become 80 = .ok (.aload_n 0, 1) := by decide +kernel
theorem dX1_become_81 : decode cX1_become 81 = .ok (.iload_n 2, 1) := by decide +kernel
theorem dX1_become_82 : decode cX1_become 82 = .ok (.putfield 38, 3) := by decide +kernel
theorem dX1_become_85 : decode cX1_become 85 = .ok (.return_, 1) := by decide +kernel
theorem dX1_forget_0 : decode cX1_forget 0 = .ok (.iconst 0, 1) := by decide +kernel
theorem dX1_forget_1 : decode cX1_forget 1 = .ok (.istore_n 1, 1) := by decide +kernel
theorem dX1_forget_2 : decode cX1_forget 2 = .ok (.iload_n 1, 1) := by decide +kernel
theorem dX1_forget_3 : decode cX1_forget 3 = .ok (.bipush 6, 2) := by decide +kernel
theorem dX1_forget_5 : decode cX1_forget 5 = .ok (.if_icmp .ge 25, 3) := by decide +kernel
theorem dX1_forget_8 : decode cX1_forget 8 = .ok (.aload_n 0, 1) := by decide +kernel
theorem dX1_forget_9 : decode cX1_forget 9 = .ok (.getfield 20, 3) := by decide +kernel
theorem dX1_forget_12 : decode cX1_forget 12 = .ok (.iload_n 1, 1) := by decide +kernel
theorem dX1_forget_13 : decode cX1_forget 13 = .ok (.aaload, 1) := by decide +kernel
theorem dX1_forget_14 : decode cX1_forget 14 = .ok (.invokevirtual 89, 3) := by decide +kernel
theorem dX1_forget_17 : decode cX1_forget 17 = .ok (.aload_n 0, 1) := by decide +kernel
theorem dX1_forget_18 : decode cX1_forget 18 = .ok (.getfield 24, 3) := by decide +kernel
theorem dX1_forget_21 : decode cX1_forget 21 = .ok (.iload_n 1, 1) := by decide +kernel
theorem dX1_forget_22 : decode cX1_forget 22 = .ok (.iconst 0, 1) := by decide +kernel
theorem dX1_forget_23 : decode cX1_forget 23 = .ok (.iastore, 1) := by decide +kernel
theorem dX1_forget_24 : decode cX1_forget 24 = .ok (.iinc 1 1, 3) := by decide +kernel
theorem dX1_forget_27 : decode cX1_forget 27 = .ok (.goto (-25), 3) := by decide +kernel
theorem dX1_forget_30 : decode cX1_forget 30 = .ok (.aload_n 0, 1) := by decide +kernel
theorem dX1_forget_31 : decode cX1_forget 31 = .ok (.iconst 0, 1) := by decide +kernel
theorem dX1_forget_32 : decode cX1_forget 32 = .ok (.putfield 41, 3) := by decide +kernel
theorem dX1_forget_35 : decode cX1_forget 35 = .ok (.return_, 1) := by decide +kernel
theorem dX2_init_0 : decode cX2_init 0 = .ok (.aload_n 0, 1) := by decide +kernel
theorem dX2_init_1 : decode cX2_init 1 = .ok (.invokespecial 3, 3) := by decide +kernel
theorem dX2_init_4 : decode cX2_init 4 = .ok (.aload_n 0, 1) := by decide +kernel
theorem dX2_init_5 : decode cX2_init 5 = .ok (.bipush 64, 2) := by decide +kernel
theorem dX2_init_7 : decode cX2_init 7 = .ok (.newarray .long, 2) := by decide +kernel
theorem dX2_init_9 : decode cX2_init 9 = .ok (.putfield 9, 3) := by decide +kernel
theorem dX2_init_12 : decode cX2_init 12 = .ok (.return_, 1) := by decide +kernel
theorem dX2_reckon_0 : decode cX2_reckon 0 = .ok (.iconst 1, 1) := by decide +kernel
theorem dX2_reckon_1 : decode cX2_reckon 1 = .ok (.aload_n 1, 1) := by decide +kernel
theorem dX2_reckon_2 : decode cX2_reckon 2 = .ok (.getfield 15, 3) := by decide +kernel
theorem dX2_reckon_5 : decode cX2_reckon 5 = .ok (.ishl, 1) := by decide +kernel
theorem dX2_reckon_6 : decode cX2_reckon 6 = .ok (.iconst 1, 1) := by decide +kernel
theorem dX2_reckon_7 : decode cX2_reckon 7 = .ok (.isub, 1) := by decide +kernel
theorem dX2_reckon_8 : decode cX2_reckon 8 = .ok (.istore_n 3, 1) := by decide +kernel
theorem dX2_reckon_9 : decode cX2_reckon 9 = .ok (.iconst 1, 1) := by decide +kernel
theorem dX2_reckon_10 : decode cX2_reckon 10 = .ok (.istore 4, 2) := by decide +kernel
theorem dX2_reckon_12 : decode cX2_reckon 12 = .ok (.iload 4, 2) := by decide +kernel
theorem dX2_reckon_14 : decode cX2_reckon 14 = .ok (.iload_n 3, 1) := by decide +kernel
theorem dX2_reckon_15 : decode cX2_reckon 15 = .ok (.if_icmp .gt 36, 3) := by decide +kernel
theorem dX2_reckon_18 : decode cX2_reckon 18 = .ok (.aload_n 0, 1) := by decide +kernel
theorem dX2_reckon_19 : decode cX2_reckon 19 = .ok (.getfield 9, 3) := by decide +kernel
theorem dX2_reckon_22 : decode cX2_reckon 22 = .ok (.iload 4, 2) := by decide +kernel
theorem dX2_reckon_24 : decode cX2_reckon 24 = .ok (.bipush 10, 2) := by decide +kernel
theorem dX2_reckon_26 : decode cX2_reckon 26 = .ok (.aload_n 1, 1) := by decide +kernel
theorem dX2_reckon_27 : decode cX2_reckon 27 = .ok (.iload 4, 2) := by decide +kernel
theorem dX2_reckon_29 : decode cX2_reckon 29 = .ok (.invokestatic 21, 3) := by decide +kernel
theorem dX2_reckon_32 : decode cX2_reckon 32 = .ok (.invokestatic 25, 3) := by decide +kernel
theorem dX2_reckon_35 : decode cX2_reckon 35 = .ok (.aload_n 0, 1) := by decide +kernel
theorem dX2_reckon_36 : decode cX2_reckon 36 = .ok (.aload_n 1, 1) := by decide +kernel
theorem dX2_reckon_37 : decode cX2_reckon 37 = .ok (.iload 4, 2) := by decide +kernel
theorem dX2_reckon_39 : decode cX2_reckon 39 = .ok (.iload_n 2, 1) := by decide +kernel
theorem dX2_reckon_40 : decode cX2_reckon 40 = .ok (.invokevirtual 29, 3) := by decide +kernel
theorem dX2_reckon_43 : decode cX2_reckon 43 = .ok (.lsub, 1) := by decide +kernel
theorem dX2_reckon_44 : decode cX2_reckon 44 = .ok (.lastore, 1) := by decide +kernel
theorem dX2_reckon_45 : decode cX2_reckon 45 = .ok (.iinc 4 2, 3) := by decide +kernel
theorem dX2_reckon_48 : decode cX2_reckon 48 = .ok (.goto (-36), 3) := by decide +kernel
theorem dX2_reckon_51 : decode cX2_reckon 51 = .ok (.aload_n 0, 1) := by decide +kernel
theorem dX2_reckon_52 : decode cX2_reckon 52 = .ok (.aload_n 0, 1) := by decide +kernel
theorem dX2_reckon_53 : decode cX2_reckon 53 = .ok (.getfield 9, 3) := by decide +kernel
theorem dX2_reckon_56 : decode cX2_reckon 56 = .ok (.iload_n 3, 1) := by decide +kernel
theorem dX2_reckon_57 : decode cX2_reckon 57 = .ok (.laload, 1) := by decide +kernel
theorem dX2_reckon_58 : decode cX2_reckon 58 = .ok (.putfield 33, 3) := by decide +kernel
theorem dX2_reckon_61 : decode cX2_reckon 61 = .ok (.aload_n 0, 1) := by decide +kernel
theorem dX2_reckon_62 : decode cX2_reckon 62 = .ok (.bipush 10, 2) := by decide +kernel
theorem dX2_reckon_64 : decode cX2_reckon 64 = .ok (.aload_n 1, 1) := by decide +kernel
theorem dX2_reckon_65 : decode cX2_reckon 65 = .ok (.iload_n 3, 1) := by decide +kernel
theorem dX2_reckon_66 : decode cX2_reckon 66 = .ok (.invokestatic 21, 3) := by decide +kernel
theorem dX2_reckon_69 : decode cX2_reckon 69 = .ok (.invokestatic 25, 3) := by decide +kernel
theorem dX2_reckon_72 : decode cX2_reckon 72 = .ok (.putfield 37, 3) := by decide +kernel
theorem dX2_reckon_75 : decode cX2_reckon 75 = .ok (.aload_n 0, 1) := by decide +kernel
theorem dX2_reckon_76 : decode cX2_reckon 76 = .ok (.invokevirtual 40, 3) := by decide +kernel
theorem dX2_reckon_79 : decode cX2_reckon 79 = .ok (.return_, 1) := by decide +kernel
theorem dX2_parted_0 : decode cX2_parted 0 = .ok (.lconst 0, 1) := by decide +kernel
theorem dX2_parted_1 : decode cX2_parted 1 = .ok (.lstore 4, 2) := by decide +kernel
theorem dX2_parted_3 : decode cX2_parted 3 = .ok (.iconst 1, 1) := by decide +kernel
theorem dX2_parted_4 : decode cX2_parted 4 = .ok (.istore 6, 2) := by decide +kernel
theorem dX2_parted_6 : decode cX2_parted 6 = .ok (.iload 6, 2) := by decide +kernel
theorem dX2_parted_8 : decode cX2_parted 8 = .ok (.iload_n 2, 1) := by decide +kernel
theorem dX2_parted_9 : decode cX2_parted 9 = .ok (.if_icmp .ge 78, 3) := by decide +kernel
theorem dX2_parted_12 : decode cX2_parted 12 = .ok (.iload 6, 2) := by decide +kernel
theorem dX2_parted_14 : decode cX2_parted 14 = .ok (.iload_n 2, 1) := by decide +kernel
theorem dX2_parted_15 : decode cX2_parted 15 = .ok (.iconst (-1), 1) := by decide +kernel
theorem dX2_parted_16 : decode cX2_parted 16 = .ok (.ixor, 1) := by decide +kernel
theorem dX2_parted_17 : decode cX2_parted 17 = .ok (.iand, 1) := by decide +kernel
theorem dX2_parted_18 : decode cX2_parted 18 = .ok (.ifCond .ne 63, 3) := by decide +kernel
theorem dX2_parted_21 : decode cX2_parted 21 = .ok (.iload_n 2, 1) := by decide +kernel
theorem dX2_parted_22 : decode cX2_parted 22 = .ok (.iload 6, 2) := by decide +kernel
theorem dX2_parted_24 : decode cX2_parted 24 = .ok (.iconst (-1), 1) := by decide +kernel
theorem dX2_parted_25 : decode cX2_parted 25 = .ok (.ixor, 1) := by decide +kernel
theorem dX2_parted_26 : decode cX2_parted 26 = .ok (.iand, 1) := by decide +kernel
theorem dX2_parted_27 : decode cX2_parted 27 = .ok (.istore 7, 2) := by decide +kernel
theorem dX2_parted_29 : decode cX2_parted 29 = .ok (.aload_n 1, 1) := by decide +kernel
theorem dX2_parted_30 : decode cX2_parted 30 = .ok (.iload_n 2, 1) := by decide +kernel
theorem dX2_parted_31 : decode cX2_parted 31 = .ok (.invokestatic 21, 3) := by decide +kernel
theorem dX2_parted_34 : decode cX2_parted 34 = .ok (.aload_n 1, 1) := by decide +kernel
theorem dX2_parted_35 : decode cX2_parted 35 = .ok (.iload 6, 2) := by decide +kernel
theorem dX2_parted_37 : decode cX2_parted 37 = .ok (.invokestatic 21, 3) := by decide +kernel
theorem dX2_parted_40 : decode cX2_parted 40 = .ok (.isub, 1) := by decide +kernel
theorem dX2_parted_41 : decode cX2_parted 41 = .ok (.aload_n 1, 1) := by decide +kernel
theorem dX2_parted_42 : decode cX2_parted 42 = .ok (.iload 7, 2) := by decide +kernel
theorem dX2_parted_44 : decode cX2_parted 44 = .ok (.invokestatic 21, 3) := by decide +kernel
theorem dX2_parted_47 : decode cX2_parted 47 = .ok (.isub, 1) := by decide +kernel
theorem dX2_parted_48 : decode cX2_parted 48 = .ok (.istore 8, 2) := by decide +kernel
theorem dX2_parted_50 : decode cX2_parted 50 = .ok (.lload 4, 2) := by decide +kernel
theorem dX2_parted_52 : decode cX2_parted 52 = .ok (.aload_n 0, 1) := by decide +kernel
theorem dX2_parted_53 : decode cX2_parted 53 = .ok (.getfield 9, 3) := by decide +kernel
theorem dX2_parted_56 : decode cX2_parted 56 = .ok (.iload 6, 2) := by decide +kernel
theorem dX2_parted_58 : decode cX2_parted 58 = .ok (.laload, 1) := by decide +kernel
theorem dX2_parted_59 : decode cX2_parted 59 = .ok (.bipush 10, 2) := by decide +kernel
theorem dX2_parted_61 : decode cX2_parted 61 = .ok (.aload_n 1, 1) := by decide +kernel
theorem dX2_parted_62 : decode cX2_parted 62 = .ok (.iload 7, 2) := by decide +kernel
theorem dX2_parted_64 : decode cX2_parted 64 = .ok (.invokestatic 21, 3) := by decide +kernel
theorem dX2_parted_67 : decode cX2_parted 67 = .ok (.invokestatic 25, 3) := by decide +kernel
theorem dX2_parted_70 : decode cX2_parted 70 = .ok (.lmul, 1) := by decide +kernel
theorem dX2_parted_71 : decode cX2_parted 71 = .ok (.iload_n 3, 1) := by decide +kernel
theorem dX2_parted_72 : decode cX2_parted 72 = .ok (.iload 8, 2) := by decide +kernel
theorem dX2_parted_74 : decode cX2_parted 74 = .ok (.invokestatic 25, 3) := by decide +kernel
theorem dX2_parted_77 : decode cX2_parted 77 = .ok (.lmul, 1) := by decide +kernel
theorem dX2_parted_78 : decode cX2_parted 78 = .ok (.ladd, 1) := by decide +kernel
theorem dX2_parted_79 : decode cX2_parted 79 = .ok (.lstore 4, 2) := by decide +kernel
theorem dX2_parted_81 : decode cX2_parted 81 = .ok (.iinc 6 2, 3) := by decide +kernel
theorem dX2_parted_84 : decode cX2_parted 84 = .ok (.goto (-78), 3) := by decide +kernel
theorem dX2_parted_87 : decode cX2_parted 87 = .ok (.lload 4, 2) := by decide +kernel
theorem dX2_parted_89 : decode cX2_parted 89 = .ok (.lreturn, 1) := by decide +kernel
theorem dX2_within_0 : decode cX2_within 0 = .ok (.iconst 0, 1) := by decide +kernel
theorem dX2_within_1 : decode cX2_within 1 = .ok (.istore_n 2, 1) := by decide +kernel
theorem dX2_within_2 : decode cX2_within 2 = .ok (.iconst 0, 1) := by decide +kernel
theorem dX2_within_3 : decode cX2_within 3 = .ok (.istore_n 3, 1) := by decide +kernel
theorem dX2_within_4 : decode cX2_within 4 = .ok (.iload_n 3, 1) := by decide +kernel
theorem dX2_within_5 : decode cX2_within 5 = .ok (.aload_n 0, 1) := by decide +kernel
theorem dX2_within_6 : decode cX2_within 6 = .ok (.getfield 15, 3) := by decide +kernel
theorem dX2_within_9 : decode cX2_within 9 = .ok (.if_icmp .ge 38, 3) := by decide +kernel
theorem dX2_within_12 : decode cX2_within 12 = .ok (.iload_n 2, 1) := by decide +kernel
theorem dX2_within_13 : decode cX2_within 13 = .ok (.iload_n 1, 1) := by decide +kernel
theorem dX2_within_14 : decode cX2_within 14 = .ok (.iload_n 3, 1) := by decide +kernel
theorem dX2_within_15 : decode cX2_within 15 = .ok (.invokestatic 43, 3) := by decide +kernel
theorem dX2_within_18 : decode cX2_within 18 = .ok (.ifCond .eq 20, 3) := by decide +kernel
theorem dX2_within_21 : decode cX2_within 21 = .ok (.aload_n 0, 1) := by decide +kernel
theorem dX2_within_22 : decode cX2_within 22 = .ok (.aload_n 0, 1) := by decide +kernel
theorem dX2_within_23 : decode cX2_within 23 = .ok (.getfield 47, 3) := by decide +kernel
theorem dX2_within_26 : decode cX2_within 26 = .ok (.iload_n 3, 1) := by decide +kernel
theorem dX2_within_27 : decode cX2_within 27 = .ok (.invokevirtual 50, 3) := by decide +kernel
theorem dX2_within_30 : decode cX2_within 30 = .ok (.iload_n 1, 1) := by decide +kernel
theorem dX2_within_31 : decode cX2_within 31 = .ok (.iand, 1) := by decide +kernel
theorem dX2_within_32 : decode cX2_within 32 = .ok (.invokestatic 54, 3) := by decide +kernel
theorem dX2_within_35 : decode cX2_within 35 = .ok (.goto 4, 3) := by decide +kernel
theorem dX2_within_38 : decode cX2_within 38 = .ok (.iconst 0, 1) := by decide +kernel
theorem dX2_within_39 : decode cX2_within 39 = .ok (.iadd, 1) := by decide +kernel
theorem dX2_within_40 : decode cX2_within 40 = .ok (.istore_n 2, 1) := by decide +kernel
theorem dX2_within_41 : decode cX2_within 41 = .ok (.iinc 3 1, 3) := by decide +kernel
theorem dX2_within_44 : decode cX2_within 44 = .ok (.goto (-40), 3) := by decide +kernel
theorem dX2_within_47 : decode cX2_within 47 = .ok (.iload_n 2, 1) := by decide +kernel
theorem dX2_within_48 : decode cX2_within 48 = .ok (.iconst 2, 1) := by decide +kernel
theorem dX2_within_49 : decode cX2_within 49 = .ok (.idiv, 1) := by decide +kernel
theorem dX2_within_50 : decode cX2_within 50 = .ok (.ireturn, 1) := by decide +kernel
theorem dX2_power_0 : decode cX2_power 0 = .ok (.lconst 1, 1) := by decide +kernel
theorem dX2_power_1 : decode cX2_power 1 = .ok (.lstore_n 2, 1) := by decide +kernel
theorem dX2_power_2 : decode cX2_power 2 = .ok (.iconst 0, 1) := by decide +kernel
theorem dX2_power_3 : decode cX2_power 3 = .ok (.istore 4, 2) := by decide +kernel
theorem dX2_power_5 : decode cX2_power 5 = .ok (.iload 4, 2) := by decide +kernel
theorem dX2_power_7 : decode cX2_power 7 = .ok (.iload_n 1, 1) := by decide +kernel
theorem dX2_power_8 : decode cX2_power 8 = .ok (.if_icmp .ge 14, 3) := by decide +kernel
theorem dX2_power_11 : decode cX2_power 11 = .ok (.lload_n 2, 1) := by decide +kernel
theorem dX2_power_12 : decode cX2_power 12 = .ok (.iload_n 0, 1) := by decide +kernel
theorem dX2_power_13 : decode cX2_power 13 = .ok (.i2l, 1) := by decide +kernel
theorem dX2_power_14 : decode cX2_power 14 = .ok (.lmul, 1) := by decide +kernel
theorem dX2_power_15 : decode cX2_power 15 = .ok (.lstore_n 2, 1) := by decide +kernel
theorem dX2_power_16 : decode cX2_power 16 = .ok (.iinc 4 1, 3) := by decide +kernel
theorem dX2_power_19 : decode cX2_power 19 = .ok (.goto (-14), 3) := by decide +kernel
theorem dX2_power_22 : decode cX2_power 22 = .ok (.lload_n 2, 1) := by decide +kernel
theorem dX2_power_23 : decode cX2_power 23 = .ok (.lreturn, 1) := by decide +kernel
theorem dX2_shorten_0 : decode cX2_shorten 0 = .ok (.aload_n 0, 1) := by decide +kernel
theorem dX2_shorten_1 : decode cX2_shorten 1 = .ok (.getfield 37, 3) := by decide +kernel
theorem dX2_shorten_4 : decode cX2_shorten 4 = .ok (.lstore_n 1, 1) := by decide +kernel
theorem dX2_shorten_5 : decode cX2_shorten 5 = .ok (.aload_n 0, 1) := by decide +kernel
theorem dX2_shorten_6 : decode cX2_shorten 6 = .ok (.getfield 33, 3) := by decide +kernel
theorem dX2_shorten_9 : decode cX2_shorten 9 = .ok (.lstore_n 3, 1) := by decide +kernel
theorem dX2_shorten_10 : decode cX2_shorten 10 = .ok (.iconst 0, 1) := by decide +kernel
theorem dX2_shorten_11 : decode cX2_shorten 11 = .ok (.istore 5, 2) := by decide +kernel
theorem dX2_shorten_13 : decode cX2_shorten 13 = .ok (.iload 5, 2) := by decide +kernel
theorem dX2_shorten_15 : decode cX2_shorten 15 = .ok (.sipush 1000, 3) := by decide +kernel
theorem dX2_shorten_18 : decode cX2_shorten 18 = .ok (.if_icmp .ge 25, 3) := by decide +kernel
theorem dX2_shorten_21 : decode cX2_shorten 21 = .ok (.lload_n 3, 1) := by decide +kernel
theorem dX2_shorten_22 : decode cX2_shorten 22 = .ok (.lconst 0, 1) := by decide +kernel
theorem dX2_shorten_23 : decode cX2_shorten 23 = .ok (.lcmp, 1) := by decide +kernel
theorem dX2_shorten_24 : decode cX2_shorten 24 = .ok (.ifCond .le 19, 3) := by decide +kernel
theorem dX2_shorten_27 : decode cX2_shorten 27 = .ok (.lload_n 1, 1) := by decide +kernel
theorem dX2_shorten_28 : decode cX2_shorten 28 = .ok (.lload_n 3, 1) := by decide +kernel
theorem dX2_shorten_29 : decode cX2_shorten 29 = .ok (.lrem, 1) := by decide +kernel
theorem dX2_shorten_30 : decode cX2_shorten 30 = .ok (.lstore 6, 2) := by decide +kernel
theorem dX2_shorten_32 : decode cX2_shorten 32 = .ok (.lload_n 3, 1) := by decide +kernel
theorem dX2_shorten_33 : decode cX2_shorten 33 = .ok (.lstore_n 1, 1) := by decide +kernel
theorem dX2_shorten_34 : decode cX2_shorten 34 = .ok (.lload 6, 2) := by decide +kernel
theorem dX2_shorten_36 : decode cX2_shorten 36 = .ok (.lstore_n 3, 1) := by decide +kernel
theorem dX2_shorten_37 : decode cX2_shorten 37 = .ok (.iinc 5 1, 3) := by decide +kernel
theorem dX2_shorten_40 : decode cX2_shorten 40 = .ok (.goto (-27), 3) := by decide +kernel
theorem dX2_shorten_43 : decode cX2_shorten 43 = .ok (.lload_n 1, 1) := by decide +kernel
theorem dX2_shorten_44 : decode cX2_shorten 44 = .ok (.lconst 1, 1) := by decide +kernel
theorem dX2_shorten_45 : decode cX2_shorten 45 = .ok (.lcmp, 1) := by decide +kernel
theorem dX2_shorten_46 : decode cX2_shorten 46 = .ok (.ifCond .le 23, 3) := by decide +kernel
theorem dX2_shorten_49 : decode cX2_shorten 49 = .ok (.aload_n 0, 1) := by decide +kernel
theorem dX2_shorten_50 : decode cX2_shorten 50 = .ok (.dup, 1) := by decide +kernel
theorem dX2_shorten_51 : decode cX2_shorten 51 = .ok (.getfield 33, 3) := by decide +kernel
theorem dX2_shorten_54 : decode cX2_shorten 54 = .ok (.lload_n 1, 1) := by decide +kernel
theorem dX2_shorten_55 : decode cX2_shorten 55 = .ok (.ldiv, 1) := by decide +kernel
theorem dX2_shorten_56 : decode cX2_shorten 56 = .ok (.putfield 33, 3) := by decide +kernel
theorem dX2_shorten_59 : decode cX2_shorten 59 = .ok (.aload_n 0, 1) := by decide +kernel
theorem dX2_shorten_60 : decode cX2_shorten 60 = .ok (.dup, 1) := by decide +kernel
theorem dX2_shorten_61 : decode cX2_shorten 61 = .ok (.getfield 37, 3) := by decide +kernel
theorem dX2_shorten_64 : decode cX2_shorten 64 = .ok (.lload_n 1, 1) := by decide +kernel
theorem dX2_shorten_65 : decode cX2_shorten 65 = .ok (.ldiv, 1) := by decide +kernel
theorem dX2_shorten_66 : decode cX2_shorten 66 = .ok (.putfield 37, 3) := by decide +kernel
theorem dX2_shorten_69 : decode cX2_shorten 69 = .ok (.return_, 1) := by decide +kernel
theorem dX3_init_0 : decode cX3_init 0 = .ok (.aload_n 0, 1) := by decide +kernel
theorem dX3_init_1 : decode cX3_init 1 = .ok (.invokespecial 3, 3) := by decide +kernel
theorem dX3_init_4 : decode cX3_init 4 = .ok (.aload_n 0, 1) := by decide +kernel
theorem dX3_init_5 : decode cX3_init 5 = .ok (.bipush 6, 2) := by decide +kernel
theorem dX3_init_7 : decode cX3_init 7 = .ok (.anewarray 9, 3) := by decide +kernel
theorem dX3_init_10 : decode cX3_init 10 = .ok (.putfield 11, 3) := by decide +kernel
theorem dX3_init_13 : decode cX3_init 13 = .ok (.iconst 0, 1) := by decide +kernel
theorem dX3_init_14 : decode cX3_init 14 = .ok (.istore_n 1, 1) := by decide +kernel
theorem dX3_init_15 : decode cX3_init 15 = .ok (.iload_n 1, 1) := by decide +kernel
theorem dX3_init_16 : decode cX3_init 16 = .ok (.bipush 6, 2) := by decide +kernel
theorem dX3_init_18 : decode cX3_init 18 = .ok (.if_icmp .ge 22, 3) := by decide +kernel
theorem dX3_init_21 : decode cX3_init 21 = .ok (.aload_n 0, 1) := by decide +kernel
theorem dX3_init_22 : decode cX3_init 22 = .ok (.getfield 11, 3) := by decide +kernel
theorem dX3_init_25 : decode cX3_init 25 = .ok (.iload_n 1, 1) := by decide +kernel
theorem dX3_init_26 : decode cX3_init 26 = .ok (.new 9, 3) := by decide +kernel
theorem dX3_init_29 : decode cX3_init 29 = .ok (.dup, 1) := by decide +kernel
theorem dX3_init_30 : decode cX3_init 30 = .ok (.invokespecial 17, 3) := by decide +kernel
theorem dX3_init_33 : decode cX3_init 33 = .ok (.aastore, 1) := by decide +kernel
theorem dX3_init_34 : decode cX3_init 34 = .ok (.iinc 1 1, 3) := by decide +kernel
theorem dX3_init_37 : decode cX3_init 37 = .ok (.goto (-22), 3) := by decide +kernel
theorem dX3_init_40 : decode cX3_init 40 = .ok (.return_, 1) := by decide +kernel
theorem dX3_keep_0 : decode cX3_keep 0 = .ok (.aload_n 0, 1) := by decide +kernel
theorem dX3_keep_1 : decode cX3_keep 1 = .ok (.getfield 18, 3) := by decide +kernel
theorem dX3_keep_4 : decode cX3_keep 4 = .ok (.bipush 6, 2) := by decide +kernel
theorem dX3_keep_6 : decode cX3_keep 6 = .ok (.if_icmp .lt 7, 3) := by decide +kernel
theorem dX3_keep_9 : decode cX3_keep 9 = .ok (.aload_n 0, 1) := by decide +kernel
theorem dX3_keep_10 : decode cX3_keep 10 = .ok (.invokevirtual 22, 3) := by decide +kernel
theorem dX3_keep_13 : decode cX3_keep 13 = .ok (.aload_n 0, 1) := by decide +kernel
theorem dX3_keep_14 : decode cX3_keep 14 = .ok (.getfield 11, 3) := by decide +kernel
theorem dX3_keep_17 : decode cX3_keep 17 = .ok (.aload_n 0, 1) := by decide +kernel
theorem dX3_keep_18 : decode cX3_keep 18 = .ok (.getfield 18, 3) := by decide +kernel
theorem dX3_keep_21 : decode cX3_keep 21 = .ok (.aaload, 1) := by decide +kernel
theorem dX3_keep_22 : decode cX3_keep 22 = .ok (.aload_n 1, 1) := by decide +kernel
theorem dX3_keep_23 : decode cX3_keep 23 = .ok (.invokevirtual 25, 3) := by decide +kernel
theorem dX3_keep_26 : decode cX3_keep 26 = .ok (.aload_n 0, 1) := by decide +kernel
theorem dX3_keep_27 : decode cX3_keep 27 = .ok (.dup, 1) := by decide +kernel
theorem dX3_keep_28 : decode cX3_keep 28 = .ok (.getfield 18, 3) := by decide +kernel
theorem dX3_keep_31 : decode cX3_keep 31 = .ok (.iconst 1, 1) := by decide +kernel
theorem dX3_keep_32 : decode cX3_keep 32 = .ok (.iadd, 1) := by decide +kernel
theorem dX3_keep_33 : decode cX3_keep 33 = .ok (.putfield 18, 3) := by decide +kernel
theorem dX3_keep_36 : decode cX3_keep 36 = .ok (.return_, 1) := by decide +kernel
theorem dX3_back_0 : decode cX3_back 0 = .ok (.aload_n 0, 1) := by decide +kernel
theorem dX3_back_1 : decode cX3_back 1 = .ok (.getfield 18, 3) := by decide +kernel
theorem dX3_back_4 : decode cX3_back 4 = .ok (.iconst 1, 1) := by decide +kernel
theorem dX3_back_5 : decode cX3_back 5 = .ok (.if_icmp .ge 5, 3) := by decide +kernel
theorem dX3_back_8 : decode cX3_back 8 = .ok (.iconst 0, 1) := by decide +kernel
theorem dX3_back_9 : decode cX3_back 9 = .ok (.ireturn, 1) := by decide +kernel
theorem dX3_back_10 : decode cX3_back 10 = .ok (.aload_n 0, 1) := by decide +kernel
theorem dX3_back_11 : decode cX3_back 11 = .ok (.dup, 1) := by decide +kernel
theorem dX3_back_12 : decode cX3_back 12 = .ok (.getfield 18, 3) := by decide +kernel
theorem dX3_back_15 : decode cX3_back 15 = .ok (.iconst 1, 1) := by decide +kernel
theorem dX3_back_16 : decode cX3_back 16 = .ok (.isub, 1) := by decide +kernel
theorem dX3_back_17 : decode cX3_back 17 = .ok (.putfield 18, 3) := by decide +kernel
theorem dX3_back_20 : decode cX3_back 20 = .ok (.aload_n 1, 1) := by decide +kernel
theorem dX3_back_21 : decode cX3_back 21 = .ok (.aload_n 0, 1) := by decide +kernel
theorem dX3_back_22 : decode cX3_back 22 = .ok (.getfield 11, 3) := by decide +kernel
theorem dX3_back_25 : decode cX3_back 25 = .ok (.aload_n 0, 1) := by decide +kernel
theorem dX3_back_26 : decode cX3_back 26 = .ok (.getfield 18, 3) := by decide +kernel
theorem dX3_back_29 : decode cX3_back 29 = .ok (.aaload, 1) := by decide +kernel
theorem dX3_back_30 : decode cX3_back 30 = .ok (.invokevirtual 25, 3) := by decide +kernel
theorem dX3_back_33 : decode cX3_back 33 = .ok (.iconst 1, 1) := by decide +kernel
theorem dX3_back_34 : decode cX3_back 34 = .ok (.ireturn, 1) := by decide +kernel
theorem dX3_take_0 : decode cX3_take 0 = .ok (.iconst 0, 1) := by decide +kernel
theorem dX3_take_1 : decode cX3_take 1 = .ok (.istore_n 2, 1) := by decide +kernel
theorem dX3_take_2 : decode cX3_take 2 = .ok (.iload_n 2, 1) := by decide +kernel
theorem dX3_take_3 : decode cX3_take 3 = .ok (.aload_n 1, 1) := by decide +kernel
theorem dX3_take_4 : decode cX3_take 4 = .ok (.getfield 18, 3) := by decide +kernel
theorem dX3_take_7 : decode cX3_take 7 = .ok (.if_icmp .ge 24, 3) := by decide +kernel
theorem dX3_take_10 : decode cX3_take 10 = .ok (.aload_n 0, 1) := by decide +kernel
theorem dX3_take_11 : decode cX3_take 11 = .ok (.getfield 11, 3) := by decide +kernel
theorem dX3_take_14 : decode cX3_take 14 = .ok (.iload_n 2, 1) := by decide +kernel
theorem dX3_take_15 : decode cX3_take 15 = .ok (.aaload, 1) := by decide +kernel
theorem dX3_take_16 : decode cX3_take 16 = .ok (.aload_n 1, 1) := by decide +kernel
theorem dX3_take_17 : decode cX3_take 17 = .ok (.getfield 11, 3) := by decide +kernel
theorem dX3_take_20 : decode cX3_take 20 = .ok (.iload_n 2, 1) := by decide +kernel
theorem dX3_take_21 : decode cX3_take 21 = .ok (.aaload, 1) := by decide +kernel
theorem dX3_take_22 : decode cX3_take 22 = .ok (.invokevirtual 25, 3) := by decide +kernel
theorem dX3_take_25 : decode cX3_take 25 = .ok (.iinc 2 1, 3) := by decide +kernel
theorem dX3_take_28 : decode cX3_take 28 = .ok (.goto (-26), 3) := by decide +kernel
theorem dX3_take_31 : decode cX3_take 31 = .ok (.aload_n 0, 1) := by decide +kernel
theorem dX3_take_32 : decode cX3_take 32 = .ok (.aload_n 1, 1) := by decide +kernel
theorem dX3_take_33 : decode cX3_take 33 = .ok (.getfield 18, 3) := by decide +kernel
theorem dX3_take_36 : decode cX3_take 36 = .ok (.putfield 18, 3) := by decide +kernel
theorem dX3_take_39 : decode cX3_take 39 = .ok (.return_, 1) := by decide +kernel
theorem dX3_loseOldest_0 : decode cX3_loseOldest 0 = .ok (.aload_n 0, 1) := by decide +kernel
theorem dX3_loseOldest_1 : decode cX3_loseOldest 1 = .ok (.getfield 11, 3) := by decide +kernel
theorem dX3_loseOldest_4 : decode cX3_loseOldest 4 = .ok (.iconst 0, 1) := by decide +kernel
theorem dX3_loseOldest_5 : decode cX3_loseOldest 5 = .ok (.aaload, 1) := by decide +kernel
theorem dX3_loseOldest_6 : decode cX3_loseOldest 6 = .ok (.astore_n 1, 1) := by decide +kernel
theorem dX3_loseOldest_7 : decode cX3_loseOldest 7 = .ok (.iconst 1, 1) := by decide +kernel
theorem dX3_loseOldest_8 : decode cX3_loseOldest 8 = .ok (.istore_n 2, 1) := by decide +kernel
theorem dX3_loseOldest_9 : decode cX3_loseOldest 9 = .ok (.iload_n 2, 1) := by decide +kernel
theorem dX3_loseOldest_10 : decode cX3_loseOldest 10 = .ok (.bipush 6, 2) := by decide +kernel
theorem dX3_loseOldest_12 : decode cX3_loseOldest 12 = .ok (.if_icmp .ge 23, 3) := by decide +kernel
theorem dX3_loseOldest_15 : decode cX3_loseOldest 15 = .ok (.aload_n 0, 1) := by decide +kernel
theorem dX3_loseOldest_16 : decode cX3_loseOldest 16 = .ok (.getfield 11, 3) := by decide +kernel
theorem dX3_loseOldest_19 : decode cX3_loseOldest 19 = .ok (.iload_n 2, 1) := by decide +kernel
theorem dX3_loseOldest_20 : decode cX3_loseOldest 20 = .ok (.iconst 1, 1) := by decide +kernel
theorem dX3_loseOldest_21 : decode cX3_loseOldest 21 = .ok (.isub, 1) := by decide +kernel
theorem dX3_loseOldest_22 : decode cX3_loseOldest 22 = .ok (.aload_n 0, 1) := by decide +kernel
theorem dX3_loseOldest_23 : decode cX3_loseOldest 23 = .ok (.getfield 11, 3) := by decide +kernel
theorem dX3_loseOldest_26 : decode cX3_loseOldest 26 = .ok (.iload_n 2, 1) := by decide +kernel
theorem dX3_loseOldest_27 : decode cX3_loseOldest 27 = .ok (.aaload, 1) := by decide +kernel
theorem dX3_loseOldest_28 : decode cX3_loseOldest 28 = .ok (.aastore, 1) := by decide +kernel
theorem dX3_loseOldest_29 : decode cX3_loseOldest 29 = .ok (.iinc 2 1, 3) := by decide +kernel
theorem dX3_loseOldest_32 : decode cX3_loseOldest 32 = .ok (.goto (-23), 3) := by decide +kernel
theorem dX3_loseOldest_35 : decode cX3_loseOldest 35 = .ok (.aload_n 0, 1) := by decide +kernel
theorem dX3_loseOldest_36 : decode cX3_loseOldest 36 = .ok (.getfield 11, 3) := by decide +kernel
theorem dX3_loseOldest_39 : decode cX3_loseOldest 39 = .ok (.iconst 5, 1) := by decide +kernel
theorem dX3_loseOldest_40 : decode cX3_loseOldest 40 = .ok (.aload_n 1, 1) := by decide +kernel
theorem dX3_loseOldest_41 : decode cX3_loseOldest 41 = .ok (.aastore, 1) := by decide +kernel
theorem dX3_loseOldest_42 : decode cX3_loseOldest 42 = .ok (.aload_n 0, 1) := by decide +kernel
theorem dX3_loseOldest_43 : decode cX3_loseOldest 43 = .ok (.iconst 5, 1) := by decide +kernel
theorem dX3_loseOldest_44 : decode cX3_loseOldest 44 = .ok (.putfield 18, 3) := by decide +kernel
theorem dX3_loseOldest_47 : decode cX3_loseOldest 47 = .ok (.return_, 1) := by decide +kernel
theorem dX4_init_0 : decode cX4_init 0 = .ok (.aload_n 0, 1) := by decide +kernel
theorem dX4_init_1 : decode cX4_init 1 = .ok (.invokespecial 3, 3) := by decide +kernel
theorem dX4_init_4 : decode cX4_init 4 = .ok (.aload_n 0, 1) := by decide +kernel
theorem dX4_init_5 : decode cX4_init 5 = .ok (.bipush 48, 2) := by decide +kernel
theorem dX4_init_7 : decode cX4_init 7 = .ok (.newarray .int, 2) := by decide +kernel
theorem dX4_init_9 : decode cX4_init 9 = .ok (.putfield 9, 3) := by decide +kernel
theorem dX4_init_12 : decode cX4_init 12 = .ok (.return_, 1) := by decide +kernel
theorem dX4_take_0 : decode cX4_take 0 = .ok (.aload_n 1, 1) := by decide +kernel
theorem dX4_take_1 : decode cX4_take 1 = .ok (.getfield 9, 3) := by decide +kernel
theorem dX4_take_4 : decode cX4_take 4 = .ok (.iconst 0, 1) := by decide +kernel
theorem dX4_take_5 : decode cX4_take 5 = .ok (.aload_n 0, 1) := by decide +kernel
theorem dX4_take_6 : decode cX4_take 6 = .ok (.getfield 9, 3) := by decide +kernel
theorem dX4_take_9 : decode cX4_take 9 = .ok (.iconst 0, 1) := by decide +kernel
theorem dX4_take_10 : decode cX4_take 10 = .ok (.aload_n 0, 1) := by decide +kernel
theorem dX4_take_11 : decode cX4_take 11 = .ok (.getfield 9, 3) := by decide +kernel
theorem dX4_take_14 : decode cX4_take 14 = .ok (.arraylength, 1) := by decide +kernel
theorem dX4_take_15 : decode cX4_take 15 = .ok (.invokestatic 15, 3) := by decide +kernel
theorem dX4_take_18 : decode cX4_take 18 = .ok (.aload_n 0, 1) := by decide +kernel
theorem dX4_take_19 : decode cX4_take 19 = .ok (.aload_n 1, 1) := by decide +kernel
theorem dX4_take_20 : decode cX4_take 20 = .ok (.getfield 21, 3) := by decide +kernel
theorem dX4_take_23 : decode cX4_take 23 = .ok (.putfield 21, 3) := by decide +kernel
theorem dX4_take_26 : decode cX4_take 26 = .ok (.return_, 1) := by decide +kernel
theorem dX4_begin_0 : decode cX4_begin 0 = .ok (.iconst 0, 1) := by decide +kernel
theorem dX4_begin_1 : decode cX4_begin 1 = .ok (.istore_n 2, 1) := by decide +kernel
theorem dX4_begin_2 : decode cX4_begin 2 = .ok (.iload_n 2, 1) := by decide +kernel
theorem dX4_begin_3 : decode cX4_begin 3 = .ok (.bipush 6, 2) := by decide +kernel
theorem dX4_begin_5 : decode cX4_begin 5 = .ok (.if_icmp .ge 16, 3) := by decide +kernel
theorem dX4_begin_8 : decode cX4_begin 8 = .ok (.aload_n 0, 1) := by decide +kernel
theorem dX4_begin_9 : decode cX4_begin 9 = .ok (.iload_n 1, 1) := by decide +kernel
theorem dX4_begin_10 : decode cX4_begin 10 = .ok (.iload_n 2, 1) := by decide +kernel
theorem dX4_begin_11 : decode cX4_begin 11 = .ok (.iconst 0, 1) := by decide +kernel
theorem dX4_begin_12 : decode cX4_begin 12 = .ok (.invokevirtual 25, 3) := by decide +kernel
theorem dX4_begin_15 : decode cX4_begin 15 = .ok (.iinc 2 1, 3) := by decide +kernel
theorem dX4_begin_18 : decode cX4_begin 18 = .ok (.goto (-16), 3) := by decide +kernel
theorem dX4_begin_21 : decode cX4_begin 21 = .ok (.aload_n 0, 1) := by decide +kernel
theorem dX4_begin_22 : decode cX4_begin 22 = .ok (.iload_n 1, 1) := by decide +kernel
theorem dX4_begin_23 : decode cX4_begin 23 = .ok (.iconst 1, 1) := by decide +kernel
theorem dX4_begin_24 : decode cX4_begin 24 = .ok (.iadd, 1) := by decide +kernel
theorem dX4_begin_25 : decode cX4_begin 25 = .ok (.putfield 21, 3) := by decide +kernel
theorem dX4_begin_28 : decode cX4_begin 28 = .ok (.return_, 1) := by decide +kernel
theorem dX4_path_0 : decode cX4_path 0 = .ok (.iconst 1, 1) := by decide +kernel
theorem dX4_path_1 : decode cX4_path 1 = .ok (.istore_n 3, 1) := by decide +kernel
theorem dX4_path_2 : decode cX4_path 2 = .ok (.iload_n 3, 1) := by decide +kernel
theorem dX4_path_3 : decode cX4_path 3 = .ok (.iload_n 2, 1) := by decide +kernel
theorem dX4_path_4 : decode cX4_path 4 = .ok (.if_icmp .ge 18, 3) := by decide +kernel
theorem dX4_path_7 : decode cX4_path 7 = .ok (.aload_n 0, 1) := by decide +kernel
theorem dX4_path_8 : decode cX4_path 8 = .ok (.iload_n 1, 1) := by decide +kernel
theorem dX4_path_9 : decode cX4_path 9 = .ok (.iload_n 3, 1) := by decide +kernel
theorem dX4_path_10 : decode cX4_path 10 = .ok (.iconst 1, 1) := by decide +kernel
theorem dX4_path_11 : decode cX4_path 11 = .ok (.isub, 1) := by decide +kernel
theorem dX4_path_12 : decode cX4_path 12 = .ok (.iload_n 3, 1) := by decide +kernel
theorem dX4_path_13 : decode cX4_path 13 = .ok (.invokevirtual 29, 3) := by decide +kernel
theorem dX4_path_16 : decode cX4_path 16 = .ok (.iinc 3 1, 3) := by decide +kernel
theorem dX4_path_19 : decode cX4_path 19 = .ok (.goto (-17), 3) := by decide +kernel
theorem dX4_path_22 : decode cX4_path 22 = .ok (.return_, 1) := by decide +kernel
theorem dX4_link_0 : decode cX4_link 0 = .ok (.aload_n 0, 1) := by decide +kernel
theorem dX4_link_1 : decode cX4_link 1 = .ok (.iload_n 1, 1) := by decide +kernel
theorem dX4_link_2 : decode cX4_link 2 = .ok (.iload_n 2, 1) := by decide +kernel
theorem dX4_link_3 : decode cX4_link 3 = .ok (.aload_n 0, 1) := by decide +kernel
theorem dX4_link_4 : decode cX4_link 4 = .ok (.iload_n 1, 1) := by decide +kernel
theorem dX4_link_5 : decode cX4_link 5 = .ok (.iload_n 2, 1) := by decide +kernel
theorem dX4_link_6 : decode cX4_link 6 = .ok (.invokevirtual 32, 3) := by decide +kernel
theorem dX4_link_9 : decode cX4_link 9 = .ok (.iconst 1, 1) := by decide +kernel
theorem dX4_link_10 : decode cX4_link 10 = .ok (.iload_n 3, 1) := by decide +kernel
theorem dX4_link_11 : decode cX4_link 11 = .ok (.ishl, 1) := by decide +kernel
theorem dX4_link_12 : decode cX4_link 12 = .ok (.ior, 1) := by decide +kernel
theorem dX4_link_13 : decode cX4_link 13 = .ok (.invokevirtual 25, 3) := by decide +kernel
theorem dX4_link_16 : decode cX4_link 16 = .ok (.aload_n 0, 1) := by decide +kernel
theorem dX4_link_17 : decode cX4_link 17 = .ok (.iload_n 1, 1) := by decide +kernel
theorem dX4_link_18 : decode cX4_link 18 = .ok (.iload_n 3, 1) := by decide +kernel
theorem dX4_link_19 : decode cX4_link 19 = .ok (.aload_n 0, 1) := by decide +kernel
theorem dX4_link_20 : decode cX4_link 20 = .ok (.iload_n 1, 1) := by decide +kernel
theorem dX4_link_21 : decode cX4_link 21 = .ok (.iload_n 3, 1) := by decide +kernel
theorem dX4_link_22 : decode cX4_link 22 = .ok (.invokevirtual 32, 3) := by decide +kernel
theorem dX4_link_25 : decode cX4_link 25 = .ok (.iconst 1, 1) := by decide +kernel
theorem dX4_link_26 : decode cX4_link 26 = .ok (.iload_n 2, 1) := by decide +kernel
theorem dX4_link_27 : decode cX4_link 27 = .ok (.ishl, 1) := by decide +kernel
theorem dX4_link_28 : decode cX4_link 28 = .ok (.ior, 1) := by decide +kernel
theorem dX4_link_29 : decode cX4_link 29 = .ok (.invokevirtual 25, 3) := by decide +kernel
theorem dX4_link_32 : decode cX4_link 32 = .ok (.return_, 1) := by decide +kernel
theorem dX4_of_0 : decode cX4_of 0 = .ok (.iload_n 1, 1) := by decide +kernel
theorem dX4_of_1 : decode cX4_of 1 = .ok (.bipush 6, 2) := by decide +kernel
theorem dX4_of_3 : decode cX4_of 3 = .ok (.imul, 1) := by decide +kernel
theorem dX4_of_4 : decode cX4_of 4 = .ok (.iload_n 2, 1) := by decide +kernel
theorem dX4_of_5 : decode cX4_of 5 = .ok (.iadd, 1) := by decide +kernel
theorem dX4_of_6 : decode cX4_of 6 = .ok (.istore_n 3, 1) := by decide +kernel
theorem dX4_of_7 : decode cX4_of 7 = .ok (.iload_n 3, 1) := by decide +kernel
theorem dX4_of_8 : decode cX4_of 8 = .ok (.ifCond .lt 21, 3) := by decide +kernel
theorem dX4_of_11 : decode cX4_of 11 = .ok (.iload_n 3, 1) := by decide +kernel
theorem dX4_of_12 : decode cX4_of 12 = .ok (.aload_n 0, 1) := by decide +kernel
theorem dX4_of_13 : decode cX4_of 13 = .ok (.getfield 9, 3) := by decide +kernel
theorem dX4_of_16 : decode cX4_of 16 = .ok (.arraylength, 1) := by decide +kernel
theorem dX4_of_17 : decode cX4_of 17 = .ok (.if_icmp .ge 12, 3) := by decide +kernel
theorem dX4_of_20 : decode cX4_of 20 = .ok (.aload_n 0, 1) := by decide +kernel
theorem dX4_of_21 : decode cX4_of 21 = .ok (.getfield 9, 3) := by decide +kernel
theorem dX4_of_24 : decode cX4_of 24 = .ok (.iload_n 3, 1) := by decide +kernel
theorem dX4_of_25 : decode cX4_of 25 = .ok (.iaload, 1) := by decide +kernel
theorem dX4_of_26 : decode cX4_of 26 = .ok (.goto 4, 3) := by decide +kernel
theorem dX4_of_29 : decode cX4_of 29 = .ok (.iconst 0, 1) := by decide +kernel
theorem dX4_of_30 : decode cX4_of 30 = .ok (.ireturn, 1) := by decide +kernel
theorem dX4_joins_0 : decode cX4_joins 0 = .ok (.iconst 1, 1) := by decide +kernel
theorem dX4_joins_1 : decode cX4_joins 1 = .ok (.istore_n 3, 1) := by decide +kernel
theorem dX4_joins_2 : decode cX4_joins 2 = .ok (.iconst 1, 1) := by decide +kernel
theorem dX4_joins_3 : decode cX4_joins 3 = .ok (.istore 4, 2) := by decide +kernel
theorem dX4_joins_5 : decode cX4_joins 5 = .ok (.iload 4, 2) := by decide +kernel
theorem dX4_joins_7 : decode cX4_joins 7 = .ok (.iload_n 2, 1) := by decide +kernel
theorem dX4_joins_8 : decode cX4_joins 8 = .ok (.if_icmp .ge 47, 3) := by decide +kernel
theorem dX4_joins_11 : decode cX4_joins 11 = .ok (.iconst 0, 1) := by decide +kernel
theorem dX4_joins_12 : decode cX4_joins 12 = .ok (.istore 5, 2) := by decide +kernel
theorem dX4_joins_14 : decode cX4_joins 14 = .ok (.iload 5, 2) := by decide +kernel
theorem dX4_joins_16 : decode cX4_joins 16 = .ok (.iload_n 2, 1) := by decide +kernel
theorem dX4_joins_17 : decode cX4_joins 17 = .ok (.if_icmp .ge 32, 3) := by decide +kernel
theorem dX4_joins_20 : decode cX4_joins 20 = .ok (.iload_n 3, 1) := by decide +kernel
theorem dX4_joins_21 : decode cX4_joins 21 = .ok (.iload_n 3, 1) := by decide +kernel
theorem dX4_joins_22 : decode cX4_joins 22 = .ok (.iload 5, 2) := by decide +kernel
theorem dX4_joins_24 : decode cX4_joins 24 = .ok (.invokestatic 36, 3) := by decide +kernel
theorem dX4_joins_27 : decode cX4_joins 27 = .ok (.ifCond .eq 13, 3) := by decide +kernel
theorem dX4_joins_30 : decode cX4_joins 30 = .ok (.aload_n 0, 1) := by decide +kernel
theorem dX4_joins_31 : decode cX4_joins 31 = .ok (.iload_n 1, 1) := by decide +kernel
theorem dX4_joins_32 : decode cX4_joins 32 = .ok (.iload 5, 2) := by decide +kernel
theorem dX4_joins_34 : decode cX4_joins 34 = .ok (.invokevirtual 32, 3) := by decide +kernel
theorem dX4_joins_37 : decode cX4_joins 37 = .ok (.goto 4, 3) := by decide +kernel
theorem dX4_joins_40 : decode cX4_joins 40 = .ok (.iconst 0, 1) := by decide +kernel
theorem dX4_joins_41 : decode cX4_joins 41 = .ok (.ior, 1) := by decide +kernel
theorem dX4_joins_42 : decode cX4_joins 42 = .ok (.istore_n 3, 1) := by decide +kernel
theorem dX4_joins_43 : decode cX4_joins 43 = .ok (.iinc 5 1, 3) := by decide +kernel
theorem dX4_joins_46 : decode cX4_joins 46 = .ok (.goto (-32), 3) := by decide +kernel
theorem dX4_joins_49 : decode cX4_joins 49 = .ok (.iinc 4 1, 3) := by decide +kernel
theorem dX4_joins_52 : decode cX4_joins 52 = .ok (.goto (-47), 3) := by decide +kernel
theorem dX4_joins_55 : decode cX4_joins 55 = .ok (.iload_n 3, 1) := by decide +kernel
theorem dX4_joins_56 : decode cX4_joins 56 = .ok (.iconst 1, 1) := by decide +kernel
theorem dX4_joins_57 : decode cX4_joins 57 = .ok (.iload_n 2, 1) := by decide +kernel
theorem dX4_joins_58 : decode cX4_joins 58 = .ok (.ishl, 1) := by decide +kernel
theorem dX4_joins_59 : decode cX4_joins 59 = .ok (.iconst 1, 1) := by decide +kernel
theorem dX4_joins_60 : decode cX4_joins 60 = .ok (.isub, 1) := by decide +kernel
theorem dX4_joins_61 : decode cX4_joins 61 = .ok (.if_icmp .ne 7, 3) := by decide +kernel
theorem dX4_joins_64 : decode cX4_joins 64 = .ok (.iconst 1, 1) := by decide +kernel
theorem dX4_joins_65 : decode cX4_joins 65 = .ok (.goto 4, 3) := by decide +kernel
theorem dX4_joins_68 : decode cX4_joins 68 = .ok (.iconst 0, 1) := by decide +kernel
theorem dX4_joins_69 : decode cX4_joins 69 = .ok (.ireturn, 1) := by decide +kernel
theorem dX4_set_0 : decode cX4_set 0 = .ok (.iload_n 1, 1) := by decide +kernel
theorem dX4_set_1 : decode cX4_set 1 = .ok (.bipush 6, 2) := by decide +kernel
theorem dX4_set_3 : decode cX4_set 3 = .ok (.imul, 1) := by decide +kernel
theorem dX4_set_4 : decode cX4_set 4 = .ok (.iload_n 2, 1) := by decide +kernel
theorem dX4_set_5 : decode cX4_set 5 = .ok (.iadd, 1) := by decide +kernel
theorem dX4_set_6 : decode cX4_set 6 = .ok (.istore 4, 2) := by decide +kernel
theorem dX4_set_8 : decode cX4_set 8 = .ok (.iload 4, 2) := by decide +kernel
theorem dX4_set_10 : decode cX4_set 10 = .ok (.ifCond .lt 21, 3) := by decide +kernel
theorem dX4_set_13 : decode cX4_set 13 = .ok (.iload 4, 2) := by decide +kernel
theorem dX4_set_15 : decode cX4_set 15 = .ok (.aload_n 0, 1) := by decide +kernel
theorem dX4_set_16 : decode cX4_set 16 = .ok (.getfield 9, 3) := by decide +kernel
theorem dX4_set_19 : decode cX4_set 19 = .ok (.arraylength, 1) := by decide +kernel
theorem dX4_set_20 : decode cX4_set 20 = .ok (.if_icmp .ge 11, 3) := by decide +kernel
theorem dX4_set_23 : decode cX4_set 23 = .ok (.aload_n 0, 1) := by decide +kernel
theorem dX4_set_24 : decode cX4_set 24 = .ok (.getfield 9, 3) := by decide +kernel
theorem dX4_set_27 : decode cX4_set 27 = .ok (.iload 4, 2) := by decide +kernel
theorem dX4_set_29 : decode cX4_set 29 = .ok (.iload_n 3, 1) := by decide +kernel
theorem dX4_set_30 : decode cX4_set 30 = .ok (.iastore, 1) := by decide +kernel
theorem dX4_set_31 : decode cX4_set 31 = .ok (.return_, 1) := by decide +kernel
theorem dX5_init_0 : decode cX5_init 0 = .ok (.aload_n 0, 1) := by decide +kernel
theorem dX5_init_1 : decode cX5_init 1 = .ok (.invokespecial 3, 3) := by decide +kernel
theorem dX5_init_4 : decode cX5_init 4 = .ok (.aload_n 0, 1) := by decide +kernel
theorem dX5_init_5 : decode cX5_init 5 = .ok (.bipush 48, 2) := by decide +kernel
theorem dX5_init_7 : decode cX5_init 7 = .ok (.newarray .int, 2) := by decide +kernel
theorem dX5_init_9 : decode cX5_init 9 = .ok (.putfield 9, 3) := by decide +kernel
theorem dX5_init_12 : decode cX5_init 12 = .ok (.aload_n 0, 1) := by decide +kernel
theorem dX5_init_13 : decode cX5_init 13 = .ok (.bipush 6, 2) := by decide +kernel
theorem dX5_init_15 : decode cX5_init 15 = .ok (.newarray .int, 2) := by decide +kernel
theorem dX5_init_17 : decode cX5_init 17 = .ok (.putfield 15, 3) := by decide +kernel
theorem dX5_init_20 : decode cX5_init 20 = .ok (.aload_n 0, 1) := by decide +kernel
theorem dX5_init_21 : decode cX5_init 21 = .ok (.new 18, 3) := by decide +kernel
theorem dX5_init_24 : decode cX5_init 24 = .ok (.dup, 1) := by decide +kernel
theorem dX5_init_25 : decode cX5_init 25 = .ok (.invokespecial 20, 3) := by decide +kernel
theorem dX5_init_28 : decode cX5_init 28 = .ok (.putfield 21, 3) := by decide +kernel
theorem dX5_init_31 : decode cX5_init 31 = .ok (.return_, 1) := by decide +kernel
theorem dX5_prepare_0 : decode cX5_prepare 0 = .ok (.aload_n 0, 1) := by decide +kernel
theorem dX5_prepare_1 : decode cX5_prepare 1 = .ok (.aload_n 1, 1) := by decide +kernel
theorem dX5_prepare_2 : decode cX5_prepare 2 = .ok (.getfield 25, 3) := by decide +kernel
theorem dX5_prepare_5 : decode cX5_prepare 5 = .ok (.putfield 31, 3) := by decide +kernel
theorem dX5_prepare_8 : decode cX5_prepare 8 = .ok (.iconst 0, 1) := by decide +kernel
theorem dX5_prepare_9 : decode cX5_prepare 9 = .ok (.istore_n 3, 1) := by decide +kernel
theorem dX5_prepare_10 : decode cX5_prepare 10 = .ok (.iload_n 3, 1) := by decide +kernel
theorem dX5_prepare_11 : decode cX5_prepare 11 = .ok (.aload_n 1, 1) := by decide +kernel
theorem dX5_prepare_12 : decode cX5_prepare 12 = .ok (.getfield 32, 3) := by decide +kernel
theorem dX5_prepare_15 : decode cX5_prepare 15 = .ok (.if_icmp .ge 47, 3) := by decide +kernel
theorem dX5_prepare_18 : decode cX5_prepare 18 = .ok (.aload_n 0, 1) := by decide +kernel
theorem dX5_prepare_19 : decode cX5_prepare 19 = .ok (.getfield 15, 3) := by decide +kernel
theorem dX5_prepare_22 : decode cX5_prepare 22 = .ok (.iload_n 3, 1) := by decide +kernel
theorem dX5_prepare_23 : decode cX5_prepare 23 = .ok (.iconst 0, 1) := by decide +kernel
theorem dX5_prepare_24 : decode cX5_prepare 24 = .ok (.iastore, 1) := by decide +kernel
theorem dX5_prepare_25 : decode cX5_prepare 25 = .ok (.iload_n 2, 1) := by decide +kernel
theorem dX5_prepare_26 : decode cX5_prepare 26 = .ok (.iconst 3, 1) := by decide +kernel
theorem dX5_prepare_27 : decode cX5_prepare 27 = .ok (.if_icmp .ne 17, 3) := by decide +kernel
theorem dX5_prepare_30 : decode cX5_prepare 30 = .ok (.aload_n 0, 1) := by decide +kernel
theorem dX5_prepare_31 : decode cX5_prepare 31 = .ok (.aload_n 1, 1) := by decide +kernel
theorem dX5_prepare_32 : decode cX5_prepare 32 = .ok (.getfield 35, 3) := by decide +kernel
theorem dX5_prepare_35 : decode cX5_prepare 35 = .ok (.iload_n 3, 1) := by decide +kernel
theorem dX5_prepare_36 : decode cX5_prepare 36 = .ok (.aaload, 1) := by decide +kernel
theorem dX5_prepare_37 : decode cX5_prepare 37 = .ok (.iload_n 3, 1) := by decide +kernel
theorem dX5_prepare_38 : decode cX5_prepare 38 = .ok (.invokevirtual 39, 3) := by decide +kernel
theorem dX5_prepare_41 : decode cX5_prepare 41 = .ok (.goto 15, 3) := by decide +kernel
theorem dX5_prepare_44 : decode cX5_prepare 44 = .ok (.aload_n 0, 1) := by decide +kernel
theorem dX5_prepare_45 : decode cX5_prepare 45 = .ok (.iload_n 3, 1) := by decide +kernel
theorem dX5_prepare_46 : decode cX5_prepare 46 = .ok (.aload_n 0, 1) := by decide +kernel
theorem dX5_prepare_47 : decode cX5_prepare 47 = .ok (.aload_n 1, 1) := by decide +kernel
theorem dX5_prepare_48 : decode cX5_prepare 48 = .ok (.iload_n 2, 1) := by decide +kernel
theorem dX5_prepare_49 : decode cX5_prepare 49 = .ok (.iload_n 3, 1) := by decide +kernel
theorem dX5_prepare_50 : decode cX5_prepare 50 = .ok (.invokevirtual 43, 3) := by decide +kernel
theorem dX5_prepare_53 : decode cX5_prepare 53 = .ok (.invokevirtual 47, 3) := by decide +kernel
theorem dX5_prepare_56 : decode cX5_prepare 56 = .ok (.iinc 3 1, 3) := by decide +kernel
theorem dX5_prepare_59 : decode cX5_prepare 59 = .ok (.goto (-49), 3) := by decide +kernel
theorem dX5_prepare_62 : decode cX5_prepare 62 = .ok (.return_, 1) := by decide +kernel
theorem dX5_only_0 : decode cX5_only 0 = .ok (.aload_n 0, 1) := by decide +kernel
theorem dX5_only_1 : decode cX5_only 1 = .ok (.getfield 15, 3) := by decide +kernel
theorem dX5_only_4 : decode cX5_only 4 = .ok (.iload_n 1, 1) := by decide +kernel
theorem dX5_only_5 : decode cX5_only 5 = .ok (.iaload, 1) := by decide +kernel
theorem dX5_only_6 : decode cX5_only 6 = .ok (.ifCond .ne 7, 3) := by decide +kernel
theorem dX5_only_9 : decode cX5_only 9 = .ok (.iconst 0, 1) := by decide +kernel
theorem dX5_only_10 : decode cX5_only 10 = .ok (.goto 12, 3) := by decide +kernel
theorem dX5_only_13 : decode cX5_only 13 = .ok (.aload_n 0, 1) := by decide +kernel
theorem dX5_only_14 : decode cX5_only 14 = .ok (.getfield 9, 3) := by decide +kernel
theorem dX5_only_17 : decode cX5_only 17 = .ok (.iload_n 1, 1) := by decide +kernel
theorem dX5_only_18 : decode cX5_only 18 = .ok (.bipush 8, 2) := by decide +kernel
theorem dX5_only_20 : decode cX5_only 20 = .ok (.imul, 1) := by decide +kernel
theorem dX5_only_21 : decode cX5_only 21 = .ok (.iaload, 1) := by decide +kernel
theorem dX5_only_22 : decode cX5_only 22 = .ok (.ireturn, 1) := by decide +kernel
theorem dX5_growth_0 : decode cX5_growth 0 = .ok (.aload_n 0, 1) := by decide +kernel
theorem dX5_growth_1 : decode cX5_growth 1 = .ok (.getfield 21, 3) := by decide +kernel
theorem dX5_growth_4 : decode cX5_growth 4 = .ok (.aload_n 1, 1) := by decide +kernel
theorem dX5_growth_5 : decode cX5_growth 5 = .ok (.getfield 35, 3) := by decide +kernel
theorem dX5_growth_8 : decode cX5_growth 8 = .ok (.iload_n 2, 1) := by decide +kernel
theorem dX5_growth_9 : decode cX5_growth 9 = .ok (.aaload, 1) := by decide +kernel
theorem dX5_growth_10 : decode cX5_growth 10 = .ok (.invokevirtual 51, 3) := by decide +kernel
theorem dX5_growth_13 : decode cX5_growth 13 = .ok (.aload_n 0, 1) := by decide +kernel
theorem dX5_growth_14 : decode cX5_growth 14 = .ok (.aload_n 1, 1) := by decide +kernel
theorem dX5_growth_15 : decode cX5_growth 15 = .ok (.aload_n 0, 1) := by decide +kernel
theorem dX5_growth_16 : decode cX5_growth 16 = .ok (.getfield 21, 3) := by decide +kernel
theorem dX5_growth_19 : decode cX5_growth 19 = .ok (.iload_n 3, 1) := by decide +kernel
theorem dX5_growth_20 : decode cX5_growth 20 = .ok (.invokevirtual 55, 3) := by decide +kernel
theorem dX5_growth_23 : decode cX5_growth 23 = .ok (.ireturn, 1) := by decide +kernel
theorem dX5_pass_0 : decode cX5_pass 0 = .ok (.aload_n 0, 1) := by decide +kernel
theorem dX5_pass_1 : decode cX5_pass 1 = .ok (.aload_n 1, 1) := by decide +kernel
theorem dX5_pass_2 : decode cX5_pass 2 = .ok (.aload_n 1, 1) := by decide +kernel
theorem dX5_pass_3 : decode cX5_pass 3 = .ok (.getfield 59, 3) := by decide +kernel
theorem dX5_pass_6 : decode cX5_pass 6 = .ok (.invokevirtual 62, 3) := by decide +kernel
theorem dX5_pass_9 : decode cX5_pass 9 = .ok (.aload_n 1, 1) := by decide +kernel
theorem dX5_pass_10 : decode cX5_pass 10 = .ok (.aload_n 0, 1) := by decide +kernel
theorem dX5_pass_11 : decode cX5_pass 11 = .ok (.getfield 31, 3) := by decide +kernel
theorem dX5_pass_14 : decode cX5_pass 14 = .ok (.putfield 25, 3) := by decide +kernel
theorem dX5_pass_17 : decode cX5_pass 17 = .ok (.iconst 0, 1) := by decide +kernel
theorem dX5_pass_18 : decode cX5_pass 18 = .ok (.istore_n 2, 1) := by decide +kernel
theorem dX5_pass_19 : decode cX5_pass 19 = .ok (.iload_n 2, 1) := by decide +kernel
theorem dX5_pass_20 : decode cX5_pass 20 = .ok (.aload_n 1, 1) := by decide +kernel
theorem dX5_pass_21 : decode cX5_pass 21 = .ok (.getfield 32, 3) := by decide +kernel
theorem dX5_pass_24 : decode cX5_pass 24 = .ok (.if_icmp .ge 55, 3) := by decide +kernel
theorem dX5_pass_27 : decode cX5_pass 27 = .ok (.aload_n 1, 1) := by decide +kernel
theorem dX5_pass_28 : decode cX5_pass 28 = .ok (.getfield 66, 3) := by decide +kernel
theorem dX5_pass_31 : decode cX5_pass 31 = .ok (.iload_n 2, 1) := by decide +kernel
theorem dX5_pass_32 : decode cX5_pass 32 = .ok (.dup2, 1) := by decide +kernel
theorem dX5_pass_33 : decode cX5_pass 33 = .ok (.iaload, 1) := by decide +kernel
theorem dX5_pass_34 : decode cX5_pass 34 = .ok (.aload_n 1, 1) := by decide +kernel
theorem dX5_pass_35 : decode cX5_pass 35 = .ok (.getfield 59, 3) := by decide +kernel
theorem dX5_pass_38 : decode cX5_pass 38 = .ok (.ifCond .ne 11, 3) := by decide +kernel
theorem dX5_pass_41 : decode cX5_pass 41 = .ok (.aload_n 0, 1) := by decide +kernel
theorem dX5_pass_42 : decode cX5_pass 42 = .ok (.iload_n 2, 1) := by decide +kernel
theorem dX5_pass_43 : decode cX5_pass 43 = .ok (.invokevirtual 69, 3) := by decide +kernel
theorem dX5_pass_46 : decode cX5_pass 46 = .ok (.goto 4, 3) := by decide +kernel
theorem dX5_pass_49 : decode cX5_pass 49 = .ok (.iconst 0, 1) := by decide +kernel
theorem dX5_pass_50 : decode cX5_pass 50 = .ok (.ior, 1) := by decide +kernel
theorem dX5_pass_51 : decode cX5_pass 51 = .ok (.iastore, 1) := by decide +kernel
theorem dX5_pass_52 : decode cX5_pass 52 = .ok (.aload_n 0, 1) := by decide +kernel
theorem dX5_pass_53 : decode cX5_pass 53 = .ok (.aload_n 1, 1) := by decide +kernel
theorem dX5_pass_54 : decode cX5_pass 54 = .ok (.aload_n 1, 1) := by decide +kernel
theorem dX5_pass_55 : decode cX5_pass 55 = .ok (.getfield 35, 3) := by decide +kernel
theorem dX5_pass_58 : decode cX5_pass 58 = .ok (.iload_n 2, 1) := by decide +kernel
theorem dX5_pass_59 : decode cX5_pass 59 = .ok (.aaload, 1) := by decide +kernel
theorem dX5_pass_60 : decode cX5_pass 60 = .ok (.aload_n 1, 1) := by decide +kernel
theorem dX5_pass_61 : decode cX5_pass 61 = .ok (.aload_n 1, 1) := by decide +kernel
theorem dX5_pass_62 : decode cX5_pass 62 = .ok (.getfield 73, 3) := by decide +kernel
theorem dX5_pass_65 : decode cX5_pass 65 = .ok (.iload_n 2, 1) := by decide +kernel
theorem dX5_pass_66 : decode cX5_pass 66 = .ok (.invokevirtual 76, 3) := by decide +kernel
theorem dX5_pass_69 : decode cX5_pass 69 = .ok (.invokevirtual 55, 3) := by decide +kernel
theorem dX5_pass_72 : decode cX5_pass 72 = .ok (.pop, 1) := by decide +kernel
theorem dX5_pass_73 : decode cX5_pass 73 = .ok (.iinc 2 1, 3) := by decide +kernel
theorem dX5_pass_76 : decode cX5_pass 76 = .ok (.goto (-57), 3) := by decide +kernel
theorem dX5_pass_79 : decode cX5_pass 79 = .ok (.aload_n 1, 1) := by decide +kernel
theorem dX5_pass_80 : decode cX5_pass 80 = .ok (.aload_n 1, 1) := by decide +kernel
theorem dX5_pass_81 : decode cX5_pass 81 = .ok (.getfield 73, 3) := by decide +kernel
theorem dX5_pass_84 : decode cX5_pass 84 = .ok (.iconst 1, 1) := by decide +kernel
theorem dX5_pass_85 : decode cX5_pass 85 = .ok (.iadd, 1) := by decide +kernel
theorem dX5_pass_86 : decode cX5_pass 86 = .ok (.ldc 80, 2) := by decide +kernel
theorem dX5_pass_88 : decode cX5_pass 88 = .ok (.iand, 1) := by decide +kernel
theorem dX5_pass_89 : decode cX5_pass 89 = .ok (.putfield 73, 3) := by decide +kernel
theorem dX5_pass_92 : decode cX5_pass 92 = .ok (.return_, 1) := by decide +kernel
theorem dX5_passUntilFull_0 : decode cX5_passUntilFull 0 = .ok (.iconst 0, 1) := by decide +kernel
theorem dX5_passUntilFull_1 : decode cX5_passUntilFull 1 = .ok (.istore_n 3, 1) := by decide +kernel
theorem dX5_passUntilFull_2 : decode cX5_passUntilFull 2 = .ok (.iconst 0, 1) := by decide +kernel
theorem dX5_passUntilFull_3 : decode cX5_passUntilFull 3 = .ok (.istore 4, 2) := by decide +kernel
theorem dX5_passUntilFull_5 : decode cX5_passUntilFull 5 = .ok (.iload 4, 2) := by decide +kernel
theorem dX5_passUntilFull_7 : decode cX5_passUntilFull 7 = .ok (.iload_n 2, 1) := by decide +kernel
theorem dX5_passUntilFull_8 : decode cX5_passUntilFull 8 = .ok (.if_icmp .ge 24, 3) := by decide +kernel
theorem dX5_passUntilFull_11 : decode cX5_passUntilFull 11 = .ok (.aload_n 1, 1) := by decide +kernel
theorem dX5_passUntilFull_12 : decode cX5_passUntilFull 12 = .ok (.invokevirtual 81, 3) := by decide +kernel
theorem dX5_passUntilFull_15 : decode cX5_passUntilFull 15 = .ok (.ifCond .ne 17, 3) := by decide +kernel
theorem dX5_passUntilFull_18 : decode cX5_passUntilFull 18 = .ok (.aload_n 0, 1) := by decide +kernel
theorem dX5_passUntilFull_19 : decode cX5_passUntilFull 19 = .ok (.aload_n 1, 1) := by decide +kernel
theorem dX5_passUntilFull_20 : decode cX5_passUntilFull 20 = .ok (.invokevirtual 85, 3) := by decide +kernel
theorem dX5_passUntilFull_23 : decode cX5_passUntilFull 23 = .ok (.iinc 3 1, 3) := by decide +kernel
theorem dX5_passUntilFull_26 : decode cX5_passUntilFull 26 = .ok (.iinc 4 1, 3) := by decide +kernel
theorem dX5_passUntilFull_29 : decode cX5_passUntilFull 29 = .ok (.goto (-24), 3) := by decide +kernel
theorem dX5_passUntilFull_32 : decode cX5_passUntilFull 32 = .ok (.iload_n 3, 1) := by decide +kernel
theorem dX5_passUntilFull_33 : decode cX5_passUntilFull 33 = .ok (.ireturn, 1) := by decide +kernel
theorem dX5_chosen_0 : decode cX5_chosen 0 = .ok (.aload_n 1, 1) := by decide +kernel
theorem dX5_chosen_1 : decode cX5_chosen 1 = .ok (.getfield 35, 3) := by decide +kernel
theorem dX5_chosen_4 : decode cX5_chosen 4 = .ok (.iload_n 3, 1) := by decide +kernel
theorem dX5_chosen_5 : decode cX5_chosen 5 = .ok (.aaload, 1) := by decide +kernel
theorem dX5_chosen_6 : decode cX5_chosen 6 = .ok (.astore 4, 2) := by decide +kernel
theorem dX5_chosen_8 : decode cX5_chosen 8 = .ok (.iload_n 2, 1) := by decide +kernel
theorem dX5_chosen_9 : decode cX5_chosen 9 = .ok (.ifCond .ne 26, 3) := by decide +kernel
theorem dX5_chosen_12 : decode cX5_chosen 12 = .ok (.aload 4, 2) := by decide +kernel
theorem dX5_chosen_14 : decode cX5_chosen 14 = .ok (.invokevirtual 89, 3) := by decide +kernel
theorem dX5_chosen_17 : decode cX5_chosen 17 = .ok (.aload_n 1, 1) := by decide +kernel
theorem dX5_chosen_18 : decode cX5_chosen 18 = .ok (.getfield 66, 3) := by decide +kernel
theorem dX5_chosen_21 : decode cX5_chosen 21 = .ok (.iload_n 3, 1) := by decide +kernel
theorem dX5_chosen_22 : decode cX5_chosen 22 = .ok (.iaload, 1) := by decide +kernel
theorem dX5_chosen_23 : decode cX5_chosen 23 = .ok (.iconst (-1), 1) := by decide +kernel
theorem dX5_chosen_24 : decode cX5_chosen 24 = .ok (.ixor, 1) := by decide +kernel
theorem dX5_chosen_25 : decode cX5_chosen 25 = .ok (.iand, 1) := by decide +kernel
theorem dX5_chosen_26 : decode cX5_chosen 26 = .ok (.istore 5, 2) := by decide +kernel
theorem dX5_chosen_28 : decode cX5_chosen 28 = .ok (.iload 5, 2) := by decide +kernel
theorem dX5_chosen_30 : decode cX5_chosen 30 = .ok (.iload 5, 2) := by decide +kernel
theorem dX5_chosen_32 : decode cX5_chosen 32 = .ok (.ineg, 1) := by decide +kernel
theorem dX5_chosen_33 : decode cX5_chosen 33 = .ok (.iand, 1) := by decide +kernel
theorem dX5_chosen_34 : decode cX5_chosen 34 = .ok (.ireturn, 1) := by decide +kernel
theorem dX5_chosen_35 : decode cX5_chosen 35 = .ok (.iload_n 2, 1) := by decide +kernel
theorem dX5_chosen_36 : decode cX5_chosen 36 = .ok (.iconst 1, 1) := by decide +kernel
theorem dX5_chosen_37 : decode cX5_chosen 37 = .ok (.if_icmp .ne 23, 3) := by decide +kernel
theorem dX5_chosen_40 : decode cX5_chosen 40 = .ok (.aload 4, 2) := by decide +kernel
theorem dX5_chosen_42 : decode cX5_chosen 42 = .ok (.invokevirtual 89, 3) := by decide +kernel
theorem dX5_chosen_45 : decode cX5_chosen 45 = .ok (.iconst 1, 1) := by decide +kernel
theorem dX5_chosen_46 : decode cX5_chosen 46 = .ok (.aload_n 1, 1) := by decide +kernel
theorem dX5_chosen_47 : decode cX5_chosen 47 = .ok (.getfield 73, 3) := by decide +kernel
theorem dX5_chosen_50 : decode cX5_chosen 50 = .ok (.aload_n 1, 1) := by decide +kernel
theorem dX5_chosen_51 : decode cX5_chosen 51 = .ok (.getfield 93, 3) := by decide +kernel
theorem dX5_chosen_54 : decode cX5_chosen 54 = .ok (.invokestatic 96, 3) := by decide +kernel
theorem dX5_chosen_57 : decode cX5_chosen 57 = .ok (.ishl, 1) := by decide +kernel
theorem dX5_chosen_58 : decode cX5_chosen 58 = .ok (.iand, 1) := by decide +kernel
theorem dX5_chosen_59 : decode cX5_chosen 59 = .ok (.ireturn, 1) := by decide +kernel
theorem dX5_chosen_60 : decode cX5_chosen 60 = .ok (.iload_n 2, 1) := by decide +kernel
theorem dX5_chosen_61 : decode cX5_chosen 61 = .ok (.iconst 2, 1) := by decide +kernel
theorem dX5_chosen_62 : decode cX5_chosen 62 = .ok (.if_icmp .ne 11, 3) := by decide +kernel
theorem dX5_chosen_65 : decode cX5_chosen 65 = .ok (.aload 4, 2) := by decide +kernel
theorem dX5_chosen_67 : decode cX5_chosen 67 = .ok (.invokevirtual 99, 3) := by decide +kernel
theorem dX5_chosen_70 : decode cX5_chosen 70 = .ok (.ifCond .ne 5, 3) := by decide +kernel
theorem dX5_chosen_73 : decode cX5_chosen 73 = .ok (.iconst 0, 1) := by decide +kernel
theorem dX5_chosen_74 : decode cX5_chosen 74 = .ok (.ireturn, 1) := by decide +kernel
theorem dX5_chosen_75 : decode cX5_chosen 75 = .ok (.aload_n 0, 1) := by decide +kernel
theorem dX5_chosen_76 : decode cX5_chosen 76 = .ok (.aload_n 0, 1) := by decide +kernel
theorem dX5_chosen_77 : decode cX5_chosen 77 = .ok (.getfield 31, 3) := by decide +kernel
theorem dX5_chosen_80 : decode cX5_chosen 80 = .ok (.invokestatic 102, 3) := by decide +kernel
theorem dX5_chosen_83 : decode cX5_chosen 83 = .ok (.putfield 31, 3) := by decide +kernel
theorem dX5_chosen_86 : decode cX5_chosen 86 = .ok (.aload 4, 2) := by decide +kernel
theorem dX5_chosen_88 : decode cX5_chosen 88 = .ok (.aload_n 0, 1) := by decide +kernel
theorem dX5_chosen_89 : decode cX5_chosen 89 = .ok (.getfield 31, 3) := by decide +kernel
theorem dX5_chosen_92 : decode cX5_chosen 92 = .ok (.invokestatic 105, 3) := by decide +kernel
theorem dX5_chosen_95 : decode cX5_chosen 95 = .ok (.invokevirtual 108, 3) := by decide +kernel
theorem dX5_chosen_98 : decode cX5_chosen 98 = .ok (.ireturn, 1) := by decide +kernel
theorem dX5_sendAll_0 : decode cX5_sendAll 0 = .ok (.iconst 0, 1) := by decide +kernel
theorem dX5_sendAll_1 : decode cX5_sendAll 1 = .ok (.istore_n 3, 1) := by decide +kernel
theorem dX5_sendAll_2 : decode cX5_sendAll 2 = .ok (.iload_n 3, 1) := by decide +kernel
theorem dX5_sendAll_3 : decode cX5_sendAll 3 = .ok (.bipush 8, 2) := by decide +kernel
theorem dX5_sendAll_5 : decode cX5_sendAll 5 = .ok (.if_icmp .ge 20, 3) := by decide +kernel
theorem dX5_sendAll_8 : decode cX5_sendAll 8 = .ok (.aload_n 0, 1) := by decide +kernel
theorem dX5_sendAll_9 : decode cX5_sendAll 9 = .ok (.iload_n 2, 1) := by decide +kernel
theorem dX5_sendAll_10 : decode cX5_sendAll 10 = .ok (.aload_n 1, 1) := by decide +kernel
theorem dX5_sendAll_11 : decode cX5_sendAll 11 = .ok (.getfield 111, 3) := by decide +kernel
theorem dX5_sendAll_14 : decode cX5_sendAll 14 = .ok (.iload_n 3, 1) := by decide +kernel
theorem dX5_sendAll_15 : decode cX5_sendAll 15 = .ok (.iaload, 1) := by decide +kernel
theorem dX5_sendAll_16 : decode cX5_sendAll 16 = .ok (.invokevirtual 47, 3) := by decide +kernel
theorem dX5_sendAll_19 : decode cX5_sendAll 19 = .ok (.iinc 3 1, 3) := by decide +kernel
theorem dX5_sendAll_22 : decode cX5_sendAll 22 = .ok (.goto (-20), 3) := by decide +kernel
theorem dX5_sendAll_25 : decode cX5_sendAll 25 = .ok (.return_, 1) := by decide +kernel
theorem dX5_send_0 : decode cX5_send 0 = .ok (.iload_n 2, 1) := by decide +kernel
theorem dX5_send_1 : decode cX5_send 1 = .ok (.ifCond .eq 41, 3) := by decide +kernel
theorem dX5_send_4 : decode cX5_send 4 = .ok (.aload_n 0, 1) := by decide +kernel
theorem dX5_send_5 : decode cX5_send 5 = .ok (.getfield 15, 3) := by decide +kernel
theorem dX5_send_8 : decode cX5_send 8 = .ok (.iload_n 1, 1) := by decide +kernel
theorem dX5_send_9 : decode cX5_send 9 = .ok (.iaload, 1) := by decide +kernel
theorem dX5_send_10 : decode cX5_send 10 = .ok (.bipush 8, 2) := by decide +kernel
theorem dX5_send_12 : decode cX5_send 12 = .ok (.if_icmp .ge 30, 3) := by decide +kernel
theorem dX5_send_15 : decode cX5_send 15 = .ok (.aload_n 0, 1) := by decide +kernel
theorem dX5_send_16 : decode cX5_send 16 = .ok (.getfield 9, 3) := by decide +kernel
theorem dX5_send_19 : decode cX5_send 19 = .ok (.iload_n 1, 1) := by decide +kernel
theorem dX5_send_20 : decode cX5_send 20 = .ok (.bipush 8, 2) := by decide +kernel
theorem dX5_send_22 : decode cX5_send 22 = .ok (.imul, 1) := by decide +kernel
theorem dX5_send_23 : decode cX5_send 23 = .ok (.aload_n 0, 1) := by decide +kernel
theorem dX5_send_24 : decode cX5_send 24 = .ok (.getfield 15, 3) := by decide +kernel
theorem dX5_send_27 : decode cX5_send 27 = .ok (.iload_n 1, 1) := by decide +kernel
theorem dX5_send_28 : decode cX5_send 28 = .ok (.iaload, 1) := by decide +kernel
theorem dX5_send_29 : decode cX5_send 29 = .ok (.iadd, 1) := by decide +kernel
theorem dX5_send_30 : decode cX5_send 30 = .ok (.iload_n 2, 1) := by decide +kernel
theorem dX5_send_31 : decode cX5_send 31 = .ok (.iastore, 1) := by decide +kernel
theorem dX5_send_32 : decode cX5_send 32 = .ok (.aload_n 0, 1) := by decide +kernel
theorem dX5_send_33 : decode cX5_send 33 = .ok (.getfield 15, 3) := by decide +kernel
theorem dX5_send_36 : decode cX5_send 36 = .ok (.iload_n 1, 1) := by decide +kernel
theorem dX5_send_37 : decode cX5_send 37 = .ok (.dup2, 1) := by decide +kernel
theorem dX5_send_38 : decode cX5_send 38 = .ok (.iaload, 1) := by decide +kernel
theorem dX5_send_39 : decode cX5_send 39 = .ok (.iconst 1, 1) := by decide +kernel
theorem dX5_send_40 : decode cX5_send 40 = .ok (.iadd, 1) := by decide +kernel
theorem dX5_send_41 : decode cX5_send 41 = .ok (.iastore, 1) := by decide +kernel
theorem dX5_send_42 : decode cX5_send 42 = .ok (.return_, 1) := by decide +kernel
theorem dX5_deliver_0 : decode cX5_deliver 0 = .ok (.aload_n 1, 1) := by decide +kernel
theorem dX5_deliver_1 : decode cX5_deliver 1 = .ok (.getfield 93, 3) := by decide +kernel
theorem dX5_deliver_4 : decode cX5_deliver 4 = .ok (.aload_n 2, 1) := by decide +kernel
theorem dX5_deliver_5 : decode cX5_deliver 5 = .ok (.invokevirtual 99, 3) := by decide +kernel
theorem dX5_deliver_8 : decode cX5_deliver 8 = .ok (.isub, 1) := by decide +kernel
theorem dX5_deliver_9 : decode cX5_deliver 9 = .ok (.istore 4, 2) := by decide +kernel
theorem dX5_deliver_11 : decode cX5_deliver 11 = .ok (.iconst 0, 1) := by decide +kernel
theorem dX5_deliver_12 : decode cX5_deliver 12 = .ok (.istore 5, 2) := by decide +kernel
theorem dX5_deliver_14 : decode cX5_deliver 14 = .ok (.iconst 0, 1) := by decide +kernel
theorem dX5_deliver_15 : decode cX5_deliver 15 = .ok (.istore 6, 2) := by decide +kernel
theorem dX5_deliver_17 : decode cX5_deliver 17 = .ok (.iload 6, 2) := by decide +kernel
theorem dX5_deliver_19 : decode cX5_deliver 19 = .ok (.aload_n 1, 1) := by decide +kernel
theorem dX5_deliver_20 : decode cX5_deliver 20 = .ok (.getfield 32, 3) := by decide +kernel
theorem dX5_deliver_23 : decode cX5_deliver 23 = .ok (.if_icmp .ge 84, 3) := by decide +kernel
theorem dX5_deliver_26 : decode cX5_deliver 26 = .ok (.iload_n 3, 1) := by decide +kernel
theorem dX5_deliver_27 : decode cX5_deliver 27 = .ok (.iload 6, 2) := by decide +kernel
theorem dX5_deliver_29 : decode cX5_deliver 29 = .ok (.invokestatic 112, 3) := by decide +kernel
theorem dX5_deliver_32 : decode cX5_deliver 32 = .ok (.ifCond .eq 13, 3) := by decide +kernel
theorem dX5_deliver_35 : decode cX5_deliver 35 = .ok (.aload_n 0, 1) := by decide +kernel
theorem dX5_deliver_36 : decode cX5_deliver 36 = .ok (.getfield 15, 3) := by decide +kernel
theorem dX5_deliver_39 : decode cX5_deliver 39 = .ok (.iload 6, 2) := by decide +kernel
theorem dX5_deliver_41 : decode cX5_deliver 41 = .ok (.iaload, 1) := by decide +kernel
theorem dX5_deliver_42 : decode cX5_deliver 42 = .ok (.goto 4, 3) := by decide +kernel
theorem dX5_deliver_45 : decode cX5_deliver 45 = .ok (.iconst 0, 1) := by decide +kernel
theorem dX5_deliver_46 : decode cX5_deliver 46 = .ok (.istore 7, 2) := by decide +kernel
theorem dX5_deliver_48 : decode cX5_deliver 48 = .ok (.iconst 0, 1) := by decide +kernel
theorem dX5_deliver_49 : decode cX5_deliver 49 = .ok (.istore 8, 2) := by decide +kernel
theorem dX5_deliver_51 : decode cX5_deliver 51 = .ok (.iload 8, 2) := by decide +kernel
theorem dX5_deliver_53 : decode cX5_deliver 53 = .ok (.iload 7, 2) := by decide +kernel
theorem dX5_deliver_55 : decode cX5_deliver 55 = .ok (.if_icmp .ge 46, 3) := by decide +kernel
theorem dX5_deliver_58 : decode cX5_deliver 58 = .ok (.iload 5, 2) := by decide +kernel
theorem dX5_deliver_60 : decode cX5_deliver 60 = .ok (.iload 4, 2) := by decide +kernel
theorem dX5_deliver_62 : decode cX5_deliver 62 = .ok (.if_icmp .ge 39, 3) := by decide +kernel
theorem dX5_deliver_65 : decode cX5_deliver 65 = .ok (.iload 5, 2) := by decide +kernel
theorem dX5_deliver_67 : decode cX5_deliver 67 = .ok (.aload_n 2, 1) := by decide +kernel
theorem dX5_deliver_68 : decode cX5_deliver 68 = .ok (.aload_n 0, 1) := by decide +kernel
theorem dX5_deliver_69 : decode cX5_deliver 69 = .ok (.getfield 9, 3) := by decide +kernel
theorem dX5_deliver_72 : decode cX5_deliver 72 = .ok (.iload 6, 2) := by decide +kernel
theorem dX5_deliver_74 : decode cX5_deliver 74 = .ok (.bipush 8, 2) := by decide +kernel
theorem dX5_deliver_76 : decode cX5_deliver 76 = .ok (.imul, 1) := by decide +kernel
theorem dX5_deliver_77 : decode cX5_deliver 77 = .ok (.iload 8, 2) := by decide +kernel
theorem dX5_deliver_79 : decode cX5_deliver 79 = .ok (.iadd, 1) := by decide +kernel
theorem dX5_deliver_80 : decode cX5_deliver 80 = .ok (.iaload, 1) := by decide +kernel
theorem dX5_deliver_81 : decode cX5_deliver 81 = .ok (.invokevirtual 116, 3) := by decide +kernel
theorem dX5_deliver_84 : decode cX5_deliver 84 = .ok (.ifCond .eq 7, 3) := by decide +kernel
theorem dX5_deliver_87 : decode cX5_deliver 87 = .ok (.iconst 1, 1) := by decide +kernel
theorem dX5_deliver_88 : decode cX5_deliver 88 = .ok (.goto 4, 3) := by decide +kernel
theorem dX5_deliver_91 : decode cX5_deliver 91 = .ok (.iconst 0, 1) := by decide +kernel
theorem dX5_deliver_92 : decode cX5_deliver 92 = .ok (.iadd, 1) := by decide +kernel
theorem dX5_deliver_93 : decode cX5_deliver 93 = .ok (.istore 5, 2) := by decide +kernel
theorem dX5_deliver_95 : decode cX5_deliver 95 = .ok (.iinc 8 1, 3) := by decide +kernel
theorem dX5_deliver_98 : decode cX5_deliver 98 = .ok (.goto (-47), 3) := by decide +kernel
theorem dX5_deliver_101 : decode cX5_deliver 101 = .ok (.iinc 6 1, 3) := by decide +kernel
theorem dX5_deliver_104 : decode cX5_deliver 104 = .ok (.goto (-87), 3) := by decide +kernel
theorem dX5_deliver_107 : decode cX5_deliver 107 = .ok (.iload 5, 2) := by decide +kernel
theorem dX5_deliver_109 : decode cX5_deliver 109 = .ok (.ireturn, 1) := by decide +kernel
theorem dX6_init_0 : decode cX6_init 0 = .ok (.aload_n 0, 1) := by decide +kernel
theorem dX6_init_1 : decode cX6_init 1 = .ok (.invokespecial 3, 3) := by decide +kernel
theorem dX6_init_4 : decode cX6_init 4 = .ok (.aload_n 0, 1) := by decide +kernel
theorem dX6_init_5 : decode cX6_init 5 = .ok (.bipush 24, 2) := by decide +kernel
theorem dX6_init_7 : decode cX6_init 7 = .ok (.newarray .long, 2) := by decide +kernel
theorem dX6_init_9 : decode cX6_init 9 = .ok (.putfield 9, 3) := by decide +kernel
theorem dX6_init_12 : decode cX6_init 12 = .ok (.aload_n 0, 1) := by decide +kernel
theorem dX6_init_13 : decode cX6_init 13 = .ok (.iconst (-1), 1) := by decide +kernel
theorem dX6_init_14 : decode cX6_init 14 = .ok (.putfield 15, 3) := by decide +kernel
theorem dX6_init_17 : decode cX6_init 17 = .ok (.return_, 1) := by decide +kernel
theorem dX6_isNothing_0 : decode cX6_isNothing 0 = .ok (.aload_n 0, 1) := by decide +kernel
theorem dX6_isNothing_1 : decode cX6_isNothing 1 = .ok (.getfield 15, 3) := by decide +kernel
theorem dX6_isNothing_4 : decode cX6_isNothing 4 = .ok (.iconst (-1), 1) := by decide +kernel
theorem dX6_isNothing_5 : decode cX6_isNothing 5 = .ok (.if_icmp .ne 7, 3) := by decide +kernel
theorem dX6_isNothing_8 : decode cX6_isNothing 8 = .ok (.iconst 1, 1) := by decide +kernel
theorem dX6_isNothing_9 : decode cX6_isNothing 9 = .ok (.goto 4, 3) := by decide +kernel
theorem dX6_isNothing_12 : decode cX6_isNothing 12 = .ok (.iconst 0, 1) := by decide +kernel
theorem dX6_isNothing_13 : decode cX6_isNothing 13 = .ok (.ireturn, 1) := by decide +kernel
theorem dX6_covers_0 : decode cX6_covers 0 = .ok (.iload_n 1, 1) := by decide +kernel
theorem dX6_covers_1 : decode cX6_covers 1 = .ok (.ifCond .lt 29, 3) := by decide +kernel
theorem dX6_covers_4 : decode cX6_covers 4 = .ok (.iload_n 2, 1) := by decide +kernel
theorem dX6_covers_5 : decode cX6_covers 5 = .ok (.ifCond .lt 25, 3) := by decide +kernel
theorem dX6_covers_8 : decode cX6_covers 8 = .ok (.iload_n 2, 1) := by decide +kernel
theorem dX6_covers_9 : decode cX6_covers 9 = .ok (.aload_n 0, 1) := by decide +kernel
theorem dX6_covers_10 : decode cX6_covers 10 = .ok (.getfield 19, 3) := by decide +kernel
theorem dX6_covers_13 : decode cX6_covers 13 = .ok (.if_icmp .gt 17, 3) := by decide +kernel
theorem dX6_covers_16 : decode cX6_covers 16 = .ok (.iload_n 1, 1) := by decide +kernel
theorem dX6_covers_17 : decode cX6_covers 17 = .ok (.aload_n 0, 1) := by decide +kernel
theorem dX6_covers_18 : decode cX6_covers 18 = .ok (.getfield 19, 3) := by decide +kernel
theorem dX6_covers_21 : decode cX6_covers 21 = .ok (.iload_n 2, 1) := by decide +kernel
theorem dX6_covers_22 : decode cX6_covers 22 = .ok (.isub, 1) := by decide +kernel
theorem dX6_covers_23 : decode cX6_covers 23 = .ok (.if_icmp .gt 7, 3) := by decide +kernel
theorem dX6_covers_26 : decode cX6_covers 26 = .ok (.iconst 1, 1) := by decide +kernel
theorem dX6_covers_27 : decode cX6_covers 27 = .ok (.goto 4, 3) := by decide +kernel
theorem dX6_covers_30 : decode cX6_covers 30 = .ok (.iconst 0, 1) := by decide +kernel
theorem dX6_covers_31 : decode cX6_covers 31 = .ok (.ireturn, 1) := by decide +kernel
theorem dX6_renew_0 : decode cX6_renew 0 = .ok (.aload_n 0, 1) := by decide +kernel
theorem dX6_renew_1 : decode cX6_renew 1 = .ok (.iload_n 1, 1) := by decide +kernel
theorem dX6_renew_2 : decode cX6_renew 2 = .ok (.putfield 15, 3) := by decide +kernel
theorem dX6_renew_5 : decode cX6_renew 5 = .ok (.aload_n 0, 1) := by decide +kernel
theorem dX6_renew_6 : decode cX6_renew 6 = .ok (.iload_n 2, 1) := by decide +kernel
theorem dX6_renew_7 : decode cX6_renew 7 = .ok (.putfield 19, 3) := by decide +kernel
theorem dX6_renew_10 : decode cX6_renew 10 = .ok (.iconst 0, 1) := by decide +kernel
theorem dX6_renew_11 : decode cX6_renew 11 = .ok (.istore_n 3, 1) := by decide +kernel
theorem dX6_renew_12 : decode cX6_renew 12 = .ok (.iload_n 3, 1) := by decide +kernel
theorem dX6_renew_13 : decode cX6_renew 13 = .ok (.bipush 24, 2) := by decide +kernel
theorem dX6_renew_15 : decode cX6_renew 15 = .ok (.if_icmp .ge 16, 3) := by decide +kernel
theorem dX6_renew_18 : decode cX6_renew 18 = .ok (.aload_n 0, 1) := by decide +kernel
theorem dX6_renew_19 : decode cX6_renew 19 = .ok (.getfield 9, 3) := by decide +kernel
theorem dX6_renew_22 : decode cX6_renew 22 = .ok (.iload_n 3, 1) := by decide +kernel
theorem dX6_renew_23 : decode cX6_renew 23 = .ok (.lconst 0, 1) := by decide +kernel
theorem dX6_renew_24 : decode cX6_renew 24 = .ok (.lastore, 1) := by decide +kernel
theorem dX6_renew_25 : decode cX6_renew 25 = .ok (.iinc 3 1, 3) := by decide +kernel
theorem dX6_renew_28 : decode cX6_renew 28 = .ok (.goto (-16), 3) := by decide +kernel
theorem dX6_renew_31 : decode cX6_renew 31 = .ok (.return_, 1) := by decide +kernel
theorem dX6_lose_0 : decode cX6_lose 0 = .ok (.aload_n 0, 1) := by decide +kernel
theorem dX6_lose_1 : decode cX6_lose 1 = .ok (.iconst (-1), 1) := by decide +kernel
theorem dX6_lose_2 : decode cX6_lose 2 = .ok (.putfield 15, 3) := by decide +kernel
theorem dX6_lose_5 : decode cX6_lose 5 = .ok (.aload_n 0, 1) := by decide +kernel
theorem dX6_lose_6 : decode cX6_lose 6 = .ok (.getfield 19, 3) := by decide +kernel
theorem dX6_lose_9 : decode cX6_lose 9 = .ok (.ireturn, 1) := by decide +kernel
theorem dX6_set_0 : decode cX6_set 0 = .ok (.aload_n 0, 1) := by decide +kernel
theorem dX6_set_1 : decode cX6_set 1 = .ok (.getfield 15, 3) := by decide +kernel
theorem dX6_set_4 : decode cX6_set 4 = .ok (.tableswitch 66 0 2 #[28, 41, 54], 28) := by decide +kernel
theorem dX6_set_32 : decode cX6_set 32 = .ok (.aload_n 0, 1) := by decide +kernel
theorem dX6_set_33 : decode cX6_set 33 = .ok (.getfield 9, 3) := by decide +kernel
theorem dX6_set_36 : decode cX6_set 36 = .ok (.iload_n 1, 1) := by decide +kernel
theorem dX6_set_37 : decode cX6_set 37 = .ok (.lload_n 2, 1) := by decide +kernel
theorem dX6_set_38 : decode cX6_set 38 = .ok (.l2i, 1) := by decide +kernel
theorem dX6_set_39 : decode cX6_set 39 = .ok (.i2b, 1) := by decide +kernel
theorem dX6_set_40 : decode cX6_set 40 = .ok (.i2l, 1) := by decide +kernel
theorem dX6_set_41 : decode cX6_set 41 = .ok (.lastore, 1) := by decide +kernel
theorem dX6_set_42 : decode cX6_set 42 = .ok (.goto 35, 3) := by decide +kernel
theorem dX6_set_45 : decode cX6_set 45 = .ok (.aload_n 0, 1) := by decide +kernel
theorem dX6_set_46 : decode cX6_set 46 = .ok (.getfield 9, 3) := by decide +kernel
theorem dX6_set_49 : decode cX6_set 49 = .ok (.iload_n 1, 1) := by decide +kernel
theorem dX6_set_50 : decode cX6_set 50 = .ok (.lload_n 2, 1) := by decide +kernel
theorem dX6_set_51 : decode cX6_set 51 = .ok (.l2i, 1) := by decide +kernel
theorem dX6_set_52 : decode cX6_set 52 = .ok (.i2s, 1) := by decide +kernel
theorem dX6_set_53 : decode cX6_set 53 = .ok (.i2l, 1) := by decide +kernel
theorem dX6_set_54 : decode cX6_set 54 = .ok (.lastore, 1) := by decide +kernel
theorem dX6_set_55 : decode cX6_set 55 = .ok (.goto 22, 3) := by decide +kernel
theorem dX6_set_58 : decode cX6_set 58 = .ok (.aload_n 0, 1) := by decide +kernel
theorem dX6_set_59 : decode cX6_set 59 = .ok (.getfield 9, 3) := by decide +kernel
theorem dX6_set_62 : decode cX6_set 62 = .ok (.iload_n 1, 1) := by decide +kernel
theorem dX6_set_63 : decode cX6_set 63 = .ok (.lload_n 2, 1) := by decide +kernel
theorem dX6_set_64 : decode cX6_set 64 = .ok (.l2i, 1) := by decide +kernel
theorem dX6_set_65 : decode cX6_set 65 = .ok (.i2l, 1) := by decide +kernel
theorem dX6_set_66 : decode cX6_set 66 = .ok (.lastore, 1) := by decide +kernel
theorem dX6_set_67 : decode cX6_set 67 = .ok (.goto 10, 3) := by decide +kernel
theorem dX6_set_70 : decode cX6_set 70 = .ok (.aload_n 0, 1) := by decide +kernel
theorem dX6_set_71 : decode cX6_set 71 = .ok (.getfield 9, 3) := by decide +kernel
theorem dX6_set_74 : decode cX6_set 74 = .ok (.iload_n 1, 1) := by decide +kernel
theorem dX6_set_75 : decode cX6_set 75 = .ok (.lload_n 2, 1) := by decide +kernel
theorem dX6_set_76 : decode cX6_set 76 = .ok (.lastore, 1) := by decide +kernel
theorem dX6_set_77 : decode cX6_set 77 = .ok (.return_, 1) := by decide +kernel
theorem dX7_init_0 : decode cX7_init 0 = .ok (.aload_n 0, 1) := by decide +kernel
theorem dX7_init_1 : decode cX7_init 1 = .ok (.invokespecial 3, 3) := by decide +kernel
theorem dX7_init_4 : decode cX7_init 4 = .ok (.aload_n 0, 1) := by decide +kernel
theorem dX7_init_5 : decode cX7_init 5 = .ok (.bipush 8, 2) := by decide +kernel
theorem dX7_init_7 : decode cX7_init 7 = .ok (.newarray .int, 2) := by decide +kernel
theorem dX7_init_9 : decode cX7_init 9 = .ok (.putfield 9, 3) := by decide +kernel
theorem dX7_init_12 : decode cX7_init 12 = .ok (.return_, 1) := by decide +kernel
theorem dX7_empty_0 : decode cX7_empty 0 = .ok (.iconst 0, 1) := by decide +kernel
theorem dX7_empty_1 : decode cX7_empty 1 = .ok (.istore_n 1, 1) := by decide +kernel
theorem dX7_empty_2 : decode cX7_empty 2 = .ok (.iload_n 1, 1) := by decide +kernel
theorem dX7_empty_3 : decode cX7_empty 3 = .ok (.bipush 8, 2) := by decide +kernel
theorem dX7_empty_5 : decode cX7_empty 5 = .ok (.if_icmp .ge 16, 3) := by decide +kernel
theorem dX7_empty_8 : decode cX7_empty 8 = .ok (.aload_n 0, 1) := by decide +kernel
theorem dX7_empty_9 : decode cX7_empty 9 = .ok (.getfield 9, 3) := by decide +kernel
theorem dX7_empty_12 : decode cX7_empty 12 = .ok (.iload_n 1, 1) := by decide +kernel
theorem dX7_empty_13 : decode cX7_empty 13 = .ok (.iconst 0, 1) := by decide +kernel
theorem dX7_empty_14 : decode cX7_empty 14 = .ok (.iastore, 1) := by decide +kernel
theorem dX7_empty_15 : decode cX7_empty 15 = .ok (.iinc 1 1, 3) := by decide +kernel
theorem dX7_empty_18 : decode cX7_empty 18 = .ok (.goto (-16), 3) := by decide +kernel
theorem dX7_empty_21 : decode cX7_empty 21 = .ok (.return_, 1) := by decide +kernel
theorem dX7_take_0 : decode cX7_take 0 = .ok (.aload_n 1, 1) := by decide +kernel
theorem dX7_take_1 : decode cX7_take 1 = .ok (.getfield 9, 3) := by decide +kernel
theorem dX7_take_4 : decode cX7_take 4 = .ok (.iconst 0, 1) := by decide +kernel
theorem dX7_take_5 : decode cX7_take 5 = .ok (.aload_n 0, 1) := by decide +kernel
theorem dX7_take_6 : decode cX7_take 6 = .ok (.getfield 9, 3) := by decide +kernel
theorem dX7_take_9 : decode cX7_take 9 = .ok (.iconst 0, 1) := by decide +kernel
theorem dX7_take_10 : decode cX7_take 10 = .ok (.bipush 8, 2) := by decide +kernel
theorem dX7_take_12 : decode cX7_take 12 = .ok (.invokestatic 15, 3) := by decide +kernel
theorem dX7_take_15 : decode cX7_take 15 = .ok (.return_, 1) := by decide +kernel
theorem dX7_rank_0 : decode cX7_rank 0 = .ok (.iconst 0, 1) := by decide +kernel
theorem dX7_rank_1 : decode cX7_rank 1 = .ok (.istore_n 1, 1) := by decide +kernel
theorem dX7_rank_2 : decode cX7_rank 2 = .ok (.iconst 0, 1) := by decide +kernel
theorem dX7_rank_3 : decode cX7_rank 3 = .ok (.istore_n 2, 1) := by decide +kernel
theorem dX7_rank_4 : decode cX7_rank 4 = .ok (.iload_n 2, 1) := by decide +kernel
theorem dX7_rank_5 : decode cX7_rank 5 = .ok (.bipush 8, 2) := by decide +kernel
theorem dX7_rank_7 : decode cX7_rank 7 = .ok (.if_icmp .ge 26, 3) := by decide +kernel
theorem dX7_rank_10 : decode cX7_rank 10 = .ok (.iload_n 1, 1) := by decide +kernel
theorem dX7_rank_11 : decode cX7_rank 11 = .ok (.aload_n 0, 1) := by decide +kernel
theorem dX7_rank_12 : decode cX7_rank 12 = .ok (.getfield 9, 3) := by decide +kernel
theorem dX7_rank_15 : decode cX7_rank 15 = .ok (.iload_n 2, 1) := by decide +kernel
theorem dX7_rank_16 : decode cX7_rank 16 = .ok (.iaload, 1) := by decide +kernel
theorem dX7_rank_17 : decode cX7_rank 17 = .ok (.ifCond .ne 7, 3) := by decide +kernel
theorem dX7_rank_20 : decode cX7_rank 20 = .ok (.iconst 0, 1) := by decide +kernel
theorem dX7_rank_21 : decode cX7_rank 21 = .ok (.goto 4, 3) := by decide +kernel
theorem dX7_rank_24 : decode cX7_rank 24 = .ok (.iconst 1, 1) := by decide +kernel
theorem dX7_rank_25 : decode cX7_rank 25 = .ok (.iadd, 1) := by decide +kernel
theorem dX7_rank_26 : decode cX7_rank 26 = .ok (.istore_n 1, 1) := by decide +kernel
theorem dX7_rank_27 : decode cX7_rank 27 = .ok (.iinc 2 1, 3) := by decide +kernel
theorem dX7_rank_30 : decode cX7_rank 30 = .ok (.goto (-26), 3) := by decide +kernel
theorem dX7_rank_33 : decode cX7_rank 33 = .ok (.iload_n 1, 1) := by decide +kernel
theorem dX7_rank_34 : decode cX7_rank 34 = .ok (.ireturn, 1) := by decide +kernel
theorem dX7_rest_0 : decode cX7_rest 0 = .ok (.iload_n 1, 1) := by decide +kernel
theorem dX7_rest_1 : decode cX7_rest 1 = .ok (.istore_n 2, 1) := by decide +kernel
theorem dX7_rest_2 : decode cX7_rest 2 = .ok (.iconst 0, 1) := by decide +kernel
theorem dX7_rest_3 : decode cX7_rest 3 = .ok (.istore_n 3, 1) := by decide +kernel
theorem dX7_rest_4 : decode cX7_rest 4 = .ok (.iload_n 3, 1) := by decide +kernel
theorem dX7_rest_5 : decode cX7_rest 5 = .ok (.bipush 8, 2) := by decide +kernel
theorem dX7_rest_7 : decode cX7_rest 7 = .ok (.if_icmp .ge 26, 3) := by decide +kernel
theorem dX7_rest_10 : decode cX7_rest 10 = .ok (.iload_n 1, 1) := by decide +kernel
theorem dX7_rest_11 : decode cX7_rest 11 = .ok (.iload_n 3, 1) := by decide +kernel
theorem dX7_rest_12 : decode cX7_rest 12 = .ok (.invokestatic 21, 3) := by decide +kernel
theorem dX7_rest_15 : decode cX7_rest 15 = .ok (.ifCond .eq 12, 3) := by decide +kernel
theorem dX7_rest_18 : decode cX7_rest 18 = .ok (.iload_n 2, 1) := by decide +kernel
theorem dX7_rest_19 : decode cX7_rest 19 = .ok (.aload_n 0, 1) := by decide +kernel
theorem dX7_rest_20 : decode cX7_rest 20 = .ok (.getfield 9, 3) := by decide +kernel
theorem dX7_rest_23 : decode cX7_rest 23 = .ok (.iload_n 3, 1) := by decide +kernel
theorem dX7_rest_24 : decode cX7_rest 24 = .ok (.iaload, 1) := by decide +kernel
theorem dX7_rest_25 : decode cX7_rest 25 = .ok (.ixor, 1) := by decide +kernel
theorem dX7_rest_26 : decode cX7_rest 26 = .ok (.istore_n 2, 1) := by decide +kernel
theorem dX7_rest_27 : decode cX7_rest 27 = .ok (.iinc 3 1, 3) := by decide +kernel
theorem dX7_rest_30 : decode cX7_rest 30 = .ok (.goto (-26), 3) := by decide +kernel
theorem dX7_rest_33 : decode cX7_rest 33 = .ok (.iload_n 2, 1) := by decide +kernel
theorem dX7_rest_34 : decode cX7_rest 34 = .ok (.ireturn, 1) := by decide +kernel
theorem dX7_add_0 : decode cX7_add 0 = .ok (.aload_n 0, 1) := by decide +kernel
theorem dX7_add_1 : decode cX7_add 1 = .ok (.iload_n 1, 1) := by decide +kernel
theorem dX7_add_2 : decode cX7_add 2 = .ok (.invokevirtual 25, 3) := by decide +kernel
theorem dX7_add_5 : decode cX7_add 5 = .ok (.istore_n 2, 1) := by decide +kernel
theorem dX7_add_6 : decode cX7_add 6 = .ok (.iload_n 2, 1) := by decide +kernel
theorem dX7_add_7 : decode cX7_add 7 = .ok (.invokestatic 29, 3) := by decide +kernel
theorem dX7_add_10 : decode cX7_add 10 = .ok (.istore_n 3, 1) := by decide +kernel
theorem dX7_add_11 : decode cX7_add 11 = .ok (.iload_n 3, 1) := by decide +kernel
theorem dX7_add_12 : decode cX7_add 12 = .ok (.ifCond .ge 5, 3) := by decide +kernel
theorem dX7_add_15 : decode cX7_add 15 = .ok (.iconst 0, 1) := by decide +kernel
theorem dX7_add_16 : decode cX7_add 16 = .ok (.ireturn, 1) := by decide +kernel
theorem dX7_add_17 : decode cX7_add 17 = .ok (.iconst 0, 1) := by decide +kernel
theorem dX7_add_18 : decode cX7_add 18 = .ok (.istore 4, 2) := by decide +kernel
theorem dX7_add_20 : decode cX7_add 20 = .ok (.iload 4, 2) := by decide +kernel
theorem dX7_add_22 : decode cX7_add 22 = .ok (.bipush 8, 2) := by decide +kernel
theorem dX7_add_24 : decode cX7_add 24 = .ok (.if_icmp .ge 34, 3) := by decide +kernel
theorem dX7_add_27 : decode cX7_add 27 = .ok (.aload_n 0, 1) := by decide +kernel
theorem dX7_add_28 : decode cX7_add 28 = .ok (.getfield 9, 3) := by decide +kernel
theorem dX7_add_31 : decode cX7_add 31 = .ok (.iload 4, 2) := by decide +kernel
theorem dX7_add_33 : decode cX7_add 33 = .ok (.iaload, 1) := by decide +kernel
theorem dX7_add_34 : decode cX7_add 34 = .ok (.iload_n 3, 1) := by decide +kernel
theorem dX7_add_35 : decode cX7_add 35 = .ok (.invokestatic 21, 3) := by decide +kernel
theorem dX7_add_38 : decode cX7_add 38 = .ok (.ifCond .eq 14, 3) := by decide +kernel
theorem dX7_add_41 : decode cX7_add 41 = .ok (.aload_n 0, 1) := by decide +kernel
theorem dX7_add_42 : decode cX7_add 42 = .ok (.getfield 9, 3) := by decide +kernel
theorem dX7_add_45 : decode cX7_add 45 = .ok (.iload 4, 2) := by decide +kernel
theorem dX7_add_47 : decode cX7_add 47 = .ok (.dup2, 1) := by decide +kernel
theorem dX7_add_48 : decode cX7_add 48 = .ok (.iaload, 1) := by decide +kernel
theorem dX7_add_49 : decode cX7_add 49 = .ok (.iload_n 2, 1) := by decide +kernel
theorem dX7_add_50 : decode cX7_add 50 = .ok (.ixor, 1) := by decide +kernel
theorem dX7_add_51 : decode cX7_add 51 = .ok (.iastore, 1) := by decide +kernel
theorem dX7_add_52 : decode cX7_add 52 = .ok (.iinc 4 1, 3) := by decide +kernel
theorem dX7_add_55 : decode cX7_add 55 = .ok (.goto (-35), 3) := by decide +kernel
theorem dX7_add_58 : decode cX7_add 58 = .ok (.aload_n 0, 1) := by decide +kernel
theorem dX7_add_59 : decode cX7_add 59 = .ok (.getfield 9, 3) := by decide +kernel
theorem dX7_add_62 : decode cX7_add 62 = .ok (.iload_n 3, 1) := by decide +kernel
theorem dX7_add_63 : decode cX7_add 63 = .ok (.iload_n 2, 1) := by decide +kernel
theorem dX7_add_64 : decode cX7_add 64 = .ok (.iastore, 1) := by decide +kernel
theorem dX7_add_65 : decode cX7_add 65 = .ok (.iconst 1, 1) := by decide +kernel
theorem dX7_add_66 : decode cX7_add 66 = .ok (.ireturn, 1) := by decide +kernel
theorem dX7_row_0 : decode cX7_row 0 = .ok (.iload_n 1, 1) := by decide +kernel
theorem dX7_row_1 : decode cX7_row 1 = .ok (.istore_n 2, 1) := by decide +kernel
theorem dX7_row_2 : decode cX7_row 2 = .ok (.bipush 7, 2) := by decide +kernel
theorem dX7_row_4 : decode cX7_row 4 = .ok (.istore_n 3, 1) := by decide +kernel
theorem dX7_row_5 : decode cX7_row 5 = .ok (.iload_n 3, 1) := by decide +kernel
theorem dX7_row_6 : decode cX7_row 6 = .ok (.ifCond .lt 32, 3) := by decide +kernel
theorem dX7_row_9 : decode cX7_row 9 = .ok (.aload_n 0, 1) := by decide +kernel
theorem dX7_row_10 : decode cX7_row 10 = .ok (.getfield 9, 3) := by decide +kernel
theorem dX7_row_13 : decode cX7_row 13 = .ok (.iload_n 3, 1) := by decide +kernel
theorem dX7_row_14 : decode cX7_row 14 = .ok (.iaload, 1) := by decide +kernel
theorem dX7_row_15 : decode cX7_row 15 = .ok (.ifCond .eq 17, 3) := by decide +kernel
theorem dX7_row_18 : decode cX7_row 18 = .ok (.iload_n 2, 1) := by decide +kernel
theorem dX7_row_19 : decode cX7_row 19 = .ok (.iinc 2 (-1), 3) := by decide +kernel
theorem dX7_row_22 : decode cX7_row 22 = .ok (.ifCond .ne 10, 3) := by decide +kernel
theorem dX7_row_25 : decode cX7_row 25 = .ok (.aload_n 0, 1) := by decide +kernel
theorem dX7_row_26 : decode cX7_row 26 = .ok (.getfield 9, 3) := by decide +kernel
theorem dX7_row_29 : decode cX7_row 29 = .ok (.iload_n 3, 1) := by decide +kernel
theorem dX7_row_30 : decode cX7_row 30 = .ok (.iaload, 1) := by decide +kernel
theorem dX7_row_31 : decode cX7_row 31 = .ok (.ireturn, 1) := by decide +kernel
theorem dX7_row_32 : decode cX7_row 32 = .ok (.iinc 3 (-1), 3) := by decide +kernel
theorem dX7_row_35 : decode cX7_row 35 = .ok (.goto (-30), 3) := by decide +kernel
theorem dX7_row_38 : decode cX7_row 38 = .ok (.iconst 0, 1) := by decide +kernel
theorem dX7_row_39 : decode cX7_row 39 = .ok (.ireturn, 1) := by decide +kernel
theorem dX7_mixed_0 : decode cX7_mixed 0 = .ok (.iconst 0, 1) := by decide +kernel
theorem dX7_mixed_1 : decode cX7_mixed 1 = .ok (.istore_n 2, 1) := by decide +kernel
theorem dX7_mixed_2 : decode cX7_mixed 2 = .ok (.iload_n 1, 1) := by decide +kernel
theorem dX7_mixed_3 : decode cX7_mixed 3 = .ok (.istore_n 3, 1) := by decide +kernel
theorem dX7_mixed_4 : decode cX7_mixed 4 = .ok (.bipush 7, 2) := by decide +kernel
theorem dX7_mixed_6 : decode cX7_mixed 6 = .ok (.istore 4, 2) := by decide +kernel
theorem dX7_mixed_8 : decode cX7_mixed 8 = .ok (.iload 4, 2) := by decide +kernel
theorem dX7_mixed_10 : decode cX7_mixed 10 = .ok (.ifCond .lt 45, 3) := by decide +kernel
theorem dX7_mixed_13 : decode cX7_mixed 13 = .ok (.aload_n 0, 1) := by decide +kernel
theorem dX7_mixed_14 : decode cX7_mixed 14 = .ok (.getfield 9, 3) := by decide +kernel
theorem dX7_mixed_17 : decode cX7_mixed 17 = .ok (.iload 4, 2) := by decide +kernel
theorem dX7_mixed_19 : decode cX7_mixed 19 = .ok (.iaload, 1) := by decide +kernel
theorem dX7_mixed_20 : decode cX7_mixed 20 = .ok (.ifCond .eq 29, 3) := by decide +kernel
theorem dX7_mixed_23 : decode cX7_mixed 23 = .ok (.iload_n 2, 1) := by decide +kernel
theorem dX7_mixed_24 : decode cX7_mixed 24 = .ok (.iload_n 3, 1) := by decide +kernel
theorem dX7_mixed_25 : decode cX7_mixed 25 = .ok (.iconst 0, 1) := by decide +kernel
theorem dX7_mixed_26 : decode cX7_mixed 26 = .ok (.invokestatic 21, 3) := by decide +kernel
theorem dX7_mixed_29 : decode cX7_mixed 29 = .ok (.ifCond .eq 13, 3) := by decide +kernel
theorem dX7_mixed_32 : decode cX7_mixed 32 = .ok (.aload_n 0, 1) := by decide +kernel
theorem dX7_mixed_33 : decode cX7_mixed 33 = .ok (.getfield 9, 3) := by decide +kernel
theorem dX7_mixed_36 : decode cX7_mixed 36 = .ok (.iload 4, 2) := by decide +kernel
theorem dX7_mixed_38 : decode cX7_mixed 38 = .ok (.iaload, 1) := by decide +kernel
theorem dX7_mixed_39 : decode cX7_mixed 39 = .ok (.goto 4, 3) := by decide +kernel
theorem dX7_mixed_42 : decode cX7_mixed 42 = .ok (.iconst 0, 1) := by decide +kernel
theorem dX7_mixed_43 : decode cX7_mixed 43 = .ok (.ixor, 1) := by decide +kernel
theorem dX7_mixed_44 : decode cX7_mixed 44 = .ok (.istore_n 2, 1) := by decide +kernel
theorem dX7_mixed_45 : decode cX7_mixed 45 = .ok (.iload_n 3, 1) := by decide +kernel
theorem dX7_mixed_46 : decode cX7_mixed 46 = .ok (.iconst 1, 1) := by decide +kernel
theorem dX7_mixed_47 : decode cX7_mixed 47 = .ok (.ishr, 1) := by decide +kernel
theorem dX7_mixed_48 : decode cX7_mixed 48 = .ok (.istore_n 3, 1) := by decide +kernel
theorem dX7_mixed_49 : decode cX7_mixed 49 = .ok (.iinc 4 (-1), 3) := by decide +kernel
theorem dX7_mixed_52 : decode cX7_mixed 52 = .ok (.goto (-44), 3) := by decide +kernel
theorem dX7_mixed_55 : decode cX7_mixed 55 = .ok (.iload_n 2, 1) := by decide +kernel
theorem dX7_mixed_56 : decode cX7_mixed 56 = .ok (.ireturn, 1) := by decide +kernel
theorem dX7_told_0 : decode cX7_told 0 = .ok (.iconst 0, 1) := by decide +kernel
theorem dX7_told_1 : decode cX7_told 1 = .ok (.istore_n 1, 1) := by decide +kernel
theorem dX7_told_2 : decode cX7_told 2 = .ok (.iconst 0, 1) := by decide +kernel
theorem dX7_told_3 : decode cX7_told 3 = .ok (.istore_n 2, 1) := by decide +kernel
theorem dX7_told_4 : decode cX7_told 4 = .ok (.iload_n 2, 1) := by decide +kernel
theorem dX7_told_5 : decode cX7_told 5 = .ok (.bipush 8, 2) := by decide +kernel
theorem dX7_told_7 : decode cX7_told 7 = .ok (.if_icmp .ge 30, 3) := by decide +kernel
theorem dX7_told_10 : decode cX7_told 10 = .ok (.aload_n 0, 1) := by decide +kernel
theorem dX7_told_11 : decode cX7_told 11 = .ok (.getfield 9, 3) := by decide +kernel
theorem dX7_told_14 : decode cX7_told 14 = .ok (.iload_n 2, 1) := by decide +kernel
theorem dX7_told_15 : decode cX7_told 15 = .ok (.iaload, 1) := by decide +kernel
theorem dX7_told_16 : decode cX7_told 16 = .ok (.iconst 1, 1) := by decide +kernel
theorem dX7_told_17 : decode cX7_told 17 = .ok (.iload_n 2, 1) := by decide +kernel
theorem dX7_told_18 : decode cX7_told 18 = .ok (.ishl, 1) := by decide +kernel
theorem dX7_told_19 : decode cX7_told 19 = .ok (.if_icmp .ne 12, 3) := by decide +kernel
theorem dX7_told_22 : decode cX7_told 22 = .ok (.iload_n 1, 1) := by decide +kernel
theorem dX7_told_23 : decode cX7_told 23 = .ok (.aload_n 0, 1) := by decide +kernel
theorem dX7_told_24 : decode cX7_told 24 = .ok (.getfield 9, 3) := by decide +kernel
theorem dX7_told_27 : decode cX7_told 27 = .ok (.iload_n 2, 1) := by decide +kernel
theorem dX7_told_28 : decode cX7_told 28 = .ok (.iaload, 1) := by decide +kernel
theorem dX7_told_29 : decode cX7_told 29 = .ok (.ior, 1) := by decide +kernel
theorem dX7_told_30 : decode cX7_told 30 = .ok (.istore_n 1, 1) := by decide +kernel
theorem dX7_told_31 : decode cX7_told 31 = .ok (.iinc 2 1, 3) := by decide +kernel
theorem dX7_told_34 : decode cX7_told 34 = .ok (.goto (-30), 3) := by decide +kernel
theorem dX7_told_37 : decode cX7_told 37 = .ok (.iload_n 1, 1) := by decide +kernel
theorem dX7_told_38 : decode cX7_told 38 = .ok (.ireturn, 1) := by decide +kernel
theorem dX7_greatest_0 : decode cX7_greatest 0 = .ok (.bipush 7, 2) := by decide +kernel
theorem dX7_greatest_2 : decode cX7_greatest 2 = .ok (.istore_n 1, 1) := by decide +kernel
theorem dX7_greatest_3 : decode cX7_greatest 3 = .ok (.iload_n 1, 1) := by decide +kernel
theorem dX7_greatest_4 : decode cX7_greatest 4 = .ok (.ifCond .lt 19, 3) := by decide +kernel
theorem dX7_greatest_7 : decode cX7_greatest 7 = .ok (.iload_n 0, 1) := by decide +kernel
theorem dX7_greatest_8 : decode cX7_greatest 8 = .ok (.iload_n 1, 1) := by decide +kernel
theorem dX7_greatest_9 : decode cX7_greatest 9 = .ok (.invokestatic 21, 3) := by decide +kernel
theorem dX7_greatest_12 : decode cX7_greatest 12 = .ok (.ifCond .eq 5, 3) := by decide +kernel
theorem dX7_greatest_15 : decode cX7_greatest 15 = .ok (.iload_n 1, 1) := by decide +kernel
theorem dX7_greatest_16 : decode cX7_greatest 16 = .ok (.ireturn, 1) := by decide +kernel
theorem dX7_greatest_17 : decode cX7_greatest 17 = .ok (.iinc 1 (-1), 3) := by decide +kernel
theorem dX7_greatest_20 : decode cX7_greatest 20 = .ok (.goto (-17), 3) := by decide +kernel
theorem dX7_greatest_23 : decode cX7_greatest 23 = .ok (.iconst (-1), 1) := by decide +kernel
theorem dX7_greatest_24 : decode cX7_greatest 24 = .ok (.ireturn, 1) := by decide +kernel
theorem dX8_init_0 : decode cX8_init 0 = .ok (.aload_n 0, 1) := by decide +kernel
theorem dX8_init_1 : decode cX8_init 1 = .ok (.invokespecial 3, 3) := by decide +kernel
theorem dX8_init_4 : decode cX8_init 4 = .ok (.aload_n 0, 1) := by decide +kernel
theorem dX8_init_5 : decode cX8_init 5 = .ok (.bipush 90, 2) := by decide +kernel
theorem dX8_init_7 : decode cX8_init 7 = .ok (.newarray .char, 2) := by decide +kernel
theorem dX8_init_9 : decode cX8_init 9 = .ok (.putfield 9, 3) := by decide +kernel
theorem dX8_init_12 : decode cX8_init 12 = .ok (.aload_n 0, 1) := by decide +kernel
theorem dX8_init_13 : decode cX8_init 13 = .ok (.new 15, 3) := by decide +kernel
theorem dX8_init_16 : decode cX8_init 16 = .ok (.dup, 1) := by decide +kernel
theorem dX8_init_17 : decode cX8_init 17 = .ok (.invokespecial 17, 3) := by decide +kernel
theorem dX8_init_20 : decode cX8_init 20 = .ok (.putfield 18, 3) := by decide +kernel
theorem dX8_init_23 : decode cX8_init 23 = .ok (.return_, 1) := by decide +kernel
theorem dX8_append_0 : decode cX8_append 0 = .ok (.aload_n 0, 1) := by decide +kernel
theorem dX8_append_1 : decode cX8_append 1 = .ok (.getfield 22, 3) := by decide +kernel
theorem dX8_append_4 : decode cX8_append 4 = .ok (.ifCond .lt 12, 3) := by decide +kernel
theorem dX8_append_7 : decode cX8_append 7 = .ok (.aload_n 0, 1) := by decide +kernel
theorem dX8_append_8 : decode cX8_append 8 = .ok (.getfield 22, 3) := by decide +kernel
theorem dX8_append_11 : decode cX8_append 11 = .ok (.bipush 90, 2) := by decide +kernel
theorem dX8_append_13 : decode cX8_append 13 = .ok (.if_icmp .lt 5, 3) := by decide +kernel
theorem dX8_append_16 : decode cX8_append 16 = .ok (.iconst 0, 1) := by decide +kernel
theorem dX8_append_17 : decode cX8_append 17 = .ok (.ireturn, 1) := by decide +kernel
theorem dX8_append_18 : decode cX8_append 18 = .ok (.aload_n 0, 1) := by decide +kernel
theorem dX8_append_19 : decode cX8_append 19 = .ok (.getfield 9, 3) := by decide +kernel
theorem dX8_append_22 : decode cX8_append 22 = .ok (.aload_n 0, 1) := by decide +kernel
theorem dX8_append_23 : decode cX8_append 23 = .ok (.getfield 22, 3) := by decide +kernel
theorem dX8_append_26 : decode cX8_append 26 = .ok (.iload_n 1, 1) := by decide +kernel
theorem dX8_append_27 : decode cX8_append 27 = .ok (.castore, 1) := by decide +kernel
theorem dX8_append_28 : decode cX8_append 28 = .ok (.aload_n 0, 1) := by decide +kernel
theorem dX8_append_29 : decode cX8_append 29 = .ok (.dup, 1) := by decide +kernel
theorem dX8_append_30 : decode cX8_append 30 = .ok (.getfield 22, 3) := by decide +kernel
theorem dX8_append_33 : decode cX8_append 33 = .ok (.iconst 1, 1) := by decide +kernel
theorem dX8_append_34 : decode cX8_append 34 = .ok (.iadd, 1) := by decide +kernel
theorem dX8_append_35 : decode cX8_append 35 = .ok (.putfield 22, 3) := by decide +kernel
theorem dX8_append_38 : decode cX8_append 38 = .ok (.iconst 1, 1) := by decide +kernel
theorem dX8_append_39 : decode cX8_append 39 = .ok (.ireturn, 1) := by decide +kernel
theorem dX8_empty_0 : decode cX8_empty 0 = .ok (.aload_n 0, 1) := by decide +kernel
theorem dX8_empty_1 : decode cX8_empty 1 = .ok (.iconst 0, 1) := by decide +kernel
theorem dX8_empty_2 : decode cX8_empty 2 = .ok (.putfield 22, 3) := by decide +kernel
theorem dX8_empty_5 : decode cX8_empty 5 = .ok (.return_, 1) := by decide +kernel
theorem dX8_parse_0 : decode cX8_parse 0 = .ok (.aload_n 0, 1) := by decide +kernel
theorem dX8_parse_1 : decode cX8_parse 1 = .ok (.iload_n 1, 1) := by decide +kernel
theorem dX8_parse_2 : decode cX8_parse 2 = .ok (.putfield 26, 3) := by decide +kernel
theorem dX8_parse_5 : decode cX8_parse 5 = .ok (.aload_n 0, 1) := by decide +kernel
theorem dX8_parse_6 : decode cX8_parse 6 = .ok (.iconst 0, 1) := by decide +kernel
theorem dX8_parse_7 : decode cX8_parse 7 = .ok (.putfield 29, 3) := by decide +kernel
theorem dX8_parse_10 : decode cX8_parse 10 = .ok (.iconst 0, 1) := by decide +kernel
theorem dX8_parse_11 : decode cX8_parse 11 = .ok (.istore_n 2, 1) := by decide +kernel
theorem dX8_parse_12 : decode cX8_parse 12 = .ok (.iload_n 2, 1) := by decide +kernel
theorem dX8_parse_13 : decode cX8_parse 13 = .ok (.bipush 8, 2) := by decide +kernel
theorem dX8_parse_15 : decode cX8_parse 15 = .ok (.if_icmp .ge 75, 3) := by decide +kernel
theorem dX8_parse_18 : decode cX8_parse 18 = .ok (.aload_n 0, 1) := by decide +kernel
theorem dX8_parse_19 : decode cX8_parse 19 = .ok (.getfield 18, 3) := by decide +kernel
theorem dX8_parse_22 : decode cX8_parse 22 = .ok (.iload_n 2, 1) := by decide +kernel
theorem dX8_parse_23 : decode cX8_parse 23 = .ok (.invokevirtual 32, 3) := by decide +kernel
theorem dX8_parse_26 : decode cX8_parse 26 = .ok (.aload_n 0, 1) := by decide +kernel
theorem dX8_parse_27 : decode cX8_parse 27 = .ok (.iload_n 2, 1) := by decide +kernel
theorem dX8_parse_28 : decode cX8_parse 28 = .ok (.invokevirtual 36, 3) := by decide +kernel
theorem dX8_parse_31 : decode cX8_parse 31 = .ok (.ifCond .ne 11, 3) := by decide +kernel
theorem dX8_parse_34 : decode cX8_parse 34 = .ok (.bipush (-20), 2) := by decide +kernel
theorem dX8_parse_36 : decode cX8_parse 36 = .ok (.aload_n 0, 1) := by decide +kernel
theorem dX8_parse_37 : decode cX8_parse 37 = .ok (.getfield 29, 3) := by decide +kernel
theorem dX8_parse_40 : decode cX8_parse 40 = .ok (.isub, 1) := by decide +kernel
theorem dX8_parse_41 : decode cX8_parse 41 = .ok (.ireturn, 1) := by decide +kernel
theorem dX8_parse_42 : decode cX8_parse 42 = .ok (.aload_n 0, 1) := by decide +kernel
theorem dX8_parse_43 : decode cX8_parse 43 = .ok (.invokevirtual 40, 3) := by decide +kernel
theorem dX8_parse_46 : decode cX8_parse 46 = .ok (.istore_n 3, 1) := by decide +kernel
theorem dX8_parse_47 : decode cX8_parse 47 = .ok (.iload_n 3, 1) := by decide +kernel
theorem dX8_parse_48 : decode cX8_parse 48 = .ok (.iconst (-1), 1) := by decide +kernel
theorem dX8_parse_49 : decode cX8_parse 49 = .ok (.if_icmp .ne 11, 3) := by decide +kernel
theorem dX8_parse_52 : decode cX8_parse 52 = .ok (.aload_n 0, 1) := by decide +kernel
theorem dX8_parse_53 : decode cX8_parse 53 = .ok (.getfield 18, 3) := by decide +kernel
theorem dX8_parse_56 : decode cX8_parse 56 = .ok (.getfield 44, 3) := by decide +kernel
theorem dX8_parse_59 : decode cX8_parse 59 = .ok (.ireturn, 1) := by decide +kernel
theorem dX8_parse_60 : decode cX8_parse 60 = .ok (.iload_n 3, 1) := by decide +kernel
theorem dX8_parse_61 : decode cX8_parse 61 = .ok (.bipush 59, 2) := by decide +kernel
theorem dX8_parse_63 : decode cX8_parse 63 = .ok (.if_icmp .eq 11, 3) := by decide +kernel
theorem dX8_parse_66 : decode cX8_parse 66 = .ok (.bipush (-20), 2) := by decide +kernel
theorem dX8_parse_68 : decode cX8_parse 68 = .ok (.aload_n 0, 1) := by decide +kernel
theorem dX8_parse_69 : decode cX8_parse 69 = .ok (.getfield 29, 3) := by decide +kernel
theorem dX8_parse_72 : decode cX8_parse 72 = .ok (.isub, 1) := by decide +kernel
theorem dX8_parse_73 : decode cX8_parse 73 = .ok (.ireturn, 1) := by decide +kernel
theorem dX8_parse_74 : decode cX8_parse 74 = .ok (.aload_n 0, 1) := by decide +kernel
theorem dX8_parse_75 : decode cX8_parse 75 = .ok (.dup, 1) := by decide +kernel
theorem dX8_parse_76 : decode cX8_parse 76 = .ok (.getfield 29, 3) := by decide +kernel
theorem dX8_parse_79 : decode cX8_parse 79 = .ok (.iconst 1, 1) := by decide +kernel
theorem dX8_parse_80 : decode cX8_parse 80 = .ok (.iadd, 1) := by decide +kernel
theorem dX8_parse_81 : decode cX8_parse 81 = .ok (.putfield 29, 3) := by decide +kernel
theorem dX8_parse_84 : decode cX8_parse 84 = .ok (.iinc 2 1, 3) := by decide +kernel
theorem dX8_parse_87 : decode cX8_parse 87 = .ok (.goto (-75), 3) := by decide +kernel
theorem dX8_parse_90 : decode cX8_parse 90 = .ok (.aload_n 0, 1) := by decide +kernel
theorem dX8_parse_91 : decode cX8_parse 91 = .ok (.invokevirtual 40, 3) := by decide +kernel
theorem dX8_parse_94 : decode cX8_parse 94 = .ok (.pop, 1) := by decide +kernel
theorem dX8_parse_95 : decode cX8_parse 95 = .ok (.bipush (-20), 2) := by decide +kernel
theorem dX8_parse_97 : decode cX8_parse 97 = .ok (.aload_n 0, 1) := by decide +kernel
theorem dX8_parse_98 : decode cX8_parse 98 = .ok (.getfield 29, 3) := by decide +kernel
theorem dX8_parse_101 : decode cX8_parse 101 = .ok (.isub, 1) := by decide +kernel
theorem dX8_parse_102 : decode cX8_parse 102 = .ok (.ireturn, 1) := by decide +kernel
theorem dX8_ahead_0 : decode cX8_ahead 0 = .ok (.aload_n 0, 1) := by decide +kernel
theorem dX8_ahead_1 : decode cX8_ahead 1 = .ok (.getfield 29, 3) := by decide +kernel
theorem dX8_ahead_4 : decode cX8_ahead 4 = .ok (.aload_n 0, 1) := by decide +kernel
theorem dX8_ahead_5 : decode cX8_ahead 5 = .ok (.getfield 22, 3) := by decide +kernel
theorem dX8_ahead_8 : decode cX8_ahead 8 = .ok (.if_icmp .ge 30, 3) := by decide +kernel
theorem dX8_ahead_11 : decode cX8_ahead 11 = .ok (.aload_n 0, 1) := by decide +kernel
theorem dX8_ahead_12 : decode cX8_ahead 12 = .ok (.getfield 9, 3) := by decide +kernel
theorem dX8_ahead_15 : decode cX8_ahead 15 = .ok (.aload_n 0, 1) := by decide +kernel
theorem dX8_ahead_16 : decode cX8_ahead 16 = .ok (.getfield 29, 3) := by decide +kernel
theorem dX8_ahead_19 : decode cX8_ahead 19 = .ok (.caload, 1) := by decide +kernel
theorem dX8_ahead_20 : decode cX8_ahead 20 = .ok (.bipush 32, 2) := by decide +kernel
theorem dX8_ahead_22 : decode cX8_ahead 22 = .ok (.if_icmp .ne 16, 3) := by decide +kernel
theorem dX8_ahead_25 : decode cX8_ahead 25 = .ok (.aload_n 0, 1) := by decide +kernel
theorem dX8_ahead_26 : decode cX8_ahead 26 = .ok (.dup, 1) := by decide +kernel
theorem dX8_ahead_27 : decode cX8_ahead 27 = .ok (.getfield 29, 3) := by decide +kernel
theorem dX8_ahead_30 : decode cX8_ahead 30 = .ok (.iconst 1, 1) := by decide +kernel
theorem dX8_ahead_31 : decode cX8_ahead 31 = .ok (.iadd, 1) := by decide +kernel
theorem dX8_ahead_32 : decode cX8_ahead 32 = .ok (.putfield 29, 3) := by decide +kernel
theorem dX8_ahead_35 : decode cX8_ahead 35 = .ok (.goto (-35), 3) := by decide +kernel
theorem dX8_ahead_38 : decode cX8_ahead 38 = .ok (.aload_n 0, 1) := by decide +kernel
theorem dX8_ahead_39 : decode cX8_ahead 39 = .ok (.getfield 29, 3) := by decide +kernel
theorem dX8_ahead_42 : decode cX8_ahead 42 = .ok (.aload_n 0, 1) := by decide +kernel
theorem dX8_ahead_43 : decode cX8_ahead 43 = .ok (.getfield 22, 3) := by decide +kernel
theorem dX8_ahead_46 : decode cX8_ahead 46 = .ok (.if_icmp .ge 15, 3) := by decide +kernel
theorem dX8_ahead_49 : decode cX8_ahead 49 = .ok (.aload_n 0, 1) := by decide +kernel
theorem dX8_ahead_50 : decode cX8_ahead 50 = .ok (.getfield 9, 3) := by decide +kernel
theorem dX8_ahead_53 : decode cX8_ahead 53 = .ok (.aload_n 0, 1) := by decide +kernel
theorem dX8_ahead_54 : decode cX8_ahead 54 = .ok (.getfield 29, 3) := by decide +kernel
theorem dX8_ahead_57 : decode cX8_ahead 57 = .ok (.caload, 1) := by decide +kernel
theorem dX8_ahead_58 : decode cX8_ahead 58 = .ok (.goto 4, 3) := by decide +kernel
theorem dX8_ahead_61 : decode cX8_ahead 61 = .ok (.iconst (-1), 1) := by decide +kernel
theorem dX8_ahead_62 : decode cX8_ahead 62 = .ok (.ireturn, 1) := by decide +kernel
theorem dX8_isNet_0 : decode cX8_isNet 0 = .ok (.aload_n 0, 1) := by decide +kernel
theorem dX8_isNet_1 : decode cX8_isNet 1 = .ok (.invokevirtual 40, 3) := by decide +kernel
theorem dX8_isNet_4 : decode cX8_isNet 4 = .ok (.pop, 1) := by decide +kernel
theorem dX8_isNet_5 : decode cX8_isNet 5 = .ok (.aload_n 0, 1) := by decide +kernel
theorem dX8_isNet_6 : decode cX8_isNet 6 = .ok (.getfield 29, 3) := by decide +kernel
theorem dX8_isNet_9 : decode cX8_isNet 9 = .ok (.istore_n 2, 1) := by decide +kernel
theorem dX8_isNet_10 : decode cX8_isNet 10 = .ok (.aload_n 0, 1) := by decide +kernel
theorem dX8_isNet_11 : decode cX8_isNet 11 = .ok (.getfield 29, 3) := by decide +kernel
theorem dX8_isNet_14 : decode cX8_isNet 14 = .ok (.aload_n 0, 1) := by decide +kernel
theorem dX8_isNet_15 : decode cX8_isNet 15 = .ok (.getfield 22, 3) := by decide +kernel
theorem dX8_isNet_18 : decode cX8_isNet 18 = .ok (.if_icmp .ge 44, 3) := by decide +kernel
theorem dX8_isNet_21 : decode cX8_isNet 21 = .ok (.aload_n 0, 1) := by decide +kernel
theorem dX8_isNet_22 : decode cX8_isNet 22 = .ok (.getfield 9, 3) := by decide +kernel
theorem dX8_isNet_25 : decode cX8_isNet 25 = .ok (.aload_n 0, 1) := by decide +kernel
theorem dX8_isNet_26 : decode cX8_isNet 26 = .ok (.getfield 29, 3) := by decide +kernel
theorem dX8_isNet_29 : decode cX8_isNet 29 = .ok (.caload, 1) := by decide +kernel
theorem dX8_isNet_30 : decode cX8_isNet 30 = .ok (.bipush 97, 2) := by decide +kernel
theorem dX8_isNet_32 : decode cX8_isNet 32 = .ok (.if_icmp .lt 30, 3) := by decide +kernel
theorem dX8_isNet_35 : decode cX8_isNet 35 = .ok (.aload_n 0, 1) := by decide +kernel
theorem dX8_isNet_36 : decode cX8_isNet 36 = .ok (.getfield 9, 3) := by decide +kernel
theorem dX8_isNet_39 : decode cX8_isNet 39 = .ok (.aload_n 0, 1) := by decide +kernel
theorem dX8_isNet_40 : decode cX8_isNet 40 = .ok (.getfield 29, 3) := by decide +kernel
theorem dX8_isNet_43 : decode cX8_isNet 43 = .ok (.caload, 1) := by decide +kernel
theorem dX8_isNet_44 : decode cX8_isNet 44 = .ok (.bipush 122, 2) := by decide +kernel
theorem dX8_isNet_46 : decode cX8_isNet 46 = .ok (.if_icmp .gt 16, 3) := by decide +kernel
theorem dX8_isNet_49 : decode cX8_isNet 49 = .ok (.aload_n 0, 1) := by decide +kernel
theorem dX8_isNet_50 : decode cX8_isNet 50 = .ok (.dup, 1) := by decide +kernel
theorem dX8_isNet_51 : decode cX8_isNet 51 = .ok (.getfield 29, 3) := by decide +kernel
theorem dX8_isNet_54 : decode cX8_isNet 54 = .ok (.iconst 1, 1) := by decide +kernel
theorem dX8_isNet_55 : decode cX8_isNet 55 = .ok (.iadd, 1) := by decide +kernel
theorem dX8_isNet_56 : decode cX8_isNet 56 = .ok (.putfield 29, 3) := by decide +kernel
theorem dX8_isNet_59 : decode cX8_isNet 59 = .ok (.goto (-49), 3) := by decide +kernel
theorem dX8_isNet_62 : decode cX8_isNet 62 = .ok (.aload_n 0, 1) := by decide +kernel
theorem dX8_isNet_63 : decode cX8_isNet 63 = .ok (.iload_n 2, 1) := by decide +kernel
theorem dX8_isNet_64 : decode cX8_isNet 64 = .ok (.ldc 47, 2) := by decide +kernel
theorem dX8_isNet_66 : decode cX8_isNet 66 = .ok (.invokevirtual 49, 3) := by decide +kernel
theorem dX8_isNet_69 : decode cX8_isNet 69 = .ok (.ifCond .eq 10, 3) := by decide +kernel
theorem dX8_isNet_72 : decode cX8_isNet 72 = .ok (.aload_n 0, 1) := by decide +kernel
theorem dX8_isNet_73 : decode cX8_isNet 73 = .ok (.iload_n 1, 1) := by decide +kernel
theorem dX8_isNet_74 : decode cX8_isNet 74 = .ok (.iconst 0, 1) := by decide +kernel
theorem dX8_isNet_75 : decode cX8_isNet 75 = .ok (.invokevirtual 53, 3) := by decide +kernel
theorem dX8_isNet_78 : decode cX8_isNet 78 = .ok (.ireturn, 1) := by decide +kernel
theorem dX8_isNet_79 : decode cX8_isNet 79 = .ok (.aload_n 0, 1) := by decide +kernel
theorem dX8_isNet_80 : decode cX8_isNet 80 = .ok (.iload_n 2, 1) := by decide +kernel
theorem dX8_isNet_81 : decode cX8_isNet 81 = .ok (.ldc 57, 2) := by decide +kernel
theorem dX8_isNet_83 : decode cX8_isNet 83 = .ok (.invokevirtual 49, 3) := by decide +kernel
theorem dX8_isNet_86 : decode cX8_isNet 86 = .ok (.ifCond .eq 10, 3) := by decide +kernel
theorem dX8_isNet_89 : decode cX8_isNet 89 = .ok (.aload_n 0, 1) := by decide +kernel
theorem dX8_isNet_90 : decode cX8_isNet 90 = .ok (.iload_n 1, 1) := by decide +kernel
theorem dX8_isNet_91 : decode cX8_isNet 91 = .ok (.iconst 1, 1) := by decide +kernel
theorem dX8_isNet_92 : decode cX8_isNet 92 = .ok (.invokevirtual 53, 3) := by decide +kernel
theorem dX8_isNet_95 : decode cX8_isNet 95 = .ok (.ireturn, 1) := by decide +kernel
theorem dX8_isNet_96 : decode cX8_isNet 96 = .ok (.aload_n 0, 1) := by decide +kernel
theorem dX8_isNet_97 : decode cX8_isNet 97 = .ok (.iload_n 2, 1) := by decide +kernel
theorem dX8_isNet_98 : decode cX8_isNet 98 = .ok (.ldc 59, 2) := by decide +kernel
theorem dX8_isNet_100 : decode cX8_isNet 100 = .ok (.invokevirtual 49, 3) := by decide +kernel
theorem dX8_isNet_103 : decode cX8_isNet 103 = .ok (.ifCond .eq 9, 3) := by decide +kernel
theorem dX8_isNet_106 : decode cX8_isNet 106 = .ok (.aload_n 0, 1) := by decide +kernel
theorem dX8_isNet_107 : decode cX8_isNet 107 = .ok (.iload_n 1, 1) := by decide +kernel
theorem dX8_isNet_108 : decode cX8_isNet 108 = .ok (.invokevirtual 61, 3) := by decide +kernel
theorem dX8_isNet_111 : decode cX8_isNet 111 = .ok (.ireturn, 1) := by decide +kernel
theorem dX8_isNet_112 : decode cX8_isNet 112 = .ok (.aload_n 0, 1) := by decide +kernel
theorem dX8_isNet_113 : decode cX8_isNet 113 = .ok (.iload_n 2, 1) := by decide +kernel
theorem dX8_isNet_114 : decode cX8_isNet 114 = .ok (.ldc 64, 2) := by decide +kernel
theorem dX8_isNet_116 : decode cX8_isNet 116 = .ok (.invokevirtual 49, 3) := by decide +kernel
theorem dX8_isNet_119 : decode cX8_isNet 119 = .ok (.ifCond .eq 9, 3) := by decide +kernel
theorem dX8_isNet_122 : decode cX8_isNet 122 = .ok (.aload_n 0, 1) := by decide +kernel
theorem dX8_isNet_123 : decode cX8_isNet 123 = .ok (.iload_n 1, 1) := by decide +kernel
theorem dX8_isNet_124 : decode cX8_isNet 124 = .ok (.invokevirtual 66, 3) := by decide +kernel
theorem dX8_isNet_127 : decode cX8_isNet 127 = .ok (.ireturn, 1) := by decide +kernel
theorem dX8_isNet_128 : decode cX8_isNet 128 = .ok (.aload_n 0, 1) := by decide +kernel
theorem dX8_isNet_129 : decode cX8_isNet 129 = .ok (.iload_n 2, 1) := by decide +kernel
theorem dX8_isNet_130 : decode cX8_isNet 130 = .ok (.ldc 69, 2) := by decide +kernel
theorem dX8_isNet_132 : decode cX8_isNet 132 = .ok (.invokevirtual 49, 3) := by decide +kernel
theorem dX8_isNet_135 : decode cX8_isNet 135 = .ok (.ifCond .eq 27, 3) := by decide +kernel
theorem dX8_isNet_138 : decode cX8_isNet 138 = .ok (.iconst 0, 1) := by decide +kernel
theorem dX8_isNet_139 : decode cX8_isNet 139 = .ok (.istore_n 3, 1) := by decide +kernel
theorem dX8_isNet_140 : decode cX8_isNet 140 = .ok (.iload_n 3, 1) := by decide +kernel
theorem dX8_isNet_141 : decode cX8_isNet 141 = .ok (.aload_n 0, 1) := by decide +kernel
theorem dX8_isNet_142 : decode cX8_isNet 142 = .ok (.getfield 26, 3) := by decide +kernel
theorem dX8_isNet_145 : decode cX8_isNet 145 = .ok (.if_icmp .ge 15, 3) := by decide +kernel
theorem dX8_isNet_148 : decode cX8_isNet 148 = .ok (.aload_n 0, 1) := by decide +kernel
theorem dX8_isNet_149 : decode cX8_isNet 149 = .ok (.iload_n 1, 1) := by decide +kernel
theorem dX8_isNet_150 : decode cX8_isNet 150 = .ok (.iload_n 3, 1) := by decide +kernel
theorem dX8_isNet_151 : decode cX8_isNet 151 = .ok (.invokevirtual 71, 3) := by decide +kernel
theorem dX8_isNet_154 : decode cX8_isNet 154 = .ok (.iinc 3 1, 3) := by decide +kernel
theorem dX8_isNet_157 : decode cX8_isNet 157 = .ok (.goto (-17), 3) := by decide +kernel
theorem dX8_isNet_160 : decode cX8_isNet 160 = .ok (.iconst 1, 1) := by decide +kernel
theorem dX8_isNet_161 : decode cX8_isNet 161 = .ok (.ireturn, 1) := by decide +kernel
theorem dX8_isNet_162 : decode cX8_isNet 162 = .ok (.aload_n 0, 1) := by decide +kernel
theorem dX8_isNet_163 : decode cX8_isNet 163 = .ok (.iload_n 2, 1) := by decide +kernel
theorem dX8_isNet_164 : decode cX8_isNet 164 = .ok (.putfield 29, 3) := by decide +kernel
theorem dX8_isNet_167 : decode cX8_isNet 167 = .ok (.iconst 0, 1) := by decide +kernel
theorem dX8_isNet_168 : decode cX8_isNet 168 = .ok (.ireturn, 1) := by decide +kernel
theorem dX8_isName_0 : decode cX8_isName 0 = .ok (.aload_n 0, 1) := by decide +kernel
theorem dX8_isName_1 : decode cX8_isName 1 = .ok (.getfield 29, 3) := by decide +kernel
theorem dX8_isName_4 : decode cX8_isName 4 = .ok (.iload_n 1, 1) := by decide +kernel
theorem dX8_isName_5 : decode cX8_isName 5 = .ok (.isub, 1) := by decide +kernel
theorem dX8_isName_6 : decode cX8_isName 6 = .ok (.aload_n 2, 1) := by decide +kernel
theorem dX8_isName_7 : decode cX8_isName 7 = .ok (.invokevirtual 75, 3) := by decide +kernel
theorem dX8_isName_10 : decode cX8_isName 10 = .ok (.if_icmp .eq 5, 3) := by decide +kernel
theorem dX8_isName_13 : decode cX8_isName 13 = .ok (.iconst 0, 1) := by decide +kernel
theorem dX8_isName_14 : decode cX8_isName 14 = .ok (.ireturn, 1) := by decide +kernel
theorem dX8_isName_15 : decode cX8_isName 15 = .ok (.iconst 0, 1) := by decide +kernel
theorem dX8_isName_16 : decode cX8_isName 16 = .ok (.istore_n 3, 1) := by decide +kernel
theorem dX8_isName_17 : decode cX8_isName 17 = .ok (.iload_n 3, 1) := by decide +kernel
theorem dX8_isName_18 : decode cX8_isName 18 = .ok (.aload_n 2, 1) := by decide +kernel
theorem dX8_isName_19 : decode cX8_isName 19 = .ok (.invokevirtual 75, 3) := by decide +kernel
theorem dX8_isName_22 : decode cX8_isName 22 = .ok (.if_icmp .ge 27, 3) := by decide +kernel
theorem dX8_isName_25 : decode cX8_isName 25 = .ok (.aload_n 0, 1) := by decide +kernel
theorem dX8_isName_26 : decode cX8_isName 26 = .ok (.getfield 9, 3) := by decide +kernel
theorem dX8_isName_29 : decode cX8_isName 29 = .ok (.iload_n 1, 1) := by decide +kernel
theorem dX8_isName_30 : decode cX8_isName 30 = .ok (.iload_n 3, 1) := by decide +kernel
theorem dX8_isName_31 : decode cX8_isName 31 = .ok (.iadd, 1) := by decide +kernel
theorem dX8_isName_32 : decode cX8_isName 32 = .ok (.caload, 1) := by decide +kernel
theorem dX8_isName_33 : decode cX8_isName 33 = .ok (.aload_n 2, 1) := by decide +kernel
theorem dX8_isName_34 : decode cX8_isName 34 = .ok (.iload_n 3, 1) := by decide +kernel
theorem dX8_isName_35 : decode cX8_isName 35 = .ok (.invokevirtual 80, 3) := by decide +kernel
theorem dX8_isName_38 : decode cX8_isName 38 = .ok (.if_icmp .eq 5, 3) := by decide +kernel
theorem dX8_isName_41 : decode cX8_isName 41 = .ok (.iconst 0, 1) := by decide +kernel
theorem dX8_isName_42 : decode cX8_isName 42 = .ok (.ireturn, 1) := by decide +kernel
theorem dX8_isName_43 : decode cX8_isName 43 = .ok (.iinc 3 1, 3) := by decide +kernel
theorem dX8_isName_46 : decode cX8_isName 46 = .ok (.goto (-29), 3) := by decide +kernel
theorem dX8_isName_49 : decode cX8_isName 49 = .ok (.iconst 1, 1) := by decide +kernel
theorem dX8_isName_50 : decode cX8_isName 50 = .ok (.ireturn, 1) := by decide +kernel
theorem dX8_isRow_0 : decode cX8_isRow 0 = .ok (.iconst 0, 1) := by decide +kernel
theorem dX8_isRow_1 : decode cX8_isRow 1 = .ok (.istore_n 3, 1) := by decide +kernel
theorem dX8_isRow_2 : decode cX8_isRow 2 = .ok (.iconst (-1), 1) := by decide +kernel
theorem dX8_isRow_3 : decode cX8_isRow 3 = .ok (.istore 4, 2) := by decide +kernel
theorem dX8_isRow_5 : decode cX8_isRow 5 = .ok (.iconst (-1), 1) := by decide +kernel
theorem dX8_isRow_6 : decode cX8_isRow 6 = .ok (.istore 5, 2) := by decide +kernel
theorem dX8_isRow_8 : decode cX8_isRow 8 = .ok (.iconst 0, 1) := by decide +kernel
theorem dX8_isRow_9 : decode cX8_isRow 9 = .ok (.istore 6, 2) := by decide +kernel
theorem dX8_isRow_11 : decode cX8_isRow 11 = .ok (.iload 6, 2) := by decide +kernel
theorem dX8_isRow_13 : decode cX8_isRow 13 = .ok (.aload_n 0, 1) := by decide +kernel
theorem dX8_isRow_14 : decode cX8_isRow 14 = .ok (.getfield 26, 3) := by decide +kernel
theorem dX8_isRow_17 : decode cX8_isRow 17 = .ok (.if_icmp .ge 76, 3) := by decide +kernel
theorem dX8_isRow_20 : decode cX8_isRow 20 = .ok (.aload_n 0, 1) := by decide +kernel
theorem dX8_isRow_21 : decode cX8_isRow 21 = .ok (.invokevirtual 84, 3) := by decide +kernel
theorem dX8_isRow_24 : decode cX8_isRow 24 = .ok (.istore 7, 2) := by decide +kernel
theorem dX8_isRow_26 : decode cX8_isRow 26 = .ok (.iload 7, 2) := by decide +kernel
theorem dX8_isRow_28 : decode cX8_isRow 28 = .ok (.ifCond .lt 12, 3) := by decide +kernel
theorem dX8_isRow_31 : decode cX8_isRow 31 = .ok (.iload_n 3, 1) := by decide +kernel
theorem dX8_isRow_32 : decode cX8_isRow 32 = .ok (.iload 7, 2) := by decide +kernel
theorem dX8_isRow_34 : decode cX8_isRow 34 = .ok (.invokestatic 87, 3) := by decide +kernel
theorem dX8_isRow_37 : decode cX8_isRow 37 = .ok (.ifCond .eq 5, 3) := by decide +kernel
theorem dX8_isRow_40 : decode cX8_isRow 40 = .ok (.iconst 0, 1) := by decide +kernel
theorem dX8_isRow_41 : decode cX8_isRow 41 = .ok (.ireturn, 1) := by decide +kernel
theorem dX8_isRow_42 : decode cX8_isRow 42 = .ok (.aload_n 0, 1) := by decide +kernel
theorem dX8_isRow_43 : decode cX8_isRow 43 = .ok (.dup, 1) := by decide +kernel
theorem dX8_isRow_44 : decode cX8_isRow 44 = .ok (.getfield 29, 3) := by decide +kernel
theorem dX8_isRow_47 : decode cX8_isRow 47 = .ok (.iconst 1, 1) := by decide +kernel
theorem dX8_isRow_48 : decode cX8_isRow 48 = .ok (.iadd, 1) := by decide +kernel
theorem dX8_isRow_49 : decode cX8_isRow 49 = .ok (.putfield 29, 3) := by decide +kernel
theorem dX8_isRow_52 : decode cX8_isRow 52 = .ok (.iload_n 3, 1) := by decide +kernel
theorem dX8_isRow_53 : decode cX8_isRow 53 = .ok (.iconst 1, 1) := by decide +kernel
theorem dX8_isRow_54 : decode cX8_isRow 54 = .ok (.iload 7, 2) := by decide +kernel
theorem dX8_isRow_56 : decode cX8_isRow 56 = .ok (.ishl, 1) := by decide +kernel
theorem dX8_isRow_57 : decode cX8_isRow 57 = .ok (.ior, 1) := by decide +kernel
theorem dX8_isRow_58 : decode cX8_isRow 58 = .ok (.istore_n 3, 1) := by decide +kernel
theorem dX8_isRow_59 : decode cX8_isRow 59 = .ok (.iload 6, 2) := by decide +kernel
theorem dX8_isRow_61 : decode cX8_isRow 61 = .ok (.ifCond .ne 10, 3) := by decide +kernel
theorem dX8_isRow_64 : decode cX8_isRow 64 = .ok (.iload 7, 2) := by decide +kernel
theorem dX8_isRow_66 : decode cX8_isRow 66 = .ok (.istore 4, 2) := by decide +kernel
theorem dX8_isRow_68 : decode cX8_isRow 68 = .ok (.goto 15, 3) := by decide +kernel
theorem dX8_isRow_71 : decode cX8_isRow 71 = .ok (.aload_n 0, 1) := by decide +kernel
theorem dX8_isRow_72 : decode cX8_isRow 72 = .ok (.getfield 18, 3) := by decide +kernel
theorem dX8_isRow_75 : decode cX8_isRow 75 = .ok (.iload_n 1, 1) := by decide +kernel
theorem dX8_isRow_76 : decode cX8_isRow 76 = .ok (.iload 5, 2) := by decide +kernel
theorem dX8_isRow_78 : decode cX8_isRow 78 = .ok (.iload 7, 2) := by decide +kernel
theorem dX8_isRow_80 : decode cX8_isRow 80 = .ok (.invokevirtual 91, 3) := by decide +kernel
theorem dX8_isRow_83 : decode cX8_isRow 83 = .ok (.iload 7, 2) := by decide +kernel
theorem dX8_isRow_85 : decode cX8_isRow 85 = .ok (.istore 5, 2) := by decide +kernel
theorem dX8_isRow_87 : decode cX8_isRow 87 = .ok (.iinc 6 1, 3) := by decide +kernel
theorem dX8_isRow_90 : decode cX8_isRow 90 = .ok (.goto (-79), 3) := by decide +kernel
theorem dX8_isRow_93 : decode cX8_isRow 93 = .ok (.iload_n 2, 1) := by decide +kernel
theorem dX8_isRow_94 : decode cX8_isRow 94 = .ok (.ifCond .eq 15, 3) := by decide +kernel
theorem dX8_isRow_97 : decode cX8_isRow 97 = .ok (.aload_n 0, 1) := by decide +kernel
theorem dX8_isRow_98 : decode cX8_isRow 98 = .ok (.getfield 18, 3) := by decide +kernel
theorem dX8_isRow_101 : decode cX8_isRow 101 = .ok (.iload_n 1, 1) := by decide +kernel
theorem dX8_isRow_102 : decode cX8_isRow 102 = .ok (.iload 5, 2) := by decide +kernel
theorem dX8_isRow_104 : decode cX8_isRow 104 = .ok (.iload 4, 2) := by decide +kernel
theorem dX8_isRow_106 : decode cX8_isRow 106 = .ok (.invokevirtual 91, 3) := by decide +kernel
theorem dX8_isRow_109 : decode cX8_isRow 109 = .ok (.iconst 1, 1) := by decide +kernel
theorem dX8_isRow_110 : decode cX8_isRow 110 = .ok (.ireturn, 1) := by decide +kernel
theorem dX8_isStar_0 : decode cX8_isStar 0 = .ok (.aload_n 0, 1) := by decide +kernel
theorem dX8_isStar_1 : decode cX8_isStar 1 = .ok (.invokevirtual 84, 3) := by decide +kernel
theorem dX8_isStar_4 : decode cX8_isStar 4 = .ok (.istore_n 2, 1) := by decide +kernel
theorem dX8_isStar_5 : decode cX8_isStar 5 = .ok (.iload_n 2, 1) := by decide +kernel
theorem dX8_isStar_6 : decode cX8_isStar 6 = .ok (.ifCond .ge 5, 3) := by decide +kernel
theorem dX8_isStar_9 : decode cX8_isStar 9 = .ok (.iconst 0, 1) := by decide +kernel
theorem dX8_isStar_10 : decode cX8_isStar 10 = .ok (.ireturn, 1) := by decide +kernel
theorem dX8_isStar_11 : decode cX8_isStar 11 = .ok (.aload_n 0, 1) := by decide +kernel
theorem dX8_isStar_12 : decode cX8_isStar 12 = .ok (.dup, 1) := by decide +kernel
theorem dX8_isStar_13 : decode cX8_isStar 13 = .ok (.getfield 29, 3) := by decide +kernel
theorem dX8_isStar_16 : decode cX8_isStar 16 = .ok (.iconst 1, 1) := by decide +kernel
theorem dX8_isStar_17 : decode cX8_isStar 17 = .ok (.iadd, 1) := by decide +kernel
theorem dX8_isStar_18 : decode cX8_isStar 18 = .ok (.putfield 29, 3) := by decide +kernel
theorem dX8_isStar_21 : decode cX8_isStar 21 = .ok (.aload_n 0, 1) := by decide +kernel
theorem dX8_isStar_22 : decode cX8_isStar 22 = .ok (.iload_n 1, 1) := by decide +kernel
theorem dX8_isStar_23 : decode cX8_isStar 23 = .ok (.iload_n 2, 1) := by decide +kernel
theorem dX8_isStar_24 : decode cX8_isStar 24 = .ok (.invokevirtual 71, 3) := by decide +kernel
theorem dX8_isStar_27 : decode cX8_isStar 27 = .ok (.iconst 1, 1) := by decide +kernel
theorem dX8_isStar_28 : decode cX8_isStar 28 = .ok (.ireturn, 1) := by decide +kernel
theorem dX8_isLinks_0 : decode cX8_isLinks 0 = .ok (.iconst 0, 1) := by decide +kernel
theorem dX8_isLinks_1 : decode cX8_isLinks 1 = .ok (.istore_n 2, 1) := by decide +kernel
theorem dX8_isLinks_2 : decode cX8_isLinks 2 = .ok (.iload_n 2, 1) := by decide +kernel
theorem dX8_isLinks_3 : decode cX8_isLinks 3 = .ok (.bipush 90, 2) := by decide +kernel
theorem dX8_isLinks_5 : decode cX8_isLinks 5 = .ok (.if_icmp .ge 51, 3) := by decide +kernel
theorem dX8_isLinks_8 : decode cX8_isLinks 8 = .ok (.aload_n 0, 1) := by decide +kernel
theorem dX8_isLinks_9 : decode cX8_isLinks 9 = .ok (.iload_n 1, 1) := by decide +kernel
theorem dX8_isLinks_10 : decode cX8_isLinks 10 = .ok (.invokevirtual 95, 3) := by decide +kernel
theorem dX8_isLinks_13 : decode cX8_isLinks 13 = .ok (.ifCond .ne 5, 3) := by decide +kernel
theorem dX8_isLinks_16 : decode cX8_isLinks 16 = .ok (.iconst 0, 1) := by decide +kernel
theorem dX8_isLinks_17 : decode cX8_isLinks 17 = .ok (.ireturn, 1) := by decide +kernel
theorem dX8_isLinks_18 : decode cX8_isLinks 18 = .ok (.aload_n 0, 1) := by decide +kernel
theorem dX8_isLinks_19 : decode cX8_isLinks 19 = .ok (.invokevirtual 40, 3) := by decide +kernel
theorem dX8_isLinks_22 : decode cX8_isLinks 22 = .ok (.bipush 44, 2) := by decide +kernel
theorem dX8_isLinks_24 : decode cX8_isLinks 24 = .ok (.if_icmp .eq 16, 3) := by decide +kernel
theorem dX8_isLinks_27 : decode cX8_isLinks 27 = .ok (.aload_n 0, 1) := by decide +kernel
theorem dX8_isLinks_28 : decode cX8_isLinks 28 = .ok (.getfield 18, 3) := by decide +kernel
theorem dX8_isLinks_31 : decode cX8_isLinks 31 = .ok (.iload_n 1, 1) := by decide +kernel
theorem dX8_isLinks_32 : decode cX8_isLinks 32 = .ok (.aload_n 0, 1) := by decide +kernel
theorem dX8_isLinks_33 : decode cX8_isLinks 33 = .ok (.getfield 26, 3) := by decide +kernel
theorem dX8_isLinks_36 : decode cX8_isLinks 36 = .ok (.invokevirtual 98, 3) := by decide +kernel
theorem dX8_isLinks_39 : decode cX8_isLinks 39 = .ok (.ireturn, 1) := by decide +kernel
theorem dX8_isLinks_40 : decode cX8_isLinks 40 = .ok (.aload_n 0, 1) := by decide +kernel
theorem dX8_isLinks_41 : decode cX8_isLinks 41 = .ok (.dup, 1) := by decide +kernel
theorem dX8_isLinks_42 : decode cX8_isLinks 42 = .ok (.getfield 29, 3) := by decide +kernel
theorem dX8_isLinks_45 : decode cX8_isLinks 45 = .ok (.iconst 1, 1) := by decide +kernel
theorem dX8_isLinks_46 : decode cX8_isLinks 46 = .ok (.iadd, 1) := by decide +kernel
theorem dX8_isLinks_47 : decode cX8_isLinks 47 = .ok (.putfield 29, 3) := by decide +kernel
theorem dX8_isLinks_50 : decode cX8_isLinks 50 = .ok (.iinc 2 1, 3) := by decide +kernel
theorem dX8_isLinks_53 : decode cX8_isLinks 53 = .ok (.goto (-51), 3) := by decide +kernel
theorem dX8_isLinks_56 : decode cX8_isLinks 56 = .ok (.iconst 0, 1) := by decide +kernel
theorem dX8_isLinks_57 : decode cX8_isLinks 57 = .ok (.ireturn, 1) := by decide +kernel
theorem dX8_isLink_0 : decode cX8_isLink 0 = .ok (.aload_n 0, 1) := by decide +kernel
theorem dX8_isLink_1 : decode cX8_isLink 1 = .ok (.invokevirtual 84, 3) := by decide +kernel
theorem dX8_isLink_4 : decode cX8_isLink 4 = .ok (.istore_n 2, 1) := by decide +kernel
theorem dX8_isLink_5 : decode cX8_isLink 5 = .ok (.iload_n 2, 1) := by decide +kernel
theorem dX8_isLink_6 : decode cX8_isLink 6 = .ok (.ifCond .ge 5, 3) := by decide +kernel
theorem dX8_isLink_9 : decode cX8_isLink 9 = .ok (.iconst 0, 1) := by decide +kernel
theorem dX8_isLink_10 : decode cX8_isLink 10 = .ok (.ireturn, 1) := by decide +kernel
theorem dX8_isLink_11 : decode cX8_isLink 11 = .ok (.aload_n 0, 1) := by decide +kernel
theorem dX8_isLink_12 : decode cX8_isLink 12 = .ok (.dup, 1) := by decide +kernel
theorem dX8_isLink_13 : decode cX8_isLink 13 = .ok (.getfield 29, 3) := by decide +kernel
theorem dX8_isLink_16 : decode cX8_isLink 16 = .ok (.iconst 1, 1) := by decide +kernel
theorem dX8_isLink_17 : decode cX8_isLink 17 = .ok (.iadd, 1) := by decide +kernel
theorem dX8_isLink_18 : decode cX8_isLink 18 = .ok (.putfield 29, 3) := by decide +kernel
theorem dX8_isLink_21 : decode cX8_isLink 21 = .ok (.aload_n 0, 1) := by decide +kernel
theorem dX8_isLink_22 : decode cX8_isLink 22 = .ok (.invokevirtual 40, 3) := by decide +kernel
theorem dX8_isLink_25 : decode cX8_isLink 25 = .ok (.bipush 45, 2) := by decide +kernel
theorem dX8_isLink_27 : decode cX8_isLink 27 = .ok (.if_icmp .eq 5, 3) := by decide +kernel
theorem dX8_isLink_30 : decode cX8_isLink 30 = .ok (.iconst 0, 1) := by decide +kernel
theorem dX8_isLink_31 : decode cX8_isLink 31 = .ok (.ireturn, 1) := by decide +kernel
theorem dX8_isLink_32 : decode cX8_isLink 32 = .ok (.aload_n 0, 1) := by decide +kernel
theorem dX8_isLink_33 : decode cX8_isLink 33 = .ok (.dup, 1) := by decide +kernel
theorem dX8_isLink_34 : decode cX8_isLink 34 = .ok (.getfield 29, 3) := by decide +kernel
theorem dX8_isLink_37 : decode cX8_isLink 37 = .ok (.iconst 1, 1) := by decide +kernel
theorem dX8_isLink_38 : decode cX8_isLink 38 = .ok (.iadd, 1) := by decide +kernel
theorem dX8_isLink_39 : decode cX8_isLink 39 = .ok (.putfield 29, 3) := by decide +kernel
theorem dX8_isLink_42 : decode cX8_isLink 42 = .ok (.aload_n 0, 1) := by decide +kernel
theorem dX8_isLink_43 : decode cX8_isLink 43 = .ok (.invokevirtual 84, 3) := by decide +kernel
theorem dX8_isLink_46 : decode cX8_isLink 46 = .ok (.istore_n 3, 1) := by decide +kernel
theorem dX8_isLink_47 : decode cX8_isLink 47 = .ok (.iload_n 3, 1) := by decide +kernel
theorem dX8_isLink_48 : decode cX8_isLink 48 = .ok (.ifCond .lt 24, 3) := by decide +kernel
theorem dX8_isLink_51 : decode cX8_isLink 51 = .ok (.iload_n 2, 1) := by decide +kernel
theorem dX8_isLink_52 : decode cX8_isLink 52 = .ok (.iload_n 3, 1) := by decide +kernel
theorem dX8_isLink_53 : decode cX8_isLink 53 = .ok (.if_icmp .eq 19, 3) := by decide +kernel
theorem dX8_isLink_56 : decode cX8_isLink 56 = .ok (.aload_n 0, 1) := by decide +kernel
theorem dX8_isLink_57 : decode cX8_isLink 57 = .ok (.getfield 18, 3) := by decide +kernel
theorem dX8_isLink_60 : decode cX8_isLink 60 = .ok (.iload_n 1, 1) := by decide +kernel
theorem dX8_isLink_61 : decode cX8_isLink 61 = .ok (.iload_n 2, 1) := by decide +kernel
theorem dX8_isLink_62 : decode cX8_isLink 62 = .ok (.invokevirtual 101, 3) := by decide +kernel
theorem dX8_isLink_65 : decode cX8_isLink 65 = .ok (.iload_n 3, 1) := by decide +kernel
theorem dX8_isLink_66 : decode cX8_isLink 66 = .ok (.invokestatic 87, 3) := by decide +kernel
theorem dX8_isLink_69 : decode cX8_isLink 69 = .ok (.ifCond .eq 5, 3) := by decide +kernel
theorem dX8_isLink_72 : decode cX8_isLink 72 = .ok (.iconst 0, 1) := by decide +kernel
theorem dX8_isLink_73 : decode cX8_isLink 73 = .ok (.ireturn, 1) := by decide +kernel
theorem dX8_isLink_74 : decode cX8_isLink 74 = .ok (.aload_n 0, 1) := by decide +kernel
theorem dX8_isLink_75 : decode cX8_isLink 75 = .ok (.dup, 1) := by decide +kernel
theorem dX8_isLink_76 : decode cX8_isLink 76 = .ok (.getfield 29, 3) := by decide +kernel
theorem dX8_isLink_79 : decode cX8_isLink 79 = .ok (.iconst 1, 1) := by decide +kernel
theorem dX8_isLink_80 : decode cX8_isLink 80 = .ok (.iadd, 1) := by decide +kernel
theorem dX8_isLink_81 : decode cX8_isLink 81 = .ok (.putfield 29, 3) := by decide +kernel
theorem dX8_isLink_84 : decode cX8_isLink 84 = .ok (.aload_n 0, 1) := by decide +kernel
theorem dX8_isLink_85 : decode cX8_isLink 85 = .ok (.getfield 18, 3) := by decide +kernel
theorem dX8_isLink_88 : decode cX8_isLink 88 = .ok (.iload_n 1, 1) := by decide +kernel
theorem dX8_isLink_89 : decode cX8_isLink 89 = .ok (.iload_n 2, 1) := by decide +kernel
theorem dX8_isLink_90 : decode cX8_isLink 90 = .ok (.iload_n 3, 1) := by decide +kernel
theorem dX8_isLink_91 : decode cX8_isLink 91 = .ok (.invokevirtual 91, 3) := by decide +kernel
theorem dX8_isLink_94 : decode cX8_isLink 94 = .ok (.iconst 1, 1) := by decide +kernel
theorem dX8_isLink_95 : decode cX8_isLink 95 = .ok (.ireturn, 1) := by decide +kernel
theorem dX8_linkToAll_0 : decode cX8_linkToAll 0 = .ok (.iconst 0, 1) := by decide +kernel
theorem dX8_linkToAll_1 : decode cX8_linkToAll 1 = .ok (.istore_n 3, 1) := by decide +kernel
theorem dX8_linkToAll_2 : decode cX8_linkToAll 2 = .ok (.iload_n 3, 1) := by decide +kernel
theorem dX8_linkToAll_3 : decode cX8_linkToAll 3 = .ok (.aload_n 0, 1) := by decide +kernel
theorem dX8_linkToAll_4 : decode cX8_linkToAll 4 = .ok (.getfield 26, 3) := by decide +kernel
theorem dX8_linkToAll_7 : decode cX8_linkToAll 7 = .ok (.if_icmp .ge 24, 3) := by decide +kernel
theorem dX8_linkToAll_10 : decode cX8_linkToAll 10 = .ok (.iload_n 3, 1) := by decide +kernel
theorem dX8_linkToAll_11 : decode cX8_linkToAll 11 = .ok (.iload_n 2, 1) := by decide +kernel
theorem dX8_linkToAll_12 : decode cX8_linkToAll 12 = .ok (.if_icmp .eq 13, 3) := by decide +kernel
theorem dX8_linkToAll_15 : decode cX8_linkToAll 15 = .ok (.aload_n 0, 1) := by decide +kernel
theorem dX8_linkToAll_16 : decode cX8_linkToAll 16 = .ok (.getfield 18, 3) := by decide +kernel
theorem dX8_linkToAll_19 : decode cX8_linkToAll 19 = .ok (.iload_n 1, 1) := by decide +kernel
theorem dX8_linkToAll_20 : decode cX8_linkToAll 20 = .ok (.iload_n 3, 1) := by decide +kernel
theorem dX8_linkToAll_21 : decode cX8_linkToAll 21 = .ok (.iload_n 2, 1) := by decide +kernel
theorem dX8_linkToAll_22 : decode cX8_linkToAll 22 = .ok (.invokevirtual 91, 3) := by decide +kernel
theorem dX8_linkToAll_25 : decode cX8_linkToAll 25 = .ok (.iinc 3 1, 3) := by decide +kernel
theorem dX8_linkToAll_28 : decode cX8_linkToAll 28 = .ok (.goto (-26), 3) := by decide +kernel
theorem dX8_linkToAll_31 : decode cX8_linkToAll 31 = .ok (.return_, 1) := by decide +kernel
theorem dX8_figure_0 : decode cX8_figure 0 = .ok (.aload_n 0, 1) := by decide +kernel
theorem dX8_figure_1 : decode cX8_figure 1 = .ok (.invokevirtual 40, 3) := by decide +kernel
theorem dX8_figure_4 : decode cX8_figure 4 = .ok (.bipush 48, 2) := by decide +kernel
theorem dX8_figure_6 : decode cX8_figure 6 = .ok (.isub, 1) := by decide +kernel
theorem dX8_figure_7 : decode cX8_figure 7 = .ok (.istore_n 1, 1) := by decide +kernel
theorem dX8_figure_8 : decode cX8_figure 8 = .ok (.iload_n 1, 1) := by decide +kernel
theorem dX8_figure_9 : decode cX8_figure 9 = .ok (.ifCond .lt 15, 3) := by decide +kernel
theorem dX8_figure_12 : decode cX8_figure 12 = .ok (.iload_n 1, 1) := by decide +kernel
theorem dX8_figure_13 : decode cX8_figure 13 = .ok (.aload_n 0, 1) := by decide +kernel
theorem dX8_figure_14 : decode cX8_figure 14 = .ok (.getfield 26, 3) := by decide +kernel
theorem dX8_figure_17 : decode cX8_figure 17 = .ok (.if_icmp .ge 7, 3) := by decide +kernel
theorem dX8_figure_20 : decode cX8_figure 20 = .ok (.iload_n 1, 1) := by decide +kernel
theorem dX8_figure_21 : decode cX8_figure 21 = .ok (.goto 4, 3) := by decide +kernel
theorem dX8_figure_24 : decode cX8_figure 24 = .ok (.iconst (-1), 1) := by decide +kernel
theorem dX8_figure_25 : decode cX8_figure 25 = .ok (.ireturn, 1) := by decide +kernel
theorem dX9_init_0 : decode cX9_init 0 = .ok (.aload_n 0, 1) := by decide +kernel
theorem dX9_init_1 : decode cX9_init 1 = .ok (.invokespecial 3, 3) := by decide +kernel
theorem dX9_init_4 : decode cX9_init 4 = .ok (.aload_n 0, 1) := by decide +kernel
theorem dX9_init_5 : decode cX9_init 5 = .ok (.bipush 6, 2) := by decide +kernel
theorem dX9_init_7 : decode cX9_init 7 = .ok (.newarray .int, 2) := by decide +kernel
theorem dX9_init_9 : decode cX9_init 9 = .ok (.putfield 9, 3) := by decide +kernel
theorem dX9_init_12 : decode cX9_init 12 = .ok (.aload_n 0, 1) := by decide +kernel
theorem dX9_init_13 : decode cX9_init 13 = .ok (.bipush 6, 2) := by decide +kernel
theorem dX9_init_15 : decode cX9_init 15 = .ok (.newarray .int, 2) := by decide +kernel
theorem dX9_init_17 : decode cX9_init 17 = .ok (.putfield 15, 3) := by decide +kernel
theorem dX9_init_20 : decode cX9_init 20 = .ok (.return_, 1) := by decide +kernel
theorem dX9_behind_0 : decode cX9_behind 0 = .ok (.iconst 0, 1) := by decide +kernel
theorem dX9_behind_1 : decode cX9_behind 1 = .ok (.istore_n 3, 1) := by decide +kernel
theorem dX9_behind_2 : decode cX9_behind 2 = .ok (.iload_n 3, 1) := by decide +kernel
theorem dX9_behind_3 : decode cX9_behind 3 = .ok (.aload_n 1, 1) := by decide +kernel
theorem dX9_behind_4 : decode cX9_behind 4 = .ok (.getfield 18, 3) := by decide +kernel
theorem dX9_behind_7 : decode cX9_behind 7 = .ok (.if_icmp .ge 24, 3) := by decide +kernel
theorem dX9_behind_10 : decode cX9_behind 10 = .ok (.aload_n 0, 1) := by decide +kernel
theorem dX9_behind_11 : decode cX9_behind 11 = .ok (.getfield 9, 3) := by decide +kernel
theorem dX9_behind_14 : decode cX9_behind 14 = .ok (.iload_n 3, 1) := by decide +kernel
theorem dX9_behind_15 : decode cX9_behind 15 = .ok (.iload_n 3, 1) := by decide +kernel
theorem dX9_behind_16 : decode cX9_behind 16 = .ok (.ifCond .ne 7, 3) := by decide +kernel
theorem dX9_behind_19 : decode cX9_behind 19 = .ok (.iconst 0, 1) := by decide +kernel
theorem dX9_behind_20 : decode cX9_behind 20 = .ok (.goto 4, 3) := by decide +kernel
theorem dX9_behind_23 : decode cX9_behind 23 = .ok (.iconst 1, 1) := by decide +kernel
theorem dX9_behind_24 : decode cX9_behind 24 = .ok (.iastore, 1) := by decide +kernel
theorem dX9_behind_25 : decode cX9_behind 25 = .ok (.iinc 3 1, 3) := by decide +kernel
theorem dX9_behind_28 : decode cX9_behind 28 = .ok (.goto (-26), 3) := by decide +kernel
theorem dX9_behind_31 : decode cX9_behind 31 = .ok (.iconst 2, 1) := by decide +kernel
theorem dX9_behind_32 : decode cX9_behind 32 = .ok (.istore_n 3, 1) := by decide +kernel
theorem dX9_behind_33 : decode cX9_behind 33 = .ok (.iconst 0, 1) := by decide +kernel
theorem dX9_behind_34 : decode cX9_behind 34 = .ok (.istore 4, 2) := by decide +kernel
theorem dX9_behind_36 : decode cX9_behind 36 = .ok (.iload 4, 2) := by decide +kernel
theorem dX9_behind_38 : decode cX9_behind 38 = .ok (.iload_n 2, 1) := by decide +kernel
theorem dX9_behind_39 : decode cX9_behind 39 = .ok (.if_icmp .ge 22, 3) := by decide +kernel
theorem dX9_behind_42 : decode cX9_behind 42 = .ok (.aload_n 0, 1) := by decide +kernel
theorem dX9_behind_43 : decode cX9_behind 43 = .ok (.aload_n 1, 1) := by decide +kernel
theorem dX9_behind_44 : decode cX9_behind 44 = .ok (.aload_n 1, 1) := by decide +kernel
theorem dX9_behind_45 : decode cX9_behind 45 = .ok (.getfield 24, 3) := by decide +kernel
theorem dX9_behind_48 : decode cX9_behind 48 = .ok (.iload 4, 2) := by decide +kernel
theorem dX9_behind_50 : decode cX9_behind 50 = .ok (.iadd, 1) := by decide +kernel
theorem dX9_behind_51 : decode cX9_behind 51 = .ok (.invokevirtual 27, 3) := by decide +kernel
theorem dX9_behind_54 : decode cX9_behind 54 = .ok (.istore_n 3, 1) := by decide +kernel
theorem dX9_behind_55 : decode cX9_behind 55 = .ok (.iinc 4 1, 3) := by decide +kernel
theorem dX9_behind_58 : decode cX9_behind 58 = .ok (.goto (-22), 3) := by decide +kernel
theorem dX9_behind_61 : decode cX9_behind 61 = .ok (.iload_n 3, 1) := by decide +kernel
theorem dX9_behind_62 : decode cX9_behind 62 = .ok (.ireturn, 1) := by decide +kernel
theorem dX9_part_0 : decode cX9_part 0 = .ok (.iconst 0, 1) := by decide +kernel
theorem dX9_part_1 : decode cX9_part 1 = .ok (.istore_n 3, 1) := by decide +kernel
theorem dX9_part_2 : decode cX9_part 2 = .ok (.iconst 0, 1) := by decide +kernel
theorem dX9_part_3 : decode cX9_part 3 = .ok (.istore 4, 2) := by decide +kernel
theorem dX9_part_5 : decode cX9_part 5 = .ok (.iload 4, 2) := by decide +kernel
theorem dX9_part_7 : decode cX9_part 7 = .ok (.aload_n 1, 1) := by decide +kernel
theorem dX9_part_8 : decode cX9_part 8 = .ok (.getfield 18, 3) := by decide +kernel
theorem dX9_part_11 : decode cX9_part 11 = .ok (.if_icmp .ge 47, 3) := by decide +kernel
theorem dX9_part_14 : decode cX9_part 14 = .ok (.aload_n 0, 1) := by decide +kernel
theorem dX9_part_15 : decode cX9_part 15 = .ok (.aload_n 1, 1) := by decide +kernel
theorem dX9_part_16 : decode cX9_part 16 = .ok (.iload_n 2, 1) := by decide +kernel
theorem dX9_part_17 : decode cX9_part 17 = .ok (.iload 4, 2) := by decide +kernel
theorem dX9_part_19 : decode cX9_part 19 = .ok (.invokevirtual 31, 3) := by decide +kernel
theorem dX9_part_22 : decode cX9_part 22 = .ok (.istore 5, 2) := by decide +kernel
theorem dX9_part_24 : decode cX9_part 24 = .ok (.aload_n 0, 1) := by decide +kernel
theorem dX9_part_25 : decode cX9_part 25 = .ok (.getfield 15, 3) := by decide +kernel
theorem dX9_part_28 : decode cX9_part 28 = .ok (.iload 4, 2) := by decide +kernel
theorem dX9_part_30 : decode cX9_part 30 = .ok (.iload 5, 2) := by decide +kernel
theorem dX9_part_32 : decode cX9_part 32 = .ok (.iload 4, 2) := by decide +kernel
theorem dX9_part_34 : decode cX9_part 34 = .ok (.if_icmp .ne 10, 3) := by decide +kernel
theorem dX9_part_37 : decode cX9_part 37 = .ok (.iload_n 3, 1) := by decide +kernel
theorem dX9_part_38 : decode cX9_part 38 = .ok (.iinc 3 1, 3) := by decide +kernel
theorem dX9_part_41 : decode cX9_part 41 = .ok (.goto 10, 3) := by decide +kernel
theorem dX9_part_44 : decode cX9_part 44 = .ok (.aload_n 0, 1) := by decide +kernel
theorem dX9_part_45 : decode cX9_part 45 = .ok (.getfield 15, 3) := by decide +kernel
theorem dX9_part_48 : decode cX9_part 48 = .ok (.iload 5, 2) := by decide +kernel
theorem dX9_part_50 : decode cX9_part 50 = .ok (.iaload, 1) := by decide +kernel
theorem dX9_part_51 : decode cX9_part 51 = .ok (.iastore, 1) := by decide +kernel
theorem dX9_part_52 : decode cX9_part 52 = .ok (.iinc 4 1, 3) := by decide +kernel
theorem dX9_part_55 : decode cX9_part 55 = .ok (.goto (-50), 3) := by decide +kernel
theorem dX9_part_58 : decode cX9_part 58 = .ok (.aload_n 0, 1) := by decide +kernel
theorem dX9_part_59 : decode cX9_part 59 = .ok (.getfield 15, 3) := by decide +kernel
theorem dX9_part_62 : decode cX9_part 62 = .ok (.iconst 0, 1) := by decide +kernel
theorem dX9_part_63 : decode cX9_part 63 = .ok (.aload_n 0, 1) := by decide +kernel
theorem dX9_part_64 : decode cX9_part 64 = .ok (.getfield 9, 3) := by decide +kernel
theorem dX9_part_67 : decode cX9_part 67 = .ok (.iconst 0, 1) := by decide +kernel
theorem dX9_part_68 : decode cX9_part 68 = .ok (.aload_n 1, 1) := by decide +kernel
theorem dX9_part_69 : decode cX9_part 69 = .ok (.getfield 18, 3) := by decide +kernel
theorem dX9_part_72 : decode cX9_part 72 = .ok (.invokestatic 35, 3) := by decide +kernel
theorem dX9_part_75 : decode cX9_part 75 = .ok (.iload_n 3, 1) := by decide +kernel
theorem dX9_part_76 : decode cX9_part 76 = .ok (.ireturn, 1) := by decide +kernel
theorem dX9_leastLike_0 : decode cX9_leastLike 0 = .ok (.iconst 0, 1) := by decide +kernel
theorem dX9_leastLike_1 : decode cX9_leastLike 1 = .ok (.istore 4, 2) := by decide +kernel
theorem dX9_leastLike_3 : decode cX9_leastLike 3 = .ok (.iload 4, 2) := by decide +kernel
theorem dX9_leastLike_5 : decode cX9_leastLike 5 = .ok (.iload_n 3, 1) := by decide +kernel
theorem dX9_leastLike_6 : decode cX9_leastLike 6 = .ok (.if_icmp .ge 49, 3) := by decide +kernel
theorem dX9_leastLike_9 : decode cX9_leastLike 9 = .ok (.aload_n 0, 1) := by decide +kernel
theorem dX9_leastLike_10 : decode cX9_leastLike 10 = .ok (.getfield 9, 3) := by decide +kernel
theorem dX9_leastLike_13 : decode cX9_leastLike 13 = .ok (.iload 4, 2) := by decide +kernel
theorem dX9_leastLike_15 : decode cX9_leastLike 15 = .ok (.iaload, 1) := by decide +kernel
theorem dX9_leastLike_16 : decode cX9_leastLike 16 = .ok (.aload_n 0, 1) := by decide +kernel
theorem dX9_leastLike_17 : decode cX9_leastLike 17 = .ok (.getfield 9, 3) := by decide +kernel
theorem dX9_leastLike_20 : decode cX9_leastLike 20 = .ok (.iload_n 3, 1) := by decide +kernel
theorem dX9_leastLike_21 : decode cX9_leastLike 21 = .ok (.iaload, 1) := by decide +kernel
theorem dX9_leastLike_22 : decode cX9_leastLike 22 = .ok (.if_icmp .ne 27, 3) := by decide +kernel
theorem dX9_leastLike_25 : decode cX9_leastLike 25 = .ok (.aload_n 0, 1) := by decide +kernel
theorem dX9_leastLike_26 : decode cX9_leastLike 26 = .ok (.aload_n 1, 1) := by decide +kernel
theorem dX9_leastLike_27 : decode cX9_leastLike 27 = .ok (.aload_n 1, 1) := by decide +kernel
theorem dX9_leastLike_28 : decode cX9_leastLike 28 = .ok (.iload_n 2, 1) := by decide +kernel
theorem dX9_leastLike_29 : decode cX9_leastLike 29 = .ok (.iload 4, 2) := by decide +kernel
theorem dX9_leastLike_31 : decode cX9_leastLike 31 = .ok (.invokevirtual 41, 3) := by decide +kernel
theorem dX9_leastLike_34 : decode cX9_leastLike 34 = .ok (.aload_n 1, 1) := by decide +kernel
theorem dX9_leastLike_35 : decode cX9_leastLike 35 = .ok (.iload_n 2, 1) := by decide +kernel
theorem dX9_leastLike_36 : decode cX9_leastLike 36 = .ok (.iload_n 3, 1) := by decide +kernel
theorem dX9_leastLike_37 : decode cX9_leastLike 37 = .ok (.invokevirtual 41, 3) := by decide +kernel
theorem dX9_leastLike_40 : decode cX9_leastLike 40 = .ok (.invokevirtual 45, 3) := by decide +kernel
theorem dX9_leastLike_43 : decode cX9_leastLike 43 = .ok (.ifCond .eq 6, 3) := by decide +kernel
theorem dX9_leastLike_46 : decode cX9_leastLike 46 = .ok (.iload 4, 2) := by decide +kernel
theorem dX9_leastLike_48 : decode cX9_leastLike 48 = .ok (.ireturn, 1) := by decide +kernel
theorem dX9_leastLike_49 : decode cX9_leastLike 49 = .ok (.iinc 4 1, 3) := by decide +kernel
theorem dX9_leastLike_52 : decode cX9_leastLike 52 = .ok (.goto (-49), 3) := by decide +kernel
theorem dX9_leastLike_55 : decode cX9_leastLike 55 = .ok (.iload_n 3, 1) := by decide +kernel
theorem dX9_leastLike_56 : decode cX9_leastLike 56 = .ok (.ireturn, 1) := by decide +kernel
theorem dX9_seeAlike_0 : decode cX9_seeAlike 0 = .ok (.iconst 0, 1) := by decide +kernel
theorem dX9_seeAlike_1 : decode cX9_seeAlike 1 = .ok (.istore 4, 2) := by decide +kernel
theorem dX9_seeAlike_3 : decode cX9_seeAlike 3 = .ok (.iload 4, 2) := by decide +kernel
theorem dX9_seeAlike_5 : decode cX9_seeAlike 5 = .ok (.aload_n 1, 1) := by decide +kernel
theorem dX9_seeAlike_6 : decode cX9_seeAlike 6 = .ok (.getfield 18, 3) := by decide +kernel
theorem dX9_seeAlike_9 : decode cX9_seeAlike 9 = .ok (.if_icmp .ge 30, 3) := by decide +kernel
theorem dX9_seeAlike_12 : decode cX9_seeAlike 12 = .ok (.aload_n 0, 1) := by decide +kernel
theorem dX9_seeAlike_13 : decode cX9_seeAlike 13 = .ok (.aload_n 1, 1) := by decide +kernel
theorem dX9_seeAlike_14 : decode cX9_seeAlike 14 = .ok (.iload 4, 2) := by decide +kernel
theorem dX9_seeAlike_16 : decode cX9_seeAlike 16 = .ok (.iload_n 2, 1) := by decide +kernel
theorem dX9_seeAlike_17 : decode cX9_seeAlike 17 = .ok (.invokevirtual 49, 3) := by decide +kernel
theorem dX9_seeAlike_20 : decode cX9_seeAlike 20 = .ok (.aload_n 0, 1) := by decide +kernel
theorem dX9_seeAlike_21 : decode cX9_seeAlike 21 = .ok (.aload_n 1, 1) := by decide +kernel
theorem dX9_seeAlike_22 : decode cX9_seeAlike 22 = .ok (.iload 4, 2) := by decide +kernel
theorem dX9_seeAlike_24 : decode cX9_seeAlike 24 = .ok (.iload_n 3, 1) := by decide +kernel
theorem dX9_seeAlike_25 : decode cX9_seeAlike 25 = .ok (.invokevirtual 49, 3) := by decide +kernel
theorem dX9_seeAlike_28 : decode cX9_seeAlike 28 = .ok (.if_icmp .eq 5, 3) := by decide +kernel
theorem dX9_seeAlike_31 : decode cX9_seeAlike 31 = .ok (.iconst 0, 1) := by decide +kernel
theorem dX9_seeAlike_32 : decode cX9_seeAlike 32 = .ok (.ireturn, 1) := by decide +kernel
theorem dX9_seeAlike_33 : decode cX9_seeAlike 33 = .ok (.iinc 4 1, 3) := by decide +kernel
theorem dX9_seeAlike_36 : decode cX9_seeAlike 36 = .ok (.goto (-33), 3) := by decide +kernel
theorem dX9_seeAlike_39 : decode cX9_seeAlike 39 = .ok (.iconst 1, 1) := by decide +kernel
theorem dX9_seeAlike_40 : decode cX9_seeAlike 40 = .ok (.ireturn, 1) := by decide +kernel
theorem dX9_having_0 : decode cX9_having 0 = .ok (.iconst 0, 1) := by decide +kernel
theorem dX9_having_1 : decode cX9_having 1 = .ok (.istore 4, 2) := by decide +kernel
theorem dX9_having_3 : decode cX9_having 3 = .ok (.iconst 0, 1) := by decide +kernel
theorem dX9_having_4 : decode cX9_having 4 = .ok (.istore 5, 2) := by decide +kernel
theorem dX9_having_6 : decode cX9_having 6 = .ok (.iload 5, 2) := by decide +kernel
theorem dX9_having_8 : decode cX9_having 8 = .ok (.aload_n 1, 1) := by decide +kernel
theorem dX9_having_9 : decode cX9_having 9 = .ok (.getfield 18, 3) := by decide +kernel
theorem dX9_having_12 : decode cX9_having 12 = .ok (.if_icmp .ge 39, 3) := by decide +kernel
theorem dX9_having_15 : decode cX9_having 15 = .ok (.iload 4, 2) := by decide +kernel
theorem dX9_having_17 : decode cX9_having 17 = .ok (.iload_n 3, 1) := by decide +kernel
theorem dX9_having_18 : decode cX9_having 18 = .ok (.iload 5, 2) := by decide +kernel
theorem dX9_having_20 : decode cX9_having 20 = .ok (.invokestatic 52, 3) := by decide +kernel
theorem dX9_having_23 : decode cX9_having 23 = .ok (.ifCond .eq 18, 3) := by decide +kernel
theorem dX9_having_26 : decode cX9_having 26 = .ok (.aload_n 0, 1) := by decide +kernel
theorem dX9_having_27 : decode cX9_having 27 = .ok (.getfield 9, 3) := by decide +kernel
theorem dX9_having_30 : decode cX9_having 30 = .ok (.iload 5, 2) := by decide +kernel
theorem dX9_having_32 : decode cX9_having 32 = .ok (.iaload, 1) := by decide +kernel
theorem dX9_having_33 : decode cX9_having 33 = .ok (.iload_n 2, 1) := by decide +kernel
theorem dX9_having_34 : decode cX9_having 34 = .ok (.if_icmp .ne 7, 3) := by decide +kernel
theorem dX9_having_37 : decode cX9_having 37 = .ok (.iconst 1, 1) := by decide +kernel
theorem dX9_having_38 : decode cX9_having 38 = .ok (.goto 4, 3) := by decide +kernel
theorem dX9_having_41 : decode cX9_having 41 = .ok (.iconst 0, 1) := by decide +kernel
theorem dX9_having_42 : decode cX9_having 42 = .ok (.iadd, 1) := by decide +kernel
theorem dX9_having_43 : decode cX9_having 43 = .ok (.istore 4, 2) := by decide +kernel
theorem dX9_having_45 : decode cX9_having 45 = .ok (.iinc 5 1, 3) := by decide +kernel
theorem dX9_having_48 : decode cX9_having 48 = .ok (.goto (-42), 3) := by decide +kernel
theorem dX9_having_51 : decode cX9_having 51 = .ok (.iload 4, 2) := by decide +kernel
theorem dX9_having_53 : decode cX9_having 53 = .ok (.ireturn, 1) := by decide +kernel
theorem dX10_init_0 : decode cX10_init 0 = .ok (.aload_n 0, 1) := by decide +kernel
theorem dX10_init_1 : decode cX10_init 1 = .ok (.invokespecial 1, 3) := by decide +kernel
theorem dX10_init_4 : decode cX10_init 4 = .ok (.aload_n 0, 1) := by decide +kernel
theorem dX10_init_5 : decode cX10_init 5 = .ok (.new 7, 3) := by decide +kernel
theorem dX10_init_8 : decode cX10_init 8 = .ok (.dup, 1) := by decide +kernel
theorem dX10_init_9 : decode cX10_init 9 = .ok (.invokespecial 9, 3) := by decide +kernel
theorem dX10_init_12 : decode cX10_init 12 = .ok (.putfield 10, 3) := by decide +kernel
theorem dX10_init_15 : decode cX10_init 15 = .ok (.aload_n 0, 1) := by decide +kernel
theorem dX10_init_16 : decode cX10_init 16 = .ok (.new 16, 3) := by decide +kernel
theorem dX10_init_19 : decode cX10_init 19 = .ok (.dup, 1) := by decide +kernel
theorem dX10_init_20 : decode cX10_init 20 = .ok (.invokespecial 18, 3) := by decide +kernel
theorem dX10_init_23 : decode cX10_init 23 = .ok (.putfield 19, 3) := by decide +kernel
theorem dX10_init_26 : decode cX10_init 26 = .ok (.aload_n 0, 1) := by decide +kernel
theorem dX10_init_27 : decode cX10_init 27 = .ok (.new 7, 3) := by decide +kernel
theorem dX10_init_30 : decode cX10_init 30 = .ok (.dup, 1) := by decide +kernel
theorem dX10_init_31 : decode cX10_init 31 = .ok (.invokespecial 9, 3) := by decide +kernel
theorem dX10_init_34 : decode cX10_init 34 = .ok (.putfield 23, 3) := by decide +kernel
theorem dX10_init_37 : decode cX10_init 37 = .ok (.aload_n 0, 1) := by decide +kernel
theorem dX10_init_38 : decode cX10_init 38 = .ok (.new 16, 3) := by decide +kernel
theorem dX10_init_41 : decode cX10_init 41 = .ok (.dup, 1) := by decide +kernel
theorem dX10_init_42 : decode cX10_init 42 = .ok (.invokespecial 18, 3) := by decide +kernel
theorem dX10_init_45 : decode cX10_init 45 = .ok (.putfield 26, 3) := by decide +kernel
theorem dX10_init_48 : decode cX10_init 48 = .ok (.aload_n 0, 1) := by decide +kernel
theorem dX10_init_49 : decode cX10_init 49 = .ok (.new 7, 3) := by decide +kernel
theorem dX10_init_52 : decode cX10_init 52 = .ok (.dup, 1) := by decide +kernel
theorem dX10_init_53 : decode cX10_init 53 = .ok (.invokespecial 9, 3) := by decide +kernel
theorem dX10_init_56 : decode cX10_init 56 = .ok (.putfield 29, 3) := by decide +kernel
theorem dX10_init_59 : decode cX10_init 59 = .ok (.aload_n 0, 1) := by decide +kernel
theorem dX10_init_60 : decode cX10_init 60 = .ok (.new 32, 3) := by decide +kernel
theorem dX10_init_63 : decode cX10_init 63 = .ok (.dup, 1) := by decide +kernel
theorem dX10_init_64 : decode cX10_init 64 = .ok (.invokespecial 34, 3) := by decide +kernel
theorem dX10_init_67 : decode cX10_init 67 = .ok (.putfield 35, 3) := by decide +kernel
theorem dX10_init_70 : decode cX10_init 70 = .ok (.aload_n 0, 1) := by decide +kernel
theorem dX10_init_71 : decode cX10_init 71 = .ok (.new 39, 3) := by decide +kernel
theorem dX10_init_74 : decode cX10_init 74 = .ok (.dup, 1) := by decide +kernel
theorem dX10_init_75 : decode cX10_init 75 = .ok (.invokespecial 41, 3) := by decide +kernel
theorem dX10_init_78 : decode cX10_init 78 = .ok (.putfield 42, 3) := by decide +kernel
theorem dX10_init_81 : decode cX10_init 81 = .ok (.aload_n 0, 1) := by decide +kernel
theorem dX10_init_82 : decode cX10_init 82 = .ok (.new 46, 3) := by decide +kernel
theorem dX10_init_85 : decode cX10_init 85 = .ok (.dup, 1) := by decide +kernel
theorem dX10_init_86 : decode cX10_init 86 = .ok (.invokespecial 48, 3) := by decide +kernel
theorem dX10_init_89 : decode cX10_init 89 = .ok (.putfield 49, 3) := by decide +kernel
theorem dX10_init_92 : decode cX10_init 92 = .ok (.aload_n 0, 1) := by decide +kernel
theorem dX10_init_93 : decode cX10_init 93 = .ok (.new 53, 3) := by decide +kernel
theorem dX10_init_96 : decode cX10_init 96 = .ok (.dup, 1) := by decide +kernel
theorem dX10_init_97 : decode cX10_init 97 = .ok (.invokespecial 55, 3) := by decide +kernel
theorem dX10_init_100 : decode cX10_init 100 = .ok (.putfield 56, 3) := by decide +kernel
theorem dX10_init_103 : decode cX10_init 103 = .ok (.aload_n 0, 1) := by decide +kernel
theorem dX10_init_104 : decode cX10_init 104 = .ok (.new 60, 3) := by decide +kernel
theorem dX10_init_107 : decode cX10_init 107 = .ok (.dup, 1) := by decide +kernel
theorem dX10_init_108 : decode cX10_init 108 = .ok (.invokespecial 62, 3) := by decide +kernel
theorem dX10_init_111 : decode cX10_init 111 = .ok (.putfield 63, 3) := by decide +kernel
theorem dX10_init_114 : decode cX10_init 114 = .ok (.aload_n 0, 1) := by decide +kernel
theorem dX10_init_115 : decode cX10_init 115 = .ok (.iconst 4, 1) := by decide +kernel
theorem dX10_init_116 : decode cX10_init 116 = .ok (.anewarray 67, 3) := by decide +kernel
theorem dX10_init_119 : decode cX10_init 119 = .ok (.putfield 69, 3) := by decide +kernel
theorem dX10_init_122 : decode cX10_init 122 = .ok (.iconst 0, 1) := by decide +kernel
theorem dX10_init_123 : decode cX10_init 123 = .ok (.istore_n 1, 1) := by decide +kernel
theorem dX10_init_124 : decode cX10_init 124 = .ok (.iload_n 1, 1) := by decide +kernel
theorem dX10_init_125 : decode cX10_init 125 = .ok (.iconst 4, 1) := by decide +kernel
theorem dX10_init_126 : decode cX10_init 126 = .ok (.if_icmp .ge 22, 3) := by decide +kernel
theorem dX10_init_129 : decode cX10_init 129 = .ok (.aload_n 0, 1) := by decide +kernel
theorem dX10_init_130 : decode cX10_init 130 = .ok (.getfield 69, 3) := by decide +kernel
theorem dX10_init_133 : decode cX10_init 133 = .ok (.iload_n 1, 1) := by decide +kernel
theorem dX10_init_134 : decode cX10_init 134 = .ok (.new 67, 3) := by decide +kernel
theorem dX10_init_137 : decode cX10_init 137 = .ok (.dup, 1) := by decide +kernel
theorem dX10_init_138 : decode cX10_init 138 = .ok (.invokespecial 73, 3) := by decide +kernel
theorem dX10_init_141 : decode cX10_init 141 = .ok (.aastore, 1) := by decide +kernel
theorem dX10_init_142 : decode cX10_init 142 = .ok (.iinc 1 1, 3) := by decide +kernel
theorem dX10_init_145 : decode cX10_init 145 = .ok (.goto (-21), 3) := by decide +kernel
theorem dX10_init_148 : decode cX10_init 148 = .ok (.return_, 1) := by decide +kernel
theorem dX10_put_0 : decode cX10_put 0 = .ok (.aload_n 0, 1) := by decide +kernel
theorem dX10_put_1 : decode cX10_put 1 = .ok (.getfield 10, 3) := by decide +kernel
theorem dX10_put_4 : decode cX10_put 4 = .ok (.iload_n 1, 1) := by decide +kernel
theorem dX10_put_5 : decode cX10_put 5 = .ok (.invokevirtual 74, 3) := by decide +kernel
theorem dX10_put_8 : decode cX10_put 8 = .ok (.ifCond .eq 18, 3) := by decide +kernel
theorem dX10_put_11 : decode cX10_put 11 = .ok (.aload_n 0, 1) := by decide +kernel
theorem dX10_put_12 : decode cX10_put 12 = .ok (.getfield 10, 3) := by decide +kernel
theorem dX10_put_15 : decode cX10_put 15 = .ok (.iload_n 2, 1) := by decide +kernel
theorem dX10_put_16 : decode cX10_put 16 = .ok (.invokevirtual 78, 3) := by decide +kernel
theorem dX10_put_19 : decode cX10_put 19 = .ok (.ifCond .eq 7, 3) := by decide +kernel
theorem dX10_put_22 : decode cX10_put 22 = .ok (.iload_n 2, 1) := by decide +kernel
theorem dX10_put_23 : decode cX10_put 23 = .ok (.ifCond .ne 5, 3) := by decide +kernel
theorem dX10_put_26 : decode cX10_put 26 = .ok (.iconst (-1), 1) := by decide +kernel
theorem dX10_put_27 : decode cX10_put 27 = .ok (.ireturn, 1) := by decide +kernel
theorem dX10_put_28 : decode cX10_put 28 = .ok (.aload_n 0, 1) := by decide +kernel
theorem dX10_put_29 : decode cX10_put 29 = .ok (.getfield 10, 3) := by decide +kernel
theorem dX10_put_32 : decode cX10_put 32 = .ok (.getfield 81, 3) := by decide +kernel
theorem dX10_put_35 : decode cX10_put 35 = .ok (.iload_n 1, 1) := by decide +kernel
theorem dX10_put_36 : decode cX10_put 36 = .ok (.aaload, 1) := by decide +kernel
theorem dX10_put_37 : decode cX10_put 37 = .ok (.iload_n 2, 1) := by decide +kernel
theorem dX10_put_38 : decode cX10_put 38 = .ok (.invokevirtual 85, 3) := by decide +kernel
theorem dX10_put_41 : decode cX10_put 41 = .ok (.ifCond .ne 6, 3) := by decide +kernel
theorem dX10_put_44 : decode cX10_put 44 = .ok (.bipush (-2), 2) := by decide +kernel
theorem dX10_put_46 : decode cX10_put 46 = .ok (.ireturn, 1) := by decide +kernel
theorem dX10_put_47 : decode cX10_put 47 = .ok (.aload_n 0, 1) := by decide +kernel
theorem dX10_put_48 : decode cX10_put 48 = .ok (.getfield 19, 3) := by decide +kernel
theorem dX10_put_51 : decode cX10_put 51 = .ok (.aload_n 0, 1) := by decide +kernel
theorem dX10_put_52 : decode cX10_put 52 = .ok (.getfield 10, 3) := by decide +kernel
theorem dX10_put_55 : decode cX10_put 55 = .ok (.invokevirtual 91, 3) := by decide +kernel
theorem dX10_put_58 : decode cX10_put 58 = .ok (.aload_n 0, 1) := by decide +kernel
theorem dX10_put_59 : decode cX10_put 59 = .ok (.getfield 10, 3) := by decide +kernel
theorem dX10_put_62 : decode cX10_put 62 = .ok (.getfield 81, 3) := by decide +kernel
theorem dX10_put_65 : decode cX10_put 65 = .ok (.iload_n 1, 1) := by decide +kernel
theorem dX10_put_66 : decode cX10_put 66 = .ok (.aaload, 1) := by decide +kernel
theorem dX10_put_67 : decode cX10_put 67 = .ok (.iload_n 2, 1) := by decide +kernel
theorem dX10_put_68 : decode cX10_put 68 = .ok (.invokevirtual 95, 3) := by decide +kernel
theorem dX10_put_71 : decode cX10_put 71 = .ok (.pop, 1) := by decide +kernel
theorem dX10_put_72 : decode cX10_put 72 = .ok (.aload_n 0, 1) := by decide +kernel
theorem dX10_put_73 : decode cX10_put 73 = .ok (.getfield 10, 3) := by decide +kernel
theorem dX10_put_76 : decode cX10_put 76 = .ok (.getfield 81, 3) := by decide +kernel
theorem dX10_put_79 : decode cX10_put 79 = .ok (.iload_n 1, 1) := by decide +kernel
theorem dX10_put_80 : decode cX10_put 80 = .ok (.aaload, 1) := by decide +kernel
theorem dX10_put_81 : decode cX10_put 81 = .ok (.invokevirtual 98, 3) := by decide +kernel
theorem dX10_put_84 : decode cX10_put 84 = .ok (.ireturn, 1) := by decide +kernel
theorem dX10_node_0 : decode cX10_node 0 = .ok (.aload_n 0, 1) := by decide +kernel
theorem dX10_node_1 : decode cX10_node 1 = .ok (.getfield 10, 3) := by decide +kernel
theorem dX10_node_4 : decode cX10_node 4 = .ok (.iload_n 1, 1) := by decide +kernel
theorem dX10_node_5 : decode cX10_node 5 = .ok (.invokevirtual 74, 3) := by decide +kernel
theorem dX10_node_8 : decode cX10_node 8 = .ok (.ifCond .ne 5, 3) := by decide +kernel
theorem dX10_node_11 : decode cX10_node 11 = .ok (.iconst (-1), 1) := by decide +kernel
theorem dX10_node_12 : decode cX10_node 12 = .ok (.ireturn, 1) := by decide +kernel
theorem dX10_node_13 : decode cX10_node 13 = .ok (.iload_n 2, 1) := by decide +kernel
theorem dX10_node_14 : decode cX10_node 14 = .ok (.tableswitch 132 0 4 #[34, 47, 60, 70, 86], 34) := by decide +kernel
theorem dX10_node_48 : decode cX10_node 48 = .ok (.aload_n 0, 1) := by decide +kernel
theorem dX10_node_49 : decode cX10_node 49 = .ok (.getfield 10, 3) := by decide +kernel
theorem dX10_node_52 : decode cX10_node 52 = .ok (.getfield 81, 3) := by decide +kernel
theorem dX10_node_55 : decode cX10_node 55 = .ok (.iload_n 1, 1) := by decide +kernel
theorem dX10_node_56 : decode cX10_node 56 = .ok (.aaload, 1) := by decide +kernel
theorem dX10_node_57 : decode cX10_node 57 = .ok (.invokevirtual 98, 3) := by decide +kernel
theorem dX10_node_60 : decode cX10_node 60 = .ok (.ireturn, 1) := by decide +kernel
theorem dX10_node_61 : decode cX10_node 61 = .ok (.aload_n 0, 1) := by decide +kernel
theorem dX10_node_62 : decode cX10_node 62 = .ok (.getfield 10, 3) := by decide +kernel
theorem dX10_node_65 : decode cX10_node 65 = .ok (.getfield 81, 3) := by decide +kernel
theorem dX10_node_68 : decode cX10_node 68 = .ok (.iload_n 1, 1) := by decide +kernel
theorem dX10_node_69 : decode cX10_node 69 = .ok (.aaload, 1) := by decide +kernel
theorem dX10_node_70 : decode cX10_node 70 = .ok (.invokevirtual 102, 3) := by decide +kernel
theorem dX10_node_73 : decode cX10_node 73 = .ok (.ireturn, 1) := by decide +kernel
theorem dX10_node_74 : decode cX10_node 74 = .ok (.aload_n 0, 1) := by decide +kernel
theorem dX10_node_75 : decode cX10_node 75 = .ok (.getfield 10, 3) := by decide +kernel
theorem dX10_node_78 : decode cX10_node 78 = .ok (.getfield 105, 3) := by decide +kernel
theorem dX10_node_81 : decode cX10_node 81 = .ok (.iload_n 1, 1) := by decide +kernel
theorem dX10_node_82 : decode cX10_node 82 = .ok (.iaload, 1) := by decide +kernel
theorem dX10_node_83 : decode cX10_node 83 = .ok (.ireturn, 1) := by decide +kernel
theorem dX10_node_84 : decode cX10_node 84 = .ok (.aload_n 0, 1) := by decide +kernel
theorem dX10_node_85 : decode cX10_node 85 = .ok (.getfield 10, 3) := by decide +kernel
theorem dX10_node_88 : decode cX10_node 88 = .ok (.aload_n 0, 1) := by decide +kernel
theorem dX10_node_89 : decode cX10_node 89 = .ok (.getfield 10, 3) := by decide +kernel
theorem dX10_node_92 : decode cX10_node 92 = .ok (.getfield 109, 3) := by decide +kernel
theorem dX10_node_95 : decode cX10_node 95 = .ok (.iload_n 1, 1) := by decide +kernel
theorem dX10_node_96 : decode cX10_node 96 = .ok (.invokevirtual 112, 3) := by decide +kernel
theorem dX10_node_99 : decode cX10_node 99 = .ok (.ireturn, 1) := by decide +kernel
theorem dX10_node_100 : decode cX10_node 100 = .ok (.aload_n 0, 1) := by decide +kernel
theorem dX10_node_101 : decode cX10_node 101 = .ok (.getfield 35, 3) := by decide +kernel
theorem dX10_node_104 : decode cX10_node 104 = .ok (.aload_n 0, 1) := by decide +kernel
theorem dX10_node_105 : decode cX10_node 105 = .ok (.getfield 10, 3) := by decide +kernel
theorem dX10_node_108 : decode cX10_node 108 = .ok (.aload_n 0, 1) := by decide +kernel
theorem dX10_node_109 : decode cX10_node 109 = .ok (.getfield 10, 3) := by decide +kernel
theorem dX10_node_112 : decode cX10_node 112 = .ok (.getfield 116, 3) := by decide +kernel
theorem dX10_node_115 : decode cX10_node 115 = .ok (.invokevirtual 119, 3) := by decide +kernel
theorem dX10_node_118 : decode cX10_node 118 = .ok (.aload_n 0, 1) := by decide +kernel
theorem dX10_node_119 : decode cX10_node 119 = .ok (.getfield 35, 3) := by decide +kernel
theorem dX10_node_122 : decode cX10_node 122 = .ok (.aload_n 0, 1) := by decide +kernel
theorem dX10_node_123 : decode cX10_node 123 = .ok (.getfield 10, 3) := by decide +kernel
theorem dX10_node_126 : decode cX10_node 126 = .ok (.iload_n 1, 1) := by decide +kernel
theorem dX10_node_127 : decode cX10_node 127 = .ok (.aload_n 0, 1) := by decide +kernel
theorem dX10_node_128 : decode cX10_node 128 = .ok (.getfield 10, 3) := by decide +kernel
theorem dX10_node_131 : decode cX10_node 131 = .ok (.aload_n 0, 1) := by decide +kernel
theorem dX10_node_132 : decode cX10_node 132 = .ok (.getfield 10, 3) := by decide +kernel
theorem dX10_node_135 : decode cX10_node 135 = .ok (.getfield 109, 3) := by decide +kernel
theorem dX10_node_138 : decode cX10_node 138 = .ok (.iload_n 1, 1) := by decide +kernel
theorem dX10_node_139 : decode cX10_node 139 = .ok (.invokevirtual 112, 3) := by decide +kernel
theorem dX10_node_142 : decode cX10_node 142 = .ok (.invokevirtual 123, 3) := by decide +kernel
theorem dX10_node_145 : decode cX10_node 145 = .ok (.ireturn, 1) := by decide +kernel
theorem dX10_node_146 : decode cX10_node 146 = .ok (.iconst (-1), 1) := by decide +kernel
theorem dX10_node_147 : decode cX10_node 147 = .ok (.ireturn, 1) := by decide +kernel
theorem dX10_sum_0 : decode cX10_sum 0 = .ok (.aload_n 0, 1) := by decide +kernel
theorem dX10_sum_1 : decode cX10_sum 1 = .ok (.getfield 10, 3) := by decide +kernel
theorem dX10_sum_4 : decode cX10_sum 4 = .ok (.iload_n 1, 1) := by decide +kernel
theorem dX10_sum_5 : decode cX10_sum 5 = .ok (.invokevirtual 74, 3) := by decide +kernel
theorem dX10_sum_8 : decode cX10_sum 8 = .ok (.ifCond .eq 7, 3) := by decide +kernel
theorem dX10_sum_11 : decode cX10_sum 11 = .ok (.iload_n 2, 1) := by decide +kernel
theorem dX10_sum_12 : decode cX10_sum 12 = .ok (.ifCond .ge 5, 3) := by decide +kernel
theorem dX10_sum_15 : decode cX10_sum 15 = .ok (.iconst (-1), 1) := by decide +kernel
theorem dX10_sum_16 : decode cX10_sum 16 = .ok (.ireturn, 1) := by decide +kernel
theorem dX10_sum_17 : decode cX10_sum 17 = .ok (.iload_n 2, 1) := by decide +kernel
theorem dX10_sum_18 : decode cX10_sum 18 = .ok (.aload_n 0, 1) := by decide +kernel
theorem dX10_sum_19 : decode cX10_sum 19 = .ok (.getfield 10, 3) := by decide +kernel
theorem dX10_sum_22 : decode cX10_sum 22 = .ok (.getfield 81, 3) := by decide +kernel
theorem dX10_sum_25 : decode cX10_sum 25 = .ok (.iload_n 1, 1) := by decide +kernel
theorem dX10_sum_26 : decode cX10_sum 26 = .ok (.aaload, 1) := by decide +kernel
theorem dX10_sum_27 : decode cX10_sum 27 = .ok (.invokevirtual 98, 3) := by decide +kernel
theorem dX10_sum_30 : decode cX10_sum 30 = .ok (.if_icmp .ge 19, 3) := by decide +kernel
theorem dX10_sum_33 : decode cX10_sum 33 = .ok (.aload_n 0, 1) := by decide +kernel
theorem dX10_sum_34 : decode cX10_sum 34 = .ok (.getfield 10, 3) := by decide +kernel
theorem dX10_sum_37 : decode cX10_sum 37 = .ok (.getfield 81, 3) := by decide +kernel
theorem dX10_sum_40 : decode cX10_sum 40 = .ok (.iload_n 1, 1) := by decide +kernel
theorem dX10_sum_41 : decode cX10_sum 41 = .ok (.aaload, 1) := by decide +kernel
theorem dX10_sum_42 : decode cX10_sum 42 = .ok (.iload_n 2, 1) := by decide +kernel
theorem dX10_sum_43 : decode cX10_sum 43 = .ok (.invokevirtual 127, 3) := by decide +kernel
theorem dX10_sum_46 : decode cX10_sum 46 = .ok (.goto 5, 3) := by decide +kernel
theorem dX10_sum_49 : decode cX10_sum 49 = .ok (.bipush (-4), 2) := by decide +kernel
theorem dX10_sum_51 : decode cX10_sum 51 = .ok (.ireturn, 1) := by decide +kernel
theorem dX10_knows_0 : decode cX10_knows 0 = .ok (.aload_n 0, 1) := by decide +kernel
theorem dX10_knows_1 : decode cX10_knows 1 = .ok (.getfield 10, 3) := by decide +kernel
theorem dX10_knows_4 : decode cX10_knows 4 = .ok (.iload_n 1, 1) := by decide +kernel
theorem dX10_knows_5 : decode cX10_knows 5 = .ok (.invokevirtual 74, 3) := by decide +kernel
theorem dX10_knows_8 : decode cX10_knows 8 = .ok (.ifCond .eq 14, 3) := by decide +kernel
theorem dX10_knows_11 : decode cX10_knows 11 = .ok (.aload_n 0, 1) := by decide +kernel
theorem dX10_knows_12 : decode cX10_knows 12 = .ok (.getfield 10, 3) := by decide +kernel
theorem dX10_knows_15 : decode cX10_knows 15 = .ok (.iload_n 2, 1) := by decide +kernel
theorem dX10_knows_16 : decode cX10_knows 16 = .ok (.invokevirtual 78, 3) := by decide +kernel
theorem dX10_knows_19 : decode cX10_knows 19 = .ok (.ifCond .ne 5, 3) := by decide +kernel
theorem dX10_knows_22 : decode cX10_knows 22 = .ok (.iconst (-1), 1) := by decide +kernel
theorem dX10_knows_23 : decode cX10_knows 23 = .ok (.ireturn, 1) := by decide +kernel
theorem dX10_knows_24 : decode cX10_knows 24 = .ok (.aload_n 0, 1) := by decide +kernel
theorem dX10_knows_25 : decode cX10_knows 25 = .ok (.getfield 10, 3) := by decide +kernel
theorem dX10_knows_28 : decode cX10_knows 28 = .ok (.getfield 81, 3) := by decide +kernel
theorem dX10_knows_31 : decode cX10_knows 31 = .ok (.iload_n 1, 1) := by decide +kernel
theorem dX10_knows_32 : decode cX10_knows 32 = .ok (.aaload, 1) := by decide +kernel
theorem dX10_knows_33 : decode cX10_knows 33 = .ok (.iload_n 2, 1) := by decide +kernel
theorem dX10_knows_34 : decode cX10_knows 34 = .ok (.invokevirtual 85, 3) := by decide +kernel
theorem dX10_knows_37 : decode cX10_knows 37 = .ok (.ifCond .ne 7, 3) := by decide +kernel
theorem dX10_knows_40 : decode cX10_knows 40 = .ok (.iconst 1, 1) := by decide +kernel
theorem dX10_knows_41 : decode cX10_knows 41 = .ok (.goto 4, 3) := by decide +kernel
theorem dX10_knows_44 : decode cX10_knows 44 = .ok (.iconst 0, 1) := by decide +kernel
theorem dX10_knows_45 : decode cX10_knows 45 = .ok (.ireturn, 1) := by decide +kernel
theorem dX10_sends_0 : decode cX10_sends 0 = .ok (.aload_n 0, 1) := by decide +kernel
theorem dX10_sends_1 : decode cX10_sends 1 = .ok (.getfield 10, 3) := by decide +kernel
theorem dX10_sends_4 : decode cX10_sends 4 = .ok (.iload_n 1, 1) := by decide +kernel
theorem dX10_sends_5 : decode cX10_sends 5 = .ok (.invokevirtual 74, 3) := by decide +kernel
theorem dX10_sends_8 : decode cX10_sends 8 = .ok (.ifCond .ne 5, 3) := by decide +kernel
theorem dX10_sends_11 : decode cX10_sends 11 = .ok (.iconst (-1), 1) := by decide +kernel
theorem dX10_sends_12 : decode cX10_sends 12 = .ok (.ireturn, 1) := by decide +kernel
theorem dX10_sends_13 : decode cX10_sends 13 = .ok (.aload_n 0, 1) := by decide +kernel
theorem dX10_sends_14 : decode cX10_sends 14 = .ok (.getfield 35, 3) := by decide +kernel
theorem dX10_sends_17 : decode cX10_sends 17 = .ok (.aload_n 0, 1) := by decide +kernel
theorem dX10_sends_18 : decode cX10_sends 18 = .ok (.getfield 10, 3) := by decide +kernel
theorem dX10_sends_21 : decode cX10_sends 21 = .ok (.aload_n 0, 1) := by decide +kernel
theorem dX10_sends_22 : decode cX10_sends 22 = .ok (.getfield 10, 3) := by decide +kernel
theorem dX10_sends_25 : decode cX10_sends 25 = .ok (.getfield 116, 3) := by decide +kernel
theorem dX10_sends_28 : decode cX10_sends 28 = .ok (.invokevirtual 119, 3) := by decide +kernel
theorem dX10_sends_31 : decode cX10_sends 31 = .ok (.aload_n 0, 1) := by decide +kernel
theorem dX10_sends_32 : decode cX10_sends 32 = .ok (.getfield 10, 3) := by decide +kernel
theorem dX10_sends_35 : decode cX10_sends 35 = .ok (.getfield 116, 3) := by decide +kernel
theorem dX10_sends_38 : decode cX10_sends 38 = .ok (.iconst 3, 1) := by decide +kernel
theorem dX10_sends_39 : decode cX10_sends 39 = .ok (.if_icmp .ne 13, 3) := by decide +kernel
theorem dX10_sends_42 : decode cX10_sends 42 = .ok (.aload_n 0, 1) := by decide +kernel
theorem dX10_sends_43 : decode cX10_sends 43 = .ok (.getfield 35, 3) := by decide +kernel
theorem dX10_sends_46 : decode cX10_sends 46 = .ok (.getfield 130, 3) := by decide +kernel
theorem dX10_sends_49 : decode cX10_sends 49 = .ok (.iload_n 1, 1) := by decide +kernel
theorem dX10_sends_50 : decode cX10_sends 50 = .ok (.iaload, 1) := by decide +kernel
theorem dX10_sends_51 : decode cX10_sends 51 = .ok (.ireturn, 1) := by decide +kernel
theorem dX10_sends_52 : decode cX10_sends 52 = .ok (.aload_n 0, 1) := by decide +kernel
theorem dX10_sends_53 : decode cX10_sends 53 = .ok (.getfield 35, 3) := by decide +kernel
theorem dX10_sends_56 : decode cX10_sends 56 = .ok (.getfield 130, 3) := by decide +kernel
theorem dX10_sends_59 : decode cX10_sends 59 = .ok (.iload_n 1, 1) := by decide +kernel
theorem dX10_sends_60 : decode cX10_sends 60 = .ok (.iaload, 1) := by decide +kernel
theorem dX10_sends_61 : decode cX10_sends 61 = .ok (.ifCond .ne 8, 3) := by decide +kernel
theorem dX10_sends_64 : decode cX10_sends 64 = .ok (.bipush (-4), 2) := by decide +kernel
theorem dX10_sends_66 : decode cX10_sends 66 = .ok (.goto 11, 3) := by decide +kernel
theorem dX10_sends_69 : decode cX10_sends 69 = .ok (.aload_n 0, 1) := by decide +kernel
theorem dX10_sends_70 : decode cX10_sends 70 = .ok (.getfield 35, 3) := by decide +kernel
theorem dX10_sends_73 : decode cX10_sends 73 = .ok (.iload_n 1, 1) := by decide +kernel
theorem dX10_sends_74 : decode cX10_sends 74 = .ok (.invokevirtual 133, 3) := by decide +kernel
theorem dX10_sends_77 : decode cX10_sends 77 = .ok (.ireturn, 1) := by decide +kernel
theorem dX10_linked_0 : decode cX10_linked 0 = .ok (.iload_n 1, 1) := by decide +kernel
theorem dX10_linked_1 : decode cX10_linked 1 = .ok (.ifCond .lt 14, 3) := by decide +kernel
theorem dX10_linked_4 : decode cX10_linked 4 = .ok (.aload_n 0, 1) := by decide +kernel
theorem dX10_linked_5 : decode cX10_linked 5 = .ok (.getfield 10, 3) := by decide +kernel
theorem dX10_linked_8 : decode cX10_linked 8 = .ok (.iload_n 2, 1) := by decide +kernel
theorem dX10_linked_9 : decode cX10_linked 9 = .ok (.invokevirtual 74, 3) := by decide +kernel
theorem dX10_linked_12 : decode cX10_linked 12 = .ok (.ifCond .ne 7, 3) := by decide +kernel
theorem dX10_linked_15 : decode cX10_linked 15 = .ok (.iconst (-1), 1) := by decide +kernel
theorem dX10_linked_16 : decode cX10_linked 16 = .ok (.goto 12, 3) := by decide +kernel
theorem dX10_linked_19 : decode cX10_linked 19 = .ok (.aload_n 0, 1) := by decide +kernel
theorem dX10_linked_20 : decode cX10_linked 20 = .ok (.getfield 10, 3) := by decide +kernel
theorem dX10_linked_23 : decode cX10_linked 23 = .ok (.iload_n 1, 1) := by decide +kernel
theorem dX10_linked_24 : decode cX10_linked 24 = .ok (.iload_n 2, 1) := by decide +kernel
theorem dX10_linked_25 : decode cX10_linked 25 = .ok (.invokevirtual 112, 3) := by decide +kernel
theorem dX10_linked_28 : decode cX10_linked 28 = .ok (.ireturn, 1) := by decide +kernel
theorem dX10_count_0 : decode cX10_count 0 = .ok (.iload_n 1, 1) := by decide +kernel
theorem dX10_count_1 : decode cX10_count 1 = .ok (.tableswitch 126 0 8 #[51, 59, 67, 75, 83, 91, 102, 110, 118], 51) := by decide +kernel
theorem dX10_count_52 : decode cX10_count 52 = .ok (.aload_n 0, 1) := by decide +kernel
theorem dX10_count_53 : decode cX10_count 53 = .ok (.getfield 10, 3) := by decide +kernel
theorem dX10_count_56 : decode cX10_count 56 = .ok (.getfield 136, 3) := by decide +kernel
theorem dX10_count_59 : decode cX10_count 59 = .ok (.ireturn, 1) := by decide +kernel
theorem dX10_count_60 : decode cX10_count 60 = .ok (.aload_n 0, 1) := by decide +kernel
theorem dX10_count_61 : decode cX10_count 61 = .ok (.getfield 10, 3) := by decide +kernel
theorem dX10_count_64 : decode cX10_count 64 = .ok (.getfield 139, 3) := by decide +kernel
theorem dX10_count_67 : decode cX10_count 67 = .ok (.ireturn, 1) := by decide +kernel
theorem dX10_count_68 : decode cX10_count 68 = .ok (.aload_n 0, 1) := by decide +kernel
theorem dX10_count_69 : decode cX10_count 69 = .ok (.getfield 10, 3) := by decide +kernel
theorem dX10_count_72 : decode cX10_count 72 = .ok (.getfield 116, 3) := by decide +kernel
theorem dX10_count_75 : decode cX10_count 75 = .ok (.ireturn, 1) := by decide +kernel
theorem dX10_count_76 : decode cX10_count 76 = .ok (.aload_n 0, 1) := by decide +kernel
theorem dX10_count_77 : decode cX10_count 77 = .ok (.getfield 10, 3) := by decide +kernel
theorem dX10_count_80 : decode cX10_count 80 = .ok (.getfield 142, 3) := by decide +kernel
theorem dX10_count_83 : decode cX10_count 83 = .ok (.ireturn, 1) := by decide +kernel
theorem dX10_count_84 : decode cX10_count 84 = .ok (.aload_n 0, 1) := by decide +kernel
theorem dX10_count_85 : decode cX10_count 85 = .ok (.getfield 10, 3) := by decide +kernel
theorem dX10_count_88 : decode cX10_count 88 = .ok (.getfield 109, 3) := by decide +kernel
theorem dX10_count_91 : decode cX10_count 91 = .ok (.ireturn, 1) := by decide +kernel
theorem dX10_count_92 : decode cX10_count 92 = .ok (.aload_n 0, 1) := by decide +kernel
theorem dX10_count_93 : decode cX10_count 93 = .ok (.getfield 10, 3) := by decide +kernel
theorem dX10_count_96 : decode cX10_count 96 = .ok (.getfield 145, 3) := by decide +kernel
theorem dX10_count_99 : decode cX10_count 99 = .ok (.getfield 149, 3) := by decide +kernel
theorem dX10_count_102 : decode cX10_count 102 = .ok (.ireturn, 1) := by decide +kernel
theorem dX10_count_103 : decode cX10_count 103 = .ok (.aload_n 0, 1) := by decide +kernel
theorem dX10_count_104 : decode cX10_count 104 = .ok (.getfield 10, 3) := by decide +kernel
theorem dX10_count_107 : decode cX10_count 107 = .ok (.invokevirtual 154, 3) := by decide +kernel
theorem dX10_count_110 : decode cX10_count 110 = .ok (.ireturn, 1) := by decide +kernel
theorem dX10_count_111 : decode cX10_count 111 = .ok (.aload_n 0, 1) := by decide +kernel
theorem dX10_count_112 : decode cX10_count 112 = .ok (.getfield 10, 3) := by decide +kernel
theorem dX10_count_115 : decode cX10_count 115 = .ok (.invokevirtual 157, 3) := by decide +kernel
theorem dX10_count_118 : decode cX10_count 118 = .ok (.ireturn, 1) := by decide +kernel
theorem dX10_count_119 : decode cX10_count 119 = .ok (.aload_n 0, 1) := by decide +kernel
theorem dX10_count_120 : decode cX10_count 120 = .ok (.getfield 19, 3) := by decide +kernel
theorem dX10_count_123 : decode cX10_count 123 = .ok (.getfield 160, 3) := by decide +kernel
theorem dX10_count_126 : decode cX10_count 126 = .ok (.ireturn, 1) := by decide +kernel
theorem dX10_count_127 : decode cX10_count 127 = .ok (.iconst (-1), 1) := by decide +kernel
theorem dX10_count_128 : decode cX10_count 128 = .ok (.ireturn, 1) := by decide +kernel
theorem dX10_go_0 : decode cX10_go 0 = .ok (.iload_n 1, 1) := by decide +kernel
theorem dX10_go_1 : decode cX10_go 1 = .ok (.iconst 1, 1) := by decide +kernel
theorem dX10_go_2 : decode cX10_go 2 = .ok (.if_icmp .lt 9, 3) := by decide +kernel
theorem dX10_go_5 : decode cX10_go 5 = .ok (.iload_n 1, 1) := by decide +kernel
theorem dX10_go_6 : decode cX10_go 6 = .ok (.bipush 20, 2) := by decide +kernel
theorem dX10_go_8 : decode cX10_go 8 = .ok (.if_icmp .le 5, 3) := by decide +kernel
theorem dX10_go_11 : decode cX10_go 11 = .ok (.iconst (-1), 1) := by decide +kernel
theorem dX10_go_12 : decode cX10_go 12 = .ok (.ireturn, 1) := by decide +kernel
theorem dX10_go_13 : decode cX10_go 13 = .ok (.aload_n 0, 1) := by decide +kernel
theorem dX10_go_14 : decode cX10_go 14 = .ok (.getfield 10, 3) := by decide +kernel
theorem dX10_go_17 : decode cX10_go 17 = .ok (.invokevirtual 162, 3) := by decide +kernel
theorem dX10_go_20 : decode cX10_go 20 = .ok (.ifCond .eq 6, 3) := by decide +kernel
theorem dX10_go_23 : decode cX10_go 23 = .ok (.bipush (-2), 2) := by decide +kernel
theorem dX10_go_25 : decode cX10_go 25 = .ok (.ireturn, 1) := by decide +kernel
theorem dX10_go_26 : decode cX10_go 26 = .ok (.aload_n 0, 1) := by decide +kernel
theorem dX10_go_27 : decode cX10_go 27 = .ok (.getfield 19, 3) := by decide +kernel
theorem dX10_go_30 : decode cX10_go 30 = .ok (.aload_n 0, 1) := by decide +kernel
theorem dX10_go_31 : decode cX10_go 31 = .ok (.getfield 10, 3) := by decide +kernel
theorem dX10_go_34 : decode cX10_go 34 = .ok (.invokevirtual 91, 3) := by decide +kernel
theorem dX10_go_37 : decode cX10_go 37 = .ok (.aload_n 0, 1) := by decide +kernel
theorem dX10_go_38 : decode cX10_go 38 = .ok (.getfield 35, 3) := by decide +kernel
theorem dX10_go_41 : decode cX10_go 41 = .ok (.aload_n 0, 1) := by decide +kernel
theorem dX10_go_42 : decode cX10_go 42 = .ok (.getfield 10, 3) := by decide +kernel
theorem dX10_go_45 : decode cX10_go 45 = .ok (.iload_n 1, 1) := by decide +kernel
theorem dX10_go_46 : decode cX10_go 46 = .ok (.invokevirtual 166, 3) := by decide +kernel
theorem dX10_go_49 : decode cX10_go 49 = .ok (.ireturn, 1) := by decide +kernel
theorem dX10_gain_0 : decode cX10_gain 0 = .ok (.iload_n 1, 1) := by decide +kernel
theorem dX10_gain_1 : decode cX10_gain 1 = .ok (.ifCond .lt 8, 3) := by decide +kernel
theorem dX10_gain_4 : decode cX10_gain 4 = .ok (.iload_n 1, 1) := by decide +kernel
theorem dX10_gain_5 : decode cX10_gain 5 = .ok (.iconst 2, 1) := by decide +kernel
theorem dX10_gain_6 : decode cX10_gain 6 = .ok (.if_icmp .le 5, 3) := by decide +kernel
theorem dX10_gain_9 : decode cX10_gain 9 = .ok (.iconst (-1), 1) := by decide +kernel
theorem dX10_gain_10 : decode cX10_gain 10 = .ok (.ireturn, 1) := by decide +kernel
theorem dX10_gain_11 : decode cX10_gain 11 = .ok (.aload_n 0, 1) := by decide +kernel
theorem dX10_gain_12 : decode cX10_gain 12 = .ok (.getfield 35, 3) := by decide +kernel
theorem dX10_gain_15 : decode cX10_gain 15 = .ok (.aload_n 0, 1) := by decide +kernel
theorem dX10_gain_16 : decode cX10_gain 16 = .ok (.getfield 10, 3) := by decide +kernel
theorem dX10_gain_19 : decode cX10_gain 19 = .ok (.aload_n 0, 1) := by decide +kernel
theorem dX10_gain_20 : decode cX10_gain 20 = .ok (.getfield 10, 3) := by decide +kernel
theorem dX10_gain_23 : decode cX10_gain 23 = .ok (.getfield 116, 3) := by decide +kernel
theorem dX10_gain_26 : decode cX10_gain 26 = .ok (.invokevirtual 119, 3) := by decide +kernel
theorem dX10_gain_29 : decode cX10_gain 29 = .ok (.iload_n 1, 1) := by decide +kernel
theorem dX10_gain_30 : decode cX10_gain 30 = .ok (.iconst 1, 1) := by decide +kernel
theorem dX10_gain_31 : decode cX10_gain 31 = .ok (.if_icmp .ne 33, 3) := by decide +kernel
theorem dX10_gain_34 : decode cX10_gain 34 = .ok (.aload_n 0, 1) := by decide +kernel
theorem dX10_gain_35 : decode cX10_gain 35 = .ok (.getfield 42, 3) := by decide +kernel
theorem dX10_gain_38 : decode cX10_gain 38 = .ok (.aload_n 0, 1) := by decide +kernel
theorem dX10_gain_39 : decode cX10_gain 39 = .ok (.getfield 10, 3) := by decide +kernel
theorem dX10_gain_42 : decode cX10_gain 42 = .ok (.aload_n 0, 1) := by decide +kernel
theorem dX10_gain_43 : decode cX10_gain 43 = .ok (.getfield 35, 3) := by decide +kernel
theorem dX10_gain_46 : decode cX10_gain 46 = .ok (.invokevirtual 170, 3) := by decide +kernel
theorem dX10_gain_49 : decode cX10_gain 49 = .ok (.aload_n 0, 1) := by decide +kernel
theorem dX10_gain_50 : decode cX10_gain 50 = .ok (.getfield 42, 3) := by decide +kernel
theorem dX10_gain_53 : decode cX10_gain 53 = .ok (.aload_n 0, 1) := by decide +kernel
theorem dX10_gain_54 : decode cX10_gain 54 = .ok (.getfield 10, 3) := by decide +kernel
theorem dX10_gain_57 : decode cX10_gain 57 = .ok (.getfield 136, 3) := by decide +kernel
theorem dX10_gain_60 : decode cX10_gain 60 = .ok (.invokevirtual 174, 3) := by decide +kernel
theorem dX10_gain_63 : decode cX10_gain 63 = .ok (.ireturn, 1) := by decide +kernel
theorem dX10_gain_64 : decode cX10_gain 64 = .ok (.iload_n 1, 1) := by decide +kernel
theorem dX10_gain_65 : decode cX10_gain 65 = .ok (.ifCond .ne 21, 3) := by decide +kernel
theorem dX10_gain_68 : decode cX10_gain 68 = .ok (.aload_n 0, 1) := by decide +kernel
theorem dX10_gain_69 : decode cX10_gain 69 = .ok (.getfield 42, 3) := by decide +kernel
theorem dX10_gain_72 : decode cX10_gain 72 = .ok (.aload_n 0, 1) := by decide +kernel
theorem dX10_gain_73 : decode cX10_gain 73 = .ok (.getfield 10, 3) := by decide +kernel
theorem dX10_gain_76 : decode cX10_gain 76 = .ok (.aload_n 0, 1) := by decide +kernel
theorem dX10_gain_77 : decode cX10_gain 77 = .ok (.getfield 35, 3) := by decide +kernel
theorem dX10_gain_80 : decode cX10_gain 80 = .ok (.invokevirtual 177, 3) := by decide +kernel
theorem dX10_gain_83 : decode cX10_gain 83 = .ok (.goto 18, 3) := by decide +kernel
theorem dX10_gain_86 : decode cX10_gain 86 = .ok (.aload_n 0, 1) := by decide +kernel
theorem dX10_gain_87 : decode cX10_gain 87 = .ok (.getfield 42, 3) := by decide +kernel
theorem dX10_gain_90 : decode cX10_gain 90 = .ok (.aload_n 0, 1) := by decide +kernel
theorem dX10_gain_91 : decode cX10_gain 91 = .ok (.getfield 10, 3) := by decide +kernel
theorem dX10_gain_94 : decode cX10_gain 94 = .ok (.aload_n 0, 1) := by decide +kernel
theorem dX10_gain_95 : decode cX10_gain 95 = .ok (.getfield 35, 3) := by decide +kernel
theorem dX10_gain_98 : decode cX10_gain 98 = .ok (.invokevirtual 181, 3) := by decide +kernel
theorem dX10_gain_101 : decode cX10_gain 101 = .ok (.ireturn, 1) := by decide +kernel
theorem dX10_foreseen_0 : decode cX10_foreseen 0 = .ok (.aload_n 0, 1) := by decide +kernel
theorem dX10_foreseen_1 : decode cX10_foreseen 1 = .ok (.getfield 29, 3) := by decide +kernel
theorem dX10_foreseen_4 : decode cX10_foreseen 4 = .ok (.aload_n 0, 1) := by decide +kernel
theorem dX10_foreseen_5 : decode cX10_foreseen 5 = .ok (.getfield 10, 3) := by decide +kernel
theorem dX10_foreseen_8 : decode cX10_foreseen 8 = .ok (.invokevirtual 184, 3) := by decide +kernel
theorem dX10_foreseen_11 : decode cX10_foreseen 11 = .ok (.aload_n 0, 1) := by decide +kernel
theorem dX10_foreseen_12 : decode cX10_foreseen 12 = .ok (.getfield 35, 3) := by decide +kernel
theorem dX10_foreseen_15 : decode cX10_foreseen 15 = .ok (.aload_n 0, 1) := by decide +kernel
theorem dX10_foreseen_16 : decode cX10_foreseen 16 = .ok (.getfield 29, 3) := by decide +kernel
theorem dX10_foreseen_19 : decode cX10_foreseen 19 = .ok (.bipush 60, 2) := by decide +kernel
theorem dX10_foreseen_21 : decode cX10_foreseen 21 = .ok (.invokevirtual 166, 3) := by decide +kernel
theorem dX10_foreseen_24 : decode cX10_foreseen 24 = .ok (.istore_n 1, 1) := by decide +kernel
theorem dX10_foreseen_25 : decode cX10_foreseen 25 = .ok (.aload_n 0, 1) := by decide +kernel
theorem dX10_foreseen_26 : decode cX10_foreseen 26 = .ok (.getfield 29, 3) := by decide +kernel
theorem dX10_foreseen_29 : decode cX10_foreseen 29 = .ok (.invokevirtual 162, 3) := by decide +kernel
theorem dX10_foreseen_32 : decode cX10_foreseen 32 = .ok (.ifCond .eq 7, 3) := by decide +kernel
theorem dX10_foreseen_35 : decode cX10_foreseen 35 = .ok (.iload_n 1, 1) := by decide +kernel
theorem dX10_foreseen_36 : decode cX10_foreseen 36 = .ok (.goto 5, 3) := by decide +kernel
theorem dX10_foreseen_39 : decode cX10_foreseen 39 = .ok (.bipush (-4), 2) := by decide +kernel
theorem dX10_foreseen_41 : decode cX10_foreseen 41 = .ok (.ireturn, 1) := by decide +kernel
theorem dX10_views_0 : decode cX10_views 0 = .ok (.iload_n 1, 1) := by decide +kernel
theorem dX10_views_1 : decode cX10_views 1 = .ok (.ifCond .lt 9, 3) := by decide +kernel
theorem dX10_views_4 : decode cX10_views 4 = .ok (.iload_n 1, 1) := by decide +kernel
theorem dX10_views_5 : decode cX10_views 5 = .ok (.bipush 9, 2) := by decide +kernel
theorem dX10_views_7 : decode cX10_views 7 = .ok (.if_icmp .le 7, 3) := by decide +kernel
theorem dX10_views_10 : decode cX10_views 10 = .ok (.iconst (-1), 1) := by decide +kernel
theorem dX10_views_11 : decode cX10_views 11 = .ok (.goto 15, 3) := by decide +kernel
theorem dX10_views_14 : decode cX10_views 14 = .ok (.aload_n 0, 1) := by decide +kernel
theorem dX10_views_15 : decode cX10_views 15 = .ok (.getfield 49, 3) := by decide +kernel
theorem dX10_views_18 : decode cX10_views 18 = .ok (.aload_n 0, 1) := by decide +kernel
theorem dX10_views_19 : decode cX10_views 19 = .ok (.getfield 10, 3) := by decide +kernel
theorem dX10_views_22 : decode cX10_views 22 = .ok (.iload_n 1, 1) := by decide +kernel
theorem dX10_views_23 : decode cX10_views 23 = .ok (.invokevirtual 187, 3) := by decide +kernel
theorem dX10_views_26 : decode cX10_views 26 = .ok (.ireturn, 1) := by decide +kernel
theorem dX10_view_0 : decode cX10_view 0 = .ok (.iload_n 1, 1) := by decide +kernel
theorem dX10_view_1 : decode cX10_view 1 = .ok (.ifCond .lt 20, 3) := by decide +kernel
theorem dX10_view_4 : decode cX10_view 4 = .ok (.iload_n 1, 1) := by decide +kernel
theorem dX10_view_5 : decode cX10_view 5 = .ok (.bipush 9, 2) := by decide +kernel
theorem dX10_view_7 : decode cX10_view 7 = .ok (.if_icmp .gt 14, 3) := by decide +kernel
theorem dX10_view_10 : decode cX10_view 10 = .ok (.aload_n 0, 1) := by decide +kernel
theorem dX10_view_11 : decode cX10_view 11 = .ok (.getfield 10, 3) := by decide +kernel
theorem dX10_view_14 : decode cX10_view 14 = .ok (.iload_n 2, 1) := by decide +kernel
theorem dX10_view_15 : decode cX10_view 15 = .ok (.invokevirtual 74, 3) := by decide +kernel
theorem dX10_view_18 : decode cX10_view 18 = .ok (.ifCond .ne 5, 3) := by decide +kernel
theorem dX10_view_21 : decode cX10_view 21 = .ok (.iconst (-1), 1) := by decide +kernel
theorem dX10_view_22 : decode cX10_view 22 = .ok (.ireturn, 1) := by decide +kernel
theorem dX10_view_23 : decode cX10_view 23 = .ok (.aload_n 0, 1) := by decide +kernel
theorem dX10_view_24 : decode cX10_view 24 = .ok (.getfield 49, 3) := by decide +kernel
theorem dX10_view_27 : decode cX10_view 27 = .ok (.aload_n 0, 1) := by decide +kernel
theorem dX10_view_28 : decode cX10_view 28 = .ok (.getfield 10, 3) := by decide +kernel
theorem dX10_view_31 : decode cX10_view 31 = .ok (.iload_n 1, 1) := by decide +kernel
theorem dX10_view_32 : decode cX10_view 32 = .ok (.invokevirtual 187, 3) := by decide +kernel
theorem dX10_view_35 : decode cX10_view 35 = .ok (.pop, 1) := by decide +kernel
theorem dX10_view_36 : decode cX10_view 36 = .ok (.aload_n 0, 1) := by decide +kernel
theorem dX10_view_37 : decode cX10_view 37 = .ok (.getfield 49, 3) := by decide +kernel
theorem dX10_view_40 : decode cX10_view 40 = .ok (.getfield 190, 3) := by decide +kernel
theorem dX10_view_43 : decode cX10_view 43 = .ok (.iload_n 2, 1) := by decide +kernel
theorem dX10_view_44 : decode cX10_view 44 = .ok (.iaload, 1) := by decide +kernel
theorem dX10_view_45 : decode cX10_view 45 = .ok (.ireturn, 1) := by decide +kernel
theorem dX10_joined_0 : decode cX10_joined 0 = .ok (.iload_n 1, 1) := by decide +kernel
theorem dX10_joined_1 : decode cX10_joined 1 = .ok (.ifCond .lt 18, 3) := by decide +kernel
theorem dX10_joined_4 : decode cX10_joined 4 = .ok (.iload_n 1, 1) := by decide +kernel
theorem dX10_joined_5 : decode cX10_joined 5 = .ok (.bipush 10, 2) := by decide +kernel
theorem dX10_joined_7 : decode cX10_joined 7 = .ok (.if_icmp .gt 12, 3) := by decide +kernel
theorem dX10_joined_10 : decode cX10_joined 10 = .ok (.iload_n 2, 1) := by decide +kernel
theorem dX10_joined_11 : decode cX10_joined 11 = .ok (.ifCond .lt 8, 3) := by decide +kernel
theorem dX10_joined_14 : decode cX10_joined 14 = .ok (.iload_n 2, 1) := by decide +kernel
theorem dX10_joined_15 : decode cX10_joined 15 = .ok (.iconst 1, 1) := by decide +kernel
theorem dX10_joined_16 : decode cX10_joined 16 = .ok (.if_icmp .le 7, 3) := by decide +kernel
theorem dX10_joined_19 : decode cX10_joined 19 = .ok (.ldc2_w 193, 3) := by decide +kernel
theorem dX10_joined_22 : decode cX10_joined 22 = .ok (.lreturn, 1) := by decide +kernel
theorem dX10_joined_23 : decode cX10_joined 23 = .ok (.aload_n 0, 1) := by decide +kernel
theorem dX10_joined_24 : decode cX10_joined 24 = .ok (.getfield 56, 3) := by decide +kernel
theorem dX10_joined_27 : decode cX10_joined 27 = .ok (.aload_n 0, 1) := by decide +kernel
theorem dX10_joined_28 : decode cX10_joined 28 = .ok (.getfield 10, 3) := by decide +kernel
theorem dX10_joined_31 : decode cX10_joined 31 = .ok (.iload_n 1, 1) := by decide +kernel
theorem dX10_joined_32 : decode cX10_joined 32 = .ok (.invokevirtual 195, 3) := by decide +kernel
theorem dX10_joined_35 : decode cX10_joined 35 = .ok (.iload_n 2, 1) := by decide +kernel
theorem dX10_joined_36 : decode cX10_joined 36 = .ok (.ifCond .ne 13, 3) := by decide +kernel
theorem dX10_joined_39 : decode cX10_joined 39 = .ok (.aload_n 0, 1) := by decide +kernel
theorem dX10_joined_40 : decode cX10_joined 40 = .ok (.getfield 56, 3) := by decide +kernel
theorem dX10_joined_43 : decode cX10_joined 43 = .ok (.getfield 198, 3) := by decide +kernel
theorem dX10_joined_46 : decode cX10_joined 46 = .ok (.goto 10, 3) := by decide +kernel
theorem dX10_joined_49 : decode cX10_joined 49 = .ok (.aload_n 0, 1) := by decide +kernel
theorem dX10_joined_50 : decode cX10_joined 50 = .ok (.getfield 56, 3) := by decide +kernel
theorem dX10_joined_53 : decode cX10_joined 53 = .ok (.getfield 202, 3) := by decide +kernel
theorem dX10_joined_56 : decode cX10_joined 56 = .ok (.lreturn, 1) := by decide +kernel
theorem dX10_tell_0 : decode cX10_tell 0 = .ok (.aload_n 0, 1) := by decide +kernel
theorem dX10_tell_1 : decode cX10_tell 1 = .ok (.getfield 10, 3) := by decide +kernel
theorem dX10_tell_4 : decode cX10_tell 4 = .ok (.iload_n 1, 1) := by decide +kernel
theorem dX10_tell_5 : decode cX10_tell 5 = .ok (.iload_n 2, 1) := by decide +kernel
theorem dX10_tell_6 : decode cX10_tell 6 = .ok (.invokevirtual 205, 3) := by decide +kernel
theorem dX10_tell_9 : decode cX10_tell 9 = .ok (.ifCond .ne 5, 3) := by decide +kernel
theorem dX10_tell_12 : decode cX10_tell 12 = .ok (.iconst (-1), 1) := by decide +kernel
theorem dX10_tell_13 : decode cX10_tell 13 = .ok (.ireturn, 1) := by decide +kernel
theorem dX10_tell_14 : decode cX10_tell 14 = .ok (.aload_n 0, 1) := by decide +kernel
theorem dX10_tell_15 : decode cX10_tell 15 = .ok (.getfield 10, 3) := by decide +kernel
theorem dX10_tell_18 : decode cX10_tell 18 = .ok (.iload_n 1, 1) := by decide +kernel
theorem dX10_tell_19 : decode cX10_tell 19 = .ok (.invokevirtual 209, 3) := by decide +kernel
theorem dX10_tell_22 : decode cX10_tell 22 = .ok (.istore_n 3, 1) := by decide +kernel
theorem dX10_tell_23 : decode cX10_tell 23 = .ok (.iload_n 3, 1) := by decide +kernel
theorem dX10_tell_24 : decode cX10_tell 24 = .ok (.iload_n 2, 1) := by decide +kernel
theorem dX10_tell_25 : decode cX10_tell 25 = .ok (.if_icmp .ne 6, 3) := by decide +kernel
theorem dX10_tell_28 : decode cX10_tell 28 = .ok (.bipush (-2), 2) := by decide +kernel
theorem dX10_tell_30 : decode cX10_tell 30 = .ok (.ireturn, 1) := by decide +kernel
theorem dX10_tell_31 : decode cX10_tell 31 = .ok (.aload_n 0, 1) := by decide +kernel
theorem dX10_tell_32 : decode cX10_tell 32 = .ok (.getfield 19, 3) := by decide +kernel
theorem dX10_tell_35 : decode cX10_tell 35 = .ok (.aload_n 0, 1) := by decide +kernel
theorem dX10_tell_36 : decode cX10_tell 36 = .ok (.getfield 10, 3) := by decide +kernel
theorem dX10_tell_39 : decode cX10_tell 39 = .ok (.invokevirtual 91, 3) := by decide +kernel
theorem dX10_tell_42 : decode cX10_tell 42 = .ok (.aload_n 0, 1) := by decide +kernel
theorem dX10_tell_43 : decode cX10_tell 43 = .ok (.getfield 10, 3) := by decide +kernel
theorem dX10_tell_46 : decode cX10_tell 46 = .ok (.iload_n 1, 1) := by decide +kernel
theorem dX10_tell_47 : decode cX10_tell 47 = .ok (.iload_n 2, 1) := by decide +kernel
theorem dX10_tell_48 : decode cX10_tell 48 = .ok (.invokevirtual 212, 3) := by decide +kernel
theorem dX10_tell_51 : decode cX10_tell 51 = .ok (.iload_n 3, 1) := by decide +kernel
theorem dX10_tell_52 : decode cX10_tell 52 = .ok (.ireturn, 1) := by decide +kernel
theorem dX10_type_0 : decode cX10_type 0 = .ok (.iload_n 1, 1) := by decide +kernel
theorem dX10_type_1 : decode cX10_type 1 = .ok (.bipush 32, 2) := by decide +kernel
theorem dX10_type_3 : decode cX10_type 3 = .ok (.if_icmp .lt 9, 3) := by decide +kernel
theorem dX10_type_6 : decode cX10_type 6 = .ok (.iload_n 1, 1) := by decide +kernel
theorem dX10_type_7 : decode cX10_type 7 = .ok (.bipush 126, 2) := by decide +kernel
theorem dX10_type_9 : decode cX10_type 9 = .ok (.if_icmp .le 5, 3) := by decide +kernel
theorem dX10_type_12 : decode cX10_type 12 = .ok (.iconst (-1), 1) := by decide +kernel
theorem dX10_type_13 : decode cX10_type 13 = .ok (.ireturn, 1) := by decide +kernel
theorem dX10_type_14 : decode cX10_type 14 = .ok (.aload_n 0, 1) := by decide +kernel
theorem dX10_type_15 : decode cX10_type 15 = .ok (.getfield 63, 3) := by decide +kernel
theorem dX10_type_18 : decode cX10_type 18 = .ok (.iload_n 1, 1) := by decide +kernel
theorem dX10_type_19 : decode cX10_type 19 = .ok (.i2c, 1) := by decide +kernel
theorem dX10_type_20 : decode cX10_type 20 = .ok (.invokevirtual 216, 3) := by decide +kernel
theorem dX10_type_23 : decode cX10_type 23 = .ok (.ifCond .eq 13, 3) := by decide +kernel
theorem dX10_type_26 : decode cX10_type 26 = .ok (.aload_n 0, 1) := by decide +kernel
theorem dX10_type_27 : decode cX10_type 27 = .ok (.getfield 63, 3) := by decide +kernel
theorem dX10_type_30 : decode cX10_type 30 = .ok (.getfield 220, 3) := by decide +kernel
theorem dX10_type_33 : decode cX10_type 33 = .ok (.goto 5, 3) := by decide +kernel
theorem dX10_type_36 : decode cX10_type 36 = .ok (.bipush (-3), 2) := by decide +kernel
theorem dX10_type_38 : decode cX10_type 38 = .ok (.ireturn, 1) := by decide +kernel
theorem dX10_read_0 : decode cX10_read 0 = .ok (.aload_n 0, 1) := by decide +kernel
theorem dX10_read_1 : decode cX10_read 1 = .ok (.getfield 63, 3) := by decide +kernel
theorem dX10_read_4 : decode cX10_read 4 = .ok (.aload_n 0, 1) := by decide +kernel
theorem dX10_read_5 : decode cX10_read 5 = .ok (.getfield 10, 3) := by decide +kernel
theorem dX10_read_8 : decode cX10_read 8 = .ok (.getfield 136, 3) := by decide +kernel
theorem dX10_read_11 : decode cX10_read 11 = .ok (.invokevirtual 221, 3) := by decide +kernel
theorem dX10_read_14 : decode cX10_read 14 = .ok (.istore_n 1, 1) := by decide +kernel
theorem dX10_read_15 : decode cX10_read 15 = .ok (.aload_n 0, 1) := by decide +kernel
theorem dX10_read_16 : decode cX10_read 16 = .ok (.getfield 63, 3) := by decide +kernel
theorem dX10_read_19 : decode cX10_read 19 = .ok (.invokevirtual 224, 3) := by decide +kernel
theorem dX10_read_22 : decode cX10_read 22 = .ok (.iload_n 1, 1) := by decide +kernel
theorem dX10_read_23 : decode cX10_read 23 = .ok (.ifCond .le 31, 3) := by decide +kernel
theorem dX10_read_26 : decode cX10_read 26 = .ok (.aload_n 0, 1) := by decide +kernel
theorem dX10_read_27 : decode cX10_read 27 = .ok (.getfield 19, 3) := by decide +kernel
theorem dX10_read_30 : decode cX10_read 30 = .ok (.aload_n 0, 1) := by decide +kernel
theorem dX10_read_31 : decode cX10_read 31 = .ok (.getfield 10, 3) := by decide +kernel
theorem dX10_read_34 : decode cX10_read 34 = .ok (.invokevirtual 91, 3) := by decide +kernel
theorem dX10_read_37 : decode cX10_read 37 = .ok (.aload_n 0, 1) := by decide +kernel
theorem dX10_read_38 : decode cX10_read 38 = .ok (.getfield 10, 3) := by decide +kernel
theorem dX10_read_41 : decode cX10_read 41 = .ok (.getfield 145, 3) := by decide +kernel
theorem dX10_read_44 : decode cX10_read 44 = .ok (.aload_n 0, 1) := by decide +kernel
theorem dX10_read_45 : decode cX10_read 45 = .ok (.getfield 63, 3) := by decide +kernel
theorem dX10_read_48 : decode cX10_read 48 = .ok (.getfield 227, 3) := by decide +kernel
theorem dX10_read_51 : decode cX10_read 51 = .ok (.invokevirtual 228, 3) := by decide +kernel
theorem dX10_read_54 : decode cX10_read 54 = .ok (.iload_n 1, 1) := by decide +kernel
theorem dX10_read_55 : decode cX10_read 55 = .ok (.ireturn, 1) := by decide +kernel
theorem dX10_drift_0 : decode cX10_drift 0 = .ok (.iload_n 1, 1) := by decide +kernel
theorem dX10_drift_1 : decode cX10_drift 1 = .ok (.iconst 1, 1) := by decide +kernel
theorem dX10_drift_2 : decode cX10_drift 2 = .ok (.if_icmp .lt 9, 3) := by decide +kernel
theorem dX10_drift_5 : decode cX10_drift 5 = .ok (.iload_n 1, 1) := by decide +kernel
theorem dX10_drift_6 : decode cX10_drift 6 = .ok (.bipush 40, 2) := by decide +kernel
theorem dX10_drift_8 : decode cX10_drift 8 = .ok (.if_icmp .le 5, 3) := by decide +kernel
theorem dX10_drift_11 : decode cX10_drift 11 = .ok (.iconst (-1), 1) := by decide +kernel
theorem dX10_drift_12 : decode cX10_drift 12 = .ok (.ireturn, 1) := by decide +kernel
theorem dX10_drift_13 : decode cX10_drift 13 = .ok (.iconst 0, 1) := by decide +kernel
theorem dX10_drift_14 : decode cX10_drift 14 = .ok (.istore_n 2, 1) := by decide +kernel
theorem dX10_drift_15 : decode cX10_drift 15 = .ok (.iload_n 2, 1) := by decide +kernel
theorem dX10_drift_16 : decode cX10_drift 16 = .ok (.iload_n 1, 1) := by decide +kernel
theorem dX10_drift_17 : decode cX10_drift 17 = .ok (.if_icmp .ge 24, 3) := by decide +kernel
theorem dX10_drift_20 : decode cX10_drift 20 = .ok (.aload_n 0, 1) := by decide +kernel
theorem dX10_drift_21 : decode cX10_drift 21 = .ok (.getfield 19, 3) := by decide +kernel
theorem dX10_drift_24 : decode cX10_drift 24 = .ok (.aload_n 0, 1) := by decide +kernel
theorem dX10_drift_25 : decode cX10_drift 25 = .ok (.getfield 10, 3) := by decide +kernel
theorem dX10_drift_28 : decode cX10_drift 28 = .ok (.invokevirtual 91, 3) := by decide +kernel
theorem dX10_drift_31 : decode cX10_drift 31 = .ok (.aload_n 0, 1) := by decide +kernel
theorem dX10_drift_32 : decode cX10_drift 32 = .ok (.invokevirtual 231, 3) := by decide +kernel
theorem dX10_drift_35 : decode cX10_drift 35 = .ok (.iinc 2 1, 3) := by decide +kernel
theorem dX10_drift_38 : decode cX10_drift 38 = .ok (.goto (-23), 3) := by decide +kernel
theorem dX10_drift_41 : decode cX10_drift 41 = .ok (.aload_n 0, 1) := by decide +kernel
theorem dX10_drift_42 : decode cX10_drift 42 = .ok (.getfield 10, 3) := by decide +kernel
theorem dX10_drift_45 : decode cX10_drift 45 = .ok (.invokevirtual 154, 3) := by decide +kernel
theorem dX10_drift_48 : decode cX10_drift 48 = .ok (.ireturn, 1) := by decide +kernel
theorem dX10_undo_0 : decode cX10_undo 0 = .ok (.aload_n 0, 1) := by decide +kernel
theorem dX10_undo_1 : decode cX10_undo 1 = .ok (.getfield 19, 3) := by decide +kernel
theorem dX10_undo_4 : decode cX10_undo 4 = .ok (.aload_n 0, 1) := by decide +kernel
theorem dX10_undo_5 : decode cX10_undo 5 = .ok (.getfield 10, 3) := by decide +kernel
theorem dX10_undo_8 : decode cX10_undo 8 = .ok (.invokevirtual 234, 3) := by decide +kernel
theorem dX10_undo_11 : decode cX10_undo 11 = .ok (.ifCond .eq 13, 3) := by decide +kernel
theorem dX10_undo_14 : decode cX10_undo 14 = .ok (.aload_n 0, 1) := by decide +kernel
theorem dX10_undo_15 : decode cX10_undo 15 = .ok (.getfield 19, 3) := by decide +kernel
theorem dX10_undo_18 : decode cX10_undo 18 = .ok (.getfield 160, 3) := by decide +kernel
theorem dX10_undo_21 : decode cX10_undo 21 = .ok (.goto 5, 3) := by decide +kernel
theorem dX10_undo_24 : decode cX10_undo 24 = .ok (.bipush (-4), 2) := by decide +kernel
theorem dX10_undo_26 : decode cX10_undo 26 = .ok (.ireturn, 1) := by decide +kernel
theorem dX10_seed_0 : decode cX10_seed 0 = .ok (.iload_n 1, 1) := by decide +kernel
theorem dX10_seed_1 : decode cX10_seed 1 = .ok (.ifCond .ge 5, 3) := by decide +kernel
theorem dX10_seed_4 : decode cX10_seed 4 = .ok (.iconst (-1), 1) := by decide +kernel
theorem dX10_seed_5 : decode cX10_seed 5 = .ok (.ireturn, 1) := by decide +kernel
theorem dX10_seed_6 : decode cX10_seed 6 = .ok (.aload_n 0, 1) := by decide +kernel
theorem dX10_seed_7 : decode cX10_seed 7 = .ok (.getfield 10, 3) := by decide +kernel
theorem dX10_seed_10 : decode cX10_seed 10 = .ok (.getfield 238, 3) := by decide +kernel
theorem dX10_seed_13 : decode cX10_seed 13 = .ok (.istore_n 2, 1) := by decide +kernel
theorem dX10_seed_14 : decode cX10_seed 14 = .ok (.aload_n 0, 1) := by decide +kernel
theorem dX10_seed_15 : decode cX10_seed 15 = .ok (.getfield 10, 3) := by decide +kernel
theorem dX10_seed_18 : decode cX10_seed 18 = .ok (.iload_n 1, 1) := by decide +kernel
theorem dX10_seed_19 : decode cX10_seed 19 = .ok (.putfield 238, 3) := by decide +kernel
theorem dX10_seed_22 : decode cX10_seed 22 = .ok (.iload_n 2, 1) := by decide +kernel
theorem dX10_seed_23 : decode cX10_seed 23 = .ok (.ireturn, 1) := by decide +kernel
theorem dX10_image_0 : decode cX10_image 0 = .ok (.aload_n 0, 1) := by decide +kernel
theorem dX10_image_1 : decode cX10_image 1 = .ok (.getfield 23, 3) := by decide +kernel
theorem dX10_image_4 : decode cX10_image 4 = .ok (.aload_n 0, 1) := by decide +kernel
theorem dX10_image_5 : decode cX10_image 5 = .ok (.getfield 10, 3) := by decide +kernel
theorem dX10_image_8 : decode cX10_image 8 = .ok (.invokevirtual 184, 3) := by decide +kernel
theorem dX10_image_11 : decode cX10_image 11 = .ok (.aload_n 0, 1) := by decide +kernel
theorem dX10_image_12 : decode cX10_image 12 = .ok (.getfield 26, 3) := by decide +kernel
theorem dX10_image_15 : decode cX10_image 15 = .ok (.aload_n 0, 1) := by decide +kernel
theorem dX10_image_16 : decode cX10_image 16 = .ok (.getfield 19, 3) := by decide +kernel
theorem dX10_image_19 : decode cX10_image 19 = .ok (.invokevirtual 241, 3) := by decide +kernel
theorem dX10_image_22 : decode cX10_image 22 = .ok (.aload_n 0, 1) := by decide +kernel
theorem dX10_image_23 : decode cX10_image 23 = .ok (.iconst 1, 1) := by decide +kernel
theorem dX10_image_24 : decode cX10_image 24 = .ok (.putfield 244, 3) := by decide +kernel
theorem dX10_image_27 : decode cX10_image 27 = .ok (.iconst 1, 1) := by decide +kernel
theorem dX10_image_28 : decode cX10_image 28 = .ok (.ireturn, 1) := by decide +kernel
theorem dX10_restore_0 : decode cX10_restore 0 = .ok (.aload_n 0, 1) := by decide +kernel
theorem dX10_restore_1 : decode cX10_restore 1 = .ok (.getfield 244, 3) := by decide +kernel
theorem dX10_restore_4 : decode cX10_restore 4 = .ok (.ifCond .ne 6, 3) := by decide +kernel
theorem dX10_restore_7 : decode cX10_restore 7 = .ok (.bipush (-4), 2) := by decide +kernel
theorem dX10_restore_9 : decode cX10_restore 9 = .ok (.ireturn, 1) := by decide +kernel
theorem dX10_restore_10 : decode cX10_restore 10 = .ok (.aload_n 0, 1) := by decide +kernel
theorem dX10_restore_11 : decode cX10_restore 11 = .ok (.getfield 10, 3) := by decide +kernel
theorem dX10_restore_14 : decode cX10_restore 14 = .ok (.aload_n 0, 1) := by decide +kernel
theorem dX10_restore_15 : decode cX10_restore 15 = .ok (.getfield 23, 3) := by decide +kernel
theorem dX10_restore_18 : decode cX10_restore 18 = .ok (.invokevirtual 184, 3) := by decide +kernel
theorem dX10_restore_21 : decode cX10_restore 21 = .ok (.aload_n 0, 1) := by decide +kernel
theorem dX10_restore_22 : decode cX10_restore 22 = .ok (.getfield 19, 3) := by decide +kernel
theorem dX10_restore_25 : decode cX10_restore 25 = .ok (.aload_n 0, 1) := by decide +kernel
theorem dX10_restore_26 : decode cX10_restore 26 = .ok (.getfield 26, 3) := by decide +kernel
theorem dX10_restore_29 : decode cX10_restore 29 = .ok (.invokevirtual 241, 3) := by decide +kernel
theorem dX10_restore_32 : decode cX10_restore 32 = .ok (.iconst 1, 1) := by decide +kernel
theorem dX10_restore_33 : decode cX10_restore 33 = .ok (.ireturn, 1) := by decide +kernel
theorem dX10_could_0 : decode cX10_could 0 = .ok (.aload_n 0, 1) := by decide +kernel
theorem dX10_could_1 : decode cX10_could 1 = .ok (.iload_n 1, 1) := by decide +kernel
theorem dX10_could_2 : decode cX10_could 2 = .ok (.iload_n 2, 1) := by decide +kernel
theorem dX10_could_3 : decode cX10_could 3 = .ok (.invokevirtual 248, 3) := by decide +kernel
theorem dX10_could_6 : decode cX10_could 6 = .ok (.istore 4, 2) := by decide +kernel
theorem dX10_could_8 : decode cX10_could 8 = .ok (.iload 4, 2) := by decide +kernel
theorem dX10_could_10 : decode cX10_could 10 = .ok (.ifCond .eq 6, 3) := by decide +kernel
theorem dX10_could_13 : decode cX10_could 13 = .ok (.iload 4, 2) := by decide +kernel
theorem dX10_could_15 : decode cX10_could 15 = .ok (.ireturn, 1) := by decide +kernel
theorem dX10_could_16 : decode cX10_could 16 = .ok (.aload_n 0, 1) := by decide +kernel
theorem dX10_could_17 : decode cX10_could 17 = .ok (.getfield 69, 3) := by decide +kernel
theorem dX10_could_20 : decode cX10_could 20 = .ok (.iload_n 1, 1) := by decide +kernel
theorem dX10_could_21 : decode cX10_could 21 = .ok (.aaload, 1) := by decide +kernel
theorem dX10_could_22 : decode cX10_could 22 = .ok (.astore 5, 2) := by decide +kernel
theorem dX10_could_24 : decode cX10_could 24 = .ok (.aload 5, 2) := by decide +kernel
theorem dX10_could_26 : decode cX10_could 26 = .ok (.iload_n 3, 1) := by decide +kernel
theorem dX10_could_27 : decode cX10_could 27 = .ok (.aload_n 0, 1) := by decide +kernel
theorem dX10_could_28 : decode cX10_could 28 = .ok (.getfield 10, 3) := by decide +kernel
theorem dX10_could_31 : decode cX10_could 31 = .ok (.getfield 136, 3) := by decide +kernel
theorem dX10_could_34 : decode cX10_could 34 = .ok (.invokevirtual 251, 3) := by decide +kernel
theorem dX10_could_37 : decode cX10_could 37 = .ok (.ifCond .ne 6, 3) := by decide +kernel
theorem dX10_could_40 : decode cX10_could 40 = .ok (.bipush (-13), 2) := by decide +kernel
theorem dX10_could_42 : decode cX10_could 42 = .ok (.ireturn, 1) := by decide +kernel
theorem dX10_could_43 : decode cX10_could 43 = .ok (.iconst 0, 1) := by decide +kernel
theorem dX10_could_44 : decode cX10_could 44 = .ok (.istore 6, 2) := by decide +kernel
theorem dX10_could_46 : decode cX10_could 46 = .ok (.iload 6, 2) := by decide +kernel
theorem dX10_could_48 : decode cX10_could 48 = .ok (.aload_n 0, 1) := by decide +kernel
theorem dX10_could_49 : decode cX10_could 49 = .ok (.getfield 10, 3) := by decide +kernel
theorem dX10_could_52 : decode cX10_could 52 = .ok (.getfield 136, 3) := by decide +kernel
theorem dX10_could_55 : decode cX10_could 55 = .ok (.if_icmp .ge 54, 3) := by decide +kernel
theorem dX10_could_58 : decode cX10_could 58 = .ok (.aload 5, 2) := by decide +kernel
theorem dX10_could_60 : decode cX10_could 60 = .ok (.getfield 254, 3) := by decide +kernel
theorem dX10_could_63 : decode cX10_could 63 = .ok (.iload_n 3, 1) := by decide +kernel
theorem dX10_could_64 : decode cX10_could 64 = .ok (.iload 6, 2) := by decide +kernel
theorem dX10_could_66 : decode cX10_could 66 = .ok (.iadd, 1) := by decide +kernel
theorem dX10_could_67 : decode cX10_could 67 = .ok (.laload, 1) := by decide +kernel
theorem dX10_could_68 : decode cX10_could 68 = .ok (.lstore 7, 2) := by decide +kernel
theorem dX10_could_70 : decode cX10_could 70 = .ok (.lload 7, 2) := by decide +kernel
theorem dX10_could_72 : decode cX10_could 72 = .ok (.lconst 0, 1) := by decide +kernel
theorem dX10_could_73 : decode cX10_could 73 = .ok (.lcmp, 1) := by decide +kernel
theorem dX10_could_74 : decode cX10_could 74 = .ok (.ifCond .lt 17, 3) := by decide +kernel
theorem dX10_could_77 : decode cX10_could 77 = .ok (.lload 7, 2) := by decide +kernel
theorem dX10_could_79 : decode cX10_could 79 = .ok (.aload_n 0, 1) := by decide +kernel
theorem dX10_could_80 : decode cX10_could 80 = .ok (.getfield 10, 3) := by decide +kernel
theorem dX10_could_83 : decode cX10_could 83 = .ok (.getfield 139, 3) := by decide +kernel
theorem dX10_could_86 : decode cX10_could 86 = .ok (.i2l, 1) := by decide +kernel
theorem dX10_could_87 : decode cX10_could 87 = .ok (.lcmp, 1) := by decide +kernel
theorem dX10_could_88 : decode cX10_could 88 = .ok (.ifCond .lt 15, 3) := by decide +kernel
theorem dX10_could_91 : decode cX10_could 91 = .ok (.lload 7, 2) := by decide +kernel
theorem dX10_could_93 : decode cX10_could 93 = .ok (.ldc2_w 258, 3) := by decide +kernel
theorem dX10_could_96 : decode cX10_could 96 = .ok (.lcmp, 1) := by decide +kernel
theorem dX10_could_97 : decode cX10_could 97 = .ok (.ifCond .eq 6, 3) := by decide +kernel
theorem dX10_could_100 : decode cX10_could 100 = .ok (.bipush (-2), 2) := by decide +kernel
theorem dX10_could_102 : decode cX10_could 102 = .ok (.ireturn, 1) := by decide +kernel
theorem dX10_could_103 : decode cX10_could 103 = .ok (.iinc 6 1, 3) := by decide +kernel
theorem dX10_could_106 : decode cX10_could 106 = .ok (.goto (-60), 3) := by decide +kernel
theorem dX10_could_109 : decode cX10_could 109 = .ok (.aload_n 0, 1) := by decide +kernel
theorem dX10_could_110 : decode cX10_could 110 = .ok (.iconst 0, 1) := by decide +kernel
theorem dX10_could_111 : decode cX10_could 111 = .ok (.aload 5, 2) := by decide +kernel
theorem dX10_could_113 : decode cX10_could 113 = .ok (.iload_n 3, 1) := by decide +kernel
theorem dX10_could_114 : decode cX10_could 114 = .ok (.invokevirtual 260, 3) := by decide +kernel
theorem dX10_could_117 : decode cX10_could 117 = .ok (.ifCond .eq 7, 3) := by decide +kernel
theorem dX10_could_120 : decode cX10_could 120 = .ok (.iconst 1, 1) := by decide +kernel
theorem dX10_could_121 : decode cX10_could 121 = .ok (.goto 4, 3) := by decide +kernel
theorem dX10_could_124 : decode cX10_could 124 = .ok (.iconst 0, 1) := by decide +kernel
theorem dX10_could_125 : decode cX10_could 125 = .ok (.aload_n 0, 1) := by decide +kernel
theorem dX10_could_126 : decode cX10_could 126 = .ok (.iconst 1, 1) := by decide +kernel
theorem dX10_could_127 : decode cX10_could 127 = .ok (.aload 5, 2) := by decide +kernel
theorem dX10_could_129 : decode cX10_could 129 = .ok (.iload_n 3, 1) := by decide +kernel
theorem dX10_could_130 : decode cX10_could 130 = .ok (.invokevirtual 260, 3) := by decide +kernel
theorem dX10_could_133 : decode cX10_could 133 = .ok (.ifCond .eq 7, 3) := by decide +kernel
theorem dX10_could_136 : decode cX10_could 136 = .ok (.iconst 2, 1) := by decide +kernel
theorem dX10_could_137 : decode cX10_could 137 = .ok (.goto 4, 3) := by decide +kernel
theorem dX10_could_140 : decode cX10_could 140 = .ok (.iconst 0, 1) := by decide +kernel
theorem dX10_could_141 : decode cX10_could 141 = .ok (.iadd, 1) := by decide +kernel
theorem dX10_could_142 : decode cX10_could 142 = .ok (.ireturn, 1) := by decide +kernel
theorem dX10_film_0 : decode cX10_film 0 = .ok (.aload_n 0, 1) := by decide +kernel
theorem dX10_film_1 : decode cX10_film 1 = .ok (.getfield 10, 3) := by decide +kernel
theorem dX10_film_4 : decode cX10_film 4 = .ok (.iload_n 1, 1) := by decide +kernel
theorem dX10_film_5 : decode cX10_film 5 = .ok (.invokevirtual 74, 3) := by decide +kernel
theorem dX10_film_8 : decode cX10_film 8 = .ok (.ifCond .eq 12, 3) := by decide +kernel
theorem dX10_film_11 : decode cX10_film 11 = .ok (.aload_n 0, 1) := by decide +kernel
theorem dX10_film_12 : decode cX10_film 12 = .ok (.iload_n 2, 1) := by decide +kernel
theorem dX10_film_13 : decode cX10_film 13 = .ok (.iload_n 3, 1) := by decide +kernel
theorem dX10_film_14 : decode cX10_film 14 = .ok (.invokevirtual 248, 3) := by decide +kernel
theorem dX10_film_17 : decode cX10_film 17 = .ok (.goto 4, 3) := by decide +kernel
theorem dX10_film_20 : decode cX10_film 20 = .ok (.iconst (-1), 1) := by decide +kernel
theorem dX10_film_21 : decode cX10_film 21 = .ok (.istore 5, 2) := by decide +kernel
theorem dX10_film_23 : decode cX10_film 23 = .ok (.iload 5, 2) := by decide +kernel
theorem dX10_film_25 : decode cX10_film 25 = .ok (.ifCond .eq 6, 3) := by decide +kernel
theorem dX10_film_28 : decode cX10_film 28 = .ok (.iload 5, 2) := by decide +kernel
theorem dX10_film_30 : decode cX10_film 30 = .ok (.ireturn, 1) := by decide +kernel
theorem dX10_film_31 : decode cX10_film 31 = .ok (.aload_n 0, 1) := by decide +kernel
theorem dX10_film_32 : decode cX10_film 32 = .ok (.getfield 10, 3) := by decide +kernel
theorem dX10_film_35 : decode cX10_film 35 = .ok (.getfield 81, 3) := by decide +kernel
theorem dX10_film_38 : decode cX10_film 38 = .ok (.iload_n 1, 1) := by decide +kernel
theorem dX10_film_39 : decode cX10_film 39 = .ok (.aaload, 1) := by decide +kernel
theorem dX10_film_40 : decode cX10_film 40 = .ok (.invokevirtual 98, 3) := by decide +kernel
theorem dX10_film_43 : decode cX10_film 43 = .ok (.istore 6, 2) := by decide +kernel
theorem dX10_film_45 : decode cX10_film 45 = .ok (.aload_n 0, 1) := by decide +kernel
theorem dX10_film_46 : decode cX10_film 46 = .ok (.getfield 69, 3) := by decide +kernel
theorem dX10_film_49 : decode cX10_film 49 = .ok (.iload_n 2, 1) := by decide +kernel
theorem dX10_film_50 : decode cX10_film 50 = .ok (.aaload, 1) := by decide +kernel
theorem dX10_film_51 : decode cX10_film 51 = .ok (.iload 4, 2) := by decide +kernel
theorem dX10_film_53 : decode cX10_film 53 = .ok (.iload 6, 2) := by decide +kernel
theorem dX10_film_55 : decode cX10_film 55 = .ok (.invokevirtual 251, 3) := by decide +kernel
theorem dX10_film_58 : decode cX10_film 58 = .ok (.ifCond .ne 6, 3) := by decide +kernel
theorem dX10_film_61 : decode cX10_film 61 = .ok (.bipush (-13), 2) := by decide +kernel
theorem dX10_film_63 : decode cX10_film 63 = .ok (.ireturn, 1) := by decide +kernel
theorem dX10_film_64 : decode cX10_film 64 = .ok (.iconst 0, 1) := by decide +kernel
theorem dX10_film_65 : decode cX10_film 65 = .ok (.istore 7, 2) := by decide +kernel
theorem dX10_film_67 : decode cX10_film 67 = .ok (.iload 7, 2) := by decide +kernel
theorem dX10_film_69 : decode cX10_film 69 = .ok (.iload 6, 2) := by decide +kernel
theorem dX10_film_71 : decode cX10_film 71 = .ok (.if_icmp .ge 38, 3) := by decide +kernel
theorem dX10_film_74 : decode cX10_film 74 = .ok (.aload_n 0, 1) := by decide +kernel
theorem dX10_film_75 : decode cX10_film 75 = .ok (.getfield 69, 3) := by decide +kernel
theorem dX10_film_78 : decode cX10_film 78 = .ok (.iload_n 2, 1) := by decide +kernel
theorem dX10_film_79 : decode cX10_film 79 = .ok (.aaload, 1) := by decide +kernel
theorem dX10_film_80 : decode cX10_film 80 = .ok (.iload 4, 2) := by decide +kernel
theorem dX10_film_82 : decode cX10_film 82 = .ok (.iload 7, 2) := by decide +kernel
theorem dX10_film_84 : decode cX10_film 84 = .ok (.iadd, 1) := by decide +kernel
theorem dX10_film_85 : decode cX10_film 85 = .ok (.aload_n 0, 1) := by decide +kernel
theorem dX10_film_86 : decode cX10_film 86 = .ok (.getfield 10, 3) := by decide +kernel
theorem dX10_film_89 : decode cX10_film 89 = .ok (.getfield 81, 3) := by decide +kernel
theorem dX10_film_92 : decode cX10_film 92 = .ok (.iload_n 1, 1) := by decide +kernel
theorem dX10_film_93 : decode cX10_film 93 = .ok (.aaload, 1) := by decide +kernel
theorem dX10_film_94 : decode cX10_film 94 = .ok (.iload 7, 2) := by decide +kernel
theorem dX10_film_96 : decode cX10_film 96 = .ok (.invokevirtual 127, 3) := by decide +kernel
theorem dX10_film_99 : decode cX10_film 99 = .ok (.i2l, 1) := by decide +kernel
theorem dX10_film_100 : decode cX10_film 100 = .ok (.invokevirtual 264, 3) := by decide +kernel
theorem dX10_film_103 : decode cX10_film 103 = .ok (.iinc 7 1, 3) := by decide +kernel
theorem dX10_film_106 : decode cX10_film 106 = .ok (.goto (-39), 3) := by decide +kernel
theorem dX10_film_109 : decode cX10_film 109 = .ok (.iload 6, 2) := by decide +kernel
theorem dX10_film_111 : decode cX10_film 111 = .ok (.ireturn, 1) := by decide +kernel
theorem dX10_sheet_0 : decode cX10_sheet 0 = .ok (.iload_n 1, 1) := by decide +kernel
theorem dX10_sheet_1 : decode cX10_sheet 1 = .ok (.invokestatic 268, 3) := by decide +kernel
theorem dX10_sheet_4 : decode cX10_sheet 4 = .ok (.ifCond .eq 16, 3) := by decide +kernel
theorem dX10_sheet_7 : decode cX10_sheet 7 = .ok (.iload_n 2, 1) := by decide +kernel
theorem dX10_sheet_8 : decode cX10_sheet 8 = .ok (.invokestatic 271, 3) := by decide +kernel
theorem dX10_sheet_11 : decode cX10_sheet 11 = .ok (.ifCond .eq 9, 3) := by decide +kernel
theorem dX10_sheet_14 : decode cX10_sheet 14 = .ok (.iload_n 3, 1) := by decide +kernel
theorem dX10_sheet_15 : decode cX10_sheet 15 = .ok (.bipush 24, 2) := by decide +kernel
theorem dX10_sheet_17 : decode cX10_sheet 17 = .ok (.if_icmp .le 5, 3) := by decide +kernel
theorem dX10_sheet_20 : decode cX10_sheet 20 = .ok (.iconst (-1), 1) := by decide +kernel
theorem dX10_sheet_21 : decode cX10_sheet 21 = .ok (.ireturn, 1) := by decide +kernel
theorem dX10_sheet_22 : decode cX10_sheet 22 = .ok (.iload_n 3, 1) := by decide +kernel
theorem dX10_sheet_23 : decode cX10_sheet 23 = .ok (.ifCond .ge 6, 3) := by decide +kernel
theorem dX10_sheet_26 : decode cX10_sheet 26 = .ok (.bipush (-14), 2) := by decide +kernel
theorem dX10_sheet_28 : decode cX10_sheet 28 = .ok (.ireturn, 1) := by decide +kernel
theorem dX10_sheet_29 : decode cX10_sheet 29 = .ok (.aload_n 0, 1) := by decide +kernel
theorem dX10_sheet_30 : decode cX10_sheet 30 = .ok (.getfield 69, 3) := by decide +kernel
theorem dX10_sheet_33 : decode cX10_sheet 33 = .ok (.iload_n 1, 1) := by decide +kernel
theorem dX10_sheet_34 : decode cX10_sheet 34 = .ok (.aaload, 1) := by decide +kernel
theorem dX10_sheet_35 : decode cX10_sheet 35 = .ok (.iload_n 2, 1) := by decide +kernel
theorem dX10_sheet_36 : decode cX10_sheet 36 = .ok (.iload_n 3, 1) := by decide +kernel
theorem dX10_sheet_37 : decode cX10_sheet 37 = .ok (.invokevirtual 274, 3) := by decide +kernel
theorem dX10_sheet_40 : decode cX10_sheet 40 = .ok (.iload_n 3, 1) := by decide +kernel
theorem dX10_sheet_41 : decode cX10_sheet 41 = .ok (.ireturn, 1) := by decide +kernel
theorem dX10_drop_0 : decode cX10_drop 0 = .ok (.iload_n 1, 1) := by decide +kernel
theorem dX10_drop_1 : decode cX10_drop 1 = .ok (.invokestatic 268, 3) := by decide +kernel
theorem dX10_drop_4 : decode cX10_drop 4 = .ok (.ifCond .ne 5, 3) := by decide +kernel
theorem dX10_drop_7 : decode cX10_drop 7 = .ok (.iconst (-1), 1) := by decide +kernel
theorem dX10_drop_8 : decode cX10_drop 8 = .ok (.ireturn, 1) := by decide +kernel
theorem dX10_drop_9 : decode cX10_drop 9 = .ok (.aload_n 0, 1) := by decide +kernel
theorem dX10_drop_10 : decode cX10_drop 10 = .ok (.getfield 69, 3) := by decide +kernel
theorem dX10_drop_13 : decode cX10_drop 13 = .ok (.iload_n 1, 1) := by decide +kernel
theorem dX10_drop_14 : decode cX10_drop 14 = .ok (.aaload, 1) := by decide +kernel
theorem dX10_drop_15 : decode cX10_drop 15 = .ok (.invokevirtual 277, 3) := by decide +kernel
theorem dX10_drop_18 : decode cX10_drop 18 = .ok (.ifCond .eq 6, 3) := by decide +kernel
theorem dX10_drop_21 : decode cX10_drop 21 = .ok (.bipush (-11), 2) := by decide +kernel
theorem dX10_drop_23 : decode cX10_drop 23 = .ok (.ireturn, 1) := by decide +kernel
theorem dX10_drop_24 : decode cX10_drop 24 = .ok (.aload_n 0, 1) := by decide +kernel
theorem dX10_drop_25 : decode cX10_drop 25 = .ok (.getfield 69, 3) := by decide +kernel
theorem dX10_drop_28 : decode cX10_drop 28 = .ok (.iload_n 1, 1) := by decide +kernel
theorem dX10_drop_29 : decode cX10_drop 29 = .ok (.aaload, 1) := by decide +kernel
theorem dX10_drop_30 : decode cX10_drop 30 = .ok (.invokevirtual 280, 3) := by decide +kernel
theorem dX10_drop_33 : decode cX10_drop 33 = .ok (.ireturn, 1) := by decide +kernel
theorem dX10_item_0 : decode cX10_item 0 = .ok (.aload_n 0, 1) := by decide +kernel
theorem dX10_item_1 : decode cX10_item 1 = .ok (.iload_n 1, 1) := by decide +kernel
theorem dX10_item_2 : decode cX10_item 2 = .ok (.iload_n 2, 1) := by decide +kernel
theorem dX10_item_3 : decode cX10_item 3 = .ok (.invokevirtual 248, 3) := by decide +kernel
theorem dX10_item_6 : decode cX10_item 6 = .ok (.istore 6, 2) := by decide +kernel
theorem dX10_item_8 : decode cX10_item 8 = .ok (.iload 6, 2) := by decide +kernel
theorem dX10_item_10 : decode cX10_item 10 = .ok (.ifCond .eq 6, 3) := by decide +kernel
theorem dX10_item_13 : decode cX10_item 13 = .ok (.iload 6, 2) := by decide +kernel
theorem dX10_item_15 : decode cX10_item 15 = .ok (.ireturn, 1) := by decide +kernel
theorem dX10_item_16 : decode cX10_item 16 = .ok (.aload_n 0, 1) := by decide +kernel
theorem dX10_item_17 : decode cX10_item 17 = .ok (.getfield 69, 3) := by decide +kernel
theorem dX10_item_20 : decode cX10_item 20 = .ok (.iload_n 1, 1) := by decide +kernel
theorem dX10_item_21 : decode cX10_item 21 = .ok (.aaload, 1) := by decide +kernel
theorem dX10_item_22 : decode cX10_item 22 = .ok (.iload_n 3, 1) := by decide +kernel
theorem dX10_item_23 : decode cX10_item 23 = .ok (.iconst 1, 1) := by decide +kernel
theorem dX10_item_24 : decode cX10_item 24 = .ok (.invokevirtual 251, 3) := by decide +kernel
theorem dX10_item_27 : decode cX10_item 27 = .ok (.ifCond .ne 6, 3) := by decide +kernel
theorem dX10_item_30 : decode cX10_item 30 = .ok (.bipush (-13), 2) := by decide +kernel
theorem dX10_item_32 : decode cX10_item 32 = .ok (.ireturn, 1) := by decide +kernel
theorem dX10_item_33 : decode cX10_item 33 = .ok (.aload_n 0, 1) := by decide +kernel
theorem dX10_item_34 : decode cX10_item 34 = .ok (.getfield 69, 3) := by decide +kernel
theorem dX10_item_37 : decode cX10_item 37 = .ok (.iload_n 1, 1) := by decide +kernel
theorem dX10_item_38 : decode cX10_item 38 = .ok (.aaload, 1) := by decide +kernel
theorem dX10_item_39 : decode cX10_item 39 = .ok (.iload_n 3, 1) := by decide +kernel
theorem dX10_item_40 : decode cX10_item 40 = .ok (.lload 4, 2) := by decide +kernel
theorem dX10_item_42 : decode cX10_item 42 = .ok (.invokevirtual 264, 3) := by decide +kernel
theorem dX10_item_45 : decode cX10_item 45 = .ok (.iconst 1, 1) := by decide +kernel
theorem dX10_item_46 : decode cX10_item 46 = .ok (.ireturn, 1) := by decide +kernel
theorem dX10_copy_0 : decode cX10_copy 0 = .ok (.iload_n 1, 1) := by decide +kernel
theorem dX10_copy_1 : decode cX10_copy 1 = .ok (.invokestatic 268, 3) := by decide +kernel
theorem dX10_copy_4 : decode cX10_copy 4 = .ok (.ifCond .eq 10, 3) := by decide +kernel
theorem dX10_copy_7 : decode cX10_copy 7 = .ok (.iload_n 3, 1) := by decide +kernel
theorem dX10_copy_8 : decode cX10_copy 8 = .ok (.invokestatic 268, 3) := by decide +kernel
theorem dX10_copy_11 : decode cX10_copy 11 = .ok (.ifCond .ne 5, 3) := by decide +kernel
theorem dX10_copy_14 : decode cX10_copy 14 = .ok (.iconst (-1), 1) := by decide +kernel
theorem dX10_copy_15 : decode cX10_copy 15 = .ok (.ireturn, 1) := by decide +kernel
theorem dX10_copy_16 : decode cX10_copy 16 = .ok (.aload_n 0, 1) := by decide +kernel
theorem dX10_copy_17 : decode cX10_copy 17 = .ok (.getfield 69, 3) := by decide +kernel
theorem dX10_copy_20 : decode cX10_copy 20 = .ok (.iload_n 1, 1) := by decide +kernel
theorem dX10_copy_21 : decode cX10_copy 21 = .ok (.aaload, 1) := by decide +kernel
theorem dX10_copy_22 : decode cX10_copy 22 = .ok (.astore 6, 2) := by decide +kernel
theorem dX10_copy_24 : decode cX10_copy 24 = .ok (.aload_n 0, 1) := by decide +kernel
theorem dX10_copy_25 : decode cX10_copy 25 = .ok (.getfield 69, 3) := by decide +kernel
theorem dX10_copy_28 : decode cX10_copy 28 = .ok (.iload_n 3, 1) := by decide +kernel
theorem dX10_copy_29 : decode cX10_copy 29 = .ok (.aaload, 1) := by decide +kernel
theorem dX10_copy_30 : decode cX10_copy 30 = .ok (.astore 7, 2) := by decide +kernel
theorem dX10_copy_32 : decode cX10_copy 32 = .ok (.aload 6, 2) := by decide +kernel
theorem dX10_copy_34 : decode cX10_copy 34 = .ok (.invokevirtual 277, 3) := by decide +kernel
theorem dX10_copy_37 : decode cX10_copy 37 = .ok (.ifCond .ne 11, 3) := by decide +kernel
theorem dX10_copy_40 : decode cX10_copy 40 = .ok (.aload 7, 2) := by decide +kernel
theorem dX10_copy_42 : decode cX10_copy 42 = .ok (.invokevirtual 277, 3) := by decide +kernel
theorem dX10_copy_45 : decode cX10_copy 45 = .ok (.ifCond .eq 6, 3) := by decide +kernel
theorem dX10_copy_48 : decode cX10_copy 48 = .ok (.bipush (-11), 2) := by decide +kernel
theorem dX10_copy_50 : decode cX10_copy 50 = .ok (.ireturn, 1) := by decide +kernel
theorem dX10_copy_51 : decode cX10_copy 51 = .ok (.aload 6, 2) := by decide +kernel
theorem dX10_copy_53 : decode cX10_copy 53 = .ok (.getfield 283, 3) := by decide +kernel
theorem dX10_copy_56 : decode cX10_copy 56 = .ok (.aload 7, 2) := by decide +kernel
theorem dX10_copy_58 : decode cX10_copy 58 = .ok (.getfield 283, 3) := by decide +kernel
theorem dX10_copy_61 : decode cX10_copy 61 = .ok (.if_icmp .eq 6, 3) := by decide +kernel
theorem dX10_copy_64 : decode cX10_copy 64 = .ok (.bipush (-12), 2) := by decide +kernel
theorem dX10_copy_66 : decode cX10_copy 66 = .ok (.ireturn, 1) := by decide +kernel
theorem dX10_copy_67 : decode cX10_copy 67 = .ok (.aload 6, 2) := by decide +kernel
theorem dX10_copy_69 : decode cX10_copy 69 = .ok (.iload_n 2, 1) := by decide +kernel
theorem dX10_copy_70 : decode cX10_copy 70 = .ok (.iload 5, 2) := by decide +kernel
theorem dX10_copy_72 : decode cX10_copy 72 = .ok (.invokevirtual 251, 3) := by decide +kernel
theorem dX10_copy_75 : decode cX10_copy 75 = .ok (.ifCond .eq 15, 3) := by decide +kernel
theorem dX10_copy_78 : decode cX10_copy 78 = .ok (.aload 7, 2) := by decide +kernel
theorem dX10_copy_80 : decode cX10_copy 80 = .ok (.iload 4, 2) := by decide +kernel
theorem dX10_copy_82 : decode cX10_copy 82 = .ok (.iload 5, 2) := by decide +kernel
theorem dX10_copy_84 : decode cX10_copy 84 = .ok (.invokevirtual 251, 3) := by decide +kernel
theorem dX10_copy_87 : decode cX10_copy 87 = .ok (.ifCond .ne 6, 3) := by decide +kernel
theorem dX10_copy_90 : decode cX10_copy 90 = .ok (.bipush (-13), 2) := by decide +kernel
theorem dX10_copy_92 : decode cX10_copy 92 = .ok (.ireturn, 1) := by decide +kernel
theorem dX10_copy_93 : decode cX10_copy 93 = .ok (.aload 6, 2) := by decide +kernel
theorem dX10_copy_95 : decode cX10_copy 95 = .ok (.getfield 254, 3) := by decide +kernel
theorem dX10_copy_98 : decode cX10_copy 98 = .ok (.iload_n 2, 1) := by decide +kernel
theorem dX10_copy_99 : decode cX10_copy 99 = .ok (.aload 7, 2) := by decide +kernel
theorem dX10_copy_101 : decode cX10_copy 101 = .ok (.getfield 254, 3) := by decide +kernel
theorem dX10_copy_104 : decode cX10_copy 104 = .ok (.iload 4, 2) := by decide +kernel
theorem dX10_copy_106 : decode cX10_copy 106 = .ok (.iload 5, 2) := by decide +kernel
theorem dX10_copy_108 : decode cX10_copy 108 = .ok (.invokestatic 286, 3) := by decide +kernel
theorem dX10_copy_111 : decode cX10_copy 111 = .ok (.iload 5, 2) := by decide +kernel
theorem dX10_copy_113 : decode cX10_copy 113 = .ok (.ireturn, 1) := by decide +kernel
theorem dX10_turn_0 : decode cX10_turn 0 = .ok (.aload_n 0, 1) := by decide +kernel
theorem dX10_turn_1 : decode cX10_turn 1 = .ok (.getfield 10, 3) := by decide +kernel
theorem dX10_turn_4 : decode cX10_turn 4 = .ok (.aload_n 0, 1) := by decide +kernel
theorem dX10_turn_5 : decode cX10_turn 5 = .ok (.getfield 10, 3) := by decide +kernel
theorem dX10_turn_8 : decode cX10_turn 8 = .ok (.getfield 238, 3) := by decide +kernel
theorem dX10_turn_11 : decode cX10_turn 11 = .ok (.invokestatic 292, 3) := by decide +kernel
theorem dX10_turn_14 : decode cX10_turn 14 = .ok (.putfield 238, 3) := by decide +kernel
theorem dX10_turn_17 : decode cX10_turn 17 = .ok (.aload_n 0, 1) := by decide +kernel
theorem dX10_turn_18 : decode cX10_turn 18 = .ok (.getfield 10, 3) := by decide +kernel
theorem dX10_turn_21 : decode cX10_turn 21 = .ok (.getfield 238, 3) := by decide +kernel
theorem dX10_turn_24 : decode cX10_turn 24 = .ok (.invokestatic 295, 3) := by decide +kernel
theorem dX10_turn_27 : decode cX10_turn 27 = .ok (.istore_n 1, 1) := by decide +kernel
theorem dX10_turn_28 : decode cX10_turn 28 = .ok (.iload_n 1, 1) := by decide +kernel
theorem dX10_turn_29 : decode cX10_turn 29 = .ok (.iconst 4, 1) := by decide +kernel
theorem dX10_turn_30 : decode cX10_turn 30 = .ok (.irem, 1) := by decide +kernel
theorem dX10_turn_31 : decode cX10_turn 31 = .ok (.lookupswitch 54 #[(0, 25), (3, 39)], 25) := by decide +kernel
theorem dX10_turn_56 : decode cX10_turn 56 = .ok (.aload_n 0, 1) := by decide +kernel
theorem dX10_turn_57 : decode cX10_turn 57 = .ok (.getfield 35, 3) := by decide +kernel
theorem dX10_turn_60 : decode cX10_turn 60 = .ok (.aload_n 0, 1) := by decide +kernel
theorem dX10_turn_61 : decode cX10_turn 61 = .ok (.getfield 10, 3) := by decide +kernel
theorem dX10_turn_64 : decode cX10_turn 64 = .ok (.invokevirtual 298, 3) := by decide +kernel
theorem dX10_turn_67 : decode cX10_turn 67 = .ok (.goto 59, 3) := by decide +kernel
theorem dX10_turn_70 : decode cX10_turn 70 = .ok (.aload_n 0, 1) := by decide +kernel
theorem dX10_turn_71 : decode cX10_turn 71 = .ok (.getfield 10, 3) := by decide +kernel
theorem dX10_turn_74 : decode cX10_turn 74 = .ok (.iload_n 1, 1) := by decide +kernel
theorem dX10_turn_75 : decode cX10_turn 75 = .ok (.iconst 4, 1) := by decide +kernel
theorem dX10_turn_76 : decode cX10_turn 76 = .ok (.idiv, 1) := by decide +kernel
theorem dX10_turn_77 : decode cX10_turn 77 = .ok (.iconst 4, 1) := by decide +kernel
theorem dX10_turn_78 : decode cX10_turn 78 = .ok (.irem, 1) := by decide +kernel
theorem dX10_turn_79 : decode cX10_turn 79 = .ok (.putfield 116, 3) := by decide +kernel
theorem dX10_turn_82 : decode cX10_turn 82 = .ok (.goto 44, 3) := by decide +kernel
theorem dX10_turn_85 : decode cX10_turn 85 = .ok (.aload_n 0, 1) := by decide +kernel
theorem dX10_turn_86 : decode cX10_turn 86 = .ok (.getfield 10, 3) := by decide +kernel
theorem dX10_turn_89 : decode cX10_turn 89 = .ok (.getfield 81, 3) := by decide +kernel
theorem dX10_turn_92 : decode cX10_turn 92 = .ok (.iload_n 1, 1) := by decide +kernel
theorem dX10_turn_93 : decode cX10_turn 93 = .ok (.iconst 4, 1) := by decide +kernel
theorem dX10_turn_94 : decode cX10_turn 94 = .ok (.idiv, 1) := by decide +kernel
theorem dX10_turn_95 : decode cX10_turn 95 = .ok (.aload_n 0, 1) := by decide +kernel
theorem dX10_turn_96 : decode cX10_turn 96 = .ok (.getfield 10, 3) := by decide +kernel
theorem dX10_turn_99 : decode cX10_turn 99 = .ok (.getfield 136, 3) := by decide +kernel
theorem dX10_turn_102 : decode cX10_turn 102 = .ok (.invokestatic 301, 3) := by decide +kernel
theorem dX10_turn_105 : decode cX10_turn 105 = .ok (.aaload, 1) := by decide +kernel
theorem dX10_turn_106 : decode cX10_turn 106 = .ok (.iconst 1, 1) := by decide +kernel
theorem dX10_turn_107 : decode cX10_turn 107 = .ok (.iload_n 1, 1) := by decide +kernel
theorem dX10_turn_108 : decode cX10_turn 108 = .ok (.bipush 64, 2) := by decide +kernel
theorem dX10_turn_110 : decode cX10_turn 110 = .ok (.idiv, 1) := by decide +kernel
theorem dX10_turn_111 : decode cX10_turn 111 = .ok (.aload_n 0, 1) := by decide +kernel
theorem dX10_turn_112 : decode cX10_turn 112 = .ok (.getfield 10, 3) := by decide +kernel
theorem dX10_turn_115 : decode cX10_turn 115 = .ok (.getfield 139, 3) := by decide +kernel
theorem dX10_turn_118 : decode cX10_turn 118 = .ok (.invokestatic 301, 3) := by decide +kernel
theorem dX10_turn_121 : decode cX10_turn 121 = .ok (.ishl, 1) := by decide +kernel
theorem dX10_turn_122 : decode cX10_turn 122 = .ok (.invokevirtual 95, 3) := by decide +kernel
theorem dX10_turn_125 : decode cX10_turn 125 = .ok (.pop, 1) := by decide +kernel
theorem dX10_turn_126 : decode cX10_turn 126 = .ok (.return_, 1) := by decide +kernel
theorem dX10_sentBy_0 : decode cX10_sentBy 0 = .ok (.aload_n 0, 1) := by decide +kernel
theorem dX10_sentBy_1 : decode cX10_sentBy 1 = .ok (.getfield 35, 3) := by decide +kernel
theorem dX10_sentBy_4 : decode cX10_sentBy 4 = .ok (.aload_n 0, 1) := by decide +kernel
theorem dX10_sentBy_5 : decode cX10_sentBy 5 = .ok (.getfield 10, 3) := by decide +kernel
theorem dX10_sentBy_8 : decode cX10_sentBy 8 = .ok (.iload_n 1, 1) := by decide +kernel
theorem dX10_sentBy_9 : decode cX10_sentBy 9 = .ok (.invokevirtual 119, 3) := by decide +kernel
theorem dX10_sentBy_12 : decode cX10_sentBy 12 = .ok (.iconst 0, 1) := by decide +kernel
theorem dX10_sentBy_13 : decode cX10_sentBy 13 = .ok (.istore 4, 2) := by decide +kernel
theorem dX10_sentBy_15 : decode cX10_sentBy 15 = .ok (.iload 4, 2) := by decide +kernel
theorem dX10_sentBy_17 : decode cX10_sentBy 17 = .ok (.aload_n 0, 1) := by decide +kernel
theorem dX10_sentBy_18 : decode cX10_sentBy 18 = .ok (.getfield 10, 3) := by decide +kernel
theorem dX10_sentBy_21 : decode cX10_sentBy 21 = .ok (.getfield 136, 3) := by decide +kernel
theorem dX10_sentBy_24 : decode cX10_sentBy 24 = .ok (.if_icmp .ge 56, 3) := by decide +kernel
theorem dX10_sentBy_27 : decode cX10_sentBy 27 = .ok (.aload_n 2, 1) := by decide +kernel
theorem dX10_sentBy_28 : decode cX10_sentBy 28 = .ok (.getfield 254, 3) := by decide +kernel
theorem dX10_sentBy_31 : decode cX10_sentBy 31 = .ok (.iload_n 3, 1) := by decide +kernel
theorem dX10_sentBy_32 : decode cX10_sentBy 32 = .ok (.iload 4, 2) := by decide +kernel
theorem dX10_sentBy_34 : decode cX10_sentBy 34 = .ok (.iadd, 1) := by decide +kernel
theorem dX10_sentBy_35 : decode cX10_sentBy 35 = .ok (.laload, 1) := by decide +kernel
theorem dX10_sentBy_36 : decode cX10_sentBy 36 = .ok (.lstore 5, 2) := by decide +kernel
theorem dX10_sentBy_38 : decode cX10_sentBy 38 = .ok (.lload 5, 2) := by decide +kernel
theorem dX10_sentBy_40 : decode cX10_sentBy 40 = .ok (.ldc2_w 258, 3) := by decide +kernel
theorem dX10_sentBy_43 : decode cX10_sentBy 43 = .ok (.lcmp, 1) := by decide +kernel
theorem dX10_sentBy_44 : decode cX10_sentBy 44 = .ok (.ifCond .ne 7, 3) := by decide +kernel
theorem dX10_sentBy_47 : decode cX10_sentBy 47 = .ok (.iconst 0, 1) := by decide +kernel
theorem dX10_sentBy_48 : decode cX10_sentBy 48 = .ok (.goto 8, 3) := by decide +kernel
theorem dX10_sentBy_51 : decode cX10_sentBy 51 = .ok (.iconst 1, 1) := by decide +kernel
theorem dX10_sentBy_52 : decode cX10_sentBy 52 = .ok (.lload 5, 2) := by decide +kernel
theorem dX10_sentBy_54 : decode cX10_sentBy 54 = .ok (.l2i, 1) := by decide +kernel
theorem dX10_sentBy_55 : decode cX10_sentBy 55 = .ok (.ishl, 1) := by decide +kernel
theorem dX10_sentBy_56 : decode cX10_sentBy 56 = .ok (.istore 7, 2) := by decide +kernel
theorem dX10_sentBy_58 : decode cX10_sentBy 58 = .ok (.iload 7, 2) := by decide +kernel
theorem dX10_sentBy_60 : decode cX10_sentBy 60 = .ok (.aload_n 0, 1) := by decide +kernel
theorem dX10_sentBy_61 : decode cX10_sentBy 61 = .ok (.getfield 35, 3) := by decide +kernel
theorem dX10_sentBy_64 : decode cX10_sentBy 64 = .ok (.iload 4, 2) := by decide +kernel
theorem dX10_sentBy_66 : decode cX10_sentBy 66 = .ok (.invokevirtual 133, 3) := by decide +kernel
theorem dX10_sentBy_69 : decode cX10_sentBy 69 = .ok (.if_icmp .eq 5, 3) := by decide +kernel
theorem dX10_sentBy_72 : decode cX10_sentBy 72 = .ok (.iconst 0, 1) := by decide +kernel
theorem dX10_sentBy_73 : decode cX10_sentBy 73 = .ok (.ireturn, 1) := by decide +kernel
theorem dX10_sentBy_74 : decode cX10_sentBy 74 = .ok (.iinc 4 1, 3) := by decide +kernel
theorem dX10_sentBy_77 : decode cX10_sentBy 77 = .ok (.goto (-62), 3) := by decide +kernel
theorem dX10_sentBy_80 : decode cX10_sentBy 80 = .ok (.iconst 1, 1) := by decide +kernel
theorem dX10_sentBy_81 : decode cX10_sentBy 81 = .ok (.ireturn, 1) := by decide +kernel
theorem dX10_refusal_0 : decode cX10_refusal 0 = .ok (.iload_n 1, 1) := by decide +kernel
theorem dX10_refusal_1 : decode cX10_refusal 1 = .ok (.invokestatic 268, 3) := by decide +kernel
theorem dX10_refusal_4 : decode cX10_refusal 4 = .ok (.ifCond .eq 10, 3) := by decide +kernel
theorem dX10_refusal_7 : decode cX10_refusal 7 = .ok (.iload_n 2, 1) := by decide +kernel
theorem dX10_refusal_8 : decode cX10_refusal 8 = .ok (.invokestatic 271, 3) := by decide +kernel
theorem dX10_refusal_11 : decode cX10_refusal 11 = .ok (.ifCond .ne 5, 3) := by decide +kernel
theorem dX10_refusal_14 : decode cX10_refusal 14 = .ok (.iconst (-1), 1) := by decide +kernel
theorem dX10_refusal_15 : decode cX10_refusal 15 = .ok (.ireturn, 1) := by decide +kernel
theorem dX10_refusal_16 : decode cX10_refusal 16 = .ok (.aload_n 0, 1) := by decide +kernel
theorem dX10_refusal_17 : decode cX10_refusal 17 = .ok (.getfield 69, 3) := by decide +kernel
theorem dX10_refusal_20 : decode cX10_refusal 20 = .ok (.iload_n 1, 1) := by decide +kernel
theorem dX10_refusal_21 : decode cX10_refusal 21 = .ok (.aaload, 1) := by decide +kernel
theorem dX10_refusal_22 : decode cX10_refusal 22 = .ok (.invokevirtual 277, 3) := by decide +kernel
theorem dX10_refusal_25 : decode cX10_refusal 25 = .ok (.ifCond .eq 6, 3) := by decide +kernel
theorem dX10_refusal_28 : decode cX10_refusal 28 = .ok (.bipush (-11), 2) := by decide +kernel
theorem dX10_refusal_30 : decode cX10_refusal 30 = .ok (.ireturn, 1) := by decide +kernel
theorem dX10_refusal_31 : decode cX10_refusal 31 = .ok (.aload_n 0, 1) := by decide +kernel
theorem dX10_refusal_32 : decode cX10_refusal 32 = .ok (.getfield 69, 3) := by decide +kernel
theorem dX10_refusal_35 : decode cX10_refusal 35 = .ok (.iload_n 1, 1) := by decide +kernel
theorem dX10_refusal_36 : decode cX10_refusal 36 = .ok (.aaload, 1) := by decide +kernel
theorem dX10_refusal_37 : decode cX10_refusal 37 = .ok (.getfield 283, 3) := by decide +kernel
theorem dX10_refusal_40 : decode cX10_refusal 40 = .ok (.iload_n 2, 1) := by decide +kernel
theorem dX10_refusal_41 : decode cX10_refusal 41 = .ok (.if_icmp .ne 7, 3) := by decide +kernel
theorem dX10_refusal_44 : decode cX10_refusal 44 = .ok (.iconst 0, 1) := by decide +kernel
theorem dX10_refusal_45 : decode cX10_refusal 45 = .ok (.goto 5, 3) := by decide +kernel
theorem dX10_refusal_48 : decode cX10_refusal 48 = .ok (.bipush (-12), 2) := by decide +kernel
theorem dX10_refusal_50 : decode cX10_refusal 50 = .ok (.ireturn, 1) := by decide +kernel
theorem dX10_isSheet_0 : decode cX10_isSheet 0 = .ok (.iload_n 0, 1) := by decide +kernel
theorem dX10_isSheet_1 : decode cX10_isSheet 1 = .ok (.ifCond .lt 12, 3) := by decide +kernel
theorem dX10_isSheet_4 : decode cX10_isSheet 4 = .ok (.iload_n 0, 1) := by decide +kernel
theorem dX10_isSheet_5 : decode cX10_isSheet 5 = .ok (.iconst 4, 1) := by decide +kernel
theorem dX10_isSheet_6 : decode cX10_isSheet 6 = .ok (.if_icmp .ge 7, 3) := by decide +kernel
theorem dX10_isSheet_9 : decode cX10_isSheet 9 = .ok (.iconst 1, 1) := by decide +kernel
theorem dX10_isSheet_10 : decode cX10_isSheet 10 = .ok (.goto 4, 3) := by decide +kernel
theorem dX10_isSheet_13 : decode cX10_isSheet 13 = .ok (.iconst 0, 1) := by decide +kernel
theorem dX10_isSheet_14 : decode cX10_isSheet 14 = .ok (.ireturn, 1) := by decide +kernel
theorem dX10_isLane_0 : decode cX10_isLane 0 = .ok (.iload_n 0, 1) := by decide +kernel
theorem dX10_isLane_1 : decode cX10_isLane 1 = .ok (.ifCond .lt 12, 3) := by decide +kernel
theorem dX10_isLane_4 : decode cX10_isLane 4 = .ok (.iload_n 0, 1) := by decide +kernel
theorem dX10_isLane_5 : decode cX10_isLane 5 = .ok (.iconst 4, 1) := by decide +kernel
theorem dX10_isLane_6 : decode cX10_isLane 6 = .ok (.if_icmp .ge 7, 3) := by decide +kernel
theorem dX10_isLane_9 : decode cX10_isLane 9 = .ok (.iconst 1, 1) := by decide +kernel
theorem dX10_isLane_10 : decode cX10_isLane 10 = .ok (.goto 4, 3) := by decide +kernel
theorem dX10_isLane_13 : decode cX10_isLane 13 = .ok (.iconst 0, 1) := by decide +kernel
theorem dX10_isLane_14 : decode cX10_isLane 14 = .ok (.ireturn, 1) := by decide +kernel
theorem dX10_changed_0 : decode cX10_changed 0 = .ok (.iload_n 0, 1) := by decide +kernel
theorem dX10_changed_1 : decode cX10_changed 1 = .ok (.ldc_w 304, 3) := by decide +kernel
theorem dX10_changed_4 : decode cX10_changed 4 = .ok (.imul, 1) := by decide +kernel
theorem dX10_changed_5 : decode cX10_changed 5 = .ok (.sipush 12345, 3) := by decide +kernel
theorem dX10_changed_8 : decode cX10_changed 8 = .ok (.iadd, 1) := by decide +kernel
theorem dX10_changed_9 : decode cX10_changed 9 = .ok (.ldc_w 305, 3) := by decide +kernel
theorem dX10_changed_12 : decode cX10_changed 12 = .ok (.iand, 1) := by decide +kernel
theorem dX10_changed_13 : decode cX10_changed 13 = .ok (.ireturn, 1) := by decide +kernel
theorem dX10_drawn_0 : decode cX10_drawn 0 = .ok (.iload_n 0, 1) := by decide +kernel
theorem dX10_drawn_1 : decode cX10_drawn 1 = .ok (.bipush 16, 2) := by decide +kernel
theorem dX10_drawn_3 : decode cX10_drawn 3 = .ok (.iushr, 1) := by decide +kernel
theorem dX10_drawn_4 : decode cX10_drawn 4 = .ok (.ireturn, 1) := by decide +kernel
theorem dX10_leftOver_0 : decode cX10_leftOver 0 = .ok (.iload_n 1, 1) := by decide +kernel
theorem dX10_leftOver_1 : decode cX10_leftOver 1 = .ok (.iconst 1, 1) := by decide +kernel
theorem dX10_leftOver_2 : decode cX10_leftOver 2 = .ok (.if_icmp .ge 7, 3) := by decide +kernel
theorem dX10_leftOver_5 : decode cX10_leftOver 5 = .ok (.iconst 0, 1) := by decide +kernel
theorem dX10_leftOver_6 : decode cX10_leftOver 6 = .ok (.goto 8, 3) := by decide +kernel
theorem dX10_leftOver_9 : decode cX10_leftOver 9 = .ok (.iload_n 0, 1) := by decide +kernel
theorem dX10_leftOver_10 : decode cX10_leftOver 10 = .ok (.iload_n 1, 1) := by decide +kernel
theorem dX10_leftOver_11 : decode cX10_leftOver 11 = .ok (.invokestatic 306, 3) := by decide +kernel
theorem dX10_leftOver_14 : decode cX10_leftOver 14 = .ok (.ireturn, 1) := by decide +kernel
theorem dX10_has_0 : decode cX10_has 0 = .ok (.iload_n 0, 1) := by decide +kernel
theorem dX10_has_1 : decode cX10_has 1 = .ok (.iload_n 1, 1) := by decide +kernel
theorem dX10_has_2 : decode cX10_has 2 = .ok (.ishr, 1) := by decide +kernel
theorem dX10_has_3 : decode cX10_has 3 = .ok (.iconst 1, 1) := by decide +kernel
theorem dX10_has_4 : decode cX10_has 4 = .ok (.iand, 1) := by decide +kernel
theorem dX10_has_5 : decode cX10_has 5 = .ok (.iconst 1, 1) := by decide +kernel
theorem dX10_has_6 : decode cX10_has 6 = .ok (.if_icmp .ne 7, 3) := by decide +kernel
theorem dX10_has_9 : decode cX10_has 9 = .ok (.iconst 1, 1) := by decide +kernel
theorem dX10_has_10 : decode cX10_has 10 = .ok (.goto 4, 3) := by decide +kernel
theorem dX10_has_13 : decode cX10_has 13 = .ok (.iconst 0, 1) := by decide +kernel
theorem dX10_has_14 : decode cX10_has 14 = .ok (.ireturn, 1) := by decide +kernel
theorem dX11_in_0 : decode cX11_in 0 = .ok (.lload_n 0, 1) := by decide +kernel
theorem dX11_in_1 : decode cX11_in 1 = .ok (.lload_n 2, 1) := by decide +kernel
theorem dX11_in_2 : decode cX11_in 2 = .ok (.lcmp, 1) := by decide +kernel
theorem dX11_in_3 : decode cX11_in 3 = .ok (.ifCond .lt 14, 3) := by decide +kernel
theorem dX11_in_6 : decode cX11_in 6 = .ok (.lload_n 0, 1) := by decide +kernel
theorem dX11_in_7 : decode cX11_in 7 = .ok (.lload 4, 2) := by decide +kernel
theorem dX11_in_9 : decode cX11_in 9 = .ok (.lcmp, 1) := by decide +kernel
theorem dX11_in_10 : decode cX11_in 10 = .ok (.ifCond .gt 7, 3) := by decide +kernel
theorem dX11_in_13 : decode cX11_in 13 = .ok (.iconst 1, 1) := by decide +kernel
theorem dX11_in_14 : decode cX11_in 14 = .ok (.goto 4, 3) := by decide +kernel
theorem dX11_in_17 : decode cX11_in 17 = .ok (.iconst 0, 1) := by decide +kernel
theorem dX11_in_18 : decode cX11_in 18 = .ok (.ireturn, 1) := by decide +kernel
theorem dX11_has_0 : decode cX11_has 0 = .ok (.iload_n 0, 1) := by decide +kernel
theorem dX11_has_1 : decode cX11_has 1 = .ok (.iload_n 1, 1) := by decide +kernel
theorem dX11_has_2 : decode cX11_has 2 = .ok (.ishr, 1) := by decide +kernel
theorem dX11_has_3 : decode cX11_has 3 = .ok (.iconst 1, 1) := by decide +kernel
theorem dX11_has_4 : decode cX11_has 4 = .ok (.iand, 1) := by decide +kernel
theorem dX11_has_5 : decode cX11_has 5 = .ok (.iconst 1, 1) := by decide +kernel
theorem dX11_has_6 : decode cX11_has 6 = .ok (.if_icmp .ne 7, 3) := by decide +kernel
theorem dX11_has_9 : decode cX11_has 9 = .ok (.iconst 1, 1) := by decide +kernel
theorem dX11_has_10 : decode cX11_has 10 = .ok (.goto 4, 3) := by decide +kernel
theorem dX11_has_13 : decode cX11_has 13 = .ok (.iconst 0, 1) := by decide +kernel
theorem dX11_has_14 : decode cX11_has 14 = .ok (.ireturn, 1) := by decide +kernel
theorem dX11_ones_0 : decode cX11_ones 0 = .ok (.iconst 0, 1) := by decide +kernel
theorem dX11_ones_1 : decode cX11_ones 1 = .ok (.istore_n 1, 1) := by decide +kernel
theorem dX11_ones_2 : decode cX11_ones 2 = .ok (.iconst 0, 1) := by decide +kernel
theorem dX11_ones_3 : decode cX11_ones 3 = .ok (.istore_n 2, 1) := by decide +kernel
theorem dX11_ones_4 : decode cX11_ones 4 = .ok (.iload_n 2, 1) := by decide +kernel
theorem dX11_ones_5 : decode cX11_ones 5 = .ok (.bipush 32, 2) := by decide +kernel
theorem dX11_ones_7 : decode cX11_ones 7 = .ok (.if_icmp .ge 17, 3) := by decide +kernel
theorem dX11_ones_10 : decode cX11_ones 10 = .ok (.iload_n 1, 1) := by decide +kernel
theorem dX11_ones_11 : decode cX11_ones 11 = .ok (.iload_n 0, 1) := by decide +kernel
theorem dX11_ones_12 : decode cX11_ones 12 = .ok (.iload_n 2, 1) := by decide +kernel
theorem dX11_ones_13 : decode cX11_ones 13 = .ok (.ishr, 1) := by decide +kernel
theorem dX11_ones_14 : decode cX11_ones 14 = .ok (.iconst 1, 1) := by decide +kernel
theorem dX11_ones_15 : decode cX11_ones 15 = .ok (.iand, 1) := by decide +kernel
theorem dX11_ones_16 : decode cX11_ones 16 = .ok (.iadd, 1) := by decide +kernel
theorem dX11_ones_17 : decode cX11_ones 17 = .ok (.istore_n 1, 1) := by decide +kernel
theorem dX11_ones_18 : decode cX11_ones 18 = .ok (.iinc 2 1, 3) := by decide +kernel
theorem dX11_ones_21 : decode cX11_ones 21 = .ok (.goto (-17), 3) := by decide +kernel
theorem dX11_ones_24 : decode cX11_ones 24 = .ok (.iload_n 1, 1) := by decide +kernel
theorem dX11_ones_25 : decode cX11_ones 25 = .ok (.ireturn, 1) := by decide +kernel
theorem dX11_init_0 : decode cX11_init 0 = .ok (.aload_n 0, 1) := by decide +kernel
theorem dX11_init_1 : decode cX11_init 1 = .ok (.invokespecial 1, 3) := by decide +kernel
theorem dX11_init_4 : decode cX11_init 4 = .ok (.aload_n 0, 1) := by decide +kernel
theorem dX11_init_5 : decode cX11_init 5 = .ok (.bipush 69, 2) := by decide +kernel
theorem dX11_init_7 : decode cX11_init 7 = .ok (.newarray .int, 2) := by decide +kernel
theorem dX11_init_9 : decode cX11_init 9 = .ok (.putfield 7, 3) := by decide +kernel
theorem dX11_init_12 : decode cX11_init 12 = .ok (.aload_n 0, 1) := by decide +kernel
theorem dX11_init_13 : decode cX11_init 13 = .ok (.sipush 414, 3) := by decide +kernel
theorem dX11_init_16 : decode cX11_init 16 = .ok (.newarray .int, 2) := by decide +kernel
theorem dX11_init_18 : decode cX11_init 18 = .ok (.putfield 13, 3) := by decide +kernel
theorem dX11_init_21 : decode cX11_init 21 = .ok (.aload_n 0, 1) := by decide +kernel
theorem dX11_init_22 : decode cX11_init 22 = .ok (.sipush 483, 3) := by decide +kernel
theorem dX11_init_25 : decode cX11_init 25 = .ok (.newarray .int, 2) := by decide +kernel
theorem dX11_init_27 : decode cX11_init 27 = .ok (.putfield 16, 3) := by decide +kernel
theorem dX11_init_30 : decode cX11_init 30 = .ok (.aload_n 0, 1) := by decide +kernel
theorem dX11_init_31 : decode cX11_init 31 = .ok (.bipush 69, 2) := by decide +kernel
theorem dX11_init_33 : decode cX11_init 33 = .ok (.newarray .int, 2) := by decide +kernel
theorem dX11_init_35 : decode cX11_init 35 = .ok (.putfield 19, 3) := by decide +kernel
theorem dX11_init_38 : decode cX11_init 38 = .ok (.aload_n 0, 1) := by decide +kernel
theorem dX11_init_39 : decode cX11_init 39 = .ok (.sipush 256, 3) := by decide +kernel
theorem dX11_init_42 : decode cX11_init 42 = .ok (.newarray .boolean, 2) := by decide +kernel
theorem dX11_init_44 : decode cX11_init 44 = .ok (.putfield 22, 3) := by decide +kernel
theorem dX11_init_47 : decode cX11_init 47 = .ok (.aload_n 0, 1) := by decide +kernel
theorem dX11_init_48 : decode cX11_init 48 = .ok (.bipush 6, 2) := by decide +kernel
theorem dX11_init_50 : decode cX11_init 50 = .ok (.newarray .int, 2) := by decide +kernel
theorem dX11_init_52 : decode cX11_init 52 = .ok (.putfield 26, 3) := by decide +kernel
theorem dX11_init_55 : decode cX11_init 55 = .ok (.aload_n 0, 1) := by decide +kernel
theorem dX11_init_56 : decode cX11_init 56 = .ok (.bipush 48, 2) := by decide +kernel
theorem dX11_init_58 : decode cX11_init 58 = .ok (.newarray .int, 2) := by decide +kernel
theorem dX11_init_60 : decode cX11_init 60 = .ok (.putfield 29, 3) := by decide +kernel
theorem dX11_init_63 : decode cX11_init 63 = .ok (.aload_n 0, 1) := by decide +kernel
theorem dX11_init_64 : decode cX11_init 64 = .ok (.bipush 8, 2) := by decide +kernel
theorem dX11_init_66 : decode cX11_init 66 = .ok (.newarray .int, 2) := by decide +kernel
theorem dX11_init_68 : decode cX11_init 68 = .ok (.putfield 32, 3) := by decide +kernel
theorem dX11_init_71 : decode cX11_init 71 = .ok (.aload_n 0, 1) := by decide +kernel
theorem dX11_init_72 : decode cX11_init 72 = .ok (.sipush 384, 3) := by decide +kernel
theorem dX11_init_75 : decode cX11_init 75 = .ok (.newarray .int, 2) := by decide +kernel
theorem dX11_init_77 : decode cX11_init 77 = .ok (.putfield 35, 3) := by decide +kernel
theorem dX11_init_80 : decode cX11_init 80 = .ok (.aload_n 0, 1) := by decide +kernel
theorem dX11_init_81 : decode cX11_init 81 = .ok (.bipush 6, 2) := by decide +kernel
theorem dX11_init_83 : decode cX11_init 83 = .ok (.newarray .int, 2) := by decide +kernel
theorem dX11_init_85 : decode cX11_init 85 = .ok (.putfield 38, 3) := by decide +kernel
theorem dX11_init_88 : decode cX11_init 88 = .ok (.aload_n 0, 1) := by decide +kernel
theorem dX11_init_89 : decode cX11_init 89 = .ok (.bipush 6, 2) := by decide +kernel
theorem dX11_init_91 : decode cX11_init 91 = .ok (.newarray .int, 2) := by decide +kernel
theorem dX11_init_93 : decode cX11_init 93 = .ok (.putfield 41, 3) := by decide +kernel
theorem dX11_init_96 : decode cX11_init 96 = .ok (.aload_n 0, 1) := by decide +kernel
theorem dX11_init_97 : decode cX11_init 97 = .ok (.bipush 90, 2) := by decide +kernel
theorem dX11_init_99 : decode cX11_init 99 = .ok (.newarray .int, 2) := by decide +kernel
theorem dX11_init_101 : decode cX11_init 101 = .ok (.putfield 44, 3) := by decide +kernel
theorem dX11_init_104 : decode cX11_init 104 = .ok (.aload_n 0, 1) := by decide +kernel
theorem dX11_init_105 : decode cX11_init 105 = .ok (.bipush 8, 2) := by decide +kernel
theorem dX11_init_107 : decode cX11_init 107 = .ok (.newarray .int, 2) := by decide +kernel
theorem dX11_init_109 : decode cX11_init 109 = .ok (.putfield 47, 3) := by decide +kernel
theorem dX11_init_112 : decode cX11_init 112 = .ok (.aload_n 0, 1) := by decide +kernel
theorem dX11_init_113 : decode cX11_init 113 = .ok (.iconst 4, 1) := by decide +kernel
theorem dX11_init_114 : decode cX11_init 114 = .ok (.newarray .int, 2) := by decide +kernel
theorem dX11_init_116 : decode cX11_init 116 = .ok (.putfield 50, 3) := by decide +kernel
theorem dX11_init_119 : decode cX11_init 119 = .ok (.aload_n 0, 1) := by decide +kernel
theorem dX11_init_120 : decode cX11_init 120 = .ok (.iconst 4, 1) := by decide +kernel
theorem dX11_init_121 : decode cX11_init 121 = .ok (.newarray .int, 2) := by decide +kernel
theorem dX11_init_123 : decode cX11_init 123 = .ok (.dup, 1) := by decide +kernel
theorem dX11_init_124 : decode cX11_init 124 = .ok (.iconst 0, 1) := by decide +kernel
theorem dX11_init_125 : decode cX11_init 125 = .ok (.iconst (-1), 1) := by decide +kernel
theorem dX11_init_126 : decode cX11_init 126 = .ok (.iastore, 1) := by decide +kernel
theorem dX11_init_127 : decode cX11_init 127 = .ok (.dup, 1) := by decide +kernel
theorem dX11_init_128 : decode cX11_init 128 = .ok (.iconst 1, 1) := by decide +kernel
theorem dX11_init_129 : decode cX11_init 129 = .ok (.iconst (-1), 1) := by decide +kernel
theorem dX11_init_130 : decode cX11_init 130 = .ok (.iastore, 1) := by decide +kernel
theorem dX11_init_131 : decode cX11_init 131 = .ok (.dup, 1) := by decide +kernel
theorem dX11_init_132 : decode cX11_init 132 = .ok (.iconst 2, 1) := by decide +kernel
theorem dX11_init_133 : decode cX11_init 133 = .ok (.iconst (-1), 1) := by decide +kernel
theorem dX11_init_134 : decode cX11_init 134 = .ok (.iastore, 1) := by decide +kernel
theorem dX11_init_135 : decode cX11_init 135 = .ok (.dup, 1) := by decide +kernel
theorem dX11_init_136 : decode cX11_init 136 = .ok (.iconst 3, 1) := by decide +kernel
theorem dX11_init_137 : decode cX11_init 137 = .ok (.iconst (-1), 1) := by decide +kernel
theorem dX11_init_138 : decode cX11_init 138 = .ok (.iastore, 1) := by decide +kernel
theorem dX11_init_139 : decode cX11_init 139 = .ok (.putfield 53, 3) := by decide +kernel
theorem dX11_init_142 : decode cX11_init 142 = .ok (.aload_n 0, 1) := by decide +kernel
theorem dX11_init_143 : decode cX11_init 143 = .ok (.bipush 96, 2) := by decide +kernel
theorem dX11_init_145 : decode cX11_init 145 = .ok (.newarray .long, 2) := by decide +kernel
theorem dX11_init_147 : decode cX11_init 147 = .ok (.putfield 56, 3) := by decide +kernel
theorem dX11_init_150 : decode cX11_init 150 = .ok (.aload_n 0, 1) := by decide +kernel
theorem dX11_init_151 : decode cX11_init 151 = .ok (.getfield 7, 3) := by decide +kernel
theorem dX11_init_154 : decode cX11_init 154 = .ok (.iconst 0, 1) := by decide +kernel
theorem dX11_init_155 : decode cX11_init 155 = .ok (.iconst 4, 1) := by decide +kernel
theorem dX11_init_156 : decode cX11_init 156 = .ok (.iastore, 1) := by decide +kernel
theorem dX11_init_157 : decode cX11_init 157 = .ok (.aload_n 0, 1) := by decide +kernel
theorem dX11_init_158 : decode cX11_init 158 = .ok (.getfield 7, 3) := by decide +kernel
theorem dX11_init_161 : decode cX11_init 161 = .ok (.iconst 1, 1) := by decide +kernel
theorem dX11_init_162 : decode cX11_init 162 = .ok (.iconst 4, 1) := by decide +kernel
theorem dX11_init_163 : decode cX11_init 163 = .ok (.iastore, 1) := by decide +kernel
theorem dX11_init_164 : decode cX11_init 164 = .ok (.aload_n 0, 1) := by decide +kernel
theorem dX11_init_165 : decode cX11_init 165 = .ok (.getfield 7, 3) := by decide +kernel
theorem dX11_init_168 : decode cX11_init 168 = .ok (.iconst 3, 1) := by decide +kernel
theorem dX11_init_169 : decode cX11_init 169 = .ok (.iconst 1, 1) := by decide +kernel
theorem dX11_init_170 : decode cX11_init 170 = .ok (.iastore, 1) := by decide +kernel
theorem dX11_init_171 : decode cX11_init 171 = .ok (.aload_n 0, 1) := by decide +kernel
theorem dX11_init_172 : decode cX11_init 172 = .ok (.getfield 7, 3) := by decide +kernel
theorem dX11_init_175 : decode cX11_init 175 = .ok (.iconst 5, 1) := by decide +kernel
theorem dX11_init_176 : decode cX11_init 176 = .ok (.iconst 1, 1) := by decide +kernel
theorem dX11_init_177 : decode cX11_init 177 = .ok (.iastore, 1) := by decide +kernel
theorem dX11_init_178 : decode cX11_init 178 = .ok (.aload_n 0, 1) := by decide +kernel
theorem dX11_init_179 : decode cX11_init 179 = .ok (.invokevirtual 60, 3) := by decide +kernel
theorem dX11_init_182 : decode cX11_init 182 = .ok (.aload_n 0, 1) := by decide +kernel
theorem dX11_init_183 : decode cX11_init 183 = .ok (.invokevirtual 63, 3) := by decide +kernel
theorem dX11_init_186 : decode cX11_init 186 = .ok (.return_, 1) := by decide +kernel
theorem dX11_copies_0 : decode cX11_copies 0 = .ok (.iconst 0, 1) := by decide +kernel
theorem dX11_copies_1 : decode cX11_copies 1 = .ok (.istore 5, 2) := by decide +kernel
theorem dX11_copies_3 : decode cX11_copies 3 = .ok (.iload 5, 2) := by decide +kernel
theorem dX11_copies_5 : decode cX11_copies 5 = .ok (.iload 4, 2) := by decide +kernel
theorem dX11_copies_7 : decode cX11_copies 7 = .ok (.if_icmp .ge 21, 3) := by decide +kernel
theorem dX11_copies_10 : decode cX11_copies 10 = .ok (.aload_n 2, 1) := by decide +kernel
theorem dX11_copies_11 : decode cX11_copies 11 = .ok (.iload_n 3, 1) := by decide +kernel
theorem dX11_copies_12 : decode cX11_copies 12 = .ok (.iload 5, 2) := by decide +kernel
theorem dX11_copies_14 : decode cX11_copies 14 = .ok (.iadd, 1) := by decide +kernel
theorem dX11_copies_15 : decode cX11_copies 15 = .ok (.aload_n 0, 1) := by decide +kernel
theorem dX11_copies_16 : decode cX11_copies 16 = .ok (.iload_n 1, 1) := by decide +kernel
theorem dX11_copies_17 : decode cX11_copies 17 = .ok (.iload 5, 2) := by decide +kernel
theorem dX11_copies_19 : decode cX11_copies 19 = .ok (.iadd, 1) := by decide +kernel
theorem dX11_copies_20 : decode cX11_copies 20 = .ok (.iaload, 1) := by decide +kernel
theorem dX11_copies_21 : decode cX11_copies 21 = .ok (.iastore, 1) := by decide +kernel
theorem dX11_copies_22 : decode cX11_copies 22 = .ok (.iinc 5 1, 3) := by decide +kernel
theorem dX11_copies_25 : decode cX11_copies 25 = .ok (.goto (-22), 3) := by decide +kernel
theorem dX11_copies_28 : decode cX11_copies 28 = .ok (.return_, 1) := by decide +kernel
theorem dX11_remembers_0 : decode cX11_remembers 0 = .ok (.aload_n 0, 1) := by decide +kernel
theorem dX11_remembers_1 : decode cX11_remembers 1 = .ok (.getfield 7, 3) := by decide +kernel
theorem dX11_remembers_4 : decode cX11_remembers 4 = .ok (.iconst 0, 1) := by decide +kernel
theorem dX11_remembers_5 : decode cX11_remembers 5 = .ok (.aload_n 0, 1) := by decide +kernel
theorem dX11_remembers_6 : decode cX11_remembers 6 = .ok (.getfield 13, 3) := by decide +kernel
theorem dX11_remembers_9 : decode cX11_remembers 9 = .ok (.bipush 69, 2) := by decide +kernel
theorem dX11_remembers_11 : decode cX11_remembers 11 = .ok (.aload_n 0, 1) := by decide +kernel
theorem dX11_remembers_12 : decode cX11_remembers 12 = .ok (.getfield 66, 3) := by decide +kernel
theorem dX11_remembers_15 : decode cX11_remembers 15 = .ok (.imul, 1) := by decide +kernel
theorem dX11_remembers_16 : decode cX11_remembers 16 = .ok (.bipush 69, 2) := by decide +kernel
theorem dX11_remembers_18 : decode cX11_remembers 18 = .ok (.invokestatic 70, 3) := by decide +kernel
theorem dX11_remembers_21 : decode cX11_remembers 21 = .ok (.aload_n 0, 1) := by decide +kernel
theorem dX11_remembers_22 : decode cX11_remembers 22 = .ok (.aload_n 0, 1) := by decide +kernel
theorem dX11_remembers_23 : decode cX11_remembers 23 = .ok (.getfield 66, 3) := by decide +kernel
theorem dX11_remembers_26 : decode cX11_remembers 26 = .ok (.iconst 1, 1) := by decide +kernel
theorem dX11_remembers_27 : decode cX11_remembers 27 = .ok (.iadd, 1) := by decide +kernel
theorem dX11_remembers_28 : decode cX11_remembers 28 = .ok (.bipush 6, 2) := by decide +kernel
theorem dX11_remembers_30 : decode cX11_remembers 30 = .ok (.irem, 1) := by decide +kernel
theorem dX11_remembers_31 : decode cX11_remembers 31 = .ok (.putfield 66, 3) := by decide +kernel
theorem dX11_remembers_34 : decode cX11_remembers 34 = .ok (.aload_n 0, 1) := by decide +kernel
theorem dX11_remembers_35 : decode cX11_remembers 35 = .ok (.dup, 1) := by decide +kernel
theorem dX11_remembers_36 : decode cX11_remembers 36 = .ok (.getfield 74, 3) := by decide +kernel
theorem dX11_remembers_39 : decode cX11_remembers 39 = .ok (.aload_n 0, 1) := by decide +kernel
theorem dX11_remembers_40 : decode cX11_remembers 40 = .ok (.getfield 74, 3) := by decide +kernel
theorem dX11_remembers_43 : decode cX11_remembers 43 = .ok (.bipush 6, 2) := by decide +kernel
theorem dX11_remembers_45 : decode cX11_remembers 45 = .ok (.if_icmp .ge 7, 3) := by decide +kernel
theorem dX11_remembers_48 : decode cX11_remembers 48 = .ok (.iconst 1, 1) := by decide +kernel
theorem dX11_remembers_49 : decode cX11_remembers 49 = .ok (.goto 4, 3) := by decide +kernel
theorem dX11_remembers_52 : decode cX11_remembers 52 = .ok (.iconst 0, 1) := by decide +kernel
theorem dX11_remembers_53 : decode cX11_remembers 53 = .ok (.iadd, 1) := by decide +kernel
theorem dX11_remembers_54 : decode cX11_remembers 54 = .ok (.putfield 74, 3) := by decide +kernel
theorem dX11_remembers_57 : decode cX11_remembers 57 = .ok (.return_, 1) := by decide +kernel
theorem dX11_undo_0 : decode cX11_undo 0 = .ok (.aload_n 0, 1) := by decide +kernel
theorem dX11_undo_1 : decode cX11_undo 1 = .ok (.getfield 74, 3) := by decide +kernel
theorem dX11_undo_4 : decode cX11_undo 4 = .ok (.ifCond .ne 6, 3) := by decide +kernel
theorem dX11_undo_7 : decode cX11_undo 7 = .ok (.bipush (-4), 2) := by decide +kernel
theorem dX11_undo_9 : decode cX11_undo 9 = .ok (.ireturn, 1) := by decide +kernel
theorem dX11_undo_10 : decode cX11_undo 10 = .ok (.aload_n 0, 1) := by decide +kernel
theorem dX11_undo_11 : decode cX11_undo 11 = .ok (.aload_n 0, 1) := by decide +kernel
theorem dX11_undo_12 : decode cX11_undo 12 = .ok (.getfield 66, 3) := by decide +kernel
theorem dX11_undo_15 : decode cX11_undo 15 = .ok (.bipush 6, 2) := by decide +kernel
theorem dX11_undo_17 : decode cX11_undo 17 = .ok (.iadd, 1) := by decide +kernel
theorem dX11_undo_18 : decode cX11_undo 18 = .ok (.iconst 1, 1) := by decide +kernel
theorem dX11_undo_19 : decode cX11_undo 19 = .ok (.isub, 1) := by decide +kernel
theorem dX11_undo_20 : decode cX11_undo 20 = .ok (.bipush 6, 2) := by decide +kernel
theorem dX11_undo_22 : decode cX11_undo 22 = .ok (.irem, 1) := by decide +kernel
theorem dX11_undo_23 : decode cX11_undo 23 = .ok (.putfield 66, 3) := by decide +kernel
theorem dX11_undo_26 : decode cX11_undo 26 = .ok (.aload_n 0, 1) := by decide +kernel
theorem dX11_undo_27 : decode cX11_undo 27 = .ok (.dup, 1) := by decide +kernel
theorem dX11_undo_28 : decode cX11_undo 28 = .ok (.getfield 74, 3) := by decide +kernel
theorem dX11_undo_31 : decode cX11_undo 31 = .ok (.iconst 1, 1) := by decide +kernel
theorem dX11_undo_32 : decode cX11_undo 32 = .ok (.isub, 1) := by decide +kernel
theorem dX11_undo_33 : decode cX11_undo 33 = .ok (.putfield 74, 3) := by decide +kernel
theorem dX11_undo_36 : decode cX11_undo 36 = .ok (.aload_n 0, 1) := by decide +kernel
theorem dX11_undo_37 : decode cX11_undo 37 = .ok (.getfield 13, 3) := by decide +kernel
theorem dX11_undo_40 : decode cX11_undo 40 = .ok (.bipush 69, 2) := by decide +kernel
theorem dX11_undo_42 : decode cX11_undo 42 = .ok (.aload_n 0, 1) := by decide +kernel
theorem dX11_undo_43 : decode cX11_undo 43 = .ok (.getfield 66, 3) := by decide +kernel
theorem dX11_undo_46 : decode cX11_undo 46 = .ok (.imul, 1) := by decide +kernel
theorem dX11_undo_47 : decode cX11_undo 47 = .ok (.aload_n 0, 1) := by decide +kernel
theorem dX11_undo_48 : decode cX11_undo 48 = .ok (.getfield 7, 3) := by decide +kernel
theorem dX11_undo_51 : decode cX11_undo 51 = .ok (.iconst 0, 1) := by decide +kernel
theorem dX11_undo_52 : decode cX11_undo 52 = .ok (.bipush 69, 2) := by decide +kernel
theorem dX11_undo_54 : decode cX11_undo 54 = .ok (.invokestatic 70, 3) := by decide +kernel
theorem dX11_undo_57 : decode cX11_undo 57 = .ok (.aload_n 0, 1) := by decide +kernel
theorem dX11_undo_58 : decode cX11_undo 58 = .ok (.getfield 74, 3) := by decide +kernel
theorem dX11_undo_61 : decode cX11_undo 61 = .ok (.ireturn, 1) := by decide +kernel
theorem dX11_image_0 : decode cX11_image 0 = .ok (.aload_n 0, 1) := by decide +kernel
theorem dX11_image_1 : decode cX11_image 1 = .ok (.iconst 1, 1) := by decide +kernel
theorem dX11_image_2 : decode cX11_image 2 = .ok (.putfield 77, 3) := by decide +kernel
theorem dX11_image_5 : decode cX11_image 5 = .ok (.aload_n 0, 1) := by decide +kernel
theorem dX11_image_6 : decode cX11_image 6 = .ok (.getfield 7, 3) := by decide +kernel
theorem dX11_image_9 : decode cX11_image 9 = .ok (.iconst 0, 1) := by decide +kernel
theorem dX11_image_10 : decode cX11_image 10 = .ok (.aload_n 0, 1) := by decide +kernel
theorem dX11_image_11 : decode cX11_image 11 = .ok (.getfield 16, 3) := by decide +kernel
theorem dX11_image_14 : decode cX11_image 14 = .ok (.iconst 0, 1) := by decide +kernel
theorem dX11_image_15 : decode cX11_image 15 = .ok (.bipush 69, 2) := by decide +kernel
theorem dX11_image_17 : decode cX11_image 17 = .ok (.invokestatic 70, 3) := by decide +kernel
theorem dX11_image_20 : decode cX11_image 20 = .ok (.aload_n 0, 1) := by decide +kernel
theorem dX11_image_21 : decode cX11_image 21 = .ok (.getfield 13, 3) := by decide +kernel
theorem dX11_image_24 : decode cX11_image 24 = .ok (.iconst 0, 1) := by decide +kernel
theorem dX11_image_25 : decode cX11_image 25 = .ok (.aload_n 0, 1) := by decide +kernel
theorem dX11_image_26 : decode cX11_image 26 = .ok (.getfield 16, 3) := by decide +kernel
theorem dX11_image_29 : decode cX11_image 29 = .ok (.bipush 69, 2) := by decide +kernel
theorem dX11_image_31 : decode cX11_image 31 = .ok (.sipush 414, 3) := by decide +kernel
theorem dX11_image_34 : decode cX11_image 34 = .ok (.invokestatic 70, 3) := by decide +kernel
theorem dX11_image_37 : decode cX11_image 37 = .ok (.aload_n 0, 1) := by decide +kernel
theorem dX11_image_38 : decode cX11_image 38 = .ok (.aload_n 0, 1) := by decide +kernel
theorem dX11_image_39 : decode cX11_image 39 = .ok (.getfield 74, 3) := by decide +kernel
theorem dX11_image_42 : decode cX11_image 42 = .ok (.putfield 81, 3) := by decide +kernel
theorem dX11_image_45 : decode cX11_image 45 = .ok (.aload_n 0, 1) := by decide +kernel
theorem dX11_image_46 : decode cX11_image 46 = .ok (.aload_n 0, 1) := by decide +kernel
theorem dX11_image_47 : decode cX11_image 47 = .ok (.getfield 66, 3) := by decide +kernel
theorem dX11_image_50 : decode cX11_image 50 = .ok (.putfield 84, 3) := by decide +kernel
theorem dX11_image_53 : decode cX11_image 53 = .ok (.iconst 1, 1) := by decide +kernel
theorem dX11_image_54 : decode cX11_image 54 = .ok (.ireturn, 1) := by decide +kernel
theorem dX11_restore_0 : decode cX11_restore 0 = .ok (.aload_n 0, 1) := by decide +kernel
theorem dX11_restore_1 : decode cX11_restore 1 = .ok (.getfield 77, 3) := by decide +kernel
theorem dX11_restore_4 : decode cX11_restore 4 = .ok (.ifCond .ne 6, 3) := by decide +kernel
theorem dX11_restore_7 : decode cX11_restore 7 = .ok (.bipush (-4), 2) := by decide +kernel
theorem dX11_restore_9 : decode cX11_restore 9 = .ok (.ireturn, 1) := by decide +kernel
theorem dX11_restore_10 : decode cX11_restore 10 = .ok (.aload_n 0, 1) := by decide +kernel
theorem dX11_restore_11 : decode cX11_restore 11 = .ok (.getfield 16, 3) := by decide +kernel
theorem dX11_restore_14 : decode cX11_restore 14 = .ok (.iconst 0, 1) := by decide +kernel
theorem dX11_restore_15 : decode cX11_restore 15 = .ok (.aload_n 0, 1) := by decide +kernel
theorem dX11_restore_16 : decode cX11_restore 16 = .ok (.getfield 7, 3) := by decide +kernel
theorem dX11_restore_19 : decode cX11_restore 19 = .ok (.iconst 0, 1) := by decide +kernel
theorem dX11_restore_20 : decode cX11_restore 20 = .ok (.bipush 69, 2) := by decide +kernel
theorem dX11_restore_22 : decode cX11_restore 22 = .ok (.invokestatic 70, 3) := by decide +kernel
theorem dX11_restore_25 : decode cX11_restore 25 = .ok (.aload_n 0, 1) := by decide +kernel
theorem dX11_restore_26 : decode cX11_restore 26 = .ok (.getfield 16, 3) := by decide +kernel
theorem dX11_restore_29 : decode cX11_restore 29 = .ok (.bipush 69, 2) := by decide +kernel
theorem dX11_restore_31 : decode cX11_restore 31 = .ok (.aload_n 0, 1) := by decide +kernel
theorem dX11_restore_32 : decode cX11_restore 32 = .ok (.getfield 13, 3) := by decide +kernel
theorem dX11_restore_35 : decode cX11_restore 35 = .ok (.iconst 0, 1) := by decide +kernel
theorem dX11_restore_36 : decode cX11_restore 36 = .ok (.sipush 414, 3) := by decide +kernel
theorem dX11_restore_39 : decode cX11_restore 39 = .ok (.invokestatic 70, 3) := by decide +kernel
theorem dX11_restore_42 : decode cX11_restore 42 = .ok (.aload_n 0, 1) := by decide +kernel
theorem dX11_restore_43 : decode cX11_restore 43 = .ok (.aload_n 0, 1) := by decide +kernel
theorem dX11_restore_44 : decode cX11_restore 44 = .ok (.getfield 81, 3) := by decide +kernel
theorem dX11_restore_47 : decode cX11_restore 47 = .ok (.putfield 74, 3) := by decide +kernel
theorem dX11_restore_50 : decode cX11_restore 50 = .ok (.aload_n 0, 1) := by decide +kernel
theorem dX11_restore_51 : decode cX11_restore 51 = .ok (.aload_n 0, 1) := by decide +kernel
theorem dX11_restore_52 : decode cX11_restore 52 = .ok (.getfield 84, 3) := by decide +kernel
theorem dX11_restore_55 : decode cX11_restore 55 = .ok (.putfield 66, 3) := by decide +kernel
theorem dX11_restore_58 : decode cX11_restore 58 = .ok (.iconst 1, 1) := by decide +kernel
theorem dX11_restore_59 : decode cX11_restore 59 = .ok (.ireturn, 1) := by decide +kernel
theorem dX11_linkOf_0 : decode cX11_linkOf 0 = .ok (.iload_n 0, 1) := by decide +kernel
theorem dX11_linkOf_1 : decode cX11_linkOf 1 = .ok (.iload_n 1, 1) := by decide +kernel
theorem dX11_linkOf_2 : decode cX11_linkOf 2 = .ok (.if_icmp .ge 15, 3) := by decide +kernel
theorem dX11_linkOf_5 : decode cX11_linkOf 5 = .ok (.iload_n 1, 1) := by decide +kernel
theorem dX11_linkOf_6 : decode cX11_linkOf 6 = .ok (.iload_n 1, 1) := by decide +kernel
theorem dX11_linkOf_7 : decode cX11_linkOf 7 = .ok (.iconst 1, 1) := by decide +kernel
theorem dX11_linkOf_8 : decode cX11_linkOf 8 = .ok (.isub, 1) := by decide +kernel
theorem dX11_linkOf_9 : decode cX11_linkOf 9 = .ok (.imul, 1) := by decide +kernel
theorem dX11_linkOf_10 : decode cX11_linkOf 10 = .ok (.iconst 2, 1) := by decide +kernel
theorem dX11_linkOf_11 : decode cX11_linkOf 11 = .ok (.idiv, 1) := by decide +kernel
theorem dX11_linkOf_12 : decode cX11_linkOf 12 = .ok (.iload_n 0, 1) := by decide +kernel
theorem dX11_linkOf_13 : decode cX11_linkOf 13 = .ok (.iadd, 1) := by decide +kernel
theorem dX11_linkOf_14 : decode cX11_linkOf 14 = .ok (.goto 12, 3) := by decide +kernel
theorem dX11_linkOf_17 : decode cX11_linkOf 17 = .ok (.iload_n 0, 1) := by decide +kernel
theorem dX11_linkOf_18 : decode cX11_linkOf 18 = .ok (.iload_n 0, 1) := by decide +kernel
theorem dX11_linkOf_19 : decode cX11_linkOf 19 = .ok (.iconst 1, 1) := by decide +kernel
theorem dX11_linkOf_20 : decode cX11_linkOf 20 = .ok (.isub, 1) := by decide +kernel
theorem dX11_linkOf_21 : decode cX11_linkOf 21 = .ok (.imul, 1) := by decide +kernel
theorem dX11_linkOf_22 : decode cX11_linkOf 22 = .ok (.iconst 2, 1) := by decide +kernel
theorem dX11_linkOf_23 : decode cX11_linkOf 23 = .ok (.idiv, 1) := by decide +kernel
theorem dX11_linkOf_24 : decode cX11_linkOf 24 = .ok (.iload_n 1, 1) := by decide +kernel
theorem dX11_linkOf_25 : decode cX11_linkOf 25 = .ok (.iadd, 1) := by decide +kernel
theorem dX11_linkOf_26 : decode cX11_linkOf 26 = .ok (.ireturn, 1) := by decide +kernel
theorem dX11_linkedBy_0 : decode cX11_linkedBy 0 = .ok (.iconst 0, 1) := by decide +kernel
theorem dX11_linkedBy_1 : decode cX11_linkedBy 1 = .ok (.istore 4, 2) := by decide +kernel
theorem dX11_linkedBy_3 : decode cX11_linkedBy 3 = .ok (.iconst 0, 1) := by decide +kernel
theorem dX11_linkedBy_4 : decode cX11_linkedBy 4 = .ok (.istore 5, 2) := by decide +kernel
theorem dX11_linkedBy_6 : decode cX11_linkedBy 6 = .ok (.iload 5, 2) := by decide +kernel
theorem dX11_linkedBy_8 : decode cX11_linkedBy 8 = .ok (.iload_n 2, 1) := by decide +kernel
theorem dX11_linkedBy_9 : decode cX11_linkedBy 9 = .ok (.if_icmp .ge 45, 3) := by decide +kernel
theorem dX11_linkedBy_12 : decode cX11_linkedBy 12 = .ok (.iload 4, 2) := by decide +kernel
theorem dX11_linkedBy_14 : decode cX11_linkedBy 14 = .ok (.iload 5, 2) := by decide +kernel
theorem dX11_linkedBy_16 : decode cX11_linkedBy 16 = .ok (.iload_n 1, 1) := by decide +kernel
theorem dX11_linkedBy_17 : decode cX11_linkedBy 17 = .ok (.if_icmp .eq 27, 3) := by decide +kernel
theorem dX11_linkedBy_20 : decode cX11_linkedBy 20 = .ok (.iload_n 3, 1) := by decide +kernel
theorem dX11_linkedBy_21 : decode cX11_linkedBy 21 = .ok (.ifCond .ne 16, 3) := by decide +kernel
theorem dX11_linkedBy_24 : decode cX11_linkedBy 24 = .ok (.iload_n 0, 1) := by decide +kernel
theorem dX11_linkedBy_25 : decode cX11_linkedBy 25 = .ok (.iload 5, 2) := by decide +kernel
theorem dX11_linkedBy_27 : decode cX11_linkedBy 27 = .ok (.iload_n 1, 1) := by decide +kernel
theorem dX11_linkedBy_28 : decode cX11_linkedBy 28 = .ok (.invokestatic 87, 3) := by decide +kernel
theorem dX11_linkedBy_31 : decode cX11_linkedBy 31 = .ok (.invokestatic 91, 3) := by decide +kernel
theorem dX11_linkedBy_34 : decode cX11_linkedBy 34 = .ok (.ifCond .eq 10, 3) := by decide +kernel
theorem dX11_linkedBy_37 : decode cX11_linkedBy 37 = .ok (.iconst 1, 1) := by decide +kernel
theorem dX11_linkedBy_38 : decode cX11_linkedBy 38 = .ok (.iload 5, 2) := by decide +kernel
theorem dX11_linkedBy_40 : decode cX11_linkedBy 40 = .ok (.ishl, 1) := by decide +kernel
theorem dX11_linkedBy_41 : decode cX11_linkedBy 41 = .ok (.goto 4, 3) := by decide +kernel
theorem dX11_linkedBy_44 : decode cX11_linkedBy 44 = .ok (.iconst 0, 1) := by decide +kernel
theorem dX11_linkedBy_45 : decode cX11_linkedBy 45 = .ok (.ior, 1) := by decide +kernel
theorem dX11_linkedBy_46 : decode cX11_linkedBy 46 = .ok (.istore 4, 2) := by decide +kernel
theorem dX11_linkedBy_48 : decode cX11_linkedBy 48 = .ok (.iinc 5 1, 3) := by decide +kernel
theorem dX11_linkedBy_51 : decode cX11_linkedBy 51 = .ok (.goto (-45), 3) := by decide +kernel
theorem dX11_linkedBy_54 : decode cX11_linkedBy 54 = .ok (.iload 4, 2) := by decide +kernel
theorem dX11_linkedBy_56 : decode cX11_linkedBy 56 = .ok (.ireturn, 1) := by decide +kernel
theorem dX11_areJoined_0 : decode cX11_areJoined 0 = .ok (.aload_n 0, 1) := by decide +kernel
theorem dX11_areJoined_1 : decode cX11_areJoined 1 = .ok (.getfield 7, 3) := by decide +kernel
theorem dX11_areJoined_4 : decode cX11_areJoined 4 = .ok (.iconst 0, 1) := by decide +kernel
theorem dX11_areJoined_5 : decode cX11_areJoined 5 = .ok (.iaload, 1) := by decide +kernel
theorem dX11_areJoined_6 : decode cX11_areJoined 6 = .ok (.istore_n 2, 1) := by decide +kernel
theorem dX11_areJoined_7 : decode cX11_areJoined 7 = .ok (.iconst 1, 1) := by decide +kernel
theorem dX11_areJoined_8 : decode cX11_areJoined 8 = .ok (.istore_n 3, 1) := by decide +kernel
theorem dX11_areJoined_9 : decode cX11_areJoined 9 = .ok (.iconst 1, 1) := by decide +kernel
theorem dX11_areJoined_10 : decode cX11_areJoined 10 = .ok (.istore 4, 2) := by decide +kernel
theorem dX11_areJoined_12 : decode cX11_areJoined 12 = .ok (.iload 4, 2) := by decide +kernel
theorem dX11_areJoined_14 : decode cX11_areJoined 14 = .ok (.ifCond .eq 73, 3) := by decide +kernel
theorem dX11_areJoined_17 : decode cX11_areJoined 17 = .ok (.iconst 0, 1) := by decide +kernel
theorem dX11_areJoined_18 : decode cX11_areJoined 18 = .ok (.istore 4, 2) := by decide +kernel
theorem dX11_areJoined_20 : decode cX11_areJoined 20 = .ok (.iconst 0, 1) := by decide +kernel
theorem dX11_areJoined_21 : decode cX11_areJoined 21 = .ok (.istore 5, 2) := by decide +kernel
theorem dX11_areJoined_23 : decode cX11_areJoined 23 = .ok (.iload 5, 2) := by decide +kernel
theorem dX11_areJoined_25 : decode cX11_areJoined 25 = .ok (.iload_n 2, 1) := by decide +kernel
theorem dX11_areJoined_26 : decode cX11_areJoined 26 = .ok (.if_icmp .ge 58, 3) := by decide +kernel
theorem dX11_areJoined_29 : decode cX11_areJoined 29 = .ok (.iload_n 3, 1) := by decide +kernel
theorem dX11_areJoined_30 : decode cX11_areJoined 30 = .ok (.iload 5, 2) := by decide +kernel
theorem dX11_areJoined_32 : decode cX11_areJoined 32 = .ok (.invokestatic 91, 3) := by decide +kernel
theorem dX11_areJoined_35 : decode cX11_areJoined 35 = .ok (.ifCond .eq 14, 3) := by decide +kernel
theorem dX11_areJoined_38 : decode cX11_areJoined 38 = .ok (.iload_n 1, 1) := by decide +kernel
theorem dX11_areJoined_39 : decode cX11_areJoined 39 = .ok (.iload 5, 2) := by decide +kernel
theorem dX11_areJoined_41 : decode cX11_areJoined 41 = .ok (.iload_n 2, 1) := by decide +kernel
theorem dX11_areJoined_42 : decode cX11_areJoined 42 = .ok (.iconst 0, 1) := by decide +kernel
theorem dX11_areJoined_43 : decode cX11_areJoined 43 = .ok (.invokestatic 95, 3) := by decide +kernel
theorem dX11_areJoined_46 : decode cX11_areJoined 46 = .ok (.goto 4, 3) := by decide +kernel
theorem dX11_areJoined_49 : decode cX11_areJoined 49 = .ok (.iconst 0, 1) := by decide +kernel
theorem dX11_areJoined_50 : decode cX11_areJoined 50 = .ok (.istore 6, 2) := by decide +kernel
theorem dX11_areJoined_52 : decode cX11_areJoined 52 = .ok (.iload 4, 2) := by decide +kernel
theorem dX11_areJoined_54 : decode cX11_areJoined 54 = .ok (.ifCond .ne 12, 3) := by decide +kernel
theorem dX11_areJoined_57 : decode cX11_areJoined 57 = .ok (.iload 6, 2) := by decide +kernel
theorem dX11_areJoined_59 : decode cX11_areJoined 59 = .ok (.iload_n 3, 1) := by decide +kernel
theorem dX11_areJoined_60 : decode cX11_areJoined 60 = .ok (.iconst (-1), 1) := by decide +kernel
theorem dX11_areJoined_61 : decode cX11_areJoined 61 = .ok (.ixor, 1) := by decide +kernel
theorem dX11_areJoined_62 : decode cX11_areJoined 62 = .ok (.iand, 1) := by decide +kernel
theorem dX11_areJoined_63 : decode cX11_areJoined 63 = .ok (.ifCond .eq 7, 3) := by decide +kernel
theorem dX11_areJoined_66 : decode cX11_areJoined 66 = .ok (.iconst 1, 1) := by decide +kernel
theorem dX11_areJoined_67 : decode cX11_areJoined 67 = .ok (.goto 4, 3) := by decide +kernel
theorem dX11_areJoined_70 : decode cX11_areJoined 70 = .ok (.iconst 0, 1) := by decide +kernel
theorem dX11_areJoined_71 : decode cX11_areJoined 71 = .ok (.istore 4, 2) := by decide +kernel
theorem dX11_areJoined_73 : decode cX11_areJoined 73 = .ok (.iload_n 3, 1) := by decide +kernel
theorem dX11_areJoined_74 : decode cX11_areJoined 74 = .ok (.iload 6, 2) := by decide +kernel
theorem dX11_areJoined_76 : decode cX11_areJoined 76 = .ok (.ior, 1) := by decide +kernel
theorem dX11_areJoined_77 : decode cX11_areJoined 77 = .ok (.istore_n 3, 1) := by decide +kernel
theorem dX11_areJoined_78 : decode cX11_areJoined 78 = .ok (.iinc 5 1, 3) := by decide +kernel
theorem dX11_areJoined_81 : decode cX11_areJoined 81 = .ok (.goto (-58), 3) := by decide +kernel
theorem dX11_areJoined_84 : decode cX11_areJoined 84 = .ok (.goto (-72), 3) := by decide +kernel
theorem dX11_areJoined_87 : decode cX11_areJoined 87 = .ok (.iload_n 3, 1) := by decide +kernel
theorem dX11_areJoined_88 : decode cX11_areJoined 88 = .ok (.iconst 1, 1) := by decide +kernel
theorem dX11_areJoined_89 : decode cX11_areJoined 89 = .ok (.iload_n 2, 1) := by decide +kernel
theorem dX11_areJoined_90 : decode cX11_areJoined 90 = .ok (.ishl, 1) := by decide +kernel
theorem dX11_areJoined_91 : decode cX11_areJoined 91 = .ok (.iconst 1, 1) := by decide +kernel
theorem dX11_areJoined_92 : decode cX11_areJoined 92 = .ok (.isub, 1) := by decide +kernel
theorem dX11_areJoined_93 : decode cX11_areJoined 93 = .ok (.if_icmp .ne 7, 3) := by decide +kernel
theorem dX11_areJoined_96 : decode cX11_areJoined 96 = .ok (.iconst 1, 1) := by decide +kernel
theorem dX11_areJoined_97 : decode cX11_areJoined 97 = .ok (.goto 4, 3) := by decide +kernel
theorem dX11_areJoined_100 : decode cX11_areJoined 100 = .ok (.iconst 0, 1) := by decide +kernel
theorem dX11_areJoined_101 : decode cX11_areJoined 101 = .ok (.ireturn, 1) := by decide +kernel
theorem dX11_laysPath_0 : decode cX11_laysPath 0 = .ok (.aload_n 0, 1) := by decide +kernel
theorem dX11_laysPath_1 : decode cX11_laysPath 1 = .ok (.getfield 7, 3) := by decide +kernel
theorem dX11_laysPath_4 : decode cX11_laysPath 4 = .ok (.bipush 6, 2) := by decide +kernel
theorem dX11_laysPath_6 : decode cX11_laysPath 6 = .ok (.iconst 1, 1) := by decide +kernel
theorem dX11_laysPath_7 : decode cX11_laysPath 7 = .ok (.iastore, 1) := by decide +kernel
theorem dX11_laysPath_8 : decode cX11_laysPath 8 = .ok (.aload_n 0, 1) := by decide +kernel
theorem dX11_laysPath_9 : decode cX11_laysPath 9 = .ok (.getfield 7, 3) := by decide +kernel
theorem dX11_laysPath_12 : decode cX11_laysPath 12 = .ok (.bipush 7, 2) := by decide +kernel
theorem dX11_laysPath_14 : decode cX11_laysPath 14 = .ok (.iconst 0, 1) := by decide +kernel
theorem dX11_laysPath_15 : decode cX11_laysPath 15 = .ok (.iastore, 1) := by decide +kernel
theorem dX11_laysPath_16 : decode cX11_laysPath 16 = .ok (.iconst 1, 1) := by decide +kernel
theorem dX11_laysPath_17 : decode cX11_laysPath 17 = .ok (.istore_n 1, 1) := by decide +kernel
theorem dX11_laysPath_18 : decode cX11_laysPath 18 = .ok (.iload_n 1, 1) := by decide +kernel
theorem dX11_laysPath_19 : decode cX11_laysPath 19 = .ok (.aload_n 0, 1) := by decide +kernel
theorem dX11_laysPath_20 : decode cX11_laysPath 20 = .ok (.getfield 7, 3) := by decide +kernel
theorem dX11_laysPath_23 : decode cX11_laysPath 23 = .ok (.iconst 0, 1) := by decide +kernel
theorem dX11_laysPath_24 : decode cX11_laysPath 24 = .ok (.iaload, 1) := by decide +kernel
theorem dX11_laysPath_25 : decode cX11_laysPath 25 = .ok (.if_icmp .ge 28, 3) := by decide +kernel
theorem dX11_laysPath_28 : decode cX11_laysPath 28 = .ok (.aload_n 0, 1) := by decide +kernel
theorem dX11_laysPath_29 : decode cX11_laysPath 29 = .ok (.getfield 7, 3) := by decide +kernel
theorem dX11_laysPath_32 : decode cX11_laysPath 32 = .ok (.bipush 7, 2) := by decide +kernel
theorem dX11_laysPath_34 : decode cX11_laysPath 34 = .ok (.dup2, 1) := by decide +kernel
theorem dX11_laysPath_35 : decode cX11_laysPath 35 = .ok (.iaload, 1) := by decide +kernel
theorem dX11_laysPath_36 : decode cX11_laysPath 36 = .ok (.iconst 1, 1) := by decide +kernel
theorem dX11_laysPath_37 : decode cX11_laysPath 37 = .ok (.iload_n 1, 1) := by decide +kernel
theorem dX11_laysPath_38 : decode cX11_laysPath 38 = .ok (.iconst 1, 1) := by decide +kernel
theorem dX11_laysPath_39 : decode cX11_laysPath 39 = .ok (.isub, 1) := by decide +kernel
theorem dX11_laysPath_40 : decode cX11_laysPath 40 = .ok (.iload_n 1, 1) := by decide +kernel
theorem dX11_laysPath_41 : decode cX11_laysPath 41 = .ok (.invokestatic 87, 3) := by decide +kernel
theorem dX11_laysPath_44 : decode cX11_laysPath 44 = .ok (.ishl, 1) := by decide +kernel
theorem dX11_laysPath_45 : decode cX11_laysPath 45 = .ok (.ior, 1) := by decide +kernel
theorem dX11_laysPath_46 : decode cX11_laysPath 46 = .ok (.iastore, 1) := by decide +kernel
theorem dX11_laysPath_47 : decode cX11_laysPath 47 = .ok (.iinc 1 1, 3) := by decide +kernel
theorem dX11_laysPath_50 : decode cX11_laysPath 50 = .ok (.goto (-32), 3) := by decide +kernel
theorem dX11_laysPath_53 : decode cX11_laysPath 53 = .ok (.return_, 1) := by decide +kernel
theorem dX11_linksOf_0 : decode cX11_linksOf 0 = .ok (.aload_n 0, 1) := by decide +kernel
theorem dX11_linksOf_1 : decode cX11_linksOf 1 = .ok (.getfield 7, 3) := by decide +kernel
theorem dX11_linksOf_4 : decode cX11_linksOf 4 = .ok (.bipush 7, 2) := by decide +kernel
theorem dX11_linksOf_6 : decode cX11_linksOf 6 = .ok (.iload_n 1, 1) := by decide +kernel
theorem dX11_linksOf_7 : decode cX11_linksOf 7 = .ok (.aload_n 0, 1) := by decide +kernel
theorem dX11_linksOf_8 : decode cX11_linksOf 8 = .ok (.getfield 7, 3) := by decide +kernel
theorem dX11_linksOf_11 : decode cX11_linksOf 11 = .ok (.iconst 3, 1) := by decide +kernel
theorem dX11_linksOf_12 : decode cX11_linksOf 12 = .ok (.iaload, 1) := by decide +kernel
theorem dX11_linksOf_13 : decode cX11_linksOf 13 = .ok (.idiv, 1) := by decide +kernel
theorem dX11_linksOf_14 : decode cX11_linksOf 14 = .ok (.aload_n 0, 1) := by decide +kernel
theorem dX11_linksOf_15 : decode cX11_linksOf 15 = .ok (.getfield 7, 3) := by decide +kernel
theorem dX11_linksOf_18 : decode cX11_linksOf 18 = .ok (.bipush 6, 2) := by decide +kernel
theorem dX11_linksOf_20 : decode cX11_linksOf 20 = .ok (.iaload, 1) := by decide +kernel
theorem dX11_linksOf_21 : decode cX11_linksOf 21 = .ok (.irem, 1) := by decide +kernel
theorem dX11_linksOf_22 : decode cX11_linksOf 22 = .ok (.iadd, 1) := by decide +kernel
theorem dX11_linksOf_23 : decode cX11_linksOf 23 = .ok (.iaload, 1) := by decide +kernel
theorem dX11_linksOf_24 : decode cX11_linksOf 24 = .ok (.ireturn, 1) := by decide +kernel
theorem dX11_present_0 : decode cX11_present 0 = .ok (.aload_n 0, 1) := by decide +kernel
theorem dX11_present_1 : decode cX11_present 1 = .ok (.aload_n 0, 1) := by decide +kernel
theorem dX11_present_2 : decode cX11_present 2 = .ok (.getfield 7, 3) := by decide +kernel
theorem dX11_present_5 : decode cX11_present 5 = .ok (.iconst 4, 1) := by decide +kernel
theorem dX11_present_6 : decode cX11_present 6 = .ok (.iaload, 1) := by decide +kernel
theorem dX11_present_7 : decode cX11_present 7 = .ok (.invokevirtual 99, 3) := by decide +kernel
theorem dX11_present_10 : decode cX11_present 10 = .ok (.ireturn, 1) := by decide +kernel
theorem dX11_forgets_0 : decode cX11_forgets 0 = .ok (.bipush 15, 2) := by decide +kernel
theorem dX11_forgets_2 : decode cX11_forgets 2 = .ok (.istore_n 1, 1) := by decide +kernel
theorem dX11_forgets_3 : decode cX11_forgets 3 = .ok (.iload_n 1, 1) := by decide +kernel
theorem dX11_forgets_4 : decode cX11_forgets 4 = .ok (.bipush 69, 2) := by decide +kernel
theorem dX11_forgets_6 : decode cX11_forgets 6 = .ok (.if_icmp .ge 16, 3) := by decide +kernel
theorem dX11_forgets_9 : decode cX11_forgets 9 = .ok (.aload_n 0, 1) := by decide +kernel
theorem dX11_forgets_10 : decode cX11_forgets 10 = .ok (.getfield 7, 3) := by decide +kernel
theorem dX11_forgets_13 : decode cX11_forgets 13 = .ok (.iload_n 1, 1) := by decide +kernel
theorem dX11_forgets_14 : decode cX11_forgets 14 = .ok (.iconst 0, 1) := by decide +kernel
theorem dX11_forgets_15 : decode cX11_forgets 15 = .ok (.iastore, 1) := by decide +kernel
theorem dX11_forgets_16 : decode cX11_forgets 16 = .ok (.iinc 1 1, 3) := by decide +kernel
theorem dX11_forgets_19 : decode cX11_forgets 19 = .ok (.goto (-16), 3) := by decide +kernel
theorem dX11_forgets_22 : decode cX11_forgets 22 = .ok (.iconst 0, 1) := by decide +kernel
theorem dX11_forgets_23 : decode cX11_forgets 23 = .ok (.istore_n 1, 1) := by decide +kernel
theorem dX11_forgets_24 : decode cX11_forgets 24 = .ok (.iload_n 1, 1) := by decide +kernel
theorem dX11_forgets_25 : decode cX11_forgets 25 = .ok (.bipush 6, 2) := by decide +kernel
theorem dX11_forgets_27 : decode cX11_forgets 27 = .ok (.if_icmp .ge 22, 3) := by decide +kernel
theorem dX11_forgets_30 : decode cX11_forgets 30 = .ok (.aload_n 0, 1) := by decide +kernel
theorem dX11_forgets_31 : decode cX11_forgets 31 = .ok (.getfield 7, 3) := by decide +kernel
theorem dX11_forgets_34 : decode cX11_forgets 34 = .ok (.bipush 21, 2) := by decide +kernel
theorem dX11_forgets_36 : decode cX11_forgets 36 = .ok (.bipush 8, 2) := by decide +kernel
theorem dX11_forgets_38 : decode cX11_forgets 38 = .ok (.iload_n 1, 1) := by decide +kernel
theorem dX11_forgets_39 : decode cX11_forgets 39 = .ok (.imul, 1) := by decide +kernel
theorem dX11_forgets_40 : decode cX11_forgets 40 = .ok (.iadd, 1) := by decide +kernel
theorem dX11_forgets_41 : decode cX11_forgets 41 = .ok (.iconst 1, 1) := by decide +kernel
theorem dX11_forgets_42 : decode cX11_forgets 42 = .ok (.iastore, 1) := by decide +kernel
theorem dX11_forgets_43 : decode cX11_forgets 43 = .ok (.iinc 1 1, 3) := by decide +kernel
theorem dX11_forgets_46 : decode cX11_forgets 46 = .ok (.goto (-22), 3) := by decide +kernel
theorem dX11_forgets_49 : decode cX11_forgets 49 = .ok (.aload_n 0, 1) := by decide +kernel
theorem dX11_forgets_50 : decode cX11_forgets 50 = .ok (.getfield 7, 3) := by decide +kernel
theorem dX11_forgets_53 : decode cX11_forgets 53 = .ok (.iconst 4, 1) := by decide +kernel
theorem dX11_forgets_54 : decode cX11_forgets 54 = .ok (.iconst 0, 1) := by decide +kernel
theorem dX11_forgets_55 : decode cX11_forgets 55 = .ok (.iastore, 1) := by decide +kernel
theorem dX11_forgets_56 : decode cX11_forgets 56 = .ok (.return_, 1) := by decide +kernel
theorem dX11_isKnown_0 : decode cX11_isKnown 0 = .ok (.aload_n 0, 1) := by decide +kernel
theorem dX11_isKnown_1 : decode cX11_isKnown 1 = .ok (.getfield 7, 3) := by decide +kernel
theorem dX11_isKnown_4 : decode cX11_isKnown 4 = .ok (.bipush 21, 2) := by decide +kernel
theorem dX11_isKnown_6 : decode cX11_isKnown 6 = .ok (.bipush 8, 2) := by decide +kernel
theorem dX11_isKnown_8 : decode cX11_isKnown 8 = .ok (.iload_n 1, 1) := by decide +kernel
theorem dX11_isKnown_9 : decode cX11_isKnown 9 = .ok (.imul, 1) := by decide +kernel
theorem dX11_isKnown_10 : decode cX11_isKnown 10 = .ok (.iadd, 1) := by decide +kernel
theorem dX11_isKnown_11 : decode cX11_isKnown 11 = .ok (.iload_n 2, 1) := by decide +kernel
theorem dX11_isKnown_12 : decode cX11_isKnown 12 = .ok (.bipush 32, 2) := by decide +kernel
theorem dX11_isKnown_14 : decode cX11_isKnown 14 = .ok (.idiv, 1) := by decide +kernel
theorem dX11_isKnown_15 : decode cX11_isKnown 15 = .ok (.iadd, 1) := by decide +kernel
theorem dX11_isKnown_16 : decode cX11_isKnown 16 = .ok (.iaload, 1) := by decide +kernel
theorem dX11_isKnown_17 : decode cX11_isKnown 17 = .ok (.iload_n 2, 1) := by decide +kernel
theorem dX11_isKnown_18 : decode cX11_isKnown 18 = .ok (.bipush 32, 2) := by decide +kernel
theorem dX11_isKnown_20 : decode cX11_isKnown 20 = .ok (.irem, 1) := by decide +kernel
theorem dX11_isKnown_21 : decode cX11_isKnown 21 = .ok (.invokestatic 91, 3) := by decide +kernel
theorem dX11_isKnown_24 : decode cX11_isKnown 24 = .ok (.ireturn, 1) := by decide +kernel
theorem dX11_rank_0 : decode cX11_rank 0 = .ok (.iconst 0, 1) := by decide +kernel
theorem dX11_rank_1 : decode cX11_rank 1 = .ok (.istore_n 2, 1) := by decide +kernel
theorem dX11_rank_2 : decode cX11_rank 2 = .ok (.iconst 0, 1) := by decide +kernel
theorem dX11_rank_3 : decode cX11_rank 3 = .ok (.istore_n 3, 1) := by decide +kernel
theorem dX11_rank_4 : decode cX11_rank 4 = .ok (.iload_n 3, 1) := by decide +kernel
theorem dX11_rank_5 : decode cX11_rank 5 = .ok (.bipush 8, 2) := by decide +kernel
theorem dX11_rank_7 : decode cX11_rank 7 = .ok (.if_icmp .ge 29, 3) := by decide +kernel
theorem dX11_rank_10 : decode cX11_rank 10 = .ok (.iload_n 2, 1) := by decide +kernel
theorem dX11_rank_11 : decode cX11_rank 11 = .ok (.aload_n 0, 1) := by decide +kernel
theorem dX11_rank_12 : decode cX11_rank 12 = .ok (.getfield 7, 3) := by decide +kernel
theorem dX11_rank_15 : decode cX11_rank 15 = .ok (.bipush 21, 2) := by decide +kernel
theorem dX11_rank_17 : decode cX11_rank 17 = .ok (.bipush 8, 2) := by decide +kernel
theorem dX11_rank_19 : decode cX11_rank 19 = .ok (.iload_n 1, 1) := by decide +kernel
theorem dX11_rank_20 : decode cX11_rank 20 = .ok (.imul, 1) := by decide +kernel
theorem dX11_rank_21 : decode cX11_rank 21 = .ok (.iadd, 1) := by decide +kernel
theorem dX11_rank_22 : decode cX11_rank 22 = .ok (.iload_n 3, 1) := by decide +kernel
theorem dX11_rank_23 : decode cX11_rank 23 = .ok (.iadd, 1) := by decide +kernel
theorem dX11_rank_24 : decode cX11_rank 24 = .ok (.iaload, 1) := by decide +kernel
theorem dX11_rank_25 : decode cX11_rank 25 = .ok (.invokestatic 103, 3) := by decide +kernel
theorem dX11_rank_28 : decode cX11_rank 28 = .ok (.iadd, 1) := by decide +kernel
theorem dX11_rank_29 : decode cX11_rank 29 = .ok (.istore_n 2, 1) := by decide +kernel
theorem dX11_rank_30 : decode cX11_rank 30 = .ok (.iinc 3 1, 3) := by decide +kernel
theorem dX11_rank_33 : decode cX11_rank 33 = .ok (.goto (-29), 3) := by decide +kernel
theorem dX11_rank_36 : decode cX11_rank 36 = .ok (.iconst 0, 1) := by decide +kernel
theorem dX11_rank_37 : decode cX11_rank 37 = .ok (.istore_n 3, 1) := by decide +kernel
theorem dX11_rank_38 : decode cX11_rank 38 = .ok (.iconst 1, 1) := by decide +kernel
theorem dX11_rank_39 : decode cX11_rank 39 = .ok (.iload_n 3, 1) := by decide +kernel
theorem dX11_rank_40 : decode cX11_rank 40 = .ok (.ishl, 1) := by decide +kernel
theorem dX11_rank_41 : decode cX11_rank 41 = .ok (.iload_n 2, 1) := by decide +kernel
theorem dX11_rank_42 : decode cX11_rank 42 = .ok (.if_icmp .ge 9, 3) := by decide +kernel
theorem dX11_rank_45 : decode cX11_rank 45 = .ok (.iinc 3 1, 3) := by decide +kernel
theorem dX11_rank_48 : decode cX11_rank 48 = .ok (.goto (-10), 3) := by decide +kernel
theorem dX11_rank_51 : decode cX11_rank 51 = .ok (.iload_n 3, 1) := by decide +kernel
theorem dX11_rank_52 : decode cX11_rank 52 = .ok (.ireturn, 1) := by decide +kernel
theorem dX11_learns_0 : decode cX11_learns 0 = .ok (.iconst 0, 1) := by decide +kernel
theorem dX11_learns_1 : decode cX11_learns 1 = .ok (.istore_n 3, 1) := by decide +kernel
theorem dX11_learns_2 : decode cX11_learns 2 = .ok (.iload_n 3, 1) := by decide +kernel
theorem dX11_learns_3 : decode cX11_learns 3 = .ok (.sipush 256, 3) := by decide +kernel
theorem dX11_learns_6 : decode cX11_learns 6 = .ok (.if_icmp .ge 21, 3) := by decide +kernel
theorem dX11_learns_9 : decode cX11_learns 9 = .ok (.aload_n 0, 1) := by decide +kernel
theorem dX11_learns_10 : decode cX11_learns 10 = .ok (.getfield 22, 3) := by decide +kernel
theorem dX11_learns_13 : decode cX11_learns 13 = .ok (.iload_n 3, 1) := by decide +kernel
theorem dX11_learns_14 : decode cX11_learns 14 = .ok (.aload_n 0, 1) := by decide +kernel
theorem dX11_learns_15 : decode cX11_learns 15 = .ok (.iload_n 1, 1) := by decide +kernel
theorem dX11_learns_16 : decode cX11_learns 16 = .ok (.iload_n 3, 1) := by decide +kernel
theorem dX11_learns_17 : decode cX11_learns 17 = .ok (.invokevirtual 106, 3) := by decide +kernel
theorem dX11_learns_20 : decode cX11_learns 20 = .ok (.bastore, 1) := by decide +kernel
theorem dX11_learns_21 : decode cX11_learns 21 = .ok (.iinc 3 1, 3) := by decide +kernel
theorem dX11_learns_24 : decode cX11_learns 24 = .ok (.goto (-22), 3) := by decide +kernel
theorem dX11_learns_27 : decode cX11_learns 27 = .ok (.aload_n 0, 1) := by decide +kernel
theorem dX11_learns_28 : decode cX11_learns 28 = .ok (.getfield 22, 3) := by decide +kernel
theorem dX11_learns_31 : decode cX11_learns 31 = .ok (.iload_n 2, 1) := by decide +kernel
theorem dX11_learns_32 : decode cX11_learns 32 = .ok (.baload, 1) := by decide +kernel
theorem dX11_learns_33 : decode cX11_learns 33 = .ok (.ifCond .eq 4, 3) := by decide +kernel
theorem dX11_learns_36 : decode cX11_learns 36 = .ok (.return_, 1) := by decide +kernel
theorem dX11_learns_37 : decode cX11_learns 37 = .ok (.iconst 0, 1) := by decide +kernel
theorem dX11_learns_38 : decode cX11_learns 38 = .ok (.istore_n 3, 1) := by decide +kernel
theorem dX11_learns_39 : decode cX11_learns 39 = .ok (.iload_n 3, 1) := by decide +kernel
theorem dX11_learns_40 : decode cX11_learns 40 = .ok (.sipush 256, 3) := by decide +kernel
theorem dX11_learns_43 : decode cX11_learns 43 = .ok (.if_icmp .ge 50, 3) := by decide +kernel
theorem dX11_learns_46 : decode cX11_learns 46 = .ok (.aload_n 0, 1) := by decide +kernel
theorem dX11_learns_47 : decode cX11_learns 47 = .ok (.getfield 7, 3) := by decide +kernel
theorem dX11_learns_50 : decode cX11_learns 50 = .ok (.bipush 21, 2) := by decide +kernel
theorem dX11_learns_52 : decode cX11_learns 52 = .ok (.bipush 8, 2) := by decide +kernel
theorem dX11_learns_54 : decode cX11_learns 54 = .ok (.iload_n 1, 1) := by decide +kernel
theorem dX11_learns_55 : decode cX11_learns 55 = .ok (.imul, 1) := by decide +kernel
theorem dX11_learns_56 : decode cX11_learns 56 = .ok (.iadd, 1) := by decide +kernel
theorem dX11_learns_57 : decode cX11_learns 57 = .ok (.iload_n 3, 1) := by decide +kernel
theorem dX11_learns_58 : decode cX11_learns 58 = .ok (.bipush 32, 2) := by decide +kernel
theorem dX11_learns_60 : decode cX11_learns 60 = .ok (.idiv, 1) := by decide +kernel
theorem dX11_learns_61 : decode cX11_learns 61 = .ok (.iadd, 1) := by decide +kernel
theorem dX11_learns_62 : decode cX11_learns 62 = .ok (.dup2, 1) := by decide +kernel
theorem dX11_learns_63 : decode cX11_learns 63 = .ok (.iaload, 1) := by decide +kernel
theorem dX11_learns_64 : decode cX11_learns 64 = .ok (.aload_n 0, 1) := by decide +kernel
theorem dX11_learns_65 : decode cX11_learns 65 = .ok (.getfield 22, 3) := by decide +kernel
theorem dX11_learns_68 : decode cX11_learns 68 = .ok (.iload_n 3, 1) := by decide +kernel
theorem dX11_learns_69 : decode cX11_learns 69 = .ok (.iload_n 2, 1) := by decide +kernel
theorem dX11_learns_70 : decode cX11_learns 70 = .ok (.ixor, 1) := by decide +kernel
theorem dX11_learns_71 : decode cX11_learns 71 = .ok (.baload, 1) := by decide +kernel
theorem dX11_learns_72 : decode cX11_learns 72 = .ok (.ifCond .eq 12, 3) := by decide +kernel
theorem dX11_learns_75 : decode cX11_learns 75 = .ok (.iconst 1, 1) := by decide +kernel
theorem dX11_learns_76 : decode cX11_learns 76 = .ok (.iload_n 3, 1) := by decide +kernel
theorem dX11_learns_77 : decode cX11_learns 77 = .ok (.bipush 32, 2) := by decide +kernel
theorem dX11_learns_79 : decode cX11_learns 79 = .ok (.irem, 1) := by decide +kernel
theorem dX11_learns_80 : decode cX11_learns 80 = .ok (.ishl, 1) := by decide +kernel
theorem dX11_learns_81 : decode cX11_learns 81 = .ok (.goto 4, 3) := by decide +kernel
theorem dX11_learns_84 : decode cX11_learns 84 = .ok (.iconst 0, 1) := by decide +kernel
theorem dX11_learns_85 : decode cX11_learns 85 = .ok (.ior, 1) := by decide +kernel
theorem dX11_learns_86 : decode cX11_learns 86 = .ok (.iastore, 1) := by decide +kernel
theorem dX11_learns_87 : decode cX11_learns 87 = .ok (.iinc 3 1, 3) := by decide +kernel
theorem dX11_learns_90 : decode cX11_learns 90 = .ok (.goto (-51), 3) := by decide +kernel
theorem dX11_learns_93 : decode cX11_learns 93 = .ok (.return_, 1) := by decide +kernel
theorem dX11_heads_0 : decode cX11_heads 0 = .ok (.iconst 0, 1) := by decide +kernel
theorem dX11_heads_1 : decode cX11_heads 1 = .ok (.istore_n 2, 1) := by decide +kernel
theorem dX11_heads_2 : decode cX11_heads 2 = .ok (.iconst 0, 1) := by decide +kernel
theorem dX11_heads_3 : decode cX11_heads 3 = .ok (.istore_n 3, 1) := by decide +kernel
theorem dX11_heads_4 : decode cX11_heads 4 = .ok (.iload_n 3, 1) := by decide +kernel
theorem dX11_heads_5 : decode cX11_heads 5 = .ok (.aload_n 0, 1) := by decide +kernel
theorem dX11_heads_6 : decode cX11_heads 6 = .ok (.getfield 7, 3) := by decide +kernel
theorem dX11_heads_9 : decode cX11_heads 9 = .ok (.iconst 1, 1) := by decide +kernel
theorem dX11_heads_10 : decode cX11_heads 10 = .ok (.iaload, 1) := by decide +kernel
theorem dX11_heads_11 : decode cX11_heads 11 = .ok (.if_icmp .ge 48, 3) := by decide +kernel
theorem dX11_heads_14 : decode cX11_heads 14 = .ok (.iconst 1, 1) := by decide +kernel
theorem dX11_heads_15 : decode cX11_heads 15 = .ok (.iload_n 3, 1) := by decide +kernel
theorem dX11_heads_16 : decode cX11_heads 16 = .ok (.ishl, 1) := by decide +kernel
theorem dX11_heads_17 : decode cX11_heads 17 = .ok (.istore 4, 2) := by decide +kernel
theorem dX11_heads_19 : decode cX11_heads 19 = .ok (.iload 4, 2) := by decide +kernel
theorem dX11_heads_21 : decode cX11_heads 21 = .ok (.iconst 2, 1) := by decide +kernel
theorem dX11_heads_22 : decode cX11_heads 22 = .ok (.iload_n 3, 1) := by decide +kernel
theorem dX11_heads_23 : decode cX11_heads 23 = .ok (.ishl, 1) := by decide +kernel
theorem dX11_heads_24 : decode cX11_heads 24 = .ok (.if_icmp .ge 29, 3) := by decide +kernel
theorem dX11_heads_27 : decode cX11_heads 27 = .ok (.iload_n 2, 1) := by decide +kernel
theorem dX11_heads_28 : decode cX11_heads 28 = .ok (.aload_n 0, 1) := by decide +kernel
theorem dX11_heads_29 : decode cX11_heads 29 = .ok (.iload_n 1, 1) := by decide +kernel
theorem dX11_heads_30 : decode cX11_heads 30 = .ok (.iload 4, 2) := by decide +kernel
theorem dX11_heads_32 : decode cX11_heads 32 = .ok (.invokevirtual 106, 3) := by decide +kernel
theorem dX11_heads_35 : decode cX11_heads 35 = .ok (.ifCond .eq 9, 3) := by decide +kernel
theorem dX11_heads_38 : decode cX11_heads 38 = .ok (.iconst 1, 1) := by decide +kernel
theorem dX11_heads_39 : decode cX11_heads 39 = .ok (.iload_n 3, 1) := by decide +kernel
theorem dX11_heads_40 : decode cX11_heads 40 = .ok (.ishl, 1) := by decide +kernel
theorem dX11_heads_41 : decode cX11_heads 41 = .ok (.goto 4, 3) := by decide +kernel
theorem dX11_heads_44 : decode cX11_heads 44 = .ok (.iconst 0, 1) := by decide +kernel
theorem dX11_heads_45 : decode cX11_heads 45 = .ok (.ior, 1) := by decide +kernel
theorem dX11_heads_46 : decode cX11_heads 46 = .ok (.istore_n 2, 1) := by decide +kernel
theorem dX11_heads_47 : decode cX11_heads 47 = .ok (.iinc 4 1, 3) := by decide +kernel
theorem dX11_heads_50 : decode cX11_heads 50 = .ok (.goto (-31), 3) := by decide +kernel
theorem dX11_heads_53 : decode cX11_heads 53 = .ok (.iinc 3 1, 3) := by decide +kernel
theorem dX11_heads_56 : decode cX11_heads 56 = .ok (.goto (-52), 3) := by decide +kernel
theorem dX11_heads_59 : decode cX11_heads 59 = .ok (.iload_n 2, 1) := by decide +kernel
theorem dX11_heads_60 : decode cX11_heads 60 = .ok (.ireturn, 1) := by decide +kernel
theorem dX11_sumOf_0 : decode cX11_sumOf 0 = .ok (.aload_n 0, 1) := by decide +kernel
theorem dX11_sumOf_1 : decode cX11_sumOf 1 = .ok (.iload_n 1, 1) := by decide +kernel
theorem dX11_sumOf_2 : decode cX11_sumOf 2 = .ok (.invokevirtual 109, 3) := by decide +kernel
theorem dX11_sumOf_5 : decode cX11_sumOf 5 = .ok (.istore_n 3, 1) := by decide +kernel
theorem dX11_sumOf_6 : decode cX11_sumOf 6 = .ok (.iload_n 2, 1) := by decide +kernel
theorem dX11_sumOf_7 : decode cX11_sumOf 7 = .ok (.istore 4, 2) := by decide +kernel
theorem dX11_sumOf_9 : decode cX11_sumOf 9 = .ok (.aload_n 0, 1) := by decide +kernel
theorem dX11_sumOf_10 : decode cX11_sumOf 10 = .ok (.getfield 7, 3) := by decide +kernel
theorem dX11_sumOf_13 : decode cX11_sumOf 13 = .ok (.iconst 1, 1) := by decide +kernel
theorem dX11_sumOf_14 : decode cX11_sumOf 14 = .ok (.iaload, 1) := by decide +kernel
theorem dX11_sumOf_15 : decode cX11_sumOf 15 = .ok (.iconst 1, 1) := by decide +kernel
theorem dX11_sumOf_16 : decode cX11_sumOf 16 = .ok (.isub, 1) := by decide +kernel
theorem dX11_sumOf_17 : decode cX11_sumOf 17 = .ok (.istore 5, 2) := by decide +kernel
theorem dX11_sumOf_19 : decode cX11_sumOf 19 = .ok (.iload 5, 2) := by decide +kernel
theorem dX11_sumOf_21 : decode cX11_sumOf 21 = .ok (.ifCond .lt 42, 3) := by decide +kernel
theorem dX11_sumOf_24 : decode cX11_sumOf 24 = .ok (.iload_n 3, 1) := by decide +kernel
theorem dX11_sumOf_25 : decode cX11_sumOf 25 = .ok (.iload 5, 2) := by decide +kernel
theorem dX11_sumOf_27 : decode cX11_sumOf 27 = .ok (.invokestatic 91, 3) := by decide +kernel
theorem dX11_sumOf_30 : decode cX11_sumOf 30 = .ok (.ifCond .eq 27, 3) := by decide +kernel
theorem dX11_sumOf_33 : decode cX11_sumOf 33 = .ok (.iload 4, 2) := by decide +kernel
theorem dX11_sumOf_35 : decode cX11_sumOf 35 = .ok (.ifCond .ne 19, 3) := by decide +kernel
theorem dX11_sumOf_38 : decode cX11_sumOf 38 = .ok (.aload_n 0, 1) := by decide +kernel
theorem dX11_sumOf_39 : decode cX11_sumOf 39 = .ok (.iload_n 1, 1) := by decide +kernel
theorem dX11_sumOf_40 : decode cX11_sumOf 40 = .ok (.iload 5, 2) := by decide +kernel
theorem dX11_sumOf_42 : decode cX11_sumOf 42 = .ok (.iload_n 3, 1) := by decide +kernel
theorem dX11_sumOf_43 : decode cX11_sumOf 43 = .ok (.iconst 1, 1) := by decide +kernel
theorem dX11_sumOf_44 : decode cX11_sumOf 44 = .ok (.iload 5, 2) := by decide +kernel
theorem dX11_sumOf_46 : decode cX11_sumOf 46 = .ok (.ishl, 1) := by decide +kernel
theorem dX11_sumOf_47 : decode cX11_sumOf 47 = .ok (.iconst (-1), 1) := by decide +kernel
theorem dX11_sumOf_48 : decode cX11_sumOf 48 = .ok (.ixor, 1) := by decide +kernel
theorem dX11_sumOf_49 : decode cX11_sumOf 49 = .ok (.iand, 1) := by decide +kernel
theorem dX11_sumOf_50 : decode cX11_sumOf 50 = .ok (.invokevirtual 112, 3) := by decide +kernel
theorem dX11_sumOf_53 : decode cX11_sumOf 53 = .ok (.ireturn, 1) := by decide +kernel
theorem dX11_sumOf_54 : decode cX11_sumOf 54 = .ok (.iinc 4 (-1), 3) := by decide +kernel
theorem dX11_sumOf_57 : decode cX11_sumOf 57 = .ok (.iinc 5 (-1), 3) := by decide +kernel
theorem dX11_sumOf_60 : decode cX11_sumOf 60 = .ok (.goto (-41), 3) := by decide +kernel
theorem dX11_sumOf_63 : decode cX11_sumOf 63 = .ok (.iconst 0, 1) := by decide +kernel
theorem dX11_sumOf_64 : decode cX11_sumOf 64 = .ok (.ireturn, 1) := by decide +kernel
theorem dX11_sumWith_0 : decode cX11_sumWith 0 = .ok (.iconst 1, 1) := by decide +kernel
theorem dX11_sumWith_1 : decode cX11_sumWith 1 = .ok (.iload_n 2, 1) := by decide +kernel
theorem dX11_sumWith_2 : decode cX11_sumWith 2 = .ok (.ishl, 1) := by decide +kernel
theorem dX11_sumWith_3 : decode cX11_sumWith 3 = .ok (.istore 4, 2) := by decide +kernel
theorem dX11_sumWith_5 : decode cX11_sumWith 5 = .ok (.aload_n 0, 1) := by decide +kernel
theorem dX11_sumWith_6 : decode cX11_sumWith 6 = .ok (.iload_n 1, 1) := by decide +kernel
theorem dX11_sumWith_7 : decode cX11_sumWith 7 = .ok (.iload 4, 2) := by decide +kernel
theorem dX11_sumWith_9 : decode cX11_sumWith 9 = .ok (.invokevirtual 106, 3) := by decide +kernel
theorem dX11_sumWith_12 : decode cX11_sumWith 12 = .ok (.ifCond .eq 10, 3) := by decide +kernel
theorem dX11_sumWith_15 : decode cX11_sumWith 15 = .ok (.iload 4, 2) := by decide +kernel
theorem dX11_sumWith_17 : decode cX11_sumWith 17 = .ok (.iload_n 3, 1) := by decide +kernel
theorem dX11_sumWith_18 : decode cX11_sumWith 18 = .ok (.iand, 1) := by decide +kernel
theorem dX11_sumWith_19 : decode cX11_sumWith 19 = .ok (.ifCond .eq 9, 3) := by decide +kernel
theorem dX11_sumWith_22 : decode cX11_sumWith 22 = .ok (.iinc 4 1, 3) := by decide +kernel
theorem dX11_sumWith_25 : decode cX11_sumWith 25 = .ok (.goto (-20), 3) := by decide +kernel
theorem dX11_sumWith_28 : decode cX11_sumWith 28 = .ok (.iload 4, 2) := by decide +kernel
theorem dX11_sumWith_30 : decode cX11_sumWith 30 = .ok (.ireturn, 1) := by decide +kernel
theorem dX11_isSet_0 : decode cX11_isSet 0 = .ok (.iload_n 0, 1) := by decide +kernel
theorem dX11_isSet_1 : decode cX11_isSet 1 = .ok (.i2l, 1) := by decide +kernel
theorem dX11_isSet_2 : decode cX11_isSet 2 = .ok (.lconst 0, 1) := by decide +kernel
theorem dX11_isSet_3 : decode cX11_isSet 3 = .ok (.iconst 1, 1) := by decide +kernel
theorem dX11_isSet_4 : decode cX11_isSet 4 = .ok (.iload_n 1, 1) := by decide +kernel
theorem dX11_isSet_5 : decode cX11_isSet 5 = .ok (.ishl, 1) := by decide +kernel
theorem dX11_isSet_6 : decode cX11_isSet 6 = .ok (.iconst 1, 1) := by decide +kernel
theorem dX11_isSet_7 : decode cX11_isSet 7 = .ok (.isub, 1) := by decide +kernel
theorem dX11_isSet_8 : decode cX11_isSet 8 = .ok (.i2l, 1) := by decide +kernel
theorem dX11_isSet_9 : decode cX11_isSet 9 = .ok (.invokestatic 116, 3) := by decide +kernel
theorem dX11_isSet_12 : decode cX11_isSet 12 = .ok (.ireturn, 1) := by decide +kernel
theorem dX11_isNode_0 : decode cX11_isNode 0 = .ok (.iload_n 1, 1) := by decide +kernel
theorem dX11_isNode_1 : decode cX11_isNode 1 = .ok (.i2l, 1) := by decide +kernel
theorem dX11_isNode_2 : decode cX11_isNode 2 = .ok (.lconst 0, 1) := by decide +kernel
theorem dX11_isNode_3 : decode cX11_isNode 3 = .ok (.aload_n 0, 1) := by decide +kernel
theorem dX11_isNode_4 : decode cX11_isNode 4 = .ok (.getfield 7, 3) := by decide +kernel
theorem dX11_isNode_7 : decode cX11_isNode 7 = .ok (.iconst 0, 1) := by decide +kernel
theorem dX11_isNode_8 : decode cX11_isNode 8 = .ok (.iaload, 1) := by decide +kernel
theorem dX11_isNode_9 : decode cX11_isNode 9 = .ok (.iconst 1, 1) := by decide +kernel
theorem dX11_isNode_10 : decode cX11_isNode 10 = .ok (.isub, 1) := by decide +kernel
theorem dX11_isNode_11 : decode cX11_isNode 11 = .ok (.i2l, 1) := by decide +kernel
theorem dX11_isNode_12 : decode cX11_isNode 12 = .ok (.invokestatic 116, 3) := by decide +kernel
theorem dX11_isNode_15 : decode cX11_isNode 15 = .ok (.ireturn, 1) := by decide +kernel
theorem dX11_tells_0 : decode cX11_tells 0 = .ok (.iconst 0, 1) := by decide +kernel
theorem dX11_tells_1 : decode cX11_tells 1 = .ok (.istore_n 2, 1) := by decide +kernel
theorem dX11_tells_2 : decode cX11_tells 2 = .ok (.iconst 0, 1) := by decide +kernel
theorem dX11_tells_3 : decode cX11_tells 3 = .ok (.istore_n 3, 1) := by decide +kernel
theorem dX11_tells_4 : decode cX11_tells 4 = .ok (.iload_n 3, 1) := by decide +kernel
theorem dX11_tells_5 : decode cX11_tells 5 = .ok (.aload_n 0, 1) := by decide +kernel
theorem dX11_tells_6 : decode cX11_tells 6 = .ok (.getfield 7, 3) := by decide +kernel
theorem dX11_tells_9 : decode cX11_tells 9 = .ok (.iconst 1, 1) := by decide +kernel
theorem dX11_tells_10 : decode cX11_tells 10 = .ok (.iaload, 1) := by decide +kernel
theorem dX11_tells_11 : decode cX11_tells 11 = .ok (.if_icmp .ge 30, 3) := by decide +kernel
theorem dX11_tells_14 : decode cX11_tells 14 = .ok (.iload_n 2, 1) := by decide +kernel
theorem dX11_tells_15 : decode cX11_tells 15 = .ok (.aload_n 0, 1) := by decide +kernel
theorem dX11_tells_16 : decode cX11_tells 16 = .ok (.iload_n 1, 1) := by decide +kernel
theorem dX11_tells_17 : decode cX11_tells 17 = .ok (.iconst 1, 1) := by decide +kernel
theorem dX11_tells_18 : decode cX11_tells 18 = .ok (.iload_n 3, 1) := by decide +kernel
theorem dX11_tells_19 : decode cX11_tells 19 = .ok (.ishl, 1) := by decide +kernel
theorem dX11_tells_20 : decode cX11_tells 20 = .ok (.invokevirtual 106, 3) := by decide +kernel
theorem dX11_tells_23 : decode cX11_tells 23 = .ok (.ifCond .eq 9, 3) := by decide +kernel
theorem dX11_tells_26 : decode cX11_tells 26 = .ok (.iconst 1, 1) := by decide +kernel
theorem dX11_tells_27 : decode cX11_tells 27 = .ok (.iload_n 3, 1) := by decide +kernel
theorem dX11_tells_28 : decode cX11_tells 28 = .ok (.ishl, 1) := by decide +kernel
theorem dX11_tells_29 : decode cX11_tells 29 = .ok (.goto 4, 3) := by decide +kernel
theorem dX11_tells_32 : decode cX11_tells 32 = .ok (.iconst 0, 1) := by decide +kernel
theorem dX11_tells_33 : decode cX11_tells 33 = .ok (.ior, 1) := by decide +kernel
theorem dX11_tells_34 : decode cX11_tells 34 = .ok (.istore_n 2, 1) := by decide +kernel
theorem dX11_tells_35 : decode cX11_tells 35 = .ok (.iinc 3 1, 3) := by decide +kernel
theorem dX11_tells_38 : decode cX11_tells 38 = .ok (.goto (-34), 3) := by decide +kernel
theorem dX11_tells_41 : decode cX11_tells 41 = .ok (.iload_n 2, 1) := by decide +kernel
theorem dX11_tells_42 : decode cX11_tells 42 = .ok (.ireturn, 1) := by decide +kernel
theorem dX11_ranks_0 : decode cX11_ranks 0 = .ok (.iconst 0, 1) := by decide +kernel
theorem dX11_ranks_1 : decode cX11_ranks 1 = .ok (.istore_n 1, 1) := by decide +kernel
theorem dX11_ranks_2 : decode cX11_ranks 2 = .ok (.iconst 0, 1) := by decide +kernel
theorem dX11_ranks_3 : decode cX11_ranks 3 = .ok (.istore_n 2, 1) := by decide +kernel
theorem dX11_ranks_4 : decode cX11_ranks 4 = .ok (.iload_n 2, 1) := by decide +kernel
theorem dX11_ranks_5 : decode cX11_ranks 5 = .ok (.aload_n 0, 1) := by decide +kernel
theorem dX11_ranks_6 : decode cX11_ranks 6 = .ok (.getfield 7, 3) := by decide +kernel
theorem dX11_ranks_9 : decode cX11_ranks 9 = .ok (.iconst 0, 1) := by decide +kernel
theorem dX11_ranks_10 : decode cX11_ranks 10 = .ok (.iaload, 1) := by decide +kernel
theorem dX11_ranks_11 : decode cX11_ranks 11 = .ok (.if_icmp .ge 17, 3) := by decide +kernel
theorem dX11_ranks_14 : decode cX11_ranks 14 = .ok (.iload_n 1, 1) := by decide +kernel
theorem dX11_ranks_15 : decode cX11_ranks 15 = .ok (.aload_n 0, 1) := by decide +kernel
theorem dX11_ranks_16 : decode cX11_ranks 16 = .ok (.iload_n 2, 1) := by decide +kernel
theorem dX11_ranks_17 : decode cX11_ranks 17 = .ok (.invokevirtual 120, 3) := by decide +kernel
theorem dX11_ranks_20 : decode cX11_ranks 20 = .ok (.iadd, 1) := by decide +kernel
theorem dX11_ranks_21 : decode cX11_ranks 21 = .ok (.istore_n 1, 1) := by decide +kernel
theorem dX11_ranks_22 : decode cX11_ranks 22 = .ok (.iinc 2 1, 3) := by decide +kernel
theorem dX11_ranks_25 : decode cX11_ranks 25 = .ok (.goto (-21), 3) := by decide +kernel
theorem dX11_ranks_28 : decode cX11_ranks 28 = .ok (.iload_n 1, 1) := by decide +kernel
theorem dX11_ranks_29 : decode cX11_ranks 29 = .ok (.ireturn, 1) := by decide +kernel
theorem dX11_whole_0 : decode cX11_whole 0 = .ok (.iconst 0, 1) := by decide +kernel
theorem dX11_whole_1 : decode cX11_whole 1 = .ok (.istore_n 1, 1) := by decide +kernel
theorem dX11_whole_2 : decode cX11_whole 2 = .ok (.iconst 0, 1) := by decide +kernel
theorem dX11_whole_3 : decode cX11_whole 3 = .ok (.istore_n 2, 1) := by decide +kernel
theorem dX11_whole_4 : decode cX11_whole 4 = .ok (.iload_n 2, 1) := by decide +kernel
theorem dX11_whole_5 : decode cX11_whole 5 = .ok (.aload_n 0, 1) := by decide +kernel
theorem dX11_whole_6 : decode cX11_whole 6 = .ok (.getfield 7, 3) := by decide +kernel
theorem dX11_whole_9 : decode cX11_whole 9 = .ok (.iconst 0, 1) := by decide +kernel
theorem dX11_whole_10 : decode cX11_whole 10 = .ok (.iaload, 1) := by decide +kernel
theorem dX11_whole_11 : decode cX11_whole 11 = .ok (.if_icmp .ge 31, 3) := by decide +kernel
theorem dX11_whole_14 : decode cX11_whole 14 = .ok (.iload_n 1, 1) := by decide +kernel
theorem dX11_whole_15 : decode cX11_whole 15 = .ok (.aload_n 0, 1) := by decide +kernel
theorem dX11_whole_16 : decode cX11_whole 16 = .ok (.iload_n 2, 1) := by decide +kernel
theorem dX11_whole_17 : decode cX11_whole 17 = .ok (.invokevirtual 120, 3) := by decide +kernel
theorem dX11_whole_20 : decode cX11_whole 20 = .ok (.aload_n 0, 1) := by decide +kernel
theorem dX11_whole_21 : decode cX11_whole 21 = .ok (.getfield 7, 3) := by decide +kernel
theorem dX11_whole_24 : decode cX11_whole 24 = .ok (.iconst 1, 1) := by decide +kernel
theorem dX11_whole_25 : decode cX11_whole 25 = .ok (.iaload, 1) := by decide +kernel
theorem dX11_whole_26 : decode cX11_whole 26 = .ok (.if_icmp .ne 7, 3) := by decide +kernel
theorem dX11_whole_29 : decode cX11_whole 29 = .ok (.iconst 1, 1) := by decide +kernel
theorem dX11_whole_30 : decode cX11_whole 30 = .ok (.goto 4, 3) := by decide +kernel
theorem dX11_whole_33 : decode cX11_whole 33 = .ok (.iconst 0, 1) := by decide +kernel
theorem dX11_whole_34 : decode cX11_whole 34 = .ok (.iadd, 1) := by decide +kernel
theorem dX11_whole_35 : decode cX11_whole 35 = .ok (.istore_n 1, 1) := by decide +kernel
theorem dX11_whole_36 : decode cX11_whole 36 = .ok (.iinc 2 1, 3) := by decide +kernel
theorem dX11_whole_39 : decode cX11_whole 39 = .ok (.goto (-35), 3) := by decide +kernel
theorem dX11_whole_42 : decode cX11_whole 42 = .ok (.iload_n 1, 1) := by decide +kernel
theorem dX11_whole_43 : decode cX11_whole 43 = .ok (.ireturn, 1) := by decide +kernel
theorem dX11_goesOn_0 : decode cX11_goesOn 0 = .ok (.iload_n 0, 1) := by decide +kernel
theorem dX11_goesOn_1 : decode cX11_goesOn 1 = .ok (.i2l, 1) := by decide +kernel
theorem dX11_goesOn_2 : decode cX11_goesOn 2 = .ok (.ldc2_w 123, 3) := by decide +kernel
theorem dX11_goesOn_5 : decode cX11_goesOn 5 = .ok (.lmul, 1) := by decide +kernel
theorem dX11_goesOn_6 : decode cX11_goesOn 6 = .ok (.ldc2_w 125, 3) := by decide +kernel
theorem dX11_goesOn_9 : decode cX11_goesOn 9 = .ok (.ladd, 1) := by decide +kernel
theorem dX11_goesOn_10 : decode cX11_goesOn 10 = .ok (.ldc2_w 127, 3) := by decide +kernel
theorem dX11_goesOn_13 : decode cX11_goesOn 13 = .ok (.land, 1) := by decide +kernel
theorem dX11_goesOn_14 : decode cX11_goesOn 14 = .ok (.l2i, 1) := by decide +kernel
theorem dX11_goesOn_15 : decode cX11_goesOn 15 = .ok (.ireturn, 1) := by decide +kernel
theorem dX11_leastOf_0 : decode cX11_leastOf 0 = .ok (.aload_n 0, 1) := by decide +kernel
theorem dX11_leastOf_1 : decode cX11_leastOf 1 = .ok (.iload_n 1, 1) := by decide +kernel
theorem dX11_leastOf_2 : decode cX11_leastOf 2 = .ok (.invokevirtual 129, 3) := by decide +kernel
theorem dX11_leastOf_5 : decode cX11_leastOf 5 = .ok (.aload_n 0, 1) := by decide +kernel
theorem dX11_leastOf_6 : decode cX11_leastOf 6 = .ok (.getfield 7, 3) := by decide +kernel
theorem dX11_leastOf_9 : decode cX11_leastOf 9 = .ok (.bipush 15, 2) := by decide +kernel
theorem dX11_leastOf_11 : decode cX11_leastOf 11 = .ok (.iload_n 1, 1) := by decide +kernel
theorem dX11_leastOf_12 : decode cX11_leastOf 12 = .ok (.iadd, 1) := by decide +kernel
theorem dX11_leastOf_13 : decode cX11_leastOf 13 = .ok (.iaload, 1) := by decide +kernel
theorem dX11_leastOf_14 : decode cX11_leastOf 14 = .ok (.iconst (-1), 1) := by decide +kernel
theorem dX11_leastOf_15 : decode cX11_leastOf 15 = .ok (.ixor, 1) := by decide +kernel
theorem dX11_leastOf_16 : decode cX11_leastOf 16 = .ok (.iand, 1) := by decide +kernel
theorem dX11_leastOf_17 : decode cX11_leastOf 17 = .ok (.istore_n 2, 1) := by decide +kernel
theorem dX11_leastOf_18 : decode cX11_leastOf 18 = .ok (.iconst 0, 1) := by decide +kernel
theorem dX11_leastOf_19 : decode cX11_leastOf 19 = .ok (.istore_n 3, 1) := by decide +kernel
theorem dX11_leastOf_20 : decode cX11_leastOf 20 = .ok (.iload_n 3, 1) := by decide +kernel
theorem dX11_leastOf_21 : decode cX11_leastOf 21 = .ok (.aload_n 0, 1) := by decide +kernel
theorem dX11_leastOf_22 : decode cX11_leastOf 22 = .ok (.getfield 7, 3) := by decide +kernel
theorem dX11_leastOf_25 : decode cX11_leastOf 25 = .ok (.iconst 1, 1) := by decide +kernel
theorem dX11_leastOf_26 : decode cX11_leastOf 26 = .ok (.iaload, 1) := by decide +kernel
theorem dX11_leastOf_27 : decode cX11_leastOf 27 = .ok (.if_icmp .ge 19, 3) := by decide +kernel
theorem dX11_leastOf_30 : decode cX11_leastOf 30 = .ok (.iload_n 2, 1) := by decide +kernel
theorem dX11_leastOf_31 : decode cX11_leastOf 31 = .ok (.iload_n 3, 1) := by decide +kernel
theorem dX11_leastOf_32 : decode cX11_leastOf 32 = .ok (.invokestatic 91, 3) := by decide +kernel
theorem dX11_leastOf_35 : decode cX11_leastOf 35 = .ok (.ifCond .eq 5, 3) := by decide +kernel
theorem dX11_leastOf_38 : decode cX11_leastOf 38 = .ok (.iload_n 3, 1) := by decide +kernel
theorem dX11_leastOf_39 : decode cX11_leastOf 39 = .ok (.ireturn, 1) := by decide +kernel
theorem dX11_leastOf_40 : decode cX11_leastOf 40 = .ok (.iinc 3 1, 3) := by decide +kernel
theorem dX11_leastOf_43 : decode cX11_leastOf 43 = .ok (.goto (-23), 3) := by decide +kernel
theorem dX11_leastOf_46 : decode cX11_leastOf 46 = .ok (.bipush (-4), 2) := by decide +kernel
theorem dX11_leastOf_48 : decode cX11_leastOf 48 = .ok (.ireturn, 1) := by decide +kernel
theorem dX11_turnOf_0 : decode cX11_turnOf 0 = .ok (.aload_n 0, 1) := by decide +kernel
theorem dX11_turnOf_1 : decode cX11_turnOf 1 = .ok (.getfield 7, 3) := by decide +kernel
theorem dX11_turnOf_4 : decode cX11_turnOf 4 = .ok (.iconst 4, 1) := by decide +kernel
theorem dX11_turnOf_5 : decode cX11_turnOf 5 = .ok (.iaload, 1) := by decide +kernel
theorem dX11_turnOf_6 : decode cX11_turnOf 6 = .ok (.aload_n 0, 1) := by decide +kernel
theorem dX11_turnOf_7 : decode cX11_turnOf 7 = .ok (.getfield 7, 3) := by decide +kernel
theorem dX11_turnOf_10 : decode cX11_turnOf 10 = .ok (.iconst 1, 1) := by decide +kernel
theorem dX11_turnOf_11 : decode cX11_turnOf 11 = .ok (.iaload, 1) := by decide +kernel
theorem dX11_turnOf_12 : decode cX11_turnOf 12 = .ok (.irem, 1) := by decide +kernel
theorem dX11_turnOf_13 : decode cX11_turnOf 13 = .ok (.istore_n 2, 1) := by decide +kernel
theorem dX11_turnOf_14 : decode cX11_turnOf 14 = .ok (.aload_n 0, 1) := by decide +kernel
theorem dX11_turnOf_15 : decode cX11_turnOf 15 = .ok (.iload_n 1, 1) := by decide +kernel
theorem dX11_turnOf_16 : decode cX11_turnOf 16 = .ok (.iconst 1, 1) := by decide +kernel
theorem dX11_turnOf_17 : decode cX11_turnOf 17 = .ok (.iload_n 2, 1) := by decide +kernel
theorem dX11_turnOf_18 : decode cX11_turnOf 18 = .ok (.ishl, 1) := by decide +kernel
theorem dX11_turnOf_19 : decode cX11_turnOf 19 = .ok (.invokevirtual 106, 3) := by decide +kernel
theorem dX11_turnOf_22 : decode cX11_turnOf 22 = .ok (.ifCond .eq 7, 3) := by decide +kernel
theorem dX11_turnOf_25 : decode cX11_turnOf 25 = .ok (.iload_n 2, 1) := by decide +kernel
theorem dX11_turnOf_26 : decode cX11_turnOf 26 = .ok (.goto 5, 3) := by decide +kernel
theorem dX11_turnOf_29 : decode cX11_turnOf 29 = .ok (.bipush (-4), 2) := by decide +kernel
theorem dX11_turnOf_31 : decode cX11_turnOf 31 = .ok (.ireturn, 1) := by decide +kernel
theorem dX11_drawnOf_0 : decode cX11_drawnOf 0 = .ok (.aload_n 0, 1) := by decide +kernel
theorem dX11_drawnOf_1 : decode cX11_drawnOf 1 = .ok (.aload_n 0, 1) := by decide +kernel
theorem dX11_drawnOf_2 : decode cX11_drawnOf 2 = .ok (.getfield 132, 3) := by decide +kernel
theorem dX11_drawnOf_5 : decode cX11_drawnOf 5 = .ok (.invokestatic 135, 3) := by decide +kernel
theorem dX11_drawnOf_8 : decode cX11_drawnOf 8 = .ok (.putfield 132, 3) := by decide +kernel
theorem dX11_drawnOf_11 : decode cX11_drawnOf 11 = .ok (.aload_n 0, 1) := by decide +kernel
theorem dX11_drawnOf_12 : decode cX11_drawnOf 12 = .ok (.getfield 132, 3) := by decide +kernel
theorem dX11_drawnOf_15 : decode cX11_drawnOf 15 = .ok (.ldc 138, 2) := by decide +kernel
theorem dX11_drawnOf_17 : decode cX11_drawnOf 17 = .ok (.idiv, 1) := by decide +kernel
theorem dX11_drawnOf_18 : decode cX11_drawnOf 18 = .ok (.istore_n 2, 1) := by decide +kernel
theorem dX11_drawnOf_19 : decode cX11_drawnOf 19 = .ok (.iconst 0, 1) := by decide +kernel
theorem dX11_drawnOf_20 : decode cX11_drawnOf 20 = .ok (.istore_n 3, 1) := by decide +kernel
theorem dX11_drawnOf_21 : decode cX11_drawnOf 21 = .ok (.aload_n 0, 1) := by decide +kernel
theorem dX11_drawnOf_22 : decode cX11_drawnOf 22 = .ok (.iload_n 1, 1) := by decide +kernel
theorem dX11_drawnOf_23 : decode cX11_drawnOf 23 = .ok (.invokevirtual 120, 3) := by decide +kernel
theorem dX11_drawnOf_26 : decode cX11_drawnOf 26 = .ok (.istore 4, 2) := by decide +kernel
theorem dX11_drawnOf_28 : decode cX11_drawnOf 28 = .ok (.iconst 0, 1) := by decide +kernel
theorem dX11_drawnOf_29 : decode cX11_drawnOf 29 = .ok (.istore 5, 2) := by decide +kernel
theorem dX11_drawnOf_31 : decode cX11_drawnOf 31 = .ok (.iload 5, 2) := by decide +kernel
theorem dX11_drawnOf_33 : decode cX11_drawnOf 33 = .ok (.iload 4, 2) := by decide +kernel
theorem dX11_drawnOf_35 : decode cX11_drawnOf 35 = .ok (.if_icmp .ge 32, 3) := by decide +kernel
theorem dX11_drawnOf_38 : decode cX11_drawnOf 38 = .ok (.iload_n 3, 1) := by decide +kernel
theorem dX11_drawnOf_39 : decode cX11_drawnOf 39 = .ok (.iload_n 2, 1) := by decide +kernel
theorem dX11_drawnOf_40 : decode cX11_drawnOf 40 = .ok (.iload 5, 2) := by decide +kernel
theorem dX11_drawnOf_42 : decode cX11_drawnOf 42 = .ok (.invokestatic 91, 3) := by decide +kernel
theorem dX11_drawnOf_45 : decode cX11_drawnOf 45 = .ok (.ifCond .eq 13, 3) := by decide +kernel
theorem dX11_drawnOf_48 : decode cX11_drawnOf 48 = .ok (.aload_n 0, 1) := by decide +kernel
theorem dX11_drawnOf_49 : decode cX11_drawnOf 49 = .ok (.iload_n 1, 1) := by decide +kernel
theorem dX11_drawnOf_50 : decode cX11_drawnOf 50 = .ok (.iload 5, 2) := by decide +kernel
theorem dX11_drawnOf_52 : decode cX11_drawnOf 52 = .ok (.invokevirtual 139, 3) := by decide +kernel
theorem dX11_drawnOf_55 : decode cX11_drawnOf 55 = .ok (.goto 4, 3) := by decide +kernel
theorem dX11_drawnOf_58 : decode cX11_drawnOf 58 = .ok (.iconst 0, 1) := by decide +kernel
theorem dX11_drawnOf_59 : decode cX11_drawnOf 59 = .ok (.ixor, 1) := by decide +kernel
theorem dX11_drawnOf_60 : decode cX11_drawnOf 60 = .ok (.istore_n 3, 1) := by decide +kernel
theorem dX11_drawnOf_61 : decode cX11_drawnOf 61 = .ok (.iinc 5 1, 3) := by decide +kernel
theorem dX11_drawnOf_64 : decode cX11_drawnOf 64 = .ok (.goto (-33), 3) := by decide +kernel
theorem dX11_drawnOf_67 : decode cX11_drawnOf 67 = .ok (.iload_n 3, 1) := by decide +kernel
theorem dX11_drawnOf_68 : decode cX11_drawnOf 68 = .ok (.ireturn, 1) := by decide +kernel
theorem dX11_laysSends_0 : decode cX11_laysSends 0 = .ok (.aload_n 0, 1) := by decide +kernel
theorem dX11_laysSends_1 : decode cX11_laysSends 1 = .ok (.aload_n 0, 1) := by decide +kernel
theorem dX11_laysSends_2 : decode cX11_laysSends 2 = .ok (.getfield 7, 3) := by decide +kernel
theorem dX11_laysSends_5 : decode cX11_laysSends 5 = .ok (.iconst 5, 1) := by decide +kernel
theorem dX11_laysSends_6 : decode cX11_laysSends 6 = .ok (.iaload, 1) := by decide +kernel
theorem dX11_laysSends_7 : decode cX11_laysSends 7 = .ok (.putfield 132, 3) := by decide +kernel
theorem dX11_laysSends_10 : decode cX11_laysSends 10 = .ok (.iconst 0, 1) := by decide +kernel
theorem dX11_laysSends_11 : decode cX11_laysSends 11 = .ok (.istore_n 1, 1) := by decide +kernel
theorem dX11_laysSends_12 : decode cX11_laysSends 12 = .ok (.iload_n 1, 1) := by decide +kernel
theorem dX11_laysSends_13 : decode cX11_laysSends 13 = .ok (.aload_n 0, 1) := by decide +kernel
theorem dX11_laysSends_14 : decode cX11_laysSends 14 = .ok (.getfield 7, 3) := by decide +kernel
theorem dX11_laysSends_17 : decode cX11_laysSends 17 = .ok (.iconst 0, 1) := by decide +kernel
theorem dX11_laysSends_18 : decode cX11_laysSends 18 = .ok (.iaload, 1) := by decide +kernel
theorem dX11_laysSends_19 : decode cX11_laysSends 19 = .ok (.if_icmp .ge 211, 3) := by decide +kernel
theorem dX11_laysSends_22 : decode cX11_laysSends 22 = .ok (.aload_n 0, 1) := by decide +kernel
theorem dX11_laysSends_23 : decode cX11_laysSends 23 = .ok (.iload_n 1, 1) := by decide +kernel
theorem dX11_laysSends_24 : decode cX11_laysSends 24 = .ok (.invokevirtual 120, 3) := by decide +kernel
theorem dX11_laysSends_27 : decode cX11_laysSends 27 = .ok (.istore_n 2, 1) := by decide +kernel
theorem dX11_laysSends_28 : decode cX11_laysSends 28 = .ok (.aload_n 0, 1) := by decide +kernel
theorem dX11_laysSends_29 : decode cX11_laysSends 29 = .ok (.getfield 7, 3) := by decide +kernel
theorem dX11_laysSends_32 : decode cX11_laysSends 32 = .ok (.iconst 2, 1) := by decide +kernel
theorem dX11_laysSends_33 : decode cX11_laysSends 33 = .ok (.iaload, 1) := by decide +kernel
theorem dX11_laysSends_34 : decode cX11_laysSends 34 = .ok (.ifCond .ne 11, 3) := by decide +kernel
theorem dX11_laysSends_37 : decode cX11_laysSends 37 = .ok (.aload_n 0, 1) := by decide +kernel
theorem dX11_laysSends_38 : decode cX11_laysSends 38 = .ok (.iload_n 1, 1) := by decide +kernel
theorem dX11_laysSends_39 : decode cX11_laysSends 39 = .ok (.invokevirtual 142, 3) := by decide +kernel
theorem dX11_laysSends_42 : decode cX11_laysSends 42 = .ok (.goto 23, 3) := by decide +kernel
theorem dX11_laysSends_45 : decode cX11_laysSends 45 = .ok (.aload_n 0, 1) := by decide +kernel
theorem dX11_laysSends_46 : decode cX11_laysSends 46 = .ok (.getfield 7, 3) := by decide +kernel
theorem dX11_laysSends_49 : decode cX11_laysSends 49 = .ok (.iconst 2, 1) := by decide +kernel
theorem dX11_laysSends_50 : decode cX11_laysSends 50 = .ok (.iaload, 1) := by decide +kernel
theorem dX11_laysSends_51 : decode cX11_laysSends 51 = .ok (.iconst 1, 1) := by decide +kernel
theorem dX11_laysSends_52 : decode cX11_laysSends 52 = .ok (.if_icmp .ne 11, 3) := by decide +kernel
theorem dX11_laysSends_55 : decode cX11_laysSends 55 = .ok (.aload_n 0, 1) := by decide +kernel
theorem dX11_laysSends_56 : decode cX11_laysSends 56 = .ok (.iload_n 1, 1) := by decide +kernel
theorem dX11_laysSends_57 : decode cX11_laysSends 57 = .ok (.invokevirtual 145, 3) := by decide +kernel
theorem dX11_laysSends_60 : decode cX11_laysSends 60 = .ok (.goto 5, 3) := by decide +kernel
theorem dX11_laysSends_63 : decode cX11_laysSends 63 = .ok (.bipush (-4), 2) := by decide +kernel
theorem dX11_laysSends_65 : decode cX11_laysSends 65 = .ok (.istore_n 3, 1) := by decide +kernel
theorem dX11_laysSends_66 : decode cX11_laysSends 66 = .ok (.aload_n 0, 1) := by decide +kernel
theorem dX11_laysSends_67 : decode cX11_laysSends 67 = .ok (.getfield 26, 3) := by decide +kernel
theorem dX11_laysSends_70 : decode cX11_laysSends 70 = .ok (.iload_n 1, 1) := by decide +kernel
theorem dX11_laysSends_71 : decode cX11_laysSends 71 = .ok (.iconst 0, 1) := by decide +kernel
theorem dX11_laysSends_72 : decode cX11_laysSends 72 = .ok (.iastore, 1) := by decide +kernel
theorem dX11_laysSends_73 : decode cX11_laysSends 73 = .ok (.aload_n 0, 1) := by decide +kernel
theorem dX11_laysSends_74 : decode cX11_laysSends 74 = .ok (.getfield 7, 3) := by decide +kernel
theorem dX11_laysSends_77 : decode cX11_laysSends 77 = .ok (.iconst 2, 1) := by decide +kernel
theorem dX11_laysSends_78 : decode cX11_laysSends 78 = .ok (.iaload, 1) := by decide +kernel
theorem dX11_laysSends_79 : decode cX11_laysSends 79 = .ok (.iconst 1, 1) := by decide +kernel
theorem dX11_laysSends_80 : decode cX11_laysSends 80 = .ok (.if_icmp .gt 45, 3) := by decide +kernel
theorem dX11_laysSends_83 : decode cX11_laysSends 83 = .ok (.aload_n 0, 1) := by decide +kernel
theorem dX11_laysSends_84 : decode cX11_laysSends 84 = .ok (.getfield 26, 3) := by decide +kernel
theorem dX11_laysSends_87 : decode cX11_laysSends 87 = .ok (.iload_n 1, 1) := by decide +kernel
theorem dX11_laysSends_88 : decode cX11_laysSends 88 = .ok (.iload_n 3, 1) := by decide +kernel
theorem dX11_laysSends_89 : decode cX11_laysSends 89 = .ok (.bipush (-4), 2) := by decide +kernel
theorem dX11_laysSends_91 : decode cX11_laysSends 91 = .ok (.if_icmp .ne 7, 3) := by decide +kernel
theorem dX11_laysSends_94 : decode cX11_laysSends 94 = .ok (.iconst 0, 1) := by decide +kernel
theorem dX11_laysSends_95 : decode cX11_laysSends 95 = .ok (.goto 4, 3) := by decide +kernel
theorem dX11_laysSends_98 : decode cX11_laysSends 98 = .ok (.iconst 1, 1) := by decide +kernel
theorem dX11_laysSends_99 : decode cX11_laysSends 99 = .ok (.iastore, 1) := by decide +kernel
theorem dX11_laysSends_100 : decode cX11_laysSends 100 = .ok (.aload_n 0, 1) := by decide +kernel
theorem dX11_laysSends_101 : decode cX11_laysSends 101 = .ok (.getfield 29, 3) := by decide +kernel
theorem dX11_laysSends_104 : decode cX11_laysSends 104 = .ok (.bipush 8, 2) := by decide +kernel
theorem dX11_laysSends_106 : decode cX11_laysSends 106 = .ok (.iload_n 1, 1) := by decide +kernel
theorem dX11_laysSends_107 : decode cX11_laysSends 107 = .ok (.imul, 1) := by decide +kernel
theorem dX11_laysSends_108 : decode cX11_laysSends 108 = .ok (.iload_n 3, 1) := by decide +kernel
theorem dX11_laysSends_109 : decode cX11_laysSends 109 = .ok (.bipush (-4), 2) := by decide +kernel
theorem dX11_laysSends_111 : decode cX11_laysSends 111 = .ok (.if_icmp .ne 7, 3) := by decide +kernel
theorem dX11_laysSends_114 : decode cX11_laysSends 114 = .ok (.iconst 0, 1) := by decide +kernel
theorem dX11_laysSends_115 : decode cX11_laysSends 115 = .ok (.goto 6, 3) := by decide +kernel
theorem dX11_laysSends_118 : decode cX11_laysSends 118 = .ok (.iconst 1, 1) := by decide +kernel
theorem dX11_laysSends_119 : decode cX11_laysSends 119 = .ok (.iload_n 3, 1) := by decide +kernel
theorem dX11_laysSends_120 : decode cX11_laysSends 120 = .ok (.ishl, 1) := by decide +kernel
theorem dX11_laysSends_121 : decode cX11_laysSends 121 = .ok (.iastore, 1) := by decide +kernel
theorem dX11_laysSends_122 : decode cX11_laysSends 122 = .ok (.goto 102, 3) := by decide +kernel
theorem dX11_laysSends_125 : decode cX11_laysSends 125 = .ok (.aload_n 0, 1) := by decide +kernel
theorem dX11_laysSends_126 : decode cX11_laysSends 126 = .ok (.getfield 7, 3) := by decide +kernel
theorem dX11_laysSends_129 : decode cX11_laysSends 129 = .ok (.iconst 2, 1) := by decide +kernel
theorem dX11_laysSends_130 : decode cX11_laysSends 130 = .ok (.iaload, 1) := by decide +kernel
theorem dX11_laysSends_131 : decode cX11_laysSends 131 = .ok (.iconst 2, 1) := by decide +kernel
theorem dX11_laysSends_132 : decode cX11_laysSends 132 = .ok (.if_icmp .ne 51, 3) := by decide +kernel
theorem dX11_laysSends_135 : decode cX11_laysSends 135 = .ok (.aload_n 0, 1) := by decide +kernel
theorem dX11_laysSends_136 : decode cX11_laysSends 136 = .ok (.getfield 29, 3) := by decide +kernel
theorem dX11_laysSends_139 : decode cX11_laysSends 139 = .ok (.bipush 8, 2) := by decide +kernel
theorem dX11_laysSends_141 : decode cX11_laysSends 141 = .ok (.iload_n 1, 1) := by decide +kernel
theorem dX11_laysSends_142 : decode cX11_laysSends 142 = .ok (.imul, 1) := by decide +kernel
theorem dX11_laysSends_143 : decode cX11_laysSends 143 = .ok (.iload_n 2, 1) := by decide +kernel
theorem dX11_laysSends_144 : decode cX11_laysSends 144 = .ok (.ifCond .le 11, 3) := by decide +kernel
theorem dX11_laysSends_147 : decode cX11_laysSends 147 = .ok (.aload_n 0, 1) := by decide +kernel
theorem dX11_laysSends_148 : decode cX11_laysSends 148 = .ok (.iload_n 1, 1) := by decide +kernel
theorem dX11_laysSends_149 : decode cX11_laysSends 149 = .ok (.invokevirtual 148, 3) := by decide +kernel
theorem dX11_laysSends_152 : decode cX11_laysSends 152 = .ok (.goto 4, 3) := by decide +kernel
theorem dX11_laysSends_155 : decode cX11_laysSends 155 = .ok (.iconst 0, 1) := by decide +kernel
theorem dX11_laysSends_156 : decode cX11_laysSends 156 = .ok (.iastore, 1) := by decide +kernel
theorem dX11_laysSends_157 : decode cX11_laysSends 157 = .ok (.aload_n 0, 1) := by decide +kernel
theorem dX11_laysSends_158 : decode cX11_laysSends 158 = .ok (.getfield 26, 3) := by decide +kernel
theorem dX11_laysSends_161 : decode cX11_laysSends 161 = .ok (.iload_n 1, 1) := by decide +kernel
theorem dX11_laysSends_162 : decode cX11_laysSends 162 = .ok (.aload_n 0, 1) := by decide +kernel
theorem dX11_laysSends_163 : decode cX11_laysSends 163 = .ok (.getfield 29, 3) := by decide +kernel
theorem dX11_laysSends_166 : decode cX11_laysSends 166 = .ok (.bipush 8, 2) := by decide +kernel
theorem dX11_laysSends_168 : decode cX11_laysSends 168 = .ok (.iload_n 1, 1) := by decide +kernel
theorem dX11_laysSends_169 : decode cX11_laysSends 169 = .ok (.imul, 1) := by decide +kernel
theorem dX11_laysSends_170 : decode cX11_laysSends 170 = .ok (.iaload, 1) := by decide +kernel
theorem dX11_laysSends_171 : decode cX11_laysSends 171 = .ok (.ifCond .ne 7, 3) := by decide +kernel
theorem dX11_laysSends_174 : decode cX11_laysSends 174 = .ok (.iconst 0, 1) := by decide +kernel
theorem dX11_laysSends_175 : decode cX11_laysSends 175 = .ok (.goto 4, 3) := by decide +kernel
theorem dX11_laysSends_178 : decode cX11_laysSends 178 = .ok (.iconst 1, 1) := by decide +kernel
theorem dX11_laysSends_179 : decode cX11_laysSends 179 = .ok (.iastore, 1) := by decide +kernel
theorem dX11_laysSends_180 : decode cX11_laysSends 180 = .ok (.goto 44, 3) := by decide +kernel
theorem dX11_laysSends_183 : decode cX11_laysSends 183 = .ok (.aload_n 0, 1) := by decide +kernel
theorem dX11_laysSends_184 : decode cX11_laysSends 184 = .ok (.getfield 26, 3) := by decide +kernel
theorem dX11_laysSends_187 : decode cX11_laysSends 187 = .ok (.iload_n 1, 1) := by decide +kernel
theorem dX11_laysSends_188 : decode cX11_laysSends 188 = .ok (.iload_n 2, 1) := by decide +kernel
theorem dX11_laysSends_189 : decode cX11_laysSends 189 = .ok (.iastore, 1) := by decide +kernel
theorem dX11_laysSends_190 : decode cX11_laysSends 190 = .ok (.iconst 0, 1) := by decide +kernel
theorem dX11_laysSends_191 : decode cX11_laysSends 191 = .ok (.istore 4, 2) := by decide +kernel
theorem dX11_laysSends_193 : decode cX11_laysSends 193 = .ok (.iload 4, 2) := by decide +kernel
theorem dX11_laysSends_195 : decode cX11_laysSends 195 = .ok (.iload_n 2, 1) := by decide +kernel
theorem dX11_laysSends_196 : decode cX11_laysSends 196 = .ok (.if_icmp .ge 28, 3) := by decide +kernel
theorem dX11_laysSends_199 : decode cX11_laysSends 199 = .ok (.aload_n 0, 1) := by decide +kernel
theorem dX11_laysSends_200 : decode cX11_laysSends 200 = .ok (.getfield 29, 3) := by decide +kernel
theorem dX11_laysSends_203 : decode cX11_laysSends 203 = .ok (.bipush 8, 2) := by decide +kernel
theorem dX11_laysSends_205 : decode cX11_laysSends 205 = .ok (.iload_n 1, 1) := by decide +kernel
theorem dX11_laysSends_206 : decode cX11_laysSends 206 = .ok (.imul, 1) := by decide +kernel
theorem dX11_laysSends_207 : decode cX11_laysSends 207 = .ok (.iload 4, 2) := by decide +kernel
theorem dX11_laysSends_209 : decode cX11_laysSends 209 = .ok (.iadd, 1) := by decide +kernel
theorem dX11_laysSends_210 : decode cX11_laysSends 210 = .ok (.aload_n 0, 1) := by decide +kernel
theorem dX11_laysSends_211 : decode cX11_laysSends 211 = .ok (.iload_n 1, 1) := by decide +kernel
theorem dX11_laysSends_212 : decode cX11_laysSends 212 = .ok (.iload 4, 2) := by decide +kernel
theorem dX11_laysSends_214 : decode cX11_laysSends 214 = .ok (.invokevirtual 139, 3) := by decide +kernel
theorem dX11_laysSends_217 : decode cX11_laysSends 217 = .ok (.iastore, 1) := by decide +kernel
theorem dX11_laysSends_218 : decode cX11_laysSends 218 = .ok (.iinc 4 1, 3) := by decide +kernel
theorem dX11_laysSends_221 : decode cX11_laysSends 221 = .ok (.goto (-28), 3) := by decide +kernel
theorem dX11_laysSends_224 : decode cX11_laysSends 224 = .ok (.iinc 1 1, 3) := by decide +kernel
theorem dX11_laysSends_227 : decode cX11_laysSends 227 = .ok (.goto (-215), 3) := by decide +kernel
theorem dX11_laysSends_230 : decode cX11_laysSends 230 = .ok (.return_, 1) := by decide +kernel
theorem dX11_hears_0 : decode cX11_hears 0 = .ok (.iconst 0, 1) := by decide +kernel
theorem dX11_hears_1 : decode cX11_hears 1 = .ok (.istore_n 3, 1) := by decide +kernel
theorem dX11_hears_2 : decode cX11_hears 2 = .ok (.iload_n 3, 1) := by decide +kernel
theorem dX11_hears_3 : decode cX11_hears 3 = .ok (.aload_n 0, 1) := by decide +kernel
theorem dX11_hears_4 : decode cX11_hears 4 = .ok (.getfield 7, 3) := by decide +kernel
theorem dX11_hears_7 : decode cX11_hears 7 = .ok (.iconst 0, 1) := by decide +kernel
theorem dX11_hears_8 : decode cX11_hears 8 = .ok (.iaload, 1) := by decide +kernel
theorem dX11_hears_9 : decode cX11_hears 9 = .ok (.if_icmp .ge 54, 3) := by decide +kernel
theorem dX11_hears_12 : decode cX11_hears 12 = .ok (.iconst 0, 1) := by decide +kernel
theorem dX11_hears_13 : decode cX11_hears 13 = .ok (.istore 4, 2) := by decide +kernel
theorem dX11_hears_15 : decode cX11_hears 15 = .ok (.iload 4, 2) := by decide +kernel
theorem dX11_hears_17 : decode cX11_hears 17 = .ok (.aload_n 0, 1) := by decide +kernel
theorem dX11_hears_18 : decode cX11_hears 18 = .ok (.getfield 26, 3) := by decide +kernel
theorem dX11_hears_21 : decode cX11_hears 21 = .ok (.iload_n 3, 1) := by decide +kernel
theorem dX11_hears_22 : decode cX11_hears 22 = .ok (.iaload, 1) := by decide +kernel
theorem dX11_hears_23 : decode cX11_hears 23 = .ok (.if_icmp .ge 34, 3) := by decide +kernel
theorem dX11_hears_26 : decode cX11_hears 26 = .ok (.iload_n 2, 1) := by decide +kernel
theorem dX11_hears_27 : decode cX11_hears 27 = .ok (.iload_n 3, 1) := by decide +kernel
theorem dX11_hears_28 : decode cX11_hears 28 = .ok (.invokestatic 91, 3) := by decide +kernel
theorem dX11_hears_31 : decode cX11_hears 31 = .ok (.ifCond .eq 26, 3) := by decide +kernel
theorem dX11_hears_34 : decode cX11_hears 34 = .ok (.aload_n 0, 1) := by decide +kernel
theorem dX11_hears_35 : decode cX11_hears 35 = .ok (.iload_n 1, 1) := by decide +kernel
theorem dX11_hears_36 : decode cX11_hears 36 = .ok (.aload_n 0, 1) := by decide +kernel
theorem dX11_hears_37 : decode cX11_hears 37 = .ok (.getfield 29, 3) := by decide +kernel
theorem dX11_hears_40 : decode cX11_hears 40 = .ok (.bipush 8, 2) := by decide +kernel
theorem dX11_hears_42 : decode cX11_hears 42 = .ok (.iload_n 3, 1) := by decide +kernel
theorem dX11_hears_43 : decode cX11_hears 43 = .ok (.imul, 1) := by decide +kernel
theorem dX11_hears_44 : decode cX11_hears 44 = .ok (.iload 4, 2) := by decide +kernel
theorem dX11_hears_46 : decode cX11_hears 46 = .ok (.iadd, 1) := by decide +kernel
theorem dX11_hears_47 : decode cX11_hears 47 = .ok (.iaload, 1) := by decide +kernel
theorem dX11_hears_48 : decode cX11_hears 48 = .ok (.invokevirtual 151, 3) := by decide +kernel
theorem dX11_hears_51 : decode cX11_hears 51 = .ok (.iinc 4 1, 3) := by decide +kernel
theorem dX11_hears_54 : decode cX11_hears 54 = .ok (.goto (-39), 3) := by decide +kernel
theorem dX11_hears_57 : decode cX11_hears 57 = .ok (.iinc 3 1, 3) := by decide +kernel
theorem dX11_hears_60 : decode cX11_hears 60 = .ok (.goto (-58), 3) := by decide +kernel
theorem dX11_hears_63 : decode cX11_hears 63 = .ok (.return_, 1) := by decide +kernel
theorem dX11_growth_0 : decode cX11_growth 0 = .ok (.aload_n 0, 1) := by decide +kernel
theorem dX11_growth_1 : decode cX11_growth 1 = .ok (.iload_n 1, 1) := by decide +kernel
theorem dX11_growth_2 : decode cX11_growth 2 = .ok (.invokevirtual 120, 3) := by decide +kernel
theorem dX11_growth_5 : decode cX11_growth 5 = .ok (.istore_n 3, 1) := by decide +kernel
theorem dX11_growth_6 : decode cX11_growth 6 = .ok (.aload_n 0, 1) := by decide +kernel
theorem dX11_growth_7 : decode cX11_growth 7 = .ok (.getfield 7, 3) := by decide +kernel
theorem dX11_growth_10 : decode cX11_growth 10 = .ok (.bipush 21, 2) := by decide +kernel
theorem dX11_growth_12 : decode cX11_growth 12 = .ok (.bipush 8, 2) := by decide +kernel
theorem dX11_growth_14 : decode cX11_growth 14 = .ok (.iload_n 1, 1) := by decide +kernel
theorem dX11_growth_15 : decode cX11_growth 15 = .ok (.imul, 1) := by decide +kernel
theorem dX11_growth_16 : decode cX11_growth 16 = .ok (.iadd, 1) := by decide +kernel
theorem dX11_growth_17 : decode cX11_growth 17 = .ok (.aload_n 0, 1) := by decide +kernel
theorem dX11_growth_18 : decode cX11_growth 18 = .ok (.getfield 32, 3) := by decide +kernel
theorem dX11_growth_21 : decode cX11_growth 21 = .ok (.iconst 0, 1) := by decide +kernel
theorem dX11_growth_22 : decode cX11_growth 22 = .ok (.bipush 8, 2) := by decide +kernel
theorem dX11_growth_24 : decode cX11_growth 24 = .ok (.invokestatic 70, 3) := by decide +kernel
theorem dX11_growth_27 : decode cX11_growth 27 = .ok (.aload_n 0, 1) := by decide +kernel
theorem dX11_growth_28 : decode cX11_growth 28 = .ok (.iload_n 1, 1) := by decide +kernel
theorem dX11_growth_29 : decode cX11_growth 29 = .ok (.iload_n 2, 1) := by decide +kernel
theorem dX11_growth_30 : decode cX11_growth 30 = .ok (.invokevirtual 155, 3) := by decide +kernel
theorem dX11_growth_33 : decode cX11_growth 33 = .ok (.aload_n 0, 1) := by decide +kernel
theorem dX11_growth_34 : decode cX11_growth 34 = .ok (.iload_n 1, 1) := by decide +kernel
theorem dX11_growth_35 : decode cX11_growth 35 = .ok (.invokevirtual 120, 3) := by decide +kernel
theorem dX11_growth_38 : decode cX11_growth 38 = .ok (.istore 4, 2) := by decide +kernel
theorem dX11_growth_40 : decode cX11_growth 40 = .ok (.aload_n 0, 1) := by decide +kernel
theorem dX11_growth_41 : decode cX11_growth 41 = .ok (.getfield 32, 3) := by decide +kernel
theorem dX11_growth_44 : decode cX11_growth 44 = .ok (.iconst 0, 1) := by decide +kernel
theorem dX11_growth_45 : decode cX11_growth 45 = .ok (.aload_n 0, 1) := by decide +kernel
theorem dX11_growth_46 : decode cX11_growth 46 = .ok (.getfield 7, 3) := by decide +kernel
theorem dX11_growth_49 : decode cX11_growth 49 = .ok (.bipush 21, 2) := by decide +kernel
theorem dX11_growth_51 : decode cX11_growth 51 = .ok (.bipush 8, 2) := by decide +kernel
theorem dX11_growth_53 : decode cX11_growth 53 = .ok (.iload_n 1, 1) := by decide +kernel
theorem dX11_growth_54 : decode cX11_growth 54 = .ok (.imul, 1) := by decide +kernel
theorem dX11_growth_55 : decode cX11_growth 55 = .ok (.iadd, 1) := by decide +kernel
theorem dX11_growth_56 : decode cX11_growth 56 = .ok (.bipush 8, 2) := by decide +kernel
theorem dX11_growth_58 : decode cX11_growth 58 = .ok (.invokestatic 70, 3) := by decide +kernel
theorem dX11_growth_61 : decode cX11_growth 61 = .ok (.iload 4, 2) := by decide +kernel
theorem dX11_growth_63 : decode cX11_growth 63 = .ok (.iload_n 3, 1) := by decide +kernel
theorem dX11_growth_64 : decode cX11_growth 64 = .ok (.isub, 1) := by decide +kernel
theorem dX11_growth_65 : decode cX11_growth 65 = .ok (.ireturn, 1) := by decide +kernel
theorem dX11_goes_0 : decode cX11_goes 0 = .ok (.aload_n 0, 1) := by decide +kernel
theorem dX11_goes_1 : decode cX11_goes 1 = .ok (.invokevirtual 158, 3) := by decide +kernel
theorem dX11_goes_4 : decode cX11_goes 4 = .ok (.aload_n 0, 1) := by decide +kernel
theorem dX11_goes_5 : decode cX11_goes 5 = .ok (.invokevirtual 161, 3) := by decide +kernel
theorem dX11_goes_8 : decode cX11_goes 8 = .ok (.istore_n 1, 1) := by decide +kernel
theorem dX11_goes_9 : decode cX11_goes 9 = .ok (.iconst 0, 1) := by decide +kernel
theorem dX11_goes_10 : decode cX11_goes 10 = .ok (.istore_n 2, 1) := by decide +kernel
theorem dX11_goes_11 : decode cX11_goes 11 = .ok (.iload_n 2, 1) := by decide +kernel
theorem dX11_goes_12 : decode cX11_goes 12 = .ok (.aload_n 0, 1) := by decide +kernel
theorem dX11_goes_13 : decode cX11_goes 13 = .ok (.getfield 7, 3) := by decide +kernel
theorem dX11_goes_16 : decode cX11_goes 16 = .ok (.iconst 0, 1) := by decide +kernel
theorem dX11_goes_17 : decode cX11_goes 17 = .ok (.iaload, 1) := by decide +kernel
theorem dX11_goes_18 : decode cX11_goes 18 = .ok (.if_icmp .ge 69, 3) := by decide +kernel
theorem dX11_goes_21 : decode cX11_goes 21 = .ok (.aload_n 0, 1) := by decide +kernel
theorem dX11_goes_22 : decode cX11_goes 22 = .ok (.iload_n 2, 1) := by decide +kernel
theorem dX11_goes_23 : decode cX11_goes 23 = .ok (.iload_n 1, 1) := by decide +kernel
theorem dX11_goes_24 : decode cX11_goes 24 = .ok (.iload_n 2, 1) := by decide +kernel
theorem dX11_goes_25 : decode cX11_goes 25 = .ok (.aload_n 0, 1) := by decide +kernel
theorem dX11_goes_26 : decode cX11_goes 26 = .ok (.getfield 7, 3) := by decide +kernel
theorem dX11_goes_29 : decode cX11_goes 29 = .ok (.iconst 0, 1) := by decide +kernel
theorem dX11_goes_30 : decode cX11_goes 30 = .ok (.iaload, 1) := by decide +kernel
theorem dX11_goes_31 : decode cX11_goes 31 = .ok (.iconst 0, 1) := by decide +kernel
theorem dX11_goes_32 : decode cX11_goes 32 = .ok (.invokestatic 95, 3) := by decide +kernel
theorem dX11_goes_35 : decode cX11_goes 35 = .ok (.invokevirtual 155, 3) := by decide +kernel
theorem dX11_goes_38 : decode cX11_goes 38 = .ok (.aload_n 0, 1) := by decide +kernel
theorem dX11_goes_39 : decode cX11_goes 39 = .ok (.getfield 7, 3) := by decide +kernel
theorem dX11_goes_42 : decode cX11_goes 42 = .ok (.bipush 15, 2) := by decide +kernel
theorem dX11_goes_44 : decode cX11_goes 44 = .ok (.iload_n 2, 1) := by decide +kernel
theorem dX11_goes_45 : decode cX11_goes 45 = .ok (.iadd, 1) := by decide +kernel
theorem dX11_goes_46 : decode cX11_goes 46 = .ok (.dup2, 1) := by decide +kernel
theorem dX11_goes_47 : decode cX11_goes 47 = .ok (.iaload, 1) := by decide +kernel
theorem dX11_goes_48 : decode cX11_goes 48 = .ok (.aload_n 0, 1) := by decide +kernel
theorem dX11_goes_49 : decode cX11_goes 49 = .ok (.getfield 7, 3) := by decide +kernel
theorem dX11_goes_52 : decode cX11_goes 52 = .ok (.iconst 2, 1) := by decide +kernel
theorem dX11_goes_53 : decode cX11_goes 53 = .ok (.iaload, 1) := by decide +kernel
theorem dX11_goes_54 : decode cX11_goes 54 = .ok (.ifCond .ne 24, 3) := by decide +kernel
theorem dX11_goes_57 : decode cX11_goes 57 = .ok (.aload_n 0, 1) := by decide +kernel
theorem dX11_goes_58 : decode cX11_goes 58 = .ok (.getfield 26, 3) := by decide +kernel
theorem dX11_goes_61 : decode cX11_goes 61 = .ok (.iload_n 2, 1) := by decide +kernel
theorem dX11_goes_62 : decode cX11_goes 62 = .ok (.iaload, 1) := by decide +kernel
theorem dX11_goes_63 : decode cX11_goes 63 = .ok (.ifCond .le 15, 3) := by decide +kernel
theorem dX11_goes_66 : decode cX11_goes 66 = .ok (.aload_n 0, 1) := by decide +kernel
theorem dX11_goes_67 : decode cX11_goes 67 = .ok (.getfield 29, 3) := by decide +kernel
theorem dX11_goes_70 : decode cX11_goes 70 = .ok (.bipush 8, 2) := by decide +kernel
theorem dX11_goes_72 : decode cX11_goes 72 = .ok (.iload_n 2, 1) := by decide +kernel
theorem dX11_goes_73 : decode cX11_goes 73 = .ok (.imul, 1) := by decide +kernel
theorem dX11_goes_74 : decode cX11_goes 74 = .ok (.iaload, 1) := by decide +kernel
theorem dX11_goes_75 : decode cX11_goes 75 = .ok (.goto 4, 3) := by decide +kernel
theorem dX11_goes_78 : decode cX11_goes 78 = .ok (.iconst 0, 1) := by decide +kernel
theorem dX11_goes_79 : decode cX11_goes 79 = .ok (.ior, 1) := by decide +kernel
theorem dX11_goes_80 : decode cX11_goes 80 = .ok (.iastore, 1) := by decide +kernel
theorem dX11_goes_81 : decode cX11_goes 81 = .ok (.iinc 2 1, 3) := by decide +kernel
theorem dX11_goes_84 : decode cX11_goes 84 = .ok (.goto (-73), 3) := by decide +kernel
theorem dX11_goes_87 : decode cX11_goes 87 = .ok (.aload_n 0, 1) := by decide +kernel
theorem dX11_goes_88 : decode cX11_goes 88 = .ok (.getfield 7, 3) := by decide +kernel
theorem dX11_goes_91 : decode cX11_goes 91 = .ok (.iconst 5, 1) := by decide +kernel
theorem dX11_goes_92 : decode cX11_goes 92 = .ok (.aload_n 0, 1) := by decide +kernel
theorem dX11_goes_93 : decode cX11_goes 93 = .ok (.getfield 132, 3) := by decide +kernel
theorem dX11_goes_96 : decode cX11_goes 96 = .ok (.iastore, 1) := by decide +kernel
theorem dX11_goes_97 : decode cX11_goes 97 = .ok (.aload_n 0, 1) := by decide +kernel
theorem dX11_goes_98 : decode cX11_goes 98 = .ok (.getfield 7, 3) := by decide +kernel
theorem dX11_goes_101 : decode cX11_goes 101 = .ok (.iconst 4, 1) := by decide +kernel
theorem dX11_goes_102 : decode cX11_goes 102 = .ok (.dup2, 1) := by decide +kernel
theorem dX11_goes_103 : decode cX11_goes 103 = .ok (.iaload, 1) := by decide +kernel
theorem dX11_goes_104 : decode cX11_goes 104 = .ok (.iconst 1, 1) := by decide +kernel
theorem dX11_goes_105 : decode cX11_goes 105 = .ok (.iadd, 1) := by decide +kernel
theorem dX11_goes_106 : decode cX11_goes 106 = .ok (.iastore, 1) := by decide +kernel
theorem dX11_goes_107 : decode cX11_goes 107 = .ok (.return_, 1) := by decide +kernel
theorem dX11_put_0 : decode cX11_put 0 = .ok (.aload_n 0, 1) := by decide +kernel
theorem dX11_put_1 : decode cX11_put 1 = .ok (.iload_n 1, 1) := by decide +kernel
theorem dX11_put_2 : decode cX11_put 2 = .ok (.invokevirtual 165, 3) := by decide +kernel
theorem dX11_put_5 : decode cX11_put 5 = .ok (.ifCond .eq 20, 3) := by decide +kernel
theorem dX11_put_8 : decode cX11_put 8 = .ok (.iload_n 2, 1) := by decide +kernel
theorem dX11_put_9 : decode cX11_put 9 = .ok (.ifCond .eq 16, 3) := by decide +kernel
theorem dX11_put_12 : decode cX11_put 12 = .ok (.iload_n 2, 1) := by decide +kernel
theorem dX11_put_13 : decode cX11_put 13 = .ok (.aload_n 0, 1) := by decide +kernel
theorem dX11_put_14 : decode cX11_put 14 = .ok (.getfield 7, 3) := by decide +kernel
theorem dX11_put_17 : decode cX11_put 17 = .ok (.iconst 1, 1) := by decide +kernel
theorem dX11_put_18 : decode cX11_put 18 = .ok (.iaload, 1) := by decide +kernel
theorem dX11_put_19 : decode cX11_put 19 = .ok (.invokestatic 169, 3) := by decide +kernel
theorem dX11_put_22 : decode cX11_put 22 = .ok (.ifCond .ne 5, 3) := by decide +kernel
theorem dX11_put_25 : decode cX11_put 25 = .ok (.iconst (-1), 1) := by decide +kernel
theorem dX11_put_26 : decode cX11_put 26 = .ok (.ireturn, 1) := by decide +kernel
theorem dX11_put_27 : decode cX11_put 27 = .ok (.aload_n 0, 1) := by decide +kernel
theorem dX11_put_28 : decode cX11_put 28 = .ok (.iload_n 1, 1) := by decide +kernel
theorem dX11_put_29 : decode cX11_put 29 = .ok (.iload_n 2, 1) := by decide +kernel
theorem dX11_put_30 : decode cX11_put 30 = .ok (.invokevirtual 106, 3) := by decide +kernel
theorem dX11_put_33 : decode cX11_put 33 = .ok (.ifCond .eq 6, 3) := by decide +kernel
theorem dX11_put_36 : decode cX11_put 36 = .ok (.bipush (-2), 2) := by decide +kernel
theorem dX11_put_38 : decode cX11_put 38 = .ok (.ireturn, 1) := by decide +kernel
theorem dX11_put_39 : decode cX11_put 39 = .ok (.aload_n 0, 1) := by decide +kernel
theorem dX11_put_40 : decode cX11_put 40 = .ok (.invokevirtual 172, 3) := by decide +kernel
theorem dX11_put_43 : decode cX11_put 43 = .ok (.aload_n 0, 1) := by decide +kernel
theorem dX11_put_44 : decode cX11_put 44 = .ok (.iload_n 1, 1) := by decide +kernel
theorem dX11_put_45 : decode cX11_put 45 = .ok (.iload_n 2, 1) := by decide +kernel
theorem dX11_put_46 : decode cX11_put 46 = .ok (.invokevirtual 151, 3) := by decide +kernel
theorem dX11_put_49 : decode cX11_put 49 = .ok (.aload_n 0, 1) := by decide +kernel
theorem dX11_put_50 : decode cX11_put 50 = .ok (.iload_n 1, 1) := by decide +kernel
theorem dX11_put_51 : decode cX11_put 51 = .ok (.invokevirtual 120, 3) := by decide +kernel
theorem dX11_put_54 : decode cX11_put 54 = .ok (.ireturn, 1) := by decide +kernel
theorem dX11_node_0 : decode cX11_node 0 = .ok (.aload_n 0, 1) := by decide +kernel
theorem dX11_node_1 : decode cX11_node 1 = .ok (.iload_n 1, 1) := by decide +kernel
theorem dX11_node_2 : decode cX11_node 2 = .ok (.invokevirtual 165, 3) := by decide +kernel
theorem dX11_node_5 : decode cX11_node 5 = .ok (.ifCond .ne 5, 3) := by decide +kernel
theorem dX11_node_8 : decode cX11_node 8 = .ok (.iconst (-1), 1) := by decide +kernel
theorem dX11_node_9 : decode cX11_node 9 = .ok (.ireturn, 1) := by decide +kernel
theorem dX11_node_10 : decode cX11_node 10 = .ok (.iload_n 2, 1) := by decide +kernel
theorem dX11_node_11 : decode cX11_node 11 = .ok (.tableswitch 96 0 4 #[33, 39, 45, 55, 71], 33) := by decide +kernel
theorem dX11_node_44 : decode cX11_node 44 = .ok (.aload_n 0, 1) := by decide +kernel
theorem dX11_node_45 : decode cX11_node 45 = .ok (.iload_n 1, 1) := by decide +kernel
theorem dX11_node_46 : decode cX11_node 46 = .ok (.invokevirtual 120, 3) := by decide +kernel
theorem dX11_node_49 : decode cX11_node 49 = .ok (.ireturn, 1) := by decide +kernel
theorem dX11_node_50 : decode cX11_node 50 = .ok (.aload_n 0, 1) := by decide +kernel
theorem dX11_node_51 : decode cX11_node 51 = .ok (.iload_n 1, 1) := by decide +kernel
theorem dX11_node_52 : decode cX11_node 52 = .ok (.invokevirtual 129, 3) := by decide +kernel
theorem dX11_node_55 : decode cX11_node 55 = .ok (.ireturn, 1) := by decide +kernel
theorem dX11_node_56 : decode cX11_node 56 = .ok (.aload_n 0, 1) := by decide +kernel
theorem dX11_node_57 : decode cX11_node 57 = .ok (.getfield 7, 3) := by decide +kernel
theorem dX11_node_60 : decode cX11_node 60 = .ok (.bipush 15, 2) := by decide +kernel
theorem dX11_node_62 : decode cX11_node 62 = .ok (.iload_n 1, 1) := by decide +kernel
theorem dX11_node_63 : decode cX11_node 63 = .ok (.iadd, 1) := by decide +kernel
theorem dX11_node_64 : decode cX11_node 64 = .ok (.iaload, 1) := by decide +kernel
theorem dX11_node_65 : decode cX11_node 65 = .ok (.ireturn, 1) := by decide +kernel
theorem dX11_node_66 : decode cX11_node 66 = .ok (.aload_n 0, 1) := by decide +kernel
theorem dX11_node_67 : decode cX11_node 67 = .ok (.invokevirtual 161, 3) := by decide +kernel
theorem dX11_node_70 : decode cX11_node 70 = .ok (.iload_n 1, 1) := by decide +kernel
theorem dX11_node_71 : decode cX11_node 71 = .ok (.aload_n 0, 1) := by decide +kernel
theorem dX11_node_72 : decode cX11_node 72 = .ok (.getfield 7, 3) := by decide +kernel
theorem dX11_node_75 : decode cX11_node 75 = .ok (.iconst 0, 1) := by decide +kernel
theorem dX11_node_76 : decode cX11_node 76 = .ok (.iaload, 1) := by decide +kernel
theorem dX11_node_77 : decode cX11_node 77 = .ok (.iconst 0, 1) := by decide +kernel
theorem dX11_node_78 : decode cX11_node 78 = .ok (.invokestatic 95, 3) := by decide +kernel
theorem dX11_node_81 : decode cX11_node 81 = .ok (.ireturn, 1) := by decide +kernel
theorem dX11_node_82 : decode cX11_node 82 = .ok (.aload_n 0, 1) := by decide +kernel
theorem dX11_node_83 : decode cX11_node 83 = .ok (.invokevirtual 158, 3) := by decide +kernel
theorem dX11_node_86 : decode cX11_node 86 = .ok (.aload_n 0, 1) := by decide +kernel
theorem dX11_node_87 : decode cX11_node 87 = .ok (.iload_n 1, 1) := by decide +kernel
theorem dX11_node_88 : decode cX11_node 88 = .ok (.aload_n 0, 1) := by decide +kernel
theorem dX11_node_89 : decode cX11_node 89 = .ok (.invokevirtual 161, 3) := by decide +kernel
theorem dX11_node_92 : decode cX11_node 92 = .ok (.iload_n 1, 1) := by decide +kernel
theorem dX11_node_93 : decode cX11_node 93 = .ok (.aload_n 0, 1) := by decide +kernel
theorem dX11_node_94 : decode cX11_node 94 = .ok (.getfield 7, 3) := by decide +kernel
theorem dX11_node_97 : decode cX11_node 97 = .ok (.iconst 0, 1) := by decide +kernel
theorem dX11_node_98 : decode cX11_node 98 = .ok (.iaload, 1) := by decide +kernel
theorem dX11_node_99 : decode cX11_node 99 = .ok (.iconst 0, 1) := by decide +kernel
theorem dX11_node_100 : decode cX11_node 100 = .ok (.invokestatic 95, 3) := by decide +kernel
theorem dX11_node_103 : decode cX11_node 103 = .ok (.invokevirtual 175, 3) := by decide +kernel
theorem dX11_node_106 : decode cX11_node 106 = .ok (.ireturn, 1) := by decide +kernel
theorem dX11_node_107 : decode cX11_node 107 = .ok (.iconst (-1), 1) := by decide +kernel
theorem dX11_node_108 : decode cX11_node 108 = .ok (.ireturn, 1) := by decide +kernel
theorem dX11_sum_0 : decode cX11_sum 0 = .ok (.aload_n 0, 1) := by decide +kernel
theorem dX11_sum_1 : decode cX11_sum 1 = .ok (.iload_n 1, 1) := by decide +kernel
theorem dX11_sum_2 : decode cX11_sum 2 = .ok (.invokevirtual 165, 3) := by decide +kernel
theorem dX11_sum_5 : decode cX11_sum 5 = .ok (.ifCond .eq 7, 3) := by decide +kernel
theorem dX11_sum_8 : decode cX11_sum 8 = .ok (.iload_n 2, 1) := by decide +kernel
theorem dX11_sum_9 : decode cX11_sum 9 = .ok (.ifCond .ge 5, 3) := by decide +kernel
theorem dX11_sum_12 : decode cX11_sum 12 = .ok (.iconst (-1), 1) := by decide +kernel
theorem dX11_sum_13 : decode cX11_sum 13 = .ok (.ireturn, 1) := by decide +kernel
theorem dX11_sum_14 : decode cX11_sum 14 = .ok (.iload_n 2, 1) := by decide +kernel
theorem dX11_sum_15 : decode cX11_sum 15 = .ok (.aload_n 0, 1) := by decide +kernel
theorem dX11_sum_16 : decode cX11_sum 16 = .ok (.iload_n 1, 1) := by decide +kernel
theorem dX11_sum_17 : decode cX11_sum 17 = .ok (.invokevirtual 120, 3) := by decide +kernel
theorem dX11_sum_20 : decode cX11_sum 20 = .ok (.if_icmp .ge 12, 3) := by decide +kernel
theorem dX11_sum_23 : decode cX11_sum 23 = .ok (.aload_n 0, 1) := by decide +kernel
theorem dX11_sum_24 : decode cX11_sum 24 = .ok (.iload_n 1, 1) := by decide +kernel
theorem dX11_sum_25 : decode cX11_sum 25 = .ok (.iload_n 2, 1) := by decide +kernel
theorem dX11_sum_26 : decode cX11_sum 26 = .ok (.invokevirtual 139, 3) := by decide +kernel
theorem dX11_sum_29 : decode cX11_sum 29 = .ok (.goto 5, 3) := by decide +kernel
theorem dX11_sum_32 : decode cX11_sum 32 = .ok (.bipush (-4), 2) := by decide +kernel
theorem dX11_sum_34 : decode cX11_sum 34 = .ok (.ireturn, 1) := by decide +kernel
theorem dX11_knows_0 : decode cX11_knows 0 = .ok (.aload_n 0, 1) := by decide +kernel
theorem dX11_knows_1 : decode cX11_knows 1 = .ok (.iload_n 1, 1) := by decide +kernel
theorem dX11_knows_2 : decode cX11_knows 2 = .ok (.invokevirtual 165, 3) := by decide +kernel
theorem dX11_knows_5 : decode cX11_knows 5 = .ok (.ifCond .eq 16, 3) := by decide +kernel
theorem dX11_knows_8 : decode cX11_knows 8 = .ok (.iload_n 2, 1) := by decide +kernel
theorem dX11_knows_9 : decode cX11_knows 9 = .ok (.aload_n 0, 1) := by decide +kernel
theorem dX11_knows_10 : decode cX11_knows 10 = .ok (.getfield 7, 3) := by decide +kernel
theorem dX11_knows_13 : decode cX11_knows 13 = .ok (.iconst 1, 1) := by decide +kernel
theorem dX11_knows_14 : decode cX11_knows 14 = .ok (.iaload, 1) := by decide +kernel
theorem dX11_knows_15 : decode cX11_knows 15 = .ok (.invokestatic 169, 3) := by decide +kernel
theorem dX11_knows_18 : decode cX11_knows 18 = .ok (.ifCond .ne 5, 3) := by decide +kernel
theorem dX11_knows_21 : decode cX11_knows 21 = .ok (.iconst (-1), 1) := by decide +kernel
theorem dX11_knows_22 : decode cX11_knows 22 = .ok (.ireturn, 1) := by decide +kernel
theorem dX11_knows_23 : decode cX11_knows 23 = .ok (.aload_n 0, 1) := by decide +kernel
theorem dX11_knows_24 : decode cX11_knows 24 = .ok (.iload_n 1, 1) := by decide +kernel
theorem dX11_knows_25 : decode cX11_knows 25 = .ok (.iload_n 2, 1) := by decide +kernel
theorem dX11_knows_26 : decode cX11_knows 26 = .ok (.invokevirtual 106, 3) := by decide +kernel
theorem dX11_knows_29 : decode cX11_knows 29 = .ok (.ifCond .eq 7, 3) := by decide +kernel
theorem dX11_knows_32 : decode cX11_knows 32 = .ok (.iconst 1, 1) := by decide +kernel
theorem dX11_knows_33 : decode cX11_knows 33 = .ok (.goto 4, 3) := by decide +kernel
theorem dX11_knows_36 : decode cX11_knows 36 = .ok (.iconst 0, 1) := by decide +kernel
theorem dX11_knows_37 : decode cX11_knows 37 = .ok (.ireturn, 1) := by decide +kernel
theorem dX11_sends_0 : decode cX11_sends 0 = .ok (.aload_n 0, 1) := by decide +kernel
theorem dX11_sends_1 : decode cX11_sends 1 = .ok (.iload_n 1, 1) := by decide +kernel
theorem dX11_sends_2 : decode cX11_sends 2 = .ok (.invokevirtual 165, 3) := by decide +kernel
theorem dX11_sends_5 : decode cX11_sends 5 = .ok (.ifCond .ne 5, 3) := by decide +kernel
theorem dX11_sends_8 : decode cX11_sends 8 = .ok (.iconst (-1), 1) := by decide +kernel
theorem dX11_sends_9 : decode cX11_sends 9 = .ok (.ireturn, 1) := by decide +kernel
theorem dX11_sends_10 : decode cX11_sends 10 = .ok (.aload_n 0, 1) := by decide +kernel
theorem dX11_sends_11 : decode cX11_sends 11 = .ok (.invokevirtual 158, 3) := by decide +kernel
theorem dX11_sends_14 : decode cX11_sends 14 = .ok (.aload_n 0, 1) := by decide +kernel
theorem dX11_sends_15 : decode cX11_sends 15 = .ok (.getfield 7, 3) := by decide +kernel
theorem dX11_sends_18 : decode cX11_sends 18 = .ok (.iconst 2, 1) := by decide +kernel
theorem dX11_sends_19 : decode cX11_sends 19 = .ok (.iaload, 1) := by decide +kernel
theorem dX11_sends_20 : decode cX11_sends 20 = .ok (.iconst 2, 1) := by decide +kernel
theorem dX11_sends_21 : decode cX11_sends 21 = .ok (.if_icmp .le 10, 3) := by decide +kernel
theorem dX11_sends_24 : decode cX11_sends 24 = .ok (.aload_n 0, 1) := by decide +kernel
theorem dX11_sends_25 : decode cX11_sends 25 = .ok (.getfield 26, 3) := by decide +kernel
theorem dX11_sends_28 : decode cX11_sends 28 = .ok (.iload_n 1, 1) := by decide +kernel
theorem dX11_sends_29 : decode cX11_sends 29 = .ok (.iaload, 1) := by decide +kernel
theorem dX11_sends_30 : decode cX11_sends 30 = .ok (.ireturn, 1) := by decide +kernel
theorem dX11_sends_31 : decode cX11_sends 31 = .ok (.aload_n 0, 1) := by decide +kernel
theorem dX11_sends_32 : decode cX11_sends 32 = .ok (.getfield 26, 3) := by decide +kernel
theorem dX11_sends_35 : decode cX11_sends 35 = .ok (.iload_n 1, 1) := by decide +kernel
theorem dX11_sends_36 : decode cX11_sends 36 = .ok (.iaload, 1) := by decide +kernel
theorem dX11_sends_37 : decode cX11_sends 37 = .ok (.ifCond .ne 8, 3) := by decide +kernel
theorem dX11_sends_40 : decode cX11_sends 40 = .ok (.bipush (-4), 2) := by decide +kernel
theorem dX11_sends_42 : decode cX11_sends 42 = .ok (.goto 12, 3) := by decide +kernel
theorem dX11_sends_45 : decode cX11_sends 45 = .ok (.aload_n 0, 1) := by decide +kernel
theorem dX11_sends_46 : decode cX11_sends 46 = .ok (.getfield 29, 3) := by decide +kernel
theorem dX11_sends_49 : decode cX11_sends 49 = .ok (.bipush 8, 2) := by decide +kernel
theorem dX11_sends_51 : decode cX11_sends 51 = .ok (.iload_n 1, 1) := by decide +kernel
theorem dX11_sends_52 : decode cX11_sends 52 = .ok (.imul, 1) := by decide +kernel
theorem dX11_sends_53 : decode cX11_sends 53 = .ok (.iaload, 1) := by decide +kernel
theorem dX11_sends_54 : decode cX11_sends 54 = .ok (.ireturn, 1) := by decide +kernel
theorem dX11_linked_0 : decode cX11_linked 0 = .ok (.iload_n 1, 1) := by decide +kernel
theorem dX11_linked_1 : decode cX11_linked 1 = .ok (.ifCond .lt 30, 3) := by decide +kernel
theorem dX11_linked_4 : decode cX11_linked 4 = .ok (.aload_n 0, 1) := by decide +kernel
theorem dX11_linked_5 : decode cX11_linked 5 = .ok (.iload_n 2, 1) := by decide +kernel
theorem dX11_linked_6 : decode cX11_linked 6 = .ok (.invokevirtual 165, 3) := by decide +kernel
theorem dX11_linked_9 : decode cX11_linked 9 = .ok (.ifCond .eq 22, 3) := by decide +kernel
theorem dX11_linked_12 : decode cX11_linked 12 = .ok (.aload_n 0, 1) := by decide +kernel
theorem dX11_linked_13 : decode cX11_linked 13 = .ok (.iload_n 1, 1) := by decide +kernel
theorem dX11_linked_14 : decode cX11_linked 14 = .ok (.invokevirtual 99, 3) := by decide +kernel
theorem dX11_linked_17 : decode cX11_linked 17 = .ok (.iload_n 2, 1) := by decide +kernel
theorem dX11_linked_18 : decode cX11_linked 18 = .ok (.aload_n 0, 1) := by decide +kernel
theorem dX11_linked_19 : decode cX11_linked 19 = .ok (.getfield 7, 3) := by decide +kernel
theorem dX11_linked_22 : decode cX11_linked 22 = .ok (.iconst 0, 1) := by decide +kernel
theorem dX11_linked_23 : decode cX11_linked 23 = .ok (.iaload, 1) := by decide +kernel
theorem dX11_linked_24 : decode cX11_linked 24 = .ok (.iconst 0, 1) := by decide +kernel
theorem dX11_linked_25 : decode cX11_linked 25 = .ok (.invokestatic 95, 3) := by decide +kernel
theorem dX11_linked_28 : decode cX11_linked 28 = .ok (.goto 4, 3) := by decide +kernel
theorem dX11_linked_31 : decode cX11_linked 31 = .ok (.iconst (-1), 1) := by decide +kernel
theorem dX11_linked_32 : decode cX11_linked 32 = .ok (.ireturn, 1) := by decide +kernel
theorem dX11_count_0 : decode cX11_count 0 = .ok (.iload_n 1, 1) := by decide +kernel
theorem dX11_count_1 : decode cX11_count 1 = .ok (.tableswitch 109 0 8 #[51, 58, 65, 72, 79, 86, 94, 99, 104], 51) := by decide +kernel
theorem dX11_count_52 : decode cX11_count 52 = .ok (.aload_n 0, 1) := by decide +kernel
theorem dX11_count_53 : decode cX11_count 53 = .ok (.getfield 7, 3) := by decide +kernel
theorem dX11_count_56 : decode cX11_count 56 = .ok (.iconst 0, 1) := by decide +kernel
theorem dX11_count_57 : decode cX11_count 57 = .ok (.iaload, 1) := by decide +kernel
theorem dX11_count_58 : decode cX11_count 58 = .ok (.ireturn, 1) := by decide +kernel
theorem dX11_count_59 : decode cX11_count 59 = .ok (.aload_n 0, 1) := by decide +kernel
theorem dX11_count_60 : decode cX11_count 60 = .ok (.getfield 7, 3) := by decide +kernel
theorem dX11_count_63 : decode cX11_count 63 = .ok (.iconst 1, 1) := by decide +kernel
theorem dX11_count_64 : decode cX11_count 64 = .ok (.iaload, 1) := by decide +kernel
theorem dX11_count_65 : decode cX11_count 65 = .ok (.ireturn, 1) := by decide +kernel
theorem dX11_count_66 : decode cX11_count 66 = .ok (.aload_n 0, 1) := by decide +kernel
theorem dX11_count_67 : decode cX11_count 67 = .ok (.getfield 7, 3) := by decide +kernel
theorem dX11_count_70 : decode cX11_count 70 = .ok (.iconst 2, 1) := by decide +kernel
theorem dX11_count_71 : decode cX11_count 71 = .ok (.iaload, 1) := by decide +kernel
theorem dX11_count_72 : decode cX11_count 72 = .ok (.ireturn, 1) := by decide +kernel
theorem dX11_count_73 : decode cX11_count 73 = .ok (.aload_n 0, 1) := by decide +kernel
theorem dX11_count_74 : decode cX11_count 74 = .ok (.getfield 7, 3) := by decide +kernel
theorem dX11_count_77 : decode cX11_count 77 = .ok (.iconst 3, 1) := by decide +kernel
theorem dX11_count_78 : decode cX11_count 78 = .ok (.iaload, 1) := by decide +kernel
theorem dX11_count_79 : decode cX11_count 79 = .ok (.ireturn, 1) := by decide +kernel
theorem dX11_count_80 : decode cX11_count 80 = .ok (.aload_n 0, 1) := by decide +kernel
theorem dX11_count_81 : decode cX11_count 81 = .ok (.getfield 7, 3) := by decide +kernel
theorem dX11_count_84 : decode cX11_count 84 = .ok (.iconst 4, 1) := by decide +kernel
theorem dX11_count_85 : decode cX11_count 85 = .ok (.iaload, 1) := by decide +kernel
theorem dX11_count_86 : decode cX11_count 86 = .ok (.ireturn, 1) := by decide +kernel
theorem dX11_count_87 : decode cX11_count 87 = .ok (.aload_n 0, 1) := by decide +kernel
theorem dX11_count_88 : decode cX11_count 88 = .ok (.getfield 7, 3) := by decide +kernel
theorem dX11_count_91 : decode cX11_count 91 = .ok (.bipush 6, 2) := by decide +kernel
theorem dX11_count_93 : decode cX11_count 93 = .ok (.iaload, 1) := by decide +kernel
theorem dX11_count_94 : decode cX11_count 94 = .ok (.ireturn, 1) := by decide +kernel
theorem dX11_count_95 : decode cX11_count 95 = .ok (.aload_n 0, 1) := by decide +kernel
theorem dX11_count_96 : decode cX11_count 96 = .ok (.invokevirtual 178, 3) := by decide +kernel
theorem dX11_count_99 : decode cX11_count 99 = .ok (.ireturn, 1) := by decide +kernel
theorem dX11_count_100 : decode cX11_count 100 = .ok (.aload_n 0, 1) := by decide +kernel
theorem dX11_count_101 : decode cX11_count 101 = .ok (.invokevirtual 181, 3) := by decide +kernel
theorem dX11_count_104 : decode cX11_count 104 = .ok (.ireturn, 1) := by decide +kernel
theorem dX11_count_105 : decode cX11_count 105 = .ok (.aload_n 0, 1) := by decide +kernel
theorem dX11_count_106 : decode cX11_count 106 = .ok (.getfield 74, 3) := by decide +kernel
theorem dX11_count_109 : decode cX11_count 109 = .ok (.ireturn, 1) := by decide +kernel
theorem dX11_count_110 : decode cX11_count 110 = .ok (.iconst (-1), 1) := by decide +kernel
theorem dX11_count_111 : decode cX11_count 111 = .ok (.ireturn, 1) := by decide +kernel
theorem dX11_go_0 : decode cX11_go 0 = .ok (.iload_n 1, 1) := by decide +kernel
theorem dX11_go_1 : decode cX11_go 1 = .ok (.i2l, 1) := by decide +kernel
theorem dX11_go_2 : decode cX11_go 2 = .ok (.lconst 1, 1) := by decide +kernel
theorem dX11_go_3 : decode cX11_go 3 = .ok (.ldc2_w 184, 3) := by decide +kernel
theorem dX11_go_6 : decode cX11_go 6 = .ok (.invokestatic 116, 3) := by decide +kernel
theorem dX11_go_9 : decode cX11_go 9 = .ok (.ifCond .ne 5, 3) := by decide +kernel
theorem dX11_go_12 : decode cX11_go 12 = .ok (.iconst (-1), 1) := by decide +kernel
theorem dX11_go_13 : decode cX11_go 13 = .ok (.ireturn, 1) := by decide +kernel
theorem dX11_go_14 : decode cX11_go 14 = .ok (.aload_n 0, 1) := by decide +kernel
theorem dX11_go_15 : decode cX11_go 15 = .ok (.invokevirtual 181, 3) := by decide +kernel
theorem dX11_go_18 : decode cX11_go 18 = .ok (.aload_n 0, 1) := by decide +kernel
theorem dX11_go_19 : decode cX11_go 19 = .ok (.getfield 7, 3) := by decide +kernel
theorem dX11_go_22 : decode cX11_go 22 = .ok (.iconst 0, 1) := by decide +kernel
theorem dX11_go_23 : decode cX11_go 23 = .ok (.iaload, 1) := by decide +kernel
theorem dX11_go_24 : decode cX11_go 24 = .ok (.if_icmp .ne 6, 3) := by decide +kernel
theorem dX11_go_27 : decode cX11_go 27 = .ok (.bipush (-2), 2) := by decide +kernel
theorem dX11_go_29 : decode cX11_go 29 = .ok (.ireturn, 1) := by decide +kernel
theorem dX11_go_30 : decode cX11_go 30 = .ok (.aload_n 0, 1) := by decide +kernel
theorem dX11_go_31 : decode cX11_go 31 = .ok (.invokevirtual 172, 3) := by decide +kernel
theorem dX11_go_34 : decode cX11_go 34 = .ok (.iconst 0, 1) := by decide +kernel
theorem dX11_go_35 : decode cX11_go 35 = .ok (.istore_n 2, 1) := by decide +kernel
theorem dX11_go_36 : decode cX11_go 36 = .ok (.iload_n 2, 1) := by decide +kernel
theorem dX11_go_37 : decode cX11_go 37 = .ok (.iload_n 1, 1) := by decide +kernel
theorem dX11_go_38 : decode cX11_go 38 = .ok (.if_icmp .ge 26, 3) := by decide +kernel
theorem dX11_go_41 : decode cX11_go 41 = .ok (.aload_n 0, 1) := by decide +kernel
theorem dX11_go_42 : decode cX11_go 42 = .ok (.invokevirtual 181, 3) := by decide +kernel
theorem dX11_go_45 : decode cX11_go 45 = .ok (.aload_n 0, 1) := by decide +kernel
theorem dX11_go_46 : decode cX11_go 46 = .ok (.getfield 7, 3) := by decide +kernel
theorem dX11_go_49 : decode cX11_go 49 = .ok (.iconst 0, 1) := by decide +kernel
theorem dX11_go_50 : decode cX11_go 50 = .ok (.iaload, 1) := by decide +kernel
theorem dX11_go_51 : decode cX11_go 51 = .ok (.if_icmp .ge 13, 3) := by decide +kernel
theorem dX11_go_54 : decode cX11_go 54 = .ok (.aload_n 0, 1) := by decide +kernel
theorem dX11_go_55 : decode cX11_go 55 = .ok (.invokevirtual 186, 3) := by decide +kernel
theorem dX11_go_58 : decode cX11_go 58 = .ok (.iinc 2 1, 3) := by decide +kernel
theorem dX11_go_61 : decode cX11_go 61 = .ok (.goto (-25), 3) := by decide +kernel
theorem dX11_go_64 : decode cX11_go 64 = .ok (.iload_n 2, 1) := by decide +kernel
theorem dX11_go_65 : decode cX11_go 65 = .ok (.ireturn, 1) := by decide +kernel
theorem dX11_worst_0 : decode cX11_worst 0 = .ok (.aload_n 0, 1) := by decide +kernel
theorem dX11_worst_1 : decode cX11_worst 1 = .ok (.getfield 7, 3) := by decide +kernel
theorem dX11_worst_4 : decode cX11_worst 4 = .ok (.iconst 0, 1) := by decide +kernel
theorem dX11_worst_5 : decode cX11_worst 5 = .ok (.iaload, 1) := by decide +kernel
theorem dX11_worst_6 : decode cX11_worst 6 = .ok (.istore_n 1, 1) := by decide +kernel
theorem dX11_worst_7 : decode cX11_worst 7 = .ok (.iconst 0, 1) := by decide +kernel
theorem dX11_worst_8 : decode cX11_worst 8 = .ok (.istore_n 2, 1) := by decide +kernel
theorem dX11_worst_9 : decode cX11_worst 9 = .ok (.iload_n 2, 1) := by decide +kernel
theorem dX11_worst_10 : decode cX11_worst 10 = .ok (.iload_n 1, 1) := by decide +kernel
theorem dX11_worst_11 : decode cX11_worst 11 = .ok (.if_icmp .ge 53, 3) := by decide +kernel
theorem dX11_worst_14 : decode cX11_worst 14 = .ok (.iconst 0, 1) := by decide +kernel
theorem dX11_worst_15 : decode cX11_worst 15 = .ok (.istore_n 3, 1) := by decide +kernel
theorem dX11_worst_16 : decode cX11_worst 16 = .ok (.iload_n 3, 1) := by decide +kernel
theorem dX11_worst_17 : decode cX11_worst 17 = .ok (.iconst 1, 1) := by decide +kernel
theorem dX11_worst_18 : decode cX11_worst 18 = .ok (.iload_n 1, 1) := by decide +kernel
theorem dX11_worst_19 : decode cX11_worst 19 = .ok (.ishl, 1) := by decide +kernel
theorem dX11_worst_20 : decode cX11_worst 20 = .ok (.if_icmp .ge 38, 3) := by decide +kernel
theorem dX11_worst_23 : decode cX11_worst 23 = .ok (.aload_n 0, 1) := by decide +kernel
theorem dX11_worst_24 : decode cX11_worst 24 = .ok (.getfield 35, 3) := by decide +kernel
theorem dX11_worst_27 : decode cX11_worst 27 = .ok (.bipush 64, 2) := by decide +kernel
theorem dX11_worst_29 : decode cX11_worst 29 = .ok (.iload_n 2, 1) := by decide +kernel
theorem dX11_worst_30 : decode cX11_worst 30 = .ok (.imul, 1) := by decide +kernel
theorem dX11_worst_31 : decode cX11_worst 31 = .ok (.iload_n 3, 1) := by decide +kernel
theorem dX11_worst_32 : decode cX11_worst 32 = .ok (.iadd, 1) := by decide +kernel
theorem dX11_worst_33 : decode cX11_worst 33 = .ok (.iload_n 3, 1) := by decide +kernel
theorem dX11_worst_34 : decode cX11_worst 34 = .ok (.iload_n 2, 1) := by decide +kernel
theorem dX11_worst_35 : decode cX11_worst 35 = .ok (.invokestatic 91, 3) := by decide +kernel
theorem dX11_worst_38 : decode cX11_worst 38 = .ok (.ifCond .eq 7, 3) := by decide +kernel
theorem dX11_worst_41 : decode cX11_worst 41 = .ok (.iconst 0, 1) := by decide +kernel
theorem dX11_worst_42 : decode cX11_worst 42 = .ok (.goto 9, 3) := by decide +kernel
theorem dX11_worst_45 : decode cX11_worst 45 = .ok (.aload_n 0, 1) := by decide +kernel
theorem dX11_worst_46 : decode cX11_worst 46 = .ok (.iload_n 2, 1) := by decide +kernel
theorem dX11_worst_47 : decode cX11_worst 47 = .ok (.iload_n 3, 1) := by decide +kernel
theorem dX11_worst_48 : decode cX11_worst 48 = .ok (.invokevirtual 175, 3) := by decide +kernel
theorem dX11_worst_51 : decode cX11_worst 51 = .ok (.iastore, 1) := by decide +kernel
theorem dX11_worst_52 : decode cX11_worst 52 = .ok (.iinc 3 1, 3) := by decide +kernel
theorem dX11_worst_55 : decode cX11_worst 55 = .ok (.goto (-39), 3) := by decide +kernel
theorem dX11_worst_58 : decode cX11_worst 58 = .ok (.iinc 2 1, 3) := by decide +kernel
theorem dX11_worst_61 : decode cX11_worst 61 = .ok (.goto (-52), 3) := by decide +kernel
theorem dX11_worst_64 : decode cX11_worst 64 = .ok (.iconst (-1), 1) := by decide +kernel
theorem dX11_worst_65 : decode cX11_worst 65 = .ok (.istore_n 2, 1) := by decide +kernel
theorem dX11_worst_66 : decode cX11_worst 66 = .ok (.iconst 0, 1) := by decide +kernel
theorem dX11_worst_67 : decode cX11_worst 67 = .ok (.istore_n 3, 1) := by decide +kernel
theorem dX11_worst_68 : decode cX11_worst 68 = .ok (.iload_n 3, 1) := by decide +kernel
theorem dX11_worst_69 : decode cX11_worst 69 = .ok (.iconst 1, 1) := by decide +kernel
theorem dX11_worst_70 : decode cX11_worst 70 = .ok (.iload_n 1, 1) := by decide +kernel
theorem dX11_worst_71 : decode cX11_worst 71 = .ok (.iload_n 1, 1) := by decide +kernel
theorem dX11_worst_72 : decode cX11_worst 72 = .ok (.iconst 1, 1) := by decide +kernel
theorem dX11_worst_73 : decode cX11_worst 73 = .ok (.isub, 1) := by decide +kernel
theorem dX11_worst_74 : decode cX11_worst 74 = .ok (.imul, 1) := by decide +kernel
theorem dX11_worst_75 : decode cX11_worst 75 = .ok (.iconst 2, 1) := by decide +kernel
theorem dX11_worst_76 : decode cX11_worst 76 = .ok (.idiv, 1) := by decide +kernel
theorem dX11_worst_77 : decode cX11_worst 77 = .ok (.ishl, 1) := by decide +kernel
theorem dX11_worst_78 : decode cX11_worst 78 = .ok (.if_icmp .ge 76, 3) := by decide +kernel
theorem dX11_worst_81 : decode cX11_worst 81 = .ok (.iconst 0, 1) := by decide +kernel
theorem dX11_worst_82 : decode cX11_worst 82 = .ok (.istore 4, 2) := by decide +kernel
theorem dX11_worst_84 : decode cX11_worst 84 = .ok (.iconst 0, 1) := by decide +kernel
theorem dX11_worst_85 : decode cX11_worst 85 = .ok (.istore 5, 2) := by decide +kernel
theorem dX11_worst_87 : decode cX11_worst 87 = .ok (.iload 5, 2) := by decide +kernel
theorem dX11_worst_89 : decode cX11_worst 89 = .ok (.iload_n 1, 1) := by decide +kernel
theorem dX11_worst_90 : decode cX11_worst 90 = .ok (.if_icmp .ge 33, 3) := by decide +kernel
theorem dX11_worst_93 : decode cX11_worst 93 = .ok (.iload 4, 2) := by decide +kernel
theorem dX11_worst_95 : decode cX11_worst 95 = .ok (.aload_n 0, 1) := by decide +kernel
theorem dX11_worst_96 : decode cX11_worst 96 = .ok (.getfield 35, 3) := by decide +kernel
theorem dX11_worst_99 : decode cX11_worst 99 = .ok (.bipush 64, 2) := by decide +kernel
theorem dX11_worst_101 : decode cX11_worst 101 = .ok (.iload 5, 2) := by decide +kernel
theorem dX11_worst_103 : decode cX11_worst 103 = .ok (.imul, 1) := by decide +kernel
theorem dX11_worst_104 : decode cX11_worst 104 = .ok (.iload_n 3, 1) := by decide +kernel
theorem dX11_worst_105 : decode cX11_worst 105 = .ok (.iload 5, 2) := by decide +kernel
theorem dX11_worst_107 : decode cX11_worst 107 = .ok (.iload_n 1, 1) := by decide +kernel
theorem dX11_worst_108 : decode cX11_worst 108 = .ok (.iconst 0, 1) := by decide +kernel
theorem dX11_worst_109 : decode cX11_worst 109 = .ok (.invokestatic 95, 3) := by decide +kernel
theorem dX11_worst_112 : decode cX11_worst 112 = .ok (.iadd, 1) := by decide +kernel
theorem dX11_worst_113 : decode cX11_worst 113 = .ok (.iaload, 1) := by decide +kernel
theorem dX11_worst_114 : decode cX11_worst 114 = .ok (.iadd, 1) := by decide +kernel
theorem dX11_worst_115 : decode cX11_worst 115 = .ok (.istore 4, 2) := by decide +kernel
theorem dX11_worst_117 : decode cX11_worst 117 = .ok (.iinc 5 1, 3) := by decide +kernel
theorem dX11_worst_120 : decode cX11_worst 120 = .ok (.goto (-33), 3) := by decide +kernel
theorem dX11_worst_123 : decode cX11_worst 123 = .ok (.iload_n 2, 1) := by decide +kernel
theorem dX11_worst_124 : decode cX11_worst 124 = .ok (.ifCond .lt 9, 3) := by decide +kernel
theorem dX11_worst_127 : decode cX11_worst 127 = .ok (.iload 4, 2) := by decide +kernel
theorem dX11_worst_129 : decode cX11_worst 129 = .ok (.iload_n 2, 1) := by decide +kernel
theorem dX11_worst_130 : decode cX11_worst 130 = .ok (.if_icmp .ge 16, 3) := by decide +kernel
theorem dX11_worst_133 : decode cX11_worst 133 = .ok (.aload_n 0, 1) := by decide +kernel
theorem dX11_worst_134 : decode cX11_worst 134 = .ok (.iload_n 3, 1) := by decide +kernel
theorem dX11_worst_135 : decode cX11_worst 135 = .ok (.invokevirtual 189, 3) := by decide +kernel
theorem dX11_worst_138 : decode cX11_worst 138 = .ok (.ifCond .eq 8, 3) := by decide +kernel
theorem dX11_worst_141 : decode cX11_worst 141 = .ok (.iload 4, 2) := by decide +kernel
theorem dX11_worst_143 : decode cX11_worst 143 = .ok (.goto 4, 3) := by decide +kernel
theorem dX11_worst_146 : decode cX11_worst 146 = .ok (.iload_n 2, 1) := by decide +kernel
theorem dX11_worst_147 : decode cX11_worst 147 = .ok (.istore_n 2, 1) := by decide +kernel
theorem dX11_worst_148 : decode cX11_worst 148 = .ok (.iinc 3 1, 3) := by decide +kernel
theorem dX11_worst_151 : decode cX11_worst 151 = .ok (.goto (-83), 3) := by decide +kernel
theorem dX11_worst_154 : decode cX11_worst 154 = .ok (.iload_n 2, 1) := by decide +kernel
theorem dX11_worst_155 : decode cX11_worst 155 = .ok (.ireturn, 1) := by decide +kernel
theorem dX11_gain_0 : decode cX11_gain 0 = .ok (.iload_n 1, 1) := by decide +kernel
theorem dX11_gain_1 : decode cX11_gain 1 = .ok (.i2l, 1) := by decide +kernel
theorem dX11_gain_2 : decode cX11_gain 2 = .ok (.lconst 0, 1) := by decide +kernel
theorem dX11_gain_3 : decode cX11_gain 3 = .ok (.ldc2_w 192, 3) := by decide +kernel
theorem dX11_gain_6 : decode cX11_gain 6 = .ok (.invokestatic 116, 3) := by decide +kernel
theorem dX11_gain_9 : decode cX11_gain 9 = .ok (.ifCond .ne 5, 3) := by decide +kernel
theorem dX11_gain_12 : decode cX11_gain 12 = .ok (.iconst (-1), 1) := by decide +kernel
theorem dX11_gain_13 : decode cX11_gain 13 = .ok (.ireturn, 1) := by decide +kernel
theorem dX11_gain_14 : decode cX11_gain 14 = .ok (.aload_n 0, 1) := by decide +kernel
theorem dX11_gain_15 : decode cX11_gain 15 = .ok (.invokevirtual 158, 3) := by decide +kernel
theorem dX11_gain_18 : decode cX11_gain 18 = .ok (.iload_n 1, 1) := by decide +kernel
theorem dX11_gain_19 : decode cX11_gain 19 = .ok (.iconst 1, 1) := by decide +kernel
theorem dX11_gain_20 : decode cX11_gain 20 = .ok (.if_icmp .ne 8, 3) := by decide +kernel
theorem dX11_gain_23 : decode cX11_gain 23 = .ok (.aload_n 0, 1) := by decide +kernel
theorem dX11_gain_24 : decode cX11_gain 24 = .ok (.invokevirtual 194, 3) := by decide +kernel
theorem dX11_gain_27 : decode cX11_gain 27 = .ok (.ireturn, 1) := by decide +kernel
theorem dX11_gain_28 : decode cX11_gain 28 = .ok (.iconst 0, 1) := by decide +kernel
theorem dX11_gain_29 : decode cX11_gain 29 = .ok (.istore_n 2, 1) := by decide +kernel
theorem dX11_gain_30 : decode cX11_gain 30 = .ok (.iconst 0, 1) := by decide +kernel
theorem dX11_gain_31 : decode cX11_gain 31 = .ok (.istore_n 3, 1) := by decide +kernel
theorem dX11_gain_32 : decode cX11_gain 32 = .ok (.iload_n 3, 1) := by decide +kernel
theorem dX11_gain_33 : decode cX11_gain 33 = .ok (.aload_n 0, 1) := by decide +kernel
theorem dX11_gain_34 : decode cX11_gain 34 = .ok (.getfield 7, 3) := by decide +kernel
theorem dX11_gain_37 : decode cX11_gain 37 = .ok (.iconst 0, 1) := by decide +kernel
theorem dX11_gain_38 : decode cX11_gain 38 = .ok (.iaload, 1) := by decide +kernel
theorem dX11_gain_39 : decode cX11_gain 39 = .ok (.if_icmp .ge 41, 3) := by decide +kernel
theorem dX11_gain_42 : decode cX11_gain 42 = .ok (.iload_n 2, 1) := by decide +kernel
theorem dX11_gain_43 : decode cX11_gain 43 = .ok (.aload_n 0, 1) := by decide +kernel
theorem dX11_gain_44 : decode cX11_gain 44 = .ok (.iload_n 3, 1) := by decide +kernel
theorem dX11_gain_45 : decode cX11_gain 45 = .ok (.aload_n 0, 1) := by decide +kernel
theorem dX11_gain_46 : decode cX11_gain 46 = .ok (.invokevirtual 161, 3) := by decide +kernel
theorem dX11_gain_49 : decode cX11_gain 49 = .ok (.iload_n 3, 1) := by decide +kernel
theorem dX11_gain_50 : decode cX11_gain 50 = .ok (.aload_n 0, 1) := by decide +kernel
theorem dX11_gain_51 : decode cX11_gain 51 = .ok (.getfield 7, 3) := by decide +kernel
theorem dX11_gain_54 : decode cX11_gain 54 = .ok (.iconst 0, 1) := by decide +kernel
theorem dX11_gain_55 : decode cX11_gain 55 = .ok (.iaload, 1) := by decide +kernel
theorem dX11_gain_56 : decode cX11_gain 56 = .ok (.iload_n 1, 1) := by decide +kernel
theorem dX11_gain_57 : decode cX11_gain 57 = .ok (.iconst 2, 1) := by decide +kernel
theorem dX11_gain_58 : decode cX11_gain 58 = .ok (.if_icmp .ne 7, 3) := by decide +kernel
theorem dX11_gain_61 : decode cX11_gain 61 = .ok (.iconst 1, 1) := by decide +kernel
theorem dX11_gain_62 : decode cX11_gain 62 = .ok (.goto 4, 3) := by decide +kernel
theorem dX11_gain_65 : decode cX11_gain 65 = .ok (.iconst 0, 1) := by decide +kernel
theorem dX11_gain_66 : decode cX11_gain 66 = .ok (.invokestatic 95, 3) := by decide +kernel
theorem dX11_gain_69 : decode cX11_gain 69 = .ok (.invokevirtual 175, 3) := by decide +kernel
theorem dX11_gain_72 : decode cX11_gain 72 = .ok (.iadd, 1) := by decide +kernel
theorem dX11_gain_73 : decode cX11_gain 73 = .ok (.istore_n 2, 1) := by decide +kernel
theorem dX11_gain_74 : decode cX11_gain 74 = .ok (.iinc 3 1, 3) := by decide +kernel
theorem dX11_gain_77 : decode cX11_gain 77 = .ok (.goto (-45), 3) := by decide +kernel
theorem dX11_gain_80 : decode cX11_gain 80 = .ok (.iload_n 2, 1) := by decide +kernel
theorem dX11_gain_81 : decode cX11_gain 81 = .ok (.ireturn, 1) := by decide +kernel
theorem dX11_foreseen_0 : decode cX11_foreseen 0 = .ok (.aload_n 0, 1) := by decide +kernel
theorem dX11_foreseen_1 : decode cX11_foreseen 1 = .ok (.getfield 7, 3) := by decide +kernel
theorem dX11_foreseen_4 : decode cX11_foreseen 4 = .ok (.iconst 0, 1) := by decide +kernel
theorem dX11_foreseen_5 : decode cX11_foreseen 5 = .ok (.aload_n 0, 1) := by decide +kernel
theorem dX11_foreseen_6 : decode cX11_foreseen 6 = .ok (.getfield 19, 3) := by decide +kernel
theorem dX11_foreseen_9 : decode cX11_foreseen 9 = .ok (.iconst 0, 1) := by decide +kernel
theorem dX11_foreseen_10 : decode cX11_foreseen 10 = .ok (.bipush 69, 2) := by decide +kernel
theorem dX11_foreseen_12 : decode cX11_foreseen 12 = .ok (.invokestatic 70, 3) := by decide +kernel
theorem dX11_foreseen_15 : decode cX11_foreseen 15 = .ok (.iconst 0, 1) := by decide +kernel
theorem dX11_foreseen_16 : decode cX11_foreseen 16 = .ok (.istore_n 1, 1) := by decide +kernel
theorem dX11_foreseen_17 : decode cX11_foreseen 17 = .ok (.iload_n 1, 1) := by decide +kernel
theorem dX11_foreseen_18 : decode cX11_foreseen 18 = .ok (.bipush 60, 2) := by decide +kernel
theorem dX11_foreseen_20 : decode cX11_foreseen 20 = .ok (.if_icmp .ge 26, 3) := by decide +kernel
theorem dX11_foreseen_23 : decode cX11_foreseen 23 = .ok (.aload_n 0, 1) := by decide +kernel
theorem dX11_foreseen_24 : decode cX11_foreseen 24 = .ok (.invokevirtual 181, 3) := by decide +kernel
theorem dX11_foreseen_27 : decode cX11_foreseen 27 = .ok (.aload_n 0, 1) := by decide +kernel
theorem dX11_foreseen_28 : decode cX11_foreseen 28 = .ok (.getfield 7, 3) := by decide +kernel
theorem dX11_foreseen_31 : decode cX11_foreseen 31 = .ok (.iconst 0, 1) := by decide +kernel
theorem dX11_foreseen_32 : decode cX11_foreseen 32 = .ok (.iaload, 1) := by decide +kernel
theorem dX11_foreseen_33 : decode cX11_foreseen 33 = .ok (.if_icmp .ge 13, 3) := by decide +kernel
theorem dX11_foreseen_36 : decode cX11_foreseen 36 = .ok (.aload_n 0, 1) := by decide +kernel
theorem dX11_foreseen_37 : decode cX11_foreseen 37 = .ok (.invokevirtual 186, 3) := by decide +kernel
theorem dX11_foreseen_40 : decode cX11_foreseen 40 = .ok (.iinc 1 1, 3) := by decide +kernel
theorem dX11_foreseen_43 : decode cX11_foreseen 43 = .ok (.goto (-26), 3) := by decide +kernel
theorem dX11_foreseen_46 : decode cX11_foreseen 46 = .ok (.aload_n 0, 1) := by decide +kernel
theorem dX11_foreseen_47 : decode cX11_foreseen 47 = .ok (.invokevirtual 181, 3) := by decide +kernel
theorem dX11_foreseen_50 : decode cX11_foreseen 50 = .ok (.aload_n 0, 1) := by decide +kernel
theorem dX11_foreseen_51 : decode cX11_foreseen 51 = .ok (.getfield 7, 3) := by decide +kernel
theorem dX11_foreseen_54 : decode cX11_foreseen 54 = .ok (.iconst 0, 1) := by decide +kernel
theorem dX11_foreseen_55 : decode cX11_foreseen 55 = .ok (.iaload, 1) := by decide +kernel
theorem dX11_foreseen_56 : decode cX11_foreseen 56 = .ok (.if_icmp .ne 7, 3) := by decide +kernel
theorem dX11_foreseen_59 : decode cX11_foreseen 59 = .ok (.iconst 1, 1) := by decide +kernel
theorem dX11_foreseen_60 : decode cX11_foreseen 60 = .ok (.goto 4, 3) := by decide +kernel
theorem dX11_foreseen_63 : decode cX11_foreseen 63 = .ok (.iconst 0, 1) := by decide +kernel
theorem dX11_foreseen_64 : decode cX11_foreseen 64 = .ok (.istore_n 2, 1) := by decide +kernel
theorem dX11_foreseen_65 : decode cX11_foreseen 65 = .ok (.aload_n 0, 1) := by decide +kernel
theorem dX11_foreseen_66 : decode cX11_foreseen 66 = .ok (.getfield 19, 3) := by decide +kernel
theorem dX11_foreseen_69 : decode cX11_foreseen 69 = .ok (.iconst 0, 1) := by decide +kernel
theorem dX11_foreseen_70 : decode cX11_foreseen 70 = .ok (.aload_n 0, 1) := by decide +kernel
theorem dX11_foreseen_71 : decode cX11_foreseen 71 = .ok (.getfield 7, 3) := by decide +kernel
theorem dX11_foreseen_74 : decode cX11_foreseen 74 = .ok (.iconst 0, 1) := by decide +kernel
theorem dX11_foreseen_75 : decode cX11_foreseen 75 = .ok (.bipush 69, 2) := by decide +kernel
theorem dX11_foreseen_77 : decode cX11_foreseen 77 = .ok (.invokestatic 70, 3) := by decide +kernel
theorem dX11_foreseen_80 : decode cX11_foreseen 80 = .ok (.iload_n 2, 1) := by decide +kernel
theorem dX11_foreseen_81 : decode cX11_foreseen 81 = .ok (.ifCond .eq 7, 3) := by decide +kernel
theorem dX11_foreseen_84 : decode cX11_foreseen 84 = .ok (.iload_n 1, 1) := by decide +kernel
theorem dX11_foreseen_85 : decode cX11_foreseen 85 = .ok (.goto 5, 3) := by decide +kernel
theorem dX11_foreseen_88 : decode cX11_foreseen 88 = .ok (.bipush (-4), 2) := by decide +kernel
theorem dX11_foreseen_90 : decode cX11_foreseen 90 = .ok (.ireturn, 1) := by decide +kernel
theorem dX11_areAlike_0 : decode cX11_areAlike 0 = .ok (.aload_n 0, 1) := by decide +kernel
theorem dX11_areAlike_1 : decode cX11_areAlike 1 = .ok (.getfield 7, 3) := by decide +kernel
theorem dX11_areAlike_4 : decode cX11_areAlike 4 = .ok (.iconst 0, 1) := by decide +kernel
theorem dX11_areAlike_5 : decode cX11_areAlike 5 = .ok (.iaload, 1) := by decide +kernel
theorem dX11_areAlike_6 : decode cX11_areAlike 6 = .ok (.istore 4, 2) := by decide +kernel
theorem dX11_areAlike_8 : decode cX11_areAlike 8 = .ok (.aload_n 0, 1) := by decide +kernel
theorem dX11_areAlike_9 : decode cX11_areAlike 9 = .ok (.getfield 38, 3) := by decide +kernel
theorem dX11_areAlike_12 : decode cX11_areAlike 12 = .ok (.iload_n 1, 1) := by decide +kernel
theorem dX11_areAlike_13 : decode cX11_areAlike 13 = .ok (.iaload, 1) := by decide +kernel
theorem dX11_areAlike_14 : decode cX11_areAlike 14 = .ok (.aload_n 0, 1) := by decide +kernel
theorem dX11_areAlike_15 : decode cX11_areAlike 15 = .ok (.getfield 38, 3) := by decide +kernel
theorem dX11_areAlike_18 : decode cX11_areAlike 18 = .ok (.iload_n 2, 1) := by decide +kernel
theorem dX11_areAlike_19 : decode cX11_areAlike 19 = .ok (.iaload, 1) := by decide +kernel
theorem dX11_areAlike_20 : decode cX11_areAlike 20 = .ok (.if_icmp .ne 7, 3) := by decide +kernel
theorem dX11_areAlike_23 : decode cX11_areAlike 23 = .ok (.iconst 1, 1) := by decide +kernel
theorem dX11_areAlike_24 : decode cX11_areAlike 24 = .ok (.goto 4, 3) := by decide +kernel
theorem dX11_areAlike_27 : decode cX11_areAlike 27 = .ok (.iconst 0, 1) := by decide +kernel
theorem dX11_areAlike_28 : decode cX11_areAlike 28 = .ok (.istore 5, 2) := by decide +kernel
theorem dX11_areAlike_30 : decode cX11_areAlike 30 = .ok (.iconst 0, 1) := by decide +kernel
theorem dX11_areAlike_31 : decode cX11_areAlike 31 = .ok (.istore 6, 2) := by decide +kernel
theorem dX11_areAlike_33 : decode cX11_areAlike 33 = .ok (.iload 6, 2) := by decide +kernel
theorem dX11_areAlike_35 : decode cX11_areAlike 35 = .ok (.iload 4, 2) := by decide +kernel
theorem dX11_areAlike_37 : decode cX11_areAlike 37 = .ok (.if_icmp .ge 132, 3) := by decide +kernel
theorem dX11_areAlike_40 : decode cX11_areAlike 40 = .ok (.iconst 0, 1) := by decide +kernel
theorem dX11_areAlike_41 : decode cX11_areAlike 41 = .ok (.istore 7, 2) := by decide +kernel
theorem dX11_areAlike_43 : decode cX11_areAlike 43 = .ok (.iconst 0, 1) := by decide +kernel
theorem dX11_areAlike_44 : decode cX11_areAlike 44 = .ok (.istore 8, 2) := by decide +kernel
theorem dX11_areAlike_46 : decode cX11_areAlike 46 = .ok (.iconst 0, 1) := by decide +kernel
theorem dX11_areAlike_47 : decode cX11_areAlike 47 = .ok (.istore 9, 2) := by decide +kernel
theorem dX11_areAlike_49 : decode cX11_areAlike 49 = .ok (.iload 9, 2) := by decide +kernel
theorem dX11_areAlike_51 : decode cX11_areAlike 51 = .ok (.iload 4, 2) := by decide +kernel
theorem dX11_areAlike_53 : decode cX11_areAlike 53 = .ok (.if_icmp .ge 91, 3) := by decide +kernel
theorem dX11_areAlike_56 : decode cX11_areAlike 56 = .ok (.iload 7, 2) := by decide +kernel
theorem dX11_areAlike_58 : decode cX11_areAlike 58 = .ok (.aload_n 0, 1) := by decide +kernel
theorem dX11_areAlike_59 : decode cX11_areAlike 59 = .ok (.getfield 38, 3) := by decide +kernel
theorem dX11_areAlike_62 : decode cX11_areAlike 62 = .ok (.iload 9, 2) := by decide +kernel
theorem dX11_areAlike_64 : decode cX11_areAlike 64 = .ok (.iaload, 1) := by decide +kernel
theorem dX11_areAlike_65 : decode cX11_areAlike 65 = .ok (.iload 6, 2) := by decide +kernel
theorem dX11_areAlike_67 : decode cX11_areAlike 67 = .ok (.if_icmp .ne 26, 3) := by decide +kernel
theorem dX11_areAlike_70 : decode cX11_areAlike 70 = .ok (.iload 9, 2) := by decide +kernel
theorem dX11_areAlike_72 : decode cX11_areAlike 72 = .ok (.iload_n 1, 1) := by decide +kernel
theorem dX11_areAlike_73 : decode cX11_areAlike 73 = .ok (.if_icmp .eq 20, 3) := by decide +kernel
theorem dX11_areAlike_76 : decode cX11_areAlike 76 = .ok (.iload_n 3, 1) := by decide +kernel
theorem dX11_areAlike_77 : decode cX11_areAlike 77 = .ok (.iload_n 1, 1) := by decide +kernel
theorem dX11_areAlike_78 : decode cX11_areAlike 78 = .ok (.iload 9, 2) := by decide +kernel
theorem dX11_areAlike_80 : decode cX11_areAlike 80 = .ok (.invokestatic 87, 3) := by decide +kernel
theorem dX11_areAlike_83 : decode cX11_areAlike 83 = .ok (.invokestatic 91, 3) := by decide +kernel
theorem dX11_areAlike_86 : decode cX11_areAlike 86 = .ok (.ifCond .eq 7, 3) := by decide +kernel
theorem dX11_areAlike_89 : decode cX11_areAlike 89 = .ok (.iconst 1, 1) := by decide +kernel
theorem dX11_areAlike_90 : decode cX11_areAlike 90 = .ok (.goto 4, 3) := by decide +kernel
theorem dX11_areAlike_93 : decode cX11_areAlike 93 = .ok (.iconst 0, 1) := by decide +kernel
theorem dX11_areAlike_94 : decode cX11_areAlike 94 = .ok (.iadd, 1) := by decide +kernel
theorem dX11_areAlike_95 : decode cX11_areAlike 95 = .ok (.istore 7, 2) := by decide +kernel
theorem dX11_areAlike_97 : decode cX11_areAlike 97 = .ok (.iload 8, 2) := by decide +kernel
theorem dX11_areAlike_99 : decode cX11_areAlike 99 = .ok (.aload_n 0, 1) := by decide +kernel
theorem dX11_areAlike_100 : decode cX11_areAlike 100 = .ok (.getfield 38, 3) := by decide +kernel
theorem dX11_areAlike_103 : decode cX11_areAlike 103 = .ok (.iload 9, 2) := by decide +kernel
theorem dX11_areAlike_105 : decode cX11_areAlike 105 = .ok (.iaload, 1) := by decide +kernel
theorem dX11_areAlike_106 : decode cX11_areAlike 106 = .ok (.iload 6, 2) := by decide +kernel
theorem dX11_areAlike_108 : decode cX11_areAlike 108 = .ok (.if_icmp .ne 26, 3) := by decide +kernel
theorem dX11_areAlike_111 : decode cX11_areAlike 111 = .ok (.iload 9, 2) := by decide +kernel
theorem dX11_areAlike_113 : decode cX11_areAlike 113 = .ok (.iload_n 2, 1) := by decide +kernel
theorem dX11_areAlike_114 : decode cX11_areAlike 114 = .ok (.if_icmp .eq 20, 3) := by decide +kernel
theorem dX11_areAlike_117 : decode cX11_areAlike 117 = .ok (.iload_n 3, 1) := by decide +kernel
theorem dX11_areAlike_118 : decode cX11_areAlike 118 = .ok (.iload_n 2, 1) := by decide +kernel
theorem dX11_areAlike_119 : decode cX11_areAlike 119 = .ok (.iload 9, 2) := by decide +kernel
theorem dX11_areAlike_121 : decode cX11_areAlike 121 = .ok (.invokestatic 87, 3) := by decide +kernel
theorem dX11_areAlike_124 : decode cX11_areAlike 124 = .ok (.invokestatic 91, 3) := by decide +kernel
theorem dX11_areAlike_127 : decode cX11_areAlike 127 = .ok (.ifCond .eq 7, 3) := by decide +kernel
theorem dX11_areAlike_130 : decode cX11_areAlike 130 = .ok (.iconst 1, 1) := by decide +kernel
theorem dX11_areAlike_131 : decode cX11_areAlike 131 = .ok (.goto 4, 3) := by decide +kernel
theorem dX11_areAlike_134 : decode cX11_areAlike 134 = .ok (.iconst 0, 1) := by decide +kernel
theorem dX11_areAlike_135 : decode cX11_areAlike 135 = .ok (.iadd, 1) := by decide +kernel
theorem dX11_areAlike_136 : decode cX11_areAlike 136 = .ok (.istore 8, 2) := by decide +kernel
theorem dX11_areAlike_138 : decode cX11_areAlike 138 = .ok (.iinc 9 1, 3) := by decide +kernel
theorem dX11_areAlike_141 : decode cX11_areAlike 141 = .ok (.goto (-92), 3) := by decide +kernel
theorem dX11_areAlike_144 : decode cX11_areAlike 144 = .ok (.iload 5, 2) := by decide +kernel
theorem dX11_areAlike_146 : decode cX11_areAlike 146 = .ok (.ifCond .eq 14, 3) := by decide +kernel
theorem dX11_areAlike_149 : decode cX11_areAlike 149 = .ok (.iload 7, 2) := by decide +kernel
theorem dX11_areAlike_151 : decode cX11_areAlike 151 = .ok (.iload 8, 2) := by decide +kernel
theorem dX11_areAlike_153 : decode cX11_areAlike 153 = .ok (.if_icmp .ne 7, 3) := by decide +kernel
theorem dX11_areAlike_156 : decode cX11_areAlike 156 = .ok (.iconst 1, 1) := by decide +kernel
theorem dX11_areAlike_157 : decode cX11_areAlike 157 = .ok (.goto 4, 3) := by decide +kernel
theorem dX11_areAlike_160 : decode cX11_areAlike 160 = .ok (.iconst 0, 1) := by decide +kernel
theorem dX11_areAlike_161 : decode cX11_areAlike 161 = .ok (.istore 5, 2) := by decide +kernel
theorem dX11_areAlike_163 : decode cX11_areAlike 163 = .ok (.iinc 6 1, 3) := by decide +kernel
theorem dX11_areAlike_166 : decode cX11_areAlike 166 = .ok (.goto (-133), 3) := by decide +kernel
theorem dX11_areAlike_169 : decode cX11_areAlike 169 = .ok (.iload 5, 2) := by decide +kernel
theorem dX11_areAlike_171 : decode cX11_areAlike 171 = .ok (.ireturn, 1) := by decide +kernel
theorem dX11_laysViews_0 : decode cX11_laysViews 0 = .ok (.aload_n 0, 1) := by decide +kernel
theorem dX11_laysViews_1 : decode cX11_laysViews 1 = .ok (.getfield 7, 3) := by decide +kernel
theorem dX11_laysViews_4 : decode cX11_laysViews 4 = .ok (.iconst 0, 1) := by decide +kernel
theorem dX11_laysViews_5 : decode cX11_laysViews 5 = .ok (.iaload, 1) := by decide +kernel
theorem dX11_laysViews_6 : decode cX11_laysViews 6 = .ok (.istore_n 2, 1) := by decide +kernel
theorem dX11_laysViews_7 : decode cX11_laysViews 7 = .ok (.iconst 0, 1) := by decide +kernel
theorem dX11_laysViews_8 : decode cX11_laysViews 8 = .ok (.istore_n 3, 1) := by decide +kernel
theorem dX11_laysViews_9 : decode cX11_laysViews 9 = .ok (.iload_n 3, 1) := by decide +kernel
theorem dX11_laysViews_10 : decode cX11_laysViews 10 = .ok (.iload_n 2, 1) := by decide +kernel
theorem dX11_laysViews_11 : decode cX11_laysViews 11 = .ok (.if_icmp .ge 24, 3) := by decide +kernel
theorem dX11_laysViews_14 : decode cX11_laysViews 14 = .ok (.aload_n 0, 1) := by decide +kernel
theorem dX11_laysViews_15 : decode cX11_laysViews 15 = .ok (.getfield 38, 3) := by decide +kernel
theorem dX11_laysViews_18 : decode cX11_laysViews 18 = .ok (.iload_n 3, 1) := by decide +kernel
theorem dX11_laysViews_19 : decode cX11_laysViews 19 = .ok (.iload_n 3, 1) := by decide +kernel
theorem dX11_laysViews_20 : decode cX11_laysViews 20 = .ok (.ifCond .ne 7, 3) := by decide +kernel
theorem dX11_laysViews_23 : decode cX11_laysViews 23 = .ok (.iconst 0, 1) := by decide +kernel
theorem dX11_laysViews_24 : decode cX11_laysViews 24 = .ok (.goto 4, 3) := by decide +kernel
theorem dX11_laysViews_27 : decode cX11_laysViews 27 = .ok (.iconst 1, 1) := by decide +kernel
theorem dX11_laysViews_28 : decode cX11_laysViews 28 = .ok (.iastore, 1) := by decide +kernel
theorem dX11_laysViews_29 : decode cX11_laysViews 29 = .ok (.iinc 3 1, 3) := by decide +kernel
theorem dX11_laysViews_32 : decode cX11_laysViews 32 = .ok (.goto (-23), 3) := by decide +kernel
theorem dX11_laysViews_35 : decode cX11_laysViews 35 = .ok (.iconst 2, 1) := by decide +kernel
theorem dX11_laysViews_36 : decode cX11_laysViews 36 = .ok (.istore_n 3, 1) := by decide +kernel
theorem dX11_laysViews_37 : decode cX11_laysViews 37 = .ok (.iconst 0, 1) := by decide +kernel
theorem dX11_laysViews_38 : decode cX11_laysViews 38 = .ok (.istore 4, 2) := by decide +kernel
theorem dX11_laysViews_40 : decode cX11_laysViews 40 = .ok (.iload 4, 2) := by decide +kernel
theorem dX11_laysViews_42 : decode cX11_laysViews 42 = .ok (.iload_n 1, 1) := by decide +kernel
theorem dX11_laysViews_43 : decode cX11_laysViews 43 = .ok (.if_icmp .ge 141, 3) := by decide +kernel
theorem dX11_laysViews_46 : decode cX11_laysViews 46 = .ok (.aload_n 0, 1) := by decide +kernel
theorem dX11_laysViews_47 : decode cX11_laysViews 47 = .ok (.aload_n 0, 1) := by decide +kernel
theorem dX11_laysViews_48 : decode cX11_laysViews 48 = .ok (.getfield 7, 3) := by decide +kernel
theorem dX11_laysViews_51 : decode cX11_laysViews 51 = .ok (.iconst 4, 1) := by decide +kernel
theorem dX11_laysViews_52 : decode cX11_laysViews 52 = .ok (.iaload, 1) := by decide +kernel
theorem dX11_laysViews_53 : decode cX11_laysViews 53 = .ok (.iload 4, 2) := by decide +kernel
theorem dX11_laysViews_55 : decode cX11_laysViews 55 = .ok (.iadd, 1) := by decide +kernel
theorem dX11_laysViews_56 : decode cX11_laysViews 56 = .ok (.invokevirtual 99, 3) := by decide +kernel
theorem dX11_laysViews_59 : decode cX11_laysViews 59 = .ok (.istore 5, 2) := by decide +kernel
theorem dX11_laysViews_61 : decode cX11_laysViews 61 = .ok (.iconst 0, 1) := by decide +kernel
theorem dX11_laysViews_62 : decode cX11_laysViews 62 = .ok (.istore_n 3, 1) := by decide +kernel
theorem dX11_laysViews_63 : decode cX11_laysViews 63 = .ok (.iconst 0, 1) := by decide +kernel
theorem dX11_laysViews_64 : decode cX11_laysViews 64 = .ok (.istore 6, 2) := by decide +kernel
theorem dX11_laysViews_66 : decode cX11_laysViews 66 = .ok (.iload 6, 2) := by decide +kernel
theorem dX11_laysViews_68 : decode cX11_laysViews 68 = .ok (.iload_n 2, 1) := by decide +kernel
theorem dX11_laysViews_69 : decode cX11_laysViews 69 = .ok (.if_icmp .ge 95, 3) := by decide +kernel
theorem dX11_laysViews_72 : decode cX11_laysViews 72 = .ok (.aload_n 0, 1) := by decide +kernel
theorem dX11_laysViews_73 : decode cX11_laysViews 73 = .ok (.getfield 41, 3) := by decide +kernel
theorem dX11_laysViews_76 : decode cX11_laysViews 76 = .ok (.iload 6, 2) := by decide +kernel
theorem dX11_laysViews_78 : decode cX11_laysViews 78 = .ok (.iconst (-1), 1) := by decide +kernel
theorem dX11_laysViews_79 : decode cX11_laysViews 79 = .ok (.iastore, 1) := by decide +kernel
theorem dX11_laysViews_80 : decode cX11_laysViews 80 = .ok (.iconst 0, 1) := by decide +kernel
theorem dX11_laysViews_81 : decode cX11_laysViews 81 = .ok (.istore 7, 2) := by decide +kernel
theorem dX11_laysViews_83 : decode cX11_laysViews 83 = .ok (.iload 7, 2) := by decide +kernel
theorem dX11_laysViews_85 : decode cX11_laysViews 85 = .ok (.iload 6, 2) := by decide +kernel
theorem dX11_laysViews_87 : decode cX11_laysViews 87 = .ok (.if_icmp .ge 50, 3) := by decide +kernel
theorem dX11_laysViews_90 : decode cX11_laysViews 90 = .ok (.aload_n 0, 1) := by decide +kernel
theorem dX11_laysViews_91 : decode cX11_laysViews 91 = .ok (.getfield 41, 3) := by decide +kernel
theorem dX11_laysViews_94 : decode cX11_laysViews 94 = .ok (.iload 6, 2) := by decide +kernel
theorem dX11_laysViews_96 : decode cX11_laysViews 96 = .ok (.iaload, 1) := by decide +kernel
theorem dX11_laysViews_97 : decode cX11_laysViews 97 = .ok (.ifCond .ge 40, 3) := by decide +kernel
theorem dX11_laysViews_100 : decode cX11_laysViews 100 = .ok (.aload_n 0, 1) := by decide +kernel
theorem dX11_laysViews_101 : decode cX11_laysViews 101 = .ok (.getfield 41, 3) := by decide +kernel
theorem dX11_laysViews_104 : decode cX11_laysViews 104 = .ok (.iload 6, 2) := by decide +kernel
theorem dX11_laysViews_106 : decode cX11_laysViews 106 = .ok (.aload_n 0, 1) := by decide +kernel
theorem dX11_laysViews_107 : decode cX11_laysViews 107 = .ok (.iload 7, 2) := by decide +kernel
theorem dX11_laysViews_109 : decode cX11_laysViews 109 = .ok (.iload 6, 2) := by decide +kernel
theorem dX11_laysViews_111 : decode cX11_laysViews 111 = .ok (.iload 5, 2) := by decide +kernel
theorem dX11_laysViews_113 : decode cX11_laysViews 113 = .ok (.invokevirtual 197, 3) := by decide +kernel
theorem dX11_laysViews_116 : decode cX11_laysViews 116 = .ok (.ifCond .eq 13, 3) := by decide +kernel
theorem dX11_laysViews_119 : decode cX11_laysViews 119 = .ok (.aload_n 0, 1) := by decide +kernel
theorem dX11_laysViews_120 : decode cX11_laysViews 120 = .ok (.getfield 41, 3) := by decide +kernel
theorem dX11_laysViews_123 : decode cX11_laysViews 123 = .ok (.iload 7, 2) := by decide +kernel
theorem dX11_laysViews_125 : decode cX11_laysViews 125 = .ok (.iaload, 1) := by decide +kernel
theorem dX11_laysViews_126 : decode cX11_laysViews 126 = .ok (.goto 4, 3) := by decide +kernel
theorem dX11_laysViews_129 : decode cX11_laysViews 129 = .ok (.iconst (-1), 1) := by decide +kernel
theorem dX11_laysViews_130 : decode cX11_laysViews 130 = .ok (.iastore, 1) := by decide +kernel
theorem dX11_laysViews_131 : decode cX11_laysViews 131 = .ok (.iinc 7 1, 3) := by decide +kernel
theorem dX11_laysViews_134 : decode cX11_laysViews 134 = .ok (.goto (-51), 3) := by decide +kernel
theorem dX11_laysViews_137 : decode cX11_laysViews 137 = .ok (.aload_n 0, 1) := by decide +kernel
theorem dX11_laysViews_138 : decode cX11_laysViews 138 = .ok (.getfield 41, 3) := by decide +kernel
theorem dX11_laysViews_141 : decode cX11_laysViews 141 = .ok (.iload 6, 2) := by decide +kernel
theorem dX11_laysViews_143 : decode cX11_laysViews 143 = .ok (.iaload, 1) := by decide +kernel
theorem dX11_laysViews_144 : decode cX11_laysViews 144 = .ok (.ifCond .ge 14, 3) := by decide +kernel
theorem dX11_laysViews_147 : decode cX11_laysViews 147 = .ok (.aload_n 0, 1) := by decide +kernel
theorem dX11_laysViews_148 : decode cX11_laysViews 148 = .ok (.getfield 41, 3) := by decide +kernel
theorem dX11_laysViews_151 : decode cX11_laysViews 151 = .ok (.iload 6, 2) := by decide +kernel
theorem dX11_laysViews_153 : decode cX11_laysViews 153 = .ok (.iload_n 3, 1) := by decide +kernel
theorem dX11_laysViews_154 : decode cX11_laysViews 154 = .ok (.iastore, 1) := by decide +kernel
theorem dX11_laysViews_155 : decode cX11_laysViews 155 = .ok (.iinc 3 1, 3) := by decide +kernel
theorem dX11_laysViews_158 : decode cX11_laysViews 158 = .ok (.iinc 6 1, 3) := by decide +kernel
theorem dX11_laysViews_161 : decode cX11_laysViews 161 = .ok (.goto (-95), 3) := by decide +kernel
theorem dX11_laysViews_164 : decode cX11_laysViews 164 = .ok (.aload_n 0, 1) := by decide +kernel
theorem dX11_laysViews_165 : decode cX11_laysViews 165 = .ok (.getfield 41, 3) := by decide +kernel
theorem dX11_laysViews_168 : decode cX11_laysViews 168 = .ok (.iconst 0, 1) := by decide +kernel
theorem dX11_laysViews_169 : decode cX11_laysViews 169 = .ok (.aload_n 0, 1) := by decide +kernel
theorem dX11_laysViews_170 : decode cX11_laysViews 170 = .ok (.getfield 38, 3) := by decide +kernel
theorem dX11_laysViews_173 : decode cX11_laysViews 173 = .ok (.iconst 0, 1) := by decide +kernel
theorem dX11_laysViews_174 : decode cX11_laysViews 174 = .ok (.iload_n 2, 1) := by decide +kernel
theorem dX11_laysViews_175 : decode cX11_laysViews 175 = .ok (.invokestatic 70, 3) := by decide +kernel
theorem dX11_laysViews_178 : decode cX11_laysViews 178 = .ok (.iinc 4 1, 3) := by decide +kernel
theorem dX11_laysViews_181 : decode cX11_laysViews 181 = .ok (.goto (-141), 3) := by decide +kernel
theorem dX11_laysViews_184 : decode cX11_laysViews 184 = .ok (.iload_n 3, 1) := by decide +kernel
theorem dX11_laysViews_185 : decode cX11_laysViews 185 = .ok (.ireturn, 1) := by decide +kernel
theorem dX11_views_0 : decode cX11_views 0 = .ok (.iload_n 1, 1) := by decide +kernel
theorem dX11_views_1 : decode cX11_views 1 = .ok (.i2l, 1) := by decide +kernel
theorem dX11_views_2 : decode cX11_views 2 = .ok (.lconst 0, 1) := by decide +kernel
theorem dX11_views_3 : decode cX11_views 3 = .ok (.ldc2_w 201, 3) := by decide +kernel
theorem dX11_views_6 : decode cX11_views 6 = .ok (.invokestatic 116, 3) := by decide +kernel
theorem dX11_views_9 : decode cX11_views 9 = .ok (.ifCond .eq 11, 3) := by decide +kernel
theorem dX11_views_12 : decode cX11_views 12 = .ok (.aload_n 0, 1) := by decide +kernel
theorem dX11_views_13 : decode cX11_views 13 = .ok (.iload_n 1, 1) := by decide +kernel
theorem dX11_views_14 : decode cX11_views 14 = .ok (.invokevirtual 203, 3) := by decide +kernel
theorem dX11_views_17 : decode cX11_views 17 = .ok (.goto 4, 3) := by decide +kernel
theorem dX11_views_20 : decode cX11_views 20 = .ok (.iconst (-1), 1) := by decide +kernel
theorem dX11_views_21 : decode cX11_views 21 = .ok (.ireturn, 1) := by decide +kernel
theorem dX11_view_0 : decode cX11_view 0 = .ok (.iload_n 1, 1) := by decide +kernel
theorem dX11_view_1 : decode cX11_view 1 = .ok (.i2l, 1) := by decide +kernel
theorem dX11_view_2 : decode cX11_view 2 = .ok (.lconst 0, 1) := by decide +kernel
theorem dX11_view_3 : decode cX11_view 3 = .ok (.ldc2_w 201, 3) := by decide +kernel
theorem dX11_view_6 : decode cX11_view 6 = .ok (.invokestatic 116, 3) := by decide +kernel
theorem dX11_view_9 : decode cX11_view 9 = .ok (.ifCond .eq 11, 3) := by decide +kernel
theorem dX11_view_12 : decode cX11_view 12 = .ok (.aload_n 0, 1) := by decide +kernel
theorem dX11_view_13 : decode cX11_view 13 = .ok (.iload_n 2, 1) := by decide +kernel
theorem dX11_view_14 : decode cX11_view 14 = .ok (.invokevirtual 165, 3) := by decide +kernel
theorem dX11_view_17 : decode cX11_view 17 = .ok (.ifCond .ne 5, 3) := by decide +kernel
theorem dX11_view_20 : decode cX11_view 20 = .ok (.iconst (-1), 1) := by decide +kernel
theorem dX11_view_21 : decode cX11_view 21 = .ok (.ireturn, 1) := by decide +kernel
theorem dX11_view_22 : decode cX11_view 22 = .ok (.aload_n 0, 1) := by decide +kernel
theorem dX11_view_23 : decode cX11_view 23 = .ok (.iload_n 1, 1) := by decide +kernel
theorem dX11_view_24 : decode cX11_view 24 = .ok (.invokevirtual 203, 3) := by decide +kernel
theorem dX11_view_27 : decode cX11_view 27 = .ok (.pop, 1) := by decide +kernel
theorem dX11_view_28 : decode cX11_view 28 = .ok (.aload_n 0, 1) := by decide +kernel
theorem dX11_view_29 : decode cX11_view 29 = .ok (.getfield 38, 3) := by decide +kernel
theorem dX11_view_32 : decode cX11_view 32 = .ok (.iload_n 2, 1) := by decide +kernel
theorem dX11_view_33 : decode cX11_view 33 = .ok (.iaload, 1) := by decide +kernel
theorem dX11_view_34 : decode cX11_view 34 = .ok (.ireturn, 1) := by decide +kernel
theorem dX11_laysOdds_0 : decode cX11_laysOdds 0 = .ok (.aload_n 0, 1) := by decide +kernel
theorem dX11_laysOdds_1 : decode cX11_laysOdds 1 = .ok (.invokevirtual 161, 3) := by decide +kernel
theorem dX11_laysOdds_4 : decode cX11_laysOdds 4 = .ok (.istore_n 2, 1) := by decide +kernel
theorem dX11_laysOdds_5 : decode cX11_laysOdds 5 = .ok (.aload_n 0, 1) := by decide +kernel
theorem dX11_laysOdds_6 : decode cX11_laysOdds 6 = .ok (.getfield 7, 3) := by decide +kernel
theorem dX11_laysOdds_9 : decode cX11_laysOdds 9 = .ok (.iconst 0, 1) := by decide +kernel
theorem dX11_laysOdds_10 : decode cX11_laysOdds 10 = .ok (.iaload, 1) := by decide +kernel
theorem dX11_laysOdds_11 : decode cX11_laysOdds 11 = .ok (.istore_n 3, 1) := by decide +kernel
theorem dX11_laysOdds_12 : decode cX11_laysOdds 12 = .ok (.iload_n 3, 1) := by decide +kernel
theorem dX11_laysOdds_13 : decode cX11_laysOdds 13 = .ok (.iload_n 3, 1) := by decide +kernel
theorem dX11_laysOdds_14 : decode cX11_laysOdds 14 = .ok (.iconst 1, 1) := by decide +kernel
theorem dX11_laysOdds_15 : decode cX11_laysOdds 15 = .ok (.isub, 1) := by decide +kernel
theorem dX11_laysOdds_16 : decode cX11_laysOdds 16 = .ok (.imul, 1) := by decide +kernel
theorem dX11_laysOdds_17 : decode cX11_laysOdds 17 = .ok (.iconst 2, 1) := by decide +kernel
theorem dX11_laysOdds_18 : decode cX11_laysOdds 18 = .ok (.idiv, 1) := by decide +kernel
theorem dX11_laysOdds_19 : decode cX11_laysOdds 19 = .ok (.istore 4, 2) := by decide +kernel
theorem dX11_laysOdds_21 : decode cX11_laysOdds 21 = .ok (.aload_n 0, 1) := by decide +kernel
theorem dX11_laysOdds_22 : decode cX11_laysOdds 22 = .ok (.lconst 0, 1) := by decide +kernel
theorem dX11_laysOdds_23 : decode cX11_laysOdds 23 = .ok (.putfield 206, 3) := by decide +kernel
theorem dX11_laysOdds_26 : decode cX11_laysOdds 26 = .ok (.aload_n 0, 1) := by decide +kernel
theorem dX11_laysOdds_27 : decode cX11_laysOdds 27 = .ok (.lconst 1, 1) := by decide +kernel
theorem dX11_laysOdds_28 : decode cX11_laysOdds 28 = .ok (.putfield 210, 3) := by decide +kernel
theorem dX11_laysOdds_31 : decode cX11_laysOdds 31 = .ok (.iconst 0, 1) := by decide +kernel
theorem dX11_laysOdds_32 : decode cX11_laysOdds 32 = .ok (.istore 5, 2) := by decide +kernel
theorem dX11_laysOdds_34 : decode cX11_laysOdds 34 = .ok (.iload 5, 2) := by decide +kernel
theorem dX11_laysOdds_36 : decode cX11_laysOdds 36 = .ok (.iload 4, 2) := by decide +kernel
theorem dX11_laysOdds_38 : decode cX11_laysOdds 38 = .ok (.if_icmp .ge 34, 3) := by decide +kernel
theorem dX11_laysOdds_41 : decode cX11_laysOdds 41 = .ok (.aload_n 0, 1) := by decide +kernel
theorem dX11_laysOdds_42 : decode cX11_laysOdds 42 = .ok (.dup, 1) := by decide +kernel
theorem dX11_laysOdds_43 : decode cX11_laysOdds 43 = .ok (.getfield 210, 3) := by decide +kernel
theorem dX11_laysOdds_46 : decode cX11_laysOdds 46 = .ok (.iload_n 2, 1) := by decide +kernel
theorem dX11_laysOdds_47 : decode cX11_laysOdds 47 = .ok (.iload 5, 2) := by decide +kernel
theorem dX11_laysOdds_49 : decode cX11_laysOdds 49 = .ok (.invokestatic 91, 3) := by decide +kernel
theorem dX11_laysOdds_52 : decode cX11_laysOdds 52 = .ok (.ifCond .eq 9, 3) := by decide +kernel
theorem dX11_laysOdds_55 : decode cX11_laysOdds 55 = .ok (.ldc2_w 213, 3) := by decide +kernel
theorem dX11_laysOdds_58 : decode cX11_laysOdds 58 = .ok (.goto 4, 3) := by decide +kernel
theorem dX11_laysOdds_61 : decode cX11_laysOdds 61 = .ok (.lconst 1, 1) := by decide +kernel
theorem dX11_laysOdds_62 : decode cX11_laysOdds 62 = .ok (.lmul, 1) := by decide +kernel
theorem dX11_laysOdds_63 : decode cX11_laysOdds 63 = .ok (.putfield 210, 3) := by decide +kernel
theorem dX11_laysOdds_66 : decode cX11_laysOdds 66 = .ok (.iinc 5 1, 3) := by decide +kernel
theorem dX11_laysOdds_69 : decode cX11_laysOdds 69 = .ok (.goto (-35), 3) := by decide +kernel
theorem dX11_laysOdds_72 : decode cX11_laysOdds 72 = .ok (.iconst 0, 1) := by decide +kernel
theorem dX11_laysOdds_73 : decode cX11_laysOdds 73 = .ok (.istore 5, 2) := by decide +kernel
theorem dX11_laysOdds_75 : decode cX11_laysOdds 75 = .ok (.iload 5, 2) := by decide +kernel
theorem dX11_laysOdds_77 : decode cX11_laysOdds 77 = .ok (.iconst 1, 1) := by decide +kernel
theorem dX11_laysOdds_78 : decode cX11_laysOdds 78 = .ok (.iload 4, 2) := by decide +kernel
theorem dX11_laysOdds_80 : decode cX11_laysOdds 80 = .ok (.ishl, 1) := by decide +kernel
theorem dX11_laysOdds_81 : decode cX11_laysOdds 81 = .ok (.if_icmp .ge 96, 3) := by decide +kernel
theorem dX11_laysOdds_84 : decode cX11_laysOdds 84 = .ok (.iload 5, 2) := by decide +kernel
theorem dX11_laysOdds_86 : decode cX11_laysOdds 86 = .ok (.iload_n 2, 1) := by decide +kernel
theorem dX11_laysOdds_87 : decode cX11_laysOdds 87 = .ok (.iconst (-1), 1) := by decide +kernel
theorem dX11_laysOdds_88 : decode cX11_laysOdds 88 = .ok (.ixor, 1) := by decide +kernel
theorem dX11_laysOdds_89 : decode cX11_laysOdds 89 = .ok (.iand, 1) := by decide +kernel
theorem dX11_laysOdds_90 : decode cX11_laysOdds 90 = .ok (.ifCond .ne 81, 3) := by decide +kernel
theorem dX11_laysOdds_93 : decode cX11_laysOdds 93 = .ok (.aload_n 0, 1) := by decide +kernel
theorem dX11_laysOdds_94 : decode cX11_laysOdds 94 = .ok (.iload 5, 2) := by decide +kernel
theorem dX11_laysOdds_96 : decode cX11_laysOdds 96 = .ok (.invokevirtual 189, 3) := by decide +kernel
theorem dX11_laysOdds_99 : decode cX11_laysOdds 99 = .ok (.ifCond .eq 72, 3) := by decide +kernel
theorem dX11_laysOdds_102 : decode cX11_laysOdds 102 = .ok (.lconst 1, 1) := by decide +kernel
theorem dX11_laysOdds_103 : decode cX11_laysOdds 103 = .ok (.lstore 6, 2) := by decide +kernel
theorem dX11_laysOdds_105 : decode cX11_laysOdds 105 = .ok (.iconst 0, 1) := by decide +kernel
theorem dX11_laysOdds_106 : decode cX11_laysOdds 106 = .ok (.istore 8, 2) := by decide +kernel
theorem dX11_laysOdds_108 : decode cX11_laysOdds 108 = .ok (.iload 8, 2) := by decide +kernel
theorem dX11_laysOdds_110 : decode cX11_laysOdds 110 = .ok (.iload 4, 2) := by decide +kernel
theorem dX11_laysOdds_112 : decode cX11_laysOdds 112 = .ok (.if_icmp .ge 48, 3) := by decide +kernel
theorem dX11_laysOdds_115 : decode cX11_laysOdds 115 = .ok (.lload 6, 2) := by decide +kernel
theorem dX11_laysOdds_117 : decode cX11_laysOdds 117 = .ok (.iload_n 2, 1) := by decide +kernel
theorem dX11_laysOdds_118 : decode cX11_laysOdds 118 = .ok (.iload 8, 2) := by decide +kernel
theorem dX11_laysOdds_120 : decode cX11_laysOdds 120 = .ok (.invokestatic 91, 3) := by decide +kernel
theorem dX11_laysOdds_123 : decode cX11_laysOdds 123 = .ok (.ifCond .ne 7, 3) := by decide +kernel
theorem dX11_laysOdds_126 : decode cX11_laysOdds 126 = .ok (.lconst 1, 1) := by decide +kernel
theorem dX11_laysOdds_127 : decode cX11_laysOdds 127 = .ok (.goto 24, 3) := by decide +kernel
theorem dX11_laysOdds_130 : decode cX11_laysOdds 130 = .ok (.iload 5, 2) := by decide +kernel
theorem dX11_laysOdds_132 : decode cX11_laysOdds 132 = .ok (.iload 8, 2) := by decide +kernel
theorem dX11_laysOdds_134 : decode cX11_laysOdds 134 = .ok (.invokestatic 91, 3) := by decide +kernel
theorem dX11_laysOdds_137 : decode cX11_laysOdds 137 = .ok (.ifCond .eq 12, 3) := by decide +kernel
theorem dX11_laysOdds_140 : decode cX11_laysOdds 140 = .ok (.ldc2_w 213, 3) := by decide +kernel
theorem dX11_laysOdds_143 : decode cX11_laysOdds 143 = .ok (.iload_n 1, 1) := by decide +kernel
theorem dX11_laysOdds_144 : decode cX11_laysOdds 144 = .ok (.i2l, 1) := by decide +kernel
theorem dX11_laysOdds_145 : decode cX11_laysOdds 145 = .ok (.lsub, 1) := by decide +kernel
theorem dX11_laysOdds_146 : decode cX11_laysOdds 146 = .ok (.goto 5, 3) := by decide +kernel
theorem dX11_laysOdds_149 : decode cX11_laysOdds 149 = .ok (.iload_n 1, 1) := by decide +kernel
theorem dX11_laysOdds_150 : decode cX11_laysOdds 150 = .ok (.i2l, 1) := by decide +kernel
theorem dX11_laysOdds_151 : decode cX11_laysOdds 151 = .ok (.lmul, 1) := by decide +kernel
theorem dX11_laysOdds_152 : decode cX11_laysOdds 152 = .ok (.lstore 6, 2) := by decide +kernel
theorem dX11_laysOdds_154 : decode cX11_laysOdds 154 = .ok (.iinc 8 1, 3) := by decide +kernel
theorem dX11_laysOdds_157 : decode cX11_laysOdds 157 = .ok (.goto (-49), 3) := by decide +kernel
theorem dX11_laysOdds_160 : decode cX11_laysOdds 160 = .ok (.aload_n 0, 1) := by decide +kernel
theorem dX11_laysOdds_161 : decode cX11_laysOdds 161 = .ok (.dup, 1) := by decide +kernel
theorem dX11_laysOdds_162 : decode cX11_laysOdds 162 = .ok (.getfield 206, 3) := by decide +kernel
theorem dX11_laysOdds_165 : decode cX11_laysOdds 165 = .ok (.lload 6, 2) := by decide +kernel
theorem dX11_laysOdds_167 : decode cX11_laysOdds 167 = .ok (.ladd, 1) := by decide +kernel
theorem dX11_laysOdds_168 : decode cX11_laysOdds 168 = .ok (.putfield 206, 3) := by decide +kernel
theorem dX11_laysOdds_171 : decode cX11_laysOdds 171 = .ok (.iinc 5 1, 3) := by decide +kernel
theorem dX11_laysOdds_174 : decode cX11_laysOdds 174 = .ok (.goto (-99), 3) := by decide +kernel
theorem dX11_laysOdds_177 : decode cX11_laysOdds 177 = .ok (.aload_n 0, 1) := by decide +kernel
theorem dX11_laysOdds_178 : decode cX11_laysOdds 178 = .ok (.getfield 206, 3) := by decide +kernel
theorem dX11_laysOdds_181 : decode cX11_laysOdds 181 = .ok (.lstore 5, 2) := by decide +kernel
theorem dX11_laysOdds_183 : decode cX11_laysOdds 183 = .ok (.aload_n 0, 1) := by decide +kernel
theorem dX11_laysOdds_184 : decode cX11_laysOdds 184 = .ok (.getfield 210, 3) := by decide +kernel
theorem dX11_laysOdds_187 : decode cX11_laysOdds 187 = .ok (.lstore 7, 2) := by decide +kernel
theorem dX11_laysOdds_189 : decode cX11_laysOdds 189 = .ok (.lload 7, 2) := by decide +kernel
theorem dX11_laysOdds_191 : decode cX11_laysOdds 191 = .ok (.lconst 0, 1) := by decide +kernel
theorem dX11_laysOdds_192 : decode cX11_laysOdds 192 = .ok (.lcmp, 1) := by decide +kernel
theorem dX11_laysOdds_193 : decode cX11_laysOdds 193 = .ok (.ifCond .eq 21, 3) := by decide +kernel
theorem dX11_laysOdds_196 : decode cX11_laysOdds 196 = .ok (.lload 5, 2) := by decide +kernel
theorem dX11_laysOdds_198 : decode cX11_laysOdds 198 = .ok (.lload 7, 2) := by decide +kernel
theorem dX11_laysOdds_200 : decode cX11_laysOdds 200 = .ok (.lrem, 1) := by decide +kernel
theorem dX11_laysOdds_201 : decode cX11_laysOdds 201 = .ok (.lstore 9, 2) := by decide +kernel
theorem dX11_laysOdds_203 : decode cX11_laysOdds 203 = .ok (.lload 7, 2) := by decide +kernel
theorem dX11_laysOdds_205 : decode cX11_laysOdds 205 = .ok (.lstore 5, 2) := by decide +kernel
theorem dX11_laysOdds_207 : decode cX11_laysOdds 207 = .ok (.lload 9, 2) := by decide +kernel
theorem dX11_laysOdds_209 : decode cX11_laysOdds 209 = .ok (.lstore 7, 2) := by decide +kernel
theorem dX11_laysOdds_211 : decode cX11_laysOdds 211 = .ok (.goto (-22), 3) := by decide +kernel
theorem dX11_laysOdds_214 : decode cX11_laysOdds 214 = .ok (.aload_n 0, 1) := by decide +kernel
theorem dX11_laysOdds_215 : decode cX11_laysOdds 215 = .ok (.dup, 1) := by decide +kernel
theorem dX11_laysOdds_216 : decode cX11_laysOdds 216 = .ok (.getfield 206, 3) := by decide +kernel
theorem dX11_laysOdds_219 : decode cX11_laysOdds 219 = .ok (.lload 5, 2) := by decide +kernel
theorem dX11_laysOdds_221 : decode cX11_laysOdds 221 = .ok (.ldiv, 1) := by decide +kernel
theorem dX11_laysOdds_222 : decode cX11_laysOdds 222 = .ok (.putfield 206, 3) := by decide +kernel
theorem dX11_laysOdds_225 : decode cX11_laysOdds 225 = .ok (.aload_n 0, 1) := by decide +kernel
theorem dX11_laysOdds_226 : decode cX11_laysOdds 226 = .ok (.dup, 1) := by decide +kernel
theorem dX11_laysOdds_227 : decode cX11_laysOdds 227 = .ok (.getfield 210, 3) := by decide +kernel
theorem dX11_laysOdds_230 : decode cX11_laysOdds 230 = .ok (.lload 5, 2) := by decide +kernel
theorem dX11_laysOdds_232 : decode cX11_laysOdds 232 = .ok (.ldiv, 1) := by decide +kernel
theorem dX11_laysOdds_233 : decode cX11_laysOdds 233 = .ok (.putfield 210, 3) := by decide +kernel
theorem dX11_laysOdds_236 : decode cX11_laysOdds 236 = .ok (.return_, 1) := by decide +kernel
theorem dX11_joined_0 : decode cX11_joined 0 = .ok (.iload_n 1, 1) := by decide +kernel
theorem dX11_joined_1 : decode cX11_joined 1 = .ok (.i2l, 1) := by decide +kernel
theorem dX11_joined_2 : decode cX11_joined 2 = .ok (.lconst 0, 1) := by decide +kernel
theorem dX11_joined_3 : decode cX11_joined 3 = .ok (.ldc2_w 213, 3) := by decide +kernel
theorem dX11_joined_6 : decode cX11_joined 6 = .ok (.invokestatic 116, 3) := by decide +kernel
theorem dX11_joined_9 : decode cX11_joined 9 = .ok (.ifCond .eq 13, 3) := by decide +kernel
theorem dX11_joined_12 : decode cX11_joined 12 = .ok (.iload_n 2, 1) := by decide +kernel
theorem dX11_joined_13 : decode cX11_joined 13 = .ok (.i2l, 1) := by decide +kernel
theorem dX11_joined_14 : decode cX11_joined 14 = .ok (.lconst 0, 1) := by decide +kernel
theorem dX11_joined_15 : decode cX11_joined 15 = .ok (.lconst 1, 1) := by decide +kernel
theorem dX11_joined_16 : decode cX11_joined 16 = .ok (.invokestatic 116, 3) := by decide +kernel
theorem dX11_joined_19 : decode cX11_joined 19 = .ok (.ifCond .ne 7, 3) := by decide +kernel
theorem dX11_joined_22 : decode cX11_joined 22 = .ok (.ldc2_w 215, 3) := by decide +kernel
theorem dX11_joined_25 : decode cX11_joined 25 = .ok (.lreturn, 1) := by decide +kernel
theorem dX11_joined_26 : decode cX11_joined 26 = .ok (.aload_n 0, 1) := by decide +kernel
theorem dX11_joined_27 : decode cX11_joined 27 = .ok (.iload_n 1, 1) := by decide +kernel
theorem dX11_joined_28 : decode cX11_joined 28 = .ok (.invokevirtual 217, 3) := by decide +kernel
theorem dX11_joined_31 : decode cX11_joined 31 = .ok (.iload_n 2, 1) := by decide +kernel
theorem dX11_joined_32 : decode cX11_joined 32 = .ok (.ifCond .ne 10, 3) := by decide +kernel
theorem dX11_joined_35 : decode cX11_joined 35 = .ok (.aload_n 0, 1) := by decide +kernel
theorem dX11_joined_36 : decode cX11_joined 36 = .ok (.getfield 206, 3) := by decide +kernel
theorem dX11_joined_39 : decode cX11_joined 39 = .ok (.goto 7, 3) := by decide +kernel
theorem dX11_joined_42 : decode cX11_joined 42 = .ok (.aload_n 0, 1) := by decide +kernel
theorem dX11_joined_43 : decode cX11_joined 43 = .ok (.getfield 210, 3) := by decide +kernel
theorem dX11_joined_46 : decode cX11_joined 46 = .ok (.lreturn, 1) := by decide +kernel
theorem dX11_tell_0 : decode cX11_tell 0 = .ok (.iload_n 1, 1) := by decide +kernel
theorem dX11_tell_1 : decode cX11_tell 1 = .ok (.ifCond .ne 17, 3) := by decide +kernel
theorem dX11_tell_4 : decode cX11_tell 4 = .ok (.iload_n 2, 1) := by decide +kernel
theorem dX11_tell_5 : decode cX11_tell 5 = .ok (.i2l, 1) := by decide +kernel
theorem dX11_tell_6 : decode cX11_tell 6 = .ok (.ldc2_w 192, 3) := by decide +kernel
theorem dX11_tell_9 : decode cX11_tell 9 = .ok (.ldc2_w 221, 3) := by decide +kernel
theorem dX11_tell_12 : decode cX11_tell 12 = .ok (.invokestatic 116, 3) := by decide +kernel
theorem dX11_tell_15 : decode cX11_tell 15 = .ok (.goto 59, 3) := by decide +kernel
theorem dX11_tell_18 : decode cX11_tell 18 = .ok (.iload_n 1, 1) := by decide +kernel
theorem dX11_tell_19 : decode cX11_tell 19 = .ok (.iconst 1, 1) := by decide +kernel
theorem dX11_tell_20 : decode cX11_tell 20 = .ok (.if_icmp .ne 15, 3) := by decide +kernel
theorem dX11_tell_23 : decode cX11_tell 23 = .ok (.iload_n 2, 1) := by decide +kernel
theorem dX11_tell_24 : decode cX11_tell 24 = .ok (.i2l, 1) := by decide +kernel
theorem dX11_tell_25 : decode cX11_tell 25 = .ok (.lconst 1, 1) := by decide +kernel
theorem dX11_tell_26 : decode cX11_tell 26 = .ok (.ldc2_w 223, 3) := by decide +kernel
theorem dX11_tell_29 : decode cX11_tell 29 = .ok (.invokestatic 116, 3) := by decide +kernel
theorem dX11_tell_32 : decode cX11_tell 32 = .ok (.goto 42, 3) := by decide +kernel
theorem dX11_tell_35 : decode cX11_tell 35 = .ok (.iload_n 1, 1) := by decide +kernel
theorem dX11_tell_36 : decode cX11_tell 36 = .ok (.iconst 2, 1) := by decide +kernel
theorem dX11_tell_37 : decode cX11_tell 37 = .ok (.if_icmp .ne 15, 3) := by decide +kernel
theorem dX11_tell_40 : decode cX11_tell 40 = .ok (.iload_n 2, 1) := by decide +kernel
theorem dX11_tell_41 : decode cX11_tell 41 = .ok (.i2l, 1) := by decide +kernel
theorem dX11_tell_42 : decode cX11_tell 42 = .ok (.lconst 0, 1) := by decide +kernel
theorem dX11_tell_43 : decode cX11_tell 43 = .ok (.ldc2_w 225, 3) := by decide +kernel
theorem dX11_tell_46 : decode cX11_tell 46 = .ok (.invokestatic 116, 3) := by decide +kernel
theorem dX11_tell_49 : decode cX11_tell 49 = .ok (.goto 25, 3) := by decide +kernel
theorem dX11_tell_52 : decode cX11_tell 52 = .ok (.iload_n 1, 1) := by decide +kernel
theorem dX11_tell_53 : decode cX11_tell 53 = .ok (.iconst 3, 1) := by decide +kernel
theorem dX11_tell_54 : decode cX11_tell 54 = .ok (.if_icmp .ne 19, 3) := by decide +kernel
theorem dX11_tell_57 : decode cX11_tell 57 = .ok (.iload_n 2, 1) := by decide +kernel
theorem dX11_tell_58 : decode cX11_tell 58 = .ok (.i2l, 1) := by decide +kernel
theorem dX11_tell_59 : decode cX11_tell 59 = .ok (.lconst 1, 1) := by decide +kernel
theorem dX11_tell_60 : decode cX11_tell 60 = .ok (.ldc2_w 201, 3) := by decide +kernel
theorem dX11_tell_63 : decode cX11_tell 63 = .ok (.invokestatic 116, 3) := by decide +kernel
theorem dX11_tell_66 : decode cX11_tell 66 = .ok (.ifCond .eq 7, 3) := by decide +kernel
theorem dX11_tell_69 : decode cX11_tell 69 = .ok (.iconst 1, 1) := by decide +kernel
theorem dX11_tell_70 : decode cX11_tell 70 = .ok (.goto 4, 3) := by decide +kernel
theorem dX11_tell_73 : decode cX11_tell 73 = .ok (.iconst 0, 1) := by decide +kernel
theorem dX11_tell_74 : decode cX11_tell 74 = .ok (.istore_n 3, 1) := by decide +kernel
theorem dX11_tell_75 : decode cX11_tell 75 = .ok (.iload_n 3, 1) := by decide +kernel
theorem dX11_tell_76 : decode cX11_tell 76 = .ok (.ifCond .ne 5, 3) := by decide +kernel
theorem dX11_tell_79 : decode cX11_tell 79 = .ok (.iconst (-1), 1) := by decide +kernel
theorem dX11_tell_80 : decode cX11_tell 80 = .ok (.ireturn, 1) := by decide +kernel
theorem dX11_tell_81 : decode cX11_tell 81 = .ok (.aload_n 0, 1) := by decide +kernel
theorem dX11_tell_82 : decode cX11_tell 82 = .ok (.getfield 7, 3) := by decide +kernel
theorem dX11_tell_85 : decode cX11_tell 85 = .ok (.iload_n 1, 1) := by decide +kernel
theorem dX11_tell_86 : decode cX11_tell 86 = .ok (.iaload, 1) := by decide +kernel
theorem dX11_tell_87 : decode cX11_tell 87 = .ok (.istore 4, 2) := by decide +kernel
theorem dX11_tell_89 : decode cX11_tell 89 = .ok (.iload 4, 2) := by decide +kernel
theorem dX11_tell_91 : decode cX11_tell 91 = .ok (.iload_n 2, 1) := by decide +kernel
theorem dX11_tell_92 : decode cX11_tell 92 = .ok (.if_icmp .ne 6, 3) := by decide +kernel
theorem dX11_tell_95 : decode cX11_tell 95 = .ok (.bipush (-2), 2) := by decide +kernel
theorem dX11_tell_97 : decode cX11_tell 97 = .ok (.ireturn, 1) := by decide +kernel
theorem dX11_tell_98 : decode cX11_tell 98 = .ok (.aload_n 0, 1) := by decide +kernel
theorem dX11_tell_99 : decode cX11_tell 99 = .ok (.invokevirtual 172, 3) := by decide +kernel
theorem dX11_tell_102 : decode cX11_tell 102 = .ok (.aload_n 0, 1) := by decide +kernel
theorem dX11_tell_103 : decode cX11_tell 103 = .ok (.getfield 7, 3) := by decide +kernel
theorem dX11_tell_106 : decode cX11_tell 106 = .ok (.iload_n 1, 1) := by decide +kernel
theorem dX11_tell_107 : decode cX11_tell 107 = .ok (.iload_n 2, 1) := by decide +kernel
theorem dX11_tell_108 : decode cX11_tell 108 = .ok (.iastore, 1) := by decide +kernel
theorem dX11_tell_109 : decode cX11_tell 109 = .ok (.iload_n 1, 1) := by decide +kernel
theorem dX11_tell_110 : decode cX11_tell 110 = .ok (.iconst 2, 1) := by decide +kernel
theorem dX11_tell_111 : decode cX11_tell 111 = .ok (.if_icmp .ge 7, 3) := by decide +kernel
theorem dX11_tell_114 : decode cX11_tell 114 = .ok (.aload_n 0, 1) := by decide +kernel
theorem dX11_tell_115 : decode cX11_tell 115 = .ok (.invokevirtual 63, 3) := by decide +kernel
theorem dX11_tell_118 : decode cX11_tell 118 = .ok (.iload_n 1, 1) := by decide +kernel
theorem dX11_tell_119 : decode cX11_tell 119 = .ok (.ifCond .ne 7, 3) := by decide +kernel
theorem dX11_tell_122 : decode cX11_tell 122 = .ok (.aload_n 0, 1) := by decide +kernel
theorem dX11_tell_123 : decode cX11_tell 123 = .ok (.invokevirtual 60, 3) := by decide +kernel
theorem dX11_tell_126 : decode cX11_tell 126 = .ok (.iload 4, 2) := by decide +kernel
theorem dX11_tell_128 : decode cX11_tell 128 = .ok (.ireturn, 1) := by decide +kernel
theorem dX11_type_0 : decode cX11_type 0 = .ok (.iload_n 1, 1) := by decide +kernel
theorem dX11_type_1 : decode cX11_type 1 = .ok (.i2l, 1) := by decide +kernel
theorem dX11_type_2 : decode cX11_type 2 = .ok (.ldc2_w 227, 3) := by decide +kernel
theorem dX11_type_5 : decode cX11_type 5 = .ok (.ldc2_w 229, 3) := by decide +kernel
theorem dX11_type_8 : decode cX11_type 8 = .ok (.invokestatic 116, 3) := by decide +kernel
theorem dX11_type_11 : decode cX11_type 11 = .ok (.ifCond .ne 5, 3) := by decide +kernel
theorem dX11_type_14 : decode cX11_type 14 = .ok (.iconst (-1), 1) := by decide +kernel
theorem dX11_type_15 : decode cX11_type 15 = .ok (.ireturn, 1) := by decide +kernel
theorem dX11_type_16 : decode cX11_type 16 = .ok (.aload_n 0, 1) := by decide +kernel
theorem dX11_type_17 : decode cX11_type 17 = .ok (.getfield 231, 3) := by decide +kernel
theorem dX11_type_20 : decode cX11_type 20 = .ok (.bipush 90, 2) := by decide +kernel
theorem dX11_type_22 : decode cX11_type 22 = .ok (.if_icmp .ne 6, 3) := by decide +kernel
theorem dX11_type_25 : decode cX11_type 25 = .ok (.bipush (-3), 2) := by decide +kernel
theorem dX11_type_27 : decode cX11_type 27 = .ok (.ireturn, 1) := by decide +kernel
theorem dX11_type_28 : decode cX11_type 28 = .ok (.aload_n 0, 1) := by decide +kernel
theorem dX11_type_29 : decode cX11_type 29 = .ok (.getfield 44, 3) := by decide +kernel
theorem dX11_type_32 : decode cX11_type 32 = .ok (.aload_n 0, 1) := by decide +kernel
theorem dX11_type_33 : decode cX11_type 33 = .ok (.getfield 231, 3) := by decide +kernel
theorem dX11_type_36 : decode cX11_type 36 = .ok (.iload_n 1, 1) := by decide +kernel
theorem dX11_type_37 : decode cX11_type 37 = .ok (.iastore, 1) := by decide +kernel
theorem dX11_type_38 : decode cX11_type 38 = .ok (.aload_n 0, 1) := by decide +kernel
theorem dX11_type_39 : decode cX11_type 39 = .ok (.dup, 1) := by decide +kernel
theorem dX11_type_40 : decode cX11_type 40 = .ok (.getfield 231, 3) := by decide +kernel
theorem dX11_type_43 : decode cX11_type 43 = .ok (.iconst 1, 1) := by decide +kernel
theorem dX11_type_44 : decode cX11_type 44 = .ok (.iadd, 1) := by decide +kernel
theorem dX11_type_45 : decode cX11_type 45 = .ok (.putfield 231, 3) := by decide +kernel
theorem dX11_type_48 : decode cX11_type 48 = .ok (.aload_n 0, 1) := by decide +kernel
theorem dX11_type_49 : decode cX11_type 49 = .ok (.getfield 231, 3) := by decide +kernel
theorem dX11_type_52 : decode cX11_type 52 = .ok (.ireturn, 1) := by decide +kernel
theorem dX11_here_0 : decode cX11_here 0 = .ok (.aload_n 0, 1) := by decide +kernel
theorem dX11_here_1 : decode cX11_here 1 = .ok (.getfield 234, 3) := by decide +kernel
theorem dX11_here_4 : decode cX11_here 4 = .ok (.aload_n 0, 1) := by decide +kernel
theorem dX11_here_5 : decode cX11_here 5 = .ok (.getfield 231, 3) := by decide +kernel
theorem dX11_here_8 : decode cX11_here 8 = .ok (.if_icmp .ge 30, 3) := by decide +kernel
theorem dX11_here_11 : decode cX11_here 11 = .ok (.aload_n 0, 1) := by decide +kernel
theorem dX11_here_12 : decode cX11_here 12 = .ok (.getfield 44, 3) := by decide +kernel
theorem dX11_here_15 : decode cX11_here 15 = .ok (.aload_n 0, 1) := by decide +kernel
theorem dX11_here_16 : decode cX11_here 16 = .ok (.getfield 234, 3) := by decide +kernel
theorem dX11_here_19 : decode cX11_here 19 = .ok (.iaload, 1) := by decide +kernel
theorem dX11_here_20 : decode cX11_here 20 = .ok (.bipush 32, 2) := by decide +kernel
theorem dX11_here_22 : decode cX11_here 22 = .ok (.if_icmp .ne 16, 3) := by decide +kernel
theorem dX11_here_25 : decode cX11_here 25 = .ok (.aload_n 0, 1) := by decide +kernel
theorem dX11_here_26 : decode cX11_here 26 = .ok (.dup, 1) := by decide +kernel
theorem dX11_here_27 : decode cX11_here 27 = .ok (.getfield 234, 3) := by decide +kernel
theorem dX11_here_30 : decode cX11_here 30 = .ok (.iconst 1, 1) := by decide +kernel
theorem dX11_here_31 : decode cX11_here 31 = .ok (.iadd, 1) := by decide +kernel
theorem dX11_here_32 : decode cX11_here 32 = .ok (.putfield 234, 3) := by decide +kernel
theorem dX11_here_35 : decode cX11_here 35 = .ok (.goto (-35), 3) := by decide +kernel
theorem dX11_here_38 : decode cX11_here 38 = .ok (.aload_n 0, 1) := by decide +kernel
theorem dX11_here_39 : decode cX11_here 39 = .ok (.getfield 234, 3) := by decide +kernel
theorem dX11_here_42 : decode cX11_here 42 = .ok (.aload_n 0, 1) := by decide +kernel
theorem dX11_here_43 : decode cX11_here 43 = .ok (.getfield 231, 3) := by decide +kernel
theorem dX11_here_46 : decode cX11_here 46 = .ok (.if_icmp .ge 15, 3) := by decide +kernel
theorem dX11_here_49 : decode cX11_here 49 = .ok (.aload_n 0, 1) := by decide +kernel
theorem dX11_here_50 : decode cX11_here 50 = .ok (.getfield 44, 3) := by decide +kernel
theorem dX11_here_53 : decode cX11_here 53 = .ok (.aload_n 0, 1) := by decide +kernel
theorem dX11_here_54 : decode cX11_here 54 = .ok (.getfield 234, 3) := by decide +kernel
theorem dX11_here_57 : decode cX11_here 57 = .ok (.iaload, 1) := by decide +kernel
theorem dX11_here_58 : decode cX11_here 58 = .ok (.goto 4, 3) := by decide +kernel
theorem dX11_here_61 : decode cX11_here 61 = .ok (.iconst (-1), 1) := by decide +kernel
theorem dX11_here_62 : decode cX11_here 62 = .ok (.ireturn, 1) := by decide +kernel
theorem dX11_isStop_0 : decode cX11_isStop 0 = .ok (.aload_n 0, 1) := by decide +kernel
theorem dX11_isStop_1 : decode cX11_isStop 1 = .ok (.invokevirtual 237, 3) := by decide +kernel
theorem dX11_isStop_4 : decode cX11_isStop 4 = .ok (.istore_n 1, 1) := by decide +kernel
theorem dX11_isStop_5 : decode cX11_isStop 5 = .ok (.iload_n 1, 1) := by decide +kernel
theorem dX11_isStop_6 : decode cX11_isStop 6 = .ok (.ifCond .lt 9, 3) := by decide +kernel
theorem dX11_isStop_9 : decode cX11_isStop 9 = .ok (.iload_n 1, 1) := by decide +kernel
theorem dX11_isStop_10 : decode cX11_isStop 10 = .ok (.bipush 59, 2) := by decide +kernel
theorem dX11_isStop_12 : decode cX11_isStop 12 = .ok (.if_icmp .ne 7, 3) := by decide +kernel
theorem dX11_isStop_15 : decode cX11_isStop 15 = .ok (.iconst 1, 1) := by decide +kernel
theorem dX11_isStop_16 : decode cX11_isStop 16 = .ok (.goto 4, 3) := by decide +kernel
theorem dX11_isStop_19 : decode cX11_isStop 19 = .ok (.iconst 0, 1) := by decide +kernel
theorem dX11_isStop_20 : decode cX11_isStop 20 = .ok (.ireturn, 1) := by decide +kernel
theorem dX11_nodeHere_0 : decode cX11_nodeHere 0 = .ok (.aload_n 0, 1) := by decide +kernel
theorem dX11_nodeHere_1 : decode cX11_nodeHere 1 = .ok (.invokevirtual 237, 3) := by decide +kernel
theorem dX11_nodeHere_4 : decode cX11_nodeHere 4 = .ok (.istore_n 1, 1) := by decide +kernel
theorem dX11_nodeHere_5 : decode cX11_nodeHere 5 = .ok (.iload_n 1, 1) := by decide +kernel
theorem dX11_nodeHere_6 : decode cX11_nodeHere 6 = .ok (.bipush 48, 2) := by decide +kernel
theorem dX11_nodeHere_8 : decode cX11_nodeHere 8 = .ok (.if_icmp .lt 23, 3) := by decide +kernel
theorem dX11_nodeHere_11 : decode cX11_nodeHere 11 = .ok (.iload_n 1, 1) := by decide +kernel
theorem dX11_nodeHere_12 : decode cX11_nodeHere 12 = .ok (.bipush 48, 2) := by decide +kernel
theorem dX11_nodeHere_14 : decode cX11_nodeHere 14 = .ok (.aload_n 0, 1) := by decide +kernel
theorem dX11_nodeHere_15 : decode cX11_nodeHere 15 = .ok (.getfield 7, 3) := by decide +kernel
theorem dX11_nodeHere_18 : decode cX11_nodeHere 18 = .ok (.iconst 0, 1) := by decide +kernel
theorem dX11_nodeHere_19 : decode cX11_nodeHere 19 = .ok (.iaload, 1) := by decide +kernel
theorem dX11_nodeHere_20 : decode cX11_nodeHere 20 = .ok (.iadd, 1) := by decide +kernel
theorem dX11_nodeHere_21 : decode cX11_nodeHere 21 = .ok (.if_icmp .ge 10, 3) := by decide +kernel
theorem dX11_nodeHere_24 : decode cX11_nodeHere 24 = .ok (.iload_n 1, 1) := by decide +kernel
theorem dX11_nodeHere_25 : decode cX11_nodeHere 25 = .ok (.bipush 48, 2) := by decide +kernel
theorem dX11_nodeHere_27 : decode cX11_nodeHere 27 = .ok (.isub, 1) := by decide +kernel
theorem dX11_nodeHere_28 : decode cX11_nodeHere 28 = .ok (.goto 5, 3) := by decide +kernel
theorem dX11_nodeHere_31 : decode cX11_nodeHere 31 = .ok (.bipush (-4), 2) := by decide +kernel
theorem dX11_nodeHere_33 : decode cX11_nodeHere 33 = .ok (.ireturn, 1) := by decide +kernel
theorem dX11_readsRow_0 : decode cX11_readsRow 0 = .ok (.iconst 0, 1) := by decide +kernel
theorem dX11_readsRow_1 : decode cX11_readsRow 1 = .ok (.istore_n 2, 1) := by decide +kernel
theorem dX11_readsRow_2 : decode cX11_readsRow 2 = .ok (.bipush (-4), 2) := by decide +kernel
theorem dX11_readsRow_4 : decode cX11_readsRow 4 = .ok (.istore_n 3, 1) := by decide +kernel
theorem dX11_readsRow_5 : decode cX11_readsRow 5 = .ok (.bipush (-4), 2) := by decide +kernel
theorem dX11_readsRow_7 : decode cX11_readsRow 7 = .ok (.istore 4, 2) := by decide +kernel
theorem dX11_readsRow_9 : decode cX11_readsRow 9 = .ok (.iconst 0, 1) := by decide +kernel
theorem dX11_readsRow_10 : decode cX11_readsRow 10 = .ok (.istore 5, 2) := by decide +kernel
theorem dX11_readsRow_12 : decode cX11_readsRow 12 = .ok (.aload_n 0, 1) := by decide +kernel
theorem dX11_readsRow_13 : decode cX11_readsRow 13 = .ok (.invokevirtual 240, 3) := by decide +kernel
theorem dX11_readsRow_16 : decode cX11_readsRow 16 = .ok (.bipush (-4), 2) := by decide +kernel
theorem dX11_readsRow_18 : decode cX11_readsRow 18 = .ok (.if_icmp .eq 83, 3) := by decide +kernel
theorem dX11_readsRow_21 : decode cX11_readsRow 21 = .ok (.iload_n 2, 1) := by decide +kernel
theorem dX11_readsRow_22 : decode cX11_readsRow 22 = .ok (.aload_n 0, 1) := by decide +kernel
theorem dX11_readsRow_23 : decode cX11_readsRow 23 = .ok (.invokevirtual 240, 3) := by decide +kernel
theorem dX11_readsRow_26 : decode cX11_readsRow 26 = .ok (.invokestatic 91, 3) := by decide +kernel
theorem dX11_readsRow_29 : decode cX11_readsRow 29 = .ok (.ifCond .ne 72, 3) := by decide +kernel
theorem dX11_readsRow_32 : decode cX11_readsRow 32 = .ok (.aload_n 0, 1) := by decide +kernel
theorem dX11_readsRow_33 : decode cX11_readsRow 33 = .ok (.invokevirtual 240, 3) := by decide +kernel
theorem dX11_readsRow_36 : decode cX11_readsRow 36 = .ok (.istore 6, 2) := by decide +kernel
theorem dX11_readsRow_38 : decode cX11_readsRow 38 = .ok (.iload 5, 2) := by decide +kernel
theorem dX11_readsRow_40 : decode cX11_readsRow 40 = .ok (.iload 4, 2) := by decide +kernel
theorem dX11_readsRow_42 : decode cX11_readsRow 42 = .ok (.bipush (-4), 2) := by decide +kernel
theorem dX11_readsRow_44 : decode cX11_readsRow 44 = .ok (.if_icmp .ne 7, 3) := by decide +kernel
theorem dX11_readsRow_47 : decode cX11_readsRow 47 = .ok (.iconst 0, 1) := by decide +kernel
theorem dX11_readsRow_48 : decode cX11_readsRow 48 = .ok (.goto 12, 3) := by decide +kernel
theorem dX11_readsRow_51 : decode cX11_readsRow 51 = .ok (.iconst 1, 1) := by decide +kernel
theorem dX11_readsRow_52 : decode cX11_readsRow 52 = .ok (.iload 4, 2) := by decide +kernel
theorem dX11_readsRow_54 : decode cX11_readsRow 54 = .ok (.iload 6, 2) := by decide +kernel
theorem dX11_readsRow_56 : decode cX11_readsRow 56 = .ok (.invokestatic 87, 3) := by decide +kernel
theorem dX11_readsRow_59 : decode cX11_readsRow 59 = .ok (.ishl, 1) := by decide +kernel
theorem dX11_readsRow_60 : decode cX11_readsRow 60 = .ok (.ior, 1) := by decide +kernel
theorem dX11_readsRow_61 : decode cX11_readsRow 61 = .ok (.istore 5, 2) := by decide +kernel
theorem dX11_readsRow_63 : decode cX11_readsRow 63 = .ok (.iload 4, 2) := by decide +kernel
theorem dX11_readsRow_65 : decode cX11_readsRow 65 = .ok (.bipush (-4), 2) := by decide +kernel
theorem dX11_readsRow_67 : decode cX11_readsRow 67 = .ok (.if_icmp .ne 8, 3) := by decide +kernel
theorem dX11_readsRow_70 : decode cX11_readsRow 70 = .ok (.iload 6, 2) := by decide +kernel
theorem dX11_readsRow_72 : decode cX11_readsRow 72 = .ok (.goto 4, 3) := by decide +kernel
theorem dX11_readsRow_75 : decode cX11_readsRow 75 = .ok (.iload_n 3, 1) := by decide +kernel
theorem dX11_readsRow_76 : decode cX11_readsRow 76 = .ok (.istore_n 3, 1) := by decide +kernel
theorem dX11_readsRow_77 : decode cX11_readsRow 77 = .ok (.iload_n 2, 1) := by decide +kernel
theorem dX11_readsRow_78 : decode cX11_readsRow 78 = .ok (.iconst 1, 1) := by decide +kernel
theorem dX11_readsRow_79 : decode cX11_readsRow 79 = .ok (.iload 6, 2) := by decide +kernel
theorem dX11_readsRow_81 : decode cX11_readsRow 81 = .ok (.ishl, 1) := by decide +kernel
theorem dX11_readsRow_82 : decode cX11_readsRow 82 = .ok (.ior, 1) := by decide +kernel
theorem dX11_readsRow_83 : decode cX11_readsRow 83 = .ok (.istore_n 2, 1) := by decide +kernel
theorem dX11_readsRow_84 : decode cX11_readsRow 84 = .ok (.iload 6, 2) := by decide +kernel
theorem dX11_readsRow_86 : decode cX11_readsRow 86 = .ok (.istore 4, 2) := by decide +kernel
theorem dX11_readsRow_88 : decode cX11_readsRow 88 = .ok (.aload_n 0, 1) := by decide +kernel
theorem dX11_readsRow_89 : decode cX11_readsRow 89 = .ok (.dup, 1) := by decide +kernel
theorem dX11_readsRow_90 : decode cX11_readsRow 90 = .ok (.getfield 234, 3) := by decide +kernel
theorem dX11_readsRow_93 : decode cX11_readsRow 93 = .ok (.iconst 1, 1) := by decide +kernel
theorem dX11_readsRow_94 : decode cX11_readsRow 94 = .ok (.iadd, 1) := by decide +kernel
theorem dX11_readsRow_95 : decode cX11_readsRow 95 = .ok (.putfield 234, 3) := by decide +kernel
theorem dX11_readsRow_98 : decode cX11_readsRow 98 = .ok (.goto (-86), 3) := by decide +kernel
theorem dX11_readsRow_101 : decode cX11_readsRow 101 = .ok (.iload_n 2, 1) := by decide +kernel
theorem dX11_readsRow_102 : decode cX11_readsRow 102 = .ok (.iconst 1, 1) := by decide +kernel
theorem dX11_readsRow_103 : decode cX11_readsRow 103 = .ok (.aload_n 0, 1) := by decide +kernel
theorem dX11_readsRow_104 : decode cX11_readsRow 104 = .ok (.getfield 7, 3) := by decide +kernel
theorem dX11_readsRow_107 : decode cX11_readsRow 107 = .ok (.iconst 0, 1) := by decide +kernel
theorem dX11_readsRow_108 : decode cX11_readsRow 108 = .ok (.iaload, 1) := by decide +kernel
theorem dX11_readsRow_109 : decode cX11_readsRow 109 = .ok (.ishl, 1) := by decide +kernel
theorem dX11_readsRow_110 : decode cX11_readsRow 110 = .ok (.iconst 1, 1) := by decide +kernel
theorem dX11_readsRow_111 : decode cX11_readsRow 111 = .ok (.isub, 1) := by decide +kernel
theorem dX11_readsRow_112 : decode cX11_readsRow 112 = .ok (.if_icmp .eq 5, 3) := by decide +kernel
theorem dX11_readsRow_115 : decode cX11_readsRow 115 = .ok (.iconst 0, 1) := by decide +kernel
theorem dX11_readsRow_116 : decode cX11_readsRow 116 = .ok (.ireturn, 1) := by decide +kernel
theorem dX11_readsRow_117 : decode cX11_readsRow 117 = .ok (.aload_n 0, 1) := by decide +kernel
theorem dX11_readsRow_118 : decode cX11_readsRow 118 = .ok (.getfield 47, 3) := by decide +kernel
theorem dX11_readsRow_121 : decode cX11_readsRow 121 = .ok (.aload_n 0, 1) := by decide +kernel
theorem dX11_readsRow_122 : decode cX11_readsRow 122 = .ok (.getfield 243, 3) := by decide +kernel
theorem dX11_readsRow_125 : decode cX11_readsRow 125 = .ok (.iload 5, 2) := by decide +kernel
theorem dX11_readsRow_127 : decode cX11_readsRow 127 = .ok (.iload_n 1, 1) := by decide +kernel
theorem dX11_readsRow_128 : decode cX11_readsRow 128 = .ok (.ifCond .eq 14, 3) := by decide +kernel
theorem dX11_readsRow_131 : decode cX11_readsRow 131 = .ok (.iconst 1, 1) := by decide +kernel
theorem dX11_readsRow_132 : decode cX11_readsRow 132 = .ok (.iload_n 3, 1) := by decide +kernel
theorem dX11_readsRow_133 : decode cX11_readsRow 133 = .ok (.iload 4, 2) := by decide +kernel
theorem dX11_readsRow_135 : decode cX11_readsRow 135 = .ok (.invokestatic 87, 3) := by decide +kernel
theorem dX11_readsRow_138 : decode cX11_readsRow 138 = .ok (.ishl, 1) := by decide +kernel
theorem dX11_readsRow_139 : decode cX11_readsRow 139 = .ok (.goto 4, 3) := by decide +kernel
theorem dX11_readsRow_142 : decode cX11_readsRow 142 = .ok (.iconst 0, 1) := by decide +kernel
theorem dX11_readsRow_143 : decode cX11_readsRow 143 = .ok (.ior, 1) := by decide +kernel
theorem dX11_readsRow_144 : decode cX11_readsRow 144 = .ok (.iastore, 1) := by decide +kernel
theorem dX11_readsRow_145 : decode cX11_readsRow 145 = .ok (.iconst 1, 1) := by decide +kernel
theorem dX11_readsRow_146 : decode cX11_readsRow 146 = .ok (.ireturn, 1) := by decide +kernel
theorem dX11_readsStar_0 : decode cX11_readsStar 0 = .ok (.aload_n 0, 1) := by decide +kernel
theorem dX11_readsStar_1 : decode cX11_readsStar 1 = .ok (.invokevirtual 240, 3) := by decide +kernel
theorem dX11_readsStar_4 : decode cX11_readsStar 4 = .ok (.istore_n 1, 1) := by decide +kernel
theorem dX11_readsStar_5 : decode cX11_readsStar 5 = .ok (.iload_n 1, 1) := by decide +kernel
theorem dX11_readsStar_6 : decode cX11_readsStar 6 = .ok (.bipush (-4), 2) := by decide +kernel
theorem dX11_readsStar_8 : decode cX11_readsStar 8 = .ok (.if_icmp .ne 5, 3) := by decide +kernel
theorem dX11_readsStar_11 : decode cX11_readsStar 11 = .ok (.iconst 0, 1) := by decide +kernel
theorem dX11_readsStar_12 : decode cX11_readsStar 12 = .ok (.ireturn, 1) := by decide +kernel
theorem dX11_readsStar_13 : decode cX11_readsStar 13 = .ok (.aload_n 0, 1) := by decide +kernel
theorem dX11_readsStar_14 : decode cX11_readsStar 14 = .ok (.dup, 1) := by decide +kernel
theorem dX11_readsStar_15 : decode cX11_readsStar 15 = .ok (.getfield 234, 3) := by decide +kernel
theorem dX11_readsStar_18 : decode cX11_readsStar 18 = .ok (.iconst 1, 1) := by decide +kernel
theorem dX11_readsStar_19 : decode cX11_readsStar 19 = .ok (.iadd, 1) := by decide +kernel
theorem dX11_readsStar_20 : decode cX11_readsStar 20 = .ok (.putfield 234, 3) := by decide +kernel
theorem dX11_readsStar_23 : decode cX11_readsStar 23 = .ok (.aload_n 0, 1) := by decide +kernel
theorem dX11_readsStar_24 : decode cX11_readsStar 24 = .ok (.getfield 47, 3) := by decide +kernel
theorem dX11_readsStar_27 : decode cX11_readsStar 27 = .ok (.aload_n 0, 1) := by decide +kernel
theorem dX11_readsStar_28 : decode cX11_readsStar 28 = .ok (.getfield 243, 3) := by decide +kernel
theorem dX11_readsStar_31 : decode cX11_readsStar 31 = .ok (.iconst 0, 1) := by decide +kernel
theorem dX11_readsStar_32 : decode cX11_readsStar 32 = .ok (.iastore, 1) := by decide +kernel
theorem dX11_readsStar_33 : decode cX11_readsStar 33 = .ok (.iconst 0, 1) := by decide +kernel
theorem dX11_readsStar_34 : decode cX11_readsStar 34 = .ok (.istore_n 2, 1) := by decide +kernel
theorem dX11_readsStar_35 : decode cX11_readsStar 35 = .ok (.iload_n 2, 1) := by decide +kernel
theorem dX11_readsStar_36 : decode cX11_readsStar 36 = .ok (.aload_n 0, 1) := by decide +kernel
theorem dX11_readsStar_37 : decode cX11_readsStar 37 = .ok (.getfield 7, 3) := by decide +kernel
theorem dX11_readsStar_40 : decode cX11_readsStar 40 = .ok (.iconst 0, 1) := by decide +kernel
theorem dX11_readsStar_41 : decode cX11_readsStar 41 = .ok (.iaload, 1) := by decide +kernel
theorem dX11_readsStar_42 : decode cX11_readsStar 42 = .ok (.if_icmp .ge 37, 3) := by decide +kernel
theorem dX11_readsStar_45 : decode cX11_readsStar 45 = .ok (.aload_n 0, 1) := by decide +kernel
theorem dX11_readsStar_46 : decode cX11_readsStar 46 = .ok (.getfield 47, 3) := by decide +kernel
theorem dX11_readsStar_49 : decode cX11_readsStar 49 = .ok (.aload_n 0, 1) := by decide +kernel
theorem dX11_readsStar_50 : decode cX11_readsStar 50 = .ok (.getfield 243, 3) := by decide +kernel
theorem dX11_readsStar_53 : decode cX11_readsStar 53 = .ok (.dup2, 1) := by decide +kernel
theorem dX11_readsStar_54 : decode cX11_readsStar 54 = .ok (.iaload, 1) := by decide +kernel
theorem dX11_readsStar_55 : decode cX11_readsStar 55 = .ok (.iload_n 2, 1) := by decide +kernel
theorem dX11_readsStar_56 : decode cX11_readsStar 56 = .ok (.iload_n 1, 1) := by decide +kernel
theorem dX11_readsStar_57 : decode cX11_readsStar 57 = .ok (.if_icmp .ne 7, 3) := by decide +kernel
theorem dX11_readsStar_60 : decode cX11_readsStar 60 = .ok (.iconst 0, 1) := by decide +kernel
theorem dX11_readsStar_61 : decode cX11_readsStar 61 = .ok (.goto 10, 3) := by decide +kernel
theorem dX11_readsStar_64 : decode cX11_readsStar 64 = .ok (.iconst 1, 1) := by decide +kernel
theorem dX11_readsStar_65 : decode cX11_readsStar 65 = .ok (.iload_n 2, 1) := by decide +kernel
theorem dX11_readsStar_66 : decode cX11_readsStar 66 = .ok (.iload_n 1, 1) := by decide +kernel
theorem dX11_readsStar_67 : decode cX11_readsStar 67 = .ok (.invokestatic 87, 3) := by decide +kernel
theorem dX11_readsStar_70 : decode cX11_readsStar 70 = .ok (.ishl, 1) := by decide +kernel
theorem dX11_readsStar_71 : decode cX11_readsStar 71 = .ok (.ior, 1) := by decide +kernel
theorem dX11_readsStar_72 : decode cX11_readsStar 72 = .ok (.iastore, 1) := by decide +kernel
theorem dX11_readsStar_73 : decode cX11_readsStar 73 = .ok (.iinc 2 1, 3) := by decide +kernel
theorem dX11_readsStar_76 : decode cX11_readsStar 76 = .ok (.goto (-41), 3) := by decide +kernel
theorem dX11_readsStar_79 : decode cX11_readsStar 79 = .ok (.iconst 1, 1) := by decide +kernel
theorem dX11_readsStar_80 : decode cX11_readsStar 80 = .ok (.ireturn, 1) := by decide +kernel
theorem dX11_readsLinks_0 : decode cX11_readsLinks 0 = .ok (.iconst 0, 1) := by decide +kernel
theorem dX11_readsLinks_1 : decode cX11_readsLinks 1 = .ok (.istore_n 1, 1) := by decide +kernel
theorem dX11_readsLinks_2 : decode cX11_readsLinks 2 = .ok (.iconst 1, 1) := by decide +kernel
theorem dX11_readsLinks_3 : decode cX11_readsLinks 3 = .ok (.istore_n 2, 1) := by decide +kernel
theorem dX11_readsLinks_4 : decode cX11_readsLinks 4 = .ok (.iload_n 2, 1) := by decide +kernel
theorem dX11_readsLinks_5 : decode cX11_readsLinks 5 = .ok (.ifCond .eq 138, 3) := by decide +kernel
theorem dX11_readsLinks_8 : decode cX11_readsLinks 8 = .ok (.aload_n 0, 1) := by decide +kernel
theorem dX11_readsLinks_9 : decode cX11_readsLinks 9 = .ok (.invokevirtual 240, 3) := by decide +kernel
theorem dX11_readsLinks_12 : decode cX11_readsLinks 12 = .ok (.istore_n 3, 1) := by decide +kernel
theorem dX11_readsLinks_13 : decode cX11_readsLinks 13 = .ok (.iload_n 3, 1) := by decide +kernel
theorem dX11_readsLinks_14 : decode cX11_readsLinks 14 = .ok (.bipush (-4), 2) := by decide +kernel
theorem dX11_readsLinks_16 : decode cX11_readsLinks 16 = .ok (.if_icmp .ne 5, 3) := by decide +kernel
theorem dX11_readsLinks_19 : decode cX11_readsLinks 19 = .ok (.iconst 0, 1) := by decide +kernel
theorem dX11_readsLinks_20 : decode cX11_readsLinks 20 = .ok (.ireturn, 1) := by decide +kernel
theorem dX11_readsLinks_21 : decode cX11_readsLinks 21 = .ok (.aload_n 0, 1) := by decide +kernel
theorem dX11_readsLinks_22 : decode cX11_readsLinks 22 = .ok (.dup, 1) := by decide +kernel
theorem dX11_readsLinks_23 : decode cX11_readsLinks 23 = .ok (.getfield 234, 3) := by decide +kernel
theorem dX11_readsLinks_26 : decode cX11_readsLinks 26 = .ok (.iconst 1, 1) := by decide +kernel
theorem dX11_readsLinks_27 : decode cX11_readsLinks 27 = .ok (.iadd, 1) := by decide +kernel
theorem dX11_readsLinks_28 : decode cX11_readsLinks 28 = .ok (.putfield 234, 3) := by decide +kernel
theorem dX11_readsLinks_31 : decode cX11_readsLinks 31 = .ok (.aload_n 0, 1) := by decide +kernel
theorem dX11_readsLinks_32 : decode cX11_readsLinks 32 = .ok (.invokevirtual 237, 3) := by decide +kernel
theorem dX11_readsLinks_35 : decode cX11_readsLinks 35 = .ok (.bipush 45, 2) := by decide +kernel
theorem dX11_readsLinks_37 : decode cX11_readsLinks 37 = .ok (.if_icmp .eq 5, 3) := by decide +kernel
theorem dX11_readsLinks_40 : decode cX11_readsLinks 40 = .ok (.iconst 0, 1) := by decide +kernel
theorem dX11_readsLinks_41 : decode cX11_readsLinks 41 = .ok (.ireturn, 1) := by decide +kernel
theorem dX11_readsLinks_42 : decode cX11_readsLinks 42 = .ok (.aload_n 0, 1) := by decide +kernel
theorem dX11_readsLinks_43 : decode cX11_readsLinks 43 = .ok (.dup, 1) := by decide +kernel
theorem dX11_readsLinks_44 : decode cX11_readsLinks 44 = .ok (.getfield 234, 3) := by decide +kernel
theorem dX11_readsLinks_47 : decode cX11_readsLinks 47 = .ok (.iconst 1, 1) := by decide +kernel
theorem dX11_readsLinks_48 : decode cX11_readsLinks 48 = .ok (.iadd, 1) := by decide +kernel
theorem dX11_readsLinks_49 : decode cX11_readsLinks 49 = .ok (.putfield 234, 3) := by decide +kernel
theorem dX11_readsLinks_52 : decode cX11_readsLinks 52 = .ok (.aload_n 0, 1) := by decide +kernel
theorem dX11_readsLinks_53 : decode cX11_readsLinks 53 = .ok (.invokevirtual 240, 3) := by decide +kernel
theorem dX11_readsLinks_56 : decode cX11_readsLinks 56 = .ok (.istore 4, 2) := by decide +kernel
theorem dX11_readsLinks_58 : decode cX11_readsLinks 58 = .ok (.iload 4, 2) := by decide +kernel
theorem dX11_readsLinks_60 : decode cX11_readsLinks 60 = .ok (.bipush (-4), 2) := by decide +kernel
theorem dX11_readsLinks_62 : decode cX11_readsLinks 62 = .ok (.if_icmp .eq 22, 3) := by decide +kernel
theorem dX11_readsLinks_65 : decode cX11_readsLinks 65 = .ok (.iload 4, 2) := by decide +kernel
theorem dX11_readsLinks_67 : decode cX11_readsLinks 67 = .ok (.iload_n 3, 1) := by decide +kernel
theorem dX11_readsLinks_68 : decode cX11_readsLinks 68 = .ok (.if_icmp .eq 16, 3) := by decide +kernel
theorem dX11_readsLinks_71 : decode cX11_readsLinks 71 = .ok (.iload_n 1, 1) := by decide +kernel
theorem dX11_readsLinks_72 : decode cX11_readsLinks 72 = .ok (.iload_n 3, 1) := by decide +kernel
theorem dX11_readsLinks_73 : decode cX11_readsLinks 73 = .ok (.iload 4, 2) := by decide +kernel
theorem dX11_readsLinks_75 : decode cX11_readsLinks 75 = .ok (.invokestatic 87, 3) := by decide +kernel
theorem dX11_readsLinks_78 : decode cX11_readsLinks 78 = .ok (.invokestatic 91, 3) := by decide +kernel
theorem dX11_readsLinks_81 : decode cX11_readsLinks 81 = .ok (.ifCond .eq 5, 3) := by decide +kernel
theorem dX11_readsLinks_84 : decode cX11_readsLinks 84 = .ok (.iconst 0, 1) := by decide +kernel
theorem dX11_readsLinks_85 : decode cX11_readsLinks 85 = .ok (.ireturn, 1) := by decide +kernel
theorem dX11_readsLinks_86 : decode cX11_readsLinks 86 = .ok (.aload_n 0, 1) := by decide +kernel
theorem dX11_readsLinks_87 : decode cX11_readsLinks 87 = .ok (.dup, 1) := by decide +kernel
theorem dX11_readsLinks_88 : decode cX11_readsLinks 88 = .ok (.getfield 234, 3) := by decide +kernel
theorem dX11_readsLinks_91 : decode cX11_readsLinks 91 = .ok (.iconst 1, 1) := by decide +kernel
theorem dX11_readsLinks_92 : decode cX11_readsLinks 92 = .ok (.iadd, 1) := by decide +kernel
theorem dX11_readsLinks_93 : decode cX11_readsLinks 93 = .ok (.putfield 234, 3) := by decide +kernel
theorem dX11_readsLinks_96 : decode cX11_readsLinks 96 = .ok (.iload_n 1, 1) := by decide +kernel
theorem dX11_readsLinks_97 : decode cX11_readsLinks 97 = .ok (.iconst 1, 1) := by decide +kernel
theorem dX11_readsLinks_98 : decode cX11_readsLinks 98 = .ok (.iload_n 3, 1) := by decide +kernel
theorem dX11_readsLinks_99 : decode cX11_readsLinks 99 = .ok (.iload 4, 2) := by decide +kernel
theorem dX11_readsLinks_101 : decode cX11_readsLinks 101 = .ok (.invokestatic 87, 3) := by decide +kernel
theorem dX11_readsLinks_104 : decode cX11_readsLinks 104 = .ok (.ishl, 1) := by decide +kernel
theorem dX11_readsLinks_105 : decode cX11_readsLinks 105 = .ok (.ior, 1) := by decide +kernel
theorem dX11_readsLinks_106 : decode cX11_readsLinks 106 = .ok (.istore_n 1, 1) := by decide +kernel
theorem dX11_readsLinks_107 : decode cX11_readsLinks 107 = .ok (.aload_n 0, 1) := by decide +kernel
theorem dX11_readsLinks_108 : decode cX11_readsLinks 108 = .ok (.invokevirtual 237, 3) := by decide +kernel
theorem dX11_readsLinks_111 : decode cX11_readsLinks 111 = .ok (.bipush 44, 2) := by decide +kernel
theorem dX11_readsLinks_113 : decode cX11_readsLinks 113 = .ok (.if_icmp .ne 7, 3) := by decide +kernel
theorem dX11_readsLinks_116 : decode cX11_readsLinks 116 = .ok (.iconst 1, 1) := by decide +kernel
theorem dX11_readsLinks_117 : decode cX11_readsLinks 117 = .ok (.goto 4, 3) := by decide +kernel
theorem dX11_readsLinks_120 : decode cX11_readsLinks 120 = .ok (.iconst 0, 1) := by decide +kernel
theorem dX11_readsLinks_121 : decode cX11_readsLinks 121 = .ok (.istore_n 2, 1) := by decide +kernel
theorem dX11_readsLinks_122 : decode cX11_readsLinks 122 = .ok (.aload_n 0, 1) := by decide +kernel
theorem dX11_readsLinks_123 : decode cX11_readsLinks 123 = .ok (.dup, 1) := by decide +kernel
theorem dX11_readsLinks_124 : decode cX11_readsLinks 124 = .ok (.getfield 234, 3) := by decide +kernel
theorem dX11_readsLinks_127 : decode cX11_readsLinks 127 = .ok (.iload_n 2, 1) := by decide +kernel
theorem dX11_readsLinks_128 : decode cX11_readsLinks 128 = .ok (.ifCond .eq 7, 3) := by decide +kernel
theorem dX11_readsLinks_131 : decode cX11_readsLinks 131 = .ok (.iconst 1, 1) := by decide +kernel
theorem dX11_readsLinks_132 : decode cX11_readsLinks 132 = .ok (.goto 4, 3) := by decide +kernel
theorem dX11_readsLinks_135 : decode cX11_readsLinks 135 = .ok (.iconst 0, 1) := by decide +kernel
theorem dX11_readsLinks_136 : decode cX11_readsLinks 136 = .ok (.iadd, 1) := by decide +kernel
theorem dX11_readsLinks_137 : decode cX11_readsLinks 137 = .ok (.putfield 234, 3) := by decide +kernel
theorem dX11_readsLinks_140 : decode cX11_readsLinks 140 = .ok (.goto (-136), 3) := by decide +kernel
theorem dX11_readsLinks_143 : decode cX11_readsLinks 143 = .ok (.aload_n 0, 1) := by decide +kernel
theorem dX11_readsLinks_144 : decode cX11_readsLinks 144 = .ok (.getfield 47, 3) := by decide +kernel
theorem dX11_readsLinks_147 : decode cX11_readsLinks 147 = .ok (.aload_n 0, 1) := by decide +kernel
theorem dX11_readsLinks_148 : decode cX11_readsLinks 148 = .ok (.getfield 243, 3) := by decide +kernel
theorem dX11_readsLinks_151 : decode cX11_readsLinks 151 = .ok (.iload_n 1, 1) := by decide +kernel
theorem dX11_readsLinks_152 : decode cX11_readsLinks 152 = .ok (.iastore, 1) := by decide +kernel
theorem dX11_readsLinks_153 : decode cX11_readsLinks 153 = .ok (.aload_n 0, 1) := by decide +kernel
theorem dX11_readsLinks_154 : decode cX11_readsLinks 154 = .ok (.iload_n 1, 1) := by decide +kernel
theorem dX11_readsLinks_155 : decode cX11_readsLinks 155 = .ok (.invokevirtual 189, 3) := by decide +kernel
theorem dX11_readsLinks_158 : decode cX11_readsLinks 158 = .ok (.ireturn, 1) := by decide +kernel
theorem dX11_word_0 : decode cX11_word 0 = .ok (.lconst 0, 1) := by decide +kernel
theorem dX11_word_1 : decode cX11_word 1 = .ok (.lstore_n 1, 1) := by decide +kernel
theorem dX11_word_2 : decode cX11_word 2 = .ok (.aload_n 0, 1) := by decide +kernel
theorem dX11_word_3 : decode cX11_word 3 = .ok (.getfield 234, 3) := by decide +kernel
theorem dX11_word_6 : decode cX11_word 6 = .ok (.istore_n 3, 1) := by decide +kernel
theorem dX11_word_7 : decode cX11_word 7 = .ok (.aload_n 0, 1) := by decide +kernel
theorem dX11_word_8 : decode cX11_word 8 = .ok (.getfield 234, 3) := by decide +kernel
theorem dX11_word_11 : decode cX11_word 11 = .ok (.aload_n 0, 1) := by decide +kernel
theorem dX11_word_12 : decode cX11_word 12 = .ok (.getfield 231, 3) := by decide +kernel
theorem dX11_word_15 : decode cX11_word 15 = .ok (.if_icmp .ge 78, 3) := by decide +kernel
theorem dX11_word_18 : decode cX11_word 18 = .ok (.aload_n 0, 1) := by decide +kernel
theorem dX11_word_19 : decode cX11_word 19 = .ok (.getfield 44, 3) := by decide +kernel
theorem dX11_word_22 : decode cX11_word 22 = .ok (.aload_n 0, 1) := by decide +kernel
theorem dX11_word_23 : decode cX11_word 23 = .ok (.getfield 234, 3) := by decide +kernel
theorem dX11_word_26 : decode cX11_word 26 = .ok (.iaload, 1) := by decide +kernel
theorem dX11_word_27 : decode cX11_word 27 = .ok (.i2l, 1) := by decide +kernel
theorem dX11_word_28 : decode cX11_word 28 = .ok (.ldc2_w 246, 3) := by decide +kernel
theorem dX11_word_31 : decode cX11_word 31 = .ok (.ldc2_w 248, 3) := by decide +kernel
theorem dX11_word_34 : decode cX11_word 34 = .ok (.invokestatic 116, 3) := by decide +kernel
theorem dX11_word_37 : decode cX11_word 37 = .ok (.ifCond .eq 56, 3) := by decide +kernel
theorem dX11_word_40 : decode cX11_word 40 = .ok (.aload_n 0, 1) := by decide +kernel
theorem dX11_word_41 : decode cX11_word 41 = .ok (.getfield 234, 3) := by decide +kernel
theorem dX11_word_44 : decode cX11_word 44 = .ok (.iload_n 3, 1) := by decide +kernel
theorem dX11_word_45 : decode cX11_word 45 = .ok (.isub, 1) := by decide +kernel
theorem dX11_word_46 : decode cX11_word 46 = .ok (.bipush 6, 2) := by decide +kernel
theorem dX11_word_48 : decode cX11_word 48 = .ok (.if_icmp .ge 28, 3) := by decide +kernel
theorem dX11_word_51 : decode cX11_word 51 = .ok (.ldc2_w 227, 3) := by decide +kernel
theorem dX11_word_54 : decode cX11_word 54 = .ok (.lload_n 1, 1) := by decide +kernel
theorem dX11_word_55 : decode cX11_word 55 = .ok (.lmul, 1) := by decide +kernel
theorem dX11_word_56 : decode cX11_word 56 = .ok (.aload_n 0, 1) := by decide +kernel
theorem dX11_word_57 : decode cX11_word 57 = .ok (.getfield 44, 3) := by decide +kernel
theorem dX11_word_60 : decode cX11_word 60 = .ok (.aload_n 0, 1) := by decide +kernel
theorem dX11_word_61 : decode cX11_word 61 = .ok (.getfield 234, 3) := by decide +kernel
theorem dX11_word_64 : decode cX11_word 64 = .ok (.iaload, 1) := by decide +kernel
theorem dX11_word_65 : decode cX11_word 65 = .ok (.i2l, 1) := by decide +kernel
theorem dX11_word_66 : decode cX11_word 66 = .ok (.ladd, 1) := by decide +kernel
theorem dX11_word_67 : decode cX11_word 67 = .ok (.ldc2_w 246, 3) := by decide +kernel
theorem dX11_word_70 : decode cX11_word 70 = .ok (.lsub, 1) := by decide +kernel
theorem dX11_word_71 : decode cX11_word 71 = .ok (.lconst 1, 1) := by decide +kernel
theorem dX11_word_72 : decode cX11_word 72 = .ok (.ladd, 1) := by decide +kernel
theorem dX11_word_73 : decode cX11_word 73 = .ok (.goto 6, 3) := by decide +kernel
theorem dX11_word_76 : decode cX11_word 76 = .ok (.ldc2_w 215, 3) := by decide +kernel
theorem dX11_word_79 : decode cX11_word 79 = .ok (.lstore_n 1, 1) := by decide +kernel
theorem dX11_word_80 : decode cX11_word 80 = .ok (.aload_n 0, 1) := by decide +kernel
theorem dX11_word_81 : decode cX11_word 81 = .ok (.dup, 1) := by decide +kernel
theorem dX11_word_82 : decode cX11_word 82 = .ok (.getfield 234, 3) := by decide +kernel
theorem dX11_word_85 : decode cX11_word 85 = .ok (.iconst 1, 1) := by decide +kernel
theorem dX11_word_86 : decode cX11_word 86 = .ok (.iadd, 1) := by decide +kernel
theorem dX11_word_87 : decode cX11_word 87 = .ok (.putfield 234, 3) := by decide +kernel
theorem dX11_word_90 : decode cX11_word 90 = .ok (.goto (-83), 3) := by decide +kernel
theorem dX11_word_93 : decode cX11_word 93 = .ok (.lload_n 1, 1) := by decide +kernel
theorem dX11_word_94 : decode cX11_word 94 = .ok (.lreturn, 1) := by decide +kernel
theorem dX11_name_0 : decode cX11_name 0 = .ok (.iload_n 0, 1) := by decide +kernel
theorem dX11_name_1 : decode cX11_name 1 = .ok (.i2l, 1) := by decide +kernel
theorem dX11_name_2 : decode cX11_name 2 = .ok (.ldc2_w 227, 3) := by decide +kernel
theorem dX11_name_5 : decode cX11_name 5 = .ok (.lmul, 1) := by decide +kernel
theorem dX11_name_6 : decode cX11_name 6 = .ok (.iload_n 1, 1) := by decide +kernel
theorem dX11_name_7 : decode cX11_name 7 = .ok (.i2l, 1) := by decide +kernel
theorem dX11_name_8 : decode cX11_name 8 = .ok (.ladd, 1) := by decide +kernel
theorem dX11_name_9 : decode cX11_name 9 = .ok (.ldc2_w 227, 3) := by decide +kernel
theorem dX11_name_12 : decode cX11_name 12 = .ok (.lmul, 1) := by decide +kernel
theorem dX11_name_13 : decode cX11_name 13 = .ok (.iload_n 2, 1) := by decide +kernel
theorem dX11_name_14 : decode cX11_name 14 = .ok (.i2l, 1) := by decide +kernel
theorem dX11_name_15 : decode cX11_name 15 = .ok (.ladd, 1) := by decide +kernel
theorem dX11_name_16 : decode cX11_name 16 = .ok (.ldc2_w 227, 3) := by decide +kernel
theorem dX11_name_19 : decode cX11_name 19 = .ok (.lmul, 1) := by decide +kernel
theorem dX11_name_20 : decode cX11_name 20 = .ok (.iload_n 3, 1) := by decide +kernel
theorem dX11_name_21 : decode cX11_name 21 = .ok (.i2l, 1) := by decide +kernel
theorem dX11_name_22 : decode cX11_name 22 = .ok (.ladd, 1) := by decide +kernel
theorem dX11_name_23 : decode cX11_name 23 = .ok (.lreturn, 1) := by decide +kernel
theorem dX11_readsNet_0 : decode cX11_readsNet 0 = .ok (.aload_n 0, 1) := by decide +kernel
theorem dX11_readsNet_1 : decode cX11_readsNet 1 = .ok (.getfield 243, 3) := by decide +kernel
theorem dX11_readsNet_4 : decode cX11_readsNet 4 = .ok (.bipush 8, 2) := by decide +kernel
theorem dX11_readsNet_6 : decode cX11_readsNet 6 = .ok (.if_icmp .ne 5, 3) := by decide +kernel
theorem dX11_readsNet_9 : decode cX11_readsNet 9 = .ok (.iconst 0, 1) := by decide +kernel
theorem dX11_readsNet_10 : decode cX11_readsNet 10 = .ok (.ireturn, 1) := by decide +kernel
theorem dX11_readsNet_11 : decode cX11_readsNet 11 = .ok (.aload_n 0, 1) := by decide +kernel
theorem dX11_readsNet_12 : decode cX11_readsNet 12 = .ok (.invokevirtual 237, 3) := by decide +kernel
theorem dX11_readsNet_15 : decode cX11_readsNet 15 = .ok (.pop, 1) := by decide +kernel
theorem dX11_readsNet_16 : decode cX11_readsNet 16 = .ok (.aload_n 0, 1) := by decide +kernel
theorem dX11_readsNet_17 : decode cX11_readsNet 17 = .ok (.getfield 234, 3) := by decide +kernel
theorem dX11_readsNet_20 : decode cX11_readsNet 20 = .ok (.istore_n 1, 1) := by decide +kernel
theorem dX11_readsNet_21 : decode cX11_readsNet 21 = .ok (.aload_n 0, 1) := by decide +kernel
theorem dX11_readsNet_22 : decode cX11_readsNet 22 = .ok (.invokevirtual 250, 3) := by decide +kernel
theorem dX11_readsNet_25 : decode cX11_readsNet 25 = .ok (.lstore_n 2, 1) := by decide +kernel
theorem dX11_readsNet_26 : decode cX11_readsNet 26 = .ok (.lload_n 2, 1) := by decide +kernel
theorem dX11_readsNet_27 : decode cX11_readsNet 27 = .ok (.bipush 16, 2) := by decide +kernel
theorem dX11_readsNet_29 : decode cX11_readsNet 29 = .ok (.iconst 1, 1) := by decide +kernel
theorem dX11_readsNet_30 : decode cX11_readsNet 30 = .ok (.bipush 20, 2) := by decide +kernel
theorem dX11_readsNet_32 : decode cX11_readsNet 32 = .ok (.bipush 8, 2) := by decide +kernel
theorem dX11_readsNet_34 : decode cX11_readsNet 34 = .ok (.invokestatic 254, 3) := by decide +kernel
theorem dX11_readsNet_37 : decode cX11_readsNet 37 = .ok (.lcmp, 1) := by decide +kernel
theorem dX11_readsNet_38 : decode cX11_readsNet 38 = .ok (.ifCond .eq 19, 3) := by decide +kernel
theorem dX11_readsNet_41 : decode cX11_readsNet 41 = .ok (.lload_n 2, 1) := by decide +kernel
theorem dX11_readsNet_42 : decode cX11_readsNet 42 = .ok (.bipush 18, 2) := by decide +kernel
theorem dX11_readsNet_44 : decode cX11_readsNet 44 = .ok (.bipush 9, 2) := by decide +kernel
theorem dX11_readsNet_46 : decode cX11_readsNet 46 = .ok (.bipush 14, 2) := by decide +kernel
theorem dX11_readsNet_48 : decode cX11_readsNet 48 = .ok (.bipush 7, 2) := by decide +kernel
theorem dX11_readsNet_50 : decode cX11_readsNet 50 = .ok (.invokestatic 254, 3) := by decide +kernel
theorem dX11_readsNet_53 : decode cX11_readsNet 53 = .ok (.lcmp, 1) := by decide +kernel
theorem dX11_readsNet_54 : decode cX11_readsNet 54 = .ok (.ifCond .ne 29, 3) := by decide +kernel
theorem dX11_readsNet_57 : decode cX11_readsNet 57 = .ok (.aload_n 0, 1) := by decide +kernel
theorem dX11_readsNet_58 : decode cX11_readsNet 58 = .ok (.lload_n 2, 1) := by decide +kernel
theorem dX11_readsNet_59 : decode cX11_readsNet 59 = .ok (.bipush 18, 2) := by decide +kernel
theorem dX11_readsNet_61 : decode cX11_readsNet 61 = .ok (.bipush 9, 2) := by decide +kernel
theorem dX11_readsNet_63 : decode cX11_readsNet 63 = .ok (.bipush 14, 2) := by decide +kernel
theorem dX11_readsNet_65 : decode cX11_readsNet 65 = .ok (.bipush 7, 2) := by decide +kernel
theorem dX11_readsNet_67 : decode cX11_readsNet 67 = .ok (.invokestatic 254, 3) := by decide +kernel
theorem dX11_readsNet_70 : decode cX11_readsNet 70 = .ok (.lcmp, 1) := by decide +kernel
theorem dX11_readsNet_71 : decode cX11_readsNet 71 = .ok (.ifCond .ne 7, 3) := by decide +kernel
theorem dX11_readsNet_74 : decode cX11_readsNet 74 = .ok (.iconst 1, 1) := by decide +kernel
theorem dX11_readsNet_75 : decode cX11_readsNet 75 = .ok (.goto 4, 3) := by decide +kernel
theorem dX11_readsNet_78 : decode cX11_readsNet 78 = .ok (.iconst 0, 1) := by decide +kernel
theorem dX11_readsNet_79 : decode cX11_readsNet 79 = .ok (.invokevirtual 258, 3) := by decide +kernel
theorem dX11_readsNet_82 : decode cX11_readsNet 82 = .ok (.ireturn, 1) := by decide +kernel
theorem dX11_readsNet_83 : decode cX11_readsNet 83 = .ok (.lload_n 2, 1) := by decide +kernel
theorem dX11_readsNet_84 : decode cX11_readsNet 84 = .ok (.bipush 19, 2) := by decide +kernel
theorem dX11_readsNet_86 : decode cX11_readsNet 86 = .ok (.bipush 20, 2) := by decide +kernel
theorem dX11_readsNet_88 : decode cX11_readsNet 88 = .ok (.iconst 1, 1) := by decide +kernel
theorem dX11_readsNet_89 : decode cX11_readsNet 89 = .ok (.bipush 18, 2) := by decide +kernel
theorem dX11_readsNet_91 : decode cX11_readsNet 91 = .ok (.invokestatic 254, 3) := by decide +kernel
theorem dX11_readsNet_94 : decode cX11_readsNet 94 = .ok (.lcmp, 1) := by decide +kernel
theorem dX11_readsNet_95 : decode cX11_readsNet 95 = .ok (.ifCond .ne 8, 3) := by decide +kernel
theorem dX11_readsNet_98 : decode cX11_readsNet 98 = .ok (.aload_n 0, 1) := by decide +kernel
theorem dX11_readsNet_99 : decode cX11_readsNet 99 = .ok (.invokevirtual 262, 3) := by decide +kernel
theorem dX11_readsNet_102 : decode cX11_readsNet 102 = .ok (.ireturn, 1) := by decide +kernel
theorem dX11_readsNet_103 : decode cX11_readsNet 103 = .ok (.lload_n 2, 1) := by decide +kernel
theorem dX11_readsNet_104 : decode cX11_readsNet 104 = .ok (.ldc2_w 227, 3) := by decide +kernel
theorem dX11_readsNet_107 : decode cX11_readsNet 107 = .ok (.bipush 12, 2) := by decide +kernel
theorem dX11_readsNet_109 : decode cX11_readsNet 109 = .ok (.bipush 9, 2) := by decide +kernel
theorem dX11_readsNet_111 : decode cX11_readsNet 111 = .ok (.bipush 14, 2) := by decide +kernel
theorem dX11_readsNet_113 : decode cX11_readsNet 113 = .ok (.bipush 11, 2) := by decide +kernel
theorem dX11_readsNet_115 : decode cX11_readsNet 115 = .ok (.invokestatic 254, 3) := by decide +kernel
theorem dX11_readsNet_118 : decode cX11_readsNet 118 = .ok (.lmul, 1) := by decide +kernel
theorem dX11_readsNet_119 : decode cX11_readsNet 119 = .ok (.ldc2_w 266, 3) := by decide +kernel
theorem dX11_readsNet_122 : decode cX11_readsNet 122 = .ok (.ladd, 1) := by decide +kernel
theorem dX11_readsNet_123 : decode cX11_readsNet 123 = .ok (.lcmp, 1) := by decide +kernel
theorem dX11_readsNet_124 : decode cX11_readsNet 124 = .ok (.ifCond .ne 8, 3) := by decide +kernel
theorem dX11_readsNet_127 : decode cX11_readsNet 127 = .ok (.aload_n 0, 1) := by decide +kernel
theorem dX11_readsNet_128 : decode cX11_readsNet 128 = .ok (.invokevirtual 268, 3) := by decide +kernel
theorem dX11_readsNet_131 : decode cX11_readsNet 131 = .ok (.ireturn, 1) := by decide +kernel
theorem dX11_readsNet_132 : decode cX11_readsNet 132 = .ok (.lload_n 2, 1) := by decide +kernel
theorem dX11_readsNet_133 : decode cX11_readsNet 133 = .ok (.iconst 0, 1) := by decide +kernel
theorem dX11_readsNet_134 : decode cX11_readsNet 134 = .ok (.iconst 1, 1) := by decide +kernel
theorem dX11_readsNet_135 : decode cX11_readsNet 135 = .ok (.bipush 12, 2) := by decide +kernel
theorem dX11_readsNet_137 : decode cX11_readsNet 137 = .ok (.bipush 12, 2) := by decide +kernel
theorem dX11_readsNet_139 : decode cX11_readsNet 139 = .ok (.invokestatic 254, 3) := by decide +kernel
theorem dX11_readsNet_142 : decode cX11_readsNet 142 = .ok (.lcmp, 1) := by decide +kernel
theorem dX11_readsNet_143 : decode cX11_readsNet 143 = .ok (.ifCond .ne 35, 3) := by decide +kernel
theorem dX11_readsNet_146 : decode cX11_readsNet 146 = .ok (.aload_n 0, 1) := by decide +kernel
theorem dX11_readsNet_147 : decode cX11_readsNet 147 = .ok (.getfield 47, 3) := by decide +kernel
theorem dX11_readsNet_150 : decode cX11_readsNet 150 = .ok (.aload_n 0, 1) := by decide +kernel
theorem dX11_readsNet_151 : decode cX11_readsNet 151 = .ok (.getfield 243, 3) := by decide +kernel
theorem dX11_readsNet_154 : decode cX11_readsNet 154 = .ok (.iconst 1, 1) := by decide +kernel
theorem dX11_readsNet_155 : decode cX11_readsNet 155 = .ok (.aload_n 0, 1) := by decide +kernel
theorem dX11_readsNet_156 : decode cX11_readsNet 156 = .ok (.getfield 7, 3) := by decide +kernel
theorem dX11_readsNet_159 : decode cX11_readsNet 159 = .ok (.iconst 0, 1) := by decide +kernel
theorem dX11_readsNet_160 : decode cX11_readsNet 160 = .ok (.iaload, 1) := by decide +kernel
theorem dX11_readsNet_161 : decode cX11_readsNet 161 = .ok (.aload_n 0, 1) := by decide +kernel
theorem dX11_readsNet_162 : decode cX11_readsNet 162 = .ok (.getfield 7, 3) := by decide +kernel
theorem dX11_readsNet_165 : decode cX11_readsNet 165 = .ok (.iconst 0, 1) := by decide +kernel
theorem dX11_readsNet_166 : decode cX11_readsNet 166 = .ok (.iaload, 1) := by decide +kernel
theorem dX11_readsNet_167 : decode cX11_readsNet 167 = .ok (.iconst 1, 1) := by decide +kernel
theorem dX11_readsNet_168 : decode cX11_readsNet 168 = .ok (.isub, 1) := by decide +kernel
theorem dX11_readsNet_169 : decode cX11_readsNet 169 = .ok (.imul, 1) := by decide +kernel
theorem dX11_readsNet_170 : decode cX11_readsNet 170 = .ok (.iconst 2, 1) := by decide +kernel
theorem dX11_readsNet_171 : decode cX11_readsNet 171 = .ok (.idiv, 1) := by decide +kernel
theorem dX11_readsNet_172 : decode cX11_readsNet 172 = .ok (.ishl, 1) := by decide +kernel
theorem dX11_readsNet_173 : decode cX11_readsNet 173 = .ok (.iconst 1, 1) := by decide +kernel
theorem dX11_readsNet_174 : decode cX11_readsNet 174 = .ok (.isub, 1) := by decide +kernel
theorem dX11_readsNet_175 : decode cX11_readsNet 175 = .ok (.iastore, 1) := by decide +kernel
theorem dX11_readsNet_176 : decode cX11_readsNet 176 = .ok (.iconst 1, 1) := by decide +kernel
theorem dX11_readsNet_177 : decode cX11_readsNet 177 = .ok (.ireturn, 1) := by decide +kernel
theorem dX11_readsNet_178 : decode cX11_readsNet 178 = .ok (.aload_n 0, 1) := by decide +kernel
theorem dX11_readsNet_179 : decode cX11_readsNet 179 = .ok (.iload_n 1, 1) := by decide +kernel
theorem dX11_readsNet_180 : decode cX11_readsNet 180 = .ok (.putfield 234, 3) := by decide +kernel
theorem dX11_readsNet_183 : decode cX11_readsNet 183 = .ok (.iconst 0, 1) := by decide +kernel
theorem dX11_readsNet_184 : decode cX11_readsNet 184 = .ok (.ireturn, 1) := by decide +kernel
theorem dX11_reads_0 : decode cX11_reads 0 = .ok (.aload_n 0, 1) := by decide +kernel
theorem dX11_reads_1 : decode cX11_reads 1 = .ok (.iconst 0, 1) := by decide +kernel
theorem dX11_reads_2 : decode cX11_reads 2 = .ok (.putfield 234, 3) := by decide +kernel
theorem dX11_reads_5 : decode cX11_reads 5 = .ok (.aload_n 0, 1) := by decide +kernel
theorem dX11_reads_6 : decode cX11_reads 6 = .ok (.iconst 0, 1) := by decide +kernel
theorem dX11_reads_7 : decode cX11_reads 7 = .ok (.putfield 243, 3) := by decide +kernel
theorem dX11_reads_10 : decode cX11_reads 10 = .ok (.iconst 1, 1) := by decide +kernel
theorem dX11_reads_11 : decode cX11_reads 11 = .ok (.istore_n 1, 1) := by decide +kernel
theorem dX11_reads_12 : decode cX11_reads 12 = .ok (.iload_n 1, 1) := by decide +kernel
theorem dX11_reads_13 : decode cX11_reads 13 = .ok (.ifCond .eq 70, 3) := by decide +kernel
theorem dX11_reads_16 : decode cX11_reads 16 = .ok (.aload_n 0, 1) := by decide +kernel
theorem dX11_reads_17 : decode cX11_reads 17 = .ok (.invokevirtual 271, 3) := by decide +kernel
theorem dX11_reads_20 : decode cX11_reads 20 = .ok (.ifCond .eq 10, 3) := by decide +kernel
theorem dX11_reads_23 : decode cX11_reads 23 = .ok (.aload_n 0, 1) := by decide +kernel
theorem dX11_reads_24 : decode cX11_reads 24 = .ok (.invokevirtual 274, 3) := by decide +kernel
theorem dX11_reads_27 : decode cX11_reads 27 = .ok (.ifCond .ne 10, 3) := by decide +kernel
theorem dX11_reads_30 : decode cX11_reads 30 = .ok (.aload_n 0, 1) := by decide +kernel
theorem dX11_reads_31 : decode cX11_reads 31 = .ok (.invokevirtual 237, 3) := by decide +kernel
theorem dX11_reads_34 : decode cX11_reads 34 = .ok (.pop, 1) := by decide +kernel
theorem dX11_reads_35 : decode cX11_reads 35 = .ok (.iconst 0, 1) := by decide +kernel
theorem dX11_reads_36 : decode cX11_reads 36 = .ok (.ireturn, 1) := by decide +kernel
theorem dX11_reads_37 : decode cX11_reads 37 = .ok (.aload_n 0, 1) := by decide +kernel
theorem dX11_reads_38 : decode cX11_reads 38 = .ok (.dup, 1) := by decide +kernel
theorem dX11_reads_39 : decode cX11_reads 39 = .ok (.getfield 243, 3) := by decide +kernel
theorem dX11_reads_42 : decode cX11_reads 42 = .ok (.iconst 1, 1) := by decide +kernel
theorem dX11_reads_43 : decode cX11_reads 43 = .ok (.iadd, 1) := by decide +kernel
theorem dX11_reads_44 : decode cX11_reads 44 = .ok (.putfield 243, 3) := by decide +kernel
theorem dX11_reads_47 : decode cX11_reads 47 = .ok (.aload_n 0, 1) := by decide +kernel
theorem dX11_reads_48 : decode cX11_reads 48 = .ok (.invokevirtual 237, 3) := by decide +kernel
theorem dX11_reads_51 : decode cX11_reads 51 = .ok (.bipush 59, 2) := by decide +kernel
theorem dX11_reads_53 : decode cX11_reads 53 = .ok (.if_icmp .ne 7, 3) := by decide +kernel
theorem dX11_reads_56 : decode cX11_reads 56 = .ok (.iconst 1, 1) := by decide +kernel
theorem dX11_reads_57 : decode cX11_reads 57 = .ok (.goto 4, 3) := by decide +kernel
theorem dX11_reads_60 : decode cX11_reads 60 = .ok (.iconst 0, 1) := by decide +kernel
theorem dX11_reads_61 : decode cX11_reads 61 = .ok (.istore_n 1, 1) := by decide +kernel
theorem dX11_reads_62 : decode cX11_reads 62 = .ok (.aload_n 0, 1) := by decide +kernel
theorem dX11_reads_63 : decode cX11_reads 63 = .ok (.dup, 1) := by decide +kernel
theorem dX11_reads_64 : decode cX11_reads 64 = .ok (.getfield 234, 3) := by decide +kernel
theorem dX11_reads_67 : decode cX11_reads 67 = .ok (.iload_n 1, 1) := by decide +kernel
theorem dX11_reads_68 : decode cX11_reads 68 = .ok (.ifCond .eq 7, 3) := by decide +kernel
theorem dX11_reads_71 : decode cX11_reads 71 = .ok (.iconst 1, 1) := by decide +kernel
theorem dX11_reads_72 : decode cX11_reads 72 = .ok (.goto 4, 3) := by decide +kernel
theorem dX11_reads_75 : decode cX11_reads 75 = .ok (.iconst 0, 1) := by decide +kernel
theorem dX11_reads_76 : decode cX11_reads 76 = .ok (.iadd, 1) := by decide +kernel
theorem dX11_reads_77 : decode cX11_reads 77 = .ok (.putfield 234, 3) := by decide +kernel
theorem dX11_reads_80 : decode cX11_reads 80 = .ok (.goto (-68), 3) := by decide +kernel
theorem dX11_reads_83 : decode cX11_reads 83 = .ok (.iconst 1, 1) := by decide +kernel
theorem dX11_reads_84 : decode cX11_reads 84 = .ok (.ireturn, 1) := by decide +kernel
theorem dX11_read_0 : decode cX11_read 0 = .ok (.aload_n 0, 1) := by decide +kernel
theorem dX11_read_1 : decode cX11_read 1 = .ok (.invokevirtual 277, 3) := by decide +kernel
theorem dX11_read_4 : decode cX11_read 4 = .ok (.istore_n 1, 1) := by decide +kernel
theorem dX11_read_5 : decode cX11_read 5 = .ok (.bipush (-20), 2) := by decide +kernel
theorem dX11_read_7 : decode cX11_read 7 = .ok (.aload_n 0, 1) := by decide +kernel
theorem dX11_read_8 : decode cX11_read 8 = .ok (.getfield 234, 3) := by decide +kernel
theorem dX11_read_11 : decode cX11_read 11 = .ok (.aload_n 0, 1) := by decide +kernel
theorem dX11_read_12 : decode cX11_read 12 = .ok (.getfield 231, 3) := by decide +kernel
theorem dX11_read_15 : decode cX11_read 15 = .ok (.if_icmp .ge 10, 3) := by decide +kernel
theorem dX11_read_18 : decode cX11_read 18 = .ok (.aload_n 0, 1) := by decide +kernel
theorem dX11_read_19 : decode cX11_read 19 = .ok (.getfield 234, 3) := by decide +kernel
theorem dX11_read_22 : decode cX11_read 22 = .ok (.goto 7, 3) := by decide +kernel
theorem dX11_read_25 : decode cX11_read 25 = .ok (.aload_n 0, 1) := by decide +kernel
theorem dX11_read_26 : decode cX11_read 26 = .ok (.getfield 231, 3) := by decide +kernel
theorem dX11_read_29 : decode cX11_read 29 = .ok (.isub, 1) := by decide +kernel
theorem dX11_read_30 : decode cX11_read 30 = .ok (.istore_n 2, 1) := by decide +kernel
theorem dX11_read_31 : decode cX11_read 31 = .ok (.aload_n 0, 1) := by decide +kernel
theorem dX11_read_32 : decode cX11_read 32 = .ok (.iconst 0, 1) := by decide +kernel
theorem dX11_read_33 : decode cX11_read 33 = .ok (.putfield 231, 3) := by decide +kernel
theorem dX11_read_36 : decode cX11_read 36 = .ok (.iload_n 1, 1) := by decide +kernel
theorem dX11_read_37 : decode cX11_read 37 = .ok (.ifCond .ne 5, 3) := by decide +kernel
theorem dX11_read_40 : decode cX11_read 40 = .ok (.iload_n 2, 1) := by decide +kernel
theorem dX11_read_41 : decode cX11_read 41 = .ok (.ireturn, 1) := by decide +kernel
theorem dX11_read_42 : decode cX11_read 42 = .ok (.aload_n 0, 1) := by decide +kernel
theorem dX11_read_43 : decode cX11_read 43 = .ok (.invokevirtual 172, 3) := by decide +kernel
theorem dX11_read_46 : decode cX11_read 46 = .ok (.aload_n 0, 1) := by decide +kernel
theorem dX11_read_47 : decode cX11_read 47 = .ok (.getfield 7, 3) := by decide +kernel
theorem dX11_read_50 : decode cX11_read 50 = .ok (.bipush 6, 2) := by decide +kernel
theorem dX11_read_52 : decode cX11_read 52 = .ok (.aload_n 0, 1) := by decide +kernel
theorem dX11_read_53 : decode cX11_read 53 = .ok (.getfield 243, 3) := by decide +kernel
theorem dX11_read_56 : decode cX11_read 56 = .ok (.iastore, 1) := by decide +kernel
theorem dX11_read_57 : decode cX11_read 57 = .ok (.iconst 0, 1) := by decide +kernel
theorem dX11_read_58 : decode cX11_read 58 = .ok (.istore_n 3, 1) := by decide +kernel
theorem dX11_read_59 : decode cX11_read 59 = .ok (.iload_n 3, 1) := by decide +kernel
theorem dX11_read_60 : decode cX11_read 60 = .ok (.bipush 8, 2) := by decide +kernel
theorem dX11_read_62 : decode cX11_read 62 = .ok (.if_icmp .ge 36, 3) := by decide +kernel
theorem dX11_read_65 : decode cX11_read 65 = .ok (.aload_n 0, 1) := by decide +kernel
theorem dX11_read_66 : decode cX11_read 66 = .ok (.getfield 7, 3) := by decide +kernel
theorem dX11_read_69 : decode cX11_read 69 = .ok (.bipush 7, 2) := by decide +kernel
theorem dX11_read_71 : decode cX11_read 71 = .ok (.iload_n 3, 1) := by decide +kernel
theorem dX11_read_72 : decode cX11_read 72 = .ok (.iadd, 1) := by decide +kernel
theorem dX11_read_73 : decode cX11_read 73 = .ok (.iload_n 3, 1) := by decide +kernel
theorem dX11_read_74 : decode cX11_read 74 = .ok (.aload_n 0, 1) := by decide +kernel
theorem dX11_read_75 : decode cX11_read 75 = .ok (.getfield 243, 3) := by decide +kernel
theorem dX11_read_78 : decode cX11_read 78 = .ok (.if_icmp .ge 12, 3) := by decide +kernel
theorem dX11_read_81 : decode cX11_read 81 = .ok (.aload_n 0, 1) := by decide +kernel
theorem dX11_read_82 : decode cX11_read 82 = .ok (.getfield 47, 3) := by decide +kernel
theorem dX11_read_85 : decode cX11_read 85 = .ok (.iload_n 3, 1) := by decide +kernel
theorem dX11_read_86 : decode cX11_read 86 = .ok (.iaload, 1) := by decide +kernel
theorem dX11_read_87 : decode cX11_read 87 = .ok (.goto 4, 3) := by decide +kernel
theorem dX11_read_90 : decode cX11_read 90 = .ok (.iconst 0, 1) := by decide +kernel
theorem dX11_read_91 : decode cX11_read 91 = .ok (.iastore, 1) := by decide +kernel
theorem dX11_read_92 : decode cX11_read 92 = .ok (.iinc 3 1, 3) := by decide +kernel
theorem dX11_read_95 : decode cX11_read 95 = .ok (.goto (-36), 3) := by decide +kernel
theorem dX11_read_98 : decode cX11_read 98 = .ok (.aload_n 0, 1) := by decide +kernel
theorem dX11_read_99 : decode cX11_read 99 = .ok (.getfield 243, 3) := by decide +kernel
theorem dX11_read_102 : decode cX11_read 102 = .ok (.ireturn, 1) := by decide +kernel
theorem dX11_drift_0 : decode cX11_drift 0 = .ok (.iload_n 1, 1) := by decide +kernel
theorem dX11_drift_1 : decode cX11_drift 1 = .ok (.i2l, 1) := by decide +kernel
theorem dX11_drift_2 : decode cX11_drift 2 = .ok (.lconst 1, 1) := by decide +kernel
theorem dX11_drift_3 : decode cX11_drift 3 = .ok (.ldc2_w 280, 3) := by decide +kernel
theorem dX11_drift_6 : decode cX11_drift 6 = .ok (.invokestatic 116, 3) := by decide +kernel
theorem dX11_drift_9 : decode cX11_drift 9 = .ok (.ifCond .ne 5, 3) := by decide +kernel
theorem dX11_drift_12 : decode cX11_drift 12 = .ok (.iconst (-1), 1) := by decide +kernel
theorem dX11_drift_13 : decode cX11_drift 13 = .ok (.ireturn, 1) := by decide +kernel
theorem dX11_drift_14 : decode cX11_drift 14 = .ok (.iconst 0, 1) := by decide +kernel
theorem dX11_drift_15 : decode cX11_drift 15 = .ok (.istore_n 2, 1) := by decide +kernel
theorem dX11_drift_16 : decode cX11_drift 16 = .ok (.iload_n 2, 1) := by decide +kernel
theorem dX11_drift_17 : decode cX11_drift 17 = .ok (.iload_n 1, 1) := by decide +kernel
theorem dX11_drift_18 : decode cX11_drift 18 = .ok (.if_icmp .ge 116, 3) := by decide +kernel
theorem dX11_drift_21 : decode cX11_drift 21 = .ok (.aload_n 0, 1) := by decide +kernel
theorem dX11_drift_22 : decode cX11_drift 22 = .ok (.invokevirtual 172, 3) := by decide +kernel
theorem dX11_drift_25 : decode cX11_drift 25 = .ok (.aload_n 0, 1) := by decide +kernel
theorem dX11_drift_26 : decode cX11_drift 26 = .ok (.getfield 7, 3) := by decide +kernel
theorem dX11_drift_29 : decode cX11_drift 29 = .ok (.iconst 5, 1) := by decide +kernel
theorem dX11_drift_30 : decode cX11_drift 30 = .ok (.aload_n 0, 1) := by decide +kernel
theorem dX11_drift_31 : decode cX11_drift 31 = .ok (.getfield 7, 3) := by decide +kernel
theorem dX11_drift_34 : decode cX11_drift 34 = .ok (.iconst 5, 1) := by decide +kernel
theorem dX11_drift_35 : decode cX11_drift 35 = .ok (.iaload, 1) := by decide +kernel
theorem dX11_drift_36 : decode cX11_drift 36 = .ok (.invokestatic 135, 3) := by decide +kernel
theorem dX11_drift_39 : decode cX11_drift 39 = .ok (.iastore, 1) := by decide +kernel
theorem dX11_drift_40 : decode cX11_drift 40 = .ok (.aload_n 0, 1) := by decide +kernel
theorem dX11_drift_41 : decode cX11_drift 41 = .ok (.getfield 7, 3) := by decide +kernel
theorem dX11_drift_44 : decode cX11_drift 44 = .ok (.iconst 5, 1) := by decide +kernel
theorem dX11_drift_45 : decode cX11_drift 45 = .ok (.iaload, 1) := by decide +kernel
theorem dX11_drift_46 : decode cX11_drift 46 = .ok (.ldc 138, 2) := by decide +kernel
theorem dX11_drift_48 : decode cX11_drift 48 = .ok (.idiv, 1) := by decide +kernel
theorem dX11_drift_49 : decode cX11_drift 49 = .ok (.istore_n 3, 1) := by decide +kernel
theorem dX11_drift_50 : decode cX11_drift 50 = .ok (.iload_n 3, 1) := by decide +kernel
theorem dX11_drift_51 : decode cX11_drift 51 = .ok (.iconst 4, 1) := by decide +kernel
theorem dX11_drift_52 : decode cX11_drift 52 = .ok (.irem, 1) := by decide +kernel
theorem dX11_drift_53 : decode cX11_drift 53 = .ok (.lookupswitch 48 #[(0, 27), (3, 34)], 27) := by decide +kernel
theorem dX11_drift_80 : decode cX11_drift 80 = .ok (.aload_n 0, 1) := by decide +kernel
theorem dX11_drift_81 : decode cX11_drift 81 = .ok (.invokevirtual 186, 3) := by decide +kernel
theorem dX11_drift_84 : decode cX11_drift 84 = .ok (.goto 44, 3) := by decide +kernel
theorem dX11_drift_87 : decode cX11_drift 87 = .ok (.aload_n 0, 1) := by decide +kernel
theorem dX11_drift_88 : decode cX11_drift 88 = .ok (.getfield 7, 3) := by decide +kernel
theorem dX11_drift_91 : decode cX11_drift 91 = .ok (.iconst 2, 1) := by decide +kernel
theorem dX11_drift_92 : decode cX11_drift 92 = .ok (.iload_n 3, 1) := by decide +kernel
theorem dX11_drift_93 : decode cX11_drift 93 = .ok (.iconst 4, 1) := by decide +kernel
theorem dX11_drift_94 : decode cX11_drift 94 = .ok (.idiv, 1) := by decide +kernel
theorem dX11_drift_95 : decode cX11_drift 95 = .ok (.iconst 4, 1) := by decide +kernel
theorem dX11_drift_96 : decode cX11_drift 96 = .ok (.irem, 1) := by decide +kernel
theorem dX11_drift_97 : decode cX11_drift 97 = .ok (.iastore, 1) := by decide +kernel
theorem dX11_drift_98 : decode cX11_drift 98 = .ok (.goto 30, 3) := by decide +kernel
theorem dX11_drift_101 : decode cX11_drift 101 = .ok (.aload_n 0, 1) := by decide +kernel
theorem dX11_drift_102 : decode cX11_drift 102 = .ok (.iload_n 3, 1) := by decide +kernel
theorem dX11_drift_103 : decode cX11_drift 103 = .ok (.iconst 4, 1) := by decide +kernel
theorem dX11_drift_104 : decode cX11_drift 104 = .ok (.idiv, 1) := by decide +kernel
theorem dX11_drift_105 : decode cX11_drift 105 = .ok (.aload_n 0, 1) := by decide +kernel
theorem dX11_drift_106 : decode cX11_drift 106 = .ok (.getfield 7, 3) := by decide +kernel
theorem dX11_drift_109 : decode cX11_drift 109 = .ok (.iconst 0, 1) := by decide +kernel
theorem dX11_drift_110 : decode cX11_drift 110 = .ok (.iaload, 1) := by decide +kernel
theorem dX11_drift_111 : decode cX11_drift 111 = .ok (.irem, 1) := by decide +kernel
theorem dX11_drift_112 : decode cX11_drift 112 = .ok (.iconst 1, 1) := by decide +kernel
theorem dX11_drift_113 : decode cX11_drift 113 = .ok (.iload_n 3, 1) := by decide +kernel
theorem dX11_drift_114 : decode cX11_drift 114 = .ok (.bipush 64, 2) := by decide +kernel
theorem dX11_drift_116 : decode cX11_drift 116 = .ok (.idiv, 1) := by decide +kernel
theorem dX11_drift_117 : decode cX11_drift 117 = .ok (.aload_n 0, 1) := by decide +kernel
theorem dX11_drift_118 : decode cX11_drift 118 = .ok (.getfield 7, 3) := by decide +kernel
theorem dX11_drift_121 : decode cX11_drift 121 = .ok (.iconst 1, 1) := by decide +kernel
theorem dX11_drift_122 : decode cX11_drift 122 = .ok (.iaload, 1) := by decide +kernel
theorem dX11_drift_123 : decode cX11_drift 123 = .ok (.irem, 1) := by decide +kernel
theorem dX11_drift_124 : decode cX11_drift 124 = .ok (.ishl, 1) := by decide +kernel
theorem dX11_drift_125 : decode cX11_drift 125 = .ok (.invokevirtual 151, 3) := by decide +kernel
theorem dX11_drift_128 : decode cX11_drift 128 = .ok (.iinc 2 1, 3) := by decide +kernel
theorem dX11_drift_131 : decode cX11_drift 131 = .ok (.goto (-115), 3) := by decide +kernel
theorem dX11_drift_134 : decode cX11_drift 134 = .ok (.aload_n 0, 1) := by decide +kernel
theorem dX11_drift_135 : decode cX11_drift 135 = .ok (.invokevirtual 178, 3) := by decide +kernel
theorem dX11_drift_138 : decode cX11_drift 138 = .ok (.ireturn, 1) := by decide +kernel
theorem dX11_seed_0 : decode cX11_seed 0 = .ok (.iload_n 1, 1) := by decide +kernel
theorem dX11_seed_1 : decode cX11_seed 1 = .ok (.ifCond .ge 5, 3) := by decide +kernel
theorem dX11_seed_4 : decode cX11_seed 4 = .ok (.iconst (-1), 1) := by decide +kernel
theorem dX11_seed_5 : decode cX11_seed 5 = .ok (.ireturn, 1) := by decide +kernel
theorem dX11_seed_6 : decode cX11_seed 6 = .ok (.aload_n 0, 1) := by decide +kernel
theorem dX11_seed_7 : decode cX11_seed 7 = .ok (.getfield 7, 3) := by decide +kernel
theorem dX11_seed_10 : decode cX11_seed 10 = .ok (.iconst 5, 1) := by decide +kernel
theorem dX11_seed_11 : decode cX11_seed 11 = .ok (.iaload, 1) := by decide +kernel
theorem dX11_seed_12 : decode cX11_seed 12 = .ok (.istore_n 2, 1) := by decide +kernel
theorem dX11_seed_13 : decode cX11_seed 13 = .ok (.aload_n 0, 1) := by decide +kernel
theorem dX11_seed_14 : decode cX11_seed 14 = .ok (.getfield 7, 3) := by decide +kernel
theorem dX11_seed_17 : decode cX11_seed 17 = .ok (.iconst 5, 1) := by decide +kernel
theorem dX11_seed_18 : decode cX11_seed 18 = .ok (.iload_n 1, 1) := by decide +kernel
theorem dX11_seed_19 : decode cX11_seed 19 = .ok (.iastore, 1) := by decide +kernel
theorem dX11_seed_20 : decode cX11_seed 20 = .ok (.iload_n 2, 1) := by decide +kernel
theorem dX11_seed_21 : decode cX11_seed 21 = .ok (.ireturn, 1) := by decide +kernel
theorem dX11_isSheet_0 : decode cX11_isSheet 0 = .ok (.iload_n 0, 1) := by decide +kernel
theorem dX11_isSheet_1 : decode cX11_isSheet 1 = .ok (.i2l, 1) := by decide +kernel
theorem dX11_isSheet_2 : decode cX11_isSheet 2 = .ok (.lconst 0, 1) := by decide +kernel
theorem dX11_isSheet_3 : decode cX11_isSheet 3 = .ok (.ldc2_w 225, 3) := by decide +kernel
theorem dX11_isSheet_6 : decode cX11_isSheet 6 = .ok (.invokestatic 116, 3) := by decide +kernel
theorem dX11_isSheet_9 : decode cX11_isSheet 9 = .ok (.ireturn, 1) := by decide +kernel
theorem dX11_cut_0 : decode cX11_cut 0 = .ok (.iload_n 0, 1) := by decide +kernel
theorem dX11_cut_1 : decode cX11_cut 1 = .ok (.ifCond .ne 10, 3) := by decide +kernel
theorem dX11_cut_4 : decode cX11_cut 4 = .ok (.lload_n 1, 1) := by decide +kernel
theorem dX11_cut_5 : decode cX11_cut 5 = .ok (.l2i, 1) := by decide +kernel
theorem dX11_cut_6 : decode cX11_cut 6 = .ok (.i2b, 1) := by decide +kernel
theorem dX11_cut_7 : decode cX11_cut 7 = .ok (.i2l, 1) := by decide +kernel
theorem dX11_cut_8 : decode cX11_cut 8 = .ok (.goto 27, 3) := by decide +kernel
theorem dX11_cut_11 : decode cX11_cut 11 = .ok (.iload_n 0, 1) := by decide +kernel
theorem dX11_cut_12 : decode cX11_cut 12 = .ok (.iconst 1, 1) := by decide +kernel
theorem dX11_cut_13 : decode cX11_cut 13 = .ok (.if_icmp .ne 10, 3) := by decide +kernel
theorem dX11_cut_16 : decode cX11_cut 16 = .ok (.lload_n 1, 1) := by decide +kernel
theorem dX11_cut_17 : decode cX11_cut 17 = .ok (.l2i, 1) := by decide +kernel
theorem dX11_cut_18 : decode cX11_cut 18 = .ok (.i2s, 1) := by decide +kernel
theorem dX11_cut_19 : decode cX11_cut 19 = .ok (.i2l, 1) := by decide +kernel
theorem dX11_cut_20 : decode cX11_cut 20 = .ok (.goto 15, 3) := by decide +kernel
theorem dX11_cut_23 : decode cX11_cut 23 = .ok (.iload_n 0, 1) := by decide +kernel
theorem dX11_cut_24 : decode cX11_cut 24 = .ok (.iconst 2, 1) := by decide +kernel
theorem dX11_cut_25 : decode cX11_cut 25 = .ok (.if_icmp .ne 9, 3) := by decide +kernel
theorem dX11_cut_28 : decode cX11_cut 28 = .ok (.lload_n 1, 1) := by decide +kernel
theorem dX11_cut_29 : decode cX11_cut 29 = .ok (.l2i, 1) := by decide +kernel
theorem dX11_cut_30 : decode cX11_cut 30 = .ok (.i2l, 1) := by decide +kernel
theorem dX11_cut_31 : decode cX11_cut 31 = .ok (.goto 4, 3) := by decide +kernel
theorem dX11_cut_34 : decode cX11_cut 34 = .ok (.lload_n 1, 1) := by decide +kernel
theorem dX11_cut_35 : decode cX11_cut 35 = .ok (.lreturn, 1) := by decide +kernel
theorem dX11_why_0 : decode cX11_why 0 = .ok (.aload_n 0, 1) := by decide +kernel
theorem dX11_why_1 : decode cX11_why 1 = .ok (.getfield 53, 3) := by decide +kernel
theorem dX11_why_4 : decode cX11_why 4 = .ok (.iload_n 1, 1) := by decide +kernel
theorem dX11_why_5 : decode cX11_why 5 = .ok (.iaload, 1) := by decide +kernel
theorem dX11_why_6 : decode cX11_why 6 = .ok (.ifCond .ge 6, 3) := by decide +kernel
theorem dX11_why_9 : decode cX11_why 9 = .ok (.bipush (-11), 2) := by decide +kernel
theorem dX11_why_11 : decode cX11_why 11 = .ok (.ireturn, 1) := by decide +kernel
theorem dX11_why_12 : decode cX11_why 12 = .ok (.aload_n 0, 1) := by decide +kernel
theorem dX11_why_13 : decode cX11_why 13 = .ok (.getfield 50, 3) := by decide +kernel
theorem dX11_why_16 : decode cX11_why 16 = .ok (.iload_n 1, 1) := by decide +kernel
theorem dX11_why_17 : decode cX11_why 17 = .ok (.iaload, 1) := by decide +kernel
theorem dX11_why_18 : decode cX11_why 18 = .ok (.iload_n 2, 1) := by decide +kernel
theorem dX11_why_19 : decode cX11_why 19 = .ok (.if_icmp .eq 6, 3) := by decide +kernel
theorem dX11_why_22 : decode cX11_why 22 = .ok (.bipush (-12), 2) := by decide +kernel
theorem dX11_why_24 : decode cX11_why 24 = .ok (.ireturn, 1) := by decide +kernel
theorem dX11_why_25 : decode cX11_why 25 = .ok (.iload_n 3, 1) := by decide +kernel
theorem dX11_why_26 : decode cX11_why 26 = .ok (.ifCond .lt 20, 3) := by decide +kernel
theorem dX11_why_29 : decode cX11_why 29 = .ok (.iload_n 3, 1) := by decide +kernel
theorem dX11_why_30 : decode cX11_why 30 = .ok (.aload_n 0, 1) := by decide +kernel
theorem dX11_why_31 : decode cX11_why 31 = .ok (.getfield 53, 3) := by decide +kernel
theorem dX11_why_34 : decode cX11_why 34 = .ok (.iload_n 1, 1) := by decide +kernel
theorem dX11_why_35 : decode cX11_why 35 = .ok (.iaload, 1) := by decide +kernel
theorem dX11_why_36 : decode cX11_why 36 = .ok (.iload 4, 2) := by decide +kernel
theorem dX11_why_38 : decode cX11_why 38 = .ok (.isub, 1) := by decide +kernel
theorem dX11_why_39 : decode cX11_why 39 = .ok (.if_icmp .gt 7, 3) := by decide +kernel
theorem dX11_why_42 : decode cX11_why 42 = .ok (.iconst 0, 1) := by decide +kernel
theorem dX11_why_43 : decode cX11_why 43 = .ok (.goto 5, 3) := by decide +kernel
theorem dX11_why_46 : decode cX11_why 46 = .ok (.bipush (-13), 2) := by decide +kernel
theorem dX11_why_48 : decode cX11_why 48 = .ok (.ireturn, 1) := by decide +kernel
theorem dX11_could_0 : decode cX11_could 0 = .ok (.iload_n 1, 1) := by decide +kernel
theorem dX11_could_1 : decode cX11_could 1 = .ok (.invokestatic 282, 3) := by decide +kernel
theorem dX11_could_4 : decode cX11_could 4 = .ok (.ifCond .eq 15, 3) := by decide +kernel
theorem dX11_could_7 : decode cX11_could 7 = .ok (.iload_n 2, 1) := by decide +kernel
theorem dX11_could_8 : decode cX11_could 8 = .ok (.i2l, 1) := by decide +kernel
theorem dX11_could_9 : decode cX11_could 9 = .ok (.lconst 0, 1) := by decide +kernel
theorem dX11_could_10 : decode cX11_could 10 = .ok (.ldc2_w 225, 3) := by decide +kernel
theorem dX11_could_13 : decode cX11_could 13 = .ok (.invokestatic 116, 3) := by decide +kernel
theorem dX11_could_16 : decode cX11_could 16 = .ok (.ifCond .ne 5, 3) := by decide +kernel
theorem dX11_could_19 : decode cX11_could 19 = .ok (.iconst (-1), 1) := by decide +kernel
theorem dX11_could_20 : decode cX11_could 20 = .ok (.ireturn, 1) := by decide +kernel
theorem dX11_could_21 : decode cX11_could 21 = .ok (.aload_n 0, 1) := by decide +kernel
theorem dX11_could_22 : decode cX11_could 22 = .ok (.iload_n 1, 1) := by decide +kernel
theorem dX11_could_23 : decode cX11_could 23 = .ok (.iload_n 2, 1) := by decide +kernel
theorem dX11_could_24 : decode cX11_could 24 = .ok (.iload_n 3, 1) := by decide +kernel
theorem dX11_could_25 : decode cX11_could 25 = .ok (.aload_n 0, 1) := by decide +kernel
theorem dX11_could_26 : decode cX11_could 26 = .ok (.getfield 7, 3) := by decide +kernel
theorem dX11_could_29 : decode cX11_could 29 = .ok (.iconst 0, 1) := by decide +kernel
theorem dX11_could_30 : decode cX11_could 30 = .ok (.iaload, 1) := by decide +kernel
theorem dX11_could_31 : decode cX11_could 31 = .ok (.invokevirtual 285, 3) := by decide +kernel
theorem dX11_could_34 : decode cX11_could 34 = .ok (.istore 4, 2) := by decide +kernel
theorem dX11_could_36 : decode cX11_could 36 = .ok (.iload 4, 2) := by decide +kernel
theorem dX11_could_38 : decode cX11_could 38 = .ok (.ifCond .eq 6, 3) := by decide +kernel
theorem dX11_could_41 : decode cX11_could 41 = .ok (.iload 4, 2) := by decide +kernel
theorem dX11_could_43 : decode cX11_could 43 = .ok (.ireturn, 1) := by decide +kernel
theorem dX11_could_44 : decode cX11_could 44 = .ok (.iconst 3, 1) := by decide +kernel
theorem dX11_could_45 : decode cX11_could 45 = .ok (.istore 5, 2) := by decide +kernel
theorem dX11_could_47 : decode cX11_could 47 = .ok (.iconst 1, 1) := by decide +kernel
theorem dX11_could_48 : decode cX11_could 48 = .ok (.istore 6, 2) := by decide +kernel
theorem dX11_could_50 : decode cX11_could 50 = .ok (.iconst 0, 1) := by decide +kernel
theorem dX11_could_51 : decode cX11_could 51 = .ok (.istore 7, 2) := by decide +kernel
theorem dX11_could_53 : decode cX11_could 53 = .ok (.iload 7, 2) := by decide +kernel
theorem dX11_could_55 : decode cX11_could 55 = .ok (.aload_n 0, 1) := by decide +kernel
theorem dX11_could_56 : decode cX11_could 56 = .ok (.getfield 7, 3) := by decide +kernel
theorem dX11_could_59 : decode cX11_could 59 = .ok (.iconst 0, 1) := by decide +kernel
theorem dX11_could_60 : decode cX11_could 60 = .ok (.iaload, 1) := by decide +kernel
theorem dX11_could_61 : decode cX11_could 61 = .ok (.if_icmp .ge 146, 3) := by decide +kernel
theorem dX11_could_64 : decode cX11_could 64 = .ok (.aload_n 0, 1) := by decide +kernel
theorem dX11_could_65 : decode cX11_could 65 = .ok (.getfield 56, 3) := by decide +kernel
theorem dX11_could_68 : decode cX11_could 68 = .ok (.bipush 24, 2) := by decide +kernel
theorem dX11_could_70 : decode cX11_could 70 = .ok (.iload_n 1, 1) := by decide +kernel
theorem dX11_could_71 : decode cX11_could 71 = .ok (.imul, 1) := by decide +kernel
theorem dX11_could_72 : decode cX11_could 72 = .ok (.iload_n 3, 1) := by decide +kernel
theorem dX11_could_73 : decode cX11_could 73 = .ok (.iadd, 1) := by decide +kernel
theorem dX11_could_74 : decode cX11_could 74 = .ok (.iload 7, 2) := by decide +kernel
theorem dX11_could_76 : decode cX11_could 76 = .ok (.iadd, 1) := by decide +kernel
theorem dX11_could_77 : decode cX11_could 77 = .ok (.laload, 1) := by decide +kernel
theorem dX11_could_78 : decode cX11_could 78 = .ok (.lstore 8, 2) := by decide +kernel
theorem dX11_could_80 : decode cX11_could 80 = .ok (.iload 6, 2) := by decide +kernel
theorem dX11_could_82 : decode cX11_could 82 = .ok (.ifCond .eq 34, 3) := by decide +kernel
theorem dX11_could_85 : decode cX11_could 85 = .ok (.lload 8, 2) := by decide +kernel
theorem dX11_could_87 : decode cX11_could 87 = .ok (.ldc2_w 201, 3) := by decide +kernel
theorem dX11_could_90 : decode cX11_could 90 = .ok (.lcmp, 1) := by decide +kernel
theorem dX11_could_91 : decode cX11_could 91 = .ok (.ifCond .eq 21, 3) := by decide +kernel
theorem dX11_could_94 : decode cX11_could 94 = .ok (.lload 8, 2) := by decide +kernel
theorem dX11_could_96 : decode cX11_could 96 = .ok (.lconst 0, 1) := by decide +kernel
theorem dX11_could_97 : decode cX11_could 97 = .ok (.aload_n 0, 1) := by decide +kernel
theorem dX11_could_98 : decode cX11_could 98 = .ok (.getfield 7, 3) := by decide +kernel
theorem dX11_could_101 : decode cX11_could 101 = .ok (.iconst 1, 1) := by decide +kernel
theorem dX11_could_102 : decode cX11_could 102 = .ok (.iaload, 1) := by decide +kernel
theorem dX11_could_103 : decode cX11_could 103 = .ok (.iconst 1, 1) := by decide +kernel
theorem dX11_could_104 : decode cX11_could 104 = .ok (.isub, 1) := by decide +kernel
theorem dX11_could_105 : decode cX11_could 105 = .ok (.i2l, 1) := by decide +kernel
theorem dX11_could_106 : decode cX11_could 106 = .ok (.invokestatic 116, 3) := by decide +kernel
theorem dX11_could_109 : decode cX11_could 109 = .ok (.ifCond .eq 7, 3) := by decide +kernel
theorem dX11_could_112 : decode cX11_could 112 = .ok (.iconst 1, 1) := by decide +kernel
theorem dX11_could_113 : decode cX11_could 113 = .ok (.goto 4, 3) := by decide +kernel
theorem dX11_could_116 : decode cX11_could 116 = .ok (.iconst 0, 1) := by decide +kernel
theorem dX11_could_117 : decode cX11_could 117 = .ok (.istore 6, 2) := by decide +kernel
theorem dX11_could_119 : decode cX11_could 119 = .ok (.aload_n 0, 1) := by decide +kernel
theorem dX11_could_120 : decode cX11_could 120 = .ok (.iload 7, 2) := by decide +kernel
theorem dX11_could_122 : decode cX11_could 122 = .ok (.invokevirtual 142, 3) := by decide +kernel
theorem dX11_could_125 : decode cX11_could 125 = .ok (.bipush (-4), 2) := by decide +kernel
theorem dX11_could_127 : decode cX11_could 127 = .ok (.if_icmp .ne 8, 3) := by decide +kernel
theorem dX11_could_130 : decode cX11_could 130 = .ok (.bipush 9, 2) := by decide +kernel
theorem dX11_could_132 : decode cX11_could 132 = .ok (.goto 9, 3) := by decide +kernel
theorem dX11_could_135 : decode cX11_could 135 = .ok (.aload_n 0, 1) := by decide +kernel
theorem dX11_could_136 : decode cX11_could 136 = .ok (.iload 7, 2) := by decide +kernel
theorem dX11_could_138 : decode cX11_could 138 = .ok (.invokevirtual 142, 3) := by decide +kernel
theorem dX11_could_141 : decode cX11_could 141 = .ok (.istore 10, 2) := by decide +kernel
theorem dX11_could_143 : decode cX11_could 143 = .ok (.aload_n 0, 1) := by decide +kernel
theorem dX11_could_144 : decode cX11_could 144 = .ok (.iload 7, 2) := by decide +kernel
theorem dX11_could_146 : decode cX11_could 146 = .ok (.invokevirtual 145, 3) := by decide +kernel
theorem dX11_could_149 : decode cX11_could 149 = .ok (.bipush (-4), 2) := by decide +kernel
theorem dX11_could_151 : decode cX11_could 151 = .ok (.if_icmp .ne 8, 3) := by decide +kernel
theorem dX11_could_154 : decode cX11_could 154 = .ok (.bipush 9, 2) := by decide +kernel
theorem dX11_could_156 : decode cX11_could 156 = .ok (.goto 9, 3) := by decide +kernel
theorem dX11_could_159 : decode cX11_could 159 = .ok (.aload_n 0, 1) := by decide +kernel
theorem dX11_could_160 : decode cX11_could 160 = .ok (.iload 7, 2) := by decide +kernel
theorem dX11_could_162 : decode cX11_could 162 = .ok (.invokevirtual 145, 3) := by decide +kernel
theorem dX11_could_165 : decode cX11_could 165 = .ok (.istore 11, 2) := by decide +kernel
theorem dX11_could_167 : decode cX11_could 167 = .ok (.iload 5, 2) := by decide +kernel
theorem dX11_could_169 : decode cX11_could 169 = .ok (.iload 10, 2) := by decide +kernel
theorem dX11_could_171 : decode cX11_could 171 = .ok (.i2l, 1) := by decide +kernel
theorem dX11_could_172 : decode cX11_could 172 = .ok (.lload 8, 2) := by decide +kernel
theorem dX11_could_174 : decode cX11_could 174 = .ok (.lcmp, 1) := by decide +kernel
theorem dX11_could_175 : decode cX11_could 175 = .ok (.ifCond .ne 7, 3) := by decide +kernel
theorem dX11_could_178 : decode cX11_could 178 = .ok (.iconst 1, 1) := by decide +kernel
theorem dX11_could_179 : decode cX11_could 179 = .ok (.goto 4, 3) := by decide +kernel
theorem dX11_could_182 : decode cX11_could 182 = .ok (.iconst 0, 1) := by decide +kernel
theorem dX11_could_183 : decode cX11_could 183 = .ok (.iload 11, 2) := by decide +kernel
theorem dX11_could_185 : decode cX11_could 185 = .ok (.i2l, 1) := by decide +kernel
theorem dX11_could_186 : decode cX11_could 186 = .ok (.lload 8, 2) := by decide +kernel
theorem dX11_could_188 : decode cX11_could 188 = .ok (.lcmp, 1) := by decide +kernel
theorem dX11_could_189 : decode cX11_could 189 = .ok (.ifCond .ne 7, 3) := by decide +kernel
theorem dX11_could_192 : decode cX11_could 192 = .ok (.iconst 2, 1) := by decide +kernel
theorem dX11_could_193 : decode cX11_could 193 = .ok (.goto 4, 3) := by decide +kernel
theorem dX11_could_196 : decode cX11_could 196 = .ok (.iconst 0, 1) := by decide +kernel
theorem dX11_could_197 : decode cX11_could 197 = .ok (.ior, 1) := by decide +kernel
theorem dX11_could_198 : decode cX11_could 198 = .ok (.iand, 1) := by decide +kernel
theorem dX11_could_199 : decode cX11_could 199 = .ok (.istore 5, 2) := by decide +kernel
theorem dX11_could_201 : decode cX11_could 201 = .ok (.iinc 7 1, 3) := by decide +kernel
theorem dX11_could_204 : decode cX11_could 204 = .ok (.goto (-151), 3) := by decide +kernel
theorem dX11_could_207 : decode cX11_could 207 = .ok (.iload 6, 2) := by decide +kernel
theorem dX11_could_209 : decode cX11_could 209 = .ok (.ifCond .eq 8, 3) := by decide +kernel
theorem dX11_could_212 : decode cX11_could 212 = .ok (.iload 5, 2) := by decide +kernel
theorem dX11_could_214 : decode cX11_could 214 = .ok (.goto 5, 3) := by decide +kernel
theorem dX11_could_217 : decode cX11_could 217 = .ok (.bipush (-2), 2) := by decide +kernel
theorem dX11_could_219 : decode cX11_could 219 = .ok (.ireturn, 1) := by decide +kernel
theorem dX11_film_0 : decode cX11_film 0 = .ok (.aload_n 0, 1) := by decide +kernel
theorem dX11_film_1 : decode cX11_film 1 = .ok (.iload_n 1, 1) := by decide +kernel
theorem dX11_film_2 : decode cX11_film 2 = .ok (.invokevirtual 165, 3) := by decide +kernel
theorem dX11_film_5 : decode cX11_film 5 = .ok (.ifCond .eq 22, 3) := by decide +kernel
theorem dX11_film_8 : decode cX11_film 8 = .ok (.iload_n 2, 1) := by decide +kernel
theorem dX11_film_9 : decode cX11_film 9 = .ok (.invokestatic 282, 3) := by decide +kernel
theorem dX11_film_12 : decode cX11_film 12 = .ok (.ifCond .eq 15, 3) := by decide +kernel
theorem dX11_film_15 : decode cX11_film 15 = .ok (.iload_n 3, 1) := by decide +kernel
theorem dX11_film_16 : decode cX11_film 16 = .ok (.i2l, 1) := by decide +kernel
theorem dX11_film_17 : decode cX11_film 17 = .ok (.lconst 0, 1) := by decide +kernel
theorem dX11_film_18 : decode cX11_film 18 = .ok (.ldc2_w 225, 3) := by decide +kernel
theorem dX11_film_21 : decode cX11_film 21 = .ok (.invokestatic 116, 3) := by decide +kernel
theorem dX11_film_24 : decode cX11_film 24 = .ok (.ifCond .ne 5, 3) := by decide +kernel
theorem dX11_film_27 : decode cX11_film 27 = .ok (.iconst (-1), 1) := by decide +kernel
theorem dX11_film_28 : decode cX11_film 28 = .ok (.ireturn, 1) := by decide +kernel
theorem dX11_film_29 : decode cX11_film 29 = .ok (.aload_n 0, 1) := by decide +kernel
theorem dX11_film_30 : decode cX11_film 30 = .ok (.iload_n 1, 1) := by decide +kernel
theorem dX11_film_31 : decode cX11_film 31 = .ok (.invokevirtual 120, 3) := by decide +kernel
theorem dX11_film_34 : decode cX11_film 34 = .ok (.istore 5, 2) := by decide +kernel
theorem dX11_film_36 : decode cX11_film 36 = .ok (.aload_n 0, 1) := by decide +kernel
theorem dX11_film_37 : decode cX11_film 37 = .ok (.iload_n 2, 1) := by decide +kernel
theorem dX11_film_38 : decode cX11_film 38 = .ok (.iload_n 3, 1) := by decide +kernel
theorem dX11_film_39 : decode cX11_film 39 = .ok (.iload 4, 2) := by decide +kernel
theorem dX11_film_41 : decode cX11_film 41 = .ok (.iload 5, 2) := by decide +kernel
theorem dX11_film_43 : decode cX11_film 43 = .ok (.invokevirtual 285, 3) := by decide +kernel
theorem dX11_film_46 : decode cX11_film 46 = .ok (.istore 6, 2) := by decide +kernel
theorem dX11_film_48 : decode cX11_film 48 = .ok (.iload 6, 2) := by decide +kernel
theorem dX11_film_50 : decode cX11_film 50 = .ok (.ifCond .eq 6, 3) := by decide +kernel
theorem dX11_film_53 : decode cX11_film 53 = .ok (.iload 6, 2) := by decide +kernel
theorem dX11_film_55 : decode cX11_film 55 = .ok (.ireturn, 1) := by decide +kernel
theorem dX11_film_56 : decode cX11_film 56 = .ok (.iconst 0, 1) := by decide +kernel
theorem dX11_film_57 : decode cX11_film 57 = .ok (.istore 7, 2) := by decide +kernel
theorem dX11_film_59 : decode cX11_film 59 = .ok (.iload 7, 2) := by decide +kernel
theorem dX11_film_61 : decode cX11_film 61 = .ok (.iload 5, 2) := by decide +kernel
theorem dX11_film_63 : decode cX11_film 63 = .ok (.if_icmp .ge 36, 3) := by decide +kernel
theorem dX11_film_66 : decode cX11_film 66 = .ok (.aload_n 0, 1) := by decide +kernel
theorem dX11_film_67 : decode cX11_film 67 = .ok (.getfield 56, 3) := by decide +kernel
theorem dX11_film_70 : decode cX11_film 70 = .ok (.bipush 24, 2) := by decide +kernel
theorem dX11_film_72 : decode cX11_film 72 = .ok (.iload_n 2, 1) := by decide +kernel
theorem dX11_film_73 : decode cX11_film 73 = .ok (.imul, 1) := by decide +kernel
theorem dX11_film_74 : decode cX11_film 74 = .ok (.iload 4, 2) := by decide +kernel
theorem dX11_film_76 : decode cX11_film 76 = .ok (.iadd, 1) := by decide +kernel
theorem dX11_film_77 : decode cX11_film 77 = .ok (.iload 7, 2) := by decide +kernel
theorem dX11_film_79 : decode cX11_film 79 = .ok (.iadd, 1) := by decide +kernel
theorem dX11_film_80 : decode cX11_film 80 = .ok (.iload_n 3, 1) := by decide +kernel
theorem dX11_film_81 : decode cX11_film 81 = .ok (.aload_n 0, 1) := by decide +kernel
theorem dX11_film_82 : decode cX11_film 82 = .ok (.iload_n 1, 1) := by decide +kernel
theorem dX11_film_83 : decode cX11_film 83 = .ok (.iload 7, 2) := by decide +kernel
theorem dX11_film_85 : decode cX11_film 85 = .ok (.invokevirtual 139, 3) := by decide +kernel
theorem dX11_film_88 : decode cX11_film 88 = .ok (.i2l, 1) := by decide +kernel
theorem dX11_film_89 : decode cX11_film 89 = .ok (.invokestatic 289, 3) := by decide +kernel
theorem dX11_film_92 : decode cX11_film 92 = .ok (.lastore, 1) := by decide +kernel
theorem dX11_film_93 : decode cX11_film 93 = .ok (.iinc 7 1, 3) := by decide +kernel
theorem dX11_film_96 : decode cX11_film 96 = .ok (.goto (-37), 3) := by decide +kernel
theorem dX11_film_99 : decode cX11_film 99 = .ok (.iload 5, 2) := by decide +kernel
theorem dX11_film_101 : decode cX11_film 101 = .ok (.ireturn, 1) := by decide +kernel
theorem dX11_sheet_0 : decode cX11_sheet 0 = .ok (.iload_n 1, 1) := by decide +kernel
theorem dX11_sheet_1 : decode cX11_sheet 1 = .ok (.invokestatic 282, 3) := by decide +kernel
theorem dX11_sheet_4 : decode cX11_sheet 4 = .ok (.ifCond .eq 21, 3) := by decide +kernel
theorem dX11_sheet_7 : decode cX11_sheet 7 = .ok (.iload_n 2, 1) := by decide +kernel
theorem dX11_sheet_8 : decode cX11_sheet 8 = .ok (.i2l, 1) := by decide +kernel
theorem dX11_sheet_9 : decode cX11_sheet 9 = .ok (.lconst 0, 1) := by decide +kernel
theorem dX11_sheet_10 : decode cX11_sheet 10 = .ok (.ldc2_w 225, 3) := by decide +kernel
theorem dX11_sheet_13 : decode cX11_sheet 13 = .ok (.invokestatic 116, 3) := by decide +kernel
theorem dX11_sheet_16 : decode cX11_sheet 16 = .ok (.ifCond .eq 9, 3) := by decide +kernel
theorem dX11_sheet_19 : decode cX11_sheet 19 = .ok (.iload_n 3, 1) := by decide +kernel
theorem dX11_sheet_20 : decode cX11_sheet 20 = .ok (.bipush 24, 2) := by decide +kernel
theorem dX11_sheet_22 : decode cX11_sheet 22 = .ok (.if_icmp .le 5, 3) := by decide +kernel
theorem dX11_sheet_25 : decode cX11_sheet 25 = .ok (.iconst (-1), 1) := by decide +kernel
theorem dX11_sheet_26 : decode cX11_sheet 26 = .ok (.ireturn, 1) := by decide +kernel
theorem dX11_sheet_27 : decode cX11_sheet 27 = .ok (.iload_n 3, 1) := by decide +kernel
theorem dX11_sheet_28 : decode cX11_sheet 28 = .ok (.ifCond .ge 6, 3) := by decide +kernel
theorem dX11_sheet_31 : decode cX11_sheet 31 = .ok (.bipush (-14), 2) := by decide +kernel
theorem dX11_sheet_33 : decode cX11_sheet 33 = .ok (.ireturn, 1) := by decide +kernel
theorem dX11_sheet_34 : decode cX11_sheet 34 = .ok (.aload_n 0, 1) := by decide +kernel
theorem dX11_sheet_35 : decode cX11_sheet 35 = .ok (.getfield 50, 3) := by decide +kernel
theorem dX11_sheet_38 : decode cX11_sheet 38 = .ok (.iload_n 1, 1) := by decide +kernel
theorem dX11_sheet_39 : decode cX11_sheet 39 = .ok (.iload_n 2, 1) := by decide +kernel
theorem dX11_sheet_40 : decode cX11_sheet 40 = .ok (.iastore, 1) := by decide +kernel
theorem dX11_sheet_41 : decode cX11_sheet 41 = .ok (.aload_n 0, 1) := by decide +kernel
theorem dX11_sheet_42 : decode cX11_sheet 42 = .ok (.getfield 53, 3) := by decide +kernel
theorem dX11_sheet_45 : decode cX11_sheet 45 = .ok (.iload_n 1, 1) := by decide +kernel
theorem dX11_sheet_46 : decode cX11_sheet 46 = .ok (.iload_n 3, 1) := by decide +kernel
theorem dX11_sheet_47 : decode cX11_sheet 47 = .ok (.iastore, 1) := by decide +kernel
theorem dX11_sheet_48 : decode cX11_sheet 48 = .ok (.iconst 0, 1) := by decide +kernel
theorem dX11_sheet_49 : decode cX11_sheet 49 = .ok (.istore 4, 2) := by decide +kernel
theorem dX11_sheet_51 : decode cX11_sheet 51 = .ok (.iload 4, 2) := by decide +kernel
theorem dX11_sheet_53 : decode cX11_sheet 53 = .ok (.bipush 24, 2) := by decide +kernel
theorem dX11_sheet_55 : decode cX11_sheet 55 = .ok (.if_icmp .ge 22, 3) := by decide +kernel
theorem dX11_sheet_58 : decode cX11_sheet 58 = .ok (.aload_n 0, 1) := by decide +kernel
theorem dX11_sheet_59 : decode cX11_sheet 59 = .ok (.getfield 56, 3) := by decide +kernel
theorem dX11_sheet_62 : decode cX11_sheet 62 = .ok (.bipush 24, 2) := by decide +kernel
theorem dX11_sheet_64 : decode cX11_sheet 64 = .ok (.iload_n 1, 1) := by decide +kernel
theorem dX11_sheet_65 : decode cX11_sheet 65 = .ok (.imul, 1) := by decide +kernel
theorem dX11_sheet_66 : decode cX11_sheet 66 = .ok (.iload 4, 2) := by decide +kernel
theorem dX11_sheet_68 : decode cX11_sheet 68 = .ok (.iadd, 1) := by decide +kernel
theorem dX11_sheet_69 : decode cX11_sheet 69 = .ok (.lconst 0, 1) := by decide +kernel
theorem dX11_sheet_70 : decode cX11_sheet 70 = .ok (.lastore, 1) := by decide +kernel
theorem dX11_sheet_71 : decode cX11_sheet 71 = .ok (.iinc 4 1, 3) := by decide +kernel
theorem dX11_sheet_74 : decode cX11_sheet 74 = .ok (.goto (-23), 3) := by decide +kernel
theorem dX11_sheet_77 : decode cX11_sheet 77 = .ok (.iload_n 3, 1) := by decide +kernel
theorem dX11_sheet_78 : decode cX11_sheet 78 = .ok (.ireturn, 1) := by decide +kernel
theorem dX11_drop_0 : decode cX11_drop 0 = .ok (.iload_n 1, 1) := by decide +kernel
theorem dX11_drop_1 : decode cX11_drop 1 = .ok (.invokestatic 282, 3) := by decide +kernel
theorem dX11_drop_4 : decode cX11_drop 4 = .ok (.ifCond .ne 5, 3) := by decide +kernel
theorem dX11_drop_7 : decode cX11_drop 7 = .ok (.iconst (-1), 1) := by decide +kernel
theorem dX11_drop_8 : decode cX11_drop 8 = .ok (.ireturn, 1) := by decide +kernel
theorem dX11_drop_9 : decode cX11_drop 9 = .ok (.aload_n 0, 1) := by decide +kernel
theorem dX11_drop_10 : decode cX11_drop 10 = .ok (.getfield 53, 3) := by decide +kernel
theorem dX11_drop_13 : decode cX11_drop 13 = .ok (.iload_n 1, 1) := by decide +kernel
theorem dX11_drop_14 : decode cX11_drop 14 = .ok (.iaload, 1) := by decide +kernel
theorem dX11_drop_15 : decode cX11_drop 15 = .ok (.istore_n 2, 1) := by decide +kernel
theorem dX11_drop_16 : decode cX11_drop 16 = .ok (.iload_n 2, 1) := by decide +kernel
theorem dX11_drop_17 : decode cX11_drop 17 = .ok (.ifCond .ge 6, 3) := by decide +kernel
theorem dX11_drop_20 : decode cX11_drop 20 = .ok (.bipush (-11), 2) := by decide +kernel
theorem dX11_drop_22 : decode cX11_drop 22 = .ok (.ireturn, 1) := by decide +kernel
theorem dX11_drop_23 : decode cX11_drop 23 = .ok (.aload_n 0, 1) := by decide +kernel
theorem dX11_drop_24 : decode cX11_drop 24 = .ok (.getfield 53, 3) := by decide +kernel
theorem dX11_drop_27 : decode cX11_drop 27 = .ok (.iload_n 1, 1) := by decide +kernel
theorem dX11_drop_28 : decode cX11_drop 28 = .ok (.iconst (-1), 1) := by decide +kernel
theorem dX11_drop_29 : decode cX11_drop 29 = .ok (.iastore, 1) := by decide +kernel
theorem dX11_drop_30 : decode cX11_drop 30 = .ok (.iload_n 2, 1) := by decide +kernel
theorem dX11_drop_31 : decode cX11_drop 31 = .ok (.ireturn, 1) := by decide +kernel
theorem dX11_item_0 : decode cX11_item 0 = .ok (.iload_n 1, 1) := by decide +kernel
theorem dX11_item_1 : decode cX11_item 1 = .ok (.invokestatic 282, 3) := by decide +kernel
theorem dX11_item_4 : decode cX11_item 4 = .ok (.ifCond .eq 15, 3) := by decide +kernel
theorem dX11_item_7 : decode cX11_item 7 = .ok (.iload_n 2, 1) := by decide +kernel
theorem dX11_item_8 : decode cX11_item 8 = .ok (.i2l, 1) := by decide +kernel
theorem dX11_item_9 : decode cX11_item 9 = .ok (.lconst 0, 1) := by decide +kernel
theorem dX11_item_10 : decode cX11_item 10 = .ok (.ldc2_w 225, 3) := by decide +kernel
theorem dX11_item_13 : decode cX11_item 13 = .ok (.invokestatic 116, 3) := by decide +kernel
theorem dX11_item_16 : decode cX11_item 16 = .ok (.ifCond .ne 5, 3) := by decide +kernel
theorem dX11_item_19 : decode cX11_item 19 = .ok (.iconst (-1), 1) := by decide +kernel
theorem dX11_item_20 : decode cX11_item 20 = .ok (.ireturn, 1) := by decide +kernel
theorem dX11_item_21 : decode cX11_item 21 = .ok (.aload_n 0, 1) := by decide +kernel
theorem dX11_item_22 : decode cX11_item 22 = .ok (.iload_n 1, 1) := by decide +kernel
theorem dX11_item_23 : decode cX11_item 23 = .ok (.iload_n 2, 1) := by decide +kernel
theorem dX11_item_24 : decode cX11_item 24 = .ok (.iload_n 3, 1) := by decide +kernel
theorem dX11_item_25 : decode cX11_item 25 = .ok (.iconst 1, 1) := by decide +kernel
theorem dX11_item_26 : decode cX11_item 26 = .ok (.invokevirtual 285, 3) := by decide +kernel
theorem dX11_item_29 : decode cX11_item 29 = .ok (.istore 6, 2) := by decide +kernel
theorem dX11_item_31 : decode cX11_item 31 = .ok (.iload 6, 2) := by decide +kernel
theorem dX11_item_33 : decode cX11_item 33 = .ok (.ifCond .eq 6, 3) := by decide +kernel
theorem dX11_item_36 : decode cX11_item 36 = .ok (.iload 6, 2) := by decide +kernel
theorem dX11_item_38 : decode cX11_item 38 = .ok (.ireturn, 1) := by decide +kernel
theorem dX11_item_39 : decode cX11_item 39 = .ok (.aload_n 0, 1) := by decide +kernel
theorem dX11_item_40 : decode cX11_item 40 = .ok (.getfield 56, 3) := by decide +kernel
theorem dX11_item_43 : decode cX11_item 43 = .ok (.bipush 24, 2) := by decide +kernel
theorem dX11_item_45 : decode cX11_item 45 = .ok (.iload_n 1, 1) := by decide +kernel
theorem dX11_item_46 : decode cX11_item 46 = .ok (.imul, 1) := by decide +kernel
theorem dX11_item_47 : decode cX11_item 47 = .ok (.iload_n 3, 1) := by decide +kernel
theorem dX11_item_48 : decode cX11_item 48 = .ok (.iadd, 1) := by decide +kernel
theorem dX11_item_49 : decode cX11_item 49 = .ok (.iload_n 2, 1) := by decide +kernel
theorem dX11_item_50 : decode cX11_item 50 = .ok (.lload 4, 2) := by decide +kernel
theorem dX11_item_52 : decode cX11_item 52 = .ok (.invokestatic 289, 3) := by decide +kernel
theorem dX11_item_55 : decode cX11_item 55 = .ok (.lastore, 1) := by decide +kernel
theorem dX11_item_56 : decode cX11_item 56 = .ok (.iconst 1, 1) := by decide +kernel
theorem dX11_item_57 : decode cX11_item 57 = .ok (.ireturn, 1) := by decide +kernel
theorem dX11_copy_0 : decode cX11_copy 0 = .ok (.iload_n 1, 1) := by decide +kernel
theorem dX11_copy_1 : decode cX11_copy 1 = .ok (.invokestatic 282, 3) := by decide +kernel
theorem dX11_copy_4 : decode cX11_copy 4 = .ok (.ifCond .eq 10, 3) := by decide +kernel
theorem dX11_copy_7 : decode cX11_copy 7 = .ok (.iload_n 3, 1) := by decide +kernel
theorem dX11_copy_8 : decode cX11_copy 8 = .ok (.invokestatic 282, 3) := by decide +kernel
theorem dX11_copy_11 : decode cX11_copy 11 = .ok (.ifCond .ne 5, 3) := by decide +kernel
theorem dX11_copy_14 : decode cX11_copy 14 = .ok (.iconst (-1), 1) := by decide +kernel
theorem dX11_copy_15 : decode cX11_copy 15 = .ok (.ireturn, 1) := by decide +kernel
theorem dX11_copy_16 : decode cX11_copy 16 = .ok (.aload_n 0, 1) := by decide +kernel
theorem dX11_copy_17 : decode cX11_copy 17 = .ok (.getfield 53, 3) := by decide +kernel
theorem dX11_copy_20 : decode cX11_copy 20 = .ok (.iload_n 1, 1) := by decide +kernel
theorem dX11_copy_21 : decode cX11_copy 21 = .ok (.iaload, 1) := by decide +kernel
theorem dX11_copy_22 : decode cX11_copy 22 = .ok (.ifCond .lt 12, 3) := by decide +kernel
theorem dX11_copy_25 : decode cX11_copy 25 = .ok (.aload_n 0, 1) := by decide +kernel
theorem dX11_copy_26 : decode cX11_copy 26 = .ok (.getfield 53, 3) := by decide +kernel
theorem dX11_copy_29 : decode cX11_copy 29 = .ok (.iload_n 3, 1) := by decide +kernel
theorem dX11_copy_30 : decode cX11_copy 30 = .ok (.iaload, 1) := by decide +kernel
theorem dX11_copy_31 : decode cX11_copy 31 = .ok (.ifCond .ge 6, 3) := by decide +kernel
theorem dX11_copy_34 : decode cX11_copy 34 = .ok (.bipush (-11), 2) := by decide +kernel
theorem dX11_copy_36 : decode cX11_copy 36 = .ok (.ireturn, 1) := by decide +kernel
theorem dX11_copy_37 : decode cX11_copy 37 = .ok (.aload_n 0, 1) := by decide +kernel
theorem dX11_copy_38 : decode cX11_copy 38 = .ok (.getfield 50, 3) := by decide +kernel
theorem dX11_copy_41 : decode cX11_copy 41 = .ok (.iload_n 1, 1) := by decide +kernel
theorem dX11_copy_42 : decode cX11_copy 42 = .ok (.iaload, 1) := by decide +kernel
theorem dX11_copy_43 : decode cX11_copy 43 = .ok (.aload_n 0, 1) := by decide +kernel
theorem dX11_copy_44 : decode cX11_copy 44 = .ok (.getfield 50, 3) := by decide +kernel
theorem dX11_copy_47 : decode cX11_copy 47 = .ok (.iload_n 3, 1) := by decide +kernel
theorem dX11_copy_48 : decode cX11_copy 48 = .ok (.iaload, 1) := by decide +kernel
theorem dX11_copy_49 : decode cX11_copy 49 = .ok (.if_icmp .eq 6, 3) := by decide +kernel
theorem dX11_copy_52 : decode cX11_copy 52 = .ok (.bipush (-12), 2) := by decide +kernel
theorem dX11_copy_54 : decode cX11_copy 54 = .ok (.ireturn, 1) := by decide +kernel
theorem dX11_copy_55 : decode cX11_copy 55 = .ok (.iload 5, 2) := by decide +kernel
theorem dX11_copy_57 : decode cX11_copy 57 = .ok (.ifCond .lt 38, 3) := by decide +kernel
theorem dX11_copy_60 : decode cX11_copy 60 = .ok (.aload_n 0, 1) := by decide +kernel
theorem dX11_copy_61 : decode cX11_copy 61 = .ok (.iload_n 1, 1) := by decide +kernel
theorem dX11_copy_62 : decode cX11_copy 62 = .ok (.aload_n 0, 1) := by decide +kernel
theorem dX11_copy_63 : decode cX11_copy 63 = .ok (.getfield 50, 3) := by decide +kernel
theorem dX11_copy_66 : decode cX11_copy 66 = .ok (.iload_n 1, 1) := by decide +kernel
theorem dX11_copy_67 : decode cX11_copy 67 = .ok (.iaload, 1) := by decide +kernel
theorem dX11_copy_68 : decode cX11_copy 68 = .ok (.iload_n 2, 1) := by decide +kernel
theorem dX11_copy_69 : decode cX11_copy 69 = .ok (.iload 5, 2) := by decide +kernel
theorem dX11_copy_71 : decode cX11_copy 71 = .ok (.invokevirtual 285, 3) := by decide +kernel
theorem dX11_copy_74 : decode cX11_copy 74 = .ok (.ifCond .ne 21, 3) := by decide +kernel
theorem dX11_copy_77 : decode cX11_copy 77 = .ok (.aload_n 0, 1) := by decide +kernel
theorem dX11_copy_78 : decode cX11_copy 78 = .ok (.iload_n 3, 1) := by decide +kernel
theorem dX11_copy_79 : decode cX11_copy 79 = .ok (.aload_n 0, 1) := by decide +kernel
theorem dX11_copy_80 : decode cX11_copy 80 = .ok (.getfield 50, 3) := by decide +kernel
theorem dX11_copy_83 : decode cX11_copy 83 = .ok (.iload_n 3, 1) := by decide +kernel
theorem dX11_copy_84 : decode cX11_copy 84 = .ok (.iaload, 1) := by decide +kernel
theorem dX11_copy_85 : decode cX11_copy 85 = .ok (.iload 4, 2) := by decide +kernel
theorem dX11_copy_87 : decode cX11_copy 87 = .ok (.iload 5, 2) := by decide +kernel
theorem dX11_copy_89 : decode cX11_copy 89 = .ok (.invokevirtual 285, 3) := by decide +kernel
theorem dX11_copy_92 : decode cX11_copy 92 = .ok (.ifCond .eq 6, 3) := by decide +kernel
theorem dX11_copy_95 : decode cX11_copy 95 = .ok (.bipush (-13), 2) := by decide +kernel
theorem dX11_copy_97 : decode cX11_copy 97 = .ok (.ireturn, 1) := by decide +kernel
theorem dX11_copy_98 : decode cX11_copy 98 = .ok (.iconst 0, 1) := by decide +kernel
theorem dX11_copy_99 : decode cX11_copy 99 = .ok (.istore 6, 2) := by decide +kernel
theorem dX11_copy_101 : decode cX11_copy 101 = .ok (.iload 6, 2) := by decide +kernel
theorem dX11_copy_103 : decode cX11_copy 103 = .ok (.iload 5, 2) := by decide +kernel
theorem dX11_copy_105 : decode cX11_copy 105 = .ok (.if_icmp .ge 58, 3) := by decide +kernel
theorem dX11_copy_108 : decode cX11_copy 108 = .ok (.iload_n 2, 1) := by decide +kernel
theorem dX11_copy_109 : decode cX11_copy 109 = .ok (.iload 4, 2) := by decide +kernel
theorem dX11_copy_111 : decode cX11_copy 111 = .ok (.if_icmp .ge 13, 3) := by decide +kernel
theorem dX11_copy_114 : decode cX11_copy 114 = .ok (.iload 5, 2) := by decide +kernel
theorem dX11_copy_116 : decode cX11_copy 116 = .ok (.iconst 1, 1) := by decide +kernel
theorem dX11_copy_117 : decode cX11_copy 117 = .ok (.isub, 1) := by decide +kernel
theorem dX11_copy_118 : decode cX11_copy 118 = .ok (.iload 6, 2) := by decide +kernel
theorem dX11_copy_120 : decode cX11_copy 120 = .ok (.isub, 1) := by decide +kernel
theorem dX11_copy_121 : decode cX11_copy 121 = .ok (.goto 5, 3) := by decide +kernel
theorem dX11_copy_124 : decode cX11_copy 124 = .ok (.iload 6, 2) := by decide +kernel
theorem dX11_copy_126 : decode cX11_copy 126 = .ok (.istore 7, 2) := by decide +kernel
theorem dX11_copy_128 : decode cX11_copy 128 = .ok (.aload_n 0, 1) := by decide +kernel
theorem dX11_copy_129 : decode cX11_copy 129 = .ok (.getfield 56, 3) := by decide +kernel
theorem dX11_copy_132 : decode cX11_copy 132 = .ok (.bipush 24, 2) := by decide +kernel
theorem dX11_copy_134 : decode cX11_copy 134 = .ok (.iload_n 3, 1) := by decide +kernel
theorem dX11_copy_135 : decode cX11_copy 135 = .ok (.imul, 1) := by decide +kernel
theorem dX11_copy_136 : decode cX11_copy 136 = .ok (.iload 4, 2) := by decide +kernel
theorem dX11_copy_138 : decode cX11_copy 138 = .ok (.iadd, 1) := by decide +kernel
theorem dX11_copy_139 : decode cX11_copy 139 = .ok (.iload 7, 2) := by decide +kernel
theorem dX11_copy_141 : decode cX11_copy 141 = .ok (.iadd, 1) := by decide +kernel
theorem dX11_copy_142 : decode cX11_copy 142 = .ok (.aload_n 0, 1) := by decide +kernel
theorem dX11_copy_143 : decode cX11_copy 143 = .ok (.getfield 56, 3) := by decide +kernel
theorem dX11_copy_146 : decode cX11_copy 146 = .ok (.bipush 24, 2) := by decide +kernel
theorem dX11_copy_148 : decode cX11_copy 148 = .ok (.iload_n 1, 1) := by decide +kernel
theorem dX11_copy_149 : decode cX11_copy 149 = .ok (.imul, 1) := by decide +kernel
theorem dX11_copy_150 : decode cX11_copy 150 = .ok (.iload_n 2, 1) := by decide +kernel
theorem dX11_copy_151 : decode cX11_copy 151 = .ok (.iadd, 1) := by decide +kernel
theorem dX11_copy_152 : decode cX11_copy 152 = .ok (.iload 7, 2) := by decide +kernel
theorem dX11_copy_154 : decode cX11_copy 154 = .ok (.iadd, 1) := by decide +kernel
theorem dX11_copy_155 : decode cX11_copy 155 = .ok (.laload, 1) := by decide +kernel
theorem dX11_copy_156 : decode cX11_copy 156 = .ok (.lastore, 1) := by decide +kernel
theorem dX11_copy_157 : decode cX11_copy 157 = .ok (.iinc 6 1, 3) := by decide +kernel
theorem dX11_copy_160 : decode cX11_copy 160 = .ok (.goto (-59), 3) := by decide +kernel
theorem dX11_copy_163 : decode cX11_copy 163 = .ok (.iload 5, 2) := by decide +kernel
theorem dX11_copy_165 : decode cX11_copy 165 = .ok (.ireturn, 1) := by decide +kernel
theorem dJ6_bitCount_0f7a4_0 : decode cJ6_bitCount_0f7a4 0 = .ok (.iload_n 0, 1) := by decide +kernel
theorem dJ6_bitCount_0f7a4_1 : decode cJ6_bitCount_0f7a4 1 = .ok (.iload_n 0, 1) := by decide +kernel
theorem dJ6_bitCount_0f7a4_2 : decode cJ6_bitCount_0f7a4 2 = .ok (.iconst 1, 1) := by decide +kernel
theorem dJ6_bitCount_0f7a4_3 : decode cJ6_bitCount_0f7a4 3 = .ok (.iushr, 1) := by decide +kernel
theorem dJ6_bitCount_0f7a4_4 : decode cJ6_bitCount_0f7a4 4 = .ok (.ldc_w 265, 3) := by decide +kernel
theorem dJ6_bitCount_0f7a4_7 : decode cJ6_bitCount_0f7a4 7 = .ok (.iand, 1) := by decide +kernel
theorem dJ6_bitCount_0f7a4_8 : decode cJ6_bitCount_0f7a4 8 = .ok (.isub, 1) := by decide +kernel
theorem dJ6_bitCount_0f7a4_9 : decode cJ6_bitCount_0f7a4 9 = .ok (.istore_n 0, 1) := by decide +kernel
theorem dJ6_bitCount_0f7a4_10 : decode cJ6_bitCount_0f7a4 10 = .ok (.iload_n 0, 1) := by decide +kernel
theorem dJ6_bitCount_0f7a4_11 : decode cJ6_bitCount_0f7a4 11 = .ok (.ldc_w 266, 3) := by decide +kernel
theorem dJ6_bitCount_0f7a4_14 : decode cJ6_bitCount_0f7a4 14 = .ok (.iand, 1) := by decide +kernel
theorem dJ6_bitCount_0f7a4_15 : decode cJ6_bitCount_0f7a4 15 = .ok (.iload_n 0, 1) := by decide +kernel
theorem dJ6_bitCount_0f7a4_16 : decode cJ6_bitCount_0f7a4 16 = .ok (.iconst 2, 1) := by decide +kernel
theorem dJ6_bitCount_0f7a4_17 : decode cJ6_bitCount_0f7a4 17 = .ok (.iushr, 1) := by decide +kernel
theorem dJ6_bitCount_0f7a4_18 : decode cJ6_bitCount_0f7a4 18 = .ok (.ldc_w 266, 3) := by decide +kernel
theorem dJ6_bitCount_0f7a4_21 : decode cJ6_bitCount_0f7a4 21 = .ok (.iand, 1) := by decide +kernel
theorem dJ6_bitCount_0f7a4_22 : decode cJ6_bitCount_0f7a4 22 = .ok (.iadd, 1) := by decide +kernel
theorem dJ6_bitCount_0f7a4_23 : decode cJ6_bitCount_0f7a4 23 = .ok (.istore_n 0, 1) := by decide +kernel
theorem dJ6_bitCount_0f7a4_24 : decode cJ6_bitCount_0f7a4 24 = .ok (.iload_n 0, 1) := by decide +kernel
theorem dJ6_bitCount_0f7a4_25 : decode cJ6_bitCount_0f7a4 25 = .ok (.iload_n 0, 1) := by decide +kernel
theorem dJ6_bitCount_0f7a4_26 : decode cJ6_bitCount_0f7a4 26 = .ok (.iconst 4, 1) := by decide +kernel
theorem dJ6_bitCount_0f7a4_27 : decode cJ6_bitCount_0f7a4 27 = .ok (.iushr, 1) := by decide +kernel
theorem dJ6_bitCount_0f7a4_28 : decode cJ6_bitCount_0f7a4 28 = .ok (.iadd, 1) := by decide +kernel
theorem dJ6_bitCount_0f7a4_29 : decode cJ6_bitCount_0f7a4 29 = .ok (.ldc_w 267, 3) := by decide +kernel
theorem dJ6_bitCount_0f7a4_32 : decode cJ6_bitCount_0f7a4 32 = .ok (.iand, 1) := by decide +kernel
theorem dJ6_bitCount_0f7a4_33 : decode cJ6_bitCount_0f7a4 33 = .ok (.istore_n 0, 1) := by decide +kernel
theorem dJ6_bitCount_0f7a4_34 : decode cJ6_bitCount_0f7a4 34 = .ok (.iload_n 0, 1) := by decide +kernel
theorem dJ6_bitCount_0f7a4_35 : decode cJ6_bitCount_0f7a4 35 = .ok (.iload_n 0, 1) := by decide +kernel
theorem dJ6_bitCount_0f7a4_36 : decode cJ6_bitCount_0f7a4 36 = .ok (.bipush 8, 2) := by decide +kernel
theorem dJ6_bitCount_0f7a4_38 : decode cJ6_bitCount_0f7a4 38 = .ok (.iushr, 1) := by decide +kernel
theorem dJ6_bitCount_0f7a4_39 : decode cJ6_bitCount_0f7a4 39 = .ok (.iadd, 1) := by decide +kernel
theorem dJ6_bitCount_0f7a4_40 : decode cJ6_bitCount_0f7a4 40 = .ok (.istore_n 0, 1) := by decide +kernel
theorem dJ6_bitCount_0f7a4_41 : decode cJ6_bitCount_0f7a4 41 = .ok (.iload_n 0, 1) := by decide +kernel
theorem dJ6_bitCount_0f7a4_42 : decode cJ6_bitCount_0f7a4 42 = .ok (.iload_n 0, 1) := by decide +kernel
theorem dJ6_bitCount_0f7a4_43 : decode cJ6_bitCount_0f7a4 43 = .ok (.bipush 16, 2) := by decide +kernel
theorem dJ6_bitCount_0f7a4_45 : decode cJ6_bitCount_0f7a4 45 = .ok (.iushr, 1) := by decide +kernel
theorem dJ6_bitCount_0f7a4_46 : decode cJ6_bitCount_0f7a4 46 = .ok (.iadd, 1) := by decide +kernel
theorem dJ6_bitCount_0f7a4_47 : decode cJ6_bitCount_0f7a4 47 = .ok (.istore_n 0, 1) := by decide +kernel
theorem dJ6_bitCount_0f7a4_48 : decode cJ6_bitCount_0f7a4 48 = .ok (.iload_n 0, 1) := by decide +kernel
theorem dJ6_bitCount_0f7a4_49 : decode cJ6_bitCount_0f7a4 49 = .ok (.bipush 63, 2) := by decide +kernel
theorem dJ6_bitCount_0f7a4_51 : decode cJ6_bitCount_0f7a4 51 = .ok (.iand, 1) := by decide +kernel
theorem dJ6_bitCount_0f7a4_52 : decode cJ6_bitCount_0f7a4 52 = .ok (.ireturn, 1) := by decide +kernel
theorem dJ9_floorMod_7cf53_0 : decode cJ9_floorMod_7cf53 0 = .ok (.iload_n 0, 1) := by decide +kernel
theorem dJ9_floorMod_7cf53_1 : decode cJ9_floorMod_7cf53 1 = .ok (.iload_n 1, 1) := by decide +kernel
theorem dJ9_floorMod_7cf53_2 : decode cJ9_floorMod_7cf53 2 = .ok (.irem, 1) := by decide +kernel
theorem dJ9_floorMod_7cf53_3 : decode cJ9_floorMod_7cf53 3 = .ok (.istore_n 2, 1) := by decide +kernel
theorem dJ9_floorMod_7cf53_4 : decode cJ9_floorMod_7cf53 4 = .ok (.iload_n 0, 1) := by decide +kernel
theorem dJ9_floorMod_7cf53_5 : decode cJ9_floorMod_7cf53 5 = .ok (.iload_n 1, 1) := by decide +kernel
theorem dJ9_floorMod_7cf53_6 : decode cJ9_floorMod_7cf53 6 = .ok (.ixor, 1) := by decide +kernel
theorem dJ9_floorMod_7cf53_7 : decode cJ9_floorMod_7cf53 7 = .ok (.ifCond .ge 11, 3) := by decide +kernel
theorem dJ9_floorMod_7cf53_10 : decode cJ9_floorMod_7cf53 10 = .ok (.iload_n 2, 1) := by decide +kernel
theorem dJ9_floorMod_7cf53_11 : decode cJ9_floorMod_7cf53 11 = .ok (.ifCond .eq 7, 3) := by decide +kernel
theorem dJ9_floorMod_7cf53_14 : decode cJ9_floorMod_7cf53 14 = .ok (.iload_n 2, 1) := by decide +kernel
theorem dJ9_floorMod_7cf53_15 : decode cJ9_floorMod_7cf53 15 = .ok (.iload_n 1, 1) := by decide +kernel
theorem dJ9_floorMod_7cf53_16 : decode cJ9_floorMod_7cf53 16 = .ok (.iadd, 1) := by decide +kernel
theorem dJ9_floorMod_7cf53_17 : decode cJ9_floorMod_7cf53 17 = .ok (.ireturn, 1) := by decide +kernel
theorem dJ9_floorMod_7cf53_18 : decode cJ9_floorMod_7cf53 18 = .ok (.iload_n 2, 1) := by decide +kernel
theorem dJ9_floorMod_7cf53_19 : decode cJ9_floorMod_7cf53 19 = .ok (.ireturn, 1) := by decide +kernel
theorem dJ9_min_7cf53_0 : decode cJ9_min_7cf53 0 = .ok (.iload_n 0, 1) := by decide +kernel
theorem dJ9_min_7cf53_1 : decode cJ9_min_7cf53 1 = .ok (.iload_n 1, 1) := by decide +kernel
theorem dJ9_min_7cf53_2 : decode cJ9_min_7cf53 2 = .ok (.if_icmp .gt 7, 3) := by decide +kernel
theorem dJ9_min_7cf53_5 : decode cJ9_min_7cf53 5 = .ok (.iload_n 0, 1) := by decide +kernel
theorem dJ9_min_7cf53_6 : decode cJ9_min_7cf53 6 = .ok (.goto 4, 3) := by decide +kernel
theorem dJ9_min_7cf53_9 : decode cJ9_min_7cf53 9 = .ok (.iload_n 1, 1) := by decide +kernel
theorem dJ9_min_7cf53_10 : decode cJ9_min_7cf53 10 = .ok (.ireturn, 1) := by decide +kernel
theorem dJ0_length_8abf5_0 : decode cJ0_length_8abf5 0 = .ok (.aload_n 0, 1) := by decide +kernel
theorem dJ0_length_8abf5_1 : decode cJ0_length_8abf5 1 = .ok (.getfield 9, 3) := by decide +kernel
theorem dJ0_length_8abf5_4 : decode cJ0_length_8abf5 4 = .ok (.arraylength, 1) := by decide +kernel
theorem dJ0_length_8abf5_5 : decode cJ0_length_8abf5 5 = .ok (.aload_n 0, 1) := by decide +kernel
theorem dJ0_length_8abf5_6 : decode cJ0_length_8abf5 6 = .ok (.invokevirtual 335, 3) := by decide +kernel
theorem dJ0_length_8abf5_9 : decode cJ0_length_8abf5 9 = .ok (.ishr, 1) := by decide +kernel
theorem dJ0_length_8abf5_10 : decode cJ0_length_8abf5 10 = .ok (.ireturn, 1) := by decide +kernel
theorem dJ0_charAt_5068e_0 : decode cJ0_charAt_5068e 0 = .ok (.aload_n 0, 1) := by decide +kernel
theorem dJ0_charAt_5068e_1 : decode cJ0_charAt_5068e 1 = .ok (.invokevirtual 492, 3) := by decide +kernel
theorem dJ0_charAt_5068e_4 : decode cJ0_charAt_5068e 4 = .ok (.ifCond .eq 12, 3) := by decide +kernel
theorem dJ0_charAt_5068e_7 : decode cJ0_charAt_5068e 7 = .ok (.aload_n 0, 1) := by decide +kernel
theorem dJ0_charAt_5068e_8 : decode cJ0_charAt_5068e 8 = .ok (.getfield 9, 3) := by decide +kernel
theorem dJ0_charAt_5068e_11 : decode cJ0_charAt_5068e 11 = .ok (.iload_n 1, 1) := by decide +kernel
theorem dJ0_charAt_5068e_12 : decode cJ0_charAt_5068e 12 = .ok (.invokestatic 495, 3) := by decide +kernel
theorem dJ0_charAt_5068e_15 : decode cJ0_charAt_5068e 15 = .ok (.ireturn, 1) := by decide +kernel
theorem dJ0_charAt_5068e_16 : decode cJ0_charAt_5068e 16 = .ok (.aload_n 0, 1) := by decide +kernel
theorem dJ0_charAt_5068e_17 : decode cJ0_charAt_5068e 17 = .ok (.getfield 9, 3) := by decide +kernel
theorem dJ0_charAt_5068e_20 : decode cJ0_charAt_5068e 20 = .ok (.iload_n 1, 1) := by decide +kernel
theorem dJ0_charAt_5068e_21 : decode cJ0_charAt_5068e 21 = .ok (.invokestatic 498, 3) := by decide +kernel
theorem dJ0_charAt_5068e_24 : decode cJ0_charAt_5068e 24 = .ok (.ireturn, 1) := by decide +kernel
theorem dJ0_coder_7d493_0 : decode cJ0_coder_7d493 0 = .ok (.getstatic 38, 3) := by decide +kernel
theorem dJ0_coder_7d493_3 : decode cJ0_coder_7d493 3 = .ok (.ifCond .eq 10, 3) := by decide +kernel
theorem dJ0_coder_7d493_6 : decode cJ0_coder_7d493 6 = .ok (.aload_n 0, 1) := by decide +kernel
theorem dJ0_coder_7d493_7 : decode cJ0_coder_7d493 7 = .ok (.getfield 15, 3) := by decide +kernel
theorem dJ0_coder_7d493_10 : decode cJ0_coder_7d493 10 = .ok (.goto 4, 3) := by decide +kernel
theorem dJ0_coder_7d493_13 : decode cJ0_coder_7d493 13 = .ok (.iconst 1, 1) := by decide +kernel
theorem dJ0_coder_7d493_14 : decode cJ0_coder_7d493 14 = .ok (.ireturn, 1) := by decide +kernel
theorem dJ0_isLatin1_aae02_0 : decode cJ0_isLatin1_aae02 0 = .ok (.getstatic 38, 3) := by decide +kernel
theorem dJ0_isLatin1_aae02_3 : decode cJ0_isLatin1_aae02 3 = .ok (.ifCond .eq 14, 3) := by decide +kernel
theorem dJ0_isLatin1_aae02_6 : decode cJ0_isLatin1_aae02 6 = .ok (.aload_n 0, 1) := by decide +kernel
theorem dJ0_isLatin1_aae02_7 : decode cJ0_isLatin1_aae02 7 = .ok (.getfield 15, 3) := by decide +kernel
theorem dJ0_isLatin1_aae02_10 : decode cJ0_isLatin1_aae02 10 = .ok (.ifCond .ne 7, 3) := by decide +kernel
theorem dJ0_isLatin1_aae02_13 : decode cJ0_isLatin1_aae02 13 = .ok (.iconst 1, 1) := by decide +kernel
theorem dJ0_isLatin1_aae02_14 : decode cJ0_isLatin1_aae02 14 = .ok (.goto 4, 3) := by decide +kernel
theorem dJ0_isLatin1_aae02_17 : decode cJ0_isLatin1_aae02 17 = .ok (.iconst 0, 1) := by decide +kernel
theorem dJ0_isLatin1_aae02_18 : decode cJ0_isLatin1_aae02 18 = .ok (.ireturn, 1) := by decide +kernel
theorem dJ0_checkIndex_df160_0 : decode cJ0_checkIndex_df160 0 = .ok (.iload_n 0, 1) := by decide +kernel
theorem dJ0_checkIndex_df160_1 : decode cJ0_checkIndex_df160 1 = .ok (.iload_n 1, 1) := by decide +kernel
theorem dJ0_checkIndex_df160_2 : decode cJ0_checkIndex_df160 2 = .ok (.getstatic 1053, 3) := by decide +kernel
theorem dJ0_checkIndex_df160_5 : decode cJ0_checkIndex_df160 5 = .ok (.invokestatic 1059, 3) := by decide +kernel
theorem dJ0_checkIndex_df160_8 : decode cJ0_checkIndex_df160 8 = .ok (.pop, 1) := by decide +kernel
theorem dJ0_checkIndex_df160_9 : decode cJ0_checkIndex_df160 9 = .ok (.return_, 1) := by decide +kernel
theorem dJ1_charAt_3b067_0 : decode cJ1_charAt_3b067 0 = .ok (.iload_n 1, 1) := by decide +kernel
theorem dJ1_charAt_3b067_1 : decode cJ1_charAt_3b067 1 = .ok (.aload_n 0, 1) := by decide +kernel
theorem dJ1_charAt_3b067_2 : decode cJ1_charAt_3b067 2 = .ok (.arraylength, 1) := by decide +kernel
theorem dJ1_charAt_3b067_3 : decode cJ1_charAt_3b067 3 = .ok (.invokestatic 9, 3) := by decide +kernel
theorem dJ1_charAt_3b067_6 : decode cJ1_charAt_3b067 6 = .ok (.aload_n 0, 1) := by decide +kernel
theorem dJ1_charAt_3b067_7 : decode cJ1_charAt_3b067 7 = .ok (.iload_n 1, 1) := by decide +kernel
theorem dJ1_charAt_3b067_8 : decode cJ1_charAt_3b067 8 = .ok (.baload, 1) := by decide +kernel
theorem dJ1_charAt_3b067_9 : decode cJ1_charAt_3b067 9 = .ok (.sipush 255, 3) := by decide +kernel
theorem dJ1_charAt_3b067_12 : decode cJ1_charAt_3b067 12 = .ok (.iand, 1) := by decide +kernel
theorem dJ1_charAt_3b067_13 : decode cJ1_charAt_3b067 13 = .ok (.i2c, 1) := by decide +kernel
theorem dJ1_charAt_3b067_14 : decode cJ1_charAt_3b067 14 = .ok (.ireturn, 1) := by decide +kernel
theorem dJ2_getChar_3b067_0 : decode cJ2_getChar_3b067 0 = .ok (.getstatic 44, 3) := by decide +kernel
theorem dJ2_getChar_3b067_3 : decode cJ2_getChar_3b067 3 = .ok (.ifCond .ne 25, 3) := by decide +kernel
theorem dJ2_getChar_3b067_6 : decode cJ2_getChar_3b067 6 = .ok (.iload_n 1, 1) := by decide +kernel
theorem dJ2_getChar_3b067_7 : decode cJ2_getChar_3b067 7 = .ok (.ifCond .lt 11, 3) := by decide +kernel
theorem dJ2_getChar_3b067_10 : decode cJ2_getChar_3b067 10 = .ok (.iload_n 1, 1) := by decide +kernel
theorem dJ2_getChar_3b067_11 : decode cJ2_getChar_3b067 11 = .ok (.aload_n 0, 1) := by decide +kernel
theorem dJ2_getChar_3b067_12 : decode cJ2_getChar_3b067 12 = .ok (.invokestatic 48, 3) := by decide +kernel
theorem dJ2_getChar_3b067_15 : decode cJ2_getChar_3b067 15 = .ok (.if_icmp .lt 13, 3) := by decide +kernel
theorem dJ2_getChar_3b067_18 : decode cJ2_getChar_3b067 18 = .ok (.new 52, 3) := by decide +kernel
theorem dJ2_getChar_3b067_21 : decode cJ2_getChar_3b067 21 = .ok (.dup, 1) := by decide +kernel
theorem dJ2_getChar_3b067_22 : decode cJ2_getChar_3b067 22 = .ok (.ldc 54, 2) := by decide +kernel
theorem dJ2_getChar_3b067_24 : decode cJ2_getChar_3b067 24 = .ok (.invokespecial 56, 3) := by decide +kernel
theorem dJ2_getChar_3b067_27 : decode cJ2_getChar_3b067 27 = .ok (.athrow, 1) := by decide +kernel
theorem dJ2_getChar_3b067_28 : decode cJ2_getChar_3b067 28 = .ok (.iload_n 1, 1) := by decide +kernel
theorem dJ2_getChar_3b067_29 : decode cJ2_getChar_3b067 29 = .ok (.iconst 1, 1) := by decide +kernel
theorem dJ2_getChar_3b067_30 : decode cJ2_getChar_3b067 30 = .ok (.ishl, 1) := by decide +kernel
theorem dJ2_getChar_3b067_31 : decode cJ2_getChar_3b067 31 = .ok (.istore_n 1, 1) := by decide +kernel
theorem dJ2_getChar_3b067_32 : decode cJ2_getChar_3b067 32 = .ok (.aload_n 0, 1) := by decide +kernel
theorem dJ2_getChar_3b067_33 : decode cJ2_getChar_3b067 33 = .ok (.iload_n 1, 1) := by decide +kernel
theorem dJ2_getChar_3b067_34 : decode cJ2_getChar_3b067 34 = .ok (.iinc 1 1, 3) := by decide +kernel
theorem dJ2_getChar_3b067_37 : decode cJ2_getChar_3b067 37 = .ok (.baload, 1) := by decide +kernel
theorem dJ2_getChar_3b067_38 : decode cJ2_getChar_3b067 38 = .ok (.sipush 255, 3) := by decide +kernel
theorem dJ2_getChar_3b067_41 : decode cJ2_getChar_3b067 41 = .ok (.iand, 1) := by decide +kernel
theorem dJ2_getChar_3b067_42 : decode cJ2_getChar_3b067 42 = .ok (.getstatic 59, 3) := by decide +kernel
theorem dJ2_getChar_3b067_45 : decode cJ2_getChar_3b067 45 = .ok (.ishl, 1) := by decide +kernel
theorem dJ2_getChar_3b067_46 : decode cJ2_getChar_3b067 46 = .ok (.aload_n 0, 1) := by decide +kernel
theorem dJ2_getChar_3b067_47 : decode cJ2_getChar_3b067 47 = .ok (.iload_n 1, 1) := by decide +kernel
theorem dJ2_getChar_3b067_48 : decode cJ2_getChar_3b067 48 = .ok (.baload, 1) := by decide +kernel
theorem dJ2_getChar_3b067_49 : decode cJ2_getChar_3b067 49 = .ok (.sipush 255, 3) := by decide +kernel
theorem dJ2_getChar_3b067_52 : decode cJ2_getChar_3b067 52 = .ok (.iand, 1) := by decide +kernel
theorem dJ2_getChar_3b067_53 : decode cJ2_getChar_3b067 53 = .ok (.getstatic 63, 3) := by decide +kernel
theorem dJ2_getChar_3b067_56 : decode cJ2_getChar_3b067 56 = .ok (.ishl, 1) := by decide +kernel
theorem dJ2_getChar_3b067_57 : decode cJ2_getChar_3b067 57 = .ok (.ior, 1) := by decide +kernel
theorem dJ2_getChar_3b067_58 : decode cJ2_getChar_3b067 58 = .ok (.i2c, 1) := by decide +kernel
theorem dJ2_getChar_3b067_59 : decode cJ2_getChar_3b067 59 = .ok (.ireturn, 1) := by decide +kernel
theorem dJ2_length_9d52b_0 : decode cJ2_length_9d52b 0 = .ok (.aload_n 0, 1) := by decide +kernel
theorem dJ2_length_9d52b_1 : decode cJ2_length_9d52b 1 = .ok (.arraylength, 1) := by decide +kernel
theorem dJ2_length_9d52b_2 : decode cJ2_length_9d52b 2 = .ok (.iconst 1, 1) := by decide +kernel
theorem dJ2_length_9d52b_3 : decode cJ2_length_9d52b 3 = .ok (.ishr, 1) := by decide +kernel
theorem dJ2_length_9d52b_4 : decode cJ2_length_9d52b 4 = .ok (.ireturn, 1) := by decide +kernel
theorem dJ2_charAt_3b067_0 : decode cJ2_charAt_3b067 0 = .ok (.iload_n 1, 1) := by decide +kernel
theorem dJ2_charAt_3b067_1 : decode cJ2_charAt_3b067 1 = .ok (.aload_n 0, 1) := by decide +kernel
theorem dJ2_charAt_3b067_2 : decode cJ2_charAt_3b067 2 = .ok (.invokestatic 67, 3) := by decide +kernel
theorem dJ2_charAt_3b067_5 : decode cJ2_charAt_3b067 5 = .ok (.aload_n 0, 1) := by decide +kernel
theorem dJ2_charAt_3b067_6 : decode cJ2_charAt_3b067 6 = .ok (.iload_n 1, 1) := by decide +kernel
theorem dJ2_charAt_3b067_7 : decode cJ2_charAt_3b067 7 = .ok (.invokestatic 71, 3) := by decide +kernel
theorem dJ2_charAt_3b067_10 : decode cJ2_charAt_3b067 10 = .ok (.ireturn, 1) := by decide +kernel
theorem dJ2_checkIndex_2214a_0 : decode cJ2_checkIndex_2214a 0 = .ok (.iload_n 0, 1) := by decide +kernel
theorem dJ2_checkIndex_2214a_1 : decode cJ2_checkIndex_2214a 1 = .ok (.aload_n 1, 1) := by decide +kernel
theorem dJ2_checkIndex_2214a_2 : decode cJ2_checkIndex_2214a 2 = .ok (.invokestatic 48, 3) := by decide +kernel
theorem dJ2_checkIndex_2214a_5 : decode cJ2_checkIndex_2214a 5 = .ok (.invokestatic 414, 3) := by decide +kernel
theorem dJ2_checkIndex_2214a_8 : decode cJ2_checkIndex_2214a 8 = .ok (.return_, 1) := by decide +kernel
theorem dJ3_checkIndex_8e157_0 : decode cJ3_checkIndex_8e157 0 = .ok (.iload_n 0, 1) := by decide +kernel
theorem dJ3_checkIndex_8e157_1 : decode cJ3_checkIndex_8e157 1 = .ok (.ifCond .lt 8, 3) := by decide +kernel
theorem dJ3_checkIndex_8e157_4 : decode cJ3_checkIndex_8e157 4 = .ok (.iload_n 0, 1) := by decide +kernel
theorem dJ3_checkIndex_8e157_5 : decode cJ3_checkIndex_8e157 5 = .ok (.iload_n 1, 1) := by decide +kernel
theorem dJ3_checkIndex_8e157_6 : decode cJ3_checkIndex_8e157 6 = .ok (.if_icmp .lt 10, 3) := by decide +kernel
theorem dJ3_checkIndex_8e157_9 : decode cJ3_checkIndex_8e157 9 = .ok (.aload_n 2, 1) := by decide +kernel
theorem dJ3_checkIndex_8e157_10 : decode cJ3_checkIndex_8e157 10 = .ok (.iload_n 0, 1) := by decide +kernel
theorem dJ3_checkIndex_8e157_11 : decode cJ3_checkIndex_8e157 11 = .ok (.iload_n 1, 1) := by decide +kernel
theorem dJ3_checkIndex_8e157_12 : decode cJ3_checkIndex_8e157 12 = .ok (.invokestatic 95, 3) := by decide +kernel
theorem dJ3_checkIndex_8e157_15 : decode cJ3_checkIndex_8e157 15 = .ok (.athrow, 1) := by decide +kernel
theorem dJ3_checkIndex_8e157_16 : decode cJ3_checkIndex_8e157 16 = .ok (.iload_n 0, 1) := by decide +kernel
theorem dJ3_checkIndex_8e157_17 : decode cJ3_checkIndex_8e157 17 = .ok (.ireturn, 1) := by decide +kernel
theorem dL_law_0 : decode cL_law 0 = .ok (.new 7, 3) := by decide +kernel
theorem dL_law_3 : decode cL_law 3 = .ok (.dup, 1) := by decide +kernel
theorem dL_law_4 : decode cL_law 4 = .ok (.invokespecial 9, 3) := by decide +kernel
theorem dL_law_7 : decode cL_law 7 = .ok (.astore_n 1, 1) := by decide +kernel
theorem dL_law_8 : decode cL_law 8 = .ok (.new 10, 3) := by decide +kernel
theorem dL_law_11 : decode cL_law 11 = .ok (.dup, 1) := by decide +kernel
theorem dL_law_12 : decode cL_law 12 = .ok (.invokespecial 12, 3) := by decide +kernel
theorem dL_law_15 : decode cL_law 15 = .ok (.astore_n 2, 1) := by decide +kernel
theorem dL_law_16 : decode cL_law 16 = .ok (.iconst 0, 1) := by decide +kernel
theorem dL_law_17 : decode cL_law 17 = .ok (.istore_n 3, 1) := by decide +kernel
theorem dL_law_18 : decode cL_law 18 = .ok (.iload_n 3, 1) := by decide +kernel
theorem dL_law_19 : decode cL_law 19 = .ok (.aload_n 0, 1) := by decide +kernel
theorem dL_law_20 : decode cL_law 20 = .ok (.arraylength, 1) := by decide +kernel
theorem dL_law_21 : decode cL_law 21 = .ok (.bipush 6, 2) := by decide +kernel
theorem dL_law_23 : decode cL_law 23 = .ok (.isub, 1) := by decide +kernel
theorem dL_law_24 : decode cL_law 24 = .ok (.if_icmp .gt 960, 3) := by decide +kernel
theorem dL_law_27 : decode cL_law 27 = .ok (.aload_n 0, 1) := by decide +kernel
theorem dL_law_28 : decode cL_law 28 = .ok (.iload_n 3, 1) := by decide +kernel
theorem dL_law_29 : decode cL_law 29 = .ok (.iaload, 1) := by decide +kernel
theorem dL_law_30 : decode cL_law 30 = .ok (.bipush 31, 2) := by decide +kernel
theorem dL_law_32 : decode cL_law 32 = .ok (.iand, 1) := by decide +kernel
theorem dL_law_33 : decode cL_law 33 = .ok (.tableswitch 945 0 26 #[123, 156, 189, 222, 255, 278, 311, 334, 357, 380, 393, 416, 449, 483, 516, 539, 552, 575, 588, 611, 624, 637, 680, 733, 776, 799, 882], 123) := by decide +kernel
theorem dL_law_156 : decode cL_law 156 = .ok (.aload_n 1, 1) := by decide +kernel
theorem dL_law_157 : decode cL_law 157 = .ok (.aload_n 0, 1) := by decide +kernel
theorem dL_law_158 : decode cL_law 158 = .ok (.iload_n 3, 1) := by decide +kernel
theorem dL_law_159 : decode cL_law 159 = .ok (.iconst 1, 1) := by decide +kernel
theorem dL_law_160 : decode cL_law 160 = .ok (.iadd, 1) := by decide +kernel
theorem dL_law_161 : decode cL_law 161 = .ok (.iaload, 1) := by decide +kernel
theorem dL_law_162 : decode cL_law 162 = .ok (.aload_n 0, 1) := by decide +kernel
theorem dL_law_163 : decode cL_law 163 = .ok (.iload_n 3, 1) := by decide +kernel
theorem dL_law_164 : decode cL_law 164 = .ok (.iconst 2, 1) := by decide +kernel
theorem dL_law_165 : decode cL_law 165 = .ok (.iadd, 1) := by decide +kernel
theorem dL_law_166 : decode cL_law 166 = .ok (.iaload, 1) := by decide +kernel
theorem dL_law_167 : decode cL_law 167 = .ok (.invokevirtual 13, 3) := by decide +kernel
theorem dL_law_170 : decode cL_law 170 = .ok (.aload_n 2, 1) := by decide +kernel
theorem dL_law_171 : decode cL_law 171 = .ok (.aload_n 0, 1) := by decide +kernel
theorem dL_law_172 : decode cL_law 172 = .ok (.iload_n 3, 1) := by decide +kernel
theorem dL_law_173 : decode cL_law 173 = .ok (.iconst 1, 1) := by decide +kernel
theorem dL_law_174 : decode cL_law 174 = .ok (.iadd, 1) := by decide +kernel
theorem dL_law_175 : decode cL_law 175 = .ok (.iaload, 1) := by decide +kernel
theorem dL_law_176 : decode cL_law 176 = .ok (.aload_n 0, 1) := by decide +kernel
theorem dL_law_177 : decode cL_law 177 = .ok (.iload_n 3, 1) := by decide +kernel
theorem dL_law_178 : decode cL_law 178 = .ok (.iconst 2, 1) := by decide +kernel
theorem dL_law_179 : decode cL_law 179 = .ok (.iadd, 1) := by decide +kernel
theorem dL_law_180 : decode cL_law 180 = .ok (.iaload, 1) := by decide +kernel
theorem dL_law_181 : decode cL_law 181 = .ok (.invokevirtual 17, 3) := by decide +kernel
theorem dL_law_184 : decode cL_law 184 = .ok (.if_icmp .eq 794, 3) := by decide +kernel
theorem dL_law_187 : decode cL_law 187 = .ok (.iconst 0, 1) := by decide +kernel
theorem dL_law_188 : decode cL_law 188 = .ok (.ireturn, 1) := by decide +kernel
theorem dL_law_189 : decode cL_law 189 = .ok (.aload_n 1, 1) := by decide +kernel
theorem dL_law_190 : decode cL_law 190 = .ok (.aload_n 0, 1) := by decide +kernel
theorem dL_law_191 : decode cL_law 191 = .ok (.iload_n 3, 1) := by decide +kernel
theorem dL_law_192 : decode cL_law 192 = .ok (.iconst 1, 1) := by decide +kernel
theorem dL_law_193 : decode cL_law 193 = .ok (.iadd, 1) := by decide +kernel
theorem dL_law_194 : decode cL_law 194 = .ok (.iaload, 1) := by decide +kernel
theorem dL_law_195 : decode cL_law 195 = .ok (.aload_n 0, 1) := by decide +kernel
theorem dL_law_196 : decode cL_law 196 = .ok (.iload_n 3, 1) := by decide +kernel
theorem dL_law_197 : decode cL_law 197 = .ok (.iconst 2, 1) := by decide +kernel
theorem dL_law_198 : decode cL_law 198 = .ok (.iadd, 1) := by decide +kernel
theorem dL_law_199 : decode cL_law 199 = .ok (.iaload, 1) := by decide +kernel
theorem dL_law_200 : decode cL_law 200 = .ok (.invokevirtual 18, 3) := by decide +kernel
theorem dL_law_203 : decode cL_law 203 = .ok (.aload_n 2, 1) := by decide +kernel
theorem dL_law_204 : decode cL_law 204 = .ok (.aload_n 0, 1) := by decide +kernel
theorem dL_law_205 : decode cL_law 205 = .ok (.iload_n 3, 1) := by decide +kernel
theorem dL_law_206 : decode cL_law 206 = .ok (.iconst 1, 1) := by decide +kernel
theorem dL_law_207 : decode cL_law 207 = .ok (.iadd, 1) := by decide +kernel
theorem dL_law_208 : decode cL_law 208 = .ok (.iaload, 1) := by decide +kernel
theorem dL_law_209 : decode cL_law 209 = .ok (.aload_n 0, 1) := by decide +kernel
theorem dL_law_210 : decode cL_law 210 = .ok (.iload_n 3, 1) := by decide +kernel
theorem dL_law_211 : decode cL_law 211 = .ok (.iconst 2, 1) := by decide +kernel
theorem dL_law_212 : decode cL_law 212 = .ok (.iadd, 1) := by decide +kernel
theorem dL_law_213 : decode cL_law 213 = .ok (.iaload, 1) := by decide +kernel
theorem dL_law_214 : decode cL_law 214 = .ok (.invokevirtual 21, 3) := by decide +kernel
theorem dL_law_217 : decode cL_law 217 = .ok (.if_icmp .eq 761, 3) := by decide +kernel
theorem dL_law_220 : decode cL_law 220 = .ok (.iconst 0, 1) := by decide +kernel
theorem dL_law_221 : decode cL_law 221 = .ok (.ireturn, 1) := by decide +kernel
theorem dL_law_222 : decode cL_law 222 = .ok (.aload_n 1, 1) := by decide +kernel
theorem dL_law_223 : decode cL_law 223 = .ok (.aload_n 0, 1) := by decide +kernel
theorem dL_law_224 : decode cL_law 224 = .ok (.iload_n 3, 1) := by decide +kernel
theorem dL_law_225 : decode cL_law 225 = .ok (.iconst 1, 1) := by decide +kernel
theorem dL_law_226 : decode cL_law 226 = .ok (.iadd, 1) := by decide +kernel
theorem dL_law_227 : decode cL_law 227 = .ok (.iaload, 1) := by decide +kernel
theorem dL_law_228 : decode cL_law 228 = .ok (.aload_n 0, 1) := by decide +kernel
theorem dL_law_229 : decode cL_law 229 = .ok (.iload_n 3, 1) := by decide +kernel
theorem dL_law_230 : decode cL_law 230 = .ok (.iconst 2, 1) := by decide +kernel
theorem dL_law_231 : decode cL_law 231 = .ok (.iadd, 1) := by decide +kernel
theorem dL_law_232 : decode cL_law 232 = .ok (.iaload, 1) := by decide +kernel
theorem dL_law_233 : decode cL_law 233 = .ok (.invokevirtual 22, 3) := by decide +kernel
theorem dL_law_236 : decode cL_law 236 = .ok (.aload_n 2, 1) := by decide +kernel
theorem dL_law_237 : decode cL_law 237 = .ok (.aload_n 0, 1) := by decide +kernel
theorem dL_law_238 : decode cL_law 238 = .ok (.iload_n 3, 1) := by decide +kernel
theorem dL_law_239 : decode cL_law 239 = .ok (.iconst 1, 1) := by decide +kernel
theorem dL_law_240 : decode cL_law 240 = .ok (.iadd, 1) := by decide +kernel
theorem dL_law_241 : decode cL_law 241 = .ok (.iaload, 1) := by decide +kernel
theorem dL_law_242 : decode cL_law 242 = .ok (.aload_n 0, 1) := by decide +kernel
theorem dL_law_243 : decode cL_law 243 = .ok (.iload_n 3, 1) := by decide +kernel
theorem dL_law_244 : decode cL_law 244 = .ok (.iconst 2, 1) := by decide +kernel
theorem dL_law_245 : decode cL_law 245 = .ok (.iadd, 1) := by decide +kernel
theorem dL_law_246 : decode cL_law 246 = .ok (.iaload, 1) := by decide +kernel
theorem dL_law_247 : decode cL_law 247 = .ok (.invokevirtual 25, 3) := by decide +kernel
theorem dL_law_250 : decode cL_law 250 = .ok (.if_icmp .eq 728, 3) := by decide +kernel
theorem dL_law_253 : decode cL_law 253 = .ok (.iconst 0, 1) := by decide +kernel
theorem dL_law_254 : decode cL_law 254 = .ok (.ireturn, 1) := by decide +kernel
theorem dL_law_255 : decode cL_law 255 = .ok (.aload_n 1, 1) := by decide +kernel
theorem dL_law_256 : decode cL_law 256 = .ok (.aload_n 0, 1) := by decide +kernel
theorem dL_law_257 : decode cL_law 257 = .ok (.iload_n 3, 1) := by decide +kernel
theorem dL_law_258 : decode cL_law 258 = .ok (.iconst 1, 1) := by decide +kernel
theorem dL_law_259 : decode cL_law 259 = .ok (.iadd, 1) := by decide +kernel
theorem dL_law_260 : decode cL_law 260 = .ok (.iaload, 1) := by decide +kernel
theorem dL_law_261 : decode cL_law 261 = .ok (.aload_n 0, 1) := by decide +kernel
theorem dL_law_262 : decode cL_law 262 = .ok (.iload_n 3, 1) := by decide +kernel
theorem dL_law_263 : decode cL_law 263 = .ok (.iconst 2, 1) := by decide +kernel
theorem dL_law_264 : decode cL_law 264 = .ok (.iadd, 1) := by decide +kernel
theorem dL_law_265 : decode cL_law 265 = .ok (.iaload, 1) := by decide +kernel
theorem dL_law_266 : decode cL_law 266 = .ok (.invokevirtual 26, 3) := by decide +kernel
theorem dL_law_269 : decode cL_law 269 = .ok (.aload_n 2, 1) := by decide +kernel
theorem dL_law_270 : decode cL_law 270 = .ok (.aload_n 0, 1) := by decide +kernel
theorem dL_law_271 : decode cL_law 271 = .ok (.iload_n 3, 1) := by decide +kernel
theorem dL_law_272 : decode cL_law 272 = .ok (.iconst 1, 1) := by decide +kernel
theorem dL_law_273 : decode cL_law 273 = .ok (.iadd, 1) := by decide +kernel
theorem dL_law_274 : decode cL_law 274 = .ok (.iaload, 1) := by decide +kernel
theorem dL_law_275 : decode cL_law 275 = .ok (.aload_n 0, 1) := by decide +kernel
theorem dL_law_276 : decode cL_law 276 = .ok (.iload_n 3, 1) := by decide +kernel
theorem dL_law_277 : decode cL_law 277 = .ok (.iconst 2, 1) := by decide +kernel
theorem dL_law_278 : decode cL_law 278 = .ok (.iadd, 1) := by decide +kernel
theorem dL_law_279 : decode cL_law 279 = .ok (.iaload, 1) := by decide +kernel
theorem dL_law_280 : decode cL_law 280 = .ok (.invokevirtual 29, 3) := by decide +kernel
theorem dL_law_283 : decode cL_law 283 = .ok (.if_icmp .eq 695, 3) := by decide +kernel
theorem dL_law_286 : decode cL_law 286 = .ok (.iconst 0, 1) := by decide +kernel
theorem dL_law_287 : decode cL_law 287 = .ok (.ireturn, 1) := by decide +kernel
theorem dL_law_288 : decode cL_law 288 = .ok (.aload_n 1, 1) := by decide +kernel
theorem dL_law_289 : decode cL_law 289 = .ok (.aload_n 0, 1) := by decide +kernel
theorem dL_law_290 : decode cL_law 290 = .ok (.iload_n 3, 1) := by decide +kernel
theorem dL_law_291 : decode cL_law 291 = .ok (.iconst 1, 1) := by decide +kernel
theorem dL_law_292 : decode cL_law 292 = .ok (.iadd, 1) := by decide +kernel
theorem dL_law_293 : decode cL_law 293 = .ok (.iaload, 1) := by decide +kernel
theorem dL_law_294 : decode cL_law 294 = .ok (.invokevirtual 30, 3) := by decide +kernel
theorem dL_law_297 : decode cL_law 297 = .ok (.aload_n 2, 1) := by decide +kernel
theorem dL_law_298 : decode cL_law 298 = .ok (.aload_n 0, 1) := by decide +kernel
theorem dL_law_299 : decode cL_law 299 = .ok (.iload_n 3, 1) := by decide +kernel
theorem dL_law_300 : decode cL_law 300 = .ok (.iconst 1, 1) := by decide +kernel
theorem dL_law_301 : decode cL_law 301 = .ok (.iadd, 1) := by decide +kernel
theorem dL_law_302 : decode cL_law 302 = .ok (.iaload, 1) := by decide +kernel
theorem dL_law_303 : decode cL_law 303 = .ok (.invokevirtual 34, 3) := by decide +kernel
theorem dL_law_306 : decode cL_law 306 = .ok (.if_icmp .eq 672, 3) := by decide +kernel
theorem dL_law_309 : decode cL_law 309 = .ok (.iconst 0, 1) := by decide +kernel
theorem dL_law_310 : decode cL_law 310 = .ok (.ireturn, 1) := by decide +kernel
theorem dL_law_311 : decode cL_law 311 = .ok (.aload_n 1, 1) := by decide +kernel
theorem dL_law_312 : decode cL_law 312 = .ok (.aload_n 0, 1) := by decide +kernel
theorem dL_law_313 : decode cL_law 313 = .ok (.iload_n 3, 1) := by decide +kernel
theorem dL_law_314 : decode cL_law 314 = .ok (.iconst 1, 1) := by decide +kernel
theorem dL_law_315 : decode cL_law 315 = .ok (.iadd, 1) := by decide +kernel
theorem dL_law_316 : decode cL_law 316 = .ok (.iaload, 1) := by decide +kernel
theorem dL_law_317 : decode cL_law 317 = .ok (.aload_n 0, 1) := by decide +kernel
theorem dL_law_318 : decode cL_law 318 = .ok (.iload_n 3, 1) := by decide +kernel
theorem dL_law_319 : decode cL_law 319 = .ok (.iconst 2, 1) := by decide +kernel
theorem dL_law_320 : decode cL_law 320 = .ok (.iadd, 1) := by decide +kernel
theorem dL_law_321 : decode cL_law 321 = .ok (.iaload, 1) := by decide +kernel
theorem dL_law_322 : decode cL_law 322 = .ok (.invokevirtual 35, 3) := by decide +kernel
theorem dL_law_325 : decode cL_law 325 = .ok (.aload_n 2, 1) := by decide +kernel
theorem dL_law_326 : decode cL_law 326 = .ok (.aload_n 0, 1) := by decide +kernel
theorem dL_law_327 : decode cL_law 327 = .ok (.iload_n 3, 1) := by decide +kernel
theorem dL_law_328 : decode cL_law 328 = .ok (.iconst 1, 1) := by decide +kernel
theorem dL_law_329 : decode cL_law 329 = .ok (.iadd, 1) := by decide +kernel
theorem dL_law_330 : decode cL_law 330 = .ok (.iaload, 1) := by decide +kernel
theorem dL_law_331 : decode cL_law 331 = .ok (.aload_n 0, 1) := by decide +kernel
theorem dL_law_332 : decode cL_law 332 = .ok (.iload_n 3, 1) := by decide +kernel
theorem dL_law_333 : decode cL_law 333 = .ok (.iconst 2, 1) := by decide +kernel
theorem dL_law_334 : decode cL_law 334 = .ok (.iadd, 1) := by decide +kernel
theorem dL_law_335 : decode cL_law 335 = .ok (.iaload, 1) := by decide +kernel
theorem dL_law_336 : decode cL_law 336 = .ok (.invokevirtual 38, 3) := by decide +kernel
theorem dL_law_339 : decode cL_law 339 = .ok (.if_icmp .eq 639, 3) := by decide +kernel
theorem dL_law_342 : decode cL_law 342 = .ok (.iconst 0, 1) := by decide +kernel
theorem dL_law_343 : decode cL_law 343 = .ok (.ireturn, 1) := by decide +kernel
theorem dL_law_344 : decode cL_law 344 = .ok (.aload_n 1, 1) := by decide +kernel
theorem dL_law_345 : decode cL_law 345 = .ok (.aload_n 0, 1) := by decide +kernel
theorem dL_law_346 : decode cL_law 346 = .ok (.iload_n 3, 1) := by decide +kernel
theorem dL_law_347 : decode cL_law 347 = .ok (.iconst 1, 1) := by decide +kernel
theorem dL_law_348 : decode cL_law 348 = .ok (.iadd, 1) := by decide +kernel
theorem dL_law_349 : decode cL_law 349 = .ok (.iaload, 1) := by decide +kernel
theorem dL_law_350 : decode cL_law 350 = .ok (.invokevirtual 39, 3) := by decide +kernel
theorem dL_law_353 : decode cL_law 353 = .ok (.aload_n 2, 1) := by decide +kernel
theorem dL_law_354 : decode cL_law 354 = .ok (.aload_n 0, 1) := by decide +kernel
theorem dL_law_355 : decode cL_law 355 = .ok (.iload_n 3, 1) := by decide +kernel
theorem dL_law_356 : decode cL_law 356 = .ok (.iconst 1, 1) := by decide +kernel
theorem dL_law_357 : decode cL_law 357 = .ok (.iadd, 1) := by decide +kernel
theorem dL_law_358 : decode cL_law 358 = .ok (.iaload, 1) := by decide +kernel
theorem dL_law_359 : decode cL_law 359 = .ok (.invokevirtual 42, 3) := by decide +kernel
theorem dL_law_362 : decode cL_law 362 = .ok (.if_icmp .eq 616, 3) := by decide +kernel
theorem dL_law_365 : decode cL_law 365 = .ok (.iconst 0, 1) := by decide +kernel
theorem dL_law_366 : decode cL_law 366 = .ok (.ireturn, 1) := by decide +kernel
theorem dL_law_367 : decode cL_law 367 = .ok (.aload_n 1, 1) := by decide +kernel
theorem dL_law_368 : decode cL_law 368 = .ok (.aload_n 0, 1) := by decide +kernel
theorem dL_law_369 : decode cL_law 369 = .ok (.iload_n 3, 1) := by decide +kernel
theorem dL_law_370 : decode cL_law 370 = .ok (.iconst 1, 1) := by decide +kernel
theorem dL_law_371 : decode cL_law 371 = .ok (.iadd, 1) := by decide +kernel
theorem dL_law_372 : decode cL_law 372 = .ok (.iaload, 1) := by decide +kernel
theorem dL_law_373 : decode cL_law 373 = .ok (.invokevirtual 43, 3) := by decide +kernel
theorem dL_law_376 : decode cL_law 376 = .ok (.aload_n 2, 1) := by decide +kernel
theorem dL_law_377 : decode cL_law 377 = .ok (.aload_n 0, 1) := by decide +kernel
theorem dL_law_378 : decode cL_law 378 = .ok (.iload_n 3, 1) := by decide +kernel
theorem dL_law_379 : decode cL_law 379 = .ok (.iconst 1, 1) := by decide +kernel
theorem dL_law_380 : decode cL_law 380 = .ok (.iadd, 1) := by decide +kernel
theorem dL_law_381 : decode cL_law 381 = .ok (.iaload, 1) := by decide +kernel
theorem dL_law_382 : decode cL_law 382 = .ok (.invokevirtual 46, 3) := by decide +kernel
theorem dL_law_385 : decode cL_law 385 = .ok (.if_icmp .eq 593, 3) := by decide +kernel
theorem dL_law_388 : decode cL_law 388 = .ok (.iconst 0, 1) := by decide +kernel
theorem dL_law_389 : decode cL_law 389 = .ok (.ireturn, 1) := by decide +kernel
theorem dL_law_390 : decode cL_law 390 = .ok (.aload_n 1, 1) := by decide +kernel
theorem dL_law_391 : decode cL_law 391 = .ok (.aload_n 0, 1) := by decide +kernel
theorem dL_law_392 : decode cL_law 392 = .ok (.iload_n 3, 1) := by decide +kernel
theorem dL_law_393 : decode cL_law 393 = .ok (.iconst 1, 1) := by decide +kernel
theorem dL_law_394 : decode cL_law 394 = .ok (.iadd, 1) := by decide +kernel
theorem dL_law_395 : decode cL_law 395 = .ok (.iaload, 1) := by decide +kernel
theorem dL_law_396 : decode cL_law 396 = .ok (.invokevirtual 47, 3) := by decide +kernel
theorem dL_law_399 : decode cL_law 399 = .ok (.aload_n 2, 1) := by decide +kernel
theorem dL_law_400 : decode cL_law 400 = .ok (.aload_n 0, 1) := by decide +kernel
theorem dL_law_401 : decode cL_law 401 = .ok (.iload_n 3, 1) := by decide +kernel
theorem dL_law_402 : decode cL_law 402 = .ok (.iconst 1, 1) := by decide +kernel
theorem dL_law_403 : decode cL_law 403 = .ok (.iadd, 1) := by decide +kernel
theorem dL_law_404 : decode cL_law 404 = .ok (.iaload, 1) := by decide +kernel
theorem dL_law_405 : decode cL_law 405 = .ok (.invokevirtual 50, 3) := by decide +kernel
theorem dL_law_408 : decode cL_law 408 = .ok (.if_icmp .eq 570, 3) := by decide +kernel
theorem dL_law_411 : decode cL_law 411 = .ok (.iconst 0, 1) := by decide +kernel
theorem dL_law_412 : decode cL_law 412 = .ok (.ireturn, 1) := by decide +kernel
theorem dL_law_413 : decode cL_law 413 = .ok (.aload_n 1, 1) := by decide +kernel
theorem dL_law_414 : decode cL_law 414 = .ok (.invokevirtual 51, 3) := by decide +kernel
theorem dL_law_417 : decode cL_law 417 = .ok (.aload_n 2, 1) := by decide +kernel
theorem dL_law_418 : decode cL_law 418 = .ok (.invokevirtual 55, 3) := by decide +kernel
theorem dL_law_421 : decode cL_law 421 = .ok (.if_icmp .eq 557, 3) := by decide +kernel
theorem dL_law_424 : decode cL_law 424 = .ok (.iconst 0, 1) := by decide +kernel
theorem dL_law_425 : decode cL_law 425 = .ok (.ireturn, 1) := by decide +kernel
theorem dL_law_426 : decode cL_law 426 = .ok (.aload_n 1, 1) := by decide +kernel
theorem dL_law_427 : decode cL_law 427 = .ok (.aload_n 0, 1) := by decide +kernel
theorem dL_law_428 : decode cL_law 428 = .ok (.iload_n 3, 1) := by decide +kernel
theorem dL_law_429 : decode cL_law 429 = .ok (.iconst 1, 1) := by decide +kernel
theorem dL_law_430 : decode cL_law 430 = .ok (.iadd, 1) := by decide +kernel
theorem dL_law_431 : decode cL_law 431 = .ok (.iaload, 1) := by decide +kernel
theorem dL_law_432 : decode cL_law 432 = .ok (.invokevirtual 56, 3) := by decide +kernel
theorem dL_law_435 : decode cL_law 435 = .ok (.aload_n 2, 1) := by decide +kernel
theorem dL_law_436 : decode cL_law 436 = .ok (.aload_n 0, 1) := by decide +kernel
theorem dL_law_437 : decode cL_law 437 = .ok (.iload_n 3, 1) := by decide +kernel
theorem dL_law_438 : decode cL_law 438 = .ok (.iconst 1, 1) := by decide +kernel
theorem dL_law_439 : decode cL_law 439 = .ok (.iadd, 1) := by decide +kernel
theorem dL_law_440 : decode cL_law 440 = .ok (.iaload, 1) := by decide +kernel
theorem dL_law_441 : decode cL_law 441 = .ok (.invokevirtual 59, 3) := by decide +kernel
theorem dL_law_444 : decode cL_law 444 = .ok (.if_icmp .eq 534, 3) := by decide +kernel
theorem dL_law_447 : decode cL_law 447 = .ok (.iconst 0, 1) := by decide +kernel
theorem dL_law_448 : decode cL_law 448 = .ok (.ireturn, 1) := by decide +kernel
theorem dL_law_449 : decode cL_law 449 = .ok (.aload_n 1, 1) := by decide +kernel
theorem dL_law_450 : decode cL_law 450 = .ok (.aload_n 0, 1) := by decide +kernel
theorem dL_law_451 : decode cL_law 451 = .ok (.iload_n 3, 1) := by decide +kernel
theorem dL_law_452 : decode cL_law 452 = .ok (.iconst 1, 1) := by decide +kernel
theorem dL_law_453 : decode cL_law 453 = .ok (.iadd, 1) := by decide +kernel
theorem dL_law_454 : decode cL_law 454 = .ok (.iaload, 1) := by decide +kernel
theorem dL_law_455 : decode cL_law 455 = .ok (.aload_n 0, 1) := by decide +kernel
theorem dL_law_456 : decode cL_law 456 = .ok (.iload_n 3, 1) := by decide +kernel
theorem dL_law_457 : decode cL_law 457 = .ok (.iconst 2, 1) := by decide +kernel
theorem dL_law_458 : decode cL_law 458 = .ok (.iadd, 1) := by decide +kernel
theorem dL_law_459 : decode cL_law 459 = .ok (.iaload, 1) := by decide +kernel
theorem dL_law_460 : decode cL_law 460 = .ok (.invokevirtual 60, 3) := by decide +kernel
theorem dL_law_463 : decode cL_law 463 = .ok (.aload_n 2, 1) := by decide +kernel
theorem dL_law_464 : decode cL_law 464 = .ok (.aload_n 0, 1) := by decide +kernel
theorem dL_law_465 : decode cL_law 465 = .ok (.iload_n 3, 1) := by decide +kernel
theorem dL_law_466 : decode cL_law 466 = .ok (.iconst 1, 1) := by decide +kernel
theorem dL_law_467 : decode cL_law 467 = .ok (.iadd, 1) := by decide +kernel
theorem dL_law_468 : decode cL_law 468 = .ok (.iaload, 1) := by decide +kernel
theorem dL_law_469 : decode cL_law 469 = .ok (.aload_n 0, 1) := by decide +kernel
theorem dL_law_470 : decode cL_law 470 = .ok (.iload_n 3, 1) := by decide +kernel
theorem dL_law_471 : decode cL_law 471 = .ok (.iconst 2, 1) := by decide +kernel
theorem dL_law_472 : decode cL_law 472 = .ok (.iadd, 1) := by decide +kernel
theorem dL_law_473 : decode cL_law 473 = .ok (.iaload, 1) := by decide +kernel
theorem dL_law_474 : decode cL_law 474 = .ok (.invokevirtual 63, 3) := by decide +kernel
theorem dL_law_477 : decode cL_law 477 = .ok (.if_icmp .eq 501, 3) := by decide +kernel
theorem dL_law_480 : decode cL_law 480 = .ok (.iconst 0, 1) := by decide +kernel
theorem dL_law_481 : decode cL_law 481 = .ok (.ireturn, 1) := by decide +kernel
theorem dL_law_482 : decode cL_law 482 = .ok (.aload_n 1, 1) := by decide +kernel
theorem dL_law_483 : decode cL_law 483 = .ok (.aload_n 0, 1) := by decide +kernel
theorem dL_law_484 : decode cL_law 484 = .ok (.iload_n 3, 1) := by decide +kernel
theorem dL_law_485 : decode cL_law 485 = .ok (.iconst 1, 1) := by decide +kernel
theorem dL_law_486 : decode cL_law 486 = .ok (.iadd, 1) := by decide +kernel
theorem dL_law_487 : decode cL_law 487 = .ok (.iaload, 1) := by decide +kernel
theorem dL_law_488 : decode cL_law 488 = .ok (.aload_n 0, 1) := by decide +kernel
theorem dL_law_489 : decode cL_law 489 = .ok (.iload_n 3, 1) := by decide +kernel
theorem dL_law_490 : decode cL_law 490 = .ok (.iconst 2, 1) := by decide +kernel
theorem dL_law_491 : decode cL_law 491 = .ok (.iadd, 1) := by decide +kernel
theorem dL_law_492 : decode cL_law 492 = .ok (.iaload, 1) := by decide +kernel
theorem dL_law_493 : decode cL_law 493 = .ok (.invokevirtual 64, 3) := by decide +kernel
theorem dL_law_496 : decode cL_law 496 = .ok (.aload_n 2, 1) := by decide +kernel
theorem dL_law_497 : decode cL_law 497 = .ok (.aload_n 0, 1) := by decide +kernel
theorem dL_law_498 : decode cL_law 498 = .ok (.iload_n 3, 1) := by decide +kernel
theorem dL_law_499 : decode cL_law 499 = .ok (.iconst 1, 1) := by decide +kernel
theorem dL_law_500 : decode cL_law 500 = .ok (.iadd, 1) := by decide +kernel
theorem dL_law_501 : decode cL_law 501 = .ok (.iaload, 1) := by decide +kernel
theorem dL_law_502 : decode cL_law 502 = .ok (.aload_n 0, 1) := by decide +kernel
theorem dL_law_503 : decode cL_law 503 = .ok (.iload_n 3, 1) := by decide +kernel
theorem dL_law_504 : decode cL_law 504 = .ok (.iconst 2, 1) := by decide +kernel
theorem dL_law_505 : decode cL_law 505 = .ok (.iadd, 1) := by decide +kernel
theorem dL_law_506 : decode cL_law 506 = .ok (.iaload, 1) := by decide +kernel
theorem dL_law_507 : decode cL_law 507 = .ok (.invokevirtual 68, 3) := by decide +kernel
theorem dL_law_510 : decode cL_law 510 = .ok (.lcmp, 1) := by decide +kernel
theorem dL_law_511 : decode cL_law 511 = .ok (.ifCond .eq 467, 3) := by decide +kernel
theorem dL_law_514 : decode cL_law 514 = .ok (.iconst 0, 1) := by decide +kernel
theorem dL_law_515 : decode cL_law 515 = .ok (.ireturn, 1) := by decide +kernel
theorem dL_law_516 : decode cL_law 516 = .ok (.aload_n 1, 1) := by decide +kernel
theorem dL_law_517 : decode cL_law 517 = .ok (.aload_n 0, 1) := by decide +kernel
theorem dL_law_518 : decode cL_law 518 = .ok (.iload_n 3, 1) := by decide +kernel
theorem dL_law_519 : decode cL_law 519 = .ok (.iconst 1, 1) := by decide +kernel
theorem dL_law_520 : decode cL_law 520 = .ok (.iadd, 1) := by decide +kernel
theorem dL_law_521 : decode cL_law 521 = .ok (.iaload, 1) := by decide +kernel
theorem dL_law_522 : decode cL_law 522 = .ok (.aload_n 0, 1) := by decide +kernel
theorem dL_law_523 : decode cL_law 523 = .ok (.iload_n 3, 1) := by decide +kernel
theorem dL_law_524 : decode cL_law 524 = .ok (.iconst 2, 1) := by decide +kernel
theorem dL_law_525 : decode cL_law 525 = .ok (.iadd, 1) := by decide +kernel
theorem dL_law_526 : decode cL_law 526 = .ok (.iaload, 1) := by decide +kernel
theorem dL_law_527 : decode cL_law 527 = .ok (.invokevirtual 69, 3) := by decide +kernel
theorem dL_law_530 : decode cL_law 530 = .ok (.aload_n 2, 1) := by decide +kernel
theorem dL_law_531 : decode cL_law 531 = .ok (.aload_n 0, 1) := by decide +kernel
theorem dL_law_532 : decode cL_law 532 = .ok (.iload_n 3, 1) := by decide +kernel
theorem dL_law_533 : decode cL_law 533 = .ok (.iconst 1, 1) := by decide +kernel
theorem dL_law_534 : decode cL_law 534 = .ok (.iadd, 1) := by decide +kernel
theorem dL_law_535 : decode cL_law 535 = .ok (.iaload, 1) := by decide +kernel
theorem dL_law_536 : decode cL_law 536 = .ok (.aload_n 0, 1) := by decide +kernel
theorem dL_law_537 : decode cL_law 537 = .ok (.iload_n 3, 1) := by decide +kernel
theorem dL_law_538 : decode cL_law 538 = .ok (.iconst 2, 1) := by decide +kernel
theorem dL_law_539 : decode cL_law 539 = .ok (.iadd, 1) := by decide +kernel
theorem dL_law_540 : decode cL_law 540 = .ok (.iaload, 1) := by decide +kernel
theorem dL_law_541 : decode cL_law 541 = .ok (.invokevirtual 72, 3) := by decide +kernel
theorem dL_law_544 : decode cL_law 544 = .ok (.if_icmp .eq 434, 3) := by decide +kernel
theorem dL_law_547 : decode cL_law 547 = .ok (.iconst 0, 1) := by decide +kernel
theorem dL_law_548 : decode cL_law 548 = .ok (.ireturn, 1) := by decide +kernel
theorem dL_law_549 : decode cL_law 549 = .ok (.aload_n 1, 1) := by decide +kernel
theorem dL_law_550 : decode cL_law 550 = .ok (.aload_n 0, 1) := by decide +kernel
theorem dL_law_551 : decode cL_law 551 = .ok (.iload_n 3, 1) := by decide +kernel
theorem dL_law_552 : decode cL_law 552 = .ok (.iconst 1, 1) := by decide +kernel
theorem dL_law_553 : decode cL_law 553 = .ok (.iadd, 1) := by decide +kernel
theorem dL_law_554 : decode cL_law 554 = .ok (.iaload, 1) := by decide +kernel
theorem dL_law_555 : decode cL_law 555 = .ok (.invokevirtual 73, 3) := by decide +kernel
theorem dL_law_558 : decode cL_law 558 = .ok (.aload_n 2, 1) := by decide +kernel
theorem dL_law_559 : decode cL_law 559 = .ok (.aload_n 0, 1) := by decide +kernel
theorem dL_law_560 : decode cL_law 560 = .ok (.iload_n 3, 1) := by decide +kernel
theorem dL_law_561 : decode cL_law 561 = .ok (.iconst 1, 1) := by decide +kernel
theorem dL_law_562 : decode cL_law 562 = .ok (.iadd, 1) := by decide +kernel
theorem dL_law_563 : decode cL_law 563 = .ok (.iaload, 1) := by decide +kernel
theorem dL_law_564 : decode cL_law 564 = .ok (.invokevirtual 76, 3) := by decide +kernel
theorem dL_law_567 : decode cL_law 567 = .ok (.if_icmp .eq 411, 3) := by decide +kernel
theorem dL_law_570 : decode cL_law 570 = .ok (.iconst 0, 1) := by decide +kernel
theorem dL_law_571 : decode cL_law 571 = .ok (.ireturn, 1) := by decide +kernel
theorem dL_law_572 : decode cL_law 572 = .ok (.aload_n 1, 1) := by decide +kernel
theorem dL_law_573 : decode cL_law 573 = .ok (.invokevirtual 77, 3) := by decide +kernel
theorem dL_law_576 : decode cL_law 576 = .ok (.aload_n 2, 1) := by decide +kernel
theorem dL_law_577 : decode cL_law 577 = .ok (.invokevirtual 80, 3) := by decide +kernel
theorem dL_law_580 : decode cL_law 580 = .ok (.if_icmp .eq 398, 3) := by decide +kernel
theorem dL_law_583 : decode cL_law 583 = .ok (.iconst 0, 1) := by decide +kernel
theorem dL_law_584 : decode cL_law 584 = .ok (.ireturn, 1) := by decide +kernel
theorem dL_law_585 : decode cL_law 585 = .ok (.aload_n 1, 1) := by decide +kernel
theorem dL_law_586 : decode cL_law 586 = .ok (.aload_n 0, 1) := by decide +kernel
theorem dL_law_587 : decode cL_law 587 = .ok (.iload_n 3, 1) := by decide +kernel
theorem dL_law_588 : decode cL_law 588 = .ok (.iconst 1, 1) := by decide +kernel
theorem dL_law_589 : decode cL_law 589 = .ok (.iadd, 1) := by decide +kernel
theorem dL_law_590 : decode cL_law 590 = .ok (.iaload, 1) := by decide +kernel
theorem dL_law_591 : decode cL_law 591 = .ok (.invokevirtual 81, 3) := by decide +kernel
theorem dL_law_594 : decode cL_law 594 = .ok (.aload_n 2, 1) := by decide +kernel
theorem dL_law_595 : decode cL_law 595 = .ok (.aload_n 0, 1) := by decide +kernel
theorem dL_law_596 : decode cL_law 596 = .ok (.iload_n 3, 1) := by decide +kernel
theorem dL_law_597 : decode cL_law 597 = .ok (.iconst 1, 1) := by decide +kernel
theorem dL_law_598 : decode cL_law 598 = .ok (.iadd, 1) := by decide +kernel
theorem dL_law_599 : decode cL_law 599 = .ok (.iaload, 1) := by decide +kernel
theorem dL_law_600 : decode cL_law 600 = .ok (.invokevirtual 84, 3) := by decide +kernel
theorem dL_law_603 : decode cL_law 603 = .ok (.if_icmp .eq 375, 3) := by decide +kernel
theorem dL_law_606 : decode cL_law 606 = .ok (.iconst 0, 1) := by decide +kernel
theorem dL_law_607 : decode cL_law 607 = .ok (.ireturn, 1) := by decide +kernel
theorem dL_law_608 : decode cL_law 608 = .ok (.aload_n 1, 1) := by decide +kernel
theorem dL_law_609 : decode cL_law 609 = .ok (.invokevirtual 85, 3) := by decide +kernel
theorem dL_law_612 : decode cL_law 612 = .ok (.aload_n 2, 1) := by decide +kernel
theorem dL_law_613 : decode cL_law 613 = .ok (.invokevirtual 88, 3) := by decide +kernel
theorem dL_law_616 : decode cL_law 616 = .ok (.if_icmp .eq 362, 3) := by decide +kernel
theorem dL_law_619 : decode cL_law 619 = .ok (.iconst 0, 1) := by decide +kernel
theorem dL_law_620 : decode cL_law 620 = .ok (.ireturn, 1) := by decide +kernel
theorem dL_law_621 : decode cL_law 621 = .ok (.aload_n 1, 1) := by decide +kernel
theorem dL_law_622 : decode cL_law 622 = .ok (.aload_n 0, 1) := by decide +kernel
theorem dL_law_623 : decode cL_law 623 = .ok (.iload_n 3, 1) := by decide +kernel
theorem dL_law_624 : decode cL_law 624 = .ok (.iconst 1, 1) := by decide +kernel
theorem dL_law_625 : decode cL_law 625 = .ok (.iadd, 1) := by decide +kernel
theorem dL_law_626 : decode cL_law 626 = .ok (.iaload, 1) := by decide +kernel
theorem dL_law_627 : decode cL_law 627 = .ok (.invokevirtual 89, 3) := by decide +kernel
theorem dL_law_630 : decode cL_law 630 = .ok (.aload_n 2, 1) := by decide +kernel
theorem dL_law_631 : decode cL_law 631 = .ok (.aload_n 0, 1) := by decide +kernel
theorem dL_law_632 : decode cL_law 632 = .ok (.iload_n 3, 1) := by decide +kernel
theorem dL_law_633 : decode cL_law 633 = .ok (.iconst 1, 1) := by decide +kernel
theorem dL_law_634 : decode cL_law 634 = .ok (.iadd, 1) := by decide +kernel
theorem dL_law_635 : decode cL_law 635 = .ok (.iaload, 1) := by decide +kernel
theorem dL_law_636 : decode cL_law 636 = .ok (.invokevirtual 92, 3) := by decide +kernel
theorem dL_law_639 : decode cL_law 639 = .ok (.if_icmp .eq 339, 3) := by decide +kernel
theorem dL_law_642 : decode cL_law 642 = .ok (.iconst 0, 1) := by decide +kernel
theorem dL_law_643 : decode cL_law 643 = .ok (.ireturn, 1) := by decide +kernel
theorem dL_law_644 : decode cL_law 644 = .ok (.aload_n 1, 1) := by decide +kernel
theorem dL_law_645 : decode cL_law 645 = .ok (.invokevirtual 93, 3) := by decide +kernel
theorem dL_law_648 : decode cL_law 648 = .ok (.aload_n 2, 1) := by decide +kernel
theorem dL_law_649 : decode cL_law 649 = .ok (.invokevirtual 96, 3) := by decide +kernel
theorem dL_law_652 : decode cL_law 652 = .ok (.if_icmp .eq 326, 3) := by decide +kernel
theorem dL_law_655 : decode cL_law 655 = .ok (.iconst 0, 1) := by decide +kernel
theorem dL_law_656 : decode cL_law 656 = .ok (.ireturn, 1) := by decide +kernel
theorem dL_law_657 : decode cL_law 657 = .ok (.aload_n 1, 1) := by decide +kernel
theorem dL_law_658 : decode cL_law 658 = .ok (.invokevirtual 97, 3) := by decide +kernel
theorem dL_law_661 : decode cL_law 661 = .ok (.aload_n 2, 1) := by decide +kernel
theorem dL_law_662 : decode cL_law 662 = .ok (.invokevirtual 100, 3) := by decide +kernel
theorem dL_law_665 : decode cL_law 665 = .ok (.if_icmp .eq 313, 3) := by decide +kernel
theorem dL_law_668 : decode cL_law 668 = .ok (.iconst 0, 1) := by decide +kernel
theorem dL_law_669 : decode cL_law 669 = .ok (.ireturn, 1) := by decide +kernel
theorem dL_law_670 : decode cL_law 670 = .ok (.aload_n 1, 1) := by decide +kernel
theorem dL_law_671 : decode cL_law 671 = .ok (.aload_n 0, 1) := by decide +kernel
theorem dL_law_672 : decode cL_law 672 = .ok (.iload_n 3, 1) := by decide +kernel
theorem dL_law_673 : decode cL_law 673 = .ok (.iconst 1, 1) := by decide +kernel
theorem dL_law_674 : decode cL_law 674 = .ok (.iadd, 1) := by decide +kernel
theorem dL_law_675 : decode cL_law 675 = .ok (.iaload, 1) := by decide +kernel
theorem dL_law_676 : decode cL_law 676 = .ok (.aload_n 0, 1) := by decide +kernel
theorem dL_law_677 : decode cL_law 677 = .ok (.iload_n 3, 1) := by decide +kernel
theorem dL_law_678 : decode cL_law 678 = .ok (.iconst 2, 1) := by decide +kernel
theorem dL_law_679 : decode cL_law 679 = .ok (.iadd, 1) := by decide +kernel
theorem dL_law_680 : decode cL_law 680 = .ok (.iaload, 1) := by decide +kernel
theorem dL_law_681 : decode cL_law 681 = .ok (.aload_n 0, 1) := by decide +kernel
theorem dL_law_682 : decode cL_law 682 = .ok (.iload_n 3, 1) := by decide +kernel
theorem dL_law_683 : decode cL_law 683 = .ok (.iconst 3, 1) := by decide +kernel
theorem dL_law_684 : decode cL_law 684 = .ok (.iadd, 1) := by decide +kernel
theorem dL_law_685 : decode cL_law 685 = .ok (.iaload, 1) := by decide +kernel
theorem dL_law_686 : decode cL_law 686 = .ok (.invokevirtual 101, 3) := by decide +kernel
theorem dL_law_689 : decode cL_law 689 = .ok (.aload_n 2, 1) := by decide +kernel
theorem dL_law_690 : decode cL_law 690 = .ok (.aload_n 0, 1) := by decide +kernel
theorem dL_law_691 : decode cL_law 691 = .ok (.iload_n 3, 1) := by decide +kernel
theorem dL_law_692 : decode cL_law 692 = .ok (.iconst 1, 1) := by decide +kernel
theorem dL_law_693 : decode cL_law 693 = .ok (.iadd, 1) := by decide +kernel
theorem dL_law_694 : decode cL_law 694 = .ok (.iaload, 1) := by decide +kernel
theorem dL_law_695 : decode cL_law 695 = .ok (.aload_n 0, 1) := by decide +kernel
theorem dL_law_696 : decode cL_law 696 = .ok (.iload_n 3, 1) := by decide +kernel
theorem dL_law_697 : decode cL_law 697 = .ok (.iconst 2, 1) := by decide +kernel
theorem dL_law_698 : decode cL_law 698 = .ok (.iadd, 1) := by decide +kernel
theorem dL_law_699 : decode cL_law 699 = .ok (.iaload, 1) := by decide +kernel
theorem dL_law_700 : decode cL_law 700 = .ok (.aload_n 0, 1) := by decide +kernel
theorem dL_law_701 : decode cL_law 701 = .ok (.iload_n 3, 1) := by decide +kernel
theorem dL_law_702 : decode cL_law 702 = .ok (.iconst 3, 1) := by decide +kernel
theorem dL_law_703 : decode cL_law 703 = .ok (.iadd, 1) := by decide +kernel
theorem dL_law_704 : decode cL_law 704 = .ok (.iaload, 1) := by decide +kernel
theorem dL_law_705 : decode cL_law 705 = .ok (.invokevirtual 105, 3) := by decide +kernel
theorem dL_law_708 : decode cL_law 708 = .ok (.if_icmp .eq 270, 3) := by decide +kernel
theorem dL_law_711 : decode cL_law 711 = .ok (.iconst 0, 1) := by decide +kernel
theorem dL_law_712 : decode cL_law 712 = .ok (.ireturn, 1) := by decide +kernel
theorem dL_law_713 : decode cL_law 713 = .ok (.aload_n 1, 1) := by decide +kernel
theorem dL_law_714 : decode cL_law 714 = .ok (.aload_n 0, 1) := by decide +kernel
theorem dL_law_715 : decode cL_law 715 = .ok (.iload_n 3, 1) := by decide +kernel
theorem dL_law_716 : decode cL_law 716 = .ok (.iconst 1, 1) := by decide +kernel
theorem dL_law_717 : decode cL_law 717 = .ok (.iadd, 1) := by decide +kernel
theorem dL_law_718 : decode cL_law 718 = .ok (.iaload, 1) := by decide +kernel
theorem dL_law_719 : decode cL_law 719 = .ok (.aload_n 0, 1) := by decide +kernel
theorem dL_law_720 : decode cL_law 720 = .ok (.iload_n 3, 1) := by decide +kernel
theorem dL_law_721 : decode cL_law 721 = .ok (.iconst 2, 1) := by decide +kernel
theorem dL_law_722 : decode cL_law 722 = .ok (.iadd, 1) := by decide +kernel
theorem dL_law_723 : decode cL_law 723 = .ok (.iaload, 1) := by decide +kernel
theorem dL_law_724 : decode cL_law 724 = .ok (.aload_n 0, 1) := by decide +kernel
theorem dL_law_725 : decode cL_law 725 = .ok (.iload_n 3, 1) := by decide +kernel
theorem dL_law_726 : decode cL_law 726 = .ok (.iconst 3, 1) := by decide +kernel
theorem dL_law_727 : decode cL_law 727 = .ok (.iadd, 1) := by decide +kernel
theorem dL_law_728 : decode cL_law 728 = .ok (.iaload, 1) := by decide +kernel
theorem dL_law_729 : decode cL_law 729 = .ok (.aload_n 0, 1) := by decide +kernel
theorem dL_law_730 : decode cL_law 730 = .ok (.iload_n 3, 1) := by decide +kernel
theorem dL_law_731 : decode cL_law 731 = .ok (.iconst 4, 1) := by decide +kernel
theorem dL_law_732 : decode cL_law 732 = .ok (.iadd, 1) := by decide +kernel
theorem dL_law_733 : decode cL_law 733 = .ok (.iaload, 1) := by decide +kernel
theorem dL_law_734 : decode cL_law 734 = .ok (.invokevirtual 106, 3) := by decide +kernel
theorem dL_law_737 : decode cL_law 737 = .ok (.aload_n 2, 1) := by decide +kernel
theorem dL_law_738 : decode cL_law 738 = .ok (.aload_n 0, 1) := by decide +kernel
theorem dL_law_739 : decode cL_law 739 = .ok (.iload_n 3, 1) := by decide +kernel
theorem dL_law_740 : decode cL_law 740 = .ok (.iconst 1, 1) := by decide +kernel
theorem dL_law_741 : decode cL_law 741 = .ok (.iadd, 1) := by decide +kernel
theorem dL_law_742 : decode cL_law 742 = .ok (.iaload, 1) := by decide +kernel
theorem dL_law_743 : decode cL_law 743 = .ok (.aload_n 0, 1) := by decide +kernel
theorem dL_law_744 : decode cL_law 744 = .ok (.iload_n 3, 1) := by decide +kernel
theorem dL_law_745 : decode cL_law 745 = .ok (.iconst 2, 1) := by decide +kernel
theorem dL_law_746 : decode cL_law 746 = .ok (.iadd, 1) := by decide +kernel
theorem dL_law_747 : decode cL_law 747 = .ok (.iaload, 1) := by decide +kernel
theorem dL_law_748 : decode cL_law 748 = .ok (.aload_n 0, 1) := by decide +kernel
theorem dL_law_749 : decode cL_law 749 = .ok (.iload_n 3, 1) := by decide +kernel
theorem dL_law_750 : decode cL_law 750 = .ok (.iconst 3, 1) := by decide +kernel
theorem dL_law_751 : decode cL_law 751 = .ok (.iadd, 1) := by decide +kernel
theorem dL_law_752 : decode cL_law 752 = .ok (.iaload, 1) := by decide +kernel
theorem dL_law_753 : decode cL_law 753 = .ok (.aload_n 0, 1) := by decide +kernel
theorem dL_law_754 : decode cL_law 754 = .ok (.iload_n 3, 1) := by decide +kernel
theorem dL_law_755 : decode cL_law 755 = .ok (.iconst 4, 1) := by decide +kernel
theorem dL_law_756 : decode cL_law 756 = .ok (.iadd, 1) := by decide +kernel
theorem dL_law_757 : decode cL_law 757 = .ok (.iaload, 1) := by decide +kernel
theorem dL_law_758 : decode cL_law 758 = .ok (.invokevirtual 110, 3) := by decide +kernel
theorem dL_law_761 : decode cL_law 761 = .ok (.if_icmp .eq 217, 3) := by decide +kernel
theorem dL_law_764 : decode cL_law 764 = .ok (.iconst 0, 1) := by decide +kernel
theorem dL_law_765 : decode cL_law 765 = .ok (.ireturn, 1) := by decide +kernel
theorem dL_law_766 : decode cL_law 766 = .ok (.aload_n 1, 1) := by decide +kernel
theorem dL_law_767 : decode cL_law 767 = .ok (.aload_n 0, 1) := by decide +kernel
theorem dL_law_768 : decode cL_law 768 = .ok (.iload_n 3, 1) := by decide +kernel
theorem dL_law_769 : decode cL_law 769 = .ok (.iconst 1, 1) := by decide +kernel
theorem dL_law_770 : decode cL_law 770 = .ok (.iadd, 1) := by decide +kernel
theorem dL_law_771 : decode cL_law 771 = .ok (.iaload, 1) := by decide +kernel
theorem dL_law_772 : decode cL_law 772 = .ok (.aload_n 0, 1) := by decide +kernel
theorem dL_law_773 : decode cL_law 773 = .ok (.iload_n 3, 1) := by decide +kernel
theorem dL_law_774 : decode cL_law 774 = .ok (.iconst 2, 1) := by decide +kernel
theorem dL_law_775 : decode cL_law 775 = .ok (.iadd, 1) := by decide +kernel
theorem dL_law_776 : decode cL_law 776 = .ok (.iaload, 1) := by decide +kernel
theorem dL_law_777 : decode cL_law 777 = .ok (.aload_n 0, 1) := by decide +kernel
theorem dL_law_778 : decode cL_law 778 = .ok (.iload_n 3, 1) := by decide +kernel
theorem dL_law_779 : decode cL_law 779 = .ok (.iconst 3, 1) := by decide +kernel
theorem dL_law_780 : decode cL_law 780 = .ok (.iadd, 1) := by decide +kernel
theorem dL_law_781 : decode cL_law 781 = .ok (.iaload, 1) := by decide +kernel
theorem dL_law_782 : decode cL_law 782 = .ok (.invokevirtual 111, 3) := by decide +kernel
theorem dL_law_785 : decode cL_law 785 = .ok (.aload_n 2, 1) := by decide +kernel
theorem dL_law_786 : decode cL_law 786 = .ok (.aload_n 0, 1) := by decide +kernel
theorem dL_law_787 : decode cL_law 787 = .ok (.iload_n 3, 1) := by decide +kernel
theorem dL_law_788 : decode cL_law 788 = .ok (.iconst 1, 1) := by decide +kernel
theorem dL_law_789 : decode cL_law 789 = .ok (.iadd, 1) := by decide +kernel
theorem dL_law_790 : decode cL_law 790 = .ok (.iaload, 1) := by decide +kernel
theorem dL_law_791 : decode cL_law 791 = .ok (.aload_n 0, 1) := by decide +kernel
theorem dL_law_792 : decode cL_law 792 = .ok (.iload_n 3, 1) := by decide +kernel
theorem dL_law_793 : decode cL_law 793 = .ok (.iconst 2, 1) := by decide +kernel
theorem dL_law_794 : decode cL_law 794 = .ok (.iadd, 1) := by decide +kernel
theorem dL_law_795 : decode cL_law 795 = .ok (.iaload, 1) := by decide +kernel
theorem dL_law_796 : decode cL_law 796 = .ok (.aload_n 0, 1) := by decide +kernel
theorem dL_law_797 : decode cL_law 797 = .ok (.iload_n 3, 1) := by decide +kernel
theorem dL_law_798 : decode cL_law 798 = .ok (.iconst 3, 1) := by decide +kernel
theorem dL_law_799 : decode cL_law 799 = .ok (.iadd, 1) := by decide +kernel
theorem dL_law_800 : decode cL_law 800 = .ok (.iaload, 1) := by decide +kernel
theorem dL_law_801 : decode cL_law 801 = .ok (.invokevirtual 114, 3) := by decide +kernel
theorem dL_law_804 : decode cL_law 804 = .ok (.if_icmp .eq 174, 3) := by decide +kernel
theorem dL_law_807 : decode cL_law 807 = .ok (.iconst 0, 1) := by decide +kernel
theorem dL_law_808 : decode cL_law 808 = .ok (.ireturn, 1) := by decide +kernel
theorem dL_law_809 : decode cL_law 809 = .ok (.aload_n 1, 1) := by decide +kernel
theorem dL_law_810 : decode cL_law 810 = .ok (.aload_n 0, 1) := by decide +kernel
theorem dL_law_811 : decode cL_law 811 = .ok (.iload_n 3, 1) := by decide +kernel
theorem dL_law_812 : decode cL_law 812 = .ok (.iconst 1, 1) := by decide +kernel
theorem dL_law_813 : decode cL_law 813 = .ok (.iadd, 1) := by decide +kernel
theorem dL_law_814 : decode cL_law 814 = .ok (.iaload, 1) := by decide +kernel
theorem dL_law_815 : decode cL_law 815 = .ok (.invokevirtual 115, 3) := by decide +kernel
theorem dL_law_818 : decode cL_law 818 = .ok (.aload_n 2, 1) := by decide +kernel
theorem dL_law_819 : decode cL_law 819 = .ok (.aload_n 0, 1) := by decide +kernel
theorem dL_law_820 : decode cL_law 820 = .ok (.iload_n 3, 1) := by decide +kernel
theorem dL_law_821 : decode cL_law 821 = .ok (.iconst 1, 1) := by decide +kernel
theorem dL_law_822 : decode cL_law 822 = .ok (.iadd, 1) := by decide +kernel
theorem dL_law_823 : decode cL_law 823 = .ok (.iaload, 1) := by decide +kernel
theorem dL_law_824 : decode cL_law 824 = .ok (.invokevirtual 118, 3) := by decide +kernel
theorem dL_law_827 : decode cL_law 827 = .ok (.if_icmp .eq 151, 3) := by decide +kernel
theorem dL_law_830 : decode cL_law 830 = .ok (.iconst 0, 1) := by decide +kernel
theorem dL_law_831 : decode cL_law 831 = .ok (.ireturn, 1) := by decide +kernel
theorem dL_law_832 : decode cL_law 832 = .ok (.aload_n 1, 1) := by decide +kernel
theorem dL_law_833 : decode cL_law 833 = .ok (.aload_n 0, 1) := by decide +kernel
theorem dL_law_834 : decode cL_law 834 = .ok (.iload_n 3, 1) := by decide +kernel
theorem dL_law_835 : decode cL_law 835 = .ok (.iconst 1, 1) := by decide +kernel
theorem dL_law_836 : decode cL_law 836 = .ok (.iadd, 1) := by decide +kernel
theorem dL_law_837 : decode cL_law 837 = .ok (.iaload, 1) := by decide +kernel
theorem dL_law_838 : decode cL_law 838 = .ok (.aload_n 0, 1) := by decide +kernel
theorem dL_law_839 : decode cL_law 839 = .ok (.iload_n 3, 1) := by decide +kernel
theorem dL_law_840 : decode cL_law 840 = .ok (.iconst 2, 1) := by decide +kernel
theorem dL_law_841 : decode cL_law 841 = .ok (.iadd, 1) := by decide +kernel
theorem dL_law_842 : decode cL_law 842 = .ok (.iaload, 1) := by decide +kernel
theorem dL_law_843 : decode cL_law 843 = .ok (.aload_n 0, 1) := by decide +kernel
theorem dL_law_844 : decode cL_law 844 = .ok (.iload_n 3, 1) := by decide +kernel
theorem dL_law_845 : decode cL_law 845 = .ok (.iconst 3, 1) := by decide +kernel
theorem dL_law_846 : decode cL_law 846 = .ok (.iadd, 1) := by decide +kernel
theorem dL_law_847 : decode cL_law 847 = .ok (.iaload, 1) := by decide +kernel
theorem dL_law_848 : decode cL_law 848 = .ok (.aload_n 0, 1) := by decide +kernel
theorem dL_law_849 : decode cL_law 849 = .ok (.iload_n 3, 1) := by decide +kernel
theorem dL_law_850 : decode cL_law 850 = .ok (.iconst 4, 1) := by decide +kernel
theorem dL_law_851 : decode cL_law 851 = .ok (.iadd, 1) := by decide +kernel
theorem dL_law_852 : decode cL_law 852 = .ok (.iaload, 1) := by decide +kernel
theorem dL_law_853 : decode cL_law 853 = .ok (.i2l, 1) := by decide +kernel
theorem dL_law_854 : decode cL_law 854 = .ok (.bipush 32, 2) := by decide +kernel
theorem dL_law_856 : decode cL_law 856 = .ok (.lshl, 1) := by decide +kernel
theorem dL_law_857 : decode cL_law 857 = .ok (.aload_n 0, 1) := by decide +kernel
theorem dL_law_858 : decode cL_law 858 = .ok (.iload_n 3, 1) := by decide +kernel
theorem dL_law_859 : decode cL_law 859 = .ok (.iconst 5, 1) := by decide +kernel
theorem dL_law_860 : decode cL_law 860 = .ok (.iadd, 1) := by decide +kernel
theorem dL_law_861 : decode cL_law 861 = .ok (.iaload, 1) := by decide +kernel
theorem dL_law_862 : decode cL_law 862 = .ok (.i2l, 1) := by decide +kernel
theorem dL_law_863 : decode cL_law 863 = .ok (.ldc2_w 119, 3) := by decide +kernel
theorem dL_law_866 : decode cL_law 866 = .ok (.land, 1) := by decide +kernel
theorem dL_law_867 : decode cL_law 867 = .ok (.lor, 1) := by decide +kernel
theorem dL_law_868 : decode cL_law 868 = .ok (.invokevirtual 121, 3) := by decide +kernel
theorem dL_law_871 : decode cL_law 871 = .ok (.aload_n 2, 1) := by decide +kernel
theorem dL_law_872 : decode cL_law 872 = .ok (.aload_n 0, 1) := by decide +kernel
theorem dL_law_873 : decode cL_law 873 = .ok (.iload_n 3, 1) := by decide +kernel
theorem dL_law_874 : decode cL_law 874 = .ok (.iconst 1, 1) := by decide +kernel
theorem dL_law_875 : decode cL_law 875 = .ok (.iadd, 1) := by decide +kernel
theorem dL_law_876 : decode cL_law 876 = .ok (.iaload, 1) := by decide +kernel
theorem dL_law_877 : decode cL_law 877 = .ok (.aload_n 0, 1) := by decide +kernel
theorem dL_law_878 : decode cL_law 878 = .ok (.iload_n 3, 1) := by decide +kernel
theorem dL_law_879 : decode cL_law 879 = .ok (.iconst 2, 1) := by decide +kernel
theorem dL_law_880 : decode cL_law 880 = .ok (.iadd, 1) := by decide +kernel
theorem dL_law_881 : decode cL_law 881 = .ok (.iaload, 1) := by decide +kernel
theorem dL_law_882 : decode cL_law 882 = .ok (.aload_n 0, 1) := by decide +kernel
theorem dL_law_883 : decode cL_law 883 = .ok (.iload_n 3, 1) := by decide +kernel
theorem dL_law_884 : decode cL_law 884 = .ok (.iconst 3, 1) := by decide +kernel
theorem dL_law_885 : decode cL_law 885 = .ok (.iadd, 1) := by decide +kernel
theorem dL_law_886 : decode cL_law 886 = .ok (.iaload, 1) := by decide +kernel
theorem dL_law_887 : decode cL_law 887 = .ok (.aload_n 0, 1) := by decide +kernel
theorem dL_law_888 : decode cL_law 888 = .ok (.iload_n 3, 1) := by decide +kernel
theorem dL_law_889 : decode cL_law 889 = .ok (.iconst 4, 1) := by decide +kernel
theorem dL_law_890 : decode cL_law 890 = .ok (.iadd, 1) := by decide +kernel
theorem dL_law_891 : decode cL_law 891 = .ok (.iaload, 1) := by decide +kernel
theorem dL_law_892 : decode cL_law 892 = .ok (.i2l, 1) := by decide +kernel
theorem dL_law_893 : decode cL_law 893 = .ok (.bipush 32, 2) := by decide +kernel
theorem dL_law_895 : decode cL_law 895 = .ok (.lshl, 1) := by decide +kernel
theorem dL_law_896 : decode cL_law 896 = .ok (.aload_n 0, 1) := by decide +kernel
theorem dL_law_897 : decode cL_law 897 = .ok (.iload_n 3, 1) := by decide +kernel
theorem dL_law_898 : decode cL_law 898 = .ok (.iconst 5, 1) := by decide +kernel
theorem dL_law_899 : decode cL_law 899 = .ok (.iadd, 1) := by decide +kernel
theorem dL_law_900 : decode cL_law 900 = .ok (.iaload, 1) := by decide +kernel
theorem dL_law_901 : decode cL_law 901 = .ok (.i2l, 1) := by decide +kernel
theorem dL_law_902 : decode cL_law 902 = .ok (.ldc2_w 119, 3) := by decide +kernel
theorem dL_law_905 : decode cL_law 905 = .ok (.land, 1) := by decide +kernel
theorem dL_law_906 : decode cL_law 906 = .ok (.lor, 1) := by decide +kernel
theorem dL_law_907 : decode cL_law 907 = .ok (.invokevirtual 125, 3) := by decide +kernel
theorem dL_law_910 : decode cL_law 910 = .ok (.if_icmp .eq 68, 3) := by decide +kernel
theorem dL_law_913 : decode cL_law 913 = .ok (.iconst 0, 1) := by decide +kernel
theorem dL_law_914 : decode cL_law 914 = .ok (.ireturn, 1) := by decide +kernel
theorem dL_law_915 : decode cL_law 915 = .ok (.aload_n 1, 1) := by decide +kernel
theorem dL_law_916 : decode cL_law 916 = .ok (.aload_n 0, 1) := by decide +kernel
theorem dL_law_917 : decode cL_law 917 = .ok (.iload_n 3, 1) := by decide +kernel
theorem dL_law_918 : decode cL_law 918 = .ok (.iconst 1, 1) := by decide +kernel
theorem dL_law_919 : decode cL_law 919 = .ok (.iadd, 1) := by decide +kernel
theorem dL_law_920 : decode cL_law 920 = .ok (.iaload, 1) := by decide +kernel
theorem dL_law_921 : decode cL_law 921 = .ok (.aload_n 0, 1) := by decide +kernel
theorem dL_law_922 : decode cL_law 922 = .ok (.iload_n 3, 1) := by decide +kernel
theorem dL_law_923 : decode cL_law 923 = .ok (.iconst 2, 1) := by decide +kernel
theorem dL_law_924 : decode cL_law 924 = .ok (.iadd, 1) := by decide +kernel
theorem dL_law_925 : decode cL_law 925 = .ok (.iaload, 1) := by decide +kernel
theorem dL_law_926 : decode cL_law 926 = .ok (.aload_n 0, 1) := by decide +kernel
theorem dL_law_927 : decode cL_law 927 = .ok (.iload_n 3, 1) := by decide +kernel
theorem dL_law_928 : decode cL_law 928 = .ok (.iconst 3, 1) := by decide +kernel
theorem dL_law_929 : decode cL_law 929 = .ok (.iadd, 1) := by decide +kernel
theorem dL_law_930 : decode cL_law 930 = .ok (.iaload, 1) := by decide +kernel
theorem dL_law_931 : decode cL_law 931 = .ok (.aload_n 0, 1) := by decide +kernel
theorem dL_law_932 : decode cL_law 932 = .ok (.iload_n 3, 1) := by decide +kernel
theorem dL_law_933 : decode cL_law 933 = .ok (.iconst 4, 1) := by decide +kernel
theorem dL_law_934 : decode cL_law 934 = .ok (.iadd, 1) := by decide +kernel
theorem dL_law_935 : decode cL_law 935 = .ok (.iaload, 1) := by decide +kernel
theorem dL_law_936 : decode cL_law 936 = .ok (.aload_n 0, 1) := by decide +kernel
theorem dL_law_937 : decode cL_law 937 = .ok (.iload_n 3, 1) := by decide +kernel
theorem dL_law_938 : decode cL_law 938 = .ok (.iconst 5, 1) := by decide +kernel
theorem dL_law_939 : decode cL_law 939 = .ok (.iadd, 1) := by decide +kernel
theorem dL_law_940 : decode cL_law 940 = .ok (.iaload, 1) := by decide +kernel
theorem dL_law_941 : decode cL_law 941 = .ok (.invokevirtual 126, 3) := by decide +kernel
theorem dL_law_944 : decode cL_law 944 = .ok (.aload_n 2, 1) := by decide +kernel
theorem dL_law_945 : decode cL_law 945 = .ok (.aload_n 0, 1) := by decide +kernel
theorem dL_law_946 : decode cL_law 946 = .ok (.iload_n 3, 1) := by decide +kernel
theorem dL_law_947 : decode cL_law 947 = .ok (.iconst 1, 1) := by decide +kernel
theorem dL_law_948 : decode cL_law 948 = .ok (.iadd, 1) := by decide +kernel
theorem dL_law_949 : decode cL_law 949 = .ok (.iaload, 1) := by decide +kernel
theorem dL_law_950 : decode cL_law 950 = .ok (.aload_n 0, 1) := by decide +kernel
theorem dL_law_951 : decode cL_law 951 = .ok (.iload_n 3, 1) := by decide +kernel
theorem dL_law_952 : decode cL_law 952 = .ok (.iconst 2, 1) := by decide +kernel
theorem dL_law_953 : decode cL_law 953 = .ok (.iadd, 1) := by decide +kernel
theorem dL_law_954 : decode cL_law 954 = .ok (.iaload, 1) := by decide +kernel
theorem dL_law_955 : decode cL_law 955 = .ok (.aload_n 0, 1) := by decide +kernel
theorem dL_law_956 : decode cL_law 956 = .ok (.iload_n 3, 1) := by decide +kernel
theorem dL_law_957 : decode cL_law 957 = .ok (.iconst 3, 1) := by decide +kernel
theorem dL_law_958 : decode cL_law 958 = .ok (.iadd, 1) := by decide +kernel
theorem dL_law_959 : decode cL_law 959 = .ok (.iaload, 1) := by decide +kernel
theorem dL_law_960 : decode cL_law 960 = .ok (.aload_n 0, 1) := by decide +kernel
theorem dL_law_961 : decode cL_law 961 = .ok (.iload_n 3, 1) := by decide +kernel
theorem dL_law_962 : decode cL_law 962 = .ok (.iconst 4, 1) := by decide +kernel
theorem dL_law_963 : decode cL_law 963 = .ok (.iadd, 1) := by decide +kernel
theorem dL_law_964 : decode cL_law 964 = .ok (.iaload, 1) := by decide +kernel
theorem dL_law_965 : decode cL_law 965 = .ok (.aload_n 0, 1) := by decide +kernel
theorem dL_law_966 : decode cL_law 966 = .ok (.iload_n 3, 1) := by decide +kernel
theorem dL_law_967 : decode cL_law 967 = .ok (.iconst 5, 1) := by decide +kernel
theorem dL_law_968 : decode cL_law 968 = .ok (.iadd, 1) := by decide +kernel
theorem dL_law_969 : decode cL_law 969 = .ok (.iaload, 1) := by decide +kernel
theorem dL_law_970 : decode cL_law 970 = .ok (.invokevirtual 130, 3) := by decide +kernel
theorem dL_law_973 : decode cL_law 973 = .ok (.if_icmp .eq 5, 3) := by decide +kernel
theorem dL_law_976 : decode cL_law 976 = .ok (.iconst 0, 1) := by decide +kernel
theorem dL_law_977 : decode cL_law 977 = .ok (.ireturn, 1) := by decide +kernel
theorem dL_law_978 : decode cL_law 978 = .ok (.iinc 3 6, 3) := by decide +kernel
theorem dL_law_981 : decode cL_law 981 = .ok (.goto (-963), 3) := by decide +kernel
theorem dL_law_984 : decode cL_law 984 = .ok (.iconst 1, 1) := by decide +kernel
theorem dL_law_985 : decode cL_law 985 = .ok (.ireturn, 1) := by decide +kernel
abbrev vwCl : List vw_C := [(RX0, TX0, 3), (RX1, TX1, 9), (RX2, TX2, 3), (RX3, TX3, 2), (RX4, TX4, 2), (RX5, TX5, 4), (RX6, TX6, 3), (RX7, TX7, 1), (RX8, TX8, 5), (RX9, TX9, 2), (RX10, TX10, 12), (RX11, TX11, 27)]
end
section
/-! THE POOL. Every cell of the run bears a number k; its address is ad k; what the heap holds is told by three functions of number and place: I (ints, also of boolean and char rows), J (longs), Q (references, by number). T k: its kind and length. Kinds: 0 .. 11 objects (by their place in vwCl), 20 int[], 21 boolean[], 22 char[], 23 long[], 24 Space[], 25 Net[], 26 Row[]. -/
abbrev KI : Type := Nat → Nat → Int32
abbrev KJ : Type := Nat → Nat → Int64
abbrev KQ : Type := Nat → Nat → Option Nat
/-- a row of a pool, changed -/
def upk {α : Type} (f : Nat → α) (k : Nat) (v : α) : Nat → α := fun j => if j = k then v else f j
theorem upk_s {α : Type} {f : Nat → α} {k : Nat} {v : α} : upk f k v k = v := by simp [upk]
theorem upk_n {α : Type} {f : Nat → α} {k j : Nat} {v : α} (h : j ≠ k) : upk f k v j = f j := by simp [upk, h]
/-- which fields a class has: 0 an int, 1 a long, 2 a reference -/
def fk : Nat → List Nat := fun ci => match ci with
  | 0 => [2, 2, 2]
  | 1 => [2, 2, 2, 0, 0, 0, 0, 0, 0]
  | 2 => [2, 1, 1]
  | 3 => [2, 0]
  | 4 => [2, 0]
  | 5 => [2, 2, 2, 0]
  | 6 => [2, 0, 0]
  | 7 => [2]
  | 8 => [2, 2, 0, 0, 0]
  | 9 => [2, 2]
  | 10 => [2, 2, 2, 2, 2, 2, 2, 2, 2, 2, 2, 0]
  | 11 => [2, 0, 0, 2, 0, 0, 0, 2, 2, 2, 2, 2, 0, 2, 2, 2, 2, 1, 1, 2, 0, 0, 0, 2, 2, 2, 2]
  | _ => []
def fv (ad : Nat → Nat) (fi : Nat → Int32) (fj : Nat → Int64) (fq : Nat → Option Nat) (t j : Nat) : Value := if t = 0 then .int (fi j) else if t = 1 then .long (fj j) else va_rf ((fq j).map ad)
def fl (ad : Nat → Nat) (fi : Nat → Int32) (fj : Nat → Int64) (fq : Nat → Option Nat) : List Nat → Nat → List Value
  | [], _ => []
  | t :: ts, o => fv ad fi fj fq t o :: fl ad fi fj fq ts (o + 1)
theorem fl_len (ad : Nat → Nat) (fi : Nat → Int32) (fj : Nat → Int64) (fq : Nat → Option Nat) (ts : List Nat) : ∀ o, (fl ad fi fj fq ts o).length = ts.length := by
  induction ts with
  | nil => intro o; rfl
  | cons t ts ih => intro o; simp [fl, ih]
theorem fl_get (ad : Nat → Nat) (fi : Nat → Int32) (fj : Nat → Int64) (fq : Nat → Option Nat) (ts : List Nat) : ∀ (o j : Nat), (fl ad fi fj fq ts o)[j]? = (ts[j]?).map (fun t => fv ad fi fj fq t (o + j)) := by
  induction ts with
  | nil => intro o j; simp [fl]
  | cons t ts ih =>
    intro o j
    cases j with
    | zero => simp [fl]
    | succ j => simp only [fl, List.getElem?_cons_succ, ih]; rw [show o + 1 + j = o + (j + 1) by omega]
theorem fl_set {ad : Nat → Nat} {fi fi' : Nat → Int32} {fj fj' : Nat → Int64} {fq fq' : Nat → Option Nat} {ts : List Nat} {j t : Nat} {v : Value} (hj : ts[j]? = some t) (hv : fv ad fi' fj' fq' t j = v) (h1 : ∀ i, i ≠ j → fi' i = fi i) (h2 : ∀ i, i ≠ j → fj' i = fj i) (h3 : ∀ i, i ≠ j → fq' i = fq i) : (fl ad fi fj fq ts 0).set j v = fl ad fi' fj' fq' ts 0 := by
  apply List.ext_getElem?
  intro i
  rw [List.getElem?_set, fl_get, fl_get, fl_len]
  have hlt : j < ts.length := (List.getElem?_eq_some_iff.mp hj).1
  by_cases h : j = i
  · subst h
    rw [if_pos rfl, if_pos hlt, hj]
    simp [hv]
  · have h' : i ≠ j := fun e => h e.symm
    simp only [h, if_false]
    congr 1
    funext t'
    simp [fv, h1 i h', h2 i h', h3 i h']
/-- the elements of a row -/
def el (ad : Nat → Nat) (fi : Nat → Int32) (fj : Nat → Int64) (fq : Nat → Option Nat) (t : Nat) : (Nat → Int32) ⊕ (Nat → Int64) ⊕ (Nat → UInt32) ⊕ (Nat → UInt64) ⊕ (Nat → Option Nat) :=
  if t < 23 then .inl fi else if t = 23 then .inr (.inl fj) else .inr (.inr (.inr (.inr (fun j => (fq j).map ad))))
def en (D2 : Nat → ClassId) (ad : Nat → Nat) (τ : Nat × Nat) (fi : Nat → Int32) (fj : Nat → Int64) (fq : Nat → Option Nat) : va_E :=
  if τ.1 < 20 then .inr (τ.1, fl ad fi fj fq (fk τ.1) 0) else .inl (D2 τ.1, τ.2, el ad fi fj fq τ.1)
def wl (D2 : Nat → ClassId) (ad : Nat → Nat) (N : Nat) (T : Nat → Nat × Nat) (I : KI) (J : KJ) (Q : KQ) : va_W := (List.range N).map fun k => (ad k, en D2 ad (T k) (I k) (J k) (Q k))
theorem wl_at {D2 : Nat → ClassId} {ad : Nat → Nat} {N : Nat} {T : Nat → Nat × Nat} {I : KI} {J : KJ} {Q : KQ} {k : Nat} (h : k < N) : (wl D2 ad N T I J Q)[k]? = some (ad k, en D2 ad (T k) (I k) (J k) (Q k)) := by
  simp [wl, h]
theorem wl_set {D2 : Nat → ClassId} {ad : Nat → Nat} {N : Nat} {T : Nat → Nat × Nat} {I I' : KI} {J J' : KJ} {Q Q' : KQ} {k : Nat} {e : va_E} (h : k < N) (he : en D2 ad (T k) (I' k) (J' k) (Q' k) = e) (h1 : ∀ j, j ≠ k → I' j = I j) (h2 : ∀ j, j ≠ k → J' j = J j) (h3 : ∀ j, j ≠ k → Q' j = Q j) : (wl D2 ad N T I J Q).set k (ad k, e) = wl D2 ad N T I' J' Q' := by
  apply List.ext_getElem?
  intro i
  have hlen : (wl D2 ad N T I J Q).length = N := by simp [wl]
  rw [List.getElem?_set, hlen]
  by_cases hi : i < N
  · rw [wl_at hi, wl_at hi]
    by_cases hk : k = i
    · subst hk; simp [h, he]
    · have hk' : i ≠ k := fun e => hk e.symm
      simp [hk, h1 i hk', h2 i hk', h3 i hk']
  · have hki : k ≠ i := fun e => hi (e ▸ h)
    simp [hki, wl, hi]
/-- the addresses are apart, and in A -/
def Ap (ad : Nat → Nat) (N : Nat) (A : Nat → Prop) : Prop := (∀ i j, i < N → j < N → ad i = ad j → i = j) ∧ ∀ i, i < N → A (ad i)
theorem wl_of {D2 : Nat → ClassId} {ad : Nat → Nat} {N : Nat} {T : Nat → Nat × Nat} {I : KI} {J : KJ} {Q : KQ} {k : Nat} {q : Nat × va_E} (h : (wl D2 ad N T I J Q)[k]? = some q) : k < N ∧ q = (ad k, en D2 ad (T k) (I k) (J k) (Q k)) := by
  have hlt : k < N := by
    have := (List.getElem?_eq_some_iff.mp h).1
    simpa [wl] using this
  rw [wl_at hlt] at h
  exact ⟨hlt, (Option.some.inj h).symm⟩
theorem Ap.D {ad : Nat → Nat} {N : Nat} {A : Nat → Prop} (h : Ap ad N A) (D2 : Nat → ClassId) (T : Nat → Nat × Nat) (I : KI) (J : KJ) (Q : KQ) : va_D A (wl D2 ad N T I J Q) := by
  refine ⟨fun i j p q hp hq e => ?_, fun k q hq => ?_⟩
  · obtain ⟨hi, rfl⟩ := wl_of hp
    obtain ⟨hj, rfl⟩ := wl_of hq
    exact h.1 i j hi hj e
  · obtain ⟨hk, rfl⟩ := wl_of hq
    exact h.2 k hk
def Wd (D : va_G) (D2 : Nat → ClassId) (ad : Nat → Nat) (N : Nat) (T : Nat → Nat × Nat) (I : KI) (J : KJ) (Q : KQ) (H : Heap) : Prop := va_P D vwCl (wl D2 ad N T I J Q) H
/-- the words of the tables that go with a call; those of nest mates -/
def BIG : List Cond := lw_tbl.filter goodWord
def isNest : Cond → Bool := fun w => match w with
  | .fieldLinkNest _ _ _ _ _ _ => true
  | .methodLinkNest _ _ _ _ => true
  | _ => false
def nsL : List Cond := tables_1.filter isNest
theorem in_big {w : Cond} (h : w ∈ lw_tbl) (h2 : goodWord w = true) : w ∈ BIG := List.mem_filter.mpr ⟨h, h2⟩
theorem in_nsL {w : Cond} (h : w ∈ tables_1) (h2 : isNest w = true) : w ∈ nsL := List.mem_filter.mpr ⟨h, h2⟩
theorem big_good {w : Cond} (h : w ∈ BIG) : (w.onTables && w.keeps) = true ∨ ∃ ty, w = .arrayClass ty := good_of_word (List.mem_filter.mp h).2
theorem big_goodIn {ws : List Cond} (h : ∀ w ∈ ws, w ∈ BIG) : GoodIn BIG ws := fun w hw => ⟨h w hw, big_good (h w hw)⟩
def tyL (D2 : Nat → ClassId) : List (ClassId × FieldType) := [(D2 20, .int), (D2 21, .boolean), (D2 22, .char), (D2 23, .long), (D2 24, .object RX7), (D2 25, .object RX1), (D2 26, .object RX6)]
def KK (D : va_G) (D2 : Nat → ClassId) (U : State) : Prop := va_K D vwCl (tyL D2) U ∧ (∀ w ∈ nsL, va_Nw w U) ∧ ∀ C ∈ [RX7, RX1, RX6], va_AO C U
theorem KK.warm {D : va_G} {D2 : Nat → ClassId} {s U : State} (hW : s.WarmedH U.vm) (h : KK D D2 s) : KK D D2 U := by
  refine ⟨va_K.moved hW.alike h.1, fun w hw => ?_, fun C hC => va_AO.moved hW.alike (h.2.2 C hC)⟩
  have h2 := h.2.1 w hw
  have h3 := (List.mem_filter.mp hw).2
  unfold isNest at h3
  split at h3
  · exact va_Nw.warmF hW h2
  · exact va_Nw.warmM hW h2
  · cases h3
theorem KK.calling {D : va_G} {D2 : Nat → ClassId} {U : State} {g : JFrame} {mk : MethodId} {a : Array Value} (h : KK D D2 U) : KK D D2 (U.calling g mk a) := by
  refine ⟨va_K.moved (u := U) (U := U.calling g mk a) (Vm.Alike.refl U.vm) h.1, fun w hw => ?_, fun C hC => va_AO.moved (u := U) (U := U.calling g mk a) (Vm.Alike.refl U.vm) (h.2.2 C hC)⟩
  have h2 := h.2.1 w hw
  have h3 := (List.mem_filter.mp hw).2
  unfold isNest at h3
  split at h3
  · exact va_Nw.same rfl rfl h2
  · exact va_Nw.same rfl rfl h2
  · cases h3
/-- a reference that is what it should be -/
def OKr (Z : Nat → Prop) (N : Nat) (T : Nat → Nat × Nat) (k : Nat) (τ : Nat × Nat) : Prop := Z k ∧ k < N ∧ T k = τ
/-- what a class's reference fields, a row's places lead to -/
def rft : Nat × Nat → Nat → Option (Nat × Nat) := fun σ j => match σ.1, j with
  | 0, 0 => some (20, 384)
  | 0, 1 => some (20, 6)
  | 0, 2 => some (20, 6)
  | 1, 0 => some (4, 0)
  | 1, 1 => some (24, 6)
  | 1, 2 => some (20, 6)
  | 2, 0 => some (23, 64)
  | 3, 0 => some (25, 6)
  | 4, 0 => some (20, 48)
  | 5, 0 => some (20, 48)
  | 5, 1 => some (20, 6)
  | 5, 2 => some (7, 0)
  | 6, 0 => some (23, 24)
  | 7, 0 => some (20, 8)
  | 8, 0 => some (22, 90)
  | 8, 1 => some (4, 0)
  | 9, 0 => some (20, 6)
  | 9, 1 => some (20, 6)
  | 10, 0 => some (1, 0)
  | 10, 1 => some (3, 0)
  | 10, 2 => some (1, 0)
  | 10, 3 => some (3, 0)
  | 10, 4 => some (1, 0)
  | 10, 5 => some (5, 0)
  | 10, 6 => some (0, 0)
  | 10, 7 => some (9, 0)
  | 10, 8 => some (2, 0)
  | 10, 9 => some (8, 0)
  | 10, 10 => some (26, 4)
  | 11, 0 => some (20, 69)
  | 11, 3 => some (20, 414)
  | 11, 7 => some (20, 483)
  | 11, 8 => some (20, 69)
  | 11, 9 => some (21, 256)
  | 11, 10 => some (20, 6)
  | 11, 11 => some (20, 48)
  | 11, 13 => some (20, 8)
  | 11, 14 => some (20, 384)
  | 11, 15 => some (20, 6)
  | 11, 16 => some (20, 6)
  | 11, 19 => some (20, 90)
  | 11, 23 => some (20, 8)
  | 11, 24 => some (20, 4)
  | 11, 25 => some (20, 4)
  | 11, 26 => some (23, 96)
  | 24, j => if j < σ.2 then some (7, 0) else none
  | 25, j => if j < σ.2 then some (1, 0) else none
  | 26, j => if j < σ.2 then some (6, 0) else none
  | _, _ => none
def WF (Z : Nat → Prop) (N : Nat) (T : Nat → Nat × Nat) (Q : KQ) : Prop := ∀ k, Z k → ∀ j τ, rft (T k) j = some τ → ∃ k1, Q k j = some k1 ∧ OKr Z N T k1 τ
def rq (Q : KQ) (k j : Nat) : Nat := (Q k j).getD 0
theorem WF.q {Z : Nat → Prop} {N : Nat} {T : Nat → Nat × Nat} {Q : KQ} (h : WF Z N T Q) {k : Nat} {σ : Nat × Nat} (hk : OKr Z N T k σ) (j : Nat) {τ : Nat × Nat} (hr : rft σ j = some τ) : Q k j = some (rq Q k j) := by
  obtain ⟨k1, h1, -⟩ := h k hk.1 j τ (by rw [hk.2.2]; exact hr)
  simp [rq, h1]
theorem WF.r {Z : Nat → Prop} {N : Nat} {T : Nat → Nat × Nat} {Q : KQ} (h : WF Z N T Q) {k : Nat} {σ : Nat × Nat} (hk : OKr Z N T k σ) (j : Nat) {τ : Nat × Nat} (hr : rft σ j = some τ) : OKr Z N T (rq Q k j) τ := by
  obtain ⟨k1, h1, h2⟩ := h k hk.1 j τ (by rw [hk.2.2]; exact hr)
  simpa [rq, h1] using h2
theorem WF.set {Z : Nat → Prop} {N : Nat} {T : Nat → Nat × Nat} {Q : KQ} (h : WF Z N T Q) {k : Nat} {σ τ : Nat × Nat} (hk : OKr Z N T k σ) {j k1 : Nat} (hr : ∀ τ', rft σ j = some τ' → τ' = τ) (h1 : OKr Z N T k1 τ) : WF Z N T (upk Q k (va_up (Q k) j (some k1))) := by
  intro a ha i τ' hi
  by_cases hak : a = k
  · subst hak
    rw [upk_s]
    by_cases hij : i = j
    · subst hij
      rw [hk.2.2] at hi
      have := hr _ hi
      subst this
      exact ⟨k1, by simp [va_up], h1⟩
    · obtain ⟨k2, e1, e2⟩ := h a ha i τ' hi
      exact ⟨k2, by simp [va_up, hij, e1], e2⟩
  · rw [upk_n hak]
    exact h a ha i τ' hi

/-- the updates, named -/
def sti (I : KI) (k j : Nat) (v : Int32) : KI := upk I k (upd (I k) j v)
def stj (J : KJ) (k j : Nat) (v : Int64) : KJ := upk J k (vp_updL (J k) j v)
def stq (Q : KQ) (k j k1 : Nat) : KQ := upk Q k (va_up (Q k) j (some k1))
def cpi (I : KI) (k0 k1 sp dp n : Nat) : KI := upk I k1 (va_cpy (I k0) (I k1) sp dp n)
def cpj (J : KJ) (k0 k1 sp dp n : Nat) : KJ := upk J k1 (va_cpy (J k0) (J k1) sp dp n)
theorem rft_eS {n : Nat} {i : Int32} (h : vp_in i n) : rft (24, n) i.toNatClampNeg = some (7, 0) := by
  have hlt : i.toNatClampNeg < n := Nat.not_le.mp fun q => h (Or.inr q)
  show (if i.toNatClampNeg < n then some (7, 0) else none) = some (7, 0)
  rw [if_pos hlt]
theorem rft_eN {n : Nat} {i : Int32} (h : vp_in i n) : rft (25, n) i.toNatClampNeg = some (1, 0) := by
  have hlt : i.toNatClampNeg < n := Nat.not_le.mp fun q => h (Or.inr q)
  show (if i.toNatClampNeg < n then some (1, 0) else none) = some (1, 0)
  rw [if_pos hlt]
theorem rft_eR {n : Nat} {i : Int32} (h : vp_in i n) : rft (26, n) i.toNatClampNeg = some (6, 0) := by
  have hlt : i.toNatClampNeg < n := Nat.not_le.mp fun q => h (Or.inr q)
  show (if i.toNatClampNeg < n then some (6, 0) else none) = some (6, 0)
  rw [if_pos hlt]
theorem rft_uS {n j : Nat} : ∀ τ, rft (24, n) j = some τ → τ = (7, 0) := by
  intro τ h
  have h : (if j < n then some (7, 0) else none) = some τ := h
  split at h
  · exact (Option.some.inj h).symm
  · cases h
theorem rft_uN {n j : Nat} : ∀ τ, rft (25, n) j = some τ → τ = (1, 0) := by
  intro τ h
  have h : (if j < n then some (1, 0) else none) = some τ := h
  split at h
  · exact (Option.some.inj h).symm
  · cases h
theorem rft_uR {n j : Nat} : ∀ τ, rft (26, n) j = some τ → τ = (6, 0) := by
  intro τ h
  have h : (if j < n then some (6, 0) else none) = some τ := h
  split at h
  · exact (Option.some.inj h).symm
  · cases h
theorem nar_b {v : Int32} (h : v = 0 ∨ v = 1) : narrow .boolean (.int v) = .int v := by
  rcases h with rfl | rfl <;> rfl
theorem sw_out {x : Int32} {lo hi : Int} (h : ∀ v : Int, lo ≤ v → v ≤ hi → ¬ x = Int32.ofInt v) : x.toInt < lo ∨ hi < x.toInt := by
  by_cases h1 : x.toInt < lo
  · exact Or.inl h1
  · by_cases h2 : hi < x.toInt
    · exact Or.inr h2
    · exact absurd (Int32.ofInt_toInt x).symm (h x.toInt (by omega) (by omega))
theorem sw_ne {x : Int32} {v : Int} (h : ¬ x = Int32.ofInt v) : ¬ v = x.toInt := fun e => h (by rw [e]; exact (Int32.ofInt_toInt x).symm)
theorem lk_out {x : Int32} {a o b q d : Int} (h1 : ¬ x = Int32.ofInt a) (h2 : ¬ x = Int32.ofInt b) : Op.lookupswitch.offset [(a, o), (b, q)] d x.toInt = d := by
  simp [Op.lookupswitch.offset, sw_ne h1, sw_ne h2]
theorem vp_lit {x : Int32} {n : Nat} (h : decide (x < 0 ∨ n ≤ x.toNatClampNeg) = false) : vp_in x n := of_decide_eq_false h
/-- the five texts: their lengths and bytes; string i stands at D2 (100 + i), its bytes at D2 (200 + i); D2 300, 301: what String.checkIndex hands on -/
def lenS : List Nat := [4, 4, 4, 5, 3]
def bytS : List (List Int32) := [[112, 97, 116, 104], [114, 105, 110, 103], [115, 116, 97, 114], [108, 105, 110, 107, 115], [97, 108, 108]]
def idxS : List Nat := [47, 57, 59, 64, 69]
def txS : List String := ["path", "ring", "star", "links", "all"]
/-- what String.checkIndex hands on: null or something; it is never looked at -/
def fmt (D2 : Nat → ClassId) : Value := if D2 301 = 0 then .null else .ref (D2 300)
theorem fmt_cat (D2 : Nat → ClassId) : (fmt D2).category = 1 := by
  unfold fmt
  split <;> rfl
def SF (D2 : Nat → ClassId) (A : Nat → Prop) (U : State) (H : Heap) : Prop := vk_S 5 lenS bytS (fun i => D2 (100 + i)) (fun i => D2 (200 + i)) A U H ∧ (∀ i, i < 5 → vk_R "TokenRounds$Tape" (idxS.getD i 0) (txS.getD i "") (D2 (100 + i)) U) ∧ va_Z "java/lang/String" "COMPACT_STRINGS" "Z" (.int 1) A U H ∧ va_Z "jdk/internal/util/Preconditions" "SIOOBE_FORMATTER" "Ljava/util/function/BiFunction;" (fmt D2) A U H
theorem SF.ent {D2 : Nat → ClassId} {A : Nat → Prop} {s U : State} {H : Heap} {locs : List Loc} (h : SF D2 A s s.heap) (hS : va_S A s.heap H locs) (hw : s.WarmedH U.vm) : SF D2 A U H :=
  ⟨(vk_S.moved hw.alike h.1).kept hS.2.1, fun i hi => vk_R.warm hw (h.2.1 i hi), (va_Z.moved hw.alike h.2.2.1).kept hS.2.1, (va_Z.moved hw.alike h.2.2.2).kept hS.2.1⟩
theorem SF.calling {D2 : Nat → ClassId} {A : Nat → Prop} {U : State} {H : Heap} {g : JFrame} {mk : MethodId} {a : Array Value} (h : SF D2 A U H) : SF D2 A (U.calling g mk a) H :=
  ⟨vk_S.moved (u := U) (U := U.calling g mk a) (Vm.Alike.refl U.vm) h.1, fun i hi => vk_R.same (u := U) (U := U.calling g mk a) rfl (h.2.1 i hi), va_Z.moved (u := U) (U := U.calling g mk a) (Vm.Alike.refl U.vm) h.2.2.1, va_Z.moved (u := U) (U := U.calling g mk a) (Vm.Alike.refl U.vm) h.2.2.2⟩
end
section
/-! THE JUDGEMENT: from every heap that the pool tells, the machine comes on from here. -/
def CX (p : Program) (s : State) (m : MethodId) (args : Array Value) (meth : Method) (c : Code) (cc : ByteArray) (nL : Nat) (own : String) (A : Nat → Prop) (D : va_G) (D2 : Nat → ClassId) : Prop :=
  p.tables.exec = Jvm.exec ∧ c.code = cc ∧ c.maxLocals = nL ∧ s.vm.findClass own = some m.cls ∧ (∀ w ∈ BIG, w.before args s = true) ∧ KK D D2 s ∧ (∀ q, s.heap.size ≤ q → A q) ∧ meth.locks = false ∧ SF D2 A s s.heap
def GG (p : Program) (l : Launch) (e : Env) (R : Room) (s : State) (m : MethodId) (args : Array Value) (below : List Frame) (meth : Method) (c : Code) (nL : Nat) (A : Nat → Prop) (D : va_G) (D2 : Nat → ClassId) (cells slots : Nat) (Qe : State → Prop) (ad : Nat → Nat) (N : Nat) (T : Nat → Nat × Nat) (I : KI) (J : KJ) (Q : KQ) (pc : Nat) (lv : List (Nat × Value)) (st : List Value) : Prop :=
  ∀ (H : Heap) (locs : List Loc) (ls : Array Slot), Wd D D2 ad N T I J Q H → Ap ad N A → va_S A s.heap H locs → lv_has ls nL lv → W p l e R s m args below meth c H locs cells slots Qe (F0 m pc ls st)
/-- a field, as some class's code names it: class number ci, place j, kind t -/
def Lf (own : String) (index ci j t : Nat) : Prop := ∃ (C : String) (T : u_T) (n : Nat), vwCl[ci]? = some (C, T, n) ∧ ci < 20 ∧ (∀ w ∈ u_ws C T n, w ∈ BIG) ∧ j < n ∧ (fk ci)[j]? = some t ∧ (fk ci).length = n ∧ (T j).1 = C ∧ (Cond.fieldLink own index C (T j).2.1 (T j).2.2.1 ∈ BIG ∨ ∃ h, Cond.fieldLinkNest own index C (T j).2.1 (T j).2.2.1 h ∈ nsL)
/-- the same, one that may be written -/
def Lp (own : String) (index ci j t : Nat) (ty : FieldType) (fin : Bool) : Prop := ∃ (C : String) (T : u_T) (n : Nat) (ty0 : Nat → FieldType), vwCl[ci]? = some (C, T, n) ∧ ci < 20 ∧ (∀ w ∈ u_ws C T n, w ∈ BIG) ∧ j < n ∧ (fk ci)[j]? = some t ∧ (fk ci).length = n ∧ (T j).1 = C ∧ (Cond.fieldLink own index C (T j).2.1 (T j).2.2.1 ∈ BIG ∨ ∃ h, Cond.fieldLinkNest own index C (T j).2.1 (T j).2.2.1 h ∈ nsL) ∧ (∀ k, k < n → parseFieldDescriptor (T k).2.2.1 = some (ty0 k)) ∧ (∀ a, a < n → ∀ b, b < n → a ≠ b → (T a).2.1 ≠ (T b).2.1) ∧ (T j).2.2.2 = fin ∧ parseFieldDescriptor (T j).2.2.1 = some ty ∧ (fin = true → C = own)
/-- an instance method that a call picks, a static one, a constructor; n: how many it takes -/
def LV (own C : String) (index : Nat) (y : MethodName) (n : Nat) : Prop := (Cond.methodLink own index y ∈ BIG ∧ Cond.instanceMethod y ∈ BIG ∧ Cond.selects C y y ∈ BIG ∧ Cond.initialized C ∈ BIG) ∧ y.cls = C ∧ y.cls ≠ "java/lang/invoke/MethodHandle" ∧ y.cls ≠ "java/lang/invoke/VarHandle" ∧ (parseMethodDescriptor y.desc).map (fun d => d.parameters.length) = some n
def LSt (own : String) (index : Nat) (y : MethodName) (n : Nat) : Prop := (Cond.methodLink own index y ∈ BIG ∧ Cond.static y ∈ BIG ∧ Cond.initialized y.cls ∈ BIG) ∧ y.cls ≠ "java/lang/invoke/MethodHandle" ∧ y.cls ≠ "java/lang/invoke/VarHandle" ∧ (parseMethodDescriptor y.desc).map (fun d => d.parameters.length) = some n
def LSN (own : String) (index : Nat) (y : MethodName) (n : Nat) : Prop := (∃ h, Cond.methodLinkNest own index y h ∈ nsL) ∧ (Cond.static y ∈ BIG ∧ Cond.initialized y.cls ∈ BIG) ∧ y.cls ≠ "java/lang/invoke/MethodHandle" ∧ y.cls ≠ "java/lang/invoke/VarHandle" ∧ (parseMethodDescriptor y.desc).map (fun d => d.parameters.length) = some n
def Pr (D : va_G) (D2 : Nat → ClassId) (A : Nat → Prop) (ad : Nat → Nat) (N : Nat) (T : Nat → Nat × Nat) (I : KI) (J : KJ) (Q : KQ) (av : List Value) : Array Value → State → Prop := va_Pc av (fun U => Wd D D2 ad N T I J Q U.heap ∧ Ap ad N A ∧ KK D D2 U ∧ (∀ q, U.heap.size ≤ q → A q) ∧ SF D2 A U U.heap)
abbrev KS : Type := KI × KJ × KQ
def Bw (D : va_G) (D2 : Nat → ClassId) (ad : Nat → Nat) (N : Nat) (T : Nat → Nat × Nat) : KS → State → Prop := fun u t => Wd D D2 ad N T u.1 u.2.1 u.2.2 t.heap
section GROWS
variable {p : Program} {l : Launch} {e : Env} {R : Room} {s : State} {m : MethodId} {args : Array Value} {below : List Frame} {meth : Method} {c : Code} {nL : Nat} {A : Nat → Prop} {D : va_G} {D2 : Nat → ClassId} {cells slots : Nat} {Qe : State → Prop} {ad : Nat → Nat} {N : Nat} {T : Nat → Nat × Nat} {I : KI} {J : KJ} {Q : KQ} {pc : Nat} {lv lv' : List (Nat × Value)} {st : List Value} {cc : ByteArray} {own : String} {Z : Nat → Prop}
theorem Lf.lk {index ci j t : Nat} {args : Array Value} {s : State} (hts : ∀ w ∈ BIG, w.before args s = true) (hK : KK D D2 s) {own C n d : String} (h : Cond.fieldLink own index C n d ∈ BIG ∨ ∃ h, Cond.fieldLinkNest own index C n d h ∈ nsL) : (Cond.fieldLink own index C n d).before args s = true ∨ ∃ h, (Cond.fieldLinkNest own index C n d h).before args s = true := by
  rcases h with h | ⟨h, h1⟩
  · exact Or.inl (hts _ h)
  · exact Or.inr ⟨h, va_Nw.use rfl (hK.2.1 _ h1)⟩

theorem g_iconst (C : CX p s m args meth c cc nL own A D D2) {n : Int} {v : Int32} (hdg : decode cc pc = .ok (.iconst n, 1)) (hv : Int32.ofInt n = v) (k : GG p l e R s m args below meth c nL A D D2 cells slots Qe ad N T I J Q (pc + 1) lv (.int v :: st)) : GG p l e R s m args below meth c nL A D D2 cells slots Qe ad N T I J Q pc lv (st) := fun H locs ls hW hA hS hl => lv_iconst C.1 C.2.1 hdg hv (k H locs ls hW hA hS hl)
theorem g_bipush (C : CX p s m args meth c cc nL own A D D2) {n : Int} {v : Int32} (hdg : decode cc pc = .ok (.bipush n, 2)) (hv : (Int8.ofInt n).toInt32 = v) (k : GG p l e R s m args below meth c nL A D D2 cells slots Qe ad N T I J Q (pc + 2) lv (.int v :: st)) : GG p l e R s m args below meth c nL A D D2 cells slots Qe ad N T I J Q pc lv (st) := fun H locs ls hW hA hS hl => lv_bipush C.1 C.2.1 hdg hv (k H locs ls hW hA hS hl)
theorem g_sipush (C : CX p s m args meth c cc nL own A D D2) {n : Int} {v : Int32} (hdg : decode cc pc = .ok (.sipush n, 3)) (hv : (Int16.ofInt n).toInt32 = v) (k : GG p l e R s m args below meth c nL A D D2 cells slots Qe ad N T I J Q (pc + 3) lv (.int v :: st)) : GG p l e R s m args below meth c nL A D D2 cells slots Qe ad N T I J Q pc lv (st) := fun H locs ls hW hA hS hl => lv_sipush C.1 C.2.1 hdg hv (k H locs ls hW hA hS hl)
theorem g_lconst (C : CX p s m args meth c cc nL own A D D2) {n : Fin 2} {v : Int64} (hdg : decode cc pc = .ok (.lconst n, 1)) (hv : Int64.ofNat (n : Nat) = v) (k : GG p l e R s m args below meth c nL A D D2 cells slots Qe ad N T I J Q (pc + 1) lv (.long v :: st)) : GG p l e R s m args below meth c nL A D D2 cells slots Qe ad N T I J Q pc lv (st) := fun H locs ls hW hA hS hl => lv_lconst C.1 C.2.1 hdg hv (k H locs ls hW hA hS hl)
theorem g_ldc (C : CX p s m args meth c cc nL own A D D2) {index : Nat} {v : Int32} (hdg : decode cc pc = .ok (.ldc index, 2)) (hw : Cond.constant own index v ∈ BIG) (k : GG p l e R s m args below meth c nL A D D2 cells slots Qe ad N T I J Q (pc + 2) lv (.int v :: st)) : GG p l e R s m args below meth c nL A D D2 cells slots Qe ad N T I J Q pc lv (st) := fun H locs ls hW hA hS hl => lv_ldc C.1 C.2.1 C.2.2.2.1 (C.2.2.2.2.1 _ hw) hdg (k H locs ls hW hA hS hl)
theorem g_ldc_w (C : CX p s m args meth c cc nL own A D D2) {index : Nat} {v : Int32} (hdg : decode cc pc = .ok (.ldc_w index, 3)) (hw : Cond.constant own index v ∈ BIG) (k : GG p l e R s m args below meth c nL A D D2 cells slots Qe ad N T I J Q (pc + 3) lv (.int v :: st)) : GG p l e R s m args below meth c nL A D D2 cells slots Qe ad N T I J Q pc lv (st) := fun H locs ls hW hA hS hl => lv_ldcw C.1 C.2.1 C.2.2.2.1 (C.2.2.2.2.1 _ hw) hdg (k H locs ls hW hA hS hl)
theorem g_ldc2 (C : CX p s m args meth c cc nL own A D D2) {index : Nat} {v : Int64} (hdg : decode cc pc = .ok (.ldc2_w index, 3)) (hw : Cond.constantLong own index v ∈ BIG) (k : GG p l e R s m args below meth c nL A D D2 cells slots Qe ad N T I J Q (pc + 3) lv (.long v :: st)) : GG p l e R s m args below meth c nL A D D2 cells slots Qe ad N T I J Q pc lv (st) := fun H locs ls hW hA hS hl => lv_ldc2 C.1 C.2.1 C.2.2.2.1 (C.2.2.2.2.1 _ hw) hdg (k H locs ls hW hA hS hl)
theorem g_iload_n (C : CX p s m args meth c cc nL own A D D2) {b : Fin 4} {i : Nat} {x : Int32} (hdg : decode cc pc = .ok (.iload_n b, 1)) (hi : (b : Nat) = i) (q : Nat) (hq : lv[q]? = some (i, .int x)) (k : GG p l e R s m args below meth c nL A D D2 cells slots Qe ad N T I J Q (pc + 1) lv (.int x :: st)) : GG p l e R s m args below meth c nL A D D2 cells slots Qe ad N T I J Q pc lv (st) := fun H locs ls hW hA hS hl => lv_iload_n C.1 C.2.1 hdg hi (lv_at hl q hq) (k H locs ls hW hA hS hl)
theorem g_iload (C : CX p s m args meth c cc nL own A D D2) {i : Nat} {x : Int32} (hdg : decode cc pc = .ok (.iload i, 2)) (q : Nat) (hq : lv[q]? = some (i, .int x)) (k : GG p l e R s m args below meth c nL A D D2 cells slots Qe ad N T I J Q (pc + 2) lv (.int x :: st)) : GG p l e R s m args below meth c nL A D D2 cells slots Qe ad N T I J Q pc lv (st) := fun H locs ls hW hA hS hl => lv_iload C.1 C.2.1 hdg (lv_at hl q hq) (k H locs ls hW hA hS hl)
theorem g_lload_n (C : CX p s m args meth c cc nL own A D D2) {b : Fin 4} {i : Nat} {x : Int64} (hdg : decode cc pc = .ok (.lload_n b, 1)) (hi : (b : Nat) = i) (q : Nat) (hq : lv[q]? = some (i, .long x)) (k : GG p l e R s m args below meth c nL A D D2 cells slots Qe ad N T I J Q (pc + 1) lv (.long x :: st)) : GG p l e R s m args below meth c nL A D D2 cells slots Qe ad N T I J Q pc lv (st) := fun H locs ls hW hA hS hl => lv_lload_n C.1 C.2.1 hdg hi (lv_at hl q hq) (k H locs ls hW hA hS hl)
theorem g_lload (C : CX p s m args meth c cc nL own A D D2) {i : Nat} {x : Int64} (hdg : decode cc pc = .ok (.lload i, 2)) (q : Nat) (hq : lv[q]? = some (i, .long x)) (k : GG p l e R s m args below meth c nL A D D2 cells slots Qe ad N T I J Q (pc + 2) lv (.long x :: st)) : GG p l e R s m args below meth c nL A D D2 cells slots Qe ad N T I J Q pc lv (st) := fun H locs ls hW hA hS hl => lv_lload C.1 C.2.1 hdg (lv_at hl q hq) (k H locs ls hW hA hS hl)
theorem g_aload_n (C : CX p s m args meth c cc nL own A D D2) {b : Fin 4} {i : Nat} {x : Nat} (hdg : decode cc pc = .ok (.aload_n b, 1)) (hi : (b : Nat) = i) (q : Nat) (hq : lv[q]? = some (i, .ref x)) (k : GG p l e R s m args below meth c nL A D D2 cells slots Qe ad N T I J Q (pc + 1) lv (.ref x :: st)) : GG p l e R s m args below meth c nL A D D2 cells slots Qe ad N T I J Q pc lv (st) := fun H locs ls hW hA hS hl => lv_aload_n C.1 C.2.1 hdg hi (lv_at hl q hq) (k H locs ls hW hA hS hl)
theorem g_aload (C : CX p s m args meth c cc nL own A D D2) {i : Nat} {x : Nat} (hdg : decode cc pc = .ok (.aload i, 2)) (q : Nat) (hq : lv[q]? = some (i, .ref x)) (k : GG p l e R s m args below meth c nL A D D2 cells slots Qe ad N T I J Q (pc + 2) lv (.ref x :: st)) : GG p l e R s m args below meth c nL A D D2 cells slots Qe ad N T I J Q pc lv (st) := fun H locs ls hW hA hS hl => lv_aload C.1 C.2.1 hdg (lv_at hl q hq) (k H locs ls hW hA hS hl)
theorem g_istore_n (C : CX p s m args meth c cc nL own A D D2) {b : Fin 4} {i : Nat} {x : Int32} (hdg : decode cc pc = .ok (.istore_n b, 1)) (hi : (b : Nat) = i) (hn : i < nL) (hlv : (i, Value.int x) :: lv.filter (fun q => !(q.1 == i) && !(q.1 + 1 == i && q.2.category == 2)) = lv') (k : GG p l e R s m args below meth c nL A D D2 cells slots Qe ad N T I J Q (pc + 1) lv' (st)) : GG p l e R s m args below meth c nL A D D2 cells slots Qe ad N T I J Q pc lv (.int x :: st) := fun H locs ls hW hA hS hl => lv_istore_n C.1 C.2.1 hdg hi hl hn hlv (fun ls' hl' => k H locs ls' hW hA hS hl')
theorem g_istore (C : CX p s m args meth c cc nL own A D D2) {i : Nat} {x : Int32} (hdg : decode cc pc = .ok (.istore i, 2)) (hn : i < nL) (hlv : (i, Value.int x) :: lv.filter (fun q => !(q.1 == i) && !(q.1 + 1 == i && q.2.category == 2)) = lv') (k : GG p l e R s m args below meth c nL A D D2 cells slots Qe ad N T I J Q (pc + 2) lv' (st)) : GG p l e R s m args below meth c nL A D D2 cells slots Qe ad N T I J Q pc lv (.int x :: st) := fun H locs ls hW hA hS hl => lv_istore C.1 C.2.1 hdg hl hn hlv (fun ls' hl' => k H locs ls' hW hA hS hl')
theorem g_astore_n (C : CX p s m args meth c cc nL own A D D2) {b : Fin 4} {i : Nat} {x : Nat} (hdg : decode cc pc = .ok (.astore_n b, 1)) (hi : (b : Nat) = i) (hn : i < nL) (hlv : (i, Value.ref x) :: lv.filter (fun q => !(q.1 == i) && !(q.1 + 1 == i && q.2.category == 2)) = lv') (k : GG p l e R s m args below meth c nL A D D2 cells slots Qe ad N T I J Q (pc + 1) lv' (st)) : GG p l e R s m args below meth c nL A D D2 cells slots Qe ad N T I J Q pc lv (.ref x :: st) := fun H locs ls hW hA hS hl => lv_astore_n C.1 C.2.1 hdg hi hl hn hlv (fun ls' hl' => k H locs ls' hW hA hS hl')
theorem g_astore (C : CX p s m args meth c cc nL own A D D2) {i : Nat} {x : Nat} (hdg : decode cc pc = .ok (.astore i, 2)) (hn : i < nL) (hlv : (i, Value.ref x) :: lv.filter (fun q => !(q.1 == i) && !(q.1 + 1 == i && q.2.category == 2)) = lv') (k : GG p l e R s m args below meth c nL A D D2 cells slots Qe ad N T I J Q (pc + 2) lv' (st)) : GG p l e R s m args below meth c nL A D D2 cells slots Qe ad N T I J Q pc lv (.ref x :: st) := fun H locs ls hW hA hS hl => lv_astore C.1 C.2.1 hdg hl hn hlv (fun ls' hl' => k H locs ls' hW hA hS hl')
theorem g_lstore_n (C : CX p s m args meth c cc nL own A D D2) {b : Fin 4} {i : Nat} {x : Int64} (hdg : decode cc pc = .ok (.lstore_n b, 1)) (hi : (b : Nat) = i) (hn : i + 1 < nL) (hlv : (i, Value.long x) :: lv.filter (fun q => !(q.1 == i) && (!(q.1 == i + 1) && !(q.1 + 1 == i && q.2.category == 2))) = lv') (k : GG p l e R s m args below meth c nL A D D2 cells slots Qe ad N T I J Q (pc + 1) lv' (st)) : GG p l e R s m args below meth c nL A D D2 cells slots Qe ad N T I J Q pc lv (.long x :: st) := fun H locs ls hW hA hS hl => lv_lstore_n C.1 C.2.1 hdg hi hl hn hlv (fun ls' hl' => k H locs ls' hW hA hS hl')
theorem g_lstore (C : CX p s m args meth c cc nL own A D D2) {i : Nat} {x : Int64} (hdg : decode cc pc = .ok (.lstore i, 2)) (hn : i + 1 < nL) (hlv : (i, Value.long x) :: lv.filter (fun q => !(q.1 == i) && (!(q.1 == i + 1) && !(q.1 + 1 == i && q.2.category == 2))) = lv') (k : GG p l e R s m args below meth c nL A D D2 cells slots Qe ad N T I J Q (pc + 2) lv' (st)) : GG p l e R s m args below meth c nL A D D2 cells slots Qe ad N T I J Q pc lv (.long x :: st) := fun H locs ls hW hA hS hl => lv_lstore C.1 C.2.1 hdg hl hn hlv (fun ls' hl' => k H locs ls' hW hA hS hl')
theorem g_iinc (C : CX p s m args meth c cc nL own A D D2) {i q : Nat} {n : Int} {x v : Int32} (hdg : decode cc pc = .ok (.iinc i n, 3)) (hq : lv[q]? = some (i, .int x)) (hv : x + Int32.ofInt n = v) (hn : i < nL) (hlv : (i, Value.int v) :: lv.filter (fun q => !(q.1 == i) && !(q.1 + 1 == i && q.2.category == 2)) = lv') (k : GG p l e R s m args below meth c nL A D D2 cells slots Qe ad N T I J Q (pc + 3) lv' (st)) : GG p l e R s m args below meth c nL A D D2 cells slots Qe ad N T I J Q pc lv (st) := fun H locs ls hW hA hS hl => lv_iinc C.1 C.2.1 hdg hl hq hv hn hlv (fun ls' hl' => k H locs ls' hW hA hS hl')
theorem g_iadd (C : CX p s m args meth c cc nL own A D D2) {x y : Int32} (hdg : decode cc pc = .ok (.iadd, 1)) (k : GG p l e R s m args below meth c nL A D D2 cells slots Qe ad N T I J Q (pc + 1) lv (.int (x + y) :: st)) : GG p l e R s m args below meth c nL A D D2 cells slots Qe ad N T I J Q pc lv (.int y :: .int x :: st) := fun H locs ls hW hA hS hl => lv_iadd C.1 C.2.1 hdg (k H locs ls hW hA hS hl)
theorem g_isub (C : CX p s m args meth c cc nL own A D D2) {x y : Int32} (hdg : decode cc pc = .ok (.isub, 1)) (k : GG p l e R s m args below meth c nL A D D2 cells slots Qe ad N T I J Q (pc + 1) lv (.int (x - y) :: st)) : GG p l e R s m args below meth c nL A D D2 cells slots Qe ad N T I J Q pc lv (.int y :: .int x :: st) := fun H locs ls hW hA hS hl => lv_isub C.1 C.2.1 hdg (k H locs ls hW hA hS hl)
theorem g_imul (C : CX p s m args meth c cc nL own A D D2) {x y : Int32} (hdg : decode cc pc = .ok (.imul, 1)) (k : GG p l e R s m args below meth c nL A D D2 cells slots Qe ad N T I J Q (pc + 1) lv (.int (x * y) :: st)) : GG p l e R s m args below meth c nL A D D2 cells slots Qe ad N T I J Q pc lv (.int y :: .int x :: st) := fun H locs ls hW hA hS hl => lv_imul C.1 C.2.1 hdg (k H locs ls hW hA hS hl)
theorem g_iand (C : CX p s m args meth c cc nL own A D D2) {x y : Int32} (hdg : decode cc pc = .ok (.iand, 1)) (k : GG p l e R s m args below meth c nL A D D2 cells slots Qe ad N T I J Q (pc + 1) lv (.int (x &&& y) :: st)) : GG p l e R s m args below meth c nL A D D2 cells slots Qe ad N T I J Q pc lv (.int y :: .int x :: st) := fun H locs ls hW hA hS hl => lv_iand C.1 C.2.1 hdg (k H locs ls hW hA hS hl)
theorem g_ior (C : CX p s m args meth c cc nL own A D D2) {x y : Int32} (hdg : decode cc pc = .ok (.ior, 1)) (k : GG p l e R s m args below meth c nL A D D2 cells slots Qe ad N T I J Q (pc + 1) lv (.int (x ||| y) :: st)) : GG p l e R s m args below meth c nL A D D2 cells slots Qe ad N T I J Q pc lv (.int y :: .int x :: st) := fun H locs ls hW hA hS hl => lv_ior C.1 C.2.1 hdg (k H locs ls hW hA hS hl)
theorem g_ixor (C : CX p s m args meth c cc nL own A D D2) {x y : Int32} (hdg : decode cc pc = .ok (.ixor, 1)) (k : GG p l e R s m args below meth c nL A D D2 cells slots Qe ad N T I J Q (pc + 1) lv (.int (x ^^^ y) :: st)) : GG p l e R s m args below meth c nL A D D2 cells slots Qe ad N T I J Q pc lv (.int y :: .int x :: st) := fun H locs ls hW hA hS hl => lv_ixor C.1 C.2.1 hdg (k H locs ls hW hA hS hl)
theorem g_ishl (C : CX p s m args meth c cc nL own A D D2) {x y : Int32} (hdg : decode cc pc = .ok (.ishl, 1)) (k : GG p l e R s m args below meth c nL A D D2 cells slots Qe ad N T I J Q (pc + 1) lv (.int (x <<< (y &&& 31)) :: st)) : GG p l e R s m args below meth c nL A D D2 cells slots Qe ad N T I J Q pc lv (.int y :: .int x :: st) := fun H locs ls hW hA hS hl => lv_ishl C.1 C.2.1 hdg (k H locs ls hW hA hS hl)
theorem g_ishr (C : CX p s m args meth c cc nL own A D D2) {x y : Int32} (hdg : decode cc pc = .ok (.ishr, 1)) (k : GG p l e R s m args below meth c nL A D D2 cells slots Qe ad N T I J Q (pc + 1) lv (.int (x >>> (y &&& 31)) :: st)) : GG p l e R s m args below meth c nL A D D2 cells slots Qe ad N T I J Q pc lv (.int y :: .int x :: st) := fun H locs ls hW hA hS hl => lv_ishr C.1 C.2.1 hdg (k H locs ls hW hA hS hl)
theorem g_iushr (C : CX p s m args meth c cc nL own A D D2) {x y : Int32} (hdg : decode cc pc = .ok (.iushr, 1)) (k : GG p l e R s m args below meth c nL A D D2 cells slots Qe ad N T I J Q (pc + 1) lv (.int ((x.toUInt32 >>> (y.toUInt32 &&& Int32.toUInt32 31)).toInt32) :: st)) : GG p l e R s m args below meth c nL A D D2 cells slots Qe ad N T I J Q pc lv (.int y :: .int x :: st) := fun H locs ls hW hA hS hl => lv_iushr C.1 C.2.1 hdg rfl (k H locs ls hW hA hS hl)
theorem g_ineg (C : CX p s m args meth c cc nL own A D D2) {x : Int32} (hdg : decode cc pc = .ok (.ineg, 1)) (k : GG p l e R s m args below meth c nL A D D2 cells slots Qe ad N T I J Q (pc + 1) lv (.int (-x) :: st)) : GG p l e R s m args below meth c nL A D D2 cells slots Qe ad N T I J Q pc lv (.int x :: st) := fun H locs ls hW hA hS hl => lv_ineg C.1 C.2.1 hdg (k H locs ls hW hA hS hl)
theorem g_idiv (C : CX p s m args meth c cc nL own A D D2) {x y : Int32} (hdg : decode cc pc = .ok (.idiv, 1)) (hne : ¬ y = 0) (k : GG p l e R s m args below meth c nL A D D2 cells slots Qe ad N T I J Q (pc + 1) lv (.int (x / y) :: st)) : GG p l e R s m args below meth c nL A D D2 cells slots Qe ad N T I J Q pc lv (.int y :: .int x :: st) := fun H locs ls hW hA hS hl => lv_idiv C.1 C.2.1 hdg hne (k H locs ls hW hA hS hl)
theorem g_irem (C : CX p s m args meth c cc nL own A D D2) {x y : Int32} (hdg : decode cc pc = .ok (.irem, 1)) (hne : ¬ y = 0) (k : GG p l e R s m args below meth c nL A D D2 cells slots Qe ad N T I J Q (pc + 1) lv (.int (x - x / y * y) :: st)) : GG p l e R s m args below meth c nL A D D2 cells slots Qe ad N T I J Q pc lv (.int y :: .int x :: st) := fun H locs ls hW hA hS hl => lv_irem C.1 C.2.1 hdg hne (k H locs ls hW hA hS hl)
theorem g_ladd (C : CX p s m args meth c cc nL own A D D2) {x y : Int64} (hdg : decode cc pc = .ok (.ladd, 1)) (k : GG p l e R s m args below meth c nL A D D2 cells slots Qe ad N T I J Q (pc + 1) lv (.long (x + y) :: st)) : GG p l e R s m args below meth c nL A D D2 cells slots Qe ad N T I J Q pc lv (.long y :: .long x :: st) := fun H locs ls hW hA hS hl => lv_ladd C.1 C.2.1 hdg (k H locs ls hW hA hS hl)
theorem g_lsub (C : CX p s m args meth c cc nL own A D D2) {x y : Int64} (hdg : decode cc pc = .ok (.lsub, 1)) (k : GG p l e R s m args below meth c nL A D D2 cells slots Qe ad N T I J Q (pc + 1) lv (.long (x - y) :: st)) : GG p l e R s m args below meth c nL A D D2 cells slots Qe ad N T I J Q pc lv (.long y :: .long x :: st) := fun H locs ls hW hA hS hl => lv_lsub C.1 C.2.1 hdg (k H locs ls hW hA hS hl)
theorem g_lmul (C : CX p s m args meth c cc nL own A D D2) {x y : Int64} (hdg : decode cc pc = .ok (.lmul, 1)) (k : GG p l e R s m args below meth c nL A D D2 cells slots Qe ad N T I J Q (pc + 1) lv (.long (x * y) :: st)) : GG p l e R s m args below meth c nL A D D2 cells slots Qe ad N T I J Q pc lv (.long y :: .long x :: st) := fun H locs ls hW hA hS hl => lv_lmul C.1 C.2.1 hdg (k H locs ls hW hA hS hl)
theorem g_land (C : CX p s m args meth c cc nL own A D D2) {x y : Int64} (hdg : decode cc pc = .ok (.land, 1)) (k : GG p l e R s m args below meth c nL A D D2 cells slots Qe ad N T I J Q (pc + 1) lv (.long (x &&& y) :: st)) : GG p l e R s m args below meth c nL A D D2 cells slots Qe ad N T I J Q pc lv (.long y :: .long x :: st) := fun H locs ls hW hA hS hl => lv_land C.1 C.2.1 hdg (k H locs ls hW hA hS hl)
theorem g_lor (C : CX p s m args meth c cc nL own A D D2) {x y : Int64} (hdg : decode cc pc = .ok (.lor, 1)) (k : GG p l e R s m args below meth c nL A D D2 cells slots Qe ad N T I J Q (pc + 1) lv (.long (x ||| y) :: st)) : GG p l e R s m args below meth c nL A D D2 cells slots Qe ad N T I J Q pc lv (.long y :: .long x :: st) := fun H locs ls hW hA hS hl => lv_lor C.1 C.2.1 hdg (k H locs ls hW hA hS hl)
theorem g_ldiv (C : CX p s m args meth c cc nL own A D D2) {x y : Int64} (hdg : decode cc pc = .ok (.ldiv, 1)) (hne : ¬ y = 0) (k : GG p l e R s m args below meth c nL A D D2 cells slots Qe ad N T I J Q (pc + 1) lv (.long (x / y) :: st)) : GG p l e R s m args below meth c nL A D D2 cells slots Qe ad N T I J Q pc lv (.long y :: .long x :: st) := fun H locs ls hW hA hS hl => lv_ldiv C.1 C.2.1 hdg hne (k H locs ls hW hA hS hl)
theorem g_lrem (C : CX p s m args meth c cc nL own A D D2) {x y : Int64} (hdg : decode cc pc = .ok (.lrem, 1)) (hne : ¬ y = 0) (k : GG p l e R s m args below meth c nL A D D2 cells slots Qe ad N T I J Q (pc + 1) lv (.long (x - x / y * y) :: st)) : GG p l e R s m args below meth c nL A D D2 cells slots Qe ad N T I J Q pc lv (.long y :: .long x :: st) := fun H locs ls hW hA hS hl => lv_lrem C.1 C.2.1 hdg hne (k H locs ls hW hA hS hl)
theorem g_lshl (C : CX p s m args meth c cc nL own A D D2) {x : Int64} {y : Int32} (hdg : decode cc pc = .ok (.lshl, 1)) (k : GG p l e R s m args below meth c nL A D D2 cells slots Qe ad N T I J Q (pc + 1) lv (.long (x <<< (y.toInt64 &&& 63)) :: st)) : GG p l e R s m args below meth c nL A D D2 cells slots Qe ad N T I J Q pc lv (.int y :: .long x :: st) := fun H locs ls hW hA hS hl => lv_lshl C.1 C.2.1 hdg rfl (k H locs ls hW hA hS hl)
theorem g_i2l (C : CX p s m args meth c cc nL own A D D2) {x : Int32} (hdg : decode cc pc = .ok (.i2l, 1)) (k : GG p l e R s m args below meth c nL A D D2 cells slots Qe ad N T I J Q (pc + 1) lv (.long x.toInt64 :: st)) : GG p l e R s m args below meth c nL A D D2 cells slots Qe ad N T I J Q pc lv (.int x :: st) := fun H locs ls hW hA hS hl => lv_i2l C.1 C.2.1 hdg rfl (k H locs ls hW hA hS hl)
theorem g_l2i (C : CX p s m args meth c cc nL own A D D2) {x : Int64} (hdg : decode cc pc = .ok (.l2i, 1)) (k : GG p l e R s m args below meth c nL A D D2 cells slots Qe ad N T I J Q (pc + 1) lv (.int x.toInt32 :: st)) : GG p l e R s m args below meth c nL A D D2 cells slots Qe ad N T I J Q pc lv (.long x :: st) := fun H locs ls hW hA hS hl => lv_l2i C.1 C.2.1 hdg rfl (k H locs ls hW hA hS hl)
theorem g_i2b (C : CX p s m args meth c cc nL own A D D2) {x : Int32} (hdg : decode cc pc = .ok (.i2b, 1)) (k : GG p l e R s m args below meth c nL A D D2 cells slots Qe ad N T I J Q (pc + 1) lv (.int x.toInt8.toInt32 :: st)) : GG p l e R s m args below meth c nL A D D2 cells slots Qe ad N T I J Q pc lv (.int x :: st) := fun H locs ls hW hA hS hl => lv_i2b C.1 C.2.1 hdg rfl (k H locs ls hW hA hS hl)
theorem g_i2s (C : CX p s m args meth c cc nL own A D D2) {x : Int32} (hdg : decode cc pc = .ok (.i2s, 1)) (k : GG p l e R s m args below meth c nL A D D2 cells slots Qe ad N T I J Q (pc + 1) lv (.int x.toInt16.toInt32 :: st)) : GG p l e R s m args below meth c nL A D D2 cells slots Qe ad N T I J Q pc lv (.int x :: st) := fun H locs ls hW hA hS hl => lv_i2s C.1 C.2.1 hdg rfl (k H locs ls hW hA hS hl)
theorem g_i2c (C : CX p s m args meth c cc nL own A D D2) {x : Int32} (hdg : decode cc pc = .ok (.i2c, 1)) (k : GG p l e R s m args below meth c nL A D D2 cells slots Qe ad N T I J Q (pc + 1) lv (.int (x.toUInt32 % 65536).toInt32 :: st)) : GG p l e R s m args below meth c nL A D D2 cells slots Qe ad N T I J Q pc lv (.int x :: st) := fun H locs ls hW hA hS hl => lv_i2c C.1 C.2.1 hdg rfl (k H locs ls hW hA hS hl)
theorem g_dup (C : CX p s m args meth c cc nL own A D D2) {va : Value} (hdg : decode cc pc = .ok (.dup, 1)) (hva : va.category = 1) (k : GG p l e R s m args below meth c nL A D D2 cells slots Qe ad N T I J Q (pc + 1) lv (va :: va :: st)) : GG p l e R s m args below meth c nL A D D2 cells slots Qe ad N T I J Q pc lv (va :: st) := fun H locs ls hW hA hS hl => lv_dup C.1 C.2.1 hdg hva (k H locs ls hW hA hS hl)
theorem g_pop (C : CX p s m args meth c cc nL own A D D2) {va : Value} (hdg : decode cc pc = .ok (.pop, 1)) (hva : va.category = 1) (k : GG p l e R s m args below meth c nL A D D2 cells slots Qe ad N T I J Q (pc + 1) lv (st)) : GG p l e R s m args below meth c nL A D D2 cells slots Qe ad N T I J Q pc lv (va :: st) := fun H locs ls hW hA hS hl => lv_pop C.1 C.2.1 hdg hva (k H locs ls hW hA hS hl)
theorem g_dup_x1 (C : CX p s m args meth c cc nL own A D D2) {va vb : Value} (hdg : decode cc pc = .ok (.dup_x1, 1)) (hva : va.category = 1) (hvb : vb.category = 1) (k : GG p l e R s m args below meth c nL A D D2 cells slots Qe ad N T I J Q (pc + 1) lv (va :: vb :: va :: st)) : GG p l e R s m args below meth c nL A D D2 cells slots Qe ad N T I J Q pc lv (va :: vb :: st) := fun H locs ls hW hA hS hl => lv_dup_x1 C.1 C.2.1 hdg hva hvb (k H locs ls hW hA hS hl)
theorem g_dup2 (C : CX p s m args meth c cc nL own A D D2) {va vb : Value} (hdg : decode cc pc = .ok (.dup2, 1)) (hva : va.category = 1) (hvb : vb.category = 1) (k : GG p l e R s m args below meth c nL A D D2 cells slots Qe ad N T I J Q (pc + 1) lv (va :: vb :: va :: vb :: st)) : GG p l e R s m args below meth c nL A D D2 cells slots Qe ad N T I J Q pc lv (va :: vb :: st) := fun H locs ls hW hA hS hl => lv_dup2_11 C.1 C.2.1 hdg hva hvb (k H locs ls hW hA hS hl)
theorem g_if_eq (C : CX p s m args meth c cc nL own A D D2) {x : Int32} {off : Int} {tgt : Nat} (hdg : decode cc pc = .ok (.ifCond .eq off, 3)) (ht : (pc : Int) + off = (tgt : Int)) (kt : x = 0 → GG p l e R s m args below meth c nL A D D2 cells slots Qe ad N T I J Q tgt lv (st)) (kf : ¬ x = 0 → GG p l e R s m args below meth c nL A D D2 cells slots Qe ad N T I J Q (pc + 3) lv (st)) : GG p l e R s m args below meth c nL A D D2 cells slots Qe ad N T I J Q pc lv (.int x :: st) := fun H locs ls hW hA hS hl => lv_if_eq C.1 C.2.1 hdg ht (fun h => kt h H locs ls hW hA hS hl) (fun h => kf h H locs ls hW hA hS hl)
theorem g_icmp_eq (C : CX p s m args meth c cc nL own A D D2) {x y : Int32} {off : Int} {tgt : Nat} (hdg : decode cc pc = .ok (.if_icmp .eq off, 3)) (ht : (pc : Int) + off = (tgt : Int)) (kt : x = y → GG p l e R s m args below meth c nL A D D2 cells slots Qe ad N T I J Q tgt lv (st)) (kf : ¬ x = y → GG p l e R s m args below meth c nL A D D2 cells slots Qe ad N T I J Q (pc + 3) lv (st)) : GG p l e R s m args below meth c nL A D D2 cells slots Qe ad N T I J Q pc lv (.int y :: .int x :: st) := fun H locs ls hW hA hS hl => lv_icmp_eq C.1 C.2.1 hdg ht (fun h => kt h H locs ls hW hA hS hl) (fun h => kf h H locs ls hW hA hS hl)
theorem g_if_ne (C : CX p s m args meth c cc nL own A D D2) {x : Int32} {off : Int} {tgt : Nat} (hdg : decode cc pc = .ok (.ifCond .ne off, 3)) (ht : (pc : Int) + off = (tgt : Int)) (kt : ¬ x = 0 → GG p l e R s m args below meth c nL A D D2 cells slots Qe ad N T I J Q tgt lv (st)) (kf : x = 0 → GG p l e R s m args below meth c nL A D D2 cells slots Qe ad N T I J Q (pc + 3) lv (st)) : GG p l e R s m args below meth c nL A D D2 cells slots Qe ad N T I J Q pc lv (.int x :: st) := fun H locs ls hW hA hS hl => lv_if_ne C.1 C.2.1 hdg ht (fun h => kt h H locs ls hW hA hS hl) (fun h => kf h H locs ls hW hA hS hl)
theorem g_icmp_ne (C : CX p s m args meth c cc nL own A D D2) {x y : Int32} {off : Int} {tgt : Nat} (hdg : decode cc pc = .ok (.if_icmp .ne off, 3)) (ht : (pc : Int) + off = (tgt : Int)) (kt : ¬ x = y → GG p l e R s m args below meth c nL A D D2 cells slots Qe ad N T I J Q tgt lv (st)) (kf : x = y → GG p l e R s m args below meth c nL A D D2 cells slots Qe ad N T I J Q (pc + 3) lv (st)) : GG p l e R s m args below meth c nL A D D2 cells slots Qe ad N T I J Q pc lv (.int y :: .int x :: st) := fun H locs ls hW hA hS hl => lv_icmp_ne C.1 C.2.1 hdg ht (fun h => kt h H locs ls hW hA hS hl) (fun h => kf h H locs ls hW hA hS hl)
theorem g_if_lt (C : CX p s m args meth c cc nL own A D D2) {x : Int32} {off : Int} {tgt : Nat} (hdg : decode cc pc = .ok (.ifCond .lt off, 3)) (ht : (pc : Int) + off = (tgt : Int)) (kt : x < 0 → GG p l e R s m args below meth c nL A D D2 cells slots Qe ad N T I J Q tgt lv (st)) (kf : ¬ x < 0 → GG p l e R s m args below meth c nL A D D2 cells slots Qe ad N T I J Q (pc + 3) lv (st)) : GG p l e R s m args below meth c nL A D D2 cells slots Qe ad N T I J Q pc lv (.int x :: st) := fun H locs ls hW hA hS hl => lv_if_lt C.1 C.2.1 hdg ht (fun h => kt h H locs ls hW hA hS hl) (fun h => kf h H locs ls hW hA hS hl)
theorem g_icmp_lt (C : CX p s m args meth c cc nL own A D D2) {x y : Int32} {off : Int} {tgt : Nat} (hdg : decode cc pc = .ok (.if_icmp .lt off, 3)) (ht : (pc : Int) + off = (tgt : Int)) (kt : x < y → GG p l e R s m args below meth c nL A D D2 cells slots Qe ad N T I J Q tgt lv (st)) (kf : ¬ x < y → GG p l e R s m args below meth c nL A D D2 cells slots Qe ad N T I J Q (pc + 3) lv (st)) : GG p l e R s m args below meth c nL A D D2 cells slots Qe ad N T I J Q pc lv (.int y :: .int x :: st) := fun H locs ls hW hA hS hl => lv_icmp_lt C.1 C.2.1 hdg ht (fun h => kt h H locs ls hW hA hS hl) (fun h => kf h H locs ls hW hA hS hl)
theorem g_if_ge (C : CX p s m args meth c cc nL own A D D2) {x : Int32} {off : Int} {tgt : Nat} (hdg : decode cc pc = .ok (.ifCond .ge off, 3)) (ht : (pc : Int) + off = (tgt : Int)) (kt : 0 ≤ x → GG p l e R s m args below meth c nL A D D2 cells slots Qe ad N T I J Q tgt lv (st)) (kf : ¬ 0 ≤ x → GG p l e R s m args below meth c nL A D D2 cells slots Qe ad N T I J Q (pc + 3) lv (st)) : GG p l e R s m args below meth c nL A D D2 cells slots Qe ad N T I J Q pc lv (.int x :: st) := fun H locs ls hW hA hS hl => lv_if_ge C.1 C.2.1 hdg ht (fun h => kt h H locs ls hW hA hS hl) (fun h => kf h H locs ls hW hA hS hl)
theorem g_icmp_ge (C : CX p s m args meth c cc nL own A D D2) {x y : Int32} {off : Int} {tgt : Nat} (hdg : decode cc pc = .ok (.if_icmp .ge off, 3)) (ht : (pc : Int) + off = (tgt : Int)) (kt : y ≤ x → GG p l e R s m args below meth c nL A D D2 cells slots Qe ad N T I J Q tgt lv (st)) (kf : ¬ y ≤ x → GG p l e R s m args below meth c nL A D D2 cells slots Qe ad N T I J Q (pc + 3) lv (st)) : GG p l e R s m args below meth c nL A D D2 cells slots Qe ad N T I J Q pc lv (.int y :: .int x :: st) := fun H locs ls hW hA hS hl => lv_icmp_ge C.1 C.2.1 hdg ht (fun h => kt h H locs ls hW hA hS hl) (fun h => kf h H locs ls hW hA hS hl)
theorem g_if_gt (C : CX p s m args meth c cc nL own A D D2) {x : Int32} {off : Int} {tgt : Nat} (hdg : decode cc pc = .ok (.ifCond .gt off, 3)) (ht : (pc : Int) + off = (tgt : Int)) (kt : 0 < x → GG p l e R s m args below meth c nL A D D2 cells slots Qe ad N T I J Q tgt lv (st)) (kf : ¬ 0 < x → GG p l e R s m args below meth c nL A D D2 cells slots Qe ad N T I J Q (pc + 3) lv (st)) : GG p l e R s m args below meth c nL A D D2 cells slots Qe ad N T I J Q pc lv (.int x :: st) := fun H locs ls hW hA hS hl => lv_if_gt C.1 C.2.1 hdg ht (fun h => kt h H locs ls hW hA hS hl) (fun h => kf h H locs ls hW hA hS hl)
theorem g_icmp_gt (C : CX p s m args meth c cc nL own A D D2) {x y : Int32} {off : Int} {tgt : Nat} (hdg : decode cc pc = .ok (.if_icmp .gt off, 3)) (ht : (pc : Int) + off = (tgt : Int)) (kt : y < x → GG p l e R s m args below meth c nL A D D2 cells slots Qe ad N T I J Q tgt lv (st)) (kf : ¬ y < x → GG p l e R s m args below meth c nL A D D2 cells slots Qe ad N T I J Q (pc + 3) lv (st)) : GG p l e R s m args below meth c nL A D D2 cells slots Qe ad N T I J Q pc lv (.int y :: .int x :: st) := fun H locs ls hW hA hS hl => lv_icmp_gt C.1 C.2.1 hdg ht (fun h => kt h H locs ls hW hA hS hl) (fun h => kf h H locs ls hW hA hS hl)
theorem g_if_le (C : CX p s m args meth c cc nL own A D D2) {x : Int32} {off : Int} {tgt : Nat} (hdg : decode cc pc = .ok (.ifCond .le off, 3)) (ht : (pc : Int) + off = (tgt : Int)) (kt : x ≤ 0 → GG p l e R s m args below meth c nL A D D2 cells slots Qe ad N T I J Q tgt lv (st)) (kf : ¬ x ≤ 0 → GG p l e R s m args below meth c nL A D D2 cells slots Qe ad N T I J Q (pc + 3) lv (st)) : GG p l e R s m args below meth c nL A D D2 cells slots Qe ad N T I J Q pc lv (.int x :: st) := fun H locs ls hW hA hS hl => lv_if_le C.1 C.2.1 hdg ht (fun h => kt h H locs ls hW hA hS hl) (fun h => kf h H locs ls hW hA hS hl)
theorem g_icmp_le (C : CX p s m args meth c cc nL own A D D2) {x y : Int32} {off : Int} {tgt : Nat} (hdg : decode cc pc = .ok (.if_icmp .le off, 3)) (ht : (pc : Int) + off = (tgt : Int)) (kt : x ≤ y → GG p l e R s m args below meth c nL A D D2 cells slots Qe ad N T I J Q tgt lv (st)) (kf : ¬ x ≤ y → GG p l e R s m args below meth c nL A D D2 cells slots Qe ad N T I J Q (pc + 3) lv (st)) : GG p l e R s m args below meth c nL A D D2 cells slots Qe ad N T I J Q pc lv (.int y :: .int x :: st) := fun H locs ls hW hA hS hl => lv_icmp_le C.1 C.2.1 hdg ht (fun h => kt h H locs ls hW hA hS hl) (fun h => kf h H locs ls hW hA hS hl)
theorem g_goto (C : CX p s m args meth c cc nL own A D D2) {off : Int} {tgt : Nat} (hdg : decode cc pc = .ok (.goto off, 3)) (ht : (pc : Int) + off = (tgt : Int)) (k : GG p l e R s m args below meth c nL A D D2 cells slots Qe ad N T I J Q tgt lv (st)) : GG p l e R s m args below meth c nL A D D2 cells slots Qe ad N T I J Q pc lv (st) := fun H locs ls hW hA hS hl => lv_goto C.1 C.2.1 hdg ht (k H locs ls hW hA hS hl)
theorem g_tableIn (C : CX p s m args meth c cc nL own A D D2) {dflt lo hi : Int} {offs : Array Int} {len : Nat} {x : Int32} {off : Int} {tgt : Nat} (hdg : decode cc pc = .ok (.tableswitch dflt lo hi offs, len)) (h1 : ¬ x.toInt < lo) (h2 : ¬ hi < x.toInt) (ho : offs[(x.toInt - lo).toNat]? = some off) (ht : (pc : Int) + off = (tgt : Int)) (k : GG p l e R s m args below meth c nL A D D2 cells slots Qe ad N T I J Q tgt lv (st)) : GG p l e R s m args below meth c nL A D D2 cells slots Qe ad N T I J Q pc lv (.int x :: st) := fun H locs ls hW hA hS hl => lv_tableIn C.1 C.2.1 hdg h1 h2 ho ht (k H locs ls hW hA hS hl)
theorem g_tableOut (C : CX p s m args meth c cc nL own A D D2) {dflt lo hi : Int} {offs : Array Int} {len : Nat} {x : Int32} {tgt : Nat} (hdg : decode cc pc = .ok (.tableswitch dflt lo hi offs, len)) (h : x.toInt < lo ∨ hi < x.toInt) (ht : (pc : Int) + dflt = (tgt : Int)) (k : GG p l e R s m args below meth c nL A D D2 cells slots Qe ad N T I J Q tgt lv (st)) : GG p l e R s m args below meth c nL A D D2 cells slots Qe ad N T I J Q pc lv (.int x :: st) := fun H locs ls hW hA hS hl => lv_tableOut C.1 C.2.1 hdg h ht (k H locs ls hW hA hS hl)
theorem g_lookup (C : CX p s m args meth c cc nL own A D D2) {dflt : Int} {ps : Array (Int × Int)} {len : Nat} {x : Int32} {off : Int} {tgt : Nat} (hdg : decode cc pc = .ok (.lookupswitch dflt ps, len)) (hp : (ps.toList.zip (ps.toList.drop 1)).all (fun (a, next) => a.1 < next.1) = true) (ho : Op.lookupswitch.offset ps.toList dflt x.toInt = off) (ht : (pc : Int) + off = (tgt : Int)) (k : GG p l e R s m args below meth c nL A D D2 cells slots Qe ad N T I J Q tgt lv (st)) : GG p l e R s m args below meth c nL A D D2 cells slots Qe ad N T I J Q pc lv (.int x :: st) := fun H locs ls hW hA hS hl => lv_lookup C.1 C.2.1 hdg hp ho ht (k H locs ls hW hA hS hl)
theorem g_lcmp (C : CX p s m args meth c cc nL own A D D2) {x y : Int64} (hdg : decode cc pc = .ok (.lcmp, 1)) (k : GG p l e R s m args below meth c nL A D D2 cells slots Qe ad N T I J Q (pc + 1) lv (.int (lg_cmp x y) :: st)) : GG p l e R s m args below meth c nL A D D2 cells slots Qe ad N T I J Q pc lv (.long y :: .long x :: st) := fun H locs ls hW hA hS hl => W.lcmp C.1 C.2.1 hdg (k H locs ls hW hA hS hl)
theorem g_getI (C : CX p s m args meth c cc nL own A D D2) {index ci j k n0 : Nat} (hdg : decode cc pc = .ok (.getfield index, 3)) (hL : Lf own index ci j 0) (hz : OKr Z N T k (ci, n0)) (kk : GG p l e R s m args below meth c nL A D D2 cells slots Qe ad N T I J Q (pc + 3) lv (.int (I k j) :: st)) : GG p l e R s m args below meth c nL A D D2 cells slots Qe ad N T I J Q pc lv (.ref (ad k) :: st) := by
  intro H locs ls hW hA hS hl
  obtain ⟨C9, T9, n9, h1, hci, h2, h3, h4, h5, h6, h7⟩ := hL
  have he : (wl D2 ad N T I J Q)[k]? = some (ad k, .inr (ci, fl ad (I k) (J k) (Q k) (fk ci) 0)) := by
    rw [wl_at hz.2.1, hz.2.2]; simp [en, hci]
  have hv : (fl ad (I k) (J k) (Q k) (fk ci) 0)[j]? = some (.int (I k j)) := by
    rw [fl_get, h4]; simp [fv]
  have hlk := Lf.lk (index := index) (ci := ci) (j := j) (t := 0) C.2.2.2.2.1 C.2.2.2.2.2.1 h7
  rcases hlk with hlk | ⟨h8, hlk⟩
  · exact va_get C.1 C.2.1 C.2.2.2.2.1 h2 C.2.2.2.1 C.2.2.2.2.2.1.1 hW k he h1 j h3 hlk (by rw [h6]; exact fun _ h => h) hv hdg (kk H locs ls hW hA hS hl)
  · exact va_getN C.1 C.2.1 C.2.2.2.2.1 h2 C.2.2.2.1 C.2.2.2.2.2.1.1 hW k he h1 j h3 hlk (by rw [h6]; exact fun _ h => h) hv hdg (kk H locs ls hW hA hS hl)
theorem g_getJ (C : CX p s m args meth c cc nL own A D D2) {index ci j k n0 : Nat} (hdg : decode cc pc = .ok (.getfield index, 3)) (hL : Lf own index ci j 1) (hz : OKr Z N T k (ci, n0)) (kk : GG p l e R s m args below meth c nL A D D2 cells slots Qe ad N T I J Q (pc + 3) lv (.long (J k j) :: st)) : GG p l e R s m args below meth c nL A D D2 cells slots Qe ad N T I J Q pc lv (.ref (ad k) :: st) := by
  intro H locs ls hW hA hS hl
  obtain ⟨C9, T9, n9, h1, hci, h2, h3, h4, h5, h6, h7⟩ := hL
  have he : (wl D2 ad N T I J Q)[k]? = some (ad k, .inr (ci, fl ad (I k) (J k) (Q k) (fk ci) 0)) := by
    rw [wl_at hz.2.1, hz.2.2]; simp [en, hci]
  have hv : (fl ad (I k) (J k) (Q k) (fk ci) 0)[j]? = some (.long (J k j)) := by
    rw [fl_get, h4]; simp [fv]
  have hlk := Lf.lk (index := index) (ci := ci) (j := j) (t := 1) C.2.2.2.2.1 C.2.2.2.2.2.1 h7
  rcases hlk with hlk | ⟨h8, hlk⟩
  · exact va_get C.1 C.2.1 C.2.2.2.2.1 h2 C.2.2.2.1 C.2.2.2.2.2.1.1 hW k he h1 j h3 hlk (by rw [h6]; exact fun _ h => h) hv hdg (kk H locs ls hW hA hS hl)
  · exact va_getN C.1 C.2.1 C.2.2.2.2.1 h2 C.2.2.2.1 C.2.2.2.2.2.1.1 hW k he h1 j h3 hlk (by rw [h6]; exact fun _ h => h) hv hdg (kk H locs ls hW hA hS hl)
theorem g_getQ (C : CX p s m args meth c cc nL own A D D2) {index ci j k n0 : Nat} (hdg : decode cc pc = .ok (.getfield index, 3)) (hL : Lf own index ci j 2) (hz : OKr Z N T k (ci, n0)) (hq : Q k j = some (rq Q k j)) (kk : GG p l e R s m args below meth c nL A D D2 cells slots Qe ad N T I J Q (pc + 3) lv (.ref (ad (rq Q k j)) :: st)) : GG p l e R s m args below meth c nL A D D2 cells slots Qe ad N T I J Q pc lv (.ref (ad k) :: st) := by
  intro H locs ls hW hA hS hl
  obtain ⟨C9, T9, n9, h1, hci, h2, h3, h4, h5, h6, h7⟩ := hL
  have he : (wl D2 ad N T I J Q)[k]? = some (ad k, .inr (ci, fl ad (I k) (J k) (Q k) (fk ci) 0)) := by
    rw [wl_at hz.2.1, hz.2.2]; simp [en, hci]
  have hv : (fl ad (I k) (J k) (Q k) (fk ci) 0)[j]? = some (.ref (ad (rq Q k j))) := by
    rw [fl_get, h4]; simp [fv, hq, va_rf]
  have hlk := Lf.lk (index := index) (ci := ci) (j := j) (t := 2) C.2.2.2.2.1 C.2.2.2.2.2.1 h7
  rcases hlk with hlk | ⟨h8, hlk⟩
  · exact va_get C.1 C.2.1 C.2.2.2.2.1 h2 C.2.2.2.1 C.2.2.2.2.2.1.1 hW k he h1 j h3 hlk (by rw [h6]; exact fun _ h => h) hv hdg (kk H locs ls hW hA hS hl)
  · exact va_getN C.1 C.2.1 C.2.2.2.2.1 h2 C.2.2.2.1 C.2.2.2.2.2.1.1 hW k he h1 j h3 hlk (by rw [h6]; exact fun _ h => h) hv hdg (kk H locs ls hW hA hS hl)
theorem g_putI (C : CX p s m args meth c cc nL own A D D2) {index ci j k n0 : Nat} {x : Int32} (hdg : decode cc pc = .ok (.putfield index, 3)) (hL : Lp own index ci j 0 .int false) (hz : OKr Z N T k (ci, n0)) (kk : GG p l e R s m args below meth c nL A D D2 cells slots Qe ad N T (sti I k j x) J Q (pc + 3) lv (st)) : GG p l e R s m args below meth c nL A D D2 cells slots Qe ad N T I J Q pc lv (.int x :: .ref (ad k) :: st) := by
  intro H locs ls hW hA hS hl
  obtain ⟨C9, T9, n9, ty9, h1, hci, h2, h3, h4, h5, h6, h7, h9, h10, h11, h12, h13⟩ := hL
  have he : (wl D2 ad N T I J Q)[k]? = some (ad k, .inr (ci, fl ad (I k) (J k) (Q k) (fk ci) 0)) := by
    rw [wl_at hz.2.1, hz.2.2]; simp [en, hci]
  have hs : (fl ad (I k) (J k) (Q k) (fk ci) 0).set j (.int x) = fl ad ((sti I k j x) k) (J k) (Q k) (fk ci) 0 := by
    refine fl_set h4 ?_ ?_ ?_ ?_
    · simp [fv, sti, stj, upk, upd, vp_updL, va_up, va_rf]
    all_goals (intro i hi; simp [sti, stj, upk, upd, vp_updL, va_up, hi])
  have hw2 : (wl D2 ad N T I J Q).set k (ad k, .inr (ci, (fl ad (I k) (J k) (Q k) (fk ci) 0).set j (.int x))) = wl D2 ad N T (sti I k j x) J Q := by
    rw [hs]
    refine wl_set hz.2.1 (by rw [hz.2.2]; simp [en, hci]) ?_ ?_ ?_
    all_goals (intro i hi; simp [sti, stj, stq, cpi, cpj, upk, hi])
  have hll : j < (fl ad (I k) (J k) (Q k) (fk ci) 0).length := by rw [fl_len, h5]; exact h3
  have hlk := Lf.lk (index := index) (ci := ci) (j := j) (t := 0) C.2.2.2.2.1 C.2.2.2.2.2.1 h7
  rcases hlk with hlk | ⟨h8, hlk⟩
  · refine va_put C.1 C.2.1 C.2.2.2.2.1 h2 ty9 h9 h10 C.2.2.2.1 C.2.2.2.2.2.1.1 hW (hA.D D2 T I J Q) hS k he h1 j h3 hlk (by rw [h6]; exact fun _ h => h) h11 h12 rfl rfl hll hdg (fun H1 locs1 a1 a2 a3 => ?_)
    rw [hw2] at a1
    exact kk H1 locs1 ls a1 hA a3 hl
  · refine va_putN C.1 C.2.1 C.2.2.2.2.1 h2 ty9 h9 h10 C.2.2.2.1 C.2.2.2.2.2.1.1 hW (hA.D D2 T I J Q) hS k he h1 j h3 hlk (by rw [h6]; exact fun _ h => h) h11 h12 rfl rfl hll hdg (fun H1 locs1 a1 a2 a3 => ?_)
    rw [hw2] at a1
    exact kk H1 locs1 ls a1 hA a3 hl
theorem g_putZ (C : CX p s m args meth c cc nL own A D D2) {index ci j k n0 : Nat} {x : Int32} (hdg : decode cc pc = .ok (.putfield index, 3)) (hL : Lp own index ci j 0 .boolean false) (hz : OKr Z N T k (ci, n0)) (hx : narrow .boolean (.int x) = .int x) (hx2 : fits .boolean (.int x) = true) (kk : GG p l e R s m args below meth c nL A D D2 cells slots Qe ad N T (sti I k j x) J Q (pc + 3) lv (st)) : GG p l e R s m args below meth c nL A D D2 cells slots Qe ad N T I J Q pc lv (.int x :: .ref (ad k) :: st) := by
  intro H locs ls hW hA hS hl
  obtain ⟨C9, T9, n9, ty9, h1, hci, h2, h3, h4, h5, h6, h7, h9, h10, h11, h12, h13⟩ := hL
  have he : (wl D2 ad N T I J Q)[k]? = some (ad k, .inr (ci, fl ad (I k) (J k) (Q k) (fk ci) 0)) := by
    rw [wl_at hz.2.1, hz.2.2]; simp [en, hci]
  have hs : (fl ad (I k) (J k) (Q k) (fk ci) 0).set j (.int x) = fl ad ((sti I k j x) k) (J k) (Q k) (fk ci) 0 := by
    refine fl_set h4 ?_ ?_ ?_ ?_
    · simp [fv, sti, stj, upk, upd, vp_updL, va_up, va_rf]
    all_goals (intro i hi; simp [sti, stj, upk, upd, vp_updL, va_up, hi])
  have hw2 : (wl D2 ad N T I J Q).set k (ad k, .inr (ci, (fl ad (I k) (J k) (Q k) (fk ci) 0).set j (.int x))) = wl D2 ad N T (sti I k j x) J Q := by
    rw [hs]
    refine wl_set hz.2.1 (by rw [hz.2.2]; simp [en, hci]) ?_ ?_ ?_
    all_goals (intro i hi; simp [sti, stj, stq, cpi, cpj, upk, hi])
  have hll : j < (fl ad (I k) (J k) (Q k) (fk ci) 0).length := by rw [fl_len, h5]; exact h3
  have hlk := Lf.lk (index := index) (ci := ci) (j := j) (t := 0) C.2.2.2.2.1 C.2.2.2.2.2.1 h7
  rcases hlk with hlk | ⟨h8, hlk⟩
  · refine va_put C.1 C.2.1 C.2.2.2.2.1 h2 ty9 h9 h10 C.2.2.2.1 C.2.2.2.2.2.1.1 hW (hA.D D2 T I J Q) hS k he h1 j h3 hlk (by rw [h6]; exact fun _ h => h) h11 h12 hx hx2 hll hdg (fun H1 locs1 a1 a2 a3 => ?_)
    rw [hw2] at a1
    exact kk H1 locs1 ls a1 hA a3 hl
  · refine va_putN C.1 C.2.1 C.2.2.2.2.1 h2 ty9 h9 h10 C.2.2.2.1 C.2.2.2.2.2.1.1 hW (hA.D D2 T I J Q) hS k he h1 j h3 hlk (by rw [h6]; exact fun _ h => h) h11 h12 hx hx2 hll hdg (fun H1 locs1 a1 a2 a3 => ?_)
    rw [hw2] at a1
    exact kk H1 locs1 ls a1 hA a3 hl
theorem g_putJ (C : CX p s m args meth c cc nL own A D D2) {index ci j k n0 : Nat} {x : Int64} (hdg : decode cc pc = .ok (.putfield index, 3)) (hL : Lp own index ci j 1 .long false) (hz : OKr Z N T k (ci, n0)) (kk : GG p l e R s m args below meth c nL A D D2 cells slots Qe ad N T I (stj J k j x) Q (pc + 3) lv (st)) : GG p l e R s m args below meth c nL A D D2 cells slots Qe ad N T I J Q pc lv (.long x :: .ref (ad k) :: st) := by
  intro H locs ls hW hA hS hl
  obtain ⟨C9, T9, n9, ty9, h1, hci, h2, h3, h4, h5, h6, h7, h9, h10, h11, h12, h13⟩ := hL
  have he : (wl D2 ad N T I J Q)[k]? = some (ad k, .inr (ci, fl ad (I k) (J k) (Q k) (fk ci) 0)) := by
    rw [wl_at hz.2.1, hz.2.2]; simp [en, hci]
  have hs : (fl ad (I k) (J k) (Q k) (fk ci) 0).set j (.long x) = fl ad (I k) ((stj J k j x) k) (Q k) (fk ci) 0 := by
    refine fl_set h4 ?_ ?_ ?_ ?_
    · simp [fv, sti, stj, upk, upd, vp_updL, va_up, va_rf]
    all_goals (intro i hi; simp [sti, stj, upk, upd, vp_updL, va_up, hi])
  have hw2 : (wl D2 ad N T I J Q).set k (ad k, .inr (ci, (fl ad (I k) (J k) (Q k) (fk ci) 0).set j (.long x))) = wl D2 ad N T I (stj J k j x) Q := by
    rw [hs]
    refine wl_set hz.2.1 (by rw [hz.2.2]; simp [en, hci]) ?_ ?_ ?_
    all_goals (intro i hi; simp [sti, stj, stq, cpi, cpj, upk, hi])
  have hll : j < (fl ad (I k) (J k) (Q k) (fk ci) 0).length := by rw [fl_len, h5]; exact h3
  have hlk := Lf.lk (index := index) (ci := ci) (j := j) (t := 1) C.2.2.2.2.1 C.2.2.2.2.2.1 h7
  rcases hlk with hlk | ⟨h8, hlk⟩
  · refine va_put C.1 C.2.1 C.2.2.2.2.1 h2 ty9 h9 h10 C.2.2.2.1 C.2.2.2.2.2.1.1 hW (hA.D D2 T I J Q) hS k he h1 j h3 hlk (by rw [h6]; exact fun _ h => h) h11 h12 rfl rfl hll hdg (fun H1 locs1 a1 a2 a3 => ?_)
    rw [hw2] at a1
    exact kk H1 locs1 ls a1 hA a3 hl
  · refine va_putN C.1 C.2.1 C.2.2.2.2.1 h2 ty9 h9 h10 C.2.2.2.1 C.2.2.2.2.2.1.1 hW (hA.D D2 T I J Q) hS k he h1 j h3 hlk (by rw [h6]; exact fun _ h => h) h11 h12 rfl rfl hll hdg (fun H1 locs1 a1 a2 a3 => ?_)
    rw [hw2] at a1
    exact kk H1 locs1 ls a1 hA a3 hl
theorem g_iald (C : CX p s m args meth c cc nL own A D D2) {k n : Nat} {i : Int32} (hdg : decode cc pc = .ok (.iaload, 1)) (hz : OKr Z N T k (20, n)) (hin : vp_in i n) (kk : GG p l e R s m args below meth c nL A D D2 cells slots Qe ad N T I J Q (pc + 1) lv (.int (I k i.toNatClampNeg) :: st)) : GG p l e R s m args below meth c nL A D D2 cells slots Qe ad N T I J Q pc lv (.int i :: .ref (ad k) :: st) := by
  intro H locs ls hW hA hS hl
  have he : (wl D2 ad N T I J Q)[k]? = some (ad k, .inl (D2 20, n, .inl (I k))) := by
    rw [wl_at hz.2.1, hz.2.2]; rfl
  exact va_iald C.1 C.2.1 C.2.2.2.2.2.1.1 hW k 0 he rfl hin hdg (kk H locs ls hW hA hS hl)
theorem g_zald (C : CX p s m args meth c cc nL own A D D2) {k n : Nat} {i : Int32} (hdg : decode cc pc = .ok (.baload, 1)) (hz : OKr Z N T k (21, n)) (hin : vp_in i n) (kk : GG p l e R s m args below meth c nL A D D2 cells slots Qe ad N T I J Q (pc + 1) lv (.int (I k i.toNatClampNeg) :: st)) : GG p l e R s m args below meth c nL A D D2 cells slots Qe ad N T I J Q pc lv (.int i :: .ref (ad k) :: st) := by
  intro H locs ls hW hA hS hl
  have he : (wl D2 ad N T I J Q)[k]? = some (ad k, .inl (D2 21, n, .inl (I k))) := by
    rw [wl_at hz.2.1, hz.2.2]; rfl
  exact va_zald C.1 C.2.1 C.2.2.2.2.2.1.1 hW k 1 he rfl hin hdg (kk H locs ls hW hA hS hl)
theorem g_cald (C : CX p s m args meth c cc nL own A D D2) {k n : Nat} {i : Int32} (hdg : decode cc pc = .ok (.caload, 1)) (hz : OKr Z N T k (22, n)) (hin : vp_in i n) (kk : GG p l e R s m args below meth c nL A D D2 cells slots Qe ad N T I J Q (pc + 1) lv (.int (I k i.toNatClampNeg) :: st)) : GG p l e R s m args below meth c nL A D D2 cells slots Qe ad N T I J Q pc lv (.int i :: .ref (ad k) :: st) := by
  intro H locs ls hW hA hS hl
  have he : (wl D2 ad N T I J Q)[k]? = some (ad k, .inl (D2 22, n, .inl (I k))) := by
    rw [wl_at hz.2.1, hz.2.2]; rfl
  exact va_cald C.1 C.2.1 C.2.2.2.2.2.1.1 hW k 2 he rfl hin hdg (kk H locs ls hW hA hS hl)
theorem g_lald (C : CX p s m args meth c cc nL own A D D2) {k n : Nat} {i : Int32} (hdg : decode cc pc = .ok (.laload, 1)) (hz : OKr Z N T k (23, n)) (hin : vp_in i n) (kk : GG p l e R s m args below meth c nL A D D2 cells slots Qe ad N T I J Q (pc + 1) lv (.long (J k i.toNatClampNeg) :: st)) : GG p l e R s m args below meth c nL A D D2 cells slots Qe ad N T I J Q pc lv (.int i :: .ref (ad k) :: st) := by
  intro H locs ls hW hA hS hl
  have he : (wl D2 ad N T I J Q)[k]? = some (ad k, .inl (D2 23, n, .inr (.inl (J k)))) := by
    rw [wl_at hz.2.1, hz.2.2]; rfl
  exact va_lald C.1 C.2.1 C.2.2.2.2.2.1.1 hW k 3 he rfl hin hdg (kk H locs ls hW hA hS hl)
theorem g_iast (C : CX p s m args meth c cc nL own A D D2) {k n : Nat} {i : Int32} {x : Int32} (hdg : decode cc pc = .ok (.iastore, 1)) (hz : OKr Z N T k (20, n)) (hin : vp_in i n) (kk : GG p l e R s m args below meth c nL A D D2 cells slots Qe ad N T (sti I k i.toNatClampNeg x) J Q (pc + 1) lv (st)) : GG p l e R s m args below meth c nL A D D2 cells slots Qe ad N T I J Q pc lv (.int x :: .int i :: .ref (ad k) :: st) := by
  intro H locs ls hW hA hS hl
  have he : (wl D2 ad N T I J Q)[k]? = some (ad k, .inl (D2 20, n, .inl (I k))) := by
    rw [wl_at hz.2.1, hz.2.2]; rfl
  have hw2 : (wl D2 ad N T I J Q).set k (ad k, .inl (D2 20, n, .inl (upd (I k) i.toNatClampNeg x))) = wl D2 ad N T (sti I k i.toNatClampNeg x) J Q := by
    refine wl_set hz.2.1 (by rw [hz.2.2]; simp [en, el, sti, stj, stq, cpi, cpj, upk]) ?_ ?_ ?_
    all_goals (intro i hi; simp [sti, stj, stq, cpi, cpj, upk, hi])
  refine va_iast C.1 C.2.1 C.2.2.2.2.2.1.1 hW (hA.D D2 T I J Q) hS k 0 he rfl hin hdg (fun H1 locs1 a1 a2 a3 => ?_)
  rw [hw2] at a1
  exact kk H1 locs1 ls a1 hA a3 hl
theorem g_zast (C : CX p s m args meth c cc nL own A D D2) {k n : Nat} {i : Int32} {x : Int32} (hdg : decode cc pc = .ok (.bastore, 1)) (hz : OKr Z N T k (21, n)) (hin : vp_in i n) (kk : GG p l e R s m args below meth c nL A D D2 cells slots Qe ad N T (sti I k i.toNatClampNeg (vp_nar .boolean x)) J Q (pc + 1) lv (st)) : GG p l e R s m args below meth c nL A D D2 cells slots Qe ad N T I J Q pc lv (.int x :: .int i :: .ref (ad k) :: st) := by
  intro H locs ls hW hA hS hl
  have he : (wl D2 ad N T I J Q)[k]? = some (ad k, .inl (D2 21, n, .inl (I k))) := by
    rw [wl_at hz.2.1, hz.2.2]; rfl
  have hw2 : (wl D2 ad N T I J Q).set k (ad k, .inl (D2 21, n, .inl (upd (I k) i.toNatClampNeg (vp_nar .boolean x)))) = wl D2 ad N T (sti I k i.toNatClampNeg (vp_nar .boolean x)) J Q := by
    refine wl_set hz.2.1 (by rw [hz.2.2]; simp [en, el, sti, stj, stq, cpi, cpj, upk]) ?_ ?_ ?_
    all_goals (intro i hi; simp [sti, stj, stq, cpi, cpj, upk, hi])
  refine va_zast C.1 C.2.1 C.2.2.2.2.2.1.1 hW (hA.D D2 T I J Q) hS k 1 he rfl hin hdg (fun H1 locs1 a1 a2 a3 => ?_)
  rw [hw2] at a1
  exact kk H1 locs1 ls a1 hA a3 hl
theorem g_cast (C : CX p s m args meth c cc nL own A D D2) {k n : Nat} {i : Int32} {x : Int32} (hdg : decode cc pc = .ok (.castore, 1)) (hz : OKr Z N T k (22, n)) (hin : vp_in i n) (kk : GG p l e R s m args below meth c nL A D D2 cells slots Qe ad N T (sti I k i.toNatClampNeg (vp_nar .char x)) J Q (pc + 1) lv (st)) : GG p l e R s m args below meth c nL A D D2 cells slots Qe ad N T I J Q pc lv (.int x :: .int i :: .ref (ad k) :: st) := by
  intro H locs ls hW hA hS hl
  have he : (wl D2 ad N T I J Q)[k]? = some (ad k, .inl (D2 22, n, .inl (I k))) := by
    rw [wl_at hz.2.1, hz.2.2]; rfl
  have hw2 : (wl D2 ad N T I J Q).set k (ad k, .inl (D2 22, n, .inl (upd (I k) i.toNatClampNeg (vp_nar .char x)))) = wl D2 ad N T (sti I k i.toNatClampNeg (vp_nar .char x)) J Q := by
    refine wl_set hz.2.1 (by rw [hz.2.2]; simp [en, el, sti, stj, stq, cpi, cpj, upk]) ?_ ?_ ?_
    all_goals (intro i hi; simp [sti, stj, stq, cpi, cpj, upk, hi])
  refine va_cast C.1 C.2.1 C.2.2.2.2.2.1.1 hW (hA.D D2 T I J Q) hS k 2 he rfl hin hdg (fun H1 locs1 a1 a2 a3 => ?_)
  rw [hw2] at a1
  exact kk H1 locs1 ls a1 hA a3 hl
theorem g_last (C : CX p s m args meth c cc nL own A D D2) {k n : Nat} {i : Int32} {x : Int64} (hdg : decode cc pc = .ok (.lastore, 1)) (hz : OKr Z N T k (23, n)) (hin : vp_in i n) (kk : GG p l e R s m args below meth c nL A D D2 cells slots Qe ad N T I (stj J k i.toNatClampNeg x) Q (pc + 1) lv (st)) : GG p l e R s m args below meth c nL A D D2 cells slots Qe ad N T I J Q pc lv (.long x :: .int i :: .ref (ad k) :: st) := by
  intro H locs ls hW hA hS hl
  have he : (wl D2 ad N T I J Q)[k]? = some (ad k, .inl (D2 23, n, .inr (.inl (J k)))) := by
    rw [wl_at hz.2.1, hz.2.2]; rfl
  have hw2 : (wl D2 ad N T I J Q).set k (ad k, .inl (D2 23, n, .inr (.inl (vp_updL (J k) i.toNatClampNeg x)))) = wl D2 ad N T I (stj J k i.toNatClampNeg x) Q := by
    refine wl_set hz.2.1 (by rw [hz.2.2]; simp [en, el, sti, stj, stq, cpi, cpj, upk]) ?_ ?_ ?_
    all_goals (intro i hi; simp [sti, stj, stq, cpi, cpj, upk, hi])
  refine va_last C.1 C.2.1 C.2.2.2.2.2.1.1 hW (hA.D D2 T I J Q) hS k 3 he rfl hin hdg (fun H1 locs1 a1 a2 a3 => ?_)
  rw [hw2] at a1
  exact kk H1 locs1 ls a1 hA a3 hl
theorem g_aaldS (C : CX p s m args meth c cc nL own A D D2) {k n : Nat} {i : Int32} (hdg : decode cc pc = .ok (.aaload, 1)) (hz : OKr Z N T k (24, n)) (hin : vp_in i n) (hq : Q k i.toNatClampNeg = some (rq Q k i.toNatClampNeg)) (kk : GG p l e R s m args below meth c nL A D D2 cells slots Qe ad N T I J Q (pc + 1) lv (.ref (ad (rq Q k i.toNatClampNeg)) :: st)) : GG p l e R s m args below meth c nL A D D2 cells slots Qe ad N T I J Q pc lv (.int i :: .ref (ad k) :: st) := by
  intro H locs ls hW hA hS hl
  have he : (wl D2 ad N T I J Q)[k]? = some (ad k, .inl (D2 24, n, .inr (.inr (.inr (.inr (fun j => (Q k j).map ad)))))) := by
    rw [wl_at hz.2.1, hz.2.2]; rfl
  refine va_aldq C.1 C.2.1 C.2.2.2.2.2.1.1 hW k 4 he rfl hin hdg ?_
  rw [show va_rf ((fun j => (Q k j).map ad) i.toNatClampNeg) = .ref (ad (rq Q k i.toNatClampNeg)) by simp only [hq]; rfl]
  exact kk H locs ls hW hA hS hl
theorem g_aaldN (C : CX p s m args meth c cc nL own A D D2) {k n : Nat} {i : Int32} (hdg : decode cc pc = .ok (.aaload, 1)) (hz : OKr Z N T k (25, n)) (hin : vp_in i n) (hq : Q k i.toNatClampNeg = some (rq Q k i.toNatClampNeg)) (kk : GG p l e R s m args below meth c nL A D D2 cells slots Qe ad N T I J Q (pc + 1) lv (.ref (ad (rq Q k i.toNatClampNeg)) :: st)) : GG p l e R s m args below meth c nL A D D2 cells slots Qe ad N T I J Q pc lv (.int i :: .ref (ad k) :: st) := by
  intro H locs ls hW hA hS hl
  have he : (wl D2 ad N T I J Q)[k]? = some (ad k, .inl (D2 25, n, .inr (.inr (.inr (.inr (fun j => (Q k j).map ad)))))) := by
    rw [wl_at hz.2.1, hz.2.2]; rfl
  refine va_aldq C.1 C.2.1 C.2.2.2.2.2.1.1 hW k 5 he rfl hin hdg ?_
  rw [show va_rf ((fun j => (Q k j).map ad) i.toNatClampNeg) = .ref (ad (rq Q k i.toNatClampNeg)) by simp only [hq]; rfl]
  exact kk H locs ls hW hA hS hl
theorem g_aaldR (C : CX p s m args meth c cc nL own A D D2) {k n : Nat} {i : Int32} (hdg : decode cc pc = .ok (.aaload, 1)) (hz : OKr Z N T k (26, n)) (hin : vp_in i n) (hq : Q k i.toNatClampNeg = some (rq Q k i.toNatClampNeg)) (kk : GG p l e R s m args below meth c nL A D D2 cells slots Qe ad N T I J Q (pc + 1) lv (.ref (ad (rq Q k i.toNatClampNeg)) :: st)) : GG p l e R s m args below meth c nL A D D2 cells slots Qe ad N T I J Q pc lv (.int i :: .ref (ad k) :: st) := by
  intro H locs ls hW hA hS hl
  have he : (wl D2 ad N T I J Q)[k]? = some (ad k, .inl (D2 26, n, .inr (.inr (.inr (.inr (fun j => (Q k j).map ad)))))) := by
    rw [wl_at hz.2.1, hz.2.2]; rfl
  refine va_aldq C.1 C.2.1 C.2.2.2.2.2.1.1 hW k 6 he rfl hin hdg ?_
  rw [show va_rf ((fun j => (Q k j).map ad) i.toNatClampNeg) = .ref (ad (rq Q k i.toNatClampNeg)) by simp only [hq]; rfl]
  exact kk H locs ls hW hA hS hl
theorem g_aastS (C : CX p s m args meth c cc nL own A D D2) {k n k1 : Nat} {i : Int32} (hdg : decode cc pc = .ok (.aastore, 1)) (hz : OKr Z N T k (24, n)) (hz1 : OKr Z N T k1 (7, 0)) (hin : vp_in i n) (kk : GG p l e R s m args below meth c nL A D D2 cells slots Qe ad N T I J (stq Q k i.toNatClampNeg k1) (pc + 1) lv (st)) : GG p l e R s m args below meth c nL A D D2 cells slots Qe ad N T I J Q pc lv (.ref (ad k1) :: .int i :: .ref (ad k) :: st) := by
  intro H locs ls hW hA hS hl
  have he : (wl D2 ad N T I J Q)[k]? = some (ad k, .inl (D2 24, n, .inr (.inr (.inr (.inr (fun j => (Q k j).map ad)))))) := by
    rw [wl_at hz.2.1, hz.2.2]; rfl
  have he1 : (wl D2 ad N T I J Q)[k1]? = some (ad k1, .inr (7, fl ad (I k1) (J k1) (Q k1) (fk 7) 0)) := by
    rw [wl_at hz1.2.1, hz1.2.2]; rfl
  have hf : va_up (fun j => (Q k j).map ad) i.toNatClampNeg (some (ad k1)) = fun j => (va_up (Q k) i.toNatClampNeg (some k1) j).map ad := by
    funext j
    by_cases hj : j = i.toNatClampNeg <;> simp [va_up, hj]
  have hw2 : (wl D2 ad N T I J Q).set k (ad k, .inl (D2 24, n, .inr (.inr (.inr (.inr (va_up (fun j => (Q k j).map ad) i.toNatClampNeg (some (ad k1)))))))) = wl D2 ad N T I J (stq Q k i.toNatClampNeg k1) := by
    rw [hf]
    refine wl_set hz.2.1 (by rw [hz.2.2]; simp [en, el, sti, stj, stq, cpi, cpj, upk]) ?_ ?_ ?_
    all_goals (intro i hi; simp [sti, stj, stq, cpi, cpj, upk, hi])
  refine va_astq C.1 C.2.1 C.2.2.2.2.2.1.1 hW (hA.D D2 T I J Q) hS k 4 k1 7 he rfl he1 rfl hin hdg (fun H1 locs1 a1 a2 a3 => ?_)
  rw [hw2] at a1
  exact kk H1 locs1 ls a1 hA a3 hl
theorem g_aastN (C : CX p s m args meth c cc nL own A D D2) {k n k1 : Nat} {i : Int32} (hdg : decode cc pc = .ok (.aastore, 1)) (hz : OKr Z N T k (25, n)) (hz1 : OKr Z N T k1 (1, 0)) (hin : vp_in i n) (kk : GG p l e R s m args below meth c nL A D D2 cells slots Qe ad N T I J (stq Q k i.toNatClampNeg k1) (pc + 1) lv (st)) : GG p l e R s m args below meth c nL A D D2 cells slots Qe ad N T I J Q pc lv (.ref (ad k1) :: .int i :: .ref (ad k) :: st) := by
  intro H locs ls hW hA hS hl
  have he : (wl D2 ad N T I J Q)[k]? = some (ad k, .inl (D2 25, n, .inr (.inr (.inr (.inr (fun j => (Q k j).map ad)))))) := by
    rw [wl_at hz.2.1, hz.2.2]; rfl
  have he1 : (wl D2 ad N T I J Q)[k1]? = some (ad k1, .inr (1, fl ad (I k1) (J k1) (Q k1) (fk 1) 0)) := by
    rw [wl_at hz1.2.1, hz1.2.2]; rfl
  have hf : va_up (fun j => (Q k j).map ad) i.toNatClampNeg (some (ad k1)) = fun j => (va_up (Q k) i.toNatClampNeg (some k1) j).map ad := by
    funext j
    by_cases hj : j = i.toNatClampNeg <;> simp [va_up, hj]
  have hw2 : (wl D2 ad N T I J Q).set k (ad k, .inl (D2 25, n, .inr (.inr (.inr (.inr (va_up (fun j => (Q k j).map ad) i.toNatClampNeg (some (ad k1)))))))) = wl D2 ad N T I J (stq Q k i.toNatClampNeg k1) := by
    rw [hf]
    refine wl_set hz.2.1 (by rw [hz.2.2]; simp [en, el, sti, stj, stq, cpi, cpj, upk]) ?_ ?_ ?_
    all_goals (intro i hi; simp [sti, stj, stq, cpi, cpj, upk, hi])
  refine va_astq C.1 C.2.1 C.2.2.2.2.2.1.1 hW (hA.D D2 T I J Q) hS k 5 k1 1 he rfl he1 rfl hin hdg (fun H1 locs1 a1 a2 a3 => ?_)
  rw [hw2] at a1
  exact kk H1 locs1 ls a1 hA a3 hl
theorem g_aastR (C : CX p s m args meth c cc nL own A D D2) {k n k1 : Nat} {i : Int32} (hdg : decode cc pc = .ok (.aastore, 1)) (hz : OKr Z N T k (26, n)) (hz1 : OKr Z N T k1 (6, 0)) (hin : vp_in i n) (kk : GG p l e R s m args below meth c nL A D D2 cells slots Qe ad N T I J (stq Q k i.toNatClampNeg k1) (pc + 1) lv (st)) : GG p l e R s m args below meth c nL A D D2 cells slots Qe ad N T I J Q pc lv (.ref (ad k1) :: .int i :: .ref (ad k) :: st) := by
  intro H locs ls hW hA hS hl
  have he : (wl D2 ad N T I J Q)[k]? = some (ad k, .inl (D2 26, n, .inr (.inr (.inr (.inr (fun j => (Q k j).map ad)))))) := by
    rw [wl_at hz.2.1, hz.2.2]; rfl
  have he1 : (wl D2 ad N T I J Q)[k1]? = some (ad k1, .inr (6, fl ad (I k1) (J k1) (Q k1) (fk 6) 0)) := by
    rw [wl_at hz1.2.1, hz1.2.2]; rfl
  have hf : va_up (fun j => (Q k j).map ad) i.toNatClampNeg (some (ad k1)) = fun j => (va_up (Q k) i.toNatClampNeg (some k1) j).map ad := by
    funext j
    by_cases hj : j = i.toNatClampNeg <;> simp [va_up, hj]
  have hw2 : (wl D2 ad N T I J Q).set k (ad k, .inl (D2 26, n, .inr (.inr (.inr (.inr (va_up (fun j => (Q k j).map ad) i.toNatClampNeg (some (ad k1)))))))) = wl D2 ad N T I J (stq Q k i.toNatClampNeg k1) := by
    rw [hf]
    refine wl_set hz.2.1 (by rw [hz.2.2]; simp [en, el, sti, stj, stq, cpi, cpj, upk]) ?_ ?_ ?_
    all_goals (intro i hi; simp [sti, stj, stq, cpi, cpj, upk, hi])
  refine va_astq C.1 C.2.1 C.2.2.2.2.2.1.1 hW (hA.D D2 T I J Q) hS k 6 k1 6 he rfl he1 rfl hin hdg (fun H1 locs1 a1 a2 a3 => ?_)
  rw [hw2] at a1
  exact kk H1 locs1 ls a1 hA a3 hl
theorem g_alen (C : CX p s m args meth c cc nL own A D D2) {k n t : Nat} {v : Int32} {ty : FieldType} (hdg : decode cc pc = .ok (.arraylength, 1)) (place : Nat) (hz : OKr Z N T k (t, n)) (ht : ¬ t < 20) (hp : (tyL D2)[place]? = some (D2 t, ty)) (hv : Int32.ofNat n = v) (kk : GG p l e R s m args below meth c nL A D D2 cells slots Qe ad N T I J Q (pc + 1) lv (.int v :: st)) : GG p l e R s m args below meth c nL A D D2 cells slots Qe ad N T I J Q pc lv (.ref (ad k) :: st) := by
  intro H locs ls hW hA hS hl
  have he : (wl D2 ad N T I J Q)[k]? = some (ad k, .inl (D2 t, n, el ad (I k) (J k) (Q k) t)) := by
    rw [wl_at hz.2.1, hz.2.2]; simp [en, ht]
  exact va_alen C.1 C.2.1 C.2.2.2.2.2.1.1 hW k place he hp hv hdg (kk H locs ls hW hA hS hl)
def LC (own : String) (index : Nat) : Prop := Cond.methodLink own index arraycopyName ∈ BIG ∧ Cond.native arraycopyName ∈ BIG ∧ Cond.static arraycopyName ∈ BIG ∧ Cond.initialized "java/lang/System" ∈ BIG
theorem g_copyI (C : CX p s m args meth c cc nL own A D D2) {index k0 k1 n0 n1 : Nat} {sp dp z : Int32} (hdg : decode cc pc = .ok (.invokestatic index, 3)) (hL : LC own index) (hz0 : OKr Z N T k0 (20, n0)) (hz1 : OKr Z N T k1 (20, n1)) (h1 : ¬ sp < 0) (h2 : ¬ dp < 0) (h3 : ¬ z < 0) (h4 : sp.toNatClampNeg + z.toNatClampNeg ≤ n0) (h5 : dp.toNatClampNeg + z.toNatClampNeg ≤ n1) (hframes : 1 ≤ R.frames) (hlocals : (st.map fun v => v.category).sum + (nativeFrameWords "java/lang/System" "arraycopy" 5 + 11) ≤ R.locals) (kk : GG p l e R s m args below meth c nL A D D2 cells slots Qe ad N T (cpi I k0 k1 sp.toNatClampNeg dp.toNatClampNeg z.toNatClampNeg) J Q (pc + 3) lv (st)) : GG p l e R s m args below meth c nL A D D2 cells slots Qe ad N T I J Q pc lv (.int z :: .int dp :: .ref (ad k1) :: .int sp :: .ref (ad k0) :: st) := by
  intro H locs ls hW hA hS hl
  have he0 : (wl D2 ad N T I J Q)[k0]? = some (ad k0, .inl (D2 20, n0, .inl (I k0))) := by
    rw [wl_at hz0.2.1, hz0.2.2]; rfl
  have he1 : (wl D2 ad N T I J Q)[k1]? = some (ad k1, .inl (D2 20, n1, .inl (I k1))) := by
    rw [wl_at hz1.2.1, hz1.2.2]; rfl
  have hw2 : (wl D2 ad N T I J Q).set k1 (ad k1, .inl (D2 20, n1, .inl (va_cpy (I k0) (I k1) sp.toNatClampNeg dp.toNatClampNeg z.toNatClampNeg))) = wl D2 ad N T (cpi I k0 k1 sp.toNatClampNeg dp.toNatClampNeg z.toNatClampNeg) J Q := by
    refine wl_set hz1.2.1 (by rw [hz1.2.2]; simp [en, el, sti, stj, stq, cpi, cpj, upk]) ?_ ?_ ?_
    all_goals (intro i hi; simp [sti, stj, stq, cpi, cpj, upk, hi])
  refine va_copyi C.1 C.2.1 (C.2.2.1.trans hl.1.symm) C.2.2.2.1 (C.2.2.2.2.1 _ hL.1) (C.2.2.2.2.1 _ hL.2.1) (C.2.2.2.2.1 _ hL.2.2.1) (C.2.2.2.2.1 _ hL.2.2.2) C.2.2.2.2.2.1.1 hW (hA.D D2 T I J Q) hS k0 k1 0 0 he0 he1 rfl rfl rfl h1 h2 h3 h4 h5 (fun _ _ => rfl) hframes hlocals hdg (fun H1 locs1 a1 a2 a3 => ?_)
  rw [hw2] at a1
  exact kk H1 locs1 ls a1 hA a3 hl

theorem g_copyJ (C : CX p s m args meth c cc nL own A D D2) {index k0 k1 n0 n1 : Nat} {sp dp z : Int32} (hdg : decode cc pc = .ok (.invokestatic index, 3)) (hL : LC own index) (hz0 : OKr Z N T k0 (23, n0)) (hz1 : OKr Z N T k1 (23, n1)) (h1 : ¬ sp < 0) (h2 : ¬ dp < 0) (h3 : ¬ z < 0) (h4 : sp.toNatClampNeg + z.toNatClampNeg ≤ n0) (h5 : dp.toNatClampNeg + z.toNatClampNeg ≤ n1) (hframes : 1 ≤ R.frames) (hlocals : (st.map fun v => v.category).sum + (nativeFrameWords "java/lang/System" "arraycopy" 5 + 11) ≤ R.locals) (kk : GG p l e R s m args below meth c nL A D D2 cells slots Qe ad N T I (cpj J k0 k1 sp.toNatClampNeg dp.toNatClampNeg z.toNatClampNeg) Q (pc + 3) lv (st)) : GG p l e R s m args below meth c nL A D D2 cells slots Qe ad N T I J Q pc lv (.int z :: .int dp :: .ref (ad k1) :: .int sp :: .ref (ad k0) :: st) := by
  intro H locs ls hW hA hS hl
  have he0 : (wl D2 ad N T I J Q)[k0]? = some (ad k0, .inl (D2 23, n0, .inr (.inl (J k0)))) := by
    rw [wl_at hz0.2.1, hz0.2.2]; rfl
  have he1 : (wl D2 ad N T I J Q)[k1]? = some (ad k1, .inl (D2 23, n1, .inr (.inl (J k1)))) := by
    rw [wl_at hz1.2.1, hz1.2.2]; rfl
  have hw2 : (wl D2 ad N T I J Q).set k1 (ad k1, .inl (D2 23, n1, .inr (.inl (va_cpy (J k0) (J k1) sp.toNatClampNeg dp.toNatClampNeg z.toNatClampNeg)))) = wl D2 ad N T I (cpj J k0 k1 sp.toNatClampNeg dp.toNatClampNeg z.toNatClampNeg) Q := by
    refine wl_set hz1.2.1 (by rw [hz1.2.2]; simp [en, el, sti, stj, stq, cpi, cpj, upk]) ?_ ?_ ?_
    all_goals (intro i hi; simp [sti, stj, stq, cpi, cpj, upk, hi])
  refine va_copyl C.1 C.2.1 (C.2.2.1.trans hl.1.symm) C.2.2.2.1 (C.2.2.2.2.1 _ hL.1) (C.2.2.2.2.1 _ hL.2.1) (C.2.2.2.2.1 _ hL.2.2.1) (C.2.2.2.2.1 _ hL.2.2.2) C.2.2.2.2.2.1.1 hW (hA.D D2 T I J Q) hS k0 k1 3 3 he0 he1 rfl rfl rfl h1 h2 h3 h4 h5 (fun _ _ => rfl) hframes hlocals hdg (fun H1 locs1 a1 a2 a3 => ?_)
  rw [hw2] at a1
  exact kk H1 locs1 ls a1 hA a3 hl
theorem g_iret (C : CX p s m args meth c cc nL own A D D2) {v : Int32} {post : Int32 → KS → Prop} (hdg : decode cc pc = .ok (.ireturn, 1)) (hr : meth.sig.returnType = some .int) (hp : post v (I, J, Q)) : GG p l e R s m args below meth c nL A D D2 0 0 (MQ below (va_Qi post (Bw D D2 ad N T) A) args s 0 0 A) ad N T I J Q pc lv [.int v] := fun H locs ls hW hA hS hl => W.iret C.1 C.2.1 hr (fun t ht _ => ⟨⟨v, (I, J, Q), rfl, hp, by show Wd _ _ _ _ _ _ _ _ _; rw [ht]; exact hW⟩, hS.F ht⟩) hS.2.2 hdg C.2.2.2.2.2.2.2.1
theorem g_lret (C : CX p s m args meth c cc nL own A D D2) {v : Int64} {post : Int64 → KS → Prop} (hdg : decode cc pc = .ok (.lreturn, 1)) (hr : meth.sig.returnType = some .long) (hp : post v (I, J, Q)) : GG p l e R s m args below meth c nL A D D2 0 0 (MQ below (va_Ql post (Bw D D2 ad N T) A) args s 0 0 A) ad N T I J Q pc lv [.long v] := fun H locs ls hW hA hS hl => W.lret C.1 C.2.1 hr (fun t ht _ => ⟨⟨v, (I, J, Q), rfl, hp, by show Wd _ _ _ _ _ _ _ _ _; rw [ht]; exact hW⟩, hS.F ht⟩) hS.2.2 hdg C.2.2.2.2.2.2.2.1
theorem g_zret (C : CX p s m args meth c cc nL own A D D2) {v : Int32} {ty : FieldType} {post : Int32 → KS → Prop} (hdg : decode cc pc = .ok (.ireturn, 1)) (hr : meth.sig.returnType = some ty) (hn : narrow ty (.int v) = .int v) (hp : post v (I, J, Q)) : GG p l e R s m args below meth c nL A D D2 0 0 (MQ below (va_Qi post (Bw D D2 ad N T) A) args s 0 0 A) ad N T I J Q pc lv [.int v] := fun H locs ls hW hA hS hl => W.zret C.1 C.2.1 hr hn (fun t ht _ => ⟨⟨v, (I, J, Q), rfl, hp, by show Wd _ _ _ _ _ _ _ _ _; rw [ht]; exact hW⟩, hS.F ht⟩) hS.2.2 hdg C.2.2.2.2.2.2.2.1
theorem g_vret (C : CX p s m args meth c cc nL own A D D2) {post : KS → Prop} (hdg : decode cc pc = .ok (.return_, 1)) (hr : meth.sig.returnType = none) (hp : post (I, J, Q)) : GG p l e R s m args below meth c nL A D D2 0 0 (MQ below (va_Qv post (Bw D D2 ad N T) A) args s 0 0 A) ad N T I J Q pc lv [] := fun H locs ls hW hA hS hl => W.vret C.1 C.2.1 hr (fun t ht _ => ⟨⟨(I, J, Q), rfl, hp, by show Wd _ _ _ _ _ _ _ _ _; rw [ht]; exact hW⟩, hS.F ht⟩) hS.2.2 hdg C.2.2.2.2.2.2.2.1
theorem Pr.blind {av : List Value} : FrameBlind (Pr D D2 A ad N T I J Q av) := fun _ _ _ _ h => ⟨h.1, h.2.1, h.2.2.1, KK.calling h.2.2.2.1, h.2.2.2.2.1, SF.calling h.2.2.2.2.2⟩
theorem Pr.ent {H : Heap} {locs : List Loc} {av : List Value} (hK : KK D D2 s) (hA1 : ∀ q, s.heap.size ≤ q → A q) (hSF : SF D2 A s s.heap) (hW : Wd D D2 ad N T I J Q H) (hA : Ap ad N A) (hS : va_S A s.heap H locs) : ∀ U : State, U.heap = H → s.WarmedH U.vm → Pr D D2 A ad N T I J Q av av.toArray U := fun U hU hw => ⟨rfl, by rw [hU]; exact hW, hA, hK.warm hw, fun q h => hA1 q (Nat.le_trans hS.1 (by rw [← hU]; exact h)), by rw [hU]; exact hSF.ent hS hw⟩

theorem g_callVi (C : CX p s m args meth c cc nL own A D D2) {index nY n : Nat} {y : MethodName} {cb : ByteArray} {ret : Option FieldType} {rm : Room} {As : List Value} {st0 : List Value} {post : Int32 → KS → Prop} {b ci n0 : Nat} {C9 : String} {T9 : u_T} {n9 : Nat} (hdg : decode cc pc = .ok (.invokevirtual index, 3)) (hcl : vwCl[ci]? = some (C9, T9, n9) ∧ ci < 20) (hz : OKr Z N T b (ci, n0)) (hL : LV own C9 index y n) (hc : Cond.code y cb nY ret ∈ BIG) (hM : Met l y (.code y cb nY ret :: BIG) rm (Pr D D2 A ad N T I J Q (.ref (ad b) :: As)) (va_Qi post (Bw D D2 ad N T) A) 0 0 A) (hR : rm.cells = 0 ∧ rm.slots = 0 ∧ rm.frames + 1 ≤ R.frames ∧ 8 + (nY + 11) + rm.locals ≤ R.locals) (hf : cells ≤ R.cells ∧ slots ≤ R.slots) (hn : As.length = n) (hst : st0 = As.reverse ++ .ref (ad b) :: st) (hcat : (st.map fun v => v.category).sum ≤ 8) (kk : ∀ (r : Int32) (I' : KI) (J' : KJ) (Q' : KQ), post r (I', J', Q') → GG p l e R s m args below meth c nL A D D2 cells slots Qe ad N T I' J' Q' (pc + 3) lv (.int r :: st)) : GG p l e R s m args below meth c nL A D D2 cells slots Qe ad N T I J Q pc lv st0 := by
  intro H locs ls hW hA hS hl
  subst hst
  obtain ⟨⟨a1, a2, a3, a4⟩, a5⟩ := hL
  have hgo : GoodIn BIG (wsV own index C9 y (.code y cb nY ret :: BIG)) := big_goodIn (fun w hw => by
    rcases List.mem_append.mp hw with h | h
    · rcases List.mem_cons.mp h with rfl | h
      · exact a1
      rcases List.mem_cons.mp h with rfl | h
      · exact a2
      rcases List.mem_cons.mp h with rfl | h
      · exact a3
      · rw [List.mem_singleton.mp h]; exact a4
    · exact (List.mem_cons.mp h).elim (fun h => h ▸ hc) id)
  have he : (wl D2 ad N T I J Q)[b]? = some (ad b, .inr (ci, fl ad (I b) (J b) (Q b) (fk ci) 0)) := by
    rw [wl_at hz.2.1, hz.2.2]; simp [en, hcl.2]
  have hrun := va_runV (l := l) (e := e) (below := below) (R := R) (meth := meth) (H := H) (locs := locs) (cells := cells) (slots := slots) (g := F0 m pc ls (As.reverse ++ .ref (ad b) :: st)) (rest := st) ⟨C.1, C.2.1, C.2.2.1, C.2.2.2.1, C.2.2.2.2.1⟩ hM (cwV n C.2.2.2.2.1 hgo rfl hR.1 hR.2.1 a5 hR.2.2) ⟨Pr.blind, va_recv C.2.2.2.2.2.1.1 hW hcl.1 he, Pr.ent C.2.2.2.2.2.1 C.2.2.2.2.2.2.1 C.2.2.2.2.2.2.2.2 hW hA hS⟩ rfl hn hl.1 rfl (lv_room hcat) hdg hf
  refine va_calli hrun hS (fun q _ h => h) (fun q h => h) (fun r u t H1 locs1 ht hvm hw hB hz1 hk1 hS1 => ?_)
  have hB : Wd D D2 ad N T u.1 u.2.1 u.2.2 t.heap := hB
  rw [ht] at hB
  exact kk r u.1 u.2.1 u.2.2 hw H1 locs1 ls hB hA hS1 hl
theorem g_callVl (C : CX p s m args meth c cc nL own A D D2) {index nY n : Nat} {y : MethodName} {cb : ByteArray} {ret : Option FieldType} {rm : Room} {As : List Value} {st0 : List Value} {post : Int64 → KS → Prop} {b ci n0 : Nat} {C9 : String} {T9 : u_T} {n9 : Nat} (hdg : decode cc pc = .ok (.invokevirtual index, 3)) (hcl : vwCl[ci]? = some (C9, T9, n9) ∧ ci < 20) (hz : OKr Z N T b (ci, n0)) (hL : LV own C9 index y n) (hc : Cond.code y cb nY ret ∈ BIG) (hM : Met l y (.code y cb nY ret :: BIG) rm (Pr D D2 A ad N T I J Q (.ref (ad b) :: As)) (va_Ql post (Bw D D2 ad N T) A) 0 0 A) (hR : rm.cells = 0 ∧ rm.slots = 0 ∧ rm.frames + 1 ≤ R.frames ∧ 8 + (nY + 11) + rm.locals ≤ R.locals) (hf : cells ≤ R.cells ∧ slots ≤ R.slots) (hn : As.length = n) (hst : st0 = As.reverse ++ .ref (ad b) :: st) (hcat : (st.map fun v => v.category).sum ≤ 8) (kk : ∀ (r : Int64) (I' : KI) (J' : KJ) (Q' : KQ), post r (I', J', Q') → GG p l e R s m args below meth c nL A D D2 cells slots Qe ad N T I' J' Q' (pc + 3) lv (.long r :: st)) : GG p l e R s m args below meth c nL A D D2 cells slots Qe ad N T I J Q pc lv st0 := by
  intro H locs ls hW hA hS hl
  subst hst
  obtain ⟨⟨a1, a2, a3, a4⟩, a5⟩ := hL
  have hgo : GoodIn BIG (wsV own index C9 y (.code y cb nY ret :: BIG)) := big_goodIn (fun w hw => by
    rcases List.mem_append.mp hw with h | h
    · rcases List.mem_cons.mp h with rfl | h
      · exact a1
      rcases List.mem_cons.mp h with rfl | h
      · exact a2
      rcases List.mem_cons.mp h with rfl | h
      · exact a3
      · rw [List.mem_singleton.mp h]; exact a4
    · exact (List.mem_cons.mp h).elim (fun h => h ▸ hc) id)
  have he : (wl D2 ad N T I J Q)[b]? = some (ad b, .inr (ci, fl ad (I b) (J b) (Q b) (fk ci) 0)) := by
    rw [wl_at hz.2.1, hz.2.2]; simp [en, hcl.2]
  have hrun := va_runV (l := l) (e := e) (below := below) (R := R) (meth := meth) (H := H) (locs := locs) (cells := cells) (slots := slots) (g := F0 m pc ls (As.reverse ++ .ref (ad b) :: st)) (rest := st) ⟨C.1, C.2.1, C.2.2.1, C.2.2.2.1, C.2.2.2.2.1⟩ hM (cwV n C.2.2.2.2.1 hgo rfl hR.1 hR.2.1 a5 hR.2.2) ⟨Pr.blind, va_recv C.2.2.2.2.2.1.1 hW hcl.1 he, Pr.ent C.2.2.2.2.2.1 C.2.2.2.2.2.2.1 C.2.2.2.2.2.2.2.2 hW hA hS⟩ rfl hn hl.1 rfl (lv_room hcat) hdg hf
  refine va_calll hrun hS (fun q _ h => h) (fun q h => h) (fun r u t H1 locs1 ht hvm hw hB hz1 hk1 hS1 => ?_)
  have hB : Wd D D2 ad N T u.1 u.2.1 u.2.2 t.heap := hB
  rw [ht] at hB
  exact kk r u.1 u.2.1 u.2.2 hw H1 locs1 ls hB hA hS1 hl
theorem g_callVv (C : CX p s m args meth c cc nL own A D D2) {index nY n : Nat} {y : MethodName} {cb : ByteArray} {ret : Option FieldType} {rm : Room} {As : List Value} {st0 : List Value} {post : KS → Prop} {b ci n0 : Nat} {C9 : String} {T9 : u_T} {n9 : Nat} (hdg : decode cc pc = .ok (.invokevirtual index, 3)) (hcl : vwCl[ci]? = some (C9, T9, n9) ∧ ci < 20) (hz : OKr Z N T b (ci, n0)) (hL : LV own C9 index y n) (hc : Cond.code y cb nY ret ∈ BIG) (hM : Met l y (.code y cb nY ret :: BIG) rm (Pr D D2 A ad N T I J Q (.ref (ad b) :: As)) (va_Qv post (Bw D D2 ad N T) A) 0 0 A) (hR : rm.cells = 0 ∧ rm.slots = 0 ∧ rm.frames + 1 ≤ R.frames ∧ 8 + (nY + 11) + rm.locals ≤ R.locals) (hf : cells ≤ R.cells ∧ slots ≤ R.slots) (hn : As.length = n) (hst : st0 = As.reverse ++ .ref (ad b) :: st) (hcat : (st.map fun v => v.category).sum ≤ 8) (kk : ∀ (I' : KI) (J' : KJ) (Q' : KQ), post (I', J', Q') → GG p l e R s m args below meth c nL A D D2 cells slots Qe ad N T I' J' Q' (pc + 3) lv (st)) : GG p l e R s m args below meth c nL A D D2 cells slots Qe ad N T I J Q pc lv st0 := by
  intro H locs ls hW hA hS hl
  subst hst
  obtain ⟨⟨a1, a2, a3, a4⟩, a5⟩ := hL
  have hgo : GoodIn BIG (wsV own index C9 y (.code y cb nY ret :: BIG)) := big_goodIn (fun w hw => by
    rcases List.mem_append.mp hw with h | h
    · rcases List.mem_cons.mp h with rfl | h
      · exact a1
      rcases List.mem_cons.mp h with rfl | h
      · exact a2
      rcases List.mem_cons.mp h with rfl | h
      · exact a3
      · rw [List.mem_singleton.mp h]; exact a4
    · exact (List.mem_cons.mp h).elim (fun h => h ▸ hc) id)
  have he : (wl D2 ad N T I J Q)[b]? = some (ad b, .inr (ci, fl ad (I b) (J b) (Q b) (fk ci) 0)) := by
    rw [wl_at hz.2.1, hz.2.2]; simp [en, hcl.2]
  have hrun := va_runV (l := l) (e := e) (below := below) (R := R) (meth := meth) (H := H) (locs := locs) (cells := cells) (slots := slots) (g := F0 m pc ls (As.reverse ++ .ref (ad b) :: st)) (rest := st) ⟨C.1, C.2.1, C.2.2.1, C.2.2.2.1, C.2.2.2.2.1⟩ hM (cwV n C.2.2.2.2.1 hgo rfl hR.1 hR.2.1 a5 hR.2.2) ⟨Pr.blind, va_recv C.2.2.2.2.2.1.1 hW hcl.1 he, Pr.ent C.2.2.2.2.2.1 C.2.2.2.2.2.2.1 C.2.2.2.2.2.2.2.2 hW hA hS⟩ rfl hn hl.1 rfl (lv_room hcat) hdg hf
  refine va_callv hrun hS (fun q _ h => h) (fun q h => h) (fun u t H1 locs1 ht hvm hw hB hz1 hk1 hS1 => ?_)
  have hB : Wd D D2 ad N T u.1 u.2.1 u.2.2 t.heap := hB
  rw [ht] at hB
  exact kk u.1 u.2.1 u.2.2 hw H1 locs1 ls hB hA hS1 hl
theorem g_callSi (C : CX p s m args meth c cc nL own A D D2) {index nY n : Nat} {y : MethodName} {cb : ByteArray} {ret : Option FieldType} {rm : Room} {As : List Value} {st0 : List Value} {post : Int32 → KS → Prop} (hdg : decode cc pc = .ok (.invokestatic index, 3)) (hL : LSt own index y n) (hc : Cond.code y cb nY ret ∈ BIG) (hM : Met l y (.code y cb nY ret :: BIG) rm (Pr D D2 A ad N T I J Q As) (va_Qi post (Bw D D2 ad N T) A) 0 0 A) (hR : rm.cells = 0 ∧ rm.slots = 0 ∧ rm.frames + 1 ≤ R.frames ∧ 8 + (nY + 11) + rm.locals ≤ R.locals) (hf : cells ≤ R.cells ∧ slots ≤ R.slots) (hn : As.length = n) (hst : st0 = As.reverse ++ st) (hcat : (st.map fun v => v.category).sum ≤ 8) (kk : ∀ (r : Int32) (I' : KI) (J' : KJ) (Q' : KQ), post r (I', J', Q') → GG p l e R s m args below meth c nL A D D2 cells slots Qe ad N T I' J' Q' (pc + 3) lv (.int r :: st)) : GG p l e R s m args below meth c nL A D D2 cells slots Qe ad N T I J Q pc lv st0 := by
  intro H locs ls hW hA hS hl
  subst hst
  obtain ⟨⟨a1, a2, a3⟩, a5⟩ := hL
  have hgo : GoodIn BIG (va_wsS own index y (.code y cb nY ret :: BIG)) := big_goodIn (fun w hw => by
    rcases List.mem_append.mp hw with h | h
    · rcases List.mem_cons.mp h with rfl | h
      · exact a1
      rcases List.mem_cons.mp h with rfl | h
      · exact a2
      · rw [List.mem_singleton.mp h]; exact a3
    · exact (List.mem_cons.mp h).elim (fun h => h ▸ hc) id)
  have hrun := va_runS (l := l) (e := e) (below := below) (R := R) (meth := meth) (H := H) (locs := locs) (cells := cells) (slots := slots) (g := F0 m pc ls (As.reverse ++ st)) (rest := st) ⟨C.1, C.2.1, C.2.2.1, C.2.2.2.1, C.2.2.2.2.1⟩ hM (va_cwS n C.2.2.2.2.1 hgo rfl hR.1 hR.2.1 a5 hR.2.2) ⟨Pr.blind, Pr.ent C.2.2.2.2.2.1 C.2.2.2.2.2.2.1 C.2.2.2.2.2.2.2.2 hW hA hS⟩ rfl hn hl.1 rfl (lv_room hcat) hdg hf
  refine va_calli hrun hS (fun q _ h => h) (fun q h => h) (fun r u t H1 locs1 ht hvm hw hB hz1 hk1 hS1 => ?_)
  have hB : Wd D D2 ad N T u.1 u.2.1 u.2.2 t.heap := hB
  rw [ht] at hB
  exact kk r u.1 u.2.1 u.2.2 hw H1 locs1 ls hB hA hS1 hl
theorem g_callSl (C : CX p s m args meth c cc nL own A D D2) {index nY n : Nat} {y : MethodName} {cb : ByteArray} {ret : Option FieldType} {rm : Room} {As : List Value} {st0 : List Value} {post : Int64 → KS → Prop} (hdg : decode cc pc = .ok (.invokestatic index, 3)) (hL : LSt own index y n) (hc : Cond.code y cb nY ret ∈ BIG) (hM : Met l y (.code y cb nY ret :: BIG) rm (Pr D D2 A ad N T I J Q As) (va_Ql post (Bw D D2 ad N T) A) 0 0 A) (hR : rm.cells = 0 ∧ rm.slots = 0 ∧ rm.frames + 1 ≤ R.frames ∧ 8 + (nY + 11) + rm.locals ≤ R.locals) (hf : cells ≤ R.cells ∧ slots ≤ R.slots) (hn : As.length = n) (hst : st0 = As.reverse ++ st) (hcat : (st.map fun v => v.category).sum ≤ 8) (kk : ∀ (r : Int64) (I' : KI) (J' : KJ) (Q' : KQ), post r (I', J', Q') → GG p l e R s m args below meth c nL A D D2 cells slots Qe ad N T I' J' Q' (pc + 3) lv (.long r :: st)) : GG p l e R s m args below meth c nL A D D2 cells slots Qe ad N T I J Q pc lv st0 := by
  intro H locs ls hW hA hS hl
  subst hst
  obtain ⟨⟨a1, a2, a3⟩, a5⟩ := hL
  have hgo : GoodIn BIG (va_wsS own index y (.code y cb nY ret :: BIG)) := big_goodIn (fun w hw => by
    rcases List.mem_append.mp hw with h | h
    · rcases List.mem_cons.mp h with rfl | h
      · exact a1
      rcases List.mem_cons.mp h with rfl | h
      · exact a2
      · rw [List.mem_singleton.mp h]; exact a3
    · exact (List.mem_cons.mp h).elim (fun h => h ▸ hc) id)
  have hrun := va_runS (l := l) (e := e) (below := below) (R := R) (meth := meth) (H := H) (locs := locs) (cells := cells) (slots := slots) (g := F0 m pc ls (As.reverse ++ st)) (rest := st) ⟨C.1, C.2.1, C.2.2.1, C.2.2.2.1, C.2.2.2.2.1⟩ hM (va_cwS n C.2.2.2.2.1 hgo rfl hR.1 hR.2.1 a5 hR.2.2) ⟨Pr.blind, Pr.ent C.2.2.2.2.2.1 C.2.2.2.2.2.2.1 C.2.2.2.2.2.2.2.2 hW hA hS⟩ rfl hn hl.1 rfl (lv_room hcat) hdg hf
  refine va_calll hrun hS (fun q _ h => h) (fun q h => h) (fun r u t H1 locs1 ht hvm hw hB hz1 hk1 hS1 => ?_)
  have hB : Wd D D2 ad N T u.1 u.2.1 u.2.2 t.heap := hB
  rw [ht] at hB
  exact kk r u.1 u.2.1 u.2.2 hw H1 locs1 ls hB hA hS1 hl
theorem g_callSv (C : CX p s m args meth c cc nL own A D D2) {index nY n : Nat} {y : MethodName} {cb : ByteArray} {ret : Option FieldType} {rm : Room} {As : List Value} {st0 : List Value} {post : KS → Prop} (hdg : decode cc pc = .ok (.invokestatic index, 3)) (hL : LSt own index y n) (hc : Cond.code y cb nY ret ∈ BIG) (hM : Met l y (.code y cb nY ret :: BIG) rm (Pr D D2 A ad N T I J Q As) (va_Qv post (Bw D D2 ad N T) A) 0 0 A) (hR : rm.cells = 0 ∧ rm.slots = 0 ∧ rm.frames + 1 ≤ R.frames ∧ 8 + (nY + 11) + rm.locals ≤ R.locals) (hf : cells ≤ R.cells ∧ slots ≤ R.slots) (hn : As.length = n) (hst : st0 = As.reverse ++ st) (hcat : (st.map fun v => v.category).sum ≤ 8) (kk : ∀ (I' : KI) (J' : KJ) (Q' : KQ), post (I', J', Q') → GG p l e R s m args below meth c nL A D D2 cells slots Qe ad N T I' J' Q' (pc + 3) lv (st)) : GG p l e R s m args below meth c nL A D D2 cells slots Qe ad N T I J Q pc lv st0 := by
  intro H locs ls hW hA hS hl
  subst hst
  obtain ⟨⟨a1, a2, a3⟩, a5⟩ := hL
  have hgo : GoodIn BIG (va_wsS own index y (.code y cb nY ret :: BIG)) := big_goodIn (fun w hw => by
    rcases List.mem_append.mp hw with h | h
    · rcases List.mem_cons.mp h with rfl | h
      · exact a1
      rcases List.mem_cons.mp h with rfl | h
      · exact a2
      · rw [List.mem_singleton.mp h]; exact a3
    · exact (List.mem_cons.mp h).elim (fun h => h ▸ hc) id)
  have hrun := va_runS (l := l) (e := e) (below := below) (R := R) (meth := meth) (H := H) (locs := locs) (cells := cells) (slots := slots) (g := F0 m pc ls (As.reverse ++ st)) (rest := st) ⟨C.1, C.2.1, C.2.2.1, C.2.2.2.1, C.2.2.2.2.1⟩ hM (va_cwS n C.2.2.2.2.1 hgo rfl hR.1 hR.2.1 a5 hR.2.2) ⟨Pr.blind, Pr.ent C.2.2.2.2.2.1 C.2.2.2.2.2.2.1 C.2.2.2.2.2.2.2.2 hW hA hS⟩ rfl hn hl.1 rfl (lv_room hcat) hdg hf
  refine va_callv hrun hS (fun q _ h => h) (fun q h => h) (fun u t H1 locs1 ht hvm hw hB hz1 hk1 hS1 => ?_)
  have hB : Wd D D2 ad N T u.1 u.2.1 u.2.2 t.heap := hB
  rw [ht] at hB
  exact kk u.1 u.2.1 u.2.2 hw H1 locs1 ls hB hA hS1 hl
theorem g_callSNi (C : CX p s m args meth c cc nL own A D D2) {index nY n : Nat} {y : MethodName} {cb : ByteArray} {ret : Option FieldType} {rm : Room} {As : List Value} {st0 : List Value} {post : Int32 → KS → Prop} (hdg : decode cc pc = .ok (.invokestatic index, 3)) (hL : LSN own index y n) (hc : Cond.code y cb nY ret ∈ BIG) (hM : Met l y (.code y cb nY ret :: BIG) rm (Pr D D2 A ad N T I J Q As) (va_Qi post (Bw D D2 ad N T) A) 0 0 A) (hR : rm.cells = 0 ∧ rm.slots = 0 ∧ rm.frames + 1 ≤ R.frames ∧ 8 + (nY + 11) + rm.locals ≤ R.locals) (hf : cells ≤ R.cells ∧ slots ≤ R.slots) (hn : As.length = n) (hst : st0 = As.reverse ++ st) (hcat : (st.map fun v => v.category).sum ≤ 8) (kk : ∀ (r : Int32) (I' : KI) (J' : KJ) (Q' : KQ), post r (I', J', Q') → GG p l e R s m args below meth c nL A D D2 cells slots Qe ad N T I' J' Q' (pc + 3) lv (.int r :: st)) : GG p l e R s m args below meth c nL A D D2 cells slots Qe ad N T I J Q pc lv st0 := by
  intro H locs ls hW hA hS hl
  subst hst
  obtain ⟨⟨h9, a1⟩, ⟨a2, a3⟩, a5⟩ := hL
  have hrun := va_runSN (l := l) (e := e) (below := below) (R := R) (meth := meth) (H := H) (locs := locs) (cells := cells) (slots := slots) (g := F0 m pc ls (As.reverse ++ st)) (rest := st) ⟨C.1, C.2.1, C.2.2.1, C.2.2.2.1, C.2.2.2.2.1⟩ hM ⟨va_cnB n C.2.2.2.2.1 (big_goodIn (fun w hw => (List.mem_cons.mp hw).elim (fun h => h ▸ hc) id)) rfl hR.1 hR.2.1 (C.2.2.2.2.2.1.2.1 _ a1) (C.2.2.2.2.1 _ a3) a5 hR.2.2, C.2.2.2.2.1 _ a2, trivial⟩ ⟨Pr.blind, Pr.ent C.2.2.2.2.2.1 C.2.2.2.2.2.2.1 C.2.2.2.2.2.2.2.2 hW hA hS⟩ rfl hn hl.1 rfl (lv_room hcat) hdg hf
  refine va_calli hrun hS (fun q _ h => h) (fun q h => h) (fun r u t H1 locs1 ht hvm hw hB hz1 hk1 hS1 => ?_)
  have hB : Wd D D2 ad N T u.1 u.2.1 u.2.2 t.heap := hB
  rw [ht] at hB
  exact kk r u.1 u.2.1 u.2.2 hw H1 locs1 ls hB hA hS1 hl
theorem g_callSNl (C : CX p s m args meth c cc nL own A D D2) {index nY n : Nat} {y : MethodName} {cb : ByteArray} {ret : Option FieldType} {rm : Room} {As : List Value} {st0 : List Value} {post : Int64 → KS → Prop} (hdg : decode cc pc = .ok (.invokestatic index, 3)) (hL : LSN own index y n) (hc : Cond.code y cb nY ret ∈ BIG) (hM : Met l y (.code y cb nY ret :: BIG) rm (Pr D D2 A ad N T I J Q As) (va_Ql post (Bw D D2 ad N T) A) 0 0 A) (hR : rm.cells = 0 ∧ rm.slots = 0 ∧ rm.frames + 1 ≤ R.frames ∧ 8 + (nY + 11) + rm.locals ≤ R.locals) (hf : cells ≤ R.cells ∧ slots ≤ R.slots) (hn : As.length = n) (hst : st0 = As.reverse ++ st) (hcat : (st.map fun v => v.category).sum ≤ 8) (kk : ∀ (r : Int64) (I' : KI) (J' : KJ) (Q' : KQ), post r (I', J', Q') → GG p l e R s m args below meth c nL A D D2 cells slots Qe ad N T I' J' Q' (pc + 3) lv (.long r :: st)) : GG p l e R s m args below meth c nL A D D2 cells slots Qe ad N T I J Q pc lv st0 := by
  intro H locs ls hW hA hS hl
  subst hst
  obtain ⟨⟨h9, a1⟩, ⟨a2, a3⟩, a5⟩ := hL
  have hrun := va_runSN (l := l) (e := e) (below := below) (R := R) (meth := meth) (H := H) (locs := locs) (cells := cells) (slots := slots) (g := F0 m pc ls (As.reverse ++ st)) (rest := st) ⟨C.1, C.2.1, C.2.2.1, C.2.2.2.1, C.2.2.2.2.1⟩ hM ⟨va_cnB n C.2.2.2.2.1 (big_goodIn (fun w hw => (List.mem_cons.mp hw).elim (fun h => h ▸ hc) id)) rfl hR.1 hR.2.1 (C.2.2.2.2.2.1.2.1 _ a1) (C.2.2.2.2.1 _ a3) a5 hR.2.2, C.2.2.2.2.1 _ a2, trivial⟩ ⟨Pr.blind, Pr.ent C.2.2.2.2.2.1 C.2.2.2.2.2.2.1 C.2.2.2.2.2.2.2.2 hW hA hS⟩ rfl hn hl.1 rfl (lv_room hcat) hdg hf
  refine va_calll hrun hS (fun q _ h => h) (fun q h => h) (fun r u t H1 locs1 ht hvm hw hB hz1 hk1 hS1 => ?_)
  have hB : Wd D D2 ad N T u.1 u.2.1 u.2.2 t.heap := hB
  rw [ht] at hB
  exact kk r u.1 u.2.1 u.2.2 hw H1 locs1 ls hB hA hS1 hl
theorem g_callSNv (C : CX p s m args meth c cc nL own A D D2) {index nY n : Nat} {y : MethodName} {cb : ByteArray} {ret : Option FieldType} {rm : Room} {As : List Value} {st0 : List Value} {post : KS → Prop} (hdg : decode cc pc = .ok (.invokestatic index, 3)) (hL : LSN own index y n) (hc : Cond.code y cb nY ret ∈ BIG) (hM : Met l y (.code y cb nY ret :: BIG) rm (Pr D D2 A ad N T I J Q As) (va_Qv post (Bw D D2 ad N T) A) 0 0 A) (hR : rm.cells = 0 ∧ rm.slots = 0 ∧ rm.frames + 1 ≤ R.frames ∧ 8 + (nY + 11) + rm.locals ≤ R.locals) (hf : cells ≤ R.cells ∧ slots ≤ R.slots) (hn : As.length = n) (hst : st0 = As.reverse ++ st) (hcat : (st.map fun v => v.category).sum ≤ 8) (kk : ∀ (I' : KI) (J' : KJ) (Q' : KQ), post (I', J', Q') → GG p l e R s m args below meth c nL A D D2 cells slots Qe ad N T I' J' Q' (pc + 3) lv (st)) : GG p l e R s m args below meth c nL A D D2 cells slots Qe ad N T I J Q pc lv st0 := by
  intro H locs ls hW hA hS hl
  subst hst
  obtain ⟨⟨h9, a1⟩, ⟨a2, a3⟩, a5⟩ := hL
  have hrun := va_runSN (l := l) (e := e) (below := below) (R := R) (meth := meth) (H := H) (locs := locs) (cells := cells) (slots := slots) (g := F0 m pc ls (As.reverse ++ st)) (rest := st) ⟨C.1, C.2.1, C.2.2.1, C.2.2.2.1, C.2.2.2.2.1⟩ hM ⟨va_cnB n C.2.2.2.2.1 (big_goodIn (fun w hw => (List.mem_cons.mp hw).elim (fun h => h ▸ hc) id)) rfl hR.1 hR.2.1 (C.2.2.2.2.2.1.2.1 _ a1) (C.2.2.2.2.1 _ a3) a5 hR.2.2, C.2.2.2.2.1 _ a2, trivial⟩ ⟨Pr.blind, Pr.ent C.2.2.2.2.2.1 C.2.2.2.2.2.2.1 C.2.2.2.2.2.2.2.2 hW hA hS⟩ rfl hn hl.1 rfl (lv_room hcat) hdg hf
  refine va_callv hrun hS (fun q _ h => h) (fun q h => h) (fun u t H1 locs1 ht hvm hw hB hz1 hk1 hS1 => ?_)
  have hB : Wd D D2 ad N T u.1 u.2.1 u.2.2 t.heap := hB
  rw [ht] at hB
  exact kk u.1 u.2.1 u.2.2 hw H1 locs1 ls hB hA hS1 hl
theorem g_min (C : CX p s m args meth c cc nL own A D D2) {index : Nat} {x y : Int32} (hdg : decode cc pc = .ok (.invokestatic index, 3)) (hL : Cond.methodLink own index Lib.Math.min.name ∈ BIG ∧ Cond.static Lib.Math.min.name ∈ BIG ∧ Cond.initialized "java/lang/Math" ∈ BIG ∧ Cond.code Lib.Math.min.name Lib.Math.min.code 2 (some .int) ∈ BIG) (hframes : 1 ≤ R.frames) (hlocals : (st.map fun v => v.category).sum + 13 ≤ R.locals) (hf : cells ≤ R.cells ∧ slots ≤ R.slots) (k : GG p l e R s m args below meth c nL A D D2 cells slots Qe ad N T I J Q (pc + 3) lv (.int (if y < x then y else x) :: st)) : GG p l e R s m args below meth c nL A D D2 cells slots Qe ad N T I J Q pc lv (.int y :: .int x :: st) := fun H locs ls hW hA hS hl => va_mmin C.1 C.2.1 (C.2.2.1.trans hl.1.symm) C.2.2.2.1 (C.2.2.2.2.1 _ hL.1) (C.2.2.2.2.1 _ hL.2.1) (C.2.2.2.2.1 _ hL.2.2.1) (C.2.2.2.2.1 _ hL.2.2.2) hframes hlocals hf.1 hf.2 hdg (k H locs ls hW hA hS hl)
theorem g_ldcS (C : CX p s m args meth c cc nL own A D D2) {i : Nat} (hdg : decode cc pc = .ok (.ldc (idxS.getD i 0), 2)) (hi : i < 5) (hx : own = "TokenRounds$Tape") (k : GG p l e R s m args below meth c nL A D D2 cells slots Qe ad N T I J Q (pc + 2) lv (.ref (D2 (100 + i)) :: st)) : GG p l e R s m args below meth c nL A D D2 cells slots Qe ad N T I J Q pc lv (st) := fun H locs ls hW hA hS hl => va_ldcS C.1 C.2.1 C.2.2.2.1 (hx ▸ C.2.2.2.2.2.2.2.2.2.1 i hi) hdg (k H locs ls hW hA hS hl)
theorem g_sgetV (C : CX p s m args meth c cc nL own A D D2) {i index : Nat} (hdg : decode cc pc = .ok (.getfield index, 3)) (hi : i < 5) (hw : Cond.fieldLink own index "java/lang/String" "value" "[B" ∈ BIG) (k : GG p l e R s m args below meth c nL A D D2 cells slots Qe ad N T I J Q (pc + 3) lv (.ref (D2 (200 + i)) :: st)) : GG p l e R s m args below meth c nL A D D2 cells slots Qe ad N T I J Q pc lv (.ref (D2 (100 + i)) :: st) := fun H locs ls hW hA hS hl => va_getX (o := "java/lang/String") (n := "value") (d := "[B") (N := 5) (v := fun i => .ref (D2 (200 + i))) (ad := fun i => D2 (100 + i)) C.1 C.2.1 (fun j hj => (C.2.2.2.2.2.2.2.2.1.1 j hj).2.2.1) hi hS C.2.2.2.1 (C.2.2.2.2.1 _ hw) (fun _ h => h) hdg (k H locs ls hW hA hS hl)
theorem g_sgetC (C : CX p s m args meth c cc nL own A D D2) {i index : Nat} (hdg : decode cc pc = .ok (.getfield index, 3)) (hi : i < 5) (hw : Cond.fieldLink own index "java/lang/String" "coder" "B" ∈ BIG) (k : GG p l e R s m args below meth c nL A D D2 cells slots Qe ad N T I J Q (pc + 3) lv (.int 0 :: st)) : GG p l e R s m args below meth c nL A D D2 cells slots Qe ad N T I J Q pc lv (.ref (D2 (100 + i)) :: st) := fun H locs ls hW hA hS hl => va_getX (o := "java/lang/String") (n := "coder") (d := "B") (N := 5) (v := fun _ => .int 0) (ad := fun i => D2 (100 + i)) C.1 C.2.1 (fun j hj => (C.2.2.2.2.2.2.2.2.1.1 j hj).2.1) hi hS C.2.2.2.1 (C.2.2.2.2.1 _ hw) (fun _ h => h) hdg (k H locs ls hW hA hS hl)
theorem g_slen (C : CX p s m args meth c cc nL own A D D2) {i : Nat} (hdg : decode cc pc = .ok (.arraylength, 1)) (hi : i < 5) (k : GG p l e R s m args below meth c nL A D D2 cells slots Qe ad N T I J Q (pc + 1) lv (.int (Int32.ofNat (lenS.getD i 0)) :: st)) : GG p l e R s m args below meth c nL A D D2 cells slots Qe ad N T I J Q pc lv (.ref (D2 (200 + i)) :: st) := fun H locs ls hW hA hS hl => va_tlen C.1 C.2.1 (C.2.2.2.2.2.2.2.2.1.1 i hi).2.2.2 hS rfl hdg (k H locs ls hW hA hS hl)
theorem g_sbald (C : CX p s m args meth c cc nL own A D D2) {i : Nat} {x : Int32} (hdg : decode cc pc = .ok (.baload, 1)) (hi : i < 5) (hin : vp_in x (lenS.getD i 0)) (k : GG p l e R s m args below meth c nL A D D2 cells slots Qe ad N T I J Q (pc + 1) lv (.int ((bytS.getD i []).getD x.toNatClampNeg 0) :: st)) : GG p l e R s m args below meth c nL A D D2 cells slots Qe ad N T I J Q pc lv (.int x :: .ref (D2 (200 + i)) :: st) := fun H locs ls hW hA hS hl => va_tb C.1 C.2.1 (C.2.2.2.2.2.2.2.2.1.1 i hi).2.2.2 hS hin rfl hdg (k H locs ls hW hA hS hl)
theorem g_sgetsC (C : CX p s m args meth c cc nL own A D D2) {index : Nat} (hdg : decode cc pc = .ok (.getstatic index, 3)) (hw : Cond.fieldLink own index "java/lang/String" "COMPACT_STRINGS" "Z" ∈ BIG) (k : GG p l e R s m args below meth c nL A D D2 cells slots Qe ad N T I J Q (pc + 3) lv (.int 1 :: st)) : GG p l e R s m args below meth c nL A D D2 cells slots Qe ad N T I J Q pc lv (st) := fun H locs ls hW hA hS hl => va_gets C.1 C.2.1 C.2.2.2.2.2.2.2.2.2.2.1 hS C.2.2.2.1 (C.2.2.2.2.1 _ hw) (fun _ h => h) hdg (k H locs ls hW hA hS hl)
theorem g_sgetsF (C : CX p s m args meth c cc nL own A D D2) {index : Nat} (hdg : decode cc pc = .ok (.getstatic index, 3)) (hw : Cond.fieldLink own index "jdk/internal/util/Preconditions" "SIOOBE_FORMATTER" "Ljava/util/function/BiFunction;" ∈ BIG) (k : GG p l e R s m args below meth c nL A D D2 cells slots Qe ad N T I J Q (pc + 3) lv (fmt D2 :: st)) : GG p l e R s m args below meth c nL A D D2 cells slots Qe ad N T I J Q pc lv (st) := fun H locs ls hW hA hS hl => va_gets C.1 C.2.1 C.2.2.2.2.2.2.2.2.2.2.2 hS C.2.2.2.1 (C.2.2.2.2.1 _ hw) (fun _ h => h) hdg (k H locs ls hW hA hS hl)
theorem g_callSTR (C : CX p s m args meth c cc nL own A D D2) {i index nY n : Nat} {y : MethodName} {cb : ByteArray} {ret : Option FieldType} {rm : Room} {As : List Value} {st0 : List Value} {post : Int32 → KS → Prop} (hdg : decode cc pc = .ok (.invokevirtual index, 3)) (hi : i < 5) (hL : LV own "java/lang/String" index y n) (hc : Cond.code y cb nY ret ∈ BIG) (hM : Met l y (.code y cb nY ret :: BIG) rm (Pr D D2 A ad N T I J Q (.ref (D2 (100 + i)) :: As)) (va_Qi post (Bw D D2 ad N T) A) 0 0 A) (hR : rm.cells = 0 ∧ rm.slots = 0 ∧ rm.frames + 1 ≤ R.frames ∧ 8 + (nY + 11) + rm.locals ≤ R.locals) (hf : cells ≤ R.cells ∧ slots ≤ R.slots) (hn : As.length = n) (hst : st0 = As.reverse ++ .ref (D2 (100 + i)) :: st) (hcat : (st.map fun v => v.category).sum ≤ 8) (kk : ∀ (r : Int32) (I' : KI) (J' : KJ) (Q' : KQ), post r (I', J', Q') → GG p l e R s m args below meth c nL A D D2 cells slots Qe ad N T I' J' Q' (pc + 3) lv (.int r :: st)) : GG p l e R s m args below meth c nL A D D2 cells slots Qe ad N T I J Q pc lv st0 := by
  intro H locs ls hW hA hS hl
  subst hst
  obtain ⟨⟨a1, a2, a3, a4⟩, a5⟩ := hL
  have hgo : GoodIn BIG (wsV own index "java/lang/String" y (.code y cb nY ret :: BIG)) := big_goodIn (fun w hw => by
    rcases List.mem_append.mp hw with h | h
    · rcases List.mem_cons.mp h with rfl | h
      · exact a1
      rcases List.mem_cons.mp h with rfl | h
      · exact a2
      rcases List.mem_cons.mp h with rfl | h
      · exact a3
      · rw [List.mem_singleton.mp h]; exact a4
    · exact (List.mem_cons.mp h).elim (fun h => h ▸ hc) id)
  have hrecv : ∃ cellB : Cell, H[D2 (100 + i)]? = some cellB ∧ cellB.vm.isStatics = false ∧ s.vm.findClass "java/lang/String" = some cellB.cls := by
    obtain ⟨cell, h1, h2, h3, -⟩ := (C.2.2.2.2.2.2.2.2.1.1 i hi).1.kept hS.2.1
    exact ⟨cell, h1, h2, h3⟩
  have hrun := va_runV (l := l) (e := e) (below := below) (R := R) (meth := meth) (H := H) (locs := locs) (cells := cells) (slots := slots) (g := F0 m pc ls (As.reverse ++ .ref (D2 (100 + i)) :: st)) (rest := st) ⟨C.1, C.2.1, C.2.2.1, C.2.2.2.1, C.2.2.2.2.1⟩ hM (cwV n C.2.2.2.2.1 hgo rfl hR.1 hR.2.1 a5 hR.2.2) ⟨Pr.blind, hrecv, Pr.ent C.2.2.2.2.2.1 C.2.2.2.2.2.2.1 C.2.2.2.2.2.2.2.2 hW hA hS⟩ rfl hn hl.1 rfl (lv_room hcat) hdg hf
  refine va_calli hrun hS (fun q _ h => h) (fun q h => h) (fun r u t H1 locs1 ht hvm hw hB hz1 hk1 hS1 => ?_)
  have hB : Wd D D2 ad N T u.1 u.2.1 u.2.2 t.heap := hB
  rw [ht] at hB
  exact kk r u.1 u.2.1 u.2.2 hw H1 locs1 ls hB hA hS1 hl
theorem g_sub (ks : List Nat) (hk : lv_pick lv ks = lv') (k : GG p l e R s m args below meth c nL A D D2 cells slots Qe ad N T I J Q pc lv' (st)) : GG p l e R s m args below meth c nL A D D2 cells slots Qe ad N T I J Q pc lv (st) := fun H locs ls hW hA hS hl => k H locs ls hW hA hS (lv_sub hl ks hk)
theorem Met_ofWF {y : MethodName} {ws ws' : List Cond} {rm : Room} {Pc : Array Value → State → Prop} {Qc : Array Value → State → Outcome → State → Prop} {mc ms : Nat} {free : Addr → Prop} {maxL : Nat} {ret : Option FieldType} (hy : plainFor y = true) (hw : ws = Cond.code y cc maxL ret :: ws')
    (body : ∀ p e s m args below meth c s₁, BodyLoose p l y (headSpec ws rm) cc maxL ret e s m args below meth c s₁ → c.maxLocals = maxL → Pc args s → W p l e (headSpec ws rm).room s m args below meth c s.heap [] 0 0 (MQ below Qc args s mc ms free) (entryFrame m args maxL)) : Met l y ws rm Pc Qc mc ms free := by
  refine MetFree.of_bodySF (code := cc) (maxLocals := maxL) (ret := ret) hy ?_ ?_
  · intro args s m h hn
    obtain ⟨meth, c, h1, h2, h3, h4, h5, h6, -, -⟩ := Cond.code_spec hn (atoms_spec (ws := ws) h _ (by rw [hw]; exact List.mem_cons_self))
    exact ⟨meth, c, h1, h2, h3, h4, h5, h6⟩
  · intro p e s m args below meth c s₁ B hml hP _
    have hh0 : s₁.heap = s.heap := by rw [B.state]; rfl
    obtain ⟨t, a1, o, b1, b2, b3⟩ := body p e s m args below meth c s₁ B hml hP s₁ hh0 (Stand.of_body B)
    exact ⟨t, o, a1, b1, b2, ⟨b3.1, b3.2⟩⟩
/-- a method's contract out of the judgement at its entry -/
theorem Met_GG {y : MethodName} {ret : Option FieldType} {rm : Room} {Qc : Array Value → State → Outcome → State → Prop} (hy : plainFor y = true) (av : List Value) {lv0 : List (Nat × Value)} (hsl : (lg_sl av).length ≤ nL) (hlv : lv_args 0 av = lv0)
    (body : ∀ (p : Program) (e : Env) (s : State) (m : MethodId) (below : List Frame) (meth : Method) (c : Code), CX p s m av.toArray meth c cc nL y.cls A D D2 → meth.sig.returnType = ret → GG p l e rm s m av.toArray below meth c nL A D D2 0 0 (MQ below Qc av.toArray s 0 0 A) ad N T I J Q 0 lv0 []) : Met l y (.code y cc nL ret :: BIG) rm (Pr D D2 A ad N T I J Q av) Qc 0 0 A := by
  refine Met_ofWF (cc := cc) (maxL := nL) (ret := ret) hy rfl ?_
  intro p e s m args below meth c s₁ B hml hv
  obtain ⟨rfl, hW, hA, hK, hA1, hSF⟩ := hv
  have hts := atoms_spec (ws := .code y cc nL ret :: BIG) B.pre
  have hl := lv_entry av (n := nL) hsl
  rw [lg_entry_eq]
  generalize (lg_sl av ++ List.replicate (nL - (lg_sl av).length) Slot.unset).toArray = ls at hl ⊢
  rw [hlv] at hl
  exact body p e s m below meth c ⟨B.exec, B.bytes, hml, findClass_of_methodNamed B.named, fun w hw => hts w (List.mem_cons_of_mem _ hw), hK, hA1, B.notSynchronized, hSF⟩ B.returns s.heap [] ls hW hA va_S.rf hl
end GROWS
end
