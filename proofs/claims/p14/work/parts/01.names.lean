-- ===== PART A: goes FIRST, ahead of the names: the tables' words, and 'selects' of the private methods out of them =====
/-- a private method of a class that the tables say can be made, by its rows of tables_1 -/
def lw_okq (q : MethodName × Nat) : Prop := (q.1.cls ≠ "java/lang/invoke/MethodHandle" ∧ q.1.cls ≠ "java/lang/invoke/VarHandle") ∧ Cond.instantiable q.1.cls q.2 ∈ tables_1 ∧ Cond.privateMethod q.1 ∈ tables_1 ∧ Cond.instanceMethod q.1 ∈ tables_1
theorem lw_p0 : lw_okq (⟨"RopeRanks$Formula", "readLevel", "(I)V"⟩, 10) := ⟨⟨by decide +kernel, by decide +kernel⟩, List.mem_of_getElem? (i := 152) (by decide +kernel), List.mem_of_getElem? (i := 407) (by decide +kernel), List.mem_of_getElem? (i := 408) (by decide +kernel)⟩
theorem lw_p1 : lw_okq (⟨"RopeRanks$Formula", "readUnit", "()V"⟩, 10) := ⟨⟨by decide +kernel, by decide +kernel⟩, List.mem_of_getElem? (i := 152) (by decide +kernel), List.mem_of_getElem? (i := 411) (by decide +kernel), List.mem_of_getElem? (i := 412) (by decide +kernel)⟩
theorem lw_p2 : lw_okq (⟨"RopeRanks$Formula", "next", "()I"⟩, 10) := ⟨⟨by decide +kernel, by decide +kernel⟩, List.mem_of_getElem? (i := 152) (by decide +kernel), List.mem_of_getElem? (i := 415) (by decide +kernel), List.mem_of_getElem? (i := 416) (by decide +kernel)⟩
theorem lw_p3 : lw_okq (⟨"RopeRanks$Formula", "readDigits", "()V"⟩, 10) := ⟨⟨by decide +kernel, by decide +kernel⟩, List.mem_of_getElem? (i := 152) (by decide +kernel), List.mem_of_getElem? (i := 419) (by decide +kernel), List.mem_of_getElem? (i := 420) (by decide +kernel)⟩
theorem lw_p4 : lw_okq (⟨"RopeRanks$Formula", "fail", "(I)V"⟩, 10) := ⟨⟨by decide +kernel, by decide +kernel⟩, List.mem_of_getElem? (i := 152) (by decide +kernel), List.mem_of_getElem? (i := 423) (by decide +kernel), List.mem_of_getElem? (i := 424) (by decide +kernel)⟩
theorem lw_p5 : lw_okq (⟨"RopeRanks$Formula", "add", "(I)V"⟩, 10) := ⟨⟨by decide +kernel, by decide +kernel⟩, List.mem_of_getElem? (i := 152) (by decide +kernel), List.mem_of_getElem? (i := 427) (by decide +kernel), List.mem_of_getElem? (i := 428) (by decide +kernel)⟩
theorem lw_p6 : lw_okq (⟨"RopeRanks$Formula", "readBrackets", "()V"⟩, 10) := ⟨⟨by decide +kernel, by decide +kernel⟩, List.mem_of_getElem? (i := 152) (by decide +kernel), List.mem_of_getElem? (i := 434) (by decide +kernel), List.mem_of_getElem? (i := 435) (by decide +kernel)⟩
theorem lw_p7 : lw_okq (⟨"RopeRanks$Formula", "addAheadSigns", "(II)V"⟩, 10) := ⟨⟨by decide +kernel, by decide +kernel⟩, List.mem_of_getElem? (i := 152) (by decide +kernel), List.mem_of_getElem? (i := 438) (by decide +kernel), List.mem_of_getElem? (i := 439) (by decide +kernel)⟩
theorem lw_p8 : lw_okq (⟨"RopeRanks$Ladder", "changeOf", "(IIII)I"⟩, 6) := ⟨⟨by decide +kernel, by decide +kernel⟩, List.mem_of_getElem? (i := 146) (by decide +kernel), List.mem_of_getElem? (i := 466) (by decide +kernel), List.mem_of_getElem? (i := 467) (by decide +kernel)⟩
theorem lw_p9 : lw_okq (⟨"RopeRanks$Formula", "push", "(J)V"⟩, 10) := ⟨⟨by decide +kernel, by decide +kernel⟩, List.mem_of_getElem? (i := 152) (by decide +kernel), List.mem_of_getElem? (i := 484) (by decide +kernel), List.mem_of_getElem? (i := 485) (by decide +kernel)⟩
theorem lw_p10 : lw_okq (⟨"RopeRanks$Formula", "work", "(I)V"⟩, 10) := ⟨⟨by decide +kernel, by decide +kernel⟩, List.mem_of_getElem? (i := 152) (by decide +kernel), List.mem_of_getElem? (i := 488) (by decide +kernel), List.mem_of_getElem? (i := 489) (by decide +kernel)⟩
theorem lw_p11 : lw_okq (⟨"RopeRanks$Formula", "pop", "()J"⟩, 10) := ⟨⟨by decide +kernel, by decide +kernel⟩, List.mem_of_getElem? (i := 152) (by decide +kernel), List.mem_of_getElem? (i := 492) (by decide +kernel), List.mem_of_getElem? (i := 493) (by decide +kernel)⟩
theorem lw_p12 : lw_okq (⟨"RopeRanks$Ladder", "settle", "(III)V"⟩, 6) := ⟨⟨by decide +kernel, by decide +kernel⟩, List.mem_of_getElem? (i := 146) (by decide +kernel), List.mem_of_getElem? (i := 505) (by decide +kernel), List.mem_of_getElem? (i := 506) (by decide +kernel)⟩
theorem lw_p13 : lw_okq (⟨"RopeRanks$Ladder", "pointsFor", "(I)I"⟩, 6) := ⟨⟨by decide +kernel, by decide +kernel⟩, List.mem_of_getElem? (i := 146) (by decide +kernel), List.mem_of_getElem? (i := 574) (by decide +kernel), List.mem_of_getElem? (i := 575) (by decide +kernel)⟩
theorem lw_p14 : lw_okq (⟨"RopeRanks$Strengths", "readBounds", "()V"⟩, 6) := ⟨⟨by decide +kernel, by decide +kernel⟩, List.mem_of_getElem? (i := 244) (by decide +kernel), List.mem_of_getElem? (i := 602) (by decide +kernel), List.mem_of_getElem? (i := 603) (by decide +kernel)⟩
theorem lw_p15 : lw_okq (⟨"RopeRanks$Strengths", "ringOf", "(J)J"⟩, 6) := ⟨⟨by decide +kernel, by decide +kernel⟩, List.mem_of_getElem? (i := 244) (by decide +kernel), List.mem_of_getElem? (i := 621) (by decide +kernel), List.mem_of_getElem? (i := 622) (by decide +kernel)⟩
def lw_privs_1 : List (MethodName × Nat) := [(⟨"RopeRanks$Formula", "readLevel", "(I)V"⟩, 10), (⟨"RopeRanks$Formula", "readUnit", "()V"⟩, 10), (⟨"RopeRanks$Formula", "next", "()I"⟩, 10), (⟨"RopeRanks$Formula", "readDigits", "()V"⟩, 10), (⟨"RopeRanks$Formula", "fail", "(I)V"⟩, 10), (⟨"RopeRanks$Formula", "add", "(I)V"⟩, 10), (⟨"RopeRanks$Formula", "readBrackets", "()V"⟩, 10), (⟨"RopeRanks$Formula", "addAheadSigns", "(II)V"⟩, 10), (⟨"RopeRanks$Ladder", "changeOf", "(IIII)I"⟩, 6), (⟨"RopeRanks$Formula", "push", "(J)V"⟩, 10), (⟨"RopeRanks$Formula", "work", "(I)V"⟩, 10), (⟨"RopeRanks$Formula", "pop", "()J"⟩, 10), (⟨"RopeRanks$Ladder", "settle", "(III)V"⟩, 6), (⟨"RopeRanks$Ladder", "pointsFor", "(I)I"⟩, 6), (⟨"RopeRanks$Strengths", "readBounds", "()V"⟩, 6), (⟨"RopeRanks$Strengths", "ringOf", "(J)J"⟩, 6)]
theorem lw_r1 : ∀ q ∈ lw_privs_1, lw_okq q := List.forall_mem_cons.mpr ⟨lw_p0, List.forall_mem_cons.mpr ⟨lw_p1, List.forall_mem_cons.mpr ⟨lw_p2, List.forall_mem_cons.mpr ⟨lw_p3, List.forall_mem_cons.mpr ⟨lw_p4, List.forall_mem_cons.mpr ⟨lw_p5, List.forall_mem_cons.mpr ⟨lw_p6, List.forall_mem_cons.mpr ⟨lw_p7, List.forall_mem_cons.mpr ⟨lw_p8, List.forall_mem_cons.mpr ⟨lw_p9, List.forall_mem_cons.mpr ⟨lw_p10, List.forall_mem_cons.mpr ⟨lw_p11, List.forall_mem_cons.mpr ⟨lw_p12, List.forall_mem_cons.mpr ⟨lw_p13, List.forall_mem_cons.mpr ⟨lw_p14, List.forall_mem_cons.mpr ⟨lw_p15, fun _ h => absurd h List.not_mem_nil⟩⟩⟩⟩⟩⟩⟩⟩⟩⟩⟩⟩⟩⟩⟩⟩
theorem lw_p16 : lw_okq (⟨"RopeRanks$Strengths", "tighten", "(J)Z"⟩, 6) := ⟨⟨by decide +kernel, by decide +kernel⟩, List.mem_of_getElem? (i := 244) (by decide +kernel), List.mem_of_getElem? (i := 626) (by decide +kernel), List.mem_of_getElem? (i := 627) (by decide +kernel)⟩
theorem lw_p17 : lw_okq (⟨"RopeRanks$Strengths", "lower", "(IIII)Z"⟩, 6) := ⟨⟨by decide +kernel, by decide +kernel⟩, List.mem_of_getElem? (i := 244) (by decide +kernel), List.mem_of_getElem? (i := 630) (by decide +kernel), List.mem_of_getElem? (i := 631) (by decide +kernel)⟩
theorem lw_p18 : lw_okq (⟨"RopeRanks$Strengths", "ringOfVias", "()J"⟩, 6) := ⟨⟨by decide +kernel, by decide +kernel⟩, List.mem_of_getElem? (i := 244) (by decide +kernel), List.mem_of_getElem? (i := 635) (by decide +kernel), List.mem_of_getElem? (i := 636) (by decide +kernel)⟩
theorem lw_p19 : lw_okq (⟨"RopeRanks$Strengths", "ringThrough", "(I)J"⟩, 6) := ⟨⟨by decide +kernel, by decide +kernel⟩, List.mem_of_getElem? (i := 244) (by decide +kernel), List.mem_of_getElem? (i := 643) (by decide +kernel), List.mem_of_getElem? (i := 644) (by decide +kernel)⟩
theorem lw_p20 : lw_okq (⟨"RopeRanks$Ropes", "link", "(J)V"⟩, 3) := ⟨⟨by decide +kernel, by decide +kernel⟩, List.mem_of_getElem? (i := 269) (by decide +kernel), List.mem_of_getElem? (i := 657) (by decide +kernel), List.mem_of_getElem? (i := 658) (by decide +kernel)⟩
theorem lw_p21 : lw_okq (⟨"RopeRanks$Ropes", "measure", "(I)V"⟩, 3) := ⟨⟨by decide +kernel, by decide +kernel⟩, List.mem_of_getElem? (i := 269) (by decide +kernel), List.mem_of_getElem? (i := 662) (by decide +kernel), List.mem_of_getElem? (i := 663) (by decide +kernel)⟩
theorem lw_p22 : lw_okq (⟨"RopeRanks$Strengths", "ringsApart", "(J)I"⟩, 6) := ⟨⟨by decide +kernel, by decide +kernel⟩, List.mem_of_getElem? (i := 244) (by decide +kernel), List.mem_of_getElem? (i := 679) (by decide +kernel), List.mem_of_getElem? (i := 680) (by decide +kernel)⟩
theorem lw_p23 : lw_okq (⟨"RopeRanks$Strengths", "leaveOut", "(JJJI)V"⟩, 6) := ⟨⟨by decide +kernel, by decide +kernel⟩, List.mem_of_getElem? (i := 244) (by decide +kernel), List.mem_of_getElem? (i := 684) (by decide +kernel), List.mem_of_getElem? (i := 685) (by decide +kernel)⟩
theorem lw_p24 : lw_okq (⟨"RopeRanks$Ropes", "leastMeasured", "()I"⟩, 3) := ⟨⟨by decide +kernel, by decide +kernel⟩, List.mem_of_getElem? (i := 269) (by decide +kernel), List.mem_of_getElem? (i := 697) (by decide +kernel), List.mem_of_getElem? (i := 698) (by decide +kernel)⟩
theorem lw_p25 : lw_okq (⟨"RopeRanks$Ropes", "nearerThan", "(I)I"⟩, 3) := ⟨⟨by decide +kernel, by decide +kernel⟩, List.mem_of_getElem? (i := 269) (by decide +kernel), List.mem_of_getElem? (i := 718) (by decide +kernel), List.mem_of_getElem? (i := 719) (by decide +kernel)⟩
theorem lw_p26 : lw_okq (⟨"RopeRanks$Ropes", "leastMeeting", "(II)I"⟩, 3) := ⟨⟨by decide +kernel, by decide +kernel⟩, List.mem_of_getElem? (i := 269) (by decide +kernel), List.mem_of_getElem? (i := 722) (by decide +kernel), List.mem_of_getElem? (i := 723) (by decide +kernel)⟩
theorem lw_p27 : lw_okq (⟨"RopeRanks$Crown", "judgeYear", "(III)V"⟩, 7) := ⟨⟨by decide +kernel, by decide +kernel⟩, List.mem_of_getElem? (i := 213) (by decide +kernel), List.mem_of_getElem? (i := 752) (by decide +kernel), List.mem_of_getElem? (i := 753) (by decide +kernel)⟩
theorem lw_p28 : lw_okq (⟨"RopeRanks$Crown", "offer", "(IJJ)V"⟩, 7) := ⟨⟨by decide +kernel, by decide +kernel⟩, List.mem_of_getElem? (i := 213) (by decide +kernel), List.mem_of_getElem? (i := 758) (by decide +kernel), List.mem_of_getElem? (i := 759) (by decide +kernel)⟩
theorem lw_p29 : lw_okq (⟨"RopeRanks$Crown", "judgeRow", "(II)V"⟩, 7) := ⟨⟨by decide +kernel, by decide +kernel⟩, List.mem_of_getElem? (i := 213) (by decide +kernel), List.mem_of_getElem? (i := 762) (by decide +kernel), List.mem_of_getElem? (i := 763) (by decide +kernel)⟩
theorem lw_p30 : lw_okq (⟨"RopeRanks$Wins", "readWins", "()V"⟩, 7) := ⟨⟨by decide +kernel, by decide +kernel⟩, List.mem_of_getElem? (i := 285) (by decide +kernel), List.mem_of_getElem? (i := 775) (by decide +kernel), List.mem_of_getElem? (i := 776) (by decide +kernel)⟩
theorem lw_p31 : lw_okq (⟨"RopeRanks$Wins", "ring", "(III)I"⟩, 7) := ⟨⟨by decide +kernel, by decide +kernel⟩, List.mem_of_getElem? (i := 285) (by decide +kernel), List.mem_of_getElem? (i := 781) (by decide +kernel), List.mem_of_getElem? (i := 782) (by decide +kernel)⟩
def lw_privs_2 : List (MethodName × Nat) := [(⟨"RopeRanks$Strengths", "tighten", "(J)Z"⟩, 6), (⟨"RopeRanks$Strengths", "lower", "(IIII)Z"⟩, 6), (⟨"RopeRanks$Strengths", "ringOfVias", "()J"⟩, 6), (⟨"RopeRanks$Strengths", "ringThrough", "(I)J"⟩, 6), (⟨"RopeRanks$Ropes", "link", "(J)V"⟩, 3), (⟨"RopeRanks$Ropes", "measure", "(I)V"⟩, 3), (⟨"RopeRanks$Strengths", "ringsApart", "(J)I"⟩, 6), (⟨"RopeRanks$Strengths", "leaveOut", "(JJJI)V"⟩, 6), (⟨"RopeRanks$Ropes", "leastMeasured", "()I"⟩, 3), (⟨"RopeRanks$Ropes", "nearerThan", "(I)I"⟩, 3), (⟨"RopeRanks$Ropes", "leastMeeting", "(II)I"⟩, 3), (⟨"RopeRanks$Crown", "judgeYear", "(III)V"⟩, 7), (⟨"RopeRanks$Crown", "offer", "(IJJ)V"⟩, 7), (⟨"RopeRanks$Crown", "judgeRow", "(II)V"⟩, 7), (⟨"RopeRanks$Wins", "readWins", "()V"⟩, 7), (⟨"RopeRanks$Wins", "ring", "(III)I"⟩, 7)]
theorem lw_r2 : ∀ q ∈ lw_privs_2, lw_okq q := List.forall_mem_cons.mpr ⟨lw_p16, List.forall_mem_cons.mpr ⟨lw_p17, List.forall_mem_cons.mpr ⟨lw_p18, List.forall_mem_cons.mpr ⟨lw_p19, List.forall_mem_cons.mpr ⟨lw_p20, List.forall_mem_cons.mpr ⟨lw_p21, List.forall_mem_cons.mpr ⟨lw_p22, List.forall_mem_cons.mpr ⟨lw_p23, List.forall_mem_cons.mpr ⟨lw_p24, List.forall_mem_cons.mpr ⟨lw_p25, List.forall_mem_cons.mpr ⟨lw_p26, List.forall_mem_cons.mpr ⟨lw_p27, List.forall_mem_cons.mpr ⟨lw_p28, List.forall_mem_cons.mpr ⟨lw_p29, List.forall_mem_cons.mpr ⟨lw_p30, List.forall_mem_cons.mpr ⟨lw_p31, fun _ h => absurd h List.not_mem_nil⟩⟩⟩⟩⟩⟩⟩⟩⟩⟩⟩⟩⟩⟩⟩⟩
theorem lw_p32 : lw_okq (⟨"RopeRanks$Wins", "winsOf", "(II)I"⟩, 7) := ⟨⟨by decide +kernel, by decide +kernel⟩, List.mem_of_getElem? (i := 285) (by decide +kernel), List.mem_of_getElem? (i := 785) (by decide +kernel), List.mem_of_getElem? (i := 786) (by decide +kernel)⟩
theorem lw_p33 : lw_okq (⟨"RopeRanks$Wins", "readRest", "()V"⟩, 7) := ⟨⟨by decide +kernel, by decide +kernel⟩, List.mem_of_getElem? (i := 285) (by decide +kernel), List.mem_of_getElem? (i := 797) (by decide +kernel), List.mem_of_getElem? (i := 798) (by decide +kernel)⟩
theorem lw_p34 : lw_okq (⟨"RopeRanks$Wins", "giveWay", "(II)V"⟩, 7) := ⟨⟨by decide +kernel, by decide +kernel⟩, List.mem_of_getElem? (i := 285) (by decide +kernel), List.mem_of_getElem? (i := 802) (by decide +kernel), List.mem_of_getElem? (i := 803) (by decide +kernel)⟩
theorem lw_p35 : lw_okq (⟨"RopeRanks$Wins", "readGain", "(I)V"⟩, 7) := ⟨⟨by decide +kernel, by decide +kernel⟩, List.mem_of_getElem? (i := 285) (by decide +kernel), List.mem_of_getElem? (i := 807) (by decide +kernel), List.mem_of_getElem? (i := 808) (by decide +kernel)⟩
theorem lw_p36 : lw_okq (⟨"RopeRanks", "putRight", "(I)V"⟩, 9) := ⟨⟨by decide +kernel, by decide +kernel⟩, List.mem_of_getElem? (i := 18) (by decide +kernel), List.mem_of_getElem? (i := 858) (by decide +kernel), List.mem_of_getElem? (i := 859) (by decide +kernel)⟩
theorem lw_p37 : lw_okq (⟨"RopeRanks$Records", "digestedPlayers", "(J)J"⟩, 18) := ⟨⟨by decide +kernel, by decide +kernel⟩, List.mem_of_getElem? (i := 26) (by decide +kernel), List.mem_of_getElem? (i := 901) (by decide +kernel), List.mem_of_getElem? (i := 902) (by decide +kernel)⟩
theorem lw_p38 : lw_okq (⟨"RopeRanks$Records", "digestedMeetings", "(J)J"⟩, 18) := ⟨⟨by decide +kernel, by decide +kernel⟩, List.mem_of_getElem? (i := 26) (by decide +kernel), List.mem_of_getElem? (i := 906) (by decide +kernel), List.mem_of_getElem? (i := 907) (by decide +kernel)⟩
theorem lw_p39 : lw_okq (⟨"RopeRanksModel", "players", "()I"⟩, 27) := ⟨⟨by decide +kernel, by decide +kernel⟩, List.mem_of_getElem? (i := 910) (by decide +kernel), List.mem_of_getElem? (i := 1008) (by decide +kernel), List.mem_of_getElem? (i := 1009) (by decide +kernel)⟩
theorem lw_p40 : lw_okq (⟨"RopeRanksModel", "meetings", "()I"⟩, 27) := ⟨⟨by decide +kernel, by decide +kernel⟩, List.mem_of_getElem? (i := 910) (by decide +kernel), List.mem_of_getElem? (i := 1016) (by decide +kernel), List.mem_of_getElem? (i := 1017) (by decide +kernel)⟩
theorem lw_p41 : lw_okq (⟨"RopeRanksModel", "of", "(II)I"⟩, 27) := ⟨⟨by decide +kernel, by decide +kernel⟩, List.mem_of_getElem? (i := 910) (by decide +kernel), List.mem_of_getElem? (i := 1020) (by decide +kernel), List.mem_of_getElem? (i := 1021) (by decide +kernel)⟩
theorem lw_p42 : lw_okq (⟨"RopeRanksModel", "isPlayer", "(I)Z"⟩, 27) := ⟨⟨by decide +kernel, by decide +kernel⟩, List.mem_of_getElem? (i := 910) (by decide +kernel), List.mem_of_getElem? (i := 1024) (by decide +kernel), List.mem_of_getElem? (i := 1025) (by decide +kernel)⟩
theorem lw_p43 : lw_okq (⟨"RopeRanksModel", "isSound", "(I)Z"⟩, 27) := ⟨⟨by decide +kernel, by decide +kernel⟩, List.mem_of_getElem? (i := 910) (by decide +kernel), List.mem_of_getElem? (i := 1055) (by decide +kernel), List.mem_of_getElem? (i := 1056) (by decide +kernel)⟩
theorem lw_p44 : lw_okq (⟨"RopeRanksModel", "reads", "()Z"⟩, 27) := ⟨⟨by decide +kernel, by decide +kernel⟩, List.mem_of_getElem? (i := 910) (by decide +kernel), List.mem_of_getElem? (i := 1059) (by decide +kernel), List.mem_of_getElem? (i := 1060) (by decide +kernel)⟩
theorem lw_p45 : lw_okq (⟨"RopeRanksModel", "ahead", "()I"⟩, 27) := ⟨⟨by decide +kernel, by decide +kernel⟩, List.mem_of_getElem? (i := 910) (by decide +kernel), List.mem_of_getElem? (i := 1063) (by decide +kernel), List.mem_of_getElem? (i := 1064) (by decide +kernel)⟩
theorem lw_p46 : lw_okq (⟨"RopeRanksModel", "textLong", "()I"⟩, 27) := ⟨⟨by decide +kernel, by decide +kernel⟩, List.mem_of_getElem? (i := 910) (by decide +kernel), List.mem_of_getElem? (i := 1067) (by decide +kernel), List.mem_of_getElem? (i := 1068) (by decide +kernel)⟩
theorem lw_p47 : lw_okq (⟨"RopeRanksModel", "charAt", "(I)I"⟩, 27) := ⟨⟨by decide +kernel, by decide +kernel⟩, List.mem_of_getElem? (i := 910) (by decide +kernel), List.mem_of_getElem? (i := 1071) (by decide +kernel), List.mem_of_getElem? (i := 1072) (by decide +kernel)⟩
def lw_privs_3 : List (MethodName × Nat) := [(⟨"RopeRanks$Wins", "winsOf", "(II)I"⟩, 7), (⟨"RopeRanks$Wins", "readRest", "()V"⟩, 7), (⟨"RopeRanks$Wins", "giveWay", "(II)V"⟩, 7), (⟨"RopeRanks$Wins", "readGain", "(I)V"⟩, 7), (⟨"RopeRanks", "putRight", "(I)V"⟩, 9), (⟨"RopeRanks$Records", "digestedPlayers", "(J)J"⟩, 18), (⟨"RopeRanks$Records", "digestedMeetings", "(J)J"⟩, 18), (⟨"RopeRanksModel", "players", "()I"⟩, 27), (⟨"RopeRanksModel", "meetings", "()I"⟩, 27), (⟨"RopeRanksModel", "of", "(II)I"⟩, 27), (⟨"RopeRanksModel", "isPlayer", "(I)Z"⟩, 27), (⟨"RopeRanksModel", "isSound", "(I)Z"⟩, 27), (⟨"RopeRanksModel", "reads", "()Z"⟩, 27), (⟨"RopeRanksModel", "ahead", "()I"⟩, 27), (⟨"RopeRanksModel", "textLong", "()I"⟩, 27), (⟨"RopeRanksModel", "charAt", "(I)I"⟩, 27)]
theorem lw_r3 : ∀ q ∈ lw_privs_3, lw_okq q := List.forall_mem_cons.mpr ⟨lw_p32, List.forall_mem_cons.mpr ⟨lw_p33, List.forall_mem_cons.mpr ⟨lw_p34, List.forall_mem_cons.mpr ⟨lw_p35, List.forall_mem_cons.mpr ⟨lw_p36, List.forall_mem_cons.mpr ⟨lw_p37, List.forall_mem_cons.mpr ⟨lw_p38, List.forall_mem_cons.mpr ⟨lw_p39, List.forall_mem_cons.mpr ⟨lw_p40, List.forall_mem_cons.mpr ⟨lw_p41, List.forall_mem_cons.mpr ⟨lw_p42, List.forall_mem_cons.mpr ⟨lw_p43, List.forall_mem_cons.mpr ⟨lw_p44, List.forall_mem_cons.mpr ⟨lw_p45, List.forall_mem_cons.mpr ⟨lw_p46, List.forall_mem_cons.mpr ⟨lw_p47, fun _ h => absurd h List.not_mem_nil⟩⟩⟩⟩⟩⟩⟩⟩⟩⟩⟩⟩⟩⟩⟩⟩
theorem lw_p48 : lw_okq (⟨"RopeRanksModel", "digits", "()J"⟩, 27) := ⟨⟨by decide +kernel, by decide +kernel⟩, List.mem_of_getElem? (i := 910) (by decide +kernel), List.mem_of_getElem? (i := 1077) (by decide +kernel), List.mem_of_getElem? (i := 1078) (by decide +kernel)⟩
theorem lw_p49 : lw_okq (⟨"RopeRanksModel", "stands", "(J)V"⟩, 27) := ⟨⟨by decide +kernel, by decide +kernel⟩, List.mem_of_getElem? (i := 910) (by decide +kernel), List.mem_of_getElem? (i := 1082) (by decide +kernel), List.mem_of_getElem? (i := 1083) (by decide +kernel)⟩
theorem lw_p50 : lw_okq (⟨"RopeRanksModel", "worksDown", "(I)V"⟩, 27) := ⟨⟨by decide +kernel, by decide +kernel⟩, List.mem_of_getElem? (i := 910) (by decide +kernel), List.mem_of_getElem? (i := 1089) (by decide +kernel), List.mem_of_getElem? (i := 1090) (by decide +kernel)⟩
theorem lw_p51 : lw_okq (⟨"RopeRanksModel", "works", "()V"⟩, 27) := ⟨⟨by decide +kernel, by decide +kernel⟩, List.mem_of_getElem? (i := 910) (by decide +kernel), List.mem_of_getElem? (i := 1096) (by decide +kernel), List.mem_of_getElem? (i := 1097) (by decide +kernel)⟩
theorem lw_p52 : lw_okq (⟨"RopeRanksModel", "begins", "(I)V"⟩, 27) := ⟨⟨by decide +kernel, by decide +kernel⟩, List.mem_of_getElem? (i := 910) (by decide +kernel), List.mem_of_getElem? (i := 1105) (by decide +kernel), List.mem_of_getElem? (i := 1106) (by decide +kernel)⟩
theorem lw_p53 : lw_okq (⟨"RopeRanksModel", "step", "(II)V"⟩, 27) := ⟨⟨by decide +kernel, by decide +kernel⟩, List.mem_of_getElem? (i := 910) (by decide +kernel), List.mem_of_getElem? (i := 1109) (by decide +kernel), List.mem_of_getElem? (i := 1110) (by decide +kernel)⟩
theorem lw_p54 : lw_okq (⟨"RopeRanksModel", "changeOf", "(IIII)I"⟩, 27) := ⟨⟨by decide +kernel, by decide +kernel⟩, List.mem_of_getElem? (i := 910) (by decide +kernel), List.mem_of_getElem? (i := 1113) (by decide +kernel), List.mem_of_getElem? (i := 1114) (by decide +kernel)⟩
theorem lw_p55 : lw_okq (⟨"RopeRanksModel", "goTo", "(II)V"⟩, 27) := ⟨⟨by decide +kernel, by decide +kernel⟩, List.mem_of_getElem? (i := 910) (by decide +kernel), List.mem_of_getElem? (i := 1130) (by decide +kernel), List.mem_of_getElem? (i := 1131) (by decide +kernel)⟩
theorem lw_p56 : lw_okq (⟨"RopeRanksModel", "hasMet", "(II)Z"⟩, 27) := ⟨⟨by decide +kernel, by decide +kernel⟩, List.mem_of_getElem? (i := 910) (by decide +kernel), List.mem_of_getElem? (i := 1134) (by decide +kernel), List.mem_of_getElem? (i := 1135) (by decide +kernel)⟩
theorem lw_p57 : lw_okq (⟨"RopeRanksModel", "isIn", "(II)Z"⟩, 27) := ⟨⟨by decide +kernel, by decide +kernel⟩, List.mem_of_getElem? (i := 910) (by decide +kernel), List.mem_of_getElem? (i := 1138) (by decide +kernel), List.mem_of_getElem? (i := 1139) (by decide +kernel)⟩
theorem lw_p58 : lw_okq (⟨"RopeRanksModel", "tell", "(JJ)V"⟩, 27) := ⟨⟨by decide +kernel, by decide +kernel⟩, List.mem_of_getElem? (i := 910) (by decide +kernel), List.mem_of_getElem? (i := 1142) (by decide +kernel), List.mem_of_getElem? (i := 1143) (by decide +kernel)⟩
theorem lw_p59 : lw_okq (⟨"RopeRanksModel", "foretells", "(I)I"⟩, 27) := ⟨⟨by decide +kernel, by decide +kernel⟩, List.mem_of_getElem? (i := 910) (by decide +kernel), List.mem_of_getElem? (i := 1154) (by decide +kernel), List.mem_of_getElem? (i := 1155) (by decide +kernel)⟩
theorem lw_p60 : lw_okq (⟨"RopeRanksModel", "agree", "(III)Z"⟩, 27) := ⟨⟨by decide +kernel, by decide +kernel⟩, List.mem_of_getElem? (i := 910) (by decide +kernel), List.mem_of_getElem? (i := 1178) (by decide +kernel), List.mem_of_getElem? (i := 1179) (by decide +kernel)⟩
theorem lw_p61 : lw_okq (⟨"RopeRanksModel", "doesSay", "(I)Z"⟩, 27) := ⟨⟨by decide +kernel, by decide +kernel⟩, List.mem_of_getElem? (i := 910) (by decide +kernel), List.mem_of_getElem? (i := 1183) (by decide +kernel), List.mem_of_getElem? (i := 1184) (by decide +kernel)⟩
theorem lw_p62 : lw_okq (⟨"RopeRanksModel", "shapeOf", "(II)I"⟩, 27) := ⟨⟨by decide +kernel, by decide +kernel⟩, List.mem_of_getElem? (i := 910) (by decide +kernel), List.mem_of_getElem? (i := 1187) (by decide +kernel), List.mem_of_getElem? (i := 1188) (by decide +kernel)⟩
theorem lw_p63 : lw_okq (⟨"RopeRanksModel", "bound", "(III)V"⟩, 27) := ⟨⟨by decide +kernel, by decide +kernel⟩, List.mem_of_getElem? (i := 910) (by decide +kernel), List.mem_of_getElem? (i := 1191) (by decide +kernel), List.mem_of_getElem? (i := 1192) (by decide +kernel)⟩
def lw_privs_4 : List (MethodName × Nat) := [(⟨"RopeRanksModel", "digits", "()J"⟩, 27), (⟨"RopeRanksModel", "stands", "(J)V"⟩, 27), (⟨"RopeRanksModel", "worksDown", "(I)V"⟩, 27), (⟨"RopeRanksModel", "works", "()V"⟩, 27), (⟨"RopeRanksModel", "begins", "(I)V"⟩, 27), (⟨"RopeRanksModel", "step", "(II)V"⟩, 27), (⟨"RopeRanksModel", "changeOf", "(IIII)I"⟩, 27), (⟨"RopeRanksModel", "goTo", "(II)V"⟩, 27), (⟨"RopeRanksModel", "hasMet", "(II)Z"⟩, 27), (⟨"RopeRanksModel", "isIn", "(II)Z"⟩, 27), (⟨"RopeRanksModel", "tell", "(JJ)V"⟩, 27), (⟨"RopeRanksModel", "foretells", "(I)I"⟩, 27), (⟨"RopeRanksModel", "agree", "(III)Z"⟩, 27), (⟨"RopeRanksModel", "doesSay", "(I)Z"⟩, 27), (⟨"RopeRanksModel", "shapeOf", "(II)I"⟩, 27), (⟨"RopeRanksModel", "bound", "(III)V"⟩, 27)]
theorem lw_r4 : ∀ q ∈ lw_privs_4, lw_okq q := List.forall_mem_cons.mpr ⟨lw_p48, List.forall_mem_cons.mpr ⟨lw_p49, List.forall_mem_cons.mpr ⟨lw_p50, List.forall_mem_cons.mpr ⟨lw_p51, List.forall_mem_cons.mpr ⟨lw_p52, List.forall_mem_cons.mpr ⟨lw_p53, List.forall_mem_cons.mpr ⟨lw_p54, List.forall_mem_cons.mpr ⟨lw_p55, List.forall_mem_cons.mpr ⟨lw_p56, List.forall_mem_cons.mpr ⟨lw_p57, List.forall_mem_cons.mpr ⟨lw_p58, List.forall_mem_cons.mpr ⟨lw_p59, List.forall_mem_cons.mpr ⟨lw_p60, List.forall_mem_cons.mpr ⟨lw_p61, List.forall_mem_cons.mpr ⟨lw_p62, List.forall_mem_cons.mpr ⟨lw_p63, fun _ h => absurd h List.not_mem_nil⟩⟩⟩⟩⟩⟩⟩⟩⟩⟩⟩⟩⟩⟩⟩⟩
theorem lw_p64 : lw_okq (⟨"RopeRanksModel", "leastOf", "(I)I"⟩, 27) := ⟨⟨by decide +kernel, by decide +kernel⟩, List.mem_of_getElem? (i := 910) (by decide +kernel), List.mem_of_getElem? (i := 1210) (by decide +kernel), List.mem_of_getElem? (i := 1211) (by decide +kernel)⟩
theorem lw_p65 : lw_okq (⟨"RopeRanksModel", "goFrom", "(II)V"⟩, 27) := ⟨⟨by decide +kernel, by decide +kernel⟩, List.mem_of_getElem? (i := 910) (by decide +kernel), List.mem_of_getElem? (i := 1214) (by decide +kernel), List.mem_of_getElem? (i := 1215) (by decide +kernel)⟩
theorem lw_p66 : lw_okq (⟨"RopeRanksModel", "bestAbove", "(I)I"⟩, 27) := ⟨⟨by decide +kernel, by decide +kernel⟩, List.mem_of_getElem? (i := 910) (by decide +kernel), List.mem_of_getElem? (i := 1231) (by decide +kernel), List.mem_of_getElem? (i := 1232) (by decide +kernel)⟩
theorem lw_p67 : lw_okq (⟨"RopeRanksModel", "findRun", "(III)Z"⟩, 27) := ⟨⟨by decide +kernel, by decide +kernel⟩, List.mem_of_getElem? (i := 910) (by decide +kernel), List.mem_of_getElem? (i := 1235) (by decide +kernel), List.mem_of_getElem? (i := 1236) (by decide +kernel)⟩
theorem lw_p68 : lw_okq (⟨"RopeRanksModel", "findEnds", "(II)V"⟩, 27) := ⟨⟨by decide +kernel, by decide +kernel⟩, List.mem_of_getElem? (i := 910) (by decide +kernel), List.mem_of_getElem? (i := 1239) (by decide +kernel), List.mem_of_getElem? (i := 1240) (by decide +kernel)⟩
theorem lw_p69 : lw_okq (⟨"RopeRanksModel", "hasBeaten", "(II)Z"⟩, 27) := ⟨⟨by decide +kernel, by decide +kernel⟩, List.mem_of_getElem? (i := 910) (by decide +kernel), List.mem_of_getElem? (i := 1247) (by decide +kernel), List.mem_of_getElem? (i := 1248) (by decide +kernel)⟩
theorem lw_p70 : lw_okq (⟨"RopeRanksModel", "metOf", "(IIZ)I"⟩, 27) := ⟨⟨by decide +kernel, by decide +kernel⟩, List.mem_of_getElem? (i := 910) (by decide +kernel), List.mem_of_getElem? (i := 1259) (by decide +kernel), List.mem_of_getElem? (i := 1260) (by decide +kernel)⟩
theorem lw_p71 : lw_okq (⟨"RopeRanksModel", "sums", "(JII)J"⟩, 27) := ⟨⟨by decide +kernel, by decide +kernel⟩, List.mem_of_getElem? (i := 910) (by decide +kernel), List.mem_of_getElem? (i := 1307) (by decide +kernel), List.mem_of_getElem? (i := 1308) (by decide +kernel)⟩
def lw_privs_5 : List (MethodName × Nat) := [(⟨"RopeRanksModel", "leastOf", "(I)I"⟩, 27), (⟨"RopeRanksModel", "goFrom", "(II)V"⟩, 27), (⟨"RopeRanksModel", "bestAbove", "(I)I"⟩, 27), (⟨"RopeRanksModel", "findRun", "(III)Z"⟩, 27), (⟨"RopeRanksModel", "findEnds", "(II)V"⟩, 27), (⟨"RopeRanksModel", "hasBeaten", "(II)Z"⟩, 27), (⟨"RopeRanksModel", "metOf", "(IIZ)I"⟩, 27), (⟨"RopeRanksModel", "sums", "(JII)J"⟩, 27)]
theorem lw_r5 : ∀ q ∈ lw_privs_5, lw_okq q := List.forall_mem_cons.mpr ⟨lw_p64, List.forall_mem_cons.mpr ⟨lw_p65, List.forall_mem_cons.mpr ⟨lw_p66, List.forall_mem_cons.mpr ⟨lw_p67, List.forall_mem_cons.mpr ⟨lw_p68, List.forall_mem_cons.mpr ⟨lw_p69, List.forall_mem_cons.mpr ⟨lw_p70, List.forall_mem_cons.mpr ⟨lw_p71, fun _ h => absurd h List.not_mem_nil⟩⟩⟩⟩⟩⟩⟩⟩
def lw_privs : List (MethodName × Nat) := lw_privs_1 ++ (lw_privs_2 ++ (lw_privs_3 ++ (lw_privs_4 ++ (lw_privs_5))))
def lw_tbl : List Cond := k2_sels lw_privs ++ tables_1
theorem lw_privs_ok : ∀ q ∈ lw_privs, lw_okq q := by
  show ∀ q ∈ lw_privs_1 ++ (lw_privs_2 ++ (lw_privs_3 ++ (lw_privs_4 ++ (lw_privs_5)))), lw_okq q
  exact List.forall_mem_append.mpr ⟨lw_r1, List.forall_mem_append.mpr ⟨lw_r2, List.forall_mem_append.mpr ⟨lw_r3, List.forall_mem_append.mpr ⟨lw_r4, lw_r5⟩⟩⟩⟩
def RX0 : String := "RopeRanks$Chance"
def TX0 : u_T := fun k => match k with
  | _ => ("", "", "", false)
def tyX0 : Nat → FieldType := fun k => match k with
  | _ => .int
abbrev wsX00 : List Cond := u_ws RX0 TX0 0
theorem nmX0 : ∀ a, a < 0 → ∀ b, b < 0 → a ≠ b → (TX0 a).2.1 ≠ (TX0 b).2.1 := by decide +kernel
theorem tyX0_ok : ∀ k, k < 0 → parseFieldDescriptor (TX0 k).2.2.1 = some (tyX0 k) := by decide +kernel
abbrev cX0_power : ByteArray := prog_2_method_2_code
def yX0_power : MethodName := ⟨RX0, "power", "(II)J"⟩
abbrev cX0_cases : ByteArray := prog_2_method_3_code
def yX0_cases : MethodName := ⟨RX0, "cases", "(IIII)J"⟩
def RX1 : String := "RopeRanks$Crown"
def TX1 : u_T := fun k => match k with
  | 0 => ("RopeRanks$Crown", "holder", "I", false)
  | 1 => ("RopeRanks$Crown", "above", "J", false)
  | 2 => ("RopeRanks$Crown", "below", "J", false)
  | 3 => ("RopeRanks$Crown", "records", "LRopeRanks$Records;", true)
  | 4 => ("RopeRanks$Crown", "ladder", "LRopeRanks$Ladder;", true)
  | 5 => ("RopeRanks$Crown", "ends", "[I", true)
  | _ => ("RopeRanks$Crown", "years", "[I", true)
def tyX1 : Nat → FieldType := fun k => match k with
  | 0 => .int
  | 1 => .long
  | 2 => .long
  | 3 => .object "RopeRanks$Records"
  | 4 => .object "RopeRanks$Ladder"
  | 5 => .array .int
  | _ => .array .int
abbrev wsX10 : List Cond := u_ws RX1 TX1 7
theorem nmX1 : ∀ a, a < 7 → ∀ b, b < 7 → a ≠ b → (TX1 a).2.1 ≠ (TX1 b).2.1 := by decide +kernel
theorem tyX1_ok : ∀ k, k < 7 → parseFieldDescriptor (TX1 k).2.2.1 = some (tyX1 k) := by decide +kernel
abbrev cX1_init : ByteArray := prog_3_method_1_code
def yX1_init : MethodName := ⟨RX1, "<init>", "(LRopeRanks$Records;LRopeRanks$Ladder;)V"⟩
abbrev cX1_ask : ByteArray := prog_3_method_2_code
def yX1_ask : MethodName := ⟨RX1, "ask", "(III)V"⟩
abbrev cX1_judgeYear : ByteArray := prog_3_method_3_code
def yX1_judgeYear : MethodName := ⟨RX1, "judgeYear", "(III)V"⟩
abbrev cX1_judgeRow : ByteArray := prog_3_method_4_code
def yX1_judgeRow : MethodName := ⟨RX1, "judgeRow", "(II)V"⟩
abbrev cX1_offer : ByteArray := prog_3_method_5_code
def yX1_offer : MethodName := ⟨RX1, "offer", "(IJJ)V"⟩
def RX2 : String := "RopeRanks$Formula"
def TX2 : u_T := fun k => match k with
  | 0 => ("RopeRanks$Formula", "told", "[J", true)
  | 1 => ("RopeRanks$Formula", "flaw", "I", false)
  | 2 => ("RopeRanks$Formula", "signs", "[I", true)
  | 3 => ("RopeRanks$Formula", "steps", "[I", true)
  | 4 => ("RopeRanks$Formula", "stack", "[J", true)
  | 5 => ("RopeRanks$Formula", "length", "I", false)
  | 6 => ("RopeRanks$Formula", "place", "I", false)
  | 7 => ("RopeRanks$Formula", "open", "I", false)
  | 8 => ("RopeRanks$Formula", "size", "I", false)
  | _ => ("RopeRanks$Formula", "top", "I", false)
def tyX2 : Nat → FieldType := fun k => match k with
  | 0 => .array .long
  | 1 => .int
  | 2 => .array .int
  | 3 => .array .int
  | 4 => .array .long
  | 5 => .int
  | 6 => .int
  | 7 => .int
  | 8 => .int
  | _ => .int
abbrev wsX20 : List Cond := u_ws RX2 TX2 10
theorem nmX2 : ∀ a, a < 10 → ∀ b, b < 10 → a ≠ b → (TX2 a).2.1 ≠ (TX2 b).2.1 := by decide +kernel
theorem tyX2_ok : ∀ k, k < 10 → parseFieldDescriptor (TX2 k).2.2.1 = some (tyX2 k) := by decide +kernel
abbrev cX2_init : ByteArray := prog_4_method_1_code
def yX2_init : MethodName := ⟨RX2, "<init>", "()V"⟩
abbrev cX2_read : ByteArray := prog_4_method_2_code
def yX2_read : MethodName := ⟨RX2, "read", "(LRopeRanks$Records;I)V"⟩
abbrev cX2_worth : ByteArray := prog_4_method_3_code
def yX2_worth : MethodName := ⟨RX2, "worth", "()J"⟩
abbrev cX2_readLevel : ByteArray := prog_4_method_4_code
def yX2_readLevel : MethodName := ⟨RX2, "readLevel", "(I)V"⟩
abbrev cX2_readUnit : ByteArray := prog_4_method_5_code
def yX2_readUnit : MethodName := ⟨RX2, "readUnit", "()V"⟩
abbrev cX2_addAheadSigns : ByteArray := prog_4_method_6_code
def yX2_addAheadSigns : MethodName := ⟨RX2, "addAheadSigns", "(II)V"⟩
abbrev cX2_readDigits : ByteArray := prog_4_method_7_code
def yX2_readDigits : MethodName := ⟨RX2, "readDigits", "()V"⟩
abbrev cX2_readBrackets : ByteArray := prog_4_method_8_code
def yX2_readBrackets : MethodName := ⟨RX2, "readBrackets", "()V"⟩
abbrev cX2_next : ByteArray := prog_4_method_9_code
def yX2_next : MethodName := ⟨RX2, "next", "()I"⟩
abbrev cX2_fail : ByteArray := prog_4_method_10_code
def yX2_fail : MethodName := ⟨RX2, "fail", "(I)V"⟩
abbrev cX2_add : ByteArray := prog_4_method_11_code
def yX2_add : MethodName := ⟨RX2, "add", "(I)V"⟩
abbrev cX2_levelOf : ByteArray := prog_4_method_12_code
def yX2_levelOf : MethodName := ⟨RX2, "levelOf", "(I)I"⟩
abbrev cX2_letterOf : ByteArray := prog_4_method_13_code
def yX2_letterOf : MethodName := ⟨RX2, "letterOf", "(I)I"⟩
abbrev cX2_work : ByteArray := prog_4_method_14_code
def yX2_work : MethodName := ⟨RX2, "work", "(I)V"⟩
abbrev cX2_between : ByteArray := prog_4_method_15_code
def yX2_between : MethodName := ⟨RX2, "between", "(JIJ)J"⟩
abbrev cX2_push : ByteArray := prog_4_method_16_code
def yX2_push : MethodName := ⟨RX2, "push", "(J)V"⟩
abbrev cX2_pop : ByteArray := prog_4_method_17_code
def yX2_pop : MethodName := ⟨RX2, "pop", "()J"⟩
def RX3 : String := "RopeRanks$Fraction"
def TX3 : u_T := fun k => match k with
  | 0 => ("RopeRanks$Fraction", "above", "J", false)
  | _ => ("RopeRanks$Fraction", "below", "J", false)
def tyX3 : Nat → FieldType := fun k => match k with
  | 0 => .long
  | _ => .long
abbrev wsX30 : List Cond := u_ws RX3 TX3 2
theorem nmX3 : ∀ a, a < 2 → ∀ b, b < 2 → a ≠ b → (TX3 a).2.1 ≠ (TX3 b).2.1 := by decide +kernel
theorem tyX3_ok : ∀ k, k < 2 → parseFieldDescriptor (TX3 k).2.2.1 = some (tyX3 k) := by decide +kernel
abbrev cX3_init : ByteArray := prog_5_method_1_code
def yX3_init : MethodName := ⟨RX3, "<init>", "()V"⟩
abbrev cX3_put : ByteArray := prog_5_method_2_code
def yX3_put : MethodName := ⟨RX3, "put", "(JJ)V"⟩
abbrev cX3_divisor : ByteArray := prog_5_method_3_code
def yX3_divisor : MethodName := ⟨RX3, "divisor", "(JJ)J"⟩
def RX4 : String := "RopeRanks$Ladder"
def TX4 : u_T := fun k => match k with
  | 0 => ("RopeRanks$Ladder", "number", "[I", true)
  | 1 => ("RopeRanks$Ladder", "records", "LRopeRanks$Records;", true)
  | 2 => ("RopeRanks$Ladder", "formula", "LRopeRanks$Formula;", true)
  | 3 => ("RopeRanks$Ladder", "met", "[I", true)
  | 4 => ("RopeRanks$Ladder", "lastYear", "[I", true)
  | _ => ("RopeRanks$Ladder", "change", "I", false)
def tyX4 : Nat → FieldType := fun k => match k with
  | 0 => .array .int
  | 1 => .object "RopeRanks$Records"
  | 2 => .object "RopeRanks$Formula"
  | 3 => .array .int
  | 4 => .array .int
  | _ => .int
abbrev wsX40 : List Cond := u_ws RX4 TX4 6
theorem nmX4 : ∀ a, a < 6 → ∀ b, b < 6 → a ≠ b → (TX4 a).2.1 ≠ (TX4 b).2.1 := by decide +kernel
theorem tyX4_ok : ∀ k, k < 6 → parseFieldDescriptor (TX4 k).2.2.1 = some (tyX4 k) := by decide +kernel
abbrev cX4_init : ByteArray := prog_6_method_1_code
def yX4_init : MethodName := ⟨RX4, "<init>", "(LRopeRanks$Records;)V"⟩
abbrev cX4_flaw : ByteArray := prog_6_method_2_code
def yX4_flaw : MethodName := ⟨RX4, "flaw", "(I)I"⟩
abbrev cX4_isFlawed : ByteArray := prog_6_method_3_code
def yX4_isFlawed : MethodName := ⟨RX4, "isFlawed", "()Z"⟩
abbrev cX4_begin : ByteArray := prog_6_method_4_code
def yX4_begin : MethodName := ⟨RX4, "begin", "(I)V"⟩
abbrev cX4_playTo : ByteArray := prog_6_method_5_code
def yX4_playTo : MethodName := ⟨RX4, "playTo", "(I)V"⟩
abbrev cX4_play : ByteArray := prog_6_method_6_code
def yX4_play : MethodName := ⟨RX4, "play", "(I)V"⟩
abbrev cX4_changesIn : ByteArray := prog_6_method_7_code
def yX4_changesIn : MethodName := ⟨RX4, "changesIn", "(II)I"⟩
abbrev cX4_rise : ByteArray := prog_6_method_8_code
def yX4_rise : MethodName := ⟨RX4, "rise", "(IIII)I"⟩
abbrev cX4_sumOf : ByteArray := prog_6_method_9_code
def yX4_sumOf : MethodName := ⟨RX4, "sumOf", "(I)I"⟩
abbrev cX4_lastWithout : ByteArray := prog_6_method_10_code
def yX4_lastWithout : MethodName := ⟨RX4, "lastWithout", "(III)I"⟩
abbrev cX4_foresight : ByteArray := prog_6_method_11_code
def yX4_foresight : MethodName := ⟨RX4, "foresight", "(I)I"⟩
abbrev cX4_pointsFor : ByteArray := prog_6_method_12_code
def yX4_pointsFor : MethodName := ⟨RX4, "pointsFor", "(I)I"⟩
abbrev cX4_changeOf : ByteArray := prog_6_method_13_code
def yX4_changeOf : MethodName := ⟨RX4, "changeOf", "(IIII)I"⟩
abbrev cX4_settle : ByteArray := prog_6_method_14_code
def yX4_settle : MethodName := ⟨RX4, "settle", "(III)V"⟩
def RX5 : String := "RopeRanks$Records"
def TX5 : u_T := fun k => match k with
  | 0 => ("RopeRanks$Records", "players", "I", false)
  | 1 => ("RopeRanks$Records", "meetings", "I", false)
  | 2 => ("RopeRanks$Records", "given", "J", false)
  | 3 => ("RopeRanks$Records", "doubted", "J", false)
  | 4 => ("RopeRanks$Records", "wide", "I", false)
  | 5 => ("RopeRanks$Records", "even", "I", false)
  | 6 => ("RopeRanks$Records", "born", "[I", true)
  | 7 => ("RopeRanks$Records", "right", "[I", true)
  | 8 => ("RopeRanks$Records", "all", "[I", true)
  | 9 => ("RopeRanks$Records", "year", "[I", true)
  | 10 => ("RopeRanks$Records", "a", "[I", true)
  | 11 => ("RopeRanks$Records", "b", "[I", true)
  | 12 => ("RopeRanks$Records", "end", "[I", true)
  | 13 => ("RopeRanks$Records", "first", "[I", true)
  | 14 => ("RopeRanks$Records", "length", "[I", true)
  | 15 => ("RopeRanks$Records", "text", "[I", true)
  | 16 => ("RopeRanks$Records", "shape", "[I", true)
  | _ => ("RopeRanks$Records", "weight", "[I", true)
def tyX5 : Nat → FieldType := fun k => match k with
  | 0 => .int
  | 1 => .int
  | 2 => .long
  | 3 => .long
  | 4 => .int
  | 5 => .int
  | 6 => .array .int
  | 7 => .array .int
  | 8 => .array .int
  | 9 => .array .int
  | 10 => .array .int
  | 11 => .array .int
  | 12 => .array .int
  | 13 => .array .int
  | 14 => .array .int
  | 15 => .array .int
  | 16 => .array .int
  | _ => .array .int
abbrev wsX50 : List Cond := u_ws RX5 TX5 18
theorem nmX5 : ∀ a, a < 18 → ∀ b, b < 18 → a ≠ b → (TX5 a).2.1 ≠ (TX5 b).2.1 := by decide +kernel
theorem tyX5_ok : ∀ k, k < 18 → parseFieldDescriptor (TX5 k).2.2.1 = some (tyX5 k) := by decide +kernel
abbrev cX5_init : ByteArray := prog_7_method_1_code
def yX5_init : MethodName := ⟨RX5, "<init>", "()V"⟩
abbrev cX5_isPlayer : ByteArray := prog_7_method_2_code
def yX5_isPlayer : MethodName := ⟨RX5, "isPlayer", "(I)Z"⟩
abbrev cX5_isPair : ByteArray := prog_7_method_3_code
def yX5_isPair : MethodName := ⟨RX5, "isPair", "(II)Z"⟩
abbrev cX5_latestYear : ByteArray := prog_7_method_4_code
def yX5_latestYear : MethodName := ⟨RX5, "latestYear", "()I"⟩
abbrev cX5_addMeeting : ByteArray := prog_7_method_5_code
def yX5_addMeeting : MethodName := ⟨RX5, "addMeeting", "(IIIIZ)I"⟩
abbrev cX5_isGiven : ByteArray := prog_7_method_6_code
def yX5_isGiven : MethodName := ⟨RX5, "isGiven", "(I)Z"⟩
abbrev cX5_saying : ByteArray := prog_7_method_7_code
def yX5_saying : MethodName := ⟨RX5, "saying", "()J"⟩
abbrev cX5_isOf : ByteArray := prog_7_method_8_code
def yX5_isOf : MethodName := ⟨RX5, "isOf", "(II)Z"⟩
abbrev cX5_otherOf : ByteArray := prog_7_method_9_code
def yX5_otherOf : MethodName := ⟨RX5, "otherOf", "(II)I"⟩
abbrev cX5_pairBits : ByteArray := prog_7_method_10_code
def yX5_pairBits : MethodName := ⟨RX5, "pairBits", "(I)I"⟩
abbrev cX5_endsYear : ByteArray := prog_7_method_11_code
def yX5_endsYear : MethodName := ⟨RX5, "endsYear", "(I)Z"⟩
abbrev cX5_whoMet : ByteArray := prog_7_method_12_code
def yX5_whoMet : MethodName := ⟨RX5, "whoMet", "(I)I"⟩
abbrev cX5_meetingsOf : ByteArray := prog_7_method_13_code
def yX5_meetingsOf : MethodName := ⟨RX5, "meetingsOf", "(II)I"⟩
abbrev cX5_evenMeetingsOf : ByteArray := prog_7_method_14_code
def yX5_evenMeetingsOf : MethodName := ⟨RX5, "evenMeetingsOf", "(II)I"⟩
abbrev cX5_shapeOf : ByteArray := prog_7_method_15_code
def yX5_shapeOf : MethodName := ⟨RX5, "shapeOf", "(II)I"⟩
abbrev cX5_rightOf : ByteArray := prog_7_method_16_code
def yX5_rightOf : MethodName := ⟨RX5, "rightOf", "(I)I"⟩
abbrev cX5_movesOf : ByteArray := prog_7_method_17_code
def yX5_movesOf : MethodName := ⟨RX5, "movesOf", "(I)I"⟩
abbrev cX5_take : ByteArray := prog_7_method_18_code
def yX5_take : MethodName := ⟨RX5, "take", "(LRopeRanks$Records;)V"⟩
abbrev cX5_digested : ByteArray := prog_7_method_19_code
def yX5_digested : MethodName := ⟨RX5, "digested", "(J)J"⟩
abbrev cX5_digestedPlayers : ByteArray := prog_7_method_20_code
def yX5_digestedPlayers : MethodName := ⟨RX5, "digestedPlayers", "(J)J"⟩
abbrev cX5_digestedMeetings : ByteArray := prog_7_method_21_code
def yX5_digestedMeetings : MethodName := ⟨RX5, "digestedMeetings", "(J)J"⟩
def RX6 : String := "RopeRanks$Ropes"
def TX6 : u_T := fun k => match k with
  | 0 => ("RopeRanks$Ropes", "records", "LRopeRanks$Records;", true)
  | 1 => ("RopeRanks$Ropes", "links", "[I", true)
  | _ => ("RopeRanks$Ropes", "far", "[I", true)
def tyX6 : Nat → FieldType := fun k => match k with
  | 0 => .object "RopeRanks$Records"
  | 1 => .array .int
  | _ => .array .int
abbrev wsX60 : List Cond := u_ws RX6 TX6 3
theorem nmX6 : ∀ a, a < 3 → ∀ b, b < 3 → a ≠ b → (TX6 a).2.1 ≠ (TX6 b).2.1 := by decide +kernel
theorem tyX6_ok : ∀ k, k < 3 → parseFieldDescriptor (TX6 k).2.2.1 = some (tyX6 k) := by decide +kernel
abbrev cX6_init : ByteArray := prog_8_method_1_code
def yX6_init : MethodName := ⟨RX6, "<init>", "(LRopeRanks$Records;)V"⟩
abbrev cX6_areJoined : ByteArray := prog_8_method_2_code
def yX6_areJoined : MethodName := ⟨RX6, "areJoined", "(II)Z"⟩
abbrev cX6_islands : ByteArray := prog_8_method_3_code
def yX6_islands : MethodName := ⟨RX6, "islands", "()I"⟩
abbrev cX6_leastOf : ByteArray := prog_8_method_4_code
def yX6_leastOf : MethodName := ⟨RX6, "leastOf", "(I)I"⟩
abbrev cX6_length : ByteArray := prog_8_method_5_code
def yX6_length : MethodName := ⟨RX6, "length", "(II)I"⟩
abbrev cX6_meetingAt : ByteArray := prog_8_method_6_code
def yX6_meetingAt : MethodName := ⟨RX6, "meetingAt", "(II)I"⟩
abbrev cX6_bridgeBits : ByteArray := prog_8_method_7_code
def yX6_bridgeBits : MethodName := ⟨RX6, "bridgeBits", "()J"⟩
abbrev cX6_link : ByteArray := prog_8_method_8_code
def yX6_link : MethodName := ⟨RX6, "link", "(J)V"⟩
abbrev cX6_measure : ByteArray := prog_8_method_9_code
def yX6_measure : MethodName := ⟨RX6, "measure", "(I)V"⟩
abbrev cX6_leastMeasured : ByteArray := prog_8_method_10_code
def yX6_leastMeasured : MethodName := ⟨RX6, "leastMeasured", "()I"⟩
abbrev cX6_nearerThan : ByteArray := prog_8_method_11_code
def yX6_nearerThan : MethodName := ⟨RX6, "nearerThan", "(I)I"⟩
abbrev cX6_leastMeeting : ByteArray := prog_8_method_12_code
def yX6_leastMeeting : MethodName := ⟨RX6, "leastMeeting", "(II)I"⟩
def RX7 : String := "RopeRanks$Strengths"
def TX7 : u_T := fun k => match k with
  | 0 => ("RopeRanks$Strengths", "records", "LRopeRanks$Records;", true)
  | 1 => ("RopeRanks$Strengths", "low", "[I", true)
  | 2 => ("RopeRanks$Strengths", "high", "[I", true)
  | 3 => ("RopeRanks$Strengths", "most", "[I", true)
  | 4 => ("RopeRanks$Strengths", "via", "[I", true)
  | _ => ("RopeRanks$Strengths", "found", "J", false)
def tyX7 : Nat → FieldType := fun k => match k with
  | 0 => .object "RopeRanks$Records"
  | 1 => .array .int
  | 2 => .array .int
  | 3 => .array .int
  | 4 => .array .int
  | _ => .long
abbrev wsX70 : List Cond := u_ws RX7 TX7 6
theorem nmX7 : ∀ a, a < 6 → ∀ b, b < 6 → a ≠ b → (TX7 a).2.1 ≠ (TX7 b).2.1 := by decide +kernel
theorem tyX7_ok : ∀ k, k < 6 → parseFieldDescriptor (TX7 k).2.2.1 = some (tyX7 k) := by decide +kernel
abbrev cX7_init : ByteArray := prog_9_method_1_code
def yX7_init : MethodName := ⟨RX7, "<init>", "(LRopeRanks$Records;)V"⟩
abbrev cX7_agree : ByteArray := prog_9_method_2_code
def yX7_agree : MethodName := ⟨RX7, "agree", "()Z"⟩
abbrev cX7_greatest : ByteArray := prog_9_method_3_code
def yX7_greatest : MethodName := ⟨RX7, "greatest", "(II)I"⟩
abbrev cX7_leastLeftOut : ByteArray := prog_9_method_4_code
def yX7_leastLeftOut : MethodName := ⟨RX7, "leastLeftOut", "()J"⟩
abbrev cX7_readBounds : ByteArray := prog_9_method_5_code
def yX7_readBounds : MethodName := ⟨RX7, "readBounds", "()V"⟩
abbrev cX7_ringsApart : ByteArray := prog_9_method_6_code
def yX7_ringsApart : MethodName := ⟨RX7, "ringsApart", "(J)I"⟩
abbrev cX7_leaveOut : ByteArray := prog_9_method_7_code
def yX7_leaveOut : MethodName := ⟨RX7, "leaveOut", "(JJJI)V"⟩
abbrev cX7_ringOf : ByteArray := prog_9_method_8_code
def yX7_ringOf : MethodName := ⟨RX7, "ringOf", "(J)J"⟩
abbrev cX7_tighten : ByteArray := prog_9_method_9_code
def yX7_tighten : MethodName := ⟨RX7, "tighten", "(J)Z"⟩
abbrev cX7_lower : ByteArray := prog_9_method_10_code
def yX7_lower : MethodName := ⟨RX7, "lower", "(IIII)Z"⟩
abbrev cX7_ringOfVias : ByteArray := prog_9_method_11_code
def yX7_ringOfVias : MethodName := ⟨RX7, "ringOfVias", "()J"⟩
abbrev cX7_ringThrough : ByteArray := prog_9_method_12_code
def yX7_ringThrough : MethodName := ⟨RX7, "ringThrough", "(I)J"⟩
def RX8 : String := "RopeRanks$Wins"
def TX8 : u_T := fun k => match k with
  | 0 => ("RopeRanks$Wins", "most", "I", false)
  | 1 => ("RopeRanks$Wins", "bestWay", "[I", true)
  | 2 => ("RopeRanks$Wins", "records", "LRopeRanks$Records;", true)
  | 3 => ("RopeRanks$Wins", "beat", "[I", true)
  | 4 => ("RopeRanks$Wins", "way", "[I", true)
  | 5 => ("RopeRanks$Wins", "gain", "[I", true)
  | _ => ("RopeRanks$Wins", "rest", "[I", true)
def tyX8 : Nat → FieldType := fun k => match k with
  | 0 => .int
  | 1 => .array .int
  | 2 => .object "RopeRanks$Records"
  | 3 => .array .int
  | 4 => .array .int
  | 5 => .array .int
  | _ => .array .int
abbrev wsX80 : List Cond := u_ws RX8 TX8 7
theorem nmX8 : ∀ a, a < 7 → ∀ b, b < 7 → a ≠ b → (TX8 a).2.1 ≠ (TX8 b).2.1 := by decide +kernel
theorem tyX8_ok : ∀ k, k < 7 → parseFieldDescriptor (TX8 k).2.2.1 = some (tyX8 k) := by decide +kernel
abbrev cX8_init : ByteArray := prog_10_method_1_code
def yX8_init : MethodName := ⟨RX8, "<init>", "(LRopeRanks$Records;)V"⟩
abbrev cX8_rings : ByteArray := prog_10_method_2_code
def yX8_rings : MethodName := ⟨RX8, "rings", "()I"⟩
abbrev cX8_explain : ByteArray := prog_10_method_3_code
def yX8_explain : MethodName := ⟨RX8, "explain", "()V"⟩
abbrev cX8_ring : ByteArray := prog_10_method_4_code
def yX8_ring : MethodName := ⟨RX8, "ring", "(III)I"⟩
abbrev cX8_winsOf : ByteArray := prog_10_method_5_code
def yX8_winsOf : MethodName := ⟨RX8, "winsOf", "(II)I"⟩
abbrev cX8_readWins : ByteArray := prog_10_method_6_code
def yX8_readWins : MethodName := ⟨RX8, "readWins", "()V"⟩
abbrev cX8_readRest : ByteArray := prog_10_method_7_code
def yX8_readRest : MethodName := ⟨RX8, "readRest", "()V"⟩
abbrev cX8_giveWay : ByteArray := prog_10_method_8_code
def yX8_giveWay : MethodName := ⟨RX8, "giveWay", "(II)V"⟩
abbrev cX8_readGain : ByteArray := prog_10_method_9_code
def yX8_readGain : MethodName := ⟨RX8, "readGain", "(I)V"⟩
def RX9 : String := "RopeRanks"
def TX9 : u_T := fun k => match k with
  | 0 => ("RopeRanks", "now", "LRopeRanks$Records;", true)
  | 1 => ("RopeRanks", "images", "[LRopeRanks$Records;", true)
  | 2 => ("RopeRanks", "kept", "[I", true)
  | 3 => ("RopeRanks", "fraction", "LRopeRanks$Fraction;", true)
  | 4 => ("RopeRanks", "ladder", "LRopeRanks$Ladder;", true)
  | 5 => ("RopeRanks", "crown", "LRopeRanks$Crown;", true)
  | 6 => ("RopeRanks", "strengths", "LRopeRanks$Strengths;", true)
  | 7 => ("RopeRanks", "ropes", "LRopeRanks$Ropes;", true)
  | _ => ("RopeRanks", "wins", "LRopeRanks$Wins;", true)
def tyX9 : Nat → FieldType := fun k => match k with
  | 0 => .object "RopeRanks$Records"
  | 1 => .array (.object "RopeRanks$Records")
  | 2 => .array .int
  | 3 => .object "RopeRanks$Fraction"
  | 4 => .object "RopeRanks$Ladder"
  | 5 => .object "RopeRanks$Crown"
  | 6 => .object "RopeRanks$Strengths"
  | 7 => .object "RopeRanks$Ropes"
  | _ => .object "RopeRanks$Wins"
abbrev wsX90 : List Cond := u_ws RX9 TX9 9
theorem nmX9 : ∀ a, a < 9 → ∀ b, b < 9 → a ≠ b → (TX9 a).2.1 ≠ (TX9 b).2.1 := by decide +kernel
theorem tyX9_ok : ∀ k, k < 9 → parseFieldDescriptor (TX9 k).2.2.1 = some (tyX9 k) := by decide +kernel
abbrev cX9_init : ByteArray := prog_1_method_1_code
def yX9_init : MethodName := ⟨RX9, "<init>", "()V"⟩
abbrev cX9_player : ByteArray := prog_1_method_2_code
def yX9_player : MethodName := ⟨RX9, "player", "(I)I"⟩
abbrev cX9_meeting : ByteArray := prog_1_method_3_code
def yX9_meeting : MethodName := ⟨RX9, "meeting", "(IIIIZ)I"⟩
abbrev cX9_mark : ByteArray := prog_1_method_4_code
def yX9_mark : MethodName := ⟨RX9, "mark", "(IIZ)I"⟩
abbrev cX9_first : ByteArray := prog_1_method_5_code
def yX9_first : MethodName := ⟨RX9, "first", "(II)I"⟩
abbrev cX9_write : ByteArray := prog_1_method_6_code
def yX9_write : MethodName := ⟨RX9, "write", "(II)I"⟩
abbrev cX9_erase : ByteArray := prog_1_method_7_code
def yX9_erase : MethodName := ⟨RX9, "erase", "(I)I"⟩
abbrev cX9_fault : ByteArray := prog_1_method_8_code
def yX9_fault : MethodName := ⟨RX9, "fault", "(I)I"⟩
abbrev cX9_number : ByteArray := prog_1_method_9_code
def yX9_number : MethodName := ⟨RX9, "number", "(III)I"⟩
abbrev cX9_paid : ByteArray := prog_1_method_10_code
def yX9_paid : MethodName := ⟨RX9, "paid", "(II)I"⟩
abbrev cX9_creep : ByteArray := prog_1_method_11_code
def yX9_creep : MethodName := ⟨RX9, "creep", "(III)I"⟩
abbrev cX9_hiding : ByteArray := prog_1_method_12_code
def yX9_hiding : MethodName := ⟨RX9, "hiding", "(III)I"⟩
abbrev cX9_foretold : ByteArray := prog_1_method_13_code
def yX9_foretold : MethodName := ⟨RX9, "foretold", "(I)I"⟩
abbrev cX9_bestSystem : ByteArray := prog_1_method_14_code
def yX9_bestSystem : MethodName := ⟨RX9, "bestSystem", "()I"⟩
abbrev cX9_shape : ByteArray := prog_1_method_15_code
def yX9_shape : MethodName := ⟨RX9, "shape", "(II)I"⟩
abbrev cX9_wide : ByteArray := prog_1_method_16_code
def yX9_wide : MethodName := ⟨RX9, "wide", "(II)I"⟩
abbrev cX9_quarrel : ByteArray := prog_1_method_17_code
def yX9_quarrel : MethodName := ⟨RX9, "quarrel", "()I"⟩
abbrev cX9_span : ByteArray := prog_1_method_18_code
def yX9_span : MethodName := ⟨RX9, "span", "(III)I"⟩
abbrev cX9_fewest : ByteArray := prog_1_method_19_code
def yX9_fewest : MethodName := ⟨RX9, "fewest", "()J"⟩
abbrev cX9_island : ByteArray := prog_1_method_20_code
def yX9_island : MethodName := ⟨RX9, "island", "(I)I"⟩
abbrev cX9_rope : ByteArray := prog_1_method_21_code
def yX9_rope : MethodName := ⟨RX9, "rope", "(III)I"⟩
abbrev cX9_bridges : ByteArray := prog_1_method_22_code
def yX9_bridges : MethodName := ⟨RX9, "bridges", "()J"⟩
abbrev cX9_best : ByteArray := prog_1_method_23_code
def yX9_best : MethodName := ⟨RX9, "best", "(III)I"⟩
abbrev cX9_rounds : ByteArray := prog_1_method_24_code
def yX9_rounds : MethodName := ⟨RX9, "rounds", "()I"⟩
abbrev cX9_ways : ByteArray := prog_1_method_25_code
def yX9_ways : MethodName := ⟨RX9, "ways", "(I)I"⟩
abbrev cX9_even : ByteArray := prog_1_method_26_code
def yX9_even : MethodName := ⟨RX9, "even", "(IIII)I"⟩
abbrev cX9_looked : ByteArray := prog_1_method_27_code
def yX9_looked : MethodName := ⟨RX9, "looked", "()I"⟩
abbrev cX9_moves : ByteArray := prog_1_method_28_code
def yX9_moves : MethodName := ⟨RX9, "moves", "(IIII)I"⟩
abbrev cX9_weight : ByteArray := prog_1_method_29_code
def yX9_weight : MethodName := ⟨RX9, "weight", "(II)I"⟩
abbrev cX9_share : ByteArray := prog_1_method_30_code
def yX9_share : MethodName := ⟨RX9, "share", "(II)I"⟩
abbrev cX9_part : ByteArray := prog_1_method_31_code
def yX9_part : MethodName := ⟨RX9, "part", "(I)J"⟩
abbrev cX9_image : ByteArray := prog_1_method_32_code
def yX9_image : MethodName := ⟨RX9, "image", "(I)I"⟩
abbrev cX9_from : ByteArray := prog_1_method_33_code
def yX9_from : MethodName := ⟨RX9, "from", "(I)I"⟩
abbrev cX9_count : ByteArray := prog_1_method_34_code
def yX9_count : MethodName := ⟨RX9, "count", "(I)I"⟩
abbrev cX9_digest : ByteArray := prog_1_method_35_code
def yX9_digest : MethodName := ⟨RX9, "digest", "()J"⟩
abbrev cX9_within : ByteArray := prog_1_method_36_code
def yX9_within : MethodName := ⟨RX9, "within", "(III)Z"⟩
abbrev cX9_isYear : ByteArray := prog_1_method_37_code
def yX9_isYear : MethodName := ⟨RX9, "isYear", "(I)Z"⟩
abbrev cX9_isSystem : ByteArray := prog_1_method_38_code
def yX9_isSystem : MethodName := ⟨RX9, "isSystem", "(I)Z"⟩
abbrev cX9_isClass : ByteArray := prog_1_method_39_code
def yX9_isClass : MethodName := ⟨RX9, "isClass", "(I)Z"⟩
abbrev cX9_putRight : ByteArray := prog_1_method_40_code
def yX9_putRight : MethodName := ⟨RX9, "putRight", "(I)V"⟩
def RX10 : String := "RopeRanksModel"
def TX10 : u_T := fun k => match k with
  | 0 => ("RopeRanksModel", "now", "[I", true)
  | 1 => ("RopeRanksModel", "kept", "[I", true)
  | 2 => ("RopeRanksModel", "isKept", "[Z", true)
  | 3 => ("RopeRanksModel", "above", "J", false)
  | 4 => ("RopeRanksModel", "below", "J", false)
  | 5 => ("RopeRanksModel", "text", "I", false)
  | 6 => ("RopeRanksModel", "at", "I", false)
  | 7 => ("RopeRanksModel", "fault", "I", false)
  | 8 => ("RopeRanksModel", "values", "[J", true)
  | 9 => ("RopeRanksModel", "valueMany", "I", false)
  | 10 => ("RopeRanksModel", "signs", "[I", true)
  | 11 => ("RopeRanksModel", "signMany", "I", false)
  | 12 => ("RopeRanksModel", "names", "[J", true)
  | 13 => ("RopeRanksModel", "told", "J", false)
  | 14 => ("RopeRanksModel", "numbers", "[I", true)
  | 15 => ("RopeRanksModel", "had", "[I", true)
  | 16 => ("RopeRanksModel", "last", "[I", true)
  | 17 => ("RopeRanksModel", "changeA", "I", false)
  | 18 => ("RopeRanksModel", "changeB", "I", false)
  | 19 => ("RopeRanksModel", "were", "[I", true)
  | 20 => ("RopeRanksModel", "mays", "[I", true)
  | 21 => ("RopeRanksModel", "far", "[I", true)
  | 22 => ("RopeRanksModel", "yearEnds", "[I", true)
  | 23 => ("RopeRanksModel", "yearMany", "I", false)
  | 24 => ("RopeRanksModel", "bestRun", "I", false)
  | 25 => ("RopeRanksModel", "wins", "[I", true)
  | _ => ("RopeRanksModel", "way", "[I", true)
def tyX10 : Nat → FieldType := fun k => match k with
  | 0 => .array .int
  | 1 => .array .int
  | 2 => .array .boolean
  | 3 => .long
  | 4 => .long
  | 5 => .int
  | 6 => .int
  | 7 => .int
  | 8 => .array .long
  | 9 => .int
  | 10 => .array .int
  | 11 => .int
  | 12 => .array .long
  | 13 => .long
  | 14 => .array .int
  | 15 => .array .int
  | 16 => .array .int
  | 17 => .int
  | 18 => .int
  | 19 => .array .int
  | 20 => .array .int
  | 21 => .array .int
  | 22 => .array .int
  | 23 => .int
  | 24 => .int
  | 25 => .array .int
  | _ => .array .int
abbrev wsX100 : List Cond := u_ws RX10 TX10 27
theorem nmX10 : ∀ a, a < 27 → ∀ b, b < 27 → a ≠ b → (TX10 a).2.1 ≠ (TX10 b).2.1 := by decide +kernel
theorem tyX10_ok : ∀ k, k < 27 → parseFieldDescriptor (TX10 k).2.2.1 = some (tyX10 k) := by decide +kernel
abbrev cX10_init : ByteArray := prog_12_method_1_code
def yX10_init : MethodName := ⟨RX10, "<init>", "()V"⟩
abbrev cX10_in : ByteArray := prog_12_method_3_code
def yX10_in : MethodName := ⟨RX10, "in", "(JJJ)Z"⟩
abbrev cX10_players : ByteArray := prog_12_method_4_code
def yX10_players : MethodName := ⟨RX10, "players", "()I"⟩
abbrev cX10_meetings : ByteArray := prog_12_method_5_code
def yX10_meetings : MethodName := ⟨RX10, "meetings", "()I"⟩
abbrev cX10_isPlayer : ByteArray := prog_12_method_6_code
def yX10_isPlayer : MethodName := ⟨RX10, "isPlayer", "(I)Z"⟩
abbrev cX10_of : ByteArray := prog_12_method_7_code
def yX10_of : MethodName := ⟨RX10, "of", "(II)I"⟩
abbrev cX10_player : ByteArray := prog_12_method_8_code
def yX10_player : MethodName := ⟨RX10, "player", "(I)I"⟩
abbrev cX10_meeting : ByteArray := prog_12_method_9_code
def yX10_meeting : MethodName := ⟨RX10, "meeting", "(IIIIZ)I"⟩
abbrev cX10_mark : ByteArray := prog_12_method_10_code
def yX10_mark : MethodName := ⟨RX10, "mark", "(IIZ)I"⟩
abbrev cX10_isFour : ByteArray := prog_12_method_11_code
def yX10_isFour : MethodName := ⟨RX10, "isFour", "(I)Z"⟩
abbrev cX10_first : ByteArray := prog_12_method_12_code
def yX10_first : MethodName := ⟨RX10, "first", "(II)I"⟩
abbrev cX10_write : ByteArray := prog_12_method_13_code
def yX10_write : MethodName := ⟨RX10, "write", "(II)I"⟩
abbrev cX10_erase : ByteArray := prog_12_method_14_code
def yX10_erase : MethodName := ⟨RX10, "erase", "(I)I"⟩
abbrev cX10_textLong : ByteArray := prog_12_method_15_code
def yX10_textLong : MethodName := ⟨RX10, "textLong", "()I"⟩
abbrev cX10_charAt : ByteArray := prog_12_method_16_code
def yX10_charAt : MethodName := ⟨RX10, "charAt", "(I)I"⟩
abbrev cX10_ahead : ByteArray := prog_12_method_17_code
def yX10_ahead : MethodName := ⟨RX10, "ahead", "()I"⟩
abbrev cX10_rank : ByteArray := prog_12_method_18_code
def yX10_rank : MethodName := ⟨RX10, "rank", "(I)I"⟩
abbrev cX10_works : ByteArray := prog_12_method_19_code
def yX10_works : MethodName := ⟨RX10, "works", "()V"⟩
abbrev cX10_worksDown : ByteArray := prog_12_method_20_code
def yX10_worksDown : MethodName := ⟨RX10, "worksDown", "(I)V"⟩
abbrev cX10_stands : ByteArray := prog_12_method_21_code
def yX10_stands : MethodName := ⟨RX10, "stands", "(J)V"⟩
abbrev cX10_nameOf : ByteArray := prog_12_method_22_code
def yX10_nameOf : MethodName := ⟨RX10, "nameOf", "(I)I"⟩
abbrev cX10_digits : ByteArray := prog_12_method_23_code
def yX10_digits : MethodName := ⟨RX10, "digits", "()J"⟩
abbrev cX10_reads : ByteArray := prog_12_method_24_code
def yX10_reads : MethodName := ⟨RX10, "reads", "()Z"⟩
abbrev cX10_isSound : ByteArray := prog_12_method_25_code
def yX10_isSound : MethodName := ⟨RX10, "isSound", "(I)Z"⟩
abbrev cX10_fault : ByteArray := prog_12_method_26_code
def yX10_fault : MethodName := ⟨RX10, "fault", "(I)I"⟩
abbrev cX10_begins : ByteArray := prog_12_method_27_code
def yX10_begins : MethodName := ⟨RX10, "begins", "(I)V"⟩
abbrev cX10_changeOf : ByteArray := prog_12_method_28_code
def yX10_changeOf : MethodName := ⟨RX10, "changeOf", "(IIII)I"⟩
abbrev cX10_step : ByteArray := prog_12_method_29_code
def yX10_step : MethodName := ⟨RX10, "step", "(II)V"⟩
abbrev cX10_goTo : ByteArray := prog_12_method_30_code
def yX10_goTo : MethodName := ⟨RX10, "goTo", "(II)V"⟩
abbrev cX10_number : ByteArray := prog_12_method_31_code
def yX10_number : MethodName := ⟨RX10, "number", "(III)I"⟩
abbrev cX10_isYear : ByteArray := prog_12_method_32_code
def yX10_isYear : MethodName := ⟨RX10, "isYear", "(I)Z"⟩
abbrev cX10_paid : ByteArray := prog_12_method_33_code
def yX10_paid : MethodName := ⟨RX10, "paid", "(II)I"⟩
abbrev cX10_isIn : ByteArray := prog_12_method_34_code
def yX10_isIn : MethodName := ⟨RX10, "isIn", "(II)Z"⟩
abbrev cX10_hasMet : ByteArray := prog_12_method_35_code
def yX10_hasMet : MethodName := ⟨RX10, "hasMet", "(II)Z"⟩
abbrev cX10_tell : ByteArray := prog_12_method_36_code
def yX10_tell : MethodName := ⟨RX10, "tell", "(JJ)V"⟩
abbrev cX10_creep : ByteArray := prog_12_method_37_code
def yX10_creep : MethodName := ⟨RX10, "creep", "(III)I"⟩
abbrev cX10_hiding : ByteArray := prog_12_method_38_code
def yX10_hiding : MethodName := ⟨RX10, "hiding", "(III)I"⟩
abbrev cX10_foretells : ByteArray := prog_12_method_39_code
def yX10_foretells : MethodName := ⟨RX10, "foretells", "(I)I"⟩
abbrev cX10_foretold : ByteArray := prog_12_method_40_code
def yX10_foretold : MethodName := ⟨RX10, "foretold", "(I)I"⟩
abbrev cX10_bestSystem : ByteArray := prog_12_method_41_code
def yX10_bestSystem : MethodName := ⟨RX10, "bestSystem", "()I"⟩
abbrev cX10_shape : ByteArray := prog_12_method_42_code
def yX10_shape : MethodName := ⟨RX10, "shape", "(II)I"⟩
abbrev cX10_wide : ByteArray := prog_12_method_43_code
def yX10_wide : MethodName := ⟨RX10, "wide", "(II)I"⟩
abbrev cX10_doesSay : ByteArray := prog_12_method_44_code
def yX10_doesSay : MethodName := ⟨RX10, "doesSay", "(I)Z"⟩
abbrev cX10_shapeOf : ByteArray := prog_12_method_45_code
def yX10_shapeOf : MethodName := ⟨RX10, "shapeOf", "(II)I"⟩
abbrev cX10_bound : ByteArray := prog_12_method_46_code
def yX10_bound : MethodName := ⟨RX10, "bound", "(III)V"⟩
abbrev cX10_agree : ByteArray := prog_12_method_47_code
def yX10_agree : MethodName := ⟨RX10, "agree", "(III)Z"⟩
abbrev cX10_quarrel : ByteArray := prog_12_method_48_code
def yX10_quarrel : MethodName := ⟨RX10, "quarrel", "()I"⟩
abbrev cX10_span : ByteArray := prog_12_method_49_code
def yX10_span : MethodName := ⟨RX10, "span", "(III)I"⟩
abbrev cX10_fewest : ByteArray := prog_12_method_50_code
def yX10_fewest : MethodName := ⟨RX10, "fewest", "()J"⟩
abbrev cX10_goFrom : ByteArray := prog_12_method_51_code
def yX10_goFrom : MethodName := ⟨RX10, "goFrom", "(II)V"⟩
abbrev cX10_leastOf : ByteArray := prog_12_method_52_code
def yX10_leastOf : MethodName := ⟨RX10, "leastOf", "(I)I"⟩
abbrev cX10_island : ByteArray := prog_12_method_53_code
def yX10_island : MethodName := ⟨RX10, "island", "(I)I"⟩
abbrev cX10_rope : ByteArray := prog_12_method_54_code
def yX10_rope : MethodName := ⟨RX10, "rope", "(III)I"⟩
abbrev cX10_bridges : ByteArray := prog_12_method_55_code
def yX10_bridges : MethodName := ⟨RX10, "bridges", "()J"⟩
abbrev cX10_findEnds : ByteArray := prog_12_method_56_code
def yX10_findEnds : MethodName := ⟨RX10, "findEnds", "(II)V"⟩
abbrev cX10_findRun : ByteArray := prog_12_method_57_code
def yX10_findRun : MethodName := ⟨RX10, "findRun", "(III)Z"⟩
abbrev cX10_bestAbove : ByteArray := prog_12_method_58_code
def yX10_bestAbove : MethodName := ⟨RX10, "bestAbove", "(I)I"⟩
abbrev cX10_best : ByteArray := prog_12_method_59_code
def yX10_best : MethodName := ⟨RX10, "best", "(III)I"⟩
abbrev cX10_hasBeaten : ByteArray := prog_12_method_60_code
def yX10_hasBeaten : MethodName := ⟨RX10, "hasBeaten", "(II)Z"⟩
abbrev cX10_rounds : ByteArray := prog_12_method_61_code
def yX10_rounds : MethodName := ⟨RX10, "rounds", "()I"⟩
abbrev cX10_ways : ByteArray := prog_12_method_62_code
def yX10_ways : MethodName := ⟨RX10, "ways", "(I)I"⟩
abbrev cX10_metOf : ByteArray := prog_12_method_63_code
def yX10_metOf : MethodName := ⟨RX10, "metOf", "(IIZ)I"⟩
abbrev cX10_power : ByteArray := prog_12_method_64_code
def yX10_power : MethodName := ⟨RX10, "power", "(JI)J"⟩
abbrev cX10_even : ByteArray := prog_12_method_65_code
def yX10_even : MethodName := ⟨RX10, "even", "(IIII)I"⟩
abbrev cX10_looked : ByteArray := prog_12_method_66_code
def yX10_looked : MethodName := ⟨RX10, "looked", "()I"⟩
abbrev cX10_moves : ByteArray := prog_12_method_67_code
def yX10_moves : MethodName := ⟨RX10, "moves", "(IIII)I"⟩
abbrev cX10_weight : ByteArray := prog_12_method_68_code
def yX10_weight : MethodName := ⟨RX10, "weight", "(II)I"⟩
abbrev cX10_share : ByteArray := prog_12_method_69_code
def yX10_share : MethodName := ⟨RX10, "share", "(II)I"⟩
abbrev cX10_part : ByteArray := prog_12_method_70_code
def yX10_part : MethodName := ⟨RX10, "part", "(I)J"⟩
abbrev cX10_image : ByteArray := prog_12_method_71_code
def yX10_image : MethodName := ⟨RX10, "image", "(I)I"⟩
abbrev cX10_from : ByteArray := prog_12_method_72_code
def yX10_from : MethodName := ⟨RX10, "from", "(I)I"⟩
abbrev cX10_count : ByteArray := prog_12_method_73_code
def yX10_count : MethodName := ⟨RX10, "count", "(I)I"⟩
abbrev cX10_sums : ByteArray := prog_12_method_74_code
def yX10_sums : MethodName := ⟨RX10, "sums", "(JII)J"⟩
abbrev cX10_digest : ByteArray := prog_12_method_75_code
def yX10_digest : MethodName := ⟨RX10, "digest", "()J"⟩
def RJ6 : String := "java/lang/Integer"
def TJ6 : u_T := fun k => match k with
  | _ => ("", "", "", false)
def tyJ6 : Nat → FieldType := fun k => match k with
  | _ => .int
abbrev wsJ60 : List Cond := u_ws RJ6 TJ6 0
theorem nmJ6 : ∀ a, a < 0 → ∀ b, b < 0 → a ≠ b → (TJ6 a).2.1 ≠ (TJ6 b).2.1 := by decide +kernel
theorem tyJ6_ok : ∀ k, k < 0 → parseFieldDescriptor (TJ6 k).2.2.1 = some (tyJ6 k) := by decide +kernel
abbrev cJ6_bitCount_0f7a4 : ByteArray := prog_13_method_49_code
def yJ6_bitCount_0f7a4 : MethodName := ⟨RJ6, "bitCount", "(I)I"⟩
def RJ13 : String := "java/lang/Long"
def TJ13 : u_T := fun k => match k with
  | _ => ("", "", "", false)
def tyJ13 : Nat → FieldType := fun k => match k with
  | _ => .int
abbrev wsJ130 : List Cond := u_ws RJ13 TJ13 0
theorem nmJ13 : ∀ a, a < 0 → ∀ b, b < 0 → a ≠ b → (TJ13 a).2.1 ≠ (TJ13 b).2.1 := by decide +kernel
theorem tyJ13_ok : ∀ k, k < 0 → parseFieldDescriptor (TJ13 k).2.2.1 = some (tyJ13 k) := by decide +kernel
abbrev cJ13_bitCount_95d88 : ByteArray := prog_14_method_50_code
def yJ13_bitCount_95d88 : MethodName := ⟨RJ13, "bitCount", "(J)I"⟩
def RJ9 : String := "java/lang/Math"
def TJ9 : u_T := fun k => match k with
  | _ => ("", "", "", false)
def tyJ9 : Nat → FieldType := fun k => match k with
  | _ => .int
abbrev wsJ90 : List Cond := u_ws RJ9 TJ9 0
theorem nmJ9 : ∀ a, a < 0 → ∀ b, b < 0 → a ≠ b → (TJ9 a).2.1 ≠ (TJ9 b).2.1 := by decide +kernel
theorem tyJ9_ok : ∀ k, k < 0 → parseFieldDescriptor (TJ9 k).2.2.1 = some (tyJ9 k) := by decide +kernel
abbrev cJ9_abs_0f7a4 : ByteArray := prog_15_method_59_code
def yJ9_abs_0f7a4 : MethodName := ⟨RJ9, "abs", "(I)I"⟩
abbrev cJ9_abs_067f4 : ByteArray := prog_15_method_61_code
def yJ9_abs_067f4 : MethodName := ⟨RJ9, "abs", "(J)J"⟩
abbrev cJ9_max_7cf53 : ByteArray := prog_15_method_65_code
def yJ9_max_7cf53 : MethodName := ⟨RJ9, "max", "(II)I"⟩
abbrev cJ9_max_f86c9 : ByteArray := prog_15_method_66_code
def yJ9_max_f86c9 : MethodName := ⟨RJ9, "max", "(JJ)J"⟩
abbrev cJ9_min_7cf53 : ByteArray := prog_15_method_69_code
def yJ9_min_7cf53 : MethodName := ⟨RJ9, "min", "(II)I"⟩
abbrev cJ9_min_f86c9 : ByteArray := prog_15_method_70_code
def yJ9_min_f86c9 : MethodName := ⟨RJ9, "min", "(JJ)J"⟩
def RJ10 : String := "java/lang/System"
def TJ10 : u_T := fun k => match k with
  | _ => ("", "", "", false)
def tyJ10 : Nat → FieldType := fun k => match k with
  | _ => .int
abbrev wsJ100 : List Cond := u_ws RJ10 TJ10 0
theorem nmJ10 : ∀ a, a < 0 → ∀ b, b < 0 → a ≠ b → (TJ10 a).2.1 ≠ (TJ10 b).2.1 := by decide +kernel
theorem tyJ10_ok : ∀ k, k < 0 → parseFieldDescriptor (TJ10 k).2.2.1 = some (tyJ10 k) := by decide +kernel
def RJ7 : String := "java/util/Arrays"
def TJ7 : u_T := fun k => match k with
  | _ => ("", "", "", false)
def tyJ7 : Nat → FieldType := fun k => match k with
  | _ => .int
abbrev wsJ70 : List Cond := u_ws RJ7 TJ7 0
theorem nmJ7 : ∀ a, a < 0 → ∀ b, b < 0 → a ≠ b → (TJ7 a).2.1 ≠ (TJ7 b).2.1 := by decide +kernel
theorem tyJ7_ok : ∀ k, k < 0 → parseFieldDescriptor (TJ7 k).2.2.1 = some (tyJ7 k) := by decide +kernel
abbrev cJ7_fill_53178 : ByteArray := prog_17_method_103_code
def yJ7_fill_53178 : MethodName := ⟨RJ7, "fill", "([II)V"⟩
def RL : String := "RopeRanksLaw"
abbrev cL_law : ByteArray := code
def yL_law : MethodName := ⟨RL, "law", "([I)Z"⟩
abbrev vwCl : List vw_C := [(RX1, TX1, 7), (RX2, TX2, 10), (RX3, TX3, 2), (RX4, TX4, 6), (RX5, TX5, 18), (RX6, TX6, 3), (RX7, TX7, 6), (RX8, TX8, 7), (RX9, TX9, 9), (RX10, TX10, 27)]
