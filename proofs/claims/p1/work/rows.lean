section
-- ===== PART A: goes FIRST, ahead of the names: the tables' words, and 'selects' of the private methods out of them =====
/-- a private method of a class that the tables say can be made, by its rows of tables_1 -/
def lw_okq (q : MethodName × Nat) : Prop := (q.1.cls ≠ "java/lang/invoke/MethodHandle" ∧ q.1.cls ≠ "java/lang/invoke/VarHandle") ∧ Cond.instantiable q.1.cls q.2 ∈ tables_1 ∧ Cond.privateMethod q.1 ∈ tables_1 ∧ Cond.instanceMethod q.1 ∈ tables_1
theorem lw_p0 : lw_okq (⟨"RopeRanks$Formula", "readLevel", "(I)V"⟩, 10) := ⟨⟨by decide +kernel, by decide +kernel⟩, List.mem_of_getElem? (i := 152) (by decide +kernel), List.mem_of_getElem? (i := 407) (by decide +kernel), List.mem_of_getElem? (i := 408) (by decide +kernel)⟩
theorem lw_p1 : lw_okq (⟨"RopeRanks$Formula", "readUnit", "()V"⟩, 10) := ⟨⟨by decide +kernel, by decide +kernel⟩, List.mem_of_getElem? (i := 152) (by decide +kernel), List.mem_of_getElem? (i := 411) (by decide +kernel), List.mem_of_getElem? (i := 412) (by decide +kernel)⟩
theorem lw_p2 : lw_okq (⟨"RopeRanks$Formula", "next", "()I"⟩, 10) := ⟨⟨by decide +kernel, by decide +kernel⟩, List.mem_of_getElem? (i := 152) (by decide +kernel), List.mem_of_getElem? (i := 415) (by decide +kernel), List.mem_of_getElem? (i := 416) (by decide +kernel)⟩
theorem lw_p3 : lw_okq (⟨"RopeRanks$Formula", "readDigits", "()V"⟩, 10) := ⟨⟨by decide +kernel, by decide +kernel⟩, List.mem_of_getElem? (i := 152) (by decide +kernel), List.mem_of_getElem? (i := 419) (by decide +kernel), List.mem_of_getElem? (i := 420) (by decide +kernel)⟩
theorem lw_p4 : lw_okq (⟨"RopeRanks$Formula", "fail", "(I)V"⟩, 10) := ⟨⟨by decide +kernel, by decide +kernel⟩, List.mem_of_getElem? (i := 152) (by decide +kernel), List.mem_of_getElem? (i := 423) (by decide +kernel), List.mem_of_getElem? (i := 424) (by decide +kernel)⟩
theorem lw_p5 : lw_okq (⟨"RopeRanks$Formula", "add", "(I)V"⟩, 10) := ⟨⟨by decide +kernel, by decide +kernel⟩, List.mem_of_getElem? (i := 152) (by decide +kernel), List.mem_of_getElem? (i := 427) (by decide +kernel), List.mem_of_getElem? (i := 428) (by decide +kernel)⟩
theorem lw_p6 : lw_okq (⟨"RopeRanks$Formula", "readBrackets", "()V"⟩, 10) := ⟨⟨by decide +kernel, by decide +kernel⟩, List.mem_of_getElem? (i := 152) (by decide +kernel), List.mem_of_getElem? (i := 434) (by decide +kernel), List.mem_of_getElem? (i := 435) (by decide +kernel)⟩
theorem lw_p7 : lw_okq (⟨"RopeRanks$Formula", "addAheadSigns", "(II)V"⟩, 10) := ⟨⟨by decide +kernel, by decide +kernel⟩, List.mem_of_getElem? (i := 152) (by decide +kernel), List.mem_of_getElem? (i := 438) (by decide +kernel), List.mem_of_getElem? (i := 439) (by decide +kernel)⟩
theorem lw_p8 : lw_okq (⟨"RopeRanks$Ladder", "changeOf", "(IIII)I"⟩, 6) := ⟨⟨by decide +kernel, by decide +kernel⟩, List.mem_of_getElem? (i := 146) (by decide +kernel), List.mem_of_getElem? (i := 466) (by decide +kernel), List.mem_of_getElem? (i := 467) (by decide +kernel)⟩
theorem lw_p9 : lw_okq (⟨"RopeRanks$Formula", "push", "(J)V"⟩, 10) := ⟨⟨by decide +kernel, by decide +kernel⟩, List.mem_of_getElem? (i := 152) (by decide +kernel), List.mem_of_getElem? (i := 484) (by decide +kernel), List.mem_of_getElem? (i := 485) (by decide +kernel)⟩
theorem lw_p10 : lw_okq (⟨"RopeRanks$Formula", "work", "(I)V"⟩, 10) := ⟨⟨by decide +kernel, by decide +kernel⟩, List.mem_of_getElem? (i := 152) (by decide +kernel), List.mem_of_getElem? (i := 488) (by decide +kernel), List.mem_of_getElem? (i := 489) (by decide +kernel)⟩
theorem lw_p11 : lw_okq (⟨"RopeRanks$Formula", "pop", "()J"⟩, 10) := ⟨⟨by decide +kernel, by decide +kernel⟩, List.mem_of_getElem? (i := 152) (by decide +kernel), List.mem_of_getElem? (i := 492) (by decide +kernel), List.mem_of_getElem? (i := 493) (by decide +kernel)⟩
theorem lw_p12 : lw_okq (⟨"RopeRanks$Ladder", "settle", "(III)V"⟩, 6) := ⟨⟨by decide +kernel, by decide +kernel⟩, List.mem_of_getElem? (i := 146) (by decide +kernel), List.mem_of_getElem? (i := 505) (by decide +kernel), List.mem_of_getElem? (i := 506) (by decide +kernel)⟩
theorem lw_p13 : lw_okq (⟨"RopeRanks$Ladder", "pointsFor", "(I)I"⟩, 6) := ⟨⟨by decide +kernel, by decide +kernel⟩, List.mem_of_getElem? (i := 146) (by decide +kernel), List.mem_of_getElem? (i := 574) (by decide +kernel), List.mem_of_getElem? (i := 575) (by decide +kernel)⟩
theorem lw_p14 : lw_okq (⟨"RopeRanks$Strengths", "readBounds", "()V"⟩, 6) := ⟨⟨by decide +kernel, by decide +kernel⟩, List.mem_of_getElem? (i := 244) (by decide +kernel), List.mem_of_getElem? (i := 602) (by decide +kernel), List.mem_of_getElem? (i := 603) (by decide +kernel)⟩
theorem lw_p15 : lw_okq (⟨"RopeRanks$Strengths", "ringOf", "(J)J"⟩, 6) := ⟨⟨by decide +kernel, by decide +kernel⟩, List.mem_of_getElem? (i := 244) (by decide +kernel), List.mem_of_getElem? (i := 621) (by decide +kernel), List.mem_of_getElem? (i := 622) (by decide +kernel)⟩
def lw_privs_1 : List (MethodName × Nat) := [(⟨"RopeRanks$Formula", "readLevel", "(I)V"⟩, 10), (⟨"RopeRanks$Formula", "readUnit", "()V"⟩, 10), (⟨"RopeRanks$Formula", "next", "()I"⟩, 10), (⟨"RopeRanks$Formula", "readDigits", "()V"⟩, 10), (⟨"RopeRanks$Formula", "fail", "(I)V"⟩, 10), (⟨"RopeRanks$Formula", "add", "(I)V"⟩, 10), (⟨"RopeRanks$Formula", "readBrackets", "()V"⟩, 10), (⟨"RopeRanks$Formula", "addAheadSigns", "(II)V"⟩, 10), (⟨"RopeRanks$Ladder", "changeOf", "(IIII)I"⟩, 6), (⟨"RopeRanks$Formula", "push", "(J)V"⟩, 10), (⟨"RopeRanks$Formula", "work", "(I)V"⟩, 10), (⟨"RopeRanks$Formula", "pop", "()J"⟩, 10), (⟨"RopeRanks$Ladder", "settle", "(III)V"⟩, 6), (⟨"RopeRanks$Ladder", "pointsFor", "(I)I"⟩, 6), (⟨"RopeRanks$Strengths", "readBounds", "()V"⟩, 6), (⟨"RopeRanks$Strengths", "ringOf", "(J)J"⟩, 6)]
theorem lw_r1 : ∀ q ∈ lw_privs_1, lw_okq q := List.forall_mem_cons.mpr ⟨lw_p0, List.forall_mem_cons.mpr ⟨lw_p1, List.forall_mem_cons.mpr ⟨lw_p2, List.forall_mem_cons.mpr ⟨lw_p3, List.forall_mem_cons.mpr ⟨lw_p4, List.forall_mem_cons.mpr ⟨lw_p5, List.forall_mem_cons.mpr ⟨lw_p6, List.forall_mem_cons.mpr ⟨lw_p7, List.forall_mem_cons.mpr ⟨lw_p8, List.forall_mem_cons.mpr ⟨lw_p9, List.forall_mem_cons.mpr ⟨lw_p10, List.forall_mem_cons.mpr ⟨lw_p11, List.forall_mem_cons.mpr ⟨lw_p12, List.forall_mem_cons.mpr ⟨lw_p13, List.forall_mem_cons.mpr ⟨lw_p14, List.forall_mem_cons.mpr ⟨lw_p15, fun _ h => absurd h List.not_mem_nil⟩⟩⟩⟩⟩⟩⟩⟩⟩⟩⟩⟩⟩⟩⟩⟩
theorem lw_p16 : lw_okq (⟨"RopeRanks$Strengths", "tighten", "(J)Z"⟩, 6) := ⟨⟨by decide +kernel, by decide +kernel⟩, List.mem_of_getElem? (i := 244) (by decide +kernel), List.mem_of_getElem? (i := 626) (by decide +kernel), List.mem_of_getElem? (i := 627) (by decide +kernel)⟩
theorem lw_p17 : lw_okq (⟨"RopeRanks$Strengths", "lower", "(IIII)Z"⟩, 6) := ⟨⟨by decide +kernel, by decide +kernel⟩, List.mem_of_getElem? (i := 244) (by decide +kernel), List.mem_of_getElem? (i := 630) (by decide +kernel), List.mem_of_getElem? (i := 631) (by decide +kernel)⟩
theorem lw_p18 : lw_okq (⟨"RopeRanks$Strengths", "ringOfVias", "()J"⟩, 6) := ⟨⟨by decide +kernel, by decide +kernel⟩, List.mem_of_getElem? (i := 244) (by decide +kernel), List.mem_of_getElem? (i := 635) (by decide +kernel), List.mem_of_getElem? (i := 636) (by decide +kernel)⟩
theorem lw_p19 : lw_okq (⟨"RopeRanks$Strengths", "ringThrough", "(I)J"⟩, 6) := ⟨⟨by decide +kernel, by decide +kernel⟩, List.mem_of_getElem? (i := 244) (by decide +kernel), List.mem_of_getElem? (i := 643) (by decide +kernel), List.mem_of_getElem? (i := 644) (by decide +kernel)⟩
theorem lw_p20 : lw_okq (⟨"RopeRanks$Ropes", "link", "(J)V"⟩, 3) := ⟨⟨by decide +kernel, by decide +kernel⟩, List.mem_of_getElem? (i := 269) (by decide +kernel), List.mem_of_getElem? (i := 657) (by decide +kernel), List.mem_of_getElem? (i := 658) (by decide +kernel)⟩
theorem lw_p21 : lw_okq (⟨"RopeRanks$Ropes", "measure", "(I)V"⟩, 3) := ⟨⟨by decide +kernel, by decide +kernel⟩, List.mem_of_getElem? (i := 269) (by decide +kernel), List.mem_of_getElem? (i := 662) (by decide +kernel), List.mem_of_getElem? (i := 663) (by decide +kernel)⟩
theorem lw_p22 : lw_okq (⟨"RopeRanks$Strengths", "ringsApart", "(J)I"⟩, 6) := ⟨⟨by decide +kernel, by decide +kernel⟩, List.mem_of_getElem? (i := 244) (by decide +kernel), List.mem_of_getElem? (i := 679) (by decide +kernel), List.mem_of_getElem? (i := 680) (by decide +kernel)⟩
theorem lw_p23 : lw_okq (⟨"RopeRanks$Strengths", "leaveOut", "(JJJI)V"⟩, 6) := ⟨⟨by decide +kernel, by decide +kernel⟩, List.mem_of_getElem? (i := 244) (by decide +kernel), List.mem_of_getElem? (i := 684) (by decide +kernel), List.mem_of_getElem? (i := 685) (by decide +kernel)⟩
theorem lw_p24 : lw_okq (⟨"RopeRanks$Ropes", "leastMeasured", "()I"⟩, 3) := ⟨⟨by decide +kernel, by decide +kernel⟩, List.mem_of_getElem? (i := 269) (by decide +kernel), List.mem_of_getElem? (i := 697) (by decide +kernel), List.mem_of_getElem? (i := 698) (by decide +kernel)⟩
theorem lw_p25 : lw_okq (⟨"RopeRanks$Ropes", "nearerThan", "(I)I"⟩, 3) := ⟨⟨by decide +kernel, by decide +kernel⟩, List.mem_of_getElem? (i := 269) (by decide +kernel), List.mem_of_getElem? (i := 718) (by decide +kernel), List.mem_of_getElem? (i := 719) (by decide +kernel)⟩
theorem lw_p26 : lw_okq (⟨"RopeRanks$Ropes", "leastMeeting", "(II)I"⟩, 3) := ⟨⟨by decide +kernel, by decide +kernel⟩, List.mem_of_getElem? (i := 269) (by decide +kernel), List.mem_of_getElem? (i := 722) (by decide +kernel), List.mem_of_getElem? (i := 723) (by decide +kernel)⟩
theorem lw_p27 : lw_okq (⟨"RopeRanks$Crown", "judgeYear", "(III)V"⟩, 7) := ⟨⟨by decide +kernel, by decide +kernel⟩, List.mem_of_getElem? (i := 213) (by decide +kernel), List.mem_of_getElem? (i := 752) (by decide +kernel), List.mem_of_getElem? (i := 753) (by decide +kernel)⟩
theorem lw_p28 : lw_okq (⟨"RopeRanks$Crown", "offer", "(IJJ)V"⟩, 7) := ⟨⟨by decide +kernel, by decide +kernel⟩, List.mem_of_getElem? (i := 213) (by decide +kernel), List.mem_of_getElem? (i := 758) (by decide +kernel), List.mem_of_getElem? (i := 759) (by decide +kernel)⟩
theorem lw_p29 : lw_okq (⟨"RopeRanks$Crown", "judgeRow", "(II)V"⟩, 7) := ⟨⟨by decide +kernel, by decide +kernel⟩, List.mem_of_getElem? (i := 213) (by decide +kernel), List.mem_of_getElem? (i := 762) (by decide +kernel), List.mem_of_getElem? (i := 763) (by decide +kernel)⟩
theorem lw_p30 : lw_okq (⟨"RopeRanks$Wins", "readWins", "()V"⟩, 7) := ⟨⟨by decide +kernel, by decide +kernel⟩, List.mem_of_getElem? (i := 285) (by decide +kernel), List.mem_of_getElem? (i := 775) (by decide +kernel), List.mem_of_getElem? (i := 776) (by decide +kernel)⟩
theorem lw_p31 : lw_okq (⟨"RopeRanks$Wins", "ring", "(III)I"⟩, 7) := ⟨⟨by decide +kernel, by decide +kernel⟩, List.mem_of_getElem? (i := 285) (by decide +kernel), List.mem_of_getElem? (i := 781) (by decide +kernel), List.mem_of_getElem? (i := 782) (by decide +kernel)⟩
def lw_privs_2 : List (MethodName × Nat) := [(⟨"RopeRanks$Strengths", "tighten", "(J)Z"⟩, 6), (⟨"RopeRanks$Strengths", "lower", "(IIII)Z"⟩, 6), (⟨"RopeRanks$Strengths", "ringOfVias", "()J"⟩, 6), (⟨"RopeRanks$Strengths", "ringThrough", "(I)J"⟩, 6), (⟨"RopeRanks$Ropes", "link", "(J)V"⟩, 3), (⟨"RopeRanks$Ropes", "measure", "(I)V"⟩, 3), (⟨"RopeRanks$Strengths", "ringsApart", "(J)I"⟩, 6), (⟨"RopeRanks$Strengths", "leaveOut", "(JJJI)V"⟩, 6), (⟨"RopeRanks$Ropes", "leastMeasured", "()I"⟩, 3), (⟨"RopeRanks$Ropes", "nearerThan", "(I)I"⟩, 3), (⟨"RopeRanks$Ropes", "leastMeeting", "(II)I"⟩, 3), (⟨"RopeRanks$Crown", "judgeYear", "(III)V"⟩, 7), (⟨"RopeRanks$Crown", "offer", "(IJJ)V"⟩, 7), (⟨"RopeRanks$Crown", "judgeRow", "(II)V"⟩, 7), (⟨"RopeRanks$Wins", "readWins", "()V"⟩, 7), (⟨"RopeRanks$Wins", "ring", "(III)I"⟩, 7)]
theorem lw_r2 : ∀ q ∈ lw_privs_2, lw_okq q := List.forall_mem_cons.mpr ⟨lw_p16, List.forall_mem_cons.mpr ⟨lw_p17, List.forall_mem_cons.mpr ⟨lw_p18, List.forall_mem_cons.mpr ⟨lw_p19, List.forall_mem_cons.mpr ⟨lw_p20, List.forall_mem_cons.mpr ⟨lw_p21, List.forall_mem_cons.mpr ⟨lw_p22, List.forall_mem_cons.mpr ⟨lw_p23, List.forall_mem_cons.mpr ⟨lw_p24, List.forall_mem_cons.mpr ⟨lw_p25, List.forall_mem_cons.mpr ⟨lw_p26, List.forall_mem_cons.mpr ⟨lw_p27, List.forall_mem_cons.mpr ⟨lw_p28, List.forall_mem_cons.mpr ⟨lw_p29, List.forall_mem_cons.mpr ⟨lw_p30, List.forall_mem_cons.mpr ⟨lw_p31, fun _ h => absurd h List.not_mem_nil⟩⟩⟩⟩⟩⟩⟩⟩⟩⟩⟩⟩⟩⟩⟩⟩
theorem lw_p32 : lw_okq (⟨"RopeRanks$Wins", "winsOf", "(II)I"⟩, 7) := ⟨⟨by decide +kernel, by decide +kernel⟩, List.mem_of_getElem? (i := 285) (by decide +kernel), List.mem_of_getElem? (i := 785) (by decide +kernel), List.mem_of_getElem? (i := 786) (by decide +kernel)⟩
theorem lw_p33 : lw_okq (⟨"RopeRanks$Wins", "readRest", "()V"⟩, 7) := ⟨⟨by decide +kernel, by decide +kernel⟩, List.mem_of_getElem? (i := 285) (by decide +kernel), List.mem_of_getElem? (i := 797) (by decide +kernel), List.mem_of_getElem? (i := 798) (by decide +kernel)⟩
theorem lw_p34 : lw_okq (⟨"RopeRanks$Wins", "giveWay", "(II)V"⟩, 7) := ⟨⟨by decide +kernel, by decide +kernel⟩, List.mem_of_getElem? (i := 285) (by decide +kernel), List.mem_of_getElem? (i := 802) (by decide +kernel), List.mem_of_getElem? (i := 803) (by decide +kernel)⟩
theorem lw_p35 : lw_okq (⟨"RopeRanks$Wins", "readGain", "(I)V"⟩, 7) := ⟨⟨by decide +kernel, by decide +kernel⟩, List.mem_of_getElem? (i := 285) (by decide +kernel), List.mem_of_getElem? (i := 807) (by decide +kernel), List.mem_of_getElem? (i := 808) (by decide +kernel)⟩
theorem lw_p36 : lw_okq (⟨"RopeRanks", "putRight", "(I)V"⟩, 9) := ⟨⟨by decide +kernel, by decide +kernel⟩, List.mem_of_getElem? (i := 18) (by decide +kernel), List.mem_of_getElem? (i := 858) (by decide +kernel), List.mem_of_getElem? (i := 859) (by decide +kernel)⟩
theorem lw_p37 : lw_okq (⟨"RopeRanks$Records", "digestedPlayers", "(J)J"⟩, 18) := ⟨⟨by decide +kernel, by decide +kernel⟩, List.mem_of_getElem? (i := 26) (by decide +kernel), List.mem_of_getElem? (i := 901) (by decide +kernel), List.mem_of_getElem? (i := 902) (by decide +kernel)⟩
theorem lw_p38 : lw_okq (⟨"RopeRanks$Records", "digestedMeetings", "(J)J"⟩, 18) := ⟨⟨by decide +kernel, by decide +kernel⟩, List.mem_of_getElem? (i := 26) (by decide +kernel), List.mem_of_getElem? (i := 906) (by decide +kernel), List.mem_of_getElem? (i := 907) (by decide +kernel)⟩
theorem lw_p39 : lw_okq (⟨"RopeRanksModel", "players", "()I"⟩, 27) := ⟨⟨by decide +kernel, by decide +kernel⟩, List.mem_of_getElem? (i := 910) (by decide +kernel), List.mem_of_getElem? (i := 1008) (by decide +kernel), List.mem_of_getElem? (i := 1009) (by decide +kernel)⟩
theorem lw_p40 : lw_okq (⟨"RopeRanksModel", "meetings", "()I"⟩, 27) := ⟨⟨by decide +kernel, by decide +kernel⟩, List.mem_of_getElem? (i := 910) (by decide +kernel), List.mem_of_getElem? (i := 1016) (by decide +kernel), List.mem_of_getElem? (i := 1017) (by decide +kernel)⟩
theorem lw_p41 : lw_okq (⟨"RopeRanksModel", "of", "(II)I"⟩, 27) := ⟨⟨by decide +kernel, by decide +kernel⟩, List.mem_of_getElem? (i := 910) (by decide +kernel), List.mem_of_getElem? (i := 1020) (by decide +kernel), List.mem_of_getElem? (i := 1021) (by decide +kernel)⟩
theorem lw_p42 : lw_okq (⟨"RopeRanksModel", "isPlayer", "(I)Z"⟩, 27) := ⟨⟨by decide +kernel, by decide +kernel⟩, List.mem_of_getElem? (i := 910) (by decide +kernel), List.mem_of_getElem? (i := 1024) (by decide +kernel), List.mem_of_getElem? (i := 1025) (by decide +kernel)⟩
theorem lw_p43 : lw_okq (⟨"RopeRanksModel", "isSound", "(I)Z"⟩, 27) := ⟨⟨by decide +kernel, by decide +kernel⟩, List.mem_of_getElem? (i := 910) (by decide +kernel), List.mem_of_getElem? (i := 1055) (by decide +kernel), List.mem_of_getElem? (i := 1056) (by decide +kernel)⟩
theorem lw_p44 : lw_okq (⟨"RopeRanksModel", "reads", "()Z"⟩, 27) := ⟨⟨by decide +kernel, by decide +kernel⟩, List.mem_of_getElem? (i := 910) (by decide +kernel), List.mem_of_getElem? (i := 1059) (by decide +kernel), List.mem_of_getElem? (i := 1060) (by decide +kernel)⟩
theorem lw_p45 : lw_okq (⟨"RopeRanksModel", "ahead", "()I"⟩, 27) := ⟨⟨by decide +kernel, by decide +kernel⟩, List.mem_of_getElem? (i := 910) (by decide +kernel), List.mem_of_getElem? (i := 1063) (by decide +kernel), List.mem_of_getElem? (i := 1064) (by decide +kernel)⟩
theorem lw_p46 : lw_okq (⟨"RopeRanksModel", "textLong", "()I"⟩, 27) := ⟨⟨by decide +kernel, by decide +kernel⟩, List.mem_of_getElem? (i := 910) (by decide +kernel), List.mem_of_getElem? (i := 1067) (by decide +kernel), List.mem_of_getElem? (i := 1068) (by decide +kernel)⟩
theorem lw_p47 : lw_okq (⟨"RopeRanksModel", "charAt", "(I)I"⟩, 27) := ⟨⟨by decide +kernel, by decide +kernel⟩, List.mem_of_getElem? (i := 910) (by decide +kernel), List.mem_of_getElem? (i := 1071) (by decide +kernel), List.mem_of_getElem? (i := 1072) (by decide +kernel)⟩
def lw_privs_3 : List (MethodName × Nat) := [(⟨"RopeRanks$Wins", "winsOf", "(II)I"⟩, 7), (⟨"RopeRanks$Wins", "readRest", "()V"⟩, 7), (⟨"RopeRanks$Wins", "giveWay", "(II)V"⟩, 7), (⟨"RopeRanks$Wins", "readGain", "(I)V"⟩, 7), (⟨"RopeRanks", "putRight", "(I)V"⟩, 9), (⟨"RopeRanks$Records", "digestedPlayers", "(J)J"⟩, 18), (⟨"RopeRanks$Records", "digestedMeetings", "(J)J"⟩, 18), (⟨"RopeRanksModel", "players", "()I"⟩, 27), (⟨"RopeRanksModel", "meetings", "()I"⟩, 27), (⟨"RopeRanksModel", "of", "(II)I"⟩, 27), (⟨"RopeRanksModel", "isPlayer", "(I)Z"⟩, 27), (⟨"RopeRanksModel", "isSound", "(I)Z"⟩, 27), (⟨"RopeRanksModel", "reads", "()Z"⟩, 27), (⟨"RopeRanksModel", "ahead", "()I"⟩, 27), (⟨"RopeRanksModel", "textLong", "()I"⟩, 27), (⟨"RopeRanksModel", "charAt", "(I)I"⟩, 27)]
theorem lw_r3 : ∀ q ∈ lw_privs_3, lw_okq q := List.forall_mem_cons.mpr ⟨lw_p32, List.forall_mem_cons.mpr ⟨lw_p33, List.forall_mem_cons.mpr ⟨lw_p34, List.forall_mem_cons.mpr ⟨lw_p35, List.forall_mem_cons.mpr ⟨lw_p36, List.forall_mem_cons.mpr ⟨lw_p37, List.forall_mem_cons.mpr ⟨lw_p38, List.forall_mem_cons.mpr ⟨lw_p39, List.forall_mem_cons.mpr ⟨lw_p40, List.forall_mem_cons.mpr ⟨lw_p41, List.forall_mem_cons.mpr ⟨lw_p42, List.forall_mem_cons.mpr ⟨lw_p43, List.forall_mem_cons.mpr ⟨lw_p44, List.forall_mem_cons.mpr ⟨lw_p45, List.forall_mem_cons.mpr ⟨lw_p46, List.forall_mem_cons.mpr ⟨lw_p47, fun _ h => absurd h List.not_mem_nil⟩⟩⟩⟩⟩⟩⟩⟩⟩⟩⟩⟩⟩⟩⟩⟩
theorem lw_p48 : lw_okq (⟨"RopeRanksModel", "digits", "()J"⟩, 27) := ⟨⟨by decide +kernel, by decide +kernel⟩, List.mem_of_getElem? (i := 910) (by decide +kernel), List.mem_of_getElem? (i := 1077) (by decide +kernel), List.mem_of_getElem? (i := 1078) (by decide +kernel)⟩
theorem lw_p49 : lw_okq (⟨"RopeRanksModel", "stands", "(J)V"⟩, 27) := ⟨⟨by decide +kernel, by decide +kernel⟩, List.mem_of_getElem? (i := 910) (by decide +kernel), List.mem_of_getElem? (i := 1082) (by decide +kernel), List.mem_of_getElem? (i := 1083) (by decide +kernel)⟩
theorem lw_p50 : lw_okq (⟨"RopeRanksModel", "worksDown", "(I)V"⟩, 27) := ⟨⟨by decide +kernel, by decide +kernel⟩, List.mem_of_getElem? (i := 910) (by decide +kernel), List.mem_of_getElem? (i := 1089) (by decide +kernel), List.mem_of_getElem? (i := 1090) (by decide +kernel)⟩
theorem lw_p51 : lw_okq (⟨"RopeRanksModel", "works", "()V"⟩, 27) := ⟨⟨by decide +kernel, by decide +kernel⟩, List.mem_of_getElem? (i := 910) (by decide +kernel), List.mem_of_getElem? (i := 1096) (by decide +kernel), List.mem_of_getElem? (i := 1097) (by decide +kernel)⟩
theorem lw_p52 : lw_okq (⟨"RopeRanksModel", "begins", "(I)V"⟩, 27) := ⟨⟨by decide +kernel, by decide +kernel⟩, List.mem_of_getElem? (i := 910) (by decide +kernel), List.mem_of_getElem? (i := 1105) (by decide +kernel), List.mem_of_getElem? (i := 1106) (by decide +kernel)⟩
theorem lw_p53 : lw_okq (⟨"RopeRanksModel", "step", "(II)V"⟩, 27) := ⟨⟨by decide +kernel, by decide +kernel⟩, List.mem_of_getElem? (i := 910) (by decide +kernel), List.mem_of_getElem? (i := 1109) (by decide +kernel), List.mem_of_getElem? (i := 1110) (by decide +kernel)⟩
theorem lw_p54 : lw_okq (⟨"RopeRanksModel", "changeOf", "(IIII)I"⟩, 27) := ⟨⟨by decide +kernel, by decide +kernel⟩, List.mem_of_getElem? (i := 910) (by decide +kernel), List.mem_of_getElem? (i := 1113) (by decide +kernel), List.mem_of_getElem? (i := 1114) (by decide +kernel)⟩
theorem lw_p55 : lw_okq (⟨"RopeRanksModel", "goTo", "(II)V"⟩, 27) := ⟨⟨by decide +kernel, by decide +kernel⟩, List.mem_of_getElem? (i := 910) (by decide +kernel), List.mem_of_getElem? (i := 1130) (by decide +kernel), List.mem_of_getElem? (i := 1131) (by decide +kernel)⟩
theorem lw_p56 : lw_okq (⟨"RopeRanksModel", "hasMet", "(II)Z"⟩, 27) := ⟨⟨by decide +kernel, by decide +kernel⟩, List.mem_of_getElem? (i := 910) (by decide +kernel), List.mem_of_getElem? (i := 1134) (by decide +kernel), List.mem_of_getElem? (i := 1135) (by decide +kernel)⟩
theorem lw_p57 : lw_okq (⟨"RopeRanksModel", "isIn", "(II)Z"⟩, 27) := ⟨⟨by decide +kernel, by decide +kernel⟩, List.mem_of_getElem? (i := 910) (by decide +kernel), List.mem_of_getElem? (i := 1138) (by decide +kernel), List.mem_of_getElem? (i := 1139) (by decide +kernel)⟩
theorem lw_p58 : lw_okq (⟨"RopeRanksModel", "tell", "(JJ)V"⟩, 27) := ⟨⟨by decide +kernel, by decide +kernel⟩, List.mem_of_getElem? (i := 910) (by decide +kernel), List.mem_of_getElem? (i := 1142) (by decide +kernel), List.mem_of_getElem? (i := 1143) (by decide +kernel)⟩
theorem lw_p59 : lw_okq (⟨"RopeRanksModel", "foretells", "(I)I"⟩, 27) := ⟨⟨by decide +kernel, by decide +kernel⟩, List.mem_of_getElem? (i := 910) (by decide +kernel), List.mem_of_getElem? (i := 1154) (by decide +kernel), List.mem_of_getElem? (i := 1155) (by decide +kernel)⟩
theorem lw_p60 : lw_okq (⟨"RopeRanksModel", "agree", "(III)Z"⟩, 27) := ⟨⟨by decide +kernel, by decide +kernel⟩, List.mem_of_getElem? (i := 910) (by decide +kernel), List.mem_of_getElem? (i := 1178) (by decide +kernel), List.mem_of_getElem? (i := 1179) (by decide +kernel)⟩
theorem lw_p61 : lw_okq (⟨"RopeRanksModel", "doesSay", "(I)Z"⟩, 27) := ⟨⟨by decide +kernel, by decide +kernel⟩, List.mem_of_getElem? (i := 910) (by decide +kernel), List.mem_of_getElem? (i := 1183) (by decide +kernel), List.mem_of_getElem? (i := 1184) (by decide +kernel)⟩
theorem lw_p62 : lw_okq (⟨"RopeRanksModel", "shapeOf", "(II)I"⟩, 27) := ⟨⟨by decide +kernel, by decide +kernel⟩, List.mem_of_getElem? (i := 910) (by decide +kernel), List.mem_of_getElem? (i := 1187) (by decide +kernel), List.mem_of_getElem? (i := 1188) (by decide +kernel)⟩
theorem lw_p63 : lw_okq (⟨"RopeRanksModel", "bound", "(III)V"⟩, 27) := ⟨⟨by decide +kernel, by decide +kernel⟩, List.mem_of_getElem? (i := 910) (by decide +kernel), List.mem_of_getElem? (i := 1191) (by decide +kernel), List.mem_of_getElem? (i := 1192) (by decide +kernel)⟩
def lw_privs_4 : List (MethodName × Nat) := [(⟨"RopeRanksModel", "digits", "()J"⟩, 27), (⟨"RopeRanksModel", "stands", "(J)V"⟩, 27), (⟨"RopeRanksModel", "worksDown", "(I)V"⟩, 27), (⟨"RopeRanksModel", "works", "()V"⟩, 27), (⟨"RopeRanksModel", "begins", "(I)V"⟩, 27), (⟨"RopeRanksModel", "step", "(II)V"⟩, 27), (⟨"RopeRanksModel", "changeOf", "(IIII)I"⟩, 27), (⟨"RopeRanksModel", "goTo", "(II)V"⟩, 27), (⟨"RopeRanksModel", "hasMet", "(II)Z"⟩, 27), (⟨"RopeRanksModel", "isIn", "(II)Z"⟩, 27), (⟨"RopeRanksModel", "tell", "(JJ)V"⟩, 27), (⟨"RopeRanksModel", "foretells", "(I)I"⟩, 27), (⟨"RopeRanksModel", "agree", "(III)Z"⟩, 27), (⟨"RopeRanksModel", "doesSay", "(I)Z"⟩, 27), (⟨"RopeRanksModel", "shapeOf", "(II)I"⟩, 27), (⟨"RopeRanksModel", "bound", "(III)V"⟩, 27)]
theorem lw_r4 : ∀ q ∈ lw_privs_4, lw_okq q := List.forall_mem_cons.mpr ⟨lw_p48, List.forall_mem_cons.mpr ⟨lw_p49, List.forall_mem_cons.mpr ⟨lw_p50, List.forall_mem_cons.mpr ⟨lw_p51, List.forall_mem_cons.mpr ⟨lw_p52, List.forall_mem_cons.mpr ⟨lw_p53, List.forall_mem_cons.mpr ⟨lw_p54, List.forall_mem_cons.mpr ⟨lw_p55, List.forall_mem_cons.mpr ⟨lw_p56, List.forall_mem_cons.mpr ⟨lw_p57, List.forall_mem_cons.mpr ⟨lw_p58, List.forall_mem_cons.mpr ⟨lw_p59, List.forall_mem_cons.mpr ⟨lw_p60, List.forall_mem_cons.mpr ⟨lw_p61, List.forall_mem_cons.mpr ⟨lw_p62, List.forall_mem_cons.mpr ⟨lw_p63, fun _ h => absurd h List.not_mem_nil⟩⟩⟩⟩⟩⟩⟩⟩⟩⟩⟩⟩⟩⟩⟩⟩
theorem lw_p64 : lw_okq (⟨"RopeRanksModel", "leastOf", "(I)I"⟩, 27) := ⟨⟨by decide +kernel, by decide +kernel⟩, List.mem_of_getElem? (i := 910) (by decide +kernel), List.mem_of_getElem? (i := 1210) (by decide +kernel), List.mem_of_getElem? (i := 1211) (by decide +kernel)⟩
theorem lw_p65 : lw_okq (⟨"RopeRanksModel", "goFrom", "(II)V"⟩, 27) := ⟨⟨by decide +kernel, by decide +kernel⟩, List.mem_of_getElem? (i := 910) (by decide +kernel), List.mem_of_getElem? (i := 1214) (by decide +kernel), List.mem_of_getElem? (i := 1215) (by decide +kernel)⟩
theorem lw_p66 : lw_okq (⟨"RopeRanksModel", "bestAbove", "(I)I"⟩, 27) := ⟨⟨by decide +kernel, by decide +kernel⟩, List.mem_of_getElem? (i := 910) (by decide +kernel), List.mem_of_getElem? (i := 1231) (by decide +kernel), List.mem_of_getElem? (i := 1232) (by decide +kernel)⟩
theorem lw_p67 : lw_okq (⟨"RopeRanksModel", "findRun", "(III)Z"⟩, 27) := ⟨⟨by decide +kernel, by decide +kernel⟩, List.mem_of_getElem? (i := 910) (by decide +kernel), List.mem_of_getElem? (i := 1235) (by decide +kernel), List.mem_of_getElem? (i := 1236) (by decide +kernel)⟩
theorem lw_p68 : lw_okq (⟨"RopeRanksModel", "findEnds", "(II)V"⟩, 27) := ⟨⟨by decide +kernel, by decide +kernel⟩, List.mem_of_getElem? (i := 910) (by decide +kernel), List.mem_of_getElem? (i := 1239) (by decide +kernel), List.mem_of_getElem? (i := 1240) (by decide +kernel)⟩
theorem lw_p69 : lw_okq (⟨"RopeRanksModel", "hasBeaten", "(II)Z"⟩, 27) := ⟨⟨by decide +kernel, by decide +kernel⟩, List.mem_of_getElem? (i := 910) (by decide +kernel), List.mem_of_getElem? (i := 1247) (by decide +kernel), List.mem_of_getElem? (i := 1248) (by decide +kernel)⟩
theorem lw_p70 : lw_okq (⟨"RopeRanksModel", "metOf", "(IIZ)I"⟩, 27) := ⟨⟨by decide +kernel, by decide +kernel⟩, List.mem_of_getElem? (i := 910) (by decide +kernel), List.mem_of_getElem? (i := 1259) (by decide +kernel), List.mem_of_getElem? (i := 1260) (by decide +kernel)⟩
theorem lw_p71 : lw_okq (⟨"RopeRanksModel", "sums", "(JII)J"⟩, 27) := ⟨⟨by decide +kernel, by decide +kernel⟩, List.mem_of_getElem? (i := 910) (by decide +kernel), List.mem_of_getElem? (i := 1307) (by decide +kernel), List.mem_of_getElem? (i := 1308) (by decide +kernel)⟩
def lw_privs_5 : List (MethodName × Nat) := [(⟨"RopeRanksModel", "leastOf", "(I)I"⟩, 27), (⟨"RopeRanksModel", "goFrom", "(II)V"⟩, 27), (⟨"RopeRanksModel", "bestAbove", "(I)I"⟩, 27), (⟨"RopeRanksModel", "findRun", "(III)Z"⟩, 27), (⟨"RopeRanksModel", "findEnds", "(II)V"⟩, 27), (⟨"RopeRanksModel", "hasBeaten", "(II)Z"⟩, 27), (⟨"RopeRanksModel", "metOf", "(IIZ)I"⟩, 27), (⟨"RopeRanksModel", "sums", "(JII)J"⟩, 27)]
theorem lw_r5 : ∀ q ∈ lw_privs_5, lw_okq q := List.forall_mem_cons.mpr ⟨lw_p64, List.forall_mem_cons.mpr ⟨lw_p65, List.forall_mem_cons.mpr ⟨lw_p66, List.forall_mem_cons.mpr ⟨lw_p67, List.forall_mem_cons.mpr ⟨lw_p68, List.forall_mem_cons.mpr ⟨lw_p69, List.forall_mem_cons.mpr ⟨lw_p70, List.forall_mem_cons.mpr ⟨lw_p71, fun _ h => absurd h List.not_mem_nil⟩⟩⟩⟩⟩⟩⟩⟩
def lw_privs : List (MethodName × Nat) := lw_privs_1 ++ (lw_privs_2 ++ (lw_privs_3 ++ (lw_privs_4 ++ (lw_privs_5))))
def lw_tbl : List Cond := k2_sels lw_privs ++ tables_1
theorem lw_privs_ok : ∀ q ∈ lw_privs, lw_okq q := by
  show ∀ q ∈ lw_privs_1 ++ (lw_privs_2 ++ (lw_privs_3 ++ (lw_privs_4 ++ (lw_privs_5)))), lw_okq q
  exact List.forall_mem_append.mpr ⟨lw_r1, List.forall_mem_append.mpr ⟨lw_r2, List.forall_mem_append.mpr ⟨lw_r3, List.forall_mem_append.mpr ⟨lw_r4, lw_r5⟩⟩⟩⟩
def RX0 : String := "RopeRanks$Chance"
def TX0 : u_T := fun k => match k with
  | _ => ("", "", "", false)
def tyX0 : Nat → FieldType := fun k => match k with
  | _ => .int
abbrev wsX00 : List Cond := u_ws RX0 TX0 0
theorem nmX0 : ∀ a, a < 0 → ∀ b, b < 0 → a ≠ b → (TX0 a).2.1 ≠ (TX0 b).2.1 := by decide +kernel
theorem tyX0_ok : ∀ k, k < 0 → parseFieldDescriptor (TX0 k).2.2.1 = some (tyX0 k) := by decide +kernel
abbrev cX0_power : ByteArray := prog_2_method_2_code
def yX0_power : MethodName := ⟨RX0, "power", "(II)J"⟩
abbrev cX0_cases : ByteArray := prog_2_method_3_code
def yX0_cases : MethodName := ⟨RX0, "cases", "(IIII)J"⟩
def RX1 : String := "RopeRanks$Crown"
def TX1 : u_T := fun k => match k with
  | 0 => ("RopeRanks$Crown", "holder", "I", false)
  | 1 => ("RopeRanks$Crown", "above", "J", false)
  | 2 => ("RopeRanks$Crown", "below", "J", false)
  | 3 => ("RopeRanks$Crown", "records", "LRopeRanks$Records;", true)
  | 4 => ("RopeRanks$Crown", "ladder", "LRopeRanks$Ladder;", true)
  | 5 => ("RopeRanks$Crown", "ends", "[I", true)
  | _ => ("RopeRanks$Crown", "years", "[I", true)
def tyX1 : Nat → FieldType := fun k => match k with
  | 0 => .int
  | 1 => .long
  | 2 => .long
  | 3 => .object "RopeRanks$Records"
  | 4 => .object "RopeRanks$Ladder"
  | 5 => .array .int
  | _ => .array .int
abbrev wsX10 : List Cond := u_ws RX1 TX1 7
theorem nmX1 : ∀ a, a < 7 → ∀ b, b < 7 → a ≠ b → (TX1 a).2.1 ≠ (TX1 b).2.1 := by decide +kernel
theorem tyX1_ok : ∀ k, k < 7 → parseFieldDescriptor (TX1 k).2.2.1 = some (tyX1 k) := by decide +kernel
abbrev cX1_init : ByteArray := prog_3_method_1_code
def yX1_init : MethodName := ⟨RX1, "<init>", "(LRopeRanks$Records;LRopeRanks$Ladder;)V"⟩
abbrev cX1_ask : ByteArray := prog_3_method_2_code
def yX1_ask : MethodName := ⟨RX1, "ask", "(III)V"⟩
abbrev cX1_judgeYear : ByteArray := prog_3_method_3_code
def yX1_judgeYear : MethodName := ⟨RX1, "judgeYear", "(III)V"⟩
abbrev cX1_judgeRow : ByteArray := prog_3_method_4_code
def yX1_judgeRow : MethodName := ⟨RX1, "judgeRow", "(II)V"⟩
abbrev cX1_offer : ByteArray := prog_3_method_5_code
def yX1_offer : MethodName := ⟨RX1, "offer", "(IJJ)V"⟩
def RX2 : String := "RopeRanks$Formula"
def TX2 : u_T := fun k => match k with
  | 0 => ("RopeRanks$Formula", "told", "[J", true)
  | 1 => ("RopeRanks$Formula", "flaw", "I", false)
  | 2 => ("RopeRanks$Formula", "signs", "[I", true)
  | 3 => ("RopeRanks$Formula", "steps", "[I", true)
  | 4 => ("RopeRanks$Formula", "stack", "[J", true)
  | 5 => ("RopeRanks$Formula", "length", "I", false)
  | 6 => ("RopeRanks$Formula", "place", "I", false)
  | 7 => ("RopeRanks$Formula", "open", "I", false)
  | 8 => ("RopeRanks$Formula", "size", "I", false)
  | _ => ("RopeRanks$Formula", "top", "I", false)
def tyX2 : Nat → FieldType := fun k => match k with
  | 0 => .array .long
  | 1 => .int
  | 2 => .array .int
  | 3 => .array .int
  | 4 => .array .long
  | 5 => .int
  | 6 => .int
  | 7 => .int
  | 8 => .int
  | _ => .int
abbrev wsX20 : List Cond := u_ws RX2 TX2 10
theorem nmX2 : ∀ a, a < 10 → ∀ b, b < 10 → a ≠ b → (TX2 a).2.1 ≠ (TX2 b).2.1 := by decide +kernel
theorem tyX2_ok : ∀ k, k < 10 → parseFieldDescriptor (TX2 k).2.2.1 = some (tyX2 k) := by decide +kernel
abbrev cX2_init : ByteArray := prog_4_method_1_code
def yX2_init : MethodName := ⟨RX2, "<init>", "()V"⟩
abbrev cX2_read : ByteArray := prog_4_method_2_code
def yX2_read : MethodName := ⟨RX2, "read", "(LRopeRanks$Records;I)V"⟩
abbrev cX2_worth : ByteArray := prog_4_method_3_code
def yX2_worth : MethodName := ⟨RX2, "worth", "()J"⟩
abbrev cX2_readLevel : ByteArray := prog_4_method_4_code
def yX2_readLevel : MethodName := ⟨RX2, "readLevel", "(I)V"⟩
abbrev cX2_readUnit : ByteArray := prog_4_method_5_code
def yX2_readUnit : MethodName := ⟨RX2, "readUnit", "()V"⟩
abbrev cX2_addAheadSigns : ByteArray := prog_4_method_6_code
def yX2_addAheadSigns : MethodName := ⟨RX2, "addAheadSigns", "(II)V"⟩
abbrev cX2_readDigits : ByteArray := prog_4_method_7_code
def yX2_readDigits : MethodName := ⟨RX2, "readDigits", "()V"⟩
abbrev cX2_readBrackets : ByteArray := prog_4_method_8_code
def yX2_readBrackets : MethodName := ⟨RX2, "readBrackets", "()V"⟩
abbrev cX2_next : ByteArray := prog_4_method_9_code
def yX2_next : MethodName := ⟨RX2, "next", "()I"⟩
abbrev cX2_fail : ByteArray := prog_4_method_10_code
def yX2_fail : MethodName := ⟨RX2, "fail", "(I)V"⟩
abbrev cX2_add : ByteArray := prog_4_method_11_code
def yX2_add : MethodName := ⟨RX2, "add", "(I)V"⟩
abbrev cX2_levelOf : ByteArray := prog_4_method_12_code
def yX2_levelOf : MethodName := ⟨RX2, "levelOf", "(I)I"⟩
abbrev cX2_letterOf : ByteArray := prog_4_method_13_code
def yX2_letterOf : MethodName := ⟨RX2, "letterOf", "(I)I"⟩
abbrev cX2_work : ByteArray := prog_4_method_14_code
def yX2_work : MethodName := ⟨RX2, "work", "(I)V"⟩
abbrev cX2_between : ByteArray := prog_4_method_15_code
def yX2_between : MethodName := ⟨RX2, "between", "(JIJ)J"⟩
abbrev cX2_push : ByteArray := prog_4_method_16_code
def yX2_push : MethodName := ⟨RX2, "push", "(J)V"⟩
abbrev cX2_pop : ByteArray := prog_4_method_17_code
def yX2_pop : MethodName := ⟨RX2, "pop", "()J"⟩
def RX3 : String := "RopeRanks$Fraction"
def TX3 : u_T := fun k => match k with
  | 0 => ("RopeRanks$Fraction", "above", "J", false)
  | _ => ("RopeRanks$Fraction", "below", "J", false)
def tyX3 : Nat → FieldType := fun k => match k with
  | 0 => .long
  | _ => .long
abbrev wsX30 : List Cond := u_ws RX3 TX3 2
theorem nmX3 : ∀ a, a < 2 → ∀ b, b < 2 → a ≠ b → (TX3 a).2.1 ≠ (TX3 b).2.1 := by decide +kernel
theorem tyX3_ok : ∀ k, k < 2 → parseFieldDescriptor (TX3 k).2.2.1 = some (tyX3 k) := by decide +kernel
abbrev cX3_init : ByteArray := prog_5_method_1_code
def yX3_init : MethodName := ⟨RX3, "<init>", "()V"⟩
abbrev cX3_put : ByteArray := prog_5_method_2_code
def yX3_put : MethodName := ⟨RX3, "put", "(JJ)V"⟩
abbrev cX3_divisor : ByteArray := prog_5_method_3_code
def yX3_divisor : MethodName := ⟨RX3, "divisor", "(JJ)J"⟩
def RX4 : String := "RopeRanks$Ladder"
def TX4 : u_T := fun k => match k with
  | 0 => ("RopeRanks$Ladder", "number", "[I", true)
  | 1 => ("RopeRanks$Ladder", "records", "LRopeRanks$Records;", true)
  | 2 => ("RopeRanks$Ladder", "formula", "LRopeRanks$Formula;", true)
  | 3 => ("RopeRanks$Ladder", "met", "[I", true)
  | 4 => ("RopeRanks$Ladder", "lastYear", "[I", true)
  | _ => ("RopeRanks$Ladder", "change", "I", false)
def tyX4 : Nat → FieldType := fun k => match k with
  | 0 => .array .int
  | 1 => .object "RopeRanks$Records"
  | 2 => .object "RopeRanks$Formula"
  | 3 => .array .int
  | 4 => .array .int
  | _ => .int
abbrev wsX40 : List Cond := u_ws RX4 TX4 6
theorem nmX4 : ∀ a, a < 6 → ∀ b, b < 6 → a ≠ b → (TX4 a).2.1 ≠ (TX4 b).2.1 := by decide +kernel
theorem tyX4_ok : ∀ k, k < 6 → parseFieldDescriptor (TX4 k).2.2.1 = some (tyX4 k) := by decide +kernel
abbrev cX4_init : ByteArray := prog_6_method_1_code
def yX4_init : MethodName := ⟨RX4, "<init>", "(LRopeRanks$Records;)V"⟩
abbrev cX4_flaw : ByteArray := prog_6_method_2_code
def yX4_flaw : MethodName := ⟨RX4, "flaw", "(I)I"⟩
abbrev cX4_isFlawed : ByteArray := prog_6_method_3_code
def yX4_isFlawed : MethodName := ⟨RX4, "isFlawed", "()Z"⟩
abbrev cX4_begin : ByteArray := prog_6_method_4_code
def yX4_begin : MethodName := ⟨RX4, "begin", "(I)V"⟩
abbrev cX4_playTo : ByteArray := prog_6_method_5_code
def yX4_playTo : MethodName := ⟨RX4, "playTo", "(I)V"⟩
abbrev cX4_play : ByteArray := prog_6_method_6_code
def yX4_play : MethodName := ⟨RX4, "play", "(I)V"⟩
abbrev cX4_changesIn : ByteArray := prog_6_method_7_code
def yX4_changesIn : MethodName := ⟨RX4, "changesIn", "(II)I"⟩
abbrev cX4_rise : ByteArray := prog_6_method_8_code
def yX4_rise : MethodName := ⟨RX4, "rise", "(IIII)I"⟩
abbrev cX4_sumOf : ByteArray := prog_6_method_9_code
def yX4_sumOf : MethodName := ⟨RX4, "sumOf", "(I)I"⟩
abbrev cX4_lastWithout : ByteArray := prog_6_method_10_code
def yX4_lastWithout : MethodName := ⟨RX4, "lastWithout", "(III)I"⟩
abbrev cX4_foresight : ByteArray := prog_6_method_11_code
def yX4_foresight : MethodName := ⟨RX4, "foresight", "(I)I"⟩
abbrev cX4_pointsFor : ByteArray := prog_6_method_12_code
def yX4_pointsFor : MethodName := ⟨RX4, "pointsFor", "(I)I"⟩
abbrev cX4_changeOf : ByteArray := prog_6_method_13_code
def yX4_changeOf : MethodName := ⟨RX4, "changeOf", "(IIII)I"⟩
abbrev cX4_settle : ByteArray := prog_6_method_14_code
def yX4_settle : MethodName := ⟨RX4, "settle", "(III)V"⟩
def RX5 : String := "RopeRanks$Records"
def TX5 : u_T := fun k => match k with
  | 0 => ("RopeRanks$Records", "players", "I", false)
  | 1 => ("RopeRanks$Records", "meetings", "I", false)
  | 2 => ("RopeRanks$Records", "given", "J", false)
  | 3 => ("RopeRanks$Records", "doubted", "J", false)
  | 4 => ("RopeRanks$Records", "wide", "I", false)
  | 5 => ("RopeRanks$Records", "even", "I", false)
  | 6 => ("RopeRanks$Records", "born", "[I", true)
  | 7 => ("RopeRanks$Records", "right", "[I", true)
  | 8 => ("RopeRanks$Records", "all", "[I", true)
  | 9 => ("RopeRanks$Records", "year", "[I", true)
  | 10 => ("RopeRanks$Records", "a", "[I", true)
  | 11 => ("RopeRanks$Records", "b", "[I", true)
  | 12 => ("RopeRanks$Records", "end", "[I", true)
  | 13 => ("RopeRanks$Records", "first", "[I", true)
  | 14 => ("RopeRanks$Records", "length", "[I", true)
  | 15 => ("RopeRanks$Records", "text", "[I", true)
  | 16 => ("RopeRanks$Records", "shape", "[I", true)
  | _ => ("RopeRanks$Records", "weight", "[I", true)
def tyX5 : Nat → FieldType := fun k => match k with
  | 0 => .int
  | 1 => .int
  | 2 => .long
  | 3 => .long
  | 4 => .int
  | 5 => .int
  | 6 => .array .int
  | 7 => .array .int
  | 8 => .array .int
  | 9 => .array .int
  | 10 => .array .int
  | 11 => .array .int
  | 12 => .array .int
  | 13 => .array .int
  | 14 => .array .int
  | 15 => .array .int
  | 16 => .array .int
  | _ => .array .int
abbrev wsX50 : List Cond := u_ws RX5 TX5 18
theorem nmX5 : ∀ a, a < 18 → ∀ b, b < 18 → a ≠ b → (TX5 a).2.1 ≠ (TX5 b).2.1 := by decide +kernel
theorem tyX5_ok : ∀ k, k < 18 → parseFieldDescriptor (TX5 k).2.2.1 = some (tyX5 k) := by decide +kernel
abbrev cX5_init : ByteArray := prog_7_method_1_code
def yX5_init : MethodName := ⟨RX5, "<init>", "()V"⟩
abbrev cX5_isPlayer : ByteArray := prog_7_method_2_code
def yX5_isPlayer : MethodName := ⟨RX5, "isPlayer", "(I)Z"⟩
abbrev cX5_isPair : ByteArray := prog_7_method_3_code
def yX5_isPair : MethodName := ⟨RX5, "isPair", "(II)Z"⟩
abbrev cX5_latestYear : ByteArray := prog_7_method_4_code
def yX5_latestYear : MethodName := ⟨RX5, "latestYear", "()I"⟩
abbrev cX5_addMeeting : ByteArray := prog_7_method_5_code
def yX5_addMeeting : MethodName := ⟨RX5, "addMeeting", "(IIIIZ)I"⟩
abbrev cX5_isGiven : ByteArray := prog_7_method_6_code
def yX5_isGiven : MethodName := ⟨RX5, "isGiven", "(I)Z"⟩
abbrev cX5_saying : ByteArray := prog_7_method_7_code
def yX5_saying : MethodName := ⟨RX5, "saying", "()J"⟩
abbrev cX5_isOf : ByteArray := prog_7_method_8_code
def yX5_isOf : MethodName := ⟨RX5, "isOf", "(II)Z"⟩
abbrev cX5_otherOf : ByteArray := prog_7_method_9_code
def yX5_otherOf : MethodName := ⟨RX5, "otherOf", "(II)I"⟩
abbrev cX5_pairBits : ByteArray := prog_7_method_10_code
def yX5_pairBits : MethodName := ⟨RX5, "pairBits", "(I)I"⟩
abbrev cX5_endsYear : ByteArray := prog_7_method_11_code
def yX5_endsYear : MethodName := ⟨RX5, "endsYear", "(I)Z"⟩
abbrev cX5_whoMet : ByteArray := prog_7_method_12_code
def yX5_whoMet : MethodName := ⟨RX5, "whoMet", "(I)I"⟩
abbrev cX5_meetingsOf : ByteArray := prog_7_method_13_code
def yX5_meetingsOf : MethodName := ⟨RX5, "meetingsOf", "(II)I"⟩
abbrev cX5_evenMeetingsOf : ByteArray := prog_7_method_14_code
def yX5_evenMeetingsOf : MethodName := ⟨RX5, "evenMeetingsOf", "(II)I"⟩
abbrev cX5_shapeOf : ByteArray := prog_7_method_15_code
def yX5_shapeOf : MethodName := ⟨RX5, "shapeOf", "(II)I"⟩
abbrev cX5_rightOf : ByteArray := prog_7_method_16_code
def yX5_rightOf : MethodName := ⟨RX5, "rightOf", "(I)I"⟩
abbrev cX5_movesOf : ByteArray := prog_7_method_17_code
def yX5_movesOf : MethodName := ⟨RX5, "movesOf", "(I)I"⟩
abbrev cX5_take : ByteArray := prog_7_method_18_code
def yX5_take : MethodName := ⟨RX5, "take", "(LRopeRanks$Records;)V"⟩
abbrev cX5_digested : ByteArray := prog_7_method_19_code
def yX5_digested : MethodName := ⟨RX5, "digested", "(J)J"⟩
abbrev cX5_digestedPlayers : ByteArray := prog_7_method_20_code
def yX5_digestedPlayers : MethodName := ⟨RX5, "digestedPlayers", "(J)J"⟩
abbrev cX5_digestedMeetings : ByteArray := prog_7_method_21_code
def yX5_digestedMeetings : MethodName := ⟨RX5, "digestedMeetings", "(J)J"⟩
def RX6 : String := "RopeRanks$Ropes"
def TX6 : u_T := fun k => match k with
  | 0 => ("RopeRanks$Ropes", "records", "LRopeRanks$Records;", true)
  | 1 => ("RopeRanks$Ropes", "links", "[I", true)
  | _ => ("RopeRanks$Ropes", "far", "[I", true)
def tyX6 : Nat → FieldType := fun k => match k with
  | 0 => .object "RopeRanks$Records"
  | 1 => .array .int
  | _ => .array .int
abbrev wsX60 : List Cond := u_ws RX6 TX6 3
theorem nmX6 : ∀ a, a < 3 → ∀ b, b < 3 → a ≠ b → (TX6 a).2.1 ≠ (TX6 b).2.1 := by decide +kernel
theorem tyX6_ok : ∀ k, k < 3 → parseFieldDescriptor (TX6 k).2.2.1 = some (tyX6 k) := by decide +kernel
abbrev cX6_init : ByteArray := prog_8_method_1_code
def yX6_init : MethodName := ⟨RX6, "<init>", "(LRopeRanks$Records;)V"⟩
abbrev cX6_areJoined : ByteArray := prog_8_method_2_code
def yX6_areJoined : MethodName := ⟨RX6, "areJoined", "(II)Z"⟩
abbrev cX6_islands : ByteArray := prog_8_method_3_code
def yX6_islands : MethodName := ⟨RX6, "islands", "()I"⟩
abbrev cX6_leastOf : ByteArray := prog_8_method_4_code
def yX6_leastOf : MethodName := ⟨RX6, "leastOf", "(I)I"⟩
abbrev cX6_length : ByteArray := prog_8_method_5_code
def yX6_length : MethodName := ⟨RX6, "length", "(II)I"⟩
abbrev cX6_meetingAt : ByteArray := prog_8_method_6_code
def yX6_meetingAt : MethodName := ⟨RX6, "meetingAt", "(II)I"⟩
abbrev cX6_bridgeBits : ByteArray := prog_8_method_7_code
def yX6_bridgeBits : MethodName := ⟨RX6, "bridgeBits", "()J"⟩
abbrev cX6_link : ByteArray := prog_8_method_8_code
def yX6_link : MethodName := ⟨RX6, "link", "(J)V"⟩
abbrev cX6_measure : ByteArray := prog_8_method_9_code
def yX6_measure : MethodName := ⟨RX6, "measure", "(I)V"⟩
abbrev cX6_leastMeasured : ByteArray := prog_8_method_10_code
def yX6_leastMeasured : MethodName := ⟨RX6, "leastMeasured", "()I"⟩
abbrev cX6_nearerThan : ByteArray := prog_8_method_11_code
def yX6_nearerThan : MethodName := ⟨RX6, "nearerThan", "(I)I"⟩
abbrev cX6_leastMeeting : ByteArray := prog_8_method_12_code
def yX6_leastMeeting : MethodName := ⟨RX6, "leastMeeting", "(II)I"⟩
def RX7 : String := "RopeRanks$Strengths"
def TX7 : u_T := fun k => match k with
  | 0 => ("RopeRanks$Strengths", "records", "LRopeRanks$Records;", true)
  | 1 => ("RopeRanks$Strengths", "low", "[I", true)
  | 2 => ("RopeRanks$Strengths", "high", "[I", true)
  | 3 => ("RopeRanks$Strengths", "most", "[I", true)
  | 4 => ("RopeRanks$Strengths", "via", "[I", true)
  | _ => ("RopeRanks$Strengths", "found", "J", false)
def tyX7 : Nat → FieldType := fun k => match k with
  | 0 => .object "RopeRanks$Records"
  | 1 => .array .int
  | 2 => .array .int
  | 3 => .array .int
  | 4 => .array .int
  | _ => .long
abbrev wsX70 : List Cond := u_ws RX7 TX7 6
theorem nmX7 : ∀ a, a < 6 → ∀ b, b < 6 → a ≠ b → (TX7 a).2.1 ≠ (TX7 b).2.1 := by decide +kernel
theorem tyX7_ok : ∀ k, k < 6 → parseFieldDescriptor (TX7 k).2.2.1 = some (tyX7 k) := by decide +kernel
abbrev cX7_init : ByteArray := prog_9_method_1_code
def yX7_init : MethodName := ⟨RX7, "<init>", "(LRopeRanks$Records;)V"⟩
abbrev cX7_agree : ByteArray := prog_9_method_2_code
def yX7_agree : MethodName := ⟨RX7, "agree", "()Z"⟩
abbrev cX7_greatest : ByteArray := prog_9_method_3_code
def yX7_greatest : MethodName := ⟨RX7, "greatest", "(II)I"⟩
abbrev cX7_leastLeftOut : ByteArray := prog_9_method_4_code
def yX7_leastLeftOut : MethodName := ⟨RX7, "leastLeftOut", "()J"⟩
abbrev cX7_readBounds : ByteArray := prog_9_method_5_code
def yX7_readBounds : MethodName := ⟨RX7, "readBounds", "()V"⟩
abbrev cX7_ringsApart : ByteArray := prog_9_method_6_code
def yX7_ringsApart : MethodName := ⟨RX7, "ringsApart", "(J)I"⟩
abbrev cX7_leaveOut : ByteArray := prog_9_method_7_code
def yX7_leaveOut : MethodName := ⟨RX7, "leaveOut", "(JJJI)V"⟩
abbrev cX7_ringOf : ByteArray := prog_9_method_8_code
def yX7_ringOf : MethodName := ⟨RX7, "ringOf", "(J)J"⟩
abbrev cX7_tighten : ByteArray := prog_9_method_9_code
def yX7_tighten : MethodName := ⟨RX7, "tighten", "(J)Z"⟩
abbrev cX7_lower : ByteArray := prog_9_method_10_code
def yX7_lower : MethodName := ⟨RX7, "lower", "(IIII)Z"⟩
abbrev cX7_ringOfVias : ByteArray := prog_9_method_11_code
def yX7_ringOfVias : MethodName := ⟨RX7, "ringOfVias", "()J"⟩
abbrev cX7_ringThrough : ByteArray := prog_9_method_12_code
def yX7_ringThrough : MethodName := ⟨RX7, "ringThrough", "(I)J"⟩
def RX8 : String := "RopeRanks$Wins"
def TX8 : u_T := fun k => match k with
  | 0 => ("RopeRanks$Wins", "most", "I", false)
  | 1 => ("RopeRanks$Wins", "bestWay", "[I", true)
  | 2 => ("RopeRanks$Wins", "records", "LRopeRanks$Records;", true)
  | 3 => ("RopeRanks$Wins", "beat", "[I", true)
  | 4 => ("RopeRanks$Wins", "way", "[I", true)
  | 5 => ("RopeRanks$Wins", "gain", "[I", true)
  | _ => ("RopeRanks$Wins", "rest", "[I", true)
def tyX8 : Nat → FieldType := fun k => match k with
  | 0 => .int
  | 1 => .array .int
  | 2 => .object "RopeRanks$Records"
  | 3 => .array .int
  | 4 => .array .int
  | 5 => .array .int
  | _ => .array .int
abbrev wsX80 : List Cond := u_ws RX8 TX8 7
theorem nmX8 : ∀ a, a < 7 → ∀ b, b < 7 → a ≠ b → (TX8 a).2.1 ≠ (TX8 b).2.1 := by decide +kernel
theorem tyX8_ok : ∀ k, k < 7 → parseFieldDescriptor (TX8 k).2.2.1 = some (tyX8 k) := by decide +kernel
abbrev cX8_init : ByteArray := prog_10_method_1_code
def yX8_init : MethodName := ⟨RX8, "<init>", "(LRopeRanks$Records;)V"⟩
abbrev cX8_rings : ByteArray := prog_10_method_2_code
def yX8_rings : MethodName := ⟨RX8, "rings", "()I"⟩
abbrev cX8_explain : ByteArray := prog_10_method_3_code
def yX8_explain : MethodName := ⟨RX8, "explain", "()V"⟩
abbrev cX8_ring : ByteArray := prog_10_method_4_code
def yX8_ring : MethodName := ⟨RX8, "ring", "(III)I"⟩
abbrev cX8_winsOf : ByteArray := prog_10_method_5_code
def yX8_winsOf : MethodName := ⟨RX8, "winsOf", "(II)I"⟩
abbrev cX8_readWins : ByteArray := prog_10_method_6_code
def yX8_readWins : MethodName := ⟨RX8, "readWins", "()V"⟩
abbrev cX8_readRest : ByteArray := prog_10_method_7_code
def yX8_readRest : MethodName := ⟨RX8, "readRest", "()V"⟩
abbrev cX8_giveWay : ByteArray := prog_10_method_8_code
def yX8_giveWay : MethodName := ⟨RX8, "giveWay", "(II)V"⟩
abbrev cX8_readGain : ByteArray := prog_10_method_9_code
def yX8_readGain : MethodName := ⟨RX8, "readGain", "(I)V"⟩
def RX9 : String := "RopeRanks"
def TX9 : u_T := fun k => match k with
  | 0 => ("RopeRanks", "now", "LRopeRanks$Records;", true)
  | 1 => ("RopeRanks", "images", "[LRopeRanks$Records;", true)
  | 2 => ("RopeRanks", "kept", "[I", true)
  | 3 => ("RopeRanks", "fraction", "LRopeRanks$Fraction;", true)
  | 4 => ("RopeRanks", "ladder", "LRopeRanks$Ladder;", true)
  | 5 => ("RopeRanks", "crown", "LRopeRanks$Crown;", true)
  | 6 => ("RopeRanks", "strengths", "LRopeRanks$Strengths;", true)
  | 7 => ("RopeRanks", "ropes", "LRopeRanks$Ropes;", true)
  | _ => ("RopeRanks", "wins", "LRopeRanks$Wins;", true)
def tyX9 : Nat → FieldType := fun k => match k with
  | 0 => .object "RopeRanks$Records"
  | 1 => .array (.object "RopeRanks$Records")
  | 2 => .array .int
  | 3 => .object "RopeRanks$Fraction"
  | 4 => .object "RopeRanks$Ladder"
  | 5 => .object "RopeRanks$Crown"
  | 6 => .object "RopeRanks$Strengths"
  | 7 => .object "RopeRanks$Ropes"
  | _ => .object "RopeRanks$Wins"
abbrev wsX90 : List Cond := u_ws RX9 TX9 9
theorem nmX9 : ∀ a, a < 9 → ∀ b, b < 9 → a ≠ b → (TX9 a).2.1 ≠ (TX9 b).2.1 := by decide +kernel
theorem tyX9_ok : ∀ k, k < 9 → parseFieldDescriptor (TX9 k).2.2.1 = some (tyX9 k) := by decide +kernel
abbrev cX9_init : ByteArray := prog_1_method_1_code
def yX9_init : MethodName := ⟨RX9, "<init>", "()V"⟩
abbrev cX9_player : ByteArray := prog_1_method_2_code
def yX9_player : MethodName := ⟨RX9, "player", "(I)I"⟩
abbrev cX9_meeting : ByteArray := prog_1_method_3_code
def yX9_meeting : MethodName := ⟨RX9, "meeting", "(IIIIZ)I"⟩
abbrev cX9_mark : ByteArray := prog_1_method_4_code
def yX9_mark : MethodName := ⟨RX9, "mark", "(IIZ)I"⟩
abbrev cX9_first : ByteArray := prog_1_method_5_code
def yX9_first : MethodName := ⟨RX9, "first", "(II)I"⟩
abbrev cX9_write : ByteArray := prog_1_method_6_code
def yX9_write : MethodName := ⟨RX9, "write", "(II)I"⟩
abbrev cX9_erase : ByteArray := prog_1_method_7_code
def yX9_erase : MethodName := ⟨RX9, "erase", "(I)I"⟩
abbrev cX9_fault : ByteArray := prog_1_method_8_code
def yX9_fault : MethodName := ⟨RX9, "fault", "(I)I"⟩
abbrev cX9_number : ByteArray := prog_1_method_9_code
def yX9_number : MethodName := ⟨RX9, "number", "(III)I"⟩
abbrev cX9_paid : ByteArray := prog_1_method_10_code
def yX9_paid : MethodName := ⟨RX9, "paid", "(II)I"⟩
abbrev cX9_creep : ByteArray := prog_1_method_11_code
def yX9_creep : MethodName := ⟨RX9, "creep", "(III)I"⟩
abbrev cX9_hiding : ByteArray := prog_1_method_12_code
def yX9_hiding : MethodName := ⟨RX9, "hiding", "(III)I"⟩
abbrev cX9_foretold : ByteArray := prog_1_method_13_code
def yX9_foretold : MethodName := ⟨RX9, "foretold", "(I)I"⟩
abbrev cX9_bestSystem : ByteArray := prog_1_method_14_code
def yX9_bestSystem : MethodName := ⟨RX9, "bestSystem", "()I"⟩
abbrev cX9_shape : ByteArray := prog_1_method_15_code
def yX9_shape : MethodName := ⟨RX9, "shape", "(II)I"⟩
abbrev cX9_wide : ByteArray := prog_1_method_16_code
def yX9_wide : MethodName := ⟨RX9, "wide", "(II)I"⟩
abbrev cX9_quarrel : ByteArray := prog_1_method_17_code
def yX9_quarrel : MethodName := ⟨RX9, "quarrel", "()I"⟩
abbrev cX9_span : ByteArray := prog_1_method_18_code
def yX9_span : MethodName := ⟨RX9, "span", "(III)I"⟩
abbrev cX9_fewest : ByteArray := prog_1_method_19_code
def yX9_fewest : MethodName := ⟨RX9, "fewest", "()J"⟩
abbrev cX9_island : ByteArray := prog_1_method_20_code
def yX9_island : MethodName := ⟨RX9, "island", "(I)I"⟩
abbrev cX9_rope : ByteArray := prog_1_method_21_code
def yX9_rope : MethodName := ⟨RX9, "rope", "(III)I"⟩
abbrev cX9_bridges : ByteArray := prog_1_method_22_code
def yX9_bridges : MethodName := ⟨RX9, "bridges", "()J"⟩
abbrev cX9_best : ByteArray := prog_1_method_23_code
def yX9_best : MethodName := ⟨RX9, "best", "(III)I"⟩
abbrev cX9_rounds : ByteArray := prog_1_method_24_code
def yX9_rounds : MethodName := ⟨RX9, "rounds", "()I"⟩
abbrev cX9_ways : ByteArray := prog_1_method_25_code
def yX9_ways : MethodName := ⟨RX9, "ways", "(I)I"⟩
abbrev cX9_even : ByteArray := prog_1_method_26_code
def yX9_even : MethodName := ⟨RX9, "even", "(IIII)I"⟩
abbrev cX9_looked : ByteArray := prog_1_method_27_code
def yX9_looked : MethodName := ⟨RX9, "looked", "()I"⟩
abbrev cX9_moves : ByteArray := prog_1_method_28_code
def yX9_moves : MethodName := ⟨RX9, "moves", "(IIII)I"⟩
abbrev cX9_weight : ByteArray := prog_1_method_29_code
def yX9_weight : MethodName := ⟨RX9, "weight", "(II)I"⟩
abbrev cX9_share : ByteArray := prog_1_method_30_code
def yX9_share : MethodName := ⟨RX9, "share", "(II)I"⟩
abbrev cX9_part : ByteArray := prog_1_method_31_code
def yX9_part : MethodName := ⟨RX9, "part", "(I)J"⟩
abbrev cX9_image : ByteArray := prog_1_method_32_code
def yX9_image : MethodName := ⟨RX9, "image", "(I)I"⟩
abbrev cX9_from : ByteArray := prog_1_method_33_code
def yX9_from : MethodName := ⟨RX9, "from", "(I)I"⟩
abbrev cX9_count : ByteArray := prog_1_method_34_code
def yX9_count : MethodName := ⟨RX9, "count", "(I)I"⟩
abbrev cX9_digest : ByteArray := prog_1_method_35_code
def yX9_digest : MethodName := ⟨RX9, "digest", "()J"⟩
abbrev cX9_within : ByteArray := prog_1_method_36_code
def yX9_within : MethodName := ⟨RX9, "within", "(III)Z"⟩
abbrev cX9_isYear : ByteArray := prog_1_method_37_code
def yX9_isYear : MethodName := ⟨RX9, "isYear", "(I)Z"⟩
abbrev cX9_isSystem : ByteArray := prog_1_method_38_code
def yX9_isSystem : MethodName := ⟨RX9, "isSystem", "(I)Z"⟩
abbrev cX9_isClass : ByteArray := prog_1_method_39_code
def yX9_isClass : MethodName := ⟨RX9, "isClass", "(I)Z"⟩
abbrev cX9_putRight : ByteArray := prog_1_method_40_code
def yX9_putRight : MethodName := ⟨RX9, "putRight", "(I)V"⟩
def RX10 : String := "RopeRanksModel"
def TX10 : u_T := fun k => match k with
  | 0 => ("RopeRanksModel", "now", "[I", true)
  | 1 => ("RopeRanksModel", "kept", "[I", true)
  | 2 => ("RopeRanksModel", "isKept", "[Z", true)
  | 3 => ("RopeRanksModel", "above", "J", false)
  | 4 => ("RopeRanksModel", "below", "J", false)
  | 5 => ("RopeRanksModel", "text", "I", false)
  | 6 => ("RopeRanksModel", "at", "I", false)
  | 7 => ("RopeRanksModel", "fault", "I", false)
  | 8 => ("RopeRanksModel", "values", "[J", true)
  | 9 => ("RopeRanksModel", "valueMany", "I", false)
  | 10 => ("RopeRanksModel", "signs", "[I", true)
  | 11 => ("RopeRanksModel", "signMany", "I", false)
  | 12 => ("RopeRanksModel", "names", "[J", true)
  | 13 => ("RopeRanksModel", "told", "J", false)
  | 14 => ("RopeRanksModel", "numbers", "[I", true)
  | 15 => ("RopeRanksModel", "had", "[I", true)
  | 16 => ("RopeRanksModel", "last", "[I", true)
  | 17 => ("RopeRanksModel", "changeA", "I", false)
  | 18 => ("RopeRanksModel", "changeB", "I", false)
  | 19 => ("RopeRanksModel", "were", "[I", true)
  | 20 => ("RopeRanksModel", "mays", "[I", true)
  | 21 => ("RopeRanksModel", "far", "[I", true)
  | 22 => ("RopeRanksModel", "yearEnds", "[I", true)
  | 23 => ("RopeRanksModel", "yearMany", "I", false)
  | 24 => ("RopeRanksModel", "bestRun", "I", false)
  | 25 => ("RopeRanksModel", "wins", "[I", true)
  | _ => ("RopeRanksModel", "way", "[I", true)
def tyX10 : Nat → FieldType := fun k => match k with
  | 0 => .array .int
  | 1 => .array .int
  | 2 => .array .boolean
  | 3 => .long
  | 4 => .long
  | 5 => .int
  | 6 => .int
  | 7 => .int
  | 8 => .array .long
  | 9 => .int
  | 10 => .array .int
  | 11 => .int
  | 12 => .array .long
  | 13 => .long
  | 14 => .array .int
  | 15 => .array .int
  | 16 => .array .int
  | 17 => .int
  | 18 => .int
  | 19 => .array .int
  | 20 => .array .int
  | 21 => .array .int
  | 22 => .array .int
  | 23 => .int
  | 24 => .int
  | 25 => .array .int
  | _ => .array .int
abbrev wsX100 : List Cond := u_ws RX10 TX10 27
theorem nmX10 : ∀ a, a < 27 → ∀ b, b < 27 → a ≠ b → (TX10 a).2.1 ≠ (TX10 b).2.1 := by decide +kernel
theorem tyX10_ok : ∀ k, k < 27 → parseFieldDescriptor (TX10 k).2.2.1 = some (tyX10 k) := by decide +kernel
abbrev cX10_init : ByteArray := prog_12_method_1_code
def yX10_init : MethodName := ⟨RX10, "<init>", "()V"⟩
abbrev cX10_in : ByteArray := prog_12_method_3_code
def yX10_in : MethodName := ⟨RX10, "in", "(JJJ)Z"⟩
abbrev cX10_players : ByteArray := prog_12_method_4_code
def yX10_players : MethodName := ⟨RX10, "players", "()I"⟩
abbrev cX10_meetings : ByteArray := prog_12_method_5_code
def yX10_meetings : MethodName := ⟨RX10, "meetings", "()I"⟩
abbrev cX10_isPlayer : ByteArray := prog_12_method_6_code
def yX10_isPlayer : MethodName := ⟨RX10, "isPlayer", "(I)Z"⟩
abbrev cX10_of : ByteArray := prog_12_method_7_code
def yX10_of : MethodName := ⟨RX10, "of", "(II)I"⟩
abbrev cX10_player : ByteArray := prog_12_method_8_code
def yX10_player : MethodName := ⟨RX10, "player", "(I)I"⟩
abbrev cX10_meeting : ByteArray := prog_12_method_9_code
def yX10_meeting : MethodName := ⟨RX10, "meeting", "(IIIIZ)I"⟩
abbrev cX10_mark : ByteArray := prog_12_method_10_code
def yX10_mark : MethodName := ⟨RX10, "mark", "(IIZ)I"⟩
abbrev cX10_isFour : ByteArray := prog_12_method_11_code
def yX10_isFour : MethodName := ⟨RX10, "isFour", "(I)Z"⟩
abbrev cX10_first : ByteArray := prog_12_method_12_code
def yX10_first : MethodName := ⟨RX10, "first", "(II)I"⟩
abbrev cX10_write : ByteArray := prog_12_method_13_code
def yX10_write : MethodName := ⟨RX10, "write", "(II)I"⟩
abbrev cX10_erase : ByteArray := prog_12_method_14_code
def yX10_erase : MethodName := ⟨RX10, "erase", "(I)I"⟩
abbrev cX10_textLong : ByteArray := prog_12_method_15_code
def yX10_textLong : MethodName := ⟨RX10, "textLong", "()I"⟩
abbrev cX10_charAt : ByteArray := prog_12_method_16_code
def yX10_charAt : MethodName := ⟨RX10, "charAt", "(I)I"⟩
abbrev cX10_ahead : ByteArray := prog_12_method_17_code
def yX10_ahead : MethodName := ⟨RX10, "ahead", "()I"⟩
abbrev cX10_rank : ByteArray := prog_12_method_18_code
def yX10_rank : MethodName := ⟨RX10, "rank", "(I)I"⟩
abbrev cX10_works : ByteArray := prog_12_method_19_code
def yX10_works : MethodName := ⟨RX10, "works", "()V"⟩
abbrev cX10_worksDown : ByteArray := prog_12_method_20_code
def yX10_worksDown : MethodName := ⟨RX10, "worksDown", "(I)V"⟩
abbrev cX10_stands : ByteArray := prog_12_method_21_code
def yX10_stands : MethodName := ⟨RX10, "stands", "(J)V"⟩
abbrev cX10_nameOf : ByteArray := prog_12_method_22_code
def yX10_nameOf : MethodName := ⟨RX10, "nameOf", "(I)I"⟩
abbrev cX10_digits : ByteArray := prog_12_method_23_code
def yX10_digits : MethodName := ⟨RX10, "digits", "()J"⟩
abbrev cX10_reads : ByteArray := prog_12_method_24_code
def yX10_reads : MethodName := ⟨RX10, "reads", "()Z"⟩
abbrev cX10_isSound : ByteArray := prog_12_method_25_code
def yX10_isSound : MethodName := ⟨RX10, "isSound", "(I)Z"⟩
abbrev cX10_fault : ByteArray := prog_12_method_26_code
def yX10_fault : MethodName := ⟨RX10, "fault", "(I)I"⟩
abbrev cX10_begins : ByteArray := prog_12_method_27_code
def yX10_begins : MethodName := ⟨RX10, "begins", "(I)V"⟩
abbrev cX10_changeOf : ByteArray := prog_12_method_28_code
def yX10_changeOf : MethodName := ⟨RX10, "changeOf", "(IIII)I"⟩
abbrev cX10_step : ByteArray := prog_12_method_29_code
def yX10_step : MethodName := ⟨RX10, "step", "(II)V"⟩
abbrev cX10_goTo : ByteArray := prog_12_method_30_code
def yX10_goTo : MethodName := ⟨RX10, "goTo", "(II)V"⟩
abbrev cX10_number : ByteArray := prog_12_method_31_code
def yX10_number : MethodName := ⟨RX10, "number", "(III)I"⟩
abbrev cX10_isYear : ByteArray := prog_12_method_32_code
def yX10_isYear : MethodName := ⟨RX10, "isYear", "(I)Z"⟩
abbrev cX10_paid : ByteArray := prog_12_method_33_code
def yX10_paid : MethodName := ⟨RX10, "paid", "(II)I"⟩
abbrev cX10_isIn : ByteArray := prog_12_method_34_code
def yX10_isIn : MethodName := ⟨RX10, "isIn", "(II)Z"⟩
abbrev cX10_hasMet : ByteArray := prog_12_method_35_code
def yX10_hasMet : MethodName := ⟨RX10, "hasMet", "(II)Z"⟩
abbrev cX10_tell : ByteArray := prog_12_method_36_code
def yX10_tell : MethodName := ⟨RX10, "tell", "(JJ)V"⟩
abbrev cX10_creep : ByteArray := prog_12_method_37_code
def yX10_creep : MethodName := ⟨RX10, "creep", "(III)I"⟩
abbrev cX10_hiding : ByteArray := prog_12_method_38_code
def yX10_hiding : MethodName := ⟨RX10, "hiding", "(III)I"⟩
abbrev cX10_foretells : ByteArray := prog_12_method_39_code
def yX10_foretells : MethodName := ⟨RX10, "foretells", "(I)I"⟩
abbrev cX10_foretold : ByteArray := prog_12_method_40_code
def yX10_foretold : MethodName := ⟨RX10, "foretold", "(I)I"⟩
abbrev cX10_bestSystem : ByteArray := prog_12_method_41_code
def yX10_bestSystem : MethodName := ⟨RX10, "bestSystem", "()I"⟩
abbrev cX10_shape : ByteArray := prog_12_method_42_code
def yX10_shape : MethodName := ⟨RX10, "shape", "(II)I"⟩
abbrev cX10_wide : ByteArray := prog_12_method_43_code
def yX10_wide : MethodName := ⟨RX10, "wide", "(II)I"⟩
abbrev cX10_doesSay : ByteArray := prog_12_method_44_code
def yX10_doesSay : MethodName := ⟨RX10, "doesSay", "(I)Z"⟩
abbrev cX10_shapeOf : ByteArray := prog_12_method_45_code
def yX10_shapeOf : MethodName := ⟨RX10, "shapeOf", "(II)I"⟩
abbrev cX10_bound : ByteArray := prog_12_method_46_code
def yX10_bound : MethodName := ⟨RX10, "bound", "(III)V"⟩
abbrev cX10_agree : ByteArray := prog_12_method_47_code
def yX10_agree : MethodName := ⟨RX10, "agree", "(III)Z"⟩
abbrev cX10_quarrel : ByteArray := prog_12_method_48_code
def yX10_quarrel : MethodName := ⟨RX10, "quarrel", "()I"⟩
abbrev cX10_span : ByteArray := prog_12_method_49_code
def yX10_span : MethodName := ⟨RX10, "span", "(III)I"⟩
abbrev cX10_fewest : ByteArray := prog_12_method_50_code
def yX10_fewest : MethodName := ⟨RX10, "fewest", "()J"⟩
abbrev cX10_goFrom : ByteArray := prog_12_method_51_code
def yX10_goFrom : MethodName := ⟨RX10, "goFrom", "(II)V"⟩
abbrev cX10_leastOf : ByteArray := prog_12_method_52_code
def yX10_leastOf : MethodName := ⟨RX10, "leastOf", "(I)I"⟩
abbrev cX10_island : ByteArray := prog_12_method_53_code
def yX10_island : MethodName := ⟨RX10, "island", "(I)I"⟩
abbrev cX10_rope : ByteArray := prog_12_method_54_code
def yX10_rope : MethodName := ⟨RX10, "rope", "(III)I"⟩
abbrev cX10_bridges : ByteArray := prog_12_method_55_code
def yX10_bridges : MethodName := ⟨RX10, "bridges", "()J"⟩
abbrev cX10_findEnds : ByteArray := prog_12_method_56_code
def yX10_findEnds : MethodName := ⟨RX10, "findEnds", "(II)V"⟩
abbrev cX10_findRun : ByteArray := prog_12_method_57_code
def yX10_findRun : MethodName := ⟨RX10, "findRun", "(III)Z"⟩
abbrev cX10_bestAbove : ByteArray := prog_12_method_58_code
def yX10_bestAbove : MethodName := ⟨RX10, "bestAbove", "(I)I"⟩
abbrev cX10_best : ByteArray := prog_12_method_59_code
def yX10_best : MethodName := ⟨RX10, "best", "(III)I"⟩
abbrev cX10_hasBeaten : ByteArray := prog_12_method_60_code
def yX10_hasBeaten : MethodName := ⟨RX10, "hasBeaten", "(II)Z"⟩
abbrev cX10_rounds : ByteArray := prog_12_method_61_code
def yX10_rounds : MethodName := ⟨RX10, "rounds", "()I"⟩
abbrev cX10_ways : ByteArray := prog_12_method_62_code
def yX10_ways : MethodName := ⟨RX10, "ways", "(I)I"⟩
abbrev cX10_metOf : ByteArray := prog_12_method_63_code
def yX10_metOf : MethodName := ⟨RX10, "metOf", "(IIZ)I"⟩
abbrev cX10_power : ByteArray := prog_12_method_64_code
def yX10_power : MethodName := ⟨RX10, "power", "(JI)J"⟩
abbrev cX10_even : ByteArray := prog_12_method_65_code
def yX10_even : MethodName := ⟨RX10, "even", "(IIII)I"⟩
abbrev cX10_looked : ByteArray := prog_12_method_66_code
def yX10_looked : MethodName := ⟨RX10, "looked", "()I"⟩
abbrev cX10_moves : ByteArray := prog_12_method_67_code
def yX10_moves : MethodName := ⟨RX10, "moves", "(IIII)I"⟩
abbrev cX10_weight : ByteArray := prog_12_method_68_code
def yX10_weight : MethodName := ⟨RX10, "weight", "(II)I"⟩
abbrev cX10_share : ByteArray := prog_12_method_69_code
def yX10_share : MethodName := ⟨RX10, "share", "(II)I"⟩
abbrev cX10_part : ByteArray := prog_12_method_70_code
def yX10_part : MethodName := ⟨RX10, "part", "(I)J"⟩
abbrev cX10_image : ByteArray := prog_12_method_71_code
def yX10_image : MethodName := ⟨RX10, "image", "(I)I"⟩
abbrev cX10_from : ByteArray := prog_12_method_72_code
def yX10_from : MethodName := ⟨RX10, "from", "(I)I"⟩
abbrev cX10_count : ByteArray := prog_12_method_73_code
def yX10_count : MethodName := ⟨RX10, "count", "(I)I"⟩
abbrev cX10_sums : ByteArray := prog_12_method_74_code
def yX10_sums : MethodName := ⟨RX10, "sums", "(JII)J"⟩
abbrev cX10_digest : ByteArray := prog_12_method_75_code
def yX10_digest : MethodName := ⟨RX10, "digest", "()J"⟩
def RJ6 : String := "java/lang/Integer"
def TJ6 : u_T := fun k => match k with
  | _ => ("", "", "", false)
def tyJ6 : Nat → FieldType := fun k => match k with
  | _ => .int
abbrev wsJ60 : List Cond := u_ws RJ6 TJ6 0
theorem nmJ6 : ∀ a, a < 0 → ∀ b, b < 0 → a ≠ b → (TJ6 a).2.1 ≠ (TJ6 b).2.1 := by decide +kernel
theorem tyJ6_ok : ∀ k, k < 0 → parseFieldDescriptor (TJ6 k).2.2.1 = some (tyJ6 k) := by decide +kernel
abbrev cJ6_bitCount_0f7a4 : ByteArray := prog_13_method_49_code
def yJ6_bitCount_0f7a4 : MethodName := ⟨RJ6, "bitCount", "(I)I"⟩
def RJ13 : String := "java/lang/Long"
def TJ13 : u_T := fun k => match k with
  | _ => ("", "", "", false)
def tyJ13 : Nat → FieldType := fun k => match k with
  | _ => .int
abbrev wsJ130 : List Cond := u_ws RJ13 TJ13 0
theorem nmJ13 : ∀ a, a < 0 → ∀ b, b < 0 → a ≠ b → (TJ13 a).2.1 ≠ (TJ13 b).2.1 := by decide +kernel
theorem tyJ13_ok : ∀ k, k < 0 → parseFieldDescriptor (TJ13 k).2.2.1 = some (tyJ13 k) := by decide +kernel
abbrev cJ13_bitCount_95d88 : ByteArray := prog_14_method_50_code
def yJ13_bitCount_95d88 : MethodName := ⟨RJ13, "bitCount", "(J)I"⟩
def RJ9 : String := "java/lang/Math"
def TJ9 : u_T := fun k => match k with
  | _ => ("", "", "", false)
def tyJ9 : Nat → FieldType := fun k => match k with
  | _ => .int
abbrev wsJ90 : List Cond := u_ws RJ9 TJ9 0
theorem nmJ9 : ∀ a, a < 0 → ∀ b, b < 0 → a ≠ b → (TJ9 a).2.1 ≠ (TJ9 b).2.1 := by decide +kernel
theorem tyJ9_ok : ∀ k, k < 0 → parseFieldDescriptor (TJ9 k).2.2.1 = some (tyJ9 k) := by decide +kernel
abbrev cJ9_abs_0f7a4 : ByteArray := prog_15_method_59_code
def yJ9_abs_0f7a4 : MethodName := ⟨RJ9, "abs", "(I)I"⟩
abbrev cJ9_abs_067f4 : ByteArray := prog_15_method_61_code
def yJ9_abs_067f4 : MethodName := ⟨RJ9, "abs", "(J)J"⟩
abbrev cJ9_max_7cf53 : ByteArray := prog_15_method_65_code
def yJ9_max_7cf53 : MethodName := ⟨RJ9, "max", "(II)I"⟩
abbrev cJ9_max_f86c9 : ByteArray := prog_15_method_66_code
def yJ9_max_f86c9 : MethodName := ⟨RJ9, "max", "(JJ)J"⟩
abbrev cJ9_min_7cf53 : ByteArray := prog_15_method_69_code
def yJ9_min_7cf53 : MethodName := ⟨RJ9, "min", "(II)I"⟩
abbrev cJ9_min_f86c9 : ByteArray := prog_15_method_70_code
def yJ9_min_f86c9 : MethodName := ⟨RJ9, "min", "(JJ)J"⟩
def RJ10 : String := "java/lang/System"
def TJ10 : u_T := fun k => match k with
  | _ => ("", "", "", false)
def tyJ10 : Nat → FieldType := fun k => match k with
  | _ => .int
abbrev wsJ100 : List Cond := u_ws RJ10 TJ10 0
theorem nmJ10 : ∀ a, a < 0 → ∀ b, b < 0 → a ≠ b → (TJ10 a).2.1 ≠ (TJ10 b).2.1 := by decide +kernel
theorem tyJ10_ok : ∀ k, k < 0 → parseFieldDescriptor (TJ10 k).2.2.1 = some (tyJ10 k) := by decide +kernel
def RJ7 : String := "java/util/Arrays"
def TJ7 : u_T := fun k => match k with
  | _ => ("", "", "", false)
def tyJ7 : Nat → FieldType := fun k => match k with
  | _ => .int
abbrev wsJ70 : List Cond := u_ws RJ7 TJ7 0
theorem nmJ7 : ∀ a, a < 0 → ∀ b, b < 0 → a ≠ b → (TJ7 a).2.1 ≠ (TJ7 b).2.1 := by decide +kernel
theorem tyJ7_ok : ∀ k, k < 0 → parseFieldDescriptor (TJ7 k).2.2.1 = some (tyJ7 k) := by decide +kernel
abbrev cJ7_fill_53178 : ByteArray := prog_17_method_103_code
def yJ7_fill_53178 : MethodName := ⟨RJ7, "fill", "([II)V"⟩
def RL : String := "RopeRanksLaw"
abbrev cL_law : ByteArray := code
def yL_law : MethodName := ⟨RL, "law", "([I)Z"⟩
abbrev vwCl : List vw_C := [(RX1, TX1, 7), (RX2, TX2, 10), (RX3, TX3, 2), (RX4, TX4, 6), (RX5, TX5, 18), (RX6, TX6, 3), (RX7, TX7, 6), (RX8, TX8, 7), (RX9, TX9, 9), (RX10, TX10, 27)]
end
section
/-! THE EXECUTOR: a run of the machine over numbers, made to be worked out by the kernel; its soundness stands in the next parts.
A value is a number: c % 8 its tag, c / 8 its load. 0 int, 1 long, 2 the cell at a place of the world, 3 null (11: a local that holds nothing known), 4 an int of the script (by its place), 5 the same as long, 6 the script itself, 7 an int of the script as long and one more.
A cell is a number: its last 64 bits say what it is (8 ci + 2: an object of class ci; 1 + 2 ty + 8 len: an array), then digits of 72 bits. -/
noncomputable def xF {α : Type} (n : Nat) (k : Nat → α) : α := Nat.rec (motive := fun _ => α) (k 0) (fun m _ => k (Nat.succ m)) n
noncomputable def xGet (l : List Nat) : Nat → Nat := List.rec (motive := fun _ => Nat → Nat) (fun _ => 0) (fun a _ ih i => Nat.rec (motive := fun _ => Nat) a (fun j _ => ih j) i) l
noncomputable def xSet {α : Type} (l : List Nat) : Nat → Nat → (List Nat → α) → α := List.rec (motive := fun _ => Nat → Nat → (List Nat → α) → α) (fun _ _ k => k []) (fun a t ih i v k => Nat.rec (motive := fun _ => α) (k (v :: t)) (fun j _ => ih j v (fun t' => k (a :: t'))) i) l
noncomputable def xSnoc {α : Type} (l : List Nat) (c : Nat) : (List Nat → α) → α := List.rec (motive := fun _ => (List Nat → α) → α) (fun k => k [c]) (fun a _ ih k => ih (fun t' => k (a :: t'))) l
noncomputable def xLen (l : List Nat) : Nat := List.rec (motive := fun _ => Nat) 0 (fun _ _ ih => Nat.succ ih) l
/-- n digits from the i-th on; and others in their place -/
def xDn (c i n : Nat) : Nat := c / 2 ^ (64 + 72 * i) % 2 ^ (72 * n)
def xPn (c i n v : Nat) : Nat := c + v * 2 ^ (64 + 72 * i) - xDn c i n * 2 ^ (64 + 72 * i)
abbrev xEv : Type := List (Int × Int)
abbrev xRow : Type := Nat × Instr × Nat × Nat × Nat × Nat
abbrev xOut : Type := Nat × Nat × List Nat × xEv × Nat × Nat
abbrev xRes : Type := Option (List xOut)
abbrev xKt : Type := Nat → List Nat → List Nat → List Nat → Nat → Nat → xEv → xRes
/-- a method: its class, its name, its bytes, its locals, what it returns, its parameters (the object too), its cells and slots, its code -/
abbrev xMt : Type := String × MethodName × ByteArray × Nat × Option FieldType × Nat × Nat × Nat × (Nat → Option xRow)
def xApp (a b : xRes) : xRes := match a with
  | none => none
  | some x => match b with
    | none => none
    | some y => some (x ++ y)
def xTri0 (env : xEv) (s : Nat) (c : Int) (f : Int → xEv → xRes) : xRes := match env[s]? with
  | none => none
  | some (lo, hi) => xApp (if lo < c then f (-1) (env.set s (lo, min hi (c - 1))) else some []) (xApp (if lo ≤ c ∧ c ≤ hi then f 0 (env.set s (c, c)) else some []) (if c < hi then f 1 (env.set s (max lo (c + 1), hi)) else some []))
/-- unknown 7 is unknown 3 less unknown 2 -/
def xTight (s : Nat) (env : xEv) : xEv := bif Nat.beq s 7 then (match env[2]? with
  | none => env
  | some (l2, h2) => match env[3]? with
    | none => env
    | some (l3, h3) => match env[7]? with
      | none => env
      | some (l7, h7) => env.set 7 (max l7 (l3 - h2), min h7 (h3 - l2))) else env
def xTri (env : xEv) (s : Nat) (c : Int) (f : Int → xEv → xRes) : xRes := xTri0 (xTight s env) s c f
noncomputable def xForkN (f : Int → xRes) (n : Nat) : Int → xRes := Nat.rec (motive := fun _ => Int → xRes) (fun _ => some []) (fun _ ih lo => xApp (f lo) (ih (lo + 1))) n
noncomputable def xConc (env : xEv) (s : Nat) (f : Int → xEv → xRes) : xRes := match env[s]? with
  | none => none
  | some (lo, hi) => if hi - lo ≤ 200 then xForkN (fun v => f v (env.set s (v, v))) (hi - lo + 1).toNat lo else none
def xCI (v : Int) : Nat := (v % 4294967296).toNat * 8
noncomputable def xC0 (env : xEv) (y : Nat) (k : Nat → xEv → xRes) : xRes := bif Nat.beq (y / 8) 7 then none else xConc env (y / 8) (fun v e' => xF (xCI v) (fun y' => k y' e'))
def xIsI (v : Nat) : Bool := Nat.beq (v % 8) 0 || Nat.beq (v % 8) 4
def xIsL (v : Nat) : Bool := Nat.beq (v % 8) 1 || Nat.beq (v % 8) 5 || Nat.beq (v % 8) 7
def xIsR (v : Nat) : Bool := Nat.beq (v % 8) 2 || Nat.beq (v % 8) 6
def xCat (v : Nat) : Nat := bif xIsL v then 2 else 1
/-- signed, set up by half the range -/
def xb32 (u : Nat) : Nat := (u + 2147483648) % 4294967296
def xb64 (u : Nat) : Nat := (u + 9223372036854775808) % 18446744073709551616
/-- the sign of a less b: 0 less, 1 alike, 2 more -/
def xSg (a b : Nat) : Nat := bif Nat.blt a b then 0 else bif Nat.blt b a then 2 else 1
def xSgI (sg : Int) : Nat := if sg < 0 then 0 else if sg = 0 then 1 else 2
/-- conditions: 0 lt, 1 eq, 2 gt, 3 ge, 4 ne, 5 le -/
def xHo (op sg : Nat) : Bool := bif Nat.blt op 3 then Nat.beq op sg else !(Nat.beq (op - 3) sg)
def xs32 (u : Nat) : Int := (xb32 u : Int) - 2147483648
def xs64 (u : Nat) : Int := (xb64 u : Int) - 9223372036854775808
/-- left a, right b: which unknown against which number -/
def xRelI (a b : Nat) : Option (Nat × Int) := bif Nat.beq (a / 8) 7 then none else bif Nat.beq (a % 8) 4 && Nat.beq (b % 8) 0 then some (a / 8, xs32 (b / 8)) else bif Nat.beq a 28 && Nat.beq b 20 then some (7, 0) else none
def xRelL (a b : Nat) : Option (Nat × Int) := bif Nat.beq (a / 8) 7 then none else bif Nat.beq (a % 8) 5 && Nat.beq (b % 8) 1 then some (a / 8, xs64 (b / 8)) else bif Nat.beq a 29 && Nat.beq b 23 then some (7, 1) else none
noncomputable def xI2 (S : List Nat) (env : xEv) (f : Nat → Nat → Nat) (k : List Nat → xRes) (re : List Nat → xEv → xRes) : xRes := match S with
  | y :: x :: r => bif Nat.beq (x % 8) 0 && Nat.beq (y % 8) 0 then xF (f (x / 8) (y / 8) * 8) (fun z => k (z :: r)) else bif Nat.beq (y % 8) 4 then xC0 env y (fun y' e' => re (y' :: x :: r) e') else bif Nat.beq (x % 8) 4 then xC0 env x (fun x' e' => re (y :: x' :: r) e') else none
  | _ => none
noncomputable def xL2 (S : List Nat) (f : Nat → Nat → Nat) (k : List Nat → xRes) : xRes := match S with
  | y :: x :: r => bif Nat.beq (x % 8) 1 && Nat.beq (y % 8) 1 then xF (f (x / 8) (y / 8) * 8 + 1) (fun z => k (z :: r)) else none
  | _ => none
/-- a long and an int above it: shifts -/
noncomputable def xLI (S : List Nat) (f : Nat → Nat → Nat) (k : List Nat → xRes) : xRes := match S with
  | y :: x :: r => bif Nat.beq (x % 8) 1 && Nat.beq (y % 8) 0 then xF (f (x / 8) (y / 8) * 8 + 1) (fun z => k (z :: r)) else none
  | _ => none
def xN32 (x : Int32) : Nat := x.toBitVec.toNat
def xN64 (x : Int64) : Nat := x.toBitVec.toNat
/-- a store into a local: what stood ahead of it as a long is gone -/
noncomputable def xStL (L : List Nat) (i v : Nat) (k : List Nat → xRes) : xRes := match i with
  | 0 => xSet L 0 v k
  | j + 1 => bif xIsL (xGet L j) then xSet L j 11 (fun L1 => xSet L1 (j + 1) v k) else xSet L (j + 1) v k
/-- all refs of the list stand below n -/
noncomputable def xWfL (n : Nat) (l : List Nat) : Bool := List.rec (motive := fun _ => Bool) true (fun a _ ih => (bif Nat.beq (a % 8) 2 then Nat.blt (a / 8) n else true) && ih) l
noncomputable def xWfD (n c : Nat) (m : Nat) : Bool := Nat.rec (motive := fun _ => Bool) true (fun j ih => (bif Nat.beq (xDn c j 1 % 8) 2 then Nat.blt (xDn c j 1 / 8) n else true) && ih) m
noncomputable def xWfQ (n c : Nat) (m : Nat) : Bool := Nat.rec (motive := fun _ => Bool) true (fun j ih => Nat.ble (xDn c j 1) n && ih) m
/-- how many fields an object of class ci has -/
def xNf (ci : Nat) : Nat := match vwCl[ci]? with
  | some q => q.2.2
  | none => 0
/-- a cell's refs stand below n -/
noncomputable def xWfC (n c : Nat) : Bool := bif Nat.beq (c % 2) 0 then xWfD n c (xNf (c % 18446744073709551616 / 8)) else bif Nat.beq (c % 8) 7 then xWfQ n c (c % 18446744073709551616 / 8) else true
noncomputable def xWfW (n : Nat) (l : List Nat) : Bool := List.rec (motive := fun _ => Bool) true (fun a _ ih => xWfC n a && ih) l
/-- the first n of a stack, turned round, and the rest -/
noncomputable def xTk {α : Type} (n : Nat) : List Nat → List Nat → (List Nat → List Nat → α) → α → α := Nat.rec (motive := fun _ => List Nat → List Nat → (List Nat → List Nat → α) → α → α) (fun S acc k _ => k acc S) (fun _ ih S acc k z => List.rec (motive := fun _ => α) z (fun a t _ => ih t (a :: acc) k z) S) n
noncomputable def xPad {α : Type} (n : Nat) : (List Nat → α) → α := Nat.rec (motive := fun _ => (List Nat → α) → α) (fun k => k []) (fun _ ih k => ih (fun t => k (11 :: t))) n
/-- a method's locals at its start: n in all -/
noncomputable def xEnt {α : Type} (as : List Nat) : Nat → (List Nat → α) → α := List.rec (motive := fun _ => Nat → (List Nat → α) → α) (fun n k => xPad n k) (fun a _ ih n k => bif xIsL a then ih (n - 2) (fun t => k (a :: 11 :: t)) else ih (n - 1) (fun t => k (a :: t))) as
noncomputable def xCats (l : List Nat) : Nat := List.rec (motive := fun _ => Nat) 0 (fun a _ ih => Nat.add (xCat a) ih) l
noncomputable def xOuts (l : List xOut) (f : xOut → xRes) : xRes := match l with
  | [] => some []
  | o :: t => match t with
    | [] => f o
    | _ => List.rec (motive := fun _ => xRes) (some []) (fun a _ ih => xApp (f a) ih) l
def xTyOf (ci : Nat) : Nat → FieldType := match ci with
  | 0 => tyX1
  | 1 => tyX2
  | 2 => tyX3
  | 3 => tyX4
  | 4 => tyX5
  | 5 => tyX6
  | 6 => tyX7
  | 7 => tyX8
  | 8 => tyX9
  | _ => tyX10
def xFit (ty : FieldType) (v : Nat) : Bool := match ty with
  | .int => xIsI v
  | .long => xIsL v
  | .object _ => xIsR v || Nat.beq v 3
  | .array _ => xIsR v || Nat.beq v 3
  | _ => false
def xDefT (ty : FieldType) : Nat := match ty with
  | .int => 0
  | .long => 1
  | _ => 3
noncomputable def xDefO (ci : Nat) (n : Nat) : Nat := Nat.rec (motive := fun _ => Nat) (8 * ci + 2) (fun j ih => ih + xDefT (xTyOf ci j) * 2 ^ (64 + 72 * j)) n
def xAty (t : ArrayType) : Nat := match t with
  | .int => 0
  | .long => 1
  | .boolean => 2
  | _ => 9
noncomputable def xCall (M : Nat → Option xMt) (ih : Nat → (Nat → Option xRow) → Nat → Nat → Option FieldType → Nat → xKt) (mc ms d : Nat) (K : xKt) (k' : Nat) (rc : Nat → Bool) (pc : Nat) (L S Wd : List Nat) (cc cs : Nat) (env : xEv) : xRes := match M k' with
  | none => none
  | some (_, _, _, maxL, rt, na, mc', ms', code) => xTk na S [] (fun as r =>
      bif Nat.ble (xCats r) 8 && Nat.ble (cc + mc') mc && Nat.ble (cs + ms') ms && Nat.blt 0 d && Nat.ble (xCats as) maxL && rc (xGet as 0) then
        xEnt as maxL (fun L0 => match ih k' code mc' ms' rt (d - 1) 0 L0 [] Wd 0 0 env with
          | none => none
          | some outs => xOuts outs (fun o => match o with
            | (_, v, W', e', _, _) => bif Nat.beq (xLen W') (xLen Wd) || (xWfL (xLen Wd) L && xWfL (xLen Wd) r) then
                xF (pc + 3) (fun q => xF (cc + mc') (fun cc' => xF (cs + ms') (fun cs' => K q L (bif Nat.beq v 11 then r else v :: r) W' cc' cs' e'))) else none))
      else none) none
noncomputable def xo_push1 (K : xKt) (a1 a2 pc : Nat) (L S Wd : List Nat) (cc cs : Nat) (env : xEv) : xRes := xF (pc + 1) (fun q => K q L (a1 :: S) Wd cc cs env)
noncomputable def xo_push2 (K : xKt) (a1 a2 pc : Nat) (L S Wd : List Nat) (cc cs : Nat) (env : xEv) : xRes := xF (pc + 2) (fun q => K q L (a1 :: S) Wd cc cs env)
noncomputable def xo_push3 (K : xKt) (a1 a2 pc : Nat) (L S Wd : List Nat) (cc cs : Nat) (env : xEv) : xRes := xF (pc + 3) (fun q => K q L (a1 :: S) Wd cc cs env)
noncomputable def xo_iload1 (K : xKt) (a1 a2 pc : Nat) (L S Wd : List Nat) (cc cs : Nat) (env : xEv) : xRes := xF (xGet L a1) (fun v => bif xIsI v && Nat.blt a1 (xLen L) then xF (pc + 1) (fun q => K q L (v :: S) Wd cc cs env) else none)
noncomputable def xo_iload2 (K : xKt) (a1 a2 pc : Nat) (L S Wd : List Nat) (cc cs : Nat) (env : xEv) : xRes := xF (xGet L a1) (fun v => bif xIsI v && Nat.blt a1 (xLen L) then xF (pc + 2) (fun q => K q L (v :: S) Wd cc cs env) else none)
noncomputable def xo_lload1 (K : xKt) (a1 a2 pc : Nat) (L S Wd : List Nat) (cc cs : Nat) (env : xEv) : xRes := xF (xGet L a1) (fun v => bif xIsL v then xF (pc + 1) (fun q => K q L (v :: S) Wd cc cs env) else none)
noncomputable def xo_lload2 (K : xKt) (a1 a2 pc : Nat) (L S Wd : List Nat) (cc cs : Nat) (env : xEv) : xRes := xF (xGet L a1) (fun v => bif xIsL v then xF (pc + 2) (fun q => K q L (v :: S) Wd cc cs env) else none)
noncomputable def xo_aload1 (K : xKt) (a1 a2 pc : Nat) (L S Wd : List Nat) (cc cs : Nat) (env : xEv) : xRes := xF (xGet L a1) (fun v => bif xIsR v then xF (pc + 1) (fun q => K q L (v :: S) Wd cc cs env) else none)
noncomputable def xo_aload2 (K : xKt) (a1 a2 pc : Nat) (L S Wd : List Nat) (cc cs : Nat) (env : xEv) : xRes := xF (xGet L a1) (fun v => bif xIsR v then xF (pc + 2) (fun q => K q L (v :: S) Wd cc cs env) else none)
noncomputable def xo_istore1 (K : xKt) (a1 a2 pc : Nat) (L S Wd : List Nat) (cc cs : Nat) (env : xEv) : xRes := match S with
    | v :: r => bif xIsI v && Nat.blt a1 (xLen L) then xStL L a1 v (fun L1 => xF (pc + 1) (fun q => K q L1 r Wd cc cs env)) else none
    | [] => none
noncomputable def xo_istore2 (K : xKt) (a1 a2 pc : Nat) (L S Wd : List Nat) (cc cs : Nat) (env : xEv) : xRes := match S with
    | v :: r => bif xIsI v && Nat.blt a1 (xLen L) then xStL L a1 v (fun L1 => xF (pc + 2) (fun q => K q L1 r Wd cc cs env)) else none
    | [] => none
noncomputable def xo_astore1 (K : xKt) (a1 a2 pc : Nat) (L S Wd : List Nat) (cc cs : Nat) (env : xEv) : xRes := match S with
    | v :: r => bif xIsR v && Nat.blt a1 (xLen L) then xStL L a1 v (fun L1 => xF (pc + 1) (fun q => K q L1 r Wd cc cs env)) else none
    | [] => none
noncomputable def xo_astore2 (K : xKt) (a1 a2 pc : Nat) (L S Wd : List Nat) (cc cs : Nat) (env : xEv) : xRes := match S with
    | v :: r => bif xIsR v && Nat.blt a1 (xLen L) then xStL L a1 v (fun L1 => xF (pc + 2) (fun q => K q L1 r Wd cc cs env)) else none
    | [] => none
noncomputable def xo_lstore1 (K : xKt) (a1 a2 pc : Nat) (L S Wd : List Nat) (cc cs : Nat) (env : xEv) : xRes := match S with
    | v :: r => bif xIsL v && Nat.blt (a1 + 1) (xLen L) then xStL L a1 v (fun L1 => xSet L1 (a1 + 1) 11 (fun L2 => xF (pc + 1) (fun q => K q L2 r Wd cc cs env))) else none
    | [] => none
noncomputable def xo_lstore2 (K : xKt) (a1 a2 pc : Nat) (L S Wd : List Nat) (cc cs : Nat) (env : xEv) : xRes := match S with
    | v :: r => bif xIsL v && Nat.blt (a1 + 1) (xLen L) then xStL L a1 v (fun L1 => xSet L1 (a1 + 1) 11 (fun L2 => xF (pc + 2) (fun q => K q L2 r Wd cc cs env))) else none
    | [] => none
noncomputable def xo_iinc (K : xKt) (a1 a2 pc : Nat) (L S Wd : List Nat) (cc cs : Nat) (env : xEv) : xRes := xF (xGet L a1) (fun v => bif Nat.beq (v % 8) 0 && Nat.blt a1 (xLen L) then xF ((v / 8 + a2) % 4294967296 * 8) (fun v' => xStL L a1 v' (fun L1 => xF (pc + 3) (fun q => K q L1 S Wd cc cs env))) else none)
noncomputable def xo_iadd (K : xKt) (a1 a2 pc : Nat) (L S Wd : List Nat) (cc cs : Nat) (env : xEv) : xRes := xI2 S env (fun x y => (x + y) % 4294967296) (fun S' => xF (pc + 1) (fun q => K q L S' Wd cc cs env)) (fun S' e' => K pc L S' Wd cc cs e')
noncomputable def xo_isub (K : xKt) (a1 a2 pc : Nat) (L S Wd : List Nat) (cc cs : Nat) (env : xEv) : xRes := xI2 S env (fun x y => (x + 4294967296 - y % 4294967296) % 4294967296) (fun S' => xF (pc + 1) (fun q => K q L S' Wd cc cs env)) (fun S' e' => K pc L S' Wd cc cs e')
noncomputable def xo_imul (K : xKt) (a1 a2 pc : Nat) (L S Wd : List Nat) (cc cs : Nat) (env : xEv) : xRes := xI2 S env (fun x y => (x * y) % 4294967296) (fun S' => xF (pc + 1) (fun q => K q L S' Wd cc cs env)) (fun S' e' => K pc L S' Wd cc cs e')
noncomputable def xo_idiv (K : xKt) (a1 a2 pc : Nat) (L S Wd : List Nat) (cc cs : Nat) (env : xEv) : xRes := xI2 S env (fun x y => xN32 (nI x / nI y)) (fun S' => bif Nat.beq (xGet S 0 / 8 % 4294967296) 0 then none else xF (pc + 1) (fun q => K q L S' Wd cc cs env)) (fun S' e' => K pc L S' Wd cc cs e')
noncomputable def xo_irem (K : xKt) (a1 a2 pc : Nat) (L S Wd : List Nat) (cc cs : Nat) (env : xEv) : xRes := xI2 S env (fun x y => xN32 (nI x - nI x / nI y * nI y)) (fun S' => bif Nat.beq (xGet S 0 / 8 % 4294967296) 0 then none else xF (pc + 1) (fun q => K q L S' Wd cc cs env)) (fun S' e' => K pc L S' Wd cc cs e')
noncomputable def xo_iand (K : xKt) (a1 a2 pc : Nat) (L S Wd : List Nat) (cc cs : Nat) (env : xEv) : xRes := match S with
    | y :: x :: r => bif Nat.beq y 504 && Nat.beq x 4 then xF (pc + 1) (fun q => K q L (52 :: r) Wd cc cs env) else xI2 S env (fun x y => xN32 (nI x &&& nI y)) (fun S' => xF (pc + 1) (fun q => K q L S' Wd cc cs env)) (fun S' e' => K pc L S' Wd cc cs e')
    | _ => none
noncomputable def xo_ior (K : xKt) (a1 a2 pc : Nat) (L S Wd : List Nat) (cc cs : Nat) (env : xEv) : xRes := xI2 S env (fun x y => xN32 (nI x ||| nI y)) (fun S' => xF (pc + 1) (fun q => K q L S' Wd cc cs env)) (fun S' e' => K pc L S' Wd cc cs e')
noncomputable def xo_ixor (K : xKt) (a1 a2 pc : Nat) (L S Wd : List Nat) (cc cs : Nat) (env : xEv) : xRes := xI2 S env (fun x y => xN32 (nI x ^^^ nI y)) (fun S' => xF (pc + 1) (fun q => K q L S' Wd cc cs env)) (fun S' e' => K pc L S' Wd cc cs e')
noncomputable def xo_ishl (K : xKt) (a1 a2 pc : Nat) (L S Wd : List Nat) (cc cs : Nat) (env : xEv) : xRes := xI2 S env (fun x y => xN32 (nI x <<< (nI y &&& 31))) (fun S' => xF (pc + 1) (fun q => K q L S' Wd cc cs env)) (fun S' e' => K pc L S' Wd cc cs e')
noncomputable def xo_ishr (K : xKt) (a1 a2 pc : Nat) (L S Wd : List Nat) (cc cs : Nat) (env : xEv) : xRes := xI2 S env (fun x y => xN32 (nI x >>> (nI y &&& 31))) (fun S' => xF (pc + 1) (fun q => K q L S' Wd cc cs env)) (fun S' e' => K pc L S' Wd cc cs e')
noncomputable def xo_iushr (K : xKt) (a1 a2 pc : Nat) (L S Wd : List Nat) (cc cs : Nat) (env : xEv) : xRes := xI2 S env (fun x y => xN32 ((nI x).toUInt32 >>> ((nI y).toUInt32 &&& Int32.toUInt32 31)).toInt32) (fun S' => xF (pc + 1) (fun q => K q L S' Wd cc cs env)) (fun S' e' => K pc L S' Wd cc cs e')
noncomputable def xo_ladd (K : xKt) (a1 a2 pc : Nat) (L S Wd : List Nat) (cc cs : Nat) (env : xEv) : xRes := match S with
    | y :: x :: r => bif Nat.beq y 9 && Nat.beq x 21 then xF (pc + 1) (fun q => K q L (23 :: r) Wd cc cs env) else xL2 S (fun x y => (x + y) % 18446744073709551616) (fun S' => xF (pc + 1) (fun q => K q L S' Wd cc cs env))
    | _ => none
noncomputable def xo_lsub (K : xKt) (a1 a2 pc : Nat) (L S Wd : List Nat) (cc cs : Nat) (env : xEv) : xRes := xL2 S (fun x y => xN64 (lN x - lN y)) (fun S' => xF (pc + 1) (fun q => K q L S' Wd cc cs env))
noncomputable def xo_lmul (K : xKt) (a1 a2 pc : Nat) (L S Wd : List Nat) (cc cs : Nat) (env : xEv) : xRes := xL2 S (fun x y => (x * y) % 18446744073709551616) (fun S' => xF (pc + 1) (fun q => K q L S' Wd cc cs env))
noncomputable def xo_land (K : xKt) (a1 a2 pc : Nat) (L S Wd : List Nat) (cc cs : Nat) (env : xEv) : xRes := xL2 S (fun x y => xN64 (lN x &&& lN y)) (fun S' => xF (pc + 1) (fun q => K q L S' Wd cc cs env))
noncomputable def xo_lor (K : xKt) (a1 a2 pc : Nat) (L S Wd : List Nat) (cc cs : Nat) (env : xEv) : xRes := xL2 S (fun x y => xN64 (lN x ||| lN y)) (fun S' => xF (pc + 1) (fun q => K q L S' Wd cc cs env))
noncomputable def xo_lxor (K : xKt) (a1 a2 pc : Nat) (L S Wd : List Nat) (cc cs : Nat) (env : xEv) : xRes := xL2 S (fun x y => xN64 (lN x ^^^ lN y)) (fun S' => xF (pc + 1) (fun q => K q L S' Wd cc cs env))
noncomputable def xo_lshl (K : xKt) (a1 a2 pc : Nat) (L S Wd : List Nat) (cc cs : Nat) (env : xEv) : xRes := xLI S (fun x y => xN64 (lN x <<< ((nI y).toInt64 &&& 63))) (fun S' => xF (pc + 1) (fun q => K q L S' Wd cc cs env))
noncomputable def xo_lshr (K : xKt) (a1 a2 pc : Nat) (L S Wd : List Nat) (cc cs : Nat) (env : xEv) : xRes := xLI S (fun x y => xN64 (lN x >>> ((nI y).toInt64 &&& 63))) (fun S' => xF (pc + 1) (fun q => K q L S' Wd cc cs env))
noncomputable def xo_lushr (K : xKt) (a1 a2 pc : Nat) (L S Wd : List Nat) (cc cs : Nat) (env : xEv) : xRes := xLI S (fun x y => xN64 ((lN x).toUInt64 >>> ((nI y).toInt64.toUInt64 &&& Int64.toUInt64 63)).toInt64) (fun S' => xF (pc + 1) (fun q => K q L S' Wd cc cs env))
noncomputable def xo_i2l (K : xKt) (a1 a2 pc : Nat) (L S Wd : List Nat) (cc cs : Nat) (env : xEv) : xRes := match S with
    | x :: r => bif Nat.beq (x % 8) 0 then xF (xN64 (nI (x / 8)).toInt64 * 8 + 1) (fun z => xF (pc + 1) (fun q => K q L (z :: r) Wd cc cs env)) else bif Nat.beq (x % 8) 4 then xF (x + 1) (fun z => xF (pc + 1) (fun q => K q L (z :: r) Wd cc cs env)) else none
    | _ => none
noncomputable def xo_l2i (K : xKt) (a1 a2 pc : Nat) (L S Wd : List Nat) (cc cs : Nat) (env : xEv) : xRes := match S with
    | x :: r => bif Nat.beq (x % 8) 1 then xF (xN32 (lN (x / 8)).toInt32 * 8) (fun z => xF (pc + 1) (fun q => K q L (z :: r) Wd cc cs env)) else none
    | _ => none
noncomputable def xo_ineg (K : xKt) (a1 a2 pc : Nat) (L S Wd : List Nat) (cc cs : Nat) (env : xEv) : xRes := match S with
    | x :: r => bif Nat.beq (x % 8) 0 then xF (xN32 (-(nI (x / 8))) * 8) (fun z => xF (pc + 1) (fun q => K q L (z :: r) Wd cc cs env)) else none
    | _ => none
noncomputable def xo_lcmp (K : xKt) (a1 a2 pc : Nat) (L S Wd : List Nat) (cc cs : Nat) (env : xEv) : xRes := match S with
    | y :: x :: r => bif Nat.beq (x % 8) 1 && Nat.beq (y % 8) 1 then xF (bif Nat.beq (xSg (xb64 (x / 8)) (xb64 (y / 8))) 0 then 34359738360 else bif Nat.beq (xSg (xb64 (x / 8)) (xb64 (y / 8))) 1 then 0 else 8) (fun z => xF (pc + 1) (fun q => K q L (z :: r) Wd cc cs env))
        else match xRelL x y with
          | none => none
          | some (s, c) => xTri env s c (fun sg e' => xF (bif Nat.beq (xSgI sg) 0 then 34359738360 else bif Nat.beq (xSgI sg) 1 then 0 else 8) (fun z => xF (pc + 1) (fun q => K q L (z :: r) Wd cc cs e')))
    | _ => none
noncomputable def xo_ifC (K : xKt) (a1 a2 pc : Nat) (L S Wd : List Nat) (cc cs : Nat) (env : xEv) : xRes := match S with
    | x :: r => bif Nat.beq (x % 8) 0 then bif xHo a2 (xSg (xb32 (x / 8)) 2147483648) then K a1 L r Wd cc cs env else xF (pc + 3) (fun q => K q L r Wd cc cs env)
        else match xRelI x 0 with
          | none => none
          | some (s, c) => xTri env s c (fun sg e' => bif xHo a2 (xSgI sg) then K a1 L r Wd cc cs e' else xF (pc + 3) (fun q => K q L r Wd cc cs e'))
    | _ => none
noncomputable def xo_icmp (K : xKt) (a1 a2 pc : Nat) (L S Wd : List Nat) (cc cs : Nat) (env : xEv) : xRes := match S with
    | y :: x :: r => bif Nat.beq (x % 8) 0 && Nat.beq (y % 8) 0 then bif xHo a2 (xSg (xb32 (x / 8)) (xb32 (y / 8))) then K a1 L r Wd cc cs env else xF (pc + 3) (fun q => K q L r Wd cc cs env)
        else match xRelI x y with
          | none => none
          | some (s, c) => xTri env s c (fun sg e' => bif xHo a2 (xSgI sg) then K a1 L r Wd cc cs e' else xF (pc + 3) (fun q => K q L r Wd cc cs e'))
    | _ => none
noncomputable def xo_goto (K : xKt) (a1 a2 pc : Nat) (L S Wd : List Nat) (cc cs : Nat) (env : xEv) : xRes := K a1 L S Wd cc cs env
noncomputable def xo_dup (K : xKt) (a1 a2 pc : Nat) (L S Wd : List Nat) (cc cs : Nat) (env : xEv) : xRes := match S with
    | v :: r => bif Nat.beq (xCat v) 1 then xF (pc + 1) (fun q => K q L (v :: v :: r) Wd cc cs env) else none
    | _ => none
noncomputable def xo_dup_x1 (K : xKt) (a1 a2 pc : Nat) (L S Wd : List Nat) (cc cs : Nat) (env : xEv) : xRes := match S with
    | v :: w :: r => bif Nat.beq (xCat v) 1 && Nat.beq (xCat w) 1 then xF (pc + 1) (fun q => K q L (v :: w :: v :: r) Wd cc cs env) else none
    | _ => none
noncomputable def xo_dup2 (K : xKt) (a1 a2 pc : Nat) (L S Wd : List Nat) (cc cs : Nat) (env : xEv) : xRes := match S with
    | v :: r => bif Nat.beq (xCat v) 2 then xF (pc + 1) (fun q => K q L (v :: v :: r) Wd cc cs env) else match r with
      | w :: r' => bif Nat.beq (xCat w) 1 then xF (pc + 1) (fun q => K q L (v :: w :: v :: w :: r') Wd cc cs env) else none
      | [] => none
    | _ => none
noncomputable def xo_getfield (K : xKt) (a1 a2 pc : Nat) (L S Wd : List Nat) (cc cs : Nat) (env : xEv) : xRes := match S with
    | r :: t => bif Nat.beq (r % 8) 2 then xF (xGet Wd (r / 8)) (fun c => bif Nat.beq (c % 18446744073709551616) (8 * a1 + 2) then xF (xDn c a2 1) (fun v => xF (pc + 3) (fun q => K q L (v :: t) Wd cc cs env)) else none) else none
    | _ => none
noncomputable def xo_putfield (K : xKt) (a1 a2 pc : Nat) (L S Wd : List Nat) (cc cs : Nat) (env : xEv) : xRes := match S with
    | v :: r :: t => bif Nat.beq (r % 8) 2 && xFit (xTyOf a1 a2) v && Nat.blt v 4722366482869645213696 then xF (xGet Wd (r / 8)) (fun c => bif Nat.beq (c % 18446744073709551616) (8 * a1 + 2) then xF (xPn c a2 1 v) (fun c' => xSet Wd (r / 8) c' (fun W' => xF (pc + 3) (fun q => K q L t W' cc cs env))) else none) else none
    | _ => none
noncomputable def xo_iastore (K : xKt) (a1 a2 pc : Nat) (L S Wd : List Nat) (cc cs : Nat) (env : xEv) : xRes := match S with
    | v :: x :: r :: t => bif Nat.beq (x % 8) 4 then xC0 env x (fun x' e' => K pc L (v :: x' :: r :: t) Wd cc cs e') else bif Nat.beq (x % 8) 0 && Nat.blt (x / 8) 2147483648 && Nat.beq (r % 8) 2 && xIsI v && Nat.blt v 4722366482869645213696 then xF (xGet Wd (r / 8)) (fun c => bif Nat.beq (c % 8) 1 && Nat.blt (x / 8) (c % 18446744073709551616 / 8) then xF (xPn c (x / 8) 1 v) (fun c' => xSet Wd (r / 8) c' (fun W' => xF (pc + 1) (fun q => K q L t W' cc cs env))) else none) else none
    | _ => none
noncomputable def xo_laload (K : xKt) (a1 a2 pc : Nat) (L S Wd : List Nat) (cc cs : Nat) (env : xEv) : xRes := match S with
    | x :: r :: t => bif Nat.beq (x % 8) 0 && Nat.blt (x / 8) 2147483648 && Nat.beq (r % 8) 2 then xF (xGet Wd (r / 8)) (fun c => bif Nat.beq (c % 8) 3 && Nat.blt (x / 8) (c % 18446744073709551616 / 8) then xF (xDn c (x / 8) 1 * 8 + 1) (fun v => xF (pc + 1) (fun q => K q L (v :: t) Wd cc cs env)) else none) else none
    | _ => none
noncomputable def xo_lastore (K : xKt) (a1 a2 pc : Nat) (L S Wd : List Nat) (cc cs : Nat) (env : xEv) : xRes := match S with
    | v :: x :: r :: t => bif Nat.beq (x % 8) 0 && Nat.blt (x / 8) 2147483648 && Nat.beq (r % 8) 2 && Nat.beq (v % 8) 1 && Nat.blt v 4722366482869645213696 then xF (xGet Wd (r / 8)) (fun c => bif Nat.beq (c % 8) 3 && Nat.blt (x / 8) (c % 18446744073709551616 / 8) then xF (xPn c (x / 8) 1 (v / 8)) (fun c' => xSet Wd (r / 8) c' (fun W' => xF (pc + 1) (fun q => K q L t W' cc cs env))) else none) else none
    | _ => none
noncomputable def xo_baload (K : xKt) (a1 a2 pc : Nat) (L S Wd : List Nat) (cc cs : Nat) (env : xEv) : xRes := match S with
    | x :: r :: t => bif Nat.beq (x % 8) 4 then xC0 env x (fun x' e' => K pc L (x' :: r :: t) Wd cc cs e') else bif Nat.beq (x % 8) 0 && Nat.blt (x / 8) 2147483648 && Nat.beq (r % 8) 2 then xF (xGet Wd (r / 8)) (fun c => bif Nat.beq (c % 8) 5 && Nat.blt (x / 8) (c % 18446744073709551616 / 8) then xF (xDn c (x / 8) 1) (fun v => bif xIsI v then xF (pc + 1) (fun q => K q L (v :: t) Wd cc cs env) else none) else none) else none
    | _ => none
noncomputable def xo_bastore (K : xKt) (a1 a2 pc : Nat) (L S Wd : List Nat) (cc cs : Nat) (env : xEv) : xRes := match S with
    | v :: x :: r :: t => bif Nat.beq (x % 8) 4 then xC0 env x (fun x' e' => K pc L (v :: x' :: r :: t) Wd cc cs e') else bif Nat.beq (x % 8) 0 && Nat.blt (x / 8) 2147483648 && Nat.beq (r % 8) 2 && (Nat.beq v 0 || Nat.beq v 8) then xF (xGet Wd (r / 8)) (fun c => bif Nat.beq (c % 8) 5 && Nat.blt (x / 8) (c % 18446744073709551616 / 8) then xF (xPn c (x / 8) 1 v) (fun c' => xSet Wd (r / 8) c' (fun W' => xF (pc + 1) (fun q => K q L t W' cc cs env))) else none) else none
    | _ => none
noncomputable def xo_aaload (K : xKt) (a1 a2 pc : Nat) (L S Wd : List Nat) (cc cs : Nat) (env : xEv) : xRes := match S with
    | x :: r :: t => bif Nat.beq (x % 8) 4 then xC0 env x (fun x' e' => K pc L (x' :: r :: t) Wd cc cs e') else bif Nat.beq (x % 8) 0 && Nat.blt (x / 8) 2147483648 && Nat.beq (r % 8) 2 then xF (xGet Wd (r / 8)) (fun c => bif Nat.beq (c % 8) 7 && Nat.blt (x / 8) (c % 18446744073709551616 / 8) then xF (xDn c (x / 8) 1) (fun v => bif Nat.beq v 0 then none else xF ((v - 1) * 8 + 2) (fun v' => xF (pc + 1) (fun q => K q L (v' :: t) Wd cc cs env))) else none) else none
    | _ => none
noncomputable def xo_aastore (K : xKt) (a1 a2 pc : Nat) (L S Wd : List Nat) (cc cs : Nat) (env : xEv) : xRes := match S with
    | v :: x :: r :: t => bif Nat.beq (x % 8) 0 && Nat.blt (x / 8) 2147483648 && Nat.beq (r % 8) 2 && Nat.beq (v % 8) 2 && Nat.blt v 4722366482869645213696 && Nat.beq (xGet Wd (v / 8) % 18446744073709551616) 34 then xF (xGet Wd (r / 8)) (fun c => bif Nat.beq (c % 8) 7 && Nat.blt (x / 8) (c % 18446744073709551616 / 8) then xF (xPn c (x / 8) 1 (v / 8 + 1)) (fun c' => xSet Wd (r / 8) c' (fun W' => xF (pc + 1) (fun q => K q L t W' cc cs env))) else none) else none
    | _ => none
noncomputable def xo_iaload (K : xKt) (a1 a2 pc : Nat) (L S Wd : List Nat) (cc cs : Nat) (env : xEv) : xRes := match S with
    | x :: r :: t => bif Nat.beq (x % 8) 4 then xC0 env x (fun x' e' => K pc L (x' :: r :: t) Wd cc cs e') else bif Nat.beq (x % 8) 0 && Nat.blt (x / 8) 2147483648 then (bif Nat.beq (r % 8) 2 then xF (xGet Wd (r / 8)) (fun c => bif Nat.beq (c % 8) 1 && Nat.blt (x / 8) (c % 18446744073709551616 / 8) then xF (xDn c (x / 8) 1) (fun v => bif xIsI v then xF (pc + 1) (fun q => K q L (v :: t) Wd cc cs env) else none) else none) else none) else none
    | _ => none
noncomputable def xo_sload (Lz k mc ms : Nat) (K : xKt) (a1 a2 pc : Nat) (L S Wd : List Nat) (cc cs : Nat) (env : xEv) : xRes := match S with
    | x :: r :: t => bif Nat.beq (x % 8) 0 && Nat.blt (x / 8) 2147483648 && Nat.beq r 6 && Nat.beq k 0 && Nat.blt (x / 8) Lz then xF (x / 8 * 8 + 4) (fun v => xF (pc + 1) (fun q => K q L (v :: t) Wd cc cs env)) else none
    | _ => none
noncomputable def xo_alen (Lz k mc ms : Nat) (K : xKt) (a1 a2 pc : Nat) (L S Wd : List Nat) (cc cs : Nat) (env : xEv) : xRes := match S with
    | r :: t => bif Nat.beq (r % 8) 2 then xF (xGet Wd (r / 8)) (fun c => bif Nat.beq (c % 2) 1 then xF (c % 18446744073709551616 / 8 * 8) (fun v => xF (pc + 1) (fun q => K q L (v :: t) Wd cc cs env)) else none) else bif Nat.beq r 6 && Nat.beq k 0 then xF (Lz * 8) (fun v => xF (pc + 1) (fun q => K q L (v :: t) Wd cc cs env)) else none
    | _ => none
noncomputable def xo_new (Lz k mc ms : Nat) (K : xKt) (a1 a2 pc : Nat) (L S Wd : List Nat) (cc cs : Nat) (env : xEv) : xRes := xF (xLen Wd) (fun n => bif Nat.ble (cc + 1) mc && Nat.ble (cs + xNf a1) ms && xWfL n L && xWfL n S && xWfW n Wd then xF (xDefO a1 (xNf a1)) (fun c => xSnoc Wd c (fun W' => xF (cc + 1) (fun cc' => xF (cs + xNf a1) (fun cs' => xF (n * 8 + 2) (fun v => xF (pc + 3) (fun q => K q L (v :: S) W' cc' cs' env)))))) else none)
noncomputable def xo_newa (mc ms : Nat) (K : xKt) (i : Instr) (pc : Nat) (L S Wd : List Nat) (cc cs : Nat) (env : xEv) : xRes := match i with
  | .newarray t => (match S with
    | x :: r => xF (xLen Wd) (fun n => bif Nat.beq (x % 8) 0 && Nat.ble (x / 8) 1000000 && Nat.blt (xAty t) 3 && Nat.ble (cc + 1) mc && Nat.ble (cs + x / 8) ms && xWfL n L && xWfL n r && xWfW n Wd then xF (1 + 2 * xAty t + 8 * (x / 8)) (fun c => xSnoc Wd c (fun W' => xF (cc + 1) (fun cc' => xF (cs + x / 8) (fun cs' => xF (n * 8 + 2) (fun v => xF (pc + 2) (fun q => K q L (v :: r) W' cc' cs' env)))))) else none)
    | _ => none)
  | _ => none
noncomputable def xo_anewa (Lz k mc ms : Nat) (K : xKt) (a1 a2 pc : Nat) (L S Wd : List Nat) (cc cs : Nat) (env : xEv) : xRes := match S with
    | x :: r => xF (xLen Wd) (fun n => bif Nat.beq (x % 8) 0 && Nat.ble (x / 8) 1000000 && Nat.ble (cc + 1) mc && Nat.ble (cs + x / 8) ms && xWfL n L && xWfL n r && xWfW n Wd then xF (7 + 8 * (x / 8)) (fun c => xSnoc Wd c (fun W' => xF (cc + 1) (fun cc' => xF (cs + x / 8) (fun cs' => xF (n * 8 + 2) (fun v => xF (pc + 3) (fun q => K q L (v :: r) W' cc' cs' env)))))) else none)
    | _ => none
noncomputable def xo_objI (d : Nat) (K : xKt) (pc : Nat) (L S Wd : List Nat) (cc cs : Nat) (env : xEv) : xRes := match S with
      | r :: t => bif Nat.beq (r % 8) 2 && Nat.ble (xCats t) 8 && Nat.blt 0 d then xF (pc + 3) (fun q => K q L t Wd cc cs env) else none
      | _ => none
noncomputable def xo_acopy (d : Nat) (K : xKt) (pc : Nat) (L S Wd : List Nat) (cc cs : Nat) (env : xEv) : xRes := match S with
      | n :: dp :: dst :: sp :: src :: t => bif Nat.beq (n % 8) 0 && Nat.beq (dp % 8) 0 && Nat.beq (sp % 8) 0 && Nat.beq (dst % 8) 2 && Nat.beq (src % 8) 2 && Nat.blt (n / 8) 2147483648 && Nat.blt (dp / 8) 2147483648 && Nat.blt (sp / 8) 2147483648 && Nat.ble (xCats t) 8 && Nat.blt 0 d && !(Nat.beq dst src) then
          xF (xGet Wd (dst / 8)) (fun c => xF (xGet Wd (src / 8)) (fun c0 => bif Nat.beq (c % 8) 1 && Nat.beq (c0 % 8) 1 && Nat.ble (dp / 8 + n / 8) (c % 18446744073709551616 / 8) && Nat.ble (sp / 8 + n / 8) (c0 % 18446744073709551616 / 8) then
            xF (xPn c (dp / 8) (n / 8) (xDn c0 (sp / 8) (n / 8))) (fun c' => xSet Wd (dst / 8) c' (fun W' => xF (pc + 3) (fun q => K q L t W' cc cs env))) else none)) else none
      | _ => none
noncomputable def xo_iret (mc ms : Nat) (rt : Option FieldType) (pc : Nat) (S Wd : List Nat) (cc cs : Nat) (env : xEv) : xRes := match S with
    | [v] => bif xIsI v && Nat.ble cc mc && Nat.ble cs ms then (match rt with
      | some .int => some [(pc, v, Wd, env, cc, cs)]
      | some .boolean => bif Nat.beq v 0 || Nat.beq v 8 then some [(pc, v, Wd, env, cc, cs)] else none
      | _ => none) else none
    | _ => none
noncomputable def xo_lret (mc ms : Nat) (rt : Option FieldType) (pc : Nat) (S Wd : List Nat) (cc cs : Nat) (env : xEv) : xRes := match S with
    | [v] => bif Nat.beq (v % 8) 1 && Nat.ble cc mc && Nat.ble cs ms then (match rt with
      | some .long => some [(pc, v, Wd, env, cc, cs)]
      | _ => none) else none
    | _ => none
noncomputable def xo_vret (mc ms : Nat) (rt : Option FieldType) (pc : Nat) (S Wd : List Nat) (cc cs : Nat) (env : xEv) : xRes := match S with
    | [] => bif Nat.ble cc mc && Nat.ble cs ms then (match rt with
      | none => some [(pc, 11, Wd, env, cc, cs)]
      | _ => none) else none
    | _ => none
noncomputable def xo_tsw (K : xKt) (i : Instr) (pc : Nat) (L S Wd : List Nat) (cc cs : Nat) (env : xEv) : xRes := match i with
  | .tableswitch df lo hi offs => (match S with
    | x :: r => bif Nat.beq (x % 8) 0 then (if xs32 (x / 8) < lo ∨ hi < xs32 (x / 8) then (if 0 ≤ (pc : Int) + df then xF ((pc : Int) + df).toNat (fun q => K q L r Wd cc cs env) else none) else match offs[(xs32 (x / 8) - lo).toNat]? with
        | none => none
        | some off => if 0 ≤ (pc : Int) + off then xF ((pc : Int) + off).toNat (fun q => K q L r Wd cc cs env) else none)
        else bif Nat.beq (x % 8) 4 then (bif !(Nat.beq (x / 8) 7) then xTri env (x / 8) lo (fun sg e' => bif Nat.beq (xSgI sg) 0 then (if 0 ≤ (pc : Int) + df then xF ((pc : Int) + df).toNat (fun q => K q L r Wd cc cs e') else none) else xTri e' (x / 8) hi (fun sg e'' => bif Nat.beq (xSgI sg) 2 then (if 0 ≤ (pc : Int) + df then xF ((pc : Int) + df).toNat (fun q => K q L r Wd cc cs e'') else none) else xC0 e'' x (fun x' e3 => K pc L (x' :: r) Wd cc cs e3))) else none) else none
    | _ => none)
  | _ => none
noncomputable def xo_lsw (K : xKt) (i : Instr) (pc : Nat) (L S Wd : List Nat) (cc cs : Nat) (env : xEv) : xRes := match i with
  | .lookupswitch df ps => (match S with
    | x :: r => bif Nat.beq (x % 8) 0 then (if 0 ≤ (pc : Int) + Op.lookupswitch.offset ps.toList df (xs32 (x / 8)) then xF ((pc : Int) + Op.lookupswitch.offset ps.toList df (xs32 (x / 8))).toNat (fun q => K q L r Wd cc cs env) else none) else none
    | _ => none)
  | _ => none
abbrev xOpT : Type := xKt → Nat → Nat → xKt
noncomputable def xo_none : xOpT := fun _ _ _ _ _ _ _ _ _ _ => none
noncomputable def xDs0 (o : Nat) : xOpT := bif Nat.blt o 4 then (bif Nat.blt o 2 then (bif Nat.blt o 1 then (xo_push1) else (xo_push2)) else (bif Nat.blt o 3 then (xo_push3) else (xo_iload1))) else (bif Nat.blt o 6 then (bif Nat.blt o 5 then (xo_iload2) else (xo_lload1)) else (bif Nat.blt o 7 then (xo_lload2) else (xo_aload1)))
noncomputable def xDs1 (o : Nat) : xOpT := bif Nat.blt o 12 then (bif Nat.blt o 10 then (bif Nat.blt o 9 then (xo_aload2) else (xo_istore1)) else (bif Nat.blt o 11 then (xo_istore2) else (xo_astore1))) else (bif Nat.blt o 14 then (bif Nat.blt o 13 then (xo_astore2) else (xo_lstore1)) else (bif Nat.blt o 15 then (xo_lstore2) else (xo_iinc)))
noncomputable def xDs2 (o : Nat) : xOpT := bif Nat.blt o 20 then (bif Nat.blt o 18 then (bif Nat.blt o 17 then (xo_iadd) else (xo_isub)) else (bif Nat.blt o 19 then (xo_imul) else (xo_idiv))) else (bif Nat.blt o 22 then (bif Nat.blt o 21 then (xo_irem) else (xo_iand)) else (bif Nat.blt o 23 then (xo_ior) else (xo_ixor)))
noncomputable def xDs3 (o : Nat) : xOpT := bif Nat.blt o 28 then (bif Nat.blt o 26 then (bif Nat.blt o 25 then (xo_ishl) else (xo_ishr)) else (bif Nat.blt o 27 then (xo_iushr) else (xo_ladd))) else (bif Nat.blt o 30 then (bif Nat.blt o 29 then (xo_lsub) else (xo_lmul)) else (bif Nat.blt o 31 then (xo_land) else (xo_lor)))
noncomputable def xDs4 (o : Nat) : xOpT := bif Nat.blt o 36 then (bif Nat.blt o 34 then (bif Nat.blt o 33 then (xo_lxor) else (xo_lshl)) else (bif Nat.blt o 35 then (xo_lshr) else (xo_lushr))) else (bif Nat.blt o 38 then (bif Nat.blt o 37 then (xo_i2l) else (xo_l2i)) else (bif Nat.blt o 39 then (xo_ineg) else (xo_lcmp)))
noncomputable def xDs5 (o : Nat) : xOpT := bif Nat.blt o 44 then (bif Nat.blt o 42 then (bif Nat.blt o 41 then (xo_ifC) else (xo_icmp)) else (bif Nat.blt o 43 then (xo_goto) else (xo_dup))) else (bif Nat.blt o 46 then (bif Nat.blt o 45 then (xo_dup_x1) else (xo_dup2)) else (bif Nat.blt o 47 then (xo_getfield) else (xo_putfield)))
noncomputable def xDs6 (o : Nat) : xOpT := bif Nat.blt o 52 then (bif Nat.blt o 50 then (bif Nat.blt o 49 then (xo_iaload) else (xo_iastore)) else (bif Nat.blt o 51 then (xo_laload) else (xo_lastore))) else (bif Nat.blt o 54 then (bif Nat.blt o 53 then (xo_baload) else (xo_bastore)) else (bif Nat.blt o 55 then (xo_aaload) else (xo_aastore)))
noncomputable def xDs (o : Nat) : xOpT := bif Nat.blt o 24 then (bif Nat.blt o 8 then (xDs0 o) else (bif Nat.blt o 16 then (xDs1 o) else (xDs2 o))) else (bif Nat.blt o 40 then (bif Nat.blt o 32 then (xDs3 o) else (xDs4 o)) else (bif Nat.blt o 48 then (xDs5 o) else (xDs6 o)))
noncomputable def xDg (M : Nat → Option xMt) (Lz : Nat) (ih : Nat → (Nat → Option xRow) → Nat → Nat → Option FieldType → Nat → xKt) (k mc ms : Nat) (rt : Option FieldType) (d : Nat) (K : xKt) (o : Nat) (i : Instr) (a1 a2 pc : Nat) (L S Wd : List Nat) (cc cs : Nat) (env : xEv) : xRes :=
  bif Nat.blt o 105 then (bif Nat.beq o 100 then xo_sload Lz k mc ms K a1 a2 pc L S Wd cc cs env else bif Nat.beq o 101 then xo_alen Lz k mc ms K a1 a2 pc L S Wd cc cs env else bif Nat.beq o 102 then xo_new Lz k mc ms K a1 a2 pc L S Wd cc cs env else bif Nat.beq o 103 then xo_newa mc ms K i pc L S Wd cc cs env else xo_anewa Lz k mc ms K a1 a2 pc L S Wd cc cs env)
  else bif Nat.blt o 111 then (bif Nat.beq o 105 then xCall M ih mc ms d K a1 (fun o => Nat.beq (o % 8) 2 && Nat.beq (xGet Wd (o / 8) % 18446744073709551616) (8 * a2 + 2)) pc L S Wd cc cs env else bif Nat.beq o 106 then xCall M ih mc ms d K a1 (fun o => Nat.beq (o % 8) 2) pc L S Wd cc cs env else bif Nat.beq o 107 then xCall M ih mc ms d K a1 (fun _ => true) pc L S Wd cc cs env else bif Nat.beq o 108 then xo_iret mc ms rt pc S Wd cc cs env else bif Nat.beq o 109 then xo_lret mc ms rt pc S Wd cc cs env else xo_vret mc ms rt pc S Wd cc cs env)
  else (bif Nat.beq o 111 then xo_tsw K i pc L S Wd cc cs env else bif Nat.beq o 112 then xo_lsw K i pc L S Wd cc cs env else bif Nat.beq o 113 then xo_objI d K pc L S Wd cc cs env else bif Nat.beq o 114 then xo_acopy d K pc L S Wd cc cs env else none)
noncomputable def xRun (M : Nat → Option xMt) (Lz : Nat) (f : Nat) : Nat → (Nat → Option xRow) → Nat → Nat → Option FieldType → Nat → xKt := Nat.rec (motive := fun _ => Nat → (Nat → Option xRow) → Nat → Nat → Option FieldType → Nat → xKt) (fun _ _ _ _ _ _ _ _ _ _ _ _ _ => none) (fun _ ih k code mc ms rt d pc L S Wd cc cs env => match code pc with
  | none => none
  | some (o, i, _, a1, a2, _) => bif Nat.blt o 56 then xDs o (ih k code mc ms rt d) a1 a2 pc L S Wd cc cs env else xDg M Lz ih k mc ms rt d (ih k code mc ms rt d) o i a1 a2 pc L S Wd cc cs env) f
end
section
/-! what the executor's helpers are -/
theorem xF_eq {α : Type} (n : Nat) (k : Nat → α) : xF n k = k n := by cases n <;> rfl
theorem xGet_eq (l : List Nat) : ∀ i, xGet l i = l.getD i 0 := by
  induction l with
  | nil => intro i; simp [xGet]
  | cons a t ih =>
    intro i
    cases i with
    | zero => rfl
    | succ j =>
      show xGet t j = _
      rw [ih j]
      simp
theorem xGet_some {l : List Nat} {i c : Nat} (h : xGet l i = c) (h0 : c ≠ 0) : l[i]? = some c := by
  rw [xGet_eq, List.getD_eq_getElem?_getD] at h
  cases hq : l[i]? with
  | none => rw [hq] at h; exact absurd h.symm h0
  | some a => rw [hq] at h; simp at h; rw [h]
theorem xGet_lt {l : List Nat} {i : Nat} (h : i < l.length) : l[i]? = some (xGet l i) := by
  rw [xGet_eq, List.getD_eq_getElem?_getD, List.getElem?_eq_getElem h]; rfl
theorem xSet_eq {α : Type} (l : List Nat) : ∀ (i v : Nat) (k : List Nat → α), xSet l i v k = k (l.set i v) := by
  induction l with
  | nil => intro i v k; rfl
  | cons a t ih =>
    intro i v k
    cases i with
    | zero => rfl
    | succ j =>
      show xSet t j v (fun t' => k (a :: t')) = _
      rw [ih]
      rfl
theorem xSnoc_eq {α : Type} (l : List Nat) (c : Nat) : ∀ (k : List Nat → α), xSnoc l c k = k (l ++ [c]) := by
  induction l with
  | nil => intro k; rfl
  | cons a t ih =>
    intro k
    show xSnoc t c (fun t' => k (a :: t')) = _
    rw [ih]
    rfl
theorem xLen_eq (l : List Nat) : xLen l = l.length := by
  induction l with
  | nil => rfl
  | cons a t ih => show Nat.succ (xLen t) = _; rw [ih]; rfl
theorem xTk_eq (n : Nat) : ∀ (S acc : List Nat) (k : List Nat → List Nat → xRes) (o : List xOut), xTk n S acc k none = some o → ∃ bs r, S = bs ++ r ∧ bs.length = n ∧ k (bs.reverse ++ acc) r = some o := by
  induction n with
  | zero => intro S acc k o h; exact ⟨[], S, rfl, rfl, h⟩
  | succ n ih =>
    intro S acc k o h
    cases S with
    | nil => exact absurd h (by intro q; cases q)
    | cons a t =>
      obtain ⟨bs, r, h1, h2, h3⟩ := ih t (a :: acc) k o h
      exact ⟨a :: bs, r, by rw [h1]; rfl, by simp [h2], by simpa using h3⟩
theorem xPad_eq {α : Type} (n : Nat) : ∀ (k : List Nat → α), xPad n k = k (List.replicate n 11) := by
  induction n with
  | zero => intro k; rfl
  | succ n ih =>
    intro k
    show xPad n (fun t => k (11 :: t)) = _
    rw [ih]
    rfl
def xEntL : List Nat → Nat → List Nat
  | [], n => List.replicate n 11
  | a :: t, n => bif xIsL a then a :: 11 :: xEntL t (n - 2) else a :: xEntL t (n - 1)
theorem xEnt_eq {α : Type} (as : List Nat) : ∀ (n : Nat) (k : List Nat → α), xEnt as n k = k (xEntL as n) := by
  induction as with
  | nil => intro n k; exact xPad_eq n k
  | cons a t ih =>
    intro n k
    show (bif xIsL a then xEnt t (n - 2) (fun t => k (a :: 11 :: t)) else xEnt t (n - 1) (fun t => k (a :: t))) = k (bif xIsL a then _ else _)
    cases xIsL a
    · exact ih _ _
    · exact ih _ _
theorem xCats_cons (a : Nat) (t : List Nat) : xCats (a :: t) = xCat a + xCats t := rfl
theorem xApp_some {a b : xRes} {o : List xOut} (h : xApp a b = some o) : ∃ x y, a = some x ∧ b = some y ∧ o = x ++ y := by
  unfold xApp at h
  cases a with
  | none => cases h
  | some x =>
    cases b with
    | none => cases h
    | some y => exact ⟨x, y, rfl, rfl, (Option.some.inj h).symm⟩
theorem xOuts_mem {l : List xOut} {f : xOut → xRes} {o : List xOut} (h : xOuts l f = some o) {q : xOut} (hq : q ∈ l) : ∃ x, f q = some x ∧ ∀ y ∈ x, y ∈ o := by
  have key : ∀ (l : List xOut) (o : List xOut), List.rec (motive := fun _ => xRes) (some []) (fun a _ ih => xApp (f a) ih) l = some o → ∀ q ∈ l, ∃ x, f q = some x ∧ ∀ y ∈ x, y ∈ o := by
    intro l
    induction l with
    | nil => intro o _ q hq; cases hq
    | cons a t ih =>
      intro o h q hq
      obtain ⟨x, y, h1, h2, h3⟩ := xApp_some h
      subst h3
      rcases List.mem_cons.mp hq with rfl | hq
      · exact ⟨x, h1, fun z hz => List.mem_append_left _ hz⟩
      · obtain ⟨x', h4, h5⟩ := ih y h2 q hq
        exact ⟨x', h4, fun z hz => List.mem_append_right _ (h5 z hz)⟩
  cases l with
  | nil => cases hq
  | cons a t =>
    cases t with
    | nil =>
      rcases List.mem_cons.mp hq with rfl | hq
      · exact ⟨o, h, fun _ hz => hz⟩
      · cases hq
    | cons a2 t2 => exact key _ o h q hq
/-! digits -/
theorem xPn_form (c i n v : Nat) : ∃ r q : Nat, r < 2 ^ (64 + 72 * i) ∧ c = r + 2 ^ (64 + 72 * i) * (xDn c i n + 2 ^ (72 * n) * q) ∧ xPn c i n v = r + 2 ^ (64 + 72 * i) * (v + 2 ^ (72 * n) * q) := by
  have hP : 0 < 2 ^ (64 + 72 * i) := Nat.two_pow_pos _
  generalize hp : 2 ^ (64 + 72 * i) = P at hP
  generalize hB : 2 ^ (72 * n) = B
  have h1 : c = c % P + P * (xDn c i n + B * (c / P / B)) := by
    have e1 := Nat.mod_add_div c P
    have e2 := Nat.mod_add_div (c / P) B
    unfold xDn
    rw [hp, hB, e2]
    exact e1.symm
  refine ⟨c % P, c / P / B, Nat.mod_lt _ hP, h1, ?_⟩
  unfold xPn
  rw [hp]
  generalize xDn c i n = d at h1 ⊢
  generalize c / P / B = q at h1 ⊢
  generalize c % P = r at h1 ⊢
  subst h1
  rw [Nat.mul_comm d P, Nat.mul_comm v P, Nat.mul_add, Nat.mul_add]
  omega
theorem xD_low {r x i j : Nat} (h : j < i) : xDn (r + 2 ^ (64 + 72 * i) * x) j 1 = xDn r j 1 := by
  have e : 2 ^ (64 + 72 * i) = 2 ^ (64 + 72 * j) * (2 ^ (72 * 1) * 2 ^ (72 * (i - j - 1))) := by
    rw [← Nat.pow_add, ← Nat.pow_add]
    congr 1
    omega
  unfold xDn
  rw [e, Nat.mul_assoc, Nat.add_mul_div_left _ _ (Nat.two_pow_pos _), Nat.mul_assoc, Nat.add_mul_mod_self_left]
theorem xD_high {r x i j : Nat} (hr : r < 2 ^ (64 + 72 * i)) (h : i ≤ j) : xDn (r + 2 ^ (64 + 72 * i) * x) j 1 = x / 2 ^ (72 * (j - i)) % 2 ^ 72 := by
  have e : 2 ^ (64 + 72 * j) = 2 ^ (64 + 72 * i) * 2 ^ (72 * (j - i)) := by
    rw [← Nat.pow_add]
    congr 1
    omega
  unfold xDn
  rw [e, ← Nat.div_div_eq_div_mul, Nat.add_mul_div_left _ _ (Nat.two_pow_pos _), Nat.div_eq_of_lt hr, Nat.zero_add]
theorem xPn_dig {c i n v : Nat} (hv : v < 2 ^ (72 * n)) (j : Nat) : xDn (xPn c i n v) j 1 = if i ≤ j ∧ j < i + n then v / 2 ^ (72 * (j - i)) % 2 ^ 72 else xDn c j 1 := by
  obtain ⟨r, q, hr, h1, h2⟩ := xPn_form c i n v
  have hd : xDn c i n < 2 ^ (72 * n) := Nat.mod_lt _ (Nat.two_pow_pos _)
  rw [h2]
  conv => rhs; rw [h1]
  by_cases hj : j < i
  · rw [if_neg (by omega), xD_low hj, xD_low hj]
  · rw [xD_high hr (by omega), xD_high hr (by omega)]
    by_cases hj2 : j < i + n
    · rw [if_pos ⟨by omega, hj2⟩]
      have e : 2 ^ (72 * n) = 2 ^ (72 * (j - i)) * (2 ^ 72 * 2 ^ (72 * (n - 1 - (j - i)))) := by
        rw [← Nat.pow_add, ← Nat.pow_add]
        congr 1
        omega
      rw [e, Nat.mul_assoc, Nat.add_mul_div_left _ _ (Nat.two_pow_pos _), Nat.mul_assoc, Nat.add_mul_mod_self_left]
    · rw [if_neg (by omega)]
      have e : 2 ^ (72 * (j - i)) = 2 ^ (72 * n) * 2 ^ (72 * (j - i - n)) := by
        rw [← Nat.pow_add]
        congr 1
        omega
      rw [e, ← Nat.div_div_eq_div_mul, ← Nat.div_div_eq_div_mul, Nat.add_mul_div_left _ _ (Nat.two_pow_pos _), Nat.add_mul_div_left _ _ (Nat.two_pow_pos _), Nat.div_eq_of_lt hv, Nat.div_eq_of_lt hd]
theorem xPn_one {c i v : Nat} (hv : v < 4722366482869645213696) (j : Nat) : xDn (xPn c i 1 v) j 1 = if j = i then v else xDn c j 1 := by
  have hv' : v < 2 ^ (72 * 1) := hv
  rw [xPn_dig hv']
  by_cases hj : j = i
  · subst hj
    rw [if_pos ⟨by omega, by omega⟩, if_pos rfl, Nat.sub_self, Nat.mul_zero, Nat.pow_zero, Nat.div_one]
    exact Nat.mod_eq_of_lt hv
  · rw [if_neg (by omega), if_neg hj]
theorem xPn_hdr (c i n v : Nat) : xPn c i n v % 18446744073709551616 = c % 18446744073709551616 := by
  obtain ⟨r, q, hr, h1, h2⟩ := xPn_form c i n v
  rw [h2]
  conv => rhs; rw [h1]
  have e : 2 ^ (64 + 72 * i) = 18446744073709551616 * 2 ^ (72 * i) := by rw [Nat.pow_add]
  rw [e, Nat.mul_assoc, Nat.mul_assoc, Nat.add_mul_mod_self_left, Nat.add_mul_mod_self_left]
theorem x8 (c : Nat) : c % 18446744073709551616 % 8 = c % 8 := Nat.mod_mod_of_dvd c ⟨2305843009213693952, rfl⟩
theorem x2 (c : Nat) : c % 8 % 2 = c % 2 := Nat.mod_mod_of_dvd c ⟨4, rfl⟩
theorem xPn_8 (c i n v : Nat) : xPn c i n v % 8 = c % 8 := by rw [← x8, xPn_hdr, x8]
theorem xDn_sub {c s n j : Nat} (h : j < n) : xDn c s n / 2 ^ (72 * j) % 2 ^ 72 = xDn c (s + j) 1 := by
  have e : 2 ^ (72 * n) = 2 ^ (72 * j) * (2 ^ 72 * 2 ^ (72 * (n - 1 - j))) := by
    rw [← Nat.pow_add, ← Nat.pow_add]
    congr 1
    omega
  have e2 : 2 ^ (64 + 72 * (s + j)) = 2 ^ (64 + 72 * s) * 2 ^ (72 * j) := by
    rw [← Nat.pow_add]
    congr 1
    omega
  unfold xDn
  rw [e, Nat.mod_mul_right_div_self, Nat.mod_mul_right_mod, e2, ← Nat.div_div_eq_div_mul]
theorem xDn_small {c j : Nat} (h : c < 18446744073709551616) : xDn c j 1 = 0 := by
  unfold xDn
  rw [Nat.div_eq_of_lt (Nat.lt_of_lt_of_le h (Nat.pow_le_pow_right (n := 2) (by decide) (show 64 ≤ 64 + 72 * j by omega)))]
/-! numbers -/
theorem xnI_mod (n : Nat) : nI (n % 4294967296) = nI n := by
  unfold nI
  apply Int32.toBitVec_inj.mp
  show BitVec.ofNat 32 (n % 2 ^ 32) = BitVec.ofNat 32 n
  apply BitVec.eq_of_toNat_eq
  rw [BitVec.toNat_ofNat, BitVec.toNat_ofNat, Nat.mod_mod]
theorem xlN_mod (n : Nat) : lN (n % 18446744073709551616) = lN n := by
  unfold lN
  apply Int64.toBitVec_inj.mp
  show BitVec.ofNat 64 (n % 2 ^ 64) = BitVec.ofNat 64 n
  apply BitVec.eq_of_toNat_eq
  rw [BitVec.toNat_ofNat, BitVec.toNat_ofNat, Nat.mod_mod]
theorem xN32_eq (x : Int32) : nI (xN32 x) = x := by
  unfold nI xN32
  apply Int32.toBitVec_inj.mp
  simp [Int32.toBitVec_ofNat]
theorem xN64_eq (x : Int64) : lN (xN64 x) = x := by
  unfold lN xN64
  apply Int64.toBitVec_inj.mp
  simp [Int64.toBitVec_ofNat]
theorem xs32_eq (u : Nat) : (nI u).toInt = xs32 u := by
  unfold nI xs32 xb32
  rw [Int32.toInt_ofNat', Int.bmod]
  have e : (Int32.size : Int) = 4294967296 := rfl
  rw [e]
  split <;> omega
theorem xs64_eq (u : Nat) : (lN u).toInt = xs64 u := by
  unfold lN xs64 xb64
  rw [Int64.toInt_ofNat', Int.bmod]
  have e : (Int64.size : Int) = 18446744073709551616 := rfl
  rw [e]
  split <;> omega
theorem xsub_eq (x y : Nat) : nI ((x + 4294967296 - y % 4294967296) % 4294967296) = nI x - nI y := by
  rw [xnI_mod]
  have h1 : nI (x + 4294967296 - y % 4294967296) + nI y = nI x := by
    rw [← xnI_mod y, nI_add]
    have hy := Nat.mod_lt y (show 0 < 4294967296 by decide)
    rw [show x + 4294967296 - y % 4294967296 + y % 4294967296 = x + 4294967296 by omega, ← xnI_mod (x + 4294967296), Nat.add_mod_right, xnI_mod]
  rw [← h1]
  simp
theorem xCI_eq (v : Int32) : nI (xCI v.toInt / 8) = v := by
  unfold xCI
  rw [Nat.mul_div_cancel _ (by decide)]
  apply Int32.toInt_inj.mp
  rw [xs32_eq]
  unfold xs32 xb32
  have h1 := v.le_toInt
  have h2 := v.toInt_lt
  omega
theorem xCI_tag (v : Int) : xCI v % 8 = 0 := Nat.mul_mod_left _ _
end
section
/-! what numbers mean: values, cells, worlds, locals, unknowns -/
def xg (ρ : Nat → Int32) (b : Nat) (ad : Nat → Nat) (c : Nat) : Value := match c % 8 with
  | 0 => .int (nI (c / 8))
  | 1 => .long (lN (c / 8))
  | 2 => .ref (ad (c / 8))
  | 3 => .null
  | 4 => .int (ρ (c / 8))
  | 5 => .long (ρ (c / 8)).toInt64
  | 6 => .ref b
  | _ => .long ((ρ (c / 8)).toInt64 + 1)
theorem xg0 {ρ : Nat → Int32} {b : Nat} {ad : Nat → Nat} {c : Nat} (h : c % 8 = 0) : xg ρ b ad c = .int (nI (c / 8)) := by unfold xg; rw [h]; rfl
theorem xg1 {ρ : Nat → Int32} {b : Nat} {ad : Nat → Nat} {c : Nat} (h : c % 8 = 1) : xg ρ b ad c = .long (lN (c / 8)) := by unfold xg; rw [h]; rfl
theorem xg2 {ρ : Nat → Int32} {b : Nat} {ad : Nat → Nat} {c : Nat} (h : c % 8 = 2) : xg ρ b ad c = .ref (ad (c / 8)) := by unfold xg; rw [h]; rfl
theorem xg3 {ρ : Nat → Int32} {b : Nat} {ad : Nat → Nat} {c : Nat} (h : c % 8 = 3) : xg ρ b ad c = .null := by unfold xg; rw [h]; rfl
theorem xg4 {ρ : Nat → Int32} {b : Nat} {ad : Nat → Nat} {c : Nat} (h : c % 8 = 4) : xg ρ b ad c = .int (ρ (c / 8)) := by unfold xg; rw [h]; rfl
theorem xg5 {ρ : Nat → Int32} {b : Nat} {ad : Nat → Nat} {c : Nat} (h : c % 8 = 5) : xg ρ b ad c = .long (ρ (c / 8)).toInt64 := by unfold xg; rw [h]; rfl
theorem xg6 {ρ : Nat → Int32} {b : Nat} {ad : Nat → Nat} {c : Nat} (h : c % 8 = 6) : xg ρ b ad c = .ref b := by unfold xg; rw [h]; rfl
theorem xg7 {ρ : Nat → Int32} {b : Nat} {ad : Nat → Nat} {c : Nat} (h : c % 8 = 7) : xg ρ b ad c = .long ((ρ (c / 8)).toInt64 + 1) := by unfold xg; rw [h]; rfl
theorem xcases (c : Nat) : c % 8 = 0 ∨ c % 8 = 1 ∨ c % 8 = 2 ∨ c % 8 = 3 ∨ c % 8 = 4 ∨ c % 8 = 5 ∨ c % 8 = 6 ∨ c % 8 = 7 := by omega
theorem xg_cat (ρ : Nat → Int32) (b : Nat) (ad : Nat → Nat) (c : Nat) : (xg ρ b ad c).category = xCat c := by
  unfold xCat xIsL
  rcases xcases c with h | h | h | h | h | h | h | h
  · rw [xg0 h, h]; rfl
  · rw [xg1 h, h]; rfl
  · rw [xg2 h, h]; rfl
  · rw [xg3 h, h]; rfl
  · rw [xg4 h, h]; rfl
  · rw [xg5 h, h]; rfl
  · rw [xg6 h, h]; rfl
  · rw [xg7 h, h]; rfl
def xd32 (ρ : Nat → Int32) (c : Nat) : Int32 := if c % 8 = 4 then ρ (c / 8) else nI (c / 8)
theorem xgI {ρ : Nat → Int32} {b : Nat} {ad : Nat → Nat} {c : Nat} (h : xIsI c = true) : xg ρ b ad c = .int (xd32 ρ c) := by
  unfold xIsI at h
  unfold xd32
  rcases xcases c with q | q | q | q | q | q | q | q <;> rw [q] at h <;> first | (exact absurd h (by decide)) | skip
  · rw [xg0 q, if_neg (by omega)]
  · rw [xg4 q, if_pos q]
def xdL (ρ : Nat → Int32) (c : Nat) : Int64 := if c % 8 = 1 then lN (c / 8) else if c % 8 = 5 then (ρ (c / 8)).toInt64 else (ρ (c / 8)).toInt64 + 1
theorem xgL {ρ : Nat → Int32} {b : Nat} {ad : Nat → Nat} {c : Nat} (h : xIsL c = true) : xg ρ b ad c = .long (xdL ρ c) := by
  unfold xIsL at h
  unfold xdL
  rcases xcases c with q | q | q | q | q | q | q | q <;> rw [q] at h <;> first | (exact absurd h (by decide)) | skip
  · rw [xg1 q, if_pos q]
  · rw [xg5 q, if_neg (by omega), if_pos q]
  · rw [xg7 q, if_neg (by omega), if_neg (by omega)]
theorem xgR {ρ : Nat → Int32} {b : Nat} {ad : Nat → Nat} {c : Nat} (h : xIsR c = true) : ∃ a, xg ρ b ad c = .ref a := by
  unfold xIsR at h
  rcases xcases c with q | q | q | q | q | q | q | q <;> rw [q] at h <;> first | (exact absurd h (by decide)) | skip
  · exact ⟨_, xg2 q⟩
  · exact ⟨_, xg6 q⟩
/-- a value does not change where the places below n keep their addresses -/
theorem xg_keep {ρ : Nat → Int32} {b : Nat} {ad ad' : Nat → Nat} {n : Nat} (ha : ∀ i, i < n → ad' i = ad i) {c : Nat} (h : c % 8 = 2 → c / 8 < n) : xg ρ b ad' c = xg ρ b ad c := by
  rcases xcases c with q | q | q | q | q | q | q | q
  · rw [xg0 q, xg0 q]
  · rw [xg1 q, xg1 q]
  · rw [xg2 q, xg2 q, ha _ (h q)]
  · rw [xg3 q, xg3 q]
  · rw [xg4 q, xg4 q]
  · rw [xg5 q, xg5 q]
  · rw [xg6 q, xg6 q]
  · rw [xg7 q, xg7 q]
theorem xWfL_mem {n : Nat} {l : List Nat} (h : xWfL n l = true) : ∀ c ∈ l, c % 8 = 2 → c / 8 < n := by
  induction l with
  | nil => intro c hc; cases hc
  | cons a t ih =>
    intro c hc h2
    have h' : ((bif Nat.beq (a % 8) 2 then Nat.blt (a / 8) n else true) && xWfL n t) = true := h
    rw [Bool.and_eq_true] at h'
    rcases List.mem_cons.mp hc with rfl | hc
    · have h1 := h'.1
      rw [h2] at h1
      exact Nat.le_of_ble_eq_true h1
    · exact ih h'.2 c hc h2
theorem xmap_keep {ρ : Nat → Int32} {b : Nat} {ad ad' : Nat → Nat} {n : Nat} (ha : ∀ i, i < n → ad' i = ad i) {l : List Nat} (h : xWfL n l = true) : l.map (xg ρ b ad') = l.map (xg ρ b ad) :=
  List.map_congr_left fun c hc => xg_keep ha (xWfL_mem h c hc)
/-! cells and worlds -/
def xqf (ad : Nat → Nat) (d : Nat) : Option Nat := if d = 0 then none else some (ad (d - 1))
def xE (ρ : Nat → Int32) (b : Nat) (cA : Nat → ClassId) (ad : Nat → Nat) (c : Nat) : va_E :=
  if c % 8 = 2 then .inr (c % 18446744073709551616 / 8, (List.range (xNf (c % 18446744073709551616 / 8))).map (fun k => xg ρ b ad (xDn c k 1)))
  else .inl (cA (c % 8 / 2), c % 18446744073709551616 / 8, if c % 8 = 3 then .inr (.inl (fun k => lN (xDn c k 1))) else if c % 8 = 7 then .inr (.inr (.inr (.inr (fun k => if k < c % 18446744073709551616 / 8 then xqf ad (xDn c k 1) else none)))) else .inl (fun k => xd32 ρ (xDn c k 1)))
def xWs (ρ : Nat → Int32) (b : Nat) (cA : Nat → ClassId) (ad : Nat → Nat) (Wd : List Nat) : va_W := Wd.mapIdx (fun i c => (ad i, xE ρ b cA ad c))
theorem xWs_get {ρ : Nat → Int32} {b : Nat} {cA : Nat → ClassId} {ad : Nat → Nat} {Wd : List Nat} {i c : Nat} (h : Wd[i]? = some c) : (xWs ρ b cA ad Wd)[i]? = some (ad i, xE ρ b cA ad c) := by
  unfold xWs
  rw [List.getElem?_mapIdx, h]
  rfl
theorem xWs_set (ρ : Nat → Int32) (b : Nat) (cA : Nat → ClassId) (ad : Nat → Nat) (Wd : List Nat) (i c : Nat) : xWs ρ b cA ad (Wd.set i c) = (xWs ρ b cA ad Wd).set i (ad i, xE ρ b cA ad c) := by
  unfold xWs
  apply List.ext_getElem?
  intro j
  rw [List.getElem?_mapIdx]
  by_cases hj : i = j
  · subst hj
    by_cases hl : i < Wd.length
    · rw [List.getElem?_set_self hl, List.getElem?_set_self (by simpa using hl)]
      rfl
    · rw [List.getElem?_eq_none (by simpa using Nat.not_lt.mp hl), List.getElem?_eq_none (by simpa using Nat.not_lt.mp hl)]
      rfl
  · rw [List.getElem?_set_ne hj, List.getElem?_set_ne hj, List.getElem?_mapIdx]
theorem xWs_len (ρ : Nat → Int32) (b : Nat) (cA : Nat → ClassId) (ad : Nat → Nat) (Wd : List Nat) : (xWs ρ b cA ad Wd).length = Wd.length := by unfold xWs; simp
theorem xE_keep {ρ : Nat → Int32} {b : Nat} {cA : Nat → ClassId} {ad ad' : Nat → Nat} {n c : Nat} (ha : ∀ i, i < n → ad' i = ad i) (h : xWfC n c = true) : xE ρ b cA ad' c = xE ρ b cA ad c := by
  have hD : ∀ m, xWfD n c m = true → ∀ k, k < m → xDn c k 1 % 8 = 2 → xDn c k 1 / 8 < n := by
    intro m
    induction m with
    | zero => intro _ k hk; omega
    | succ m ih =>
      intro hm k hk h2
      have h' : ((bif Nat.beq (xDn c m 1 % 8) 2 then Nat.blt (xDn c m 1 / 8) n else true) && xWfD n c m) = true := hm
      rw [Bool.and_eq_true] at h'
      by_cases hkm : k = m
      · subst hkm
        have h1 := h'.1
        rw [h2] at h1
        exact Nat.le_of_ble_eq_true h1
      · exact ih h'.2 k (by omega) h2
  have hQ : ∀ m, xWfQ n c m = true → ∀ k, k < m → xDn c k 1 ≤ n := by
    intro m
    induction m with
    | zero => intro _ k hk; omega
    | succ m ih =>
      intro hm k hk
      have h' : (Nat.ble (xDn c m 1) n && xWfQ n c m) = true := hm
      rw [Bool.and_eq_true] at h'
      by_cases hkm : k = m
      · subst hkm
        exact Nat.le_of_ble_eq_true h'.1
      · exact ih h'.2 k (by omega)
  unfold xWfC at h
  unfold xE
  by_cases h2 : c % 8 = 2
  · rw [if_pos h2, if_pos h2]
    have e2 : Nat.beq (c % 2) 0 = true := by rw [← x2, h2]; rfl
    rw [e2] at h
    congr 2
    apply List.map_congr_left
    intro k hk
    exact xg_keep ha (hD _ h k (List.mem_range.mp hk))
  · rw [if_neg h2, if_neg h2]
    by_cases h3 : c % 8 = 3
    · rw [if_pos h3, if_pos h3]
    · rw [if_neg h3, if_neg h3]
      by_cases h7 : c % 8 = 7
      · rw [if_pos h7, if_pos h7]
        have e2 : Nat.beq (c % 2) 0 = false := by rw [← x2, h7]; rfl
        rw [e2, h7] at h
        have hf : (fun k => if k < c % 18446744073709551616 / 8 then xqf ad' (xDn c k 1) else none) = (fun k => if k < c % 18446744073709551616 / 8 then xqf ad (xDn c k 1) else none) := by
          funext k
          by_cases hk : k < c % 18446744073709551616 / 8
          · rw [if_pos hk, if_pos hk]
            unfold xqf
            by_cases hz : xDn c k 1 = 0
            · rw [if_pos hz, if_pos hz]
            · rw [if_neg hz, if_neg hz, ha]
              have := hQ _ h k hk
              omega
          · rw [if_neg hk, if_neg hk]
        rw [hf]
      · rw [if_neg h7, if_neg h7]
/-! locals -/
def xLl (g : Nat → Value) (L : List Nat) : List (Nat × Value) := (List.range L.length).filterMap (fun i => match L[i]? with
  | none => none
  | some c => if c = 11 then none else some (i, g c))
theorem xLl_mem {g : Nat → Value} {L : List Nat} {q : Nat × Value} : q ∈ xLl g L ↔ ∃ c, L[q.1]? = some c ∧ c ≠ 11 ∧ q.2 = g c := by
  unfold xLl
  rw [List.mem_filterMap]
  constructor
  · rintro ⟨i, -, h⟩
    cases hc : L[i]? with
    | none => rw [hc] at h; cases h
    | some c =>
      rw [hc] at h
      dsimp only at h
      by_cases h11 : c = 11
      · rw [if_pos h11] at h; cases h
      · rw [if_neg h11] at h
        cases h
        exact ⟨c, hc, h11, rfl⟩
  · rintro ⟨c, h1, h2, h3⟩
    refine ⟨q.1, List.mem_range.mpr (List.getElem?_eq_some_iff.mp h1).1, ?_⟩
    rw [h1]
    dsimp only
    rw [if_neg h2, ← h3]
theorem xlv_mono {ls : Array Slot} {nL : Nat} {l l' : List (Nat × Value)} (h : lv_has ls nL l) (hs : ∀ q ∈ l', q ∈ l) : lv_has ls nL l' := ⟨h.1, h.2.1, fun q hq => h.2.2 q (hs q hq)⟩
theorem xlv_at {ls : Array Slot} {nL : Nat} {g : Nat → Value} {L : List Nat} (h : lv_has ls nL (xLl g L)) {i c : Nat} (hc : L[i]? = some c) (h11 : c ≠ 11) : ls[i]? = some (.val (g c)) := h.2.2 (i, g c) (xLl_mem.mpr ⟨c, hc, h11, rfl⟩)
/-- a store of one slot, of two slots -/
theorem xlv_st1 {g : Nat → Value} {L : List Nat} {i v : Nat} (hcat : ∀ c, (g c).category = xCat c) {L' : List Nat} (hL : xStL L i v (fun L1 => some [(0, 0, L1, [], 0, 0)]) = some [(0, 0, L', [], 0, 0)]) :
    L'.length = L.length ∧ ∀ q ∈ xLl g L', q ∈ (i, g v) :: (xLl g L).filter (fun q => !(q.1 == i) && !(q.1 + 1 == i && q.2.category == 2)) := by
  have key : ∀ L2 : List Nat, L2.length = L.length → (∀ j, j ≠ i → ∀ c, L2[j]? = some c → c ≠ 11 → L[j]? = some c ∧ (j + 1 = i → xCat c = 1)) → L' = L2.set i v → L'.length = L.length ∧ ∀ q ∈ xLl g L', q ∈ (i, g v) :: (xLl g L).filter (fun q => !(q.1 == i) && !(q.1 + 1 == i && q.2.category == 2)) := by
    intro L2 h1 h2 h3
    subst h3
    refine ⟨by rw [List.length_set, h1], fun q hq => ?_⟩
    obtain ⟨c, e1, e2, e3⟩ := xLl_mem.mp hq
    by_cases hj : i = q.1
    · have hlt := (List.getElem?_eq_some_iff.mp e1).1
      rw [List.length_set] at hlt
      rw [← hj, List.getElem?_set_self (by rw [hj]; exact hlt)] at e1
      cases e1
      rw [show q = (i, g v) from Prod.ext hj.symm e3]
      exact List.mem_cons_self
    · rw [List.getElem?_set_ne hj] at e1
      obtain ⟨f1, f2⟩ := h2 q.1 (Ne.symm hj) c e1 e2
      refine List.mem_cons_of_mem _ (List.mem_filter.mpr ⟨xLl_mem.mpr ⟨c, f1, e2, e3⟩, ?_⟩)
      have hb1 : (q.1 == i) = false := by simpa using Ne.symm hj
      rw [hb1]
      by_cases hj1 : q.1 + 1 = i
      · rw [e3, hcat, f2 hj1]
        simp
      · have hb2 : (q.1 + 1 == i) = false := by simpa using hj1
        rw [hb2]
        rfl
  cases i with
  | zero =>
    unfold xStL at hL
    rw [xSet_eq] at hL
    have e : L' = L.set 0 v := by
      have := Option.some.inj hL
      simp at this
      exact this.symm
    exact key L rfl (fun j hj c h1 h2 => ⟨h1, fun h => by omega⟩) e
  | succ j =>
    unfold xStL at hL
    dsimp only at hL
    cases hb : xIsL (xGet L j) with
    | true =>
      rw [hb] at hL
      dsimp only [cond] at hL
      rw [xSet_eq, xSet_eq] at hL
      have e : L' = (L.set j 11).set (j + 1) v := by
        have := Option.some.inj hL
        simp at this
        exact this.symm
      refine key (L.set j 11) (List.length_set) (fun k hk c h1 h2 => ?_) e
      by_cases hkj : j = k
      · subst hkj
        have hlt := (List.getElem?_eq_some_iff.mp h1).1
        rw [List.length_set] at hlt
        rw [List.getElem?_set_self hlt] at h1
        cases h1
        exact absurd rfl h2
      · rw [List.getElem?_set_ne hkj] at h1
        exact ⟨h1, fun h => absurd (by omega) hkj⟩
    | false =>
      rw [hb] at hL
      dsimp only [cond] at hL
      rw [xSet_eq] at hL
      have e : L' = L.set (j + 1) v := by
        have := Option.some.inj hL
        simp at this
        exact this.symm
      refine key L rfl (fun k hk c h1 h2 => ⟨h1, fun h => ?_⟩) e
      have hkj : k = j := by omega
      subst hkj
      have hg : xGet L k = c := by
        rw [xGet_eq, List.getD_eq_getElem?_getD, h1]; rfl
      rw [hg] at hb
      unfold xCat
      rw [hb]
      rfl
/-- what a store makes, whatever comes behind it -/
theorem xStL_ex (L : List Nat) (i v : Nat) : ∃ L', (∀ k : List Nat → xRes, xStL L i v k = k L') := by
  cases i with
  | zero => exact ⟨L.set 0 v, fun k => by unfold xStL; rw [xSet_eq]⟩
  | succ j =>
    cases hb : xIsL (xGet L j) with
    | true => exact ⟨(L.set j 11).set (j + 1) v, fun k => by unfold xStL; dsimp only; rw [hb]; dsimp only [cond]; rw [xSet_eq, xSet_eq]⟩
    | false => exact ⟨L.set (j + 1) v, fun k => by unfold xStL; dsimp only; rw [hb]; dsimp only [cond]; rw [xSet_eq]⟩
/-! unknowns -/
def xz (ρ : Nat → Int32) (k : Nat) : Int := if k = 7 then (ρ 3).toInt - (ρ 2).toInt else (ρ k).toInt
def xEO (ρ : Nat → Int32) (env : xEv) : Prop := ∀ (k : Nat) (q : Int × Int), env[k]? = some q → q.1 ≤ xz ρ k ∧ xz ρ k ≤ q.2
theorem xEO_set {ρ : Nat → Int32} {env : xEv} {s : Nat} {lo hi : Int} (h : xEO ρ env) (h1 : lo ≤ xz ρ s) (h2 : xz ρ s ≤ hi) : xEO ρ (env.set s (lo, hi)) := by
  intro k q hq
  by_cases hk : s = k
  · subst hk
    have hlt := (List.getElem?_eq_some_iff.mp hq).1
    rw [List.length_set] at hlt
    rw [List.getElem?_set_self hlt] at hq
    cases hq
    exact ⟨h1, h2⟩
  · rw [List.getElem?_set_ne hk] at hq
    exact h k q hq
theorem xTri0_sound {ρ : Nat → Int32} {env : xEv} {s : Nat} {c : Int} {f : Int → xEv → xRes} {o : List xOut} (h : xTri0 env s c f = some o) (hE : xEO ρ env) : ∃ (sg : Int) (e' : xEv) (o' : List xOut), f sg e' = some o' ∧ (∀ y ∈ o', y ∈ o) ∧ xEO ρ e' ∧ ((xSgI sg = 0 ∧ xz ρ s < c) ∨ (xSgI sg = 1 ∧ xz ρ s = c) ∨ (xSgI sg = 2 ∧ c < xz ρ s)) := by
  unfold xTri0 at h
  cases hs : env[s]? with
  | none => rw [hs] at h; cases h
  | some q =>
    obtain ⟨lo, hi⟩ := q
    rw [hs] at h
    dsimp only at h
    obtain ⟨g1, g2⟩ := hE s _ hs
    dsimp only at g1 g2
    obtain ⟨x, y, h1, h2, h3⟩ := xApp_some h
    obtain ⟨y1, y2, h4, h5, h6⟩ := xApp_some h2
    subst h3; subst h6
    rcases Int.lt_trichotomy (xz ρ s) c with hlt | heq | hgt
    · rw [if_pos (by omega)] at h1
      exact ⟨-1, _, x, h1, fun z hz => List.mem_append_left _ hz, xEO_set hE g1 (by omega), Or.inl ⟨rfl, hlt⟩⟩
    · rw [if_pos (by omega)] at h4
      exact ⟨0, _, y1, h4, fun z hz => List.mem_append_right _ (List.mem_append_left _ hz), xEO_set hE (by omega) (by omega), Or.inr (Or.inl ⟨rfl, heq⟩)⟩
    · rw [if_pos (by omega)] at h5
      exact ⟨1, _, y2, h5, fun z hz => List.mem_append_right _ (List.mem_append_right _ hz), xEO_set hE (by omega) g2, Or.inr (Or.inr ⟨rfl, hgt⟩)⟩
theorem xTight_sound {ρ : Nat → Int32} {env : xEv} (s : Nat) (hE : xEO ρ env) : xEO ρ (xTight s env) := by
  unfold xTight
  cases Nat.beq s 7 with
  | false => exact hE
  | true =>
    dsimp only [cond]
    cases h2 : env[2]? with
    | none => exact hE
    | some q2 =>
      cases h3 : env[3]? with
      | none => exact hE
      | some q3 =>
        cases h7 : env[7]? with
        | none => exact hE
        | some q7 =>
          have e2 := hE 2 _ h2
          have e3 := hE 3 _ h3
          have e7 := hE 7 _ h7
          have z2 : xz ρ 2 = (ρ 2).toInt := rfl
          have z3 : xz ρ 3 = (ρ 3).toInt := rfl
          have z7 : xz ρ 7 = (ρ 3).toInt - (ρ 2).toInt := rfl
          refine xEO_set hE ?_ ?_
          · rw [z7] at e7 ⊢; rw [z2] at e2; rw [z3] at e3; omega
          · rw [z7] at e7 ⊢; rw [z2] at e2; rw [z3] at e3; omega
theorem xTri_sound {ρ : Nat → Int32} {env : xEv} {s : Nat} {c : Int} {f : Int → xEv → xRes} {o : List xOut} (h : xTri env s c f = some o) (hE : xEO ρ env) : ∃ (sg : Int) (e' : xEv) (o' : List xOut), f sg e' = some o' ∧ (∀ y ∈ o', y ∈ o) ∧ xEO ρ e' ∧ ((xSgI sg = 0 ∧ xz ρ s < c) ∨ (xSgI sg = 1 ∧ xz ρ s = c) ∨ (xSgI sg = 2 ∧ c < xz ρ s)) := xTri0_sound h (xTight_sound s hE)
theorem xConc_sound {ρ : Nat → Int32} {env : xEv} {s : Nat} {f : Int → xEv → xRes} {o : List xOut} (h : xConc env s f = some o) (hE : xEO ρ env) : ∃ (e' : xEv) (o' : List xOut), f (xz ρ s) e' = some o' ∧ (∀ y ∈ o', y ∈ o) ∧ xEO ρ e' := by
  have key : ∀ (g : Int → xRes) (n : Nat) (lo v : Int) (o : List xOut), xForkN g n lo = some o → lo ≤ v → v < lo + n → ∃ o', g v = some o' ∧ ∀ y ∈ o', y ∈ o := by
    intro g n
    induction n with
    | zero => intro lo v o _ h1 h2; omega
    | succ n ih =>
      intro lo v o h h1 h2
      have h' : xApp (g lo) (xForkN g n (lo + 1)) = some o := h
      obtain ⟨x, y, e1, e2, e3⟩ := xApp_some h'
      subst e3
      by_cases hv : v = lo
      · subst hv
        exact ⟨x, e1, fun z hz => List.mem_append_left _ hz⟩
      · obtain ⟨o', f1, f2⟩ := ih (lo + 1) v y e2 (by omega) (by omega)
        exact ⟨o', f1, fun z hz => List.mem_append_right _ (f2 z hz)⟩
  unfold xConc at h
  cases hs : env[s]? with
  | none => rw [hs] at h; cases h
  | some q =>
    obtain ⟨lo, hi⟩ := q
    rw [hs] at h
    dsimp only at h
    obtain ⟨g1, g2⟩ := hE s _ hs
    dsimp only at g1 g2
    by_cases hl : hi - lo ≤ 200
    · rw [if_pos hl] at h
      obtain ⟨o', f1, f2⟩ := key _ _ _ (xz ρ s) o h g1 (by omega)
      exact ⟨_, o', f1, f2, xEO_set hE (Int.le_refl _) (Int.le_refl _)⟩
    · rw [if_neg hl] at h; cases h
theorem xC0_sound {ρ : Nat → Int32} {b : Nat} {env : xEv} {y : Nat} {k : Nat → xEv → xRes} {o : List xOut} (h : xC0 env y k = some o) (h4 : y % 8 = 4) (hE : xEO ρ env) : ∃ (y' : Nat) (e' : xEv) (o' : List xOut), k y' e' = some o' ∧ (∀ z ∈ o', z ∈ o) ∧ xEO ρ e' ∧ ∀ ad : Nat → Nat, xg ρ b ad y' = xg ρ b ad y := by
  unfold xC0 at h
  cases h7 : Nat.beq (y / 8) 7 with
  | true => rw [h7] at h; cases h
  | false =>
    rw [h7] at h
    dsimp only [cond] at h
    obtain ⟨e', o', f1, f2, f3⟩ := xConc_sound h hE
    rw [xF_eq] at f1
    refine ⟨_, e', o', f1, f2, f3, fun ad => ?_⟩
    have hne : ¬ y / 8 = 7 := fun q => by rw [q] at h7; cases h7
    rw [xg0 (xCI_tag _), xg4 h4, show xz ρ (y / 8) = (ρ (y / 8)).toInt from by unfold xz; rw [if_neg hne], xCI_eq]
/-! what holds between two instructions -/
def xAg (ad0 : Nat → Nat) (n0 : Nat) (ad : Nat → Nat) (Wd : List Nat) : Prop := n0 ≤ Wd.length ∧ (∀ i, i < n0 → ad i = ad0 i) ∧ (Wd.length = n0 → ad = ad0)
def xInv (ρ : Nat → Int32) (b : Nat) (cA : Nat → ClassId) (D : va_G) (A : Nat → Prop) (H0 : Heap) (nL : Nat) (ad0 : Nat → Nat) (n0 : Nat) (ad : Nat → Nat) (H : Heap) (locs : List Loc) (ls : Array Slot) (L Wd : List Nat) (env : xEv) : Prop :=
  (L.length = nL ∧ lv_has ls nL (xLl (xg ρ b ad) L)) ∧ (va_P D vwCl (xWs ρ b cA ad Wd) H ∧ va_D A (xWs ρ b cA ad Wd) ∧ va_S A H0 H locs) ∧ xEO ρ env ∧ xAg ad0 n0 ad Wd
def xHK (p : Program) (l : Launch) (e : Env) (R : Room) (s : State) (m : MethodId) (args : Array Value) (below : List Frame) (meth : Method) (c : Code) (Q : State → Prop) (ρ : Nat → Int32) (b : Nat) (cA : Nat → ClassId) (D : va_G) (A : Nat → Prop) (H0 : Heap) (nL : Nat) (ad0 : Nat → Nat) (n0 : Nat) (K : xKt) (outs : List xOut) : Prop :=
  ∀ (pc : Nat) (L S Wd : List Nat) (cc cs : Nat) (env : xEv) (o : List xOut), K pc L S Wd cc cs env = some o → (∀ y ∈ o, y ∈ outs) → ∀ (ad : Nat → Nat) (H : Heap) (locs : List Loc) (ls : Array Slot), xInv ρ b cA D A H0 nL ad0 n0 ad H locs ls L Wd env → W p l e R s m args below meth c H locs cc cs Q (F0 m pc ls (S.map (xg ρ b ad)))
theorem xInv.env {ρ : Nat → Int32} {b : Nat} {cA : Nat → ClassId} {D : va_G} {A : Nat → Prop} {H0 : Heap} {nL : Nat} {ad0 : Nat → Nat} {n0 : Nat} {ad : Nat → Nat} {H : Heap} {locs : List Loc} {ls : Array Slot} {L Wd : List Nat} {env e' : xEv} (h : xInv ρ b cA D A H0 nL ad0 n0 ad H locs ls L Wd env) (he : xEO ρ e') : xInv ρ b cA D A H0 nL ad0 n0 ad H locs ls L Wd e' := ⟨h.1, h.2.1, he, h.2.2.2⟩
theorem xbif {c : Bool} {x : xRes} {o : List xOut} (h : (bif c then x else none) = some o) : c = true ∧ x = some o := by
  cases c with
  | true => exact ⟨rfl, h⟩
  | false => cases h
theorem xbeq {a b : Nat} (h : Nat.beq a b = true) : a = b := Nat.eq_of_beq_eq_true h
theorem xblt {a b : Nat} (h : Nat.blt a b = true) : a < b := Nat.le_of_ble_eq_true h
theorem xble {a b : Nat} (h : Nat.ble a b = true) : a ≤ b := Nat.le_of_ble_eq_true h
theorem xand {a b : Bool} (h : (a && b) = true) : a = true ∧ b = true := by cases a <;> cases b <;> first | exact ⟨rfl, rfl⟩ | cases h
end
section
section XOP
variable {p : Program} {l : Launch} {e : Env} {R : Room} {s : State} {m : MethodId} {args : Array Value} {below : List Frame} {meth : Method} {c : Code} {Q : State → Prop}
variable {ρ : Nat → Int32} {b : Nat} {cA : Nat → ClassId} {D : va_G} {A : Nat → Prop} {H0 : Heap} {nL n0 : Nat} {ad0 : Nat → Nat} {K : xKt} {outs o : List xOut}
variable {bb : ByteArray} {a1 a2 pc cc cs : Nat} {L S Wd : List Nat} {env : xEv} {ad : Nat → Nat} {H : Heap} {locs : List Loc} {ls : Array Slot}
/-! constants -/
theorem xs_pushI1 (hx : p.tables.exec = Jvm.exec) (hb : c.code = bb) (hK : xHK p l e R s m args below meth c Q ρ b cA D A H0 nL ad0 n0 K outs) (hI : xInv ρ b cA D A H0 nL ad0 n0 ad H locs ls L Wd env) (ho : ∀ y ∈ o, y ∈ outs) (h : xo_push1 K a1 a2 pc L S Wd cc cs env = some o)
    {n : Int} (hdg : decode bb pc = .ok (.iconst n, 1)) (h0 : a1 % 8 = 0) (hv : Int32.ofInt n = nI (a1 / 8)) : W p l e R s m args below meth c H locs cc cs Q (F0 m pc ls (S.map (xg ρ b ad))) := by
  unfold xo_push1 at h
  rw [xF_eq] at h
  have k := hK _ _ _ _ _ _ _ _ h ho _ _ _ _ hI
  rw [List.map_cons, xg0 h0] at k
  exact lv_iconst hx hb hdg hv k
theorem xs_pushL1 (hx : p.tables.exec = Jvm.exec) (hb : c.code = bb) (hK : xHK p l e R s m args below meth c Q ρ b cA D A H0 nL ad0 n0 K outs) (hI : xInv ρ b cA D A H0 nL ad0 n0 ad H locs ls L Wd env) (ho : ∀ y ∈ o, y ∈ outs) (h : xo_push1 K a1 a2 pc L S Wd cc cs env = some o)
    {n : Fin 2} (hdg : decode bb pc = .ok (.lconst n, 1)) (h0 : a1 % 8 = 1) (hv : Int64.ofNat (n : Nat) = lN (a1 / 8)) : W p l e R s m args below meth c H locs cc cs Q (F0 m pc ls (S.map (xg ρ b ad))) := by
  unfold xo_push1 at h
  rw [xF_eq] at h
  have k := hK _ _ _ _ _ _ _ _ h ho _ _ _ _ hI
  rw [List.map_cons, xg1 h0] at k
  exact lv_lconst hx hb hdg hv k
theorem xs_bipush (hx : p.tables.exec = Jvm.exec) (hb : c.code = bb) (hK : xHK p l e R s m args below meth c Q ρ b cA D A H0 nL ad0 n0 K outs) (hI : xInv ρ b cA D A H0 nL ad0 n0 ad H locs ls L Wd env) (ho : ∀ y ∈ o, y ∈ outs) (h : xo_push2 K a1 a2 pc L S Wd cc cs env = some o)
    {n : Int} (hdg : decode bb pc = .ok (.bipush n, 2)) (h0 : a1 % 8 = 0) (hv : (Int8.ofInt n).toInt32 = nI (a1 / 8)) : W p l e R s m args below meth c H locs cc cs Q (F0 m pc ls (S.map (xg ρ b ad))) := by
  unfold xo_push2 at h
  rw [xF_eq] at h
  have k := hK _ _ _ _ _ _ _ _ h ho _ _ _ _ hI
  rw [List.map_cons, xg0 h0] at k
  exact lv_bipush hx hb hdg hv k
theorem xs_ldc (hx : p.tables.exec = Jvm.exec) (hb : c.code = bb) (hK : xHK p l e R s m args below meth c Q ρ b cA D A H0 nL ad0 n0 K outs) (hI : xInv ρ b cA D A H0 nL ad0 n0 ad H locs ls L Wd env) (ho : ∀ y ∈ o, y ∈ outs) (h : xo_push2 K a1 a2 pc L S Wd cc cs env = some o)
    {own : String} {n : Nat} (hown : s.vm.findClass own = some m.cls) (hdg : decode bb pc = .ok (.ldc n, 2)) (h0 : a1 % 8 = 0) (hv : (Jvm.Cond.constant own n (nI (a1 / 8))).before args s = true) : W p l e R s m args below meth c H locs cc cs Q (F0 m pc ls (S.map (xg ρ b ad))) := by
  unfold xo_push2 at h
  rw [xF_eq] at h
  have k := hK _ _ _ _ _ _ _ _ h ho _ _ _ _ hI
  rw [List.map_cons, xg0 h0] at k
  exact lv_ldc hx hb hown hv hdg k
theorem xs_sipush (hx : p.tables.exec = Jvm.exec) (hb : c.code = bb) (hK : xHK p l e R s m args below meth c Q ρ b cA D A H0 nL ad0 n0 K outs) (hI : xInv ρ b cA D A H0 nL ad0 n0 ad H locs ls L Wd env) (ho : ∀ y ∈ o, y ∈ outs) (h : xo_push3 K a1 a2 pc L S Wd cc cs env = some o)
    {n : Int} (hdg : decode bb pc = .ok (.sipush n, 3)) (h0 : a1 % 8 = 0) (hv : (Int16.ofInt n).toInt32 = nI (a1 / 8)) : W p l e R s m args below meth c H locs cc cs Q (F0 m pc ls (S.map (xg ρ b ad))) := by
  unfold xo_push3 at h
  rw [xF_eq] at h
  have k := hK _ _ _ _ _ _ _ _ h ho _ _ _ _ hI
  rw [List.map_cons, xg0 h0] at k
  exact lv_sipush hx hb hdg hv k
theorem xs_ldcw (hx : p.tables.exec = Jvm.exec) (hb : c.code = bb) (hK : xHK p l e R s m args below meth c Q ρ b cA D A H0 nL ad0 n0 K outs) (hI : xInv ρ b cA D A H0 nL ad0 n0 ad H locs ls L Wd env) (ho : ∀ y ∈ o, y ∈ outs) (h : xo_push3 K a1 a2 pc L S Wd cc cs env = some o)
    {own : String} {n : Nat} (hown : s.vm.findClass own = some m.cls) (hdg : decode bb pc = .ok (.ldc_w n, 3)) (h0 : a1 % 8 = 0) (hv : (Jvm.Cond.constant own n (nI (a1 / 8))).before args s = true) : W p l e R s m args below meth c H locs cc cs Q (F0 m pc ls (S.map (xg ρ b ad))) := by
  unfold xo_push3 at h
  rw [xF_eq] at h
  have k := hK _ _ _ _ _ _ _ _ h ho _ _ _ _ hI
  rw [List.map_cons, xg0 h0] at k
  exact lv_ldcw hx hb hown hv hdg k
theorem xs_ldc2 (hx : p.tables.exec = Jvm.exec) (hb : c.code = bb) (hK : xHK p l e R s m args below meth c Q ρ b cA D A H0 nL ad0 n0 K outs) (hI : xInv ρ b cA D A H0 nL ad0 n0 ad H locs ls L Wd env) (ho : ∀ y ∈ o, y ∈ outs) (h : xo_push3 K a1 a2 pc L S Wd cc cs env = some o)
    {own : String} {n : Nat} (hown : s.vm.findClass own = some m.cls) (hdg : decode bb pc = .ok (.ldc2_w n, 3)) (h0 : a1 % 8 = 1) (hv : (Jvm.Cond.constantLong own n (lN (a1 / 8))).before args s = true) : W p l e R s m args below meth c H locs cc cs Q (F0 m pc ls (S.map (xg ρ b ad))) := by
  unfold xo_push3 at h
  rw [xF_eq] at h
  have k := hK _ _ _ _ _ _ _ _ h ho _ _ _ _ hI
  rw [List.map_cons, xg1 h0] at k
  exact lv_ldc2 hx hb hown hv hdg k
/-! locals -/
theorem xi11 {v : Nat} (h : xIsI v = true) : v ≠ 11 := fun q => by rw [q] at h; cases h
theorem xl11 {v : Nat} (h : xIsL v = true) : v ≠ 11 ∧ v ≠ 0 := ⟨fun q => (by rw [q] at h; cases h), fun q => (by rw [q] at h; cases h)⟩
theorem xr11 {v : Nat} (h : xIsR v = true) : v ≠ 11 ∧ v ≠ 0 := ⟨fun q => (by rw [q] at h; cases h), fun q => (by rw [q] at h; cases h)⟩
theorem xs_iload1 (hx : p.tables.exec = Jvm.exec) (hb : c.code = bb) (hK : xHK p l e R s m args below meth c Q ρ b cA D A H0 nL ad0 n0 K outs) (hI : xInv ρ b cA D A H0 nL ad0 n0 ad H locs ls L Wd env) (ho : ∀ y ∈ o, y ∈ outs) (h : xo_iload1 K a1 a2 pc L S Wd cc cs env = some o)
    {n : Fin 4} (hdg : decode bb pc = .ok (.iload_n n, 1)) (hn : (n : Nat) = a1) : W p l e R s m args below meth c H locs cc cs Q (F0 m pc ls (S.map (xg ρ b ad))) := by
  unfold xo_iload1 at h
  rw [xF_eq] at h
  obtain ⟨hc, h⟩ := xbif h
  obtain ⟨h1, h2⟩ := xand hc
  rw [xF_eq] at h
  have k := hK _ _ _ _ _ _ _ _ h ho _ _ _ _ hI
  rw [List.map_cons, xgI h1] at k
  have hl := xlv_at hI.1.2 (xGet_lt (by rw [← xLen_eq]; exact xblt h2)) (xi11 h1)
  rw [xgI h1] at hl
  exact lv_iload_n hx hb hdg hn hl k
theorem xs_iload2 (hx : p.tables.exec = Jvm.exec) (hb : c.code = bb) (hK : xHK p l e R s m args below meth c Q ρ b cA D A H0 nL ad0 n0 K outs) (hI : xInv ρ b cA D A H0 nL ad0 n0 ad H locs ls L Wd env) (ho : ∀ y ∈ o, y ∈ outs) (h : xo_iload2 K a1 a2 pc L S Wd cc cs env = some o)
    (hdg : decode bb pc = .ok (.iload a1, 2)) : W p l e R s m args below meth c H locs cc cs Q (F0 m pc ls (S.map (xg ρ b ad))) := by
  unfold xo_iload2 at h
  rw [xF_eq] at h
  obtain ⟨hc, h⟩ := xbif h
  obtain ⟨h1, h2⟩ := xand hc
  rw [xF_eq] at h
  have k := hK _ _ _ _ _ _ _ _ h ho _ _ _ _ hI
  rw [List.map_cons, xgI h1] at k
  have hl := xlv_at hI.1.2 (xGet_lt (by rw [← xLen_eq]; exact xblt h2)) (xi11 h1)
  rw [xgI h1] at hl
  exact lv_iload hx hb hdg hl k
theorem xs_lload1 (hx : p.tables.exec = Jvm.exec) (hb : c.code = bb) (hK : xHK p l e R s m args below meth c Q ρ b cA D A H0 nL ad0 n0 K outs) (hI : xInv ρ b cA D A H0 nL ad0 n0 ad H locs ls L Wd env) (ho : ∀ y ∈ o, y ∈ outs) (h : xo_lload1 K a1 a2 pc L S Wd cc cs env = some o)
    {n : Fin 4} (hdg : decode bb pc = .ok (.lload_n n, 1)) (hn : (n : Nat) = a1) : W p l e R s m args below meth c H locs cc cs Q (F0 m pc ls (S.map (xg ρ b ad))) := by
  unfold xo_lload1 at h
  rw [xF_eq] at h
  obtain ⟨h1, h⟩ := xbif h
  rw [xF_eq] at h
  have k := hK _ _ _ _ _ _ _ _ h ho _ _ _ _ hI
  rw [List.map_cons, xgL h1] at k
  have hl := xlv_at hI.1.2 (xGet_some rfl (xl11 h1).2) (xl11 h1).1
  rw [xgL h1] at hl
  exact lv_lload_n hx hb hdg hn hl k
theorem xs_lload2 (hx : p.tables.exec = Jvm.exec) (hb : c.code = bb) (hK : xHK p l e R s m args below meth c Q ρ b cA D A H0 nL ad0 n0 K outs) (hI : xInv ρ b cA D A H0 nL ad0 n0 ad H locs ls L Wd env) (ho : ∀ y ∈ o, y ∈ outs) (h : xo_lload2 K a1 a2 pc L S Wd cc cs env = some o)
    (hdg : decode bb pc = .ok (.lload a1, 2)) : W p l e R s m args below meth c H locs cc cs Q (F0 m pc ls (S.map (xg ρ b ad))) := by
  unfold xo_lload2 at h
  rw [xF_eq] at h
  obtain ⟨h1, h⟩ := xbif h
  rw [xF_eq] at h
  have k := hK _ _ _ _ _ _ _ _ h ho _ _ _ _ hI
  rw [List.map_cons, xgL h1] at k
  have hl := xlv_at hI.1.2 (xGet_some rfl (xl11 h1).2) (xl11 h1).1
  rw [xgL h1] at hl
  exact lv_lload hx hb hdg hl k
theorem xs_aload1 (hx : p.tables.exec = Jvm.exec) (hb : c.code = bb) (hK : xHK p l e R s m args below meth c Q ρ b cA D A H0 nL ad0 n0 K outs) (hI : xInv ρ b cA D A H0 nL ad0 n0 ad H locs ls L Wd env) (ho : ∀ y ∈ o, y ∈ outs) (h : xo_aload1 K a1 a2 pc L S Wd cc cs env = some o)
    {n : Fin 4} (hdg : decode bb pc = .ok (.aload_n n, 1)) (hn : (n : Nat) = a1) : W p l e R s m args below meth c H locs cc cs Q (F0 m pc ls (S.map (xg ρ b ad))) := by
  unfold xo_aload1 at h
  rw [xF_eq] at h
  obtain ⟨h1, h⟩ := xbif h
  rw [xF_eq] at h
  have k := hK _ _ _ _ _ _ _ _ h ho _ _ _ _ hI
  have hl := xlv_at hI.1.2 (xGet_some rfl (xr11 h1).2) (xr11 h1).1
  obtain ⟨a, ha⟩ := xgR (ρ := ρ) (b := b) (ad := ad) h1
  rw [List.map_cons, ha] at k
  rw [ha] at hl
  exact lv_aload_n hx hb hdg hn hl k
theorem xs_aload2 (hx : p.tables.exec = Jvm.exec) (hb : c.code = bb) (hK : xHK p l e R s m args below meth c Q ρ b cA D A H0 nL ad0 n0 K outs) (hI : xInv ρ b cA D A H0 nL ad0 n0 ad H locs ls L Wd env) (ho : ∀ y ∈ o, y ∈ outs) (h : xo_aload2 K a1 a2 pc L S Wd cc cs env = some o)
    (hdg : decode bb pc = .ok (.aload a1, 2)) : W p l e R s m args below meth c H locs cc cs Q (F0 m pc ls (S.map (xg ρ b ad))) := by
  unfold xo_aload2 at h
  rw [xF_eq] at h
  obtain ⟨h1, h⟩ := xbif h
  rw [xF_eq] at h
  have k := hK _ _ _ _ _ _ _ _ h ho _ _ _ _ hI
  have hl := xlv_at hI.1.2 (xGet_some rfl (xr11 h1).2) (xr11 h1).1
  obtain ⟨a, ha⟩ := xgR (ρ := ρ) (b := b) (ad := ad) h1
  rw [List.map_cons, ha] at k
  rw [ha] at hl
  exact lv_aload hx hb hdg hl k
/-- behind a store of one slot -/
theorem xInv.st1 {L1 : List Nat} {i v : Nat} {ls' : Array Slot} (hI : xInv ρ b cA D A H0 nL ad0 n0 ad H locs ls L Wd env) (hL : ∀ k : List Nat → xRes, xStL L i v k = k L1)
    (hl : lv_has ls' nL ((i, xg ρ b ad v) :: (xLl (xg ρ b ad) L).filter (fun q => !(q.1 == i) && !(q.1 + 1 == i && q.2.category == 2)))) : xInv ρ b cA D A H0 nL ad0 n0 ad H locs ls' L1 Wd env := by
  obtain ⟨h1, h2⟩ := xlv_st1 (g := xg ρ b ad) (L := L) (i := i) (v := v) (L' := L1) (xg_cat ρ b ad) (hL _)
  exact ⟨⟨h1.trans hI.1.1, xlv_mono hl h2⟩, hI.2⟩
theorem xInv.st2 {L1 : List Nat} {i v : Nat} {ls' : Array Slot} (hI : xInv ρ b cA D A H0 nL ad0 n0 ad H locs ls L Wd env) (hL : ∀ k : List Nat → xRes, xStL L i v k = k L1)
    (hl : lv_has ls' nL ((i, xg ρ b ad v) :: (xLl (xg ρ b ad) L).filter (fun q => !(q.1 == i) && (!(q.1 == i + 1) && !(q.1 + 1 == i && q.2.category == 2))))) : xInv ρ b cA D A H0 nL ad0 n0 ad H locs ls' (L1.set (i + 1) 11) Wd env := by
  obtain ⟨h1, h2⟩ := xlv_st1 (g := xg ρ b ad) (L := L) (i := i) (v := v) (L' := L1) (xg_cat ρ b ad) (hL _)
  refine ⟨⟨by rw [List.length_set]; exact h1.trans hI.1.1, xlv_mono hl fun q hq => ?_⟩, hI.2⟩
  obtain ⟨cq, e1, e2, e3⟩ := xLl_mem.mp hq
  by_cases hj : i + 1 = q.1
  · have hlt := (List.getElem?_eq_some_iff.mp e1).1
    rw [List.length_set] at hlt
    rw [← hj, List.getElem?_set_self (by rw [hj]; exact hlt)] at e1
    cases e1
    exact absurd rfl e2
  · rw [List.getElem?_set_ne hj] at e1
    rcases List.mem_cons.mp (h2 q (xLl_mem.mpr ⟨cq, e1, e2, e3⟩)) with hq2 | hq2
    · rw [hq2]; exact List.mem_cons_self
    · obtain ⟨f1, f2⟩ := List.mem_filter.mp hq2
      obtain ⟨g1, g2⟩ := xand f2
      refine List.mem_cons_of_mem _ (List.mem_filter.mpr ⟨f1, ?_⟩)
      have hb1 : (q.1 == i + 1) = false := by simpa using Ne.symm hj
      rw [hb1, g1, g2]
      rfl
theorem xs_istore1 (hx : p.tables.exec = Jvm.exec) (hb : c.code = bb) (hK : xHK p l e R s m args below meth c Q ρ b cA D A H0 nL ad0 n0 K outs) (hI : xInv ρ b cA D A H0 nL ad0 n0 ad H locs ls L Wd env) (ho : ∀ y ∈ o, y ∈ outs) (h : xo_istore1 K a1 a2 pc L S Wd cc cs env = some o)
    {n : Fin 4} (hdg : decode bb pc = .ok (.istore_n n, 1)) (hn : (n : Nat) = a1) : W p l e R s m args below meth c H locs cc cs Q (F0 m pc ls (S.map (xg ρ b ad))) := by
  unfold xo_istore1 at h
  cases S with
  | nil => cases h
  | cons v r =>
    obtain ⟨hc, h⟩ := xbif h
    obtain ⟨h1, h2⟩ := xand hc
    obtain ⟨L1, hL⟩ := xStL_ex L a1 v
    rw [hL, xF_eq] at h
    rw [List.map_cons, xgI h1]
    refine lv_istore_n hx hb hdg hn hI.1.2 (by rw [← hI.1.1, ← xLen_eq]; exact xblt h2) rfl fun ls' hl => ?_
    rw [← xgI (b := b) (ad := ad) h1] at hl
    exact hK _ _ _ _ _ _ _ _ h ho _ _ _ _ (hI.st1 hL hl)
theorem xs_istore2 (hx : p.tables.exec = Jvm.exec) (hb : c.code = bb) (hK : xHK p l e R s m args below meth c Q ρ b cA D A H0 nL ad0 n0 K outs) (hI : xInv ρ b cA D A H0 nL ad0 n0 ad H locs ls L Wd env) (ho : ∀ y ∈ o, y ∈ outs) (h : xo_istore2 K a1 a2 pc L S Wd cc cs env = some o)
    (hdg : decode bb pc = .ok (.istore a1, 2)) : W p l e R s m args below meth c H locs cc cs Q (F0 m pc ls (S.map (xg ρ b ad))) := by
  unfold xo_istore2 at h
  cases S with
  | nil => cases h
  | cons v r =>
    obtain ⟨hc, h⟩ := xbif h
    obtain ⟨h1, h2⟩ := xand hc
    obtain ⟨L1, hL⟩ := xStL_ex L a1 v
    rw [hL, xF_eq] at h
    rw [List.map_cons, xgI h1]
    refine lv_istore hx hb hdg hI.1.2 (by rw [← hI.1.1, ← xLen_eq]; exact xblt h2) rfl fun ls' hl => ?_
    rw [← xgI (b := b) (ad := ad) h1] at hl
    exact hK _ _ _ _ _ _ _ _ h ho _ _ _ _ (hI.st1 hL hl)
theorem xs_astore1 (hx : p.tables.exec = Jvm.exec) (hb : c.code = bb) (hK : xHK p l e R s m args below meth c Q ρ b cA D A H0 nL ad0 n0 K outs) (hI : xInv ρ b cA D A H0 nL ad0 n0 ad H locs ls L Wd env) (ho : ∀ y ∈ o, y ∈ outs) (h : xo_astore1 K a1 a2 pc L S Wd cc cs env = some o)
    {n : Fin 4} (hdg : decode bb pc = .ok (.astore_n n, 1)) (hn : (n : Nat) = a1) : W p l e R s m args below meth c H locs cc cs Q (F0 m pc ls (S.map (xg ρ b ad))) := by
  unfold xo_astore1 at h
  cases S with
  | nil => cases h
  | cons v r =>
    obtain ⟨hc, h⟩ := xbif h
    obtain ⟨h1, h2⟩ := xand hc
    obtain ⟨L1, hL⟩ := xStL_ex L a1 v
    rw [hL, xF_eq] at h
    obtain ⟨a, ha⟩ := xgR (ρ := ρ) (b := b) (ad := ad) h1
    rw [List.map_cons, ha]
    refine lv_astore_n hx hb hdg hn hI.1.2 (by rw [← hI.1.1, ← xLen_eq]; exact xblt h2) rfl fun ls' hl => ?_
    rw [← ha] at hl
    exact hK _ _ _ _ _ _ _ _ h ho _ _ _ _ (hI.st1 hL hl)
theorem xs_astore2 (hx : p.tables.exec = Jvm.exec) (hb : c.code = bb) (hK : xHK p l e R s m args below meth c Q ρ b cA D A H0 nL ad0 n0 K outs) (hI : xInv ρ b cA D A H0 nL ad0 n0 ad H locs ls L Wd env) (ho : ∀ y ∈ o, y ∈ outs) (h : xo_astore2 K a1 a2 pc L S Wd cc cs env = some o)
    (hdg : decode bb pc = .ok (.astore a1, 2)) : W p l e R s m args below meth c H locs cc cs Q (F0 m pc ls (S.map (xg ρ b ad))) := by
  unfold xo_astore2 at h
  cases S with
  | nil => cases h
  | cons v r =>
    obtain ⟨hc, h⟩ := xbif h
    obtain ⟨h1, h2⟩ := xand hc
    obtain ⟨L1, hL⟩ := xStL_ex L a1 v
    rw [hL, xF_eq] at h
    obtain ⟨a, ha⟩ := xgR (ρ := ρ) (b := b) (ad := ad) h1
    rw [List.map_cons, ha]
    refine lv_astore hx hb hdg hI.1.2 (by rw [← hI.1.1, ← xLen_eq]; exact xblt h2) rfl fun ls' hl => ?_
    rw [← ha] at hl
    exact hK _ _ _ _ _ _ _ _ h ho _ _ _ _ (hI.st1 hL hl)
theorem xs_lstore1 (hx : p.tables.exec = Jvm.exec) (hb : c.code = bb) (hK : xHK p l e R s m args below meth c Q ρ b cA D A H0 nL ad0 n0 K outs) (hI : xInv ρ b cA D A H0 nL ad0 n0 ad H locs ls L Wd env) (ho : ∀ y ∈ o, y ∈ outs) (h : xo_lstore1 K a1 a2 pc L S Wd cc cs env = some o)
    {n : Fin 4} (hdg : decode bb pc = .ok (.lstore_n n, 1)) (hn : (n : Nat) = a1) : W p l e R s m args below meth c H locs cc cs Q (F0 m pc ls (S.map (xg ρ b ad))) := by
  unfold xo_lstore1 at h
  cases S with
  | nil => cases h
  | cons v r =>
    obtain ⟨hc, h⟩ := xbif h
    obtain ⟨h1, h2⟩ := xand hc
    obtain ⟨L1, hL⟩ := xStL_ex L a1 v
    rw [hL, xSet_eq, xF_eq] at h
    rw [List.map_cons, xgL h1]
    refine lv_lstore_n hx hb hdg hn hI.1.2 (by rw [← hI.1.1, ← xLen_eq]; exact xblt h2) rfl fun ls' hl => ?_
    rw [← xgL (b := b) (ad := ad) h1] at hl
    exact hK _ _ _ _ _ _ _ _ h ho _ _ _ _ (hI.st2 hL hl)
theorem xs_lstore2 (hx : p.tables.exec = Jvm.exec) (hb : c.code = bb) (hK : xHK p l e R s m args below meth c Q ρ b cA D A H0 nL ad0 n0 K outs) (hI : xInv ρ b cA D A H0 nL ad0 n0 ad H locs ls L Wd env) (ho : ∀ y ∈ o, y ∈ outs) (h : xo_lstore2 K a1 a2 pc L S Wd cc cs env = some o)
    (hdg : decode bb pc = .ok (.lstore a1, 2)) : W p l e R s m args below meth c H locs cc cs Q (F0 m pc ls (S.map (xg ρ b ad))) := by
  unfold xo_lstore2 at h
  cases S with
  | nil => cases h
  | cons v r =>
    obtain ⟨hc, h⟩ := xbif h
    obtain ⟨h1, h2⟩ := xand hc
    obtain ⟨L1, hL⟩ := xStL_ex L a1 v
    rw [hL, xSet_eq, xF_eq] at h
    rw [List.map_cons, xgL h1]
    refine lv_lstore hx hb hdg hI.1.2 (by rw [← hI.1.1, ← xLen_eq]; exact xblt h2) rfl fun ls' hl => ?_
    rw [← xgL (b := b) (ad := ad) h1] at hl
    exact hK _ _ _ _ _ _ _ _ h ho _ _ _ _ (hI.st2 hL hl)
theorem xs_iinc (hx : p.tables.exec = Jvm.exec) (hb : c.code = bb) (hK : xHK p l e R s m args below meth c Q ρ b cA D A H0 nL ad0 n0 K outs) (hI : xInv ρ b cA D A H0 nL ad0 n0 ad H locs ls L Wd env) (ho : ∀ y ∈ o, y ∈ outs) (h : xo_iinc K a1 a2 pc L S Wd cc cs env = some o)
    {n : Int} (hdg : decode bb pc = .ok (.iinc a1 n, 3)) (hn : Int32.ofInt n = nI a2) : W p l e R s m args below meth c H locs cc cs Q (F0 m pc ls (S.map (xg ρ b ad))) := by
  unfold xo_iinc at h
  rw [xF_eq] at h
  obtain ⟨hc, h⟩ := xbif h
  obtain ⟨h1, h2⟩ := xand hc
  have h1 := xbeq h1
  obtain ⟨L1, hL⟩ := xStL_ex L a1 ((xGet L a1 / 8 + a2) % 4294967296 * 8)
  rw [xF_eq, hL, xF_eq] at h
  have hlt : a1 < L.length := by rw [← xLen_eq]; exact xblt h2
  obtain ⟨kk, hkk⟩ := List.getElem?_of_mem (xLl_mem.mpr ⟨xGet L a1, xGet_lt hlt, fun q => (by rw [q] at h1; cases h1), rfl⟩ : (a1, xg ρ b ad (xGet L a1)) ∈ xLl (xg ρ b ad) L)
  rw [xg0 h1] at hkk
  refine lv_iinc (v := nI ((xGet L a1 / 8 + a2) % 4294967296)) hx hb hdg hI.1.2 hkk (by rw [hn, xnI_mod, nI_add]) (by rw [← hI.1.1]; exact hlt) rfl fun ls' hl => ?_
  have e : xg ρ b ad ((xGet L a1 / 8 + a2) % 4294967296 * 8) = .int (nI ((xGet L a1 / 8 + a2) % 4294967296)) := by
    rw [xg0 (Nat.mul_mod_left _ _), Nat.mul_div_cancel _ (by decide)]
  rw [← e] at hl
  exact hK _ _ _ _ _ _ _ _ h ho _ _ _ _ (hI.st1 hL hl)
end XOP
end
section
section XOQ
variable {p : Program} {l : Launch} {e : Env} {R : Room} {s : State} {m : MethodId} {args : Array Value} {below : List Frame} {meth : Method} {c : Code} {Q : State → Prop}
variable {ρ : Nat → Int32} {b : Nat} {cA : Nat → ClassId} {D : va_G} {A : Nat → Prop} {H0 : Heap} {nL n0 : Nat} {ad0 : Nat → Nat} {K : xKt} {outs o : List xOut}
variable {bb : ByteArray} {a1 a2 pc cc cs : Nat} {L S Wd : List Nat} {env : xEv} {ad : Nat → Nat} {H : Heap} {locs : List Loc} {ls : Array Slot}
theorem xg8 (ρ : Nat → Int32) (b : Nat) (ad : Nat → Nat) (u : Nat) : xg ρ b ad (u * 8) = .int (nI u) := by rw [xg0 (Nat.mul_mod_left _ _), Nat.mul_div_cancel _ (by decide)]
theorem xg81 (ρ : Nat → Int32) (b : Nat) (ad : Nat → Nat) (u : Nat) : xg ρ b ad (u * 8 + 1) = .long (lN u) := by rw [xg1 (by omega), show (u * 8 + 1) / 8 = u by omega]
/-- two ints: known, or one of them an unknown that is taken apart -/
theorem xI2_sound {f : Nat → Nat → Nat} {k : List Nat → xRes} {re : List Nat → xEv → xRes} (h : xI2 S env f k re = some o) (hE : xEO ρ env) : (∃ y x r, S = y :: x :: r ∧ x % 8 = 0 ∧ y % 8 = 0 ∧ k (f (x / 8) (y / 8) * 8 :: r) = some o) ∨ ∃ S' e' o', re S' e' = some o' ∧ (∀ z ∈ o', z ∈ o) ∧ xEO ρ e' ∧ S'.map (xg ρ b ad) = S.map (xg ρ b ad) := by
  unfold xI2 at h
  match S, h with
  | y :: x :: r, h =>
    dsimp only at h
    cases hc : (Nat.beq (x % 8) 0 && Nat.beq (y % 8) 0) with
    | true =>
      rw [hc] at h
      dsimp only [cond] at h
      rw [xF_eq] at h
      exact Or.inl ⟨y, x, r, rfl, xbeq (xand hc).1, xbeq (xand hc).2, h⟩
    | false =>
      rw [hc] at h
      dsimp only [cond] at h
      cases hy : Nat.beq (y % 8) 4 with
      | true =>
        rw [hy] at h
        dsimp only at h
        obtain ⟨y', e', o', f1, f2, f3, f4⟩ := xC0_sound (b := b) h (xbeq hy) hE
        exact Or.inr ⟨_, e', o', f1, f2, f3, by simp only [List.map_cons, f4]⟩
      | false =>
        rw [hy] at h
        dsimp only at h
        obtain ⟨hx4, h⟩ := xbif h
        obtain ⟨x', e', o', f1, f2, f3, f4⟩ := xC0_sound (b := b) h (xbeq hx4) hE
        exact Or.inr ⟨_, e', o', f1, f2, f3, by simp only [List.map_cons, f4]⟩
  | [], h => cases h
  | [_], h => cases h
theorem xs_iadd (hx : p.tables.exec = Jvm.exec) (hb : c.code = bb) (hK : xHK p l e R s m args below meth c Q ρ b cA D A H0 nL ad0 n0 K outs) (hI : xInv ρ b cA D A H0 nL ad0 n0 ad H locs ls L Wd env) (ho : ∀ y ∈ o, y ∈ outs) (h : xo_iadd K a1 a2 pc L S Wd cc cs env = some o) (hdg : decode bb pc = .ok (.iadd, 1)) : W p l e R s m args below meth c H locs cc cs Q (F0 m pc ls (S.map (xg ρ b ad))) := by
  unfold xo_iadd at h
  rcases xI2_sound (b := b) (ad := ad) h hI.2.2.1 with ⟨y, x, r, rfl, h1, h2, h⟩ | ⟨S', e', o', f1, f2, f3, f4⟩
  · rw [xF_eq] at h
    have k := hK _ _ _ _ _ _ _ _ h ho _ _ _ _ hI
    rw [List.map_cons, xg8, xnI_mod, ← nI_add] at k
    rw [List.map_cons, List.map_cons, xg0 h1, xg0 h2]
    exact lv_iadd hx hb hdg k
  · rw [← f4]; exact hK _ _ _ _ _ _ _ _ f1 (fun z hz => ho z (f2 z hz)) _ _ _ _ (hI.env f3)
theorem xs_isub (hx : p.tables.exec = Jvm.exec) (hb : c.code = bb) (hK : xHK p l e R s m args below meth c Q ρ b cA D A H0 nL ad0 n0 K outs) (hI : xInv ρ b cA D A H0 nL ad0 n0 ad H locs ls L Wd env) (ho : ∀ y ∈ o, y ∈ outs) (h : xo_isub K a1 a2 pc L S Wd cc cs env = some o) (hdg : decode bb pc = .ok (.isub, 1)) : W p l e R s m args below meth c H locs cc cs Q (F0 m pc ls (S.map (xg ρ b ad))) := by
  unfold xo_isub at h
  rcases xI2_sound (b := b) (ad := ad) h hI.2.2.1 with ⟨y, x, r, rfl, h1, h2, h⟩ | ⟨S', e', o', f1, f2, f3, f4⟩
  · rw [xF_eq] at h
    have k := hK _ _ _ _ _ _ _ _ h ho _ _ _ _ hI
    rw [List.map_cons, xg8, xsub_eq] at k
    rw [List.map_cons, List.map_cons, xg0 h1, xg0 h2]
    exact lv_isub hx hb hdg k
  · rw [← f4]; exact hK _ _ _ _ _ _ _ _ f1 (fun z hz => ho z (f2 z hz)) _ _ _ _ (hI.env f3)
theorem xs_imul (hx : p.tables.exec = Jvm.exec) (hb : c.code = bb) (hK : xHK p l e R s m args below meth c Q ρ b cA D A H0 nL ad0 n0 K outs) (hI : xInv ρ b cA D A H0 nL ad0 n0 ad H locs ls L Wd env) (ho : ∀ y ∈ o, y ∈ outs) (h : xo_imul K a1 a2 pc L S Wd cc cs env = some o) (hdg : decode bb pc = .ok (.imul, 1)) : W p l e R s m args below meth c H locs cc cs Q (F0 m pc ls (S.map (xg ρ b ad))) := by
  unfold xo_imul at h
  rcases xI2_sound (b := b) (ad := ad) h hI.2.2.1 with ⟨y, x, r, rfl, h1, h2, h⟩ | ⟨S', e', o', f1, f2, f3, f4⟩
  · rw [xF_eq] at h
    have k := hK _ _ _ _ _ _ _ _ h ho _ _ _ _ hI
    rw [List.map_cons, xg8, xnI_mod, ← pk_mul] at k
    rw [List.map_cons, List.map_cons, xg0 h1, xg0 h2]
    exact lv_imul hx hb hdg k
  · rw [← f4]; exact hK _ _ _ _ _ _ _ _ f1 (fun z hz => ho z (f2 z hz)) _ _ _ _ (hI.env f3)
theorem xs_idiv (hx : p.tables.exec = Jvm.exec) (hb : c.code = bb) (hK : xHK p l e R s m args below meth c Q ρ b cA D A H0 nL ad0 n0 K outs) (hI : xInv ρ b cA D A H0 nL ad0 n0 ad H locs ls L Wd env) (ho : ∀ y ∈ o, y ∈ outs) (h : xo_idiv K a1 a2 pc L S Wd cc cs env = some o) (hdg : decode bb pc = .ok (.idiv, 1)) : W p l e R s m args below meth c H locs cc cs Q (F0 m pc ls (S.map (xg ρ b ad))) := by
  unfold xo_idiv at h
  rcases xI2_sound (b := b) (ad := ad) h hI.2.2.1 with ⟨y, x, r, rfl, h1, h2, h⟩ | ⟨S', e', o', f1, f2, f3, f4⟩
  · have hne : ¬ nI (y / 8) = 0 := fun q => by
      have q2 : (nI (y / 8)).toInt = 0 := by rw [q]; rfl
      rw [xs32_eq] at q2
      unfold xs32 xb32 at q2
      have h3 : y / 8 % 4294967296 = 0 := by omega
      rw [show xGet (y :: x :: r) 0 = y from rfl, h3] at h
      cases h
    have h4 : Nat.beq (xGet (y :: x :: r) 0 / 8 % 4294967296) 0 = false := by
      cases hq : Nat.beq (xGet (y :: x :: r) 0 / 8 % 4294967296) 0 with
      | false => rfl
      | true => rw [hq] at h; cases h
    rw [h4] at h
    dsimp only [cond] at h
    rw [xF_eq] at h
    have k := hK _ _ _ _ _ _ _ _ h ho _ _ _ _ hI
    rw [List.map_cons, xg8, xN32_eq] at k
    rw [List.map_cons, List.map_cons, xg0 h1, xg0 h2]
    exact lv_idiv hx hb hdg hne k
  · rw [← f4]; exact hK _ _ _ _ _ _ _ _ f1 (fun z hz => ho z (f2 z hz)) _ _ _ _ (hI.env f3)
theorem xs_irem (hx : p.tables.exec = Jvm.exec) (hb : c.code = bb) (hK : xHK p l e R s m args below meth c Q ρ b cA D A H0 nL ad0 n0 K outs) (hI : xInv ρ b cA D A H0 nL ad0 n0 ad H locs ls L Wd env) (ho : ∀ y ∈ o, y ∈ outs) (h : xo_irem K a1 a2 pc L S Wd cc cs env = some o) (hdg : decode bb pc = .ok (.irem, 1)) : W p l e R s m args below meth c H locs cc cs Q (F0 m pc ls (S.map (xg ρ b ad))) := by
  unfold xo_irem at h
  rcases xI2_sound (b := b) (ad := ad) h hI.2.2.1 with ⟨y, x, r, rfl, h1, h2, h⟩ | ⟨S', e', o', f1, f2, f3, f4⟩
  · have hne : ¬ nI (y / 8) = 0 := fun q => by
      have q2 : (nI (y / 8)).toInt = 0 := by rw [q]; rfl
      rw [xs32_eq] at q2
      unfold xs32 xb32 at q2
      have h3 : y / 8 % 4294967296 = 0 := by omega
      rw [show xGet (y :: x :: r) 0 = y from rfl, h3] at h
      cases h
    have h4 : Nat.beq (xGet (y :: x :: r) 0 / 8 % 4294967296) 0 = false := by
      cases hq : Nat.beq (xGet (y :: x :: r) 0 / 8 % 4294967296) 0 with
      | false => rfl
      | true => rw [hq] at h; cases h
    rw [h4] at h
    dsimp only [cond] at h
    rw [xF_eq] at h
    have k := hK _ _ _ _ _ _ _ _ h ho _ _ _ _ hI
    rw [List.map_cons, xg8, xN32_eq] at k
    rw [List.map_cons, List.map_cons, xg0 h1, xg0 h2]
    exact lv_irem hx hb hdg hne k
  · rw [← f4]; exact hK _ _ _ _ _ _ _ _ f1 (fun z hz => ho z (f2 z hz)) _ _ _ _ (hI.env f3)
theorem xs_ior (hx : p.tables.exec = Jvm.exec) (hb : c.code = bb) (hK : xHK p l e R s m args below meth c Q ρ b cA D A H0 nL ad0 n0 K outs) (hI : xInv ρ b cA D A H0 nL ad0 n0 ad H locs ls L Wd env) (ho : ∀ y ∈ o, y ∈ outs) (h : xo_ior K a1 a2 pc L S Wd cc cs env = some o) (hdg : decode bb pc = .ok (.ior, 1)) : W p l e R s m args below meth c H locs cc cs Q (F0 m pc ls (S.map (xg ρ b ad))) := by
  unfold xo_ior at h
  rcases xI2_sound (b := b) (ad := ad) h hI.2.2.1 with ⟨y, x, r, rfl, h1, h2, h⟩ | ⟨S', e', o', f1, f2, f3, f4⟩
  · rw [xF_eq] at h
    have k := hK _ _ _ _ _ _ _ _ h ho _ _ _ _ hI
    rw [List.map_cons, xg8, xN32_eq] at k
    rw [List.map_cons, List.map_cons, xg0 h1, xg0 h2]
    exact lv_ior hx hb hdg k
  · rw [← f4]; exact hK _ _ _ _ _ _ _ _ f1 (fun z hz => ho z (f2 z hz)) _ _ _ _ (hI.env f3)
theorem xs_ixor (hx : p.tables.exec = Jvm.exec) (hb : c.code = bb) (hK : xHK p l e R s m args below meth c Q ρ b cA D A H0 nL ad0 n0 K outs) (hI : xInv ρ b cA D A H0 nL ad0 n0 ad H locs ls L Wd env) (ho : ∀ y ∈ o, y ∈ outs) (h : xo_ixor K a1 a2 pc L S Wd cc cs env = some o) (hdg : decode bb pc = .ok (.ixor, 1)) : W p l e R s m args below meth c H locs cc cs Q (F0 m pc ls (S.map (xg ρ b ad))) := by
  unfold xo_ixor at h
  rcases xI2_sound (b := b) (ad := ad) h hI.2.2.1 with ⟨y, x, r, rfl, h1, h2, h⟩ | ⟨S', e', o', f1, f2, f3, f4⟩
  · rw [xF_eq] at h
    have k := hK _ _ _ _ _ _ _ _ h ho _ _ _ _ hI
    rw [List.map_cons, xg8, xN32_eq] at k
    rw [List.map_cons, List.map_cons, xg0 h1, xg0 h2]
    exact lv_ixor hx hb hdg k
  · rw [← f4]; exact hK _ _ _ _ _ _ _ _ f1 (fun z hz => ho z (f2 z hz)) _ _ _ _ (hI.env f3)
theorem xs_ishl (hx : p.tables.exec = Jvm.exec) (hb : c.code = bb) (hK : xHK p l e R s m args below meth c Q ρ b cA D A H0 nL ad0 n0 K outs) (hI : xInv ρ b cA D A H0 nL ad0 n0 ad H locs ls L Wd env) (ho : ∀ y ∈ o, y ∈ outs) (h : xo_ishl K a1 a2 pc L S Wd cc cs env = some o) (hdg : decode bb pc = .ok (.ishl, 1)) : W p l e R s m args below meth c H locs cc cs Q (F0 m pc ls (S.map (xg ρ b ad))) := by
  unfold xo_ishl at h
  rcases xI2_sound (b := b) (ad := ad) h hI.2.2.1 with ⟨y, x, r, rfl, h1, h2, h⟩ | ⟨S', e', o', f1, f2, f3, f4⟩
  · rw [xF_eq] at h
    have k := hK _ _ _ _ _ _ _ _ h ho _ _ _ _ hI
    rw [List.map_cons, xg8, xN32_eq] at k
    rw [List.map_cons, List.map_cons, xg0 h1, xg0 h2]
    exact lv_ishl hx hb hdg k
  · rw [← f4]; exact hK _ _ _ _ _ _ _ _ f1 (fun z hz => ho z (f2 z hz)) _ _ _ _ (hI.env f3)
theorem xs_ishr (hx : p.tables.exec = Jvm.exec) (hb : c.code = bb) (hK : xHK p l e R s m args below meth c Q ρ b cA D A H0 nL ad0 n0 K outs) (hI : xInv ρ b cA D A H0 nL ad0 n0 ad H locs ls L Wd env) (ho : ∀ y ∈ o, y ∈ outs) (h : xo_ishr K a1 a2 pc L S Wd cc cs env = some o) (hdg : decode bb pc = .ok (.ishr, 1)) : W p l e R s m args below meth c H locs cc cs Q (F0 m pc ls (S.map (xg ρ b ad))) := by
  unfold xo_ishr at h
  rcases xI2_sound (b := b) (ad := ad) h hI.2.2.1 with ⟨y, x, r, rfl, h1, h2, h⟩ | ⟨S', e', o', f1, f2, f3, f4⟩
  · rw [xF_eq] at h
    have k := hK _ _ _ _ _ _ _ _ h ho _ _ _ _ hI
    rw [List.map_cons, xg8, xN32_eq] at k
    rw [List.map_cons, List.map_cons, xg0 h1, xg0 h2]
    exact lv_ishr hx hb hdg k
  · rw [← f4]; exact hK _ _ _ _ _ _ _ _ f1 (fun z hz => ho z (f2 z hz)) _ _ _ _ (hI.env f3)
theorem xs_iushr (hx : p.tables.exec = Jvm.exec) (hb : c.code = bb) (hK : xHK p l e R s m args below meth c Q ρ b cA D A H0 nL ad0 n0 K outs) (hI : xInv ρ b cA D A H0 nL ad0 n0 ad H locs ls L Wd env) (ho : ∀ y ∈ o, y ∈ outs) (h : xo_iushr K a1 a2 pc L S Wd cc cs env = some o) (hdg : decode bb pc = .ok (.iushr, 1)) : W p l e R s m args below meth c H locs cc cs Q (F0 m pc ls (S.map (xg ρ b ad))) := by
  unfold xo_iushr at h
  rcases xI2_sound (b := b) (ad := ad) h hI.2.2.1 with ⟨y, x, r, rfl, h1, h2, h⟩ | ⟨S', e', o', f1, f2, f3, f4⟩
  · rw [xF_eq] at h
    have k := hK _ _ _ _ _ _ _ _ h ho _ _ _ _ hI
    rw [List.map_cons, xg8, xN32_eq] at k
    rw [List.map_cons, List.map_cons, xg0 h1, xg0 h2]
    exact lv_iushr hx hb hdg rfl k
  · rw [← f4]; exact hK _ _ _ _ _ _ _ _ f1 (fun z hz => ho z (f2 z hz)) _ _ _ _ (hI.env f3)
theorem xs_iand (hx : p.tables.exec = Jvm.exec) (hb : c.code = bb) (hK : xHK p l e R s m args below meth c Q ρ b cA D A H0 nL ad0 n0 K outs) (hI : xInv ρ b cA D A H0 nL ad0 n0 ad H locs ls L Wd env) (ho : ∀ y ∈ o, y ∈ outs) (h6 : ρ 6 = ρ 0 &&& 63) (h : xo_iand K a1 a2 pc L S Wd cc cs env = some o) (hdg : decode bb pc = .ok (.iand, 1)) : W p l e R s m args below meth c H locs cc cs Q (F0 m pc ls (S.map (xg ρ b ad))) := by
  unfold xo_iand at h
  match S, h with
  | y :: x :: r, h =>
    dsimp only at h
    cases hc : (Nat.beq y 504 && Nat.beq x 4) with
    | true =>
      rw [hc] at h
      dsimp only [cond] at h
      rw [xF_eq] at h
      have hy := xbeq (xand hc).1
      have hx4 := xbeq (xand hc).2
      subst hy; subst hx4
      have k := hK _ _ _ _ _ _ _ _ h ho _ _ _ _ hI
      rw [List.map_cons, xg4 (c := 52) rfl, show (52 : Nat) / 8 = 6 from rfl, h6] at k
      rw [List.map_cons, List.map_cons, xg0 (c := 504) rfl, xg4 (c := 4) rfl]
      exact lv_iand hx hb hdg k
    | false =>
      rw [hc] at h
      dsimp only [cond] at h
      rcases xI2_sound (b := b) (ad := ad) h hI.2.2.1 with ⟨y', x', r', hS, h1, h2, h⟩ | ⟨S', e', o', f1, f2, f3, f4⟩
      · cases hS
        rw [xF_eq] at h
        have k := hK _ _ _ _ _ _ _ _ h ho _ _ _ _ hI
        rw [List.map_cons, xg8, xN32_eq] at k
        rw [List.map_cons, List.map_cons, xg0 h1, xg0 h2]
        exact lv_iand hx hb hdg k
      · rw [← f4]; exact hK _ _ _ _ _ _ _ _ f1 (fun z hz => ho z (f2 z hz)) _ _ _ _ (hI.env f3)
  | [], h => cases h
  | [_], h => cases h
theorem xL2_sound {f : Nat → Nat → Nat} {k : List Nat → xRes} (h : xL2 S f k = some o) : ∃ y x r, S = y :: x :: r ∧ x % 8 = 1 ∧ y % 8 = 1 ∧ k ((f (x / 8) (y / 8) * 8 + 1) :: r) = some o := by
  unfold xL2 at h
  match S, h with
  | y :: x :: r, h =>
    dsimp only at h
    obtain ⟨hc, h⟩ := xbif h
    rw [xF_eq] at h
    exact ⟨y, x, r, rfl, xbeq (xand hc).1, xbeq (xand hc).2, h⟩
  | [], h => cases h
  | [_], h => cases h
theorem xLI_sound {f : Nat → Nat → Nat} {k : List Nat → xRes} (h : xLI S f k = some o) : ∃ y x r, S = y :: x :: r ∧ x % 8 = 1 ∧ y % 8 = 0 ∧ k ((f (x / 8) (y / 8) * 8 + 1) :: r) = some o := by
  unfold xLI at h
  match S, h with
  | y :: x :: r, h =>
    dsimp only at h
    obtain ⟨hc, h⟩ := xbif h
    rw [xF_eq] at h
    exact ⟨y, x, r, rfl, xbeq (xand hc).1, xbeq (xand hc).2, h⟩
  | [], h => cases h
  | [_], h => cases h
theorem xs_lsub (hx : p.tables.exec = Jvm.exec) (hb : c.code = bb) (hK : xHK p l e R s m args below meth c Q ρ b cA D A H0 nL ad0 n0 K outs) (hI : xInv ρ b cA D A H0 nL ad0 n0 ad H locs ls L Wd env) (ho : ∀ y ∈ o, y ∈ outs) (h : xo_lsub K a1 a2 pc L S Wd cc cs env = some o) (hdg : decode bb pc = .ok (.lsub, 1)) : W p l e R s m args below meth c H locs cc cs Q (F0 m pc ls (S.map (xg ρ b ad))) := by
  unfold xo_lsub at h
  obtain ⟨y, x, r, rfl, h1, h2, h⟩ := xL2_sound h
  rw [xF_eq] at h
  have k := hK _ _ _ _ _ _ _ _ h ho _ _ _ _ hI
  rw [List.map_cons, xg81, xN64_eq] at k
  rw [List.map_cons, List.map_cons, xg1 h1, xg1 h2]
  exact lv_lsub hx hb hdg k
theorem xs_lmul (hx : p.tables.exec = Jvm.exec) (hb : c.code = bb) (hK : xHK p l e R s m args below meth c Q ρ b cA D A H0 nL ad0 n0 K outs) (hI : xInv ρ b cA D A H0 nL ad0 n0 ad H locs ls L Wd env) (ho : ∀ y ∈ o, y ∈ outs) (h : xo_lmul K a1 a2 pc L S Wd cc cs env = some o) (hdg : decode bb pc = .ok (.lmul, 1)) : W p l e R s m args below meth c H locs cc cs Q (F0 m pc ls (S.map (xg ρ b ad))) := by
  unfold xo_lmul at h
  obtain ⟨y, x, r, rfl, h1, h2, h⟩ := xL2_sound h
  rw [xF_eq] at h
  have k := hK _ _ _ _ _ _ _ _ h ho _ _ _ _ hI
  rw [List.map_cons, xg81, xlN_mod, ← lN_mul] at k
  rw [List.map_cons, List.map_cons, xg1 h1, xg1 h2]
  exact lv_lmul hx hb hdg k
theorem xs_land (hx : p.tables.exec = Jvm.exec) (hb : c.code = bb) (hK : xHK p l e R s m args below meth c Q ρ b cA D A H0 nL ad0 n0 K outs) (hI : xInv ρ b cA D A H0 nL ad0 n0 ad H locs ls L Wd env) (ho : ∀ y ∈ o, y ∈ outs) (h : xo_land K a1 a2 pc L S Wd cc cs env = some o) (hdg : decode bb pc = .ok (.land, 1)) : W p l e R s m args below meth c H locs cc cs Q (F0 m pc ls (S.map (xg ρ b ad))) := by
  unfold xo_land at h
  obtain ⟨y, x, r, rfl, h1, h2, h⟩ := xL2_sound h
  rw [xF_eq] at h
  have k := hK _ _ _ _ _ _ _ _ h ho _ _ _ _ hI
  rw [List.map_cons, xg81, xN64_eq] at k
  rw [List.map_cons, List.map_cons, xg1 h1, xg1 h2]
  exact lv_land hx hb hdg k
theorem xs_lor (hx : p.tables.exec = Jvm.exec) (hb : c.code = bb) (hK : xHK p l e R s m args below meth c Q ρ b cA D A H0 nL ad0 n0 K outs) (hI : xInv ρ b cA D A H0 nL ad0 n0 ad H locs ls L Wd env) (ho : ∀ y ∈ o, y ∈ outs) (h : xo_lor K a1 a2 pc L S Wd cc cs env = some o) (hdg : decode bb pc = .ok (.lor, 1)) : W p l e R s m args below meth c H locs cc cs Q (F0 m pc ls (S.map (xg ρ b ad))) := by
  unfold xo_lor at h
  obtain ⟨y, x, r, rfl, h1, h2, h⟩ := xL2_sound h
  rw [xF_eq] at h
  have k := hK _ _ _ _ _ _ _ _ h ho _ _ _ _ hI
  rw [List.map_cons, xg81, xN64_eq] at k
  rw [List.map_cons, List.map_cons, xg1 h1, xg1 h2]
  exact lv_lor hx hb hdg k
theorem xs_lxor (hx : p.tables.exec = Jvm.exec) (hb : c.code = bb) (hK : xHK p l e R s m args below meth c Q ρ b cA D A H0 nL ad0 n0 K outs) (hI : xInv ρ b cA D A H0 nL ad0 n0 ad H locs ls L Wd env) (ho : ∀ y ∈ o, y ∈ outs) (h : xo_lxor K a1 a2 pc L S Wd cc cs env = some o) (hdg : decode bb pc = .ok (.lxor, 1)) : W p l e R s m args below meth c H locs cc cs Q (F0 m pc ls (S.map (xg ρ b ad))) := by
  unfold xo_lxor at h
  obtain ⟨y, x, r, rfl, h1, h2, h⟩ := xL2_sound h
  rw [xF_eq] at h
  have k := hK _ _ _ _ _ _ _ _ h ho _ _ _ _ hI
  rw [List.map_cons, xg81, xN64_eq] at k
  rw [List.map_cons, List.map_cons, xg1 h1, xg1 h2]
  exact lv_lxor hx hb hdg k
theorem xs_lshl (hx : p.tables.exec = Jvm.exec) (hb : c.code = bb) (hK : xHK p l e R s m args below meth c Q ρ b cA D A H0 nL ad0 n0 K outs) (hI : xInv ρ b cA D A H0 nL ad0 n0 ad H locs ls L Wd env) (ho : ∀ y ∈ o, y ∈ outs) (h : xo_lshl K a1 a2 pc L S Wd cc cs env = some o) (hdg : decode bb pc = .ok (.lshl, 1)) : W p l e R s m args below meth c H locs cc cs Q (F0 m pc ls (S.map (xg ρ b ad))) := by
  unfold xo_lshl at h
  obtain ⟨y, x, r, rfl, h1, h2, h⟩ := xLI_sound h
  rw [xF_eq] at h
  have k := hK _ _ _ _ _ _ _ _ h ho _ _ _ _ hI
  rw [List.map_cons, xg81, xN64_eq] at k
  rw [List.map_cons, List.map_cons, xg1 h1, xg0 h2]
  exact lv_lshl hx hb hdg rfl k
theorem xs_lshr (hx : p.tables.exec = Jvm.exec) (hb : c.code = bb) (hK : xHK p l e R s m args below meth c Q ρ b cA D A H0 nL ad0 n0 K outs) (hI : xInv ρ b cA D A H0 nL ad0 n0 ad H locs ls L Wd env) (ho : ∀ y ∈ o, y ∈ outs) (h : xo_lshr K a1 a2 pc L S Wd cc cs env = some o) (hdg : decode bb pc = .ok (.lshr, 1)) : W p l e R s m args below meth c H locs cc cs Q (F0 m pc ls (S.map (xg ρ b ad))) := by
  unfold xo_lshr at h
  obtain ⟨y, x, r, rfl, h1, h2, h⟩ := xLI_sound h
  rw [xF_eq] at h
  have k := hK _ _ _ _ _ _ _ _ h ho _ _ _ _ hI
  rw [List.map_cons, xg81, xN64_eq] at k
  rw [List.map_cons, List.map_cons, xg1 h1, xg0 h2]
  exact lv_lshr hx hb hdg rfl k
theorem xs_lushr (hx : p.tables.exec = Jvm.exec) (hb : c.code = bb) (hK : xHK p l e R s m args below meth c Q ρ b cA D A H0 nL ad0 n0 K outs) (hI : xInv ρ b cA D A H0 nL ad0 n0 ad H locs ls L Wd env) (ho : ∀ y ∈ o, y ∈ outs) (h : xo_lushr K a1 a2 pc L S Wd cc cs env = some o) (hdg : decode bb pc = .ok (.lushr, 1)) : W p l e R s m args below meth c H locs cc cs Q (F0 m pc ls (S.map (xg ρ b ad))) := by
  unfold xo_lushr at h
  obtain ⟨y, x, r, rfl, h1, h2, h⟩ := xLI_sound h
  rw [xF_eq] at h
  have k := hK _ _ _ _ _ _ _ _ h ho _ _ _ _ hI
  rw [List.map_cons, xg81, xN64_eq] at k
  rw [List.map_cons, List.map_cons, xg1 h1, xg0 h2]
  exact lv_lushr hx hb hdg rfl k
theorem xs_ladd (hx : p.tables.exec = Jvm.exec) (hb : c.code = bb) (hK : xHK p l e R s m args below meth c Q ρ b cA D A H0 nL ad0 n0 K outs) (hI : xInv ρ b cA D A H0 nL ad0 n0 ad H locs ls L Wd env) (ho : ∀ y ∈ o, y ∈ outs) (h : xo_ladd K a1 a2 pc L S Wd cc cs env = some o) (hdg : decode bb pc = .ok (.ladd, 1)) : W p l e R s m args below meth c H locs cc cs Q (F0 m pc ls (S.map (xg ρ b ad))) := by
  unfold xo_ladd at h
  match S, h with
  | y :: x :: r, h =>
    dsimp only at h
    cases hc : (Nat.beq y 9 && Nat.beq x 21) with
    | true =>
      rw [hc] at h
      dsimp only [cond] at h
      rw [xF_eq] at h
      have hy := xbeq (xand hc).1
      have hx4 := xbeq (xand hc).2
      subst hy; subst hx4
      have k := hK _ _ _ _ _ _ _ _ h ho _ _ _ _ hI
      rw [List.map_cons, xg7 (c := 23) rfl] at k
      rw [List.map_cons, List.map_cons, xg1 (c := 9) rfl, xg5 (c := 21) rfl]
      exact lv_ladd hx hb hdg k
    | false =>
      rw [hc] at h
      dsimp only [cond] at h
      obtain ⟨y', x', r', hS, h1, h2, h⟩ := xL2_sound h
      cases hS
      rw [xF_eq] at h
      have k := hK _ _ _ _ _ _ _ _ h ho _ _ _ _ hI
      rw [List.map_cons, xg81, xlN_mod, ← lN_add] at k
      rw [List.map_cons, List.map_cons, xg1 h1, xg1 h2]
      exact lv_ladd hx hb hdg k
  | [], h => cases h
  | [_], h => cases h
theorem xs_i2l (hx : p.tables.exec = Jvm.exec) (hb : c.code = bb) (hK : xHK p l e R s m args below meth c Q ρ b cA D A H0 nL ad0 n0 K outs) (hI : xInv ρ b cA D A H0 nL ad0 n0 ad H locs ls L Wd env) (ho : ∀ y ∈ o, y ∈ outs) (h : xo_i2l K a1 a2 pc L S Wd cc cs env = some o) (hdg : decode bb pc = .ok (.i2l, 1)) : W p l e R s m args below meth c H locs cc cs Q (F0 m pc ls (S.map (xg ρ b ad))) := by
  unfold xo_i2l at h
  match S, h with
  | x :: r, h =>
    dsimp only at h
    cases hc : Nat.beq (x % 8) 0 with
    | true =>
      rw [hc] at h
      dsimp only [cond] at h
      rw [xF_eq, xF_eq] at h
      have k := hK _ _ _ _ _ _ _ _ h ho _ _ _ _ hI
      rw [List.map_cons, xg81, xN64_eq] at k
      rw [List.map_cons, xg0 (xbeq hc)]
      exact lv_i2l hx hb hdg rfl k
    | false =>
      rw [hc] at h
      dsimp only [cond] at h
      obtain ⟨h4, h⟩ := xbif h
      have h4 := xbeq h4
      rw [xF_eq, xF_eq] at h
      have k := hK _ _ _ _ _ _ _ _ h ho _ _ _ _ hI
      rw [List.map_cons, xg5 (by omega), show (x + 1) / 8 = x / 8 by omega] at k
      rw [List.map_cons, xg4 h4]
      exact lv_i2l hx hb hdg rfl k
  | [], h => cases h
theorem xs_l2i (hx : p.tables.exec = Jvm.exec) (hb : c.code = bb) (hK : xHK p l e R s m args below meth c Q ρ b cA D A H0 nL ad0 n0 K outs) (hI : xInv ρ b cA D A H0 nL ad0 n0 ad H locs ls L Wd env) (ho : ∀ y ∈ o, y ∈ outs) (h : xo_l2i K a1 a2 pc L S Wd cc cs env = some o) (hdg : decode bb pc = .ok (.l2i, 1)) : W p l e R s m args below meth c H locs cc cs Q (F0 m pc ls (S.map (xg ρ b ad))) := by
  unfold xo_l2i at h
  match S, h with
  | x :: r, h =>
    dsimp only at h
    obtain ⟨h4, h⟩ := xbif h
    rw [xF_eq, xF_eq] at h
    have k := hK _ _ _ _ _ _ _ _ h ho _ _ _ _ hI
    rw [List.map_cons, xg8, xN32_eq] at k
    rw [List.map_cons, xg1 (xbeq h4)]
    exact lv_l2i hx hb hdg rfl k
  | [], h => cases h
theorem xs_ineg (hx : p.tables.exec = Jvm.exec) (hb : c.code = bb) (hK : xHK p l e R s m args below meth c Q ρ b cA D A H0 nL ad0 n0 K outs) (hI : xInv ρ b cA D A H0 nL ad0 n0 ad H locs ls L Wd env) (ho : ∀ y ∈ o, y ∈ outs) (h : xo_ineg K a1 a2 pc L S Wd cc cs env = some o) (hdg : decode bb pc = .ok (.ineg, 1)) : W p l e R s m args below meth c H locs cc cs Q (F0 m pc ls (S.map (xg ρ b ad))) := by
  unfold xo_ineg at h
  match S, h with
  | x :: r, h =>
    dsimp only at h
    obtain ⟨h4, h⟩ := xbif h
    rw [xF_eq, xF_eq] at h
    have k := hK _ _ _ _ _ _ _ _ h ho _ _ _ _ hI
    rw [List.map_cons, xg8, xN32_eq] at k
    rw [List.map_cons, xg0 (xbeq h4)]
    exact lv_ineg hx hb hdg k
  | [], h => cases h
/-! signs and branches -/
def xSgn (x y : Int) (sg : Nat) : Prop := (sg = 0 ∧ x < y) ∨ (sg = 1 ∧ x = y) ∨ (sg = 2 ∧ y < x)
theorem xSg_n (a b : Nat) (z : Int) : xSgn ((a : Int) - z) ((b : Int) - z) (xSg a b) := by
  unfold xSgn xSg
  cases h1 : Nat.blt a b with
  | true => have := xblt h1; exact Or.inl ⟨rfl, by omega⟩
  | false =>
    have n1 : ¬ a < b := fun q => by rw [show Nat.blt a b = true from Nat.ble_eq_true_of_le q] at h1; cases h1
    cases h2 : Nat.blt b a with
    | true => have := xblt h2; exact Or.inr (Or.inr ⟨rfl, by omega⟩)
    | false =>
      have n2 : ¬ b < a := fun q => by rw [show Nat.blt b a = true from Nat.ble_eq_true_of_le q] at h2; cases h2
      exact Or.inr (Or.inl ⟨rfl, by omega⟩)
theorem xSg_32 (x y : Nat) : xSgn (nI x).toInt (nI y).toInt (xSg (xb32 x) (xb32 y)) := by
  rw [xs32_eq, xs32_eq]
  exact xSg_n _ _ _
theorem xSg_64 (x y : Nat) : xSgn (lN x).toInt (lN y).toInt (xSg (xb64 x) (xb64 y)) := by
  rw [xs64_eq, xs64_eq]
  exact xSg_n _ _ _
theorem xRelI_sound {x y sy : Nat} {cv : Int} (h : xRelI x y = some (sy, cv)) : ∃ vx vy : Int32, (∀ ad : Nat → Nat, xg ρ b ad x = .int vx ∧ xg ρ b ad y = .int vy) ∧ vx.toInt - vy.toInt = xz ρ sy - cv := by
  unfold xRelI at h
  cases h7 : Nat.beq (x / 8) 7 with
  | true => rw [h7] at h; cases h
  | false =>
    have hne : ¬ x / 8 = 7 := fun q => by rw [q] at h7; cases h7
    rw [h7] at h
    dsimp only [cond] at h
    cases hc : (Nat.beq (x % 8) 4 && Nat.beq (y % 8) 0) with
    | true =>
      rw [hc] at h
      cases h
      refine ⟨ρ (x / 8), nI (y / 8), fun ad => ⟨xg4 (xbeq (xand hc).1), xg0 (xbeq (xand hc).2)⟩, ?_⟩
      rw [xs32_eq]
      unfold xz
      rw [if_neg hne]
    | false =>
      rw [hc] at h
      dsimp only at h
      cases hc2 : (Nat.beq x 28 && Nat.beq y 20) with
      | false => rw [hc2] at h; cases h
      | true =>
        rw [hc2] at h
        cases h
        have e1 := xbeq (xand hc2).1
        have e2 := xbeq (xand hc2).2
        subst e1; subst e2
        exact ⟨ρ 3, ρ 2, fun ad => ⟨xg4 rfl, xg4 rfl⟩, by unfold xz; rw [if_pos rfl]; omega⟩
theorem xi64 (x : Int32) : x.toInt64.toInt = x.toInt := Int32.toInt_toInt64 x
theorem xi64p (x : Int32) : (x.toInt64 + 1).toInt = x.toInt + 1 := by
  rw [Int64.toInt_add, xi64]
  have h1 := x.le_toInt
  have h2 := x.toInt_lt
  rw [show (1 : Int64).toInt = 1 from rfl, Int.bmod]
  split <;> omega
theorem xRelL_sound {x y sy : Nat} {cv : Int} (h : xRelL x y = some (sy, cv)) : ∃ vx vy : Int64, (∀ ad : Nat → Nat, xg ρ b ad x = .long vx ∧ xg ρ b ad y = .long vy) ∧ vx.toInt - vy.toInt = xz ρ sy - cv := by
  unfold xRelL at h
  cases h7 : Nat.beq (x / 8) 7 with
  | true => rw [h7] at h; cases h
  | false =>
    have hne : ¬ x / 8 = 7 := fun q => by rw [q] at h7; cases h7
    rw [h7] at h
    dsimp only [cond] at h
    cases hc : (Nat.beq (x % 8) 5 && Nat.beq (y % 8) 1) with
    | true =>
      rw [hc] at h
      cases h
      refine ⟨(ρ (x / 8)).toInt64, lN (y / 8), fun ad => ⟨xg5 (xbeq (xand hc).1), xg1 (xbeq (xand hc).2)⟩, ?_⟩
      rw [xs64_eq, xi64]
      unfold xz
      rw [if_neg hne]
    | false =>
      rw [hc] at h
      dsimp only at h
      cases hc2 : (Nat.beq x 29 && Nat.beq y 23) with
      | false => rw [hc2] at h; cases h
      | true =>
        rw [hc2] at h
        cases h
        have e1 := xbeq (xand hc2).1
        have e2 := xbeq (xand hc2).2
        subst e1; subst e2
        refine ⟨(ρ 3).toInt64, (ρ 2).toInt64 + 1, fun ad => ⟨xg5 rfl, xg7 rfl⟩, ?_⟩
        rw [xi64, xi64p]
        unfold xz
        rw [if_pos rfl]
        omega
theorem xSgn_of {x y : Int} {sy : Nat} {cv : Int} {sg : Nat} (he : x - y = xz ρ sy - cv) (h : (sg = 0 ∧ xz ρ sy < cv) ∨ (sg = 1 ∧ xz ρ sy = cv) ∨ (sg = 2 ∧ cv < xz ρ sy)) : xSgn x y sg := by
  rcases h with ⟨h1, h2⟩ | ⟨h1, h2⟩ | ⟨h1, h2⟩
  · exact Or.inl ⟨h1, by omega⟩
  · exact Or.inr (Or.inl ⟨h1, by omega⟩)
  · exact Or.inr (Or.inr ⟨h1, by omega⟩)
def xCn (op : Jvm.ClassFile.Cond) : Nat := match op with
  | .lt => 0
  | .eq => 1
  | .gt => 2
  | .ge => 3
  | .ne => 4
  | .le => 5
theorem xs_if {rest : List Value} {tgt sg : Nat} {x : Int32} {off : Int} (hx : p.tables.exec = Jvm.exec) (hb : c.code = bb) (op : Jvm.ClassFile.Cond) (hdg : decode bb pc = .ok (.ifCond op off, 3)) (ht : (pc : Int) + off = (tgt : Int)) (hs : xSgn x.toInt 0 sg)
    (kt : xHo (xCn op) sg = true → W p l e R s m args below meth c H locs cc cs Q (F0 m tgt ls rest)) (kf : xHo (xCn op) sg = false → W p l e R s m args below meth c H locs cc cs Q (F0 m (pc + 3) ls rest)) : W p l e R s m args below meth c H locs cc cs Q (F0 m pc ls (.int x :: rest)) := by
  have z : (0 : Int32).toInt = 0 := rfl
  cases op with
  | eq => exact lv_if_eq hx hb hdg ht (fun q => kt (by rcases hs with ⟨rfl, h⟩ | ⟨rfl, h⟩ | ⟨rfl, h⟩ <;> first | rfl | (rw [q, z] at h; omega))) (fun q => kf (by rcases hs with ⟨rfl, h⟩ | ⟨rfl, h⟩ | ⟨rfl, h⟩ <;> first | rfl | exact absurd (Int32.toInt_inj.mp (h.trans z.symm)) q))
  | ne => exact lv_if_ne hx hb hdg ht (fun q => kt (by rcases hs with ⟨rfl, h⟩ | ⟨rfl, h⟩ | ⟨rfl, h⟩ <;> first | rfl | exact absurd (Int32.toInt_inj.mp (h.trans z.symm)) q)) (fun q => kf (by rcases hs with ⟨rfl, h⟩ | ⟨rfl, h⟩ | ⟨rfl, h⟩ <;> first | rfl | (rw [q, z] at h; omega)))
  | lt => exact lv_if_lt hx hb hdg ht (fun q => kt (by rw [Int32.lt_iff_toInt_lt, z] at q; rcases hs with ⟨rfl, h⟩ | ⟨rfl, h⟩ | ⟨rfl, h⟩ <;> first | rfl | omega)) (fun q => kf (by rw [Int32.lt_iff_toInt_lt, z] at q; rcases hs with ⟨rfl, h⟩ | ⟨rfl, h⟩ | ⟨rfl, h⟩ <;> first | rfl | omega))
  | ge => exact lv_if_ge hx hb hdg ht (fun q => kt (by rw [Int32.le_iff_toInt_le, z] at q; rcases hs with ⟨rfl, h⟩ | ⟨rfl, h⟩ | ⟨rfl, h⟩ <;> first | rfl | omega)) (fun q => kf (by rw [Int32.le_iff_toInt_le, z] at q; rcases hs with ⟨rfl, h⟩ | ⟨rfl, h⟩ | ⟨rfl, h⟩ <;> first | rfl | omega))
  | gt => exact lv_if_gt hx hb hdg ht (fun q => kt (by rw [Int32.lt_iff_toInt_lt, z] at q; rcases hs with ⟨rfl, h⟩ | ⟨rfl, h⟩ | ⟨rfl, h⟩ <;> first | rfl | omega)) (fun q => kf (by rw [Int32.lt_iff_toInt_lt, z] at q; rcases hs with ⟨rfl, h⟩ | ⟨rfl, h⟩ | ⟨rfl, h⟩ <;> first | rfl | omega))
  | le => exact lv_if_le hx hb hdg ht (fun q => kt (by rw [Int32.le_iff_toInt_le, z] at q; rcases hs with ⟨rfl, h⟩ | ⟨rfl, h⟩ | ⟨rfl, h⟩ <;> first | rfl | omega)) (fun q => kf (by rw [Int32.le_iff_toInt_le, z] at q; rcases hs with ⟨rfl, h⟩ | ⟨rfl, h⟩ | ⟨rfl, h⟩ <;> first | rfl | omega))
theorem xs_icm {rest : List Value} {tgt sg : Nat} {x y : Int32} {off : Int} (hx : p.tables.exec = Jvm.exec) (hb : c.code = bb) (op : Jvm.ClassFile.Cond) (hdg : decode bb pc = .ok (.if_icmp op off, 3)) (ht : (pc : Int) + off = (tgt : Int)) (hs : xSgn x.toInt y.toInt sg)
    (kt : xHo (xCn op) sg = true → W p l e R s m args below meth c H locs cc cs Q (F0 m tgt ls rest)) (kf : xHo (xCn op) sg = false → W p l e R s m args below meth c H locs cc cs Q (F0 m (pc + 3) ls rest)) : W p l e R s m args below meth c H locs cc cs Q (F0 m pc ls (.int y :: .int x :: rest)) := by
  cases op with
  | eq => exact lv_icmp_eq hx hb hdg ht (fun q => kt (by rcases hs with ⟨rfl, h⟩ | ⟨rfl, h⟩ | ⟨rfl, h⟩ <;> first | rfl | (rw [q] at h; omega))) (fun q => kf (by rcases hs with ⟨rfl, h⟩ | ⟨rfl, h⟩ | ⟨rfl, h⟩ <;> first | rfl | exact absurd (Int32.toInt_inj.mp h) q))
  | ne => exact lv_icmp_ne hx hb hdg ht (fun q => kt (by rcases hs with ⟨rfl, h⟩ | ⟨rfl, h⟩ | ⟨rfl, h⟩ <;> first | rfl | exact absurd (Int32.toInt_inj.mp h) q)) (fun q => kf (by rcases hs with ⟨rfl, h⟩ | ⟨rfl, h⟩ | ⟨rfl, h⟩ <;> first | rfl | (rw [q] at h; omega)))
  | lt => exact lv_icmp_lt hx hb hdg ht (fun q => kt (by rw [Int32.lt_iff_toInt_lt] at q; rcases hs with ⟨rfl, h⟩ | ⟨rfl, h⟩ | ⟨rfl, h⟩ <;> first | rfl | omega)) (fun q => kf (by rw [Int32.lt_iff_toInt_lt] at q; rcases hs with ⟨rfl, h⟩ | ⟨rfl, h⟩ | ⟨rfl, h⟩ <;> first | rfl | omega))
  | ge => exact lv_icmp_ge hx hb hdg ht (fun q => kt (by rw [Int32.le_iff_toInt_le] at q; rcases hs with ⟨rfl, h⟩ | ⟨rfl, h⟩ | ⟨rfl, h⟩ <;> first | rfl | omega)) (fun q => kf (by rw [Int32.le_iff_toInt_le] at q; rcases hs with ⟨rfl, h⟩ | ⟨rfl, h⟩ | ⟨rfl, h⟩ <;> first | rfl | omega))
  | gt => exact lv_icmp_gt hx hb hdg ht (fun q => kt (by rw [Int32.lt_iff_toInt_lt] at q; rcases hs with ⟨rfl, h⟩ | ⟨rfl, h⟩ | ⟨rfl, h⟩ <;> first | rfl | omega)) (fun q => kf (by rw [Int32.lt_iff_toInt_lt] at q; rcases hs with ⟨rfl, h⟩ | ⟨rfl, h⟩ | ⟨rfl, h⟩ <;> first | rfl | omega))
  | le => exact lv_icmp_le hx hb hdg ht (fun q => kt (by rw [Int32.le_iff_toInt_le] at q; rcases hs with ⟨rfl, h⟩ | ⟨rfl, h⟩ | ⟨rfl, h⟩ <;> first | rfl | omega)) (fun q => kf (by rw [Int32.le_iff_toInt_le] at q; rcases hs with ⟨rfl, h⟩ | ⟨rfl, h⟩ | ⟨rfl, h⟩ <;> first | rfl | omega))
theorem xs_ifC (hx : p.tables.exec = Jvm.exec) (hb : c.code = bb) (hK : xHK p l e R s m args below meth c Q ρ b cA D A H0 nL ad0 n0 K outs) (hI : xInv ρ b cA D A H0 nL ad0 n0 ad H locs ls L Wd env) (ho : ∀ y ∈ o, y ∈ outs) (h : xo_ifC K a1 a2 pc L S Wd cc cs env = some o) {op : Jvm.ClassFile.Cond} {off : Int} (hdg : decode bb pc = .ok (.ifCond op off, 3)) (ht : (pc : Int) + off = (a1 : Int)) (h2 : xCn op = a2) : W p l e R s m args below meth c H locs cc cs Q (F0 m pc ls (S.map (xg ρ b ad))) := by
  subst h2
  unfold xo_ifC at h
  match S, h with
  | x :: r, h =>
    dsimp only at h
    cases hc : Nat.beq (x % 8) 0 with
    | true =>
      rw [hc] at h
      dsimp only [cond] at h
      rw [List.map_cons, xg0 (xbeq hc)]
      refine xs_if hx hb op hdg ht (sg := xSg (xb32 (x / 8)) 2147483648) (xSg_32 (x / 8) 0) (fun q => ?_) (fun q => ?_)
      · rw [q] at h
        exact hK _ _ _ _ _ _ _ _ h ho _ _ _ _ hI
      · rw [q] at h
        dsimp only at h
        rw [xF_eq] at h
        exact hK _ _ _ _ _ _ _ _ h ho _ _ _ _ hI
    | false =>
      rw [hc] at h
      dsimp only [cond] at h
      cases hr : xRelI x 0 with
      | none => rw [hr] at h; cases h
      | some q =>
        obtain ⟨sy, cv⟩ := q
        rw [hr] at h
        dsimp only at h
        obtain ⟨vx, vy, hv, hd⟩ := xRelI_sound (ρ := ρ) (b := b) hr
        have hvy : vy = 0 := by
          have e := (hv ad).2
          rw [xg0 rfl] at e
          cases e
          rfl
        subst hvy
        obtain ⟨sg, e', o', f1, f2, f3, f4⟩ := xTri_sound h hI.2.2.1
        rw [List.map_cons, (hv ad).1]
        refine xs_if hx hb op hdg ht (sg := xSgI sg) (xSgn_of hd f4) (fun q => ?_) (fun q => ?_)
        · rw [q] at f1
          exact hK _ _ _ _ _ _ _ _ f1 (fun z hz => ho z (f2 z hz)) _ _ _ _ (hI.env f3)
        · rw [q] at f1
          dsimp only [cond] at f1
          rw [xF_eq] at f1
          exact hK _ _ _ _ _ _ _ _ f1 (fun z hz => ho z (f2 z hz)) _ _ _ _ (hI.env f3)
  | [], h => cases h
theorem xs_icmp (hx : p.tables.exec = Jvm.exec) (hb : c.code = bb) (hK : xHK p l e R s m args below meth c Q ρ b cA D A H0 nL ad0 n0 K outs) (hI : xInv ρ b cA D A H0 nL ad0 n0 ad H locs ls L Wd env) (ho : ∀ y ∈ o, y ∈ outs) (h : xo_icmp K a1 a2 pc L S Wd cc cs env = some o) {op : Jvm.ClassFile.Cond} {off : Int} (hdg : decode bb pc = .ok (.if_icmp op off, 3)) (ht : (pc : Int) + off = (a1 : Int)) (h2 : xCn op = a2) : W p l e R s m args below meth c H locs cc cs Q (F0 m pc ls (S.map (xg ρ b ad))) := by
  subst h2
  unfold xo_icmp at h
  match S, h with
  | y :: x :: r, h =>
    dsimp only at h
    cases hc : (Nat.beq (x % 8) 0 && Nat.beq (y % 8) 0) with
    | true =>
      rw [hc] at h
      dsimp only [cond] at h
      rw [List.map_cons, List.map_cons, xg0 (xbeq (xand hc).1), xg0 (xbeq (xand hc).2)]
      refine xs_icm hx hb op hdg ht (sg := xSg (xb32 (x / 8)) (xb32 (y / 8))) (xSg_32 (x / 8) (y / 8)) (fun q => ?_) (fun q => ?_)
      · rw [q] at h
        exact hK _ _ _ _ _ _ _ _ h ho _ _ _ _ hI
      · rw [q] at h
        dsimp only at h
        rw [xF_eq] at h
        exact hK _ _ _ _ _ _ _ _ h ho _ _ _ _ hI
    | false =>
      rw [hc] at h
      dsimp only [cond] at h
      cases hr : xRelI x y with
      | none => rw [hr] at h; cases h
      | some q =>
        obtain ⟨sy, cv⟩ := q
        rw [hr] at h
        dsimp only at h
        obtain ⟨vx, vy, hv, hd⟩ := xRelI_sound (ρ := ρ) (b := b) hr
        obtain ⟨sg, e', o', f1, f2, f3, f4⟩ := xTri_sound h hI.2.2.1
        rw [List.map_cons, List.map_cons, (hv ad).1, (hv ad).2]
        refine xs_icm hx hb op hdg ht (sg := xSgI sg) (xSgn_of hd f4) (fun q => ?_) (fun q => ?_)
        · rw [q] at f1
          exact hK _ _ _ _ _ _ _ _ f1 (fun z hz => ho z (f2 z hz)) _ _ _ _ (hI.env f3)
        · rw [q] at f1
          dsimp only [cond] at f1
          rw [xF_eq] at f1
          exact hK _ _ _ _ _ _ _ _ f1 (fun z hz => ho z (f2 z hz)) _ _ _ _ (hI.env f3)
  | [], h => cases h
  | [_], h => cases h
def xCmpC (sg : Nat) : Nat := bif Nat.beq sg 0 then 34359738360 else bif Nat.beq sg 1 then 0 else 8
theorem xCmp_eq {x y : Int64} {sg : Nat} (h : xSgn x.toInt y.toInt sg) : xg ρ b ad (xCmpC sg) = .int (lg_cmp x y) := by
  unfold lg_cmp
  rcases h with ⟨rfl, h⟩ | ⟨rfl, h⟩ | ⟨rfl, h⟩
  · rw [if_neg (fun q => by rw [gt_iff_lt, Int64.lt_iff_toInt_lt] at q; omega), if_neg (fun q => by rw [q] at h; omega)]
    rfl
  · rw [if_neg (fun q => by rw [gt_iff_lt, Int64.lt_iff_toInt_lt] at q; omega), if_pos (Int64.toInt_inj.mp h)]
    rfl
  · rw [if_pos (by rw [gt_iff_lt, Int64.lt_iff_toInt_lt]; exact h)]
    rfl
theorem xs_lcmp (hx : p.tables.exec = Jvm.exec) (hb : c.code = bb) (hK : xHK p l e R s m args below meth c Q ρ b cA D A H0 nL ad0 n0 K outs) (hI : xInv ρ b cA D A H0 nL ad0 n0 ad H locs ls L Wd env) (ho : ∀ y ∈ o, y ∈ outs) (h : xo_lcmp K a1 a2 pc L S Wd cc cs env = some o) (hdg : decode bb pc = .ok (.lcmp, 1)) : W p l e R s m args below meth c H locs cc cs Q (F0 m pc ls (S.map (xg ρ b ad))) := by
  unfold xo_lcmp at h
  match S, h with
  | y :: x :: r, h =>
    dsimp only at h
    cases hc : (Nat.beq (x % 8) 1 && Nat.beq (y % 8) 1) with
    | true =>
      rw [hc] at h
      rw [cond_true, xF_eq, xF_eq] at h
      have k := hK _ _ _ _ _ _ _ _ h ho _ _ _ _ hI
      have e := xCmp_eq (ρ := ρ) (b := b) (ad := ad) (xSg_64 (x / 8) (y / 8))
      unfold xCmpC at e
      rw [List.map_cons] at k
      rw [List.map_cons, List.map_cons, xg1 (xbeq (xand hc).1), xg1 (xbeq (xand hc).2)]
      refine W.lcmp hx hb hdg ?_
      rw [← e]
      exact k
    | false =>
      rw [hc] at h
      rw [cond_false] at h
      cases hr : xRelL x y with
      | none => rw [hr] at h; cases h
      | some q =>
        obtain ⟨sy, cv⟩ := q
        rw [hr] at h
        dsimp only at h
        obtain ⟨vx, vy, hv, hd⟩ := xRelL_sound (ρ := ρ) (b := b) hr
        obtain ⟨sg, e', o', f1, f2, f3, f4⟩ := xTri_sound h hI.2.2.1
        rw [xF_eq, xF_eq] at f1
        have k := hK _ _ _ _ _ _ _ _ f1 (fun z hz => ho z (f2 z hz)) _ _ _ _ (hI.env f3)
        have e := xCmp_eq (ρ := ρ) (b := b) (ad := ad) (xSgn_of hd f4)
        unfold xCmpC at e
        rw [List.map_cons] at k
        rw [List.map_cons, List.map_cons, (hv ad).1, (hv ad).2]
        refine W.lcmp hx hb hdg ?_
        rw [← e]
        exact k
  | [], h => cases h
  | [_], h => cases h
theorem xs_goto (hx : p.tables.exec = Jvm.exec) (hb : c.code = bb) (hK : xHK p l e R s m args below meth c Q ρ b cA D A H0 nL ad0 n0 K outs) (hI : xInv ρ b cA D A H0 nL ad0 n0 ad H locs ls L Wd env) (ho : ∀ y ∈ o, y ∈ outs) (h : xo_goto K a1 a2 pc L S Wd cc cs env = some o) {off : Int} (hdg : decode bb pc = .ok (.goto off, 3)) (ht : (pc : Int) + off = (a1 : Int)) : W p l e R s m args below meth c H locs cc cs Q (F0 m pc ls (S.map (xg ρ b ad))) := lv_goto hx hb hdg ht (hK _ _ _ _ _ _ _ _ h ho _ _ _ _ hI)
theorem xs_dup (hx : p.tables.exec = Jvm.exec) (hb : c.code = bb) (hK : xHK p l e R s m args below meth c Q ρ b cA D A H0 nL ad0 n0 K outs) (hI : xInv ρ b cA D A H0 nL ad0 n0 ad H locs ls L Wd env) (ho : ∀ y ∈ o, y ∈ outs) (h : xo_dup K a1 a2 pc L S Wd cc cs env = some o) (hdg : decode bb pc = .ok (.dup, 1)) : W p l e R s m args below meth c H locs cc cs Q (F0 m pc ls (S.map (xg ρ b ad))) := by
  unfold xo_dup at h
  match S, h with
  | v :: r, h =>
    dsimp only at h
    obtain ⟨hc, h⟩ := xbif h
    rw [xF_eq] at h
    exact lv_dup hx hb hdg (by rw [xg_cat]; exact xbeq hc) (hK _ _ _ _ _ _ _ _ h ho _ _ _ _ hI)
  | [], h => cases h
theorem xs_dup_x1 (hx : p.tables.exec = Jvm.exec) (hb : c.code = bb) (hK : xHK p l e R s m args below meth c Q ρ b cA D A H0 nL ad0 n0 K outs) (hI : xInv ρ b cA D A H0 nL ad0 n0 ad H locs ls L Wd env) (ho : ∀ y ∈ o, y ∈ outs) (h : xo_dup_x1 K a1 a2 pc L S Wd cc cs env = some o) (hdg : decode bb pc = .ok (.dup_x1, 1)) : W p l e R s m args below meth c H locs cc cs Q (F0 m pc ls (S.map (xg ρ b ad))) := by
  unfold xo_dup_x1 at h
  match S, h with
  | v :: w :: r, h =>
    dsimp only at h
    obtain ⟨hc, h⟩ := xbif h
    rw [xF_eq] at h
    exact lv_dup_x1 hx hb hdg (by rw [xg_cat]; exact xbeq (xand hc).1) (by rw [xg_cat]; exact xbeq (xand hc).2) (hK _ _ _ _ _ _ _ _ h ho _ _ _ _ hI)
  | [], h => cases h
  | [_], h => cases h
theorem xs_dup2 (hx : p.tables.exec = Jvm.exec) (hb : c.code = bb) (hK : xHK p l e R s m args below meth c Q ρ b cA D A H0 nL ad0 n0 K outs) (hI : xInv ρ b cA D A H0 nL ad0 n0 ad H locs ls L Wd env) (ho : ∀ y ∈ o, y ∈ outs) (h : xo_dup2 K a1 a2 pc L S Wd cc cs env = some o) (hdg : decode bb pc = .ok (.dup2, 1)) : W p l e R s m args below meth c H locs cc cs Q (F0 m pc ls (S.map (xg ρ b ad))) := by
  unfold xo_dup2 at h
  match S, h with
  | v :: r, h =>
    dsimp only at h
    cases hc : Nat.beq (xCat v) 2 with
    | true =>
      rw [hc] at h
      dsimp only [cond] at h
      rw [xF_eq] at h
      exact lv_dup2_2 hx hb hdg (by rw [xg_cat]; exact xbeq hc) (hK _ _ _ _ _ _ _ _ h ho _ _ _ _ hI)
    | false =>
      rw [hc] at h
      dsimp only [cond] at h
      match r, h with
      | w :: r', h =>
        dsimp only at h
        obtain ⟨hc2, h⟩ := xbif h
        rw [xF_eq] at h
        have h1 : xCat v = 1 := by
          unfold xCat at hc ⊢
          cases hl : xIsL v with
          | true => rw [hl] at hc; cases hc
          | false => rfl
        exact lv_dup2_11 hx hb hdg (by rw [xg_cat]; exact h1) (by rw [xg_cat]; exact xbeq hc2) (hK _ _ _ _ _ _ _ _ h ho _ _ _ _ hI)
      | [], h => cases h
  | [], h => cases h
end XOQ
end
section
/-- the tables' words that a call hands on as they are -/
def xTb : List Jvm.Cond := lw_tbl.filter goodWord
theorem xTb_of {i : Nat} {w : Jvm.Cond} (h : lw_tbl[i]? = some w) (hg : goodWord w = true) : w ∈ xTb := List.mem_filter.mpr ⟨List.mem_of_getElem? h, hg⟩
def xTys (cA : Nat → ClassId) : List (ClassId × FieldType) := [(cA 0, .int), (cA 1, .long), (cA 2, .boolean), (cA 3, .object RX5)]
/-- of each class of the worlds: its words stand in the tables, its fields' types, its fields' names apart -/
def xCls (ci : Nat) (q : vw_C) : Prop := (∀ w ∈ u_ws q.1 q.2.1 q.2.2, w ∈ xTb) ∧ (∀ k, k < q.2.2 → parseFieldDescriptor (q.2.1 k).2.2.1 = some (xTyOf ci k)) ∧ (∀ a, a < q.2.2 → ∀ b, b < q.2.2 → a ≠ b → (q.2.1 a).2.1 ≠ (q.2.1 b).2.1)
theorem xin0 : ∀ w ∈ u_ws RX1 TX1 7, w ∈ xTb := by decide +kernel
theorem xin1 : ∀ w ∈ u_ws RX2 TX2 10, w ∈ xTb := by decide +kernel
theorem xin2 : ∀ w ∈ u_ws RX3 TX3 2, w ∈ xTb := by decide +kernel
theorem xin3 : ∀ w ∈ u_ws RX4 TX4 6, w ∈ xTb := by decide +kernel
theorem xin4 : ∀ w ∈ u_ws RX5 TX5 18, w ∈ xTb := by decide +kernel
theorem xin5 : ∀ w ∈ u_ws RX6 TX6 3, w ∈ xTb := by decide +kernel
theorem xin6 : ∀ w ∈ u_ws RX7 TX7 6, w ∈ xTb := by decide +kernel
theorem xin7 : ∀ w ∈ u_ws RX8 TX8 7, w ∈ xTb := by decide +kernel
theorem xin8 : ∀ w ∈ u_ws RX9 TX9 9, w ∈ xTb := by decide +kernel
theorem xin9 : ∀ w ∈ u_ws RX10 TX10 27, w ∈ xTb := by decide +kernel
theorem xCls_ok {ci : Nat} {q : vw_C} (h : vwCl[ci]? = some q) : xCls ci q := by
  match ci, h with
  | 0, h => cases h; exact ⟨xin0, tyX1_ok, nmX1⟩
  | 1, h => cases h; exact ⟨xin1, tyX2_ok, nmX2⟩
  | 2, h => cases h; exact ⟨xin2, tyX3_ok, nmX3⟩
  | 3, h => cases h; exact ⟨xin3, tyX4_ok, nmX4⟩
  | 4, h => cases h; exact ⟨xin4, tyX5_ok, nmX5⟩
  | 5, h => cases h; exact ⟨xin5, tyX6_ok, nmX6⟩
  | 6, h => cases h; exact ⟨xin6, tyX7_ok, nmX7⟩
  | 7, h => cases h; exact ⟨xin7, tyX8_ok, nmX8⟩
  | 8, h => cases h; exact ⟨xin8, tyX9_ok, nmX9⟩
  | 9, h => cases h; exact ⟨xin9, tyX10_ok, nmX10⟩
  | k + 10, h => exact absurd h (by simp [vwCl])
theorem xDef_ok : ∀ ci, ci < 10 → (xDefO ci (xNf ci) % 18446744073709551616 = 8 * ci + 2 ∧ ∀ j, j < xNf ci → xDn (xDefO ci (xNf ci)) j 1 = xDefT (xTyOf ci j) ∧ (xTyOf ci j = .int ∨ xTyOf ci j = .long ∨ defaultValue (xTyOf ci j) = .null ∧ xDefT (xTyOf ci j) = 3)) := by decide +kernel
section XOH
variable {p : Program} {l : Launch} {e : Env} {R : Room} {s : State} {m : MethodId} {args : Array Value} {below : List Frame} {meth : Method} {c : Code} {Q : State → Prop}
variable {ρ : Nat → Int32} {b : Nat} {cA : Nat → ClassId} {D : va_G} {A : Nat → Prop} {H0 : Heap} {nL n0 : Nat} {ad0 : Nat → Nat} {K : xKt} {outs o : List xOut}
variable {bb : ByteArray} {a1 a2 pc cc cs : Nat} {L S Wd : List Nat} {env : xEv} {ad : Nat → Nat} {H : Heap} {locs : List Loc} {ls : Array Slot}
theorem xE_obj {cv ci : Nat} (h : cv % 18446744073709551616 = 8 * ci + 2) : xE ρ b cA ad cv = .inr (ci, (List.range (xNf ci)).map (fun k => xg ρ b ad (xDn cv k 1))) ∧ cv % 8 = 2 ∧ cv ≠ 0 := by
  have h2 : cv % 8 = 2 := by rw [← x8, h]; omega
  refine ⟨?_, h2, fun q => by rw [q] at h2; cases h2⟩
  unfold xE
  rw [if_pos h2, h, show (8 * ci + 2) / 8 = ci by omega]
theorem xE_int {cv : Nat} (h : cv % 8 = 1) : xE ρ b cA ad cv = .inl (cA 0, cv % 18446744073709551616 / 8, .inl (fun k => xd32 ρ (xDn cv k 1))) ∧ cv ≠ 0 := by
  refine ⟨?_, fun q => by rw [q] at h; cases h⟩
  unfold xE
  rw [if_neg (by omega), if_neg (by omega), if_neg (by omega), h]
theorem xE_boo {cv : Nat} (h : cv % 8 = 5) : xE ρ b cA ad cv = .inl (cA 2, cv % 18446744073709551616 / 8, .inl (fun k => xd32 ρ (xDn cv k 1))) ∧ cv ≠ 0 := by
  refine ⟨?_, fun q => by rw [q] at h; cases h⟩
  unfold xE
  rw [if_neg (by omega), if_neg (by omega), if_neg (by omega), h]
theorem xE_lon {cv : Nat} (h : cv % 8 = 3) : xE ρ b cA ad cv = .inl (cA 1, cv % 18446744073709551616 / 8, .inr (.inl (fun k => lN (xDn cv k 1)))) ∧ cv ≠ 0 := by
  refine ⟨?_, fun q => by rw [q] at h; cases h⟩
  unfold xE
  rw [if_neg (by omega), if_pos h, h]
theorem xE_ref {cv : Nat} (h : cv % 8 = 7) : xE ρ b cA ad cv = .inl (cA 3, cv % 18446744073709551616 / 8, .inr (.inr (.inr (.inr (fun k => if k < cv % 18446744073709551616 / 8 then xqf ad (xDn cv k 1) else none))))) ∧ cv ≠ 0 := by
  refine ⟨?_, fun q => by rw [q] at h; cases h⟩
  unfold xE
  rw [if_neg (by omega), if_neg (by omega), if_pos h, h]
theorem xNf_eq {ci : Nat} {q : vw_C} (h : vwCl[ci]? = some q) : xNf ci = q.2.2 := by unfold xNf; rw [h]
/-- another cell in a place -/
theorem xInv.cell {i cv : Nat} {H1 : Heap} {locs1 : List Loc} (hI : xInv ρ b cA D A H0 nL ad0 n0 ad H locs ls L Wd env) (hP : va_P D vwCl (xWs ρ b cA ad (Wd.set i cv)) H1) (hD : va_D A (xWs ρ b cA ad (Wd.set i cv))) (hS : va_S A H0 H1 locs1) : xInv ρ b cA D A H0 nL ad0 n0 ad H1 locs1 ls L (Wd.set i cv) env := by
  refine ⟨hI.1, ⟨hP, hD, hS⟩, hI.2.2.1, ?_⟩
  unfold xAg
  rw [List.length_set]
  exact hI.2.2.2
theorem xin_nI {u n : Nat} (h : u < n) (h2 : u < 2147483648) : vp_in (nI u) n := by
  intro q
  rcases q with q | q
  · exact nI_pos h2 q
  · rw [nI_clamp h2] at q; omega
theorem xs_getfield (hx : p.tables.exec = Jvm.exec) (hb : c.code = bb) (hK : xHK p l e R s m args below meth c Q ρ b cA D A H0 nL ad0 n0 K outs) (hI : xInv ρ b cA D A H0 nL ad0 n0 ad H locs ls L Wd env) (ho : ∀ y ∈ o, y ∈ outs) (h : xo_getfield K a1 a2 pc L S Wd cc cs env = some o)
    {own : String} (hts : ∀ w ∈ xTb, w.before args s = true) (hown : s.vm.findClass own = some m.cls) (hKt : va_K D vwCl (xTys cA) s) {idx : Nat} {q : vw_C} (hdg : decode bb pc = .ok (.getfield idx, 3)) (hq : vwCl[a1]? = some q) (hk : a2 < q.2.2) (hl : Jvm.Cond.fieldLink own idx (q.2.1 a2).1 (q.2.1 a2).2.1 (q.2.1 a2).2.2.1 ∈ xTb) : W p l e R s m args below meth c H locs cc cs Q (F0 m pc ls (S.map (xg ρ b ad))) := by
  unfold xo_getfield at h
  match S, h with
  | r :: t, h =>
    dsimp only at h
    obtain ⟨hr, h⟩ := xbif h
    rw [xF_eq] at h
    obtain ⟨hc, h⟩ := xbif h
    obtain ⟨e1, e2, e3⟩ := xE_obj (ρ := ρ) (b := b) (cA := cA) (ad := ad) (xbeq hc)
    rw [xF_eq, xF_eq] at h
    have k := hK _ _ _ _ _ _ _ _ h ho _ _ _ _ hI
    rw [List.map_cons] at k
    have he := xWs_get (ρ := ρ) (b := b) (cA := cA) (ad := ad) (xGet_some rfl e3)
    rw [e1] at he
    obtain ⟨C, T, N⟩ := q
    rw [List.map_cons, xg2 (xbeq hr)]
    exact va_get hx hb hts (xCls_ok hq).1 hown hKt hI.2.1.1 (r / 8) he hq a2 hk (hts _ hl) (fun _ h => h) (by rw [List.getElem?_map, List.getElem?_range (by rw [xNf_eq hq]; exact hk)]; rfl) hdg k
  | [], h => cases h
theorem xFit_ok {ty : FieldType} {v : Nat} (h : xFit ty v = true) : narrow ty (xg ρ b ad v) = xg ρ b ad v ∧ fits ty (xg ρ b ad v) = true := by
  unfold xFit at h
  have hR : (xIsR v || Nat.beq v 3) = true → xg ρ b ad v = .null ∨ ∃ a, xg ρ b ad v = .ref a := by
    intro h
    cases h1 : xIsR v with
    | true => exact Or.inr (xgR h1)
    | false =>
      rw [h1] at h
      have := xbeq (show Nat.beq v 3 = true from h)
      subst this
      exact Or.inl (xg3 rfl)
  cases ty with
  | int => rw [xgI h]; exact ⟨rfl, rfl⟩
  | long => rw [xgL h]; exact ⟨rfl, rfl⟩
  | object n => rcases hR h with e | ⟨a, e⟩ <;> rw [e] <;> exact ⟨rfl, rfl⟩
  | array t => rcases hR h with e | ⟨a, e⟩ <;> rw [e] <;> exact ⟨rfl, rfl⟩
  | _ => cases h
theorem xfs_set {cv v k n : Nat} (hv : v < 4722366482869645213696) : ((List.range n).map (fun j => xg ρ b ad (xDn cv j 1))).set k (xg ρ b ad v) = (List.range n).map (fun j => xg ρ b ad (xDn (xPn cv k 1 v) j 1)) := by
  apply List.ext_getElem?
  intro j
  by_cases hj : k = j
  · subst hj
    by_cases hl : k < n
    · rw [List.getElem?_set_self (by simpa using hl), List.getElem?_map, List.getElem?_range hl]
      show some (xg ρ b ad v) = some (xg ρ b ad (xDn (xPn cv k 1 v) k 1))
      rw [xPn_one hv, if_pos rfl]
    · rw [List.getElem?_eq_none (by simpa using Nat.not_lt.mp hl), List.getElem?_eq_none (by simpa using Nat.not_lt.mp hl)]
  · rw [List.getElem?_set_ne hj, List.getElem?_map, List.getElem?_map]
    cases hr : (List.range n)[j]? with
    | none => rfl
    | some i =>
      have hi : i = j := by
        obtain ⟨h1, h2⟩ := List.getElem?_eq_some_iff.mp hr
        rw [List.getElem_range] at h2
        exact h2.symm
      subst hi
      show some (xg ρ b ad (xDn cv i 1)) = some (xg ρ b ad (xDn (xPn cv k 1 v) i 1))
      rw [xPn_one hv, if_neg (Ne.symm hj)]
theorem xs_putfield (hx : p.tables.exec = Jvm.exec) (hb : c.code = bb) (hK : xHK p l e R s m args below meth c Q ρ b cA D A H0 nL ad0 n0 K outs) (hI : xInv ρ b cA D A H0 nL ad0 n0 ad H locs ls L Wd env) (ho : ∀ y ∈ o, y ∈ outs) (h : xo_putfield K a1 a2 pc L S Wd cc cs env = some o)
    {own : String} (hts : ∀ w ∈ xTb, w.before args s = true) (hown : s.vm.findClass own = some m.cls) (hKt : va_K D vwCl (xTys cA) s) {idx : Nat} {q : vw_C} (hdg : decode bb pc = .ok (.putfield idx, 3)) (hq : vwCl[a1]? = some q) (hk : a2 < q.2.2) (hl : Jvm.Cond.fieldLink own idx (q.2.1 a2).1 (q.2.1 a2).2.1 (q.2.1 a2).2.2.1 ∈ xTb) (hfin : (q.2.1 a2).2.2.2 = false ∨ ((q.2.1 a2).2.2.2 = true ∧ meth.name = "<init>" ∧ (q.2.1 a2).1 = own)) : W p l e R s m args below meth c H locs cc cs Q (F0 m pc ls (S.map (xg ρ b ad))) := by
  unfold xo_putfield at h
  match S, h with
  | v :: r :: t, h =>
    dsimp only at h
    obtain ⟨hc0, h⟩ := xbif h
    obtain ⟨hc1, hv⟩ := xand hc0
    obtain ⟨hr, hf⟩ := xand hc1
    rw [xF_eq] at h
    obtain ⟨hc, h⟩ := xbif h
    obtain ⟨e1, e2, e3⟩ := xE_obj (ρ := ρ) (b := b) (cA := cA) (ad := ad) (xbeq hc)
    rw [xF_eq, xSet_eq, xF_eq] at h
    have he := xWs_get (ρ := ρ) (b := b) (cA := cA) (ad := ad) (xGet_some rfl e3)
    rw [e1] at he
    have hcl := xCls_ok hq
    obtain ⟨hn1, hn2⟩ := xFit_ok (ρ := ρ) (b := b) (ad := ad) hf
    have hlen : a2 < ((List.range (xNf a1)).map (fun k => xg ρ b ad (xDn (xGet Wd (r / 8)) k 1))).length := by rw [List.length_map, List.length_range, xNf_eq hq]; exact hk
    have hset : xWs ρ b cA ad (Wd.set (r / 8) (xPn (xGet Wd (r / 8)) a2 1 v)) = (xWs ρ b cA ad Wd).set (r / 8) (ad (r / 8), .inr (a1, ((List.range (xNf a1)).map (fun k => xg ρ b ad (xDn (xGet Wd (r / 8)) k 1))).set a2 (xg ρ b ad v))) := by
      rw [xWs_set, xfs_set (xblt hv), (xE_obj (ρ := ρ) (b := b) (cA := cA) (ad := ad) (ci := a1) (by rw [xPn_hdr]; exact xbeq hc)).1]
    obtain ⟨C, T, N⟩ := q
    rw [List.map_cons, List.map_cons, xg2 (xbeq hr)]
    rcases hfin with hfin | ⟨hfin, hin, hdc⟩
    · refine va_put hx hb hts hcl.1 (xTyOf a1) hcl.2.1 hcl.2.2 hown hKt hI.2.1.1 hI.2.1.2.1 hI.2.1.2.2 (r / 8) he hq a2 hk (hts _ hl) (fun _ h => h) hfin (hcl.2.1 a2 hk) hn1 hn2 hlen hdg fun H1 locs1 hP1 hD1 hS1 => ?_
      rw [← hset] at hP1 hD1
      exact hK _ _ _ _ _ _ _ _ h ho _ _ _ _ (hI.cell hP1 hD1 hS1)
    · refine va_putF hx hb hts hcl.1 (xTyOf a1) hcl.2.1 hcl.2.2 hown hKt hI.2.1.1 hI.2.1.2.1 hI.2.1.2.2 (r / 8) he hq a2 hk (hts _ hl) (fun _ h => h) hfin hin hdc (hcl.2.1 a2 hk) hn1 hn2 hlen hdg fun H1 locs1 hP1 hD1 hS1 => ?_
      rw [← hset] at hP1 hD1
      exact hK _ _ _ _ _ _ _ _ h ho _ _ _ _ (hI.cell hP1 hD1 hS1)
  | [], h => cases h
  | [_], h => cases h
theorem xs_iaload (hx : p.tables.exec = Jvm.exec) (hb : c.code = bb) (hK : xHK p l e R s m args below meth c Q ρ b cA D A H0 nL ad0 n0 K outs) (hI : xInv ρ b cA D A H0 nL ad0 n0 ad H locs ls L Wd env) (ho : ∀ y ∈ o, y ∈ outs) (h : xo_iaload K a1 a2 pc L S Wd cc cs env = some o)
    (hKt : va_K D vwCl (xTys cA) s) (hdg : decode bb pc = .ok (.iaload, 1)) : W p l e R s m args below meth c H locs cc cs Q (F0 m pc ls (S.map (xg ρ b ad))) := by
  unfold xo_iaload at h
  match S, h with
  | x :: r :: t, h =>
    dsimp only at h
    cases hc4 : Nat.beq (x % 8) 4 with
    | true =>
      rw [hc4, cond_true] at h
      obtain ⟨x', e', o', f1, f2, f3, f4⟩ := xC0_sound (b := b) h (xbeq hc4) hI.2.2.1
      have k := hK _ _ _ _ _ _ _ _ f1 (fun z hz => ho z (f2 z hz)) _ _ _ _ (hI.env f3)
      rw [List.map_cons, f4] at k
      exact k
    | false =>
      rw [hc4, cond_false] at h
      obtain ⟨hc, h⟩ := xbif h
      obtain ⟨hx0, hxl⟩ := xand hc
      obtain ⟨hr, h⟩ := xbif h
      rw [xF_eq] at h
      obtain ⟨hc2, h⟩ := xbif h
      obtain ⟨hc3, hlt⟩ := xand hc2
      obtain ⟨e1, e3⟩ := xE_int (ρ := ρ) (b := b) (cA := cA) (ad := ad) (xbeq hc3)
      rw [xF_eq] at h
      obtain ⟨hvi, h⟩ := xbif h
      rw [xF_eq] at h
      have k := hK _ _ _ _ _ _ _ _ h ho _ _ _ _ hI
      have he := xWs_get (ρ := ρ) (b := b) (cA := cA) (ad := ad) (xGet_some rfl e3)
      rw [e1] at he
      rw [List.map_cons, xgI hvi] at k
      rw [List.map_cons, List.map_cons, xg0 (xbeq hx0), xg2 (xbeq hr)]
      refine va_iald hx hb hKt hI.2.1.1 (r / 8) 0 he rfl (xin_nI (xblt hlt) (xblt hxl)) hdg ?_
      rw [nI_clamp (xblt hxl)]
      exact k
  | [], h => cases h
  | [_], h => cases h
theorem xs_iastore (hx : p.tables.exec = Jvm.exec) (hb : c.code = bb) (hK : xHK p l e R s m args below meth c Q ρ b cA D A H0 nL ad0 n0 K outs) (hI : xInv ρ b cA D A H0 nL ad0 n0 ad H locs ls L Wd env) (ho : ∀ y ∈ o, y ∈ outs) (h : xo_iastore K a1 a2 pc L S Wd cc cs env = some o)
    (hKt : va_K D vwCl (xTys cA) s) (hdg : decode bb pc = .ok (.iastore, 1)) : W p l e R s m args below meth c H locs cc cs Q (F0 m pc ls (S.map (xg ρ b ad))) := by
  unfold xo_iastore at h
  match S, h with
  | v :: x :: r :: t, h =>
    dsimp only at h
    cases hc4 : Nat.beq (x % 8) 4 with
    | true =>
      rw [hc4, cond_true] at h
      obtain ⟨x', e', o', f1, f2, f3, f4⟩ := xC0_sound (b := b) h (xbeq hc4) hI.2.2.1
      have k := hK _ _ _ _ _ _ _ _ f1 (fun z hz => ho z (f2 z hz)) _ _ _ _ (hI.env f3)
      rw [List.map_cons, List.map_cons, f4] at k
      exact k
    | false =>
      rw [hc4, cond_false] at h
      obtain ⟨hc, h⟩ := xbif h
      obtain ⟨hc, hv⟩ := xand hc
      obtain ⟨hc, hvi⟩ := xand hc
      obtain ⟨hc, hr⟩ := xand hc
      obtain ⟨hx0, hxl⟩ := xand hc
      rw [xF_eq] at h
      obtain ⟨hc2, h⟩ := xbif h
      obtain ⟨hc3, hlt⟩ := xand hc2
      obtain ⟨e1, e3⟩ := xE_int (ρ := ρ) (b := b) (cA := cA) (ad := ad) (xbeq hc3)
      rw [xF_eq, xSet_eq, xF_eq] at h
      have he := xWs_get (ρ := ρ) (b := b) (cA := cA) (ad := ad) (xGet_some rfl e3)
      rw [e1] at he
      have hset : xWs ρ b cA ad (Wd.set (r / 8) (xPn (xGet Wd (r / 8)) (x / 8) 1 v)) = (xWs ρ b cA ad Wd).set (r / 8) (ad (r / 8), .inl (cA 0, xGet Wd (r / 8) % 18446744073709551616 / 8, .inl (upd (fun k => xd32 ρ (xDn (xGet Wd (r / 8)) k 1)) (x / 8) (xd32 ρ v)))) := by
        rw [xWs_set, (xE_int (ρ := ρ) (b := b) (cA := cA) (ad := ad) (by rw [xPn_8]; exact xbeq hc3)).1, xPn_hdr]
        have hf : (fun k => xd32 ρ (xDn (xPn (xGet Wd (r / 8)) (x / 8) 1 v) k 1)) = upd (fun k => xd32 ρ (xDn (xGet Wd (r / 8)) k 1)) (x / 8) (xd32 ρ v) := by
          funext k
          unfold upd
          rw [xPn_one (xblt hv)]
          split <;> rfl
        rw [hf]
      rw [List.map_cons, List.map_cons, List.map_cons, xgI hvi, xg0 (xbeq hx0), xg2 (xbeq hr)]
      refine va_iast hx hb hKt hI.2.1.1 hI.2.1.2.1 hI.2.1.2.2 (r / 8) 0 he rfl (xin_nI (xblt hlt) (xblt hxl)) hdg fun H1 locs1 hP1 hD1 hS1 => ?_
      rw [nI_clamp (xblt hxl), ← hset] at hP1 hD1
      exact hK _ _ _ _ _ _ _ _ h ho _ _ _ _ (hI.cell hP1 hD1 hS1)
  | [], h => cases h
  | [_], h => cases h
  | [_, _], h => cases h
theorem xs_laload (hx : p.tables.exec = Jvm.exec) (hb : c.code = bb) (hK : xHK p l e R s m args below meth c Q ρ b cA D A H0 nL ad0 n0 K outs) (hI : xInv ρ b cA D A H0 nL ad0 n0 ad H locs ls L Wd env) (ho : ∀ y ∈ o, y ∈ outs) (h : xo_laload K a1 a2 pc L S Wd cc cs env = some o)
    (hKt : va_K D vwCl (xTys cA) s) (hdg : decode bb pc = .ok (.laload, 1)) : W p l e R s m args below meth c H locs cc cs Q (F0 m pc ls (S.map (xg ρ b ad))) := by
  unfold xo_laload at h
  match S, h with
  | x :: r :: t, h =>
    dsimp only at h
    obtain ⟨hc, h⟩ := xbif h
    obtain ⟨hc, hr⟩ := xand hc
    obtain ⟨hx0, hxl⟩ := xand hc
    rw [xF_eq] at h
    obtain ⟨hc2, h⟩ := xbif h
    obtain ⟨hc3, hlt⟩ := xand hc2
    obtain ⟨e1, e3⟩ := xE_lon (ρ := ρ) (b := b) (cA := cA) (ad := ad) (xbeq hc3)
    rw [xF_eq, xF_eq] at h
    have k := hK _ _ _ _ _ _ _ _ h ho _ _ _ _ hI
    have he := xWs_get (ρ := ρ) (b := b) (cA := cA) (ad := ad) (xGet_some rfl e3)
    rw [e1] at he
    rw [List.map_cons, xg81] at k
    rw [List.map_cons, List.map_cons, xg0 (xbeq hx0), xg2 (xbeq hr)]
    refine va_lald hx hb hKt hI.2.1.1 (r / 8) 1 he rfl (xin_nI (xblt hlt) (xblt hxl)) hdg ?_
    rw [nI_clamp (xblt hxl)]
    exact k
  | [], h => cases h
  | [_], h => cases h
theorem xs_lastore (hx : p.tables.exec = Jvm.exec) (hb : c.code = bb) (hK : xHK p l e R s m args below meth c Q ρ b cA D A H0 nL ad0 n0 K outs) (hI : xInv ρ b cA D A H0 nL ad0 n0 ad H locs ls L Wd env) (ho : ∀ y ∈ o, y ∈ outs) (h : xo_lastore K a1 a2 pc L S Wd cc cs env = some o)
    (hKt : va_K D vwCl (xTys cA) s) (hdg : decode bb pc = .ok (.lastore, 1)) : W p l e R s m args below meth c H locs cc cs Q (F0 m pc ls (S.map (xg ρ b ad))) := by
  unfold xo_lastore at h
  match S, h with
  | v :: x :: r :: t, h =>
    dsimp only at h
    obtain ⟨hc, h⟩ := xbif h
    obtain ⟨hc, hv⟩ := xand hc
    obtain ⟨hc, hvi⟩ := xand hc
    obtain ⟨hc, hr⟩ := xand hc
    obtain ⟨hx0, hxl⟩ := xand hc
    rw [xF_eq] at h
    obtain ⟨hc2, h⟩ := xbif h
    obtain ⟨hc3, hlt⟩ := xand hc2
    obtain ⟨e1, e3⟩ := xE_lon (ρ := ρ) (b := b) (cA := cA) (ad := ad) (xbeq hc3)
    rw [xF_eq, xSet_eq, xF_eq] at h
    have he := xWs_get (ρ := ρ) (b := b) (cA := cA) (ad := ad) (xGet_some rfl e3)
    rw [e1] at he
    have hv8 : v / 8 < 4722366482869645213696 := Nat.lt_of_le_of_lt (Nat.div_le_self _ _) (xblt hv)
    have hset : xWs ρ b cA ad (Wd.set (r / 8) (xPn (xGet Wd (r / 8)) (x / 8) 1 (v / 8))) = (xWs ρ b cA ad Wd).set (r / 8) (ad (r / 8), .inl (cA 1, xGet Wd (r / 8) % 18446744073709551616 / 8, .inr (.inl (vp_updL (fun k => lN (xDn (xGet Wd (r / 8)) k 1)) (x / 8) (lN (v / 8)))))) := by
      rw [xWs_set, (xE_lon (ρ := ρ) (b := b) (cA := cA) (ad := ad) (by rw [xPn_8]; exact xbeq hc3)).1, xPn_hdr]
      have hf : (fun k => lN (xDn (xPn (xGet Wd (r / 8)) (x / 8) 1 (v / 8)) k 1)) = vp_updL (fun k => lN (xDn (xGet Wd (r / 8)) k 1)) (x / 8) (lN (v / 8)) := by
        funext k
        unfold vp_updL
        rw [xPn_one hv8]
        split <;> rfl
      rw [hf]
    rw [List.map_cons, List.map_cons, List.map_cons, xg1 (xbeq hvi), xg0 (xbeq hx0), xg2 (xbeq hr)]
    refine va_last hx hb hKt hI.2.1.1 hI.2.1.2.1 hI.2.1.2.2 (r / 8) 1 he rfl (xin_nI (xblt hlt) (xblt hxl)) hdg fun H1 locs1 hP1 hD1 hS1 => ?_
    rw [nI_clamp (xblt hxl), ← hset] at hP1 hD1
    exact hK _ _ _ _ _ _ _ _ h ho _ _ _ _ (hI.cell hP1 hD1 hS1)
  | [], h => cases h
  | [_], h => cases h
  | [_, _], h => cases h
theorem xs_baload (hx : p.tables.exec = Jvm.exec) (hb : c.code = bb) (hK : xHK p l e R s m args below meth c Q ρ b cA D A H0 nL ad0 n0 K outs) (hI : xInv ρ b cA D A H0 nL ad0 n0 ad H locs ls L Wd env) (ho : ∀ y ∈ o, y ∈ outs) (h : xo_baload K a1 a2 pc L S Wd cc cs env = some o)
    (hKt : va_K D vwCl (xTys cA) s) (hdg : decode bb pc = .ok (.baload, 1)) : W p l e R s m args below meth c H locs cc cs Q (F0 m pc ls (S.map (xg ρ b ad))) := by
  unfold xo_baload at h
  match S, h with
  | x :: r :: t, h =>
    dsimp only at h
    cases hc4 : Nat.beq (x % 8) 4 with
    | true =>
      rw [hc4, cond_true] at h
      obtain ⟨x', e', o', f1, f2, f3, f4⟩ := xC0_sound (b := b) h (xbeq hc4) hI.2.2.1
      have k := hK _ _ _ _ _ _ _ _ f1 (fun z hz => ho z (f2 z hz)) _ _ _ _ (hI.env f3)
      rw [List.map_cons, f4] at k
      exact k
    | false =>
      rw [hc4, cond_false] at h
      obtain ⟨hc, h⟩ := xbif h
      obtain ⟨hc, hr⟩ := xand hc
      obtain ⟨hx0, hxl⟩ := xand hc
      rw [xF_eq] at h
      obtain ⟨hc2, h⟩ := xbif h
      obtain ⟨hc3, hlt⟩ := xand hc2
      obtain ⟨e1, e3⟩ := xE_boo (ρ := ρ) (b := b) (cA := cA) (ad := ad) (xbeq hc3)
      rw [xF_eq] at h
      obtain ⟨hvi, h⟩ := xbif h
      rw [xF_eq] at h
      have k := hK _ _ _ _ _ _ _ _ h ho _ _ _ _ hI
      have he := xWs_get (ρ := ρ) (b := b) (cA := cA) (ad := ad) (xGet_some rfl e3)
      rw [e1] at he
      rw [List.map_cons, xgI hvi] at k
      rw [List.map_cons, List.map_cons, xg0 (xbeq hx0), xg2 (xbeq hr)]
      refine va_zald hx hb hKt hI.2.1.1 (r / 8) 2 he rfl (xin_nI (xblt hlt) (xblt hxl)) hdg ?_
      rw [nI_clamp (xblt hxl)]
      exact k
  | [], h => cases h
  | [_], h => cases h
theorem xs_bastore (hx : p.tables.exec = Jvm.exec) (hb : c.code = bb) (hK : xHK p l e R s m args below meth c Q ρ b cA D A H0 nL ad0 n0 K outs) (hI : xInv ρ b cA D A H0 nL ad0 n0 ad H locs ls L Wd env) (ho : ∀ y ∈ o, y ∈ outs) (h : xo_bastore K a1 a2 pc L S Wd cc cs env = some o)
    (hKt : va_K D vwCl (xTys cA) s) (hdg : decode bb pc = .ok (.bastore, 1)) : W p l e R s m args below meth c H locs cc cs Q (F0 m pc ls (S.map (xg ρ b ad))) := by
  unfold xo_bastore at h
  match S, h with
  | v :: x :: r :: t, h =>
    dsimp only at h
    cases hc4 : Nat.beq (x % 8) 4 with
    | true =>
      rw [hc4, cond_true] at h
      obtain ⟨x', e', o', f1, f2, f3, f4⟩ := xC0_sound (b := b) h (xbeq hc4) hI.2.2.1
      have k := hK _ _ _ _ _ _ _ _ f1 (fun z hz => ho z (f2 z hz)) _ _ _ _ (hI.env f3)
      rw [List.map_cons, List.map_cons, f4] at k
      exact k
    | false =>
      rw [hc4, cond_false] at h
      obtain ⟨hc, h⟩ := xbif h
      obtain ⟨hc, hv⟩ := xand hc
      obtain ⟨hc, hr⟩ := xand hc
      obtain ⟨hx0, hxl⟩ := xand hc
      rw [xF_eq] at h
      obtain ⟨hc2, h⟩ := xbif h
      obtain ⟨hc3, hlt⟩ := xand hc2
      obtain ⟨e1, e3⟩ := xE_boo (ρ := ρ) (b := b) (cA := cA) (ad := ad) (xbeq hc3)
      rw [xF_eq, xSet_eq, xF_eq] at h
      have he := xWs_get (ρ := ρ) (b := b) (cA := cA) (ad := ad) (xGet_some rfl e3)
      rw [e1] at he
      have hv2 : v = 0 ∨ v = 8 := by
        cases hq : Nat.beq v 0 with
        | true => exact Or.inl (xbeq hq)
        | false => rw [hq] at hv; exact Or.inr (xbeq (show Nat.beq v 8 = true from hv))
      have hvn : vp_nar .boolean (xd32 ρ v) = xd32 ρ v := by rcases hv2 with rfl | rfl <;> (unfold xd32; rw [if_neg (by decide)]; decide +kernel)
      have hvi : xIsI v = true := by rcases hv2 with rfl | rfl <;> rfl
      have hvb : v < 4722366482869645213696 := by omega
      have hset : xWs ρ b cA ad (Wd.set (r / 8) (xPn (xGet Wd (r / 8)) (x / 8) 1 v)) = (xWs ρ b cA ad Wd).set (r / 8) (ad (r / 8), .inl (cA 2, xGet Wd (r / 8) % 18446744073709551616 / 8, .inl (upd (fun k => xd32 ρ (xDn (xGet Wd (r / 8)) k 1)) (x / 8) (xd32 ρ v)))) := by
        rw [xWs_set, (xE_boo (ρ := ρ) (b := b) (cA := cA) (ad := ad) (by rw [xPn_8]; exact xbeq hc3)).1, xPn_hdr]
        have hf : (fun k => xd32 ρ (xDn (xPn (xGet Wd (r / 8)) (x / 8) 1 v) k 1)) = upd (fun k => xd32 ρ (xDn (xGet Wd (r / 8)) k 1)) (x / 8) (xd32 ρ v) := by
          funext k
          unfold upd
          rw [xPn_one hvb]
          split <;> rfl
        rw [hf]
      rw [List.map_cons, List.map_cons, List.map_cons, xgI hvi, xg0 (xbeq hx0), xg2 (xbeq hr)]
      refine va_zast hx hb hKt hI.2.1.1 hI.2.1.2.1 hI.2.1.2.2 (r / 8) 2 he rfl (xin_nI (xblt hlt) (xblt hxl)) hdg fun H1 locs1 hP1 hD1 hS1 => ?_
      rw [nI_clamp (xblt hxl), hvn, ← hset] at hP1 hD1
      exact hK _ _ _ _ _ _ _ _ h ho _ _ _ _ (hI.cell hP1 hD1 hS1)
  | [], h => cases h
  | [_], h => cases h
  | [_, _], h => cases h
theorem xs_aaload (hx : p.tables.exec = Jvm.exec) (hb : c.code = bb) (hK : xHK p l e R s m args below meth c Q ρ b cA D A H0 nL ad0 n0 K outs) (hI : xInv ρ b cA D A H0 nL ad0 n0 ad H locs ls L Wd env) (ho : ∀ y ∈ o, y ∈ outs) (h : xo_aaload K a1 a2 pc L S Wd cc cs env = some o)
    (hKt : va_K D vwCl (xTys cA) s) (hdg : decode bb pc = .ok (.aaload, 1)) : W p l e R s m args below meth c H locs cc cs Q (F0 m pc ls (S.map (xg ρ b ad))) := by
  unfold xo_aaload at h
  match S, h with
  | x :: r :: t, h =>
    dsimp only at h
    cases hc4 : Nat.beq (x % 8) 4 with
    | true =>
      rw [hc4, cond_true] at h
      obtain ⟨x', e', o', f1, f2, f3, f4⟩ := xC0_sound (b := b) h (xbeq hc4) hI.2.2.1
      have k := hK _ _ _ _ _ _ _ _ f1 (fun z hz => ho z (f2 z hz)) _ _ _ _ (hI.env f3)
      rw [List.map_cons, f4] at k
      exact k
    | false =>
      rw [hc4, cond_false] at h
      obtain ⟨hc, h⟩ := xbif h
      obtain ⟨hc, hr⟩ := xand hc
      obtain ⟨hx0, hxl⟩ := xand hc
      rw [xF_eq] at h
      obtain ⟨hc2, h⟩ := xbif h
      obtain ⟨hc3, hlt⟩ := xand hc2
      obtain ⟨e1, e3⟩ := xE_ref (ρ := ρ) (b := b) (cA := cA) (ad := ad) (xbeq hc3)
      rw [xF_eq] at h
      cases hz : Nat.beq (xDn (xGet Wd (r / 8)) (x / 8) 1) 0 with
      | true => rw [hz, cond_true] at h; cases h
      | false =>
        rw [hz, cond_false, xF_eq, xF_eq] at h
        have hnz : ¬ xDn (xGet Wd (r / 8)) (x / 8) 1 = 0 := fun q => by rw [q] at hz; cases hz
        have k := hK _ _ _ _ _ _ _ _ h ho _ _ _ _ hI
        have he := xWs_get (ρ := ρ) (b := b) (cA := cA) (ad := ad) (xGet_some rfl e3)
        rw [e1] at he
        rw [List.map_cons, xg2 (by omega), show ((xDn (xGet Wd (r / 8)) (x / 8) 1 - 1) * 8 + 2) / 8 = xDn (xGet Wd (r / 8)) (x / 8) 1 - 1 by omega] at k
        rw [List.map_cons, List.map_cons, xg0 (xbeq hx0), xg2 (xbeq hr)]
        refine va_aldq hx hb hKt hI.2.1.1 (r / 8) 3 he rfl (xin_nI (xblt hlt) (xblt hxl)) hdg ?_
        rw [nI_clamp (xblt hxl), if_pos (xblt hlt)]
        unfold xqf
        rw [if_neg hnz]
        exact k
  | [], h => cases h
  | [_], h => cases h
theorem xs_aastore (hx : p.tables.exec = Jvm.exec) (hb : c.code = bb) (hK : xHK p l e R s m args below meth c Q ρ b cA D A H0 nL ad0 n0 K outs) (hI : xInv ρ b cA D A H0 nL ad0 n0 ad H locs ls L Wd env) (ho : ∀ y ∈ o, y ∈ outs) (h : xo_aastore K a1 a2 pc L S Wd cc cs env = some o)
    (hKt : va_K D vwCl (xTys cA) s) (hdg : decode bb pc = .ok (.aastore, 1)) : W p l e R s m args below meth c H locs cc cs Q (F0 m pc ls (S.map (xg ρ b ad))) := by
  unfold xo_aastore at h
  match S, h with
  | v :: x :: r :: t, h =>
    dsimp only at h
    obtain ⟨hc, h⟩ := xbif h
    obtain ⟨hc, hv34⟩ := xand hc
    obtain ⟨hc, hv⟩ := xand hc
    obtain ⟨hc, hv2⟩ := xand hc
    obtain ⟨hc, hr⟩ := xand hc
    obtain ⟨hx0, hxl⟩ := xand hc
    rw [xF_eq] at h
    obtain ⟨hc2, h⟩ := xbif h
    obtain ⟨hc3, hlt⟩ := xand hc2
    obtain ⟨e1, e3⟩ := xE_ref (ρ := ρ) (b := b) (cA := cA) (ad := ad) (xbeq hc3)
    obtain ⟨g1, g2, g3⟩ := xE_obj (ρ := ρ) (b := b) (cA := cA) (ad := ad) (ci := 4) (xbeq hv34)
    rw [xF_eq, xSet_eq, xF_eq] at h
    have he := xWs_get (ρ := ρ) (b := b) (cA := cA) (ad := ad) (xGet_some rfl e3)
    rw [e1] at he
    have hg := xWs_get (ρ := ρ) (b := b) (cA := cA) (ad := ad) (xGet_some rfl g3)
    rw [g1] at hg
    have hv' := xblt hv
    have hv8 : v / 8 + 1 < 4722366482869645213696 := by omega
    have hlt' := xblt hlt
    have hset : xWs ρ b cA ad (Wd.set (r / 8) (xPn (xGet Wd (r / 8)) (x / 8) 1 (v / 8 + 1))) = (xWs ρ b cA ad Wd).set (r / 8) (ad (r / 8), .inl (cA 3, xGet Wd (r / 8) % 18446744073709551616 / 8, .inr (.inr (.inr (.inr (va_up (fun k => if k < xGet Wd (r / 8) % 18446744073709551616 / 8 then xqf ad (xDn (xGet Wd (r / 8)) k 1) else none) (x / 8) (some (ad (v / 8))))))))) := by
      rw [xWs_set, (xE_ref (ρ := ρ) (b := b) (cA := cA) (ad := ad) (by rw [xPn_8]; exact xbeq hc3)).1, xPn_hdr]
      have hf : (fun k => if k < xGet Wd (r / 8) % 18446744073709551616 / 8 then xqf ad (xDn (xPn (xGet Wd (r / 8)) (x / 8) 1 (v / 8 + 1)) k 1) else none) = va_up (fun k => if k < xGet Wd (r / 8) % 18446744073709551616 / 8 then xqf ad (xDn (xGet Wd (r / 8)) k 1) else none) (x / 8) (some (ad (v / 8))) := by
        funext k
        unfold va_up
        rw [xPn_one hv8]
        by_cases hk : k = x / 8
        · subst hk
          rw [if_pos rfl, if_pos rfl, if_pos hlt']
          unfold xqf
          rw [if_neg (by omega), show v / 8 + 1 - 1 = v / 8 by omega]
        · rw [if_neg hk, if_neg hk]
      rw [hf]
    rw [List.map_cons, List.map_cons, List.map_cons, xg2 (xbeq hv2), xg0 (xbeq hx0), xg2 (xbeq hr)]
    refine va_astq hx hb hKt hI.2.1.1 hI.2.1.2.1 hI.2.1.2.2 (r / 8) 3 (v / 8) 4 (r := (RX5, TX5, 18)) he rfl hg rfl (xin_nI hlt' (xblt hxl)) hdg fun H1 locs1 hP1 hD1 hS1 => ?_
    rw [nI_clamp (xblt hxl), ← hset] at hP1 hD1
    exact hK _ _ _ _ _ _ _ _ h ho _ _ _ _ (hI.cell hP1 hD1 hS1)
  | [], h => cases h
  | [_], h => cases h
  | [_, _], h => cases h
end XOH
end
section
section XOA
variable {p : Program} {l : Launch} {e : Env} {R : Room} {s : State} {m : MethodId} {args : Array Value} {below : List Frame} {meth : Method} {c : Code} {Q : State → Prop}
variable {ρ : Nat → Int32} {b : Nat} {cA : Nat → ClassId} {D : va_G} {A : Nat → Prop} {H0 : Heap} {nL n0 : Nat} {ad0 : Nat → Nat} {K : xKt} {outs o : List xOut}
variable {bb : ByteArray} {a1 a2 pc cc cs Lz k0 mc ms d : Nat} {L S Wd : List Nat} {env : xEv} {ad : Nat → Nat} {H : Heap} {locs : List Loc} {ls : Array Slot}
theorem xWfW_mem {n : Nat} {l : List Nat} (h : xWfW n l = true) : ∀ cv ∈ l, xWfC n cv = true := by
  induction l with
  | nil => intro cv hc; cases hc
  | cons a t ih =>
    intro cv hc
    have h' : (xWfC n a && xWfW n t) = true := h
    rcases List.mem_cons.mp hc with rfl | hc
    · exact (xand h').1
    · exact ih (xand h').2 cv hc
/-- one more cell: the places keep their addresses -/
def xad (ad : Nat → Nat) (n q : Nat) : Nat → Nat := fun i => if i = n then q else ad i
theorem xWs_snoc {q cv : Nat} (h : xWfW Wd.length Wd = true) : xWs ρ b cA (xad ad Wd.length q) (Wd ++ [cv]) = xWs ρ b cA ad Wd ++ [(q, xE ρ b cA (xad ad Wd.length q) cv)] := by
  have hk : ∀ i, i < Wd.length → xad ad Wd.length q i = ad i := fun i hi => by unfold xad; rw [if_neg (by omega)]
  apply List.ext_getElem?
  intro j
  unfold xWs
  rw [List.getElem?_mapIdx]
  by_cases hj : j < Wd.length
  · rw [List.getElem?_append_left hj, List.getElem?_append_left (by simpa using hj), List.getElem?_mapIdx]
    rw [List.getElem?_eq_getElem hj]
    show some (xad ad Wd.length q j, xE ρ b cA (xad ad Wd.length q) Wd[j]) = some (ad j, xE ρ b cA ad Wd[j])
    rw [hk j hj, xE_keep hk (xWfW_mem h _ (List.getElem_mem hj))]
  · by_cases hj2 : j = Wd.length
    · subst hj2
      rw [List.getElem?_append_right (Nat.le_refl _), List.getElem?_append_right (by simp), Nat.sub_self]
      simp [xad]
    · rw [List.getElem?_eq_none (by simp; omega), List.getElem?_eq_none (by simp; omega)]
      rfl
theorem xInv.snoc {q cv : Nat} {H1 : Heap} {locs1 : List Loc} (hI : xInv ρ b cA D A H0 nL ad0 n0 ad H locs ls L Wd env) (hL : xWfL Wd.length L = true) (hW : xWfW Wd.length Wd = true) (hP : va_P D vwCl (xWs ρ b cA ad Wd ++ [(q, xE ρ b cA (xad ad Wd.length q) cv)]) H1) (hD : va_D A (xWs ρ b cA ad Wd ++ [(q, xE ρ b cA (xad ad Wd.length q) cv)])) (hS : va_S A H0 H1 locs1) : xInv ρ b cA D A H0 nL ad0 n0 (xad ad Wd.length q) H1 locs1 ls L (Wd ++ [cv]) env := by
  have hk : ∀ i, i < Wd.length → xad ad Wd.length q i = ad i := fun i hi => by unfold xad; rw [if_neg (by omega)]
  rw [← xWs_snoc hW] at hP hD
  refine ⟨⟨hI.1.1, xlv_mono hI.1.2 fun z hz => ?_⟩, ⟨hP, hD, hS⟩, hI.2.2.1, ?_⟩
  · obtain ⟨cz, e1, e2, e3⟩ := xLl_mem.mp hz
    refine xLl_mem.mpr ⟨cz, e1, e2, ?_⟩
    rw [e3, xg_keep hk (xWfL_mem hL cz (List.mem_of_getElem? e1))]
  · obtain ⟨g1, g2, g3⟩ := hI.2.2.2
    refine ⟨by rw [List.length_append]; omega, fun i hi => by rw [hk i (by omega), g2 i hi], fun hq => ?_⟩
    rw [List.length_append] at hq
    simp at hq
    omega
theorem xmapS {q : Nat} {l : List Nat} (h : xWfL Wd.length l = true) : l.map (xg ρ b (xad ad Wd.length q)) = l.map (xg ρ b ad) := xmap_keep (fun i hi => by unfold xad; rw [if_neg (by omega)]) h
theorem xg_new (q : Nat) : xg ρ b (xad ad Wd.length q) (Wd.length * 8 + 2) = .ref q := by
  rw [xg2 (by omega), show (Wd.length * 8 + 2) / 8 = Wd.length by omega]
  unfold xad
  rw [if_pos rfl]
theorem xs_new (hx : p.tables.exec = Jvm.exec) (hb : c.code = bb) (hK : xHK p l e R s m args below meth c Q ρ b cA D A H0 nL ad0 n0 K outs) (hI : xInv ρ b cA D A H0 nL ad0 n0 ad H locs ls L Wd env) (ho : ∀ y ∈ o, y ∈ outs) (h : xo_new Lz k0 mc ms K a1 a2 pc L S Wd cc cs env = some o)
    {own : String} (hts : ∀ w ∈ xTb, w.before args s = true) (hown : s.vm.findClass own = some m.cls) (hKt : va_K D vwCl (xTys cA) s) (hA : ∀ q, H0.size ≤ q → A q) (hmc : mc ≤ R.cells) (hms : ms ≤ R.slots) {idx : Nat} {q : vw_C} (hdg : decode bb pc = .ok (.new idx, 3)) (hq : vwCl[a1]? = some q) (hl : Jvm.Cond.classLink own idx q.1 ∈ xTb) (hi : Jvm.Cond.instantiable q.1 q.2.2 ∈ xTb) (hn : Jvm.Cond.initialized q.1 ∈ xTb) : W p l e R s m args below meth c H locs cc cs Q (F0 m pc ls (S.map (xg ρ b ad))) := by
  unfold xo_new at h
  rw [xF_eq] at h
  obtain ⟨hc, h⟩ := xbif h
  obtain ⟨hc, hW⟩ := xand hc
  obtain ⟨hc, hS⟩ := xand hc
  obtain ⟨hc, hL⟩ := xand hc
  obtain ⟨hc1, hc2⟩ := xand hc
  rw [xLen_eq] at hW hS hL
  rw [xF_eq, xSnoc_eq, xF_eq, xF_eq, xF_eq, xF_eq, xLen_eq] at h
  have ha1 : a1 < 10 := by
    have := (List.getElem?_eq_some_iff.mp hq).1
    simpa [vwCl] using this
  obtain ⟨d1, d2⟩ := xDef_ok a1 ha1
  have hcl := xCls_ok hq
  have hN : xNf a1 = q.2.2 := xNf_eq hq
  have hnr : ∀ j, j < xNf a1 → ¬ xDn (xDefO a1 (xNf a1)) j 1 % 8 = 2 := by
    intro j hj
    obtain ⟨f1, f2⟩ := d2 j hj
    rw [f1]
    rcases f2 with f2 | f2 | ⟨f2, f3⟩
    · rw [f2]; decide
    · rw [f2]; decide
    · rw [f3]; decide
  obtain ⟨C, T, N⟩ := q
  dsimp only at hN
  refine va_new hx hb hts hcl.1 (xTyOf a1) hcl.2.1 hown (hts _ hl) (hts _ hi) (hts _ hn) hKt hI.2.1.1 hI.2.1.2.1 hI.2.1.2.2 hA hq (fs := (List.range (xNf a1)).map (fun k => xg ρ b ad (xDn (xDefO a1 (xNf a1)) k 1))) (fun j hj => ?_) (Nat.le_trans (xble hc1) hmc) (by rw [← hN]; exact Nat.le_trans (xble hc2) hms) hdg (fun qa H1 hP1 hD1 hS1 => ?_)
  · have hj' : j < xNf a1 := by rw [hN]; exact hj
    unfold vp_V
    rw [List.getD_eq_getElem?_getD, List.getElem?_map, List.getElem?_range hj']
    show _ = xg ρ b ad (xDn (xDefO a1 (xNf a1)) j 1)
    obtain ⟨f1, f2⟩ := d2 j hj'
    rw [f1]
    rcases f2 with f2 | f2 | ⟨f2, f3⟩
    · rw [f2]; rfl
    · rw [f2]; rfl
    · rw [f2, f3]; rfl
  · have he : xE ρ b cA (xad ad Wd.length qa) (xDefO a1 (xNf a1)) = .inr (a1, (List.range (xNf a1)).map (fun k => xg ρ b ad (xDn (xDefO a1 (xNf a1)) k 1))) := by
      rw [(xE_obj (ρ := ρ) (b := b) (cA := cA) (ad := xad ad Wd.length qa) d1).1]
      congr 2
      apply List.map_congr_left
      intro k hk
      exact xg_keep (n := 0) (fun i hi => by omega) (fun z => absurd z (hnr k (List.mem_range.mp hk)))
    rw [← he] at hP1 hD1
    have k := hK _ _ _ _ _ _ _ _ h ho _ _ _ _ (hI.snoc hL hW hP1 hD1 hS1)
    rw [List.map_cons, xg_new, xmapS hS, hN] at k
    exact k
theorem xnewk {ty : FieldType} {t : Nat} (hKt : va_K D vwCl (xTys cA) s) (ht : (xTys cA)[t]? = some (cA t, ty)) {cB : ClassId} (hK' : va_K D vwCl (xTys cA ++ [(cB, ty)]) s) (hp : (∃ C, ty = .object C) ∨ (ty = .int ∨ ty = .long ∨ ty = .boolean)) : cB = cA t := by
  have h1 := (hKt.2 t _ ht).2
  have h2 := (hK'.2 4 (cB, ty) rfl).2
  rcases hp with ⟨C, rfl⟩ | rfl | rfl | rfl
  · obtain ⟨_, _, _, _, _, f1⟩ := h1
    obtain ⟨_, _, _, _, _, f2⟩ := h2
    exact Option.some.inj (f2.symm.trans f1)
  · exact Option.some.inj ((show s.vm.findClass _ = some cB from h2).symm.trans h1)
  · exact Option.some.inj ((show s.vm.findClass _ = some cB from h2).symm.trans h1)
  · exact Option.some.inj ((show s.vm.findClass _ = some cB from h2).symm.trans h1)
theorem xs_newa (hx : p.tables.exec = Jvm.exec) (hb : c.code = bb) (hK : xHK p l e R s m args below meth c Q ρ b cA D A H0 nL ad0 n0 K outs) (hI : xInv ρ b cA D A H0 nL ad0 n0 ad H locs ls L Wd env) (ho : ∀ y ∈ o, y ∈ outs) {t : ArrayType} (h : xo_newa mc ms K (.newarray t) pc L S Wd cc cs env = some o)
    (hts : ∀ w ∈ xTb, w.before args s = true) (hKt : va_K D vwCl (xTys cA) s) (hA : ∀ q, H0.size ≤ q → A q) (hmc : mc ≤ R.cells) (hms : ms ≤ R.slots) (hdg : decode bb pc = .ok (.newarray t, 2)) (hw : Jvm.Cond.arrayClass (newarray.typeOf t) ∈ xTb) : W p l e R s m args below meth c H locs cc cs Q (F0 m pc ls (S.map (xg ρ b ad))) := by
  unfold xo_newa at h
  match S, h with
  | x :: r, h =>
    dsimp only at h
    rw [xF_eq] at h
    obtain ⟨hc, h⟩ := xbif h
    obtain ⟨hc, hW⟩ := xand hc
    obtain ⟨hc, hS⟩ := xand hc
    obtain ⟨hc, hL⟩ := xand hc
    obtain ⟨hc, hc2⟩ := xand hc
    obtain ⟨hc, hc1⟩ := xand hc
    obtain ⟨hc, hty⟩ := xand hc
    obtain ⟨hx0, hxl⟩ := xand hc
    have hxl := xble hxl
    rw [xLen_eq] at hW hS hL
    rw [xF_eq, xSnoc_eq, xF_eq, xF_eq, xF_eq, xF_eq, xLen_eq] at h
    have hcl : 1 + 2 * xAty t + 8 * (x / 8) < 18446744073709551616 := by
      have := xblt hty
      omega
    have hlen : (1 + 2 * xAty t + 8 * (x / 8)) % 18446744073709551616 / 8 = x / 8 := by
      have := xblt hty
      rw [Nat.mod_eq_of_lt hcl]
      omega
    have hcl0 : (nI (x / 8)).toNatClampNeg = x / 8 := nI_clamp (by omega)
    have hn0 : ¬ nI (x / 8) < 0 := nI_pos (by omega)
    rw [List.map_cons, xg0 (xbeq hx0)]
    have go : ∀ (ty : FieldType) (tt : Nat) (a0 : vp_A), newarray.typeOf t = ty → (xTys cA)[tt]? = some (cA tt, ty) → ((∃ C, ty = .object C) ∨ (ty = .int ∨ ty = .long ∨ ty = .boolean)) → (∀ cB : ClassId, vp_cell cB a0 = arrV cB (x / 8) (fun _ => defaultValue ty)) → (componentBytes ty ≤ 8) → (∀ ad', xE ρ b cA ad' (1 + 2 * xAty t + 8 * (x / 8)) = .inl (cA tt, a0)) → W p l e R s m args below meth c H locs cc cs Q (F0 m pc ls (.int (nI (x / 8)) :: r.map (xg ρ b ad))) := by
      intro ty tt a0 g1 g2 g3 g4 g5 g6
      refine va_newa hx hb (hts _ hw) g1 hKt hI.2.1.1 hI.2.1.2.1 hI.2.1.2.2 hA g4 hn0 hcl0 (by have := Nat.mul_le_mul hxl g5; omega) (Nat.le_trans (xble hc1) hmc) (Nat.le_trans (xble hc2) hms) hdg (fun qa cB H1 hK1 hP1 hD1 hS1 => ?_)
      have e := xnewk hKt g2 hK1 g3
      subst e
      rw [← g6 (xad ad Wd.length qa)] at hP1 hD1
      have k := hK _ _ _ _ _ _ _ _ h ho _ _ _ _ (hI.snoc hL hW hP1 hD1 hS1)
      rw [List.map_cons, xg_new, xmapS hS] at k
      exact k
    cases t with
    | int =>
      refine go .int 0 (x / 8, .inl (fun k => xd32 ρ (xDn (1 + 2 * xAty .int + 8 * (x / 8)) k 1))) rfl rfl (Or.inr (Or.inl rfl)) (fun cB => ?_) (by decide) (fun ad' => ?_)
      · rw [vp_cell_i]
        congr 1
        funext j
        rw [xDn_small hcl]
        rfl
      · rw [(xE_int (by show (1 + 2 * 0 + 8 * (x / 8)) % 8 = 1; omega)).1, hlen]
    | long =>
      refine go .long 1 (x / 8, .inr (.inl (fun k => lN (xDn (1 + 2 * xAty .long + 8 * (x / 8)) k 1)))) rfl rfl (Or.inr (Or.inr (Or.inl rfl))) (fun cB => ?_) (by decide) (fun ad' => ?_)
      · rw [vp_cell_l]
        congr 1
        funext j
        rw [xDn_small hcl]
        rfl
      · rw [(xE_lon (by show (1 + 2 * 1 + 8 * (x / 8)) % 8 = 3; omega)).1, hlen]
    | boolean =>
      refine go .boolean 2 (x / 8, .inl (fun k => xd32 ρ (xDn (1 + 2 * xAty .boolean + 8 * (x / 8)) k 1))) rfl rfl (Or.inr (Or.inr (Or.inr rfl))) (fun cB => ?_) (by decide) (fun ad' => ?_)
      · rw [vp_cell_i]
        congr 1
        funext j
        rw [xDn_small hcl]
        rfl
      · rw [(xE_boo (by show (1 + 2 * 2 + 8 * (x / 8)) % 8 = 5; omega)).1, hlen]
    | char => exact absurd hty (by decide)
    | float => exact absurd hty (by decide)
    | double => exact absurd hty (by decide)
    | byte => exact absurd hty (by decide)
    | short => exact absurd hty (by decide)
  | [], h => cases h
theorem xs_anewa (hx : p.tables.exec = Jvm.exec) (hb : c.code = bb) (hK : xHK p l e R s m args below meth c Q ρ b cA D A H0 nL ad0 n0 K outs) (hI : xInv ρ b cA D A H0 nL ad0 n0 ad H locs ls L Wd env) (ho : ∀ y ∈ o, y ∈ outs) (h : xo_anewa Lz k0 mc ms K a1 a2 pc L S Wd cc cs env = some o)
    {own : String} (hts : ∀ w ∈ xTb, w.before args s = true) (hown : s.vm.findClass own = some m.cls) (hKt : va_K D vwCl (xTys cA) s) (hA : ∀ q, H0.size ≤ q → A q) (hmc : mc ≤ R.cells) (hms : ms ≤ R.slots) {idx : Nat} (hdg : decode bb pc = .ok (.anewarray idx, 3)) (hl : Jvm.Cond.classLink own idx RX5 ∈ xTb) (hw : va_AO RX5 s) : W p l e R s m args below meth c H locs cc cs Q (F0 m pc ls (S.map (xg ρ b ad))) := by
  unfold xo_anewa at h
  match S, h with
  | x :: r, h =>
    dsimp only at h
    rw [xF_eq] at h
    obtain ⟨hc, h⟩ := xbif h
    obtain ⟨hc, hW⟩ := xand hc
    obtain ⟨hc, hS⟩ := xand hc
    obtain ⟨hc, hL⟩ := xand hc
    obtain ⟨hc, hc2⟩ := xand hc
    obtain ⟨hc, hc1⟩ := xand hc
    obtain ⟨hx0, hxl⟩ := xand hc
    have hxl := xble hxl
    rw [xLen_eq] at hW hS hL
    rw [xF_eq, xSnoc_eq, xF_eq, xF_eq, xF_eq, xF_eq, xLen_eq] at h
    have hcl : 7 + 8 * (x / 8) < 18446744073709551616 := by omega
    have hlen : (7 + 8 * (x / 8)) % 18446744073709551616 / 8 = x / 8 := by
      rw [Nat.mod_eq_of_lt hcl]
      omega
    rw [List.map_cons, xg0 (xbeq hx0)]
    refine va_newq hx hb hown (hts _ hl) hw hKt hI.2.1.1 hI.2.1.2.1 hI.2.1.2.2 hA (nI_pos (by omega)) (nI_clamp (by omega)) (by omega) (Nat.le_trans (xble hc1) hmc) (Nat.le_trans (xble hc2) hms) hdg (fun qa cB H1 hK1 hP1 hD1 hS1 => ?_)
    have e : cB = cA 3 := xnewk (t := 3) hKt rfl hK1 (Or.inl ⟨RX5, rfl⟩)
    subst e
    have g6 : xE ρ b cA (xad ad Wd.length qa) (7 + 8 * (x / 8)) = .inl (cA 3, x / 8, .inr (.inr (.inr (.inr (fun _ => none))))) := by
      rw [(xE_ref (by omega)).1, hlen]
      congr 7
      funext j
      rw [xDn_small hcl]
      split <;> rfl
    rw [← g6] at hP1 hD1
    have k := hK _ _ _ _ _ _ _ _ h ho _ _ _ _ (hI.snoc hL hW hP1 hD1 hS1)
    rw [List.map_cons, xg_new, xmapS hS] at k
    exact k
  | [], h => cases h
theorem xs_sload (hx : p.tables.exec = Jvm.exec) (hb : c.code = bb) (hK : xHK p l e R s m args below meth c Q ρ b cA D A H0 nL ad0 n0 K outs) (hI : xInv ρ b cA D A H0 nL ad0 n0 ad H locs ls L Wd env) (ho : ∀ y ∈ o, y ∈ outs) (h : xo_sload Lz k0 mc ms K a1 a2 pc L S Wd cc cs env = some o)
    (hX : k0 = 0 → va_X b Lz ρ s H0 ∧ b < H0.size ∧ ¬ A b) (hdg : decode bb pc = .ok (.iaload, 1)) : W p l e R s m args below meth c H locs cc cs Q (F0 m pc ls (S.map (xg ρ b ad))) := by
  unfold xo_sload at h
  match S, h with
  | x :: r :: t, h =>
    dsimp only at h
    obtain ⟨hc, h⟩ := xbif h
    obtain ⟨hc, hlt⟩ := xand hc
    obtain ⟨hc, hk⟩ := xand hc
    obtain ⟨hc, hr⟩ := xand hc
    obtain ⟨hx0, hxl⟩ := xand hc
    obtain ⟨f1, f2, f3⟩ := hX (xbeq hk)
    have hr := xbeq hr
    rw [xF_eq, xF_eq] at h
    have k := hK _ _ _ _ _ _ _ _ h ho _ _ _ _ hI
    rw [List.map_cons, xg4 (by omega), show (x / 8 * 8 + 4) / 8 = x / 8 by omega] at k
    rw [List.map_cons, List.map_cons, xg0 (xbeq hx0), hr, xg6 rfl]
    refine va_sld hx hb f1 f2 f3 hI.2.1.2.2 (xin_nI (xblt hlt) (xblt hxl)) hdg ?_
    rw [nI_clamp (xblt hxl)]
    exact k
  | [], h => cases h
  | [_], h => cases h
theorem xs_alen (hx : p.tables.exec = Jvm.exec) (hb : c.code = bb) (hK : xHK p l e R s m args below meth c Q ρ b cA D A H0 nL ad0 n0 K outs) (hI : xInv ρ b cA D A H0 nL ad0 n0 ad H locs ls L Wd env) (ho : ∀ y ∈ o, y ∈ outs) (h : xo_alen Lz k0 mc ms K a1 a2 pc L S Wd cc cs env = some o)
    (hKt : va_K D vwCl (xTys cA) s) (hX : k0 = 0 → va_X b Lz ρ s H0 ∧ b < H0.size ∧ ¬ A b) (hdg : decode bb pc = .ok (.arraylength, 1)) : W p l e R s m args below meth c H locs cc cs Q (F0 m pc ls (S.map (xg ρ b ad))) := by
  unfold xo_alen at h
  match S, h with
  | r :: t, h =>
    dsimp only at h
    cases hr : Nat.beq (r % 8) 2 with
    | true =>
      rw [hr, cond_true, xF_eq] at h
      obtain ⟨hc, h⟩ := xbif h
      have hc := xbeq hc
      rw [xF_eq, xF_eq] at h
      have k := hK _ _ _ _ _ _ _ _ h ho _ _ _ _ hI
      rw [List.map_cons, xg8] at k
      rw [List.map_cons, xg2 (xbeq hr)]
      have h4 : xGet Wd (r / 8) % 8 = 1 ∨ xGet Wd (r / 8) % 8 = 3 ∨ xGet Wd (r / 8) % 8 = 5 ∨ xGet Wd (r / 8) % 8 = 7 := by omega
      rcases h4 with h4 | h4 | h4 | h4
      · obtain ⟨e1, e3⟩ := xE_int (ρ := ρ) (b := b) (cA := cA) (ad := ad) h4
        have he := xWs_get (ρ := ρ) (b := b) (cA := cA) (ad := ad) (xGet_some rfl e3)
        rw [e1] at he
        exact va_alen hx hb hKt hI.2.1.1 (r / 8) 0 he rfl rfl hdg k
      · obtain ⟨e1, e3⟩ := xE_lon (ρ := ρ) (b := b) (cA := cA) (ad := ad) h4
        have he := xWs_get (ρ := ρ) (b := b) (cA := cA) (ad := ad) (xGet_some rfl e3)
        rw [e1] at he
        exact va_alen hx hb hKt hI.2.1.1 (r / 8) 1 he rfl rfl hdg k
      · obtain ⟨e1, e3⟩ := xE_boo (ρ := ρ) (b := b) (cA := cA) (ad := ad) h4
        have he := xWs_get (ρ := ρ) (b := b) (cA := cA) (ad := ad) (xGet_some rfl e3)
        rw [e1] at he
        exact va_alen hx hb hKt hI.2.1.1 (r / 8) 2 he rfl rfl hdg k
      · obtain ⟨e1, e3⟩ := xE_ref (ρ := ρ) (b := b) (cA := cA) (ad := ad) h4
        have he := xWs_get (ρ := ρ) (b := b) (cA := cA) (ad := ad) (xGet_some rfl e3)
        rw [e1] at he
        exact va_alen hx hb hKt hI.2.1.1 (r / 8) 3 he rfl rfl hdg k
    | false =>
      rw [hr, cond_false] at h
      obtain ⟨hc, h⟩ := xbif h
      obtain ⟨h6, hk⟩ := xand hc
      obtain ⟨f1, f2, f3⟩ := hX (xbeq hk)
      have h6 := xbeq h6
      rw [xF_eq, xF_eq] at h
      have k := hK _ _ _ _ _ _ _ _ h ho _ _ _ _ hI
      rw [List.map_cons, xg8] at k
      rw [List.map_cons, h6, xg6 rfl]
      exact va_slen hx hb f1 f2 f3 hI.2.1.2.2 hdg k
  | [], h => cases h
theorem xCats_eq (l : List Nat) : ((l.map (xg ρ b ad)).map (fun v => v.category)).sum = xCats l := by
  induction l with
  | nil => rfl
  | cons a t ih =>
    rw [List.map_cons, List.map_cons, List.sum_cons, ih, xg_cat, xCats_cons]
theorem xs_objI (hx : p.tables.exec = Jvm.exec) (hb : c.code = bb) (hK : xHK p l e R s m args below meth c Q ρ b cA D A H0 nL ad0 n0 K outs) (hI : xInv ρ b cA D A H0 nL ad0 n0 ad H locs ls L Wd env) (ho : ∀ y ∈ o, y ∈ outs) (h : xo_objI d K pc L S Wd cc cs env = some o)
    {own : String} (hts : ∀ w ∈ xTb, w.before args s = true) (hown : s.vm.findClass own = some m.cls) (hml : c.maxLocals = nL) (hfr : d ≤ R.frames) (hlo : 60 * d ≤ R.locals) {idx : Nat} (hdg : decode bb pc = .ok (.invokespecial idx, 3)) (hl : Jvm.Cond.methodLink own idx Lib.objectInit ∈ xTb) (hi : Jvm.Cond.instanceMethod Lib.objectInit ∈ xTb) (hc : Jvm.Cond.code Lib.objectInit ⟨#[0xb1]⟩ 1 none ∈ xTb) : W p l e R s m args below meth c H locs cc cs Q (F0 m pc ls (S.map (xg ρ b ad))) := by
  unfold xo_objI at h
  match S, h with
  | r :: t, h =>
    dsimp only at h
    obtain ⟨hb1, h⟩ := xbif h
    obtain ⟨hb2, hd⟩ := xand hb1
    obtain ⟨hr, hca⟩ := xand hb2
    have hd := xblt hd
    have hca := xble hca
    rw [xF_eq] at h
    have k := hK _ _ _ _ _ _ _ _ h ho _ _ _ _ hI
    rw [List.map_cons, xg2 (xbeq hr)]
    refine W.objInit hx hb hown (hts _ hl) (hts _ hi) (hts _ hc) rfl (hI.1.2.1.trans hml.symm) rfl hdg (by omega) ?_ k
    have e := xCats_eq (ρ := ρ) (b := b) (ad := ad) t
    have e2 := lv_room (m := m) (pc := pc) (ls := ls) (rest := xg ρ b ad r :: t.map (xg ρ b ad)) (st := t.map (xg ρ b ad)) (by rw [e]; exact hca)
    rw [xg2 (xbeq hr)] at e2
    refine Nat.le_trans (Nat.add_le_add_right e2 12) ?_
    omega
  | [], h => cases h
theorem xs_acopy (hx : p.tables.exec = Jvm.exec) (hb : c.code = bb) (hK : xHK p l e R s m args below meth c Q ρ b cA D A H0 nL ad0 n0 K outs) (hI : xInv ρ b cA D A H0 nL ad0 n0 ad H locs ls L Wd env) (ho : ∀ y ∈ o, y ∈ outs) (h : xo_acopy d K pc L S Wd cc cs env = some o)
    {own : String} (hts : ∀ w ∈ xTb, w.before args s = true) (hown : s.vm.findClass own = some m.cls) (hKt : va_K D vwCl (xTys cA) s) (hml : c.maxLocals = nL) (hfr : d ≤ R.frames) (hlo : 60 * d ≤ R.locals) {idx : Nat} (hdg : decode bb pc = .ok (.invokestatic idx, 3)) (hl : Jvm.Cond.methodLink own idx arraycopyName ∈ xTb) (hn : Jvm.Cond.native arraycopyName ∈ xTb) (hst : Jvm.Cond.static arraycopyName ∈ xTb) (hi : Jvm.Cond.initialized "java/lang/System" ∈ xTb) : W p l e R s m args below meth c H locs cc cs Q (F0 m pc ls (S.map (xg ρ b ad))) := by
  unfold xo_acopy at h
  match S, h with
  | n :: dp :: dst :: sp :: src :: t, h =>
    dsimp only at h
    obtain ⟨hc, h⟩ := xbif h
    obtain ⟨hc, hne⟩ := xand hc
    obtain ⟨hc, hd⟩ := xand hc
    obtain ⟨hc, hca⟩ := xand hc
    obtain ⟨hc, hspl⟩ := xand hc
    obtain ⟨hc, hdpl⟩ := xand hc
    obtain ⟨hc, hnl⟩ := xand hc
    obtain ⟨hc, hsrc⟩ := xand hc
    obtain ⟨hc, hdst⟩ := xand hc
    obtain ⟨hc, hsp⟩ := xand hc
    obtain ⟨hn0, hdp⟩ := xand hc
    have hspl := xblt hspl
    have hdpl := xblt hdpl
    have hnl := xblt hnl
    have hd := xblt hd
    have hca := xble hca
    rw [xF_eq, xF_eq] at h
    obtain ⟨hc, h⟩ := xbif h
    obtain ⟨hc, hle0⟩ := xand hc
    obtain ⟨hc, hle1⟩ := xand hc
    obtain ⟨ht1, ht0⟩ := xand hc
    rw [xF_eq, xSet_eq, xF_eq] at h
    obtain ⟨e1, e3⟩ := xE_int (ρ := ρ) (b := b) (cA := cA) (ad := ad) (xbeq ht1)
    obtain ⟨f1, f3⟩ := xE_int (ρ := ρ) (b := b) (cA := cA) (ad := ad) (xbeq ht0)
    have he := xWs_get (ρ := ρ) (b := b) (cA := cA) (ad := ad) (xGet_some rfl e3)
    rw [e1] at he
    have hf := xWs_get (ρ := ρ) (b := b) (cA := cA) (ad := ad) (xGet_some rfl f3)
    rw [f1] at hf
    have hv : xDn (xGet Wd (src / 8)) (sp / 8) (n / 8) < 2 ^ (72 * (n / 8)) := Nat.mod_lt _ (Nat.two_pow_pos _)
    have hset : xWs ρ b cA ad (Wd.set (dst / 8) (xPn (xGet Wd (dst / 8)) (dp / 8) (n / 8) (xDn (xGet Wd (src / 8)) (sp / 8) (n / 8)))) = (xWs ρ b cA ad Wd).set (dst / 8) (ad (dst / 8), .inl (cA 0, xGet Wd (dst / 8) % 18446744073709551616 / 8, .inl (va_cpy (fun k => xd32 ρ (xDn (xGet Wd (src / 8)) k 1)) (fun k => xd32 ρ (xDn (xGet Wd (dst / 8)) k 1)) (sp / 8) (dp / 8) (n / 8)))) := by
      rw [xWs_set, (xE_int (ρ := ρ) (b := b) (cA := cA) (ad := ad) (by rw [xPn_8]; exact xbeq ht1)).1, xPn_hdr]
      have hff : (fun k => xd32 ρ (xDn (xPn (xGet Wd (dst / 8)) (dp / 8) (n / 8) (xDn (xGet Wd (src / 8)) (sp / 8) (n / 8))) k 1)) = va_cpy (fun k => xd32 ρ (xDn (xGet Wd (src / 8)) k 1)) (fun k => xd32 ρ (xDn (xGet Wd (dst / 8)) k 1)) (sp / 8) (dp / 8) (n / 8) := by
        funext k
        unfold va_cpy
        rw [xPn_dig hv]
        by_cases hk : dp / 8 ≤ k ∧ k < dp / 8 + n / 8
        · rw [if_pos hk, if_pos hk, xDn_sub (by omega)]
        · rw [if_neg hk, if_neg hk]
      rw [hff]
    rw [List.map_cons, List.map_cons, List.map_cons, List.map_cons, List.map_cons, xg0 (xbeq hn0), xg0 (xbeq hdp), xg2 (xbeq hdst), xg0 (xbeq hsp), xg2 (xbeq hsrc)]
    have ecat := xCats_eq (ρ := ρ) (b := b) (ad := ad) t
    have e5 : nativeFrameWords "java/lang/System" "arraycopy" 5 + 11 ≤ 50 := by decide +kernel
    refine va_copyi hx hb (hml.trans hI.1.2.1.symm) hown (hts _ hl) (hts _ hn) (hts _ hst) (hts _ hi) hKt hI.2.1.1 hI.2.1.2.1 hI.2.1.2.2 (src / 8) (dst / 8) 0 0 hf he rfl rfl rfl (nI_pos hspl) (nI_pos hdpl) (nI_pos hnl) (by rw [nI_clamp hspl, nI_clamp hnl]; exact xble hle0) (by rw [nI_clamp hdpl, nI_clamp hnl]; exact xble hle1) (fun _ _ => rfl) (by omega) (by rw [ecat]; omega) hdg fun H1 locs1 hP1 hD1 hS1 => ?_
    rw [nI_clamp hspl, nI_clamp hdpl, nI_clamp hnl, ← hset] at hP1 hD1
    exact hK _ _ _ _ _ _ _ _ h ho _ _ _ _ (hI.cell hP1 hD1 hS1)
  | [], h => cases h
  | [_], h => cases h
  | [_, _], h => cases h
  | [_, _, _], h => cases h
  | [_, _, _, _], h => cases h
theorem xs_tsw (hx : p.tables.exec = Jvm.exec) (hb : c.code = bb) (hK : xHK p l e R s m args below meth c Q ρ b cA D A H0 nL ad0 n0 K outs) (hI : xInv ρ b cA D A H0 nL ad0 n0 ad H locs ls L Wd env) (ho : ∀ y ∈ o, y ∈ outs) {df lo hi : Int} {offs : Array Int} {len : Nat} (h : xo_tsw K (.tableswitch df lo hi offs) pc L S Wd cc cs env = some o)
    (hdg : decode bb pc = .ok (.tableswitch df lo hi offs, len)) : W p l e R s m args below meth c H locs cc cs Q (F0 m pc ls (S.map (xg ρ b ad))) := by
  have hif : ∀ {P : Prop} [Decidable P] {x : xRes} {o : List xOut}, (if P then x else none) = some o → P ∧ x = some o := by
    intro P _ x o hq
    by_cases hp : P
    · rw [if_pos hp] at hq; exact ⟨hp, hq⟩
    · rw [if_neg hp] at hq; cases hq
  unfold xo_tsw at h
  match S, h with
  | x :: r, h =>
    dsimp only at h
    cases h0 : Nat.beq (x % 8) 0 with
    | true =>
      rw [h0, cond_true] at h
      rw [List.map_cons, xg0 (xbeq h0)]
      by_cases hr : xs32 (x / 8) < lo ∨ hi < xs32 (x / 8)
      · rw [if_pos hr] at h
        obtain ⟨hp, h⟩ := hif h
        rw [xF_eq] at h
        exact lv_tableOut hx hb hdg (by rw [xs32_eq]; exact hr) (tgt := ((pc : Int) + df).toNat) (by omega) (hK _ _ _ _ _ _ _ _ h ho _ _ _ _ hI)
      · rw [if_neg hr] at h
        cases ho2 : offs[(xs32 (x / 8) - lo).toNat]? with
        | none => rw [ho2] at h; cases h
        | some off =>
          rw [ho2] at h
          dsimp only at h
          obtain ⟨hp, h⟩ := hif h
          rw [xF_eq] at h
          exact lv_tableIn hx hb hdg (by rw [xs32_eq]; omega) (by rw [xs32_eq]; omega) (by rw [xs32_eq]; exact ho2) (tgt := ((pc : Int) + off).toNat) (by omega) (hK _ _ _ _ _ _ _ _ h ho _ _ _ _ hI)
    | false =>
      rw [h0, cond_false] at h
      obtain ⟨h4, h⟩ := xbif h
      obtain ⟨h7, h⟩ := xbif h
      have h7 : ¬ x / 8 = 7 := fun q => by rw [q] at h7; cases h7
      have hz : xz ρ (x / 8) = (ρ (x / 8)).toInt := by unfold xz; rw [if_neg h7]
      obtain ⟨sg, e', o', f1, f2, f3, f4⟩ := xTri_sound h hI.2.2.1
      cases hs : Nat.beq (xSgI sg) 0 with
      | true =>
        rw [hs, cond_true] at f1
        obtain ⟨hp, f1⟩ := hif f1
        rw [xF_eq] at f1
        rw [List.map_cons, xg4 (xbeq h4)]
        refine lv_tableOut hx hb hdg (Or.inl ?_) (tgt := ((pc : Int) + df).toNat) (by omega) (hK _ _ _ _ _ _ _ _ f1 (fun z hz => ho z (f2 z hz)) _ _ _ _ (hI.env f3))
        have := xbeq hs
        rw [← hz]
        omega
      | false =>
        rw [hs, cond_false] at f1
        obtain ⟨sg2, e2, o2, g1, g2, g3, g4⟩ := xTri_sound f1 f3
        cases hs2 : Nat.beq (xSgI sg2) 2 with
        | true =>
          rw [hs2, cond_true] at g1
          obtain ⟨hp, g1⟩ := hif g1
          rw [xF_eq] at g1
          rw [List.map_cons, xg4 (xbeq h4)]
          refine lv_tableOut hx hb hdg (Or.inr ?_) (tgt := ((pc : Int) + df).toNat) (by omega) (hK _ _ _ _ _ _ _ _ g1 (fun z hz => ho z (f2 z (g2 z hz))) _ _ _ _ (hI.env g3))
          have := xbeq hs2
          rw [← hz]
          omega
        | false =>
          rw [hs2, cond_false] at g1
          obtain ⟨x', e3, o3, k1, k2, k3, k4⟩ := xC0_sound (b := b) g1 (xbeq h4) g3
          have k := hK _ _ _ _ _ _ _ _ k1 (fun z hz => ho z (f2 z (g2 z (k2 z hz)))) _ _ _ _ (hI.env k3)
          rw [List.map_cons, k4] at k
          exact k
  | [], h => cases h
theorem xs_lsw (hx : p.tables.exec = Jvm.exec) (hb : c.code = bb) (hK : xHK p l e R s m args below meth c Q ρ b cA D A H0 nL ad0 n0 K outs) (hI : xInv ρ b cA D A H0 nL ad0 n0 ad H locs ls L Wd env) (ho : ∀ y ∈ o, y ∈ outs) {df : Int} {ps : Array (Int × Int)} {len : Nat} (h : xo_lsw K (.lookupswitch df ps) pc L S Wd cc cs env = some o)
    (hdg : decode bb pc = .ok (.lookupswitch df ps, len)) (hps : (ps.toList.zip (ps.toList.drop 1)).all (fun (a, next) => a.1 < next.1) = true) : W p l e R s m args below meth c H locs cc cs Q (F0 m pc ls (S.map (xg ρ b ad))) := by
  unfold xo_lsw at h
  match S, h with
  | x :: r, h =>
    dsimp only at h
    obtain ⟨h0, h⟩ := xbif h
    by_cases hp : 0 ≤ (pc : Int) + Op.lookupswitch.offset ps.toList df (xs32 (x / 8))
    · rw [if_pos hp, xF_eq] at h
      rw [List.map_cons, xg0 (xbeq h0)]
      exact lv_lookup hx hb hdg hps (by rw [xs32_eq]) (tgt := ((pc : Int) + Op.lookupswitch.offset ps.toList df (xs32 (x / 8))).toNat) (by omega) (hK _ _ _ _ _ _ _ _ h ho _ _ _ _ hI)
    · rw [if_neg hp] at h; cases h
  | [], h => cases h
end XOA
end
section
/-! contracts out of runs -/
/-- and those that it hands on by the state: nest mates' links, the array of Records -/
def xX (U : State) : Prop := va_AO RX5 U ∧ ∀ (own : String) (idx : Nat) (y : MethodName) (host : String), Jvm.Cond.methodLinkNest own idx y host ∈ lw_tbl → va_Nw (.methodLinkNest own idx y host) U
theorem xX.warm {s U : State} (hW : s.WarmedH U.vm) (h : xX s) : xX U := ⟨va_AO.moved hW.alike h.1, fun own idx y host hw => va_Nw.warmM hW (h.2 own idx y host hw)⟩
theorem xX.same {s U : State} (hv : s.vm = U.vm) (h : xX s) : xX U := ⟨va_AO.moved (hv ▸ Vm.Alike.refl s.vm) h.1, fun own idx y host hw => va_Nw.same rfl hv (h.2 own idx y host hw)⟩
theorem xGoodIn {y : MethodName} {bb : ByteArray} {maxL : Nat} {rt : Option FieldType} (h : Jvm.Cond.code y bb maxL rt ∈ xTb) : GoodIn xTb (.code y bb maxL rt :: xTb) := by
  intro w hw
  have hm : w ∈ xTb := by
    rcases List.mem_cons.mp hw with rfl | hw
    · exact h
    · exact hw
  exact ⟨hm, good_of_word (List.mem_filter.mp hm).2⟩
def xRs (ρ : Nat → Int32) (b : Nat) (ad : Nat → Nat) (v : Nat) : List Value := if v = 11 then [] else [xg ρ b ad v]
def xRv (ρ : Nat → Int32) (b : Nat) (ad : Nat → Nat) (v : Nat) : Option Value := if v = 11 then none else some (xg ρ b ad v)
theorem xRv_list (ρ : Nat → Int32) (b : Nat) (ad : Nat → Nat) (v : Nat) : (xRv ρ b ad v).toList = xRs ρ b ad v := by unfold xRv xRs; split <;> rfl
def xRO (bb : ByteArray) (rt : Option FieldType) (pc v : Nat) : Prop := (decode bb pc = .ok (.ireturn, 1) ∧ xIsI v = true ∧ (rt = some .int ∨ (rt = some .boolean ∧ (v = 0 ∨ v = 8)))) ∨ (decode bb pc = .ok (.lreturn, 1) ∧ v % 8 = 1 ∧ rt = some .long) ∨ (decode bb pc = .ok (.return_, 1) ∧ v = 11 ∧ rt = none)
def xFin (p : Program) (l : Launch) (e : Env) (R : Room) (s : State) (m : MethodId) (args : Array Value) (below : List Frame) (meth : Method) (c : Code) (Q : State → Prop) (ρ : Nat → Int32) (b : Nat) (cA : Nat → ClassId) (D : va_G) (A : Nat → Prop) (H0 : Heap) (ad0 : Nat → Nat) (n0 : Nat) (bb : ByteArray) (rt : Option FieldType) (mc ms : Nat) (outs : List xOut) : Prop :=
  ∀ (pc v : Nat) (Wd : List Nat) (env : xEv) (cc cs : Nat), (pc, v, Wd, env, cc, cs) ∈ outs → xEO ρ env → cc ≤ mc → cs ≤ ms → xRO bb rt pc v → ∀ (ad : Nat → Nat) (H : Heap) (locs : List Loc) (ls : Array Slot), va_P D vwCl (xWs ρ b cA ad Wd) H → va_D A (xWs ρ b cA ad Wd) → va_S A H0 H locs → xAg ad0 n0 ad Wd → W p l e R s m args below meth c H locs cc cs Q (F0 m pc ls (xRs ρ b ad v))
def xCx (p : Program) (R : Room) (s : State) (m : MethodId) (args : Array Value) (meth : Method) (c : Code) (ρ : Nat → Int32) (b : Nat) (cA : Nat → ClassId) (D : va_G) (A : Nat → Prop) (H0 : Heap) (Lz k : Nat) (own : String) (y : MethodName) (bb : ByteArray) (maxL mc ms d : Nat) : Prop :=
  p.tables.exec = Jvm.exec ∧ c.code = bb ∧ c.maxLocals = maxL ∧ s.vm.findClass own = some m.cls ∧ (∀ w ∈ xTb, w.before args s = true) ∧ va_K D vwCl (xTys cA) s ∧ (y.name = "<init>" → meth.name = "<init>") ∧ mc ≤ R.cells ∧ ms ≤ R.slots ∧ d ≤ R.frames ∧ 60 * d ≤ R.locals ∧ (∀ q, H0.size ≤ q → A q) ∧ (k = 0 → va_X b Lz ρ s H0 ∧ b < H0.size ∧ ¬ A b) ∧ ρ 6 = ρ 0 &&& 63 ∧ xX s
/-- what a run says, at f steps -/
def xSnd (M : Nat → Option xMt) (Lz : Nat) (l : Launch) (f : Nat) : Prop := ∀ (k : Nat) (own : String) (y : MethodName) (bb : ByteArray) (maxL : Nat) (rt : Option FieldType) (na mc ms : Nat) (code : Nat → Option xRow), M k = some (own, y, bb, maxL, rt, na, mc, ms, code) →
  ∀ (d pc : Nat) (L S Wd : List Nat) (cc cs : Nat) (env : xEv) (o : List xOut), xRun M Lz f k code mc ms rt d pc L S Wd cc cs env = some o →
  ∀ (p : Program) (e : Env) (R : Room) (s : State) (m : MethodId) (args : Array Value) (below : List Frame) (meth : Method) (c : Code) (Q : State → Prop) (ρ : Nat → Int32) (b : Nat) (cA : Nat → ClassId) (D : va_G) (A : Nat → Prop) (H0 : Heap) (ad0 : Nat → Nat) (n0 : Nat) (outs : List xOut), (∀ z ∈ o, z ∈ outs) →
  xCx p R s m args meth c ρ b cA D A H0 Lz k own y bb maxL mc ms d → xFin p l e R s m args below meth c Q ρ b cA D A H0 ad0 n0 bb rt mc ms outs →
  ∀ (ad : Nat → Nat) (H : Heap) (locs : List Loc) (ls : Array Slot), xInv ρ b cA D A H0 maxL ad0 n0 ad H locs ls L Wd env → W p l e R s m args below meth c H locs cc cs Q (F0 m pc ls (S.map (xg ρ b ad)))
/-- what the tables say of a method -/
def xMg (own : String) (y : MethodName) (bb : ByteArray) (maxL : Nat) (rt : Option FieldType) : Prop := Jvm.Cond.code y bb maxL rt ∈ xTb ∧ Jvm.Cond.initialized y.cls ∈ xTb ∧ Jvm.plainName y.cls = true ∧ y.cls = own ∧ (y.cls ≠ "java/lang/invoke/MethodHandle" ∧ y.cls ≠ "java/lang/invoke/VarHandle") ∧ maxL ≤ 41
def xPc (ρ : Nat → Int32) (b : Nat) (cA : Nat → ClassId) (D : va_G) (ad : Nat → Nat) (Wd as : List Nat) (sz : Nat) : Array Value → State → Prop := va_Pc (as.map (xg ρ b ad)) (fun U => U.heap.size = sz ∧ va_P D vwCl (xWs ρ b cA ad Wd) U.heap ∧ va_K D vwCl (xTys cA) U ∧ va_D (fun _ => True) (xWs ρ b cA ad Wd) ∧ xX U)
def xQc (ρ : Nat → Int32) (b : Nat) (cA : Nat → ClassId) (D : va_G) (ad : Nat → Nat) (Wd : List Nat) (sz : Nat) (outs : List xOut) : Array Value → State → Outcome → State → Prop := fun _ st oc t =>
  (∃ (pc v : Nat) (W' : List Nat) (env : xEv) (cc cs : Nat) (ad' : Nat → Nat), (pc, v, W', env, cc, cs) ∈ outs ∧ xEO ρ env ∧ oc = .returned (xRv ρ b ad' v) ∧ va_P D vwCl (xWs ρ b cA ad' W') t.heap ∧ va_D (va_A (xWs ρ b cA ad Wd) sz) (xWs ρ b cA ad' W') ∧ xAg ad Wd.length ad' W') ∧ va_F (va_A (xWs ρ b cA ad Wd) sz) st t
theorem xent_len {as : List Nat} : ∀ n, xCats as ≤ n → (xEntL as n).length = n := by
  induction as with
  | nil => intro n _; exact List.length_replicate
  | cons a t ih =>
    intro n h
    rw [xCats_cons] at h
    unfold xEntL
    unfold xCat at h
    cases ha : xIsL a with
    | true =>
      rw [ha] at h
      dsimp only [cond] at h ⊢
      rw [List.length_cons, List.length_cons, ih (n - 2) (by omega)]
      omega
    | false =>
      rw [ha] at h
      dsimp only [cond] at h ⊢
      rw [List.length_cons, ih (n - 1) (by omega)]
      omega
theorem xent_at {ρ : Nat → Int32} {b : Nat} {ad : Nat → Nat} {as : List Nat} : ∀ (n off i cv : Nat), (xEntL as n)[i]? = some cv → cv ≠ 11 → (off + i, xg ρ b ad cv) ∈ lv_args off (as.map (xg ρ b ad)) := by
  induction as with
  | nil =>
    intro n off i cv h h11
    have h' : (List.replicate n 11)[i]? = some cv := h
    have := List.eq_of_mem_replicate (List.mem_of_getElem? h')
    exact absurd this h11
  | cons a t ih =>
    intro n off i cv h h11
    unfold xEntL at h
    rw [List.map_cons]
    unfold lv_args
    rw [xg_cat]
    unfold xCat
    cases ha : xIsL a with
    | true =>
      rw [ha] at h
      dsimp only [cond] at h ⊢
      rw [if_pos rfl]
      match i, h with
      | 0, h =>
        cases h
        exact List.mem_cons_self
      | 1, h =>
        cases h
        exact absurd rfl h11
      | j + 2, h =>
        have := ih (n - 2) (off + 2) j cv h h11
        rw [show off + (j + 2) = off + 2 + j by omega]
        exact List.mem_cons_of_mem _ this
    | false =>
      rw [ha] at h
      dsimp only [cond] at h ⊢
      rw [if_neg (by decide)]
      match i, h with
      | 0, h =>
        cases h
        exact List.mem_cons_self
      | j + 1, h =>
        have := ih (n - 1) (off + 1) j cv h h11
        rw [show off + (j + 1) = off + 1 + j by omega]
        exact List.mem_cons_of_mem _ this
theorem xsl_len {ρ : Nat → Int32} {b : Nat} {ad : Nat → Nat} (as : List Nat) : (lg_sl (as.map (xg ρ b ad))).length = xCats as := by
  induction as with
  | nil => rfl
  | cons a t ih =>
    have e : lg_sl ((a :: t).map (xg ρ b ad)) = (if (xg ρ b ad a).category = 2 then [Slot.val (xg ρ b ad a), .second] else [.val (xg ρ b ad a)]) ++ lg_sl (t.map (xg ρ b ad)) := rfl
    rw [e, List.length_append, ih, xCats_cons, xg_cat]
    congr 1
    unfold xCat
    cases xIsL a <;> rfl
set_option maxHeartbeats 4000000 in
theorem xMet {M : Nat → Option xMt} {Lz : Nat} {l : Launch} {f : Nat} (IH : xSnd M Lz l f) {k : Nat} {own : String} {y : MethodName} {bb : ByteArray} {maxL : Nat} {rt : Option FieldType} {na mc ms : Nat} {code : Nat → Option xRow} (hM : M k = some (own, y, bb, maxL, rt, na, mc, ms, code)) (hg : xMg own y bb maxL rt) (hk0 : k ≠ 0)
    {ρ : Nat → Int32} {b : Nat} (cA : Nat → ClassId) (D : va_G) (ad : Nat → Nat) {Wd as : List Nat} {env : xEv} {d : Nat} {outs : List xOut} (sz : Nat) (h6 : ρ 6 = ρ 0 &&& 63) (hE : xEO ρ env) (has : xCats as ≤ maxL) (hrun : xRun M Lz f k code mc ms rt d 0 (xEntL as maxL) [] Wd 0 0 env = some outs) :
    Met l y (.code y bb maxL rt :: xTb) { frames := d, cells := mc, slots := ms, locals := 60 * d } (xPc ρ b cA D ad Wd as sz) (xQc ρ b cA D ad Wd sz outs) mc ms (va_A (xWs ρ b cA ad Wd) sz) := by
  refine Met.ofW (cc := bb) (maxL := maxL) (ret := rt) hg.2.2.1 rfl ?_
  intro p e s m args below meth c s₁ B hml hv
  obtain ⟨rfl, hsz, hP, hK, hD0, hXX⟩ := hv
  have hx := B.exec
  have hb := B.bytes
  have hr := B.returns
  have hts0 := atoms_spec (ws := .code y bb maxL rt :: xTb) B.pre
  have hts : ∀ w ∈ xTb, w.before (as.map (xg ρ b ad)).toArray s = true := fun w hw => hts0 w (List.mem_cons_of_mem _ hw)
  have hown : s.vm.findClass y.cls = some m.cls := findClass_of_methodNamed B.named
  have hlocks := B.notSynchronized
  have hin : meth.name = y.name := (name_of_methodNamed B.named B.method).1
  subst hsz
  have hD := hD0.self (sz := s.heap.size)
  have hA : ∀ q : Nat, s.heap.size ≤ q → va_A (xWs ρ b cA ad Wd) s.heap.size q := fun q h => Or.inr h
  have hS : va_S (va_A (xWs ρ b cA ad Wd) s.heap.size) s.heap s.heap [] := va_S.rf
  have hl := lv_entry (as.map (xg ρ b ad)) (n := maxL) (by rw [xsl_len]; exact has)
  rw [lg_entry_eq]
  generalize (lg_sl (as.map (xg ρ b ad)) ++ List.replicate (maxL - (lg_sl (as.map (xg ρ b ad))).length) Slot.unset).toArray = ls at hl ⊢
  refine IH k own y bb maxL rt na mc ms code hM d 0 (xEntL as maxL) [] Wd 0 0 env outs hrun p e { frames := d, cells := mc, slots := ms, locals := 60 * d } s m _ below meth c _ ρ b cA D (va_A (xWs ρ b cA ad Wd) s.heap.size) s.heap ad Wd.length outs (fun _ h => h) ?_ ?_ ad s.heap [] ls ?_
  · exact ⟨hx, hb, hml, by rw [← hg.2.2.2.1]; exact hown, hts, hK, fun q => hin.trans q, Nat.le_refl _, Nat.le_refl _, Nat.le_refl _, Nat.le_refl _, hA, fun q => absurd q hk0, h6, hXX⟩
  · intro pc v W' env' cc cs hmem hE' hcc hcs hro ad' H locs ls' hP' hD' hS' hag
    refine W.widen (k := mc) (n := ms) hcc hcs ?_
    have hq : ∀ t : State, t.heap = H → s.WarmedH t.vm → ∀ r, r = xRv ρ b ad' v → xQc ρ b cA D ad Wd s.heap.size outs (as.map (xg ρ b ad)).toArray s (.returned r) t := by
      intro t ht hW r hrv
      exact ⟨⟨pc, v, W', env', cc, cs, ad', hmem, hE', by rw [hrv], by rw [ht]; exact hP', hD', hag⟩, hS'.F ht⟩
    rcases hro with ⟨hdg, hvi, hrt⟩ | ⟨hdg, hv1, hrt⟩ | ⟨hdg, hv11, hrt⟩
    · have hne : v ≠ 11 := xi11 hvi
      have e1 : xRs ρ b ad' v = [.int (xd32 ρ v)] := by unfold xRs; rw [if_neg hne, xgI hvi]
      have e2 : xRv ρ b ad' v = some (.int (xd32 ρ v)) := by unfold xRv; rw [if_neg hne, xgI hvi]
      rw [e1]
      rcases hrt with hrt | ⟨hrt, hv2⟩
      · exact W.zret (ty := .int) hx hb (hr.trans hrt) rfl (fun t ht hW => hq t ht hW _ e2.symm) hS'.2.2 hdg hlocks
      · refine W.zret (ty := .boolean) hx hb (hr.trans hrt) ?_ (fun t ht hW => hq t ht hW _ e2.symm) hS'.2.2 hdg hlocks
        rcases hv2 with rfl | rfl <;> (unfold xd32; rw [if_neg (by decide)]; decide +kernel)
    · have hne : v ≠ 11 := fun q => by rw [q] at hv1; cases hv1
      have e1 : xRs ρ b ad' v = [.long (lN (v / 8))] := by unfold xRs; rw [if_neg hne, xg1 hv1]
      have e2 : xRv ρ b ad' v = some (.long (lN (v / 8))) := by unfold xRv; rw [if_neg hne, xg1 hv1]
      rw [e1]
      exact W.lret hx hb (hr.trans hrt) (fun t ht hW => hq t ht hW _ e2.symm) hS'.2.2 hdg hlocks
    · have e1 : xRs ρ b ad' v = [] := by unfold xRs; rw [if_pos hv11]
      have e2 : xRv ρ b ad' v = none := by unfold xRv; rw [if_pos hv11]
      rw [e1]
      exact W.vret hx hb (hr.trans hrt) (fun t ht hW => hq t ht hW _ e2.symm) hS'.2.2 hdg hlocks
  · refine ⟨⟨xent_len maxL has, xlv_mono hl fun q hq => ?_⟩, ⟨hP, hD, hS⟩, hE, Nat.le_refl _, fun _ _ => rfl, fun _ => rfl⟩
    obtain ⟨cv, e1, e2, e3⟩ := xLl_mem.mp hq
    have := xent_at (ρ := ρ) (b := b) (ad := ad) maxL 0 q.1 cv e1 e2
    rw [Nat.zero_add, ← e3] at this
    exact this
section XCL
variable {p : Program} {l : Launch} {e : Env} {R : Room} {s : State} {m : MethodId} {args : Array Value} {below : List Frame} {meth : Method} {c : Code} {Q : State → Prop}
variable {ρ : Nat → Int32} {b : Nat} {cA : Nat → ClassId} {D : va_G} {A : Nat → Prop} {H0 : Heap} {nL n0 : Nat} {ad0 : Nat → Nat} {K : xKt} {outs o : List xOut}
variable {bb : ByteArray} {a1 a2 pc cc cs : Nat} {L S Wd : List Nat} {env : xEv} {ad : Nat → Nat} {H : Heap} {locs : List Loc} {ls : Array Slot}
/-- behind a call -/
theorem xBack {mc ms : Nat} {a : Array Value} {st0 rest : List Value} {oo : List xOut} (hr : va_Run p l e R s m args below meth c H locs cc cs mc ms (F0 m pc ls st0) rest (xQc ρ b cA D ad Wd H.size oo a) (va_A (xWs ρ b cA ad Wd) H.size)) (hS : va_S A H0 H locs) (hF : ∀ q, va_A (xWs ρ b cA ad Wd) H.size q → A q)
    (kk : ∀ (pr v : Nat) (W' : List Nat) (env' : xEv) (c1 c2 : Nat) (ad' : Nat → Nat) (H1 : Heap) (locs1 : List Loc), (pr, v, W', env', c1, c2) ∈ oo → xEO ρ env' → va_P D vwCl (xWs ρ b cA ad' W') H1 → va_D A (xWs ρ b cA ad' W') → xAg ad Wd.length ad' W' → va_S A H0 H1 locs1 → W p l e R s m args below meth c H1 locs1 (cc + mc) (cs + ms) Q (F0 m (pc + 3) ls (xRs ρ b ad' v ++ rest))) : W p l e R s m args below meth c H locs cc cs Q (F0 m pc ls st0) := by
  intro T hT X
  obtain ⟨v, st₀, t, T', Lc, h0, X', hL, e1, e2, ⟨⟨pr, vc, W', env', c1, c2, ad', hmem, hE, hv, hP, hD, hag⟩, hz, hk⟩, st⟩ := hr T hT X
  rw [h0] at hz hk
  cases hv
  have hS1 : va_S A H0 T'.heap (locs ++ Lc) := ⟨Nat.le_trans hS.1 (by rw [e1]; exact hz), fun q h1 h2 => by rw [e1, hk q (Nat.lt_of_lt_of_le h1 hS.1) (fun z => h2 (hF q z))]; exact hS.2.1 q h1 h2, fun q hq => by
    rcases List.mem_append.mp hq with h | h
    · exact hS.2.2 q h
    · exact hF _ (hL q h)⟩
  obtain ⟨t2, b1, b2⟩ := kk pr vc W' env' c1 c2 ad' T'.heap (locs ++ Lc) hmem hE (by rw [e1]; exact hP) (hD.weaken (fun _ q _ h => hF q.1 h)) hag hS1 T' rfl X'
  rw [← xRv_list] at b1
  exact ⟨t2, st t2 b1, b2⟩
/-- the kinds of call -/
def xCk (own : String) (idx : Nat) (y : MethodName) (na n : Nat) (rc : Nat → Bool) (i : Instr) (Wd : List Nat) : Prop :=
  (i = .invokevirtual idx ∧ na = n + 1 ∧ Jvm.Cond.methodLink own idx y ∈ xTb ∧ Jvm.Cond.instanceMethod y ∈ xTb ∧ Jvm.Cond.selects y.cls y y ∈ xTb ∧ ∀ o, rc o = true → o % 8 = 2 ∧ ∃ ci q, vwCl[ci]? = some q ∧ q.1 = y.cls ∧ xGet Wd (o / 8) % 18446744073709551616 = 8 * ci + 2) ∨
  (i = .invokespecial idx ∧ na = n + 1 ∧ y.name = "<init>" ∧ Jvm.Cond.instanceMethod y ∈ xTb ∧ (Jvm.Cond.methodLink own idx y ∈ xTb ∨ ∃ host, Jvm.Cond.methodLinkNest own idx y host ∈ lw_tbl) ∧ ∀ o, rc o = true → o % 8 = 2) ∨
  (i = .invokestatic idx ∧ na = n ∧ Jvm.Cond.methodLink own idx y ∈ xTb ∧ Jvm.Cond.static y ∈ xTb)
set_option maxHeartbeats 4000000 in
theorem xs_call {M : Nat → Option xMt} {Lz f : Nat} (IH : xSnd M Lz l f) (hx : p.tables.exec = Jvm.exec) (hb : c.code = bb) (hK : xHK p l e R s m args below meth c Q ρ b cA D A H0 nL ad0 n0 K outs) (hI : xInv ρ b cA D A H0 nL ad0 n0 ad H locs ls L Wd env) (ho : ∀ y ∈ o, y ∈ outs) {mc ms d k' : Nat} {rc : Nat → Bool} (h : xCall M (xRun M Lz f) mc ms d K k' rc pc L S Wd cc cs env = some o)
    {own : String} (hts : ∀ w ∈ xTb, w.before args s = true) (hown : s.vm.findClass own = some m.cls) (hKt : va_K D vwCl (xTys cA) s) (hml : c.maxLocals = nL) (hA : ∀ q, H0.size ≤ q → A q) (hmc : mc ≤ R.cells) (hms : ms ≤ R.slots) (hfr : d ≤ R.frames) (hlo : 60 * d ≤ R.locals) (h6 : ρ 6 = ρ 0 &&& 63) (hXX : xX s)
    {own' : String} {y : MethodName} {b' : ByteArray} {maxL : Nat} {rt : Option FieldType} {na mc' ms' n : Nat} {code : Nat → Option xRow} (hM : M k' = some (own', y, b', maxL, rt, na, mc', ms', code)) (hg : xMg own' y b' maxL rt) (hk0 : k' ≠ 0) (hn : (parseMethodDescriptor y.desc).map (fun d => d.parameters.length) = some n)
    {idx : Nat} {i : Instr} (hi : xCk own idx y na n rc i Wd) (hdg : decode bb pc = .ok (i, 3)) (hrt : i = .invokespecial idx → rt = none) : W p l e R s m args below meth c H locs cc cs Q (F0 m pc ls (S.map (xg ρ b ad))) := by
  unfold xCall at h
  rw [hM] at h
  dsimp only at h
  obtain ⟨bs, r, hSe, hbl, h⟩ := xTk_eq na S [] _ o h
  rw [List.append_nil] at h
  obtain ⟨hc, h⟩ := xbif h
  obtain ⟨hc, hrc⟩ := xand hc
  obtain ⟨hc, has⟩ := xand hc
  obtain ⟨hc, hd⟩ := xand hc
  obtain ⟨hc, hcs⟩ := xand hc
  obtain ⟨hca, hcc⟩ := xand hc
  have has := xble has
  have hd := xblt hd
  have hcs := xble hcs
  have hcc := xble hcc
  have hca := xble hca
  rw [xEnt_eq] at h
  cases hrun : xRun M Lz f k' code mc' ms' rt (d - 1) 0 (xEntL bs.reverse maxL) [] Wd 0 0 env with
  | none => rw [hrun] at h; cases h
  | some oo =>
    rw [hrun] at h
    dsimp only at h
    obtain ⟨hP, hD, hS⟩ := hI.2.1
    have hF : ∀ q, va_A (xWs ρ b cA ad Wd) H.size q → A q := by
      intro q hq
      rcases hq with ⟨kq, eq, hq⟩ | hq
      · exact hD.2 kq (q, eq) hq
      · exact hA q (Nat.le_trans hS.1 hq)
    have hMet := xMet IH hM hg hk0 (b := b) cA D ad H.size h6 hI.2.2.1 has hrun
    have hblind : FrameBlind (xPc ρ b cA D ad Wd bs.reverse H.size) := by
      intro a U g mk q
      obtain ⟨q0, q1, qP, qK, qD, qX⟩ := q
      exact ⟨q0, q1, qP, va_K.moved (u := U) (U := U.calling g mk a) (Vm.Alike.refl U.vm) qK, qD, xX.same (U := U.calling g mk a) rfl qX⟩
    have hpre : ∀ U : State, U.heap = H → s.WarmedH U.vm → xPc ρ b cA D ad Wd bs.reverse H.size (bs.reverse.map (xg ρ b ad)).toArray U := by
      intro U hU hW
      exact ⟨rfl, by rw [hU], by rw [hU]; exact hP, va_K.moved hW.alike hKt, hD.weaken (fun _ _ _ _ => trivial), hXX.warm hW⟩
    have hroom : (d - 1) + 1 ≤ R.frames ∧ 8 + (maxL + 11) + 60 * (d - 1) ≤ R.locals := by
      have := hg.2.2.2.2.2
      omega
    have hcats : ((r.map (xg ρ b ad)).map fun v => v.category).sum ≤ 8 := by rw [xCats_eq]; exact hca
    have hfit : cc + mc' ≤ R.cells ∧ cs + ms' ≤ R.slots := ⟨Nat.le_trans hcc hmc, Nat.le_trans hcs hms⟩
    have hd3 : y.cls ≠ "java/lang/invoke/MethodHandle" ∧ y.cls ≠ "java/lang/invoke/VarHandle" ∧ (parseMethodDescriptor y.desc).map (fun d => d.parameters.length) = some n := ⟨hg.2.2.2.2.1.1, hg.2.2.2.2.1.2, hn⟩
    have hSm : S.map (xg ρ b ad) = (bs.reverse.map (xg ρ b ad)).reverse ++ r.map (xg ρ b ad) := by
      rw [hSe, List.map_append, List.map_reverse, List.reverse_reverse]
    have fin : ∀ a : Array Value, va_Run p l e R s m args below meth c H locs cc cs mc' ms' (F0 m pc ls (S.map (xg ρ b ad))) (r.map (xg ρ b ad)) (xQc ρ b cA D ad Wd H.size oo a) (va_A (xWs ρ b cA ad Wd) H.size) → W p l e R s m args below meth c H locs cc cs Q (F0 m pc ls (S.map (xg ρ b ad))) := by
      intro a hr
      refine xBack hr hS hF fun pr v W' env' c1 c2 ad' H1 locs1 hmem hE' hP1 hD1 hag hS1 => ?_
      obtain ⟨x, hx1, hx2⟩ := xOuts_mem h hmem
      dsimp only at hx1
      obtain ⟨hwf, hx1⟩ := xbif hx1
      rw [xF_eq, xF_eq, xF_eq] at hx1
      rw [xLen_eq, xLen_eq] at hwf
      have hkeep : L.map (xg ρ b ad') = L.map (xg ρ b ad) ∧ r.map (xg ρ b ad') = r.map (xg ρ b ad) ∧ ∀ cv ∈ L, xg ρ b ad' cv = xg ρ b ad cv := by
        cases hb2 : Nat.beq W'.length Wd.length with
        | true =>
          have : ad' = ad := hag.2.2 (xbeq hb2)
          subst this
          exact ⟨rfl, rfl, fun _ _ => rfl⟩
        | false =>
          rw [hb2] at hwf
          obtain ⟨w1, w2⟩ := xand (show (xWfL Wd.length L && xWfL Wd.length r) = true from hwf)
          exact ⟨xmap_keep hag.2.1 w1, xmap_keep hag.2.1 w2, fun cv hcv => xg_keep hag.2.1 (xWfL_mem w1 cv hcv)⟩
      have hI' : xInv ρ b cA D A H0 nL ad0 n0 ad' H1 locs1 ls L W' env' := by
        refine ⟨⟨hI.1.1, xlv_mono hI.1.2 fun q hq => ?_⟩, ⟨hP1, hD1, hS1⟩, hE', ?_⟩
        · obtain ⟨cz, e1, e2, e3⟩ := xLl_mem.mp hq
          exact xLl_mem.mpr ⟨cz, e1, e2, by rw [e3, hkeep.2.2 cz (List.mem_of_getElem? e1)]⟩
        · obtain ⟨g1, g2, g3⟩ := hI.2.2.2
          obtain ⟨k1, k2, k3⟩ := hag
          refine ⟨by omega, fun i hi => by rw [k2 i (by omega), g2 i hi], fun hq => ?_⟩
          rw [k3 (by omega), g3 (by omega)]
      have k := hK _ _ _ _ _ _ _ _ hx1 (fun z hz => ho z (hx2 z hz)) _ _ _ _ hI'
      have e : (bif Nat.beq v 11 then r else v :: r).map (xg ρ b ad') = xRs ρ b ad' v ++ r.map (xg ρ b ad) := by
        unfold xRs
        cases hv : Nat.beq v 11 with
        | true => rw [cond_true, if_pos (xbeq hv), hkeep.2.1]; rfl
        | false =>
          have : ¬ v = 11 := fun q => by rw [q] at hv; cases hv
          rw [cond_false, if_neg this, List.map_cons, hkeep.2.1]
          rfl
      rw [e] at k
      exact k
    rcases hi with ⟨rfl, hna, hl, hinst, hsel, hrcv⟩ | ⟨rfl, hna, hnm, hinst, hl, hrcv⟩ | ⟨rfl, hna, hl, hst⟩
    · cases hbr : bs.reverse with
      | nil =>
        have hle := congrArg List.length hbr
        rw [List.length_reverse, List.length_nil] at hle
        omega
      | cons a0 as' =>
        rw [hbr] at hMet hblind hpre hrc
        have hal : as'.length = n := by
          have hle := congrArg List.length hbr
          rw [List.length_reverse, List.length_cons] at hle
          omega
        obtain ⟨h2, ci, q, hq, hqn, hcl⟩ := hrcv a0 hrc
        obtain ⟨e1, e2, e3⟩ := xE_obj (ρ := ρ) (b := b) (cA := cA) (ad := ad) hcl
        have he := xWs_get (ρ := ρ) (b := b) (cA := cA) (ad := ad) (xGet_some rfl e3)
        rw [e1] at he
        have hst0 : S.map (xg ρ b ad) = (as'.map (xg ρ b ad)).reverse ++ Value.ref (ad (a0 / 8)) :: r.map (xg ρ b ad) := by
          rw [hSm, hbr, List.map_cons, List.reverse_cons, xg2 h2, List.append_assoc]
          rfl
        have e0 : ((a0 :: as').map (xg ρ b ad)) = Value.ref (ad (a0 / 8)) :: as'.map (xg ρ b ad) := by rw [List.map_cons, xg2 h2]
        refine fin _ (va_runV (g := F0 m pc ls (S.map (xg ρ b ad))) (C := y.cls) (b := ad (a0 / 8)) (As := as'.map (xg ρ b ad)) (n := n) (cc := bb) (nL := nL) (Ts := xTb) (own := own) ⟨hx, hb, hml, hown, hts⟩ hMet ⟨callB_of n hts (xGoodIn hg.1) rfl rfl rfl (hts _ hg.2.1) (hts _ hl) hd3 hroom, hts _ hinst, hts _ hsel⟩ ⟨hblind, ?_, ?_⟩ rfl (by rw [List.length_map]; exact hal) hI.1.2.1 hst0 (lv_room hcats) hdg hfit)
        · obtain ⟨cell, f1, f2, f3⟩ := va_recv hKt hP hq he
          exact ⟨cell, f1, f2, by rw [← hqn]; exact f3⟩
        · intro U hU hW
          rw [← e0]
          exact hpre U hU hW
    · cases hbr : bs.reverse with
      | nil =>
        have hle := congrArg List.length hbr
        rw [List.length_reverse, List.length_nil] at hle
        omega
      | cons a0 as' =>
        rw [hbr] at hMet hblind hpre hrc
        have hal : as'.length = n := by
          have hle := congrArg List.length hbr
          rw [List.length_reverse, List.length_cons] at hle
          omega
        have h2 := hrcv a0 hrc
        have hst0 : S.map (xg ρ b ad) = (as'.map (xg ρ b ad)).reverse ++ Value.ref (ad (a0 / 8)) :: r.map (xg ρ b ad) := by
          rw [hSm, hbr, List.map_cons, List.reverse_cons, xg2 h2, List.append_assoc]
          rfl
        have e0 : ((a0 :: as').map (xg ρ b ad)) = Value.ref (ad (a0 / 8)) :: as'.map (xg ρ b ad) := by rw [List.map_cons, xg2 h2]
        have hrt0 := hrt rfl
        subst hrt0
        have hpre' : PreS s H (xPc ρ b cA D ad Wd (a0 :: as') H.size) (.ref (ad (a0 / 8)) :: as'.map (xg ρ b ad)) := ⟨hblind, fun U hU hW => by
          rw [← e0]
          exact hpre U hU hW⟩
        rcases hl with hl | ⟨host, hl⟩
        · exact fin _ (va_runI (g := F0 m pc ls (S.map (xg ρ b ad))) (b := ad (a0 / 8)) (As := as'.map (xg ρ b ad)) (n := n) (cc := bb) (nL := nL) (Ts := xTb) (own := own) ⟨hx, hb, hml, hown, hts⟩ hMet ⟨callB_of n hts (xGoodIn hg.1) rfl rfl rfl (hts _ hg.2.1) (hts _ hl) hd3 hroom, hnm, hts _ hinst⟩ hpre' rfl (by rw [List.length_map]; exact hal) hI.1.2.1 hst0 (lv_room hcats) hdg hfit)
        · exact fin _ (va_runIN (g := F0 m pc ls (S.map (xg ρ b ad))) (b := ad (a0 / 8)) (As := as'.map (xg ρ b ad)) (n := n) (cc := bb) (nL := nL) (Ts := xTb) (own := own) ⟨hx, hb, hml, hown, hts⟩ hMet ⟨va_cnB n hts (xGoodIn hg.1) rfl rfl rfl (hXX.2 _ _ _ _ hl) (hts _ hg.2.1) hd3 hroom, hnm, hts _ hinst⟩ hpre' rfl (by rw [List.length_map]; exact hal) hI.1.2.1 hst0 (lv_room hcats) hdg hfit)
    · exact fin _ (va_runS (g := F0 m pc ls (S.map (xg ρ b ad))) (As := bs.reverse.map (xg ρ b ad)) (n := n) (cc := bb) (nL := nL) (Ts := xTb) (own := own) ⟨hx, hb, hml, hown, hts⟩ hMet ⟨callB_of n hts (xGoodIn hg.1) rfl rfl rfl (hts _ hg.2.1) (hts _ hl) hd3 hroom, hts _ hst⟩ ⟨hblind, hpre⟩ rfl (by simp; omega) hI.1.2.1 hSm (lv_room hcats) hdg hfit)
end XCL
end
section
/-! rows of code -/
def xAt (j : Nat) (w : Jvm.Cond) : Bool := decide (lw_tbl[j]? = some w) && goodWord w
theorem xAt_ok {j : Nat} {w : Jvm.Cond} (h : xAt j w = true) : w ∈ xTb := xTb_of (of_decide_eq_true (xand h).1) (xand h).2
theorem xAwI : Jvm.Cond.arrayClass .int ∈ xTb := by decide +kernel
theorem xAwL : Jvm.Cond.arrayClass .long ∈ xTb := by decide +kernel
theorem xAwZ : Jvm.Cond.arrayClass .boolean ∈ xTb := by decide +kernel
theorem xAw {t : ArrayType} (h : Nat.blt (xAty t) 3 = true) : Jvm.Cond.arrayClass (newarray.typeOf t) ∈ xTb := by
  cases t with
  | int => exact xAwI
  | long => exact xAwL
  | boolean => exact xAwZ
  | char => exact absurd h (by decide)
  | float => exact absurd h (by decide)
  | double => exact absurd h (by decide)
  | byte => exact absurd h (by decide)
  | short => exact absurd h (by decide)
theorem xOi : Jvm.Cond.instanceMethod Lib.objectInit ∈ xTb := by decide +kernel
theorem xOc : Jvm.Cond.code Lib.objectInit ⟨#[0xb1]⟩ 1 none ∈ xTb := by decide +kernel
theorem xAcN : Jvm.Cond.native arraycopyName ∈ xTb := by decide +kernel
theorem xAcS : Jvm.Cond.static arraycopyName ∈ xTb := by decide +kernel
theorem xAcI : Jvm.Cond.initialized "java/lang/System" ∈ xTb := by decide +kernel
def xNp (y : MethodName) : Option Nat := (parseMethodDescriptor y.desc).map (fun d => d.parameters.length)
def xFl (own nm : String) (q : vw_C) (a2 : Nat) : Bool := !(q.2.1 a2).2.2.2 || ((q.2.1 a2).2.2.2 && (decide (nm = "<init>") && decide ((q.2.1 a2).1 = own)))
def xNest (j : Nat) (own : String) (idx : Nat) (y : MethodName) : Bool := match lw_tbl[j]? with
  | some (.methodLinkNest o2 i2 y2 _) => decide (o2 = own) && (decide (i2 = idx) && decide (y2 = y))
  | _ => false
theorem xNest_ok {j : Nat} {own : String} {idx : Nat} {y : MethodName} (h : xNest j own idx y = true) : ∃ host, Jvm.Cond.methodLinkNest own idx y host ∈ lw_tbl := by
  unfold xNest at h
  split at h
  · next o2 i2 y2 host heq =>
    have e1 := of_decide_eq_true (xand h).1
    have e2 := of_decide_eq_true (xand (xand h).2).1
    have e3 := of_decide_eq_true (xand (xand h).2).2
    subst e1; subst e2; subst e3
    exact ⟨host, List.mem_of_getElem? heq⟩
  · cases h
def xCh (M : Nat → Option xMt) (own nm : String) (pc oc len a1 a2 a3 : Nat) (i : Instr) : Bool := match i with
  | .iconst n => Nat.beq oc 0 && (Nat.beq len 1 && (Nat.beq (a1 % 8) 0 && (decide (Int32.ofInt n = nI (a1 / 8)))))
  | .lconst n => Nat.beq oc 0 && (Nat.beq len 1 && (Nat.beq (a1 % 8) 1 && (decide (Int64.ofNat (n : Nat) = lN (a1 / 8)))))
  | .bipush n => Nat.beq oc 1 && (Nat.beq len 2 && (Nat.beq (a1 % 8) 0 && (decide ((Int8.ofInt n).toInt32 = nI (a1 / 8)))))
  | .sipush n => Nat.beq oc 2 && (Nat.beq len 3 && (Nat.beq (a1 % 8) 0 && (decide ((Int16.ofInt n).toInt32 = nI (a1 / 8)))))
  | .ldc n => Nat.beq oc 1 && (Nat.beq len 2 && (Nat.beq (a1 % 8) 0 && (xAt a3 (.constant own n (nI (a1 / 8))))))
  | .ldc_w n => Nat.beq oc 2 && (Nat.beq len 3 && (Nat.beq (a1 % 8) 0 && (xAt a3 (.constant own n (nI (a1 / 8))))))
  | .ldc2_w n => Nat.beq oc 2 && (Nat.beq len 3 && (Nat.beq (a1 % 8) 1 && (xAt a3 (.constantLong own n (lN (a1 / 8))))))
  | .iload_n n => Nat.beq oc 3 && (Nat.beq len 1 && (Nat.beq (n : Nat) a1))
  | .iload n => Nat.beq oc 4 && (Nat.beq len 2 && (Nat.beq n a1))
  | .lload_n n => Nat.beq oc 5 && (Nat.beq len 1 && (Nat.beq (n : Nat) a1))
  | .lload n => Nat.beq oc 6 && (Nat.beq len 2 && (Nat.beq n a1))
  | .aload_n n => Nat.beq oc 7 && (Nat.beq len 1 && (Nat.beq (n : Nat) a1))
  | .aload n => Nat.beq oc 8 && (Nat.beq len 2 && (Nat.beq n a1))
  | .istore_n n => Nat.beq oc 9 && (Nat.beq len 1 && (Nat.beq (n : Nat) a1))
  | .istore n => Nat.beq oc 10 && (Nat.beq len 2 && (Nat.beq n a1))
  | .astore_n n => Nat.beq oc 11 && (Nat.beq len 1 && (Nat.beq (n : Nat) a1))
  | .astore n => Nat.beq oc 12 && (Nat.beq len 2 && (Nat.beq n a1))
  | .lstore_n n => Nat.beq oc 13 && (Nat.beq len 1 && (Nat.beq (n : Nat) a1))
  | .lstore n => Nat.beq oc 14 && (Nat.beq len 2 && (Nat.beq n a1))
  | .iinc j n => Nat.beq oc 15 && (Nat.beq len 3 && (Nat.beq j a1 && (decide (Int32.ofInt n = nI a2))))
  | .iadd => Nat.beq oc 16 && (Nat.beq len 1)
  | .isub => Nat.beq oc 17 && (Nat.beq len 1)
  | .imul => Nat.beq oc 18 && (Nat.beq len 1)
  | .idiv => Nat.beq oc 19 && (Nat.beq len 1)
  | .irem => Nat.beq oc 20 && (Nat.beq len 1)
  | .ior => Nat.beq oc 22 && (Nat.beq len 1)
  | .ixor => Nat.beq oc 23 && (Nat.beq len 1)
  | .ishl => Nat.beq oc 24 && (Nat.beq len 1)
  | .ishr => Nat.beq oc 25 && (Nat.beq len 1)
  | .iushr => Nat.beq oc 26 && (Nat.beq len 1)
  | .ladd => Nat.beq oc 27 && (Nat.beq len 1)
  | .lsub => Nat.beq oc 28 && (Nat.beq len 1)
  | .lmul => Nat.beq oc 29 && (Nat.beq len 1)
  | .land => Nat.beq oc 30 && (Nat.beq len 1)
  | .lor => Nat.beq oc 31 && (Nat.beq len 1)
  | .lxor => Nat.beq oc 32 && (Nat.beq len 1)
  | .lshl => Nat.beq oc 33 && (Nat.beq len 1)
  | .lshr => Nat.beq oc 34 && (Nat.beq len 1)
  | .lushr => Nat.beq oc 35 && (Nat.beq len 1)
  | .i2l => Nat.beq oc 36 && (Nat.beq len 1)
  | .l2i => Nat.beq oc 37 && (Nat.beq len 1)
  | .ineg => Nat.beq oc 38 && (Nat.beq len 1)
  | .lcmp => Nat.beq oc 39 && (Nat.beq len 1)
  | .dup => Nat.beq oc 43 && (Nat.beq len 1)
  | .dup_x1 => Nat.beq oc 44 && (Nat.beq len 1)
  | .dup2 => Nat.beq oc 45 && (Nat.beq len 1)
  | .iand => Nat.beq oc 21 && (Nat.beq len 1)
  | .ifCond q off => Nat.beq oc 40 && (Nat.beq len 3 && (decide ((pc : Int) + off = (a1 : Int)) && (Nat.beq (xCn q) a2)))
  | .if_icmp q off => Nat.beq oc 41 && (Nat.beq len 3 && (decide ((pc : Int) + off = (a1 : Int)) && (Nat.beq (xCn q) a2)))
  | .goto off => Nat.beq oc 42 && (Nat.beq len 3 && (decide ((pc : Int) + off = (a1 : Int))))
  | .iastore => Nat.beq oc 49 && (Nat.beq len 1)
  | .laload => Nat.beq oc 50 && (Nat.beq len 1)
  | .lastore => Nat.beq oc 51 && (Nat.beq len 1)
  | .baload => Nat.beq oc 52 && (Nat.beq len 1)
  | .bastore => Nat.beq oc 53 && (Nat.beq len 1)
  | .aaload => Nat.beq oc 54 && (Nat.beq len 1)
  | .aastore => Nat.beq oc 55 && (Nat.beq len 1)
  | .arraylength => Nat.beq oc 101 && (Nat.beq len 1)
  | .newarray t => Nat.beq oc 103 && (Nat.beq len 2 && (Nat.blt (xAty t) 3))
  | .tableswitch df lo hi offs => Nat.beq oc 111
  | .lookupswitch df ps => Nat.beq oc 112 && ((ps.toList.zip (ps.toList.drop 1)).all (fun (a, next) => a.1 < next.1))
  | .iaload => (Nat.beq oc 48 || Nat.beq oc 100) && Nat.beq len 1
  | .getfield idx => Nat.beq oc 46 && (Nat.beq len 3 && (match vwCl[a1]? with
    | none => false
    | some q => Nat.blt a2 q.2.2 && xAt a3 (.fieldLink own idx (q.2.1 a2).1 (q.2.1 a2).2.1 (q.2.1 a2).2.2.1)))
  | .putfield idx => Nat.beq oc 47 && (Nat.beq len 3 && (match vwCl[a1]? with
    | none => false
    | some q => Nat.blt a2 q.2.2 && (xAt a3 (.fieldLink own idx (q.2.1 a2).1 (q.2.1 a2).2.1 (q.2.1 a2).2.2.1) && xFl own nm q a2)))
  | .new idx => Nat.beq oc 102 && (Nat.beq len 3 && (match vwCl[a1]? with
    | none => false
    | some q => xAt a3 (.classLink own idx q.1)))
  | .anewarray idx => Nat.beq oc 104 && (Nat.beq len 3 && xAt a3 (.classLink own idx RX5))
  | .invokevirtual idx => Nat.beq oc 105 && (Nat.beq len 3 && (!(Nat.beq a1 0) && (match M a1 with
    | none => false
    | some (_, y, _, _, _, na, _, _, _) => Nat.blt 0 na && (decide (xNp y = some (na - 1)) && (!(decide (y.name = "<init>")) && (xAt a3 (.methodLink own idx y) && (match vwCl[a2]? with
      | none => false
      | some q => decide (q.1 = y.cls))))))))
  | .invokespecial idx => Nat.beq len 3 && (bif Nat.beq oc 113 then xAt a3 (.methodLink own idx Lib.objectInit) else Nat.beq oc 106 && (!(Nat.beq a1 0) && (match M a1 with
    | none => false
    | some (_, y, _, _, rt, na, _, _, _) => Nat.blt 0 na && (decide (xNp y = some (na - 1)) && (decide (y.name = "<init>") && (decide (rt = none) && (xAt a3 (.methodLink own idx y) || xNest a3 own idx y)))))))
  | .invokestatic idx => Nat.beq len 3 && (bif Nat.beq oc 114 then xAt a3 (.methodLink own idx arraycopyName) else Nat.beq oc 107 && (!(Nat.beq a1 0) && (match M a1 with
    | none => false
    | some (_, y, _, _, _, na, _, _, _) => decide (xNp y = some na) && xAt a3 (.methodLink own idx y))))
  | .ireturn => Nat.beq oc 108 && Nat.beq len 1
  | .lreturn => Nat.beq oc 109 && Nat.beq len 1
  | .return_ => Nat.beq oc 110 && Nat.beq len 1
  | _ => false
def xChk (M : Nat → Option xMt) (own nm : String) (bb : ByteArray) (pc : Nat) (row : xRow) : Bool := match row with
  | (oc, i, len, a1, a2, a3) => decide (decode bb pc = .ok (i, len)) && xCh M own nm pc oc len a1 a2 a3 i
/-- all that the tables must be -/
def xMall (M : Nat → Option xMt) : Prop := (∀ (ci : Nat) (q : vw_C), vwCl[ci]? = some q → Jvm.Cond.instantiable q.1 q.2.2 ∈ xTb ∧ Jvm.Cond.initialized q.1 ∈ xTb) ∧ ∀ (k : Nat) (own : String) (y : MethodName) (bb : ByteArray) (maxL : Nat) (rt : Option FieldType) (na mc ms : Nat) (code : Nat → Option xRow), M k = some (own, y, bb, maxL, rt, na, mc, ms, code) →
  (∀ (pc : Nat) (row : xRow), code pc = some row → xChk M own y.name bb pc row = true) ∧ (k ≠ 0 → xMg own y bb maxL rt ∧ ((∃ n, xNp y = some n ∧ na = n ∧ Jvm.Cond.static y ∈ xTb) ∨ (∃ n, xNp y = some n ∧ na = n + 1 ∧ Jvm.Cond.instanceMethod y ∈ xTb ∧ (y.name = "<init>" ∨ Jvm.Cond.selects y.cls y y ∈ xTb))))
set_option maxHeartbeats 8000000 in
theorem xSound {M : Nat → Option xMt} (hMa : xMall M) (Lz : Nat) (l : Launch) : ∀ f, xSnd M Lz l f := by
  intro f
  induction f with
  | zero =>
    intro k own y bb maxL rt na mc ms code hM d pc L S Wd cc cs env o h
    cases h
  | succ f IH =>
    intro k own y bb maxL rt na mc ms code hM d pc L S Wd cc cs env o h p e R s m args below meth c Q ρ b cA D A H0 ad0 n0 outs ho hcx hfin ad H locs ls hI
    have hK : xHK p l e R s m args below meth c Q ρ b cA D A H0 maxL ad0 n0 (xRun M Lz f k code mc ms rt d) outs := by
      intro pc' L' S' Wd' cc' cs' env' o' h' ho' ad' H' locs' ls' hI'
      exact IH k own y bb maxL rt na mc ms code hM d pc' L' S' Wd' cc' cs' env' o' h' p e R s m args below meth c Q ρ b cA D A H0 ad0 n0 outs ho' hcx hfin ad' H' locs' ls' hI'
    obtain ⟨hx, hb, hml, hown, hts, hKt, hinit, hmc, hms, hfr, hlo, hA, hX, h6, hXX⟩ := hcx
    obtain ⟨hrows, hmeth⟩ := hMa.2 k own y bb maxL rt na mc ms code hM
    have h : (match code pc with
      | none => none
      | some (oc, i, _, a1, a2, _) => bif Nat.blt oc 56 then xDs oc (xRun M Lz f k code mc ms rt d) a1 a2 pc L S Wd cc cs env else xDg M Lz (xRun M Lz f) k mc ms rt d (xRun M Lz f k code mc ms rt d) oc i a1 a2 pc L S Wd cc cs env) = some o := h
    cases hrow : code pc with
    | none => rw [hrow] at h; cases h
    | some row =>
      rw [hrow] at h
      have hchk := hrows pc row hrow
      obtain ⟨oc, i, len, a1, a2, a3⟩ := row
      dsimp only at h
      obtain ⟨hdg, hch⟩ := xand (show (decide (decode bb pc = .ok (i, len)) && xCh M own y.name pc oc len a1 a2 a3 i) = true from hchk)
      have hdg := of_decide_eq_true hdg
      generalize xRun M Lz f k code mc ms rt d = K at h hK
      cases i with
      | iconst n =>
        have g := hch
        obtain ⟨g0, g⟩ := xand g
        obtain ⟨g1, g⟩ := xand g
        obtain ⟨g2, g⟩ := xand g
        have g3 := g
        have e0 := xbeq g0
        subst e0
        have e1 := xbeq g1
        subst e1
        have h : xo_push1 K a1 a2 pc L S Wd cc cs env = some o := h
        exact xs_pushI1 hx hb hK hI ho h hdg (xbeq g2) (of_decide_eq_true g3)
      | lconst n =>
        have g := hch
        obtain ⟨g0, g⟩ := xand g
        obtain ⟨g1, g⟩ := xand g
        obtain ⟨g2, g⟩ := xand g
        have g3 := g
        have e0 := xbeq g0
        subst e0
        have e1 := xbeq g1
        subst e1
        have h : xo_push1 K a1 a2 pc L S Wd cc cs env = some o := h
        exact xs_pushL1 hx hb hK hI ho h hdg (xbeq g2) (of_decide_eq_true g3)
      | bipush n =>
        have g := hch
        obtain ⟨g0, g⟩ := xand g
        obtain ⟨g1, g⟩ := xand g
        obtain ⟨g2, g⟩ := xand g
        have g3 := g
        have e0 := xbeq g0
        subst e0
        have e1 := xbeq g1
        subst e1
        have h : xo_push2 K a1 a2 pc L S Wd cc cs env = some o := h
        exact xs_bipush hx hb hK hI ho h hdg (xbeq g2) (of_decide_eq_true g3)
      | sipush n =>
        have g := hch
        obtain ⟨g0, g⟩ := xand g
        obtain ⟨g1, g⟩ := xand g
        obtain ⟨g2, g⟩ := xand g
        have g3 := g
        have e0 := xbeq g0
        subst e0
        have e1 := xbeq g1
        subst e1
        have h : xo_push3 K a1 a2 pc L S Wd cc cs env = some o := h
        exact xs_sipush hx hb hK hI ho h hdg (xbeq g2) (of_decide_eq_true g3)
      | ldc n =>
        have g := hch
        obtain ⟨g0, g⟩ := xand g
        obtain ⟨g1, g⟩ := xand g
        obtain ⟨g2, g⟩ := xand g
        have g3 := g
        have e0 := xbeq g0
        subst e0
        have e1 := xbeq g1
        subst e1
        have h : xo_push2 K a1 a2 pc L S Wd cc cs env = some o := h
        exact xs_ldc hx hb hK hI ho h hown hdg (xbeq g2) (hts _ (xAt_ok g3))
      | ldc_w n =>
        have g := hch
        obtain ⟨g0, g⟩ := xand g
        obtain ⟨g1, g⟩ := xand g
        obtain ⟨g2, g⟩ := xand g
        have g3 := g
        have e0 := xbeq g0
        subst e0
        have e1 := xbeq g1
        subst e1
        have h : xo_push3 K a1 a2 pc L S Wd cc cs env = some o := h
        exact xs_ldcw hx hb hK hI ho h hown hdg (xbeq g2) (hts _ (xAt_ok g3))
      | ldc2_w n =>
        have g := hch
        obtain ⟨g0, g⟩ := xand g
        obtain ⟨g1, g⟩ := xand g
        obtain ⟨g2, g⟩ := xand g
        have g3 := g
        have e0 := xbeq g0
        subst e0
        have e1 := xbeq g1
        subst e1
        have h : xo_push3 K a1 a2 pc L S Wd cc cs env = some o := h
        exact xs_ldc2 hx hb hK hI ho h hown hdg (xbeq g2) (hts _ (xAt_ok g3))
      | iload_n n =>
        have g := hch
        obtain ⟨g0, g⟩ := xand g
        obtain ⟨g1, g⟩ := xand g
        have g2 := g
        have e0 := xbeq g0
        subst e0
        have e1 := xbeq g1
        subst e1
        have h : xo_iload1 K a1 a2 pc L S Wd cc cs env = some o := h
        exact xs_iload1 hx hb hK hI ho h hdg (xbeq g2)
      | iload n =>
        have g := hch
        obtain ⟨g0, g⟩ := xand g
        obtain ⟨g1, g⟩ := xand g
        have g2 := g
        have e0 := xbeq g0
        subst e0
        have e1 := xbeq g1
        subst e1
        have eS := xbeq g2
        subst eS
        have h : xo_iload2 K n a2 pc L S Wd cc cs env = some o := h
        exact xs_iload2 hx hb hK hI ho h hdg
      | lload_n n =>
        have g := hch
        obtain ⟨g0, g⟩ := xand g
        obtain ⟨g1, g⟩ := xand g
        have g2 := g
        have e0 := xbeq g0
        subst e0
        have e1 := xbeq g1
        subst e1
        have h : xo_lload1 K a1 a2 pc L S Wd cc cs env = some o := h
        exact xs_lload1 hx hb hK hI ho h hdg (xbeq g2)
      | lload n =>
        have g := hch
        obtain ⟨g0, g⟩ := xand g
        obtain ⟨g1, g⟩ := xand g
        have g2 := g
        have e0 := xbeq g0
        subst e0
        have e1 := xbeq g1
        subst e1
        have eS := xbeq g2
        subst eS
        have h : xo_lload2 K n a2 pc L S Wd cc cs env = some o := h
        exact xs_lload2 hx hb hK hI ho h hdg
      | aload_n n =>
        have g := hch
        obtain ⟨g0, g⟩ := xand g
        obtain ⟨g1, g⟩ := xand g
        have g2 := g
        have e0 := xbeq g0
        subst e0
        have e1 := xbeq g1
        subst e1
        have h : xo_aload1 K a1 a2 pc L S Wd cc cs env = some o := h
        exact xs_aload1 hx hb hK hI ho h hdg (xbeq g2)
      | aload n =>
        have g := hch
        obtain ⟨g0, g⟩ := xand g
        obtain ⟨g1, g⟩ := xand g
        have g2 := g
        have e0 := xbeq g0
        subst e0
        have e1 := xbeq g1
        subst e1
        have eS := xbeq g2
        subst eS
        have h : xo_aload2 K n a2 pc L S Wd cc cs env = some o := h
        exact xs_aload2 hx hb hK hI ho h hdg
      | istore_n n =>
        have g := hch
        obtain ⟨g0, g⟩ := xand g
        obtain ⟨g1, g⟩ := xand g
        have g2 := g
        have e0 := xbeq g0
        subst e0
        have e1 := xbeq g1
        subst e1
        have h : xo_istore1 K a1 a2 pc L S Wd cc cs env = some o := h
        exact xs_istore1 hx hb hK hI ho h hdg (xbeq g2)
      | istore n =>
        have g := hch
        obtain ⟨g0, g⟩ := xand g
        obtain ⟨g1, g⟩ := xand g
        have g2 := g
        have e0 := xbeq g0
        subst e0
        have e1 := xbeq g1
        subst e1
        have eS := xbeq g2
        subst eS
        have h : xo_istore2 K n a2 pc L S Wd cc cs env = some o := h
        exact xs_istore2 hx hb hK hI ho h hdg
      | astore_n n =>
        have g := hch
        obtain ⟨g0, g⟩ := xand g
        obtain ⟨g1, g⟩ := xand g
        have g2 := g
        have e0 := xbeq g0
        subst e0
        have e1 := xbeq g1
        subst e1
        have h : xo_astore1 K a1 a2 pc L S Wd cc cs env = some o := h
        exact xs_astore1 hx hb hK hI ho h hdg (xbeq g2)
      | astore n =>
        have g := hch
        obtain ⟨g0, g⟩ := xand g
        obtain ⟨g1, g⟩ := xand g
        have g2 := g
        have e0 := xbeq g0
        subst e0
        have e1 := xbeq g1
        subst e1
        have eS := xbeq g2
        subst eS
        have h : xo_astore2 K n a2 pc L S Wd cc cs env = some o := h
        exact xs_astore2 hx hb hK hI ho h hdg
      | lstore_n n =>
        have g := hch
        obtain ⟨g0, g⟩ := xand g
        obtain ⟨g1, g⟩ := xand g
        have g2 := g
        have e0 := xbeq g0
        subst e0
        have e1 := xbeq g1
        subst e1
        have h : xo_lstore1 K a1 a2 pc L S Wd cc cs env = some o := h
        exact xs_lstore1 hx hb hK hI ho h hdg (xbeq g2)
      | lstore n =>
        have g := hch
        obtain ⟨g0, g⟩ := xand g
        obtain ⟨g1, g⟩ := xand g
        have g2 := g
        have e0 := xbeq g0
        subst e0
        have e1 := xbeq g1
        subst e1
        have eS := xbeq g2
        subst eS
        have h : xo_lstore2 K n a2 pc L S Wd cc cs env = some o := h
        exact xs_lstore2 hx hb hK hI ho h hdg
      | iinc j n =>
        have g := hch
        obtain ⟨g0, g⟩ := xand g
        obtain ⟨g1, g⟩ := xand g
        obtain ⟨g2, g⟩ := xand g
        have g3 := g
        have e0 := xbeq g0
        subst e0
        have e1 := xbeq g1
        subst e1
        have eS := xbeq g2
        subst eS
        have h : xo_iinc K j a2 pc L S Wd cc cs env = some o := h
        exact xs_iinc hx hb hK hI ho h hdg (of_decide_eq_true g3)
      | iadd =>
        have g := hch
        obtain ⟨g0, g⟩ := xand g
        have g1 := g
        have e0 := xbeq g0
        subst e0
        have e1 := xbeq g1
        subst e1
        have h : xo_iadd K a1 a2 pc L S Wd cc cs env = some o := h
        exact xs_iadd hx hb hK hI ho h hdg
      | isub =>
        have g := hch
        obtain ⟨g0, g⟩ := xand g
        have g1 := g
        have e0 := xbeq g0
        subst e0
        have e1 := xbeq g1
        subst e1
        have h : xo_isub K a1 a2 pc L S Wd cc cs env = some o := h
        exact xs_isub hx hb hK hI ho h hdg
      | imul =>
        have g := hch
        obtain ⟨g0, g⟩ := xand g
        have g1 := g
        have e0 := xbeq g0
        subst e0
        have e1 := xbeq g1
        subst e1
        have h : xo_imul K a1 a2 pc L S Wd cc cs env = some o := h
        exact xs_imul hx hb hK hI ho h hdg
      | idiv =>
        have g := hch
        obtain ⟨g0, g⟩ := xand g
        have g1 := g
        have e0 := xbeq g0
        subst e0
        have e1 := xbeq g1
        subst e1
        have h : xo_idiv K a1 a2 pc L S Wd cc cs env = some o := h
        exact xs_idiv hx hb hK hI ho h hdg
      | irem =>
        have g := hch
        obtain ⟨g0, g⟩ := xand g
        have g1 := g
        have e0 := xbeq g0
        subst e0
        have e1 := xbeq g1
        subst e1
        have h : xo_irem K a1 a2 pc L S Wd cc cs env = some o := h
        exact xs_irem hx hb hK hI ho h hdg
      | ior =>
        have g := hch
        obtain ⟨g0, g⟩ := xand g
        have g1 := g
        have e0 := xbeq g0
        subst e0
        have e1 := xbeq g1
        subst e1
        have h : xo_ior K a1 a2 pc L S Wd cc cs env = some o := h
        exact xs_ior hx hb hK hI ho h hdg
      | ixor =>
        have g := hch
        obtain ⟨g0, g⟩ := xand g
        have g1 := g
        have e0 := xbeq g0
        subst e0
        have e1 := xbeq g1
        subst e1
        have h : xo_ixor K a1 a2 pc L S Wd cc cs env = some o := h
        exact xs_ixor hx hb hK hI ho h hdg
      | ishl =>
        have g := hch
        obtain ⟨g0, g⟩ := xand g
        have g1 := g
        have e0 := xbeq g0
        subst e0
        have e1 := xbeq g1
        subst e1
        have h : xo_ishl K a1 a2 pc L S Wd cc cs env = some o := h
        exact xs_ishl hx hb hK hI ho h hdg
      | ishr =>
        have g := hch
        obtain ⟨g0, g⟩ := xand g
        have g1 := g
        have e0 := xbeq g0
        subst e0
        have e1 := xbeq g1
        subst e1
        have h : xo_ishr K a1 a2 pc L S Wd cc cs env = some o := h
        exact xs_ishr hx hb hK hI ho h hdg
      | iushr =>
        have g := hch
        obtain ⟨g0, g⟩ := xand g
        have g1 := g
        have e0 := xbeq g0
        subst e0
        have e1 := xbeq g1
        subst e1
        have h : xo_iushr K a1 a2 pc L S Wd cc cs env = some o := h
        exact xs_iushr hx hb hK hI ho h hdg
      | ladd =>
        have g := hch
        obtain ⟨g0, g⟩ := xand g
        have g1 := g
        have e0 := xbeq g0
        subst e0
        have e1 := xbeq g1
        subst e1
        have h : xo_ladd K a1 a2 pc L S Wd cc cs env = some o := h
        exact xs_ladd hx hb hK hI ho h hdg
      | lsub =>
        have g := hch
        obtain ⟨g0, g⟩ := xand g
        have g1 := g
        have e0 := xbeq g0
        subst e0
        have e1 := xbeq g1
        subst e1
        have h : xo_lsub K a1 a2 pc L S Wd cc cs env = some o := h
        exact xs_lsub hx hb hK hI ho h hdg
      | lmul =>
        have g := hch
        obtain ⟨g0, g⟩ := xand g
        have g1 := g
        have e0 := xbeq g0
        subst e0
        have e1 := xbeq g1
        subst e1
        have h : xo_lmul K a1 a2 pc L S Wd cc cs env = some o := h
        exact xs_lmul hx hb hK hI ho h hdg
      | land =>
        have g := hch
        obtain ⟨g0, g⟩ := xand g
        have g1 := g
        have e0 := xbeq g0
        subst e0
        have e1 := xbeq g1
        subst e1
        have h : xo_land K a1 a2 pc L S Wd cc cs env = some o := h
        exact xs_land hx hb hK hI ho h hdg
      | lor =>
        have g := hch
        obtain ⟨g0, g⟩ := xand g
        have g1 := g
        have e0 := xbeq g0
        subst e0
        have e1 := xbeq g1
        subst e1
        have h : xo_lor K a1 a2 pc L S Wd cc cs env = some o := h
        exact xs_lor hx hb hK hI ho h hdg
      | lxor =>
        have g := hch
        obtain ⟨g0, g⟩ := xand g
        have g1 := g
        have e0 := xbeq g0
        subst e0
        have e1 := xbeq g1
        subst e1
        have h : xo_lxor K a1 a2 pc L S Wd cc cs env = some o := h
        exact xs_lxor hx hb hK hI ho h hdg
      | lshl =>
        have g := hch
        obtain ⟨g0, g⟩ := xand g
        have g1 := g
        have e0 := xbeq g0
        subst e0
        have e1 := xbeq g1
        subst e1
        have h : xo_lshl K a1 a2 pc L S Wd cc cs env = some o := h
        exact xs_lshl hx hb hK hI ho h hdg
      | lshr =>
        have g := hch
        obtain ⟨g0, g⟩ := xand g
        have g1 := g
        have e0 := xbeq g0
        subst e0
        have e1 := xbeq g1
        subst e1
        have h : xo_lshr K a1 a2 pc L S Wd cc cs env = some o := h
        exact xs_lshr hx hb hK hI ho h hdg
      | lushr =>
        have g := hch
        obtain ⟨g0, g⟩ := xand g
        have g1 := g
        have e0 := xbeq g0
        subst e0
        have e1 := xbeq g1
        subst e1
        have h : xo_lushr K a1 a2 pc L S Wd cc cs env = some o := h
        exact xs_lushr hx hb hK hI ho h hdg
      | i2l =>
        have g := hch
        obtain ⟨g0, g⟩ := xand g
        have g1 := g
        have e0 := xbeq g0
        subst e0
        have e1 := xbeq g1
        subst e1
        have h : xo_i2l K a1 a2 pc L S Wd cc cs env = some o := h
        exact xs_i2l hx hb hK hI ho h hdg
      | l2i =>
        have g := hch
        obtain ⟨g0, g⟩ := xand g
        have g1 := g
        have e0 := xbeq g0
        subst e0
        have e1 := xbeq g1
        subst e1
        have h : xo_l2i K a1 a2 pc L S Wd cc cs env = some o := h
        exact xs_l2i hx hb hK hI ho h hdg
      | ineg =>
        have g := hch
        obtain ⟨g0, g⟩ := xand g
        have g1 := g
        have e0 := xbeq g0
        subst e0
        have e1 := xbeq g1
        subst e1
        have h : xo_ineg K a1 a2 pc L S Wd cc cs env = some o := h
        exact xs_ineg hx hb hK hI ho h hdg
      | lcmp =>
        have g := hch
        obtain ⟨g0, g⟩ := xand g
        have g1 := g
        have e0 := xbeq g0
        subst e0
        have e1 := xbeq g1
        subst e1
        have h : xo_lcmp K a1 a2 pc L S Wd cc cs env = some o := h
        exact xs_lcmp hx hb hK hI ho h hdg
      | dup =>
        have g := hch
        obtain ⟨g0, g⟩ := xand g
        have g1 := g
        have e0 := xbeq g0
        subst e0
        have e1 := xbeq g1
        subst e1
        have h : xo_dup K a1 a2 pc L S Wd cc cs env = some o := h
        exact xs_dup hx hb hK hI ho h hdg
      | dup_x1 =>
        have g := hch
        obtain ⟨g0, g⟩ := xand g
        have g1 := g
        have e0 := xbeq g0
        subst e0
        have e1 := xbeq g1
        subst e1
        have h : xo_dup_x1 K a1 a2 pc L S Wd cc cs env = some o := h
        exact xs_dup_x1 hx hb hK hI ho h hdg
      | dup2 =>
        have g := hch
        obtain ⟨g0, g⟩ := xand g
        have g1 := g
        have e0 := xbeq g0
        subst e0
        have e1 := xbeq g1
        subst e1
        have h : xo_dup2 K a1 a2 pc L S Wd cc cs env = some o := h
        exact xs_dup2 hx hb hK hI ho h hdg
      | iand =>
        have g := hch
        obtain ⟨g0, g⟩ := xand g
        have g1 := g
        have e0 := xbeq g0
        subst e0
        have e1 := xbeq g1
        subst e1
        have h : xo_iand K a1 a2 pc L S Wd cc cs env = some o := h
        exact xs_iand hx hb hK hI ho h6 h hdg
      | ifCond q off =>
        have g := hch
        obtain ⟨g0, g⟩ := xand g
        obtain ⟨g1, g⟩ := xand g
        obtain ⟨g2, g⟩ := xand g
        have g3 := g
        have e0 := xbeq g0
        subst e0
        have e1 := xbeq g1
        subst e1
        have h : xo_ifC K a1 a2 pc L S Wd cc cs env = some o := h
        exact xs_ifC hx hb hK hI ho h hdg (of_decide_eq_true g2) (xbeq g3)
      | if_icmp q off =>
        have g := hch
        obtain ⟨g0, g⟩ := xand g
        obtain ⟨g1, g⟩ := xand g
        obtain ⟨g2, g⟩ := xand g
        have g3 := g
        have e0 := xbeq g0
        subst e0
        have e1 := xbeq g1
        subst e1
        have h : xo_icmp K a1 a2 pc L S Wd cc cs env = some o := h
        exact xs_icmp hx hb hK hI ho h hdg (of_decide_eq_true g2) (xbeq g3)
      | goto off =>
        have g := hch
        obtain ⟨g0, g⟩ := xand g
        obtain ⟨g1, g⟩ := xand g
        have g2 := g
        have e0 := xbeq g0
        subst e0
        have e1 := xbeq g1
        subst e1
        have h : xo_goto K a1 a2 pc L S Wd cc cs env = some o := h
        exact xs_goto hx hb hK hI ho h hdg (of_decide_eq_true g2)
      | iastore =>
        have g := hch
        obtain ⟨g0, g⟩ := xand g
        have g1 := g
        have e0 := xbeq g0
        subst e0
        have e1 := xbeq g1
        subst e1
        have h : xo_iastore K a1 a2 pc L S Wd cc cs env = some o := h
        exact xs_iastore hx hb hK hI ho h hKt hdg
      | laload =>
        have g := hch
        obtain ⟨g0, g⟩ := xand g
        have g1 := g
        have e0 := xbeq g0
        subst e0
        have e1 := xbeq g1
        subst e1
        have h : xo_laload K a1 a2 pc L S Wd cc cs env = some o := h
        exact xs_laload hx hb hK hI ho h hKt hdg
      | lastore =>
        have g := hch
        obtain ⟨g0, g⟩ := xand g
        have g1 := g
        have e0 := xbeq g0
        subst e0
        have e1 := xbeq g1
        subst e1
        have h : xo_lastore K a1 a2 pc L S Wd cc cs env = some o := h
        exact xs_lastore hx hb hK hI ho h hKt hdg
      | baload =>
        have g := hch
        obtain ⟨g0, g⟩ := xand g
        have g1 := g
        have e0 := xbeq g0
        subst e0
        have e1 := xbeq g1
        subst e1
        have h : xo_baload K a1 a2 pc L S Wd cc cs env = some o := h
        exact xs_baload hx hb hK hI ho h hKt hdg
      | bastore =>
        have g := hch
        obtain ⟨g0, g⟩ := xand g
        have g1 := g
        have e0 := xbeq g0
        subst e0
        have e1 := xbeq g1
        subst e1
        have h : xo_bastore K a1 a2 pc L S Wd cc cs env = some o := h
        exact xs_bastore hx hb hK hI ho h hKt hdg
      | aaload =>
        have g := hch
        obtain ⟨g0, g⟩ := xand g
        have g1 := g
        have e0 := xbeq g0
        subst e0
        have e1 := xbeq g1
        subst e1
        have h : xo_aaload K a1 a2 pc L S Wd cc cs env = some o := h
        exact xs_aaload hx hb hK hI ho h hKt hdg
      | aastore =>
        have g := hch
        obtain ⟨g0, g⟩ := xand g
        have g1 := g
        have e0 := xbeq g0
        subst e0
        have e1 := xbeq g1
        subst e1
        have h : xo_aastore K a1 a2 pc L S Wd cc cs env = some o := h
        exact xs_aastore hx hb hK hI ho h hKt hdg
      | arraylength =>
        have g := hch
        obtain ⟨g0, g⟩ := xand g
        have g1 := g
        have e0 := xbeq g0
        subst e0
        have e1 := xbeq g1
        subst e1
        have h : xo_alen Lz k mc ms K a1 a2 pc L S Wd cc cs env = some o := h
        exact xs_alen hx hb hK hI ho h hKt hX hdg
      | newarray t =>
        have g := hch
        obtain ⟨g0, g⟩ := xand g
        obtain ⟨g1, g⟩ := xand g
        have g2 := g
        have e0 := xbeq g0
        subst e0
        have e1 := xbeq g1
        subst e1
        have h : xo_newa mc ms K (.newarray t) pc L S Wd cc cs env = some o := h
        exact xs_newa hx hb hK hI ho h hts hKt hA hmc hms hdg (xAw g2)
      | tableswitch df lo hi offs =>
        have g := hch
        have g0 := g
        have e0 := xbeq g0
        subst e0
        have h : xo_tsw K (.tableswitch df lo hi offs) pc L S Wd cc cs env = some o := h
        exact xs_tsw hx hb hK hI ho h hdg
      | lookupswitch df ps =>
        have g := hch
        obtain ⟨g0, g⟩ := xand g
        have g1 := g
        have e0 := xbeq g0
        subst e0
        have h : xo_lsw K (.lookupswitch df ps) pc L S Wd cc cs env = some o := h
        exact xs_lsw hx hb hK hI ho h hdg g1
      | iaload =>
        obtain ⟨g0, g1⟩ := xand (show ((Nat.beq oc 48 || Nat.beq oc 100) && Nat.beq len 1) = true from hch)
        have e1 := xbeq g1
        subst e1
        cases h48 : Nat.beq oc 48 with
        | true =>
          have e0 := xbeq h48
          subst e0
          have h : xo_iaload K a1 a2 pc L S Wd cc cs env = some o := h
          exact xs_iaload hx hb hK hI ho h hKt hdg
        | false =>
          rw [h48] at g0
          have e0 := xbeq (show Nat.beq oc 100 = true from g0)
          subst e0
          have h : xo_sload Lz k mc ms K a1 a2 pc L S Wd cc cs env = some o := h
          exact xs_sload hx hb hK hI ho h hX hdg
      | getfield idx =>
        obtain ⟨g0, gA⟩ := xand hch
        obtain ⟨g1, gB⟩ := xand gA
        have e0 := xbeq g0
        subst e0
        have e1 := xbeq g1
        subst e1
        have g := gB
        have h : xo_getfield K a1 a2 pc L S Wd cc cs env = some o := h
        cases hq : vwCl[a1]? with
        | none => rw [hq] at g; cases g
        | some q =>
          rw [hq] at g
          obtain ⟨g2, g3⟩ := xand g
          exact xs_getfield hx hb hK hI ho h hts hown hKt hdg hq (xblt g2) (xAt_ok g3)
      | putfield idx =>
        obtain ⟨g0, gA⟩ := xand hch
        obtain ⟨g1, gB⟩ := xand gA
        have e0 := xbeq g0
        subst e0
        have e1 := xbeq g1
        subst e1
        have g := gB
        have h : xo_putfield K a1 a2 pc L S Wd cc cs env = some o := h
        cases hq : vwCl[a1]? with
        | none => rw [hq] at g; cases g
        | some q =>
          rw [hq] at g
          obtain ⟨g2, g⟩ := xand g
          obtain ⟨g3, g4⟩ := xand g
          refine xs_putfield hx hb hK hI ho h hts hown hKt hdg hq (xblt g2) (xAt_ok g3) ?_
          unfold xFl at g4
          cases hfl : (q.2.1 a2).2.2.2 with
          | false => exact Or.inl rfl
          | true =>
            rw [hfl] at g4
            obtain ⟨g5, g6⟩ := xand (show (decide (y.name = "<init>") && decide ((q.2.1 a2).1 = own)) = true from g4)
            exact Or.inr ⟨rfl, hinit (of_decide_eq_true g5), of_decide_eq_true g6⟩
      | new idx =>
        obtain ⟨g0, gA⟩ := xand hch
        obtain ⟨g1, gB⟩ := xand gA
        have e0 := xbeq g0
        subst e0
        have e1 := xbeq g1
        subst e1
        have g := gB
        have h : xo_new Lz k mc ms K a1 a2 pc L S Wd cc cs env = some o := h
        cases hq : vwCl[a1]? with
        | none => rw [hq] at g; cases g
        | some q =>
          rw [hq] at g
          exact xs_new hx hb hK hI ho h hts hown hKt hA hmc hms hdg hq (xAt_ok g) (hMa.1 a1 q hq).1 (hMa.1 a1 q hq).2
      | anewarray idx =>
        obtain ⟨g0, gA⟩ := xand hch
        obtain ⟨g1, gB⟩ := xand gA
        have e0 := xbeq g0
        subst e0
        have e1 := xbeq g1
        subst e1
        have g := gB
        have h : xo_anewa Lz k mc ms K a1 a2 pc L S Wd cc cs env = some o := h
        exact xs_anewa hx hb hK hI ho h hts hown hKt hA hmc hms hdg (xAt_ok g) hXX.1
      | invokevirtual idx =>
        obtain ⟨g0, gA⟩ := xand hch
        obtain ⟨g1, gB⟩ := xand gA
        obtain ⟨g2, gC⟩ := xand gB
        have e0 := xbeq g0
        subst e0
        have e1 := xbeq g1
        subst e1
        have g := gC
        have hk0 : a1 ≠ 0 := fun q => by rw [q] at g2; cases g2
        have h : xCall M (xRun M Lz f) mc ms d K a1 (fun o => Nat.beq (o % 8) 2 && Nat.beq (xGet Wd (o / 8) % 18446744073709551616) (8 * a2 + 2)) pc L S Wd cc cs env = some o := h
        cases hM' : M a1 with
        | none => rw [hM'] at g; cases g
        | some mt =>
          obtain ⟨own', y', b', maxL', rt', na', mc', ms', code'⟩ := mt
          rw [hM'] at g
          obtain ⟨g3, g⟩ := xand g
          obtain ⟨g4, g⟩ := xand g
          obtain ⟨g5, g⟩ := xand g
          obtain ⟨g6, g⟩ := xand g
          have hn := of_decide_eq_true g4
          have hna := xblt g3
          obtain ⟨hg, hkind⟩ := (hMa.2 a1 own' y' b' maxL' rt' na' mc' ms' code' hM').2 hk0
          cases hq : vwCl[a2]? with
          | none => rw [hq] at g; cases g
          | some q =>
            rw [hq] at g
            have hqn : q.1 = y'.cls := of_decide_eq_true g
            rcases hkind with ⟨n, f1, f2, f3⟩ | ⟨n, f1, f2, f3, f4⟩
            · rw [hn] at f1
              have := Option.some.inj f1
              omega
            · rcases f4 with f4 | f4
              · rw [f4] at g5; cases g5
              · refine xs_call IH hx hb hK hI ho h hts hown hKt hml hA hmc hms hfr hlo h6 hXX hM' hg hk0 f1 (i := .invokevirtual idx) (Or.inl ⟨rfl, f2, xAt_ok g6, f3, f4, fun o ho2 => ⟨xbeq (xand ho2).1, a2, q, hq, hqn, xbeq (xand ho2).2⟩⟩) hdg (fun q => by cases q)
      | invokespecial idx =>
        obtain ⟨g1, gA⟩ := xand hch
        have e1 := xbeq g1
        subst e1
        have g := gA
        cases h113 : Nat.beq oc 113 with
        | true =>
          rw [h113, cond_true] at g
          have e0 := xbeq h113
          subst e0
          have h : xo_objI d K pc L S Wd cc cs env = some o := h
          exact xs_objI hx hb hK hI ho h hts hown hml hfr hlo hdg (xAt_ok g) xOi xOc
        | false =>
          rw [h113, cond_false] at g
          obtain ⟨g0, gB⟩ := xand g
          obtain ⟨g2, gC⟩ := xand gB
          have e0 := xbeq g0
          subst e0
          have g := gC
          have hk0 : a1 ≠ 0 := fun q => by rw [q] at g2; cases g2
          have h : xCall M (xRun M Lz f) mc ms d K a1 (fun o => Nat.beq (o % 8) 2) pc L S Wd cc cs env = some o := h
          cases hM' : M a1 with
          | none => rw [hM'] at g; cases g
          | some mt =>
            obtain ⟨own', y', b', maxL', rt', na', mc', ms', code'⟩ := mt
            rw [hM'] at g
            obtain ⟨g3, g⟩ := xand g
            obtain ⟨g4, g⟩ := xand g
            obtain ⟨g5, g⟩ := xand g
            obtain ⟨g6, g⟩ := xand g
            have hn := of_decide_eq_true g4
            have hna := xblt g3
            obtain ⟨hg, hkind⟩ := (hMa.2 a1 own' y' b' maxL' rt' na' mc' ms' code' hM').2 hk0
            have hl : Jvm.Cond.methodLink own idx y' ∈ xTb ∨ ∃ host, Jvm.Cond.methodLinkNest own idx y' host ∈ lw_tbl := by
              cases ha : xAt a3 (.methodLink own idx y') with
              | true => exact Or.inl (xAt_ok ha)
              | false =>
                rw [ha] at g
                exact Or.inr (xNest_ok g)
            rcases hkind with ⟨n, f1, f2, f3⟩ | ⟨n, f1, f2, f3, f4⟩
            · rw [hn] at f1
              have := Option.some.inj f1
              omega
            · exact xs_call IH hx hb hK hI ho h hts hown hKt hml hA hmc hms hfr hlo h6 hXX hM' hg hk0 f1 (i := .invokespecial idx) (Or.inr (Or.inl ⟨rfl, f2, of_decide_eq_true g5, f3, hl, fun o ho2 => xbeq ho2⟩)) hdg (fun _ => of_decide_eq_true g6)
      | invokestatic idx =>
        obtain ⟨g1, gA⟩ := xand hch
        have e1 := xbeq g1
        subst e1
        have g := gA
        cases h114 : Nat.beq oc 114 with
        | true =>
          rw [h114, cond_true] at g
          have e0 := xbeq h114
          subst e0
          have h : xo_acopy d K pc L S Wd cc cs env = some o := h
          exact xs_acopy hx hb hK hI ho h hts hown hKt hml hfr hlo hdg (xAt_ok g) xAcN xAcS xAcI
        | false =>
          rw [h114, cond_false] at g
          obtain ⟨g0, gB⟩ := xand g
          obtain ⟨g2, gC⟩ := xand gB
          have e0 := xbeq g0
          subst e0
          have g := gC
          have hk0 : a1 ≠ 0 := fun q => by rw [q] at g2; cases g2
          have h : xCall M (xRun M Lz f) mc ms d K a1 (fun _ => true) pc L S Wd cc cs env = some o := h
          cases hM' : M a1 with
          | none => rw [hM'] at g; cases g
          | some mt =>
            obtain ⟨own', y', b', maxL', rt', na', mc', ms', code'⟩ := mt
            rw [hM'] at g
            obtain ⟨g3, g4⟩ := xand g
            have hn := of_decide_eq_true g3
            obtain ⟨hg, hkind⟩ := (hMa.2 a1 own' y' b' maxL' rt' na' mc' ms' code' hM').2 hk0
            rcases hkind with ⟨n, f1, f2, f3⟩ | ⟨n, f1, f2, f3, f4⟩
            · exact xs_call IH hx hb hK hI ho h hts hown hKt hml hA hmc hms hfr hlo h6 hXX hM' hg hk0 f1 (i := .invokestatic idx) (Or.inr (Or.inr ⟨rfl, f2, xAt_ok g4, f3⟩)) hdg (fun q => by cases q)
            · rw [hn] at f1
              have := Option.some.inj f1
              omega
      | ireturn =>
        obtain ⟨g0, g1⟩ := xand (show (Nat.beq oc 108 && Nat.beq len 1) = true from hch)
        have e0 := xbeq g0
        subst e0
        have e1 := xbeq g1
        subst e1
        have h : xo_iret mc ms rt pc S Wd cc cs env = some o := h
        unfold xo_iret at h
        match S, h with
        | [v], h =>
          dsimp only at h
          obtain ⟨hc, h⟩ := xbif h
          obtain ⟨hc, hcs⟩ := xand hc
          obtain ⟨hvi, hcc⟩ := xand hc
          have hrs : ([v] : List Nat).map (xg ρ b ad) = xRs ρ b ad v := by
            unfold xRs
            rw [if_neg (xi11 hvi)]
            rfl
          rw [hrs]
          have go : (rt = some .int ∨ (rt = some .boolean ∧ (v = 0 ∨ v = 8))) → some [(pc, v, Wd, env, cc, cs)] = some o → W p l e R s m args below meth c H locs cc cs Q (F0 m pc ls (xRs ρ b ad v)) := by
            intro hrt hq
            have hq := Option.some.inj hq
            exact hfin pc v Wd env cc cs (ho _ (by rw [← hq]; exact List.mem_cons_self)) hI.2.2.1 (xble hcc) (xble hcs) (Or.inl ⟨hdg, hvi, hrt⟩) ad H locs ls hI.2.1.1 hI.2.1.2.1 hI.2.1.2.2 hI.2.2.2
          match rt, h, go with
          | some .int, h, go => exact go (Or.inl rfl) h
          | some .boolean, h, go =>
            dsimp only at h
            obtain ⟨hv, h⟩ := xbif h
            refine go (Or.inr ⟨rfl, ?_⟩) h
            cases hq : Nat.beq v 0 with
            | true => exact Or.inl (xbeq hq)
            | false => rw [hq] at hv; exact Or.inr (xbeq (show Nat.beq v 8 = true from hv))
        | [], h => cases h
        | _ :: _ :: _, h => cases h
      | lreturn =>
        obtain ⟨g0, g1⟩ := xand (show (Nat.beq oc 109 && Nat.beq len 1) = true from hch)
        have e0 := xbeq g0
        subst e0
        have e1 := xbeq g1
        subst e1
        have h : xo_lret mc ms rt pc S Wd cc cs env = some o := h
        unfold xo_lret at h
        match S, h with
        | [v], h =>
          dsimp only at h
          obtain ⟨hc, h⟩ := xbif h
          obtain ⟨hc, hcs⟩ := xand hc
          obtain ⟨hv1, hcc⟩ := xand hc
          have hv1 := xbeq hv1
          have hrs : ([v] : List Nat).map (xg ρ b ad) = xRs ρ b ad v := by
            unfold xRs
            rw [if_neg (fun q => by rw [q] at hv1; cases hv1)]
            rfl
          rw [hrs]
          have go : rt = some .long → some [(pc, v, Wd, env, cc, cs)] = some o → W p l e R s m args below meth c H locs cc cs Q (F0 m pc ls (xRs ρ b ad v)) := by
            intro hrt hq
            have hq := Option.some.inj hq
            exact hfin pc v Wd env cc cs (ho _ (by rw [← hq]; exact List.mem_cons_self)) hI.2.2.1 (xble hcc) (xble hcs) (Or.inr (Or.inl ⟨hdg, hv1, hrt⟩)) ad H locs ls hI.2.1.1 hI.2.1.2.1 hI.2.1.2.2 hI.2.2.2
          match rt, h, go with
          | some .long, h, go => exact go rfl h
        | [], h => cases h
        | _ :: _ :: _, h => cases h
      | return_ =>
        obtain ⟨g0, g1⟩ := xand (show (Nat.beq oc 110 && Nat.beq len 1) = true from hch)
        have e0 := xbeq g0
        subst e0
        have e1 := xbeq g1
        subst e1
        have h : xo_vret mc ms rt pc S Wd cc cs env = some o := h
        unfold xo_vret at h
        match S, h with
        | [], h =>
          dsimp only at h
          obtain ⟨hc, h⟩ := xbif h
          obtain ⟨hcc, hcs⟩ := xand hc
          have hrs : ([] : List Nat).map (xg ρ b ad) = xRs ρ b ad 11 := by
            unfold xRs
            rw [if_pos rfl]
            rfl
          rw [hrs]
          have go : rt = none → some [(pc, 11, Wd, env, cc, cs)] = some o → W p l e R s m args below meth c H locs cc cs Q (F0 m pc ls (xRs ρ b ad 11)) := by
            intro hrt hq
            have hq := Option.some.inj hq
            exact hfin pc 11 Wd env cc cs (ho _ (by rw [← hq]; exact List.mem_cons_self)) hI.2.2.1 (xble hcc) (xble hcs) (Or.inr (Or.inr ⟨hdg, rfl, hrt⟩)) ad H locs ls hI.2.1.1 hI.2.1.2.1 hI.2.1.2.2 hI.2.2.2
          match rt, h, go with
          | none, h, go => exact go rfl h
        | _ :: _, h => cases h
      | _ => cases hch
end
