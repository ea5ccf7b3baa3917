section
-- ===== PART A: goes FIRST, ahead of the names: the tables' words, and 'selects' of the private methods out of them =====
/-- a private method of a class that the tables say can be made, by its rows of tables_1 -/
def lw_okq (q : MethodName × Nat) : Prop := (q.1.cls ≠ "java/lang/invoke/MethodHandle" ∧ q.1.cls ≠ "java/lang/invoke/VarHandle") ∧ Cond.instantiable q.1.cls q.2 ∈ tables_1 ∧ Cond.privateMethod q.1 ∈ tables_1 ∧ Cond.instanceMethod q.1 ∈ tables_1
theorem lw_p0 : lw_okq (⟨"ConstellationsByLot", "isShelf", "(I)Z"⟩, 12) := ⟨⟨by decide +kernel, by decide +kernel⟩, List.mem_of_getElem? (i := 20) (by decide +kernel), List.mem_of_getElem? (i := 296) (by decide +kernel), List.mem_of_getElem? (i := 297) (by decide +kernel)⟩
theorem lw_p1 : lw_okq (⟨"ConstellationsByLot", "refuse", "(I)I"⟩, 12) := ⟨⟨by decide +kernel, by decide +kernel⟩, List.mem_of_getElem? (i := 20) (by decide +kernel), List.mem_of_getElem? (i := 300) (by decide +kernel), List.mem_of_getElem? (i := 301) (by decide +kernel)⟩
theorem lw_p2 : lw_okq (⟨"ConstellationsByLot", "isParish", "(I)Z"⟩, 12) := ⟨⟨by decide +kernel, by decide +kernel⟩, List.mem_of_getElem? (i := 20) (by decide +kernel), List.mem_of_getElem? (i := 356) (by decide +kernel), List.mem_of_getElem? (i := 357) (by decide +kernel)⟩
theorem lw_p3 : lw_okq (⟨"ConstellationsByLot", "worthOf", "(I)I"⟩, 12) := ⟨⟨by decide +kernel, by decide +kernel⟩, List.mem_of_getElem? (i := 20) (by decide +kernel), List.mem_of_getElem? (i := 367) (by decide +kernel), List.mem_of_getElem? (i := 368) (by decide +kernel)⟩
theorem lw_p4 : lw_okq (⟨"ConstellationsByLot$Figure", "countPieces", "()V"⟩, 9) := ⟨⟨by decide +kernel, by decide +kernel⟩, List.mem_of_getElem? (i := 121) (by decide +kernel), List.mem_of_getElem? (i := 401) (by decide +kernel), List.mem_of_getElem? (i := 402) (by decide +kernel)⟩
theorem lw_p5 : lw_okq (⟨"ConstellationsByLot$Figure", "pieceAround", "(I)I"⟩, 9) := ⟨⟨by decide +kernel, by decide +kernel⟩, List.mem_of_getElem? (i := 121) (by decide +kernel), List.mem_of_getElem? (i := 405) (by decide +kernel), List.mem_of_getElem? (i := 406) (by decide +kernel)⟩
theorem lw_p6 : lw_okq (⟨"ConstellationsByLot$Figure", "lessStrokes", "(I)I"⟩, 9) := ⟨⟨by decide +kernel, by decide +kernel⟩, List.mem_of_getElem? (i := 121) (by decide +kernel), List.mem_of_getElem? (i := 419) (by decide +kernel), List.mem_of_getElem? (i := 420) (by decide +kernel)⟩
theorem lw_p7 : lw_okq (⟨"ConstellationsByLot", "isPoint", "(I)Z"⟩, 12) := ⟨⟨by decide +kernel, by decide +kernel⟩, List.mem_of_getElem? (i := 20) (by decide +kernel), List.mem_of_getElem? (i := 461) (by decide +kernel), List.mem_of_getElem? (i := 462) (by decide +kernel)⟩
theorem lw_p8 : lw_okq (⟨"ConstellationsByLot", "isPair", "(II)Z"⟩, 12) := ⟨⟨by decide +kernel, by decide +kernel⟩, List.mem_of_getElem? (i := 20) (by decide +kernel), List.mem_of_getElem? (i := 487) (by decide +kernel), List.mem_of_getElem? (i := 488) (by decide +kernel)⟩
theorem lw_p9 : lw_okq (⟨"ConstellationsByLot$Tape", "readStatement", "(LConstellationsByLot$Sky;)V"⟩, 5) := ⟨⟨by decide +kernel, by decide +kernel⟩, List.mem_of_getElem? (i := 210) (by decide +kernel), List.mem_of_getElem? (i := 542) (by decide +kernel), List.mem_of_getElem? (i := 543) (by decide +kernel)⟩
theorem lw_p10 : lw_okq (⟨"ConstellationsByLot$Tape", "skipBlanks", "()V"⟩, 5) := ⟨⟨by decide +kernel, by decide +kernel⟩, List.mem_of_getElem? (i := 210) (by decide +kernel), List.mem_of_getElem? (i := 546) (by decide +kernel), List.mem_of_getElem? (i := 547) (by decide +kernel)⟩
theorem lw_p11 : lw_okq (⟨"ConstellationsByLot$Tape", "isWord", "(Ljava/lang/String;)Z"⟩, 5) := ⟨⟨by decide +kernel, by decide +kernel⟩, List.mem_of_getElem? (i := 210) (by decide +kernel), List.mem_of_getElem? (i := 551) (by decide +kernel), List.mem_of_getElem? (i := 552) (by decide +kernel)⟩
theorem lw_p12 : lw_okq (⟨"ConstellationsByLot$Tape", "readPoint", "(LConstellationsByLot$Sky;)V"⟩, 5) := ⟨⟨by decide +kernel, by decide +kernel⟩, List.mem_of_getElem? (i := 210) (by decide +kernel), List.mem_of_getElem? (i := 604) (by decide +kernel), List.mem_of_getElem? (i := 605) (by decide +kernel)⟩
theorem lw_p13 : lw_okq (⟨"ConstellationsByLot$Tape", "readNumber", "(II)I"⟩, 5) := ⟨⟨by decide +kernel, by decide +kernel⟩, List.mem_of_getElem? (i := 210) (by decide +kernel), List.mem_of_getElem? (i := 608) (by decide +kernel), List.mem_of_getElem? (i := 609) (by decide +kernel)⟩
theorem lw_p14 : lw_okq (⟨"ConstellationsByLot$Tape", "readParish", "(LConstellationsByLot$Sky;)V"⟩, 5) := ⟨⟨by decide +kernel, by decide +kernel⟩, List.mem_of_getElem? (i := 210) (by decide +kernel), List.mem_of_getElem? (i := 615) (by decide +kernel), List.mem_of_getElem? (i := 616) (by decide +kernel)⟩
theorem lw_p15 : lw_okq (⟨"ConstellationsByLot$Tape", "readWants", "(LConstellationsByLot$Sky;)V"⟩, 5) := ⟨⟨by decide +kernel, by decide +kernel⟩, List.mem_of_getElem? (i := 210) (by decide +kernel), List.mem_of_getElem? (i := 621) (by decide +kernel), List.mem_of_getElem? (i := 622) (by decide +kernel)⟩
def lw_privs_1 : List (MethodName × Nat) := [(⟨"ConstellationsByLot", "isShelf", "(I)Z"⟩, 12), (⟨"ConstellationsByLot", "refuse", "(I)I"⟩, 12), (⟨"ConstellationsByLot", "isParish", "(I)Z"⟩, 12), (⟨"ConstellationsByLot", "worthOf", "(I)I"⟩, 12), (⟨"ConstellationsByLot$Figure", "countPieces", "()V"⟩, 9), (⟨"ConstellationsByLot$Figure", "pieceAround", "(I)I"⟩, 9), (⟨"ConstellationsByLot$Figure", "lessStrokes", "(I)I"⟩, 9), (⟨"ConstellationsByLot", "isPoint", "(I)Z"⟩, 12), (⟨"ConstellationsByLot", "isPair", "(II)Z"⟩, 12), (⟨"ConstellationsByLot$Tape", "readStatement", "(LConstellationsByLot$Sky;)V"⟩, 5), (⟨"ConstellationsByLot$Tape", "skipBlanks", "()V"⟩, 5), (⟨"ConstellationsByLot$Tape", "isWord", "(Ljava/lang/String;)Z"⟩, 5), (⟨"ConstellationsByLot$Tape", "readPoint", "(LConstellationsByLot$Sky;)V"⟩, 5), (⟨"ConstellationsByLot$Tape", "readNumber", "(II)I"⟩, 5), (⟨"ConstellationsByLot$Tape", "readParish", "(LConstellationsByLot$Sky;)V"⟩, 5), (⟨"ConstellationsByLot$Tape", "readWants", "(LConstellationsByLot$Sky;)V"⟩, 5)]
theorem lw_r1 : ∀ q ∈ lw_privs_1, lw_okq q := List.forall_mem_cons.mpr ⟨lw_p0, List.forall_mem_cons.mpr ⟨lw_p1, List.forall_mem_cons.mpr ⟨lw_p2, List.forall_mem_cons.mpr ⟨lw_p3, List.forall_mem_cons.mpr ⟨lw_p4, List.forall_mem_cons.mpr ⟨lw_p5, List.forall_mem_cons.mpr ⟨lw_p6, List.forall_mem_cons.mpr ⟨lw_p7, List.forall_mem_cons.mpr ⟨lw_p8, List.forall_mem_cons.mpr ⟨lw_p9, List.forall_mem_cons.mpr ⟨lw_p10, List.forall_mem_cons.mpr ⟨lw_p11, List.forall_mem_cons.mpr ⟨lw_p12, List.forall_mem_cons.mpr ⟨lw_p13, List.forall_mem_cons.mpr ⟨lw_p14, List.forall_mem_cons.mpr ⟨lw_p15, fun _ h => absurd h List.not_mem_nil⟩⟩⟩⟩⟩⟩⟩⟩⟩⟩⟩⟩⟩⟩⟩⟩
theorem lw_p16 : lw_okq (⟨"ConstellationsByLot$Tape", "readLine", "(LConstellationsByLot$Sky;)V"⟩, 5) := ⟨⟨by decide +kernel, by decide +kernel⟩, List.mem_of_getElem? (i := 210) (by decide +kernel), List.mem_of_getElem? (i := 626) (by decide +kernel), List.mem_of_getElem? (i := 627) (by decide +kernel)⟩
theorem lw_p17 : lw_okq (⟨"ConstellationsByLot$Tape", "allow", "(Z)V"⟩, 5) := ⟨⟨by decide +kernel, by decide +kernel⟩, List.mem_of_getElem? (i := 210) (by decide +kernel), List.mem_of_getElem? (i := 631) (by decide +kernel), List.mem_of_getElem? (i := 632) (by decide +kernel)⟩
theorem lw_p18 : lw_okq (⟨"ConstellationsByLot$Tape", "readCloud", "(LConstellationsByLot$Sky;)V"⟩, 5) := ⟨⟨by decide +kernel, by decide +kernel⟩, List.mem_of_getElem? (i := 210) (by decide +kernel), List.mem_of_getElem? (i := 639) (by decide +kernel), List.mem_of_getElem? (i := 640) (by decide +kernel)⟩
theorem lw_p19 : lw_okq (⟨"ConstellationsByLot$Tape", "readSemicolon", "()Z"⟩, 5) := ⟨⟨by decide +kernel, by decide +kernel⟩, List.mem_of_getElem? (i := 210) (by decide +kernel), List.mem_of_getElem? (i := 643) (by decide +kernel), List.mem_of_getElem? (i := 644) (by decide +kernel)⟩
theorem lw_p20 : lw_okq (⟨"ConstellationsByLot$Sky", "lengthTo", "(II)I"⟩, 7) := ⟨⟨by decide +kernel, by decide +kernel⟩, List.mem_of_getElem? (i := 28) (by decide +kernel), List.mem_of_getElem? (i := 708) (by decide +kernel), List.mem_of_getElem? (i := 709) (by decide +kernel)⟩
theorem lw_p21 : lw_okq (⟨"ConstellationsByLot", "bestNewLine", "(LConstellationsByLot$Parish;)I"⟩, 12) := ⟨⟨by decide +kernel, by decide +kernel⟩, List.mem_of_getElem? (i := 20) (by decide +kernel), List.mem_of_getElem? (i := 714) (by decide +kernel), List.mem_of_getElem? (i := 715) (by decide +kernel)⟩
theorem lw_p22 : lw_okq (⟨"ConstellationsByLot", "spareWorth", "()I"⟩, 12) := ⟨⟨by decide +kernel, by decide +kernel⟩, List.mem_of_getElem? (i := 20) (by decide +kernel), List.mem_of_getElem? (i := 719) (by decide +kernel), List.mem_of_getElem? (i := 720) (by decide +kernel)⟩
theorem lw_p23 : lw_okq (⟨"ConstellationsByLot", "worstLine", "(LConstellationsByLot$Parish;)I"⟩, 12) := ⟨⟨by decide +kernel, by decide +kernel⟩, List.mem_of_getElem? (i := 20) (by decide +kernel), List.mem_of_getElem? (i := 723) (by decide +kernel), List.mem_of_getElem? (i := 724) (by decide +kernel)⟩
theorem lw_p24 : lw_okq (⟨"ConstellationsByLot$Sharing", "findPoints", "(LConstellationsByLot$Sky;)V"⟩, 8) := ⟨⟨by decide +kernel, by decide +kernel⟩, List.mem_of_getElem? (i := 162) (by decide +kernel), List.mem_of_getElem? (i := 735) (by decide +kernel), List.mem_of_getElem? (i := 736) (by decide +kernel)⟩
theorem lw_p25 : lw_okq (⟨"ConstellationsByLot$Sharing", "nextWanter", "(II)I"⟩, 8) := ⟨⟨by decide +kernel, by decide +kernel⟩, List.mem_of_getElem? (i := 162) (by decide +kernel), List.mem_of_getElem? (i := 749) (by decide +kernel), List.mem_of_getElem? (i := 750) (by decide +kernel)⟩
theorem lw_p26 : lw_okq (⟨"ConstellationsByLot$Sharing", "turnKeep", "(I)V"⟩, 8) := ⟨⟨by decide +kernel, by decide +kernel⟩, List.mem_of_getElem? (i := 162) (by decide +kernel), List.mem_of_getElem? (i := 753) (by decide +kernel), List.mem_of_getElem? (i := 754) (by decide +kernel)⟩
theorem lw_p27 : lw_okq (⟨"ConstellationsByLot$Sharing", "findWorths", "(LConstellationsByLot$Sky;ILConstellationsByLot$Figure;LConstellationsByLot$Parish;)V"⟩, 8) := ⟨⟨by decide +kernel, by decide +kernel⟩, List.mem_of_getElem? (i := 162) (by decide +kernel), List.mem_of_getElem? (i := 757) (by decide +kernel), List.mem_of_getElem? (i := 758) (by decide +kernel)⟩
theorem lw_p28 : lw_okq (⟨"ConstellationsByLot$Sharing", "mayKeep", "(II)Z"⟩, 8) := ⟨⟨by decide +kernel, by decide +kernel⟩, List.mem_of_getElem? (i := 162) (by decide +kernel), List.mem_of_getElem? (i := 761) (by decide +kernel), List.mem_of_getElem? (i := 762) (by decide +kernel)⟩
theorem lw_p29 : lw_okq (⟨"ConstellationsByLot$Sharing", "pointsBut", "(I)I"⟩, 8) := ⟨⟨by decide +kernel, by decide +kernel⟩, List.mem_of_getElem? (i := 162) (by decide +kernel), List.mem_of_getElem? (i := 766) (by decide +kernel), List.mem_of_getElem? (i := 767) (by decide +kernel)⟩
theorem lw_p30 : lw_okq (⟨"ConstellationsByLot$Sharing", "leastWorth", "(I)I"⟩, 8) := ⟨⟨by decide +kernel, by decide +kernel⟩, List.mem_of_getElem? (i := 162) (by decide +kernel), List.mem_of_getElem? (i := 773) (by decide +kernel), List.mem_of_getElem? (i := 774) (by decide +kernel)⟩
theorem lw_p31 : lw_okq (⟨"ConstellationsByLot$Sharing", "nextRow", "()Z"⟩, 8) := ⟨⟨by decide +kernel, by decide +kernel⟩, List.mem_of_getElem? (i := 162) (by decide +kernel), List.mem_of_getElem? (i := 780) (by decide +kernel), List.mem_of_getElem? (i := 781) (by decide +kernel)⟩
def lw_privs_2 : List (MethodName × Nat) := [(⟨"ConstellationsByLot$Tape", "readLine", "(LConstellationsByLot$Sky;)V"⟩, 5), (⟨"ConstellationsByLot$Tape", "allow", "(Z)V"⟩, 5), (⟨"ConstellationsByLot$Tape", "readCloud", "(LConstellationsByLot$Sky;)V"⟩, 5), (⟨"ConstellationsByLot$Tape", "readSemicolon", "()Z"⟩, 5), (⟨"ConstellationsByLot$Sky", "lengthTo", "(II)I"⟩, 7), (⟨"ConstellationsByLot", "bestNewLine", "(LConstellationsByLot$Parish;)I"⟩, 12), (⟨"ConstellationsByLot", "spareWorth", "()I"⟩, 12), (⟨"ConstellationsByLot", "worstLine", "(LConstellationsByLot$Parish;)I"⟩, 12), (⟨"ConstellationsByLot$Sharing", "findPoints", "(LConstellationsByLot$Sky;)V"⟩, 8), (⟨"ConstellationsByLot$Sharing", "nextWanter", "(II)I"⟩, 8), (⟨"ConstellationsByLot$Sharing", "turnKeep", "(I)V"⟩, 8), (⟨"ConstellationsByLot$Sharing", "findWorths", "(LConstellationsByLot$Sky;ILConstellationsByLot$Figure;LConstellationsByLot$Parish;)V"⟩, 8), (⟨"ConstellationsByLot$Sharing", "mayKeep", "(II)Z"⟩, 8), (⟨"ConstellationsByLot$Sharing", "pointsBut", "(I)I"⟩, 8), (⟨"ConstellationsByLot$Sharing", "leastWorth", "(I)I"⟩, 8), (⟨"ConstellationsByLot$Sharing", "nextRow", "()Z"⟩, 8)]
theorem lw_r2 : ∀ q ∈ lw_privs_2, lw_okq q := List.forall_mem_cons.mpr ⟨lw_p16, List.forall_mem_cons.mpr ⟨lw_p17, List.forall_mem_cons.mpr ⟨lw_p18, List.forall_mem_cons.mpr ⟨lw_p19, List.forall_mem_cons.mpr ⟨lw_p20, List.forall_mem_cons.mpr ⟨lw_p21, List.forall_mem_cons.mpr ⟨lw_p22, List.forall_mem_cons.mpr ⟨lw_p23, List.forall_mem_cons.mpr ⟨lw_p24, List.forall_mem_cons.mpr ⟨lw_p25, List.forall_mem_cons.mpr ⟨lw_p26, List.forall_mem_cons.mpr ⟨lw_p27, List.forall_mem_cons.mpr ⟨lw_p28, List.forall_mem_cons.mpr ⟨lw_p29, List.forall_mem_cons.mpr ⟨lw_p30, List.forall_mem_cons.mpr ⟨lw_p31, fun _ h => absurd h List.not_mem_nil⟩⟩⟩⟩⟩⟩⟩⟩⟩⟩⟩⟩⟩⟩⟩⟩
theorem lw_p32 : lw_okq (⟨"ConstellationsByLot$Bonds", "find", "(LConstellationsByLot$Sky;)V"⟩, 2) := ⟨⟨by decide +kernel, by decide +kernel⟩, List.mem_of_getElem? (i := 197) (by decide +kernel), List.mem_of_getElem? (i := 797) (by decide +kernel), List.mem_of_getElem? (i := 798) (by decide +kernel)⟩
theorem lw_p33 : lw_okq (⟨"ConstellationsByLot$Bonds", "hasNoBonds", "(I)Z"⟩, 2) := ⟨⟨by decide +kernel, by decide +kernel⟩, List.mem_of_getElem? (i := 197) (by decide +kernel), List.mem_of_getElem? (i := 801) (by decide +kernel), List.mem_of_getElem? (i := 802) (by decide +kernel)⟩
theorem lw_p34 : lw_okq (⟨"ConstellationsByLot$Bonds", "around", "(I)I"⟩, 2) := ⟨⟨by decide +kernel, by decide +kernel⟩, List.mem_of_getElem? (i := 197) (by decide +kernel), List.mem_of_getElem? (i := 814) (by decide +kernel), List.mem_of_getElem? (i := 815) (by decide +kernel)⟩
theorem lw_p35 : lw_okq (⟨"ConstellationsByLot", "pickedBy", "(I)I"⟩, 12) := ⟨⟨by decide +kernel, by decide +kernel⟩, List.mem_of_getElem? (i := 20) (by decide +kernel), List.mem_of_getElem? (i := 822) (by decide +kernel), List.mem_of_getElem? (i := 823) (by decide +kernel)⟩
theorem lw_p36 : lw_okq (⟨"ConstellationsByLot", "arePairs", "(LConstellationsByLot$Shelf;I)Z"⟩, 12) := ⟨⟨by decide +kernel, by decide +kernel⟩, List.mem_of_getElem? (i := 20) (by decide +kernel), List.mem_of_getElem? (i := 839) (by decide +kernel), List.mem_of_getElem? (i := 840) (by decide +kernel)⟩
theorem lw_p37 : lw_okq (⟨"ConstellationsByLot", "takeTold", "(LConstellationsByLot$Shelf;I)I"⟩, 12) := ⟨⟨by decide +kernel, by decide +kernel⟩, List.mem_of_getElem? (i := 20) (by decide +kernel), List.mem_of_getElem? (i := 843) (by decide +kernel), List.mem_of_getElem? (i := 844) (by decide +kernel)⟩
theorem lw_p38 : lw_okq (⟨"ConstellationsByLot", "isTold", "(II)Z"⟩, 12) := ⟨⟨by decide +kernel, by decide +kernel⟩, List.mem_of_getElem? (i := 20) (by decide +kernel), List.mem_of_getElem? (i := 847) (by decide +kernel), List.mem_of_getElem? (i := 848) (by decide +kernel)⟩
theorem lw_p39 : lw_okq (⟨"ConstellationsByLot", "nearestToTold", "(I)I"⟩, 12) := ⟨⟨by decide +kernel, by decide +kernel⟩, List.mem_of_getElem? (i := 20) (by decide +kernel), List.mem_of_getElem? (i := 851) (by decide +kernel), List.mem_of_getElem? (i := 852) (by decide +kernel)⟩
theorem lw_p40 : lw_okq (⟨"ConstellationsByLot", "differenceFromTold", "(LConstellationsByLot$Parish;I)I"⟩, 12) := ⟨⟨by decide +kernel, by decide +kernel⟩, List.mem_of_getElem? (i := 20) (by decide +kernel), List.mem_of_getElem? (i := 855) (by decide +kernel), List.mem_of_getElem? (i := 856) (by decide +kernel)⟩
theorem lw_p41 : lw_okq (⟨"ConstellationsByLot$Sky", "lot", "(I)I"⟩, 7) := ⟨⟨by decide +kernel, by decide +kernel⟩, List.mem_of_getElem? (i := 28) (by decide +kernel), List.mem_of_getElem? (i := 878) (by decide +kernel), List.mem_of_getElem? (i := 879) (by decide +kernel)⟩
theorem lw_p42 : lw_okq (⟨"ConstellationsByLot", "allWorth", "()I"⟩, 12) := ⟨⟨by decide +kernel, by decide +kernel⟩, List.mem_of_getElem? (i := 20) (by decide +kernel), List.mem_of_getElem? (i := 917) (by decide +kernel), List.mem_of_getElem? (i := 918) (by decide +kernel)⟩
theorem lw_p43 : lw_okq (⟨"ConstellationsByLot", "shelvesInUse", "()I"⟩, 12) := ⟨⟨by decide +kernel, by decide +kernel⟩, List.mem_of_getElem? (i := 20) (by decide +kernel), List.mem_of_getElem? (i := 921) (by decide +kernel), List.mem_of_getElem? (i := 922) (by decide +kernel)⟩
theorem lw_p44 : lw_okq (⟨"ConstellationsByLotModel", "refuse", "(I)I"⟩, 24) := ⟨⟨by decide +kernel, by decide +kernel⟩, List.mem_of_getElem? (i := 925) (by decide +kernel), List.mem_of_getElem? (i := 1018) (by decide +kernel), List.mem_of_getElem? (i := 1019) (by decide +kernel)⟩
theorem lw_p45 : lw_okq (⟨"ConstellationsByLotModel", "addPoint", "(II)I"⟩, 24) := ⟨⟨by decide +kernel, by decide +kernel⟩, List.mem_of_getElem? (i := 925) (by decide +kernel), List.mem_of_getElem? (i := 1022) (by decide +kernel), List.mem_of_getElem? (i := 1023) (by decide +kernel)⟩
theorem lw_p46 : lw_okq (⟨"ConstellationsByLotModel", "addParish", "(II)I"⟩, 24) := ⟨⟨by decide +kernel, by decide +kernel⟩, List.mem_of_getElem? (i := 925) (by decide +kernel), List.mem_of_getElem? (i := 1031) (by decide +kernel), List.mem_of_getElem? (i := 1032) (by decide +kernel)⟩
theorem lw_p47 : lw_okq (⟨"ConstellationsByLotModel", "isParish", "(I)Z"⟩, 24) := ⟨⟨by decide +kernel, by decide +kernel⟩, List.mem_of_getElem? (i := 925) (by decide +kernel), List.mem_of_getElem? (i := 1039) (by decide +kernel), List.mem_of_getElem? (i := 1040) (by decide +kernel)⟩
def lw_privs_3 : List (MethodName × Nat) := [(⟨"ConstellationsByLot$Bonds", "find", "(LConstellationsByLot$Sky;)V"⟩, 2), (⟨"ConstellationsByLot$Bonds", "hasNoBonds", "(I)Z"⟩, 2), (⟨"ConstellationsByLot$Bonds", "around", "(I)I"⟩, 2), (⟨"ConstellationsByLot", "pickedBy", "(I)I"⟩, 12), (⟨"ConstellationsByLot", "arePairs", "(LConstellationsByLot$Shelf;I)Z"⟩, 12), (⟨"ConstellationsByLot", "takeTold", "(LConstellationsByLot$Shelf;I)I"⟩, 12), (⟨"ConstellationsByLot", "isTold", "(II)Z"⟩, 12), (⟨"ConstellationsByLot", "nearestToTold", "(I)I"⟩, 12), (⟨"ConstellationsByLot", "differenceFromTold", "(LConstellationsByLot$Parish;I)I"⟩, 12), (⟨"ConstellationsByLot$Sky", "lot", "(I)I"⟩, 7), (⟨"ConstellationsByLot", "allWorth", "()I"⟩, 12), (⟨"ConstellationsByLot", "shelvesInUse", "()I"⟩, 12), (⟨"ConstellationsByLotModel", "refuse", "(I)I"⟩, 24), (⟨"ConstellationsByLotModel", "addPoint", "(II)I"⟩, 24), (⟨"ConstellationsByLotModel", "addParish", "(II)I"⟩, 24), (⟨"ConstellationsByLotModel", "isParish", "(I)Z"⟩, 24)]
theorem lw_r3 : ∀ q ∈ lw_privs_3, lw_okq q := List.forall_mem_cons.mpr ⟨lw_p32, List.forall_mem_cons.mpr ⟨lw_p33, List.forall_mem_cons.mpr ⟨lw_p34, List.forall_mem_cons.mpr ⟨lw_p35, List.forall_mem_cons.mpr ⟨lw_p36, List.forall_mem_cons.mpr ⟨lw_p37, List.forall_mem_cons.mpr ⟨lw_p38, List.forall_mem_cons.mpr ⟨lw_p39, List.forall_mem_cons.mpr ⟨lw_p40, List.forall_mem_cons.mpr ⟨lw_p41, List.forall_mem_cons.mpr ⟨lw_p42, List.forall_mem_cons.mpr ⟨lw_p43, List.forall_mem_cons.mpr ⟨lw_p44, List.forall_mem_cons.mpr ⟨lw_p45, List.forall_mem_cons.mpr ⟨lw_p46, List.forall_mem_cons.mpr ⟨lw_p47, fun _ h => absurd h List.not_mem_nil⟩⟩⟩⟩⟩⟩⟩⟩⟩⟩⟩⟩⟩⟩⟩⟩
theorem lw_p48 : lw_okq (⟨"ConstellationsByLotModel", "isPoint", "(J)Z"⟩, 24) := ⟨⟨by decide +kernel, by decide +kernel⟩, List.mem_of_getElem? (i := 925) (by decide +kernel), List.mem_of_getElem? (i := 1043) (by decide +kernel), List.mem_of_getElem? (i := 1044) (by decide +kernel)⟩
theorem lw_p49 : lw_okq (⟨"ConstellationsByLotModel", "isWanted", "(II)Z"⟩, 24) := ⟨⟨by decide +kernel, by decide +kernel⟩, List.mem_of_getElem? (i := 925) (by decide +kernel), List.mem_of_getElem? (i := 1047) (by decide +kernel), List.mem_of_getElem? (i := 1048) (by decide +kernel)⟩
theorem lw_p50 : lw_okq (⟨"ConstellationsByLotModel", "wanted", "(I)I"⟩, 24) := ⟨⟨by decide +kernel, by decide +kernel⟩, List.mem_of_getElem? (i := 925) (by decide +kernel), List.mem_of_getElem? (i := 1051) (by decide +kernel), List.mem_of_getElem? (i := 1052) (by decide +kernel)⟩
theorem lw_p51 : lw_okq (⟨"ConstellationsByLotModel", "eraseIn", "(II)I"⟩, 24) := ⟨⟨by decide +kernel, by decide +kernel⟩, List.mem_of_getElem? (i := 925) (by decide +kernel), List.mem_of_getElem? (i := 1055) (by decide +kernel), List.mem_of_getElem? (i := 1056) (by decide +kernel)⟩
theorem lw_p52 : lw_okq (⟨"ConstellationsByLotModel", "lines", "(I)I"⟩, 24) := ⟨⟨by decide +kernel, by decide +kernel⟩, List.mem_of_getElem? (i := 925) (by decide +kernel), List.mem_of_getElem? (i := 1059) (by decide +kernel), List.mem_of_getElem? (i := 1060) (by decide +kernel)⟩
theorem lw_p53 : lw_okq (⟨"ConstellationsByLotModel", "end", "(III)I"⟩, 24) := ⟨⟨by decide +kernel, by decide +kernel⟩, List.mem_of_getElem? (i := 925) (by decide +kernel), List.mem_of_getElem? (i := 1063) (by decide +kernel), List.mem_of_getElem? (i := 1064) (by decide +kernel)⟩
theorem lw_p54 : lw_okq (⟨"ConstellationsByLotModel", "erase", "(II)I"⟩, 24) := ⟨⟨by decide +kernel, by decide +kernel⟩, List.mem_of_getElem? (i := 925) (by decide +kernel), List.mem_of_getElem? (i := 1067) (by decide +kernel), List.mem_of_getElem? (i := 1068) (by decide +kernel)⟩
theorem lw_p55 : lw_okq (⟨"ConstellationsByLotModel", "isPair", "(III)Z"⟩, 24) := ⟨⟨by decide +kernel, by decide +kernel⟩, List.mem_of_getElem? (i := 925) (by decide +kernel), List.mem_of_getElem? (i := 1075) (by decide +kernel), List.mem_of_getElem? (i := 1076) (by decide +kernel)⟩
theorem lw_p56 : lw_okq (⟨"ConstellationsByLotModel", "drawn", "(III)I"⟩, 24) := ⟨⟨by decide +kernel, by decide +kernel⟩, List.mem_of_getElem? (i := 925) (by decide +kernel), List.mem_of_getElem? (i := 1079) (by decide +kernel), List.mem_of_getElem? (i := 1080) (by decide +kernel)⟩
theorem lw_p57 : lw_okq (⟨"ConstellationsByLotModel", "draw", "(III)I"⟩, 24) := ⟨⟨by decide +kernel, by decide +kernel⟩, List.mem_of_getElem? (i := 925) (by decide +kernel), List.mem_of_getElem? (i := 1083) (by decide +kernel), List.mem_of_getElem? (i := 1084) (by decide +kernel)⟩
theorem lw_p58 : lw_okq (⟨"ConstellationsByLotModel", "isStatement", "()Z"⟩, 24) := ⟨⟨by decide +kernel, by decide +kernel⟩, List.mem_of_getElem? (i := 925) (by decide +kernel), List.mem_of_getElem? (i := 1112) (by decide +kernel), List.mem_of_getElem? (i := 1113) (by decide +kernel)⟩
theorem lw_p59 : lw_okq (⟨"ConstellationsByLotModel", "next", "()V"⟩, 24) := ⟨⟨by decide +kernel, by decide +kernel⟩, List.mem_of_getElem? (i := 925) (by decide +kernel), List.mem_of_getElem? (i := 1116) (by decide +kernel), List.mem_of_getElem? (i := 1117) (by decide +kernel)⟩
theorem lw_p60 : lw_okq (⟨"ConstellationsByLotModel", "sortAt", "(I)I"⟩, 24) := ⟨⟨by decide +kernel, by decide +kernel⟩, List.mem_of_getElem? (i := 925) (by decide +kernel), List.mem_of_getElem? (i := 1120) (by decide +kernel), List.mem_of_getElem? (i := 1121) (by decide +kernel)⟩
theorem lw_p61 : lw_okq (⟨"ConstellationsByLotModel", "word", "()I"⟩, 24) := ⟨⟨by decide +kernel, by decide +kernel⟩, List.mem_of_getElem? (i := 925) (by decide +kernel), List.mem_of_getElem? (i := 1128) (by decide +kernel), List.mem_of_getElem? (i := 1129) (by decide +kernel)⟩
theorem lw_p62 : lw_okq (⟨"ConstellationsByLotModel", "isLine", "()Z"⟩, 24) := ⟨⟨by decide +kernel, by decide +kernel⟩, List.mem_of_getElem? (i := 925) (by decide +kernel), List.mem_of_getElem? (i := 1132) (by decide +kernel), List.mem_of_getElem? (i := 1133) (by decide +kernel)⟩
theorem lw_p63 : lw_okq (⟨"ConstellationsByLotModel", "number", "(II)I"⟩, 24) := ⟨⟨by decide +kernel, by decide +kernel⟩, List.mem_of_getElem? (i := 925) (by decide +kernel), List.mem_of_getElem? (i := 1136) (by decide +kernel), List.mem_of_getElem? (i := 1137) (by decide +kernel)⟩
def lw_privs_4 : List (MethodName × Nat) := [(⟨"ConstellationsByLotModel", "isPoint", "(J)Z"⟩, 24), (⟨"ConstellationsByLotModel", "isWanted", "(II)Z"⟩, 24), (⟨"ConstellationsByLotModel", "wanted", "(I)I"⟩, 24), (⟨"ConstellationsByLotModel", "eraseIn", "(II)I"⟩, 24), (⟨"ConstellationsByLotModel", "lines", "(I)I"⟩, 24), (⟨"ConstellationsByLotModel", "end", "(III)I"⟩, 24), (⟨"ConstellationsByLotModel", "erase", "(II)I"⟩, 24), (⟨"ConstellationsByLotModel", "isPair", "(III)Z"⟩, 24), (⟨"ConstellationsByLotModel", "drawn", "(III)I"⟩, 24), (⟨"ConstellationsByLotModel", "draw", "(III)I"⟩, 24), (⟨"ConstellationsByLotModel", "isStatement", "()Z"⟩, 24), (⟨"ConstellationsByLotModel", "next", "()V"⟩, 24), (⟨"ConstellationsByLotModel", "sortAt", "(I)I"⟩, 24), (⟨"ConstellationsByLotModel", "word", "()I"⟩, 24), (⟨"ConstellationsByLotModel", "isLine", "()Z"⟩, 24), (⟨"ConstellationsByLotModel", "number", "(II)I"⟩, 24)]
theorem lw_r4 : ∀ q ∈ lw_privs_4, lw_okq q := List.forall_mem_cons.mpr ⟨lw_p48, List.forall_mem_cons.mpr ⟨lw_p49, List.forall_mem_cons.mpr ⟨lw_p50, List.forall_mem_cons.mpr ⟨lw_p51, List.forall_mem_cons.mpr ⟨lw_p52, List.forall_mem_cons.mpr ⟨lw_p53, List.forall_mem_cons.mpr ⟨lw_p54, List.forall_mem_cons.mpr ⟨lw_p55, List.forall_mem_cons.mpr ⟨lw_p56, List.forall_mem_cons.mpr ⟨lw_p57, List.forall_mem_cons.mpr ⟨lw_p58, List.forall_mem_cons.mpr ⟨lw_p59, List.forall_mem_cons.mpr ⟨lw_p60, List.forall_mem_cons.mpr ⟨lw_p61, List.forall_mem_cons.mpr ⟨lw_p62, List.forall_mem_cons.mpr ⟨lw_p63, fun _ h => absurd h List.not_mem_nil⟩⟩⟩⟩⟩⟩⟩⟩⟩⟩⟩⟩⟩⟩⟩⟩
theorem lw_p64 : lw_okq (⟨"ConstellationsByLotModel", "meet", "(I)I"⟩, 24) := ⟨⟨by decide +kernel, by decide +kernel⟩, List.mem_of_getElem? (i := 925) (by decide +kernel), List.mem_of_getElem? (i := 1145) (by decide +kernel), List.mem_of_getElem? (i := 1146) (by decide +kernel)⟩
theorem lw_p65 : lw_okq (⟨"ConstellationsByLotModel", "used", "(I)I"⟩, 24) := ⟨⟨by decide +kernel, by decide +kernel⟩, List.mem_of_getElem? (i := 925) (by decide +kernel), List.mem_of_getElem? (i := 1154) (by decide +kernel), List.mem_of_getElem? (i := 1155) (by decide +kernel)⟩
theorem lw_p66 : lw_okq (⟨"ConstellationsByLotModel", "light", "(I)I"⟩, 24) := ⟨⟨by decide +kernel, by decide +kernel⟩, List.mem_of_getElem? (i := 925) (by decide +kernel), List.mem_of_getElem? (i := 1158) (by decide +kernel), List.mem_of_getElem? (i := 1159) (by decide +kernel)⟩
theorem lw_p67 : lw_okq (⟨"ConstellationsByLotModel", "bright", "(I)I"⟩, 24) := ⟨⟨by decide +kernel, by decide +kernel⟩, List.mem_of_getElem? (i := 925) (by decide +kernel), List.mem_of_getElem? (i := 1162) (by decide +kernel), List.mem_of_getElem? (i := 1163) (by decide +kernel)⟩
theorem lw_p68 : lw_okq (⟨"ConstellationsByLotModel", "pieces", "(IZ)I"⟩, 24) := ⟨⟨by decide +kernel, by decide +kernel⟩, List.mem_of_getElem? (i := 925) (by decide +kernel), List.mem_of_getElem? (i := 1166) (by decide +kernel), List.mem_of_getElem? (i := 1167) (by decide +kernel)⟩
theorem lw_p69 : lw_okq (⟨"ConstellationsByLotModel", "piece", "(II)I"⟩, 24) := ⟨⟨by decide +kernel, by decide +kernel⟩, List.mem_of_getElem? (i := 925) (by decide +kernel), List.mem_of_getElem? (i := 1170) (by decide +kernel), List.mem_of_getElem? (i := 1171) (by decide +kernel)⟩
theorem lw_p70 : lw_okq (⟨"ConstellationsByLotModel", "odd", "(I)I"⟩, 24) := ⟨⟨by decide +kernel, by decide +kernel⟩, List.mem_of_getElem? (i := 925) (by decide +kernel), List.mem_of_getElem? (i := 1174) (by decide +kernel), List.mem_of_getElem? (i := 1175) (by decide +kernel)⟩
theorem lw_p71 : lw_okq (⟨"ConstellationsByLotModel", "isClosed", "(I)Z"⟩, 24) := ⟨⟨by decide +kernel, by decide +kernel⟩, List.mem_of_getElem? (i := 925) (by decide +kernel), List.mem_of_getElem? (i := 1182) (by decide +kernel), List.mem_of_getElem? (i := 1183) (by decide +kernel)⟩
theorem lw_p72 : lw_okq (⟨"ConstellationsByLotModel", "worth", "(I)I"⟩, 24) := ⟨⟨by decide +kernel, by decide +kernel⟩, List.mem_of_getElem? (i := 925) (by decide +kernel), List.mem_of_getElem? (i := 1186) (by decide +kernel), List.mem_of_getElem? (i := 1187) (by decide +kernel)⟩
theorem lw_p73 : lw_okq (⟨"ConstellationsByLotModel", "kind", "(I)I"⟩, 24) := ⟨⟨by decide +kernel, by decide +kernel⟩, List.mem_of_getElem? (i := 925) (by decide +kernel), List.mem_of_getElem? (i := 1190) (by decide +kernel), List.mem_of_getElem? (i := 1191) (by decide +kernel)⟩
theorem lw_p74 : lw_okq (⟨"ConstellationsByLotModel", "longest", "(I)I"⟩, 24) := ⟨⟨by decide +kernel, by decide +kernel⟩, List.mem_of_getElem? (i := 925) (by decide +kernel), List.mem_of_getElem? (i := 1194) (by decide +kernel), List.mem_of_getElem? (i := 1195) (by decide +kernel)⟩
theorem lw_p75 : lw_okq (⟨"ConstellationsByLotModel", "lengthOf", "(II)I"⟩, 24) := ⟨⟨by decide +kernel, by decide +kernel⟩, List.mem_of_getElem? (i := 925) (by decide +kernel), List.mem_of_getElem? (i := 1198) (by decide +kernel), List.mem_of_getElem? (i := 1199) (by decide +kernel)⟩
theorem lw_p76 : lw_okq (⟨"ConstellationsByLotModel", "length", "(II)I"⟩, 24) := ⟨⟨by decide +kernel, by decide +kernel⟩, List.mem_of_getElem? (i := 925) (by decide +kernel), List.mem_of_getElem? (i := 1202) (by decide +kernel), List.mem_of_getElem? (i := 1203) (by decide +kernel)⟩
theorem lw_p77 : lw_okq (⟨"ConstellationsByLotModel", "cell", "(I)I"⟩, 24) := ⟨⟨by decide +kernel, by decide +kernel⟩, List.mem_of_getElem? (i := 925) (by decide +kernel), List.mem_of_getElem? (i := 1206) (by decide +kernel), List.mem_of_getElem? (i := 1207) (by decide +kernel)⟩
theorem lw_p78 : lw_okq (⟨"ConstellationsByLotModel", "lengths", "(I)I"⟩, 24) := ⟨⟨by decide +kernel, by decide +kernel⟩, List.mem_of_getElem? (i := 925) (by decide +kernel), List.mem_of_getElem? (i := 1211) (by decide +kernel), List.mem_of_getElem? (i := 1212) (by decide +kernel)⟩
theorem lw_p79 : lw_okq (⟨"ConstellationsByLotModel", "a", "(I)I"⟩, 24) := ⟨⟨by decide +kernel, by decide +kernel⟩, List.mem_of_getElem? (i := 925) (by decide +kernel), List.mem_of_getElem? (i := 1215) (by decide +kernel), List.mem_of_getElem? (i := 1216) (by decide +kernel)⟩
def lw_privs_5 : List (MethodName × Nat) := [(⟨"ConstellationsByLotModel", "meet", "(I)I"⟩, 24), (⟨"ConstellationsByLotModel", "used", "(I)I"⟩, 24), (⟨"ConstellationsByLotModel", "light", "(I)I"⟩, 24), (⟨"ConstellationsByLotModel", "bright", "(I)I"⟩, 24), (⟨"ConstellationsByLotModel", "pieces", "(IZ)I"⟩, 24), (⟨"ConstellationsByLotModel", "piece", "(II)I"⟩, 24), (⟨"ConstellationsByLotModel", "odd", "(I)I"⟩, 24), (⟨"ConstellationsByLotModel", "isClosed", "(I)Z"⟩, 24), (⟨"ConstellationsByLotModel", "worth", "(I)I"⟩, 24), (⟨"ConstellationsByLotModel", "kind", "(I)I"⟩, 24), (⟨"ConstellationsByLotModel", "longest", "(I)I"⟩, 24), (⟨"ConstellationsByLotModel", "lengthOf", "(II)I"⟩, 24), (⟨"ConstellationsByLotModel", "length", "(II)I"⟩, 24), (⟨"ConstellationsByLotModel", "cell", "(I)I"⟩, 24), (⟨"ConstellationsByLotModel", "lengths", "(I)I"⟩, 24), (⟨"ConstellationsByLotModel", "a", "(I)I"⟩, 24)]
theorem lw_r5 : ∀ q ∈ lw_privs_5, lw_okq q := List.forall_mem_cons.mpr ⟨lw_p64, List.forall_mem_cons.mpr ⟨lw_p65, List.forall_mem_cons.mpr ⟨lw_p66, List.forall_mem_cons.mpr ⟨lw_p67, List.forall_mem_cons.mpr ⟨lw_p68, List.forall_mem_cons.mpr ⟨lw_p69, List.forall_mem_cons.mpr ⟨lw_p70, List.forall_mem_cons.mpr ⟨lw_p71, List.forall_mem_cons.mpr ⟨lw_p72, List.forall_mem_cons.mpr ⟨lw_p73, List.forall_mem_cons.mpr ⟨lw_p74, List.forall_mem_cons.mpr ⟨lw_p75, List.forall_mem_cons.mpr ⟨lw_p76, List.forall_mem_cons.mpr ⟨lw_p77, List.forall_mem_cons.mpr ⟨lw_p78, List.forall_mem_cons.mpr ⟨lw_p79, fun _ h => absurd h List.not_mem_nil⟩⟩⟩⟩⟩⟩⟩⟩⟩⟩⟩⟩⟩⟩⟩⟩
theorem lw_p80 : lw_okq (⟨"ConstellationsByLotModel", "wish", "(I)I"⟩, 24) := ⟨⟨by decide +kernel, by decide +kernel⟩, List.mem_of_getElem? (i := 925) (by decide +kernel), List.mem_of_getElem? (i := 1219) (by decide +kernel), List.mem_of_getElem? (i := 1220) (by decide +kernel)⟩
theorem lw_p81 : lw_okq (⟨"ConstellationsByLotModel", "isAmong", "(IIII)Z"⟩, 24) := ⟨⟨by decide +kernel, by decide +kernel⟩, List.mem_of_getElem? (i := 925) (by decide +kernel), List.mem_of_getElem? (i := 1235) (by decide +kernel), List.mem_of_getElem? (i := 1236) (by decide +kernel)⟩
theorem lw_p82 : lw_okq (⟨"ConstellationsByLotModel", "isShifted", "(IIII)Z"⟩, 24) := ⟨⟨by decide +kernel, by decide +kernel⟩, List.mem_of_getElem? (i := 925) (by decide +kernel), List.mem_of_getElem? (i := 1239) (by decide +kernel), List.mem_of_getElem? (i := 1240) (by decide +kernel)⟩
theorem lw_p83 : lw_okq (⟨"ConstellationsByLotModel", "joined", "(I)I"⟩, 24) := ⟨⟨by decide +kernel, by decide +kernel⟩, List.mem_of_getElem? (i := 925) (by decide +kernel), List.mem_of_getElem? (i := 1248) (by decide +kernel), List.mem_of_getElem? (i := 1249) (by decide +kernel)⟩
theorem lw_p84 : lw_okq (⟨"ConstellationsByLotModel", "newLine", "(I)I"⟩, 24) := ⟨⟨by decide +kernel, by decide +kernel⟩, List.mem_of_getElem? (i := 925) (by decide +kernel), List.mem_of_getElem? (i := 1252) (by decide +kernel), List.mem_of_getElem? (i := 1253) (by decide +kernel)⟩
theorem lw_p85 : lw_okq (⟨"ConstellationsByLotModel", "worst", "(I)I"⟩, 24) := ⟨⟨by decide +kernel, by decide +kernel⟩, List.mem_of_getElem? (i := 925) (by decide +kernel), List.mem_of_getElem? (i := 1256) (by decide +kernel), List.mem_of_getElem? (i := 1257) (by decide +kernel)⟩
theorem lw_p86 : lw_okq (⟨"ConstellationsByLotModel", "makeShare", "()V"⟩, 24) := ⟨⟨by decide +kernel, by decide +kernel⟩, List.mem_of_getElem? (i := 925) (by decide +kernel), List.mem_of_getElem? (i := 1264) (by decide +kernel), List.mem_of_getElem? (i := 1265) (by decide +kernel)⟩
theorem lw_p87 : lw_okq (⟨"ConstellationsByLotModel", "give", "(I)V"⟩, 24) := ⟨⟨by decide +kernel, by decide +kernel⟩, List.mem_of_getElem? (i := 925) (by decide +kernel), List.mem_of_getElem? (i := 1268) (by decide +kernel), List.mem_of_getElem? (i := 1269) (by decide +kernel)⟩
theorem lw_p88 : lw_okq (⟨"ConstellationsByLotModel", "giveTo", "(II)I"⟩, 24) := ⟨⟨by decide +kernel, by decide +kernel⟩, List.mem_of_getElem? (i := 925) (by decide +kernel), List.mem_of_getElem? (i := 1274) (by decide +kernel), List.mem_of_getElem? (i := 1275) (by decide +kernel)⟩
theorem lw_p89 : lw_okq (⟨"ConstellationsByLotModel", "canColour", "(II)Z"⟩, 24) := ⟨⟨by decide +kernel, by decide +kernel⟩, List.mem_of_getElem? (i := 925) (by decide +kernel), List.mem_of_getElem? (i := 1287) (by decide +kernel), List.mem_of_getElem? (i := 1288) (by decide +kernel)⟩
theorem lw_p90 : lw_okq (⟨"ConstellationsByLotModel", "isBeside", "(II)Z"⟩, 24) := ⟨⟨by decide +kernel, by decide +kernel⟩, List.mem_of_getElem? (i := 925) (by decide +kernel), List.mem_of_getElem? (i := 1291) (by decide +kernel), List.mem_of_getElem? (i := 1292) (by decide +kernel)⟩
theorem lw_p91 : lw_okq (⟨"ConstellationsByLotModel", "picked", "(I)I"⟩, 24) := ⟨⟨by decide +kernel, by decide +kernel⟩, List.mem_of_getElem? (i := 925) (by decide +kernel), List.mem_of_getElem? (i := 1303) (by decide +kernel), List.mem_of_getElem? (i := 1304) (by decide +kernel)⟩
theorem lw_p92 : lw_okq (⟨"ConstellationsByLotModel", "byLaw", "(II)I"⟩, 24) := ⟨⟨by decide +kernel, by decide +kernel⟩, List.mem_of_getElem? (i := 925) (by decide +kernel), List.mem_of_getElem? (i := 1307) (by decide +kernel), List.mem_of_getElem? (i := 1308) (by decide +kernel)⟩
theorem lw_p93 : lw_okq (⟨"ConstellationsByLotModel", "rowIn", "(I)I"⟩, 24) := ⟨⟨by decide +kernel, by decide +kernel⟩, List.mem_of_getElem? (i := 925) (by decide +kernel), List.mem_of_getElem? (i := 1329) (by decide +kernel), List.mem_of_getElem? (i := 1330) (by decide +kernel)⟩
theorem lw_p94 : lw_okq (⟨"ConstellationsByLotModel", "unlike", "(I)I"⟩, 24) := ⟨⟨by decide +kernel, by decide +kernel⟩, List.mem_of_getElem? (i := 925) (by decide +kernel), List.mem_of_getElem? (i := 1364) (by decide +kernel), List.mem_of_getElem? (i := 1365) (by decide +kernel)⟩
theorem lw_p95 : lw_okq (⟨"ConstellationsByLotModel", "night", "(I)V"⟩, 24) := ⟨⟨by decide +kernel, by decide +kernel⟩, List.mem_of_getElem? (i := 925) (by decide +kernel), List.mem_of_getElem? (i := 1377) (by decide +kernel), List.mem_of_getElem? (i := 1378) (by decide +kernel)⟩
def lw_privs_6 : List (MethodName × Nat) := [(⟨"ConstellationsByLotModel", "wish", "(I)I"⟩, 24), (⟨"ConstellationsByLotModel", "isAmong", "(IIII)Z"⟩, 24), (⟨"ConstellationsByLotModel", "isShifted", "(IIII)Z"⟩, 24), (⟨"ConstellationsByLotModel", "joined", "(I)I"⟩, 24), (⟨"ConstellationsByLotModel", "newLine", "(I)I"⟩, 24), (⟨"ConstellationsByLotModel", "worst", "(I)I"⟩, 24), (⟨"ConstellationsByLotModel", "makeShare", "()V"⟩, 24), (⟨"ConstellationsByLotModel", "give", "(I)V"⟩, 24), (⟨"ConstellationsByLotModel", "giveTo", "(II)I"⟩, 24), (⟨"ConstellationsByLotModel", "canColour", "(II)Z"⟩, 24), (⟨"ConstellationsByLotModel", "isBeside", "(II)Z"⟩, 24), (⟨"ConstellationsByLotModel", "picked", "(I)I"⟩, 24), (⟨"ConstellationsByLotModel", "byLaw", "(II)I"⟩, 24), (⟨"ConstellationsByLotModel", "rowIn", "(I)I"⟩, 24), (⟨"ConstellationsByLotModel", "unlike", "(I)I"⟩, 24), (⟨"ConstellationsByLotModel", "night", "(I)V"⟩, 24)]
theorem lw_r6 : ∀ q ∈ lw_privs_6, lw_okq q := List.forall_mem_cons.mpr ⟨lw_p80, List.forall_mem_cons.mpr ⟨lw_p81, List.forall_mem_cons.mpr ⟨lw_p82, List.forall_mem_cons.mpr ⟨lw_p83, List.forall_mem_cons.mpr ⟨lw_p84, List.forall_mem_cons.mpr ⟨lw_p85, List.forall_mem_cons.mpr ⟨lw_p86, List.forall_mem_cons.mpr ⟨lw_p87, List.forall_mem_cons.mpr ⟨lw_p88, List.forall_mem_cons.mpr ⟨lw_p89, List.forall_mem_cons.mpr ⟨lw_p90, List.forall_mem_cons.mpr ⟨lw_p91, List.forall_mem_cons.mpr ⟨lw_p92, List.forall_mem_cons.mpr ⟨lw_p93, List.forall_mem_cons.mpr ⟨lw_p94, List.forall_mem_cons.mpr ⟨lw_p95, fun _ h => absurd h List.not_mem_nil⟩⟩⟩⟩⟩⟩⟩⟩⟩⟩⟩⟩⟩⟩⟩⟩
theorem lw_p96 : lw_okq (⟨"ConstellationsByLotModel", "drawBelow", "(I)I"⟩, 24) := ⟨⟨by decide +kernel, by decide +kernel⟩, List.mem_of_getElem? (i := 925) (by decide +kernel), List.mem_of_getElem? (i := 1381) (by decide +kernel), List.mem_of_getElem? (i := 1382) (by decide +kernel)⟩
theorem lw_p97 : lw_okq (⟨"ConstellationsByLotModel", "allLines", "()I"⟩, 24) := ⟨⟨by decide +kernel, by decide +kernel⟩, List.mem_of_getElem? (i := 925) (by decide +kernel), List.mem_of_getElem? (i := 1389) (by decide +kernel), List.mem_of_getElem? (i := 1390) (by decide +kernel)⟩
theorem lw_p98 : lw_okq (⟨"ConstellationsByLotModel", "manyShared", "()I"⟩, 24) := ⟨⟨by decide +kernel, by decide +kernel⟩, List.mem_of_getElem? (i := 925) (by decide +kernel), List.mem_of_getElem? (i := 1410) (by decide +kernel), List.mem_of_getElem? (i := 1411) (by decide +kernel)⟩
def lw_privs_7 : List (MethodName × Nat) := [(⟨"ConstellationsByLotModel", "drawBelow", "(I)I"⟩, 24), (⟨"ConstellationsByLotModel", "allLines", "()I"⟩, 24), (⟨"ConstellationsByLotModel", "manyShared", "()I"⟩, 24)]
theorem lw_r7 : ∀ q ∈ lw_privs_7, lw_okq q := List.forall_mem_cons.mpr ⟨lw_p96, List.forall_mem_cons.mpr ⟨lw_p97, List.forall_mem_cons.mpr ⟨lw_p98, fun _ h => absurd h List.not_mem_nil⟩⟩⟩
def lw_privs : List (MethodName × Nat) := lw_privs_1 ++ (lw_privs_2 ++ (lw_privs_3 ++ (lw_privs_4 ++ (lw_privs_5 ++ (lw_privs_6 ++ (lw_privs_7))))))
def lw_tbl : List Cond := k2_sels lw_privs ++ tables_1
theorem lw_privs_ok : ∀ q ∈ lw_privs, lw_okq q := by
  show ∀ q ∈ lw_privs_1 ++ (lw_privs_2 ++ (lw_privs_3 ++ (lw_privs_4 ++ (lw_privs_5 ++ (lw_privs_6 ++ (lw_privs_7)))))), lw_okq q
  exact List.forall_mem_append.mpr ⟨lw_r1, List.forall_mem_append.mpr ⟨lw_r2, List.forall_mem_append.mpr ⟨lw_r3, List.forall_mem_append.mpr ⟨lw_r4, List.forall_mem_append.mpr ⟨lw_r5, List.forall_mem_append.mpr ⟨lw_r6, lw_r7⟩⟩⟩⟩⟩⟩
end
section
def RX0 : String := "ConstellationsByLot$Bonds"
def TX0 : u_T := fun k => match k with
  | 0 => ("ConstellationsByLot$Bonds", "near", "[I", true)
  | _ => ("ConstellationsByLot$Bonds", "fewest", "[I", true)
def tyX0 : Nat → FieldType := fun k => match k with
  | 0 => .array .int
  | _ => .array .int
abbrev wsX00 : List Cond := u_ws RX0 TX0 2
theorem nmX0 : ∀ a, a < 2 → ∀ b, b < 2 → a ≠ b → (TX0 a).2.1 ≠ (TX0 b).2.1 := by decide +kernel
theorem tyX0_ok : ∀ k, k < 2 → parseFieldDescriptor (TX0 k).2.2.1 = some (tyX0 k) := by decide +kernel
abbrev cX0_init : ByteArray := prog_2_method_1_code
def yX0_init : MethodName := ⟨RX0, "<init>", "()V"⟩
abbrev cX0_find : ByteArray := prog_2_method_2_code
def yX0_find : MethodName := ⟨RX0, "find", "(LConstellationsByLot$Sky;)V"⟩
abbrev cX0_fewestColours : ByteArray := prog_2_method_3_code
def yX0_fewestColours : MethodName := ⟨RX0, "fewestColours", "(LConstellationsByLot$Sky;)I"⟩
abbrev cX0_hasNoBonds : ByteArray := prog_2_method_4_code
def yX0_hasNoBonds : MethodName := ⟨RX0, "hasNoBonds", "(I)Z"⟩
abbrev cX0_steps : ByteArray := prog_2_method_5_code
def yX0_steps : MethodName := ⟨RX0, "steps", "(LConstellationsByLot$Sky;II)I"⟩
abbrev cX0_around : ByteArray := prog_2_method_6_code
def yX0_around : MethodName := ⟨RX0, "around", "(I)I"⟩
def RX1 : String := "ConstellationsByLot$Figure"
def TX1 : u_T := fun k => match k with
  | 0 => ("ConstellationsByLot$Figure", "ends", "[I", true)
  | 1 => ("ConstellationsByLot$Figure", "lines", "I", false)
  | 2 => ("ConstellationsByLot$Figure", "used", "I", false)
  | 3 => ("ConstellationsByLot$Figure", "odd", "I", false)
  | 4 => ("ConstellationsByLot$Figure", "light", "I", false)
  | 5 => ("ConstellationsByLot$Figure", "lengths", "I", false)
  | 6 => ("ConstellationsByLot$Figure", "longest", "I", false)
  | 7 => ("ConstellationsByLot$Figure", "pieces", "I", false)
  | _ => ("ConstellationsByLot$Figure", "strokes", "I", false)
def tyX1 : Nat → FieldType := fun k => match k with
  | 0 => .array .int
  | 1 => .int
  | 2 => .int
  | 3 => .int
  | 4 => .int
  | 5 => .int
  | 6 => .int
  | 7 => .int
  | _ => .int
abbrev wsX10 : List Cond := u_ws RX1 TX1 9
theorem nmX1 : ∀ a, a < 9 → ∀ b, b < 9 → a ≠ b → (TX1 a).2.1 ≠ (TX1 b).2.1 := by decide +kernel
theorem tyX1_ok : ∀ k, k < 9 → parseFieldDescriptor (TX1 k).2.2.1 = some (tyX1 k) := by decide +kernel
abbrev cX1_init : ByteArray := prog_3_method_1_code
def yX1_init : MethodName := ⟨RX1, "<init>", "()V"⟩
abbrev cX1_measure : ByteArray := prog_3_method_2_code
def yX1_measure : MethodName := ⟨RX1, "measure", "(LConstellationsByLot$Sky;LConstellationsByLot$Parish;)V"⟩
abbrev cX1_countPieces : ByteArray := prog_3_method_3_code
def yX1_countPieces : MethodName := ⟨RX1, "countPieces", "()V"⟩
abbrev cX1_pieceAround : ByteArray := prog_3_method_4_code
def yX1_pieceAround : MethodName := ⟨RX1, "pieceAround", "(I)I"⟩
abbrev cX1_isClosed : ByteArray := prog_3_method_5_code
def yX1_isClosed : MethodName := ⟨RX1, "isClosed", "()Z"⟩
abbrev cX1_worthTo : ByteArray := prog_3_method_6_code
def yX1_worthTo : MethodName := ⟨RX1, "worthTo", "(II)I"⟩
abbrev cX1_lessStrokes : ByteArray := prog_3_method_7_code
def yX1_lessStrokes : MethodName := ⟨RX1, "lessStrokes", "(I)I"⟩
abbrev cX1_meritBy : ByteArray := prog_3_method_8_code
def yX1_meritBy : MethodName := ⟨RX1, "meritBy", "(ILConstellationsByLot$Parish;)I"⟩
def RX2 : String := "ConstellationsByLot$Parish"
def TX2 : u_T := fun k => match k with
  | 0 => ("ConstellationsByLot$Parish", "first", "[I", true)
  | 1 => ("ConstellationsByLot$Parish", "second", "[I", true)
  | 2 => ("ConstellationsByLot$Parish", "kind", "I", false)
  | 3 => ("ConstellationsByLot$Parish", "a", "I", false)
  | 4 => ("ConstellationsByLot$Parish", "wanted", "I", false)
  | _ => ("ConstellationsByLot$Parish", "lines", "I", false)
def tyX2 : Nat → FieldType := fun k => match k with
  | 0 => .array .int
  | 1 => .array .int
  | 2 => .int
  | 3 => .int
  | 4 => .int
  | _ => .int
abbrev wsX20 : List Cond := u_ws RX2 TX2 6
theorem nmX2 : ∀ a, a < 6 → ∀ b, b < 6 → a ≠ b → (TX2 a).2.1 ≠ (TX2 b).2.1 := by decide +kernel
theorem tyX2_ok : ∀ k, k < 6 → parseFieldDescriptor (TX2 k).2.2.1 = some (tyX2 k) := by decide +kernel
abbrev cX2_init : ByteArray := prog_4_method_1_code
def yX2_init : MethodName := ⟨RX2, "<init>", "()V"⟩
abbrev cX2_begin : ByteArray := prog_4_method_2_code
def yX2_begin : MethodName := ⟨RX2, "begin", "(II)V"⟩
abbrev cX2_become : ByteArray := prog_4_method_3_code
def yX2_become : MethodName := ⟨RX2, "become", "(LConstellationsByLot$Parish;)V"⟩
abbrev cX2_wantsAll : ByteArray := prog_4_method_4_code
def yX2_wantsAll : MethodName := ⟨RX2, "wantsAll", "(I)Z"⟩
abbrev cX2_hasRoom : ByteArray := prog_4_method_5_code
def yX2_hasRoom : MethodName := ⟨RX2, "hasRoom", "()Z"⟩
abbrev cX2_ends : ByteArray := prog_4_method_6_code
def yX2_ends : MethodName := ⟨RX2, "ends", "(I)I"⟩
abbrev cX2_find : ByteArray := prog_4_method_7_code
def yX2_find : MethodName := ⟨RX2, "find", "(I)I"⟩
abbrev cX2_draw : ByteArray := prog_4_method_8_code
def yX2_draw : MethodName := ⟨RX2, "draw", "(II)V"⟩
abbrev cX2_erase : ByteArray := prog_4_method_9_code
def yX2_erase : MethodName := ⟨RX2, "erase", "(I)V"⟩
abbrev cX2_eraseAt : ByteArray := prog_4_method_10_code
def yX2_eraseAt : MethodName := ⟨RX2, "eraseAt", "(I)I"⟩
abbrev cX2_lose : ByteArray := prog_4_method_11_code
def yX2_lose : MethodName := ⟨RX2, "lose", "(I)I"⟩
def RX3 : String := "ConstellationsByLot$Sharing"
def TX3 : u_T := fun k => match k with
  | 0 => ("ConstellationsByLot$Sharing", "points", "[I", true)
  | 1 => ("ConstellationsByLot$Sharing", "given", "[I", true)
  | 2 => ("ConstellationsByLot$Sharing", "count", "I", false)
  | 3 => ("ConstellationsByLot$Sharing", "best", "I", false)
  | 4 => ("ConstellationsByLot$Sharing", "wanters", "[I", true)
  | 5 => ("ConstellationsByLot$Sharing", "owners", "[I", true)
  | 6 => ("ConstellationsByLot$Sharing", "keeps", "[I", true)
  | _ => ("ConstellationsByLot$Sharing", "worths", "[I", true)
def tyX3 : Nat → FieldType := fun k => match k with
  | 0 => .array .int
  | 1 => .array .int
  | 2 => .int
  | 3 => .int
  | 4 => .array .int
  | 5 => .array .int
  | 6 => .array .int
  | _ => .array .int
abbrev wsX30 : List Cond := u_ws RX3 TX3 8
theorem nmX3 : ∀ a, a < 8 → ∀ b, b < 8 → a ≠ b → (TX3 a).2.1 ≠ (TX3 b).2.1 := by decide +kernel
theorem tyX3_ok : ∀ k, k < 8 → parseFieldDescriptor (TX3 k).2.2.1 = some (tyX3 k) := by decide +kernel
abbrev cX3_init : ByteArray := prog_5_method_1_code
def yX3_init : MethodName := ⟨RX3, "<init>", "()V"⟩
abbrev cX3_work : ByteArray := prog_5_method_2_code
def yX3_work : MethodName := ⟨RX3, "work", "(LConstellationsByLot$Sky;LConstellationsByLot$Figure;LConstellationsByLot$Parish;)V"⟩
abbrev cX3_findPoints : ByteArray := prog_5_method_3_code
def yX3_findPoints : MethodName := ⟨RX3, "findPoints", "(LConstellationsByLot$Sky;)V"⟩
abbrev cX3_findWorths : ByteArray := prog_5_method_4_code
def yX3_findWorths : MethodName := ⟨RX3, "findWorths", "(LConstellationsByLot$Sky;ILConstellationsByLot$Figure;LConstellationsByLot$Parish;)V"⟩
abbrev cX3_mayKeep : ByteArray := prog_5_method_5_code
def yX3_mayKeep : MethodName := ⟨RX3, "mayKeep", "(II)Z"⟩
abbrev cX3_pointsBut : ByteArray := prog_5_method_6_code
def yX3_pointsBut : MethodName := ⟨RX3, "pointsBut", "(I)I"⟩
abbrev cX3_leastWorth : ByteArray := prog_5_method_7_code
def yX3_leastWorth : MethodName := ⟨RX3, "leastWorth", "(I)I"⟩
abbrev cX3_nextRow : ByteArray := prog_5_method_8_code
def yX3_nextRow : MethodName := ⟨RX3, "nextRow", "()Z"⟩
abbrev cX3_turnKeep : ByteArray := prog_5_method_9_code
def yX3_turnKeep : MethodName := ⟨RX3, "turnKeep", "(I)V"⟩
abbrev cX3_nextWanter : ByteArray := prog_5_method_10_code
def yX3_nextWanter : MethodName := ⟨RX3, "nextWanter", "(II)I"⟩
def RX4 : String := "ConstellationsByLot$Shelf"
def TX4 : u_T := fun k => match k with
  | 0 => ("ConstellationsByLot$Shelf", "elements", "[J", true)
  | 1 => ("ConstellationsByLot$Shelf", "held", "I", false)
  | _ => ("ConstellationsByLot$Shelf", "size", "I", false)
def tyX4 : Nat → FieldType := fun k => match k with
  | 0 => .array .long
  | 1 => .int
  | _ => .int
abbrev wsX40 : List Cond := u_ws RX4 TX4 3
theorem nmX4 : ∀ a, a < 3 → ∀ b, b < 3 → a ≠ b → (TX4 a).2.1 ≠ (TX4 b).2.1 := by decide +kernel
theorem tyX4_ok : ∀ k, k < 3 → parseFieldDescriptor (TX4 k).2.2.1 = some (tyX4 k) := by decide +kernel
abbrev cX4_init : ByteArray := prog_6_method_1_code
def yX4_init : MethodName := ⟨RX4, "<init>", "()V"⟩
abbrev cX4_takeRow : ByteArray := prog_6_method_2_code
def yX4_takeRow : MethodName := ⟨RX4, "takeRow", "(II)V"⟩
abbrev cX4_holdsParish : ByteArray := prog_6_method_3_code
def yX4_holdsParish : MethodName := ⟨RX4, "holdsParish", "()Z"⟩
abbrev cX4_refusalAsRow : ByteArray := prog_6_method_4_code
def yX4_refusalAsRow : MethodName := ⟨RX4, "refusalAsRow", "()I"⟩
abbrev cX4_hasElement : ByteArray := prog_6_method_5_code
def yX4_hasElement : MethodName := ⟨RX4, "hasElement", "(I)Z"⟩
abbrev cX4_hasSpan : ByteArray := prog_6_method_6_code
def yX4_hasSpan : MethodName := ⟨RX4, "hasSpan", "(II)Z"⟩
abbrev cX4_put : ByteArray := prog_6_method_7_code
def yX4_put : MethodName := ⟨RX4, "put", "(IJ)V"⟩
def RX5 : String := "ConstellationsByLot$Shift"
def TX5 : u_T := fun k => match k with
  | _ => ("", "", "", false)
def tyX5 : Nat → FieldType := fun k => match k with
  | _ => .int
abbrev wsX50 : List Cond := u_ws RX5 TX5 0
theorem nmX5 : ∀ a, a < 0 → ∀ b, b < 0 → a ≠ b → (TX5 a).2.1 ≠ (TX5 b).2.1 := by decide +kernel
theorem tyX5_ok : ∀ k, k < 0 → parseFieldDescriptor (TX5 k).2.2.1 = some (tyX5 k) := by decide +kernel
abbrev cX5_between : ByteArray := prog_7_method_2_code
def yX5_between : MethodName := ⟨RX5, "between", "(LConstellationsByLot$Sky;LConstellationsByLot$Parish;LConstellationsByLot$Parish;)I"⟩
abbrev cX5_leastRow : ByteArray := prog_7_method_3_code
def yX5_leastRow : MethodName := ⟨RX5, "leastRow", "(LConstellationsByLot$Sky;LConstellationsByLot$Parish;)I"⟩
abbrev cX5_leastColumn : ByteArray := prog_7_method_4_code
def yX5_leastColumn : MethodName := ⟨RX5, "leastColumn", "(LConstellationsByLot$Sky;LConstellationsByLot$Parish;)I"⟩
abbrev cX5_isWithin : ByteArray := prog_7_method_5_code
def yX5_isWithin : MethodName := ⟨RX5, "isWithin", "(LConstellationsByLot$Sky;LConstellationsByLot$Parish;LConstellationsByLot$Parish;II)Z"⟩
abbrev cX5_falls : ByteArray := prog_7_method_6_code
def yX5_falls : MethodName := ⟨RX5, "falls", "(LConstellationsByLot$Sky;IIII)Z"⟩
def RX6 : String := "ConstellationsByLot$Sky"
def TX6 : u_T := fun k => match k with
  | 0 => ("ConstellationsByLot$Sky", "cells", "[I", true)
  | 1 => ("ConstellationsByLot$Sky", "brights", "[I", true)
  | 2 => ("ConstellationsByLot$Sky", "parishes", "[LConstellationsByLot$Parish;", true)
  | 3 => ("ConstellationsByLot$Sky", "pointCount", "I", false)
  | 4 => ("ConstellationsByLot$Sky", "parishCount", "I", false)
  | 5 => ("ConstellationsByLot$Sky", "cloud", "I", false)
  | _ => ("ConstellationsByLot$Sky", "seed", "I", false)
def tyX6 : Nat → FieldType := fun k => match k with
  | 0 => .array .int
  | 1 => .array .int
  | 2 => .array (.object "ConstellationsByLot$Parish")
  | 3 => .int
  | 4 => .int
  | 5 => .int
  | _ => .int
abbrev wsX60 : List Cond := u_ws RX6 TX6 7
theorem nmX6 : ∀ a, a < 7 → ∀ b, b < 7 → a ≠ b → (TX6 a).2.1 ≠ (TX6 b).2.1 := by decide +kernel
theorem tyX6_ok : ∀ k, k < 7 → parseFieldDescriptor (TX6 k).2.2.1 = some (tyX6 k) := by decide +kernel
abbrev cX6_init : ByteArray := prog_8_method_1_code
def yX6_init : MethodName := ⟨RX6, "<init>", "()V"⟩
abbrev cX6_become : ByteArray := prog_8_method_2_code
def yX6_become : MethodName := ⟨RX6, "become", "(LConstellationsByLot$Sky;)V"⟩
abbrev cX6_hasRoomForPoint : ByteArray := prog_8_method_3_code
def yX6_hasRoomForPoint : MethodName := ⟨RX6, "hasRoomForPoint", "()Z"⟩
abbrev cX6_addPoint : ByteArray := prog_8_method_4_code
def yX6_addPoint : MethodName := ⟨RX6, "addPoint", "(II)V"⟩
abbrev cX6_hasRoomForParish : ByteArray := prog_8_method_5_code
def yX6_hasRoomForParish : MethodName := ⟨RX6, "hasRoomForParish", "()Z"⟩
abbrev cX6_addParish : ByteArray := prog_8_method_6_code
def yX6_addParish : MethodName := ⟨RX6, "addParish", "(II)V"⟩
abbrev cX6_rowOf : ByteArray := prog_8_method_7_code
def yX6_rowOf : MethodName := ⟨RX6, "rowOf", "(I)I"⟩
abbrev cX6_columnOf : ByteArray := prog_8_method_8_code
def yX6_columnOf : MethodName := ⟨RX6, "columnOf", "(I)I"⟩
abbrev cX6_length : ByteArray := prog_8_method_9_code
def yX6_length : MethodName := ⟨RX6, "length", "(II)I"⟩
abbrev cX6_lightOf : ByteArray := prog_8_method_10_code
def yX6_lightOf : MethodName := ⟨RX6, "lightOf", "(I)I"⟩
abbrev cX6_wantersOf : ByteArray := prog_8_method_11_code
def yX6_wantersOf : MethodName := ⟨RX6, "wantersOf", "(I)I"⟩
abbrev cX6_isShared : ByteArray := prog_8_method_12_code
def yX6_isShared : MethodName := ⟨RX6, "isShared", "(I)Z"⟩
abbrev cX6_sharedPoints : ByteArray := prog_8_method_13_code
def yX6_sharedPoints : MethodName := ⟨RX6, "sharedPoints", "()I"⟩
abbrev cX6_linesAt : ByteArray := prog_8_method_14_code
def yX6_linesAt : MethodName := ⟨RX6, "linesAt", "(I)I"⟩
abbrev cX6_allLines : ByteArray := prog_8_method_15_code
def yX6_allLines : MethodName := ⟨RX6, "allLines", "()I"⟩
abbrev cX6_joined : ByteArray := prog_8_method_16_code
def yX6_joined : MethodName := ⟨RX6, "joined", "(I)I"⟩
abbrev cX6_lengthTo : ByteArray := prog_8_method_17_code
def yX6_lengthTo : MethodName := ⟨RX6, "lengthTo", "(II)I"⟩
abbrev cX6_drawByLot : ByteArray := prog_8_method_18_code
def yX6_drawByLot : MethodName := ⟨RX6, "drawByLot", "(LConstellationsByLot$Parish;)V"⟩
abbrev cX6_lot : ByteArray := prog_8_method_19_code
def yX6_lot : MethodName := ⟨RX6, "lot", "(I)I"⟩
abbrev cX6_wantedPoint : ByteArray := prog_8_method_20_code
def yX6_wantedPoint : MethodName := ⟨RX6, "wantedPoint", "(II)I"⟩
def RX7 : String := "ConstellationsByLot$Tape"
def TX7 : u_T := fun k => match k with
  | 0 => ("ConstellationsByLot$Tape", "size", "I", false)
  | 1 => ("ConstellationsByLot$Tape", "fault", "I", false)
  | 2 => ("ConstellationsByLot$Tape", "bytes", "[I", true)
  | 3 => ("ConstellationsByLot$Tape", "at", "I", false)
  | _ => ("ConstellationsByLot$Tape", "start", "I", false)
def tyX7 : Nat → FieldType := fun k => match k with
  | 0 => .int
  | 1 => .int
  | 2 => .array .int
  | 3 => .int
  | _ => .int
abbrev wsX70 : List Cond := u_ws RX7 TX7 5
theorem nmX7 : ∀ a, a < 5 → ∀ b, b < 5 → a ≠ b → (TX7 a).2.1 ≠ (TX7 b).2.1 := by decide +kernel
theorem tyX7_ok : ∀ k, k < 5 → parseFieldDescriptor (TX7 k).2.2.1 = some (tyX7 k) := by decide +kernel
abbrev cX7_init : ByteArray := prog_9_method_1_code
def yX7_init : MethodName := ⟨RX7, "<init>", "()V"⟩
abbrev cX7_append : ByteArray := prog_9_method_2_code
def yX7_append : MethodName := ⟨RX7, "append", "(I)V"⟩
abbrev cX7_readInto : ByteArray := prog_9_method_3_code
def yX7_readInto : MethodName := ⟨RX7, "readInto", "(LConstellationsByLot$Sky;)I"⟩
abbrev cX7_skipBlanks : ByteArray := prog_9_method_4_code
def yX7_skipBlanks : MethodName := ⟨RX7, "skipBlanks", "()V"⟩
abbrev cX7_readSemicolon : ByteArray := prog_9_method_5_code
def yX7_readSemicolon : MethodName := ⟨RX7, "readSemicolon", "()Z"⟩
abbrev cX7_readStatement : ByteArray := prog_9_method_6_code
def yX7_readStatement : MethodName := ⟨RX7, "readStatement", "(LConstellationsByLot$Sky;)V"⟩
abbrev cX7_isWord : ByteArray := prog_9_method_7_code
def yX7_isWord : MethodName := ⟨RX7, "isWord", "(Ljava/lang/String;)Z"⟩
abbrev cX7_readNumber : ByteArray := prog_9_method_8_code
def yX7_readNumber : MethodName := ⟨RX7, "readNumber", "(II)I"⟩
abbrev cX7_readPoint : ByteArray := prog_9_method_9_code
def yX7_readPoint : MethodName := ⟨RX7, "readPoint", "(LConstellationsByLot$Sky;)V"⟩
abbrev cX7_readParish : ByteArray := prog_9_method_10_code
def yX7_readParish : MethodName := ⟨RX7, "readParish", "(LConstellationsByLot$Sky;)V"⟩
abbrev cX7_readWants : ByteArray := prog_9_method_11_code
def yX7_readWants : MethodName := ⟨RX7, "readWants", "(LConstellationsByLot$Sky;)V"⟩
abbrev cX7_readLine : ByteArray := prog_9_method_12_code
def yX7_readLine : MethodName := ⟨RX7, "readLine", "(LConstellationsByLot$Sky;)V"⟩
abbrev cX7_allow : ByteArray := prog_9_method_13_code
def yX7_allow : MethodName := ⟨RX7, "allow", "(Z)V"⟩
abbrev cX7_readCloud : ByteArray := prog_9_method_14_code
def yX7_readCloud : MethodName := ⟨RX7, "readCloud", "(LConstellationsByLot$Sky;)V"⟩
def RX8 : String := "ConstellationsByLot"
def TX8 : u_T := fun k => match k with
  | 0 => ("ConstellationsByLot", "now", "LConstellationsByLot$Sky;", true)
  | 1 => ("ConstellationsByLot", "kept", "LConstellationsByLot$Sky;", true)
  | 2 => ("ConstellationsByLot", "trial", "LConstellationsByLot$Sky;", true)
  | 3 => ("ConstellationsByLot", "spare", "LConstellationsByLot$Parish;", true)
  | 4 => ("ConstellationsByLot", "figure", "LConstellationsByLot$Figure;", true)
  | 5 => ("ConstellationsByLot", "sharing", "LConstellationsByLot$Sharing;", true)
  | 6 => ("ConstellationsByLot", "bonds", "LConstellationsByLot$Bonds;", true)
  | 7 => ("ConstellationsByLot", "tape", "LConstellationsByLot$Tape;", true)
  | 8 => ("ConstellationsByLot", "shelves", "[LConstellationsByLot$Shelf;", true)
  | 9 => ("ConstellationsByLot", "refusals", "[I", true)
  | 10 => ("ConstellationsByLot", "told", "[I", true)
  | _ => ("ConstellationsByLot", "hasImage", "Z", false)
def tyX8 : Nat → FieldType := fun k => match k with
  | 0 => .object "ConstellationsByLot$Sky"
  | 1 => .object "ConstellationsByLot$Sky"
  | 2 => .object "ConstellationsByLot$Sky"
  | 3 => .object "ConstellationsByLot$Parish"
  | 4 => .object "ConstellationsByLot$Figure"
  | 5 => .object "ConstellationsByLot$Sharing"
  | 6 => .object "ConstellationsByLot$Bonds"
  | 7 => .object "ConstellationsByLot$Tape"
  | 8 => .array (.object "ConstellationsByLot$Shelf")
  | 9 => .array .int
  | 10 => .array .int
  | _ => .boolean
abbrev wsX80 : List Cond := u_ws RX8 TX8 12
theorem nmX8 : ∀ a, a < 12 → ∀ b, b < 12 → a ≠ b → (TX8 a).2.1 ≠ (TX8 b).2.1 := by decide +kernel
theorem tyX8_ok : ∀ k, k < 12 → parseFieldDescriptor (TX8 k).2.2.1 = some (tyX8 k) := by decide +kernel
abbrev cX8_init : ByteArray := prog_1_method_1_code
def yX8_init : MethodName := ⟨RX8, "<init>", "()V"⟩
abbrev cX8_row : ByteArray := prog_1_method_2_code
def yX8_row : MethodName := ⟨RX8, "row", "(III)I"⟩
abbrev cX8_set : ByteArray := prog_1_method_3_code
def yX8_set : MethodName := ⟨RX8, "set", "(IIJ)I"⟩
abbrev cX8_copy : ByteArray := prog_1_method_4_code
def yX8_copy : MethodName := ⟨RX8, "copy", "(IIIII)I"⟩
abbrev cX8_element : ByteArray := prog_1_method_5_code
def yX8_element : MethodName := ⟨RX8, "element", "(II)J"⟩
abbrev cX8_holds : ByteArray := prog_1_method_6_code
def yX8_holds : MethodName := ⟨RX8, "holds", "(I)I"⟩
abbrev cX8_show : ByteArray := prog_1_method_7_code
def yX8_show : MethodName := ⟨RX8, "show", "(II)I"⟩
abbrev cX8_says : ByteArray := prog_1_method_8_code
def yX8_says : MethodName := ⟨RX8, "says", "(II)I"⟩
abbrev cX8_point : ByteArray := prog_1_method_9_code
def yX8_point : MethodName := ⟨RX8, "point", "(II)I"⟩
abbrev cX8_parish : ByteArray := prog_1_method_10_code
def yX8_parish : MethodName := ⟨RX8, "parish", "(II)I"⟩
abbrev cX8_wants : ByteArray := prog_1_method_11_code
def yX8_wants : MethodName := ⟨RX8, "wants", "(IIZ)I"⟩
abbrev cX8_line : ByteArray := prog_1_method_12_code
def yX8_line : MethodName := ⟨RX8, "line", "(III)I"⟩
abbrev cX8_drop : ByteArray := prog_1_method_13_code
def yX8_drop : MethodName := ⟨RX8, "drop", "(III)I"⟩
abbrev cX8_cloud : ByteArray := prog_1_method_14_code
def yX8_cloud : MethodName := ⟨RX8, "cloud", "(I)I"⟩
abbrev cX8_feed : ByteArray := prog_1_method_15_code
def yX8_feed : MethodName := ⟨RX8, "feed", "(I)I"⟩
abbrev cX8_wipe : ByteArray := prog_1_method_16_code
def yX8_wipe : MethodName := ⟨RX8, "wipe", "()I"⟩
abbrev cX8_sky : ByteArray := prog_1_method_17_code
def yX8_sky : MethodName := ⟨RX8, "sky", "()I"⟩
abbrev cX8_pointOf : ByteArray := prog_1_method_18_code
def yX8_pointOf : MethodName := ⟨RX8, "pointOf", "(II)I"⟩
abbrev cX8_parishOf : ByteArray := prog_1_method_19_code
def yX8_parishOf : MethodName := ⟨RX8, "parishOf", "(II)I"⟩
abbrev cX8_crowd : ByteArray := prog_1_method_20_code
def yX8_crowd : MethodName := ⟨RX8, "crowd", "()I"⟩
abbrev cX8_lineOf : ByteArray := prog_1_method_21_code
def yX8_lineOf : MethodName := ⟨RX8, "lineOf", "(II)I"⟩
abbrev cX8_shift : ByteArray := prog_1_method_22_code
def yX8_shift : MethodName := ⟨RX8, "shift", "(II)I"⟩
abbrev cX8_better : ByteArray := prog_1_method_23_code
def yX8_better : MethodName := ⟨RX8, "better", "(II)I"⟩
abbrev cX8_share : ByteArray := prog_1_method_24_code
def yX8_share : MethodName := ⟨RX8, "share", "(I)I"⟩
abbrev cX8_colours : ByteArray := prog_1_method_25_code
def yX8_colours : MethodName := ⟨RX8, "colours", "()I"⟩
abbrev cX8_way : ByteArray := prog_1_method_26_code
def yX8_way : MethodName := ⟨RX8, "way", "(II)I"⟩
abbrev cX8_pick : ByteArray := prog_1_method_27_code
def yX8_pick : MethodName := ⟨RX8, "pick", "(I)I"⟩
abbrev cX8_laws : ByteArray := prog_1_method_28_code
def yX8_laws : MethodName := ⟨RX8, "laws", "(I)I"⟩
abbrev cX8_whose : ByteArray := prog_1_method_29_code
def yX8_whose : MethodName := ⟨RX8, "whose", "(III)I"⟩
abbrev cX8_seen : ByteArray := prog_1_method_30_code
def yX8_seen : MethodName := ⟨RX8, "seen", "(II)I"⟩
abbrev cX8_nights : ByteArray := prog_1_method_31_code
def yX8_nights : MethodName := ⟨RX8, "nights", "(I)I"⟩
abbrev cX8_give : ByteArray := prog_1_method_32_code
def yX8_give : MethodName := ⟨RX8, "give", "()I"⟩
abbrev cX8_seed : ByteArray := prog_1_method_33_code
def yX8_seed : MethodName := ⟨RX8, "seed", "(I)I"⟩
abbrev cX8_image : ByteArray := prog_1_method_34_code
def yX8_image : MethodName := ⟨RX8, "image", "()I"⟩
abbrev cX8_back : ByteArray := prog_1_method_35_code
def yX8_back : MethodName := ⟨RX8, "back", "()I"⟩
abbrev cX8_status : ByteArray := prog_1_method_36_code
def yX8_status : MethodName := ⟨RX8, "status", "(I)I"⟩
abbrev cX8_refuse : ByteArray := prog_1_method_37_code
def yX8_refuse : MethodName := ⟨RX8, "refuse", "(I)I"⟩
abbrev cX8_isShelf : ByteArray := prog_1_method_38_code
def yX8_isShelf : MethodName := ⟨RX8, "isShelf", "(I)Z"⟩
abbrev cX8_isPoint : ByteArray := prog_1_method_39_code
def yX8_isPoint : MethodName := ⟨RX8, "isPoint", "(I)Z"⟩
abbrev cX8_isParish : ByteArray := prog_1_method_40_code
def yX8_isParish : MethodName := ⟨RX8, "isParish", "(I)Z"⟩
abbrev cX8_isPair : ByteArray := prog_1_method_41_code
def yX8_isPair : MethodName := ⟨RX8, "isPair", "(II)Z"⟩
abbrev cX8_isUnder : ByteArray := prog_1_method_42_code
def yX8_isUnder : MethodName := ⟨RX8, "isUnder", "(II)Z"⟩
abbrev cX8_worthOf : ByteArray := prog_1_method_43_code
def yX8_worthOf : MethodName := ⟨RX8, "worthOf", "(I)I"⟩
abbrev cX8_spareWorth : ByteArray := prog_1_method_44_code
def yX8_spareWorth : MethodName := ⟨RX8, "spareWorth", "()I"⟩
abbrev cX8_allWorth : ByteArray := prog_1_method_45_code
def yX8_allWorth : MethodName := ⟨RX8, "allWorth", "()I"⟩
abbrev cX8_shelvesInUse : ByteArray := prog_1_method_46_code
def yX8_shelvesInUse : MethodName := ⟨RX8, "shelvesInUse", "()I"⟩
abbrev cX8_bestNewLine : ByteArray := prog_1_method_47_code
def yX8_bestNewLine : MethodName := ⟨RX8, "bestNewLine", "(LConstellationsByLot$Parish;)I"⟩
abbrev cX8_worstLine : ByteArray := prog_1_method_48_code
def yX8_worstLine : MethodName := ⟨RX8, "worstLine", "(LConstellationsByLot$Parish;)I"⟩
abbrev cX8_pickedBy : ByteArray := prog_1_method_49_code
def yX8_pickedBy : MethodName := ⟨RX8, "pickedBy", "(I)I"⟩
abbrev cX8_arePairs : ByteArray := prog_1_method_50_code
def yX8_arePairs : MethodName := ⟨RX8, "arePairs", "(LConstellationsByLot$Shelf;I)Z"⟩
abbrev cX8_takeTold : ByteArray := prog_1_method_51_code
def yX8_takeTold : MethodName := ⟨RX8, "takeTold", "(LConstellationsByLot$Shelf;I)I"⟩
abbrev cX8_isTold : ByteArray := prog_1_method_52_code
def yX8_isTold : MethodName := ⟨RX8, "isTold", "(II)Z"⟩
abbrev cX8_nearestToTold : ByteArray := prog_1_method_53_code
def yX8_nearestToTold : MethodName := ⟨RX8, "nearestToTold", "(I)I"⟩
abbrev cX8_differenceFromTold : ByteArray := prog_1_method_54_code
def yX8_differenceFromTold : MethodName := ⟨RX8, "differenceFromTold", "(LConstellationsByLot$Parish;I)I"⟩
abbrev cX8_likelyAllSeen : ByteArray := prog_1_method_55_code
def yX8_likelyAllSeen : MethodName := ⟨RX8, "likelyAllSeen", "(II)I"⟩
def RX9 : String := "ConstellationsByLotModel"
def TX9 : u_T := fun k => match k with
  | 0 => ("ConstellationsByLotModel", "refused", "[I", true)
  | 1 => ("ConstellationsByLotModel", "now", "[I", true)
  | 2 => ("ConstellationsByLotModel", "kept", "[I", true)
  | 3 => ("ConstellationsByLotModel", "mind", "[I", true)
  | 4 => ("ConstellationsByLotModel", "isKept", "Z", false)
  | 5 => ("ConstellationsByLotModel", "tape", "[I", true)
  | 6 => ("ConstellationsByLotModel", "size", "I", false)
  | 7 => ("ConstellationsByLotModel", "at", "I", false)
  | 8 => ("ConstellationsByLotModel", "from", "I", false)
  | 9 => ("ConstellationsByLotModel", "sort", "I", false)
  | 10 => ("ConstellationsByLotModel", "words", "[C", true)
  | 11 => ("ConstellationsByLotModel", "shared", "[I", true)
  | 12 => ("ConstellationsByLotModel", "given", "[I", true)
  | 13 => ("ConstellationsByLotModel", "best", "[I", true)
  | 14 => ("ConstellationsByLotModel", "minds", "[I", true)
  | 15 => ("ConstellationsByLotModel", "shares", "I", false)
  | 16 => ("ConstellationsByLotModel", "greatest", "I", false)
  | 17 => ("ConstellationsByLotModel", "colour", "[I", true)
  | 18 => ("ConstellationsByLotModel", "holds", "[I", true)
  | 19 => ("ConstellationsByLotModel", "sizes", "[I", true)
  | 20 => ("ConstellationsByLotModel", "elements", "[J", true)
  | 21 => ("ConstellationsByLotModel", "moved", "[J", true)
  | 22 => ("ConstellationsByLotModel", "above", "[I", true)
  | _ => ("ConstellationsByLotModel", "told", "[Z", true)
def tyX9 : Nat → FieldType := fun k => match k with
  | 0 => .array .int
  | 1 => .array .int
  | 2 => .array .int
  | 3 => .array .int
  | 4 => .boolean
  | 5 => .array .int
  | 6 => .int
  | 7 => .int
  | 8 => .int
  | 9 => .int
  | 10 => .array .char
  | 11 => .array .int
  | 12 => .array .int
  | 13 => .array .int
  | 14 => .array .int
  | 15 => .int
  | 16 => .int
  | 17 => .array .int
  | 18 => .array .int
  | 19 => .array .int
  | 20 => .array .long
  | 21 => .array .long
  | 22 => .array .int
  | _ => .array .boolean
abbrev wsX90 : List Cond := u_ws RX9 TX9 24
theorem nmX9 : ∀ a, a < 24 → ∀ b, b < 24 → a ≠ b → (TX9 a).2.1 ≠ (TX9 b).2.1 := by decide +kernel
theorem tyX9_ok : ∀ k, k < 24 → parseFieldDescriptor (TX9 k).2.2.1 = some (tyX9 k) := by decide +kernel
abbrev cX9_init : ByteArray := prog_11_method_1_code
def yX9_init : MethodName := ⟨RX9, "<init>", "()V"⟩
abbrev cX9_isIn : ByteArray := prog_11_method_2_code
def yX9_isIn : MethodName := ⟨RX9, "isIn", "(JJJ)Z"⟩
abbrev cX9_refuse : ByteArray := prog_11_method_3_code
def yX9_refuse : MethodName := ⟨RX9, "refuse", "(I)I"⟩
abbrev cX9_fresh : ByteArray := prog_11_method_4_code
def yX9_fresh : MethodName := ⟨RX9, "fresh", "()[I"⟩
abbrev cX9_move : ByteArray := prog_11_method_5_code
def yX9_move : MethodName := ⟨RX9, "move", "([II[II)V"⟩
abbrev cX9_isPoint : ByteArray := prog_11_method_6_code
def yX9_isPoint : MethodName := ⟨RX9, "isPoint", "(J)Z"⟩
abbrev cX9_isParish : ByteArray := prog_11_method_7_code
def yX9_isParish : MethodName := ⟨RX9, "isParish", "(I)Z"⟩
abbrev cX9_cell : ByteArray := prog_11_method_8_code
def yX9_cell : MethodName := ⟨RX9, "cell", "(I)I"⟩
abbrev cX9_bright : ByteArray := prog_11_method_9_code
def yX9_bright : MethodName := ⟨RX9, "bright", "(I)I"⟩
abbrev cX9_wanted : ByteArray := prog_11_method_10_code
def yX9_wanted : MethodName := ⟨RX9, "wanted", "(I)I"⟩
abbrev cX9_isWanted : ByteArray := prog_11_method_11_code
def yX9_isWanted : MethodName := ⟨RX9, "isWanted", "(II)Z"⟩
abbrev cX9_kind : ByteArray := prog_11_method_12_code
def yX9_kind : MethodName := ⟨RX9, "kind", "(I)I"⟩
abbrev cX9_a : ByteArray := prog_11_method_13_code
def yX9_a : MethodName := ⟨RX9, "a", "(I)I"⟩
abbrev cX9_lines : ByteArray := prog_11_method_14_code
def yX9_lines : MethodName := ⟨RX9, "lines", "(I)I"⟩
abbrev cX9_end : ByteArray := prog_11_method_15_code
def yX9_end : MethodName := ⟨RX9, "end", "(III)I"⟩
abbrev cX9_addPoint : ByteArray := prog_11_method_16_code
def yX9_addPoint : MethodName := ⟨RX9, "addPoint", "(II)I"⟩
abbrev cX9_addParish : ByteArray := prog_11_method_17_code
def yX9_addParish : MethodName := ⟨RX9, "addParish", "(II)I"⟩
abbrev cX9_drawn : ByteArray := prog_11_method_18_code
def yX9_drawn : MethodName := ⟨RX9, "drawn", "(III)I"⟩
abbrev cX9_draw : ByteArray := prog_11_method_19_code
def yX9_draw : MethodName := ⟨RX9, "draw", "(III)I"⟩
abbrev cX9_erase : ByteArray := prog_11_method_20_code
def yX9_erase : MethodName := ⟨RX9, "erase", "(II)I"⟩
abbrev cX9_eraseIn : ByteArray := prog_11_method_21_code
def yX9_eraseIn : MethodName := ⟨RX9, "eraseIn", "(II)I"⟩
abbrev cX9_point : ByteArray := prog_11_method_22_code
def yX9_point : MethodName := ⟨RX9, "point", "(II)I"⟩
abbrev cX9_parish : ByteArray := prog_11_method_23_code
def yX9_parish : MethodName := ⟨RX9, "parish", "(II)I"⟩
abbrev cX9_wants : ByteArray := prog_11_method_24_code
def yX9_wants : MethodName := ⟨RX9, "wants", "(IIZ)I"⟩
abbrev cX9_isPair : ByteArray := prog_11_method_25_code
def yX9_isPair : MethodName := ⟨RX9, "isPair", "(III)Z"⟩
abbrev cX9_line : ByteArray := prog_11_method_26_code
def yX9_line : MethodName := ⟨RX9, "line", "(III)I"⟩
abbrev cX9_drop : ByteArray := prog_11_method_27_code
def yX9_drop : MethodName := ⟨RX9, "drop", "(III)I"⟩
abbrev cX9_cloud : ByteArray := prog_11_method_28_code
def yX9_cloud : MethodName := ⟨RX9, "cloud", "(I)I"⟩
abbrev cX9_feed : ByteArray := prog_11_method_29_code
def yX9_feed : MethodName := ⟨RX9, "feed", "(I)I"⟩
abbrev cX9_wipe : ByteArray := prog_11_method_30_code
def yX9_wipe : MethodName := ⟨RX9, "wipe", "()I"⟩
abbrev cX9_sortAt : ByteArray := prog_11_method_31_code
def yX9_sortAt : MethodName := ⟨RX9, "sortAt", "(I)I"⟩
abbrev cX9_next : ByteArray := prog_11_method_32_code
def yX9_next : MethodName := ⟨RX9, "next", "()V"⟩
abbrev cX9_word : ByteArray := prog_11_method_33_code
def yX9_word : MethodName := ⟨RX9, "word", "()I"⟩
abbrev cX9_number : ByteArray := prog_11_method_34_code
def yX9_number : MethodName := ⟨RX9, "number", "(II)I"⟩
abbrev cX9_isLine : ByteArray := prog_11_method_35_code
def yX9_isLine : MethodName := ⟨RX9, "isLine", "()Z"⟩
abbrev cX9_isStatement : ByteArray := prog_11_method_36_code
def yX9_isStatement : MethodName := ⟨RX9, "isStatement", "()Z"⟩
abbrev cX9_sky : ByteArray := prog_11_method_37_code
def yX9_sky : MethodName := ⟨RX9, "sky", "()I"⟩
abbrev cX9_length : ByteArray := prog_11_method_38_code
def yX9_length : MethodName := ⟨RX9, "length", "(II)I"⟩
abbrev cX9_lengthOf : ByteArray := prog_11_method_39_code
def yX9_lengthOf : MethodName := ⟨RX9, "lengthOf", "(II)I"⟩
abbrev cX9_lengths : ByteArray := prog_11_method_40_code
def yX9_lengths : MethodName := ⟨RX9, "lengths", "(I)I"⟩
abbrev cX9_longest : ByteArray := prog_11_method_41_code
def yX9_longest : MethodName := ⟨RX9, "longest", "(I)I"⟩
abbrev cX9_ones : ByteArray := prog_11_method_42_code
def yX9_ones : MethodName := ⟨RX9, "ones", "(I)I"⟩
abbrev cX9_used : ByteArray := prog_11_method_43_code
def yX9_used : MethodName := ⟨RX9, "used", "(I)I"⟩
abbrev cX9_odd : ByteArray := prog_11_method_44_code
def yX9_odd : MethodName := ⟨RX9, "odd", "(I)I"⟩
abbrev cX9_light : ByteArray := prog_11_method_45_code
def yX9_light : MethodName := ⟨RX9, "light", "(I)I"⟩
abbrev cX9_piece : ByteArray := prog_11_method_46_code
def yX9_piece : MethodName := ⟨RX9, "piece", "(II)I"⟩
abbrev cX9_pieces : ByteArray := prog_11_method_47_code
def yX9_pieces : MethodName := ⟨RX9, "pieces", "(IZ)I"⟩
abbrev cX9_isClosed : ByteArray := prog_11_method_48_code
def yX9_isClosed : MethodName := ⟨RX9, "isClosed", "(I)Z"⟩
abbrev cX9_worth : ByteArray := prog_11_method_49_code
def yX9_worth : MethodName := ⟨RX9, "worth", "(I)I"⟩
abbrev cX9_wish : ByteArray := prog_11_method_50_code
def yX9_wish : MethodName := ⟨RX9, "wish", "(I)I"⟩
abbrev cX9_meet : ByteArray := prog_11_method_51_code
def yX9_meet : MethodName := ⟨RX9, "meet", "(I)I"⟩
abbrev cX9_pointOf : ByteArray := prog_11_method_52_code
def yX9_pointOf : MethodName := ⟨RX9, "pointOf", "(II)I"⟩
abbrev cX9_parishOf : ByteArray := prog_11_method_53_code
def yX9_parishOf : MethodName := ⟨RX9, "parishOf", "(II)I"⟩
abbrev cX9_crowd : ByteArray := prog_11_method_54_code
def yX9_crowd : MethodName := ⟨RX9, "crowd", "()I"⟩
abbrev cX9_lineOf : ByteArray := prog_11_method_55_code
def yX9_lineOf : MethodName := ⟨RX9, "lineOf", "(II)I"⟩
abbrev cX9_isAmong : ByteArray := prog_11_method_56_code
def yX9_isAmong : MethodName := ⟨RX9, "isAmong", "(IIII)Z"⟩
abbrev cX9_isShifted : ByteArray := prog_11_method_57_code
def yX9_isShifted : MethodName := ⟨RX9, "isShifted", "(IIII)Z"⟩
abbrev cX9_shift : ByteArray := prog_11_method_58_code
def yX9_shift : MethodName := ⟨RX9, "shift", "(II)I"⟩
abbrev cX9_joined : ByteArray := prog_11_method_59_code
def yX9_joined : MethodName := ⟨RX9, "joined", "(I)I"⟩
abbrev cX9_newLine : ByteArray := prog_11_method_60_code
def yX9_newLine : MethodName := ⟨RX9, "newLine", "(I)I"⟩
abbrev cX9_worst : ByteArray := prog_11_method_61_code
def yX9_worst : MethodName := ⟨RX9, "worst", "(I)I"⟩
abbrev cX9_better : ByteArray := prog_11_method_62_code
def yX9_better : MethodName := ⟨RX9, "better", "(II)I"⟩
abbrev cX9_give : ByteArray := prog_11_method_63_code
def yX9_give : MethodName := ⟨RX9, "give", "(I)V"⟩
abbrev cX9_giveTo : ByteArray := prog_11_method_64_code
def yX9_giveTo : MethodName := ⟨RX9, "giveTo", "(II)I"⟩
abbrev cX9_manyShared : ByteArray := prog_11_method_65_code
def yX9_manyShared : MethodName := ⟨RX9, "manyShared", "()I"⟩
abbrev cX9_makeShare : ByteArray := prog_11_method_66_code
def yX9_makeShare : MethodName := ⟨RX9, "makeShare", "()V"⟩
abbrev cX9_share : ByteArray := prog_11_method_67_code
def yX9_share : MethodName := ⟨RX9, "share", "(I)I"⟩
abbrev cX9_give_ : ByteArray := prog_11_method_68_code
def yX9_give_ : MethodName := ⟨RX9, "give", "()I"⟩
abbrev cX9_isBeside : ByteArray := prog_11_method_69_code
def yX9_isBeside : MethodName := ⟨RX9, "isBeside", "(II)Z"⟩
abbrev cX9_canColour : ByteArray := prog_11_method_70_code
def yX9_canColour : MethodName := ⟨RX9, "canColour", "(II)Z"⟩
abbrev cX9_colours : ByteArray := prog_11_method_71_code
def yX9_colours : MethodName := ⟨RX9, "colours", "()I"⟩
abbrev cX9_way : ByteArray := prog_11_method_72_code
def yX9_way : MethodName := ⟨RX9, "way", "(II)I"⟩
abbrev cX9_byLaw : ByteArray := prog_11_method_73_code
def yX9_byLaw : MethodName := ⟨RX9, "byLaw", "(II)I"⟩
abbrev cX9_picked : ByteArray := prog_11_method_74_code
def yX9_picked : MethodName := ⟨RX9, "picked", "(I)I"⟩
abbrev cX9_pick : ByteArray := prog_11_method_75_code
def yX9_pick : MethodName := ⟨RX9, "pick", "(I)I"⟩
abbrev cX9_laws : ByteArray := prog_11_method_76_code
def yX9_laws : MethodName := ⟨RX9, "laws", "(I)I"⟩
abbrev cX9_isShelf : ByteArray := prog_11_method_77_code
def yX9_isShelf : MethodName := ⟨RX9, "isShelf", "(I)Z"⟩
abbrev cX9_row : ByteArray := prog_11_method_78_code
def yX9_row : MethodName := ⟨RX9, "row", "(III)I"⟩
abbrev cX9_rowIn : ByteArray := prog_11_method_79_code
def yX9_rowIn : MethodName := ⟨RX9, "rowIn", "(I)I"⟩
abbrev cX9_set : ByteArray := prog_11_method_80_code
def yX9_set : MethodName := ⟨RX9, "set", "(IIJ)I"⟩
abbrev cX9_copy : ByteArray := prog_11_method_81_code
def yX9_copy : MethodName := ⟨RX9, "copy", "(IIIII)I"⟩
abbrev cX9_element : ByteArray := prog_11_method_82_code
def yX9_element : MethodName := ⟨RX9, "element", "(II)J"⟩
abbrev cX9_holds : ByteArray := prog_11_method_83_code
def yX9_holds : MethodName := ⟨RX9, "holds", "(I)I"⟩
abbrev cX9_show : ByteArray := prog_11_method_84_code
def yX9_show : MethodName := ⟨RX9, "show", "(II)I"⟩
abbrev cX9_says : ByteArray := prog_11_method_85_code
def yX9_says : MethodName := ⟨RX9, "says", "(II)I"⟩
abbrev cX9_unlike : ByteArray := prog_11_method_86_code
def yX9_unlike : MethodName := ⟨RX9, "unlike", "(I)I"⟩
abbrev cX9_whose : ByteArray := prog_11_method_87_code
def yX9_whose : MethodName := ⟨RX9, "whose", "(III)I"⟩
abbrev cX9_seen : ByteArray := prog_11_method_88_code
def yX9_seen : MethodName := ⟨RX9, "seen", "(II)I"⟩
abbrev cX9_drawBelow : ByteArray := prog_11_method_89_code
def yX9_drawBelow : MethodName := ⟨RX9, "drawBelow", "(I)I"⟩
abbrev cX9_among : ByteArray := prog_11_method_90_code
def yX9_among : MethodName := ⟨RX9, "among", "(II)I"⟩
abbrev cX9_night : ByteArray := prog_11_method_91_code
def yX9_night : MethodName := ⟨RX9, "night", "(I)V"⟩
abbrev cX9_allLines : ByteArray := prog_11_method_92_code
def yX9_allLines : MethodName := ⟨RX9, "allLines", "()I"⟩
abbrev cX9_nights : ByteArray := prog_11_method_93_code
def yX9_nights : MethodName := ⟨RX9, "nights", "(I)I"⟩
abbrev cX9_seed : ByteArray := prog_11_method_94_code
def yX9_seed : MethodName := ⟨RX9, "seed", "(I)I"⟩
abbrev cX9_image : ByteArray := prog_11_method_95_code
def yX9_image : MethodName := ⟨RX9, "image", "()I"⟩
abbrev cX9_back : ByteArray := prog_11_method_96_code
def yX9_back : MethodName := ⟨RX9, "back", "()I"⟩
abbrev cX9_status : ByteArray := prog_11_method_97_code
def yX9_status : MethodName := ⟨RX9, "status", "(I)I"⟩
def RJx145de : String := "java/io/Serializable"
def RJx9f9b0 : String := "java/lang/CharSequence"
def RJxb160c : String := "java/lang/Comparable"
def RJ6 : String := "java/lang/Integer"
abbrev cJ6_numberOfTrailingZeros_0f7a4 : ByteArray := prog_12_method_48_code
def yJ6_numberOfTrailingZeros_0f7a4 : MethodName := ⟨RJ6, "numberOfTrailingZeros", "(I)I"⟩
abbrev cJ6_bitCount_0f7a4 : ByteArray := prog_12_method_49_code
def yJ6_bitCount_0f7a4 : MethodName := ⟨RJ6, "bitCount", "(I)I"⟩
def RJ9 : String := "java/lang/Math"
abbrev cJ9_abs_0f7a4 : ByteArray := prog_13_method_59_code
def yJ9_abs_0f7a4 : MethodName := ⟨RJ9, "abs", "(I)I"⟩
abbrev cJ9_max_7cf53 : ByteArray := prog_13_method_65_code
def yJ9_max_7cf53 : MethodName := ⟨RJ9, "max", "(II)I"⟩
abbrev cJ9_max_f86c9 : ByteArray := prog_13_method_66_code
def yJ9_max_f86c9 : MethodName := ⟨RJ9, "max", "(JJ)J"⟩
abbrev cJ9_min_7cf53 : ByteArray := prog_13_method_69_code
def yJ9_min_7cf53 : MethodName := ⟨RJ9, "min", "(II)I"⟩
abbrev cJ9_min_f86c9 : ByteArray := prog_13_method_70_code
def yJ9_min_f86c9 : MethodName := ⟨RJ9, "min", "(JJ)J"⟩
def RJ0 : String := "java/lang/String"
abbrev cJ0_length_8abf5 : ByteArray := prog_14_method_54_code
def yJ0_length_8abf5 : MethodName := ⟨RJ0, "length", "()I"⟩
abbrev cJ0_charAt_5068e : ByteArray := prog_14_method_56_code
def yJ0_charAt_5068e : MethodName := ⟨RJ0, "charAt", "(I)C"⟩
abbrev cJ0_coder_7d493 : ByteArray := prog_14_method_152_code
def yJ0_coder_7d493 : MethodName := ⟨RJ0, "coder", "()B"⟩
abbrev cJ0_isLatin1_aae02 : ByteArray := prog_14_method_154_code
def yJ0_isLatin1_aae02 : MethodName := ⟨RJ0, "isLatin1", "()Z"⟩
abbrev cJ0_checkIndex_df160 : ByteArray := prog_14_method_155_code
def yJ0_checkIndex_df160 : MethodName := ⟨RJ0, "checkIndex", "(II)V"⟩
def RJ1 : String := "java/lang/StringLatin1"
abbrev cJ1_charAt_3b067 : ByteArray := prog_15_method_2_code
def yJ1_charAt_3b067 : MethodName := ⟨RJ1, "charAt", "([BI)C"⟩
def RJ2 : String := "java/lang/StringUTF16"
abbrev cJ2_getChar_3b067 : ByteArray := prog_16_method_5_code
def yJ2_getChar_3b067 : MethodName := ⟨RJ2, "getChar", "([BI)C"⟩
abbrev cJ2_length_9d52b : ByteArray := prog_16_method_6_code
def yJ2_length_9d52b : MethodName := ⟨RJ2, "length", "([B)I"⟩
abbrev cJ2_charAt_3b067 : ByteArray := prog_16_method_83_code
def yJ2_charAt_3b067 : MethodName := ⟨RJ2, "charAt", "([BI)C"⟩
abbrev cJ2_checkIndex_2214a : ByteArray := prog_16_method_91_code
def yJ2_checkIndex_2214a : MethodName := ⟨RJ2, "checkIndex", "(I[B)V"⟩
def RJ10 : String := "java/lang/System"
def RJxfd54e : String := "java/lang/constant/Constable"
def RJx3cf43 : String := "java/lang/constant/ConstantDesc"
def RJ7 : String := "java/util/Arrays"
abbrev cJ7_fill_d0a16 : ByteArray := prog_18_method_101_code
def yJ7_fill_d0a16 : MethodName := ⟨RJ7, "fill", "([JJ)V"⟩
abbrev cJ7_fill_53178 : ByteArray := prog_18_method_103_code
def yJ7_fill_53178 : MethodName := ⟨RJ7, "fill", "([II)V"⟩
def RJ3 : String := "jdk/internal/util/Preconditions"
abbrev cJ3_checkIndex_8e157 : ByteArray := prog_19_method_11_code
def yJ3_checkIndex_8e157 : MethodName := ⟨RJ3, "checkIndex", "(IILjava/util/function/BiFunction;)I"⟩
def RL : String := "ConstellationsByLotLaw"
abbrev cL_law : ByteArray := code
def yL_law : MethodName := ⟨RL, "law", "([I)Z"⟩
abbrev vwCl : List vw_C := [(RX0, TX0, 2), (RX1, TX1, 9), (RX2, TX2, 6), (RX3, TX3, 8), (RX4, TX4, 3), (RX6, TX6, 7), (RX7, TX7, 5), (RX8, TX8, 12), (RX9, TX9, 24)]
end
section
/-! THE SMALL MACHINE: values, locals, memory. A reference is a pair (kind of cell, number among its kind); the memory holds numbers alone. -/
abbrev AV : Type := Int32 ⊕ Int64 ⊕ (Nat × Nat)
abbrev AL : Type := List (Option AV)
abbrev AS : Type := List AV
abbrev Mem : Type := (Nat → Nat → Nat → Int32) × (Nat → Nat → Nat → Int64)
abbrev IN : Type := Nat × Nat × Nat × AV × Nat
abbrev RR : Type := Option (Option AV × Mem)
abbrev vi (x : Int32) : AV := Sum.inl x
abbrev vl (x : Int64) : AV := Sum.inr (Sum.inl x)
abbrev vr (t i : Nat) : AV := Sum.inr (Sum.inr (t, i))
def mset {α : Type} (f : Nat → Nat → Nat → α) (t i k : Nat) (x : α) : Nat → Nat → Nat → α := fun t' i' k' => if t' = t ∧ i' = i ∧ k' = k then x else f t' i' k'
def mcpy {α : Type} (f : Nat → Nat → Nat → α) (t i sp t2 i2 dp n : Nat) : Nat → Nat → Nat → α := fun t' i' k' => if t' = t2 ∧ i' = i2 ∧ dp ≤ k' ∧ k' < dp + n then f t i (sp + (k' - dp)) else f t' i' k'
def lget : AL → Nat → Option AV
  | [], _ => none
  | a :: _, 0 => a
  | _ :: l, n + 1 => lget l n
def lset : AL → Nat → Option AV → AL
  | [], _, _ => []
  | _ :: l, 0, x => x :: l
  | a :: l, n + 1, x => a :: lset l n x
def isL : Option AV → Bool
  | some (.inr (.inl _)) => true
  | _ => false
/-- a long whose second half is about to be overwritten is gone -/
def kil (L : AL) : Nat → AL
  | 0 => L
  | n + 1 => bif isL (lget L n) then lset L n none else L
def sto1 (L : AL) (a : Nat) (v : AV) : AL := lset (kil L a) a (some v)
def sto2 (L : AL) (a : Nat) (v : AV) : AL := lset (lset (kil L a) a (some v)) (a + 1) none
def takA : Nat → AS → List AV → Option (List AV × AS)
  | 0, S, acc => some (acc, S)
  | _ + 1, [], _ => none
  | n + 1, v :: S, acc => takA n S (v :: acc)
def ctg : AV → Nat
  | .inr (.inl _) => 2
  | _ => 1
def csum : AS → Nat
  | [] => 0
  | v :: S => ctg v + csum S
def entL : List AV → AL
  | [] => []
  | .inr (.inl x) :: r => some (.inr (.inl x)) :: none :: entL r
  | .inl x :: r => some (.inl x) :: entL r
  | .inr (.inr x) :: r => some (.inr (.inr x)) :: entL r
def padL : Nat → AL → AL
  | 0, l => l
  | n + 1, [] => none :: padL n []
  | n + 1, a :: l => a :: padL n l
def nth {α : Type} : List α → Nat → Option α
  | [], _ => none
  | a :: _, 0 => some a
  | _ :: l, n + 1 => nth l n
def lkp : List (Nat × IN) → Nat → Option IN
  | [], _ => none
  | (k, e) :: l, n => bif Nat.beq k n then some e else lkp l n
/-- the first k locals alone -/
def trn : Nat → AL → AL
  | _, [] => []
  | 0, _ :: l => none :: trn 0 l
  | n + 1, a :: l => a :: trn n l
def trk : Nat → AL → AL
  | 0, L => L
  | k + 1, L => trn k L
def kd : AV → Nat
  | .inl _ => 0
  | .inr (.inl _) => 2
  | .inr (.inr _) => 1
end
section
/-- ConstellationsByLot$Bonds.find -/
def ic_0 : List (List (Nat × IN)) := [[(0, 1, 0, 0, .inl 0, 1), (1, 7, 2, 4, .inl 0, 2), (2, 0, 2, 0, .inl 0, 3), (3, 0, 1, 1, .inl 0, 4), (4, 2, 5, 4, .inl 0, 7), (7, 9, 3, 90, .inl 0, 10), (10, 0, 0, 1, .inl 0, 11), (11, 2, 0, 0, .inl 0, 14), (14, 0, 2, 0, .inl 0, 15), (15, 1, 0, 0, .inl 0, 16), (16, 14, 1, 0, .inl 0, 17), (17, 1, 0, 0, .inl 0, 18), (18, 7, 3, 5, .inl 0, 19), (19, 0, 3, 0, .inl 0, 20), (20, 0, 1, 1, .inl 0, 21), (21, 2, 5, 4, .inl 0, 24), (24, 9, 3, 84, .inl 0, 27), (27, 0, 1, 1, .inl 0, 28), (28, 2, 5, 2, .inl 0, 31), (31, 0, 2, 0, .inl 0, 32)],
  [(32, 16, 0, 0, .inl 0, 33), (33, 2, 2, 4, .inl 0, 36), (36, 0, 1, 1, .inl 0, 37), (37, 2, 5, 2, .inl 0, 40), (40, 0, 3, 0, .inl 0, 41), (41, 16, 0, 0, .inl 0, 42), (42, 2, 2, 4, .inl 0, 45), (45, 8, 3, 0, .inl 0, 46), (46, 10, 0, 53, .inl 0, 49), (49, 1, 0, 0, .inl 1, 50), (50, 6, 0, 54, .inl 0, 53), (53, 1, 0, 0, .inl 0, 54), (54, 7, 4, 0, .inl 0, 56), (56, 0, 2, 0, .inl 0, 57), (57, 0, 3, 0, .inl 0, 58), (58, 9, 0, 78, .inl 0, 61), (61, 0, 4, 0, .inl 0, 63), (63, 10, 0, 78, .inl 0, 66)],
  [(66, 0, 0, 1, .inl 0, 67), (67, 2, 0, 0, .inl 0, 70), (70, 0, 2, 0, .inl 0, 71), (71, 24, 0, 0, .inl 0, 72), (72, 5, 1, 0, .inl 0, 73), (73, 1, 0, 0, .inl 1, 74), (74, 0, 3, 0, .inl 0, 75), (75, 8, 6, 0, .inl 0, 76), (76, 8, 4, 0, .inl 0, 77), (77, 14, 1, 0, .inl 0, 78), (78, 12, 3, 0, .inl 1, 81), (81, 6, 5, 19, .inl 0, 84), (84, 12, 2, 0, .inl 1, 87), (87, 6, 4, 2, .inl 0, 90), (90, 4, 0, 0, .inl 0, 91)]]
/-- ConstellationsByLot$Bonds.fewestColours -/
def ic_1 : List (List (Nat × IN)) := [[(0, 0, 0, 1, .inl 0, 1), (1, 0, 1, 1, .inl 0, 2), (2, 3, 2, 0, .inl 0, 5), (5, 1, 0, 0, .inl 1, 6), (6, 0, 1, 1, .inl 0, 7), (7, 2, 5, 4, .inl 0, 10), (10, 8, 6, 0, .inl 0, 11), (11, 1, 0, 0, .inl 1, 12), (12, 8, 1, 0, .inl 0, 13), (13, 7, 2, 0, .inl 0, 14), (14, 0, 0, 1, .inl 0, 15), (15, 2, 0, 1, .inl 0, 18), (18, 1, 0, 0, .inl 0, 19), (19, 1, 0, 0, .inl 0, 20), (20, 14, 1, 0, .inl 0, 21), (21, 1, 0, 0, .inl 1, 22), (22, 7, 3, 5, .inl 0, 23), (23, 0, 3, 0, .inl 0, 24), (24, 0, 2, 0, .inl 0, 25), (25, 9, 4, 103, .inl 0, 28), (28, 0, 0, 1, .inl 0, 29), (29, 2, 0, 1, .inl 0, 32)],
  [(32, 0, 3, 0, .inl 0, 33), (33, 1, 0, 0, .inl 6, 35), (35, 14, 1, 0, .inl 0, 36), (36, 1, 0, 0, .inl 1, 37), (37, 7, 4, 6, .inl 0, 39), (39, 0, 4, 0, .inl 0, 41), (41, 0, 3, 0, .inl 0, 42), (42, 9, 4, 97, .inl 0, 45), (45, 0, 4, 0, .inl 0, 47), (47, 0, 3, 0, .inl 0, 48), (48, 1, 0, 0, .inl (-1), 49), (49, 8, 5, 0, .inl 0, 50), (50, 8, 3, 0, .inl 0, 51), (51, 10, 1, 91, .inl 0, 54), (54, 0, 0, 1, .inl 0, 55), (55, 0, 4, 0, .inl 0, 57), (57, 3, 2, 2, .inl 0, 60), (60, 10, 0, 91, .inl 0, 63), (63, 0, 0, 1, .inl 0, 64)],
  [(64, 2, 0, 1, .inl 0, 67), (67, 0, 3, 0, .inl 0, 68), (68, 0, 0, 1, .inl 0, 69), (69, 2, 0, 1, .inl 0, 72), (72, 0, 3, 0, .inl 0, 73), (73, 5, 1, 0, .inl 0, 74), (74, 0, 0, 1, .inl 0, 75), (75, 2, 0, 1, .inl 0, 78), (78, 0, 3, 0, .inl 0, 79), (79, 0, 4, 0, .inl 0, 81), (81, 1, 0, 0, .inl (-1), 82), (82, 8, 5, 0, .inl 0, 83), (83, 8, 3, 0, .inl 0, 84), (84, 5, 1, 0, .inl 0, 85), (85, 1, 0, 0, .inl 1, 86), (86, 8, 0, 0, .inl 0, 87), (87, 33, 1, 0, .inl 0, 90), (90, 14, 1, 0, .inl 0, 91), (91, 12, 4, 0, .inl 1, 94), (94, 6, 6, 39, .inl 0, 97)],
  [(97, 12, 3, 0, .inl 1, 100), (100, 6, 5, 23, .inl 0, 103), (103, 0, 0, 1, .inl 0, 104), (104, 2, 0, 1, .inl 0, 107), (107, 0, 2, 0, .inl 0, 108), (108, 5, 1, 0, .inl 0, 109), (109, 4, 1, 0, .inl 0, 110)]]
/-- ConstellationsByLot$Bonds.hasNoBonds -/
def ic_2 : List (List (Nat × IN)) := [[(0, 1, 0, 0, .inl 0, 1), (1, 7, 2, 4, .inl 0, 2), (2, 0, 2, 0, .inl 0, 3), (3, 1, 0, 0, .inl 6, 5), (5, 9, 3, 35, .inl 0, 8), (8, 0, 1, 0, .inl 0, 9), (9, 0, 2, 0, .inl 0, 10), (10, 8, 7, 0, .inl 0, 11), (11, 1, 0, 0, .inl 1, 12), (12, 8, 3, 0, .inl 0, 13), (13, 10, 0, 29, .inl 0, 16), (16, 0, 0, 1, .inl 0, 17), (17, 2, 0, 0, .inl 0, 20), (20, 0, 2, 0, .inl 0, 21), (21, 5, 1, 0, .inl 0, 22), (22, 0, 1, 0, .inl 0, 23), (23, 8, 3, 0, .inl 0, 24), (24, 10, 0, 29, .inl 0, 27), (27, 1, 0, 0, .inl 0, 28), (28, 4, 3, 0, .inl 0, 29), (29, 12, 2, 0, .inl 1, 32)],
  [(32, 6, 4, 2, .inl 0, 35), (35, 1, 0, 0, .inl 1, 36), (36, 4, 3, 0, .inl 0, 37)]]
/-- ConstellationsByLot$Bonds.steps -/
def ic_3 : List (List (Nat × IN)) := [[(0, 0, 0, 1, .inl 0, 1), (1, 0, 1, 1, .inl 0, 2), (2, 3, 2, 0, .inl 0, 5), (5, 1, 0, 0, .inl 1, 6), (6, 0, 2, 0, .inl 0, 7), (7, 8, 6, 0, .inl 0, 8), (8, 7, 4, 0, .inl 0, 10), (10, 1, 0, 0, .inl 0, 11), (11, 7, 5, 7, .inl 0, 13), (13, 0, 5, 0, .inl 0, 15), (15, 1, 0, 0, .inl 6, 17), (17, 9, 3, 49, .inl 0, 20), (20, 0, 4, 0, .inl 0, 22), (22, 0, 3, 0, .inl 0, 23), (23, 8, 7, 0, .inl 0, 24), (24, 1, 0, 0, .inl 1, 25), (25, 8, 3, 0, .inl 0, 26), (26, 10, 0, 32, .inl 0, 29), (29, 0, 5, 0, .inl 0, 31), (31, 4, 1, 0, .inl 0, 32)],
  [(32, 0, 4, 0, .inl 0, 34), (34, 0, 0, 1, .inl 0, 35), (35, 0, 4, 0, .inl 0, 37), (37, 3, 2, 4, .inl 0, 40), (40, 8, 4, 0, .inl 0, 41), (41, 7, 4, 0, .inl 0, 43), (43, 12, 5, 0, .inl 1, 46), (46, 6, 7, 13, .inl 0, 49), (49, 1, 0, 0, .inl (-1), 50), (50, 4, 1, 0, .inl 0, 51)]]
/-- ConstellationsByLot$Bonds.around -/
def ic_4 : List (List (Nat × IN)) := [[(0, 1, 0, 0, .inl 0, 1), (1, 7, 2, 0, .inl 0, 2), (2, 1, 0, 0, .inl 0, 3), (3, 7, 3, 5, .inl 0, 4), (4, 0, 3, 0, .inl 0, 5), (5, 1, 0, 0, .inl 6, 7), (7, 9, 3, 33, .inl 0, 10), (10, 0, 1, 0, .inl 0, 11), (11, 0, 3, 0, .inl 0, 12), (12, 8, 7, 0, .inl 0, 13), (13, 1, 0, 0, .inl 1, 14), (14, 8, 3, 0, .inl 0, 15), (15, 10, 0, 27, .inl 0, 18), (18, 0, 2, 0, .inl 0, 19), (19, 0, 0, 1, .inl 0, 20), (20, 2, 0, 0, .inl 0, 23), (23, 0, 3, 0, .inl 0, 24), (24, 5, 1, 0, .inl 0, 25), (25, 8, 4, 0, .inl 0, 26), (26, 7, 2, 0, .inl 0, 27), (27, 12, 3, 0, .inl 1, 30), (30, 6, 5, 4, .inl 0, 33)],
  [(33, 0, 2, 0, .inl 0, 34), (34, 4, 1, 0, .inl 0, 35)]]
/-- ConstellationsByLot$Figure.measure -/
def ic_5 : List (List (Nat × IN)) := [[(0, 0, 0, 1, .inl 0, 1), (1, 0, 2, 1, .inl 0, 2), (2, 2, 2, 5, .inl 0, 5), (5, 11, 1, 1, .inl 0, 8), (8, 0, 0, 1, .inl 0, 9), (9, 1, 0, 0, .inl 0, 10), (10, 11, 1, 2, .inl 0, 13), (13, 0, 0, 1, .inl 0, 14), (14, 1, 0, 0, .inl 0, 15), (15, 11, 1, 3, .inl 0, 18), (18, 0, 0, 1, .inl 0, 19), (19, 1, 0, 0, .inl 0, 20), (20, 11, 1, 5, .inl 0, 23), (23, 0, 0, 1, .inl 0, 24), (24, 1, 0, 0, .inl 0, 25), (25, 11, 1, 6, .inl 0, 28), (28, 1, 0, 0, .inl 0, 29), (29, 7, 3, 5, .inl 0, 30), (30, 0, 3, 0, .inl 0, 31), (31, 0, 0, 1, .inl 0, 32)],
  [(32, 2, 1, 1, .inl 0, 35), (35, 9, 3, 127, .inl 0, 38), (38, 0, 1, 1, .inl 0, 39), (39, 0, 2, 1, .inl 0, 40), (40, 2, 2, 0, .inl 0, 43), (43, 0, 3, 0, .inl 0, 44), (44, 5, 1, 0, .inl 0, 45), (45, 0, 2, 1, .inl 0, 46), (46, 2, 2, 1, .inl 0, 49), (49, 0, 3, 0, .inl 0, 50), (50, 5, 1, 0, .inl 0, 51), (51, 3, 3, 49, .inl 0, 54), (54, 7, 4, 0, .inl 0, 56), (56, 0, 0, 1, .inl 0, 57), (57, 2, 1, 0, .inl 0, 60), (60, 0, 3, 0, .inl 0, 61), (61, 0, 2, 1, .inl 0, 62), (62, 0, 3, 0, .inl 0, 63), (63, 3, 2, 16, .inl 0, 66)],
  [(66, 14, 1, 0, .inl 0, 67), (67, 0, 0, 1, .inl 0, 68), (68, 13, 0, 0, .inl 0, 69), (69, 2, 1, 2, .inl 0, 72), (72, 0, 0, 1, .inl 0, 73), (73, 2, 1, 0, .inl 0, 76), (76, 0, 3, 0, .inl 0, 77), (77, 5, 1, 0, .inl 0, 78), (78, 8, 4, 0, .inl 0, 79), (79, 11, 1, 2, .inl 0, 82), (82, 0, 0, 1, .inl 0, 83), (83, 13, 0, 0, .inl 0, 84), (84, 2, 1, 3, .inl 0, 87), (87, 0, 0, 1, .inl 0, 88), (88, 2, 1, 0, .inl 0, 91), (91, 0, 3, 0, .inl 0, 92), (92, 5, 1, 0, .inl 0, 93), (93, 8, 5, 0, .inl 0, 94), (94, 11, 1, 3, .inl 0, 97)],
  [(97, 0, 0, 1, .inl 0, 98), (98, 13, 0, 0, .inl 0, 99), (99, 2, 1, 5, .inl 0, 102), (102, 0, 4, 0, .inl 0, 104), (104, 8, 0, 0, .inl 0, 105), (105, 11, 1, 5, .inl 0, 108), (108, 0, 0, 1, .inl 0, 109), (109, 0, 0, 1, .inl 0, 110), (110, 2, 1, 6, .inl 0, 113), (113, 0, 4, 0, .inl 0, 115), (115, 33, 0, 0, .inl 0, 118), (118, 11, 1, 6, .inl 0, 121), (121, 12, 3, 0, .inl 1, 124), (124, 6, 5, 30, .inl 0, 127), (127, 0, 0, 1, .inl 0, 128)],
  [(128, 0, 1, 1, .inl 0, 129), (129, 0, 0, 1, .inl 0, 130), (130, 2, 1, 2, .inl 0, 133), (133, 3, 2, 50, .inl 0, 136), (136, 11, 1, 4, .inl 0, 139), (139, 0, 0, 1, .inl 0, 140), (140, 3, 1, 6, .inl 0, 143), (143, 4, 0, 0, .inl 0, 144)]]
/-- ConstellationsByLot$Figure.countPieces -/
def ic_6 : List (List (Nat × IN)) := [[(0, 0, 0, 1, .inl 0, 1), (1, 2, 1, 2, .inl 0, 4), (4, 7, 1, 0, .inl 0, 5), (5, 0, 0, 1, .inl 0, 6), (6, 1, 0, 0, .inl 0, 7), (7, 11, 1, 7, .inl 0, 10), (10, 0, 0, 1, .inl 0, 11), (11, 1, 0, 0, .inl 0, 12), (12, 11, 1, 8, .inl 0, 15), (15, 1, 0, 0, .inl 0, 16), (16, 7, 2, 4, .inl 0, 17), (17, 0, 2, 0, .inl 0, 18), (18, 1, 0, 0, .inl 12, 20), (20, 9, 3, 82, .inl 0, 23), (23, 0, 1, 0, .inl 0, 24), (24, 10, 0, 82, .inl 0, 27), (27, 0, 0, 1, .inl 0, 28), (28, 0, 1, 0, .inl 0, 29), (29, 0, 1, 0, .inl 0, 30), (30, 15, 0, 0, .inl 0, 31), (31, 8, 3, 0, .inl 0, 32)],
  [(32, 3, 2, 7, .inl 0, 35), (35, 7, 3, 0, .inl 0, 36), (36, 0, 0, 1, .inl 0, 37), (37, 13, 0, 0, .inl 0, 38), (38, 2, 1, 7, .inl 0, 41), (41, 1, 0, 0, .inl 1, 42), (42, 8, 0, 0, .inl 0, 43), (43, 11, 1, 7, .inl 0, 46), (46, 0, 0, 1, .inl 0, 47), (47, 13, 0, 0, .inl 0, 48), (48, 2, 1, 8, .inl 0, 51), (51, 1, 0, 0, .inl 1, 52), (52, 0, 0, 1, .inl 0, 53), (53, 2, 1, 3, .inl 0, 56), (56, 0, 3, 0, .inl 0, 57), (57, 8, 3, 0, .inl 0, 58), (58, 3, 1, 224, .inl 0, 61), (61, 1, 0, 0, .inl 2, 62), (62, 19, 0, 0, .inl 0, 63), (63, 33, 0, 0, .inl 0, 66)],
  [(66, 8, 0, 0, .inl 0, 67), (67, 11, 1, 8, .inl 0, 70), (70, 0, 1, 0, .inl 0, 71), (71, 0, 3, 0, .inl 0, 72), (72, 1, 0, 0, .inl (-1), 73), (73, 8, 5, 0, .inl 0, 74), (74, 8, 3, 0, .inl 0, 75), (75, 7, 1, 0, .inl 0, 76), (76, 12, 2, 0, .inl 1, 79), (79, 6, 4, 17, .inl 0, 82), (82, 4, 0, 0, .inl 0, 83)]]
/-- ConstellationsByLot$Figure.pieceAround -/
def ic_7 : List (List (Nat × IN)) := [[(0, 0, 1, 0, .inl 0, 1), (1, 7, 2, 0, .inl 0, 2), (2, 1, 0, 0, .inl 0, 3), (3, 7, 3, 0, .inl 0, 4), (4, 1, 0, 0, .inl 0, 5), (5, 7, 4, 6, .inl 0, 7), (7, 0, 4, 0, .inl 0, 9), (9, 1, 0, 0, .inl 12, 11), (11, 9, 3, 67, .inl 0, 14), (14, 0, 2, 0, .inl 0, 15), (15, 0, 3, 0, .inl 0, 16), (16, 9, 0, 67, .inl 0, 19), (19, 0, 2, 0, .inl 0, 20), (20, 7, 3, 0, .inl 0, 21), (21, 1, 0, 0, .inl 0, 22), (22, 7, 5, 7, .inl 0, 24), (24, 0, 5, 0, .inl 0, 26), (26, 0, 0, 1, .inl 0, 27), (27, 2, 1, 1, .inl 0, 30), (30, 9, 3, 61, .inl 0, 33)],
  [(33, 0, 0, 1, .inl 0, 34), (34, 2, 1, 0, .inl 0, 37), (37, 0, 5, 0, .inl 0, 39), (39, 5, 1, 0, .inl 0, 40), (40, 0, 2, 0, .inl 0, 41), (41, 8, 3, 0, .inl 0, 42), (42, 10, 0, 55, .inl 0, 45), (45, 0, 2, 0, .inl 0, 46), (46, 0, 0, 1, .inl 0, 47), (47, 2, 1, 0, .inl 0, 50), (50, 0, 5, 0, .inl 0, 52), (52, 5, 1, 0, .inl 0, 53), (53, 8, 4, 0, .inl 0, 54), (54, 7, 2, 0, .inl 0, 55), (55, 12, 5, 0, .inl 1, 58), (58, 6, 7, 24, .inl 0, 61), (61, 12, 4, 0, .inl 1, 64)],
  [(64, 6, 6, 7, .inl 0, 67), (67, 0, 2, 0, .inl 0, 68), (68, 4, 1, 0, .inl 0, 69)]]
/-- ConstellationsByLot$Figure.isClosed -/
def ic_8 : List (List (Nat × IN)) := [[(0, 0, 0, 1, .inl 0, 1), (1, 2, 1, 1, .inl 0, 4), (4, 10, 5, 18, .inl 0, 7), (7, 0, 0, 1, .inl 0, 8), (8, 2, 1, 3, .inl 0, 11), (11, 10, 1, 18, .inl 0, 14), (14, 1, 0, 0, .inl 1, 15), (15, 6, 0, 19, .inl 0, 18), (18, 1, 0, 0, .inl 0, 19), (19, 4, 3, 0, .inl 0, 20)]]
/-- ConstellationsByLot$Figure.worthTo -/
def ic_9 : List (List (Nat × IN)) := [[(0, 0, 0, 1, .inl 0, 1), (1, 2, 1, 4, .inl 0, 4), (4, 0, 0, 1, .inl 0, 5), (5, 2, 1, 1, .inl 0, 8), (8, 8, 0, 0, .inl 0, 9), (9, 7, 3, 0, .inl 0, 10), (10, 0, 1, 0, .inl 0, 11), (11, 28, 0, 100, .inl 0, 44)],
  [(44, 0, 3, 0, .inl 0, 45), (45, 1, 0, 0, .inl 3, 46), (46, 0, 0, 1, .inl 0, 47), (47, 2, 1, 6, .inl 0, 50), (50, 8, 2, 0, .inl 0, 51), (51, 8, 0, 0, .inl 0, 52), (52, 4, 1, 0, .inl 0, 53), (53, 1, 0, 0, .inl 2, 54), (54, 0, 3, 0, .inl 0, 55), (55, 1, 0, 0, .inl 3, 56), (56, 0, 0, 1, .inl 0, 57), (57, 2, 1, 6, .inl 0, 60), (60, 8, 2, 0, .inl 0, 61), (61, 8, 0, 0, .inl 0, 62), (62, 8, 2, 0, .inl 0, 63), (63, 4, 1, 0, .inl 0, 64)],
  [(64, 0, 0, 1, .inl 0, 65), (65, 0, 3, 0, .inl 0, 66), (66, 3, 2, 10, .inl 0, 69), (69, 4, 1, 0, .inl 0, 70), (70, 1, 0, 0, .inl 0, 71), (71, 0, 0, 1, .inl 0, 72), (72, 0, 3, 0, .inl 0, 73), (73, 3, 2, 10, .inl 0, 76), (76, 0, 0, 1, .inl 0, 77), (77, 2, 1, 5, .inl 0, 80), (80, 8, 1, 0, .inl 0, 81), (81, 33, 0, 0, .inl 0, 84), (84, 4, 1, 0, .inl 0, 85), (85, 0, 0, 1, .inl 0, 86), (86, 3, 1, 8, .inl 0, 89), (89, 10, 0, 98, .inl 0, 92), (92, 0, 3, 0, .inl 0, 93), (93, 0, 2, 0, .inl 0, 94), (94, 8, 0, 0, .inl 0, 95), (95, 6, 0, 99, .inl 0, 98)],
  [(98, 0, 3, 0, .inl 0, 99), (99, 4, 1, 0, .inl 0, 100), (100, 0, 3, 0, .inl 0, 101), (101, 4, 1, 0, .inl 0, 102)]]
/-- ConstellationsByLot$Figure.lessStrokes -/
def ic_10 : List (List (Nat × IN)) := [[(0, 1, 0, 0, .inl 0, 1), (1, 0, 1, 0, .inl 0, 2), (2, 1, 0, 0, .inl 2, 3), (3, 0, 0, 1, .inl 0, 4), (4, 2, 1, 8, .inl 0, 7), (7, 8, 2, 0, .inl 0, 8), (8, 8, 1, 0, .inl 0, 9), (9, 33, 0, 0, .inl 0, 12), (12, 4, 1, 0, .inl 0, 13)]]
/-- ConstellationsByLot$Figure.meritBy -/
def ic_11 : List (List (Nat × IN)) := [[(0, 0, 1, 0, .inl 0, 1), (1, 28, 0, 70, .inl 0, 36)],
  [(36, 0, 0, 1, .inl 0, 37), (37, 0, 2, 1, .inl 0, 38), (38, 2, 2, 2, .inl 0, 41), (41, 0, 2, 1, .inl 0, 42), (42, 2, 2, 3, .inl 0, 45), (45, 3, 3, 9, .inl 0, 48), (48, 4, 1, 0, .inl 0, 49), (49, 0, 0, 1, .inl 0, 50), (50, 2, 1, 4, .inl 0, 53), (53, 4, 1, 0, .inl 0, 54), (54, 0, 0, 1, .inl 0, 55), (55, 2, 1, 1, .inl 0, 58), (58, 4, 1, 0, .inl 0, 59), (59, 0, 0, 1, .inl 0, 60), (60, 2, 1, 6, .inl 0, 63), (63, 4, 1, 0, .inl 0, 64)],
  [(64, 0, 0, 1, .inl 0, 65), (65, 2, 1, 8, .inl 0, 68), (68, 15, 0, 0, .inl 0, 69), (69, 4, 1, 0, .inl 0, 70), (70, 0, 0, 1, .inl 0, 71), (71, 2, 1, 2, .inl 0, 74), (74, 3, 1, 224, .inl 0, 77), (77, 4, 1, 0, .inl 0, 78)]]
/-- ConstellationsByLot$Parish.begin -/
def ic_12 : List (List (Nat × IN)) := [[(0, 0, 0, 1, .inl 0, 1), (1, 0, 1, 0, .inl 0, 2), (2, 11, 2, 2, .inl 0, 5), (5, 0, 0, 1, .inl 0, 6), (6, 0, 2, 0, .inl 0, 7), (7, 11, 2, 3, .inl 0, 10), (10, 0, 0, 1, .inl 0, 11), (11, 1, 0, 0, .inl 0, 12), (12, 11, 2, 4, .inl 0, 15), (15, 0, 0, 1, .inl 0, 16), (16, 1, 0, 0, .inl 0, 17), (17, 11, 2, 5, .inl 0, 20), (20, 4, 0, 0, .inl 0, 21)]]
/-- ConstellationsByLot$Parish.become -/
def ic_13 : List (List (Nat × IN)) := [[(0, 0, 0, 1, .inl 0, 1), (1, 0, 1, 1, .inl 0, 2), (2, 2, 2, 2, .inl 0, 5), (5, 11, 2, 2, .inl 0, 8), (8, 0, 0, 1, .inl 0, 9), (9, 0, 1, 1, .inl 0, 10), (10, 2, 2, 3, .inl 0, 13), (13, 11, 2, 3, .inl 0, 16), (16, 0, 0, 1, .inl 0, 17), (17, 0, 1, 1, .inl 0, 18), (18, 2, 2, 4, .inl 0, 21), (21, 11, 2, 4, .inl 0, 24), (24, 0, 0, 1, .inl 0, 25), (25, 0, 1, 1, .inl 0, 26), (26, 2, 2, 5, .inl 0, 29), (29, 11, 2, 5, .inl 0, 32)],
  [(32, 0, 1, 1, .inl 0, 33), (33, 2, 2, 0, .inl 0, 36), (36, 1, 0, 0, .inl 0, 37), (37, 0, 0, 1, .inl 0, 38), (38, 2, 2, 0, .inl 0, 41), (41, 1, 0, 0, .inl 0, 42), (42, 1, 0, 0, .inl 10, 44), (44, 29, 1, 0, .inl 0, 47), (47, 0, 1, 1, .inl 0, 48), (48, 2, 2, 1, .inl 0, 51), (51, 1, 0, 0, .inl 0, 52), (52, 0, 0, 1, .inl 0, 53), (53, 2, 2, 1, .inl 0, 56), (56, 1, 0, 0, .inl 0, 57), (57, 1, 0, 0, .inl 10, 59), (59, 29, 1, 0, .inl 0, 62), (62, 4, 0, 0, .inl 0, 63)]]
/-- ConstellationsByLot$Parish.wantsAll -/
def ic_14 : List (List (Nat × IN)) := [[(0, 0, 0, 1, .inl 0, 1), (1, 2, 2, 4, .inl 0, 4), (4, 0, 1, 0, .inl 0, 5), (5, 8, 3, 0, .inl 0, 6), (6, 0, 1, 0, .inl 0, 7), (7, 9, 1, 14, .inl 0, 10), (10, 1, 0, 0, .inl 1, 11), (11, 6, 0, 15, .inl 0, 14), (14, 1, 0, 0, .inl 0, 15), (15, 4, 3, 0, .inl 0, 16)]]
/-- ConstellationsByLot$Parish.hasRoom -/
def ic_15 : List (List (Nat × IN)) := [[(0, 0, 0, 1, .inl 0, 1), (1, 2, 2, 5, .inl 0, 4), (4, 1, 0, 0, .inl 10, 6), (6, 9, 3, 13, .inl 0, 9), (9, 1, 0, 0, .inl 1, 10), (10, 6, 0, 14, .inl 0, 13), (13, 1, 0, 0, .inl 0, 14), (14, 4, 3, 0, .inl 0, 15)]]
/-- ConstellationsByLot$Parish.ends -/
def ic_16 : List (List (Nat × IN)) := [[(0, 1, 0, 0, .inl 1, 1), (1, 0, 0, 1, .inl 0, 2), (2, 2, 2, 0, .inl 0, 5), (5, 0, 1, 0, .inl 0, 6), (6, 5, 1, 0, .inl 0, 7), (7, 8, 6, 0, .inl 0, 8), (8, 1, 0, 0, .inl 1, 9), (9, 0, 0, 1, .inl 0, 10), (10, 2, 2, 1, .inl 0, 13), (13, 0, 1, 0, .inl 0, 14), (14, 5, 1, 0, .inl 0, 15), (15, 8, 6, 0, .inl 0, 16), (16, 8, 4, 0, .inl 0, 17), (17, 4, 1, 0, .inl 0, 18)]]
/-- ConstellationsByLot$Parish.find -/
def ic_17 : List (List (Nat × IN)) := [[(0, 1, 0, 0, .inl 0, 1), (1, 7, 2, 4, .inl 0, 2), (2, 0, 2, 0, .inl 0, 3), (3, 0, 0, 1, .inl 0, 4), (4, 2, 2, 5, .inl 0, 7), (7, 9, 3, 27, .inl 0, 10), (10, 0, 0, 1, .inl 0, 11), (11, 0, 2, 0, .inl 0, 12), (12, 3, 2, 16, .inl 0, 15), (15, 0, 1, 0, .inl 0, 16), (16, 9, 1, 21, .inl 0, 19), (19, 0, 2, 0, .inl 0, 20), (20, 4, 1, 0, .inl 0, 21), (21, 12, 2, 0, .inl 1, 24), (24, 6, 4, 2, .inl 0, 27), (27, 1, 0, 0, .inl (-1), 28), (28, 4, 1, 0, .inl 0, 29)]]
/-- ConstellationsByLot$Parish.draw -/
def ic_18 : List (List (Nat × IN)) := [[(0, 0, 0, 1, .inl 0, 1), (1, 3, 1, 15, .inl 0, 4), (4, 10, 0, 37, .inl 0, 7), (7, 0, 0, 1, .inl 0, 8), (8, 2, 2, 0, .inl 0, 11), (11, 0, 0, 1, .inl 0, 12), (12, 2, 2, 5, .inl 0, 15), (15, 0, 1, 0, .inl 0, 16), (16, 14, 1, 0, .inl 0, 17), (17, 0, 0, 1, .inl 0, 18), (18, 2, 2, 1, .inl 0, 21), (21, 0, 0, 1, .inl 0, 22), (22, 2, 2, 5, .inl 0, 25), (25, 0, 2, 0, .inl 0, 26), (26, 14, 1, 0, .inl 0, 27), (27, 0, 0, 1, .inl 0, 28), (28, 13, 0, 0, .inl 0, 29), (29, 2, 2, 5, .inl 0, 32)],
  [(32, 1, 0, 0, .inl 1, 33), (33, 8, 0, 0, .inl 0, 34), (34, 11, 2, 5, .inl 0, 37), (37, 4, 0, 0, .inl 0, 38)]]
/-- ConstellationsByLot$Parish.erase -/
def ic_19 : List (List (Nat × IN)) := [[(0, 0, 1, 0, .inl 0, 1), (1, 10, 2, 63, .inl 0, 4), (4, 0, 1, 0, .inl 0, 5), (5, 0, 0, 1, .inl 0, 6), (6, 2, 2, 5, .inl 0, 9), (9, 9, 3, 63, .inl 0, 12), (12, 0, 0, 1, .inl 0, 13), (13, 2, 2, 5, .inl 0, 16), (16, 0, 1, 0, .inl 0, 17), (17, 8, 1, 0, .inl 0, 18), (18, 1, 0, 0, .inl 1, 19), (19, 8, 1, 0, .inl 0, 20), (20, 7, 2, 0, .inl 0, 21), (21, 0, 0, 1, .inl 0, 22), (22, 2, 2, 0, .inl 0, 25), (25, 0, 1, 0, .inl 0, 26), (26, 1, 0, 0, .inl 1, 27), (27, 8, 0, 0, .inl 0, 28), (28, 0, 0, 1, .inl 0, 29), (29, 2, 2, 0, .inl 0, 32)],
  [(32, 0, 1, 0, .inl 0, 33), (33, 0, 2, 0, .inl 0, 34), (34, 29, 1, 0, .inl 0, 37), (37, 0, 0, 1, .inl 0, 38), (38, 2, 2, 1, .inl 0, 41), (41, 0, 1, 0, .inl 0, 42), (42, 1, 0, 0, .inl 1, 43), (43, 8, 0, 0, .inl 0, 44), (44, 0, 0, 1, .inl 0, 45), (45, 2, 2, 1, .inl 0, 48), (48, 0, 1, 0, .inl 0, 49), (49, 0, 2, 0, .inl 0, 50), (50, 29, 1, 0, .inl 0, 53), (53, 0, 0, 1, .inl 0, 54), (54, 13, 0, 0, .inl 0, 55), (55, 2, 2, 5, .inl 0, 58), (58, 1, 0, 0, .inl 1, 59), (59, 8, 1, 0, .inl 0, 60), (60, 11, 2, 5, .inl 0, 63), (63, 4, 0, 0, .inl 0, 64)]]
/-- ConstellationsByLot$Parish.eraseAt -/
def ic_20 : List (List (Nat × IN)) := [[(0, 0, 0, 1, .inl 0, 1), (1, 2, 2, 5, .inl 0, 4), (4, 7, 2, 0, .inl 0, 5), (5, 0, 2, 0, .inl 0, 6), (6, 1, 0, 0, .inl 1, 7), (7, 8, 1, 0, .inl 0, 8), (8, 7, 3, 5, .inl 0, 9), (9, 0, 3, 0, .inl 0, 10), (10, 10, 2, 34, .inl 0, 13), (13, 0, 0, 1, .inl 0, 14), (14, 0, 3, 0, .inl 0, 15), (15, 3, 2, 16, .inl 0, 18), (18, 0, 1, 0, .inl 0, 19), (19, 8, 3, 0, .inl 0, 20), (20, 10, 0, 28, .inl 0, 23), (23, 0, 0, 1, .inl 0, 24), (24, 0, 3, 0, .inl 0, 25), (25, 3, 2, 19, .inl 0, 28), (28, 12, 3, 0, .inl (-1), 31), (31, 6, 5, 9, .inl 0, 34)],
  [(34, 0, 2, 0, .inl 0, 35), (35, 0, 0, 1, .inl 0, 36), (36, 2, 2, 5, .inl 0, 39), (39, 8, 1, 0, .inl 0, 40), (40, 4, 1, 0, .inl 0, 41)]]
/-- ConstellationsByLot$Parish.lose -/
def ic_21 : List (List (Nat × IN)) := [[(0, 0, 0, 1, .inl 0, 1), (1, 13, 0, 0, .inl 0, 2), (2, 2, 2, 4, .inl 0, 5), (5, 0, 1, 0, .inl 0, 6), (6, 1, 0, 0, .inl (-1), 7), (7, 8, 5, 0, .inl 0, 8), (8, 8, 3, 0, .inl 0, 9), (9, 11, 2, 4, .inl 0, 12), (12, 0, 0, 1, .inl 0, 13), (13, 0, 1, 0, .inl 0, 14), (14, 3, 2, 20, .inl 0, 17), (17, 4, 1, 0, .inl 0, 18)]]
/-- ConstellationsByLot$Sharing.work -/
def ic_22 : List (List (Nat × IN)) := [[(0, 0, 0, 1, .inl 0, 1), (1, 0, 1, 1, .inl 0, 2), (2, 3, 2, 23, .inl 0, 5), (5, 1, 0, 0, .inl 0, 6), (6, 7, 4, 6, .inl 0, 8), (8, 0, 4, 0, .inl 0, 10), (10, 0, 1, 1, .inl 0, 11), (11, 2, 5, 4, .inl 0, 14), (14, 9, 3, 32, .inl 0, 17), (17, 0, 0, 1, .inl 0, 18), (18, 0, 1, 1, .inl 0, 19), (19, 0, 4, 0, .inl 0, 21), (21, 0, 2, 1, .inl 0, 22), (22, 0, 3, 1, .inl 0, 23), (23, 3, 5, 24, .inl 0, 26), (26, 12, 4, 0, .inl 1, 29), (29, 6, 6, 8, .inl 0, 32)],
  [(32, 0, 0, 1, .inl 0, 33), (33, 1, 0, 0, .inl (-1), 34), (34, 11, 3, 3, .inl 0, 37), (37, 1, 0, 0, .inl 1, 38), (38, 7, 4, 0, .inl 0, 40), (40, 1, 0, 0, .inl 0, 41), (41, 7, 5, 7, .inl 0, 43), (43, 0, 5, 0, .inl 0, 45), (45, 1, 0, 0, .inl 7776, 48), (48, 9, 3, 110, .inl 0, 51), (51, 0, 4, 0, .inl 0, 53), (53, 10, 0, 110, .inl 0, 56), (56, 0, 0, 1, .inl 0, 57), (57, 0, 1, 1, .inl 0, 58), (58, 2, 5, 4, .inl 0, 61), (61, 3, 2, 27, .inl 0, 64)],
  [(64, 7, 6, 0, .inl 0, 66), (66, 0, 6, 0, .inl 0, 68), (68, 0, 0, 1, .inl 0, 69), (69, 2, 3, 3, .inl 0, 72), (72, 9, 5, 98, .inl 0, 75), (75, 0, 0, 1, .inl 0, 76), (76, 0, 6, 0, .inl 0, 78), (78, 11, 3, 3, .inl 0, 81), (81, 0, 0, 1, .inl 0, 82), (82, 2, 3, 5, .inl 0, 85), (85, 1, 0, 0, .inl 0, 86), (86, 0, 0, 1, .inl 0, 87), (87, 2, 3, 1, .inl 0, 90), (90, 1, 0, 0, .inl 0, 91), (91, 0, 0, 1, .inl 0, 92), (92, 2, 3, 2, .inl 0, 95), (95, 29, 1, 0, .inl 0, 98)],
  [(98, 0, 0, 1, .inl 0, 99), (99, 3, 1, 28, .inl 0, 102), (102, 7, 4, 0, .inl 0, 104), (104, 12, 5, 0, .inl 1, 107), (107, 6, 7, 43, .inl 0, 110), (110, 4, 0, 0, .inl 0, 111)]]
/-- ConstellationsByLot$Sharing.findPoints -/
def ic_23 : List (List (Nat × IN)) := [[(0, 0, 0, 1, .inl 0, 1), (1, 1, 0, 0, .inl 0, 2), (2, 11, 3, 2, .inl 0, 5), (5, 0, 0, 1, .inl 0, 6), (6, 2, 3, 6, .inl 0, 9), (9, 1, 0, 0, .inl 0, 10), (10, 3, 2, 226, .inl 0, 13), (13, 1, 0, 0, .inl 0, 14), (14, 7, 2, 4, .inl 0, 15), (15, 0, 2, 0, .inl 0, 16), (16, 0, 1, 1, .inl 0, 17), (17, 2, 5, 3, .inl 0, 20), (20, 9, 3, 105, .inl 0, 23), (23, 0, 0, 1, .inl 0, 24), (24, 2, 3, 2, .inl 0, 27), (27, 1, 0, 0, .inl 5, 28), (28, 9, 3, 105, .inl 0, 31), (31, 0, 1, 1, .inl 0, 32)],
  [(32, 0, 2, 0, .inl 0, 33), (33, 3, 2, 52, .inl 0, 36), (36, 10, 0, 99, .inl 0, 39), (39, 0, 0, 1, .inl 0, 40), (40, 2, 3, 0, .inl 0, 43), (43, 0, 0, 1, .inl 0, 44), (44, 2, 3, 2, .inl 0, 47), (47, 0, 2, 0, .inl 0, 48), (48, 14, 1, 0, .inl 0, 49), (49, 0, 0, 1, .inl 0, 50), (50, 2, 3, 4, .inl 0, 53), (53, 0, 0, 1, .inl 0, 54), (54, 2, 3, 2, .inl 0, 57), (57, 0, 1, 1, .inl 0, 58), (58, 0, 2, 0, .inl 0, 59), (59, 3, 2, 51, .inl 0, 62), (62, 14, 1, 0, .inl 0, 63), (63, 0, 0, 1, .inl 0, 64)],
  [(64, 2, 3, 5, .inl 0, 67), (67, 0, 0, 1, .inl 0, 68), (68, 2, 3, 2, .inl 0, 71), (71, 0, 0, 1, .inl 0, 72), (72, 0, 0, 1, .inl 0, 73), (73, 2, 3, 2, .inl 0, 76), (76, 1, 0, 0, .inl 0, 77), (77, 3, 3, 30, .inl 0, 80), (80, 14, 1, 0, .inl 0, 81), (81, 0, 0, 1, .inl 0, 82), (82, 0, 0, 1, .inl 0, 83), (83, 2, 3, 2, .inl 0, 86), (86, 3, 2, 29, .inl 0, 89), (89, 0, 0, 1, .inl 0, 90), (90, 13, 0, 0, .inl 0, 91), (91, 2, 3, 2, .inl 0, 94), (94, 1, 0, 0, .inl 1, 95), (95, 8, 0, 0, .inl 0, 96)],
  [(96, 11, 3, 2, .inl 0, 99), (99, 12, 2, 0, .inl 1, 102), (102, 6, 4, 15, .inl 0, 105), (105, 4, 0, 0, .inl 0, 106)]]
/-- ConstellationsByLot$Sharing.findWorths -/
def ic_24 : List (List (Nat × IN)) := [[(0, 0, 1, 1, .inl 0, 1), (1, 2, 5, 2, .inl 0, 4), (4, 0, 2, 0, .inl 0, 5), (5, 16, 0, 0, .inl 0, 6), (6, 32, 5, 0, .inl 0, 8), (8, 1, 0, 0, .inl 0, 9), (9, 7, 6, 8, .inl 0, 11), (11, 0, 6, 0, .inl 0, 13), (13, 1, 0, 0, .inl 1, 14), (14, 0, 0, 1, .inl 0, 15), (15, 2, 3, 2, .inl 0, 18), (18, 8, 6, 0, .inl 0, 19), (19, 9, 3, 90, .inl 0, 22), (22, 0, 0, 1, .inl 0, 23), (23, 0, 2, 0, .inl 0, 24), (24, 0, 6, 0, .inl 0, 26), (26, 3, 3, 25, .inl 0, 29), (29, 10, 0, 84, .inl 0, 32)],
  [(32, 0, 4, 1, .inl 0, 34), (34, 0, 5, 1, .inl 0, 36), (36, 3, 2, 13, .inl 0, 39), (39, 0, 4, 1, .inl 0, 41), (41, 0, 0, 1, .inl 0, 42), (42, 0, 6, 0, .inl 0, 44), (44, 3, 2, 26, .inl 0, 47), (47, 3, 2, 20, .inl 0, 50), (50, 25, 0, 0, .inl 0, 51), (51, 0, 3, 1, .inl 0, 52), (52, 0, 1, 1, .inl 0, 53), (53, 0, 4, 1, .inl 0, 55), (55, 3, 3, 5, .inl 0, 58), (58, 0, 0, 1, .inl 0, 59), (59, 2, 3, 7, .inl 0, 62), (62, 0, 2, 0, .inl 0, 63), (63, 1, 0, 0, .inl 32, 65)],
  [(65, 8, 2, 0, .inl 0, 66), (66, 0, 6, 0, .inl 0, 68), (68, 8, 0, 0, .inl 0, 69), (69, 0, 3, 1, .inl 0, 70), (70, 0, 5, 1, .inl 0, 72), (72, 2, 2, 2, .inl 0, 75), (75, 0, 5, 1, .inl 0, 77), (77, 2, 2, 3, .inl 0, 80), (80, 3, 3, 9, .inl 0, 83), (83, 14, 1, 0, .inl 0, 84), (84, 12, 6, 0, .inl 1, 87), (87, 6, 8, 11, .inl 0, 90), (90, 4, 0, 0, .inl 0, 91)]]
/-- ConstellationsByLot$Sharing.mayKeep -/
def ic_25 : List (List (Nat × IN)) := [[(0, 1, 0, 0, .inl 0, 1), (1, 7, 3, 5, .inl 0, 2), (2, 0, 3, 0, .inl 0, 3), (3, 0, 0, 1, .inl 0, 4), (4, 2, 3, 2, .inl 0, 7), (7, 9, 3, 39, .inl 0, 10), (10, 0, 2, 0, .inl 0, 11), (11, 0, 3, 0, .inl 0, 12), (12, 8, 7, 0, .inl 0, 13), (13, 1, 0, 0, .inl 1, 14), (14, 8, 3, 0, .inl 0, 15), (15, 10, 0, 33, .inl 0, 18), (18, 0, 0, 1, .inl 0, 19), (19, 2, 3, 4, .inl 0, 22), (22, 0, 3, 0, .inl 0, 23), (23, 5, 1, 0, .inl 0, 24), (24, 0, 1, 0, .inl 0, 25), (25, 8, 7, 0, .inl 0, 26), (26, 1, 0, 0, .inl 1, 27), (27, 8, 3, 0, .inl 0, 28), (28, 10, 1, 33, .inl 0, 31), (31, 1, 0, 0, .inl 0, 32)],
  [(32, 4, 3, 0, .inl 0, 33), (33, 12, 3, 0, .inl 1, 36), (36, 6, 5, 2, .inl 0, 39), (39, 1, 0, 0, .inl 1, 40), (40, 4, 3, 0, .inl 0, 41)]]
/-- ConstellationsByLot$Sharing.pointsBut -/
def ic_26 : List (List (Nat × IN)) := [[(0, 1, 0, 0, .inl 0, 1), (1, 7, 2, 0, .inl 0, 2), (2, 1, 0, 0, .inl 0, 3), (3, 7, 3, 5, .inl 0, 4), (4, 0, 3, 0, .inl 0, 5), (5, 0, 0, 1, .inl 0, 6), (6, 2, 3, 2, .inl 0, 9), (9, 9, 3, 37, .inl 0, 12), (12, 0, 1, 0, .inl 0, 13), (13, 0, 3, 0, .inl 0, 14), (14, 8, 7, 0, .inl 0, 15), (15, 1, 0, 0, .inl 1, 16), (16, 8, 3, 0, .inl 0, 17), (17, 10, 1, 31, .inl 0, 20), (20, 0, 2, 0, .inl 0, 21), (21, 1, 0, 0, .inl 1, 22), (22, 0, 0, 1, .inl 0, 23), (23, 2, 3, 0, .inl 0, 26), (26, 0, 3, 0, .inl 0, 27), (27, 5, 1, 0, .inl 0, 28), (28, 8, 6, 0, .inl 0, 29), (29, 8, 4, 0, .inl 0, 30), (30, 7, 2, 0, .inl 0, 31), (31, 12, 3, 0, .inl 1, 34)],
  [(34, 6, 5, 4, .inl 0, 37), (37, 0, 2, 0, .inl 0, 38), (38, 4, 1, 0, .inl 0, 39)]]
/-- ConstellationsByLot$Sharing.leastWorth -/
def ic_27 : List (List (Nat × IN)) := [[(0, 1, 0, 0, .inl 2147483647, 2), (2, 7, 2, 0, .inl 0, 3), (3, 1, 0, 0, .inl 0, 4), (4, 7, 3, 5, .inl 0, 5), (5, 0, 3, 0, .inl 0, 6), (6, 0, 1, 0, .inl 0, 7), (7, 9, 3, 45, .inl 0, 10), (10, 0, 2, 0, .inl 0, 11), (11, 0, 0, 1, .inl 0, 12), (12, 2, 3, 3, .inl 0, 15), (15, 9, 5, 45, .inl 0, 18), (18, 0, 2, 0, .inl 0, 19), (19, 0, 0, 1, .inl 0, 20), (20, 2, 3, 7, .inl 0, 23), (23, 0, 3, 0, .inl 0, 24), (24, 1, 0, 0, .inl 32, 26), (26, 8, 2, 0, .inl 0, 27), (27, 0, 0, 1, .inl 0, 28), (28, 2, 3, 6, .inl 0, 31), (31, 0, 3, 0, .inl 0, 32)],
  [(32, 5, 1, 0, .inl 0, 33), (33, 8, 0, 0, .inl 0, 34), (34, 5, 1, 0, .inl 0, 35), (35, 33, 1, 0, .inl 0, 38), (38, 7, 2, 0, .inl 0, 39), (39, 12, 3, 0, .inl 1, 42), (42, 6, 5, 5, .inl 0, 45), (45, 0, 2, 0, .inl 0, 46), (46, 4, 1, 0, .inl 0, 47)]]
/-- ConstellationsByLot$Sharing.nextRow -/
def ic_28 : List (List (Nat × IN)) := [[(0, 0, 0, 1, .inl 0, 1), (1, 2, 3, 2, .inl 0, 4), (4, 1, 0, 0, .inl 1, 5), (5, 8, 1, 0, .inl 0, 6), (6, 7, 1, 3, .inl 0, 7), (7, 0, 1, 0, .inl 0, 8), (8, 10, 2, 79, .inl 0, 11), (11, 0, 0, 1, .inl 0, 12), (12, 0, 1, 0, .inl 0, 13), (13, 3, 2, 29, .inl 0, 16), (16, 0, 0, 1, .inl 0, 17), (17, 0, 1, 0, .inl 0, 18), (18, 0, 0, 1, .inl 0, 19), (19, 2, 3, 5, .inl 0, 22), (22, 0, 1, 0, .inl 0, 23), (23, 5, 1, 0, .inl 0, 24), (24, 1, 0, 0, .inl 1, 25), (25, 8, 0, 0, .inl 0, 26), (26, 3, 3, 30, .inl 0, 29), (29, 7, 2, 0, .inl 0, 30), (30, 0, 2, 0, .inl 0, 31), (31, 1, 0, 0, .inl 6, 33)],
  [(33, 9, 1, 40, .inl 0, 36), (36, 1, 0, 0, .inl 1, 37), (37, 6, 0, 41, .inl 0, 40), (40, 1, 0, 0, .inl 0, 41), (41, 7, 3, 0, .inl 0, 42), (42, 0, 0, 1, .inl 0, 43), (43, 2, 3, 5, .inl 0, 46), (46, 0, 1, 0, .inl 0, 47), (47, 0, 3, 0, .inl 0, 48), (48, 10, 0, 60, .inl 0, 51), (51, 0, 0, 1, .inl 0, 52), (52, 0, 1, 0, .inl 0, 53), (53, 1, 0, 0, .inl 0, 54), (54, 3, 3, 30, .inl 0, 57), (57, 6, 0, 61, .inl 0, 60), (60, 0, 2, 0, .inl 0, 61), (61, 14, 1, 0, .inl 0, 62), (62, 0, 0, 1, .inl 0, 63), (63, 0, 1, 0, .inl 0, 64)],
  [(64, 3, 2, 29, .inl 0, 67), (67, 0, 3, 0, .inl 0, 68), (68, 10, 1, 73, .inl 0, 71), (71, 1, 0, 0, .inl 1, 72), (72, 4, 3, 0, .inl 0, 73), (73, 12, 1, 0, .inl (-1), 76), (76, 6, 3, 7, .inl 0, 79), (79, 1, 0, 0, .inl 0, 80), (80, 4, 3, 0, .inl 0, 81)]]
/-- ConstellationsByLot$Sharing.turnKeep -/
def ic_29 : List (List (Nat × IN)) := [[(0, 0, 0, 1, .inl 0, 1), (1, 2, 3, 5, .inl 0, 4), (4, 0, 1, 0, .inl 0, 5), (5, 5, 1, 0, .inl 0, 6), (6, 1, 0, 0, .inl 6, 8), (8, 9, 3, 28, .inl 0, 11), (11, 0, 0, 1, .inl 0, 12), (12, 2, 3, 6, .inl 0, 15), (15, 0, 0, 1, .inl 0, 16), (16, 2, 3, 5, .inl 0, 19), (19, 0, 1, 0, .inl 0, 20), (20, 5, 1, 0, .inl 0, 21), (21, 24, 0, 0, .inl 0, 22), (22, 5, 1, 0, .inl 0, 23), (23, 1, 0, 0, .inl 1, 24), (24, 0, 1, 0, .inl 0, 25), (25, 8, 6, 0, .inl 0, 26), (26, 8, 5, 0, .inl 0, 27), (27, 14, 1, 0, .inl 0, 28), (28, 4, 0, 0, .inl 0, 29)]]
/-- ConstellationsByLot$Sharing.nextWanter -/
def ic_30 : List (List (Nat × IN)) := [[(0, 0, 2, 0, .inl 0, 1), (1, 7, 3, 5, .inl 0, 2), (2, 0, 3, 0, .inl 0, 3), (3, 1, 0, 0, .inl 6, 5), (5, 9, 3, 27, .inl 0, 8), (8, 0, 0, 1, .inl 0, 9), (9, 2, 3, 4, .inl 0, 12), (12, 0, 1, 0, .inl 0, 13), (13, 5, 1, 0, .inl 0, 14), (14, 0, 3, 0, .inl 0, 15), (15, 8, 7, 0, .inl 0, 16), (16, 1, 0, 0, .inl 1, 17), (17, 8, 3, 0, .inl 0, 18), (18, 10, 1, 27, .inl 0, 21), (21, 12, 3, 0, .inl 1, 24), (24, 6, 5, 2, .inl 0, 27), (27, 0, 3, 0, .inl 0, 28), (28, 4, 1, 0, .inl 0, 29)]]
/-- ConstellationsByLot$Shelf.takeRow -/
def ic_31 : List (List (Nat × IN)) := [[(0, 0, 0, 1, .inl 0, 1), (1, 2, 4, 0, .inl 0, 4), (4, 1, 0, 0, .inr (.inl 0), 5), (5, 3, 2, 225, .inl 0, 8), (8, 0, 0, 1, .inl 0, 9), (9, 0, 1, 0, .inl 0, 10), (10, 11, 4, 1, .inl 0, 13), (13, 0, 0, 1, .inl 0, 14), (14, 0, 2, 0, .inl 0, 15), (15, 11, 4, 2, .inl 0, 18), (18, 4, 0, 0, .inl 0, 19)]]
/-- ConstellationsByLot$Shelf.holdsParish -/
def ic_32 : List (List (Nat × IN)) := [[(0, 0, 0, 1, .inl 0, 1), (1, 2, 4, 1, .inl 0, 4), (4, 1, 0, 0, .inl 10, 6), (6, 9, 2, 13, .inl 0, 9), (9, 1, 0, 0, .inl 1, 10), (10, 6, 0, 14, .inl 0, 13), (13, 1, 0, 0, .inl 0, 14), (14, 4, 3, 0, .inl 0, 15)]]
/-- ConstellationsByLot$Shelf.refusalAsRow -/
def ic_33 : List (List (Nat × IN)) := [[(0, 0, 0, 1, .inl 0, 1), (1, 3, 1, 32, .inl 0, 4), (4, 10, 0, 10, .inl 0, 7), (7, 1, 0, 0, .inl (-3), 9), (9, 4, 1, 0, .inl 0, 10), (10, 0, 0, 1, .inl 0, 11), (11, 2, 4, 1, .inl 0, 14), (14, 1, 0, 0, .inl (-1), 15), (15, 9, 1, 23, .inl 0, 18), (18, 1, 0, 0, .inl (-4), 20), (20, 6, 0, 24, .inl 0, 23), (23, 1, 0, 0, .inl 0, 24), (24, 4, 1, 0, .inl 0, 25)]]
/-- ConstellationsByLot$Shelf.hasElement -/
def ic_34 : List (List (Nat × IN)) := [[(0, 0, 0, 1, .inl 0, 1), (1, 3, 1, 33, .inl 0, 4), (4, 10, 1, 23, .inl 0, 7), (7, 0, 1, 0, .inl 0, 8), (8, 10, 2, 23, .inl 0, 11), (11, 0, 1, 0, .inl 0, 12), (12, 0, 0, 1, .inl 0, 13), (13, 2, 4, 2, .inl 0, 16), (16, 9, 3, 23, .inl 0, 19), (19, 1, 0, 0, .inl 1, 20), (20, 6, 0, 24, .inl 0, 23), (23, 1, 0, 0, .inl 0, 24), (24, 4, 3, 0, .inl 0, 25)]]
/-- ConstellationsByLot$Shelf.hasSpan -/
def ic_35 : List (List (Nat × IN)) := [[(0, 0, 1, 0, .inl 0, 1), (1, 10, 2, 22, .inl 0, 4), (4, 0, 2, 0, .inl 0, 5), (5, 10, 2, 22, .inl 0, 8), (8, 0, 1, 0, .inl 0, 9), (9, 0, 0, 1, .inl 0, 10), (10, 2, 4, 2, .inl 0, 13), (13, 0, 2, 0, .inl 0, 14), (14, 8, 1, 0, .inl 0, 15), (15, 9, 4, 22, .inl 0, 18), (18, 1, 0, 0, .inl 1, 19), (19, 6, 0, 23, .inl 0, 22), (22, 1, 0, 0, .inl 0, 23), (23, 4, 3, 0, .inl 0, 24)]]
/-- ConstellationsByLot$Shelf.put -/
def ic_36 : List (List (Nat × IN)) := [[(0, 0, 0, 1, .inl 0, 1), (1, 2, 4, 1, .inl 0, 4), (4, 28, 0, 84, .inl 0, 36)],
  [(36, 0, 0, 1, .inl 0, 37), (37, 2, 4, 0, .inl 0, 40), (40, 0, 1, 0, .inl 0, 41), (41, 0, 2, 2, .inl 0, 42), (42, 15, 2, 0, .inl 0, 43), (43, 15, 3, 0, .inl 0, 44), (44, 15, 1, 0, .inl 0, 45), (45, 22, 0, 0, .inl 0, 46), (46, 6, 0, 101, .inl 0, 49), (49, 0, 0, 1, .inl 0, 50), (50, 2, 4, 0, .inl 0, 53), (53, 0, 1, 0, .inl 0, 54), (54, 0, 2, 2, .inl 0, 55), (55, 15, 2, 0, .inl 0, 56), (56, 15, 4, 0, .inl 0, 57), (57, 15, 1, 0, .inl 0, 58), (58, 22, 0, 0, .inl 0, 59), (59, 6, 0, 101, .inl 0, 62), (62, 0, 0, 1, .inl 0, 63), (63, 2, 4, 0, .inl 0, 66)],
  [(66, 0, 1, 0, .inl 0, 67), (67, 0, 2, 2, .inl 0, 68), (68, 15, 2, 0, .inl 0, 69), (69, 15, 1, 0, .inl 0, 70), (70, 22, 0, 0, .inl 0, 71), (71, 6, 0, 101, .inl 0, 74), (74, 0, 0, 1, .inl 0, 75), (75, 2, 4, 0, .inl 0, 78), (78, 0, 1, 0, .inl 0, 79), (79, 0, 2, 2, .inl 0, 80), (80, 22, 0, 0, .inl 0, 81), (81, 6, 0, 101, .inl 0, 84), (84, 0, 0, 1, .inl 0, 85), (85, 2, 4, 0, .inl 0, 88), (88, 0, 1, 0, .inl 0, 89), (89, 0, 2, 2, .inl 0, 90), (90, 1, 0, 0, .inr (.inl 0), 91), (91, 18, 0, 0, .inl 0, 92), (92, 10, 0, 99, .inl 0, 95), (95, 1, 0, 0, .inr (.inl 1), 96)],
  [(96, 6, 0, 100, .inl 0, 99), (99, 1, 0, 0, .inr (.inl 0), 100), (100, 22, 0, 0, .inl 0, 101), (101, 4, 0, 0, .inl 0, 102)]]
/-- ConstellationsByLot$Shift.between -/
def ic_37 : List (List (Nat × IN)) := [[(0, 0, 1, 1, .inl 0, 1), (1, 2, 2, 5, .inl 0, 4), (4, 10, 0, 14, .inl 0, 7), (7, 0, 2, 1, .inl 0, 8), (8, 2, 2, 5, .inl 0, 11), (11, 10, 1, 16, .inl 0, 14), (14, 1, 0, 0, .inl (-1), 15), (15, 4, 1, 0, .inl 0, 16), (16, 0, 0, 1, .inl 0, 17), (17, 0, 2, 1, .inl 0, 18), (18, 3, 2, 38, .inl 0, 21), (21, 0, 0, 1, .inl 0, 22), (22, 0, 1, 1, .inl 0, 23), (23, 3, 2, 38, .inl 0, 26), (26, 8, 1, 0, .inl 0, 27), (27, 7, 3, 0, .inl 0, 28), (28, 0, 0, 1, .inl 0, 29), (29, 0, 2, 1, .inl 0, 30), (30, 3, 2, 39, .inl 0, 33)],
  [(33, 0, 0, 1, .inl 0, 34), (34, 0, 1, 1, .inl 0, 35), (35, 3, 2, 39, .inl 0, 38), (38, 8, 1, 0, .inl 0, 39), (39, 7, 4, 0, .inl 0, 41), (41, 0, 0, 1, .inl 0, 42), (42, 0, 1, 1, .inl 0, 43), (43, 0, 2, 1, .inl 0, 44), (44, 0, 3, 0, .inl 0, 45), (45, 0, 4, 0, .inl 0, 47), (47, 3, 5, 40, .inl 0, 50), (50, 10, 0, 71, .inl 0, 53), (53, 0, 0, 1, .inl 0, 54), (54, 0, 2, 1, .inl 0, 55), (55, 0, 1, 1, .inl 0, 56), (56, 0, 3, 0, .inl 0, 57), (57, 15, 0, 0, .inl 0, 58), (58, 0, 4, 0, .inl 0, 60), (60, 15, 0, 0, .inl 0, 61), (61, 3, 5, 40, .inl 0, 64)],
  [(64, 10, 0, 71, .inl 0, 67), (67, 1, 0, 0, .inl 1, 68), (68, 6, 0, 72, .inl 0, 71), (71, 1, 0, 0, .inl 0, 72), (72, 7, 5, 0, .inl 0, 74), (74, 0, 5, 0, .inl 0, 76), (76, 10, 0, 95, .inl 0, 79), (79, 1, 0, 0, .inl 100, 81), (81, 0, 3, 0, .inl 0, 82), (82, 1, 0, 0, .inl 50, 84), (84, 8, 0, 0, .inl 0, 85), (85, 8, 2, 0, .inl 0, 86), (86, 0, 4, 0, .inl 0, 88), (88, 8, 0, 0, .inl 0, 89), (89, 1, 0, 0, .inl 50, 91), (91, 8, 0, 0, .inl 0, 92), (92, 6, 0, 96, .inl 0, 95), (95, 1, 0, 0, .inl (-1), 96)],
  [(96, 4, 1, 0, .inl 0, 97)]]
/-- ConstellationsByLot$Shift.leastRow -/
def ic_38 : List (List (Nat × IN)) := [[(0, 1, 0, 0, .inl 10, 2), (2, 7, 2, 0, .inl 0, 3), (3, 1, 0, 0, .inl 0, 4), (4, 7, 3, 5, .inl 0, 5), (5, 0, 3, 0, .inl 0, 6), (6, 0, 1, 1, .inl 0, 7), (7, 2, 2, 5, .inl 0, 10), (10, 9, 3, 49, .inl 0, 13), (13, 0, 2, 0, .inl 0, 14), (14, 0, 0, 1, .inl 0, 15), (15, 0, 1, 1, .inl 0, 16), (16, 2, 2, 0, .inl 0, 19), (19, 0, 3, 0, .inl 0, 20), (20, 5, 1, 0, .inl 0, 21), (21, 3, 2, 47, .inl 0, 24), (24, 33, 1, 0, .inl 0, 27), (27, 7, 2, 0, .inl 0, 28), (28, 0, 2, 0, .inl 0, 29), (29, 0, 0, 1, .inl 0, 30), (30, 0, 1, 1, .inl 0, 31), (31, 2, 2, 1, .inl 0, 34)],
  [(34, 0, 3, 0, .inl 0, 35), (35, 5, 1, 0, .inl 0, 36), (36, 3, 2, 47, .inl 0, 39), (39, 33, 1, 0, .inl 0, 42), (42, 7, 2, 0, .inl 0, 43), (43, 12, 3, 0, .inl 1, 46), (46, 6, 5, 5, .inl 0, 49), (49, 0, 2, 0, .inl 0, 50), (50, 4, 1, 0, .inl 0, 51)]]
/-- ConstellationsByLot$Shift.leastColumn -/
def ic_39 : List (List (Nat × IN)) := [[(0, 1, 0, 0, .inl 10, 2), (2, 7, 2, 0, .inl 0, 3), (3, 1, 0, 0, .inl 0, 4), (4, 7, 3, 5, .inl 0, 5), (5, 0, 3, 0, .inl 0, 6), (6, 0, 1, 1, .inl 0, 7), (7, 2, 2, 5, .inl 0, 10), (10, 9, 3, 49, .inl 0, 13), (13, 0, 2, 0, .inl 0, 14), (14, 0, 0, 1, .inl 0, 15), (15, 0, 1, 1, .inl 0, 16), (16, 2, 2, 0, .inl 0, 19), (19, 0, 3, 0, .inl 0, 20), (20, 5, 1, 0, .inl 0, 21), (21, 3, 2, 48, .inl 0, 24), (24, 33, 1, 0, .inl 0, 27), (27, 7, 2, 0, .inl 0, 28), (28, 0, 2, 0, .inl 0, 29), (29, 0, 0, 1, .inl 0, 30), (30, 0, 1, 1, .inl 0, 31), (31, 2, 2, 1, .inl 0, 34)],
  [(34, 0, 3, 0, .inl 0, 35), (35, 5, 1, 0, .inl 0, 36), (36, 3, 2, 48, .inl 0, 39), (39, 33, 1, 0, .inl 0, 42), (42, 7, 2, 0, .inl 0, 43), (43, 12, 3, 0, .inl 1, 46), (46, 6, 5, 5, .inl 0, 49), (49, 0, 2, 0, .inl 0, 50), (50, 4, 1, 0, .inl 0, 51)]]
/-- ConstellationsByLot$Shift.isWithin -/
def ic_40 : List (List (Nat × IN)) := [[(0, 1, 0, 0, .inl 0, 1), (1, 7, 5, 7, .inl 0, 3), (3, 0, 5, 0, .inl 0, 5), (5, 0, 1, 1, .inl 0, 6), (6, 2, 2, 5, .inl 0, 9), (9, 9, 3, 150, .inl 0, 12), (12, 0, 1, 1, .inl 0, 13), (13, 2, 2, 0, .inl 0, 16), (16, 0, 5, 0, .inl 0, 18), (18, 5, 1, 0, .inl 0, 19), (19, 7, 6, 0, .inl 0, 21), (21, 0, 1, 1, .inl 0, 22), (22, 2, 2, 1, .inl 0, 25), (25, 0, 5, 0, .inl 0, 27), (27, 5, 1, 0, .inl 0, 28), (28, 7, 7, 0, .inl 0, 30), (30, 1, 0, 0, .inl 0, 31), (31, 7, 8, 0, .inl 0, 33)],
  [(33, 1, 0, 0, .inl 0, 34), (34, 7, 9, 11, .inl 0, 36), (36, 0, 9, 0, .inl 0, 38), (38, 0, 2, 1, .inl 0, 39), (39, 2, 2, 5, .inl 0, 42), (42, 9, 3, 137, .inl 0, 45), (45, 0, 8, 0, .inl 0, 47), (47, 10, 1, 137, .inl 0, 50), (50, 0, 2, 1, .inl 0, 51), (51, 2, 2, 0, .inl 0, 54), (54, 0, 9, 0, .inl 0, 56), (56, 5, 1, 0, .inl 0, 57), (57, 7, 10, 0, .inl 0, 59), (59, 0, 2, 1, .inl 0, 60), (60, 2, 2, 1, .inl 0, 63), (63, 0, 9, 0, .inl 0, 65)],
  [(65, 5, 1, 0, .inl 0, 66), (66, 7, 11, 0, .inl 0, 68), (68, 0, 0, 1, .inl 0, 69), (69, 0, 6, 0, .inl 0, 71), (71, 0, 10, 0, .inl 0, 73), (73, 0, 3, 0, .inl 0, 74), (74, 0, 4, 0, .inl 0, 76), (76, 3, 5, 41, .inl 0, 79), (79, 10, 0, 96, .inl 0, 82), (82, 0, 0, 1, .inl 0, 83), (83, 0, 7, 0, .inl 0, 85), (85, 0, 11, 0, .inl 0, 87), (87, 0, 3, 0, .inl 0, 88), (88, 0, 4, 0, .inl 0, 90), (90, 3, 5, 41, .inl 0, 93), (93, 10, 1, 124, .inl 0, 96)],
  [(96, 0, 0, 1, .inl 0, 97), (97, 0, 6, 0, .inl 0, 99), (99, 0, 11, 0, .inl 0, 101), (101, 0, 3, 0, .inl 0, 102), (102, 0, 4, 0, .inl 0, 104), (104, 3, 5, 41, .inl 0, 107), (107, 10, 0, 128, .inl 0, 110), (110, 0, 0, 1, .inl 0, 111), (111, 0, 7, 0, .inl 0, 113), (113, 0, 10, 0, .inl 0, 115), (115, 0, 3, 0, .inl 0, 116), (116, 0, 4, 0, .inl 0, 118), (118, 3, 5, 41, .inl 0, 121), (121, 10, 0, 128, .inl 0, 124), (124, 1, 0, 0, .inl 1, 125), (125, 6, 0, 129, .inl 0, 128)],
  [(128, 1, 0, 0, .inl 0, 129), (129, 7, 8, 0, .inl 0, 131), (131, 12, 9, 0, .inl 1, 134), (134, 6, 11, 36, .inl 0, 137), (137, 0, 8, 0, .inl 0, 139), (139, 10, 1, 144, .inl 0, 142), (142, 1, 0, 0, .inl 0, 143), (143, 4, 3, 0, .inl 0, 144), (144, 12, 5, 0, .inl 1, 147), (147, 6, 7, 3, .inl 0, 150), (150, 1, 0, 0, .inl 1, 151), (151, 4, 3, 0, .inl 0, 152)]]
/-- ConstellationsByLot$Shift.falls -/
def ic_41 : List (List (Nat × IN)) := [[(0, 0, 0, 1, .inl 0, 1), (1, 0, 1, 0, .inl 0, 2), (2, 3, 2, 47, .inl 0, 5), (5, 0, 3, 0, .inl 0, 6), (6, 8, 0, 0, .inl 0, 7), (7, 0, 0, 1, .inl 0, 8), (8, 0, 2, 0, .inl 0, 9), (9, 3, 2, 47, .inl 0, 12), (12, 9, 1, 35, .inl 0, 15), (15, 0, 0, 1, .inl 0, 16), (16, 0, 1, 0, .inl 0, 17), (17, 3, 2, 48, .inl 0, 20), (20, 0, 4, 0, .inl 0, 22), (22, 8, 0, 0, .inl 0, 23), (23, 0, 0, 1, .inl 0, 24), (24, 0, 2, 0, .inl 0, 25), (25, 3, 2, 48, .inl 0, 28), (28, 9, 1, 35, .inl 0, 31), (31, 1, 0, 0, .inl 1, 32)],
  [(32, 6, 0, 36, .inl 0, 35), (35, 1, 0, 0, .inl 0, 36), (36, 4, 3, 0, .inl 0, 37)]]
/-- ConstellationsByLot$Sky.become -/
def ic_42 : List (List (Nat × IN)) := [[(0, 0, 0, 1, .inl 0, 1), (1, 0, 1, 1, .inl 0, 2), (2, 2, 5, 3, .inl 0, 5), (5, 11, 5, 3, .inl 0, 8), (8, 0, 0, 1, .inl 0, 9), (9, 0, 1, 1, .inl 0, 10), (10, 2, 5, 4, .inl 0, 13), (13, 11, 5, 4, .inl 0, 16), (16, 0, 0, 1, .inl 0, 17), (17, 0, 1, 1, .inl 0, 18), (18, 2, 5, 5, .inl 0, 21), (21, 11, 5, 5, .inl 0, 24), (24, 0, 0, 1, .inl 0, 25), (25, 0, 1, 1, .inl 0, 26), (26, 2, 5, 6, .inl 0, 29), (29, 11, 5, 6, .inl 0, 32)],
  [(32, 0, 1, 1, .inl 0, 33), (33, 2, 5, 0, .inl 0, 36), (36, 1, 0, 0, .inl 0, 37), (37, 0, 0, 1, .inl 0, 38), (38, 2, 5, 0, .inl 0, 41), (41, 1, 0, 0, .inl 0, 42), (42, 1, 0, 0, .inl 12, 44), (44, 29, 1, 0, .inl 0, 47), (47, 0, 1, 1, .inl 0, 48), (48, 2, 5, 1, .inl 0, 51), (51, 1, 0, 0, .inl 0, 52), (52, 0, 0, 1, .inl 0, 53), (53, 2, 5, 1, .inl 0, 56), (56, 1, 0, 0, .inl 0, 57), (57, 1, 0, 0, .inl 12, 59), (59, 29, 1, 0, .inl 0, 62), (62, 1, 0, 0, .inl 0, 63), (63, 7, 2, 4, .inl 0, 64)],
  [(64, 0, 2, 0, .inl 0, 65), (65, 0, 0, 1, .inl 0, 66), (66, 2, 5, 4, .inl 0, 69), (69, 9, 3, 93, .inl 0, 72), (72, 0, 0, 1, .inl 0, 73), (73, 2, 5, 2, .inl 0, 76), (76, 0, 2, 0, .inl 0, 77), (77, 16, 0, 0, .inl 0, 78), (78, 0, 1, 1, .inl 0, 79), (79, 2, 5, 2, .inl 0, 82), (82, 0, 2, 0, .inl 0, 83), (83, 16, 0, 0, .inl 0, 84), (84, 3, 2, 13, .inl 0, 87), (87, 12, 2, 0, .inl 1, 90), (90, 6, 4, 64, .inl 0, 93), (93, 4, 0, 0, .inl 0, 94)]]
/-- ConstellationsByLot$Sky.hasRoomForPoint -/
def ic_43 : List (List (Nat × IN)) := [[(0, 0, 0, 1, .inl 0, 1), (1, 2, 5, 3, .inl 0, 4), (4, 1, 0, 0, .inl 12, 6), (6, 9, 3, 13, .inl 0, 9), (9, 1, 0, 0, .inl 1, 10), (10, 6, 0, 14, .inl 0, 13), (13, 1, 0, 0, .inl 0, 14), (14, 4, 3, 0, .inl 0, 15)]]
/-- ConstellationsByLot$Sky.addPoint -/
def ic_44 : List (List (Nat × IN)) := [[(0, 0, 0, 1, .inl 0, 1), (1, 3, 1, 43, .inl 0, 4), (4, 10, 0, 37, .inl 0, 7), (7, 0, 0, 1, .inl 0, 8), (8, 2, 5, 0, .inl 0, 11), (11, 0, 0, 1, .inl 0, 12), (12, 2, 5, 3, .inl 0, 15), (15, 0, 1, 0, .inl 0, 16), (16, 14, 1, 0, .inl 0, 17), (17, 0, 0, 1, .inl 0, 18), (18, 2, 5, 1, .inl 0, 21), (21, 0, 0, 1, .inl 0, 22), (22, 2, 5, 3, .inl 0, 25), (25, 0, 2, 0, .inl 0, 26), (26, 14, 1, 0, .inl 0, 27), (27, 0, 0, 1, .inl 0, 28), (28, 13, 0, 0, .inl 0, 29), (29, 2, 5, 3, .inl 0, 32)],
  [(32, 1, 0, 0, .inl 1, 33), (33, 8, 0, 0, .inl 0, 34), (34, 11, 5, 3, .inl 0, 37), (37, 4, 0, 0, .inl 0, 38)]]
/-- ConstellationsByLot$Sky.hasRoomForParish -/
def ic_45 : List (List (Nat × IN)) := [[(0, 0, 0, 1, .inl 0, 1), (1, 2, 5, 4, .inl 0, 4), (4, 1, 0, 0, .inl 6, 6), (6, 9, 3, 13, .inl 0, 9), (9, 1, 0, 0, .inl 1, 10), (10, 6, 0, 14, .inl 0, 13), (13, 1, 0, 0, .inl 0, 14), (14, 4, 3, 0, .inl 0, 15)]]
/-- ConstellationsByLot$Sky.addParish -/
def ic_46 : List (List (Nat × IN)) := [[(0, 0, 0, 1, .inl 0, 1), (1, 3, 1, 45, .inl 0, 4), (4, 10, 0, 31, .inl 0, 7), (7, 0, 0, 1, .inl 0, 8), (8, 2, 5, 2, .inl 0, 11), (11, 0, 0, 1, .inl 0, 12), (12, 2, 5, 4, .inl 0, 15), (15, 16, 0, 0, .inl 0, 16), (16, 0, 1, 0, .inl 0, 17), (17, 0, 2, 0, .inl 0, 18), (18, 3, 3, 12, .inl 0, 21), (21, 0, 0, 1, .inl 0, 22), (22, 13, 0, 0, .inl 0, 23), (23, 2, 5, 4, .inl 0, 26), (26, 1, 0, 0, .inl 1, 27), (27, 8, 0, 0, .inl 0, 28), (28, 11, 5, 4, .inl 0, 31), (31, 4, 0, 0, .inl 0, 32)]]
/-- ConstellationsByLot$Sky.rowOf -/
def ic_47 : List (List (Nat × IN)) := [[(0, 0, 0, 1, .inl 0, 1), (1, 2, 5, 0, .inl 0, 4), (4, 0, 1, 0, .inl 0, 5), (5, 5, 1, 0, .inl 0, 6), (6, 1, 0, 0, .inl 10, 8), (8, 19, 0, 0, .inl 0, 9), (9, 4, 1, 0, .inl 0, 10)]]
/-- ConstellationsByLot$Sky.columnOf -/
def ic_48 : List (List (Nat × IN)) := [[(0, 0, 0, 1, .inl 0, 1), (1, 2, 5, 0, .inl 0, 4), (4, 0, 1, 0, .inl 0, 5), (5, 5, 1, 0, .inl 0, 6), (6, 1, 0, 0, .inl 10, 8), (8, 19, 1, 0, .inl 0, 9), (9, 4, 1, 0, .inl 0, 10)]]
/-- ConstellationsByLot$Sky.length -/
def ic_49 : List (List (Nat × IN)) := [[(0, 0, 0, 1, .inl 0, 1), (1, 0, 1, 0, .inl 0, 2), (2, 3, 2, 47, .inl 0, 5), (5, 0, 0, 1, .inl 0, 6), (6, 0, 2, 0, .inl 0, 7), (7, 3, 2, 47, .inl 0, 10), (10, 8, 1, 0, .inl 0, 11), (11, 34, 0, 0, .inl 0, 14), (14, 0, 0, 1, .inl 0, 15), (15, 0, 1, 0, .inl 0, 16), (16, 3, 2, 48, .inl 0, 19), (19, 0, 0, 1, .inl 0, 20), (20, 0, 2, 0, .inl 0, 21), (21, 3, 2, 48, .inl 0, 24), (24, 8, 1, 0, .inl 0, 25), (25, 34, 0, 0, .inl 0, 28), (28, 8, 0, 0, .inl 0, 29), (29, 4, 1, 0, .inl 0, 30)]]
/-- ConstellationsByLot$Sky.lightOf -/
def ic_50 : List (List (Nat × IN)) := [[(0, 1, 0, 0, .inl 0, 1), (1, 7, 2, 0, .inl 0, 2), (2, 1, 0, 0, .inl 0, 3), (3, 7, 3, 5, .inl 0, 4), (4, 0, 3, 0, .inl 0, 5), (5, 0, 0, 1, .inl 0, 6), (6, 2, 5, 3, .inl 0, 9), (9, 9, 3, 35, .inl 0, 12), (12, 0, 1, 0, .inl 0, 13), (13, 0, 3, 0, .inl 0, 14), (14, 8, 7, 0, .inl 0, 15), (15, 1, 0, 0, .inl 1, 16), (16, 8, 3, 0, .inl 0, 17), (17, 10, 0, 29, .inl 0, 20), (20, 0, 2, 0, .inl 0, 21), (21, 0, 0, 1, .inl 0, 22), (22, 2, 5, 1, .inl 0, 25), (25, 0, 3, 0, .inl 0, 26), (26, 5, 1, 0, .inl 0, 27), (27, 8, 0, 0, .inl 0, 28), (28, 7, 2, 0, .inl 0, 29), (29, 12, 3, 0, .inl 1, 32)],
  [(32, 6, 5, 4, .inl 0, 35), (35, 0, 2, 0, .inl 0, 36), (36, 4, 1, 0, .inl 0, 37)]]
/-- ConstellationsByLot$Sky.wantersOf -/
def ic_51 : List (List (Nat × IN)) := [[(0, 1, 0, 0, .inl 0, 1), (1, 7, 2, 0, .inl 0, 2), (2, 1, 0, 0, .inl 0, 3), (3, 7, 3, 5, .inl 0, 4), (4, 0, 3, 0, .inl 0, 5), (5, 0, 0, 1, .inl 0, 6), (6, 2, 5, 4, .inl 0, 9), (9, 9, 3, 39, .inl 0, 12), (12, 0, 0, 1, .inl 0, 13), (13, 2, 5, 2, .inl 0, 16), (16, 0, 3, 0, .inl 0, 17), (17, 16, 0, 0, .inl 0, 18), (18, 1, 0, 0, .inl 1, 19), (19, 0, 1, 0, .inl 0, 20), (20, 8, 6, 0, .inl 0, 21), (21, 3, 2, 14, .inl 0, 24), (24, 10, 0, 33, .inl 0, 27), (27, 0, 2, 0, .inl 0, 28), (28, 1, 0, 0, .inl 1, 29), (29, 0, 3, 0, .inl 0, 30), (30, 8, 6, 0, .inl 0, 31), (31, 8, 4, 0, .inl 0, 32)],
  [(32, 7, 2, 0, .inl 0, 33), (33, 12, 3, 0, .inl 1, 36), (36, 6, 5, 4, .inl 0, 39), (39, 0, 2, 0, .inl 0, 40), (40, 4, 1, 0, .inl 0, 41)]]
/-- ConstellationsByLot$Sky.isShared -/
def ic_52 : List (List (Nat × IN)) := [[(0, 0, 0, 1, .inl 0, 1), (1, 0, 1, 0, .inl 0, 2), (2, 3, 2, 51, .inl 0, 5), (5, 3, 1, 224, .inl 0, 8), (8, 1, 0, 0, .inl 2, 9), (9, 9, 2, 16, .inl 0, 12), (12, 1, 0, 0, .inl 1, 13), (13, 6, 0, 17, .inl 0, 16), (16, 1, 0, 0, .inl 0, 17), (17, 4, 3, 0, .inl 0, 18)]]
/-- ConstellationsByLot$Sky.sharedPoints -/
def ic_53 : List (List (Nat × IN)) := [[(0, 1, 0, 0, .inl 0, 1), (1, 7, 1, 0, .inl 0, 2), (2, 1, 0, 0, .inl 0, 3), (3, 7, 2, 4, .inl 0, 4), (4, 0, 2, 0, .inl 0, 5), (5, 0, 0, 1, .inl 0, 6), (6, 2, 5, 3, .inl 0, 9), (9, 9, 3, 29, .inl 0, 12), (12, 0, 0, 1, .inl 0, 13), (13, 0, 2, 0, .inl 0, 14), (14, 3, 2, 52, .inl 0, 17), (17, 10, 0, 23, .inl 0, 20), (20, 12, 1, 0, .inl 1, 23), (23, 12, 2, 0, .inl 1, 26), (26, 6, 4, 4, .inl 0, 29), (29, 0, 1, 0, .inl 0, 30), (30, 4, 1, 0, .inl 0, 31)]]
/-- ConstellationsByLot$Sky.linesAt -/
def ic_54 : List (List (Nat × IN)) := [[(0, 1, 0, 0, .inl 0, 1), (1, 7, 2, 0, .inl 0, 2), (2, 1, 0, 0, .inl 0, 3), (3, 7, 3, 5, .inl 0, 4), (4, 0, 3, 0, .inl 0, 5), (5, 0, 0, 1, .inl 0, 6), (6, 2, 5, 4, .inl 0, 9), (9, 9, 3, 59, .inl 0, 12), (12, 0, 0, 1, .inl 0, 13), (13, 2, 5, 2, .inl 0, 16), (16, 0, 3, 0, .inl 0, 17), (17, 16, 0, 0, .inl 0, 18), (18, 32, 4, 0, .inl 0, 20), (20, 1, 0, 0, .inl 0, 21), (21, 7, 5, 7, .inl 0, 23), (23, 0, 5, 0, .inl 0, 25), (25, 0, 4, 1, .inl 0, 27), (27, 2, 2, 5, .inl 0, 30), (30, 9, 3, 53, .inl 0, 33)],
  [(33, 0, 2, 0, .inl 0, 34), (34, 0, 4, 1, .inl 0, 36), (36, 0, 5, 0, .inl 0, 38), (38, 3, 2, 16, .inl 0, 41), (41, 0, 1, 0, .inl 0, 42), (42, 8, 7, 0, .inl 0, 43), (43, 1, 0, 0, .inl 1, 44), (44, 8, 3, 0, .inl 0, 45), (45, 8, 0, 0, .inl 0, 46), (46, 7, 2, 0, .inl 0, 47), (47, 12, 5, 0, .inl 1, 50), (50, 6, 7, 23, .inl 0, 53), (53, 12, 3, 0, .inl 1, 56), (56, 6, 5, 4, .inl 0, 59), (59, 0, 2, 0, .inl 0, 60), (60, 4, 1, 0, .inl 0, 61)]]
/-- ConstellationsByLot$Sky.allLines -/
def ic_55 : List (List (Nat × IN)) := [[(0, 1, 0, 0, .inl 0, 1), (1, 7, 1, 0, .inl 0, 2), (2, 1, 0, 0, .inl 0, 3), (3, 7, 2, 4, .inl 0, 4), (4, 0, 2, 0, .inl 0, 5), (5, 0, 0, 1, .inl 0, 6), (6, 2, 5, 4, .inl 0, 9), (9, 9, 3, 30, .inl 0, 12), (12, 0, 1, 0, .inl 0, 13), (13, 0, 0, 1, .inl 0, 14), (14, 2, 5, 2, .inl 0, 17), (17, 0, 2, 0, .inl 0, 18), (18, 16, 0, 0, .inl 0, 19), (19, 2, 2, 5, .inl 0, 22), (22, 8, 0, 0, .inl 0, 23), (23, 7, 1, 0, .inl 0, 24), (24, 12, 2, 0, .inl 1, 27), (27, 6, 4, 4, .inl 0, 30), (30, 0, 1, 0, .inl 0, 31), (31, 4, 1, 0, .inl 0, 32)]]
/-- ConstellationsByLot$Sky.joined -/
def ic_56 : List (List (Nat × IN)) := [[(0, 0, 1, 0, .inl 0, 1), (1, 0, 1, 0, .inl 0, 2), (2, 15, 0, 0, .inl 0, 3), (3, 8, 3, 0, .inl 0, 4), (4, 7, 2, 0, .inl 0, 5), (5, 1, 0, 0, .inl 0, 6), (6, 7, 3, 0, .inl 0, 7), (7, 1, 0, 0, .inl 0, 8), (8, 7, 4, 6, .inl 0, 10), (10, 0, 4, 0, .inl 0, 12), (12, 1, 0, 0, .inl 12, 14), (14, 9, 3, 119, .inl 0, 17), (17, 0, 2, 0, .inl 0, 18), (18, 0, 1, 0, .inl 0, 19), (19, 9, 0, 119, .inl 0, 22), (22, 1, 0, 0, .inl 0, 23), (23, 7, 5, 0, .inl 0, 25), (25, 1, 0, 0, .inl 2147483647, 27), (27, 7, 6, 0, .inl 0, 29), (29, 1, 0, 0, .inl 0, 30), (30, 7, 7, 9, .inl 0, 32)],
  [(32, 0, 7, 0, .inl 0, 34), (34, 0, 0, 1, .inl 0, 35), (35, 2, 5, 3, .inl 0, 38), (38, 9, 3, 101, .inl 0, 41), (41, 0, 1, 0, .inl 0, 42), (42, 0, 2, 0, .inl 0, 43), (43, 1, 0, 0, .inl (-1), 44), (44, 8, 5, 0, .inl 0, 45), (45, 8, 3, 0, .inl 0, 46), (46, 0, 7, 0, .inl 0, 48), (48, 8, 7, 0, .inl 0, 49), (49, 1, 0, 0, .inl 1, 50), (50, 8, 3, 0, .inl 0, 51), (51, 10, 0, 58, .inl 0, 54), (54, 1, 0, 0, .inl 1, 55), (55, 6, 0, 59, .inl 0, 58), (58, 1, 0, 0, .inl 0, 59), (59, 7, 8, 0, .inl 0, 61), (61, 0, 8, 0, .inl 0, 63), (63, 10, 0, 76, .inl 0, 66)],
  [(66, 0, 0, 1, .inl 0, 67), (67, 0, 7, 0, .inl 0, 69), (69, 0, 2, 0, .inl 0, 70), (70, 3, 3, 57, .inl 0, 73), (73, 6, 0, 78, .inl 0, 76), (76, 1, 0, 0, .inl 2147483647, 78), (78, 7, 9, 0, .inl 0, 80), (80, 0, 9, 0, .inl 0, 82), (82, 0, 6, 0, .inl 0, 84), (84, 9, 3, 95, .inl 0, 87), (87, 0, 9, 0, .inl 0, 89), (89, 7, 6, 0, .inl 0, 91), (91, 0, 7, 0, .inl 0, 93), (93, 7, 5, 0, .inl 0, 95), (95, 12, 7, 0, .inl 1, 98)],
  [(98, 6, 9, 32, .inl 0, 101), (101, 0, 2, 0, .inl 0, 102), (102, 1, 0, 0, .inl 1, 103), (103, 0, 5, 0, .inl 0, 105), (105, 8, 6, 0, .inl 0, 106), (106, 8, 4, 0, .inl 0, 107), (107, 7, 2, 0, .inl 0, 108), (108, 0, 3, 0, .inl 0, 109), (109, 0, 6, 0, .inl 0, 111), (111, 8, 0, 0, .inl 0, 112), (112, 7, 3, 0, .inl 0, 113), (113, 12, 4, 0, .inl 1, 116), (116, 6, 6, 10, .inl 0, 119), (119, 0, 3, 0, .inl 0, 120), (120, 4, 1, 0, .inl 0, 121)]]
/-- ConstellationsByLot$Sky.lengthTo -/
def ic_57 : List (List (Nat × IN)) := [[(0, 1, 0, 0, .inl 2147483647, 2), (2, 7, 3, 0, .inl 0, 3), (3, 1, 0, 0, .inl 0, 4), (4, 7, 4, 6, .inl 0, 6), (6, 0, 4, 0, .inl 0, 8), (8, 0, 0, 1, .inl 0, 9), (9, 2, 5, 3, .inl 0, 12), (12, 9, 3, 42, .inl 0, 15), (15, 0, 2, 0, .inl 0, 16), (16, 0, 4, 0, .inl 0, 18), (18, 8, 7, 0, .inl 0, 19), (19, 1, 0, 0, .inl 1, 20), (20, 8, 3, 0, .inl 0, 21), (21, 10, 0, 36, .inl 0, 24), (24, 0, 3, 0, .inl 0, 25), (25, 0, 0, 1, .inl 0, 26), (26, 0, 1, 0, .inl 0, 27), (27, 0, 4, 0, .inl 0, 29), (29, 3, 3, 49, .inl 0, 32)],
  [(32, 33, 1, 0, .inl 0, 35), (35, 7, 3, 0, .inl 0, 36), (36, 12, 4, 0, .inl 1, 39), (39, 6, 6, 6, .inl 0, 42), (42, 0, 3, 0, .inl 0, 43), (43, 4, 1, 0, .inl 0, 44)]]
/-- ConstellationsByLot$Sky.drawByLot -/
def ic_58 : List (List (Nat × IN)) := [[(0, 0, 1, 1, .inl 0, 1), (1, 2, 2, 4, .inl 0, 4), (4, 3, 1, 224, .inl 0, 7), (7, 7, 2, 0, .inl 0, 8), (8, 0, 2, 0, .inl 0, 9), (9, 1, 0, 0, .inl 2, 10), (10, 9, 3, 14, .inl 0, 13), (13, 4, 0, 0, .inl 0, 14), (14, 0, 1, 1, .inl 0, 15), (15, 2, 2, 4, .inl 0, 18), (18, 0, 0, 1, .inl 0, 19), (19, 0, 2, 0, .inl 0, 20), (20, 3, 2, 59, .inl 0, 23), (23, 3, 2, 60, .inl 0, 26), (26, 7, 3, 0, .inl 0, 27), (27, 0, 1, 1, .inl 0, 28), (28, 2, 2, 4, .inl 0, 31), (31, 0, 0, 1, .inl 0, 32)],
  [(32, 0, 2, 0, .inl 0, 33), (33, 3, 2, 59, .inl 0, 36), (36, 3, 2, 60, .inl 0, 39), (39, 7, 4, 0, .inl 0, 41), (41, 0, 3, 0, .inl 0, 42), (42, 0, 4, 0, .inl 0, 44), (44, 9, 1, 48, .inl 0, 47), (47, 4, 0, 0, .inl 0, 48), (48, 0, 1, 1, .inl 0, 49), (49, 1, 0, 0, .inl 1, 50), (50, 0, 3, 0, .inl 0, 51), (51, 8, 6, 0, .inl 0, 52), (52, 1, 0, 0, .inl 1, 53), (53, 0, 4, 0, .inl 0, 55), (55, 8, 6, 0, .inl 0, 56), (56, 8, 4, 0, .inl 0, 57), (57, 3, 2, 17, .inl 0, 60), (60, 7, 5, 0, .inl 0, 62), (62, 0, 5, 0, .inl 0, 64)],
  [(64, 1, 0, 0, .inl (-1), 65), (65, 9, 1, 78, .inl 0, 68), (68, 0, 1, 1, .inl 0, 69), (69, 0, 3, 0, .inl 0, 70), (70, 0, 4, 0, .inl 0, 72), (72, 3, 3, 18, .inl 0, 75), (75, 6, 0, 84, .inl 0, 78), (78, 0, 1, 1, .inl 0, 79), (79, 0, 5, 0, .inl 0, 81), (81, 3, 2, 19, .inl 0, 84), (84, 4, 0, 0, .inl 0, 85)]]
/-- ConstellationsByLot$Sky.lot -/
def ic_59 : List (List (Nat × IN)) := [[(0, 0, 0, 1, .inl 0, 1), (1, 0, 0, 1, .inl 0, 2), (2, 2, 5, 6, .inl 0, 5), (5, 1, 0, 0, .inl 1103515245, 7), (7, 8, 2, 0, .inl 0, 8), (8, 1, 0, 0, .inl 12345, 11), (11, 8, 0, 0, .inl 0, 12), (12, 11, 5, 6, .inl 0, 15), (15, 0, 1, 0, .inl 0, 16), (16, 10, 5, 31, .inl 0, 19), (19, 0, 0, 1, .inl 0, 20), (20, 2, 5, 6, .inl 0, 23), (23, 1, 0, 0, .inl 16, 25), (25, 8, 8, 0, .inl 0, 26), (26, 0, 1, 0, .inl 0, 27), (27, 19, 1, 0, .inl 0, 28), (28, 6, 0, 32, .inl 0, 31), (31, 1, 0, 0, .inl 0, 32)],
  [(32, 4, 1, 0, .inl 0, 33)]]
/-- ConstellationsByLot$Sky.wantedPoint -/
def ic_60 : List (List (Nat × IN)) := [[(0, 0, 0, 0, .inl 0, 1), (1, 7, 2, 0, .inl 0, 2), (2, 1, 0, 0, .inl 0, 3), (3, 7, 3, 5, .inl 0, 4), (4, 0, 3, 0, .inl 0, 5), (5, 0, 1, 0, .inl 0, 6), (6, 9, 3, 21, .inl 0, 9), (9, 0, 2, 0, .inl 0, 10), (10, 0, 2, 0, .inl 0, 11), (11, 1, 0, 0, .inl 1, 12), (12, 8, 1, 0, .inl 0, 13), (13, 8, 3, 0, .inl 0, 14), (14, 7, 2, 0, .inl 0, 15), (15, 12, 3, 0, .inl 1, 18), (18, 6, 5, 4, .inl 0, 21), (21, 0, 2, 0, .inl 0, 22), (22, 3, 1, 223, .inl 0, 25), (25, 4, 1, 0, .inl 0, 26)]]
/-- ConstellationsByLot$Tape.append -/
def ic_61 : List (List (Nat × IN)) := [[(0, 0, 0, 1, .inl 0, 1), (1, 2, 6, 0, .inl 0, 4), (4, 1, 0, 0, .inl 250, 7), (7, 9, 3, 30, .inl 0, 10), (10, 0, 0, 1, .inl 0, 11), (11, 2, 6, 2, .inl 0, 14), (14, 0, 0, 1, .inl 0, 15), (15, 2, 6, 0, .inl 0, 18), (18, 0, 1, 0, .inl 0, 19), (19, 14, 1, 0, .inl 0, 20), (20, 0, 0, 1, .inl 0, 21), (21, 13, 0, 0, .inl 0, 22), (22, 2, 6, 0, .inl 0, 25), (25, 1, 0, 0, .inl 1, 26), (26, 8, 0, 0, .inl 0, 27), (27, 11, 6, 0, .inl 0, 30), (30, 4, 0, 0, .inl 0, 31)]]
/-- ConstellationsByLot$Tape.readInto -/
def ic_62 : List (List (Nat × IN)) := [[(0, 0, 0, 1, .inl 0, 1), (1, 1, 0, 0, .inl 0, 2), (2, 11, 6, 3, .inl 0, 5), (5, 0, 0, 1, .inl 0, 6), (6, 1, 0, 0, .inl (-1), 7), (7, 11, 6, 1, .inl 0, 10), (10, 1, 0, 0, .inl 0, 11), (11, 7, 2, 0, .inl 0, 12), (12, 1, 0, 0, .inl 1, 13), (13, 7, 3, 5, .inl 0, 14), (14, 0, 3, 0, .inl 0, 15), (15, 10, 0, 57, .inl 0, 18), (18, 0, 2, 0, .inl 0, 19), (19, 1, 0, 0, .inl 250, 22), (22, 9, 3, 57, .inl 0, 25), (25, 0, 0, 1, .inl 0, 26), (26, 0, 1, 1, .inl 0, 27), (27, 3, 2, 65, .inl 0, 30), (30, 12, 2, 0, .inl 1, 33)],
  [(33, 0, 0, 1, .inl 0, 34), (34, 2, 6, 1, .inl 0, 37), (37, 1, 0, 0, .inl (-1), 38), (38, 9, 1, 52, .inl 0, 41), (41, 0, 0, 1, .inl 0, 42), (42, 3, 1, 64, .inl 0, 45), (45, 10, 0, 52, .inl 0, 48), (48, 1, 0, 0, .inl 1, 49), (49, 6, 0, 53, .inl 0, 52), (52, 1, 0, 0, .inl 0, 53), (53, 7, 3, 0, .inl 0, 54), (54, 6, 5, 14, .inl 0, 57), (57, 0, 0, 1, .inl 0, 58), (58, 2, 6, 1, .inl 0, 61), (61, 1, 0, 0, .inl (-1), 62), (62, 9, 1, 69, .inl 0, 65)],
  [(65, 0, 2, 0, .inl 0, 66), (66, 6, 0, 70, .inl 0, 69), (69, 1, 0, 0, .inl (-1), 70), (70, 4, 1, 0, .inl 0, 71)]]
/-- ConstellationsByLot$Tape.skipBlanks -/
def ic_63 : List (List (Nat × IN)) := [[(0, 0, 0, 1, .inl 0, 1), (1, 2, 6, 3, .inl 0, 4), (4, 0, 0, 1, .inl 0, 5), (5, 2, 6, 0, .inl 0, 8), (8, 9, 3, 38, .inl 0, 11), (11, 0, 0, 1, .inl 0, 12), (12, 2, 6, 2, .inl 0, 15), (15, 0, 0, 1, .inl 0, 16), (16, 2, 6, 3, .inl 0, 19), (19, 5, 1, 0, .inl 0, 20), (20, 1, 0, 0, .inl 32, 22), (22, 9, 1, 38, .inl 0, 25), (25, 0, 0, 1, .inl 0, 26), (26, 13, 0, 0, .inl 0, 27), (27, 2, 6, 3, .inl 0, 30), (30, 1, 0, 0, .inl 1, 31), (31, 8, 0, 0, .inl 0, 32)],
  [(32, 11, 6, 3, .inl 0, 35), (35, 6, 2, 0, .inl 0, 38), (38, 0, 0, 1, .inl 0, 39), (39, 0, 0, 1, .inl 0, 40), (40, 2, 6, 3, .inl 0, 43), (43, 11, 6, 4, .inl 0, 46), (46, 4, 0, 0, .inl 0, 47)]]
/-- ConstellationsByLot$Tape.readSemicolon -/
def ic_64 : List (List (Nat × IN)) := [[(0, 0, 0, 1, .inl 0, 1), (1, 3, 1, 63, .inl 0, 4), (4, 0, 0, 1, .inl 0, 5), (5, 2, 6, 3, .inl 0, 8), (8, 0, 0, 1, .inl 0, 9), (9, 2, 6, 0, .inl 0, 12), (12, 9, 2, 17, .inl 0, 15), (15, 1, 0, 0, .inl 0, 16), (16, 4, 3, 0, .inl 0, 17), (17, 0, 0, 1, .inl 0, 18), (18, 2, 6, 2, .inl 0, 21), (21, 0, 0, 1, .inl 0, 22), (22, 2, 6, 3, .inl 0, 25), (25, 5, 1, 0, .inl 0, 26), (26, 1, 0, 0, .inl 59, 28), (28, 9, 0, 41, .inl 0, 31), (31, 0, 0, 1, .inl 0, 32)],
  [(32, 0, 0, 1, .inl 0, 33), (33, 2, 6, 3, .inl 0, 36), (36, 11, 6, 1, .inl 0, 39), (39, 1, 0, 0, .inl 0, 40), (40, 4, 3, 0, .inl 0, 41), (41, 0, 0, 1, .inl 0, 42), (42, 13, 0, 0, .inl 0, 43), (43, 2, 6, 3, .inl 0, 46), (46, 1, 0, 0, .inl 1, 47), (47, 8, 0, 0, .inl 0, 48), (48, 11, 6, 3, .inl 0, 51), (51, 1, 0, 0, .inl 1, 52), (52, 4, 3, 0, .inl 0, 53)]]
/-- ConstellationsByLot$Tape.readStatement -/
def ic_65 : List (List (Nat × IN)) := [[(0, 0, 0, 1, .inl 0, 1), (1, 3, 1, 63, .inl 0, 4), (4, 0, 0, 1, .inl 0, 5), (5, 2, 6, 3, .inl 0, 8), (8, 0, 0, 1, .inl 0, 9), (9, 2, 6, 0, .inl 0, 12), (12, 9, 3, 56, .inl 0, 15), (15, 0, 0, 1, .inl 0, 16), (16, 2, 6, 2, .inl 0, 19), (19, 0, 0, 1, .inl 0, 20), (20, 2, 6, 3, .inl 0, 23), (23, 5, 1, 0, .inl 0, 24), (24, 1, 0, 0, .inl 97, 26), (26, 9, 2, 56, .inl 0, 29), (29, 0, 0, 1, .inl 0, 30), (30, 2, 6, 2, .inl 0, 33)],
  [(33, 0, 0, 1, .inl 0, 34), (34, 2, 6, 3, .inl 0, 37), (37, 5, 1, 0, .inl 0, 38), (38, 1, 0, 0, .inl 122, 40), (40, 9, 4, 56, .inl 0, 43), (43, 0, 0, 1, .inl 0, 44), (44, 13, 0, 0, .inl 0, 45), (45, 2, 6, 3, .inl 0, 48), (48, 1, 0, 0, .inl 1, 49), (49, 8, 0, 0, .inl 0, 50), (50, 11, 6, 3, .inl 0, 53), (53, 6, 3, 4, .inl 0, 56), (56, 0, 0, 1, .inl 0, 57), (57, 1, 0, 0, .inr (.inr (52, 0)), 59), (59, 3, 2, 66, .inl 0, 62), (62, 10, 0, 80, .inl 0, 65)],
  [(65, 0, 1, 1, .inl 0, 66), (66, 3, 1, 43, .inl 0, 69), (69, 10, 0, 80, .inl 0, 72), (72, 0, 0, 1, .inl 0, 73), (73, 0, 1, 1, .inl 0, 74), (74, 3, 2, 68, .inl 0, 77), (77, 6, 0, 163, .inl 0, 80), (80, 0, 0, 1, .inl 0, 81), (81, 1, 0, 0, .inr (.inr (52, 1)), 83), (83, 3, 2, 66, .inl 0, 86), (86, 10, 0, 104, .inl 0, 89), (89, 0, 1, 1, .inl 0, 90), (90, 3, 1, 45, .inl 0, 93), (93, 10, 0, 104, .inl 0, 96)],
  [(96, 0, 0, 1, .inl 0, 97), (97, 0, 1, 1, .inl 0, 98), (98, 3, 2, 69, .inl 0, 101), (101, 6, 0, 163, .inl 0, 104), (104, 0, 0, 1, .inl 0, 105), (105, 1, 0, 0, .inr (.inr (52, 2)), 107), (107, 3, 2, 66, .inl 0, 110), (110, 10, 0, 121, .inl 0, 113), (113, 0, 0, 1, .inl 0, 114), (114, 0, 1, 1, .inl 0, 115), (115, 3, 2, 70, .inl 0, 118), (118, 6, 0, 163, .inl 0, 121), (121, 0, 0, 1, .inl 0, 122), (122, 1, 0, 0, .inr (.inr (52, 3)), 124), (124, 3, 2, 66, .inl 0, 127), (127, 10, 0, 138, .inl 0, 130)],
  [(130, 0, 0, 1, .inl 0, 131), (131, 0, 1, 1, .inl 0, 132), (132, 3, 2, 71, .inl 0, 135), (135, 6, 0, 163, .inl 0, 138), (138, 0, 0, 1, .inl 0, 139), (139, 1, 0, 0, .inr (.inr (52, 4)), 141), (141, 3, 2, 66, .inl 0, 144), (144, 10, 0, 155, .inl 0, 147), (147, 0, 0, 1, .inl 0, 148), (148, 0, 1, 1, .inl 0, 149), (149, 3, 2, 73, .inl 0, 152), (152, 6, 0, 163, .inl 0, 155), (155, 0, 0, 1, .inl 0, 156), (156, 0, 0, 1, .inl 0, 157), (157, 2, 6, 4, .inl 0, 160)],
  [(160, 11, 6, 1, .inl 0, 163), (163, 4, 0, 0, .inl 0, 164)]]
/-- ConstellationsByLot$Tape.isWord -/
def ic_66 : List (List (Nat × IN)) := [[(0, 0, 0, 1, .inl 0, 1), (1, 2, 6, 3, .inl 0, 4), (4, 0, 0, 1, .inl 0, 5), (5, 2, 6, 4, .inl 0, 8), (8, 8, 1, 0, .inl 0, 9), (9, 0, 1, 1, .inl 0, 10), (10, 30, 0, 0, .inl 0, 13), (13, 9, 0, 18, .inl 0, 16), (16, 1, 0, 0, .inl 0, 17), (17, 4, 3, 0, .inl 0, 18), (18, 1, 0, 0, .inl 0, 19), (19, 7, 2, 4, .inl 0, 20), (20, 0, 2, 0, .inl 0, 21), (21, 0, 1, 1, .inl 0, 22), (22, 30, 0, 0, .inl 0, 25), (25, 9, 3, 55, .inl 0, 28), (28, 0, 0, 1, .inl 0, 29), (29, 2, 6, 2, .inl 0, 32)],
  [(32, 0, 0, 1, .inl 0, 33), (33, 2, 6, 4, .inl 0, 36), (36, 0, 2, 0, .inl 0, 37), (37, 8, 0, 0, .inl 0, 38), (38, 5, 1, 0, .inl 0, 39), (39, 0, 1, 1, .inl 0, 40), (40, 0, 2, 0, .inl 0, 41), (41, 31, 0, 0, .inl 0, 44), (44, 9, 0, 49, .inl 0, 47), (47, 1, 0, 0, .inl 0, 48), (48, 4, 3, 0, .inl 0, 49), (49, 12, 2, 0, .inl 1, 52), (52, 6, 4, 20, .inl 0, 55), (55, 1, 0, 0, .inl 1, 56), (56, 4, 3, 0, .inl 0, 57)]]
/-- ConstellationsByLot$Tape.readNumber -/
def ic_67 : List (List (Nat × IN)) := [[(0, 0, 0, 1, .inl 0, 1), (1, 2, 6, 1, .inl 0, 4), (4, 1, 0, 0, .inl (-1), 5), (5, 9, 0, 10, .inl 0, 8), (8, 1, 0, 0, .inl (-1), 9), (9, 4, 1, 0, .inl 0, 10), (10, 0, 0, 1, .inl 0, 11), (11, 3, 1, 63, .inl 0, 14), (14, 1, 0, 0, .inl 0, 15), (15, 7, 3, 5, .inl 0, 16), (16, 0, 0, 1, .inl 0, 17), (17, 2, 6, 3, .inl 0, 20), (20, 0, 0, 1, .inl 0, 21), (21, 2, 6, 0, .inl 0, 24), (24, 9, 3, 86, .inl 0, 27), (27, 0, 0, 1, .inl 0, 28), (28, 2, 6, 2, .inl 0, 31), (31, 0, 0, 1, .inl 0, 32)],
  [(32, 2, 6, 3, .inl 0, 35), (35, 5, 1, 0, .inl 0, 36), (36, 1, 0, 0, .inl 48, 38), (38, 9, 2, 86, .inl 0, 41), (41, 0, 0, 1, .inl 0, 42), (42, 2, 6, 2, .inl 0, 45), (45, 0, 0, 1, .inl 0, 46), (46, 2, 6, 3, .inl 0, 49), (49, 5, 1, 0, .inl 0, 50), (50, 1, 0, 0, .inl 57, 52), (52, 9, 4, 86, .inl 0, 55), (55, 0, 3, 0, .inl 0, 56), (56, 1, 0, 0, .inl 10, 58), (58, 8, 2, 0, .inl 0, 59), (59, 0, 0, 1, .inl 0, 60), (60, 2, 6, 2, .inl 0, 63), (63, 0, 0, 1, .inl 0, 64)],
  [(64, 2, 6, 3, .inl 0, 67), (67, 5, 1, 0, .inl 0, 68), (68, 8, 0, 0, .inl 0, 69), (69, 1, 0, 0, .inl 48, 71), (71, 8, 1, 0, .inl 0, 72), (72, 7, 3, 0, .inl 0, 73), (73, 0, 0, 1, .inl 0, 74), (74, 13, 0, 0, .inl 0, 75), (75, 2, 6, 3, .inl 0, 78), (78, 1, 0, 0, .inl 1, 79), (79, 8, 0, 0, .inl 0, 80), (80, 11, 6, 3, .inl 0, 83), (83, 6, 5, 16, .inl 0, 86), (86, 0, 0, 1, .inl 0, 87), (87, 2, 6, 3, .inl 0, 90), (90, 0, 0, 1, .inl 0, 91), (91, 2, 6, 4, .inl 0, 94), (94, 8, 1, 0, .inl 0, 95), (95, 7, 4, 0, .inl 0, 97)],
  [(97, 0, 4, 0, .inl 0, 99), (99, 1, 0, 0, .inl 1, 100), (100, 9, 2, 119, .inl 0, 103), (103, 0, 4, 0, .inl 0, 105), (105, 1, 0, 0, .inl 2, 106), (106, 9, 4, 119, .inl 0, 109), (109, 0, 3, 0, .inl 0, 110), (110, 0, 1, 0, .inl 0, 111), (111, 9, 2, 119, .inl 0, 114), (114, 0, 3, 0, .inl 0, 115), (115, 0, 2, 0, .inl 0, 116), (116, 9, 5, 127, .inl 0, 119), (119, 0, 0, 1, .inl 0, 120), (120, 0, 0, 1, .inl 0, 121), (121, 2, 6, 4, .inl 0, 124), (124, 11, 6, 1, .inl 0, 127), (127, 0, 3, 0, .inl 0, 128)],
  [(128, 4, 1, 0, .inl 0, 129)]]
/-- ConstellationsByLot$Tape.readPoint -/
def ic_68 : List (List (Nat × IN)) := [[(0, 0, 0, 1, .inl 0, 1), (1, 1, 0, 0, .inl 0, 2), (2, 1, 0, 0, .inl 99, 4), (4, 3, 3, 67, .inl 0, 7), (7, 7, 2, 0, .inl 0, 8), (8, 0, 0, 1, .inl 0, 9), (9, 1, 0, 0, .inl 1, 10), (10, 1, 0, 0, .inl 9, 12), (12, 3, 3, 67, .inl 0, 15), (15, 7, 3, 0, .inl 0, 16), (16, 0, 0, 1, .inl 0, 17), (17, 2, 6, 1, .inl 0, 20), (20, 1, 0, 0, .inl (-1), 21), (21, 9, 1, 30, .inl 0, 24), (24, 0, 1, 1, .inl 0, 25), (25, 0, 2, 0, .inl 0, 26), (26, 0, 3, 0, .inl 0, 27), (27, 3, 3, 44, .inl 0, 30), (30, 4, 0, 0, .inl 0, 31)]]
/-- ConstellationsByLot$Tape.readParish -/
def ic_69 : List (List (Nat × IN)) := [[(0, 0, 0, 1, .inl 0, 1), (1, 1, 0, 0, .inl 0, 2), (2, 1, 0, 0, .inl 5, 3), (3, 3, 3, 67, .inl 0, 6), (6, 7, 2, 0, .inl 0, 7), (7, 0, 0, 1, .inl 0, 8), (8, 1, 0, 0, .inl 0, 9), (9, 1, 0, 0, .inl 9, 11), (11, 3, 3, 67, .inl 0, 14), (14, 7, 3, 0, .inl 0, 15), (15, 0, 0, 1, .inl 0, 16), (16, 2, 6, 1, .inl 0, 19), (19, 1, 0, 0, .inl (-1), 20), (20, 9, 1, 29, .inl 0, 23), (23, 0, 1, 1, .inl 0, 24), (24, 0, 2, 0, .inl 0, 25), (25, 0, 3, 0, .inl 0, 26), (26, 3, 3, 46, .inl 0, 29), (29, 4, 0, 0, .inl 0, 30)]]
/-- ConstellationsByLot$Tape.readWants -/
def ic_70 : List (List (Nat × IN)) := [[(0, 0, 0, 1, .inl 0, 1), (1, 1, 0, 0, .inl 0, 2), (2, 0, 1, 1, .inl 0, 3), (3, 2, 5, 4, .inl 0, 6), (6, 1, 0, 0, .inl 1, 7), (7, 8, 1, 0, .inl 0, 8), (8, 3, 3, 67, .inl 0, 11), (11, 7, 2, 0, .inl 0, 12), (12, 0, 0, 1, .inl 0, 13), (13, 1, 0, 0, .inl 0, 14), (14, 0, 1, 1, .inl 0, 15), (15, 2, 5, 3, .inl 0, 18), (18, 1, 0, 0, .inl 1, 19), (19, 8, 1, 0, .inl 0, 20), (20, 3, 3, 67, .inl 0, 23), (23, 7, 3, 0, .inl 0, 24), (24, 0, 0, 1, .inl 0, 25), (25, 2, 6, 1, .inl 0, 28), (28, 1, 0, 0, .inl (-1), 29), (29, 9, 1, 49, .inl 0, 32)],
  [(32, 0, 1, 1, .inl 0, 33), (33, 2, 5, 2, .inl 0, 36), (36, 0, 2, 0, .inl 0, 37), (37, 16, 0, 0, .inl 0, 38), (38, 13, 0, 0, .inl 0, 39), (39, 2, 2, 4, .inl 0, 42), (42, 1, 0, 0, .inl 1, 43), (43, 0, 3, 0, .inl 0, 44), (44, 8, 6, 0, .inl 0, 45), (45, 8, 4, 0, .inl 0, 46), (46, 11, 2, 4, .inl 0, 49), (49, 4, 0, 0, .inl 0, 50)]]
/-- ConstellationsByLot$Tape.readLine -/
def ic_71 : List (List (Nat × IN)) := [[(0, 0, 0, 1, .inl 0, 1), (1, 1, 0, 0, .inl 0, 2), (2, 0, 1, 1, .inl 0, 3), (3, 2, 5, 4, .inl 0, 6), (6, 1, 0, 0, .inl 1, 7), (7, 8, 1, 0, .inl 0, 8), (8, 3, 3, 67, .inl 0, 11), (11, 7, 2, 0, .inl 0, 12), (12, 0, 0, 1, .inl 0, 13), (13, 2, 6, 1, .inl 0, 16), (16, 1, 0, 0, .inl (-1), 17), (17, 9, 0, 21, .inl 0, 20), (20, 4, 0, 0, .inl 0, 21), (21, 0, 1, 1, .inl 0, 22), (22, 2, 5, 2, .inl 0, 25), (25, 0, 2, 0, .inl 0, 26), (26, 16, 0, 0, .inl 0, 27), (27, 32, 3, 0, .inl 0, 28), (28, 0, 0, 1, .inl 0, 29), (29, 0, 3, 1, .inl 0, 30), (30, 3, 1, 15, .inl 0, 33)],
  [(33, 3, 2, 72, .inl 0, 36), (36, 0, 0, 1, .inl 0, 37), (37, 1, 0, 0, .inl 0, 38), (38, 0, 1, 1, .inl 0, 39), (39, 2, 5, 3, .inl 0, 42), (42, 1, 0, 0, .inl 1, 43), (43, 8, 1, 0, .inl 0, 44), (44, 3, 3, 67, .inl 0, 47), (47, 7, 4, 0, .inl 0, 49), (49, 0, 0, 1, .inl 0, 50), (50, 0, 0, 1, .inl 0, 51), (51, 2, 6, 1, .inl 0, 54), (54, 1, 0, 0, .inl (-1), 55), (55, 9, 1, 69, .inl 0, 58), (58, 0, 3, 1, .inl 0, 59), (59, 1, 0, 0, .inl 1, 60), (60, 0, 4, 0, .inl 0, 62), (62, 8, 6, 0, .inl 0, 63), (63, 3, 2, 14, .inl 0, 66)],
  [(66, 10, 0, 73, .inl 0, 69), (69, 1, 0, 0, .inl 1, 70), (70, 6, 0, 74, .inl 0, 73), (73, 1, 0, 0, .inl 0, 74), (74, 3, 2, 72, .inl 0, 77), (77, 0, 0, 1, .inl 0, 78), (78, 1, 0, 0, .inl 0, 79), (79, 0, 1, 1, .inl 0, 80), (80, 2, 5, 3, .inl 0, 83), (83, 1, 0, 0, .inl 1, 84), (84, 8, 1, 0, .inl 0, 85), (85, 3, 3, 67, .inl 0, 88), (88, 7, 5, 0, .inl 0, 90), (90, 0, 0, 1, .inl 0, 91), (91, 2, 6, 1, .inl 0, 94), (94, 1, 0, 0, .inl (-1), 95), (95, 9, 0, 99, .inl 0, 98)],
  [(98, 4, 0, 0, .inl 0, 99), (99, 1, 0, 0, .inl 1, 100), (100, 0, 4, 0, .inl 0, 102), (102, 8, 6, 0, .inl 0, 103), (103, 1, 0, 0, .inl 1, 104), (104, 0, 5, 0, .inl 0, 106), (106, 8, 6, 0, .inl 0, 107), (107, 8, 4, 0, .inl 0, 108), (108, 7, 6, 0, .inl 0, 110), (110, 0, 0, 1, .inl 0, 111), (111, 0, 4, 0, .inl 0, 113), (113, 0, 5, 0, .inl 0, 115), (115, 9, 0, 141, .inl 0, 118), (118, 0, 3, 1, .inl 0, 119), (119, 0, 6, 0, .inl 0, 121), (121, 3, 2, 14, .inl 0, 124), (124, 10, 0, 141, .inl 0, 127), (127, 0, 3, 1, .inl 0, 128)],
  [(128, 0, 6, 0, .inl 0, 130), (130, 3, 2, 17, .inl 0, 133), (133, 1, 0, 0, .inl (-1), 134), (134, 9, 1, 141, .inl 0, 137), (137, 1, 0, 0, .inl 1, 138), (138, 6, 0, 142, .inl 0, 141), (141, 1, 0, 0, .inl 0, 142), (142, 3, 2, 72, .inl 0, 145), (145, 0, 0, 1, .inl 0, 146), (146, 2, 6, 1, .inl 0, 149), (149, 1, 0, 0, .inl (-1), 150), (150, 9, 1, 161, .inl 0, 153), (153, 0, 3, 1, .inl 0, 154), (154, 0, 4, 0, .inl 0, 156), (156, 0, 5, 0, .inl 0, 158), (158, 3, 3, 18, .inl 0, 161)],
  [(161, 4, 0, 0, .inl 0, 162)]]
/-- ConstellationsByLot$Tape.allow -/
def ic_72 : List (List (Nat × IN)) := [[(0, 0, 1, 0, .inl 0, 1), (1, 10, 1, 12, .inl 0, 4), (4, 0, 0, 1, .inl 0, 5), (5, 0, 0, 1, .inl 0, 6), (6, 2, 6, 4, .inl 0, 9), (9, 11, 6, 1, .inl 0, 12), (12, 4, 0, 0, .inl 0, 13)]]
/-- ConstellationsByLot$Tape.readCloud -/
def ic_73 : List (List (Nat × IN)) := [[(0, 0, 0, 1, .inl 0, 1), (1, 1, 0, 0, .inl 0, 2), (2, 1, 0, 0, .inl 12, 4), (4, 3, 3, 67, .inl 0, 7), (7, 7, 2, 0, .inl 0, 8), (8, 0, 0, 1, .inl 0, 9), (9, 2, 6, 1, .inl 0, 12), (12, 1, 0, 0, .inl (-1), 13), (13, 9, 1, 21, .inl 0, 16), (16, 0, 1, 1, .inl 0, 17), (17, 0, 2, 0, .inl 0, 18), (18, 11, 5, 5, .inl 0, 21), (21, 4, 0, 0, .inl 0, 22)]]
/-- ConstellationsByLot.row -/
def ic_74 : List (List (Nat × IN)) := [[(0, 0, 2, 0, .inl 0, 1), (1, 10, 2, 23, .inl 0, 4), (4, 0, 2, 0, .inl 0, 5), (5, 1, 0, 0, .inl 5, 6), (6, 9, 3, 23, .inl 0, 9), (9, 0, 3, 0, .inl 0, 10), (10, 10, 2, 23, .inl 0, 13), (13, 0, 3, 0, .inl 0, 14), (14, 1, 0, 0, .inl 40, 16), (16, 9, 4, 23, .inl 0, 19), (19, 1, 0, 0, .inl 1, 20), (20, 6, 0, 24, .inl 0, 23), (23, 1, 0, 0, .inl 0, 24), (24, 7, 4, 0, .inl 0, 26), (26, 0, 0, 1, .inl 0, 27), (27, 0, 1, 0, .inl 0, 28), (28, 3, 2, 110, .inl 0, 31), (31, 10, 0, 39, .inl 0, 34)],
  [(34, 0, 4, 0, .inl 0, 36), (36, 10, 1, 46, .inl 0, 39), (39, 0, 0, 1, .inl 0, 40), (40, 1, 0, 0, .inl (-2), 42), (42, 3, 2, 109, .inl 0, 45), (45, 4, 1, 0, .inl 0, 46), (46, 0, 0, 1, .inl 0, 47), (47, 2, 7, 8, .inl 0, 50), (50, 0, 1, 0, .inl 0, 51), (51, 16, 0, 0, .inl 0, 52), (52, 0, 2, 0, .inl 0, 53), (53, 0, 3, 0, .inl 0, 54), (54, 3, 3, 31, .inl 0, 57), (57, 1, 0, 0, .inl 1, 58), (58, 4, 1, 0, .inl 0, 59)]]
/-- ConstellationsByLot.set -/
def ic_75 : List (List (Nat × IN)) := [[(0, 0, 0, 1, .inl 0, 1), (1, 0, 1, 0, .inl 0, 2), (2, 3, 2, 110, .inl 0, 5), (5, 10, 1, 15, .inl 0, 8), (8, 0, 0, 1, .inl 0, 9), (9, 1, 0, 0, .inl (-2), 11), (11, 3, 2, 109, .inl 0, 14), (14, 4, 1, 0, .inl 0, 15), (15, 0, 0, 1, .inl 0, 16), (16, 2, 7, 8, .inl 0, 19), (19, 0, 1, 0, .inl 0, 20), (20, 16, 0, 0, .inl 0, 21), (21, 32, 5, 0, .inl 0, 23), (23, 0, 5, 1, .inl 0, 25), (25, 3, 1, 33, .inl 0, 28), (28, 7, 6, 0, .inl 0, 30), (30, 0, 6, 0, .inl 0, 32)],
  [(32, 10, 0, 42, .inl 0, 35), (35, 0, 0, 1, .inl 0, 36), (36, 0, 6, 0, .inl 0, 38), (38, 3, 2, 109, .inl 0, 41), (41, 4, 1, 0, .inl 0, 42), (42, 0, 5, 1, .inl 0, 44), (44, 0, 2, 0, .inl 0, 45), (45, 3, 2, 34, .inl 0, 48), (48, 10, 1, 58, .inl 0, 51), (51, 0, 0, 1, .inl 0, 52), (52, 1, 0, 0, .inl (-2), 54), (54, 3, 2, 109, .inl 0, 57), (57, 4, 1, 0, .inl 0, 58), (58, 0, 5, 1, .inl 0, 60), (60, 0, 2, 0, .inl 0, 61), (61, 0, 3, 2, .inl 0, 62), (62, 3, 3, 36, .inl 0, 65)],
  [(65, 1, 0, 0, .inl 1, 66), (66, 4, 1, 0, .inl 0, 67)]]
/-- ConstellationsByLot.copy -/
def ic_76 : List (List (Nat × IN)) := [[(0, 0, 0, 1, .inl 0, 1), (1, 0, 1, 0, .inl 0, 2), (2, 3, 2, 110, .inl 0, 5), (5, 10, 0, 16, .inl 0, 8), (8, 0, 0, 1, .inl 0, 9), (9, 0, 2, 0, .inl 0, 10), (10, 3, 2, 110, .inl 0, 13), (13, 10, 1, 23, .inl 0, 16), (16, 0, 0, 1, .inl 0, 17), (17, 1, 0, 0, .inl (-2), 19), (19, 3, 2, 109, .inl 0, 22), (22, 4, 1, 0, .inl 0, 23), (23, 0, 0, 1, .inl 0, 24), (24, 2, 7, 8, .inl 0, 27), (27, 0, 1, 0, .inl 0, 28), (28, 16, 0, 0, .inl 0, 29), (29, 32, 6, 0, .inl 0, 31), (31, 0, 0, 1, .inl 0, 32)],
  [(32, 2, 7, 8, .inl 0, 35), (35, 0, 2, 0, .inl 0, 36), (36, 16, 0, 0, .inl 0, 37), (37, 32, 7, 0, .inl 0, 39), (39, 0, 6, 1, .inl 0, 41), (41, 2, 4, 1, .inl 0, 44), (44, 1, 0, 0, .inl (-1), 45), (45, 9, 0, 57, .inl 0, 48), (48, 0, 7, 1, .inl 0, 50), (50, 2, 4, 1, .inl 0, 53), (53, 1, 0, 0, .inl (-1), 54), (54, 9, 1, 61, .inl 0, 57), (57, 1, 0, 0, .inl 1, 58), (58, 6, 0, 62, .inl 0, 61), (61, 1, 0, 0, .inl 0, 62), (62, 7, 8, 0, .inl 0, 64)],
  [(64, 0, 8, 0, .inl 0, 66), (66, 10, 1, 86, .inl 0, 69), (69, 0, 6, 1, .inl 0, 71), (71, 2, 4, 1, .inl 0, 74), (74, 0, 7, 1, .inl 0, 76), (76, 2, 4, 1, .inl 0, 79), (79, 9, 0, 86, .inl 0, 82), (82, 1, 0, 0, .inl 1, 83), (83, 6, 0, 87, .inl 0, 86), (86, 1, 0, 0, .inl 0, 87), (87, 7, 9, 0, .inl 0, 89), (89, 0, 6, 1, .inl 0, 91), (91, 3, 1, 32, .inl 0, 94), (94, 10, 1, 110, .inl 0, 97)],
  [(97, 0, 7, 1, .inl 0, 99), (99, 3, 1, 32, .inl 0, 102), (102, 10, 1, 110, .inl 0, 105), (105, 0, 9, 0, .inl 0, 107), (107, 10, 0, 117, .inl 0, 110), (110, 0, 0, 1, .inl 0, 111), (111, 1, 0, 0, .inl (-3), 113), (113, 3, 2, 109, .inl 0, 116), (116, 4, 1, 0, .inl 0, 117), (117, 0, 8, 0, .inl 0, 119), (119, 10, 0, 129, .inl 0, 122), (122, 0, 0, 1, .inl 0, 123), (123, 1, 0, 0, .inl (-4), 125), (125, 3, 2, 109, .inl 0, 128)],
  [(128, 4, 1, 0, .inl 0, 129), (129, 0, 6, 1, .inl 0, 131), (131, 0, 3, 0, .inl 0, 132), (132, 0, 5, 0, .inl 0, 134), (134, 3, 3, 35, .inl 0, 137), (137, 10, 0, 152, .inl 0, 140), (140, 0, 7, 1, .inl 0, 142), (142, 0, 4, 0, .inl 0, 144), (144, 0, 5, 0, .inl 0, 146), (146, 3, 3, 35, .inl 0, 149), (149, 10, 1, 159, .inl 0, 152), (152, 0, 0, 1, .inl 0, 153), (153, 1, 0, 0, .inl (-2), 155), (155, 3, 2, 109, .inl 0, 158), (158, 4, 1, 0, .inl 0, 159), (159, 0, 6, 1, .inl 0, 161)],
  [(161, 2, 4, 0, .inl 0, 164), (164, 0, 3, 0, .inl 0, 165), (165, 0, 7, 1, .inl 0, 167), (167, 2, 4, 0, .inl 0, 170), (170, 0, 4, 0, .inl 0, 172), (172, 0, 5, 0, .inl 0, 174), (174, 29, 2, 0, .inl 0, 177), (177, 0, 5, 0, .inl 0, 179), (179, 4, 1, 0, .inl 0, 180)]]
/-- ConstellationsByLot.element -/
def ic_77 : List (List (Nat × IN)) := [[(0, 0, 0, 1, .inl 0, 1), (1, 0, 1, 0, .inl 0, 2), (2, 3, 2, 110, .inl 0, 5), (5, 10, 0, 21, .inl 0, 8), (8, 0, 0, 1, .inl 0, 9), (9, 2, 7, 8, .inl 0, 12), (12, 0, 1, 0, .inl 0, 13), (13, 16, 0, 0, .inl 0, 14), (14, 0, 2, 0, .inl 0, 15), (15, 3, 2, 34, .inl 0, 18), (18, 10, 1, 23, .inl 0, 21), (21, 1, 0, 0, .inr (.inl 0), 22), (22, 4, 2, 0, .inl 0, 23), (23, 0, 0, 1, .inl 0, 24), (24, 2, 7, 8, .inl 0, 27), (27, 0, 1, 0, .inl 0, 28), (28, 16, 0, 0, .inl 0, 29), (29, 2, 4, 0, .inl 0, 32)],
  [(32, 0, 2, 0, .inl 0, 33), (33, 21, 0, 0, .inl 0, 34), (34, 4, 2, 0, .inl 0, 35)]]
/-- ConstellationsByLot.holds -/
def ic_78 : List (List (Nat × IN)) := [[(0, 0, 0, 1, .inl 0, 1), (1, 0, 1, 0, .inl 0, 2), (2, 3, 2, 110, .inl 0, 5), (5, 10, 0, 20, .inl 0, 8), (8, 0, 0, 1, .inl 0, 9), (9, 2, 7, 8, .inl 0, 12), (12, 0, 1, 0, .inl 0, 13), (13, 16, 0, 0, .inl 0, 14), (14, 2, 4, 1, .inl 0, 17), (17, 6, 0, 21, .inl 0, 20), (20, 1, 0, 0, .inl (-1), 21), (21, 4, 1, 0, .inl 0, 22)]]
/-- ConstellationsByLot.show -/
def ic_79 : List (List (Nat × IN)) := [[(0, 0, 0, 1, .inl 0, 1), (1, 0, 1, 0, .inl 0, 2), (2, 3, 2, 110, .inl 0, 5), (5, 10, 0, 21, .inl 0, 8), (8, 0, 2, 0, .inl 0, 9), (9, 1, 0, 0, .inl (-1), 10), (10, 9, 0, 28, .inl 0, 13), (13, 0, 0, 1, .inl 0, 14), (14, 0, 2, 0, .inl 0, 15), (15, 3, 2, 112, .inl 0, 18), (18, 10, 1, 28, .inl 0, 21), (21, 0, 0, 1, .inl 0, 22), (22, 1, 0, 0, .inl (-2), 24), (24, 3, 2, 109, .inl 0, 27), (27, 4, 1, 0, .inl 0, 28), (28, 0, 0, 1, .inl 0, 29), (29, 2, 7, 8, .inl 0, 32)],
  [(32, 0, 1, 0, .inl 0, 33), (33, 16, 0, 0, .inl 0, 34), (34, 0, 2, 0, .inl 0, 35), (35, 1, 0, 0, .inl (-1), 36), (36, 9, 1, 43, .inl 0, 39), (39, 1, 0, 0, .inl (-1), 40), (40, 6, 0, 47, .inl 0, 43), (43, 1, 0, 0, .inl 10, 45), (45, 0, 2, 0, .inl 0, 46), (46, 8, 0, 0, .inl 0, 47), (47, 11, 4, 1, .inl 0, 50), (50, 1, 0, 0, .inl 1, 51), (51, 4, 1, 0, .inl 0, 52)]]
/-- ConstellationsByLot.says -/
def ic_80 : List (List (Nat × IN)) := [[(0, 0, 0, 1, .inl 0, 1), (1, 0, 1, 0, .inl 0, 2), (2, 3, 2, 110, .inl 0, 5), (5, 10, 0, 18, .inl 0, 8), (8, 0, 2, 0, .inl 0, 9), (9, 10, 2, 18, .inl 0, 12), (12, 0, 2, 0, .inl 0, 13), (13, 1, 0, 0, .inl 6, 15), (15, 9, 2, 25, .inl 0, 18), (18, 0, 0, 1, .inl 0, 19), (19, 1, 0, 0, .inl (-2), 21), (21, 3, 2, 109, .inl 0, 24), (24, 4, 1, 0, .inl 0, 25), (25, 0, 0, 1, .inl 0, 26), (26, 2, 7, 8, .inl 0, 29), (29, 0, 1, 0, .inl 0, 30), (30, 16, 0, 0, .inl 0, 31), (31, 32, 3, 0, .inl 0, 32)],
  [(32, 0, 3, 1, .inl 0, 33), (33, 2, 4, 1, .inl 0, 36), (36, 1, 0, 0, .inl (-1), 37), (37, 9, 1, 47, .inl 0, 40), (40, 0, 0, 1, .inl 0, 41), (41, 1, 0, 0, .inl (-4), 43), (43, 3, 2, 109, .inl 0, 46), (46, 4, 1, 0, .inl 0, 47), (47, 0, 3, 1, .inl 0, 48), (48, 2, 4, 1, .inl 0, 51), (51, 1, 0, 0, .inl 10, 53), (53, 8, 1, 0, .inl 0, 54), (54, 7, 4, 0, .inl 0, 56), (56, 0, 0, 1, .inl 0, 57), (57, 0, 4, 0, .inl 0, 59), (59, 3, 2, 112, .inl 0, 62), (62, 10, 0, 85, .inl 0, 65)],
  [(65, 0, 0, 1, .inl 0, 66), (66, 2, 7, 0, .inl 0, 69), (69, 2, 5, 2, .inl 0, 72), (72, 0, 4, 0, .inl 0, 74), (74, 16, 0, 0, .inl 0, 75), (75, 2, 2, 2, .inl 0, 78), (78, 0, 2, 0, .inl 0, 79), (79, 3, 2, 114, .inl 0, 82), (82, 10, 1, 92, .inl 0, 85), (85, 0, 0, 1, .inl 0, 86), (86, 1, 0, 0, .inl (-3), 88), (88, 3, 2, 109, .inl 0, 91), (91, 4, 1, 0, .inl 0, 92), (92, 0, 2, 0, .inl 0, 93), (93, 10, 1, 112, .inl 0, 96)],
  [(96, 0, 0, 1, .inl 0, 97), (97, 2, 7, 0, .inl 0, 100), (100, 2, 5, 2, .inl 0, 103), (103, 0, 4, 0, .inl 0, 105), (105, 16, 0, 0, .inl 0, 106), (106, 2, 2, 3, .inl 0, 109), (109, 6, 0, 118, .inl 0, 112), (112, 0, 0, 1, .inl 0, 113), (113, 0, 4, 0, .inl 0, 115), (115, 3, 2, 115, .inl 0, 118), (118, 4, 1, 0, .inl 0, 119)]]
/-- ConstellationsByLot.point -/
def ic_81 : List (List (Nat × IN)) := [[(0, 0, 1, 0, .inl 0, 1), (1, 10, 2, 21, .inl 0, 4), (4, 0, 1, 0, .inl 0, 5), (5, 1, 0, 0, .inl 100, 7), (7, 9, 3, 21, .inl 0, 10), (10, 0, 2, 0, .inl 0, 11), (11, 1, 0, 0, .inl 1, 12), (12, 9, 2, 21, .inl 0, 15), (15, 0, 2, 0, .inl 0, 16), (16, 1, 0, 0, .inl 9, 18), (18, 9, 5, 28, .inl 0, 21), (21, 0, 0, 1, .inl 0, 22), (22, 1, 0, 0, .inl (-2), 24), (24, 3, 2, 109, .inl 0, 27), (27, 4, 1, 0, .inl 0, 28), (28, 0, 0, 1, .inl 0, 29), (29, 2, 7, 0, .inl 0, 32)],
  [(32, 3, 1, 43, .inl 0, 35), (35, 10, 1, 45, .inl 0, 38), (38, 0, 0, 1, .inl 0, 39), (39, 1, 0, 0, .inl (-6), 41), (41, 3, 2, 109, .inl 0, 44), (44, 4, 1, 0, .inl 0, 45), (45, 0, 0, 1, .inl 0, 46), (46, 2, 7, 0, .inl 0, 49), (49, 0, 1, 0, .inl 0, 50), (50, 0, 2, 0, .inl 0, 51), (51, 3, 3, 44, .inl 0, 54), (54, 0, 0, 1, .inl 0, 55), (55, 2, 7, 0, .inl 0, 58), (58, 2, 5, 3, .inl 0, 61), (61, 1, 0, 0, .inl 1, 62), (62, 8, 1, 0, .inl 0, 63), (63, 4, 1, 0, .inl 0, 64)]]
/-- ConstellationsByLot.parish -/
def ic_82 : List (List (Nat × IN)) := [[(0, 0, 1, 0, .inl 0, 1), (1, 10, 2, 20, .inl 0, 4), (4, 0, 1, 0, .inl 0, 5), (5, 1, 0, 0, .inl 6, 7), (7, 9, 3, 20, .inl 0, 10), (10, 0, 2, 0, .inl 0, 11), (11, 10, 2, 20, .inl 0, 14), (14, 0, 2, 0, .inl 0, 15), (15, 1, 0, 0, .inl 9, 17), (17, 9, 5, 27, .inl 0, 20), (20, 0, 0, 1, .inl 0, 21), (21, 1, 0, 0, .inl (-2), 23), (23, 3, 2, 109, .inl 0, 26), (26, 4, 1, 0, .inl 0, 27), (27, 0, 0, 1, .inl 0, 28), (28, 2, 7, 0, .inl 0, 31), (31, 3, 1, 45, .inl 0, 34)],
  [(34, 10, 1, 44, .inl 0, 37), (37, 0, 0, 1, .inl 0, 38), (38, 1, 0, 0, .inl (-6), 40), (40, 3, 2, 109, .inl 0, 43), (43, 4, 1, 0, .inl 0, 44), (44, 0, 0, 1, .inl 0, 45), (45, 2, 7, 0, .inl 0, 48), (48, 0, 1, 0, .inl 0, 49), (49, 0, 2, 0, .inl 0, 50), (50, 3, 3, 46, .inl 0, 53), (53, 0, 0, 1, .inl 0, 54), (54, 2, 7, 0, .inl 0, 57), (57, 2, 5, 4, .inl 0, 60), (60, 1, 0, 0, .inl 1, 61), (61, 8, 1, 0, .inl 0, 62), (62, 4, 1, 0, .inl 0, 63)]]
/-- ConstellationsByLot.wants -/
def ic_83 : List (List (Nat × IN)) := [[(0, 0, 0, 1, .inl 0, 1), (1, 0, 1, 0, .inl 0, 2), (2, 3, 2, 112, .inl 0, 5), (5, 10, 0, 16, .inl 0, 8), (8, 0, 0, 1, .inl 0, 9), (9, 0, 2, 0, .inl 0, 10), (10, 3, 2, 111, .inl 0, 13), (13, 10, 1, 23, .inl 0, 16), (16, 0, 0, 1, .inl 0, 17), (17, 1, 0, 0, .inl (-2), 19), (19, 3, 2, 109, .inl 0, 22), (22, 4, 1, 0, .inl 0, 23), (23, 0, 0, 1, .inl 0, 24), (24, 2, 7, 0, .inl 0, 27), (27, 2, 5, 2, .inl 0, 30), (30, 0, 1, 0, .inl 0, 31), (31, 16, 0, 0, .inl 0, 32)],
  [(32, 32, 4, 0, .inl 0, 34), (34, 1, 0, 0, .inl 1, 35), (35, 0, 2, 0, .inl 0, 36), (36, 8, 6, 0, .inl 0, 37), (37, 7, 5, 0, .inl 0, 39), (39, 0, 4, 1, .inl 0, 41), (41, 0, 5, 0, .inl 0, 43), (43, 3, 2, 14, .inl 0, 46), (46, 10, 0, 53, .inl 0, 49), (49, 1, 0, 0, .inl 1, 50), (50, 6, 0, 54, .inl 0, 53), (53, 1, 0, 0, .inl 0, 54), (54, 7, 6, 0, .inl 0, 56), (56, 0, 3, 0, .inl 0, 57), (57, 10, 0, 75, .inl 0, 60), (60, 0, 4, 1, .inl 0, 62), (62, 13, 0, 0, .inl 0, 63), (63, 2, 2, 4, .inl 0, 66)],
  [(66, 0, 5, 0, .inl 0, 68), (68, 8, 4, 0, .inl 0, 69), (69, 11, 2, 4, .inl 0, 72), (72, 6, 0, 83, .inl 0, 75), (75, 0, 4, 1, .inl 0, 77), (77, 0, 5, 0, .inl 0, 79), (79, 3, 2, 21, .inl 0, 82), (82, 25, 0, 0, .inl 0, 83), (83, 0, 6, 0, .inl 0, 85), (85, 4, 1, 0, .inl 0, 86)]]
/-- ConstellationsByLot.line -/
def ic_84 : List (List (Nat × IN)) := [[(0, 0, 0, 1, .inl 0, 1), (1, 0, 1, 0, .inl 0, 2), (2, 3, 2, 112, .inl 0, 5), (5, 10, 0, 17, .inl 0, 8), (8, 0, 0, 1, .inl 0, 9), (9, 0, 2, 0, .inl 0, 10), (10, 0, 3, 0, .inl 0, 11), (11, 3, 3, 113, .inl 0, 14), (14, 10, 1, 24, .inl 0, 17), (17, 0, 0, 1, .inl 0, 18), (18, 1, 0, 0, .inl (-2), 20), (20, 3, 2, 109, .inl 0, 23), (23, 4, 1, 0, .inl 0, 24), (24, 0, 0, 1, .inl 0, 25), (25, 2, 7, 0, .inl 0, 28), (28, 2, 5, 2, .inl 0, 31), (31, 0, 1, 0, .inl 0, 32)],
  [(32, 16, 0, 0, .inl 0, 33), (33, 32, 4, 0, .inl 0, 35), (35, 1, 0, 0, .inl 1, 36), (36, 0, 2, 0, .inl 0, 37), (37, 8, 6, 0, .inl 0, 38), (38, 1, 0, 0, .inl 1, 39), (39, 0, 3, 0, .inl 0, 40), (40, 8, 6, 0, .inl 0, 41), (41, 8, 4, 0, .inl 0, 42), (42, 7, 5, 0, .inl 0, 44), (44, 0, 4, 1, .inl 0, 46), (46, 0, 5, 0, .inl 0, 48), (48, 3, 2, 14, .inl 0, 51), (51, 10, 0, 65, .inl 0, 54), (54, 0, 4, 1, .inl 0, 56), (56, 0, 5, 0, .inl 0, 58), (58, 3, 2, 17, .inl 0, 61), (61, 1, 0, 0, .inl (-1), 62), (62, 9, 0, 72, .inl 0, 65)],
  [(65, 0, 0, 1, .inl 0, 66), (66, 1, 0, 0, .inl (-5), 68), (68, 3, 2, 109, .inl 0, 71), (71, 4, 1, 0, .inl 0, 72), (72, 0, 4, 1, .inl 0, 74), (74, 3, 1, 15, .inl 0, 77), (77, 10, 1, 87, .inl 0, 80), (80, 0, 0, 1, .inl 0, 81), (81, 1, 0, 0, .inl (-6), 83), (83, 3, 2, 109, .inl 0, 86), (86, 4, 1, 0, .inl 0, 87), (87, 0, 4, 1, .inl 0, 89), (89, 0, 2, 0, .inl 0, 90), (90, 0, 3, 0, .inl 0, 91), (91, 3, 3, 18, .inl 0, 94), (94, 0, 4, 1, .inl 0, 96)],
  [(96, 2, 2, 5, .inl 0, 99), (99, 4, 1, 0, .inl 0, 100)]]
/-- ConstellationsByLot.drop -/
def ic_85 : List (List (Nat × IN)) := [[(0, 0, 0, 1, .inl 0, 1), (1, 0, 1, 0, .inl 0, 2), (2, 3, 2, 112, .inl 0, 5), (5, 10, 0, 17, .inl 0, 8), (8, 0, 0, 1, .inl 0, 9), (9, 0, 2, 0, .inl 0, 10), (10, 0, 3, 0, .inl 0, 11), (11, 3, 3, 113, .inl 0, 14), (14, 10, 1, 24, .inl 0, 17), (17, 0, 0, 1, .inl 0, 18), (18, 1, 0, 0, .inl (-2), 20), (20, 3, 2, 109, .inl 0, 23), (23, 4, 1, 0, .inl 0, 24), (24, 0, 0, 1, .inl 0, 25), (25, 2, 7, 0, .inl 0, 28), (28, 2, 5, 2, .inl 0, 31), (31, 0, 1, 0, .inl 0, 32)],
  [(32, 16, 0, 0, .inl 0, 33), (33, 32, 4, 0, .inl 0, 35), (35, 0, 4, 1, .inl 0, 37), (37, 1, 0, 0, .inl 1, 38), (38, 0, 2, 0, .inl 0, 39), (39, 8, 6, 0, .inl 0, 40), (40, 1, 0, 0, .inl 1, 41), (41, 0, 3, 0, .inl 0, 42), (42, 8, 6, 0, .inl 0, 43), (43, 8, 4, 0, .inl 0, 44), (44, 3, 2, 17, .inl 0, 47), (47, 7, 5, 0, .inl 0, 49), (49, 0, 5, 0, .inl 0, 51), (51, 1, 0, 0, .inl (-1), 52), (52, 9, 1, 62, .inl 0, 55), (55, 0, 0, 1, .inl 0, 56), (56, 1, 0, 0, .inl (-5), 58), (58, 3, 2, 109, .inl 0, 61), (61, 4, 1, 0, .inl 0, 62), (62, 0, 4, 1, .inl 0, 64)],
  [(64, 0, 5, 0, .inl 0, 66), (66, 3, 2, 19, .inl 0, 69), (69, 0, 4, 1, .inl 0, 71), (71, 2, 2, 5, .inl 0, 74), (74, 4, 1, 0, .inl 0, 75)]]
/-- ConstellationsByLot.cloud -/
def ic_86 : List (List (Nat × IN)) := [[(0, 0, 1, 0, .inl 0, 1), (1, 10, 2, 10, .inl 0, 4), (4, 0, 1, 0, .inl 0, 5), (5, 1, 0, 0, .inl 12, 7), (7, 9, 5, 17, .inl 0, 10), (10, 0, 0, 1, .inl 0, 11), (11, 1, 0, 0, .inl (-2), 13), (13, 3, 2, 109, .inl 0, 16), (16, 4, 1, 0, .inl 0, 17), (17, 0, 0, 1, .inl 0, 18), (18, 2, 7, 0, .inl 0, 21), (21, 2, 5, 5, .inl 0, 24), (24, 7, 2, 0, .inl 0, 25), (25, 0, 0, 1, .inl 0, 26), (26, 2, 7, 0, .inl 0, 29), (29, 0, 1, 0, .inl 0, 30), (30, 11, 5, 5, .inl 0, 33)],
  [(33, 0, 2, 0, .inl 0, 34), (34, 4, 1, 0, .inl 0, 35)]]
/-- ConstellationsByLot.feed -/
def ic_87 : List (List (Nat × IN)) := [[(0, 0, 1, 0, .inl 0, 1), (1, 10, 2, 11, .inl 0, 4), (4, 0, 1, 0, .inl 0, 5), (5, 1, 0, 0, .inl 255, 8), (8, 9, 5, 18, .inl 0, 11), (11, 0, 0, 1, .inl 0, 12), (12, 1, 0, 0, .inl (-2), 14), (14, 3, 2, 109, .inl 0, 17), (17, 4, 1, 0, .inl 0, 18), (18, 0, 0, 1, .inl 0, 19), (19, 2, 7, 7, .inl 0, 22), (22, 2, 6, 0, .inl 0, 25), (25, 1, 0, 0, .inl 250, 28), (28, 9, 2, 38, .inl 0, 31), (31, 0, 0, 1, .inl 0, 32)],
  [(32, 1, 0, 0, .inl (-6), 34), (34, 3, 2, 109, .inl 0, 37), (37, 4, 1, 0, .inl 0, 38), (38, 0, 0, 1, .inl 0, 39), (39, 2, 7, 7, .inl 0, 42), (42, 0, 1, 0, .inl 0, 43), (43, 3, 2, 61, .inl 0, 46), (46, 0, 0, 1, .inl 0, 47), (47, 2, 7, 7, .inl 0, 50), (50, 2, 6, 0, .inl 0, 53), (53, 4, 1, 0, .inl 0, 54)]]
/-- ConstellationsByLot.wipe -/
def ic_88 : List (List (Nat × IN)) := [[(0, 0, 0, 1, .inl 0, 1), (1, 2, 7, 7, .inl 0, 4), (4, 2, 6, 0, .inl 0, 7), (7, 7, 1, 0, .inl 0, 8), (8, 0, 0, 1, .inl 0, 9), (9, 2, 7, 7, .inl 0, 12), (12, 1, 0, 0, .inl 0, 13), (13, 11, 6, 0, .inl 0, 16), (16, 0, 1, 0, .inl 0, 17), (17, 4, 1, 0, .inl 0, 18)]]
/-- ConstellationsByLot.sky -/
def ic_89 : List (List (Nat × IN)) := [[(0, 0, 0, 1, .inl 0, 1), (1, 2, 7, 2, .inl 0, 4), (4, 0, 0, 1, .inl 0, 5), (5, 2, 7, 0, .inl 0, 8), (8, 3, 2, 42, .inl 0, 11), (11, 0, 0, 1, .inl 0, 12), (12, 2, 7, 7, .inl 0, 15), (15, 0, 0, 1, .inl 0, 16), (16, 2, 7, 2, .inl 0, 19), (19, 3, 2, 62, .inl 0, 22), (22, 7, 1, 0, .inl 0, 23), (23, 0, 0, 1, .inl 0, 24), (24, 2, 7, 7, .inl 0, 27), (27, 1, 0, 0, .inl 0, 28), (28, 11, 6, 0, .inl 0, 31), (31, 0, 1, 0, .inl 0, 32)],
  [(32, 1, 0, 0, .inl (-1), 33), (33, 9, 1, 54, .inl 0, 36), (36, 0, 0, 1, .inl 0, 37), (37, 1, 0, 0, .inl (-2), 39), (39, 3, 2, 109, .inl 0, 42), (42, 25, 0, 0, .inl 0, 43), (43, 1, 0, 0, .inl (-20), 45), (45, 0, 0, 1, .inl 0, 46), (46, 2, 7, 7, .inl 0, 49), (49, 2, 6, 1, .inl 0, 52), (52, 8, 1, 0, .inl 0, 53), (53, 4, 1, 0, .inl 0, 54), (54, 0, 0, 1, .inl 0, 55), (55, 2, 7, 0, .inl 0, 58), (58, 0, 0, 1, .inl 0, 59), (59, 2, 7, 2, .inl 0, 62), (62, 3, 2, 42, .inl 0, 65)],
  [(65, 0, 1, 0, .inl 0, 66), (66, 4, 1, 0, .inl 0, 67)]]
/-- ConstellationsByLot.pointOf -/
def ic_90 : List (List (Nat × IN)) := [[(0, 0, 0, 1, .inl 0, 1), (1, 0, 1, 0, .inl 0, 2), (2, 3, 2, 111, .inl 0, 5), (5, 10, 1, 15, .inl 0, 8), (8, 0, 0, 1, .inl 0, 9), (9, 1, 0, 0, .inl (-2), 11), (11, 3, 2, 109, .inl 0, 14), (14, 4, 1, 0, .inl 0, 15), (15, 0, 2, 0, .inl 0, 16), (16, 28, 0, 86, .inl 0, 48)],
  [(48, 0, 0, 1, .inl 0, 49), (49, 2, 7, 0, .inl 0, 52), (52, 2, 5, 0, .inl 0, 55), (55, 0, 1, 0, .inl 0, 56), (56, 5, 1, 0, .inl 0, 57), (57, 4, 1, 0, .inl 0, 58), (58, 0, 0, 1, .inl 0, 59), (59, 2, 7, 0, .inl 0, 62), (62, 2, 5, 1, .inl 0, 65)],
  [(65, 0, 1, 0, .inl 0, 66), (66, 5, 1, 0, .inl 0, 67), (67, 4, 1, 0, .inl 0, 68), (68, 0, 0, 1, .inl 0, 69), (69, 2, 7, 0, .inl 0, 72), (72, 0, 1, 0, .inl 0, 73), (73, 3, 2, 51, .inl 0, 76), (76, 4, 1, 0, .inl 0, 77), (77, 0, 0, 1, .inl 0, 78), (78, 2, 7, 0, .inl 0, 81), (81, 0, 1, 0, .inl 0, 82), (82, 3, 2, 54, .inl 0, 85), (85, 4, 1, 0, .inl 0, 86), (86, 0, 0, 1, .inl 0, 87), (87, 1, 0, 0, .inl (-2), 89), (89, 3, 2, 109, .inl 0, 92), (92, 4, 1, 0, .inl 0, 93)]]
/-- ConstellationsByLot.parishOf -/
def ic_91 : List (List (Nat × IN)) := [[(0, 0, 0, 1, .inl 0, 1), (1, 0, 1, 0, .inl 0, 2), (2, 3, 2, 112, .inl 0, 5), (5, 10, 1, 15, .inl 0, 8), (8, 0, 0, 1, .inl 0, 9), (9, 1, 0, 0, .inl (-2), 11), (11, 3, 2, 109, .inl 0, 14), (14, 4, 1, 0, .inl 0, 15), (15, 0, 0, 1, .inl 0, 16), (16, 2, 7, 0, .inl 0, 19), (19, 2, 5, 2, .inl 0, 22), (22, 0, 1, 0, .inl 0, 23), (23, 16, 0, 0, .inl 0, 24), (24, 32, 3, 0, .inl 0, 25), (25, 0, 0, 1, .inl 0, 26), (26, 2, 7, 4, .inl 0, 29), (29, 0, 0, 1, .inl 0, 30), (30, 2, 7, 0, .inl 0, 33)],
  [(33, 0, 3, 1, .inl 0, 34), (34, 3, 3, 5, .inl 0, 37), (37, 0, 2, 0, .inl 0, 38), (38, 28, 0, 200, .inl 0, 100)],
  [],
  [(100, 0, 3, 1, .inl 0, 101), (101, 2, 2, 2, .inl 0, 104), (104, 4, 1, 0, .inl 0, 105), (105, 0, 3, 1, .inl 0, 106), (106, 2, 2, 3, .inl 0, 109), (109, 4, 1, 0, .inl 0, 110), (110, 0, 3, 1, .inl 0, 111), (111, 2, 2, 5, .inl 0, 114), (114, 4, 1, 0, .inl 0, 115), (115, 0, 0, 1, .inl 0, 116), (116, 2, 7, 4, .inl 0, 119), (119, 2, 1, 2, .inl 0, 122), (122, 4, 1, 0, .inl 0, 123), (123, 0, 0, 1, .inl 0, 124), (124, 2, 7, 4, .inl 0, 127), (127, 2, 1, 4, .inl 0, 130)],
  [(130, 4, 1, 0, .inl 0, 131), (131, 0, 0, 1, .inl 0, 132), (132, 2, 7, 4, .inl 0, 135), (135, 2, 1, 7, .inl 0, 138), (138, 4, 1, 0, .inl 0, 139), (139, 0, 0, 1, .inl 0, 140), (140, 2, 7, 4, .inl 0, 143), (143, 2, 1, 3, .inl 0, 146), (146, 4, 1, 0, .inl 0, 147), (147, 0, 0, 1, .inl 0, 148), (148, 2, 7, 4, .inl 0, 151), (151, 2, 1, 8, .inl 0, 154), (154, 4, 1, 0, .inl 0, 155), (155, 0, 0, 1, .inl 0, 156), (156, 2, 7, 4, .inl 0, 159), (159, 3, 1, 8, .inl 0, 162)],
  [(162, 10, 0, 169, .inl 0, 165), (165, 1, 0, 0, .inl 1, 166), (166, 6, 0, 170, .inl 0, 169), (169, 1, 0, 0, .inl 0, 170), (170, 4, 1, 0, .inl 0, 171), (171, 0, 0, 1, .inl 0, 172), (172, 2, 7, 4, .inl 0, 175), (175, 0, 3, 1, .inl 0, 176), (176, 2, 2, 2, .inl 0, 179), (179, 0, 3, 1, .inl 0, 180), (180, 2, 2, 3, .inl 0, 183), (183, 3, 3, 9, .inl 0, 186), (186, 4, 1, 0, .inl 0, 187), (187, 0, 3, 1, .inl 0, 188), (188, 2, 2, 4, .inl 0, 191), (191, 4, 1, 0, .inl 0, 192)],
  [(192, 0, 0, 1, .inl 0, 193), (193, 2, 7, 4, .inl 0, 196), (196, 2, 1, 5, .inl 0, 199), (199, 4, 1, 0, .inl 0, 200), (200, 0, 0, 1, .inl 0, 201), (201, 1, 0, 0, .inl (-2), 203), (203, 3, 2, 109, .inl 0, 206), (206, 4, 1, 0, .inl 0, 207)]]
/-- ConstellationsByLot.crowd -/
def ic_92 : List (List (Nat × IN)) := [[(0, 0, 0, 1, .inl 0, 1), (1, 2, 7, 0, .inl 0, 4), (4, 2, 5, 3, .inl 0, 7), (7, 10, 1, 17, .inl 0, 10), (10, 0, 0, 1, .inl 0, 11), (11, 1, 0, 0, .inl (-5), 13), (13, 3, 2, 109, .inl 0, 16), (16, 4, 1, 0, .inl 0, 17), (17, 1, 0, 0, .inl 0, 18), (18, 7, 1, 0, .inl 0, 19), (19, 0, 0, 1, .inl 0, 20), (20, 2, 7, 0, .inl 0, 23), (23, 1, 0, 0, .inl 0, 24), (24, 3, 2, 54, .inl 0, 27), (27, 7, 2, 0, .inl 0, 28), (28, 1, 0, 0, .inl 1, 29), (29, 7, 3, 5, .inl 0, 30), (30, 0, 3, 0, .inl 0, 31), (31, 0, 0, 1, .inl 0, 32)],
  [(32, 2, 7, 0, .inl 0, 35), (35, 2, 5, 3, .inl 0, 38), (38, 9, 3, 68, .inl 0, 41), (41, 0, 0, 1, .inl 0, 42), (42, 2, 7, 0, .inl 0, 45), (45, 0, 3, 0, .inl 0, 46), (46, 3, 2, 54, .inl 0, 49), (49, 7, 4, 0, .inl 0, 51), (51, 0, 4, 0, .inl 0, 53), (53, 0, 2, 0, .inl 0, 54), (54, 9, 5, 62, .inl 0, 57), (57, 0, 4, 0, .inl 0, 59), (59, 7, 2, 0, .inl 0, 60), (60, 0, 3, 0, .inl 0, 61), (61, 7, 1, 0, .inl 0, 62), (62, 12, 3, 0, .inl 1, 65)],
  [(65, 6, 5, 30, .inl 0, 68), (68, 0, 1, 0, .inl 0, 69), (69, 4, 1, 0, .inl 0, 70)]]
/-- ConstellationsByLot.lineOf -/
def ic_93 : List (List (Nat × IN)) := [[(0, 0, 0, 1, .inl 0, 1), (1, 0, 1, 0, .inl 0, 2), (2, 3, 2, 112, .inl 0, 5), (5, 10, 1, 15, .inl 0, 8), (8, 0, 0, 1, .inl 0, 9), (9, 1, 0, 0, .inl (-2), 11), (11, 3, 2, 109, .inl 0, 14), (14, 4, 1, 0, .inl 0, 15), (15, 0, 0, 1, .inl 0, 16), (16, 2, 7, 0, .inl 0, 19), (19, 2, 5, 2, .inl 0, 22), (22, 0, 1, 0, .inl 0, 23), (23, 16, 0, 0, .inl 0, 24), (24, 32, 3, 0, .inl 0, 25), (25, 0, 2, 0, .inl 0, 26), (26, 10, 2, 37, .inl 0, 29), (29, 0, 2, 0, .inl 0, 30), (30, 0, 3, 1, .inl 0, 31), (31, 2, 2, 5, .inl 0, 34)],
  [(34, 9, 2, 44, .inl 0, 37), (37, 0, 0, 1, .inl 0, 38), (38, 1, 0, 0, .inl (-2), 40), (40, 3, 2, 109, .inl 0, 43), (43, 4, 1, 0, .inl 0, 44), (44, 1, 0, 0, .inl 100, 46), (46, 0, 3, 1, .inl 0, 47), (47, 2, 2, 0, .inl 0, 50), (50, 0, 2, 0, .inl 0, 51), (51, 5, 1, 0, .inl 0, 52), (52, 8, 2, 0, .inl 0, 53), (53, 0, 3, 1, .inl 0, 54), (54, 2, 2, 1, .inl 0, 57), (57, 0, 2, 0, .inl 0, 58), (58, 5, 1, 0, .inl 0, 59), (59, 8, 0, 0, .inl 0, 60), (60, 4, 1, 0, .inl 0, 61)]]
/-- ConstellationsByLot.shift -/
def ic_94 : List (List (Nat × IN)) := [[(0, 0, 0, 1, .inl 0, 1), (1, 0, 1, 0, .inl 0, 2), (2, 3, 2, 112, .inl 0, 5), (5, 10, 0, 21, .inl 0, 8), (8, 0, 0, 1, .inl 0, 9), (9, 0, 2, 0, .inl 0, 10), (10, 3, 2, 112, .inl 0, 13), (13, 10, 0, 21, .inl 0, 16), (16, 0, 1, 0, .inl 0, 17), (17, 0, 2, 0, .inl 0, 18), (18, 9, 1, 28, .inl 0, 21), (21, 0, 0, 1, .inl 0, 22), (22, 1, 0, 0, .inl (-2), 24), (24, 3, 2, 109, .inl 0, 27), (27, 4, 1, 0, .inl 0, 28), (28, 0, 0, 1, .inl 0, 29), (29, 2, 7, 0, .inl 0, 32)],
  [(32, 0, 0, 1, .inl 0, 33), (33, 2, 7, 0, .inl 0, 36), (36, 2, 5, 2, .inl 0, 39), (39, 0, 1, 0, .inl 0, 40), (40, 16, 0, 0, .inl 0, 41), (41, 0, 0, 1, .inl 0, 42), (42, 2, 7, 0, .inl 0, 45), (45, 2, 5, 2, .inl 0, 48), (48, 0, 2, 0, .inl 0, 49), (49, 16, 0, 0, .inl 0, 50), (50, 3, 3, 37, .inl 0, 53), (53, 4, 1, 0, .inl 0, 54)]]
/-- ConstellationsByLot.better -/
def ic_95 : List (List (Nat × IN)) := [[(0, 0, 0, 1, .inl 0, 1), (1, 0, 1, 0, .inl 0, 2), (2, 3, 2, 112, .inl 0, 5), (5, 10, 1, 15, .inl 0, 8), (8, 0, 0, 1, .inl 0, 9), (9, 1, 0, 0, .inl (-2), 11), (11, 3, 2, 109, .inl 0, 14), (14, 4, 1, 0, .inl 0, 15), (15, 0, 2, 0, .inl 0, 16), (16, 28, 0, 92, .inl 0, 44)],
  [(44, 0, 0, 1, .inl 0, 45), (45, 2, 7, 0, .inl 0, 48), (48, 0, 0, 1, .inl 0, 49), (49, 2, 7, 0, .inl 0, 52), (52, 2, 5, 2, .inl 0, 55), (55, 0, 1, 0, .inl 0, 56), (56, 16, 0, 0, .inl 0, 57), (57, 2, 2, 4, .inl 0, 60), (60, 3, 2, 56, .inl 0, 63), (63, 4, 1, 0, .inl 0, 64)],
  [(64, 0, 0, 1, .inl 0, 65), (65, 0, 0, 1, .inl 0, 66), (66, 2, 7, 0, .inl 0, 69), (69, 2, 5, 2, .inl 0, 72), (72, 0, 1, 0, .inl 0, 73), (73, 16, 0, 0, .inl 0, 74), (74, 3, 2, 119, .inl 0, 77), (77, 4, 1, 0, .inl 0, 78), (78, 0, 0, 1, .inl 0, 79), (79, 0, 0, 1, .inl 0, 80), (80, 2, 7, 0, .inl 0, 83), (83, 2, 5, 2, .inl 0, 86), (86, 0, 1, 0, .inl 0, 87), (87, 16, 0, 0, .inl 0, 88), (88, 3, 2, 120, .inl 0, 91), (91, 4, 1, 0, .inl 0, 92), (92, 0, 0, 1, .inl 0, 93), (93, 1, 0, 0, .inl (-2), 95), (95, 3, 2, 109, .inl 0, 98)],
  [(98, 4, 1, 0, .inl 0, 99)]]
/-- ConstellationsByLot.share -/
def ic_96 : List (List (Nat × IN)) := [[(0, 0, 1, 0, .inl 0, 1), (1, 1, 0, 0, .inl (-1), 2), (2, 9, 1, 49, .inl 0, 5), (5, 0, 0, 1, .inl 0, 6), (6, 2, 7, 0, .inl 0, 9), (9, 2, 5, 4, .inl 0, 12), (12, 10, 1, 22, .inl 0, 15), (15, 0, 0, 1, .inl 0, 16), (16, 1, 0, 0, .inl (-5), 18), (18, 3, 2, 109, .inl 0, 21), (21, 4, 1, 0, .inl 0, 22), (22, 0, 0, 1, .inl 0, 23), (23, 2, 7, 5, .inl 0, 26), (26, 0, 0, 1, .inl 0, 27), (27, 2, 7, 0, .inl 0, 30), (30, 0, 0, 1, .inl 0, 31), (31, 2, 7, 4, .inl 0, 34)],
  [(34, 0, 0, 1, .inl 0, 35), (35, 2, 7, 3, .inl 0, 38), (38, 3, 4, 22, .inl 0, 41), (41, 0, 0, 1, .inl 0, 42), (42, 2, 7, 5, .inl 0, 45), (45, 2, 3, 3, .inl 0, 48), (48, 4, 1, 0, .inl 0, 49), (49, 0, 1, 0, .inl 0, 50), (50, 10, 2, 69, .inl 0, 53), (53, 0, 1, 0, .inl 0, 54), (54, 1, 0, 0, .inl 5, 55), (55, 9, 3, 69, .inl 0, 58), (58, 0, 1, 0, .inl 0, 59), (59, 0, 0, 1, .inl 0, 60), (60, 2, 7, 0, .inl 0, 63), (63, 3, 1, 53, .inl 0, 66)],
  [(66, 9, 2, 76, .inl 0, 69), (69, 0, 0, 1, .inl 0, 70), (70, 1, 0, 0, .inl (-2), 72), (72, 3, 2, 109, .inl 0, 75), (75, 4, 1, 0, .inl 0, 76), (76, 0, 0, 1, .inl 0, 77), (77, 2, 7, 5, .inl 0, 80), (80, 0, 0, 1, .inl 0, 81), (81, 2, 7, 0, .inl 0, 84), (84, 0, 0, 1, .inl 0, 85), (85, 2, 7, 4, .inl 0, 88), (88, 0, 0, 1, .inl 0, 89), (89, 2, 7, 3, .inl 0, 92), (92, 3, 4, 22, .inl 0, 95), (95, 0, 0, 1, .inl 0, 96)],
  [(96, 2, 7, 5, .inl 0, 99), (99, 2, 3, 1, .inl 0, 102), (102, 0, 1, 0, .inl 0, 103), (103, 5, 1, 0, .inl 0, 104), (104, 4, 1, 0, .inl 0, 105)]]
/-- ConstellationsByLot.colours -/
def ic_97 : List (List (Nat × IN)) := [[(0, 0, 0, 1, .inl 0, 1), (1, 2, 7, 6, .inl 0, 4), (4, 0, 0, 1, .inl 0, 5), (5, 2, 7, 0, .inl 0, 8), (8, 3, 2, 1, .inl 0, 11), (11, 4, 1, 0, .inl 0, 12)]]
/-- ConstellationsByLot.way -/
def ic_98 : List (List (Nat × IN)) := [[(0, 0, 0, 1, .inl 0, 1), (1, 0, 1, 0, .inl 0, 2), (2, 3, 2, 112, .inl 0, 5), (5, 10, 0, 16, .inl 0, 8), (8, 0, 0, 1, .inl 0, 9), (9, 0, 2, 0, .inl 0, 10), (10, 3, 2, 112, .inl 0, 13), (13, 10, 1, 23, .inl 0, 16), (16, 0, 0, 1, .inl 0, 17), (17, 1, 0, 0, .inl (-2), 19), (19, 3, 2, 109, .inl 0, 22), (22, 4, 1, 0, .inl 0, 23), (23, 0, 0, 1, .inl 0, 24), (24, 2, 7, 6, .inl 0, 27), (27, 0, 0, 1, .inl 0, 28), (28, 2, 7, 0, .inl 0, 31), (31, 0, 1, 0, .inl 0, 32)],
  [(32, 0, 2, 0, .inl 0, 33), (33, 3, 4, 3, .inl 0, 36), (36, 4, 1, 0, .inl 0, 37)]]
/-- ConstellationsByLot.pick -/
def ic_99 : List (List (Nat × IN)) := [[(0, 0, 1, 0, .inl 0, 1), (1, 10, 2, 10, .inl 0, 4), (4, 0, 1, 0, .inl 0, 5), (5, 1, 0, 0, .inl 6, 7), (7, 9, 2, 17, .inl 0, 10), (10, 0, 0, 1, .inl 0, 11), (11, 1, 0, 0, .inl (-2), 13), (13, 3, 2, 109, .inl 0, 16), (16, 4, 1, 0, .inl 0, 17), (17, 0, 0, 1, .inl 0, 18), (18, 0, 1, 0, .inl 0, 19), (19, 3, 2, 121, .inl 0, 22), (22, 4, 1, 0, .inl 0, 23)]]
/-- ConstellationsByLot.laws -/
def ic_100 : List (List (Nat × IN)) := [[(0, 0, 0, 1, .inl 0, 1), (1, 0, 1, 0, .inl 0, 2), (2, 3, 2, 112, .inl 0, 5), (5, 10, 1, 15, .inl 0, 8), (8, 0, 0, 1, .inl 0, 9), (9, 1, 0, 0, .inl (-2), 11), (11, 3, 2, 109, .inl 0, 14), (14, 4, 1, 0, .inl 0, 15), (15, 1, 0, 0, .inl 0, 16), (16, 7, 2, 0, .inl 0, 17), (17, 1, 0, 0, .inl 0, 18), (18, 7, 3, 5, .inl 0, 19), (19, 0, 3, 0, .inl 0, 20), (20, 1, 0, 0, .inl 6, 22), (22, 9, 3, 46, .inl 0, 25), (25, 0, 0, 1, .inl 0, 26), (26, 0, 3, 0, .inl 0, 27), (27, 3, 2, 121, .inl 0, 30), (30, 0, 1, 0, .inl 0, 31), (31, 9, 1, 40, .inl 0, 34)],
  [(34, 0, 2, 0, .inl 0, 35), (35, 1, 0, 0, .inl 1, 36), (36, 0, 3, 0, .inl 0, 37), (37, 8, 6, 0, .inl 0, 38), (38, 8, 4, 0, .inl 0, 39), (39, 7, 2, 0, .inl 0, 40), (40, 12, 3, 0, .inl 1, 43), (43, 6, 5, 19, .inl 0, 46), (46, 0, 2, 0, .inl 0, 47), (47, 4, 1, 0, .inl 0, 48)]]
/-- ConstellationsByLot.whose -/
def ic_101 : List (List (Nat × IN)) := [[(0, 0, 0, 1, .inl 0, 1), (1, 0, 1, 0, .inl 0, 2), (2, 3, 2, 110, .inl 0, 5), (5, 10, 0, 27, .inl 0, 8), (8, 0, 2, 0, .inl 0, 9), (9, 10, 2, 27, .inl 0, 12), (12, 0, 2, 0, .inl 0, 13), (13, 1, 0, 0, .inl 20, 15), (15, 9, 4, 27, .inl 0, 18), (18, 0, 3, 0, .inl 0, 19), (19, 10, 2, 27, .inl 0, 22), (22, 0, 3, 0, .inl 0, 23), (23, 1, 0, 0, .inl 1, 24), (24, 9, 5, 34, .inl 0, 27), (27, 0, 0, 1, .inl 0, 28), (28, 1, 0, 0, .inl (-2), 30), (30, 3, 2, 109, .inl 0, 33)],
  [(33, 4, 1, 0, .inl 0, 34), (34, 0, 0, 1, .inl 0, 35), (35, 2, 7, 8, .inl 0, 38), (38, 0, 1, 0, .inl 0, 39), (39, 16, 0, 0, .inl 0, 40), (40, 32, 4, 0, .inl 0, 42), (42, 0, 4, 1, .inl 0, 44), (44, 3, 1, 33, .inl 0, 47), (47, 7, 5, 0, .inl 0, 49), (49, 0, 5, 0, .inl 0, 51), (51, 10, 0, 61, .inl 0, 54), (54, 0, 0, 1, .inl 0, 55), (55, 0, 5, 0, .inl 0, 57), (57, 3, 2, 109, .inl 0, 60), (60, 4, 1, 0, .inl 0, 61), (61, 0, 4, 1, .inl 0, 63), (63, 2, 4, 2, .inl 0, 66)],
  [(66, 1, 0, 0, .inl 2, 67), (67, 0, 2, 0, .inl 0, 68), (68, 8, 2, 0, .inl 0, 69), (69, 9, 3, 79, .inl 0, 72), (72, 0, 0, 1, .inl 0, 73), (73, 1, 0, 0, .inl (-2), 75), (75, 3, 2, 109, .inl 0, 78), (78, 4, 1, 0, .inl 0, 79), (79, 0, 0, 1, .inl 0, 80), (80, 2, 7, 0, .inl 0, 83), (83, 2, 5, 4, .inl 0, 86), (86, 10, 0, 99, .inl 0, 89), (89, 0, 0, 1, .inl 0, 90), (90, 0, 4, 1, .inl 0, 92), (92, 0, 2, 0, .inl 0, 93), (93, 3, 3, 122, .inl 0, 96)],
  [(96, 10, 1, 106, .inl 0, 99), (99, 0, 0, 1, .inl 0, 100), (100, 1, 0, 0, .inl (-5), 102), (102, 3, 2, 109, .inl 0, 105), (105, 4, 1, 0, .inl 0, 106), (106, 0, 0, 1, .inl 0, 107), (107, 0, 4, 1, .inl 0, 109), (109, 0, 2, 0, .inl 0, 110), (110, 3, 3, 123, .inl 0, 113), (113, 7, 6, 0, .inl 0, 115), (115, 0, 0, 1, .inl 0, 116), (116, 0, 6, 0, .inl 0, 118), (118, 3, 2, 125, .inl 0, 121), (121, 7, 7, 0, .inl 0, 123), (123, 0, 3, 0, .inl 0, 124), (124, 10, 1, 132, .inl 0, 127), (127, 0, 7, 0, .inl 0, 129)],
  [(129, 6, 0, 148, .inl 0, 132), (132, 0, 0, 1, .inl 0, 133), (133, 0, 0, 1, .inl 0, 134), (134, 2, 7, 0, .inl 0, 137), (137, 2, 5, 2, .inl 0, 140), (140, 0, 7, 0, .inl 0, 142), (142, 16, 0, 0, .inl 0, 143), (143, 0, 6, 0, .inl 0, 145), (145, 3, 3, 126, .inl 0, 148), (148, 4, 1, 0, .inl 0, 149)]]
/-- ConstellationsByLot.seen -/
def ic_102 : List (List (Nat × IN)) := [[(0, 0, 0, 1, .inl 0, 1), (1, 0, 1, 0, .inl 0, 2), (2, 3, 2, 112, .inl 0, 5), (5, 10, 1, 15, .inl 0, 8), (8, 0, 0, 1, .inl 0, 9), (9, 1, 0, 0, .inl (-2), 11), (11, 3, 2, 109, .inl 0, 14), (14, 4, 1, 0, .inl 0, 15), (15, 0, 0, 1, .inl 0, 16), (16, 2, 7, 4, .inl 0, 19), (19, 0, 0, 1, .inl 0, 20), (20, 2, 7, 0, .inl 0, 23), (23, 0, 0, 1, .inl 0, 24), (24, 2, 7, 0, .inl 0, 27), (27, 2, 5, 2, .inl 0, 30), (30, 0, 1, 0, .inl 0, 31), (31, 16, 0, 0, .inl 0, 32)],
  [(32, 3, 3, 5, .inl 0, 35), (35, 1, 0, 0, .inl 12, 37), (37, 0, 0, 1, .inl 0, 38), (38, 2, 7, 0, .inl 0, 41), (41, 2, 5, 5, .inl 0, 44), (44, 8, 1, 0, .inl 0, 45), (45, 7, 3, 0, .inl 0, 46), (46, 0, 2, 0, .inl 0, 47), (47, 28, 0, 107, .inl 0, 72)],
  [(72, 0, 0, 1, .inl 0, 73), (73, 2, 7, 4, .inl 0, 76), (76, 2, 1, 2, .inl 0, 79), (79, 3, 1, 224, .inl 0, 82), (82, 0, 3, 0, .inl 0, 83), (83, 3, 2, 127, .inl 0, 86), (86, 4, 1, 0, .inl 0, 87), (87, 1, 0, 0, .inl 1000, 90), (90, 0, 0, 1, .inl 0, 91), (91, 2, 7, 4, .inl 0, 94), (94, 2, 1, 1, .inl 0, 97)],
  [(97, 8, 2, 0, .inl 0, 98), (98, 0, 3, 0, .inl 0, 99), (99, 8, 2, 0, .inl 0, 100), (100, 0, 3, 0, .inl 0, 101), (101, 8, 2, 0, .inl 0, 102), (102, 1, 0, 0, .inl 144, 105), (105, 19, 0, 0, .inl 0, 106), (106, 4, 1, 0, .inl 0, 107), (107, 0, 0, 1, .inl 0, 108), (108, 1, 0, 0, .inl (-2), 110), (110, 3, 2, 109, .inl 0, 113), (113, 4, 1, 0, .inl 0, 114)]]
/-- ConstellationsByLot.nights -/
def ic_103 : List (List (Nat × IN)) := [[(0, 0, 1, 0, .inl 0, 1), (1, 1, 0, 0, .inl 1, 2), (2, 9, 2, 11, .inl 0, 5), (5, 0, 1, 0, .inl 0, 6), (6, 1, 0, 0, .inl 40, 8), (8, 9, 5, 18, .inl 0, 11), (11, 0, 0, 1, .inl 0, 12), (12, 1, 0, 0, .inl (-2), 14), (14, 3, 2, 109, .inl 0, 17), (17, 4, 1, 0, .inl 0, 18), (18, 1, 0, 0, .inl 0, 19), (19, 7, 2, 4, .inl 0, 20), (20, 0, 2, 0, .inl 0, 21), (21, 0, 1, 0, .inl 0, 22), (22, 9, 3, 66, .inl 0, 25), (25, 1, 0, 0, .inl 0, 26), (26, 7, 3, 5, .inl 0, 27), (27, 0, 3, 0, .inl 0, 28), (28, 0, 0, 1, .inl 0, 29), (29, 2, 7, 0, .inl 0, 32)],
  [(32, 2, 5, 4, .inl 0, 35), (35, 9, 3, 60, .inl 0, 38), (38, 0, 0, 1, .inl 0, 39), (39, 2, 7, 0, .inl 0, 42), (42, 0, 0, 1, .inl 0, 43), (43, 2, 7, 0, .inl 0, 46), (46, 2, 5, 2, .inl 0, 49), (49, 0, 3, 0, .inl 0, 50), (50, 16, 0, 0, .inl 0, 51), (51, 3, 2, 58, .inl 0, 54), (54, 12, 3, 0, .inl 1, 57), (57, 6, 5, 27, .inl 0, 60), (60, 12, 2, 0, .inl 1, 63), (63, 6, 4, 20, .inl 0, 66)],
  [(66, 0, 0, 1, .inl 0, 67), (67, 2, 7, 0, .inl 0, 70), (70, 3, 1, 55, .inl 0, 73), (73, 4, 1, 0, .inl 0, 74)]]
/-- ConstellationsByLot.give -/
def ic_104 : List (List (Nat × IN)) := [[(0, 0, 0, 1, .inl 0, 1), (1, 2, 7, 0, .inl 0, 4), (4, 2, 5, 4, .inl 0, 7), (7, 10, 1, 17, .inl 0, 10), (10, 0, 0, 1, .inl 0, 11), (11, 1, 0, 0, .inl (-5), 13), (13, 3, 2, 109, .inl 0, 16), (16, 4, 1, 0, .inl 0, 17), (17, 0, 0, 1, .inl 0, 18), (18, 2, 7, 5, .inl 0, 21), (21, 0, 0, 1, .inl 0, 22), (22, 2, 7, 0, .inl 0, 25), (25, 0, 0, 1, .inl 0, 26), (26, 2, 7, 4, .inl 0, 29), (29, 0, 0, 1, .inl 0, 30), (30, 2, 7, 3, .inl 0, 33)],
  [(33, 3, 4, 22, .inl 0, 36), (36, 1, 0, 0, .inl 0, 37), (37, 7, 1, 0, .inl 0, 38), (38, 1, 0, 0, .inl 0, 39), (39, 7, 2, 4, .inl 0, 40), (40, 0, 2, 0, .inl 0, 41), (41, 0, 0, 1, .inl 0, 42), (42, 2, 7, 5, .inl 0, 45), (45, 2, 3, 2, .inl 0, 48), (48, 9, 3, 115, .inl 0, 51), (51, 1, 0, 0, .inl 0, 52), (52, 7, 3, 5, .inl 0, 53), (53, 0, 3, 0, .inl 0, 54), (54, 0, 0, 1, .inl 0, 55), (55, 2, 7, 0, .inl 0, 58), (58, 2, 5, 4, .inl 0, 61), (61, 9, 3, 109, .inl 0, 64)],
  [(64, 0, 3, 0, .inl 0, 65), (65, 0, 0, 1, .inl 0, 66), (66, 2, 7, 5, .inl 0, 69), (69, 2, 3, 1, .inl 0, 72), (72, 0, 2, 0, .inl 0, 73), (73, 5, 1, 0, .inl 0, 74), (74, 9, 0, 103, .inl 0, 77), (77, 0, 1, 0, .inl 0, 78), (78, 0, 0, 1, .inl 0, 79), (79, 2, 7, 0, .inl 0, 82), (82, 2, 5, 2, .inl 0, 85), (85, 0, 3, 0, .inl 0, 86), (86, 16, 0, 0, .inl 0, 87), (87, 1, 0, 0, .inl 1, 88), (88, 0, 0, 1, .inl 0, 89), (89, 2, 7, 5, .inl 0, 92), (92, 2, 3, 0, .inl 0, 95), (95, 0, 2, 0, .inl 0, 96)],
  [(96, 5, 1, 0, .inl 0, 97), (97, 8, 6, 0, .inl 0, 98), (98, 3, 2, 21, .inl 0, 101), (101, 8, 0, 0, .inl 0, 102), (102, 7, 1, 0, .inl 0, 103), (103, 12, 3, 0, .inl 1, 106), (106, 6, 5, 53, .inl 0, 109), (109, 12, 2, 0, .inl 1, 112), (112, 6, 4, 40, .inl 0, 115), (115, 0, 1, 0, .inl 0, 116), (116, 4, 1, 0, .inl 0, 117)]]
/-- ConstellationsByLot.seed -/
def ic_105 : List (List (Nat × IN)) := [[(0, 0, 0, 1, .inl 0, 1), (1, 2, 7, 0, .inl 0, 4), (4, 2, 5, 6, .inl 0, 7), (7, 7, 2, 0, .inl 0, 8), (8, 0, 0, 1, .inl 0, 9), (9, 2, 7, 0, .inl 0, 12), (12, 0, 1, 0, .inl 0, 13), (13, 11, 5, 6, .inl 0, 16), (16, 0, 2, 0, .inl 0, 17), (17, 4, 1, 0, .inl 0, 18)]]
/-- ConstellationsByLot.image -/
def ic_106 : List (List (Nat × IN)) := [[(0, 0, 0, 1, .inl 0, 1), (1, 2, 7, 1, .inl 0, 4), (4, 0, 0, 1, .inl 0, 5), (5, 2, 7, 0, .inl 0, 8), (8, 3, 2, 42, .inl 0, 11), (11, 0, 0, 1, .inl 0, 12), (12, 1, 0, 0, .inl 1, 13), (13, 11, 7, 11, .inl 0, 16), (16, 1, 0, 0, .inl 1, 17), (17, 4, 1, 0, .inl 0, 18)]]
/-- ConstellationsByLot.back -/
def ic_107 : List (List (Nat × IN)) := [[(0, 0, 0, 1, .inl 0, 1), (1, 2, 7, 11, .inl 0, 4), (4, 10, 1, 14, .inl 0, 7), (7, 0, 0, 1, .inl 0, 8), (8, 1, 0, 0, .inl (-5), 10), (10, 3, 2, 109, .inl 0, 13), (13, 4, 1, 0, .inl 0, 14), (14, 0, 0, 1, .inl 0, 15), (15, 2, 7, 0, .inl 0, 18), (18, 0, 0, 1, .inl 0, 19), (19, 2, 7, 1, .inl 0, 22), (22, 3, 2, 42, .inl 0, 25), (25, 1, 0, 0, .inl 0, 26), (26, 7, 1, 3, .inl 0, 27), (27, 0, 1, 0, .inl 0, 28), (28, 1, 0, 0, .inl 8, 30), (30, 9, 3, 72, .inl 0, 33)],
  [(33, 0, 0, 1, .inl 0, 34), (34, 2, 7, 8, .inl 0, 37), (37, 0, 1, 0, .inl 0, 38), (38, 16, 0, 0, .inl 0, 39), (39, 32, 2, 0, .inl 0, 40), (40, 0, 2, 1, .inl 0, 41), (41, 3, 1, 32, .inl 0, 44), (44, 10, 0, 66, .inl 0, 47), (47, 0, 0, 1, .inl 0, 48), (48, 0, 2, 1, .inl 0, 49), (49, 2, 4, 1, .inl 0, 52), (52, 1, 0, 0, .inl 10, 54), (54, 8, 1, 0, .inl 0, 55), (55, 3, 2, 112, .inl 0, 58), (58, 10, 1, 66, .inl 0, 61), (61, 0, 2, 1, .inl 0, 62), (62, 1, 0, 0, .inl (-1), 63), (63, 11, 4, 1, .inl 0, 66)],
  [(66, 12, 1, 0, .inl 1, 69), (69, 6, 3, 27, .inl 0, 72), (72, 1, 0, 0, .inl 1, 73), (73, 4, 1, 0, .inl 0, 74)]]
/-- ConstellationsByLot.status -/
def ic_108 : List (List (Nat × IN)) := [[(0, 0, 1, 0, .inl 0, 1), (1, 28, 0, 185, .inl 0, 84)],
  [],
  [(84, 0, 0, 1, .inl 0, 85), (85, 2, 7, 0, .inl 0, 88), (88, 2, 5, 3, .inl 0, 91), (91, 4, 1, 0, .inl 0, 92), (92, 0, 0, 1, .inl 0, 93), (93, 2, 7, 0, .inl 0, 96)],
  [(96, 2, 5, 4, .inl 0, 99), (99, 4, 1, 0, .inl 0, 100), (100, 0, 0, 1, .inl 0, 101), (101, 2, 7, 0, .inl 0, 104), (104, 2, 5, 5, .inl 0, 107), (107, 4, 1, 0, .inl 0, 108), (108, 0, 0, 1, .inl 0, 109), (109, 2, 7, 0, .inl 0, 112), (112, 3, 1, 55, .inl 0, 115), (115, 4, 1, 0, .inl 0, 116), (116, 0, 0, 1, .inl 0, 117), (117, 3, 1, 117, .inl 0, 120), (120, 4, 1, 0, .inl 0, 121), (121, 0, 0, 1, .inl 0, 122), (122, 2, 7, 0, .inl 0, 125), (125, 3, 1, 53, .inl 0, 128)],
  [(128, 4, 1, 0, .inl 0, 129), (129, 0, 0, 1, .inl 0, 130), (130, 2, 7, 7, .inl 0, 133), (133, 2, 6, 0, .inl 0, 136), (136, 4, 1, 0, .inl 0, 137), (137, 0, 0, 1, .inl 0, 138), (138, 2, 7, 0, .inl 0, 141), (141, 2, 5, 6, .inl 0, 144), (144, 4, 1, 0, .inl 0, 145), (145, 0, 0, 1, .inl 0, 146), (146, 3, 1, 118, .inl 0, 149), (149, 4, 1, 0, .inl 0, 150), (150, 0, 0, 1, .inl 0, 151), (151, 2, 7, 9, .inl 0, 154), (154, 1, 0, 0, .inl 0, 155), (155, 5, 1, 0, .inl 0, 156), (156, 4, 1, 0, .inl 0, 157), (157, 0, 0, 1, .inl 0, 158), (158, 2, 7, 9, .inl 0, 161)],
  [(161, 1, 0, 0, .inl 1, 162), (162, 5, 1, 0, .inl 0, 163), (163, 4, 1, 0, .inl 0, 164), (164, 0, 0, 1, .inl 0, 165), (165, 2, 7, 9, .inl 0, 168), (168, 1, 0, 0, .inl 2, 169), (169, 5, 1, 0, .inl 0, 170), (170, 4, 1, 0, .inl 0, 171), (171, 0, 0, 1, .inl 0, 172), (172, 2, 7, 9, .inl 0, 175), (175, 1, 0, 0, .inl 3, 176), (176, 5, 1, 0, .inl 0, 177), (177, 4, 1, 0, .inl 0, 178), (178, 0, 0, 1, .inl 0, 179), (179, 2, 7, 9, .inl 0, 182), (182, 1, 0, 0, .inl 4, 183), (183, 5, 1, 0, .inl 0, 184), (184, 4, 1, 0, .inl 0, 185), (185, 1, 0, 0, .inl (-1), 186), (186, 4, 1, 0, .inl 0, 187)]]
/-- ConstellationsByLot.refuse -/
def ic_109 : List (List (Nat × IN)) := [[(0, 1, 0, 0, .inl (-2), 2), (2, 0, 1, 0, .inl 0, 3), (3, 8, 1, 0, .inl 0, 4), (4, 7, 2, 0, .inl 0, 5), (5, 0, 2, 0, .inl 0, 6), (6, 10, 2, 24, .inl 0, 9), (9, 0, 2, 0, .inl 0, 10), (10, 1, 0, 0, .inl 5, 11), (11, 9, 3, 24, .inl 0, 14), (14, 0, 0, 1, .inl 0, 15), (15, 2, 7, 9, .inl 0, 18), (18, 0, 2, 0, .inl 0, 19), (19, 24, 0, 0, .inl 0, 20), (20, 5, 1, 0, .inl 0, 21), (21, 1, 0, 0, .inl 1, 22), (22, 8, 0, 0, .inl 0, 23), (23, 14, 1, 0, .inl 0, 24), (24, 0, 1, 0, .inl 0, 25), (25, 4, 1, 0, .inl 0, 26)]]
/-- ConstellationsByLot.isShelf -/
def ic_110 : List (List (Nat × IN)) := [[(0, 0, 1, 0, .inl 0, 1), (1, 10, 2, 14, .inl 0, 4), (4, 0, 1, 0, .inl 0, 5), (5, 1, 0, 0, .inl 8, 7), (7, 9, 3, 14, .inl 0, 10), (10, 1, 0, 0, .inl 1, 11), (11, 6, 0, 15, .inl 0, 14), (14, 1, 0, 0, .inl 0, 15), (15, 4, 3, 0, .inl 0, 16)]]
/-- ConstellationsByLot.isPoint -/
def ic_111 : List (List (Nat × IN)) := [[(0, 0, 1, 0, .inl 0, 1), (1, 10, 2, 19, .inl 0, 4), (4, 0, 1, 0, .inl 0, 5), (5, 0, 0, 1, .inl 0, 6), (6, 2, 7, 0, .inl 0, 9), (9, 2, 5, 3, .inl 0, 12), (12, 9, 3, 19, .inl 0, 15), (15, 1, 0, 0, .inl 1, 16), (16, 6, 0, 20, .inl 0, 19), (19, 1, 0, 0, .inl 0, 20), (20, 4, 3, 0, .inl 0, 21)]]
/-- ConstellationsByLot.isParish -/
def ic_112 : List (List (Nat × IN)) := [[(0, 0, 1, 0, .inl 0, 1), (1, 10, 2, 19, .inl 0, 4), (4, 0, 1, 0, .inl 0, 5), (5, 0, 0, 1, .inl 0, 6), (6, 2, 7, 0, .inl 0, 9), (9, 2, 5, 4, .inl 0, 12), (12, 9, 3, 19, .inl 0, 15), (15, 1, 0, 0, .inl 1, 16), (16, 6, 0, 20, .inl 0, 19), (19, 1, 0, 0, .inl 0, 20), (20, 4, 3, 0, .inl 0, 21)]]
/-- ConstellationsByLot.isPair -/
def ic_113 : List (List (Nat × IN)) := [[(0, 0, 0, 1, .inl 0, 1), (1, 0, 1, 0, .inl 0, 2), (2, 3, 2, 111, .inl 0, 5), (5, 10, 0, 25, .inl 0, 8), (8, 0, 0, 1, .inl 0, 9), (9, 0, 2, 0, .inl 0, 10), (10, 3, 2, 111, .inl 0, 13), (13, 10, 0, 25, .inl 0, 16), (16, 0, 1, 0, .inl 0, 17), (17, 0, 2, 0, .inl 0, 18), (18, 9, 0, 25, .inl 0, 21), (21, 1, 0, 0, .inl 1, 22), (22, 6, 0, 26, .inl 0, 25), (25, 1, 0, 0, .inl 0, 26), (26, 4, 3, 0, .inl 0, 27)]]
/-- ConstellationsByLot.isUnder -/
def ic_114 : List (List (Nat × IN)) := [[(0, 0, 0, 0, .inl 0, 1), (1, 1, 0, 0, .inl 3, 2), (2, 9, 1, 10, .inl 0, 5), (5, 0, 1, 0, .inl 0, 6), (6, 1, 0, 0, .inl 1, 7), (7, 9, 0, 20, .inl 0, 10), (10, 0, 0, 0, .inl 0, 11), (11, 1, 0, 0, .inl 4, 12), (12, 9, 1, 24, .inl 0, 15), (15, 0, 1, 0, .inl 0, 16), (16, 1, 0, 0, .inl 2, 17), (17, 9, 1, 24, .inl 0, 20), (20, 1, 0, 0, .inl 1, 21), (21, 6, 0, 25, .inl 0, 24), (24, 1, 0, 0, .inl 0, 25), (25, 7, 2, 0, .inl 0, 26), (26, 0, 1, 0, .inl 0, 27), (27, 10, 0, 39, .inl 0, 30), (30, 0, 0, 0, .inl 0, 31), (31, 0, 1, 0, .inl 0, 32)],
  [(32, 9, 0, 39, .inl 0, 35), (35, 0, 2, 0, .inl 0, 36), (36, 10, 0, 43, .inl 0, 39), (39, 1, 0, 0, .inl 1, 40), (40, 6, 0, 44, .inl 0, 43), (43, 1, 0, 0, .inl 0, 44), (44, 4, 3, 0, .inl 0, 45)]]
/-- ConstellationsByLot.worthOf -/
def ic_115 : List (List (Nat × IN)) := [[(0, 0, 0, 1, .inl 0, 1), (1, 2, 7, 0, .inl 0, 4), (4, 2, 5, 2, .inl 0, 7), (7, 0, 1, 0, .inl 0, 8), (8, 16, 0, 0, .inl 0, 9), (9, 32, 2, 0, .inl 0, 10), (10, 0, 0, 1, .inl 0, 11), (11, 2, 7, 4, .inl 0, 14), (14, 0, 0, 1, .inl 0, 15), (15, 2, 7, 0, .inl 0, 18), (18, 0, 2, 1, .inl 0, 19), (19, 3, 3, 5, .inl 0, 22), (22, 0, 0, 1, .inl 0, 23), (23, 2, 7, 4, .inl 0, 26), (26, 0, 2, 1, .inl 0, 27), (27, 2, 2, 2, .inl 0, 30), (30, 0, 2, 1, .inl 0, 31), (31, 2, 2, 3, .inl 0, 34)],
  [(34, 3, 3, 9, .inl 0, 37), (37, 4, 1, 0, .inl 0, 38)]]
/-- ConstellationsByLot.spareWorth -/
def ic_116 : List (List (Nat × IN)) := [[(0, 0, 0, 1, .inl 0, 1), (1, 2, 7, 4, .inl 0, 4), (4, 0, 0, 1, .inl 0, 5), (5, 2, 7, 0, .inl 0, 8), (8, 0, 0, 1, .inl 0, 9), (9, 2, 7, 3, .inl 0, 12), (12, 3, 3, 5, .inl 0, 15), (15, 0, 0, 1, .inl 0, 16), (16, 2, 7, 4, .inl 0, 19), (19, 0, 0, 1, .inl 0, 20), (20, 2, 7, 3, .inl 0, 23), (23, 2, 2, 2, .inl 0, 26), (26, 0, 0, 1, .inl 0, 27), (27, 2, 7, 3, .inl 0, 30), (30, 2, 2, 3, .inl 0, 33)],
  [(33, 3, 3, 9, .inl 0, 36), (36, 4, 1, 0, .inl 0, 37)]]
/-- ConstellationsByLot.allWorth -/
def ic_117 : List (List (Nat × IN)) := [[(0, 1, 0, 0, .inl 0, 1), (1, 7, 1, 0, .inl 0, 2), (2, 1, 0, 0, .inl 0, 3), (3, 7, 2, 4, .inl 0, 4), (4, 0, 2, 0, .inl 0, 5), (5, 0, 0, 1, .inl 0, 6), (6, 2, 7, 0, .inl 0, 9), (9, 2, 5, 4, .inl 0, 12), (12, 9, 3, 29, .inl 0, 15), (15, 0, 1, 0, .inl 0, 16), (16, 0, 0, 1, .inl 0, 17), (17, 0, 2, 0, .inl 0, 18), (18, 3, 2, 115, .inl 0, 21), (21, 8, 0, 0, .inl 0, 22), (22, 7, 1, 0, .inl 0, 23), (23, 12, 2, 0, .inl 1, 26), (26, 6, 4, 4, .inl 0, 29), (29, 0, 1, 0, .inl 0, 30), (30, 4, 1, 0, .inl 0, 31)]]
/-- ConstellationsByLot.shelvesInUse -/
def ic_118 : List (List (Nat × IN)) := [[(0, 1, 0, 0, .inl 0, 1), (1, 7, 1, 0, .inl 0, 2), (2, 1, 0, 0, .inl 0, 3), (3, 7, 2, 4, .inl 0, 4), (4, 0, 2, 0, .inl 0, 5), (5, 1, 0, 0, .inl 8, 7), (7, 9, 3, 32, .inl 0, 10), (10, 0, 0, 1, .inl 0, 11), (11, 2, 7, 8, .inl 0, 14), (14, 0, 2, 0, .inl 0, 15), (15, 16, 0, 0, .inl 0, 16), (16, 2, 4, 1, .inl 0, 19), (19, 1, 0, 0, .inl (-1), 20), (20, 9, 0, 26, .inl 0, 23), (23, 12, 1, 0, .inl 1, 26), (26, 12, 2, 0, .inl 1, 29), (29, 6, 4, 4, .inl 0, 32)],
  [(32, 0, 1, 0, .inl 0, 33), (33, 4, 1, 0, .inl 0, 34)]]
/-- ConstellationsByLot.bestNewLine -/
def ic_119 : List (List (Nat × IN)) := [[(0, 1, 0, 0, .inl (-1), 1), (1, 7, 2, 0, .inl 0, 2), (2, 1, 0, 0, .inl (-1), 3), (3, 7, 3, 0, .inl 0, 4), (4, 0, 1, 1, .inl 0, 5), (5, 3, 1, 15, .inl 0, 8), (8, 10, 1, 13, .inl 0, 11), (11, 1, 0, 0, .inl (-1), 12), (12, 4, 1, 0, .inl 0, 13), (13, 1, 0, 0, .inl 0, 14), (14, 7, 4, 6, .inl 0, 16), (16, 0, 4, 0, .inl 0, 18), (18, 0, 0, 1, .inl 0, 19), (19, 2, 7, 0, .inl 0, 22), (22, 2, 5, 3, .inl 0, 25), (25, 9, 3, 131, .inl 0, 28), (28, 0, 4, 0, .inl 0, 30), (30, 1, 0, 0, .inl 1, 31), (31, 8, 0, 0, .inl 0, 32)],
  [(32, 7, 5, 7, .inl 0, 34), (34, 0, 5, 0, .inl 0, 36), (36, 0, 0, 1, .inl 0, 37), (37, 2, 7, 0, .inl 0, 40), (40, 2, 5, 3, .inl 0, 43), (43, 9, 3, 125, .inl 0, 46), (46, 1, 0, 0, .inl 1, 47), (47, 0, 4, 0, .inl 0, 49), (49, 8, 6, 0, .inl 0, 50), (50, 1, 0, 0, .inl 1, 51), (51, 0, 5, 0, .inl 0, 53), (53, 8, 6, 0, .inl 0, 54), (54, 8, 4, 0, .inl 0, 55), (55, 7, 6, 0, .inl 0, 57), (57, 0, 1, 1, .inl 0, 58), (58, 0, 6, 0, .inl 0, 60), (60, 3, 2, 14, .inl 0, 63), (63, 10, 0, 119, .inl 0, 66)],
  [(66, 0, 1, 1, .inl 0, 67), (67, 0, 6, 0, .inl 0, 69), (69, 3, 2, 17, .inl 0, 72), (72, 1, 0, 0, .inl (-1), 73), (73, 9, 1, 119, .inl 0, 76), (76, 0, 0, 1, .inl 0, 77), (77, 2, 7, 3, .inl 0, 80), (80, 0, 1, 1, .inl 0, 81), (81, 3, 2, 13, .inl 0, 84), (84, 0, 0, 1, .inl 0, 85), (85, 2, 7, 3, .inl 0, 88), (88, 0, 4, 0, .inl 0, 90), (90, 0, 5, 0, .inl 0, 92), (92, 3, 3, 18, .inl 0, 95), (95, 0, 0, 1, .inl 0, 96)],
  [(96, 3, 1, 116, .inl 0, 99), (99, 7, 7, 0, .inl 0, 101), (101, 0, 7, 0, .inl 0, 103), (103, 0, 3, 0, .inl 0, 104), (104, 9, 5, 119, .inl 0, 107), (107, 0, 7, 0, .inl 0, 109), (109, 7, 3, 0, .inl 0, 110), (110, 1, 0, 0, .inl 100, 112), (112, 0, 4, 0, .inl 0, 114), (114, 8, 2, 0, .inl 0, 115), (115, 0, 5, 0, .inl 0, 117), (117, 8, 0, 0, .inl 0, 118), (118, 7, 2, 0, .inl 0, 119), (119, 12, 5, 0, .inl 1, 122), (122, 6, 7, 34, .inl 0, 125), (125, 12, 4, 0, .inl 1, 128)],
  [(128, 6, 6, 16, .inl 0, 131), (131, 0, 2, 0, .inl 0, 132), (132, 4, 1, 0, .inl 0, 133)]]
/-- ConstellationsByLot.worstLine -/
def ic_120 : List (List (Nat × IN)) := [[(0, 1, 0, 0, .inl (-1), 1), (1, 7, 2, 0, .inl 0, 2), (2, 1, 0, 0, .inl (-1), 3), (3, 7, 3, 0, .inl 0, 4), (4, 1, 0, 0, .inl 0, 5), (5, 7, 4, 6, .inl 0, 7), (7, 0, 4, 0, .inl 0, 9), (9, 0, 1, 1, .inl 0, 10), (10, 2, 2, 5, .inl 0, 13), (13, 9, 3, 57, .inl 0, 16), (16, 0, 0, 1, .inl 0, 17), (17, 2, 7, 3, .inl 0, 20), (20, 0, 1, 1, .inl 0, 21), (21, 3, 2, 13, .inl 0, 24), (24, 0, 0, 1, .inl 0, 25), (25, 2, 7, 3, .inl 0, 28), (28, 0, 4, 0, .inl 0, 30), (30, 3, 2, 19, .inl 0, 33)],
  [(33, 0, 0, 1, .inl 0, 34), (34, 3, 1, 116, .inl 0, 37), (37, 7, 5, 0, .inl 0, 39), (39, 0, 5, 0, .inl 0, 41), (41, 0, 3, 0, .inl 0, 42), (42, 9, 5, 51, .inl 0, 45), (45, 0, 5, 0, .inl 0, 47), (47, 7, 3, 0, .inl 0, 48), (48, 0, 4, 0, .inl 0, 50), (50, 7, 2, 0, .inl 0, 51), (51, 12, 4, 0, .inl 1, 54), (54, 6, 6, 7, .inl 0, 57), (57, 0, 2, 0, .inl 0, 58), (58, 4, 1, 0, .inl 0, 59)]]
/-- ConstellationsByLot.pickedBy -/
def ic_121 : List (List (Nat × IN)) := [[(0, 1, 0, 0, .inl (-1), 1), (1, 7, 2, 0, .inl 0, 2), (2, 1, 0, 0, .inl 0, 3), (3, 7, 3, 0, .inl 0, 4), (4, 1, 0, 0, .inl 0, 5), (5, 7, 4, 6, .inl 0, 7), (7, 0, 4, 0, .inl 0, 9), (9, 0, 0, 1, .inl 0, 10), (10, 2, 7, 0, .inl 0, 13), (13, 2, 5, 4, .inl 0, 16), (16, 9, 3, 104, .inl 0, 19), (19, 0, 0, 1, .inl 0, 20), (20, 2, 7, 0, .inl 0, 23), (23, 2, 5, 2, .inl 0, 26), (26, 0, 4, 0, .inl 0, 28), (28, 16, 0, 0, .inl 0, 29), (29, 32, 5, 0, .inl 0, 31), (31, 0, 0, 1, .inl 0, 32)],
  [(32, 2, 7, 4, .inl 0, 35), (35, 0, 0, 1, .inl 0, 36), (36, 2, 7, 0, .inl 0, 39), (39, 0, 5, 1, .inl 0, 41), (41, 3, 3, 5, .inl 0, 44), (44, 0, 1, 0, .inl 0, 45), (45, 1, 0, 0, .inl 4, 46), (46, 9, 1, 57, .inl 0, 49), (49, 0, 5, 1, .inl 0, 51), (51, 2, 2, 5, .inl 0, 54), (54, 10, 5, 61, .inl 0, 57), (57, 1, 0, 0, .inl 1, 58), (58, 6, 0, 62, .inl 0, 61), (61, 1, 0, 0, .inl 0, 62), (62, 7, 6, 0, .inl 0, 64)],
  [(64, 0, 0, 1, .inl 0, 65), (65, 2, 7, 4, .inl 0, 68), (68, 0, 1, 0, .inl 0, 69), (69, 0, 5, 1, .inl 0, 71), (71, 3, 3, 11, .inl 0, 74), (74, 7, 7, 0, .inl 0, 76), (76, 0, 6, 0, .inl 0, 78), (78, 10, 0, 98, .inl 0, 81), (81, 0, 2, 0, .inl 0, 82), (82, 1, 0, 0, .inl (-1), 83), (83, 9, 0, 92, .inl 0, 86), (86, 0, 7, 0, .inl 0, 88), (88, 0, 3, 0, .inl 0, 89), (89, 9, 5, 98, .inl 0, 92), (92, 0, 7, 0, .inl 0, 94), (94, 7, 3, 0, .inl 0, 95), (95, 0, 4, 0, .inl 0, 97)],
  [(97, 7, 2, 0, .inl 0, 98), (98, 12, 4, 0, .inl 1, 101), (101, 6, 6, 7, .inl 0, 104), (104, 0, 2, 0, .inl 0, 105), (105, 4, 1, 0, .inl 0, 106)]]
/-- ConstellationsByLot.arePairs -/
def ic_122 : List (List (Nat × IN)) := [[(0, 1, 0, 0, .inl 0, 1), (1, 7, 3, 5, .inl 0, 2), (2, 0, 3, 0, .inl 0, 3), (3, 0, 2, 0, .inl 0, 4), (4, 9, 3, 99, .inl 0, 7), (7, 0, 1, 1, .inl 0, 8), (8, 2, 4, 0, .inl 0, 11), (11, 1, 0, 0, .inl 2, 12), (12, 0, 3, 0, .inl 0, 13), (13, 8, 2, 0, .inl 0, 14), (14, 21, 0, 0, .inl 0, 15), (15, 23, 4, 0, .inl 0, 17), (17, 0, 1, 1, .inl 0, 18), (18, 2, 4, 0, .inl 0, 21), (21, 1, 0, 0, .inl 2, 22), (22, 0, 3, 0, .inl 0, 23), (23, 8, 2, 0, .inl 0, 24), (24, 1, 0, 0, .inl 1, 25), (25, 8, 0, 0, .inl 0, 26), (26, 21, 0, 0, .inl 0, 27), (27, 23, 6, 0, .inl 0, 29), (29, 0, 4, 2, .inl 0, 31), (31, 1, 0, 0, .inr (.inl 0), 32)],
  [(32, 18, 0, 0, .inl 0, 33), (33, 10, 2, 75, .inl 0, 36), (36, 0, 4, 2, .inl 0, 38), (38, 0, 0, 1, .inl 0, 39), (39, 2, 7, 0, .inl 0, 42), (42, 2, 5, 3, .inl 0, 45), (45, 15, 1, 0, .inl 0, 46), (46, 18, 0, 0, .inl 0, 47), (47, 10, 3, 75, .inl 0, 50), (50, 0, 6, 2, .inl 0, 52), (52, 1, 0, 0, .inr (.inl 0), 53), (53, 18, 0, 0, .inl 0, 54), (54, 10, 2, 75, .inl 0, 57), (57, 0, 6, 2, .inl 0, 59), (59, 0, 0, 1, .inl 0, 60), (60, 2, 7, 0, .inl 0, 63), (63, 2, 5, 3, .inl 0, 66)],
  [(66, 15, 1, 0, .inl 0, 67), (67, 18, 0, 0, .inl 0, 68), (68, 10, 3, 75, .inl 0, 71), (71, 1, 0, 0, .inl 1, 72), (72, 6, 0, 76, .inl 0, 75), (75, 1, 0, 0, .inl 0, 76), (76, 7, 8, 0, .inl 0, 78), (78, 0, 8, 0, .inl 0, 80), (80, 10, 0, 91, .inl 0, 83), (83, 0, 4, 2, .inl 0, 85), (85, 0, 6, 2, .inl 0, 87), (87, 18, 0, 0, .inl 0, 88), (88, 10, 1, 93, .inl 0, 91), (91, 1, 0, 0, .inl 0, 92), (92, 4, 3, 0, .inl 0, 93), (93, 12, 3, 0, .inl 1, 96)],
  [(96, 6, 5, 2, .inl 0, 99), (99, 1, 0, 0, .inl 1, 100), (100, 4, 3, 0, .inl 0, 101)]]
/-- ConstellationsByLot.takeTold -/
def ic_123 : List (List (Nat × IN)) := [[(0, 1, 0, 0, .inl 0, 1), (1, 7, 3, 0, .inl 0, 2), (2, 1, 0, 0, .inl 0, 3), (3, 7, 4, 6, .inl 0, 5), (5, 0, 4, 0, .inl 0, 7), (7, 0, 2, 0, .inl 0, 8), (8, 9, 3, 67, .inl 0, 11), (11, 1, 0, 0, .inl 1, 12), (12, 0, 1, 1, .inl 0, 13), (13, 2, 4, 0, .inl 0, 16), (16, 1, 0, 0, .inl 2, 17), (17, 0, 4, 0, .inl 0, 19), (19, 8, 2, 0, .inl 0, 20), (20, 21, 0, 0, .inl 0, 21), (21, 15, 2, 0, .inl 0, 22), (22, 8, 6, 0, .inl 0, 23), (23, 1, 0, 0, .inl 1, 24), (24, 0, 1, 1, .inl 0, 25), (25, 2, 4, 0, .inl 0, 28), (28, 1, 0, 0, .inl 2, 29), (29, 0, 4, 0, .inl 0, 31), (31, 8, 2, 0, .inl 0, 32)],
  [(32, 1, 0, 0, .inl 1, 33), (33, 8, 0, 0, .inl 0, 34), (34, 21, 0, 0, .inl 0, 35), (35, 15, 2, 0, .inl 0, 36), (36, 8, 6, 0, .inl 0, 37), (37, 8, 4, 0, .inl 0, 38), (38, 7, 5, 0, .inl 0, 40), (40, 0, 0, 1, .inl 0, 41), (41, 0, 5, 0, .inl 0, 43), (43, 0, 3, 0, .inl 0, 44), (44, 3, 3, 124, .inl 0, 47), (47, 10, 1, 61, .inl 0, 50), (50, 0, 0, 1, .inl 0, 51), (51, 2, 7, 10, .inl 0, 54), (54, 0, 3, 0, .inl 0, 55), (55, 0, 5, 0, .inl 0, 57), (57, 14, 1, 0, .inl 0, 58), (58, 12, 3, 0, .inl 1, 61), (61, 12, 4, 0, .inl 1, 64)],
  [(64, 6, 6, 5, .inl 0, 67), (67, 0, 3, 0, .inl 0, 68), (68, 4, 1, 0, .inl 0, 69)]]
/-- ConstellationsByLot.isTold -/
def ic_124 : List (List (Nat × IN)) := [[(0, 1, 0, 0, .inl 0, 1), (1, 7, 3, 5, .inl 0, 2), (2, 0, 3, 0, .inl 0, 3), (3, 0, 2, 0, .inl 0, 4), (4, 9, 3, 25, .inl 0, 7), (7, 0, 0, 1, .inl 0, 8), (8, 2, 7, 10, .inl 0, 11), (11, 0, 3, 0, .inl 0, 12), (12, 5, 1, 0, .inl 0, 13), (13, 0, 1, 0, .inl 0, 14), (14, 9, 1, 19, .inl 0, 17), (17, 1, 0, 0, .inl 1, 18), (18, 4, 3, 0, .inl 0, 19), (19, 12, 3, 0, .inl 1, 22), (22, 6, 5, 2, .inl 0, 25), (25, 1, 0, 0, .inl 0, 26), (26, 4, 3, 0, .inl 0, 27)]]
/-- ConstellationsByLot.nearestToTold -/
def ic_125 : List (List (Nat × IN)) := [[(0, 1, 0, 0, .inl 0, 1), (1, 7, 2, 0, .inl 0, 2), (2, 0, 0, 1, .inl 0, 3), (3, 0, 0, 1, .inl 0, 4), (4, 2, 7, 0, .inl 0, 7), (7, 2, 5, 2, .inl 0, 10), (10, 1, 0, 0, .inl 0, 11), (11, 16, 0, 0, .inl 0, 12), (12, 0, 1, 0, .inl 0, 13), (13, 3, 3, 126, .inl 0, 16), (16, 7, 3, 0, .inl 0, 17), (17, 1, 0, 0, .inl 1, 18), (18, 7, 4, 6, .inl 0, 20), (20, 0, 4, 0, .inl 0, 22), (22, 0, 0, 1, .inl 0, 23), (23, 2, 7, 0, .inl 0, 26), (26, 2, 5, 4, .inl 0, 29), (29, 9, 3, 67, .inl 0, 32)],
  [(32, 0, 0, 1, .inl 0, 33), (33, 0, 0, 1, .inl 0, 34), (34, 2, 7, 0, .inl 0, 37), (37, 2, 5, 2, .inl 0, 40), (40, 0, 4, 0, .inl 0, 42), (42, 16, 0, 0, .inl 0, 43), (43, 0, 1, 0, .inl 0, 44), (44, 3, 3, 126, .inl 0, 47), (47, 7, 5, 0, .inl 0, 49), (49, 0, 5, 0, .inl 0, 51), (51, 0, 3, 0, .inl 0, 52), (52, 9, 3, 61, .inl 0, 55), (55, 0, 5, 0, .inl 0, 57), (57, 7, 3, 0, .inl 0, 58), (58, 0, 4, 0, .inl 0, 60), (60, 7, 2, 0, .inl 0, 61), (61, 12, 4, 0, .inl 1, 64)],
  [(64, 6, 6, 20, .inl 0, 67), (67, 0, 2, 0, .inl 0, 68), (68, 4, 1, 0, .inl 0, 69)]]
/-- ConstellationsByLot.differenceFromTold -/
def ic_126 : List (List (Nat × IN)) := [[(0, 1, 0, 0, .inl 0, 1), (1, 7, 3, 0, .inl 0, 2), (2, 1, 0, 0, .inl 0, 3), (3, 7, 4, 6, .inl 0, 5), (5, 0, 4, 0, .inl 0, 7), (7, 0, 1, 1, .inl 0, 8), (8, 2, 2, 5, .inl 0, 11), (11, 9, 3, 37, .inl 0, 14), (14, 0, 0, 1, .inl 0, 15), (15, 0, 1, 1, .inl 0, 16), (16, 0, 4, 0, .inl 0, 18), (18, 3, 2, 16, .inl 0, 21), (21, 0, 2, 0, .inl 0, 22), (22, 3, 3, 124, .inl 0, 25), (25, 10, 0, 31, .inl 0, 28), (28, 12, 3, 0, .inl 1, 31), (31, 12, 4, 0, .inl 1, 34)],
  [(34, 6, 6, 5, .inl 0, 37), (37, 0, 2, 0, .inl 0, 38), (38, 0, 3, 0, .inl 0, 39), (39, 8, 1, 0, .inl 0, 40), (40, 0, 1, 1, .inl 0, 41), (41, 2, 2, 5, .inl 0, 44), (44, 8, 0, 0, .inl 0, 45), (45, 0, 3, 0, .inl 0, 46), (46, 8, 1, 0, .inl 0, 47), (47, 4, 1, 0, .inl 0, 48)]]
/-- ConstellationsByLot.likelyAllSeen -/
def ic_127 : List (List (Nat × IN)) := [[(0, 1, 0, 0, .inr (.inl 1000000), 3), (3, 23, 2, 0, .inl 0, 4), (4, 1, 0, 0, .inr (.inl 1), 5), (5, 23, 4, 0, .inl 0, 7), (7, 1, 0, 0, .inl 0, 8), (8, 7, 6, 8, .inl 0, 10), (10, 0, 6, 0, .inl 0, 12), (12, 0, 0, 0, .inl 0, 13), (13, 9, 3, 35, .inl 0, 16), (16, 0, 2, 2, .inl 0, 17), (17, 0, 1, 0, .inl 0, 18), (18, 15, 1, 0, .inl 0, 19), (19, 17, 1, 0, .inl 0, 20), (20, 23, 2, 0, .inl 0, 21), (21, 0, 4, 2, .inl 0, 23), (23, 1, 0, 0, .inr (.inl 12), 26), (26, 17, 1, 0, .inl 0, 27), (27, 23, 4, 0, .inl 0, 29), (29, 12, 6, 0, .inl 1, 32)],
  [(32, 6, 8, 10, .inl 0, 35), (35, 0, 2, 2, .inl 0, 36), (36, 0, 4, 2, .inl 0, 38), (38, 20, 0, 0, .inl 0, 39), (39, 15, 2, 0, .inl 0, 40), (40, 4, 1, 0, .inl 0, 41)]]
/-- ConstellationsByLotModel.isIn -/
def ic_128 : List (List (Nat × IN)) := [[(0, 0, 0, 2, .inl 0, 1), (1, 0, 2, 2, .inl 0, 2), (2, 18, 0, 0, .inl 0, 3), (3, 10, 2, 17, .inl 0, 6), (6, 0, 0, 2, .inl 0, 7), (7, 0, 4, 2, .inl 0, 9), (9, 18, 0, 0, .inl 0, 10), (10, 10, 4, 17, .inl 0, 13), (13, 1, 0, 0, .inl 1, 14), (14, 6, 0, 18, .inl 0, 17), (17, 1, 0, 0, .inl 0, 18), (18, 4, 3, 0, .inl 0, 19)]]
/-- ConstellationsByLotModel.refuse -/
def ic_129 : List (List (Nat × IN)) := [[(0, 0, 0, 1, .inl 0, 1), (1, 2, 8, 0, .inl 0, 4), (4, 0, 1, 0, .inl 0, 5), (5, 15, 0, 0, .inl 0, 6), (6, 24, 0, 0, .inl 0, 7), (7, 5, 1, 0, .inl 0, 8), (8, 1, 0, 0, .inl 1, 9), (9, 8, 0, 0, .inl 0, 10), (10, 14, 1, 0, .inl 0, 11), (11, 0, 1, 0, .inl 0, 12), (12, 4, 1, 0, .inl 0, 13)]]
/-- ConstellationsByLotModel.move -/
def ic_130 : List (List (Nat × IN)) := [[(0, 1, 0, 0, .inl 0, 1), (1, 7, 4, 6, .inl 0, 3), (3, 0, 4, 0, .inl 0, 5), (5, 1, 0, 0, .inl 178, 8), (8, 9, 3, 29, .inl 0, 11), (11, 0, 2, 1, .inl 0, 12), (12, 0, 3, 0, .inl 0, 13), (13, 0, 4, 0, .inl 0, 15), (15, 8, 0, 0, .inl 0, 16), (16, 0, 0, 1, .inl 0, 17), (17, 0, 1, 0, .inl 0, 18), (18, 0, 4, 0, .inl 0, 20), (20, 8, 0, 0, .inl 0, 21), (21, 5, 1, 0, .inl 0, 22), (22, 14, 1, 0, .inl 0, 23), (23, 12, 4, 0, .inl 1, 26), (26, 6, 6, 3, .inl 0, 29), (29, 4, 0, 0, .inl 0, 30)]]
/-- ConstellationsByLotModel.isPoint -/
def ic_131 : List (List (Nat × IN)) := [[(0, 0, 1, 2, .inl 0, 1), (1, 1, 0, 0, .inr (.inl 0), 2), (2, 0, 0, 1, .inl 0, 3), (3, 2, 8, 1, .inl 0, 6), (6, 1, 0, 0, .inl 174, 9), (9, 5, 1, 0, .inl 0, 10), (10, 1, 0, 0, .inl 1, 11), (11, 8, 1, 0, .inl 0, 12), (12, 15, 1, 0, .inl 0, 13), (13, 3, 3, 128, .inl 0, 16), (16, 4, 3, 0, .inl 0, 17)]]
/-- ConstellationsByLotModel.isParish -/
def ic_132 : List (List (Nat × IN)) := [[(0, 0, 1, 0, .inl 0, 1), (1, 15, 1, 0, .inl 0, 2), (2, 1, 0, 0, .inr (.inl 0), 3), (3, 0, 0, 1, .inl 0, 4), (4, 2, 8, 1, .inl 0, 7), (7, 1, 0, 0, .inl 175, 10), (10, 5, 1, 0, .inl 0, 11), (11, 1, 0, 0, .inl 1, 12), (12, 8, 1, 0, .inl 0, 13), (13, 15, 1, 0, .inl 0, 14), (14, 3, 3, 128, .inl 0, 17), (17, 4, 3, 0, .inl 0, 18)]]
/-- ConstellationsByLotModel.cell -/
def ic_133 : List (List (Nat × IN)) := [[(0, 0, 0, 1, .inl 0, 1), (1, 2, 8, 1, .inl 0, 4), (4, 1, 0, 0, .inl 3, 5), (5, 0, 1, 0, .inl 0, 6), (6, 8, 2, 0, .inl 0, 7), (7, 5, 1, 0, .inl 0, 8), (8, 4, 1, 0, .inl 0, 9)]]
/-- ConstellationsByLotModel.bright -/
def ic_134 : List (List (Nat × IN)) := [[(0, 0, 0, 1, .inl 0, 1), (1, 2, 8, 1, .inl 0, 4), (4, 1, 0, 0, .inl 3, 5), (5, 0, 1, 0, .inl 0, 6), (6, 8, 2, 0, .inl 0, 7), (7, 1, 0, 0, .inl 1, 8), (8, 8, 0, 0, .inl 0, 9), (9, 5, 1, 0, .inl 0, 10), (10, 4, 1, 0, .inl 0, 11)]]
/-- ConstellationsByLotModel.wanted -/
def ic_135 : List (List (Nat × IN)) := [[(0, 0, 0, 1, .inl 0, 1), (1, 2, 8, 1, .inl 0, 4), (4, 1, 0, 0, .inl 3, 5), (5, 0, 1, 0, .inl 0, 6), (6, 8, 2, 0, .inl 0, 7), (7, 1, 0, 0, .inl 2, 8), (8, 8, 0, 0, .inl 0, 9), (9, 5, 1, 0, .inl 0, 10), (10, 4, 1, 0, .inl 0, 11)]]
/-- ConstellationsByLotModel.isWanted -/
def ic_136 : List (List (Nat × IN)) := [[(0, 0, 0, 1, .inl 0, 1), (1, 0, 1, 0, .inl 0, 2), (2, 3, 2, 135, .inl 0, 5), (5, 0, 2, 0, .inl 0, 6), (6, 8, 7, 0, .inl 0, 7), (7, 1, 0, 0, .inl 1, 8), (8, 8, 3, 0, .inl 0, 9), (9, 1, 0, 0, .inl 1, 10), (10, 9, 1, 17, .inl 0, 13), (13, 1, 0, 0, .inl 1, 14), (14, 6, 0, 18, .inl 0, 17), (17, 1, 0, 0, .inl 0, 18), (18, 4, 3, 0, .inl 0, 19)]]
/-- ConstellationsByLotModel.kind -/
def ic_137 : List (List (Nat × IN)) := [[(0, 0, 0, 1, .inl 0, 1), (1, 2, 8, 1, .inl 0, 4), (4, 1, 0, 0, .inl 36, 6), (6, 1, 0, 0, .inl 23, 8), (8, 0, 1, 0, .inl 0, 9), (9, 8, 2, 0, .inl 0, 10), (10, 8, 0, 0, .inl 0, 11), (11, 5, 1, 0, .inl 0, 12), (12, 4, 1, 0, .inl 0, 13)]]
/-- ConstellationsByLotModel.a -/
def ic_138 : List (List (Nat × IN)) := [[(0, 0, 0, 1, .inl 0, 1), (1, 2, 8, 1, .inl 0, 4), (4, 1, 0, 0, .inl 36, 6), (6, 1, 0, 0, .inl 23, 8), (8, 0, 1, 0, .inl 0, 9), (9, 8, 2, 0, .inl 0, 10), (10, 8, 0, 0, .inl 0, 11), (11, 1, 0, 0, .inl 1, 12), (12, 8, 0, 0, .inl 0, 13), (13, 5, 1, 0, .inl 0, 14), (14, 4, 1, 0, .inl 0, 15)]]
/-- ConstellationsByLotModel.lines -/
def ic_139 : List (List (Nat × IN)) := [[(0, 0, 0, 1, .inl 0, 1), (1, 2, 8, 1, .inl 0, 4), (4, 1, 0, 0, .inl 36, 6), (6, 1, 0, 0, .inl 23, 8), (8, 0, 1, 0, .inl 0, 9), (9, 8, 2, 0, .inl 0, 10), (10, 8, 0, 0, .inl 0, 11), (11, 1, 0, 0, .inl 2, 12), (12, 8, 0, 0, .inl 0, 13), (13, 5, 1, 0, .inl 0, 14), (14, 4, 1, 0, .inl 0, 15)]]
/-- ConstellationsByLotModel.end -/
def ic_140 : List (List (Nat × IN)) := [[(0, 0, 0, 1, .inl 0, 1), (1, 2, 8, 1, .inl 0, 4), (4, 1, 0, 0, .inl 36, 6), (6, 1, 0, 0, .inl 23, 8), (8, 0, 1, 0, .inl 0, 9), (9, 8, 2, 0, .inl 0, 10), (10, 8, 0, 0, .inl 0, 11), (11, 1, 0, 0, .inl 3, 12), (12, 8, 0, 0, .inl 0, 13), (13, 1, 0, 0, .inl 2, 14), (14, 0, 2, 0, .inl 0, 15), (15, 8, 2, 0, .inl 0, 16), (16, 8, 0, 0, .inl 0, 17), (17, 0, 3, 0, .inl 0, 18), (18, 8, 0, 0, .inl 0, 19), (19, 5, 1, 0, .inl 0, 20), (20, 4, 1, 0, .inl 0, 21)]]
/-- ConstellationsByLotModel.addPoint -/
def ic_141 : List (List (Nat × IN)) := [[(0, 0, 0, 1, .inl 0, 1), (1, 2, 8, 1, .inl 0, 4), (4, 1, 0, 0, .inl 174, 7), (7, 5, 1, 0, .inl 0, 8), (8, 7, 3, 0, .inl 0, 9), (9, 0, 0, 1, .inl 0, 10), (10, 2, 8, 1, .inl 0, 13), (13, 1, 0, 0, .inl 3, 14), (14, 0, 3, 0, .inl 0, 15), (15, 8, 2, 0, .inl 0, 16), (16, 0, 1, 0, .inl 0, 17), (17, 14, 1, 0, .inl 0, 18), (18, 0, 0, 1, .inl 0, 19), (19, 2, 8, 1, .inl 0, 22), (22, 1, 0, 0, .inl 3, 23), (23, 0, 3, 0, .inl 0, 24), (24, 8, 2, 0, .inl 0, 25), (25, 1, 0, 0, .inl 1, 26), (26, 8, 0, 0, .inl 0, 27), (27, 0, 2, 0, .inl 0, 28), (28, 14, 1, 0, .inl 0, 29), (29, 0, 0, 1, .inl 0, 30), (30, 2, 8, 1, .inl 0, 33)],
  [(33, 1, 0, 0, .inl 3, 34), (34, 0, 3, 0, .inl 0, 35), (35, 8, 2, 0, .inl 0, 36), (36, 1, 0, 0, .inl 2, 37), (37, 8, 0, 0, .inl 0, 38), (38, 1, 0, 0, .inl 0, 39), (39, 14, 1, 0, .inl 0, 40), (40, 0, 0, 1, .inl 0, 41), (41, 2, 8, 1, .inl 0, 44), (44, 1, 0, 0, .inl 174, 47), (47, 24, 0, 0, .inl 0, 48), (48, 5, 1, 0, .inl 0, 49), (49, 1, 0, 0, .inl 1, 50), (50, 8, 0, 0, .inl 0, 51), (51, 14, 1, 0, .inl 0, 52), (52, 0, 3, 0, .inl 0, 53), (53, 4, 1, 0, .inl 0, 54)]]
/-- ConstellationsByLotModel.addParish -/
def ic_142 : List (List (Nat × IN)) := [[(0, 0, 0, 1, .inl 0, 1), (1, 2, 8, 1, .inl 0, 4), (4, 1, 0, 0, .inl 175, 7), (7, 5, 1, 0, .inl 0, 8), (8, 7, 3, 0, .inl 0, 9), (9, 0, 0, 1, .inl 0, 10), (10, 2, 8, 1, .inl 0, 13), (13, 1, 0, 0, .inl 36, 15), (15, 1, 0, 0, .inl 23, 17), (17, 0, 3, 0, .inl 0, 18), (18, 8, 2, 0, .inl 0, 19), (19, 8, 0, 0, .inl 0, 20), (20, 0, 1, 0, .inl 0, 21), (21, 14, 1, 0, .inl 0, 22), (22, 0, 0, 1, .inl 0, 23), (23, 2, 8, 1, .inl 0, 26), (26, 1, 0, 0, .inl 36, 28), (28, 1, 0, 0, .inl 23, 30), (30, 0, 3, 0, .inl 0, 31), (31, 8, 2, 0, .inl 0, 32)],
  [(32, 8, 0, 0, .inl 0, 33), (33, 1, 0, 0, .inl 1, 34), (34, 8, 0, 0, .inl 0, 35), (35, 0, 2, 0, .inl 0, 36), (36, 14, 1, 0, .inl 0, 37), (37, 0, 0, 1, .inl 0, 38), (38, 2, 8, 1, .inl 0, 41), (41, 1, 0, 0, .inl 36, 43), (43, 1, 0, 0, .inl 23, 45), (45, 0, 3, 0, .inl 0, 46), (46, 8, 2, 0, .inl 0, 47), (47, 8, 0, 0, .inl 0, 48), (48, 1, 0, 0, .inl 2, 49), (49, 8, 0, 0, .inl 0, 50), (50, 1, 0, 0, .inl 0, 51), (51, 14, 1, 0, .inl 0, 52), (52, 0, 0, 1, .inl 0, 53), (53, 2, 8, 1, .inl 0, 56), (56, 1, 0, 0, .inl 175, 59), (59, 24, 0, 0, .inl 0, 60), (60, 5, 1, 0, .inl 0, 61), (61, 1, 0, 0, .inl 1, 62), (62, 8, 0, 0, .inl 0, 63), (63, 14, 1, 0, .inl 0, 64)],
  [(64, 0, 3, 0, .inl 0, 65), (65, 4, 1, 0, .inl 0, 66)]]
/-- ConstellationsByLotModel.drawn -/
def ic_143 : List (List (Nat × IN)) := [[(0, 1, 0, 0, .inl (-1), 1), (1, 7, 4, 0, .inl 0, 3), (3, 1, 0, 0, .inl 0, 4), (4, 7, 5, 7, .inl 0, 6), (6, 0, 5, 0, .inl 0, 8), (8, 0, 0, 1, .inl 0, 9), (9, 0, 1, 0, .inl 0, 10), (10, 3, 2, 139, .inl 0, 13), (13, 9, 3, 91, .inl 0, 16), (16, 0, 0, 1, .inl 0, 17), (17, 0, 1, 0, .inl 0, 18), (18, 0, 5, 0, .inl 0, 20), (20, 1, 0, 0, .inl 0, 21), (21, 3, 4, 140, .inl 0, 24), (24, 0, 2, 0, .inl 0, 25), (25, 9, 1, 40, .inl 0, 28), (28, 0, 0, 1, .inl 0, 29), (29, 0, 1, 0, .inl 0, 30), (30, 0, 5, 0, .inl 0, 32)],
  [(32, 1, 0, 0, .inl 1, 33), (33, 3, 4, 140, .inl 0, 36), (36, 0, 3, 0, .inl 0, 37), (37, 9, 0, 64, .inl 0, 40), (40, 0, 0, 1, .inl 0, 41), (41, 0, 1, 0, .inl 0, 42), (42, 0, 5, 0, .inl 0, 44), (44, 1, 0, 0, .inl 0, 45), (45, 3, 4, 140, .inl 0, 48), (48, 0, 3, 0, .inl 0, 49), (49, 9, 1, 68, .inl 0, 52), (52, 0, 0, 1, .inl 0, 53), (53, 0, 1, 0, .inl 0, 54), (54, 0, 5, 0, .inl 0, 56), (56, 1, 0, 0, .inl 1, 57), (57, 3, 4, 140, .inl 0, 60), (60, 0, 2, 0, .inl 0, 61), (61, 9, 1, 68, .inl 0, 64)],
  [(64, 1, 0, 0, .inl 1, 65), (65, 6, 0, 69, .inl 0, 68), (68, 1, 0, 0, .inl 0, 69), (69, 7, 6, 0, .inl 0, 71), (71, 0, 6, 0, .inl 0, 73), (73, 10, 0, 81, .inl 0, 76), (76, 0, 5, 0, .inl 0, 78), (78, 6, 0, 83, .inl 0, 81), (81, 0, 4, 0, .inl 0, 83), (83, 7, 4, 0, .inl 0, 85), (85, 12, 5, 0, .inl 1, 88), (88, 6, 7, 6, .inl 0, 91), (91, 0, 4, 0, .inl 0, 93), (93, 4, 1, 0, .inl 0, 94)]]
/-- ConstellationsByLotModel.draw -/
def ic_144 : List (List (Nat × IN)) := [[(0, 0, 0, 1, .inl 0, 1), (1, 0, 1, 0, .inl 0, 2), (2, 3, 2, 139, .inl 0, 5), (5, 7, 4, 0, .inl 0, 7), (7, 0, 0, 1, .inl 0, 8), (8, 2, 8, 1, .inl 0, 11), (11, 1, 0, 0, .inl 36, 13), (13, 1, 0, 0, .inl 23, 15), (15, 0, 1, 0, .inl 0, 16), (16, 8, 2, 0, .inl 0, 17), (17, 8, 0, 0, .inl 0, 18), (18, 1, 0, 0, .inl 3, 19), (19, 8, 0, 0, .inl 0, 20), (20, 1, 0, 0, .inl 2, 21), (21, 0, 4, 0, .inl 0, 23), (23, 8, 2, 0, .inl 0, 24), (24, 8, 0, 0, .inl 0, 25), (25, 0, 2, 0, .inl 0, 26), (26, 14, 1, 0, .inl 0, 27), (27, 0, 0, 1, .inl 0, 28), (28, 2, 8, 1, .inl 0, 31), (31, 1, 0, 0, .inl 36, 33)],
  [(33, 1, 0, 0, .inl 23, 35), (35, 0, 1, 0, .inl 0, 36), (36, 8, 2, 0, .inl 0, 37), (37, 8, 0, 0, .inl 0, 38), (38, 1, 0, 0, .inl 4, 39), (39, 8, 0, 0, .inl 0, 40), (40, 1, 0, 0, .inl 2, 41), (41, 0, 4, 0, .inl 0, 43), (43, 8, 2, 0, .inl 0, 44), (44, 8, 0, 0, .inl 0, 45), (45, 0, 3, 0, .inl 0, 46), (46, 14, 1, 0, .inl 0, 47), (47, 0, 0, 1, .inl 0, 48), (48, 2, 8, 1, .inl 0, 51), (51, 1, 0, 0, .inl 36, 53), (53, 1, 0, 0, .inl 23, 55), (55, 0, 1, 0, .inl 0, 56), (56, 8, 2, 0, .inl 0, 57), (57, 8, 0, 0, .inl 0, 58), (58, 1, 0, 0, .inl 2, 59), (59, 8, 0, 0, .inl 0, 60), (60, 24, 0, 0, .inl 0, 61), (61, 5, 1, 0, .inl 0, 62), (62, 1, 0, 0, .inl 1, 63), (63, 8, 0, 0, .inl 0, 64)],
  [(64, 14, 1, 0, .inl 0, 65), (65, 0, 4, 0, .inl 0, 67), (67, 1, 0, 0, .inl 1, 68), (68, 8, 0, 0, .inl 0, 69), (69, 4, 1, 0, .inl 0, 70)]]
/-- ConstellationsByLotModel.erase -/
def ic_145 : List (List (Nat × IN)) := [[(0, 1, 0, 0, .inl 36, 2), (2, 1, 0, 0, .inl 23, 4), (4, 0, 1, 0, .inl 0, 5), (5, 8, 2, 0, .inl 0, 6), (6, 8, 0, 0, .inl 0, 7), (7, 1, 0, 0, .inl 3, 8), (8, 8, 0, 0, .inl 0, 9), (9, 1, 0, 0, .inl 2, 10), (10, 0, 2, 0, .inl 0, 11), (11, 8, 2, 0, .inl 0, 12), (12, 8, 0, 0, .inl 0, 13), (13, 7, 3, 5, .inl 0, 14), (14, 0, 3, 0, .inl 0, 15), (15, 1, 0, 0, .inl 36, 17), (17, 1, 0, 0, .inl 23, 19), (19, 0, 1, 0, .inl 0, 20), (20, 8, 2, 0, .inl 0, 21), (21, 8, 0, 0, .inl 0, 22), (22, 1, 0, 0, .inl 1, 23), (23, 8, 0, 0, .inl 0, 24), (24, 1, 0, 0, .inl 2, 25), (25, 0, 0, 1, .inl 0, 26), (26, 0, 1, 0, .inl 0, 27), (27, 3, 2, 139, .inl 0, 30), (30, 8, 2, 0, .inl 0, 31), (31, 8, 0, 0, .inl 0, 32)],
  [(32, 9, 3, 55, .inl 0, 35), (35, 0, 0, 1, .inl 0, 36), (36, 2, 8, 1, .inl 0, 39), (39, 0, 3, 0, .inl 0, 40), (40, 0, 0, 1, .inl 0, 41), (41, 2, 8, 1, .inl 0, 44), (44, 0, 3, 0, .inl 0, 45), (45, 1, 0, 0, .inl 2, 46), (46, 8, 0, 0, .inl 0, 47), (47, 5, 1, 0, .inl 0, 48), (48, 14, 1, 0, .inl 0, 49), (49, 12, 3, 0, .inl 1, 52), (52, 6, 5, 14, .inl 0, 55), (55, 0, 0, 1, .inl 0, 56), (56, 2, 8, 1, .inl 0, 59), (59, 1, 0, 0, .inl 36, 61), (61, 1, 0, 0, .inl 23, 63), (63, 0, 1, 0, .inl 0, 64)],
  [(64, 8, 2, 0, .inl 0, 65), (65, 8, 0, 0, .inl 0, 66), (66, 1, 0, 0, .inl 2, 67), (67, 8, 0, 0, .inl 0, 68), (68, 24, 0, 0, .inl 0, 69), (69, 5, 1, 0, .inl 0, 70), (70, 1, 0, 0, .inl 1, 71), (71, 8, 1, 0, .inl 0, 72), (72, 14, 1, 0, .inl 0, 73), (73, 0, 0, 1, .inl 0, 74), (74, 0, 1, 0, .inl 0, 75), (75, 3, 2, 139, .inl 0, 78), (78, 4, 1, 0, .inl 0, 79)]]
/-- ConstellationsByLotModel.eraseIn -/
def ic_146 : List (List (Nat × IN)) := [[(0, 1, 0, 0, .inl 0, 1), (1, 7, 3, 0, .inl 0, 2), (2, 0, 0, 1, .inl 0, 3), (3, 0, 1, 0, .inl 0, 4), (4, 3, 2, 139, .inl 0, 7), (7, 1, 0, 0, .inl 1, 8), (8, 8, 1, 0, .inl 0, 9), (9, 7, 4, 6, .inl 0, 11), (11, 0, 4, 0, .inl 0, 13), (13, 10, 2, 57, .inl 0, 16), (16, 0, 0, 1, .inl 0, 17), (17, 0, 1, 0, .inl 0, 18), (18, 0, 4, 0, .inl 0, 20), (20, 1, 0, 0, .inl 0, 21), (21, 3, 4, 140, .inl 0, 24), (24, 0, 2, 0, .inl 0, 25), (25, 9, 0, 40, .inl 0, 28), (28, 0, 0, 1, .inl 0, 29), (29, 0, 1, 0, .inl 0, 30), (30, 0, 4, 0, .inl 0, 32)],
  [(32, 1, 0, 0, .inl 1, 33), (33, 3, 4, 140, .inl 0, 36), (36, 0, 2, 0, .inl 0, 37), (37, 9, 1, 51, .inl 0, 40), (40, 0, 0, 1, .inl 0, 41), (41, 0, 1, 0, .inl 0, 42), (42, 0, 4, 0, .inl 0, 44), (44, 3, 3, 145, .inl 0, 47), (47, 25, 0, 0, .inl 0, 48), (48, 12, 3, 0, .inl 1, 51), (51, 12, 4, 0, .inl (-1), 54), (54, 6, 6, 11, .inl 0, 57), (57, 0, 3, 0, .inl 0, 58), (58, 4, 1, 0, .inl 0, 59)]]
/-- ConstellationsByLotModel.point -/
def ic_147 : List (List (Nat × IN)) := [[(0, 0, 1, 0, .inl 0, 1), (1, 15, 1, 0, .inl 0, 2), (2, 1, 0, 0, .inr (.inl 0), 3), (3, 1, 0, 0, .inr (.inl 99), 6), (6, 3, 3, 128, .inl 0, 9), (9, 10, 0, 24, .inl 0, 12), (12, 0, 2, 0, .inl 0, 13), (13, 15, 1, 0, .inl 0, 14), (14, 1, 0, 0, .inr (.inl 1), 15), (15, 1, 0, 0, .inr (.inl 9), 18), (18, 3, 3, 128, .inl 0, 21), (21, 10, 1, 31, .inl 0, 24), (24, 0, 0, 1, .inl 0, 25), (25, 1, 0, 0, .inl (-2), 27), (27, 3, 2, 129, .inl 0, 30), (30, 4, 1, 0, .inl 0, 31), (31, 0, 0, 1, .inl 0, 32)],
  [(32, 2, 8, 1, .inl 0, 35), (35, 1, 0, 0, .inl 174, 38), (38, 5, 1, 0, .inl 0, 39), (39, 1, 0, 0, .inl 12, 41), (41, 9, 1, 53, .inl 0, 44), (44, 0, 0, 1, .inl 0, 45), (45, 1, 0, 0, .inl (-6), 47), (47, 3, 2, 129, .inl 0, 50), (50, 6, 0, 59, .inl 0, 53), (53, 0, 0, 1, .inl 0, 54), (54, 0, 1, 0, .inl 0, 55), (55, 0, 2, 0, .inl 0, 56), (56, 3, 3, 141, .inl 0, 59), (59, 4, 1, 0, .inl 0, 60)]]
/-- ConstellationsByLotModel.parish -/
def ic_148 : List (List (Nat × IN)) := [[(0, 0, 1, 0, .inl 0, 1), (1, 15, 1, 0, .inl 0, 2), (2, 1, 0, 0, .inr (.inl 0), 3), (3, 1, 0, 0, .inr (.inl 5), 6), (6, 3, 3, 128, .inl 0, 9), (9, 10, 0, 24, .inl 0, 12), (12, 0, 2, 0, .inl 0, 13), (13, 15, 1, 0, .inl 0, 14), (14, 1, 0, 0, .inr (.inl 0), 15), (15, 1, 0, 0, .inr (.inl 9), 18), (18, 3, 3, 128, .inl 0, 21), (21, 10, 1, 31, .inl 0, 24), (24, 0, 0, 1, .inl 0, 25), (25, 1, 0, 0, .inl (-2), 27), (27, 3, 2, 129, .inl 0, 30), (30, 4, 1, 0, .inl 0, 31), (31, 0, 0, 1, .inl 0, 32)],
  [(32, 2, 8, 1, .inl 0, 35), (35, 1, 0, 0, .inl 175, 38), (38, 5, 1, 0, .inl 0, 39), (39, 1, 0, 0, .inl 6, 41), (41, 9, 1, 53, .inl 0, 44), (44, 0, 0, 1, .inl 0, 45), (45, 1, 0, 0, .inl (-6), 47), (47, 3, 2, 129, .inl 0, 50), (50, 6, 0, 59, .inl 0, 53), (53, 0, 0, 1, .inl 0, 54), (54, 0, 1, 0, .inl 0, 55), (55, 0, 2, 0, .inl 0, 56), (56, 3, 3, 142, .inl 0, 59), (59, 4, 1, 0, .inl 0, 60)]]
/-- ConstellationsByLotModel.wants -/
def ic_149 : List (List (Nat × IN)) := [[(0, 0, 0, 1, .inl 0, 1), (1, 0, 1, 0, .inl 0, 2), (2, 3, 2, 132, .inl 0, 5), (5, 10, 0, 17, .inl 0, 8), (8, 0, 0, 1, .inl 0, 9), (9, 0, 2, 0, .inl 0, 10), (10, 15, 1, 0, .inl 0, 11), (11, 3, 2, 131, .inl 0, 14), (14, 10, 1, 24, .inl 0, 17), (17, 0, 0, 1, .inl 0, 18), (18, 1, 0, 0, .inl (-2), 20), (20, 3, 2, 129, .inl 0, 23), (23, 4, 1, 0, .inl 0, 24), (24, 0, 0, 1, .inl 0, 25), (25, 0, 2, 0, .inl 0, 26), (26, 0, 1, 0, .inl 0, 27), (27, 3, 3, 136, .inl 0, 30), (30, 7, 4, 0, .inl 0, 32)],
  [(32, 0, 4, 0, .inl 0, 34), (34, 0, 3, 0, .inl 0, 35), (35, 9, 0, 54, .inl 0, 38), (38, 0, 0, 1, .inl 0, 39), (39, 2, 8, 1, .inl 0, 42), (42, 1, 0, 0, .inl 3, 43), (43, 0, 2, 0, .inl 0, 44), (44, 8, 2, 0, .inl 0, 45), (45, 1, 0, 0, .inl 2, 46), (46, 8, 0, 0, .inl 0, 47), (47, 24, 0, 0, .inl 0, 48), (48, 5, 1, 0, .inl 0, 49), (49, 1, 0, 0, .inl 1, 50), (50, 0, 1, 0, .inl 0, 51), (51, 8, 6, 0, .inl 0, 52), (52, 8, 5, 0, .inl 0, 53), (53, 14, 1, 0, .inl 0, 54), (54, 0, 3, 0, .inl 0, 55), (55, 10, 1, 65, .inl 0, 58), (58, 0, 0, 1, .inl 0, 59), (59, 0, 1, 0, .inl 0, 60), (60, 0, 2, 0, .inl 0, 61), (61, 3, 3, 146, .inl 0, 64)],
  [(64, 25, 0, 0, .inl 0, 65), (65, 0, 4, 0, .inl 0, 67), (67, 10, 0, 74, .inl 0, 70), (70, 1, 0, 0, .inl 1, 71), (71, 6, 0, 75, .inl 0, 74), (74, 1, 0, 0, .inl 0, 75), (75, 4, 1, 0, .inl 0, 76)]]
/-- ConstellationsByLotModel.isPair -/
def ic_150 : List (List (Nat × IN)) := [[(0, 0, 0, 1, .inl 0, 1), (1, 0, 1, 0, .inl 0, 2), (2, 3, 2, 132, .inl 0, 5), (5, 10, 0, 35, .inl 0, 8), (8, 0, 0, 1, .inl 0, 9), (9, 0, 2, 0, .inl 0, 10), (10, 15, 1, 0, .inl 0, 11), (11, 3, 2, 131, .inl 0, 14), (14, 10, 0, 35, .inl 0, 17), (17, 0, 0, 1, .inl 0, 18), (18, 0, 3, 0, .inl 0, 19), (19, 15, 1, 0, .inl 0, 20), (20, 3, 2, 131, .inl 0, 23), (23, 10, 0, 35, .inl 0, 26), (26, 0, 2, 0, .inl 0, 27), (27, 0, 3, 0, .inl 0, 28), (28, 9, 0, 35, .inl 0, 31), (31, 1, 0, 0, .inl 1, 32)],
  [(32, 6, 0, 36, .inl 0, 35), (35, 1, 0, 0, .inl 0, 36), (36, 4, 3, 0, .inl 0, 37)]]
/-- ConstellationsByLotModel.line -/
def ic_151 : List (List (Nat × IN)) := [[(0, 0, 0, 1, .inl 0, 1), (1, 0, 1, 0, .inl 0, 2), (2, 0, 2, 0, .inl 0, 3), (3, 0, 3, 0, .inl 0, 4), (4, 3, 4, 150, .inl 0, 7), (7, 10, 1, 17, .inl 0, 10), (10, 0, 0, 1, .inl 0, 11), (11, 1, 0, 0, .inl (-2), 13), (13, 3, 2, 129, .inl 0, 16), (16, 4, 1, 0, .inl 0, 17), (17, 0, 0, 1, .inl 0, 18), (18, 0, 2, 0, .inl 0, 19), (19, 0, 1, 0, .inl 0, 20), (20, 3, 3, 136, .inl 0, 23), (23, 10, 0, 46, .inl 0, 26), (26, 0, 0, 1, .inl 0, 27), (27, 0, 3, 0, .inl 0, 28), (28, 0, 1, 0, .inl 0, 29), (29, 3, 3, 136, .inl 0, 32)],
  [(32, 10, 0, 46, .inl 0, 35), (35, 0, 0, 1, .inl 0, 36), (36, 0, 1, 0, .inl 0, 37), (37, 0, 2, 0, .inl 0, 38), (38, 0, 3, 0, .inl 0, 39), (39, 3, 4, 143, .inl 0, 42), (42, 1, 0, 0, .inl (-1), 43), (43, 9, 0, 53, .inl 0, 46), (46, 0, 0, 1, .inl 0, 47), (47, 1, 0, 0, .inl (-5), 49), (49, 3, 2, 129, .inl 0, 52), (52, 4, 1, 0, .inl 0, 53), (53, 0, 0, 1, .inl 0, 54), (54, 0, 1, 0, .inl 0, 55), (55, 3, 2, 139, .inl 0, 58), (58, 1, 0, 0, .inl 10, 60), (60, 9, 1, 72, .inl 0, 63), (63, 0, 0, 1, .inl 0, 64)],
  [(64, 1, 0, 0, .inl (-6), 66), (66, 3, 2, 129, .inl 0, 69), (69, 6, 0, 79, .inl 0, 72), (72, 0, 0, 1, .inl 0, 73), (73, 0, 1, 0, .inl 0, 74), (74, 0, 2, 0, .inl 0, 75), (75, 0, 3, 0, .inl 0, 76), (76, 3, 4, 144, .inl 0, 79), (79, 4, 1, 0, .inl 0, 80)]]
/-- ConstellationsByLotModel.drop -/
def ic_152 : List (List (Nat × IN)) := [[(0, 0, 0, 1, .inl 0, 1), (1, 0, 1, 0, .inl 0, 2), (2, 0, 2, 0, .inl 0, 3), (3, 0, 3, 0, .inl 0, 4), (4, 3, 4, 150, .inl 0, 7), (7, 10, 1, 17, .inl 0, 10), (10, 0, 0, 1, .inl 0, 11), (11, 1, 0, 0, .inl (-2), 13), (13, 3, 2, 129, .inl 0, 16), (16, 4, 1, 0, .inl 0, 17), (17, 0, 0, 1, .inl 0, 18), (18, 0, 1, 0, .inl 0, 19), (19, 0, 2, 0, .inl 0, 20), (20, 0, 3, 0, .inl 0, 21), (21, 3, 4, 143, .inl 0, 24), (24, 7, 4, 0, .inl 0, 26), (26, 0, 4, 0, .inl 0, 28), (28, 1, 0, 0, .inl (-1), 29), (29, 9, 1, 41, .inl 0, 32)],
  [(32, 0, 0, 1, .inl 0, 33), (33, 1, 0, 0, .inl (-5), 35), (35, 3, 2, 129, .inl 0, 38), (38, 6, 0, 48, .inl 0, 41), (41, 0, 0, 1, .inl 0, 42), (42, 0, 1, 0, .inl 0, 43), (43, 0, 4, 0, .inl 0, 45), (45, 3, 3, 145, .inl 0, 48), (48, 4, 1, 0, .inl 0, 49)]]
/-- ConstellationsByLotModel.cloud -/
def ic_153 : List (List (Nat × IN)) := [[(0, 0, 1, 0, .inl 0, 1), (1, 15, 1, 0, .inl 0, 2), (2, 1, 0, 0, .inr (.inl 0), 3), (3, 1, 0, 0, .inr (.inl 12), 6), (6, 3, 3, 128, .inl 0, 9), (9, 10, 1, 19, .inl 0, 12), (12, 0, 0, 1, .inl 0, 13), (13, 1, 0, 0, .inl (-2), 15), (15, 3, 2, 129, .inl 0, 18), (18, 4, 1, 0, .inl 0, 19), (19, 0, 0, 1, .inl 0, 20), (20, 2, 8, 1, .inl 0, 23), (23, 1, 0, 0, .inl 176, 26), (26, 5, 1, 0, .inl 0, 27), (27, 7, 2, 0, .inl 0, 28), (28, 0, 0, 1, .inl 0, 29), (29, 2, 8, 1, .inl 0, 32)],
  [(32, 1, 0, 0, .inl 176, 35), (35, 0, 1, 0, .inl 0, 36), (36, 14, 1, 0, .inl 0, 37), (37, 0, 2, 0, .inl 0, 38), (38, 4, 1, 0, .inl 0, 39)]]
/-- ConstellationsByLotModel.feed -/
def ic_154 : List (List (Nat × IN)) := [[(0, 0, 1, 0, .inl 0, 1), (1, 15, 1, 0, .inl 0, 2), (2, 1, 0, 0, .inr (.inl 0), 3), (3, 1, 0, 0, .inr (.inl 255), 6), (6, 3, 3, 128, .inl 0, 9), (9, 10, 1, 19, .inl 0, 12), (12, 0, 0, 1, .inl 0, 13), (13, 1, 0, 0, .inl (-2), 15), (15, 3, 2, 129, .inl 0, 18), (18, 4, 1, 0, .inl 0, 19), (19, 0, 0, 1, .inl 0, 20), (20, 2, 8, 6, .inl 0, 23), (23, 1, 0, 0, .inl 250, 26), (26, 9, 1, 36, .inl 0, 29), (29, 0, 0, 1, .inl 0, 30), (30, 1, 0, 0, .inl (-6), 32)],
  [(32, 3, 2, 129, .inl 0, 35), (35, 4, 1, 0, .inl 0, 36), (36, 0, 0, 1, .inl 0, 37), (37, 2, 8, 5, .inl 0, 40), (40, 0, 0, 1, .inl 0, 41), (41, 2, 8, 6, .inl 0, 44), (44, 0, 1, 0, .inl 0, 45), (45, 14, 1, 0, .inl 0, 46), (46, 0, 0, 1, .inl 0, 47), (47, 13, 0, 0, .inl 0, 48), (48, 2, 8, 6, .inl 0, 51), (51, 1, 0, 0, .inl 1, 52), (52, 8, 0, 0, .inl 0, 53), (53, 11, 8, 6, .inl 0, 56), (56, 0, 0, 1, .inl 0, 57), (57, 2, 8, 6, .inl 0, 60), (60, 4, 1, 0, .inl 0, 61)]]
/-- ConstellationsByLotModel.wipe -/
def ic_155 : List (List (Nat × IN)) := [[(0, 0, 0, 1, .inl 0, 1), (1, 2, 8, 6, .inl 0, 4), (4, 7, 1, 0, .inl 0, 5), (5, 0, 0, 1, .inl 0, 6), (6, 1, 0, 0, .inl 0, 7), (7, 11, 8, 6, .inl 0, 10), (10, 0, 1, 0, .inl 0, 11), (11, 4, 1, 0, .inl 0, 12)]]
/-- ConstellationsByLotModel.sortAt -/
def ic_156 : List (List (Nat × IN)) := [[(0, 0, 1, 0, .inl 0, 1), (1, 0, 0, 1, .inl 0, 2), (2, 2, 8, 6, .inl 0, 5), (5, 9, 2, 12, .inl 0, 8), (8, 1, 0, 0, .inl 0, 9), (9, 6, 0, 74, .inl 0, 12), (12, 0, 0, 1, .inl 0, 13), (13, 2, 8, 5, .inl 0, 16), (16, 0, 1, 0, .inl 0, 17), (17, 5, 1, 0, .inl 0, 18), (18, 15, 1, 0, .inl 0, 19), (19, 1, 0, 0, .inr (.inl 97), 22), (22, 1, 0, 0, .inr (.inl 122), 25), (25, 3, 3, 128, .inl 0, 28), (28, 10, 0, 35, .inl 0, 31), (31, 1, 0, 0, .inl 1, 32)],
  [(32, 6, 0, 74, .inl 0, 35), (35, 0, 0, 1, .inl 0, 36), (36, 2, 8, 5, .inl 0, 39), (39, 0, 1, 0, .inl 0, 40), (40, 5, 1, 0, .inl 0, 41), (41, 15, 1, 0, .inl 0, 42), (42, 1, 0, 0, .inr (.inl 48), 45), (45, 1, 0, 0, .inr (.inl 57), 48), (48, 3, 3, 128, .inl 0, 51), (51, 10, 0, 58, .inl 0, 54), (54, 1, 0, 0, .inl 2, 55), (55, 6, 0, 74, .inl 0, 58), (58, 0, 0, 1, .inl 0, 59), (59, 2, 8, 5, .inl 0, 62), (62, 0, 1, 0, .inl 0, 63), (63, 5, 1, 0, .inl 0, 64)],
  [(64, 1, 0, 0, .inl 59, 66), (66, 9, 1, 73, .inl 0, 69), (69, 1, 0, 0, .inl 3, 70), (70, 6, 0, 74, .inl 0, 73), (73, 1, 0, 0, .inl 4, 74), (74, 4, 1, 0, .inl 0, 75)]]
/-- ConstellationsByLotModel.next -/
def ic_157 : List (List (Nat × IN)) := [[(0, 0, 0, 1, .inl 0, 1), (1, 2, 8, 7, .inl 0, 4), (4, 0, 0, 1, .inl 0, 5), (5, 2, 8, 6, .inl 0, 8), (8, 9, 3, 38, .inl 0, 11), (11, 0, 0, 1, .inl 0, 12), (12, 2, 8, 5, .inl 0, 15), (15, 0, 0, 1, .inl 0, 16), (16, 2, 8, 7, .inl 0, 19), (19, 5, 1, 0, .inl 0, 20), (20, 1, 0, 0, .inl 32, 22), (22, 9, 1, 38, .inl 0, 25), (25, 0, 0, 1, .inl 0, 26), (26, 13, 0, 0, .inl 0, 27), (27, 2, 8, 7, .inl 0, 30), (30, 1, 0, 0, .inl 1, 31), (31, 8, 0, 0, .inl 0, 32)],
  [(32, 11, 8, 7, .inl 0, 35), (35, 6, 2, 0, .inl 0, 38), (38, 0, 0, 1, .inl 0, 39), (39, 0, 0, 1, .inl 0, 40), (40, 2, 8, 7, .inl 0, 43), (43, 11, 8, 8, .inl 0, 46), (46, 0, 0, 1, .inl 0, 47), (47, 0, 0, 1, .inl 0, 48), (48, 0, 0, 1, .inl 0, 49), (49, 2, 8, 7, .inl 0, 52), (52, 3, 2, 156, .inl 0, 55), (55, 11, 8, 9, .inl 0, 58), (58, 0, 0, 1, .inl 0, 59), (59, 2, 8, 9, .inl 0, 62), (62, 10, 5, 111, .inl 0, 65)],
  [(65, 0, 0, 1, .inl 0, 66), (66, 13, 0, 0, .inl 0, 67), (67, 2, 8, 7, .inl 0, 70), (70, 1, 0, 0, .inl 1, 71), (71, 8, 0, 0, .inl 0, 72), (72, 11, 8, 7, .inl 0, 75), (75, 0, 0, 1, .inl 0, 76), (76, 2, 8, 9, .inl 0, 79), (79, 1, 0, 0, .inl 3, 80), (80, 9, 3, 111, .inl 0, 83), (83, 0, 0, 1, .inl 0, 84), (84, 0, 0, 1, .inl 0, 85), (85, 2, 8, 7, .inl 0, 88), (88, 3, 2, 156, .inl 0, 91), (91, 0, 0, 1, .inl 0, 92), (92, 2, 8, 9, .inl 0, 95), (95, 9, 1, 111, .inl 0, 98)],
  [(98, 0, 0, 1, .inl 0, 99), (99, 13, 0, 0, .inl 0, 100), (100, 2, 8, 7, .inl 0, 103), (103, 1, 0, 0, .inl 1, 104), (104, 8, 0, 0, .inl 0, 105), (105, 11, 8, 7, .inl 0, 108), (108, 6, 2, 75, .inl 0, 111), (111, 4, 0, 0, .inl 0, 112)]]
/-- ConstellationsByLotModel.word -/
def ic_158 : List (List (Nat × IN)) := [[(0, 1, 0, 0, .inl (-1), 1), (1, 7, 1, 0, .inl 0, 2), (2, 1, 0, 0, .inl 0, 3), (3, 7, 2, 4, .inl 0, 4), (4, 0, 2, 0, .inl 0, 5), (5, 1, 0, 0, .inl 5, 6), (6, 9, 3, 124, .inl 0, 9), (9, 0, 0, 1, .inl 0, 10), (10, 2, 8, 9, .inl 0, 13), (13, 1, 0, 0, .inl 1, 14), (14, 9, 1, 35, .inl 0, 17), (17, 0, 0, 1, .inl 0, 18), (18, 2, 8, 7, .inl 0, 21), (21, 0, 0, 1, .inl 0, 22), (22, 2, 8, 8, .inl 0, 25), (25, 8, 1, 0, .inl 0, 26), (26, 1, 0, 0, .inl 6, 28), (28, 9, 4, 35, .inl 0, 31), (31, 1, 0, 0, .inl 1, 32)],
  [(32, 6, 0, 36, .inl 0, 35), (35, 1, 0, 0, .inl 0, 36), (36, 7, 3, 0, .inl 0, 37), (37, 1, 0, 0, .inl 0, 38), (38, 7, 4, 6, .inl 0, 40), (40, 0, 4, 0, .inl 0, 42), (42, 1, 0, 0, .inl 6, 44), (44, 9, 3, 108, .inl 0, 47), (47, 0, 3, 0, .inl 0, 48), (48, 10, 0, 108, .inl 0, 51), (51, 0, 0, 1, .inl 0, 52), (52, 2, 8, 8, .inl 0, 55), (55, 0, 4, 0, .inl 0, 57), (57, 8, 0, 0, .inl 0, 58), (58, 0, 0, 1, .inl 0, 59), (59, 2, 8, 7, .inl 0, 62), (62, 9, 3, 80, .inl 0, 65)],
  [(65, 0, 0, 1, .inl 0, 66), (66, 2, 8, 5, .inl 0, 69), (69, 0, 0, 1, .inl 0, 70), (70, 2, 8, 8, .inl 0, 73), (73, 0, 4, 0, .inl 0, 75), (75, 8, 0, 0, .inl 0, 76), (76, 5, 1, 0, .inl 0, 77), (77, 6, 0, 81, .inl 0, 80), (80, 1, 0, 0, .inl 0, 81), (81, 0, 0, 1, .inl 0, 82), (82, 2, 8, 10, .inl 0, 85), (85, 1, 0, 0, .inl 6, 87), (87, 0, 2, 0, .inl 0, 88), (88, 8, 2, 0, .inl 0, 89), (89, 0, 4, 0, .inl 0, 91), (91, 8, 0, 0, .inl 0, 92), (92, 5, 4, 0, .inl 0, 93), (93, 9, 1, 100, .inl 0, 96)],
  [(96, 1, 0, 0, .inl 1, 97), (97, 6, 0, 101, .inl 0, 100), (100, 1, 0, 0, .inl 0, 101), (101, 7, 3, 0, .inl 0, 102), (102, 12, 4, 0, .inl 1, 105), (105, 6, 6, 40, .inl 0, 108), (108, 0, 3, 0, .inl 0, 109), (109, 10, 0, 116, .inl 0, 112), (112, 0, 2, 0, .inl 0, 113), (113, 6, 0, 117, .inl 0, 116), (116, 0, 1, 0, .inl 0, 117), (117, 7, 1, 0, .inl 0, 118), (118, 12, 2, 0, .inl 1, 121), (121, 6, 4, 4, .inl 0, 124), (124, 0, 1, 0, .inl 0, 125), (125, 4, 1, 0, .inl 0, 126)]]
/-- ConstellationsByLotModel.number -/
def ic_159 : List (List (Nat × IN)) := [[(0, 0, 0, 1, .inl 0, 1), (1, 3, 1, 157, .inl 0, 4), (4, 0, 0, 1, .inl 0, 5), (5, 2, 8, 9, .inl 0, 8), (8, 1, 0, 0, .inl 2, 9), (9, 9, 1, 25, .inl 0, 12), (12, 0, 0, 1, .inl 0, 13), (13, 2, 8, 7, .inl 0, 16), (16, 0, 0, 1, .inl 0, 17), (17, 2, 8, 8, .inl 0, 20), (20, 8, 1, 0, .inl 0, 21), (21, 1, 0, 0, .inl 2, 22), (22, 9, 5, 27, .inl 0, 25), (25, 1, 0, 0, .inl (-1), 26), (26, 4, 1, 0, .inl 0, 27), (27, 1, 0, 0, .inl 0, 28), (28, 7, 3, 0, .inl 0, 29), (29, 0, 0, 1, .inl 0, 30), (30, 2, 8, 8, .inl 0, 33)],
  [(33, 7, 4, 6, .inl 0, 35), (35, 0, 4, 0, .inl 0, 37), (37, 0, 0, 1, .inl 0, 38), (38, 2, 8, 7, .inl 0, 41), (41, 9, 3, 66, .inl 0, 44), (44, 1, 0, 0, .inl 10, 46), (46, 0, 3, 0, .inl 0, 47), (47, 8, 2, 0, .inl 0, 48), (48, 0, 0, 1, .inl 0, 49), (49, 2, 8, 5, .inl 0, 52), (52, 0, 4, 0, .inl 0, 54), (54, 5, 1, 0, .inl 0, 55), (55, 8, 0, 0, .inl 0, 56), (56, 1, 0, 0, .inl 48, 58), (58, 8, 1, 0, .inl 0, 59), (59, 7, 3, 0, .inl 0, 60), (60, 12, 4, 0, .inl 1, 63), (63, 6, 6, 35, .inl 0, 66)],
  [(66, 0, 3, 0, .inl 0, 67), (67, 15, 1, 0, .inl 0, 68), (68, 0, 1, 0, .inl 0, 69), (69, 15, 1, 0, .inl 0, 70), (70, 0, 2, 0, .inl 0, 71), (71, 15, 1, 0, .inl 0, 72), (72, 3, 3, 128, .inl 0, 75), (75, 10, 0, 82, .inl 0, 78), (78, 0, 3, 0, .inl 0, 79), (79, 6, 0, 83, .inl 0, 82), (82, 1, 0, 0, .inl (-1), 83), (83, 4, 1, 0, .inl 0, 84)]]
/-- ConstellationsByLotModel.isLine -/
def ic_160 : List (List (Nat × IN)) := [[(0, 0, 0, 1, .inl 0, 1), (1, 1, 0, 0, .inl 0, 2), (2, 0, 0, 1, .inl 0, 3), (3, 2, 8, 1, .inl 0, 6), (6, 1, 0, 0, .inl 175, 9), (9, 5, 1, 0, .inl 0, 10), (10, 1, 0, 0, .inl 1, 11), (11, 8, 1, 0, .inl 0, 12), (12, 3, 3, 159, .inl 0, 15), (15, 7, 1, 0, .inl 0, 16), (16, 0, 1, 0, .inl 0, 17), (17, 1, 0, 0, .inl (-1), 18), (18, 9, 0, 31, .inl 0, 21), (21, 0, 0, 1, .inl 0, 22), (22, 0, 1, 0, .inl 0, 23), (23, 3, 2, 139, .inl 0, 26), (26, 1, 0, 0, .inl 10, 28), (28, 9, 1, 33, .inl 0, 31), (31, 1, 0, 0, .inl 0, 32)],
  [(32, 4, 3, 0, .inl 0, 33), (33, 0, 0, 1, .inl 0, 34), (34, 1, 0, 0, .inl 0, 35), (35, 0, 0, 1, .inl 0, 36), (36, 2, 8, 1, .inl 0, 39), (39, 1, 0, 0, .inl 174, 42), (42, 5, 1, 0, .inl 0, 43), (43, 1, 0, 0, .inl 1, 44), (44, 8, 1, 0, .inl 0, 45), (45, 3, 3, 159, .inl 0, 48), (48, 7, 2, 0, .inl 0, 49), (49, 0, 2, 0, .inl 0, 50), (50, 1, 0, 0, .inl (-1), 51), (51, 9, 0, 63, .inl 0, 54), (54, 0, 0, 1, .inl 0, 55), (55, 0, 2, 0, .inl 0, 56), (56, 0, 1, 0, .inl 0, 57), (57, 3, 3, 136, .inl 0, 60), (60, 10, 1, 65, .inl 0, 63), (63, 1, 0, 0, .inl 0, 64)],
  [(64, 4, 3, 0, .inl 0, 65), (65, 0, 0, 1, .inl 0, 66), (66, 1, 0, 0, .inl 0, 67), (67, 0, 0, 1, .inl 0, 68), (68, 2, 8, 1, .inl 0, 71), (71, 1, 0, 0, .inl 174, 74), (74, 5, 1, 0, .inl 0, 75), (75, 1, 0, 0, .inl 1, 76), (76, 8, 1, 0, .inl 0, 77), (77, 3, 3, 159, .inl 0, 80), (80, 7, 3, 0, .inl 0, 81), (81, 0, 3, 0, .inl 0, 82), (82, 1, 0, 0, .inl (-1), 83), (83, 9, 0, 111, .inl 0, 86), (86, 0, 0, 1, .inl 0, 87), (87, 0, 3, 0, .inl 0, 88), (88, 0, 1, 0, .inl 0, 89), (89, 3, 3, 136, .inl 0, 92), (92, 10, 0, 111, .inl 0, 95), (95, 0, 3, 0, .inl 0, 96)],
  [(96, 0, 2, 0, .inl 0, 97), (97, 9, 0, 111, .inl 0, 100), (100, 0, 0, 1, .inl 0, 101), (101, 0, 1, 0, .inl 0, 102), (102, 0, 2, 0, .inl 0, 103), (103, 0, 3, 0, .inl 0, 104), (104, 3, 4, 143, .inl 0, 107), (107, 1, 0, 0, .inl (-1), 108), (108, 9, 0, 113, .inl 0, 111), (111, 1, 0, 0, .inl 0, 112), (112, 4, 3, 0, .inl 0, 113), (113, 0, 0, 1, .inl 0, 114), (114, 0, 1, 0, .inl 0, 115), (115, 0, 2, 0, .inl 0, 116), (116, 0, 3, 0, .inl 0, 117), (117, 3, 4, 144, .inl 0, 120), (120, 25, 0, 0, .inl 0, 121), (121, 1, 0, 0, .inl 1, 122), (122, 4, 3, 0, .inl 0, 123)]]
/-- ConstellationsByLotModel.isStatement -/
def ic_161 : List (List (Nat × IN)) := [[(0, 0, 0, 1, .inl 0, 1), (1, 3, 1, 157, .inl 0, 4), (4, 0, 0, 1, .inl 0, 5), (5, 3, 1, 158, .inl 0, 8), (8, 7, 1, 0, .inl 0, 9), (9, 0, 1, 0, .inl 0, 10), (10, 1, 0, 0, .inl (-1), 11), (11, 9, 0, 49, .inl 0, 14), (14, 0, 1, 0, .inl 0, 15), (15, 10, 1, 31, .inl 0, 18), (18, 0, 0, 1, .inl 0, 19), (19, 2, 8, 1, .inl 0, 22), (22, 1, 0, 0, .inl 174, 25), (25, 5, 1, 0, .inl 0, 26), (26, 1, 0, 0, .inl 12, 28), (28, 9, 0, 49, .inl 0, 31), (31, 0, 1, 0, .inl 0, 32)],
  [(32, 1, 0, 0, .inl 1, 33), (33, 9, 1, 51, .inl 0, 36), (36, 0, 0, 1, .inl 0, 37), (37, 2, 8, 1, .inl 0, 40), (40, 1, 0, 0, .inl 175, 43), (43, 5, 1, 0, .inl 0, 44), (44, 1, 0, 0, .inl 6, 46), (46, 9, 1, 51, .inl 0, 49), (49, 1, 0, 0, .inl 0, 50), (50, 4, 3, 0, .inl 0, 51), (51, 0, 1, 0, .inl 0, 52), (52, 1, 0, 0, .inl 3, 53), (53, 9, 1, 61, .inl 0, 56), (56, 0, 0, 1, .inl 0, 57), (57, 3, 1, 160, .inl 0, 60), (60, 4, 3, 0, .inl 0, 61), (61, 0, 0, 1, .inl 0, 62), (62, 1, 0, 0, .inl 0, 63), (63, 0, 1, 0, .inl 0, 64)],
  [(64, 10, 1, 72, .inl 0, 67), (67, 1, 0, 0, .inl 99, 69), (69, 6, 0, 101, .inl 0, 72), (72, 0, 1, 0, .inl 0, 73), (73, 1, 0, 0, .inl 1, 74), (74, 9, 1, 81, .inl 0, 77), (77, 1, 0, 0, .inl 5, 78), (78, 6, 0, 101, .inl 0, 81), (81, 0, 1, 0, .inl 0, 82), (82, 1, 0, 0, .inl 2, 83), (83, 9, 1, 99, .inl 0, 86), (86, 0, 0, 1, .inl 0, 87), (87, 2, 8, 1, .inl 0, 90), (90, 1, 0, 0, .inl 175, 93), (93, 5, 1, 0, .inl 0, 94), (94, 1, 0, 0, .inl 1, 95), (95, 8, 1, 0, .inl 0, 96)],
  [(96, 6, 0, 101, .inl 0, 99), (99, 1, 0, 0, .inl 12, 101), (101, 3, 3, 159, .inl 0, 104), (104, 7, 2, 0, .inl 0, 105), (105, 0, 2, 0, .inl 0, 106), (106, 1, 0, 0, .inl (-1), 107), (107, 9, 1, 114, .inl 0, 110), (110, 1, 0, 0, .inl (-1), 111), (111, 6, 0, 156, .inl 0, 114), (114, 0, 1, 0, .inl 0, 115), (115, 1, 0, 0, .inl 4, 116), (116, 9, 1, 123, .inl 0, 119), (119, 0, 2, 0, .inl 0, 120), (120, 6, 0, 156, .inl 0, 123), (123, 0, 0, 1, .inl 0, 124), (124, 0, 1, 0, .inl 0, 125), (125, 10, 1, 132, .inl 0, 128)],
  [(128, 1, 0, 0, .inl 1, 129), (129, 6, 0, 133, .inl 0, 132), (132, 1, 0, 0, .inl 0, 133), (133, 0, 1, 0, .inl 0, 134), (134, 1, 0, 0, .inl 2, 135), (135, 9, 1, 151, .inl 0, 138), (138, 0, 0, 1, .inl 0, 139), (139, 2, 8, 1, .inl 0, 142), (142, 1, 0, 0, .inl 174, 145), (145, 5, 1, 0, .inl 0, 146), (146, 1, 0, 0, .inl 1, 147), (147, 8, 1, 0, .inl 0, 148), (148, 6, 0, 153, .inl 0, 151), (151, 1, 0, 0, .inl 9, 153), (153, 3, 3, 159, .inl 0, 156), (156, 7, 3, 0, .inl 0, 157), (157, 0, 3, 0, .inl 0, 158), (158, 1, 0, 0, .inl (-1), 159), (159, 9, 1, 164, .inl 0, 162)],
  [(162, 1, 0, 0, .inl 0, 163), (163, 4, 3, 0, .inl 0, 164), (164, 0, 1, 0, .inl 0, 165), (165, 10, 1, 178, .inl 0, 168), (168, 0, 0, 1, .inl 0, 169), (169, 0, 2, 0, .inl 0, 170), (170, 0, 3, 0, .inl 0, 171), (171, 3, 3, 141, .inl 0, 174), (174, 25, 0, 0, .inl 0, 175), (175, 6, 0, 226, .inl 0, 178), (178, 0, 1, 0, .inl 0, 179), (179, 1, 0, 0, .inl 1, 180), (180, 9, 1, 193, .inl 0, 183), (183, 0, 0, 1, .inl 0, 184), (184, 0, 2, 0, .inl 0, 185), (185, 0, 3, 0, .inl 0, 186), (186, 3, 3, 142, .inl 0, 189), (189, 25, 0, 0, .inl 0, 190), (190, 6, 0, 226, .inl 0, 193)],
  [(193, 0, 1, 0, .inl 0, 194), (194, 1, 0, 0, .inl 2, 195), (195, 9, 1, 217, .inl 0, 198), (198, 0, 0, 1, .inl 0, 199), (199, 2, 8, 1, .inl 0, 202), (202, 1, 0, 0, .inl 3, 203), (203, 0, 3, 0, .inl 0, 204), (204, 8, 2, 0, .inl 0, 205), (205, 1, 0, 0, .inl 2, 206), (206, 8, 0, 0, .inl 0, 207), (207, 24, 0, 0, .inl 0, 208), (208, 5, 1, 0, .inl 0, 209), (209, 1, 0, 0, .inl 1, 210), (210, 0, 2, 0, .inl 0, 211), (211, 8, 6, 0, .inl 0, 212), (212, 8, 4, 0, .inl 0, 213), (213, 14, 1, 0, .inl 0, 214), (214, 6, 0, 226, .inl 0, 217), (217, 0, 0, 1, .inl 0, 218), (218, 2, 8, 1, .inl 0, 221), (221, 1, 0, 0, .inl 176, 224)],
  [(224, 0, 2, 0, .inl 0, 225), (225, 14, 1, 0, .inl 0, 226), (226, 1, 0, 0, .inl 1, 227), (227, 4, 3, 0, .inl 0, 228)]]
/-- ConstellationsByLotModel.sky -/
def ic_162 : List (List (Nat × IN)) := [[(0, 0, 0, 1, .inl 0, 1), (1, 2, 8, 1, .inl 0, 4), (4, 1, 0, 0, .inl 0, 5), (5, 0, 0, 1, .inl 0, 6), (6, 2, 8, 3, .inl 0, 9), (9, 1, 0, 0, .inl 0, 10), (10, 3, 4, 130, .inl 0, 13), (13, 0, 0, 1, .inl 0, 14), (14, 1, 0, 0, .inl 0, 15), (15, 11, 8, 7, .inl 0, 18), (18, 1, 0, 0, .inl 0, 19), (19, 7, 1, 0, .inl 0, 20), (20, 0, 0, 1, .inl 0, 21), (21, 3, 1, 161, .inl 0, 24), (24, 7, 2, 4, .inl 0, 25), (25, 0, 2, 0, .inl 0, 26), (26, 10, 0, 74, .inl 0, 29), (29, 12, 1, 0, .inl 1, 32)],
  [(32, 0, 0, 1, .inl 0, 33), (33, 3, 1, 157, .inl 0, 36), (36, 0, 0, 1, .inl 0, 37), (37, 2, 8, 9, .inl 0, 40), (40, 10, 1, 50, .inl 0, 43), (43, 0, 0, 1, .inl 0, 44), (44, 1, 0, 0, .inl 0, 45), (45, 11, 8, 6, .inl 0, 48), (48, 0, 1, 0, .inl 0, 49), (49, 4, 1, 0, .inl 0, 50), (50, 0, 0, 1, .inl 0, 51), (51, 2, 8, 9, .inl 0, 54), (54, 1, 0, 0, .inl 3, 55), (55, 9, 1, 69, .inl 0, 58), (58, 0, 0, 1, .inl 0, 59), (59, 3, 1, 161, .inl 0, 62), (62, 10, 0, 69, .inl 0, 65)],
  [(65, 1, 0, 0, .inl 1, 66), (66, 6, 0, 70, .inl 0, 69), (69, 1, 0, 0, .inl 0, 70), (70, 7, 2, 0, .inl 0, 71), (71, 6, 4, 25, .inl 0, 74), (74, 0, 0, 1, .inl 0, 75), (75, 2, 8, 3, .inl 0, 78), (78, 1, 0, 0, .inl 0, 79), (79, 0, 0, 1, .inl 0, 80), (80, 2, 8, 1, .inl 0, 83), (83, 1, 0, 0, .inl 0, 84), (84, 3, 4, 130, .inl 0, 87), (87, 0, 0, 1, .inl 0, 88), (88, 1, 0, 0, .inl 0, 89), (89, 11, 8, 6, .inl 0, 92), (92, 0, 0, 1, .inl 0, 93), (93, 1, 0, 0, .inl (-2), 95), (95, 3, 2, 129, .inl 0, 98)],
  [(98, 25, 0, 0, .inl 0, 99), (99, 1, 0, 0, .inl (-20), 101), (101, 0, 0, 1, .inl 0, 102), (102, 2, 8, 8, .inl 0, 105), (105, 8, 1, 0, .inl 0, 106), (106, 4, 1, 0, .inl 0, 107)]]
/-- ConstellationsByLotModel.length -/
def ic_163 : List (List (Nat × IN)) := [[(0, 0, 0, 1, .inl 0, 1), (1, 0, 1, 0, .inl 0, 2), (2, 3, 2, 133, .inl 0, 5), (5, 1, 0, 0, .inl 10, 7), (7, 19, 0, 0, .inl 0, 8), (8, 0, 0, 1, .inl 0, 9), (9, 0, 2, 0, .inl 0, 10), (10, 3, 2, 133, .inl 0, 13), (13, 1, 0, 0, .inl 10, 15), (15, 19, 0, 0, .inl 0, 16), (16, 8, 1, 0, .inl 0, 17), (17, 34, 0, 0, .inl 0, 20), (20, 0, 0, 1, .inl 0, 21), (21, 0, 1, 0, .inl 0, 22), (22, 3, 2, 133, .inl 0, 25), (25, 1, 0, 0, .inl 10, 27), (27, 19, 1, 0, .inl 0, 28), (28, 0, 0, 1, .inl 0, 29), (29, 0, 2, 0, .inl 0, 30), (30, 3, 2, 133, .inl 0, 33)],
  [(33, 1, 0, 0, .inl 10, 35), (35, 19, 1, 0, .inl 0, 36), (36, 8, 1, 0, .inl 0, 37), (37, 34, 0, 0, .inl 0, 40), (40, 8, 0, 0, .inl 0, 41), (41, 4, 1, 0, .inl 0, 42)]]
/-- ConstellationsByLotModel.lengthOf -/
def ic_164 : List (List (Nat × IN)) := [[(0, 0, 0, 1, .inl 0, 1), (1, 0, 0, 1, .inl 0, 2), (2, 0, 1, 0, .inl 0, 3), (3, 0, 2, 0, .inl 0, 4), (4, 1, 0, 0, .inl 0, 5), (5, 3, 4, 140, .inl 0, 8), (8, 0, 0, 1, .inl 0, 9), (9, 0, 1, 0, .inl 0, 10), (10, 0, 2, 0, .inl 0, 11), (11, 1, 0, 0, .inl 1, 12), (12, 3, 4, 140, .inl 0, 15), (15, 3, 3, 163, .inl 0, 18), (18, 4, 1, 0, .inl 0, 19)]]
/-- ConstellationsByLotModel.lengths -/
def ic_165 : List (List (Nat × IN)) := [[(0, 1, 0, 0, .inl 0, 1), (1, 7, 2, 0, .inl 0, 2), (2, 1, 0, 0, .inl 0, 3), (3, 7, 3, 5, .inl 0, 4), (4, 0, 3, 0, .inl 0, 5), (5, 0, 0, 1, .inl 0, 6), (6, 0, 1, 0, .inl 0, 7), (7, 3, 2, 139, .inl 0, 10), (10, 9, 3, 28, .inl 0, 13), (13, 0, 2, 0, .inl 0, 14), (14, 0, 0, 1, .inl 0, 15), (15, 0, 1, 0, .inl 0, 16), (16, 0, 3, 0, .inl 0, 17), (17, 3, 3, 164, .inl 0, 20), (20, 8, 0, 0, .inl 0, 21), (21, 7, 2, 0, .inl 0, 22), (22, 12, 3, 0, .inl 1, 25), (25, 6, 5, 4, .inl 0, 28), (28, 0, 2, 0, .inl 0, 29), (29, 4, 1, 0, .inl 0, 30)]]
/-- ConstellationsByLotModel.longest -/
def ic_166 : List (List (Nat × IN)) := [[(0, 1, 0, 0, .inl 0, 1), (1, 7, 2, 0, .inl 0, 2), (2, 1, 0, 0, .inl 0, 3), (3, 7, 3, 5, .inl 0, 4), (4, 0, 3, 0, .inl 0, 5), (5, 0, 0, 1, .inl 0, 6), (6, 0, 1, 0, .inl 0, 7), (7, 3, 2, 139, .inl 0, 10), (10, 9, 3, 30, .inl 0, 13), (13, 0, 2, 0, .inl 0, 14), (14, 0, 0, 1, .inl 0, 15), (15, 0, 1, 0, .inl 0, 16), (16, 0, 3, 0, .inl 0, 17), (17, 3, 3, 164, .inl 0, 20), (20, 33, 0, 0, .inl 0, 23), (23, 7, 2, 0, .inl 0, 24), (24, 12, 3, 0, .inl 1, 27), (27, 6, 5, 4, .inl 0, 30), (30, 0, 2, 0, .inl 0, 31), (31, 4, 1, 0, .inl 0, 32)]]
/-- ConstellationsByLotModel.ones -/
def ic_167 : List (List (Nat × IN)) := [[(0, 1, 0, 0, .inl 0, 1), (1, 7, 1, 0, .inl 0, 2), (2, 1, 0, 0, .inl 0, 3), (3, 7, 2, 4, .inl 0, 4), (4, 0, 2, 0, .inl 0, 5), (5, 1, 0, 0, .inl 12, 7), (7, 9, 3, 24, .inl 0, 10), (10, 0, 1, 0, .inl 0, 11), (11, 0, 0, 0, .inl 0, 12), (12, 0, 2, 0, .inl 0, 13), (13, 8, 7, 0, .inl 0, 14), (14, 1, 0, 0, .inl 1, 15), (15, 8, 3, 0, .inl 0, 16), (16, 8, 0, 0, .inl 0, 17), (17, 7, 1, 0, .inl 0, 18), (18, 12, 2, 0, .inl 1, 21), (21, 6, 4, 4, .inl 0, 24), (24, 0, 1, 0, .inl 0, 25), (25, 4, 1, 0, .inl 0, 26)]]
/-- ConstellationsByLotModel.used -/
def ic_168 : List (List (Nat × IN)) := [[(0, 1, 0, 0, .inl 0, 1), (1, 7, 2, 0, .inl 0, 2), (2, 1, 0, 0, .inl 0, 3), (3, 7, 3, 5, .inl 0, 4), (4, 0, 3, 0, .inl 0, 5), (5, 0, 0, 1, .inl 0, 6), (6, 0, 1, 0, .inl 0, 7), (7, 3, 2, 139, .inl 0, 10), (10, 9, 3, 41, .inl 0, 13), (13, 0, 2, 0, .inl 0, 14), (14, 1, 0, 0, .inl 1, 15), (15, 0, 0, 1, .inl 0, 16), (16, 0, 1, 0, .inl 0, 17), (17, 0, 3, 0, .inl 0, 18), (18, 1, 0, 0, .inl 0, 19), (19, 3, 4, 140, .inl 0, 22), (22, 8, 6, 0, .inl 0, 23), (23, 1, 0, 0, .inl 1, 24), (24, 0, 0, 1, .inl 0, 25), (25, 0, 1, 0, .inl 0, 26), (26, 0, 3, 0, .inl 0, 27), (27, 1, 0, 0, .inl 1, 28), (28, 3, 4, 140, .inl 0, 31), (31, 8, 6, 0, .inl 0, 32)],
  [(32, 8, 4, 0, .inl 0, 33), (33, 8, 4, 0, .inl 0, 34), (34, 7, 2, 0, .inl 0, 35), (35, 12, 3, 0, .inl 1, 38), (38, 6, 5, 4, .inl 0, 41), (41, 0, 2, 0, .inl 0, 42), (42, 4, 1, 0, .inl 0, 43)]]
/-- ConstellationsByLotModel.odd -/
def ic_169 : List (List (Nat × IN)) := [[(0, 1, 0, 0, .inl 0, 1), (1, 7, 2, 0, .inl 0, 2), (2, 1, 0, 0, .inl 0, 3), (3, 7, 3, 5, .inl 0, 4), (4, 0, 3, 0, .inl 0, 5), (5, 0, 0, 1, .inl 0, 6), (6, 0, 1, 0, .inl 0, 7), (7, 3, 2, 139, .inl 0, 10), (10, 9, 3, 41, .inl 0, 13), (13, 0, 2, 0, .inl 0, 14), (14, 1, 0, 0, .inl 1, 15), (15, 0, 0, 1, .inl 0, 16), (16, 0, 1, 0, .inl 0, 17), (17, 0, 3, 0, .inl 0, 18), (18, 1, 0, 0, .inl 0, 19), (19, 3, 4, 140, .inl 0, 22), (22, 8, 6, 0, .inl 0, 23), (23, 1, 0, 0, .inl 1, 24), (24, 0, 0, 1, .inl 0, 25), (25, 0, 1, 0, .inl 0, 26), (26, 0, 3, 0, .inl 0, 27), (27, 1, 0, 0, .inl 1, 28), (28, 3, 4, 140, .inl 0, 31), (31, 8, 6, 0, .inl 0, 32)],
  [(32, 8, 5, 0, .inl 0, 33), (33, 8, 5, 0, .inl 0, 34), (34, 7, 2, 0, .inl 0, 35), (35, 12, 3, 0, .inl 1, 38), (38, 6, 5, 4, .inl 0, 41), (41, 0, 2, 0, .inl 0, 42), (42, 4, 1, 0, .inl 0, 43)]]
/-- ConstellationsByLotModel.light -/
def ic_170 : List (List (Nat × IN)) := [[(0, 1, 0, 0, .inl 0, 1), (1, 7, 2, 0, .inl 0, 2), (2, 1, 0, 0, .inl 0, 3), (3, 7, 3, 5, .inl 0, 4), (4, 0, 3, 0, .inl 0, 5), (5, 0, 0, 1, .inl 0, 6), (6, 2, 8, 1, .inl 0, 9), (9, 1, 0, 0, .inl 174, 12), (12, 5, 1, 0, .inl 0, 13), (13, 9, 3, 40, .inl 0, 16), (16, 0, 2, 0, .inl 0, 17), (17, 0, 0, 1, .inl 0, 18), (18, 0, 1, 0, .inl 0, 19), (19, 3, 2, 168, .inl 0, 22), (22, 0, 3, 0, .inl 0, 23), (23, 8, 7, 0, .inl 0, 24), (24, 1, 0, 0, .inl 1, 25), (25, 8, 3, 0, .inl 0, 26), (26, 0, 0, 1, .inl 0, 27), (27, 0, 3, 0, .inl 0, 28), (28, 3, 2, 134, .inl 0, 31), (31, 8, 2, 0, .inl 0, 32)],
  [(32, 8, 0, 0, .inl 0, 33), (33, 7, 2, 0, .inl 0, 34), (34, 12, 3, 0, .inl 1, 37), (37, 6, 5, 4, .inl 0, 40), (40, 0, 2, 0, .inl 0, 41), (41, 4, 1, 0, .inl 0, 42)]]
/-- ConstellationsByLotModel.piece -/
def ic_171 : List (List (Nat × IN)) := [[(0, 1, 0, 0, .inl 1, 1), (1, 0, 2, 0, .inl 0, 2), (2, 8, 6, 0, .inl 0, 3), (3, 7, 3, 0, .inl 0, 4), (4, 1, 0, 0, .inl 0, 5), (5, 7, 4, 6, .inl 0, 7), (7, 0, 4, 0, .inl 0, 9), (9, 1, 0, 0, .inl 12, 11), (11, 9, 3, 78, .inl 0, 14), (14, 1, 0, 0, .inl 0, 15), (15, 7, 5, 7, .inl 0, 17), (17, 0, 5, 0, .inl 0, 19), (19, 0, 0, 1, .inl 0, 20), (20, 0, 1, 0, .inl 0, 21), (21, 3, 2, 139, .inl 0, 24), (24, 9, 3, 72, .inl 0, 27), (27, 1, 0, 0, .inl 1, 28), (28, 0, 0, 1, .inl 0, 29), (29, 0, 1, 0, .inl 0, 30), (30, 0, 5, 0, .inl 0, 32)],
  [(32, 1, 0, 0, .inl 0, 33), (33, 3, 4, 140, .inl 0, 36), (36, 8, 6, 0, .inl 0, 37), (37, 1, 0, 0, .inl 1, 38), (38, 0, 0, 1, .inl 0, 39), (39, 0, 1, 0, .inl 0, 40), (40, 0, 5, 0, .inl 0, 42), (42, 1, 0, 0, .inl 1, 43), (43, 3, 4, 140, .inl 0, 46), (46, 8, 6, 0, .inl 0, 47), (47, 8, 4, 0, .inl 0, 48), (48, 7, 6, 0, .inl 0, 50), (50, 0, 3, 0, .inl 0, 51), (51, 0, 3, 0, .inl 0, 52), (52, 0, 6, 0, .inl 0, 54), (54, 8, 3, 0, .inl 0, 55), (55, 10, 0, 63, .inl 0, 58), (58, 0, 6, 0, .inl 0, 60), (60, 6, 0, 64, .inl 0, 63), (63, 1, 0, 0, .inl 0, 64)],
  [(64, 8, 4, 0, .inl 0, 65), (65, 7, 3, 0, .inl 0, 66), (66, 12, 5, 0, .inl 1, 69), (69, 6, 7, 17, .inl 0, 72), (72, 12, 4, 0, .inl 1, 75), (75, 6, 6, 7, .inl 0, 78), (78, 0, 3, 0, .inl 0, 79), (79, 4, 1, 0, .inl 0, 80)]]
/-- ConstellationsByLotModel.pieces -/
def ic_172 : List (List (Nat × IN)) := [[(0, 0, 0, 1, .inl 0, 1), (1, 0, 1, 0, .inl 0, 2), (2, 3, 2, 168, .inl 0, 5), (5, 7, 3, 0, .inl 0, 6), (6, 1, 0, 0, .inl 0, 7), (7, 7, 4, 0, .inl 0, 9), (9, 1, 0, 0, .inl 0, 10), (10, 7, 5, 7, .inl 0, 12), (12, 0, 5, 0, .inl 0, 14), (14, 0, 0, 1, .inl 0, 15), (15, 2, 8, 1, .inl 0, 18), (18, 1, 0, 0, .inl 174, 21), (21, 5, 1, 0, .inl 0, 22), (22, 9, 3, 87, .inl 0, 25), (25, 0, 3, 0, .inl 0, 26), (26, 0, 5, 0, .inl 0, 28), (28, 8, 7, 0, .inl 0, 29), (29, 1, 0, 0, .inl 1, 30), (30, 8, 3, 0, .inl 0, 31), (31, 1, 0, 0, .inl 1, 32)],
  [(32, 9, 1, 81, .inl 0, 35), (35, 0, 0, 1, .inl 0, 36), (36, 0, 1, 0, .inl 0, 37), (37, 0, 5, 0, .inl 0, 39), (39, 3, 3, 171, .inl 0, 42), (42, 7, 6, 0, .inl 0, 44), (44, 0, 3, 0, .inl 0, 45), (45, 0, 6, 0, .inl 0, 47), (47, 1, 0, 0, .inl (-1), 48), (48, 8, 5, 0, .inl 0, 49), (49, 8, 3, 0, .inl 0, 50), (50, 7, 3, 0, .inl 0, 51), (51, 0, 4, 0, .inl 0, 53), (53, 0, 2, 0, .inl 0, 54), (54, 10, 0, 77, .inl 0, 57), (57, 1, 0, 0, .inl 1, 58), (58, 0, 6, 0, .inl 0, 60), (60, 0, 0, 1, .inl 0, 61), (61, 0, 1, 0, .inl 0, 62), (62, 3, 2, 169, .inl 0, 65)],
  [(65, 8, 3, 0, .inl 0, 66), (66, 3, 1, 167, .inl 0, 69), (69, 1, 0, 0, .inl 2, 70), (70, 19, 0, 0, .inl 0, 71), (71, 33, 0, 0, .inl 0, 74), (74, 6, 0, 78, .inl 0, 77), (77, 1, 0, 0, .inl 1, 78), (78, 8, 0, 0, .inl 0, 79), (79, 7, 4, 0, .inl 0, 81), (81, 12, 5, 0, .inl 1, 84), (84, 6, 7, 12, .inl 0, 87), (87, 0, 4, 0, .inl 0, 89), (89, 4, 1, 0, .inl 0, 90)]]
/-- ConstellationsByLotModel.isClosed -/
def ic_173 : List (List (Nat × IN)) := [[(0, 0, 0, 1, .inl 0, 1), (1, 0, 1, 0, .inl 0, 2), (2, 3, 2, 139, .inl 0, 5), (5, 10, 5, 20, .inl 0, 8), (8, 0, 0, 1, .inl 0, 9), (9, 0, 1, 0, .inl 0, 10), (10, 3, 2, 169, .inl 0, 13), (13, 10, 1, 20, .inl 0, 16), (16, 1, 0, 0, .inl 1, 17), (17, 6, 0, 21, .inl 0, 20), (20, 1, 0, 0, .inl 0, 21), (21, 4, 3, 0, .inl 0, 22)]]
/-- ConstellationsByLotModel.worth -/
def ic_174 : List (List (Nat × IN)) := [[(0, 0, 0, 1, .inl 0, 1), (1, 0, 1, 0, .inl 0, 2), (2, 3, 2, 170, .inl 0, 5), (5, 0, 0, 1, .inl 0, 6), (6, 0, 1, 0, .inl 0, 7), (7, 3, 2, 139, .inl 0, 10), (10, 8, 0, 0, .inl 0, 11), (11, 7, 2, 0, .inl 0, 12), (12, 0, 0, 1, .inl 0, 13), (13, 0, 1, 0, .inl 0, 14), (14, 3, 2, 137, .inl 0, 17), (17, 7, 3, 0, .inl 0, 18), (18, 0, 3, 0, .inl 0, 19), (19, 1, 0, 0, .inl 1, 20), (20, 9, 0, 28, .inl 0, 23), (23, 0, 3, 0, .inl 0, 24), (24, 1, 0, 0, .inl 3, 25), (25, 9, 1, 54, .inl 0, 28), (28, 0, 2, 0, .inl 0, 29), (29, 1, 0, 0, .inl 3, 30), (30, 0, 0, 1, .inl 0, 31), (31, 0, 1, 0, .inl 0, 32)],
  [(32, 3, 2, 166, .inl 0, 35), (35, 8, 2, 0, .inl 0, 36), (36, 8, 0, 0, .inl 0, 37), (37, 7, 4, 0, .inl 0, 39), (39, 0, 3, 0, .inl 0, 40), (40, 1, 0, 0, .inl 3, 41), (41, 9, 1, 51, .inl 0, 44), (44, 1, 0, 0, .inl 2, 45), (45, 0, 4, 0, .inl 0, 47), (47, 8, 2, 0, .inl 0, 48), (48, 6, 0, 53, .inl 0, 51), (51, 0, 4, 0, .inl 0, 53), (53, 4, 1, 0, .inl 0, 54), (54, 0, 3, 0, .inl 0, 55), (55, 1, 0, 0, .inl 2, 56), (56, 9, 0, 64, .inl 0, 59), (59, 0, 3, 0, .inl 0, 60), (60, 1, 0, 0, .inl 4, 61), (61, 9, 1, 103, .inl 0, 64)],
  [(64, 1, 0, 0, .inl 0, 65), (65, 0, 2, 0, .inl 0, 66), (66, 1, 0, 0, .inl 2, 67), (67, 0, 0, 1, .inl 0, 68), (68, 0, 1, 0, .inl 0, 69), (69, 1, 0, 0, .inl 1, 70), (70, 3, 3, 172, .inl 0, 73), (73, 8, 2, 0, .inl 0, 74), (74, 8, 1, 0, .inl 0, 75), (75, 33, 0, 0, .inl 0, 78), (78, 7, 4, 0, .inl 0, 80), (80, 0, 3, 0, .inl 0, 81), (81, 1, 0, 0, .inl 4, 82), (82, 9, 1, 100, .inl 0, 85), (85, 1, 0, 0, .inl 0, 86), (86, 0, 4, 0, .inl 0, 88), (88, 0, 0, 1, .inl 0, 89), (89, 0, 1, 0, .inl 0, 90), (90, 3, 2, 165, .inl 0, 93), (93, 8, 1, 0, .inl 0, 94), (94, 33, 0, 0, .inl 0, 97)],
  [(97, 6, 0, 102, .inl 0, 100), (100, 0, 4, 0, .inl 0, 102), (102, 4, 1, 0, .inl 0, 103), (103, 0, 3, 0, .inl 0, 104), (104, 1, 0, 0, .inl 5, 105), (105, 9, 1, 126, .inl 0, 108), (108, 0, 0, 1, .inl 0, 109), (109, 0, 1, 0, .inl 0, 110), (110, 3, 2, 173, .inl 0, 113), (113, 10, 0, 126, .inl 0, 116), (116, 0, 2, 0, .inl 0, 117), (117, 0, 0, 1, .inl 0, 118), (118, 0, 1, 0, .inl 0, 119), (119, 3, 2, 138, .inl 0, 122), (122, 8, 0, 0, .inl 0, 123), (123, 6, 0, 127, .inl 0, 126), (126, 0, 2, 0, .inl 0, 127), (127, 4, 1, 0, .inl 0, 128)]]
/-- ConstellationsByLotModel.wish -/
def ic_175 : List (List (Nat × IN)) := [[(0, 1, 0, 0, .inl 0, 1), (1, 7, 2, 0, .inl 0, 2), (2, 1, 0, 0, .inl 0, 3), (3, 7, 3, 5, .inl 0, 4), (4, 0, 3, 0, .inl 0, 5), (5, 0, 0, 1, .inl 0, 6), (6, 2, 8, 1, .inl 0, 9), (9, 1, 0, 0, .inl 174, 12), (12, 5, 1, 0, .inl 0, 13), (13, 9, 3, 41, .inl 0, 16), (16, 0, 2, 0, .inl 0, 17), (17, 0, 0, 1, .inl 0, 18), (18, 0, 3, 0, .inl 0, 19), (19, 0, 1, 0, .inl 0, 20), (20, 3, 3, 136, .inl 0, 23), (23, 10, 0, 32, .inl 0, 26), (26, 1, 0, 0, .inl 1, 27), (27, 0, 3, 0, .inl 0, 28), (28, 8, 6, 0, .inl 0, 29), (29, 6, 0, 33, .inl 0, 32)],
  [(32, 1, 0, 0, .inl 0, 33), (33, 8, 4, 0, .inl 0, 34), (34, 7, 2, 0, .inl 0, 35), (35, 12, 3, 0, .inl 1, 38), (38, 6, 5, 4, .inl 0, 41), (41, 0, 2, 0, .inl 0, 42), (42, 4, 1, 0, .inl 0, 43)]]
/-- ConstellationsByLotModel.meet -/
def ic_176 : List (List (Nat × IN)) := [[(0, 1, 0, 0, .inl 0, 1), (1, 7, 2, 0, .inl 0, 2), (2, 1, 0, 0, .inl 0, 3), (3, 7, 3, 5, .inl 0, 4), (4, 0, 3, 0, .inl 0, 5), (5, 0, 0, 1, .inl 0, 6), (6, 2, 8, 1, .inl 0, 9), (9, 1, 0, 0, .inl 175, 12), (12, 5, 1, 0, .inl 0, 13), (13, 9, 3, 73, .inl 0, 16), (16, 1, 0, 0, .inl 0, 17), (17, 7, 4, 6, .inl 0, 19), (19, 0, 4, 0, .inl 0, 21), (21, 0, 0, 1, .inl 0, 22), (22, 0, 3, 0, .inl 0, 23), (23, 3, 2, 139, .inl 0, 26), (26, 9, 3, 67, .inl 0, 29), (29, 0, 2, 0, .inl 0, 30), (30, 0, 0, 1, .inl 0, 31), (31, 0, 3, 0, .inl 0, 32)],
  [(32, 0, 4, 0, .inl 0, 34), (34, 1, 0, 0, .inl 0, 35), (35, 3, 4, 140, .inl 0, 38), (38, 0, 1, 0, .inl 0, 39), (39, 9, 0, 54, .inl 0, 42), (42, 0, 0, 1, .inl 0, 43), (43, 0, 3, 0, .inl 0, 44), (44, 0, 4, 0, .inl 0, 46), (46, 1, 0, 0, .inl 1, 47), (47, 3, 4, 140, .inl 0, 50), (50, 0, 1, 0, .inl 0, 51), (51, 9, 1, 58, .inl 0, 54), (54, 1, 0, 0, .inl 1, 55), (55, 6, 0, 59, .inl 0, 58), (58, 1, 0, 0, .inl 0, 59), (59, 8, 0, 0, .inl 0, 60), (60, 7, 2, 0, .inl 0, 61), (61, 12, 4, 0, .inl 1, 64)],
  [(64, 6, 6, 19, .inl 0, 67), (67, 12, 3, 0, .inl 1, 70), (70, 6, 5, 4, .inl 0, 73), (73, 0, 2, 0, .inl 0, 74), (74, 4, 1, 0, .inl 0, 75)]]
/-- ConstellationsByLotModel.pointOf -/
def ic_177 : List (List (Nat × IN)) := [[(0, 0, 0, 1, .inl 0, 1), (1, 0, 1, 0, .inl 0, 2), (2, 15, 1, 0, .inl 0, 3), (3, 3, 2, 131, .inl 0, 6), (6, 10, 0, 21, .inl 0, 9), (9, 0, 2, 0, .inl 0, 10), (10, 15, 1, 0, .inl 0, 11), (11, 1, 0, 0, .inr (.inl 0), 12), (12, 1, 0, 0, .inr (.inl 3), 15), (15, 3, 3, 128, .inl 0, 18), (18, 10, 1, 28, .inl 0, 21), (21, 0, 0, 1, .inl 0, 22), (22, 1, 0, 0, .inl (-2), 24), (24, 3, 2, 129, .inl 0, 27), (27, 4, 1, 0, .inl 0, 28), (28, 0, 2, 0, .inl 0, 29), (29, 1, 0, 0, .inl 3, 30), (30, 9, 3, 46, .inl 0, 33)],
  [(33, 0, 0, 1, .inl 0, 34), (34, 2, 8, 1, .inl 0, 37), (37, 1, 0, 0, .inl 3, 38), (38, 0, 1, 0, .inl 0, 39), (39, 8, 2, 0, .inl 0, 40), (40, 0, 2, 0, .inl 0, 41), (41, 8, 0, 0, .inl 0, 42), (42, 5, 1, 0, .inl 0, 43), (43, 6, 0, 51, .inl 0, 46), (46, 0, 0, 1, .inl 0, 47), (47, 0, 1, 0, .inl 0, 48), (48, 3, 2, 176, .inl 0, 51), (51, 4, 1, 0, .inl 0, 52)]]
/-- ConstellationsByLotModel.parishOf -/
def ic_178 : List (List (Nat × IN)) := [[(0, 0, 0, 1, .inl 0, 1), (1, 0, 1, 0, .inl 0, 2), (2, 3, 2, 132, .inl 0, 5), (5, 10, 0, 20, .inl 0, 8), (8, 0, 2, 0, .inl 0, 9), (9, 15, 1, 0, .inl 0, 10), (10, 1, 0, 0, .inr (.inl 0), 11), (11, 1, 0, 0, .inr (.inl 11), 14), (14, 3, 3, 128, .inl 0, 17), (17, 10, 1, 27, .inl 0, 20), (20, 0, 0, 1, .inl 0, 21), (21, 1, 0, 0, .inl (-2), 23), (23, 3, 2, 129, .inl 0, 26), (26, 4, 1, 0, .inl 0, 27), (27, 0, 2, 0, .inl 0, 28), (28, 28, 0, 161, .inl 0, 88)],
  [],
  [(88, 0, 0, 1, .inl 0, 89), (89, 2, 8, 1, .inl 0, 92), (92, 1, 0, 0, .inl 36, 94), (94, 1, 0, 0, .inl 23, 96)],
  [(96, 0, 1, 0, .inl 0, 97), (97, 8, 2, 0, .inl 0, 98), (98, 8, 0, 0, .inl 0, 99), (99, 0, 2, 0, .inl 0, 100), (100, 8, 0, 0, .inl 0, 101), (101, 5, 1, 0, .inl 0, 102), (102, 4, 1, 0, .inl 0, 103), (103, 0, 0, 1, .inl 0, 104), (104, 0, 1, 0, .inl 0, 105), (105, 3, 2, 168, .inl 0, 108), (108, 4, 1, 0, .inl 0, 109), (109, 0, 0, 1, .inl 0, 110), (110, 0, 1, 0, .inl 0, 111), (111, 3, 2, 170, .inl 0, 114), (114, 4, 1, 0, .inl 0, 115), (115, 0, 0, 1, .inl 0, 116), (116, 0, 1, 0, .inl 0, 117), (117, 1, 0, 0, .inl 0, 118), (118, 3, 3, 172, .inl 0, 121), (121, 4, 1, 0, .inl 0, 122), (122, 0, 0, 1, .inl 0, 123), (123, 0, 1, 0, .inl 0, 124), (124, 3, 2, 169, .inl 0, 127), (127, 4, 1, 0, .inl 0, 128)],
  [(128, 0, 0, 1, .inl 0, 129), (129, 0, 1, 0, .inl 0, 130), (130, 1, 0, 0, .inl 1, 131), (131, 3, 3, 172, .inl 0, 134), (134, 4, 1, 0, .inl 0, 135), (135, 0, 0, 1, .inl 0, 136), (136, 0, 1, 0, .inl 0, 137), (137, 3, 2, 173, .inl 0, 140), (140, 10, 0, 147, .inl 0, 143), (143, 1, 0, 0, .inl 1, 144), (144, 6, 0, 148, .inl 0, 147), (147, 1, 0, 0, .inl 0, 148), (148, 4, 1, 0, .inl 0, 149), (149, 0, 0, 1, .inl 0, 150), (150, 0, 1, 0, .inl 0, 151), (151, 3, 2, 174, .inl 0, 154), (154, 4, 1, 0, .inl 0, 155), (155, 0, 0, 1, .inl 0, 156), (156, 0, 1, 0, .inl 0, 157), (157, 3, 2, 175, .inl 0, 160)],
  [(160, 4, 1, 0, .inl 0, 161), (161, 0, 0, 1, .inl 0, 162), (162, 0, 1, 0, .inl 0, 163), (163, 3, 2, 165, .inl 0, 166), (166, 4, 1, 0, .inl 0, 167)]]
/-- ConstellationsByLotModel.crowd -/
def ic_179 : List (List (Nat × IN)) := [[(0, 0, 0, 1, .inl 0, 1), (1, 2, 8, 1, .inl 0, 4), (4, 1, 0, 0, .inl 174, 7), (7, 5, 1, 0, .inl 0, 8), (8, 10, 1, 18, .inl 0, 11), (11, 0, 0, 1, .inl 0, 12), (12, 1, 0, 0, .inl (-5), 14), (14, 3, 2, 129, .inl 0, 17), (17, 4, 1, 0, .inl 0, 18), (18, 1, 0, 0, .inl 0, 19), (19, 7, 1, 0, .inl 0, 20), (20, 1, 0, 0, .inl 1, 21), (21, 7, 2, 4, .inl 0, 22), (22, 0, 2, 0, .inl 0, 23), (23, 0, 0, 1, .inl 0, 24), (24, 2, 8, 1, .inl 0, 27), (27, 1, 0, 0, .inl 174, 30), (30, 5, 1, 0, .inl 0, 31), (31, 9, 3, 59, .inl 0, 34)],
  [(34, 0, 0, 1, .inl 0, 35), (35, 0, 2, 0, .inl 0, 36), (36, 3, 2, 176, .inl 0, 39), (39, 0, 0, 1, .inl 0, 40), (40, 0, 1, 0, .inl 0, 41), (41, 3, 2, 176, .inl 0, 44), (44, 9, 5, 51, .inl 0, 47), (47, 0, 2, 0, .inl 0, 48), (48, 6, 0, 52, .inl 0, 51), (51, 0, 1, 0, .inl 0, 52), (52, 7, 1, 0, .inl 0, 53), (53, 12, 2, 0, .inl 1, 56), (56, 6, 4, 22, .inl 0, 59), (59, 0, 1, 0, .inl 0, 60), (60, 4, 1, 0, .inl 0, 61)]]
/-- ConstellationsByLotModel.lineOf -/
def ic_180 : List (List (Nat × IN)) := [[(0, 0, 0, 1, .inl 0, 1), (1, 0, 1, 0, .inl 0, 2), (2, 3, 2, 132, .inl 0, 5), (5, 10, 0, 25, .inl 0, 8), (8, 0, 2, 0, .inl 0, 9), (9, 15, 1, 0, .inl 0, 10), (10, 1, 0, 0, .inr (.inl 0), 11), (11, 0, 0, 1, .inl 0, 12), (12, 0, 1, 0, .inl 0, 13), (13, 3, 2, 139, .inl 0, 16), (16, 1, 0, 0, .inl 1, 17), (17, 8, 1, 0, .inl 0, 18), (18, 15, 1, 0, .inl 0, 19), (19, 3, 3, 128, .inl 0, 22), (22, 10, 1, 32, .inl 0, 25), (25, 0, 0, 1, .inl 0, 26), (26, 1, 0, 0, .inl (-2), 28), (28, 3, 2, 129, .inl 0, 31), (31, 4, 1, 0, .inl 0, 32)],
  [(32, 1, 0, 0, .inl 100, 34), (34, 0, 0, 1, .inl 0, 35), (35, 0, 1, 0, .inl 0, 36), (36, 0, 2, 0, .inl 0, 37), (37, 1, 0, 0, .inl 0, 38), (38, 3, 4, 140, .inl 0, 41), (41, 8, 2, 0, .inl 0, 42), (42, 0, 0, 1, .inl 0, 43), (43, 0, 1, 0, .inl 0, 44), (44, 0, 2, 0, .inl 0, 45), (45, 1, 0, 0, .inl 1, 46), (46, 3, 4, 140, .inl 0, 49), (49, 8, 0, 0, .inl 0, 50), (50, 4, 1, 0, .inl 0, 51)]]
/-- ConstellationsByLotModel.isAmong -/
def ic_181 : List (List (Nat × IN)) := [[(0, 1, 0, 0, .inl 1, 1), (1, 7, 5, 0, .inl 0, 3), (3, 1, 0, 0, .inl 0, 4), (4, 7, 6, 8, .inl 0, 6), (6, 0, 6, 0, .inl 0, 8), (8, 0, 0, 1, .inl 0, 9), (9, 0, 1, 0, .inl 0, 10), (10, 3, 2, 139, .inl 0, 13), (13, 9, 3, 145, .inl 0, 16), (16, 1, 0, 0, .inl 0, 17), (17, 7, 7, 0, .inl 0, 19), (19, 1, 0, 0, .inl 0, 20), (20, 7, 8, 10, .inl 0, 22), (22, 0, 8, 0, .inl 0, 24), (24, 0, 0, 1, .inl 0, 25), (25, 0, 4, 0, .inl 0, 27), (27, 3, 2, 139, .inl 0, 30), (30, 9, 3, 122, .inl 0, 33)],
  [(33, 1, 0, 0, .inl 0, 34), (34, 7, 9, 11, .inl 0, 36), (36, 0, 9, 0, .inl 0, 38), (38, 1, 0, 0, .inl 2, 39), (39, 9, 3, 116, .inl 0, 42), (42, 0, 7, 0, .inl 0, 44), (44, 10, 1, 103, .inl 0, 47), (47, 0, 0, 1, .inl 0, 48), (48, 0, 0, 1, .inl 0, 49), (49, 0, 1, 0, .inl 0, 50), (50, 0, 6, 0, .inl 0, 52), (52, 1, 0, 0, .inl 0, 53), (53, 3, 4, 140, .inl 0, 56), (56, 0, 2, 0, .inl 0, 57), (57, 0, 3, 0, .inl 0, 58), (58, 0, 0, 1, .inl 0, 59), (59, 0, 4, 0, .inl 0, 61), (61, 0, 8, 0, .inl 0, 63), (63, 0, 9, 0, .inl 0, 65)],
  [(65, 3, 4, 140, .inl 0, 68), (68, 3, 5, 182, .inl 0, 71), (71, 10, 0, 107, .inl 0, 74), (74, 0, 0, 1, .inl 0, 75), (75, 0, 0, 1, .inl 0, 76), (76, 0, 1, 0, .inl 0, 77), (77, 0, 6, 0, .inl 0, 79), (79, 1, 0, 0, .inl 1, 80), (80, 3, 4, 140, .inl 0, 83), (83, 0, 2, 0, .inl 0, 84), (84, 0, 3, 0, .inl 0, 85), (85, 0, 0, 1, .inl 0, 86), (86, 0, 4, 0, .inl 0, 88), (88, 0, 8, 0, .inl 0, 90), (90, 1, 0, 0, .inl 1, 91), (91, 0, 9, 0, .inl 0, 93), (93, 8, 1, 0, .inl 0, 94), (94, 3, 4, 140, .inl 0, 97)],
  [(97, 3, 5, 182, .inl 0, 100), (100, 10, 0, 107, .inl 0, 103), (103, 1, 0, 0, .inl 1, 104), (104, 6, 0, 108, .inl 0, 107), (107, 1, 0, 0, .inl 0, 108), (108, 7, 7, 0, .inl 0, 110), (110, 12, 9, 0, .inl 1, 113), (113, 6, 11, 36, .inl 0, 116), (116, 12, 8, 0, .inl 1, 119), (119, 6, 10, 22, .inl 0, 122), (122, 0, 5, 0, .inl 0, 124), (124, 10, 0, 136, .inl 0, 127), (127, 0, 7, 0, .inl 0, 129)],
  [(129, 10, 0, 136, .inl 0, 132), (132, 1, 0, 0, .inl 1, 133), (133, 6, 0, 137, .inl 0, 136), (136, 1, 0, 0, .inl 0, 137), (137, 7, 5, 0, .inl 0, 139), (139, 12, 6, 0, .inl 1, 142), (142, 6, 8, 6, .inl 0, 145), (145, 0, 5, 0, .inl 0, 147), (147, 4, 3, 0, .inl 0, 148)]]
/-- ConstellationsByLotModel.isShifted -/
def ic_182 : List (List (Nat × IN)) := [[(0, 0, 0, 1, .inl 0, 1), (1, 0, 1, 0, .inl 0, 2), (2, 3, 2, 133, .inl 0, 5), (5, 1, 0, 0, .inl 10, 7), (7, 19, 0, 0, .inl 0, 8), (8, 0, 2, 0, .inl 0, 9), (9, 8, 0, 0, .inl 0, 10), (10, 0, 0, 1, .inl 0, 11), (11, 0, 4, 0, .inl 0, 13), (13, 3, 2, 133, .inl 0, 16), (16, 1, 0, 0, .inl 10, 18), (18, 19, 0, 0, .inl 0, 19), (19, 9, 1, 48, .inl 0, 22), (22, 0, 0, 1, .inl 0, 23), (23, 0, 1, 0, .inl 0, 24), (24, 3, 2, 133, .inl 0, 27), (27, 1, 0, 0, .inl 10, 29), (29, 19, 1, 0, .inl 0, 30), (30, 0, 3, 0, .inl 0, 31), (31, 8, 0, 0, .inl 0, 32)],
  [(32, 0, 0, 1, .inl 0, 33), (33, 0, 4, 0, .inl 0, 35), (35, 3, 2, 133, .inl 0, 38), (38, 1, 0, 0, .inl 10, 40), (40, 19, 1, 0, .inl 0, 41), (41, 9, 1, 48, .inl 0, 44), (44, 1, 0, 0, .inl 1, 45), (45, 6, 0, 49, .inl 0, 48), (48, 1, 0, 0, .inl 0, 49), (49, 4, 3, 0, .inl 0, 50)]]
/-- ConstellationsByLotModel.shift -/
def ic_183 : List (List (Nat × IN)) := [[(0, 0, 0, 1, .inl 0, 1), (1, 0, 1, 0, .inl 0, 2), (2, 3, 2, 132, .inl 0, 5), (5, 10, 0, 21, .inl 0, 8), (8, 0, 0, 1, .inl 0, 9), (9, 0, 2, 0, .inl 0, 10), (10, 3, 2, 132, .inl 0, 13), (13, 10, 0, 21, .inl 0, 16), (16, 0, 1, 0, .inl 0, 17), (17, 0, 2, 0, .inl 0, 18), (18, 9, 1, 28, .inl 0, 21), (21, 0, 0, 1, .inl 0, 22), (22, 1, 0, 0, .inl (-2), 24), (24, 3, 2, 129, .inl 0, 27), (27, 4, 1, 0, .inl 0, 28), (28, 1, 0, 0, .inl (-1), 29), (29, 7, 3, 0, .inl 0, 30), (30, 1, 0, 0, .inl (-9), 32)],
  [(32, 7, 4, 6, .inl 0, 34), (34, 0, 4, 0, .inl 0, 36), (36, 1, 0, 0, .inl 10, 38), (38, 9, 3, 123, .inl 0, 41), (41, 0, 0, 1, .inl 0, 42), (42, 0, 1, 0, .inl 0, 43), (43, 3, 2, 139, .inl 0, 46), (46, 10, 5, 123, .inl 0, 49), (49, 0, 0, 1, .inl 0, 50), (50, 0, 2, 0, .inl 0, 51), (51, 3, 2, 139, .inl 0, 54), (54, 10, 5, 123, .inl 0, 57), (57, 1, 0, 0, .inl (-9), 59), (59, 7, 5, 7, .inl 0, 61), (61, 0, 5, 0, .inl 0, 63), (63, 1, 0, 0, .inl 10, 65)],
  [(65, 9, 3, 117, .inl 0, 68), (68, 0, 0, 1, .inl 0, 69), (69, 0, 1, 0, .inl 0, 70), (70, 0, 4, 0, .inl 0, 72), (72, 0, 5, 0, .inl 0, 74), (74, 0, 2, 0, .inl 0, 75), (75, 3, 5, 181, .inl 0, 78), (78, 10, 0, 111, .inl 0, 81), (81, 0, 0, 1, .inl 0, 82), (82, 0, 2, 0, .inl 0, 83), (83, 0, 4, 0, .inl 0, 85), (85, 15, 0, 0, .inl 0, 86), (86, 0, 5, 0, .inl 0, 88), (88, 15, 0, 0, .inl 0, 89), (89, 0, 1, 0, .inl 0, 90), (90, 3, 5, 181, .inl 0, 93), (93, 10, 0, 111, .inl 0, 96)],
  [(96, 1, 0, 0, .inl 100, 98), (98, 0, 4, 0, .inl 0, 100), (100, 1, 0, 0, .inl 50, 102), (102, 8, 0, 0, .inl 0, 103), (103, 8, 2, 0, .inl 0, 104), (104, 0, 5, 0, .inl 0, 106), (106, 8, 0, 0, .inl 0, 107), (107, 1, 0, 0, .inl 50, 109), (109, 8, 0, 0, .inl 0, 110), (110, 7, 3, 0, .inl 0, 111), (111, 12, 5, 0, .inl 1, 114), (114, 6, 7, 61, .inl 0, 117), (117, 12, 4, 0, .inl 1, 120), (120, 6, 6, 34, .inl 0, 123), (123, 0, 3, 0, .inl 0, 124), (124, 4, 1, 0, .inl 0, 125)]]
/-- ConstellationsByLotModel.joined -/
def ic_184 : List (List (Nat × IN)) := [[(0, 0, 0, 1, .inl 0, 1), (1, 0, 1, 0, .inl 0, 2), (2, 3, 2, 175, .inl 0, 5), (5, 7, 2, 0, .inl 0, 6), (6, 1, 0, 0, .inl 0, 7), (7, 7, 3, 0, .inl 0, 8), (8, 1, 0, 0, .inl 0, 9), (9, 7, 4, 6, .inl 0, 11), (11, 0, 2, 0, .inl 0, 12), (12, 10, 0, 166, .inl 0, 15), (15, 1, 0, 0, .inl (-1), 16), (16, 7, 5, 0, .inl 0, 18), (18, 1, 0, 0, .inl 0, 19), (19, 7, 6, 0, .inl 0, 21), (21, 1, 0, 0, .inl 0, 22), (22, 7, 7, 9, .inl 0, 24), (24, 0, 7, 0, .inl 0, 26), (26, 0, 0, 1, .inl 0, 27), (27, 2, 8, 1, .inl 0, 30), (30, 1, 0, 0, .inl 174, 33)],
  [(33, 5, 1, 0, .inl 0, 34), (34, 9, 3, 140, .inl 0, 37), (37, 1, 0, 0, .inl 0, 38), (38, 7, 8, 10, .inl 0, 40), (40, 0, 8, 0, .inl 0, 42), (42, 0, 0, 1, .inl 0, 43), (43, 2, 8, 1, .inl 0, 46), (46, 1, 0, 0, .inl 174, 49), (49, 5, 1, 0, .inl 0, 50), (50, 9, 3, 134, .inl 0, 53), (53, 0, 2, 0, .inl 0, 54), (54, 0, 7, 0, .inl 0, 56), (56, 8, 7, 0, .inl 0, 57), (57, 1, 0, 0, .inl 1, 58), (58, 8, 3, 0, .inl 0, 59), (59, 1, 0, 0, .inl 1, 60), (60, 9, 1, 81, .inl 0, 63), (63, 0, 3, 0, .inl 0, 64)],
  [(64, 10, 0, 77, .inl 0, 67), (67, 0, 3, 0, .inl 0, 68), (68, 0, 8, 0, .inl 0, 70), (70, 8, 7, 0, .inl 0, 71), (71, 1, 0, 0, .inl 1, 72), (72, 8, 3, 0, .inl 0, 73), (73, 1, 0, 0, .inl 1, 74), (74, 9, 1, 81, .inl 0, 77), (77, 1, 0, 0, .inl 1, 78), (78, 6, 0, 82, .inl 0, 81), (81, 1, 0, 0, .inl 0, 82), (82, 7, 9, 0, .inl 0, 84), (84, 0, 3, 0, .inl 0, 85), (85, 10, 1, 92, .inl 0, 88), (88, 1, 0, 0, .inl 0, 89), (89, 6, 0, 100, .inl 0, 92), (92, 0, 0, 1, .inl 0, 93), (93, 0, 7, 0, .inl 0, 95), (95, 0, 8, 0, .inl 0, 97)],
  [(97, 3, 3, 163, .inl 0, 100), (100, 7, 10, 0, .inl 0, 102), (102, 0, 9, 0, .inl 0, 104), (104, 10, 0, 128, .inl 0, 107), (107, 0, 5, 0, .inl 0, 109), (109, 1, 0, 0, .inl (-1), 110), (110, 9, 0, 120, .inl 0, 113), (113, 0, 10, 0, .inl 0, 115), (115, 0, 6, 0, .inl 0, 117), (117, 9, 3, 128, .inl 0, 120), (120, 0, 7, 0, .inl 0, 122), (122, 7, 5, 0, .inl 0, 124), (124, 0, 10, 0, .inl 0, 126), (126, 7, 6, 0, .inl 0, 128)],
  [(128, 12, 8, 0, .inl 1, 131), (131, 6, 10, 40, .inl 0, 134), (134, 12, 7, 0, .inl 1, 137), (137, 6, 9, 24, .inl 0, 140), (140, 0, 4, 0, .inl 0, 142), (142, 0, 6, 0, .inl 0, 144), (144, 8, 0, 0, .inl 0, 145), (145, 7, 4, 0, .inl 0, 147), (147, 0, 3, 0, .inl 0, 148), (148, 1, 0, 0, .inl 1, 149), (149, 0, 5, 0, .inl 0, 151), (151, 8, 6, 0, .inl 0, 152), (152, 8, 4, 0, .inl 0, 153), (153, 7, 3, 0, .inl 0, 154), (154, 0, 2, 0, .inl 0, 155), (155, 1, 0, 0, .inl 1, 156), (156, 0, 5, 0, .inl 0, 158), (158, 8, 6, 0, .inl 0, 159), (159, 1, 0, 0, .inl (-1), 160)],
  [(160, 8, 5, 0, .inl 0, 161), (161, 8, 3, 0, .inl 0, 162), (162, 7, 2, 0, .inl 0, 163), (163, 6, 6, 11, .inl 0, 166), (166, 0, 4, 0, .inl 0, 168), (168, 4, 1, 0, .inl 0, 169)]]
/-- ConstellationsByLotModel.newLine -/
def ic_185 : List (List (Nat × IN)) := [[(0, 1, 0, 0, .inl (-1), 1), (1, 7, 2, 0, .inl 0, 2), (2, 1, 0, 0, .inl 0, 3), (3, 7, 3, 0, .inl 0, 4), (4, 1, 0, 0, .inl 0, 5), (5, 7, 4, 6, .inl 0, 7), (7, 0, 4, 0, .inl 0, 9), (9, 0, 0, 1, .inl 0, 10), (10, 2, 8, 1, .inl 0, 13), (13, 1, 0, 0, .inl 174, 16), (16, 5, 1, 0, .inl 0, 17), (17, 9, 3, 155, .inl 0, 20), (20, 0, 0, 1, .inl 0, 21), (21, 0, 1, 0, .inl 0, 22), (22, 3, 2, 139, .inl 0, 25), (25, 1, 0, 0, .inl 10, 27), (27, 9, 3, 155, .inl 0, 30), (30, 0, 4, 0, .inl 0, 32)],
  [(32, 1, 0, 0, .inl 1, 33), (33, 8, 0, 0, .inl 0, 34), (34, 7, 5, 7, .inl 0, 36), (36, 0, 5, 0, .inl 0, 38), (38, 0, 0, 1, .inl 0, 39), (39, 2, 8, 1, .inl 0, 42), (42, 1, 0, 0, .inl 174, 45), (45, 5, 1, 0, .inl 0, 46), (46, 9, 3, 149, .inl 0, 49), (49, 0, 0, 1, .inl 0, 50), (50, 0, 4, 0, .inl 0, 52), (52, 0, 1, 0, .inl 0, 53), (53, 3, 3, 136, .inl 0, 56), (56, 10, 0, 143, .inl 0, 59), (59, 0, 0, 1, .inl 0, 60), (60, 0, 5, 0, .inl 0, 62), (62, 0, 1, 0, .inl 0, 63), (63, 3, 3, 136, .inl 0, 66)],
  [(66, 10, 0, 143, .inl 0, 69), (69, 0, 0, 1, .inl 0, 70), (70, 0, 1, 0, .inl 0, 71), (71, 0, 4, 0, .inl 0, 73), (73, 0, 5, 0, .inl 0, 75), (75, 3, 4, 143, .inl 0, 78), (78, 1, 0, 0, .inl (-1), 79), (79, 9, 1, 143, .inl 0, 82), (82, 0, 0, 1, .inl 0, 83), (83, 0, 1, 0, .inl 0, 84), (84, 0, 4, 0, .inl 0, 86), (86, 0, 5, 0, .inl 0, 88), (88, 3, 4, 144, .inl 0, 91), (91, 25, 0, 0, .inl 0, 92), (92, 0, 0, 1, .inl 0, 93), (93, 0, 1, 0, .inl 0, 94), (94, 3, 2, 174, .inl 0, 97)],
  [(97, 7, 6, 0, .inl 0, 99), (99, 0, 0, 1, .inl 0, 100), (100, 0, 1, 0, .inl 0, 101), (101, 0, 0, 1, .inl 0, 102), (102, 0, 1, 0, .inl 0, 103), (103, 3, 2, 139, .inl 0, 106), (106, 1, 0, 0, .inl 1, 107), (107, 8, 1, 0, .inl 0, 108), (108, 3, 3, 145, .inl 0, 111), (111, 25, 0, 0, .inl 0, 112), (112, 0, 2, 0, .inl 0, 113), (113, 1, 0, 0, .inl (-1), 114), (114, 9, 0, 123, .inl 0, 117), (117, 0, 6, 0, .inl 0, 119), (119, 0, 3, 0, .inl 0, 120), (120, 9, 5, 134, .inl 0, 123), (123, 1, 0, 0, .inl 100, 125), (125, 0, 4, 0, .inl 0, 127), (127, 8, 2, 0, .inl 0, 128)],
  [(128, 0, 5, 0, .inl 0, 130), (130, 8, 0, 0, .inl 0, 131), (131, 6, 0, 135, .inl 0, 134), (134, 0, 2, 0, .inl 0, 135), (135, 7, 2, 0, .inl 0, 136), (136, 0, 6, 0, .inl 0, 138), (138, 0, 3, 0, .inl 0, 139), (139, 33, 0, 0, .inl 0, 142), (142, 7, 3, 0, .inl 0, 143), (143, 12, 5, 0, .inl 1, 146), (146, 6, 7, 36, .inl 0, 149), (149, 12, 4, 0, .inl 1, 152), (152, 6, 6, 7, .inl 0, 155), (155, 0, 2, 0, .inl 0, 156), (156, 4, 1, 0, .inl 0, 157)]]
/-- ConstellationsByLotModel.worst -/
def ic_186 : List (List (Nat × IN)) := [[(0, 1, 0, 0, .inl (-1), 1), (1, 7, 2, 0, .inl 0, 2), (2, 1, 0, 0, .inl 0, 3), (3, 7, 3, 0, .inl 0, 4), (4, 0, 0, 1, .inl 0, 5), (5, 2, 8, 1, .inl 0, 8), (8, 1, 0, 0, .inl 0, 9), (9, 0, 0, 1, .inl 0, 10), (10, 2, 8, 3, .inl 0, 13), (13, 1, 0, 0, .inl 0, 14), (14, 3, 4, 130, .inl 0, 17), (17, 1, 0, 0, .inl 0, 18), (18, 7, 4, 6, .inl 0, 20), (20, 0, 4, 0, .inl 0, 22), (22, 0, 0, 1, .inl 0, 23), (23, 0, 1, 0, .inl 0, 24), (24, 3, 2, 139, .inl 0, 27), (27, 9, 3, 89, .inl 0, 30), (30, 0, 0, 1, .inl 0, 31), (31, 0, 1, 0, .inl 0, 32)],
  [(32, 0, 4, 0, .inl 0, 34), (34, 3, 3, 145, .inl 0, 37), (37, 25, 0, 0, .inl 0, 38), (38, 0, 0, 1, .inl 0, 39), (39, 0, 1, 0, .inl 0, 40), (40, 3, 2, 174, .inl 0, 43), (43, 7, 5, 0, .inl 0, 45), (45, 0, 2, 0, .inl 0, 46), (46, 1, 0, 0, .inl (-1), 47), (47, 9, 0, 56, .inl 0, 50), (50, 0, 5, 0, .inl 0, 52), (52, 0, 3, 0, .inl 0, 53), (53, 9, 5, 61, .inl 0, 56), (56, 0, 4, 0, .inl 0, 58), (58, 6, 0, 62, .inl 0, 61), (61, 0, 2, 0, .inl 0, 62), (62, 7, 2, 0, .inl 0, 63), (63, 0, 5, 0, .inl 0, 65)],
  [(65, 0, 3, 0, .inl 0, 66), (66, 33, 0, 0, .inl 0, 69), (69, 7, 3, 0, .inl 0, 70), (70, 0, 0, 1, .inl 0, 71), (71, 2, 8, 3, .inl 0, 74), (74, 1, 0, 0, .inl 0, 75), (75, 0, 0, 1, .inl 0, 76), (76, 2, 8, 1, .inl 0, 79), (79, 1, 0, 0, .inl 0, 80), (80, 3, 4, 130, .inl 0, 83), (83, 12, 4, 0, .inl 1, 86), (86, 6, 6, 20, .inl 0, 89), (89, 0, 2, 0, .inl 0, 90), (90, 4, 1, 0, .inl 0, 91)]]
/-- ConstellationsByLotModel.better -/
def ic_187 : List (List (Nat × IN)) := [[(0, 0, 0, 1, .inl 0, 1), (1, 0, 1, 0, .inl 0, 2), (2, 3, 2, 132, .inl 0, 5), (5, 10, 0, 20, .inl 0, 8), (8, 0, 2, 0, .inl 0, 9), (9, 15, 1, 0, .inl 0, 10), (10, 1, 0, 0, .inr (.inl 0), 11), (11, 1, 0, 0, .inr (.inl 2), 14), (14, 3, 3, 128, .inl 0, 17), (17, 10, 1, 27, .inl 0, 20), (20, 0, 0, 1, .inl 0, 21), (21, 1, 0, 0, .inl (-2), 23), (23, 3, 2, 129, .inl 0, 26), (26, 4, 1, 0, .inl 0, 27), (27, 0, 2, 0, .inl 0, 28), (28, 10, 1, 39, .inl 0, 31), (31, 0, 0, 1, .inl 0, 32)],
  [(32, 0, 1, 0, .inl 0, 33), (33, 3, 2, 184, .inl 0, 36), (36, 6, 0, 57, .inl 0, 39), (39, 0, 2, 0, .inl 0, 40), (40, 1, 0, 0, .inl 1, 41), (41, 9, 1, 52, .inl 0, 44), (44, 0, 0, 1, .inl 0, 45), (45, 0, 1, 0, .inl 0, 46), (46, 3, 2, 185, .inl 0, 49), (49, 6, 0, 57, .inl 0, 52), (52, 0, 0, 1, .inl 0, 53), (53, 0, 1, 0, .inl 0, 54), (54, 3, 2, 186, .inl 0, 57), (57, 4, 1, 0, .inl 0, 58)]]
/-- ConstellationsByLotModel.give -/
def ic_188 : List (List (Nat × IN)) := [[(0, 0, 1, 0, .inl 0, 1), (1, 0, 0, 1, .inl 0, 2), (2, 2, 8, 15, .inl 0, 5), (5, 9, 1, 84, .inl 0, 8), (8, 1, 0, 0, .inl 2147483647, 11), (11, 7, 2, 0, .inl 0, 12), (12, 1, 0, 0, .inl 0, 13), (13, 7, 3, 5, .inl 0, 14), (14, 0, 3, 0, .inl 0, 15), (15, 0, 0, 1, .inl 0, 16), (16, 2, 8, 1, .inl 0, 19), (19, 1, 0, 0, .inl 175, 22), (22, 5, 1, 0, .inl 0, 23), (23, 9, 3, 42, .inl 0, 26), (26, 0, 2, 0, .inl 0, 27), (27, 0, 0, 1, .inl 0, 28), (28, 0, 3, 0, .inl 0, 29), (29, 3, 2, 174, .inl 0, 32)],
  [(32, 33, 1, 0, .inl 0, 35), (35, 7, 2, 0, .inl 0, 36), (36, 12, 3, 0, .inl 1, 39), (39, 6, 5, 14, .inl 0, 42), (42, 0, 2, 0, .inl 0, 43), (43, 0, 0, 1, .inl 0, 44), (44, 2, 8, 16, .inl 0, 47), (47, 9, 5, 83, .inl 0, 50), (50, 0, 0, 1, .inl 0, 51), (51, 0, 2, 0, .inl 0, 52), (52, 11, 8, 16, .inl 0, 55), (55, 1, 0, 0, .inl 0, 56), (56, 7, 3, 5, .inl 0, 57), (57, 0, 3, 0, .inl 0, 58), (58, 0, 0, 1, .inl 0, 59), (59, 2, 8, 15, .inl 0, 62), (62, 9, 3, 83, .inl 0, 65)],
  [(65, 0, 0, 1, .inl 0, 66), (66, 2, 8, 13, .inl 0, 69), (69, 0, 3, 0, .inl 0, 70), (70, 0, 0, 1, .inl 0, 71), (71, 2, 8, 12, .inl 0, 74), (74, 0, 3, 0, .inl 0, 75), (75, 5, 1, 0, .inl 0, 76), (76, 14, 1, 0, .inl 0, 77), (77, 12, 3, 0, .inl 1, 80), (80, 6, 5, 57, .inl 0, 83), (83, 4, 0, 0, .inl 0, 84), (84, 0, 0, 1, .inl 0, 85), (85, 2, 8, 1, .inl 0, 88), (88, 1, 0, 0, .inl 0, 89), (89, 0, 0, 1, .inl 0, 90), (90, 2, 8, 14, .inl 0, 93), (93, 1, 0, 0, .inl 178, 96)],
  [(96, 0, 1, 0, .inl 0, 97), (97, 8, 2, 0, .inl 0, 98), (98, 3, 4, 130, .inl 0, 101), (101, 1, 0, 0, .inl 0, 102), (102, 7, 2, 4, .inl 0, 103), (103, 0, 2, 0, .inl 0, 104), (104, 0, 0, 1, .inl 0, 105), (105, 2, 8, 1, .inl 0, 108), (108, 1, 0, 0, .inl 175, 111), (111, 5, 1, 0, .inl 0, 112), (112, 9, 3, 178, .inl 0, 115), (115, 0, 0, 1, .inl 0, 116), (116, 0, 0, 1, .inl 0, 117), (117, 2, 8, 11, .inl 0, 120), (120, 0, 1, 0, .inl 0, 121), (121, 5, 1, 0, .inl 0, 122), (122, 0, 2, 0, .inl 0, 123), (123, 3, 3, 136, .inl 0, 126), (126, 10, 0, 172, .inl 0, 129)],
  [(129, 0, 0, 1, .inl 0, 130), (130, 2, 8, 12, .inl 0, 133), (133, 0, 1, 0, .inl 0, 134), (134, 0, 2, 0, .inl 0, 135), (135, 14, 1, 0, .inl 0, 136), (136, 0, 0, 1, .inl 0, 137), (137, 0, 0, 1, .inl 0, 138), (138, 2, 8, 11, .inl 0, 141), (141, 0, 1, 0, .inl 0, 142), (142, 5, 1, 0, .inl 0, 143), (143, 0, 2, 0, .inl 0, 144), (144, 3, 3, 189, .inl 0, 147), (147, 25, 0, 0, .inl 0, 148), (148, 0, 0, 1, .inl 0, 149), (149, 0, 1, 0, .inl 0, 150), (150, 1, 0, 0, .inl 1, 151), (151, 8, 0, 0, .inl 0, 152), (152, 3, 2, 188, .inl 0, 155), (155, 0, 0, 1, .inl 0, 156), (156, 2, 8, 14, .inl 0, 159), (159, 1, 0, 0, .inl 178, 162)],
  [(162, 0, 1, 0, .inl 0, 163), (163, 8, 2, 0, .inl 0, 164), (164, 0, 0, 1, .inl 0, 165), (165, 2, 8, 1, .inl 0, 168), (168, 1, 0, 0, .inl 0, 169), (169, 3, 4, 130, .inl 0, 172), (172, 12, 2, 0, .inl 1, 175), (175, 6, 4, 103, .inl 0, 178), (178, 4, 0, 0, .inl 0, 179)]]
/-- ConstellationsByLotModel.giveTo -/
def ic_189 : List (List (Nat × IN)) := [[(0, 1, 0, 0, .inl 0, 1), (1, 7, 3, 0, .inl 0, 2), (2, 1, 0, 0, .inl 0, 3), (3, 7, 4, 6, .inl 0, 5), (5, 0, 4, 0, .inl 0, 7), (7, 0, 0, 1, .inl 0, 8), (8, 2, 8, 1, .inl 0, 11), (11, 1, 0, 0, .inl 175, 14), (14, 5, 1, 0, .inl 0, 15), (15, 9, 3, 44, .inl 0, 18), (18, 0, 3, 0, .inl 0, 19), (19, 0, 4, 0, .inl 0, 21), (21, 0, 2, 0, .inl 0, 22), (22, 9, 1, 29, .inl 0, 25), (25, 1, 0, 0, .inl 0, 26), (26, 6, 0, 36, .inl 0, 29), (29, 0, 0, 1, .inl 0, 30), (30, 0, 4, 0, .inl 0, 32)],
  [(32, 0, 1, 0, .inl 0, 33), (33, 3, 3, 146, .inl 0, 36), (36, 8, 0, 0, .inl 0, 37), (37, 7, 3, 0, .inl 0, 38), (38, 12, 4, 0, .inl 1, 41), (41, 6, 6, 5, .inl 0, 44), (44, 0, 3, 0, .inl 0, 45), (45, 4, 1, 0, .inl 0, 46)]]
/-- ConstellationsByLotModel.manyShared -/
def ic_190 : List (List (Nat × IN)) := [[(0, 1, 0, 0, .inl 0, 1), (1, 7, 1, 0, .inl 0, 2), (2, 1, 0, 0, .inl 0, 3), (3, 7, 2, 4, .inl 0, 4), (4, 0, 2, 0, .inl 0, 5), (5, 0, 0, 1, .inl 0, 6), (6, 2, 8, 1, .inl 0, 9), (9, 1, 0, 0, .inl 174, 12), (12, 5, 1, 0, .inl 0, 13), (13, 9, 3, 42, .inl 0, 16), (16, 0, 1, 0, .inl 0, 17), (17, 0, 0, 1, .inl 0, 18), (18, 0, 2, 0, .inl 0, 19), (19, 3, 2, 135, .inl 0, 22), (22, 3, 1, 167, .inl 0, 25), (25, 1, 0, 0, .inl 1, 26), (26, 9, 5, 33, .inl 0, 29), (29, 1, 0, 0, .inl 1, 30), (30, 6, 0, 34, .inl 0, 33)],
  [(33, 1, 0, 0, .inl 0, 34), (34, 8, 0, 0, .inl 0, 35), (35, 7, 1, 0, .inl 0, 36), (36, 12, 2, 0, .inl 1, 39), (39, 6, 4, 4, .inl 0, 42), (42, 0, 1, 0, .inl 0, 43), (43, 4, 1, 0, .inl 0, 44)]]
/-- ConstellationsByLotModel.makeShare -/
def ic_191 : List (List (Nat × IN)) := [[(0, 0, 0, 1, .inl 0, 1), (1, 1, 0, 0, .inl 0, 2), (2, 11, 8, 15, .inl 0, 5), (5, 1, 0, 0, .inl 0, 6), (6, 7, 1, 3, .inl 0, 7), (7, 0, 1, 0, .inl 0, 8), (8, 0, 0, 1, .inl 0, 9), (9, 2, 8, 1, .inl 0, 12), (12, 1, 0, 0, .inl 174, 15), (15, 5, 1, 0, .inl 0, 16), (16, 9, 3, 65, .inl 0, 19), (19, 0, 0, 1, .inl 0, 20), (20, 2, 8, 15, .inl 0, 23), (23, 1, 0, 0, .inl 5, 24), (24, 9, 3, 65, .inl 0, 27), (27, 0, 0, 1, .inl 0, 28), (28, 0, 1, 0, .inl 0, 29), (29, 3, 2, 135, .inl 0, 32)],
  [(32, 3, 1, 167, .inl 0, 35), (35, 1, 0, 0, .inl 1, 36), (36, 9, 5, 59, .inl 0, 39), (39, 0, 0, 1, .inl 0, 40), (40, 2, 8, 11, .inl 0, 43), (43, 0, 0, 1, .inl 0, 44), (44, 2, 8, 15, .inl 0, 47), (47, 0, 1, 0, .inl 0, 48), (48, 14, 1, 0, .inl 0, 49), (49, 0, 0, 1, .inl 0, 50), (50, 13, 0, 0, .inl 0, 51), (51, 2, 8, 15, .inl 0, 54), (54, 1, 0, 0, .inl 1, 55), (55, 8, 0, 0, .inl 0, 56), (56, 11, 8, 15, .inl 0, 59), (59, 12, 1, 0, .inl 1, 62), (62, 6, 3, 7, .inl 0, 65)],
  [(65, 0, 0, 1, .inl 0, 66), (66, 1, 0, 0, .inl (-1), 67), (67, 11, 8, 16, .inl 0, 70), (70, 0, 0, 1, .inl 0, 71), (71, 1, 0, 0, .inl 0, 72), (72, 3, 2, 188, .inl 0, 75), (75, 4, 0, 0, .inl 0, 76)]]
/-- ConstellationsByLotModel.share -/
def ic_192 : List (List (Nat × IN)) := [[(0, 0, 0, 1, .inl 0, 1), (1, 3, 1, 191, .inl 0, 4), (4, 0, 1, 0, .inl 0, 5), (5, 15, 1, 0, .inl 0, 6), (6, 1, 0, 0, .inr (.inl (-1)), 9), (9, 0, 0, 1, .inl 0, 10), (10, 2, 8, 15, .inl 0, 13), (13, 1, 0, 0, .inl 1, 14), (14, 8, 1, 0, .inl 0, 15), (15, 15, 1, 0, .inl 0, 16), (16, 3, 3, 128, .inl 0, 19), (19, 10, 1, 29, .inl 0, 22), (22, 0, 0, 1, .inl 0, 23), (23, 1, 0, 0, .inl (-2), 25), (25, 3, 2, 129, .inl 0, 28), (28, 4, 1, 0, .inl 0, 29), (29, 0, 1, 0, .inl 0, 30), (30, 1, 0, 0, .inl (-1), 31), (31, 9, 0, 43, .inl 0, 34)],
  [(34, 0, 0, 1, .inl 0, 35), (35, 2, 8, 13, .inl 0, 38), (38, 0, 1, 0, .inl 0, 39), (39, 5, 1, 0, .inl 0, 40), (40, 6, 0, 67, .inl 0, 43), (43, 0, 0, 1, .inl 0, 44), (44, 2, 8, 1, .inl 0, 47), (47, 1, 0, 0, .inl 175, 50), (50, 5, 1, 0, .inl 0, 51), (51, 10, 1, 63, .inl 0, 54), (54, 0, 0, 1, .inl 0, 55), (55, 1, 0, 0, .inl (-5), 57), (57, 3, 2, 129, .inl 0, 60), (60, 6, 0, 67, .inl 0, 63), (63, 0, 0, 1, .inl 0, 64)],
  [(64, 2, 8, 16, .inl 0, 67), (67, 4, 1, 0, .inl 0, 68)]]
/-- ConstellationsByLotModel.give -/
def ic_193 : List (List (Nat × IN)) := [[(0, 0, 0, 1, .inl 0, 1), (1, 2, 8, 1, .inl 0, 4), (4, 1, 0, 0, .inl 175, 7), (7, 5, 1, 0, .inl 0, 8), (8, 10, 1, 18, .inl 0, 11), (11, 0, 0, 1, .inl 0, 12), (12, 1, 0, 0, .inl (-5), 14), (14, 3, 2, 129, .inl 0, 17), (17, 4, 1, 0, .inl 0, 18), (18, 0, 0, 1, .inl 0, 19), (19, 3, 1, 191, .inl 0, 22), (22, 1, 0, 0, .inl 0, 23), (23, 7, 1, 0, .inl 0, 24), (24, 1, 0, 0, .inl 0, 25), (25, 7, 2, 4, .inl 0, 26), (26, 0, 2, 0, .inl 0, 27), (27, 0, 0, 1, .inl 0, 28), (28, 2, 8, 15, .inl 0, 31), (31, 9, 3, 82, .inl 0, 34)],
  [(34, 0, 1, 0, .inl 0, 35), (35, 0, 0, 1, .inl 0, 36), (36, 0, 0, 1, .inl 0, 37), (37, 2, 8, 11, .inl 0, 40), (40, 0, 2, 0, .inl 0, 41), (41, 5, 1, 0, .inl 0, 42), (42, 0, 0, 1, .inl 0, 43), (43, 2, 8, 13, .inl 0, 46), (46, 0, 2, 0, .inl 0, 47), (47, 5, 1, 0, .inl 0, 48), (48, 3, 3, 189, .inl 0, 51), (51, 8, 0, 0, .inl 0, 52), (52, 7, 1, 0, .inl 0, 53), (53, 0, 0, 1, .inl 0, 54), (54, 2, 8, 1, .inl 0, 57), (57, 1, 0, 0, .inl 3, 58), (58, 0, 0, 1, .inl 0, 59), (59, 2, 8, 11, .inl 0, 62), (62, 0, 2, 0, .inl 0, 63), (63, 5, 1, 0, .inl 0, 64)],
  [(64, 8, 2, 0, .inl 0, 65), (65, 1, 0, 0, .inl 2, 66), (66, 8, 0, 0, .inl 0, 67), (67, 1, 0, 0, .inl 1, 68), (68, 0, 0, 1, .inl 0, 69), (69, 2, 8, 13, .inl 0, 72), (72, 0, 2, 0, .inl 0, 73), (73, 5, 1, 0, .inl 0, 74), (74, 8, 6, 0, .inl 0, 75), (75, 14, 1, 0, .inl 0, 76), (76, 12, 2, 0, .inl 1, 79), (79, 6, 4, 26, .inl 0, 82), (82, 0, 1, 0, .inl 0, 83), (83, 4, 1, 0, .inl 0, 84)]]
/-- ConstellationsByLotModel.isBeside -/
def ic_194 : List (List (Nat × IN)) := [[(0, 0, 0, 1, .inl 0, 1), (1, 0, 1, 0, .inl 0, 2), (2, 3, 2, 175, .inl 0, 5), (5, 0, 0, 1, .inl 0, 6), (6, 0, 2, 0, .inl 0, 7), (7, 3, 2, 175, .inl 0, 10), (10, 8, 3, 0, .inl 0, 11), (11, 10, 0, 18, .inl 0, 14), (14, 1, 0, 0, .inl 1, 15), (15, 6, 0, 19, .inl 0, 18), (18, 1, 0, 0, .inl 0, 19), (19, 4, 3, 0, .inl 0, 20)]]
/-- ConstellationsByLotModel.canColour -/
def ic_195 : List (List (Nat × IN)) := [[(0, 0, 1, 0, .inl 0, 1), (1, 0, 0, 1, .inl 0, 2), (2, 2, 8, 1, .inl 0, 5), (5, 1, 0, 0, .inl 175, 8), (8, 5, 1, 0, .inl 0, 9), (9, 9, 1, 14, .inl 0, 12), (12, 1, 0, 0, .inl 1, 13), (13, 4, 3, 0, .inl 0, 14), (14, 1, 0, 0, .inl 0, 15), (15, 7, 3, 5, .inl 0, 16), (16, 0, 3, 0, .inl 0, 17), (17, 0, 2, 0, .inl 0, 18), (18, 9, 3, 103, .inl 0, 21), (21, 1, 0, 0, .inl 1, 22), (22, 7, 4, 0, .inl 0, 24), (24, 1, 0, 0, .inl 0, 25), (25, 7, 5, 7, .inl 0, 27), (27, 0, 5, 0, .inl 0, 29), (29, 0, 1, 0, .inl 0, 30), (30, 9, 3, 72, .inl 0, 33)],
  [(33, 0, 4, 0, .inl 0, 35), (35, 10, 0, 63, .inl 0, 38), (38, 0, 0, 1, .inl 0, 39), (39, 2, 8, 17, .inl 0, 42), (42, 0, 5, 0, .inl 0, 44), (44, 5, 1, 0, .inl 0, 45), (45, 0, 3, 0, .inl 0, 46), (46, 9, 1, 59, .inl 0, 49), (49, 0, 0, 1, .inl 0, 50), (50, 0, 1, 0, .inl 0, 51), (51, 0, 5, 0, .inl 0, 53), (53, 3, 3, 194, .inl 0, 56), (56, 10, 1, 63, .inl 0, 59), (59, 1, 0, 0, .inl 1, 60), (60, 6, 0, 64, .inl 0, 63), (63, 1, 0, 0, .inl 0, 64)],
  [(64, 7, 4, 0, .inl 0, 66), (66, 12, 5, 0, .inl 1, 69), (69, 6, 7, 27, .inl 0, 72), (72, 0, 0, 1, .inl 0, 73), (73, 2, 8, 17, .inl 0, 76), (76, 0, 1, 0, .inl 0, 77), (77, 0, 3, 0, .inl 0, 78), (78, 14, 1, 0, .inl 0, 79), (79, 0, 4, 0, .inl 0, 81), (81, 10, 0, 97, .inl 0, 84), (84, 0, 0, 1, .inl 0, 85), (85, 0, 1, 0, .inl 0, 86), (86, 1, 0, 0, .inl 1, 87), (87, 8, 0, 0, .inl 0, 88), (88, 0, 2, 0, .inl 0, 89), (89, 3, 3, 195, .inl 0, 92), (92, 10, 0, 97, .inl 0, 95), (95, 1, 0, 0, .inl 1, 96)],
  [(96, 4, 3, 0, .inl 0, 97), (97, 12, 3, 0, .inl 1, 100), (100, 6, 5, 16, .inl 0, 103), (103, 1, 0, 0, .inl 0, 104), (104, 4, 3, 0, .inl 0, 105)]]
/-- ConstellationsByLotModel.colours -/
def ic_196 : List (List (Nat × IN)) := [[(0, 1, 0, 0, .inl 0, 1), (1, 7, 1, 3, .inl 0, 2), (2, 0, 0, 1, .inl 0, 3), (3, 1, 0, 0, .inl 0, 4), (4, 0, 1, 0, .inl 0, 5), (5, 3, 3, 195, .inl 0, 8), (8, 10, 1, 17, .inl 0, 11), (11, 12, 1, 0, .inl 1, 14), (14, 6, 3, 2, .inl 0, 17), (17, 0, 1, 0, .inl 0, 18), (18, 4, 1, 0, .inl 0, 19)]]
/-- ConstellationsByLotModel.way -/
def ic_197 : List (List (Nat × IN)) := [[(0, 0, 0, 1, .inl 0, 1), (1, 0, 1, 0, .inl 0, 2), (2, 3, 2, 132, .inl 0, 5), (5, 10, 0, 16, .inl 0, 8), (8, 0, 0, 1, .inl 0, 9), (9, 0, 2, 0, .inl 0, 10), (10, 3, 2, 132, .inl 0, 13), (13, 10, 1, 23, .inl 0, 16), (16, 0, 0, 1, .inl 0, 17), (17, 1, 0, 0, .inl (-2), 19), (19, 3, 2, 129, .inl 0, 22), (22, 4, 1, 0, .inl 0, 23), (23, 1, 0, 0, .inl 1, 24), (24, 0, 1, 0, .inl 0, 25), (25, 8, 6, 0, .inl 0, 26), (26, 7, 3, 0, .inl 0, 27), (27, 1, 0, 0, .inl 0, 28), (28, 7, 4, 6, .inl 0, 30), (30, 0, 4, 0, .inl 0, 32)],
  [(32, 1, 0, 0, .inl 6, 34), (34, 9, 3, 139, .inl 0, 37), (37, 0, 3, 0, .inl 0, 38), (38, 0, 2, 0, .inl 0, 39), (39, 8, 7, 0, .inl 0, 40), (40, 1, 0, 0, .inl 1, 41), (41, 8, 3, 0, .inl 0, 42), (42, 1, 0, 0, .inl 1, 43), (43, 9, 1, 49, .inl 0, 46), (46, 0, 4, 0, .inl 0, 48), (48, 4, 1, 0, .inl 0, 49), (49, 0, 3, 0, .inl 0, 50), (50, 7, 5, 0, .inl 0, 52), (52, 1, 0, 0, .inl 0, 53), (53, 7, 6, 8, .inl 0, 55), (55, 0, 6, 0, .inl 0, 57), (57, 0, 0, 1, .inl 0, 58), (58, 2, 8, 1, .inl 0, 61), (61, 1, 0, 0, .inl 175, 64)],
  [(64, 5, 1, 0, .inl 0, 65), (65, 9, 3, 130, .inl 0, 68), (68, 1, 0, 0, .inl 0, 69), (69, 7, 7, 9, .inl 0, 71), (71, 0, 7, 0, .inl 0, 73), (73, 0, 0, 1, .inl 0, 74), (74, 2, 8, 1, .inl 0, 77), (77, 1, 0, 0, .inl 175, 80), (80, 5, 1, 0, .inl 0, 81), (81, 9, 3, 124, .inl 0, 84), (84, 0, 5, 0, .inl 0, 86), (86, 0, 3, 0, .inl 0, 87), (87, 0, 6, 0, .inl 0, 89), (89, 8, 7, 0, .inl 0, 90), (90, 1, 0, 0, .inl 1, 91), (91, 8, 3, 0, .inl 0, 92), (92, 1, 0, 0, .inl 1, 93), (93, 9, 1, 114, .inl 0, 96)],
  [(96, 0, 0, 1, .inl 0, 97), (97, 0, 6, 0, .inl 0, 99), (99, 0, 7, 0, .inl 0, 101), (101, 3, 3, 194, .inl 0, 104), (104, 10, 0, 114, .inl 0, 107), (107, 1, 0, 0, .inl 1, 108), (108, 0, 7, 0, .inl 0, 110), (110, 8, 6, 0, .inl 0, 111), (111, 6, 0, 115, .inl 0, 114), (114, 1, 0, 0, .inl 0, 115), (115, 8, 4, 0, .inl 0, 116), (116, 7, 5, 0, .inl 0, 118), (118, 12, 7, 0, .inl 1, 121), (121, 6, 9, 71, .inl 0, 124), (124, 12, 6, 0, .inl 1, 127), (127, 6, 8, 55, .inl 0, 130)],
  [(130, 0, 5, 0, .inl 0, 132), (132, 7, 3, 0, .inl 0, 133), (133, 12, 4, 0, .inl 1, 136), (136, 6, 6, 30, .inl 0, 139), (139, 1, 0, 0, .inl (-1), 140), (140, 4, 1, 0, .inl 0, 141)]]
/-- ConstellationsByLotModel.byLaw -/
def ic_198 : List (List (Nat × IN)) := [[(0, 0, 1, 0, .inl 0, 1), (1, 28, 0, 82, .inl 0, 36)],
  [(36, 0, 0, 1, .inl 0, 37), (37, 0, 2, 0, .inl 0, 38), (38, 3, 2, 174, .inl 0, 41), (41, 4, 1, 0, .inl 0, 42), (42, 0, 0, 1, .inl 0, 43), (43, 0, 2, 0, .inl 0, 44), (44, 3, 2, 170, .inl 0, 47), (47, 4, 1, 0, .inl 0, 48), (48, 0, 0, 1, .inl 0, 49), (49, 0, 2, 0, .inl 0, 50), (50, 3, 2, 139, .inl 0, 53), (53, 4, 1, 0, .inl 0, 54), (54, 0, 0, 1, .inl 0, 55), (55, 0, 2, 0, .inl 0, 56), (56, 3, 2, 166, .inl 0, 59), (59, 4, 1, 0, .inl 0, 60), (60, 0, 0, 1, .inl 0, 61), (61, 0, 2, 0, .inl 0, 62), (62, 3, 2, 139, .inl 0, 65)],
  [(65, 10, 1, 74, .inl 0, 68), (68, 1, 0, 0, .inl (-1000), 71), (71, 6, 0, 81, .inl 0, 74), (74, 0, 0, 1, .inl 0, 75), (75, 0, 2, 0, .inl 0, 76), (76, 1, 0, 0, .inl 1, 77), (77, 3, 3, 172, .inl 0, 80), (80, 15, 0, 0, .inl 0, 81), (81, 4, 1, 0, .inl 0, 82), (82, 0, 0, 1, .inl 0, 83), (83, 0, 2, 0, .inl 0, 84), (84, 3, 2, 168, .inl 0, 87), (87, 3, 1, 167, .inl 0, 90), (90, 4, 1, 0, .inl 0, 91)]]
/-- ConstellationsByLotModel.picked -/
def ic_199 : List (List (Nat × IN)) := [[(0, 1, 0, 0, .inl (-1), 1), (1, 7, 2, 0, .inl 0, 2), (2, 1, 0, 0, .inl 0, 3), (3, 7, 3, 5, .inl 0, 4), (4, 0, 3, 0, .inl 0, 5), (5, 0, 0, 1, .inl 0, 6), (6, 2, 8, 1, .inl 0, 9), (9, 1, 0, 0, .inl 175, 12), (12, 5, 1, 0, .inl 0, 13), (13, 9, 3, 48, .inl 0, 16), (16, 0, 2, 0, .inl 0, 17), (17, 1, 0, 0, .inl (-1), 18), (18, 9, 0, 36, .inl 0, 21), (21, 0, 0, 1, .inl 0, 22), (22, 0, 1, 0, .inl 0, 23), (23, 0, 3, 0, .inl 0, 24), (24, 3, 3, 198, .inl 0, 27), (27, 0, 0, 1, .inl 0, 28), (28, 0, 1, 0, .inl 0, 29), (29, 0, 2, 0, .inl 0, 30), (30, 3, 3, 198, .inl 0, 33)],
  [(33, 9, 5, 40, .inl 0, 36), (36, 0, 3, 0, .inl 0, 37), (37, 6, 0, 41, .inl 0, 40), (40, 0, 2, 0, .inl 0, 41), (41, 7, 2, 0, .inl 0, 42), (42, 12, 3, 0, .inl 1, 45), (45, 6, 5, 4, .inl 0, 48), (48, 0, 2, 0, .inl 0, 49), (49, 1, 0, 0, .inl (-1), 50), (50, 9, 0, 65, .inl 0, 53), (53, 0, 0, 1, .inl 0, 54), (54, 0, 1, 0, .inl 0, 55), (55, 0, 2, 0, .inl 0, 56), (56, 3, 3, 198, .inl 0, 59), (59, 1, 0, 0, .inl (-1000), 62), (62, 9, 1, 69, .inl 0, 65)],
  [(65, 1, 0, 0, .inl (-1), 66), (66, 6, 0, 70, .inl 0, 69), (69, 0, 2, 0, .inl 0, 70), (70, 4, 1, 0, .inl 0, 71)]]
/-- ConstellationsByLotModel.pick -/
def ic_200 : List (List (Nat × IN)) := [[(0, 0, 1, 0, .inl 0, 1), (1, 15, 1, 0, .inl 0, 2), (2, 1, 0, 0, .inr (.inl 0), 3), (3, 1, 0, 0, .inr (.inl 5), 6), (6, 3, 3, 128, .inl 0, 9), (9, 10, 0, 20, .inl 0, 12), (12, 0, 0, 1, .inl 0, 13), (13, 0, 1, 0, .inl 0, 14), (14, 3, 2, 199, .inl 0, 17), (17, 6, 0, 26, .inl 0, 20), (20, 0, 0, 1, .inl 0, 21), (21, 1, 0, 0, .inl (-2), 23), (23, 3, 2, 129, .inl 0, 26), (26, 4, 1, 0, .inl 0, 27)]]
/-- ConstellationsByLotModel.laws -/
def ic_201 : List (List (Nat × IN)) := [[(0, 0, 0, 1, .inl 0, 1), (1, 0, 1, 0, .inl 0, 2), (2, 3, 2, 132, .inl 0, 5), (5, 10, 1, 15, .inl 0, 8), (8, 0, 0, 1, .inl 0, 9), (9, 1, 0, 0, .inl (-2), 11), (11, 3, 2, 129, .inl 0, 14), (14, 4, 1, 0, .inl 0, 15), (15, 1, 0, 0, .inl 0, 16), (16, 7, 2, 0, .inl 0, 17), (17, 1, 0, 0, .inl 0, 18), (18, 7, 3, 5, .inl 0, 19), (19, 0, 3, 0, .inl 0, 20), (20, 1, 0, 0, .inl 6, 22), (22, 9, 3, 50, .inl 0, 25), (25, 0, 2, 0, .inl 0, 26), (26, 0, 0, 1, .inl 0, 27), (27, 0, 3, 0, .inl 0, 28), (28, 3, 2, 199, .inl 0, 31), (31, 0, 1, 0, .inl 0, 32)],
  [(32, 9, 1, 41, .inl 0, 35), (35, 1, 0, 0, .inl 1, 36), (36, 0, 3, 0, .inl 0, 37), (37, 8, 6, 0, .inl 0, 38), (38, 6, 0, 42, .inl 0, 41), (41, 1, 0, 0, .inl 0, 42), (42, 8, 4, 0, .inl 0, 43), (43, 7, 2, 0, .inl 0, 44), (44, 12, 3, 0, .inl 1, 47), (47, 6, 5, 19, .inl 0, 50), (50, 0, 2, 0, .inl 0, 51), (51, 4, 1, 0, .inl 0, 52)]]
/-- ConstellationsByLotModel.isShelf -/
def ic_202 : List (List (Nat × IN)) := [[(0, 0, 0, 0, .inl 0, 1), (1, 15, 1, 0, .inl 0, 2), (2, 1, 0, 0, .inr (.inl 0), 3), (3, 1, 0, 0, .inr (.inl 7), 6), (6, 3, 3, 128, .inl 0, 9), (9, 4, 3, 0, .inl 0, 10)]]
/-- ConstellationsByLotModel.row -/
def ic_203 : List (List (Nat × IN)) := [[(0, 0, 1, 0, .inl 0, 1), (1, 3, 1, 202, .inl 0, 4), (4, 10, 0, 31, .inl 0, 7), (7, 0, 2, 0, .inl 0, 8), (8, 15, 1, 0, .inl 0, 9), (9, 1, 0, 0, .inr (.inl 0), 10), (10, 1, 0, 0, .inr (.inl 4), 13), (13, 3, 3, 128, .inl 0, 16), (16, 10, 0, 31, .inl 0, 19), (19, 0, 3, 0, .inl 0, 20), (20, 15, 1, 0, .inl 0, 21), (21, 1, 0, 0, .inr (.inl 0), 22), (22, 1, 0, 0, .inr (.inl 40), 25), (25, 3, 3, 128, .inl 0, 28), (28, 10, 1, 38, .inl 0, 31), (31, 0, 0, 1, .inl 0, 32)],
  [(32, 1, 0, 0, .inl (-2), 34), (34, 3, 2, 129, .inl 0, 37), (37, 4, 1, 0, .inl 0, 38), (38, 0, 0, 1, .inl 0, 39), (39, 2, 8, 18, .inl 0, 42), (42, 0, 1, 0, .inl 0, 43), (43, 0, 2, 0, .inl 0, 44), (44, 14, 1, 0, .inl 0, 45), (45, 0, 0, 1, .inl 0, 46), (46, 2, 8, 19, .inl 0, 49), (49, 0, 1, 0, .inl 0, 50), (50, 0, 3, 0, .inl 0, 51), (51, 14, 1, 0, .inl 0, 52), (52, 1, 0, 0, .inl 0, 53), (53, 7, 4, 6, .inl 0, 55), (55, 0, 4, 0, .inl 0, 57), (57, 1, 0, 0, .inl 40, 59), (59, 9, 3, 81, .inl 0, 62), (62, 0, 0, 1, .inl 0, 63), (63, 2, 8, 20, .inl 0, 66)],
  [(66, 1, 0, 0, .inl 40, 68), (68, 0, 1, 0, .inl 0, 69), (69, 8, 2, 0, .inl 0, 70), (70, 0, 4, 0, .inl 0, 72), (72, 8, 0, 0, .inl 0, 73), (73, 1, 0, 0, .inr (.inl 0), 74), (74, 22, 0, 0, .inl 0, 75), (75, 12, 4, 0, .inl 1, 78), (78, 6, 6, 55, .inl 0, 81), (81, 1, 0, 0, .inl 1, 82), (82, 4, 1, 0, .inl 0, 83)]]
/-- ConstellationsByLotModel.rowIn -/
def ic_204 : List (List (Nat × IN)) := [[(0, 0, 0, 1, .inl 0, 1), (1, 2, 8, 18, .inl 0, 4), (4, 0, 1, 0, .inl 0, 5), (5, 5, 1, 0, .inl 0, 6), (6, 1, 0, 0, .inl 10, 8), (8, 9, 2, 16, .inl 0, 11), (11, 1, 0, 0, .inl (-3), 13), (13, 6, 0, 32, .inl 0, 16), (16, 0, 0, 1, .inl 0, 17), (17, 2, 8, 18, .inl 0, 20), (20, 0, 1, 0, .inl 0, 21), (21, 5, 1, 0, .inl 0, 22), (22, 1, 0, 0, .inl (-1), 23), (23, 9, 1, 31, .inl 0, 26), (26, 1, 0, 0, .inl (-4), 28), (28, 6, 0, 32, .inl 0, 31), (31, 1, 0, 0, .inl 1, 32)],
  [(32, 4, 1, 0, .inl 0, 33)]]
/-- ConstellationsByLotModel.set -/
def ic_205 : List (List (Nat × IN)) := [[(0, 0, 1, 0, .inl 0, 1), (1, 3, 1, 202, .inl 0, 4), (4, 10, 1, 14, .inl 0, 7), (7, 0, 0, 1, .inl 0, 8), (8, 1, 0, 0, .inl (-2), 10), (10, 3, 2, 129, .inl 0, 13), (13, 4, 1, 0, .inl 0, 14), (14, 0, 0, 1, .inl 0, 15), (15, 0, 1, 0, .inl 0, 16), (16, 3, 2, 204, .inl 0, 19), (19, 10, 3, 32, .inl 0, 22), (22, 0, 0, 1, .inl 0, 23), (23, 0, 0, 1, .inl 0, 24), (24, 0, 1, 0, .inl 0, 25), (25, 3, 2, 204, .inl 0, 28), (28, 3, 2, 129, .inl 0, 31), (31, 4, 1, 0, .inl 0, 32)],
  [(32, 0, 2, 0, .inl 0, 33), (33, 15, 1, 0, .inl 0, 34), (34, 1, 0, 0, .inr (.inl 0), 35), (35, 0, 0, 1, .inl 0, 36), (36, 2, 8, 19, .inl 0, 39), (39, 0, 1, 0, .inl 0, 40), (40, 5, 1, 0, .inl 0, 41), (41, 1, 0, 0, .inl 1, 42), (42, 8, 1, 0, .inl 0, 43), (43, 15, 1, 0, .inl 0, 44), (44, 3, 3, 128, .inl 0, 47), (47, 10, 1, 57, .inl 0, 50), (50, 0, 0, 1, .inl 0, 51), (51, 1, 0, 0, .inl (-2), 53), (53, 3, 2, 129, .inl 0, 56), (56, 4, 1, 0, .inl 0, 57), (57, 0, 0, 1, .inl 0, 58), (58, 2, 8, 18, .inl 0, 61), (61, 0, 1, 0, .inl 0, 62), (62, 5, 1, 0, .inl 0, 63), (63, 7, 5, 0, .inl 0, 65)],
  [(65, 0, 0, 1, .inl 0, 66), (66, 2, 8, 20, .inl 0, 69), (69, 1, 0, 0, .inl 40, 71), (71, 0, 1, 0, .inl 0, 72), (72, 8, 2, 0, .inl 0, 73), (73, 0, 2, 0, .inl 0, 74), (74, 8, 0, 0, .inl 0, 75), (75, 0, 5, 0, .inl 0, 77), (77, 10, 1, 87, .inl 0, 80), (80, 0, 3, 2, .inl 0, 81), (81, 15, 2, 0, .inl 0, 82), (82, 15, 3, 0, .inl 0, 83), (83, 15, 1, 0, .inl 0, 84), (84, 6, 0, 133, .inl 0, 87), (87, 0, 5, 0, .inl 0, 89), (89, 1, 0, 0, .inl 1, 90), (90, 9, 1, 100, .inl 0, 93), (93, 0, 3, 2, .inl 0, 94), (94, 15, 2, 0, .inl 0, 95), (95, 15, 4, 0, .inl 0, 96)],
  [(96, 15, 1, 0, .inl 0, 97), (97, 6, 0, 133, .inl 0, 100), (100, 0, 5, 0, .inl 0, 102), (102, 1, 0, 0, .inl 2, 103), (103, 9, 1, 112, .inl 0, 106), (106, 0, 3, 2, .inl 0, 107), (107, 15, 2, 0, .inl 0, 108), (108, 15, 1, 0, .inl 0, 109), (109, 6, 0, 133, .inl 0, 112), (112, 0, 5, 0, .inl 0, 114), (114, 1, 0, 0, .inl 3, 115), (115, 9, 1, 122, .inl 0, 118), (118, 0, 3, 2, .inl 0, 119), (119, 6, 0, 133, .inl 0, 122), (122, 0, 3, 2, .inl 0, 123), (123, 1, 0, 0, .inr (.inl 0), 124), (124, 18, 0, 0, .inl 0, 125), (125, 10, 0, 132, .inl 0, 128)],
  [(128, 1, 0, 0, .inr (.inl 1), 129), (129, 6, 0, 133, .inl 0, 132), (132, 1, 0, 0, .inr (.inl 0), 133), (133, 22, 0, 0, .inl 0, 134), (134, 1, 0, 0, .inl 1, 135), (135, 4, 1, 0, .inl 0, 136)]]
/-- ConstellationsByLotModel.copy -/
def ic_206 : List (List (Nat × IN)) := [[(0, 0, 1, 0, .inl 0, 1), (1, 3, 1, 202, .inl 0, 4), (4, 10, 0, 14, .inl 0, 7), (7, 0, 2, 0, .inl 0, 8), (8, 3, 1, 202, .inl 0, 11), (11, 10, 1, 21, .inl 0, 14), (14, 0, 0, 1, .inl 0, 15), (15, 1, 0, 0, .inl (-2), 17), (17, 3, 2, 129, .inl 0, 20), (20, 4, 1, 0, .inl 0, 21), (21, 0, 0, 1, .inl 0, 22), (22, 2, 8, 18, .inl 0, 25), (25, 0, 1, 0, .inl 0, 26), (26, 5, 1, 0, .inl 0, 27), (27, 1, 0, 0, .inl (-1), 28), (28, 9, 0, 45, .inl 0, 31), (31, 0, 0, 1, .inl 0, 32)],
  [(32, 2, 8, 18, .inl 0, 35), (35, 0, 2, 0, .inl 0, 36), (36, 5, 1, 0, .inl 0, 37), (37, 1, 0, 0, .inl (-1), 38), (38, 9, 0, 45, .inl 0, 41), (41, 1, 0, 0, .inl 1, 42), (42, 6, 0, 46, .inl 0, 45), (45, 1, 0, 0, .inl 0, 46), (46, 7, 6, 0, .inl 0, 48), (48, 0, 0, 1, .inl 0, 49), (49, 2, 8, 18, .inl 0, 52), (52, 0, 1, 0, .inl 0, 53), (53, 5, 1, 0, .inl 0, 54), (54, 1, 0, 0, .inl 10, 56), (56, 9, 3, 90, .inl 0, 59), (59, 0, 0, 1, .inl 0, 60), (60, 2, 8, 18, .inl 0, 63), (63, 0, 2, 0, .inl 0, 64)],
  [(64, 5, 1, 0, .inl 0, 65), (65, 1, 0, 0, .inl 10, 67), (67, 9, 3, 90, .inl 0, 70), (70, 0, 6, 0, .inl 0, 72), (72, 10, 0, 97, .inl 0, 75), (75, 0, 0, 1, .inl 0, 76), (76, 2, 8, 18, .inl 0, 79), (79, 0, 1, 0, .inl 0, 80), (80, 5, 1, 0, .inl 0, 81), (81, 0, 0, 1, .inl 0, 82), (82, 2, 8, 18, .inl 0, 85), (85, 0, 2, 0, .inl 0, 86), (86, 5, 1, 0, .inl 0, 87), (87, 9, 0, 97, .inl 0, 90), (90, 0, 0, 1, .inl 0, 91), (91, 1, 0, 0, .inl (-3), 93), (93, 3, 2, 129, .inl 0, 96)],
  [(96, 4, 1, 0, .inl 0, 97), (97, 0, 6, 0, .inl 0, 99), (99, 10, 1, 109, .inl 0, 102), (102, 0, 0, 1, .inl 0, 103), (103, 1, 0, 0, .inl (-4), 105), (105, 3, 2, 129, .inl 0, 108), (108, 4, 1, 0, .inl 0, 109), (109, 0, 5, 0, .inl 0, 111), (111, 10, 2, 150, .inl 0, 114), (114, 0, 3, 0, .inl 0, 115), (115, 10, 2, 150, .inl 0, 118), (118, 0, 4, 0, .inl 0, 120), (120, 10, 2, 150, .inl 0, 123), (123, 0, 5, 0, .inl 0, 125), (125, 0, 0, 1, .inl 0, 126), (126, 2, 8, 19, .inl 0, 129)],
  [(129, 0, 1, 0, .inl 0, 130), (130, 5, 1, 0, .inl 0, 131), (131, 0, 3, 0, .inl 0, 132), (132, 8, 1, 0, .inl 0, 133), (133, 9, 4, 150, .inl 0, 136), (136, 0, 5, 0, .inl 0, 138), (138, 0, 0, 1, .inl 0, 139), (139, 2, 8, 19, .inl 0, 142), (142, 0, 2, 0, .inl 0, 143), (143, 5, 1, 0, .inl 0, 144), (144, 0, 4, 0, .inl 0, 146), (146, 8, 1, 0, .inl 0, 147), (147, 9, 5, 157, .inl 0, 150), (150, 0, 0, 1, .inl 0, 151), (151, 1, 0, 0, .inl (-2), 153), (153, 3, 2, 129, .inl 0, 156), (156, 4, 1, 0, .inl 0, 157), (157, 1, 0, 0, .inl 0, 158), (158, 7, 7, 9, .inl 0, 160)],
  [(160, 0, 7, 0, .inl 0, 162), (162, 0, 5, 0, .inl 0, 164), (164, 9, 3, 194, .inl 0, 167), (167, 0, 0, 1, .inl 0, 168), (168, 2, 8, 21, .inl 0, 171), (171, 0, 7, 0, .inl 0, 173), (173, 0, 0, 1, .inl 0, 174), (174, 2, 8, 20, .inl 0, 177), (177, 1, 0, 0, .inl 40, 179), (179, 0, 1, 0, .inl 0, 180), (180, 8, 2, 0, .inl 0, 181), (181, 0, 3, 0, .inl 0, 182), (182, 8, 0, 0, .inl 0, 183), (183, 0, 7, 0, .inl 0, 185), (185, 8, 0, 0, .inl 0, 186), (186, 21, 0, 0, .inl 0, 187), (187, 22, 0, 0, .inl 0, 188), (188, 12, 7, 0, .inl 1, 191), (191, 6, 9, 160, .inl 0, 194)],
  [(194, 1, 0, 0, .inl 0, 195), (195, 7, 7, 9, .inl 0, 197), (197, 0, 7, 0, .inl 0, 199), (199, 0, 5, 0, .inl 0, 201), (201, 9, 3, 232, .inl 0, 204), (204, 0, 0, 1, .inl 0, 205), (205, 2, 8, 20, .inl 0, 208), (208, 1, 0, 0, .inl 40, 210), (210, 0, 2, 0, .inl 0, 211), (211, 8, 2, 0, .inl 0, 212), (212, 0, 4, 0, .inl 0, 214), (214, 8, 0, 0, .inl 0, 215), (215, 0, 7, 0, .inl 0, 217), (217, 8, 0, 0, .inl 0, 218), (218, 0, 0, 1, .inl 0, 219), (219, 2, 8, 21, .inl 0, 222), (222, 0, 7, 0, .inl 0, 224)],
  [(224, 21, 0, 0, .inl 0, 225), (225, 22, 0, 0, .inl 0, 226), (226, 12, 7, 0, .inl 1, 229), (229, 6, 9, 197, .inl 0, 232), (232, 0, 5, 0, .inl 0, 234), (234, 4, 1, 0, .inl 0, 235)]]
/-- ConstellationsByLotModel.element -/
def ic_207 : List (List (Nat × IN)) := [[(0, 0, 1, 0, .inl 0, 1), (1, 3, 1, 202, .inl 0, 4), (4, 10, 0, 56, .inl 0, 7), (7, 0, 0, 1, .inl 0, 8), (8, 2, 8, 18, .inl 0, 11), (11, 0, 1, 0, .inl 0, 12), (12, 5, 1, 0, .inl 0, 13), (13, 15, 1, 0, .inl 0, 14), (14, 1, 0, 0, .inr (.inl 0), 15), (15, 1, 0, 0, .inr (.inl 4), 18), (18, 3, 3, 128, .inl 0, 21), (21, 10, 0, 56, .inl 0, 24), (24, 0, 2, 0, .inl 0, 25), (25, 15, 1, 0, .inl 0, 26), (26, 1, 0, 0, .inr (.inl 0), 27), (27, 0, 0, 1, .inl 0, 28), (28, 2, 8, 19, .inl 0, 31), (31, 0, 1, 0, .inl 0, 32)],
  [(32, 5, 1, 0, .inl 0, 33), (33, 1, 0, 0, .inl 1, 34), (34, 8, 1, 0, .inl 0, 35), (35, 15, 1, 0, .inl 0, 36), (36, 3, 3, 128, .inl 0, 39), (39, 10, 0, 56, .inl 0, 42), (42, 0, 0, 1, .inl 0, 43), (43, 2, 8, 20, .inl 0, 46), (46, 1, 0, 0, .inl 40, 48), (48, 0, 1, 0, .inl 0, 49), (49, 8, 2, 0, .inl 0, 50), (50, 0, 2, 0, .inl 0, 51), (51, 8, 0, 0, .inl 0, 52), (52, 21, 0, 0, .inl 0, 53), (53, 6, 0, 57, .inl 0, 56), (56, 1, 0, 0, .inr (.inl 0), 57), (57, 4, 2, 0, .inl 0, 58)]]
/-- ConstellationsByLotModel.holds -/
def ic_208 : List (List (Nat × IN)) := [[(0, 0, 1, 0, .inl 0, 1), (1, 3, 1, 202, .inl 0, 4), (4, 10, 0, 16, .inl 0, 7), (7, 0, 0, 1, .inl 0, 8), (8, 2, 8, 18, .inl 0, 11), (11, 0, 1, 0, .inl 0, 12), (12, 5, 1, 0, .inl 0, 13), (13, 6, 0, 17, .inl 0, 16), (16, 1, 0, 0, .inl (-1), 17), (17, 4, 1, 0, .inl 0, 18)]]
/-- ConstellationsByLotModel.show -/
def ic_209 : List (List (Nat × IN)) := [[(0, 0, 1, 0, .inl 0, 1), (1, 3, 1, 202, .inl 0, 4), (4, 10, 0, 20, .inl 0, 7), (7, 0, 2, 0, .inl 0, 8), (8, 1, 0, 0, .inl (-1), 9), (9, 9, 0, 27, .inl 0, 12), (12, 0, 0, 1, .inl 0, 13), (13, 0, 2, 0, .inl 0, 14), (14, 3, 2, 132, .inl 0, 17), (17, 10, 1, 27, .inl 0, 20), (20, 0, 0, 1, .inl 0, 21), (21, 1, 0, 0, .inl (-2), 23), (23, 3, 2, 129, .inl 0, 26), (26, 4, 1, 0, .inl 0, 27), (27, 0, 0, 1, .inl 0, 28), (28, 2, 8, 18, .inl 0, 31), (31, 0, 1, 0, .inl 0, 32)],
  [(32, 0, 2, 0, .inl 0, 33), (33, 1, 0, 0, .inl (-1), 34), (34, 9, 1, 41, .inl 0, 37), (37, 1, 0, 0, .inl (-1), 38), (38, 6, 0, 45, .inl 0, 41), (41, 1, 0, 0, .inl 10, 43), (43, 0, 2, 0, .inl 0, 44), (44, 8, 0, 0, .inl 0, 45), (45, 14, 1, 0, .inl 0, 46), (46, 1, 0, 0, .inl 1, 47), (47, 4, 1, 0, .inl 0, 48)]]
/-- ConstellationsByLotModel.says -/
def ic_210 : List (List (Nat × IN)) := [[(0, 0, 1, 0, .inl 0, 1), (1, 3, 1, 202, .inl 0, 4), (4, 10, 0, 19, .inl 0, 7), (7, 0, 2, 0, .inl 0, 8), (8, 15, 1, 0, .inl 0, 9), (9, 1, 0, 0, .inr (.inl 0), 10), (10, 1, 0, 0, .inr (.inl 5), 13), (13, 3, 3, 128, .inl 0, 16), (16, 10, 1, 26, .inl 0, 19), (19, 0, 0, 1, .inl 0, 20), (20, 1, 0, 0, .inl (-2), 22), (22, 3, 2, 129, .inl 0, 25), (25, 4, 1, 0, .inl 0, 26), (26, 0, 0, 1, .inl 0, 27), (27, 2, 8, 18, .inl 0, 30), (30, 0, 1, 0, .inl 0, 31), (31, 5, 1, 0, .inl 0, 32)],
  [(32, 1, 0, 0, .inl (-1), 33), (33, 9, 1, 43, .inl 0, 36), (36, 0, 0, 1, .inl 0, 37), (37, 1, 0, 0, .inl (-4), 39), (39, 3, 2, 129, .inl 0, 42), (42, 4, 1, 0, .inl 0, 43), (43, 0, 0, 1, .inl 0, 44), (44, 2, 8, 18, .inl 0, 47), (47, 0, 1, 0, .inl 0, 48), (48, 5, 1, 0, .inl 0, 49), (49, 1, 0, 0, .inl 10, 51), (51, 8, 1, 0, .inl 0, 52), (52, 7, 3, 0, .inl 0, 53), (53, 0, 3, 0, .inl 0, 54), (54, 10, 3, 61, .inl 0, 57), (57, 1, 0, 0, .inl (-1), 58), (58, 6, 0, 66, .inl 0, 61), (61, 0, 0, 1, .inl 0, 62), (62, 0, 3, 0, .inl 0, 63), (63, 3, 2, 137, .inl 0, 66)],
  [(66, 7, 4, 6, .inl 0, 68), (68, 0, 4, 0, .inl 0, 70), (70, 1, 0, 0, .inl (-1), 71), (71, 9, 0, 92, .inl 0, 74), (74, 0, 4, 0, .inl 0, 76), (76, 0, 2, 0, .inl 0, 77), (77, 9, 0, 92, .inl 0, 80), (80, 0, 0, 1, .inl 0, 81), (81, 2, 8, 22, .inl 0, 84), (84, 0, 4, 0, .inl 0, 86), (86, 5, 1, 0, .inl 0, 87), (87, 7, 4, 0, .inl 0, 89), (89, 6, 6, 68, .inl 0, 92), (92, 0, 4, 0, .inl 0, 94), (94, 1, 0, 0, .inl (-1), 95), (95, 9, 1, 107, .inl 0, 98)],
  [(98, 0, 0, 1, .inl 0, 99), (99, 1, 0, 0, .inl (-3), 101), (101, 3, 2, 129, .inl 0, 104), (104, 6, 0, 124, .inl 0, 107), (107, 0, 2, 0, .inl 0, 108), (108, 10, 1, 119, .inl 0, 111), (111, 0, 0, 1, .inl 0, 112), (112, 0, 3, 0, .inl 0, 113), (113, 3, 2, 138, .inl 0, 116), (116, 6, 0, 124, .inl 0, 119), (119, 0, 0, 1, .inl 0, 120), (120, 0, 3, 0, .inl 0, 121), (121, 3, 2, 174, .inl 0, 124), (124, 4, 1, 0, .inl 0, 125)]]
/-- ConstellationsByLotModel.unlike -/
def ic_211 : List (List (Nat × IN)) := [[(0, 1, 0, 0, .inl 0, 1), (1, 7, 2, 0, .inl 0, 2), (2, 1, 0, 0, .inl 0, 3), (3, 7, 3, 5, .inl 0, 4), (4, 0, 3, 0, .inl 0, 5), (5, 0, 0, 1, .inl 0, 6), (6, 2, 8, 1, .inl 0, 9), (9, 1, 0, 0, .inl 174, 12), (12, 5, 1, 0, .inl 0, 13), (13, 9, 3, 86, .inl 0, 16), (16, 0, 3, 0, .inl 0, 17), (17, 1, 0, 0, .inl 1, 18), (18, 8, 0, 0, .inl 0, 19), (19, 7, 4, 6, .inl 0, 21), (21, 0, 4, 0, .inl 0, 23), (23, 0, 0, 1, .inl 0, 24), (24, 2, 8, 1, .inl 0, 27), (27, 1, 0, 0, .inl 174, 30), (30, 5, 1, 0, .inl 0, 31), (31, 9, 3, 80, .inl 0, 34)],
  [(34, 0, 2, 0, .inl 0, 35), (35, 0, 0, 1, .inl 0, 36), (36, 2, 8, 23, .inl 0, 39), (39, 1, 0, 0, .inl 12, 41), (41, 0, 3, 0, .inl 0, 42), (42, 8, 2, 0, .inl 0, 43), (43, 0, 4, 0, .inl 0, 45), (45, 8, 0, 0, .inl 0, 46), (46, 5, 3, 0, .inl 0, 47), (47, 0, 0, 1, .inl 0, 48), (48, 0, 1, 0, .inl 0, 49), (49, 0, 3, 0, .inl 0, 50), (50, 0, 4, 0, .inl 0, 52), (52, 3, 4, 143, .inl 0, 55), (55, 1, 0, 0, .inl (-1), 56), (56, 9, 0, 63, .inl 0, 59), (59, 1, 0, 0, .inl 1, 60), (60, 6, 0, 64, .inl 0, 63), (63, 1, 0, 0, .inl 0, 64)],
  [(64, 9, 0, 71, .inl 0, 67), (67, 1, 0, 0, .inl 1, 68), (68, 6, 0, 72, .inl 0, 71), (71, 1, 0, 0, .inl 0, 72), (72, 8, 0, 0, .inl 0, 73), (73, 7, 2, 0, .inl 0, 74), (74, 12, 4, 0, .inl 1, 77), (77, 6, 6, 21, .inl 0, 80), (80, 12, 3, 0, .inl 1, 83), (83, 6, 5, 4, .inl 0, 86), (86, 0, 2, 0, .inl 0, 87), (87, 4, 1, 0, .inl 0, 88)]]
def ic_212_0 : List (Nat × IN) := [(0, 0, 1, 0, .inl 0, 1), (1, 3, 1, 202, .inl 0, 4), (4, 10, 0, 29, .inl 0, 7), (7, 0, 2, 0, .inl 0, 8), (8, 15, 1, 0, .inl 0, 9), (9, 1, 0, 0, .inr (.inl 0), 10), (10, 1, 0, 0, .inr (.inl 20), 13), (13, 3, 3, 128, .inl 0, 16), (16, 10, 0, 29, .inl 0, 19), (19, 0, 3, 0, .inl 0, 20), (20, 15, 1, 0, .inl 0, 21), (21, 1, 0, 0, .inr (.inl 0), 22), (22, 1, 0, 0, .inr (.inl 1), 23), (23, 3, 3, 128, .inl 0, 26), (26, 10, 1, 36, .inl 0, 29), (29, 0, 0, 1, .inl 0, 30), (30, 1, 0, 0, .inl (-2), 32)]
def ic_212_1 : List (Nat × IN) := [(32, 3, 2, 129, .inl 0, 35), (35, 4, 1, 0, .inl 0, 36), (36, 0, 0, 1, .inl 0, 37), (37, 0, 1, 0, .inl 0, 38), (38, 3, 2, 204, .inl 0, 41), (41, 10, 3, 54, .inl 0, 44), (44, 0, 0, 1, .inl 0, 45), (45, 0, 0, 1, .inl 0, 46), (46, 0, 1, 0, .inl 0, 47), (47, 3, 2, 204, .inl 0, 50), (50, 3, 2, 129, .inl 0, 53), (53, 4, 1, 0, .inl 0, 54), (54, 1, 0, 0, .inl 2, 55), (55, 0, 2, 0, .inl 0, 56), (56, 8, 2, 0, .inl 0, 57), (57, 0, 0, 1, .inl 0, 58), (58, 2, 8, 19, .inl 0, 61), (61, 0, 1, 0, .inl 0, 62), (62, 5, 1, 0, .inl 0, 63), (63, 9, 5, 73, .inl 0, 66)]
def ic_212_2 : List (Nat × IN) := [(66, 0, 0, 1, .inl 0, 67), (67, 1, 0, 0, .inl (-2), 69), (69, 3, 2, 129, .inl 0, 72), (72, 4, 1, 0, .inl 0, 73), (73, 1, 0, 0, .inl 0, 74), (74, 7, 4, 6, .inl 0, 76), (76, 0, 4, 0, .inl 0, 78), (78, 1, 0, 0, .inl 144, 81), (81, 9, 3, 98, .inl 0, 84), (84, 0, 0, 1, .inl 0, 85), (85, 2, 8, 23, .inl 0, 88), (88, 0, 4, 0, .inl 0, 90), (90, 1, 0, 0, .inl 0, 91), (91, 14, 3, 0, .inl 0, 92), (92, 12, 4, 0, .inl 1, 95), (95, 6, 6, 76, .inl 0, 98)]
def ic_212_3 : List (Nat × IN) := [(98, 1, 0, 0, .inl 0, 99), (99, 7, 4, 6, .inl 0, 101), (101, 0, 4, 0, .inl 0, 103), (103, 0, 2, 0, .inl 0, 104), (104, 9, 3, 206, .inl 0, 107), (107, 0, 0, 1, .inl 0, 108), (108, 2, 8, 20, .inl 0, 111), (111, 1, 0, 0, .inl 40, 113), (113, 0, 1, 0, .inl 0, 114), (114, 8, 2, 0, .inl 0, 115), (115, 1, 0, 0, .inl 2, 116), (116, 0, 4, 0, .inl 0, 118), (118, 8, 2, 0, .inl 0, 119), (119, 8, 0, 0, .inl 0, 120), (120, 21, 0, 0, .inl 0, 121), (121, 23, 5, 0, .inl 0, 123), (123, 0, 0, 1, .inl 0, 124), (124, 2, 8, 20, .inl 0, 127), (127, 1, 0, 0, .inl 40, 129)]
def ic_212_4 : List (Nat × IN) := [(129, 0, 1, 0, .inl 0, 130), (130, 8, 2, 0, .inl 0, 131), (131, 1, 0, 0, .inl 2, 132), (132, 0, 4, 0, .inl 0, 134), (134, 8, 2, 0, .inl 0, 135), (135, 8, 0, 0, .inl 0, 136), (136, 1, 0, 0, .inl 1, 137), (137, 8, 0, 0, .inl 0, 138), (138, 21, 0, 0, .inl 0, 139), (139, 23, 7, 0, .inl 0, 141), (141, 0, 0, 1, .inl 0, 142), (142, 0, 5, 2, .inl 0, 144), (144, 3, 2, 131, .inl 0, 147), (147, 10, 0, 167, .inl 0, 150), (150, 0, 0, 1, .inl 0, 151), (151, 0, 7, 2, .inl 0, 153), (153, 3, 2, 131, .inl 0, 156), (156, 10, 0, 167, .inl 0, 159), (159, 0, 5, 2, .inl 0, 161)]
def ic_212_5 : List (Nat × IN) := [(161, 0, 7, 2, .inl 0, 163), (163, 18, 0, 0, .inl 0, 164), (164, 10, 1, 174, .inl 0, 167), (167, 0, 0, 1, .inl 0, 168), (168, 1, 0, 0, .inl (-5), 170), (170, 3, 2, 129, .inl 0, 173), (173, 4, 1, 0, .inl 0, 174), (174, 0, 0, 1, .inl 0, 175), (175, 2, 8, 23, .inl 0, 178), (178, 1, 0, 0, .inr (.inl 12), 181), (181, 0, 5, 2, .inl 0, 183), (183, 0, 7, 2, .inl 0, 185), (185, 35, 1, 0, .inl 0, 188), (188, 17, 1, 0, .inl 0, 189), (189, 0, 5, 2, .inl 0, 191), (191, 0, 7, 2, .inl 0, 193)]
def ic_212_6 : List (Nat × IN) := [(193, 35, 0, 0, .inl 0, 196), (196, 17, 0, 0, .inl 0, 197), (197, 15, 2, 0, .inl 0, 198), (198, 1, 0, 0, .inl 1, 199), (199, 14, 3, 0, .inl 0, 200), (200, 12, 4, 0, .inl 1, 203), (203, 6, 6, 101, .inl 0, 206), (206, 0, 0, 1, .inl 0, 207), (207, 2, 8, 1, .inl 0, 210), (210, 1, 0, 0, .inl 175, 213), (213, 5, 1, 0, .inl 0, 214), (214, 10, 1, 224, .inl 0, 217), (217, 0, 0, 1, .inl 0, 218), (218, 1, 0, 0, .inl (-5), 220), (220, 3, 2, 129, .inl 0, 223), (223, 4, 1, 0, .inl 0, 224)]
def ic_212_7 : List (Nat × IN) := [(224, 1, 0, 0, .inl 0, 225), (225, 7, 4, 0, .inl 0, 227), (227, 1, 0, 0, .inl 1, 228), (228, 7, 5, 7, .inl 0, 230), (230, 0, 5, 0, .inl 0, 232), (232, 0, 0, 1, .inl 0, 233), (233, 2, 8, 1, .inl 0, 236), (236, 1, 0, 0, .inl 175, 239), (239, 5, 1, 0, .inl 0, 240), (240, 9, 3, 273, .inl 0, 243), (243, 0, 0, 1, .inl 0, 244), (244, 0, 5, 0, .inl 0, 246), (246, 3, 2, 211, .inl 0, 249), (249, 0, 0, 1, .inl 0, 250), (250, 0, 4, 0, .inl 0, 252), (252, 3, 2, 211, .inl 0, 255), (255, 9, 3, 263, .inl 0, 258)]
def ic_212_8 : List (Nat × IN) := [(258, 0, 5, 0, .inl 0, 260), (260, 6, 0, 265, .inl 0, 263), (263, 0, 4, 0, .inl 0, 265), (265, 7, 4, 0, .inl 0, 267), (267, 12, 5, 0, .inl 1, 270), (270, 6, 7, 230, .inl 0, 273), (273, 0, 3, 0, .inl 0, 274), (274, 10, 1, 282, .inl 0, 277), (277, 0, 4, 0, .inl 0, 279), (279, 6, 0, 288, .inl 0, 282), (282, 0, 0, 1, .inl 0, 283), (283, 0, 4, 0, .inl 0, 285), (285, 3, 2, 211, .inl 0, 288)]
def ic_212_9 : List (Nat × IN) := [(288, 4, 1, 0, .inl 0, 289)]
/-- ConstellationsByLotModel.whose -/
def ic_212 : List (List (Nat × IN)) := [ic_212_0, ic_212_1, ic_212_2, ic_212_3, ic_212_4, ic_212_5, ic_212_6, ic_212_7, ic_212_8, ic_212_9]
/-- ConstellationsByLotModel.seen -/
def ic_213 : List (List (Nat × IN)) := [[(0, 0, 0, 1, .inl 0, 1), (1, 0, 1, 0, .inl 0, 2), (2, 3, 2, 132, .inl 0, 5), (5, 10, 0, 18, .inl 0, 8), (8, 0, 2, 0, .inl 0, 9), (9, 15, 1, 0, .inl 0, 10), (10, 1, 0, 0, .inr (.inl 0), 11), (11, 1, 0, 0, .inr (.inl 1), 12), (12, 3, 3, 128, .inl 0, 15), (15, 10, 1, 25, .inl 0, 18), (18, 0, 0, 1, .inl 0, 19), (19, 1, 0, 0, .inl (-2), 21), (21, 3, 2, 129, .inl 0, 24), (24, 4, 1, 0, .inl 0, 25), (25, 1, 0, 0, .inl 12, 27), (27, 0, 0, 1, .inl 0, 28), (28, 2, 8, 1, .inl 0, 31), (31, 1, 0, 0, .inl 176, 34)],
  [(34, 5, 1, 0, .inl 0, 35), (35, 8, 1, 0, .inl 0, 36), (36, 7, 3, 0, .inl 0, 37), (37, 0, 2, 0, .inl 0, 38), (38, 1, 0, 0, .inl 1, 39), (39, 9, 1, 60, .inl 0, 42), (42, 1, 0, 0, .inl 1000, 45), (45, 0, 0, 1, .inl 0, 46), (46, 0, 1, 0, .inl 0, 47), (47, 3, 2, 139, .inl 0, 50), (50, 8, 2, 0, .inl 0, 51), (51, 0, 3, 0, .inl 0, 52), (52, 8, 2, 0, .inl 0, 53), (53, 0, 3, 0, .inl 0, 54), (54, 8, 2, 0, .inl 0, 55), (55, 1, 0, 0, .inl 144, 58), (58, 19, 0, 0, .inl 0, 59), (59, 4, 1, 0, .inl 0, 60), (60, 1, 0, 0, .inr (.inl 1000000), 63), (63, 23, 4, 0, .inl 0, 65)],
  [(65, 1, 0, 0, .inr (.inl 1), 66), (66, 23, 6, 0, .inl 0, 68), (68, 1, 0, 0, .inl 0, 69), (69, 7, 8, 10, .inl 0, 71), (71, 0, 8, 0, .inl 0, 73), (73, 0, 0, 1, .inl 0, 74), (74, 0, 1, 0, .inl 0, 75), (75, 3, 2, 168, .inl 0, 78), (78, 3, 1, 167, .inl 0, 81), (81, 9, 3, 105, .inl 0, 84), (84, 0, 4, 2, .inl 0, 86), (86, 0, 3, 0, .inl 0, 87), (87, 15, 1, 0, .inl 0, 88), (88, 17, 1, 0, .inl 0, 89), (89, 23, 4, 0, .inl 0, 91), (91, 0, 6, 2, .inl 0, 93), (93, 1, 0, 0, .inr (.inl 12), 96)],
  [(96, 17, 1, 0, .inl 0, 97), (97, 23, 6, 0, .inl 0, 99), (99, 12, 8, 0, .inl 1, 102), (102, 6, 10, 71, .inl 0, 105), (105, 0, 4, 2, .inl 0, 107), (107, 0, 6, 2, .inl 0, 109), (109, 20, 0, 0, .inl 0, 110), (110, 15, 2, 0, .inl 0, 111), (111, 4, 1, 0, .inl 0, 112)]]
/-- ConstellationsByLotModel.drawBelow -/
def ic_214 : List (List (Nat × IN)) := [[(0, 0, 0, 1, .inl 0, 1), (1, 2, 8, 1, .inl 0, 4), (4, 1, 0, 0, .inl 177, 7), (7, 0, 0, 1, .inl 0, 8), (8, 2, 8, 1, .inl 0, 11), (11, 1, 0, 0, .inl 177, 14), (14, 5, 1, 0, .inl 0, 15), (15, 1, 0, 0, .inl 1103515245, 18), (18, 8, 2, 0, .inl 0, 19), (19, 1, 0, 0, .inl 12345, 22), (22, 8, 0, 0, .inl 0, 23), (23, 14, 1, 0, .inl 0, 24), (24, 0, 0, 1, .inl 0, 25), (25, 2, 8, 1, .inl 0, 28), (28, 1, 0, 0, .inl 177, 31), (31, 5, 1, 0, .inl 0, 32)],
  [(32, 1, 0, 0, .inl 16, 34), (34, 8, 8, 0, .inl 0, 35), (35, 0, 1, 0, .inl 0, 36), (36, 19, 1, 0, .inl 0, 37), (37, 4, 1, 0, .inl 0, 38)]]
/-- ConstellationsByLotModel.among -/
def ic_215 : List (List (Nat × IN)) := [[(0, 0, 1, 0, .inl 0, 1), (1, 7, 2, 0, .inl 0, 2), (2, 1, 0, 0, .inl 0, 3), (3, 7, 3, 5, .inl 0, 4), (4, 0, 0, 0, .inl 0, 5), (5, 0, 3, 0, .inl 0, 6), (6, 8, 7, 0, .inl 0, 7), (7, 1, 0, 0, .inl 1, 8), (8, 8, 3, 0, .inl 0, 9), (9, 10, 0, 16, .inl 0, 12), (12, 0, 2, 0, .inl 0, 13), (13, 10, 5, 30, .inl 0, 16), (16, 0, 2, 0, .inl 0, 17), (17, 0, 0, 0, .inl 0, 18), (18, 0, 3, 0, .inl 0, 19), (19, 8, 7, 0, .inl 0, 20), (20, 1, 0, 0, .inl 1, 21), (21, 8, 3, 0, .inl 0, 22), (22, 8, 1, 0, .inl 0, 23), (23, 7, 2, 0, .inl 0, 24), (24, 12, 3, 0, .inl 1, 27), (27, 6, 5, 4, .inl 0, 30), (30, 0, 3, 0, .inl 0, 31), (31, 4, 1, 0, .inl 0, 32)]]
/-- ConstellationsByLotModel.night -/
def ic_216 : List (List (Nat × IN)) := [[(0, 0, 0, 1, .inl 0, 1), (1, 0, 1, 0, .inl 0, 2), (2, 3, 2, 175, .inl 0, 5), (5, 7, 2, 0, .inl 0, 6), (6, 0, 2, 0, .inl 0, 7), (7, 3, 1, 167, .inl 0, 10), (10, 1, 0, 0, .inl 2, 11), (11, 9, 3, 15, .inl 0, 14), (14, 4, 0, 0, .inl 0, 15), (15, 0, 2, 0, .inl 0, 16), (16, 0, 0, 1, .inl 0, 17), (17, 0, 2, 0, .inl 0, 18), (18, 3, 1, 167, .inl 0, 21), (21, 3, 2, 214, .inl 0, 24), (24, 3, 2, 215, .inl 0, 27), (27, 7, 3, 0, .inl 0, 28), (28, 0, 2, 0, .inl 0, 29), (29, 0, 0, 1, .inl 0, 30), (30, 0, 2, 0, .inl 0, 31), (31, 3, 1, 167, .inl 0, 34)],
  [(34, 3, 2, 214, .inl 0, 37), (37, 3, 2, 215, .inl 0, 40), (40, 7, 4, 0, .inl 0, 42), (42, 0, 3, 0, .inl 0, 43), (43, 0, 4, 0, .inl 0, 45), (45, 9, 1, 49, .inl 0, 48), (48, 4, 0, 0, .inl 0, 49), (49, 0, 0, 1, .inl 0, 50), (50, 0, 1, 0, .inl 0, 51), (51, 0, 3, 0, .inl 0, 52), (52, 0, 4, 0, .inl 0, 54), (54, 3, 4, 143, .inl 0, 57), (57, 7, 5, 0, .inl 0, 59), (59, 0, 5, 0, .inl 0, 61), (61, 1, 0, 0, .inl (-1), 62), (62, 9, 0, 76, .inl 0, 65)],
  [(65, 0, 0, 1, .inl 0, 66), (66, 0, 1, 0, .inl 0, 67), (67, 0, 5, 0, .inl 0, 69), (69, 3, 3, 145, .inl 0, 72), (72, 25, 0, 0, .inl 0, 73), (73, 6, 0, 95, .inl 0, 76), (76, 0, 0, 1, .inl 0, 77), (77, 0, 1, 0, .inl 0, 78), (78, 3, 2, 139, .inl 0, 81), (81, 1, 0, 0, .inl 10, 83), (83, 9, 3, 95, .inl 0, 86), (86, 0, 0, 1, .inl 0, 87), (87, 0, 1, 0, .inl 0, 88), (88, 0, 3, 0, .inl 0, 89), (89, 0, 4, 0, .inl 0, 91), (91, 3, 4, 144, .inl 0, 94), (94, 25, 0, 0, .inl 0, 95), (95, 4, 0, 0, .inl 0, 96)]]
/-- ConstellationsByLotModel.allLines -/
def ic_217 : List (List (Nat × IN)) := [[(0, 1, 0, 0, .inl 0, 1), (1, 7, 1, 0, .inl 0, 2), (2, 1, 0, 0, .inl 0, 3), (3, 7, 2, 4, .inl 0, 4), (4, 0, 2, 0, .inl 0, 5), (5, 0, 0, 1, .inl 0, 6), (6, 2, 8, 1, .inl 0, 9), (9, 1, 0, 0, .inl 175, 12), (12, 5, 1, 0, .inl 0, 13), (13, 9, 3, 30, .inl 0, 16), (16, 0, 1, 0, .inl 0, 17), (17, 0, 0, 1, .inl 0, 18), (18, 0, 2, 0, .inl 0, 19), (19, 3, 2, 139, .inl 0, 22), (22, 8, 0, 0, .inl 0, 23), (23, 7, 1, 0, .inl 0, 24), (24, 12, 2, 0, .inl 1, 27), (27, 6, 4, 4, .inl 0, 30), (30, 0, 1, 0, .inl 0, 31), (31, 4, 1, 0, .inl 0, 32)]]
/-- ConstellationsByLotModel.nights -/
def ic_218 : List (List (Nat × IN)) := [[(0, 0, 1, 0, .inl 0, 1), (1, 15, 1, 0, .inl 0, 2), (2, 1, 0, 0, .inr (.inl 1), 3), (3, 1, 0, 0, .inr (.inl 40), 6), (6, 3, 3, 128, .inl 0, 9), (9, 10, 1, 19, .inl 0, 12), (12, 0, 0, 1, .inl 0, 13), (13, 1, 0, 0, .inl (-2), 15), (15, 3, 2, 129, .inl 0, 18), (18, 4, 1, 0, .inl 0, 19), (19, 1, 0, 0, .inl 0, 20), (20, 7, 2, 4, .inl 0, 21), (21, 0, 2, 0, .inl 0, 22), (22, 0, 1, 0, .inl 0, 23), (23, 9, 3, 57, .inl 0, 26), (26, 1, 0, 0, .inl 0, 27), (27, 7, 3, 5, .inl 0, 28), (28, 0, 3, 0, .inl 0, 29), (29, 0, 0, 1, .inl 0, 30), (30, 2, 8, 1, .inl 0, 33)],
  [(33, 1, 0, 0, .inl 175, 36), (36, 5, 1, 0, .inl 0, 37), (37, 9, 3, 51, .inl 0, 40), (40, 0, 0, 1, .inl 0, 41), (41, 0, 3, 0, .inl 0, 42), (42, 3, 2, 216, .inl 0, 45), (45, 12, 3, 0, .inl 1, 48), (48, 6, 5, 28, .inl 0, 51), (51, 12, 2, 0, .inl 1, 54), (54, 6, 4, 21, .inl 0, 57), (57, 0, 0, 1, .inl 0, 58), (58, 3, 1, 217, .inl 0, 61), (61, 4, 1, 0, .inl 0, 62)]]
/-- ConstellationsByLotModel.seed -/
def ic_219 : List (List (Nat × IN)) := [[(0, 0, 0, 1, .inl 0, 1), (1, 2, 8, 1, .inl 0, 4), (4, 1, 0, 0, .inl 177, 7), (7, 5, 1, 0, .inl 0, 8), (8, 7, 2, 0, .inl 0, 9), (9, 0, 0, 1, .inl 0, 10), (10, 2, 8, 1, .inl 0, 13), (13, 1, 0, 0, .inl 177, 16), (16, 0, 1, 0, .inl 0, 17), (17, 14, 1, 0, .inl 0, 18), (18, 0, 2, 0, .inl 0, 19), (19, 4, 1, 0, .inl 0, 20)]]
/-- ConstellationsByLotModel.image -/
def ic_220 : List (List (Nat × IN)) := [[(0, 0, 0, 1, .inl 0, 1), (1, 2, 8, 1, .inl 0, 4), (4, 1, 0, 0, .inl 0, 5), (5, 0, 0, 1, .inl 0, 6), (6, 2, 8, 2, .inl 0, 9), (9, 1, 0, 0, .inl 0, 10), (10, 3, 4, 130, .inl 0, 13), (13, 0, 0, 1, .inl 0, 14), (14, 1, 0, 0, .inl 1, 15), (15, 11, 8, 4, .inl 0, 18), (18, 1, 0, 0, .inl 1, 19), (19, 4, 1, 0, .inl 0, 20)]]
/-- ConstellationsByLotModel.back -/
def ic_221 : List (List (Nat × IN)) := [[(0, 0, 0, 1, .inl 0, 1), (1, 2, 8, 4, .inl 0, 4), (4, 10, 1, 14, .inl 0, 7), (7, 0, 0, 1, .inl 0, 8), (8, 1, 0, 0, .inl (-5), 10), (10, 3, 2, 129, .inl 0, 13), (13, 4, 1, 0, .inl 0, 14), (14, 0, 0, 1, .inl 0, 15), (15, 2, 8, 2, .inl 0, 18), (18, 1, 0, 0, .inl 0, 19), (19, 0, 0, 1, .inl 0, 20), (20, 2, 8, 1, .inl 0, 23), (23, 1, 0, 0, .inl 0, 24), (24, 3, 4, 130, .inl 0, 27), (27, 1, 0, 0, .inl 0, 28), (28, 7, 1, 3, .inl 0, 29), (29, 0, 1, 0, .inl 0, 30), (30, 1, 0, 0, .inl 8, 32)],
  [(32, 9, 3, 77, .inl 0, 35), (35, 0, 0, 1, .inl 0, 36), (36, 2, 8, 18, .inl 0, 39), (39, 0, 1, 0, .inl 0, 40), (40, 0, 0, 1, .inl 0, 41), (41, 2, 8, 18, .inl 0, 44), (44, 0, 1, 0, .inl 0, 45), (45, 5, 1, 0, .inl 0, 46), (46, 1, 0, 0, .inl 10, 48), (48, 0, 0, 1, .inl 0, 49), (49, 2, 8, 1, .inl 0, 52), (52, 1, 0, 0, .inl 175, 55), (55, 5, 1, 0, .inl 0, 56), (56, 8, 0, 0, .inl 0, 57), (57, 9, 2, 64, .inl 0, 60), (60, 1, 0, 0, .inl (-1), 61), (61, 6, 0, 70, .inl 0, 64)],
  [(64, 0, 0, 1, .inl 0, 65), (65, 2, 8, 18, .inl 0, 68), (68, 0, 1, 0, .inl 0, 69), (69, 5, 1, 0, .inl 0, 70), (70, 14, 1, 0, .inl 0, 71), (71, 12, 1, 0, .inl 1, 74), (74, 6, 3, 29, .inl 0, 77), (77, 1, 0, 0, .inl 1, 78), (78, 4, 1, 0, .inl 0, 79)]]
/-- ConstellationsByLotModel.status -/
def ic_222 : List (List (Nat × IN)) := [[(0, 0, 1, 0, .inl 0, 1), (1, 15, 1, 0, .inl 0, 2), (2, 1, 0, 0, .inr (.inl 12), 5), (5, 1, 0, 0, .inr (.inl 16), 8), (8, 3, 3, 128, .inl 0, 11), (11, 10, 0, 24, .inl 0, 14), (14, 0, 0, 1, .inl 0, 15), (15, 2, 8, 0, .inl 0, 18), (18, 0, 1, 0, .inl 0, 19), (19, 1, 0, 0, .inl 10, 21), (21, 8, 1, 0, .inl 0, 22), (22, 5, 1, 0, .inl 0, 23), (23, 4, 1, 0, .inl 0, 24), (24, 1, 0, 0, .inl 0, 25), (25, 7, 2, 0, .inl 0, 26), (26, 0, 1, 0, .inl 0, 27), (27, 28, 0, 191, .inl 0, 76)],
  [],
  [(76, 0, 0, 1, .inl 0, 77), (77, 2, 8, 1, .inl 0, 80), (80, 1, 0, 0, .inl 174, 83), (83, 5, 1, 0, .inl 0, 84), (84, 4, 1, 0, .inl 0, 85), (85, 0, 0, 1, .inl 0, 86), (86, 2, 8, 1, .inl 0, 89), (89, 1, 0, 0, .inl 175, 92), (92, 5, 1, 0, .inl 0, 93), (93, 4, 1, 0, .inl 0, 94), (94, 0, 0, 1, .inl 0, 95), (95, 2, 8, 1, .inl 0, 98)],
  [(98, 1, 0, 0, .inl 176, 101), (101, 5, 1, 0, .inl 0, 102), (102, 4, 1, 0, .inl 0, 103), (103, 0, 0, 1, .inl 0, 104), (104, 3, 1, 217, .inl 0, 107), (107, 4, 1, 0, .inl 0, 108), (108, 1, 0, 0, .inl 0, 109), (109, 7, 3, 5, .inl 0, 110), (110, 0, 3, 0, .inl 0, 111), (111, 0, 0, 1, .inl 0, 112), (112, 2, 8, 1, .inl 0, 115), (115, 1, 0, 0, .inl 175, 118), (118, 5, 1, 0, .inl 0, 119), (119, 9, 3, 136, .inl 0, 122), (122, 0, 2, 0, .inl 0, 123), (123, 0, 0, 1, .inl 0, 124), (124, 0, 3, 0, .inl 0, 125), (125, 3, 2, 174, .inl 0, 128)],
  [(128, 8, 0, 0, .inl 0, 129), (129, 7, 2, 0, .inl 0, 130), (130, 12, 3, 0, .inl 1, 133), (133, 6, 5, 110, .inl 0, 136), (136, 0, 2, 0, .inl 0, 137), (137, 4, 1, 0, .inl 0, 138), (138, 0, 0, 1, .inl 0, 139), (139, 3, 1, 190, .inl 0, 142), (142, 4, 1, 0, .inl 0, 143), (143, 0, 0, 1, .inl 0, 144), (144, 2, 8, 6, .inl 0, 147), (147, 4, 1, 0, .inl 0, 148), (148, 0, 0, 1, .inl 0, 149), (149, 2, 8, 1, .inl 0, 152), (152, 1, 0, 0, .inl 177, 155), (155, 5, 1, 0, .inl 0, 156), (156, 4, 1, 0, .inl 0, 157), (157, 1, 0, 0, .inl 0, 158), (158, 7, 3, 5, .inl 0, 159), (159, 0, 3, 0, .inl 0, 160)],
  [(160, 1, 0, 0, .inl 8, 162), (162, 9, 3, 189, .inl 0, 165), (165, 0, 2, 0, .inl 0, 166), (166, 0, 0, 1, .inl 0, 167), (167, 2, 8, 18, .inl 0, 170), (170, 0, 3, 0, .inl 0, 171), (171, 5, 1, 0, .inl 0, 172), (172, 1, 0, 0, .inl (-1), 173), (173, 9, 1, 180, .inl 0, 176), (176, 1, 0, 0, .inl 0, 177), (177, 6, 0, 181, .inl 0, 180), (180, 1, 0, 0, .inl 1, 181), (181, 8, 0, 0, .inl 0, 182), (182, 7, 2, 0, .inl 0, 183), (183, 12, 3, 0, .inl 1, 186), (186, 6, 5, 159, .inl 0, 189), (189, 0, 2, 0, .inl 0, 190), (190, 4, 1, 0, .inl 0, 191), (191, 1, 0, 0, .inl (-1), 192)],
  [(192, 4, 1, 0, .inl 0, 193)]]
/-- java/lang/Integer.numberOfTrailingZeros -/
def ic_223 : List (List (Nat × IN)) := [[(0, 0, 0, 0, .inl 0, 1), (1, 1, 0, 0, .inl (-1), 2), (2, 8, 5, 0, .inl 0, 3), (3, 0, 0, 0, .inl 0, 4), (4, 1, 0, 0, .inl 1, 5), (5, 8, 1, 0, .inl 0, 6), (6, 8, 3, 0, .inl 0, 7), (7, 7, 0, 0, .inl 0, 8), (8, 0, 0, 0, .inl 0, 9), (9, 10, 4, 17, .inl 0, 12), (12, 0, 0, 0, .inl 0, 13), (13, 1, 0, 0, .inl 32, 15), (15, 8, 3, 0, .inl 0, 16), (16, 4, 1, 0, .inl 0, 17), (17, 1, 0, 0, .inl 1, 18), (18, 7, 1, 0, .inl 0, 19), (19, 0, 0, 0, .inl 0, 20), (20, 1, 0, 0, .inl 65536, 23), (23, 9, 5, 34, .inl 0, 26), (26, 12, 1, 0, .inl 16, 29), (29, 0, 0, 0, .inl 0, 30), (30, 1, 0, 0, .inl 16, 32)],
  [(32, 8, 8, 0, .inl 0, 33), (33, 7, 0, 0, .inl 0, 34), (34, 0, 0, 0, .inl 0, 35), (35, 1, 0, 0, .inl 256, 38), (38, 9, 5, 49, .inl 0, 41), (41, 12, 1, 0, .inl 8, 44), (44, 0, 0, 0, .inl 0, 45), (45, 1, 0, 0, .inl 8, 47), (47, 8, 8, 0, .inl 0, 48), (48, 7, 0, 0, .inl 0, 49), (49, 0, 0, 0, .inl 0, 50), (50, 1, 0, 0, .inl 16, 52), (52, 9, 5, 62, .inl 0, 55), (55, 12, 1, 0, .inl 4, 58), (58, 0, 0, 0, .inl 0, 59), (59, 1, 0, 0, .inl 4, 60), (60, 8, 8, 0, .inl 0, 61), (61, 7, 0, 0, .inl 0, 62), (62, 0, 0, 0, .inl 0, 63), (63, 1, 0, 0, .inl 4, 64)],
  [(64, 9, 5, 74, .inl 0, 67), (67, 12, 1, 0, .inl 2, 70), (70, 0, 0, 0, .inl 0, 71), (71, 1, 0, 0, .inl 2, 72), (72, 8, 8, 0, .inl 0, 73), (73, 7, 0, 0, .inl 0, 74), (74, 0, 1, 0, .inl 0, 75), (75, 0, 0, 0, .inl 0, 76), (76, 1, 0, 0, .inl 1, 77), (77, 8, 8, 0, .inl 0, 78), (78, 8, 0, 0, .inl 0, 79), (79, 4, 1, 0, .inl 0, 80)]]
/-- java/lang/Integer.bitCount -/
def ic_224 : List (List (Nat × IN)) := [[(0, 0, 0, 0, .inl 0, 1), (1, 0, 0, 0, .inl 0, 2), (2, 1, 0, 0, .inl 1, 3), (3, 8, 8, 0, .inl 0, 4), (4, 1, 0, 0, .inl 1431655765, 7), (7, 8, 3, 0, .inl 0, 8), (8, 8, 1, 0, .inl 0, 9), (9, 7, 0, 0, .inl 0, 10), (10, 0, 0, 0, .inl 0, 11), (11, 1, 0, 0, .inl 858993459, 14), (14, 8, 3, 0, .inl 0, 15), (15, 0, 0, 0, .inl 0, 16), (16, 1, 0, 0, .inl 2, 17), (17, 8, 8, 0, .inl 0, 18), (18, 1, 0, 0, .inl 858993459, 21), (21, 8, 3, 0, .inl 0, 22), (22, 8, 0, 0, .inl 0, 23), (23, 7, 0, 0, .inl 0, 24), (24, 0, 0, 0, .inl 0, 25), (25, 0, 0, 0, .inl 0, 26), (26, 1, 0, 0, .inl 4, 27), (27, 8, 8, 0, .inl 0, 28), (28, 8, 0, 0, .inl 0, 29), (29, 1, 0, 0, .inl 252645135, 32)],
  [(32, 8, 3, 0, .inl 0, 33), (33, 7, 0, 0, .inl 0, 34), (34, 0, 0, 0, .inl 0, 35), (35, 0, 0, 0, .inl 0, 36), (36, 1, 0, 0, .inl 8, 38), (38, 8, 8, 0, .inl 0, 39), (39, 8, 0, 0, .inl 0, 40), (40, 7, 0, 0, .inl 0, 41), (41, 0, 0, 0, .inl 0, 42), (42, 0, 0, 0, .inl 0, 43), (43, 1, 0, 0, .inl 16, 45), (45, 8, 8, 0, .inl 0, 46), (46, 8, 0, 0, .inl 0, 47), (47, 7, 0, 0, .inl 0, 48), (48, 0, 0, 0, .inl 0, 49), (49, 1, 0, 0, .inl 63, 51), (51, 8, 3, 0, .inl 0, 52), (52, 4, 1, 0, .inl 0, 53)]]
/-- java/util/Arrays.fill -/
def ic_225 : List (List (Nat × IN)) := [[(0, 1, 0, 0, .inl 0, 1), (1, 7, 3, 0, .inl 0, 2), (2, 0, 0, 1, .inl 0, 3), (3, 26, 0, 0, .inl 0, 4), (4, 7, 4, 6, .inl 0, 6), (6, 0, 3, 0, .inl 0, 7), (7, 0, 4, 0, .inl 0, 9), (9, 9, 3, 22, .inl 0, 12), (12, 0, 0, 1, .inl 0, 13), (13, 0, 3, 0, .inl 0, 14), (14, 0, 1, 2, .inl 0, 15), (15, 22, 0, 0, .inl 0, 16), (16, 12, 3, 0, .inl 1, 19), (19, 6, 6, 6, .inl 0, 22), (22, 4, 0, 0, .inl 0, 23)]]
/-- java/util/Arrays.fill -/
def ic_226 : List (List (Nat × IN)) := [[(0, 1, 0, 0, .inl 0, 1), (1, 7, 2, 0, .inl 0, 2), (2, 0, 0, 1, .inl 0, 3), (3, 26, 0, 0, .inl 0, 4), (4, 7, 3, 5, .inl 0, 5), (5, 0, 2, 0, .inl 0, 6), (6, 0, 3, 0, .inl 0, 7), (7, 9, 3, 20, .inl 0, 10), (10, 0, 0, 1, .inl 0, 11), (11, 0, 2, 0, .inl 0, 12), (12, 0, 1, 0, .inl 0, 13), (13, 14, 1, 0, .inl 0, 14), (14, 12, 2, 0, .inl 1, 17), (17, 6, 5, 5, .inl 0, 20), (20, 4, 0, 0, .inl 0, 21)]]
def ic_227_0 : List (Nat × IN) := [(16, 1, 0, 0, .inl 0, 17), (17, 7, 3, 5, .inl 0, 18), (18, 0, 3, 0, .inl 0, 19), (19, 0, 0, 1, .inl 0, 20), (20, 26, 0, 0, .inl 0, 21), (21, 1, 0, 0, .inl 6, 23), (23, 8, 1, 0, .inl 0, 24), (24, 9, 4, 1256, .inl 0, 27), (27, 0, 0, 1, .inl 0, 28), (28, 0, 3, 0, .inl 0, 29), (29, 5, 1, 0, .inl 0, 30), (30, 1, 0, 0, .inl 63, 32)]
def ic_227_1 : List (Nat × IN) := [(32, 8, 3, 0, .inl 0, 33), (33, 28, 0, 1250, .inl 0, 188)]
def ic_227_2 : List (Nat × IN) := []
def ic_227_3 : List (Nat × IN) := []
def ic_227_4 : List (Nat × IN) := []
def ic_227_5 : List (Nat × IN) := [(188, 0, 1, 1, .inl 0, 189), (189, 0, 0, 1, .inl 0, 190), (190, 0, 3, 0, .inl 0, 191), (191, 1, 0, 0, .inl 1, 192)]
def ic_227_6 : List (Nat × IN) := [(192, 8, 0, 0, .inl 0, 193), (193, 5, 1, 0, .inl 0, 194), (194, 0, 0, 1, .inl 0, 195), (195, 0, 3, 0, .inl 0, 196), (196, 1, 0, 0, .inl 2, 197), (197, 8, 0, 0, .inl 0, 198), (198, 5, 1, 0, .inl 0, 199), (199, 0, 0, 1, .inl 0, 200), (200, 0, 3, 0, .inl 0, 201), (201, 1, 0, 0, .inl 3, 202), (202, 8, 0, 0, .inl 0, 203), (203, 5, 1, 0, .inl 0, 204), (204, 3, 4, 74, .inl 0, 207), (207, 0, 2, 1, .inl 0, 208), (208, 0, 0, 1, .inl 0, 209), (209, 0, 3, 0, .inl 0, 210), (210, 1, 0, 0, .inl 1, 211), (211, 8, 0, 0, .inl 0, 212), (212, 5, 1, 0, .inl 0, 213), (213, 0, 0, 1, .inl 0, 214), (214, 0, 3, 0, .inl 0, 215), (215, 1, 0, 0, .inl 2, 216), (216, 8, 0, 0, .inl 0, 217), (217, 5, 1, 0, .inl 0, 218), (218, 0, 0, 1, .inl 0, 219), (219, 0, 3, 0, .inl 0, 220), (220, 1, 0, 0, .inl 3, 221), (221, 8, 0, 0, .inl 0, 222), (222, 5, 1, 0, .inl 0, 223), (223, 3, 4, 203, .inl 0, 226)]
def ic_227_7 : List (Nat × IN) := [(226, 9, 0, 1250, .inl 0, 229), (229, 1, 0, 0, .inl 0, 230), (230, 4, 3, 0, .inl 0, 231), (231, 0, 1, 1, .inl 0, 232), (232, 0, 0, 1, .inl 0, 233), (233, 0, 3, 0, .inl 0, 234), (234, 1, 0, 0, .inl 1, 235), (235, 8, 0, 0, .inl 0, 236), (236, 5, 1, 0, .inl 0, 237), (237, 0, 0, 1, .inl 0, 238), (238, 0, 3, 0, .inl 0, 239), (239, 1, 0, 0, .inl 2, 240), (240, 8, 0, 0, .inl 0, 241), (241, 5, 1, 0, .inl 0, 242), (242, 0, 0, 1, .inl 0, 243), (243, 0, 3, 0, .inl 0, 244), (244, 1, 0, 0, .inl 3, 245), (245, 8, 0, 0, .inl 0, 246), (246, 5, 1, 0, .inl 0, 247), (247, 15, 1, 0, .inl 0, 248), (248, 1, 0, 0, .inl 32, 250), (250, 27, 0, 0, .inl 0, 251), (251, 0, 0, 1, .inl 0, 252), (252, 0, 3, 0, .inl 0, 253), (253, 1, 0, 0, .inl 4, 254), (254, 8, 0, 0, .inl 0, 255), (255, 5, 1, 0, .inl 0, 256)]
def ic_227_8 : List (Nat × IN) := [(256, 15, 1, 0, .inl 0, 257), (257, 1, 0, 0, .inr (.inl 4294967295), 260), (260, 17, 2, 0, .inl 0, 261), (261, 17, 3, 0, .inl 0, 262), (262, 3, 4, 75, .inl 0, 265), (265, 0, 2, 1, .inl 0, 266), (266, 0, 0, 1, .inl 0, 267), (267, 0, 3, 0, .inl 0, 268), (268, 1, 0, 0, .inl 1, 269), (269, 8, 0, 0, .inl 0, 270), (270, 5, 1, 0, .inl 0, 271), (271, 0, 0, 1, .inl 0, 272), (272, 0, 3, 0, .inl 0, 273), (273, 1, 0, 0, .inl 2, 274), (274, 8, 0, 0, .inl 0, 275), (275, 5, 1, 0, .inl 0, 276), (276, 0, 0, 1, .inl 0, 277), (277, 0, 3, 0, .inl 0, 278), (278, 1, 0, 0, .inl 3, 279), (279, 8, 0, 0, .inl 0, 280), (280, 5, 1, 0, .inl 0, 281), (281, 15, 1, 0, .inl 0, 282), (282, 1, 0, 0, .inl 32, 284), (284, 27, 0, 0, .inl 0, 285), (285, 0, 0, 1, .inl 0, 286), (286, 0, 3, 0, .inl 0, 287), (287, 1, 0, 0, .inl 4, 288)]
def ic_227_9 : List (Nat × IN) := [(288, 8, 0, 0, .inl 0, 289), (289, 5, 1, 0, .inl 0, 290), (290, 15, 1, 0, .inl 0, 291), (291, 1, 0, 0, .inr (.inl 4294967295), 294), (294, 17, 2, 0, .inl 0, 295), (295, 17, 3, 0, .inl 0, 296), (296, 3, 4, 205, .inl 0, 299), (299, 9, 0, 1250, .inl 0, 302), (302, 1, 0, 0, .inl 0, 303), (303, 4, 3, 0, .inl 0, 304), (304, 0, 1, 1, .inl 0, 305), (305, 0, 0, 1, .inl 0, 306), (306, 0, 3, 0, .inl 0, 307), (307, 1, 0, 0, .inl 1, 308), (308, 8, 0, 0, .inl 0, 309), (309, 5, 1, 0, .inl 0, 310), (310, 0, 0, 1, .inl 0, 311), (311, 0, 3, 0, .inl 0, 312), (312, 1, 0, 0, .inl 2, 313), (313, 8, 0, 0, .inl 0, 314), (314, 5, 1, 0, .inl 0, 315), (315, 0, 0, 1, .inl 0, 316), (316, 0, 3, 0, .inl 0, 317), (317, 1, 0, 0, .inl 3, 318), (318, 8, 0, 0, .inl 0, 319), (319, 5, 1, 0, .inl 0, 320)]
def ic_227_10 : List (Nat × IN) := [(320, 0, 0, 1, .inl 0, 321), (321, 0, 3, 0, .inl 0, 322), (322, 1, 0, 0, .inl 4, 323), (323, 8, 0, 0, .inl 0, 324), (324, 5, 1, 0, .inl 0, 325), (325, 0, 0, 1, .inl 0, 326), (326, 0, 3, 0, .inl 0, 327), (327, 1, 0, 0, .inl 5, 328), (328, 8, 0, 0, .inl 0, 329), (329, 5, 1, 0, .inl 0, 330), (330, 3, 6, 76, .inl 0, 333), (333, 0, 2, 1, .inl 0, 334), (334, 0, 0, 1, .inl 0, 335), (335, 0, 3, 0, .inl 0, 336), (336, 1, 0, 0, .inl 1, 337), (337, 8, 0, 0, .inl 0, 338), (338, 5, 1, 0, .inl 0, 339), (339, 0, 0, 1, .inl 0, 340), (340, 0, 3, 0, .inl 0, 341), (341, 1, 0, 0, .inl 2, 342), (342, 8, 0, 0, .inl 0, 343), (343, 5, 1, 0, .inl 0, 344), (344, 0, 0, 1, .inl 0, 345), (345, 0, 3, 0, .inl 0, 346), (346, 1, 0, 0, .inl 3, 347), (347, 8, 0, 0, .inl 0, 348), (348, 5, 1, 0, .inl 0, 349), (349, 0, 0, 1, .inl 0, 350), (350, 0, 3, 0, .inl 0, 351), (351, 1, 0, 0, .inl 4, 352)]
def ic_227_11 : List (Nat × IN) := [(352, 8, 0, 0, .inl 0, 353), (353, 5, 1, 0, .inl 0, 354), (354, 0, 0, 1, .inl 0, 355), (355, 0, 3, 0, .inl 0, 356), (356, 1, 0, 0, .inl 5, 357), (357, 8, 0, 0, .inl 0, 358), (358, 5, 1, 0, .inl 0, 359), (359, 3, 6, 206, .inl 0, 362), (362, 9, 0, 1250, .inl 0, 365), (365, 1, 0, 0, .inl 0, 366), (366, 4, 3, 0, .inl 0, 367), (367, 0, 1, 1, .inl 0, 368), (368, 0, 0, 1, .inl 0, 369), (369, 0, 3, 0, .inl 0, 370), (370, 1, 0, 0, .inl 1, 371), (371, 8, 0, 0, .inl 0, 372), (372, 5, 1, 0, .inl 0, 373), (373, 0, 0, 1, .inl 0, 374), (374, 0, 3, 0, .inl 0, 375), (375, 1, 0, 0, .inl 2, 376), (376, 8, 0, 0, .inl 0, 377), (377, 5, 1, 0, .inl 0, 378), (378, 3, 3, 77, .inl 0, 381), (381, 0, 2, 1, .inl 0, 382), (382, 0, 0, 1, .inl 0, 383), (383, 0, 3, 0, .inl 0, 384)]
def ic_227_12 : List (Nat × IN) := [(384, 1, 0, 0, .inl 1, 385), (385, 8, 0, 0, .inl 0, 386), (386, 5, 1, 0, .inl 0, 387), (387, 0, 0, 1, .inl 0, 388), (388, 0, 3, 0, .inl 0, 389), (389, 1, 0, 0, .inl 2, 390), (390, 8, 0, 0, .inl 0, 391), (391, 5, 1, 0, .inl 0, 392), (392, 3, 3, 207, .inl 0, 395), (395, 18, 0, 0, .inl 0, 396), (396, 10, 0, 1250, .inl 0, 399), (399, 1, 0, 0, .inl 0, 400), (400, 4, 3, 0, .inl 0, 401), (401, 0, 1, 1, .inl 0, 402), (402, 0, 0, 1, .inl 0, 403), (403, 0, 3, 0, .inl 0, 404), (404, 1, 0, 0, .inl 1, 405), (405, 8, 0, 0, .inl 0, 406), (406, 5, 1, 0, .inl 0, 407), (407, 3, 2, 78, .inl 0, 410), (410, 0, 2, 1, .inl 0, 411), (411, 0, 0, 1, .inl 0, 412), (412, 0, 3, 0, .inl 0, 413), (413, 1, 0, 0, .inl 1, 414), (414, 8, 0, 0, .inl 0, 415), (415, 5, 1, 0, .inl 0, 416)]
def ic_227_13 : List (Nat × IN) := [(416, 3, 2, 208, .inl 0, 419), (419, 9, 0, 1250, .inl 0, 422), (422, 1, 0, 0, .inl 0, 423), (423, 4, 3, 0, .inl 0, 424), (424, 0, 1, 1, .inl 0, 425), (425, 0, 0, 1, .inl 0, 426), (426, 0, 3, 0, .inl 0, 427), (427, 1, 0, 0, .inl 1, 428), (428, 8, 0, 0, .inl 0, 429), (429, 5, 1, 0, .inl 0, 430), (430, 0, 0, 1, .inl 0, 431), (431, 0, 3, 0, .inl 0, 432), (432, 1, 0, 0, .inl 2, 433), (433, 8, 0, 0, .inl 0, 434), (434, 5, 1, 0, .inl 0, 435), (435, 3, 3, 79, .inl 0, 438), (438, 0, 2, 1, .inl 0, 439), (439, 0, 0, 1, .inl 0, 440), (440, 0, 3, 0, .inl 0, 441), (441, 1, 0, 0, .inl 1, 442), (442, 8, 0, 0, .inl 0, 443), (443, 5, 1, 0, .inl 0, 444), (444, 0, 0, 1, .inl 0, 445), (445, 0, 3, 0, .inl 0, 446), (446, 1, 0, 0, .inl 2, 447), (447, 8, 0, 0, .inl 0, 448)]
def ic_227_14 : List (Nat × IN) := [(448, 5, 1, 0, .inl 0, 449), (449, 3, 3, 209, .inl 0, 452), (452, 9, 0, 1250, .inl 0, 455), (455, 1, 0, 0, .inl 0, 456), (456, 4, 3, 0, .inl 0, 457), (457, 0, 1, 1, .inl 0, 458), (458, 0, 0, 1, .inl 0, 459), (459, 0, 3, 0, .inl 0, 460), (460, 1, 0, 0, .inl 1, 461), (461, 8, 0, 0, .inl 0, 462), (462, 5, 1, 0, .inl 0, 463), (463, 0, 0, 1, .inl 0, 464), (464, 0, 3, 0, .inl 0, 465), (465, 1, 0, 0, .inl 2, 466), (466, 8, 0, 0, .inl 0, 467), (467, 5, 1, 0, .inl 0, 468), (468, 3, 3, 80, .inl 0, 471), (471, 0, 2, 1, .inl 0, 472), (472, 0, 0, 1, .inl 0, 473), (473, 0, 3, 0, .inl 0, 474), (474, 1, 0, 0, .inl 1, 475), (475, 8, 0, 0, .inl 0, 476), (476, 5, 1, 0, .inl 0, 477), (477, 0, 0, 1, .inl 0, 478), (478, 0, 3, 0, .inl 0, 479), (479, 1, 0, 0, .inl 2, 480)]
def ic_227_15 : List (Nat × IN) := [(480, 8, 0, 0, .inl 0, 481), (481, 5, 1, 0, .inl 0, 482), (482, 3, 3, 210, .inl 0, 485), (485, 9, 0, 1250, .inl 0, 488), (488, 1, 0, 0, .inl 0, 489), (489, 4, 3, 0, .inl 0, 490), (490, 0, 1, 1, .inl 0, 491), (491, 0, 0, 1, .inl 0, 492), (492, 0, 3, 0, .inl 0, 493), (493, 1, 0, 0, .inl 1, 494), (494, 8, 0, 0, .inl 0, 495), (495, 5, 1, 0, .inl 0, 496), (496, 0, 0, 1, .inl 0, 497), (497, 0, 3, 0, .inl 0, 498), (498, 1, 0, 0, .inl 2, 499), (499, 8, 0, 0, .inl 0, 500), (500, 5, 1, 0, .inl 0, 501), (501, 3, 3, 81, .inl 0, 504), (504, 0, 2, 1, .inl 0, 505), (505, 0, 0, 1, .inl 0, 506), (506, 0, 3, 0, .inl 0, 507), (507, 1, 0, 0, .inl 1, 508), (508, 8, 0, 0, .inl 0, 509), (509, 5, 1, 0, .inl 0, 510), (510, 0, 0, 1, .inl 0, 511), (511, 0, 3, 0, .inl 0, 512)]
def ic_227_16 : List (Nat × IN) := [(512, 1, 0, 0, .inl 2, 513), (513, 8, 0, 0, .inl 0, 514), (514, 5, 1, 0, .inl 0, 515), (515, 3, 3, 147, .inl 0, 518), (518, 9, 0, 1250, .inl 0, 521), (521, 1, 0, 0, .inl 0, 522), (522, 4, 3, 0, .inl 0, 523), (523, 0, 1, 1, .inl 0, 524), (524, 0, 0, 1, .inl 0, 525), (525, 0, 3, 0, .inl 0, 526), (526, 1, 0, 0, .inl 1, 527), (527, 8, 0, 0, .inl 0, 528), (528, 5, 1, 0, .inl 0, 529), (529, 0, 0, 1, .inl 0, 530), (530, 0, 3, 0, .inl 0, 531), (531, 1, 0, 0, .inl 2, 532), (532, 8, 0, 0, .inl 0, 533), (533, 5, 1, 0, .inl 0, 534), (534, 3, 3, 82, .inl 0, 537), (537, 0, 2, 1, .inl 0, 538), (538, 0, 0, 1, .inl 0, 539), (539, 0, 3, 0, .inl 0, 540), (540, 1, 0, 0, .inl 1, 541), (541, 8, 0, 0, .inl 0, 542), (542, 5, 1, 0, .inl 0, 543), (543, 0, 0, 1, .inl 0, 544)]
def ic_227_17 : List (Nat × IN) := [(544, 0, 3, 0, .inl 0, 545), (545, 1, 0, 0, .inl 2, 546), (546, 8, 0, 0, .inl 0, 547), (547, 5, 1, 0, .inl 0, 548), (548, 3, 3, 148, .inl 0, 551), (551, 9, 0, 1250, .inl 0, 554), (554, 1, 0, 0, .inl 0, 555), (555, 4, 3, 0, .inl 0, 556), (556, 0, 1, 1, .inl 0, 557), (557, 0, 0, 1, .inl 0, 558), (558, 0, 3, 0, .inl 0, 559), (559, 1, 0, 0, .inl 1, 560), (560, 8, 0, 0, .inl 0, 561), (561, 5, 1, 0, .inl 0, 562), (562, 0, 0, 1, .inl 0, 563), (563, 0, 3, 0, .inl 0, 564), (564, 1, 0, 0, .inl 2, 565), (565, 8, 0, 0, .inl 0, 566), (566, 5, 1, 0, .inl 0, 567), (567, 0, 0, 1, .inl 0, 568), (568, 0, 3, 0, .inl 0, 569), (569, 1, 0, 0, .inl 3, 570), (570, 8, 0, 0, .inl 0, 571), (571, 5, 1, 0, .inl 0, 572), (572, 10, 0, 579, .inl 0, 575), (575, 1, 0, 0, .inl 1, 576)]
def ic_227_18 : List (Nat × IN) := [(576, 6, 0, 580, .inl 0, 579), (579, 1, 0, 0, .inl 0, 580), (580, 3, 4, 83, .inl 0, 583), (583, 0, 2, 1, .inl 0, 584), (584, 0, 0, 1, .inl 0, 585), (585, 0, 3, 0, .inl 0, 586), (586, 1, 0, 0, .inl 1, 587), (587, 8, 0, 0, .inl 0, 588), (588, 5, 1, 0, .inl 0, 589), (589, 0, 0, 1, .inl 0, 590), (590, 0, 3, 0, .inl 0, 591), (591, 1, 0, 0, .inl 2, 592), (592, 8, 0, 0, .inl 0, 593), (593, 5, 1, 0, .inl 0, 594), (594, 0, 0, 1, .inl 0, 595), (595, 0, 3, 0, .inl 0, 596), (596, 1, 0, 0, .inl 3, 597), (597, 8, 0, 0, .inl 0, 598), (598, 5, 1, 0, .inl 0, 599), (599, 10, 0, 606, .inl 0, 602), (602, 1, 0, 0, .inl 1, 603), (603, 6, 0, 607, .inl 0, 606), (606, 1, 0, 0, .inl 0, 607), (607, 3, 4, 149, .inl 0, 610)]
def ic_227_19 : List (Nat × IN) := [(610, 9, 0, 1250, .inl 0, 613), (613, 1, 0, 0, .inl 0, 614), (614, 4, 3, 0, .inl 0, 615), (615, 0, 1, 1, .inl 0, 616), (616, 0, 0, 1, .inl 0, 617), (617, 0, 3, 0, .inl 0, 618), (618, 1, 0, 0, .inl 1, 619), (619, 8, 0, 0, .inl 0, 620), (620, 5, 1, 0, .inl 0, 621), (621, 0, 0, 1, .inl 0, 622), (622, 0, 3, 0, .inl 0, 623), (623, 1, 0, 0, .inl 2, 624), (624, 8, 0, 0, .inl 0, 625), (625, 5, 1, 0, .inl 0, 626), (626, 0, 0, 1, .inl 0, 627), (627, 0, 3, 0, .inl 0, 628), (628, 1, 0, 0, .inl 3, 629), (629, 8, 0, 0, .inl 0, 630), (630, 5, 1, 0, .inl 0, 631), (631, 3, 4, 84, .inl 0, 634), (634, 0, 2, 1, .inl 0, 635), (635, 0, 0, 1, .inl 0, 636), (636, 0, 3, 0, .inl 0, 637), (637, 1, 0, 0, .inl 1, 638), (638, 8, 0, 0, .inl 0, 639), (639, 5, 1, 0, .inl 0, 640)]
def ic_227_20 : List (Nat × IN) := [(640, 0, 0, 1, .inl 0, 641), (641, 0, 3, 0, .inl 0, 642), (642, 1, 0, 0, .inl 2, 643), (643, 8, 0, 0, .inl 0, 644), (644, 5, 1, 0, .inl 0, 645), (645, 0, 0, 1, .inl 0, 646), (646, 0, 3, 0, .inl 0, 647), (647, 1, 0, 0, .inl 3, 648), (648, 8, 0, 0, .inl 0, 649), (649, 5, 1, 0, .inl 0, 650), (650, 3, 4, 151, .inl 0, 653), (653, 9, 0, 1250, .inl 0, 656), (656, 1, 0, 0, .inl 0, 657), (657, 4, 3, 0, .inl 0, 658), (658, 0, 1, 1, .inl 0, 659), (659, 0, 0, 1, .inl 0, 660), (660, 0, 3, 0, .inl 0, 661), (661, 1, 0, 0, .inl 1, 662), (662, 8, 0, 0, .inl 0, 663), (663, 5, 1, 0, .inl 0, 664), (664, 0, 0, 1, .inl 0, 665), (665, 0, 3, 0, .inl 0, 666), (666, 1, 0, 0, .inl 2, 667), (667, 8, 0, 0, .inl 0, 668), (668, 5, 1, 0, .inl 0, 669), (669, 0, 0, 1, .inl 0, 670), (670, 0, 3, 0, .inl 0, 671), (671, 1, 0, 0, .inl 3, 672)]
def ic_227_21 : List (Nat × IN) := [(672, 8, 0, 0, .inl 0, 673), (673, 5, 1, 0, .inl 0, 674), (674, 3, 4, 85, .inl 0, 677), (677, 0, 2, 1, .inl 0, 678), (678, 0, 0, 1, .inl 0, 679), (679, 0, 3, 0, .inl 0, 680), (680, 1, 0, 0, .inl 1, 681), (681, 8, 0, 0, .inl 0, 682), (682, 5, 1, 0, .inl 0, 683), (683, 0, 0, 1, .inl 0, 684), (684, 0, 3, 0, .inl 0, 685), (685, 1, 0, 0, .inl 2, 686), (686, 8, 0, 0, .inl 0, 687), (687, 5, 1, 0, .inl 0, 688), (688, 0, 0, 1, .inl 0, 689), (689, 0, 3, 0, .inl 0, 690), (690, 1, 0, 0, .inl 3, 691), (691, 8, 0, 0, .inl 0, 692), (692, 5, 1, 0, .inl 0, 693), (693, 3, 4, 152, .inl 0, 696), (696, 9, 0, 1250, .inl 0, 699), (699, 1, 0, 0, .inl 0, 700), (700, 4, 3, 0, .inl 0, 701), (701, 0, 1, 1, .inl 0, 702), (702, 0, 0, 1, .inl 0, 703), (703, 0, 3, 0, .inl 0, 704)]
def ic_227_22 : List (Nat × IN) := [(704, 1, 0, 0, .inl 1, 705), (705, 8, 0, 0, .inl 0, 706), (706, 5, 1, 0, .inl 0, 707), (707, 3, 2, 86, .inl 0, 710), (710, 0, 2, 1, .inl 0, 711), (711, 0, 0, 1, .inl 0, 712), (712, 0, 3, 0, .inl 0, 713), (713, 1, 0, 0, .inl 1, 714), (714, 8, 0, 0, .inl 0, 715), (715, 5, 1, 0, .inl 0, 716), (716, 3, 2, 153, .inl 0, 719), (719, 9, 0, 1250, .inl 0, 722), (722, 1, 0, 0, .inl 0, 723), (723, 4, 3, 0, .inl 0, 724), (724, 0, 1, 1, .inl 0, 725), (725, 0, 0, 1, .inl 0, 726), (726, 0, 3, 0, .inl 0, 727), (727, 1, 0, 0, .inl 1, 728), (728, 8, 0, 0, .inl 0, 729), (729, 5, 1, 0, .inl 0, 730), (730, 3, 2, 87, .inl 0, 733), (733, 0, 2, 1, .inl 0, 734), (734, 0, 0, 1, .inl 0, 735), (735, 0, 3, 0, .inl 0, 736)]
def ic_227_23 : List (Nat × IN) := [(736, 1, 0, 0, .inl 1, 737), (737, 8, 0, 0, .inl 0, 738), (738, 5, 1, 0, .inl 0, 739), (739, 3, 2, 154, .inl 0, 742), (742, 9, 0, 1250, .inl 0, 745), (745, 1, 0, 0, .inl 0, 746), (746, 4, 3, 0, .inl 0, 747), (747, 0, 1, 1, .inl 0, 748), (748, 3, 1, 88, .inl 0, 751), (751, 0, 2, 1, .inl 0, 752), (752, 3, 1, 155, .inl 0, 755), (755, 9, 0, 1250, .inl 0, 758), (758, 1, 0, 0, .inl 0, 759), (759, 4, 3, 0, .inl 0, 760), (760, 0, 1, 1, .inl 0, 761), (761, 3, 1, 89, .inl 0, 764), (764, 0, 2, 1, .inl 0, 765), (765, 3, 1, 162, .inl 0, 768)]
def ic_227_24 : List (Nat × IN) := [(768, 9, 0, 1250, .inl 0, 771), (771, 1, 0, 0, .inl 0, 772), (772, 4, 3, 0, .inl 0, 773), (773, 0, 1, 1, .inl 0, 774), (774, 0, 0, 1, .inl 0, 775), (775, 0, 3, 0, .inl 0, 776), (776, 1, 0, 0, .inl 1, 777), (777, 8, 0, 0, .inl 0, 778), (778, 5, 1, 0, .inl 0, 779), (779, 0, 0, 1, .inl 0, 780), (780, 0, 3, 0, .inl 0, 781), (781, 1, 0, 0, .inl 2, 782), (782, 8, 0, 0, .inl 0, 783), (783, 5, 1, 0, .inl 0, 784), (784, 3, 3, 90, .inl 0, 787), (787, 0, 2, 1, .inl 0, 788), (788, 0, 0, 1, .inl 0, 789), (789, 0, 3, 0, .inl 0, 790), (790, 1, 0, 0, .inl 1, 791), (791, 8, 0, 0, .inl 0, 792), (792, 5, 1, 0, .inl 0, 793), (793, 0, 0, 1, .inl 0, 794), (794, 0, 3, 0, .inl 0, 795), (795, 1, 0, 0, .inl 2, 796), (796, 8, 0, 0, .inl 0, 797), (797, 5, 1, 0, .inl 0, 798), (798, 3, 3, 177, .inl 0, 801)]
def ic_227_25 : List (Nat × IN) := [(801, 9, 0, 1250, .inl 0, 804), (804, 1, 0, 0, .inl 0, 805), (805, 4, 3, 0, .inl 0, 806), (806, 0, 1, 1, .inl 0, 807), (807, 0, 0, 1, .inl 0, 808), (808, 0, 3, 0, .inl 0, 809), (809, 1, 0, 0, .inl 1, 810), (810, 8, 0, 0, .inl 0, 811), (811, 5, 1, 0, .inl 0, 812), (812, 0, 0, 1, .inl 0, 813), (813, 0, 3, 0, .inl 0, 814), (814, 1, 0, 0, .inl 2, 815), (815, 8, 0, 0, .inl 0, 816), (816, 5, 1, 0, .inl 0, 817), (817, 3, 3, 91, .inl 0, 820), (820, 0, 2, 1, .inl 0, 821), (821, 0, 0, 1, .inl 0, 822), (822, 0, 3, 0, .inl 0, 823), (823, 1, 0, 0, .inl 1, 824), (824, 8, 0, 0, .inl 0, 825), (825, 5, 1, 0, .inl 0, 826), (826, 0, 0, 1, .inl 0, 827), (827, 0, 3, 0, .inl 0, 828), (828, 1, 0, 0, .inl 2, 829), (829, 8, 0, 0, .inl 0, 830), (830, 5, 1, 0, .inl 0, 831), (831, 3, 3, 178, .inl 0, 834)]
def ic_227_26 : List (Nat × IN) := [(834, 9, 0, 1250, .inl 0, 837), (837, 1, 0, 0, .inl 0, 838), (838, 4, 3, 0, .inl 0, 839), (839, 0, 1, 1, .inl 0, 840), (840, 3, 1, 92, .inl 0, 843), (843, 0, 2, 1, .inl 0, 844), (844, 3, 1, 179, .inl 0, 847), (847, 9, 0, 1250, .inl 0, 850), (850, 1, 0, 0, .inl 0, 851), (851, 4, 3, 0, .inl 0, 852), (852, 0, 1, 1, .inl 0, 853), (853, 0, 0, 1, .inl 0, 854), (854, 0, 3, 0, .inl 0, 855), (855, 1, 0, 0, .inl 1, 856), (856, 8, 0, 0, .inl 0, 857), (857, 5, 1, 0, .inl 0, 858), (858, 0, 0, 1, .inl 0, 859), (859, 0, 3, 0, .inl 0, 860), (860, 1, 0, 0, .inl 2, 861), (861, 8, 0, 0, .inl 0, 862), (862, 5, 1, 0, .inl 0, 863), (863, 3, 3, 93, .inl 0, 866)]
def ic_227_27 : List (Nat × IN) := [(866, 0, 2, 1, .inl 0, 867), (867, 0, 0, 1, .inl 0, 868), (868, 0, 3, 0, .inl 0, 869), (869, 1, 0, 0, .inl 1, 870), (870, 8, 0, 0, .inl 0, 871), (871, 5, 1, 0, .inl 0, 872), (872, 0, 0, 1, .inl 0, 873), (873, 0, 3, 0, .inl 0, 874), (874, 1, 0, 0, .inl 2, 875), (875, 8, 0, 0, .inl 0, 876), (876, 5, 1, 0, .inl 0, 877), (877, 3, 3, 180, .inl 0, 880), (880, 9, 0, 1250, .inl 0, 883), (883, 1, 0, 0, .inl 0, 884), (884, 4, 3, 0, .inl 0, 885), (885, 0, 1, 1, .inl 0, 886), (886, 0, 0, 1, .inl 0, 887), (887, 0, 3, 0, .inl 0, 888), (888, 1, 0, 0, .inl 1, 889), (889, 8, 0, 0, .inl 0, 890), (890, 5, 1, 0, .inl 0, 891), (891, 0, 0, 1, .inl 0, 892), (892, 0, 3, 0, .inl 0, 893), (893, 1, 0, 0, .inl 2, 894), (894, 8, 0, 0, .inl 0, 895), (895, 5, 1, 0, .inl 0, 896)]
def ic_227_28 : List (Nat × IN) := [(896, 3, 3, 94, .inl 0, 899), (899, 0, 2, 1, .inl 0, 900), (900, 0, 0, 1, .inl 0, 901), (901, 0, 3, 0, .inl 0, 902), (902, 1, 0, 0, .inl 1, 903), (903, 8, 0, 0, .inl 0, 904), (904, 5, 1, 0, .inl 0, 905), (905, 0, 0, 1, .inl 0, 906), (906, 0, 3, 0, .inl 0, 907), (907, 1, 0, 0, .inl 2, 908), (908, 8, 0, 0, .inl 0, 909), (909, 5, 1, 0, .inl 0, 910), (910, 3, 3, 183, .inl 0, 913), (913, 9, 0, 1250, .inl 0, 916), (916, 1, 0, 0, .inl 0, 917), (917, 4, 3, 0, .inl 0, 918), (918, 0, 1, 1, .inl 0, 919), (919, 0, 0, 1, .inl 0, 920), (920, 0, 3, 0, .inl 0, 921), (921, 1, 0, 0, .inl 1, 922), (922, 8, 0, 0, .inl 0, 923), (923, 5, 1, 0, .inl 0, 924), (924, 0, 0, 1, .inl 0, 925), (925, 0, 3, 0, .inl 0, 926), (926, 1, 0, 0, .inl 2, 927), (927, 8, 0, 0, .inl 0, 928)]
def ic_227_29 : List (Nat × IN) := [(928, 5, 1, 0, .inl 0, 929), (929, 3, 3, 95, .inl 0, 932), (932, 0, 2, 1, .inl 0, 933), (933, 0, 0, 1, .inl 0, 934), (934, 0, 3, 0, .inl 0, 935), (935, 1, 0, 0, .inl 1, 936), (936, 8, 0, 0, .inl 0, 937), (937, 5, 1, 0, .inl 0, 938), (938, 0, 0, 1, .inl 0, 939), (939, 0, 3, 0, .inl 0, 940), (940, 1, 0, 0, .inl 2, 941), (941, 8, 0, 0, .inl 0, 942), (942, 5, 1, 0, .inl 0, 943), (943, 3, 3, 187, .inl 0, 946), (946, 9, 0, 1250, .inl 0, 949), (949, 1, 0, 0, .inl 0, 950), (950, 4, 3, 0, .inl 0, 951), (951, 0, 1, 1, .inl 0, 952), (952, 0, 0, 1, .inl 0, 953), (953, 0, 3, 0, .inl 0, 954), (954, 1, 0, 0, .inl 1, 955), (955, 8, 0, 0, .inl 0, 956), (956, 5, 1, 0, .inl 0, 957), (957, 3, 2, 96, .inl 0, 960)]
def ic_227_30 : List (Nat × IN) := [(960, 0, 2, 1, .inl 0, 961), (961, 0, 0, 1, .inl 0, 962), (962, 0, 3, 0, .inl 0, 963), (963, 1, 0, 0, .inl 1, 964), (964, 8, 0, 0, .inl 0, 965), (965, 5, 1, 0, .inl 0, 966), (966, 3, 2, 192, .inl 0, 969), (969, 9, 0, 1250, .inl 0, 972), (972, 1, 0, 0, .inl 0, 973), (973, 4, 3, 0, .inl 0, 974), (974, 0, 1, 1, .inl 0, 975), (975, 3, 1, 97, .inl 0, 978), (978, 0, 2, 1, .inl 0, 979), (979, 3, 1, 196, .inl 0, 982), (982, 9, 0, 1250, .inl 0, 985), (985, 1, 0, 0, .inl 0, 986), (986, 4, 3, 0, .inl 0, 987), (987, 0, 1, 1, .inl 0, 988), (988, 0, 0, 1, .inl 0, 989), (989, 0, 3, 0, .inl 0, 990), (990, 1, 0, 0, .inl 1, 991), (991, 8, 0, 0, .inl 0, 992)]
def ic_227_31 : List (Nat × IN) := [(992, 5, 1, 0, .inl 0, 993), (993, 0, 0, 1, .inl 0, 994), (994, 0, 3, 0, .inl 0, 995), (995, 1, 0, 0, .inl 2, 996), (996, 8, 0, 0, .inl 0, 997), (997, 5, 1, 0, .inl 0, 998), (998, 3, 3, 98, .inl 0, 1001), (1001, 0, 2, 1, .inl 0, 1002), (1002, 0, 0, 1, .inl 0, 1003), (1003, 0, 3, 0, .inl 0, 1004), (1004, 1, 0, 0, .inl 1, 1005), (1005, 8, 0, 0, .inl 0, 1006), (1006, 5, 1, 0, .inl 0, 1007), (1007, 0, 0, 1, .inl 0, 1008), (1008, 0, 3, 0, .inl 0, 1009), (1009, 1, 0, 0, .inl 2, 1010), (1010, 8, 0, 0, .inl 0, 1011), (1011, 5, 1, 0, .inl 0, 1012), (1012, 3, 3, 197, .inl 0, 1015), (1015, 9, 0, 1250, .inl 0, 1018), (1018, 1, 0, 0, .inl 0, 1019), (1019, 4, 3, 0, .inl 0, 1020), (1020, 0, 1, 1, .inl 0, 1021), (1021, 0, 0, 1, .inl 0, 1022), (1022, 0, 3, 0, .inl 0, 1023), (1023, 1, 0, 0, .inl 1, 1024)]
def ic_227_32 : List (Nat × IN) := [(1024, 8, 0, 0, .inl 0, 1025), (1025, 5, 1, 0, .inl 0, 1026), (1026, 3, 2, 99, .inl 0, 1029), (1029, 0, 2, 1, .inl 0, 1030), (1030, 0, 0, 1, .inl 0, 1031), (1031, 0, 3, 0, .inl 0, 1032), (1032, 1, 0, 0, .inl 1, 1033), (1033, 8, 0, 0, .inl 0, 1034), (1034, 5, 1, 0, .inl 0, 1035), (1035, 3, 2, 200, .inl 0, 1038), (1038, 9, 0, 1250, .inl 0, 1041), (1041, 1, 0, 0, .inl 0, 1042), (1042, 4, 3, 0, .inl 0, 1043), (1043, 0, 1, 1, .inl 0, 1044), (1044, 0, 0, 1, .inl 0, 1045), (1045, 0, 3, 0, .inl 0, 1046), (1046, 1, 0, 0, .inl 1, 1047), (1047, 8, 0, 0, .inl 0, 1048), (1048, 5, 1, 0, .inl 0, 1049), (1049, 3, 2, 100, .inl 0, 1052), (1052, 0, 2, 1, .inl 0, 1053), (1053, 0, 0, 1, .inl 0, 1054), (1054, 0, 3, 0, .inl 0, 1055), (1055, 1, 0, 0, .inl 1, 1056)]
def ic_227_33 : List (Nat × IN) := [(1056, 8, 0, 0, .inl 0, 1057), (1057, 5, 1, 0, .inl 0, 1058), (1058, 3, 2, 201, .inl 0, 1061), (1061, 9, 0, 1250, .inl 0, 1064), (1064, 1, 0, 0, .inl 0, 1065), (1065, 4, 3, 0, .inl 0, 1066), (1066, 0, 1, 1, .inl 0, 1067), (1067, 0, 0, 1, .inl 0, 1068), (1068, 0, 3, 0, .inl 0, 1069), (1069, 1, 0, 0, .inl 1, 1070), (1070, 8, 0, 0, .inl 0, 1071), (1071, 5, 1, 0, .inl 0, 1072), (1072, 0, 0, 1, .inl 0, 1073), (1073, 0, 3, 0, .inl 0, 1074), (1074, 1, 0, 0, .inl 2, 1075), (1075, 8, 0, 0, .inl 0, 1076), (1076, 5, 1, 0, .inl 0, 1077), (1077, 0, 0, 1, .inl 0, 1078), (1078, 0, 3, 0, .inl 0, 1079), (1079, 1, 0, 0, .inl 3, 1080), (1080, 8, 0, 0, .inl 0, 1081), (1081, 5, 1, 0, .inl 0, 1082), (1082, 3, 4, 101, .inl 0, 1085), (1085, 0, 2, 1, .inl 0, 1086), (1086, 0, 0, 1, .inl 0, 1087), (1087, 0, 3, 0, .inl 0, 1088)]
def ic_227_34 : List (Nat × IN) := [(1088, 1, 0, 0, .inl 1, 1089), (1089, 8, 0, 0, .inl 0, 1090), (1090, 5, 1, 0, .inl 0, 1091), (1091, 0, 0, 1, .inl 0, 1092), (1092, 0, 3, 0, .inl 0, 1093), (1093, 1, 0, 0, .inl 2, 1094), (1094, 8, 0, 0, .inl 0, 1095), (1095, 5, 1, 0, .inl 0, 1096), (1096, 0, 0, 1, .inl 0, 1097), (1097, 0, 3, 0, .inl 0, 1098), (1098, 1, 0, 0, .inl 3, 1099), (1099, 8, 0, 0, .inl 0, 1100), (1100, 5, 1, 0, .inl 0, 1101), (1101, 3, 4, 212, .inl 0, 1104), (1104, 9, 0, 1250, .inl 0, 1107), (1107, 1, 0, 0, .inl 0, 1108), (1108, 4, 3, 0, .inl 0, 1109), (1109, 0, 1, 1, .inl 0, 1110), (1110, 0, 0, 1, .inl 0, 1111), (1111, 0, 3, 0, .inl 0, 1112), (1112, 1, 0, 0, .inl 1, 1113), (1113, 8, 0, 0, .inl 0, 1114), (1114, 5, 1, 0, .inl 0, 1115), (1115, 0, 0, 1, .inl 0, 1116), (1116, 0, 3, 0, .inl 0, 1117), (1117, 1, 0, 0, .inl 2, 1118), (1118, 8, 0, 0, .inl 0, 1119), (1119, 5, 1, 0, .inl 0, 1120)]
def ic_227_35 : List (Nat × IN) := [(1120, 3, 3, 102, .inl 0, 1123), (1123, 0, 2, 1, .inl 0, 1124), (1124, 0, 0, 1, .inl 0, 1125), (1125, 0, 3, 0, .inl 0, 1126), (1126, 1, 0, 0, .inl 1, 1127), (1127, 8, 0, 0, .inl 0, 1128), (1128, 5, 1, 0, .inl 0, 1129), (1129, 0, 0, 1, .inl 0, 1130), (1130, 0, 3, 0, .inl 0, 1131), (1131, 1, 0, 0, .inl 2, 1132), (1132, 8, 0, 0, .inl 0, 1133), (1133, 5, 1, 0, .inl 0, 1134), (1134, 3, 3, 213, .inl 0, 1137), (1137, 9, 0, 1250, .inl 0, 1140), (1140, 1, 0, 0, .inl 0, 1141), (1141, 4, 3, 0, .inl 0, 1142), (1142, 0, 1, 1, .inl 0, 1143), (1143, 0, 0, 1, .inl 0, 1144), (1144, 0, 3, 0, .inl 0, 1145), (1145, 1, 0, 0, .inl 1, 1146), (1146, 8, 0, 0, .inl 0, 1147), (1147, 5, 1, 0, .inl 0, 1148), (1148, 3, 2, 103, .inl 0, 1151), (1151, 0, 2, 1, .inl 0, 1152)]
def ic_227_36 : List (Nat × IN) := [(1152, 0, 0, 1, .inl 0, 1153), (1153, 0, 3, 0, .inl 0, 1154), (1154, 1, 0, 0, .inl 1, 1155), (1155, 8, 0, 0, .inl 0, 1156), (1156, 5, 1, 0, .inl 0, 1157), (1157, 3, 2, 218, .inl 0, 1160), (1160, 9, 0, 1250, .inl 0, 1163), (1163, 1, 0, 0, .inl 0, 1164), (1164, 4, 3, 0, .inl 0, 1165), (1165, 0, 1, 1, .inl 0, 1166), (1166, 3, 1, 104, .inl 0, 1169), (1169, 0, 2, 1, .inl 0, 1170), (1170, 3, 1, 193, .inl 0, 1173), (1173, 9, 0, 1250, .inl 0, 1176), (1176, 1, 0, 0, .inl 0, 1177), (1177, 4, 3, 0, .inl 0, 1178), (1178, 0, 1, 1, .inl 0, 1179), (1179, 0, 0, 1, .inl 0, 1180), (1180, 0, 3, 0, .inl 0, 1181), (1181, 1, 0, 0, .inl 1, 1182), (1182, 8, 0, 0, .inl 0, 1183), (1183, 5, 1, 0, .inl 0, 1184)]
def ic_227_37 : List (Nat × IN) := [(1184, 3, 2, 105, .inl 0, 1187), (1187, 0, 2, 1, .inl 0, 1188), (1188, 0, 0, 1, .inl 0, 1189), (1189, 0, 3, 0, .inl 0, 1190), (1190, 1, 0, 0, .inl 1, 1191), (1191, 8, 0, 0, .inl 0, 1192), (1192, 5, 1, 0, .inl 0, 1193), (1193, 3, 2, 219, .inl 0, 1196), (1196, 9, 0, 1250, .inl 0, 1199), (1199, 1, 0, 0, .inl 0, 1200), (1200, 4, 3, 0, .inl 0, 1201), (1201, 0, 1, 1, .inl 0, 1202), (1202, 3, 1, 106, .inl 0, 1205), (1205, 0, 2, 1, .inl 0, 1206), (1206, 3, 1, 220, .inl 0, 1209), (1209, 9, 0, 1250, .inl 0, 1212), (1212, 1, 0, 0, .inl 0, 1213), (1213, 4, 3, 0, .inl 0, 1214), (1214, 0, 1, 1, .inl 0, 1215), (1215, 3, 1, 107, .inl 0, 1218)]
def ic_227_38 : List (Nat × IN) := [(1218, 0, 2, 1, .inl 0, 1219), (1219, 3, 1, 221, .inl 0, 1222), (1222, 9, 0, 1250, .inl 0, 1225), (1225, 1, 0, 0, .inl 0, 1226), (1226, 4, 3, 0, .inl 0, 1227), (1227, 0, 1, 1, .inl 0, 1228), (1228, 0, 0, 1, .inl 0, 1229), (1229, 0, 3, 0, .inl 0, 1230), (1230, 1, 0, 0, .inl 1, 1231), (1231, 8, 0, 0, .inl 0, 1232), (1232, 5, 1, 0, .inl 0, 1233), (1233, 3, 2, 108, .inl 0, 1236), (1236, 0, 2, 1, .inl 0, 1237), (1237, 0, 0, 1, .inl 0, 1238), (1238, 0, 3, 0, .inl 0, 1239), (1239, 1, 0, 0, .inl 1, 1240), (1240, 8, 0, 0, .inl 0, 1241), (1241, 5, 1, 0, .inl 0, 1242), (1242, 3, 2, 222, .inl 0, 1245), (1245, 9, 0, 1250, .inl 0, 1248)]
def ic_227_39 : List (Nat × IN) := [(1248, 1, 0, 0, .inl 0, 1249), (1249, 4, 3, 0, .inl 0, 1250), (1250, 12, 3, 0, .inl 6, 1253), (1253, 6, 5, 18, .inl 0, 1256), (1256, 1, 0, 0, .inl 1, 1257), (1257, 4, 3, 0, .inl 0, 1258)]
/-- ConstellationsByLotLaw.law -/
def ic_227 : List (List (Nat × IN)) := [ic_227_0, ic_227_1, ic_227_2, ic_227_3, ic_227_4, ic_227_5, ic_227_6, ic_227_7, ic_227_8, ic_227_9, ic_227_10, ic_227_11, ic_227_12, ic_227_13, ic_227_14, ic_227_15, ic_227_16, ic_227_17, ic_227_18, ic_227_19, ic_227_20, ic_227_21, ic_227_22, ic_227_23, ic_227_24, ic_227_25, ic_227_26, ic_227_27, ic_227_28, ic_227_29, ic_227_30, ic_227_31, ic_227_32, ic_227_33, ic_227_34, ic_227_35, ic_227_36, ic_227_37, ic_227_38, ic_227_39]
def icode (m : Nat) : List (List (Nat × IN)) := bif Nat.blt m 228 then (bif Nat.blt m 114 then (bif Nat.blt m 57 then (bif Nat.blt m 28 then (bif Nat.blt m 14 then (bif Nat.blt m 7 then (bif Nat.blt m 3 then (bif Nat.blt m 1 then (ic_0) else (bif Nat.blt m 2 then (ic_1) else (ic_2))) else (bif Nat.blt m 5 then (bif Nat.blt m 4 then (ic_3) else (ic_4)) else (bif Nat.blt m 6 then (ic_5) else (ic_6)))) else (bif Nat.blt m 10 then (bif Nat.blt m 8 then (ic_7) else (bif Nat.blt m 9 then (ic_8) else (ic_9))) else (bif Nat.blt m 12 then (bif Nat.blt m 11 then (ic_10) else (ic_11)) else (bif Nat.blt m 13 then (ic_12) else (ic_13))))) else (bif Nat.blt m 21 then (bif Nat.blt m 17 then (bif Nat.blt m 15 then (ic_14) else (bif Nat.blt m 16 then (ic_15) else (ic_16))) else (bif Nat.blt m 19 then (bif Nat.blt m 18 then (ic_17) else (ic_18)) else (bif Nat.blt m 20 then (ic_19) else (ic_20)))) else (bif Nat.blt m 24 then (bif Nat.blt m 22 then (ic_21) else (bif Nat.blt m 23 then (ic_22) else (ic_23))) else (bif Nat.blt m 26 then (bif Nat.blt m 25 then (ic_24) else (ic_25)) else (bif Nat.blt m 27 then (ic_26) else (ic_27)))))) else (bif Nat.blt m 42 then (bif Nat.blt m 35 then (bif Nat.blt m 31 then (bif Nat.blt m 29 then (ic_28) else (bif Nat.blt m 30 then (ic_29) else (ic_30))) else (bif Nat.blt m 33 then (bif Nat.blt m 32 then (ic_31) else (ic_32)) else (bif Nat.blt m 34 then (ic_33) else (ic_34)))) else (bif Nat.blt m 38 then (bif Nat.blt m 36 then (ic_35) else (bif Nat.blt m 37 then (ic_36) else (ic_37))) else (bif Nat.blt m 40 then (bif Nat.blt m 39 then (ic_38) else (ic_39)) else (bif Nat.blt m 41 then (ic_40) else (ic_41))))) else (bif Nat.blt m 49 then (bif Nat.blt m 45 then (bif Nat.blt m 43 then (ic_42) else (bif Nat.blt m 44 then (ic_43) else (ic_44))) else (bif Nat.blt m 47 then (bif Nat.blt m 46 then (ic_45) else (ic_46)) else (bif Nat.blt m 48 then (ic_47) else (ic_48)))) else (bif Nat.blt m 53 then (bif Nat.blt m 51 then (bif Nat.blt m 50 then (ic_49) else (ic_50)) else (bif Nat.blt m 52 then (ic_51) else (ic_52))) else (bif Nat.blt m 55 then (bif Nat.blt m 54 then (ic_53) else (ic_54)) else (bif Nat.blt m 56 then (ic_55) else (ic_56))))))) else (bif Nat.blt m 85 then (bif Nat.blt m 71 then (bif Nat.blt m 64 then (bif Nat.blt m 60 then (bif Nat.blt m 58 then (ic_57) else (bif Nat.blt m 59 then (ic_58) else (ic_59))) else (bif Nat.blt m 62 then (bif Nat.blt m 61 then (ic_60) else (ic_61)) else (bif Nat.blt m 63 then (ic_62) else (ic_63)))) else (bif Nat.blt m 67 then (bif Nat.blt m 65 then (ic_64) else (bif Nat.blt m 66 then (ic_65) else (ic_66))) else (bif Nat.blt m 69 then (bif Nat.blt m 68 then (ic_67) else (ic_68)) else (bif Nat.blt m 70 then (ic_69) else (ic_70))))) else (bif Nat.blt m 78 then (bif Nat.blt m 74 then (bif Nat.blt m 72 then (ic_71) else (bif Nat.blt m 73 then (ic_72) else (ic_73))) else (bif Nat.blt m 76 then (bif Nat.blt m 75 then (ic_74) else (ic_75)) else (bif Nat.blt m 77 then (ic_76) else (ic_77)))) else (bif Nat.blt m 81 then (bif Nat.blt m 79 then (ic_78) else (bif Nat.blt m 80 then (ic_79) else (ic_80))) else (bif Nat.blt m 83 then (bif Nat.blt m 82 then (ic_81) else (ic_82)) else (bif Nat.blt m 84 then (ic_83) else (ic_84)))))) else (bif Nat.blt m 99 then (bif Nat.blt m 92 then (bif Nat.blt m 88 then (bif Nat.blt m 86 then (ic_85) else (bif Nat.blt m 87 then (ic_86) else (ic_87))) else (bif Nat.blt m 90 then (bif Nat.blt m 89 then (ic_88) else (ic_89)) else (bif Nat.blt m 91 then (ic_90) else (ic_91)))) else (bif Nat.blt m 95 then (bif Nat.blt m 93 then (ic_92) else (bif Nat.blt m 94 then (ic_93) else (ic_94))) else (bif Nat.blt m 97 then (bif Nat.blt m 96 then (ic_95) else (ic_96)) else (bif Nat.blt m 98 then (ic_97) else (ic_98))))) else (bif Nat.blt m 106 then (bif Nat.blt m 102 then (bif Nat.blt m 100 then (ic_99) else (bif Nat.blt m 101 then (ic_100) else (ic_101))) else (bif Nat.blt m 104 then (bif Nat.blt m 103 then (ic_102) else (ic_103)) else (bif Nat.blt m 105 then (ic_104) else (ic_105)))) else (bif Nat.blt m 110 then (bif Nat.blt m 108 then (bif Nat.blt m 107 then (ic_106) else (ic_107)) else (bif Nat.blt m 109 then (ic_108) else (ic_109))) else (bif Nat.blt m 112 then (bif Nat.blt m 111 then (ic_110) else (ic_111)) else (bif Nat.blt m 113 then (ic_112) else (ic_113)))))))) else (bif Nat.blt m 171 then (bif Nat.blt m 142 then (bif Nat.blt m 128 then (bif Nat.blt m 121 then (bif Nat.blt m 117 then (bif Nat.blt m 115 then (ic_114) else (bif Nat.blt m 116 then (ic_115) else (ic_116))) else (bif Nat.blt m 119 then (bif Nat.blt m 118 then (ic_117) else (ic_118)) else (bif Nat.blt m 120 then (ic_119) else (ic_120)))) else (bif Nat.blt m 124 then (bif Nat.blt m 122 then (ic_121) else (bif Nat.blt m 123 then (ic_122) else (ic_123))) else (bif Nat.blt m 126 then (bif Nat.blt m 125 then (ic_124) else (ic_125)) else (bif Nat.blt m 127 then (ic_126) else (ic_127))))) else (bif Nat.blt m 135 then (bif Nat.blt m 131 then (bif Nat.blt m 129 then (ic_128) else (bif Nat.blt m 130 then (ic_129) else (ic_130))) else (bif Nat.blt m 133 then (bif Nat.blt m 132 then (ic_131) else (ic_132)) else (bif Nat.blt m 134 then (ic_133) else (ic_134)))) else (bif Nat.blt m 138 then (bif Nat.blt m 136 then (ic_135) else (bif Nat.blt m 137 then (ic_136) else (ic_137))) else (bif Nat.blt m 140 then (bif Nat.blt m 139 then (ic_138) else (ic_139)) else (bif Nat.blt m 141 then (ic_140) else (ic_141)))))) else (bif Nat.blt m 156 then (bif Nat.blt m 149 then (bif Nat.blt m 145 then (bif Nat.blt m 143 then (ic_142) else (bif Nat.blt m 144 then (ic_143) else (ic_144))) else (bif Nat.blt m 147 then (bif Nat.blt m 146 then (ic_145) else (ic_146)) else (bif Nat.blt m 148 then (ic_147) else (ic_148)))) else (bif Nat.blt m 152 then (bif Nat.blt m 150 then (ic_149) else (bif Nat.blt m 151 then (ic_150) else (ic_151))) else (bif Nat.blt m 154 then (bif Nat.blt m 153 then (ic_152) else (ic_153)) else (bif Nat.blt m 155 then (ic_154) else (ic_155))))) else (bif Nat.blt m 163 then (bif Nat.blt m 159 then (bif Nat.blt m 157 then (ic_156) else (bif Nat.blt m 158 then (ic_157) else (ic_158))) else (bif Nat.blt m 161 then (bif Nat.blt m 160 then (ic_159) else (ic_160)) else (bif Nat.blt m 162 then (ic_161) else (ic_162)))) else (bif Nat.blt m 167 then (bif Nat.blt m 165 then (bif Nat.blt m 164 then (ic_163) else (ic_164)) else (bif Nat.blt m 166 then (ic_165) else (ic_166))) else (bif Nat.blt m 169 then (bif Nat.blt m 168 then (ic_167) else (ic_168)) else (bif Nat.blt m 170 then (ic_169) else (ic_170))))))) else (bif Nat.blt m 199 then (bif Nat.blt m 185 then (bif Nat.blt m 178 then (bif Nat.blt m 174 then (bif Nat.blt m 172 then (ic_171) else (bif Nat.blt m 173 then (ic_172) else (ic_173))) else (bif Nat.blt m 176 then (bif Nat.blt m 175 then (ic_174) else (ic_175)) else (bif Nat.blt m 177 then (ic_176) else (ic_177)))) else (bif Nat.blt m 181 then (bif Nat.blt m 179 then (ic_178) else (bif Nat.blt m 180 then (ic_179) else (ic_180))) else (bif Nat.blt m 183 then (bif Nat.blt m 182 then (ic_181) else (ic_182)) else (bif Nat.blt m 184 then (ic_183) else (ic_184))))) else (bif Nat.blt m 192 then (bif Nat.blt m 188 then (bif Nat.blt m 186 then (ic_185) else (bif Nat.blt m 187 then (ic_186) else (ic_187))) else (bif Nat.blt m 190 then (bif Nat.blt m 189 then (ic_188) else (ic_189)) else (bif Nat.blt m 191 then (ic_190) else (ic_191)))) else (bif Nat.blt m 195 then (bif Nat.blt m 193 then (ic_192) else (bif Nat.blt m 194 then (ic_193) else (ic_194))) else (bif Nat.blt m 197 then (bif Nat.blt m 196 then (ic_195) else (ic_196)) else (bif Nat.blt m 198 then (ic_197) else (ic_198)))))) else (bif Nat.blt m 213 then (bif Nat.blt m 206 then (bif Nat.blt m 202 then (bif Nat.blt m 200 then (ic_199) else (bif Nat.blt m 201 then (ic_200) else (ic_201))) else (bif Nat.blt m 204 then (bif Nat.blt m 203 then (ic_202) else (ic_203)) else (bif Nat.blt m 205 then (ic_204) else (ic_205)))) else (bif Nat.blt m 209 then (bif Nat.blt m 207 then (ic_206) else (bif Nat.blt m 208 then (ic_207) else (ic_208))) else (bif Nat.blt m 211 then (bif Nat.blt m 210 then (ic_209) else (ic_210)) else (bif Nat.blt m 212 then (ic_211) else (ic_212))))) else (bif Nat.blt m 220 then (bif Nat.blt m 216 then (bif Nat.blt m 214 then (ic_213) else (bif Nat.blt m 215 then (ic_214) else (ic_215))) else (bif Nat.blt m 218 then (bif Nat.blt m 217 then (ic_216) else (ic_217)) else (bif Nat.blt m 219 then (ic_218) else (ic_219)))) else (bif Nat.blt m 224 then (bif Nat.blt m 222 then (bif Nat.blt m 221 then (ic_220) else (ic_221)) else (bif Nat.blt m 223 then (ic_222) else (ic_223))) else (bif Nat.blt m 226 then (bif Nat.blt m 225 then (ic_224) else (ic_225)) else (bif Nat.blt m 227 then (ic_226) else (ic_227))))))))) else []
def ins (m pc : Nat) : IN := match nth (icode m) (pc / 32) with
  | some c => (match lkp c pc with
    | some e => e
    | none => (99, 0, 0, .inl 0, 0))
  | none => (99, 0, 0, .inl 0, 0)
abbrev NM : Nat := 228
def nLo (m : Nat) : Nat := bif Nat.blt m 228 then (bif Nat.blt m 114 then (bif Nat.blt m 57 then (bif Nat.blt m 28 then (bif Nat.blt m 14 then (bif Nat.blt m 7 then (bif Nat.blt m 3 then (bif Nat.blt m 1 then (5) else (bif Nat.blt m 2 then (5) else (3))) else (bif Nat.blt m 5 then (bif Nat.blt m 4 then (6) else (4)) else (bif Nat.blt m 6 then (5) else (4)))) else (bif Nat.blt m 10 then (bif Nat.blt m 8 then (6) else (bif Nat.blt m 9 then (1) else (4))) else (bif Nat.blt m 12 then (bif Nat.blt m 11 then (2) else (3)) else (bif Nat.blt m 13 then (3) else (2))))) else (bif Nat.blt m 21 then (bif Nat.blt m 17 then (bif Nat.blt m 15 then (2) else (bif Nat.blt m 16 then (1) else (2))) else (bif Nat.blt m 19 then (bif Nat.blt m 18 then (3) else (3)) else (bif Nat.blt m 20 then (3) else (4)))) else (bif Nat.blt m 24 then (bif Nat.blt m 22 then (2) else (bif Nat.blt m 23 then (7) else (3))) else (bif Nat.blt m 26 then (bif Nat.blt m 25 then (7) else (4)) else (bif Nat.blt m 27 then (4) else (4)))))) else (bif Nat.blt m 42 then (bif Nat.blt m 35 then (bif Nat.blt m 31 then (bif Nat.blt m 29 then (4) else (bif Nat.blt m 30 then (2) else (4))) else (bif Nat.blt m 33 then (bif Nat.blt m 32 then (3) else (1)) else (bif Nat.blt m 34 then (1) else (2)))) else (bif Nat.blt m 38 then (bif Nat.blt m 36 then (3) else (bif Nat.blt m 37 then (4) else (6))) else (bif Nat.blt m 40 then (bif Nat.blt m 39 then (4) else (4)) else (bif Nat.blt m 41 then (12) else (5))))) else (bif Nat.blt m 49 then (bif Nat.blt m 45 then (bif Nat.blt m 43 then (3) else (bif Nat.blt m 44 then (1) else (3))) else (bif Nat.blt m 47 then (bif Nat.blt m 46 then (1) else (3)) else (bif Nat.blt m 48 then (2) else (2)))) else (bif Nat.blt m 53 then (bif Nat.blt m 51 then (bif Nat.blt m 50 then (3) else (4)) else (bif Nat.blt m 52 then (4) else (2))) else (bif Nat.blt m 55 then (bif Nat.blt m 54 then (3) else (6)) else (bif Nat.blt m 56 then (3) else (10))))))) else (bif Nat.blt m 85 then (bif Nat.blt m 71 then (bif Nat.blt m 64 then (bif Nat.blt m 60 then (bif Nat.blt m 58 then (5) else (bif Nat.blt m 59 then (6) else (2))) else (bif Nat.blt m 62 then (bif Nat.blt m 61 then (4) else (2)) else (bif Nat.blt m 63 then (4) else (1)))) else (bif Nat.blt m 67 then (bif Nat.blt m 65 then (1) else (bif Nat.blt m 66 then (2) else (3))) else (bif Nat.blt m 69 then (bif Nat.blt m 68 then (5) else (4)) else (bif Nat.blt m 70 then (4) else (4))))) else (bif Nat.blt m 78 then (bif Nat.blt m 74 then (bif Nat.blt m 72 then (7) else (bif Nat.blt m 73 then (2) else (3))) else (bif Nat.blt m 76 then (bif Nat.blt m 75 then (5) else (7)) else (bif Nat.blt m 77 then (10) else (3)))) else (bif Nat.blt m 81 then (bif Nat.blt m 79 then (2) else (bif Nat.blt m 80 then (3) else (5))) else (bif Nat.blt m 83 then (bif Nat.blt m 82 then (3) else (3)) else (bif Nat.blt m 84 then (7) else (6)))))) else (bif Nat.blt m 99 then (bif Nat.blt m 92 then (bif Nat.blt m 88 then (bif Nat.blt m 86 then (6) else (bif Nat.blt m 87 then (3) else (2))) else (bif Nat.blt m 90 then (bif Nat.blt m 89 then (2) else (2)) else (bif Nat.blt m 91 then (3) else (4)))) else (bif Nat.blt m 95 then (bif Nat.blt m 93 then (5) else (bif Nat.blt m 94 then (4) else (3))) else (bif Nat.blt m 97 then (bif Nat.blt m 96 then (3) else (2)) else (bif Nat.blt m 98 then (1) else (3))))) else (bif Nat.blt m 106 then (bif Nat.blt m 102 then (bif Nat.blt m 100 then (2) else (bif Nat.blt m 101 then (4) else (8))) else (bif Nat.blt m 104 then (bif Nat.blt m 103 then (4) else (4)) else (bif Nat.blt m 105 then (4) else (3)))) else (bif Nat.blt m 110 then (bif Nat.blt m 108 then (bif Nat.blt m 107 then (1) else (3)) else (bif Nat.blt m 109 then (2) else (3))) else (bif Nat.blt m 112 then (bif Nat.blt m 111 then (2) else (2)) else (bif Nat.blt m 113 then (2) else (3)))))))) else (bif Nat.blt m 171 then (bif Nat.blt m 142 then (bif Nat.blt m 128 then (bif Nat.blt m 121 then (bif Nat.blt m 117 then (bif Nat.blt m 115 then (3) else (bif Nat.blt m 116 then (3) else (1))) else (bif Nat.blt m 119 then (bif Nat.blt m 118 then (3) else (3)) else (bif Nat.blt m 120 then (8) else (6)))) else (bif Nat.blt m 124 then (bif Nat.blt m 122 then (8) else (bif Nat.blt m 123 then (9) else (6))) else (bif Nat.blt m 126 then (bif Nat.blt m 125 then (4) else (6)) else (bif Nat.blt m 127 then (5) else (7))))) else (bif Nat.blt m 135 then (bif Nat.blt m 131 then (bif Nat.blt m 129 then (6) else (bif Nat.blt m 130 then (2) else (5))) else (bif Nat.blt m 133 then (bif Nat.blt m 132 then (3) else (2)) else (bif Nat.blt m 134 then (2) else (2)))) else (bif Nat.blt m 138 then (bif Nat.blt m 136 then (2) else (bif Nat.blt m 137 then (3) else (2))) else (bif Nat.blt m 140 then (bif Nat.blt m 139 then (2) else (2)) else (bif Nat.blt m 141 then (4) else (4)))))) else (bif Nat.blt m 156 then (bif Nat.blt m 149 then (bif Nat.blt m 145 then (bif Nat.blt m 143 then (4) else (bif Nat.blt m 144 then (7) else (5))) else (bif Nat.blt m 147 then (bif Nat.blt m 146 then (4) else (5)) else (bif Nat.blt m 148 then (3) else (3)))) else (bif Nat.blt m 152 then (bif Nat.blt m 150 then (5) else (bif Nat.blt m 151 then (4) else (4))) else (bif Nat.blt m 154 then (bif Nat.blt m 153 then (5) else (3)) else (bif Nat.blt m 155 then (2) else (2))))) else (bif Nat.blt m 163 then (bif Nat.blt m 159 then (bif Nat.blt m 157 then (2) else (bif Nat.blt m 158 then (1) else (5))) else (bif Nat.blt m 161 then (bif Nat.blt m 160 then (5) else (4)) else (bif Nat.blt m 162 then (4) else (3)))) else (bif Nat.blt m 167 then (bif Nat.blt m 165 then (bif Nat.blt m 164 then (3) else (3)) else (bif Nat.blt m 166 then (4) else (4))) else (bif Nat.blt m 169 then (bif Nat.blt m 168 then (3) else (4)) else (bif Nat.blt m 170 then (4) else (4))))))) else (bif Nat.blt m 199 then (bif Nat.blt m 185 then (bif Nat.blt m 178 then (bif Nat.blt m 174 then (bif Nat.blt m 172 then (7) else (bif Nat.blt m 173 then (7) else (2))) else (bif Nat.blt m 176 then (bif Nat.blt m 175 then (5) else (4)) else (bif Nat.blt m 177 then (5) else (3)))) else (bif Nat.blt m 181 then (bif Nat.blt m 179 then (3) else (bif Nat.blt m 180 then (3) else (3))) else (bif Nat.blt m 183 then (bif Nat.blt m 182 then (10) else (5)) else (bif Nat.blt m 184 then (6) else (11))))) else (bif Nat.blt m 192 then (bif Nat.blt m 188 then (bif Nat.blt m 186 then (7) else (bif Nat.blt m 187 then (6) else (3))) else (bif Nat.blt m 190 then (bif Nat.blt m 189 then (4) else (5)) else (bif Nat.blt m 191 then (3) else (2)))) else (bif Nat.blt m 195 then (bif Nat.blt m 193 then (2) else (bif Nat.blt m 194 then (3) else (3))) else (bif Nat.blt m 197 then (bif Nat.blt m 196 then (6) else (2)) else (bif Nat.blt m 198 then (8) else (3)))))) else (bif Nat.blt m 213 then (bif Nat.blt m 206 then (bif Nat.blt m 202 then (bif Nat.blt m 200 then (4) else (bif Nat.blt m 201 then (2) else (4))) else (bif Nat.blt m 204 then (bif Nat.blt m 203 then (1) else (5)) else (bif Nat.blt m 205 then (2) else (6)))) else (bif Nat.blt m 209 then (bif Nat.blt m 207 then (8) else (bif Nat.blt m 208 then (3) else (2))) else (bif Nat.blt m 211 then (bif Nat.blt m 210 then (3) else (5)) else (bif Nat.blt m 212 then (5) else (9))))) else (bif Nat.blt m 220 then (bif Nat.blt m 216 then (bif Nat.blt m 214 then (9) else (bif Nat.blt m 215 then (2) else (4))) else (bif Nat.blt m 218 then (bif Nat.blt m 217 then (6) else (3)) else (bif Nat.blt m 219 then (4) else (3)))) else (bif Nat.blt m 224 then (bif Nat.blt m 222 then (bif Nat.blt m 221 then (1) else (2)) else (bif Nat.blt m 223 then (4) else (2))) else (bif Nat.blt m 226 then (bif Nat.blt m 225 then (1) else (5)) else (bif Nat.blt m 227 then (4) else (4))))))))) else 0
def rk (m : Nat) : Nat := bif Nat.blt m 228 then (bif Nat.blt m 114 then (bif Nat.blt m 57 then (bif Nat.blt m 28 then (bif Nat.blt m 14 then (bif Nat.blt m 7 then (bif Nat.blt m 3 then (bif Nat.blt m 1 then (0) else (bif Nat.blt m 2 then (1) else (1))) else (bif Nat.blt m 5 then (bif Nat.blt m 4 then (1) else (1)) else (bif Nat.blt m 6 then (0) else (0)))) else (bif Nat.blt m 10 then (bif Nat.blt m 8 then (1) else (bif Nat.blt m 9 then (1) else (1))) else (bif Nat.blt m 12 then (bif Nat.blt m 11 then (1) else (1)) else (bif Nat.blt m 13 then (0) else (0))))) else (bif Nat.blt m 21 then (bif Nat.blt m 17 then (bif Nat.blt m 15 then (1) else (bif Nat.blt m 16 then (1) else (1))) else (bif Nat.blt m 19 then (bif Nat.blt m 18 then (1) else (0)) else (bif Nat.blt m 20 then (0) else (1)))) else (bif Nat.blt m 24 then (bif Nat.blt m 22 then (1) else (bif Nat.blt m 23 then (0) else (0))) else (bif Nat.blt m 26 then (bif Nat.blt m 25 then (0) else (1)) else (bif Nat.blt m 27 then (1) else (1)))))) else (bif Nat.blt m 42 then (bif Nat.blt m 35 then (bif Nat.blt m 31 then (bif Nat.blt m 29 then (1) else (bif Nat.blt m 30 then (0) else (1))) else (bif Nat.blt m 33 then (bif Nat.blt m 32 then (0) else (1)) else (bif Nat.blt m 34 then (1) else (1)))) else (bif Nat.blt m 38 then (bif Nat.blt m 36 then (1) else (bif Nat.blt m 37 then (0) else (1))) else (bif Nat.blt m 40 then (bif Nat.blt m 39 then (1) else (1)) else (bif Nat.blt m 41 then (1) else (1))))) else (bif Nat.blt m 49 then (bif Nat.blt m 45 then (bif Nat.blt m 43 then (0) else (bif Nat.blt m 44 then (1) else (0))) else (bif Nat.blt m 47 then (bif Nat.blt m 46 then (1) else (0)) else (bif Nat.blt m 48 then (1) else (1)))) else (bif Nat.blt m 53 then (bif Nat.blt m 51 then (bif Nat.blt m 50 then (1) else (1)) else (bif Nat.blt m 52 then (1) else (1))) else (bif Nat.blt m 55 then (bif Nat.blt m 54 then (1) else (1)) else (bif Nat.blt m 56 then (1) else (1))))))) else (bif Nat.blt m 85 then (bif Nat.blt m 71 then (bif Nat.blt m 64 then (bif Nat.blt m 60 then (bif Nat.blt m 58 then (1) else (bif Nat.blt m 59 then (0) else (1))) else (bif Nat.blt m 62 then (bif Nat.blt m 61 then (1) else (0)) else (bif Nat.blt m 63 then (1) else (0)))) else (bif Nat.blt m 67 then (bif Nat.blt m 65 then (1) else (bif Nat.blt m 66 then (0) else (1))) else (bif Nat.blt m 69 then (bif Nat.blt m 68 then (1) else (0)) else (bif Nat.blt m 70 then (0) else (0))))) else (bif Nat.blt m 78 then (bif Nat.blt m 74 then (bif Nat.blt m 72 then (0) else (bif Nat.blt m 73 then (0) else (0))) else (bif Nat.blt m 76 then (bif Nat.blt m 75 then (1) else (1)) else (bif Nat.blt m 77 then (1) else (2)))) else (bif Nat.blt m 81 then (bif Nat.blt m 79 then (1) else (bif Nat.blt m 80 then (1) else (1))) else (bif Nat.blt m 83 then (bif Nat.blt m 82 then (1) else (1)) else (bif Nat.blt m 84 then (1) else (1)))))) else (bif Nat.blt m 99 then (bif Nat.blt m 92 then (bif Nat.blt m 88 then (bif Nat.blt m 86 then (1) else (bif Nat.blt m 87 then (1) else (1))) else (bif Nat.blt m 90 then (bif Nat.blt m 89 then (1) else (1)) else (bif Nat.blt m 91 then (1) else (1)))) else (bif Nat.blt m 95 then (bif Nat.blt m 93 then (1) else (bif Nat.blt m 94 then (1) else (1))) else (bif Nat.blt m 97 then (bif Nat.blt m 96 then (1) else (1)) else (bif Nat.blt m 98 then (1) else (1))))) else (bif Nat.blt m 106 then (bif Nat.blt m 102 then (bif Nat.blt m 100 then (1) else (bif Nat.blt m 101 then (1) else (1))) else (bif Nat.blt m 104 then (bif Nat.blt m 103 then (1) else (1)) else (bif Nat.blt m 105 then (1) else (1)))) else (bif Nat.blt m 110 then (bif Nat.blt m 108 then (bif Nat.blt m 107 then (1) else (1)) else (bif Nat.blt m 109 then (1) else (1))) else (bif Nat.blt m 112 then (bif Nat.blt m 111 then (1) else (1)) else (bif Nat.blt m 113 then (1) else (1)))))))) else (bif Nat.blt m 171 then (bif Nat.blt m 142 then (bif Nat.blt m 128 then (bif Nat.blt m 121 then (bif Nat.blt m 117 then (bif Nat.blt m 115 then (1) else (bif Nat.blt m 116 then (1) else (1))) else (bif Nat.blt m 119 then (bif Nat.blt m 118 then (1) else (1)) else (bif Nat.blt m 120 then (1) else (1)))) else (bif Nat.blt m 124 then (bif Nat.blt m 122 then (1) else (bif Nat.blt m 123 then (1) else (1))) else (bif Nat.blt m 126 then (bif Nat.blt m 125 then (1) else (1)) else (bif Nat.blt m 127 then (1) else (1))))) else (bif Nat.blt m 135 then (bif Nat.blt m 131 then (bif Nat.blt m 129 then (1) else (bif Nat.blt m 130 then (1) else (0))) else (bif Nat.blt m 133 then (bif Nat.blt m 132 then (1) else (1)) else (bif Nat.blt m 134 then (1) else (1)))) else (bif Nat.blt m 138 then (bif Nat.blt m 136 then (1) else (bif Nat.blt m 137 then (1) else (1))) else (bif Nat.blt m 140 then (bif Nat.blt m 139 then (1) else (1)) else (bif Nat.blt m 141 then (1) else (1)))))) else (bif Nat.blt m 156 then (bif Nat.blt m 149 then (bif Nat.blt m 145 then (bif Nat.blt m 143 then (1) else (bif Nat.blt m 144 then (1) else (1))) else (bif Nat.blt m 147 then (bif Nat.blt m 146 then (1) else (1)) else (bif Nat.blt m 148 then (1) else (1)))) else (bif Nat.blt m 152 then (bif Nat.blt m 150 then (1) else (bif Nat.blt m 151 then (1) else (1))) else (bif Nat.blt m 154 then (bif Nat.blt m 153 then (1) else (1)) else (bif Nat.blt m 155 then (1) else (1))))) else (bif Nat.blt m 163 then (bif Nat.blt m 159 then (bif Nat.blt m 157 then (1) else (bif Nat.blt m 158 then (0) else (1))) else (bif Nat.blt m 161 then (bif Nat.blt m 160 then (1) else (1)) else (bif Nat.blt m 162 then (1) else (1)))) else (bif Nat.blt m 167 then (bif Nat.blt m 165 then (bif Nat.blt m 164 then (1) else (1)) else (bif Nat.blt m 166 then (1) else (1))) else (bif Nat.blt m 169 then (bif Nat.blt m 168 then (1) else (1)) else (bif Nat.blt m 170 then (1) else (1))))))) else (bif Nat.blt m 199 then (bif Nat.blt m 185 then (bif Nat.blt m 178 then (bif Nat.blt m 174 then (bif Nat.blt m 172 then (1) else (bif Nat.blt m 173 then (1) else (1))) else (bif Nat.blt m 176 then (bif Nat.blt m 175 then (1) else (1)) else (bif Nat.blt m 177 then (1) else (1)))) else (bif Nat.blt m 181 then (bif Nat.blt m 179 then (1) else (bif Nat.blt m 180 then (1) else (1))) else (bif Nat.blt m 183 then (bif Nat.blt m 182 then (1) else (1)) else (bif Nat.blt m 184 then (1) else (1))))) else (bif Nat.blt m 192 then (bif Nat.blt m 188 then (bif Nat.blt m 186 then (1) else (bif Nat.blt m 187 then (1) else (1))) else (bif Nat.blt m 190 then (bif Nat.blt m 189 then (0) else (1)) else (bif Nat.blt m 191 then (1) else (0)))) else (bif Nat.blt m 195 then (bif Nat.blt m 193 then (1) else (bif Nat.blt m 194 then (1) else (1))) else (bif Nat.blt m 197 then (bif Nat.blt m 196 then (1) else (1)) else (bif Nat.blt m 198 then (1) else (1)))))) else (bif Nat.blt m 213 then (bif Nat.blt m 206 then (bif Nat.blt m 202 then (bif Nat.blt m 200 then (1) else (bif Nat.blt m 201 then (1) else (1))) else (bif Nat.blt m 204 then (bif Nat.blt m 203 then (1) else (1)) else (bif Nat.blt m 205 then (1) else (1)))) else (bif Nat.blt m 209 then (bif Nat.blt m 207 then (1) else (bif Nat.blt m 208 then (2) else (1))) else (bif Nat.blt m 211 then (bif Nat.blt m 210 then (1) else (1)) else (bif Nat.blt m 212 then (1) else (1))))) else (bif Nat.blt m 220 then (bif Nat.blt m 216 then (bif Nat.blt m 214 then (1) else (bif Nat.blt m 215 then (1) else (1))) else (bif Nat.blt m 218 then (bif Nat.blt m 217 then (0) else (1)) else (bif Nat.blt m 219 then (1) else (1)))) else (bif Nat.blt m 224 then (bif Nat.blt m 222 then (bif Nat.blt m 221 then (1) else (1)) else (bif Nat.blt m 223 then (1) else (1))) else (bif Nat.blt m 226 then (bif Nat.blt m 225 then (1) else (0)) else (bif Nat.blt m 227 then (0) else (1))))))))) else 0
def mcl (m : Nat) : Nat := bif Nat.blt m 228 then (bif Nat.blt m 114 then (bif Nat.blt m 57 then (bif Nat.blt m 28 then (bif Nat.blt m 14 then (bif Nat.blt m 7 then (bif Nat.blt m 3 then (bif Nat.blt m 1 then (0) else (bif Nat.blt m 2 then (0) else (0))) else (bif Nat.blt m 5 then (bif Nat.blt m 4 then (0) else (0)) else (bif Nat.blt m 6 then (1) else (1)))) else (bif Nat.blt m 10 then (bif Nat.blt m 8 then (1) else (bif Nat.blt m 9 then (1) else (1))) else (bif Nat.blt m 12 then (bif Nat.blt m 11 then (1) else (1)) else (bif Nat.blt m 13 then (2) else (2))))) else (bif Nat.blt m 21 then (bif Nat.blt m 17 then (bif Nat.blt m 15 then (2) else (bif Nat.blt m 16 then (2) else (2))) else (bif Nat.blt m 19 then (bif Nat.blt m 18 then (2) else (2)) else (bif Nat.blt m 20 then (2) else (2)))) else (bif Nat.blt m 24 then (bif Nat.blt m 22 then (2) else (bif Nat.blt m 23 then (3) else (3))) else (bif Nat.blt m 26 then (bif Nat.blt m 25 then (3) else (3)) else (bif Nat.blt m 27 then (3) else (3)))))) else (bif Nat.blt m 42 then (bif Nat.blt m 35 then (bif Nat.blt m 31 then (bif Nat.blt m 29 then (3) else (bif Nat.blt m 30 then (3) else (3))) else (bif Nat.blt m 33 then (bif Nat.blt m 32 then (4) else (4)) else (bif Nat.blt m 34 then (4) else (4)))) else (bif Nat.blt m 38 then (bif Nat.blt m 36 then (4) else (bif Nat.blt m 37 then (4) else (99))) else (bif Nat.blt m 40 then (bif Nat.blt m 39 then (99) else (99)) else (bif Nat.blt m 41 then (99) else (99))))) else (bif Nat.blt m 49 then (bif Nat.blt m 45 then (bif Nat.blt m 43 then (5) else (bif Nat.blt m 44 then (5) else (5))) else (bif Nat.blt m 47 then (bif Nat.blt m 46 then (5) else (5)) else (bif Nat.blt m 48 then (5) else (5)))) else (bif Nat.blt m 53 then (bif Nat.blt m 51 then (bif Nat.blt m 50 then (5) else (5)) else (bif Nat.blt m 52 then (5) else (5))) else (bif Nat.blt m 55 then (bif Nat.blt m 54 then (5) else (5)) else (bif Nat.blt m 56 then (5) else (5))))))) else (bif Nat.blt m 85 then (bif Nat.blt m 71 then (bif Nat.blt m 64 then (bif Nat.blt m 60 then (bif Nat.blt m 58 then (5) else (bif Nat.blt m 59 then (5) else (5))) else (bif Nat.blt m 62 then (bif Nat.blt m 61 then (99) else (6)) else (bif Nat.blt m 63 then (6) else (6)))) else (bif Nat.blt m 67 then (bif Nat.blt m 65 then (6) else (bif Nat.blt m 66 then (6) else (6))) else (bif Nat.blt m 69 then (bif Nat.blt m 68 then (6) else (6)) else (bif Nat.blt m 70 then (6) else (6))))) else (bif Nat.blt m 78 then (bif Nat.blt m 74 then (bif Nat.blt m 72 then (6) else (bif Nat.blt m 73 then (6) else (6))) else (bif Nat.blt m 76 then (bif Nat.blt m 75 then (7) else (7)) else (bif Nat.blt m 77 then (7) else (7)))) else (bif Nat.blt m 81 then (bif Nat.blt m 79 then (7) else (bif Nat.blt m 80 then (7) else (7))) else (bif Nat.blt m 83 then (bif Nat.blt m 82 then (7) else (7)) else (bif Nat.blt m 84 then (7) else (7)))))) else (bif Nat.blt m 99 then (bif Nat.blt m 92 then (bif Nat.blt m 88 then (bif Nat.blt m 86 then (7) else (bif Nat.blt m 87 then (7) else (7))) else (bif Nat.blt m 90 then (bif Nat.blt m 89 then (7) else (7)) else (bif Nat.blt m 91 then (7) else (7)))) else (bif Nat.blt m 95 then (bif Nat.blt m 93 then (7) else (bif Nat.blt m 94 then (7) else (7))) else (bif Nat.blt m 97 then (bif Nat.blt m 96 then (7) else (7)) else (bif Nat.blt m 98 then (7) else (7))))) else (bif Nat.blt m 106 then (bif Nat.blt m 102 then (bif Nat.blt m 100 then (7) else (bif Nat.blt m 101 then (7) else (7))) else (bif Nat.blt m 104 then (bif Nat.blt m 103 then (7) else (7)) else (bif Nat.blt m 105 then (7) else (7)))) else (bif Nat.blt m 110 then (bif Nat.blt m 108 then (bif Nat.blt m 107 then (7) else (7)) else (bif Nat.blt m 109 then (7) else (7))) else (bif Nat.blt m 112 then (bif Nat.blt m 111 then (7) else (7)) else (bif Nat.blt m 113 then (7) else (7)))))))) else (bif Nat.blt m 171 then (bif Nat.blt m 142 then (bif Nat.blt m 128 then (bif Nat.blt m 121 then (bif Nat.blt m 117 then (bif Nat.blt m 115 then (99) else (bif Nat.blt m 116 then (7) else (7))) else (bif Nat.blt m 119 then (bif Nat.blt m 118 then (7) else (7)) else (bif Nat.blt m 120 then (7) else (7)))) else (bif Nat.blt m 124 then (bif Nat.blt m 122 then (7) else (bif Nat.blt m 123 then (7) else (7))) else (bif Nat.blt m 126 then (bif Nat.blt m 125 then (7) else (7)) else (bif Nat.blt m 127 then (7) else (99))))) else (bif Nat.blt m 135 then (bif Nat.blt m 131 then (bif Nat.blt m 129 then (99) else (bif Nat.blt m 130 then (8) else (99))) else (bif Nat.blt m 133 then (bif Nat.blt m 132 then (8) else (8)) else (bif Nat.blt m 134 then (8) else (8)))) else (bif Nat.blt m 138 then (bif Nat.blt m 136 then (8) else (bif Nat.blt m 137 then (8) else (8))) else (bif Nat.blt m 140 then (bif Nat.blt m 139 then (8) else (8)) else (bif Nat.blt m 141 then (8) else (8)))))) else (bif Nat.blt m 156 then (bif Nat.blt m 149 then (bif Nat.blt m 145 then (bif Nat.blt m 143 then (8) else (bif Nat.blt m 144 then (8) else (8))) else (bif Nat.blt m 147 then (bif Nat.blt m 146 then (8) else (8)) else (bif Nat.blt m 148 then (8) else (8)))) else (bif Nat.blt m 152 then (bif Nat.blt m 150 then (8) else (bif Nat.blt m 151 then (8) else (8))) else (bif Nat.blt m 154 then (bif Nat.blt m 153 then (8) else (8)) else (bif Nat.blt m 155 then (8) else (8))))) else (bif Nat.blt m 163 then (bif Nat.blt m 159 then (bif Nat.blt m 157 then (8) else (bif Nat.blt m 158 then (8) else (8))) else (bif Nat.blt m 161 then (bif Nat.blt m 160 then (8) else (8)) else (bif Nat.blt m 162 then (8) else (8)))) else (bif Nat.blt m 167 then (bif Nat.blt m 165 then (bif Nat.blt m 164 then (8) else (8)) else (bif Nat.blt m 166 then (8) else (8))) else (bif Nat.blt m 169 then (bif Nat.blt m 168 then (99) else (8)) else (bif Nat.blt m 170 then (8) else (8))))))) else (bif Nat.blt m 199 then (bif Nat.blt m 185 then (bif Nat.blt m 178 then (bif Nat.blt m 174 then (bif Nat.blt m 172 then (8) else (bif Nat.blt m 173 then (8) else (8))) else (bif Nat.blt m 176 then (bif Nat.blt m 175 then (8) else (8)) else (bif Nat.blt m 177 then (8) else (8)))) else (bif Nat.blt m 181 then (bif Nat.blt m 179 then (8) else (bif Nat.blt m 180 then (8) else (8))) else (bif Nat.blt m 183 then (bif Nat.blt m 182 then (8) else (8)) else (bif Nat.blt m 184 then (8) else (8))))) else (bif Nat.blt m 192 then (bif Nat.blt m 188 then (bif Nat.blt m 186 then (8) else (bif Nat.blt m 187 then (8) else (8))) else (bif Nat.blt m 190 then (bif Nat.blt m 189 then (8) else (8)) else (bif Nat.blt m 191 then (8) else (8)))) else (bif Nat.blt m 195 then (bif Nat.blt m 193 then (8) else (bif Nat.blt m 194 then (8) else (8))) else (bif Nat.blt m 197 then (bif Nat.blt m 196 then (8) else (8)) else (bif Nat.blt m 198 then (8) else (8)))))) else (bif Nat.blt m 213 then (bif Nat.blt m 206 then (bif Nat.blt m 202 then (bif Nat.blt m 200 then (8) else (bif Nat.blt m 201 then (8) else (8))) else (bif Nat.blt m 204 then (bif Nat.blt m 203 then (99) else (8)) else (bif Nat.blt m 205 then (8) else (8)))) else (bif Nat.blt m 209 then (bif Nat.blt m 207 then (8) else (bif Nat.blt m 208 then (8) else (8))) else (bif Nat.blt m 211 then (bif Nat.blt m 210 then (8) else (8)) else (bif Nat.blt m 212 then (8) else (8))))) else (bif Nat.blt m 220 then (bif Nat.blt m 216 then (bif Nat.blt m 214 then (8) else (bif Nat.blt m 215 then (8) else (99))) else (bif Nat.blt m 218 then (bif Nat.blt m 217 then (8) else (8)) else (bif Nat.blt m 219 then (8) else (8)))) else (bif Nat.blt m 224 then (bif Nat.blt m 222 then (bif Nat.blt m 221 then (8) else (8)) else (bif Nat.blt m 223 then (8) else (99))) else (bif Nat.blt m 226 then (bif Nat.blt m 225 then (99) else (99)) else (bif Nat.blt m 227 then (99) else (99))))))))) else 99
def clsOf (t : Nat) : Nat := bif Nat.blt t 31 then (bif Nat.blt t 15 then (bif Nat.blt t 7 then (bif Nat.blt t 3 then (bif Nat.blt t 1 then (7) else (bif Nat.blt t 2 then (5) else (98))) else (bif Nat.blt t 5 then (bif Nat.blt t 4 then (98) else (98)) else (bif Nat.blt t 6 then (2) else (98)))) else (bif Nat.blt t 11 then (bif Nat.blt t 9 then (bif Nat.blt t 8 then (98) else (1)) else (bif Nat.blt t 10 then (98) else (3))) else (bif Nat.blt t 13 then (bif Nat.blt t 12 then (98) else (98)) else (bif Nat.blt t 14 then (98) else (98))))) else (bif Nat.blt t 23 then (bif Nat.blt t 19 then (bif Nat.blt t 17 then (bif Nat.blt t 16 then (98) else (98)) else (bif Nat.blt t 18 then (0) else (98))) else (bif Nat.blt t 21 then (bif Nat.blt t 20 then (98) else (6)) else (bif Nat.blt t 22 then (98) else (98)))) else (bif Nat.blt t 27 then (bif Nat.blt t 25 then (bif Nat.blt t 24 then (4) else (98)) else (bif Nat.blt t 26 then (98) else (98))) else (bif Nat.blt t 29 then (bif Nat.blt t 28 then (98) else (98)) else (bif Nat.blt t 30 then (98) else (8)))))) else 98
def ak (t : Nat) : Nat := bif Nat.blt t 48 then (bif Nat.blt t 24 then (bif Nat.blt t 12 then (bif Nat.blt t 6 then (bif Nat.blt t 3 then (bif Nat.blt t 1 then (0) else (bif Nat.blt t 2 then (0) else (1))) else (bif Nat.blt t 4 then (1) else (bif Nat.blt t 5 then (5) else (0)))) else (bif Nat.blt t 9 then (bif Nat.blt t 7 then (1) else (bif Nat.blt t 8 then (1) else (0))) else (bif Nat.blt t 10 then (1) else (bif Nat.blt t 11 then (0) else (1))))) else (bif Nat.blt t 18 then (bif Nat.blt t 15 then (bif Nat.blt t 13 then (1) else (bif Nat.blt t 14 then (1) else (1))) else (bif Nat.blt t 16 then (1) else (bif Nat.blt t 17 then (1) else (0)))) else (bif Nat.blt t 21 then (bif Nat.blt t 19 then (1) else (bif Nat.blt t 20 then (1) else (0))) else (bif Nat.blt t 22 then (1) else (bif Nat.blt t 23 then (6) else (0)))))) else (bif Nat.blt t 36 then (bif Nat.blt t 30 then (bif Nat.blt t 27 then (bif Nat.blt t 25 then (2) else (bif Nat.blt t 26 then (1) else (1))) else (bif Nat.blt t 28 then (0) else (bif Nat.blt t 29 then (0) else (0)))) else (bif Nat.blt t 33 then (bif Nat.blt t 31 then (0) else (bif Nat.blt t 32 then (1) else (1))) else (bif Nat.blt t 34 then (1) else (bif Nat.blt t 35 then (1) else (1))))) else (bif Nat.blt t 42 then (bif Nat.blt t 39 then (bif Nat.blt t 37 then (4) else (bif Nat.blt t 38 then (1) else (1))) else (bif Nat.blt t 40 then (1) else (bif Nat.blt t 41 then (1) else (1)))) else (bif Nat.blt t 45 then (bif Nat.blt t 43 then (1) else (bif Nat.blt t 44 then (1) else (2))) else (bif Nat.blt t 46 then (2) else (bif Nat.blt t 47 then (1) else (3))))))) else 0
def alen (t : Nat) : Nat := bif Nat.blt t 48 then (bif Nat.blt t 24 then (bif Nat.blt t 12 then (bif Nat.blt t 6 then (bif Nat.blt t 3 then (bif Nat.blt t 1 then (0) else (bif Nat.blt t 2 then (0) else (12))) else (bif Nat.blt t 4 then (12) else (bif Nat.blt t 5 then (6) else (0)))) else (bif Nat.blt t 9 then (bif Nat.blt t 7 then (10) else (bif Nat.blt t 8 then (10) else (0))) else (bif Nat.blt t 10 then (10) else (bif Nat.blt t 11 then (0) else (5))))) else (bif Nat.blt t 18 then (bif Nat.blt t 15 then (bif Nat.blt t 13 then (5) else (bif Nat.blt t 14 then (5) else (5))) else (bif Nat.blt t 16 then (6) else (bif Nat.blt t 17 then (192) else (0)))) else (bif Nat.blt t 21 then (bif Nat.blt t 19 then (6) else (bif Nat.blt t 20 then (64) else (0))) else (bif Nat.blt t 22 then (250) else (bif Nat.blt t 23 then (8) else (0)))))) else (bif Nat.blt t 36 then (bif Nat.blt t 30 then (bif Nat.blt t 27 then (bif Nat.blt t 25 then (40) else (bif Nat.blt t 26 then (5) else (20))) else (bif Nat.blt t 28 then (0) else (bif Nat.blt t 29 then (0) else (0)))) else (bif Nat.blt t 33 then (bif Nat.blt t 31 then (0) else (bif Nat.blt t 32 then (7) else (178))) else (bif Nat.blt t 34 then (178) else (bif Nat.blt t 35 then (178) else (250))))) else (bif Nat.blt t 42 then (bif Nat.blt t 39 then (bif Nat.blt t 37 then (30) else (bif Nat.blt t 38 then (5) else (5))) else (bif Nat.blt t 40 then (5) else (bif Nat.blt t 41 then (890) else (6)))) else (bif Nat.blt t 45 then (bif Nat.blt t 43 then (8) else (bif Nat.blt t 44 then (8) else (320))) else (bif Nat.blt t 46 then (40) else (bif Nat.blt t 47 then (6) else (144))))))) else 0
def cnt (t : Nat) : Nat := bif Nat.blt t 53 then (bif Nat.blt t 26 then (bif Nat.blt t 13 then (bif Nat.blt t 6 then (bif Nat.blt t 3 then (bif Nat.blt t 1 then (1) else (bif Nat.blt t 2 then (3) else (3))) else (bif Nat.blt t 4 then (3) else (bif Nat.blt t 5 then (3) else (19)))) else (bif Nat.blt t 9 then (bif Nat.blt t 7 then (19) else (bif Nat.blt t 8 then (19) else (1))) else (bif Nat.blt t 11 then (bif Nat.blt t 10 then (1) else (1)) else (bif Nat.blt t 12 then (1) else (1))))) else (bif Nat.blt t 19 then (bif Nat.blt t 16 then (bif Nat.blt t 14 then (1) else (bif Nat.blt t 15 then (1) else (1))) else (bif Nat.blt t 17 then (1) else (bif Nat.blt t 18 then (1) else (1)))) else (bif Nat.blt t 22 then (bif Nat.blt t 20 then (1) else (bif Nat.blt t 21 then (1) else (1))) else (bif Nat.blt t 24 then (bif Nat.blt t 23 then (1) else (8)) else (bif Nat.blt t 25 then (8) else (1)))))) else (bif Nat.blt t 39 then (bif Nat.blt t 32 then (bif Nat.blt t 29 then (bif Nat.blt t 27 then (1) else (bif Nat.blt t 28 then (0) else (0))) else (bif Nat.blt t 30 then (0) else (bif Nat.blt t 31 then (1) else (1)))) else (bif Nat.blt t 35 then (bif Nat.blt t 33 then (1) else (bif Nat.blt t 34 then (1) else (1))) else (bif Nat.blt t 37 then (bif Nat.blt t 36 then (1) else (1)) else (bif Nat.blt t 38 then (1) else (1))))) else (bif Nat.blt t 46 then (bif Nat.blt t 42 then (bif Nat.blt t 40 then (1) else (bif Nat.blt t 41 then (1) else (1))) else (bif Nat.blt t 44 then (bif Nat.blt t 43 then (1) else (1)) else (bif Nat.blt t 45 then (1) else (1)))) else (bif Nat.blt t 49 then (bif Nat.blt t 47 then (1) else (bif Nat.blt t 48 then (1) else (0))) else (bif Nat.blt t 51 then (bif Nat.blt t 50 then (0) else (1)) else (bif Nat.blt t 52 then (0) else (5))))))) else 0
def frl (t : Nat) : List (Option (Nat × Option Nat)) := bif Nat.blt t 31 then (bif Nat.blt t 15 then (bif Nat.blt t 7 then (bif Nat.blt t 3 then (bif Nat.blt t 1 then ([some (1, some 0), some (1, some 1), some (1, some 2), some (5, some 18), some (8, some 0), some (10, some 0), some (17, some 0), some (20, some 0), some (22, some 0), some (25, some 0), some (26, some 0), none]) else (bif Nat.blt t 2 then ([some (2, none), some (3, none), some (4, none), none, none, none, none]) else ([]))) else (bif Nat.blt t 5 then (bif Nat.blt t 4 then ([]) else ([])) else (bif Nat.blt t 6 then ([some (6, none), some (7, none), none, none, none, none]) else ([])))) else (bif Nat.blt t 11 then (bif Nat.blt t 9 then (bif Nat.blt t 8 then ([]) else ([some (9, some 0), none, none, none, none, none, none, none, none])) else (bif Nat.blt t 10 then ([]) else ([some (11, some 0), some (12, some 0), none, none, some (13, some 0), some (14, some 0), some (15, some 0), some (16, some 0)]))) else (bif Nat.blt t 13 then (bif Nat.blt t 12 then ([]) else ([])) else (bif Nat.blt t 14 then ([]) else ([]))))) else (bif Nat.blt t 23 then (bif Nat.blt t 19 then (bif Nat.blt t 17 then (bif Nat.blt t 16 then ([]) else ([])) else (bif Nat.blt t 18 then ([some (18, some 0), some (19, some 0)]) else ([]))) else (bif Nat.blt t 21 then (bif Nat.blt t 20 then ([]) else ([none, none, some (21, some 0), none, none])) else (bif Nat.blt t 22 then ([]) else ([])))) else (bif Nat.blt t 27 then (bif Nat.blt t 25 then (bif Nat.blt t 24 then ([some (24, none), none, none]) else ([])) else (bif Nat.blt t 26 then ([]) else ([]))) else (bif Nat.blt t 29 then (bif Nat.blt t 28 then ([]) else ([])) else (bif Nat.blt t 30 then ([]) else ([some (31, some 0), some (32, some 0), some (33, some 0), some (34, some 0), none, some (35, some 0), none, none, none, none, some (36, some 0), some (37, some 0), some (38, some 0), some (39, some 0), some (40, some 0), none, none, some (41, some 0), some (42, some 0), some (43, some 0), some (44, some 0), some (45, some 0), some (46, some 0), some (47, some 0)])))))) else []
def fz (t k : Nat) : Bool := (Nat.beq t 0 && Nat.beq k 11) || (Nat.beq t 30 && Nat.beq k 4)
def slen (i : Nat) : Nat := (nth [5, 6, 5, 4, 5] i).getD 0
def schr (i j : Nat) : Int32 := (nth ((nth [[112, 111, 105, 110, 116], [112, 97, 114, 105, 115, 104], [119, 97, 110, 116, 115], [108, 105, 110, 101], [99, 108, 111, 117, 100]] i).getD []) j).getD 0
def swt (m pc : Nat) : List (Int32 × Nat) := bif Nat.beq m 9 && Nat.beq pc 11 then [(1, 44), (2, 64), (3, 53), (4, 70), (5, 85)] else
  bif Nat.beq m 11 && Nat.beq pc 1 then [(0, 36), (1, 49), (2, 54), (3, 59), (4, 64)] else
  bif Nat.beq m 36 && Nat.beq pc 4 then [(0, 36), (1, 49), (2, 62), (3, 74)] else
  bif Nat.beq m 90 && Nat.beq pc 16 then [(0, 48), (1, 58), (2, 68), (3, 77)] else
  bif Nat.beq m 91 && Nat.beq pc 38 then [(0, 100), (1, 105), (2, 110), (3, 115), (4, 123), (5, 131), (6, 139), (7, 147), (8, 155), (9, 171), (10, 187), (11, 192)] else
  bif Nat.beq m 95 && Nat.beq pc 16 then [(0, 44), (1, 64), (2, 78)] else
  bif Nat.beq m 102 && Nat.beq pc 47 then [(0, 72), (1, 87)] else
  bif Nat.beq m 108 && Nat.beq pc 1 then [(0, 84), (1, 92), (2, 100), (3, 108), (4, 116), (5, 121), (6, 129), (7, 137), (8, 145), (9, 185), (10, 185), (11, 185), (12, 150), (13, 157), (14, 164), (15, 171), (16, 178)] else
  bif Nat.beq m 178 && Nat.beq pc 28 then [(0, 88), (1, 88), (2, 88), (3, 103), (4, 109), (5, 115), (6, 122), (7, 128), (8, 135), (9, 149), (10, 155)] else
  bif Nat.beq m 198 && Nat.beq pc 1 then [(0, 36), (1, 42), (2, 48), (3, 54), (4, 60)] else
  bif Nat.beq m 222 && Nat.beq pc 27 then [(0, 76), (1, 85), (2, 94), (3, 103), (4, 108), (5, 138), (6, 143), (7, 148), (8, 157)] else
  bif Nat.beq m 227 && Nat.beq pc 33 then [(0, 188), (1, 231), (2, 304), (3, 367), (4, 401), (5, 424), (6, 457), (7, 490), (8, 523), (9, 556), (10, 615), (11, 658), (12, 701), (13, 724), (14, 747), (15, 760), (16, 773), (17, 806), (18, 839), (19, 852), (20, 885), (21, 918), (22, 951), (23, 974), (24, 987), (25, 1020), (26, 1043), (27, 1066), (28, 1109), (29, 1142), (30, 1165), (31, 1178), (32, 1201), (33, 1214), (34, 1227)] else
  []
end
section
/-! the methods' numbers -/
abbrev m_Bonds_find : Nat := 0
abbrev m_Bonds_fewestColours : Nat := 1
abbrev m_Bonds_hasNoBonds : Nat := 2
abbrev m_Bonds_steps : Nat := 3
abbrev m_Bonds_around : Nat := 4
abbrev m_Figure_measure : Nat := 5
abbrev m_Figure_countPieces : Nat := 6
abbrev m_Figure_pieceAround : Nat := 7
abbrev m_Figure_isClosed : Nat := 8
abbrev m_Figure_worthTo : Nat := 9
abbrev m_Figure_lessStrokes : Nat := 10
abbrev m_Figure_meritBy : Nat := 11
abbrev m_Parish_begin : Nat := 12
abbrev m_Parish_become : Nat := 13
abbrev m_Parish_wantsAll : Nat := 14
abbrev m_Parish_hasRoom : Nat := 15
abbrev m_Parish_ends : Nat := 16
abbrev m_Parish_find : Nat := 17
abbrev m_Parish_draw : Nat := 18
abbrev m_Parish_erase : Nat := 19
abbrev m_Parish_eraseAt : Nat := 20
abbrev m_Parish_lose : Nat := 21
abbrev m_Sharing_work : Nat := 22
abbrev m_Sharing_findPoints : Nat := 23
abbrev m_Sharing_findWorths : Nat := 24
abbrev m_Sharing_mayKeep : Nat := 25
abbrev m_Sharing_pointsBut : Nat := 26
abbrev m_Sharing_leastWorth : Nat := 27
abbrev m_Sharing_nextRow : Nat := 28
abbrev m_Sharing_turnKeep : Nat := 29
abbrev m_Sharing_nextWanter : Nat := 30
abbrev m_Shelf_takeRow : Nat := 31
abbrev m_Shelf_holdsParish : Nat := 32
abbrev m_Shelf_refusalAsRow : Nat := 33
abbrev m_Shelf_hasElement : Nat := 34
abbrev m_Shelf_hasSpan : Nat := 35
abbrev m_Shelf_put : Nat := 36
abbrev m_Shift_between : Nat := 37
abbrev m_Shift_leastRow : Nat := 38
abbrev m_Shift_leastColumn : Nat := 39
abbrev m_Shift_isWithin : Nat := 40
abbrev m_Shift_falls : Nat := 41
abbrev m_Sky_become : Nat := 42
abbrev m_Sky_hasRoomForPoint : Nat := 43
abbrev m_Sky_addPoint : Nat := 44
abbrev m_Sky_hasRoomForParish : Nat := 45
abbrev m_Sky_addParish : Nat := 46
abbrev m_Sky_rowOf : Nat := 47
abbrev m_Sky_columnOf : Nat := 48
abbrev m_Sky_length : Nat := 49
abbrev m_Sky_lightOf : Nat := 50
abbrev m_Sky_wantersOf : Nat := 51
abbrev m_Sky_isShared : Nat := 52
abbrev m_Sky_sharedPoints : Nat := 53
abbrev m_Sky_linesAt : Nat := 54
abbrev m_Sky_allLines : Nat := 55
abbrev m_Sky_joined : Nat := 56
abbrev m_Sky_lengthTo : Nat := 57
abbrev m_Sky_drawByLot : Nat := 58
abbrev m_Sky_lot : Nat := 59
abbrev m_Sky_wantedPoint : Nat := 60
abbrev m_Tape_append : Nat := 61
abbrev m_Tape_readInto : Nat := 62
abbrev m_Tape_skipBlanks : Nat := 63
abbrev m_Tape_readSemicolon : Nat := 64
abbrev m_Tape_readStatement : Nat := 65
abbrev m_Tape_isWord : Nat := 66
abbrev m_Tape_readNumber : Nat := 67
abbrev m_Tape_readPoint : Nat := 68
abbrev m_Tape_readParish : Nat := 69
abbrev m_Tape_readWants : Nat := 70
abbrev m_Tape_readLine : Nat := 71
abbrev m_Tape_allow : Nat := 72
abbrev m_Tape_readCloud : Nat := 73
abbrev m_C_row : Nat := 74
abbrev m_C_set : Nat := 75
abbrev m_C_copy : Nat := 76
abbrev m_C_element : Nat := 77
abbrev m_C_holds : Nat := 78
abbrev m_C_show : Nat := 79
abbrev m_C_says : Nat := 80
abbrev m_C_point : Nat := 81
abbrev m_C_parish : Nat := 82
abbrev m_C_wants : Nat := 83
abbrev m_C_line : Nat := 84
abbrev m_C_drop : Nat := 85
abbrev m_C_cloud : Nat := 86
abbrev m_C_feed : Nat := 87
abbrev m_C_wipe : Nat := 88
abbrev m_C_sky : Nat := 89
abbrev m_C_pointOf : Nat := 90
abbrev m_C_parishOf : Nat := 91
abbrev m_C_crowd : Nat := 92
abbrev m_C_lineOf : Nat := 93
abbrev m_C_shift : Nat := 94
abbrev m_C_better : Nat := 95
abbrev m_C_share : Nat := 96
abbrev m_C_colours : Nat := 97
abbrev m_C_way : Nat := 98
abbrev m_C_pick : Nat := 99
abbrev m_C_laws : Nat := 100
abbrev m_C_whose : Nat := 101
abbrev m_C_seen : Nat := 102
abbrev m_C_nights : Nat := 103
abbrev m_C_give : Nat := 104
abbrev m_C_seed : Nat := 105
abbrev m_C_image : Nat := 106
abbrev m_C_back : Nat := 107
abbrev m_C_status : Nat := 108
abbrev m_C_refuse : Nat := 109
abbrev m_C_isShelf : Nat := 110
abbrev m_C_isPoint : Nat := 111
abbrev m_C_isParish : Nat := 112
abbrev m_C_isPair : Nat := 113
abbrev m_C_isUnder : Nat := 114
abbrev m_C_worthOf : Nat := 115
abbrev m_C_spareWorth : Nat := 116
abbrev m_C_allWorth : Nat := 117
abbrev m_C_shelvesInUse : Nat := 118
abbrev m_C_bestNewLine : Nat := 119
abbrev m_C_worstLine : Nat := 120
abbrev m_C_pickedBy : Nat := 121
abbrev m_C_arePairs : Nat := 122
abbrev m_C_takeTold : Nat := 123
abbrev m_C_isTold : Nat := 124
abbrev m_C_nearestToTold : Nat := 125
abbrev m_C_differenceFromTold : Nat := 126
abbrev m_C_likelyAllSeen : Nat := 127
abbrev m_M_isIn : Nat := 128
abbrev m_M_refuse : Nat := 129
abbrev m_M_move : Nat := 130
abbrev m_M_isPoint : Nat := 131
abbrev m_M_isParish : Nat := 132
abbrev m_M_cell : Nat := 133
abbrev m_M_bright : Nat := 134
abbrev m_M_wanted : Nat := 135
abbrev m_M_isWanted : Nat := 136
abbrev m_M_kind : Nat := 137
abbrev m_M_a : Nat := 138
abbrev m_M_lines : Nat := 139
abbrev m_M_end : Nat := 140
abbrev m_M_addPoint : Nat := 141
abbrev m_M_addParish : Nat := 142
abbrev m_M_drawn : Nat := 143
abbrev m_M_draw : Nat := 144
abbrev m_M_erase : Nat := 145
abbrev m_M_eraseIn : Nat := 146
abbrev m_M_point : Nat := 147
abbrev m_M_parish : Nat := 148
abbrev m_M_wants : Nat := 149
abbrev m_M_isPair : Nat := 150
abbrev m_M_line : Nat := 151
abbrev m_M_drop : Nat := 152
abbrev m_M_cloud : Nat := 153
abbrev m_M_feed : Nat := 154
abbrev m_M_wipe : Nat := 155
abbrev m_M_sortAt : Nat := 156
abbrev m_M_next : Nat := 157
abbrev m_M_word : Nat := 158
abbrev m_M_number : Nat := 159
abbrev m_M_isLine : Nat := 160
abbrev m_M_isStatement : Nat := 161
abbrev m_M_sky : Nat := 162
abbrev m_M_length : Nat := 163
abbrev m_M_lengthOf : Nat := 164
abbrev m_M_lengths : Nat := 165
abbrev m_M_longest : Nat := 166
abbrev m_M_ones : Nat := 167
abbrev m_M_used : Nat := 168
abbrev m_M_odd : Nat := 169
abbrev m_M_light : Nat := 170
abbrev m_M_piece : Nat := 171
abbrev m_M_pieces : Nat := 172
abbrev m_M_isClosed : Nat := 173
abbrev m_M_worth : Nat := 174
abbrev m_M_wish : Nat := 175
abbrev m_M_meet : Nat := 176
abbrev m_M_pointOf : Nat := 177
abbrev m_M_parishOf : Nat := 178
abbrev m_M_crowd : Nat := 179
abbrev m_M_lineOf : Nat := 180
abbrev m_M_isAmong : Nat := 181
abbrev m_M_isShifted : Nat := 182
abbrev m_M_shift : Nat := 183
abbrev m_M_joined : Nat := 184
abbrev m_M_newLine : Nat := 185
abbrev m_M_worst : Nat := 186
abbrev m_M_better : Nat := 187
abbrev m_M_give_IV : Nat := 188
abbrev m_M_giveTo : Nat := 189
abbrev m_M_manyShared : Nat := 190
abbrev m_M_makeShare : Nat := 191
abbrev m_M_share : Nat := 192
abbrev m_M_give_I : Nat := 193
abbrev m_M_isBeside : Nat := 194
abbrev m_M_canColour : Nat := 195
abbrev m_M_colours : Nat := 196
abbrev m_M_way : Nat := 197
abbrev m_M_byLaw : Nat := 198
abbrev m_M_picked : Nat := 199
abbrev m_M_pick : Nat := 200
abbrev m_M_laws : Nat := 201
abbrev m_M_isShelf : Nat := 202
abbrev m_M_row : Nat := 203
abbrev m_M_rowIn : Nat := 204
abbrev m_M_set : Nat := 205
abbrev m_M_copy : Nat := 206
abbrev m_M_element : Nat := 207
abbrev m_M_holds : Nat := 208
abbrev m_M_show : Nat := 209
abbrev m_M_says : Nat := 210
abbrev m_M_unlike : Nat := 211
abbrev m_M_whose : Nat := 212
abbrev m_M_seen : Nat := 213
abbrev m_M_drawBelow : Nat := 214
abbrev m_M_among : Nat := 215
abbrev m_M_night : Nat := 216
abbrev m_M_allLines : Nat := 217
abbrev m_M_nights : Nat := 218
abbrev m_M_seed : Nat := 219
abbrev m_M_image : Nat := 220
abbrev m_M_back : Nat := 221
abbrev m_M_status : Nat := 222
abbrev m_Integer_numberOfTrailingZeros : Nat := 223
abbrev m_Integer_bitCount : Nat := 224
abbrev m_Arrays_fill_AJJV : Nat := 225
abbrev m_Arrays_fill_AIIV : Nat := 226
abbrev m_W_law : Nat := 227
end
section
/-! STATIC FACTS: whose a method is, its bytes, its name, what it returns; what the constant pools link -/
def byt (m : Nat) : ByteArray := bif Nat.blt m 228 then (bif Nat.blt m 114 then (bif Nat.blt m 57 then (bif Nat.blt m 28 then (bif Nat.blt m 14 then (bif Nat.blt m 7 then (bif Nat.blt m 3 then (bif Nat.blt m 1 then (cX0_find) else (bif Nat.blt m 2 then (cX0_fewestColours) else (cX0_hasNoBonds))) else (bif Nat.blt m 5 then (bif Nat.blt m 4 then (cX0_steps) else (cX0_around)) else (bif Nat.blt m 6 then (cX1_measure) else (cX1_countPieces)))) else (bif Nat.blt m 10 then (bif Nat.blt m 8 then (cX1_pieceAround) else (bif Nat.blt m 9 then (cX1_isClosed) else (cX1_worthTo))) else (bif Nat.blt m 12 then (bif Nat.blt m 11 then (cX1_lessStrokes) else (cX1_meritBy)) else (bif Nat.blt m 13 then (cX2_begin) else (cX2_become))))) else (bif Nat.blt m 21 then (bif Nat.blt m 17 then (bif Nat.blt m 15 then (cX2_wantsAll) else (bif Nat.blt m 16 then (cX2_hasRoom) else (cX2_ends))) else (bif Nat.blt m 19 then (bif Nat.blt m 18 then (cX2_find) else (cX2_draw)) else (bif Nat.blt m 20 then (cX2_erase) else (cX2_eraseAt)))) else (bif Nat.blt m 24 then (bif Nat.blt m 22 then (cX2_lose) else (bif Nat.blt m 23 then (cX3_work) else (cX3_findPoints))) else (bif Nat.blt m 26 then (bif Nat.blt m 25 then (cX3_findWorths) else (cX3_mayKeep)) else (bif Nat.blt m 27 then (cX3_pointsBut) else (cX3_leastWorth)))))) else (bif Nat.blt m 42 then (bif Nat.blt m 35 then (bif Nat.blt m 31 then (bif Nat.blt m 29 then (cX3_nextRow) else (bif Nat.blt m 30 then (cX3_turnKeep) else (cX3_nextWanter))) else (bif Nat.blt m 33 then (bif Nat.blt m 32 then (cX4_takeRow) else (cX4_holdsParish)) else (bif Nat.blt m 34 then (cX4_refusalAsRow) else (cX4_hasElement)))) else (bif Nat.blt m 38 then (bif Nat.blt m 36 then (cX4_hasSpan) else (bif Nat.blt m 37 then (cX4_put) else (cX5_between))) else (bif Nat.blt m 40 then (bif Nat.blt m 39 then (cX5_leastRow) else (cX5_leastColumn)) else (bif Nat.blt m 41 then (cX5_isWithin) else (cX5_falls))))) else (bif Nat.blt m 49 then (bif Nat.blt m 45 then (bif Nat.blt m 43 then (cX6_become) else (bif Nat.blt m 44 then (cX6_hasRoomForPoint) else (cX6_addPoint))) else (bif Nat.blt m 47 then (bif Nat.blt m 46 then (cX6_hasRoomForParish) else (cX6_addParish)) else (bif Nat.blt m 48 then (cX6_rowOf) else (cX6_columnOf)))) else (bif Nat.blt m 53 then (bif Nat.blt m 51 then (bif Nat.blt m 50 then (cX6_length) else (cX6_lightOf)) else (bif Nat.blt m 52 then (cX6_wantersOf) else (cX6_isShared))) else (bif Nat.blt m 55 then (bif Nat.blt m 54 then (cX6_sharedPoints) else (cX6_linesAt)) else (bif Nat.blt m 56 then (cX6_allLines) else (cX6_joined))))))) else (bif Nat.blt m 85 then (bif Nat.blt m 71 then (bif Nat.blt m 64 then (bif Nat.blt m 60 then (bif Nat.blt m 58 then (cX6_lengthTo) else (bif Nat.blt m 59 then (cX6_drawByLot) else (cX6_lot))) else (bif Nat.blt m 62 then (bif Nat.blt m 61 then (cX6_wantedPoint) else (cX7_append)) else (bif Nat.blt m 63 then (cX7_readInto) else (cX7_skipBlanks)))) else (bif Nat.blt m 67 then (bif Nat.blt m 65 then (cX7_readSemicolon) else (bif Nat.blt m 66 then (cX7_readStatement) else (cX7_isWord))) else (bif Nat.blt m 69 then (bif Nat.blt m 68 then (cX7_readNumber) else (cX7_readPoint)) else (bif Nat.blt m 70 then (cX7_readParish) else (cX7_readWants))))) else (bif Nat.blt m 78 then (bif Nat.blt m 74 then (bif Nat.blt m 72 then (cX7_readLine) else (bif Nat.blt m 73 then (cX7_allow) else (cX7_readCloud))) else (bif Nat.blt m 76 then (bif Nat.blt m 75 then (cX8_row) else (cX8_set)) else (bif Nat.blt m 77 then (cX8_copy) else (cX8_element)))) else (bif Nat.blt m 81 then (bif Nat.blt m 79 then (cX8_holds) else (bif Nat.blt m 80 then (cX8_show) else (cX8_says))) else (bif Nat.blt m 83 then (bif Nat.blt m 82 then (cX8_point) else (cX8_parish)) else (bif Nat.blt m 84 then (cX8_wants) else (cX8_line)))))) else (bif Nat.blt m 99 then (bif Nat.blt m 92 then (bif Nat.blt m 88 then (bif Nat.blt m 86 then (cX8_drop) else (bif Nat.blt m 87 then (cX8_cloud) else (cX8_feed))) else (bif Nat.blt m 90 then (bif Nat.blt m 89 then (cX8_wipe) else (cX8_sky)) else (bif Nat.blt m 91 then (cX8_pointOf) else (cX8_parishOf)))) else (bif Nat.blt m 95 then (bif Nat.blt m 93 then (cX8_crowd) else (bif Nat.blt m 94 then (cX8_lineOf) else (cX8_shift))) else (bif Nat.blt m 97 then (bif Nat.blt m 96 then (cX8_better) else (cX8_share)) else (bif Nat.blt m 98 then (cX8_colours) else (cX8_way))))) else (bif Nat.blt m 106 then (bif Nat.blt m 102 then (bif Nat.blt m 100 then (cX8_pick) else (bif Nat.blt m 101 then (cX8_laws) else (cX8_whose))) else (bif Nat.blt m 104 then (bif Nat.blt m 103 then (cX8_seen) else (cX8_nights)) else (bif Nat.blt m 105 then (cX8_give) else (cX8_seed)))) else (bif Nat.blt m 110 then (bif Nat.blt m 108 then (bif Nat.blt m 107 then (cX8_image) else (cX8_back)) else (bif Nat.blt m 109 then (cX8_status) else (cX8_refuse))) else (bif Nat.blt m 112 then (bif Nat.blt m 111 then (cX8_isShelf) else (cX8_isPoint)) else (bif Nat.blt m 113 then (cX8_isParish) else (cX8_isPair)))))))) else (bif Nat.blt m 171 then (bif Nat.blt m 142 then (bif Nat.blt m 128 then (bif Nat.blt m 121 then (bif Nat.blt m 117 then (bif Nat.blt m 115 then (cX8_isUnder) else (bif Nat.blt m 116 then (cX8_worthOf) else (cX8_spareWorth))) else (bif Nat.blt m 119 then (bif Nat.blt m 118 then (cX8_allWorth) else (cX8_shelvesInUse)) else (bif Nat.blt m 120 then (cX8_bestNewLine) else (cX8_worstLine)))) else (bif Nat.blt m 124 then (bif Nat.blt m 122 then (cX8_pickedBy) else (bif Nat.blt m 123 then (cX8_arePairs) else (cX8_takeTold))) else (bif Nat.blt m 126 then (bif Nat.blt m 125 then (cX8_isTold) else (cX8_nearestToTold)) else (bif Nat.blt m 127 then (cX8_differenceFromTold) else (cX8_likelyAllSeen))))) else (bif Nat.blt m 135 then (bif Nat.blt m 131 then (bif Nat.blt m 129 then (cX9_isIn) else (bif Nat.blt m 130 then (cX9_refuse) else (cX9_move))) else (bif Nat.blt m 133 then (bif Nat.blt m 132 then (cX9_isPoint) else (cX9_isParish)) else (bif Nat.blt m 134 then (cX9_cell) else (cX9_bright)))) else (bif Nat.blt m 138 then (bif Nat.blt m 136 then (cX9_wanted) else (bif Nat.blt m 137 then (cX9_isWanted) else (cX9_kind))) else (bif Nat.blt m 140 then (bif Nat.blt m 139 then (cX9_a) else (cX9_lines)) else (bif Nat.blt m 141 then (cX9_end) else (cX9_addPoint)))))) else (bif Nat.blt m 156 then (bif Nat.blt m 149 then (bif Nat.blt m 145 then (bif Nat.blt m 143 then (cX9_addParish) else (bif Nat.blt m 144 then (cX9_drawn) else (cX9_draw))) else (bif Nat.blt m 147 then (bif Nat.blt m 146 then (cX9_erase) else (cX9_eraseIn)) else (bif Nat.blt m 148 then (cX9_point) else (cX9_parish)))) else (bif Nat.blt m 152 then (bif Nat.blt m 150 then (cX9_wants) else (bif Nat.blt m 151 then (cX9_isPair) else (cX9_line))) else (bif Nat.blt m 154 then (bif Nat.blt m 153 then (cX9_drop) else (cX9_cloud)) else (bif Nat.blt m 155 then (cX9_feed) else (cX9_wipe))))) else (bif Nat.blt m 163 then (bif Nat.blt m 159 then (bif Nat.blt m 157 then (cX9_sortAt) else (bif Nat.blt m 158 then (cX9_next) else (cX9_word))) else (bif Nat.blt m 161 then (bif Nat.blt m 160 then (cX9_number) else (cX9_isLine)) else (bif Nat.blt m 162 then (cX9_isStatement) else (cX9_sky)))) else (bif Nat.blt m 167 then (bif Nat.blt m 165 then (bif Nat.blt m 164 then (cX9_length) else (cX9_lengthOf)) else (bif Nat.blt m 166 then (cX9_lengths) else (cX9_longest))) else (bif Nat.blt m 169 then (bif Nat.blt m 168 then (cX9_ones) else (cX9_used)) else (bif Nat.blt m 170 then (cX9_odd) else (cX9_light))))))) else (bif Nat.blt m 199 then (bif Nat.blt m 185 then (bif Nat.blt m 178 then (bif Nat.blt m 174 then (bif Nat.blt m 172 then (cX9_piece) else (bif Nat.blt m 173 then (cX9_pieces) else (cX9_isClosed))) else (bif Nat.blt m 176 then (bif Nat.blt m 175 then (cX9_worth) else (cX9_wish)) else (bif Nat.blt m 177 then (cX9_meet) else (cX9_pointOf)))) else (bif Nat.blt m 181 then (bif Nat.blt m 179 then (cX9_parishOf) else (bif Nat.blt m 180 then (cX9_crowd) else (cX9_lineOf))) else (bif Nat.blt m 183 then (bif Nat.blt m 182 then (cX9_isAmong) else (cX9_isShifted)) else (bif Nat.blt m 184 then (cX9_shift) else (cX9_joined))))) else (bif Nat.blt m 192 then (bif Nat.blt m 188 then (bif Nat.blt m 186 then (cX9_newLine) else (bif Nat.blt m 187 then (cX9_worst) else (cX9_better))) else (bif Nat.blt m 190 then (bif Nat.blt m 189 then (cX9_give) else (cX9_giveTo)) else (bif Nat.blt m 191 then (cX9_manyShared) else (cX9_makeShare)))) else (bif Nat.blt m 195 then (bif Nat.blt m 193 then (cX9_share) else (bif Nat.blt m 194 then (cX9_give_) else (cX9_isBeside))) else (bif Nat.blt m 197 then (bif Nat.blt m 196 then (cX9_canColour) else (cX9_colours)) else (bif Nat.blt m 198 then (cX9_way) else (cX9_byLaw)))))) else (bif Nat.blt m 213 then (bif Nat.blt m 206 then (bif Nat.blt m 202 then (bif Nat.blt m 200 then (cX9_picked) else (bif Nat.blt m 201 then (cX9_pick) else (cX9_laws))) else (bif Nat.blt m 204 then (bif Nat.blt m 203 then (cX9_isShelf) else (cX9_row)) else (bif Nat.blt m 205 then (cX9_rowIn) else (cX9_set)))) else (bif Nat.blt m 209 then (bif Nat.blt m 207 then (cX9_copy) else (bif Nat.blt m 208 then (cX9_element) else (cX9_holds))) else (bif Nat.blt m 211 then (bif Nat.blt m 210 then (cX9_show) else (cX9_says)) else (bif Nat.blt m 212 then (cX9_unlike) else (cX9_whose))))) else (bif Nat.blt m 220 then (bif Nat.blt m 216 then (bif Nat.blt m 214 then (cX9_seen) else (bif Nat.blt m 215 then (cX9_drawBelow) else (cX9_among))) else (bif Nat.blt m 218 then (bif Nat.blt m 217 then (cX9_night) else (cX9_allLines)) else (bif Nat.blt m 219 then (cX9_nights) else (cX9_seed)))) else (bif Nat.blt m 224 then (bif Nat.blt m 222 then (bif Nat.blt m 221 then (cX9_image) else (cX9_back)) else (bif Nat.blt m 223 then (cX9_status) else (cJ6_numberOfTrailingZeros_0f7a4))) else (bif Nat.blt m 226 then (bif Nat.blt m 225 then (cJ6_bitCount_0f7a4) else (cJ7_fill_d0a16)) else (bif Nat.blt m 227 then (cJ7_fill_53178) else (cL_law))))))))) else cL_law
def yM (m : Nat) : MethodName := bif Nat.blt m 228 then (bif Nat.blt m 114 then (bif Nat.blt m 57 then (bif Nat.blt m 28 then (bif Nat.blt m 14 then (bif Nat.blt m 7 then (bif Nat.blt m 3 then (bif Nat.blt m 1 then (yX0_find) else (bif Nat.blt m 2 then (yX0_fewestColours) else (yX0_hasNoBonds))) else (bif Nat.blt m 5 then (bif Nat.blt m 4 then (yX0_steps) else (yX0_around)) else (bif Nat.blt m 6 then (yX1_measure) else (yX1_countPieces)))) else (bif Nat.blt m 10 then (bif Nat.blt m 8 then (yX1_pieceAround) else (bif Nat.blt m 9 then (yX1_isClosed) else (yX1_worthTo))) else (bif Nat.blt m 12 then (bif Nat.blt m 11 then (yX1_lessStrokes) else (yX1_meritBy)) else (bif Nat.blt m 13 then (yX2_begin) else (yX2_become))))) else (bif Nat.blt m 21 then (bif Nat.blt m 17 then (bif Nat.blt m 15 then (yX2_wantsAll) else (bif Nat.blt m 16 then (yX2_hasRoom) else (yX2_ends))) else (bif Nat.blt m 19 then (bif Nat.blt m 18 then (yX2_find) else (yX2_draw)) else (bif Nat.blt m 20 then (yX2_erase) else (yX2_eraseAt)))) else (bif Nat.blt m 24 then (bif Nat.blt m 22 then (yX2_lose) else (bif Nat.blt m 23 then (yX3_work) else (yX3_findPoints))) else (bif Nat.blt m 26 then (bif Nat.blt m 25 then (yX3_findWorths) else (yX3_mayKeep)) else (bif Nat.blt m 27 then (yX3_pointsBut) else (yX3_leastWorth)))))) else (bif Nat.blt m 42 then (bif Nat.blt m 35 then (bif Nat.blt m 31 then (bif Nat.blt m 29 then (yX3_nextRow) else (bif Nat.blt m 30 then (yX3_turnKeep) else (yX3_nextWanter))) else (bif Nat.blt m 33 then (bif Nat.blt m 32 then (yX4_takeRow) else (yX4_holdsParish)) else (bif Nat.blt m 34 then (yX4_refusalAsRow) else (yX4_hasElement)))) else (bif Nat.blt m 38 then (bif Nat.blt m 36 then (yX4_hasSpan) else (bif Nat.blt m 37 then (yX4_put) else (yX5_between))) else (bif Nat.blt m 40 then (bif Nat.blt m 39 then (yX5_leastRow) else (yX5_leastColumn)) else (bif Nat.blt m 41 then (yX5_isWithin) else (yX5_falls))))) else (bif Nat.blt m 49 then (bif Nat.blt m 45 then (bif Nat.blt m 43 then (yX6_become) else (bif Nat.blt m 44 then (yX6_hasRoomForPoint) else (yX6_addPoint))) else (bif Nat.blt m 47 then (bif Nat.blt m 46 then (yX6_hasRoomForParish) else (yX6_addParish)) else (bif Nat.blt m 48 then (yX6_rowOf) else (yX6_columnOf)))) else (bif Nat.blt m 53 then (bif Nat.blt m 51 then (bif Nat.blt m 50 then (yX6_length) else (yX6_lightOf)) else (bif Nat.blt m 52 then (yX6_wantersOf) else (yX6_isShared))) else (bif Nat.blt m 55 then (bif Nat.blt m 54 then (yX6_sharedPoints) else (yX6_linesAt)) else (bif Nat.blt m 56 then (yX6_allLines) else (yX6_joined))))))) else (bif Nat.blt m 85 then (bif Nat.blt m 71 then (bif Nat.blt m 64 then (bif Nat.blt m 60 then (bif Nat.blt m 58 then (yX6_lengthTo) else (bif Nat.blt m 59 then (yX6_drawByLot) else (yX6_lot))) else (bif Nat.blt m 62 then (bif Nat.blt m 61 then (yX6_wantedPoint) else (yX7_append)) else (bif Nat.blt m 63 then (yX7_readInto) else (yX7_skipBlanks)))) else (bif Nat.blt m 67 then (bif Nat.blt m 65 then (yX7_readSemicolon) else (bif Nat.blt m 66 then (yX7_readStatement) else (yX7_isWord))) else (bif Nat.blt m 69 then (bif Nat.blt m 68 then (yX7_readNumber) else (yX7_readPoint)) else (bif Nat.blt m 70 then (yX7_readParish) else (yX7_readWants))))) else (bif Nat.blt m 78 then (bif Nat.blt m 74 then (bif Nat.blt m 72 then (yX7_readLine) else (bif Nat.blt m 73 then (yX7_allow) else (yX7_readCloud))) else (bif Nat.blt m 76 then (bif Nat.blt m 75 then (yX8_row) else (yX8_set)) else (bif Nat.blt m 77 then (yX8_copy) else (yX8_element)))) else (bif Nat.blt m 81 then (bif Nat.blt m 79 then (yX8_holds) else (bif Nat.blt m 80 then (yX8_show) else (yX8_says))) else (bif Nat.blt m 83 then (bif Nat.blt m 82 then (yX8_point) else (yX8_parish)) else (bif Nat.blt m 84 then (yX8_wants) else (yX8_line)))))) else (bif Nat.blt m 99 then (bif Nat.blt m 92 then (bif Nat.blt m 88 then (bif Nat.blt m 86 then (yX8_drop) else (bif Nat.blt m 87 then (yX8_cloud) else (yX8_feed))) else (bif Nat.blt m 90 then (bif Nat.blt m 89 then (yX8_wipe) else (yX8_sky)) else (bif Nat.blt m 91 then (yX8_pointOf) else (yX8_parishOf)))) else (bif Nat.blt m 95 then (bif Nat.blt m 93 then (yX8_crowd) else (bif Nat.blt m 94 then (yX8_lineOf) else (yX8_shift))) else (bif Nat.blt m 97 then (bif Nat.blt m 96 then (yX8_better) else (yX8_share)) else (bif Nat.blt m 98 then (yX8_colours) else (yX8_way))))) else (bif Nat.blt m 106 then (bif Nat.blt m 102 then (bif Nat.blt m 100 then (yX8_pick) else (bif Nat.blt m 101 then (yX8_laws) else (yX8_whose))) else (bif Nat.blt m 104 then (bif Nat.blt m 103 then (yX8_seen) else (yX8_nights)) else (bif Nat.blt m 105 then (yX8_give) else (yX8_seed)))) else (bif Nat.blt m 110 then (bif Nat.blt m 108 then (bif Nat.blt m 107 then (yX8_image) else (yX8_back)) else (bif Nat.blt m 109 then (yX8_status) else (yX8_refuse))) else (bif Nat.blt m 112 then (bif Nat.blt m 111 then (yX8_isShelf) else (yX8_isPoint)) else (bif Nat.blt m 113 then (yX8_isParish) else (yX8_isPair)))))))) else (bif Nat.blt m 171 then (bif Nat.blt m 142 then (bif Nat.blt m 128 then (bif Nat.blt m 121 then (bif Nat.blt m 117 then (bif Nat.blt m 115 then (yX8_isUnder) else (bif Nat.blt m 116 then (yX8_worthOf) else (yX8_spareWorth))) else (bif Nat.blt m 119 then (bif Nat.blt m 118 then (yX8_allWorth) else (yX8_shelvesInUse)) else (bif Nat.blt m 120 then (yX8_bestNewLine) else (yX8_worstLine)))) else (bif Nat.blt m 124 then (bif Nat.blt m 122 then (yX8_pickedBy) else (bif Nat.blt m 123 then (yX8_arePairs) else (yX8_takeTold))) else (bif Nat.blt m 126 then (bif Nat.blt m 125 then (yX8_isTold) else (yX8_nearestToTold)) else (bif Nat.blt m 127 then (yX8_differenceFromTold) else (yX8_likelyAllSeen))))) else (bif Nat.blt m 135 then (bif Nat.blt m 131 then (bif Nat.blt m 129 then (yX9_isIn) else (bif Nat.blt m 130 then (yX9_refuse) else (yX9_move))) else (bif Nat.blt m 133 then (bif Nat.blt m 132 then (yX9_isPoint) else (yX9_isParish)) else (bif Nat.blt m 134 then (yX9_cell) else (yX9_bright)))) else (bif Nat.blt m 138 then (bif Nat.blt m 136 then (yX9_wanted) else (bif Nat.blt m 137 then (yX9_isWanted) else (yX9_kind))) else (bif Nat.blt m 140 then (bif Nat.blt m 139 then (yX9_a) else (yX9_lines)) else (bif Nat.blt m 141 then (yX9_end) else (yX9_addPoint)))))) else (bif Nat.blt m 156 then (bif Nat.blt m 149 then (bif Nat.blt m 145 then (bif Nat.blt m 143 then (yX9_addParish) else (bif Nat.blt m 144 then (yX9_drawn) else (yX9_draw))) else (bif Nat.blt m 147 then (bif Nat.blt m 146 then (yX9_erase) else (yX9_eraseIn)) else (bif Nat.blt m 148 then (yX9_point) else (yX9_parish)))) else (bif Nat.blt m 152 then (bif Nat.blt m 150 then (yX9_wants) else (bif Nat.blt m 151 then (yX9_isPair) else (yX9_line))) else (bif Nat.blt m 154 then (bif Nat.blt m 153 then (yX9_drop) else (yX9_cloud)) else (bif Nat.blt m 155 then (yX9_feed) else (yX9_wipe))))) else (bif Nat.blt m 163 then (bif Nat.blt m 159 then (bif Nat.blt m 157 then (yX9_sortAt) else (bif Nat.blt m 158 then (yX9_next) else (yX9_word))) else (bif Nat.blt m 161 then (bif Nat.blt m 160 then (yX9_number) else (yX9_isLine)) else (bif Nat.blt m 162 then (yX9_isStatement) else (yX9_sky)))) else (bif Nat.blt m 167 then (bif Nat.blt m 165 then (bif Nat.blt m 164 then (yX9_length) else (yX9_lengthOf)) else (bif Nat.blt m 166 then (yX9_lengths) else (yX9_longest))) else (bif Nat.blt m 169 then (bif Nat.blt m 168 then (yX9_ones) else (yX9_used)) else (bif Nat.blt m 170 then (yX9_odd) else (yX9_light))))))) else (bif Nat.blt m 199 then (bif Nat.blt m 185 then (bif Nat.blt m 178 then (bif Nat.blt m 174 then (bif Nat.blt m 172 then (yX9_piece) else (bif Nat.blt m 173 then (yX9_pieces) else (yX9_isClosed))) else (bif Nat.blt m 176 then (bif Nat.blt m 175 then (yX9_worth) else (yX9_wish)) else (bif Nat.blt m 177 then (yX9_meet) else (yX9_pointOf)))) else (bif Nat.blt m 181 then (bif Nat.blt m 179 then (yX9_parishOf) else (bif Nat.blt m 180 then (yX9_crowd) else (yX9_lineOf))) else (bif Nat.blt m 183 then (bif Nat.blt m 182 then (yX9_isAmong) else (yX9_isShifted)) else (bif Nat.blt m 184 then (yX9_shift) else (yX9_joined))))) else (bif Nat.blt m 192 then (bif Nat.blt m 188 then (bif Nat.blt m 186 then (yX9_newLine) else (bif Nat.blt m 187 then (yX9_worst) else (yX9_better))) else (bif Nat.blt m 190 then (bif Nat.blt m 189 then (yX9_give) else (yX9_giveTo)) else (bif Nat.blt m 191 then (yX9_manyShared) else (yX9_makeShare)))) else (bif Nat.blt m 195 then (bif Nat.blt m 193 then (yX9_share) else (bif Nat.blt m 194 then (yX9_give_) else (yX9_isBeside))) else (bif Nat.blt m 197 then (bif Nat.blt m 196 then (yX9_canColour) else (yX9_colours)) else (bif Nat.blt m 198 then (yX9_way) else (yX9_byLaw)))))) else (bif Nat.blt m 213 then (bif Nat.blt m 206 then (bif Nat.blt m 202 then (bif Nat.blt m 200 then (yX9_picked) else (bif Nat.blt m 201 then (yX9_pick) else (yX9_laws))) else (bif Nat.blt m 204 then (bif Nat.blt m 203 then (yX9_isShelf) else (yX9_row)) else (bif Nat.blt m 205 then (yX9_rowIn) else (yX9_set)))) else (bif Nat.blt m 209 then (bif Nat.blt m 207 then (yX9_copy) else (bif Nat.blt m 208 then (yX9_element) else (yX9_holds))) else (bif Nat.blt m 211 then (bif Nat.blt m 210 then (yX9_show) else (yX9_says)) else (bif Nat.blt m 212 then (yX9_unlike) else (yX9_whose))))) else (bif Nat.blt m 220 then (bif Nat.blt m 216 then (bif Nat.blt m 214 then (yX9_seen) else (bif Nat.blt m 215 then (yX9_drawBelow) else (yX9_among))) else (bif Nat.blt m 218 then (bif Nat.blt m 217 then (yX9_night) else (yX9_allLines)) else (bif Nat.blt m 219 then (yX9_nights) else (yX9_seed)))) else (bif Nat.blt m 224 then (bif Nat.blt m 222 then (bif Nat.blt m 221 then (yX9_image) else (yX9_back)) else (bif Nat.blt m 223 then (yX9_status) else (yJ6_numberOfTrailingZeros_0f7a4))) else (bif Nat.blt m 226 then (bif Nat.blt m 225 then (yJ6_bitCount_0f7a4) else (yJ7_fill_d0a16)) else (bif Nat.blt m 227 then (yJ7_fill_53178) else (yL_law))))))))) else yL_law
def ow (m : Nat) : Nat := bif Nat.blt m 228 then (bif Nat.blt m 114 then (bif Nat.blt m 57 then (bif Nat.blt m 28 then (bif Nat.blt m 14 then (bif Nat.blt m 7 then (bif Nat.blt m 3 then (bif Nat.blt m 1 then (1) else (bif Nat.blt m 2 then (1) else (1))) else (bif Nat.blt m 5 then (bif Nat.blt m 4 then (1) else (1)) else (bif Nat.blt m 6 then (2) else (2)))) else (bif Nat.blt m 10 then (bif Nat.blt m 8 then (2) else (bif Nat.blt m 9 then (2) else (2))) else (bif Nat.blt m 12 then (bif Nat.blt m 11 then (2) else (2)) else (bif Nat.blt m 13 then (3) else (3))))) else (bif Nat.blt m 21 then (bif Nat.blt m 17 then (bif Nat.blt m 15 then (3) else (bif Nat.blt m 16 then (3) else (3))) else (bif Nat.blt m 19 then (bif Nat.blt m 18 then (3) else (3)) else (bif Nat.blt m 20 then (3) else (3)))) else (bif Nat.blt m 24 then (bif Nat.blt m 22 then (3) else (bif Nat.blt m 23 then (4) else (4))) else (bif Nat.blt m 26 then (bif Nat.blt m 25 then (4) else (4)) else (bif Nat.blt m 27 then (4) else (4)))))) else (bif Nat.blt m 42 then (bif Nat.blt m 35 then (bif Nat.blt m 31 then (bif Nat.blt m 29 then (4) else (bif Nat.blt m 30 then (4) else (4))) else (bif Nat.blt m 33 then (bif Nat.blt m 32 then (5) else (5)) else (bif Nat.blt m 34 then (5) else (5)))) else (bif Nat.blt m 38 then (bif Nat.blt m 36 then (5) else (bif Nat.blt m 37 then (5) else (6))) else (bif Nat.blt m 40 then (bif Nat.blt m 39 then (6) else (6)) else (bif Nat.blt m 41 then (6) else (6))))) else (bif Nat.blt m 49 then (bif Nat.blt m 45 then (bif Nat.blt m 43 then (7) else (bif Nat.blt m 44 then (7) else (7))) else (bif Nat.blt m 47 then (bif Nat.blt m 46 then (7) else (7)) else (bif Nat.blt m 48 then (7) else (7)))) else (bif Nat.blt m 53 then (bif Nat.blt m 51 then (bif Nat.blt m 50 then (7) else (7)) else (bif Nat.blt m 52 then (7) else (7))) else (bif Nat.blt m 55 then (bif Nat.blt m 54 then (7) else (7)) else (bif Nat.blt m 56 then (7) else (7))))))) else (bif Nat.blt m 85 then (bif Nat.blt m 71 then (bif Nat.blt m 64 then (bif Nat.blt m 60 then (bif Nat.blt m 58 then (7) else (bif Nat.blt m 59 then (7) else (7))) else (bif Nat.blt m 62 then (bif Nat.blt m 61 then (7) else (8)) else (bif Nat.blt m 63 then (8) else (8)))) else (bif Nat.blt m 67 then (bif Nat.blt m 65 then (8) else (bif Nat.blt m 66 then (8) else (8))) else (bif Nat.blt m 69 then (bif Nat.blt m 68 then (8) else (8)) else (bif Nat.blt m 70 then (8) else (8))))) else (bif Nat.blt m 78 then (bif Nat.blt m 74 then (bif Nat.blt m 72 then (8) else (bif Nat.blt m 73 then (8) else (8))) else (bif Nat.blt m 76 then (bif Nat.blt m 75 then (0) else (0)) else (bif Nat.blt m 77 then (0) else (0)))) else (bif Nat.blt m 81 then (bif Nat.blt m 79 then (0) else (bif Nat.blt m 80 then (0) else (0))) else (bif Nat.blt m 83 then (bif Nat.blt m 82 then (0) else (0)) else (bif Nat.blt m 84 then (0) else (0)))))) else (bif Nat.blt m 99 then (bif Nat.blt m 92 then (bif Nat.blt m 88 then (bif Nat.blt m 86 then (0) else (bif Nat.blt m 87 then (0) else (0))) else (bif Nat.blt m 90 then (bif Nat.blt m 89 then (0) else (0)) else (bif Nat.blt m 91 then (0) else (0)))) else (bif Nat.blt m 95 then (bif Nat.blt m 93 then (0) else (bif Nat.blt m 94 then (0) else (0))) else (bif Nat.blt m 97 then (bif Nat.blt m 96 then (0) else (0)) else (bif Nat.blt m 98 then (0) else (0))))) else (bif Nat.blt m 106 then (bif Nat.blt m 102 then (bif Nat.blt m 100 then (0) else (bif Nat.blt m 101 then (0) else (0))) else (bif Nat.blt m 104 then (bif Nat.blt m 103 then (0) else (0)) else (bif Nat.blt m 105 then (0) else (0)))) else (bif Nat.blt m 110 then (bif Nat.blt m 108 then (bif Nat.blt m 107 then (0) else (0)) else (bif Nat.blt m 109 then (0) else (0))) else (bif Nat.blt m 112 then (bif Nat.blt m 111 then (0) else (0)) else (bif Nat.blt m 113 then (0) else (0)))))))) else (bif Nat.blt m 171 then (bif Nat.blt m 142 then (bif Nat.blt m 128 then (bif Nat.blt m 121 then (bif Nat.blt m 117 then (bif Nat.blt m 115 then (0) else (bif Nat.blt m 116 then (0) else (0))) else (bif Nat.blt m 119 then (bif Nat.blt m 118 then (0) else (0)) else (bif Nat.blt m 120 then (0) else (0)))) else (bif Nat.blt m 124 then (bif Nat.blt m 122 then (0) else (bif Nat.blt m 123 then (0) else (0))) else (bif Nat.blt m 126 then (bif Nat.blt m 125 then (0) else (0)) else (bif Nat.blt m 127 then (0) else (0))))) else (bif Nat.blt m 135 then (bif Nat.blt m 131 then (bif Nat.blt m 129 then (10) else (bif Nat.blt m 130 then (10) else (10))) else (bif Nat.blt m 133 then (bif Nat.blt m 132 then (10) else (10)) else (bif Nat.blt m 134 then (10) else (10)))) else (bif Nat.blt m 138 then (bif Nat.blt m 136 then (10) else (bif Nat.blt m 137 then (10) else (10))) else (bif Nat.blt m 140 then (bif Nat.blt m 139 then (10) else (10)) else (bif Nat.blt m 141 then (10) else (10)))))) else (bif Nat.blt m 156 then (bif Nat.blt m 149 then (bif Nat.blt m 145 then (bif Nat.blt m 143 then (10) else (bif Nat.blt m 144 then (10) else (10))) else (bif Nat.blt m 147 then (bif Nat.blt m 146 then (10) else (10)) else (bif Nat.blt m 148 then (10) else (10)))) else (bif Nat.blt m 152 then (bif Nat.blt m 150 then (10) else (bif Nat.blt m 151 then (10) else (10))) else (bif Nat.blt m 154 then (bif Nat.blt m 153 then (10) else (10)) else (bif Nat.blt m 155 then (10) else (10))))) else (bif Nat.blt m 163 then (bif Nat.blt m 159 then (bif Nat.blt m 157 then (10) else (bif Nat.blt m 158 then (10) else (10))) else (bif Nat.blt m 161 then (bif Nat.blt m 160 then (10) else (10)) else (bif Nat.blt m 162 then (10) else (10)))) else (bif Nat.blt m 167 then (bif Nat.blt m 165 then (bif Nat.blt m 164 then (10) else (10)) else (bif Nat.blt m 166 then (10) else (10))) else (bif Nat.blt m 169 then (bif Nat.blt m 168 then (10) else (10)) else (bif Nat.blt m 170 then (10) else (10))))))) else (bif Nat.blt m 199 then (bif Nat.blt m 185 then (bif Nat.blt m 178 then (bif Nat.blt m 174 then (bif Nat.blt m 172 then (10) else (bif Nat.blt m 173 then (10) else (10))) else (bif Nat.blt m 176 then (bif Nat.blt m 175 then (10) else (10)) else (bif Nat.blt m 177 then (10) else (10)))) else (bif Nat.blt m 181 then (bif Nat.blt m 179 then (10) else (bif Nat.blt m 180 then (10) else (10))) else (bif Nat.blt m 183 then (bif Nat.blt m 182 then (10) else (10)) else (bif Nat.blt m 184 then (10) else (10))))) else (bif Nat.blt m 192 then (bif Nat.blt m 188 then (bif Nat.blt m 186 then (10) else (bif Nat.blt m 187 then (10) else (10))) else (bif Nat.blt m 190 then (bif Nat.blt m 189 then (10) else (10)) else (bif Nat.blt m 191 then (10) else (10)))) else (bif Nat.blt m 195 then (bif Nat.blt m 193 then (10) else (bif Nat.blt m 194 then (10) else (10))) else (bif Nat.blt m 197 then (bif Nat.blt m 196 then (10) else (10)) else (bif Nat.blt m 198 then (10) else (10)))))) else (bif Nat.blt m 213 then (bif Nat.blt m 206 then (bif Nat.blt m 202 then (bif Nat.blt m 200 then (10) else (bif Nat.blt m 201 then (10) else (10))) else (bif Nat.blt m 204 then (bif Nat.blt m 203 then (10) else (10)) else (bif Nat.blt m 205 then (10) else (10)))) else (bif Nat.blt m 209 then (bif Nat.blt m 207 then (10) else (bif Nat.blt m 208 then (10) else (10))) else (bif Nat.blt m 211 then (bif Nat.blt m 210 then (10) else (10)) else (bif Nat.blt m 212 then (10) else (10))))) else (bif Nat.blt m 220 then (bif Nat.blt m 216 then (bif Nat.blt m 214 then (10) else (bif Nat.blt m 215 then (10) else (10))) else (bif Nat.blt m 218 then (bif Nat.blt m 217 then (10) else (10)) else (bif Nat.blt m 219 then (10) else (10)))) else (bif Nat.blt m 224 then (bif Nat.blt m 222 then (bif Nat.blt m 221 then (10) else (10)) else (bif Nat.blt m 223 then (10) else (11))) else (bif Nat.blt m 226 then (bif Nat.blt m 225 then (11) else (12)) else (bif Nat.blt m 227 then (12) else (9))))))))) else 0
def owS (t : Nat) : String := bif Nat.blt t 13 then (bif Nat.blt t 6 then (bif Nat.blt t 3 then (bif Nat.blt t 1 then (RX8) else (bif Nat.blt t 2 then (RX0) else (RX1))) else (bif Nat.blt t 4 then (RX2) else (bif Nat.blt t 5 then (RX3) else (RX4)))) else (bif Nat.blt t 9 then (bif Nat.blt t 7 then (RX5) else (bif Nat.blt t 8 then (RX6) else (RX7))) else (bif Nat.blt t 11 then (bif Nat.blt t 10 then (RL) else (RX9)) else (bif Nat.blt t 12 then (RJ6) else (RJ7))))) else ""
def retT (m : Nat) : Option FieldType := bif Nat.blt m 228 then (bif Nat.blt m 114 then (bif Nat.blt m 57 then (bif Nat.blt m 28 then (bif Nat.blt m 14 then (bif Nat.blt m 7 then (bif Nat.blt m 3 then (bif Nat.blt m 1 then (none) else (bif Nat.blt m 2 then (some .int) else (some .boolean))) else (bif Nat.blt m 5 then (bif Nat.blt m 4 then (some .int) else (some .int)) else (bif Nat.blt m 6 then (none) else (none)))) else (bif Nat.blt m 10 then (bif Nat.blt m 8 then (some .int) else (bif Nat.blt m 9 then (some .boolean) else (some .int))) else (bif Nat.blt m 12 then (bif Nat.blt m 11 then (some .int) else (some .int)) else (bif Nat.blt m 13 then (none) else (none))))) else (bif Nat.blt m 21 then (bif Nat.blt m 17 then (bif Nat.blt m 15 then (some .boolean) else (bif Nat.blt m 16 then (some .boolean) else (some .int))) else (bif Nat.blt m 19 then (bif Nat.blt m 18 then (some .int) else (none)) else (bif Nat.blt m 20 then (none) else (some .int)))) else (bif Nat.blt m 24 then (bif Nat.blt m 22 then (some .int) else (bif Nat.blt m 23 then (none) else (none))) else (bif Nat.blt m 26 then (bif Nat.blt m 25 then (none) else (some .boolean)) else (bif Nat.blt m 27 then (some .int) else (some .int)))))) else (bif Nat.blt m 42 then (bif Nat.blt m 35 then (bif Nat.blt m 31 then (bif Nat.blt m 29 then (some .boolean) else (bif Nat.blt m 30 then (none) else (some .int))) else (bif Nat.blt m 33 then (bif Nat.blt m 32 then (none) else (some .boolean)) else (bif Nat.blt m 34 then (some .int) else (some .boolean)))) else (bif Nat.blt m 38 then (bif Nat.blt m 36 then (some .boolean) else (bif Nat.blt m 37 then (none) else (some .int))) else (bif Nat.blt m 40 then (bif Nat.blt m 39 then (some .int) else (some .int)) else (bif Nat.blt m 41 then (some .boolean) else (some .boolean))))) else (bif Nat.blt m 49 then (bif Nat.blt m 45 then (bif Nat.blt m 43 then (none) else (bif Nat.blt m 44 then (some .boolean) else (none))) else (bif Nat.blt m 47 then (bif Nat.blt m 46 then (some .boolean) else (none)) else (bif Nat.blt m 48 then (some .int) else (some .int)))) else (bif Nat.blt m 53 then (bif Nat.blt m 51 then (bif Nat.blt m 50 then (some .int) else (some .int)) else (bif Nat.blt m 52 then (some .int) else (some .boolean))) else (bif Nat.blt m 55 then (bif Nat.blt m 54 then (some .int) else (some .int)) else (bif Nat.blt m 56 then (some .int) else (some .int))))))) else (bif Nat.blt m 85 then (bif Nat.blt m 71 then (bif Nat.blt m 64 then (bif Nat.blt m 60 then (bif Nat.blt m 58 then (some .int) else (bif Nat.blt m 59 then (none) else (some .int))) else (bif Nat.blt m 62 then (bif Nat.blt m 61 then (some .int) else (none)) else (bif Nat.blt m 63 then (some .int) else (none)))) else (bif Nat.blt m 67 then (bif Nat.blt m 65 then (some .boolean) else (bif Nat.blt m 66 then (none) else (some .boolean))) else (bif Nat.blt m 69 then (bif Nat.blt m 68 then (some .int) else (none)) else (bif Nat.blt m 70 then (none) else (none))))) else (bif Nat.blt m 78 then (bif Nat.blt m 74 then (bif Nat.blt m 72 then (none) else (bif Nat.blt m 73 then (none) else (none))) else (bif Nat.blt m 76 then (bif Nat.blt m 75 then (some .int) else (some .int)) else (bif Nat.blt m 77 then (some .int) else (some .long)))) else (bif Nat.blt m 81 then (bif Nat.blt m 79 then (some .int) else (bif Nat.blt m 80 then (some .int) else (some .int))) else (bif Nat.blt m 83 then (bif Nat.blt m 82 then (some .int) else (some .int)) else (bif Nat.blt m 84 then (some .int) else (some .int)))))) else (bif Nat.blt m 99 then (bif Nat.blt m 92 then (bif Nat.blt m 88 then (bif Nat.blt m 86 then (some .int) else (bif Nat.blt m 87 then (some .int) else (some .int))) else (bif Nat.blt m 90 then (bif Nat.blt m 89 then (some .int) else (some .int)) else (bif Nat.blt m 91 then (some .int) else (some .int)))) else (bif Nat.blt m 95 then (bif Nat.blt m 93 then (some .int) else (bif Nat.blt m 94 then (some .int) else (some .int))) else (bif Nat.blt m 97 then (bif Nat.blt m 96 then (some .int) else (some .int)) else (bif Nat.blt m 98 then (some .int) else (some .int))))) else (bif Nat.blt m 106 then (bif Nat.blt m 102 then (bif Nat.blt m 100 then (some .int) else (bif Nat.blt m 101 then (some .int) else (some .int))) else (bif Nat.blt m 104 then (bif Nat.blt m 103 then (some .int) else (some .int)) else (bif Nat.blt m 105 then (some .int) else (some .int)))) else (bif Nat.blt m 110 then (bif Nat.blt m 108 then (bif Nat.blt m 107 then (some .int) else (some .int)) else (bif Nat.blt m 109 then (some .int) else (some .int))) else (bif Nat.blt m 112 then (bif Nat.blt m 111 then (some .boolean) else (some .boolean)) else (bif Nat.blt m 113 then (some .boolean) else (some .boolean)))))))) else (bif Nat.blt m 171 then (bif Nat.blt m 142 then (bif Nat.blt m 128 then (bif Nat.blt m 121 then (bif Nat.blt m 117 then (bif Nat.blt m 115 then (some .boolean) else (bif Nat.blt m 116 then (some .int) else (some .int))) else (bif Nat.blt m 119 then (bif Nat.blt m 118 then (some .int) else (some .int)) else (bif Nat.blt m 120 then (some .int) else (some .int)))) else (bif Nat.blt m 124 then (bif Nat.blt m 122 then (some .int) else (bif Nat.blt m 123 then (some .boolean) else (some .int))) else (bif Nat.blt m 126 then (bif Nat.blt m 125 then (some .boolean) else (some .int)) else (bif Nat.blt m 127 then (some .int) else (some .int))))) else (bif Nat.blt m 135 then (bif Nat.blt m 131 then (bif Nat.blt m 129 then (some .boolean) else (bif Nat.blt m 130 then (some .int) else (none))) else (bif Nat.blt m 133 then (bif Nat.blt m 132 then (some .boolean) else (some .boolean)) else (bif Nat.blt m 134 then (some .int) else (some .int)))) else (bif Nat.blt m 138 then (bif Nat.blt m 136 then (some .int) else (bif Nat.blt m 137 then (some .boolean) else (some .int))) else (bif Nat.blt m 140 then (bif Nat.blt m 139 then (some .int) else (some .int)) else (bif Nat.blt m 141 then (some .int) else (some .int)))))) else (bif Nat.blt m 156 then (bif Nat.blt m 149 then (bif Nat.blt m 145 then (bif Nat.blt m 143 then (some .int) else (bif Nat.blt m 144 then (some .int) else (some .int))) else (bif Nat.blt m 147 then (bif Nat.blt m 146 then (some .int) else (some .int)) else (bif Nat.blt m 148 then (some .int) else (some .int)))) else (bif Nat.blt m 152 then (bif Nat.blt m 150 then (some .int) else (bif Nat.blt m 151 then (some .boolean) else (some .int))) else (bif Nat.blt m 154 then (bif Nat.blt m 153 then (some .int) else (some .int)) else (bif Nat.blt m 155 then (some .int) else (some .int))))) else (bif Nat.blt m 163 then (bif Nat.blt m 159 then (bif Nat.blt m 157 then (some .int) else (bif Nat.blt m 158 then (none) else (some .int))) else (bif Nat.blt m 161 then (bif Nat.blt m 160 then (some .int) else (some .boolean)) else (bif Nat.blt m 162 then (some .boolean) else (some .int)))) else (bif Nat.blt m 167 then (bif Nat.blt m 165 then (bif Nat.blt m 164 then (some .int) else (some .int)) else (bif Nat.blt m 166 then (some .int) else (some .int))) else (bif Nat.blt m 169 then (bif Nat.blt m 168 then (some .int) else (some .int)) else (bif Nat.blt m 170 then (some .int) else (some .int))))))) else (bif Nat.blt m 199 then (bif Nat.blt m 185 then (bif Nat.blt m 178 then (bif Nat.blt m 174 then (bif Nat.blt m 172 then (some .int) else (bif Nat.blt m 173 then (some .int) else (some .boolean))) else (bif Nat.blt m 176 then (bif Nat.blt m 175 then (some .int) else (some .int)) else (bif Nat.blt m 177 then (some .int) else (some .int)))) else (bif Nat.blt m 181 then (bif Nat.blt m 179 then (some .int) else (bif Nat.blt m 180 then (some .int) else (some .int))) else (bif Nat.blt m 183 then (bif Nat.blt m 182 then (some .boolean) else (some .boolean)) else (bif Nat.blt m 184 then (some .int) else (some .int))))) else (bif Nat.blt m 192 then (bif Nat.blt m 188 then (bif Nat.blt m 186 then (some .int) else (bif Nat.blt m 187 then (some .int) else (some .int))) else (bif Nat.blt m 190 then (bif Nat.blt m 189 then (none) else (some .int)) else (bif Nat.blt m 191 then (some .int) else (none)))) else (bif Nat.blt m 195 then (bif Nat.blt m 193 then (some .int) else (bif Nat.blt m 194 then (some .int) else (some .boolean))) else (bif Nat.blt m 197 then (bif Nat.blt m 196 then (some .boolean) else (some .int)) else (bif Nat.blt m 198 then (some .int) else (some .int)))))) else (bif Nat.blt m 213 then (bif Nat.blt m 206 then (bif Nat.blt m 202 then (bif Nat.blt m 200 then (some .int) else (bif Nat.blt m 201 then (some .int) else (some .int))) else (bif Nat.blt m 204 then (bif Nat.blt m 203 then (some .boolean) else (some .int)) else (bif Nat.blt m 205 then (some .int) else (some .int)))) else (bif Nat.blt m 209 then (bif Nat.blt m 207 then (some .int) else (bif Nat.blt m 208 then (some .long) else (some .int))) else (bif Nat.blt m 211 then (bif Nat.blt m 210 then (some .int) else (some .int)) else (bif Nat.blt m 212 then (some .int) else (some .int))))) else (bif Nat.blt m 220 then (bif Nat.blt m 216 then (bif Nat.blt m 214 then (some .int) else (bif Nat.blt m 215 then (some .int) else (some .int))) else (bif Nat.blt m 218 then (bif Nat.blt m 217 then (none) else (some .int)) else (bif Nat.blt m 219 then (some .int) else (some .int)))) else (bif Nat.blt m 224 then (bif Nat.blt m 222 then (bif Nat.blt m 221 then (some .int) else (some .int)) else (bif Nat.blt m 223 then (some .int) else (some .int))) else (bif Nat.blt m 226 then (bif Nat.blt m 225 then (some .int) else (none)) else (bif Nat.blt m 227 then (none) else (some .boolean))))))))) else none
def npr (m : Nat) : Nat := bif Nat.blt m 228 then (bif Nat.blt m 114 then (bif Nat.blt m 57 then (bif Nat.blt m 28 then (bif Nat.blt m 14 then (bif Nat.blt m 7 then (bif Nat.blt m 3 then (bif Nat.blt m 1 then (1) else (bif Nat.blt m 2 then (1) else (1))) else (bif Nat.blt m 5 then (bif Nat.blt m 4 then (3) else (1)) else (bif Nat.blt m 6 then (2) else (0)))) else (bif Nat.blt m 10 then (bif Nat.blt m 8 then (1) else (bif Nat.blt m 9 then (0) else (2))) else (bif Nat.blt m 12 then (bif Nat.blt m 11 then (1) else (2)) else (bif Nat.blt m 13 then (2) else (1))))) else (bif Nat.blt m 21 then (bif Nat.blt m 17 then (bif Nat.blt m 15 then (1) else (bif Nat.blt m 16 then (0) else (1))) else (bif Nat.blt m 19 then (bif Nat.blt m 18 then (1) else (2)) else (bif Nat.blt m 20 then (1) else (1)))) else (bif Nat.blt m 24 then (bif Nat.blt m 22 then (1) else (bif Nat.blt m 23 then (3) else (1))) else (bif Nat.blt m 26 then (bif Nat.blt m 25 then (4) else (2)) else (bif Nat.blt m 27 then (1) else (1)))))) else (bif Nat.blt m 42 then (bif Nat.blt m 35 then (bif Nat.blt m 31 then (bif Nat.blt m 29 then (0) else (bif Nat.blt m 30 then (1) else (2))) else (bif Nat.blt m 33 then (bif Nat.blt m 32 then (2) else (0)) else (bif Nat.blt m 34 then (0) else (1)))) else (bif Nat.blt m 38 then (bif Nat.blt m 36 then (2) else (bif Nat.blt m 37 then (2) else (3))) else (bif Nat.blt m 40 then (bif Nat.blt m 39 then (2) else (2)) else (bif Nat.blt m 41 then (5) else (5))))) else (bif Nat.blt m 49 then (bif Nat.blt m 45 then (bif Nat.blt m 43 then (1) else (bif Nat.blt m 44 then (0) else (2))) else (bif Nat.blt m 47 then (bif Nat.blt m 46 then (0) else (2)) else (bif Nat.blt m 48 then (1) else (1)))) else (bif Nat.blt m 53 then (bif Nat.blt m 51 then (bif Nat.blt m 50 then (2) else (1)) else (bif Nat.blt m 52 then (1) else (1))) else (bif Nat.blt m 55 then (bif Nat.blt m 54 then (0) else (1)) else (bif Nat.blt m 56 then (0) else (1))))))) else (bif Nat.blt m 85 then (bif Nat.blt m 71 then (bif Nat.blt m 64 then (bif Nat.blt m 60 then (bif Nat.blt m 58 then (2) else (bif Nat.blt m 59 then (1) else (1))) else (bif Nat.blt m 62 then (bif Nat.blt m 61 then (2) else (1)) else (bif Nat.blt m 63 then (1) else (0)))) else (bif Nat.blt m 67 then (bif Nat.blt m 65 then (0) else (bif Nat.blt m 66 then (1) else (1))) else (bif Nat.blt m 69 then (bif Nat.blt m 68 then (2) else (1)) else (bif Nat.blt m 70 then (1) else (1))))) else (bif Nat.blt m 78 then (bif Nat.blt m 74 then (bif Nat.blt m 72 then (1) else (bif Nat.blt m 73 then (1) else (1))) else (bif Nat.blt m 76 then (bif Nat.blt m 75 then (3) else (3)) else (bif Nat.blt m 77 then (5) else (2)))) else (bif Nat.blt m 81 then (bif Nat.blt m 79 then (1) else (bif Nat.blt m 80 then (2) else (2))) else (bif Nat.blt m 83 then (bif Nat.blt m 82 then (2) else (2)) else (bif Nat.blt m 84 then (3) else (3)))))) else (bif Nat.blt m 99 then (bif Nat.blt m 92 then (bif Nat.blt m 88 then (bif Nat.blt m 86 then (3) else (bif Nat.blt m 87 then (1) else (1))) else (bif Nat.blt m 90 then (bif Nat.blt m 89 then (0) else (0)) else (bif Nat.blt m 91 then (2) else (2)))) else (bif Nat.blt m 95 then (bif Nat.blt m 93 then (0) else (bif Nat.blt m 94 then (2) else (2))) else (bif Nat.blt m 97 then (bif Nat.blt m 96 then (2) else (1)) else (bif Nat.blt m 98 then (0) else (2))))) else (bif Nat.blt m 106 then (bif Nat.blt m 102 then (bif Nat.blt m 100 then (1) else (bif Nat.blt m 101 then (1) else (3))) else (bif Nat.blt m 104 then (bif Nat.blt m 103 then (2) else (1)) else (bif Nat.blt m 105 then (0) else (1)))) else (bif Nat.blt m 110 then (bif Nat.blt m 108 then (bif Nat.blt m 107 then (0) else (0)) else (bif Nat.blt m 109 then (1) else (1))) else (bif Nat.blt m 112 then (bif Nat.blt m 111 then (1) else (1)) else (bif Nat.blt m 113 then (1) else (2)))))))) else (bif Nat.blt m 171 then (bif Nat.blt m 142 then (bif Nat.blt m 128 then (bif Nat.blt m 121 then (bif Nat.blt m 117 then (bif Nat.blt m 115 then (2) else (bif Nat.blt m 116 then (1) else (0))) else (bif Nat.blt m 119 then (bif Nat.blt m 118 then (0) else (0)) else (bif Nat.blt m 120 then (1) else (1)))) else (bif Nat.blt m 124 then (bif Nat.blt m 122 then (1) else (bif Nat.blt m 123 then (2) else (2))) else (bif Nat.blt m 126 then (bif Nat.blt m 125 then (2) else (1)) else (bif Nat.blt m 127 then (2) else (2))))) else (bif Nat.blt m 135 then (bif Nat.blt m 131 then (bif Nat.blt m 129 then (3) else (bif Nat.blt m 130 then (1) else (4))) else (bif Nat.blt m 133 then (bif Nat.blt m 132 then (1) else (1)) else (bif Nat.blt m 134 then (1) else (1)))) else (bif Nat.blt m 138 then (bif Nat.blt m 136 then (1) else (bif Nat.blt m 137 then (2) else (1))) else (bif Nat.blt m 140 then (bif Nat.blt m 139 then (1) else (1)) else (bif Nat.blt m 141 then (3) else (2)))))) else (bif Nat.blt m 156 then (bif Nat.blt m 149 then (bif Nat.blt m 145 then (bif Nat.blt m 143 then (2) else (bif Nat.blt m 144 then (3) else (3))) else (bif Nat.blt m 147 then (bif Nat.blt m 146 then (2) else (2)) else (bif Nat.blt m 148 then (2) else (2)))) else (bif Nat.blt m 152 then (bif Nat.blt m 150 then (3) else (bif Nat.blt m 151 then (3) else (3))) else (bif Nat.blt m 154 then (bif Nat.blt m 153 then (3) else (1)) else (bif Nat.blt m 155 then (1) else (0))))) else (bif Nat.blt m 163 then (bif Nat.blt m 159 then (bif Nat.blt m 157 then (1) else (bif Nat.blt m 158 then (0) else (0))) else (bif Nat.blt m 161 then (bif Nat.blt m 160 then (2) else (0)) else (bif Nat.blt m 162 then (0) else (0)))) else (bif Nat.blt m 167 then (bif Nat.blt m 165 then (bif Nat.blt m 164 then (2) else (2)) else (bif Nat.blt m 166 then (1) else (1))) else (bif Nat.blt m 169 then (bif Nat.blt m 168 then (1) else (1)) else (bif Nat.blt m 170 then (1) else (1))))))) else (bif Nat.blt m 199 then (bif Nat.blt m 185 then (bif Nat.blt m 178 then (bif Nat.blt m 174 then (bif Nat.blt m 172 then (2) else (bif Nat.blt m 173 then (2) else (1))) else (bif Nat.blt m 176 then (bif Nat.blt m 175 then (1) else (1)) else (bif Nat.blt m 177 then (1) else (2)))) else (bif Nat.blt m 181 then (bif Nat.blt m 179 then (2) else (bif Nat.blt m 180 then (0) else (2))) else (bif Nat.blt m 183 then (bif Nat.blt m 182 then (4) else (4)) else (bif Nat.blt m 184 then (2) else (1))))) else (bif Nat.blt m 192 then (bif Nat.blt m 188 then (bif Nat.blt m 186 then (1) else (bif Nat.blt m 187 then (1) else (2))) else (bif Nat.blt m 190 then (bif Nat.blt m 189 then (1) else (2)) else (bif Nat.blt m 191 then (0) else (0)))) else (bif Nat.blt m 195 then (bif Nat.blt m 193 then (1) else (bif Nat.blt m 194 then (0) else (2))) else (bif Nat.blt m 197 then (bif Nat.blt m 196 then (2) else (0)) else (bif Nat.blt m 198 then (2) else (2)))))) else (bif Nat.blt m 213 then (bif Nat.blt m 206 then (bif Nat.blt m 202 then (bif Nat.blt m 200 then (1) else (bif Nat.blt m 201 then (1) else (1))) else (bif Nat.blt m 204 then (bif Nat.blt m 203 then (1) else (3)) else (bif Nat.blt m 205 then (1) else (3)))) else (bif Nat.blt m 209 then (bif Nat.blt m 207 then (5) else (bif Nat.blt m 208 then (2) else (1))) else (bif Nat.blt m 211 then (bif Nat.blt m 210 then (2) else (2)) else (bif Nat.blt m 212 then (1) else (3))))) else (bif Nat.blt m 220 then (bif Nat.blt m 216 then (bif Nat.blt m 214 then (2) else (bif Nat.blt m 215 then (1) else (2))) else (bif Nat.blt m 218 then (bif Nat.blt m 217 then (1) else (0)) else (bif Nat.blt m 219 then (1) else (1)))) else (bif Nat.blt m 224 then (bif Nat.blt m 222 then (bif Nat.blt m 221 then (0) else (0)) else (bif Nat.blt m 223 then (1) else (1))) else (bif Nat.blt m 226 then (bif Nat.blt m 225 then (1) else (2)) else (bif Nat.blt m 227 then (2) else (1))))))))) else 0
def TTc (ci k : Nat) : String × String × String × Bool := ((nth vwCl ci).map fun q => q.2.1 k).getD ("", "", "", false)
def flk : List (Nat × Nat × Nat × Nat × Nat) := [(0, 10, 7, 0, 353), (0, 16, 7, 1, 354), (0, 19, 7, 2, 355), (0, 25, 7, 3, 356), (0, 32, 7, 4, 357), (0, 39, 7, 5, 358), (0, 46, 7, 6, 359), (0, 53, 7, 7, 360), (0, 59, 7, 8, 361), (0, 63, 7, 9, 362), (0, 67, 7, 10, 363), (0, 70, 7, 11, 364), (0, 98, 4, 1, 342), (0, 110, 4, 0, 340), (0, 123, 5, 2, 186), (0, 127, 2, 2, 150), (0, 133, 2, 3, 154), (0, 145, 5, 3, 190), (0, 154, 5, 4, 195), (0, 163, 2, 4, 158), (0, 181, 2, 5, 163), (0, 188, 5, 5, 199), (0, 191, 6, 0, 315), (0, 205, 6, 1, 317), (0, 208, 5, 0, 180), (0, 211, 5, 1, 182), (0, 224, 1, 2, 229), (0, 227, 1, 4, 233), (0, 230, 1, 7, 238), (0, 233, 1, 3, 231), (0, 236, 1, 8, 240), (0, 246, 1, 5, 235), (0, 249, 2, 0, 142), (0, 252, 2, 1, 146), (0, 275, 3, 3, 273), (0, 281, 3, 1, 269), (0, 294, 4, 2, 344), (0, 318, 1, 1, 227), (0, 326, 3, 2, 271), (0, 329, 3, 0, 267), (0, 332, 5, 6, 201), (1, 9, 0, 0, 301), (1, 15, 0, 1, 302), (1, 18, 5, 4, 193), (1, 24, 5, 2, 184), (1, 28, 2, 4, 156), (2, 9, 1, 0, 225), (2, 15, 1, 1, 226), (2, 19, 1, 2, 228), (2, 22, 1, 3, 230), (2, 25, 1, 4, 232), (2, 28, 1, 5, 234), (2, 31, 1, 6, 236), (2, 34, 1, 7, 237), (2, 37, 1, 8, 239), (2, 40, 2, 5, 162), (2, 43, 2, 0, 140), (2, 46, 2, 1, 144), (2, 84, 2, 2, 149), (2, 87, 2, 3, 153), (3, 9, 2, 0, 139), (3, 15, 2, 1, 143), (3, 18, 2, 2, 147), (3, 22, 2, 3, 151), (3, 25, 2, 4, 155), (3, 28, 2, 5, 160), (4, 9, 3, 0, 266), (4, 15, 3, 1, 268), (4, 18, 3, 2, 270), (4, 22, 3, 3, 272), (4, 25, 3, 4, 274), (4, 28, 3, 5, 275), (4, 31, 3, 6, 276), (4, 34, 3, 7, 277), (4, 41, 5, 4, 194), (4, 70, 5, 3, 189), (4, 88, 5, 2, 185), (4, 114, 2, 2, 148), (4, 117, 2, 3, 152), (5, 9, 4, 0, 339), (5, 15, 4, 1, 341), (5, 19, 4, 2, 343), (6, 9, 2, 5, 161), (6, 28, 2, 0, 141), (6, 44, 2, 1, 145), (7, 9, 5, 0, 179), (7, 15, 5, 1, 181), (7, 20, 5, 2, 183), (7, 24, 5, 3, 188), (7, 28, 5, 4, 192), (7, 31, 5, 5, 197), (7, 34, 5, 6, 200), (7, 86, 2, 5, 164), (7, 103, 2, 4, 159), (8, 9, 6, 0, 314), (8, 15, 6, 1, 316), (8, 18, 6, 2, 318), (8, 22, 6, 3, 319), (8, 25, 6, 4, 320), (8, 97, 5, 4, 196), (8, 100, 5, 3, 191), (8, 103, 5, 2, 187), (8, 107, 2, 4, 157), (8, 130, 5, 5, 198), (10, 7, 8, 0, 1032), (10, 17, 8, 1, 1033), (10, 20, 8, 2, 1034), (10, 23, 8, 3, 1035), (10, 26, 8, 5, 1037), (10, 29, 8, 10, 1042), (10, 33, 8, 11, 1043), (10, 36, 8, 12, 1044), (10, 39, 8, 13, 1045), (10, 42, 8, 14, 1046), (10, 45, 8, 17, 1049), (10, 48, 8, 18, 1050), (10, 51, 8, 19, 1051), (10, 54, 8, 20, 1052), (10, 58, 8, 21, 1053), (10, 61, 8, 22, 1054), (10, 64, 8, 23, 1055), (10, 131, 8, 6, 1038), (10, 143, 8, 7, 1039), (10, 146, 8, 8, 1040), (10, 152, 8, 9, 1041), (10, 261, 8, 15, 1047), (10, 270, 8, 16, 1048), (10, 334, 8, 4, 1036)]
def mlk : List (Nat × Nat × Nat × Nat) := [(0, 75, 110, 394), (0, 79, 109, 398), (0, 83, 31, 402), (0, 87, 33, 413), (0, 91, 34, 421), (0, 94, 36, 426), (0, 102, 32, 434), (0, 106, 35, 435), (0, 120, 112, 454), (0, 130, 114, 462), (0, 136, 115, 465), (0, 139, 43, 529), (0, 142, 44, 533), (0, 148, 45, 542), (0, 151, 46, 546), (0, 157, 111, 559), (0, 160, 14, 563), (0, 166, 21, 567), (0, 169, 113, 585), (0, 172, 17, 589), (0, 175, 15, 593), (0, 178, 18, 597), (0, 184, 19, 606), (0, 194, 61, 615), (0, 197, 42, 627), (0, 201, 62, 636), (0, 214, 51, 750), (0, 217, 54, 755), (0, 220, 5, 469), (0, 239, 8, 764), (0, 242, 9, 513), (0, 255, 37, 777), (0, 261, 56, 801), (0, 264, 119, 812), (0, 268, 120, 821), (0, 271, 22, 829), (0, 278, 53, 882), (0, 284, 1, 891), (0, 287, 3, 908), (0, 291, 121, 920), (0, 295, 122, 937), (0, 299, 123, 941), (0, 303, 125, 949), (0, 306, 126, 953), (0, 310, 224, 962), (0, 315, 127, 963), (0, 319, 58, 972), (0, 323, 55, 991), (0, 335, 117, 1015), (0, 338, 118, 1019), (0, 341, 13, 816), (0, 343, 116, 817), (0, 346, 11, 924), (0, 350, 124, 945), (0, 353, 16, 957), (1, 33, 0, 895), (1, 37, 2, 899), (1, 47, 4, 912), (2, 49, 49, 473), (2, 55, 16, 488), (2, 63, 50, 495), (2, 66, 6, 499), (2, 69, 7, 503), (2, 72, 224, 507), (2, 77, 10, 517), (2, 80, 8, 521), (2, 90, 9, 928), (3, 37, 16, 575), (3, 41, 15, 601), (3, 45, 19, 576), (3, 49, 20, 571), (4, 37, 23, 833), (4, 46, 24, 855), (4, 50, 27, 871), (4, 60, 28, 878), (4, 64, 226, 837), (4, 73, 52, 840), (4, 77, 51, 846), (4, 80, 30, 847), (4, 84, 29, 851), (4, 92, 25, 859), (4, 96, 13, 863), (4, 102, 26, 864), (4, 105, 20, 868), (4, 108, 5, 869), (4, 120, 9, 870), (5, 22, 225, 406), (5, 28, 32, 417), (5, 32, 33, 425), (6, 15, 38, 780), (6, 21, 39, 787), (6, 24, 40, 791), (6, 32, 47, 783), (6, 47, 48, 790), (6, 50, 41, 794), (7, 44, 13, 632), (7, 48, 43, 537), (7, 52, 45, 550), (7, 55, 12, 551), (7, 59, 47, 477), (7, 68, 48, 484), (7, 71, 14, 754), (7, 75, 51, 844), (7, 78, 224, 845), (7, 83, 52, 886), (7, 89, 16, 759), (7, 93, 57, 806), (7, 97, 49, 810), (7, 106, 59, 976), (7, 109, 60, 981), (7, 112, 17, 988), (7, 115, 18, 989), (7, 118, 19, 990), (7, 123, 223, 984), (8, 28, 65, 640), (8, 32, 64, 741), (8, 36, 63, 644), (8, 41, 66, 649), (8, 45, 43, 701), (8, 50, 68, 702), (8, 55, 45, 712), (8, 58, 69, 713), (8, 63, 70, 719), (8, 68, 71, 724), (8, 73, 73, 737), (8, 86, 67, 706), (8, 90, 44, 710), (8, 94, 46, 717), (8, 112, 15, 728), (8, 115, 72, 729), (8, 119, 14, 733), (8, 123, 17, 734), (8, 127, 18, 735), (9, 13, 74, 390), (9, 17, 203, 1413), (9, 20, 75, 409), (9, 24, 205, 1423), (9, 25, 76, 430), (9, 29, 206, 1431), (9, 30, 77, 442), (9, 34, 207, 1435), (9, 35, 78, 446), (9, 39, 208, 1439), (9, 40, 79, 450), (9, 44, 209, 1443), (9, 45, 80, 458), (9, 48, 210, 1447), (9, 49, 81, 525), (9, 52, 147, 1107), (9, 53, 82, 538), (9, 56, 148, 1124), (9, 57, 83, 555), (9, 61, 149, 1133), (9, 62, 84, 581), (9, 65, 151, 1169), (9, 66, 85, 602), (9, 69, 152, 1185), (9, 70, 86, 607), (9, 73, 153, 1189), (9, 74, 87, 611), (9, 77, 154, 1194), (9, 78, 88, 619), (9, 82, 155, 1199), (9, 83, 89, 623), (9, 86, 162, 1203), (9, 87, 90, 746), (9, 90, 177, 1238), (9, 91, 91, 760), (9, 94, 178, 1247), (9, 95, 92, 765), (9, 98, 179, 1321), (9, 99, 93, 769), (9, 102, 180, 1325), (9, 103, 94, 773), (9, 106, 183, 1329), (9, 107, 95, 797), (9, 110, 187, 1341), (9, 111, 96, 825), (9, 114, 192, 1358), (9, 115, 97, 887), (9, 118, 196, 1381), (9, 119, 98, 904), (9, 122, 197, 1393), (9, 123, 99, 916), (9, 126, 200, 1397), (9, 127, 100, 929), (9, 130, 201, 1409), (9, 131, 101, 933), (9, 134, 212, 1451), (9, 135, 102, 958), (9, 138, 213, 1466), (9, 139, 103, 968), (9, 142, 218, 1471), (9, 143, 104, 995), (9, 146, 193, 1377), (9, 147, 105, 999), (9, 150, 219, 1491), (9, 151, 106, 1003), (9, 154, 220, 1495), (9, 155, 107, 1007), (9, 158, 221, 1499), (9, 159, 108, 1011), (9, 162, 222, 1503), (10, 68, 128, 1112), (10, 72, 135, 1149), (10, 76, 139, 1157), (10, 79, 140, 1161), (10, 83, 145, 1165), (10, 91, 129, 1116), (10, 94, 141, 1120), (10, 99, 142, 1129), (10, 102, 132, 1137), (10, 106, 131, 1141), (10, 110, 136, 1145), (10, 114, 146, 1153), (10, 117, 150, 1173), (10, 121, 143, 1177), (10, 124, 144, 1181), (10, 149, 156, 1218), (10, 155, 157, 1214), (10, 158, 159, 1234), (10, 161, 158, 1226), (10, 165, 160, 1230), (10, 169, 130, 1207), (10, 173, 161, 1210), (10, 176, 133, 1304), (10, 184, 163, 1300), (10, 187, 164, 1296), (10, 193, 168, 1252), (10, 196, 134, 1260), (10, 199, 171, 1268), (10, 202, 169, 1272), (10, 205, 167, 1276), (10, 208, 170, 1256), (10, 211, 137, 1288), (10, 214, 166, 1292), (10, 217, 172, 1264), (10, 221, 165, 1309), (10, 224, 173, 1280), (10, 227, 138, 1313), (10, 232, 176, 1243), (10, 237, 174, 1284), (10, 240, 175, 1317), (10, 243, 182, 1337), (10, 247, 181, 1333), (10, 252, 184, 1346), (10, 255, 185, 1350), (10, 258, 186, 1354), (10, 273, 189, 1372), (10, 276, 188, 1366), (10, 280, 191, 1362), (10, 285, 194, 1389), (10, 288, 195, 1385), (10, 291, 198, 1405), (10, 294, 199, 1401), (10, 299, 202, 1417), (10, 306, 204, 1427), (10, 316, 211, 1462), (10, 322, 214, 1479), (10, 325, 215, 1484), (10, 328, 216, 1475), (10, 331, 217, 1487), (10, 340, 190, 1508)]
def clk : List (Nat × Nat × Int32 × Nat) := [(4, 125, 2147483647, 875), (7, 92, 2147483647, 805), (7, 122, 1103515245, 980), (10, 266, 2147483647, 1370), (10, 321, 1103515245, 1483), (11, 264, 65536, 987), (11, 265, 1431655765, 510), (11, 266, 858993459, 511), (11, 267, 252645135, 512)]
def llk : List (Nat × Nat × Int64 × Nat) := [(0, 356, 1000000, 966), (0, 358, 12, 967), (9, 18, 4294967295, 1512), (10, 87, 99, 1111), (10, 89, 9, 1115), (10, 97, 5, 1128), (10, 127, 12, 1193), (10, 129, 255, 1198), (10, 135, 97, 1222), (10, 137, 122, 1223), (10, 139, 48, 1224), (10, 141, 57, 1225), (10, 230, 3, 1242), (10, 235, 11, 1251), (10, 250, 2, 1345), (10, 283, (-1), 1376), (10, 297, 7, 1420), (10, 302, 4, 1421), (10, 304, 40, 1422), (10, 309, 20, 1455), (10, 319, 1000000, 1470), (10, 338, 16, 1507)]
def sidx (k : Nat) : Nat := (nth [39, 53, 61, 66, 71] k).getD 0
def stx (k : Nat) : String := (nth ["point", "parish", "wants", "line", "cloud"] k).getD ""
def alk : List (Nat × Nat × Nat) := [(0, 114, 439), (3, 31, 580), (4, 54, 877), (7, 38, 631)]
def slk : List (Nat × Nat × Nat × Nat) := [(8, 76, 0, 653), (8, 82, 1, 663)]
theorem nth_mem {α : Type} : ∀ {l : List α} {n : Nat} {a : α}, nth l n = some a → a ∈ l
  | [], _, _, h => by cases h
  | _ :: _, 0, _, h => by cases h; exact List.mem_cons_self
  | _ :: l, n + 1, _, h => List.mem_cons_of_mem _ (nth_mem (l := l) h)
theorem mem_tbl {w : Cond} {i : Nat} (h : lw_tbl[i]? = some w) : w ∈ lw_tbl := List.mem_of_getElem? h
set_option maxRecDepth 100000 in
theorem flk_ok : ∀ q ∈ flk, lw_tbl[q.2.2.2.2]? = some (.fieldLink (owS q.1) q.2.1 (TTc q.2.2.1 q.2.2.2.1).1 (TTc q.2.2.1 q.2.2.2.1).2.1 (TTc q.2.2.1 q.2.2.2.1).2.2.1) := by decide +kernel
set_option maxRecDepth 100000 in
theorem mlk_ok : ∀ q ∈ mlk, lw_tbl[q.2.2.2]? = some (.methodLink (owS q.1) q.2.1 (yM q.2.2.1)) := by decide +kernel
set_option maxRecDepth 100000 in
theorem clk_ok : ∀ q ∈ clk, lw_tbl[q.2.2.2]? = some (.constant (owS q.1) q.2.1 q.2.2.1) := by decide +kernel
set_option maxRecDepth 100000 in
theorem llk_ok : ∀ q ∈ llk, lw_tbl[q.2.2.2]? = some (.constantLong (owS q.1) q.2.1 q.2.2.1) := by decide +kernel
set_option maxRecDepth 100000 in
theorem alk_ok : ∀ q ∈ alk, lw_tbl[q.2.2]? = some (.methodLink (owS q.1) q.2.1 arraycopyName) := by decide +kernel
set_option maxRecDepth 100000 in
theorem acp_ok : lw_tbl[441]? = some (.native arraycopyName) ∧ lw_tbl[440]? = some (.static arraycopyName) ∧ lw_tbl[110]? = some (.initialized "java/lang/System") := by decide +kernel
def mpl : List (Nat × Nat × Nat × Nat × Nat) := [(0, 898, 105, 897, 32), (1, 894, 105, 892, 893), (2, 902, 105, 901, 33), (3, 911, 105, 909, 910), (4, 915, 105, 914, 34), (5, 472, 103, 470, 471), (6, 502, 103, 501, 4), (7, 506, 103, 505, 5), (8, 524, 103, 522, 523), (9, 516, 103, 514, 515), (10, 520, 103, 519, 6), (11, 927, 103, 925, 926), (12, 554, 102, 552, 553), (13, 635, 102, 633, 634), (14, 566, 102, 564, 565), (15, 596, 102, 594, 595), (16, 491, 102, 489, 490), (17, 592, 102, 590, 591), (18, 600, 102, 598, 599), (19, 579, 102, 577, 578), (20, 574, 102, 572, 573), (21, 570, 102, 568, 569), (22, 832, 104, 830, 831), (23, 836, 104, 835, 24), (24, 858, 104, 857, 27), (25, 862, 104, 861, 28), (26, 867, 104, 866, 29), (27, 874, 104, 873, 30), (28, 881, 104, 880, 31), (29, 854, 104, 853, 26), (30, 850, 104, 849, 25), (31, 405, 107, 403, 404), (32, 420, 107, 418, 419), (33, 416, 107, 414, 415), (34, 424, 107, 422, 423), (35, 438, 107, 436, 437), (36, 429, 107, 427, 428), (37, 779, 117, 778, 0), (38, 782, 117, 781, 0), (39, 789, 117, 788, 0), (40, 793, 117, 792, 0), (41, 796, 117, 795, 0), (42, 630, 101, 628, 629), (43, 532, 101, 530, 531), (44, 536, 101, 534, 535), (45, 545, 101, 543, 544), (46, 549, 101, 547, 548), (47, 480, 101, 478, 479), (48, 487, 101, 485, 486), (49, 476, 101, 474, 475), (50, 498, 101, 496, 497), (51, 753, 101, 751, 752), (52, 843, 101, 841, 842), (53, 885, 101, 883, 884), (54, 758, 101, 756, 757), (55, 994, 101, 992, 993), (56, 804, 101, 802, 803), (57, 809, 101, 808, 20), (58, 975, 101, 973, 974), (59, 979, 101, 978, 41), (60, 983, 101, 982, 0), (61, 618, 106, 616, 617), (62, 639, 106, 637, 638), (63, 647, 106, 646, 10), (64, 744, 106, 743, 19), (65, 643, 106, 642, 9), (66, 652, 106, 651, 11), (67, 709, 106, 708, 13), (68, 705, 106, 704, 12), (69, 716, 106, 715, 14), (70, 722, 106, 721, 15), (71, 727, 106, 726, 16), (72, 732, 106, 731, 17), (73, 740, 106, 739, 18), (74, 393, 100, 391, 392), (75, 412, 100, 410, 411), (76, 433, 100, 431, 432), (77, 445, 100, 443, 444), (78, 449, 100, 447, 448), (79, 453, 100, 451, 452), (80, 461, 100, 459, 460), (81, 528, 100, 526, 527), (82, 541, 100, 539, 540), (83, 558, 100, 556, 557), (84, 584, 100, 582, 583), (85, 605, 100, 603, 604), (86, 610, 100, 608, 609), (87, 614, 100, 612, 613), (88, 622, 100, 620, 621), (89, 626, 100, 624, 625), (90, 749, 100, 747, 748), (91, 763, 100, 761, 762), (92, 768, 100, 766, 767), (93, 772, 100, 770, 771), (94, 776, 100, 774, 775), (95, 800, 100, 798, 799), (96, 828, 100, 826, 827), (97, 890, 100, 888, 889), (98, 907, 100, 905, 906), (99, 919, 100, 917, 918), (100, 932, 100, 930, 931), (101, 936, 100, 934, 935), (102, 961, 100, 959, 960), (103, 971, 100, 969, 970), (104, 998, 100, 996, 997), (105, 1002, 100, 1000, 1001), (106, 1006, 100, 1004, 1005), (107, 1010, 100, 1008, 1009), (108, 1014, 100, 1012, 1013), (109, 401, 100, 400, 1), (110, 397, 100, 396, 0), (111, 562, 100, 561, 7), (112, 457, 100, 456, 2), (113, 588, 100, 587, 8), (114, 464, 100, 463, 0), (115, 468, 100, 467, 3), (116, 820, 100, 819, 22), (117, 1018, 100, 1017, 42), (118, 1022, 100, 1021, 43), (119, 815, 100, 814, 21), (120, 824, 100, 823, 23), (121, 923, 100, 922, 35), (122, 940, 100, 939, 36), (123, 944, 100, 943, 37), (124, 948, 100, 947, 38), (125, 952, 100, 951, 39), (126, 956, 100, 955, 40), (127, 965, 100, 964, 0), (128, 1114, 108, 1113, 0), (129, 1119, 108, 1118, 44), (130, 1209, 108, 1208, 0), (131, 1144, 108, 1143, 48), (132, 1140, 108, 1139, 47), (133, 1307, 108, 1306, 77), (134, 1263, 108, 1262, 67), (135, 1152, 108, 1151, 50), (136, 1148, 108, 1147, 49), (137, 1291, 108, 1290, 73), (138, 1316, 108, 1315, 79), (139, 1160, 108, 1159, 52), (140, 1164, 108, 1163, 53), (141, 1123, 108, 1122, 45), (142, 1132, 108, 1131, 46), (143, 1180, 108, 1179, 56), (144, 1184, 108, 1183, 57), (145, 1168, 108, 1167, 54), (146, 1156, 108, 1155, 51), (147, 1110, 108, 1108, 1109), (148, 1127, 108, 1125, 1126), (149, 1136, 108, 1134, 1135), (150, 1176, 108, 1175, 55), (151, 1172, 108, 1170, 1171), (152, 1188, 108, 1186, 1187), (153, 1192, 108, 1190, 1191), (154, 1197, 108, 1195, 1196), (155, 1202, 108, 1200, 1201), (156, 1221, 108, 1220, 60), (157, 1217, 108, 1216, 59), (158, 1229, 108, 1228, 61), (159, 1237, 108, 1236, 63), (160, 1233, 108, 1232, 62), (161, 1213, 108, 1212, 58), (162, 1206, 108, 1204, 1205), (163, 1303, 108, 1302, 76), (164, 1299, 108, 1298, 75), (165, 1312, 108, 1311, 78), (166, 1295, 108, 1294, 74), (167, 1278, 108, 1277, 0), (168, 1255, 108, 1254, 65), (169, 1275, 108, 1274, 70), (170, 1259, 108, 1258, 66), (171, 1271, 108, 1270, 69), (172, 1267, 108, 1266, 68), (173, 1283, 108, 1282, 71), (174, 1287, 108, 1286, 72), (175, 1320, 108, 1319, 80), (176, 1246, 108, 1245, 64), (177, 1241, 108, 1239, 1240), (178, 1250, 108, 1248, 1249), (179, 1324, 108, 1322, 1323), (180, 1328, 108, 1326, 1327), (181, 1336, 108, 1335, 81), (182, 1340, 108, 1339, 82), (183, 1332, 108, 1330, 1331), (184, 1349, 108, 1348, 83), (185, 1353, 108, 1352, 84), (186, 1357, 108, 1356, 85), (187, 1344, 108, 1342, 1343), (188, 1369, 108, 1368, 87), (189, 1375, 108, 1374, 88), (190, 1511, 108, 1510, 98), (191, 1365, 108, 1364, 86), (192, 1361, 108, 1359, 1360), (193, 1380, 108, 1378, 1379), (194, 1392, 108, 1391, 90), (195, 1388, 108, 1387, 89), (196, 1384, 108, 1382, 1383), (197, 1396, 108, 1394, 1395), (198, 1408, 108, 1407, 92), (199, 1404, 108, 1403, 91), (200, 1400, 108, 1398, 1399), (201, 1412, 108, 1410, 1411), (202, 1419, 108, 1418, 0), (203, 1416, 108, 1414, 1415), (204, 1430, 108, 1429, 93), (205, 1426, 108, 1424, 1425), (206, 1434, 108, 1432, 1433), (207, 1438, 108, 1436, 1437), (208, 1442, 108, 1440, 1441), (209, 1446, 108, 1444, 1445), (210, 1450, 108, 1448, 1449), (211, 1465, 108, 1464, 94), (212, 1454, 108, 1452, 1453), (213, 1469, 108, 1467, 1468), (214, 1482, 108, 1481, 96), (215, 1486, 108, 1485, 0), (216, 1478, 108, 1477, 95), (217, 1490, 108, 1489, 97), (218, 1474, 108, 1472, 1473), (219, 1494, 108, 1492, 1493), (220, 1498, 108, 1496, 1497), (221, 1502, 108, 1500, 1501), (222, 1506, 108, 1504, 1505), (223, 986, 112, 985, 0), (224, 509, 112, 508, 0), (225, 408, 109, 407, 0), (226, 839, 109, 838, 0)]
/-- what the tables say of a method -/
def MOK (b : Nat) : Prop := Cond.code (yM b) (byt b) (nLo b) (retT b) ∈ lw_tbl ∧ Cond.initialized (yM b).cls ∈ lw_tbl ∧ (mcl b = 99 → Cond.static (yM b) ∈ lw_tbl) ∧ (mcl b ≠ 99 → Cond.instanceMethod (yM b) ∈ lw_tbl ∧ Cond.selects (yM b).cls (yM b) (yM b) ∈ lw_tbl ∧ (nth vwCl (mcl b)).map (fun r => r.1) = some (yM b).cls)
  ∧ ((yM b).cls ≠ "java/lang/invoke/MethodHandle" ∧ (yM b).cls ≠ "java/lang/invoke/VarHandle" ∧ (parseMethodDescriptor (yM b).desc).map (fun d => d.parameters.length) = some (npr b)) ∧ plainName (yM b).cls = true ∧ nLo b ≤ 40
theorem mok_s {b : Nat} (c i s : Nat) (h1 : lw_tbl[c]? = some (.code (yM b) (byt b) (nLo b) (retT b))) (h2 : (mcl b = 99 ∧ lw_tbl[i]? = some (.initialized (yM b).cls) ∧ lw_tbl[s]? = some (.static (yM b))) ∧ ((yM b).cls ≠ "java/lang/invoke/MethodHandle" ∧ (yM b).cls ≠ "java/lang/invoke/VarHandle" ∧ (parseMethodDescriptor (yM b).desc).map (fun d => d.parameters.length) = some (npr b)) ∧ plainName (yM b).cls = true ∧ nLo b ≤ 40) : MOK b :=
  ⟨mem_tbl h1, mem_tbl h2.1.2.1, fun _ => mem_tbl h2.1.2.2, fun h => absurd h2.1.1 h, h2.2.1, h2.2.2.1, h2.2.2.2⟩
theorem mok_v {b : Nat} (c i s z : Nat) (h1 : lw_tbl[c]? = some (.code (yM b) (byt b) (nLo b) (retT b))) (h2 : (mcl b ≠ 99 ∧ lw_tbl[i]? = some (.initialized (yM b).cls) ∧ lw_tbl[s]? = some (.instanceMethod (yM b)) ∧ lw_tbl[z]? = some (.selects (yM b).cls (yM b) (yM b)) ∧ (nth vwCl (mcl b)).map (fun r => r.1) = some (yM b).cls) ∧ ((yM b).cls ≠ "java/lang/invoke/MethodHandle" ∧ (yM b).cls ≠ "java/lang/invoke/VarHandle" ∧ (parseMethodDescriptor (yM b).desc).map (fun d => d.parameters.length) = some (npr b)) ∧ plainName (yM b).cls = true ∧ nLo b ≤ 40) : MOK b :=
  ⟨mem_tbl h1, mem_tbl h2.1.2.1, fun h => absurd h h2.1.1, fun _ => ⟨mem_tbl h2.1.2.2.1, mem_tbl h2.1.2.2.2.1, h2.1.2.2.2.2⟩, h2.2.1, h2.2.2.1, h2.2.2.2⟩
set_option maxRecDepth 100000 in
theorem mk_0 : MOK 0 := mok_v 898 105 897 32 rfl (by decide +kernel)
set_option maxRecDepth 100000 in
theorem mk_1 : MOK 1 := mok_v 894 105 892 893 rfl (by decide +kernel)
set_option maxRecDepth 100000 in
theorem mk_2 : MOK 2 := mok_v 902 105 901 33 rfl (by decide +kernel)
set_option maxRecDepth 100000 in
theorem mk_3 : MOK 3 := mok_v 911 105 909 910 rfl (by decide +kernel)
set_option maxRecDepth 100000 in
theorem mk_4 : MOK 4 := mok_v 915 105 914 34 rfl (by decide +kernel)
set_option maxRecDepth 100000 in
theorem mk_5 : MOK 5 := mok_v 472 103 470 471 rfl (by decide +kernel)
set_option maxRecDepth 100000 in
theorem mk_6 : MOK 6 := mok_v 502 103 501 4 rfl (by decide +kernel)
set_option maxRecDepth 100000 in
theorem mk_7 : MOK 7 := mok_v 506 103 505 5 rfl (by decide +kernel)
set_option maxRecDepth 100000 in
theorem mk_8 : MOK 8 := mok_v 524 103 522 523 rfl (by decide +kernel)
set_option maxRecDepth 100000 in
theorem mk_9 : MOK 9 := mok_v 516 103 514 515 rfl (by decide +kernel)
set_option maxRecDepth 100000 in
theorem mk_10 : MOK 10 := mok_v 520 103 519 6 rfl (by decide +kernel)
set_option maxRecDepth 100000 in
theorem mk_11 : MOK 11 := mok_v 927 103 925 926 rfl (by decide +kernel)
set_option maxRecDepth 100000 in
theorem mk_12 : MOK 12 := mok_v 554 102 552 553 rfl (by decide +kernel)
set_option maxRecDepth 100000 in
theorem mk_13 : MOK 13 := mok_v 635 102 633 634 rfl (by decide +kernel)
set_option maxRecDepth 100000 in
theorem mk_14 : MOK 14 := mok_v 566 102 564 565 rfl (by decide +kernel)
set_option maxRecDepth 100000 in
theorem mk_15 : MOK 15 := mok_v 596 102 594 595 rfl (by decide +kernel)
set_option maxRecDepth 100000 in
theorem mk_16 : MOK 16 := mok_v 491 102 489 490 rfl (by decide +kernel)
set_option maxRecDepth 100000 in
theorem mk_17 : MOK 17 := mok_v 592 102 590 591 rfl (by decide +kernel)
set_option maxRecDepth 100000 in
theorem mk_18 : MOK 18 := mok_v 600 102 598 599 rfl (by decide +kernel)
set_option maxRecDepth 100000 in
theorem mk_19 : MOK 19 := mok_v 579 102 577 578 rfl (by decide +kernel)
set_option maxRecDepth 100000 in
theorem mk_20 : MOK 20 := mok_v 574 102 572 573 rfl (by decide +kernel)
set_option maxRecDepth 100000 in
theorem mk_21 : MOK 21 := mok_v 570 102 568 569 rfl (by decide +kernel)
set_option maxRecDepth 100000 in
theorem mk_22 : MOK 22 := mok_v 832 104 830 831 rfl (by decide +kernel)
set_option maxRecDepth 100000 in
theorem mk_23 : MOK 23 := mok_v 836 104 835 24 rfl (by decide +kernel)
set_option maxRecDepth 100000 in
theorem mk_24 : MOK 24 := mok_v 858 104 857 27 rfl (by decide +kernel)
set_option maxRecDepth 100000 in
theorem mk_25 : MOK 25 := mok_v 862 104 861 28 rfl (by decide +kernel)
set_option maxRecDepth 100000 in
theorem mk_26 : MOK 26 := mok_v 867 104 866 29 rfl (by decide +kernel)
set_option maxRecDepth 100000 in
theorem mk_27 : MOK 27 := mok_v 874 104 873 30 rfl (by decide +kernel)
set_option maxRecDepth 100000 in
theorem mk_28 : MOK 28 := mok_v 881 104 880 31 rfl (by decide +kernel)
set_option maxRecDepth 100000 in
theorem mk_29 : MOK 29 := mok_v 854 104 853 26 rfl (by decide +kernel)
set_option maxRecDepth 100000 in
theorem mk_30 : MOK 30 := mok_v 850 104 849 25 rfl (by decide +kernel)
set_option maxRecDepth 100000 in
theorem mk_31 : MOK 31 := mok_v 405 107 403 404 rfl (by decide +kernel)
set_option maxRecDepth 100000 in
theorem mk_32 : MOK 32 := mok_v 420 107 418 419 rfl (by decide +kernel)
set_option maxRecDepth 100000 in
theorem mk_33 : MOK 33 := mok_v 416 107 414 415 rfl (by decide +kernel)
set_option maxRecDepth 100000 in
theorem mk_34 : MOK 34 := mok_v 424 107 422 423 rfl (by decide +kernel)
set_option maxRecDepth 100000 in
theorem mk_35 : MOK 35 := mok_v 438 107 436 437 rfl (by decide +kernel)
set_option maxRecDepth 100000 in
theorem mk_36 : MOK 36 := mok_v 429 107 427 428 rfl (by decide +kernel)
set_option maxRecDepth 100000 in
theorem mk_37 : MOK 37 := mok_s 779 117 778 rfl (by decide +kernel)
set_option maxRecDepth 100000 in
theorem mk_38 : MOK 38 := mok_s 782 117 781 rfl (by decide +kernel)
set_option maxRecDepth 100000 in
theorem mk_39 : MOK 39 := mok_s 789 117 788 rfl (by decide +kernel)
set_option maxRecDepth 100000 in
theorem mk_40 : MOK 40 := mok_s 793 117 792 rfl (by decide +kernel)
set_option maxRecDepth 100000 in
theorem mk_41 : MOK 41 := mok_s 796 117 795 rfl (by decide +kernel)
set_option maxRecDepth 100000 in
theorem mk_42 : MOK 42 := mok_v 630 101 628 629 rfl (by decide +kernel)
set_option maxRecDepth 100000 in
theorem mk_43 : MOK 43 := mok_v 532 101 530 531 rfl (by decide +kernel)
set_option maxRecDepth 100000 in
theorem mk_44 : MOK 44 := mok_v 536 101 534 535 rfl (by decide +kernel)
set_option maxRecDepth 100000 in
theorem mk_45 : MOK 45 := mok_v 545 101 543 544 rfl (by decide +kernel)
set_option maxRecDepth 100000 in
theorem mk_46 : MOK 46 := mok_v 549 101 547 548 rfl (by decide +kernel)
set_option maxRecDepth 100000 in
theorem mk_47 : MOK 47 := mok_v 480 101 478 479 rfl (by decide +kernel)
set_option maxRecDepth 100000 in
theorem mk_48 : MOK 48 := mok_v 487 101 485 486 rfl (by decide +kernel)
set_option maxRecDepth 100000 in
theorem mk_49 : MOK 49 := mok_v 476 101 474 475 rfl (by decide +kernel)
set_option maxRecDepth 100000 in
theorem mk_50 : MOK 50 := mok_v 498 101 496 497 rfl (by decide +kernel)
set_option maxRecDepth 100000 in
theorem mk_51 : MOK 51 := mok_v 753 101 751 752 rfl (by decide +kernel)
set_option maxRecDepth 100000 in
theorem mk_52 : MOK 52 := mok_v 843 101 841 842 rfl (by decide +kernel)
set_option maxRecDepth 100000 in
theorem mk_53 : MOK 53 := mok_v 885 101 883 884 rfl (by decide +kernel)
set_option maxRecDepth 100000 in
theorem mk_54 : MOK 54 := mok_v 758 101 756 757 rfl (by decide +kernel)
set_option maxRecDepth 100000 in
theorem mk_55 : MOK 55 := mok_v 994 101 992 993 rfl (by decide +kernel)
set_option maxRecDepth 100000 in
theorem mk_56 : MOK 56 := mok_v 804 101 802 803 rfl (by decide +kernel)
set_option maxRecDepth 100000 in
theorem mk_57 : MOK 57 := mok_v 809 101 808 20 rfl (by decide +kernel)
set_option maxRecDepth 100000 in
theorem mk_58 : MOK 58 := mok_v 975 101 973 974 rfl (by decide +kernel)
set_option maxRecDepth 100000 in
theorem mk_59 : MOK 59 := mok_v 979 101 978 41 rfl (by decide +kernel)
set_option maxRecDepth 100000 in
theorem mk_60 : MOK 60 := mok_s 983 101 982 rfl (by decide +kernel)
set_option maxRecDepth 100000 in
theorem mk_61 : MOK 61 := mok_v 618 106 616 617 rfl (by decide +kernel)
set_option maxRecDepth 100000 in
theorem mk_62 : MOK 62 := mok_v 639 106 637 638 rfl (by decide +kernel)
set_option maxRecDepth 100000 in
theorem mk_63 : MOK 63 := mok_v 647 106 646 10 rfl (by decide +kernel)
set_option maxRecDepth 100000 in
theorem mk_64 : MOK 64 := mok_v 744 106 743 19 rfl (by decide +kernel)
set_option maxRecDepth 100000 in
theorem mk_65 : MOK 65 := mok_v 643 106 642 9 rfl (by decide +kernel)
set_option maxRecDepth 100000 in
theorem mk_66 : MOK 66 := mok_v 652 106 651 11 rfl (by decide +kernel)
set_option maxRecDepth 100000 in
theorem mk_67 : MOK 67 := mok_v 709 106 708 13 rfl (by decide +kernel)
set_option maxRecDepth 100000 in
theorem mk_68 : MOK 68 := mok_v 705 106 704 12 rfl (by decide +kernel)
set_option maxRecDepth 100000 in
theorem mk_69 : MOK 69 := mok_v 716 106 715 14 rfl (by decide +kernel)
set_option maxRecDepth 100000 in
theorem mk_70 : MOK 70 := mok_v 722 106 721 15 rfl (by decide +kernel)
set_option maxRecDepth 100000 in
theorem mk_71 : MOK 71 := mok_v 727 106 726 16 rfl (by decide +kernel)
set_option maxRecDepth 100000 in
theorem mk_72 : MOK 72 := mok_v 732 106 731 17 rfl (by decide +kernel)
set_option maxRecDepth 100000 in
theorem mk_73 : MOK 73 := mok_v 740 106 739 18 rfl (by decide +kernel)
set_option maxRecDepth 100000 in
theorem mk_74 : MOK 74 := mok_v 393 100 391 392 rfl (by decide +kernel)
set_option maxRecDepth 100000 in
theorem mk_75 : MOK 75 := mok_v 412 100 410 411 rfl (by decide +kernel)
set_option maxRecDepth 100000 in
theorem mk_76 : MOK 76 := mok_v 433 100 431 432 rfl (by decide +kernel)
set_option maxRecDepth 100000 in
theorem mk_77 : MOK 77 := mok_v 445 100 443 444 rfl (by decide +kernel)
set_option maxRecDepth 100000 in
theorem mk_78 : MOK 78 := mok_v 449 100 447 448 rfl (by decide +kernel)
set_option maxRecDepth 100000 in
theorem mk_79 : MOK 79 := mok_v 453 100 451 452 rfl (by decide +kernel)
set_option maxRecDepth 100000 in
theorem mk_80 : MOK 80 := mok_v 461 100 459 460 rfl (by decide +kernel)
set_option maxRecDepth 100000 in
theorem mk_81 : MOK 81 := mok_v 528 100 526 527 rfl (by decide +kernel)
set_option maxRecDepth 100000 in
theorem mk_82 : MOK 82 := mok_v 541 100 539 540 rfl (by decide +kernel)
set_option maxRecDepth 100000 in
theorem mk_83 : MOK 83 := mok_v 558 100 556 557 rfl (by decide +kernel)
set_option maxRecDepth 100000 in
theorem mk_84 : MOK 84 := mok_v 584 100 582 583 rfl (by decide +kernel)
set_option maxRecDepth 100000 in
theorem mk_85 : MOK 85 := mok_v 605 100 603 604 rfl (by decide +kernel)
set_option maxRecDepth 100000 in
theorem mk_86 : MOK 86 := mok_v 610 100 608 609 rfl (by decide +kernel)
set_option maxRecDepth 100000 in
theorem mk_87 : MOK 87 := mok_v 614 100 612 613 rfl (by decide +kernel)
set_option maxRecDepth 100000 in
theorem mk_88 : MOK 88 := mok_v 622 100 620 621 rfl (by decide +kernel)
set_option maxRecDepth 100000 in
theorem mk_89 : MOK 89 := mok_v 626 100 624 625 rfl (by decide +kernel)
set_option maxRecDepth 100000 in
theorem mk_90 : MOK 90 := mok_v 749 100 747 748 rfl (by decide +kernel)
set_option maxRecDepth 100000 in
theorem mk_91 : MOK 91 := mok_v 763 100 761 762 rfl (by decide +kernel)
set_option maxRecDepth 100000 in
theorem mk_92 : MOK 92 := mok_v 768 100 766 767 rfl (by decide +kernel)
set_option maxRecDepth 100000 in
theorem mk_93 : MOK 93 := mok_v 772 100 770 771 rfl (by decide +kernel)
set_option maxRecDepth 100000 in
theorem mk_94 : MOK 94 := mok_v 776 100 774 775 rfl (by decide +kernel)
set_option maxRecDepth 100000 in
theorem mk_95 : MOK 95 := mok_v 800 100 798 799 rfl (by decide +kernel)
set_option maxRecDepth 100000 in
theorem mk_96 : MOK 96 := mok_v 828 100 826 827 rfl (by decide +kernel)
set_option maxRecDepth 100000 in
theorem mk_97 : MOK 97 := mok_v 890 100 888 889 rfl (by decide +kernel)
set_option maxRecDepth 100000 in
theorem mk_98 : MOK 98 := mok_v 907 100 905 906 rfl (by decide +kernel)
set_option maxRecDepth 100000 in
theorem mk_99 : MOK 99 := mok_v 919 100 917 918 rfl (by decide +kernel)
set_option maxRecDepth 100000 in
theorem mk_100 : MOK 100 := mok_v 932 100 930 931 rfl (by decide +kernel)
set_option maxRecDepth 100000 in
theorem mk_101 : MOK 101 := mok_v 936 100 934 935 rfl (by decide +kernel)
set_option maxRecDepth 100000 in
theorem mk_102 : MOK 102 := mok_v 961 100 959 960 rfl (by decide +kernel)
set_option maxRecDepth 100000 in
theorem mk_103 : MOK 103 := mok_v 971 100 969 970 rfl (by decide +kernel)
set_option maxRecDepth 100000 in
theorem mk_104 : MOK 104 := mok_v 998 100 996 997 rfl (by decide +kernel)
set_option maxRecDepth 100000 in
theorem mk_105 : MOK 105 := mok_v 1002 100 1000 1001 rfl (by decide +kernel)
set_option maxRecDepth 100000 in
theorem mk_106 : MOK 106 := mok_v 1006 100 1004 1005 rfl (by decide +kernel)
set_option maxRecDepth 100000 in
theorem mk_107 : MOK 107 := mok_v 1010 100 1008 1009 rfl (by decide +kernel)
set_option maxRecDepth 100000 in
theorem mk_108 : MOK 108 := mok_v 1014 100 1012 1013 rfl (by decide +kernel)
set_option maxRecDepth 100000 in
theorem mk_109 : MOK 109 := mok_v 401 100 400 1 rfl (by decide +kernel)
set_option maxRecDepth 100000 in
theorem mk_110 : MOK 110 := mok_v 397 100 396 0 rfl (by decide +kernel)
set_option maxRecDepth 100000 in
theorem mk_111 : MOK 111 := mok_v 562 100 561 7 rfl (by decide +kernel)
set_option maxRecDepth 100000 in
theorem mk_112 : MOK 112 := mok_v 457 100 456 2 rfl (by decide +kernel)
set_option maxRecDepth 100000 in
theorem mk_113 : MOK 113 := mok_v 588 100 587 8 rfl (by decide +kernel)
set_option maxRecDepth 100000 in
theorem mk_114 : MOK 114 := mok_s 464 100 463 rfl (by decide +kernel)
set_option maxRecDepth 100000 in
theorem mk_115 : MOK 115 := mok_v 468 100 467 3 rfl (by decide +kernel)
set_option maxRecDepth 100000 in
theorem mk_116 : MOK 116 := mok_v 820 100 819 22 rfl (by decide +kernel)
set_option maxRecDepth 100000 in
theorem mk_117 : MOK 117 := mok_v 1018 100 1017 42 rfl (by decide +kernel)
set_option maxRecDepth 100000 in
theorem mk_118 : MOK 118 := mok_v 1022 100 1021 43 rfl (by decide +kernel)
set_option maxRecDepth 100000 in
theorem mk_119 : MOK 119 := mok_v 815 100 814 21 rfl (by decide +kernel)
set_option maxRecDepth 100000 in
theorem mk_120 : MOK 120 := mok_v 824 100 823 23 rfl (by decide +kernel)
set_option maxRecDepth 100000 in
theorem mk_121 : MOK 121 := mok_v 923 100 922 35 rfl (by decide +kernel)
set_option maxRecDepth 100000 in
theorem mk_122 : MOK 122 := mok_v 940 100 939 36 rfl (by decide +kernel)
set_option maxRecDepth 100000 in
theorem mk_123 : MOK 123 := mok_v 944 100 943 37 rfl (by decide +kernel)
set_option maxRecDepth 100000 in
theorem mk_124 : MOK 124 := mok_v 948 100 947 38 rfl (by decide +kernel)
set_option maxRecDepth 100000 in
theorem mk_125 : MOK 125 := mok_v 952 100 951 39 rfl (by decide +kernel)
set_option maxRecDepth 100000 in
theorem mk_126 : MOK 126 := mok_v 956 100 955 40 rfl (by decide +kernel)
set_option maxRecDepth 100000 in
theorem mk_127 : MOK 127 := mok_s 965 100 964 rfl (by decide +kernel)
set_option maxRecDepth 100000 in
theorem mk_128 : MOK 128 := mok_s 1114 108 1113 rfl (by decide +kernel)
set_option maxRecDepth 100000 in
theorem mk_129 : MOK 129 := mok_v 1119 108 1118 44 rfl (by decide +kernel)
set_option maxRecDepth 100000 in
theorem mk_130 : MOK 130 := mok_s 1209 108 1208 rfl (by decide +kernel)
set_option maxRecDepth 100000 in
theorem mk_131 : MOK 131 := mok_v 1144 108 1143 48 rfl (by decide +kernel)
set_option maxRecDepth 100000 in
theorem mk_132 : MOK 132 := mok_v 1140 108 1139 47 rfl (by decide +kernel)
set_option maxRecDepth 100000 in
theorem mk_133 : MOK 133 := mok_v 1307 108 1306 77 rfl (by decide +kernel)
set_option maxRecDepth 100000 in
theorem mk_134 : MOK 134 := mok_v 1263 108 1262 67 rfl (by decide +kernel)
set_option maxRecDepth 100000 in
theorem mk_135 : MOK 135 := mok_v 1152 108 1151 50 rfl (by decide +kernel)
set_option maxRecDepth 100000 in
theorem mk_136 : MOK 136 := mok_v 1148 108 1147 49 rfl (by decide +kernel)
set_option maxRecDepth 100000 in
theorem mk_137 : MOK 137 := mok_v 1291 108 1290 73 rfl (by decide +kernel)
set_option maxRecDepth 100000 in
theorem mk_138 : MOK 138 := mok_v 1316 108 1315 79 rfl (by decide +kernel)
set_option maxRecDepth 100000 in
theorem mk_139 : MOK 139 := mok_v 1160 108 1159 52 rfl (by decide +kernel)
set_option maxRecDepth 100000 in
theorem mk_140 : MOK 140 := mok_v 1164 108 1163 53 rfl (by decide +kernel)
set_option maxRecDepth 100000 in
theorem mk_141 : MOK 141 := mok_v 1123 108 1122 45 rfl (by decide +kernel)
set_option maxRecDepth 100000 in
theorem mk_142 : MOK 142 := mok_v 1132 108 1131 46 rfl (by decide +kernel)
set_option maxRecDepth 100000 in
theorem mk_143 : MOK 143 := mok_v 1180 108 1179 56 rfl (by decide +kernel)
set_option maxRecDepth 100000 in
theorem mk_144 : MOK 144 := mok_v 1184 108 1183 57 rfl (by decide +kernel)
set_option maxRecDepth 100000 in
theorem mk_145 : MOK 145 := mok_v 1168 108 1167 54 rfl (by decide +kernel)
set_option maxRecDepth 100000 in
theorem mk_146 : MOK 146 := mok_v 1156 108 1155 51 rfl (by decide +kernel)
set_option maxRecDepth 100000 in
theorem mk_147 : MOK 147 := mok_v 1110 108 1108 1109 rfl (by decide +kernel)
set_option maxRecDepth 100000 in
theorem mk_148 : MOK 148 := mok_v 1127 108 1125 1126 rfl (by decide +kernel)
set_option maxRecDepth 100000 in
theorem mk_149 : MOK 149 := mok_v 1136 108 1134 1135 rfl (by decide +kernel)
set_option maxRecDepth 100000 in
theorem mk_150 : MOK 150 := mok_v 1176 108 1175 55 rfl (by decide +kernel)
set_option maxRecDepth 100000 in
theorem mk_151 : MOK 151 := mok_v 1172 108 1170 1171 rfl (by decide +kernel)
set_option maxRecDepth 100000 in
theorem mk_152 : MOK 152 := mok_v 1188 108 1186 1187 rfl (by decide +kernel)
set_option maxRecDepth 100000 in
theorem mk_153 : MOK 153 := mok_v 1192 108 1190 1191 rfl (by decide +kernel)
set_option maxRecDepth 100000 in
theorem mk_154 : MOK 154 := mok_v 1197 108 1195 1196 rfl (by decide +kernel)
set_option maxRecDepth 100000 in
theorem mk_155 : MOK 155 := mok_v 1202 108 1200 1201 rfl (by decide +kernel)
set_option maxRecDepth 100000 in
theorem mk_156 : MOK 156 := mok_v 1221 108 1220 60 rfl (by decide +kernel)
set_option maxRecDepth 100000 in
theorem mk_157 : MOK 157 := mok_v 1217 108 1216 59 rfl (by decide +kernel)
set_option maxRecDepth 100000 in
theorem mk_158 : MOK 158 := mok_v 1229 108 1228 61 rfl (by decide +kernel)
set_option maxRecDepth 100000 in
theorem mk_159 : MOK 159 := mok_v 1237 108 1236 63 rfl (by decide +kernel)
set_option maxRecDepth 100000 in
theorem mk_160 : MOK 160 := mok_v 1233 108 1232 62 rfl (by decide +kernel)
set_option maxRecDepth 100000 in
theorem mk_161 : MOK 161 := mok_v 1213 108 1212 58 rfl (by decide +kernel)
set_option maxRecDepth 100000 in
theorem mk_162 : MOK 162 := mok_v 1206 108 1204 1205 rfl (by decide +kernel)
set_option maxRecDepth 100000 in
theorem mk_163 : MOK 163 := mok_v 1303 108 1302 76 rfl (by decide +kernel)
set_option maxRecDepth 100000 in
theorem mk_164 : MOK 164 := mok_v 1299 108 1298 75 rfl (by decide +kernel)
set_option maxRecDepth 100000 in
theorem mk_165 : MOK 165 := mok_v 1312 108 1311 78 rfl (by decide +kernel)
set_option maxRecDepth 100000 in
theorem mk_166 : MOK 166 := mok_v 1295 108 1294 74 rfl (by decide +kernel)
set_option maxRecDepth 100000 in
theorem mk_167 : MOK 167 := mok_s 1278 108 1277 rfl (by decide +kernel)
set_option maxRecDepth 100000 in
theorem mk_168 : MOK 168 := mok_v 1255 108 1254 65 rfl (by decide +kernel)
set_option maxRecDepth 100000 in
theorem mk_169 : MOK 169 := mok_v 1275 108 1274 70 rfl (by decide +kernel)
set_option maxRecDepth 100000 in
theorem mk_170 : MOK 170 := mok_v 1259 108 1258 66 rfl (by decide +kernel)
set_option maxRecDepth 100000 in
theorem mk_171 : MOK 171 := mok_v 1271 108 1270 69 rfl (by decide +kernel)
set_option maxRecDepth 100000 in
theorem mk_172 : MOK 172 := mok_v 1267 108 1266 68 rfl (by decide +kernel)
set_option maxRecDepth 100000 in
theorem mk_173 : MOK 173 := mok_v 1283 108 1282 71 rfl (by decide +kernel)
set_option maxRecDepth 100000 in
theorem mk_174 : MOK 174 := mok_v 1287 108 1286 72 rfl (by decide +kernel)
set_option maxRecDepth 100000 in
theorem mk_175 : MOK 175 := mok_v 1320 108 1319 80 rfl (by decide +kernel)
set_option maxRecDepth 100000 in
theorem mk_176 : MOK 176 := mok_v 1246 108 1245 64 rfl (by decide +kernel)
set_option maxRecDepth 100000 in
theorem mk_177 : MOK 177 := mok_v 1241 108 1239 1240 rfl (by decide +kernel)
set_option maxRecDepth 100000 in
theorem mk_178 : MOK 178 := mok_v 1250 108 1248 1249 rfl (by decide +kernel)
set_option maxRecDepth 100000 in
theorem mk_179 : MOK 179 := mok_v 1324 108 1322 1323 rfl (by decide +kernel)
set_option maxRecDepth 100000 in
theorem mk_180 : MOK 180 := mok_v 1328 108 1326 1327 rfl (by decide +kernel)
set_option maxRecDepth 100000 in
theorem mk_181 : MOK 181 := mok_v 1336 108 1335 81 rfl (by decide +kernel)
set_option maxRecDepth 100000 in
theorem mk_182 : MOK 182 := mok_v 1340 108 1339 82 rfl (by decide +kernel)
set_option maxRecDepth 100000 in
theorem mk_183 : MOK 183 := mok_v 1332 108 1330 1331 rfl (by decide +kernel)
set_option maxRecDepth 100000 in
theorem mk_184 : MOK 184 := mok_v 1349 108 1348 83 rfl (by decide +kernel)
set_option maxRecDepth 100000 in
theorem mk_185 : MOK 185 := mok_v 1353 108 1352 84 rfl (by decide +kernel)
set_option maxRecDepth 100000 in
theorem mk_186 : MOK 186 := mok_v 1357 108 1356 85 rfl (by decide +kernel)
set_option maxRecDepth 100000 in
theorem mk_187 : MOK 187 := mok_v 1344 108 1342 1343 rfl (by decide +kernel)
set_option maxRecDepth 100000 in
theorem mk_188 : MOK 188 := mok_v 1369 108 1368 87 rfl (by decide +kernel)
set_option maxRecDepth 100000 in
theorem mk_189 : MOK 189 := mok_v 1375 108 1374 88 rfl (by decide +kernel)
set_option maxRecDepth 100000 in
theorem mk_190 : MOK 190 := mok_v 1511 108 1510 98 rfl (by decide +kernel)
set_option maxRecDepth 100000 in
theorem mk_191 : MOK 191 := mok_v 1365 108 1364 86 rfl (by decide +kernel)
set_option maxRecDepth 100000 in
theorem mk_192 : MOK 192 := mok_v 1361 108 1359 1360 rfl (by decide +kernel)
set_option maxRecDepth 100000 in
theorem mk_193 : MOK 193 := mok_v 1380 108 1378 1379 rfl (by decide +kernel)
set_option maxRecDepth 100000 in
theorem mk_194 : MOK 194 := mok_v 1392 108 1391 90 rfl (by decide +kernel)
set_option maxRecDepth 100000 in
theorem mk_195 : MOK 195 := mok_v 1388 108 1387 89 rfl (by decide +kernel)
set_option maxRecDepth 100000 in
theorem mk_196 : MOK 196 := mok_v 1384 108 1382 1383 rfl (by decide +kernel)
set_option maxRecDepth 100000 in
theorem mk_197 : MOK 197 := mok_v 1396 108 1394 1395 rfl (by decide +kernel)
set_option maxRecDepth 100000 in
theorem mk_198 : MOK 198 := mok_v 1408 108 1407 92 rfl (by decide +kernel)
set_option maxRecDepth 100000 in
theorem mk_199 : MOK 199 := mok_v 1404 108 1403 91 rfl (by decide +kernel)
set_option maxRecDepth 100000 in
theorem mk_200 : MOK 200 := mok_v 1400 108 1398 1399 rfl (by decide +kernel)
set_option maxRecDepth 100000 in
theorem mk_201 : MOK 201 := mok_v 1412 108 1410 1411 rfl (by decide +kernel)
set_option maxRecDepth 100000 in
theorem mk_202 : MOK 202 := mok_s 1419 108 1418 rfl (by decide +kernel)
set_option maxRecDepth 100000 in
theorem mk_203 : MOK 203 := mok_v 1416 108 1414 1415 rfl (by decide +kernel)
set_option maxRecDepth 100000 in
theorem mk_204 : MOK 204 := mok_v 1430 108 1429 93 rfl (by decide +kernel)
set_option maxRecDepth 100000 in
theorem mk_205 : MOK 205 := mok_v 1426 108 1424 1425 rfl (by decide +kernel)
set_option maxRecDepth 100000 in
theorem mk_206 : MOK 206 := mok_v 1434 108 1432 1433 rfl (by decide +kernel)
set_option maxRecDepth 100000 in
theorem mk_207 : MOK 207 := mok_v 1438 108 1436 1437 rfl (by decide +kernel)
set_option maxRecDepth 100000 in
theorem mk_208 : MOK 208 := mok_v 1442 108 1440 1441 rfl (by decide +kernel)
set_option maxRecDepth 100000 in
theorem mk_209 : MOK 209 := mok_v 1446 108 1444 1445 rfl (by decide +kernel)
set_option maxRecDepth 100000 in
theorem mk_210 : MOK 210 := mok_v 1450 108 1448 1449 rfl (by decide +kernel)
set_option maxRecDepth 100000 in
theorem mk_211 : MOK 211 := mok_v 1465 108 1464 94 rfl (by decide +kernel)
set_option maxRecDepth 100000 in
theorem mk_212 : MOK 212 := mok_v 1454 108 1452 1453 rfl (by decide +kernel)
set_option maxRecDepth 100000 in
theorem mk_213 : MOK 213 := mok_v 1469 108 1467 1468 rfl (by decide +kernel)
set_option maxRecDepth 100000 in
theorem mk_214 : MOK 214 := mok_v 1482 108 1481 96 rfl (by decide +kernel)
set_option maxRecDepth 100000 in
theorem mk_215 : MOK 215 := mok_s 1486 108 1485 rfl (by decide +kernel)
set_option maxRecDepth 100000 in
theorem mk_216 : MOK 216 := mok_v 1478 108 1477 95 rfl (by decide +kernel)
set_option maxRecDepth 100000 in
theorem mk_217 : MOK 217 := mok_v 1490 108 1489 97 rfl (by decide +kernel)
set_option maxRecDepth 100000 in
theorem mk_218 : MOK 218 := mok_v 1474 108 1472 1473 rfl (by decide +kernel)
set_option maxRecDepth 100000 in
theorem mk_219 : MOK 219 := mok_v 1494 108 1492 1493 rfl (by decide +kernel)
set_option maxRecDepth 100000 in
theorem mk_220 : MOK 220 := mok_v 1498 108 1496 1497 rfl (by decide +kernel)
set_option maxRecDepth 100000 in
theorem mk_221 : MOK 221 := mok_v 1502 108 1500 1501 rfl (by decide +kernel)
set_option maxRecDepth 100000 in
theorem mk_222 : MOK 222 := mok_v 1506 108 1504 1505 rfl (by decide +kernel)
set_option maxRecDepth 100000 in
theorem mk_223 : MOK 223 := mok_s 986 112 985 rfl (by decide +kernel)
set_option maxRecDepth 100000 in
theorem mk_224 : MOK 224 := mok_s 509 112 508 rfl (by decide +kernel)
set_option maxRecDepth 100000 in
theorem mk_225 : MOK 225 := mok_s 408 109 407 rfl (by decide +kernel)
set_option maxRecDepth 100000 in
theorem mk_226 : MOK 226 := mok_s 839 109 838 rfl (by decide +kernel)
theorem mok_all (b : Nat) (h : b < 227) : MOK b := by
  rcases Nat.lt_or_ge b 113 with h1 | h1
  · rcases Nat.lt_or_ge b 56 with h2 | h2
    · rcases Nat.lt_or_ge b 28 with h3 | h3
      · rcases Nat.lt_or_ge b 14 with h4 | h4
        · rcases Nat.lt_or_ge b 7 with h5 | h5
          · rcases Nat.lt_or_ge b 3 with h6 | h6
            · rcases Nat.lt_or_ge b 1 with h7 | h7
              · obtain rfl : b = 0 := by omega
                exact mk_0
              · rcases Nat.lt_or_ge b 2 with h8 | h8
                · obtain rfl : b = 1 := by omega
                  exact mk_1
                · obtain rfl : b = 2 := by omega
                  exact mk_2
            · rcases Nat.lt_or_ge b 5 with h7 | h7
              · rcases Nat.lt_or_ge b 4 with h8 | h8
                · obtain rfl : b = 3 := by omega
                  exact mk_3
                · obtain rfl : b = 4 := by omega
                  exact mk_4
              · rcases Nat.lt_or_ge b 6 with h8 | h8
                · obtain rfl : b = 5 := by omega
                  exact mk_5
                · obtain rfl : b = 6 := by omega
                  exact mk_6
          · rcases Nat.lt_or_ge b 10 with h6 | h6
            · rcases Nat.lt_or_ge b 8 with h7 | h7
              · obtain rfl : b = 7 := by omega
                exact mk_7
              · rcases Nat.lt_or_ge b 9 with h8 | h8
                · obtain rfl : b = 8 := by omega
                  exact mk_8
                · obtain rfl : b = 9 := by omega
                  exact mk_9
            · rcases Nat.lt_or_ge b 12 with h7 | h7
              · rcases Nat.lt_or_ge b 11 with h8 | h8
                · obtain rfl : b = 10 := by omega
                  exact mk_10
                · obtain rfl : b = 11 := by omega
                  exact mk_11
              · rcases Nat.lt_or_ge b 13 with h8 | h8
                · obtain rfl : b = 12 := by omega
                  exact mk_12
                · obtain rfl : b = 13 := by omega
                  exact mk_13
        · rcases Nat.lt_or_ge b 21 with h5 | h5
          · rcases Nat.lt_or_ge b 17 with h6 | h6
            · rcases Nat.lt_or_ge b 15 with h7 | h7
              · obtain rfl : b = 14 := by omega
                exact mk_14
              · rcases Nat.lt_or_ge b 16 with h8 | h8
                · obtain rfl : b = 15 := by omega
                  exact mk_15
                · obtain rfl : b = 16 := by omega
                  exact mk_16
            · rcases Nat.lt_or_ge b 19 with h7 | h7
              · rcases Nat.lt_or_ge b 18 with h8 | h8
                · obtain rfl : b = 17 := by omega
                  exact mk_17
                · obtain rfl : b = 18 := by omega
                  exact mk_18
              · rcases Nat.lt_or_ge b 20 with h8 | h8
                · obtain rfl : b = 19 := by omega
                  exact mk_19
                · obtain rfl : b = 20 := by omega
                  exact mk_20
          · rcases Nat.lt_or_ge b 24 with h6 | h6
            · rcases Nat.lt_or_ge b 22 with h7 | h7
              · obtain rfl : b = 21 := by omega
                exact mk_21
              · rcases Nat.lt_or_ge b 23 with h8 | h8
                · obtain rfl : b = 22 := by omega
                  exact mk_22
                · obtain rfl : b = 23 := by omega
                  exact mk_23
            · rcases Nat.lt_or_ge b 26 with h7 | h7
              · rcases Nat.lt_or_ge b 25 with h8 | h8
                · obtain rfl : b = 24 := by omega
                  exact mk_24
                · obtain rfl : b = 25 := by omega
                  exact mk_25
              · rcases Nat.lt_or_ge b 27 with h8 | h8
                · obtain rfl : b = 26 := by omega
                  exact mk_26
                · obtain rfl : b = 27 := by omega
                  exact mk_27
      · rcases Nat.lt_or_ge b 42 with h4 | h4
        · rcases Nat.lt_or_ge b 35 with h5 | h5
          · rcases Nat.lt_or_ge b 31 with h6 | h6
            · rcases Nat.lt_or_ge b 29 with h7 | h7
              · obtain rfl : b = 28 := by omega
                exact mk_28
              · rcases Nat.lt_or_ge b 30 with h8 | h8
                · obtain rfl : b = 29 := by omega
                  exact mk_29
                · obtain rfl : b = 30 := by omega
                  exact mk_30
            · rcases Nat.lt_or_ge b 33 with h7 | h7
              · rcases Nat.lt_or_ge b 32 with h8 | h8
                · obtain rfl : b = 31 := by omega
                  exact mk_31
                · obtain rfl : b = 32 := by omega
                  exact mk_32
              · rcases Nat.lt_or_ge b 34 with h8 | h8
                · obtain rfl : b = 33 := by omega
                  exact mk_33
                · obtain rfl : b = 34 := by omega
                  exact mk_34
          · rcases Nat.lt_or_ge b 38 with h6 | h6
            · rcases Nat.lt_or_ge b 36 with h7 | h7
              · obtain rfl : b = 35 := by omega
                exact mk_35
              · rcases Nat.lt_or_ge b 37 with h8 | h8
                · obtain rfl : b = 36 := by omega
                  exact mk_36
                · obtain rfl : b = 37 := by omega
                  exact mk_37
            · rcases Nat.lt_or_ge b 40 with h7 | h7
              · rcases Nat.lt_or_ge b 39 with h8 | h8
                · obtain rfl : b = 38 := by omega
                  exact mk_38
                · obtain rfl : b = 39 := by omega
                  exact mk_39
              · rcases Nat.lt_or_ge b 41 with h8 | h8
                · obtain rfl : b = 40 := by omega
                  exact mk_40
                · obtain rfl : b = 41 := by omega
                  exact mk_41
        · rcases Nat.lt_or_ge b 49 with h5 | h5
          · rcases Nat.lt_or_ge b 45 with h6 | h6
            · rcases Nat.lt_or_ge b 43 with h7 | h7
              · obtain rfl : b = 42 := by omega
                exact mk_42
              · rcases Nat.lt_or_ge b 44 with h8 | h8
                · obtain rfl : b = 43 := by omega
                  exact mk_43
                · obtain rfl : b = 44 := by omega
                  exact mk_44
            · rcases Nat.lt_or_ge b 47 with h7 | h7
              · rcases Nat.lt_or_ge b 46 with h8 | h8
                · obtain rfl : b = 45 := by omega
                  exact mk_45
                · obtain rfl : b = 46 := by omega
                  exact mk_46
              · rcases Nat.lt_or_ge b 48 with h8 | h8
                · obtain rfl : b = 47 := by omega
                  exact mk_47
                · obtain rfl : b = 48 := by omega
                  exact mk_48
          · rcases Nat.lt_or_ge b 52 with h6 | h6
            · rcases Nat.lt_or_ge b 50 with h7 | h7
              · obtain rfl : b = 49 := by omega
                exact mk_49
              · rcases Nat.lt_or_ge b 51 with h8 | h8
                · obtain rfl : b = 50 := by omega
                  exact mk_50
                · obtain rfl : b = 51 := by omega
                  exact mk_51
            · rcases Nat.lt_or_ge b 54 with h7 | h7
              · rcases Nat.lt_or_ge b 53 with h8 | h8
                · obtain rfl : b = 52 := by omega
                  exact mk_52
                · obtain rfl : b = 53 := by omega
                  exact mk_53
              · rcases Nat.lt_or_ge b 55 with h8 | h8
                · obtain rfl : b = 54 := by omega
                  exact mk_54
                · obtain rfl : b = 55 := by omega
                  exact mk_55
    · rcases Nat.lt_or_ge b 84 with h3 | h3
      · rcases Nat.lt_or_ge b 70 with h4 | h4
        · rcases Nat.lt_or_ge b 63 with h5 | h5
          · rcases Nat.lt_or_ge b 59 with h6 | h6
            · rcases Nat.lt_or_ge b 57 with h7 | h7
              · obtain rfl : b = 56 := by omega
                exact mk_56
              · rcases Nat.lt_or_ge b 58 with h8 | h8
                · obtain rfl : b = 57 := by omega
                  exact mk_57
                · obtain rfl : b = 58 := by omega
                  exact mk_58
            · rcases Nat.lt_or_ge b 61 with h7 | h7
              · rcases Nat.lt_or_ge b 60 with h8 | h8
                · obtain rfl : b = 59 := by omega
                  exact mk_59
                · obtain rfl : b = 60 := by omega
                  exact mk_60
              · rcases Nat.lt_or_ge b 62 with h8 | h8
                · obtain rfl : b = 61 := by omega
                  exact mk_61
                · obtain rfl : b = 62 := by omega
                  exact mk_62
          · rcases Nat.lt_or_ge b 66 with h6 | h6
            · rcases Nat.lt_or_ge b 64 with h7 | h7
              · obtain rfl : b = 63 := by omega
                exact mk_63
              · rcases Nat.lt_or_ge b 65 with h8 | h8
                · obtain rfl : b = 64 := by omega
                  exact mk_64
                · obtain rfl : b = 65 := by omega
                  exact mk_65
            · rcases Nat.lt_or_ge b 68 with h7 | h7
              · rcases Nat.lt_or_ge b 67 with h8 | h8
                · obtain rfl : b = 66 := by omega
                  exact mk_66
                · obtain rfl : b = 67 := by omega
                  exact mk_67
              · rcases Nat.lt_or_ge b 69 with h8 | h8
                · obtain rfl : b = 68 := by omega
                  exact mk_68
                · obtain rfl : b = 69 := by omega
                  exact mk_69
        · rcases Nat.lt_or_ge b 77 with h5 | h5
          · rcases Nat.lt_or_ge b 73 with h6 | h6
            · rcases Nat.lt_or_ge b 71 with h7 | h7
              · obtain rfl : b = 70 := by omega
                exact mk_70
              · rcases Nat.lt_or_ge b 72 with h8 | h8
                · obtain rfl : b = 71 := by omega
                  exact mk_71
                · obtain rfl : b = 72 := by omega
                  exact mk_72
            · rcases Nat.lt_or_ge b 75 with h7 | h7
              · rcases Nat.lt_or_ge b 74 with h8 | h8
                · obtain rfl : b = 73 := by omega
                  exact mk_73
                · obtain rfl : b = 74 := by omega
                  exact mk_74
              · rcases Nat.lt_or_ge b 76 with h8 | h8
                · obtain rfl : b = 75 := by omega
                  exact mk_75
                · obtain rfl : b = 76 := by omega
                  exact mk_76
          · rcases Nat.lt_or_ge b 80 with h6 | h6
            · rcases Nat.lt_or_ge b 78 with h7 | h7
              · obtain rfl : b = 77 := by omega
                exact mk_77
              · rcases Nat.lt_or_ge b 79 with h8 | h8
                · obtain rfl : b = 78 := by omega
                  exact mk_78
                · obtain rfl : b = 79 := by omega
                  exact mk_79
            · rcases Nat.lt_or_ge b 82 with h7 | h7
              · rcases Nat.lt_or_ge b 81 with h8 | h8
                · obtain rfl : b = 80 := by omega
                  exact mk_80
                · obtain rfl : b = 81 := by omega
                  exact mk_81
              · rcases Nat.lt_or_ge b 83 with h8 | h8
                · obtain rfl : b = 82 := by omega
                  exact mk_82
                · obtain rfl : b = 83 := by omega
                  exact mk_83
      · rcases Nat.lt_or_ge b 98 with h4 | h4
        · rcases Nat.lt_or_ge b 91 with h5 | h5
          · rcases Nat.lt_or_ge b 87 with h6 | h6
            · rcases Nat.lt_or_ge b 85 with h7 | h7
              · obtain rfl : b = 84 := by omega
                exact mk_84
              · rcases Nat.lt_or_ge b 86 with h8 | h8
                · obtain rfl : b = 85 := by omega
                  exact mk_85
                · obtain rfl : b = 86 := by omega
                  exact mk_86
            · rcases Nat.lt_or_ge b 89 with h7 | h7
              · rcases Nat.lt_or_ge b 88 with h8 | h8
                · obtain rfl : b = 87 := by omega
                  exact mk_87
                · obtain rfl : b = 88 := by omega
                  exact mk_88
              · rcases Nat.lt_or_ge b 90 with h8 | h8
                · obtain rfl : b = 89 := by omega
                  exact mk_89
                · obtain rfl : b = 90 := by omega
                  exact mk_90
          · rcases Nat.lt_or_ge b 94 with h6 | h6
            · rcases Nat.lt_or_ge b 92 with h7 | h7
              · obtain rfl : b = 91 := by omega
                exact mk_91
              · rcases Nat.lt_or_ge b 93 with h8 | h8
                · obtain rfl : b = 92 := by omega
                  exact mk_92
                · obtain rfl : b = 93 := by omega
                  exact mk_93
            · rcases Nat.lt_or_ge b 96 with h7 | h7
              · rcases Nat.lt_or_ge b 95 with h8 | h8
                · obtain rfl : b = 94 := by omega
                  exact mk_94
                · obtain rfl : b = 95 := by omega
                  exact mk_95
              · rcases Nat.lt_or_ge b 97 with h8 | h8
                · obtain rfl : b = 96 := by omega
                  exact mk_96
                · obtain rfl : b = 97 := by omega
                  exact mk_97
        · rcases Nat.lt_or_ge b 105 with h5 | h5
          · rcases Nat.lt_or_ge b 101 with h6 | h6
            · rcases Nat.lt_or_ge b 99 with h7 | h7
              · obtain rfl : b = 98 := by omega
                exact mk_98
              · rcases Nat.lt_or_ge b 100 with h8 | h8
                · obtain rfl : b = 99 := by omega
                  exact mk_99
                · obtain rfl : b = 100 := by omega
                  exact mk_100
            · rcases Nat.lt_or_ge b 103 with h7 | h7
              · rcases Nat.lt_or_ge b 102 with h8 | h8
                · obtain rfl : b = 101 := by omega
                  exact mk_101
                · obtain rfl : b = 102 := by omega
                  exact mk_102
              · rcases Nat.lt_or_ge b 104 with h8 | h8
                · obtain rfl : b = 103 := by omega
                  exact mk_103
                · obtain rfl : b = 104 := by omega
                  exact mk_104
          · rcases Nat.lt_or_ge b 109 with h6 | h6
            · rcases Nat.lt_or_ge b 107 with h7 | h7
              · rcases Nat.lt_or_ge b 106 with h8 | h8
                · obtain rfl : b = 105 := by omega
                  exact mk_105
                · obtain rfl : b = 106 := by omega
                  exact mk_106
              · rcases Nat.lt_or_ge b 108 with h8 | h8
                · obtain rfl : b = 107 := by omega
                  exact mk_107
                · obtain rfl : b = 108 := by omega
                  exact mk_108
            · rcases Nat.lt_or_ge b 111 with h7 | h7
              · rcases Nat.lt_or_ge b 110 with h8 | h8
                · obtain rfl : b = 109 := by omega
                  exact mk_109
                · obtain rfl : b = 110 := by omega
                  exact mk_110
              · rcases Nat.lt_or_ge b 112 with h8 | h8
                · obtain rfl : b = 111 := by omega
                  exact mk_111
                · obtain rfl : b = 112 := by omega
                  exact mk_112
  · rcases Nat.lt_or_ge b 170 with h2 | h2
    · rcases Nat.lt_or_ge b 141 with h3 | h3
      · rcases Nat.lt_or_ge b 127 with h4 | h4
        · rcases Nat.lt_or_ge b 120 with h5 | h5
          · rcases Nat.lt_or_ge b 116 with h6 | h6
            · rcases Nat.lt_or_ge b 114 with h7 | h7
              · obtain rfl : b = 113 := by omega
                exact mk_113
              · rcases Nat.lt_or_ge b 115 with h8 | h8
                · obtain rfl : b = 114 := by omega
                  exact mk_114
                · obtain rfl : b = 115 := by omega
                  exact mk_115
            · rcases Nat.lt_or_ge b 118 with h7 | h7
              · rcases Nat.lt_or_ge b 117 with h8 | h8
                · obtain rfl : b = 116 := by omega
                  exact mk_116
                · obtain rfl : b = 117 := by omega
                  exact mk_117
              · rcases Nat.lt_or_ge b 119 with h8 | h8
                · obtain rfl : b = 118 := by omega
                  exact mk_118
                · obtain rfl : b = 119 := by omega
                  exact mk_119
          · rcases Nat.lt_or_ge b 123 with h6 | h6
            · rcases Nat.lt_or_ge b 121 with h7 | h7
              · obtain rfl : b = 120 := by omega
                exact mk_120
              · rcases Nat.lt_or_ge b 122 with h8 | h8
                · obtain rfl : b = 121 := by omega
                  exact mk_121
                · obtain rfl : b = 122 := by omega
                  exact mk_122
            · rcases Nat.lt_or_ge b 125 with h7 | h7
              · rcases Nat.lt_or_ge b 124 with h8 | h8
                · obtain rfl : b = 123 := by omega
                  exact mk_123
                · obtain rfl : b = 124 := by omega
                  exact mk_124
              · rcases Nat.lt_or_ge b 126 with h8 | h8
                · obtain rfl : b = 125 := by omega
                  exact mk_125
                · obtain rfl : b = 126 := by omega
                  exact mk_126
        · rcases Nat.lt_or_ge b 134 with h5 | h5
          · rcases Nat.lt_or_ge b 130 with h6 | h6
            · rcases Nat.lt_or_ge b 128 with h7 | h7
              · obtain rfl : b = 127 := by omega
                exact mk_127
              · rcases Nat.lt_or_ge b 129 with h8 | h8
                · obtain rfl : b = 128 := by omega
                  exact mk_128
                · obtain rfl : b = 129 := by omega
                  exact mk_129
            · rcases Nat.lt_or_ge b 132 with h7 | h7
              · rcases Nat.lt_or_ge b 131 with h8 | h8
                · obtain rfl : b = 130 := by omega
                  exact mk_130
                · obtain rfl : b = 131 := by omega
                  exact mk_131
              · rcases Nat.lt_or_ge b 133 with h8 | h8
                · obtain rfl : b = 132 := by omega
                  exact mk_132
                · obtain rfl : b = 133 := by omega
                  exact mk_133
          · rcases Nat.lt_or_ge b 137 with h6 | h6
            · rcases Nat.lt_or_ge b 135 with h7 | h7
              · obtain rfl : b = 134 := by omega
                exact mk_134
              · rcases Nat.lt_or_ge b 136 with h8 | h8
                · obtain rfl : b = 135 := by omega
                  exact mk_135
                · obtain rfl : b = 136 := by omega
                  exact mk_136
            · rcases Nat.lt_or_ge b 139 with h7 | h7
              · rcases Nat.lt_or_ge b 138 with h8 | h8
                · obtain rfl : b = 137 := by omega
                  exact mk_137
                · obtain rfl : b = 138 := by omega
                  exact mk_138
              · rcases Nat.lt_or_ge b 140 with h8 | h8
                · obtain rfl : b = 139 := by omega
                  exact mk_139
                · obtain rfl : b = 140 := by omega
                  exact mk_140
      · rcases Nat.lt_or_ge b 155 with h4 | h4
        · rcases Nat.lt_or_ge b 148 with h5 | h5
          · rcases Nat.lt_or_ge b 144 with h6 | h6
            · rcases Nat.lt_or_ge b 142 with h7 | h7
              · obtain rfl : b = 141 := by omega
                exact mk_141
              · rcases Nat.lt_or_ge b 143 with h8 | h8
                · obtain rfl : b = 142 := by omega
                  exact mk_142
                · obtain rfl : b = 143 := by omega
                  exact mk_143
            · rcases Nat.lt_or_ge b 146 with h7 | h7
              · rcases Nat.lt_or_ge b 145 with h8 | h8
                · obtain rfl : b = 144 := by omega
                  exact mk_144
                · obtain rfl : b = 145 := by omega
                  exact mk_145
              · rcases Nat.lt_or_ge b 147 with h8 | h8
                · obtain rfl : b = 146 := by omega
                  exact mk_146
                · obtain rfl : b = 147 := by omega
                  exact mk_147
          · rcases Nat.lt_or_ge b 151 with h6 | h6
            · rcases Nat.lt_or_ge b 149 with h7 | h7
              · obtain rfl : b = 148 := by omega
                exact mk_148
              · rcases Nat.lt_or_ge b 150 with h8 | h8
                · obtain rfl : b = 149 := by omega
                  exact mk_149
                · obtain rfl : b = 150 := by omega
                  exact mk_150
            · rcases Nat.lt_or_ge b 153 with h7 | h7
              · rcases Nat.lt_or_ge b 152 with h8 | h8
                · obtain rfl : b = 151 := by omega
                  exact mk_151
                · obtain rfl : b = 152 := by omega
                  exact mk_152
              · rcases Nat.lt_or_ge b 154 with h8 | h8
                · obtain rfl : b = 153 := by omega
                  exact mk_153
                · obtain rfl : b = 154 := by omega
                  exact mk_154
        · rcases Nat.lt_or_ge b 162 with h5 | h5
          · rcases Nat.lt_or_ge b 158 with h6 | h6
            · rcases Nat.lt_or_ge b 156 with h7 | h7
              · obtain rfl : b = 155 := by omega
                exact mk_155
              · rcases Nat.lt_or_ge b 157 with h8 | h8
                · obtain rfl : b = 156 := by omega
                  exact mk_156
                · obtain rfl : b = 157 := by omega
                  exact mk_157
            · rcases Nat.lt_or_ge b 160 with h7 | h7
              · rcases Nat.lt_or_ge b 159 with h8 | h8
                · obtain rfl : b = 158 := by omega
                  exact mk_158
                · obtain rfl : b = 159 := by omega
                  exact mk_159
              · rcases Nat.lt_or_ge b 161 with h8 | h8
                · obtain rfl : b = 160 := by omega
                  exact mk_160
                · obtain rfl : b = 161 := by omega
                  exact mk_161
          · rcases Nat.lt_or_ge b 166 with h6 | h6
            · rcases Nat.lt_or_ge b 164 with h7 | h7
              · rcases Nat.lt_or_ge b 163 with h8 | h8
                · obtain rfl : b = 162 := by omega
                  exact mk_162
                · obtain rfl : b = 163 := by omega
                  exact mk_163
              · rcases Nat.lt_or_ge b 165 with h8 | h8
                · obtain rfl : b = 164 := by omega
                  exact mk_164
                · obtain rfl : b = 165 := by omega
                  exact mk_165
            · rcases Nat.lt_or_ge b 168 with h7 | h7
              · rcases Nat.lt_or_ge b 167 with h8 | h8
                · obtain rfl : b = 166 := by omega
                  exact mk_166
                · obtain rfl : b = 167 := by omega
                  exact mk_167
              · rcases Nat.lt_or_ge b 169 with h8 | h8
                · obtain rfl : b = 168 := by omega
                  exact mk_168
                · obtain rfl : b = 169 := by omega
                  exact mk_169
    · rcases Nat.lt_or_ge b 198 with h3 | h3
      · rcases Nat.lt_or_ge b 184 with h4 | h4
        · rcases Nat.lt_or_ge b 177 with h5 | h5
          · rcases Nat.lt_or_ge b 173 with h6 | h6
            · rcases Nat.lt_or_ge b 171 with h7 | h7
              · obtain rfl : b = 170 := by omega
                exact mk_170
              · rcases Nat.lt_or_ge b 172 with h8 | h8
                · obtain rfl : b = 171 := by omega
                  exact mk_171
                · obtain rfl : b = 172 := by omega
                  exact mk_172
            · rcases Nat.lt_or_ge b 175 with h7 | h7
              · rcases Nat.lt_or_ge b 174 with h8 | h8
                · obtain rfl : b = 173 := by omega
                  exact mk_173
                · obtain rfl : b = 174 := by omega
                  exact mk_174
              · rcases Nat.lt_or_ge b 176 with h8 | h8
                · obtain rfl : b = 175 := by omega
                  exact mk_175
                · obtain rfl : b = 176 := by omega
                  exact mk_176
          · rcases Nat.lt_or_ge b 180 with h6 | h6
            · rcases Nat.lt_or_ge b 178 with h7 | h7
              · obtain rfl : b = 177 := by omega
                exact mk_177
              · rcases Nat.lt_or_ge b 179 with h8 | h8
                · obtain rfl : b = 178 := by omega
                  exact mk_178
                · obtain rfl : b = 179 := by omega
                  exact mk_179
            · rcases Nat.lt_or_ge b 182 with h7 | h7
              · rcases Nat.lt_or_ge b 181 with h8 | h8
                · obtain rfl : b = 180 := by omega
                  exact mk_180
                · obtain rfl : b = 181 := by omega
                  exact mk_181
              · rcases Nat.lt_or_ge b 183 with h8 | h8
                · obtain rfl : b = 182 := by omega
                  exact mk_182
                · obtain rfl : b = 183 := by omega
                  exact mk_183
        · rcases Nat.lt_or_ge b 191 with h5 | h5
          · rcases Nat.lt_or_ge b 187 with h6 | h6
            · rcases Nat.lt_or_ge b 185 with h7 | h7
              · obtain rfl : b = 184 := by omega
                exact mk_184
              · rcases Nat.lt_or_ge b 186 with h8 | h8
                · obtain rfl : b = 185 := by omega
                  exact mk_185
                · obtain rfl : b = 186 := by omega
                  exact mk_186
            · rcases Nat.lt_or_ge b 189 with h7 | h7
              · rcases Nat.lt_or_ge b 188 with h8 | h8
                · obtain rfl : b = 187 := by omega
                  exact mk_187
                · obtain rfl : b = 188 := by omega
                  exact mk_188
              · rcases Nat.lt_or_ge b 190 with h8 | h8
                · obtain rfl : b = 189 := by omega
                  exact mk_189
                · obtain rfl : b = 190 := by omega
                  exact mk_190
          · rcases Nat.lt_or_ge b 194 with h6 | h6
            · rcases Nat.lt_or_ge b 192 with h7 | h7
              · obtain rfl : b = 191 := by omega
                exact mk_191
              · rcases Nat.lt_or_ge b 193 with h8 | h8
                · obtain rfl : b = 192 := by omega
                  exact mk_192
                · obtain rfl : b = 193 := by omega
                  exact mk_193
            · rcases Nat.lt_or_ge b 196 with h7 | h7
              · rcases Nat.lt_or_ge b 195 with h8 | h8
                · obtain rfl : b = 194 := by omega
                  exact mk_194
                · obtain rfl : b = 195 := by omega
                  exact mk_195
              · rcases Nat.lt_or_ge b 197 with h8 | h8
                · obtain rfl : b = 196 := by omega
                  exact mk_196
                · obtain rfl : b = 197 := by omega
                  exact mk_197
      · rcases Nat.lt_or_ge b 212 with h4 | h4
        · rcases Nat.lt_or_ge b 205 with h5 | h5
          · rcases Nat.lt_or_ge b 201 with h6 | h6
            · rcases Nat.lt_or_ge b 199 with h7 | h7
              · obtain rfl : b = 198 := by omega
                exact mk_198
              · rcases Nat.lt_or_ge b 200 with h8 | h8
                · obtain rfl : b = 199 := by omega
                  exact mk_199
                · obtain rfl : b = 200 := by omega
                  exact mk_200
            · rcases Nat.lt_or_ge b 203 with h7 | h7
              · rcases Nat.lt_or_ge b 202 with h8 | h8
                · obtain rfl : b = 201 := by omega
                  exact mk_201
                · obtain rfl : b = 202 := by omega
                  exact mk_202
              · rcases Nat.lt_or_ge b 204 with h8 | h8
                · obtain rfl : b = 203 := by omega
                  exact mk_203
                · obtain rfl : b = 204 := by omega
                  exact mk_204
          · rcases Nat.lt_or_ge b 208 with h6 | h6
            · rcases Nat.lt_or_ge b 206 with h7 | h7
              · obtain rfl : b = 205 := by omega
                exact mk_205
              · rcases Nat.lt_or_ge b 207 with h8 | h8
                · obtain rfl : b = 206 := by omega
                  exact mk_206
                · obtain rfl : b = 207 := by omega
                  exact mk_207
            · rcases Nat.lt_or_ge b 210 with h7 | h7
              · rcases Nat.lt_or_ge b 209 with h8 | h8
                · obtain rfl : b = 208 := by omega
                  exact mk_208
                · obtain rfl : b = 209 := by omega
                  exact mk_209
              · rcases Nat.lt_or_ge b 211 with h8 | h8
                · obtain rfl : b = 210 := by omega
                  exact mk_210
                · obtain rfl : b = 211 := by omega
                  exact mk_211
        · rcases Nat.lt_or_ge b 219 with h5 | h5
          · rcases Nat.lt_or_ge b 215 with h6 | h6
            · rcases Nat.lt_or_ge b 213 with h7 | h7
              · obtain rfl : b = 212 := by omega
                exact mk_212
              · rcases Nat.lt_or_ge b 214 with h8 | h8
                · obtain rfl : b = 213 := by omega
                  exact mk_213
                · obtain rfl : b = 214 := by omega
                  exact mk_214
            · rcases Nat.lt_or_ge b 217 with h7 | h7
              · rcases Nat.lt_or_ge b 216 with h8 | h8
                · obtain rfl : b = 215 := by omega
                  exact mk_215
                · obtain rfl : b = 216 := by omega
                  exact mk_216
              · rcases Nat.lt_or_ge b 218 with h8 | h8
                · obtain rfl : b = 217 := by omega
                  exact mk_217
                · obtain rfl : b = 218 := by omega
                  exact mk_218
          · rcases Nat.lt_or_ge b 223 with h6 | h6
            · rcases Nat.lt_or_ge b 221 with h7 | h7
              · rcases Nat.lt_or_ge b 220 with h8 | h8
                · obtain rfl : b = 219 := by omega
                  exact mk_219
                · obtain rfl : b = 220 := by omega
                  exact mk_220
              · rcases Nat.lt_or_ge b 222 with h8 | h8
                · obtain rfl : b = 221 := by omega
                  exact mk_221
                · obtain rfl : b = 222 := by omega
                  exact mk_222
            · rcases Nat.lt_or_ge b 225 with h7 | h7
              · rcases Nat.lt_or_ge b 224 with h8 | h8
                · obtain rfl : b = 223 := by omega
                  exact mk_223
                · obtain rfl : b = 224 := by omega
                  exact mk_224
              · rcases Nat.lt_or_ge b 226 with h8 | h8
                · obtain rfl : b = 225 := by omega
                  exact mk_225
                · obtain rfl : b = 226 := by omega
                  exact mk_226
end
section
/-! THE BYTES ARE THE SMALL MACHINE'S CODE: each row of the tables against what decode says -/
def jlk : List (Nat × Nat × Nat × Nat) := [(1, 41, 2, 903), (2, 58, 1, 492), (4, 126, 2, 876), (6, 38, 2, 784), (7, 63, 0, 481), (7, 100, 2, 811), (10, 179, 0, 1308), (10, 190, 1, 1279), (10, 267, 2, 1371), (10, 311, 4, 1456), (10, 314, 3, 1459)]
def jnm (k : Nat) : MethodName := (nth [Lib.Math.abs.name, Lib.Math.max.name, Lib.Math.min.name, Lib.MathLoose.max_long.x, Lib.MathLoose.min_long.x] k).getD Lib.Math.abs.name
set_option maxRecDepth 100000 in
theorem jlk_ok : ∀ q ∈ jlk, lw_tbl[q.2.2.2]? = some (.methodLink (owS q.1) q.2.1 (jnm q.2.2.1)) := by decide +kernel
def k_load (pc a b nx : Nat) : Instr → Nat → Bool
  | .iload_n k, n => decide (k.val = a ∧ b = 0 ∧ n = 1 ∧ nx = pc + 1)
  | .iload k, n => decide (k = a ∧ b = 0 ∧ n = 2 ∧ nx = pc + 2)
  | .aload_n k, n => decide (k.val = a ∧ b = 1 ∧ n = 1 ∧ nx = pc + 1)
  | .aload k, n => decide (k = a ∧ b = 1 ∧ n = 2 ∧ nx = pc + 2)
  | .lload_n k, n => decide (k.val = a ∧ b = 2 ∧ n = 1 ∧ nx = pc + 1)
  | .lload k, n => decide (k = a ∧ b = 2 ∧ n = 2 ∧ nx = pc + 2)
  | _, _ => false
def k_push (oc pc : Nat) (v : AV) (nx : Nat) : Instr → Nat → Bool
  | .iconst x, n => decide (v = .inl (Int32.ofInt x) ∧ n = 1 ∧ nx = pc + 1)
  | .bipush x, n => decide (v = .inl (Int8.ofInt x).toInt32 ∧ n = 2 ∧ nx = pc + 2)
  | .sipush x, n => decide (v = .inl (Int16.ofInt x).toInt32 ∧ n = 3 ∧ nx = pc + 3)
  | .lconst k, n => decide (v = .inr (.inl (Int64.ofNat k.val)) ∧ n = 1 ∧ nx = pc + 1)
  | .ldc ix, n => decide (n = 2 ∧ nx = pc + 2) && (clk.any (fun q => decide (q.1 = oc ∧ q.2.1 = ix ∧ v = .inl q.2.2.1)) || decide (oc = 8) && (List.range 5).any (fun k => decide (sidx k = ix ∧ v = .inr (.inr (52, k)))))
  | .ldc_w ix, n => decide (n = 3 ∧ nx = pc + 3) && clk.any (fun q => decide (q.1 = oc ∧ q.2.1 = ix ∧ v = .inl q.2.2.1))
  | .ldc2_w ix, n => decide (n = 3 ∧ nx = pc + 3) && llk.any (fun q => decide (q.1 = oc ∧ q.2.1 = ix ∧ v = .inr (.inl q.2.2.1)))
  | _, _ => false
def k_get (oc pc a b nx : Nat) : Instr → Nat → Bool
  | .getfield ix, n => decide (n = 3 ∧ nx = pc + 3) && flk.any (fun q => decide (q.1 = oc ∧ q.2.1 = ix ∧ q.2.2.1 = a ∧ q.2.2.2.1 = b))
  | _, _ => false
def k_put (oc pc a b nx : Nat) : Instr → Nat → Bool
  | .putfield ix, n => decide (n = 3 ∧ nx = pc + 3 ∧ (TTc a b).2.2.2 = false) && flk.any (fun q => decide (q.1 = oc ∧ q.2.1 = ix ∧ q.2.2.1 = a ∧ q.2.2.2.1 = b))
  | _, _ => false
def k_call (oc pc a b nx : Nat) : Instr → Nat → Bool
  | .invokevirtual ix, n => decide (n = 3 ∧ nx = pc + 3 ∧ mcl b ≠ 99 ∧ a = npr b + 1) && mlk.any (fun q => decide (q.1 = oc ∧ q.2.1 = ix ∧ q.2.2.1 = b))
  | .invokestatic ix, n => decide (n = 3 ∧ nx = pc + 3 ∧ mcl b = 99 ∧ a = npr b) && mlk.any (fun q => decide (q.1 = oc ∧ q.2.1 = ix ∧ q.2.2.1 = b))
  | _, _ => false
def k_ret (rt : Option FieldType) (a : Nat) : Instr → Nat → Bool
  | .return_, n => decide (n = 1 ∧ a = 0 ∧ rt = none)
  | .ireturn, n => decide (n = 1 ∧ (a = 1 ∧ rt = some .int ∨ a = 3 ∧ rt = some .boolean))
  | .lreturn, n => decide (n = 1 ∧ a = 2 ∧ rt = some .long)
  | _, _ => false
def k_xald (pc a nx : Nat) : Instr → Nat → Bool
  | .iaload, n => decide (n = 1 ∧ nx = pc + 1 ∧ a = 1)
  | .baload, n => decide (n = 1 ∧ nx = pc + 1 ∧ a = 3)
  | .caload, n => decide (n = 1 ∧ nx = pc + 1 ∧ a = 4)
  | _, _ => false
def k_goto (pc b : Nat) : Instr → Nat → Bool
  | .goto off, n => decide (n = 3 ∧ (pc : Int) + off = (b : Int))
  | _, _ => false
def k_sto1 (pc a nx : Nat) : Instr → Nat → Bool
  | .istore_n k, n => decide (k.val = a ∧ n = 1 ∧ nx = pc + 1)
  | .istore k, n => decide (k = a ∧ n = 2 ∧ nx = pc + 2)
  | _, _ => false
def k_stoA (pc a nx : Nat) : Instr → Nat → Bool
  | .astore_n k, n => decide (k.val = a ∧ n = 1 ∧ nx = pc + 1)
  | .astore k, n => decide (k = a ∧ n = 2 ∧ nx = pc + 2)
  | _, _ => false
def k_sto2 (pc a nx : Nat) : Instr → Nat → Bool
  | .lstore_n k, n => decide (k.val = a ∧ n = 1 ∧ nx = pc + 1)
  | .lstore k, n => decide (k = a ∧ n = 2 ∧ nx = pc + 2)
  | _, _ => false
def k_ibin (pc a nx : Nat) : Instr → Nat → Bool
  | .iadd, n => decide (a = 0 ∧ n = 1 ∧ nx = pc + 1)
  | .isub, n => decide (a = 1 ∧ n = 1 ∧ nx = pc + 1)
  | .imul, n => decide (a = 2 ∧ n = 1 ∧ nx = pc + 1)
  | .iand, n => decide (a = 3 ∧ n = 1 ∧ nx = pc + 1)
  | .ior, n => decide (a = 4 ∧ n = 1 ∧ nx = pc + 1)
  | .ixor, n => decide (a = 5 ∧ n = 1 ∧ nx = pc + 1)
  | .ishl, n => decide (a = 6 ∧ n = 1 ∧ nx = pc + 1)
  | .ishr, n => decide (a = 7 ∧ n = 1 ∧ nx = pc + 1)
  | .iushr, n => decide (a = 8 ∧ n = 1 ∧ nx = pc + 1)
  | _, _ => false
def cnd : ClassFile.Cond → Nat
  | .eq => 0 | .ne => 1 | .lt => 2 | .ge => 3 | .gt => 4 | .le => 5
def k_icmp (pc a b nx : Nat) : Instr → Nat → Bool
  | .if_icmp c off, n => decide (n = 3 ∧ nx = pc + 3 ∧ (pc : Int) + off = (b : Int) ∧ cnd c = a)
  | _, _ => false
def k_ifz (pc a b nx : Nat) : Instr → Nat → Bool
  | .ifCond c off, n => decide (n = 3 ∧ nx = pc + 3 ∧ (pc : Int) + off = (b : Int) ∧ cnd c = a)
  | _, _ => false
def k_iinc (pc a : Nat) (v : AV) (nx : Nat) : Instr → Nat → Bool
  | .iinc k x, n => decide (k = a ∧ n = 3 ∧ nx = pc + 3 ∧ v = .inl (Int32.ofInt x))
  | _, _ => false
def k_iast (pc a nx : Nat) : Instr → Nat → Bool
  | .iastore, n => decide (n = 1 ∧ nx = pc + 1 ∧ a = 1)
  | .bastore, n => decide (n = 1 ∧ nx = pc + 1 ∧ a = 3)
  | _, _ => false
def k_unry (pc a nx : Nat) : Instr → Nat → Bool
  | .ineg, n => decide (a = 0 ∧ n = 1 ∧ nx = pc + 1)
  | .i2l, n => decide (a = 1 ∧ n = 1 ∧ nx = pc + 1)
  | .l2i, n => decide (a = 2 ∧ n = 1 ∧ nx = pc + 1)
  | .i2b, n => decide (a = 3 ∧ n = 1 ∧ nx = pc + 1)
  | .i2s, n => decide (a = 4 ∧ n = 1 ∧ nx = pc + 1)
  | _, _ => false
def k_lbin (pc a nx : Nat) : Instr → Nat → Bool
  | .ladd, n => decide (a = 0 ∧ n = 1 ∧ nx = pc + 1)
  | .lmul, n => decide (a = 1 ∧ n = 1 ∧ nx = pc + 1)
  | .land, n => decide (a = 2 ∧ n = 1 ∧ nx = pc + 1)
  | .lor, n => decide (a = 3 ∧ n = 1 ∧ nx = pc + 1)
  | _, _ => false
def k_idiv (pc a nx : Nat) : Instr → Nat → Bool
  | .idiv, n => decide (a = 0 ∧ n = 1 ∧ nx = pc + 1)
  | .irem, n => decide (a = 1 ∧ n = 1 ∧ nx = pc + 1)
  | _, _ => false
def k_dup (pc nx : Nat) : Instr → Nat → Bool
  | .dup, n => decide (n = 1 ∧ nx = pc + 1)
  | _, _ => false
def k_aald (pc nx : Nat) : Instr → Nat → Bool
  | .aaload, n => decide (n = 1 ∧ nx = pc + 1)
  | _, _ => false
def k_lcmp (pc nx : Nat) : Instr → Nat → Bool
  | .lcmp, n => decide (n = 1 ∧ nx = pc + 1)
  | _, _ => false
def k_ldiv (pc nx : Nat) : Instr → Nat → Bool
  | .ldiv, n => decide (n = 1 ∧ nx = pc + 1)
  | _, _ => false
def k_lald (pc nx : Nat) : Instr → Nat → Bool
  | .laload, n => decide (n = 1 ∧ nx = pc + 1)
  | _, _ => false
def k_last (pc nx : Nat) : Instr → Nat → Bool
  | .lastore, n => decide (n = 1 ∧ nx = pc + 1)
  | _, _ => false
def k_dup2 (pc nx : Nat) : Instr → Nat → Bool
  | .dup2, n => decide (n = 1 ∧ nx = pc + 1)
  | _, _ => false
def k_pop (pc nx : Nat) : Instr → Nat → Bool
  | .pop, n => decide (n = 1 ∧ nx = pc + 1)
  | _, _ => false
def k_alen (pc nx : Nat) : Instr → Nat → Bool
  | .arraylength, n => decide (n = 1 ∧ nx = pc + 1)
  | _, _ => false
def k_lshl (pc nx : Nat) : Instr → Nat → Bool
  | .lshl, n => decide (n = 1 ∧ nx = pc + 1)
  | _, _ => false
def tabL (pc : Nat) : Int → List Int → List (Int32 × Nat)
  | _, [] => []
  | lo, x :: r => (Int32.ofInt lo, ((pc : Int) + x).toNat) :: tabL pc (lo + 1) r
def k_swit (pc b : Nat) (sw : List (Int32 × Nat)) : Instr → Nat → Bool
  | .tableswitch df lo hi offs, _ => decide ((pc : Int) + df = (b : Int) ∧ -1000 ≤ lo ∧ hi < 1000 ∧ hi = lo + offs.size - 1 ∧ sw = tabL pc lo offs.toList ∧ ∀ x ∈ offs.toList, 0 ≤ (pc : Int) + x)
  | .lookupswitch df ps, _ => decide ((pc : Int) + df = (b : Int) ∧ (ps.toList.zip (ps.toList.drop 1)).all (fun (a, next) => a.1 < next.1) = true ∧ sw = ps.toList.map (fun q => (Int32.ofInt q.1, ((pc : Int) + q.2).toNat)) ∧ ∀ q ∈ ps.toList, 0 ≤ (pc : Int) + q.2 ∧ -1000 ≤ q.1 ∧ q.1 < 1000)
  | _, _ => false
def k_acpy (oc pc a nx : Nat) : Instr → Nat → Bool
  | .invokestatic ix, n => decide (n = 3 ∧ nx = pc + 3 ∧ (a = 1 ∨ a = 2)) && alk.any (fun q => decide (q.1 = oc ∧ q.2.1 = ix))
  | _, _ => false
def k_str (oc pc w nx : Nat) : Instr → Nat → Bool
  | .invokevirtual ix, n => decide (n = 3 ∧ nx = pc + 3) && slk.any (fun q => decide (q.1 = oc ∧ q.2.1 = ix ∧ q.2.2.1 = w))
  | _, _ => false
def k_math (oc pc w nx : Nat) : Instr → Nat → Bool
  | .invokestatic ix, n => decide (n = 3 ∧ nx = pc + 3) && jlk.any (fun q => decide (q.1 = oc ∧ q.2.1 = ix ∧ q.2.2.1 = w))
  | _, _ => false
def chI (m pc : Nat) (i : Instr) (n : Nat) : IN → Bool
  | (op, a, b, v, nx) =>
    if op = 0 then k_load pc a b nx i n
    else if op = 1 then k_push (ow m) pc v nx i n
    else if op = 2 then k_get (ow m) pc a b nx i n
    else if op = 3 then k_call (ow m) pc a b nx i n
    else if op = 4 then k_ret (retT m) a i n
    else if op = 5 then k_xald pc a nx i n
    else if op = 6 then k_goto pc b i n
    else if op = 7 then k_sto1 pc a nx i n
    else if op = 8 then k_ibin pc a nx i n
    else if op = 9 then k_icmp pc a b nx i n
    else if op = 10 then k_ifz pc a b nx i n
    else if op = 11 then k_put (ow m) pc a b nx i n
    else if op = 12 then k_iinc pc a v nx i n
    else if op = 13 then k_dup pc nx i n
    else if op = 14 then k_iast pc a nx i n
    else if op = 15 then k_unry pc a nx i n
    else if op = 16 then k_aald pc nx i n
    else if op = 17 then k_lbin pc a nx i n
    else if op = 18 then k_lcmp pc nx i n
    else if op = 19 then k_idiv pc a nx i n
    else if op = 20 then k_ldiv pc nx i n
    else if op = 21 then k_lald pc nx i n
    else if op = 22 then k_last pc nx i n
    else if op = 23 then k_sto2 pc a nx i n
    else if op = 24 then k_dup2 pc nx i n
    else if op = 25 then k_pop pc nx i n
    else if op = 26 then k_alen pc nx i n
    else if op = 27 then k_lshl pc nx i n
    else if op = 28 then k_swit pc b (swt m pc) i n
    else if op = 29 then k_acpy (ow m) pc a nx i n
    else if op = 30 then k_str (ow m) pc 0 nx i n
    else if op = 31 then k_str (ow m) pc 1 nx i n
    else if op = 32 then k_stoA pc a nx i n
    else if op = 33 then k_math (ow m) pc (if a = 0 then 1 else 2) nx i n
    else if op = 34 then k_math (ow m) pc 0 nx i n
    else if op = 35 then k_math (ow m) pc (if a = 0 then 3 else 4) nx i n
    else false
def chk (m pc : Nat) (e : IN) : Bool := match decode (byt m) pc with
  | .ok (i, n) => chI m pc i n e
  | .error _ => false
def okM (m : Nat) : Bool := (icode m).all fun c => c.all fun q => chk m q.1 q.2
theorem lkp_mem : ∀ {l : List (Nat × IN)} {n : Nat} {e : IN}, lkp l n = some e → (n, e) ∈ l
  | [], _, _, h => by cases h
  | (k, x) :: l, n, e, h => by
    unfold lkp at h
    cases hb : Nat.beq k n with
    | true =>
      rw [hb] at h
      cases h
      have := Nat.eq_of_beq_eq_true hb
      subst this
      exact List.mem_cons_self
    | false =>
      rw [hb] at h
      exact List.mem_cons_of_mem _ (lkp_mem h)
theorem ins_cases (m pc : Nat) : (ins m pc).1 = 99 ∨ ∃ c ∈ icode m, (pc, ins m pc) ∈ c := by
  unfold ins
  cases h : nth (icode m) (pc / 32) with
  | none => exact Or.inl rfl
  | some c =>
    cases h2 : lkp c pc with
    | none => simp only [h2]; exact Or.inl trivial
    | some e => simp only [h2]; exact Or.inr ⟨c, nth_mem h, lkp_mem h2⟩
theorem ins_ok {m pc : Nat} (hm : okM m = true) (h : (ins m pc).1 ≠ 99) : chk m pc (ins m pc) = true := by
  rcases ins_cases m pc with h1 | ⟨c, hc, hm2⟩
  · exact absurd h1 h
  · have h2 : ∀ c ∈ icode m, (c.all fun q => chk m q.1 q.2) = true := List.all_eq_true.mp hm
    have h3 : ∀ q ∈ c, chk m q.1 q.2 = true := List.all_eq_true.mp (h2 c hc)
    exact h3 (pc, ins m pc) hm2
end
section
/-! the checks of methods 0 to 51 -/
set_option maxRecDepth 100000 in
theorem ok_0 : okM 0 = true := by decide +kernel
set_option maxRecDepth 100000 in
theorem ok_1 : okM 1 = true := by decide +kernel
set_option maxRecDepth 100000 in
theorem ok_2 : okM 2 = true := by decide +kernel
set_option maxRecDepth 100000 in
theorem ok_3 : okM 3 = true := by decide +kernel
set_option maxRecDepth 100000 in
theorem ok_4 : okM 4 = true := by decide +kernel
set_option maxRecDepth 100000 in
theorem ok_5 : okM 5 = true := by decide +kernel
set_option maxRecDepth 100000 in
theorem ok_6 : okM 6 = true := by decide +kernel
set_option maxRecDepth 100000 in
theorem ok_7 : okM 7 = true := by decide +kernel
set_option maxRecDepth 100000 in
theorem ok_8 : okM 8 = true := by decide +kernel
set_option maxRecDepth 100000 in
theorem ok_9 : okM 9 = true := by decide +kernel
set_option maxRecDepth 100000 in
theorem ok_10 : okM 10 = true := by decide +kernel
set_option maxRecDepth 100000 in
theorem ok_11 : okM 11 = true := by decide +kernel
set_option maxRecDepth 100000 in
theorem ok_12 : okM 12 = true := by decide +kernel
set_option maxRecDepth 100000 in
theorem ok_13 : okM 13 = true := by decide +kernel
set_option maxRecDepth 100000 in
theorem ok_14 : okM 14 = true := by decide +kernel
set_option maxRecDepth 100000 in
theorem ok_15 : okM 15 = true := by decide +kernel
set_option maxRecDepth 100000 in
theorem ok_16 : okM 16 = true := by decide +kernel
set_option maxRecDepth 100000 in
theorem ok_17 : okM 17 = true := by decide +kernel
set_option maxRecDepth 100000 in
theorem ok_18 : okM 18 = true := by decide +kernel
set_option maxRecDepth 100000 in
theorem ok_19 : okM 19 = true := by decide +kernel
set_option maxRecDepth 100000 in
theorem ok_20 : okM 20 = true := by decide +kernel
set_option maxRecDepth 100000 in
theorem ok_21 : okM 21 = true := by decide +kernel
set_option maxRecDepth 100000 in
theorem ok_22 : okM 22 = true := by decide +kernel
set_option maxRecDepth 100000 in
theorem ok_23 : okM 23 = true := by decide +kernel
set_option maxRecDepth 100000 in
theorem ok_24 : okM 24 = true := by decide +kernel
set_option maxRecDepth 100000 in
theorem ok_25 : okM 25 = true := by decide +kernel
set_option maxRecDepth 100000 in
theorem ok_26 : okM 26 = true := by decide +kernel
set_option maxRecDepth 100000 in
theorem ok_27 : okM 27 = true := by decide +kernel
set_option maxRecDepth 100000 in
theorem ok_28 : okM 28 = true := by decide +kernel
set_option maxRecDepth 100000 in
theorem ok_29 : okM 29 = true := by decide +kernel
set_option maxRecDepth 100000 in
theorem ok_30 : okM 30 = true := by decide +kernel
set_option maxRecDepth 100000 in
theorem ok_31 : okM 31 = true := by decide +kernel
set_option maxRecDepth 100000 in
theorem ok_32 : okM 32 = true := by decide +kernel
set_option maxRecDepth 100000 in
theorem ok_33 : okM 33 = true := by decide +kernel
set_option maxRecDepth 100000 in
theorem ok_34 : okM 34 = true := by decide +kernel
set_option maxRecDepth 100000 in
theorem ok_35 : okM 35 = true := by decide +kernel
set_option maxRecDepth 100000 in
theorem ok_36 : okM 36 = true := by decide +kernel
set_option maxRecDepth 100000 in
theorem ok_37 : okM 37 = true := by decide +kernel
set_option maxRecDepth 100000 in
theorem ok_38 : okM 38 = true := by decide +kernel
set_option maxRecDepth 100000 in
theorem ok_39 : okM 39 = true := by decide +kernel
set_option maxRecDepth 100000 in
theorem ok_40 : okM 40 = true := by decide +kernel
set_option maxRecDepth 100000 in
theorem ok_41 : okM 41 = true := by decide +kernel
set_option maxRecDepth 100000 in
theorem ok_42 : okM 42 = true := by decide +kernel
set_option maxRecDepth 100000 in
theorem ok_43 : okM 43 = true := by decide +kernel
set_option maxRecDepth 100000 in
theorem ok_44 : okM 44 = true := by decide +kernel
set_option maxRecDepth 100000 in
theorem ok_45 : okM 45 = true := by decide +kernel
set_option maxRecDepth 100000 in
theorem ok_46 : okM 46 = true := by decide +kernel
set_option maxRecDepth 100000 in
theorem ok_47 : okM 47 = true := by decide +kernel
set_option maxRecDepth 100000 in
theorem ok_48 : okM 48 = true := by decide +kernel
set_option maxRecDepth 100000 in
theorem ok_49 : okM 49 = true := by decide +kernel
set_option maxRecDepth 100000 in
theorem ok_50 : okM 50 = true := by decide +kernel
set_option maxRecDepth 100000 in
theorem ok_51 : okM 51 = true := by decide +kernel
end
section
/-! the checks of methods 52 to 93 -/
set_option maxRecDepth 100000 in
theorem ok_52 : okM 52 = true := by decide +kernel
set_option maxRecDepth 100000 in
theorem ok_53 : okM 53 = true := by decide +kernel
set_option maxRecDepth 100000 in
theorem ok_54 : okM 54 = true := by decide +kernel
set_option maxRecDepth 100000 in
theorem ok_55 : okM 55 = true := by decide +kernel
set_option maxRecDepth 100000 in
theorem ok_56 : okM 56 = true := by decide +kernel
set_option maxRecDepth 100000 in
theorem ok_57 : okM 57 = true := by decide +kernel
set_option maxRecDepth 100000 in
theorem ok_58 : okM 58 = true := by decide +kernel
set_option maxRecDepth 100000 in
theorem ok_59 : okM 59 = true := by decide +kernel
set_option maxRecDepth 100000 in
theorem ok_60 : okM 60 = true := by decide +kernel
set_option maxRecDepth 100000 in
theorem ok_61 : okM 61 = true := by decide +kernel
set_option maxRecDepth 100000 in
theorem ok_62 : okM 62 = true := by decide +kernel
set_option maxRecDepth 100000 in
theorem ok_63 : okM 63 = true := by decide +kernel
set_option maxRecDepth 100000 in
theorem ok_64 : okM 64 = true := by decide +kernel
set_option maxRecDepth 100000 in
theorem ok_65 : okM 65 = true := by decide +kernel
set_option maxRecDepth 100000 in
theorem ok_66 : okM 66 = true := by decide +kernel
set_option maxRecDepth 100000 in
theorem ok_67 : okM 67 = true := by decide +kernel
set_option maxRecDepth 100000 in
theorem ok_68 : okM 68 = true := by decide +kernel
set_option maxRecDepth 100000 in
theorem ok_69 : okM 69 = true := by decide +kernel
set_option maxRecDepth 100000 in
theorem ok_70 : okM 70 = true := by decide +kernel
set_option maxRecDepth 100000 in
theorem ok_71 : okM 71 = true := by decide +kernel
set_option maxRecDepth 100000 in
theorem ok_72 : okM 72 = true := by decide +kernel
set_option maxRecDepth 100000 in
theorem ok_73 : okM 73 = true := by decide +kernel
set_option maxRecDepth 100000 in
theorem ok_74 : okM 74 = true := by decide +kernel
set_option maxRecDepth 100000 in
theorem ok_75 : okM 75 = true := by decide +kernel
set_option maxRecDepth 100000 in
theorem ok_76 : okM 76 = true := by decide +kernel
set_option maxRecDepth 100000 in
theorem ok_77 : okM 77 = true := by decide +kernel
set_option maxRecDepth 100000 in
theorem ok_78 : okM 78 = true := by decide +kernel
set_option maxRecDepth 100000 in
theorem ok_79 : okM 79 = true := by decide +kernel
set_option maxRecDepth 100000 in
theorem ok_80 : okM 80 = true := by decide +kernel
set_option maxRecDepth 100000 in
theorem ok_81 : okM 81 = true := by decide +kernel
set_option maxRecDepth 100000 in
theorem ok_82 : okM 82 = true := by decide +kernel
set_option maxRecDepth 100000 in
theorem ok_83 : okM 83 = true := by decide +kernel
set_option maxRecDepth 100000 in
theorem ok_84 : okM 84 = true := by decide +kernel
set_option maxRecDepth 100000 in
theorem ok_85 : okM 85 = true := by decide +kernel
set_option maxRecDepth 100000 in
theorem ok_86 : okM 86 = true := by decide +kernel
set_option maxRecDepth 100000 in
theorem ok_87 : okM 87 = true := by decide +kernel
set_option maxRecDepth 100000 in
theorem ok_88 : okM 88 = true := by decide +kernel
set_option maxRecDepth 100000 in
theorem ok_89 : okM 89 = true := by decide +kernel
set_option maxRecDepth 100000 in
theorem ok_90 : okM 90 = true := by decide +kernel
set_option maxRecDepth 100000 in
theorem ok_91 : okM 91 = true := by decide +kernel
set_option maxRecDepth 100000 in
theorem ok_92 : okM 92 = true := by decide +kernel
set_option maxRecDepth 100000 in
theorem ok_93 : okM 93 = true := by decide +kernel
end
section
/-! the checks of methods 94 to 146 -/
set_option maxRecDepth 100000 in
theorem ok_94 : okM 94 = true := by decide +kernel
set_option maxRecDepth 100000 in
theorem ok_95 : okM 95 = true := by decide +kernel
set_option maxRecDepth 100000 in
theorem ok_96 : okM 96 = true := by decide +kernel
set_option maxRecDepth 100000 in
theorem ok_97 : okM 97 = true := by decide +kernel
set_option maxRecDepth 100000 in
theorem ok_98 : okM 98 = true := by decide +kernel
set_option maxRecDepth 100000 in
theorem ok_99 : okM 99 = true := by decide +kernel
set_option maxRecDepth 100000 in
theorem ok_100 : okM 100 = true := by decide +kernel
set_option maxRecDepth 100000 in
theorem ok_101 : okM 101 = true := by decide +kernel
set_option maxRecDepth 100000 in
theorem ok_102 : okM 102 = true := by decide +kernel
set_option maxRecDepth 100000 in
theorem ok_103 : okM 103 = true := by decide +kernel
set_option maxRecDepth 100000 in
theorem ok_104 : okM 104 = true := by decide +kernel
set_option maxRecDepth 100000 in
theorem ok_105 : okM 105 = true := by decide +kernel
set_option maxRecDepth 100000 in
theorem ok_106 : okM 106 = true := by decide +kernel
set_option maxRecDepth 100000 in
theorem ok_107 : okM 107 = true := by decide +kernel
set_option maxRecDepth 100000 in
theorem ok_108 : okM 108 = true := by decide +kernel
set_option maxRecDepth 100000 in
theorem ok_109 : okM 109 = true := by decide +kernel
set_option maxRecDepth 100000 in
theorem ok_110 : okM 110 = true := by decide +kernel
set_option maxRecDepth 100000 in
theorem ok_111 : okM 111 = true := by decide +kernel
set_option maxRecDepth 100000 in
theorem ok_112 : okM 112 = true := by decide +kernel
set_option maxRecDepth 100000 in
theorem ok_113 : okM 113 = true := by decide +kernel
set_option maxRecDepth 100000 in
theorem ok_114 : okM 114 = true := by decide +kernel
set_option maxRecDepth 100000 in
theorem ok_115 : okM 115 = true := by decide +kernel
set_option maxRecDepth 100000 in
theorem ok_116 : okM 116 = true := by decide +kernel
set_option maxRecDepth 100000 in
theorem ok_117 : okM 117 = true := by decide +kernel
set_option maxRecDepth 100000 in
theorem ok_118 : okM 118 = true := by decide +kernel
set_option maxRecDepth 100000 in
theorem ok_119 : okM 119 = true := by decide +kernel
set_option maxRecDepth 100000 in
theorem ok_120 : okM 120 = true := by decide +kernel
set_option maxRecDepth 100000 in
theorem ok_121 : okM 121 = true := by decide +kernel
set_option maxRecDepth 100000 in
theorem ok_122 : okM 122 = true := by decide +kernel
set_option maxRecDepth 100000 in
theorem ok_123 : okM 123 = true := by decide +kernel
set_option maxRecDepth 100000 in
theorem ok_124 : okM 124 = true := by decide +kernel
set_option maxRecDepth 100000 in
theorem ok_125 : okM 125 = true := by decide +kernel
set_option maxRecDepth 100000 in
theorem ok_126 : okM 126 = true := by decide +kernel
set_option maxRecDepth 100000 in
theorem ok_127 : okM 127 = true := by decide +kernel
set_option maxRecDepth 100000 in
theorem ok_128 : okM 128 = true := by decide +kernel
set_option maxRecDepth 100000 in
theorem ok_129 : okM 129 = true := by decide +kernel
set_option maxRecDepth 100000 in
theorem ok_130 : okM 130 = true := by decide +kernel
set_option maxRecDepth 100000 in
theorem ok_131 : okM 131 = true := by decide +kernel
set_option maxRecDepth 100000 in
theorem ok_132 : okM 132 = true := by decide +kernel
set_option maxRecDepth 100000 in
theorem ok_133 : okM 133 = true := by decide +kernel
set_option maxRecDepth 100000 in
theorem ok_134 : okM 134 = true := by decide +kernel
set_option maxRecDepth 100000 in
theorem ok_135 : okM 135 = true := by decide +kernel
set_option maxRecDepth 100000 in
theorem ok_136 : okM 136 = true := by decide +kernel
set_option maxRecDepth 100000 in
theorem ok_137 : okM 137 = true := by decide +kernel
set_option maxRecDepth 100000 in
theorem ok_138 : okM 138 = true := by decide +kernel
set_option maxRecDepth 100000 in
theorem ok_139 : okM 139 = true := by decide +kernel
set_option maxRecDepth 100000 in
theorem ok_140 : okM 140 = true := by decide +kernel
set_option maxRecDepth 100000 in
theorem ok_141 : okM 141 = true := by decide +kernel
set_option maxRecDepth 100000 in
theorem ok_142 : okM 142 = true := by decide +kernel
set_option maxRecDepth 100000 in
theorem ok_143 : okM 143 = true := by decide +kernel
set_option maxRecDepth 100000 in
theorem ok_144 : okM 144 = true := by decide +kernel
set_option maxRecDepth 100000 in
theorem ok_145 : okM 145 = true := by decide +kernel
set_option maxRecDepth 100000 in
theorem ok_146 : okM 146 = true := by decide +kernel
end
section
/-! the checks of methods 147 to 183 -/
set_option maxRecDepth 100000 in
theorem ok_147 : okM 147 = true := by decide +kernel
set_option maxRecDepth 100000 in
theorem ok_148 : okM 148 = true := by decide +kernel
set_option maxRecDepth 100000 in
theorem ok_149 : okM 149 = true := by decide +kernel
set_option maxRecDepth 100000 in
theorem ok_150 : okM 150 = true := by decide +kernel
set_option maxRecDepth 100000 in
theorem ok_151 : okM 151 = true := by decide +kernel
set_option maxRecDepth 100000 in
theorem ok_152 : okM 152 = true := by decide +kernel
set_option maxRecDepth 100000 in
theorem ok_153 : okM 153 = true := by decide +kernel
set_option maxRecDepth 100000 in
theorem ok_154 : okM 154 = true := by decide +kernel
set_option maxRecDepth 100000 in
theorem ok_155 : okM 155 = true := by decide +kernel
set_option maxRecDepth 100000 in
theorem ok_156 : okM 156 = true := by decide +kernel
set_option maxRecDepth 100000 in
theorem ok_157 : okM 157 = true := by decide +kernel
set_option maxRecDepth 100000 in
theorem ok_158 : okM 158 = true := by decide +kernel
set_option maxRecDepth 100000 in
theorem ok_159 : okM 159 = true := by decide +kernel
set_option maxRecDepth 100000 in
theorem ok_160 : okM 160 = true := by decide +kernel
set_option maxRecDepth 100000 in
theorem ok_161 : okM 161 = true := by decide +kernel
set_option maxRecDepth 100000 in
theorem ok_162 : okM 162 = true := by decide +kernel
set_option maxRecDepth 100000 in
theorem ok_163 : okM 163 = true := by decide +kernel
set_option maxRecDepth 100000 in
theorem ok_164 : okM 164 = true := by decide +kernel
set_option maxRecDepth 100000 in
theorem ok_165 : okM 165 = true := by decide +kernel
set_option maxRecDepth 100000 in
theorem ok_166 : okM 166 = true := by decide +kernel
set_option maxRecDepth 100000 in
theorem ok_167 : okM 167 = true := by decide +kernel
set_option maxRecDepth 100000 in
theorem ok_168 : okM 168 = true := by decide +kernel
set_option maxRecDepth 100000 in
theorem ok_169 : okM 169 = true := by decide +kernel
set_option maxRecDepth 100000 in
theorem ok_170 : okM 170 = true := by decide +kernel
set_option maxRecDepth 100000 in
theorem ok_171 : okM 171 = true := by decide +kernel
set_option maxRecDepth 100000 in
theorem ok_172 : okM 172 = true := by decide +kernel
set_option maxRecDepth 100000 in
theorem ok_173 : okM 173 = true := by decide +kernel
set_option maxRecDepth 100000 in
theorem ok_174 : okM 174 = true := by decide +kernel
set_option maxRecDepth 100000 in
theorem ok_175 : okM 175 = true := by decide +kernel
set_option maxRecDepth 100000 in
theorem ok_176 : okM 176 = true := by decide +kernel
set_option maxRecDepth 100000 in
theorem ok_177 : okM 177 = true := by decide +kernel
set_option maxRecDepth 100000 in
theorem ok_178 : okM 178 = true := by decide +kernel
set_option maxRecDepth 100000 in
theorem ok_179 : okM 179 = true := by decide +kernel
set_option maxRecDepth 100000 in
theorem ok_180 : okM 180 = true := by decide +kernel
set_option maxRecDepth 100000 in
theorem ok_181 : okM 181 = true := by decide +kernel
set_option maxRecDepth 100000 in
theorem ok_182 : okM 182 = true := by decide +kernel
set_option maxRecDepth 100000 in
theorem ok_183 : okM 183 = true := by decide +kernel
end
section
/-! the checks of methods 184 to 213 -/
set_option maxRecDepth 100000 in
theorem ok_184 : okM 184 = true := by decide +kernel
set_option maxRecDepth 100000 in
theorem ok_185 : okM 185 = true := by decide +kernel
set_option maxRecDepth 100000 in
theorem ok_186 : okM 186 = true := by decide +kernel
set_option maxRecDepth 100000 in
theorem ok_187 : okM 187 = true := by decide +kernel
set_option maxRecDepth 100000 in
theorem ok_188 : okM 188 = true := by decide +kernel
set_option maxRecDepth 100000 in
theorem ok_189 : okM 189 = true := by decide +kernel
set_option maxRecDepth 100000 in
theorem ok_190 : okM 190 = true := by decide +kernel
set_option maxRecDepth 100000 in
theorem ok_191 : okM 191 = true := by decide +kernel
set_option maxRecDepth 100000 in
theorem ok_192 : okM 192 = true := by decide +kernel
set_option maxRecDepth 100000 in
theorem ok_193 : okM 193 = true := by decide +kernel
set_option maxRecDepth 100000 in
theorem ok_194 : okM 194 = true := by decide +kernel
set_option maxRecDepth 100000 in
theorem ok_195 : okM 195 = true := by decide +kernel
set_option maxRecDepth 100000 in
theorem ok_196 : okM 196 = true := by decide +kernel
set_option maxRecDepth 100000 in
theorem ok_197 : okM 197 = true := by decide +kernel
set_option maxRecDepth 100000 in
theorem ok_198 : okM 198 = true := by decide +kernel
set_option maxRecDepth 100000 in
theorem ok_199 : okM 199 = true := by decide +kernel
set_option maxRecDepth 100000 in
theorem ok_200 : okM 200 = true := by decide +kernel
set_option maxRecDepth 100000 in
theorem ok_201 : okM 201 = true := by decide +kernel
set_option maxRecDepth 100000 in
theorem ok_202 : okM 202 = true := by decide +kernel
set_option maxRecDepth 100000 in
theorem ok_203 : okM 203 = true := by decide +kernel
set_option maxRecDepth 100000 in
theorem ok_204 : okM 204 = true := by decide +kernel
set_option maxRecDepth 100000 in
theorem ok_205 : okM 205 = true := by decide +kernel
set_option maxRecDepth 100000 in
theorem ok_206 : okM 206 = true := by decide +kernel
set_option maxRecDepth 100000 in
theorem ok_207 : okM 207 = true := by decide +kernel
set_option maxRecDepth 100000 in
theorem ok_208 : okM 208 = true := by decide +kernel
set_option maxRecDepth 100000 in
theorem ok_209 : okM 209 = true := by decide +kernel
set_option maxRecDepth 100000 in
theorem ok_210 : okM 210 = true := by decide +kernel
set_option maxRecDepth 100000 in
theorem ok_211 : okM 211 = true := by decide +kernel
set_option maxRecDepth 100000 in
theorem ok_213 : okM 213 = true := by decide +kernel
end
section
/-! the checks of methods 214 to 227 -/
set_option maxRecDepth 100000 in
theorem ok_214 : okM 214 = true := by decide +kernel
set_option maxRecDepth 100000 in
theorem ok_215 : okM 215 = true := by decide +kernel
set_option maxRecDepth 100000 in
theorem ok_216 : okM 216 = true := by decide +kernel
set_option maxRecDepth 100000 in
theorem ok_217 : okM 217 = true := by decide +kernel
set_option maxRecDepth 100000 in
theorem ok_218 : okM 218 = true := by decide +kernel
set_option maxRecDepth 100000 in
theorem ok_219 : okM 219 = true := by decide +kernel
set_option maxRecDepth 100000 in
theorem ok_220 : okM 220 = true := by decide +kernel
set_option maxRecDepth 100000 in
theorem ok_221 : okM 221 = true := by decide +kernel
set_option maxRecDepth 100000 in
theorem ok_222 : okM 222 = true := by decide +kernel
set_option maxRecDepth 100000 in
theorem ok_223 : okM 223 = true := by decide +kernel
set_option maxRecDepth 100000 in
theorem ok_224 : okM 224 = true := by decide +kernel
set_option maxRecDepth 100000 in
theorem ok_225 : okM 225 = true := by decide +kernel
set_option maxRecDepth 100000 in
theorem ok_226 : okM 226 = true := by decide +kernel
end
section
set_option maxRecDepth 100000 in
theorem ok_212_0 : (ic_212_0.all fun q => chk 212 q.1 q.2) = true := by decide +kernel
set_option maxRecDepth 100000 in
theorem ok_212_1 : (ic_212_1.all fun q => chk 212 q.1 q.2) = true := by decide +kernel
set_option maxRecDepth 100000 in
theorem ok_212_2 : (ic_212_2.all fun q => chk 212 q.1 q.2) = true := by decide +kernel
set_option maxRecDepth 100000 in
theorem ok_212_3 : (ic_212_3.all fun q => chk 212 q.1 q.2) = true := by decide +kernel
set_option maxRecDepth 100000 in
theorem ok_212_4 : (ic_212_4.all fun q => chk 212 q.1 q.2) = true := by decide +kernel
set_option maxRecDepth 100000 in
theorem ok_212_5 : (ic_212_5.all fun q => chk 212 q.1 q.2) = true := by decide +kernel
set_option maxRecDepth 100000 in
theorem ok_212_6 : (ic_212_6.all fun q => chk 212 q.1 q.2) = true := by decide +kernel
set_option maxRecDepth 100000 in
theorem ok_212_7 : (ic_212_7.all fun q => chk 212 q.1 q.2) = true := by decide +kernel
set_option maxRecDepth 100000 in
theorem ok_212_8 : (ic_212_8.all fun q => chk 212 q.1 q.2) = true := by decide +kernel
set_option maxRecDepth 100000 in
theorem ok_212_9 : (ic_212_9.all fun q => chk 212 q.1 q.2) = true := by decide +kernel
theorem ok_212 : okM 212 = true := by
  show (List.all [ic_212_0, ic_212_1, ic_212_2, ic_212_3, ic_212_4, ic_212_5, ic_212_6, ic_212_7, ic_212_8, ic_212_9] fun c => c.all fun q => chk 212 q.1 q.2) = true
  simp only [List.all_cons, List.all_nil, ok_212_0, ok_212_1, ok_212_2, ok_212_3, ok_212_4, ok_212_5, ok_212_6, ok_212_7, ok_212_8, ok_212_9, Bool.and_self]
end
section
set_option maxRecDepth 100000 in
theorem ok_227_0 : (ic_227_0.all fun q => chk 227 q.1 q.2) = true := by decide +kernel
set_option maxRecDepth 100000 in
theorem ok_227_1 : (ic_227_1.all fun q => chk 227 q.1 q.2) = true := by decide +kernel
set_option maxRecDepth 100000 in
theorem ok_227_2 : (ic_227_2.all fun q => chk 227 q.1 q.2) = true := by decide +kernel
set_option maxRecDepth 100000 in
theorem ok_227_3 : (ic_227_3.all fun q => chk 227 q.1 q.2) = true := by decide +kernel
set_option maxRecDepth 100000 in
theorem ok_227_4 : (ic_227_4.all fun q => chk 227 q.1 q.2) = true := by decide +kernel
set_option maxRecDepth 100000 in
theorem ok_227_5 : (ic_227_5.all fun q => chk 227 q.1 q.2) = true := by decide +kernel
set_option maxRecDepth 100000 in
theorem ok_227_6 : (ic_227_6.all fun q => chk 227 q.1 q.2) = true := by decide +kernel
set_option maxRecDepth 100000 in
theorem ok_227_7 : (ic_227_7.all fun q => chk 227 q.1 q.2) = true := by decide +kernel
set_option maxRecDepth 100000 in
theorem ok_227_8 : (ic_227_8.all fun q => chk 227 q.1 q.2) = true := by decide +kernel
set_option maxRecDepth 100000 in
theorem ok_227_9 : (ic_227_9.all fun q => chk 227 q.1 q.2) = true := by decide +kernel
set_option maxRecDepth 100000 in
theorem ok_227_10 : (ic_227_10.all fun q => chk 227 q.1 q.2) = true := by decide +kernel
set_option maxRecDepth 100000 in
theorem ok_227_11 : (ic_227_11.all fun q => chk 227 q.1 q.2) = true := by decide +kernel
set_option maxRecDepth 100000 in
theorem ok_227_12 : (ic_227_12.all fun q => chk 227 q.1 q.2) = true := by decide +kernel
set_option maxRecDepth 100000 in
theorem ok_227_13 : (ic_227_13.all fun q => chk 227 q.1 q.2) = true := by decide +kernel
end
section
set_option maxRecDepth 100000 in
theorem ok_227_14 : (ic_227_14.all fun q => chk 227 q.1 q.2) = true := by decide +kernel
set_option maxRecDepth 100000 in
theorem ok_227_15 : (ic_227_15.all fun q => chk 227 q.1 q.2) = true := by decide +kernel
set_option maxRecDepth 100000 in
theorem ok_227_16 : (ic_227_16.all fun q => chk 227 q.1 q.2) = true := by decide +kernel
set_option maxRecDepth 100000 in
theorem ok_227_17 : (ic_227_17.all fun q => chk 227 q.1 q.2) = true := by decide +kernel
set_option maxRecDepth 100000 in
theorem ok_227_18 : (ic_227_18.all fun q => chk 227 q.1 q.2) = true := by decide +kernel
set_option maxRecDepth 100000 in
theorem ok_227_19 : (ic_227_19.all fun q => chk 227 q.1 q.2) = true := by decide +kernel
set_option maxRecDepth 100000 in
theorem ok_227_20 : (ic_227_20.all fun q => chk 227 q.1 q.2) = true := by decide +kernel
set_option maxRecDepth 100000 in
theorem ok_227_21 : (ic_227_21.all fun q => chk 227 q.1 q.2) = true := by decide +kernel
set_option maxRecDepth 100000 in
theorem ok_227_22 : (ic_227_22.all fun q => chk 227 q.1 q.2) = true := by decide +kernel
set_option maxRecDepth 100000 in
theorem ok_227_23 : (ic_227_23.all fun q => chk 227 q.1 q.2) = true := by decide +kernel
set_option maxRecDepth 100000 in
theorem ok_227_24 : (ic_227_24.all fun q => chk 227 q.1 q.2) = true := by decide +kernel
set_option maxRecDepth 100000 in
theorem ok_227_25 : (ic_227_25.all fun q => chk 227 q.1 q.2) = true := by decide +kernel
set_option maxRecDepth 100000 in
theorem ok_227_26 : (ic_227_26.all fun q => chk 227 q.1 q.2) = true := by decide +kernel
set_option maxRecDepth 100000 in
theorem ok_227_27 : (ic_227_27.all fun q => chk 227 q.1 q.2) = true := by decide +kernel
end
section
set_option maxRecDepth 100000 in
theorem ok_227_28 : (ic_227_28.all fun q => chk 227 q.1 q.2) = true := by decide +kernel
set_option maxRecDepth 100000 in
theorem ok_227_29 : (ic_227_29.all fun q => chk 227 q.1 q.2) = true := by decide +kernel
set_option maxRecDepth 100000 in
theorem ok_227_30 : (ic_227_30.all fun q => chk 227 q.1 q.2) = true := by decide +kernel
set_option maxRecDepth 100000 in
theorem ok_227_31 : (ic_227_31.all fun q => chk 227 q.1 q.2) = true := by decide +kernel
set_option maxRecDepth 100000 in
theorem ok_227_32 : (ic_227_32.all fun q => chk 227 q.1 q.2) = true := by decide +kernel
set_option maxRecDepth 100000 in
theorem ok_227_33 : (ic_227_33.all fun q => chk 227 q.1 q.2) = true := by decide +kernel
set_option maxRecDepth 100000 in
theorem ok_227_34 : (ic_227_34.all fun q => chk 227 q.1 q.2) = true := by decide +kernel
set_option maxRecDepth 100000 in
theorem ok_227_35 : (ic_227_35.all fun q => chk 227 q.1 q.2) = true := by decide +kernel
set_option maxRecDepth 100000 in
theorem ok_227_36 : (ic_227_36.all fun q => chk 227 q.1 q.2) = true := by decide +kernel
set_option maxRecDepth 100000 in
theorem ok_227_37 : (ic_227_37.all fun q => chk 227 q.1 q.2) = true := by decide +kernel
set_option maxRecDepth 100000 in
theorem ok_227_38 : (ic_227_38.all fun q => chk 227 q.1 q.2) = true := by decide +kernel
set_option maxRecDepth 100000 in
theorem ok_227_39 : (ic_227_39.all fun q => chk 227 q.1 q.2) = true := by decide +kernel
theorem ok_227 : okM 227 = true := by
  show (List.all [ic_227_0, ic_227_1, ic_227_2, ic_227_3, ic_227_4, ic_227_5, ic_227_6, ic_227_7, ic_227_8, ic_227_9, ic_227_10, ic_227_11, ic_227_12, ic_227_13, ic_227_14, ic_227_15, ic_227_16, ic_227_17, ic_227_18, ic_227_19, ic_227_20, ic_227_21, ic_227_22, ic_227_23, ic_227_24, ic_227_25, ic_227_26, ic_227_27, ic_227_28, ic_227_29, ic_227_30, ic_227_31, ic_227_32, ic_227_33, ic_227_34, ic_227_35, ic_227_36, ic_227_37, ic_227_38, ic_227_39] fun c => c.all fun q => chk 227 q.1 q.2) = true
  simp only [List.all_cons, List.all_nil, ok_227_0, ok_227_1, ok_227_2, ok_227_3, ok_227_4, ok_227_5, ok_227_6, ok_227_7, ok_227_8, ok_227_9, ok_227_10, ok_227_11, ok_227_12, ok_227_13, ok_227_14, ok_227_15, ok_227_16, ok_227_17, ok_227_18, ok_227_19, ok_227_20, ok_227_21, ok_227_22, ok_227_23, ok_227_24, ok_227_25, ok_227_26, ok_227_27, ok_227_28, ok_227_29, ok_227_30, ok_227_31, ok_227_32, ok_227_33, ok_227_34, ok_227_35, ok_227_36, ok_227_37, ok_227_38, ok_227_39, Bool.and_self]
end
section
theorem ok_all (b : Nat) (h : b < 228) : okM b = true := by
  rcases Nat.lt_or_ge b 114 with h1 | h1
  · rcases Nat.lt_or_ge b 57 with h2 | h2
    · rcases Nat.lt_or_ge b 28 with h3 | h3
      · rcases Nat.lt_or_ge b 14 with h4 | h4
        · rcases Nat.lt_or_ge b 7 with h5 | h5
          · rcases Nat.lt_or_ge b 3 with h6 | h6
            · rcases Nat.lt_or_ge b 1 with h7 | h7
              · obtain rfl : b = 0 := by omega
                exact ok_0
              · rcases Nat.lt_or_ge b 2 with h8 | h8
                · obtain rfl : b = 1 := by omega
                  exact ok_1
                · obtain rfl : b = 2 := by omega
                  exact ok_2
            · rcases Nat.lt_or_ge b 5 with h7 | h7
              · rcases Nat.lt_or_ge b 4 with h8 | h8
                · obtain rfl : b = 3 := by omega
                  exact ok_3
                · obtain rfl : b = 4 := by omega
                  exact ok_4
              · rcases Nat.lt_or_ge b 6 with h8 | h8
                · obtain rfl : b = 5 := by omega
                  exact ok_5
                · obtain rfl : b = 6 := by omega
                  exact ok_6
          · rcases Nat.lt_or_ge b 10 with h6 | h6
            · rcases Nat.lt_or_ge b 8 with h7 | h7
              · obtain rfl : b = 7 := by omega
                exact ok_7
              · rcases Nat.lt_or_ge b 9 with h8 | h8
                · obtain rfl : b = 8 := by omega
                  exact ok_8
                · obtain rfl : b = 9 := by omega
                  exact ok_9
            · rcases Nat.lt_or_ge b 12 with h7 | h7
              · rcases Nat.lt_or_ge b 11 with h8 | h8
                · obtain rfl : b = 10 := by omega
                  exact ok_10
                · obtain rfl : b = 11 := by omega
                  exact ok_11
              · rcases Nat.lt_or_ge b 13 with h8 | h8
                · obtain rfl : b = 12 := by omega
                  exact ok_12
                · obtain rfl : b = 13 := by omega
                  exact ok_13
        · rcases Nat.lt_or_ge b 21 with h5 | h5
          · rcases Nat.lt_or_ge b 17 with h6 | h6
            · rcases Nat.lt_or_ge b 15 with h7 | h7
              · obtain rfl : b = 14 := by omega
                exact ok_14
              · rcases Nat.lt_or_ge b 16 with h8 | h8
                · obtain rfl : b = 15 := by omega
                  exact ok_15
                · obtain rfl : b = 16 := by omega
                  exact ok_16
            · rcases Nat.lt_or_ge b 19 with h7 | h7
              · rcases Nat.lt_or_ge b 18 with h8 | h8
                · obtain rfl : b = 17 := by omega
                  exact ok_17
                · obtain rfl : b = 18 := by omega
                  exact ok_18
              · rcases Nat.lt_or_ge b 20 with h8 | h8
                · obtain rfl : b = 19 := by omega
                  exact ok_19
                · obtain rfl : b = 20 := by omega
                  exact ok_20
          · rcases Nat.lt_or_ge b 24 with h6 | h6
            · rcases Nat.lt_or_ge b 22 with h7 | h7
              · obtain rfl : b = 21 := by omega
                exact ok_21
              · rcases Nat.lt_or_ge b 23 with h8 | h8
                · obtain rfl : b = 22 := by omega
                  exact ok_22
                · obtain rfl : b = 23 := by omega
                  exact ok_23
            · rcases Nat.lt_or_ge b 26 with h7 | h7
              · rcases Nat.lt_or_ge b 25 with h8 | h8
                · obtain rfl : b = 24 := by omega
                  exact ok_24
                · obtain rfl : b = 25 := by omega
                  exact ok_25
              · rcases Nat.lt_or_ge b 27 with h8 | h8
                · obtain rfl : b = 26 := by omega
                  exact ok_26
                · obtain rfl : b = 27 := by omega
                  exact ok_27
      · rcases Nat.lt_or_ge b 42 with h4 | h4
        · rcases Nat.lt_or_ge b 35 with h5 | h5
          · rcases Nat.lt_or_ge b 31 with h6 | h6
            · rcases Nat.lt_or_ge b 29 with h7 | h7
              · obtain rfl : b = 28 := by omega
                exact ok_28
              · rcases Nat.lt_or_ge b 30 with h8 | h8
                · obtain rfl : b = 29 := by omega
                  exact ok_29
                · obtain rfl : b = 30 := by omega
                  exact ok_30
            · rcases Nat.lt_or_ge b 33 with h7 | h7
              · rcases Nat.lt_or_ge b 32 with h8 | h8
                · obtain rfl : b = 31 := by omega
                  exact ok_31
                · obtain rfl : b = 32 := by omega
                  exact ok_32
              · rcases Nat.lt_or_ge b 34 with h8 | h8
                · obtain rfl : b = 33 := by omega
                  exact ok_33
                · obtain rfl : b = 34 := by omega
                  exact ok_34
          · rcases Nat.lt_or_ge b 38 with h6 | h6
            · rcases Nat.lt_or_ge b 36 with h7 | h7
              · obtain rfl : b = 35 := by omega
                exact ok_35
              · rcases Nat.lt_or_ge b 37 with h8 | h8
                · obtain rfl : b = 36 := by omega
                  exact ok_36
                · obtain rfl : b = 37 := by omega
                  exact ok_37
            · rcases Nat.lt_or_ge b 40 with h7 | h7
              · rcases Nat.lt_or_ge b 39 with h8 | h8
                · obtain rfl : b = 38 := by omega
                  exact ok_38
                · obtain rfl : b = 39 := by omega
                  exact ok_39
              · rcases Nat.lt_or_ge b 41 with h8 | h8
                · obtain rfl : b = 40 := by omega
                  exact ok_40
                · obtain rfl : b = 41 := by omega
                  exact ok_41
        · rcases Nat.lt_or_ge b 49 with h5 | h5
          · rcases Nat.lt_or_ge b 45 with h6 | h6
            · rcases Nat.lt_or_ge b 43 with h7 | h7
              · obtain rfl : b = 42 := by omega
                exact ok_42
              · rcases Nat.lt_or_ge b 44 with h8 | h8
                · obtain rfl : b = 43 := by omega
                  exact ok_43
                · obtain rfl : b = 44 := by omega
                  exact ok_44
            · rcases Nat.lt_or_ge b 47 with h7 | h7
              · rcases Nat.lt_or_ge b 46 with h8 | h8
                · obtain rfl : b = 45 := by omega
                  exact ok_45
                · obtain rfl : b = 46 := by omega
                  exact ok_46
              · rcases Nat.lt_or_ge b 48 with h8 | h8
                · obtain rfl : b = 47 := by omega
                  exact ok_47
                · obtain rfl : b = 48 := by omega
                  exact ok_48
          · rcases Nat.lt_or_ge b 53 with h6 | h6
            · rcases Nat.lt_or_ge b 51 with h7 | h7
              · rcases Nat.lt_or_ge b 50 with h8 | h8
                · obtain rfl : b = 49 := by omega
                  exact ok_49
                · obtain rfl : b = 50 := by omega
                  exact ok_50
              · rcases Nat.lt_or_ge b 52 with h8 | h8
                · obtain rfl : b = 51 := by omega
                  exact ok_51
                · obtain rfl : b = 52 := by omega
                  exact ok_52
            · rcases Nat.lt_or_ge b 55 with h7 | h7
              · rcases Nat.lt_or_ge b 54 with h8 | h8
                · obtain rfl : b = 53 := by omega
                  exact ok_53
                · obtain rfl : b = 54 := by omega
                  exact ok_54
              · rcases Nat.lt_or_ge b 56 with h8 | h8
                · obtain rfl : b = 55 := by omega
                  exact ok_55
                · obtain rfl : b = 56 := by omega
                  exact ok_56
    · rcases Nat.lt_or_ge b 85 with h3 | h3
      · rcases Nat.lt_or_ge b 71 with h4 | h4
        · rcases Nat.lt_or_ge b 64 with h5 | h5
          · rcases Nat.lt_or_ge b 60 with h6 | h6
            · rcases Nat.lt_or_ge b 58 with h7 | h7
              · obtain rfl : b = 57 := by omega
                exact ok_57
              · rcases Nat.lt_or_ge b 59 with h8 | h8
                · obtain rfl : b = 58 := by omega
                  exact ok_58
                · obtain rfl : b = 59 := by omega
                  exact ok_59
            · rcases Nat.lt_or_ge b 62 with h7 | h7
              · rcases Nat.lt_or_ge b 61 with h8 | h8
                · obtain rfl : b = 60 := by omega
                  exact ok_60
                · obtain rfl : b = 61 := by omega
                  exact ok_61
              · rcases Nat.lt_or_ge b 63 with h8 | h8
                · obtain rfl : b = 62 := by omega
                  exact ok_62
                · obtain rfl : b = 63 := by omega
                  exact ok_63
          · rcases Nat.lt_or_ge b 67 with h6 | h6
            · rcases Nat.lt_or_ge b 65 with h7 | h7
              · obtain rfl : b = 64 := by omega
                exact ok_64
              · rcases Nat.lt_or_ge b 66 with h8 | h8
                · obtain rfl : b = 65 := by omega
                  exact ok_65
                · obtain rfl : b = 66 := by omega
                  exact ok_66
            · rcases Nat.lt_or_ge b 69 with h7 | h7
              · rcases Nat.lt_or_ge b 68 with h8 | h8
                · obtain rfl : b = 67 := by omega
                  exact ok_67
                · obtain rfl : b = 68 := by omega
                  exact ok_68
              · rcases Nat.lt_or_ge b 70 with h8 | h8
                · obtain rfl : b = 69 := by omega
                  exact ok_69
                · obtain rfl : b = 70 := by omega
                  exact ok_70
        · rcases Nat.lt_or_ge b 78 with h5 | h5
          · rcases Nat.lt_or_ge b 74 with h6 | h6
            · rcases Nat.lt_or_ge b 72 with h7 | h7
              · obtain rfl : b = 71 := by omega
                exact ok_71
              · rcases Nat.lt_or_ge b 73 with h8 | h8
                · obtain rfl : b = 72 := by omega
                  exact ok_72
                · obtain rfl : b = 73 := by omega
                  exact ok_73
            · rcases Nat.lt_or_ge b 76 with h7 | h7
              · rcases Nat.lt_or_ge b 75 with h8 | h8
                · obtain rfl : b = 74 := by omega
                  exact ok_74
                · obtain rfl : b = 75 := by omega
                  exact ok_75
              · rcases Nat.lt_or_ge b 77 with h8 | h8
                · obtain rfl : b = 76 := by omega
                  exact ok_76
                · obtain rfl : b = 77 := by omega
                  exact ok_77
          · rcases Nat.lt_or_ge b 81 with h6 | h6
            · rcases Nat.lt_or_ge b 79 with h7 | h7
              · obtain rfl : b = 78 := by omega
                exact ok_78
              · rcases Nat.lt_or_ge b 80 with h8 | h8
                · obtain rfl : b = 79 := by omega
                  exact ok_79
                · obtain rfl : b = 80 := by omega
                  exact ok_80
            · rcases Nat.lt_or_ge b 83 with h7 | h7
              · rcases Nat.lt_or_ge b 82 with h8 | h8
                · obtain rfl : b = 81 := by omega
                  exact ok_81
                · obtain rfl : b = 82 := by omega
                  exact ok_82
              · rcases Nat.lt_or_ge b 84 with h8 | h8
                · obtain rfl : b = 83 := by omega
                  exact ok_83
                · obtain rfl : b = 84 := by omega
                  exact ok_84
      · rcases Nat.lt_or_ge b 99 with h4 | h4
        · rcases Nat.lt_or_ge b 92 with h5 | h5
          · rcases Nat.lt_or_ge b 88 with h6 | h6
            · rcases Nat.lt_or_ge b 86 with h7 | h7
              · obtain rfl : b = 85 := by omega
                exact ok_85
              · rcases Nat.lt_or_ge b 87 with h8 | h8
                · obtain rfl : b = 86 := by omega
                  exact ok_86
                · obtain rfl : b = 87 := by omega
                  exact ok_87
            · rcases Nat.lt_or_ge b 90 with h7 | h7
              · rcases Nat.lt_or_ge b 89 with h8 | h8
                · obtain rfl : b = 88 := by omega
                  exact ok_88
                · obtain rfl : b = 89 := by omega
                  exact ok_89
              · rcases Nat.lt_or_ge b 91 with h8 | h8
                · obtain rfl : b = 90 := by omega
                  exact ok_90
                · obtain rfl : b = 91 := by omega
                  exact ok_91
          · rcases Nat.lt_or_ge b 95 with h6 | h6
            · rcases Nat.lt_or_ge b 93 with h7 | h7
              · obtain rfl : b = 92 := by omega
                exact ok_92
              · rcases Nat.lt_or_ge b 94 with h8 | h8
                · obtain rfl : b = 93 := by omega
                  exact ok_93
                · obtain rfl : b = 94 := by omega
                  exact ok_94
            · rcases Nat.lt_or_ge b 97 with h7 | h7
              · rcases Nat.lt_or_ge b 96 with h8 | h8
                · obtain rfl : b = 95 := by omega
                  exact ok_95
                · obtain rfl : b = 96 := by omega
                  exact ok_96
              · rcases Nat.lt_or_ge b 98 with h8 | h8
                · obtain rfl : b = 97 := by omega
                  exact ok_97
                · obtain rfl : b = 98 := by omega
                  exact ok_98
        · rcases Nat.lt_or_ge b 106 with h5 | h5
          · rcases Nat.lt_or_ge b 102 with h6 | h6
            · rcases Nat.lt_or_ge b 100 with h7 | h7
              · obtain rfl : b = 99 := by omega
                exact ok_99
              · rcases Nat.lt_or_ge b 101 with h8 | h8
                · obtain rfl : b = 100 := by omega
                  exact ok_100
                · obtain rfl : b = 101 := by omega
                  exact ok_101
            · rcases Nat.lt_or_ge b 104 with h7 | h7
              · rcases Nat.lt_or_ge b 103 with h8 | h8
                · obtain rfl : b = 102 := by omega
                  exact ok_102
                · obtain rfl : b = 103 := by omega
                  exact ok_103
              · rcases Nat.lt_or_ge b 105 with h8 | h8
                · obtain rfl : b = 104 := by omega
                  exact ok_104
                · obtain rfl : b = 105 := by omega
                  exact ok_105
          · rcases Nat.lt_or_ge b 110 with h6 | h6
            · rcases Nat.lt_or_ge b 108 with h7 | h7
              · rcases Nat.lt_or_ge b 107 with h8 | h8
                · obtain rfl : b = 106 := by omega
                  exact ok_106
                · obtain rfl : b = 107 := by omega
                  exact ok_107
              · rcases Nat.lt_or_ge b 109 with h8 | h8
                · obtain rfl : b = 108 := by omega
                  exact ok_108
                · obtain rfl : b = 109 := by omega
                  exact ok_109
            · rcases Nat.lt_or_ge b 112 with h7 | h7
              · rcases Nat.lt_or_ge b 111 with h8 | h8
                · obtain rfl : b = 110 := by omega
                  exact ok_110
                · obtain rfl : b = 111 := by omega
                  exact ok_111
              · rcases Nat.lt_or_ge b 113 with h8 | h8
                · obtain rfl : b = 112 := by omega
                  exact ok_112
                · obtain rfl : b = 113 := by omega
                  exact ok_113
  · rcases Nat.lt_or_ge b 171 with h2 | h2
    · rcases Nat.lt_or_ge b 142 with h3 | h3
      · rcases Nat.lt_or_ge b 128 with h4 | h4
        · rcases Nat.lt_or_ge b 121 with h5 | h5
          · rcases Nat.lt_or_ge b 117 with h6 | h6
            · rcases Nat.lt_or_ge b 115 with h7 | h7
              · obtain rfl : b = 114 := by omega
                exact ok_114
              · rcases Nat.lt_or_ge b 116 with h8 | h8
                · obtain rfl : b = 115 := by omega
                  exact ok_115
                · obtain rfl : b = 116 := by omega
                  exact ok_116
            · rcases Nat.lt_or_ge b 119 with h7 | h7
              · rcases Nat.lt_or_ge b 118 with h8 | h8
                · obtain rfl : b = 117 := by omega
                  exact ok_117
                · obtain rfl : b = 118 := by omega
                  exact ok_118
              · rcases Nat.lt_or_ge b 120 with h8 | h8
                · obtain rfl : b = 119 := by omega
                  exact ok_119
                · obtain rfl : b = 120 := by omega
                  exact ok_120
          · rcases Nat.lt_or_ge b 124 with h6 | h6
            · rcases Nat.lt_or_ge b 122 with h7 | h7
              · obtain rfl : b = 121 := by omega
                exact ok_121
              · rcases Nat.lt_or_ge b 123 with h8 | h8
                · obtain rfl : b = 122 := by omega
                  exact ok_122
                · obtain rfl : b = 123 := by omega
                  exact ok_123
            · rcases Nat.lt_or_ge b 126 with h7 | h7
              · rcases Nat.lt_or_ge b 125 with h8 | h8
                · obtain rfl : b = 124 := by omega
                  exact ok_124
                · obtain rfl : b = 125 := by omega
                  exact ok_125
              · rcases Nat.lt_or_ge b 127 with h8 | h8
                · obtain rfl : b = 126 := by omega
                  exact ok_126
                · obtain rfl : b = 127 := by omega
                  exact ok_127
        · rcases Nat.lt_or_ge b 135 with h5 | h5
          · rcases Nat.lt_or_ge b 131 with h6 | h6
            · rcases Nat.lt_or_ge b 129 with h7 | h7
              · obtain rfl : b = 128 := by omega
                exact ok_128
              · rcases Nat.lt_or_ge b 130 with h8 | h8
                · obtain rfl : b = 129 := by omega
                  exact ok_129
                · obtain rfl : b = 130 := by omega
                  exact ok_130
            · rcases Nat.lt_or_ge b 133 with h7 | h7
              · rcases Nat.lt_or_ge b 132 with h8 | h8
                · obtain rfl : b = 131 := by omega
                  exact ok_131
                · obtain rfl : b = 132 := by omega
                  exact ok_132
              · rcases Nat.lt_or_ge b 134 with h8 | h8
                · obtain rfl : b = 133 := by omega
                  exact ok_133
                · obtain rfl : b = 134 := by omega
                  exact ok_134
          · rcases Nat.lt_or_ge b 138 with h6 | h6
            · rcases Nat.lt_or_ge b 136 with h7 | h7
              · obtain rfl : b = 135 := by omega
                exact ok_135
              · rcases Nat.lt_or_ge b 137 with h8 | h8
                · obtain rfl : b = 136 := by omega
                  exact ok_136
                · obtain rfl : b = 137 := by omega
                  exact ok_137
            · rcases Nat.lt_or_ge b 140 with h7 | h7
              · rcases Nat.lt_or_ge b 139 with h8 | h8
                · obtain rfl : b = 138 := by omega
                  exact ok_138
                · obtain rfl : b = 139 := by omega
                  exact ok_139
              · rcases Nat.lt_or_ge b 141 with h8 | h8
                · obtain rfl : b = 140 := by omega
                  exact ok_140
                · obtain rfl : b = 141 := by omega
                  exact ok_141
      · rcases Nat.lt_or_ge b 156 with h4 | h4
        · rcases Nat.lt_or_ge b 149 with h5 | h5
          · rcases Nat.lt_or_ge b 145 with h6 | h6
            · rcases Nat.lt_or_ge b 143 with h7 | h7
              · obtain rfl : b = 142 := by omega
                exact ok_142
              · rcases Nat.lt_or_ge b 144 with h8 | h8
                · obtain rfl : b = 143 := by omega
                  exact ok_143
                · obtain rfl : b = 144 := by omega
                  exact ok_144
            · rcases Nat.lt_or_ge b 147 with h7 | h7
              · rcases Nat.lt_or_ge b 146 with h8 | h8
                · obtain rfl : b = 145 := by omega
                  exact ok_145
                · obtain rfl : b = 146 := by omega
                  exact ok_146
              · rcases Nat.lt_or_ge b 148 with h8 | h8
                · obtain rfl : b = 147 := by omega
                  exact ok_147
                · obtain rfl : b = 148 := by omega
                  exact ok_148
          · rcases Nat.lt_or_ge b 152 with h6 | h6
            · rcases Nat.lt_or_ge b 150 with h7 | h7
              · obtain rfl : b = 149 := by omega
                exact ok_149
              · rcases Nat.lt_or_ge b 151 with h8 | h8
                · obtain rfl : b = 150 := by omega
                  exact ok_150
                · obtain rfl : b = 151 := by omega
                  exact ok_151
            · rcases Nat.lt_or_ge b 154 with h7 | h7
              · rcases Nat.lt_or_ge b 153 with h8 | h8
                · obtain rfl : b = 152 := by omega
                  exact ok_152
                · obtain rfl : b = 153 := by omega
                  exact ok_153
              · rcases Nat.lt_or_ge b 155 with h8 | h8
                · obtain rfl : b = 154 := by omega
                  exact ok_154
                · obtain rfl : b = 155 := by omega
                  exact ok_155
        · rcases Nat.lt_or_ge b 163 with h5 | h5
          · rcases Nat.lt_or_ge b 159 with h6 | h6
            · rcases Nat.lt_or_ge b 157 with h7 | h7
              · obtain rfl : b = 156 := by omega
                exact ok_156
              · rcases Nat.lt_or_ge b 158 with h8 | h8
                · obtain rfl : b = 157 := by omega
                  exact ok_157
                · obtain rfl : b = 158 := by omega
                  exact ok_158
            · rcases Nat.lt_or_ge b 161 with h7 | h7
              · rcases Nat.lt_or_ge b 160 with h8 | h8
                · obtain rfl : b = 159 := by omega
                  exact ok_159
                · obtain rfl : b = 160 := by omega
                  exact ok_160
              · rcases Nat.lt_or_ge b 162 with h8 | h8
                · obtain rfl : b = 161 := by omega
                  exact ok_161
                · obtain rfl : b = 162 := by omega
                  exact ok_162
          · rcases Nat.lt_or_ge b 167 with h6 | h6
            · rcases Nat.lt_or_ge b 165 with h7 | h7
              · rcases Nat.lt_or_ge b 164 with h8 | h8
                · obtain rfl : b = 163 := by omega
                  exact ok_163
                · obtain rfl : b = 164 := by omega
                  exact ok_164
              · rcases Nat.lt_or_ge b 166 with h8 | h8
                · obtain rfl : b = 165 := by omega
                  exact ok_165
                · obtain rfl : b = 166 := by omega
                  exact ok_166
            · rcases Nat.lt_or_ge b 169 with h7 | h7
              · rcases Nat.lt_or_ge b 168 with h8 | h8
                · obtain rfl : b = 167 := by omega
                  exact ok_167
                · obtain rfl : b = 168 := by omega
                  exact ok_168
              · rcases Nat.lt_or_ge b 170 with h8 | h8
                · obtain rfl : b = 169 := by omega
                  exact ok_169
                · obtain rfl : b = 170 := by omega
                  exact ok_170
    · rcases Nat.lt_or_ge b 199 with h3 | h3
      · rcases Nat.lt_or_ge b 185 with h4 | h4
        · rcases Nat.lt_or_ge b 178 with h5 | h5
          · rcases Nat.lt_or_ge b 174 with h6 | h6
            · rcases Nat.lt_or_ge b 172 with h7 | h7
              · obtain rfl : b = 171 := by omega
                exact ok_171
              · rcases Nat.lt_or_ge b 173 with h8 | h8
                · obtain rfl : b = 172 := by omega
                  exact ok_172
                · obtain rfl : b = 173 := by omega
                  exact ok_173
            · rcases Nat.lt_or_ge b 176 with h7 | h7
              · rcases Nat.lt_or_ge b 175 with h8 | h8
                · obtain rfl : b = 174 := by omega
                  exact ok_174
                · obtain rfl : b = 175 := by omega
                  exact ok_175
              · rcases Nat.lt_or_ge b 177 with h8 | h8
                · obtain rfl : b = 176 := by omega
                  exact ok_176
                · obtain rfl : b = 177 := by omega
                  exact ok_177
          · rcases Nat.lt_or_ge b 181 with h6 | h6
            · rcases Nat.lt_or_ge b 179 with h7 | h7
              · obtain rfl : b = 178 := by omega
                exact ok_178
              · rcases Nat.lt_or_ge b 180 with h8 | h8
                · obtain rfl : b = 179 := by omega
                  exact ok_179
                · obtain rfl : b = 180 := by omega
                  exact ok_180
            · rcases Nat.lt_or_ge b 183 with h7 | h7
              · rcases Nat.lt_or_ge b 182 with h8 | h8
                · obtain rfl : b = 181 := by omega
                  exact ok_181
                · obtain rfl : b = 182 := by omega
                  exact ok_182
              · rcases Nat.lt_or_ge b 184 with h8 | h8
                · obtain rfl : b = 183 := by omega
                  exact ok_183
                · obtain rfl : b = 184 := by omega
                  exact ok_184
        · rcases Nat.lt_or_ge b 192 with h5 | h5
          · rcases Nat.lt_or_ge b 188 with h6 | h6
            · rcases Nat.lt_or_ge b 186 with h7 | h7
              · obtain rfl : b = 185 := by omega
                exact ok_185
              · rcases Nat.lt_or_ge b 187 with h8 | h8
                · obtain rfl : b = 186 := by omega
                  exact ok_186
                · obtain rfl : b = 187 := by omega
                  exact ok_187
            · rcases Nat.lt_or_ge b 190 with h7 | h7
              · rcases Nat.lt_or_ge b 189 with h8 | h8
                · obtain rfl : b = 188 := by omega
                  exact ok_188
                · obtain rfl : b = 189 := by omega
                  exact ok_189
              · rcases Nat.lt_or_ge b 191 with h8 | h8
                · obtain rfl : b = 190 := by omega
                  exact ok_190
                · obtain rfl : b = 191 := by omega
                  exact ok_191
          · rcases Nat.lt_or_ge b 195 with h6 | h6
            · rcases Nat.lt_or_ge b 193 with h7 | h7
              · obtain rfl : b = 192 := by omega
                exact ok_192
              · rcases Nat.lt_or_ge b 194 with h8 | h8
                · obtain rfl : b = 193 := by omega
                  exact ok_193
                · obtain rfl : b = 194 := by omega
                  exact ok_194
            · rcases Nat.lt_or_ge b 197 with h7 | h7
              · rcases Nat.lt_or_ge b 196 with h8 | h8
                · obtain rfl : b = 195 := by omega
                  exact ok_195
                · obtain rfl : b = 196 := by omega
                  exact ok_196
              · rcases Nat.lt_or_ge b 198 with h8 | h8
                · obtain rfl : b = 197 := by omega
                  exact ok_197
                · obtain rfl : b = 198 := by omega
                  exact ok_198
      · rcases Nat.lt_or_ge b 213 with h4 | h4
        · rcases Nat.lt_or_ge b 206 with h5 | h5
          · rcases Nat.lt_or_ge b 202 with h6 | h6
            · rcases Nat.lt_or_ge b 200 with h7 | h7
              · obtain rfl : b = 199 := by omega
                exact ok_199
              · rcases Nat.lt_or_ge b 201 with h8 | h8
                · obtain rfl : b = 200 := by omega
                  exact ok_200
                · obtain rfl : b = 201 := by omega
                  exact ok_201
            · rcases Nat.lt_or_ge b 204 with h7 | h7
              · rcases Nat.lt_or_ge b 203 with h8 | h8
                · obtain rfl : b = 202 := by omega
                  exact ok_202
                · obtain rfl : b = 203 := by omega
                  exact ok_203
              · rcases Nat.lt_or_ge b 205 with h8 | h8
                · obtain rfl : b = 204 := by omega
                  exact ok_204
                · obtain rfl : b = 205 := by omega
                  exact ok_205
          · rcases Nat.lt_or_ge b 209 with h6 | h6
            · rcases Nat.lt_or_ge b 207 with h7 | h7
              · obtain rfl : b = 206 := by omega
                exact ok_206
              · rcases Nat.lt_or_ge b 208 with h8 | h8
                · obtain rfl : b = 207 := by omega
                  exact ok_207
                · obtain rfl : b = 208 := by omega
                  exact ok_208
            · rcases Nat.lt_or_ge b 211 with h7 | h7
              · rcases Nat.lt_or_ge b 210 with h8 | h8
                · obtain rfl : b = 209 := by omega
                  exact ok_209
                · obtain rfl : b = 210 := by omega
                  exact ok_210
              · rcases Nat.lt_or_ge b 212 with h8 | h8
                · obtain rfl : b = 211 := by omega
                  exact ok_211
                · obtain rfl : b = 212 := by omega
                  exact ok_212
        · rcases Nat.lt_or_ge b 220 with h5 | h5
          · rcases Nat.lt_or_ge b 216 with h6 | h6
            · rcases Nat.lt_or_ge b 214 with h7 | h7
              · obtain rfl : b = 213 := by omega
                exact ok_213
              · rcases Nat.lt_or_ge b 215 with h8 | h8
                · obtain rfl : b = 214 := by omega
                  exact ok_214
                · obtain rfl : b = 215 := by omega
                  exact ok_215
            · rcases Nat.lt_or_ge b 218 with h7 | h7
              · rcases Nat.lt_or_ge b 217 with h8 | h8
                · obtain rfl : b = 216 := by omega
                  exact ok_216
                · obtain rfl : b = 217 := by omega
                  exact ok_217
              · rcases Nat.lt_or_ge b 219 with h8 | h8
                · obtain rfl : b = 218 := by omega
                  exact ok_218
                · obtain rfl : b = 219 := by omega
                  exact ok_219
          · rcases Nat.lt_or_ge b 224 with h6 | h6
            · rcases Nat.lt_or_ge b 222 with h7 | h7
              · rcases Nat.lt_or_ge b 221 with h8 | h8
                · obtain rfl : b = 220 := by omega
                  exact ok_220
                · obtain rfl : b = 221 := by omega
                  exact ok_221
              · rcases Nat.lt_or_ge b 223 with h8 | h8
                · obtain rfl : b = 222 := by omega
                  exact ok_222
                · obtain rfl : b = 223 := by omega
                  exact ok_223
            · rcases Nat.lt_or_ge b 226 with h7 | h7
              · rcases Nat.lt_or_ge b 225 with h8 | h8
                · obtain rfl : b = 224 := by omega
                  exact ok_224
                · obtain rfl : b = 225 := by omega
                  exact ok_225
              · rcases Nat.lt_or_ge b 227 with h8 | h8
                · obtain rfl : b = 226 := by omega
                  exact ok_226
                · obtain rfl : b = 227 := by omega
                  exact ok_227
end
section
/-! THE SMALL MACHINE: one step, in any answer type -/
def ibin (a : Nat) (x y : Int32) : Int32 :=
  if a = 0 then x + y else if a = 1 then x - y else if a = 2 then x * y else if a = 3 then x &&& y else if a = 4 then x ||| y else if a = 5 then x ^^^ y
  else if a = 6 then x <<< (y &&& 31) else if a = 7 then x >>> (y &&& 31) else (x.toUInt32 >>> (y.toUInt32 &&& Int32.toUInt32 31)).toInt32
def lbin (a : Nat) (x y : Int64) : Int64 :=
  if a = 0 then x + y else if a = 1 then x * y else if a = 2 then x &&& y else x ||| y
def unry (a : Nat) (v : AV) : Option AV := match v with
  | .inl x => if a = 0 then some (.inl (-x)) else if a = 1 then some (.inr (.inl x.toInt64)) else if a = 3 then some (.inl x.toInt8.toInt32) else if a = 4 then some (.inl x.toInt16.toInt32) else none
  | .inr (.inl x) => if a = 2 then some (.inl x.toInt32) else none
  | _ => none
def swG {ρ : Type} (K : Nat → ρ) (x : Int32) (d : Nat) : List (Int32 × Nat) → ρ
  | [] => K d
  | (k, t) :: r => if x = k then K t else swG K x d r
def fldv (t k i : Nat) (V : Mem) : Option AV := match nth (frl t) k with
  | none => none
  | some none => some (.inl (V.1 t i k))
  | some (some (t', none)) => some (.inr (.inr (t', i)))
  | some (some (t', some c)) => some (.inr (.inr (t', c)))
def rcv (b : Nat) (as : List AV) : Bool := bif Nat.beq (mcl b) 99 then true else match as with
  | .inr (.inr (t, _)) :: _ => Nat.beq (clsOf t) (mcl b)
  | _ => false
def imax (x y : Int32) : Int32 := if x < y then y else x
def imin (x y : Int32) : Int32 := if y < x then y else x
def iabs (x : Int32) : Int32 := if 0 ≤ x then x else 0 - x
def lmax (x y : Int64) : Int64 := if y < x then x else y
def lmin (x y : Int64) : Int64 := if y < x then y else x
section Step
variable {ρ : Type} (K : Nat → AL → AS → Mem → ρ) (fl : ρ) (rt : Option AV → Mem → ρ) (cv ci cl : Nat → List AV → Mem → Nat → AL → AS → ρ)
def o_load (a b nx : Nat) (L : AL) (S : AS) (V : Mem) : ρ := match lget L a with
  | some w => bif Nat.beq (kd w) b then K nx L (w :: S) V else fl
  | none => fl
def o_get (a b nx : Nat) (L : AL) (S : AS) (V : Mem) : ρ := match S with
  | .inr (.inr (t, i)) :: R => if clsOf t = a then (match fldv t b i V with
    | some w => K nx L (w :: R) V
    | none => fl) else fl
  | _ => fl
def o_call (a b nx : Nat) (L : AL) (S : AS) (V : Mem) : ρ := match takA a S [] with
  | some (as, R) => bif rcv b as && (Nat.ble (csum R) 8 && Nat.ble (csum as) (nLo b)) then (if rk b = 0 then cv b as V nx L R else if rk b = 2 then cl b as V nx L R else ci b as V nx L R) else fl
  | none => fl
def o_ret (a : Nat) (S : AS) (V : Mem) : ρ :=
  if a = 0 then (match S with
    | [] => rt none V
    | _ => fl)
  else if a = 1 then (match S with
    | [.inl x] => rt (some (.inl x)) V
    | _ => fl)
  else if a = 2 then (match S with
    | [.inr (.inl x)] => rt (some (.inr (.inl x))) V
    | _ => fl)
  else (match S with
    | [.inl x] => if x = 0 ∨ x = 1 then rt (some (.inl x)) V else fl
    | _ => fl)
def o_xald (a nx : Nat) (L : AL) (S : AS) (V : Mem) : ρ := match S with
  | .inl j :: .inr (.inr (t, i)) :: R => if t = 50 then (if a = 1 then (if j < 0 ∨ ¬ j < V.1 51 0 0 then fl else K nx L (.inl (V.1 50 0 j.toNatClampNeg) :: R) V) else fl)
    else if ak t = a then (if j < 0 ∨ alen t ≤ j.toNatClampNeg then fl else K nx L (.inl (V.1 t i j.toNatClampNeg) :: R) V) else fl
  | _ => fl
def o_ibin (a nx : Nat) (L : AL) (S : AS) (V : Mem) : ρ := match S with
  | .inl y :: .inl x :: R => K nx L (.inl (ibin a x y) :: R) V
  | _ => fl
def o_icmp (a b nx : Nat) (L : AL) (S : AS) (V : Mem) : ρ := match S with
  | .inl y :: .inl x :: R =>
    if a = 0 then (if x = y then K b L R V else K nx L R V)
    else if a = 1 then (if x = y then K nx L R V else K b L R V)
    else if a = 2 then (if x < y then K b L R V else K nx L R V)
    else if a = 3 then (if x < y then K nx L R V else K b L R V)
    else if a = 4 then (if y < x then K b L R V else K nx L R V)
    else (if y < x then K nx L R V else K b L R V)
  | _ => fl
def o_ifz (a b nx : Nat) (L : AL) (S : AS) (V : Mem) : ρ := match S with
  | .inl x :: R =>
    if a = 0 then (if x = 0 then K b L R V else K nx L R V)
    else if a = 1 then (if x = 0 then K nx L R V else K b L R V)
    else if a = 2 then (if x < 0 then K b L R V else K nx L R V)
    else if a = 3 then (if x < 0 then K nx L R V else K b L R V)
    else if a = 4 then (if 0 < x then K b L R V else K nx L R V)
    else (if 0 < x then K nx L R V else K b L R V)
  | _ => fl
def o_put (a b nx : Nat) (L : AL) (S : AS) (V : Mem) : ρ := match S with
  | .inl x :: .inr (.inr (t, i)) :: R => if clsOf t = a then (match nth (frl t) b with
    | some none => bif fz t b then (if x = 0 ∨ x = 1 then K nx L R (mset V.1 t i b x, V.2) else fl) else K nx L R (mset V.1 t i b x, V.2)
    | _ => fl) else fl
  | _ => fl
def o_iinc (a : Nat) (v : AV) (nx : Nat) (L : AL) (S : AS) (V : Mem) : ρ := match lget L a, v with
  | some (.inl x), .inl c => K nx (sto1 L a (.inl (x + c))) S V
  | _, _ => fl
def o_dup (nx : Nat) (L : AL) (S : AS) (V : Mem) : ρ := match S with
  | v :: R => bif Nat.beq (ctg v) 1 then K nx L (v :: v :: R) V else fl
  | _ => fl
def o_iast (a nx : Nat) (L : AL) (S : AS) (V : Mem) : ρ := match S with
  | .inl x :: .inl j :: .inr (.inr (t, i)) :: R => if ak t = a then (if j < 0 ∨ alen t ≤ j.toNatClampNeg then fl else
      if a = 1 then K nx L R (mset V.1 t i j.toNatClampNeg x, V.2)
      else if a = 3 then (if x = 0 ∨ x = 1 then K nx L R (mset V.1 t i j.toNatClampNeg x, V.2) else fl) else fl) else fl
  | _ => fl
def o_unry (a nx : Nat) (L : AL) (S : AS) (V : Mem) : ρ := match S with
  | v :: R => (match unry a v with
    | some w => K nx L (w :: R) V
    | none => fl)
  | _ => fl
def o_aald (nx : Nat) (L : AL) (S : AS) (V : Mem) : ρ := match S with
  | .inl j :: .inr (.inr (t, i)) :: R =>
    if t = 4 then (if j < 0 ∨ 6 ≤ j.toNatClampNeg then fl else K nx L (.inr (.inr (5, j.toNatClampNeg + 6 * i)) :: R) V)
    else if t = 22 then (if j < 0 ∨ 8 ≤ j.toNatClampNeg then fl else K nx L (.inr (.inr (23, j.toNatClampNeg)) :: R) V)
    else fl
  | _ => fl
def o_lbin (a nx : Nat) (L : AL) (S : AS) (V : Mem) : ρ := match S with
  | .inr (.inl y) :: .inr (.inl x) :: R => K nx L (.inr (.inl (lbin a x y)) :: R) V
  | _ => fl
def o_lcmp (nx : Nat) (L : AL) (S : AS) (V : Mem) : ρ := match S with
  | .inr (.inl y) :: .inr (.inl x) :: R => K nx L (.inl (lg_cmp x y) :: R) V
  | _ => fl
def o_idiv (a nx : Nat) (L : AL) (S : AS) (V : Mem) : ρ := match S with
  | .inl y :: .inl x :: R => if y = 0 then fl else if a = 0 then K nx L (.inl (x / y) :: R) V else K nx L (.inl (x - x / y * y) :: R) V
  | _ => fl
def o_ldiv (nx : Nat) (L : AL) (S : AS) (V : Mem) : ρ := match S with
  | .inr (.inl y) :: .inr (.inl x) :: R => if y = 0 then fl else K nx L (.inr (.inl (x / y)) :: R) V
  | _ => fl
def o_lald (nx : Nat) (L : AL) (S : AS) (V : Mem) : ρ := match S with
  | .inl j :: .inr (.inr (t, i)) :: R => if ak t = 2 then (if j < 0 ∨ alen t ≤ j.toNatClampNeg then fl else K nx L (.inr (.inl (V.2 t i j.toNatClampNeg)) :: R) V) else fl
  | _ => fl
def o_last (nx : Nat) (L : AL) (S : AS) (V : Mem) : ρ := match S with
  | .inr (.inl x) :: .inl j :: .inr (.inr (t, i)) :: R => if ak t = 2 then (if j < 0 ∨ alen t ≤ j.toNatClampNeg then fl else K nx L R (V.1, mset V.2 t i j.toNatClampNeg x)) else fl
  | _ => fl
def o_sto1 (a b nx : Nat) (L : AL) (S : AS) (V : Mem) : ρ := match S with
  | .inl x :: R => K nx (trk b (sto1 L a (.inl x))) R V
  | _ => fl
def o_mat2 (a nx : Nat) (L : AL) (S : AS) (V : Mem) : ρ := match S with
  | .inl y :: .inl x :: R => bif Nat.ble (csum R) 8 then (if a = 0 then K nx L (.inl (imax x y) :: R) V else K nx L (.inl (imin x y) :: R) V) else fl
  | _ => fl
def o_mabs (nx : Nat) (L : AL) (S : AS) (V : Mem) : ρ := match S with
  | .inl x :: R => bif Nat.ble (csum R) 8 then K nx L (.inl (iabs x) :: R) V else fl
  | _ => fl
def o_matJ (a nx : Nat) (L : AL) (S : AS) (V : Mem) : ρ := match S with
  | .inr (.inl y) :: .inr (.inl x) :: R => bif Nat.ble (csum R) 8 then (if a = 0 then K nx L (.inr (.inl (lmax x y)) :: R) V else K nx L (.inr (.inl (lmin x y)) :: R) V) else fl
  | _ => fl
def o_stoA (a b nx : Nat) (L : AL) (S : AS) (V : Mem) : ρ := match S with
  | .inr (.inr q) :: R => K nx (trk b (sto1 L a (.inr (.inr q)))) R V
  | _ => fl
def o_sto2 (a nx : Nat) (L : AL) (S : AS) (V : Mem) : ρ := match S with
  | .inr (.inl x) :: R => K nx (sto2 L a (.inr (.inl x))) R V
  | _ => fl
def o_dup2 (nx : Nat) (L : AL) (S : AS) (V : Mem) : ρ := match S with
  | v :: w :: R => bif Nat.beq (ctg v) 1 && Nat.beq (ctg w) 1 then K nx L (v :: w :: v :: w :: R) V else fl
  | _ => fl
def o_pop (nx : Nat) (L : AL) (S : AS) (V : Mem) : ρ := match S with
  | v :: R => bif Nat.beq (ctg v) 1 then K nx L R V else fl
  | _ => fl
def o_alen (nx : Nat) (L : AL) (S : AS) (V : Mem) : ρ := match S with
  | .inr (.inr (t, _)) :: R => if t = 50 then K nx L (.inl (V.1 51 0 0) :: R) V else if ak t = 1 ∨ ak t = 2 then K nx L (.inl (nI (alen t)) :: R) V else fl
  | _ => fl
def o_lshl (nx : Nat) (L : AL) (S : AS) (V : Mem) : ρ := match S with
  | .inl y :: .inr (.inl x) :: R => K nx L (.inr (.inl (x <<< (y.toInt64 &&& 63))) :: R) V
  | _ => fl
def o_swit (m pc b : Nat) (L : AL) (S : AS) (V : Mem) : ρ := match S with
  | .inl x :: R => swG (fun t => K t L R V) x b (swt m pc)
  | _ => fl
def o_acpy (a nx : Nat) (L : AL) (S : AS) (V : Mem) : ρ := match S with
  | .inl n :: .inl dp :: .inr (.inr (t2, i2)) :: .inl sp :: .inr (.inr (t, i)) :: R =>
    if ak t = a ∧ ak t2 = a ∧ csum R ≤ 8 then (if sp < 0 ∨ dp < 0 ∨ n < 0 ∨ alen t < sp.toNatClampNeg + n.toNatClampNeg ∨ alen t2 < dp.toNatClampNeg + n.toNatClampNeg then fl
      else if a = 1 then K nx L R (mcpy V.1 t i sp.toNatClampNeg t2 i2 dp.toNatClampNeg n.toNatClampNeg, V.2) else if a = 2 then K nx L R (V.1, mcpy V.2 t i sp.toNatClampNeg t2 i2 dp.toNatClampNeg n.toNatClampNeg) else fl) else fl
  | _ => fl
def o_slen (nx : Nat) (L : AL) (S : AS) (V : Mem) : ρ := match S with
  | .inr (.inr (t, i)) :: R => if t = 52 ∧ csum R ≤ 8 then K nx L (.inl (nI (slen i)) :: R) V else fl
  | _ => fl
def o_schr (nx : Nat) (L : AL) (S : AS) (V : Mem) : ρ := match S with
  | .inl j :: .inr (.inr (t, i)) :: R => if t = 52 ∧ csum R ≤ 8 then (if j < 0 ∨ slen i ≤ j.toNatClampNeg then fl else K nx L (.inl (schr i j.toNatClampNeg) :: R) V) else fl
  | _ => fl
def stp (m pc : Nat) (L : AL) (S : AS) (V : Mem) : ρ := match ins m pc with
  | (op, a, b, v, nx) =>
    if op = 0 then o_load K fl a b nx L S V
    else if op = 1 then K nx L (v :: S) V
    else if op = 2 then o_get K fl a b nx L S V
    else if op = 3 then o_call fl cv ci cl a b nx L S V
    else if op = 4 then o_ret fl rt a S V
    else if op = 5 then o_xald K fl a nx L S V
    else if op = 6 then K b (trk a L) S V
    else if op = 7 then o_sto1 K fl a b nx L S V
    else if op = 8 then o_ibin K fl a nx L S V
    else if op = 9 then o_icmp K fl a b nx L S V
    else if op = 10 then o_ifz K fl a b nx L S V
    else if op = 11 then o_put K fl a b nx L S V
    else if op = 12 then o_iinc K fl a v nx L S V
    else if op = 13 then o_dup K fl nx L S V
    else if op = 14 then o_iast K fl a nx L S V
    else if op = 15 then o_unry K fl a nx L S V
    else if op = 16 then o_aald K fl nx L S V
    else if op = 17 then o_lbin K fl a nx L S V
    else if op = 18 then o_lcmp K fl nx L S V
    else if op = 19 then o_idiv K fl a nx L S V
    else if op = 20 then o_ldiv K fl nx L S V
    else if op = 21 then o_lald K fl nx L S V
    else if op = 22 then o_last K fl nx L S V
    else if op = 23 then o_sto2 K fl a nx L S V
    else if op = 24 then o_dup2 K fl nx L S V
    else if op = 25 then o_pop K fl nx L S V
    else if op = 26 then o_alen K fl nx L S V
    else if op = 27 then o_lshl K fl nx L S V
    else if op = 28 then o_swit K fl m pc b L S V
    else if op = 29 then o_acpy K fl a nx L S V
    else if op = 30 then o_slen K fl nx L S V
    else if op = 31 then o_schr K fl nx L S V
    else if op = 32 then o_stoA K fl a b nx L S V
    else if op = 33 then o_mat2 K fl a nx L S V
    else if op = 34 then o_mabs K fl nx L S V
    else if op = 35 then o_matJ K fl a nx L S V
    else fl
end Step
end
section
/-! THE SMALL MACHINE: runs, and what a run comes to -/
abbrev FR : Type := Option ((Nat × AL × AS × Mem) ⊕ (Option AV × Mem) ⊕ (Nat × Nat × List AV × Mem × Nat × AL × AS))
def fold {ρ : Type} (K : Nat → AL → AS → Mem → ρ) (fl : ρ) (rt : Option AV → Mem → ρ) (cv ci cl : Nat → List AV → Mem → Nat → AL → AS → ρ) : FR → ρ
  | none => fl
  | some (.inl (pc, L, S, V)) => K pc L S V
  | some (.inr (.inl (r, V))) => rt r V
  | some (.inr (.inr (0, b, as, V, nx, L, R))) => cv b as V nx L R
  | some (.inr (.inr (1, b, as, V, nx, L, R))) => ci b as V nx L R
  | some (.inr (.inr (_ + 2, b, as, V, nx, L, R))) => cl b as V nx L R
def fK : Nat → AL → AS → Mem → FR := fun pc L S V => some (.inl (pc, L, S, V))
def fR : Option AV → Mem → FR := fun r V => some (.inr (.inl (r, V)))
def fC (n : Nat) : Nat → List AV → Mem → Nat → AL → AS → FR := fun b as V nx L R => some (.inr (.inr (n, b, as, V, nx, L, R)))
def nxt (m pc : Nat) (L : AL) (S : AS) (V : Mem) : FR := stp fK none fR (fC 0) (fC 1) (fC 2) m pc L S V
theorem swG_map {ρ σ : Type} (f : ρ → σ) (K : Nat → ρ) (x : Int32) (d : Nat) : ∀ l : List (Int32 × Nat), f (swG K x d l) = swG (fun t => f (K t)) x d l
  | [] => rfl
  | (k, t) :: r => by
    unfold swG
    by_cases h : x = k
    · rw [if_pos h, if_pos h]
    · rw [if_neg h, if_neg h, swG_map f K x d r]
theorem cond_eq_ite {α : Type} (c : Bool) (x y : α) : (bif c then x else y) = if c = true then x else y := by cases c <;> rfl
section Free
variable {ρ : Type} (K : Nat → AL → AS → Mem → ρ) (fl : ρ) (rt : Option AV → Mem → ρ) (cv ci cl : Nat → List AV → Mem → Nat → AL → AS → ρ)
theorem fr_o_load (a b nx : Nat) (L : AL) (S : AS) (V : Mem) : o_load K fl a b nx L S V = fold K fl rt cv ci cl (o_load fK none a b nx L S V) := by
  unfold o_load fK
  try simp only [cond_eq_ite]
  repeat' (first | rfl | contradiction | split)
theorem fr_o_get (a b nx : Nat) (L : AL) (S : AS) (V : Mem) : o_get K fl a b nx L S V = fold K fl rt cv ci cl (o_get fK none a b nx L S V) := by
  unfold o_get fK
  try simp only [cond_eq_ite]
  repeat' (first | rfl | contradiction | split)
theorem fr_o_xald (a nx : Nat) (L : AL) (S : AS) (V : Mem) : o_xald K fl a nx L S V = fold K fl rt cv ci cl (o_xald fK none a nx L S V) := by
  unfold o_xald fK
  try simp only [cond_eq_ite]
  repeat' (first | rfl | contradiction | split)
theorem fr_o_sto1 (a b nx : Nat) (L : AL) (S : AS) (V : Mem) : o_sto1 K fl a b nx L S V = fold K fl rt cv ci cl (o_sto1 fK none a b nx L S V) := by
  unfold o_sto1 fK
  try simp only [cond_eq_ite]
  repeat' (first | rfl | contradiction | split)
theorem fr_o_ibin (a nx : Nat) (L : AL) (S : AS) (V : Mem) : o_ibin K fl a nx L S V = fold K fl rt cv ci cl (o_ibin fK none a nx L S V) := by
  unfold o_ibin fK
  try simp only [cond_eq_ite]
  repeat' (first | rfl | contradiction | split)
theorem fr_o_icmp (a b nx : Nat) (L : AL) (S : AS) (V : Mem) : o_icmp K fl a b nx L S V = fold K fl rt cv ci cl (o_icmp fK none a b nx L S V) := by
  unfold o_icmp fK
  try simp only [cond_eq_ite]
  repeat' (first | rfl | contradiction | split)
theorem fr_o_ifz (a b nx : Nat) (L : AL) (S : AS) (V : Mem) : o_ifz K fl a b nx L S V = fold K fl rt cv ci cl (o_ifz fK none a b nx L S V) := by
  unfold o_ifz fK
  try simp only [cond_eq_ite]
  repeat' (first | rfl | contradiction | split)
theorem fr_o_put (a b nx : Nat) (L : AL) (S : AS) (V : Mem) : o_put K fl a b nx L S V = fold K fl rt cv ci cl (o_put fK none a b nx L S V) := by
  unfold o_put fK
  try simp only [cond_eq_ite]
  repeat' (first | rfl | contradiction | split)
theorem fr_o_dup (nx : Nat) (L : AL) (S : AS) (V : Mem) : o_dup K fl nx L S V = fold K fl rt cv ci cl (o_dup fK none nx L S V) := by
  unfold o_dup fK
  try simp only [cond_eq_ite]
  repeat' (first | rfl | contradiction | split)
theorem fr_o_iast (a nx : Nat) (L : AL) (S : AS) (V : Mem) : o_iast K fl a nx L S V = fold K fl rt cv ci cl (o_iast fK none a nx L S V) := by
  unfold o_iast fK
  try simp only [cond_eq_ite]
  repeat' (first | rfl | contradiction | split)
theorem fr_o_unry (a nx : Nat) (L : AL) (S : AS) (V : Mem) : o_unry K fl a nx L S V = fold K fl rt cv ci cl (o_unry fK none a nx L S V) := by
  unfold o_unry fK
  try simp only [cond_eq_ite]
  repeat' (first | rfl | contradiction | split)
theorem fr_o_aald (nx : Nat) (L : AL) (S : AS) (V : Mem) : o_aald K fl nx L S V = fold K fl rt cv ci cl (o_aald fK none nx L S V) := by
  unfold o_aald fK
  try simp only [cond_eq_ite]
  repeat' (first | rfl | contradiction | split)
theorem fr_o_lbin (a nx : Nat) (L : AL) (S : AS) (V : Mem) : o_lbin K fl a nx L S V = fold K fl rt cv ci cl (o_lbin fK none a nx L S V) := by
  unfold o_lbin fK
  try simp only [cond_eq_ite]
  repeat' (first | rfl | contradiction | split)
theorem fr_o_lcmp (nx : Nat) (L : AL) (S : AS) (V : Mem) : o_lcmp K fl nx L S V = fold K fl rt cv ci cl (o_lcmp fK none nx L S V) := by
  unfold o_lcmp fK
  try simp only [cond_eq_ite]
  repeat' (first | rfl | contradiction | split)
theorem fr_o_idiv (a nx : Nat) (L : AL) (S : AS) (V : Mem) : o_idiv K fl a nx L S V = fold K fl rt cv ci cl (o_idiv fK none a nx L S V) := by
  unfold o_idiv fK
  try simp only [cond_eq_ite]
  repeat' (first | rfl | contradiction | split)
theorem fr_o_ldiv (nx : Nat) (L : AL) (S : AS) (V : Mem) : o_ldiv K fl nx L S V = fold K fl rt cv ci cl (o_ldiv fK none nx L S V) := by
  unfold o_ldiv fK
  try simp only [cond_eq_ite]
  repeat' (first | rfl | contradiction | split)
theorem fr_o_lald (nx : Nat) (L : AL) (S : AS) (V : Mem) : o_lald K fl nx L S V = fold K fl rt cv ci cl (o_lald fK none nx L S V) := by
  unfold o_lald fK
  try simp only [cond_eq_ite]
  repeat' (first | rfl | contradiction | split)
theorem fr_o_last (nx : Nat) (L : AL) (S : AS) (V : Mem) : o_last K fl nx L S V = fold K fl rt cv ci cl (o_last fK none nx L S V) := by
  unfold o_last fK
  try simp only [cond_eq_ite]
  repeat' (first | rfl | contradiction | split)
theorem fr_o_sto2 (a nx : Nat) (L : AL) (S : AS) (V : Mem) : o_sto2 K fl a nx L S V = fold K fl rt cv ci cl (o_sto2 fK none a nx L S V) := by
  unfold o_sto2 fK
  try simp only [cond_eq_ite]
  repeat' (first | rfl | contradiction | split)
theorem fr_o_stoA (a b nx : Nat) (L : AL) (S : AS) (V : Mem) : o_stoA K fl a b nx L S V = fold K fl rt cv ci cl (o_stoA fK none a b nx L S V) := by
  unfold o_stoA fK
  try simp only [cond_eq_ite]
  repeat' (first | rfl | contradiction | split)
theorem fr_o_mat2 (a nx : Nat) (L : AL) (S : AS) (V : Mem) : o_mat2 K fl a nx L S V = fold K fl rt cv ci cl (o_mat2 fK none a nx L S V) := by
  unfold o_mat2 fK
  try simp only [cond_eq_ite]
  repeat' (first | rfl | contradiction | split)
theorem fr_o_mabs (nx : Nat) (L : AL) (S : AS) (V : Mem) : o_mabs K fl nx L S V = fold K fl rt cv ci cl (o_mabs fK none nx L S V) := by
  unfold o_mabs fK
  try simp only [cond_eq_ite]
  repeat' (first | rfl | contradiction | split)
theorem fr_o_matJ (a nx : Nat) (L : AL) (S : AS) (V : Mem) : o_matJ K fl a nx L S V = fold K fl rt cv ci cl (o_matJ fK none a nx L S V) := by
  unfold o_matJ fK
  try simp only [cond_eq_ite]
  repeat' (first | rfl | contradiction | split)
theorem fr_o_dup2 (nx : Nat) (L : AL) (S : AS) (V : Mem) : o_dup2 K fl nx L S V = fold K fl rt cv ci cl (o_dup2 fK none nx L S V) := by
  unfold o_dup2 fK
  try simp only [cond_eq_ite]
  repeat' (first | rfl | contradiction | split)
theorem fr_o_pop (nx : Nat) (L : AL) (S : AS) (V : Mem) : o_pop K fl nx L S V = fold K fl rt cv ci cl (o_pop fK none nx L S V) := by
  unfold o_pop fK
  try simp only [cond_eq_ite]
  repeat' (first | rfl | contradiction | split)
theorem fr_o_alen (nx : Nat) (L : AL) (S : AS) (V : Mem) : o_alen K fl nx L S V = fold K fl rt cv ci cl (o_alen fK none nx L S V) := by
  unfold o_alen fK
  try simp only [cond_eq_ite]
  repeat' (first | rfl | contradiction | split)
theorem fr_o_lshl (nx : Nat) (L : AL) (S : AS) (V : Mem) : o_lshl K fl nx L S V = fold K fl rt cv ci cl (o_lshl fK none nx L S V) := by
  unfold o_lshl fK
  try simp only [cond_eq_ite]
  repeat' (first | rfl | contradiction | split)
theorem fr_o_acpy (a nx : Nat) (L : AL) (S : AS) (V : Mem) : o_acpy K fl a nx L S V = fold K fl rt cv ci cl (o_acpy fK none a nx L S V) := by
  unfold o_acpy fK
  try simp only [cond_eq_ite]
  repeat' (first | rfl | contradiction | split)
theorem fr_o_slen (nx : Nat) (L : AL) (S : AS) (V : Mem) : o_slen K fl nx L S V = fold K fl rt cv ci cl (o_slen fK none nx L S V) := by
  unfold o_slen fK
  try simp only [cond_eq_ite]
  repeat' (first | rfl | contradiction | split)
theorem fr_o_schr (nx : Nat) (L : AL) (S : AS) (V : Mem) : o_schr K fl nx L S V = fold K fl rt cv ci cl (o_schr fK none nx L S V) := by
  unfold o_schr fK
  try simp only [cond_eq_ite]
  repeat' (first | rfl | contradiction | split)
theorem fr_o_iinc (a : Nat) (v : AV) (nx : Nat) (L : AL) (S : AS) (V : Mem) : o_iinc K fl a v nx L S V = fold K fl rt cv ci cl (o_iinc fK none a v nx L S V) := by
  unfold o_iinc fK
  split <;> rfl
theorem fr_o_ret (a : Nat) (S : AS) (V : Mem) : o_ret fl rt a S V = fold K fl rt cv ci cl (o_ret none fR a S V) := by
  unfold o_ret fR
  repeat' (first | rfl | split)
theorem fr_o_call (a b nx : Nat) (L : AL) (S : AS) (V : Mem) : o_call fl cv ci cl a b nx L S V = fold K fl rt cv ci cl (o_call none (fC 0) (fC 1) (fC 2) a b nx L S V) := by
  unfold o_call fC
  try simp only [cond_eq_ite]
  repeat' (first | rfl | contradiction | split)
theorem fr_o_swit (m pc b : Nat) (L : AL) (S : AS) (V : Mem) : o_swit K fl m pc b L S V = fold K fl rt cv ci cl (o_swit fK none m pc b L S V) := by
  unfold o_swit
  split
  · rw [swG_map (fold K fl rt cv ci cl)]; rfl
  · rfl
theorem stp_free (m pc : Nat) (L : AL) (S : AS) (V : Mem) : stp K fl rt cv ci cl m pc L S V = fold K fl rt cv ci cl (nxt m pc L S V) := by
  unfold nxt stp
  generalize ins m pc = e
  obtain ⟨op, a, b, v, nx⟩ := e
  dsimp only
  by_cases h0 : op = 0
  · rw [if_pos h0, if_pos h0]
    apply fr_o_load
  rw [if_neg h0, if_neg h0]
  by_cases h1 : op = 1
  · rw [if_pos h1, if_pos h1]
    rfl
  rw [if_neg h1, if_neg h1]
  by_cases h2 : op = 2
  · rw [if_pos h2, if_pos h2]
    apply fr_o_get
  rw [if_neg h2, if_neg h2]
  by_cases h3 : op = 3
  · rw [if_pos h3, if_pos h3]
    apply fr_o_call
  rw [if_neg h3, if_neg h3]
  by_cases h4 : op = 4
  · rw [if_pos h4, if_pos h4]
    apply fr_o_ret
  rw [if_neg h4, if_neg h4]
  by_cases h5 : op = 5
  · rw [if_pos h5, if_pos h5]
    apply fr_o_xald
  rw [if_neg h5, if_neg h5]
  by_cases h6 : op = 6
  · rw [if_pos h6, if_pos h6]
    rfl
  rw [if_neg h6, if_neg h6]
  by_cases h7 : op = 7
  · rw [if_pos h7, if_pos h7]
    apply fr_o_sto1
  rw [if_neg h7, if_neg h7]
  by_cases h8 : op = 8
  · rw [if_pos h8, if_pos h8]
    apply fr_o_ibin
  rw [if_neg h8, if_neg h8]
  by_cases h9 : op = 9
  · rw [if_pos h9, if_pos h9]
    apply fr_o_icmp
  rw [if_neg h9, if_neg h9]
  by_cases h10 : op = 10
  · rw [if_pos h10, if_pos h10]
    apply fr_o_ifz
  rw [if_neg h10, if_neg h10]
  by_cases h11 : op = 11
  · rw [if_pos h11, if_pos h11]
    apply fr_o_put
  rw [if_neg h11, if_neg h11]
  by_cases h12 : op = 12
  · rw [if_pos h12, if_pos h12]
    apply fr_o_iinc
  rw [if_neg h12, if_neg h12]
  by_cases h13 : op = 13
  · rw [if_pos h13, if_pos h13]
    apply fr_o_dup
  rw [if_neg h13, if_neg h13]
  by_cases h14 : op = 14
  · rw [if_pos h14, if_pos h14]
    apply fr_o_iast
  rw [if_neg h14, if_neg h14]
  by_cases h15 : op = 15
  · rw [if_pos h15, if_pos h15]
    apply fr_o_unry
  rw [if_neg h15, if_neg h15]
  by_cases h16 : op = 16
  · rw [if_pos h16, if_pos h16]
    apply fr_o_aald
  rw [if_neg h16, if_neg h16]
  by_cases h17 : op = 17
  · rw [if_pos h17, if_pos h17]
    apply fr_o_lbin
  rw [if_neg h17, if_neg h17]
  by_cases h18 : op = 18
  · rw [if_pos h18, if_pos h18]
    apply fr_o_lcmp
  rw [if_neg h18, if_neg h18]
  by_cases h19 : op = 19
  · rw [if_pos h19, if_pos h19]
    apply fr_o_idiv
  rw [if_neg h19, if_neg h19]
  by_cases h20 : op = 20
  · rw [if_pos h20, if_pos h20]
    apply fr_o_ldiv
  rw [if_neg h20, if_neg h20]
  by_cases h21 : op = 21
  · rw [if_pos h21, if_pos h21]
    apply fr_o_lald
  rw [if_neg h21, if_neg h21]
  by_cases h22 : op = 22
  · rw [if_pos h22, if_pos h22]
    apply fr_o_last
  rw [if_neg h22, if_neg h22]
  by_cases h23 : op = 23
  · rw [if_pos h23, if_pos h23]
    apply fr_o_sto2
  rw [if_neg h23, if_neg h23]
  by_cases h24 : op = 24
  · rw [if_pos h24, if_pos h24]
    apply fr_o_dup2
  rw [if_neg h24, if_neg h24]
  by_cases h25 : op = 25
  · rw [if_pos h25, if_pos h25]
    apply fr_o_pop
  rw [if_neg h25, if_neg h25]
  by_cases h26 : op = 26
  · rw [if_pos h26, if_pos h26]
    apply fr_o_alen
  rw [if_neg h26, if_neg h26]
  by_cases h27 : op = 27
  · rw [if_pos h27, if_pos h27]
    apply fr_o_lshl
  rw [if_neg h27, if_neg h27]
  by_cases h28 : op = 28
  · rw [if_pos h28, if_pos h28]
    apply fr_o_swit
  rw [if_neg h28, if_neg h28]
  by_cases h29 : op = 29
  · rw [if_pos h29, if_pos h29]
    apply fr_o_acpy
  rw [if_neg h29, if_neg h29]
  by_cases h30 : op = 30
  · rw [if_pos h30, if_pos h30]
    apply fr_o_slen
  rw [if_neg h30, if_neg h30]
  by_cases h31 : op = 31
  · rw [if_pos h31, if_pos h31]
    apply fr_o_schr
  rw [if_neg h31, if_neg h31]
  by_cases h32 : op = 32
  · rw [if_pos h32, if_pos h32]
    apply fr_o_stoA
  rw [if_neg h32, if_neg h32]
  by_cases h33 : op = 33
  · rw [if_pos h33, if_pos h33]
    apply fr_o_mat2
  rw [if_neg h33, if_neg h33]
  by_cases h34 : op = 34
  · rw [if_pos h34, if_pos h34]
    apply fr_o_mabs
  rw [if_neg h34, if_neg h34]
  by_cases h35 : op = 35
  · rw [if_pos h35, if_pos h35]
    apply fr_o_matJ
  rw [if_neg h35, if_neg h35]
  rfl
end Free
def toV : RR → Option Mem
  | some (none, V) => some V
  | _ => none
def toI : RR → Option (Int32 × Mem)
  | some (some (.inl x), V) => some (x, V)
  | _ => none
def toJ : RR → Option (Int64 × Mem)
  | some (some (.inr (.inl x)), V) => some (x, V)
  | _ => none
def cal (g : Nat → Nat → Nat → AL → AS → Mem → RR) (d b : Nat) (as : List AV) (V : Mem) : RR := match d with
  | 0 => none
  | d' + 1 => g d' b 0 (padL (nLo b) (entL as)) [] V
/-- one step over g, which says what comes of every other place -/
def stG (g : Nat → Nat → Nat → AL → AS → Mem → RR) (d m pc : Nat) (L : AL) (S : AS) (V : Mem) : RR :=
  stp (g d m) none (fun r V => some (r, V)) (fun b as V nx L R => (toV (cal g d b as V)).bind fun V' => g d m nx L R V')
    (fun b as V nx L R => (toI (cal g d b as V)).bind fun x => g d m nx L (.inl x.1 :: R) x.2)
    (fun b as V nx L R => (toJ (cal g d b as V)).bind fun x => g d m nx L (.inr (.inl x.1) :: R) x.2) m pc L S V
def go : Nat → Nat → Nat → Nat → AL → AS → Mem → RR
  | 0 => fun _ _ _ _ _ _ => none
  | f + 1 => stG (go f)
/-- what is said by g is said by h -/
def gle (g h : Nat → Nat → Nat → AL → AS → Mem → RR) : Prop := ∀ d m pc L S V X, g d m pc L S V = some X → h d m pc L S V = some X
theorem cal_mono {g h : Nat → Nat → Nat → AL → AS → Mem → RR} (H : gle g h) {d b : Nat} {as : List AV} {V : Mem} {X : Option AV × Mem} (e : cal g d b as V = some X) : cal h d b as V = some X := by
  cases d with
  | zero => cases e
  | succ d => exact H _ _ _ _ _ _ _ e
theorem toV_some {r : RR} {V : Mem} (h : toV r = some V) : r = some (none, V) := by
  unfold toV at h; split at h
  · cases h; rfl
  · cases h
theorem toI_some {r : RR} {x : Int32 × Mem} (h : toI r = some x) : r = some (some (.inl x.1), x.2) := by
  unfold toI at h; split at h
  · cases h; rfl
  · cases h
theorem toJ_some {r : RR} {x : Int64 × Mem} (h : toJ r = some x) : r = some (some (.inr (.inl x.1)), x.2) := by
  unfold toJ at h; split at h
  · cases h; rfl
  · cases h
theorem stG_mono {g h : Nat → Nat → Nat → AL → AS → Mem → RR} (H : gle g h) : gle (stG g) (stG h) := by
  intro d m pc L S V X e
  unfold stG at e ⊢
  rw [stp_free] at e ⊢
  generalize nxt m pc L S V = n at e ⊢
  match n, e with
  | some (.inl (pc, L, S, V)), e => exact H _ _ _ _ _ _ _ e
  | some (.inr (.inl (r, V))), e => exact e
  | some (.inr (.inr (0, b, as, V, nx, L, R))), e =>
    obtain ⟨V', h1, h2⟩ := Option.bind_eq_some_iff.mp e
    exact Option.bind_eq_some_iff.mpr ⟨V', by rw [cal_mono H (toV_some h1)]; rfl, H _ _ _ _ _ _ _ h2⟩
  | some (.inr (.inr (1, b, as, V, nx, L, R))), e =>
    obtain ⟨V', h1, h2⟩ := Option.bind_eq_some_iff.mp e
    exact Option.bind_eq_some_iff.mpr ⟨V', by rw [cal_mono H (toI_some h1)]; rfl, H _ _ _ _ _ _ _ h2⟩
  | some (.inr (.inr (k + 2, b, as, V, nx, L, R))), e =>
    obtain ⟨V', h1, h2⟩ := Option.bind_eq_some_iff.mp e
    exact Option.bind_eq_some_iff.mpr ⟨V', by rw [cal_mono H (toJ_some h1)]; rfl, H _ _ _ _ _ _ _ h2⟩
theorem go_mono1 : ∀ f, gle (go f) (go (f + 1))
  | 0 => fun _ _ _ _ _ _ _ h => by cases h
  | f + 1 => stG_mono (go_mono1 f)
theorem go_mono {f k : Nat} : gle (go f) (go (f + k)) := by
  induction k with
  | zero => exact fun _ _ _ _ _ _ _ h => h
  | succ k ih => exact fun d m pc L S V X h => go_mono1 (f + k) _ _ _ _ _ _ _ (ih _ _ _ _ _ _ _ h)
theorem go_le {f k : Nat} (h : f ≤ k) : gle (go f) (go k) := by
  have e : k = f + (k - f) := by omega
  rw [e]; exact go_mono
noncomputable def sem (d m pc : Nat) (L : AL) (S : AS) (V : Mem) : RR :=
  @dite _ (∃ X f, go f d m pc L S V = some X) (Classical.propDecidable _) (fun h => some h.choose) (fun _ => none)
theorem sem_iff {d m pc : Nat} {L : AL} {S : AS} {V : Mem} {X : Option AV × Mem} : sem d m pc L S V = some X ↔ ∃ f, go f d m pc L S V = some X := by
  unfold sem
  by_cases h : ∃ X f, go f d m pc L S V = some X
  · rw [dif_pos h]
    obtain ⟨f, hf⟩ := h.choose_spec
    constructor
    · intro e; cases e; exact ⟨f, hf⟩
    · rintro ⟨f2, h2⟩
      have a := go_le (Nat.le_max_left f f2) _ _ _ _ _ _ _ hf
      have b := go_le (Nat.le_max_right f f2) _ _ _ _ _ _ _ h2
      rw [a] at b; exact b
  · rw [dif_neg h]
    constructor
    · intro e; cases e
    · rintro ⟨f2, h2⟩; exact absurd ⟨X, f2, h2⟩ h
theorem gle_sem (f : Nat) : gle (go f) sem := fun _ _ _ _ _ _ _ h => sem_iff.mpr ⟨f, h⟩
theorem cal_sem {d b : Nat} {as : List AV} {V : Mem} {X : Option AV × Mem} (h : cal sem d b as V = some X) : ∃ f, cal (go f) d b as V = some X := by
  cases d with
  | zero => cases h
  | succ d => exact sem_iff.mp h
theorem sem_step (d m pc : Nat) (L : AL) (S : AS) (V : Mem) : sem d m pc L S V = stG sem d m pc L S V := by
  refine Option.ext fun X => ?_
  constructor
  · intro h
    obtain ⟨f, hf⟩ := sem_iff.mp h
    cases f with
    | zero => cases hf
    | succ f => exact stG_mono (gle_sem f) _ _ _ _ _ _ _ hf
  · intro h
    unfold stG at h
    rw [stp_free] at h
    have key : ∀ f, stG (go f) d m pc L S V = some X → sem d m pc L S V = some X := fun f hf => sem_iff.mpr ⟨f + 1, hf⟩
    unfold stG at key
    simp only [stp_free] at key
    generalize nxt m pc L S V = n at h key
    match n, h, key with
    | some (.inl (pc, L, S, V)), h, key =>
      obtain ⟨f, hf⟩ := sem_iff.mp h
      exact key f hf
    | some (.inr (.inl (r, V))), h, key => exact key 0 h
    | some (.inr (.inr (0, b, as, V, nx, L, R))), h, key =>
      obtain ⟨V', h1, h2⟩ := Option.bind_eq_some_iff.mp h
      obtain ⟨f1, hf1⟩ := cal_sem (toV_some h1)
      obtain ⟨f2, hf2⟩ := sem_iff.mp h2
      refine key (max f1 f2) (Option.bind_eq_some_iff.mpr ⟨V', ?_, go_le (Nat.le_max_right f1 f2) _ _ _ _ _ _ _ hf2⟩)
      rw [cal_mono (go_le (Nat.le_max_left f1 f2)) hf1]; rfl
    | some (.inr (.inr (1, b, as, V, nx, L, R))), h, key =>
      obtain ⟨V', h1, h2⟩ := Option.bind_eq_some_iff.mp h
      obtain ⟨f1, hf1⟩ := cal_sem (toI_some h1)
      obtain ⟨f2, hf2⟩ := sem_iff.mp h2
      refine key (max f1 f2) (Option.bind_eq_some_iff.mpr ⟨V', ?_, go_le (Nat.le_max_right f1 f2) _ _ _ _ _ _ _ hf2⟩)
      rw [cal_mono (go_le (Nat.le_max_left f1 f2)) hf1]; rfl
    | some (.inr (.inr (k + 2, b, as, V, nx, L, R))), h, key =>
      obtain ⟨V', h1, h2⟩ := Option.bind_eq_some_iff.mp h
      obtain ⟨f1, hf1⟩ := cal_sem (toJ_some h1)
      obtain ⟨f2, hf2⟩ := sem_iff.mp h2
      refine key (max f1 f2) (Option.bind_eq_some_iff.mpr ⟨V', ?_, go_le (Nat.le_max_right f1 f2) _ _ _ _ _ _ _ hf2⟩)
      rw [cal_mono (go_le (Nat.le_max_left f1 f2)) hf1]; rfl
/-- calls, by what they answer -/
noncomputable def clV (d b : Nat) (as : List AV) (V : Mem) : Option Mem := toV (cal sem d b as V)
noncomputable def clI (d b : Nat) (as : List AV) (V : Mem) : Option (Int32 × Mem) := toI (cal sem d b as V)
noncomputable def clJ (d b : Nat) (as : List AV) (V : Mem) : Option (Int64 × Mem) := toJ (cal sem d b as V)
def hasN : List Nat → Nat → Bool
  | [], _ => false
  | a :: l, n => bif Nat.beq a n then true else hasN l n
/-- many steps, up to the places in st -/
noncomputable def uSt (d m : Nat) (st : List Nat) : Nat → Nat → AL → AS → Mem → RR
  | 0 => fun pc L S V => sem d m pc L S V
  | n + 1 => fun pc L S V => bif hasN st pc then sem d m pc L S V else
    stp (uSt d m st n) none (fun r V => some (r, V)) (fun b as V nx L R => (clV d b as V).bind fun V' => uSt d m st n nx L R V')
      (fun b as V nx L R => (clI d b as V).bind fun x => uSt d m st n nx L (.inl x.1 :: R) x.2)
      (fun b as V nx L R => (clJ d b as V).bind fun x => uSt d m st n nx L (.inr (.inl x.1) :: R) x.2) m pc L S V
theorem uSt_sem (d m : Nat) (st : List Nat) : ∀ n, uSt d m st n = fun pc L S V => sem d m pc L S V
  | 0 => rfl
  | n + 1 => by
    funext pc L S V
    unfold uSt
    rw [uSt_sem d m st n]
    cases hasN st pc with
    | true => rfl
    | false => exact (sem_step d m pc L S V).symm
/-- the first step is made in any case -/
noncomputable def u1 (d m : Nat) (st : List Nat) (n pc : Nat) (L : AL) (S : AS) (V : Mem) : RR :=
  stp (uSt d m st n) none (fun r V => some (r, V)) (fun b as V nx L R => (clV d b as V).bind fun V' => uSt d m st n nx L R V')
      (fun b as V nx L R => (clI d b as V).bind fun x => uSt d m st n nx L (.inl x.1 :: R) x.2)
      (fun b as V nx L R => (clJ d b as V).bind fun x => uSt d m st n nx L (.inr (.inl x.1) :: R) x.2) m pc L S V
theorem sem_u1 (d m : Nat) (st : List Nat) (n pc : Nat) (L : AL) (S : AS) (V : Mem) : sem d m pc L S V = u1 d m st n pc L S V := by
  unfold u1
  rw [uSt_sem]
  exact sem_step d m pc L S V
theorem clV_eq (d b : Nat) (as : List AV) (V : Mem) : clV (d + 1) b as V = toV (sem d b 0 (padL (nLo b) (entL as)) [] V) := rfl
theorem clI_eq (d b : Nat) (as : List AV) (V : Mem) : clI (d + 1) b as V = toI (sem d b 0 (padL (nLo b) (entL as)) [] V) := rfl
theorem clJ_eq (d b : Nat) (as : List AV) (V : Mem) : clJ (d + 1) b as V = toJ (sem d b 0 (padL (nLo b) (entL as)) [] V) := rfl
end
section
/-! THE REAL MACHINE'S WORLD: the cells behind the small machine's memory -/
def rv (ad : Nat → Nat → Nat) : AV → Value
  | .inl x => .int x
  | .inr (.inl x) => .long x
  | .inr (.inr q) => .ref (ad q.1 q.2)
def fdV (ad : Nat → Nat → Nat) (t i : Nat) (V : Mem) (k : Nat) : Value := match fldv t k i V with
  | some w => rv ad w
  | none => .null
def fds (ad : Nat → Nat → Nat) (t i : Nat) (V : Mem) : List Value := (List.range (frl t).length).map (fdV ad t i V)
def cellE (cy : Nat → ClassId) (ad : Nat → Nat → Nat) (t i : Nat) (V : Mem) : va_E :=
  if ak t = 0 then .inr (clsOf t, fds ad t i V)
  else if ak t = 2 then .inl (cy 2, alen t, .inr (.inl (V.2 t i)))
  else if ak t = 5 then .inl (cy 5, alen t, .inr (.inr (.inr (.inr (fun j => some (ad 5 (j + 6 * i)))))))
  else if ak t = 6 then .inl (cy 6, alen t, .inr (.inr (.inr (.inr (fun j => some (ad 23 j))))))
  else .inl (cy (ak t), alen t, .inl (V.1 t i))
def allP : List (Nat × Nat) := (List.range 48).flatMap fun t => (List.range (cnt t)).map fun i => (t, i)
def allC (cy : Nat → ClassId) (ad : Nat → Nat → Nat) (V : Mem) : va_W := allP.map fun q => (ad q.1 q.2, cellE cy ad q.1 q.2 V)
theorem allP_mem {t i : Nat} (ht : t < 48) (hi : i < cnt t) : (t, i) ∈ allP :=
  List.mem_flatMap.mpr ⟨t, List.mem_range.mpr ht, List.mem_map.mpr ⟨i, List.mem_range.mpr hi, rfl⟩⟩
theorem allP_nd : va_nd (allP.map fun q => q.1 * 100 + q.2) = true := by decide +kernel
theorem allP_inj {j k : Nat} {q : Nat × Nat} (h1 : allP[j]? = some q) (h2 : allP[k]? = some q) : j = k :=
  va_nd_inj _ allP_nd j k (q.1 * 100 + q.2) (by rw [List.getElem?_map, h1]; rfl) (by rw [List.getElem?_map, h2]; rfl)
theorem allP_at {t i : Nat} (ht : t < 48) (hi : i < cnt t) : ∃ q0 : Nat, allP[q0]? = some (t, i) := List.getElem?_of_mem (allP_mem ht hi)
theorem allC_at {cy : Nat → ClassId} {ad : Nat → Nat → Nat} {V : Mem} {q0 t i : Nat} (h : allP[q0]? = some (t, i)) : (allC cy ad V)[q0]? = some (ad t i, cellE cy ad t i V) := by
  unfold allC
  rw [List.getElem?_map, h]
  rfl
theorem cellE_congr {cy : Nat → ClassId} {ad : Nat → Nat → Nat} {V V' : Mem} {t i : Nat} (h1 : V'.1 t i = V.1 t i) (h2 : V'.2 t i = V.2 t i) : cellE cy ad t i V' = cellE cy ad t i V := by
  have h3 : fds ad t i V' = fds ad t i V := by
    unfold fds
    congr 1
    funext k
    unfold fdV fldv
    rw [h1]
  unfold cellE
  rw [h1, h2, h3]
theorem allC_set {cy : Nat → ClassId} {ad : Nat → Nat → Nat} {V V' : Mem} {q0 t i : Nat} (hq : allP[q0]? = some (t, i)) (h1 : ∀ t' i', ¬ (t' = t ∧ i' = i) → V'.1 t' i' = V.1 t' i') (h2 : ∀ t' i', ¬ (t' = t ∧ i' = i) → V'.2 t' i' = V.2 t' i') {e : va_E} (he : e = cellE cy ad t i V') :
    (allC cy ad V).set q0 (ad t i, e) = allC cy ad V' := by
  subst he
  apply List.ext_getElem?
  intro j
  by_cases hj : j = q0
  · subst hj
    have hl : j < (allC cy ad V).length := (List.getElem?_eq_some_iff.mp (allC_at (cy := cy) (ad := ad) (V := V) hq)).1
    rw [List.getElem?_set_self hl, allC_at hq]
  · rw [List.getElem?_set_ne (Ne.symm hj)]
    unfold allC
    rw [List.getElem?_map, List.getElem?_map]
    cases hp : allP[j]? with
    | none => rfl
    | some q =>
      have hne : ¬ (q.1 = t ∧ q.2 = i) := fun hh => hj (allP_inj hp (by rw [hq]; exact congrArg some (Prod.ext hh.1.symm hh.2.symm)))
      show some (ad q.1 q.2, cellE cy ad q.1 q.2 V) = some (ad q.1 q.2, cellE cy ad q.1 q.2 V')
      rw [cellE_congr (h1 _ _ hne) (h2 _ _ hne)]
theorem mset_ne {α : Type} {f : Nat → Nat → Nat → α} {t i k : Nat} {x : α} {t' i' : Nat} (h : ¬ (t' = t ∧ i' = i)) : mset f t i k x t' i' = f t' i' := by
  funext k'
  unfold mset
  rw [if_neg]
  rintro ⟨a, b, -⟩
  exact h ⟨a, b⟩
theorem mset_at {α : Type} (f : Nat → Nat → Nat → α) (t i k : Nat) (x : α) : mset f t i k x t i = fun j => if j = k then x else f t i j := by
  funext j
  unfold mset
  by_cases h : j = k
  · rw [if_pos ⟨rfl, rfl, h⟩, if_pos h]
  · rw [if_neg (fun q => h q.2.2), if_neg h]
theorem mcpy_ne {α : Type} {f : Nat → Nat → Nat → α} {t i sp t2 i2 dp n : Nat} {t' i' : Nat} (h : ¬ (t' = t2 ∧ i' = i2)) : mcpy f t i sp t2 i2 dp n t' i' = f t' i' := by
  funext k'
  unfold mcpy
  rw [if_neg]
  rintro ⟨a, b, -⟩
  exact h ⟨a, b⟩
theorem mcpy_at {α : Type} (f : Nat → Nat → Nat → α) (t i sp t2 i2 dp n : Nat) : mcpy f t i sp t2 i2 dp n t2 i2 = va_cpy (f t i) (f t2 i2) sp dp n := by
  funext j
  unfold mcpy va_cpy
  by_cases h : dp ≤ j ∧ j < dp + n
  · rw [if_pos ⟨rfl, rfl, h⟩, if_pos h]
  · rw [if_neg (fun q => h q.2.2), if_neg h]
theorem nth_get {α : Type} : ∀ (l : List α) (n : Nat), nth l n = l[n]?
  | [], _ => rfl
  | _ :: _, 0 => rfl
  | _ :: l, n + 1 => by
    show nth l n = _
    rw [nth_get l n, List.getElem?_cons_succ]
theorem fds_at {ad : Nat → Nat → Nat} {t k i : Nat} {V : Mem} {w : AV} (h : fldv t k i V = some w) : (fds ad t i V)[k]? = some (rv ad w) := by
  have hk : k < (frl t).length := by
    unfold fldv at h
    cases hn : nth (frl t) k with
    | none => rw [hn] at h; cases h
    | some x =>
      rw [nth_get] at hn
      exact (List.getElem?_eq_some_iff.mp hn).1
  unfold fds
  rw [List.getElem?_map, List.getElem?_range hk]
  show some (fdV ad t i V k) = _
  unfold fdV
  rw [h]
theorem fds_len {ad : Nat → Nat → Nat} {t i : Nat} {V : Mem} : (fds ad t i V).length = (frl t).length := by
  unfold fds
  rw [List.length_map, List.length_range]
theorem fds_set {ad : Nat → Nat → Nat} {t k i : Nat} {V : Mem} {x : Int32} (h : nth (frl t) k = some none) : (fds ad t i V).set k (.int x) = fds ad t i (mset V.1 t i k x, V.2) := by
  have hk : k < (frl t).length := by
    rw [nth_get] at h
    exact (List.getElem?_eq_some_iff.mp h).1
  apply List.ext_getElem?
  intro j
  by_cases hj : j = k
  · subst hj
    rw [List.getElem?_set_self (by rw [fds_len]; exact hk)]
    have h2 : fldv t j i (mset V.1 t i j x, V.2) = some (.inl x) := by
      unfold fldv
      rw [h]
      simp [mset]
    rw [fds_at h2]
    rfl
  · rw [List.getElem?_set_ne (Ne.symm hj)]
    by_cases hl : j < (frl t).length
    · unfold fds
      rw [List.getElem?_map, List.getElem?_map, List.getElem?_range hl]
      show some (fdV ad t i V j) = some (fdV ad t i (mset V.1 t i k x, V.2) j)
      have e : fldv t j i (mset V.1 t i k x, V.2) = fldv t j i V := by
        have e2 : mset V.1 t i k x t i j = V.1 t i j := by
          rw [mset_at]
          exact if_neg hj
        unfold fldv
        cases nth (frl t) j with
        | none => rfl
        | some y =>
          cases y with
          | none => exact congrArg (fun z => some (Sum.inl z)) e2
          | some y =>
            obtain ⟨t', o⟩ := y
            cases o <;> rfl
      unfold fdV
      rw [e]
    · rw [List.getElem?_eq_none (by rw [fds_len]; omega), List.getElem?_eq_none (by rw [fds_len]; omega)]
/-! locals -/
theorem lset_len : ∀ (L : AL) (i : Nat) (x : Option AV), (lset L i x).length = L.length
  | [], _, _ => rfl
  | _ :: _, 0, _ => rfl
  | _ :: l, n + 1, x => by
    show (lset l n x).length + 1 = l.length + 1
    rw [lset_len l n x]
theorem lget_lset_self : ∀ (L : AL) (i : Nat) (x : Option AV), i < L.length → lget (lset L i x) i = x
  | [], _, _, h => absurd h (Nat.not_lt_zero _)
  | _ :: _, 0, _, _ => rfl
  | _ :: l, n + 1, x, h => lget_lset_self l n x (Nat.lt_of_succ_lt_succ h)
theorem lget_lset_ne : ∀ (L : AL) (i j : Nat) (x : Option AV), j ≠ i → lget (lset L i x) j = lget L j
  | [], _, _, _, _ => rfl
  | _ :: _, 0, 0, _, h => absurd rfl h
  | _ :: _, 0, _ + 1, _, _ => rfl
  | _ :: _, _ + 1, 0, _, _ => rfl
  | _ :: l, n + 1, j + 1, x, h => lget_lset_ne l n j x (fun e => h (by rw [e]))
theorem lget_lt : ∀ {L : AL} {i : Nat} {v : AV}, lget L i = some v → i < L.length
  | [], _, _, h => by cases h
  | _ :: _, 0, _, _ => Nat.zero_lt_succ _
  | _ :: _, _ + 1, _, h => Nat.succ_lt_succ (lget_lt h)
theorem kil_len (L : AL) (i : Nat) : (kil L i).length = L.length := by
  cases i with
  | zero => rfl
  | succ n =>
    show (bif isL (lget L n) then lset L n none else L).length = L.length
    cases isL (lget L n)
    · rfl
    · exact lset_len _ _ _
theorem lget_kil {L : AL} {i j : Nat} {u : AV} (h : lget (kil L i) j = some u) : lget L j = some u ∧ ¬ (j + 1 = i ∧ isL (some u) = true) := by
  cases i with
  | zero => exact ⟨h, fun q => by omega⟩
  | succ n =>
    have h : lget (bif isL (lget L n) then lset L n none else L) j = some u := h
    cases hc : isL (lget L n) with
    | false =>
      rw [hc] at h
      refine ⟨h, fun q => ?_⟩
      have e : j = n := by omega
      subst e
      have h : lget L j = some u := h
      rw [h] at hc
      rw [hc] at q
      exact absurd q.2 (by decide)
    | true =>
      rw [hc] at h
      have h : lget (lset L n none) j = some u := h
      by_cases e : j = n
      · subst e
        by_cases hl : j < L.length
        · rw [lget_lset_self _ _ _ hl] at h
          cases h
        · have := lget_lt h
          rw [lset_len] at this
          exact absurd this hl
      · rw [lget_lset_ne _ _ _ _ e] at h
        exact ⟨h, fun q => e (by omega)⟩
theorem lget_trn : ∀ {L : AL} {k j : Nat} {u : AV}, lget (trn k L) j = some u → lget L j = some u
  | [], _, _, _, h => by
    unfold trn at h
    exact h
  | _ :: _, 0, 0, _, h => by
    unfold trn at h
    cases h
  | _ :: l, 0, j + 1, _, h => by
    unfold trn at h
    exact lget_trn (L := l) (k := 0) h
  | _ :: _, _ + 1, 0, _, h => h
  | _ :: l, k + 1, j + 1, _, h => lget_trn (L := l) (k := k) h
theorem trn_len : ∀ (k : Nat) (L : AL), (trn k L).length = L.length
  | _, [] => by unfold trn; rfl
  | 0, _ :: l => by
    unfold trn
    show (trn 0 l).length + 1 = l.length + 1
    rw [trn_len 0 l]
  | k + 1, _ :: l => by
    show (trn k l).length + 1 = l.length + 1
    rw [trn_len k l]
theorem lget_trk {L : AL} {k j : Nat} {u : AV} (h : lget (trk k L) j = some u) : lget L j = some u := by
  cases k with
  | zero => exact h
  | succ k => exact lget_trn h
theorem trk_len (k : Nat) (L : AL) : (trk k L).length = L.length := by
  cases k with
  | zero => rfl
  | succ k => exact trn_len k L
theorem lget_nil (j : Nat) : lget [] j = none := by cases j <;> rfl
/-- the locals of the real frame are at least the small machine's -/
def LR (ad : Nat → Nat → Nat) (ls : Array Slot) (nL : Nat) (L : AL) : Prop := ls.size = nL ∧ lv_wf ls ∧ L.length = nL ∧ ∀ (i : Nat) (v : AV), lget L i = some v → ls[i]? = some (.val (rv ad v))
def prL (ad : Nat → Nat → Nat) : Nat → AL → List (Nat × Value)
  | _, [] => []
  | n, none :: l => prL ad (n + 1) l
  | n, some v :: l => (n, rv ad v) :: prL ad (n + 1) l
theorem prL_in (ad : Nat → Nat → Nat) : ∀ (L : AL) (n i : Nat) (v : AV), lget L i = some v → (n + i, rv ad v) ∈ prL ad n L
  | [], _, i, _, h => by rw [lget_nil] at h; cases h
  | none :: _, _, 0, _, h => by cases h
  | some v :: _, n, 0, _, h => by
    cases h
    exact List.mem_cons_self
  | none :: l, n, i + 1, v, h => by
    have := prL_in ad l (n + 1) i v h
    rw [show n + 1 + i = n + (i + 1) by omega] at this
    exact this
  | some _ :: l, n, i + 1, v, h => by
    have := prL_in ad l (n + 1) i v h
    rw [show n + 1 + i = n + (i + 1) by omega] at this
    exact List.mem_cons_of_mem _ this
theorem prL_out (ad : Nat → Nat → Nat) : ∀ (L : AL) (n : Nat) (q : Nat × Value), q ∈ prL ad n L → ∃ (i : Nat) (v : AV), q = (n + i, rv ad v) ∧ lget L i = some v
  | [], _, _, h => by cases h
  | none :: l, n, q, h => by
    obtain ⟨i, v, h1, h2⟩ := prL_out ad l (n + 1) q h
    exact ⟨i + 1, v, by rw [h1]; congr 1; omega, h2⟩
  | some w :: l, n, q, h => by
    rcases List.mem_cons.mp h with rfl | h
    · exact ⟨0, w, rfl, rfl⟩
    · obtain ⟨i, v, h1, h2⟩ := prL_out ad l (n + 1) q h
      exact ⟨i + 1, v, by rw [h1]; congr 1; omega, h2⟩
theorem LR.has {ad : Nat → Nat → Nat} {ls : Array Slot} {nL : Nat} {L : AL} (h : LR ad ls nL L) : lv_has ls nL (prL ad 0 L) := by
  refine ⟨h.1, h.2.1, fun q hq => ?_⟩
  obtain ⟨i, v, rfl, h2⟩ := prL_out ad L 0 q hq
  rw [Nat.zero_add]
  exact h.2.2.2 i v h2
theorem rv_cat (ad : Nat → Nat → Nat) (v : AV) : (rv ad v).category = ctg v := by
  match v with
  | .inl _ => rfl
  | .inr (.inl _) => rfl
  | .inr (.inr _) => rfl
theorem isL_cat (ad : Nat → Nat → Nat) (v : AV) : isL (some v) = true ↔ (rv ad v).category = 2 := by
  match v with
  | .inl _ => exact ⟨fun h => (by cases h), fun h => (by cases h)⟩
  | .inr (.inl _) => exact ⟨fun _ => rfl, fun _ => rfl⟩
  | .inr (.inr _) => exact ⟨fun h => (by cases h), fun h => (by cases h)⟩
theorem LR.set1 {ad : Nat → Nat → Nat} {ls ls' : Array Slot} {nL : Nat} {L : AL} {a b : Nat} {w : AV} (h : LR ad ls nL L)
    (h' : lv_has ls' nL ((a, rv ad w) :: (prL ad 0 L).filter (fun q => !(q.1 == a) && !(q.1 + 1 == a && q.2.category == 2)))) : LR ad ls' nL (trk b (sto1 L a w)) := by
  refine ⟨h'.1, h'.2.1, by rw [trk_len]; unfold sto1; rw [lset_len, kil_len]; exact h.2.2.1, fun i v hi => ?_⟩
  have hi := lget_trk hi
  unfold sto1 at hi
  by_cases e : i = a
  · subst e
    have hl := lget_lt hi
    rw [lset_len] at hl
    rw [lget_lset_self _ _ _ hl] at hi
    cases hi
    exact h'.2.2 (i, rv ad w) List.mem_cons_self
  · rw [lget_lset_ne _ _ _ _ e] at hi
    obtain ⟨h1, h2⟩ := lget_kil hi
    refine h'.2.2 (i, rv ad v) (List.mem_cons_of_mem _ (List.mem_filter.mpr ⟨?_, ?_⟩))
    · have := prL_in ad L 0 i v h1
      rw [Nat.zero_add] at this
      exact this
    · rw [isL_cat ad] at h2
      simp only [Bool.and_eq_true, Bool.not_eq_true', beq_eq_false_iff_ne, ne_eq, Bool.and_eq_false_iff]
      refine ⟨e, ?_⟩
      by_cases q : i + 1 = a
      · exact Or.inr (fun z => h2 ⟨q, z⟩)
      · exact Or.inl q
theorem LR.set2 {ad : Nat → Nat → Nat} {ls ls' : Array Slot} {nL : Nat} {L : AL} {a : Nat} {w : AV} (h : LR ad ls nL L)
    (h' : lv_has ls' nL ((a, rv ad w) :: (prL ad 0 L).filter (fun q => !(q.1 == a) && (!(q.1 == a + 1) && !(q.1 + 1 == a && q.2.category == 2))))) : LR ad ls' nL (sto2 L a w) := by
  refine ⟨h'.1, h'.2.1, by unfold sto2; rw [lset_len, lset_len, kil_len]; exact h.2.2.1, fun i v hi => ?_⟩
  unfold sto2 at hi
  by_cases e1 : i = a + 1
  · subst e1
    have hl := lget_lt hi
    rw [lset_len] at hl
    rw [lget_lset_self _ _ _ hl] at hi
    cases hi
  rw [lget_lset_ne _ _ _ _ e1] at hi
  by_cases e : i = a
  · subst e
    have hl := lget_lt hi
    rw [lset_len] at hl
    rw [lget_lset_self _ _ _ hl] at hi
    cases hi
    exact h'.2.2 (i, rv ad w) List.mem_cons_self
  · rw [lget_lset_ne _ _ _ _ e] at hi
    obtain ⟨h1, h2⟩ := lget_kil hi
    refine h'.2.2 (i, rv ad v) (List.mem_cons_of_mem _ (List.mem_filter.mpr ⟨?_, ?_⟩))
    · have := prL_in ad L 0 i v h1
      rw [Nat.zero_add] at this
      exact this
    · rw [isL_cat ad] at h2
      simp only [Bool.and_eq_true, Bool.not_eq_true', beq_eq_false_iff_ne, ne_eq, Bool.and_eq_false_iff]
      refine ⟨e, e1, ?_⟩
      by_cases q : i + 1 = a
      · exact Or.inr (fun z => h2 ⟨q, z⟩)
      · exact Or.inl q
theorem LR.cut {ad : Nat → Nat → Nat} {ls : Array Slot} {nL : Nat} {L : AL} {k : Nat} (h : LR ad ls nL L) : LR ad ls nL (trk k L) :=
  ⟨h.1, h.2.1, by rw [trk_len]; exact h.2.2.1, fun i v hi => h.2.2.2 i v (lget_trk hi)⟩
theorem entL_get (ad : Nat → Nat → Nat) : ∀ (as : List AV) (n i : Nat) (v : AV), lget (entL as) i = some v → (n + i, rv ad v) ∈ lv_args n (as.map (rv ad))
  | [], _, i, _, h => by
    have h : lget [] i = some _ := h
    rw [lget_nil] at h; cases h
  | .inl x :: r, n, 0, v, h => by
    cases h
    exact List.mem_cons_self
  | .inl x :: r, n, i + 1, v, h => by
    have := entL_get ad r (n + 1) i v h
    rw [show n + 1 + i = n + (i + 1) by omega] at this
    exact List.mem_cons_of_mem _ this
  | .inr (.inr x) :: r, n, 0, v, h => by
    cases h
    exact List.mem_cons_self
  | .inr (.inr x) :: r, n, i + 1, v, h => by
    have := entL_get ad r (n + 1) i v h
    rw [show n + 1 + i = n + (i + 1) by omega] at this
    exact List.mem_cons_of_mem _ this
  | .inr (.inl x) :: r, n, 0, v, h => by
    cases h
    exact List.mem_cons_self
  | .inr (.inl x) :: r, n, 1, v, h => by cases h
  | .inr (.inl x) :: r, n, i + 2, v, h => by
    have := entL_get ad r (n + 2) i v h
    rw [show n + 2 + i = n + (i + 2) by omega] at this
    exact List.mem_cons_of_mem _ this
theorem padL_get : ∀ (n : Nat) (L : AL) (i : Nat) (v : AV), lget (padL n L) i = some v → lget L i = some v
  | 0, _, _, _, h => h
  | n + 1, [], 0, _, h => by cases h
  | n + 1, [], i + 1, v, h => by
    have := padL_get n [] i v h
    rw [lget_nil] at this
    cases this
  | n + 1, a :: l, 0, v, h => h
  | n + 1, a :: l, i + 1, v, h => padL_get n l i v h
theorem padL_len : ∀ (n : Nat) (L : AL), L.length ≤ n → (padL n L).length = n
  | 0, [], _ => rfl
  | 0, _ :: _, h => absurd h (by simp)
  | n + 1, [], _ => by
    show (padL n []).length + 1 = n + 1
    rw [padL_len n [] (Nat.zero_le _)]
  | n + 1, _ :: l, h => by
    show (padL n l).length + 1 = n + 1
    rw [padL_len n l (Nat.le_of_succ_le_succ h)]
theorem entL_len : ∀ (as : List AV), (entL as).length = csum as
  | [] => rfl
  | .inl _ :: r => by
    show (entL r).length + 1 = 1 + csum r
    rw [entL_len r, Nat.add_comm]
  | .inr (.inr _) :: r => by
    show (entL r).length + 1 = 1 + csum r
    rw [entL_len r, Nat.add_comm]
  | .inr (.inl _) :: r => by
    show (entL r).length + 1 + 1 = 2 + csum r
    rw [entL_len r]
    omega
theorem lg_len (ad : Nat → Nat → Nat) : ∀ (as : List AV), (lg_sl (as.map (rv ad))).length = csum as
  | [] => rfl
  | v :: r => by
    have ih := lg_len ad r
    unfold lg_sl at ih ⊢
    rw [List.map_cons, List.flatMap_cons, List.length_append, ih]
    match v with
    | .inl _ => rfl
    | .inr (.inl _) => rfl
    | .inr (.inr _) => rfl
theorem LR.entry {ad : Nat → Nat → Nat} {as : List AV} {n : Nat} (h : csum as ≤ n) : LR ad ((lg_sl (as.map (rv ad)) ++ List.replicate (n - (lg_sl (as.map (rv ad))).length) Slot.unset).toArray) n (padL n (entL as)) := by
  have hl := lv_entry (as.map (rv ad)) (n := n) (by rw [lg_len]; exact h)
  refine ⟨hl.1, hl.2.1, padL_len n _ (by rw [entL_len]; exact h), fun i v hi => ?_⟩
  have := entL_get ad as 0 i v (padL_get _ _ _ _ hi)
  rw [Nat.zero_add] at this
  exact hl.2.2 (i, rv ad v) this
theorem csum_real (ad : Nat → Nat → Nat) : ∀ S : AS, ((S.map (rv ad)).map fun v => v.category).sum = csum S
  | [] => rfl
  | v :: S => by
    rw [List.map_cons, List.map_cons, List.sum_cons, csum_real ad S, rv_cat]
    rfl
/-- a reference is to a cell that is there -/
def okv : AV → Prop
  | .inr (.inr q) => q.2 < cnt q.1
  | _ => True
def okA (L : AL) : Prop := ∀ (i : Nat) (v : AV), lget L i = some v → okv v
def okB (S : AS) : Prop := ∀ v ∈ S, okv v
theorem okA.set1 {L : AL} {a b : Nat} {w : AV} (h : okA L) (hw : okv w) : okA (trk b (sto1 L a w)) := by
  intro i v hi
  have hi := lget_trk hi
  unfold sto1 at hi
  by_cases e : i = a
  · subst e
    have hl := lget_lt hi
    rw [lset_len] at hl
    rw [lget_lset_self _ _ _ hl] at hi
    cases hi
    exact hw
  · rw [lget_lset_ne _ _ _ _ e] at hi
    exact h i v (lget_kil hi).1
theorem okA.set2 {L : AL} {a : Nat} {w : AV} (h : okA L) (hw : okv w) : okA (sto2 L a w) := by
  intro i v hi
  unfold sto2 at hi
  by_cases e1 : i = a + 1
  · subst e1
    have hl := lget_lt hi
    rw [lset_len] at hl
    rw [lget_lset_self _ _ _ hl] at hi
    cases hi
  rw [lget_lset_ne _ _ _ _ e1] at hi
  by_cases e : i = a
  · subst e
    have hl := lget_lt hi
    rw [lset_len] at hl
    rw [lget_lset_self _ _ _ hl] at hi
    cases hi
    exact hw
  · rw [lget_lset_ne _ _ _ _ e] at hi
    exact h i v (lget_kil hi).1
theorem okA.cut {L : AL} {k : Nat} (h : okA L) : okA (trk k L) := fun i v hi => h i v (lget_trk hi)
theorem okB.cons {v : AV} {S : AS} (hv : okv v) (h : okB S) : okB (v :: S) := fun w hw => (List.mem_cons.mp hw).elim (fun e => e ▸ hv) (h w)
theorem okB.tail {v : AV} {S : AS} (h : okB (v :: S)) : okB S := fun w hw => h w (List.mem_cons_of_mem _ hw)
theorem okB.head {v : AV} {S : AS} (h : okB (v :: S)) : okv v := h v List.mem_cons_self
theorem entL_ok : ∀ (as : List AV), okB as → ∀ (i : Nat) (v : AV), lget (entL as) i = some v → okv v
  | [], _, i, _, h => by
    have h : lget [] i = some _ := h
    rw [lget_nil] at h; cases h
  | .inl x :: r, _, 0, v, h => by cases h; exact trivial
  | .inl x :: r, hb, i + 1, v, h => entL_ok r hb.tail i v h
  | .inr (.inr x) :: r, hb, 0, v, h => by cases h; exact hb.head
  | .inr (.inr x) :: r, hb, i + 1, v, h => entL_ok r hb.tail i v h
  | .inr (.inl x) :: r, _, 0, v, h => by cases h; exact trivial
  | .inr (.inl x) :: r, _, 1, v, h => by cases h
  | .inr (.inl x) :: r, hb, i + 2, v, h => entL_ok r hb.tail i v h
theorem okA.entry {as : List AV} {n : Nat} (h : okB as) : okA (padL n (entL as)) := fun i v hi => entL_ok as h i v (padL_get _ _ _ _ hi)
theorem takA_split (ad : Nat → Nat → Nat) : ∀ (n : Nat) (S acc : AS) (as R : List AV), takA n S acc = some (as, R) → ∃ t, as = t.reverse ++ acc ∧ S = t ++ R ∧ t.length = n
  | 0, S, acc, as, R, h => by
    cases h
    exact ⟨[], rfl, rfl, rfl⟩
  | n + 1, [], acc, as, R, h => by cases h
  | n + 1, v :: S, acc, as, R, h => by
    obtain ⟨t, h1, h2, h3⟩ := takA_split ad n S (v :: acc) as R h
    refine ⟨v :: t, ?_, ?_, ?_⟩
    · rw [h1, List.reverse_cons, List.append_assoc]; rfl
    · rw [h2]; rfl
    · rw [List.length_cons, h3]
end
section
/-! THE SMALL MACHINE TELLS THE TRUTH OF THE REAL ONE: op by op -/
abbrev tysL (cy : Nat → ClassId) : List (ClassId × FieldType) := [(cy 1, .int), (cy 2, .long), (cy 3, .boolean), (cy 4, .char), (cy 5, .object RX2), (cy 6, .object RX4)]
def slnL : List Nat := [5, 6, 5, 4, 5]
def sbyL : List (List Int32) := [[112, 111, 105, 110, 116], [112, 97, 114, 105, 115, 104], [119, 97, 110, 116, 115], [108, 105, 110, 101], [99, 108, 111, 117, 100]]
def TBG : List Cond := lw_tbl.filter goodWord
theorem mem_tbg {w : Cond} {i : Nat} (h : lw_tbl[i]? = some w) (hg : goodWord w = true) : w ∈ TBG := List.mem_filter.mpr ⟨List.mem_of_getElem? h, hg⟩
/-- what holds whatever runs -/
def GW (cy : Nat → ClassId) (ad : Nat → Nat → Nat) (A : Nat → Prop) (SL : Nat) : Prop := (∀ V : Mem, va_D A (allC cy ad V)) ∧ ¬ A (ad 50 0) ∧ SL < 2 ^ 31
/-- the statics that String reads -/
def stZ (A : Nat → Prop) (s : State) (H : Heap) : Prop := va_Z "java/lang/String" "COMPACT_STRINGS" "Z" (.int 1) A s H ∧ va_Zq "jdk/internal/util/Preconditions" "SIOOBE_FORMATTER" "Ljava/util/function/BiFunction;" A s H
/-- what holds in a frame of method m that may go d calls deep -/
def CX (D : va_G) (cy : Nat → ClassId) (ad : Nat → Nat → Nat) (adV : Nat → Nat) (A : Nat → Prop) (SL : Nat) (xs : Nat → Int32) (d m : Nat) (p : Program) (R : Room) (s : State) (mid : MethodId) (args : Array Value) (c : Code) : Prop :=
  (p.tables.exec = Jvm.exec ∧ c.code = byt m ∧ c.maxLocals = nLo m ∧ s.vm.findClass (owS (ow m)) = some mid.cls ∧ ∀ w ∈ TBG, w.before args s = true) ∧ va_K D vwCl (tysL cy) s ∧ (d + 8 ≤ R.frames ∧ 64 * (d + 8) ≤ R.locals) ∧
  (vk_S 5 slnL sbyL (fun k => ad 52 k) adV A s s.heap ∧ (∀ k : Nat, k < 5 → vk_R RX7 (sidx k) (stx k) (ad 52 k) s) ∧ stZ A s s.heap) ∧ va_X (ad 50 0) SL xs s s.heap ∧ ad 50 0 < s.heap.size
def Vok (SL : Nat) (xs : Nat → Int32) (V : Mem) : Prop := V.1 50 0 = xs ∧ V.1 51 0 0 = nI SL
/-- from here the frame comes to Q -/
def PS (l : Launch) (D : va_G) (cy : Nat → ClassId) (ad : Nat → Nat → Nat) (A : Nat → Prop) (SL : Nat) (xs : Nat → Int32) (p : Program) (e : Env) (R : Room) (s : State) (mid : MethodId) (args : Array Value) (below : List Frame) (meth : Method) (c : Code) (cells slots : Nat) (Q : State → Prop) (m pc : Nat) (L : AL) (S : AS) (V : Mem) : Prop :=
  ∀ (H : Heap) (locs : List Loc) (ls : Array Slot), va_P D vwCl (allC cy ad V) H → va_S A s.heap H locs → LR ad ls (nLo m) L → okA L → okB S → Vok SL xs V → W p l e R s mid args below meth c H locs cells slots Q (F0 mid pc ls (S.map (rv ad)))
theorem cnt_lt {t i : Nat} (h : i < cnt t) : t < 53 := by
  rcases Nat.lt_or_ge t 53 with q | q
  · exact q
  · exfalso
    have e : cnt t = 0 := by
      unfold cnt
      have : Nat.blt t 53 = false := by
        cases hb : Nat.blt t 53 with
        | false => rfl
        | true => exact absurd (Nat.le_of_ble_eq_true hb) (by omega)
      rw [this]
      rfl
    omega
theorem obj_f : ∀ t, t < 53 → clsOf t ≤ 8 → t < 48 ∧ ak t = 0 ∧ (vwCl[clsOf t]?).map (fun q => q.2.2) = some (frl t).length := by decide +kernel
theorem arr_f : ∀ t, t < 53 → ak t ≠ 0 → t < 48 := by decide +kernel
def fldB (t k : Nat) : Option (Option (Nat × Option Nat)) → Bool
  | none => true
  | some none => decide (parseFieldDescriptor (TTc (clsOf t) k).2.2.1 = some (bif fz t k then .boolean else .int))
  | some (some (t', none)) => decide (t' < 48 ∧ cnt t ≤ cnt t')
  | some (some (t', some c)) => decide (t' < 48 ∧ c < cnt t')
theorem fld_f : ∀ t, t < 53 → clsOf t ≤ 8 → ∀ k, k < 24 → fldB t k (nth (frl t) k) = true := by decide +kernel
theorem frl_len : ∀ t, t < 53 → (frl t).length ≤ 24 := by decide +kernel
theorem flk_b : ∀ q ∈ flk, q.2.2.1 ≤ 8 := by decide +kernel
set_option maxRecDepth 100000 in
theorem in_c0 : ∀ w ∈ wsX00, w ∈ TBG := fun w h => List.mem_filter.mpr ((by decide +kernel : ∀ w ∈ wsX00, w ∈ lw_tbl ∧ goodWord w = true) w h)
set_option maxRecDepth 100000 in
theorem in_c1 : ∀ w ∈ wsX10, w ∈ TBG := fun w h => List.mem_filter.mpr ((by decide +kernel : ∀ w ∈ wsX10, w ∈ lw_tbl ∧ goodWord w = true) w h)
set_option maxRecDepth 100000 in
theorem in_c2 : ∀ w ∈ wsX20, w ∈ TBG := fun w h => List.mem_filter.mpr ((by decide +kernel : ∀ w ∈ wsX20, w ∈ lw_tbl ∧ goodWord w = true) w h)
set_option maxRecDepth 100000 in
theorem in_c3 : ∀ w ∈ wsX30, w ∈ TBG := fun w h => List.mem_filter.mpr ((by decide +kernel : ∀ w ∈ wsX30, w ∈ lw_tbl ∧ goodWord w = true) w h)
set_option maxRecDepth 100000 in
theorem in_c4 : ∀ w ∈ wsX40, w ∈ TBG := fun w h => List.mem_filter.mpr ((by decide +kernel : ∀ w ∈ wsX40, w ∈ lw_tbl ∧ goodWord w = true) w h)
set_option maxRecDepth 100000 in
theorem in_c6 : ∀ w ∈ wsX60, w ∈ TBG := fun w h => List.mem_filter.mpr ((by decide +kernel : ∀ w ∈ wsX60, w ∈ lw_tbl ∧ goodWord w = true) w h)
set_option maxRecDepth 100000 in
theorem in_c7 : ∀ w ∈ wsX70, w ∈ TBG := fun w h => List.mem_filter.mpr ((by decide +kernel : ∀ w ∈ wsX70, w ∈ lw_tbl ∧ goodWord w = true) w h)
set_option maxRecDepth 100000 in
theorem in_c8 : ∀ w ∈ wsX80, w ∈ TBG := fun w h => List.mem_filter.mpr ((by decide +kernel : ∀ w ∈ wsX80, w ∈ lw_tbl ∧ goodWord w = true) w h)
set_option maxRecDepth 100000 in
theorem in_c9 : ∀ w ∈ wsX90, w ∈ TBG := fun w h => List.mem_filter.mpr ((by decide +kernel : ∀ w ∈ wsX90, w ∈ lw_tbl ∧ goodWord w = true) w h)
/-- of a class of the worlds: its words, its fields' types and names -/
def clsF (q : vw_C) : Prop := (∀ w ∈ u_ws q.1 q.2.1 q.2.2, w ∈ TBG) ∧ (∃ ty0 : Nat → FieldType, ∀ k, k < q.2.2 → parseFieldDescriptor (q.2.1 k).2.2.1 = some (ty0 k)) ∧ ∀ a, a < q.2.2 → ∀ b, b < q.2.2 → a ≠ b → (q.2.1 a).2.1 ≠ (q.2.1 b).2.1
theorem cls_f {ci : Nat} {q : vw_C} (h : vwCl[ci]? = some q) : clsF q := by
  have hm := List.mem_of_getElem? h
  simp only [vwCl, List.mem_cons, List.not_mem_nil, or_false] at hm
  rcases hm with rfl | rfl | rfl | rfl | rfl | rfl | rfl | rfl | rfl
  · exact ⟨in_c0, ⟨tyX0, tyX0_ok⟩, nmX0⟩
  · exact ⟨in_c1, ⟨tyX1, tyX1_ok⟩, nmX1⟩
  · exact ⟨in_c2, ⟨tyX2, tyX2_ok⟩, nmX2⟩
  · exact ⟨in_c3, ⟨tyX3, tyX3_ok⟩, nmX3⟩
  · exact ⟨in_c4, ⟨tyX4, tyX4_ok⟩, nmX4⟩
  · exact ⟨in_c6, ⟨tyX6, tyX6_ok⟩, nmX6⟩
  · exact ⟨in_c7, ⟨tyX7, tyX7_ok⟩, nmX7⟩
  · exact ⟨in_c8, ⟨tyX8, tyX8_ok⟩, nmX8⟩
  · exact ⟨in_c9, ⟨tyX9, tyX9_ok⟩, nmX9⟩
theorem any_ex {α : Type} {l : List α} {f : α → Bool} (h : l.any f = true) : ∃ q ∈ l, f q = true := List.any_eq_true.mp h
theorem Vok.set {SL : Nat} {xs : Nat → Int32} {V : Mem} {t i k : Nat} {x : Int32} {g : Nat → Nat → Nat → Int64} (h : Vok SL xs V) (ht : t < 48) : Vok SL xs (mset V.1 t i k x, g) := by
  refine ⟨?_, ?_⟩
  · rw [show (mset V.1 t i k x, g).1 50 0 = mset V.1 t i k x 50 0 from rfl, mset_ne (fun q => by omega)]
    exact h.1
  · rw [show (mset V.1 t i k x, g).1 51 0 0 = mset V.1 t i k x 51 0 0 from rfl, mset_ne (fun q => by omega)]
    exact h.2
theorem Vok.cpy {SL : Nat} {xs : Nat → Int32} {V : Mem} {t i sp t2 i2 dp n : Nat} {g : Nat → Nat → Nat → Int64} (h : Vok SL xs V) (ht : t2 < 48) : Vok SL xs (mcpy V.1 t i sp t2 i2 dp n, g) := by
  refine ⟨?_, ?_⟩
  · rw [show (mcpy V.1 t i sp t2 i2 dp n, g).1 50 0 = mcpy V.1 t i sp t2 i2 dp n 50 0 from rfl, mcpy_ne (fun q => by omega)]
    exact h.1
  · rw [show (mcpy V.1 t i sp t2 i2 dp n, g).1 51 0 0 = mcpy V.1 t i sp t2 i2 dp n 51 0 0 from rfl, mcpy_ne (fun q => by omega)]
    exact h.2
section Sound
variable {l : Launch} {D : va_G} {cy : Nat → ClassId} {ad : Nat → Nat → Nat} {adV : Nat → Nat} {A : Nat → Prop} {SL : Nat} {xs : Nat → Int32}
variable {p : Program} {e : Env} {R : Room} {s : State} {mid : MethodId} {args : Array Value} {below : List Frame} {meth : Method} {c : Code} {cells slots : Nat} {Q : State → Prop}
variable {d m pc : Nat} {L : AL} {S : AS} {V : Mem} {a b nx n : Nat} {i : Instr}
theorem s_load (hC : CX D cy ad adV A SL xs d m p R s mid args c) (hd : decode (byt m) pc = .ok (i, n)) (hi : k_load pc a b nx i n = true) {w : AV} (hw : lget L a = some w) (hk : kd w = b) (k : PS l D cy ad A SL xs p e R s mid args below meth c cells slots Q m nx L (w :: S) V) : PS l D cy ad A SL xs p e R s mid args below meth c cells slots Q m pc L S V := by
  intro H locs ls hP hS hl hA hB hV
  have K := k H locs ls hP hS hl hA (hB.cons (hA a w hw)) hV
  have hat := hl.2.2.2 a w hw
  unfold k_load at hi
  split at hi <;> first | exact absurd hi (by decide) | simp only [decide_eq_true_eq] at hi
  · obtain ⟨rfl, h2, rfl, rfl⟩ := hi
    match w, hk.trans h2, hat, K with
    | .inl x, _, hat, K => exact lv_iload_n hC.1.1 hC.1.2.1 hd rfl hat K
  · obtain ⟨rfl, h2, rfl, rfl⟩ := hi
    match w, hk.trans h2, hat, K with
    | .inl x, _, hat, K => exact lv_iload hC.1.1 hC.1.2.1 hd hat K
  · obtain ⟨rfl, h2, rfl, rfl⟩ := hi
    match w, hk.trans h2, hat, K with
    | .inr (.inr q), _, hat, K => exact lv_aload_n hC.1.1 hC.1.2.1 hd rfl hat K
  · obtain ⟨rfl, h2, rfl, rfl⟩ := hi
    match w, hk.trans h2, hat, K with
    | .inr (.inr q), _, hat, K => exact lv_aload hC.1.1 hC.1.2.1 hd hat K
  · obtain ⟨rfl, h2, rfl, rfl⟩ := hi
    match w, hk.trans h2, hat, K with
    | .inr (.inl q), _, hat, K => exact lv_lload_n hC.1.1 hC.1.2.1 hd rfl hat K
  · obtain ⟨rfl, h2, rfl, rfl⟩ := hi
    match w, hk.trans h2, hat, K with
    | .inr (.inl q), _, hat, K => exact lv_lload hC.1.1 hC.1.2.1 hd hat K
theorem s_push (hC : CX D cy ad adV A SL xs d m p R s mid args c) (hd : decode (byt m) pc = .ok (i, n)) {v : AV} (hi : k_push (ow m) pc v nx i n = true) (k : PS l D cy ad A SL xs p e R s mid args below meth c cells slots Q m nx L (v :: S) V) : PS l D cy ad A SL xs p e R s mid args below meth c cells slots Q m pc L S V := by
  intro H locs ls hP hS hl hA hB hV
  unfold k_push at hi
  split at hi <;> first | exact absurd hi (by decide) | simp only [decide_eq_true_eq, Bool.and_eq_true, Bool.or_eq_true] at hi
  · obtain ⟨rfl, rfl, rfl⟩ := hi
    exact lv_iconst hC.1.1 hC.1.2.1 hd rfl (k H locs ls hP hS hl hA (hB.cons trivial) hV)
  · obtain ⟨rfl, rfl, rfl⟩ := hi
    exact lv_bipush hC.1.1 hC.1.2.1 hd rfl (k H locs ls hP hS hl hA (hB.cons trivial) hV)
  · obtain ⟨rfl, rfl, rfl⟩ := hi
    exact lv_sipush hC.1.1 hC.1.2.1 hd rfl (k H locs ls hP hS hl hA (hB.cons trivial) hV)
  · obtain ⟨rfl, rfl, rfl⟩ := hi
    exact lv_lconst hC.1.1 hC.1.2.1 hd rfl (k H locs ls hP hS hl hA (hB.cons trivial) hV)
  · obtain ⟨⟨rfl, rfl⟩, hi | hi⟩ := hi
    · obtain ⟨q, hq, hq2⟩ := any_ex hi
      simp only [decide_eq_true_eq] at hq2
      obtain ⟨h1, rfl, rfl⟩ := hq2
      have hw := hC.1.2.2.2.2 _ (mem_tbg (clk_ok q hq) rfl)
      rw [h1] at hw
      exact lv_ldc hC.1.1 hC.1.2.1 hC.1.2.2.2.1 hw hd (k H locs ls hP hS hl hA (hB.cons trivial) hV)
    · obtain ⟨h0, hi⟩ := hi
      obtain ⟨k5, hk5, hq2⟩ := any_ex hi
      simp only [decide_eq_true_eq] at hq2
      obtain ⟨rfl, rfl⟩ := hq2
      have hk5 := List.mem_range.mp hk5
      have ho := hC.1.2.2.2.1
      rw [h0] at ho
      exact va_ldcS hC.1.1 hC.1.2.1 ho (hC.2.2.2.1.2.1 k5 hk5) hd (k H locs ls hP hS hl hA (hB.cons hk5) hV)
  · obtain ⟨⟨rfl, rfl⟩, hi⟩ := hi
    obtain ⟨q, hq, hq2⟩ := any_ex hi
    simp only [decide_eq_true_eq] at hq2
    obtain ⟨h1, rfl, rfl⟩ := hq2
    have hw := hC.1.2.2.2.2 _ (mem_tbg (clk_ok q hq) rfl)
    rw [h1] at hw
    have K := k H locs ls hP hS hl hA (hB.cons trivial) hV
    intro T hT X
    obtain ⟨t, a1, b1⟩ := K T hT X
    exact ⟨t, va_ldcwI X hC.1.1 hC.1.2.2.2.1 hw rfl (by rw [hC.1.2.1]; exact hd) t a1, b1⟩
  · obtain ⟨⟨rfl, rfl⟩, hi⟩ := hi
    obtain ⟨q, hq, hq2⟩ := any_ex hi
    simp only [decide_eq_true_eq] at hq2
    obtain ⟨h1, rfl, rfl⟩ := hq2
    have hw := hC.1.2.2.2.2 _ (mem_tbg (llk_ok q hq) rfl)
    rw [h1] at hw
    exact lv_ldc2 hC.1.1 hC.1.2.1 hC.1.2.2.2.1 hw hd (k H locs ls hP hS hl hA (hB.cons trivial) hV)
theorem cellE_obj {t j : Nat} (h : ak t = 0) : cellE cy ad t j V = .inr (clsOf t, fds ad t j V) := by
  unfold cellE
  rw [if_pos h]
theorem cellE_num {t j : Nat} (h : ak t = 1 ∨ ak t = 3 ∨ ak t = 4) : cellE cy ad t j V = .inl (cy (ak t), alen t, .inl (V.1 t j)) := by
  unfold cellE
  rcases h with h | h | h <;> rw [h] <;> rfl
theorem cellE_lng {t j : Nat} (h : ak t = 2) : cellE cy ad t j V = .inl (cy 2, alen t, .inr (.inl (V.2 t j))) := by
  unfold cellE
  rw [h]
  rfl
theorem nth_some_of_get {α : Type} {l : List α} {k : Nat} (h : k < l.length) : ∃ x, nth l k = some x := ⟨l[k], by rw [nth_get]; exact List.getElem?_eq_getElem h⟩
theorem fldv_ok {t j k : Nat} {w : AV} (hj : j < cnt t) (hc : clsOf t ≤ 8) (h : fldv t k j V = some w) : okv w := by
  have ht := cnt_lt hj
  have hk : k < 24 := by
    have h2 := frl_len t ht
    unfold fldv at h
    cases hn : nth (frl t) k with
    | none => rw [hn] at h; cases h
    | some x =>
      rw [nth_get] at hn
      have := (List.getElem?_eq_some_iff.mp hn).1
      omega
  have hf := fld_f t ht hc k hk
  unfold fldv at h
  generalize nth (frl t) k = o at hf h
  match o, hf, h with
  | some none, _, h => cases h; exact trivial
  | some (some (t', none)), hf, h =>
    cases h
    exact Nat.lt_of_lt_of_le hj (of_decide_eq_true hf).2
  | some (some (t', some c)), hf, h =>
    cases h
    exact (of_decide_eq_true hf).2
theorem s_get (hC : CX D cy ad adV A SL xs d m p R s mid args c) (hd : decode (byt m) pc = .ok (i, n)) (hi : k_get (ow m) pc a b nx i n = true) {t j : Nat} {w : AV} (hc : clsOf t = a) (hv : fldv t b j V = some w) (k : PS l D cy ad A SL xs p e R s mid args below meth c cells slots Q m nx L (w :: S) V) : PS l D cy ad A SL xs p e R s mid args below meth c cells slots Q m pc L (.inr (.inr (t, j)) :: S) V := by
  intro H locs ls hP hS hl hA hB hV
  have hj : j < cnt t := hB.head
  have ht := cnt_lt hj
  unfold k_get at hi
  split at hi <;> first | exact absurd hi (by decide) | simp only [decide_eq_true_eq, Bool.and_eq_true] at hi
  obtain ⟨⟨rfl, rfl⟩, hi⟩ := hi
  obtain ⟨q, hq, hq2⟩ := any_ex hi
  simp only [decide_eq_true_eq] at hq2
  obtain ⟨h1, rfl, h3, h4⟩ := hq2
  have hw := hC.1.2.2.2.2 _ (mem_tbg (flk_ok q hq) rfl)
  have hle := flk_b q hq
  rw [h1, h3, h4] at hw
  rw [h3] at hle
  subst hc
  obtain ⟨t48, hak, hN⟩ := obj_f t ht hle
  cases hcl : vwCl[clsOf t]? with
  | none => rw [hcl] at hN; cases hN
  | some r =>
    obtain ⟨C, T, N⟩ := r
    rw [hcl] at hN
    have hN : N = (frl t).length := Option.some.inj hN
    have hTT : TTc (clsOf t) b = T b := by
      unfold TTc
      rw [nth_get, hcl]
      rfl
    rw [hTT] at hw
    obtain ⟨q0, hq0⟩ := allP_at t48 hj
    have hcell := allC_at (cy := cy) (ad := ad) (V := V) hq0
    rw [cellE_obj hak] at hcell
    have hb : b < N := by
      have := (List.getElem?_eq_some_iff.mp (fds_at (ad := ad) hv)).1
      rw [fds_len] at this
      omega
    exact va_get (D := D) (C := C) (T := T) (N := N) hC.1.1 hC.1.2.1 hC.1.2.2.2.2 (cls_f hcl).1 hC.1.2.2.2.1 hC.2.1 hP q0 hcell hcl b hb hw (fun _ h9 => h9) (fds_at hv) hd (k H locs ls hP hS hl hA (hB.tail.cons (fldv_ok hj hle hv)) hV)
theorem s_put (G : GW cy ad A SL) (hC : CX D cy ad adV A SL xs d m p R s mid args c) (hd : decode (byt m) pc = .ok (i, n)) (hi : k_put (ow m) pc a b nx i n = true) {t j : Nat} {x : Int32} (hc : clsOf t = a) (hn : nth (frl t) b = some none) (hz : fz t b = true → x = 0 ∨ x = 1) (k : PS l D cy ad A SL xs p e R s mid args below meth c cells slots Q m nx L S (mset V.1 t j b x, V.2)) : PS l D cy ad A SL xs p e R s mid args below meth c cells slots Q m pc L (.inl x :: .inr (.inr (t, j)) :: S) V := by
  intro H locs ls hP hS hl hA hB hV
  have hj : j < cnt t := hB.tail.head
  have ht := cnt_lt hj
  unfold k_put at hi
  split at hi <;> first | exact absurd hi (by decide) | simp only [decide_eq_true_eq, Bool.and_eq_true] at hi
  obtain ⟨⟨rfl, rfl, hfin⟩, hi⟩ := hi
  obtain ⟨q, hq, hq2⟩ := any_ex hi
  simp only [decide_eq_true_eq] at hq2
  obtain ⟨h1, rfl, h3, h4⟩ := hq2
  have hw := hC.1.2.2.2.2 _ (mem_tbg (flk_ok q hq) rfl)
  have hle := flk_b q hq
  rw [h1, h3, h4] at hw
  rw [h3] at hle
  subst hc
  obtain ⟨t48, hak, hN⟩ := obj_f t ht hle
  cases hcl : vwCl[clsOf t]? with
  | none => rw [hcl] at hN; cases hN
  | some r =>
    obtain ⟨C, T, N⟩ := r
    rw [hcl] at hN
    have hN : N = (frl t).length := Option.some.inj hN
    have hTT : TTc (clsOf t) b = T b := by
      unfold TTc
      rw [nth_get, hcl]
      rfl
    have hb : b < (frl t).length := by
      rw [nth_get] at hn
      exact (List.getElem?_eq_some_iff.mp hn).1
    have hb24 : b < 24 := by
      have := frl_len t ht
      omega
    have hty := fld_f t ht hle b hb24
    rw [hn] at hty
    have hty : parseFieldDescriptor (TTc (clsOf t) b).2.2.1 = some (bif fz t b then .boolean else .int) := of_decide_eq_true hty
    rw [hTT] at hw hfin hty
    obtain ⟨q0, hq0⟩ := allP_at t48 hj
    have hcell := allC_at (cy := cy) (ad := ad) (V := V) hq0
    rw [cellE_obj hak] at hcell
    obtain ⟨hin, ⟨ty0, hty0⟩, hnm⟩ := cls_f hcl
    have hnar : narrow (bif fz t b then .boolean else .int) (.int x) = .int x ∧ fits (bif fz t b then .boolean else .int) (.int x) = true := by
      cases hf : fz t b with
      | false => exact ⟨rfl, rfl⟩
      | true =>
        rcases hz hf with rfl | rfl
        · exact ⟨rfl, rfl⟩
        · exact ⟨rfl, rfl⟩
    have hset : ∀ e : va_E, e = .inr (clsOf t, (fds ad t j V).set b (.int x)) → (allC cy ad V).set q0 (ad t j, e) = allC cy ad (mset V.1 t j b x, V.2) := fun e he =>
      allC_set (V' := (mset V.1 t j b x, V.2)) hq0 (fun t' i' h => mset_ne h) (fun _ _ _ => rfl) (by rw [he, cellE_obj hak, fds_set hn])
    refine va_put (D := D) (C := C) (T := T) (N := N) (v := .int x) hC.1.1 hC.1.2.1 hC.1.2.2.2.2 hin ty0 hty0 hnm hC.1.2.2.2.1 hC.2.1 hP (G.1 V) hS q0 hcell hcl b (by omega) hw (fun _ h9 => h9) hfin hty hnar.1 hnar.2 (by rw [fds_len]; exact hb) hd (fun H1 locs1 hP1 hD1 hS1 => ?_)
    rw [hset _ rfl] at hP1
    exact k H1 locs1 ls hP1 hS1 hl hA hB.tail.tail (hV.set t48)
theorem s_ibin (hC : CX D cy ad adV A SL xs d m p R s mid args c) (hd : decode (byt m) pc = .ok (i, n)) (hi : k_ibin pc a nx i n = true) {x y : Int32} (k : PS l D cy ad A SL xs p e R s mid args below meth c cells slots Q m nx L (.inl (ibin a x y) :: S) V) : PS l D cy ad A SL xs p e R s mid args below meth c cells slots Q m pc L (.inl y :: .inl x :: S) V := by
  intro H locs ls hP hS hl hA hB hV
  have K := k H locs ls hP hS hl hA (hB.tail.tail.cons trivial) hV
  unfold k_ibin at hi
  split at hi <;> first | exact absurd hi (by decide) | simp only [decide_eq_true_eq] at hi
  · obtain ⟨rfl, rfl, rfl⟩ := hi; exact lv_iadd hC.1.1 hC.1.2.1 hd K
  · obtain ⟨rfl, rfl, rfl⟩ := hi; exact lv_isub hC.1.1 hC.1.2.1 hd K
  · obtain ⟨rfl, rfl, rfl⟩ := hi; exact lv_imul hC.1.1 hC.1.2.1 hd K
  · obtain ⟨rfl, rfl, rfl⟩ := hi; exact lv_iand hC.1.1 hC.1.2.1 hd K
  · obtain ⟨rfl, rfl, rfl⟩ := hi; exact lv_ior hC.1.1 hC.1.2.1 hd K
  · obtain ⟨rfl, rfl, rfl⟩ := hi; exact lv_ixor hC.1.1 hC.1.2.1 hd K
  · obtain ⟨rfl, rfl, rfl⟩ := hi; exact lv_ishl hC.1.1 hC.1.2.1 hd K
  · obtain ⟨rfl, rfl, rfl⟩ := hi; exact lv_ishr hC.1.1 hC.1.2.1 hd K
  · obtain ⟨rfl, rfl, rfl⟩ := hi; exact lv_iushr hC.1.1 hC.1.2.1 hd rfl K
theorem s_lbin (hC : CX D cy ad adV A SL xs d m p R s mid args c) (hd : decode (byt m) pc = .ok (i, n)) (hi : k_lbin pc a nx i n = true) {x y : Int64} (k : PS l D cy ad A SL xs p e R s mid args below meth c cells slots Q m nx L (.inr (.inl (lbin a x y)) :: S) V) : PS l D cy ad A SL xs p e R s mid args below meth c cells slots Q m pc L (.inr (.inl y) :: .inr (.inl x) :: S) V := by
  intro H locs ls hP hS hl hA hB hV
  have K := k H locs ls hP hS hl hA (hB.tail.tail.cons trivial) hV
  unfold k_lbin at hi
  split at hi <;> first | exact absurd hi (by decide) | simp only [decide_eq_true_eq] at hi
  · obtain ⟨rfl, rfl, rfl⟩ := hi; exact lv_ladd hC.1.1 hC.1.2.1 hd K
  · obtain ⟨rfl, rfl, rfl⟩ := hi; exact lv_lmul hC.1.1 hC.1.2.1 hd K
  · obtain ⟨rfl, rfl, rfl⟩ := hi; exact lv_land hC.1.1 hC.1.2.1 hd K
  · obtain ⟨rfl, rfl, rfl⟩ := hi; exact lv_lor hC.1.1 hC.1.2.1 hd K
theorem s_unry (hC : CX D cy ad adV A SL xs d m p R s mid args c) (hd : decode (byt m) pc = .ok (i, n)) (hi : k_unry pc a nx i n = true) {v w : AV} (hv : unry a v = some w) (k : PS l D cy ad A SL xs p e R s mid args below meth c cells slots Q m nx L (w :: S) V) : PS l D cy ad A SL xs p e R s mid args below meth c cells slots Q m pc L (v :: S) V := by
  intro H locs ls hP hS hl hA hB hV
  have hw : okv w := by
    unfold unry at hv
    split at hv
    · split at hv
      · cases hv; exact trivial
      · split at hv
        · cases hv; exact trivial
        · split at hv
          · cases hv; exact trivial
          · split at hv
            · cases hv; exact trivial
            · cases hv
    · split at hv
      · cases hv; exact trivial
      · cases hv
    · cases hv
  have K := k H locs ls hP hS hl hA (hB.tail.cons hw) hV
  unfold k_unry at hi
  split at hi <;> first | exact absurd hi (by decide) | simp only [decide_eq_true_eq] at hi
  · obtain ⟨rfl, rfl, rfl⟩ := hi
    match v, hv, K with
    | .inl x, hv, K => cases hv; exact lv_ineg hC.1.1 hC.1.2.1 hd K
  · obtain ⟨rfl, rfl, rfl⟩ := hi
    match v, hv, K with
    | .inl x, hv, K => cases hv; exact lv_i2l hC.1.1 hC.1.2.1 hd rfl K
  · obtain ⟨rfl, rfl, rfl⟩ := hi
    match v, hv, K with
    | .inr (.inl x), hv, K => cases hv; exact lv_l2i hC.1.1 hC.1.2.1 hd rfl K
  · obtain ⟨rfl, rfl, rfl⟩ := hi
    match v, hv, K with
    | .inl x, hv, K => cases hv; exact lv_i2b hC.1.1 hC.1.2.1 hd rfl K
  · obtain ⟨rfl, rfl, rfl⟩ := hi
    match v, hv, K with
    | .inl x, hv, K => cases hv; exact lv_i2s hC.1.1 hC.1.2.1 hd rfl K
theorem s_goto (hC : CX D cy ad adV A SL xs d m p R s mid args c) (hd : decode (byt m) pc = .ok (i, n)) (hi : k_goto pc b i n = true) (k : PS l D cy ad A SL xs p e R s mid args below meth c cells slots Q m b (trk a L) S V) : PS l D cy ad A SL xs p e R s mid args below meth c cells slots Q m pc L S V := by
  intro H locs ls hP hS hl hA hB hV
  unfold k_goto at hi
  split at hi <;> first | exact absurd hi (by decide) | simp only [decide_eq_true_eq] at hi
  obtain ⟨rfl, h2⟩ := hi
  exact lv_goto hC.1.1 hC.1.2.1 hd h2 (k H locs ls hP hS hl.cut hA.cut hB hV)
theorem s_sto1 (hC : CX D cy ad adV A SL xs d m p R s mid args c) (hd : decode (byt m) pc = .ok (i, n)) (hi : k_sto1 pc a nx i n = true) (hn : a < nLo m) {x : Int32} (k : PS l D cy ad A SL xs p e R s mid args below meth c cells slots Q m nx (trk b (sto1 L a (.inl x))) S V) : PS l D cy ad A SL xs p e R s mid args below meth c cells slots Q m pc L (.inl x :: S) V := by
  intro H locs ls hP hS hl hA hB hV
  unfold k_sto1 at hi
  split at hi <;> first | exact absurd hi (by decide) | simp only [decide_eq_true_eq] at hi
  · obtain ⟨rfl, rfl, rfl⟩ := hi
    exact lv_istore_n hC.1.1 hC.1.2.1 hd rfl hl.has hn rfl (fun ls' h' => k H locs ls' hP hS (hl.set1 h') (hA.set1 trivial) hB.tail hV)
  · obtain ⟨rfl, rfl, rfl⟩ := hi
    exact lv_istore hC.1.1 hC.1.2.1 hd hl.has hn rfl (fun ls' h' => k H locs ls' hP hS (hl.set1 h') (hA.set1 trivial) hB.tail hV)
theorem s_stoA (hC : CX D cy ad adV A SL xs d m p R s mid args c) (hd : decode (byt m) pc = .ok (i, n)) (hi : k_stoA pc a nx i n = true) (hn : a < nLo m) {q : Nat × Nat} (k : PS l D cy ad A SL xs p e R s mid args below meth c cells slots Q m nx (trk b (sto1 L a (.inr (.inr q)))) S V) : PS l D cy ad A SL xs p e R s mid args below meth c cells slots Q m pc L (.inr (.inr q) :: S) V := by
  intro H locs ls hP hS hl hA hB hV
  unfold k_stoA at hi
  split at hi <;> first | exact absurd hi (by decide) | simp only [decide_eq_true_eq] at hi
  · obtain ⟨rfl, rfl, rfl⟩ := hi
    exact lv_astore_n hC.1.1 hC.1.2.1 hd rfl hl.has hn rfl (fun ls' h' => k H locs ls' hP hS (LR.set1 (w := .inr (.inr q)) hl h') (hA.set1 hB.head) hB.tail hV)
  · obtain ⟨rfl, rfl, rfl⟩ := hi
    exact lv_astore hC.1.1 hC.1.2.1 hd hl.has hn rfl (fun ls' h' => k H locs ls' hP hS (LR.set1 (w := .inr (.inr q)) hl h') (hA.set1 hB.head) hB.tail hV)
theorem s_sto2 (hC : CX D cy ad adV A SL xs d m p R s mid args c) (hd : decode (byt m) pc = .ok (i, n)) (hi : k_sto2 pc a nx i n = true) (hn : a + 1 < nLo m) {x : Int64} (k : PS l D cy ad A SL xs p e R s mid args below meth c cells slots Q m nx (sto2 L a (.inr (.inl x))) S V) : PS l D cy ad A SL xs p e R s mid args below meth c cells slots Q m pc L (.inr (.inl x) :: S) V := by
  intro H locs ls hP hS hl hA hB hV
  unfold k_sto2 at hi
  split at hi <;> first | exact absurd hi (by decide) | simp only [decide_eq_true_eq] at hi
  · obtain ⟨rfl, rfl, rfl⟩ := hi
    exact lv_lstore_n hC.1.1 hC.1.2.1 hd rfl hl.has hn rfl (fun ls' h' => k H locs ls' hP hS (LR.set2 (w := .inr (.inl x)) hl h') (hA.set2 trivial) hB.tail hV)
  · obtain ⟨rfl, rfl, rfl⟩ := hi
    exact lv_lstore hC.1.1 hC.1.2.1 hd hl.has hn rfl (fun ls' h' => k H locs ls' hP hS (LR.set2 (w := .inr (.inl x)) hl h') (hA.set2 trivial) hB.tail hV)
end Sound
end
section
set_option maxRecDepth 100000 in
theorem math_ok : Cond.static Lib.Math.max.name ∈ TBG ∧ Cond.static Lib.Math.min.name ∈ TBG ∧ Cond.static Lib.Math.abs.name ∈ TBG ∧ Cond.static Lib.MathLoose.max_long.x ∈ TBG ∧ Cond.static Lib.MathLoose.min_long.x ∈ TBG ∧ Cond.initialized "java/lang/Math" ∈ TBG ∧ Cond.code Lib.Math.max.name Lib.Math.max.code 2 (some .int) ∈ TBG ∧ Cond.code Lib.Math.min.name Lib.Math.min.code 2 (some .int) ∈ TBG ∧ Cond.code Lib.Math.abs.name Lib.Math.abs.code 1 (some .int) ∈ TBG ∧ Cond.code Lib.MathLoose.max_long.x Lib.MathLoose.max_long.code 4 (some .long) ∈ TBG ∧ Cond.code Lib.MathLoose.min_long.x Lib.MathLoose.min_long.code 4 (some .long) ∈ TBG :=
  ⟨mem_tbg (i := 493) (by decide +kernel) rfl, mem_tbg (i := 785) (by decide +kernel) rfl, mem_tbg (i := 482) (by decide +kernel) rfl, mem_tbg (i := 1460) (by decide +kernel) rfl, mem_tbg (i := 1457) (by decide +kernel) rfl, mem_tbg (i := 111) (by decide +kernel) rfl, mem_tbg (i := 494) rfl rfl, mem_tbg (i := 786) rfl rfl, mem_tbg (i := 483) rfl rfl, mem_tbg (i := 1461) rfl rfl, mem_tbg (i := 1458) rfl rfl⟩
section Sound
variable {l : Launch} {D : va_G} {cy : Nat → ClassId} {ad : Nat → Nat → Nat} {adV : Nat → Nat} {A : Nat → Prop} {SL : Nat} {xs : Nat → Int32}
variable {p : Program} {e : Env} {R : Room} {s : State} {mid : MethodId} {args : Array Value} {below : List Frame} {meth : Method} {c : Code} {cells slots : Nat} {Q : State → Prop}
variable {d m pc : Nat} {L : AL} {S : AS} {V : Mem} {a b nx n : Nat} {i : Instr}
theorem nfw : nativeFrameWords "java/lang/System" "arraycopy" 5 ≤ 300 := by decide +kernel
theorem i32_nlt {x y : Int32} : ¬ x < y ↔ y ≤ x := Int32.not_lt
theorem i32_nle {x y : Int32} : ¬ x ≤ y ↔ y < x := Int32.not_le
theorem icmp_inv (h : k_icmp pc a b nx i n = true) : ∃ (cc : ClassFile.Cond) (off : Int), i = .if_icmp cc off ∧ n = 3 ∧ nx = pc + 3 ∧ (pc : Int) + off = (b : Int) ∧ cnd cc = a := by
  unfold k_icmp at h
  split at h
  · exact ⟨_, _, rfl, of_decide_eq_true h⟩
  · cases h
theorem s_icmp (hC : CX D cy ad adV A SL xs d m p R s mid args c) (hd : decode (byt m) pc = .ok (i, n)) (hi : k_icmp pc a b nx i n = true) {x y : Int32} (k : o_icmp (fun pc' L' S' V' => PS l D cy ad A SL xs p e R s mid args below meth c cells slots Q m pc' L' S' V') False a b nx L (.inl y :: .inl x :: S) V) : PS l D cy ad A SL xs p e R s mid args below meth c cells slots Q m pc L (.inl y :: .inl x :: S) V := by
  intro H locs ls hP hS hl hA hB hV
  have hB2 := hB.tail.tail
  have U : ∀ {q : Nat}, PS l D cy ad A SL xs p e R s mid args below meth c cells slots Q m q L S V → W p l e R s mid args below meth c H locs cells slots Q (F0 mid q ls (S.map (rv ad))) := fun h => h H locs ls hP hS hl hA hB2 hV
  obtain ⟨cc, off, rfl, rfl, rfl, h2, rfl⟩ := icmp_inv hi
  unfold o_icmp at k
  cases cc with
  | eq =>
    have k : (if x = y then PS l D cy ad A SL xs p e R s mid args below meth c cells slots Q m b L S V else PS l D cy ad A SL xs p e R s mid args below meth c cells slots Q m (pc + 3) L S V) := k
    exact lv_icmp_eq hC.1.1 hC.1.2.1 hd h2 (fun h => U (by rw [if_pos h] at k; exact k)) (fun h => U (by rw [if_neg h] at k; exact k))
  | ne =>
    have k : (if x = y then PS l D cy ad A SL xs p e R s mid args below meth c cells slots Q m (pc + 3) L S V else PS l D cy ad A SL xs p e R s mid args below meth c cells slots Q m b L S V) := k
    exact lv_icmp_ne hC.1.1 hC.1.2.1 hd h2 (fun h => U (by rw [if_neg h] at k; exact k)) (fun h => U (by rw [if_pos h] at k; exact k))
  | lt =>
    have k : (if x < y then PS l D cy ad A SL xs p e R s mid args below meth c cells slots Q m b L S V else PS l D cy ad A SL xs p e R s mid args below meth c cells slots Q m (pc + 3) L S V) := k
    exact lv_icmp_lt hC.1.1 hC.1.2.1 hd h2 (fun h => U (by rw [if_pos h] at k; exact k)) (fun h => U (by rw [if_neg h] at k; exact k))
  | ge =>
    have k : (if x < y then PS l D cy ad A SL xs p e R s mid args below meth c cells slots Q m (pc + 3) L S V else PS l D cy ad A SL xs p e R s mid args below meth c cells slots Q m b L S V) := k
    exact lv_icmp_ge hC.1.1 hC.1.2.1 hd h2 (fun h => U (by rw [if_neg (i32_nlt.mpr h)] at k; exact k)) (fun h => U (by rw [if_pos (i32_nle.mp h)] at k; exact k))
  | gt =>
    have k : (if y < x then PS l D cy ad A SL xs p e R s mid args below meth c cells slots Q m b L S V else PS l D cy ad A SL xs p e R s mid args below meth c cells slots Q m (pc + 3) L S V) := k
    exact lv_icmp_gt hC.1.1 hC.1.2.1 hd h2 (fun h => U (by rw [if_pos h] at k; exact k)) (fun h => U (by rw [if_neg h] at k; exact k))
  | le =>
    have k : (if y < x then PS l D cy ad A SL xs p e R s mid args below meth c cells slots Q m (pc + 3) L S V else PS l D cy ad A SL xs p e R s mid args below meth c cells slots Q m b L S V) := k
    exact lv_icmp_le hC.1.1 hC.1.2.1 hd h2 (fun h => U (by rw [if_neg (i32_nlt.mpr h)] at k; exact k)) (fun h => U (by rw [if_pos (i32_nle.mp h)] at k; exact k))
theorem ifz_inv (h : k_ifz pc a b nx i n = true) : ∃ (cc : ClassFile.Cond) (off : Int), i = .ifCond cc off ∧ n = 3 ∧ nx = pc + 3 ∧ (pc : Int) + off = (b : Int) ∧ cnd cc = a := by
  unfold k_ifz at h
  split at h
  · exact ⟨_, _, rfl, of_decide_eq_true h⟩
  · cases h
theorem s_ifz (hC : CX D cy ad adV A SL xs d m p R s mid args c) (hd : decode (byt m) pc = .ok (i, n)) (hi : k_ifz pc a b nx i n = true) {x : Int32} (k : o_ifz (fun pc' L' S' V' => PS l D cy ad A SL xs p e R s mid args below meth c cells slots Q m pc' L' S' V') False a b nx L (.inl x :: S) V) : PS l D cy ad A SL xs p e R s mid args below meth c cells slots Q m pc L (.inl x :: S) V := by
  intro H locs ls hP hS hl hA hB hV
  have hB2 := hB.tail
  have U : ∀ {q : Nat}, PS l D cy ad A SL xs p e R s mid args below meth c cells slots Q m q L S V → W p l e R s mid args below meth c H locs cells slots Q (F0 mid q ls (S.map (rv ad))) := fun h => h H locs ls hP hS hl hA hB2 hV
  obtain ⟨cc, off, rfl, rfl, rfl, h2, rfl⟩ := ifz_inv hi
  unfold o_ifz at k
  cases cc with
  | eq =>
    have k : (if x = 0 then PS l D cy ad A SL xs p e R s mid args below meth c cells slots Q m b L S V else PS l D cy ad A SL xs p e R s mid args below meth c cells slots Q m (pc + 3) L S V) := k
    exact lv_if_eq hC.1.1 hC.1.2.1 hd h2 (fun h => U (by rw [if_pos h] at k; exact k)) (fun h => U (by rw [if_neg h] at k; exact k))
  | ne =>
    have k : (if x = 0 then PS l D cy ad A SL xs p e R s mid args below meth c cells slots Q m (pc + 3) L S V else PS l D cy ad A SL xs p e R s mid args below meth c cells slots Q m b L S V) := k
    exact lv_if_ne hC.1.1 hC.1.2.1 hd h2 (fun h => U (by rw [if_neg h] at k; exact k)) (fun h => U (by rw [if_pos h] at k; exact k))
  | lt =>
    have k : (if x < 0 then PS l D cy ad A SL xs p e R s mid args below meth c cells slots Q m b L S V else PS l D cy ad A SL xs p e R s mid args below meth c cells slots Q m (pc + 3) L S V) := k
    exact lv_if_lt hC.1.1 hC.1.2.1 hd h2 (fun h => U (by rw [if_pos h] at k; exact k)) (fun h => U (by rw [if_neg h] at k; exact k))
  | ge =>
    have k : (if x < 0 then PS l D cy ad A SL xs p e R s mid args below meth c cells slots Q m (pc + 3) L S V else PS l D cy ad A SL xs p e R s mid args below meth c cells slots Q m b L S V) := k
    exact lv_if_ge hC.1.1 hC.1.2.1 hd h2 (fun h => U (by rw [if_neg (i32_nlt.mpr h)] at k; exact k)) (fun h => U (by rw [if_pos (i32_nle.mp h)] at k; exact k))
  | gt =>
    have k : (if 0 < x then PS l D cy ad A SL xs p e R s mid args below meth c cells slots Q m b L S V else PS l D cy ad A SL xs p e R s mid args below meth c cells slots Q m (pc + 3) L S V) := k
    exact lv_if_gt hC.1.1 hC.1.2.1 hd h2 (fun h => U (by rw [if_pos h] at k; exact k)) (fun h => U (by rw [if_neg h] at k; exact k))
  | le =>
    have k : (if 0 < x then PS l D cy ad A SL xs p e R s mid args below meth c cells slots Q m (pc + 3) L S V else PS l D cy ad A SL xs p e R s mid args below meth c cells slots Q m b L S V) := k
    exact lv_if_le hC.1.1 hC.1.2.1 hd h2 (fun h => U (by rw [if_neg (i32_nlt.mpr h)] at k; exact k)) (fun h => U (by rw [if_pos (i32_nle.mp h)] at k; exact k))
theorem s_xald (hC : CX D cy ad adV A SL xs d m p R s mid args c) (hd : decode (byt m) pc = .ok (i, n)) (hi : k_xald pc a nx i n = true) {t j : Nat} {x : Int32} (hk : ak t = a) (hin : ¬ (x < 0 ∨ alen t ≤ x.toNatClampNeg)) (k : PS l D cy ad A SL xs p e R s mid args below meth c cells slots Q m nx L (.inl (V.1 t j x.toNatClampNeg) :: S) V) : PS l D cy ad A SL xs p e R s mid args below meth c cells slots Q m pc L (.inl x :: .inr (.inr (t, j)) :: S) V := by
  intro H locs ls hP hS hl hA hB hV
  have hj : j < cnt t := hB.tail.head
  have K := k H locs ls hP hS hl hA (hB.tail.tail.cons trivial) hV
  have ht := cnt_lt hj
  unfold k_xald at hi
  split at hi <;> first | exact absurd hi (by decide) | simp only [decide_eq_true_eq] at hi
  · obtain ⟨rfl, rfl, rfl⟩ := hi
    obtain ⟨q0, hq0⟩ := allP_at (arr_f t ht (by omega)) hj
    have hcell := allC_at (cy := cy) (ad := ad) (V := V) hq0
    rw [cellE_num (Or.inl hk), hk] at hcell
    exact va_iald hC.1.1 hC.1.2.1 hC.2.1 hP q0 0 hcell rfl hin hd K
  · obtain ⟨rfl, rfl, rfl⟩ := hi
    obtain ⟨q0, hq0⟩ := allP_at (arr_f t ht (by omega)) hj
    have hcell := allC_at (cy := cy) (ad := ad) (V := V) hq0
    rw [cellE_num (Or.inr (Or.inl hk)), hk] at hcell
    exact va_zald hC.1.1 hC.1.2.1 hC.2.1 hP q0 2 hcell rfl hin hd K
  · obtain ⟨rfl, rfl, rfl⟩ := hi
    obtain ⟨q0, hq0⟩ := allP_at (arr_f t ht (by omega)) hj
    have hcell := allC_at (cy := cy) (ad := ad) (V := V) hq0
    rw [cellE_num (Or.inr (Or.inr hk)), hk] at hcell
    exact va_cald hC.1.1 hC.1.2.1 hC.2.1 hP q0 3 hcell rfl hin hd K
theorem nI_lt_in {x : Int32} (hs : SL < 2 ^ 31) (h : ¬ (x < 0 ∨ ¬ x < nI SL)) : vp_in x SL := by
  have h1 : ¬ x < 0 := fun q => h (Or.inl q)
  have h2 : x < nI SL := Classical.not_not.mp fun q => h (Or.inr q)
  rw [vp_in_iff]
  rw [Int32.lt_iff_toInt_lt, nI_toInt hs] at h2
  rw [Int32.lt_iff_toInt_lt, Int32.toInt_zero] at h1
  omega
theorem s_xscr (G : GW cy ad A SL) (hC : CX D cy ad adV A SL xs d m p R s mid args c) (hd : decode (byt m) pc = .ok (i, n)) (hi : k_xald pc 1 nx i n = true) {j : Nat} {x : Int32} (hin : ¬ (x < 0 ∨ ¬ x < V.1 51 0 0)) (k : PS l D cy ad A SL xs p e R s mid args below meth c cells slots Q m nx L (.inl (V.1 50 0 x.toNatClampNeg) :: S) V) : PS l D cy ad A SL xs p e R s mid args below meth c cells slots Q m pc L (.inl x :: .inr (.inr (50, j)) :: S) V := by
  intro H locs ls hP hS hl hA hB hV
  have hj : j < 1 := hB.tail.head
  have hj : j = 0 := by omega
  subst hj
  have K := k H locs ls hP hS hl hA (hB.tail.tail.cons trivial) hV
  rw [hV.1] at K
  rw [hV.2] at hin
  unfold k_xald at hi
  split at hi <;> first | exact absurd hi (by decide) | simp only [decide_eq_true_eq] at hi
  · obtain ⟨rfl, rfl, -⟩ := hi
    exact va_sld hC.1.1 hC.1.2.1 hC.2.2.2.2.1 hC.2.2.2.2.2 G.2.1 hS (nI_lt_in G.2.2 hin) hd K
  · exact absurd hi.2.2 (by decide)
  · exact absurd hi.2.2 (by decide)
theorem s_alen (hC : CX D cy ad adV A SL xs d m p R s mid args c) (hd : decode (byt m) pc = .ok (i, n)) (hi : k_alen pc nx i n = true) {t j : Nat} (hk : ak t = 1 ∨ ak t = 2) (k : PS l D cy ad A SL xs p e R s mid args below meth c cells slots Q m nx L (.inl (nI (alen t)) :: S) V) : PS l D cy ad A SL xs p e R s mid args below meth c cells slots Q m pc L (.inr (.inr (t, j)) :: S) V := by
  intro H locs ls hP hS hl hA hB hV
  have hj : j < cnt t := hB.head
  have K := k H locs ls hP hS hl hA (hB.tail.cons trivial) hV
  have ht := cnt_lt hj
  unfold k_alen at hi
  split at hi <;> first | exact absurd hi (by decide) | simp only [decide_eq_true_eq] at hi
  obtain ⟨rfl, rfl⟩ := hi
  obtain ⟨q0, hq0⟩ := allP_at (arr_f t ht (by omega)) hj
  have hcell := allC_at (cy := cy) (ad := ad) (V := V) hq0
  rcases hk with hk | hk
  · rw [cellE_num (Or.inl hk), hk] at hcell
    exact va_alen hC.1.1 hC.1.2.1 hC.2.1 hP q0 0 hcell (ty := .int) rfl rfl hd K
  · rw [cellE_lng hk] at hcell
    exact va_alen hC.1.1 hC.1.2.1 hC.2.1 hP q0 1 hcell (ty := .long) rfl rfl hd K
theorem s_alens (G : GW cy ad A SL) (hC : CX D cy ad adV A SL xs d m p R s mid args c) (hd : decode (byt m) pc = .ok (i, n)) (hi : k_alen pc nx i n = true) {j : Nat} (k : PS l D cy ad A SL xs p e R s mid args below meth c cells slots Q m nx L (.inl (V.1 51 0 0) :: S) V) : PS l D cy ad A SL xs p e R s mid args below meth c cells slots Q m pc L (.inr (.inr (50, j)) :: S) V := by
  intro H locs ls hP hS hl hA hB hV
  have hj : j < 1 := hB.head
  have hj : j = 0 := by omega
  subst hj
  have K := k H locs ls hP hS hl hA (hB.tail.cons trivial) hV
  rw [hV.2] at K
  unfold k_alen at hi
  split at hi <;> first | exact absurd hi (by decide) | simp only [decide_eq_true_eq] at hi
  obtain ⟨rfl, rfl⟩ := hi
  exact va_slen hC.1.1 hC.1.2.1 hC.2.2.2.2.1 hC.2.2.2.2.2 G.2.1 hS hd K
theorem upd_eq (f : Nat → Int32) (k : Nat) (x : Int32) : upd f k x = fun j => if j = k then x else f j := by
  funext j
  by_cases h : j = k
  · subst h; rw [if_pos rfl]; exact pk_us
  · rw [if_neg h]; exact pk_un h
theorem updL_eq (f : Nat → Int64) (k : Nat) (x : Int64) : vp_updL f k x = fun j => if j = k then x else f j := rfl
theorem nar_z {x : Int32} (h : x = 0 ∨ x = 1) : vp_nar .boolean x = x := by
  rcases h with rfl | rfl <;> rfl
theorem s_iast (G : GW cy ad A SL) (hC : CX D cy ad adV A SL xs d m p R s mid args c) (hd : decode (byt m) pc = .ok (i, n)) (hi : k_iast pc a nx i n = true) {t j : Nat} {x y : Int32} (hk : ak t = a) (hin : ¬ (x < 0 ∨ alen t ≤ x.toNatClampNeg)) (hz : a = 3 → y = 0 ∨ y = 1) (k : PS l D cy ad A SL xs p e R s mid args below meth c cells slots Q m nx L S (mset V.1 t j x.toNatClampNeg y, V.2)) : PS l D cy ad A SL xs p e R s mid args below meth c cells slots Q m pc L (.inl y :: .inl x :: .inr (.inr (t, j)) :: S) V := by
  intro H locs ls hP hS hl hA hB hV
  have hj : j < cnt t := hB.tail.tail.head
  have ht := cnt_lt hj
  unfold k_iast at hi
  split at hi <;> first | exact absurd hi (by decide) | simp only [decide_eq_true_eq] at hi
  · obtain ⟨rfl, rfl, rfl⟩ := hi
    have h48 := arr_f t ht (by omega)
    obtain ⟨q0, hq0⟩ := allP_at h48 hj
    have hcell := allC_at (cy := cy) (ad := ad) (V := V) hq0
    rw [cellE_num (Or.inl hk), hk] at hcell
    refine va_iast hC.1.1 hC.1.2.1 hC.2.1 hP (G.1 V) hS q0 0 hcell rfl hin hd (fun H1 locs1 hP1 hD1 hS1 => ?_)
    rw [allC_set (cy := cy) (ad := ad) (V := V) (V' := (mset V.1 t j x.toNatClampNeg y, V.2)) hq0 (fun t' i' h => mset_ne h) (fun _ _ _ => rfl) (by rw [cellE_num (Or.inl hk), hk, upd_eq]; show _ = Sum.inl (cy 1, alen t, Sum.inl (mset V.1 t j x.toNatClampNeg y t j)); rw [mset_at])] at hP1
    exact k H1 locs1 ls hP1 hS1 hl hA hB.tail.tail.tail (hV.set h48)
  · obtain ⟨rfl, rfl, rfl⟩ := hi
    have h48 := arr_f t ht (by omega)
    obtain ⟨q0, hq0⟩ := allP_at h48 hj
    have hcell := allC_at (cy := cy) (ad := ad) (V := V) hq0
    rw [cellE_num (Or.inr (Or.inl hk)), hk] at hcell
    refine va_zast hC.1.1 hC.1.2.1 hC.2.1 hP (G.1 V) hS q0 2 hcell rfl hin hd (fun H1 locs1 hP1 hD1 hS1 => ?_)
    rw [allC_set (cy := cy) (ad := ad) (V := V) (V' := (mset V.1 t j x.toNatClampNeg y, V.2)) hq0 (fun t' i' h => mset_ne h) (fun _ _ _ => rfl) (by rw [cellE_num (Or.inr (Or.inl hk)), hk, upd_eq, nar_z (hz rfl)]; show _ = Sum.inl (cy 3, alen t, Sum.inl (mset V.1 t j x.toNatClampNeg y t j)); rw [mset_at])] at hP1
    exact k H1 locs1 ls hP1 hS1 hl hA hB.tail.tail.tail (hV.set h48)
theorem s_lald (hC : CX D cy ad adV A SL xs d m p R s mid args c) (hd : decode (byt m) pc = .ok (i, n)) (hi : k_lald pc nx i n = true) {t j : Nat} {x : Int32} (hk : ak t = 2) (hin : ¬ (x < 0 ∨ alen t ≤ x.toNatClampNeg)) (k : PS l D cy ad A SL xs p e R s mid args below meth c cells slots Q m nx L (.inr (.inl (V.2 t j x.toNatClampNeg)) :: S) V) : PS l D cy ad A SL xs p e R s mid args below meth c cells slots Q m pc L (.inl x :: .inr (.inr (t, j)) :: S) V := by
  intro H locs ls hP hS hl hA hB hV
  have hj : j < cnt t := hB.tail.head
  have K := k H locs ls hP hS hl hA (hB.tail.tail.cons trivial) hV
  have ht := cnt_lt hj
  unfold k_lald at hi
  split at hi <;> first | exact absurd hi (by decide) | simp only [decide_eq_true_eq] at hi
  obtain ⟨rfl, rfl⟩ := hi
  obtain ⟨q0, hq0⟩ := allP_at (arr_f t ht (by omega)) hj
  have hcell := allC_at (cy := cy) (ad := ad) (V := V) hq0
  rw [cellE_lng hk] at hcell
  exact va_lald hC.1.1 hC.1.2.1 hC.2.1 hP q0 1 hcell rfl hin hd K
theorem s_last (G : GW cy ad A SL) (hC : CX D cy ad adV A SL xs d m p R s mid args c) (hd : decode (byt m) pc = .ok (i, n)) (hi : k_last pc nx i n = true) {t j : Nat} {x : Int32} {y : Int64} (hk : ak t = 2) (hin : ¬ (x < 0 ∨ alen t ≤ x.toNatClampNeg)) (k : PS l D cy ad A SL xs p e R s mid args below meth c cells slots Q m nx L S (V.1, mset V.2 t j x.toNatClampNeg y)) : PS l D cy ad A SL xs p e R s mid args below meth c cells slots Q m pc L (.inr (.inl y) :: .inl x :: .inr (.inr (t, j)) :: S) V := by
  intro H locs ls hP hS hl hA hB hV
  have hj : j < cnt t := hB.tail.tail.head
  have ht := cnt_lt hj
  unfold k_last at hi
  split at hi <;> first | exact absurd hi (by decide) | simp only [decide_eq_true_eq] at hi
  obtain ⟨rfl, rfl⟩ := hi
  have h48 := arr_f t ht (by omega)
  obtain ⟨q0, hq0⟩ := allP_at h48 hj
  have hcell := allC_at (cy := cy) (ad := ad) (V := V) hq0
  rw [cellE_lng hk] at hcell
  refine va_last hC.1.1 hC.1.2.1 hC.2.1 hP (G.1 V) hS q0 1 hcell rfl hin hd (fun H1 locs1 hP1 hD1 hS1 => ?_)
  rw [allC_set (cy := cy) (ad := ad) (V := V) (V' := (V.1, mset V.2 t j x.toNatClampNeg y)) hq0 (fun _ _ _ => rfl) (fun t' i' h => mset_ne h) (by rw [cellE_lng hk, updL_eq]; show _ = Sum.inl (cy 2, alen t, Sum.inr (Sum.inl (mset V.2 t j x.toNatClampNeg y t j))); rw [mset_at])] at hP1
  exact k H1 locs1 ls hP1 hS1 hl hA hB.tail.tail.tail hV
theorem s_aald4 (hC : CX D cy ad adV A SL xs d m p R s mid args c) (hd : decode (byt m) pc = .ok (i, n)) (hi : k_aald pc nx i n = true) {j : Nat} {x : Int32} (hin : ¬ (x < 0 ∨ 6 ≤ x.toNatClampNeg)) (k : PS l D cy ad A SL xs p e R s mid args below meth c cells slots Q m nx L (.inr (.inr (5, x.toNatClampNeg + 6 * j)) :: S) V) : PS l D cy ad A SL xs p e R s mid args below meth c cells slots Q m pc L (.inl x :: .inr (.inr (4, j)) :: S) V := by
  intro H locs ls hP hS hl hA hB hV
  have hj : j < cnt 4 := hB.tail.head
  have hj3 : j < 3 := hj
  have hx : x.toNatClampNeg < 6 := Nat.not_le.mp fun q => hin (Or.inr q)
  have hok : x.toNatClampNeg + 6 * j < cnt 5 := by show _ < 19; omega
  have K := k H locs ls hP hS hl hA (hB.tail.tail.cons hok) hV
  unfold k_aald at hi
  split at hi <;> first | exact absurd hi (by decide) | simp only [decide_eq_true_eq] at hi
  obtain ⟨rfl, rfl⟩ := hi
  obtain ⟨q0, hq0⟩ := allP_at (t := 4) (by decide) hj
  have hcell := allC_at (cy := cy) (ad := ad) (V := V) hq0
  have e : cellE cy ad 4 j V = .inl (cy 5, 6, .inr (.inr (.inr (.inr (fun q => some (ad 5 (q + 6 * j))))))) := rfl
  rw [e] at hcell
  exact va_aldq hC.1.1 hC.1.2.1 hC.2.1 hP q0 4 hcell (C := RX2) rfl hin hd K
theorem s_aald22 (hC : CX D cy ad adV A SL xs d m p R s mid args c) (hd : decode (byt m) pc = .ok (i, n)) (hi : k_aald pc nx i n = true) {j : Nat} {x : Int32} (hin : ¬ (x < 0 ∨ 8 ≤ x.toNatClampNeg)) (k : PS l D cy ad A SL xs p e R s mid args below meth c cells slots Q m nx L (.inr (.inr (23, x.toNatClampNeg)) :: S) V) : PS l D cy ad A SL xs p e R s mid args below meth c cells slots Q m pc L (.inl x :: .inr (.inr (22, j)) :: S) V := by
  intro H locs ls hP hS hl hA hB hV
  have hj : j < cnt 22 := hB.tail.head
  have hx : x.toNatClampNeg < 8 := Nat.not_le.mp fun q => hin (Or.inr q)
  have K := k H locs ls hP hS hl hA (hB.tail.tail.cons hx) hV
  unfold k_aald at hi
  split at hi <;> first | exact absurd hi (by decide) | simp only [decide_eq_true_eq] at hi
  obtain ⟨rfl, rfl⟩ := hi
  obtain ⟨q0, hq0⟩ := allP_at (t := 22) (by decide) hj
  have hcell := allC_at (cy := cy) (ad := ad) (V := V) hq0
  have e : cellE cy ad 22 j V = .inl (cy 6, 8, .inr (.inr (.inr (.inr (fun q => some (ad 23 q)))))) := rfl
  rw [e] at hcell
  exact va_aldq hC.1.1 hC.1.2.1 hC.2.1 hP q0 5 hcell (C := RX4) rfl hin hd K
theorem s_lcmp (hC : CX D cy ad adV A SL xs d m p R s mid args c) (hd : decode (byt m) pc = .ok (i, n)) (hi : k_lcmp pc nx i n = true) {x y : Int64} (k : PS l D cy ad A SL xs p e R s mid args below meth c cells slots Q m nx L (.inl (lg_cmp x y) :: S) V) : PS l D cy ad A SL xs p e R s mid args below meth c cells slots Q m pc L (.inr (.inl y) :: .inr (.inl x) :: S) V := by
  intro H locs ls hP hS hl hA hB hV
  unfold k_lcmp at hi
  split at hi <;> first | exact absurd hi (by decide) | simp only [decide_eq_true_eq] at hi
  obtain ⟨rfl, rfl⟩ := hi
  exact W.lcmp hC.1.1 hC.1.2.1 hd (k H locs ls hP hS hl hA (hB.tail.tail.cons trivial) hV)
theorem s_ldiv (hC : CX D cy ad adV A SL xs d m p R s mid args c) (hd : decode (byt m) pc = .ok (i, n)) (hi : k_ldiv pc nx i n = true) {x y : Int64} (hy : ¬ y = 0) (k : PS l D cy ad A SL xs p e R s mid args below meth c cells slots Q m nx L (.inr (.inl (x / y)) :: S) V) : PS l D cy ad A SL xs p e R s mid args below meth c cells slots Q m pc L (.inr (.inl y) :: .inr (.inl x) :: S) V := by
  intro H locs ls hP hS hl hA hB hV
  unfold k_ldiv at hi
  split at hi <;> first | exact absurd hi (by decide) | simp only [decide_eq_true_eq] at hi
  obtain ⟨rfl, rfl⟩ := hi
  exact lv_ldiv hC.1.1 hC.1.2.1 hd hy (k H locs ls hP hS hl hA (hB.tail.tail.cons trivial) hV)
theorem s_idiv (hC : CX D cy ad adV A SL xs d m p R s mid args c) (hd : decode (byt m) pc = .ok (i, n)) (hi : k_idiv pc a nx i n = true) {x y : Int32} (hy : ¬ y = 0) (k : PS l D cy ad A SL xs p e R s mid args below meth c cells slots Q m nx L (.inl (if a = 0 then x / y else x - x / y * y) :: S) V) : PS l D cy ad A SL xs p e R s mid args below meth c cells slots Q m pc L (.inl y :: .inl x :: S) V := by
  intro H locs ls hP hS hl hA hB hV
  have K := k H locs ls hP hS hl hA (hB.tail.tail.cons trivial) hV
  unfold k_idiv at hi
  split at hi <;> first | exact absurd hi (by decide) | simp only [decide_eq_true_eq] at hi
  · obtain ⟨rfl, rfl, rfl⟩ := hi; exact lv_idiv hC.1.1 hC.1.2.1 hd hy K
  · obtain ⟨rfl, rfl, rfl⟩ := hi; exact lv_irem hC.1.1 hC.1.2.1 hd hy K
theorem s_lshl (hC : CX D cy ad adV A SL xs d m p R s mid args c) (hd : decode (byt m) pc = .ok (i, n)) (hi : k_lshl pc nx i n = true) {x : Int64} {y : Int32} (k : PS l D cy ad A SL xs p e R s mid args below meth c cells slots Q m nx L (.inr (.inl (x <<< (y.toInt64 &&& 63))) :: S) V) : PS l D cy ad A SL xs p e R s mid args below meth c cells slots Q m pc L (.inl y :: .inr (.inl x) :: S) V := by
  intro H locs ls hP hS hl hA hB hV
  unfold k_lshl at hi
  split at hi <;> first | exact absurd hi (by decide) | simp only [decide_eq_true_eq] at hi
  obtain ⟨rfl, rfl⟩ := hi
  exact lv_lshl hC.1.1 hC.1.2.1 hd rfl (k H locs ls hP hS hl hA (hB.tail.tail.cons trivial) hV)
theorem s_dup (hC : CX D cy ad adV A SL xs d m p R s mid args c) (hd : decode (byt m) pc = .ok (i, n)) (hi : k_dup pc nx i n = true) {v : AV} (hv : ctg v = 1) (k : PS l D cy ad A SL xs p e R s mid args below meth c cells slots Q m nx L (v :: v :: S) V) : PS l D cy ad A SL xs p e R s mid args below meth c cells slots Q m pc L (v :: S) V := by
  intro H locs ls hP hS hl hA hB hV
  unfold k_dup at hi
  split at hi <;> first | exact absurd hi (by decide) | simp only [decide_eq_true_eq] at hi
  obtain ⟨rfl, rfl⟩ := hi
  exact lv_dup hC.1.1 hC.1.2.1 hd (by rw [rv_cat]; exact hv) (k H locs ls hP hS hl hA (hB.cons hB.head) hV)
theorem s_pop (hC : CX D cy ad adV A SL xs d m p R s mid args c) (hd : decode (byt m) pc = .ok (i, n)) (hi : k_pop pc nx i n = true) {v : AV} (hv : ctg v = 1) (k : PS l D cy ad A SL xs p e R s mid args below meth c cells slots Q m nx L S V) : PS l D cy ad A SL xs p e R s mid args below meth c cells slots Q m pc L (v :: S) V := by
  intro H locs ls hP hS hl hA hB hV
  unfold k_pop at hi
  split at hi <;> first | exact absurd hi (by decide) | simp only [decide_eq_true_eq] at hi
  obtain ⟨rfl, rfl⟩ := hi
  exact lv_pop hC.1.1 hC.1.2.1 hd (by rw [rv_cat]; exact hv) (k H locs ls hP hS hl hA hB.tail hV)
theorem s_dup2 (hC : CX D cy ad adV A SL xs d m p R s mid args c) (hd : decode (byt m) pc = .ok (i, n)) (hi : k_dup2 pc nx i n = true) {v w : AV} (hv : ctg v = 1) (hw : ctg w = 1) (k : PS l D cy ad A SL xs p e R s mid args below meth c cells slots Q m nx L (v :: w :: v :: w :: S) V) : PS l D cy ad A SL xs p e R s mid args below meth c cells slots Q m pc L (v :: w :: S) V := by
  intro H locs ls hP hS hl hA hB hV
  unfold k_dup2 at hi
  split at hi <;> first | exact absurd hi (by decide) | simp only [decide_eq_true_eq] at hi
  obtain ⟨rfl, rfl⟩ := hi
  exact lv_dup2_11 hC.1.1 hC.1.2.1 hd (by rw [rv_cat]; exact hv) (by rw [rv_cat]; exact hw) (k H locs ls hP hS hl hA ((hB.cons hB.tail.head).cons hB.head) hV)
theorem s_iinc (hC : CX D cy ad adV A SL xs d m p R s mid args c) (hd : decode (byt m) pc = .ok (i, n)) {v : AV} (hi : k_iinc pc a v nx i n = true) {x z : Int32} (hx : lget L a = some (.inl x)) (hv : v = .inl z) (k : PS l D cy ad A SL xs p e R s mid args below meth c cells slots Q m nx (sto1 L a (.inl (x + z))) S V) : PS l D cy ad A SL xs p e R s mid args below meth c cells slots Q m pc L S V := by
  intro H locs ls hP hS hl hA hB hV
  unfold k_iinc at hi
  split at hi <;> first | exact absurd hi (by decide) | simp only [decide_eq_true_eq] at hi
  obtain ⟨rfl, rfl, rfl, h4⟩ := hi
  have hz : z = Int32.ofInt _ := Sum.inl.inj (hv.symm.trans h4)
  have hm := prL_in ad L 0 _ _ hx
  rw [Nat.zero_add] at hm
  obtain ⟨k0, hk0⟩ := List.getElem?_of_mem hm
  have hn := lget_lt hx
  rw [hl.2.2.1] at hn
  refine lv_iinc hC.1.1 hC.1.2.1 hd hl.has hk0 (v := x + z) (by rw [hz]) hn rfl (fun ls' h' => ?_)
  exact k H locs ls' hP hS (LR.set1 (b := 0) (w := .inl (x + z)) hl h') (okA.set1 (b := 0) hA trivial) hB hV
theorem s_mat2 (hC : CX D cy ad adV A SL xs d m p R s mid args c) (hd : decode (byt m) pc = .ok (i, n)) (hi : k_math (ow m) pc (if a = 0 then 1 else 2) nx i n = true) {x y : Int32} (hcs : csum S ≤ 8) (hcl : cells ≤ R.cells) (hsl : slots ≤ R.slots) (k : PS l D cy ad A SL xs p e R s mid args below meth c cells slots Q m nx L (.inl (if a = 0 then imax x y else imin x y) :: S) V) : PS l D cy ad A SL xs p e R s mid args below meth c cells slots Q m pc L (.inl y :: .inl x :: S) V := by
  intro H locs ls hP hS hl hA hB hV
  have K := k H locs ls hP hS hl hA (hB.tail.tail.cons trivial) hV
  have hsum := csum_real ad S
  have hfr := hC.2.2.1
  unfold k_math at hi
  split at hi <;> first | exact absurd hi (by decide) | simp only [decide_eq_true_eq, Bool.and_eq_true] at hi
  obtain ⟨⟨rfl, rfl⟩, hi⟩ := hi
  obtain ⟨q, hq, hq2⟩ := any_ex hi
  simp only [decide_eq_true_eq] at hq2
  obtain ⟨h1, rfl, h3⟩ := hq2
  have hw := hC.1.2.2.2.2 _ (mem_tbg (jlk_ok q hq) rfl)
  rw [h1, h3] at hw
  by_cases ha : a = 0
  · subst ha
    exact va_mmax hC.1.1 hC.1.2.1 (hC.1.2.2.1.trans hl.1.symm) hC.1.2.2.2.1 hw (hC.1.2.2.2.2 _ math_ok.1) (hC.1.2.2.2.2 _ math_ok.2.2.2.2.2.1) (hC.1.2.2.2.2 _ math_ok.2.2.2.2.2.2.1) (by omega) (by rw [hsum]; omega) hcl hsl hd K
  · rw [if_neg ha] at K hw
    exact va_mmin hC.1.1 hC.1.2.1 (hC.1.2.2.1.trans hl.1.symm) hC.1.2.2.2.1 hw (hC.1.2.2.2.2 _ math_ok.2.1) (hC.1.2.2.2.2 _ math_ok.2.2.2.2.2.1) (hC.1.2.2.2.2 _ math_ok.2.2.2.2.2.2.2.1) (by omega) (by rw [hsum]; omega) hcl hsl hd K
theorem s_mabs (hC : CX D cy ad adV A SL xs d m p R s mid args c) (hd : decode (byt m) pc = .ok (i, n)) (hi : k_math (ow m) pc 0 nx i n = true) {x : Int32} (hcs : csum S ≤ 8) (hcl : cells ≤ R.cells) (hsl : slots ≤ R.slots) (k : PS l D cy ad A SL xs p e R s mid args below meth c cells slots Q m nx L (.inl (iabs x) :: S) V) : PS l D cy ad A SL xs p e R s mid args below meth c cells slots Q m pc L (.inl x :: S) V := by
  intro H locs ls hP hS hl hA hB hV
  have K := k H locs ls hP hS hl hA (hB.tail.cons trivial) hV
  have hsum := csum_real ad S
  have hfr := hC.2.2.1
  unfold k_math at hi
  split at hi <;> first | exact absurd hi (by decide) | simp only [decide_eq_true_eq, Bool.and_eq_true] at hi
  obtain ⟨⟨rfl, rfl⟩, hi⟩ := hi
  obtain ⟨q, hq, hq2⟩ := any_ex hi
  simp only [decide_eq_true_eq] at hq2
  obtain ⟨h1, rfl, h3⟩ := hq2
  have hw := hC.1.2.2.2.2 _ (mem_tbg (jlk_ok q hq) rfl)
  rw [h1, h3] at hw
  exact va_mabs hC.1.1 hC.1.2.1 (hC.1.2.2.1.trans hl.1.symm) hC.1.2.2.2.1 hw (hC.1.2.2.2.2 _ math_ok.2.2.1) (hC.1.2.2.2.2 _ math_ok.2.2.2.2.2.1) (hC.1.2.2.2.2 _ math_ok.2.2.2.2.2.2.2.2.1) (by omega) (by rw [hsum]; omega) hcl hsl hd K
theorem s_matJ (hC : CX D cy ad adV A SL xs d m p R s mid args c) (hd : decode (byt m) pc = .ok (i, n)) (hi : k_math (ow m) pc (if a = 0 then 3 else 4) nx i n = true) {x y : Int64} (hcs : csum S ≤ 8) (hcl : cells ≤ R.cells) (hsl : slots ≤ R.slots) (k : PS l D cy ad A SL xs p e R s mid args below meth c cells slots Q m nx L (.inr (.inl (if a = 0 then lmax x y else lmin x y)) :: S) V) : PS l D cy ad A SL xs p e R s mid args below meth c cells slots Q m pc L (.inr (.inl y) :: .inr (.inl x) :: S) V := by
  intro H locs ls hP hS hl hA hB hV
  have K := k H locs ls hP hS hl hA (hB.tail.tail.cons trivial) hV
  have hsum := csum_real ad S
  have hfr := hC.2.2.1
  unfold k_math at hi
  split at hi <;> first | exact absurd hi (by decide) | simp only [decide_eq_true_eq, Bool.and_eq_true] at hi
  obtain ⟨⟨rfl, rfl⟩, hi⟩ := hi
  obtain ⟨q, hq, hq2⟩ := any_ex hi
  simp only [decide_eq_true_eq] at hq2
  obtain ⟨h1, rfl, h3⟩ := hq2
  have hw := hC.1.2.2.2.2 _ (mem_tbg (jlk_ok q hq) rfl)
  rw [h1, h3] at hw
  by_cases ha : a = 0
  · subst ha
    exact va_mmax_long hC.1.1 hC.1.2.1 (hC.1.2.2.1.trans hl.1.symm) hC.1.2.2.2.1 hw (hC.1.2.2.2.2 _ math_ok.2.2.2.1) (hC.1.2.2.2.2 _ math_ok.2.2.2.2.2.1) (hC.1.2.2.2.2 _ math_ok.2.2.2.2.2.2.2.2.2.1) (by omega) (by rw [hsum]; omega) hcl hsl hd K
  · rw [if_neg ha] at K hw
    exact va_mmin_long hC.1.1 hC.1.2.1 (hC.1.2.2.1.trans hl.1.symm) hC.1.2.2.2.1 hw (hC.1.2.2.2.2 _ math_ok.2.2.2.2.1) (hC.1.2.2.2.2 _ math_ok.2.2.2.2.2.1) (hC.1.2.2.2.2 _ math_ok.2.2.2.2.2.2.2.2.2.2) (by omega) (by rw [hsum]; omega) hcl hsl hd K
theorem s_acpy1 (G : GW cy ad A SL) (hC : CX D cy ad adV A SL xs d m p R s mid args c) (hd : decode (byt m) pc = .ok (i, n)) (hi : k_acpy (ow m) pc a nx i n = true) {t j t2 j2 : Nat} {sp dp z : Int32} (hk : ak t = 1) (hk2 : ak t2 = 1) (hcs : csum S ≤ 8) (hg : ¬ (sp < 0 ∨ dp < 0 ∨ z < 0 ∨ alen t < sp.toNatClampNeg + z.toNatClampNeg ∨ alen t2 < dp.toNatClampNeg + z.toNatClampNeg))
    (k : PS l D cy ad A SL xs p e R s mid args below meth c cells slots Q m nx L S (mcpy V.1 t j sp.toNatClampNeg t2 j2 dp.toNatClampNeg z.toNatClampNeg, V.2)) : PS l D cy ad A SL xs p e R s mid args below meth c cells slots Q m pc L (.inl z :: .inl dp :: .inr (.inr (t2, j2)) :: .inl sp :: .inr (.inr (t, j)) :: S) V := by
  intro H locs ls hP hS hl hA hB hV
  have hj2 : j2 < cnt t2 := hB.tail.tail.head
  have hj : j < cnt t := hB.tail.tail.tail.tail.head
  have hsum := csum_real ad S
  have hfr := hC.2.2.1
  simp only [not_or] at hg
  obtain ⟨g1, g2, g3, g4, g5⟩ := hg
  unfold k_acpy at hi
  split at hi <;> first | exact absurd hi (by decide) | simp only [decide_eq_true_eq, Bool.and_eq_true] at hi
  obtain ⟨⟨rfl, rfl, -⟩, hi⟩ := hi
  obtain ⟨q, hq, hq2⟩ := any_ex hi
  simp only [decide_eq_true_eq] at hq2
  obtain ⟨h1, rfl⟩ := hq2
  have hw := hC.1.2.2.2.2 _ (mem_tbg (alk_ok q hq) rfl)
  rw [h1] at hw
  have h48 := arr_f t (cnt_lt hj) (by omega)
  have h482 := arr_f t2 (cnt_lt hj2) (by omega)
  obtain ⟨q0, hq0⟩ := allP_at h48 hj
  have hcell := allC_at (cy := cy) (ad := ad) (V := V) hq0
  rw [cellE_num (Or.inl hk), hk] at hcell
  obtain ⟨q1, hq1⟩ := allP_at h482 hj2
  have hcell1 := allC_at (cy := cy) (ad := ad) (V := V) hq1
  rw [cellE_num (Or.inl hk2), hk2] at hcell1
  refine va_copyi hC.1.1 hC.1.2.1 (hC.1.2.2.1.trans hl.1.symm) hC.1.2.2.2.1 hw (hC.1.2.2.2.2 _ (mem_tbg acp_ok.1 rfl)) (hC.1.2.2.2.2 _ (mem_tbg acp_ok.2.1 rfl)) (hC.1.2.2.2.2 _ (mem_tbg acp_ok.2.2 rfl)) hC.2.1 hP (G.1 V) hS q0 q1 0 0 (ty := .int) hcell hcell1 rfl rfl rfl g1 g2 g3 (by omega) (by omega) (fun _ _ => rfl) (by omega) (by rw [hsum]; have := nfw; omega) hd (fun H1 locs1 hP1 hD1 hS1 => ?_)
  rw [allC_set (cy := cy) (ad := ad) (V := V) (V' := (mcpy V.1 t j sp.toNatClampNeg t2 j2 dp.toNatClampNeg z.toNatClampNeg, V.2)) hq1 (fun t' i' h => mcpy_ne h) (fun _ _ _ => rfl) (by rw [cellE_num (Or.inl hk2), hk2]; show _ = Sum.inl (cy 1, alen t2, Sum.inl (mcpy V.1 t j sp.toNatClampNeg t2 j2 dp.toNatClampNeg z.toNatClampNeg t2 j2)); rw [mcpy_at])] at hP1
  exact k H1 locs1 ls hP1 hS1 hl hA hB.tail.tail.tail.tail.tail (hV.cpy h482)
theorem s_acpy2 (G : GW cy ad A SL) (hC : CX D cy ad adV A SL xs d m p R s mid args c) (hd : decode (byt m) pc = .ok (i, n)) (hi : k_acpy (ow m) pc a nx i n = true) {t j t2 j2 : Nat} {sp dp z : Int32} (hk : ak t = 2) (hk2 : ak t2 = 2) (hcs : csum S ≤ 8) (hg : ¬ (sp < 0 ∨ dp < 0 ∨ z < 0 ∨ alen t < sp.toNatClampNeg + z.toNatClampNeg ∨ alen t2 < dp.toNatClampNeg + z.toNatClampNeg))
    (k : PS l D cy ad A SL xs p e R s mid args below meth c cells slots Q m nx L S (V.1, mcpy V.2 t j sp.toNatClampNeg t2 j2 dp.toNatClampNeg z.toNatClampNeg)) : PS l D cy ad A SL xs p e R s mid args below meth c cells slots Q m pc L (.inl z :: .inl dp :: .inr (.inr (t2, j2)) :: .inl sp :: .inr (.inr (t, j)) :: S) V := by
  intro H locs ls hP hS hl hA hB hV
  have hj2 : j2 < cnt t2 := hB.tail.tail.head
  have hj : j < cnt t := hB.tail.tail.tail.tail.head
  have hsum := csum_real ad S
  have hfr := hC.2.2.1
  simp only [not_or] at hg
  obtain ⟨g1, g2, g3, g4, g5⟩ := hg
  unfold k_acpy at hi
  split at hi <;> first | exact absurd hi (by decide) | simp only [decide_eq_true_eq, Bool.and_eq_true] at hi
  obtain ⟨⟨rfl, rfl, -⟩, hi⟩ := hi
  obtain ⟨q, hq, hq2⟩ := any_ex hi
  simp only [decide_eq_true_eq] at hq2
  obtain ⟨h1, rfl⟩ := hq2
  have hw := hC.1.2.2.2.2 _ (mem_tbg (alk_ok q hq) rfl)
  rw [h1] at hw
  have h48 := arr_f t (cnt_lt hj) (by omega)
  have h482 := arr_f t2 (cnt_lt hj2) (by omega)
  obtain ⟨q0, hq0⟩ := allP_at h48 hj
  have hcell := allC_at (cy := cy) (ad := ad) (V := V) hq0
  rw [cellE_lng hk] at hcell
  obtain ⟨q1, hq1⟩ := allP_at h482 hj2
  have hcell1 := allC_at (cy := cy) (ad := ad) (V := V) hq1
  rw [cellE_lng hk2] at hcell1
  refine va_copyl hC.1.1 hC.1.2.1 (hC.1.2.2.1.trans hl.1.symm) hC.1.2.2.2.1 hw (hC.1.2.2.2.2 _ (mem_tbg acp_ok.1 rfl)) (hC.1.2.2.2.2 _ (mem_tbg acp_ok.2.1 rfl)) (hC.1.2.2.2.2 _ (mem_tbg acp_ok.2.2 rfl)) hC.2.1 hP (G.1 V) hS q0 q1 1 1 (ty := .long) hcell hcell1 rfl rfl rfl g1 g2 g3 (by omega) (by omega) (fun _ _ => rfl) (by omega) (by rw [hsum]; have := nfw; omega) hd (fun H1 locs1 hP1 hD1 hS1 => ?_)
  rw [allC_set (cy := cy) (ad := ad) (V := V) (V' := (V.1, mcpy V.2 t j sp.toNatClampNeg t2 j2 dp.toNatClampNeg z.toNatClampNeg)) hq1 (fun _ _ _ => rfl) (fun t' i' h => mcpy_ne h) (by rw [cellE_lng hk2]; show _ = Sum.inl (cy 2, alen t2, Sum.inr (Sum.inl (mcpy V.2 t j sp.toNatClampNeg t2 j2 dp.toNatClampNeg z.toNatClampNeg t2 j2))); rw [mcpy_at])] at hP1
  exact k H1 locs1 ls hP1 hS1 hl hA hB.tail.tail.tail.tail.tail hV
end Sound
end
section
theorem yM_own : ∀ b, b < NM → (yM b).cls = owS (ow b) := by decide +kernel
theorem rk_f : ∀ b, b < NM → (rk b = 0 → retT b = none) ∧ (rk b = 2 → retT b = some .long) ∧ (rk b ≠ 0 → rk b ≠ 2 → retT b = some .int ∨ retT b = some .boolean) := by decide +kernel
theorem mcl_f : ∀ b, b < NM → mcl b ≤ 8 ∨ mcl b = 99 := by decide +kernel
def wsM (b : Nat) : List Cond := Cond.code (yM b) (byt b) (nLo b) (retT b) :: TBG
def rmD (d : Nat) : Room := { frames := d + 8, cells := 0, slots := 0, locals := 64 * (d + 8) }
theorem tbg_all {w : Cond} (h : w ∈ TBG) : goodWord w = true := (List.mem_filter.mp h).2
theorem wsM_good {b : Nat} (h : MOK b) : GoodIn TBG (wsM b) := by
  intro w hw
  have hin : w ∈ TBG := by
    rcases List.mem_cons.mp hw with rfl | h2
    · exact List.mem_filter.mpr ⟨h.1, rfl⟩
    · exact h2
  exact ⟨hin, good_of_word (tbg_all hin)⟩
theorem tbg {w : Cond} (h : w ∈ lw_tbl) (hg : goodWord w = true) : w ∈ TBG := List.mem_filter.mpr ⟨h, hg⟩
/-- the world at a state -/
def WF (D : va_G) (cy : Nat → ClassId) (ad : Nat → Nat → Nat) (adV : Nat → Nat) (A : Nat → Prop) (SL : Nat) (xs : Nat → Int32) (V : Mem) (U : State) : Prop :=
  va_P D vwCl (allC cy ad V) U.heap ∧ va_K D vwCl (tysL cy) U ∧ (vk_S 5 slnL sbyL (fun k => ad 52 k) adV A U U.heap ∧ (∀ k : Nat, k < 5 → vk_R RX7 (sidx k) (stx k) (ad 52 k) U) ∧ stZ A U U.heap) ∧ va_X (ad 50 0) SL xs U U.heap ∧ ad 50 0 < U.heap.size
/-- a return stands at pc, fit for r -/
def rtI (m pc : Nat) : Option AV → Prop
  | none => decode (byt m) pc = .ok (.return_, 1) ∧ retT m = none
  | some (.inl x) => decode (byt m) pc = .ok (.ireturn, 1) ∧ (retT m = some .int ∨ retT m = some .boolean ∧ (x = 0 ∨ x = 1))
  | some (.inr (.inl _)) => decode (byt m) pc = .ok (.lreturn, 1) ∧ retT m = some .long
  | some (.inr (.inr _)) => False
section Sound
variable {l : Launch} {D : va_G} {cy : Nat → ClassId} {ad : Nat → Nat → Nat} {adV : Nat → Nat} {A : Nat → Prop} {SL : Nat} {xs : Nat → Int32}
variable {p : Program} {e : Env} {R : Room} {s : State} {mid : MethodId} {args : Array Value} {below : List Frame} {meth : Method} {c : Code} {cells slots : Nat} {Q : State → Prop}
variable {d m pc : Nat} {L : AL} {S : AS} {V : Mem} {a b nx n : Nat} {i : Instr}
theorem i32_of {z : Int} (h1 : -2000 ≤ z) (h2 : z < 2000) : (Int32.ofInt z).toInt = z := by
  rw [Int32.toInt_ofInt]
  have h3 : z.bmod (2 ^ 32) = z := by rw [Int.bmod_eq_of_le (by omega) (by omega)]
  exact h3
theorem tab_in {K : Nat → Prop} {x : Int32} {b : Nat} : ∀ (o : List Int) (lo : Int), -1000 ≤ lo → lo + o.length < 2000 → swG K x b (tabL pc lo o) →
    ((x.toInt < lo ∨ lo + o.length ≤ x.toInt) → K b) ∧ ∀ (j : Nat) (z : Int), o[j]? = some z → x.toInt = lo + j → K ((pc : Int) + z).toNat
  | [], lo, _, _, h => ⟨fun _ => h, fun j z h1 _ => by cases h1⟩
  | z0 :: r, lo, h1, h2, h => by
    unfold tabL swG at h
    rw [List.length_cons] at h2 ⊢
    by_cases hx : x = Int32.ofInt lo
    · rw [if_pos hx] at h
      have hlo : x.toInt = lo := by rw [hx]; exact i32_of (by omega) (by omega)
      refine ⟨fun q => ?_, fun j z hj hq => ?_⟩
      · exfalso; omega
      · have : j = 0 := by omega
        subst this
        cases hj
        exact h
    · rw [if_neg hx] at h
      have hne : ¬ x.toInt = lo := fun q => hx (Int32.toInt_inj.mp (by rw [i32_of (by omega) (by omega)]; exact q))
      obtain ⟨g1, g2⟩ := tab_in r (lo + 1) (by omega) (by omega) h
      refine ⟨fun q => g1 (by omega), fun j z hj hq => ?_⟩
      cases j with
      | zero => exfalso; omega
      | succ j => exact g2 j z hj (by omega)
theorem look_in {K : Nat → Prop} {x : Int32} {b : Nat} {df : Int} (hdf : (pc : Int) + df = (b : Int)) : ∀ (o : List (Int × Int)), (∀ q ∈ o, 0 ≤ (pc : Int) + q.2 ∧ -1000 ≤ q.1 ∧ q.1 < 1000) → swG K x b (o.map (fun q => (Int32.ofInt q.1, ((pc : Int) + q.2).toNat))) →
    ∃ tgt : Nat, (pc : Int) + Op.lookupswitch.offset o df x.toInt = (tgt : Int) ∧ K tgt
  | [], _, h => ⟨b, hdf, h⟩
  | q0 :: r, hq, h => by
    obtain ⟨k0, z0⟩ := q0
    have h0 := hq (k0, z0) List.mem_cons_self
    unfold List.map swG at h
    by_cases hx : x = Int32.ofInt k0
    · rw [if_pos hx] at h
      have hlo : x.toInt = k0 := by rw [hx]; exact i32_of (by omega) (by omega)
      refine ⟨((pc : Int) + z0).toNat, ?_, h⟩
      have : Op.lookupswitch.offset ((k0, z0) :: r) df x.toInt = z0 := by
        rw [hlo]
        simp [Op.lookupswitch.offset]
      rw [this]
      omega
    · rw [if_neg hx] at h
      rw [lv_osw hx (i32_of (by omega) (by omega))]
      exact look_in hdf r (fun q h9 => hq q (List.mem_cons_of_mem _ h9)) h
theorem swit_inv {sw : List (Int32 × Nat)} (h : k_swit pc b sw i n = true) :
    (∃ (df lo hi : Int) (offs : Array Int), i = .tableswitch df lo hi offs ∧ (pc : Int) + df = (b : Int) ∧ -1000 ≤ lo ∧ hi < 1000 ∧ hi = lo + offs.size - 1 ∧ sw = tabL pc lo offs.toList ∧ ∀ x ∈ offs.toList, 0 ≤ (pc : Int) + x) ∨
    ∃ (df : Int) (ps : Array (Int × Int)), i = .lookupswitch df ps ∧ (pc : Int) + df = (b : Int) ∧ (ps.toList.zip (ps.toList.drop 1)).all (fun (a, next) => a.1 < next.1) = true ∧ sw = ps.toList.map (fun q => (Int32.ofInt q.1, ((pc : Int) + q.2).toNat)) ∧ ∀ q ∈ ps.toList, 0 ≤ (pc : Int) + q.2 ∧ -1000 ≤ q.1 ∧ q.1 < 1000 := by
  unfold k_swit at h
  split at h
  · exact Or.inl ⟨_, _, _, _, rfl, of_decide_eq_true h⟩
  · exact Or.inr ⟨_, _, rfl, of_decide_eq_true h⟩
  · cases h
theorem s_swit (hC : CX D cy ad adV A SL xs d m p R s mid args c) (hd : decode (byt m) pc = .ok (i, n)) (hi : k_swit pc b (swt m pc) i n = true) {x : Int32} (k : swG (fun t => PS l D cy ad A SL xs p e R s mid args below meth c cells slots Q m t L S V) x b (swt m pc)) : PS l D cy ad A SL xs p e R s mid args below meth c cells slots Q m pc L (.inl x :: S) V := by
  intro H locs ls hP hS hl hA hB hV
  have U : ∀ {q : Nat}, PS l D cy ad A SL xs p e R s mid args below meth c cells slots Q m q L S V → W p l e R s mid args below meth c H locs cells slots Q (F0 mid q ls (S.map (rv ad))) := fun h => h H locs ls hP hS hl hA hB.tail hV
  rcases swit_inv hi with ⟨df, lo, hh, offs, rfl, h1, h2, h3, h4, h5, h6⟩ | ⟨df, ps, rfl, h1, h2, h3, h4⟩
  · rw [h5] at k
    have hsz : (offs.toList.length : Int) = (offs.size : Int) := by simp
    obtain ⟨g1, g2⟩ := tab_in (pc := pc) offs.toList lo h2 (by rw [hsz]; omega) k
    rw [hsz] at g1
    by_cases ho : x.toInt < lo ∨ hh < x.toInt
    · exact lv_tableOut hC.1.1 hC.1.2.1 hd ho h1 (U (g1 (by omega)))
    · simp only [not_or] at ho
      have hj : (x.toInt - lo).toNat < offs.size := by omega
      have he : offs[(x.toInt - lo).toNat]? = some offs[(x.toInt - lo).toNat] := Array.getElem?_eq_getElem hj
      have he2 : offs.toList[(x.toInt - lo).toNat]? = some offs[(x.toInt - lo).toNat] := by rw [Array.getElem?_toList]; exact he
      have hge := h6 _ (List.mem_of_getElem? he2)
      have K := g2 _ _ he2 (by omega)
      exact lv_tableIn hC.1.1 hC.1.2.1 hd ho.1 ho.2 he (Int.toNat_of_nonneg hge).symm (U K)
  · rw [h3] at k
    obtain ⟨tgt, g1, g2⟩ := look_in h1 _ h4 k
    exact lv_lookup hC.1.1 hC.1.2.1 hd h2 rfl g1 (U g2)
theorem wf_of (hC : CX D cy ad adV A SL xs d m p R s mid args c) {H : Heap} {locs : List Loc} (hP : va_P D vwCl (allC cy ad V) H) (hS : va_S A s.heap H locs) (G : GW cy ad A SL) {U : State} (hU : U.heap = H) (hW : s.WarmedH U.vm) : WF D cy ad adV A SL xs V U := by
  refine ⟨by rw [hU]; exact hP, va_K.moved hW.alike hC.2.1, ⟨?_, fun k hk => vk_R.warm hW (hC.2.2.2.1.2.1 k hk), ?_⟩, ?_, ?_⟩
  · rw [hU]
    exact vk_S.moved hW.alike (hC.2.2.2.1.1.kept hS.2.1)
  · rw [hU]
    exact ⟨va_Z.moved hW.alike (hC.2.2.2.1.2.2.1.kept hS.2.1), va_Zq.moved hW.alike (hC.2.2.2.1.2.2.2.kept hS.2.1)⟩
  · rw [hU]
    exact va_X.moved hW.alike (hC.2.2.2.2.1.kept (hS.2.1 _ hC.2.2.2.2.2 G.2.1))
  · rw [hU]
    exact Nat.lt_of_lt_of_le hC.2.2.2.2.2 hS.1
theorem wf_blind {av : List Value} : FrameBlind (va_Pc av (WF D cy ad adV A SL xs V)) := by
  intro a U g mk h
  obtain ⟨h0, h1, h2, ⟨h3, h4, h8, h9⟩, h5, h6⟩ := h
  exact ⟨h0, h1, va_K.moved (u := U) (U := U.calling g mk a) (Vm.Alike.refl U.vm) h2, ⟨vk_S.moved (u := U) (U := U.calling g mk a) (Vm.Alike.refl U.vm) h3, fun k hk => vk_R.same (u := U) rfl (h4 k hk), va_Z.moved (u := U) (U := U.calling g mk a) (Vm.Alike.refl U.vm) h8, va_Zq.moved (u := U) (U := U.calling g mk a) (Vm.Alike.refl U.vm) h9⟩, va_X.moved (u := U) (U := U.calling g mk a) (Vm.Alike.refl U.vm) h5, h6⟩
/-- the run of a call, whatever it answers -/
theorem s_run (G : GW cy ad A SL) (hC : CX D cy ad adV A SL xs (d + 1) m p R s mid args c) (hd : decode (byt m) pc = .ok (i, n)) (hi : k_call (ow m) pc a b nx i n = true) {as R' : List AV} (hT : takA a S [] = some (as, R')) (hr : rcv b as = true) (hcs : csum R' ≤ 8) (hb : b < NM) (hbok : MOK b)
    {Qc : Array Value → State → Outcome → State → Prop} (hM : Met l (yM b) (wsM b) (rmD d) (va_Pc (as.map (rv ad)) (WF D cy ad adV A SL xs V)) Qc 0 0 A) (hcl : cells ≤ R.cells) (hsl : slots ≤ R.slots)
    {H : Heap} {locs : List Loc} {ls : Array Slot} (hP : va_P D vwCl (allC cy ad V) H) (hS : va_S A s.heap H locs) (hl : LR ad ls (nLo m) L) (hB : okB S) :
    nx = pc + 3 ∧ ∃ av : Array Value, va_Run p l e R s mid args below meth c H locs cells slots 0 0 (F0 mid pc ls (S.map (rv ad))) (R'.map (rv ad)) (Qc av) A := by
  obtain ⟨t, h1, h2, h3⟩ := takA_split ad a S [] as R' hT
  rw [List.append_nil] at h1
  subst h1
  subst h2
  have hfr := hC.2.2.1
  have hnl : nLo b ≤ 40 := hbok.2.2.2.2.2.2
  unfold k_call at hi
  split at hi <;> first | exact absurd hi (by decide) | simp only [decide_eq_true_eq, Bool.and_eq_true] at hi
  · obtain ⟨⟨rfl, rfl, hv, ha⟩, hi⟩ := hi
    obtain ⟨q, hq, hq2⟩ := any_ex hi
    simp only [decide_eq_true_eq] at hq2
    obtain ⟨e1, rfl, e3⟩ := hq2
    have hw := hC.1.2.2.2.2 _ (mem_tbg (mlk_ok q hq) rfl)
    rw [e1, e3] at hw
    refine ⟨rfl, ?_⟩
    obtain ⟨hin, hse, hcls⟩ := hbok.2.2.2.1 hv
    -- the receiver
    have hrev : ∃ (t0 j0 : Nat) (as' : List AV), t.reverse = .inr (.inr (t0, j0)) :: as' ∧ clsOf t0 = mcl b := by
      unfold rcv at hr
      have hne : Nat.beq (mcl b) 99 = false := by
        cases hh : Nat.beq (mcl b) 99 with
        | false => rfl
        | true => exact absurd (Nat.eq_of_beq_eq_true hh) hv
      rw [hne] at hr
      match hh : t.reverse, hr with
      | .inr (.inr (t0, j0)) :: as', hr => exact ⟨t0, j0, as', rfl, Nat.eq_of_beq_eq_true hr⟩
    obtain ⟨t0, j0, as', hrv, hct⟩ := hrev
    have ht : t = as'.reverse ++ [.inr (.inr (t0, j0))] := by
      have := congrArg List.reverse hrv
      rw [List.reverse_reverse] at this
      rw [this, List.reverse_cons]
    have hj : j0 < cnt t0 := hB (.inr (.inr (t0, j0))) (by rw [ht]; simp)
    have hle : clsOf t0 ≤ 8 := by
      rcases mcl_f b hb with h9 | h9
      · omega
      · exact absurd h9 hv
    obtain ⟨t48, hak, -⟩ := obj_f t0 (cnt_lt hj) hle
    obtain ⟨q0, hq0⟩ := allP_at t48 hj
    have hcell := allC_at (cy := cy) (ad := ad) (V := V) hq0
    rw [cellE_obj hak] at hcell
    have hcl2 : ∃ r : vw_C, vwCl[clsOf t0]? = some r ∧ r.1 = (yM b).cls := by
      rw [← hct, nth_get] at hcls
      cases hh : vwCl[clsOf t0]? with
      | none => rw [hh] at hcls; cases hcls
      | some r => rw [hh] at hcls; exact ⟨r, rfl, Option.some.inj hcls⟩
    obtain ⟨r, hr1, hr2⟩ := hcl2
    have hrec := va_recv hC.2.1 hP hr1 hcell
    rw [hr2] at hrec
    rw [hrv] at hM
    refine ⟨_, va_runV (As := as'.map (rv ad)) (rest := R'.map (rv ad)) (b := ad t0 j0) hC.1 hM ⟨callB_of (npr b) hC.1.2.2.2.2 (wsM_good hbok) rfl rfl rfl (hC.1.2.2.2.2 _ (tbg hbok.2.1 rfl)) hw hbok.2.2.2.2.1 ⟨by show d + 8 + 1 ≤ _; omega, by show 8 + (nLo b + 11) + 64 * (d + 8) ≤ _; omega⟩, hC.1.2.2.2.2 _ (tbg hin rfl), hC.1.2.2.2.2 _ (tbg hse rfl)⟩
      ⟨wf_blind, hrec, fun U hU hW => ⟨rfl, wf_of hC hP hS G hU hW⟩⟩ rfl ?_ hl.1 ?_ (lv_room (by rw [csum_real]; exact hcs)) hd ⟨hcl, hsl⟩⟩
    · have : t.length = as'.length + 1 := by rw [ht]; simp
      rw [List.length_map]
      omega
    · show (t ++ R').map (rv ad) = _
      rw [ht]
      simp [rv]
  · obtain ⟨⟨rfl, rfl, hv, ha⟩, hi⟩ := hi
    obtain ⟨q, hq, hq2⟩ := any_ex hi
    simp only [decide_eq_true_eq] at hq2
    obtain ⟨e1, rfl, e3⟩ := hq2
    have hw := hC.1.2.2.2.2 _ (mem_tbg (mlk_ok q hq) rfl)
    rw [e1, e3] at hw
    refine ⟨rfl, ?_⟩
    refine ⟨_, va_runS (As := t.reverse.map (rv ad)) (rest := R'.map (rv ad)) hC.1 hM ⟨callB_of (npr b) hC.1.2.2.2.2 (wsM_good hbok) rfl rfl rfl (hC.1.2.2.2.2 _ (tbg hbok.2.1 rfl)) hw hbok.2.2.2.2.1 ⟨by show d + 8 + 1 ≤ _; omega, by show 8 + (nLo b + 11) + 64 * (d + 8) ≤ _; omega⟩, hC.1.2.2.2.2 _ (tbg (hbok.2.2.1 hv) rfl)⟩
      ⟨wf_blind, fun U hU hW => ⟨rfl, wf_of hC hP hS G hU hW⟩⟩ rfl ?_ hl.1 ?_ (lv_room (by rw [csum_real]; exact hcs)) hd ⟨hcl, hsl⟩⟩
    · rw [List.length_map, List.length_reverse]
      omega
    · show (t ++ R').map (rv ad) = _
      simp
end Sound
end
section
def stoB (m : Nat) : Bool := (icode m).all fun c => c.all fun q => (bif Nat.beq q.2.1 7 || Nat.beq q.2.1 32 then Nat.blt q.2.2.1 (nLo m) else true) && (bif Nat.beq q.2.1 23 then Nat.blt (q.2.2.1 + 1) (nLo m) else true)
theorem sto_ok : ∀ m, m < NM → stoB m = true := by decide +kernel
theorem cal_ok : ∀ m, m < NM → ((icode m).all fun c => c.all fun q => bif Nat.beq q.2.1 3 then Nat.blt q.2.2.2.1 227 else true) = true := by decide +kernel
theorem sto_at {m pc : Nat} (hm : m < NM) {op a b nx : Nat} {v : AV} (h : ins m pc = (op, a, b, v, nx)) (h99 : op ≠ 99) : (op = 7 ∨ op = 32 → a < nLo m) ∧ (op = 23 → a + 1 < nLo m) ∧ (op = 3 → b < 227) := by
  rcases ins_cases m pc with h1 | ⟨c, hc, hq⟩
  · rw [h] at h1; exact absurd h1 h99
  · have h2 : ∀ c ∈ icode m, (c.all fun q => (bif Nat.beq q.2.1 7 || Nat.beq q.2.1 32 then Nat.blt q.2.2.1 (nLo m) else true) && (bif Nat.beq q.2.1 23 then Nat.blt (q.2.2.1 + 1) (nLo m) else true)) = true := List.all_eq_true.mp (sto_ok m hm)
    have h3 := List.all_eq_true.mp (h2 c hc) _ hq
    have h4 : ∀ c ∈ icode m, (c.all fun q => bif Nat.beq q.2.1 3 then Nat.blt q.2.2.2.1 227 else true) = true := List.all_eq_true.mp (cal_ok m hm)
    have h5 := List.all_eq_true.mp (h4 c hc) _ hq
    rw [h] at h3 h5
    dsimp only at h3 h5
    rw [Bool.and_eq_true] at h3
    refine ⟨fun q => ?_, fun q => ?_, fun q => ?_⟩
    · rcases q with rfl | rfl
      · exact Nat.le_of_ble_eq_true h3.1
      · exact Nat.le_of_ble_eq_true h3.1
    · subst q
      exact Nat.le_of_ble_eq_true h3.2
    · subst q
      exact Nat.le_of_ble_eq_true h5
theorem fold_mono {K : Nat → AL → AS → Mem → RR} {P : Nat → AL → AS → Mem → Prop} {X : Option AV × Mem} (hK : ∀ pc L S V, K pc L S V = some X → P pc L S V) (n : FR)
    (h : fold K none (fun _ _ => none) (fun _ _ _ _ _ _ => none) (fun _ _ _ _ _ _ => none) (fun _ _ _ _ _ _ => none) n = some X) : fold P False (fun _ _ => False) (fun _ _ _ _ _ _ => False) (fun _ _ _ _ _ _ => False) (fun _ _ _ _ _ _ => False) n := by
  match n, h with
  | some (.inl (pc, L, S, V)), h => exact hK _ _ _ _ h
  | some (.inr (.inr (0, _, _, _, _, _, _))), h => cases h
  | some (.inr (.inr (1, _, _, _, _, _, _))), h => cases h
  | some (.inr (.inr (_ + 2, _, _, _, _, _, _))), h => cases h
section Sound
variable {l : Launch} {D : va_G} {cy : Nat → ClassId} {ad : Nat → Nat → Nat} {adV : Nat → Nat} {A : Nat → Prop} {SL : Nat} {xs : Nat → Int32}
variable {p : Program} {e : Env} {R : Room} {s : State} {mid : MethodId} {args : Array Value} {below : List Frame} {meth : Method} {c : Code} {cells slots : Nat} {Q : State → Prop}
variable {d m pc : Nat} {L : AL} {S : AS} {V : Mem} {a b nx n : Nat} {i : Instr}

/-- a callee's contract out of the small machine's run -/
theorem met_of (G : GW cy ad A SL) {X : Option AV × Mem} {as : List AV} {d b : Nat} (hb : b < 227) (hok : okB as) (hcs : csum as ≤ nLo b) (hV : Vok SL xs V)
    (ih : ∀ (p : Program) (e : Env) (R : Room) (s : State) (mid : MethodId) (args : Array Value) (below : List Frame) (meth : Method) (c : Code) (cells slots : Nat) (Q : State → Prop), CX D cy ad adV A SL xs d b p R s mid args c → cells ≤ R.cells → slots ≤ R.slots →
      (∀ (H : Heap) (locs : List Loc) (pc' : Nat) (ls : Array Slot), va_P D vwCl (allC cy ad X.2) H → va_S A s.heap H locs → Vok SL xs X.2 → rtI b pc' X.1 → W p l e R s mid args below meth c H locs cells slots Q (F0 mid pc' ls (X.1.toList.map (rv ad)))) →
      PS l D cy ad A SL xs p e R s mid args below meth c cells slots Q b 0 (padL (nLo b) (entL as)) [] V)
    {Qc : Array Value → State → Outcome → State → Prop} (hQ : ∀ (args : Array Value) (s t : State) (H : Heap) (locs : List Loc), t.heap = H → va_P D vwCl (allC cy ad X.2) H → va_S A s.heap H locs → Vok SL xs X.2 → Qc args s (.returned (X.1.map (rv ad))) t) :
    Met l (yM b) (wsM b) (rmD d) (va_Pc (as.map (rv ad)) (WF D cy ad adV A SL xs V)) Qc 0 0 A := by
  have hbok := mok_all b hb
  refine Met.ofW (cc := byt b) (maxL := nLo b) (ret := retT b) hbok.2.2.2.2.2.1 rfl ?_
  intro p e s m args below meth c s₁ B hml hv
  obtain ⟨rfl, hP, hK, hStr, hX, hb50⟩ := hv
  have hts := atoms_spec (ws := wsM b) B.pre
  have hown : s.vm.findClass (yM b).cls = some m.cls := findClass_of_methodNamed B.named
  rw [yM_own b (by show b < 228; omega)] at hown
  have hC : CX D cy ad adV A SL xs d b p (headSpec (wsM b) (rmD d)).room s m (as.map (rv ad)).toArray c := ⟨⟨B.exec, B.bytes, hml, hown, fun w hw => hts w (List.mem_cons_of_mem _ hw)⟩, hK, ⟨Nat.le_refl _, Nat.le_refl _⟩, hStr, hX, hb50⟩
  rw [lg_entry_eq]
  have hlocks := B.notSynchronized
  refine ih p e _ s m _ below meth c 0 0 _ hC (Nat.le_refl _) (Nat.le_refl _) (fun H locs pc' ls hP' hS' hV' hr => ?_) s.heap [] _ hP va_S.rf (LR.entry hcs) (okA.entry hok) (fun v hv => by cases hv) hV
  obtain ⟨r, V'⟩ := X
  match r, hr, hQ with
  | none, hr, hQ => exact W.vret B.exec B.bytes (B.returns.trans hr.2) (fun t ht hW => hQ _ s t H locs ht hP' hS' hV') hS'.2.2 hr.1
  | some (.inl x), hr, hQ =>
    rcases hr.2 with h1 | ⟨h1, h2⟩
    · exact W.iret B.exec B.bytes (B.returns.trans h1) (fun t ht hW => hQ _ s t H locs ht hP' hS' hV') hS'.2.2 hr.1
    · exact W.zret (ty := .boolean) B.exec B.bytes (B.returns.trans h1) (by rcases h2 with rfl | rfl <;> rfl) (fun t ht hW => hQ _ s t H locs ht hP' hS' hV') hS'.2.2 hr.1
  | some (.inr (.inl x)), hr, hQ => exact W.lret B.exec B.bytes (B.returns.trans hr.2) (fun t ht hW => hQ _ s t H locs ht hP' hS' hV') hS'.2.2 hr.1
def SND (l : Launch) (D : va_G) (cy : Nat → ClassId) (ad : Nat → Nat → Nat) (adV : Nat → Nat) (A : Nat → Prop) (SL : Nat) (xs : Nat → Int32) (f : Nat) : Prop :=
  ∀ (d m pc : Nat) (L : AL) (S : AS) (V : Mem) (X : Option AV × Mem), m < NM → go f d m pc L S V = some X → ∀ (p : Program) (e : Env) (R : Room) (s : State) (mid : MethodId) (args : Array Value) (below : List Frame) (meth : Method) (c : Code) (cells slots : Nat) (Q : State → Prop), CX D cy ad adV A SL xs d m p R s mid args c → cells ≤ R.cells → slots ≤ R.slots →
      (∀ (H : Heap) (locs : List Loc) (pc' : Nat) (ls : Array Slot), va_P D vwCl (allC cy ad X.2) H → va_S A s.heap H locs → Vok SL xs X.2 → rtI m pc' X.1 → W p l e R s mid args below meth c H locs cells slots Q (F0 mid pc' ls (X.1.toList.map (rv ad)))) →
      PS l D cy ad A SL xs p e R s mid args below meth c cells slots Q m pc L S V
theorem okB_tak {a : Nat} {as R' : List AV} (hT : takA a S [] = some (as, R')) (hB : okB S) : okB as ∧ okB R' := by
  obtain ⟨t, h1, h2, -⟩ := takA_split (fun _ _ => 0) a S [] as R' hT
  rw [List.append_nil] at h1
  subst h1
  subst h2
  exact ⟨fun v hv => hB v (List.mem_append_left _ (List.mem_reverse.mp hv)), fun v hv => hB v (List.mem_append_right _ hv)⟩
theorem s_call (G : GW cy ad A SL) {f : Nat} (ih : SND l D cy ad adV A SL xs f) {X : Option AV × Mem} (hC : CX D cy ad adV A SL xs d m p R s mid args c) (hd : decode (byt m) pc = .ok (i, n)) (hi : k_call (ow m) pc a b nx i n = true) (hb : b < 227) (hm : m < NM) (hcl : cells ≤ R.cells) (hsl : slots ≤ R.slots)
    (key : ∀ pc' L' S' V', go f d m pc' L' S' V' = some X → PS l D cy ad A SL xs p e R s mid args below meth c cells slots Q m pc' L' S' V')
    (h : o_call none (fun b as V nx L R => (toV (cal (go f) d b as V)).bind fun V' => go f d m nx L R V') (fun b as V nx L R => (toI (cal (go f) d b as V)).bind fun x => go f d m nx L (.inl x.1 :: R) x.2) (fun b as V nx L R => (toJ (cal (go f) d b as V)).bind fun x => go f d m nx L (.inr (.inl x.1) :: R) x.2) a b nx L S V = some X) : PS l D cy ad A SL xs p e R s mid args below meth c cells slots Q m pc L S V := by
  have hbNM : b < NM := by show b < 228; omega
  have hbok := mok_all b hb
  unfold o_call at h
  cases hT : takA a S [] with
  | none => rw [hT] at h; cases h
  | some q =>
    obtain ⟨as, R'⟩ := q
    rw [hT] at h
    dsimp only at h
    cases hg : (rcv b as && (Nat.ble (csum R') 8 && Nat.ble (csum as) (nLo b))) with
    | false => rw [hg] at h; cases h
    | true =>
      rw [hg] at h
      rw [Bool.and_eq_true, Bool.and_eq_true] at hg
      obtain ⟨hr, hc8, hca⟩ := hg
      have hc8 := Nat.le_of_ble_eq_true hc8
      have hca := Nat.le_of_ble_eq_true hca
      have h : (if rk b = 0 then (toV (cal (go f) d b as V)).bind fun V' => go f d m nx L R' V' else if rk b = 2 then (toJ (cal (go f) d b as V)).bind fun x => go f d m nx L (.inr (.inl x.1) :: R') x.2 else (toI (cal (go f) d b as V)).bind fun x => go f d m nx L (.inl x.1 :: R') x.2) = some X := h
      intro H locs ls hP hS hl hA hB hV
      obtain ⟨hokas, hokR⟩ := okB_tak hT hB
      cases d with
      | zero =>
        exfalso
        have e0 : cal (go f) 0 b as V = none := rfl
        rw [e0] at h
        split at h
        · cases h
        · split at h
          · cases h
          · cases h
      | succ d =>
        have ih2 : ∀ X', cal (go f) (d + 1) b as V = some X' → _ := fun X' e1 => ih d b 0 (padL (nLo b) (entL as)) [] V X' hbNM e1
        by_cases hk0 : rk b = 0
        · rw [if_pos hk0] at h
          obtain ⟨V', h1, h2⟩ := Option.bind_eq_some_iff.mp h
          have hM := met_of (V := V) (Qc := va_Qv (fun _ : Unit => True) (fun _ t => va_P D vwCl (allC cy ad V') t.heap ∧ Vok SL xs V') A) G hb hokas hca hV (ih2 _ (toV_some h1)) (fun args s t H locs ht h3 h4 h5 => ⟨⟨(), rfl, trivial, by rw [ht]; exact h3, h5⟩, h4.F ht⟩)
          obtain ⟨rfl, av, hrun⟩ := s_run (e := e) (below := below) (meth := meth) G hC hd hi hT hr hc8 hbNM hbok hM hcl hsl hP hS hl hB
          exact va_callv hrun hS (fun q _ h => h) (fun q h => h) (fun u t H1 locs1 ht hvm _ hB1 _ _ hS1 => key _ _ _ _ h2 H1 locs1 ls (by rw [← ht]; exact hB1.1) hS1 hl hA hokR hB1.2)
        · rw [if_neg hk0] at h
          by_cases hk2 : rk b = 2
          · rw [if_pos hk2] at h
            obtain ⟨⟨r, V'⟩, h1, h2⟩ := Option.bind_eq_some_iff.mp h
            have hM := met_of (V := V) (Qc := va_Ql (fun r' (_ : Unit) => r' = r) (fun _ t => va_P D vwCl (allC cy ad V') t.heap ∧ Vok SL xs V') A) G hb hokas hca hV (ih2 _ (toJ_some h1)) (fun args s t H locs ht h3 h4 h5 => ⟨⟨r, (), rfl, rfl, by rw [ht]; exact h3, h5⟩, h4.F ht⟩)
            obtain ⟨rfl, av, hrun⟩ := s_run (e := e) (below := below) (meth := meth) G hC hd hi hT hr hc8 hbNM hbok hM hcl hsl hP hS hl hB
            exact va_calll hrun hS (fun q _ h => h) (fun q h => h) (fun r' u t H1 locs1 ht hvm hr' hB1 _ _ hS1 => by
              subst hr'
              exact key _ _ _ _ h2 H1 locs1 ls (by rw [← ht]; exact hB1.1) hS1 hl hA (hokR.cons trivial) hB1.2)
          · rw [if_neg hk2] at h
            obtain ⟨⟨r, V'⟩, h1, h2⟩ := Option.bind_eq_some_iff.mp h
            have hM := met_of (V := V) (Qc := va_Qi (fun r' (_ : Unit) => r' = r) (fun _ t => va_P D vwCl (allC cy ad V') t.heap ∧ Vok SL xs V') A) G hb hokas hca hV (ih2 _ (toI_some h1)) (fun args s t H locs ht h3 h4 h5 => ⟨⟨r, (), rfl, rfl, by rw [ht]; exact h3, h5⟩, h4.F ht⟩)
            obtain ⟨rfl, av, hrun⟩ := s_run (e := e) (below := below) (meth := meth) G hC hd hi hT hr hc8 hbNM hbok hM hcl hsl hP hS hl hB
            exact va_calli hrun hS (fun q _ h => h) (fun q h => h) (fun r' u t H1 locs1 ht hvm hr' hB1 _ _ hS1 => by
              subst hr'
              exact key _ _ _ _ h2 H1 locs1 ls (by rw [← ht]; exact hB1.1) hS1 hl hA (hokR.cons trivial) hB1.2)
theorem s_ret {X : Option AV × Mem} (hd : decode (byt m) pc = .ok (i, n)) (hi : k_ret (retT m) a i n = true) (hret : ∀ (H : Heap) (locs : List Loc) (pc' : Nat) (ls : Array Slot), va_P D vwCl (allC cy ad X.2) H → va_S A s.heap H locs → Vok SL xs X.2 → rtI m pc' X.1 → W p l e R s mid args below meth c H locs cells slots Q (F0 mid pc' ls (X.1.toList.map (rv ad))))
    (h : o_ret none (fun r V => some (r, V)) a S V = some X) : PS l D cy ad A SL xs p e R s mid args below meth c cells slots Q m pc L S V := by
  intro H locs ls hP hS hl hA hB hV
  have hk : (a = 0 → decode (byt m) pc = .ok (.return_, 1) ∧ retT m = none) ∧ (a = 1 → decode (byt m) pc = .ok (.ireturn, 1) ∧ retT m = some .int) ∧ (a = 2 → decode (byt m) pc = .ok (.lreturn, 1) ∧ retT m = some .long) ∧ (a = 3 → decode (byt m) pc = .ok (.ireturn, 1) ∧ retT m = some .boolean) ∧ a ≤ 3 := by
    unfold k_ret at hi
    split at hi <;> first | exact absurd hi (by decide) | simp only [decide_eq_true_eq] at hi
    · obtain ⟨rfl, rfl, h3⟩ := hi
      exact ⟨fun _ => ⟨hd, h3⟩, fun q => absurd q (by decide), fun q => absurd q (by decide), fun q => absurd q (by decide), by decide⟩
    · obtain ⟨rfl, ⟨rfl, h3⟩ | ⟨rfl, h3⟩⟩ := hi
      · exact ⟨fun q => absurd q (by decide), fun _ => ⟨hd, h3⟩, fun q => absurd q (by decide), fun q => absurd q (by decide), by decide⟩
      · exact ⟨fun q => absurd q (by decide), fun q => absurd q (by decide), fun q => absurd q (by decide), fun _ => ⟨hd, h3⟩, by decide⟩
    · obtain ⟨rfl, rfl, h3⟩ := hi
      exact ⟨fun q => absurd q (by decide), fun q => absurd q (by decide), fun _ => ⟨hd, h3⟩, fun q => absurd q (by decide), by decide⟩
  unfold o_ret at h
  split at h
  · rename_i h0
    split at h
    · cases h
      exact hret H locs pc ls hP hS hV (hk.1 h0)
    · cases h
  · split at h
    · rename_i h0
      split at h
      · cases h
        exact hret H locs pc ls hP hS hV ⟨(hk.2.1 h0).1, Or.inl (hk.2.1 h0).2⟩
      · cases h
    · split at h
      · rename_i h0
        split at h
        · cases h
          exact hret H locs pc ls hP hS hV (hk.2.2.1 h0)
        · cases h
      · rename_i n0 n1 n2
        have h0 : a = 3 := by
          have := hk.2.2.2.2
          omega
        split at h
        · split at h
          · rename_i hx
            cases h
            exact hret H locs pc ls hP hS hV ⟨(hk.2.2.2.1 h0).1, Or.inr ⟨(hk.2.2.2.1 h0).2, hx⟩⟩
          · cases h
        · cases h
end Sound
end
section
section Sound
variable {l : Launch} {D : va_G} {cy : Nat → ClassId} {ad : Nat → Nat → Nat} {adV : Nat → Nat} {A : Nat → Prop} {SL : Nat} {xs : Nat → Int32}
variable {p : Program} {e : Env} {R : Room} {s : State} {mid : MethodId} {args : Array Value} {below : List Frame} {meth : Method} {c : Code} {cells slots : Nat} {Q : State → Prop}
variable {d m pc : Nat} {L : AL} {S : AS} {V : Mem} {a b nx n : Nat} {i : Instr}
theorem s_slen (hC : CX D cy ad adV A SL xs d m p R s mid args c) (hd : decode (byt m) pc = .ok (i, n)) (hi : k_str (ow m) pc 0 nx i n = true) {t j : Nat} (ht : t = 52) (hcs : csum S ≤ 8) (hcl : cells ≤ R.cells) (hsl : slots ≤ R.slots) (k : PS l D cy ad A SL xs p e R s mid args below meth c cells slots Q m nx L (.inl (nI (slen j)) :: S) V) : PS l D cy ad A SL xs p e R s mid args below meth c cells slots Q m pc L (.inr (.inr (t, j)) :: S) V := sorry
theorem s_schr (hC : CX D cy ad adV A SL xs d m p R s mid args c) (hd : decode (byt m) pc = .ok (i, n)) (hi : k_str (ow m) pc 1 nx i n = true) {t j : Nat} {x : Int32} (ht : t = 52) (hcs : csum S ≤ 8) (hin : ¬ (x < 0 ∨ slen j ≤ x.toNatClampNeg)) (hcl : cells ≤ R.cells) (hsl : slots ≤ R.slots) (k : PS l D cy ad A SL xs p e R s mid args below meth c cells slots Q m nx L (.inl (schr j x.toNatClampNeg) :: S) V) : PS l D cy ad A SL xs p e R s mid args below meth c cells slots Q m pc L (.inl x :: .inr (.inr (t, j)) :: S) V := sorry
end Sound
end
section
section Sound
variable {l : Launch} {D : va_G} {cy : Nat → ClassId} {ad : Nat → Nat → Nat} {adV : Nat → Nat} {A : Nat → Prop} {SL : Nat} {xs : Nat → Int32}
variable {p : Program} {e : Env} {R : Room} {s : State} {mid : MethodId} {args : Array Value} {below : List Frame} {meth : Method} {c : Code} {cells slots : Nat} {Q : State → Prop}
variable {d m pc : Nat} {L : AL} {S : AS} {V : Mem} {a b nx n : Nat} {i : Instr}
set_option maxHeartbeats 4000000 in
theorem snd (G : GW cy ad A SL) : ∀ f, SND l D cy ad adV A SL xs f := by
  intro f
  induction f with
  | zero => intro d m pc L S V X hm h; cases h
  | succ f ih =>
    intro d m pc L S V X hm h p e R s mid args below meth c cells slots Q hC hcl hsl hret
    have key : ∀ pc' L' S' V', go f d m pc' L' S' V' = some X → PS l D cy ad A SL xs p e R s mid args below meth c cells slots Q m pc' L' S' V' := fun pc' L' S' V' h9 => ih d m pc' L' S' V' X hm h9 p e R s mid args below meth c cells slots Q hC hcl hsl hret
    replace h : stG (go f) d m pc L S V = some X := h
    unfold stG stp at h
    have hchk := ins_ok (m := m) (pc := pc) (ok_all m hm)
    have hsto := @sto_at m pc hm
    generalize ins m pc = en at h hchk hsto
    obtain ⟨op, a, b, v, nx⟩ := en
    dsimp only at h hchk
    have hdd : op ≠ 99 → ∃ (i : Instr) (n : Nat), decode (byt m) pc = .ok (i, n) ∧ chI m pc i n (op, a, b, v, nx) = true := by
      intro h99
      have h1 := hchk h99
      unfold chk at h1
      split at h1
      · rename_i i n hd
        exact ⟨i, n, hd, h1⟩
      · cases h1
    by_cases h0 : op = 0
    · rw [if_pos h0] at h
      subst h0
      obtain ⟨i, n, hd, hi⟩ := hdd (by decide)
      unfold o_load at h
      split at h
      · rename_i w hw
        cases hb : Nat.beq (kd w) b with
        | false => rw [hb] at h; cases h
        | true =>
          rw [hb] at h
          exact s_load hC hd hi hw (Nat.eq_of_beq_eq_true hb) (key _ _ _ _ h)
      · cases h
    rw [if_neg h0] at h
    by_cases h1 : op = 1
    · rw [if_pos h1] at h
      subst h1
      obtain ⟨i, n, hd, hi⟩ := hdd (by decide)
      exact s_push hC hd hi (key _ _ _ _ h)
    rw [if_neg h1] at h
    by_cases h2 : op = 2
    · rw [if_pos h2] at h
      subst h2
      obtain ⟨i, n, hd, hi⟩ := hdd (by decide)
      unfold o_get at h
      split at h
      · split at h
        · rename_i hc
          split at h
          · rename_i w hw
            exact s_get hC hd hi hc hw (key _ _ _ _ h)
          · cases h
        · cases h
      · cases h
    rw [if_neg h2] at h
    by_cases h3 : op = 3
    · rw [if_pos h3] at h
      subst h3
      obtain ⟨i, n, hd, hi⟩ := hdd (by decide)
      exact s_call G ih hC hd hi ((hsto rfl (by decide)).2.2 rfl) hm hcl hsl key h
    rw [if_neg h3] at h
    by_cases h4 : op = 4
    · rw [if_pos h4] at h
      subst h4
      obtain ⟨i, n, hd, hi⟩ := hdd (by decide)
      exact s_ret hd hi hret h
    rw [if_neg h4] at h
    by_cases h5 : op = 5
    · rw [if_pos h5] at h
      subst h5
      obtain ⟨i, n, hd, hi⟩ := hdd (by decide)
      unfold o_xald at h
      split at h
      · split at h
        · rename_i h50
          split at h
          · rename_i h1
            subst h50
            subst h1
            split at h
            · cases h
            · rename_i hin
              exact s_xscr G hC hd hi hin (key _ _ _ _ h)
          · cases h
        · split at h
          · rename_i hk
            split at h
            · cases h
            · rename_i hin
              exact s_xald hC hd hi hk hin (key _ _ _ _ h)
          · cases h
      · cases h
    rw [if_neg h5] at h
    by_cases h6 : op = 6
    · rw [if_pos h6] at h
      subst h6
      obtain ⟨i, n, hd, hi⟩ := hdd (by decide)
      exact s_goto hC hd hi (key _ _ _ _ h)
    rw [if_neg h6] at h
    by_cases h7 : op = 7
    · rw [if_pos h7] at h
      subst h7
      obtain ⟨i, n, hd, hi⟩ := hdd (by decide)
      unfold o_sto1 at h
      split at h
      · exact s_sto1 hC hd hi ((hsto rfl (by decide)).1 (Or.inl rfl)) (key _ _ _ _ h)
      · cases h
    rw [if_neg h7] at h
    by_cases h8 : op = 8
    · rw [if_pos h8] at h
      subst h8
      obtain ⟨i, n, hd, hi⟩ := hdd (by decide)
      unfold o_ibin at h
      split at h
      · exact s_ibin hC hd hi (key _ _ _ _ h)
      · cases h
    rw [if_neg h8] at h
    by_cases h9 : op = 9
    · rw [if_pos h9] at h
      subst h9
      obtain ⟨i, n, hd, hi⟩ := hdd (by decide)
      match S, h with
      | .inl y :: .inl x :: R', h =>
        refine s_icmp hC hd hi ?_
        rw [fr_o_icmp _ _ (fun _ _ => none) (fun _ _ _ _ _ _ => none) (fun _ _ _ _ _ _ => none) (fun _ _ _ _ _ _ => none)] at h
        rw [fr_o_icmp _ _ (fun _ _ => False) (fun _ _ _ _ _ _ => False) (fun _ _ _ _ _ _ => False) (fun _ _ _ _ _ _ => False)]
        exact fold_mono key _ h
    rw [if_neg h9] at h
    by_cases h10 : op = 10
    · rw [if_pos h10] at h
      subst h10
      obtain ⟨i, n, hd, hi⟩ := hdd (by decide)
      match S, h with
      | .inl x :: R', h =>
        refine s_ifz hC hd hi ?_
        rw [fr_o_ifz _ _ (fun _ _ => none) (fun _ _ _ _ _ _ => none) (fun _ _ _ _ _ _ => none) (fun _ _ _ _ _ _ => none)] at h
        rw [fr_o_ifz _ _ (fun _ _ => False) (fun _ _ _ _ _ _ => False) (fun _ _ _ _ _ _ => False) (fun _ _ _ _ _ _ => False)]
        exact fold_mono key _ h
    rw [if_neg h10] at h
    by_cases h11 : op = 11
    · rw [if_pos h11] at h
      subst h11
      obtain ⟨i, n, hd, hi⟩ := hdd (by decide)
      unfold o_put at h
      split at h
      · split at h
        · rename_i hc
          split at h
          · rename_i hn
            rename_i t j R'
            rw [cond_eq_ite] at h
            split at h
            · rename_i hz
              split at h
              · rename_i hx
                exact s_put G hC hd hi hc hn (fun _ => hx) (key _ _ _ _ h)
              · cases h
            · rename_i hz
              exact s_put G hC hd hi hc hn (fun q => absurd q hz) (key _ _ _ _ h)
          · cases h
        · cases h
      · cases h
    rw [if_neg h11] at h
    by_cases h12 : op = 12
    · rw [if_pos h12] at h
      subst h12
      obtain ⟨i, n, hd, hi⟩ := hdd (by decide)
      unfold o_iinc at h
      split at h
      · rename_i hx
        exact s_iinc hC hd hi hx rfl (key _ _ _ _ h)
      · cases h
    rw [if_neg h12] at h
    by_cases h13 : op = 13
    · rw [if_pos h13] at h
      subst h13
      obtain ⟨i, n, hd, hi⟩ := hdd (by decide)
      unfold o_dup at h
      split at h
      · rw [cond_eq_ite] at h
        split at h
        · rename_i hv
          exact s_dup hC hd hi (Nat.eq_of_beq_eq_true hv) (key _ _ _ _ h)
        · cases h
      · cases h
    rw [if_neg h13] at h
    by_cases h14 : op = 14
    · rw [if_pos h14] at h
      subst h14
      obtain ⟨i, n, hd, hi⟩ := hdd (by decide)
      unfold o_iast at h
      split at h
      · split at h
        · rename_i hk
          split at h
          · cases h
          · rename_i hin
            split at h
            · rename_i h1
              exact s_iast G hC hd hi hk hin (fun q => absurd (h1.symm.trans q) (by decide)) (key _ _ _ _ h)
            · split at h
              · split at h
                · rename_i hx
                  exact s_iast G hC hd hi hk hin (fun _ => hx) (key _ _ _ _ h)
                · cases h
              · cases h
        · cases h
      · cases h
    rw [if_neg h14] at h
    by_cases h15 : op = 15
    · rw [if_pos h15] at h
      subst h15
      obtain ⟨i, n, hd, hi⟩ := hdd (by decide)
      unfold o_unry at h
      split at h
      · split at h
        · rename_i hw
          exact s_unry hC hd hi hw (key _ _ _ _ h)
        · cases h
      · cases h
    rw [if_neg h15] at h
    by_cases h16 : op = 16
    · rw [if_pos h16] at h
      subst h16
      obtain ⟨i, n, hd, hi⟩ := hdd (by decide)
      unfold o_aald at h
      split at h
      · split at h
        · rename_i h4
          subst h4
          split at h
          · cases h
          · rename_i hin
            exact s_aald4 hC hd hi hin (key _ _ _ _ h)
        · split at h
          · rename_i h22
            subst h22
            split at h
            · cases h
            · rename_i hin
              exact s_aald22 hC hd hi hin (key _ _ _ _ h)
          · cases h
      · cases h
    rw [if_neg h16] at h
    by_cases h17 : op = 17
    · rw [if_pos h17] at h
      subst h17
      obtain ⟨i, n, hd, hi⟩ := hdd (by decide)
      unfold o_lbin at h
      split at h
      · exact s_lbin hC hd hi (key _ _ _ _ h)
      · cases h
    rw [if_neg h17] at h
    by_cases h18 : op = 18
    · rw [if_pos h18] at h
      subst h18
      obtain ⟨i, n, hd, hi⟩ := hdd (by decide)
      unfold o_lcmp at h
      split at h
      · exact s_lcmp hC hd hi (key _ _ _ _ h)
      · cases h
    rw [if_neg h18] at h
    by_cases h19 : op = 19
    · rw [if_pos h19] at h
      subst h19
      obtain ⟨i, n, hd, hi⟩ := hdd (by decide)
      unfold o_idiv at h
      split at h
      · split at h
        · cases h
        · rename_i hy
          refine s_idiv hC hd hi hy (key _ _ _ _ ?_)
          split at h
          · rename_i ha
            rw [if_pos ha]
            exact h
          · rename_i ha
            rw [if_neg ha]
            exact h
      · cases h
    rw [if_neg h19] at h
    by_cases h20 : op = 20
    · rw [if_pos h20] at h
      subst h20
      obtain ⟨i, n, hd, hi⟩ := hdd (by decide)
      unfold o_ldiv at h
      split at h
      · split at h
        · cases h
        · rename_i hy
          exact s_ldiv hC hd hi hy (key _ _ _ _ h)
      · cases h
    rw [if_neg h20] at h
    by_cases h21 : op = 21
    · rw [if_pos h21] at h
      subst h21
      obtain ⟨i, n, hd, hi⟩ := hdd (by decide)
      unfold o_lald at h
      split at h
      · split at h
        · rename_i hk
          split at h
          · cases h
          · rename_i hin
            exact s_lald hC hd hi hk hin (key _ _ _ _ h)
        · cases h
      · cases h
    rw [if_neg h21] at h
    by_cases h22 : op = 22
    · rw [if_pos h22] at h
      subst h22
      obtain ⟨i, n, hd, hi⟩ := hdd (by decide)
      unfold o_last at h
      split at h
      · split at h
        · rename_i hk
          split at h
          · cases h
          · rename_i hin
            exact s_last G hC hd hi hk hin (key _ _ _ _ h)
        · cases h
      · cases h
    rw [if_neg h22] at h
    by_cases h23 : op = 23
    · rw [if_pos h23] at h
      subst h23
      obtain ⟨i, n, hd, hi⟩ := hdd (by decide)
      unfold o_sto2 at h
      split at h
      · exact s_sto2 hC hd hi ((hsto rfl (by decide)).2.1 rfl) (key _ _ _ _ h)
      · cases h
    rw [if_neg h23] at h
    by_cases h24 : op = 24
    · rw [if_pos h24] at h
      subst h24
      obtain ⟨i, n, hd, hi⟩ := hdd (by decide)
      unfold o_dup2 at h
      split at h
      · rw [cond_eq_ite] at h
        split at h
        · rename_i hv
          rw [Bool.and_eq_true] at hv
          exact s_dup2 hC hd hi (Nat.eq_of_beq_eq_true hv.1) (Nat.eq_of_beq_eq_true hv.2) (key _ _ _ _ h)
        · cases h
      · cases h
    rw [if_neg h24] at h
    by_cases h25 : op = 25
    · rw [if_pos h25] at h
      subst h25
      obtain ⟨i, n, hd, hi⟩ := hdd (by decide)
      unfold o_pop at h
      split at h
      · rw [cond_eq_ite] at h
        split at h
        · rename_i hv
          exact s_pop hC hd hi (Nat.eq_of_beq_eq_true hv) (key _ _ _ _ h)
        · cases h
      · cases h
    rw [if_neg h25] at h
    by_cases h26 : op = 26
    · rw [if_pos h26] at h
      subst h26
      obtain ⟨i, n, hd, hi⟩ := hdd (by decide)
      unfold o_alen at h
      split at h
      · split at h
        · rename_i h50
          subst h50
          exact s_alens G hC hd hi (key _ _ _ _ h)
        · split at h
          · rename_i hk
            exact s_alen hC hd hi hk (key _ _ _ _ h)
          · cases h
      · cases h
    rw [if_neg h26] at h
    by_cases h27 : op = 27
    · rw [if_pos h27] at h
      subst h27
      obtain ⟨i, n, hd, hi⟩ := hdd (by decide)
      unfold o_lshl at h
      split at h
      · exact s_lshl hC hd hi (key _ _ _ _ h)
      · cases h
    rw [if_neg h27] at h
    by_cases h28 : op = 28
    · rw [if_pos h28] at h
      subst h28
      obtain ⟨i, n, hd, hi⟩ := hdd (by decide)
      match S, h with
      | .inl x :: R', h =>
        refine s_swit hC hd hi ?_
        show o_swit (fun pc' L' S' V' => PS l D cy ad A SL xs p e R s mid args below meth c cells slots Q m pc' L' S' V') False m pc b L (.inl x :: R') V
        rw [fr_o_swit _ _ (fun _ _ => none) (fun _ _ _ _ _ _ => none) (fun _ _ _ _ _ _ => none) (fun _ _ _ _ _ _ => none)] at h
        rw [fr_o_swit _ _ (fun _ _ => False) (fun _ _ _ _ _ _ => False) (fun _ _ _ _ _ _ => False) (fun _ _ _ _ _ _ => False)]
        exact fold_mono key _ h
    rw [if_neg h28] at h
    by_cases h29 : op = 29
    · rw [if_pos h29] at h
      subst h29
      obtain ⟨i, n, hd, hi⟩ := hdd (by decide)
      unfold o_acpy at h
      split at h
      · split at h
        · rename_i hk
          split at h
          · cases h
          · rename_i hg
            split at h
            · rename_i ha
              exact s_acpy1 G hC hd hi (hk.1.trans ha) (hk.2.1.trans ha) hk.2.2 hg (key _ _ _ _ h)
            · split at h
              · rename_i ha
                exact s_acpy2 G hC hd hi (hk.1.trans ha) (hk.2.1.trans ha) hk.2.2 hg (key _ _ _ _ h)
              · cases h
        · cases h
      · cases h
    rw [if_neg h29] at h
    by_cases h30 : op = 30
    · rw [if_pos h30] at h
      subst h30
      obtain ⟨i, n, hd, hi⟩ := hdd (by decide)
      unfold o_slen at h
      split at h
      · split at h
        · rename_i ht
          exact s_slen hC hd hi ht.1 ht.2 hcl hsl (key _ _ _ _ h)
        · cases h
      · cases h
    rw [if_neg h30] at h
    by_cases h31 : op = 31
    · rw [if_pos h31] at h
      subst h31
      obtain ⟨i, n, hd, hi⟩ := hdd (by decide)
      unfold o_schr at h
      split at h
      · split at h
        · rename_i ht
          split at h
          · cases h
          · rename_i hin
            exact s_schr hC hd hi ht.1 ht.2 hin hcl hsl (key _ _ _ _ h)
        · cases h
      · cases h
    rw [if_neg h31] at h
    by_cases h32 : op = 32
    · rw [if_pos h32] at h
      subst h32
      obtain ⟨i, n, hd, hi⟩ := hdd (by decide)
      unfold o_stoA at h
      split at h
      · exact s_stoA hC hd hi ((hsto rfl (by decide)).1 (Or.inr rfl)) (key _ _ _ _ h)
      · cases h
    rw [if_neg h32] at h
    by_cases h33 : op = 33
    · rw [if_pos h33] at h
      subst h33
      obtain ⟨i, n, hd, hi⟩ := hdd (by decide)
      unfold o_mat2 at h
      split at h
      · rw [cond_eq_ite] at h
        split at h
        · rename_i hv
          refine s_mat2 hC hd hi (Nat.le_of_ble_eq_true hv) hcl hsl (key _ _ _ _ ?_)
          split at h
          · rename_i ha
            rw [if_pos ha]
            exact h
          · rename_i ha
            rw [if_neg ha]
            exact h
        · cases h
      · cases h
    rw [if_neg h33] at h
    by_cases h34 : op = 34
    · rw [if_pos h34] at h
      subst h34
      obtain ⟨i, n, hd, hi⟩ := hdd (by decide)
      unfold o_mabs at h
      split at h
      · rw [cond_eq_ite] at h
        split at h
        · rename_i hv
          exact s_mabs hC hd hi (Nat.le_of_ble_eq_true hv) hcl hsl (key _ _ _ _ h)
        · cases h
      · cases h
    rw [if_neg h34] at h
    by_cases h35 : op = 35
    · rw [if_pos h35] at h
      subst h35
      obtain ⟨i, n, hd, hi⟩ := hdd (by decide)
      unfold o_matJ at h
      split at h
      · rw [cond_eq_ite] at h
        split at h
        · rename_i hv
          refine s_matJ hC hd hi (Nat.le_of_ble_eq_true hv) hcl hsl (key _ _ _ _ ?_)
          split at h
          · rename_i ha
            rw [if_pos ha]
            exact h
          · rename_i ha
            rw [if_neg ha]
            exact h
        · cases h
      · cases h
    rw [if_neg h35] at h
    cases h
end Sound
end
