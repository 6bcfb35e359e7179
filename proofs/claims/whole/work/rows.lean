section
-- ===== PART A: goes FIRST, ahead of the names: the tables' words, and 'selects' of the private methods out of them =====
/-- a private method of a class that the tables say can be made, by its rows of tables_1 -/
def lw_okq (q : MethodName × Nat) : Prop := (q.1.cls ≠ "java/lang/invoke/MethodHandle" ∧ q.1.cls ≠ "java/lang/invoke/VarHandle") ∧ Cond.instantiable q.1.cls q.2 ∈ tables_1 ∧ Cond.privateMethod q.1 ∈ tables_1 ∧ Cond.instanceMethod q.1 ∈ tables_1
theorem lw_p0 : lw_okq (⟨"BeamPieces", "solveAsItIs", "()V"⟩, 10) := ⟨⟨by decide +kernel, by decide +kernel⟩, List.mem_of_getElem? (i := 20) (by decide +kernel), List.mem_of_getElem? (i := 487) (by decide +kernel), List.mem_of_getElem? (i := 488) (by decide +kernel)⟩
theorem lw_p1 : lw_okq (⟨"BeamPieces$Statics", "solveOverSupports", "()V"⟩, 18) := ⟨⟨by decide +kernel, by decide +kernel⟩, List.mem_of_getElem? (i := 113) (by decide +kernel), List.mem_of_getElem? (i := 511) (by decide +kernel), List.mem_of_getElem? (i := 512) (by decide +kernel)⟩
theorem lw_p2 : lw_okq (⟨"BeamPieces$Statics", "span", "(I)J"⟩, 18) := ⟨⟨by decide +kernel, by decide +kernel⟩, List.mem_of_getElem? (i := 113) (by decide +kernel), List.mem_of_getElem? (i := 515) (by decide +kernel), List.mem_of_getElem? (i := 516) (by decide +kernel)⟩
theorem lw_p3 : lw_okq (⟨"BeamPieces$Statics", "twiceOverFirst", "()J"⟩, 18) := ⟨⟨by decide +kernel, by decide +kernel⟩, List.mem_of_getElem? (i := 113) (by decide +kernel), List.mem_of_getElem? (i := 520) (by decide +kernel), List.mem_of_getElem? (i := 521) (by decide +kernel)⟩
theorem lw_p4 : lw_okq (⟨"BeamPieces$Statics", "twiceOverLast", "()J"⟩, 18) := ⟨⟨by decide +kernel, by decide +kernel⟩, List.mem_of_getElem? (i := 113) (by decide +kernel), List.mem_of_getElem? (i := 524) (by decide +kernel), List.mem_of_getElem? (i := 525) (by decide +kernel)⟩
theorem lw_p5 : lw_okq (⟨"BeamPieces$Statics", "hasRow", "(I)Z"⟩, 18) := ⟨⟨by decide +kernel, by decide +kernel⟩, List.mem_of_getElem? (i := 113) (by decide +kernel), List.mem_of_getElem? (i := 528) (by decide +kernel), List.mem_of_getElem? (i := 529) (by decide +kernel)⟩
theorem lw_p6 : lw_okq (⟨"BeamPieces$Statics", "isInner", "(I)Z"⟩, 18) := ⟨⟨by decide +kernel, by decide +kernel⟩, List.mem_of_getElem? (i := 113) (by decide +kernel), List.mem_of_getElem? (i := 532) (by decide +kernel), List.mem_of_getElem? (i := 533) (by decide +kernel)⟩
theorem lw_p7 : lw_okq (⟨"BeamPieces$Statics", "leans", "(I)J"⟩, 18) := ⟨⟨by decide +kernel, by decide +kernel⟩, List.mem_of_getElem? (i := 113) (by decide +kernel), List.mem_of_getElem? (i := 536) (by decide +kernel), List.mem_of_getElem? (i := 537) (by decide +kernel)⟩
theorem lw_p8 : lw_okq (⟨"BeamPieces$Statics", "leanToRight", "(I)J"⟩, 18) := ⟨⟨by decide +kernel, by decide +kernel⟩, List.mem_of_getElem? (i := 113) (by decide +kernel), List.mem_of_getElem? (i := 540) (by decide +kernel), List.mem_of_getElem? (i := 541) (by decide +kernel)⟩
theorem lw_p9 : lw_okq (⟨"BeamPieces$Statics", "leanToLeft", "(I)J"⟩, 18) := ⟨⟨by decide +kernel, by decide +kernel⟩, List.mem_of_getElem? (i := 113) (by decide +kernel), List.mem_of_getElem? (i := 554) (by decide +kernel), List.mem_of_getElem? (i := 555) (by decide +kernel)⟩
theorem lw_p10 : lw_okq (⟨"BeamPieces$Statics", "shearAlong", "()V"⟩, 18) := ⟨⟨by decide +kernel, by decide +kernel⟩, List.mem_of_getElem? (i := 113) (by decide +kernel), List.mem_of_getElem? (i := 558) (by decide +kernel), List.mem_of_getElem? (i := 559) (by decide +kernel)⟩
theorem lw_p11 : lw_okq (⟨"BeamPieces$Statics", "loadsBehind", "(I)J"⟩, 18) := ⟨⟨by decide +kernel, by decide +kernel⟩, List.mem_of_getElem? (i := 113) (by decide +kernel), List.mem_of_getElem? (i := 562) (by decide +kernel), List.mem_of_getElem? (i := 563) (by decide +kernel)⟩
theorem lw_p12 : lw_okq (⟨"BeamPieces$Statics", "shearOfSpan", "(I)J"⟩, 18) := ⟨⟨by decide +kernel, by decide +kernel⟩, List.mem_of_getElem? (i := 113) (by decide +kernel), List.mem_of_getElem? (i := 566) (by decide +kernel), List.mem_of_getElem? (i := 567) (by decide +kernel)⟩
theorem lw_p13 : lw_okq (⟨"BeamPieces$Statics", "bendAlong", "()V"⟩, 18) := ⟨⟨by decide +kernel, by decide +kernel⟩, List.mem_of_getElem? (i := 113) (by decide +kernel), List.mem_of_getElem? (i := 570) (by decide +kernel), List.mem_of_getElem? (i := 571) (by decide +kernel)⟩
theorem lw_p14 : lw_okq (⟨"BeamPieces", "inLowest", "(JJI)J"⟩, 10) := ⟨⟨by decide +kernel, by decide +kernel⟩, List.mem_of_getElem? (i := 20) (by decide +kernel), List.mem_of_getElem? (i := 574) (by decide +kernel), List.mem_of_getElem? (i := 575) (by decide +kernel)⟩
theorem lw_p15 : lw_okq (⟨"BeamPieces$Statics", "sagOfSpan", "(I)J"⟩, 18) := ⟨⟨by decide +kernel, by decide +kernel⟩, List.mem_of_getElem? (i := 113) (by decide +kernel), List.mem_of_getElem? (i := 623) (by decide +kernel), List.mem_of_getElem? (i := 624) (by decide +kernel)⟩
def lw_privs_1 : List (MethodName × Nat) := [(⟨"BeamPieces", "solveAsItIs", "()V"⟩, 10), (⟨"BeamPieces$Statics", "solveOverSupports", "()V"⟩, 18), (⟨"BeamPieces$Statics", "span", "(I)J"⟩, 18), (⟨"BeamPieces$Statics", "twiceOverFirst", "()J"⟩, 18), (⟨"BeamPieces$Statics", "twiceOverLast", "()J"⟩, 18), (⟨"BeamPieces$Statics", "hasRow", "(I)Z"⟩, 18), (⟨"BeamPieces$Statics", "isInner", "(I)Z"⟩, 18), (⟨"BeamPieces$Statics", "leans", "(I)J"⟩, 18), (⟨"BeamPieces$Statics", "leanToRight", "(I)J"⟩, 18), (⟨"BeamPieces$Statics", "leanToLeft", "(I)J"⟩, 18), (⟨"BeamPieces$Statics", "shearAlong", "()V"⟩, 18), (⟨"BeamPieces$Statics", "loadsBehind", "(I)J"⟩, 18), (⟨"BeamPieces$Statics", "shearOfSpan", "(I)J"⟩, 18), (⟨"BeamPieces$Statics", "bendAlong", "()V"⟩, 18), (⟨"BeamPieces", "inLowest", "(JJI)J"⟩, 10), (⟨"BeamPieces$Statics", "sagOfSpan", "(I)J"⟩, 18)]
theorem lw_r1 : ∀ q ∈ lw_privs_1, lw_okq q := List.forall_mem_cons.mpr ⟨lw_p0, List.forall_mem_cons.mpr ⟨lw_p1, List.forall_mem_cons.mpr ⟨lw_p2, List.forall_mem_cons.mpr ⟨lw_p3, List.forall_mem_cons.mpr ⟨lw_p4, List.forall_mem_cons.mpr ⟨lw_p5, List.forall_mem_cons.mpr ⟨lw_p6, List.forall_mem_cons.mpr ⟨lw_p7, List.forall_mem_cons.mpr ⟨lw_p8, List.forall_mem_cons.mpr ⟨lw_p9, List.forall_mem_cons.mpr ⟨lw_p10, List.forall_mem_cons.mpr ⟨lw_p11, List.forall_mem_cons.mpr ⟨lw_p12, List.forall_mem_cons.mpr ⟨lw_p13, List.forall_mem_cons.mpr ⟨lw_p14, List.forall_mem_cons.mpr ⟨lw_p15, fun _ h => absurd h List.not_mem_nil⟩⟩⟩⟩⟩⟩⟩⟩⟩⟩⟩⟩⟩⟩⟩⟩
theorem lw_p16 : lw_okq (⟨"BeamPieces$Statics", "rise", "(I)J"⟩, 18) := ⟨⟨by decide +kernel, by decide +kernel⟩, List.mem_of_getElem? (i := 113) (by decide +kernel), List.mem_of_getElem? (i := 627) (by decide +kernel), List.mem_of_getElem? (i := 628) (by decide +kernel)⟩
theorem lw_p17 : lw_okq (⟨"BeamPieces$Statics", "bending", "(I)J"⟩, 18) := ⟨⟨by decide +kernel, by decide +kernel⟩, List.mem_of_getElem? (i := 113) (by decide +kernel), List.mem_of_getElem? (i := 632) (by decide +kernel), List.mem_of_getElem? (i := 633) (by decide +kernel)⟩
theorem lw_p18 : lw_okq (⟨"BeamPieces$Statics", "sagAheadOfFirst", "(J)V"⟩, 18) := ⟨⟨by decide +kernel, by decide +kernel⟩, List.mem_of_getElem? (i := 113) (by decide +kernel), List.mem_of_getElem? (i := 636) (by decide +kernel), List.mem_of_getElem? (i := 637) (by decide +kernel)⟩
theorem lw_p19 : lw_okq (⟨"BeamPieces$Statics", "sagBehindLast", "(J)V"⟩, 18) := ⟨⟨by decide +kernel, by decide +kernel⟩, List.mem_of_getElem? (i := 113) (by decide +kernel), List.mem_of_getElem? (i := 640) (by decide +kernel), List.mem_of_getElem? (i := 641) (by decide +kernel)⟩
theorem lw_p20 : lw_okq (⟨"BeamPieces$Statics", "offerPeak", "()V"⟩, 18) := ⟨⟨by decide +kernel, by decide +kernel⟩, List.mem_of_getElem? (i := 113) (by decide +kernel), List.mem_of_getElem? (i := 652) (by decide +kernel), List.mem_of_getElem? (i := 653) (by decide +kernel)⟩
theorem lw_p21 : lw_okq (⟨"BeamPieces$Statics", "turnsWithin", "(I)Z"⟩, 18) := ⟨⟨by decide +kernel, by decide +kernel⟩, List.mem_of_getElem? (i := 113) (by decide +kernel), List.mem_of_getElem? (i := 674) (by decide +kernel), List.mem_of_getElem? (i := 675) (by decide +kernel)⟩
theorem lw_p22 : lw_okq (⟨"BeamPieces", "timesWithin", "(I)I"⟩, 10) := ⟨⟨by decide +kernel, by decide +kernel⟩, List.mem_of_getElem? (i := 20) (by decide +kernel), List.mem_of_getElem? (i := 697) (by decide +kernel), List.mem_of_getElem? (i := 698) (by decide +kernel)⟩
theorem lw_p23 : lw_okq (⟨"BeamPieces", "canRoll", "(I)Z"⟩, 10) := ⟨⟨by decide +kernel, by decide +kernel⟩, List.mem_of_getElem? (i := 20) (by decide +kernel), List.mem_of_getElem? (i := 706) (by decide +kernel), List.mem_of_getElem? (i := 707) (by decide +kernel)⟩
theorem lw_p24 : lw_okq (⟨"BeamPieces", "mostByRolling", "([JII)J"⟩, 10) := ⟨⟨by decide +kernel, by decide +kernel⟩, List.mem_of_getElem? (i := 20) (by decide +kernel), List.mem_of_getElem? (i := 710) (by decide +kernel), List.mem_of_getElem? (i := 711) (by decide +kernel)⟩
theorem lw_p25 : lw_okq (⟨"BeamPieces", "solveRolling", "(I)V"⟩, 10) := ⟨⟨by decide +kernel, by decide +kernel⟩, List.mem_of_getElem? (i := 20) (by decide +kernel), List.mem_of_getElem? (i := 714) (by decide +kernel), List.mem_of_getElem? (i := 715) (by decide +kernel)⟩
theorem lw_p26 : lw_okq (⟨"BeamPieces", "solveUnit", "(I)V"⟩, 10) := ⟨⟨by decide +kernel, by decide +kernel⟩, List.mem_of_getElem? (i := 20) (by decide +kernel), List.mem_of_getElem? (i := 728) (by decide +kernel), List.mem_of_getElem? (i := 729) (by decide +kernel)⟩
theorem lw_p27 : lw_okq (⟨"BeamPieces$Reader", "placeOfNoText", "()I"⟩, 6) := ⟨⟨by decide +kernel, by decide +kernel⟩, List.mem_of_getElem? (i := 231) (by decide +kernel), List.mem_of_getElem? (i := 760) (by decide +kernel), List.mem_of_getElem? (i := 761) (by decide +kernel)⟩
theorem lw_p28 : lw_okq (⟨"BeamPieces$Reader", "readStatement", "()Z"⟩, 6) := ⟨⟨by decide +kernel, by decide +kernel⟩, List.mem_of_getElem? (i := 231) (by decide +kernel), List.mem_of_getElem? (i := 764) (by decide +kernel), List.mem_of_getElem? (i := 765) (by decide +kernel)⟩
theorem lw_p29 : lw_okq (⟨"BeamPieces$Reader", "wordWithin", "(II)I"⟩, 6) := ⟨⟨by decide +kernel, by decide +kernel⟩, List.mem_of_getElem? (i := 231) (by decide +kernel), List.mem_of_getElem? (i := 771) (by decide +kernel), List.mem_of_getElem? (i := 772) (by decide +kernel)⟩
theorem lw_p30 : lw_okq (⟨"BeamPieces$Reader", "spells", "(IILjava/lang/String;)Z"⟩, 6) := ⟨⟨by decide +kernel, by decide +kernel⟩, List.mem_of_getElem? (i := 231) (by decide +kernel), List.mem_of_getElem? (i := 784) (by decide +kernel), List.mem_of_getElem? (i := 785) (by decide +kernel)⟩
theorem lw_p31 : lw_okq (⟨"BeamPieces$Reader", "readNumber", "(IZ)Z"⟩, 6) := ⟨⟨by decide +kernel, by decide +kernel⟩, List.mem_of_getElem? (i := 231) (by decide +kernel), List.mem_of_getElem? (i := 838) (by decide +kernel), List.mem_of_getElem? (i := 839) (by decide +kernel)⟩
def lw_privs_2 : List (MethodName × Nat) := [(⟨"BeamPieces$Statics", "rise", "(I)J"⟩, 18), (⟨"BeamPieces$Statics", "bending", "(I)J"⟩, 18), (⟨"BeamPieces$Statics", "sagAheadOfFirst", "(J)V"⟩, 18), (⟨"BeamPieces$Statics", "sagBehindLast", "(J)V"⟩, 18), (⟨"BeamPieces$Statics", "offerPeak", "()V"⟩, 18), (⟨"BeamPieces$Statics", "turnsWithin", "(I)Z"⟩, 18), (⟨"BeamPieces", "timesWithin", "(I)I"⟩, 10), (⟨"BeamPieces", "canRoll", "(I)Z"⟩, 10), (⟨"BeamPieces", "mostByRolling", "([JII)J"⟩, 10), (⟨"BeamPieces", "solveRolling", "(I)V"⟩, 10), (⟨"BeamPieces", "solveUnit", "(I)V"⟩, 10), (⟨"BeamPieces$Reader", "placeOfNoText", "()I"⟩, 6), (⟨"BeamPieces$Reader", "readStatement", "()Z"⟩, 6), (⟨"BeamPieces$Reader", "wordWithin", "(II)I"⟩, 6), (⟨"BeamPieces$Reader", "spells", "(IILjava/lang/String;)Z"⟩, 6), (⟨"BeamPieces$Reader", "readNumber", "(IZ)Z"⟩, 6)]
theorem lw_r2 : ∀ q ∈ lw_privs_2, lw_okq q := List.forall_mem_cons.mpr ⟨lw_p16, List.forall_mem_cons.mpr ⟨lw_p17, List.forall_mem_cons.mpr ⟨lw_p18, List.forall_mem_cons.mpr ⟨lw_p19, List.forall_mem_cons.mpr ⟨lw_p20, List.forall_mem_cons.mpr ⟨lw_p21, List.forall_mem_cons.mpr ⟨lw_p22, List.forall_mem_cons.mpr ⟨lw_p23, List.forall_mem_cons.mpr ⟨lw_p24, List.forall_mem_cons.mpr ⟨lw_p25, List.forall_mem_cons.mpr ⟨lw_p26, List.forall_mem_cons.mpr ⟨lw_p27, List.forall_mem_cons.mpr ⟨lw_p28, List.forall_mem_cons.mpr ⟨lw_p29, List.forall_mem_cons.mpr ⟨lw_p30, List.forall_mem_cons.mpr ⟨lw_p31, fun _ h => absurd h List.not_mem_nil⟩⟩⟩⟩⟩⟩⟩⟩⟩⟩⟩⟩⟩⟩⟩⟩
theorem lw_p32 : lw_okq (⟨"BeamPieces$Reader", "isNext", "(I)Z"⟩, 6) := ⟨⟨by decide +kernel, by decide +kernel⟩, List.mem_of_getElem? (i := 231) (by decide +kernel), List.mem_of_getElem? (i := 842) (by decide +kernel), List.mem_of_getElem? (i := 843) (by decide +kernel)⟩
theorem lw_p33 : lw_okq (⟨"BeamPieces$Reader", "isFigureNext", "()Z"⟩, 6) := ⟨⟨by decide +kernel, by decide +kernel⟩, List.mem_of_getElem? (i := 231) (by decide +kernel), List.mem_of_getElem? (i := 846) (by decide +kernel), List.mem_of_getElem? (i := 847) (by decide +kernel)⟩
theorem lw_p34 : lw_okq (⟨"BeamPieces$Reader", "whyNotStatement", "()I"⟩, 6) := ⟨⟨by decide +kernel, by decide +kernel⟩, List.mem_of_getElem? (i := 231) (by decide +kernel), List.mem_of_getElem? (i := 851) (by decide +kernel), List.mem_of_getElem? (i := 852) (by decide +kernel)⟩
theorem lw_p35 : lw_okq (⟨"BeamPieces$Reader", "takeStatement", "()V"⟩, 6) := ⟨⟨by decide +kernel, by decide +kernel⟩, List.mem_of_getElem? (i := 231) (by decide +kernel), List.mem_of_getElem? (i := 861) (by decide +kernel), List.mem_of_getElem? (i := 862) (by decide +kernel)⟩
theorem lw_p36 : lw_okq (⟨"BeamPieces", "printPiece", "(I)V"⟩, 10) := ⟨⟨by decide +kernel, by decide +kernel⟩, List.mem_of_getElem? (i := 20) (by decide +kernel), List.mem_of_getElem? (i := 876) (by decide +kernel), List.mem_of_getElem? (i := 877) (by decide +kernel)⟩
theorem lw_p37 : lw_okq (⟨"BeamPieces", "numbersInAll", "()I"⟩, 10) := ⟨⟨by decide +kernel, by decide +kernel⟩, List.mem_of_getElem? (i := 20) (by decide +kernel), List.mem_of_getElem? (i := 949) (by decide +kernel), List.mem_of_getElem? (i := 950) (by decide +kernel)⟩
theorem lw_p38 : lw_okq (⟨"BeamPieces", "numberOfMoments", "(I)J"⟩, 10) := ⟨⟨by decide +kernel, by decide +kernel⟩, List.mem_of_getElem? (i := 20) (by decide +kernel), List.mem_of_getElem? (i := 953) (by decide +kernel), List.mem_of_getElem? (i := 954) (by decide +kernel)⟩
theorem lw_p39 : lw_okq (⟨"BeamPiecesModel", "isPlace", "(I)Z"⟩, 35) := ⟨⟨by decide +kernel, by decide +kernel⟩, List.mem_of_getElem? (i := 980) (by decide +kernel), List.mem_of_getElem? (i := 1106) (by decide +kernel), List.mem_of_getElem? (i := 1107) (by decide +kernel)⟩
theorem lw_p40 : lw_okq (⟨"BeamPiecesModel", "supportAt", "(I)I"⟩, 35) := ⟨⟨by decide +kernel, by decide +kernel⟩, List.mem_of_getElem? (i := 980) (by decide +kernel), List.mem_of_getElem? (i := 1110) (by decide +kernel), List.mem_of_getElem? (i := 1111) (by decide +kernel)⟩
theorem lw_p41 : lw_okq (⟨"BeamPiecesModel", "changes", "()V"⟩, 35) := ⟨⟨by decide +kernel, by decide +kernel⟩, List.mem_of_getElem? (i := 980) (by decide +kernel), List.mem_of_getElem? (i := 1114) (by decide +kernel), List.mem_of_getElem? (i := 1115) (by decide +kernel)⟩
theorem lw_p42 : lw_okq (⟨"BeamPiecesModel", "comes", "(III)I"⟩, 35) := ⟨⟨by decide +kernel, by decide +kernel⟩, List.mem_of_getElem? (i := 980) (by decide +kernel), List.mem_of_getElem? (i := 1132) (by decide +kernel), List.mem_of_getElem? (i := 1133) (by decide +kernel)⟩
theorem lw_p43 : lw_okq (⟨"BeamPiecesModel", "isLoad", "(I)Z"⟩, 35) := ⟨⟨by decide +kernel, by decide +kernel⟩, List.mem_of_getElem? (i := 980) (by decide +kernel), List.mem_of_getElem? (i := 1144) (by decide +kernel), List.mem_of_getElem? (i := 1145) (by decide +kernel)⟩
theorem lw_p44 : lw_okq (⟨"BeamPiecesModel", "isSupport", "(I)Z"⟩, 35) := ⟨⟨by decide +kernel, by decide +kernel⟩, List.mem_of_getElem? (i := 980) (by decide +kernel), List.mem_of_getElem? (i := 1169) (by decide +kernel), List.mem_of_getElem? (i := 1170) (by decide +kernel)⟩
theorem lw_p45 : lw_okq (⟨"BeamPiecesModel", "allLoads", "()I"⟩, 35) := ⟨⟨by decide +kernel, by decide +kernel⟩, List.mem_of_getElem? (i := 980) (by decide +kernel), List.mem_of_getElem? (i := 1177) (by decide +kernel), List.mem_of_getElem? (i := 1178) (by decide +kernel)⟩
theorem lw_p46 : lw_okq (⟨"BeamPiecesModel", "stands", "()Z"⟩, 35) := ⟨⟨by decide +kernel, by decide +kernel⟩, List.mem_of_getElem? (i := 980) (by decide +kernel), List.mem_of_getElem? (i := 1185) (by decide +kernel), List.mem_of_getElem? (i := 1186) (by decide +kernel)⟩
theorem lw_p47 : lw_okq (⟨"BeamPiecesModel", "reactions", "()V"⟩, 35) := ⟨⟨by decide +kernel, by decide +kernel⟩, List.mem_of_getElem? (i := 980) (by decide +kernel), List.mem_of_getElem? (i := 1190) (by decide +kernel), List.mem_of_getElem? (i := 1191) (by decide +kernel)⟩
def lw_privs_3 : List (MethodName × Nat) := [(⟨"BeamPieces$Reader", "isNext", "(I)Z"⟩, 6), (⟨"BeamPieces$Reader", "isFigureNext", "()Z"⟩, 6), (⟨"BeamPieces$Reader", "whyNotStatement", "()I"⟩, 6), (⟨"BeamPieces$Reader", "takeStatement", "()V"⟩, 6), (⟨"BeamPieces", "printPiece", "(I)V"⟩, 10), (⟨"BeamPieces", "numbersInAll", "()I"⟩, 10), (⟨"BeamPieces", "numberOfMoments", "(I)J"⟩, 10), (⟨"BeamPiecesModel", "isPlace", "(I)Z"⟩, 35), (⟨"BeamPiecesModel", "supportAt", "(I)I"⟩, 35), (⟨"BeamPiecesModel", "changes", "()V"⟩, 35), (⟨"BeamPiecesModel", "comes", "(III)I"⟩, 35), (⟨"BeamPiecesModel", "isLoad", "(I)Z"⟩, 35), (⟨"BeamPiecesModel", "isSupport", "(I)Z"⟩, 35), (⟨"BeamPiecesModel", "allLoads", "()I"⟩, 35), (⟨"BeamPiecesModel", "stands", "()Z"⟩, 35), (⟨"BeamPiecesModel", "reactions", "()V"⟩, 35)]
theorem lw_r3 : ∀ q ∈ lw_privs_3, lw_okq q := List.forall_mem_cons.mpr ⟨lw_p32, List.forall_mem_cons.mpr ⟨lw_p33, List.forall_mem_cons.mpr ⟨lw_p34, List.forall_mem_cons.mpr ⟨lw_p35, List.forall_mem_cons.mpr ⟨lw_p36, List.forall_mem_cons.mpr ⟨lw_p37, List.forall_mem_cons.mpr ⟨lw_p38, List.forall_mem_cons.mpr ⟨lw_p39, List.forall_mem_cons.mpr ⟨lw_p40, List.forall_mem_cons.mpr ⟨lw_p41, List.forall_mem_cons.mpr ⟨lw_p42, List.forall_mem_cons.mpr ⟨lw_p43, List.forall_mem_cons.mpr ⟨lw_p44, List.forall_mem_cons.mpr ⟨lw_p45, List.forall_mem_cons.mpr ⟨lw_p46, List.forall_mem_cons.mpr ⟨lw_p47, fun _ h => absurd h List.not_mem_nil⟩⟩⟩⟩⟩⟩⟩⟩⟩⟩⟩⟩⟩⟩⟩⟩
theorem lw_p48 : lw_okq (⟨"BeamPiecesModel", "moments", "()V"⟩, 35) := ⟨⟨by decide +kernel, by decide +kernel⟩, List.mem_of_getElem? (i := 980) (by decide +kernel), List.mem_of_getElem? (i := 1194) (by decide +kernel), List.mem_of_getElem? (i := 1195) (by decide +kernel)⟩
theorem lw_p49 : lw_okq (⟨"BeamPiecesModel", "beyond", "(IZ)J"⟩, 35) := ⟨⟨by decide +kernel, by decide +kernel⟩, List.mem_of_getElem? (i := 980) (by decide +kernel), List.mem_of_getElem? (i := 1198) (by decide +kernel), List.mem_of_getElem? (i := 1199) (by decide +kernel)⟩
theorem lw_p50 : lw_okq (⟨"BeamPiecesModel", "isSpread", "(I)Z"⟩, 35) := ⟨⟨by decide +kernel, by decide +kernel⟩, List.mem_of_getElem? (i := 980) (by decide +kernel), List.mem_of_getElem? (i := 1205) (by decide +kernel), List.mem_of_getElem? (i := 1206) (by decide +kernel)⟩
theorem lw_p51 : lw_okq (⟨"BeamPiecesModel", "is", "(JJ)V"⟩, 35) := ⟨⟨by decide +kernel, by decide +kernel⟩, List.mem_of_getElem? (i := 980) (by decide +kernel), List.mem_of_getElem? (i := 1209) (by decide +kernel), List.mem_of_getElem? (i := 1210) (by decide +kernel)⟩
theorem lw_p52 : lw_okq (⟨"BeamPiecesModel", "keeps", "(I)V"⟩, 35) := ⟨⟨by decide +kernel, by decide +kernel⟩, List.mem_of_getElem? (i := 980) (by decide +kernel), List.mem_of_getElem? (i := 1216) (by decide +kernel), List.mem_of_getElem? (i := 1217) (by decide +kernel)⟩
theorem lw_p53 : lw_okq (⟨"BeamPiecesModel", "gives", "(I)V"⟩, 35) := ⟨⟨by decide +kernel, by decide +kernel⟩, List.mem_of_getElem? (i := 980) (by decide +kernel), List.mem_of_getElem? (i := 1220) (by decide +kernel), List.mem_of_getElem? (i := 1221) (by decide +kernel)⟩
theorem lw_p54 : lw_okq (⟨"BeamPiecesModel", "spanOf", "(I)I"⟩, 35) := ⟨⟨by decide +kernel, by decide +kernel⟩, List.mem_of_getElem? (i := 980) (by decide +kernel), List.mem_of_getElem? (i := 1224) (by decide +kernel), List.mem_of_getElem? (i := 1225) (by decide +kernel)⟩
theorem lw_p55 : lw_okq (⟨"BeamPiecesModel", "sums", "(IIZ)J"⟩, 35) := ⟨⟨by decide +kernel, by decide +kernel⟩, List.mem_of_getElem? (i := 980) (by decide +kernel), List.mem_of_getElem? (i := 1228) (by decide +kernel), List.mem_of_getElem? (i := 1229) (by decide +kernel)⟩
theorem lw_p56 : lw_okq (⟨"BeamPiecesModel", "plus", "(JJ)V"⟩, 35) := ⟨⟨by decide +kernel, by decide +kernel⟩, List.mem_of_getElem? (i := 980) (by decide +kernel), List.mem_of_getElem? (i := 1239) (by decide +kernel), List.mem_of_getElem? (i := 1240) (by decide +kernel)⟩
theorem lw_p57 : lw_okq (⟨"BeamPiecesModel", "isLoose", "(I)Z"⟩, 35) := ⟨⟨by decide +kernel, by decide +kernel⟩, List.mem_of_getElem? (i := 980) (by decide +kernel), List.mem_of_getElem? (i := 1243) (by decide +kernel), List.mem_of_getElem? (i := 1244) (by decide +kernel)⟩
theorem lw_p58 : lw_okq (⟨"BeamPiecesModel", "alone", "(I)V"⟩, 35) := ⟨⟨by decide +kernel, by decide +kernel⟩, List.mem_of_getElem? (i := 980) (by decide +kernel), List.mem_of_getElem? (i := 1247) (by decide +kernel), List.mem_of_getElem? (i := 1248) (by decide +kernel)⟩
theorem lw_p59 : lw_okq (⟨"BeamPiecesModel", "pointsAt", "(I)J"⟩, 35) := ⟨⟨by decide +kernel, by decide +kernel⟩, List.mem_of_getElem? (i := 980) (by decide +kernel), List.mem_of_getElem? (i := 1251) (by decide +kernel), List.mem_of_getElem? (i := 1252) (by decide +kernel)⟩
theorem lw_p60 : lw_okq (⟨"BeamPiecesModel", "beside", "(IZ)J"⟩, 35) := ⟨⟨by decide +kernel, by decide +kernel⟩, List.mem_of_getElem? (i := 980) (by decide +kernel), List.mem_of_getElem? (i := 1255) (by decide +kernel), List.mem_of_getElem? (i := 1256) (by decide +kernel)⟩
theorem lw_p61 : lw_okq (⟨"BeamPiecesModel", "bears", "(IIZ)V"⟩, 35) := ⟨⟨by decide +kernel, by decide +kernel⟩, List.mem_of_getElem? (i := 980) (by decide +kernel), List.mem_of_getElem? (i := 1259) (by decide +kernel), List.mem_of_getElem? (i := 1260) (by decide +kernel)⟩
theorem lw_p62 : lw_okq (⟨"BeamPiecesModel", "shearBehind", "(I)J"⟩, 35) := ⟨⟨by decide +kernel, by decide +kernel⟩, List.mem_of_getElem? (i := 980) (by decide +kernel), List.mem_of_getElem? (i := 1267) (by decide +kernel), List.mem_of_getElem? (i := 1268) (by decide +kernel)⟩
theorem lw_p63 : lw_okq (⟨"BeamPiecesModel", "momentAt", "(JJ)J"⟩, 35) := ⟨⟨by decide +kernel, by decide +kernel⟩, List.mem_of_getElem? (i := 980) (by decide +kernel), List.mem_of_getElem? (i := 1276) (by decide +kernel), List.mem_of_getElem? (i := 1277) (by decide +kernel)⟩
def lw_privs_4 : List (MethodName × Nat) := [(⟨"BeamPiecesModel", "moments", "()V"⟩, 35), (⟨"BeamPiecesModel", "beyond", "(IZ)J"⟩, 35), (⟨"BeamPiecesModel", "isSpread", "(I)Z"⟩, 35), (⟨"BeamPiecesModel", "is", "(JJ)V"⟩, 35), (⟨"BeamPiecesModel", "keeps", "(I)V"⟩, 35), (⟨"BeamPiecesModel", "gives", "(I)V"⟩, 35), (⟨"BeamPiecesModel", "spanOf", "(I)I"⟩, 35), (⟨"BeamPiecesModel", "sums", "(IIZ)J"⟩, 35), (⟨"BeamPiecesModel", "plus", "(JJ)V"⟩, 35), (⟨"BeamPiecesModel", "isLoose", "(I)Z"⟩, 35), (⟨"BeamPiecesModel", "alone", "(I)V"⟩, 35), (⟨"BeamPiecesModel", "pointsAt", "(I)J"⟩, 35), (⟨"BeamPiecesModel", "beside", "(IZ)J"⟩, 35), (⟨"BeamPiecesModel", "bears", "(IIZ)V"⟩, 35), (⟨"BeamPiecesModel", "shearBehind", "(I)J"⟩, 35), (⟨"BeamPiecesModel", "momentAt", "(JJ)J"⟩, 35)]
theorem lw_r4 : ∀ q ∈ lw_privs_4, lw_okq q := List.forall_mem_cons.mpr ⟨lw_p48, List.forall_mem_cons.mpr ⟨lw_p49, List.forall_mem_cons.mpr ⟨lw_p50, List.forall_mem_cons.mpr ⟨lw_p51, List.forall_mem_cons.mpr ⟨lw_p52, List.forall_mem_cons.mpr ⟨lw_p53, List.forall_mem_cons.mpr ⟨lw_p54, List.forall_mem_cons.mpr ⟨lw_p55, List.forall_mem_cons.mpr ⟨lw_p56, List.forall_mem_cons.mpr ⟨lw_p57, List.forall_mem_cons.mpr ⟨lw_p58, List.forall_mem_cons.mpr ⟨lw_p59, List.forall_mem_cons.mpr ⟨lw_p60, List.forall_mem_cons.mpr ⟨lw_p61, List.forall_mem_cons.mpr ⟨lw_p62, List.forall_mem_cons.mpr ⟨lw_p63, fun _ h => absurd h List.not_mem_nil⟩⟩⟩⟩⟩⟩⟩⟩⟩⟩⟩⟩⟩⟩⟩⟩
theorem lw_p64 : lw_okq (⟨"BeamPiecesModel", "sagAt", "(I)J"⟩, 35) := ⟨⟨by decide +kernel, by decide +kernel⟩, List.mem_of_getElem? (i := 980) (by decide +kernel), List.mem_of_getElem? (i := 1284) (by decide +kernel), List.mem_of_getElem? (i := 1285) (by decide +kernel)⟩
theorem lw_p65 : lw_okq (⟨"BeamPiecesModel", "spreadOn", "(I)I"⟩, 35) := ⟨⟨by decide +kernel, by decide +kernel⟩, List.mem_of_getElem? (i := 980) (by decide +kernel), List.mem_of_getElem? (i := 1288) (by decide +kernel), List.mem_of_getElem? (i := 1289) (by decide +kernel)⟩
theorem lw_p66 : lw_okq (⟨"BeamPiecesModel", "wideAt", "(I)I"⟩, 35) := ⟨⟨by decide +kernel, by decide +kernel⟩, List.mem_of_getElem? (i := 980) (by decide +kernel), List.mem_of_getElem? (i := 1295) (by decide +kernel), List.mem_of_getElem? (i := 1296) (by decide +kernel)⟩
theorem lw_p67 : lw_okq (⟨"BeamPiecesModel", "looks", "(I)V"⟩, 35) := ⟨⟨by decide +kernel, by decide +kernel⟩, List.mem_of_getElem? (i := 980) (by decide +kernel), List.mem_of_getElem? (i := 1310) (by decide +kernel), List.mem_of_getElem? (i := 1311) (by decide +kernel)⟩
theorem lw_p68 : lw_okq (⟨"BeamPiecesModel", "tries", "(JJJJ)V"⟩, 35) := ⟨⟨by decide +kernel, by decide +kernel⟩, List.mem_of_getElem? (i := 980) (by decide +kernel), List.mem_of_getElem? (i := 1314) (by decide +kernel), List.mem_of_getElem? (i := 1315) (by decide +kernel)⟩
theorem lw_p69 : lw_okq (⟨"BeamPiecesModel", "span", "()V"⟩, 35) := ⟨⟨by decide +kernel, by decide +kernel⟩, List.mem_of_getElem? (i := 980) (by decide +kernel), List.mem_of_getElem? (i := 1323) (by decide +kernel), List.mem_of_getElem? (i := 1324) (by decide +kernel)⟩
theorem lw_p70 : lw_okq (⟨"BeamPiecesModel", "most", "(III)J"⟩, 35) := ⟨⟨by decide +kernel, by decide +kernel⟩, List.mem_of_getElem? (i := 980) (by decide +kernel), List.mem_of_getElem? (i := 1331) (by decide +kernel), List.mem_of_getElem? (i := 1332) (by decide +kernel)⟩
theorem lw_p71 : lw_okq (⟨"BeamPiecesModel", "thinks", "()V"⟩, 35) := ⟨⟨by decide +kernel, by decide +kernel⟩, List.mem_of_getElem? (i := 980) (by decide +kernel), List.mem_of_getElem? (i := 1335) (by decide +kernel), List.mem_of_getElem? (i := 1336) (by decide +kernel)⟩
theorem lw_p72 : lw_okq (⟨"BeamPiecesModel", "alone", "(II)V"⟩, 35) := ⟨⟨by decide +kernel, by decide +kernel⟩, List.mem_of_getElem? (i := 980) (by decide +kernel), List.mem_of_getElem? (i := 1342) (by decide +kernel), List.mem_of_getElem? (i := 1343) (by decide +kernel)⟩
theorem lw_p73 : lw_okq (⟨"BeamPiecesModel", "asked", "(II)V"⟩, 35) := ⟨⟨by decide +kernel, by decide +kernel⟩, List.mem_of_getElem? (i := 980) (by decide +kernel), List.mem_of_getElem? (i := 1346) (by decide +kernel), List.mem_of_getElem? (i := 1347) (by decide +kernel)⟩
theorem lw_p74 : lw_okq (⟨"BeamPiecesModel", "laysBack", "()V"⟩, 35) := ⟨⟨by decide +kernel, by decide +kernel⟩, List.mem_of_getElem? (i := 980) (by decide +kernel), List.mem_of_getElem? (i := 1350) (by decide +kernel), List.mem_of_getElem? (i := 1351) (by decide +kernel)⟩
theorem lw_p75 : lw_okq (⟨"BeamPiecesModel", "byUnit", "(IIII)J"⟩, 35) := ⟨⟨by decide +kernel, by decide +kernel⟩, List.mem_of_getElem? (i := 980) (by decide +kernel), List.mem_of_getElem? (i := 1362) (by decide +kernel), List.mem_of_getElem? (i := 1363) (by decide +kernel)⟩
theorem lw_p76 : lw_okq (⟨"BeamPiecesModel", "takesAll", "()I"⟩, 35) := ⟨⟨by decide +kernel, by decide +kernel⟩, List.mem_of_getElem? (i := 980) (by decide +kernel), List.mem_of_getElem? (i := 1387) (by decide +kernel), List.mem_of_getElem? (i := 1388) (by decide +kernel)⟩
theorem lw_p77 : lw_okq (⟨"BeamPiecesModel", "takesOne", "()Z"⟩, 35) := ⟨⟨by decide +kernel, by decide +kernel⟩, List.mem_of_getElem? (i := 980) (by decide +kernel), List.mem_of_getElem? (i := 1391) (by decide +kernel), List.mem_of_getElem? (i := 1392) (by decide +kernel)⟩
theorem lw_p78 : lw_okq (⟨"BeamPiecesModel", "word", "()I"⟩, 35) := ⟨⟨by decide +kernel, by decide +kernel⟩, List.mem_of_getElem? (i := 980) (by decide +kernel), List.mem_of_getElem? (i := 1395) (by decide +kernel), List.mem_of_getElem? (i := 1396) (by decide +kernel)⟩
theorem lw_p79 : lw_okq (⟨"BeamPiecesModel", "takes", "(IZ)Z"⟩, 35) := ⟨⟨by decide +kernel, by decide +kernel⟩, List.mem_of_getElem? (i := 980) (by decide +kernel), List.mem_of_getElem? (i := 1401) (by decide +kernel), List.mem_of_getElem? (i := 1402) (by decide +kernel)⟩
def lw_privs_5 : List (MethodName × Nat) := [(⟨"BeamPiecesModel", "sagAt", "(I)J"⟩, 35), (⟨"BeamPiecesModel", "spreadOn", "(I)I"⟩, 35), (⟨"BeamPiecesModel", "wideAt", "(I)I"⟩, 35), (⟨"BeamPiecesModel", "looks", "(I)V"⟩, 35), (⟨"BeamPiecesModel", "tries", "(JJJJ)V"⟩, 35), (⟨"BeamPiecesModel", "span", "()V"⟩, 35), (⟨"BeamPiecesModel", "most", "(III)J"⟩, 35), (⟨"BeamPiecesModel", "thinks", "()V"⟩, 35), (⟨"BeamPiecesModel", "alone", "(II)V"⟩, 35), (⟨"BeamPiecesModel", "asked", "(II)V"⟩, 35), (⟨"BeamPiecesModel", "laysBack", "()V"⟩, 35), (⟨"BeamPiecesModel", "byUnit", "(IIII)J"⟩, 35), (⟨"BeamPiecesModel", "takesAll", "()I"⟩, 35), (⟨"BeamPiecesModel", "takesOne", "()Z"⟩, 35), (⟨"BeamPiecesModel", "word", "()I"⟩, 35), (⟨"BeamPiecesModel", "takes", "(IZ)Z"⟩, 35)]
theorem lw_r5 : ∀ q ∈ lw_privs_5, lw_okq q := List.forall_mem_cons.mpr ⟨lw_p64, List.forall_mem_cons.mpr ⟨lw_p65, List.forall_mem_cons.mpr ⟨lw_p66, List.forall_mem_cons.mpr ⟨lw_p67, List.forall_mem_cons.mpr ⟨lw_p68, List.forall_mem_cons.mpr ⟨lw_p69, List.forall_mem_cons.mpr ⟨lw_p70, List.forall_mem_cons.mpr ⟨lw_p71, List.forall_mem_cons.mpr ⟨lw_p72, List.forall_mem_cons.mpr ⟨lw_p73, List.forall_mem_cons.mpr ⟨lw_p74, List.forall_mem_cons.mpr ⟨lw_p75, List.forall_mem_cons.mpr ⟨lw_p76, List.forall_mem_cons.mpr ⟨lw_p77, List.forall_mem_cons.mpr ⟨lw_p78, List.forall_mem_cons.mpr ⟨lw_p79, fun _ h => absurd h List.not_mem_nil⟩⟩⟩⟩⟩⟩⟩⟩⟩⟩⟩⟩⟩⟩⟩⟩
theorem lw_p80 : lw_okq (⟨"BeamPiecesModel", "here", "()I"⟩, 35) := ⟨⟨by decide +kernel, by decide +kernel⟩, List.mem_of_getElem? (i := 980) (by decide +kernel), List.mem_of_getElem? (i := 1405) (by decide +kernel), List.mem_of_getElem? (i := 1406) (by decide +kernel)⟩
theorem lw_p81 : lw_okq (⟨"BeamPiecesModel", "does", "(I)I"⟩, 35) := ⟨⟨by decide +kernel, by decide +kernel⟩, List.mem_of_getElem? (i := 980) (by decide +kernel), List.mem_of_getElem? (i := 1411) (by decide +kernel), List.mem_of_getElem? (i := 1412) (by decide +kernel)⟩
theorem lw_p82 : lw_okq (⟨"BeamPiecesModel", "number", "(J)V"⟩, 35) := ⟨⟨by decide +kernel, by decide +kernel⟩, List.mem_of_getElem? (i := 980) (by decide +kernel), List.mem_of_getElem? (i := 1425) (by decide +kernel), List.mem_of_getElem? (i := 1426) (by decide +kernel)⟩
theorem lw_p83 : lw_okq (⟨"BeamPiecesModel", "sign", "(I)V"⟩, 35) := ⟨⟨by decide +kernel, by decide +kernel⟩, List.mem_of_getElem? (i := 980) (by decide +kernel), List.mem_of_getElem? (i := 1429) (by decide +kernel), List.mem_of_getElem? (i := 1430) (by decide +kernel)⟩
theorem lw_p84 : lw_okq (⟨"BeamPiecesModel", "fraction", "(JJZ)V"⟩, 35) := ⟨⟨by decide +kernel, by decide +kernel⟩, List.mem_of_getElem? (i := 980) (by decide +kernel), List.mem_of_getElem? (i := 1433) (by decide +kernel), List.mem_of_getElem? (i := 1434) (by decide +kernel)⟩
def lw_privs_6 : List (MethodName × Nat) := [(⟨"BeamPiecesModel", "here", "()I"⟩, 35), (⟨"BeamPiecesModel", "does", "(I)I"⟩, 35), (⟨"BeamPiecesModel", "number", "(J)V"⟩, 35), (⟨"BeamPiecesModel", "sign", "(I)V"⟩, 35), (⟨"BeamPiecesModel", "fraction", "(JJZ)V"⟩, 35)]
theorem lw_r6 : ∀ q ∈ lw_privs_6, lw_okq q := List.forall_mem_cons.mpr ⟨lw_p80, List.forall_mem_cons.mpr ⟨lw_p81, List.forall_mem_cons.mpr ⟨lw_p82, List.forall_mem_cons.mpr ⟨lw_p83, List.forall_mem_cons.mpr ⟨lw_p84, fun _ h => absurd h List.not_mem_nil⟩⟩⟩⟩⟩
def lw_privs : List (MethodName × Nat) := lw_privs_1 ++ (lw_privs_2 ++ (lw_privs_3 ++ (lw_privs_4 ++ (lw_privs_5 ++ (lw_privs_6)))))
def lw_tbl : List Cond := k2_sels lw_privs ++ tables_1
theorem lw_privs_ok : ∀ q ∈ lw_privs, lw_okq q := by
  show ∀ q ∈ lw_privs_1 ++ (lw_privs_2 ++ (lw_privs_3 ++ (lw_privs_4 ++ (lw_privs_5 ++ (lw_privs_6))))), lw_okq q
  exact List.forall_mem_append.mpr ⟨lw_r1, List.forall_mem_append.mpr ⟨lw_r2, List.forall_mem_append.mpr ⟨lw_r3, List.forall_mem_append.mpr ⟨lw_r4, List.forall_mem_append.mpr ⟨lw_r5, lw_r6⟩⟩⟩⟩⟩
end
section
/-! ===== BEGIN words of one list among another's, by their places ===== -/
theorem goodIn_r {big : List Cond} (ws : List Cond) (ps : List Nat) (hp : ws = ps.filterMap (fun i => big[i]?)) (h : ws.all goodWord = true) : GoodIn big ws := by
  intro w hw
  have h1 := List.all_eq_true.mp h w hw
  rw [hp] at hw
  obtain ⟨i, -, hi⟩ := List.mem_filterMap.mp hw
  have hm : w ∈ big := by first | exact List.mem_of_getElem? hi | exact List.getElem?_mem hi
  exact ⟨hm, good_of_word h1⟩
theorem goodIn_app {big a b : List Cond} (ha : GoodIn big a) (hb : GoodIn big b) : GoodIn big (a ++ b) := fun w h => (List.mem_append.mp h).elim (ha w) (hb w)
theorem goodIn_ca {big a b : List Cond} {c : Cond} (ha : GoodIn big (c :: a)) (hb : GoodIn big b) : GoodIn big (c :: (a ++ b)) := fun w h => (List.mem_cons.mp h).elim (fun e => ha w (List.mem_cons.mpr (Or.inl e))) (fun h => (List.mem_append.mp h).elim (fun h => ha w (List.mem_cons.mpr (Or.inr h))) (hb w))
theorem goodIn_sub {big ws : List Cond} (hm : ∀ w ∈ ws, w ∈ big) (h : ws.all goodWord = true) : GoodIn big ws := fun w hw => ⟨hm w hw, good_of_word (List.all_eq_true.mp h w hw)⟩
/-! ===== END ===== -/

/-! ===== BEGIN printed: names, fields, word lists, decode rows ===== -/
def RX0 : String := "BeamPieces$Beam"
def TX0 : u_T := fun k => match k with
  | 0 => ("BeamPieces$Beam", "length", "I", false)
  | 1 => ("BeamPieces$Beam", "supports", "I", false)
  | 2 => ("BeamPieces$Beam", "place", "[I", true)
  | 3 => ("BeamPieces$Beam", "joint", "[I", true)
  | 4 => ("BeamPieces$Beam", "loads", "I", false)
  | 5 => ("BeamPieces$Beam", "from", "[I", true)
  | 6 => ("BeamPieces$Beam", "to", "[I", true)
  | 7 => ("BeamPieces$Beam", "v", "[I", true)
  | 8 => ("BeamPieces$Beam", "pointed", "[I", true)
  | 9 => ("BeamPieces$Beam", "axles", "I", false)
  | 10 => ("BeamPieces$Beam", "behind", "[I", true)
  | _ => ("BeamPieces$Beam", "weight", "[I", true)
def tyX0 : Nat → FieldType := fun k => match k with
  | 0 => .int
  | 1 => .int
  | 2 => .array .int
  | 3 => .array .int
  | 4 => .int
  | 5 => .array .int
  | 6 => .array .int
  | 7 => .array .int
  | 8 => .array .int
  | 9 => .int
  | 10 => .array .int
  | _ => .array .int
abbrev wsX00 : List Cond := u_ws RX0 TX0 12
theorem nmX0 : ∀ a, a < 12 → ∀ b, b < 12 → a ≠ b → (TX0 a).2.1 ≠ (TX0 b).2.1 := by decide +kernel
theorem tyX0_ok : ∀ k, k < 12 → parseFieldDescriptor (TX0 k).2.2.1 = some (tyX0 k) := by decide +kernel
abbrev cX0_init : ByteArray := prog_2_method_1_code
def yX0_init : MethodName := ⟨RX0, "<init>", "()V"⟩
abbrev cX0_become : ByteArray := prog_2_method_2_code
def yX0_become : MethodName := ⟨RX0, "become", "(LBeamPieces$Beam;)V"⟩
abbrev cX0_clear : ByteArray := prog_2_method_3_code
def yX0_clear : MethodName := ⟨RX0, "clear", "(I)V"⟩
abbrev cX0_stands : ByteArray := prog_2_method_4_code
def yX0_stands : MethodName := ⟨RX0, "stands", "()Z"⟩
abbrev cX0_isPlace : ByteArray := prog_2_method_5_code
def yX0_isPlace : MethodName := ⟨RX0, "isPlace", "(I)Z"⟩
abbrev cX0_isSupport : ByteArray := prog_2_method_6_code
def yX0_isSupport : MethodName := ⟨RX0, "isSupport", "(I)Z"⟩
abbrev cX0_isLoad : ByteArray := prog_2_method_7_code
def yX0_isLoad : MethodName := ⟨RX0, "isLoad", "(I)Z"⟩
abbrev cX0_numberAt : ByteArray := prog_2_method_8_code
def yX0_numberAt : MethodName := ⟨RX0, "numberAt", "(I)I"⟩
abbrev cX0_together : ByteArray := prog_2_method_9_code
def yX0_together : MethodName := ⟨RX0, "together", "()I"⟩
abbrev cX0_whyNotLength : ByteArray := prog_2_method_10_code
def yX0_whyNotLength : MethodName := ⟨RX0, "whyNotLength", "(I)I"⟩
abbrev cX0_whyNotSupport : ByteArray := prog_2_method_11_code
def yX0_whyNotSupport : MethodName := ⟨RX0, "whyNotSupport", "(I)I"⟩
abbrev cX0_whyNotAtSupport : ByteArray := prog_2_method_12_code
def yX0_whyNotAtSupport : MethodName := ⟨RX0, "whyNotAtSupport", "(I)I"⟩
abbrev cX0_whyNotPoint : ByteArray := prog_2_method_13_code
def yX0_whyNotPoint : MethodName := ⟨RX0, "whyNotPoint", "(II)I"⟩
abbrev cX0_whyNotSpread : ByteArray := prog_2_method_14_code
def yX0_whyNotSpread : MethodName := ⟨RX0, "whyNotSpread", "(III)I"⟩
abbrev cX0_whyNotAxle : ByteArray := prog_2_method_15_code
def yX0_whyNotAxle : MethodName := ⟨RX0, "whyNotAxle", "(II)I"⟩
abbrev cX0_putSupport : ByteArray := prog_2_method_16_code
def yX0_putSupport : MethodName := ⟨RX0, "putSupport", "(I)I"⟩
abbrev cX0_takeSupport : ByteArray := prog_2_method_17_code
def yX0_takeSupport : MethodName := ⟨RX0, "takeSupport", "(I)I"⟩
abbrev cX0_putHinge : ByteArray := prog_2_method_18_code
def yX0_putHinge : MethodName := ⟨RX0, "putHinge", "(II)I"⟩
abbrev cX0_putLoad : ByteArray := prog_2_method_19_code
def yX0_putLoad : MethodName := ⟨RX0, "putLoad", "(IIII)I"⟩
abbrev cX0_takeLoad : ByteArray := prog_2_method_20_code
def yX0_takeLoad : MethodName := ⟨RX0, "takeLoad", "(I)I"⟩
abbrev cX0_putAxle : ByteArray := prog_2_method_21_code
def yX0_putAxle : MethodName := ⟨RX0, "putAxle", "(II)I"⟩
def RX1 : String := "BeamPieces$Changes"
def TX1 : u_T := fun k => match k with
  | 0 => ("BeamPieces$Changes", "size", "I", false)
  | 1 => ("BeamPieces$Changes", "next", "I", false)
  | _ => ("BeamPieces$Changes", "olds", "[LBeamPieces$Beam;", true)
def tyX1 : Nat → FieldType := fun k => match k with
  | 0 => .int
  | 1 => .int
  | _ => .array (.object "BeamPieces$Beam")
abbrev wsX10 : List Cond := u_ws RX1 TX1 3
theorem nmX1 : ∀ a, a < 3 → ∀ b, b < 3 → a ≠ b → (TX1 a).2.1 ≠ (TX1 b).2.1 := by decide +kernel
theorem tyX1_ok : ∀ k, k < 3 → parseFieldDescriptor (TX1 k).2.2.1 = some (tyX1 k) := by decide +kernel
abbrev cX1_init : ByteArray := prog_3_method_1_code
def yX1_init : MethodName := ⟨RX1, "<init>", "()V"⟩
abbrev cX1_keep : ByteArray := prog_3_method_2_code
def yX1_keep : MethodName := ⟨RX1, "keep", "(LBeamPieces$Beam;)V"⟩
abbrev cX1_layBack : ByteArray := prog_3_method_3_code
def yX1_layBack : MethodName := ⟨RX1, "layBack", "(LBeamPieces$Beam;)V"⟩
abbrev cX1_forget : ByteArray := prog_3_method_4_code
def yX1_forget : MethodName := ⟨RX1, "forget", "()V"⟩
def RX2 : String := "BeamPieces$Fraction"
def TX2 : u_T := fun k => match k with
  | 0 => ("BeamPieces$Fraction", "above", "J", false)
  | _ => ("BeamPieces$Fraction", "below", "J", false)
def tyX2 : Nat → FieldType := fun k => match k with
  | 0 => .long
  | _ => .long
abbrev wsX20 : List Cond := u_ws RX2 TX2 2
theorem nmX2 : ∀ a, a < 2 → ∀ b, b < 2 → a ≠ b → (TX2 a).2.1 ≠ (TX2 b).2.1 := by decide +kernel
theorem tyX2_ok : ∀ k, k < 2 → parseFieldDescriptor (TX2 k).2.2.1 = some (tyX2 k) := by decide +kernel
abbrev cX2_init : ByteArray := prog_4_method_1_code
def yX2_init : MethodName := ⟨RX2, "<init>", "()V"⟩
abbrev cX2_become : ByteArray := prog_4_method_2_code
def yX2_become : MethodName := ⟨RX2, "become", "(JJ)V"⟩
abbrev cX2_copy : ByteArray := prog_4_method_3_code
def yX2_copy : MethodName := ⟨RX2, "copy", "(LBeamPieces$Fraction;)V"⟩
abbrev cX2_told : ByteArray := prog_4_method_4_code
def yX2_told : MethodName := ⟨RX2, "told", "(I)J"⟩
abbrev cX2_against : ByteArray := prog_4_method_5_code
def yX2_against : MethodName := ⟨RX2, "against", "(LBeamPieces$Fraction;)I"⟩
def RX3 : String := "BeamPieces$Paper"
def TX3 : u_T := fun k => match k with
  | 0 => ("BeamPieces$Paper", "size", "I", false)
  | 1 => ("BeamPieces$Paper", "bytes", "[B", true)
  | _ => ("BeamPieces$Paper", "figures", "[B", true)
def tyX3 : Nat → FieldType := fun k => match k with
  | 0 => .int
  | 1 => .array .byte
  | _ => .array .byte
abbrev wsX30 : List Cond := u_ws RX3 TX3 3
theorem nmX3 : ∀ a, a < 3 → ∀ b, b < 3 → a ≠ b → (TX3 a).2.1 ≠ (TX3 b).2.1 := by decide +kernel
theorem tyX3_ok : ∀ k, k < 3 → parseFieldDescriptor (TX3 k).2.2.1 = some (tyX3 k) := by decide +kernel
abbrev cX3_init : ByteArray := prog_5_method_1_code
def yX3_init : MethodName := ⟨RX3, "<init>", "()V"⟩
abbrev cX3_put : ByteArray := prog_5_method_2_code
def yX3_put : MethodName := ⟨RX3, "put", "(I)V"⟩
abbrev cX3_putNumber : ByteArray := prog_5_method_3_code
def yX3_putNumber : MethodName := ⟨RX3, "putNumber", "(J)V"⟩
abbrev cX3_putFraction : ByteArray := prog_5_method_4_code
def yX3_putFraction : MethodName := ⟨RX3, "putFraction", "(LBeamPieces$Fraction;)V"⟩
abbrev cX3_putTerm : ByteArray := prog_5_method_5_code
def yX3_putTerm : MethodName := ⟨RX3, "putTerm", "(LBeamPieces$Fraction;I)V"⟩
def RX4 : String := "BeamPieces$Peak"
def TX4 : u_T := fun k => match k with
  | 0 => ("BeamPieces$Peak", "much", "LBeamPieces$Fraction;", true)
  | 1 => ("BeamPieces$Peak", "where", "LBeamPieces$Fraction;", true)
  | 2 => ("BeamPieces$Peak", "isThere", "Z", false)
  | _ => ("BeamPieces$Peak", "way", "I", true)
def tyX4 : Nat → FieldType := fun k => match k with
  | 0 => .object "BeamPieces$Fraction"
  | 1 => .object "BeamPieces$Fraction"
  | 2 => .boolean
  | _ => .int
abbrev wsX40 : List Cond := u_ws RX4 TX4 4
theorem nmX4 : ∀ a, a < 4 → ∀ b, b < 4 → a ≠ b → (TX4 a).2.1 ≠ (TX4 b).2.1 := by decide +kernel
theorem tyX4_ok : ∀ k, k < 4 → parseFieldDescriptor (TX4 k).2.2.1 = some (tyX4 k) := by decide +kernel
abbrev cX4_init : ByteArray := prog_6_method_1_code
def yX4_init : MethodName := ⟨RX4, "<init>", "(I)V"⟩
abbrev cX4_offer : ByteArray := prog_6_method_2_code
def yX4_offer : MethodName := ⟨RX4, "offer", "(LBeamPieces$Fraction;LBeamPieces$Fraction;)V"⟩
def RX5 : String := "BeamPieces$Reader"
def TX5 : u_T := fun k => match k with
  | 0 => ("BeamPieces$Reader", "size", "I", false)
  | 1 => ("BeamPieces$Reader", "trial", "LBeamPieces$Beam;", true)
  | 2 => ("BeamPieces$Reader", "tape", "[B", true)
  | 3 => ("BeamPieces$Reader", "at", "I", false)
  | 4 => ("BeamPieces$Reader", "word", "I", false)
  | _ => ("BeamPieces$Reader", "number", "[I", true)
def tyX5 : Nat → FieldType := fun k => match k with
  | 0 => .int
  | 1 => .object "BeamPieces$Beam"
  | 2 => .array .byte
  | 3 => .int
  | 4 => .int
  | _ => .array .int
abbrev wsX50 : List Cond := u_ws RX5 TX5 6
theorem nmX5 : ∀ a, a < 6 → ∀ b, b < 6 → a ≠ b → (TX5 a).2.1 ≠ (TX5 b).2.1 := by decide +kernel
theorem tyX5_ok : ∀ k, k < 6 → parseFieldDescriptor (TX5 k).2.2.1 = some (tyX5 k) := by decide +kernel
abbrev cX5_init : ByteArray := prog_7_method_1_code
def yX5_init : MethodName := ⟨RX5, "<init>", "()V"⟩
abbrev cX5_take : ByteArray := prog_7_method_2_code
def yX5_take : MethodName := ⟨RX5, "take", "(I)I"⟩
abbrev cX5_readOnto : ByteArray := prog_7_method_3_code
def yX5_readOnto : MethodName := ⟨RX5, "readOnto", "(LBeamPieces$Beam;)I"⟩
abbrev cX5_placeOfNoText : ByteArray := prog_7_method_4_code
def yX5_placeOfNoText : MethodName := ⟨RX5, "placeOfNoText", "()I"⟩
abbrev cX5_readStatement : ByteArray := prog_7_method_5_code
def yX5_readStatement : MethodName := ⟨RX5, "readStatement", "()Z"⟩
abbrev cX5_readNumber : ByteArray := prog_7_method_6_code
def yX5_readNumber : MethodName := ⟨RX5, "readNumber", "(IZ)Z"⟩
abbrev cX5_isNext : ByteArray := prog_7_method_7_code
def yX5_isNext : MethodName := ⟨RX5, "isNext", "(I)Z"⟩
abbrev cX5_isFigureNext : ByteArray := prog_7_method_8_code
def yX5_isFigureNext : MethodName := ⟨RX5, "isFigureNext", "()Z"⟩
abbrev cX5_isLetter : ByteArray := prog_7_method_9_code
def yX5_isLetter : MethodName := ⟨RX5, "isLetter", "(I)Z"⟩
abbrev cX5_wordWithin : ByteArray := prog_7_method_10_code
def yX5_wordWithin : MethodName := ⟨RX5, "wordWithin", "(II)I"⟩
abbrev cX5_spells : ByteArray := prog_7_method_11_code
def yX5_spells : MethodName := ⟨RX5, "spells", "(IILjava/lang/String;)Z"⟩
abbrev cX5_spelled : ByteArray := prog_7_method_12_code
def yX5_spelled : MethodName := ⟨RX5, "spelled", "(I)Ljava/lang/String;"⟩
abbrev cX5_whyNotStatement : ByteArray := prog_7_method_13_code
def yX5_whyNotStatement : MethodName := ⟨RX5, "whyNotStatement", "()I"⟩
abbrev cX5_takeStatement : ByteArray := prog_7_method_14_code
def yX5_takeStatement : MethodName := ⟨RX5, "takeStatement", "()V"⟩
def RX6 : String := "BeamPieces$Rows"
def TX6 : u_T := fun k => match k with
  | 0 => ("BeamPieces$Rows", "size", "[I", true)
  | _ => ("BeamPieces$Rows", "cells", "[J", true)
def tyX6 : Nat → FieldType := fun k => match k with
  | 0 => .array .int
  | _ => .array .long
abbrev wsX60 : List Cond := u_ws RX6 TX6 2
theorem nmX6 : ∀ a, a < 2 → ∀ b, b < 2 → a ≠ b → (TX6 a).2.1 ≠ (TX6 b).2.1 := by decide +kernel
theorem tyX6_ok : ∀ k, k < 2 → parseFieldDescriptor (TX6 k).2.2.1 = some (tyX6 k) := by decide +kernel
abbrev cX6_init : ByteArray := prog_8_method_1_code
def yX6_init : MethodName := ⟨RX6, "<init>", "()V"⟩
abbrev cX6_isThere : ByteArray := prog_8_method_2_code
def yX6_isThere : MethodName := ⟨RX6, "isThere", "(I)Z"⟩
abbrev cX6_has : ByteArray := prog_8_method_3_code
def yX6_has : MethodName := ⟨RX6, "has", "(II)Z"⟩
abbrev cX6_begin : ByteArray := prog_8_method_4_code
def yX6_begin : MethodName := ⟨RX6, "begin", "(II)V"⟩
abbrev cX6_put : ByteArray := prog_8_method_5_code
def yX6_put : MethodName := ⟨RX6, "put", "(IIJ)V"⟩
abbrev cX6_at : ByteArray := prog_8_method_6_code
def yX6_at : MethodName := ⟨RX6, "at", "(II)J"⟩
def RX7 : String := "BeamPieces$Statics"
def TX7 : u_T := fun k => match k with
  | 0 => ("BeamPieces$Statics", "length", "I", false)
  | 1 => ("BeamPieces$Statics", "supports", "I", false)
  | 2 => ("BeamPieces$Statics", "place", "[I", true)
  | 3 => ("BeamPieces$Statics", "joint", "[I", true)
  | 4 => ("BeamPieces$Statics", "lump", "[J", true)
  | 5 => ("BeamPieces$Statics", "dense", "[J", true)
  | 6 => ("BeamPieces$Statics", "below", "J", false)
  | 7 => ("BeamPieces$Statics", "up", "[J", true)
  | 8 => ("BeamPieces$Statics", "cut", "[J", true)
  | 9 => ("BeamPieces$Statics", "bend", "[J", true)
  | 10 => ("BeamPieces$Statics", "dipBelow", "J", false)
  | 11 => ("BeamPieces$Statics", "dip", "[J", true)
  | 12 => ("BeamPieces$Statics", "top", "LBeamPieces$Peak;", true)
  | 13 => ("BeamPieces$Statics", "bottom", "LBeamPieces$Peak;", true)
  | 14 => ("BeamPieces$Statics", "spansTimes", "J", false)
  | 15 => ("BeamPieces$Statics", "over", "[J", true)
  | 16 => ("BeamPieces$Statics", "much", "LBeamPieces$Fraction;", true)
  | _ => ("BeamPieces$Statics", "where", "LBeamPieces$Fraction;", true)
def tyX7 : Nat → FieldType := fun k => match k with
  | 0 => .int
  | 1 => .int
  | 2 => .array .int
  | 3 => .array .int
  | 4 => .array .long
  | 5 => .array .long
  | 6 => .long
  | 7 => .array .long
  | 8 => .array .long
  | 9 => .array .long
  | 10 => .long
  | 11 => .array .long
  | 12 => .object "BeamPieces$Peak"
  | 13 => .object "BeamPieces$Peak"
  | 14 => .long
  | 15 => .array .long
  | 16 => .object "BeamPieces$Fraction"
  | _ => .object "BeamPieces$Fraction"
abbrev wsX70 : List Cond := u_ws RX7 TX7 18
theorem nmX7 : ∀ a, a < 18 → ∀ b, b < 18 → a ≠ b → (TX7 a).2.1 ≠ (TX7 b).2.1 := by decide +kernel
theorem tyX7_ok : ∀ k, k < 18 → parseFieldDescriptor (TX7 k).2.2.1 = some (tyX7 k) := by decide +kernel
abbrev cX7_init : ByteArray := prog_9_method_1_code
def yX7_init : MethodName := ⟨RX7, "<init>", "()V"⟩
abbrev cX7_frame : ByteArray := prog_9_method_2_code
def yX7_frame : MethodName := ⟨RX7, "frame", "(LBeamPieces$Beam;)V"⟩
abbrev cX7_bearPoint : ByteArray := prog_9_method_3_code
def yX7_bearPoint : MethodName := ⟨RX7, "bearPoint", "(II)V"⟩
abbrev cX7_bearLoads : ByteArray := prog_9_method_4_code
def yX7_bearLoads : MethodName := ⟨RX7, "bearLoads", "(LBeamPieces$Beam;)V"⟩
abbrev cX7_solve : ByteArray := prog_9_method_5_code
def yX7_solve : MethodName := ⟨RX7, "solve", "()V"⟩
abbrev cX7_span : ByteArray := prog_9_method_6_code
def yX7_span : MethodName := ⟨RX7, "span", "(I)J"⟩
abbrev cX7_isInner : ByteArray := prog_9_method_7_code
def yX7_isInner : MethodName := ⟨RX7, "isInner", "(I)Z"⟩
abbrev cX7_hasRow : ByteArray := prog_9_method_8_code
def yX7_hasRow : MethodName := ⟨RX7, "hasRow", "(I)Z"⟩
abbrev cX7_solveOverSupports : ByteArray := prog_9_method_9_code
def yX7_solveOverSupports : MethodName := ⟨RX7, "solveOverSupports", "()V"⟩
abbrev cX7_twiceOverFirst : ByteArray := prog_9_method_10_code
def yX7_twiceOverFirst : MethodName := ⟨RX7, "twiceOverFirst", "()J"⟩
abbrev cX7_twiceOverLast : ByteArray := prog_9_method_11_code
def yX7_twiceOverLast : MethodName := ⟨RX7, "twiceOverLast", "()J"⟩
abbrev cX7_leans : ByteArray := prog_9_method_12_code
def yX7_leans : MethodName := ⟨RX7, "leans", "(I)J"⟩
abbrev cX7_leanToRight : ByteArray := prog_9_method_13_code
def yX7_leanToRight : MethodName := ⟨RX7, "leanToRight", "(I)J"⟩
abbrev cX7_leanToLeft : ByteArray := prog_9_method_14_code
def yX7_leanToLeft : MethodName := ⟨RX7, "leanToLeft", "(I)J"⟩
abbrev cX7_leanOfPoint : ByteArray := prog_9_method_15_code
def yX7_leanOfPoint : MethodName := ⟨RX7, "leanOfPoint", "(JJ)J"⟩
abbrev cX7_leanOfSpread : ByteArray := prog_9_method_16_code
def yX7_leanOfSpread : MethodName := ⟨RX7, "leanOfSpread", "(JJ)J"⟩
abbrev cX7_shearAlong : ByteArray := prog_9_method_17_code
def yX7_shearAlong : MethodName := ⟨RX7, "shearAlong", "()V"⟩
abbrev cX7_loadsBehind : ByteArray := prog_9_method_18_code
def yX7_loadsBehind : MethodName := ⟨RX7, "loadsBehind", "(I)J"⟩
abbrev cX7_shearOfSpan : ByteArray := prog_9_method_19_code
def yX7_shearOfSpan : MethodName := ⟨RX7, "shearOfSpan", "(I)J"⟩
abbrev cX7_bendAlong : ByteArray := prog_9_method_20_code
def yX7_bendAlong : MethodName := ⟨RX7, "bendAlong", "()V"⟩
abbrev cX7_bendBetween : ByteArray := prog_9_method_21_code
def yX7_bendBetween : MethodName := ⟨RX7, "bendBetween", "(JJLBeamPieces$Fraction;)V"⟩
abbrev cX7_findPeaks : ByteArray := prog_9_method_22_code
def yX7_findPeaks : MethodName := ⟨RX7, "findPeaks", "()V"⟩
abbrev cX7_offerPeak : ByteArray := prog_9_method_23_code
def yX7_offerPeak : MethodName := ⟨RX7, "offerPeak", "()V"⟩
abbrev cX7_turnsWithin : ByteArray := prog_9_method_24_code
def yX7_turnsWithin : MethodName := ⟨RX7, "turnsWithin", "(I)Z"⟩
abbrev cX7_tellSpan : ByteArray := prog_9_method_25_code
def yX7_tellSpan : MethodName := ⟨RX7, "tellSpan", "(LBeamPieces$Fraction;)V"⟩
abbrev cX7_findSags : ByteArray := prog_9_method_26_code
def yX7_findSags : MethodName := ⟨RX7, "findSags", "()V"⟩
abbrev cX7_sagOfSpan : ByteArray := prog_9_method_27_code
def yX7_sagOfSpan : MethodName := ⟨RX7, "sagOfSpan", "(I)J"⟩
abbrev cX7_sagAheadOfFirst : ByteArray := prog_9_method_28_code
def yX7_sagAheadOfFirst : MethodName := ⟨RX7, "sagAheadOfFirst", "(J)V"⟩
abbrev cX7_sagBehindLast : ByteArray := prog_9_method_29_code
def yX7_sagBehindLast : MethodName := ⟨RX7, "sagBehindLast", "(J)V"⟩
abbrev cX7_rise : ByteArray := prog_9_method_30_code
def yX7_rise : MethodName := ⟨RX7, "rise", "(I)J"⟩
abbrev cX7_bending : ByteArray := prog_9_method_31_code
def yX7_bending : MethodName := ⟨RX7, "bending", "(I)J"⟩
abbrev cX7_placeOfMostSag : ByteArray := prog_9_method_32_code
def yX7_placeOfMostSag : MethodName := ⟨RX7, "placeOfMostSag", "()I"⟩
def RX8 : String := "BeamPieces"
def TX8 : u_T := fun k => match k with
  | 0 => ("BeamPieces", "beam", "LBeamPieces$Beam;", true)
  | 1 => ("BeamPieces", "changes", "LBeamPieces$Changes;", true)
  | 2 => ("BeamPieces", "kept", "LBeamPieces$Beam;", true)
  | 3 => ("BeamPieces", "hasImage", "Z", false)
  | 4 => ("BeamPieces", "statics", "LBeamPieces$Statics;", true)
  | 5 => ("BeamPieces", "answer", "LBeamPieces$Fraction;", true)
  | 6 => ("BeamPieces", "rival", "LBeamPieces$Fraction;", true)
  | 7 => ("BeamPieces", "reader", "LBeamPieces$Reader;", true)
  | 8 => ("BeamPieces", "sheet", "LBeamPieces$Paper;", true)
  | _ => ("BeamPieces", "rows", "LBeamPieces$Rows;", true)
def tyX8 : Nat → FieldType := fun k => match k with
  | 0 => .object "BeamPieces$Beam"
  | 1 => .object "BeamPieces$Changes"
  | 2 => .object "BeamPieces$Beam"
  | 3 => .boolean
  | 4 => .object "BeamPieces$Statics"
  | 5 => .object "BeamPieces$Fraction"
  | 6 => .object "BeamPieces$Fraction"
  | 7 => .object "BeamPieces$Reader"
  | 8 => .object "BeamPieces$Paper"
  | _ => .object "BeamPieces$Rows"
abbrev wsX80 : List Cond := u_ws RX8 TX8 10
theorem nmX8 : ∀ a, a < 10 → ∀ b, b < 10 → a ≠ b → (TX8 a).2.1 ≠ (TX8 b).2.1 := by decide +kernel
theorem tyX8_ok : ∀ k, k < 10 → parseFieldDescriptor (TX8 k).2.2.1 = some (tyX8 k) := by decide +kernel
abbrev cX8_init : ByteArray := prog_1_method_1_code
def yX8_init : MethodName := ⟨RX8, "<init>", "()V"⟩
abbrev cX8_beam : ByteArray := prog_1_method_2_code
def yX8_beam : MethodName := ⟨RX8, "beam", "(I)I"⟩
abbrev cX8_support : ByteArray := prog_1_method_3_code
def yX8_support : MethodName := ⟨RX8, "support", "(I)I"⟩
abbrev cX8_drop : ByteArray := prog_1_method_4_code
def yX8_drop : MethodName := ⟨RX8, "drop", "(I)I"⟩
abbrev cX8_hinge : ByteArray := prog_1_method_5_code
def yX8_hinge : MethodName := ⟨RX8, "hinge", "(II)I"⟩
abbrev cX8_point : ByteArray := prog_1_method_6_code
def yX8_point : MethodName := ⟨RX8, "point", "(II)I"⟩
abbrev cX8_spread : ByteArray := prog_1_method_7_code
def yX8_spread : MethodName := ⟨RX8, "spread", "(III)I"⟩
abbrev cX8_heavier : ByteArray := prog_1_method_8_code
def yX8_heavier : MethodName := ⟨RX8, "heavier", "(II)I"⟩
abbrev cX8_lift : ByteArray := prog_1_method_9_code
def yX8_lift : MethodName := ⟨RX8, "lift", "(I)I"⟩
abbrev cX8_axle : ByteArray := prog_1_method_10_code
def yX8_axle : MethodName := ⟨RX8, "axle", "(II)I"⟩
abbrev cX8_unhitch : ByteArray := prog_1_method_11_code
def yX8_unhitch : MethodName := ⟨RX8, "unhitch", "()I"⟩
abbrev cX8_loadOf : ByteArray := prog_1_method_12_code
def yX8_loadOf : MethodName := ⟨RX8, "loadOf", "(II)I"⟩
abbrev cX8_supportOf : ByteArray := prog_1_method_13_code
def yX8_supportOf : MethodName := ⟨RX8, "supportOf", "(II)I"⟩
abbrev cX8_count : ByteArray := prog_1_method_14_code
def yX8_count : MethodName := ⟨RX8, "count", "(I)I"⟩
abbrev cX8_reaction : ByteArray := prog_1_method_15_code
def yX8_reaction : MethodName := ⟨RX8, "reaction", "(II)J"⟩
abbrev cX8_shear : ByteArray := prog_1_method_16_code
def yX8_shear : MethodName := ⟨RX8, "shear", "(II)J"⟩
abbrev cX8_moment : ByteArray := prog_1_method_17_code
def yX8_moment : MethodName := ⟨RX8, "moment", "(III)J"⟩
abbrev cX8_sag : ByteArray := prog_1_method_18_code
def yX8_sag : MethodName := ⟨RX8, "sag", "(II)J"⟩
abbrev cX8_greatest : ByteArray := prog_1_method_19_code
def yX8_greatest : MethodName := ⟨RX8, "greatest", "(II)J"⟩
abbrev cX8_lowest : ByteArray := prog_1_method_20_code
def yX8_lowest : MethodName := ⟨RX8, "lowest", "()I"⟩
abbrev cX8_times : ByteArray := prog_1_method_21_code
def yX8_times : MethodName := ⟨RX8, "times", "(I)I"⟩
abbrev cX8_rolls : ByteArray := prog_1_method_22_code
def yX8_rolls : MethodName := ⟨RX8, "rolls", "(II)J"⟩
abbrev cX8_presses : ByteArray := prog_1_method_23_code
def yX8_presses : MethodName := ⟨RX8, "presses", "(II)J"⟩
abbrev cX8_unit : ByteArray := prog_1_method_24_code
def yX8_unit : MethodName := ⟨RX8, "unit", "(III)J"⟩
abbrev cX8_bears : ByteArray := prog_1_method_25_code
def yX8_bears : MethodName := ⟨RX8, "bears", "(III)J"⟩
abbrev cX8_best : ByteArray := prog_1_method_26_code
def yX8_best : MethodName := ⟨RX8, "best", "(I)I"⟩
abbrev cX8_hinged : ByteArray := prog_1_method_27_code
def yX8_hinged : MethodName := ⟨RX8, "hinged", "(II)J"⟩
abbrev cX8_feed : ByteArray := prog_1_method_28_code
def yX8_feed : MethodName := ⟨RX8, "feed", "(I)I"⟩
abbrev cX8_reads : ByteArray := prog_1_method_29_code
def yX8_reads : MethodName := ⟨RX8, "reads", "()I"⟩
abbrev cX8_prints : ByteArray := prog_1_method_30_code
def yX8_prints : MethodName := ⟨RX8, "prints", "()I"⟩
abbrev cX8_paper : ByteArray := prog_1_method_31_code
def yX8_paper : MethodName := ⟨RX8, "paper", "(I)I"⟩
abbrev cX8_list : ByteArray := prog_1_method_32_code
def yX8_list : MethodName := ⟨RX8, "list", "(II)I"⟩
abbrev cX8_set : ByteArray := prog_1_method_33_code
def yX8_set : MethodName := ⟨RX8, "set", "(IIJ)I"⟩
abbrev cX8_get : ByteArray := prog_1_method_34_code
def yX8_get : MethodName := ⟨RX8, "get", "(II)J"⟩
abbrev cX8_into : ByteArray := prog_1_method_35_code
def yX8_into : MethodName := ⟨RX8, "into", "(II)I"⟩
abbrev cX8_judge : ByteArray := prog_1_method_36_code
def yX8_judge : MethodName := ⟨RX8, "judge", "(II)I"⟩
abbrev cX8_undo : ByteArray := prog_1_method_37_code
def yX8_undo : MethodName := ⟨RX8, "undo", "()I"⟩
abbrev cX8_image : ByteArray := prog_1_method_38_code
def yX8_image : MethodName := ⟨RX8, "image", "()I"⟩
abbrev cX8_back : ByteArray := prog_1_method_39_code
def yX8_back : MethodName := ⟨RX8, "back", "()I"⟩
abbrev cX8_isPart : ByteArray := prog_1_method_40_code
def yX8_isPart : MethodName := ⟨RX8, "isPart", "(I)Z"⟩
abbrev cX8_isV : ByteArray := prog_1_method_41_code
def yX8_isV : MethodName := ⟨RX8, "isV", "(I)Z"⟩
abbrev cX8_isList : ByteArray := prog_1_method_42_code
def yX8_isList : MethodName := ⟨RX8, "isList", "(I)Z"⟩
abbrev cX8_divide : ByteArray := prog_1_method_43_code
def yX8_divide : MethodName := ⟨RX8, "divide", "(JJ)J"⟩
abbrev cX8_commonDivisor : ByteArray := prog_1_method_44_code
def yX8_commonDivisor : MethodName := ⟨RX8, "commonDivisor", "(JJ)J"⟩
abbrev cX8_inLowest : ByteArray := prog_1_method_45_code
def yX8_inLowest : MethodName := ⟨RX8, "inLowest", "(JJI)J"⟩
abbrev cX8_numbersInAll : ByteArray := prog_1_method_46_code
def yX8_numbersInAll : MethodName := ⟨RX8, "numbersInAll", "()I"⟩
abbrev cX8_numberOfMoments : ByteArray := prog_1_method_47_code
def yX8_numberOfMoments : MethodName := ⟨RX8, "numberOfMoments", "(I)J"⟩
abbrev cX8_solveAsItIs : ByteArray := prog_1_method_48_code
def yX8_solveAsItIs : MethodName := ⟨RX8, "solveAsItIs", "()V"⟩
abbrev cX8_solveUnit : ByteArray := prog_1_method_49_code
def yX8_solveUnit : MethodName := ⟨RX8, "solveUnit", "(I)V"⟩
abbrev cX8_solveRolling : ByteArray := prog_1_method_50_code
def yX8_solveRolling : MethodName := ⟨RX8, "solveRolling", "(I)V"⟩
abbrev cX8_canRoll : ByteArray := prog_1_method_51_code
def yX8_canRoll : MethodName := ⟨RX8, "canRoll", "(I)Z"⟩
abbrev cX8_mostByRolling : ByteArray := prog_1_method_52_code
def yX8_mostByRolling : MethodName := ⟨RX8, "mostByRolling", "([JII)J"⟩
abbrev cX8_timesWithin : ByteArray := prog_1_method_53_code
def yX8_timesWithin : MethodName := ⟨RX8, "timesWithin", "(I)I"⟩
abbrev cX8_printPiece : ByteArray := prog_1_method_54_code
def yX8_printPiece : MethodName := ⟨RX8, "printPiece", "(I)V"⟩
def RX9 : String := "BeamPiecesModel"
def TX9 : u_T := fun k => match k with
  | 0 => ("BeamPiecesModel", "now", "[I", true)
  | 1 => ("BeamPiecesModel", "kept", "[I", true)
  | 2 => ("BeamPiecesModel", "hasImage", "Z", false)
  | 3 => ("BeamPiecesModel", "history", "[I", true)
  | 4 => ("BeamPiecesModel", "changes", "I", false)
  | 5 => ("BeamPiecesModel", "up", "J", false)
  | 6 => ("BeamPiecesModel", "down", "J", false)
  | 7 => ("BeamPiecesModel", "mUp", "[J", true)
  | 8 => ("BeamPiecesModel", "mDown", "[J", true)
  | 9 => ("BeamPiecesModel", "rUp", "[J", true)
  | 10 => ("BeamPiecesModel", "rDown", "[J", true)
  | 11 => ("BeamPiecesModel", "force", "[J", true)
  | 12 => ("BeamPiecesModel", "forceDown", "[J", true)
  | 13 => ("BeamPiecesModel", "one", "J", false)
  | 14 => ("BeamPiecesModel", "twice", "[J", true)
  | 15 => ("BeamPiecesModel", "mostUp", "J", false)
  | 16 => ("BeamPiecesModel", "mostDown", "J", false)
  | 17 => ("BeamPiecesModel", "whereUp", "J", false)
  | 18 => ("BeamPiecesModel", "whereDown", "J", false)
  | 19 => ("BeamPiecesModel", "spanUp", "J", false)
  | 20 => ("BeamPiecesModel", "spanDown", "J", false)
  | 21 => ("BeamPiecesModel", "aside", "[I", true)
  | 22 => ("BeamPiecesModel", "tape", "[I", true)
  | 23 => ("BeamPiecesModel", "size", "I", false)
  | 24 => ("BeamPiecesModel", "letters", "[C", true)
  | 25 => ("BeamPiecesModel", "begins", "[I", true)
  | 26 => ("BeamPiecesModel", "wants", "[I", true)
  | 27 => ("BeamPiecesModel", "numbers", "[I", true)
  | 28 => ("BeamPiecesModel", "at", "I", false)
  | 29 => ("BeamPiecesModel", "refusedAt", "I", false)
  | 30 => ("BeamPiecesModel", "saved", "[I", true)
  | 31 => ("BeamPiecesModel", "paper", "[I", true)
  | 32 => ("BeamPiecesModel", "paperMany", "I", false)
  | 33 => ("BeamPiecesModel", "items", "[J", true)
  | _ => ("BeamPiecesModel", "sizes", "[I", true)
def tyX9 : Nat → FieldType := fun k => match k with
  | 0 => .array .int
  | 1 => .array .int
  | 2 => .boolean
  | 3 => .array .int
  | 4 => .int
  | 5 => .long
  | 6 => .long
  | 7 => .array .long
  | 8 => .array .long
  | 9 => .array .long
  | 10 => .array .long
  | 11 => .array .long
  | 12 => .array .long
  | 13 => .long
  | 14 => .array .long
  | 15 => .long
  | 16 => .long
  | 17 => .long
  | 18 => .long
  | 19 => .long
  | 20 => .long
  | 21 => .array .int
  | 22 => .array .int
  | 23 => .int
  | 24 => .array .char
  | 25 => .array .int
  | 26 => .array .int
  | 27 => .array .int
  | 28 => .int
  | 29 => .int
  | 30 => .array .int
  | 31 => .array .int
  | 32 => .int
  | 33 => .array .long
  | _ => .array .int
abbrev wsX90 : List Cond := u_ws RX9 TX9 35
theorem nmX9 : ∀ a, a < 35 → ∀ b, b < 35 → a ≠ b → (TX9 a).2.1 ≠ (TX9 b).2.1 := by decide +kernel
theorem tyX9_ok : ∀ k, k < 35 → parseFieldDescriptor (TX9 k).2.2.1 = some (tyX9 k) := by decide +kernel
abbrev cX9_init : ByteArray := prog_11_method_1_code
def yX9_init : MethodName := ⟨RX9, "<init>", "()V"⟩
abbrev cX9_in : ByteArray := prog_11_method_2_code
def yX9_in : MethodName := ⟨RX9, "in", "(JJJ)Z"⟩
abbrev cX9_copies : ByteArray := prog_11_method_3_code
def yX9_copies : MethodName := ⟨RX9, "copies", "([I[I)V"⟩
abbrev cX9_changes : ByteArray := prog_11_method_4_code
def yX9_changes : MethodName := ⟨RX9, "changes", "()V"⟩
abbrev cX9_isPlace : ByteArray := prog_11_method_5_code
def yX9_isPlace : MethodName := ⟨RX9, "isPlace", "(I)Z"⟩
abbrev cX9_isSupport : ByteArray := prog_11_method_6_code
def yX9_isSupport : MethodName := ⟨RX9, "isSupport", "(I)Z"⟩
abbrev cX9_isLoad : ByteArray := prog_11_method_7_code
def yX9_isLoad : MethodName := ⟨RX9, "isLoad", "(I)Z"⟩
abbrev cX9_supportAt : ByteArray := prog_11_method_8_code
def yX9_supportAt : MethodName := ⟨RX9, "supportAt", "(I)I"⟩
abbrev cX9_beam : ByteArray := prog_11_method_9_code
def yX9_beam : MethodName := ⟨RX9, "beam", "(I)I"⟩
abbrev cX9_support : ByteArray := prog_11_method_10_code
def yX9_support : MethodName := ⟨RX9, "support", "(I)I"⟩
abbrev cX9_drop : ByteArray := prog_11_method_11_code
def yX9_drop : MethodName := ⟨RX9, "drop", "(I)I"⟩
abbrev cX9_hinge : ByteArray := prog_11_method_12_code
def yX9_hinge : MethodName := ⟨RX9, "hinge", "(II)I"⟩
abbrev cX9_comes : ByteArray := prog_11_method_13_code
def yX9_comes : MethodName := ⟨RX9, "comes", "(III)I"⟩
abbrev cX9_point : ByteArray := prog_11_method_14_code
def yX9_point : MethodName := ⟨RX9, "point", "(II)I"⟩
abbrev cX9_spread : ByteArray := prog_11_method_15_code
def yX9_spread : MethodName := ⟨RX9, "spread", "(III)I"⟩
abbrev cX9_heavier : ByteArray := prog_11_method_16_code
def yX9_heavier : MethodName := ⟨RX9, "heavier", "(II)I"⟩
abbrev cX9_lift : ByteArray := prog_11_method_17_code
def yX9_lift : MethodName := ⟨RX9, "lift", "(I)I"⟩
abbrev cX9_axle : ByteArray := prog_11_method_18_code
def yX9_axle : MethodName := ⟨RX9, "axle", "(II)I"⟩
abbrev cX9_unhitch : ByteArray := prog_11_method_19_code
def yX9_unhitch : MethodName := ⟨RX9, "unhitch", "()I"⟩
abbrev cX9_loadOf : ByteArray := prog_11_method_20_code
def yX9_loadOf : MethodName := ⟨RX9, "loadOf", "(II)I"⟩
abbrev cX9_supportOf : ByteArray := prog_11_method_21_code
def yX9_supportOf : MethodName := ⟨RX9, "supportOf", "(II)I"⟩
abbrev cX9_count : ByteArray := prog_11_method_22_code
def yX9_count : MethodName := ⟨RX9, "count", "(I)I"⟩
abbrev cX9_allLoads : ByteArray := prog_11_method_23_code
def yX9_allLoads : MethodName := ⟨RX9, "allLoads", "()I"⟩
abbrev cX9_divisor : ByteArray := prog_11_method_24_code
def yX9_divisor : MethodName := ⟨RX9, "divisor", "(JJ)J"⟩
abbrev cX9_is : ByteArray := prog_11_method_25_code
def yX9_is : MethodName := ⟨RX9, "is", "(JJ)V"⟩
abbrev cX9_plus : ByteArray := prog_11_method_26_code
def yX9_plus : MethodName := ⟨RX9, "plus", "(JJ)V"⟩
abbrev cX9_isLess : ByteArray := prog_11_method_27_code
def yX9_isLess : MethodName := ⟨RX9, "isLess", "(JJJJ)Z"⟩
abbrev cX9_spanOf : ByteArray := prog_11_method_28_code
def yX9_spanOf : MethodName := ⟨RX9, "spanOf", "(I)I"⟩
abbrev cX9_isSpread : ByteArray := prog_11_method_29_code
def yX9_isSpread : MethodName := ⟨RX9, "isSpread", "(I)Z"⟩
abbrev cX9_less : ByteArray := prog_11_method_30_code
def yX9_less : MethodName := ⟨RX9, "less", "(II)I"⟩
abbrev cX9_more : ByteArray := prog_11_method_31_code
def yX9_more : MethodName := ⟨RX9, "more", "(II)I"⟩
abbrev cX9_whole : ByteArray := prog_11_method_32_code
def yX9_whole : MethodName := ⟨RX9, "whole", "(JJ)J"⟩
abbrev cX9_sums : ByteArray := prog_11_method_33_code
def yX9_sums : MethodName := ⟨RX9, "sums", "(IIZ)J"⟩
abbrev cX9_beyond : ByteArray := prog_11_method_34_code
def yX9_beyond : MethodName := ⟨RX9, "beyond", "(IZ)J"⟩
abbrev cX9_gives : ByteArray := prog_11_method_35_code
def yX9_gives : MethodName := ⟨RX9, "gives", "(I)V"⟩
abbrev cX9_keeps : ByteArray := prog_11_method_36_code
def yX9_keeps : MethodName := ⟨RX9, "keeps", "(I)V"⟩
abbrev cX9_isLoose : ByteArray := prog_11_method_37_code
def yX9_isLoose : MethodName := ⟨RX9, "isLoose", "(I)Z"⟩
abbrev cX9_alone : ByteArray := prog_11_method_38_code
def yX9_alone : MethodName := ⟨RX9, "alone", "(I)V"⟩
abbrev cX9_moments : ByteArray := prog_11_method_39_code
def yX9_moments : MethodName := ⟨RX9, "moments", "()V"⟩
abbrev cX9_bears : ByteArray := prog_11_method_40_code
def yX9_bears : MethodName := ⟨RX9, "bears", "(IIZ)V"⟩
abbrev cX9_beside : ByteArray := prog_11_method_41_code
def yX9_beside : MethodName := ⟨RX9, "beside", "(IZ)J"⟩
abbrev cX9_pointsAt : ByteArray := prog_11_method_42_code
def yX9_pointsAt : MethodName := ⟨RX9, "pointsAt", "(I)J"⟩
abbrev cX9_reactions : ByteArray := prog_11_method_43_code
def yX9_reactions : MethodName := ⟨RX9, "reactions", "()V"⟩
abbrev cX9_stands : ByteArray := prog_11_method_44_code
def yX9_stands : MethodName := ⟨RX9, "stands", "()Z"⟩
abbrev cX9_reaction : ByteArray := prog_11_method_45_code
def yX9_reaction : MethodName := ⟨RX9, "reaction", "(II)J"⟩
abbrev cX9_momentAt : ByteArray := prog_11_method_46_code
def yX9_momentAt : MethodName := ⟨RX9, "momentAt", "(JJ)J"⟩
abbrev cX9_shearBehind : ByteArray := prog_11_method_47_code
def yX9_shearBehind : MethodName := ⟨RX9, "shearBehind", "(I)J"⟩
abbrev cX9_spreadOn : ByteArray := prog_11_method_48_code
def yX9_spreadOn : MethodName := ⟨RX9, "spreadOn", "(I)I"⟩
abbrev cX9_shear : ByteArray := prog_11_method_49_code
def yX9_shear : MethodName := ⟨RX9, "shear", "(II)J"⟩
abbrev cX9_moment : ByteArray := prog_11_method_50_code
def yX9_moment : MethodName := ⟨RX9, "moment", "(III)J"⟩
abbrev cX9_sagAt : ByteArray := prog_11_method_51_code
def yX9_sagAt : MethodName := ⟨RX9, "sagAt", "(I)J"⟩
abbrev cX9_wideAt : ByteArray := prog_11_method_52_code
def yX9_wideAt : MethodName := ⟨RX9, "wideAt", "(I)I"⟩
abbrev cX9_sag : ByteArray := prog_11_method_53_code
def yX9_sag : MethodName := ⟨RX9, "sag", "(II)J"⟩
abbrev cX9_lowest : ByteArray := prog_11_method_54_code
def yX9_lowest : MethodName := ⟨RX9, "lowest", "()I"⟩
abbrev cX9_tries : ByteArray := prog_11_method_55_code
def yX9_tries : MethodName := ⟨RX9, "tries", "(JJJJ)V"⟩
abbrev cX9_looks : ByteArray := prog_11_method_56_code
def yX9_looks : MethodName := ⟨RX9, "looks", "(I)V"⟩
abbrev cX9_greatest : ByteArray := prog_11_method_57_code
def yX9_greatest : MethodName := ⟨RX9, "greatest", "(II)J"⟩
abbrev cX9_span : ByteArray := prog_11_method_58_code
def yX9_span : MethodName := ⟨RX9, "span", "()V"⟩
abbrev cX9_times : ByteArray := prog_11_method_59_code
def yX9_times : MethodName := ⟨RX9, "times", "(I)I"⟩
abbrev cX9_thinks : ByteArray := prog_11_method_60_code
def yX9_thinks : MethodName := ⟨RX9, "thinks", "()V"⟩
abbrev cX9_laysBack : ByteArray := prog_11_method_61_code
def yX9_laysBack : MethodName := ⟨RX9, "laysBack", "()V"⟩
abbrev cX9_alone_ : ByteArray := prog_11_method_62_code
def yX9_alone_ : MethodName := ⟨RX9, "alone", "(II)V"⟩
abbrev cX9_asked : ByteArray := prog_11_method_63_code
def yX9_asked : MethodName := ⟨RX9, "asked", "(II)V"⟩
abbrev cX9_most : ByteArray := prog_11_method_64_code
def yX9_most : MethodName := ⟨RX9, "most", "(III)J"⟩
abbrev cX9_rolls : ByteArray := prog_11_method_65_code
def yX9_rolls : MethodName := ⟨RX9, "rolls", "(II)J"⟩
abbrev cX9_presses : ByteArray := prog_11_method_66_code
def yX9_presses : MethodName := ⟨RX9, "presses", "(II)J"⟩
abbrev cX9_byUnit : ByteArray := prog_11_method_67_code
def yX9_byUnit : MethodName := ⟨RX9, "byUnit", "(IIII)J"⟩
abbrev cX9_unit : ByteArray := prog_11_method_68_code
def yX9_unit : MethodName := ⟨RX9, "unit", "(III)J"⟩
abbrev cX9_bears_ : ByteArray := prog_11_method_69_code
def yX9_bears_ : MethodName := ⟨RX9, "bears", "(III)J"⟩
abbrev cX9_best : ByteArray := prog_11_method_70_code
def yX9_best : MethodName := ⟨RX9, "best", "(I)I"⟩
abbrev cX9_hinged : ByteArray := prog_11_method_71_code
def yX9_hinged : MethodName := ⟨RX9, "hinged", "(II)J"⟩
abbrev cX9_feed : ByteArray := prog_11_method_72_code
def yX9_feed : MethodName := ⟨RX9, "feed", "(I)I"⟩
abbrev cX9_here : ByteArray := prog_11_method_73_code
def yX9_here : MethodName := ⟨RX9, "here", "()I"⟩
abbrev cX9_word : ByteArray := prog_11_method_74_code
def yX9_word : MethodName := ⟨RX9, "word", "()I"⟩
abbrev cX9_takes : ByteArray := prog_11_method_75_code
def yX9_takes : MethodName := ⟨RX9, "takes", "(IZ)Z"⟩
abbrev cX9_does : ByteArray := prog_11_method_76_code
def yX9_does : MethodName := ⟨RX9, "does", "(I)I"⟩
abbrev cX9_takesOne : ByteArray := prog_11_method_77_code
def yX9_takesOne : MethodName := ⟨RX9, "takesOne", "()Z"⟩
abbrev cX9_takesAll : ByteArray := prog_11_method_78_code
def yX9_takesAll : MethodName := ⟨RX9, "takesAll", "()I"⟩
abbrev cX9_reads : ByteArray := prog_11_method_79_code
def yX9_reads : MethodName := ⟨RX9, "reads", "()I"⟩
abbrev cX9_sign : ByteArray := prog_11_method_80_code
def yX9_sign : MethodName := ⟨RX9, "sign", "(I)V"⟩
abbrev cX9_number : ByteArray := prog_11_method_81_code
def yX9_number : MethodName := ⟨RX9, "number", "(J)V"⟩
abbrev cX9_fraction : ByteArray := prog_11_method_82_code
def yX9_fraction : MethodName := ⟨RX9, "fraction", "(JJZ)V"⟩
abbrev cX9_prints : ByteArray := prog_11_method_83_code
def yX9_prints : MethodName := ⟨RX9, "prints", "()I"⟩
abbrev cX9_paper : ByteArray := prog_11_method_84_code
def yX9_paper : MethodName := ⟨RX9, "paper", "(I)I"⟩
abbrev cX9_isList : ByteArray := prog_11_method_85_code
def yX9_isList : MethodName := ⟨RX9, "isList", "(I)Z"⟩
abbrev cX9_list : ByteArray := prog_11_method_86_code
def yX9_list : MethodName := ⟨RX9, "list", "(II)I"⟩
abbrev cX9_set : ByteArray := prog_11_method_87_code
def yX9_set : MethodName := ⟨RX9, "set", "(IIJ)I"⟩
abbrev cX9_get : ByteArray := prog_11_method_88_code
def yX9_get : MethodName := ⟨RX9, "get", "(II)J"⟩
abbrev cX9_into : ByteArray := prog_11_method_89_code
def yX9_into : MethodName := ⟨RX9, "into", "(II)I"⟩
abbrev cX9_judge : ByteArray := prog_11_method_90_code
def yX9_judge : MethodName := ⟨RX9, "judge", "(II)I"⟩
abbrev cX9_undo : ByteArray := prog_11_method_91_code
def yX9_undo : MethodName := ⟨RX9, "undo", "()I"⟩
abbrev cX9_image : ByteArray := prog_11_method_92_code
def yX9_image : MethodName := ⟨RX9, "image", "()I"⟩
abbrev cX9_back : ByteArray := prog_11_method_93_code
def yX9_back : MethodName := ⟨RX9, "back", "()I"⟩
def RJx145de : String := "java/io/Serializable"
def TJx145de : u_T := fun k => match k with
  | _ => ("", "", "", false)
def tyJx145de : Nat → FieldType := fun k => match k with
  | _ => .int
abbrev wsJx145de0 : List Cond := u_ws RJx145de TJx145de 0
theorem nmJx145de : ∀ a, a < 0 → ∀ b, b < 0 → a ≠ b → (TJx145de a).2.1 ≠ (TJx145de b).2.1 := by decide +kernel
theorem tyJx145de_ok : ∀ k, k < 0 → parseFieldDescriptor (TJx145de k).2.2.1 = some (tyJx145de k) := by decide +kernel
def RJx9f9b0 : String := "java/lang/CharSequence"
def TJx9f9b0 : u_T := fun k => match k with
  | _ => ("", "", "", false)
def tyJx9f9b0 : Nat → FieldType := fun k => match k with
  | _ => .int
abbrev wsJx9f9b00 : List Cond := u_ws RJx9f9b0 TJx9f9b0 0
theorem nmJx9f9b0 : ∀ a, a < 0 → ∀ b, b < 0 → a ≠ b → (TJx9f9b0 a).2.1 ≠ (TJx9f9b0 b).2.1 := by decide +kernel
theorem tyJx9f9b0_ok : ∀ k, k < 0 → parseFieldDescriptor (TJx9f9b0 k).2.2.1 = some (tyJx9f9b0 k) := by decide +kernel
def RJxb160c : String := "java/lang/Comparable"
def TJxb160c : u_T := fun k => match k with
  | _ => ("", "", "", false)
def tyJxb160c : Nat → FieldType := fun k => match k with
  | _ => .int
abbrev wsJxb160c0 : List Cond := u_ws RJxb160c TJxb160c 0
theorem nmJxb160c : ∀ a, a < 0 → ∀ b, b < 0 → a ≠ b → (TJxb160c a).2.1 ≠ (TJxb160c b).2.1 := by decide +kernel
theorem tyJxb160c_ok : ∀ k, k < 0 → parseFieldDescriptor (TJxb160c k).2.2.1 = some (tyJxb160c k) := by decide +kernel
def RJ13 : String := "java/lang/Long"
def TJ13 : u_T := fun k => match k with
  | _ => ("", "", "", false)
def tyJ13 : Nat → FieldType := fun k => match k with
  | _ => .int
abbrev wsJ130 : List Cond := u_ws RJ13 TJ13 0
theorem nmJ13 : ∀ a, a < 0 → ∀ b, b < 0 → a ≠ b → (TJ13 a).2.1 ≠ (TJ13 b).2.1 := by decide +kernel
theorem tyJ13_ok : ∀ k, k < 0 → parseFieldDescriptor (TJ13 k).2.2.1 = some (tyJ13 k) := by decide +kernel
abbrev cJ13_compare_74951 : ByteArray := prog_12_method_42_code
def yJ13_compare_74951 : MethodName := ⟨RJ13, "compare", "(JJ)I"⟩
def RJ9 : String := "java/lang/Math"
def TJ9 : u_T := fun k => match k with
  | _ => ("", "", "", false)
def tyJ9 : Nat → FieldType := fun k => match k with
  | _ => .int
abbrev wsJ90 : List Cond := u_ws RJ9 TJ9 0
theorem nmJ9 : ∀ a, a < 0 → ∀ b, b < 0 → a ≠ b → (TJ9 a).2.1 ≠ (TJ9 b).2.1 := by decide +kernel
theorem tyJ9_ok : ∀ k, k < 0 → parseFieldDescriptor (TJ9 k).2.2.1 = some (tyJ9 k) := by decide +kernel
abbrev cJ9_floorDiv_f86c9 : ByteArray := prog_13_method_49_code
def yJ9_floorDiv_f86c9 : MethodName := ⟨RJ9, "floorDiv", "(JJ)J"⟩
abbrev cJ9_abs_067f4 : ByteArray := prog_13_method_61_code
def yJ9_abs_067f4 : MethodName := ⟨RJ9, "abs", "(J)J"⟩
abbrev cJ9_max_7cf53 : ByteArray := prog_13_method_65_code
def yJ9_max_7cf53 : MethodName := ⟨RJ9, "max", "(II)I"⟩
abbrev cJ9_max_f86c9 : ByteArray := prog_13_method_66_code
def yJ9_max_f86c9 : MethodName := ⟨RJ9, "max", "(JJ)J"⟩
abbrev cJ9_min_7cf53 : ByteArray := prog_13_method_69_code
def yJ9_min_7cf53 : MethodName := ⟨RJ9, "min", "(II)I"⟩
abbrev cJ9_min_f86c9 : ByteArray := prog_13_method_70_code
def yJ9_min_f86c9 : MethodName := ⟨RJ9, "min", "(JJ)J"⟩
def RJ0 : String := "java/lang/String"
def TJ0 : u_T := fun k => match k with
  | _ => ("", "", "", false)
def tyJ0 : Nat → FieldType := fun k => match k with
  | _ => .int
abbrev wsJ00 : List Cond := u_ws RJ0 TJ0 0
theorem nmJ0 : ∀ a, a < 0 → ∀ b, b < 0 → a ≠ b → (TJ0 a).2.1 ≠ (TJ0 b).2.1 := by decide +kernel
theorem tyJ0_ok : ∀ k, k < 0 → parseFieldDescriptor (TJ0 k).2.2.1 = some (tyJ0 k) := by decide +kernel
abbrev cJ0_length_8abf5 : ByteArray := prog_14_method_54_code
def yJ0_length_8abf5 : MethodName := ⟨RJ0, "length", "()I"⟩
abbrev cJ0_charAt_5068e : ByteArray := prog_14_method_56_code
def yJ0_charAt_5068e : MethodName := ⟨RJ0, "charAt", "(I)C"⟩
abbrev cJ0_coder_7d493 : ByteArray := prog_14_method_152_code
def yJ0_coder_7d493 : MethodName := ⟨RJ0, "coder", "()B"⟩
abbrev cJ0_isLatin1_aae02 : ByteArray := prog_14_method_154_code
def yJ0_isLatin1_aae02 : MethodName := ⟨RJ0, "isLatin1", "()Z"⟩
abbrev cJ0_checkIndex_df160 : ByteArray := prog_14_method_155_code
def yJ0_checkIndex_df160 : MethodName := ⟨RJ0, "checkIndex", "(II)V"⟩
def RJ1 : String := "java/lang/StringLatin1"
def TJ1 : u_T := fun k => match k with
  | _ => ("", "", "", false)
def tyJ1 : Nat → FieldType := fun k => match k with
  | _ => .int
abbrev wsJ10 : List Cond := u_ws RJ1 TJ1 0
theorem nmJ1 : ∀ a, a < 0 → ∀ b, b < 0 → a ≠ b → (TJ1 a).2.1 ≠ (TJ1 b).2.1 := by decide +kernel
theorem tyJ1_ok : ∀ k, k < 0 → parseFieldDescriptor (TJ1 k).2.2.1 = some (tyJ1 k) := by decide +kernel
abbrev cJ1_charAt_3b067 : ByteArray := prog_15_method_2_code
def yJ1_charAt_3b067 : MethodName := ⟨RJ1, "charAt", "([BI)C"⟩
def RJ2 : String := "java/lang/StringUTF16"
def TJ2 : u_T := fun k => match k with
  | _ => ("", "", "", false)
def tyJ2 : Nat → FieldType := fun k => match k with
  | _ => .int
abbrev wsJ20 : List Cond := u_ws RJ2 TJ2 0
theorem nmJ2 : ∀ a, a < 0 → ∀ b, b < 0 → a ≠ b → (TJ2 a).2.1 ≠ (TJ2 b).2.1 := by decide +kernel
theorem tyJ2_ok : ∀ k, k < 0 → parseFieldDescriptor (TJ2 k).2.2.1 = some (tyJ2 k) := by decide +kernel
abbrev cJ2_getChar_3b067 : ByteArray := prog_16_method_5_code
def yJ2_getChar_3b067 : MethodName := ⟨RJ2, "getChar", "([BI)C"⟩
abbrev cJ2_length_9d52b : ByteArray := prog_16_method_6_code
def yJ2_length_9d52b : MethodName := ⟨RJ2, "length", "([B)I"⟩
abbrev cJ2_charAt_3b067 : ByteArray := prog_16_method_83_code
def yJ2_charAt_3b067 : MethodName := ⟨RJ2, "charAt", "([BI)C"⟩
abbrev cJ2_checkIndex_2214a : ByteArray := prog_16_method_91_code
def yJ2_checkIndex_2214a : MethodName := ⟨RJ2, "checkIndex", "(I[B)V"⟩
def RJ10 : String := "java/lang/System"
def TJ10 : u_T := fun k => match k with
  | _ => ("", "", "", false)
def tyJ10 : Nat → FieldType := fun k => match k with
  | _ => .int
abbrev wsJ100 : List Cond := u_ws RJ10 TJ10 0
theorem nmJ10 : ∀ a, a < 0 → ∀ b, b < 0 → a ≠ b → (TJ10 a).2.1 ≠ (TJ10 b).2.1 := by decide +kernel
theorem tyJ10_ok : ∀ k, k < 0 → parseFieldDescriptor (TJ10 k).2.2.1 = some (tyJ10 k) := by decide +kernel
def RJxfd54e : String := "java/lang/constant/Constable"
def TJxfd54e : u_T := fun k => match k with
  | _ => ("", "", "", false)
def tyJxfd54e : Nat → FieldType := fun k => match k with
  | _ => .int
abbrev wsJxfd54e0 : List Cond := u_ws RJxfd54e TJxfd54e 0
theorem nmJxfd54e : ∀ a, a < 0 → ∀ b, b < 0 → a ≠ b → (TJxfd54e a).2.1 ≠ (TJxfd54e b).2.1 := by decide +kernel
theorem tyJxfd54e_ok : ∀ k, k < 0 → parseFieldDescriptor (TJxfd54e k).2.2.1 = some (tyJxfd54e k) := by decide +kernel
def RJx3cf43 : String := "java/lang/constant/ConstantDesc"
def TJx3cf43 : u_T := fun k => match k with
  | _ => ("", "", "", false)
def tyJx3cf43 : Nat → FieldType := fun k => match k with
  | _ => .int
abbrev wsJx3cf430 : List Cond := u_ws RJx3cf43 TJx3cf43 0
theorem nmJx3cf43 : ∀ a, a < 0 → ∀ b, b < 0 → a ≠ b → (TJx3cf43 a).2.1 ≠ (TJx3cf43 b).2.1 := by decide +kernel
theorem tyJx3cf43_ok : ∀ k, k < 0 → parseFieldDescriptor (TJx3cf43 k).2.2.1 = some (tyJx3cf43 k) := by decide +kernel
def RJ7 : String := "java/util/Arrays"
def TJ7 : u_T := fun k => match k with
  | _ => ("", "", "", false)
def tyJ7 : Nat → FieldType := fun k => match k with
  | _ => .int
abbrev wsJ70 : List Cond := u_ws RJ7 TJ7 0
theorem nmJ7 : ∀ a, a < 0 → ∀ b, b < 0 → a ≠ b → (TJ7 a).2.1 ≠ (TJ7 b).2.1 := by decide +kernel
theorem tyJ7_ok : ∀ k, k < 0 → parseFieldDescriptor (TJ7 k).2.2.1 = some (tyJ7 k) := by decide +kernel
abbrev cJ7_fill_d0a16 : ByteArray := prog_18_method_101_code
def yJ7_fill_d0a16 : MethodName := ⟨RJ7, "fill", "([JJ)V"⟩
abbrev cJ7_fill_53178 : ByteArray := prog_18_method_103_code
def yJ7_fill_53178 : MethodName := ⟨RJ7, "fill", "([II)V"⟩
def RJ3 : String := "jdk/internal/util/Preconditions"
def TJ3 : u_T := fun k => match k with
  | _ => ("", "", "", false)
def tyJ3 : Nat → FieldType := fun k => match k with
  | _ => .int
abbrev wsJ30 : List Cond := u_ws RJ3 TJ3 0
theorem nmJ3 : ∀ a, a < 0 → ∀ b, b < 0 → a ≠ b → (TJ3 a).2.1 ≠ (TJ3 b).2.1 := by decide +kernel
theorem tyJ3_ok : ∀ k, k < 0 → parseFieldDescriptor (TJ3 k).2.2.1 = some (tyJ3 k) := by decide +kernel
abbrev cJ3_checkIndex_8e157 : ByteArray := prog_19_method_11_code
def yJ3_checkIndex_8e157 : MethodName := ⟨RJ3, "checkIndex", "(IILjava/util/function/BiFunction;)I"⟩
def RL : String := "BeamPiecesLaw"
abbrev cL_law : ByteArray := code
def yL_law : MethodName := ⟨RL, "law", "([I)Z"⟩
def wsL_law_r1 : List Cond := [Cond.classLink RL 7 RX8, Cond.instantiable RX8 10, Cond.initialized RX8, Cond.classLink RL 10 RX9, Cond.instantiable RX9 35, Cond.initialized RX9, Cond.constantLong RL 143 (4294967295), Cond.methodLink RL 9 yX8_init, Cond.instanceMethod yX8_init, Cond.code yX8_init cX8_init 1 none, Cond.methodLink RX8 5 objectInit, Cond.instanceMethod objectInit, Cond.code objectInit ⟨#[0xb1]⟩ 1 none, Cond.classLink RX8 11 RX0, Cond.instantiable RX0 12, Cond.initialized RX0, Cond.fieldLink RX8 14 "BeamPieces" "beam" "LBeamPieces$Beam;", Cond.classLink RX8 18 RX1, Cond.instantiable RX1 3, Cond.initialized RX1, Cond.fieldLink RX8 21 "BeamPieces" "changes" "LBeamPieces$Changes;", Cond.fieldLink RX8 25 "BeamPieces" "kept" "LBeamPieces$Beam;", Cond.classLink RX8 28 RX7, Cond.instantiable RX7 18]
def wsL_law_r2 : List Cond := [Cond.initialized RX7, Cond.fieldLink RX8 31 "BeamPieces" "statics" "LBeamPieces$Statics;", Cond.classLink RX8 35 RX2, Cond.instantiable RX2 2, Cond.initialized RX2, Cond.fieldLink RX8 38 "BeamPieces" "answer" "LBeamPieces$Fraction;", Cond.fieldLink RX8 42 "BeamPieces" "rival" "LBeamPieces$Fraction;", Cond.classLink RX8 45 RX5, Cond.instantiable RX5 6, Cond.initialized RX5, Cond.fieldLink RX8 48 "BeamPieces" "reader" "LBeamPieces$Reader;", Cond.classLink RX8 52 RX3, Cond.instantiable RX3 3, Cond.initialized RX3, Cond.fieldLink RX8 55 "BeamPieces" "sheet" "LBeamPieces$Paper;", Cond.classLink RX8 59 RX6, Cond.instantiable RX6 2, Cond.initialized RX6, Cond.fieldLink RX8 62 "BeamPieces" "rows" "LBeamPieces$Rows;", Cond.methodLink RX8 13 yX0_init, Cond.instanceMethod yX0_init, Cond.code yX0_init cX0_init 1 none, Cond.methodLink RX0 3 objectInit, Cond.fieldLink RX0 9 "BeamPieces$Beam" "length" "I"]
def wsL_law_r3 : List Cond := [Cond.arrayClass .int, Cond.fieldLink RX0 15 "BeamPieces$Beam" "place" "[I", Cond.fieldLink RX0 19 "BeamPieces$Beam" "joint" "[I", Cond.fieldLink RX0 22 "BeamPieces$Beam" "from" "[I", Cond.fieldLink RX0 25 "BeamPieces$Beam" "to" "[I", Cond.fieldLink RX0 28 "BeamPieces$Beam" "v" "[I", Cond.fieldLink RX0 31 "BeamPieces$Beam" "pointed" "[I", Cond.fieldLink RX0 34 "BeamPieces$Beam" "behind" "[I", Cond.fieldLink RX0 37 "BeamPieces$Beam" "weight" "[I", Cond.methodLink RX8 20 yX1_init, Cond.instanceMethod yX1_init, Cond.code yX1_init cX1_init 2 none, Cond.methodLink RX1 3 objectInit, Cond.classLink RX1 9 RX0, Cond.fieldLink RX1 11 "BeamPieces$Changes" "olds" "[LBeamPieces$Beam;", Cond.methodLink RX1 17 yX0_init, Cond.methodLink RX8 30 yX7_init, Cond.instanceMethod yX7_init, Cond.code yX7_init cX7_init 1 none, Cond.methodLink RX7 3 objectInit, Cond.fieldLink RX7 9 "BeamPieces$Statics" "place" "[I", Cond.fieldLink RX7 15 "BeamPieces$Statics" "joint" "[I", Cond.arrayClass .long, Cond.fieldLink RX7 18 "BeamPieces$Statics" "lump" "[J"]
def wsL_law_r4 : List Cond := [Cond.fieldLink RX7 22 "BeamPieces$Statics" "dense" "[J", Cond.fieldLink RX7 25 "BeamPieces$Statics" "below" "J", Cond.fieldLink RX7 29 "BeamPieces$Statics" "up" "[J", Cond.fieldLink RX7 32 "BeamPieces$Statics" "cut" "[J", Cond.fieldLink RX7 35 "BeamPieces$Statics" "bend" "[J", Cond.fieldLink RX7 38 "BeamPieces$Statics" "dipBelow" "J", Cond.fieldLink RX7 41 "BeamPieces$Statics" "dip" "[J", Cond.classLink RX7 44 RX4, Cond.instantiable RX4 4, Cond.initialized RX4, Cond.fieldLink RX7 49 "BeamPieces$Statics" "top" "LBeamPieces$Peak;", Cond.fieldLink RX7 53 "BeamPieces$Statics" "bottom" "LBeamPieces$Peak;", Cond.fieldLink RX7 56 "BeamPieces$Statics" "spansTimes" "J", Cond.fieldLink RX7 59 "BeamPieces$Statics" "over" "[J", Cond.classLink RX7 62 RX2, Cond.fieldLink RX7 65 "BeamPieces$Statics" "much" "LBeamPieces$Fraction;", Cond.fieldLink RX7 69 "BeamPieces$Statics" "where" "LBeamPieces$Fraction;", Cond.methodLink RX7 46 yX4_init, Cond.instanceMethod yX4_init, Cond.code yX4_init cX4_init 2 none, Cond.methodLink RX4 1 objectInit, Cond.classLink RX4 7 RX2, Cond.fieldLink RX4 10 "BeamPieces$Peak" "much" "LBeamPieces$Fraction;", Cond.fieldLink RX4 16 "BeamPieces$Peak" "where" "LBeamPieces$Fraction;"]
def wsL_law_r5 : List Cond := [Cond.fieldLink RX4 19 "BeamPieces$Peak" "way" "I", Cond.methodLink RX4 9 yX2_init, Cond.instanceMethod yX2_init, Cond.code yX2_init cX2_init 1 none, Cond.methodLink RX2 3 objectInit, Cond.fieldLink RX2 9 "BeamPieces$Fraction" "below" "J", Cond.methodLink RX7 64 yX2_init, Cond.methodLink RX8 37 yX2_init, Cond.methodLink RX8 47 yX5_init, Cond.instanceMethod yX5_init, Cond.code yX5_init cX5_init 1 none, Cond.methodLink RX5 3 objectInit, Cond.classLink RX5 9 RX0, Cond.fieldLink RX5 12 "BeamPieces$Reader" "trial" "LBeamPieces$Beam;", Cond.arrayClass .byte, Cond.fieldLink RX5 18 "BeamPieces$Reader" "tape" "[B", Cond.fieldLink RX5 22 "BeamPieces$Reader" "number" "[I", Cond.methodLink RX5 11 yX0_init, Cond.methodLink RX8 54 yX3_init, Cond.instanceMethod yX3_init, Cond.code yX3_init cX3_init 1 none, Cond.methodLink RX3 3 objectInit, Cond.fieldLink RX3 9 "BeamPieces$Paper" "bytes" "[B", Cond.fieldLink RX3 15 "BeamPieces$Paper" "figures" "[B"]
def wsL_law_r6 : List Cond := [Cond.methodLink RX8 61 yX6_init, Cond.instanceMethod yX6_init, Cond.code yX6_init cX6_init 1 none, Cond.methodLink RX6 3 objectInit, Cond.fieldLink RX6 9 "BeamPieces$Rows" "size" "[I", Cond.fieldLink RX6 15 "BeamPieces$Rows" "cells" "[J", Cond.methodLink RX6 19 yJ7_fill_53178, Cond.static yJ7_fill_53178, Cond.initialized RJ7, Cond.code yJ7_fill_53178 cJ7_fill_53178 4 none, Cond.methodLink RL 12 yX9_init, Cond.instanceMethod yX9_init, Cond.code yX9_init cX9_init 1 none, Cond.methodLink RX9 3 objectInit, Cond.fieldLink RX9 11 "BeamPiecesModel" "now" "[I", Cond.fieldLink RX9 15 "BeamPiecesModel" "kept" "[I", Cond.fieldLink RX9 18 "BeamPiecesModel" "history" "[I", Cond.fieldLink RX9 21 "BeamPiecesModel" "down" "J", Cond.fieldLink RX9 25 "BeamPiecesModel" "mUp" "[J", Cond.fieldLink RX9 29 "BeamPiecesModel" "mDown" "[J", Cond.fieldLink RX9 32 "BeamPiecesModel" "rUp" "[J", Cond.fieldLink RX9 35 "BeamPiecesModel" "rDown" "[J", Cond.fieldLink RX9 38 "BeamPiecesModel" "force" "[J", Cond.fieldLink RX9 41 "BeamPiecesModel" "forceDown" "[J"]
def wsL_law_r7 : List Cond := [Cond.fieldLink RX9 44 "BeamPiecesModel" "twice" "[J", Cond.fieldLink RX9 47 "BeamPiecesModel" "aside" "[I", Cond.fieldLink RX9 50 "BeamPiecesModel" "tape" "[I", Cond.arrayClass .char, Cond.fieldLink RX9 53 "BeamPiecesModel" "letters" "[C", Cond.fieldLink RX9 57 "BeamPiecesModel" "begins" "[I", Cond.fieldLink RX9 60 "BeamPiecesModel" "wants" "[I", Cond.fieldLink RX9 63 "BeamPiecesModel" "numbers" "[I", Cond.fieldLink RX9 66 "BeamPiecesModel" "saved" "[I", Cond.fieldLink RX9 69 "BeamPiecesModel" "paper" "[I", Cond.fieldLink RX9 72 "BeamPiecesModel" "items" "[J", Cond.fieldLink RX9 75 "BeamPiecesModel" "sizes" "[I", Cond.methodLink RL 13 yX8_beam, Cond.instanceMethod yX8_beam, Cond.selects RX8 yX8_beam yX8_beam, Cond.code yX8_beam cX8_beam 3 (some .int), Cond.fieldLink RX8 70 "BeamPieces$Beam" "length" "I", Cond.methodLink RX8 66 yX0_whyNotLength, Cond.instanceMethod yX0_whyNotLength, Cond.selects RX0 yX0_whyNotLength yX0_whyNotLength, Cond.code yX0_whyNotLength cX0_whyNotLength 2 (some .int), Cond.methodLink RX8 74 yX0_clear, Cond.instanceMethod yX0_clear, Cond.selects RX0 yX0_clear yX0_clear]
def wsL_law_r8 : List Cond := [Cond.code yX0_clear cX0_clear 2 none, Cond.fieldLink RX0 40 "BeamPieces$Beam" "supports" "I", Cond.fieldLink RX0 49 "BeamPieces$Beam" "loads" "I", Cond.fieldLink RX0 52 "BeamPieces$Beam" "axles" "I", Cond.methodLink RX8 78 yX1_forget, Cond.instanceMethod yX1_forget, Cond.selects RX1 yX1_forget yX1_forget, Cond.code yX1_forget cX1_forget 1 none, Cond.fieldLink RX1 26 "BeamPieces$Changes" "size" "I", Cond.methodLink RL 17 yX9_beam, Cond.instanceMethod yX9_beam, Cond.selects RX9 yX9_beam yX9_beam, Cond.code yX9_beam cX9_beam 4 (some .int), Cond.constantLong RX9 86 (2), Cond.constantLong RX9 88 (10), Cond.fieldLink RX9 78 "BeamPiecesModel" "changes" "I", Cond.methodLink RX9 82 yX9_in, Cond.static yX9_in, Cond.code yX9_in cX9_in 6 (some .boolean), Cond.methodLink RL 18 yX8_support, Cond.instanceMethod yX8_support, Cond.selects RX8 yX8_support yX8_support, Cond.code yX8_support cX8_support 3 (some .int), Cond.methodLink RX8 81 yX0_whyNotSupport]
def wsL_law_r9 : List Cond := [Cond.instanceMethod yX0_whyNotSupport, Cond.selects RX0 yX0_whyNotSupport yX0_whyNotSupport, Cond.code yX0_whyNotSupport cX0_whyNotSupport 2 (some .int), Cond.methodLink RX0 55 yX0_isPlace, Cond.instanceMethod yX0_isPlace, Cond.selects RX0 yX0_isPlace yX0_isPlace, Cond.code yX0_isPlace cX0_isPlace 2 (some .boolean), Cond.methodLink RX0 59 yX0_numberAt, Cond.instanceMethod yX0_numberAt, Cond.selects RX0 yX0_numberAt yX0_numberAt, Cond.code yX0_numberAt cX0_numberAt 3 (some .int), Cond.methodLink RX8 84 yX1_keep, Cond.instanceMethod yX1_keep, Cond.selects RX1 yX1_keep yX1_keep, Cond.code yX1_keep cX1_keep 3 none, Cond.fieldLink RX1 18 "BeamPieces$Changes" "next" "I", Cond.methodLink RX1 29 Lib.Math.min.name, Cond.static Lib.Math.min.name, Cond.initialized "java/lang/Math", Cond.code Lib.Math.min.name Lib.Math.min.code 2 (some .int), Cond.methodLink RX1 22 yX0_become, Cond.instanceMethod yX0_become, Cond.selects RX0 yX0_become yX0_become, Cond.code yX0_become cX0_become 2 none]
def wsL_law_r10 : List Cond := [Cond.methodLink RX0 43 arraycopyName, Cond.native arraycopyName, Cond.static arraycopyName, Cond.initialized "java/lang/System", Cond.methodLink RX8 88 yX0_putSupport, Cond.instanceMethod yX0_putSupport, Cond.selects RX0 yX0_putSupport yX0_putSupport, Cond.code yX0_putSupport cX0_putSupport 3 (some .int), Cond.methodLink RL 21 yX9_support, Cond.instanceMethod yX9_support, Cond.selects RX9 yX9_support yX9_support, Cond.code yX9_support cX9_support 3 (some .int), Cond.methodLink RX9 90 yX9_isPlace, Cond.instanceMethod yX9_isPlace, Cond.selects RX9 yX9_isPlace yX9_isPlace, Cond.code yX9_isPlace cX9_isPlace 2 (some .boolean), Cond.methodLink RX9 94 yX9_supportAt, Cond.instanceMethod yX9_supportAt, Cond.selects RX9 yX9_supportAt yX9_supportAt, Cond.code yX9_supportAt cX9_supportAt 3 (some .int), Cond.methodLink RX9 98 yX9_changes, Cond.instanceMethod yX9_changes, Cond.selects RX9 yX9_changes yX9_changes, Cond.code yX9_changes cX9_changes 2 none]
def wsL_law_r11 : List Cond := [Cond.methodLink RL 22 yX8_drop, Cond.instanceMethod yX8_drop, Cond.selects RX8 yX8_drop yX8_drop, Cond.code yX8_drop cX8_drop 3 (some .int), Cond.methodLink RX8 91 yX0_whyNotAtSupport, Cond.instanceMethod yX0_whyNotAtSupport, Cond.selects RX0 yX0_whyNotAtSupport yX0_whyNotAtSupport, Cond.code yX0_whyNotAtSupport cX0_whyNotAtSupport 2 (some .int), Cond.methodLink RX8 94 yX0_numberAt, Cond.methodLink RX8 97 yX0_takeSupport, Cond.instanceMethod yX0_takeSupport, Cond.selects RX0 yX0_takeSupport yX0_takeSupport, Cond.code yX0_takeSupport cX0_takeSupport 3 (some .int), Cond.methodLink RX0 66 yX0_isSupport, Cond.instanceMethod yX0_isSupport, Cond.selects RX0 yX0_isSupport yX0_isSupport, Cond.code yX0_isSupport cX0_isSupport 2 (some .boolean), Cond.methodLink RL 25 yX9_drop, Cond.instanceMethod yX9_drop, Cond.selects RX9 yX9_drop yX9_drop, Cond.code yX9_drop cX9_drop 4 (some .int), Cond.methodLink RL 26 yX8_hinge, Cond.instanceMethod yX8_hinge, Cond.selects RX8 yX8_hinge yX8_hinge]
def wsL_law_r12 : List Cond := [Cond.code yX8_hinge cX8_hinge 4 (some .int), Cond.methodLink RX8 100 yX0_putHinge, Cond.instanceMethod yX0_putHinge, Cond.selects RX0 yX0_putHinge yX0_putHinge, Cond.code yX0_putHinge cX0_putHinge 4 (some .int), Cond.methodLink RL 30 yX9_hinge, Cond.instanceMethod yX9_hinge, Cond.selects RX9 yX9_hinge yX9_hinge, Cond.code yX9_hinge cX9_hinge 5 (some .int), Cond.methodLink RL 31 yX8_point, Cond.instanceMethod yX8_point, Cond.selects RX8 yX8_point yX8_point, Cond.code yX8_point cX8_point 4 (some .int), Cond.methodLink RX8 104 yX0_whyNotPoint, Cond.instanceMethod yX0_whyNotPoint, Cond.selects RX0 yX0_whyNotPoint yX0_whyNotPoint, Cond.code yX0_whyNotPoint cX0_whyNotPoint 3 (some .int), Cond.static yX8_isV, Cond.code yX8_isV cX8_isV 1 (some .boolean), Cond.methodLink RX8 107 yX0_putLoad, Cond.instanceMethod yX0_putLoad, Cond.selects RX0 yX0_putLoad yX0_putLoad, Cond.code yX0_putLoad cX0_putLoad 5 (some .int), Cond.methodLink RL 34 yX9_point]
def wsL_law_r13 : List Cond := [Cond.instanceMethod yX9_point, Cond.selects RX9 yX9_point yX9_point, Cond.code yX9_point cX9_point 3 (some .int), Cond.constantLong RX9 100 (-9), Cond.constantLong RX9 102 (9), Cond.methodLink RX9 104 yX9_comes, Cond.instanceMethod yX9_comes, Cond.selects RX9 yX9_comes yX9_comes, Cond.code yX9_comes cX9_comes 5 (some .int), Cond.methodLink RL 35 yX8_spread, Cond.instanceMethod yX8_spread, Cond.selects RX8 yX8_spread yX8_spread, Cond.code yX8_spread cX8_spread 5 (some .int), Cond.methodLink RX8 111 yX0_whyNotSpread, Cond.instanceMethod yX0_whyNotSpread, Cond.selects RX0 yX0_whyNotSpread yX0_whyNotSpread, Cond.code yX0_whyNotSpread cX0_whyNotSpread 4 (some .int), Cond.methodLink RL 39 yX9_spread, Cond.instanceMethod yX9_spread, Cond.selects RX9 yX9_spread yX9_spread, Cond.code yX9_spread cX9_spread 4 (some .int), Cond.methodLink RL 40 yX8_heavier, Cond.instanceMethod yX8_heavier, Cond.selects RX8 yX8_heavier yX8_heavier]
def wsL_law_r14 : List Cond := [Cond.code yX8_heavier cX8_heavier 4 (some .int), Cond.fieldLink RX8 122 "BeamPieces$Beam" "v" "[I", Cond.methodLink RX8 115 yX0_isLoad, Cond.instanceMethod yX0_isLoad, Cond.selects RX0 yX0_isLoad yX0_isLoad, Cond.code yX0_isLoad cX0_isLoad 2 (some .boolean), Cond.methodLink RX8 119 yX8_isV, Cond.methodLink RL 43 yX9_heavier, Cond.instanceMethod yX9_heavier, Cond.selects RX9 yX9_heavier yX9_heavier, Cond.code yX9_heavier cX9_heavier 4 (some .int), Cond.methodLink RX9 108 yX9_isLoad, Cond.instanceMethod yX9_isLoad, Cond.selects RX9 yX9_isLoad yX9_isLoad, Cond.code yX9_isLoad cX9_isLoad 2 (some .boolean), Cond.methodLink RL 44 yX8_lift, Cond.instanceMethod yX8_lift, Cond.selects RX8 yX8_lift yX8_lift, Cond.code yX8_lift cX8_lift 2 (some .int), Cond.methodLink RX8 126 yX0_takeLoad, Cond.instanceMethod yX0_takeLoad, Cond.selects RX0 yX0_takeLoad yX0_takeLoad, Cond.code yX0_takeLoad cX0_takeLoad 3 (some .int), Cond.methodLink RX0 69 yX0_isLoad]
def wsL_law_r15 : List Cond := [Cond.methodLink RL 47 yX9_lift, Cond.instanceMethod yX9_lift, Cond.selects RX9 yX9_lift yX9_lift, Cond.code yX9_lift cX9_lift 3 (some .int), Cond.methodLink RL 48 yX8_axle, Cond.instanceMethod yX8_axle, Cond.selects RX8 yX8_axle yX8_axle, Cond.code yX8_axle cX8_axle 4 (some .int), Cond.methodLink RX8 129 yX0_whyNotAxle, Cond.instanceMethod yX0_whyNotAxle, Cond.selects RX0 yX0_whyNotAxle yX0_whyNotAxle, Cond.code yX0_whyNotAxle cX0_whyNotAxle 3 (some .int), Cond.methodLink RX8 132 yX0_putAxle, Cond.instanceMethod yX0_putAxle, Cond.selects RX0 yX0_putAxle yX0_putAxle, Cond.code yX0_putAxle cX0_putAxle 3 (some .int), Cond.methodLink RL 51 yX9_axle, Cond.instanceMethod yX9_axle, Cond.selects RX9 yX9_axle yX9_axle, Cond.code yX9_axle cX9_axle 3 (some .int), Cond.methodLink RL 52 yX8_unhitch, Cond.instanceMethod yX8_unhitch, Cond.selects RX8 yX8_unhitch yX8_unhitch, Cond.code yX8_unhitch cX8_unhitch 2 (some .int)]
def wsL_law_r16 : List Cond := [Cond.fieldLink RX8 135 "BeamPieces$Beam" "axles" "I", Cond.methodLink RL 56 yX9_unhitch, Cond.instanceMethod yX9_unhitch, Cond.selects RX9 yX9_unhitch yX9_unhitch, Cond.code yX9_unhitch cX9_unhitch 2 (some .int), Cond.methodLink RL 57 yX8_loadOf, Cond.instanceMethod yX8_loadOf, Cond.selects RX8 yX8_loadOf yX8_loadOf, Cond.code yX8_loadOf cX8_loadOf 3 (some .int), Cond.fieldLink RX8 138 "BeamPieces$Beam" "from" "[I", Cond.fieldLink RX8 141 "BeamPieces$Beam" "to" "[I", Cond.fieldLink RX8 144 "BeamPieces$Beam" "pointed" "[I", Cond.methodLink RL 60 yX9_loadOf, Cond.instanceMethod yX9_loadOf, Cond.selects RX9 yX9_loadOf yX9_loadOf, Cond.code yX9_loadOf cX9_loadOf 5 (some .int), Cond.constantLong RX9 111 (3), Cond.methodLink RL 61 yX8_supportOf, Cond.instanceMethod yX8_supportOf, Cond.selects RX8 yX8_supportOf yX8_supportOf, Cond.code yX8_supportOf cX8_supportOf 3 (some .int), Cond.fieldLink RX8 150 "BeamPieces$Beam" "place" "[I", Cond.fieldLink RX8 153 "BeamPieces$Beam" "joint" "[I", Cond.methodLink RX8 147 yX0_isSupport]
def wsL_law_r17 : List Cond := [Cond.methodLink RL 64 yX9_supportOf, Cond.instanceMethod yX9_supportOf, Cond.selects RX9 yX9_supportOf yX9_supportOf, Cond.code yX9_supportOf cX9_supportOf 3 (some .int), Cond.methodLink RX9 113 yX9_isSupport, Cond.instanceMethod yX9_isSupport, Cond.selects RX9 yX9_isSupport yX9_isSupport, Cond.code yX9_isSupport cX9_isSupport 2 (some .boolean), Cond.methodLink RL 65 yX8_count, Cond.instanceMethod yX8_count, Cond.selects RX8 yX8_count yX8_count, Cond.code yX8_count cX8_count 2 (some .int), Cond.fieldLink RX8 156 "BeamPieces$Beam" "supports" "I", Cond.fieldLink RX8 159 "BeamPieces$Beam" "loads" "I", Cond.fieldLink RX8 162 "BeamPieces$Changes" "size" "I", Cond.fieldLink RX8 165 "BeamPieces$Reader" "size" "I", Cond.fieldLink RX8 166 "BeamPieces$Paper" "size" "I", Cond.methodLink RX8 167 yX0_together, Cond.instanceMethod yX0_together, Cond.selects RX0 yX0_together yX0_together, Cond.code yX0_together cX0_together 3 (some .int), Cond.methodLink RL 68 yX9_count, Cond.instanceMethod yX9_count, Cond.selects RX9 yX9_count yX9_count]
def wsL_law_r18 : List Cond := [Cond.code yX9_count cX9_count 2 (some .int), Cond.fieldLink RX9 116 "BeamPiecesModel" "size" "I", Cond.fieldLink RX9 119 "BeamPiecesModel" "paperMany" "I", Cond.methodLink RX9 122 yX9_allLoads, Cond.instanceMethod yX9_allLoads, Cond.selects RX9 yX9_allLoads yX9_allLoads, Cond.code yX9_allLoads cX9_allLoads 4 (some .int), Cond.methodLink RL 69 yX8_reaction, Cond.instanceMethod yX8_reaction, Cond.selects RX8 yX8_reaction yX8_reaction, Cond.code yX8_reaction cX8_reaction 3 (some .long), Cond.constantLong RX8 178 (-9223372036854775808), Cond.fieldLink RX8 183 "BeamPieces$Statics" "up" "[J", Cond.fieldLink RX8 187 "BeamPieces$Statics" "below" "J", Cond.methodLink RX8 171 yX0_stands, Cond.instanceMethod yX0_stands, Cond.selects RX0 yX0_stands yX0_stands, Cond.code yX0_stands cX0_stands 1 (some .boolean), Cond.methodLink RX8 175 yX8_isPart, Cond.static yX8_isPart, Cond.code yX8_isPart cX8_isPart 1 (some .boolean), Cond.methodLink RX8 180 yX8_solveAsItIs, Cond.instanceMethod yX8_solveAsItIs, Cond.selects RX8 yX8_solveAsItIs yX8_solveAsItIs]
def wsL_law_r19 : List Cond := [Cond.code yX8_solveAsItIs cX8_solveAsItIs 1 none, Cond.methodLink RX8 262 yX7_frame, Cond.instanceMethod yX7_frame, Cond.selects RX7 yX7_frame yX7_frame, Cond.code yX7_frame cX7_frame 2 none, Cond.fieldLink RX7 72 "BeamPieces$Beam" "length" "I", Cond.fieldLink RX7 78 "BeamPieces$Statics" "length" "I", Cond.fieldLink RX7 79 "BeamPieces$Beam" "supports" "I", Cond.fieldLink RX7 82 "BeamPieces$Statics" "supports" "I", Cond.fieldLink RX7 83 "BeamPieces$Beam" "place" "[I", Cond.methodLink RX7 84 arraycopyName, Cond.fieldLink RX7 90 "BeamPieces$Beam" "joint" "[I", Cond.methodLink RX7 91 yJ7_fill_d0a16, Cond.static yJ7_fill_d0a16, Cond.code yJ7_fill_d0a16 cJ7_fill_d0a16 5 none, Cond.methodLink RX8 266 yX7_bearLoads, Cond.instanceMethod yX7_bearLoads, Cond.selects RX7 yX7_bearLoads yX7_bearLoads, Cond.code yX7_bearLoads cX7_bearLoads 4 none, Cond.fieldLink RX7 97 "BeamPieces$Beam" "loads" "I", Cond.fieldLink RX7 100 "BeamPieces$Beam" "pointed" "[I", Cond.fieldLink RX7 103 "BeamPieces$Beam" "from" "[I", Cond.fieldLink RX7 106 "BeamPieces$Beam" "v" "[I", Cond.fieldLink RX7 113 "BeamPieces$Beam" "to" "[I"]
def wsL_law_r20 : List Cond := [Cond.methodLink RX7 109 yX7_bearPoint, Cond.instanceMethod yX7_bearPoint, Cond.selects RX7 yX7_bearPoint yX7_bearPoint, Cond.code yX7_bearPoint cX7_bearPoint 3 none, Cond.methodLink RX8 269 yX7_solve, Cond.instanceMethod yX7_solve, Cond.selects RX7 yX7_solve yX7_solve, Cond.code yX7_solve cX7_solve 1 none, Cond.methodLink RX7 116 yX7_solveOverSupports, Cond.instanceMethod yX7_solveOverSupports, Cond.selects RX7 yX7_solveOverSupports yX7_solveOverSupports, Cond.code yX7_solveOverSupports cX7_solveOverSupports 18 none, Cond.constantLong RX7 133 (2), Cond.constantLong RX7 148 (4), Cond.methodLink RX7 129 yX7_span, Cond.instanceMethod yX7_span, Cond.selects RX7 yX7_span yX7_span, Cond.code yX7_span cX7_span 2 (some .long), Cond.methodLink RX7 135 yX7_twiceOverFirst, Cond.instanceMethod yX7_twiceOverFirst, Cond.selects RX7 yX7_twiceOverFirst yX7_twiceOverFirst, Cond.code yX7_twiceOverFirst cX7_twiceOverFirst 6 (some .long), Cond.methodLink RX7 139 yX7_twiceOverLast, Cond.instanceMethod yX7_twiceOverLast]
def wsL_law_r21 : List Cond := [Cond.selects RX7 yX7_twiceOverLast yX7_twiceOverLast, Cond.code yX7_twiceOverLast cX7_twiceOverLast 7 (some .long), Cond.methodLink RX7 142 yX7_hasRow, Cond.instanceMethod yX7_hasRow, Cond.selects RX7 yX7_hasRow yX7_hasRow, Cond.code yX7_hasRow cX7_hasRow 2 (some .boolean), Cond.methodLink RX7 125 yX7_isInner, Cond.instanceMethod yX7_isInner, Cond.selects RX7 yX7_isInner yX7_isInner, Cond.code yX7_isInner cX7_isInner 2 (some .boolean), Cond.methodLink RX7 145 yX7_leans, Cond.instanceMethod yX7_leans, Cond.selects RX7 yX7_leans yX7_leans, Cond.code yX7_leans cX7_leans 2 (some .long), Cond.methodLink RX7 150 yX7_leanToRight, Cond.instanceMethod yX7_leanToRight, Cond.selects RX7 yX7_leanToRight yX7_leanToRight, Cond.code yX7_leanToRight cX7_leanToRight 8 (some .long), Cond.methodLink RX7 160 yX7_leanOfSpread, Cond.static yX7_leanOfSpread, Cond.code yX7_leanOfSpread cX7_leanOfSpread 4 (some .long), Cond.methodLink RX7 163 yX7_leanOfPoint, Cond.static yX7_leanOfPoint, Cond.code yX7_leanOfPoint cX7_leanOfPoint 4 (some .long)]
def wsL_law_r22 : List Cond := [Cond.static yX8_divide, Cond.code yX8_divide cX8_divide 4 (some .long), Cond.methodLink RX7 157 yX7_leanToLeft, Cond.instanceMethod yX7_leanToLeft, Cond.selects RX7 yX7_leanToLeft yX7_leanToLeft, Cond.code yX7_leanToLeft cX7_leanToLeft 8 (some .long), Cond.methodLink RX7 119 yX7_shearAlong, Cond.instanceMethod yX7_shearAlong, Cond.selects RX7 yX7_shearAlong yX7_shearAlong, Cond.code yX7_shearAlong cX7_shearAlong 7 none, Cond.methodLink RX7 166 yX7_loadsBehind, Cond.instanceMethod yX7_loadsBehind, Cond.selects RX7 yX7_loadsBehind yX7_loadsBehind, Cond.code yX7_loadsBehind cX7_loadsBehind 5 (some .long), Cond.methodLink RX7 169 yX7_shearOfSpan, Cond.instanceMethod yX7_shearOfSpan, Cond.selects RX7 yX7_shearOfSpan yX7_shearOfSpan, Cond.code yX7_shearOfSpan cX7_shearOfSpan 8 (some .long), Cond.methodLink RX7 122 yX7_bendAlong, Cond.instanceMethod yX7_bendAlong, Cond.selects RX7 yX7_bendAlong yX7_bendAlong, Cond.code yX7_bendAlong cX7_bendAlong 2 none, Cond.methodLink RX8 191 yX8_inLowest, Cond.instanceMethod yX8_inLowest]
def wsL_law_r23 : List Cond := [Cond.selects RX8 yX8_inLowest yX8_inLowest, Cond.code yX8_inLowest cX8_inLowest 6 (some .long), Cond.methodLink RX8 341 yX2_become, Cond.instanceMethod yX2_become, Cond.selects RX2 yX2_become yX2_become, Cond.code yX2_become cX2_become 9 none, Cond.constantLong RX2 19 (-1), Cond.fieldLink RX2 24 "BeamPieces$Fraction" "above" "J", Cond.methodLink RX2 27 Lib.MathLoose.max_long.x, Cond.static Lib.MathLoose.max_long.x, Cond.code Lib.MathLoose.max_long.x Lib.MathLoose.max_long.code 4 (some .long), Cond.static yX8_commonDivisor, Cond.code yX8_commonDivisor cX8_commonDivisor 11 (some .long), Cond.methodLink RX8 335 Lib.MathLoose.abs_long.x, Cond.static Lib.MathLoose.abs_long.x, Cond.code Lib.MathLoose.abs_long.x Lib.MathLoose.abs_long.code 2 (some .long), Cond.methodLink RX8 205 yX2_told, Cond.instanceMethod yX2_told, Cond.selects RX2 yX2_told yX2_told, Cond.code yX2_told cX2_told 2 (some .long), Cond.methodLink RL 73 yX9_reaction, Cond.instanceMethod yX9_reaction, Cond.selects RX9 yX9_reaction yX9_reaction, Cond.code yX9_reaction cX9_reaction 3 (some .long)]
def wsL_law_r24 : List Cond := [Cond.constantLong RX9 200 (-9223372036854775808), Cond.fieldLink RX9 182 "BeamPiecesModel" "one" "J", Cond.fieldLink RX9 130 "BeamPiecesModel" "up" "J", Cond.methodLink RX9 196 yX9_stands, Cond.instanceMethod yX9_stands, Cond.selects RX9 yX9_stands yX9_stands, Cond.code yX9_stands cX9_stands 1 (some .boolean), Cond.methodLink RX9 202 yX9_reactions, Cond.instanceMethod yX9_reactions, Cond.selects RX9 yX9_reactions yX9_reactions, Cond.code yX9_reactions cX9_reactions 5 none, Cond.methodLink RX9 179 yX9_moments, Cond.instanceMethod yX9_moments, Cond.selects RX9 yX9_moments yX9_moments, Cond.code yX9_moments cX9_moments 10 none, Cond.methodLink RX9 169 yX9_beyond, Cond.instanceMethod yX9_beyond, Cond.selects RX9 yX9_beyond yX9_beyond, Cond.code yX9_beyond cX9_beyond 12 (some .long), Cond.methodLink RX9 137 yX9_more, Cond.static yX9_more, Cond.code yX9_more cX9_more 2 (some .int), Cond.methodLink RX9 144 yX9_isSpread, Cond.instanceMethod yX9_isSpread]
def wsL_law_r25 : List Cond := [Cond.selects RX9 yX9_isSpread yX9_isSpread, Cond.code yX9_isSpread cX9_isSpread 2 (some .boolean), Cond.methodLink RX9 133 yX9_is, Cond.instanceMethod yX9_is, Cond.selects RX9 yX9_is yX9_is, Cond.code yX9_is cX9_is 7 none, Cond.methodLink RX9 126 yX9_divisor, Cond.static yX9_divisor, Cond.code yX9_divisor cX9_divisor 10 (some .long), Cond.methodLink RX9 165 yX9_keeps, Cond.instanceMethod yX9_keeps, Cond.selects RX9 yX9_keeps yX9_keeps, Cond.code yX9_keeps cX9_keeps 2 none, Cond.methodLink RX9 173 yX9_gives, Cond.instanceMethod yX9_gives, Cond.selects RX9 yX9_gives yX9_gives, Cond.code yX9_gives cX9_gives 4 none, Cond.constantLong RX9 150 (4), Cond.methodLink RX9 152 yX9_spanOf, Cond.instanceMethod yX9_spanOf, Cond.selects RX9 yX9_spanOf yX9_spanOf, Cond.code yX9_spanOf cX9_spanOf 2 (some .int), Cond.methodLink RX9 155 yX9_sums, Cond.instanceMethod yX9_sums]
def wsL_law_r26 : List Cond := [Cond.selects RX9 yX9_sums yX9_sums, Cond.code yX9_sums cX9_sums 15 (some .long), Cond.methodLink RX9 141 yX9_less, Cond.static yX9_less, Cond.code yX9_less cX9_less 2 (some .int), Cond.methodLink RX9 147 yX9_whole, Cond.static yX9_whole, Cond.code yX9_whole cX9_whole 4 (some .long), Cond.methodLink RX9 159 yX9_plus, Cond.instanceMethod yX9_plus, Cond.selects RX9 yX9_plus yX9_plus, Cond.code yX9_plus cX9_plus 7 none, Cond.methodLink RX9 162 yX9_isLoose, Cond.instanceMethod yX9_isLoose, Cond.selects RX9 yX9_isLoose yX9_isLoose, Cond.code yX9_isLoose cX9_isLoose 2 (some .boolean), Cond.methodLink RX9 176 yX9_alone, Cond.instanceMethod yX9_alone, Cond.selects RX9 yX9_alone yX9_alone, Cond.code yX9_alone cX9_alone 3 none, Cond.methodLink RX9 185 yX9_pointsAt, Cond.instanceMethod yX9_pointsAt, Cond.selects RX9 yX9_pointsAt yX9_pointsAt, Cond.code yX9_pointsAt cX9_pointsAt 5 (some .long)]
def wsL_law_r27 : List Cond := [Cond.methodLink RX9 189 yX9_beside, Cond.instanceMethod yX9_beside, Cond.selects RX9 yX9_beside yX9_beside, Cond.code yX9_beside cX9_beside 6 (some .long), Cond.methodLink RX9 192 yX9_bears, Cond.instanceMethod yX9_bears, Cond.selects RX9 yX9_bears yX9_bears, Cond.code yX9_bears cX9_bears 14 none, Cond.methodLink RL 74 yX8_shear, Cond.instanceMethod yX8_shear, Cond.selects RX8 yX8_shear yX8_shear, Cond.code yX8_shear cX8_shear 3 (some .long), Cond.fieldLink RX8 198 "BeamPieces$Statics" "cut" "[J", Cond.methodLink RX8 195 yX0_isPlace, Cond.methodLink RL 77 yX9_shear, Cond.instanceMethod yX9_shear, Cond.selects RX9 yX9_shear yX9_shear, Cond.code yX9_shear cX9_shear 3 (some .long), Cond.methodLink RX9 205 yX9_shearBehind, Cond.instanceMethod yX9_shearBehind, Cond.selects RX9 yX9_shearBehind yX9_shearBehind, Cond.code yX9_shearBehind cX9_shearBehind 6 (some .long), Cond.methodLink RL 78 yX8_moment, Cond.instanceMethod yX8_moment]
def wsL_law_r28 : List Cond := [Cond.selects RX8 yX8_moment yX8_moment, Cond.code yX8_moment cX8_moment 4 (some .long), Cond.methodLink RX8 201 yX7_bendBetween, Cond.instanceMethod yX7_bendBetween, Cond.selects RX7 yX7_bendBetween yX7_bendBetween, Cond.code yX7_bendBetween cX7_bendBetween 11 none, Cond.methodLink RX7 172 Lib.MathLoose.min_long.x, Cond.static Lib.MathLoose.min_long.x, Cond.code Lib.MathLoose.min_long.x Lib.MathLoose.min_long.code 4 (some .long), Cond.methodLink RX7 177 yX2_become, Cond.methodLink RL 82 yX9_moment, Cond.instanceMethod yX9_moment, Cond.selects RX9 yX9_moment yX9_moment, Cond.code yX9_moment cX9_moment 4 (some .long), Cond.constantLong RX9 208 (100), Cond.methodLink RX9 210 yX9_momentAt, Cond.instanceMethod yX9_momentAt, Cond.selects RX9 yX9_momentAt yX9_momentAt, Cond.code yX9_momentAt cX9_momentAt 14 (some .long), Cond.methodLink RL 83 yX8_sag, Cond.instanceMethod yX8_sag, Cond.selects RX8 yX8_sag yX8_sag, Cond.code yX8_sag cX8_sag 3 (some .long), Cond.fieldLink RX8 212 "BeamPieces$Statics" "dip" "[J"]
def wsL_law_r29 : List Cond := [Cond.fieldLink RX8 215 "BeamPieces$Statics" "dipBelow" "J", Cond.methodLink RX8 209 yX7_findSags, Cond.instanceMethod yX7_findSags, Cond.selects RX7 yX7_findSags yX7_findSags, Cond.code yX7_findSags cX7_findSags 4 none, Cond.constantLong RX7 211 (24), Cond.methodLink RX7 213 yX7_sagOfSpan, Cond.instanceMethod yX7_sagOfSpan, Cond.selects RX7 yX7_sagOfSpan yX7_sagOfSpan, Cond.code yX7_sagOfSpan cX7_sagOfSpan 7 (some .long), Cond.methodLink RX7 223 yX7_rise, Cond.instanceMethod yX7_rise, Cond.selects RX7 yX7_rise yX7_rise, Cond.code yX7_rise cX7_rise 2 (some .long), Cond.constantLong RX7 229 (12), Cond.methodLink RX7 226 yX7_bending, Cond.instanceMethod yX7_bending, Cond.selects RX7 yX7_bending yX7_bending, Cond.code yX7_bending cX7_bending 2 (some .long), Cond.methodLink RX7 216 yX7_sagAheadOfFirst, Cond.instanceMethod yX7_sagAheadOfFirst, Cond.selects RX7 yX7_sagAheadOfFirst yX7_sagAheadOfFirst, Cond.code yX7_sagAheadOfFirst cX7_sagAheadOfFirst 6 none, Cond.methodLink RX7 220 yX7_sagBehindLast]
def wsL_law_r30 : List Cond := [Cond.instanceMethod yX7_sagBehindLast, Cond.selects RX7 yX7_sagBehindLast yX7_sagBehindLast, Cond.code yX7_sagBehindLast cX7_sagBehindLast 6 none, Cond.methodLink RL 86 yX9_sag, Cond.instanceMethod yX9_sag, Cond.selects RX9 yX9_sag yX9_sag, Cond.code yX9_sag cX9_sag 3 (some .long), Cond.constantLong RX9 223 (24), Cond.methodLink RX9 220 yX9_sagAt, Cond.instanceMethod yX9_sagAt, Cond.selects RX9 yX9_sagAt yX9_sagAt, Cond.code yX9_sagAt cX9_sagAt 14 (some .long), Cond.constantLong RX9 216 (6), Cond.constantLong RX9 218 (12), Cond.methodLink RX9 213 yX9_spreadOn, Cond.instanceMethod yX9_spreadOn, Cond.selects RX9 yX9_spreadOn yX9_spreadOn, Cond.code yX9_spreadOn cX9_spreadOn 4 (some .int), Cond.methodLink RX9 225 yX9_wideAt, Cond.instanceMethod yX9_wideAt, Cond.selects RX9 yX9_wideAt yX9_wideAt, Cond.code yX9_wideAt cX9_wideAt 3 (some .int), Cond.methodLink RL 87 yX8_greatest, Cond.instanceMethod yX8_greatest]
def wsL_law_r31 : List Cond := [Cond.selects RX8 yX8_greatest yX8_greatest, Cond.code yX8_greatest cX8_greatest 4 (some .long), Cond.fieldLink RX8 221 "BeamPieces$Statics" "top" "LBeamPieces$Peak;", Cond.fieldLink RX8 225 "BeamPieces$Statics" "bottom" "LBeamPieces$Peak;", Cond.fieldLink RX8 228 "BeamPieces$Peak" "much" "LBeamPieces$Fraction;", Cond.fieldLink RX8 233 "BeamPieces$Peak" "where" "LBeamPieces$Fraction;", Cond.methodLink RX8 218 yX7_findPeaks, Cond.instanceMethod yX7_findPeaks, Cond.selects RX7 yX7_findPeaks yX7_findPeaks, Cond.code yX7_findPeaks cX7_findPeaks 4 none, Cond.fieldLink RX7 181 "BeamPieces$Peak" "isThere" "Z", Cond.methodLink RX7 185 yX7_offerPeak, Cond.instanceMethod yX7_offerPeak, Cond.selects RX7 yX7_offerPeak yX7_offerPeak, Cond.code yX7_offerPeak cX7_offerPeak 1 none, Cond.methodLink RX7 191 yX4_offer, Cond.instanceMethod yX4_offer, Cond.selects RX4 yX4_offer yX4_offer, Cond.code yX4_offer cX4_offer 3 none, Cond.fieldLink RX4 23 "BeamPieces$Peak" "isThere" "Z", Cond.methodLink RX4 27 yX2_against, Cond.instanceMethod yX2_against, Cond.selects RX2 yX2_against yX2_against, Cond.code yX2_against cX2_against 19 (some .int)]
def wsL_law_r32 : List Cond := [Cond.methodLink RX2 32 yJ9_floorDiv_f86c9, Cond.static yJ9_floorDiv_f86c9, Cond.initialized RJ9, Cond.code yJ9_floorDiv_f86c9 cJ9_floorDiv_f86c9 6 (some .long), Cond.methodLink RX2 35 yJ13_compare_74951, Cond.static yJ13_compare_74951, Cond.initialized RJ13, Cond.code yJ13_compare_74951 cJ13_compare_74951 4 (some .int), Cond.methodLink RX4 31 yX2_copy, Cond.instanceMethod yX2_copy, Cond.selects RX2 yX2_copy yX2_copy, Cond.code yX2_copy cX2_copy 2 none, Cond.methodLink RX7 188 yX7_turnsWithin, Cond.instanceMethod yX7_turnsWithin, Cond.selects RX7 yX7_turnsWithin yX7_turnsWithin, Cond.code yX7_turnsWithin cX7_turnsWithin 4 (some .boolean), Cond.methodLink RL 90 yX9_greatest, Cond.instanceMethod yX9_greatest, Cond.selects RX9 yX9_greatest yX9_greatest, Cond.code yX9_greatest cX9_greatest 4 (some .long), Cond.fieldLink RX9 238 "BeamPiecesModel" "whereUp" "J", Cond.fieldLink RX9 241 "BeamPiecesModel" "whereDown" "J", Cond.fieldLink RX9 235 "BeamPiecesModel" "mostUp" "J", Cond.fieldLink RX9 232 "BeamPiecesModel" "mostDown" "J"]
def wsL_law_r33 : List Cond := [Cond.methodLink RX9 248 yX9_looks, Cond.instanceMethod yX9_looks, Cond.selects RX9 yX9_looks yX9_looks, Cond.code yX9_looks cX9_looks 13 none, Cond.methodLink RX9 244 yX9_tries, Cond.instanceMethod yX9_tries, Cond.selects RX9 yX9_tries yX9_tries, Cond.code yX9_tries cX9_tries 9 none, Cond.methodLink RX9 228 yX9_isLess, Cond.static yX9_isLess, Cond.code yX9_isLess cX9_isLess 25 (some .boolean), Cond.methodLink RL 91 yX8_lowest, Cond.instanceMethod yX8_lowest, Cond.selects RX8 yX8_lowest yX8_lowest, Cond.code yX8_lowest cX8_lowest 1 (some .int), Cond.methodLink RX8 236 yX7_placeOfMostSag, Cond.instanceMethod yX7_placeOfMostSag, Cond.selects RX7 yX7_placeOfMostSag yX7_placeOfMostSag, Cond.code yX7_placeOfMostSag cX7_placeOfMostSag 3 (some .int), Cond.methodLink RL 94 yX9_lowest, Cond.instanceMethod yX9_lowest, Cond.selects RX9 yX9_lowest yX9_lowest, Cond.code yX9_lowest cX9_lowest 3 (some .int), Cond.methodLink RL 95 yX8_times]
def wsL_law_r34 : List Cond := [Cond.instanceMethod yX8_times, Cond.selects RX8 yX8_times yX8_times, Cond.code yX8_times cX8_times 2 (some .int), Cond.fieldLink RX8 243 "BeamPieces$Fraction" "above" "J", Cond.methodLink RX8 239 yX7_tellSpan, Cond.instanceMethod yX7_tellSpan, Cond.selects RX7 yX7_tellSpan yX7_tellSpan, Cond.code yX7_tellSpan cX7_tellSpan 2 none, Cond.fieldLink RX7 198 "BeamPieces$Peak" "much" "LBeamPieces$Fraction;", Cond.fieldLink RX7 199 "BeamPieces$Fraction" "above" "J", Cond.fieldLink RX7 202 "BeamPieces$Fraction" "below" "J", Cond.methodLink RX7 195 yX7_findPeaks, Cond.methodLink RX7 203 yX2_against, Cond.methodLink RX7 207 yX2_copy, Cond.methodLink RX8 246 yX8_timesWithin, Cond.instanceMethod yX8_timesWithin, Cond.selects RX8 yX8_timesWithin yX8_timesWithin, Cond.code yX8_timesWithin cX8_timesWithin 3 (some .int), Cond.methodLink RX8 272 yX2_against, Cond.methodLink RL 98 yX9_times, Cond.instanceMethod yX9_times, Cond.selects RX9 yX9_times yX9_times, Cond.code yX9_times cX9_times 3 (some .int), Cond.constantLong RX9 257 (9999)]
def wsL_law_r35 : List Cond := [Cond.fieldLink RX9 251 "BeamPiecesModel" "spanUp" "J", Cond.fieldLink RX9 254 "BeamPiecesModel" "spanDown" "J", Cond.methodLink RX9 259 yX9_span, Cond.instanceMethod yX9_span, Cond.selects RX9 yX9_span yX9_span, Cond.code yX9_span cX9_span 6 none, Cond.methodLink RL 99 yX8_rolls, Cond.instanceMethod yX8_rolls, Cond.selects RX8 yX8_rolls yX8_rolls, Cond.code yX8_rolls cX8_rolls 3 (some .long), Cond.fieldLink RX8 252 "BeamPieces$Statics" "bend" "[J", Cond.methodLink RX8 249 yX8_canRoll, Cond.instanceMethod yX8_canRoll, Cond.selects RX8 yX8_canRoll yX8_canRoll, Cond.code yX8_canRoll cX8_canRoll 2 (some .boolean), Cond.methodLink RX8 255 yX8_mostByRolling, Cond.instanceMethod yX8_mostByRolling, Cond.selects RX8 yX8_mostByRolling yX8_mostByRolling, Cond.code yX8_mostByRolling cX8_mostByRolling 6 (some .long), Cond.methodLink RX8 353 yX8_solveRolling, Cond.instanceMethod yX8_solveRolling, Cond.selects RX8 yX8_solveRolling yX8_solveRolling, Cond.code yX8_solveRolling cX8_solveRolling 3 none, Cond.fieldLink RX8 347 "BeamPieces$Beam" "behind" "[I"]
def wsL_law_r36 : List Cond := [Cond.fieldLink RX8 350 "BeamPieces$Beam" "weight" "[I", Cond.methodLink RX8 344 yX7_bearPoint, Cond.methodLink RX8 276 yX2_copy, Cond.methodLink RL 102 yX9_rolls, Cond.instanceMethod yX9_rolls, Cond.selects RX9 yX9_rolls yX9_rolls, Cond.code yX9_rolls cX9_rolls 3 (some .long), Cond.methodLink RX9 278 yX9_most, Cond.instanceMethod yX9_most, Cond.selects RX9 yX9_most yX9_most, Cond.code yX9_most cX9_most 6 (some .long), Cond.methodLink RX9 266 yX9_thinks, Cond.instanceMethod yX9_thinks, Cond.selects RX9 yX9_thinks yX9_thinks, Cond.code yX9_thinks cX9_thinks 1 none, Cond.methodLink RX9 262 yX9_copies, Cond.static yX9_copies, Cond.code yX9_copies cX9_copies 3 none, Cond.methodLink RX9 269 yX9_alone_, Cond.instanceMethod yX9_alone_, Cond.selects RX9 yX9_alone_ yX9_alone_, Cond.code yX9_alone_ cX9_alone_ 3 none, Cond.methodLink RX9 272 yX9_asked, Cond.instanceMethod yX9_asked]
def wsL_law_r37 : List Cond := [Cond.selects RX9 yX9_asked yX9_asked, Cond.code yX9_asked cX9_asked 3 none, Cond.methodLink RX9 275 yX9_laysBack, Cond.instanceMethod yX9_laysBack, Cond.selects RX9 yX9_laysBack yX9_laysBack, Cond.code yX9_laysBack cX9_laysBack 1 none, Cond.methodLink RL 103 yX8_presses, Cond.instanceMethod yX8_presses, Cond.selects RX8 yX8_presses yX8_presses, Cond.code yX8_presses cX8_presses 3 (some .long), Cond.methodLink RL 106 yX9_presses, Cond.instanceMethod yX9_presses, Cond.selects RX9 yX9_presses yX9_presses, Cond.code yX9_presses cX9_presses 3 (some .long), Cond.methodLink RL 107 yX8_unit, Cond.instanceMethod yX8_unit, Cond.selects RX8 yX8_unit yX8_unit, Cond.code yX8_unit cX8_unit 4 (some .long), Cond.methodLink RX8 259 yX8_solveUnit, Cond.instanceMethod yX8_solveUnit, Cond.selects RX8 yX8_solveUnit yX8_solveUnit, Cond.code yX8_solveUnit cX8_solveUnit 2 none, Cond.methodLink RL 110 yX9_unit, Cond.instanceMethod yX9_unit]
def wsL_law_r38 : List Cond := [Cond.selects RX9 yX9_unit yX9_unit, Cond.code yX9_unit cX9_unit 4 (some .long), Cond.methodLink RX9 282 yX9_byUnit, Cond.instanceMethod yX9_byUnit, Cond.selects RX9 yX9_byUnit yX9_byUnit, Cond.code yX9_byUnit cX9_byUnit 5 (some .long), Cond.methodLink RL 111 yX8_bears, Cond.instanceMethod yX8_bears, Cond.selects RX8 yX8_bears yX8_bears, Cond.code yX8_bears cX8_bears 4 (some .long), Cond.methodLink RL 114 yX9_bears_, Cond.instanceMethod yX9_bears_, Cond.selects RX9 yX9_bears_ yX9_bears_, Cond.code yX9_bears_ cX9_bears_ 4 (some .long), Cond.methodLink RL 115 yX8_best, Cond.instanceMethod yX8_best, Cond.selects RX8 yX8_best yX8_best, Cond.code yX8_best cX8_best 6 (some .int), Cond.fieldLink RX8 265 "BeamPieces$Statics" "place" "[I", Cond.methodLink RL 118 yX9_best, Cond.instanceMethod yX9_best, Cond.selects RX9 yX9_best yX9_best, Cond.code yX9_best cX9_best 10 (some .int), Cond.methodLink RL 119 yX8_hinged]
def wsL_law_r39 : List Cond := [Cond.instanceMethod yX8_hinged, Cond.selects RX8 yX8_hinged yX8_hinged, Cond.code yX8_hinged cX8_hinged 3 (some .long), Cond.fieldLink RX8 279 "BeamPieces$Statics" "joint" "[I", Cond.methodLink RL 122 yX9_hinged, Cond.instanceMethod yX9_hinged, Cond.selects RX9 yX9_hinged yX9_hinged, Cond.code yX9_hinged cX9_hinged 3 (some .long), Cond.methodLink RL 123 yX8_feed, Cond.instanceMethod yX8_feed, Cond.selects RX8 yX8_feed yX8_feed, Cond.code yX8_feed cX8_feed 2 (some .int), Cond.methodLink RX8 280 yX5_take, Cond.instanceMethod yX5_take, Cond.selects RX5 yX5_take yX5_take, Cond.code yX5_take cX5_take 2 (some .int), Cond.fieldLink RX5 26 "BeamPieces$Reader" "size" "I", Cond.methodLink RL 126 yX9_feed, Cond.instanceMethod yX9_feed, Cond.selects RX9 yX9_feed yX9_feed, Cond.code yX9_feed cX9_feed 2 (some .int), Cond.constantLong RX9 286 (127), Cond.methodLink RL 127 yX8_reads, Cond.instanceMethod yX8_reads]
def wsL_law_r40 : List Cond := [Cond.selects RX8 yX8_reads yX8_reads, Cond.code yX8_reads cX8_reads 2 (some .int), Cond.fieldLink RX8 287 "BeamPieces$Reader" "trial" "LBeamPieces$Beam;", Cond.methodLink RX8 283 yX5_readOnto, Cond.instanceMethod yX5_readOnto, Cond.selects RX5 yX5_readOnto yX5_readOnto, Cond.code yX5_readOnto cX5_readOnto 6 (some .int), Cond.fieldLink RX5 38 "BeamPieces$Reader" "at" "I", Cond.methodLink RX5 30 yX5_placeOfNoText, Cond.instanceMethod yX5_placeOfNoText, Cond.selects RX5 yX5_placeOfNoText yX5_placeOfNoText, Cond.code yX5_placeOfNoText cX5_placeOfNoText 2 (some .int), Cond.methodLink RX5 41 yX5_readStatement, Cond.instanceMethod yX5_readStatement, Cond.selects RX5 yX5_readStatement yX5_readStatement, Cond.code yX5_readStatement cX5_readStatement 4 (some .boolean), Cond.fieldLink RX5 59 "BeamPieces$Reader" "word" "I", Cond.fieldLink RX5 62 "BeamPieces$Reader" "NUMBERS" "[I", Cond.methodLink RX5 51 yX5_isLetter, Cond.static yX5_isLetter, Cond.code yX5_isLetter cX5_isLetter 1 (some .boolean), Cond.methodLink RX5 55 yX5_wordWithin, Cond.instanceMethod yX5_wordWithin, Cond.selects RX5 yX5_wordWithin yX5_wordWithin]
def wsL_law_r41 : List Cond := [Cond.code yX5_wordWithin cX5_wordWithin 4 (some .int), Cond.methodLink RX5 75 yX5_spelled, Cond.static yX5_spelled, Cond.code yX5_spelled cX5_spelled 1 (some (.object "java/lang/String")), Cond.methodLink RX5 79 yX5_spells, Cond.instanceMethod yX5_spells, Cond.selects RX5 yX5_spells yX5_spells, Cond.code yX5_spells cX5_spells 5 (some .boolean), Cond.methodLink RX5 83 yJ0_length_8abf5, Cond.instanceMethod yJ0_length_8abf5, Cond.selects RJ0 yJ0_length_8abf5 yJ0_length_8abf5, Cond.initialized RJ0, Cond.code yJ0_length_8abf5 cJ0_length_8abf5 1 (some .int), Cond.fieldLink RJ0 9 "java/lang/String" "value" "[B", Cond.methodLink RJ0 335 yJ0_coder_7d493, Cond.instanceMethod yJ0_coder_7d493, Cond.selects RJ0 yJ0_coder_7d493 yJ0_coder_7d493, Cond.code yJ0_coder_7d493 cJ0_coder_7d493 1 (some .byte), Cond.fieldLink RJ0 38 "java/lang/String" "COMPACT_STRINGS" "Z", Cond.fieldLink RJ0 15 "java/lang/String" "coder" "B", Cond.methodLink RX5 88 yJ0_charAt_5068e, Cond.instanceMethod yJ0_charAt_5068e, Cond.selects RJ0 yJ0_charAt_5068e yJ0_charAt_5068e, Cond.code yJ0_charAt_5068e cJ0_charAt_5068e 2 (some .char)]
def wsL_law_r42 : List Cond := [Cond.methodLink RJ0 492 yJ0_isLatin1_aae02, Cond.instanceMethod yJ0_isLatin1_aae02, Cond.selects RJ0 yJ0_isLatin1_aae02 yJ0_isLatin1_aae02, Cond.code yJ0_isLatin1_aae02 cJ0_isLatin1_aae02 1 (some .boolean), Cond.methodLink RJ0 495 yJ1_charAt_3b067, Cond.static yJ1_charAt_3b067, Cond.initialized RJ1, Cond.code yJ1_charAt_3b067 cJ1_charAt_3b067 2 (some .char), Cond.methodLink RJ1 9 yJ0_checkIndex_df160, Cond.static yJ0_checkIndex_df160, Cond.code yJ0_checkIndex_df160 cJ0_checkIndex_df160 2 none, Cond.fieldLink RJ0 1053 "jdk/internal/util/Preconditions" "SIOOBE_FORMATTER" "Ljava/util/function/BiFunction;", Cond.methodLink RJ0 1059 yJ3_checkIndex_8e157, Cond.static yJ3_checkIndex_8e157, Cond.initialized RJ3, Cond.code yJ3_checkIndex_8e157 cJ3_checkIndex_8e157 3 (some .int), Cond.methodLink RJ0 498 yJ2_charAt_3b067, Cond.static yJ2_charAt_3b067, Cond.initialized RJ2, Cond.code yJ2_charAt_3b067 cJ2_charAt_3b067 2 (some .char), Cond.methodLink RJ2 67 yJ2_checkIndex_2214a, Cond.static yJ2_checkIndex_2214a, Cond.code yJ2_checkIndex_2214a cJ2_checkIndex_2214a 2 none, Cond.methodLink RJ2 48 yJ2_length_9d52b]
def wsL_law_r43 : List Cond := [Cond.static yJ2_length_9d52b, Cond.code yJ2_length_9d52b cJ2_length_9d52b 1 (some .int), Cond.methodLink RJ2 414 yJ0_checkIndex_df160, Cond.methodLink RJ2 71 yJ2_getChar_3b067, Cond.static yJ2_getChar_3b067, Cond.code yJ2_getChar_3b067 cJ2_getChar_3b067 2 (some .char), Cond.fieldLink RJ2 44 "java/lang/StringUTF16" "$assertionsDisabled" "Z", Cond.fieldLink RJ2 59 "java/lang/StringUTF16" "HI_BYTE_SHIFT" "I", Cond.fieldLink RJ2 63 "java/lang/StringUTF16" "LO_BYTE_SHIFT" "I", Cond.methodLink RX5 65 yX5_readNumber, Cond.instanceMethod yX5_readNumber, Cond.selects RX5 yX5_readNumber yX5_readNumber, Cond.code yX5_readNumber cX5_readNumber 5 (some .boolean), Cond.methodLink RX5 69 yX5_isNext, Cond.instanceMethod yX5_isNext, Cond.selects RX5 yX5_isNext yX5_isNext, Cond.code yX5_isNext cX5_isNext 2 (some .boolean), Cond.methodLink RX5 72 yX5_isFigureNext, Cond.instanceMethod yX5_isFigureNext, Cond.selects RX5 yX5_isFigureNext yX5_isFigureNext, Cond.code yX5_isFigureNext cX5_isFigureNext 1 (some .boolean), Cond.methodLink RX5 34 yX0_become, Cond.methodLink RX5 45 yX5_whyNotStatement, Cond.instanceMethod yX5_whyNotStatement]
def wsL_law_r44 : List Cond := [Cond.selects RX5 yX5_whyNotStatement yX5_whyNotStatement, Cond.code yX5_whyNotStatement cX5_whyNotStatement 1 (some .int), Cond.methodLink RX5 104 yX0_whyNotLength, Cond.methodLink RX5 108 yX0_whyNotSupport, Cond.methodLink RX5 111 yX0_whyNotAtSupport, Cond.methodLink RX5 114 yX0_whyNotPoint, Cond.methodLink RX5 117 yX0_whyNotSpread, Cond.methodLink RX5 121 yX0_whyNotAxle, Cond.methodLink RX5 48 yX5_takeStatement, Cond.instanceMethod yX5_takeStatement, Cond.selects RX5 yX5_takeStatement yX5_takeStatement, Cond.code yX5_takeStatement cX5_takeStatement 1 none, Cond.methodLink RX5 124 yX0_clear, Cond.methodLink RX5 128 yX0_putSupport, Cond.methodLink RX5 131 yX0_numberAt, Cond.methodLink RX5 134 yX0_putHinge, Cond.methodLink RX5 137 yX0_putLoad, Cond.methodLink RX5 141 yX0_putAxle, Cond.methodLink RX8 290 yX0_become, Cond.methodLink RL 130 yX9_reads, Cond.instanceMethod yX9_reads, Cond.selects RX9 yX9_reads yX9_reads, Cond.code yX9_reads cX9_reads 4 (some .int), Cond.fieldLink RX9 327 "BeamPiecesModel" "refusedAt" "I"]
def wsL_law_r45 : List Cond := [Cond.methodLink RX9 336 yX9_takesAll, Cond.instanceMethod yX9_takesAll, Cond.selects RX9 yX9_takesAll yX9_takesAll, Cond.code yX9_takesAll cX9_takesAll 2 (some .int), Cond.fieldLink RX9 288 "BeamPiecesModel" "at" "I", Cond.methodLink RX9 333 yX9_takesOne, Cond.instanceMethod yX9_takesOne, Cond.selects RX9 yX9_takesOne yX9_takesOne, Cond.code yX9_takesOne cX9_takesOne 4 (some .boolean), Cond.methodLink RX9 320 yX9_word, Cond.instanceMethod yX9_word, Cond.selects RX9 yX9_word yX9_word, Cond.code yX9_word cX9_word 5 (some .int), Cond.constantLong RX9 291 (97), Cond.constantLong RX9 293 (122), Cond.methodLink RX9 323 yX9_takes, Cond.instanceMethod yX9_takes, Cond.selects RX9 yX9_takes yX9_takes, Cond.code yX9_takes cX9_takes 6 (some .boolean), Cond.constantLong RX9 298 (48), Cond.constantLong RX9 300 (57), Cond.methodLink RX9 295 yX9_here, Cond.instanceMethod yX9_here, Cond.selects RX9 yX9_here yX9_here]
def wsL_law_r46 : List Cond := [Cond.code yX9_here cX9_here 1 (some .int), Cond.methodLink RX9 330 yX9_does, Cond.instanceMethod yX9_does, Cond.selects RX9 yX9_does yX9_does, Cond.code yX9_does cX9_does 4 (some .int), Cond.methodLink RX9 302 yX9_beam, Cond.methodLink RX9 305 yX9_support, Cond.methodLink RX9 308 yX9_hinge, Cond.methodLink RX9 311 yX9_point, Cond.methodLink RX9 314 yX9_spread, Cond.methodLink RX9 317 yX9_axle, Cond.methodLink RL 131 yX8_prints, Cond.instanceMethod yX8_prints, Cond.selects RX8 yX8_prints yX8_prints, Cond.code yX8_prints cX8_prints 2 (some .int), Cond.methodLink RX8 293 yX8_printPiece, Cond.instanceMethod yX8_printPiece, Cond.selects RX8 yX8_printPiece yX8_printPiece, Cond.code yX8_printPiece cX8_printPiece 2 none, Cond.fieldLink RX8 369 "BeamPieces$Statics" "dense" "[J", Cond.constantLong RX8 372 (2), Cond.methodLink RX8 356 yX3_putNumber, Cond.instanceMethod yX3_putNumber, Cond.selects RX3 yX3_putNumber yX3_putNumber]
def wsL_law_r47 : List Cond := [Cond.code yX3_putNumber cX3_putNumber 7 none, Cond.methodLink RX3 26 Lib.MathLoose.abs_long.x, Cond.constantLong RX3 32 (48), Cond.constantLong RX3 34 (10), Cond.methodLink RX3 22 yX3_put, Cond.instanceMethod yX3_put, Cond.selects RX3 yX3_put yX3_put, Cond.code yX3_put cX3_put 2 none, Cond.fieldLink RX3 18 "BeamPieces$Paper" "size" "I", Cond.methodLink RX8 360 yX3_put, Cond.methodLink RX8 362 yX3_putFraction, Cond.instanceMethod yX3_putFraction, Cond.selects RX3 yX3_putFraction yX3_putFraction, Cond.code yX3_putFraction cX3_putFraction 2 none, Cond.fieldLink RX3 36 "BeamPieces$Fraction" "above" "J", Cond.fieldLink RX3 46 "BeamPieces$Fraction" "below" "J", Cond.methodLink RX3 42 yX3_putNumber, Cond.methodLink RX8 365 yX3_putTerm, Cond.instanceMethod yX3_putTerm, Cond.selects RX3 yX3_putTerm yX3_putTerm, Cond.code yX3_putTerm cX3_putTerm 4 none, Cond.methodLink RX3 49 yX3_putFraction, Cond.methodLink RL 134 yX9_prints, Cond.instanceMethod yX9_prints]
def wsL_law_r48 : List Cond := [Cond.selects RX9 yX9_prints yX9_prints, Cond.code yX9_prints cX9_prints 5 (some .int), Cond.methodLink RX9 342 yX9_number, Cond.instanceMethod yX9_number, Cond.selects RX9 yX9_number yX9_number, Cond.code yX9_number cX9_number 5 none, Cond.methodLink RX9 339 yX9_sign, Cond.instanceMethod yX9_sign, Cond.selects RX9 yX9_sign yX9_sign, Cond.code yX9_sign cX9_sign 2 none, Cond.methodLink RX9 346 yX9_fraction, Cond.instanceMethod yX9_fraction, Cond.selects RX9 yX9_fraction yX9_fraction, Cond.code yX9_fraction cX9_fraction 6 none, Cond.methodLink RL 135 yX8_paper, Cond.instanceMethod yX8_paper, Cond.selects RX8 yX8_paper yX8_paper, Cond.code yX8_paper cX8_paper 2 (some .int), Cond.fieldLink RX8 296 "BeamPieces$Paper" "bytes" "[B", Cond.methodLink RL 138 yX9_paper, Cond.instanceMethod yX9_paper, Cond.selects RX9 yX9_paper yX9_paper, Cond.code yX9_paper cX9_paper 2 (some .int), Cond.methodLink RL 139 yX8_list]
def wsL_law_r49 : List Cond := [Cond.instanceMethod yX8_list, Cond.selects RX8 yX8_list yX8_list, Cond.code yX8_list cX8_list 3 (some .int), Cond.methodLink RX8 300 yX8_isList, Cond.static yX8_isList, Cond.code yX8_isList cX8_isList 1 (some .boolean), Cond.methodLink RX8 303 yX6_begin, Cond.instanceMethod yX6_begin, Cond.selects RX6 yX6_begin yX6_begin, Cond.code yX6_begin cX6_begin 4 none, Cond.methodLink RL 142 yX9_list, Cond.instanceMethod yX9_list, Cond.selects RX9 yX9_list yX9_list, Cond.code yX9_list cX9_list 4 (some .int), Cond.methodLink RX9 350 yX9_isList, Cond.static yX9_isList, Cond.code yX9_isList cX9_isList 1 (some .boolean), Cond.methodLink RL 145 yX8_set, Cond.instanceMethod yX8_set, Cond.selects RX8 yX8_set yX8_set, Cond.code yX8_set cX8_set 5 (some .int), Cond.methodLink RX8 307 yX6_isThere, Cond.instanceMethod yX6_isThere, Cond.selects RX6 yX6_isThere yX6_isThere]
def wsL_law_r50 : List Cond := [Cond.code yX6_isThere cX6_isThere 2 (some .boolean), Cond.methodLink RX8 310 yX6_has, Cond.instanceMethod yX6_has, Cond.selects RX6 yX6_has yX6_has, Cond.code yX6_has cX6_has 3 (some .boolean), Cond.methodLink RX8 314 yX6_put, Cond.instanceMethod yX6_put, Cond.selects RX6 yX6_put yX6_put, Cond.code yX6_put cX6_put 5 none, Cond.methodLink RX6 29 yX6_has, Cond.methodLink RL 149 yX9_set, Cond.instanceMethod yX9_set, Cond.selects RX9 yX9_set yX9_set, Cond.code yX9_set cX9_set 5 (some .int), Cond.methodLink RL 150 yX8_get, Cond.instanceMethod yX8_get, Cond.selects RX8 yX8_get yX8_get, Cond.code yX8_get cX8_get 3 (some .long), Cond.methodLink RX8 318 yX6_at, Cond.instanceMethod yX6_at, Cond.selects RX6 yX6_at yX6_at, Cond.code yX6_at cX6_at 3 (some .long), Cond.constantLong RX6 33 (-9223372036854775808), Cond.methodLink RL 153 yX9_get]
def wsL_law_r51 : List Cond := [Cond.instanceMethod yX9_get, Cond.selects RX9 yX9_get yX9_get, Cond.code yX9_get cX9_get 3 (some .long), Cond.methodLink RL 154 yX8_into, Cond.instanceMethod yX8_into, Cond.selects RX8 yX8_into yX8_into, Cond.code yX8_into cX8_into 5 (some .int), Cond.methodLink RX8 322 yX8_numbersInAll, Cond.instanceMethod yX8_numbersInAll, Cond.selects RX8 yX8_numbersInAll yX8_numbersInAll, Cond.code yX8_numbersInAll cX8_numbersInAll 1 (some .int), Cond.methodLink RX8 325 yX8_numberOfMoments, Cond.instanceMethod yX8_numberOfMoments, Cond.selects RX8 yX8_numberOfMoments yX8_numberOfMoments, Cond.code yX8_numberOfMoments cX8_numberOfMoments 2 (some .long), Cond.methodLink RL 157 yX9_into, Cond.instanceMethod yX9_into, Cond.selects RX9 yX9_into yX9_into, Cond.code yX9_into cX9_into 6 (some .int), Cond.methodLink RL 158 yX8_judge, Cond.instanceMethod yX8_judge, Cond.selects RX8 yX8_judge yX8_judge, Cond.code yX8_judge cX8_judge 5 (some .int), Cond.methodLink RL 161 yX9_judge]
def wsL_law_r52 : List Cond := [Cond.instanceMethod yX9_judge, Cond.selects RX9 yX9_judge yX9_judge, Cond.code yX9_judge cX9_judge 4 (some .int), Cond.methodLink RL 162 yX8_undo, Cond.instanceMethod yX8_undo, Cond.selects RX8 yX8_undo yX8_undo, Cond.code yX8_undo cX8_undo 1 (some .int), Cond.methodLink RX8 328 yX1_layBack, Cond.instanceMethod yX1_layBack, Cond.selects RX1 yX1_layBack yX1_layBack, Cond.code yX1_layBack cX1_layBack 3 none, Cond.methodLink RX1 35 Lib.Math.max.name, Cond.static Lib.Math.max.name, Cond.code Lib.Math.max.name Lib.Math.max.code 2 (some .int), Cond.methodLink RL 165 yX9_undo, Cond.instanceMethod yX9_undo, Cond.selects RX9 yX9_undo yX9_undo, Cond.code yX9_undo cX9_undo 2 (some .int), Cond.methodLink RL 166 yX8_image, Cond.instanceMethod yX8_image, Cond.selects RX8 yX8_image yX8_image, Cond.code yX8_image cX8_image 1 (some .int), Cond.fieldLink RX8 331 "BeamPieces" "hasImage" "Z", Cond.methodLink RL 169 yX9_image]
def wsL_law_r53 : List Cond := [Cond.instanceMethod yX9_image, Cond.selects RX9 yX9_image yX9_image, Cond.code yX9_image cX9_image 1 (some .int), Cond.fieldLink RX9 353 "BeamPiecesModel" "hasImage" "Z", Cond.methodLink RL 170 yX8_back, Cond.instanceMethod yX8_back, Cond.selects RX8 yX8_back yX8_back, Cond.code yX8_back cX8_back 1 (some .int), Cond.methodLink RL 173 yX9_back, Cond.instanceMethod yX9_back, Cond.selects RX9 yX9_back yX9_back, Cond.code yX9_back cX9_back 1 (some .int)]
def wsL_law : List Cond := (wsL_law_r1 ++ (wsL_law_r2 ++ (wsL_law_r3 ++ (wsL_law_r4 ++ (wsL_law_r5 ++ (wsL_law_r6 ++ (wsL_law_r7 ++ (wsL_law_r8 ++ (wsL_law_r9 ++ (wsL_law_r10 ++ (wsL_law_r11 ++ (wsL_law_r12 ++ (wsL_law_r13 ++ (wsL_law_r14 ++ (wsL_law_r15 ++ (wsL_law_r16 ++ (wsL_law_r17 ++ (wsL_law_r18 ++ (wsL_law_r19 ++ (wsL_law_r20 ++ (wsL_law_r21 ++ (wsL_law_r22 ++ (wsL_law_r23 ++ (wsL_law_r24 ++ (wsL_law_r25 ++ (wsL_law_r26 ++ (wsL_law_r27 ++ (wsL_law_r28 ++ (wsL_law_r29 ++ (wsL_law_r30 ++ (wsL_law_r31 ++ (wsL_law_r32 ++ (wsL_law_r33 ++ (wsL_law_r34 ++ (wsL_law_r35 ++ (wsL_law_r36 ++ (wsL_law_r37 ++ (wsL_law_r38 ++ (wsL_law_r39 ++ (wsL_law_r40 ++ (wsL_law_r41 ++ (wsL_law_r42 ++ (wsL_law_r43 ++ (wsL_law_r44 ++ (wsL_law_r45 ++ (wsL_law_r46 ++ (wsL_law_r47 ++ (wsL_law_r48 ++ (wsL_law_r49 ++ (wsL_law_r50 ++ (wsL_law_r51 ++ (wsL_law_r52 ++ wsL_law_r53)))))))))))))))))))))))))))))))))))))))))))))))))))) ++ wsX80 ++ wsX90 ++ wsX00 ++ wsX10 ++ wsX70 ++ wsX20 ++ wsX50 ++ wsX30 ++ wsX60 ++ wsX40 ++ ([] : List Cond)
set_option maxRecDepth 20000 in
theorem wsL_law_in : ∀ w ∈ wsL_law, w ∈ lw_tbl := fun w h => (goodIn_p wsL_law [108, 111, 116, 181, 201, 207, 213, 319, 349, 367, 371, 1068, 413, 417, 421, 425, 1180, 1185, 429, 433, 437, 441, 445, 455, 449, 459, 1189, 1193, 1197, 1201, 463, 467, 472, 476, 1205, 480, 484, 1209, 488, 492, 495, 499, 1213, 1219, 503, 507, 1223, 511, 515, 1227, 1231, 520, 524, 1235, 529, 533, 537, 1239, 541, 1243, 545, 1247, 549, 1252, 1256, 554, 558, 1260, 1264, 562, 566, 569, 574, 578, 582, 586, 590, 594, 598, 602, 607, 611, 615, 619, 623, 627, 630, 633, 637, 641, 645, 649, 653, 657, 661, 665, 676, 668, 671, 680, 1268, 1272, 1277, 1281, 1285, 1288, 1292, 1296, 1299, 1303, 1307, 1311, 1315, 1318, 1321, 1326, 1330, 1334, 1338, 1342, 1346, 684, 1350, 1354, 689, 693, 696, 1358, 1363, 701, 705, 710, 714, 719, 723, 727, 1367, 1371, 1375, 1382, 731, 735, 739, 743, 747, 750, 753, 757, 761, 1393, 1397, 1401, 1389, 765, 769, 1386, 773, 777, 784, 1405, 1410, 789, 793, 797, 801, 1414, 1418, 1422, 1425, 1429, 1433, 1437, 807, 1441, 811, 815, 1445, 1449, 819, 1453, 823, 1457, 827, 1461, 831, 835, 1465, 839, 843, 847, 851, 854, 858, 861, 871, 875, 879, 885, 889, 892, 895, 900, 903, 906, 909, 913, 925, 929, 933, 938, 948, 1470, 1474, 1478, 1482, 1488, 1492, 1498, 959, 963, 967, 971, 979, 984, 1508, 1512, 1516, 1520, 990, 1524, 994, 997, 1001, 1528, 1531, 1006, 1010, 1014, 1018, 1535, 1023, 1027, 1539, 1032, 1036, 1040, 1543, 1044, 1547, 1048, 1052, 1055, 1551, 1059, 1555, 1063, 1559] (by decide +kernel) (by decide +kernel) w h).1
theorem inlX0 : ∀ w ∈ wsX00, w ∈ wsL_law := fun _ h => List.mem_append_left _ (List.mem_append_left _ (List.mem_append_left _ (List.mem_append_left _ (List.mem_append_left _ (List.mem_append_left _ (List.mem_append_left _ (List.mem_append_left _ (List.mem_append_right _ h))))))))
theorem inX0 : ∀ w ∈ wsX00, w ∈ lw_tbl := fun w h => wsL_law_in w (inlX0 w h)
theorem inlX1 : ∀ w ∈ wsX10, w ∈ wsL_law := fun _ h => List.mem_append_left _ (List.mem_append_left _ (List.mem_append_left _ (List.mem_append_left _ (List.mem_append_left _ (List.mem_append_left _ (List.mem_append_left _ (List.mem_append_right _ h)))))))
theorem inX1 : ∀ w ∈ wsX10, w ∈ lw_tbl := fun w h => wsL_law_in w (inlX1 w h)
theorem inlX2 : ∀ w ∈ wsX20, w ∈ wsL_law := fun _ h => List.mem_append_left _ (List.mem_append_left _ (List.mem_append_left _ (List.mem_append_left _ (List.mem_append_left _ (List.mem_append_right _ h)))))
theorem inX2 : ∀ w ∈ wsX20, w ∈ lw_tbl := fun w h => wsL_law_in w (inlX2 w h)
theorem inlX3 : ∀ w ∈ wsX30, w ∈ wsL_law := fun _ h => List.mem_append_left _ (List.mem_append_left _ (List.mem_append_left _ (List.mem_append_right _ h)))
theorem inX3 : ∀ w ∈ wsX30, w ∈ lw_tbl := fun w h => wsL_law_in w (inlX3 w h)
theorem inlX4 : ∀ w ∈ wsX40, w ∈ wsL_law := fun _ h => List.mem_append_left _ (List.mem_append_right _ h)
theorem inX4 : ∀ w ∈ wsX40, w ∈ lw_tbl := fun w h => wsL_law_in w (inlX4 w h)
theorem inlX5 : ∀ w ∈ wsX50, w ∈ wsL_law := fun _ h => List.mem_append_left _ (List.mem_append_left _ (List.mem_append_left _ (List.mem_append_left _ (List.mem_append_right _ h))))
theorem inX5 : ∀ w ∈ wsX50, w ∈ lw_tbl := fun w h => wsL_law_in w (inlX5 w h)
theorem inlX6 : ∀ w ∈ wsX60, w ∈ wsL_law := fun _ h => List.mem_append_left _ (List.mem_append_left _ (List.mem_append_right _ h))
theorem inX6 : ∀ w ∈ wsX60, w ∈ lw_tbl := fun w h => wsL_law_in w (inlX6 w h)
theorem inlX7 : ∀ w ∈ wsX70, w ∈ wsL_law := fun _ h => List.mem_append_left _ (List.mem_append_left _ (List.mem_append_left _ (List.mem_append_left _ (List.mem_append_left _ (List.mem_append_left _ (List.mem_append_right _ h))))))
theorem inX7 : ∀ w ∈ wsX70, w ∈ lw_tbl := fun w h => wsL_law_in w (inlX7 w h)
theorem inlX8 : ∀ w ∈ wsX80, w ∈ wsL_law := fun _ h => List.mem_append_left _ (List.mem_append_left _ (List.mem_append_left _ (List.mem_append_left _ (List.mem_append_left _ (List.mem_append_left _ (List.mem_append_left _ (List.mem_append_left _ (List.mem_append_left _ (List.mem_append_left _ (List.mem_append_right _ h))))))))))
theorem inX8 : ∀ w ∈ wsX80, w ∈ lw_tbl := fun w h => wsL_law_in w (inlX8 w h)
theorem inlX9 : ∀ w ∈ wsX90, w ∈ wsL_law := fun _ h => List.mem_append_left _ (List.mem_append_left _ (List.mem_append_left _ (List.mem_append_left _ (List.mem_append_left _ (List.mem_append_left _ (List.mem_append_left _ (List.mem_append_left _ (List.mem_append_left _ (List.mem_append_right _ h)))))))))
theorem inX9 : ∀ w ∈ wsX90, w ∈ lw_tbl := fun w h => wsL_law_in w (inlX9 w h)
theorem inJx145de : ∀ w ∈ wsJx145de0, w ∈ lw_tbl := by decide +kernel
theorem inJx9f9b0 : ∀ w ∈ wsJx9f9b00, w ∈ lw_tbl := by decide +kernel
theorem inJxb160c : ∀ w ∈ wsJxb160c0, w ∈ lw_tbl := by decide +kernel
theorem inJ13 : ∀ w ∈ wsJ130, w ∈ lw_tbl := by decide +kernel
theorem inJ9 : ∀ w ∈ wsJ90, w ∈ lw_tbl := by decide +kernel
theorem inJ0 : ∀ w ∈ wsJ00, w ∈ lw_tbl := by decide +kernel
theorem inJ1 : ∀ w ∈ wsJ10, w ∈ lw_tbl := by decide +kernel
theorem inJ2 : ∀ w ∈ wsJ20, w ∈ lw_tbl := by decide +kernel
theorem inJ10 : ∀ w ∈ wsJ100, w ∈ lw_tbl := by decide +kernel
theorem inJxfd54e : ∀ w ∈ wsJxfd54e0, w ∈ lw_tbl := by decide +kernel
theorem inJx3cf43 : ∀ w ∈ wsJx3cf430, w ∈ lw_tbl := by decide +kernel
theorem inJ7 : ∀ w ∈ wsJ70, w ∈ lw_tbl := by decide +kernel
theorem inJ3 : ∀ w ∈ wsJ30, w ∈ lw_tbl := by decide +kernel
abbrev vwCl : List vw_C := [(RX0, TX0, 12), (RX1, TX1, 3), (RX2, TX2, 2), (RX3, TX3, 3), (RX4, TX4, 4), (RX5, TX5, 6), (RX6, TX6, 2), (RX7, TX7, 18), (RX8, TX8, 10), (RX9, TX9, 35)]
end
section
/-! J: bytecode of the claim over one memory of whole numbers. Values are whole numbers (Int), told to the machine by Int32.ofInt, Int64.ofInt. -/
def s32 (a : Int) : Int := Int.bmod a 4294967296
def s64 (a : Int) : Int := Int.bmod a 18446744073709551616
def s8 (a : Int) : Int := Int.bmod a 256
def vI (a : Int) : Value := .int (Int32.ofInt a)
def vL (a : Int) : Value := .long (Int64.ofInt a)
def vR (base c : Nat) : Value := .ref (base + c)
abbrev Mem : Type := Nat → Int → Int
def upd (m : Mem) (c : Nat) (i v : Int) : Mem := fun c' i' => if c' = c ∧ i' = i then v else m c' i'
theorem s32_toInt (a : Int) : (Int32.ofInt a).toInt = s32 a := by simp [s32, Int32.size]
theorem s64_toInt (a : Int) : (Int64.ofInt a).toInt = s64 a := by simp [s64, Int64.size]
theorem i32_of (x : Int32) : Int32.ofInt x.toInt = x := Int32.ofInt_toInt x
theorem i64_of (x : Int64) : Int64.ofInt x.toInt = x := Int64.ofInt_toInt x
theorem i32_lt (a b : Int) : Int32.ofInt a < Int32.ofInt b ↔ s32 a < s32 b := by rw [Int32.lt_iff_toInt_lt, s32_toInt, s32_toInt]
theorem i32_le (a b : Int) : Int32.ofInt a ≤ Int32.ofInt b ↔ s32 a ≤ s32 b := by rw [Int32.le_iff_toInt_le, s32_toInt, s32_toInt]
theorem i32_eq (a b : Int) : Int32.ofInt a = Int32.ofInt b ↔ s32 a = s32 b := by rw [← Int32.toInt_inj, s32_toInt, s32_toInt]
theorem i64_lt (a b : Int) : Int64.ofInt a < Int64.ofInt b ↔ s64 a < s64 b := by rw [Int64.lt_iff_toInt_lt, s64_toInt, s64_toInt]
theorem i64_le (a b : Int) : Int64.ofInt a ≤ Int64.ofInt b ↔ s64 a ≤ s64 b := by rw [Int64.le_iff_toInt_le, s64_toInt, s64_toInt]
theorem i64_eq (a b : Int) : Int64.ofInt a = Int64.ofInt b ↔ s64 a = s64 b := by rw [← Int64.toInt_inj, s64_toInt, s64_toInt]
theorem i32_0 : (0 : Int32) = Int32.ofInt 0 := by decide +kernel
theorem s32_0 : s32 0 = 0 := by decide +kernel
theorem i32_lt0 (a : Int) : Int32.ofInt a < 0 ↔ s32 a < 0 := by rw [i32_0, i32_lt, s32_0]
theorem i32_0le (a : Int) : 0 ≤ Int32.ofInt a ↔ 0 ≤ s32 a := by rw [i32_0, i32_le, s32_0]
theorem i32_le0 (a : Int) : Int32.ofInt a ≤ 0 ↔ s32 a ≤ 0 := by rw [i32_0, i32_le, s32_0]
theorem i32_0lt (a : Int) : 0 < Int32.ofInt a ↔ 0 < s32 a := by rw [i32_0, i32_lt, s32_0]
theorem i32_eq0 (a : Int) : Int32.ofInt a = 0 ↔ s32 a = 0 := by rw [i32_0, i32_eq, s32_0]
theorem s64_0 : s64 0 = 0 := by decide +kernel
theorem i64_eq0 (a : Int) : Int64.ofInt a = 0 ↔ s64 a = 0 := by rw [show (0 : Int64) = Int64.ofInt 0 by decide +kernel, i64_eq, s64_0]
theorem i32_clamp (a : Int) : (Int32.ofInt a).toNatClampNeg = (s32 a).toNat := by rw [← s32_toInt]; rfl
theorem i32_i2l (a : Int) : (Int32.ofInt a).toInt64 = Int64.ofInt (s32 a) := by
  rw [← s32_toInt, ← Int64.toInt_inj, Int32.toInt_toInt64, Int64.toInt_ofInt]
  have h1 := Int32.le_toInt (Int32.ofInt a)
  have h2 := Int32.toInt_lt (Int32.ofInt a)
  rw [Int.bmod_eq_of_le] <;> simp only [Int64.size] <;> omega
theorem i32_div (a b : Int) : Int32.ofInt a / Int32.ofInt b = Int32.ofInt ((s32 a).tdiv (s32 b)) := by
  rw [← Int32.toInt_inj, Int32.toInt_div, Int32.toInt_ofInt, s32_toInt, s32_toInt]
theorem i32_rem (a b : Int) : Int32.ofInt a % Int32.ofInt b = Int32.ofInt ((s32 a).tmod (s32 b)) := by
  rw [← Int32.toInt_inj, Int32.toInt_mod, s32_toInt, s32_toInt, Int32.toInt_ofInt]
  have h1 := Int32.le_toInt (Int32.ofInt a % Int32.ofInt b)
  have h2 := Int32.toInt_lt (Int32.ofInt a % Int32.ofInt b)
  rw [Int32.toInt_mod, s32_toInt, s32_toInt] at h1 h2
  rw [Int.bmod_eq_of_le] <;> simp only [Int32.size] <;> omega
theorem i64_div (a b : Int) : Int64.ofInt a / Int64.ofInt b = Int64.ofInt ((s64 a).tdiv (s64 b)) := by
  rw [← Int64.toInt_inj, Int64.toInt_div, Int64.toInt_ofInt, s64_toInt, s64_toInt]
theorem i64_rem (a b : Int) : Int64.ofInt a % Int64.ofInt b = Int64.ofInt ((s64 a).tmod (s64 b)) := by
  rw [← Int64.toInt_inj, Int64.toInt_mod, s64_toInt, s64_toInt, Int64.toInt_ofInt]
  have h1 := Int64.le_toInt (Int64.ofInt a % Int64.ofInt b)
  have h2 := Int64.toInt_lt (Int64.ofInt a % Int64.ofInt b)
  rw [Int64.toInt_mod, s64_toInt, s64_toInt] at h1 h2
  rw [Int.bmod_eq_of_le] <;> simp only [Int64.size] <;> omega
theorem i32_i2b (a : Int) : (Int32.ofInt a).toInt8.toInt32 = Int32.ofInt (s8 a) := by
  rw [Int32.toInt8_ofInt, ← Int32.toInt_inj, Int8.toInt_toInt32, Int8.toInt_ofInt, Int32.toInt_ofInt]
  have h1 := Int.bmod_lt (x := a) (m := 256) (by decide)
  have h2 := Int.le_bmod (x := a) (m := 256) (by decide)
  show Int.bmod a 256 = Int.bmod (s8 a) _
  unfold s8
  rw [Int.bmod_eq_of_le (n := Int.bmod a 256)] <;> simp only [Int32.size] <;> omega
/-! combinators of the told programs -/
def ck {α : Type} (i : Int) (n : Nat) (k : Option α) : Option α := if 0 ≤ s32 i ∧ s32 i < (n : Int) then k else none
def dv {α : Type} (b : Int) (k : Option α) : Option α := if b = 0 then none else k
def lt {α β : Type} (e : α) (k : α → Option β) : Option β := k e
def jn {γ α : Type} (b : γ) (f : γ → Option α) : Option α := f b
end
