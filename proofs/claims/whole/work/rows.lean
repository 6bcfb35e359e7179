section
-- ===== PART A: goes FIRST, ahead of the names: the tables' words, and 'selects' of the private methods out of them =====
/-- a private method of a class that the tables say can be made, by its rows of tables_1 -/
def lw_okq (q : MethodName × Nat) : Prop := (q.1.cls ≠ "java/lang/invoke/MethodHandle" ∧ q.1.cls ≠ "java/lang/invoke/VarHandle") ∧ Cond.instantiable q.1.cls q.2 ∈ tables_1 ∧ Cond.privateMethod q.1 ∈ tables_1 ∧ Cond.instanceMethod q.1 ∈ tables_1
theorem lw_p0 : lw_okq (⟨"BeamPieces", "solveAsItIs", "()V"⟩, 10) := ⟨⟨by decide +kernel, by decide +kernel⟩, List.mem_of_getElem? (i := 20) (by decide +kernel), List.mem_of_getElem? (i := 487) (by decide +kernel), List.mem_of_getElem? (i := 488) (by decide +kernel)⟩
theorem lw_p1 : lw_okq (⟨"BeamPieces$Statics", "solveOverSupports", "()V"⟩, 18) := ⟨⟨by decide +kernel, by decide +kernel⟩, List.mem_of_getElem? (i := 113) (by decide +kernel), List.mem_of_getElem? (i := 511) (by decide +kernel), List.mem_of_getElem? (i := 512) (by decide +kernel)⟩
theorem lw_p2 : lw_okq (⟨"BeamPieces$Statics", "span", "(I)J"⟩, 18) := ⟨⟨by decide +kernel, by decide +kernel⟩, List.mem_of_getElem? (i := 113) (by decide +kernel), List.mem_of_getElem? (i := 515) (by decide +kernel), List.mem_of_getElem? (i := 516) (by decide +kernel)⟩
theorem lw_p3 : lw_okq (⟨"BeamPieces$Statics", "twiceOverFirst", "()J"⟩, 18) := ⟨⟨by decide +kernel, by decide +kernel⟩, List.mem_of_getElem? (i := 113) (by decide +kernel), List.mem_of_getElem? (i := 520) (by decide +kernel), List.mem_of_getElem? (i := 521) (by decide +kernel)⟩
theorem lw_p4 : lw_okq (⟨"BeamPieces$Statics", "twiceOverLast", "()J"⟩, 18) := ⟨⟨by decide +kernel, by decide +kernel⟩, List.mem_of_getElem? (i := 113) (by decide +kernel), List.mem_of_getElem? (i := 524) (by decide +kernel), List.mem_of_getElem? (i := 525) (by decide +kernel)⟩
theorem lw_p5 : lw_okq (⟨"BeamPieces$Statics", "hasRow", "(I)Z"⟩, 18) := ⟨⟨by decide +kernel, by decide +kernel⟩, List.mem_of_getElem? (i := 113) (by decide +kernel), List.mem_of_getElem? (i := 528) (by decide +kernel), List.mem_of_getElem? (i := 529) (by decide +kernel)⟩
theorem lw_p6 : lw_okq (⟨"BeamPieces$Statics", "isInner", "(I)Z"⟩, 18) := ⟨⟨by decide +kernel, by decide +kernel⟩, List.mem_of_getElem? (i := 113) (by decide +kernel), List.mem_of_getElem? (i := 532) (by decide +kernel), List.mem_of_getElem? (i := 533) (by decide +kernel)⟩
theorem lw_p7 : lw_okq (⟨"BeamPieces$Statics", "leans", "(I)J"⟩, 18) := ⟨⟨by decide +kernel, by decide +kernel⟩, List.mem_of_getElem? (i := 113) (by decide +kernel), List.mem_of_getElem? (i := 536) (by decide +kernel), List.mem_of_getElem? (i := 537) (by decide +kernel)⟩
theorem lw_p8 : lw_okq (⟨"BeamPieces$Statics", "leanToRight", "(I)J"⟩, 18) := ⟨⟨by decide +kernel, by decide +kernel⟩, List.mem_of_getElem? (i := 113) (by decide +kernel), List.mem_of_getElem? (i := 540) (by decide +kernel), List.mem_of_getElem? (i := 541) (by decide +kernel)⟩
theorem lw_p9 : lw_okq (⟨"BeamPieces$Statics", "leanToLeft", "(I)J"⟩, 18) := ⟨⟨by decide +kernel, by decide +kernel⟩, List.mem_of_getElem? (i := 113) (by decide +kernel), List.mem_of_getElem? (i := 554) (by decide +kernel), List.mem_of_getElem? (i := 555) (by decide +kernel)⟩
theorem lw_p10 : lw_okq (⟨"BeamPieces$Statics", "shearAlong", "()V"⟩, 18) := ⟨⟨by decide +kernel, by decide +kernel⟩, List.mem_of_getElem? (i := 113) (by decide +kernel), List.mem_of_getElem? (i := 558) (by decide +kernel), List.mem_of_getElem? (i := 559) (by decide +kernel)⟩
theorem lw_p11 : lw_okq (⟨"BeamPieces$Statics", "loadsBehind", "(I)J"⟩, 18) := ⟨⟨by decide +kernel, by decide +kernel⟩, List.mem_of_getElem? (i := 113) (by decide +kernel), List.mem_of_getElem? (i := 562) (by decide +kernel), List.mem_of_getElem? (i := 563) (by decide +kernel)⟩
theorem lw_p12 : lw_okq (⟨"BeamPieces$Statics", "shearOfSpan", "(I)J"⟩, 18) := ⟨⟨by decide +kernel, by decide +kernel⟩, List.mem_of_getElem? (i := 113) (by decide +kernel), List.mem_of_getElem? (i := 566) (by decide +kernel), List.mem_of_getElem? (i := 567) (by decide +kernel)⟩
theorem lw_p13 : lw_okq (⟨"BeamPieces$Statics", "bendAlong", "()V"⟩, 18) := ⟨⟨by decide +kernel, by decide +kernel⟩, List.mem_of_getElem? (i := 113) (by decide +kernel), List.mem_of_getElem? (i := 570) (by decide +kernel), List.mem_of_getElem? (i := 571) (by decide +kernel)⟩
theorem lw_p14 : lw_okq (⟨"BeamPieces", "inLowest", "(JJI)J"⟩, 10) := ⟨⟨by decide +kernel, by decide +kernel⟩, List.mem_of_getElem? (i := 20) (by decide +kernel), List.mem_of_getElem? (i := 574) (by decide +kernel), List.mem_of_getElem? (i := 575) (by decide +kernel)⟩
theorem lw_p15 : lw_okq (⟨"BeamPieces$Statics", "sagOfSpan", "(I)J"⟩, 18) := ⟨⟨by decide +kernel, by decide +kernel⟩, List.mem_of_getElem? (i := 113) (by decide +kernel), List.mem_of_getElem? (i := 623) (by decide +kernel), List.mem_of_getElem? (i := 624) (by decide +kernel)⟩
def lw_privs_1 : List (MethodName × Nat) := [(⟨"BeamPieces", "solveAsItIs", "()V"⟩, 10), (⟨"BeamPieces$Statics", "solveOverSupports", "()V"⟩, 18), (⟨"BeamPieces$Statics", "span", "(I)J"⟩, 18), (⟨"BeamPieces$Statics", "twiceOverFirst", "()J"⟩, 18), (⟨"BeamPieces$Statics", "twiceOverLast", "()J"⟩, 18), (⟨"BeamPieces$Statics", "hasRow", "(I)Z"⟩, 18), (⟨"BeamPieces$Statics", "isInner", "(I)Z"⟩, 18), (⟨"BeamPieces$Statics", "leans", "(I)J"⟩, 18), (⟨"BeamPieces$Statics", "leanToRight", "(I)J"⟩, 18), (⟨"BeamPieces$Statics", "leanToLeft", "(I)J"⟩, 18), (⟨"BeamPieces$Statics", "shearAlong", "()V"⟩, 18), (⟨"BeamPieces$Statics", "loadsBehind", "(I)J"⟩, 18), (⟨"BeamPieces$Statics", "shearOfSpan", "(I)J"⟩, 18), (⟨"BeamPieces$Statics", "bendAlong", "()V"⟩, 18), (⟨"BeamPieces", "inLowest", "(JJI)J"⟩, 10), (⟨"BeamPieces$Statics", "sagOfSpan", "(I)J"⟩, 18)]
theorem lw_r1 : ∀ q ∈ lw_privs_1, lw_okq q := List.forall_mem_cons.mpr ⟨lw_p0, List.forall_mem_cons.mpr ⟨lw_p1, List.forall_mem_cons.mpr ⟨lw_p2, List.forall_mem_cons.mpr ⟨lw_p3, List.forall_mem_cons.mpr ⟨lw_p4, List.forall_mem_cons.mpr ⟨lw_p5, List.forall_mem_cons.mpr ⟨lw_p6, List.forall_mem_cons.mpr ⟨lw_p7, List.forall_mem_cons.mpr ⟨lw_p8, List.forall_mem_cons.mpr ⟨lw_p9, List.forall_mem_cons.mpr ⟨lw_p10, List.forall_mem_cons.mpr ⟨lw_p11, List.forall_mem_cons.mpr ⟨lw_p12, List.forall_mem_cons.mpr ⟨lw_p13, List.forall_mem_cons.mpr ⟨lw_p14, List.forall_mem_cons.mpr ⟨lw_p15, fun _ h => absurd h List.not_mem_nil⟩⟩⟩⟩⟩⟩⟩⟩⟩⟩⟩⟩⟩⟩⟩⟩
theorem lw_p16 : lw_okq (⟨"BeamPieces$Statics", "rise", "(I)J"⟩, 18) := ⟨⟨by decide +kernel, by decide +kernel⟩, List.mem_of_getElem? (i := 113) (by decide +kernel), List.mem_of_getElem? (i := 627) (by decide +kernel), List.mem_of_getElem? (i := 628) (by decide +kernel)⟩
theorem lw_p17 : lw_okq (⟨"BeamPieces$Statics", "bending", "(I)J"⟩, 18) := ⟨⟨by decide +kernel, by decide +kernel⟩, List.mem_of_getElem? (i := 113) (by decide +kernel), List.mem_of_getElem? (i := 632) (by decide +kernel), List.mem_of_getElem? (i := 633) (by decide +kernel)⟩
theorem lw_p18 : lw_okq (⟨"BeamPieces$Statics", "sagAheadOfFirst", "(J)V"⟩, 18) := ⟨⟨by decide +kernel, by decide +kernel⟩, List.mem_of_getElem? (i := 113) (by decide +kernel), List.mem_of_getElem? (i := 636) (by decide +kernel), List.mem_of_getElem? (i := 637) (by decide +kernel)⟩
theorem lw_p19 : lw_okq (⟨"BeamPieces$Statics", "sagBehindLast", "(J)V"⟩, 18) := ⟨⟨by decide +kernel, by decide +kernel⟩, List.mem_of_getElem? (i := 113) (by decide +kernel), List.mem_of_getElem? (i := 640) (by decide +kernel), List.mem_of_getElem? (i := 641) (by decide +kernel)⟩
theorem lw_p20 : lw_okq (⟨"BeamPieces$Statics", "offerPeak", "()V"⟩, 18) := ⟨⟨by decide +kernel, by decide +kernel⟩, List.mem_of_getElem? (i := 113) (by decide +kernel), List.mem_of_getElem? (i := 652) (by decide +kernel), List.mem_of_getElem? (i := 653) (by decide +kernel)⟩
theorem lw_p21 : lw_okq (⟨"BeamPieces$Statics", "turnsWithin", "(I)Z"⟩, 18) := ⟨⟨by decide +kernel, by decide +kernel⟩, List.mem_of_getElem? (i := 113) (by decide +kernel), List.mem_of_getElem? (i := 674) (by decide +kernel), List.mem_of_getElem? (i := 675) (by decide +kernel)⟩
theorem lw_p22 : lw_okq (⟨"BeamPieces", "timesWithin", "(I)I"⟩, 10) := ⟨⟨by decide +kernel, by decide +kernel⟩, List.mem_of_getElem? (i := 20) (by decide +kernel), List.mem_of_getElem? (i := 697) (by decide +kernel), List.mem_of_getElem? (i := 698) (by decide +kernel)⟩
theorem lw_p23 : lw_okq (⟨"BeamPieces", "canRoll", "(I)Z"⟩, 10) := ⟨⟨by decide +kernel, by decide +kernel⟩, List.mem_of_getElem? (i := 20) (by decide +kernel), List.mem_of_getElem? (i := 706) (by decide +kernel), List.mem_of_getElem? (i := 707) (by decide +kernel)⟩
theorem lw_p24 : lw_okq (⟨"BeamPieces", "mostByRolling", "([JII)J"⟩, 10) := ⟨⟨by decide +kernel, by decide +kernel⟩, List.mem_of_getElem? (i := 20) (by decide +kernel), List.mem_of_getElem? (i := 710) (by decide +kernel), List.mem_of_getElem? (i := 711) (by decide +kernel)⟩
theorem lw_p25 : lw_okq (⟨"BeamPieces", "solveRolling", "(I)V"⟩, 10) := ⟨⟨by decide +kernel, by decide +kernel⟩, List.mem_of_getElem? (i := 20) (by decide +kernel), List.mem_of_getElem? (i := 714) (by decide +kernel), List.mem_of_getElem? (i := 715) (by decide +kernel)⟩
theorem lw_p26 : lw_okq (⟨"BeamPieces", "solveUnit", "(I)V"⟩, 10) := ⟨⟨by decide +kernel, by decide +kernel⟩, List.mem_of_getElem? (i := 20) (by decide +kernel), List.mem_of_getElem? (i := 728) (by decide +kernel), List.mem_of_getElem? (i := 729) (by decide +kernel)⟩
theorem lw_p27 : lw_okq (⟨"BeamPieces$Reader", "placeOfNoText", "()I"⟩, 6) := ⟨⟨by decide +kernel, by decide +kernel⟩, List.mem_of_getElem? (i := 231) (by decide +kernel), List.mem_of_getElem? (i := 760) (by decide +kernel), List.mem_of_getElem? (i := 761) (by decide +kernel)⟩
theorem lw_p28 : lw_okq (⟨"BeamPieces$Reader", "readStatement", "()Z"⟩, 6) := ⟨⟨by decide +kernel, by decide +kernel⟩, List.mem_of_getElem? (i := 231) (by decide +kernel), List.mem_of_getElem? (i := 764) (by decide +kernel), List.mem_of_getElem? (i := 765) (by decide +kernel)⟩
theorem lw_p29 : lw_okq (⟨"BeamPieces$Reader", "wordWithin", "(II)I"⟩, 6) := ⟨⟨by decide +kernel, by decide +kernel⟩, List.mem_of_getElem? (i := 231) (by decide +kernel), List.mem_of_getElem? (i := 771) (by decide +kernel), List.mem_of_getElem? (i := 772) (by decide +kernel)⟩
theorem lw_p30 : lw_okq (⟨"BeamPieces$Reader", "spells", "(IILjava/lang/String;)Z"⟩, 6) := ⟨⟨by decide +kernel, by decide +kernel⟩, List.mem_of_getElem? (i := 231) (by decide +kernel), List.mem_of_getElem? (i := 784) (by decide +kernel), List.mem_of_getElem? (i := 785) (by decide +kernel)⟩
theorem lw_p31 : lw_okq (⟨"BeamPieces$Reader", "readNumber", "(IZ)Z"⟩, 6) := ⟨⟨by decide +kernel, by decide +kernel⟩, List.mem_of_getElem? (i := 231) (by decide +kernel), List.mem_of_getElem? (i := 838) (by decide +kernel), List.mem_of_getElem? (i := 839) (by decide +kernel)⟩
def lw_privs_2 : List (MethodName × Nat) := [(⟨"BeamPieces$Statics", "rise", "(I)J"⟩, 18), (⟨"BeamPieces$Statics", "bending", "(I)J"⟩, 18), (⟨"BeamPieces$Statics", "sagAheadOfFirst", "(J)V"⟩, 18), (⟨"BeamPieces$Statics", "sagBehindLast", "(J)V"⟩, 18), (⟨"BeamPieces$Statics", "offerPeak", "()V"⟩, 18), (⟨"BeamPieces$Statics", "turnsWithin", "(I)Z"⟩, 18), (⟨"BeamPieces", "timesWithin", "(I)I"⟩, 10), (⟨"BeamPieces", "canRoll", "(I)Z"⟩, 10), (⟨"BeamPieces", "mostByRolling", "([JII)J"⟩, 10), (⟨"BeamPieces", "solveRolling", "(I)V"⟩, 10), (⟨"BeamPieces", "solveUnit", "(I)V"⟩, 10), (⟨"BeamPieces$Reader", "placeOfNoText", "()I"⟩, 6), (⟨"BeamPieces$Reader", "readStatement", "()Z"⟩, 6), (⟨"BeamPieces$Reader", "wordWithin", "(II)I"⟩, 6), (⟨"BeamPieces$Reader", "spells", "(IILjava/lang/String;)Z"⟩, 6), (⟨"BeamPieces$Reader", "readNumber", "(IZ)Z"⟩, 6)]
theorem lw_r2 : ∀ q ∈ lw_privs_2, lw_okq q := List.forall_mem_cons.mpr ⟨lw_p16, List.forall_mem_cons.mpr ⟨lw_p17, List.forall_mem_cons.mpr ⟨lw_p18, List.forall_mem_cons.mpr ⟨lw_p19, List.forall_mem_cons.mpr ⟨lw_p20, List.forall_mem_cons.mpr ⟨lw_p21, List.forall_mem_cons.mpr ⟨lw_p22, List.forall_mem_cons.mpr ⟨lw_p23, List.forall_mem_cons.mpr ⟨lw_p24, List.forall_mem_cons.mpr ⟨lw_p25, List.forall_mem_cons.mpr ⟨lw_p26, List.forall_mem_cons.mpr ⟨lw_p27, List.forall_mem_cons.mpr ⟨lw_p28, List.forall_mem_cons.mpr ⟨lw_p29, List.forall_mem_cons.mpr ⟨lw_p30, List.forall_mem_cons.mpr ⟨lw_p31, fun _ h => absurd h List.not_mem_nil⟩⟩⟩⟩⟩⟩⟩⟩⟩⟩⟩⟩⟩⟩⟩⟩
theorem lw_p32 : lw_okq (⟨"BeamPieces$Reader", "isNext", "(I)Z"⟩, 6) := ⟨⟨by decide +kernel, by decide +kernel⟩, List.mem_of_getElem? (i := 231) (by decide +kernel), List.mem_of_getElem? (i := 842) (by decide +kernel), List.mem_of_getElem? (i := 843) (by decide +kernel)⟩
theorem lw_p33 : lw_okq (⟨"BeamPieces$Reader", "isFigureNext", "()Z"⟩, 6) := ⟨⟨by decide +kernel, by decide +kernel⟩, List.mem_of_getElem? (i := 231) (by decide +kernel), List.mem_of_getElem? (i := 846) (by decide +kernel), List.mem_of_getElem? (i := 847) (by decide +kernel)⟩
theorem lw_p34 : lw_okq (⟨"BeamPieces$Reader", "whyNotStatement", "()I"⟩, 6) := ⟨⟨by decide +kernel, by decide +kernel⟩, List.mem_of_getElem? (i := 231) (by decide +kernel), List.mem_of_getElem? (i := 851) (by decide +kernel), List.mem_of_getElem? (i := 852) (by decide +kernel)⟩
theorem lw_p35 : lw_okq (⟨"BeamPieces$Reader", "takeStatement", "()V"⟩, 6) := ⟨⟨by decide +kernel, by decide +kernel⟩, List.mem_of_getElem? (i := 231) (by decide +kernel), List.mem_of_getElem? (i := 861) (by decide +kernel), List.mem_of_getElem? (i := 862) (by decide +kernel)⟩
theorem lw_p36 : lw_okq (⟨"BeamPieces", "printPiece", "(I)V"⟩, 10) := ⟨⟨by decide +kernel, by decide +kernel⟩, List.mem_of_getElem? (i := 20) (by decide +kernel), List.mem_of_getElem? (i := 876) (by decide +kernel), List.mem_of_getElem? (i := 877) (by decide +kernel)⟩
theorem lw_p37 : lw_okq (⟨"BeamPieces", "numbersInAll", "()I"⟩, 10) := ⟨⟨by decide +kernel, by decide +kernel⟩, List.mem_of_getElem? (i := 20) (by decide +kernel), List.mem_of_getElem? (i := 949) (by decide +kernel), List.mem_of_getElem? (i := 950) (by decide +kernel)⟩
theorem lw_p38 : lw_okq (⟨"BeamPieces", "numberOfMoments", "(I)J"⟩, 10) := ⟨⟨by decide +kernel, by decide +kernel⟩, List.mem_of_getElem? (i := 20) (by decide +kernel), List.mem_of_getElem? (i := 953) (by decide +kernel), List.mem_of_getElem? (i := 954) (by decide +kernel)⟩
theorem lw_p39 : lw_okq (⟨"BeamPiecesModel", "isPlace", "(I)Z"⟩, 35) := ⟨⟨by decide +kernel, by decide +kernel⟩, List.mem_of_getElem? (i := 980) (by decide +kernel), List.mem_of_getElem? (i := 1106) (by decide +kernel), List.mem_of_getElem? (i := 1107) (by decide +kernel)⟩
theorem lw_p40 : lw_okq (⟨"BeamPiecesModel", "supportAt", "(I)I"⟩, 35) := ⟨⟨by decide +kernel, by decide +kernel⟩, List.mem_of_getElem? (i := 980) (by decide +kernel), List.mem_of_getElem? (i := 1110) (by decide +kernel), List.mem_of_getElem? (i := 1111) (by decide +kernel)⟩
theorem lw_p41 : lw_okq (⟨"BeamPiecesModel", "changes", "()V"⟩, 35) := ⟨⟨by decide +kernel, by decide +kernel⟩, List.mem_of_getElem? (i := 980) (by decide +kernel), List.mem_of_getElem? (i := 1114) (by decide +kernel), List.mem_of_getElem? (i := 1115) (by decide +kernel)⟩
theorem lw_p42 : lw_okq (⟨"BeamPiecesModel", "comes", "(III)I"⟩, 35) := ⟨⟨by decide +kernel, by decide +kernel⟩, List.mem_of_getElem? (i := 980) (by decide +kernel), List.mem_of_getElem? (i := 1132) (by decide +kernel), List.mem_of_getElem? (i := 1133) (by decide +kernel)⟩
theorem lw_p43 : lw_okq (⟨"BeamPiecesModel", "isLoad", "(I)Z"⟩, 35) := ⟨⟨by decide +kernel, by decide +kernel⟩, List.mem_of_getElem? (i := 980) (by decide +kernel), List.mem_of_getElem? (i := 1144) (by decide +kernel), List.mem_of_getElem? (i := 1145) (by decide +kernel)⟩
theorem lw_p44 : lw_okq (⟨"BeamPiecesModel", "isSupport", "(I)Z"⟩, 35) := ⟨⟨by decide +kernel, by decide +kernel⟩, List.mem_of_getElem? (i := 980) (by decide +kernel), List.mem_of_getElem? (i := 1169) (by decide +kernel), List.mem_of_getElem? (i := 1170) (by decide +kernel)⟩
theorem lw_p45 : lw_okq (⟨"BeamPiecesModel", "allLoads", "()I"⟩, 35) := ⟨⟨by decide +kernel, by decide +kernel⟩, List.mem_of_getElem? (i := 980) (by decide +kernel), List.mem_of_getElem? (i := 1177) (by decide +kernel), List.mem_of_getElem? (i := 1178) (by decide +kernel)⟩
theorem lw_p46 : lw_okq (⟨"BeamPiecesModel", "stands", "()Z"⟩, 35) := ⟨⟨by decide +kernel, by decide +kernel⟩, List.mem_of_getElem? (i := 980) (by decide +kernel), List.mem_of_getElem? (i := 1185) (by decide +kernel), List.mem_of_getElem? (i := 1186) (by decide +kernel)⟩
theorem lw_p47 : lw_okq (⟨"BeamPiecesModel", "reactions", "()V"⟩, 35) := ⟨⟨by decide +kernel, by decide +kernel⟩, List.mem_of_getElem? (i := 980) (by decide +kernel), List.mem_of_getElem? (i := 1190) (by decide +kernel), List.mem_of_getElem? (i := 1191) (by decide +kernel)⟩
def lw_privs_3 : List (MethodName × Nat) := [(⟨"BeamPieces$Reader", "isNext", "(I)Z"⟩, 6), (⟨"BeamPieces$Reader", "isFigureNext", "()Z"⟩, 6), (⟨"BeamPieces$Reader", "whyNotStatement", "()I"⟩, 6), (⟨"BeamPieces$Reader", "takeStatement", "()V"⟩, 6), (⟨"BeamPieces", "printPiece", "(I)V"⟩, 10), (⟨"BeamPieces", "numbersInAll", "()I"⟩, 10), (⟨"BeamPieces", "numberOfMoments", "(I)J"⟩, 10), (⟨"BeamPiecesModel", "isPlace", "(I)Z"⟩, 35), (⟨"BeamPiecesModel", "supportAt", "(I)I"⟩, 35), (⟨"BeamPiecesModel", "changes", "()V"⟩, 35), (⟨"BeamPiecesModel", "comes", "(III)I"⟩, 35), (⟨"BeamPiecesModel", "isLoad", "(I)Z"⟩, 35), (⟨"BeamPiecesModel", "isSupport", "(I)Z"⟩, 35), (⟨"BeamPiecesModel", "allLoads", "()I"⟩, 35), (⟨"BeamPiecesModel", "stands", "()Z"⟩, 35), (⟨"BeamPiecesModel", "reactions", "()V"⟩, 35)]
theorem lw_r3 : ∀ q ∈ lw_privs_3, lw_okq q := List.forall_mem_cons.mpr ⟨lw_p32, List.forall_mem_cons.mpr ⟨lw_p33, List.forall_mem_cons.mpr ⟨lw_p34, List.forall_mem_cons.mpr ⟨lw_p35, List.forall_mem_cons.mpr ⟨lw_p36, List.forall_mem_cons.mpr ⟨lw_p37, List.forall_mem_cons.mpr ⟨lw_p38, List.forall_mem_cons.mpr ⟨lw_p39, List.forall_mem_cons.mpr ⟨lw_p40, List.forall_mem_cons.mpr ⟨lw_p41, List.forall_mem_cons.mpr ⟨lw_p42, List.forall_mem_cons.mpr ⟨lw_p43, List.forall_mem_cons.mpr ⟨lw_p44, List.forall_mem_cons.mpr ⟨lw_p45, List.forall_mem_cons.mpr ⟨lw_p46, List.forall_mem_cons.mpr ⟨lw_p47, fun _ h => absurd h List.not_mem_nil⟩⟩⟩⟩⟩⟩⟩⟩⟩⟩⟩⟩⟩⟩⟩⟩
theorem lw_p48 : lw_okq (⟨"BeamPiecesModel", "moments", "()V"⟩, 35) := ⟨⟨by decide +kernel, by decide +kernel⟩, List.mem_of_getElem? (i := 980) (by decide +kernel), List.mem_of_getElem? (i := 1194) (by decide +kernel), List.mem_of_getElem? (i := 1195) (by decide +kernel)⟩
theorem lw_p49 : lw_okq (⟨"BeamPiecesModel", "beyond", "(IZ)J"⟩, 35) := ⟨⟨by decide +kernel, by decide +kernel⟩, List.mem_of_getElem? (i := 980) (by decide +kernel), List.mem_of_getElem? (i := 1198) (by decide +kernel), List.mem_of_getElem? (i := 1199) (by decide +kernel)⟩
theorem lw_p50 : lw_okq (⟨"BeamPiecesModel", "isSpread", "(I)Z"⟩, 35) := ⟨⟨by decide +kernel, by decide +kernel⟩, List.mem_of_getElem? (i := 980) (by decide +kernel), List.mem_of_getElem? (i := 1205) (by decide +kernel), List.mem_of_getElem? (i := 1206) (by decide +kernel)⟩
theorem lw_p51 : lw_okq (⟨"BeamPiecesModel", "is", "(JJ)V"⟩, 35) := ⟨⟨by decide +kernel, by decide +kernel⟩, List.mem_of_getElem? (i := 980) (by decide +kernel), List.mem_of_getElem? (i := 1209) (by decide +kernel), List.mem_of_getElem? (i := 1210) (by decide +kernel)⟩
theorem lw_p52 : lw_okq (⟨"BeamPiecesModel", "keeps", "(I)V"⟩, 35) := ⟨⟨by decide +kernel, by decide +kernel⟩, List.mem_of_getElem? (i := 980) (by decide +kernel), List.mem_of_getElem? (i := 1216) (by decide +kernel), List.mem_of_getElem? (i := 1217) (by decide +kernel)⟩
theorem lw_p53 : lw_okq (⟨"BeamPiecesModel", "gives", "(I)V"⟩, 35) := ⟨⟨by decide +kernel, by decide +kernel⟩, List.mem_of_getElem? (i := 980) (by decide +kernel), List.mem_of_getElem? (i := 1220) (by decide +kernel), List.mem_of_getElem? (i := 1221) (by decide +kernel)⟩
theorem lw_p54 : lw_okq (⟨"BeamPiecesModel", "spanOf", "(I)I"⟩, 35) := ⟨⟨by decide +kernel, by decide +kernel⟩, List.mem_of_getElem? (i := 980) (by decide +kernel), List.mem_of_getElem? (i := 1224) (by decide +kernel), List.mem_of_getElem? (i := 1225) (by decide +kernel)⟩
theorem lw_p55 : lw_okq (⟨"BeamPiecesModel", "sums", "(IIZ)J"⟩, 35) := ⟨⟨by decide +kernel, by decide +kernel⟩, List.mem_of_getElem? (i := 980) (by decide +kernel), List.mem_of_getElem? (i := 1228) (by decide +kernel), List.mem_of_getElem? (i := 1229) (by decide +kernel)⟩
theorem lw_p56 : lw_okq (⟨"BeamPiecesModel", "plus", "(JJ)V"⟩, 35) := ⟨⟨by decide +kernel, by decide +kernel⟩, List.mem_of_getElem? (i := 980) (by decide +kernel), List.mem_of_getElem? (i := 1239) (by decide +kernel), List.mem_of_getElem? (i := 1240) (by decide +kernel)⟩
theorem lw_p57 : lw_okq (⟨"BeamPiecesModel", "isLoose", "(I)Z"⟩, 35) := ⟨⟨by decide +kernel, by decide +kernel⟩, List.mem_of_getElem? (i := 980) (by decide +kernel), List.mem_of_getElem? (i := 1243) (by decide +kernel), List.mem_of_getElem? (i := 1244) (by decide +kernel)⟩
theorem lw_p58 : lw_okq (⟨"BeamPiecesModel", "alone", "(I)V"⟩, 35) := ⟨⟨by decide +kernel, by decide +kernel⟩, List.mem_of_getElem? (i := 980) (by decide +kernel), List.mem_of_getElem? (i := 1247) (by decide +kernel), List.mem_of_getElem? (i := 1248) (by decide +kernel)⟩
theorem lw_p59 : lw_okq (⟨"BeamPiecesModel", "pointsAt", "(I)J"⟩, 35) := ⟨⟨by decide +kernel, by decide +kernel⟩, List.mem_of_getElem? (i := 980) (by decide +kernel), List.mem_of_getElem? (i := 1251) (by decide +kernel), List.mem_of_getElem? (i := 1252) (by decide +kernel)⟩
theorem lw_p60 : lw_okq (⟨"BeamPiecesModel", "beside", "(IZ)J"⟩, 35) := ⟨⟨by decide +kernel, by decide +kernel⟩, List.mem_of_getElem? (i := 980) (by decide +kernel), List.mem_of_getElem? (i := 1255) (by decide +kernel), List.mem_of_getElem? (i := 1256) (by decide +kernel)⟩
theorem lw_p61 : lw_okq (⟨"BeamPiecesModel", "bears", "(IIZ)V"⟩, 35) := ⟨⟨by decide +kernel, by decide +kernel⟩, List.mem_of_getElem? (i := 980) (by decide +kernel), List.mem_of_getElem? (i := 1259) (by decide +kernel), List.mem_of_getElem? (i := 1260) (by decide +kernel)⟩
theorem lw_p62 : lw_okq (⟨"BeamPiecesModel", "shearBehind", "(I)J"⟩, 35) := ⟨⟨by decide +kernel, by decide +kernel⟩, List.mem_of_getElem? (i := 980) (by decide +kernel), List.mem_of_getElem? (i := 1267) (by decide +kernel), List.mem_of_getElem? (i := 1268) (by decide +kernel)⟩
theorem lw_p63 : lw_okq (⟨"BeamPiecesModel", "momentAt", "(JJ)J"⟩, 35) := ⟨⟨by decide +kernel, by decide +kernel⟩, List.mem_of_getElem? (i := 980) (by decide +kernel), List.mem_of_getElem? (i := 1276) (by decide +kernel), List.mem_of_getElem? (i := 1277) (by decide +kernel)⟩
def lw_privs_4 : List (MethodName × Nat) := [(⟨"BeamPiecesModel", "moments", "()V"⟩, 35), (⟨"BeamPiecesModel", "beyond", "(IZ)J"⟩, 35), (⟨"BeamPiecesModel", "isSpread", "(I)Z"⟩, 35), (⟨"BeamPiecesModel", "is", "(JJ)V"⟩, 35), (⟨"BeamPiecesModel", "keeps", "(I)V"⟩, 35), (⟨"BeamPiecesModel", "gives", "(I)V"⟩, 35), (⟨"BeamPiecesModel", "spanOf", "(I)I"⟩, 35), (⟨"BeamPiecesModel", "sums", "(IIZ)J"⟩, 35), (⟨"BeamPiecesModel", "plus", "(JJ)V"⟩, 35), (⟨"BeamPiecesModel", "isLoose", "(I)Z"⟩, 35), (⟨"BeamPiecesModel", "alone", "(I)V"⟩, 35), (⟨"BeamPiecesModel", "pointsAt", "(I)J"⟩, 35), (⟨"BeamPiecesModel", "beside", "(IZ)J"⟩, 35), (⟨"BeamPiecesModel", "bears", "(IIZ)V"⟩, 35), (⟨"BeamPiecesModel", "shearBehind", "(I)J"⟩, 35), (⟨"BeamPiecesModel", "momentAt", "(JJ)J"⟩, 35)]
theorem lw_r4 : ∀ q ∈ lw_privs_4, lw_okq q := List.forall_mem_cons.mpr ⟨lw_p48, List.forall_mem_cons.mpr ⟨lw_p49, List.forall_mem_cons.mpr ⟨lw_p50, List.forall_mem_cons.mpr ⟨lw_p51, List.forall_mem_cons.mpr ⟨lw_p52, List.forall_mem_cons.mpr ⟨lw_p53, List.forall_mem_cons.mpr ⟨lw_p54, List.forall_mem_cons.mpr ⟨lw_p55, List.forall_mem_cons.mpr ⟨lw_p56, List.forall_mem_cons.mpr ⟨lw_p57, List.forall_mem_cons.mpr ⟨lw_p58, List.forall_mem_cons.mpr ⟨lw_p59, List.forall_mem_cons.mpr ⟨lw_p60, List.forall_mem_cons.mpr ⟨lw_p61, List.forall_mem_cons.mpr ⟨lw_p62, List.forall_mem_cons.mpr ⟨lw_p63, fun _ h => absurd h List.not_mem_nil⟩⟩⟩⟩⟩⟩⟩⟩⟩⟩⟩⟩⟩⟩⟩⟩
theorem lw_p64 : lw_okq (⟨"BeamPiecesModel", "sagAt", "(I)J"⟩, 35) := ⟨⟨by decide +kernel, by decide +kernel⟩, List.mem_of_getElem? (i := 980) (by decide +kernel), List.mem_of_getElem? (i := 1284) (by decide +kernel), List.mem_of_getElem? (i := 1285) (by decide +kernel)⟩
theorem lw_p65 : lw_okq (⟨"BeamPiecesModel", "spreadOn", "(I)I"⟩, 35) := ⟨⟨by decide +kernel, by decide +kernel⟩, List.mem_of_getElem? (i := 980) (by decide +kernel), List.mem_of_getElem? (i := 1288) (by decide +kernel), List.mem_of_getElem? (i := 1289) (by decide +kernel)⟩
theorem lw_p66 : lw_okq (⟨"BeamPiecesModel", "wideAt", "(I)I"⟩, 35) := ⟨⟨by decide +kernel, by decide +kernel⟩, List.mem_of_getElem? (i := 980) (by decide +kernel), List.mem_of_getElem? (i := 1295) (by decide +kernel), List.mem_of_getElem? (i := 1296) (by decide +kernel)⟩
theorem lw_p67 : lw_okq (⟨"BeamPiecesModel", "looks", "(I)V"⟩, 35) := ⟨⟨by decide +kernel, by decide +kernel⟩, List.mem_of_getElem? (i := 980) (by decide +kernel), List.mem_of_getElem? (i := 1310) (by decide +kernel), List.mem_of_getElem? (i := 1311) (by decide +kernel)⟩
theorem lw_p68 : lw_okq (⟨"BeamPiecesModel", "tries", "(JJJJ)V"⟩, 35) := ⟨⟨by decide +kernel, by decide +kernel⟩, List.mem_of_getElem? (i := 980) (by decide +kernel), List.mem_of_getElem? (i := 1314) (by decide +kernel), List.mem_of_getElem? (i := 1315) (by decide +kernel)⟩
theorem lw_p69 : lw_okq (⟨"BeamPiecesModel", "span", "()V"⟩, 35) := ⟨⟨by decide +kernel, by decide +kernel⟩, List.mem_of_getElem? (i := 980) (by decide +kernel), List.mem_of_getElem? (i := 1323) (by decide +kernel), List.mem_of_getElem? (i := 1324) (by decide +kernel)⟩
theorem lw_p70 : lw_okq (⟨"BeamPiecesModel", "most", "(III)J"⟩, 35) := ⟨⟨by decide +kernel, by decide +kernel⟩, List.mem_of_getElem? (i := 980) (by decide +kernel), List.mem_of_getElem? (i := 1331) (by decide +kernel), List.mem_of_getElem? (i := 1332) (by decide +kernel)⟩
theorem lw_p71 : lw_okq (⟨"BeamPiecesModel", "thinks", "()V"⟩, 35) := ⟨⟨by decide +kernel, by decide +kernel⟩, List.mem_of_getElem? (i := 980) (by decide +kernel), List.mem_of_getElem? (i := 1335) (by decide +kernel), List.mem_of_getElem? (i := 1336) (by decide +kernel)⟩
theorem lw_p72 : lw_okq (⟨"BeamPiecesModel", "alone", "(II)V"⟩, 35) := ⟨⟨by decide +kernel, by decide +kernel⟩, List.mem_of_getElem? (i := 980) (by decide +kernel), List.mem_of_getElem? (i := 1342) (by decide +kernel), List.mem_of_getElem? (i := 1343) (by decide +kernel)⟩
theorem lw_p73 : lw_okq (⟨"BeamPiecesModel", "asked", "(II)V"⟩, 35) := ⟨⟨by decide +kernel, by decide +kernel⟩, List.mem_of_getElem? (i := 980) (by decide +kernel), List.mem_of_getElem? (i := 1346) (by decide +kernel), List.mem_of_getElem? (i := 1347) (by decide +kernel)⟩
theorem lw_p74 : lw_okq (⟨"BeamPiecesModel", "laysBack", "()V"⟩, 35) := ⟨⟨by decide +kernel, by decide +kernel⟩, List.mem_of_getElem? (i := 980) (by decide +kernel), List.mem_of_getElem? (i := 1350) (by decide +kernel), List.mem_of_getElem? (i := 1351) (by decide +kernel)⟩
theorem lw_p75 : lw_okq (⟨"BeamPiecesModel", "byUnit", "(IIII)J"⟩, 35) := ⟨⟨by decide +kernel, by decide +kernel⟩, List.mem_of_getElem? (i := 980) (by decide +kernel), List.mem_of_getElem? (i := 1362) (by decide +kernel), List.mem_of_getElem? (i := 1363) (by decide +kernel)⟩
theorem lw_p76 : lw_okq (⟨"BeamPiecesModel", "takesAll", "()I"⟩, 35) := ⟨⟨by decide +kernel, by decide +kernel⟩, List.mem_of_getElem? (i := 980) (by decide +kernel), List.mem_of_getElem? (i := 1387) (by decide +kernel), List.mem_of_getElem? (i := 1388) (by decide +kernel)⟩
theorem lw_p77 : lw_okq (⟨"BeamPiecesModel", "takesOne", "()Z"⟩, 35) := ⟨⟨by decide +kernel, by decide +kernel⟩, List.mem_of_getElem? (i := 980) (by decide +kernel), List.mem_of_getElem? (i := 1391) (by decide +kernel), List.mem_of_getElem? (i := 1392) (by decide +kernel)⟩
theorem lw_p78 : lw_okq (⟨"BeamPiecesModel", "word", "()I"⟩, 35) := ⟨⟨by decide +kernel, by decide +kernel⟩, List.mem_of_getElem? (i := 980) (by decide +kernel), List.mem_of_getElem? (i := 1395) (by decide +kernel), List.mem_of_getElem? (i := 1396) (by decide +kernel)⟩
theorem lw_p79 : lw_okq (⟨"BeamPiecesModel", "takes", "(IZ)Z"⟩, 35) := ⟨⟨by decide +kernel, by decide +kernel⟩, List.mem_of_getElem? (i := 980) (by decide +kernel), List.mem_of_getElem? (i := 1401) (by decide +kernel), List.mem_of_getElem? (i := 1402) (by decide +kernel)⟩
def lw_privs_5 : List (MethodName × Nat) := [(⟨"BeamPiecesModel", "sagAt", "(I)J"⟩, 35), (⟨"BeamPiecesModel", "spreadOn", "(I)I"⟩, 35), (⟨"BeamPiecesModel", "wideAt", "(I)I"⟩, 35), (⟨"BeamPiecesModel", "looks", "(I)V"⟩, 35), (⟨"BeamPiecesModel", "tries", "(JJJJ)V"⟩, 35), (⟨"BeamPiecesModel", "span", "()V"⟩, 35), (⟨"BeamPiecesModel", "most", "(III)J"⟩, 35), (⟨"BeamPiecesModel", "thinks", "()V"⟩, 35), (⟨"BeamPiecesModel", "alone", "(II)V"⟩, 35), (⟨"BeamPiecesModel", "asked", "(II)V"⟩, 35), (⟨"BeamPiecesModel", "laysBack", "()V"⟩, 35), (⟨"BeamPiecesModel", "byUnit", "(IIII)J"⟩, 35), (⟨"BeamPiecesModel", "takesAll", "()I"⟩, 35), (⟨"BeamPiecesModel", "takesOne", "()Z"⟩, 35), (⟨"BeamPiecesModel", "word", "()I"⟩, 35), (⟨"BeamPiecesModel", "takes", "(IZ)Z"⟩, 35)]
theorem lw_r5 : ∀ q ∈ lw_privs_5, lw_okq q := List.forall_mem_cons.mpr ⟨lw_p64, List.forall_mem_cons.mpr ⟨lw_p65, List.forall_mem_cons.mpr ⟨lw_p66, List.forall_mem_cons.mpr ⟨lw_p67, List.forall_mem_cons.mpr ⟨lw_p68, List.forall_mem_cons.mpr ⟨lw_p69, List.forall_mem_cons.mpr ⟨lw_p70, List.forall_mem_cons.mpr ⟨lw_p71, List.forall_mem_cons.mpr ⟨lw_p72, List.forall_mem_cons.mpr ⟨lw_p73, List.forall_mem_cons.mpr ⟨lw_p74, List.forall_mem_cons.mpr ⟨lw_p75, List.forall_mem_cons.mpr ⟨lw_p76, List.forall_mem_cons.mpr ⟨lw_p77, List.forall_mem_cons.mpr ⟨lw_p78, List.forall_mem_cons.mpr ⟨lw_p79, fun _ h => absurd h List.not_mem_nil⟩⟩⟩⟩⟩⟩⟩⟩⟩⟩⟩⟩⟩⟩⟩⟩
theorem lw_p80 : lw_okq (⟨"BeamPiecesModel", "here", "()I"⟩, 35) := ⟨⟨by decide +kernel, by decide +kernel⟩, List.mem_of_getElem? (i := 980) (by decide +kernel), List.mem_of_getElem? (i := 1405) (by decide +kernel), List.mem_of_getElem? (i := 1406) (by decide +kernel)⟩
theorem lw_p81 : lw_okq (⟨"BeamPiecesModel", "does", "(I)I"⟩, 35) := ⟨⟨by decide +kernel, by decide +kernel⟩, List.mem_of_getElem? (i := 980) (by decide +kernel), List.mem_of_getElem? (i := 1411) (by decide +kernel), List.mem_of_getElem? (i := 1412) (by decide +kernel)⟩
theorem lw_p82 : lw_okq (⟨"BeamPiecesModel", "number", "(J)V"⟩, 35) := ⟨⟨by decide +kernel, by decide +kernel⟩, List.mem_of_getElem? (i := 980) (by decide +kernel), List.mem_of_getElem? (i := 1425) (by decide +kernel), List.mem_of_getElem? (i := 1426) (by decide +kernel)⟩
theorem lw_p83 : lw_okq (⟨"BeamPiecesModel", "sign", "(I)V"⟩, 35) := ⟨⟨by decide +kernel, by decide +kernel⟩, List.mem_of_getElem? (i := 980) (by decide +kernel), List.mem_of_getElem? (i := 1429) (by decide +kernel), List.mem_of_getElem? (i := 1430) (by decide +kernel)⟩
theorem lw_p84 : lw_okq (⟨"BeamPiecesModel", "fraction", "(JJZ)V"⟩, 35) := ⟨⟨by decide +kernel, by decide +kernel⟩, List.mem_of_getElem? (i := 980) (by decide +kernel), List.mem_of_getElem? (i := 1433) (by decide +kernel), List.mem_of_getElem? (i := 1434) (by decide +kernel)⟩
def lw_privs_6 : List (MethodName × Nat) := [(⟨"BeamPiecesModel", "here", "()I"⟩, 35), (⟨"BeamPiecesModel", "does", "(I)I"⟩, 35), (⟨"BeamPiecesModel", "number", "(J)V"⟩, 35), (⟨"BeamPiecesModel", "sign", "(I)V"⟩, 35), (⟨"BeamPiecesModel", "fraction", "(JJZ)V"⟩, 35)]
theorem lw_r6 : ∀ q ∈ lw_privs_6, lw_okq q := List.forall_mem_cons.mpr ⟨lw_p80, List.forall_mem_cons.mpr ⟨lw_p81, List.forall_mem_cons.mpr ⟨lw_p82, List.forall_mem_cons.mpr ⟨lw_p83, List.forall_mem_cons.mpr ⟨lw_p84, fun _ h => absurd h List.not_mem_nil⟩⟩⟩⟩⟩
def lw_privs : List (MethodName × Nat) := lw_privs_1 ++ (lw_privs_2 ++ (lw_privs_3 ++ (lw_privs_4 ++ (lw_privs_5 ++ (lw_privs_6)))))
def lw_tbl : List Cond := k2_sels lw_privs ++ tables_1
theorem lw_privs_ok : ∀ q ∈ lw_privs, lw_okq q := by
  show ∀ q ∈ lw_privs_1 ++ (lw_privs_2 ++ (lw_privs_3 ++ (lw_privs_4 ++ (lw_privs_5 ++ (lw_privs_6))))), lw_okq q
  exact List.forall_mem_append.mpr ⟨lw_r1, List.forall_mem_append.mpr ⟨lw_r2, List.forall_mem_append.mpr ⟨lw_r3, List.forall_mem_append.mpr ⟨lw_r4, List.forall_mem_append.mpr ⟨lw_r5, lw_r6⟩⟩⟩⟩⟩
end
section
/-! ===== BEGIN words of one list among another's, by their places ===== -/
/-! ===== END ===== -/

/-! ===== BEGIN printed: names, fields, word lists, decode rows ===== -/
def RX0 : String := "BeamPieces$Beam"
def TX0 : u_T := fun k => match k with
  | 0 => ("BeamPieces$Beam", "length", "I", false)
  | 1 => ("BeamPieces$Beam", "supports", "I", false)
  | 2 => ("BeamPieces$Beam", "place", "[I", true)
  | 3 => ("BeamPieces$Beam", "joint", "[I", true)
  | 4 => ("BeamPieces$Beam", "loads", "I", false)
  | 5 => ("BeamPieces$Beam", "from", "[I", true)
  | 6 => ("BeamPieces$Beam", "to", "[I", true)
  | 7 => ("BeamPieces$Beam", "v", "[I", true)
  | 8 => ("BeamPieces$Beam", "pointed", "[I", true)
  | 9 => ("BeamPieces$Beam", "axles", "I", false)
  | 10 => ("BeamPieces$Beam", "behind", "[I", true)
  | _ => ("BeamPieces$Beam", "weight", "[I", true)
def tyX0 : Nat → FieldType := fun k => match k with
  | 0 => .int
  | 1 => .int
  | 2 => .array .int
  | 3 => .array .int
  | 4 => .int
  | 5 => .array .int
  | 6 => .array .int
  | 7 => .array .int
  | 8 => .array .int
  | 9 => .int
  | 10 => .array .int
  | _ => .array .int
abbrev wsX00 : List Cond := u_ws RX0 TX0 12
theorem nmX0 : ∀ a, a < 12 → ∀ b, b < 12 → a ≠ b → (TX0 a).2.1 ≠ (TX0 b).2.1 := by decide +kernel
theorem tyX0_ok : ∀ k, k < 12 → parseFieldDescriptor (TX0 k).2.2.1 = some (tyX0 k) := by decide +kernel
abbrev cX0_init : ByteArray := prog_2_method_1_code
def yX0_init : MethodName := ⟨RX0, "<init>", "()V"⟩
abbrev cX0_become : ByteArray := prog_2_method_2_code
def yX0_become : MethodName := ⟨RX0, "become", "(LBeamPieces$Beam;)V"⟩
abbrev cX0_clear : ByteArray := prog_2_method_3_code
def yX0_clear : MethodName := ⟨RX0, "clear", "(I)V"⟩
abbrev cX0_stands : ByteArray := prog_2_method_4_code
def yX0_stands : MethodName := ⟨RX0, "stands", "()Z"⟩
abbrev cX0_isPlace : ByteArray := prog_2_method_5_code
def yX0_isPlace : MethodName := ⟨RX0, "isPlace", "(I)Z"⟩
abbrev cX0_isSupport : ByteArray := prog_2_method_6_code
def yX0_isSupport : MethodName := ⟨RX0, "isSupport", "(I)Z"⟩
abbrev cX0_isLoad : ByteArray := prog_2_method_7_code
def yX0_isLoad : MethodName := ⟨RX0, "isLoad", "(I)Z"⟩
abbrev cX0_numberAt : ByteArray := prog_2_method_8_code
def yX0_numberAt : MethodName := ⟨RX0, "numberAt", "(I)I"⟩
abbrev cX0_together : ByteArray := prog_2_method_9_code
def yX0_together : MethodName := ⟨RX0, "together", "()I"⟩
abbrev cX0_whyNotLength : ByteArray := prog_2_method_10_code
def yX0_whyNotLength : MethodName := ⟨RX0, "whyNotLength", "(I)I"⟩
abbrev cX0_whyNotSupport : ByteArray := prog_2_method_11_code
def yX0_whyNotSupport : MethodName := ⟨RX0, "whyNotSupport", "(I)I"⟩
abbrev cX0_whyNotAtSupport : ByteArray := prog_2_method_12_code
def yX0_whyNotAtSupport : MethodName := ⟨RX0, "whyNotAtSupport", "(I)I"⟩
abbrev cX0_whyNotPoint : ByteArray := prog_2_method_13_code
def yX0_whyNotPoint : MethodName := ⟨RX0, "whyNotPoint", "(II)I"⟩
abbrev cX0_whyNotSpread : ByteArray := prog_2_method_14_code
def yX0_whyNotSpread : MethodName := ⟨RX0, "whyNotSpread", "(III)I"⟩
abbrev cX0_whyNotAxle : ByteArray := prog_2_method_15_code
def yX0_whyNotAxle : MethodName := ⟨RX0, "whyNotAxle", "(II)I"⟩
abbrev cX0_putSupport : ByteArray := prog_2_method_16_code
def yX0_putSupport : MethodName := ⟨RX0, "putSupport", "(I)I"⟩
abbrev cX0_takeSupport : ByteArray := prog_2_method_17_code
def yX0_takeSupport : MethodName := ⟨RX0, "takeSupport", "(I)I"⟩
abbrev cX0_putHinge : ByteArray := prog_2_method_18_code
def yX0_putHinge : MethodName := ⟨RX0, "putHinge", "(II)I"⟩
abbrev cX0_putLoad : ByteArray := prog_2_method_19_code
def yX0_putLoad : MethodName := ⟨RX0, "putLoad", "(IIII)I"⟩
abbrev cX0_takeLoad : ByteArray := prog_2_method_20_code
def yX0_takeLoad : MethodName := ⟨RX0, "takeLoad", "(I)I"⟩
abbrev cX0_putAxle : ByteArray := prog_2_method_21_code
def yX0_putAxle : MethodName := ⟨RX0, "putAxle", "(II)I"⟩
def RX1 : String := "BeamPieces$Changes"
def TX1 : u_T := fun k => match k with
  | 0 => ("BeamPieces$Changes", "size", "I", false)
  | 1 => ("BeamPieces$Changes", "next", "I", false)
  | _ => ("BeamPieces$Changes", "olds", "[LBeamPieces$Beam;", true)
def tyX1 : Nat → FieldType := fun k => match k with
  | 0 => .int
  | 1 => .int
  | _ => .array (.object "BeamPieces$Beam")
abbrev wsX10 : List Cond := u_ws RX1 TX1 3
theorem nmX1 : ∀ a, a < 3 → ∀ b, b < 3 → a ≠ b → (TX1 a).2.1 ≠ (TX1 b).2.1 := by decide +kernel
theorem tyX1_ok : ∀ k, k < 3 → parseFieldDescriptor (TX1 k).2.2.1 = some (tyX1 k) := by decide +kernel
abbrev cX1_init : ByteArray := prog_3_method_1_code
def yX1_init : MethodName := ⟨RX1, "<init>", "()V"⟩
abbrev cX1_keep : ByteArray := prog_3_method_2_code
def yX1_keep : MethodName := ⟨RX1, "keep", "(LBeamPieces$Beam;)V"⟩
abbrev cX1_layBack : ByteArray := prog_3_method_3_code
def yX1_layBack : MethodName := ⟨RX1, "layBack", "(LBeamPieces$Beam;)V"⟩
abbrev cX1_forget : ByteArray := prog_3_method_4_code
def yX1_forget : MethodName := ⟨RX1, "forget", "()V"⟩
def RX2 : String := "BeamPieces$Fraction"
def TX2 : u_T := fun k => match k with
  | 0 => ("BeamPieces$Fraction", "above", "J", false)
  | _ => ("BeamPieces$Fraction", "below", "J", false)
def tyX2 : Nat → FieldType := fun k => match k with
  | 0 => .long
  | _ => .long
abbrev wsX20 : List Cond := u_ws RX2 TX2 2
theorem nmX2 : ∀ a, a < 2 → ∀ b, b < 2 → a ≠ b → (TX2 a).2.1 ≠ (TX2 b).2.1 := by decide +kernel
theorem tyX2_ok : ∀ k, k < 2 → parseFieldDescriptor (TX2 k).2.2.1 = some (tyX2 k) := by decide +kernel
abbrev cX2_init : ByteArray := prog_4_method_1_code
def yX2_init : MethodName := ⟨RX2, "<init>", "()V"⟩
abbrev cX2_become : ByteArray := prog_4_method_2_code
def yX2_become : MethodName := ⟨RX2, "become", "(JJ)V"⟩
abbrev cX2_copy : ByteArray := prog_4_method_3_code
def yX2_copy : MethodName := ⟨RX2, "copy", "(LBeamPieces$Fraction;)V"⟩
abbrev cX2_told : ByteArray := prog_4_method_4_code
def yX2_told : MethodName := ⟨RX2, "told", "(I)J"⟩
abbrev cX2_against : ByteArray := prog_4_method_5_code
def yX2_against : MethodName := ⟨RX2, "against", "(LBeamPieces$Fraction;)I"⟩
def RX3 : String := "BeamPieces$Paper"
def TX3 : u_T := fun k => match k with
  | 0 => ("BeamPieces$Paper", "size", "I", false)
  | 1 => ("BeamPieces$Paper", "bytes", "[B", true)
  | _ => ("BeamPieces$Paper", "figures", "[B", true)
def tyX3 : Nat → FieldType := fun k => match k with
  | 0 => .int
  | 1 => .array .byte
  | _ => .array .byte
abbrev wsX30 : List Cond := u_ws RX3 TX3 3
theorem nmX3 : ∀ a, a < 3 → ∀ b, b < 3 → a ≠ b → (TX3 a).2.1 ≠ (TX3 b).2.1 := by decide +kernel
theorem tyX3_ok : ∀ k, k < 3 → parseFieldDescriptor (TX3 k).2.2.1 = some (tyX3 k) := by decide +kernel
abbrev cX3_init : ByteArray := prog_5_method_1_code
def yX3_init : MethodName := ⟨RX3, "<init>", "()V"⟩
abbrev cX3_put : ByteArray := prog_5_method_2_code
def yX3_put : MethodName := ⟨RX3, "put", "(I)V"⟩
abbrev cX3_putNumber : ByteArray := prog_5_method_3_code
def yX3_putNumber : MethodName := ⟨RX3, "putNumber", "(J)V"⟩
abbrev cX3_putFraction : ByteArray := prog_5_method_4_code
def yX3_putFraction : MethodName := ⟨RX3, "putFraction", "(LBeamPieces$Fraction;)V"⟩
abbrev cX3_putTerm : ByteArray := prog_5_method_5_code
def yX3_putTerm : MethodName := ⟨RX3, "putTerm", "(LBeamPieces$Fraction;I)V"⟩
def RX4 : String := "BeamPieces$Peak"
def TX4 : u_T := fun k => match k with
  | 0 => ("BeamPieces$Peak", "much", "LBeamPieces$Fraction;", true)
  | 1 => ("BeamPieces$Peak", "where", "LBeamPieces$Fraction;", true)
  | 2 => ("BeamPieces$Peak", "isThere", "Z", false)
  | _ => ("BeamPieces$Peak", "way", "I", true)
def tyX4 : Nat → FieldType := fun k => match k with
  | 0 => .object "BeamPieces$Fraction"
  | 1 => .object "BeamPieces$Fraction"
  | 2 => .boolean
  | _ => .int
abbrev wsX40 : List Cond := u_ws RX4 TX4 4
theorem nmX4 : ∀ a, a < 4 → ∀ b, b < 4 → a ≠ b → (TX4 a).2.1 ≠ (TX4 b).2.1 := by decide +kernel
theorem tyX4_ok : ∀ k, k < 4 → parseFieldDescriptor (TX4 k).2.2.1 = some (tyX4 k) := by decide +kernel
abbrev cX4_init : ByteArray := prog_6_method_1_code
def yX4_init : MethodName := ⟨RX4, "<init>", "(I)V"⟩
abbrev cX4_offer : ByteArray := prog_6_method_2_code
def yX4_offer : MethodName := ⟨RX4, "offer", "(LBeamPieces$Fraction;LBeamPieces$Fraction;)V"⟩
def RX5 : String := "BeamPieces$Reader"
def TX5 : u_T := fun k => match k with
  | 0 => ("BeamPieces$Reader", "size", "I", false)
  | 1 => ("BeamPieces$Reader", "trial", "LBeamPieces$Beam;", true)
  | 2 => ("BeamPieces$Reader", "tape", "[B", true)
  | 3 => ("BeamPieces$Reader", "at", "I", false)
  | 4 => ("BeamPieces$Reader", "word", "I", false)
  | _ => ("BeamPieces$Reader", "number", "[I", true)
def tyX5 : Nat → FieldType := fun k => match k with
  | 0 => .int
  | 1 => .object "BeamPieces$Beam"
  | 2 => .array .byte
  | 3 => .int
  | 4 => .int
  | _ => .array .int
abbrev wsX50 : List Cond := u_ws RX5 TX5 6
theorem nmX5 : ∀ a, a < 6 → ∀ b, b < 6 → a ≠ b → (TX5 a).2.1 ≠ (TX5 b).2.1 := by decide +kernel
theorem tyX5_ok : ∀ k, k < 6 → parseFieldDescriptor (TX5 k).2.2.1 = some (tyX5 k) := by decide +kernel
abbrev cX5_init : ByteArray := prog_7_method_1_code
def yX5_init : MethodName := ⟨RX5, "<init>", "()V"⟩
abbrev cX5_take : ByteArray := prog_7_method_2_code
def yX5_take : MethodName := ⟨RX5, "take", "(I)I"⟩
abbrev cX5_readOnto : ByteArray := prog_7_method_3_code
def yX5_readOnto : MethodName := ⟨RX5, "readOnto", "(LBeamPieces$Beam;)I"⟩
abbrev cX5_placeOfNoText : ByteArray := prog_7_method_4_code
def yX5_placeOfNoText : MethodName := ⟨RX5, "placeOfNoText", "()I"⟩
abbrev cX5_readStatement : ByteArray := prog_7_method_5_code
def yX5_readStatement : MethodName := ⟨RX5, "readStatement", "()Z"⟩
abbrev cX5_readNumber : ByteArray := prog_7_method_6_code
def yX5_readNumber : MethodName := ⟨RX5, "readNumber", "(IZ)Z"⟩
abbrev cX5_isNext : ByteArray := prog_7_method_7_code
def yX5_isNext : MethodName := ⟨RX5, "isNext", "(I)Z"⟩
abbrev cX5_isFigureNext : ByteArray := prog_7_method_8_code
def yX5_isFigureNext : MethodName := ⟨RX5, "isFigureNext", "()Z"⟩
abbrev cX5_isLetter : ByteArray := prog_7_method_9_code
def yX5_isLetter : MethodName := ⟨RX5, "isLetter", "(I)Z"⟩
abbrev cX5_wordWithin : ByteArray := prog_7_method_10_code
def yX5_wordWithin : MethodName := ⟨RX5, "wordWithin", "(II)I"⟩
abbrev cX5_spells : ByteArray := prog_7_method_11_code
def yX5_spells : MethodName := ⟨RX5, "spells", "(IILjava/lang/String;)Z"⟩
abbrev cX5_spelled : ByteArray := prog_7_method_12_code
def yX5_spelled : MethodName := ⟨RX5, "spelled", "(I)Ljava/lang/String;"⟩
abbrev cX5_whyNotStatement : ByteArray := prog_7_method_13_code
def yX5_whyNotStatement : MethodName := ⟨RX5, "whyNotStatement", "()I"⟩
abbrev cX5_takeStatement : ByteArray := prog_7_method_14_code
def yX5_takeStatement : MethodName := ⟨RX5, "takeStatement", "()V"⟩
def RX6 : String := "BeamPieces$Rows"
def TX6 : u_T := fun k => match k with
  | 0 => ("BeamPieces$Rows", "size", "[I", true)
  | _ => ("BeamPieces$Rows", "cells", "[J", true)
def tyX6 : Nat → FieldType := fun k => match k with
  | 0 => .array .int
  | _ => .array .long
abbrev wsX60 : List Cond := u_ws RX6 TX6 2
theorem nmX6 : ∀ a, a < 2 → ∀ b, b < 2 → a ≠ b → (TX6 a).2.1 ≠ (TX6 b).2.1 := by decide +kernel
theorem tyX6_ok : ∀ k, k < 2 → parseFieldDescriptor (TX6 k).2.2.1 = some (tyX6 k) := by decide +kernel
abbrev cX6_init : ByteArray := prog_8_method_1_code
def yX6_init : MethodName := ⟨RX6, "<init>", "()V"⟩
abbrev cX6_isThere : ByteArray := prog_8_method_2_code
def yX6_isThere : MethodName := ⟨RX6, "isThere", "(I)Z"⟩
abbrev cX6_has : ByteArray := prog_8_method_3_code
def yX6_has : MethodName := ⟨RX6, "has", "(II)Z"⟩
abbrev cX6_begin : ByteArray := prog_8_method_4_code
def yX6_begin : MethodName := ⟨RX6, "begin", "(II)V"⟩
abbrev cX6_put : ByteArray := prog_8_method_5_code
def yX6_put : MethodName := ⟨RX6, "put", "(IIJ)V"⟩
abbrev cX6_at : ByteArray := prog_8_method_6_code
def yX6_at : MethodName := ⟨RX6, "at", "(II)J"⟩
def RX7 : String := "BeamPieces$Statics"
def TX7 : u_T := fun k => match k with
  | 0 => ("BeamPieces$Statics", "length", "I", false)
  | 1 => ("BeamPieces$Statics", "supports", "I", false)
  | 2 => ("BeamPieces$Statics", "place", "[I", true)
  | 3 => ("BeamPieces$Statics", "joint", "[I", true)
  | 4 => ("BeamPieces$Statics", "lump", "[J", true)
  | 5 => ("BeamPieces$Statics", "dense", "[J", true)
  | 6 => ("BeamPieces$Statics", "below", "J", false)
  | 7 => ("BeamPieces$Statics", "up", "[J", true)
  | 8 => ("BeamPieces$Statics", "cut", "[J", true)
  | 9 => ("BeamPieces$Statics", "bend", "[J", true)
  | 10 => ("BeamPieces$Statics", "dipBelow", "J", false)
  | 11 => ("BeamPieces$Statics", "dip", "[J", true)
  | 12 => ("BeamPieces$Statics", "top", "LBeamPieces$Peak;", true)
  | 13 => ("BeamPieces$Statics", "bottom", "LBeamPieces$Peak;", true)
  | 14 => ("BeamPieces$Statics", "spansTimes", "J", false)
  | 15 => ("BeamPieces$Statics", "over", "[J", true)
  | 16 => ("BeamPieces$Statics", "much", "LBeamPieces$Fraction;", true)
  | _ => ("BeamPieces$Statics", "where", "LBeamPieces$Fraction;", true)
def tyX7 : Nat → FieldType := fun k => match k with
  | 0 => .int
  | 1 => .int
  | 2 => .array .int
  | 3 => .array .int
  | 4 => .array .long
  | 5 => .array .long
  | 6 => .long
  | 7 => .array .long
  | 8 => .array .long
  | 9 => .array .long
  | 10 => .long
  | 11 => .array .long
  | 12 => .object "BeamPieces$Peak"
  | 13 => .object "BeamPieces$Peak"
  | 14 => .long
  | 15 => .array .long
  | 16 => .object "BeamPieces$Fraction"
  | _ => .object "BeamPieces$Fraction"
abbrev wsX70 : List Cond := u_ws RX7 TX7 18
theorem nmX7 : ∀ a, a < 18 → ∀ b, b < 18 → a ≠ b → (TX7 a).2.1 ≠ (TX7 b).2.1 := by decide +kernel
theorem tyX7_ok : ∀ k, k < 18 → parseFieldDescriptor (TX7 k).2.2.1 = some (tyX7 k) := by decide +kernel
abbrev cX7_init : ByteArray := prog_9_method_1_code
def yX7_init : MethodName := ⟨RX7, "<init>", "()V"⟩
abbrev cX7_frame : ByteArray := prog_9_method_2_code
def yX7_frame : MethodName := ⟨RX7, "frame", "(LBeamPieces$Beam;)V"⟩
abbrev cX7_bearPoint : ByteArray := prog_9_method_3_code
def yX7_bearPoint : MethodName := ⟨RX7, "bearPoint", "(II)V"⟩
abbrev cX7_bearLoads : ByteArray := prog_9_method_4_code
def yX7_bearLoads : MethodName := ⟨RX7, "bearLoads", "(LBeamPieces$Beam;)V"⟩
abbrev cX7_solve : ByteArray := prog_9_method_5_code
def yX7_solve : MethodName := ⟨RX7, "solve", "()V"⟩
abbrev cX7_span : ByteArray := prog_9_method_6_code
def yX7_span : MethodName := ⟨RX7, "span", "(I)J"⟩
abbrev cX7_isInner : ByteArray := prog_9_method_7_code
def yX7_isInner : MethodName := ⟨RX7, "isInner", "(I)Z"⟩
abbrev cX7_hasRow : ByteArray := prog_9_method_8_code
def yX7_hasRow : MethodName := ⟨RX7, "hasRow", "(I)Z"⟩
abbrev cX7_solveOverSupports : ByteArray := prog_9_method_9_code
def yX7_solveOverSupports : MethodName := ⟨RX7, "solveOverSupports", "()V"⟩
abbrev cX7_twiceOverFirst : ByteArray := prog_9_method_10_code
def yX7_twiceOverFirst : MethodName := ⟨RX7, "twiceOverFirst", "()J"⟩
abbrev cX7_twiceOverLast : ByteArray := prog_9_method_11_code
def yX7_twiceOverLast : MethodName := ⟨RX7, "twiceOverLast", "()J"⟩
abbrev cX7_leans : ByteArray := prog_9_method_12_code
def yX7_leans : MethodName := ⟨RX7, "leans", "(I)J"⟩
abbrev cX7_leanToRight : ByteArray := prog_9_method_13_code
def yX7_leanToRight : MethodName := ⟨RX7, "leanToRight", "(I)J"⟩
abbrev cX7_leanToLeft : ByteArray := prog_9_method_14_code
def yX7_leanToLeft : MethodName := ⟨RX7, "leanToLeft", "(I)J"⟩
abbrev cX7_leanOfPoint : ByteArray := prog_9_method_15_code
def yX7_leanOfPoint : MethodName := ⟨RX7, "leanOfPoint", "(JJ)J"⟩
abbrev cX7_leanOfSpread : ByteArray := prog_9_method_16_code
def yX7_leanOfSpread : MethodName := ⟨RX7, "leanOfSpread", "(JJ)J"⟩
abbrev cX7_shearAlong : ByteArray := prog_9_method_17_code
def yX7_shearAlong : MethodName := ⟨RX7, "shearAlong", "()V"⟩
abbrev cX7_loadsBehind : ByteArray := prog_9_method_18_code
def yX7_loadsBehind : MethodName := ⟨RX7, "loadsBehind", "(I)J"⟩
abbrev cX7_shearOfSpan : ByteArray := prog_9_method_19_code
def yX7_shearOfSpan : MethodName := ⟨RX7, "shearOfSpan", "(I)J"⟩
abbrev cX7_bendAlong : ByteArray := prog_9_method_20_code
def yX7_bendAlong : MethodName := ⟨RX7, "bendAlong", "()V"⟩
abbrev cX7_bendBetween : ByteArray := prog_9_method_21_code
def yX7_bendBetween : MethodName := ⟨RX7, "bendBetween", "(JJLBeamPieces$Fraction;)V"⟩
abbrev cX7_findPeaks : ByteArray := prog_9_method_22_code
def yX7_findPeaks : MethodName := ⟨RX7, "findPeaks", "()V"⟩
abbrev cX7_offerPeak : ByteArray := prog_9_method_23_code
def yX7_offerPeak : MethodName := ⟨RX7, "offerPeak", "()V"⟩
abbrev cX7_turnsWithin : ByteArray := prog_9_method_24_code
def yX7_turnsWithin : MethodName := ⟨RX7, "turnsWithin", "(I)Z"⟩
abbrev cX7_tellSpan : ByteArray := prog_9_method_25_code
def yX7_tellSpan : MethodName := ⟨RX7, "tellSpan", "(LBeamPieces$Fraction;)V"⟩
abbrev cX7_findSags : ByteArray := prog_9_method_26_code
def yX7_findSags : MethodName := ⟨RX7, "findSags", "()V"⟩
abbrev cX7_sagOfSpan : ByteArray := prog_9_method_27_code
def yX7_sagOfSpan : MethodName := ⟨RX7, "sagOfSpan", "(I)J"⟩
abbrev cX7_sagAheadOfFirst : ByteArray := prog_9_method_28_code
def yX7_sagAheadOfFirst : MethodName := ⟨RX7, "sagAheadOfFirst", "(J)V"⟩
abbrev cX7_sagBehindLast : ByteArray := prog_9_method_29_code
def yX7_sagBehindLast : MethodName := ⟨RX7, "sagBehindLast", "(J)V"⟩
abbrev cX7_rise : ByteArray := prog_9_method_30_code
def yX7_rise : MethodName := ⟨RX7, "rise", "(I)J"⟩
abbrev cX7_bending : ByteArray := prog_9_method_31_code
def yX7_bending : MethodName := ⟨RX7, "bending", "(I)J"⟩
abbrev cX7_placeOfMostSag : ByteArray := prog_9_method_32_code
def yX7_placeOfMostSag : MethodName := ⟨RX7, "placeOfMostSag", "()I"⟩
def RX8 : String := "BeamPieces"
def TX8 : u_T := fun k => match k with
  | 0 => ("BeamPieces", "beam", "LBeamPieces$Beam;", true)
  | 1 => ("BeamPieces", "changes", "LBeamPieces$Changes;", true)
  | 2 => ("BeamPieces", "kept", "LBeamPieces$Beam;", true)
  | 3 => ("BeamPieces", "hasImage", "Z", false)
  | 4 => ("BeamPieces", "statics", "LBeamPieces$Statics;", true)
  | 5 => ("BeamPieces", "answer", "LBeamPieces$Fraction;", true)
  | 6 => ("BeamPieces", "rival", "LBeamPieces$Fraction;", true)
  | 7 => ("BeamPieces", "reader", "LBeamPieces$Reader;", true)
  | 8 => ("BeamPieces", "sheet", "LBeamPieces$Paper;", true)
  | _ => ("BeamPieces", "rows", "LBeamPieces$Rows;", true)
def tyX8 : Nat → FieldType := fun k => match k with
  | 0 => .object "BeamPieces$Beam"
  | 1 => .object "BeamPieces$Changes"
  | 2 => .object "BeamPieces$Beam"
  | 3 => .boolean
  | 4 => .object "BeamPieces$Statics"
  | 5 => .object "BeamPieces$Fraction"
  | 6 => .object "BeamPieces$Fraction"
  | 7 => .object "BeamPieces$Reader"
  | 8 => .object "BeamPieces$Paper"
  | _ => .object "BeamPieces$Rows"
abbrev wsX80 : List Cond := u_ws RX8 TX8 10
theorem nmX8 : ∀ a, a < 10 → ∀ b, b < 10 → a ≠ b → (TX8 a).2.1 ≠ (TX8 b).2.1 := by decide +kernel
theorem tyX8_ok : ∀ k, k < 10 → parseFieldDescriptor (TX8 k).2.2.1 = some (tyX8 k) := by decide +kernel
abbrev cX8_init : ByteArray := prog_1_method_1_code
def yX8_init : MethodName := ⟨RX8, "<init>", "()V"⟩
abbrev cX8_beam : ByteArray := prog_1_method_2_code
def yX8_beam : MethodName := ⟨RX8, "beam", "(I)I"⟩
abbrev cX8_support : ByteArray := prog_1_method_3_code
def yX8_support : MethodName := ⟨RX8, "support", "(I)I"⟩
abbrev cX8_drop : ByteArray := prog_1_method_4_code
def yX8_drop : MethodName := ⟨RX8, "drop", "(I)I"⟩
abbrev cX8_hinge : ByteArray := prog_1_method_5_code
def yX8_hinge : MethodName := ⟨RX8, "hinge", "(II)I"⟩
abbrev cX8_point : ByteArray := prog_1_method_6_code
def yX8_point : MethodName := ⟨RX8, "point", "(II)I"⟩
abbrev cX8_spread : ByteArray := prog_1_method_7_code
def yX8_spread : MethodName := ⟨RX8, "spread", "(III)I"⟩
abbrev cX8_heavier : ByteArray := prog_1_method_8_code
def yX8_heavier : MethodName := ⟨RX8, "heavier", "(II)I"⟩
abbrev cX8_lift : ByteArray := prog_1_method_9_code
def yX8_lift : MethodName := ⟨RX8, "lift", "(I)I"⟩
abbrev cX8_axle : ByteArray := prog_1_method_10_code
def yX8_axle : MethodName := ⟨RX8, "axle", "(II)I"⟩
abbrev cX8_unhitch : ByteArray := prog_1_method_11_code
def yX8_unhitch : MethodName := ⟨RX8, "unhitch", "()I"⟩
abbrev cX8_loadOf : ByteArray := prog_1_method_12_code
def yX8_loadOf : MethodName := ⟨RX8, "loadOf", "(II)I"⟩
abbrev cX8_supportOf : ByteArray := prog_1_method_13_code
def yX8_supportOf : MethodName := ⟨RX8, "supportOf", "(II)I"⟩
abbrev cX8_count : ByteArray := prog_1_method_14_code
def yX8_count : MethodName := ⟨RX8, "count", "(I)I"⟩
abbrev cX8_reaction : ByteArray := prog_1_method_15_code
def yX8_reaction : MethodName := ⟨RX8, "reaction", "(II)J"⟩
abbrev cX8_shear : ByteArray := prog_1_method_16_code
def yX8_shear : MethodName := ⟨RX8, "shear", "(II)J"⟩
abbrev cX8_moment : ByteArray := prog_1_method_17_code
def yX8_moment : MethodName := ⟨RX8, "moment", "(III)J"⟩
abbrev cX8_sag : ByteArray := prog_1_method_18_code
def yX8_sag : MethodName := ⟨RX8, "sag", "(II)J"⟩
abbrev cX8_greatest : ByteArray := prog_1_method_19_code
def yX8_greatest : MethodName := ⟨RX8, "greatest", "(II)J"⟩
abbrev cX8_lowest : ByteArray := prog_1_method_20_code
def yX8_lowest : MethodName := ⟨RX8, "lowest", "()I"⟩
abbrev cX8_times : ByteArray := prog_1_method_21_code
def yX8_times : MethodName := ⟨RX8, "times", "(I)I"⟩
abbrev cX8_rolls : ByteArray := prog_1_method_22_code
def yX8_rolls : MethodName := ⟨RX8, "rolls", "(II)J"⟩
abbrev cX8_presses : ByteArray := prog_1_method_23_code
def yX8_presses : MethodName := ⟨RX8, "presses", "(II)J"⟩
abbrev cX8_unit : ByteArray := prog_1_method_24_code
def yX8_unit : MethodName := ⟨RX8, "unit", "(III)J"⟩
abbrev cX8_bears : ByteArray := prog_1_method_25_code
def yX8_bears : MethodName := ⟨RX8, "bears", "(III)J"⟩
abbrev cX8_best : ByteArray := prog_1_method_26_code
def yX8_best : MethodName := ⟨RX8, "best", "(I)I"⟩
abbrev cX8_hinged : ByteArray := prog_1_method_27_code
def yX8_hinged : MethodName := ⟨RX8, "hinged", "(II)J"⟩
abbrev cX8_feed : ByteArray := prog_1_method_28_code
def yX8_feed : MethodName := ⟨RX8, "feed", "(I)I"⟩
abbrev cX8_reads : ByteArray := prog_1_method_29_code
def yX8_reads : MethodName := ⟨RX8, "reads", "()I"⟩
abbrev cX8_prints : ByteArray := prog_1_method_30_code
def yX8_prints : MethodName := ⟨RX8, "prints", "()I"⟩
abbrev cX8_paper : ByteArray := prog_1_method_31_code
def yX8_paper : MethodName := ⟨RX8, "paper", "(I)I"⟩
abbrev cX8_list : ByteArray := prog_1_method_32_code
def yX8_list : MethodName := ⟨RX8, "list", "(II)I"⟩
abbrev cX8_set : ByteArray := prog_1_method_33_code
def yX8_set : MethodName := ⟨RX8, "set", "(IIJ)I"⟩
abbrev cX8_get : ByteArray := prog_1_method_34_code
def yX8_get : MethodName := ⟨RX8, "get", "(II)J"⟩
abbrev cX8_into : ByteArray := prog_1_method_35_code
def yX8_into : MethodName := ⟨RX8, "into", "(II)I"⟩
abbrev cX8_judge : ByteArray := prog_1_method_36_code
def yX8_judge : MethodName := ⟨RX8, "judge", "(II)I"⟩
abbrev cX8_undo : ByteArray := prog_1_method_37_code
def yX8_undo : MethodName := ⟨RX8, "undo", "()I"⟩
abbrev cX8_image : ByteArray := prog_1_method_38_code
def yX8_image : MethodName := ⟨RX8, "image", "()I"⟩
abbrev cX8_back : ByteArray := prog_1_method_39_code
def yX8_back : MethodName := ⟨RX8, "back", "()I"⟩
abbrev cX8_isPart : ByteArray := prog_1_method_40_code
def yX8_isPart : MethodName := ⟨RX8, "isPart", "(I)Z"⟩
abbrev cX8_isV : ByteArray := prog_1_method_41_code
def yX8_isV : MethodName := ⟨RX8, "isV", "(I)Z"⟩
abbrev cX8_isList : ByteArray := prog_1_method_42_code
def yX8_isList : MethodName := ⟨RX8, "isList", "(I)Z"⟩
abbrev cX8_divide : ByteArray := prog_1_method_43_code
def yX8_divide : MethodName := ⟨RX8, "divide", "(JJ)J"⟩
abbrev cX8_commonDivisor : ByteArray := prog_1_method_44_code
def yX8_commonDivisor : MethodName := ⟨RX8, "commonDivisor", "(JJ)J"⟩
abbrev cX8_inLowest : ByteArray := prog_1_method_45_code
def yX8_inLowest : MethodName := ⟨RX8, "inLowest", "(JJI)J"⟩
abbrev cX8_numbersInAll : ByteArray := prog_1_method_46_code
def yX8_numbersInAll : MethodName := ⟨RX8, "numbersInAll", "()I"⟩
abbrev cX8_numberOfMoments : ByteArray := prog_1_method_47_code
def yX8_numberOfMoments : MethodName := ⟨RX8, "numberOfMoments", "(I)J"⟩
abbrev cX8_solveAsItIs : ByteArray := prog_1_method_48_code
def yX8_solveAsItIs : MethodName := ⟨RX8, "solveAsItIs", "()V"⟩
abbrev cX8_solveUnit : ByteArray := prog_1_method_49_code
def yX8_solveUnit : MethodName := ⟨RX8, "solveUnit", "(I)V"⟩
abbrev cX8_solveRolling : ByteArray := prog_1_method_50_code
def yX8_solveRolling : MethodName := ⟨RX8, "solveRolling", "(I)V"⟩
abbrev cX8_canRoll : ByteArray := prog_1_method_51_code
def yX8_canRoll : MethodName := ⟨RX8, "canRoll", "(I)Z"⟩
abbrev cX8_mostByRolling : ByteArray := prog_1_method_52_code
def yX8_mostByRolling : MethodName := ⟨RX8, "mostByRolling", "([JII)J"⟩
abbrev cX8_timesWithin : ByteArray := prog_1_method_53_code
def yX8_timesWithin : MethodName := ⟨RX8, "timesWithin", "(I)I"⟩
abbrev cX8_printPiece : ByteArray := prog_1_method_54_code
def yX8_printPiece : MethodName := ⟨RX8, "printPiece", "(I)V"⟩
def RX9 : String := "BeamPiecesModel"
def TX9 : u_T := fun k => match k with
  | 0 => ("BeamPiecesModel", "now", "[I", true)
  | 1 => ("BeamPiecesModel", "kept", "[I", true)
  | 2 => ("BeamPiecesModel", "hasImage", "Z", false)
  | 3 => ("BeamPiecesModel", "history", "[I", true)
  | 4 => ("BeamPiecesModel", "changes", "I", false)
  | 5 => ("BeamPiecesModel", "up", "J", false)
  | 6 => ("BeamPiecesModel", "down", "J", false)
  | 7 => ("BeamPiecesModel", "mUp", "[J", true)
  | 8 => ("BeamPiecesModel", "mDown", "[J", true)
  | 9 => ("BeamPiecesModel", "rUp", "[J", true)
  | 10 => ("BeamPiecesModel", "rDown", "[J", true)
  | 11 => ("BeamPiecesModel", "force", "[J", true)
  | 12 => ("BeamPiecesModel", "forceDown", "[J", true)
  | 13 => ("BeamPiecesModel", "one", "J", false)
  | 14 => ("BeamPiecesModel", "twice", "[J", true)
  | 15 => ("BeamPiecesModel", "mostUp", "J", false)
  | 16 => ("BeamPiecesModel", "mostDown", "J", false)
  | 17 => ("BeamPiecesModel", "whereUp", "J", false)
  | 18 => ("BeamPiecesModel", "whereDown", "J", false)
  | 19 => ("BeamPiecesModel", "spanUp", "J", false)
  | 20 => ("BeamPiecesModel", "spanDown", "J", false)
  | 21 => ("BeamPiecesModel", "aside", "[I", true)
  | 22 => ("BeamPiecesModel", "tape", "[I", true)
  | 23 => ("BeamPiecesModel", "size", "I", false)
  | 24 => ("BeamPiecesModel", "letters", "[C", true)
  | 25 => ("BeamPiecesModel", "begins", "[I", true)
  | 26 => ("BeamPiecesModel", "wants", "[I", true)
  | 27 => ("BeamPiecesModel", "numbers", "[I", true)
  | 28 => ("BeamPiecesModel", "at", "I", false)
  | 29 => ("BeamPiecesModel", "refusedAt", "I", false)
  | 30 => ("BeamPiecesModel", "saved", "[I", true)
  | 31 => ("BeamPiecesModel", "paper", "[I", true)
  | 32 => ("BeamPiecesModel", "paperMany", "I", false)
  | 33 => ("BeamPiecesModel", "items", "[J", true)
  | _ => ("BeamPiecesModel", "sizes", "[I", true)
def tyX9 : Nat → FieldType := fun k => match k with
  | 0 => .array .int
  | 1 => .array .int
  | 2 => .boolean
  | 3 => .array .int
  | 4 => .int
  | 5 => .long
  | 6 => .long
  | 7 => .array .long
  | 8 => .array .long
  | 9 => .array .long
  | 10 => .array .long
  | 11 => .array .long
  | 12 => .array .long
  | 13 => .long
  | 14 => .array .long
  | 15 => .long
  | 16 => .long
  | 17 => .long
  | 18 => .long
  | 19 => .long
  | 20 => .long
  | 21 => .array .int
  | 22 => .array .int
  | 23 => .int
  | 24 => .array .char
  | 25 => .array .int
  | 26 => .array .int
  | 27 => .array .int
  | 28 => .int
  | 29 => .int
  | 30 => .array .int
  | 31 => .array .int
  | 32 => .int
  | 33 => .array .long
  | _ => .array .int
abbrev wsX90 : List Cond := u_ws RX9 TX9 35
theorem nmX9 : ∀ a, a < 35 → ∀ b, b < 35 → a ≠ b → (TX9 a).2.1 ≠ (TX9 b).2.1 := by decide +kernel
theorem tyX9_ok : ∀ k, k < 35 → parseFieldDescriptor (TX9 k).2.2.1 = some (tyX9 k) := by decide +kernel
abbrev cX9_init : ByteArray := prog_11_method_1_code
def yX9_init : MethodName := ⟨RX9, "<init>", "()V"⟩
abbrev cX9_in : ByteArray := prog_11_method_2_code
def yX9_in : MethodName := ⟨RX9, "in", "(JJJ)Z"⟩
abbrev cX9_copies : ByteArray := prog_11_method_3_code
def yX9_copies : MethodName := ⟨RX9, "copies", "([I[I)V"⟩
abbrev cX9_changes : ByteArray := prog_11_method_4_code
def yX9_changes : MethodName := ⟨RX9, "changes", "()V"⟩
abbrev cX9_isPlace : ByteArray := prog_11_method_5_code
def yX9_isPlace : MethodName := ⟨RX9, "isPlace", "(I)Z"⟩
abbrev cX9_isSupport : ByteArray := prog_11_method_6_code
def yX9_isSupport : MethodName := ⟨RX9, "isSupport", "(I)Z"⟩
abbrev cX9_isLoad : ByteArray := prog_11_method_7_code
def yX9_isLoad : MethodName := ⟨RX9, "isLoad", "(I)Z"⟩
abbrev cX9_supportAt : ByteArray := prog_11_method_8_code
def yX9_supportAt : MethodName := ⟨RX9, "supportAt", "(I)I"⟩
abbrev cX9_beam : ByteArray := prog_11_method_9_code
def yX9_beam : MethodName := ⟨RX9, "beam", "(I)I"⟩
abbrev cX9_support : ByteArray := prog_11_method_10_code
def yX9_support : MethodName := ⟨RX9, "support", "(I)I"⟩
abbrev cX9_drop : ByteArray := prog_11_method_11_code
def yX9_drop : MethodName := ⟨RX9, "drop", "(I)I"⟩
abbrev cX9_hinge : ByteArray := prog_11_method_12_code
def yX9_hinge : MethodName := ⟨RX9, "hinge", "(II)I"⟩
abbrev cX9_comes : ByteArray := prog_11_method_13_code
def yX9_comes : MethodName := ⟨RX9, "comes", "(III)I"⟩
abbrev cX9_point : ByteArray := prog_11_method_14_code
def yX9_point : MethodName := ⟨RX9, "point", "(II)I"⟩
abbrev cX9_spread : ByteArray := prog_11_method_15_code
def yX9_spread : MethodName := ⟨RX9, "spread", "(III)I"⟩
abbrev cX9_heavier : ByteArray := prog_11_method_16_code
def yX9_heavier : MethodName := ⟨RX9, "heavier", "(II)I"⟩
abbrev cX9_lift : ByteArray := prog_11_method_17_code
def yX9_lift : MethodName := ⟨RX9, "lift", "(I)I"⟩
abbrev cX9_axle : ByteArray := prog_11_method_18_code
def yX9_axle : MethodName := ⟨RX9, "axle", "(II)I"⟩
abbrev cX9_unhitch : ByteArray := prog_11_method_19_code
def yX9_unhitch : MethodName := ⟨RX9, "unhitch", "()I"⟩
abbrev cX9_loadOf : ByteArray := prog_11_method_20_code
def yX9_loadOf : MethodName := ⟨RX9, "loadOf", "(II)I"⟩
abbrev cX9_supportOf : ByteArray := prog_11_method_21_code
def yX9_supportOf : MethodName := ⟨RX9, "supportOf", "(II)I"⟩
abbrev cX9_count : ByteArray := prog_11_method_22_code
def yX9_count : MethodName := ⟨RX9, "count", "(I)I"⟩
abbrev cX9_allLoads : ByteArray := prog_11_method_23_code
def yX9_allLoads : MethodName := ⟨RX9, "allLoads", "()I"⟩
abbrev cX9_divisor : ByteArray := prog_11_method_24_code
def yX9_divisor : MethodName := ⟨RX9, "divisor", "(JJ)J"⟩
abbrev cX9_is : ByteArray := prog_11_method_25_code
def yX9_is : MethodName := ⟨RX9, "is", "(JJ)V"⟩
abbrev cX9_plus : ByteArray := prog_11_method_26_code
def yX9_plus : MethodName := ⟨RX9, "plus", "(JJ)V"⟩
abbrev cX9_isLess : ByteArray := prog_11_method_27_code
def yX9_isLess : MethodName := ⟨RX9, "isLess", "(JJJJ)Z"⟩
abbrev cX9_spanOf : ByteArray := prog_11_method_28_code
def yX9_spanOf : MethodName := ⟨RX9, "spanOf", "(I)I"⟩
abbrev cX9_isSpread : ByteArray := prog_11_method_29_code
def yX9_isSpread : MethodName := ⟨RX9, "isSpread", "(I)Z"⟩
abbrev cX9_less : ByteArray := prog_11_method_30_code
def yX9_less : MethodName := ⟨RX9, "less", "(II)I"⟩
abbrev cX9_more : ByteArray := prog_11_method_31_code
def yX9_more : MethodName := ⟨RX9, "more", "(II)I"⟩
abbrev cX9_whole : ByteArray := prog_11_method_32_code
def yX9_whole : MethodName := ⟨RX9, "whole", "(JJ)J"⟩
abbrev cX9_sums : ByteArray := prog_11_method_33_code
def yX9_sums : MethodName := ⟨RX9, "sums", "(IIZ)J"⟩
abbrev cX9_beyond : ByteArray := prog_11_method_34_code
def yX9_beyond : MethodName := ⟨RX9, "beyond", "(IZ)J"⟩
abbrev cX9_gives : ByteArray := prog_11_method_35_code
def yX9_gives : MethodName := ⟨RX9, "gives", "(I)V"⟩
abbrev cX9_keeps : ByteArray := prog_11_method_36_code
def yX9_keeps : MethodName := ⟨RX9, "keeps", "(I)V"⟩
abbrev cX9_isLoose : ByteArray := prog_11_method_37_code
def yX9_isLoose : MethodName := ⟨RX9, "isLoose", "(I)Z"⟩
abbrev cX9_alone : ByteArray := prog_11_method_38_code
def yX9_alone : MethodName := ⟨RX9, "alone", "(I)V"⟩
abbrev cX9_moments : ByteArray := prog_11_method_39_code
def yX9_moments : MethodName := ⟨RX9, "moments", "()V"⟩
abbrev cX9_bears : ByteArray := prog_11_method_40_code
def yX9_bears : MethodName := ⟨RX9, "bears", "(IIZ)V"⟩
abbrev cX9_beside : ByteArray := prog_11_method_41_code
def yX9_beside : MethodName := ⟨RX9, "beside", "(IZ)J"⟩
abbrev cX9_pointsAt : ByteArray := prog_11_method_42_code
def yX9_pointsAt : MethodName := ⟨RX9, "pointsAt", "(I)J"⟩
abbrev cX9_reactions : ByteArray := prog_11_method_43_code
def yX9_reactions : MethodName := ⟨RX9, "reactions", "()V"⟩
abbrev cX9_stands : ByteArray := prog_11_method_44_code
def yX9_stands : MethodName := ⟨RX9, "stands", "()Z"⟩
abbrev cX9_reaction : ByteArray := prog_11_method_45_code
def yX9_reaction : MethodName := ⟨RX9, "reaction", "(II)J"⟩
abbrev cX9_momentAt : ByteArray := prog_11_method_46_code
def yX9_momentAt : MethodName := ⟨RX9, "momentAt", "(JJ)J"⟩
abbrev cX9_shearBehind : ByteArray := prog_11_method_47_code
def yX9_shearBehind : MethodName := ⟨RX9, "shearBehind", "(I)J"⟩
abbrev cX9_spreadOn : ByteArray := prog_11_method_48_code
def yX9_spreadOn : MethodName := ⟨RX9, "spreadOn", "(I)I"⟩
abbrev cX9_shear : ByteArray := prog_11_method_49_code
def yX9_shear : MethodName := ⟨RX9, "shear", "(II)J"⟩
abbrev cX9_moment : ByteArray := prog_11_method_50_code
def yX9_moment : MethodName := ⟨RX9, "moment", "(III)J"⟩
abbrev cX9_sagAt : ByteArray := prog_11_method_51_code
def yX9_sagAt : MethodName := ⟨RX9, "sagAt", "(I)J"⟩
abbrev cX9_wideAt : ByteArray := prog_11_method_52_code
def yX9_wideAt : MethodName := ⟨RX9, "wideAt", "(I)I"⟩
abbrev cX9_sag : ByteArray := prog_11_method_53_code
def yX9_sag : MethodName := ⟨RX9, "sag", "(II)J"⟩
abbrev cX9_lowest : ByteArray := prog_11_method_54_code
def yX9_lowest : MethodName := ⟨RX9, "lowest", "()I"⟩
abbrev cX9_tries : ByteArray := prog_11_method_55_code
def yX9_tries : MethodName := ⟨RX9, "tries", "(JJJJ)V"⟩
abbrev cX9_looks : ByteArray := prog_11_method_56_code
def yX9_looks : MethodName := ⟨RX9, "looks", "(I)V"⟩
abbrev cX9_greatest : ByteArray := prog_11_method_57_code
def yX9_greatest : MethodName := ⟨RX9, "greatest", "(II)J"⟩
abbrev cX9_span : ByteArray := prog_11_method_58_code
def yX9_span : MethodName := ⟨RX9, "span", "()V"⟩
abbrev cX9_times : ByteArray := prog_11_method_59_code
def yX9_times : MethodName := ⟨RX9, "times", "(I)I"⟩
abbrev cX9_thinks : ByteArray := prog_11_method_60_code
def yX9_thinks : MethodName := ⟨RX9, "thinks", "()V"⟩
abbrev cX9_laysBack : ByteArray := prog_11_method_61_code
def yX9_laysBack : MethodName := ⟨RX9, "laysBack", "()V"⟩
abbrev cX9_alone_ : ByteArray := prog_11_method_62_code
def yX9_alone_ : MethodName := ⟨RX9, "alone", "(II)V"⟩
abbrev cX9_asked : ByteArray := prog_11_method_63_code
def yX9_asked : MethodName := ⟨RX9, "asked", "(II)V"⟩
abbrev cX9_most : ByteArray := prog_11_method_64_code
def yX9_most : MethodName := ⟨RX9, "most", "(III)J"⟩
abbrev cX9_rolls : ByteArray := prog_11_method_65_code
def yX9_rolls : MethodName := ⟨RX9, "rolls", "(II)J"⟩
abbrev cX9_presses : ByteArray := prog_11_method_66_code
def yX9_presses : MethodName := ⟨RX9, "presses", "(II)J"⟩
abbrev cX9_byUnit : ByteArray := prog_11_method_67_code
def yX9_byUnit : MethodName := ⟨RX9, "byUnit", "(IIII)J"⟩
abbrev cX9_unit : ByteArray := prog_11_method_68_code
def yX9_unit : MethodName := ⟨RX9, "unit", "(III)J"⟩
abbrev cX9_bears_ : ByteArray := prog_11_method_69_code
def yX9_bears_ : MethodName := ⟨RX9, "bears", "(III)J"⟩
abbrev cX9_best : ByteArray := prog_11_method_70_code
def yX9_best : MethodName := ⟨RX9, "best", "(I)I"⟩
abbrev cX9_hinged : ByteArray := prog_11_method_71_code
def yX9_hinged : MethodName := ⟨RX9, "hinged", "(II)J"⟩
abbrev cX9_feed : ByteArray := prog_11_method_72_code
def yX9_feed : MethodName := ⟨RX9, "feed", "(I)I"⟩
abbrev cX9_here : ByteArray := prog_11_method_73_code
def yX9_here : MethodName := ⟨RX9, "here", "()I"⟩
abbrev cX9_word : ByteArray := prog_11_method_74_code
def yX9_word : MethodName := ⟨RX9, "word", "()I"⟩
abbrev cX9_takes : ByteArray := prog_11_method_75_code
def yX9_takes : MethodName := ⟨RX9, "takes", "(IZ)Z"⟩
abbrev cX9_does : ByteArray := prog_11_method_76_code
def yX9_does : MethodName := ⟨RX9, "does", "(I)I"⟩
abbrev cX9_takesOne : ByteArray := prog_11_method_77_code
def yX9_takesOne : MethodName := ⟨RX9, "takesOne", "()Z"⟩
abbrev cX9_takesAll : ByteArray := prog_11_method_78_code
def yX9_takesAll : MethodName := ⟨RX9, "takesAll", "()I"⟩
abbrev cX9_reads : ByteArray := prog_11_method_79_code
def yX9_reads : MethodName := ⟨RX9, "reads", "()I"⟩
abbrev cX9_sign : ByteArray := prog_11_method_80_code
def yX9_sign : MethodName := ⟨RX9, "sign", "(I)V"⟩
abbrev cX9_number : ByteArray := prog_11_method_81_code
def yX9_number : MethodName := ⟨RX9, "number", "(J)V"⟩
abbrev cX9_fraction : ByteArray := prog_11_method_82_code
def yX9_fraction : MethodName := ⟨RX9, "fraction", "(JJZ)V"⟩
abbrev cX9_prints : ByteArray := prog_11_method_83_code
def yX9_prints : MethodName := ⟨RX9, "prints", "()I"⟩
abbrev cX9_paper : ByteArray := prog_11_method_84_code
def yX9_paper : MethodName := ⟨RX9, "paper", "(I)I"⟩
abbrev cX9_isList : ByteArray := prog_11_method_85_code
def yX9_isList : MethodName := ⟨RX9, "isList", "(I)Z"⟩
abbrev cX9_list : ByteArray := prog_11_method_86_code
def yX9_list : MethodName := ⟨RX9, "list", "(II)I"⟩
abbrev cX9_set : ByteArray := prog_11_method_87_code
def yX9_set : MethodName := ⟨RX9, "set", "(IIJ)I"⟩
abbrev cX9_get : ByteArray := prog_11_method_88_code
def yX9_get : MethodName := ⟨RX9, "get", "(II)J"⟩
abbrev cX9_into : ByteArray := prog_11_method_89_code
def yX9_into : MethodName := ⟨RX9, "into", "(II)I"⟩
abbrev cX9_judge : ByteArray := prog_11_method_90_code
def yX9_judge : MethodName := ⟨RX9, "judge", "(II)I"⟩
abbrev cX9_undo : ByteArray := prog_11_method_91_code
def yX9_undo : MethodName := ⟨RX9, "undo", "()I"⟩
abbrev cX9_image : ByteArray := prog_11_method_92_code
def yX9_image : MethodName := ⟨RX9, "image", "()I"⟩
abbrev cX9_back : ByteArray := prog_11_method_93_code
def yX9_back : MethodName := ⟨RX9, "back", "()I"⟩
def RJx145de : String := "java/io/Serializable"
def TJx145de : u_T := fun k => match k with
  | _ => ("", "", "", false)
def tyJx145de : Nat → FieldType := fun k => match k with
  | _ => .int
abbrev wsJx145de0 : List Cond := u_ws RJx145de TJx145de 0
theorem nmJx145de : ∀ a, a < 0 → ∀ b, b < 0 → a ≠ b → (TJx145de a).2.1 ≠ (TJx145de b).2.1 := by decide +kernel
theorem tyJx145de_ok : ∀ k, k < 0 → parseFieldDescriptor (TJx145de k).2.2.1 = some (tyJx145de k) := by decide +kernel
def RJx9f9b0 : String := "java/lang/CharSequence"
def TJx9f9b0 : u_T := fun k => match k with
  | _ => ("", "", "", false)
def tyJx9f9b0 : Nat → FieldType := fun k => match k with
  | _ => .int
abbrev wsJx9f9b00 : List Cond := u_ws RJx9f9b0 TJx9f9b0 0
theorem nmJx9f9b0 : ∀ a, a < 0 → ∀ b, b < 0 → a ≠ b → (TJx9f9b0 a).2.1 ≠ (TJx9f9b0 b).2.1 := by decide +kernel
theorem tyJx9f9b0_ok : ∀ k, k < 0 → parseFieldDescriptor (TJx9f9b0 k).2.2.1 = some (tyJx9f9b0 k) := by decide +kernel
def RJxb160c : String := "java/lang/Comparable"
def TJxb160c : u_T := fun k => match k with
  | _ => ("", "", "", false)
def tyJxb160c : Nat → FieldType := fun k => match k with
  | _ => .int
abbrev wsJxb160c0 : List Cond := u_ws RJxb160c TJxb160c 0
theorem nmJxb160c : ∀ a, a < 0 → ∀ b, b < 0 → a ≠ b → (TJxb160c a).2.1 ≠ (TJxb160c b).2.1 := by decide +kernel
theorem tyJxb160c_ok : ∀ k, k < 0 → parseFieldDescriptor (TJxb160c k).2.2.1 = some (tyJxb160c k) := by decide +kernel
def RJ13 : String := "java/lang/Long"
def TJ13 : u_T := fun k => match k with
  | _ => ("", "", "", false)
def tyJ13 : Nat → FieldType := fun k => match k with
  | _ => .int
abbrev wsJ130 : List Cond := u_ws RJ13 TJ13 0
theorem nmJ13 : ∀ a, a < 0 → ∀ b, b < 0 → a ≠ b → (TJ13 a).2.1 ≠ (TJ13 b).2.1 := by decide +kernel
theorem tyJ13_ok : ∀ k, k < 0 → parseFieldDescriptor (TJ13 k).2.2.1 = some (tyJ13 k) := by decide +kernel
abbrev cJ13_compare_74951 : ByteArray := prog_12_method_42_code
def yJ13_compare_74951 : MethodName := ⟨RJ13, "compare", "(JJ)I"⟩
def RJ9 : String := "java/lang/Math"
def TJ9 : u_T := fun k => match k with
  | _ => ("", "", "", false)
def tyJ9 : Nat → FieldType := fun k => match k with
  | _ => .int
abbrev wsJ90 : List Cond := u_ws RJ9 TJ9 0
theorem nmJ9 : ∀ a, a < 0 → ∀ b, b < 0 → a ≠ b → (TJ9 a).2.1 ≠ (TJ9 b).2.1 := by decide +kernel
theorem tyJ9_ok : ∀ k, k < 0 → parseFieldDescriptor (TJ9 k).2.2.1 = some (tyJ9 k) := by decide +kernel
abbrev cJ9_floorDiv_f86c9 : ByteArray := prog_13_method_49_code
def yJ9_floorDiv_f86c9 : MethodName := ⟨RJ9, "floorDiv", "(JJ)J"⟩
abbrev cJ9_abs_067f4 : ByteArray := prog_13_method_61_code
def yJ9_abs_067f4 : MethodName := ⟨RJ9, "abs", "(J)J"⟩
abbrev cJ9_max_7cf53 : ByteArray := prog_13_method_65_code
def yJ9_max_7cf53 : MethodName := ⟨RJ9, "max", "(II)I"⟩
abbrev cJ9_max_f86c9 : ByteArray := prog_13_method_66_code
def yJ9_max_f86c9 : MethodName := ⟨RJ9, "max", "(JJ)J"⟩
abbrev cJ9_min_7cf53 : ByteArray := prog_13_method_69_code
def yJ9_min_7cf53 : MethodName := ⟨RJ9, "min", "(II)I"⟩
abbrev cJ9_min_f86c9 : ByteArray := prog_13_method_70_code
def yJ9_min_f86c9 : MethodName := ⟨RJ9, "min", "(JJ)J"⟩
def RJ0 : String := "java/lang/String"
def TJ0 : u_T := fun k => match k with
  | _ => ("", "", "", false)
def tyJ0 : Nat → FieldType := fun k => match k with
  | _ => .int
abbrev wsJ00 : List Cond := u_ws RJ0 TJ0 0
theorem nmJ0 : ∀ a, a < 0 → ∀ b, b < 0 → a ≠ b → (TJ0 a).2.1 ≠ (TJ0 b).2.1 := by decide +kernel
theorem tyJ0_ok : ∀ k, k < 0 → parseFieldDescriptor (TJ0 k).2.2.1 = some (tyJ0 k) := by decide +kernel
abbrev cJ0_length_8abf5 : ByteArray := prog_14_method_54_code
def yJ0_length_8abf5 : MethodName := ⟨RJ0, "length", "()I"⟩
abbrev cJ0_charAt_5068e : ByteArray := prog_14_method_56_code
def yJ0_charAt_5068e : MethodName := ⟨RJ0, "charAt", "(I)C"⟩
abbrev cJ0_coder_7d493 : ByteArray := prog_14_method_152_code
def yJ0_coder_7d493 : MethodName := ⟨RJ0, "coder", "()B"⟩
abbrev cJ0_isLatin1_aae02 : ByteArray := prog_14_method_154_code
def yJ0_isLatin1_aae02 : MethodName := ⟨RJ0, "isLatin1", "()Z"⟩
abbrev cJ0_checkIndex_df160 : ByteArray := prog_14_method_155_code
def yJ0_checkIndex_df160 : MethodName := ⟨RJ0, "checkIndex", "(II)V"⟩
def RJ1 : String := "java/lang/StringLatin1"
def TJ1 : u_T := fun k => match k with
  | _ => ("", "", "", false)
def tyJ1 : Nat → FieldType := fun k => match k with
  | _ => .int
abbrev wsJ10 : List Cond := u_ws RJ1 TJ1 0
theorem nmJ1 : ∀ a, a < 0 → ∀ b, b < 0 → a ≠ b → (TJ1 a).2.1 ≠ (TJ1 b).2.1 := by decide +kernel
theorem tyJ1_ok : ∀ k, k < 0 → parseFieldDescriptor (TJ1 k).2.2.1 = some (tyJ1 k) := by decide +kernel
abbrev cJ1_charAt_3b067 : ByteArray := prog_15_method_2_code
def yJ1_charAt_3b067 : MethodName := ⟨RJ1, "charAt", "([BI)C"⟩
def RJ2 : String := "java/lang/StringUTF16"
def TJ2 : u_T := fun k => match k with
  | _ => ("", "", "", false)
def tyJ2 : Nat → FieldType := fun k => match k with
  | _ => .int
abbrev wsJ20 : List Cond := u_ws RJ2 TJ2 0
theorem nmJ2 : ∀ a, a < 0 → ∀ b, b < 0 → a ≠ b → (TJ2 a).2.1 ≠ (TJ2 b).2.1 := by decide +kernel
theorem tyJ2_ok : ∀ k, k < 0 → parseFieldDescriptor (TJ2 k).2.2.1 = some (tyJ2 k) := by decide +kernel
abbrev cJ2_getChar_3b067 : ByteArray := prog_16_method_5_code
def yJ2_getChar_3b067 : MethodName := ⟨RJ2, "getChar", "([BI)C"⟩
abbrev cJ2_length_9d52b : ByteArray := prog_16_method_6_code
def yJ2_length_9d52b : MethodName := ⟨RJ2, "length", "([B)I"⟩
abbrev cJ2_charAt_3b067 : ByteArray := prog_16_method_83_code
def yJ2_charAt_3b067 : MethodName := ⟨RJ2, "charAt", "([BI)C"⟩
abbrev cJ2_checkIndex_2214a : ByteArray := prog_16_method_91_code
def yJ2_checkIndex_2214a : MethodName := ⟨RJ2, "checkIndex", "(I[B)V"⟩
def RJ10 : String := "java/lang/System"
def TJ10 : u_T := fun k => match k with
  | _ => ("", "", "", false)
def tyJ10 : Nat → FieldType := fun k => match k with
  | _ => .int
abbrev wsJ100 : List Cond := u_ws RJ10 TJ10 0
theorem nmJ10 : ∀ a, a < 0 → ∀ b, b < 0 → a ≠ b → (TJ10 a).2.1 ≠ (TJ10 b).2.1 := by decide +kernel
theorem tyJ10_ok : ∀ k, k < 0 → parseFieldDescriptor (TJ10 k).2.2.1 = some (tyJ10 k) := by decide +kernel
def RJxfd54e : String := "java/lang/constant/Constable"
def TJxfd54e : u_T := fun k => match k with
  | _ => ("", "", "", false)
def tyJxfd54e : Nat → FieldType := fun k => match k with
  | _ => .int
abbrev wsJxfd54e0 : List Cond := u_ws RJxfd54e TJxfd54e 0
theorem nmJxfd54e : ∀ a, a < 0 → ∀ b, b < 0 → a ≠ b → (TJxfd54e a).2.1 ≠ (TJxfd54e b).2.1 := by decide +kernel
theorem tyJxfd54e_ok : ∀ k, k < 0 → parseFieldDescriptor (TJxfd54e k).2.2.1 = some (tyJxfd54e k) := by decide +kernel
def RJx3cf43 : String := "java/lang/constant/ConstantDesc"
def TJx3cf43 : u_T := fun k => match k with
  | _ => ("", "", "", false)
def tyJx3cf43 : Nat → FieldType := fun k => match k with
  | _ => .int
abbrev wsJx3cf430 : List Cond := u_ws RJx3cf43 TJx3cf43 0
theorem nmJx3cf43 : ∀ a, a < 0 → ∀ b, b < 0 → a ≠ b → (TJx3cf43 a).2.1 ≠ (TJx3cf43 b).2.1 := by decide +kernel
theorem tyJx3cf43_ok : ∀ k, k < 0 → parseFieldDescriptor (TJx3cf43 k).2.2.1 = some (tyJx3cf43 k) := by decide +kernel
def RJ7 : String := "java/util/Arrays"
def TJ7 : u_T := fun k => match k with
  | _ => ("", "", "", false)
def tyJ7 : Nat → FieldType := fun k => match k with
  | _ => .int
abbrev wsJ70 : List Cond := u_ws RJ7 TJ7 0
theorem nmJ7 : ∀ a, a < 0 → ∀ b, b < 0 → a ≠ b → (TJ7 a).2.1 ≠ (TJ7 b).2.1 := by decide +kernel
theorem tyJ7_ok : ∀ k, k < 0 → parseFieldDescriptor (TJ7 k).2.2.1 = some (tyJ7 k) := by decide +kernel
abbrev cJ7_fill_d0a16 : ByteArray := prog_18_method_101_code
def yJ7_fill_d0a16 : MethodName := ⟨RJ7, "fill", "([JJ)V"⟩
abbrev cJ7_fill_53178 : ByteArray := prog_18_method_103_code
def yJ7_fill_53178 : MethodName := ⟨RJ7, "fill", "([II)V"⟩
def RJ3 : String := "jdk/internal/util/Preconditions"
def TJ3 : u_T := fun k => match k with
  | _ => ("", "", "", false)
def tyJ3 : Nat → FieldType := fun k => match k with
  | _ => .int
abbrev wsJ30 : List Cond := u_ws RJ3 TJ3 0
theorem nmJ3 : ∀ a, a < 0 → ∀ b, b < 0 → a ≠ b → (TJ3 a).2.1 ≠ (TJ3 b).2.1 := by decide +kernel
theorem tyJ3_ok : ∀ k, k < 0 → parseFieldDescriptor (TJ3 k).2.2.1 = some (tyJ3 k) := by decide +kernel
abbrev cJ3_checkIndex_8e157 : ByteArray := prog_19_method_11_code
def yJ3_checkIndex_8e157 : MethodName := ⟨RJ3, "checkIndex", "(IILjava/util/function/BiFunction;)I"⟩
def RL : String := "BeamPiecesLaw"
abbrev cL_law : ByteArray := code
def yL_law : MethodName := ⟨RL, "law", "([I)Z"⟩
abbrev vwCl : List vw_C := [(RX0, TX0, 12), (RX1, TX1, 3), (RX2, TX2, 2), (RX3, TX3, 3), (RX4, TX4, 4), (RX5, TX5, 6), (RX6, TX6, 2), (RX7, TX7, 18), (RX8, TX8, 10), (RX9, TX9, 35)]
end
section
/-! J: bytecode of the claim over one memory of whole numbers. Values are whole numbers (Int), told to the machine by Int32.ofInt, Int64.ofInt. -/
def s32 (a : Int) : Int := Int.bmod a 4294967296
def s64 (a : Int) : Int := Int.bmod a 18446744073709551616
def s8 (a : Int) : Int := Int.bmod a 256
def vI (a : Int) : Value := .int (Int32.ofInt a)
def vL (a : Int) : Value := .long (Int64.ofInt a)
def vR (base c : Nat) : Value := .ref (base + c)
abbrev Mem : Type := Nat → Int → Int
def mset (m : Mem) (c : Nat) (i v : Int) : Mem := fun c' i' => if c' = c ∧ i' = i then v else m c' i'
theorem s32_toInt (a : Int) : (Int32.ofInt a).toInt = s32 a := by simp [s32, Int32.size]
theorem s64_toInt (a : Int) : (Int64.ofInt a).toInt = s64 a := by simp [s64, Int64.size]
theorem i32_of (x : Int32) : Int32.ofInt x.toInt = x := Int32.ofInt_toInt x
theorem i64_of (x : Int64) : Int64.ofInt x.toInt = x := Int64.ofInt_toInt x
theorem i32_lt (a b : Int) : Int32.ofInt a < Int32.ofInt b ↔ s32 a < s32 b := by rw [Int32.lt_iff_toInt_lt, s32_toInt, s32_toInt]
theorem i32_le (a b : Int) : Int32.ofInt a ≤ Int32.ofInt b ↔ s32 a ≤ s32 b := by rw [Int32.le_iff_toInt_le, s32_toInt, s32_toInt]
theorem i32_eq (a b : Int) : Int32.ofInt a = Int32.ofInt b ↔ s32 a = s32 b := by rw [← Int32.toInt_inj, s32_toInt, s32_toInt]
theorem i64_lt (a b : Int) : Int64.ofInt a < Int64.ofInt b ↔ s64 a < s64 b := by rw [Int64.lt_iff_toInt_lt, s64_toInt, s64_toInt]
theorem i64_le (a b : Int) : Int64.ofInt a ≤ Int64.ofInt b ↔ s64 a ≤ s64 b := by rw [Int64.le_iff_toInt_le, s64_toInt, s64_toInt]
theorem i64_eq (a b : Int) : Int64.ofInt a = Int64.ofInt b ↔ s64 a = s64 b := by rw [← Int64.toInt_inj, s64_toInt, s64_toInt]
theorem i32_0 : (0 : Int32) = Int32.ofInt 0 := by decide +kernel
theorem s32_0 : s32 0 = 0 := by decide +kernel
theorem i32_lt0 (a : Int) : Int32.ofInt a < 0 ↔ s32 a < 0 := by rw [i32_0, i32_lt, s32_0]
theorem i32_0le (a : Int) : 0 ≤ Int32.ofInt a ↔ 0 ≤ s32 a := by rw [i32_0, i32_le, s32_0]
theorem i32_le0 (a : Int) : Int32.ofInt a ≤ 0 ↔ s32 a ≤ 0 := by rw [i32_0, i32_le, s32_0]
theorem i32_0lt (a : Int) : 0 < Int32.ofInt a ↔ 0 < s32 a := by rw [i32_0, i32_lt, s32_0]
theorem i32_eq0 (a : Int) : Int32.ofInt a = 0 ↔ s32 a = 0 := by rw [i32_0, i32_eq, s32_0]
theorem s64_0 : s64 0 = 0 := by decide +kernel
theorem i64_eq0 (a : Int) : Int64.ofInt a = 0 ↔ s64 a = 0 := by rw [show (0 : Int64) = Int64.ofInt 0 by decide +kernel, i64_eq, s64_0]
theorem i32_clamp (a : Int) : (Int32.ofInt a).toNatClampNeg = (s32 a).toNat := by rw [← s32_toInt]; rfl
theorem i32_i2l (a : Int) : (Int32.ofInt a).toInt64 = Int64.ofInt (s32 a) := by
  rw [← s32_toInt, ← Int64.toInt_inj, Int32.toInt_toInt64, Int64.toInt_ofInt]
  have h1 := Int32.le_toInt (Int32.ofInt a)
  have h2 := Int32.toInt_lt (Int32.ofInt a)
  rw [Int.bmod_eq_of_le] <;> simp only [Int64.size] <;> omega
theorem i32_div (a b : Int) : Int32.ofInt a / Int32.ofInt b = Int32.ofInt ((s32 a).tdiv (s32 b)) := by
  rw [← Int32.toInt_inj, Int32.toInt_div, s32_toInt, s32_toInt, s32_toInt]
  rfl
theorem i32_s (a : Int) : Int32.ofInt (s32 a) = Int32.ofInt a := by rw [← s32_toInt]; exact Int32.ofInt_toInt _
theorem i32_rem (a b : Int) : Int32.ofInt a - Int32.ofInt a / Int32.ofInt b * Int32.ofInt b = Int32.ofInt ((s32 a).tmod (s32 b)) := by
  rw [i32_div, ← i32_s a, ← i32_s b, ← Int32.ofInt_mul, ← Int32.ofInt_sub, Int.tmod_def, Int.mul_comm (s32 b)]
theorem i64_div (a b : Int) : Int64.ofInt a / Int64.ofInt b = Int64.ofInt ((s64 a).tdiv (s64 b)) := by
  rw [← Int64.toInt_inj, Int64.toInt_div, s64_toInt, s64_toInt, s64_toInt]
  rfl
theorem i64_s (a : Int) : Int64.ofInt (s64 a) = Int64.ofInt a := by rw [← s64_toInt]; exact Int64.ofInt_toInt _
theorem i64_rem (a b : Int) : Int64.ofInt a - Int64.ofInt a / Int64.ofInt b * Int64.ofInt b = Int64.ofInt ((s64 a).tmod (s64 b)) := by
  rw [i64_div, ← i64_s a, ← i64_s b, ← Int64.ofInt_mul, ← Int64.ofInt_sub, Int.tmod_def, Int.mul_comm (s64 b)]
theorem i32_i2b (a : Int) : (Int32.ofInt a).toInt8.toInt32 = Int32.ofInt (s8 a) := by
  rw [Int32.toInt8_ofInt, ← Int32.toInt_inj, Int8.toInt_toInt32, Int8.toInt_ofInt, Int32.toInt_ofInt]
  have h1 := Int.bmod_lt (x := a) (m := 256) (by decide)
  have h2 := Int.le_bmod (x := a) (m := 256) (by decide)
  show Int.bmod a 256 = Int.bmod (s8 a) _
  unfold s8
  rw [Int.bmod_eq_of_le (n := Int.bmod a 256)] <;> simp only [Int32.size] <;> omega
/-! combinators of the told programs -/
def ck {α : Type} (i : Int) (n : Nat) (k : Option α) : Option α := if 0 ≤ s32 i ∧ s32 i < (n : Int) then k else none
def dv {α : Type} (b : Int) (k : Option α) : Option α := if b = 0 then none else k
def lt {α β : Type} (e : α) (k : α → Option β) : Option β := k e
def jn {γ α : Type} (b : γ) (f : γ → Option α) : Option α := f b

/-! the cells: their kinds and lengths, in the order in which the constructors make them -/
def jKinds : List Nat := [8, 0, 20, 20, 20, 20, 20, 20, 20, 20, 1, 24, 0, 20, 20, 20, 20, 20, 20, 20, 20, 0, 20, 20, 20, 20, 20, 20, 20, 20, 0, 20, 20, 20, 20, 20, 20, 20, 20, 0, 20, 20, 20, 20, 20, 20, 20, 20, 0, 20, 20, 20, 20, 20, 20, 20, 20, 0, 20, 20, 20, 20, 20, 20, 20, 20, 0, 20, 20, 20, 20, 20, 20, 20, 20, 0, 20, 20, 20, 20, 20, 20, 20, 20, 0, 20, 20, 20, 20, 20, 20, 20, 20, 0, 20, 20, 20, 20, 20, 20, 20, 20, 0, 20, 20, 20, 20, 20, 20, 20, 20, 7, 20, 20, 21, 21, 21, 21, 21, 21, 4, 2, 2, 4, 2, 2, 21, 2, 2, 2, 2, 5, 0, 20, 20, 20, 20, 20, 20, 20, 20, 22, 20, 3, 22, 22, 6, 20, 21, 9, 20, 20, 20, 21, 21, 21, 21, 21, 21, 21, 20, 20, 23, 20, 20, 20, 20, 20, 21, 20]
def jLens : List Nat := [0, 0, 4, 4, 6, 6, 6, 6, 3, 3, 0, 10, 0, 4, 4, 6, 6, 6, 6, 3, 3, 0, 4, 4, 6, 6, 6, 6, 3, 3, 0, 4, 4, 6, 6, 6, 6, 3, 3, 0, 4, 4, 6, 6, 6, 6, 3, 3, 0, 4, 4, 6, 6, 6, 6, 3, 3, 0, 4, 4, 6, 6, 6, 6, 3, 3, 0, 4, 4, 6, 6, 6, 6, 3, 3, 0, 4, 4, 6, 6, 6, 6, 3, 3, 0, 4, 4, 6, 6, 6, 6, 3, 3, 0, 4, 4, 6, 6, 6, 6, 3, 3, 0, 4, 4, 6, 6, 6, 6, 3, 3, 0, 4, 4, 11, 11, 4, 11, 11, 11, 0, 0, 0, 0, 0, 0, 4, 0, 0, 0, 0, 0, 0, 4, 4, 6, 6, 6, 6, 3, 3, 120, 3, 0, 1000, 20, 0, 3, 72, 0, 36, 36, 360, 4, 4, 2, 2, 4, 4, 11, 36, 120, 31, 7, 6, 3, 360, 1000, 72, 3]
def kd (c : Nat) : Nat := jKinds.getD c 99
def ln (c : Nat) : Nat := jLens.getD c 0
abbrev jN : Nat := 170
/-- a field by class and number: 0 int, 1 long, 2 a reference; and how far behind the object its cell is -/
def jFields : List (List (Nat × Nat)) := [[(0, 0), (0, 0), (2, 1), (2, 2), (0, 0), (2, 3), (2, 4), (2, 5), (2, 6), (0, 0), (2, 7), (2, 8)],
  [(0, 0), (0, 0), (2, 1)],
  [(1, 0), (1, 0)],
  [(0, 0), (2, 1), (2, 2)],
  [(2, 1), (2, 2), (0, 0), (0, 0)],
  [(0, 0), (2, 1), (2, 10), (0, 0), (0, 0), (2, 11)],
  [(2, 1), (2, 2)],
  [(0, 0), (0, 0), (2, 1), (2, 2), (2, 3), (2, 4), (1, 0), (2, 5), (2, 6), (2, 7), (1, 0), (2, 8), (2, 9), (2, 12), (1, 0), (2, 15), (2, 16), (2, 17)],
  [(2, 1), (2, 10), (2, 102), (0, 0), (2, 111), (2, 129), (2, 130), (2, 131), (2, 143), (2, 146)],
  [(2, 1), (2, 2), (0, 0), (2, 3), (0, 0), (1, 0), (1, 0), (2, 4), (2, 5), (2, 6), (2, 7), (2, 8), (2, 9), (1, 0), (2, 10), (1, 0), (1, 0), (1, 0), (1, 0), (1, 0), (1, 0), (2, 11), (2, 12), (0, 0), (2, 13), (2, 14), (2, 15), (2, 16), (0, 0), (0, 0), (2, 17), (2, 18), (0, 0), (2, 19), (2, 20)]]
def fld (ci k : Nat) : Nat × Nat := (jFields.getD ci []).getD k (0, 0)
def fv (base : Nat) (mem : Mem) (c : Nat) (k : Nat) (q : Nat × Nat) : Value := if q.1 = 0 then vI (mem c k) else if q.1 = 1 then vL (mem c k) else vR base (c + q.2)
/-- the array classes of the run: bytes, chars, ints, longs, beams -/
abbrev jCy : Type := ClassId × ClassId × ClassId × ClassId × ClassId
def cellE (cy : jCy) (base : Nat) (mem : Mem) (c : Nat) : va_E :=
  if kd c < 10 then .inr (kd c, (jFields.getD (kd c) []).mapIdx (fv base mem c))
  else if kd c = 20 then .inl (cy.2.2.1, ln c, .inl (fun i => Int32.ofInt (mem c i)))
  else if kd c = 21 then .inl (cy.2.2.2.1, ln c, .inr (.inl (fun i => Int64.ofInt (mem c i))))
  else if kd c = 22 then .inl (cy.1, ln c, .inl (fun i => Int32.ofInt (mem c i)))
  else if kd c = 23 then .inl (cy.2.1, ln c, .inl (fun i => Int32.ofInt (mem c i)))
  else .inl (cy.2.2.2.2, ln c, .inr (.inr (.inr (.inr (fun i => some (base + (c + 1 + 9 * i)))))))
def vws (cy : jCy) (base : Nat) (mem : Mem) : va_W := (List.range jN).map (fun c => (base + c, cellE cy base mem c))
def jtys (cy : jCy) : List (ClassId × FieldType) := [(cy.1, .byte), (cy.2.1, .char), (cy.2.2.1, .int), (cy.2.2.2.1, .long), (cy.2.2.2.2, .object "BeamPieces$Beam")]
def jA (base : Nat) : Nat → Prop := fun q => base ≤ q
theorem vws_at (cy : jCy) (base : Nat) (mem : Mem) {c : Nat} (h : c < jN) : (vws cy base mem)[c]? = some (base + c, cellE cy base mem c) := by
  unfold vws
  rw [List.getElem?_map, List.getElem?_range h]
  rfl
theorem vws_lt {cy : jCy} {base : Nat} {mem : Mem} {c : Nat} {q : Nat × va_E} (h : (vws cy base mem)[c]? = some q) : c < jN ∧ q = (base + c, cellE cy base mem c) := by
  have h1 : c < (vws cy base mem).length := (List.getElem?_eq_some_iff.mp h).1
  have h2 : c < jN := by simpa [vws] using h1
  rw [vws_at cy base mem h2] at h
  exact ⟨h2, (Option.some.inj h).symm⟩
theorem vws_D (cy : jCy) (base : Nat) (mem : Mem) : va_D (jA base) (vws cy base mem) := by
  refine ⟨fun i j p q hi hj h => ?_, fun k q hk => ?_⟩
  · obtain ⟨-, e1⟩ := vws_lt hi
    obtain ⟨-, e2⟩ := vws_lt hj
    rw [e1, e2] at h
    have : base + i = base + j := h
    omega
  · obtain ⟨-, e1⟩ := vws_lt hk
    rw [e1]
    exact Nat.le_add_right _ _
theorem vws_set {cy : jCy} {base : Nat} {mem mem' : Mem} {c : Nat} (hc : c < jN) (h : ∀ c', c' ≠ c → cellE cy base mem' c' = cellE cy base mem c') : (vws cy base mem).set c (base + c, cellE cy base mem' c) = vws cy base mem' := by
  apply List.ext_getElem?
  intro k
  by_cases hk : k = c
  · subst hk
    rw [List.getElem?_set_self (by simpa [vws] using hc), vws_at _ _ _ hc]
  · rw [List.getElem?_set_ne (Ne.symm hk)]
    by_cases hl : k < jN
    · rw [vws_at _ _ _ hl, vws_at _ _ _ hl, h k hk]
    · rw [List.getElem?_eq_none (by simpa [vws] using Nat.le_of_not_lt hl), List.getElem?_eq_none (by simpa [vws] using Nat.le_of_not_lt hl)]
theorem kd_lt {c k : Nat} (h : kd c = k) (hk : k ≠ 99) : c < jN := by
  by_cases hc : c < jN
  · exact hc
  · exfalso
    have h1 : jKinds.length ≤ c := Nat.le_trans (by decide +kernel) (Nat.le_of_not_lt hc)
    have h2 : kd c = 99 := by
      unfold kd
      rw [List.getD_eq_getElem?_getD, List.getElem?_eq_none h1]
      rfl
    exact hk (h.symm.trans h2)
theorem mset_self (m : Mem) (c : Nat) (i v : Int) : mset m c i v c i = v := by simp [mset]
theorem mset_ne (m : Mem) (c : Nat) (i v : Int) {c' : Nat} (h : c' ≠ c) : mset m c i v c' = m c' := by funext i'; simp [mset, h]
theorem cellE_congr {cy : jCy} {base : Nat} {mem mem' : Mem} {c : Nat} (h : mem' c = mem c) : cellE cy base mem' c = cellE cy base mem c := by
  unfold cellE fv
  rw [h]
/-! the machine's side: what a frame knows -/
def jNest (U : State) : Prop := va_Nw (.methodLinkNest RX0 63 yX8_isV RX8) U ∧ va_Nw (.methodLinkNest RX7 153 yX8_divide RX8) U ∧ va_Nw (.methodLinkNest RX2 15 yX8_commonDivisor RX8) U ∧ va_Nw (.methodLinkNest RX2 21 yX8_divide RX8) U ∧ va_Nw (.methodLinkNest RX6 25 yX8_isList RX8) U
def jNums : Nat → Value := fun j => .int (([1, 1, 1, 2, 3, 2] : List Int32).getD j 0)
def jTx : List String := ["beam", "support", "hinge", "point", "spread", "axle"]
def jTk : List Nat := [92, 94, 96, 98, 100, 102]
def jTl : List Nat := [4, 7, 5, 5, 6, 4]
def jTb : List (List Int32) := [[98, 101, 97, 109], [115, 117, 112, 112, 111, 114, 116], [104, 105, 110, 103, 101], [112, 111, 105, 110, 116], [115, 112, 114, 101, 97, 100], [97, 120, 108, 101]]
/-- what stands outside of the cells and is read: the numbers' row, the words -/
def jStat (base : Nat) (adK adV : Nat → Nat) (tN : Nat) (U : State) : Prop :=
  va_Z RX5 "NUMBERS" "[I" (.ref tN) (jA base) U U.heap ∧ va_T .int tN 6 jNums (jA base) U U.heap ∧
  vk_S 6 jTl jTb adK adV (jA base) U U.heap ∧ (∀ i, i < 6 → vk_R RX5 (jTk.getD i 0) (jTx.getD i "") (adK i) U) ∧
  va_Z "java/lang/String" "COMPACT_STRINGS" "Z" (.int 1) (jA base) U U.heap ∧ va_Zq "jdk/internal/util/Preconditions" "SIOOBE_FORMATTER" "Ljava/util/function/BiFunction;" (jA base) U U.heap
/-- the run's fixed things: launch, classes, array classes, where the cells begin, where the words and the row are -/
abbrev jU : Type := Launch × va_G × jCy × Nat × (Nat → Nat) × (Nat → Nat) × Nat
def jEnv (u : jU) (U : State) : Prop := jNest U ∧ jStat u.2.2.2.1 u.2.2.2.2.1 u.2.2.2.2.2.1 u.2.2.2.2.2.2 U
abbrev uB (u : jU) : Nat := u.2.2.2.1
def jPic (u : jU) (mem : Mem) (U : State) : Prop := va_P u.2.1 vwCl (vws u.2.2.1 (uB u) mem) U.heap ∧ va_K u.2.1 vwCl (jtys u.2.2.1) U ∧ jEnv u U
def jTW : List Cond := lw_tbl.filter goodWord
/-- a frame's context -/
abbrev jX : Type := Program × Env × Room × State × MethodId × Array Value × List Frame × Method × Code × Nat × Nat
def jG (u : jU) (x : jX) (cc : ByteArray) (own : String) (nL : Nat) (ret : Option FieldType) (rm : Room) : Prop := match x with
  | (p, _, R, s, m, args, _, meth, c, cells, slots) => p.tables.exec = Jvm.exec ∧ c.code = cc ∧ c.maxLocals = nL ∧ s.vm.findClass own = some m.cls ∧ (∀ w ∈ jTW, w.before args s = true) ∧ va_K u.2.1 vwCl (jtys u.2.2.1) s ∧ jEnv u s ∧ meth.locks = false ∧ meth.sig.returnType = ret ∧ cells ≤ R.cells ∧ slots ≤ R.slots ∧ R = rm
def J {α : Type} (u : jU) (x : jX) (nL : Nat) (Qf : α → State → Prop) (pc : Nat) (lv : List (Nat × Value)) (st : List Value) (mem : Mem) (o : Option α) : Prop := match x with
  | (p, e, R, s, m, args, below, meth, c, cells, slots) => ∀ a, o = some a → ∀ (H : Heap) (locs : List Loc) (ls : Array Slot), va_P u.2.1 vwCl (vws u.2.2.1 (uB u) mem) H → va_S (jA (uB u)) s.heap H locs → lv_has ls nL lv → W p u.1 e R s m args below meth c H locs cells slots (Qf a) (F0 m pc ls st)
section JR
variable {α : Type} {u : jU} {x : jX} {cc : ByteArray} {own : String} {nL : Nat} {ret : Option FieldType} {rm : Room} {Qf : α → State → Prop} {pc : Nat} {lv : List (Nat × Value)} {st : List Value} {mem : Mem} {o o' : Option α} {a b : Int} {k : Nat}
theorem J_none : J u x nL Qf pc lv st mem (none : Option α) := by
  obtain ⟨p, e, R, s, m, args, below, meth, c, cells, slots⟩ := x
  intro r hr
  cases hr
theorem J_iadd (G : jG u x cc own nL ret rm) (hd : decode cc pc = .ok (.iadd, 1)) (k : J u x nL Qf (pc + 1) lv (vI (a + b) :: st) mem o) : J u x nL Qf pc lv (vI b :: vI a :: st) mem o := by
  obtain ⟨p, e, R, s, m, args, below, meth, c, cells, slots⟩ := x
  intro r hr H locs ls hP hS hl
  have k := k r hr H locs ls hP hS hl
  rw [vI, Int32.ofInt_add] at k
  exact lv_iadd G.1 G.2.1 hd k
theorem J_ladd (G : jG u x cc own nL ret rm) (hd : decode cc pc = .ok (.ladd, 1)) (k : J u x nL Qf (pc + 1) lv (vL (a + b) :: st) mem o) : J u x nL Qf pc lv (vL b :: vL a :: st) mem o := by
  obtain ⟨p, e, R, s, m, args, below, meth, c, cells, slots⟩ := x
  intro r hr H locs ls hP hS hl
  have k := k r hr H locs ls hP hS hl
  rw [vL, Int64.ofInt_add] at k
  exact lv_ladd G.1 G.2.1 hd k
theorem J_isub (G : jG u x cc own nL ret rm) (hd : decode cc pc = .ok (.isub, 1)) (k : J u x nL Qf (pc + 1) lv (vI (a - b) :: st) mem o) : J u x nL Qf pc lv (vI b :: vI a :: st) mem o := by
  obtain ⟨p, e, R, s, m, args, below, meth, c, cells, slots⟩ := x
  intro r hr H locs ls hP hS hl
  have k := k r hr H locs ls hP hS hl
  rw [vI, Int32.ofInt_sub] at k
  exact lv_isub G.1 G.2.1 hd k
theorem J_lsub (G : jG u x cc own nL ret rm) (hd : decode cc pc = .ok (.lsub, 1)) (k : J u x nL Qf (pc + 1) lv (vL (a - b) :: st) mem o) : J u x nL Qf pc lv (vL b :: vL a :: st) mem o := by
  obtain ⟨p, e, R, s, m, args, below, meth, c, cells, slots⟩ := x
  intro r hr H locs ls hP hS hl
  have k := k r hr H locs ls hP hS hl
  rw [vL, Int64.ofInt_sub] at k
  exact lv_lsub G.1 G.2.1 hd k
theorem J_imul (G : jG u x cc own nL ret rm) (hd : decode cc pc = .ok (.imul, 1)) (k : J u x nL Qf (pc + 1) lv (vI (a * b) :: st) mem o) : J u x nL Qf pc lv (vI b :: vI a :: st) mem o := by
  obtain ⟨p, e, R, s, m, args, below, meth, c, cells, slots⟩ := x
  intro r hr H locs ls hP hS hl
  have k := k r hr H locs ls hP hS hl
  rw [vI, Int32.ofInt_mul] at k
  exact lv_imul G.1 G.2.1 hd k
theorem J_lmul (G : jG u x cc own nL ret rm) (hd : decode cc pc = .ok (.lmul, 1)) (k : J u x nL Qf (pc + 1) lv (vL (a * b) :: st) mem o) : J u x nL Qf pc lv (vL b :: vL a :: st) mem o := by
  obtain ⟨p, e, R, s, m, args, below, meth, c, cells, slots⟩ := x
  intro r hr H locs ls hP hS hl
  have k := k r hr H locs ls hP hS hl
  rw [vL, Int64.ofInt_mul] at k
  exact lv_lmul G.1 G.2.1 hd k
theorem J_ineg (G : jG u x cc own nL ret rm) (hd : decode cc pc = .ok (.ineg, 1)) (k : J u x nL Qf (pc + 1) lv (vI (-a) :: st) mem o) : J u x nL Qf pc lv (vI a :: st) mem o := by
  obtain ⟨p, e, R, s, m, args, below, meth, c, cells, slots⟩ := x
  intro r hr H locs ls hP hS hl
  have k := k r hr H locs ls hP hS hl
  rw [vI, Int32.ofInt_neg] at k
  exact lv_ineg G.1 G.2.1 hd k
theorem J_lneg (G : jG u x cc own nL ret rm) (hd : decode cc pc = .ok (.lneg, 1)) (k : J u x nL Qf (pc + 1) lv (vL (-a) :: st) mem o) : J u x nL Qf pc lv (vL a :: st) mem o := by
  obtain ⟨p, e, R, s, m, args, below, meth, c, cells, slots⟩ := x
  intro r hr H locs ls hP hS hl
  have k := k r hr H locs ls hP hS hl
  rw [vL, Int64.ofInt_neg] at k
  exact lv_lneg G.1 G.2.1 hd k
theorem J_i2l (G : jG u x cc own nL ret rm) (hd : decode cc pc = .ok (.i2l, 1)) (k : J u x nL Qf (pc + 1) lv (vL (s32 a) :: st) mem o) : J u x nL Qf pc lv (vI a :: st) mem o := by
  obtain ⟨p, e, R, s, m, args, below, meth, c, cells, slots⟩ := x
  intro r hr H locs ls hP hS hl
  have k := k r hr H locs ls hP hS hl
  exact lv_i2l G.1 G.2.1 hd (i32_i2l a) k
theorem J_l2i (G : jG u x cc own nL ret rm) (hd : decode cc pc = .ok (.l2i, 1)) (k : J u x nL Qf (pc + 1) lv (vI a :: st) mem o) : J u x nL Qf pc lv (vL a :: st) mem o := by
  obtain ⟨p, e, R, s, m, args, below, meth, c, cells, slots⟩ := x
  intro r hr H locs ls hP hS hl
  have k := k r hr H locs ls hP hS hl
  exact lv_l2i G.1 G.2.1 hd Int64.toInt32_ofInt k
theorem J_i2b (G : jG u x cc own nL ret rm) (hd : decode cc pc = .ok (.i2b, 1)) (k : J u x nL Qf (pc + 1) lv (vI (s8 a) :: st) mem o) : J u x nL Qf pc lv (vI a :: st) mem o := by
  obtain ⟨p, e, R, s, m, args, below, meth, c, cells, slots⟩ := x
  intro r hr H locs ls hP hS hl
  have k := k r hr H locs ls hP hS hl
  exact lv_i2b G.1 G.2.1 hd (i32_i2b a) k
theorem J_idiv (G : jG u x cc own nL ret rm) (hd : decode cc pc = .ok (.idiv, 1)) (k : J u x nL Qf (pc + 1) lv (vI ((s32 a).tdiv (s32 b)) :: st) mem o) : J u x nL Qf pc lv (vI b :: vI a :: st) mem (dv (s32 b) o) := by
  obtain ⟨p, e, R, s, m, args, below, meth, c, cells, slots⟩ := x
  intro r hr H locs ls hP hS hl
  unfold dv at hr
  split at hr
  · cases hr
  · rename_i hz
    have k := k r hr H locs ls hP hS hl
    rw [vI, ← i32_div] at k
    exact lv_idiv G.1 G.2.1 hd (fun q => hz ((i32_eq0 b).mp q)) k
theorem J_idivC (G : jG u x cc own nL ret rm) (hd : decode cc pc = .ok (.idiv, 1)) (hz : ¬ s32 b = 0) (k : J u x nL Qf (pc + 1) lv (vI ((s32 a).tdiv (s32 b)) :: st) mem o) : J u x nL Qf pc lv (vI b :: vI a :: st) mem o := by
  obtain ⟨p, e, R, s, m, args, below, meth, c, cells, slots⟩ := x
  intro r hr H locs ls hP hS hl
  have k := k r hr H locs ls hP hS hl
  rw [vI, ← i32_div] at k
  exact lv_idiv G.1 G.2.1 hd (fun q => hz ((i32_eq0 b).mp q)) k
theorem J_irem (G : jG u x cc own nL ret rm) (hd : decode cc pc = .ok (.irem, 1)) (k : J u x nL Qf (pc + 1) lv (vI ((s32 a).tmod (s32 b)) :: st) mem o) : J u x nL Qf pc lv (vI b :: vI a :: st) mem (dv (s32 b) o) := by
  obtain ⟨p, e, R, s, m, args, below, meth, c, cells, slots⟩ := x
  intro r hr H locs ls hP hS hl
  unfold dv at hr
  split at hr
  · cases hr
  · rename_i hz
    have k := k r hr H locs ls hP hS hl
    rw [vI, ← i32_rem] at k
    exact lv_irem G.1 G.2.1 hd (fun q => hz ((i32_eq0 b).mp q)) k
theorem J_iremC (G : jG u x cc own nL ret rm) (hd : decode cc pc = .ok (.irem, 1)) (hz : ¬ s32 b = 0) (k : J u x nL Qf (pc + 1) lv (vI ((s32 a).tmod (s32 b)) :: st) mem o) : J u x nL Qf pc lv (vI b :: vI a :: st) mem o := by
  obtain ⟨p, e, R, s, m, args, below, meth, c, cells, slots⟩ := x
  intro r hr H locs ls hP hS hl
  have k := k r hr H locs ls hP hS hl
  rw [vI, ← i32_rem] at k
  exact lv_irem G.1 G.2.1 hd (fun q => hz ((i32_eq0 b).mp q)) k
theorem J_ldiv (G : jG u x cc own nL ret rm) (hd : decode cc pc = .ok (.ldiv, 1)) (k : J u x nL Qf (pc + 1) lv (vL ((s64 a).tdiv (s64 b)) :: st) mem o) : J u x nL Qf pc lv (vL b :: vL a :: st) mem (dv (s64 b) o) := by
  obtain ⟨p, e, R, s, m, args, below, meth, c, cells, slots⟩ := x
  intro r hr H locs ls hP hS hl
  unfold dv at hr
  split at hr
  · cases hr
  · rename_i hz
    have k := k r hr H locs ls hP hS hl
    rw [vL, ← i64_div] at k
    exact lv_ldiv G.1 G.2.1 hd (fun q => hz ((i64_eq0 b).mp q)) k
theorem J_ldivC (G : jG u x cc own nL ret rm) (hd : decode cc pc = .ok (.ldiv, 1)) (hz : ¬ s64 b = 0) (k : J u x nL Qf (pc + 1) lv (vL ((s64 a).tdiv (s64 b)) :: st) mem o) : J u x nL Qf pc lv (vL b :: vL a :: st) mem o := by
  obtain ⟨p, e, R, s, m, args, below, meth, c, cells, slots⟩ := x
  intro r hr H locs ls hP hS hl
  have k := k r hr H locs ls hP hS hl
  rw [vL, ← i64_div] at k
  exact lv_ldiv G.1 G.2.1 hd (fun q => hz ((i64_eq0 b).mp q)) k
theorem J_lrem (G : jG u x cc own nL ret rm) (hd : decode cc pc = .ok (.lrem, 1)) (k : J u x nL Qf (pc + 1) lv (vL ((s64 a).tmod (s64 b)) :: st) mem o) : J u x nL Qf pc lv (vL b :: vL a :: st) mem (dv (s64 b) o) := by
  obtain ⟨p, e, R, s, m, args, below, meth, c, cells, slots⟩ := x
  intro r hr H locs ls hP hS hl
  unfold dv at hr
  split at hr
  · cases hr
  · rename_i hz
    have k := k r hr H locs ls hP hS hl
    rw [vL, ← i64_rem] at k
    exact lv_lrem G.1 G.2.1 hd (fun q => hz ((i64_eq0 b).mp q)) k
theorem J_lremC (G : jG u x cc own nL ret rm) (hd : decode cc pc = .ok (.lrem, 1)) (hz : ¬ s64 b = 0) (k : J u x nL Qf (pc + 1) lv (vL ((s64 a).tmod (s64 b)) :: st) mem o) : J u x nL Qf pc lv (vL b :: vL a :: st) mem o := by
  obtain ⟨p, e, R, s, m, args, below, meth, c, cells, slots⟩ := x
  intro r hr H locs ls hP hS hl
  have k := k r hr H locs ls hP hS hl
  rw [vL, ← i64_rem] at k
  exact lv_lrem G.1 G.2.1 hd (fun q => hz ((i64_eq0 b).mp q)) k
theorem J_iload_n {q : Fin 4} (G : jG u x cc own nL ret rm) (i : Nat) (hd : decode cc pc = .ok (.iload_n q, 1)) (hl : lv[i]? = some ((q : Nat), vI a)) (k : J u x nL Qf (pc + 1) lv (vI a :: st) mem o) : J u x nL Qf pc lv st mem o := by
  obtain ⟨p, e, R, s, m, args, below, meth, c, cells, slots⟩ := x
  intro r hr H locs ls hP hS hh
  exact lv_iload_n G.1 G.2.1 hd rfl (lv_at hh i hl) (k r hr H locs ls hP hS hh)
theorem J_iload {q : Nat} (G : jG u x cc own nL ret rm) (i : Nat) (hd : decode cc pc = .ok (.iload q, 2)) (hl : lv[i]? = some (q, vI a)) (k : J u x nL Qf (pc + 2) lv (vI a :: st) mem o) : J u x nL Qf pc lv st mem o := by
  obtain ⟨p, e, R, s, m, args, below, meth, c, cells, slots⟩ := x
  intro r hr H locs ls hP hS hh
  exact lv_iload G.1 G.2.1 hd (lv_at hh i hl) (k r hr H locs ls hP hS hh)
theorem J_lload_n {q : Fin 4} (G : jG u x cc own nL ret rm) (i : Nat) (hd : decode cc pc = .ok (.lload_n q, 1)) (hl : lv[i]? = some ((q : Nat), vL a)) (k : J u x nL Qf (pc + 1) lv (vL a :: st) mem o) : J u x nL Qf pc lv st mem o := by
  obtain ⟨p, e, R, s, m, args, below, meth, c, cells, slots⟩ := x
  intro r hr H locs ls hP hS hh
  exact lv_lload_n G.1 G.2.1 hd rfl (lv_at hh i hl) (k r hr H locs ls hP hS hh)
theorem J_lload {q : Nat} (G : jG u x cc own nL ret rm) (i : Nat) (hd : decode cc pc = .ok (.lload q, 2)) (hl : lv[i]? = some (q, vL a)) (k : J u x nL Qf (pc + 2) lv (vL a :: st) mem o) : J u x nL Qf pc lv st mem o := by
  obtain ⟨p, e, R, s, m, args, below, meth, c, cells, slots⟩ := x
  intro r hr H locs ls hP hS hh
  exact lv_lload G.1 G.2.1 hd (lv_at hh i hl) (k r hr H locs ls hP hS hh)
theorem J_aload_n {q : Fin 4} {d : Nat} (G : jG u x cc own nL ret rm) (i : Nat) (hd : decode cc pc = .ok (.aload_n q, 1)) (hl : lv[i]? = some ((q : Nat), .ref d)) (k : J u x nL Qf (pc + 1) lv (.ref d :: st) mem o) : J u x nL Qf pc lv st mem o := by
  obtain ⟨p, e, R, s, m, args, below, meth, c, cells, slots⟩ := x
  intro r hr H locs ls hP hS hh
  exact lv_aload_n G.1 G.2.1 hd rfl (lv_at hh i hl) (k r hr H locs ls hP hS hh)
theorem J_aload {q d : Nat} (G : jG u x cc own nL ret rm) (i : Nat) (hd : decode cc pc = .ok (.aload q, 2)) (hl : lv[i]? = some (q, .ref d)) (k : J u x nL Qf (pc + 2) lv (.ref d :: st) mem o) : J u x nL Qf pc lv st mem o := by
  obtain ⟨p, e, R, s, m, args, below, meth, c, cells, slots⟩ := x
  intro r hr H locs ls hP hS hh
  exact lv_aload G.1 G.2.1 hd (lv_at hh i hl) (k r hr H locs ls hP hS hh)
theorem J_istore_n {f : Fin 4} {i : Nat} {lv' : List (Nat × Value)} (G : jG u x cc own nL ret rm) (hd : decode cc pc = .ok (.istore_n f, 1)) (hi : (f : Nat) = i) (hn : i < nL) (hl : (i, vI a) :: lv.filter (fun q => !(q.1 == i) && !(q.1 + 1 == i && q.2.category == 2)) = lv') (k : J u x nL Qf (pc + 1) lv' st mem o) : J u x nL Qf pc lv (vI a :: st) mem o := by
  obtain ⟨p, e, R, s, m, args, below, meth, c, cells, slots⟩ := x
  intro r hr H locs ls hP hS hh
  exact lv_istore_n G.1 G.2.1 hd hi hh hn hl (fun ls' hh' => k r hr H locs ls' hP hS hh')
theorem J_istore {i : Nat} {lv' : List (Nat × Value)} (G : jG u x cc own nL ret rm) (hd : decode cc pc = .ok (.istore i, 2)) (hn : i < nL) (hl : (i, vI a) :: lv.filter (fun q => !(q.1 == i) && !(q.1 + 1 == i && q.2.category == 2)) = lv') (k : J u x nL Qf (pc + 2) lv' st mem o) : J u x nL Qf pc lv (vI a :: st) mem o := by
  obtain ⟨p, e, R, s, m, args, below, meth, c, cells, slots⟩ := x
  intro r hr H locs ls hP hS hh
  exact lv_istore G.1 G.2.1 hd hh hn hl (fun ls' hh' => k r hr H locs ls' hP hS hh')
theorem J_lstore_n {f : Fin 4} {i : Nat} {lv' : List (Nat × Value)} (G : jG u x cc own nL ret rm) (hd : decode cc pc = .ok (.lstore_n f, 1)) (hi : (f : Nat) = i) (hn : i + 1 < nL) (hl : (i, vL a) :: lv.filter (fun q => !(q.1 == i) && (!(q.1 == i + 1) && !(q.1 + 1 == i && q.2.category == 2))) = lv') (k : J u x nL Qf (pc + 1) lv' st mem o) : J u x nL Qf pc lv (vL a :: st) mem o := by
  obtain ⟨p, e, R, s, m, args, below, meth, c, cells, slots⟩ := x
  intro r hr H locs ls hP hS hh
  exact lv_lstore_n G.1 G.2.1 hd hi hh hn hl (fun ls' hh' => k r hr H locs ls' hP hS hh')
theorem J_lstore {i : Nat} {lv' : List (Nat × Value)} (G : jG u x cc own nL ret rm) (hd : decode cc pc = .ok (.lstore i, 2)) (hn : i + 1 < nL) (hl : (i, vL a) :: lv.filter (fun q => !(q.1 == i) && (!(q.1 == i + 1) && !(q.1 + 1 == i && q.2.category == 2))) = lv') (k : J u x nL Qf (pc + 2) lv' st mem o) : J u x nL Qf pc lv (vL a :: st) mem o := by
  obtain ⟨p, e, R, s, m, args, below, meth, c, cells, slots⟩ := x
  intro r hr H locs ls hP hS hh
  exact lv_lstore G.1 G.2.1 hd hh hn hl (fun ls' hh' => k r hr H locs ls' hP hS hh')
theorem J_astore_n {f : Fin 4} {d : Nat} {i : Nat} {lv' : List (Nat × Value)} (G : jG u x cc own nL ret rm) (hd : decode cc pc = .ok (.astore_n f, 1)) (hi : (f : Nat) = i) (hn : i < nL) (hl : (i, .ref d) :: lv.filter (fun q => !(q.1 == i) && !(q.1 + 1 == i && q.2.category == 2)) = lv') (k : J u x nL Qf (pc + 1) lv' st mem o) : J u x nL Qf pc lv (.ref d :: st) mem o := by
  obtain ⟨p, e, R, s, m, args, below, meth, c, cells, slots⟩ := x
  intro r hr H locs ls hP hS hh
  exact lv_astore_n G.1 G.2.1 hd hi hh hn hl (fun ls' hh' => k r hr H locs ls' hP hS hh')
theorem J_astore {d : Nat} {i : Nat} {lv' : List (Nat × Value)} (G : jG u x cc own nL ret rm) (hd : decode cc pc = .ok (.astore i, 2)) (hn : i < nL) (hl : (i, .ref d) :: lv.filter (fun q => !(q.1 == i) && !(q.1 + 1 == i && q.2.category == 2)) = lv') (k : J u x nL Qf (pc + 2) lv' st mem o) : J u x nL Qf pc lv (.ref d :: st) mem o := by
  obtain ⟨p, e, R, s, m, args, below, meth, c, cells, slots⟩ := x
  intro r hr H locs ls hP hS hh
  exact lv_astore G.1 G.2.1 hd hh hn hl (fun ls' hh' => k r hr H locs ls' hP hS hh')
theorem J_iinc {i : Nat} {n : Int} {lv' : List (Nat × Value)} (G : jG u x cc own nL ret rm) (j : Nat) (hd : decode cc pc = .ok (.iinc i n, 3)) (hk : lv[j]? = some (i, vI a)) (hn : i < nL) (hl : (i, vI (a + n)) :: lv.filter (fun q => !(q.1 == i) && !(q.1 + 1 == i && q.2.category == 2)) = lv') (k : J u x nL Qf (pc + 3) lv' st mem o) : J u x nL Qf pc lv st mem o := by
  obtain ⟨p, e, R, s, m, args, below, meth, c, cells, slots⟩ := x
  intro r hr H locs ls hP hS hh
  exact lv_iinc G.1 G.2.1 hd hh hk (by rw [← Int32.ofInt_add]) hn hl (fun ls' hh' => k r hr H locs ls' hP hS hh')
theorem J_lv {lv' : List (Nat × Value)} (ks : List Nat) (hl : lv_pick lv ks = lv') (k : J u x nL Qf pc lv' st mem o) : J u x nL Qf pc lv st mem o := by
  obtain ⟨p, e, R, s, m, args, below, meth, c, cells, slots⟩ := x
  intro r hr H locs ls hP hS hh
  exact k r hr H locs ls hP hS (lv_sub hh ks hl)
theorem J_iconst {n : Int} (G : jG u x cc own nL ret rm) (hd : decode cc pc = .ok (.iconst n, 1)) (k : J u x nL Qf (pc + 1) lv (vI n :: st) mem o) : J u x nL Qf pc lv st mem o := by
  obtain ⟨p, e, R, s, m, args, below, meth, c, cells, slots⟩ := x
  intro r hr H locs ls hP hS hh
  exact lv_iconst G.1 G.2.1 hd rfl (k r hr H locs ls hP hS hh)
theorem J_bipush {n : Int} (G : jG u x cc own nL ret rm) (hd : decode cc pc = .ok (.bipush n, 2)) (hv : (Int8.ofInt n).toInt32 = Int32.ofInt n) (k : J u x nL Qf (pc + 2) lv (vI n :: st) mem o) : J u x nL Qf pc lv st mem o := by
  obtain ⟨p, e, R, s, m, args, below, meth, c, cells, slots⟩ := x
  intro r hr H locs ls hP hS hh
  exact lv_bipush G.1 G.2.1 hd hv (k r hr H locs ls hP hS hh)
theorem J_sipush {n : Int} (G : jG u x cc own nL ret rm) (hd : decode cc pc = .ok (.sipush n, 3)) (hv : (Int16.ofInt n).toInt32 = Int32.ofInt n) (k : J u x nL Qf (pc + 3) lv (vI n :: st) mem o) : J u x nL Qf pc lv st mem o := by
  obtain ⟨p, e, R, s, m, args, below, meth, c, cells, slots⟩ := x
  intro r hr H locs ls hP hS hh
  exact lv_sipush G.1 G.2.1 hd hv (k r hr H locs ls hP hS hh)
theorem J_lconst {n : Fin 2} {v : Int} (G : jG u x cc own nL ret rm) (hd : decode cc pc = .ok (.lconst n, 1)) (hv : Int64.ofNat (n : Nat) = Int64.ofInt v) (k : J u x nL Qf (pc + 1) lv (vL v :: st) mem o) : J u x nL Qf pc lv st mem o := by
  obtain ⟨p, e, R, s, m, args, below, meth, c, cells, slots⟩ := x
  intro r hr H locs ls hP hS hh
  exact lv_lconst G.1 G.2.1 hd hv (k r hr H locs ls hP hS hh)
theorem J_ldc2 {i : Nat} {v : Int} {v' : Int64} (G : jG u x cc own nL ret rm) (hd : decode cc pc = .ok (.ldc2_w i, 3)) (hw : Cond.constantLong own i v' ∈ jTW) (hv : v' = Int64.ofInt v) (k : J u x nL Qf (pc + 3) lv (vL v :: st) mem o) : J u x nL Qf pc lv st mem o := by
  obtain ⟨p, e, R, s, m, args, below, meth, c, cells, slots⟩ := x
  intro r hr H locs ls hP hS hh
  subst hv
  exact lv_ldc2 G.1 G.2.1 G.2.2.2.1 (G.2.2.2.2.1 _ hw) hd (k r hr H locs ls hP hS hh)
theorem J_goto {off : Int} (tgt : Nat) (G : jG u x cc own nL ret rm) (hd : decode cc pc = .ok (.goto off, 3)) (ht : (pc : Int) + off = (tgt : Int)) (k : J u x nL Qf tgt lv st mem o) : J u x nL Qf pc lv st mem o := by
  obtain ⟨p, e, R, s, m, args, below, meth, c, cells, slots⟩ := x
  intro r hr H locs ls hP hS hh
  exact lv_goto G.1 G.2.1 hd ht (k r hr H locs ls hP hS hh)
theorem J_dup {v : Value} (G : jG u x cc own nL ret rm) (hd : decode cc pc = .ok (.dup, 1)) (hv : v.category = 1) (k : J u x nL Qf (pc + 1) lv (v :: v :: st) mem o) : J u x nL Qf pc lv (v :: st) mem o := by
  obtain ⟨p, e, R, s, m, args, below, meth, c, cells, slots⟩ := x
  intro r hr H locs ls hP hS hh
  exact lv_dup G.1 G.2.1 hd hv (k r hr H locs ls hP hS hh)
theorem J_dup2 {v w : Value} (G : jG u x cc own nL ret rm) (hd : decode cc pc = .ok (.dup2, 1)) (hv : v.category = 1) (hw : w.category = 1) (k : J u x nL Qf (pc + 1) lv (v :: w :: v :: w :: st) mem o) : J u x nL Qf pc lv (v :: w :: st) mem o := by
  obtain ⟨p, e, R, s, m, args, below, meth, c, cells, slots⟩ := x
  intro r hr H locs ls hP hS hh
  exact lv_dup2_11 G.1 G.2.1 hd hv hw (k r hr H locs ls hP hS hh)
theorem J_pop {v : Value} (G : jG u x cc own nL ret rm) (hd : decode cc pc = .ok (.pop, 1)) (hv : v.category = 1) (k : J u x nL Qf (pc + 1) lv st mem o) : J u x nL Qf pc lv (v :: st) mem o := by
  obtain ⟨p, e, R, s, m, args, below, meth, c, cells, slots⟩ := x
  intro r hr H locs ls hP hS hh
  exact lv_pop G.1 G.2.1 hd hv (k r hr H locs ls hP hS hh)
theorem J_ifnull {d : Nat} {off : Int} (G : jG u x cc own nL ret rm) (hd : decode cc pc = .ok (.ifnull off, 3)) (k : J u x nL Qf (pc + 3) lv st mem o) : J u x nL Qf pc lv (.ref d :: st) mem o := by
  obtain ⟨p, e, R, s, m, args, below, meth, c, cells, slots⟩ := x
  intro r hr H locs ls hP hS hh
  exact lv_ifnull G.1 G.2.1 hd (k r hr H locs ls hP hS hh)
theorem J_lt {β : Type} {e : β} {f : β → Option α} (h : ∀ y, y = e → J u x nL Qf pc lv st mem (f y)) : J u x nL Qf pc lv st mem (lt e f) := h e rfl
theorem J_ltI {e : Int} {f : Int → Option α} (h : ∀ y, J u x nL Qf pc lv (vI y :: st) mem (f y)) : J u x nL Qf pc lv (vI e :: st) mem (lt e f) := h e
theorem J_ltL {e : Int} {f : Int → Option α} (h : ∀ y, J u x nL Qf pc lv (vL y :: st) mem (f y)) : J u x nL Qf pc lv (vL e :: st) mem (lt e f) := h e
theorem J_ltM {mm : Mem} {f : Mem → Option α} (h : ∀ y, J u x nL Qf pc lv st y (f y)) : J u x nL Qf pc lv st mm (lt mm f) := h mm
theorem J_jn {γ : Type} (P : γ → Prop) {b : γ} {f : γ → Option α} (hb : P b) (hf : ∀ g, P g → J u x nL Qf pc lv st mem (f g)) : J u x nL Qf pc lv st mem (jn b f) := hf b hb
theorem J_icmp_eq {off : Int} (tgt : Nat) (G : jG u x cc own nL ret rm) (hd : decode cc pc = .ok (.if_icmp .eq off, 3)) (ht : (pc : Int) + off = (tgt : Int)) (k1 : J u x nL Qf tgt lv st mem o) (k2 : J u x nL Qf (pc + 3) lv st mem o') : J u x nL Qf pc lv (vI b :: vI a :: st) mem (if s32 a = s32 b then o else o') := by
  obtain ⟨p, e, R, s, m, args, below, meth, c, cells, slots⟩ := x
  intro r hr H locs ls hP hS hh
  exact lv_icmp_eq G.1 G.2.1 hd ht (fun q => k1 r (by rw [if_pos ((i32_eq a b).mp q)] at hr; exact hr) H locs ls hP hS hh) (fun q => k2 r (by rw [if_neg (fun z => q ((i32_eq a b).mpr z))] at hr; exact hr) H locs ls hP hS hh)
theorem J_icmp_ne {off : Int} (tgt : Nat) (G : jG u x cc own nL ret rm) (hd : decode cc pc = .ok (.if_icmp .ne off, 3)) (ht : (pc : Int) + off = (tgt : Int)) (k1 : J u x nL Qf tgt lv st mem o) (k2 : J u x nL Qf (pc + 3) lv st mem o') : J u x nL Qf pc lv (vI b :: vI a :: st) mem (if ¬ s32 a = s32 b then o else o') := by
  obtain ⟨p, e, R, s, m, args, below, meth, c, cells, slots⟩ := x
  intro r hr H locs ls hP hS hh
  exact lv_icmp_ne G.1 G.2.1 hd ht (fun q => k1 r (by rw [if_pos (fun z => q ((i32_eq a b).mpr z))] at hr; exact hr) H locs ls hP hS hh) (fun q => k2 r (by rw [if_neg (fun z => z ((i32_eq a b).mp q))] at hr; exact hr) H locs ls hP hS hh)
theorem J_icmp_lt {off : Int} (tgt : Nat) (G : jG u x cc own nL ret rm) (hd : decode cc pc = .ok (.if_icmp .lt off, 3)) (ht : (pc : Int) + off = (tgt : Int)) (k1 : J u x nL Qf tgt lv st mem o) (k2 : J u x nL Qf (pc + 3) lv st mem o') : J u x nL Qf pc lv (vI b :: vI a :: st) mem (if s32 a < s32 b then o else o') := by
  obtain ⟨p, e, R, s, m, args, below, meth, c, cells, slots⟩ := x
  intro r hr H locs ls hP hS hh
  exact lv_icmp_lt G.1 G.2.1 hd ht (fun q => k1 r (by rw [if_pos ((i32_lt a b).mp q)] at hr; exact hr) H locs ls hP hS hh) (fun q => k2 r (by rw [if_neg (fun z => q ((i32_lt a b).mpr z))] at hr; exact hr) H locs ls hP hS hh)
theorem J_icmp_ge {off : Int} (tgt : Nat) (G : jG u x cc own nL ret rm) (hd : decode cc pc = .ok (.if_icmp .ge off, 3)) (ht : (pc : Int) + off = (tgt : Int)) (k1 : J u x nL Qf tgt lv st mem o) (k2 : J u x nL Qf (pc + 3) lv st mem o') : J u x nL Qf pc lv (vI b :: vI a :: st) mem (if s32 b ≤ s32 a then o else o') := by
  obtain ⟨p, e, R, s, m, args, below, meth, c, cells, slots⟩ := x
  intro r hr H locs ls hP hS hh
  exact lv_icmp_ge G.1 G.2.1 hd ht (fun q => k1 r (by rw [if_pos ((i32_le b a).mp q)] at hr; exact hr) H locs ls hP hS hh) (fun q => k2 r (by rw [if_neg (fun z => q ((i32_le b a).mpr z))] at hr; exact hr) H locs ls hP hS hh)
theorem J_icmp_gt {off : Int} (tgt : Nat) (G : jG u x cc own nL ret rm) (hd : decode cc pc = .ok (.if_icmp .gt off, 3)) (ht : (pc : Int) + off = (tgt : Int)) (k1 : J u x nL Qf tgt lv st mem o) (k2 : J u x nL Qf (pc + 3) lv st mem o') : J u x nL Qf pc lv (vI b :: vI a :: st) mem (if s32 b < s32 a then o else o') := by
  obtain ⟨p, e, R, s, m, args, below, meth, c, cells, slots⟩ := x
  intro r hr H locs ls hP hS hh
  exact lv_icmp_gt G.1 G.2.1 hd ht (fun q => k1 r (by rw [if_pos ((i32_lt b a).mp q)] at hr; exact hr) H locs ls hP hS hh) (fun q => k2 r (by rw [if_neg (fun z => q ((i32_lt b a).mpr z))] at hr; exact hr) H locs ls hP hS hh)
theorem J_icmp_le {off : Int} (tgt : Nat) (G : jG u x cc own nL ret rm) (hd : decode cc pc = .ok (.if_icmp .le off, 3)) (ht : (pc : Int) + off = (tgt : Int)) (k1 : J u x nL Qf tgt lv st mem o) (k2 : J u x nL Qf (pc + 3) lv st mem o') : J u x nL Qf pc lv (vI b :: vI a :: st) mem (if s32 a ≤ s32 b then o else o') := by
  obtain ⟨p, e, R, s, m, args, below, meth, c, cells, slots⟩ := x
  intro r hr H locs ls hP hS hh
  exact lv_icmp_le G.1 G.2.1 hd ht (fun q => k1 r (by rw [if_pos ((i32_le a b).mp q)] at hr; exact hr) H locs ls hP hS hh) (fun q => k2 r (by rw [if_neg (fun z => q ((i32_le a b).mpr z))] at hr; exact hr) H locs ls hP hS hh)
theorem J_if_eq {off : Int} (tgt : Nat) (G : jG u x cc own nL ret rm) (hd : decode cc pc = .ok (.ifCond .eq off, 3)) (ht : (pc : Int) + off = (tgt : Int)) (k1 : J u x nL Qf tgt lv st mem o) (k2 : J u x nL Qf (pc + 3) lv st mem o') : J u x nL Qf pc lv (vI a :: st) mem (if s32 a = 0 then o else o') := by
  obtain ⟨p, e, R, s, m, args, below, meth, c, cells, slots⟩ := x
  intro r hr H locs ls hP hS hh
  exact lv_if_eq G.1 G.2.1 hd ht (fun q => k1 r (by rw [if_pos ((i32_eq0 a).mp q)] at hr; exact hr) H locs ls hP hS hh) (fun q => k2 r (by rw [if_neg (fun z => q ((i32_eq0 a).mpr z))] at hr; exact hr) H locs ls hP hS hh)
theorem J_if_ne {off : Int} (tgt : Nat) (G : jG u x cc own nL ret rm) (hd : decode cc pc = .ok (.ifCond .ne off, 3)) (ht : (pc : Int) + off = (tgt : Int)) (k1 : J u x nL Qf tgt lv st mem o) (k2 : J u x nL Qf (pc + 3) lv st mem o') : J u x nL Qf pc lv (vI a :: st) mem (if ¬ s32 a = 0 then o else o') := by
  obtain ⟨p, e, R, s, m, args, below, meth, c, cells, slots⟩ := x
  intro r hr H locs ls hP hS hh
  exact lv_if_ne G.1 G.2.1 hd ht (fun q => k1 r (by rw [if_pos (fun z => q ((i32_eq0 a).mpr z))] at hr; exact hr) H locs ls hP hS hh) (fun q => k2 r (by rw [if_neg (fun z => z ((i32_eq0 a).mp q))] at hr; exact hr) H locs ls hP hS hh)
theorem J_if_lt {off : Int} (tgt : Nat) (G : jG u x cc own nL ret rm) (hd : decode cc pc = .ok (.ifCond .lt off, 3)) (ht : (pc : Int) + off = (tgt : Int)) (k1 : J u x nL Qf tgt lv st mem o) (k2 : J u x nL Qf (pc + 3) lv st mem o') : J u x nL Qf pc lv (vI a :: st) mem (if s32 a < 0 then o else o') := by
  obtain ⟨p, e, R, s, m, args, below, meth, c, cells, slots⟩ := x
  intro r hr H locs ls hP hS hh
  exact lv_if_lt G.1 G.2.1 hd ht (fun q => k1 r (by rw [if_pos ((i32_lt0 a).mp q)] at hr; exact hr) H locs ls hP hS hh) (fun q => k2 r (by rw [if_neg (fun z => q ((i32_lt0 a).mpr z))] at hr; exact hr) H locs ls hP hS hh)
theorem J_if_ge {off : Int} (tgt : Nat) (G : jG u x cc own nL ret rm) (hd : decode cc pc = .ok (.ifCond .ge off, 3)) (ht : (pc : Int) + off = (tgt : Int)) (k1 : J u x nL Qf tgt lv st mem o) (k2 : J u x nL Qf (pc + 3) lv st mem o') : J u x nL Qf pc lv (vI a :: st) mem (if 0 ≤ s32 a then o else o') := by
  obtain ⟨p, e, R, s, m, args, below, meth, c, cells, slots⟩ := x
  intro r hr H locs ls hP hS hh
  exact lv_if_ge G.1 G.2.1 hd ht (fun q => k1 r (by rw [if_pos ((i32_0le a).mp q)] at hr; exact hr) H locs ls hP hS hh) (fun q => k2 r (by rw [if_neg (fun z => q ((i32_0le a).mpr z))] at hr; exact hr) H locs ls hP hS hh)
theorem J_if_gt {off : Int} (tgt : Nat) (G : jG u x cc own nL ret rm) (hd : decode cc pc = .ok (.ifCond .gt off, 3)) (ht : (pc : Int) + off = (tgt : Int)) (k1 : J u x nL Qf tgt lv st mem o) (k2 : J u x nL Qf (pc + 3) lv st mem o') : J u x nL Qf pc lv (vI a :: st) mem (if 0 < s32 a then o else o') := by
  obtain ⟨p, e, R, s, m, args, below, meth, c, cells, slots⟩ := x
  intro r hr H locs ls hP hS hh
  exact lv_if_gt G.1 G.2.1 hd ht (fun q => k1 r (by rw [if_pos ((i32_0lt a).mp q)] at hr; exact hr) H locs ls hP hS hh) (fun q => k2 r (by rw [if_neg (fun z => q ((i32_0lt a).mpr z))] at hr; exact hr) H locs ls hP hS hh)
theorem J_if_le {off : Int} (tgt : Nat) (G : jG u x cc own nL ret rm) (hd : decode cc pc = .ok (.ifCond .le off, 3)) (ht : (pc : Int) + off = (tgt : Int)) (k1 : J u x nL Qf tgt lv st mem o) (k2 : J u x nL Qf (pc + 3) lv st mem o') : J u x nL Qf pc lv (vI a :: st) mem (if s32 a ≤ 0 then o else o') := by
  obtain ⟨p, e, R, s, m, args, below, meth, c, cells, slots⟩ := x
  intro r hr H locs ls hP hS hh
  exact lv_if_le G.1 G.2.1 hd ht (fun q => k1 r (by rw [if_pos ((i32_le0 a).mp q)] at hr; exact hr) H locs ls hP hS hh) (fun q => k2 r (by rw [if_neg (fun z => q ((i32_le0 a).mpr z))] at hr; exact hr) H locs ls hP hS hh)
theorem jcmp_lt (a b : Int) : lg_cmp (Int64.ofInt a) (Int64.ofInt b) < 0 ↔ s64 a < s64 b := by
  unfold lg_cmp
  by_cases h1 : Int64.ofInt a > Int64.ofInt b
  · rw [if_pos h1]
    refine ⟨fun h => absurd h (by decide), fun h => ?_⟩
    have h1 := (i64_lt b a).mp h1
    omega
  · rw [if_neg h1]
    by_cases h2 : Int64.ofInt a = Int64.ofInt b
    · rw [if_pos h2]
      refine ⟨fun h => absurd h (by decide), fun h => ?_⟩
      rw [i64_eq] at h2; omega
    · rw [if_neg h2]
      refine ⟨fun _ => ?_, fun _ => by decide⟩
      rw [i64_eq] at h2
      have h1 : ¬ s64 b < s64 a := fun z => h1 ((i64_lt b a).mpr z)
      omega
theorem jcmp_eq (a b : Int) : lg_cmp (Int64.ofInt a) (Int64.ofInt b) = 0 ↔ s64 a = s64 b := by
  unfold lg_cmp
  by_cases h1 : Int64.ofInt a > Int64.ofInt b
  · rw [if_pos h1]
    refine ⟨fun h => absurd h (by decide), fun h => ?_⟩
    have h1 := (i64_lt b a).mp h1
    omega
  · rw [if_neg h1]
    by_cases h2 : Int64.ofInt a = Int64.ofInt b
    · rw [if_pos h2]
      rw [i64_eq] at h2
      exact ⟨fun _ => h2, fun _ => rfl⟩
    · rw [if_neg h2]
      rw [i64_eq] at h2
      exact ⟨fun h => absurd h (by decide), fun h => absurd h h2⟩
theorem jcmp_gt (a b : Int) : 0 < lg_cmp (Int64.ofInt a) (Int64.ofInt b) ↔ s64 b < s64 a := by
  have h1 := jcmp_lt a b
  have h2 := jcmp_eq a b
  have h3 : ∀ z : Int32, 0 < z ↔ ¬ z < 0 ∧ ¬ z = 0 := by
    intro z
    rw [Int32.lt_iff_toInt_lt, Int32.lt_iff_toInt_lt, ← Int32.toInt_inj]
    simp only [Int32.toInt_zero]
    omega
  rw [h3, h1, h2]
  omega
theorem i32_nlt0 (z : Int32) : 0 ≤ z ↔ ¬ z < 0 := by
  rw [Int32.le_iff_toInt_le, Int32.lt_iff_toInt_lt]; simp only [Int32.toInt_zero]; omega
theorem i32_n0lt (z : Int32) : z ≤ 0 ↔ ¬ 0 < z := by
  rw [Int32.le_iff_toInt_le, Int32.lt_iff_toInt_lt]; simp only [Int32.toInt_zero]; omega
theorem J_lcmp_eq {off : Int} (tgt : Nat) (G : jG u x cc own nL ret rm) (hd0 : decode cc pc = .ok (.lcmp, 1)) (hd : decode cc (pc + 1) = .ok (.ifCond .eq off, 3)) (ht : ((pc + 1 : Nat) : Int) + off = (tgt : Int)) (k1 : J u x nL Qf tgt lv st mem o) (k2 : J u x nL Qf (pc + 4) lv st mem o') : J u x nL Qf pc lv (vL b :: vL a :: st) mem (if s64 a = s64 b then o else o') := by
  obtain ⟨p, e, R, s, m, args, below, meth, c, cells, slots⟩ := x
  intro r hr H locs ls hP hS hh
  have key := jcmp_eq a b
  refine W.lcmp G.1 G.2.1 hd0 ?_
  exact lv_if_eq G.1 G.2.1 hd ht (fun q => k1 r (by rw [if_pos (key.mp q)] at hr; exact hr) H locs ls hP hS hh) (fun q => k2 r (by rw [if_neg (fun z => q (key.mpr z))] at hr; exact hr) H locs ls hP hS hh)
theorem J_lcmp_ne {off : Int} (tgt : Nat) (G : jG u x cc own nL ret rm) (hd0 : decode cc pc = .ok (.lcmp, 1)) (hd : decode cc (pc + 1) = .ok (.ifCond .ne off, 3)) (ht : ((pc + 1 : Nat) : Int) + off = (tgt : Int)) (k1 : J u x nL Qf tgt lv st mem o) (k2 : J u x nL Qf (pc + 4) lv st mem o') : J u x nL Qf pc lv (vL b :: vL a :: st) mem (if ¬ s64 a = s64 b then o else o') := by
  obtain ⟨p, e, R, s, m, args, below, meth, c, cells, slots⟩ := x
  intro r hr H locs ls hP hS hh
  have key := (not_congr (jcmp_eq a b))
  refine W.lcmp G.1 G.2.1 hd0 ?_
  exact lv_if_ne G.1 G.2.1 hd ht (fun q => k1 r (by rw [if_pos (key.mp q)] at hr; exact hr) H locs ls hP hS hh) (fun q => k2 r (by rw [if_neg (fun z => z ((jcmp_eq a b).mp q))] at hr; exact hr) H locs ls hP hS hh)
theorem J_lcmp_lt {off : Int} (tgt : Nat) (G : jG u x cc own nL ret rm) (hd0 : decode cc pc = .ok (.lcmp, 1)) (hd : decode cc (pc + 1) = .ok (.ifCond .lt off, 3)) (ht : ((pc + 1 : Nat) : Int) + off = (tgt : Int)) (k1 : J u x nL Qf tgt lv st mem o) (k2 : J u x nL Qf (pc + 4) lv st mem o') : J u x nL Qf pc lv (vL b :: vL a :: st) mem (if s64 a < s64 b then o else o') := by
  obtain ⟨p, e, R, s, m, args, below, meth, c, cells, slots⟩ := x
  intro r hr H locs ls hP hS hh
  have key := jcmp_lt a b
  refine W.lcmp G.1 G.2.1 hd0 ?_
  exact lv_if_lt G.1 G.2.1 hd ht (fun q => k1 r (by rw [if_pos (key.mp q)] at hr; exact hr) H locs ls hP hS hh) (fun q => k2 r (by rw [if_neg (fun z => q (key.mpr z))] at hr; exact hr) H locs ls hP hS hh)
theorem J_lcmp_ge {off : Int} (tgt : Nat) (G : jG u x cc own nL ret rm) (hd0 : decode cc pc = .ok (.lcmp, 1)) (hd : decode cc (pc + 1) = .ok (.ifCond .ge off, 3)) (ht : ((pc + 1 : Nat) : Int) + off = (tgt : Int)) (k1 : J u x nL Qf tgt lv st mem o) (k2 : J u x nL Qf (pc + 4) lv st mem o') : J u x nL Qf pc lv (vL b :: vL a :: st) mem (if s64 b ≤ s64 a then o else o') := by
  obtain ⟨p, e, R, s, m, args, below, meth, c, cells, slots⟩ := x
  intro r hr H locs ls hP hS hh
  have key := ((i32_nlt0 _).trans ((not_congr (jcmp_lt a b)).trans Int.not_lt))
  refine W.lcmp G.1 G.2.1 hd0 ?_
  exact lv_if_ge G.1 G.2.1 hd ht (fun q => k1 r (by rw [if_pos (key.mp q)] at hr; exact hr) H locs ls hP hS hh) (fun q => k2 r (by rw [if_neg (fun z => q (key.mpr z))] at hr; exact hr) H locs ls hP hS hh)
theorem J_lcmp_gt {off : Int} (tgt : Nat) (G : jG u x cc own nL ret rm) (hd0 : decode cc pc = .ok (.lcmp, 1)) (hd : decode cc (pc + 1) = .ok (.ifCond .gt off, 3)) (ht : ((pc + 1 : Nat) : Int) + off = (tgt : Int)) (k1 : J u x nL Qf tgt lv st mem o) (k2 : J u x nL Qf (pc + 4) lv st mem o') : J u x nL Qf pc lv (vL b :: vL a :: st) mem (if s64 b < s64 a then o else o') := by
  obtain ⟨p, e, R, s, m, args, below, meth, c, cells, slots⟩ := x
  intro r hr H locs ls hP hS hh
  have key := jcmp_gt a b
  refine W.lcmp G.1 G.2.1 hd0 ?_
  exact lv_if_gt G.1 G.2.1 hd ht (fun q => k1 r (by rw [if_pos (key.mp q)] at hr; exact hr) H locs ls hP hS hh) (fun q => k2 r (by rw [if_neg (fun z => q (key.mpr z))] at hr; exact hr) H locs ls hP hS hh)
theorem J_lcmp_le {off : Int} (tgt : Nat) (G : jG u x cc own nL ret rm) (hd0 : decode cc pc = .ok (.lcmp, 1)) (hd : decode cc (pc + 1) = .ok (.ifCond .le off, 3)) (ht : ((pc + 1 : Nat) : Int) + off = (tgt : Int)) (k1 : J u x nL Qf tgt lv st mem o) (k2 : J u x nL Qf (pc + 4) lv st mem o') : J u x nL Qf pc lv (vL b :: vL a :: st) mem (if s64 a ≤ s64 b then o else o') := by
  obtain ⟨p, e, R, s, m, args, below, meth, c, cells, slots⟩ := x
  intro r hr H locs ls hP hS hh
  have key := ((i32_n0lt _).trans ((not_congr (jcmp_gt a b)).trans Int.not_lt))
  refine W.lcmp G.1 G.2.1 hd0 ?_
  exact lv_if_le G.1 G.2.1 hd ht (fun q => k1 r (by rw [if_pos (key.mp q)] at hr; exact hr) H locs ls hP hS hh) (fun q => k2 r (by rw [if_neg (fun z => q (key.mpr z))] at hr; exact hr) H locs ls hP hS hh)
end JR
section JM
variable {α : Type} {u : jU} {x : jX} {cc : ByteArray} {own : String} {nL : Nat} {ret : Option FieldType} {rm : Room} {Qf : α → State → Prop} {pc : Nat} {lv : List (Nat × Value)} {st : List Value} {mem : Mem} {o o' : Option α} {a b : Int}
/-- a class of the worlds, by its number: its name, its fields' table, how many, their types; its words are there -/
def jCls (ci : Nat) (C : String) (T : u_T) (N : Nat) (ty : Nat → FieldType) : Prop := vwCl[ci]? = some (C, T, N) ∧ (∀ w ∈ u_ws C T N, w ∈ jTW) ∧ (∀ k, k < N → parseFieldDescriptor (T k).2.2.1 = some (ty k)) ∧ (∀ a, a < N → ∀ b, b < N → a ≠ b → (T a).2.1 ≠ (T b).2.1) ∧ (jFields.getD ci []).length = N ∧ ci < 10
theorem cellE_obj {cy : jCy} {base : Nat} {mem : Mem} {c ci : Nat} (h : kd c = ci) (hc : ci < 10) : cellE cy base mem c = .inr (ci, (jFields.getD ci []).mapIdx (fv base mem c)) := by
  subst h
  unfold cellE
  rw [if_pos hc]
theorem fields_at {base : Nat} {mem : Mem} {c ci k : Nat} {q : Nat × Nat} (h : (jFields.getD ci [])[k]? = some q) : ((jFields.getD ci []).mapIdx (fv base mem c))[k]? = some (fv base mem c k q) := by
  rw [List.getElem?_mapIdx, h]
  rfl
theorem fields_set {base : Nat} {mem : Mem} {c ci k : Nat} {q : Nat × Nat} {v : Int} (h : (jFields.getD ci [])[k]? = some q) (hq : q.1 < 2) : ((jFields.getD ci []).mapIdx (fv base mem c)).set k (fv base (mset mem c k v) c k q) = (jFields.getD ci []).mapIdx (fv base (mset mem c k v) c) := by
  apply List.ext_getElem?
  intro j
  by_cases hj : j = k
  · subst hj
    have hl : j < (jFields.getD ci []).length := (List.getElem?_eq_some_iff.mp h).1
    rw [List.getElem?_set_self (by simpa using hl), fields_at h]
  · rw [List.getElem?_set_ne (Ne.symm hj), List.getElem?_mapIdx, List.getElem?_mapIdx]
    congr 1
    funext q'
    have hne : (j : Int) ≠ (k : Int) := by omega
    simp [fv, mset, hne]
theorem J_getf {c ci k idx : Nat} {C : String} {T : u_T} {N : Nat} {ty : Nat → FieldType} {q : Nat × Nat} {v : Value} (G : jG u x cc own nL ret rm) (hC : jCls ci C T N ty) (hw : Cond.fieldLink own idx (T k).1 (T k).2.1 (T k).2.2.1 ∈ jTW) (hkd : kd c = ci) (hq : (jFields.getD ci [])[k]? = some q) (hv : fv (uB u) mem c k q = v) (hd : decode cc pc = .ok (.getfield idx, 3)) (kk : J u x nL Qf (pc + 3) lv (v :: st) mem o) : J u x nL Qf pc lv (vR (uB u) c :: st) mem o := by
  obtain ⟨p, e, R, s, m, args, below, meth, cd, cells, slots⟩ := x
  intro r hr H locs ls hP hS hh
  obtain ⟨h1, h2, h3, h4, h5, h6⟩ := hC
  have hl : k < N := h5 ▸ (List.getElem?_eq_some_iff.mp hq).1
  refine va_get G.1 G.2.1 (C := C) (T := T) (N := N) (ref := (T k).1) (index := idx) G.2.2.2.2.1 h2 G.2.2.2.1 G.2.2.2.2.2.1 hP c (by rw [vws_at _ _ _ (kd_lt hkd (by omega)), cellE_obj hkd h6]) h1 k hl (G.2.2.2.2.1 _ hw) (fun _ h => h) (v := v) ?_ hd (kk r hr H locs ls hP hS hh)
  rw [← hv]
  exact fields_at hq
theorem J_getI {c ci k idx : Nat} {C : String} {T : u_T} {N : Nat} {ty : Nat → FieldType} (G : jG u x cc own nL ret rm) (hC : jCls ci C T N ty) (hw : Cond.fieldLink own idx (T k).1 (T k).2.1 (T k).2.2.1 ∈ jTW) (hkd : kd c = ci) (hq : (jFields.getD ci [])[k]? = some (0, 0)) (hd : decode cc pc = .ok (.getfield idx, 3)) (kk : J u x nL Qf (pc + 3) lv (vI (mem c k) :: st) mem o) : J u x nL Qf pc lv (vR (uB u) c :: st) mem o := J_getf G hC hw hkd hq rfl hd kk
theorem J_getL {c ci k idx : Nat} {C : String} {T : u_T} {N : Nat} {ty : Nat → FieldType} (G : jG u x cc own nL ret rm) (hC : jCls ci C T N ty) (hw : Cond.fieldLink own idx (T k).1 (T k).2.1 (T k).2.2.1 ∈ jTW) (hkd : kd c = ci) (hq : (jFields.getD ci [])[k]? = some (1, 0)) (hd : decode cc pc = .ok (.getfield idx, 3)) (kk : J u x nL Qf (pc + 3) lv (vL (mem c k) :: st) mem o) : J u x nL Qf pc lv (vR (uB u) c :: st) mem o := J_getf G hC hw hkd hq rfl hd kk
theorem J_getR {c ci k idx f d : Nat} {C : String} {T : u_T} {N : Nat} {ty : Nat → FieldType} (G : jG u x cc own nL ret rm) (hC : jCls ci C T N ty) (hw : Cond.fieldLink own idx (T k).1 (T k).2.1 (T k).2.2.1 ∈ jTW) (hkd : kd c = ci) (hq : (jFields.getD ci [])[k]? = some (2, f)) (hf : c + f = d) (hd : decode cc pc = .ok (.getfield idx, 3)) (kk : J u x nL Qf (pc + 3) lv (vR (uB u) d :: st) mem o) : J u x nL Qf pc lv (vR (uB u) c :: st) mem o := J_getf G hC hw hkd hq (by rw [← hf]; rfl) hd kk
theorem J_putf {c ci k idx : Nat} {C : String} {T : u_T} {N : Nat} {ty : Nat → FieldType} {q : Nat × Nat} {v : Int} {V : Value} (G : jG u x cc own nL ret rm) (hC : jCls ci C T N ty) (hw : Cond.fieldLink own idx (T k).1 (T k).2.1 (T k).2.2.1 ∈ jTW) (hkd : kd c = ci) (hq : (jFields.getD ci [])[k]? = some q) (hq2 : q.1 < 2) (hfin : (T k).2.2.2 = false) (hv : fv (uB u) (mset mem c k v) c k q = V) (hn : narrow (ty k) V = V) (hft : fits (ty k) V = true) (hd : decode cc pc = .ok (.putfield idx, 3)) (kk : J u x nL Qf (pc + 3) lv st (mset mem c k v) o) : J u x nL Qf pc lv (V :: vR (uB u) c :: st) mem o := by
  obtain ⟨p, e, R, s, m, args, below, meth, cd, cells, slots⟩ := x
  intro r hr H locs ls hP hS hh
  obtain ⟨h1, h2, h3, h4, h5, h6⟩ := hC
  have hl : k < N := h5 ▸ (List.getElem?_eq_some_iff.mp hq).1
  have hcN := kd_lt hkd (by omega)
  have he : (vws u.2.2.1 (uB u) mem)[c]? = some (uB u + c, .inr (ci, (jFields.getD ci []).mapIdx (fv (uB u) mem c))) := by rw [vws_at _ _ _ hcN, cellE_obj hkd h6]
  refine va_put G.1 G.2.1 (C := C) (T := T) (N := N) (ref := (T k).1) (index := idx) G.2.2.2.2.1 h2 ty h3 h4 G.2.2.2.1 G.2.2.2.2.2.1 hP (vws_D _ _ _) hS c he h1 k hl (G.2.2.2.2.1 _ hw) (fun _ h => h) hfin (h3 k hl) hn hft (by rw [List.length_mapIdx, h5]; exact hl) hd ?_
  intro H1 locs1 hP1 _ hS1
  refine kk r hr H1 locs1 ls ?_ hS1 hh
  have hset := vws_set (cy := u.2.2.1) (base := uB u) (mem := mem) (mem' := mset mem c k v) hcN (fun c' hc' => cellE_congr (mset_ne _ _ _ _ hc'))
  rw [cellE_obj hkd h6, ← fields_set hq hq2, hv] at hset
  rw [← hset]
  exact hP1
theorem J_putI {c ci k idx : Nat} {C : String} {T : u_T} {N : Nat} {ty : Nat → FieldType} {v : Int} (G : jG u x cc own nL ret rm) (hC : jCls ci C T N ty) (hw : Cond.fieldLink own idx (T k).1 (T k).2.1 (T k).2.2.1 ∈ jTW) (hkd : kd c = ci) (hq : (jFields.getD ci [])[k]? = some (0, 0)) (hfin : (T k).2.2.2 = false) (hty : ty k = .int) (hd : decode cc pc = .ok (.putfield idx, 3)) (kk : J u x nL Qf (pc + 3) lv st (mset mem c k v) o) : J u x nL Qf pc lv (vI v :: vR (uB u) c :: st) mem o :=
  J_putf G hC hw hkd hq (by decide) hfin (by show vI (mset mem c k v c k) = _; rw [mset_self]) (by rw [hty]; rfl) (by rw [hty]; rfl) hd kk
theorem J_putZ {c ci k idx : Nat} {C : String} {T : u_T} {N : Nat} {ty : Nat → FieldType} {v : Int} (G : jG u x cc own nL ret rm) (hC : jCls ci C T N ty) (hw : Cond.fieldLink own idx (T k).1 (T k).2.1 (T k).2.2.1 ∈ jTW) (hkd : kd c = ci) (hq : (jFields.getD ci [])[k]? = some (0, 0)) (hfin : (T k).2.2.2 = false) (hty : ty k = .boolean) (hv : narrow .boolean (vI v) = vI v) (hv2 : fits .boolean (vI v) = true) (hd : decode cc pc = .ok (.putfield idx, 3)) (kk : J u x nL Qf (pc + 3) lv st (mset mem c k v) o) : J u x nL Qf pc lv (vI v :: vR (uB u) c :: st) mem o :=
  J_putf G hC hw hkd hq (by decide) hfin (by show vI (mset mem c k v c k) = _; rw [mset_self]) (by rw [hty]; exact hv) (by rw [hty]; exact hv2) hd kk
theorem J_putL {c ci k idx : Nat} {C : String} {T : u_T} {N : Nat} {ty : Nat → FieldType} {v : Int} (G : jG u x cc own nL ret rm) (hC : jCls ci C T N ty) (hw : Cond.fieldLink own idx (T k).1 (T k).2.1 (T k).2.2.1 ∈ jTW) (hkd : kd c = ci) (hq : (jFields.getD ci [])[k]? = some (1, 0)) (hfin : (T k).2.2.2 = false) (hty : ty k = .long) (hd : decode cc pc = .ok (.putfield idx, 3)) (kk : J u x nL Qf (pc + 3) lv st (mset mem c k v) o) : J u x nL Qf pc lv (vL v :: vR (uB u) c :: st) mem o :=
  J_putf G hC hw hkd hq (by decide) hfin (by show vL (mset mem c k v c k) = _; rw [mset_self]) (by rw [hty]; rfl) (by rw [hty]; rfl) hd kk
/-! arrays -/
theorem cellE_arrI {cy : jCy} {base : Nat} {mem : Mem} {c : Nat} (h : kd c = 20) : cellE cy base mem c = .inl (cy.2.2.1, ln c, .inl (fun i => Int32.ofInt (mem c i))) := by
  unfold cellE; rw [h]; rfl
theorem cellE_arrL {cy : jCy} {base : Nat} {mem : Mem} {c : Nat} (h : kd c = 21) : cellE cy base mem c = .inl (cy.2.2.2.1, ln c, .inr (.inl (fun i => Int64.ofInt (mem c i)))) := by
  unfold cellE; rw [h]; rfl
theorem cellE_arrB {cy : jCy} {base : Nat} {mem : Mem} {c : Nat} (h : kd c = 22) : cellE cy base mem c = .inl (cy.1, ln c, .inl (fun i => Int32.ofInt (mem c i))) := by
  unfold cellE; rw [h]; rfl
theorem cellE_arrC {cy : jCy} {base : Nat} {mem : Mem} {c : Nat} (h : kd c = 23) : cellE cy base mem c = .inl (cy.2.1, ln c, .inl (fun i => Int32.ofInt (mem c i))) := by
  unfold cellE; rw [h]; rfl
theorem cellE_arrR {cy : jCy} {base : Nat} {mem : Mem} {c : Nat} (h : kd c = 24) : cellE cy base mem c = .inl (cy.2.2.2.2, ln c, .inr (.inr (.inr (.inr (fun i => some (base + (c + 1 + 9 * i))))))) := by
  unfold cellE; rw [h]; rfl
theorem ck_some {α : Type} {i : Int} {n : Nat} {k : Option α} {r : α} (h : ck i n k = some r) : (0 ≤ s32 i ∧ s32 i < (n : Int)) ∧ k = some r := by
  unfold ck at h
  split at h
  · rename_i hc; exact ⟨hc, h⟩
  · cases h
theorem ck_in {i : Int} {n : Nat} (h : 0 ≤ s32 i ∧ s32 i < (n : Int)) : vp_in (Int32.ofInt i) n := by
  unfold vp_in
  rw [i32_lt0, i32_clamp]
  omega
theorem ck_ix {i : Int} {n : Nat} (h : 0 ≤ s32 i ∧ s32 i < (n : Int)) : (((Int32.ofInt i).toNatClampNeg : Nat) : Int) = s32 i := by
  rw [i32_clamp]
  exact Int.toNat_of_nonneg h.1
theorem J_iald {c n : Nat} {i : Int} (G : jG u x cc own nL ret rm) (hkd : kd c = 20) (hn : ln c = n) (hd : decode cc pc = .ok (.iaload, 1)) (kk : J u x nL Qf (pc + 1) lv (vI (mem c (s32 i)) :: st) mem o) : J u x nL Qf pc lv (vI i :: vR (uB u) c :: st) mem (ck i n o) := by
  obtain ⟨p, e, R, s, m, args, below, meth, cd, cells, slots⟩ := x
  intro r hr H locs ls hP hS hh
  obtain ⟨hc, hk⟩ := ck_some hr
  refine va_iald G.1 G.2.1 G.2.2.2.2.2.1 hP c 2 (by rw [vws_at _ _ _ (kd_lt hkd (by decide)), cellE_arrI hkd]) rfl (ck_in (hn ▸ hc)) hd ?_
  rw [ck_ix hc]
  exact kk r hk H locs ls hP hS hh
theorem J_ialdC {c : Nat} {i : Int} (G : jG u x cc own nL ret rm) (hkd : kd c = 20) (hc : 0 ≤ i ∧ i < (ln c : Int) ∧ i < 2147483648) (hd : decode cc pc = .ok (.iaload, 1)) (kk : J u x nL Qf (pc + 1) lv (vI (mem c i) :: st) mem o) : J u x nL Qf pc lv (vI i :: vR (uB u) c :: st) mem o := by
  have hs : s32 i = i := by unfold s32; rw [Int.bmod_eq_of_le] <;> omega
  have h := J_iald (o := o) G hkd rfl hd (by rw [hs]; exact kk)
  unfold ck at h
  rw [hs, if_pos ⟨hc.1, hc.2.1⟩] at h
  exact h
theorem J_lald {c n : Nat} {i : Int} (G : jG u x cc own nL ret rm) (hkd : kd c = 21) (hn : ln c = n) (hd : decode cc pc = .ok (.laload, 1)) (kk : J u x nL Qf (pc + 1) lv (vL (mem c (s32 i)) :: st) mem o) : J u x nL Qf pc lv (vI i :: vR (uB u) c :: st) mem (ck i n o) := by
  obtain ⟨p, e, R, s, m, args, below, meth, cd, cells, slots⟩ := x
  intro r hr H locs ls hP hS hh
  obtain ⟨hc, hk⟩ := ck_some hr
  refine va_lald G.1 G.2.1 G.2.2.2.2.2.1 hP c 3 (by rw [vws_at _ _ _ (kd_lt hkd (by decide)), cellE_arrL hkd]) rfl (ck_in (hn ▸ hc)) hd ?_
  rw [ck_ix hc]
  exact kk r hk H locs ls hP hS hh
theorem J_laldC {c : Nat} {i : Int} (G : jG u x cc own nL ret rm) (hkd : kd c = 21) (hc : 0 ≤ i ∧ i < (ln c : Int) ∧ i < 2147483648) (hd : decode cc pc = .ok (.laload, 1)) (kk : J u x nL Qf (pc + 1) lv (vL (mem c i) :: st) mem o) : J u x nL Qf pc lv (vI i :: vR (uB u) c :: st) mem o := by
  have hs : s32 i = i := by unfold s32; rw [Int.bmod_eq_of_le] <;> omega
  have h := J_lald (o := o) G hkd rfl hd (by rw [hs]; exact kk)
  unfold ck at h
  rw [hs, if_pos ⟨hc.1, hc.2.1⟩] at h
  exact h
theorem J_bald {c n : Nat} {i : Int} (G : jG u x cc own nL ret rm) (hkd : kd c = 22) (hn : ln c = n) (hd : decode cc pc = .ok (.baload, 1)) (kk : J u x nL Qf (pc + 1) lv (vI (mem c (s32 i)) :: st) mem o) : J u x nL Qf pc lv (vI i :: vR (uB u) c :: st) mem (ck i n o) := by
  obtain ⟨p, e, R, s, m, args, below, meth, cd, cells, slots⟩ := x
  intro r hr H locs ls hP hS hh
  obtain ⟨hc, hk⟩ := ck_some hr
  refine va_bald G.1 G.2.1 G.2.2.2.2.2.1 hP c 0 (by rw [vws_at _ _ _ (kd_lt hkd (by decide)), cellE_arrB hkd]) rfl (ck_in (hn ▸ hc)) hd ?_
  rw [ck_ix hc]
  exact kk r hk H locs ls hP hS hh
theorem J_baldC {c : Nat} {i : Int} (G : jG u x cc own nL ret rm) (hkd : kd c = 22) (hc : 0 ≤ i ∧ i < (ln c : Int) ∧ i < 2147483648) (hd : decode cc pc = .ok (.baload, 1)) (kk : J u x nL Qf (pc + 1) lv (vI (mem c i) :: st) mem o) : J u x nL Qf pc lv (vI i :: vR (uB u) c :: st) mem o := by
  have hs : s32 i = i := by unfold s32; rw [Int.bmod_eq_of_le] <;> omega
  have h := J_bald (o := o) G hkd rfl hd (by rw [hs]; exact kk)
  unfold ck at h
  rw [hs, if_pos ⟨hc.1, hc.2.1⟩] at h
  exact h
theorem J_cald {c n : Nat} {i : Int} (G : jG u x cc own nL ret rm) (hkd : kd c = 23) (hn : ln c = n) (hd : decode cc pc = .ok (.caload, 1)) (kk : J u x nL Qf (pc + 1) lv (vI (mem c (s32 i)) :: st) mem o) : J u x nL Qf pc lv (vI i :: vR (uB u) c :: st) mem (ck i n o) := by
  obtain ⟨p, e, R, s, m, args, below, meth, cd, cells, slots⟩ := x
  intro r hr H locs ls hP hS hh
  obtain ⟨hc, hk⟩ := ck_some hr
  refine va_cald G.1 G.2.1 G.2.2.2.2.2.1 hP c 1 (by rw [vws_at _ _ _ (kd_lt hkd (by decide)), cellE_arrC hkd]) rfl (ck_in (hn ▸ hc)) hd ?_
  rw [ck_ix hc]
  exact kk r hk H locs ls hP hS hh
theorem J_caldC {c : Nat} {i : Int} (G : jG u x cc own nL ret rm) (hkd : kd c = 23) (hc : 0 ≤ i ∧ i < (ln c : Int) ∧ i < 2147483648) (hd : decode cc pc = .ok (.caload, 1)) (kk : J u x nL Qf (pc + 1) lv (vI (mem c i) :: st) mem o) : J u x nL Qf pc lv (vI i :: vR (uB u) c :: st) mem o := by
  have hs : s32 i = i := by unfold s32; rw [Int.bmod_eq_of_le] <;> omega
  have h := J_cald (o := o) G hkd rfl hd (by rw [hs]; exact kk)
  unfold ck at h
  rw [hs, if_pos ⟨hc.1, hc.2.1⟩] at h
  exact h
theorem J_iast {c n : Nat} {i v : Int} (G : jG u x cc own nL ret rm) (hkd : kd c = 20) (hn : ln c = n) (hd : decode cc pc = .ok (.iastore, 1)) (kk : J u x nL Qf (pc + 1) lv st (mset mem c (s32 i) v) o) : J u x nL Qf pc lv (vI v :: vI i :: vR (uB u) c :: st) mem (ck i n o) := by
  obtain ⟨p, e, R, s, m, args, below, meth, cd, cells, slots⟩ := x
  intro r hr H locs ls hP hS hh
  obtain ⟨hc, hk⟩ := ck_some hr
  have hcN := kd_lt hkd (by decide)
  refine va_iast G.1 G.2.1 G.2.2.2.2.2.1 hP (vws_D _ _ _) hS c 2 (by rw [vws_at _ _ _ hcN, cellE_arrI hkd]) rfl (ck_in (hn ▸ hc)) hd ?_
  intro H1 locs1 hP1 _ hS1
  refine kk r hk H1 locs1 ls ?_ hS1 hh
  have hset := vws_set (cy := u.2.2.1) (base := uB u) (mem := mem) (mem' := mset mem c (s32 i) v) hcN (fun c' hc' => cellE_congr (mset_ne _ _ _ _ hc'))
  rw [cellE_arrI hkd] at hset
  rw [← hset]
  have hf : (fun j : Nat => Int32.ofInt (mset mem c (s32 i) v c j)) = upd (fun j : Nat => Int32.ofInt (mem c j)) (Int32.ofInt i).toNatClampNeg (Int32.ofInt v) := by
    have hx := ck_ix hc
    funext j
    unfold upd mset
    by_cases hj : j = (Int32.ofInt i).toNatClampNeg
    · subst hj; rw [hx]; simp
    · have h2 : ¬ (j : Int) = s32 i := by rw [← hx]; omega
      simp [hj, h2]
  rw [hf]
  exact hP1
theorem J_iastC {c : Nat} {i v : Int} (G : jG u x cc own nL ret rm) (hkd : kd c = 20) (hc : 0 ≤ i ∧ i < (ln c : Int) ∧ i < 2147483648) (hd : decode cc pc = .ok (.iastore, 1)) (kk : J u x nL Qf (pc + 1) lv st (mset mem c i v) o) : J u x nL Qf pc lv (vI v :: vI i :: vR (uB u) c :: st) mem o := by
  have hs : s32 i = i := by unfold s32; rw [Int.bmod_eq_of_le] <;> omega
  have h := J_iast (o := o) (v := v) G hkd rfl hd (by rw [hs]; exact kk)
  unfold ck at h
  rw [hs, if_pos ⟨hc.1, hc.2.1⟩] at h
  exact h
theorem J_last {c n : Nat} {i v : Int} (G : jG u x cc own nL ret rm) (hkd : kd c = 21) (hn : ln c = n) (hd : decode cc pc = .ok (.lastore, 1)) (kk : J u x nL Qf (pc + 1) lv st (mset mem c (s32 i) v) o) : J u x nL Qf pc lv (vL v :: vI i :: vR (uB u) c :: st) mem (ck i n o) := by
  obtain ⟨p, e, R, s, m, args, below, meth, cd, cells, slots⟩ := x
  intro r hr H locs ls hP hS hh
  obtain ⟨hc, hk⟩ := ck_some hr
  have hcN := kd_lt hkd (by decide)
  refine va_last G.1 G.2.1 G.2.2.2.2.2.1 hP (vws_D _ _ _) hS c 3 (by rw [vws_at _ _ _ hcN, cellE_arrL hkd]) rfl (ck_in (hn ▸ hc)) hd ?_
  intro H1 locs1 hP1 _ hS1
  refine kk r hk H1 locs1 ls ?_ hS1 hh
  have hset := vws_set (cy := u.2.2.1) (base := uB u) (mem := mem) (mem' := mset mem c (s32 i) v) hcN (fun c' hc' => cellE_congr (mset_ne _ _ _ _ hc'))
  rw [cellE_arrL hkd] at hset
  rw [← hset]
  have hf : (fun j : Nat => Int64.ofInt (mset mem c (s32 i) v c j)) = vp_updL (fun j : Nat => Int64.ofInt (mem c j)) (Int32.ofInt i).toNatClampNeg (Int64.ofInt v) := by
    have hx := ck_ix hc
    funext j
    unfold vp_updL mset
    by_cases hj : j = (Int32.ofInt i).toNatClampNeg
    · subst hj; rw [hx]; simp
    · have h2 : ¬ (j : Int) = s32 i := by rw [← hx]; omega
      simp [hj, h2]
  rw [hf]
  exact hP1
theorem J_lastC {c : Nat} {i v : Int} (G : jG u x cc own nL ret rm) (hkd : kd c = 21) (hc : 0 ≤ i ∧ i < (ln c : Int) ∧ i < 2147483648) (hd : decode cc pc = .ok (.lastore, 1)) (kk : J u x nL Qf (pc + 1) lv st (mset mem c i v) o) : J u x nL Qf pc lv (vL v :: vI i :: vR (uB u) c :: st) mem o := by
  have hs : s32 i = i := by unfold s32; rw [Int.bmod_eq_of_le] <;> omega
  have h := J_last (o := o) (v := v) G hkd rfl hd (by rw [hs]; exact kk)
  unfold ck at h
  rw [hs, if_pos ⟨hc.1, hc.2.1⟩] at h
  exact h
theorem J_bast {c n : Nat} {i v : Int} (G : jG u x cc own nL ret rm) (hkd : kd c = 22) (hn : ln c = n) (hd : decode cc pc = .ok (.bastore, 1)) (kk : J u x nL Qf (pc + 1) lv st (mset mem c (s32 i) (s8 v)) o) : J u x nL Qf pc lv (vI v :: vI i :: vR (uB u) c :: st) mem (ck i n o) := by
  obtain ⟨p, e, R, s, m, args, below, meth, cd, cells, slots⟩ := x
  intro r hr H locs ls hP hS hh
  obtain ⟨hc, hk⟩ := ck_some hr
  have hcN := kd_lt hkd (by decide)
  refine va_bast G.1 G.2.1 G.2.2.2.2.2.1 hP (vws_D _ _ _) hS c 0 (by rw [vws_at _ _ _ hcN, cellE_arrB hkd]) rfl (ck_in (hn ▸ hc)) hd ?_
  intro H1 locs1 hP1 _ hS1
  refine kk r hk H1 locs1 ls ?_ hS1 hh
  have hset := vws_set (cy := u.2.2.1) (base := uB u) (mem := mem) (mem' := mset mem c (s32 i) (s8 v)) hcN (fun c' hc' => cellE_congr (mset_ne _ _ _ _ hc'))
  rw [cellE_arrB hkd] at hset
  rw [← hset]
  have hf : (fun j : Nat => Int32.ofInt (mset mem c (s32 i) (s8 v) c j)) = upd (fun j : Nat => Int32.ofInt (mem c j)) (Int32.ofInt i).toNatClampNeg (vp_nar .byte (Int32.ofInt v)) := by
    have hx := ck_ix hc
    rw [vp_nar_byte, i32_i2b]
    funext j
    unfold upd mset
    by_cases hj : j = (Int32.ofInt i).toNatClampNeg
    · subst hj; rw [hx]; simp
    · have h2 : ¬ (j : Int) = s32 i := by rw [← hx]; omega
      simp [hj, h2]
  rw [hf]
  exact hP1
theorem J_bastC {c : Nat} {i v : Int} (G : jG u x cc own nL ret rm) (hkd : kd c = 22) (hc : 0 ≤ i ∧ i < (ln c : Int) ∧ i < 2147483648) (hd : decode cc pc = .ok (.bastore, 1)) (kk : J u x nL Qf (pc + 1) lv st (mset mem c i (s8 v)) o) : J u x nL Qf pc lv (vI v :: vI i :: vR (uB u) c :: st) mem o := by
  have hs : s32 i = i := by unfold s32; rw [Int.bmod_eq_of_le] <;> omega
  have h := J_bast (o := o) (v := v) G hkd rfl hd (by rw [hs]; exact kk)
  unfold ck at h
  rw [hs, if_pos ⟨hc.1, hc.2.1⟩] at h
  exact h
theorem J_aald {c n : Nat} {i : Int} (G : jG u x cc own nL ret rm) (hkd : kd c = 24) (hn : ln c = n) (hd : decode cc pc = .ok (.aaload, 1)) (kk : (0 ≤ s32 i ∧ s32 i < (n : Int)) → J u x nL Qf (pc + 1) lv (vR (uB u) (c + 1 + 9 * (s32 i).toNat) :: st) mem o) : J u x nL Qf pc lv (vI i :: vR (uB u) c :: st) mem (ck i n o) := by
  obtain ⟨p, e, R, s, m, args, below, meth, cd, cells, slots⟩ := x
  intro r hr H locs ls hP hS hh
  obtain ⟨hc, hk⟩ := ck_some hr
  refine va_aldq (C := "BeamPieces$Beam") G.1 G.2.1 G.2.2.2.2.2.1 hP c 4 (by rw [vws_at _ _ _ (kd_lt hkd (by decide)), cellE_arrR hkd]) rfl (ck_in (hn ▸ hc)) hd ?_
  rw [i32_clamp]
  exact kk hc r hk H locs ls hP hS hh
theorem J_alen {c n : Nat} (G : jG u x cc own nL ret rm) (hkd : kd c = 20 ∨ kd c = 21) (hn : ln c = n) (hd : decode cc pc = .ok (.arraylength, 1)) (kk : J u x nL Qf (pc + 1) lv (vI (n : Int) :: st) mem o) : J u x nL Qf pc lv (vR (uB u) c :: st) mem o := by
  obtain ⟨p, e, R, s, m, args, below, meth, cd, cells, slots⟩ := x
  intro r hr H locs ls hP hS hh
  have e0 : ∀ n : Nat, Int32.ofNat n = Int32.ofInt (n : Int) := fun n => by first | rfl | exact (Int32.ofInt_eq_ofNat).symm | simp
  rcases hkd with hkd | hkd
  · exact va_alen (ty := .int) G.1 G.2.1 G.2.2.2.2.2.1 hP c 2 (by rw [vws_at _ _ _ (kd_lt hkd (by decide)), cellE_arrI hkd]) rfl (by rw [← hn]; exact e0 _) hd (kk r hr H locs ls hP hS hh)
  · exact va_alen (ty := .long) G.1 G.2.1 G.2.2.2.2.2.1 hP c 3 (by rw [vws_at _ _ _ (kd_lt hkd (by decide)), cellE_arrL hkd]) rfl (by rw [← hn]; exact e0 _) hd (kk r hr H locs ls hP hS hh)
end JM
/-! calls and ends -/
theorem jEnv.to {u : jU} {s U : State} (h : jEnv u s) (hW : s.WarmedH U.vm) (hH : ∀ q : Nat, q < s.heap.size → ¬ jA (uB u) q → U.heap[q]? = s.heap[q]?) : jEnv u U := by
  obtain ⟨⟨a1, a2, a3, a4, a5⟩, b1, b2, b3, b4, b5, b6⟩ := h
  exact ⟨⟨a1.warmM hW, a2.warmM hW, a3.warmM hW, a4.warmM hW, a5.warmM hW⟩, (b1.moved hW.alike).kept hH, (b2.moved hW.alike).kept hH, (b3.moved hW.alike).kept hH, fun i hi => (b4 i hi).warm hW, (b5.moved hW.alike).kept hH, (b6.moved hW.alike).kept hH⟩
theorem jEnv.same {u : jU} {s U : State} (h : jEnv u s) (hv : s.vm = U.vm) (hH : U.heap = s.heap) : jEnv u U := by
  obtain ⟨⟨a1, a2, a3, a4, a5⟩, b1, b2, b3, b4, b5, b6⟩ := h
  have al : s.vm.Alike U.vm := hv ▸ Vm.Alike.refl s.vm
  have hk : ∀ q : Nat, q < s.heap.size → ¬ jA (uB u) q → U.heap[q]? = s.heap[q]? := fun q _ _ => by rw [hH]
  exact ⟨⟨a1.same rfl hv, a2.same rfl hv, a3.same rfl hv, a4.same rfl hv, a5.same rfl hv⟩, (b1.moved al).kept hk, (b2.moved al).kept hk, (b3.moved al).kept hk, fun i hi => (b4 i hi).same hv.symm, (b5.moved al).kept hk, (b6.moved al).kept hk⟩
def jMet (u : jU) (y : MethodName) (cc : ByteArray) (nL : Nat) (ret : Option FieldType) (rm : Room) (as : List Value) (mem : Mem) {β : Type} (E : β → Option Value × Mem) (o : Option β) : Prop :=
  ∀ b, o = some b → Met u.1 y (.code y cc nL ret :: jTW) rm (va_Pc as (jPic u mem)) (fun _ st oc t => (oc = .returned (E b).1 ∧ jPic u (E b).2 t) ∧ va_F (jA (uB u)) st t) 0 0 (jA (uB u))
abbrev EpI (mem : Mem) : Int → Option Value × Mem := fun r => (some (vI r), mem)
abbrev EpL (mem : Mem) : Int → Option Value × Mem := fun r => (some (vL r), mem)
abbrev EwI : Int × Mem → Option Value × Mem := fun p => (some (vI p.1), p.2)
abbrev EwL : Int × Mem → Option Value × Mem := fun p => (some (vL p.1), p.2)
abbrev EwV : Mem → Option Value × Mem := fun m => (none, m)
/-- a method that is called: its code's word, its class is there, its name is plain, how many parameters -/
def jSg (y : MethodName) (cc : ByteArray) (nL : Nat) (ret : Option FieldType) (n : Nat) : Prop := Cond.code y cc nL ret ∈ jTW ∧ Cond.initialized y.cls ∈ jTW ∧ (y.cls ≠ "java/lang/invoke/MethodHandle" ∧ y.cls ≠ "java/lang/invoke/VarHandle" ∧ (parseMethodDescriptor y.desc).map (fun d => d.parameters.length) = some n)
def jSgV (y : MethodName) : Prop := Cond.instanceMethod y ∈ jTW ∧ Cond.selects y.cls y y ∈ jTW
def jRm (f l : Nat) : Room := { frames := f, cells := 0, slots := 0, locals := l }
theorem jTW_good {y : MethodName} {cc : ByteArray} {nL : Nat} {ret : Option FieldType} (h : Cond.code y cc nL ret ∈ jTW) : GoodIn jTW (.code y cc nL ret :: jTW) := by
  intro w hw
  have hw : w ∈ jTW := (List.mem_cons.mp hw).elim (fun e => e ▸ h) id
  exact ⟨hw, good_of_word (List.mem_filter.mp hw).2⟩
def jQ (u : jU) (x : jX) {β : Type} (E : β → Option Value × Mem) : β → State → Prop := fun b => match x with
  | (_, _, _, s, _, args, below, _, _, cells, slots) => MQ below (fun _ st oc t => (oc = .returned (E b).1 ∧ jPic u (E b).2 t) ∧ va_F (jA (uB u)) st t) args s cells slots (jA (uB u))
section JC
variable {α β : Type} {u : jU} {x : jX} {cc : ByteArray} {own : String} {nL : Nat} {ret : Option FieldType} {rm : Room} {Qf : α → State → Prop} {pc : Nat} {lv : List (Nat × Value)} {st : List Value} {mem : Mem} {o o' : Option α} {a b : Int}
variable {y : MethodName} {cY : ByteArray} {nY : Nat} {rY : Option FieldType} {f l n idx c ci : Nat} {As stk : List Value} {E : β → Option Value × Mem} {oc : Option β} {k : β → Option α}
theorem jPic.blind {as : List Value} : FrameBlind (va_Pc as (jPic u mem)) := by
  intro a U g mk h
  obtain ⟨h0, h1, h2, h3⟩ := h
  exact ⟨h0, h1, va_K.moved (u := U) (U := U.calling g mk a) (Vm.Alike.refl U.vm) h2, h3.same rfl rfl⟩
/-- behind a call -/
theorem J_after {p : Program} {e : Env} {R : Room} {s : State} {m : MethodId} {args : Array Value} {below : List Frame} {meth : Method} {cd : Code} {cells slots : Nat} {H : Heap} {locs : List Loc} {ls : Array Slot} {Q : State → Prop} {a0 : Array Value} {bb : β} (hS : va_S (jA (uB u)) s.heap H locs)
    (hr : va_Run p u.1 e R s m args below meth cd H locs cells slots 0 0 (F0 m pc ls stk) st ((fun (_ : Array Value) st oc t => (oc = Outcome.returned (E bb).1 ∧ jPic u (E bb).2 t) ∧ va_F (jA (uB u)) st t) a0) (jA (uB u)))
    (kk : ∀ (H1 : Heap) (locs1 : List Loc), va_P u.2.1 vwCl (vws u.2.2.1 (uB u) (E bb).2) H1 → va_S (jA (uB u)) s.heap H1 locs1 → W p u.1 e R s m args below meth cd H1 locs1 cells slots Q (F0 m (pc + 3) ls ((E bb).1.toList ++ st))) : W p u.1 e R s m args below meth cd H locs cells slots Q (F0 m pc ls stk) := by
  intro T hT X
  obtain ⟨v, st₀, t, T', L, h0, X', hL, e1, e2, ⟨⟨hv, hp⟩, hz, hk⟩, stp⟩ := hr T hT X
  cases hv
  rw [h0] at hz hk
  obtain ⟨t2, a1, b1⟩ := kk T'.heap (locs ++ L) (by rw [e1]; exact hp.1) ⟨Nat.le_trans hS.1 (by rw [e1]; exact hz), fun q h1 h2 => by rw [e1, hk q (Nat.lt_of_lt_of_le h1 hS.1) h2]; exact hS.2.1 q h1 h2, fun q hq => by
      rcases List.mem_append.mp hq with h | h
      · exact hS.2.2 q h
      · exact hL q h⟩ T' rfl X'
  exact ⟨t2, stp t2 a1, b1⟩
theorem jPre {p : Program} {e : Env} {R : Room} {s : State} {m : MethodId} {args : Array Value} {below : List Frame} {meth : Method} {cd : Code} {cells slots : Nat} {H : Heap} {locs : List Loc} (G : jG u (p, e, R, s, m, args, below, meth, cd, cells, slots) cc own nL ret rm) (hP : va_P u.2.1 vwCl (vws u.2.2.1 (uB u) mem) H) (hS : va_S (jA (uB u)) s.heap H locs) : ∀ U : State, U.heap = H → s.WarmedH U.vm → va_Pc As (jPic u mem) As.toArray U :=
  fun U hU hW => ⟨rfl, by rw [hU]; exact hP, G.2.2.2.2.2.1.moved hW.alike, G.2.2.2.2.2.2.1.to hW (fun q h1 h2 => by rw [hU]; exact hS.2.1 q h1 h2)⟩
theorem J_callV {C : String} {T : u_T} {N : Nat} {ty : Nat → FieldType} (G : jG u x cc own nL ret rm) (hM : jMet u y cY nY rY (jRm f l) (vR (uB u) c :: As) mem E oc) (hs : jSg y cY nY rY n) (hv : jSgV y) (hw : Cond.methodLink own idx y ∈ jTW) (hC : jCls ci C T N ty) (hkd : kd c = ci) (hyC : y.cls = C)
    (hR : f + 1 ≤ rm.frames ∧ 8 + (nY + 11) + l ≤ rm.locals) (hstk : stk = As.reverse ++ vR (uB u) c :: st) (hn : As.length = n) (hcat : (st.map fun v => v.category).sum ≤ 8) (hd : decode cc pc = .ok (.invokevirtual idx, 3))
    (kk : ∀ bb, J u x nL Qf (pc + 3) lv ((E bb).1.toList ++ st) (E bb).2 (k bb)) : J u x nL Qf pc lv stk mem (oc.bind k) := by
  obtain ⟨p, e, R, s, m, args, below, meth, cd, cells, slots⟩ := x
  intro r hr H locs ls hP hS hh
  cases hoc : oc with
  | none => rw [hoc] at hr; cases hr
  | some bb =>
    rw [hoc] at hr
    subst hyC
    obtain ⟨hx, hb, hml, hown, hts, hK, hE, hlk, hrt, hc1, hc2, hRe⟩ := G
    subst hRe
    have hcN := kd_lt hkd (by have := hC.2.2.2.2.2; omega)
    have hk := kk bb r hr
    refine J_after (a0 := #[]) (bb := bb) (E := E) (u := u) hS (va_runV (As := As) (rest := st) (C := y.cls) (n := n) (b := uB u + c) ⟨hx, hb, hml, hown, hts⟩ (hM bb hoc) ⟨callB_of n hts (jTW_good hs.1) rfl rfl rfl (hts _ hs.2.1) (hts _ hw) hs.2.2 hR, hts _ hv.1, hts _ hv.2⟩ ⟨jPic.blind, ?_, ?_⟩ rfl hn hh.1 hstk ?_ hd ⟨hc1, hc2⟩) (fun H1 locs1 hP1 hS1 => hk H1 locs1 ls hP1 hS1 hh)
    · exact va_recv hK hP (ci := ci) (q0 := c) hC.1 (by rw [vws_at _ _ _ hcN, cellE_obj hkd hC.2.2.2.2.2])
    · exact jPre (e := e) (below := below) (As := vR (uB u) c :: As) ⟨hx, hb, hml, hown, hts, hK, hE, hlk, hrt, hc1, hc2, rfl⟩ hP hS
    · show 2 * 0 + _ ≤ 8; omega
theorem J_callS (G : jG u x cc own nL ret rm) (hM : jMet u y cY nY rY (jRm f l) As mem E oc) (hs : jSg y cY nY rY n) (hv : Cond.static y ∈ jTW) (hw : Cond.methodLink own idx y ∈ jTW)
    (hR : f + 1 ≤ rm.frames ∧ 8 + (nY + 11) + l ≤ rm.locals) (hstk : stk = As.reverse ++ st) (hn : As.length = n) (hcat : (st.map fun v => v.category).sum ≤ 8) (hd : decode cc pc = .ok (.invokestatic idx, 3))
    (kk : ∀ bb, J u x nL Qf (pc + 3) lv ((E bb).1.toList ++ st) (E bb).2 (k bb)) : J u x nL Qf pc lv stk mem (oc.bind k) := by
  obtain ⟨p, e, R, s, m, args, below, meth, cd, cells, slots⟩ := x
  intro r hr H locs ls hP hS hh
  cases hoc : oc with
  | none => rw [hoc] at hr; cases hr
  | some bb =>
    rw [hoc] at hr
    obtain ⟨hx, hb, hml, hown, hts, hK, hE, hlk, hrt, hc1, hc2, hRe⟩ := G
    subst hRe
    have hk := kk bb r hr
    refine J_after (a0 := #[]) (bb := bb) (E := E) (u := u) hS (va_runS (As := As) (rest := st) (n := n) ⟨hx, hb, hml, hown, hts⟩ (hM bb hoc) ⟨callB_of n hts (jTW_good hs.1) rfl rfl rfl (hts _ hs.2.1) (hts _ hw) hs.2.2 hR, hts _ hv⟩ ⟨jPic.blind, ?_⟩ rfl hn hh.1 hstk ?_ hd ⟨hc1, hc2⟩) (fun H1 locs1 hP1 hS1 => hk H1 locs1 ls hP1 hS1 hh)
    · exact jPre (e := e) (below := below) (As := As) ⟨hx, hb, hml, hown, hts, hK, hE, hlk, hrt, hc1, hc2, rfl⟩ hP hS
    · show 2 * 0 + _ ≤ 8; omega
theorem J_callN {host : String} (G : jG u x cc own nL ret rm) (hM : jMet u y cY nY rY (jRm f l) As mem E oc) (hs : jSg y cY nY rY n) (hv : Cond.static y ∈ jTW) (hw : ∀ U, jNest U → va_Nw (.methodLinkNest own idx y host) U)
    (hR : f + 1 ≤ rm.frames ∧ 8 + (nY + 11) + l ≤ rm.locals) (hstk : stk = As.reverse ++ st) (hn : As.length = n) (hcat : (st.map fun v => v.category).sum ≤ 8) (hd : decode cc pc = .ok (.invokestatic idx, 3))
    (kk : ∀ bb, J u x nL Qf (pc + 3) lv ((E bb).1.toList ++ st) (E bb).2 (k bb)) : J u x nL Qf pc lv stk mem (oc.bind k) := by
  obtain ⟨p, e, R, s, m, args, below, meth, cd, cells, slots⟩ := x
  intro r hr H locs ls hP hS hh
  cases hoc : oc with
  | none => rw [hoc] at hr; cases hr
  | some bb =>
    rw [hoc] at hr
    obtain ⟨hx, hb, hml, hown, hts, hK, hE, hlk, hrt, hc1, hc2, hRe⟩ := G
    subst hRe
    have hk := kk bb r hr
    refine J_after (a0 := #[]) (bb := bb) (E := E) (u := u) hS (va_runSN (As := As) (rest := st) (n := n) (host := host) ⟨hx, hb, hml, hown, hts⟩ (hM bb hoc) ⟨va_cnB n hts (jTW_good hs.1) rfl rfl rfl (hw _ hE.1) (hts _ hs.2.1) hs.2.2 hR, hts _ hv, trivial⟩ ⟨jPic.blind, ?_⟩ rfl hn hh.1 hstk ?_ hd ⟨hc1, hc2⟩) (fun H1 locs1 hP1 hS1 => hk H1 locs1 ls hP1 hS1 hh)
    · exact jPre (e := e) (below := below) (As := As) ⟨hx, hb, hml, hown, hts, hK, hE, hlk, hrt, hc1, hc2, rfl⟩ hP hS
    · show 2 * 0 + _ ≤ 8; omega
theorem jEnd {p : Program} {e : Env} {R : Room} {s : State} {m : MethodId} {args : Array Value} {below : List Frame} {meth : Method} {cd : Code} {cells slots : Nat} {H : Heap} {locs : List Loc} (G : jG u (p, e, R, s, m, args, below, meth, cd, cells, slots) cc own nL ret rm) (hP : va_P u.2.1 vwCl (vws u.2.2.1 (uB u) mem) H) (hS : va_S (jA (uB u)) s.heap H locs) {t : State} (ht : t.heap = H) (hW : s.WarmedH t.vm) : jPic u mem t ∧ va_F (jA (uB u)) s t :=
  ⟨⟨by rw [ht]; exact hP, G.2.2.2.2.2.1.moved hW.alike, G.2.2.2.2.2.2.1.to hW (fun q h1 h2 => by rw [ht]; exact hS.2.1 q h1 h2)⟩, hS.F ht⟩
theorem J_iret {bb : β} (G : jG u x cc own nL (some .int) rm) (hd : decode cc pc = .ok (.ireturn, 1)) (hE : E bb = (some (vI a), mem)) : J u x nL (jQ u x E) pc lv [vI a] mem (some bb) := by
  obtain ⟨p, e, R, s, m, args, below, meth, cd, cells, slots⟩ := x
  intro r hr H locs ls hP hS hh
  cases hr
  show W p u.1 e R s m args below meth cd H locs cells slots (MQ below (fun _ st oc t => (oc = .returned (E bb).1 ∧ jPic u (E bb).2 t) ∧ va_F (jA (uB u)) st t) args s cells slots (jA (uB u))) (F0 m pc ls [.int (Int32.ofInt a)])
  refine W.iret G.1 G.2.1 G.2.2.2.2.2.2.2.2.1 (fun t ht hW => ?_) hS.2.2 hd G.2.2.2.2.2.2.2.1
  obtain ⟨h1, h2⟩ := jEnd G hP hS ht hW
  exact ⟨⟨by rw [hE]; rfl, by rw [hE]; exact h1⟩, h2⟩
theorem J_zret {bb : β} {ty : FieldType} (G : jG u x cc own nL (some ty) rm) (hd : decode cc pc = .ok (.ireturn, 1)) (hn : narrow ty (vI a) = vI a) (hE : E bb = (some (vI a), mem)) : J u x nL (jQ u x E) pc lv [vI a] mem (some bb) := by
  obtain ⟨p, e, R, s, m, args, below, meth, cd, cells, slots⟩ := x
  intro r hr H locs ls hP hS hh
  cases hr
  show W p u.1 e R s m args below meth cd H locs cells slots (MQ below (fun _ st oc t => (oc = .returned (E bb).1 ∧ jPic u (E bb).2 t) ∧ va_F (jA (uB u)) st t) args s cells slots (jA (uB u))) (F0 m pc ls [.int (Int32.ofInt a)])
  refine W.zret G.1 G.2.1 G.2.2.2.2.2.2.2.2.1 hn (fun t ht hW => ?_) hS.2.2 hd G.2.2.2.2.2.2.2.1
  obtain ⟨h1, h2⟩ := jEnd G hP hS ht hW
  exact ⟨⟨by rw [hE]; rfl, by rw [hE]; exact h1⟩, h2⟩
theorem J_lret {bb : β} (G : jG u x cc own nL (some .long) rm) (hd : decode cc pc = .ok (.lreturn, 1)) (hE : E bb = (some (vL a), mem)) : J u x nL (jQ u x E) pc lv [vL a] mem (some bb) := by
  obtain ⟨p, e, R, s, m, args, below, meth, cd, cells, slots⟩ := x
  intro r hr H locs ls hP hS hh
  cases hr
  show W p u.1 e R s m args below meth cd H locs cells slots (MQ below (fun _ st oc t => (oc = .returned (E bb).1 ∧ jPic u (E bb).2 t) ∧ va_F (jA (uB u)) st t) args s cells slots (jA (uB u))) (F0 m pc ls [.long (Int64.ofInt a)])
  refine W.lret G.1 G.2.1 G.2.2.2.2.2.2.2.2.1 (fun t ht hW => ?_) hS.2.2 hd G.2.2.2.2.2.2.2.1
  obtain ⟨h1, h2⟩ := jEnd G hP hS ht hW
  exact ⟨⟨by rw [hE]; rfl, by rw [hE]; exact h1⟩, h2⟩
theorem J_vret {bb : β} (G : jG u x cc own nL none rm) (hd : decode cc pc = .ok (.return_, 1)) (hE : E bb = (none, mem)) : J u x nL (jQ u x E) pc lv [] mem (some bb) := by
  obtain ⟨p, e, R, s, m, args, below, meth, cd, cells, slots⟩ := x
  intro r hr H locs ls hP hS hh
  cases hr
  show W p u.1 e R s m args below meth cd H locs cells slots (MQ below (fun _ st oc t => (oc = .returned (E bb).1 ∧ jPic u (E bb).2 t) ∧ va_F (jA (uB u)) st t) args s cells slots (jA (uB u))) (F0 m pc ls [])
  refine W.vret G.1 G.2.1 G.2.2.2.2.2.2.2.2.1 (fun t ht hW => ?_) hS.2.2 hd G.2.2.2.2.2.2.2.1
  obtain ⟨h1, h2⟩ := jEnd G hP hS ht hW
  exact ⟨⟨by rw [hE], by rw [hE]; exact h1⟩, h2⟩
theorem jMet_of {as : List Value} (hy : plainName y.cls = true) (hl : (lg_sl as).length ≤ nY) (body : ∀ x : jX, jG u x cY y.cls nY rY (jRm f l) → J u x nY (jQ u x E) 0 (lv_args 0 as) [] mem oc) : jMet u y cY nY rY (jRm f l) as mem E oc := by
  intro bb hb
  refine Met.ofW (cc := cY) (maxL := nY) (ret := rY) hy rfl ?_
  intro p e s m args below meth c s₁ B hml hv
  obtain ⟨rfl, hP, hK, hE⟩ := hv
  have hts := atoms_spec (ws := .code y cY nY rY :: jTW) B.pre
  have h := body (p, e, jRm f l, s, m, as.toArray, below, meth, c, 0, 0) ⟨B.exec, B.bytes, hml, findClass_of_methodNamed B.named, fun w hw => hts w (List.mem_cons_of_mem _ hw), hK, hE, B.notSynchronized, B.returns, Nat.zero_le _, Nat.zero_le _, rfl⟩ bb hb
  rw [lg_entry_eq]
  exact h s.heap [] _ hP va_S.rf (lv_entry as hl)
end JC
end
section
section JO
variable {α : Type} {u : jU} {x : jX} {cc : ByteArray} {own : String} {nL : Nat} {ret : Option FieldType} {rm : Room} {Qf : α → State → Prop} {pc : Nat} {lv : List (Nat × Value)} {st : List Value} {mem : Mem} {o o' : Option α} {a b : Int}
theorem J_split {P : Prop} [Decidable P] (k1 : P → J u x nL Qf pc lv st mem o) (k2 : ¬ P → J u x nL Qf pc lv st mem o') : J u x nL Qf pc lv st mem (if P then o else o') := by
  by_cases h : P
  · rw [if_pos h]; exact k1 h
  · rw [if_neg h]; exact k2 h
theorem J_tableIn {dflt lo hi off v : Int} {offs : Array Int} {len : Nat} (tgt : Nat) (G : jG u x cc own nL ret rm) (hd : decode cc pc = .ok (.tableswitch dflt lo hi offs, len)) (hx : s32 a = v) (h1 : ¬ v < lo) (h2 : ¬ hi < v) (ho : offs[(v - lo).toNat]? = some off) (ht : (pc : Int) + off = (tgt : Int)) (k : J u x nL Qf tgt lv st mem o) : J u x nL Qf pc lv (vI a :: st) mem o := by
  obtain ⟨p, e, R, s, m, args, below, meth, c, cells, slots⟩ := x
  intro r hr H locs ls hP hS hh
  subst hx
  exact lv_tableIn G.1 G.2.1 hd (by rw [s32_toInt]; exact h1) (by rw [s32_toInt]; exact h2) (by rw [s32_toInt]; exact ho) ht (k r hr H locs ls hP hS hh)
theorem J_tableOut {dflt lo hi : Int} {offs : Array Int} {len : Nat} (tgt : Nat) (G : jG u x cc own nL ret rm) (hd : decode cc pc = .ok (.tableswitch dflt lo hi offs, len)) (hx : s32 a < lo ∨ hi < s32 a) (ht : (pc : Int) + dflt = (tgt : Int)) (k : J u x nL Qf tgt lv st mem o) : J u x nL Qf pc lv (vI a :: st) mem o := by
  obtain ⟨p, e, R, s, m, args, below, meth, c, cells, slots⟩ := x
  intro r hr H locs ls hP hS hh
  exact lv_tableOut G.1 G.2.1 hd (by rw [s32_toInt]; exact hx) ht (k r hr H locs ls hP hS hh)
theorem J_lookup {dflt off : Int} {ps : Array (Int × Int)} {len : Nat} (tgt : Nat) (G : jG u x cc own nL ret rm) (hd : decode cc pc = .ok (.lookupswitch dflt ps, len)) (hp : (ps.toList.zip (ps.toList.drop 1)).all (fun (a, next) => a.1 < next.1) = true) (ho : Op.lookupswitch.offset ps.toList dflt (s32 a) = off) (ht : (pc : Int) + off = (tgt : Int)) (k : J u x nL Qf tgt lv st mem o) : J u x nL Qf pc lv (vI a :: st) mem o := by
  obtain ⟨p, e, R, s, m, args, below, meth, c, cells, slots⟩ := x
  intro r hr H locs ls hP hS hh
  exact lv_lookup G.1 G.2.1 hd hp (by rw [s32_toInt]; exact ho) ht (k r hr H locs ls hP hS hh)
def mcpy (m : Mem) (c d : Nat) (n : Int) : Mem := fun c' i => if c' = d ∧ 0 ≤ i ∧ i < n then m c i else m c' i
theorem mcpy_ne (m : Mem) (c d : Nat) (n : Int) {c' : Nat} (h : c' ≠ d) : mcpy m c d n c' = m c' := by funext i; simp [mcpy, h]
theorem mcpy_va (mem : Mem) (c d n : Nat) : (fun j : Nat => Int32.ofInt (mcpy mem c d (n : Int) d j)) = va_cpy (fun j : Nat => Int32.ofInt (mem c j)) (fun j : Nat => Int32.ofInt (mem d j)) 0 0 n := by
  funext j
  unfold mcpy va_cpy
  by_cases hj : j < n
  · rw [if_pos ⟨rfl, by omega, by omega⟩, if_pos ⟨Nat.zero_le _, by omega⟩]
    simp
  · rw [if_neg (by omega), if_neg (by omega)]
theorem cpy_n {n : Nat} (h3 : n < 2147483648) : (Int32.ofInt (n : Int)).toNatClampNeg = n ∧ ¬ Int32.ofInt (n : Int) < 0 := by
  have sn : s32 (n : Int) = (n : Int) := by unfold s32; rw [Int.bmod_eq_of_le] <;> omega
  refine ⟨by rw [i32_clamp, sn]; exact Int.toNat_natCast n, by rw [i32_lt0, sn]; omega⟩
theorem J_copyI {c d idx n : Nat} (G : jG u x cc own nL ret rm) (hw : Cond.methodLink own idx arraycopyName ∈ jTW) (hn1 : Cond.native arraycopyName ∈ jTW) (hn2 : Cond.static arraycopyName ∈ jTW) (hn3 : Cond.initialized "java/lang/System" ∈ jTW) (hkc : kd c = 20) (hkd : kd d = 20) (h1 : n ≤ ln c) (h2 : n ≤ ln d) (h3 : n < 2147483648)
    (hR : 1 ≤ rm.frames ∧ (st.map fun v => v.category).sum + (nativeFrameWords "java/lang/System" "arraycopy" 5 + 11) ≤ rm.locals) (hd : decode cc pc = .ok (.invokestatic idx, 3))
    (kk : J u x nL Qf (pc + 3) lv st (mcpy mem c d (n : Int)) o) : J u x nL Qf pc lv (vI (n : Int) :: vI 0 :: vR (uB u) d :: vI 0 :: vR (uB u) c :: st) mem o := by
  obtain ⟨p, e, R, s, m, args, below, meth, cd, cells, slots⟩ := x
  intro r hr H locs ls hP hS hh
  obtain ⟨hx, hb, hml, hown, hts, hK, hE, hlk, hrt, hc1, hc2, hRe⟩ := G
  subst hRe
  have hcN := kd_lt hkc (by decide)
  have hdN := kd_lt hkd (by decide)
  have z0 : (Int32.ofInt 0).toNatClampNeg = 0 := by decide +kernel
  obtain ⟨zn, zp⟩ := cpy_n h3
  refine va_copyi (sp := Int32.ofInt 0) (dp := Int32.ofInt 0) (n := Int32.ofInt (n : Int)) hx hb (hml.trans hh.1.symm) hown (hts _ hw) (hts _ hn1) (hts _ hn2) (hts _ hn3) hK hP (vws_D _ _ _) hS c d 2 2 (by rw [vws_at _ _ _ hcN, cellE_arrI hkc]) (by rw [vws_at _ _ _ hdN, cellE_arrI hkd]) rfl rfl rfl (by decide +kernel) (by decide +kernel) zp (by rw [z0, zn, Nat.zero_add]; exact h1) (by rw [z0, zn, Nat.zero_add]; exact h2) (fun i _ => rfl) hR.1 hR.2 hd ?_
  intro H1 locs1 hP1 _ hS1
  refine kk r hr H1 locs1 ls ?_ hS1 hh
  have hset := vws_set (cy := u.2.2.1) (base := uB u) (mem := mem) (mem' := mcpy mem c d (n : Int)) hdN (fun c' hc' => cellE_congr (mcpy_ne _ _ _ _ hc'))
  rw [cellE_arrI hkd] at hset
  rw [← hset]
  have hf := mcpy_va mem c d n
  rw [z0, zn] at hP1
  rw [hf]
  exact hP1
theorem J_imax {idx : Nat} (G : jG u x cc own nL ret rm) (hw : Cond.methodLink own idx Lib.Math.max.name ∈ jTW) (h1 : Cond.static Lib.Math.max.name ∈ jTW) (h2 : Cond.initialized "java/lang/Math" ∈ jTW) (h3 : Cond.code Lib.Math.max.name Lib.Math.max.code 2 (some .int) ∈ jTW) (hR : 1 ≤ rm.frames ∧ (st.map fun v => v.category).sum + 13 ≤ rm.locals) (hd : decode cc pc = .ok (.invokestatic idx, 3)) (kk : J u x nL Qf (pc + 3) lv (vI (if s32 a < s32 b then b else a) :: st) mem o) : J u x nL Qf pc lv (vI b :: vI a :: st) mem o := by
  obtain ⟨p, e, R, s, m, args, below, meth, cd, cells, slots⟩ := x
  intro r hr H locs ls hP hS hh
  obtain ⟨hx, hb, hml, hown, hts, hK, hE, hlk, hrt, hc1, hc2, hRe⟩ := G
  subst hRe
  refine va_mmax hx hb (hml.trans hh.1.symm) hown (hts _ hw) (hts _ h1) (hts _ h2) (hts _ h3) hR.1 hR.2 hc1 hc2 hd ?_
  have k := kk r hr H locs ls hP hS hh
  by_cases h : s32 a < s32 b
  · rw [if_pos h] at k; rw [if_pos ((i32_lt a b).mpr h)]; exact k
  · rw [if_neg h] at k; rw [if_neg (fun z => h ((i32_lt a b).mp z))]; exact k
theorem J_imin {idx : Nat} (G : jG u x cc own nL ret rm) (hw : Cond.methodLink own idx Lib.Math.min.name ∈ jTW) (h1 : Cond.static Lib.Math.min.name ∈ jTW) (h2 : Cond.initialized "java/lang/Math" ∈ jTW) (h3 : Cond.code Lib.Math.min.name Lib.Math.min.code 2 (some .int) ∈ jTW) (hR : 1 ≤ rm.frames ∧ (st.map fun v => v.category).sum + 13 ≤ rm.locals) (hd : decode cc pc = .ok (.invokestatic idx, 3)) (kk : J u x nL Qf (pc + 3) lv (vI (if s32 b < s32 a then b else a) :: st) mem o) : J u x nL Qf pc lv (vI b :: vI a :: st) mem o := by
  obtain ⟨p, e, R, s, m, args, below, meth, cd, cells, slots⟩ := x
  intro r hr H locs ls hP hS hh
  obtain ⟨hx, hb, hml, hown, hts, hK, hE, hlk, hrt, hc1, hc2, hRe⟩ := G
  subst hRe
  refine va_mmin hx hb (hml.trans hh.1.symm) hown (hts _ hw) (hts _ h1) (hts _ h2) (hts _ h3) hR.1 hR.2 hc1 hc2 hd ?_
  have k := kk r hr H locs ls hP hS hh
  by_cases h : s32 b < s32 a
  · rw [if_pos h] at k; rw [if_pos ((i32_lt b a).mpr h)]; exact k
  · rw [if_neg h] at k; rw [if_neg (fun z => h ((i32_lt b a).mp z))]; exact k
theorem J_lmax {idx : Nat} (G : jG u x cc own nL ret rm) (hw : Cond.methodLink own idx Lib.MathLoose.max_long.x ∈ jTW) (h1 : Cond.static Lib.MathLoose.max_long.x ∈ jTW) (h2 : Cond.initialized "java/lang/Math" ∈ jTW) (h3 : Cond.code Lib.MathLoose.max_long.x Lib.MathLoose.max_long.code 4 (some .long) ∈ jTW) (hR : 1 ≤ rm.frames ∧ (st.map fun v => v.category).sum + 15 ≤ rm.locals) (hd : decode cc pc = .ok (.invokestatic idx, 3)) (kk : J u x nL Qf (pc + 3) lv (vL (if s64 b < s64 a then a else b) :: st) mem o) : J u x nL Qf pc lv (vL b :: vL a :: st) mem o := by
  obtain ⟨p, e, R, s, m, args, below, meth, cd, cells, slots⟩ := x
  intro r hr H locs ls hP hS hh
  obtain ⟨hx, hb, hml, hown, hts, hK, hE, hlk, hrt, hc1, hc2, hRe⟩ := G
  subst hRe
  refine va_mmax_long hx hb (hml.trans hh.1.symm) hown (hts _ hw) (hts _ h1) (hts _ h2) (hts _ h3) hR.1 hR.2 hc1 hc2 hd ?_
  have k := kk r hr H locs ls hP hS hh
  by_cases h : s64 b < s64 a
  · rw [if_pos h] at k; rw [if_pos ((i64_lt b a).mpr h)]; exact k
  · rw [if_neg h] at k; rw [if_neg (fun z => h ((i64_lt b a).mp z))]; exact k
theorem J_lmin {idx : Nat} (G : jG u x cc own nL ret rm) (hw : Cond.methodLink own idx Lib.MathLoose.min_long.x ∈ jTW) (h1 : Cond.static Lib.MathLoose.min_long.x ∈ jTW) (h2 : Cond.initialized "java/lang/Math" ∈ jTW) (h3 : Cond.code Lib.MathLoose.min_long.x Lib.MathLoose.min_long.code 4 (some .long) ∈ jTW) (hR : 1 ≤ rm.frames ∧ (st.map fun v => v.category).sum + 15 ≤ rm.locals) (hd : decode cc pc = .ok (.invokestatic idx, 3)) (kk : J u x nL Qf (pc + 3) lv (vL (if s64 b < s64 a then b else a) :: st) mem o) : J u x nL Qf pc lv (vL b :: vL a :: st) mem o := by
  obtain ⟨p, e, R, s, m, args, below, meth, cd, cells, slots⟩ := x
  intro r hr H locs ls hP hS hh
  obtain ⟨hx, hb, hml, hown, hts, hK, hE, hlk, hrt, hc1, hc2, hRe⟩ := G
  subst hRe
  refine va_mmin_long hx hb (hml.trans hh.1.symm) hown (hts _ hw) (hts _ h1) (hts _ h2) (hts _ h3) hR.1 hR.2 hc1 hc2 hd ?_
  have k := kk r hr H locs ls hP hS hh
  by_cases h : s64 b < s64 a
  · rw [if_pos h] at k; rw [if_pos ((i64_lt b a).mpr h)]; exact k
  · rw [if_neg h] at k; rw [if_neg (fun z => h ((i64_lt b a).mp z))]; exact k
theorem J_labs {idx : Nat} (G : jG u x cc own nL ret rm) (hw : Cond.methodLink own idx Lib.MathLoose.abs_long.x ∈ jTW) (h1 : Cond.static Lib.MathLoose.abs_long.x ∈ jTW) (h2 : Cond.initialized "java/lang/Math" ∈ jTW) (h3 : Cond.code Lib.MathLoose.abs_long.x Lib.MathLoose.abs_long.code 2 (some .long) ∈ jTW) (hR : 1 ≤ rm.frames ∧ (st.map fun v => v.category).sum + 13 ≤ rm.locals) (hd : decode cc pc = .ok (.invokestatic idx, 3)) (kk : J u x nL Qf (pc + 3) lv (vL (if 0 < s64 a then a else -a) :: st) mem o) : J u x nL Qf pc lv (vL a :: st) mem o := by
  obtain ⟨p, e, R, s, m, args, below, meth, cd, cells, slots⟩ := x
  intro r hr H locs ls hP hS hh
  obtain ⟨hx, hb, hml, hown, hts, hK, hE, hlk, hrt, hc1, hc2, hRe⟩ := G
  subst hRe
  refine va_mabs_long hx hb (hml.trans hh.1.symm) hown (hts _ hw) (hts _ h1) (hts _ h2) (hts _ h3) hR.1 hR.2 hc1 hc2 hd ?_
  have k := kk r hr H locs ls hP hS hh
  have i0 : 0 < Int64.ofInt a ↔ 0 < s64 a := by rw [show (0 : Int64) = Int64.ofInt 0 by decide +kernel, i64_lt, s64_0]
  by_cases h : 0 < s64 a
  · rw [if_pos h] at k; rw [if_pos (i0.mpr h)]; exact k
  · rw [if_neg h, vL, Int64.ofInt_neg] at k; rw [if_neg (fun z => h (i0.mp z))]; exact k
theorem J_lxor (G : jG u x cc own nL ret rm) (hd : decode cc pc = .ok (.lxor, 1)) (k : J u x nL Qf (pc + 1) lv (vL (Int64.ofInt a ^^^ Int64.ofInt b).toInt :: st) mem o) : J u x nL Qf pc lv (vL b :: vL a :: st) mem o := by
  obtain ⟨p, e, R, s, m, args, below, meth, c, cells, slots⟩ := x
  intro r hr H locs ls hP hS hl
  have k := k r hr H locs ls hP hS hl
  rw [vL, i64_of] at k
  exact lv_lxor G.1 G.2.1 hd k
end JO
end
