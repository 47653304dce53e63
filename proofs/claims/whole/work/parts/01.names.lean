-- ===== PART A: goes FIRST, ahead of the names: the tables' words, and 'selects' of the private methods out of them =====
/-- a private method of a class that the tables say can be made, by its rows of tables_1 -/
def lw_okq (q : MethodName × Nat) : Prop := (q.1.cls ≠ "java/lang/invoke/MethodHandle" ∧ q.1.cls ≠ "java/lang/invoke/VarHandle") ∧ Cond.instantiable q.1.cls q.2 ∈ tables_1 ∧ Cond.privateMethod q.1 ∈ tables_1 ∧ Cond.instanceMethod q.1 ∈ tables_1
theorem lw_p0 : lw_okq (⟨"FrothShire$Froth", "settle", "()V"⟩, 10) := ⟨⟨by decide +kernel, by decide +kernel⟩, List.mem_of_getElem? (i := 40) (by decide +kernel), List.mem_of_getElem? (i := 380) (by decide +kernel), List.mem_of_getElem? (i := 381) (by decide +kernel)⟩
theorem lw_p1 : lw_okq (⟨"FrothShire$Reader", "advance", "()V"⟩, 12) := ⟨⟨by decide +kernel, by decide +kernel⟩, List.mem_of_getElem? (i := 28) (by decide +kernel), List.mem_of_getElem? (i := 391) (by decide +kernel), List.mem_of_getElem? (i := 392) (by decide +kernel)⟩
theorem lw_p2 : lw_okq (⟨"FrothShire$Reader", "isLetter", "(I)Z"⟩, 12) := ⟨⟨by decide +kernel, by decide +kernel⟩, List.mem_of_getElem? (i := 28) (by decide +kernel), List.mem_of_getElem? (i := 395) (by decide +kernel), List.mem_of_getElem? (i := 396) (by decide +kernel)⟩
theorem lw_p3 : lw_okq (⟨"FrothShire$Reader", "scanWord", "()V"⟩, 12) := ⟨⟨by decide +kernel, by decide +kernel⟩, List.mem_of_getElem? (i := 28) (by decide +kernel), List.mem_of_getElem? (i := 399) (by decide +kernel), List.mem_of_getElem? (i := 400) (by decide +kernel)⟩
theorem lw_p4 : lw_okq (⟨"FrothShire$Reader", "blame", "(I)V"⟩, 12) := ⟨⟨by decide +kernel, by decide +kernel⟩, List.mem_of_getElem? (i := 28) (by decide +kernel), List.mem_of_getElem? (i := 404) (by decide +kernel), List.mem_of_getElem? (i := 405) (by decide +kernel)⟩
theorem lw_p5 : lw_okq (⟨"FrothShire$Reader", "isSpelled", "(I)Z"⟩, 12) := ⟨⟨by decide +kernel, by decide +kernel⟩, List.mem_of_getElem? (i := 28) (by decide +kernel), List.mem_of_getElem? (i := 408) (by decide +kernel), List.mem_of_getElem? (i := 409) (by decide +kernel)⟩
theorem lw_p6 : lw_okq (⟨"FrothShire$Reader", "isDigit", "(I)Z"⟩, 12) := ⟨⟨by decide +kernel, by decide +kernel⟩, List.mem_of_getElem? (i := 28) (by decide +kernel), List.mem_of_getElem? (i := 453) (by decide +kernel), List.mem_of_getElem? (i := 454) (by decide +kernel)⟩
theorem lw_p7 : lw_okq (⟨"FrothShire$Reader", "scanNumber", "()V"⟩, 12) := ⟨⟨by decide +kernel, by decide +kernel⟩, List.mem_of_getElem? (i := 28) (by decide +kernel), List.mem_of_getElem? (i := 457) (by decide +kernel), List.mem_of_getElem? (i := 458) (by decide +kernel)⟩
theorem lw_p8 : lw_okq (⟨"FrothShire$Reader", "isWord", "(I)Z"⟩, 12) := ⟨⟨by decide +kernel, by decide +kernel⟩, List.mem_of_getElem? (i := 28) (by decide +kernel), List.mem_of_getElem? (i := 528) (by decide +kernel), List.mem_of_getElem? (i := 529) (by decide +kernel)⟩
theorem lw_p9 : lw_okq (⟨"FrothShire$Reader", "readLord", "()V"⟩, 12) := ⟨⟨by decide +kernel, by decide +kernel⟩, List.mem_of_getElem? (i := 28) (by decide +kernel), List.mem_of_getElem? (i := 532) (by decide +kernel), List.mem_of_getElem? (i := 533) (by decide +kernel)⟩
theorem lw_p10 : lw_okq (⟨"FrothShire$Reader", "takeWord", "(I)V"⟩, 12) := ⟨⟨by decide +kernel, by decide +kernel⟩, List.mem_of_getElem? (i := 28) (by decide +kernel), List.mem_of_getElem? (i := 540) (by decide +kernel), List.mem_of_getElem? (i := 541) (by decide +kernel)⟩
theorem lw_p11 : lw_okq (⟨"FrothShire$Reader", "takeNumber", "(I)I"⟩, 12) := ⟨⟨by decide +kernel, by decide +kernel⟩, List.mem_of_getElem? (i := 28) (by decide +kernel), List.mem_of_getElem? (i := 544) (by decide +kernel), List.mem_of_getElem? (i := 545) (by decide +kernel)⟩
theorem lw_p12 : lw_okq (⟨"FrothShire$Reader", "readCorner", "()I"⟩, 12) := ⟨⟨by decide +kernel, by decide +kernel⟩, List.mem_of_getElem? (i := 28) (by decide +kernel), List.mem_of_getElem? (i := 548) (by decide +kernel), List.mem_of_getElem? (i := 549) (by decide +kernel)⟩
theorem lw_p13 : lw_okq (⟨"FrothShire$Reader", "lordHere", "()I"⟩, 12) := ⟨⟨by decide +kernel, by decide +kernel⟩, List.mem_of_getElem? (i := 28) (by decide +kernel), List.mem_of_getElem? (i := 552) (by decide +kernel), List.mem_of_getElem? (i := 553) (by decide +kernel)⟩
theorem lw_p14 : lw_okq (⟨"FrothShire$Reader", "takeSign", "(C)V"⟩, 12) := ⟨⟨by decide +kernel, by decide +kernel⟩, List.mem_of_getElem? (i := 28) (by decide +kernel), List.mem_of_getElem? (i := 560) (by decide +kernel), List.mem_of_getElem? (i := 561) (by decide +kernel)⟩
theorem lw_p15 : lw_okq (⟨"FrothShire$Reader", "isSign", "(C)Z"⟩, 12) := ⟨⟨by decide +kernel, by decide +kernel⟩, List.mem_of_getElem? (i := 28) (by decide +kernel), List.mem_of_getElem? (i := 564) (by decide +kernel), List.mem_of_getElem? (i := 565) (by decide +kernel)⟩
def lw_privs_1 : List (MethodName × Nat) := [(⟨"FrothShire$Froth", "settle", "()V"⟩, 10), (⟨"FrothShire$Reader", "advance", "()V"⟩, 12), (⟨"FrothShire$Reader", "isLetter", "(I)Z"⟩, 12), (⟨"FrothShire$Reader", "scanWord", "()V"⟩, 12), (⟨"FrothShire$Reader", "blame", "(I)V"⟩, 12), (⟨"FrothShire$Reader", "isSpelled", "(I)Z"⟩, 12), (⟨"FrothShire$Reader", "isDigit", "(I)Z"⟩, 12), (⟨"FrothShire$Reader", "scanNumber", "()V"⟩, 12), (⟨"FrothShire$Reader", "isWord", "(I)Z"⟩, 12), (⟨"FrothShire$Reader", "readLord", "()V"⟩, 12), (⟨"FrothShire$Reader", "takeWord", "(I)V"⟩, 12), (⟨"FrothShire$Reader", "takeNumber", "(I)I"⟩, 12), (⟨"FrothShire$Reader", "readCorner", "()I"⟩, 12), (⟨"FrothShire$Reader", "lordHere", "()I"⟩, 12), (⟨"FrothShire$Reader", "takeSign", "(C)V"⟩, 12), (⟨"FrothShire$Reader", "isSign", "(C)Z"⟩, 12)]
theorem lw_r1 : ∀ q ∈ lw_privs_1, lw_okq q := List.forall_mem_cons.mpr ⟨lw_p0, List.forall_mem_cons.mpr ⟨lw_p1, List.forall_mem_cons.mpr ⟨lw_p2, List.forall_mem_cons.mpr ⟨lw_p3, List.forall_mem_cons.mpr ⟨lw_p4, List.forall_mem_cons.mpr ⟨lw_p5, List.forall_mem_cons.mpr ⟨lw_p6, List.forall_mem_cons.mpr ⟨lw_p7, List.forall_mem_cons.mpr ⟨lw_p8, List.forall_mem_cons.mpr ⟨lw_p9, List.forall_mem_cons.mpr ⟨lw_p10, List.forall_mem_cons.mpr ⟨lw_p11, List.forall_mem_cons.mpr ⟨lw_p12, List.forall_mem_cons.mpr ⟨lw_p13, List.forall_mem_cons.mpr ⟨lw_p14, List.forall_mem_cons.mpr ⟨lw_p15, fun _ h => absurd h List.not_mem_nil⟩⟩⟩⟩⟩⟩⟩⟩⟩⟩⟩⟩⟩⟩⟩⟩
theorem lw_p16 : lw_okq (⟨"FrothShire$Froth", "addCorner", "(I)V"⟩, 10) := ⟨⟨by decide +kernel, by decide +kernel⟩, List.mem_of_getElem? (i := 40) (by decide +kernel), List.mem_of_getElem? (i := 576) (by decide +kernel), List.mem_of_getElem? (i := 577) (by decide +kernel)⟩
theorem lw_p17 : lw_okq (⟨"FrothShire$Froth", "dropOneCorner", "(I)V"⟩, 10) := ⟨⟨by decide +kernel, by decide +kernel⟩, List.mem_of_getElem? (i := 40) (by decide +kernel), List.mem_of_getElem? (i := 580) (by decide +kernel), List.mem_of_getElem? (i := 581) (by decide +kernel)⟩
theorem lw_p18 : lw_okq (⟨"FrothShire$Reader", "readFlip", "()V"⟩, 12) := ⟨⟨by decide +kernel, by decide +kernel⟩, List.mem_of_getElem? (i := 28) (by decide +kernel), List.mem_of_getElem? (i := 584) (by decide +kernel), List.mem_of_getElem? (i := 585) (by decide +kernel)⟩
theorem lw_p19 : lw_okq (⟨"FrothShire$Froth", "dropCornersOf", "(I)V"⟩, 10) := ⟨⟨by decide +kernel, by decide +kernel⟩, List.mem_of_getElem? (i := 40) (by decide +kernel), List.mem_of_getElem? (i := 609) (by decide +kernel), List.mem_of_getElem? (i := 610) (by decide +kernel)⟩
theorem lw_p20 : lw_okq (⟨"FrothShire$Reader", "readGrows", "()V"⟩, 12) := ⟨⟨by decide +kernel, by decide +kernel⟩, List.mem_of_getElem? (i := 28) (by decide +kernel), List.mem_of_getElem? (i := 613) (by decide +kernel), List.mem_of_getElem? (i := 614) (by decide +kernel)⟩
theorem lw_p21 : lw_okq (⟨"FrothShire$Reader", "readPart", "(II)V"⟩, 12) := ⟨⟨by decide +kernel, by decide +kernel⟩, List.mem_of_getElem? (i := 28) (by decide +kernel), List.mem_of_getElem? (i := 617) (by decide +kernel), List.mem_of_getElem? (i := 618) (by decide +kernel)⟩
theorem lw_p22 : lw_okq (⟨"FrothShire$Reader", "readUnit", "(I)V"⟩, 12) := ⟨⟨by decide +kernel, by decide +kernel⟩, List.mem_of_getElem? (i := 28) (by decide +kernel), List.mem_of_getElem? (i := 621) (by decide +kernel), List.mem_of_getElem? (i := 622) (by decide +kernel)⟩
theorem lw_p23 : lw_okq (⟨"FrothShire$Reader", "mayNest", "(I)Z"⟩, 12) := ⟨⟨by decide +kernel, by decide +kernel⟩, List.mem_of_getElem? (i := 28) (by decide +kernel), List.mem_of_getElem? (i := 625) (by decide +kernel), List.mem_of_getElem? (i := 626) (by decide +kernel)⟩
theorem lw_p24 : lw_okq (⟨"FrothShire$Reader", "givenHere", "()I"⟩, 12) := ⟨⟨by decide +kernel, by decide +kernel⟩, List.mem_of_getElem? (i := 28) (by decide +kernel), List.mem_of_getElem? (i := 629) (by decide +kernel), List.mem_of_getElem? (i := 630) (by decide +kernel)⟩
theorem lw_p25 : lw_okq (⟨"FrothShire$Reader", "opHere", "(I)I"⟩, 12) := ⟨⟨by decide +kernel, by decide +kernel⟩, List.mem_of_getElem? (i := 28) (by decide +kernel), List.mem_of_getElem? (i := 637) (by decide +kernel), List.mem_of_getElem? (i := 638) (by decide +kernel)⟩
theorem lw_p26 : lw_okq (⟨"FrothShire$Reader", "readStraw", "()V"⟩, 12) := ⟨⟨by decide +kernel, by decide +kernel⟩, List.mem_of_getElem? (i := 28) (by decide +kernel), List.mem_of_getElem? (i := 641) (by decide +kernel), List.mem_of_getElem? (i := 642) (by decide +kernel)⟩
theorem lw_p27 : lw_okq (⟨"FrothShire$Reader", "readDraw", "()V"⟩, 12) := ⟨⟨by decide +kernel, by decide +kernel⟩, List.mem_of_getElem? (i := 28) (by decide +kernel), List.mem_of_getElem? (i := 645) (by decide +kernel), List.mem_of_getElem? (i := 646) (by decide +kernel)⟩
theorem lw_p28 : lw_okq (⟨"FrothShire$Formula", "run", "()I"⟩, 5) := ⟨⟨by decide +kernel, by decide +kernel⟩, List.mem_of_getElem? (i := 100) (by decide +kernel), List.mem_of_getElem? (i := 697) (by decide +kernel), List.mem_of_getElem? (i := 698) (by decide +kernel)⟩
theorem lw_p29 : lw_okq (⟨"FrothShire", "areTwo", "(II)Z"⟩, 13) := ⟨⟨by decide +kernel, by decide +kernel⟩, List.mem_of_getElem? (i := 20) (by decide +kernel), List.mem_of_getElem? (i := 715) (by decide +kernel), List.mem_of_getElem? (i := 716) (by decide +kernel)⟩
theorem lw_p30 : lw_okq (⟨"FrothShire$Froth", "wither", "(I)V"⟩, 10) := ⟨⟨by decide +kernel, by decide +kernel⟩, List.mem_of_getElem? (i := 40) (by decide +kernel), List.mem_of_getElem? (i := 772) (by decide +kernel), List.mem_of_getElem? (i := 773) (by decide +kernel)⟩
theorem lw_p31 : lw_okq (⟨"FrothShire$Froth", "leave", "(I)V"⟩, 10) := ⟨⟨by decide +kernel, by decide +kernel⟩, List.mem_of_getElem? (i := 40) (by decide +kernel), List.mem_of_getElem? (i := 776) (by decide +kernel), List.mem_of_getElem? (i := 777) (by decide +kernel)⟩
def lw_privs_2 : List (MethodName × Nat) := [(⟨"FrothShire$Froth", "addCorner", "(I)V"⟩, 10), (⟨"FrothShire$Froth", "dropOneCorner", "(I)V"⟩, 10), (⟨"FrothShire$Reader", "readFlip", "()V"⟩, 12), (⟨"FrothShire$Froth", "dropCornersOf", "(I)V"⟩, 10), (⟨"FrothShire$Reader", "readGrows", "()V"⟩, 12), (⟨"FrothShire$Reader", "readPart", "(II)V"⟩, 12), (⟨"FrothShire$Reader", "readUnit", "(I)V"⟩, 12), (⟨"FrothShire$Reader", "mayNest", "(I)Z"⟩, 12), (⟨"FrothShire$Reader", "givenHere", "()I"⟩, 12), (⟨"FrothShire$Reader", "opHere", "(I)I"⟩, 12), (⟨"FrothShire$Reader", "readStraw", "()V"⟩, 12), (⟨"FrothShire$Reader", "readDraw", "()V"⟩, 12), (⟨"FrothShire$Formula", "run", "()I"⟩, 5), (⟨"FrothShire", "areTwo", "(II)Z"⟩, 13), (⟨"FrothShire$Froth", "wither", "(I)V"⟩, 10), (⟨"FrothShire$Froth", "leave", "(I)V"⟩, 10)]
theorem lw_r2 : ∀ q ∈ lw_privs_2, lw_okq q := List.forall_mem_cons.mpr ⟨lw_p16, List.forall_mem_cons.mpr ⟨lw_p17, List.forall_mem_cons.mpr ⟨lw_p18, List.forall_mem_cons.mpr ⟨lw_p19, List.forall_mem_cons.mpr ⟨lw_p20, List.forall_mem_cons.mpr ⟨lw_p21, List.forall_mem_cons.mpr ⟨lw_p22, List.forall_mem_cons.mpr ⟨lw_p23, List.forall_mem_cons.mpr ⟨lw_p24, List.forall_mem_cons.mpr ⟨lw_p25, List.forall_mem_cons.mpr ⟨lw_p26, List.forall_mem_cons.mpr ⟨lw_p27, List.forall_mem_cons.mpr ⟨lw_p28, List.forall_mem_cons.mpr ⟨lw_p29, List.forall_mem_cons.mpr ⟨lw_p30, List.forall_mem_cons.mpr ⟨lw_p31, fun _ h => absurd h List.not_mem_nil⟩⟩⟩⟩⟩⟩⟩⟩⟩⟩⟩⟩⟩⟩⟩⟩
theorem lw_p32 : lw_okq (⟨"FrothShire", "lookAhead", "(II)V"⟩, 13) := ⟨⟨by decide +kernel, by decide +kernel⟩, List.mem_of_getElem? (i := 20) (by decide +kernel), List.mem_of_getElem? (i := 839) (by decide +kernel), List.mem_of_getElem? (i := 840) (by decide +kernel)⟩
theorem lw_p33 : lw_okq (⟨"FrothShire", "isSavedBy", "(IIII)Z"⟩, 13) := ⟨⟨by decide +kernel, by decide +kernel⟩, List.mem_of_getElem? (i := 20) (by decide +kernel), List.mem_of_getElem? (i := 864) (by decide +kernel), List.mem_of_getElem? (i := 865) (by decide +kernel)⟩
theorem lw_p34 : lw_okq (⟨"FrothShire", "sizeBehindFlip", "(IIII)I"⟩, 13) := ⟨⟨by decide +kernel, by decide +kernel⟩, List.mem_of_getElem? (i := 20) (by decide +kernel), List.mem_of_getElem? (i := 872) (by decide +kernel), List.mem_of_getElem? (i := 873) (by decide +kernel)⟩
theorem lw_p35 : lw_okq (⟨"FrothShire$Duel", "mayBe", "(II)Z"⟩, 6) := ⟨⟨by decide +kernel, by decide +kernel⟩, List.mem_of_getElem? (i := 246) (by decide +kernel), List.mem_of_getElem? (i := 888) (by decide +kernel), List.mem_of_getElem? (i := 889) (by decide +kernel)⟩
theorem lw_p36 : lw_okq (⟨"FrothShire$Duel", "isRest", "(II)Z"⟩, 6) := ⟨⟨by decide +kernel, by decide +kernel⟩, List.mem_of_getElem? (i := 246) (by decide +kernel), List.mem_of_getElem? (i := 894) (by decide +kernel), List.mem_of_getElem? (i := 895) (by decide +kernel)⟩
theorem lw_p37 : lw_okq (⟨"FrothShire$Puzzles", "colourFrom", "(LFrothShire$Froth;II)Z"⟩, 3) := ⟨⟨by decide +kernel, by decide +kernel⟩, List.mem_of_getElem? (i := 229) (by decide +kernel), List.mem_of_getElem? (i := 923) (by decide +kernel), List.mem_of_getElem? (i := 924) (by decide +kernel)⟩
theorem lw_p38 : lw_okq (⟨"FrothShire$Puzzles", "isFree", "(LFrothShire$Froth;II)Z"⟩, 3) := ⟨⟨by decide +kernel, by decide +kernel⟩, List.mem_of_getElem? (i := 229) (by decide +kernel), List.mem_of_getElem? (i := 928) (by decide +kernel), List.mem_of_getElem? (i := 929) (by decide +kernel)⟩
theorem lw_p39 : lw_okq (⟨"FrothShire", "layDown", "(I)V"⟩, 13) := ⟨⟨by decide +kernel, by decide +kernel⟩, List.mem_of_getElem? (i := 20) (by decide +kernel), List.mem_of_getElem? (i := 933) (by decide +kernel), List.mem_of_getElem? (i := 934) (by decide +kernel)⟩
theorem lw_p40 : lw_okq (⟨"FrothShire$Puzzles", "pairFrom", "(LFrothShire$Froth;II)V"⟩, 3) := ⟨⟨by decide +kernel, by decide +kernel⟩, List.mem_of_getElem? (i := 229) (by decide +kernel), List.mem_of_getElem? (i := 945) (by decide +kernel), List.mem_of_getElem? (i := 946) (by decide +kernel)⟩
theorem lw_p41 : lw_okq (⟨"FrothShire$Memory", "findSides", "(LFrothShire$Telling;LFrothShire$Froth;)V"⟩, 10) := ⟨⟨by decide +kernel, by decide +kernel⟩, List.mem_of_getElem? (i := 273) (by decide +kernel), List.mem_of_getElem? (i := 1012) (by decide +kernel), List.mem_of_getElem? (i := 1013) (by decide +kernel)⟩
theorem lw_p42 : lw_okq (⟨"FrothShire$Memory", "agreesWithAll", "(II)Z"⟩, 10) := ⟨⟨by decide +kernel, by decide +kernel⟩, List.mem_of_getElem? (i := 273) (by decide +kernel), List.mem_of_getElem? (i := 1018) (by decide +kernel), List.mem_of_getElem? (i := 1019) (by decide +kernel)⟩
theorem lw_p43 : lw_okq (⟨"FrothShireModel", "four", "(I)V"⟩, 62) := ⟨⟨by decide +kernel, by decide +kernel⟩, List.mem_of_getElem? (i := 1051) (by decide +kernel), List.mem_of_getElem? (i := 1248) (by decide +kernel), List.mem_of_getElem? (i := 1249) (by decide +kernel)⟩
theorem lw_p44 : lw_okq (⟨"FrothShireModel", "readAll", "()V"⟩, 62) := ⟨⟨by decide +kernel, by decide +kernel⟩, List.mem_of_getElem? (i := 1051) (by decide +kernel), List.mem_of_getElem? (i := 1260) (by decide +kernel), List.mem_of_getElem? (i := 1261) (by decide +kernel)⟩
theorem lw_p45 : lw_okq (⟨"FrothShireModel", "token", "()V"⟩, 62) := ⟨⟨by decide +kernel, by decide +kernel⟩, List.mem_of_getElem? (i := 1051) (by decide +kernel), List.mem_of_getElem? (i := 1264) (by decide +kernel), List.mem_of_getElem? (i := 1265) (by decide +kernel)⟩
theorem lw_p46 : lw_okq (⟨"FrothShireModel", "here", "(I)I"⟩, 62) := ⟨⟨by decide +kernel, by decide +kernel⟩, List.mem_of_getElem? (i := 1051) (by decide +kernel), List.mem_of_getElem? (i := 1268) (by decide +kernel), List.mem_of_getElem? (i := 1269) (by decide +kernel)⟩
theorem lw_p47 : lw_okq (⟨"FrothShireModel", "readLine", "()V"⟩, 62) := ⟨⟨by decide +kernel, by decide +kernel⟩, List.mem_of_getElem? (i := 1051) (by decide +kernel), List.mem_of_getElem? (i := 1281) (by decide +kernel), List.mem_of_getElem? (i := 1282) (by decide +kernel)⟩
def lw_privs_3 : List (MethodName × Nat) := [(⟨"FrothShire", "lookAhead", "(II)V"⟩, 13), (⟨"FrothShire", "isSavedBy", "(IIII)Z"⟩, 13), (⟨"FrothShire", "sizeBehindFlip", "(IIII)I"⟩, 13), (⟨"FrothShire$Duel", "mayBe", "(II)Z"⟩, 6), (⟨"FrothShire$Duel", "isRest", "(II)Z"⟩, 6), (⟨"FrothShire$Puzzles", "colourFrom", "(LFrothShire$Froth;II)Z"⟩, 3), (⟨"FrothShire$Puzzles", "isFree", "(LFrothShire$Froth;II)Z"⟩, 3), (⟨"FrothShire", "layDown", "(I)V"⟩, 13), (⟨"FrothShire$Puzzles", "pairFrom", "(LFrothShire$Froth;II)V"⟩, 3), (⟨"FrothShire$Memory", "findSides", "(LFrothShire$Telling;LFrothShire$Froth;)V"⟩, 10), (⟨"FrothShire$Memory", "agreesWithAll", "(II)Z"⟩, 10), (⟨"FrothShireModel", "four", "(I)V"⟩, 62), (⟨"FrothShireModel", "readAll", "()V"⟩, 62), (⟨"FrothShireModel", "token", "()V"⟩, 62), (⟨"FrothShireModel", "here", "(I)I"⟩, 62), (⟨"FrothShireModel", "readLine", "()V"⟩, 62)]
theorem lw_r3 : ∀ q ∈ lw_privs_3, lw_okq q := List.forall_mem_cons.mpr ⟨lw_p32, List.forall_mem_cons.mpr ⟨lw_p33, List.forall_mem_cons.mpr ⟨lw_p34, List.forall_mem_cons.mpr ⟨lw_p35, List.forall_mem_cons.mpr ⟨lw_p36, List.forall_mem_cons.mpr ⟨lw_p37, List.forall_mem_cons.mpr ⟨lw_p38, List.forall_mem_cons.mpr ⟨lw_p39, List.forall_mem_cons.mpr ⟨lw_p40, List.forall_mem_cons.mpr ⟨lw_p41, List.forall_mem_cons.mpr ⟨lw_p42, List.forall_mem_cons.mpr ⟨lw_p43, List.forall_mem_cons.mpr ⟨lw_p44, List.forall_mem_cons.mpr ⟨lw_p45, List.forall_mem_cons.mpr ⟨lw_p46, List.forall_mem_cons.mpr ⟨lw_p47, fun _ h => absurd h List.not_mem_nil⟩⟩⟩⟩⟩⟩⟩⟩⟩⟩⟩⟩⟩⟩⟩⟩
theorem lw_p48 : lw_okq (⟨"FrothShireModel", "isWord", "(J)Z"⟩, 62) := ⟨⟨by decide +kernel, by decide +kernel⟩, List.mem_of_getElem? (i := 1051) (by decide +kernel), List.mem_of_getElem? (i := 1286) (by decide +kernel), List.mem_of_getElem? (i := 1287) (by decide +kernel)⟩
theorem lw_p49 : lw_okq (⟨"FrothShireModel", "readLord", "()V"⟩, 62) := ⟨⟨by decide +kernel, by decide +kernel⟩, List.mem_of_getElem? (i := 1051) (by decide +kernel), List.mem_of_getElem? (i := 1290) (by decide +kernel), List.mem_of_getElem? (i := 1291) (by decide +kernel)⟩
theorem lw_p50 : lw_okq (⟨"FrothShireModel", "newName", "()V"⟩, 62) := ⟨⟨by decide +kernel, by decide +kernel⟩, List.mem_of_getElem? (i := 1051) (by decide +kernel), List.mem_of_getElem? (i := 1294) (by decide +kernel), List.mem_of_getElem? (i := 1295) (by decide +kernel)⟩
theorem lw_p51 : lw_okq (⟨"FrothShireModel", "isName", "()Z"⟩, 62) := ⟨⟨by decide +kernel, by decide +kernel⟩, List.mem_of_getElem? (i := 1051) (by decide +kernel), List.mem_of_getElem? (i := 1298) (by decide +kernel), List.mem_of_getElem? (i := 1299) (by decide +kernel)⟩
theorem lw_p52 : lw_okq (⟨"FrothShireModel", "isOwn", "()Z"⟩, 62) := ⟨⟨by decide +kernel, by decide +kernel⟩, List.mem_of_getElem? (i := 1051) (by decide +kernel), List.mem_of_getElem? (i := 1302) (by decide +kernel), List.mem_of_getElem? (i := 1303) (by decide +kernel)⟩
theorem lw_p53 : lw_okq (⟨"FrothShireModel", "wrong", "(I)V"⟩, 62) := ⟨⟨by decide +kernel, by decide +kernel⟩, List.mem_of_getElem? (i := 1051) (by decide +kernel), List.mem_of_getElem? (i := 1319) (by decide +kernel), List.mem_of_getElem? (i := 1320) (by decide +kernel)⟩
theorem lw_p54 : lw_okq (⟨"FrothShireModel", "find", "()I"⟩, 62) := ⟨⟨by decide +kernel, by decide +kernel⟩, List.mem_of_getElem? (i := 1051) (by decide +kernel), List.mem_of_getElem? (i := 1323) (by decide +kernel), List.mem_of_getElem? (i := 1324) (by decide +kernel)⟩
theorem lw_p55 : lw_okq (⟨"FrothShireModel", "told", "(JI)I"⟩, 62) := ⟨⟨by decide +kernel, by decide +kernel⟩, List.mem_of_getElem? (i := 1051) (by decide +kernel), List.mem_of_getElem? (i := 1327) (by decide +kernel), List.mem_of_getElem? (i := 1328) (by decide +kernel)⟩
theorem lw_p56 : lw_okq (⟨"FrothShireModel", "want", "(J)V"⟩, 62) := ⟨⟨by decide +kernel, by decide +kernel⟩, List.mem_of_getElem? (i := 1051) (by decide +kernel), List.mem_of_getElem? (i := 1331) (by decide +kernel), List.mem_of_getElem? (i := 1332) (by decide +kernel)⟩
theorem lw_p57 : lw_okq (⟨"FrothShireModel", "toldNumber", "(I)I"⟩, 62) := ⟨⟨by decide +kernel, by decide +kernel⟩, List.mem_of_getElem? (i := 1051) (by decide +kernel), List.mem_of_getElem? (i := 1335) (by decide +kernel), List.mem_of_getElem? (i := 1336) (by decide +kernel)⟩
theorem lw_p58 : lw_okq (⟨"FrothShireModel", "readBirth", "()V"⟩, 62) := ⟨⟨by decide +kernel, by decide +kernel⟩, List.mem_of_getElem? (i := 1051) (by decide +kernel), List.mem_of_getElem? (i := 1339) (by decide +kernel), List.mem_of_getElem? (i := 1340) (by decide +kernel)⟩
theorem lw_p59 : lw_okq (⟨"FrothShireModel", "oldLord", "()I"⟩, 62) := ⟨⟨by decide +kernel, by decide +kernel⟩, List.mem_of_getElem? (i := 1051) (by decide +kernel), List.mem_of_getElem? (i := 1343) (by decide +kernel), List.mem_of_getElem? (i := 1344) (by decide +kernel)⟩
theorem lw_p60 : lw_okq (⟨"FrothShireModel", "isCorner", "(I)Z"⟩, 62) := ⟨⟨by decide +kernel, by decide +kernel⟩, List.mem_of_getElem? (i := 1051) (by decide +kernel), List.mem_of_getElem? (i := 1356) (by decide +kernel), List.mem_of_getElem? (i := 1357) (by decide +kernel)⟩
theorem lw_p61 : lw_okq (⟨"FrothShireModel", "takeCorner", "(I)V"⟩, 62) := ⟨⟨by decide +kernel, by decide +kernel⟩, List.mem_of_getElem? (i := 1051) (by decide +kernel), List.mem_of_getElem? (i := 1360) (by decide +kernel), List.mem_of_getElem? (i := 1361) (by decide +kernel)⟩
theorem lw_p62 : lw_okq (⟨"FrothShireModel", "addCorner", "(III)V"⟩, 62) := ⟨⟨by decide +kernel, by decide +kernel⟩, List.mem_of_getElem? (i := 1051) (by decide +kernel), List.mem_of_getElem? (i := 1364) (by decide +kernel), List.mem_of_getElem? (i := 1365) (by decide +kernel)⟩
theorem lw_p63 : lw_okq (⟨"FrothShireModel", "readFlip", "()V"⟩, 62) := ⟨⟨by decide +kernel, by decide +kernel⟩, List.mem_of_getElem? (i := 1051) (by decide +kernel), List.mem_of_getElem? (i := 1368) (by decide +kernel), List.mem_of_getElem? (i := 1369) (by decide +kernel)⟩
def lw_privs_4 : List (MethodName × Nat) := [(⟨"FrothShireModel", "isWord", "(J)Z"⟩, 62), (⟨"FrothShireModel", "readLord", "()V"⟩, 62), (⟨"FrothShireModel", "newName", "()V"⟩, 62), (⟨"FrothShireModel", "isName", "()Z"⟩, 62), (⟨"FrothShireModel", "isOwn", "()Z"⟩, 62), (⟨"FrothShireModel", "wrong", "(I)V"⟩, 62), (⟨"FrothShireModel", "find", "()I"⟩, 62), (⟨"FrothShireModel", "told", "(JI)I"⟩, 62), (⟨"FrothShireModel", "want", "(J)V"⟩, 62), (⟨"FrothShireModel", "toldNumber", "(I)I"⟩, 62), (⟨"FrothShireModel", "readBirth", "()V"⟩, 62), (⟨"FrothShireModel", "oldLord", "()I"⟩, 62), (⟨"FrothShireModel", "isCorner", "(I)Z"⟩, 62), (⟨"FrothShireModel", "takeCorner", "(I)V"⟩, 62), (⟨"FrothShireModel", "addCorner", "(III)V"⟩, 62), (⟨"FrothShireModel", "readFlip", "()V"⟩, 62)]
theorem lw_r4 : ∀ q ∈ lw_privs_4, lw_okq q := List.forall_mem_cons.mpr ⟨lw_p48, List.forall_mem_cons.mpr ⟨lw_p49, List.forall_mem_cons.mpr ⟨lw_p50, List.forall_mem_cons.mpr ⟨lw_p51, List.forall_mem_cons.mpr ⟨lw_p52, List.forall_mem_cons.mpr ⟨lw_p53, List.forall_mem_cons.mpr ⟨lw_p54, List.forall_mem_cons.mpr ⟨lw_p55, List.forall_mem_cons.mpr ⟨lw_p56, List.forall_mem_cons.mpr ⟨lw_p57, List.forall_mem_cons.mpr ⟨lw_p58, List.forall_mem_cons.mpr ⟨lw_p59, List.forall_mem_cons.mpr ⟨lw_p60, List.forall_mem_cons.mpr ⟨lw_p61, List.forall_mem_cons.mpr ⟨lw_p62, List.forall_mem_cons.mpr ⟨lw_p63, fun _ h => absurd h List.not_mem_nil⟩⟩⟩⟩⟩⟩⟩⟩⟩⟩⟩⟩⟩⟩⟩⟩
theorem lw_p64 : lw_okq (⟨"FrothShireModel", "canFlip", "(II)Z"⟩, 62) := ⟨⟨by decide +kernel, by decide +kernel⟩, List.mem_of_getElem? (i := 1051) (by decide +kernel), List.mem_of_getElem? (i := 1372) (by decide +kernel), List.mem_of_getElem? (i := 1373) (by decide +kernel)⟩
theorem lw_p65 : lw_okq (⟨"FrothShireModel", "doBorder", "(II)Z"⟩, 62) := ⟨⟨by decide +kernel, by decide +kernel⟩, List.mem_of_getElem? (i := 1051) (by decide +kernel), List.mem_of_getElem? (i := 1376) (by decide +kernel), List.mem_of_getElem? (i := 1377) (by decide +kernel)⟩
theorem lw_p66 : lw_okq (⟨"FrothShireModel", "bordersOf", "(I)I"⟩, 62) := ⟨⟨by decide +kernel, by decide +kernel⟩, List.mem_of_getElem? (i := 1051) (by decide +kernel), List.mem_of_getElem? (i := 1380) (by decide +kernel), List.mem_of_getElem? (i := 1381) (by decide +kernel)⟩
theorem lw_p67 : lw_okq (⟨"FrothShireModel", "third", "(III)I"⟩, 62) := ⟨⟨by decide +kernel, by decide +kernel⟩, List.mem_of_getElem? (i := 1051) (by decide +kernel), List.mem_of_getElem? (i := 1390) (by decide +kernel), List.mem_of_getElem? (i := 1391) (by decide +kernel)⟩
theorem lw_p68 : lw_okq (⟨"FrothShireModel", "sidesOf", "(I)I"⟩, 62) := ⟨⟨by decide +kernel, by decide +kernel⟩, List.mem_of_getElem? (i := 1051) (by decide +kernel), List.mem_of_getElem? (i := 1394) (by decide +kernel), List.mem_of_getElem? (i := 1395) (by decide +kernel)⟩
theorem lw_p69 : lw_okq (⟨"FrothShireModel", "doFlip", "(II)I"⟩, 62) := ⟨⟨by decide +kernel, by decide +kernel⟩, List.mem_of_getElem? (i := 1051) (by decide +kernel), List.mem_of_getElem? (i := 1401) (by decide +kernel), List.mem_of_getElem? (i := 1402) (by decide +kernel)⟩
theorem lw_p70 : lw_okq (⟨"FrothShireModel", "formula", "()V"⟩, 62) := ⟨⟨by decide +kernel, by decide +kernel⟩, List.mem_of_getElem? (i := 1051) (by decide +kernel), List.mem_of_getElem? (i := 1405) (by decide +kernel), List.mem_of_getElem? (i := 1406) (by decide +kernel)⟩
theorem lw_p71 : lw_okq (⟨"FrothShireModel", "unit", "()V"⟩, 62) := ⟨⟨by decide +kernel, by decide +kernel⟩, List.mem_of_getElem? (i := 1051) (by decide +kernel), List.mem_of_getElem? (i := 1409) (by decide +kernel), List.mem_of_getElem? (i := 1410) (by decide +kernel)⟩
theorem lw_p72 : lw_okq (⟨"FrothShireModel", "mayNot", "()Z"⟩, 62) := ⟨⟨by decide +kernel, by decide +kernel⟩, List.mem_of_getElem? (i := 1051) (by decide +kernel), List.mem_of_getElem? (i := 1413) (by decide +kernel), List.mem_of_getElem? (i := 1414) (by decide +kernel)⟩
theorem lw_p73 : lw_okq (⟨"FrothShireModel", "openUp", "(I)V"⟩, 62) := ⟨⟨by decide +kernel, by decide +kernel⟩, List.mem_of_getElem? (i := 1051) (by decide +kernel), List.mem_of_getElem? (i := 1420) (by decide +kernel), List.mem_of_getElem? (i := 1421) (by decide +kernel)⟩
theorem lw_p74 : lw_okq (⟨"FrothShireModel", "isFull", "()Z"⟩, 62) := ⟨⟨by decide +kernel, by decide +kernel⟩, List.mem_of_getElem? (i := 1051) (by decide +kernel), List.mem_of_getElem? (i := 1424) (by decide +kernel), List.mem_of_getElem? (i := 1425) (by decide +kernel)⟩
theorem lw_p75 : lw_okq (⟨"FrothShireModel", "countUnit", "()V"⟩, 62) := ⟨⟨by decide +kernel, by decide +kernel⟩, List.mem_of_getElem? (i := 1051) (by decide +kernel), List.mem_of_getElem? (i := 1428) (by decide +kernel), List.mem_of_getElem? (i := 1429) (by decide +kernel)⟩
theorem lw_p76 : lw_okq (⟨"FrothShireModel", "asked", "()I"⟩, 62) := ⟨⟨by decide +kernel, by decide +kernel⟩, List.mem_of_getElem? (i := 1051) (by decide +kernel), List.mem_of_getElem? (i := 1432) (by decide +kernel), List.mem_of_getElem? (i := 1433) (by decide +kernel)⟩
theorem lw_p77 : lw_okq (⟨"FrothShireModel", "add", "(II)V"⟩, 62) := ⟨⟨by decide +kernel, by decide +kernel⟩, List.mem_of_getElem? (i := 1051) (by decide +kernel), List.mem_of_getElem? (i := 1436) (by decide +kernel), List.mem_of_getElem? (i := 1437) (by decide +kernel)⟩
theorem lw_p78 : lw_okq (⟨"FrothShireModel", "sign", "()I"⟩, 62) := ⟨⟨by decide +kernel, by decide +kernel⟩, List.mem_of_getElem? (i := 1051) (by decide +kernel), List.mem_of_getElem? (i := 1440) (by decide +kernel), List.mem_of_getElem? (i := 1441) (by decide +kernel)⟩
theorem lw_p79 : lw_okq (⟨"FrothShireModel", "hasBracket", "()Z"⟩, 62) := ⟨⟨by decide +kernel, by decide +kernel⟩, List.mem_of_getElem? (i := 1051) (by decide +kernel), List.mem_of_getElem? (i := 1444) (by decide +kernel), List.mem_of_getElem? (i := 1445) (by decide +kernel)⟩
def lw_privs_5 : List (MethodName × Nat) := [(⟨"FrothShireModel", "canFlip", "(II)Z"⟩, 62), (⟨"FrothShireModel", "doBorder", "(II)Z"⟩, 62), (⟨"FrothShireModel", "bordersOf", "(I)I"⟩, 62), (⟨"FrothShireModel", "third", "(III)I"⟩, 62), (⟨"FrothShireModel", "sidesOf", "(I)I"⟩, 62), (⟨"FrothShireModel", "doFlip", "(II)I"⟩, 62), (⟨"FrothShireModel", "formula", "()V"⟩, 62), (⟨"FrothShireModel", "unit", "()V"⟩, 62), (⟨"FrothShireModel", "mayNot", "()Z"⟩, 62), (⟨"FrothShireModel", "openUp", "(I)V"⟩, 62), (⟨"FrothShireModel", "isFull", "()Z"⟩, 62), (⟨"FrothShireModel", "countUnit", "()V"⟩, 62), (⟨"FrothShireModel", "asked", "()I"⟩, 62), (⟨"FrothShireModel", "add", "(II)V"⟩, 62), (⟨"FrothShireModel", "sign", "()I"⟩, 62), (⟨"FrothShireModel", "hasBracket", "()Z"⟩, 62)]
theorem lw_r5 : ∀ q ∈ lw_privs_5, lw_okq q := List.forall_mem_cons.mpr ⟨lw_p64, List.forall_mem_cons.mpr ⟨lw_p65, List.forall_mem_cons.mpr ⟨lw_p66, List.forall_mem_cons.mpr ⟨lw_p67, List.forall_mem_cons.mpr ⟨lw_p68, List.forall_mem_cons.mpr ⟨lw_p69, List.forall_mem_cons.mpr ⟨lw_p70, List.forall_mem_cons.mpr ⟨lw_p71, List.forall_mem_cons.mpr ⟨lw_p72, List.forall_mem_cons.mpr ⟨lw_p73, List.forall_mem_cons.mpr ⟨lw_p74, List.forall_mem_cons.mpr ⟨lw_p75, List.forall_mem_cons.mpr ⟨lw_p76, List.forall_mem_cons.mpr ⟨lw_p77, List.forall_mem_cons.mpr ⟨lw_p78, List.forall_mem_cons.mpr ⟨lw_p79, fun _ h => absurd h List.not_mem_nil⟩⟩⟩⟩⟩⟩⟩⟩⟩⟩⟩⟩⟩⟩⟩⟩
theorem lw_p80 : lw_okq (⟨"FrothShireModel", "close", "(I)V"⟩, 62) := ⟨⟨by decide +kernel, by decide +kernel⟩, List.mem_of_getElem? (i := 1051) (by decide +kernel), List.mem_of_getElem? (i := 1448) (by decide +kernel), List.mem_of_getElem? (i := 1449) (by decide +kernel)⟩
theorem lw_p81 : lw_okq (⟨"FrothShireModel", "hasRelation", "()Z"⟩, 62) := ⟨⟨by decide +kernel, by decide +kernel⟩, List.mem_of_getElem? (i := 1051) (by decide +kernel), List.mem_of_getElem? (i := 1452) (by decide +kernel), List.mem_of_getElem? (i := 1453) (by decide +kernel)⟩
theorem lw_p82 : lw_okq (⟨"FrothShireModel", "keepAir", "()V"⟩, 62) := ⟨⟨by decide +kernel, by decide +kernel⟩, List.mem_of_getElem? (i := 1051) (by decide +kernel), List.mem_of_getElem? (i := 1456) (by decide +kernel), List.mem_of_getElem? (i := 1457) (by decide +kernel)⟩
theorem lw_p83 : lw_okq (⟨"FrothShireModel", "isLord", "(I)Z"⟩, 62) := ⟨⟨by decide +kernel, by decide +kernel⟩, List.mem_of_getElem? (i := 1051) (by decide +kernel), List.mem_of_getElem? (i := 1468) (by decide +kernel), List.mem_of_getElem? (i := 1469) (by decide +kernel)⟩
theorem lw_p84 : lw_okq (⟨"FrothShireModel", "fill", "()V"⟩, 62) := ⟨⟨by decide +kernel, by decide +kernel⟩, List.mem_of_getElem? (i := 1051) (by decide +kernel), List.mem_of_getElem? (i := 1475) (by decide +kernel), List.mem_of_getElem? (i := 1476) (by decide +kernel)⟩
theorem lw_p85 : lw_okq (⟨"FrothShireModel", "isThere", "(I)Z"⟩, 62) := ⟨⟨by decide +kernel, by decide +kernel⟩, List.mem_of_getElem? (i := 1051) (by decide +kernel), List.mem_of_getElem? (i := 1479) (by decide +kernel), List.mem_of_getElem? (i := 1480) (by decide +kernel)⟩
theorem lw_p86 : lw_okq (⟨"FrothShireModel", "growth", "(I)I"⟩, 62) := ⟨⟨by decide +kernel, by decide +kernel⟩, List.mem_of_getElem? (i := 1051) (by decide +kernel), List.mem_of_getElem? (i := 1483) (by decide +kernel), List.mem_of_getElem? (i := 1484) (by decide +kernel)⟩
theorem lw_p87 : lw_okq (⟨"FrothShireModel", "sizesOf", "(I)I"⟩, 62) := ⟨⟨by decide +kernel, by decide +kernel⟩, List.mem_of_getElem? (i := 1051) (by decide +kernel), List.mem_of_getElem? (i := 1487) (by decide +kernel), List.mem_of_getElem? (i := 1488) (by decide +kernel)⟩
theorem lw_p88 : lw_okq (⟨"FrothShireModel", "isThereNow", "(I)Z"⟩, 62) := ⟨⟨by decide +kernel, by decide +kernel⟩, List.mem_of_getElem? (i := 1051) (by decide +kernel), List.mem_of_getElem? (i := 1511) (by decide +kernel), List.mem_of_getElem? (i := 1512) (by decide +kernel)⟩
theorem lw_p89 : lw_okq (⟨"FrothShireModel", "canPop", "(II)Z"⟩, 62) := ⟨⟨by decide +kernel, by decide +kernel⟩, List.mem_of_getElem? (i := 1051) (by decide +kernel), List.mem_of_getElem? (i := 1515) (by decide +kernel), List.mem_of_getElem? (i := 1516) (by decide +kernel)⟩
theorem lw_p90 : lw_okq (⟨"FrothShireModel", "act", "()V"⟩, 62) := ⟨⟨by decide +kernel, by decide +kernel⟩, List.mem_of_getElem? (i := 1051) (by decide +kernel), List.mem_of_getElem? (i := 1523) (by decide +kernel), List.mem_of_getElem? (i := 1524) (by decide +kernel)⟩
theorem lw_p91 : lw_okq (⟨"FrothShireModel", "goSeason", "(Z)V"⟩, 62) := ⟨⟨by decide +kernel, by decide +kernel⟩, List.mem_of_getElem? (i := 1051) (by decide +kernel), List.mem_of_getElem? (i := 1527) (by decide +kernel), List.mem_of_getElem? (i := 1528) (by decide +kernel)⟩
theorem lw_p92 : lw_okq (⟨"FrothShireModel", "canVanish", "(I)Z"⟩, 62) := ⟨⟨by decide +kernel, by decide +kernel⟩, List.mem_of_getElem? (i := 1051) (by decide +kernel), List.mem_of_getElem? (i := 1531) (by decide +kernel), List.mem_of_getElem? (i := 1532) (by decide +kernel)⟩
theorem lw_p93 : lw_okq (⟨"FrothShireModel", "vanish", "(I)V"⟩, 62) := ⟨⟨by decide +kernel, by decide +kernel⟩, List.mem_of_getElem? (i := 1051) (by decide +kernel), List.mem_of_getElem? (i := 1535) (by decide +kernel), List.mem_of_getElem? (i := 1536) (by decide +kernel)⟩
theorem lw_p94 : lw_okq (⟨"FrothShireModel", "leave", "(I)V"⟩, 62) := ⟨⟨by decide +kernel, by decide +kernel⟩, List.mem_of_getElem? (i := 1051) (by decide +kernel), List.mem_of_getElem? (i := 1539) (by decide +kernel), List.mem_of_getElem? (i := 1540) (by decide +kernel)⟩
theorem lw_p95 : lw_okq (⟨"FrothShireModel", "shed", "(I)V"⟩, 62) := ⟨⟨by decide +kernel, by decide +kernel⟩, List.mem_of_getElem? (i := 1051) (by decide +kernel), List.mem_of_getElem? (i := 1543) (by decide +kernel), List.mem_of_getElem? (i := 1544) (by decide +kernel)⟩
def lw_privs_6 : List (MethodName × Nat) := [(⟨"FrothShireModel", "close", "(I)V"⟩, 62), (⟨"FrothShireModel", "hasRelation", "()Z"⟩, 62), (⟨"FrothShireModel", "keepAir", "()V"⟩, 62), (⟨"FrothShireModel", "isLord", "(I)Z"⟩, 62), (⟨"FrothShireModel", "fill", "()V"⟩, 62), (⟨"FrothShireModel", "isThere", "(I)Z"⟩, 62), (⟨"FrothShireModel", "growth", "(I)I"⟩, 62), (⟨"FrothShireModel", "sizesOf", "(I)I"⟩, 62), (⟨"FrothShireModel", "isThereNow", "(I)Z"⟩, 62), (⟨"FrothShireModel", "canPop", "(II)Z"⟩, 62), (⟨"FrothShireModel", "act", "()V"⟩, 62), (⟨"FrothShireModel", "goSeason", "(Z)V"⟩, 62), (⟨"FrothShireModel", "canVanish", "(I)Z"⟩, 62), (⟨"FrothShireModel", "vanish", "(I)V"⟩, 62), (⟨"FrothShireModel", "leave", "(I)V"⟩, 62), (⟨"FrothShireModel", "shed", "(I)V"⟩, 62)]
theorem lw_r6 : ∀ q ∈ lw_privs_6, lw_okq q := List.forall_mem_cons.mpr ⟨lw_p80, List.forall_mem_cons.mpr ⟨lw_p81, List.forall_mem_cons.mpr ⟨lw_p82, List.forall_mem_cons.mpr ⟨lw_p83, List.forall_mem_cons.mpr ⟨lw_p84, List.forall_mem_cons.mpr ⟨lw_p85, List.forall_mem_cons.mpr ⟨lw_p86, List.forall_mem_cons.mpr ⟨lw_p87, List.forall_mem_cons.mpr ⟨lw_p88, List.forall_mem_cons.mpr ⟨lw_p89, List.forall_mem_cons.mpr ⟨lw_p90, List.forall_mem_cons.mpr ⟨lw_p91, List.forall_mem_cons.mpr ⟨lw_p92, List.forall_mem_cons.mpr ⟨lw_p93, List.forall_mem_cons.mpr ⟨lw_p94, List.forall_mem_cons.mpr ⟨lw_p95, fun _ h => absurd h List.not_mem_nil⟩⟩⟩⟩⟩⟩⟩⟩⟩⟩⟩⟩⟩⟩⟩⟩
theorem lw_p96 : lw_okq (⟨"FrothShireModel", "dropStraw", "()V"⟩, 62) := ⟨⟨by decide +kernel, by decide +kernel⟩, List.mem_of_getElem? (i := 1051) (by decide +kernel), List.mem_of_getElem? (i := 1547) (by decide +kernel), List.mem_of_getElem? (i := 1548) (by decide +kernel)⟩
theorem lw_p97 : lw_okq (⟨"FrothShireModel", "doPop", "(II)V"⟩, 62) := ⟨⟨by decide +kernel, by decide +kernel⟩, List.mem_of_getElem? (i := 1051) (by decide +kernel), List.mem_of_getElem? (i := 1559) (by decide +kernel), List.mem_of_getElem? (i := 1560) (by decide +kernel)⟩
theorem lw_p98 : lw_okq (⟨"FrothShireModel", "exchange", "(I)V"⟩, 62) := ⟨⟨by decide +kernel, by decide +kernel⟩, List.mem_of_getElem? (i := 1051) (by decide +kernel), List.mem_of_getElem? (i := 1571) (by decide +kernel), List.mem_of_getElem? (i := 1572) (by decide +kernel)⟩
theorem lw_p99 : lw_okq (⟨"FrothShireModel", "go", "(IZ)V"⟩, 62) := ⟨⟨by decide +kernel, by decide +kernel⟩, List.mem_of_getElem? (i := 1051) (by decide +kernel), List.mem_of_getElem? (i := 1583) (by decide +kernel), List.mem_of_getElem? (i := 1584) (by decide +kernel)⟩
theorem lw_p100 : lw_okq (⟨"FrothShireModel", "reach", "(III)I"⟩, 62) := ⟨⟨by decide +kernel, by decide +kernel⟩, List.mem_of_getElem? (i := 1051) (by decide +kernel), List.mem_of_getElem? (i := 1603) (by decide +kernel), List.mem_of_getElem? (i := 1604) (by decide +kernel)⟩
theorem lw_p101 : lw_okq (⟨"FrothShireModel", "layNexts", "()V"⟩, 62) := ⟨⟨by decide +kernel, by decide +kernel⟩, List.mem_of_getElem? (i := 1051) (by decide +kernel), List.mem_of_getElem? (i := 1615) (by decide +kernel), List.mem_of_getElem? (i := 1616) (by decide +kernel)⟩
theorem lw_p102 : lw_okq (⟨"FrothShireModel", "layColours", "(II)Z"⟩, 62) := ⟨⟨by decide +kernel, by decide +kernel⟩, List.mem_of_getElem? (i := 1051) (by decide +kernel), List.mem_of_getElem? (i := 1622) (by decide +kernel), List.mem_of_getElem? (i := 1623) (by decide +kernel)⟩
theorem lw_p103 : lw_okq (⟨"FrothShireModel", "ahead", "(I)I"⟩, 62) := ⟨⟨by decide +kernel, by decide +kernel⟩, List.mem_of_getElem? (i := 1051) (by decide +kernel), List.mem_of_getElem? (i := 1630) (by decide +kernel), List.mem_of_getElem? (i := 1631) (by decide +kernel)⟩
theorem lw_p104 : lw_okq (⟨"FrothShireModel", "isTaken", "(I)Z"⟩, 62) := ⟨⟨by decide +kernel, by decide +kernel⟩, List.mem_of_getElem? (i := 1051) (by decide +kernel), List.mem_of_getElem? (i := 1634) (by decide +kernel), List.mem_of_getElem? (i := 1635) (by decide +kernel)⟩
theorem lw_p105 : lw_okq (⟨"FrothShireModel", "nextChoice", "(II)I"⟩, 62) := ⟨⟨by decide +kernel, by decide +kernel⟩, List.mem_of_getElem? (i := 1051) (by decide +kernel), List.mem_of_getElem? (i := 1638) (by decide +kernel), List.mem_of_getElem? (i := 1639) (by decide +kernel)⟩
theorem lw_p106 : lw_okq (⟨"FrothShireModel", "ringNext", "(II)I"⟩, 62) := ⟨⟨by decide +kernel, by decide +kernel⟩, List.mem_of_getElem? (i := 1051) (by decide +kernel), List.mem_of_getElem? (i := 1653) (by decide +kernel), List.mem_of_getElem? (i := 1654) (by decide +kernel)⟩
theorem lw_p107 : lw_okq (⟨"FrothShireModel", "layPricks", "(II)V"⟩, 62) := ⟨⟨by decide +kernel, by decide +kernel⟩, List.mem_of_getElem? (i := 1051) (by decide +kernel), List.mem_of_getElem? (i := 1669) (by decide +kernel), List.mem_of_getElem? (i := 1670) (by decide +kernel)⟩
theorem lw_p108 : lw_okq (⟨"FrothShireModel", "takes", "(II)I"⟩, 62) := ⟨⟨by decide +kernel, by decide +kernel⟩, List.mem_of_getElem? (i := 1051) (by decide +kernel), List.mem_of_getElem? (i := 1673) (by decide +kernel), List.mem_of_getElem? (i := 1674) (by decide +kernel)⟩
theorem lw_p109 : lw_okq (⟨"FrothShireModel", "isRest", "(II)Z"⟩, 62) := ⟨⟨by decide +kernel, by decide +kernel⟩, List.mem_of_getElem? (i := 1051) (by decide +kernel), List.mem_of_getElem? (i := 1677) (by decide +kernel), List.mem_of_getElem? (i := 1678) (by decide +kernel)⟩
theorem lw_p110 : lw_okq (⟨"FrothShireModel", "layFits", "(I)I"⟩, 62) := ⟨⟨by decide +kernel, by decide +kernel⟩, List.mem_of_getElem? (i := 1051) (by decide +kernel), List.mem_of_getElem? (i := 1741) (by decide +kernel), List.mem_of_getElem? (i := 1742) (by decide +kernel)⟩
theorem lw_p111 : lw_okq (⟨"FrothShireModel", "fitsSize", "(II)Z"⟩, 62) := ⟨⟨by decide +kernel, by decide +kernel⟩, List.mem_of_getElem? (i := 1051) (by decide +kernel), List.mem_of_getElem? (i := 1745) (by decide +kernel), List.mem_of_getElem? (i := 1746) (by decide +kernel)⟩
def lw_privs_7 : List (MethodName × Nat) := [(⟨"FrothShireModel", "dropStraw", "()V"⟩, 62), (⟨"FrothShireModel", "doPop", "(II)V"⟩, 62), (⟨"FrothShireModel", "exchange", "(I)V"⟩, 62), (⟨"FrothShireModel", "go", "(IZ)V"⟩, 62), (⟨"FrothShireModel", "reach", "(III)I"⟩, 62), (⟨"FrothShireModel", "layNexts", "()V"⟩, 62), (⟨"FrothShireModel", "layColours", "(II)Z"⟩, 62), (⟨"FrothShireModel", "ahead", "(I)I"⟩, 62), (⟨"FrothShireModel", "isTaken", "(I)Z"⟩, 62), (⟨"FrothShireModel", "nextChoice", "(II)I"⟩, 62), (⟨"FrothShireModel", "ringNext", "(II)I"⟩, 62), (⟨"FrothShireModel", "layPricks", "(II)V"⟩, 62), (⟨"FrothShireModel", "takes", "(II)I"⟩, 62), (⟨"FrothShireModel", "isRest", "(II)Z"⟩, 62), (⟨"FrothShireModel", "layFits", "(I)I"⟩, 62), (⟨"FrothShireModel", "fitsSize", "(II)Z"⟩, 62)]
theorem lw_r7 : ∀ q ∈ lw_privs_7, lw_okq q := List.forall_mem_cons.mpr ⟨lw_p96, List.forall_mem_cons.mpr ⟨lw_p97, List.forall_mem_cons.mpr ⟨lw_p98, List.forall_mem_cons.mpr ⟨lw_p99, List.forall_mem_cons.mpr ⟨lw_p100, List.forall_mem_cons.mpr ⟨lw_p101, List.forall_mem_cons.mpr ⟨lw_p102, List.forall_mem_cons.mpr ⟨lw_p103, List.forall_mem_cons.mpr ⟨lw_p104, List.forall_mem_cons.mpr ⟨lw_p105, List.forall_mem_cons.mpr ⟨lw_p106, List.forall_mem_cons.mpr ⟨lw_p107, List.forall_mem_cons.mpr ⟨lw_p108, List.forall_mem_cons.mpr ⟨lw_p109, List.forall_mem_cons.mpr ⟨lw_p110, List.forall_mem_cons.mpr ⟨lw_p111, fun _ h => absurd h List.not_mem_nil⟩⟩⟩⟩⟩⟩⟩⟩⟩⟩⟩⟩⟩⟩⟩⟩
theorem lw_p112 : lw_okq (⟨"FrothShireModel", "leftBy", "(I)I"⟩, 62) := ⟨⟨by decide +kernel, by decide +kernel⟩, List.mem_of_getElem? (i := 1051) (by decide +kernel), List.mem_of_getElem? (i := 1757) (by decide +kernel), List.mem_of_getElem? (i := 1758) (by decide +kernel)⟩
theorem lw_p113 : lw_okq (⟨"FrothShireModel", "walls", "()I"⟩, 62) := ⟨⟨by decide +kernel, by decide +kernel⟩, List.mem_of_getElem? (i := 1051) (by decide +kernel), List.mem_of_getElem? (i := 1776) (by decide +kernel), List.mem_of_getElem? (i := 1777) (by decide +kernel)⟩
def lw_privs_8 : List (MethodName × Nat) := [(⟨"FrothShireModel", "leftBy", "(I)I"⟩, 62), (⟨"FrothShireModel", "walls", "()I"⟩, 62)]
theorem lw_r8 : ∀ q ∈ lw_privs_8, lw_okq q := List.forall_mem_cons.mpr ⟨lw_p112, List.forall_mem_cons.mpr ⟨lw_p113, fun _ h => absurd h List.not_mem_nil⟩⟩
def lw_privs : List (MethodName × Nat) := lw_privs_1 ++ (lw_privs_2 ++ (lw_privs_3 ++ (lw_privs_4 ++ (lw_privs_5 ++ (lw_privs_6 ++ (lw_privs_7 ++ (lw_privs_8)))))))
def lw_tbl : List Cond := k2_sels lw_privs ++ tables_1
theorem lw_privs_ok : ∀ q ∈ lw_privs, lw_okq q := by
  show ∀ q ∈ lw_privs_1 ++ (lw_privs_2 ++ (lw_privs_3 ++ (lw_privs_4 ++ (lw_privs_5 ++ (lw_privs_6 ++ (lw_privs_7 ++ (lw_privs_8))))))), lw_okq q
  exact List.forall_mem_append.mpr ⟨lw_r1, List.forall_mem_append.mpr ⟨lw_r2, List.forall_mem_append.mpr ⟨lw_r3, List.forall_mem_append.mpr ⟨lw_r4, List.forall_mem_append.mpr ⟨lw_r5, List.forall_mem_append.mpr ⟨lw_r6, List.forall_mem_append.mpr ⟨lw_r7, lw_r8⟩⟩⟩⟩⟩⟩⟩
/-! ===== BEGIN words of one list among another's, by their places ===== -/
theorem goodIn_r {big : List Cond} (ws : List Cond) (ps : List Nat) (hp : ws = ps.filterMap (fun i => big[i]?)) (h : ws.all goodWord = true) : GoodIn big ws := by
  intro w hw
  have h1 := List.all_eq_true.mp h w hw
  rw [hp] at hw
  obtain ⟨i, -, hi⟩ := List.mem_filterMap.mp hw
  have hm : w ∈ big := by first | exact List.mem_of_getElem? hi | exact List.getElem?_mem hi
  exact ⟨hm, good_of_word h1⟩
theorem goodIn_app {big a b : List Cond} (ha : GoodIn big a) (hb : GoodIn big b) : GoodIn big (a ++ b) := fun w h => (List.mem_append.mp h).elim (ha w) (hb w)
theorem goodIn_ca {big a b : List Cond} {c : Cond} (ha : GoodIn big (c :: a)) (hb : GoodIn big b) : GoodIn big (c :: (a ++ b)) := fun w h => (List.mem_cons.mp h).elim (fun e => ha w (List.mem_cons.mpr (Or.inl e))) (fun h => (List.mem_append.mp h).elim (fun h => ha w (List.mem_cons.mpr (Or.inr h))) (hb w))
theorem goodIn_sub {big ws : List Cond} (hm : ∀ w ∈ ws, w ∈ big) (h : ws.all goodWord = true) : GoodIn big ws := fun w hw => ⟨hm w hw, good_of_word (List.all_eq_true.mp h w hw)⟩
/-! ===== END ===== -/

/-! ===== BEGIN printed: names, fields, word lists, decode rows ===== -/
def RX0 : String := "FrothShire$Duel"
def TX0 : u_T := fun k => match k with
  | 0 => ("FrothShire$Duel", "firstTakes", "I", false)
  | 1 => ("FrothShire$Duel", "otherTakes", "I", false)
  | 2 => ("FrothShire$Duel", "firstGets", "[I", true)
  | 3 => ("FrothShire$Duel", "otherGets", "[I", true)
  | 4 => ("FrothShire$Duel", "firstMay", "I", false)
  | _ => ("FrothShire$Duel", "otherMay", "I", false)
def tyX0 : Nat → FieldType := fun k => match k with
  | 0 => .int
  | 1 => .int
  | 2 => .array .int
  | 3 => .array .int
  | 4 => .int
  | _ => .int
abbrev wsX00 : List Cond := u_ws RX0 TX0 6
theorem nmX0 : ∀ a, a < 6 → ∀ b, b < 6 → a ≠ b → (TX0 a).2.1 ≠ (TX0 b).2.1 := by decide +kernel
theorem tyX0_ok : ∀ k, k < 6 → parseFieldDescriptor (TX0 k).2.2.1 = some (tyX0 k) := by decide +kernel
abbrev cX0_init : ByteArray := prog_2_method_1_code
def yX0_init : MethodName := ⟨RX0, "<init>", "()V"⟩
abbrev cX0_countRests : ByteArray := prog_2_method_2_code
def yX0_countRests : MethodName := ⟨RX0, "countRests", "(LFrothShire$Froth;LFrothShire$Froth;II)I"⟩
abbrev cX0_choicesOf : ByteArray := prog_2_method_3_code
def yX0_choicesOf : MethodName := ⟨RX0, "choicesOf", "(LFrothShire$Froth;II)I"⟩
abbrev cX0_mayBe : ByteArray := prog_2_method_4_code
def yX0_mayBe : MethodName := ⟨RX0, "mayBe", "(II)Z"⟩
abbrev cX0_isRest : ByteArray := prog_2_method_5_code
def yX0_isRest : MethodName := ⟨RX0, "isRest", "(II)Z"⟩
def RX1 : String := "FrothShire$Formula"
def TX1 : u_T := fun k => match k with
  | 0 => ("FrothShire$Formula", "code", "[I", true)
  | 1 => ("FrothShire$Formula", "stack", "[I", true)
  | 2 => ("FrothShire$Formula", "given", "[I", true)
  | 3 => ("FrothShire$Formula", "length", "I", false)
  | _ => ("FrothShire$Formula", "units", "I", false)
def tyX1 : Nat → FieldType := fun k => match k with
  | 0 => .array .int
  | 1 => .array .int
  | 2 => .array .int
  | 3 => .int
  | _ => .int
abbrev wsX10 : List Cond := u_ws RX1 TX1 5
theorem nmX1 : ∀ a, a < 5 → ∀ b, b < 5 → a ≠ b → (TX1 a).2.1 ≠ (TX1 b).2.1 := by decide +kernel
theorem tyX1_ok : ∀ k, k < 5 → parseFieldDescriptor (TX1 k).2.2.1 = some (tyX1 k) := by decide +kernel
abbrev cX1_init : ByteArray := prog_3_method_1_code
def yX1_init : MethodName := ⟨RX1, "<init>", "()V"⟩
abbrev cX1_empty : ByteArray := prog_3_method_2_code
def yX1_empty : MethodName := ⟨RX1, "empty", "()V"⟩
abbrev cX1_put : ByteArray := prog_3_method_3_code
def yX1_put : MethodName := ⟨RX1, "put", "(I)V"⟩
abbrev cX1_growth : ByteArray := prog_3_method_4_code
def yX1_growth : MethodName := ⟨RX1, "growth", "(IIIII)I"⟩
abbrev cX1_run : ByteArray := prog_3_method_5_code
def yX1_run : MethodName := ⟨RX1, "run", "()I"⟩
abbrev cX1_joined : ByteArray := prog_3_method_6_code
def yX1_joined : MethodName := ⟨RX1, "joined", "(III)I"⟩
def RX2 : String := "FrothShire$Froth"
def TX2 : u_T := fun k => match k with
  | 0 => ("FrothShire$Froth", "lords", "I", false)
  | 1 => ("FrothShire$Froth", "thereBits", "I", false)
  | 2 => ("FrothShire$Froth", "seasons", "I", false)
  | 3 => ("FrothShire$Froth", "seed", "I", false)
  | 4 => ("FrothShire$Froth", "corners", "I", false)
  | 5 => ("FrothShire$Froth", "size", "[I", true)
  | 6 => ("FrothShire$Froth", "cornerBits", "[I", true)
  | 7 => ("FrothShire$Froth", "around", "[I", true)
  | 8 => ("FrothShire$Froth", "sideCount", "[I", true)
  | _ => ("FrothShire$Froth", "growth", "[I", true)
def tyX2 : Nat → FieldType := fun k => match k with
  | 0 => .int
  | 1 => .int
  | 2 => .int
  | 3 => .int
  | 4 => .int
  | 5 => .array .int
  | 6 => .array .int
  | 7 => .array .int
  | 8 => .array .int
  | _ => .array .int
abbrev wsX20 : List Cond := u_ws RX2 TX2 10
theorem nmX2 : ∀ a, a < 10 → ∀ b, b < 10 → a ≠ b → (TX2 a).2.1 ≠ (TX2 b).2.1 := by decide +kernel
theorem tyX2_ok : ∀ k, k < 10 → parseFieldDescriptor (TX2 k).2.2.1 = some (tyX2 k) := by decide +kernel
abbrev cX2_init : ByteArray := prog_4_method_1_code
def yX2_init : MethodName := ⟨RX2, "<init>", "()V"⟩
abbrev cX2_empty : ByteArray := prog_4_method_2_code
def yX2_empty : MethodName := ⟨RX2, "empty", "()V"⟩
abbrev cX2_copyFrom : ByteArray := prog_4_method_3_code
def yX2_copyFrom : MethodName := ⟨RX2, "copyFrom", "(LFrothShire$Froth;)V"⟩
abbrev cX2_writeTo : ByteArray := prog_4_method_4_code
def yX2_writeTo : MethodName := ⟨RX2, "writeTo", "([II)V"⟩
abbrev cX2_readFrom : ByteArray := prog_4_method_5_code
def yX2_readFrom : MethodName := ⟨RX2, "readFrom", "([II)V"⟩
abbrev cX2_isTold : ByteArray := prog_4_method_6_code
def yX2_isTold : MethodName := ⟨RX2, "isTold", "(I)Z"⟩
abbrev cX2_isThere : ByteArray := prog_4_method_7_code
def yX2_isThere : MethodName := ⟨RX2, "isThere", "(I)Z"⟩
abbrev cX2_howManyThere : ByteArray := prog_4_method_8_code
def yX2_howManyThere : MethodName := ⟨RX2, "howManyThere", "()I"⟩
abbrev cX2_meets : ByteArray := prog_4_method_9_code
def yX2_meets : MethodName := ⟨RX2, "meets", "(II)Z"⟩
abbrev cX2_howManyWalls : ByteArray := prog_4_method_10_code
def yX2_howManyWalls : MethodName := ⟨RX2, "howManyWalls", "()I"⟩
abbrev cX2_hasCorner : ByteArray := prog_4_method_11_code
def yX2_hasCorner : MethodName := ⟨RX2, "hasCorner", "(I)Z"⟩
abbrev cX2_bear : ByteArray := prog_4_method_12_code
def yX2_bear : MethodName := ⟨RX2, "bear", "(II)V"⟩
abbrev cX2_addCorner : ByteArray := prog_4_method_13_code
def yX2_addCorner : MethodName := ⟨RX2, "addCorner", "(I)V"⟩
abbrev cX2_dropOneCorner : ByteArray := prog_4_method_14_code
def yX2_dropOneCorner : MethodName := ⟨RX2, "dropOneCorner", "(I)V"⟩
abbrev cX2_dropCornersOf : ByteArray := prog_4_method_15_code
def yX2_dropCornersOf : MethodName := ⟨RX2, "dropCornersOf", "(I)V"⟩
abbrev cX2_settle : ByteArray := prog_4_method_16_code
def yX2_settle : MethodName := ⟨RX2, "settle", "()V"⟩
abbrev cX2_comesBefore : ByteArray := prog_4_method_17_code
def yX2_comesBefore : MethodName := ⟨RX2, "comesBefore", "(II)Z"⟩
abbrev cX2_flippedEnds : ByteArray := prog_4_method_18_code
def yX2_flippedEnds : MethodName := ⟨RX2, "flippedEnds", "(II)I"⟩
abbrev cX2_turnWall : ByteArray := prog_4_method_19_code
def yX2_turnWall : MethodName := ⟨RX2, "turnWall", "(II)I"⟩
abbrev cX2_canMerge : ByteArray := prog_4_method_20_code
def yX2_canMerge : MethodName := ⟨RX2, "canMerge", "(II)Z"⟩
abbrev cX2_merge : ByteArray := prog_4_method_21_code
def yX2_merge : MethodName := ⟨RX2, "merge", "(II)Z"⟩
abbrev cX2_leave : ByteArray := prog_4_method_22_code
def yX2_leave : MethodName := ⟨RX2, "leave", "(I)V"⟩
abbrev cX2_growthOf : ByteArray := prog_4_method_23_code
def yX2_growthOf : MethodName := ⟨RX2, "growthOf", "(ILFrothShire$Formula;)I"⟩
abbrev cX2_passSeasons : ByteArray := prog_4_method_24_code
def yX2_passSeasons : MethodName := ⟨RX2, "passSeasons", "(ILFrothShire$Formula;I)V"⟩
abbrev cX2_passSeason : ByteArray := prog_4_method_25_code
def yX2_passSeason : MethodName := ⟨RX2, "passSeason", "(LFrothShire$Formula;I)V"⟩
abbrev cX2_wither : ByteArray := prog_4_method_26_code
def yX2_wither : MethodName := ⟨RX2, "wither", "(I)V"⟩
def RX3 : String := "FrothShire$History"
def TX3 : u_T := fun k => match k with
  | 0 => ("FrothShire$History", "undoable", "I", false)
  | 1 => ("FrothShire$History", "redoable", "I", false)
  | 2 => ("FrothShire$History", "rows", "[I", true)
  | _ => ("FrothShire$History", "at", "I", false)
def tyX3 : Nat → FieldType := fun k => match k with
  | 0 => .int
  | 1 => .int
  | 2 => .array .int
  | _ => .int
abbrev wsX30 : List Cond := u_ws RX3 TX3 4
theorem nmX3 : ∀ a, a < 4 → ∀ b, b < 4 → a ≠ b → (TX3 a).2.1 ≠ (TX3 b).2.1 := by decide +kernel
theorem tyX3_ok : ∀ k, k < 4 → parseFieldDescriptor (TX3 k).2.2.1 = some (tyX3 k) := by decide +kernel
abbrev cX3_init : ByteArray := prog_5_method_1_code
def yX3_init : MethodName := ⟨RX3, "<init>", "()V"⟩
abbrev cX3_startFrom : ByteArray := prog_5_method_2_code
def yX3_startFrom : MethodName := ⟨RX3, "startFrom", "(LFrothShire$Froth;)V"⟩
abbrev cX3_keep : ByteArray := prog_5_method_3_code
def yX3_keep : MethodName := ⟨RX3, "keep", "(LFrothShire$Froth;)V"⟩
abbrev cX3_stepBack : ByteArray := prog_5_method_4_code
def yX3_stepBack : MethodName := ⟨RX3, "stepBack", "(LFrothShire$Froth;)Z"⟩
abbrev cX3_stepOn : ByteArray := prog_5_method_5_code
def yX3_stepOn : MethodName := ⟨RX3, "stepOn", "(LFrothShire$Froth;)Z"⟩
def RX4 : String := "FrothShire$Memory"
def TX4 : u_T := fun k => match k with
  | 0 => ("FrothShire$Memory", "count", "I", false)
  | 1 => ("FrothShire$Memory", "seasonsOf", "[I", true)
  | 2 => ("FrothShire$Memory", "sidesOf", "[I", true)
  | 3 => ("FrothShire$Memory", "isOf", "[Z", true)
  | 4 => ("FrothShire$Memory", "toldAt", "[I", true)
  | 5 => ("FrothShire$Memory", "untoldAt", "[I", true)
  | 6 => ("FrothShire$Memory", "sidesBehind", "[I", true)
  | 7 => ("FrothShire$Memory", "found", "Z", false)
  | 8 => ("FrothShire$Memory", "isFit", "[Z", true)
  | _ => ("FrothShire$Memory", "tally", "[I", true)
def tyX4 : Nat → FieldType := fun k => match k with
  | 0 => .int
  | 1 => .array .int
  | 2 => .array .int
  | 3 => .array .boolean
  | 4 => .array .int
  | 5 => .array .int
  | 6 => .array .int
  | 7 => .boolean
  | 8 => .array .boolean
  | _ => .array .int
abbrev wsX40 : List Cond := u_ws RX4 TX4 10
theorem nmX4 : ∀ a, a < 10 → ∀ b, b < 10 → a ≠ b → (TX4 a).2.1 ≠ (TX4 b).2.1 := by decide +kernel
theorem tyX4_ok : ∀ k, k < 10 → parseFieldDescriptor (TX4 k).2.2.1 = some (tyX4 k) := by decide +kernel
abbrev cX4_init : ByteArray := prog_6_method_1_code
def yX4_init : MethodName := ⟨RX4, "<init>", "()V"⟩
abbrev cX4_forget : ByteArray := prog_6_method_2_code
def yX4_forget : MethodName := ⟨RX4, "forget", "()V"⟩
abbrev cX4_tell : ByteArray := prog_6_method_3_code
def yX4_tell : MethodName := ⟨RX4, "tell", "(IIZI)I"⟩
abbrev cX4_takeBack : ByteArray := prog_6_method_4_code
def yX4_takeBack : MethodName := ⟨RX4, "takeBack", "(II)Z"⟩
abbrev cX4_findFits : ByteArray := prog_6_method_5_code
def yX4_findFits : MethodName := ⟨RX4, "findFits", "(ILFrothShire$Telling;LFrothShire$Froth;)I"⟩
abbrev cX4_findSides : ByteArray := prog_6_method_6_code
def yX4_findSides : MethodName := ⟨RX4, "findSides", "(LFrothShire$Telling;LFrothShire$Froth;)V"⟩
abbrev cX4_agreesWithAll : ByteArray := prog_6_method_7_code
def yX4_agreesWithAll : MethodName := ⟨RX4, "agreesWithAll", "(II)Z"⟩
abbrev cX4_leastFit : ByteArray := prog_6_method_8_code
def yX4_leastFit : MethodName := ⟨RX4, "leastFit", "()I"⟩
abbrev cX4_greatestFit : ByteArray := prog_6_method_9_code
def yX4_greatestFit : MethodName := ⟨RX4, "greatestFit", "()I"⟩
abbrev cX4_mostLeftBehind : ByteArray := prog_6_method_10_code
def yX4_mostLeftBehind : MethodName := ⟨RX4, "mostLeftBehind", "(I)I"⟩
def RX5 : String := "FrothShire$Puzzles"
def TX5 : u_T := fun k => match k with
  | 0 => ("FrothShire$Puzzles", "answer", "[I", true)
  | 1 => ("FrothShire$Puzzles", "trying", "[I", true)
  | _ => ("FrothShire$Puzzles", "mostWalls", "I", false)
def tyX5 : Nat → FieldType := fun k => match k with
  | 0 => .array .int
  | 1 => .array .int
  | _ => .int
abbrev wsX50 : List Cond := u_ws RX5 TX5 3
theorem nmX5 : ∀ a, a < 3 → ∀ b, b < 3 → a ≠ b → (TX5 a).2.1 ≠ (TX5 b).2.1 := by decide +kernel
theorem tyX5_ok : ∀ k, k < 3 → parseFieldDescriptor (TX5 k).2.2.1 = some (tyX5 k) := by decide +kernel
abbrev cX5_init : ByteArray := prog_7_method_1_code
def yX5_init : MethodName := ⟨RX5, "<init>", "()V"⟩
abbrev cX5_distance : ByteArray := prog_7_method_2_code
def yX5_distance : MethodName := ⟨RX5, "distance", "(LFrothShire$Froth;II)I"⟩
abbrev cX5_neighboursOf : ByteArray := prog_7_method_3_code
def yX5_neighboursOf : MethodName := ⟨RX5, "neighboursOf", "(LFrothShire$Froth;I)I"⟩
abbrev cX5_mostApart : ByteArray := prog_7_method_4_code
def yX5_mostApart : MethodName := ⟨RX5, "mostApart", "(LFrothShire$Froth;)I"⟩
abbrev cX5_fewestBetween : ByteArray := prog_7_method_5_code
def yX5_fewestBetween : MethodName := ⟨RX5, "fewestBetween", "(LFrothShire$Froth;II)I"⟩
abbrev cX5_isReached : ByteArray := prog_7_method_6_code
def yX5_isReached : MethodName := ⟨RX5, "isReached", "(LFrothShire$Froth;III)Z"⟩
abbrev cX5_fewestColours : ByteArray := prog_7_method_7_code
def yX5_fewestColours : MethodName := ⟨RX5, "fewestColours", "(LFrothShire$Froth;)I"⟩
abbrev cX5_colourFrom : ByteArray := prog_7_method_8_code
def yX5_colourFrom : MethodName := ⟨RX5, "colourFrom", "(LFrothShire$Froth;II)Z"⟩
abbrev cX5_isFree : ByteArray := prog_7_method_9_code
def yX5_isFree : MethodName := ⟨RX5, "isFree", "(LFrothShire$Froth;II)Z"⟩
abbrev cX5_mostPairs : ByteArray := prog_7_method_10_code
def yX5_mostPairs : MethodName := ⟨RX5, "mostPairs", "(LFrothShire$Froth;)I"⟩
abbrev cX5_pairFrom : ByteArray := prog_7_method_11_code
def yX5_pairFrom : MethodName := ⟨RX5, "pairFrom", "(LFrothShire$Froth;II)V"⟩
abbrev cX5_neighboursInOrder : ByteArray := prog_7_method_12_code
def yX5_neighboursInOrder : MethodName := ⟨RX5, "neighboursInOrder", "(LFrothShire$Froth;I)I"⟩
abbrev cX5_sharingCorner : ByteArray := prog_7_method_13_code
def yX5_sharingCorner : MethodName := ⟨RX5, "sharingCorner", "(LFrothShire$Froth;I)I"⟩
def RX6 : String := "FrothShire$Reader"
def TX6 : u_T := fun k => match k with
  | 0 => ("FrothShire$Reader", "foundFault", "I", false)
  | 1 => ("FrothShire$Reader", "foundPlace", "I", false)
  | 2 => ("FrothShire$Reader", "length", "I", false)
  | 3 => ("FrothShire$Reader", "into", "LFrothShire$Telling;", false)
  | 4 => ("FrothShire$Reader", "text", "[B", true)
  | 5 => ("FrothShire$Reader", "at", "I", false)
  | 6 => ("FrothShire$Reader", "kind", "I", false)
  | 7 => ("FrothShire$Reader", "start", "I", false)
  | 8 => ("FrothShire$Reader", "number", "I", false)
  | 9 => ("FrothShire$Reader", "sign", "I", false)
  | 10 => ("FrothShire$Reader", "ownWord", "I", false)
  | _ => ("FrothShire$Reader", "name", "J", false)
def tyX6 : Nat → FieldType := fun k => match k with
  | 0 => .int
  | 1 => .int
  | 2 => .int
  | 3 => .object "FrothShire$Telling"
  | 4 => .array .byte
  | 5 => .int
  | 6 => .int
  | 7 => .int
  | 8 => .int
  | 9 => .int
  | 10 => .int
  | _ => .long
abbrev wsX60 : List Cond := u_ws RX6 TX6 12
theorem nmX6 : ∀ a, a < 12 → ∀ b, b < 12 → a ≠ b → (TX6 a).2.1 ≠ (TX6 b).2.1 := by decide +kernel
theorem tyX6_ok : ∀ k, k < 12 → parseFieldDescriptor (TX6 k).2.2.1 = some (tyX6 k) := by decide +kernel
abbrev cX6_init : ByteArray := prog_8_method_1_code
def yX6_init : MethodName := ⟨RX6, "<init>", "()V"⟩
abbrev cX6_putBytes : ByteArray := prog_8_method_2_code
def yX6_putBytes : MethodName := ⟨RX6, "putBytes", "(I)V"⟩
abbrev cX6_read : ByteArray := prog_8_method_3_code
def yX6_read : MethodName := ⟨RX6, "read", "()V"⟩
abbrev cX6_blame : ByteArray := prog_8_method_4_code
def yX6_blame : MethodName := ⟨RX6, "blame", "(I)V"⟩
abbrev cX6_advance : ByteArray := prog_8_method_5_code
def yX6_advance : MethodName := ⟨RX6, "advance", "()V"⟩
abbrev cX6_isLetter : ByteArray := prog_8_method_6_code
def yX6_isLetter : MethodName := ⟨RX6, "isLetter", "(I)Z"⟩
abbrev cX6_isDigit : ByteArray := prog_8_method_7_code
def yX6_isDigit : MethodName := ⟨RX6, "isDigit", "(I)Z"⟩
abbrev cX6_scanWord : ByteArray := prog_8_method_8_code
def yX6_scanWord : MethodName := ⟨RX6, "scanWord", "()V"⟩
abbrev cX6_isSpelled : ByteArray := prog_8_method_9_code
def yX6_isSpelled : MethodName := ⟨RX6, "isSpelled", "(I)Z"⟩
abbrev cX6_scanNumber : ByteArray := prog_8_method_10_code
def yX6_scanNumber : MethodName := ⟨RX6, "scanNumber", "()V"⟩
abbrev cX6_isWord : ByteArray := prog_8_method_11_code
def yX6_isWord : MethodName := ⟨RX6, "isWord", "(I)Z"⟩
abbrev cX6_isSign : ByteArray := prog_8_method_12_code
def yX6_isSign : MethodName := ⟨RX6, "isSign", "(C)Z"⟩
abbrev cX6_takeWord : ByteArray := prog_8_method_13_code
def yX6_takeWord : MethodName := ⟨RX6, "takeWord", "(I)V"⟩
abbrev cX6_takeSign : ByteArray := prog_8_method_14_code
def yX6_takeSign : MethodName := ⟨RX6, "takeSign", "(C)V"⟩
abbrev cX6_takeNumber : ByteArray := prog_8_method_15_code
def yX6_takeNumber : MethodName := ⟨RX6, "takeNumber", "(I)I"⟩
abbrev cX6_lordHere : ByteArray := prog_8_method_16_code
def yX6_lordHere : MethodName := ⟨RX6, "lordHere", "()I"⟩
abbrev cX6_readLord : ByteArray := prog_8_method_17_code
def yX6_readLord : MethodName := ⟨RX6, "readLord", "()V"⟩
abbrev cX6_readCorner : ByteArray := prog_8_method_18_code
def yX6_readCorner : MethodName := ⟨RX6, "readCorner", "()I"⟩
abbrev cX6_readFlip : ByteArray := prog_8_method_19_code
def yX6_readFlip : MethodName := ⟨RX6, "readFlip", "()V"⟩
abbrev cX6_readStraw : ByteArray := prog_8_method_20_code
def yX6_readStraw : MethodName := ⟨RX6, "readStraw", "()V"⟩
abbrev cX6_readDraw : ByteArray := prog_8_method_21_code
def yX6_readDraw : MethodName := ⟨RX6, "readDraw", "()V"⟩
abbrev cX6_readGrows : ByteArray := prog_8_method_22_code
def yX6_readGrows : MethodName := ⟨RX6, "readGrows", "()V"⟩
abbrev cX6_readPart : ByteArray := prog_8_method_23_code
def yX6_readPart : MethodName := ⟨RX6, "readPart", "(II)V"⟩
abbrev cX6_readUnit : ByteArray := prog_8_method_24_code
def yX6_readUnit : MethodName := ⟨RX6, "readUnit", "(I)V"⟩
abbrev cX6_mayNest : ByteArray := prog_8_method_25_code
def yX6_mayNest : MethodName := ⟨RX6, "mayNest", "(I)Z"⟩
abbrev cX6_givenHere : ByteArray := prog_8_method_26_code
def yX6_givenHere : MethodName := ⟨RX6, "givenHere", "()I"⟩
abbrev cX6_opHere : ByteArray := prog_8_method_27_code
def yX6_opHere : MethodName := ⟨RX6, "opHere", "(I)I"⟩
def RX7 : String := "FrothShire$Telling"
def TX7 : u_T := fun k => match k with
  | 0 => ("FrothShire$Telling", "froth", "LFrothShire$Froth;", true)
  | 1 => ("FrothShire$Telling", "grows", "LFrothShire$Formula;", true)
  | 2 => ("FrothShire$Telling", "names", "[J", true)
  | 3 => ("FrothShire$Telling", "straw", "I", false)
  | 4 => ("FrothShire$Telling", "flips", "I", false)
  | 5 => ("FrothShire$Telling", "growsTold", "Z", false)
  | 6 => ("FrothShire$Telling", "strawTold", "Z", false)
  | _ => ("FrothShire$Telling", "drawTold", "Z", false)
def tyX7 : Nat → FieldType := fun k => match k with
  | 0 => .object "FrothShire$Froth"
  | 1 => .object "FrothShire$Formula"
  | 2 => .array .long
  | 3 => .int
  | 4 => .int
  | 5 => .boolean
  | 6 => .boolean
  | _ => .boolean
abbrev wsX70 : List Cond := u_ws RX7 TX7 8
theorem nmX7 : ∀ a, a < 8 → ∀ b, b < 8 → a ≠ b → (TX7 a).2.1 ≠ (TX7 b).2.1 := by decide +kernel
theorem tyX7_ok : ∀ k, k < 8 → parseFieldDescriptor (TX7 k).2.2.1 = some (tyX7 k) := by decide +kernel
abbrev cX7_init : ByteArray := prog_9_method_1_code
def yX7_init : MethodName := ⟨RX7, "<init>", "()V"⟩
abbrev cX7_empty : ByteArray := prog_9_method_2_code
def yX7_empty : MethodName := ⟨RX7, "empty", "()V"⟩
abbrev cX7_addLord : ByteArray := prog_9_method_3_code
def yX7_addLord : MethodName := ⟨RX7, "addLord", "(JII)V"⟩
abbrev cX7_lordNamed : ByteArray := prog_9_method_4_code
def yX7_lordNamed : MethodName := ⟨RX7, "lordNamed", "(J)I"⟩
def RX8 : String := "FrothShire"
def TX8 : u_T := fun k => match k with
  | 0 => ("FrothShire", "reader", "LFrothShire$Reader;", true)
  | 1 => ("FrothShire", "told", "LFrothShire$Telling;", false)
  | 2 => ("FrothShire", "now", "LFrothShire$Froth;", true)
  | 3 => ("FrothShire", "ahead", "LFrothShire$Froth;", true)
  | 4 => ("FrothShire", "history", "LFrothShire$History;", true)
  | 5 => ("FrothShire", "boxRows", "[I", true)
  | 6 => ("FrothShire", "boxBits", "I", false)
  | 7 => ("FrothShire", "puzzles", "LFrothShire$Puzzles;", true)
  | 8 => ("FrothShire", "duel", "LFrothShire$Duel;", true)
  | 9 => ("FrothShire", "memory", "LFrothShire$Memory;", true)
  | 10 => ("FrothShire", "time", "I", false)
  | 11 => ("FrothShire", "lying", "[I", true)
  | _ => ("FrothShire", "lyingCount", "I", false)
def tyX8 : Nat → FieldType := fun k => match k with
  | 0 => .object "FrothShire$Reader"
  | 1 => .object "FrothShire$Telling"
  | 2 => .object "FrothShire$Froth"
  | 3 => .object "FrothShire$Froth"
  | 4 => .object "FrothShire$History"
  | 5 => .array .int
  | 6 => .int
  | 7 => .object "FrothShire$Puzzles"
  | 8 => .object "FrothShire$Duel"
  | 9 => .object "FrothShire$Memory"
  | 10 => .int
  | 11 => .array .int
  | _ => .int
abbrev wsX80 : List Cond := u_ws RX8 TX8 13
theorem nmX8 : ∀ a, a < 13 → ∀ b, b < 13 → a ≠ b → (TX8 a).2.1 ≠ (TX8 b).2.1 := by decide +kernel
theorem tyX8_ok : ∀ k, k < 13 → parseFieldDescriptor (TX8 k).2.2.1 = some (tyX8 k) := by decide +kernel
abbrev cX8_init : ByteArray := prog_1_method_1_code
def yX8_init : MethodName := ⟨RX8, "<init>", "()V"⟩
abbrev cX8_feed : ByteArray := prog_1_method_2_code
def yX8_feed : MethodName := ⟨RX8, "feed", "(IIIII)I"⟩
abbrev cX8_end : ByteArray := prog_1_method_3_code
def yX8_end : MethodName := ⟨RX8, "end", "(I)I"⟩
abbrev cX8_shire : ByteArray := prog_1_method_4_code
def yX8_shire : MethodName := ⟨RX8, "shire", "()I"⟩
abbrev cX8_fault : ByteArray := prog_1_method_5_code
def yX8_fault : MethodName := ⟨RX8, "fault", "(I)I"⟩
abbrev cX8_lord : ByteArray := prog_1_method_6_code
def yX8_lord : MethodName := ⟨RX8, "lord", "(II)I"⟩
abbrev cX8_corner : ByteArray := prog_1_method_7_code
def yX8_corner : MethodName := ⟨RX8, "corner", "(II)I"⟩
abbrev cX8_wall : ByteArray := prog_1_method_8_code
def yX8_wall : MethodName := ⟨RX8, "wall", "(II)I"⟩
abbrev cX8_thirds : ByteArray := prog_1_method_9_code
def yX8_thirds : MethodName := ⟨RX8, "thirds", "()I"⟩
abbrev cX8_sleepers : ByteArray := prog_1_method_10_code
def yX8_sleepers : MethodName := ⟨RX8, "sleepers", "()I"⟩
abbrev cX8_king : ByteArray := prog_1_method_11_code
def yX8_king : MethodName := ⟨RX8, "king", "()I"⟩
abbrev cX8_restless : ByteArray := prog_1_method_12_code
def yX8_restless : MethodName := ⟨RX8, "restless", "()I"⟩
abbrev cX8_brides : ByteArray := prog_1_method_13_code
def yX8_brides : MethodName := ⟨RX8, "brides", "()I"⟩
abbrev cX8_acres : ByteArray := prog_1_method_14_code
def yX8_acres : MethodName := ⟨RX8, "acres", "()I"⟩
abbrev cX8_law : ByteArray := prog_1_method_15_code
def yX8_law : MethodName := ⟨RX8, "law", "(I)I"⟩
abbrev cX8_aunts : ByteArray := prog_1_method_16_code
def yX8_aunts : MethodName := ⟨RX8, "aunts", "(II)I"⟩
abbrev cX8_areTwo : ByteArray := prog_1_method_17_code
def yX8_areTwo : MethodName := ⟨RX8, "areTwo", "(II)Z"⟩
abbrev cX8_season : ByteArray := prog_1_method_18_code
def yX8_season : MethodName := ⟨RX8, "season", "()I"⟩
abbrev cX8_flip : ByteArray := prog_1_method_19_code
def yX8_flip : MethodName := ⟨RX8, "flip", "(II)I"⟩
abbrev cX8_pop : ByteArray := prog_1_method_20_code
def yX8_pop : MethodName := ⟨RX8, "pop", "(II)I"⟩
abbrev cX8_gift : ByteArray := prog_1_method_21_code
def yX8_gift : MethodName := ⟨RX8, "gift", "(II)I"⟩
abbrev cX8_undo : ByteArray := prog_1_method_22_code
def yX8_undo : MethodName := ⟨RX8, "undo", "()Z"⟩
abbrev cX8_redo : ByteArray := prog_1_method_23_code
def yX8_redo : MethodName := ⟨RX8, "redo", "()Z"⟩
abbrev cX8_image : ByteArray := prog_1_method_24_code
def yX8_image : MethodName := ⟨RX8, "image", "(I)I"⟩
abbrev cX8_back : ByteArray := prog_1_method_25_code
def yX8_back : MethodName := ⟨RX8, "back", "(I)I"⟩
abbrev cX8_will : ByteArray := prog_1_method_26_code
def yX8_will : MethodName := ⟨RX8, "will", "(III)I"⟩
abbrev cX8_sides : ByteArray := prog_1_method_27_code
def yX8_sides : MethodName := ⟨RX8, "sides", "(II)I"⟩
abbrev cX8_left : ByteArray := prog_1_method_28_code
def yX8_left : MethodName := ⟨RX8, "left", "(I)I"⟩
abbrev cX8_lookAhead : ByteArray := prog_1_method_29_code
def yX8_lookAhead : MethodName := ⟨RX8, "lookAhead", "(II)V"⟩
abbrev cX8_ending : ByteArray := prog_1_method_30_code
def yX8_ending : MethodName := ⟨RX8, "ending", "(I)I"⟩
abbrev cX8_save : ByteArray := prog_1_method_31_code
def yX8_save : MethodName := ⟨RX8, "save", "(II)I"⟩
abbrev cX8_isSavedBy : ByteArray := prog_1_method_32_code
def yX8_isSavedBy : MethodName := ⟨RX8, "isSavedBy", "(IIII)Z"⟩
abbrev cX8_boost : ByteArray := prog_1_method_33_code
def yX8_boost : MethodName := ⟨RX8, "boost", "(III)I"⟩
abbrev cX8_sizeBehindFlip : ByteArray := prog_1_method_34_code
def yX8_sizeBehindFlip : MethodName := ⟨RX8, "sizeBehindFlip", "(IIII)I"⟩
abbrev cX8_pricks : ByteArray := prog_1_method_35_code
def yX8_pricks : MethodName := ⟨RX8, "pricks", "(II)I"⟩
abbrev cX8_odds : ByteArray := prog_1_method_36_code
def yX8_odds : MethodName := ⟨RX8, "odds", "(II)I"⟩
abbrev cX8_commonDivisor : ByteArray := prog_1_method_37_code
def yX8_commonDivisor : MethodName := ⟨RX8, "commonDivisor", "(II)I"⟩
abbrev cX8_far : ByteArray := prog_1_method_38_code
def yX8_far : MethodName := ⟨RX8, "far", "(II)I"⟩
abbrev cX8_banners : ByteArray := prog_1_method_39_code
def yX8_banners : MethodName := ⟨RX8, "banners", "()I"⟩
abbrev cX8_peace : ByteArray := prog_1_method_40_code
def yX8_peace : MethodName := ⟨RX8, "peace", "()I"⟩
abbrev cX8_hermits : ByteArray := prog_1_method_41_code
def yX8_hermits : MethodName := ⟨RX8, "hermits", "(I)I"⟩
abbrev cX8_cut : ByteArray := prog_1_method_42_code
def yX8_cut : MethodName := ⟨RX8, "cut", "(III)I"⟩
abbrev cX8_ring : ByteArray := prog_1_method_43_code
def yX8_ring : MethodName := ⟨RX8, "ring", "(I)I"⟩
abbrev cX8_layDown : ByteArray := prog_1_method_44_code
def yX8_layDown : MethodName := ⟨RX8, "layDown", "(I)V"⟩
abbrev cX8_lies : ByteArray := prog_1_method_45_code
def yX8_lies : MethodName := ⟨RX8, "lies", "(I)I"⟩
abbrev cX8_seen : ByteArray := prog_1_method_46_code
def yX8_seen : MethodName := ⟨RX8, "seen", "(IIZ)I"⟩
abbrev cX8_untell : ByteArray := prog_1_method_47_code
def yX8_untell : MethodName := ⟨RX8, "untell", "(I)Z"⟩
abbrev cX8_later : ByteArray := prog_1_method_48_code
def yX8_later : MethodName := ⟨RX8, "later", "(I)I"⟩
abbrev cX8_fits : ByteArray := prog_1_method_49_code
def yX8_fits : MethodName := ⟨RX8, "fits", "(I)I"⟩
abbrev cX8_sure : ByteArray := prog_1_method_50_code
def yX8_sure : MethodName := ⟨RX8, "sure", "(II)I"⟩
abbrev cX8_ask : ByteArray := prog_1_method_51_code
def yX8_ask : MethodName := ⟨RX8, "ask", "(II)I"⟩
abbrev cX8_about : ByteArray := prog_1_method_52_code
def yX8_about : MethodName := ⟨RX8, "about", "(I)I"⟩
abbrev cX8_lowest : ByteArray := prog_1_method_53_code
def yX8_lowest : MethodName := ⟨RX8, "lowest", "(I)I"⟩
def RX9 : String := "FrothShireModel"
def TX9 : u_T := fun k => match k with
  | 0 => ("FrothShireModel", "tape", "[I", true)
  | 1 => ("FrothShireModel", "taped", "I", false)
  | 2 => ("FrothShireModel", "fault", "I", false)
  | 3 => ("FrothShireModel", "faultPlace", "I", false)
  | 4 => ("FrothShireModel", "at", "I", false)
  | 5 => ("FrothShireModel", "size", "I", false)
  | 6 => ("FrothShireModel", "sort", "I", false)
  | 7 => ("FrothShireModel", "place", "I", false)
  | 8 => ("FrothShireModel", "number", "I", false)
  | 9 => ("FrothShireModel", "word", "J", false)
  | 10 => ("FrothShireModel", "nName", "[J", true)
  | 11 => ("FrothShireModel", "nStep", "[I", true)
  | 12 => ("FrothShireModel", "nArg", "[I", true)
  | 13 => ("FrothShireModel", "step", "[I", true)
  | 14 => ("FrothShireModel", "arg", "[I", true)
  | 15 => ("FrothShireModel", "open", "[I", true)
  | 16 => ("FrothShireModel", "values", "[I", true)
  | 17 => ("FrothShireModel", "nMany", "I", false)
  | 18 => ("FrothShireModel", "steps", "I", false)
  | 19 => ("FrothShireModel", "opens", "I", false)
  | 20 => ("FrothShireModel", "nUnits", "I", false)
  | 21 => ("FrothShireModel", "units", "I", false)
  | 22 => ("FrothShireModel", "ownUnits", "I", false)
  | 23 => ("FrothShireModel", "deep", "I", false)
  | 24 => ("FrothShireModel", "nHasForm", "Z", false)
  | 25 => ("FrothShireModel", "hasForm", "Z", false)
  | 26 => ("FrothShireModel", "asks", "[I", true)
  | 27 => ("FrothShireModel", "now", "[I", true)
  | 28 => ("FrothShireModel", "air", "[I", true)
  | 29 => ("FrothShireModel", "first", "[I", true)
  | 30 => ("FrothShireModel", "more", "[I", true)
  | 31 => ("FrothShireModel", "nLords", "I", false)
  | 32 => ("FrothShireModel", "nFlips", "I", false)
  | 33 => ("FrothShireModel", "nStraw", "I", false)
  | 34 => ("FrothShireModel", "nDraw", "I", false)
  | 35 => ("FrothShireModel", "lords", "I", false)
  | 36 => ("FrothShireModel", "straw", "I", false)
  | 37 => ("FrothShireModel", "nHasStraw", "Z", false)
  | 38 => ("FrothShireModel", "nHasDraw", "Z", false)
  | 39 => ("FrothShireModel", "were", "[I", true)
  | 40 => ("FrothShireModel", "acts", "I", false)
  | 41 => ("FrothShireModel", "undone", "I", false)
  | 42 => ("FrothShireModel", "lies", "[I", true)
  | 43 => ("FrothShireModel", "row", "[I", true)
  | 44 => ("FrothShireModel", "nexts", "[I", true)
  | 45 => ("FrothShireModel", "lain", "I", false)
  | 46 => ("FrothShireModel", "ones", "[I", true)
  | 47 => ("FrothShireModel", "others", "[I", true)
  | 48 => ("FrothShireModel", "mayOne", "I", false)
  | 49 => ("FrothShireModel", "mayOther", "I", false)
  | 50 => ("FrothShireModel", "sightAt", "[I", true)
  | 51 => ("FrothShireModel", "sightSides", "[I", true)
  | 52 => ("FrothShireModel", "sightTold", "[I", true)
  | 53 => ("FrothShireModel", "sightUntold", "[I", true)
  | 54 => ("FrothShireModel", "sightIs", "[Z", true)
  | 55 => ("FrothShireModel", "sights", "I", false)
  | 56 => ("FrothShireModel", "time", "I", false)
  | 57 => ("FrothShireModel", "was", "[I", true)
  | 58 => ("FrothShireModel", "tally", "[I", true)
  | 59 => ("FrothShireModel", "isFit", "[Z", true)
  | 60 => ("FrothShireModel", "hasBox", "[Z", true)
  | _ => ("FrothShireModel", "boxes", "[I", true)
def tyX9 : Nat → FieldType := fun k => match k with
  | 0 => .array .int
  | 1 => .int
  | 2 => .int
  | 3 => .int
  | 4 => .int
  | 5 => .int
  | 6 => .int
  | 7 => .int
  | 8 => .int
  | 9 => .long
  | 10 => .array .long
  | 11 => .array .int
  | 12 => .array .int
  | 13 => .array .int
  | 14 => .array .int
  | 15 => .array .int
  | 16 => .array .int
  | 17 => .int
  | 18 => .int
  | 19 => .int
  | 20 => .int
  | 21 => .int
  | 22 => .int
  | 23 => .int
  | 24 => .boolean
  | 25 => .boolean
  | 26 => .array .int
  | 27 => .array .int
  | 28 => .array .int
  | 29 => .array .int
  | 30 => .array .int
  | 31 => .int
  | 32 => .int
  | 33 => .int
  | 34 => .int
  | 35 => .int
  | 36 => .int
  | 37 => .boolean
  | 38 => .boolean
  | 39 => .array .int
  | 40 => .int
  | 41 => .int
  | 42 => .array .int
  | 43 => .array .int
  | 44 => .array .int
  | 45 => .int
  | 46 => .array .int
  | 47 => .array .int
  | 48 => .int
  | 49 => .int
  | 50 => .array .int
  | 51 => .array .int
  | 52 => .array .int
  | 53 => .array .int
  | 54 => .array .boolean
  | 55 => .int
  | 56 => .int
  | 57 => .array .int
  | 58 => .array .int
  | 59 => .array .boolean
  | 60 => .array .boolean
  | _ => .array .int
abbrev wsX90 : List Cond := u_ws RX9 TX9 62
theorem nmX9 : ∀ a, a < 62 → ∀ b, b < 62 → a ≠ b → (TX9 a).2.1 ≠ (TX9 b).2.1 := by decide +kernel
theorem tyX9_ok : ∀ k, k < 62 → parseFieldDescriptor (TX9 k).2.2.1 = some (tyX9 k) := by decide +kernel
abbrev cX9_init : ByteArray := prog_11_method_1_code
def yX9_init : MethodName := ⟨RX9, "<init>", "()V"⟩
abbrev cX9_feed : ByteArray := prog_11_method_2_code
def yX9_feed : MethodName := ⟨RX9, "feed", "(IIIII)I"⟩
abbrev cX9_four : ByteArray := prog_11_method_3_code
def yX9_four : MethodName := ⟨RX9, "four", "(I)V"⟩
abbrev cX9_end : ByteArray := prog_11_method_4_code
def yX9_end : MethodName := ⟨RX9, "end", "(I)I"⟩
abbrev cX9_here : ByteArray := prog_11_method_5_code
def yX9_here : MethodName := ⟨RX9, "here", "(I)I"⟩
abbrev cX9_isLetter : ByteArray := prog_11_method_6_code
def yX9_isLetter : MethodName := ⟨RX9, "isLetter", "(I)Z"⟩
abbrev cX9_isDigit : ByteArray := prog_11_method_7_code
def yX9_isDigit : MethodName := ⟨RX9, "isDigit", "(I)Z"⟩
abbrev cX9_isSign : ByteArray := prog_11_method_8_code
def yX9_isSign : MethodName := ⟨RX9, "isSign", "(I)Z"⟩
abbrev cX9_token : ByteArray := prog_11_method_9_code
def yX9_token : MethodName := ⟨RX9, "token", "()V"⟩
abbrev cX9_wrong : ByteArray := prog_11_method_10_code
def yX9_wrong : MethodName := ⟨RX9, "wrong", "(I)V"⟩
abbrev cX9_isWord : ByteArray := prog_11_method_11_code
def yX9_isWord : MethodName := ⟨RX9, "isWord", "(J)Z"⟩
abbrev cX9_isOwn : ByteArray := prog_11_method_12_code
def yX9_isOwn : MethodName := ⟨RX9, "isOwn", "()Z"⟩
abbrev cX9_isName : ByteArray := prog_11_method_13_code
def yX9_isName : MethodName := ⟨RX9, "isName", "()Z"⟩
abbrev cX9_want : ByteArray := prog_11_method_14_code
def yX9_want : MethodName := ⟨RX9, "want", "(J)V"⟩
abbrev cX9_toldNumber : ByteArray := prog_11_method_15_code
def yX9_toldNumber : MethodName := ⟨RX9, "toldNumber", "(I)I"⟩
abbrev cX9_told : ByteArray := prog_11_method_16_code
def yX9_told : MethodName := ⟨RX9, "told", "(JI)I"⟩
abbrev cX9_find : ByteArray := prog_11_method_17_code
def yX9_find : MethodName := ⟨RX9, "find", "()I"⟩
abbrev cX9_newName : ByteArray := prog_11_method_18_code
def yX9_newName : MethodName := ⟨RX9, "newName", "()V"⟩
abbrev cX9_oldLord : ByteArray := prog_11_method_19_code
def yX9_oldLord : MethodName := ⟨RX9, "oldLord", "()I"⟩
abbrev cX9_add : ByteArray := prog_11_method_20_code
def yX9_add : MethodName := ⟨RX9, "add", "(II)V"⟩
abbrev cX9_tight : ByteArray := prog_11_method_21_code
def yX9_tight : MethodName := ⟨RX9, "tight", "(I)I"⟩
abbrev cX9_close : ByteArray := prog_11_method_22_code
def yX9_close : MethodName := ⟨RX9, "close", "(I)V"⟩
abbrev cX9_hasRelation : ByteArray := prog_11_method_23_code
def yX9_hasRelation : MethodName := ⟨RX9, "hasRelation", "()Z"⟩
abbrev cX9_mayNot : ByteArray := prog_11_method_24_code
def yX9_mayNot : MethodName := ⟨RX9, "mayNot", "()Z"⟩
abbrev cX9_asked : ByteArray := prog_11_method_25_code
def yX9_asked : MethodName := ⟨RX9, "asked", "()I"⟩
abbrev cX9_isFull : ByteArray := prog_11_method_26_code
def yX9_isFull : MethodName := ⟨RX9, "isFull", "()Z"⟩
abbrev cX9_countUnit : ByteArray := prog_11_method_27_code
def yX9_countUnit : MethodName := ⟨RX9, "countUnit", "()V"⟩
abbrev cX9_openUp : ByteArray := prog_11_method_28_code
def yX9_openUp : MethodName := ⟨RX9, "openUp", "(I)V"⟩
abbrev cX9_unit : ByteArray := prog_11_method_29_code
def yX9_unit : MethodName := ⟨RX9, "unit", "()V"⟩
abbrev cX9_sign : ByteArray := prog_11_method_30_code
def yX9_sign : MethodName := ⟨RX9, "sign", "()I"⟩
abbrev cX9_hasBracket : ByteArray := prog_11_method_31_code
def yX9_hasBracket : MethodName := ⟨RX9, "hasBracket", "()Z"⟩
abbrev cX9_formula : ByteArray := prog_11_method_32_code
def yX9_formula : MethodName := ⟨RX9, "formula", "()V"⟩
abbrev cX9_truth : ByteArray := prog_11_method_33_code
def yX9_truth : MethodName := ⟨RX9, "truth", "(Z)I"⟩
abbrev cX9_done : ByteArray := prog_11_method_34_code
def yX9_done : MethodName := ⟨RX9, "done", "(III)I"⟩
abbrev cX9_within : ByteArray := prog_11_method_35_code
def yX9_within : MethodName := ⟨RX9, "within", "(III)I"⟩
abbrev cX9_lesser : ByteArray := prog_11_method_36_code
def yX9_lesser : MethodName := ⟨RX9, "lesser", "(II)I"⟩
abbrev cX9_greater : ByteArray := prog_11_method_37_code
def yX9_greater : MethodName := ⟨RX9, "greater", "(II)I"⟩
abbrev cX9_growth : ByteArray := prog_11_method_38_code
def yX9_growth : MethodName := ⟨RX9, "growth", "(I)I"⟩
abbrev cX9_fill : ByteArray := prog_11_method_39_code
def yX9_fill : MethodName := ⟨RX9, "fill", "()V"⟩
abbrev cX9_keepAir : ByteArray := prog_11_method_40_code
def yX9_keepAir : MethodName := ⟨RX9, "keepAir", "()V"⟩
abbrev cX9_members : ByteArray := prog_11_method_41_code
def yX9_members : MethodName := ⟨RX9, "members", "(I)I"⟩
abbrev cX9_lordOf : ByteArray := prog_11_method_42_code
def yX9_lordOf : MethodName := ⟨RX9, "lordOf", "(II)I"⟩
abbrev cX9_has : ByteArray := prog_11_method_43_code
def yX9_has : MethodName := ⟨RX9, "has", "(II)Z"⟩
abbrev cX9_bitsOf : ByteArray := prog_11_method_44_code
def yX9_bitsOf : MethodName := ⟨RX9, "bitsOf", "(I)I"⟩
abbrev cX9_cornerOf : ByteArray := prog_11_method_45_code
def yX9_cornerOf : MethodName := ⟨RX9, "cornerOf", "(III)I"⟩
abbrev cX9_addCorner : ByteArray := prog_11_method_46_code
def yX9_addCorner : MethodName := ⟨RX9, "addCorner", "(III)V"⟩
abbrev cX9_takeCorner : ByteArray := prog_11_method_47_code
def yX9_takeCorner : MethodName := ⟨RX9, "takeCorner", "(I)V"⟩
abbrev cX9_isCorner : ByteArray := prog_11_method_48_code
def yX9_isCorner : MethodName := ⟨RX9, "isCorner", "(I)Z"⟩
abbrev cX9_isThere : ByteArray := prog_11_method_49_code
def yX9_isThere : MethodName := ⟨RX9, "isThere", "(I)Z"⟩
abbrev cX9_sidesOf : ByteArray := prog_11_method_50_code
def yX9_sidesOf : MethodName := ⟨RX9, "sidesOf", "(I)I"⟩
abbrev cX9_bordersOf : ByteArray := prog_11_method_51_code
def yX9_bordersOf : MethodName := ⟨RX9, "bordersOf", "(I)I"⟩
abbrev cX9_doBorder : ByteArray := prog_11_method_52_code
def yX9_doBorder : MethodName := ⟨RX9, "doBorder", "(II)Z"⟩
abbrev cX9_sizesOf : ByteArray := prog_11_method_53_code
def yX9_sizesOf : MethodName := ⟨RX9, "sizesOf", "(I)I"⟩
abbrev cX9_third : ByteArray := prog_11_method_54_code
def yX9_third : MethodName := ⟨RX9, "third", "(III)I"⟩
abbrev cX9_canFlip : ByteArray := prog_11_method_55_code
def yX9_canFlip : MethodName := ⟨RX9, "canFlip", "(II)Z"⟩
abbrev cX9_doFlip : ByteArray := prog_11_method_56_code
def yX9_doFlip : MethodName := ⟨RX9, "doFlip", "(II)I"⟩
abbrev cX9_canPop : ByteArray := prog_11_method_57_code
def yX9_canPop : MethodName := ⟨RX9, "canPop", "(II)Z"⟩
abbrev cX9_doPop : ByteArray := prog_11_method_58_code
def yX9_doPop : MethodName := ⟨RX9, "doPop", "(II)V"⟩
abbrev cX9_leave : ByteArray := prog_11_method_59_code
def yX9_leave : MethodName := ⟨RX9, "leave", "(I)V"⟩
abbrev cX9_canVanish : ByteArray := prog_11_method_60_code
def yX9_canVanish : MethodName := ⟨RX9, "canVanish", "(I)Z"⟩
abbrev cX9_vanish : ByteArray := prog_11_method_61_code
def yX9_vanish : MethodName := ⟨RX9, "vanish", "(I)V"⟩
abbrev cX9_shed : ByteArray := prog_11_method_62_code
def yX9_shed : MethodName := ⟨RX9, "shed", "(I)V"⟩
abbrev cX9_goSeason : ByteArray := prog_11_method_63_code
def yX9_goSeason : MethodName := ⟨RX9, "goSeason", "(Z)V"⟩
abbrev cX9_dropStraw : ByteArray := prog_11_method_64_code
def yX9_dropStraw : MethodName := ⟨RX9, "dropStraw", "()V"⟩
abbrev cX9_readBirth : ByteArray := prog_11_method_65_code
def yX9_readBirth : MethodName := ⟨RX9, "readBirth", "()V"⟩
abbrev cX9_readLord : ByteArray := prog_11_method_66_code
def yX9_readLord : MethodName := ⟨RX9, "readLord", "()V"⟩
abbrev cX9_readFlip : ByteArray := prog_11_method_67_code
def yX9_readFlip : MethodName := ⟨RX9, "readFlip", "()V"⟩
abbrev cX9_readLine : ByteArray := prog_11_method_68_code
def yX9_readLine : MethodName := ⟨RX9, "readLine", "()V"⟩
abbrev cX9_readAll : ByteArray := prog_11_method_69_code
def yX9_readAll : MethodName := ⟨RX9, "readAll", "()V"⟩
abbrev cX9_shire : ByteArray := prog_11_method_70_code
def yX9_shire : MethodName := ⟨RX9, "shire", "()I"⟩
abbrev cX9_fault : ByteArray := prog_11_method_71_code
def yX9_fault : MethodName := ⟨RX9, "fault", "(I)I"⟩
abbrev cX9_isIn : ByteArray := prog_11_method_72_code
def yX9_isIn : MethodName := ⟨RX9, "isIn", "(III)Z"⟩
abbrev cX9_isLord : ByteArray := prog_11_method_73_code
def yX9_isLord : MethodName := ⟨RX9, "isLord", "(I)Z"⟩
abbrev cX9_isThereNow : ByteArray := prog_11_method_74_code
def yX9_isThereNow : MethodName := ⟨RX9, "isThereNow", "(I)Z"⟩
abbrev cX9_lord : ByteArray := prog_11_method_75_code
def yX9_lord : MethodName := ⟨RX9, "lord", "(II)I"⟩
abbrev cX9_corner : ByteArray := prog_11_method_76_code
def yX9_corner : MethodName := ⟨RX9, "corner", "(II)I"⟩
abbrev cX9_wall : ByteArray := prog_11_method_77_code
def yX9_wall : MethodName := ⟨RX9, "wall", "(II)I"⟩
abbrev cX9_act : ByteArray := prog_11_method_78_code
def yX9_act : MethodName := ⟨RX9, "act", "()V"⟩
abbrev cX9_exchange : ByteArray := prog_11_method_79_code
def yX9_exchange : MethodName := ⟨RX9, "exchange", "(I)V"⟩
abbrev cX9_season : ByteArray := prog_11_method_80_code
def yX9_season : MethodName := ⟨RX9, "season", "()I"⟩
abbrev cX9_flip : ByteArray := prog_11_method_81_code
def yX9_flip : MethodName := ⟨RX9, "flip", "(II)I"⟩
abbrev cX9_pop : ByteArray := prog_11_method_82_code
def yX9_pop : MethodName := ⟨RX9, "pop", "(II)I"⟩
abbrev cX9_gift : ByteArray := prog_11_method_83_code
def yX9_gift : MethodName := ⟨RX9, "gift", "(II)I"⟩
abbrev cX9_undo : ByteArray := prog_11_method_84_code
def yX9_undo : MethodName := ⟨RX9, "undo", "()Z"⟩
abbrev cX9_redo : ByteArray := prog_11_method_85_code
def yX9_redo : MethodName := ⟨RX9, "redo", "()Z"⟩
abbrev cX9_go : ByteArray := prog_11_method_86_code
def yX9_go : MethodName := ⟨RX9, "go", "(IZ)V"⟩
abbrev cX9_will : ByteArray := prog_11_method_87_code
def yX9_will : MethodName := ⟨RX9, "will", "(III)I"⟩
abbrev cX9_sides : ByteArray := prog_11_method_88_code
def yX9_sides : MethodName := ⟨RX9, "sides", "(II)I"⟩
abbrev cX9_left : ByteArray := prog_11_method_89_code
def yX9_left : MethodName := ⟨RX9, "left", "(I)I"⟩
abbrev cX9_ending : ByteArray := prog_11_method_90_code
def yX9_ending : MethodName := ⟨RX9, "ending", "(I)I"⟩
abbrev cX9_reach : ByteArray := prog_11_method_91_code
def yX9_reach : MethodName := ⟨RX9, "reach", "(III)I"⟩
abbrev cX9_far : ByteArray := prog_11_method_92_code
def yX9_far : MethodName := ⟨RX9, "far", "(II)I"⟩
abbrev cX9_cut : ByteArray := prog_11_method_93_code
def yX9_cut : MethodName := ⟨RX9, "cut", "(III)I"⟩
abbrev cX9_layNexts : ByteArray := prog_11_method_94_code
def yX9_layNexts : MethodName := ⟨RX9, "layNexts", "()V"⟩
abbrev cX9_layColours : ByteArray := prog_11_method_95_code
def yX9_layColours : MethodName := ⟨RX9, "layColours", "(II)Z"⟩
abbrev cX9_power : ByteArray := prog_11_method_96_code
def yX9_power : MethodName := ⟨RX9, "power", "(II)I"⟩
abbrev cX9_banners : ByteArray := prog_11_method_97_code
def yX9_banners : MethodName := ⟨RX9, "banners", "()I"⟩
abbrev cX9_nextChoice : ByteArray := prog_11_method_98_code
def yX9_nextChoice : MethodName := ⟨RX9, "nextChoice", "(II)I"⟩
abbrev cX9_isTaken : ByteArray := prog_11_method_99_code
def yX9_isTaken : MethodName := ⟨RX9, "isTaken", "(I)Z"⟩
abbrev cX9_peace : ByteArray := prog_11_method_100_code
def yX9_peace : MethodName := ⟨RX9, "peace", "()I"⟩
abbrev cX9_ahead : ByteArray := prog_11_method_101_code
def yX9_ahead : MethodName := ⟨RX9, "ahead", "(I)I"⟩
abbrev cX9_hermits : ByteArray := prog_11_method_102_code
def yX9_hermits : MethodName := ⟨RX9, "hermits", "(I)I"⟩
abbrev cX9_ringNext : ByteArray := prog_11_method_103_code
def yX9_ringNext : MethodName := ⟨RX9, "ringNext", "(II)I"⟩
abbrev cX9_leastOf : ByteArray := prog_11_method_104_code
def yX9_leastOf : MethodName := ⟨RX9, "leastOf", "(I)I"⟩
abbrev cX9_ring : ByteArray := prog_11_method_105_code
def yX9_ring : MethodName := ⟨RX9, "ring", "(I)I"⟩
abbrev cX9_save : ByteArray := prog_11_method_106_code
def yX9_save : MethodName := ⟨RX9, "save", "(II)I"⟩
abbrev cX9_boost : ByteArray := prog_11_method_107_code
def yX9_boost : MethodName := ⟨RX9, "boost", "(III)I"⟩
abbrev cX9_takes : ByteArray := prog_11_method_108_code
def yX9_takes : MethodName := ⟨RX9, "takes", "(II)I"⟩
abbrev cX9_layPricks : ByteArray := prog_11_method_109_code
def yX9_layPricks : MethodName := ⟨RX9, "layPricks", "(II)V"⟩
abbrev cX9_isRest : ByteArray := prog_11_method_110_code
def yX9_isRest : MethodName := ⟨RX9, "isRest", "(II)Z"⟩
abbrev cX9_pricks : ByteArray := prog_11_method_111_code
def yX9_pricks : MethodName := ⟨RX9, "pricks", "(II)I"⟩
abbrev cX9_thirds : ByteArray := prog_11_method_112_code
def yX9_thirds : MethodName := ⟨RX9, "thirds", "()I"⟩
abbrev cX9_sleepers : ByteArray := prog_11_method_113_code
def yX9_sleepers : MethodName := ⟨RX9, "sleepers", "()I"⟩
abbrev cX9_king : ByteArray := prog_11_method_114_code
def yX9_king : MethodName := ⟨RX9, "king", "()I"⟩
abbrev cX9_restless : ByteArray := prog_11_method_115_code
def yX9_restless : MethodName := ⟨RX9, "restless", "()I"⟩
abbrev cX9_brides : ByteArray := prog_11_method_116_code
def yX9_brides : MethodName := ⟨RX9, "brides", "()I"⟩
abbrev cX9_acres : ByteArray := prog_11_method_117_code
def yX9_acres : MethodName := ⟨RX9, "acres", "()I"⟩
abbrev cX9_law : ByteArray := prog_11_method_118_code
def yX9_law : MethodName := ⟨RX9, "law", "(I)I"⟩
abbrev cX9_aunts : ByteArray := prog_11_method_119_code
def yX9_aunts : MethodName := ⟨RX9, "aunts", "(II)I"⟩
abbrev cX9_walls : ByteArray := prog_11_method_120_code
def yX9_walls : MethodName := ⟨RX9, "walls", "()I"⟩
abbrev cX9_divisor : ByteArray := prog_11_method_121_code
def yX9_divisor : MethodName := ⟨RX9, "divisor", "(II)I"⟩
abbrev cX9_odds : ByteArray := prog_11_method_122_code
def yX9_odds : MethodName := ⟨RX9, "odds", "(II)I"⟩
abbrev cX9_lies : ByteArray := prog_11_method_123_code
def yX9_lies : MethodName := ⟨RX9, "lies", "(I)I"⟩
abbrev cX9_seen : ByteArray := prog_11_method_124_code
def yX9_seen : MethodName := ⟨RX9, "seen", "(IIZ)I"⟩
abbrev cX9_untell : ByteArray := prog_11_method_125_code
def yX9_untell : MethodName := ⟨RX9, "untell", "(I)Z"⟩
abbrev cX9_later : ByteArray := prog_11_method_126_code
def yX9_later : MethodName := ⟨RX9, "later", "(I)I"⟩
abbrev cX9_fitsSize : ByteArray := prog_11_method_127_code
def yX9_fitsSize : MethodName := ⟨RX9, "fitsSize", "(II)Z"⟩
abbrev cX9_layFits : ByteArray := prog_11_method_128_code
def yX9_layFits : MethodName := ⟨RX9, "layFits", "(I)I"⟩
abbrev cX9_fits : ByteArray := prog_11_method_129_code
def yX9_fits : MethodName := ⟨RX9, "fits", "(I)I"⟩
abbrev cX9_sure : ByteArray := prog_11_method_130_code
def yX9_sure : MethodName := ⟨RX9, "sure", "(II)I"⟩
abbrev cX9_leftBy : ByteArray := prog_11_method_131_code
def yX9_leftBy : MethodName := ⟨RX9, "leftBy", "(I)I"⟩
abbrev cX9_ask : ByteArray := prog_11_method_132_code
def yX9_ask : MethodName := ⟨RX9, "ask", "(II)I"⟩
abbrev cX9_isBox : ByteArray := prog_11_method_133_code
def yX9_isBox : MethodName := ⟨RX9, "isBox", "(I)Z"⟩
abbrev cX9_image : ByteArray := prog_11_method_134_code
def yX9_image : MethodName := ⟨RX9, "image", "(I)I"⟩
abbrev cX9_back : ByteArray := prog_11_method_135_code
def yX9_back : MethodName := ⟨RX9, "back", "(I)I"⟩
abbrev cX9_about : ByteArray := prog_11_method_136_code
def yX9_about : MethodName := ⟨RX9, "about", "(I)I"⟩
def RJ11 : String := "java/lang/Character"
def TJ11 : u_T := fun k => match k with
  | _ => ("", "", "", false)
def tyJ11 : Nat → FieldType := fun k => match k with
  | _ => .int
abbrev wsJ110 : List Cond := u_ws RJ11 TJ11 0
theorem nmJ11 : ∀ a, a < 0 → ∀ b, b < 0 → a ≠ b → (TJ11 a).2.1 ≠ (TJ11 b).2.1 := by decide +kernel
theorem tyJ11_ok : ∀ k, k < 0 → parseFieldDescriptor (TJ11 k).2.2.1 = some (tyJ11 k) := by decide +kernel
abbrev cJ11_isValidCodePoint_9a6ad : ByteArray := prog_12_method_11_code
def yJ11_isValidCodePoint_9a6ad : MethodName := ⟨RJ11, "isValidCodePoint", "(I)Z"⟩
abbrev cJ11_highSurrogate_5068e : ByteArray := prog_12_method_28_code
def yJ11_highSurrogate_5068e : MethodName := ⟨RJ11, "highSurrogate", "(I)C"⟩
abbrev cJ11_lowSurrogate_5068e : ByteArray := prog_12_method_29_code
def yJ11_lowSurrogate_5068e : MethodName := ⟨RJ11, "lowSurrogate", "(I)C"⟩
def RJ6 : String := "java/lang/Integer"
def TJ6 : u_T := fun k => match k with
  | _ => ("", "", "", false)
def tyJ6 : Nat → FieldType := fun k => match k with
  | _ => .int
abbrev wsJ60 : List Cond := u_ws RJ6 TJ6 0
theorem nmJ6 : ∀ a, a < 0 → ∀ b, b < 0 → a ≠ b → (TJ6 a).2.1 ≠ (TJ6 b).2.1 := by decide +kernel
theorem tyJ6_ok : ∀ k, k < 0 → parseFieldDescriptor (TJ6 k).2.2.1 = some (tyJ6 k) := by decide +kernel
abbrev cJ6_bitCount_0f7a4 : ByteArray := prog_13_method_49_code
def yJ6_bitCount_0f7a4 : MethodName := ⟨RJ6, "bitCount", "(I)I"⟩
def RJ9 : String := "java/lang/Math"
def TJ9 : u_T := fun k => match k with
  | _ => ("", "", "", false)
def tyJ9 : Nat → FieldType := fun k => match k with
  | _ => .int
abbrev wsJ90 : List Cond := u_ws RJ9 TJ9 0
theorem nmJ9 : ∀ a, a < 0 → ∀ b, b < 0 → a ≠ b → (TJ9 a).2.1 ≠ (TJ9 b).2.1 := by decide +kernel
theorem tyJ9_ok : ∀ k, k < 0 → parseFieldDescriptor (TJ9 k).2.2.1 = some (tyJ9 k) := by decide +kernel
abbrev cJ9_max_7cf53 : ByteArray := prog_14_method_65_code
def yJ9_max_7cf53 : MethodName := ⟨RJ9, "max", "(II)I"⟩
abbrev cJ9_min_7cf53 : ByteArray := prog_14_method_69_code
def yJ9_min_7cf53 : MethodName := ⟨RJ9, "min", "(II)I"⟩
def RJ0 : String := "java/lang/String"
def TJ0 : u_T := fun k => match k with
  | _ => ("", "", "", false)
def tyJ0 : Nat → FieldType := fun k => match k with
  | _ => .int
abbrev wsJ00 : List Cond := u_ws RJ0 TJ0 0
theorem nmJ0 : ∀ a, a < 0 → ∀ b, b < 0 → a ≠ b → (TJ0 a).2.1 ≠ (TJ0 b).2.1 := by decide +kernel
theorem tyJ0_ok : ∀ k, k < 0 → parseFieldDescriptor (TJ0 k).2.2.1 = some (tyJ0 k) := by decide +kernel
abbrev cJ0_length_8abf5 : ByteArray := prog_15_method_54_code
def yJ0_length_8abf5 : MethodName := ⟨RJ0, "length", "()I"⟩
abbrev cJ0_charAt_5068e : ByteArray := prog_15_method_56_code
def yJ0_charAt_5068e : MethodName := ⟨RJ0, "charAt", "(I)C"⟩
abbrev cJ0_indexOf_0f7a4 : ByteArray := prog_15_method_79_code
def yJ0_indexOf_0f7a4 : MethodName := ⟨RJ0, "indexOf", "(I)I"⟩
abbrev cJ0_indexOf_7cf53 : ByteArray := prog_15_method_80_code
def yJ0_indexOf_7cf53 : MethodName := ⟨RJ0, "indexOf", "(II)I"⟩
abbrev cJ0_coder_7d493 : ByteArray := prog_15_method_152_code
def yJ0_coder_7d493 : MethodName := ⟨RJ0, "coder", "()B"⟩
abbrev cJ0_isLatin1_aae02 : ByteArray := prog_15_method_154_code
def yJ0_isLatin1_aae02 : MethodName := ⟨RJ0, "isLatin1", "()Z"⟩
abbrev cJ0_checkIndex_df160 : ByteArray := prog_15_method_155_code
def yJ0_checkIndex_df160 : MethodName := ⟨RJ0, "checkIndex", "(II)V"⟩
abbrev cJ0_checkBoundsBeginEnd_23922 : ByteArray := prog_15_method_158_code
def yJ0_checkBoundsBeginEnd_23922 : MethodName := ⟨RJ0, "checkBoundsBeginEnd", "(III)V"⟩
def RJ1 : String := "java/lang/StringLatin1"
def TJ1 : u_T := fun k => match k with
  | _ => ("", "", "", false)
def tyJ1 : Nat → FieldType := fun k => match k with
  | _ => .int
abbrev wsJ10 : List Cond := u_ws RJ1 TJ1 0
theorem nmJ1 : ∀ a, a < 0 → ∀ b, b < 0 → a ≠ b → (TJ1 a).2.1 ≠ (TJ1 b).2.1 := by decide +kernel
theorem tyJ1_ok : ∀ k, k < 0 → parseFieldDescriptor (TJ1 k).2.2.1 = some (tyJ1 k) := by decide +kernel
abbrev cJ1_charAt_3b067 : ByteArray := prog_16_method_2_code
def yJ1_charAt_3b067 : MethodName := ⟨RJ1, "charAt", "([BI)C"⟩
abbrev cJ1_canEncode_9a6ad : ByteArray := prog_16_method_4_code
def yJ1_canEncode_9a6ad : MethodName := ⟨RJ1, "canEncode", "(I)Z"⟩
abbrev cJ1_indexOf_4cfef : ByteArray := prog_16_method_22_code
def yJ1_indexOf_4cfef : MethodName := ⟨RJ1, "indexOf", "([BIII)I"⟩
abbrev cJ1_indexOfChar_4cfef : ByteArray := prog_16_method_23_code
def yJ1_indexOfChar_4cfef : MethodName := ⟨RJ1, "indexOfChar", "([BIII)I"⟩
def RJ2 : String := "java/lang/StringUTF16"
def TJ2 : u_T := fun k => match k with
  | _ => ("", "", "", false)
def tyJ2 : Nat → FieldType := fun k => match k with
  | _ => .int
abbrev wsJ20 : List Cond := u_ws RJ2 TJ2 0
theorem nmJ2 : ∀ a, a < 0 → ∀ b, b < 0 → a ≠ b → (TJ2 a).2.1 ≠ (TJ2 b).2.1 := by decide +kernel
theorem tyJ2_ok : ∀ k, k < 0 → parseFieldDescriptor (TJ2 k).2.2.1 = some (tyJ2 k) := by decide +kernel
abbrev cJ2_getChar_3b067 : ByteArray := prog_17_method_5_code
def yJ2_getChar_3b067 : MethodName := ⟨RJ2, "getChar", "([BI)C"⟩
abbrev cJ2_length_9d52b : ByteArray := prog_17_method_6_code
def yJ2_length_9d52b : MethodName := ⟨RJ2, "length", "([B)I"⟩
abbrev cJ2_indexOf_4cfef : ByteArray := prog_17_method_40_code
def yJ2_indexOf_4cfef : MethodName := ⟨RJ2, "indexOf", "([BIII)I"⟩
abbrev cJ2_indexOfChar_4cfef : ByteArray := prog_17_method_47_code
def yJ2_indexOfChar_4cfef : MethodName := ⟨RJ2, "indexOfChar", "([BIII)I"⟩
abbrev cJ2_indexOfCharUnsafe_4cfef : ByteArray := prog_17_method_48_code
def yJ2_indexOfCharUnsafe_4cfef : MethodName := ⟨RJ2, "indexOfCharUnsafe", "([BIII)I"⟩
abbrev cJ2_indexOfSupplementary_4cfef : ByteArray := prog_17_method_49_code
def yJ2_indexOfSupplementary_4cfef : MethodName := ⟨RJ2, "indexOfSupplementary", "([BIII)I"⟩
abbrev cJ2_charAt_3b067 : ByteArray := prog_17_method_83_code
def yJ2_charAt_3b067 : MethodName := ⟨RJ2, "charAt", "([BI)C"⟩
abbrev cJ2_checkIndex_2214a : ByteArray := prog_17_method_91_code
def yJ2_checkIndex_2214a : MethodName := ⟨RJ2, "checkIndex", "(I[B)V"⟩
abbrev cJ2_checkBoundsBeginEnd_d044e : ByteArray := prog_17_method_93_code
def yJ2_checkBoundsBeginEnd_d044e : MethodName := ⟨RJ2, "checkBoundsBeginEnd", "(II[B)V"⟩
def RJ10 : String := "java/lang/System"
def TJ10 : u_T := fun k => match k with
  | _ => ("", "", "", false)
def tyJ10 : Nat → FieldType := fun k => match k with
  | _ => .int
abbrev wsJ100 : List Cond := u_ws RJ10 TJ10 0
theorem nmJ10 : ∀ a, a < 0 → ∀ b, b < 0 → a ≠ b → (TJ10 a).2.1 ≠ (TJ10 b).2.1 := by decide +kernel
theorem tyJ10_ok : ∀ k, k < 0 → parseFieldDescriptor (TJ10 k).2.2.1 = some (tyJ10 k) := by decide +kernel
def RJ3 : String := "jdk/internal/util/Preconditions"
def TJ3 : u_T := fun k => match k with
  | _ => ("", "", "", false)
def tyJ3 : Nat → FieldType := fun k => match k with
  | _ => .int
abbrev wsJ30 : List Cond := u_ws RJ3 TJ3 0
theorem nmJ3 : ∀ a, a < 0 → ∀ b, b < 0 → a ≠ b → (TJ3 a).2.1 ≠ (TJ3 b).2.1 := by decide +kernel
theorem tyJ3_ok : ∀ k, k < 0 → parseFieldDescriptor (TJ3 k).2.2.1 = some (tyJ3 k) := by decide +kernel
abbrev cJ3_checkIndex_8e157 : ByteArray := prog_19_method_11_code
def yJ3_checkIndex_8e157 : MethodName := ⟨RJ3, "checkIndex", "(IILjava/util/function/BiFunction;)I"⟩
abbrev cJ3_checkFromToIndex_8c36e : ByteArray := prog_19_method_12_code
def yJ3_checkFromToIndex_8c36e : MethodName := ⟨RJ3, "checkFromToIndex", "(IIILjava/util/function/BiFunction;)I"⟩
def RL : String := "FrothShireLaw"
abbrev cL_law : ByteArray := code
def yL_law : MethodName := ⟨RL, "law", "([I)Z"⟩
